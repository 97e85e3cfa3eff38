/-! ===== meet ===== -/
theorem DP_ge {N : HP} (hN : NetOK N) {rs : List (Nat × Nat)} {lim D ask frm : Nat} (ha : ask < 400000) {E R : Nat → Nat → Nat → Nat} (u : DP N rs lim D ask frm E R) : ∀ r, r ≤ 3 → ∀ f s, ask ≤ E r f s
  | 0, _, f, s => by
    have hv := NVRe
    rw [u.1 f s]
    split <;> omega
  | r + 1, hr, f, s => by
    have hv := NVRe
    have ih := DP_ge hN ha u r (by omega)
    have hR : ∀ f s, ask ≤ R r f s := by
      intro f s
      rcases (u.2.1 r f s (by omega)).1 with q | q
      · omega
      · rcases q with ⟨_, _, e⟩ | ⟨w, w1, w2, w3, e⟩
        · have := ih f s
          omega
        · have h1 := ih f (tn (N 23 w))
          have h2 := wB_ge hN w1 (E r f (tn (N 23 w))) ask
          rw [e, wE, if_pos w3]
          omega
    rcases (u.2.2 r f s (by omega)).1 with q | q
    · omega
    · obtain ⟨v, t, d, i, j, f', wt, _, h3, _, _, e⟩ := q
      have h4 := lT_cT hN (t := t) d wt.2.1 wt.2.2.1
      have h5 := hR f' (sA N t i)
      omega
theorem so0_ge {N : HP} (hN : NetOK N) {rs : List (Nat × Nat)} {lim D ask frm : Nat} (ha : ask < 400000) {E R : Nat → Nat → Nat → Nat} (u : DP N rs lim D ask frm E R) (s : Nat) : ask ≤ so0 N lim ask E s := by
  have hv := NVRe
  have bg : ∀ s, ask ≤ bst E s 4 := by
    intro s
    rcases bst_of (E := E) (s := s) 4 with q | ⟨r, h1, h2⟩
    · omega
    · have := DP_ge hN ha u r (by omega) 0 s
      omega
  unfold so0
  rcases sx_of (N := N) (lim := lim) (ask := ask) (b := fun q => bst E q 4) (s := s) (nW N) with q | ⟨w, w1, w2, w3, w4⟩
  · rw [q]
    exact bg s
  · rw [w4, wE]
    split
    · have h1 := bg (tn (N 23 w))
      have h2 := wB_ge hN w1 (bst E (tn (N 23 w)) 4) ask
      omega
    · omega
theorem maskM : ∀ n, n < 13 → ∀ i, i < 32 → bt (((1 <<< (nI n &&& 31)) - 1) ^^^ (-1)) i = decide (n ≤ i) := by decide +kernel
theorem mask_c {x : Int32} {n : Nat} (hn : n < 13) : ((Int32.toUInt32 x >>> (Int32.toUInt32 (nI n) &&& Int32.toUInt32 31)).toInt32) = 0 ↔ ∀ i, n ≤ i → bt x i = false := by
  constructor
  · intro e i hi
    have h1 := b_ushr n (by omega) x (i - n)
    rw [e, b_0, show n + (i - n) = i by omega] at h1
    exact h1.symm
  · intro q
    refine b_ext (fun i hi => ?_)
    rw [b_ushr n (by omega) x i, b_0]
    exact q _ (by omega)
theorem mask_m {x : Int32} {n : Nat} (hn : n < 13) : (x &&& (((1 <<< (nI n &&& 31)) - 1) ^^^ (-1))) = 0 ↔ ∀ i, n ≤ i → bt x i = false := by
  constructor
  · intro e i hi
    rcases Nat.lt_or_ge i 32 with q | q
    · have h1 := b_and x (((1 <<< (nI n &&& 31)) - 1) ^^^ (-1)) i
      rw [e, b_0, maskM n hn i q, decide_eq_true hi, Bool.and_true] at h1
      exact h1.symm
    · exact b_big q
  · intro q
    refine b_ext (fun i hi => ?_)
    rw [b_and, b_0, maskM n hn i hi]
    by_cases c : n ≤ i
    · rw [q i c, Bool.false_and]
    · rw [decide_eq_false c, Bool.and_false]
def mxm (sg : Nat → Nat → Nat) (x : Int32) (z : Nat) : Nat → Nat → Nat
  | 0, _ => z
  | n + 1, q => if bt x n = true then (if mxm sg x z n q < sg n q then sg n q else mxm sg x z n q) else mxm sg x z n q
theorem mxm_eq {sg : Nat → Nat → Nat} {x : Int32} {ask : Nat} (hg : ∀ i q, ask ≤ sg i q) (q : Nat) : ∀ n, ((∀ i, i < n → bt x i = false) ∧ mxm sg x ask n q = ask ∧ mxm sg x 0 n q = 0) ∨ (mxm sg x ask n q = mxm sg x 0 n q ∧ ask ≤ mxm sg x ask n q)
  | 0 => Or.inl ⟨fun i hi => by omega, rfl, rfl⟩
  | n + 1 => by
    have ih := mxm_eq (x := x) hg q n
    have h1 := hg n q
    simp only [mxm]
    cases c : bt x n
    · rw [if_neg (by decide), if_neg (by decide)]
      rcases ih with ⟨a, b⟩ | a
      · refine Or.inl ⟨fun i hi => ?_, b⟩
        by_cases e : i = n
        · rw [e]; exact c
        · exact a i (by omega)
      · exact Or.inr a
    · rw [if_pos rfl, if_pos rfl]
      right
      rcases ih with ⟨_, b1, b2⟩ | ⟨a1, a2⟩
      · rw [b1, b2]
        refine ⟨?_, ?_⟩ <;> (split <;> (try split) <;> omega)
      · rw [← a1]
        refine ⟨rfl, ?_⟩
        split <;> omega
theorem mxm_le {sg : Nat → Nat → Nat} {x : Int32} {z : Nat} (hz : z ≤ NVR) (hg : ∀ i q, sg i q ≤ NVR) (q : Nat) : ∀ n, mxm sg x z n q ≤ NVR
  | 0 => hz
  | n + 1 => by
    have ih := mxm_le (x := x) hz hg q n
    have h1 := hg n q
    simp only [mxm]
    split
    · split <;> omega
    · exact ih
theorem maxI {a b : Nat} (ha : a < 2147483648) (hb : b < 2147483648) : (if nI a < nI b then nI b else nI a) = nI (if a < b then b else a) := by
  by_cases c : a < b
  · rw [if_pos c, if_pos ((ltI ha hb).mpr c)]
  · rw [if_neg c, if_neg (fun q => c ((ltI ha hb).mp q))]
def fb (g : Nat → Nat) : Nat → Option Nat
  | 0 => none
  | n + 1 => match fb g n with
    | none => if g n < NVR then some n else none
    | some b => if g n < g b then some n else some b
theorem fb_lt {g : Nat → Nat} : ∀ n b, fb g n = some b → b < n ∧ g b < NVR
  | 0, b, e => by cases e
  | n + 1, b, e => by
    simp only [fb] at e
    cases c : fb g n with
    | none =>
      rw [c] at e
      dsimp only at e
      split at e
      · cases e
        rename_i q
        exact ⟨by omega, q⟩
      · cases e
    | some b' =>
      have ih := fb_lt n b' c
      rw [c] at e
      dsimp only at e
      split at e
      · cases e
        rename_i q
        exact ⟨by omega, by omega⟩
      · cases e
        exact ⟨by omega, ih.2⟩
theorem c_best {G : GA} {h : HP} {n : Nat} (hn : n ≤ 12) (e2 : h 2 3 = nI n) {g : Nat → Nat} (hg : ∀ q, g q ≤ NVR) (he : ∀ q, q < n → h 1 q = nI (g q)) {K : Int32 → HP → Prop} (k1 : fb g n = none → K (-1) h) (k2 : ∀ b, fb g n = some b → K (nI b) (up h 0 10 (nI (g b)))) : ∀ m i, i + m = n → H_Desk_meet_46 G h (o2i (fb g i)) (nI i) K
  | 0, i, e => by
    have hv := NVRe
    refine s_Desk_meet_46 _ _ _ _ _ ?_
    rw [e2, if_pos (by rw [leI (by omega) (by omega)]; omega), show i = n by omega]
    cases c : fb g n with
    | none =>
      show if (-1 : Int32) < 0 then _ else _
      rw [if_pos (by decide)]
      exact k1 c
    | some b =>
      have hb := fb_lt n b c
      show if nI b < 0 then _ else _
      rw [if_neg (nIneg (by omega))]
      refine ⟨in_nI (by omega) (by decide), ?_⟩
      intro h2 eh
      rw [show (o2i (some b)) = nI b from rfl, tnI (by omega), he b hb.1] at eh
      subst eh
      exact k2 b c
  | m + 1, i, e => by
    have hv := NVRe
    have ih := c_best (G := G) hn e2 hg he k1 k2 m (i + 1) (by omega)
    have hgi := hg i
    refine s_Desk_meet_46 _ _ _ _ _ ?_
    rw [e2, if_neg (by rw [leI (by omega) (by omega)]; omega), tnI (by omega), he i (by omega), nI_1]
    refine ⟨in_nI (by omega) (by decide), ?_⟩
    rw [fb] at ih
    cases c : fb g i with
    | none =>
      rw [c] at ih
      dsimp only at ih
      rw [show o2i none = -1 from rfl, if_neg (by decide), show (1000000000 : Int32) = nI NVR from rfl]
      by_cases q : g i < NVR
      · rw [if_neg (by rw [leI (by omega) (by omega)]; omega)]
        rw [if_pos q] at ih
        exact ih
      · rw [if_pos (by rw [leI (by omega) (by omega)]; omega)]
        rw [if_neg q] at ih
        exact ih
    | some b =>
      have hb := fb_lt i b c
      have hgb := hg b
      rw [c] at ih
      dsimp only at ih
      rw [show o2i (some b) = nI b from rfl, if_pos (nIpos (by omega)), tnI (by omega), he b (by omega)]
      refine ⟨in_nI (by omega) (by decide), ?_⟩
      by_cases q : g i < g b
      · rw [if_neg (by rw [leI (by omega) (by omega)]; omega)]
        rw [if_pos q] at ih
        exact ih
      · rw [if_pos (by rw [leI (by omega) (by omega)]; omega)]
        rw [if_neg q] at ih
        exact ih
theorem cm_best {G : GA} {h : HP} {n : Nat} (hn : n ≤ 12) (e2 : h 67 0 = nI n) {g : Nat → Nat} (hg : ∀ q, g q ≤ NVR) (he : ∀ q, q < n → h 111 q = nI (g q)) {K : Int32 → HP → Prop} (k1 : fb g n = none → K (-1) h) (k2 : ∀ b, fb g n = some b → K (nI b) (up h 67 58 (nI (g b)))) : ∀ m i, i + m = n → H_Model_meet_178 G h (o2i (fb g i)) (nI i) K
  | 0, i, e => by
    have hv := NVRe
    refine s_Model_meet_178 _ _ _ _ _ ?_
    rw [e2, if_pos (by rw [leI (by omega) (by omega)]; omega), show i = n by omega]
    cases c : fb g n with
    | none =>
      show if (-1 : Int32) < 0 then _ else _
      rw [if_pos (by decide)]
      exact k1 c
    | some b =>
      have hb := fb_lt n b c
      show if nI b < 0 then _ else _
      rw [if_neg (nIneg (by omega))]
      refine ⟨in_nI (by omega) (by decide), ?_⟩
      intro h2 eh
      rw [show (o2i (some b)) = nI b from rfl, tnI (by omega), he b hb.1] at eh
      subst eh
      exact k2 b c
  | m + 1, i, e => by
    have hv := NVRe
    have ih := cm_best (G := G) hn e2 hg he k1 k2 m (i + 1) (by omega)
    have hgi := hg i
    refine s_Model_meet_178 _ _ _ _ _ ?_
    rw [e2, if_neg (by rw [leI (by omega) (by omega)]; omega), tnI (by omega), he i (by omega), nI_1, show (1000000000 : Int32) = nI NVR from rfl]
    refine ⟨in_nI (by omega) (by decide), ?_⟩
    rw [fb] at ih
    cases c : fb g i with
    | none =>
      rw [c] at ih
      dsimp only at ih
      by_cases q : g i < NVR
      · rw [if_neg (by rw [leI (by omega) (by omega)]; omega), show o2i none = -1 from rfl, if_pos (by decide)]
        rw [if_pos q] at ih
        exact ih
      · rw [if_pos (by rw [leI (by omega) (by omega)]; omega)]
        rw [if_neg q] at ih
        exact ih
    | some b =>
      have hb := fb_lt i b c
      have hgb := hg b
      rw [c] at ih
      dsimp only at ih
      by_cases qn : g i < NVR
      · rw [if_neg (by rw [leI (by omega) (by omega)]; omega), show o2i (some b) = nI b from rfl, if_neg (nIneg (by omega)), tnI (by omega), he b (by omega)]
        refine ⟨in_nI (by omega) (by decide), ?_⟩
        by_cases q : g i < g b
        · rw [if_neg (by rw [leI (by omega) (by omega)]; omega)]
          rw [if_pos q] at ih
          exact ih
        · rw [if_pos (by rw [leI (by omega) (by omega)]; omega)]
          rw [if_neg q] at ih
          exact ih
      · rw [if_pos (by rw [leI (by omega) (by omega)]; omega)]
        rw [if_neg (by omega)] at ih
        exact ih
