/-! ===== latest ===== -/
theorem MO.ex (S : Nat → Prop) : ∃ x, MO S x := by
  have key : ∀ n, (∃ y, y ≤ n ∧ S y) → ∃ x, S x ∧ ∀ y, S y → x ≤ y := by
    intro n
    induction n with
    | zero =>
      rintro ⟨y, h1, h2⟩
      rw [show y = 0 by omega] at h2
      exact ⟨0, h2, fun _ _ => Nat.zero_le _⟩
    | succ n ih =>
      rintro ⟨y, h1, h2⟩
      rcases Classical.em (∃ y, y ≤ n ∧ S y) with q | q
      · exact ih q
      · refine ⟨y, h2, fun z hz => ?_⟩
        rcases Nat.lt_or_ge z (n + 1) with w | w
        · exact absurd ⟨z, by omega, hz⟩ q
        · omega
  rcases Classical.em (∃ y, S y) with ⟨y, q⟩ | q
  · obtain ⟨x, h1, h2⟩ := key y ⟨y, Nat.le_refl _, q⟩
    exact ⟨x, Or.inr h1, h2⟩
  · exact ⟨NVR, Or.inl rfl, fun y hy => absurd ⟨y, hy⟩ q⟩
theorem MO.ex2 (S : Nat → Nat → Nat → Prop) : ∃ F : Nat → Nat → Nat, ∀ f s, MO (S f s) (F f s) := by
  have h1 : ∀ f, ∃ g : Nat → Nat, ∀ s, MO (S f s) (g s) := fun f => Classical.axiomOfChoice (fun s => MO.ex (S f s))
  exact Classical.axiomOfChoice h1
theorem DP_ex (N : HP) (rs : List (Nat × Nat)) (lim D ask frm : Nat) : ∃ E R, DP N rs lim D ask frm E R := by
  obtain ⟨R0, hR0⟩ := MO.ex2 (SR N ask 0 (E00 ask frm))
  obtain ⟨E1, hE1⟩ := MO.ex2 (SE N rs lim D R0 (fun _ _ => True))
  obtain ⟨R1, hR1⟩ := MO.ex2 (SR N ask 1 E1)
  obtain ⟨E2, hE2⟩ := MO.ex2 (SE N rs lim D R1 (fun _ _ => True))
  obtain ⟨R2, hR2⟩ := MO.ex2 (SR N ask 2 E2)
  obtain ⟨E3, hE3⟩ := MO.ex2 (SE N rs lim D R2 (fun _ _ => True))
  refine ⟨fun r => if r = 0 then E00 ask frm else if r = 1 then E1 else if r = 2 then E2 else E3, fun r => if r = 0 then R0 else if r = 1 then R1 else R2, fun f s => rfl, fun r f s hr => ?_, fun r f s hr => ?_⟩
  · rcases (show r = 0 ∨ r = 1 ∨ r = 2 by omega) with e | e | e <;> subst e
    · exact hR0 f s
    · exact hR1 f s
    · exact hR2 f s
  · rcases (show r = 0 ∨ r = 1 ∨ r = 2 by omega) with e | e | e <;> subst e
    · exact hE1 f s
    · exact hE2 f s
    · exact hE3 f s
theorem so0_mono {N : HP} (hN : NetOK N) {rs : List (Nat × Nat)} {lim a a' frm : Nat} (hl : lim ≤ 400000) (ha : a ≤ a') (ha' : a' < 400000) {E R E' R' : Nat → Nat → Nat → Nat} (u : DP N rs lim 0 a frm E R) (u' : DP N rs lim 0 a' frm E' R') (s : Nat) : so0 N lim a E s ≤ so0 N lim a' E' s := by
  have hv := NVRe
  have te := fun r (h : r ≤ 3) => u.up.te hl (by omega) r h
  have bok : ∀ s, bst E s 4 = NVR ∨ bst E s 4 < 400000 := fun s => bst_ok 4 (fun r hr => te r (by omega))
  have hE := DP_mono hN hl ha ha' u u'
  have bm : ∀ s, bst E s 4 ≤ bst E' s 4 := by
    intro s
    rcases bst_of (E := E') (s := s) 4 with q | ⟨r, h1, h2⟩
    · have := bok s
      omega
    · have h3 := bst_le (E := E) (s := s) 4 r h1
      have h4 := (hE r (by omega)).1 0 s
      omega
  have le := sx_le (N := N) (lim := lim) (ask := a) (b := fun q => bst E q 4) (s := s) (nW N)
  unfold so0
  rcases sx_of (N := N) (lim := lim) (ask := a') (b := fun q => bst E' q 4) (s := s) (nW N) with q | ⟨w, w1, w2, w3, w4⟩
  · rw [q]
    exact Nat.le_trans le.1 (bm s)
  · rw [w4]
    have h5 := wE_mono hN w1 (bm (tn (N 23 w))) ha (bok _) (by omega)
    exact Nat.le_trans (le.2 w w1 w2 (Nat.lt_of_le_of_lt h5 w3)) h5
/-- one who asks then comes in time -/
def iT (N : HP) (rs : List (Nat × Nat)) (lim frm s : Nat) (x4 : Int32) (ask : Nat) : Prop := ∃ E R, DP N rs lim 0 ask frm E R ∧ so0 N lim ask E s < NVR ∧ (so0 N lim ask E s : Int) ≤ x4.toInt
theorem iT_mono {N : HP} (hN : NetOK N) {rs : List (Nat × Nat)} {lim frm s : Nat} {x4 : Int32} (hl : lim ≤ 400000) {a a' : Nat} (ha : a ≤ a') (ha' : a' < 400000) (h : iT N rs lim frm s x4 a') : iT N rs lim frm s x4 a := by
  obtain ⟨E', R', u', h1, h2⟩ := h
  obtain ⟨E, R, u⟩ := DP_ex N rs lim 0 a frm
  have := so0_mono hN hl ha ha' u u' s
  exact ⟨E, R, u, by omega, by omega⟩
theorem iT_iff {N : HP} (hN : NetOK N) {rs : List (Nat × Nat)} {lim frm s : Nat} {x4 : Int32} (hl : lim ≤ 400000) {a : Nat} (ha : a < 400000) {E R : Nat → Nat → Nat → Nat} (u : DP N rs lim 0 a frm E R) : iT N rs lim frm s x4 a ↔ so0 N lim a E s < NVR ∧ (so0 N lim a E s : Int) ≤ x4.toInt := by
  constructor
  · rintro ⟨E', R', u', h1, h2⟩
    have := so0_mono hN hl (Nat.le_refl a) ha u u' s
    exact ⟨by omega, by omega⟩
  · rintro ⟨h1, h2⟩
    exact ⟨E, R, u, h1, h2⟩
theorem shr1 : ∀ k, k < 12 → nI (2 ^ (k + 1) / 2) >>> (1 &&& 31) = nI (2 ^ k / 2) := by decide
theorem c_latest {G : GA} {h : HP} (r : Rel h) {d frm s : Nat} {x4 : Int32} {rs : List (Nat × Nat)} {lim : Nat} (hd : d < 100) (hl : lim ≤ 400000) (hf : frm < nS h) (hs : s < nS h) (hrs : rs.length ≤ 132) (hok : RsOK rs) (hok2 : ∀ (v t d : Nat), rs[v]? = some (t, d) → t < 24) {K : Int32 → HP → Prop}
    (kk : ∀ c h', c ≤ 1440 → (c = 0 ∨ iT h rs lim frm s x4 (1440 * d + (c - 1))) → (1440 ≤ c ∨ ¬ iT h rs lim frm s x4 (1440 * d + c)) → Agr [42, 43, 44, 45, 46, 47, 48, 49, 50, 51, 52, 53] h h' → K (nI c - 1) h') :
    ∀ k c h', k ≤ 11 → c ≤ 1440 → (c = 0 ∨ iT h rs lim frm s x4 (1440 * d + (c - 1))) → (1440 ≤ c + 2 ^ k - 1 ∨ ¬ iT h rs lim frm s x4 (1440 * d + (c + 2 ^ k - 1))) → Agr [42, 43, 44, 45, 46, 47, 48, 49, 50, 51, 52, 53] h h' → On h' h → h' 42 6 = nI lim → RA h h' rs → H_Desk_latest_57 G h' (nI frm) (nI s) x4 (nI (1440 * d)) (nI c - 1) (nI (2 ^ k / 2)) K
  | 0, c, h', hk, hc, i1, i2, ag, on, e42, ra => by
    refine s_Desk_latest_57 _ _ _ _ _ _ _ _ _ ?_
    rw [if_pos (by decide)]
    exact kk c h' hc i1 i2 ag
  | k + 1, c, h', hk, hc, i1, i2, ag, on, e42, ra => by
    have hv := NVRe
    have hS := nS_le r.1
    have hp : 1 ≤ 2 ^ k := Nat.one_le_two_pow
    have hp2 : 2 ^ (k + 1) = 2 * 2 ^ k := by rw [Nat.pow_succ]; omega
    have hpm : 2 ^ k ≤ 2 ^ 10 := Nat.pow_le_pow_right (by decide) (by omega)
    have hpm : 2 ^ k ≤ 1024 := hpm
    have e1 : 2 ^ (k + 1) / 2 = 2 ^ k := by omega
    refine s_Desk_latest_57 _ _ _ _ _ _ _ _ _ ?_
    rw [shr1 k (by omega)]
    have one : (1 : Int32).toInt = 1 := rfl
    have ec : (nI c - 1).toInt = (c : Int) - 1 := by rw [toInt_sub (by rw [toInt_nI (by omega), one]; omega) (by rw [toInt_nI (by omega), one]; omega), toInt_nI (by omega), one]
    have es : nI c - 1 + nI (2 ^ (k + 1) / 2) = nI (c + 2 ^ k - 1) := by
      apply Int32.toInt_inj.mp
      rw [e1, toInt_add (by rw [ec, toInt_nI (by omega)]; omega) (by rw [ec, toInt_nI (by omega)]; omega), ec, toInt_nI (by omega), toInt_nI (by omega)]
      omega
    rw [es, if_neg (by rw [show (0 : Int32) = nI 0 from rfl, leI (by omega) (by omega)]; omega), show (1440 : Int32) = nI 1440 from rfl]
    have ih := c_latest (G := G) r hd hl hf hs hrs hok hok2 kk k
    by_cases c1 : 1440 ≤ c + 2 ^ k - 1
    · rw [if_pos (by rw [leI (by omega) (by omega)]; exact c1)]
      exact ih c h' (by omega) hc i1 (Or.inl c1) ag on e42 ra
    rw [if_neg (by rw [leI (by omega) (by omega)]; exact c1), nI_add]
    refine c_askSoonest r.1 hl (by omega) hrs hok hok2 (by omega) on e42 ra (fun h1 E0 R0 dp sc ag1 e51 => ?_)
    rw [tnI (by omega), e51 s hs, show (1000000000 : Int32) = nI NVR from rfl]
    refine ⟨in_nI (by omega) (by decide), ?_⟩
    have hb := so0_ok (N := h) (ask := 1440 * d + (c + 2 ^ k - 1)) (fun r hr => dp.up.te hl (by omega) r hr) hl s
    have hi := iT_iff (s := s) (x4 := x4) r.1 hl (by omega) dp
    have ag2 := ag.trans (ag1.mono (by decide))
    have no : (¬ iT h rs lim frm s x4 (1440 * d + (c + 2 ^ k - 1))) → H_Desk_latest_57 G h1 (nI frm) (nI s) x4 (nI (1440 * d)) (nI c - 1) (nI (2 ^ k / 2)) K := fun q => ih c h1 (by omega) hc i1 (Or.inr q) ag2 sc.1 sc.2.2.2.1 sc.2.2.2.2
    by_cases c2 : so0 h lim (1440 * d + (c + 2 ^ k - 1)) E0 s < NVR
    · rw [if_neg (by rw [leI (by omega) (by omega)]; omega)]
      by_cases c3 : (so0 h lim (1440 * d + (c + 2 ^ k - 1)) E0 s : Int) ≤ x4.toInt
      · rw [if_neg (by rw [fa_lt, toInt_nI (by omega)]; omega)]
        have q := ih (c + 2 ^ k) h1 (by omega) (by omega) (Or.inr (by exact hi.mpr ⟨c2, c3⟩)) (by rw [show c + 2 ^ k + 2 ^ k - 1 = c + 2 ^ (k + 1) - 1 by omega]; exact i2) ag2 sc.1 sc.2.2.2.1 sc.2.2.2.2
        rw [show nI (c + 2 ^ k) - 1 = nI (c + 2 ^ k - 1) by rw [show c + 2 ^ k = (c + 2 ^ k - 1) + 1 by omega, sub1]; rfl] at q
        exact q
      · rw [if_pos (by rw [fa_lt, toInt_nI (by omega)]; omega)]
        exact no (fun z => c3 (hi.mp z).2)
    · rw [if_pos (by rw [leI (by omega) (by omega)]; omega)]
      exact no (fun z => c2 (hi.mp z).1)
theorem cm_inTime {G : GA} {N h : HP} (hN : NetOK N) (hP : PlOK N) {rs : List (Nat × Nat)} {lim ask frm s : Nat} {x4 : Int32} (hl : lim ≤ 400000) (ha : ask < lim) (hrs : rs.length ≤ 132) (hok : RsOK rs) (hok2 : ∀ (v t d : Nat), rs[v]? = some (t, d) → t < nT N) (hf : frm < nS N) (hs : s < nS N) (hm : OnM h N) (hlim : h 67 32 = nI lim) (rm : RM N h rs) {K : Bool → HP → Prop}
    (kk : ∀ b h', (b = true ↔ iT N rs lim frm s x4 ask) → OnM h' N → h' 67 32 = nI lim → RM N h' rs → AM qC qT h h' → K b h') : P_Model_isInTime G h (nI frm) (nI s) (nI ask) x4 K := by
  have hv := NVRe
  have hS := nS_le hN
  refine s_Model_isInTime_0 _ _ _ _ _ _ _ ?_
  refine cm_go hN hP hl (by omega) hrs hok hok2 hf hm hlim rm (fun h1 E R dp gc am em ym => ?_)
  refine cm_soonestOf hN (by omega) (by omega) (by omega) hl (fun r hr => dp.up.te hl (by omega) r hr) gc (fun i hi => ⟨fun e => by subst e; funext f q; exact dp.1 f q, fun e => em i e hi⟩) (fun x mo hx => ?_)
  obtain ⟨E0, R0, u0⟩ := DP_ex N rs lim 0 ask frm
  have ex := soon_eq hN ha hl hok dp u0 mo hx
  have hi := iT_iff (s := s) (x4 := x4) hN hl (by omega) u0
  rw [← ex] at hi
  have am2 := am.mono (S' := qC) (T' := qT) (by decide) (by decide)
  rw [show (1000000000 : Int32) = nI NVR from rfl]
  by_cases c2 : x < NVR
  · rw [if_neg (by rw [leI (by omega) (by omega)]; omega)]
    by_cases c3 : (x : Int) ≤ x4.toInt
    · rw [if_neg (by rw [fa_lt, toInt_nI (by omega)]; omega)]
      exact kk true h1 ⟨fun _ => hi.mpr ⟨c2, c3⟩, fun _ => rfl⟩ gc.1 gc.2.2.1 gc.2.2.2.2 am2
    · rw [if_pos (by rw [fa_lt, toInt_nI (by omega)]; omega)]
      exact kk false h1 ⟨(fun q => by cases q), fun q => absurd (hi.mp q).2 c3⟩ gc.1 gc.2.2.1 gc.2.2.2.2 am2
  · rw [if_pos (by rw [leI (by omega) (by omega)]; omega)]
    exact kk false h1 ⟨(fun q => by cases q), fun q => absurd (hi.mp q).1 c2⟩ gc.1 gc.2.2.1 gc.2.2.2.2 am2
theorem cm_latest {G : GA} {N : HP} (hN : NetOK N) (hP : PlOK N) {rs : List (Nat × Nat)} {d frm s : Nat} {x4 : Int32} (hd : d < 100) (hrs : rs.length ≤ 132) (hok : RsOK rs) (hok2 : ∀ (v t d : Nat), rs[v]? = some (t, d) → t < nT N) (hf : frm < nS N) (hs : s < nS N) {h0 : HP} {K : Int32 → HP → Prop}
    (kk : ∀ lo h', lo < 1440 → iT N rs (1440 * (d + 2)) frm s x4 (1440 * d + lo) → (lo + 1 = 1440 ∨ ¬ iT N rs (1440 * (d + 2)) frm s x4 (1440 * d + (lo + 1))) → AM qC qT h0 h' → K (nI lo) h') :
    ∀ m lo hi h, hi - lo ≤ m → lo < hi → hi ≤ 1440 → iT N rs (1440 * (d + 2)) frm s x4 (1440 * d + lo) → (hi = 1440 ∨ ¬ iT N rs (1440 * (d + 2)) frm s x4 (1440 * d + hi)) → OnM h N → h 67 32 = nI (1440 * (d + 2)) → RM N h rs → AM qC qT h0 h → H_Model_latest_58 G h (nI frm) (nI s) (nI d) x4 (nI lo) (nI hi) K
  | 0, lo, hi, h, e, h1, h2, i1, i2, hm, hlim, rm, am => by omega
  | m + 1, lo, hi, h, e, h1, h2, i1, i2, hm, hlim, rm, am => by
    refine s_Model_latest_58 _ _ _ _ _ _ _ _ _ ?_
    have es : nI hi - nI lo = nI (hi - lo) := pk_sub (by omega)
    rw [es]
    by_cases c : hi - lo ≤ 1
    · rw [if_pos (by rw [show (1 : Int32) = nI 1 from rfl, leI (by omega) (by omega)]; exact c)]
      have e1 : hi = lo + 1 := by omega
      rw [e1] at i2
      exact kk lo h (by omega) i1 i2 am
    rw [if_neg (by rw [show (1 : Int32) = nI 1 from rfl, leI (by omega) (by omega)]; exact c), nI_add, show (2 : Int32) = nI 2 from rfl, pk_div (by omega) (by decide) (by decide), show (1440 : Int32) = nI 1440 from rfl, pk_mul, nI_add]
    refine cm_inTime hN hP (by omega) (by omega) hrs hok hok2 hf hs hm hlim rm (fun b h' hb hm' hlim' rm' am' => ?_)
    have am2 := am.trans am'
    cases b
    · rw [if_neg (by decide)]
      exact cm_latest hN hP hd hrs hok hok2 hf hs kk m lo ((lo + hi) / 2) h' (by omega) (by omega) (by omega) i1 (Or.inr (fun q => by cases hb.mpr q)) hm' hlim' rm' am2
    · rw [if_pos rfl]
      exact cm_latest hN hP hd hrs hok hok2 hf hs kk m ((lo + hi) / 2) hi h' (by omega) (by omega) h2 (hb.mp rfl) i2 hm' hlim' rm' am2
theorem L_latest {G : GA} {h : HP} {x1 : Int32} {x2 : Int32} {x3 : Int32} {x4 : Int32} (r : Rel h) : P_Desk_latest G h x1 x2 x3 x4 (fun a h1 => P_Model_latest G h1 x1 x2 x3 x4 (fun b h2 => a = b ∧ Rel h2)) := by
  refine s_Desk_latest_0 _ _ _ _ _ _ _ (c_Stops_has ?_)
  simp only [decide_eq_true_eq]
  by_cases c1 : 0 ≤ x1 ∧ x1 < h 2 3
  rotate_left
  · rw [if_neg c1]
    refine s_Model_latest_0 _ _ _ _ _ _ _ (cm_isStop r (by rfl) ?_)
    simp only [decide_eq_true_eq]
    rw [if_neg c1]
    exact ⟨by trivial, r⟩
  rw [if_pos c1]
  refine c_Stops_has ?_
  simp only [decide_eq_true_eq]
  by_cases c2 : 0 ≤ x2 ∧ x2 < h 2 3
  rotate_left
  · rw [if_neg c2]
    refine s_Model_latest_0 _ _ _ _ _ _ _ (cm_isStop r (by rfl) ?_)
    simp only [decide_eq_true_eq]
    rw [if_pos c1]
    refine cm_isStop r (by rfl) ?_
    simp only [decide_eq_true_eq]
    rw [if_neg c2]
    exact ⟨by trivial, r⟩
  rw [if_pos c2]
  refine c_isDay ?_
  simp only [decide_eq_true_eq]
  by_cases c3 : 0 ≤ x3 ∧ x3 ≤ 99
  rotate_left
  · rw [if_neg c3]
    refine s_Model_latest_0 _ _ _ _ _ _ _ (cm_isStop r (by rfl) ?_)
    simp only [decide_eq_true_eq]
    rw [if_pos c1]
    refine cm_isStop r (by rfl) ?_
    simp only [decide_eq_true_eq]
    rw [if_pos c2]
    refine cm_isDay ?_
    simp only [decide_eq_true_eq]
    rw [if_neg c3]
    exact ⟨by trivial, r⟩
  rw [if_pos c3]
  obtain ⟨f, ef, hf⟩ := has_ex c1
  obtain ⟨s, es, hs⟩ := has_ex c2
  have hf : f < nS h := hf
  have hs : s < nS h := hs
  obtain ⟨d, ed, hd⟩ := IN_ex (b := 99) rfl c3
  have ea : 1440 * x3 = nI (1440 * d) := by rw [ed, show (1440 : Int32) = nI 1440 from rfl, pk_mul]
  have hok : RsOK (runsL h (1440 * d) (1440 * (d + 2))) := fun v t d q => (rs_runs q).1
  have hok2 : ∀ (v t d' : Nat), (runsL h (1440 * d) (1440 * (d + 2)))[v]? = some (t, d') → t < nT h := fun v t d q => (rs_runs q).2.1
  have hlen := runsL_len r.1 (show 1440 * d ≤ 1440 * d by omega) (show d < 100 by omega) 100
  have hT := nT_le r.1
  rw [ea]
  rw [ed, ef, es]
  refine c_gather r.1 r.2.1 (by omega) (by omega) (by omega) (On.refl h) (fun h7 on7 ag7 e7 ra7 => ?_)
  refine c_latest (G := G) r (d := d) (rs := runsL h (1440 * d) (1440 * (d + 2))) (lim := 1440 * (d + 2)) (by omega) (by omega) hf hs hlen hok (fun v t d q => by have := hok2 v t d q; omega) (fun c h8 hc i1 i2 ag8 => ?_) 11 0 h7 (by omega) (by omega) (Or.inl rfl) (Or.inl (by decide)) (ag7.mono (by decide)) on7 e7 ra7
  rw [← ed, ← ef, ← es]
  refine s_Model_latest_0 _ _ _ _ _ _ _ (cm_isStop r (by rw [ag8 67 (by decide)]) ?_)
  simp only [decide_eq_true_eq]
  rw [if_pos c1]
  refine cm_isStop r (by rw [ag8 67 (by decide)]) ?_
  simp only [decide_eq_true_eq]
  rw [if_pos c2]
  refine cm_isDay ?_
  simp only [decide_eq_true_eq]
  rw [if_pos c3, ea]
  rw [ed, ef, es]
  have am8 : AM qC qT h h8 := ag8.am
  have mono : ∀ a b, a ≤ b → b < 1440 → iT h (runsL h (1440 * d) (1440 * (d + 2))) (1440 * (d + 2)) f s x4 (1440 * d + b) → iT h (runsL h (1440 * d) (1440 * (d + 2))) (1440 * (d + 2)) f s x4 (1440 * d + a) := fun a b h1 h2 q => iT_mono r.1 (by omega) (by omega) (by omega) q
  refine cm_look (mi := 0) r.1 (by omega) (by omega) (r.2.2.1.hi (fun k h1 h2 => ag8 k (fun z => by have := (by decide : ∀ k ∈ [42, 43, 44, 45, 46, 47, 48, 49, 50, 51, 52, 53], k < 67) k z; omega))) (fun h9 lk am9 rm => ?_)
  have am9' := am8.trans (am9.mono (S' := qC) (T' := qT) (by decide) (by decide))
  rw [Nat.add_zero] at rm
  refine cm_inTime r.1 r.2.1 (by omega) (by omega) hlen hok hok2 hf hs lk.1 lk.2.2 rm (fun b h10 hb hm10 hl10 rm10 am10 => ?_)
  have am10' := am9'.trans am10
  cases b
  · rw [if_neg (by decide)]
    have c0 : c = 0 := by
      rcases i1 with q | q
      · exact q
      · rcases Nat.eq_zero_or_pos c with z | z
        · exact z
        · have := hb.mpr (mono 0 (c - 1) (by omega) (by omega) q)
          cases this
    exact ⟨by rw [c0]; rfl, r.am am10'⟩
  · rw [if_pos rfl]
    refine cm_latest (G := G) r.1 r.2.1 (by omega) hlen hok hok2 hf hs (h0 := h) (fun lo h11 hlo j1 j2 am11 => ?_) 1440 0 1440 h10 (by omega) (by omega) (by omega) (hb.mp rfl) (Or.inl rfl) hm10 hl10 rm10 am10'
    refine ⟨?_, r.am am11⟩
    have ec : c = lo + 1 := by
      have le1 : lo < c := by
        rcases Nat.lt_or_ge lo c with z | z
        · exact z
        · rcases i2 with q | q
          · omega
          · exact absurd (mono c lo z hlo j1) q
      rcases i1 with q | q
      · omega
      · rcases Nat.lt_or_ge (lo + 1) c with z | z
        · rcases j2 with w | w
          · omega
          · exact absurd (mono (lo + 1) (c - 1) (by omega) (by omega) q) w
        · omega
    rw [ec, sub1]
