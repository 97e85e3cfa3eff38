/-! ===== ways: the class finds a ride ===== -/
def CC (N h : HP) (rs : List (Nat × Nat)) (lim ask : Nat) (E R : Nat → Nat → Nat → Nat) : Prop := SC N h rs lim (dear N) ask ∧ h 54 10 = nI ask ∧ (∀ i, i ≤ 3 → EA h (dear N) i (E i)) ∧ ∀ i, i < 3 → RY h (dear N) i (R i)
theorem CC.agr {N h h' : HP} {rs : List (Nat × Nat)} {lim ask : Nat} {E R : Nat → Nat → Nat → Nat} {S : List Nat} (c : CC N h rs lim ask E R) (ha : Agr S h h') (hS : ∀ k, k ∈ S → 55 ≤ k := by decide) : CC N h' rs lim ask E R :=
  ⟨c.1.agr ha (fun k hk => Or.inr (by have := hS k hk; omega)), by rw [ha 54 (fun z => by have := hS 54 z; omega)]; exact c.2.1, fun i hi => (c.2.2.1 i hi).agr (ha 49 (fun z => by have := hS 49 z; omega)), fun i hi => (c.2.2.2 i hi).agr (ha 50 (fun z => by have := hS 50 z; omega))⟩
theorem wk_23 {N : HP} (hN : NetOK N) (w : Nat) : N 23 w = nI (tn (N 23 w)) ∧ tn (N 23 w) < 12 := ⟨(hN.2.2.2.2.2.1 w).e, by have := (hN.2.2.2.2.2.1 w).t; omega⟩
theorem wk_24 {N : HP} (hN : NetOK N) (w : Nat) : N 24 w = nI (tn (N 24 w)) ∧ tn (N 24 w) < 12 := ⟨(hN.2.2.2.2.2.2.1 w).e, by have := (hN.2.2.2.2.2.2.1 w).t; omega⟩
theorem ok_ch {N : HP} (hN : NetOK N) (s : Nat) : N 3 s = nI (tn (N 3 s)) ∧ tn (N 3 s) ≤ 30 := ⟨(hN.1.2.1 s).e, (hN.1.2.1 s).t⟩
theorem c_readyAt {G : GA} {N h : HP} {rs : List (Nat × Nat)} {lim ask frm r f p s : Nat} {E R : Nat → Nat → Nat → Nat} (c : CxW N rs lim ask frm E R) (cc : CC N h rs lim ask E R) (hr : r < 3) (hf : f < 1000) (hp : p < 1000) (hs : s < 12) {K : Int32 → HP → Prop} (kk : K (nI (if p ≤ f then R r (f - p) s else NVR)) h) : P_Search_readyAt G h (nI (r + 1) - 1) (nI f - nI p) (nI s) K := by
  have hD := dear_le c.1
  have hd := cc.1.2.2.1
  refine s_Search_readyAt_0 G h _ _ _ K ?_
  rw [sub1, if_neg (by rw [show (3 : Int32) = nI 3 from rfl, leI (by omega) (by omega)]; omega)]
  by_cases q : p ≤ f
  · rw [if_pos q] at kk
    rw [pk_sub q]
    refine c_canCost hd hD (by omega) (by omega) ?_
    by_cases z : f - p ≤ dear N * r
    · rw [if_pos (by rw [decide_eq_true_eq]; exact z)]
      refine c_row hd (by omega) ?_
      have hb := bs_top2 hr z hD
      have hrw : rw' (dear N) r (f - p) + 12 ≤ 360 := by unfold rw'; omega
      rw [nI_add, tnI (by omega), cc.2.2.2 r hr (f - p) s z hs]
      exact ⟨in_nI (by omega) (by decide), kk⟩
    · rw [if_neg (by rw [decide_eq_true_eq]; exact z)]
      rw [(c.bg (r := r) (by omega)).2 hr (f - p) s (by omega)] at kk
      exact kk
  · rw [if_neg q] at kk
    refine s_Search_canCost_0 G h _ _ _ (c_between ?_)
    rw [if_pos (by rw [decide_eq_true_eq]; exact ⟨nIpos (by omega), by rw [show (3 : Int32) = nI 3 from rfl, leI (by omega) (by omega)]; omega⟩)]
    refine c_mostFare hd (c_between ?_)
    rw [if_neg (by
      rw [decide_eq_true_eq]
      intro z
      have z1 := z.1
      rw [fa_le, pk_sub_toInt (by omega) (by omega), show (0 : Int32).toInt = 0 from rfl] at z1
      omega)]
    rw [if_neg (by decide)]
    exact kk
theorem c_canGetOn {G : GA} {N h : HP} {rs : List (Nat × Nat)} {lim ask frm r f v t d i j : Nat} {E R : Nat → Nat → Nat → Nat} (c : CxW N rs lim ask frm E R) (cc : CC N h rs lim ask E R) (hr : r < 3) (hf : f < 1000) (hv : rs[v]? = some (t, d)) (hij : i < j) (hj : j < nC N t) {K : Bool → HP → Prop}
    (kk : K (decide (oP N t i = true ∧ pz N (sA N t i) (sA N t j) ≤ f ∧ R r (f - pz N (sA N t i) (sA N t j)) (sA N t i) ≤ lT N t d i)) h) : P_Found_canGetOn G h (nI (r + 1)) (nI f) (nI v) (nI i) (nI j) K := by
  have hN := c.1
  have hon := cc.1.1
  obtain ⟨hd, ht⟩ := c.2.2.2.2.2.2.1 v t d hv
  have hT := nT_le hN
  have hC := nC_le hN t
  have hl := c.2.2.2.1
  have hvl : v < rs.length := (List.getElem?_eq_some_iff.mp hv).1
  have hrs := c.2.2.2.2.2.1
  obtain ⟨r1, r2, r3, r4⟩ := cc.1.2.2.2.2.2 v t d hv
  have hp := pz_le hN (sA N t i) (sA N t j)
  have s1 := sA_lt hN t i
  have s2 := sA_lt hN t j
  have llim := lT_le hN hd t i
  refine s_Found_canGetOn_0 _ _ _ _ _ _ _ _ ?_
  rw [tnI (by omega), r1, ix8, ix8, tnI (by omega), tnI (by omega), hon.c 17, ok_sA hN, ok_sA hN]
  refine ⟨in_nI (by omega) (by decide), in_nI (by omega) (by decide), in_nI (by omega) (by decide), ?_⟩
  refine c_price hN hon s1 s2 (c_isOpen hon (by omega) (by omega) ?_)
  cases co : oP N t i
  · rw [if_neg (by decide)]
    rw [decide_eq_false (fun z => by rw [co] at z; exact absurd z.1 (by decide))] at kk
    exact kk
  · rw [if_pos rfl]
    refine c_readyAt c cc hr hf (by omega) s1 ?_
    rw [ix8, tnI (by omega), (r4 i (by omega)).2]
    refine ⟨in_nI (by omega) (by decide), ?_⟩
    have hv2 := NVRe
    by_cases q : pz N (sA N t i) (sA N t j) ≤ f
    · rw [if_pos q]
      rcases c.R hr (f - pz N (sA N t i) (sA N t j)) (sA N t i) with z | z
      · rw [z] at kk ⊢
        rw [if_pos (by rw [ltI (by omega) (by omega)]; omega)]
        rw [decide_eq_false (fun y => by have := y.2.2; omega)] at kk
        exact kk
      · by_cases w : R r (f - pz N (sA N t i) (sA N t j)) (sA N t i) ≤ lT N t d i
        · rw [if_neg (by rw [ltI (by omega) (by omega)]; omega)]
          rw [decide_eq_true ⟨co, q, w⟩] at kk
          exact kk
        · rw [if_pos (by rw [ltI (by omega) (by omega)]; omega)]
          rw [decide_eq_false (fun y => w y.2.2)] at kk
          exact kk
    · rw [if_neg q, if_pos (by rw [ltI (by omega) (by omega)]; omega)]
      rw [decide_eq_false (fun y => q y.2.1)] at kk
      exact kk
/-! the calls at which one gets off in time -/
def cB (N : HP) (ask t d : Nat) (o : Option Nat) (stop by' ch k : Nat) : Bool := decide (k < nC N t ∧ sA N t k = whr N o stop ∧ oP N t k = true ∧ thr N ask ch o (cT N t d k) ≤ by')
theorem c_cit_loop {G : GA} {N h : HP} {rs : List (Nat × Nat)} {lim ask frm v t d stop by' ch : Nat} {E R : Nat → Nat → Nat → Nat} {o : Option Nat} (c : CxW N rs lim ask frm E R) (cc : CC N h rs lim ask E R) (hv : rs[v]? = some (t, d)) (ho : ∀ w, o = some w → w < nW N) (hst : whr N o stop < 12) (hby : by' < 400000) (hch : ch < 1000000) {K : Int32 → HP → Prop}
    (kk : ∀ m : Int32, (∀ k, k < 32 → bt m k = cB N ask t d o stop by' ch k) → K m h) :
    ∀ m k x, k + m = nC N t → (∀ q, q < 32 → bt x q = (decide (q < k) && cB N ask t d o stop by' ch q)) → H_Found_callsInTime_42 G h (nI v) (o2i o) (nI by') (nI ch) (nI (whr N o stop)) (nI t) x (nI k) K
  | 0, k, x, e, hx => by
    have hN := c.1
    have hT := nT_le hN
    have hC := nC_le hN t
    obtain ⟨hd, ht⟩ := c.2.2.2.2.2.2.1 v t d hv
    refine s_Found_callsInTime_42 _ _ _ _ _ _ _ _ _ _ _ ?_
    rw [tnI (by omega), cc.1.1.c 15, ok_C hN, if_pos (by rw [leI (by omega) (by omega)]; omega)]
    refine ⟨in_nI (by omega) (by decide), kk x (fun q hq => ?_)⟩
    rw [hx q hq]
    by_cases w : q < k
    · rw [decide_eq_true w, Bool.true_and]
    · rw [decide_eq_false w, Bool.false_and]
      unfold cB
      rw [decide_eq_false (fun z => by omega)]
  | m + 1, k, x, e, hx => by
    have hN := c.1
    have hT := nT_le hN
    have hC := nC_le hN t
    have hon := cc.1.1
    have hl := c.2.2.2.1
    obtain ⟨hd, ht⟩ := c.2.2.2.2.2.2.1 v t d hv
    have hvl : v < rs.length := (List.getElem?_eq_some_iff.mp hv).1
    have hrs := c.2.2.2.2.2.1
    obtain ⟨r1, r2, r3, r4⟩ := cc.1.2.2.2.2.2 v t d hv
    have hs := sA_lt hN t k
    have hct := cT_le hN hd t k
    have ih := c_cit_loop (G := G) c cc hv ho hst hby hch kk m (k + 1)
    have no : cB N ask t d o stop by' ch k = false → ∀ q, q < 32 → bt x q = (decide (q < k + 1) && cB N ask t d o stop by' ch q) := by
      intro z q hq
      rw [hx q hq]
      by_cases w : q = k
      · subst w
        rw [z, Bool.and_false, Bool.and_false]
      · rw [decide_eq_decide.mpr (show q < k ↔ q < k + 1 by omega)]
    refine s_Found_callsInTime_42 _ _ _ _ _ _ _ _ _ _ _ ?_
    rw [tnI (by omega), hon.c 15, ok_C hN, if_neg (by rw [leI (by omega) (by omega)]; omega), ix8, tnI (by omega), hon.c 17, ok_sA hN]
    refine ⟨in_nI (by omega) (by decide), in_nI (by omega) (by decide), ?_⟩
    by_cases c1 : nI (sA N t k) = nI (whr N o stop)
    rotate_left
    · rw [if_neg c1, nI_1]
      exact ih x (by omega) (no (decide_eq_false (fun z => c1 (by rw [z.2.1]))))
    rw [if_pos c1]
    have c1 := (eqI (by omega) (by omega)).mp c1
    refine c_isOpen hon (by omega) (by omega) ?_
    cases c2 : oP N t k
    · rw [if_neg (by decide), nI_1]
      exact ih x (by omega) (no (decide_eq_false (fun z => by rw [c2] at z; exact absurd z.2.2.1 (by decide))))
    rw [if_pos rfl, ix8, tnI (by omega), (r4 k (by omega)).1]
    refine ⟨in_nI (by omega) (by decide), ?_⟩
    have fin : ∀ y, y = thr N ask ch o (cT N t d k) → y < 2147483648 → H_Found_callsInTime_150 G h (nI v) (o2i o) (nI by') (nI ch) (nI (whr N o stop)) (nI t) x (nI k) (nI y) K := by
      intro y ey hy
      refine s_Found_callsInTime_150 _ _ _ _ _ _ _ _ _ _ _ _ ?_
      by_cases c3 : nI by' < nI y
      · rw [if_pos c3, nI_1, show x ||| 0 = x from Int32.or_zero]
        rw [ltI (by omega) hy] at c3
        exact ih x (by omega) (no (decide_eq_false (fun z => by have := z.2.2.2; omega)))
      · rw [if_neg c3, nI_1]
        rw [ltI (by omega) hy] at c3
        refine ih _ (by omega) (fun q hq => ?_)
        rw [bt_set (by omega) hq, hx q hq]
        by_cases w : q = k
        · subst w
          rw [decide_eq_true rfl, Bool.or_true, decide_eq_true (by omega), Bool.true_and]
          unfold cB
          rw [decide_eq_true ⟨by omega, c1, c2, by omega⟩]
        · rw [decide_eq_false w, Bool.or_false, decide_eq_decide.mpr (show q < k ↔ q < k + 1 by omega)]
    cases o with
    | none =>
      rw [if_neg (show ¬ (0 : Int32) ≤ o2i none by decide), nI_add]
      exact fin _ rfl (by omega)
    | some w =>
      rw [show o2i (some w) = nI w from rfl, if_pos (nIpos (by have := ho w rfl; have := nW_le hN; omega)), cc.2.1]
      have ha := c.2.2.2.2.1
      refine c_endsAt hN hon (ho w rfl) (Or.inl (by omega)) (by omega) ?_
      exact fin _ rfl (by have := wE_small hN (w := w) (time := cT N t d k) (ask := ask) (by omega) (by omega); omega)
theorem c_cit {G : GA} {N h : HP} {rs : List (Nat × Nat)} {lim ask frm v t d stop by' ch : Nat} {E R : Nat → Nat → Nat → Nat} {o : Option Nat} (c : CxW N rs lim ask frm E R) (cc : CC N h rs lim ask E R) (hv : rs[v]? = some (t, d)) (ho : ∀ w, o = some w → w < nW N) (hst : stop < 12) (hby : by' < 400000) (hch : ch < 1000000) {K : Int32 → HP → Prop}
    (kk : ∀ m : Int32, (∀ k, k < 32 → bt m k = cB N ask t d o stop by' ch k) → K m h) : P_Found_callsInTime G h (nI v) (o2i o) (nI stop) (nI by') (nI ch) K := by
  have hN := c.1
  have hvl : v < rs.length := (List.getElem?_eq_some_iff.mp hv).1
  have hrs := c.2.2.2.2.2.1
  obtain ⟨r1, r2, r3, r4⟩ := cc.1.2.2.2.2.2 v t d hv
  refine s_Found_callsInTime_0 _ _ _ _ _ _ _ _ ?_
  rw [tnI (show v < 2147483648 by omega), r1]
  have st : ∀ q, q < 32 → bt 0 q = (decide (q < 0) && cB N ask t d o stop by' ch q) := fun q _ => by rw [b_0, decide_eq_false (by omega), Bool.false_and]
  cases o with
  | none =>
    rw [if_neg (show ¬ (0 : Int32) ≤ o2i none by decide)]
    exact ⟨in_nI (by omega) (by decide), c_cit_loop (o := none) c cc hv ho hst hby hch kk (nC N t) 0 0 (by omega) st⟩
  | some w =>
    have hw := ho w rfl
    have hW := nW_le hN
    have h23 : N 23 w = nI (tn (N 23 w)) ∧ tn (N 23 w) < 12 := wk_23 hN w
    rw [show o2i (some w) = nI w from rfl, if_pos (nIpos (by omega)), tnI (by omega), cc.1.1.c 23, h23.1]
    exact ⟨in_nI (by omega) (by decide), in_nI (by omega) (by decide), c_cit_loop (o := some w) c cc hv ho h23.2 hby hch kk (nC N t) 0 0 (by omega) st⟩
/-! the first call behind call i at which one can get off -/
theorem c_fO_loop {G : GA} {N h : HP} {rs : List (Nat × Nat)} {lim ask frm v t d i : Nat} {E R : Nat → Nat → Nat → Nat} (c : CxW N rs lim ask frm E R) (cc : CC N h rs lim ask E R) (hv : rs[v]? = some (t, d)) {m : Int32} {K : Int32 → HP → Prop}
    (kf : ∀ j, i < j → j < 8 → bt m j = true → (∀ q, i < q → q < j → bt m q = false) → (∀ q, i ≤ q → q < j → fK N t d q = false) → K (nI j) h)
    (kn : (∀ j, i < j → j < 8 → bt m j = true → ∃ q, i ≤ q ∧ q < j ∧ fK N t d q = true) → K (-1) h) :
    ∀ n k, k + n = 8 → i ≤ k → (∀ q, i < q → q < k → bt m q = false) → (∀ q, i ≤ q → q < k → fK N t d q = false) → H_Found_firstOff_3 G h (nI v) (nI i) m (nI k) K
  | 0, k, e, hi, h1, h2 => by
    refine s_Found_firstOff_3 _ _ _ _ _ _ _ ?_
    rw [show (8 : Int32) = nI 8 from rfl, if_pos (by rw [leI (by omega) (by omega)]; omega)]
    refine kn (fun j a b cc => ?_)
    rw [h1 j a (by omega)] at cc
    cases cc
  | n + 1, k, e, hi, h1, h2 => by
    have hvl : v < rs.length := (List.getElem?_eq_some_iff.mp hv).1
    have hrs := c.2.2.2.2.2.1
    obtain ⟨r1, r2, r3, r4⟩ := cc.1.2.2.2.2.2 v t d hv
    have ih := c_fO_loop (G := G) c cc hv kf kn n (k + 1) (by omega) (by omega)
    have nx : (i < k → bt m k = false) → H_Found_firstOff_28 G h (nI v) (nI i) m (nI k) K := by
      intro z
      refine s_Found_firstOff_28 _ _ _ _ _ _ _ ?_
      rw [tnI (by omega)]
      refine ⟨in_nI (by omega) (by decide), ?_⟩
      have h1' : ∀ q, i < q → q < k + 1 → bt m q = false := fun q a b => by
        by_cases w : q = k
        · rw [w] at a ⊢; exact z a
        · exact h1 q a (by omega)
      by_cases w : fK N t d k = true
      · rw [if_neg (by rw [bit_shr0 (by omega), r3 k (by omega), w]; decide)]
        refine kn (fun j a b cj => ⟨k, hi, ?_, w⟩)
        rcases Nat.lt_or_ge k j with q | q
        · exact q
        · rw [h1' j a (by omega)] at cj
          cases cj
      · have w : fK N t d k = false := by cases y : fK N t d k; rfl; exact absurd y w
        rw [if_pos (by rw [bit_shr0 (by omega), r3 k (by omega)]; exact w), nI_1]
        refine ih h1' (fun q a b => ?_)
        by_cases y : q = k
        · rw [y]; exact w
        · exact h2 q a (by omega)
    refine s_Found_firstOff_3 _ _ _ _ _ _ _ ?_
    rw [show (8 : Int32) = nI 8 from rfl, if_neg (by rw [leI (by omega) (by omega)]; omega)]
    by_cases c1 : nI k ≤ nI i
    · rw [if_pos c1]
      rw [leI (by omega) (by omega)] at c1
      exact nx (fun z => by omega)
    · rw [if_neg c1]
      rw [leI (by omega) (by omega)] at c1
      by_cases c2 : bt m k = false
      · rw [if_pos (by rw [bit_shr0 (by omega)]; exact c2)]
        exact nx (fun _ => c2)
      · rw [if_neg (by rw [bit_shr0 (by omega)]; exact c2)]
        exact kf k (by omega) (by omega) (by cases y : bt m k; exact absurd y c2; rfl) h1 h2
/-! the least ride -/
theorem Cd_iff {N : HP} {rs : List (Nat × Nat)} {lim ask frm v t d f stop by' ch i j : Nat} {E R : Nat → Nat → Nat → Nat} {o : Option Nat} {Rr : Nat → Nat → Nat} (c : CxW N rs lim ask frm E R) (hv : rs[v]? = some (t, d)) (ho : ∀ w, o = some w → w < nW N) (hby : by' < lim) :
    Cd N rs lim ask Rr f o stop by' ch v i j ↔ i < j ∧ cB N ask t d o stop by' ch j = true ∧ (∀ q, i ≤ q → q < j → fK N t d q = false) ∧ oP N t i = true ∧ pz N (sA N t i) (whr N o stop) ≤ f ∧ Rr (f - pz N (sA N t i) (whr N o stop)) (sA N t i) ≤ lT N t d i := by
  have hN := c.1
  obtain ⟨hd, ht⟩ := c.2.2.2.2.2.2.1 v t d hv
  have hv2 := NVRe
  unfold cB
  rw [decide_eq_true_eq]
  refine ⟨fun ⟨t', d', ⟨w1, w2, w3, w4, w5, w6, w7⟩, q2, q3, q4, q5⟩ => ?_, fun ⟨q1, ⟨q2, q3, q4, q5⟩, q6, q7, q8, q9⟩ => ?_⟩
  · rw [hv] at w1
    have e := Option.some.inj w1
    have e1 : t = t' := congrArg Prod.fst e
    have e2 : d = d' := congrArg Prod.snd e
    subst e1 e2
    rw [q2] at q3 q4
    exact ⟨w2, ⟨w3, q2, w5, q5⟩, w6, w4, q3, q4⟩
  · have hct := cT_le hN hd t j
    have := thr_ge hN (ask := ask) (ch := ch) ho (show cT N t d j ≤ NVR by omega)
    exact ⟨t, d, ⟨hv, q1, q2, q7, q4, q6, by omega⟩, q3, by rw [q3]; exact q8, by rw [q3]; exact q9, q5⟩
theorem c_lR_36 {G : GA} {N h : HP} {rs : List (Nat × Nat)} {lim ask frm r f v t d stop by' ch : Nat} {E R : Nat → Nat → Nat → Nat} {o : Option Nat} (c : CxW N rs lim ask frm E R) (cc : CC N h rs lim ask E R) (hr : r < 3) (hf : f < 1000) (hv : rs[v]? = some (t, d)) (ho : ∀ w, o = some w → w < nW N) (hby : by' < lim) {m : Int32} (hm : ∀ k, k < 32 → bt m k = cB N ask t d o stop by' ch k) {K : HP → Prop}
    (kk : ∀ v i j, LR (Cd N rs lim ask (R r) f o stop by' ch) v i j → K (up (up (up h 59 (r + 1) (nI v)) 60 (r + 1) (nI i)) 61 (r + 1) (nI j)))
    (kn : (∀ v' i' j', v' < v + 1 → ¬ Cd N rs lim ask (R r) f o stop by' ch v' i' j') → H_Found_leastRide_3 G h (nI (r + 1)) (nI f) (o2i o) (nI stop) (nI by') (nI ch) (nI (v + 1)) K) :
    ∀ n i, i + n = 7 → (∀ v' i' j', v' < v ∨ v' = v ∧ i' < i → ¬ Cd N rs lim ask (R r) f o stop by' ch v' i' j') → H_Found_leastRide_36 G h (nI (r + 1)) (nI f) (o2i o) (nI stop) (nI by') (nI ch) (nI v) m (nI i) K := by
  have hN := c.1
  have hC := nC_le hN t
  have iff := fun i j => Cd_iff (Rr := R r) (f := f) (stop := stop) (ch := ch) (i := i) (j := j) c hv ho hby
  have cb8 : ∀ j, cB N ask t d o stop by' ch j = true → j < nC N t := fun j hj => by
    unfold cB at hj
    rw [decide_eq_true_eq] at hj
    exact hj.1
  intro n
  induction n with
  | zero =>
    intro i e inv
    refine s_Found_leastRide_36 _ _ _ _ _ _ _ _ _ _ _ _ ?_
    have fin : H_Found_leastRide_3 G h (nI (r + 1)) (nI f) (o2i o) (nI stop) (nI by') (nI ch) (nI v + 1) K := by
      rw [nI_1]
      refine kn (fun v' i' j' hv' q => ?_)
      by_cases z : v' = v
      · by_cases z2 : i' < i
        · exact inv v' i' j' (Or.inr ⟨z, z2⟩) q
        · rw [z] at q
          have q := (iff i' j').mp q
          have := cb8 j' q.2.1
          omega
      · exact inv v' i' j' (Or.inl (by omega)) q
    split
    · exact fin
    · rw [show (7 : Int32) = nI 7 from rfl, if_pos (by rw [leI (by omega) (by omega)]; omega)]
      exact fin
  | succ n ih =>
    intro i e inv
    have ih := ih (i + 1) (by omega)
    refine s_Found_leastRide_36 _ _ _ _ _ _ _ _ _ _ _ _ ?_
    by_cases cm : m = 0
    · rw [if_pos cm, nI_1]
      refine kn (fun v' i' j' hv' q => ?_)
      by_cases z : v' = v
      · rw [z] at q
        have q := (iff i' j').mp q
        have h8 := cb8 j' q.2.1
        have hb := hm j' (by omega)
        rw [cm, b_0, q.2.1] at hb
        cases hb
      · exact inv v' i' j' (Or.inl (by omega)) q
    rw [if_neg cm, show (7 : Int32) = nI 7 from rfl, if_neg (by rw [leI (by omega) (by omega)]; omega)]
    have nxt : (∀ j, ¬ Cd N rs lim ask (R r) f o stop by' ch v i j) → H_Found_leastRide_36 G h (nI (r + 1)) (nI f) (o2i o) (nI stop) (nI by') (nI ch) (nI v) m (nI (i + 1)) K := by
      intro z
      refine ih (fun v' i' j' hl q => ?_)
      by_cases z1 : v' = v ∧ i' = i
      · rw [z1.1, z1.2] at q
        exact z j' q
      · exact inv v' i' j' (by omega) q
    refine s_Found_firstOff_0 _ _ _ _ _ _ (c_fO_loop c cc hv (fun j h1 h2 h3 h4 h5 => ?_) (fun h1 => ?_) (8 - i) i (by omega) (Nat.le_refl _) (fun q a b => by omega) (fun q a b => by omega))
    · rw [if_neg (by rw [leI (by omega) (by omega)]; omega)]
      have hcj : cB N ask t d o stop by' ch j = true := by rw [← hm j (by omega)]; exact h3
      have hsj : sA N t j = whr N o stop := by
        have := hcj
        unfold cB at this
        rw [decide_eq_true_eq] at this
        exact this.2.1
      refine c_canGetOn c cc hr hf hv h1 (cb8 j hcj) ?_
      simp only [decide_eq_true_eq]
      rw [hsj]
      by_cases cg : oP N t i = true ∧ pz N (sA N t i) (whr N o stop) ≤ f ∧ R r (f - pz N (sA N t i) (whr N o stop)) (sA N t i) ≤ lT N t d i
      · rw [if_pos cg, tnI (by omega)]
        refine ⟨in_nI (by omega) (by decide), ?_⟩
        rintro _ rfl _ rfl _ rfl
        refine kk v i j ⟨(iff i j).mpr ⟨h1, hcj, h5, cg⟩, fun v' i' j' hl q => ?_⟩
        unfold lx at hl
        by_cases z1 : v' = v ∧ i' = i
        · rw [z1.1, z1.2] at q
          have q := (iff i j').mp q
          have h8 := cb8 j' q.2.1
          have := hm j' (by omega)
          rw [h4 j' q.1 (by omega), q.2.1] at this
          cases this
        · exact inv v' i' j' (by omega) q
      · rw [if_neg cg, nI_1]
        refine nxt (fun j' q => cg ?_)
        exact ((iff i j').mp q).2.2.2
    · rw [if_pos (by rw [fa_le, toInt_nI (by omega)]; show (-1 : Int) ≤ _; omega), nI_1]
      refine nxt (fun j' q => ?_)
      have q := (iff i j').mp q
      have h8 := cb8 j' q.2.1
      obtain ⟨k, k1, k2, k3⟩ := h1 j' q.1 (by omega) (by rw [hm j' (by omega)]; exact q.2.1)
      rw [q.2.2.1 k k1 k2] at k3
      cases k3
theorem c_lR {G : GA} {N h : HP} {rs : List (Nat × Nat)} {lim ask frm r f stop by' ch : Nat} {E R : Nat → Nat → Nat → Nat} {o : Option Nat} (c : CxW N rs lim ask frm E R) (cc : CC N h rs lim ask E R) (hr : r < 3) (hf : f < 1000) (ho : ∀ w, o = some w → w < nW N) (hst : stop < 12) (hby : by' < lim) (hch : ch < 1000000) {K : HP → Prop}
    (ex : ∃ v i j, Cd N rs lim ask (R r) f o stop by' ch v i j)
    (kk : ∀ v i j, LR (Cd N rs lim ask (R r) f o stop by' ch) v i j → K (up (up (up h 59 (r + 1) (nI v)) 60 (r + 1) (nI i)) 61 (r + 1) (nI j))) :
    ∀ n v, v + n = rs.length → (∀ v' i' j', v' < v → ¬ Cd N rs lim ask (R r) f o stop by' ch v' i' j') → H_Found_leastRide_3 G h (nI (r + 1)) (nI f) (o2i o) (nI stop) (nI by') (nI ch) (nI v) K
  | 0, v, e, inv => by
    obtain ⟨v', i', j', q⟩ := ex
    have q0 := q
    obtain ⟨t, d, w, _⟩ := q0
    have := (List.getElem?_eq_some_iff.mp w.1).1
    exact absurd q (inv v' i' j' (by omega))
  | n + 1, v, e, inv => by
    have hrs := c.2.2.2.2.2.1
    have hl := c.2.2.2.1
    obtain ⟨⟨t, d⟩, hv⟩ : ∃ y, rs[v]? = some y := ⟨rs[v]'(by omega), List.getElem?_eq_getElem (by omega)⟩
    refine s_Found_leastRide_3 _ _ _ _ _ _ _ _ _ _ ?_
    rw [cc.1.2.2.2.2.1, if_neg (by rw [leI (by omega) (by omega)]; omega)]
    refine c_cit c cc hv ho hst (by omega) hch (fun m hm => ?_)
    exact c_lR_36 c cc hr hf hv ho hby hm kk (fun h1 => c_lR c cc hr hf ho hst hby hch ex kk n (v + 1) (by omega) h1) 7 0 (by omega) (fun v' i' j' hl => inv v' i' j' (by omega))
/-! the least walk -/
theorem c_lW {G : GA} {N h : HP} {rs : List (Nat × Nat)} {lim ask frm r f stop by' ch : Nat} {E R : Nat → Nat → Nat → Nat} (c : CxW N rs lim ask frm E R) (cc : CC N h rs lim ask E R) (hr : r ≤ 3) (hf : f < 1000) (hst : stop < 12) (hby : by' < lim) (hch : ch < 1000000) (fe : Fe N ask (E r) f stop by' ch) {K : Int32 → HP → Prop}
    (kk : ∀ o, LW N ask (E r) f stop by' ch o → K (o2i o) h) : P_Found_leastWalk G h (nI r) (nI f) (nI stop) (nI by') (nI ch) K := by
  have hN := c.1
  have hl := c.2.2.2.1
  have ha := c.2.2.2.2.1
  have hD := dear_le hN
  have hW := nW_le hN
  have hv := NVRe
  have te := c.te hr
  refine s_Found_leastWalk_0 _ _ _ _ _ _ _ _ (c_endedAt cc.1.2.2.1 hD hr hf hst (cc.2.2.1 r hr) (c.bg hr).1 ?_)
  rw [nI_add]
  have tes := te f stop
  by_cases c1 : nI by' < nI (E r f stop + ch)
  rotate_left
  · rw [if_neg c1]
    rw [ltI (by omega) (by omega)] at c1
    exact kk none (by show E r f stop + ch ≤ by'; omega)
  rw [if_pos c1]
  rw [ltI (by omega) (by omega)] at c1
  have key : ∀ n w, w + n = nW N → (∀ w', w' < w → tn (N 24 w') = stop → ¬ wE N w' (E r f (tn (N 23 w'))) ask ≤ by') → H_Found_leastWalk_32 G h (nI r) (nI f) (nI stop) (nI by') (nI w) K := by
    intro n
    induction n with
    | zero =>
      intro w e inv
      exfalso
      rcases fe with z | ⟨w', z1, z2, z3⟩
      · omega
      · exact inv w' (by omega) z2 z3
    | succ n ih =>
      intro w e inv
      have ih := ih (w + 1) (by omega)
      have h24 := wk_24 hN w
      have h23 := wk_23 hN w
      refine s_Found_leastWalk_32 _ _ _ _ _ _ _ _ ?_
      rw [cc.1.1.c 22, ok_W hN, if_neg (by rw [leI (by omega) (by omega)]; omega), tnI (by omega), cc.1.1.c 24, cc.1.1.c 23, h24.1, h23.1]
      refine ⟨in_nI (by omega) (by decide), ?_⟩
      by_cases c2 : nI (tn (N 24 w)) = nI stop
      rotate_left
      · rw [if_neg c2, nI_1]
        refine ih (fun w' a b => ?_)
        by_cases z : w' = w
        · rw [z] at b
          exact absurd (by rw [b]) c2
        · exact inv w' (by omega) b
      rw [if_pos c2]
      have c2 := (eqI (by omega) (by omega)).mp c2
      have tew := te f (tn (N 23 w))
      refine c_endedAt cc.1.2.2.1 hD hr hf h23.2 (cc.2.2.1 r hr) (c.bg hr).1 ?_
      rw [cc.2.1]
      refine c_endsAt hN cc.1.1 (by omega) (by omega) (by omega) ?_
      have hwe := wE_ok hN (w := w) tew (show ask < 400000 by omega)
      by_cases c3 : nI by' < nI (wE N w (E r f (tn (N 23 w))) ask)
      · rw [if_pos c3, nI_1]
        rw [ltI (by omega) (by omega)] at c3
        refine ih (fun w' a b => ?_)
        by_cases z : w' = w
        · rw [z]; omega
        · exact inv w' (by omega) b
      · rw [if_neg c3]
        rw [ltI (by omega) (by omega)] at c3
        exact kk (some w) ⟨by omega, by omega, c2, by omega, inv⟩
  exact key (nW N) 0 (by omega) (fun w' a => by omega)
