/-! ===== table: the reference's table ===== -/
theorem cm_isIn {G : GA} {h N : HP} (hN : NetOK N) (hm : OnM h N) {s d t k : Nat} (hs : s < 12) (hd : d < 100) (ht : t < 24) (hk : k < 8) {K : Bool → HP → Prop} (kk : K (inT N s d t k) h) : P_Model_isInTable G h (nI t) (nI k) (nI s) (nI d) K := by
  refine s_Model_isInTable_0 _ _ _ _ _ _ _ ?_
  refine cm_runs hN hm ht hd ?_
  unfold inT at kk
  cases c : rO N t d
  · rw [if_neg (by decide)]
    rw [c, Bool.false_and] at kk
    exact kk
  · rw [if_pos rfl, ix8', tnI (by omega), hm.c 76 17, ok_sA hN]
    rw [c, Bool.true_and] at kk
    have hsa := sA_lt hN t k
    refine ⟨in_nI (by omega) (by decide), ?_⟩
    by_cases c1 : nI (sA N t k) = nI s
    · rw [if_pos c1]
      rw [decide_eq_true ((eqI (by omega) (by omega)).mp c1), Bool.true_and] at kk
      have e79 := hm.2.2.1 t k ht hk
      unfold oP at kk
      by_cases c2 : h 79 (8 * t + k) = 0
      · rw [if_pos c2]
        rw [e79.mp c2] at kk
        exact kk
      · rw [if_neg c2]
        have : bt (N 16 t) k = true := by
          cases e : bt (N 16 t) k
          · exact absurd (e79.mpr e) c2
          · rfl
        rw [this] at kk
        exact kk
    · rw [if_neg c1]
      rw [decide_eq_false (fun z => c1 (by rw [z])), Bool.false_and] at kk
      exact kk
theorem cm_isAhead {G : GA} {h N : HP} (hN : NetOK N) (hm : OnM h N) {d t k u m : Nat} (hd : d < 100) (ht : t < 24) (hk : k < 8) (hu : u < 24) (hmm : m < 8) {K : Bool → HP → Prop} (kk : K (decide (kf N d u m < kf N d t k)) h) : P_Model_isAhead G h (nI u) (nI m) (nI t) (nI k) (nI d) K := by
  refine s_Model_isAhead_0 _ _ _ _ _ _ _ _ ?_
  refine cm_leavesAt hN hm hu hmm (cm_leavesAt hN hm ht hk ?_)
  have l1 := lT_le hN hd u m
  have l2 := lT_le hN hd t k
  have r1 : lT N u d m = 1440 * d + rl N u d m := by unfold lT rl; omega
  have r2 : lT N t d k = 1440 * d + rl N t d k := by unfold lT rl; omega
  have k1 : kf N d u m = (rl N u d m * 24 + u) * 8 + m := rfl
  have k2 : kf N d t k = (rl N t d k * 24 + t) * 8 + k := rfl
  by_cases c : nI (lT N u d m) = nI (lT N t d k)
  · rw [if_pos c]
    rw [eqI (by omega) (by omega)] at c
    by_cases c2 : nI u = nI t
    · rw [if_pos c2]
      rw [eqI (by omega) (by omega)] at c2
      by_cases c3 : nI k ≤ nI m
      · rw [if_pos c3]
        rw [leI (by omega) (by omega)] at c3
        rw [decide_eq_false (by omega)] at kk
        exact kk
      · rw [if_neg c3]
        rw [leI (by omega) (by omega)] at c3
        rw [decide_eq_true (by omega)] at kk
        exact kk
    · rw [if_neg c2]
      rw [eqI (by omega) (by omega)] at c2
      by_cases c3 : nI t ≤ nI u
      · rw [if_pos c3]
        rw [leI (by omega) (by omega)] at c3
        rw [decide_eq_false (by omega)] at kk
        exact kk
      · rw [if_neg c3]
        rw [leI (by omega) (by omega)] at c3
        rw [decide_eq_true (by omega)] at kk
        exact kk
  · rw [if_neg c]
    rw [eqI (by omega) (by omega)] at c
    by_cases c3 : nI (lT N t d k) ≤ nI (lT N u d m)
    · rw [if_pos c3]
      rw [leI (by omega) (by omega)] at c3
      rw [decide_eq_false (by omega)] at kk
      exact kk
    · rw [if_neg c3]
      rw [leI (by omega) (by omega)] at c3
      rw [decide_eq_true (by omega)] at kk
      exact kk
def rk (E : List Nat) (y : Nat) : Nat := E.countP (fun z => decide (z < y))
theorem cm_t89 {G : GA} {h N : HP} (hN : NetOK N) (hm : OnM h N) {s d t k u : Nat} {x3 x4 : Int32} (hs : s < 12) (hd : d < 100) (ht : t < 24) (hk : k < 8) (hu : u < nT N) {K : Int32 → HP → Prop}
    (kk : H_Model_table_77 G h (nI s) (nI d) x3 x4 (nI t) (nI k) (nI (rk (eT N s d (u + 1)) (kf N d t k))) (nI (u + 1)) K) :
    ∀ n m, m + n = nC N u → H_Model_table_89 G h (nI s) (nI d) x3 x4 (nI t) (nI k) (nI (rk (eT N s d u ++ eK N s d u m) (kf N d t k))) (nI u) (nI m) K
  | 0, m, e => by
    have hT := nT_le hN
    have hC := nC_le hN u
    refine s_Model_table_89 _ _ _ _ _ _ _ _ _ _ _ _ ?_
    rw [tnI (by omega), hm.c 75 15, ok_C hN, if_pos (by rw [leI (by omega) (by omega)]; omega), nI_1, show m = nC N u by omega]
    exact ⟨in_nI (by omega) (by decide), kk⟩
  | n + 1, m, e => by
    have hT := nT_le hN
    have hC := nC_le hN u
    have ih := cm_t89 (G := G) hN hm hs hd ht hk hu kk n (m + 1) (by omega)
    refine s_Model_table_89 _ _ _ _ _ _ _ _ _ _ _ _ ?_
    rw [tnI (by omega), hm.c 75 15, ok_C hN, if_neg (by rw [leI (by omega) (by omega)]; omega), nI_1]
    refine ⟨in_nI (by omega) (by decide), ?_⟩
    refine cm_isIn hN hm hs hd (by omega) (by omega) ?_
    rw [eK] at ih
    cases c : inT N s d u m
    · rw [if_neg (by decide)]
      rw [if_neg (by rw [c]; decide)] at ih
      rw [nI_1]
      exact ih
    · rw [if_pos rfl]
      rw [if_pos c, ← List.append_assoc] at ih
      unfold rk at ih
      rw [List.countP_append, List.countP_singleton] at ih
      refine cm_isAhead hN hm hd ht hk (by omega) (by omega) ?_
      simp only [decide_eq_true_eq] at ih ⊢
      by_cases c2 : kf N d u m < kf N d t k
      · rw [if_pos c2]
        rw [if_pos c2] at ih
        rw [nI_1]
        exact ih
      · rw [if_neg c2]
        rw [if_neg c2] at ih
        rw [nI_1]
        exact ih
theorem cm_t77 {G : GA} {h N : HP} (hN : NetOK N) (hm : OnM h N) {s d t k : Nat} {x3 x4 : Int32} (hs : s < 12) (hd : d < 100) (ht : t < 24) (hk : k < 8) {K : Int32 → HP → Prop}
    (hy : nI (rk (eT N s d (nT N)) (kf N d t k)) = x3 → if x4 = 0 then K (nI t) h else if x4 = 1 then K (nI k) h else if x4 = 2 then K (nI (aA N t k + late N t d k)) h else K (nI (rl N t d k)) h)
    (hn : ¬ nI (rk (eT N s d (nT N)) (kf N d t k)) = x3 → H_Model_table_43 G h (nI s) (nI d) x3 x4 (nI t) (nI (k + 1)) K) :
    ∀ n u, u + n = nT N → H_Model_table_77 G h (nI s) (nI d) x3 x4 (nI t) (nI k) (nI (rk (eT N s d u) (kf N d t k))) (nI u) K
  | 0, u, e => by
    have hT := nT_le hN
    refine s_Model_table_77 _ _ _ _ _ _ _ _ _ _ _ ?_
    rw [show h 67 1 = nI (nT N) by rw [hm.2.1.2.1]; exact ok_T hN, if_pos (by rw [leI (by omega) (by omega)]; omega), show u = nT N by omega]
    by_cases c : nI (rk (eT N s d (nT N)) (kf N d t k)) = x3
    · rw [if_pos c]
      have hy := hy c
      by_cases c0 : x4 = 0
      · rw [if_pos c0] at hy ⊢
        exact hy
      rw [if_neg c0] at hy ⊢
      by_cases c1 : x4 = 1
      · rw [if_pos c1] at hy ⊢
        exact hy
      rw [if_neg c1] at hy ⊢
      by_cases c2 : x4 = 2
      · rw [if_pos c2] at hy ⊢
        refine cm_comesAt hN hm ht hk ?_
        rw [clI]
        exact hy
      rw [if_neg c2] at hy ⊢
      refine cm_leavesAt hN hm ht hk ?_
      rw [rlI]
      exact hy
    · rw [if_neg c, nI_1]
      exact hn c
  | n + 1, u, e => by
    have hT := nT_le hN
    have ih := cm_t77 (G := G) hN hm hs hd ht hk hy hn n (u + 1) (by omega)
    refine s_Model_table_77 _ _ _ _ _ _ _ _ _ _ _ ?_
    rw [show h 67 1 = nI (nT N) by rw [hm.2.1.2.1]; exact ok_T hN, if_neg (by rw [leI (by omega) (by omega)]; omega)]
    have := cm_t89 hN hm (u := u) hs hd ht hk (by omega) ih (nC N u) 0 (by omega)
    rw [eK, List.append_nil] at this
    exact this
/-- what the reference tells: of the first call whose rank is asked for, or nothing -/
theorem cm_t31 {G : GA} {h N : HP} (hN : NetOK N) (hm : OnM h N) {s d : Nat} {x3 x4 : Int32} (hs : s < 12) (hd : d < 100) {K : Int32 → HP → Prop}
    (hy : ∀ t k, t < nT N → k < nC N t → inT N s d t k = true → nI (rk (eT N s d (nT N)) (kf N d t k)) = x3 → if x4 = 0 then K (nI t) h else if x4 = 1 then K (nI k) h else if x4 = 2 then K (nI (aA N t k + late N t d k)) h else K (nI (rl N t d k)) h)
    (hn : (∀ y, y ∈ eT N s d (nT N) → ¬ nI (rk (eT N s d (nT N)) y) = x3) → K (-1) h) :
    ∀ n t, t + n = nT N → (∀ y, y ∈ eT N s d t → ¬ nI (rk (eT N s d (nT N)) y) = x3) → H_Model_table_31 G h (nI s) (nI d) x3 x4 (nI t) K
  | 0, t, e, inv => by
    have hT := nT_le hN
    refine s_Model_table_31 _ _ _ _ _ _ _ _ ?_
    rw [show h 67 1 = nI (nT N) by rw [hm.2.1.2.1]; exact ok_T hN, if_pos (by rw [leI (by omega) (by omega)]; omega)]
    rw [show t = nT N by omega] at inv
    exact hn inv
  | n + 1, t, e, inv => by
    have hT := nT_le hN
    have hC := nC_le hN t
    have ih := cm_t31 (G := G) hN hm hs hd hy hn n (t + 1) (by omega)
    refine s_Model_table_31 _ _ _ _ _ _ _ _ ?_
    rw [show h 67 1 = nI (nT N) by rw [hm.2.1.2.1]; exact ok_T hN, if_neg (by rw [leI (by omega) (by omega)]; omega)]
    have key : ∀ m k, k + m = nC N t → (∀ y, y ∈ eT N s d t ++ eK N s d t k → ¬ nI (rk (eT N s d (nT N)) y) = x3) → H_Model_table_43 G h (nI s) (nI d) x3 x4 (nI t) (nI k) K := by
      intro m
      induction m with
      | zero =>
        intro k ek inv2
        refine s_Model_table_43 _ _ _ _ _ _ _ _ _ ?_
        rw [tnI (by omega), hm.c 75 15, ok_C hN, if_pos (by rw [leI (by omega) (by omega)]; omega), nI_1]
        refine ⟨in_nI (by omega) (by decide), ih (fun y hy2 => ?_)⟩
        rw [show k = nC N t by omega] at inv2
        exact inv2 y hy2
      | succ m ih2 =>
        intro k ek inv2
        refine s_Model_table_43 _ _ _ _ _ _ _ _ _ ?_
        rw [tnI (by omega), hm.c 75 15, ok_C hN, if_neg (by rw [leI (by omega) (by omega)]; omega), nI_1]
        refine ⟨in_nI (by omega) (by decide), ?_⟩
        refine cm_isIn hN hm hs hd (by omega) (by omega) ?_
        cases c : inT N s d t k
        · rw [if_neg (by decide)]
          refine ih2 (k + 1) (by omega) ?_
          rw [eK, if_neg (by rw [c]; decide)]
          exact inv2
        · rw [if_pos rfl]
          refine cm_t77 hN hm hs hd (by omega) (by omega) (hy t k (by omega) (by omega) c) (fun ne => ?_) (nT N) 0 (by omega)
          refine ih2 (k + 1) (by omega) ?_
          rw [eK, if_pos c, ← List.append_assoc]
          intro y hy2
          rcases List.mem_append.mp hy2 with w | w
          · exact inv2 y w
          · rw [List.mem_singleton.mp w]
            exact ne
    refine key (nC N t) 0 (by omega) ?_
    rw [eK, List.append_nil]
    exact inv
theorem L_table {G : GA} {h : HP} {x1 x2 x3 x4 : Int32} (r : Rel h) : P_Desk_table G h x1 x2 x3 x4 (fun a h1 => P_Model_table G h1 x1 x2 x3 x4 (fun b h2 => a = b ∧ Rel h2)) := by
  refine s_Desk_table_0 _ _ _ _ _ _ _ (c_Stops_has ?_)
  simp only [decide_eq_true_eq]
  by_cases c1 : 0 ≤ x1 ∧ x1 < h 2 3
  rotate_left
  · rw [if_neg c1]
    refine s_Model_table_0 _ _ _ _ _ _ _ (cm_isStop r (by rfl) ?_)
    simp only [decide_eq_true_eq]
    rw [if_neg c1]
    exact ⟨by trivial, r⟩
  rw [if_pos c1]
  refine c_isDay ?_
  simp only [decide_eq_true_eq]
  by_cases c2 : 0 ≤ x2 ∧ x2 ≤ 99
  rotate_left
  · rw [if_neg c2]
    refine s_Model_table_0 _ _ _ _ _ _ _ (cm_isStop r (by rfl) ?_)
    simp only [decide_eq_true_eq]
    rw [if_pos c1]
    refine cm_isDay ?_
    simp only [decide_eq_true_eq]
    rw [if_neg c2]
    exact ⟨by trivial, r⟩
  rw [if_pos c2]
  refine c_between ?_
  simp only [decide_eq_true_eq]
  by_cases c3 : 0 ≤ x4 ∧ x4 ≤ 3
  rotate_left
  · rw [if_neg c3]
    refine s_Model_table_0 _ _ _ _ _ _ _ (cm_isStop r (by rfl) ?_)
    simp only [decide_eq_true_eq]
    rw [if_pos c1]
    refine cm_isDay ?_
    simp only [decide_eq_true_eq]
    rw [if_pos c2]
    refine cm_in ?_
    simp only [decide_eq_true_eq]
    rw [if_neg c3]
    exact ⟨by trivial, r⟩
  rw [if_pos c3]
  have hN := r.1
  obtain ⟨s, es, hs⟩ := has_ex c1
  obtain ⟨d, ed, hd⟩ := IN_ex (b := 99) (by rfl) c2
  have hs12 : s < 12 := Nat.lt_of_lt_of_le hs (nS_le hN)
  have hT := nT_le hN
  rw [es, ed]
  refine c_board hN hs12 (by omega) (fun h1 bd => ?_)
  obtain ⟨ag, L, so, pm, st⟩ := bd
  have hon : On h1 h := fun k a b => ag k (by simp; omega)
  have hm1 : OnM h1 h := by
    have e : ∀ k, 68 ≤ k → h1 k = h k := fun k hk => ag k (by simp; omega)
    have hm := r.2.2.1
    refine ⟨fun p hp => ?_, ?_, ?_, ?_, ?_⟩
    · rw [e p.1 ((by decide : ∀ p ∈ mP, 68 ≤ p.1) p hp)]
      exact hm.1 p hp
    · rw [ag 67 (by decide)]
      exact hm.2.1
    · rw [e 79 (by decide)]
      exact hm.2.2.1
    · rw [e 80 (by decide)]
      exact hm.2.2.2.1
    · rw [e 93 (by decide)]
      exact hm.2.2.2.2
  have nd : L.Nodup := pm.nodup_iff.mpr (eT_nd hN (nT h) hT)
  have sl := srt_lt st nd
  have rkL : ∀ y, rk (eT h s d (nT h)) y = rk L y := fun y => (pm.countP_eq _).symm
  have hlen : L.length ≤ 192 := by rw [pm.length_eq]; have := eT_len hN (s := s) (d := d) (nT h); omega
  have rel1 : Rel h1 := r.same (fun k hk => ag k (by simp; omega)) (fun j _ => by rw [ag 67 (by decide)]) ⟨fun k hk => ag k ((by decide : ∀ i ∈ rC, i ∉ [65, 66]) k hk), by rw [ag 67 (by decide)], by rw [ag 67 (by decide)], by rw [ag 67 (by decide)]⟩
  rw [so.1]
  refine c_between ?_
  simp only [decide_eq_true_eq]
  have start : ∀ K, H_Model_table_31 G h1 (nI s) (nI d) x3 x4 (nI 0) K → P_Model_table G h1 (nI s) (nI d) x3 x4 K := by
    intro K hK
    refine s_Model_table_0 _ _ _ _ _ _ _ (cm_isStop r (by rw [ag 67 (by decide)]) ?_)
    simp only [decide_eq_true_eq]
    rw [← es, ← ed, if_pos c1]
    refine cm_isDay ?_
    simp only [decide_eq_true_eq]
    rw [if_pos c2]
    refine cm_in ?_
    simp only [decide_eq_true_eq]
    rw [if_pos c3, es, ed]
    exact hK
  have c4' : (0 ≤ x3 ∧ x3 ≤ nI L.length - 1) ↔ (0 ≤ x3 ∧ x3 < nI L.length) := dec1 (by rw [toInt_nI (by omega)]; omega)
  have rank : ∀ y, y ∈ L → ∃ i, i < L.length ∧ L[i]? = some y ∧ rk L y = i := fun y hy => by
    obtain ⟨i, hi⟩ := List.mem_iff_getElem?.mp hy
    exact ⟨i, (List.getElem?_eq_some_iff.mp hi).1, hi, rank_at sl hi⟩
  by_cases c4 : 0 ≤ x3 ∧ x3 ≤ nI L.length - 1
  rotate_left
  · rw [if_neg c4]
    refine start _ (cm_t31 hN hm1 hs12 (by omega) (fun t k ht hk it e => ?_) (fun _ => ⟨rfl, rel1⟩) (nT h) 0 (by omega) (fun y hy => absurd hy List.not_mem_nil))
    exfalso
    rw [rkL] at e
    obtain ⟨i, h1, h2, h3⟩ := rank (kf h d t k) (pm.mem_iff.mpr ((eT_mem _).mpr ⟨t, k, ht, hk, it, rfl⟩))
    rw [h3] at e
    refine c4 (c4'.mpr ?_)
    rw [← e]
    exact ⟨nIpos (by omega), (ltI (by omega) (by omega)).mpr h1⟩
  rw [if_pos c4]
  obtain ⟨i, ei, hi⟩ := has_ex (c4'.mp c4)
  rw [tnI (by omega)] at hi
  obtain ⟨y, hy⟩ : ∃ y, L[i]? = some y := ⟨L[i], List.getElem?_eq_getElem hi⟩
  have hyL : y ∈ L := List.mem_of_getElem? hy
  obtain ⟨t, k, ht, hk, it, ey⟩ := (eT_mem _).mp (pm.mem_iff.mp hyL)
  have hC := nC_le hN t
  have hr : rk L y = i := rank_at sl hy
  have ylt := kf_lt hN (d := d) (show t < 24 by omega) (show k < 8 by omega)
  have d1 : nI y / 8 - nI y / 8 / 24 * 24 = nI t := by
    rw [show (8 : Int32) = nI 8 from rfl, show (24 : Int32) = nI 24 from rfl, pk_div (by omega) (by decide) (by decide), pk_rem (by omega) (by decide) (by decide)]
    congr 1
    rw [ey]
    unfold kf
    omega
  have d2 : nI y - nI y / 8 * 8 = nI k := by
    rw [show (8 : Int32) = nI 8 from rfl, pk_rem (by omega) (by decide) (by decide)]
    congr 1
    rw [ey]
    unfold kf
    omega
  have ref : ∀ a, (a = if x4 = 0 then nI t else if x4 = 1 then nI k else if x4 = 2 then nI (aA h t k + late h t d k) else nI (rl h t d k)) → P_Model_table G h1 (nI s) (nI d) x3 x4 (fun b h2 => a = b ∧ Rel h2) := by
    intro a ea
    refine start _ (cm_t31 hN hm1 hs12 (by omega) (fun t' k' ht' hk' it' e => ?_) (fun nn => ?_) (nT h) 0 (by omega) (fun y hy => absurd hy List.not_mem_nil))
    · rw [rkL, ei] at e
      obtain ⟨i', h1, h2, h3⟩ := rank (kf h d t' k') (pm.mem_iff.mpr ((eT_mem _).mpr ⟨t', k', ht', hk', it', rfl⟩))
      rw [h3, eqI (by omega) (by omega)] at e
      rw [e, hy] at h2
      have := Option.some.inj h2
      rw [ey] at this
      have hC' := nC_le hN t'
      obtain ⟨a1, a2⟩ := kf_inj (by omega) (by omega) (by omega) (by omega) this
      subst a1 a2
      rw [ea]
      split
      · exact ⟨rfl, rel1⟩
      · split
        · exact ⟨rfl, rel1⟩
        · split
          · exact ⟨rfl, rel1⟩
          · exact ⟨rfl, rel1⟩
    · refine absurd ?_ (nn y (pm.mem_iff.mp hyL))
      rw [rkL, hr, ei]
  refine s_Board_of_0 _ _ _ _ _ _ ?_
  rw [ei]
  refine c_get65 so hlen hy (c_get65 so hlen hy ?_)
  rw [d1, d2, ← ei]
  by_cases z0 : x4 = 0
  · rw [if_pos z0]
    exact ref _ (by rw [if_pos z0])
  rw [if_neg z0]
  by_cases z1 : x4 = 1
  · rw [if_pos z1]
    exact ref _ (by rw [if_neg z0, if_pos z1])
  rw [if_neg z1]
  by_cases z2 : x4 = 2
  · rw [if_pos z2]
    refine c_comesAt hN hon (by omega) (by omega) ?_
    rw [clI]
    exact ref _ (by rw [if_neg z0, if_neg z1, if_pos z2])
  rw [if_neg z2]
  refine c_leavesAt hN hon (by omega) (by omega) ?_
  rw [rlI]
  exact ref _ (by rw [if_neg z0, if_neg z1, if_neg z2])
