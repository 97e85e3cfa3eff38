/-! ===== the reference: its network is N ===== -/
def mP : List (Nat × Nat) := [(68, 3), (69, 4), (70, 5), (71, 20), (72, 12), (73, 13), (74, 14), (75, 15), (76, 17), (77, 18), (78, 19), (81, 23), (82, 24), (83, 25), (84, 26), (85, 27), (86, 28), (87, 29), (88, 30), (89, 7), (90, 8), (91, 9), (92, 10)]
def OnM (h N : HP) : Prop := (∀ p ∈ mP, h p.1 = N p.2) ∧ (h 67 0 = N 2 3 ∧ h 67 1 = N 11 11 ∧ h 67 2 = N 22 8 ∧ h 67 3 = N 6 4) ∧ (∀ t k, t < 24 → k < 8 → (h 79 (8 * t + k) = 0 ↔ bt (N 16 t) k = false)) ∧ (∀ t d, t < 24 → d < 100 → (h 80 (100 * t + d) = 0 ↔ bt (N 21 d) t = false)) ∧ ∀ t d k, t < 24 → d < 100 → k < 8 → h 93 ((100 * t + d) * 8 + k) = tkN N t d k
theorem OnM.c {h N : HP} (hm : OnM h N) (a b : Nat) (hp : (a, b) ∈ mP := by decide) : h a = N b := hm.1 (a, b) hp
def AM (S T : List Nat) (h h' : HP) : Prop := (∀ k, k ∉ S → k ≠ 67 → h' k = h k) ∧ ∀ j, j ∉ T → h' 67 j = h 67 j
theorem AM.refl (S T : List Nat) (h : HP) : AM S T h h := ⟨fun _ _ _ => rfl, fun _ _ => rfl⟩
theorem AM.trans {S T : List Nat} {a b c : HP} (h1 : AM S T a b) (h2 : AM S T b c) : AM S T a c := ⟨fun k hk h6 => (h2.1 k hk h6).trans (h1.1 k hk h6), fun j hj => (h2.2 j hj).trans (h1.2 j hj)⟩
theorem AM.mono {S T S' T' : List Nat} {a b : HP} (h : AM S T a b) (hs : ∀ k, k ∈ S → k ∈ S') (ht : ∀ k, k ∈ T → k ∈ T') : AM S' T' a b := ⟨fun k hk h6 => h.1 k (fun q => hk (hs k q)) h6, fun j hj => h.2 j (fun q => hj (ht j q))⟩
theorem AM.pt {S T : List Nat} {a b : HP} (h : AM S T a b) {k : Nat} (hk : k ∈ S) (h67 : k ≠ 67) (j : Nat) (x : Int32) : AM S T a (up b k j x) := ⟨fun q hq h6 => by
  rw [up_ce _ _ _ (fun e => hq (by rw [e]; exact hk))]
  exact h.1 q hq h6, fun q hq => by rw [up_ce _ _ _ (fun e => h67 e.symm)]; exact h.2 q hq⟩
theorem AM.p67 {S T : List Nat} {a b : HP} (h : AM S T a b) {j : Nat} (hj : j ∈ T) (x : Int32) : AM S T a (up b 67 j x) := ⟨fun q hq h6 => by
  rw [up_ce _ _ _ h6]
  exact h.1 q hq h6, fun q hq => by rw [up_sl _ _ (fun e => hq (by rw [e]; exact hj))]; exact h.2 q hq⟩
theorem OnM.am {h h' N : HP} {S T : List Nat} (hm : OnM h N) (ha : AM S T h h') (hS : ∀ k, k ∈ S → 94 ≤ k := by decide) (hT : ∀ j, j ∈ T → 4 ≤ j := by decide) : OnM h' N := by
  have e : ∀ k, 68 ≤ k → k < 94 → h' k = h k := fun k h1 h2 => ha.1 k (fun q => by have := hS k q; omega) (by omega)
  have e67 : ∀ j, j < 4 → h' 67 j = h 67 j := fun j hj => ha.2 j (fun q => by have := hT j q; omega)
  refine ⟨fun p hp => ?_, ?_, fun t k h1 h2 => ?_, fun t d h1 h2 => ?_, fun t d k h1 h2 h3 => ?_⟩
  · have hr : ∀ p ∈ mP, 68 ≤ p.1 ∧ p.1 < 94 := by decide
    rw [e p.1 (hr p hp).1 (hr p hp).2]
    exact hm.1 p hp
  · rw [e67 0 (by decide), e67 1 (by decide), e67 2 (by decide), e67 3 (by decide)]
    exact hm.2.1
  · rw [e 79 (by decide) (by decide)]; exact hm.2.2.1 t k h1 h2
  · rw [e 80 (by decide) (by decide)]; exact hm.2.2.2.1 t d h1 h2
  · rw [e 93 (by decide) (by decide)]; exact hm.2.2.2.2 t d k h1 h2 h3
theorem cm_in {G : GA} {h : HP} {x a b : Int32} {K : Bool → HP → Prop} (k : K (decide (a ≤ x ∧ x ≤ b)) h) : P_Model_in G h x a b K := by
  refine s_Model_in_0 G h x a b K ?_
  split
  · rename_i c
    rw [decide_eq_false (by rw [fa_le, fa_lt] at *; omega)] at k
    exact k
  · split
    · rename_i c
      rw [decide_eq_false (by rw [fa_le, fa_lt] at *; rw [fa_le]; omega)] at k
      exact k
    · rename_i c1 c2
      rw [decide_eq_true (by rw [fa_lt] at c1 c2; rw [fa_le, fa_le]; omega)] at k
      exact k
theorem cm_late_loop {G : GA} {h N : HP} (hN : NetOK N) (hm : OnM h N) {t d k : Nat} {K : Int32 → HP → Prop} (kk : K (nI (late N t d k)) h) : ∀ m n, n + m = nL N → H_Model_lateAt_6 G h (nI t) (nI d) (nI k) (nI (lsN N t d k n)) (nI n) K
  | 0, n, e => by
    refine s_Model_lateAt_6 G h _ _ _ _ _ K ?_
    have hl := nL_le hN
    rw [hm.2.1.2.2.2, ok_L hN, if_pos (by rw [leI (by omega) (by omega)]; omega)]
    rw [Nat.add_zero] at e
    rw [e]
    exact kk
  | m + 1, n, e => by
    refine s_Model_lateAt_6 G h _ _ _ _ _ K ?_
    have hl := nL_le hN
    have ih := cm_late_loop hN hm (G := G) (t := t) (d := d) (k := k) kk m (n + 1) (by omega)
    rw [hm.2.1.2.2.2, ok_L hN, if_neg (by rw [leI (by omega) (by omega)]; omega)]
    refine ⟨in_nI (by omega) (by decide), ?_⟩
    rw [hm.c 89 7, hm.c 90 8, hm.c 91 9, hm.c 92 10, tnI (by omega)]
    have e1 : nI n + 1 = nI (n + 1) := nI_1 n
    have h10 := hN.2.1.2.2.1 n
    rw [e1]
    by_cases c1 : N 7 n = nI t
    · by_cases c2 : N 8 n = nI d
      · by_cases c3 : N 9 n ≤ nI k
        · rw [if_pos c1, if_pos c2, if_neg (by rw [fa_lt]; rw [fa_le] at c3; omega), h10.e, nI_add]
          simp only [lsN, c1, c2, c3, and_self, if_true] at ih
          exact ih
        · rw [if_pos c1, if_pos c2, if_pos (by rw [fa_lt]; rw [fa_le] at c3; omega)]
          simp only [lsN, c3, and_false, if_false, Nat.add_zero] at ih
          exact ih
      · rw [if_pos c1, if_neg c2]
        simp only [lsN, c2, and_false, false_and, if_false, Nat.add_zero] at ih
        exact ih
    · rw [if_neg c1]
      simp only [lsN, c1, false_and, if_false, Nat.add_zero] at ih
      exact ih
theorem cm_late {G : GA} {h N : HP} (hN : NetOK N) (hm : OnM h N) {t d k : Nat} {K : Int32 → HP → Prop} (kk : K (nI (late N t d k)) h) : P_Model_lateAt G h (nI t) (nI d) (nI k) K :=
  s_Model_lateAt_0 G h _ _ _ K (cm_late_loop hN hm kk (nL N) 0 (by omega))
theorem cm_comesAt {G : GA} {h N : HP} (hN : NetOK N) (hm : OnM h N) {t d k : Nat} (ht : t < 24) (hk : k < 8) {K : Int32 → HP → Prop} (kk : K (nI (cT N t d k)) h) : P_Model_comesAt G h (nI t) (nI d) (nI k) K := by
  refine s_Model_comesAt_0 G h _ _ _ K ?_
  rw [ix8']
  refine ⟨in_nI (by omega) (by decide), cm_late hN hm ?_⟩
  rw [hm.c 77 18, tnI (by omega), ok_aA hN, show (1440 : Int32) = nI 1440 from rfl, pk_mul, nI_add, nI_add]
  exact kk
theorem cm_leavesAt {G : GA} {h N : HP} (hN : NetOK N) (hm : OnM h N) {t d k : Nat} (ht : t < 24) (hk : k < 8) {K : Int32 → HP → Prop} (kk : K (nI (lT N t d k)) h) : P_Model_leavesAt G h (nI t) (nI d) (nI k) K := by
  refine s_Model_leavesAt_0 G h _ _ _ K ?_
  rw [ix8']
  refine ⟨in_nI (by omega) (by decide), cm_late hN hm ?_⟩
  rw [hm.c 78 19, tnI (by omega), ok_lA hN, show (1440 : Int32) = nI 1440 from rfl, pk_mul, nI_add, nI_add]
  exact kk
theorem cm_runs {G : GA} {h N : HP} (hN : NetOK N) (hm : OnM h N) {t d : Nat} (ht : t < 24) (hd : d < 100) {K : Bool → HP → Prop} (kk : K (rO N t d) h) : P_Model_runs G h (nI t) (nI d) K := by
  refine s_Model_runs_0 G h _ _ K ⟨in_nI ht (by decide), in_nI hd (by decide), ?_⟩
  rw [hm.c 73 13, hm.c 71 20, tnI (by omega), tnI (by omega), ix100', tnI (by omega)]
  have hq := hN.2.2.2.1.2.2.2.2.2.2 d
  have hq6 := hq.t
  rw [hq.e, bit_shr (by omega)]
  unfold rO at kk
  cases hb : bt (N 13 t) (tn (N 20 d))
  · rw [hb] at kk
    rw [if_neg (by decide)]
    exact kk
  · rw [hb] at kk
    rw [if_pos (by decide)]
    refine ⟨in_nI (by omega) (by decide), ?_⟩
    have hg := hm.2.2.2.1 t d ht hd
    cases hb2 : bt (N 21 d) t
    · rw [hb2] at kk
      rw [if_pos (hg.mpr hb2)]
      exact kk
    · rw [hb2] at kk
      rw [if_neg (fun q => by rw [hg.mp q] at hb2; cases hb2)]
      exact kk
/-! ===== walks ===== -/
theorem cm_begins_loop {G : GA} {h N : HP} (hN : NetOK N) (hm : OnM h N) {w time : Nat} (hw : w < nW N) (hk : ¬ N 26 w = 3) (ht : time < 1000000000) {K : Int32 → HP → Prop} (kk : K (nI (nx N w time)) h) (hf : tn (N 27 w) < time % 1440) : ∀ n k, k + n = (time % 1440 - tn (N 27 w) + tn (N 29 w) - 1) / tn (N 29 w) → H_Model_begins_64 G h (nI w) (nI time) (nI (time / 1440)) (nI (tn (N 27 w) + k * tn (N 29 w))) K := by
  have hw20 := nW_le hN
  have h1 := hN.2.2.2.2.2.2.2.2.1 w
  have h2 := hN.2.2.2.2.2.2.2.2.2.1 w
  have h3 := hN.2.2.2.2.2.2.2.2.2.2.1 w
  obtain ⟨-, -, q | ⟨-, q1, q2⟩⟩ := hN.2.2.2.2.2.2.2.2.2.2.2.2 w hw
  · exact absurd q hk
  have b1 := h1.t
  have b2 := h2.t
  have b3 := h3.t
  have hml := Nat.mod_lt time (show 0 < 1440 by decide)
  have hdm := Nat.div_add_mod time 1440
  unfold nx nB at kk
  rw [if_pos hf] at kk
  have e85 : h 85 w = nI (tn (N 27 w)) := by rw [hm.c 85 27]; exact h1.e
  have e86 : h 86 w = nI (tn (N 28 w)) := by rw [hm.c 86 28]; exact h2.e
  have e87 : h 87 w = nI (tn (N 29 w)) := by rw [hm.c 87 29]; exact h3.e
  generalize tn (N 27 w) = f at *
  generalize tn (N 28 w) = l at *
  generalize tn (N 29 w) = e at *
  have hdiv := Nat.div_add_mod (time % 1440 - f + e - 1) e
  have hmod := Nat.mod_lt (time % 1440 - f + e - 1) (show 0 < e by omega)
  generalize hk0 : (time % 1440 - f + e - 1) / e = k0 at *
  have hk0e : e * k0 = k0 * e := Nat.mul_comm e k0
  have again : l < f + k0 * e → H_Model_begins_56 G h (nI w) (nI time) (nI (time / 1440) + 1) K := fun hl => by
    refine s_Model_begins_56 G h _ _ _ K ⟨in_nI (by omega) (by decide), ?_⟩
    refine s_Model_begins_64 G h _ _ _ _ K ⟨in_nI (by omega) (by decide), ?_⟩
    rw [tnI (by omega), e85, e86, e87, if_neg (by rw [ltI (by omega) (by omega)]; omega), nI_1, show (1440 : Int32) = nI 1440 from rfl, pk_mul, nI_add, if_neg (by rw [ltI (by omega) (by omega)]; omega)]
    rw [if_pos hl] at kk
    rw [show 1440 * (time / 1440 + 1) + f = time - time % 1440 + 1440 + f by omega]
    exact kk
  intro n
  induction n with
  | zero =>
    intro k hkk
    rw [Nat.add_zero] at hkk
    subst hkk
    refine s_Model_begins_64 G h _ _ _ _ K ⟨in_nI (by omega) (by decide), ?_⟩
    rw [tnI (by omega), e86, e87]
    by_cases c : l < f + k * e
    · rw [if_pos (by rw [ltI (by omega) (by omega)]; exact c)]
      exact again c
    · rw [if_neg (by rw [ltI (by omega) (by omega)]; exact c), show (1440 : Int32) = nI 1440 from rfl, pk_mul, nI_add, if_neg (by rw [ltI (by omega) (by omega)]; omega)]
      rw [if_neg c] at kk
      rw [show 1440 * (time / 1440) + (f + k * e) = time - time % 1440 + (f + k * e) by omega]
      exact kk
  | succ n ih =>
    intro k hkk
    have hle : (k + 1) * e ≤ k0 * e := Nat.mul_le_mul_right e (by omega)
    have hk1 : (k + 1) * e = k * e + e := Nat.succ_mul k e
    refine s_Model_begins_64 G h _ _ _ _ K ⟨in_nI (by omega) (by decide), ?_⟩
    rw [tnI (by omega), e86, e87]
    by_cases c : l < f + k * e
    · rw [if_pos (by rw [ltI (by omega) (by omega)]; exact c)]
      exact again (by omega)
    · rw [if_neg (by rw [ltI (by omega) (by omega)]; exact c), show (1440 : Int32) = nI 1440 from rfl, pk_mul, nI_add, nI_add, if_pos (by rw [ltI (by omega) (by omega)]; omega)]
      rw [show f + k * e + e = f + (k + 1) * e by omega]
      exact ih (k + 1) (by omega)
theorem cm_next {G : GA} {h N : HP} (hN : NetOK N) (hm : OnM h N) {w time : Nat} (hw : w < nW N) (hk : ¬ N 26 w = 3) (ht : time < 1000000000) {K : Int32 → HP → Prop} (kk : K (nI (nx N w time)) h) : H_Model_begins_56 G h (nI w) (nI time) (nI (time / 1440)) K := by
  have hw20 := nW_le hN
  have h1 := hN.2.2.2.2.2.2.2.2.1 w
  have h2 := hN.2.2.2.2.2.2.2.2.2.1 w
  obtain ⟨-, -, q | ⟨-, q1, q2⟩⟩ := hN.2.2.2.2.2.2.2.2.2.2.2.2 w hw
  · exact absurd q hk
  have b1 := h1.t
  have b2 := h2.t
  have hml := Nat.mod_lt time (show 0 < 1440 by decide)
  have hdm := Nat.div_add_mod time 1440
  refine s_Model_begins_56 G h _ _ _ K ⟨in_nI (by omega) (by decide), ?_⟩
  rw [tnI (by omega), hm.c 85 27, h1.e]
  by_cases c : tn (N 27 w) < time % 1440
  · have := cm_begins_loop hN hm hw hk ht kk c (G := G) _ 0 (Nat.zero_add _)
    rw [Nat.zero_mul, Nat.add_zero] at this
    exact this
  · refine s_Model_begins_64 G h _ _ _ _ K ⟨in_nI (by omega) (by decide), ?_⟩
    unfold nx nB at kk
    rw [if_neg c] at kk
    rw [tnI (by omega), hm.c 86 28, h2.e, if_neg (by rw [ltI (by omega) (by omega)]; omega), show (1440 : Int32) = nI 1440 from rfl, pk_mul, nI_add, if_neg (by rw [ltI (by omega) (by omega)]; omega)]
    rw [show 1440 * (time / 1440) + tn (N 27 w) = time - time % 1440 + tn (N 27 w) by omega]
    exact kk
theorem cm_begins {G : GA} {h N : HP} (hN : NetOK N) (hm : OnM h N) {w time ask : Nat} (hw : w < nW N) (ht : time < 500000000) (ha : ask < 500000000) {K : Int32 → HP → Prop} (kk : K (nI (wB N w time ask)) h) : P_Model_begins G h (nI w) (nI time) (nI ask) K := by
  have hw20 := nW_le hN
  have h4 := hN.2.2.2.2.2.2.2.2.2.2.2.1 w
  have b4 := h4.t
  refine s_Model_begins_0 G h _ _ _ K ⟨in_nI (by omega) (by decide), ?_⟩
  rw [hm.c 84 26, hm.c 88 30, tnI (by omega)]
  unfold wB at kk
  by_cases c1 : N 26 w = 3
  · rw [if_pos c1] at kk ⊢
    exact kk
  · rw [if_neg c1] at kk ⊢
    have e1440 : (1440 : Int32) = nI 1440 := rfl
    by_cases c2 : N 26 w = 5
    · rw [if_pos c2] at kk ⊢
      rw [h4.e]
      generalize tn (N 30 w) = a at *
      rw [nI_add, e1440, pk_div (by omega) (by decide) (by decide), pk_div (by omega) (by decide) (by decide)]
      by_cases c3 : time < ask + a
      · rw [if_pos c3] at kk
        rw [if_neg (by rw [leI (by omega) (by omega)]; omega)]
        exact cm_next hN hm hw c1 (by omega) kk
      · rw [if_neg c3] at kk
        rw [if_pos (by rw [leI (by omega) (by omega)]; omega)]
        exact cm_next hN hm hw c1 (by omega) kk
    · rw [if_neg c2] at kk ⊢
      rw [e1440, pk_div (by omega) (by decide) (by decide)]
      exact cm_next hN hm hw c1 (by omega) kk
theorem cm_behind {G : GA} {h N : HP} (hN : NetOK N) (hm : OnM h N) {w time ask : Nat} (hw : w < nW N) (ht : time < 500000000) (ha : ask < 500000000) {K : Int32 → HP → Prop} (kk : K (nI (wE N w time ask)) h) : P_Model_behind G h (nI w) (nI time) (nI ask) K := by
  have hw20 := nW_le hN
  have hv := NVRe
  refine s_Model_behind_0 G h _ _ _ K (cm_begins hN hm hw ht ha ⟨in_nI (by omega) (by decide), ?_⟩)
  unfold wE at kk
  rw [if_pos (by omega)] at kk
  rw [hm.c 83 25, tnI (by omega), (hN.2.2.2.2.2.2.2.1 w).e, nI_add]
  exact kk
