/-! ===== take: the class's question for places ===== -/
/-- way i has k legs, and its legs lie in both alike -/
def WL (h : HP) (i k : Nat) : Prop := i < 58 ∧ k ≤ 7 ∧ h 55 (5 * i + 4) = nI k ∧ ∀ q, q < k → ∀ c, c < 9 → h 56 ((7 * i + q) * 9 + c) = h 105 (63 * i + 9 * q + c)
theorem c_ofWay4 {G : GA} {h : HP} {i k : Nat} (w : WL h i k) {K : Int32 → HP → Prop} (kk : K (nI k) h) : P_Found_ofWay G h (nI i) 4 K := by
  have hi := w.1
  refine s_Found_ofWay_0 _ _ _ _ _ ?_
  rw [show (5 : Int32) = nI 5 from rfl, show (4 : Int32) = nI 4 from rfl, pk_mul, nI_add, tnI (by omega), show i * 5 + 4 = 5 * i + 4 by omega, w.2.2.1]
  exact ⟨in_nI (by omega) (by decide), kk⟩
theorem c_ofLeg {G : GA} {h : HP} {i k q : Nat} (w : WL h i k) (hq : q < k) (c : Nat) (hc : c < 9) {K : Int32 → HP → Prop} (kk : K (h 105 (63 * i + 9 * q + c)) h) : P_Found_ofLeg G h (nI i) (nI q) (nI c) K := by
  have hi := w.1
  have hk := w.2.1
  refine s_Found_ofLeg_0 _ _ _ _ _ _ ?_
  rw [show (7 : Int32) = nI 7 from rfl, show (9 : Int32) = nI 9 from rfl, pk_mul, nI_add, pk_mul, nI_add, show i * 7 = 7 * i by omega, tnI (by omega), w.2.2.2 q hq c hc]
  exact ⟨in_nI (by omega) (by decide), kk⟩
def rov (f : Nat → Int32) (B : Nat) (t d c : Int32) (q : Nat) : Bool := decide (f (B + 9 * q + 1) = t ∧ f (B + 9 * q + 6) = d ∧ f (B + 9 * q + 7) ≤ c ∧ c < f (B + 9 * q + 8))
theorem c_ridesOver_loop {G : GA} {h : HP} {i k : Nat} (w : WL h i k) {t d c : Int32} {K : Int32 → HP → Prop} (kk : K (nI (fa_cnt (rov (h 105) (63 * i) t d c) k)) h) : ∀ m q, q + m = k → H_Found_ridesOver_6 G h (nI i) t d c (nI (fa_cnt (rov (h 105) (63 * i) t d c) q)) (nI q) K
  | 0, q, e => by
    have hk := w.2.1
    refine s_Found_ridesOver_6 _ _ _ _ _ _ _ _ _ (c_ofWay4 w ?_)
    rw [if_pos (by rw [leI (by omega) (by omega)]; omega), show q = k by omega]
    exact kk
  | m + 1, q, e => by
    have hk := w.2.1
    have hq : q < k := by omega
    have ih := c_ridesOver_loop (G := G) w kk m (q + 1) (by omega)
    refine s_Found_ridesOver_6 _ _ _ _ _ _ _ _ _ (c_ofWay4 w ?_)
    rw [if_neg (by rw [leI (by omega) (by omega)]; omega)]
    have no : ¬ (h 105 (63 * i + 9 * q + 1) = t ∧ h 105 (63 * i + 9 * q + 6) = d ∧ h 105 (63 * i + 9 * q + 7) ≤ c ∧ c < h 105 (63 * i + 9 * q + 8)) → H_Found_ridesOver_6 G h (nI i) t d c (nI (fa_cnt (rov (h 105) (63 * i) t d c) q)) (nI q + 1) K := fun z => by
      rw [fa_cnt_no (decide_eq_false z)] at ih
      rw [nI_1]
      exact ih
    refine c_ofLeg w hq 1 (by decide) ?_
    by_cases c1 : h 105 (63 * i + 9 * q + 1) = t
    rotate_left
    · rw [if_neg c1]
      exact no (fun z => c1 z.1)
    rw [if_pos c1]
    refine c_ofLeg w hq 6 (by decide) ?_
    by_cases c2 : h 105 (63 * i + 9 * q + 6) = d
    rotate_left
    · rw [if_neg c2]
      exact no (fun z => c2 z.2.1)
    rw [if_pos c2]
    refine c_ofLeg w hq 7 (by decide) ?_
    by_cases c3 : c < h 105 (63 * i + 9 * q + 7)
    · rw [if_pos c3]
      exact no (fun z => by have z1 := z.2.2.1; rw [fa_le] at z1; rw [fa_lt] at c3; omega)
    rw [if_neg c3]
    refine c_ofLeg w hq 8 (by decide) ?_
    by_cases c4 : h 105 (63 * i + 9 * q + 8) ≤ c
    · rw [if_pos c4]
      exact no (fun z => by have z1 := z.2.2.2; rw [fa_lt] at z1; rw [fa_le] at c4; omega)
    rw [if_neg c4]
    rw [fa_cnt_yes (decide_eq_true ⟨c1, c2, fa_of_nlt c3, fa_of_nle c4⟩)] at ih
    rw [nI_1, nI_1]
    exact ih
theorem c_ridesOver {G : GA} {h : HP} {i k : Nat} (w : WL h i k) {t d c : Int32} {K : Int32 → HP → Prop} (kk : K (nI (fa_cnt (rov (h 105) (63 * i) t d c) k)) h) : P_Found_ridesOver G h (nI i) t d c K :=
  s_Found_ridesOver_0 _ _ _ _ _ _ _ (c_ridesOver_loop w kk k 0 (by omega))
