/-! ===== take: has the way its places ===== -/
def hpC (h : HP) (i k t d c : Nat) : Bool := decide (tkN h t d c + nI (fa_cnt (rov (h 105) (63 * i) (nI t) (nI d) (nI c)) k) ≤ h 14 t)
def hpL (h : HP) (i k t d : Nat) : Nat → Nat → Bool
  | 0, _ => true
  | m + 1, c => hpC h i k t d c && hpL h i k t d m (c + 1)
theorem c_hpOn_loop {G : GA} {h : HP} (hP : PlOK h) {i k q t d off : Nat} (w : WL h i k) (hq : q < k) (ht : t < 24) (ho : off ≤ 8) (e8 : h 105 (63 * i + 9 * q + 8) = nI off) {K : Bool → HP → Prop} : ∀ m c, c + m = off → K (hpL h i k t d m c) h → H_Tickets_hasPlacesOn_29 G h (nI i) (nI q) (nI t) (nI d) (nI c) K
  | 0, c, e, kk => by
    refine s_Tickets_hasPlacesOn_29 _ _ _ _ _ _ _ _ (c_ofLeg w hq 8 (by decide) ?_)
    rw [e8, if_pos (by rw [leI (by omega) (by omega)]; omega)]
    exact kk
  | m + 1, c, e, kk => by
    refine s_Tickets_hasPlacesOn_29 _ _ _ _ _ _ _ _ (c_ofLeg w hq 8 (by decide) ?_)
    rw [e8, if_neg (by rw [leI (by omega) (by omega)]; omega)]
    refine c_at hP (On.refl h) (by omega) ?_
    refine c_ridesOver w ?_
    rw [tnI (by omega), nI_1]
    refine ⟨in_nI ht (by decide), ?_⟩
    rw [hpL] at kk
    by_cases z : tkN h t d c + nI (fa_cnt (rov (h 105) (63 * i) (nI t) (nI d) (nI c)) k) ≤ h 14 t
    · rw [if_pos z]
      rw [hpC, decide_eq_true z, Bool.true_and] at kk
      exact c_hpOn_loop hP w hq ht ho e8 m (c + 1) (by omega) kk
    · rw [if_neg z]
      rw [hpC, decide_eq_false z, Bool.false_and] at kk
      exact kk
