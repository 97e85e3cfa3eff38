def wT (h : HP) (i q : Nat) : Nat := tn (h 105 (63 * i + 9 * q + 1))
def wD (h : HP) (i q : Nat) : Nat := tn (h 105 (63 * i + 9 * q + 6))
def wN (h : HP) (i q : Nat) : Nat := tn (h 105 (63 * i + 9 * q + 7))
def wF (h : HP) (i q : Nat) : Nat := tn (h 105 (63 * i + 9 * q + 8))
def hpW (h : HP) (i k : Nat) : Nat → Nat → Bool
  | 0, _ => true
  | m + 1, q => (if isP (h 105) (63 * i) q then hpL h i k (wT h i q) (wD h i q) (wF h i q - wN h i q) (wN h i q) else true) && hpW h i k m (q + 1)
theorem isP_iff {x : Int32} : (x = 1 ∨ x = 2) ↔ ¬ x ≤ 0 ∧ ¬ 2 < x := by
  have a0 : (0 : Int32).toInt = 0 := rfl
  have a1 : (1 : Int32).toInt = 1 := rfl
  have a2 : (2 : Int32).toInt = 2 := rfl
  rw [← Int32.toInt_inj, ← Int32.toInt_inj, fa_le, fa_lt, a0, a1, a2]
  omega
theorem c_hasPlaces_loop {G : GA} {h : HP} (hN : NetOK h) (hP : PlOK h) {i k : Nat} (w : WL h i k) (lg : ∀ q, q < k → LegOK h (fun c => h 105 (63 * i + 9 * q + c))) {K : Bool → HP → Prop} : ∀ m q, q + m = k → K (hpW h i k m q) h → H_Tickets_hasPlaces_2 G h (nI i) (nI q) K
  | 0, q, e, kk => by
    have hk := w.2.1
    refine s_Tickets_hasPlaces_2 _ _ _ _ _ (c_ofWay4 w ?_)
    rw [if_pos (by rw [leI (by omega) (by omega)]; omega)]
    exact kk
  | m + 1, q, e, kk => by
    have hk := w.2.1
    have hq : q < k := by omega
    have hT := nT_le hN
    refine s_Tickets_hasPlaces_2 _ _ _ _ _ (c_ofWay4 w ?_)
    rw [if_neg (by rw [leI (by omega) (by omega)]; omega), nI_1]
    refine c_ofLeg w hq 0 (by decide) ?_
    rw [hpW] at kk
    have ih := c_hasPlaces_loop (G := G) hN hP w lg m (q + 1) (by omega) (K := K)
    by_cases ip : isP (h 105) (63 * i) q
    · have z := isP_iff.mp ip
      rw [Nat.add_zero, if_neg z.1, if_neg z.2]
      rw [if_pos ip] at kk
      rcases leg_cases hN (lg q hq) with ⟨a1, _⟩ | ⟨a1, a2, a3, a4, a5, a6, a7, a8, a9, a10⟩
      · rcases ip with v | v <;> (dsimp only [Nat.add_zero] at a1; rw [v] at a1; exact absurd (by decide) a1)
      · have hC := nC_le hN (wT h i q)
        have a4 : wN h i q < wF h i q := a4
        have a5 : wF h i q < nC h (wT h i q) := a5
        refine s_Tickets_hasPlacesOn_0 _ _ _ _ _ (c_ofLeg w hq 1 (by decide) (c_ofLeg w hq 6 (by decide) (c_ofLeg w hq 7 (by decide) ?_)))
        rw [show h 105 (63 * i + 9 * q + 1) = nI (wT h i q) from a7, show h 105 (63 * i + 9 * q + 6) = nI (wD h i q) from a8, show h 105 (63 * i + 9 * q + 7) = nI (wN h i q) from a9]
        refine c_hpOn_loop (t := wT h i q) (d := wD h i q) (off := wF h i q) hP w hq (Nat.lt_of_lt_of_le a2 hT) (by omega) a10 (wF h i q - wN h i q) (wN h i q) (by omega) ?_
        cases c : hpL h i k (wT h i q) (wD h i q) (wF h i q - wN h i q) (wN h i q)
        · rw [if_neg (by decide)]
          rw [c] at kk
          exact kk
        · rw [if_pos rfl]
          rw [c, Bool.true_and] at kk
          exact ih kk
    · rw [if_neg ip, Bool.true_and] at kk
      have z := fun y => ip (isP_iff.mpr y)
      by_cases z1 : h 105 (63 * i + 9 * q + 0) ≤ 0
      · rw [if_pos z1]
        exact ih kk
      · rw [if_neg z1, if_pos (show 2 < h 105 (63 * i + 9 * q + 0) from Classical.byContradiction fun y => z ⟨z1, y⟩)]
        exact ih kk
