/-! ===== the runs of a question ===== -/
def fK (N : HP) (t d k : Nat) : Bool := decide (k < 8) && (!decide (N 12 t = 0) && decide (N 14 t ≤ tkN N t d k))
def okR (N : HP) (ask lim t d : Nat) : Bool := decide (2 ≤ nC N t) && (rO N t d && (decide (ask ≤ cT N t d (nC N t - 1)) && decide (lT N t d 0 < lim)))
def dayR (N : HP) (ask lim d : Nat) : Nat → List (Nat × Nat)
  | 0 => []
  | n + 1 => dayR N ask lim d n ++ (if okR N ask lim n d = true then [(n, d)] else [])
def allR (N : HP) (ask lim : Nat) : Nat → List (Nat × Nat)
  | 0 => []
  | n + 1 => allR N ask lim n ++ dayR N ask lim n (nT N)
def runsL (N : HP) (ask lim : Nat) : List (Nat × Nat) := allR N ask lim 100
def RA (N h : HP) (rs : List (Nat × Nat)) : Prop := h 42 5 = nI rs.length ∧ ∀ v t d, rs[v]? = some (t, d) → h 43 v = nI t ∧ h 44 v = nI d ∧ (∀ k, k < 32 → bt (h 45 v) k = fK N t d k) ∧ ∀ k, k < nC N t → h 46 (8 * v + k) = nI (cT N t d k) ∧ h 47 (8 * v + k) = nI (lT N t d k)
/-- the times of a run at its rows -/
def TA (N h : HP) (n t d q c : Nat) : Prop := ∀ k, k < c → h 46 (8 * n + k) = nI (1440 * d + aA N t k + lsN N t d k q) ∧ h 47 (8 * n + k) = nI (1440 * d + lA N t k + lsN N t d k q)
/-- what setTimes leaves -/
def SF (n : Nat) (h h' : HP) : Prop := Agr [46, 47] h h' ∧ (∀ j, ¬ (8 * n ≤ j ∧ j < 8 * n + 8) → h' 46 j = h 46 j) ∧ (∀ j, ¬ (8 * n ≤ j ∧ j < 8 * n + 8) → h' 47 j = h 47 j)
theorem SF.refl (n : Nat) (h : HP) : SF n h h := ⟨Agr.refl _ _, fun _ _ => rfl, fun _ _ => rfl⟩
theorem SF.put {n : Nat} {h h' : HP} (s : SF n h h') {k : Nat} (hk : k < 8) (x y : Int32) : SF n h (up (up h' 46 (8 * n + k) x) 47 (8 * n + k) y) := by
  refine ⟨(s.1.up (by decide) _ _).up (by decide) _ _, fun j hj => ?_, fun j hj => ?_⟩
  · rw [up_ce _ _ _ (by decide), up_sl _ _ (by omega)]
    exact s.2.1 j hj
  · rw [up_sl _ _ (by omega), up_ce _ _ _ (by decide)]
    exact s.2.2 j hj
theorem up2_46 (h : HP) (i : Nat) (x y : Int32) : (up (up h 46 i x) 47 i y) 46 i = x := by rw [up_ce _ _ _ (by decide), up_at]
theorem up2_47 (h : HP) (i : Nat) (x y : Int32) : (up (up h 46 i x) 47 i y) 47 i = y := by rw [up_at]
theorem up2_46n (h : HP) {i j : Nat} (x y : Int32) (e : j ≠ i) : (up (up h 46 i x) 47 i y) 46 j = h 46 j := by rw [up_ce _ _ _ (by decide), up_sl _ _ e]
theorem up2_47n (h : HP) {i j : Nat} (x y : Int32) (e : j ≠ i) : (up (up h 46 i x) 47 i y) 47 j = h 47 j := by rw [up_sl _ _ e, up_ce _ _ _ (by decide)]
theorem c_setTimes3 {G : GA} {N : HP} (hN : NetOK N) {n t d q c : Nat} (hn : n < 132) (hc : c ≤ 8) (hd : d < 100) (hq : q < nL N) {K : HP → Prop} {h0 : HP} (c1 : N 7 q = nI t) (c2 : N 8 q = nI d)
    (kk : ∀ h', On h' N → SF n h0 h' → TA N h' n t d (q + 1) c → H_Runs_setTimes_98 G h' (nI t) (nI d) (nI c) (nI (8 * n)) (nI q + 1) K) : ∀ (m k : Nat) (h : HP), k + m = c → On h N → SF n h0 h →
    (∀ j, j < c → (j < k ∨ ¬ N 9 q ≤ nI j → h 46 (8 * n + j) = nI (1440 * d + aA N t j + lsN N t d j (q + 1)) ∧ h 47 (8 * n + j) = nI (1440 * d + lA N t j + lsN N t d j (q + 1))) ∧ (¬ (j < k ∨ ¬ N 9 q ≤ nI j) → h 46 (8 * n + j) = nI (1440 * d + aA N t j + lsN N t d j q) ∧ h 47 (8 * n + j) = nI (1440 * d + lA N t j + lsN N t d j q))) → tn (N 9 q) ≤ k →
    H_Runs_setTimes_142 G h (nI t) (nI d) (nI c) (nI (8 * n)) (nI q) (nI k) K
  | 0, k, h, e, hon, sf, hj, h9 => by
    refine s_Runs_setTimes_142 G h _ _ _ _ _ _ K ?_
    have hl := nL_le hN
    rw [if_pos (by rw [leI (by omega) (by omega)]; omega)]
    exact kk h hon sf (fun j hjc => (hj j hjc).1 (Or.inl (by omega)))
  | m + 1, k, h, e, hon, sf, hj, h9 => by
    refine s_Runs_setTimes_142 G h _ _ _ _ _ _ K ?_
    have hl := nL_le hN
    have h10 := hN.2.1.2.2.1 q
    have h10t := h10.t
    have hq9 := hN.2.1.2.1 q
    rw [if_neg (by rw [leI (by omega) (by omega)]; omega), nI_add, nI_1]
    refine ⟨in_nI (by omega) (by decide), in_nI (by omega) (by decide), ?_⟩
    rintro _ rfl _ rfl
    have hcond : N 9 q ≤ nI k := by rw [hq9.e, leI (by omega) (by omega)]; exact h9
    have hjk := (hj k (by omega)).2 (fun o => by rcases o with o | o; omega; exact o hcond)
    rw [tnI (by omega), tnI (by omega), hon.c 10, hjk.1, hjk.2, h10.e, nI_add, nI_add]
    have els : lsN N t d k (q + 1) = lsN N t d k q + tn (N 10 q) := by simp only [lsN, c1, c2, hcond, and_self, if_true]
    refine c_setTimes3 hN hn hc hd hq c1 c2 kk m (k + 1) _ (by omega) ((hon.up (by decide) _ _).up (by decide) _ _) (sf.put (by omega) _ _) (fun j hjc => ?_) (by omega)
    by_cases ej : j = k
    · subst ej
      refine ⟨fun _ => ?_, fun o => absurd (Or.inl (by omega)) o⟩
      rw [up2_46, up2_47, els]
      exact ⟨by congr 1; omega, by congr 1; omega⟩
    · rw [up2_46n _ _ _ (by omega), up2_47n _ _ _ (by omega)]
      refine ⟨fun o => (hj j hjc).1 ?_, fun o => (hj j hjc).2 (fun o2 => o ?_)⟩
      · rcases o with o | o
        · exact Or.inl (by omega)
        · exact Or.inr o
      · rcases o2 with o2 | o2
        · exact Or.inl (by omega)
        · exact Or.inr o2
theorem c_setTimes2 {G : GA} {N : HP} (hN : NetOK N) {n t d c : Nat} (hn : n < 132) (hc : c ≤ 8) (hd : d < 100) {K : HP → Prop} {h0 : HP}
    (kk : ∀ h', On h' N → SF n h0 h' → TA N h' n t d (nL N) c → K h') : ∀ (m q : Nat) (h : HP), q + m = nL N → On h N → SF n h0 h → TA N h n t d q c →
    H_Runs_setTimes_98 G h (nI t) (nI d) (nI c) (nI (8 * n)) (nI q) K
  | 0, q, h, e, hon, sf, ta => by
    refine s_Runs_setTimes_98 G h _ _ _ _ _ K ?_
    have hl := nL_le hN
    rw [hon.c 6, ok_L hN, if_pos (by rw [leI (by omega) (by omega)]; omega)]
    rw [show q = nL N by omega] at ta
    exact kk h hon sf ta
  | m + 1, q, h, e, hon, sf, ta => by
    refine s_Runs_setTimes_98 G h _ _ _ _ _ K ?_
    have hl := nL_le hN
    rw [hon.c 6, ok_L hN, if_neg (by rw [leI (by omega) (by omega)]; omega)]
    refine ⟨in_nI (by omega) (by decide), ?_⟩
    rw [hon.c 7, hon.c 8, hon.c 9, tnI (by omega)]
    have ih : ∀ h', On h' N → SF n h0 h' → TA N h' n t d (q + 1) c → H_Runs_setTimes_98 G h' (nI t) (nI d) (nI c) (nI (8 * n)) (nI q + 1) K := fun h' a b ta' => by
      rw [nI_1]
      exact c_setTimes2 hN hn hc hd kk m (q + 1) h' (by omega) a b ta'
    have skip : (¬ (N 7 q = nI t ∧ N 8 q = nI d)) → TA N h n t d (q + 1) c := fun hno k hk => by
      have := ta k hk
      simp only [lsN]
      rw [if_neg (fun z => hno ⟨z.1, z.2.1⟩), Nat.add_zero]
      exact this
    by_cases c1 : N 7 q = nI t
    · rw [if_pos c1]
      by_cases c2 : N 8 q = nI d
      · rw [if_pos c2]
        have hq9 := hN.2.1.2.1 q
        have hq9t := hq9.t
        rw [hq9.e]
        have hls : ∀ j, ¬ N 9 q ≤ nI j → lsN N t d j (q + 1) = lsN N t d j q := fun j hj => by simp only [lsN, hj, and_false, if_false, Nat.add_zero]
        rcases Nat.lt_or_ge c (tn (N 9 q)) with z | z
        · refine s_Runs_setTimes_142 G h _ _ _ _ _ _ K ?_
          rw [if_pos (by rw [leI (by omega) (by omega)]; omega)]
          refine ih h hon sf (fun k hk => ?_)
          rw [hls k (by rw [hq9.e, leI (by omega) (by omega)]; omega)]
          exact ta k hk
        · refine c_setTimes3 hN hn hc hd (by omega) c1 c2 ih (c - tn (N 9 q)) (tn (N 9 q)) h (by omega) hon sf (fun j hjc => ⟨fun o => ?_, fun o => ta j hjc⟩) (Nat.le_refl _)
          have hno : ¬ N 9 q ≤ nI j := by
            rcases o with o | o
            · rw [hq9.e, leI (by omega) (by omega)]; omega
            · exact o
          rw [hls j hno]
          exact ta j hjc
      · rw [if_neg c2]
        exact ih h hon sf (skip (fun z => c2 z.2))
    · rw [if_neg c1]
      exact ih h hon sf (skip (fun z => c1 z.1))
theorem c_setTimes1 {G : GA} {N : HP} (hN : NetOK N) {n t d c : Nat} (hn : n < 132) (hc : c ≤ 8) (hd : d < 100) (ht : t < 24) {K : HP → Prop} {h0 : HP}
    (kk : ∀ h', On h' N → SF n h0 h' → TA N h' n t d (nL N) c → K h') : ∀ (m k : Nat) (h : HP), k + m = c → On h N → SF n h0 h → TA N h n t d 0 k →
    H_Runs_setTimes_12 G h (nI t) (nI d) (nI c) (nI (8 * n)) (nI k) K
  | 0, k, h, e, hon, sf, ta => by
    refine s_Runs_setTimes_12 G h _ _ _ _ _ K ?_
    rw [if_pos (by rw [leI (by omega) (by omega)]; omega)]
    rw [show k = c by omega] at ta
    exact c_setTimes2 hN hn hc hd kk (nL N) 0 h (by omega) hon sf ta
  | m + 1, k, h, e, hon, sf, ta => by
    refine s_Runs_setTimes_12 G h _ _ _ _ _ K ?_
    rw [if_neg (by rw [leI (by omega) (by omega)]; omega), ix8, nI_add, nI_1, tnI (by omega), tnI (by omega)]
    refine ⟨in_nI (by omega) (by decide), in_nI (by omega) (by decide), ?_⟩
    rintro _ rfl _ rfl
    rw [hon.c 18, hon.c 19, ok_aA hN, ok_lA hN, show (1440 : Int32) = nI 1440 from rfl, pk_mul, nI_add, nI_add]
    refine c_setTimes1 hN hn hc hd ht kk m (k + 1) _ (by omega) ((hon.up (by decide) _ _).up (by decide) _ _) (sf.put (by omega) _ _) (fun j hj => ?_)
    by_cases ej : j = k
    · subst ej
      rw [up2_46, up2_47]
      exact ⟨rfl, rfl⟩
    · rw [up2_46n _ _ _ (by omega), up2_47n _ _ _ (by omega)]
      exact ta j (by omega)
theorem c_setTimes {G : GA} {N h : HP} (hN : NetOK N) {n t d : Nat} (hn : n < 132) (hd : d < 100) (ht : t < 24) {K : HP → Prop} (hon : On h N) (hs : h 42 5 = nI n)
    (kk : ∀ h', On h' N → SF n h h' → (∀ k, k < nC N t → h' 46 (8 * n + k) = nI (cT N t d k) ∧ h' 47 (8 * n + k) = nI (lT N t d k)) → K h') : P_Runs_setTimes G h (nI t) (nI d) (nI (nC N t)) K := by
  refine s_Runs_setTimes_0 G h _ _ _ K ?_
  rw [hs, show (8 : Int32) = nI 8 from rfl, pk_mul, Nat.mul_comm]
  exact c_setTimes1 hN hn (nC_le hN t) hd ht (fun h' a b c => kk h' a b c) (nC N t) 0 h (by omega) hon (SF.refl _ _) (fun k hk => by omega)
