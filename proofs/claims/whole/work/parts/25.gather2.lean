theorem up_app (h : HP) (k j : Nat) (x : Int32) (k' j' : Nat) : up h k j x k' j' = if k' = k then (if j' = j then x else h k' j') else h k' j' := by
  unfold up hset upd
  by_cases c : k' = k
  · subst c; simp
  · simp [c]
theorem RA.sf {N h h' : HP} {rs : List (Nat × Nat)} (ra : RA N h rs) (sf : SF rs.length h h') (hN : NetOK N) : RA N h' rs := by
  refine ⟨by rw [sf.1 42 (by decide)]; exact ra.1, fun v t d hv => ?_⟩
  have hlt := (List.getElem?_eq_some_iff.mp hv).1
  obtain ⟨h1, h2, h3, h4⟩ := ra.2 v t d hv
  have hc := nC_le hN t
  rw [sf.1 43 (by decide), sf.1 44 (by decide), sf.1 45 (by decide)]
  refine ⟨h1, h2, h3, fun k hk => ?_⟩
  rw [sf.2.1 _ (by omega), sf.2.2 _ (by omega)]
  exact h4 k hk
theorem RA.push {N h : HP} {rs : List (Nat × Nat)} (ra : RA N h rs) {t d : Nat} {m : Int32} (hm : ∀ k, k < 32 → bt m k = fK N t d k) (htm : ∀ k, k < nC N t → h 46 (8 * rs.length + k) = nI (cT N t d k) ∧ h 47 (8 * rs.length + k) = nI (lT N t d k)) :
    RA N (up (up (up (up h 43 rs.length (nI t)) 44 rs.length (nI d)) 45 rs.length m) 42 5 (nI (rs.length + 1))) (rs ++ [(t, d)]) := by
  refine ⟨by rw [up_at, List.length_append, List.length_singleton], fun v t' d' hv => ?_⟩
  have e46 : ∀ j, (up (up (up (up h 43 rs.length (nI t)) 44 rs.length (nI d)) 45 rs.length m) 42 5 (nI (rs.length + 1))) 46 j = h 46 j := fun j => by simp [up_app]
  have e47 : ∀ j, (up (up (up (up h 43 rs.length (nI t)) 44 rs.length (nI d)) 45 rs.length m) 42 5 (nI (rs.length + 1))) 47 j = h 47 j := fun j => by simp [up_app]
  have e43 : ∀ j, (up (up (up (up h 43 rs.length (nI t)) 44 rs.length (nI d)) 45 rs.length m) 42 5 (nI (rs.length + 1))) 43 j = if j = rs.length then nI t else h 43 j := fun j => by simp [up_app]
  have e44 : ∀ j, (up (up (up (up h 43 rs.length (nI t)) 44 rs.length (nI d)) 45 rs.length m) 42 5 (nI (rs.length + 1))) 44 j = if j = rs.length then nI d else h 44 j := fun j => by simp [up_app]
  have e45 : ∀ j, (up (up (up (up h 43 rs.length (nI t)) 44 rs.length (nI d)) 45 rs.length m) 42 5 (nI (rs.length + 1))) 45 j = if j = rs.length then m else h 45 j := fun j => by simp [up_app]
  simp only [e43, e44, e45, e46, e47]
  rcases Nat.lt_or_ge v rs.length with z | z
  · rw [List.getElem?_append_left z] at hv
    rw [if_neg (by omega), if_neg (by omega), if_neg (by omega)]
    exact ra.2 v t' d' hv
  · rw [List.getElem?_append_right z] at hv
    have hz : v - rs.length < 1 := (List.getElem?_eq_some_iff.mp hv).1
    have ev : v = rs.length := by omega
    subst ev
    rw [Nat.sub_self] at hv
    cases hv
    rw [if_pos rfl, if_pos rfl, if_pos rfl]
    exact ⟨rfl, rfl, hm, htm⟩
theorem fK_0 {N : HP} {t : Nat} (h : N 12 t = 0) (d k : Nat) : fK N t d k = false := by
  unfold fK
  rw [decide_eq_true h]
  simp
theorem fK_1 {N : HP} {t : Nat} (h : ¬ N 12 t = 0) (d k : Nat) : fK N t d k = (decide (k < 8) && decide (N 14 t ≤ tkN N t d k)) := by
  unfold fK
  rw [decide_eq_false h]
  simp
theorem c_gatherRun {G : GA} {N h : HP} (hN : NetOK N) (hP : PlOK N) {rs : List (Nat × Nat)} {t d ask lim : Nat} (ht : t < nT N) (hc : 2 ≤ nC N t) (hd : d < 100) (ha : ask ≤ 200000) (hl : lim ≤ 200000) (hon : On h N) (hlim : h 42 6 = nI lim) (ra : RA N h rs) (hlen : rs.length ≤ 132) (hlen2 : ask ≤ cT N t d (nC N t - 1) ∧ lT N t d 0 < lim → rs.length < 132) {K : HP → Prop}
    (kk : ∀ h', On h' N → Agr [42, 43, 44, 45, 46, 47] h h' → h' 42 6 = nI lim → RA N h' (if ask ≤ cT N t d (nC N t - 1) ∧ lT N t d 0 < lim then rs ++ [(t, d)] else rs) → K h') : P_Runs_gatherRun G h (nI t) (nI d) (nI ask) K := by
  have hc8 := nC_le hN t
  have ht24 := nT_le hN
  refine s_Runs_gatherRun_0 G h _ _ _ K ?_
  rw [ra.1]
  by_cases c0 : rs.length < 132
  · rw [if_pos (by rw [show (132 : Int32) = nI 132 from rfl, ltI (by omega) (by omega)]; exact c0)]
    refine ⟨in_nI (by omega) (by decide), ?_⟩
    rw [hon.c 15, tnI (by omega), ok_C hN]
    refine c_setTimes hN c0 hd (by omega) hon ra.1 (fun h2 hon2 sf htm => ?_)
    have ra2 := ra.sf sf hN
    have ag2 : Agr [42, 43, 44, 45, 46, 47] h h2 := sf.1.mono (by decide)
    have hl2 : h2 42 6 = nI lim := by rw [sf.1 42 (by decide)]; exact hlim
    have e1 : nI rs.length * 8 + nI (nC N t) - 1 = nI (8 * rs.length + (nC N t - 1)) := by
      rw [ix8, show (1 : Int32) = nI 1 from rfl, pk_sub (by omega)]
      congr 1
      omega
    have e2 : nI rs.length * 8 = nI (8 * rs.length + 0) := by
      rw [show (8 : Int32) = nI 8 from rfl, pk_mul, Nat.mul_comm, Nat.add_zero]
    rw [ra2.1, e1, e2, tnI (by omega), tnI (by omega), (htm (nC N t - 1) (by omega)).1, (htm 0 (by omega)).2, hl2]
    have b1 := cT_le hN hd t (nC N t - 1)
    have b2 := lT_le hN hd t 0
    refine ⟨in_nI (by omega) (by decide), ?_⟩
    by_cases c1 : cT N t d (nC N t - 1) < ask
    · rw [if_pos (by rw [ltI (by omega) (by omega)]; exact c1)]
      refine kk h2 hon2 ag2 hl2 ?_
      rw [if_neg (by omega)]
      exact ra2
    · rw [if_neg (by rw [ltI (by omega) (by omega)]; exact c1)]
      refine ⟨in_nI (by omega) (by decide), ?_⟩
      by_cases c2 : lT N t d 0 < lim
      · rw [if_pos (by rw [ltI (by omega) (by omega)]; exact c2)]
        refine ⟨in_nI c0 (by decide), ?_⟩
        rintro _ rfl _ rfl
        rw [if_pos ⟨by omega, c2⟩] at kk
        rw [tnI (by omega), hon2.c 12, hon2.c 14]
        have fin : ∀ m : Int32, (∀ k, k < 32 → bt m k = fK N t d k) → ∀ h9, h9 = up (up (up (up h2 43 rs.length (nI t)) 44 rs.length (nI d)) 45 rs.length m) 42 5 (nI rs.length + 1) → K h9 := by
          intro m hm h9 e9
          rw [nI_1] at e9
          refine kk h9 ?_ ?_ ?_ ?_
          · rw [e9]
            exact (((hon2.up (by decide) _ _).up (by decide) _ _).up (by decide) _ _).up (by decide) _ _
          · rw [e9]
            exact (((ag2.up (by decide) _ _).up (by decide) _ _).up (by decide) _ _).up (by decide) _ _
          · rw [e9, up_sl _ _ (by decide), up_ce _ _ _ (by decide), up_ce _ _ _ (by decide), up_ce _ _ _ (by decide)]
            exact hl2
          · rw [e9]
            exact ra2.push hm htm
        by_cases c3 : N 12 t = 0
        · rw [if_pos c3]
          rintro _ rfl _ rfl
          exact fin 0 (fun k hk => by rw [b_0, fK_0 c3]) _ rfl
        · rw [if_neg c3]
          have hs50 := (hN.2.2.1.2.2.2.1 t).i
          have hs1 := hN.2.2.1.2.2.2.2.2.2 t ht c3
          refine c_full (N := N) hP ((hon2.up (by decide) _ _).up (by decide) _ _) (by omega) (fun m hm => ?_)
          rintro _ rfl _ rfl
          refine fin m (fun k hk => by rw [hm k hk, fK_1 c3]) _ ?_
          rw [up_ce _ _ _ (by decide), up_ce _ _ _ (by decide), ra2.1]
      · rw [if_neg (by rw [ltI (by omega) (by omega)]; exact c2)]
        refine kk h2 hon2 ag2 hl2 ?_
        rw [if_neg (by omega)]
        exact ra2
  · rw [if_neg (by rw [show (132 : Int32) = nI 132 from rfl, ltI (by omega) (by omega)]; exact c0)]
    refine kk h hon (Agr.refl _ _) hlim ?_
    rw [if_neg (fun z => c0 (hlen2 z))]
    exact ra
/-! ===== floorDiv ===== -/
theorem neg_bit (x : Int32) : x.toInt < 0 ↔ bt x 31 = true := by
  have h1 : x.toBitVec.msb = decide (x.toBitVec.toInt < 0) := BitVec.msb_eq_toInt
  have h2 : x.toBitVec.msb = x.toBitVec.getLsbD 31 := BitVec.msb_eq_getLsbD_last _
  show x.toBitVec.toInt < 0 ↔ x.toBitVec.getLsbD 31 = true
  rw [← h2, h1, decide_eq_true_eq]
theorem c_floorDiv {G : GA} {h : HP} {x : Int32} (h1 : -20000 ≤ x.toInt) (h2 : x.toInt ≤ 200000) {K : Int32 → HP → Prop} (kk : ∀ r : Int32, 1440 * r.toInt ≤ x.toInt → -200 ≤ r.toInt → r.toInt ≤ 200 → K r h) : P_Math_floorDiv G h x 1440 K := by
  refine s_Math_floorDiv_0 G h _ _ K ⟨by decide, ?_⟩
  have e1440 : (1440 : Int32).toInt = 1440 := rfl
  by_cases c : 0 ≤ x.toInt
  · have hd : (x / 1440).toInt = x.toInt / 1440 := lg_idiv_nonneg c (by decide)
    rw [if_pos (by
      rw [fa_le]
      show (0 : Int) ≤ (x ^^^ 1440).toInt
      have h31 : bt (x ^^^ 1440) 31 = false := by
        rw [b_xor]
        have : bt x 31 = false := by
          cases hb : bt x 31
          · rfl
          · have := (neg_bit x).mpr hb
            omega
        rw [this, show bt 1440 31 = false by decide +kernel]
        rfl
      rcases Int.lt_or_le (x ^^^ 1440).toInt 0 with q | q
      · rw [neg_bit, h31] at q
        cases q
      · exact q)]
    exact kk _ (by rw [hd]; omega) (by rw [hd]; omega) (by rw [hd]; omega)
  · rw [if_neg (by
      rw [fa_le]
      show ¬ (0 : Int) ≤ (x ^^^ 1440).toInt
      have h31 : bt (x ^^^ 1440) 31 = true := by
        rw [b_xor, (neg_bit x).mp (by omega), show bt 1440 31 = false by decide +kernel]
        rfl
      have := (neg_bit (x ^^^ 1440)).mpr h31
      omega)]
    have ht : x.toInt.tdiv 1440 = -((-x.toInt) / 1440) := by
      have e := Int.neg_tdiv (-x.toInt) 1440
      rw [Int.neg_neg] at e
      rw [e, Int.tdiv_eq_ediv_of_nonneg (a := -x.toInt) (by omega)]
    have hd : (x / 1440).toInt = -((-x.toInt) / 1440) := by
      rw [Int32.toInt_div, e1440, ht, Int.bmod_eq_of_le (by omega) (by omega)]
    by_cases c2 : x / 1440 * 1440 = x
    · rw [if_pos c2]
      refine kk _ ?_ (by rw [hd]; omega) (by rw [hd]; omega)
      have e2 : (x / 1440 * 1440).toInt = (x / 1440).toInt * 1440 := by
        rw [toInt_mul (by rw [hd, e1440]; omega) (by rw [hd, e1440]; omega), e1440]
      rw [c2] at e2
      omega
    · rw [if_neg c2]
      have e3 : (x / 1440 - 1).toInt = (x / 1440).toInt - 1 := by
        rw [toInt_sub (by rw [hd, show (1 : Int32).toInt = 1 from rfl]; omega) (by rw [hd, show (1 : Int32).toInt = 1 from rfl]; omega)]
        rfl
      exact kk _ (by rw [e3, hd]; omega) (by rw [e3, hd]; omega) (by rw [e3, hd]; omega)
/-! ===== gather ===== -/
theorem c_gather_in {G : GA} {N : HP} (hN : NetOK N) (hP : PlOK N) {day ask d last : Nat} (hday : day < 100) (ha1 : 1440 * day ≤ ask) (ha2 : ask < 1440 * (day + 1)) (hd : d < 100) (hlast : last < 100) {K : HP → Prop} {h0 : HP}
    (kk : ∀ h', On h' N → Agr [42, 43, 44, 45, 46, 47] h0 h' → h' 42 6 = nI (1440 * (day + 2)) → RA N h' (allR N ask (1440 * (day + 2)) (d + 1)) → H_Runs_gather_54 G h' (nI ask) (nI last) (nI d + 1) K) :
    ∀ (m t : Nat) (h : HP), t + m = nT N → On h N → Agr [42, 43, 44, 45, 46, 47] h0 h → h 42 6 = nI (1440 * (day + 2)) → RA N h (allR N ask (1440 * (day + 2)) d ++ dayR N ask (1440 * (day + 2)) d t) → H_Runs_gather_64 G h (nI ask) (nI last) (nI d) (nI t) K
  | 0, t, h, e, hon, ag, hlim, ra => by
    have ht24 := nT_le hN
    refine s_Runs_gather_64 G h _ _ _ _ K ?_
    rw [hon.c 11, ok_T hN, if_pos (by rw [leI (by omega) (by omega)]; omega)]
    rw [show t = nT N by omega] at ra
    exact kk h hon ag hlim ra
  | m + 1, t, h, e, hon, ag, hlim, ra => by
    have ht24 := nT_le hN
    have hc8 := nC_le hN t
    refine s_Runs_gather_64 G h _ _ _ _ K ?_
    have hlen := runsL_len hN ha1 hday (d + 1)
    have hpre := dayR_pre (N := N) (ask := ask) (lim := 1440 * (day + 2)) (d := d) (t := t) (nT N - t)
    have hpre2 := dayR_pre (N := N) (ask := ask) (lim := 1440 * (day + 2)) (d := d) (t := t + 1) (nT N - (t + 1))
    rw [show t + (nT N - t) = nT N by omega] at hpre
    rw [show t + 1 + (nT N - (t + 1)) = nT N by omega] at hpre2
    simp only [allR, List.length_append] at hlen
    rw [hon.c 11, ok_T hN, if_neg (by rw [leI (by omega) (by omega)]; omega), hon.c 15, tnI (by omega), ok_C hN, nI_1]
    refine ⟨in_nI (by omega) (by decide), ?_⟩
    have ih := c_gather_in hN hP hday ha1 ha2 hd hlast kk m (t + 1)
    have no : okR N ask (1440 * (day + 2)) t d = false → H_Runs_gather_64 G h (nI ask) (nI last) (nI d) (nI (t + 1)) K := fun hno => by
      refine ih h (by omega) hon ag hlim ?_
      simp only [dayR]
      rw [hno, if_neg (by decide), List.append_nil]
      exact ra
    by_cases c1 : nC N t ≤ 1
    · rw [if_pos (by rw [show (1 : Int32) = nI 1 from rfl, leI (by omega) (by omega)]; exact c1)]
      exact no (by unfold okR; rw [decide_eq_false (by omega)]; rfl)
    · rw [if_neg (by rw [show (1 : Int32) = nI 1 from rfl, leI (by omega) (by omega)]; exact c1)]
      refine c_runsOn hN hon (by omega) hd ?_
      by_cases c2 : rO N t d = true
      · rw [if_pos c2]
        have eok : okR N ask (1440 * (day + 2)) t d = decide (ask ≤ cT N t d (nC N t - 1) ∧ lT N t d 0 < 1440 * (day + 2)) := by
          unfold okR
          rw [decide_eq_true (show 2 ≤ nC N t by omega), c2, Bool.true_and, Bool.true_and, Bool.decide_and]
        refine c_gatherRun hN hP (by omega) (by omega) hd (by omega) (by omega) hon hlim ra (by rw [List.length_append]; omega) (fun hq => ?_) (fun h' hon' ag' hl' ra' => ?_)
        · rw [List.length_append]
          simp only [dayR, List.length_append] at hpre2
          rw [eok, if_pos (by rw [decide_eq_true_eq]; exact hq), List.length_singleton] at hpre2
          omega
        · refine ih h' (by omega) hon' (ag.trans ag') hl' ?_
          simp only [dayR]
          rw [eok]
          by_cases c3 : ask ≤ cT N t d (nC N t - 1) ∧ lT N t d 0 < 1440 * (day + 2)
          · rw [if_pos c3] at ra'
            rw [if_pos (by rw [decide_eq_true_eq]; exact c3), ← List.append_assoc]
            exact ra'
          · rw [if_neg c3] at ra'
            rw [if_neg (by rw [decide_eq_true_eq]; exact c3), List.append_nil]
            exact ra'
      · rw [if_neg c2]
        exact no (by unfold okR; rw [Bool.eq_false_iff.mpr c2]; simp)
theorem c_gather_out {G : GA} {N : HP} (hN : NetOK N) (hP : PlOK N) {day ask last : Nat} (hday : day < 100) (ha1 : 1440 * day ≤ ask) (ha2 : ask < 1440 * (day + 1)) (hlast : last < 100) {K : HP → Prop} {h0 : HP}
    (kk : ∀ h', On h' N → Agr [42, 43, 44, 45, 46, 47] h0 h' → h' 42 6 = nI (1440 * (day + 2)) → RA N h' (allR N ask (1440 * (day + 2)) (last + 1)) → K h') :
    ∀ (m d : Nat) (h : HP), d + m = last + 1 → On h N → Agr [42, 43, 44, 45, 46, 47] h0 h → h 42 6 = nI (1440 * (day + 2)) → RA N h (allR N ask (1440 * (day + 2)) d) → H_Runs_gather_54 G h (nI ask) (nI last) (nI d) K
  | 0, d, h, e, hon, ag, hlim, ra => by
    refine s_Runs_gather_54 G h _ _ _ K ?_
    rw [if_pos (by rw [ltI (by omega) (by omega)]; omega)]
    rw [show d = last + 1 by omega] at ra
    exact kk h hon ag hlim ra
  | m + 1, d, h, e, hon, ag, hlim, ra => by
    refine s_Runs_gather_54 G h _ _ _ K ?_
    rw [if_neg (by rw [ltI (by omega) (by omega)]; omega)]
    refine c_gather_in hN hP hday ha1 ha2 (by omega) hlast (fun h' a b c r => ?_) (nT N) 0 h (by omega) hon ag hlim (by simp only [dayR]; rw [List.append_nil]; exact ra)
    rw [nI_1]
    exact c_gather_out hN hP hday ha1 ha2 hlast kk m (d + 1) h' (by omega) a b c r
theorem allR_nil {N : HP} {ask lim : Nat} : ∀ e, (∀ d, d < e → ∀ t, okR N ask lim t d = false) → allR N ask lim e = []
  | 0, _ => rfl
  | e + 1, h => by
    simp only [allR]
    rw [allR_nil e (fun d hd => h d (by omega)), dayR_nil (h e (by omega))]
    rfl
theorem c_gather {G : GA} {N h : HP} (hN : NetOK N) (hP : PlOK N) {day ask : Nat} (hday : day < 100) (ha1 : 1440 * day ≤ ask) (ha2 : ask < 1440 * (day + 1)) (hon : On h N) {K : HP → Prop}
    (kk : ∀ h', On h' N → Agr [42, 43, 44, 45, 46, 47] h h' → h' 42 6 = nI (1440 * (day + 2)) → RA N h' (runsL N ask (1440 * (day + 2))) → K h') : P_Runs_gather G h (nI day) (nI ask) K := by
  refine s_Runs_gather_0 G h _ _ K ?_
  rintro _ rfl _ rfl
  have htot := tot_le hN (nL N)
  have hl := nL_le hN
  have e65 : h 6 5 = nI (totN N (nL N)) := by rw [hon.c 6]; exact hN.2.1.2.2.2
  have hx : (nI ask - h 6 5).toInt = (ask : Int) - totN N (nL N) := by
    rw [e65, toInt_sub (by rw [toInt_nI (by omega), toInt_nI (by omega)]; omega) (by rw [toInt_nI (by omega), toInt_nI (by omega)]; omega), toInt_nI (by omega), toInt_nI (by omega)]
  refine c_floorDiv (by rw [hx]; omega) (by rw [hx]; omega) (fun r hr1 hr2 hr3 => ?_)
  rw [hx] at hr1
  have er : (r - 1).toInt = r.toInt - 1 := by
    rw [toInt_sub (by rw [show (1 : Int32).toInt = 1 from rfl]; omega) (by rw [show (1 : Int32).toInt = 1 from rfl]; omega)]
    rfl
  obtain ⟨first, hf1, hf2⟩ : ∃ first : Nat, (if 0 < r - 1 then r - 1 else 0) = nI first ∧ (first = 0 ∨ ((first : Int) = r.toInt - 1)) := by
    by_cases c : 0 < r - 1
    · rw [if_pos c]
      rw [fa_lt, er, show (0 : Int32).toInt = 0 from rfl] at c
      refine ⟨tn (r - 1), (nI_tn (by omega)).symm, Or.inr ?_⟩
      rw [tn_toInt (by omega), er]
    · rw [if_neg c]
      exact ⟨0, rfl, Or.inl rfl⟩
  have e1 : nI day + 1 = nI (day + 1) := nI_1 day
  obtain ⟨last, hl1, hl2, hl3⟩ : ∃ last : Nat, (if nI day + 1 < 99 then nI day + 1 else 99) = nI last ∧ last < 100 ∧ (last = day + 1 ∨ (last = 99 ∧ 99 ≤ day + 1)) := by
    rw [e1, show (99 : Int32) = nI 99 from rfl]
    by_cases c : day + 1 < 99
    · rw [if_pos (by rw [ltI (by omega) (by omega)]; exact c)]
      exact ⟨_, rfl, by omega, Or.inl rfl⟩
    · rw [if_neg (by rw [ltI (by omega) (by omega)]; exact c)]
      exact ⟨_, rfl, by omega, Or.inr ⟨rfl, by omega⟩⟩
  rw [hf1, hl1]
  have elim : (1440 : Int32) * (nI day + 2) = nI (1440 * (day + 2)) := by
    rw [show (1440 : Int32) = nI 1440 from rfl, show (2 : Int32) = nI 2 from rfl, nI_add, pk_mul]
  rw [elim]
  have hno : ∀ d, d < first → ∀ t, okR N ask (1440 * (day + 2)) t d = false := fun d hdf t => by
    have hcl : cT N t d (nC N t - 1) < ask := by
      have b1 := aA_le hN t (nC N t - 1)
      have b2 := lsN_tot hN t d (nC N t - 1) (nL N)
      unfold cT late
      omega
    unfold okR
    rw [decide_eq_false (show ¬ ask ≤ cT N t d (nC N t - 1) by omega)]
    simp
  have hfl : first ≤ last + 1 := by omega
  refine c_gather_out hN hP hday ha1 ha2 hl2 (h0 := h) (fun h' a b c ra => kk h' a b c ?_) (last + 1 - first) first _ (by omega) ((hon.up (by decide) _ _).up (by decide) _ _) (((Agr.refl _ _).up (by decide) _ _).up (by decide) _ _) (by rw [up_at]) ?_
  · have : runsL N ask (1440 * (day + 2)) = allR N ask (1440 * (day + 2)) (last + 1) := by
      rcases hl3 with z | ⟨z, z2⟩
      · have := allR_end (N := N) (ask := ask) (lim := 1440 * (day + 2)) (e := last + 1) (by omega) (100 - (last + 1))
        rw [show last + 1 + (100 - (last + 1)) = 100 by omega] at this
        exact this
      · rw [z]
        rfl
    rw [this]
    exact ra
  · rw [allR_nil first hno]
    exact ⟨by simp [up_app]; rfl, fun v t d hv => by simp at hv⟩
