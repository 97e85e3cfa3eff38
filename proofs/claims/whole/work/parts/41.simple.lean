/-! ===== the simple methods: the class and the reference answer alike ===== -/
theorem Kp.of {S T : List Nat} {h h' : HP} (a : AM S T h h') (hS : ∀ k ∈ rC, k ∉ S := by decide) (hT : 4 ∉ T ∧ 41 ∉ T ∧ 58 ∉ T := by decide) : Kp h h' :=
  ⟨fun k hk => a.1 k (hS k hk) (fun e => absurd (show 67 ∈ rC from e ▸ hk) (by decide)), a.2 4 hT.1, a.2 41 hT.2.1, a.2 58 hT.2.2⟩
theorem add1 (x : Int32) : x + 1 - 1 = x := by
  apply Int32.toBitVec_inj.mp
  rw [Int32.toBitVec_sub, Int32.toBitVec_add]
  exact BitVec.add_sub_cancel _ _
theorem tot_c {h h' : HP} : ∀ n, (∀ j, j < n → h' 10 j = h 10 j) → totN h' n = totN h n
  | 0, _ => rfl
  | n + 1, e => by
    simp only [totN]
    rw [tot_c n (fun j hj => e j (by omega)), e n (by omega)]
theorem tot_k {h h' : HP} (b4 : h 6 5 = nI (totN h (nL h))) (e10 : h' 10 = h 10) (e6 : h' 6 = h 6) : h' 6 5 = nI (totN h' (nL h')) := by
  rw [tot_c (h := h) (h' := h') _ (fun j _ => by rw [e10]), e6, b4]
  unfold nL
  rw [e6]
theorem IN_of {b : Nat} {x y : Int32} (hy : y.toInt = b) (c : 0 ≤ x ∧ x ≤ y) : IN b x := by
  obtain ⟨h1, h2⟩ := c
  rw [fa_le] at h1 h2
  exact ⟨h1, by rw [← hy]; exact h2⟩
theorem IN_ex {b : Nat} {x y : Int32} (hy : y.toInt = b) (c : 0 ≤ x ∧ x ≤ y) : ∃ a, x = nI a ∧ a ≤ b := ⟨tn x, (IN_of hy c).e, (IN_of hy c).t⟩
theorem has_ex {x y : Int32} (c : 0 ≤ x ∧ x < y) : ∃ a, x = nI a ∧ a < tn y := by
  obtain ⟨h1, h2⟩ := c
  rw [fa_le] at h1
  rw [fa_lt] at h2
  have h3 : (0 : Int32).toInt = 0 := rfl
  refine ⟨tn x, (nI_tn (by omega)).symm, ?_⟩
  have q1 := tn_toInt (x := x) (by omega)
  have q2 := tn_toInt (x := y) (by omega)
  omega
theorem dec1 {x y : Int32} (hy : 0 ≤ y.toInt) : (0 ≤ x ∧ x ≤ y - 1) ↔ (0 ≤ x ∧ x < y) := by
  rw [fa_le, fa_le, fa_lt, toInt_sub (by rw [show (1 : Int32).toInt = 1 from rfl]; omega) (by rw [show (1 : Int32).toInt = 1 from rfl]; have := toInt_lt y; omega), show (1 : Int32).toInt = 1 from rfl]
  omega
theorem cm_isStop {G : GA} {h h' : HP} (r : Rel h) (e : h' 67 0 = h 67 0) {x : Int32} {K : Bool → HP → Prop} (k : K (decide (0 ≤ x ∧ x < h 2 3)) h') : P_Model_isStop G h' x K := by
  refine s_Model_isStop_0 _ _ _ _ (cm_in ?_)
  rw [e, show h 67 0 = h 2 3 from r.2.2.1.2.1.1, decide_eq_decide.mpr (dec1 r.1.1.1.1)]
  exact k
theorem cm_isTrip {G : GA} {h h' : HP} (r : Rel h) (e : h' 67 1 = h 67 1) {x : Int32} {K : Bool → HP → Prop} (k : K (decide (0 ≤ x ∧ x < h 11 11)) h') : P_Model_isTrip G h' x K := by
  refine s_Model_isTrip_0 _ _ _ _ (cm_in ?_)
  rw [e, show h 67 1 = h 11 11 from r.2.2.1.2.1.2.1, decide_eq_decide.mpr (dec1 r.1.2.2.1.1.1)]
  exact k
theorem cm_isWalk {G : GA} {h h' : HP} (r : Rel h) (e : h' 67 2 = h 67 2) {x : Int32} {K : Bool → HP → Prop} (k : K (decide (0 ≤ x ∧ x < h 22 8)) h') : P_Model_isWalk G h' x K := by
  refine s_Model_isWalk_0 _ _ _ _ (cm_in ?_)
  rw [e, show h 67 2 = h 22 8 from r.2.2.1.2.1.2.2.1, decide_eq_decide.mpr (dec1 r.1.2.2.2.2.1.1)]
  exact k
theorem cm_isDay {G : GA} {h : HP} {x : Int32} {K : Bool → HP → Prop} (k : K (decide (0 ≤ x ∧ x ≤ 99)) h) : P_Model_isDay G h x K := s_Model_isDay_0 _ _ _ _ (cm_in k)
theorem full_eq {b : Nat} {x y : Int32} (hx : IN b x) (hy : y.toInt = b) (c : ¬ x < y) : x = y := by
  rw [fa_lt] at c
  have := hx.2
  exact Int32.toInt_inj.mp (by omega)
theorem full_lt {b : Nat} {x y : Int32} (hx : IN b x) (hy : y.toInt = b) (c : x < y) : tn x < b := by
  rw [fa_lt, hx.i] at c
  omega
theorem inc_nI {b : Nat} {x : Int32} (hx : IN b x) : x + 1 = nI (tn x + 1) := by
  rw [← nI_add, ← hx.e]
  rfl
theorem tn_inc {b : Nat} {x : Int32} (hx : IN b x) (hb : b < 2147483647) : tn (x + 1) = tn x + 1 := by
  have := hx.t
  rw [inc_nI hx, tnI (by omega)]
theorem IN_inc {b : Nat} {x : Int32} (hx : IN b x) (hb : b < 2147483647) (hl : tn x < b) : IN b (x + 1) := by
  rw [inc_nI hx]
  exact IN_nI (by omega) (by omega)
theorem IN_from {b : Nat} {x y : Int32} (h1 : (1 : Int32).toInt = 1) (hy : y.toInt = b) (c : 1 ≤ x ∧ x ≤ y) : IN b x := by
  obtain ⟨h2, h3⟩ := c
  rw [fa_le] at h2 h3
  exact ⟨by omega, by omega⟩
theorem c_hasCall {G : GA} {h : HP} (r : Rel h) {x1 x2 : Int32} {K : Bool → HP → Prop} (k : K (decide ((0 ≤ x1 ∧ x1 < h 11 11) ∧ 0 ≤ x2 ∧ x2 < h 15 (tn x1))) h) : P_Trips_hasCall G h x1 x2 K := by
  refine s_Trips_hasCall_0 _ _ _ _ _ (c_Trips_has ?_)
  simp only [decide_eq_true_eq]
  by_cases c1 : 0 ≤ x1 ∧ x1 < h 11 11
  · rw [if_pos c1]
    obtain ⟨p, ep, hp⟩ := has_ex c1
    have hp : p < nT h := hp
    have hT := nT_le r.1
    have hv : vp_in x1 24 := by rw [ep]; exact in_nI (by omega) (by decide)
    by_cases c2 : x2 < 0
    · rw [if_pos c2]
      rw [decide_eq_false (fun q => by have q1 := q.2.1; rw [fa_le] at q1; rw [fa_lt] at c2; omega)] at k
      exact k
    · rw [if_neg c2]
      refine ⟨hv, ?_⟩
      have c2' := fa_of_nlt c2
      by_cases c3 : h 15 (tn x1) ≤ x2
      · rw [if_pos c3]
        rw [decide_eq_false (fun q => by have q1 := q.2.2; rw [fa_lt] at q1; rw [fa_le] at c3; omega)] at k
        exact k
      · rw [if_neg c3]
        rw [decide_eq_true ⟨c1, c2', fa_of_nle c3⟩] at k
        exact k
  · rw [if_neg c1]
    rw [decide_eq_false (fun q => c1 q.1)] at k
    exact k
theorem cm_isCall {G : GA} {h h' : HP} (r : Rel h) (e : h' 67 1 = h 67 1) (e2 : h' 75 = h 75) {x1 x2 : Int32} {K : Bool → HP → Prop} (k : K (decide ((0 ≤ x1 ∧ x1 < h 11 11) ∧ 0 ≤ x2 ∧ x2 < h 15 (tn x1))) h') : P_Model_isCall G h' x1 x2 K := by
  refine s_Model_isCall_0 _ _ _ _ _ (cm_isTrip r e ?_)
  simp only [decide_eq_true_eq]
  by_cases c1 : 0 ≤ x1 ∧ x1 < h 11 11
  · rw [if_pos c1]
    obtain ⟨p, ep, hp⟩ := has_ex c1
    have hp : p < nT h := hp
    have hT := nT_le r.1
    refine ⟨by rw [ep]; exact in_nI (by omega) (by decide), cm_in ?_⟩
    rw [e2, r.2.2.1.c 75 15, decide_eq_decide.mpr (dec1 (r.1.2.2.1.2.2.2.2.1 (tn x1)).1)]
    by_cases c2 : 0 ≤ x2 ∧ x2 < h 15 (tn x1)
    · rw [if_pos (decide_eq_true c2)]
      rw [decide_eq_true ⟨c1, c2⟩] at k
      exact k
    · rw [if_neg (by rw [decide_eq_false c2]; decide)]
      rw [decide_eq_false (fun q => c2 q.2)] at k
      exact k
  · rw [if_neg c1]
    rw [decide_eq_false (fun q => c1 q.1)] at k
    exact k
theorem L_stop {G : GA} {h : HP} {x1 x2 : Int32} (r : Rel h) : P_Desk_stop G h x1 x2 (fun a h1 => P_Model_stop G h1 x1 x2 (fun b h2 => a = b ∧ Rel h2)) := by
  refine s_Desk_stop_0 _ _ _ _ _ (c_between ?_)
  simp only [decide_eq_true_eq]
  by_cases c1 : 0 ≤ x1 ∧ x1 ≤ 30
  rotate_left
  · rw [if_neg c1]
    refine s_Model_stop_0 _ _ _ _ _ (cm_in ?_)
    simp only [decide_eq_true_eq]
    rw [if_neg c1]
    exact ⟨by trivial, r⟩
  rw [if_pos c1]
  refine c_isZone ?_
  simp only [decide_eq_true_eq]
  by_cases c2 : 0 ≤ x2 ∧ x2 ≤ 3
  rotate_left
  · rw [if_neg c2]
    refine s_Model_stop_0 _ _ _ _ _ (cm_in ?_)
    simp only [decide_eq_true_eq]
    rw [if_pos c1]
    refine cm_in ?_
    simp only [decide_eq_true_eq]
    rw [if_neg c2]
    exact ⟨by trivial, r⟩
  rw [if_pos c2]
  have e0 : h 67 0 = h 2 3 := r.2.2.1.2.1.1
  have hS := r.1.1.1
  refine s_Stops_add_0 _ _ _ _ _ ?_
  by_cases c3 : h 2 3 < 12
  rotate_left
  · rw [if_neg c3]
    refine s_Model_stop_0 _ _ _ _ _ (cm_in ?_)
    simp only [decide_eq_true_eq]
    rw [if_pos c1]
    refine cm_in ?_
    simp only [decide_eq_true_eq]
    rw [if_pos c2, e0, if_pos]
    · exact ⟨by trivial, r⟩
    · rw [fa_lt, show (12 : Int32).toInt = 12 from rfl] at c3
      apply Int32.toInt_inj.mp
      rw [show (12 : Int32).toInt = 12 from rfl]
      have := hS.2
      omega
  rw [if_pos c3]
  have hlt : nS h < 12 := by
    rw [fa_lt, show (12 : Int32).toInt = 12 from rfl, hS.i] at c3
    have : nS h = tn (h 2 3) := rfl
    omega
  refine ⟨by rw [ok_S r.1]; exact in_nI hlt (by decide), ?_⟩
  intro h1 e1 h3 e3 h4 e4
  subst e1 e3 e4
  refine s_Model_stop_0 _ _ _ _ _ (cm_in ?_)
  simp only [decide_eq_true_eq]
  rw [if_pos c1]
  refine cm_in ?_
  simp only [decide_eq_true_eq]
  rw [if_pos c2, up_ce _ _ _ (show 67 ≠ 2 by decide), up_ce _ _ _ (show 67 ≠ 4 by decide), up_ce _ _ _ (show 67 ≠ 3 by decide), e0, if_neg]
  rotate_left
  · intro e
    rw [e] at c3
    exact absurd c3 (by decide)
  refine ⟨by rw [ok_S r.1]; exact in_nI hlt (by decide), ?_⟩
  intro g1 e1 g2 e2 g3 e3
  subst e1 e2 e3
  refine ⟨by rw [up_at, add1], ?_⟩
  have hx1 : IN 30 x1 := ⟨by have := c1.1; rw [fa_le] at this; exact this, by have := c1.2; rw [fa_le] at this; exact this⟩
  have hx2 : IN 3 x2 := ⟨by have := c2.1; rw [fa_le] at this; exact this, by have := c2.2; rw [fa_le] at this; exact this⟩
  have hs1 : nI (nS h) + 1 = nI (nS h + 1) := by
    rw [show (1 : Int32) = nI 1 from rfl, nI_add]
  have en : tn (h 2 3 + 1) = nS h + 1 := by rw [ok_S r.1, hs1, tnI (by omega)]
  have am : AM [3, 4, 2, 68, 69] [0] h (up (up (up (up (up (up h 3 (tn (h 2 3)) x1) 4 (tn (h 2 3)) x2) 2 3 (h 2 3 + 1)) 68 (tn (h 2 3)) x1) 69 (tn (h 2 3)) x2) 67 0 (h 2 3 + 1)) :=
    (((((((AM.refl _ _ h).pt (by decide) (by decide) _ _).pt (by decide) (by decide) _ _).pt (by decide) (by decide) _ _).pt (by decide) (by decide) _ _).pt (by decide) (by decide) _ _).p67 (by decide) _)
  have hm := r.2.2.1
  refine r.kp (Kp.of am) ⟨Nat.le_refl _, Nat.le_refl _, fun _ _ => Nat.le_refl _, fun _ _ => rfl⟩ ?_ ?_
  · obtain ⟨⟨a1, a2, a3, a4⟩, ⟨b1, b2, b3, b4⟩, c, ⟨d1, d2, d3, d4, d5⟩, ⟨f1, f2, f3, f4, f5, f6, f7, f8, f9⟩⟩ := r.1
    refine ⟨⟨?_, ?_, ?_, a4⟩, ⟨b1, b2, b3, tot_k b4 rfl rfl⟩, c, ⟨d1, d2, d3, ?_, d5⟩, ⟨f1, f2, f3, f4, f5, f6, f7, f8, ?_⟩⟩
    · show IN 12 (h 2 3 + 1)
      rw [ok_S r.1, hs1]
      exact IN_nI (by omega) (by decide)
    · exact IN_upd a2 hx1
    · exact IN_upd a3 hx2
    · intro t k hk
      refine ⟨?_, (d4 t k hk).2⟩
      show _ < tn (h 2 3 + 1)
      rw [en]
      exact Nat.lt_succ_of_lt (d4 t k hk).1
    · intro w hw
      refine ⟨?_, ?_, (f9 w hw).2.2⟩
      · show _ < tn (h 2 3 + 1)
        rw [en]
        exact Nat.lt_succ_of_lt (f9 w hw).1
      · show _ < tn (h 2 3 + 1)
        rw [en]
        exact Nat.lt_succ_of_lt (f9 w hw).2.1
  · refine ⟨?_, ⟨rfl, hm.2.1.2⟩, hm.2.2.1, hm.2.2.2.1, fun t d k h1 h2 h3 => ?_⟩
    · intro p hp
      simp only [mP, List.mem_cons, List.not_mem_nil, or_false] at hp
      rcases hp with e | e | e | e | e | e | e | e | e | e | e | e | e | e | e | e | e | e | e | e | e | e | e <;> subst e
      · exact congrArg (fun f => upd f (tn (h 2 3)) x1) (hm.c 68 3)
      · exact congrArg (fun f => upd f (tn (h 2 3)) x2) (hm.c 69 4)
      all_goals exact hm.1 _ (by decide)
    · rw [tkN_c (am.1 31 (by decide) (by decide)) (am.1 32 (by decide) (by decide)) (am.1 33 (by decide) (by decide))]
      exact hm.2.2.2.2 t d k h1 h2 h3
theorem L_fare {G : GA} {h : HP} {x1 : Int32} {x2 : Int32} {x3 : Int32} (r : Rel h) : P_Desk_fare G h x1 x2 x3 (fun a h1 => P_Model_fare G h1 x1 x2 x3 (fun b h2 => a = b ∧ Rel h2)) := by
  refine s_Desk_fare_0 _ _ _ _ _ _ (c_isZone ?_)
  simp only [decide_eq_true_eq]
  by_cases c1 : 0 ≤ x1 ∧ x1 ≤ 3
  rotate_left
  · rw [if_neg c1]
    refine s_Model_fare_0 _ _ _ _ _ _ (cm_in ?_)
    simp only [decide_eq_true_eq]
    rw [if_neg c1]
    exact ⟨by trivial, r⟩
  rw [if_pos c1]
  refine c_isZone ?_
  simp only [decide_eq_true_eq]
  by_cases c2 : 0 ≤ x2 ∧ x2 ≤ 3
  rotate_left
  · rw [if_neg c2]
    refine s_Model_fare_0 _ _ _ _ _ _ (cm_in ?_)
    simp only [decide_eq_true_eq]
    rw [if_pos c1]
    refine cm_in ?_
    simp only [decide_eq_true_eq]
    rw [if_neg c2]
    exact ⟨by trivial, r⟩
  rw [if_pos c2]
  refine c_between ?_
  simp only [decide_eq_true_eq]
  by_cases c3 : 0 ≤ x3 ∧ x3 ≤ 9
  rotate_left
  · rw [if_neg c3]
    refine s_Model_fare_0 _ _ _ _ _ _ (cm_in ?_)
    simp only [decide_eq_true_eq]
    rw [if_pos c1]
    refine cm_in ?_
    simp only [decide_eq_true_eq]
    rw [if_pos c2]
    refine cm_in ?_
    simp only [decide_eq_true_eq]
    rw [if_neg c3]
    exact ⟨by trivial, r⟩
  rw [if_pos c3]
  obtain ⟨p, ep, hp⟩ := IN_ex (b := 3) rfl c1
  obtain ⟨q, eq, hq⟩ := IN_ex (b := 3) rfl c2
  refine s_Stops_price_0 _ _ _ _ _ _ ?_
  have i1 : x1 * 4 + x2 = nI (4 * p + q) := by rw [ep, eq, ix4]
  have i2 : 4 * x1 + x2 = nI (4 * p + q) := by rw [ep, eq, ix4']
  have i3 : tn (nI (4 * p + q)) = 4 * p + q := tnI (by omega)
  rw [i1, i3]
  refine ⟨in_nI (by omega) (by decide), ?_⟩
  intro g1 e1
  subst e1
  refine s_Model_fare_0 _ _ _ _ _ _ (cm_in ?_)
  simp only [decide_eq_true_eq]
  rw [if_pos c1]
  refine cm_in ?_
  simp only [decide_eq_true_eq]
  rw [if_pos c2]
  refine cm_in ?_
  simp only [decide_eq_true_eq]
  rw [if_pos c3]
  rw [i2, i3]
  refine ⟨in_nI (by omega) (by decide), ?_⟩
  intro g1 e1
  subst e1
  have hm := r.2.2.1
  refine ⟨congrFun (hm.c 70 5).symm (4 * p + q), ?_⟩
  have am : AM [5, 70] [] h (up (up h 5 (4 * p + q) (x3)) 70 (4 * p + q) (x3)) :=
    (((AM.refl _ _ h).pt (by decide) (by decide) _ _).pt (by decide) (by decide) _ _)
  refine r.kp (Kp.of am) ⟨Nat.le_refl _, Nat.le_refl _, fun _ _ => Nat.le_refl _, fun _ _ => rfl⟩ ?_ ?_
  · obtain ⟨⟨a1, a2, a3, a4⟩, ⟨b1, b2, b3, b4⟩, ⟨cc1, cc2, cc3, cc4, cc5, cc6, cc7⟩, ⟨d1, d2, d3, d4, d5, d6, d7⟩, ⟨f1, f2, f3, f4, f5, f6, f7, f8, f9⟩⟩ := r.1
    exact ⟨⟨a1, a2, a3, IN_upd a4 (IN_of rfl c3)⟩, ⟨b1, b2, b3, tot_k b4 rfl rfl⟩, ⟨cc1, cc2, cc3, cc4, cc5, cc6, cc7⟩, ⟨d1, d2, d3, d4, d5, d6, d7⟩, ⟨f1, f2, f3, f4, f5, f6, f7, f8, f9⟩⟩
  · refine ⟨?_, hm.2.1, hm.2.2.1, hm.2.2.2.1, ?_⟩
    · intro p hp
      simp only [mP, List.mem_cons, List.not_mem_nil, or_false] at hp
      rcases hp with e | e | e | e | e | e | e | e | e | e | e | e | e | e | e | e | e | e | e | e | e | e | e <;> subst e
      · exact hm.1 (68, 3) (by decide)
      · exact hm.1 (69, 4) (by decide)
      · exact congrArg (fun f => upd f (4 * p + q) (x3)) (hm.c 70 5)
      · exact hm.1 (71, 20) (by decide)
      · exact hm.1 (72, 12) (by decide)
      · exact hm.1 (73, 13) (by decide)
      · exact hm.1 (74, 14) (by decide)
      · exact hm.1 (75, 15) (by decide)
      · exact hm.1 (76, 17) (by decide)
      · exact hm.1 (77, 18) (by decide)
      · exact hm.1 (78, 19) (by decide)
      · exact hm.1 (81, 23) (by decide)
      · exact hm.1 (82, 24) (by decide)
      · exact hm.1 (83, 25) (by decide)
      · exact hm.1 (84, 26) (by decide)
      · exact hm.1 (85, 27) (by decide)
      · exact hm.1 (86, 28) (by decide)
      · exact hm.1 (87, 29) (by decide)
      · exact hm.1 (88, 30) (by decide)
      · exact hm.1 (89, 7) (by decide)
      · exact hm.1 (90, 8) (by decide)
      · exact hm.1 (91, 9) (by decide)
      · exact hm.1 (92, 10) (by decide)
    · intro t d k h1 h2 h3
      rw [tkN_c (am.1 31 (by decide) (by decide)) (am.1 32 (by decide) (by decide)) (am.1 33 (by decide) (by decide))]
      exact hm.2.2.2.2 t d k h1 h2 h3
theorem L_day {G : GA} {h : HP} {x1 : Int32} {x2 : Int32} (r : Rel h) : P_Desk_day G h x1 x2 (fun a h1 => P_Model_day G h1 x1 x2 (fun b h2 => a = b ∧ Rel h2)) := by
  refine s_Desk_day_0 _ _ _ _ _ (c_isDay ?_)
  simp only [decide_eq_true_eq]
  by_cases c1 : 0 ≤ x1 ∧ x1 ≤ 99
  rotate_left
  · rw [if_neg c1]
    refine s_Model_day_0 _ _ _ _ _ (cm_isDay ?_)
    simp only [decide_eq_true_eq]
    rw [if_neg c1]
    exact ⟨by trivial, r⟩
  rw [if_pos c1]
  refine c_between ?_
  simp only [decide_eq_true_eq]
  by_cases c2 : 0 ≤ x2 ∧ x2 ≤ 6
  rotate_left
  · rw [if_neg c2]
    refine s_Model_day_0 _ _ _ _ _ (cm_isDay ?_)
    simp only [decide_eq_true_eq]
    rw [if_pos c1]
    refine cm_in ?_
    simp only [decide_eq_true_eq]
    rw [if_neg c2]
    exact ⟨by trivial, r⟩
  rw [if_pos c2]
  obtain ⟨p, ep, hp⟩ := IN_ex (b := 99) rfl c1
  refine ⟨by rw [ep]; exact in_nI (by omega) (by decide), ?_⟩
  intro g1 e1
  subst e1
  refine s_Model_day_0 _ _ _ _ _ (cm_isDay ?_)
  simp only [decide_eq_true_eq]
  rw [if_pos c1]
  refine cm_in ?_
  simp only [decide_eq_true_eq]
  rw [if_pos c2]
  refine ⟨by rw [ep]; exact in_nI (by omega) (by decide), ?_⟩
  intro g1 e1
  subst e1
  have hm := r.2.2.1
  refine ⟨congrFun (hm.c 71 20).symm (tn x1), ?_⟩
  have am : AM [20, 71] [] h (up (up h 20 (tn x1) (x2)) 71 (tn x1) (x2)) :=
    (((AM.refl _ _ h).pt (by decide) (by decide) _ _).pt (by decide) (by decide) _ _)
  refine r.kp (Kp.of am) ⟨Nat.le_refl _, Nat.le_refl _, fun _ _ => Nat.le_refl _, fun _ _ => rfl⟩ ?_ ?_
  · obtain ⟨⟨a1, a2, a3, a4⟩, ⟨b1, b2, b3, b4⟩, ⟨cc1, cc2, cc3, cc4, cc5, cc6, cc7⟩, ⟨d1, d2, d3, d4, d5, d6, d7⟩, ⟨f1, f2, f3, f4, f5, f6, f7, f8, f9⟩⟩ := r.1
    exact ⟨⟨a1, a2, a3, a4⟩, ⟨b1, b2, b3, tot_k b4 rfl rfl⟩, ⟨cc1, cc2, cc3, cc4, cc5, cc6, cc7⟩, ⟨d1, d2, d3, d4, d5, d6, IN_upd d7 (IN_of rfl c2)⟩, ⟨f1, f2, f3, f4, f5, f6, f7, f8, f9⟩⟩
  · refine ⟨?_, hm.2.1, hm.2.2.1, hm.2.2.2.1, ?_⟩
    · intro p hp
      simp only [mP, List.mem_cons, List.not_mem_nil, or_false] at hp
      rcases hp with e | e | e | e | e | e | e | e | e | e | e | e | e | e | e | e | e | e | e | e | e | e | e <;> subst e
      · exact hm.1 (68, 3) (by decide)
      · exact hm.1 (69, 4) (by decide)
      · exact hm.1 (70, 5) (by decide)
      · exact congrArg (fun f => upd f (tn x1) (x2)) (hm.c 71 20)
      · exact hm.1 (72, 12) (by decide)
      · exact hm.1 (73, 13) (by decide)
      · exact hm.1 (74, 14) (by decide)
      · exact hm.1 (75, 15) (by decide)
      · exact hm.1 (76, 17) (by decide)
      · exact hm.1 (77, 18) (by decide)
      · exact hm.1 (78, 19) (by decide)
      · exact hm.1 (81, 23) (by decide)
      · exact hm.1 (82, 24) (by decide)
      · exact hm.1 (83, 25) (by decide)
      · exact hm.1 (84, 26) (by decide)
      · exact hm.1 (85, 27) (by decide)
      · exact hm.1 (86, 28) (by decide)
      · exact hm.1 (87, 29) (by decide)
      · exact hm.1 (88, 30) (by decide)
      · exact hm.1 (89, 7) (by decide)
      · exact hm.1 (90, 8) (by decide)
      · exact hm.1 (91, 9) (by decide)
      · exact hm.1 (92, 10) (by decide)
    · intro t d k h1 h2 h3
      rw [tkN_c (am.1 31 (by decide) (by decide)) (am.1 32 (by decide) (by decide)) (am.1 33 (by decide) (by decide))]
      exact hm.2.2.2.2 t d k h1 h2 h3
theorem L_walk {G : GA} {h : HP} {x1 : Int32} {x2 : Int32} {x3 : Int32} (r : Rel h) : P_Desk_walk G h x1 x2 x3 (fun a h1 => P_Model_walk G h1 x1 x2 x3 (fun b h2 => a = b ∧ Rel h2)) := by
  refine s_Desk_walk_0 _ _ _ _ _ _ (c_Stops_has ?_)
  simp only [decide_eq_true_eq]
  by_cases c1 : 0 ≤ x1 ∧ x1 < h 2 3
  rotate_left
  · rw [if_neg c1]
    refine s_Model_walk_0 _ _ _ _ _ _ (cm_isStop r (by rfl) ?_)
    simp only [decide_eq_true_eq]
    rw [if_neg c1]
    exact ⟨by trivial, r⟩
  rw [if_pos c1]
  refine c_Stops_has ?_
  simp only [decide_eq_true_eq]
  by_cases c2 : 0 ≤ x2 ∧ x2 < h 2 3
  rotate_left
  · rw [if_neg c2]
    refine s_Model_walk_0 _ _ _ _ _ _ (cm_isStop r (by rfl) ?_)
    simp only [decide_eq_true_eq]
    rw [if_pos c1]
    refine cm_isStop r (by rfl) ?_
    simp only [decide_eq_true_eq]
    rw [if_neg c2]
    exact ⟨by trivial, r⟩
  rw [if_pos c2]
  by_cases c3 : x1 = x2
  · rw [if_pos c3]
    refine s_Model_walk_0 _ _ _ _ _ _ (cm_isStop r (by rfl) ?_)
    simp only [decide_eq_true_eq]
    rw [if_pos c1]
    refine cm_isStop r (by rfl) ?_
    simp only [decide_eq_true_eq]
    rw [if_pos c2]
    rw [if_pos c3]
    exact ⟨by trivial, r⟩
  rw [if_neg c3]
  refine c_between ?_
  simp only [decide_eq_true_eq]
  by_cases c4 : 1 ≤ x3 ∧ x3 ≤ 240
  rotate_left
  · rw [if_neg c4]
    refine s_Model_walk_0 _ _ _ _ _ _ (cm_isStop r (by rfl) ?_)
    simp only [decide_eq_true_eq]
    rw [if_pos c1]
    refine cm_isStop r (by rfl) ?_
    simp only [decide_eq_true_eq]
    rw [if_pos c2]
    rw [if_neg c3]
    refine cm_in ?_
    simp only [decide_eq_true_eq]
    rw [if_neg c4]
    exact ⟨by trivial, r⟩
  rw [if_pos c4]
  have e0 : h 67 2 = h 22 8 := r.2.2.1.2.1.2.2.1
  have hW := r.1.2.2.2.2.1
  refine s_Walks_add_0 _ _ _ _ _ _ ?_
  by_cases c5 : h 22 8 < 20
  rotate_left
  · rw [if_neg c5]
    refine s_Model_walk_0 _ _ _ _ _ _ (cm_isStop r (by rfl) ?_)
    simp only [decide_eq_true_eq]
    rw [if_pos c1]
    refine cm_isStop r (by rfl) ?_
    simp only [decide_eq_true_eq]
    rw [if_pos c2]
    rw [if_neg c3]
    refine cm_in ?_
    simp only [decide_eq_true_eq]
    rw [if_pos c4]
    rw [e0, if_pos]
    · exact ⟨by trivial, r⟩
    · exact full_eq hW rfl c5
  rw [if_pos c5]
  have hlt : nW h < 20 := full_lt hW rfl c5
  refine ⟨by rw [ok_W r.1]; exact in_nI hlt (by decide), ?_⟩
  intro g1 e1 g2 e2 g3 e3 g4 e4 g5 e5
  subst e1 e2 e3 e4 e5
  refine s_Model_walk_0 _ _ _ _ _ _ (cm_isStop r (by rfl) ?_)
  simp only [decide_eq_true_eq]
  rw [if_pos c1]
  refine cm_isStop r (by rfl) ?_
  simp only [decide_eq_true_eq]
  rw [if_pos c2]
  rw [if_neg c3]
  refine cm_in ?_
  simp only [decide_eq_true_eq]
  rw [if_pos c4]
  rw [show (up (up (up (up (up h 23 (tn (h 22 8)) x1) 24 (tn (h 22 8)) x2) 25 (tn (h 22 8)) x3) 26 (tn (h 22 8)) 3) 22 8 (h 22 8 + 1)) 67 2 = h 22 8 from e0, if_neg (fun e => by rw [e] at c5; exact absurd c5 (by decide))]
  refine ⟨by rw [ok_W r.1]; exact in_nI hlt (by decide), ?_⟩
  intro g1 e1 g2 e2 g3 e3 g4 e4 g5 e5
  subst e1 e2 e3 e4 e5
  refine ⟨by rw [up_at, add1], ?_⟩
  obtain ⟨p, ep, hp⟩ := has_ex c1
  obtain ⟨q, eq, hq⟩ := has_ex c2
  have hS := nS_le r.1
  have hp : p < nS h := hp
  have hq : q < nS h := hq
  have en : tn (h 22 8 + 1) = nW h + 1 := tn_inc hW (by decide)
  have hn : tn (h 22 8) = nW h := rfl
  have hm := r.2.2.1
  have am : AM [23, 24, 25, 26, 22, 81, 82, 83, 84] [2] h (up (up (up (up (up (up (up (up (up (up h 23 (tn (h 22 8)) (x1)) 24 (tn (h 22 8)) (x2)) 25 (tn (h 22 8)) (x3)) 26 (tn (h 22 8)) (3)) 22 (8) (h 22 8 + 1)) 81 (tn (h 22 8)) (x1)) 82 (tn (h 22 8)) (x2)) 83 (tn (h 22 8)) (x3)) 84 (tn (h 22 8)) (3)) 67 (2) (h 22 8 + 1)) :=
    (((((((((((AM.refl _ _ h).pt (by decide) (by decide) _ _).pt (by decide) (by decide) _ _).pt (by decide) (by decide) _ _).pt (by decide) (by decide) _ _).pt (by decide) (by decide) _ _).pt (by decide) (by decide) _ _).pt (by decide) (by decide) _ _).pt (by decide) (by decide) _ _).pt (by decide) (by decide) _ _).p67 (by decide) _)
  refine r.kp (Kp.of am) ⟨by show nW h ≤ tn (h 22 8 + 1); rw [en]; omega, Nat.le_refl _, fun _ _ => Nat.le_refl _, fun _ _ => rfl⟩ ?_ ?_
  · obtain ⟨⟨a1, a2, a3, a4⟩, ⟨b1, b2, b3, b4⟩, ⟨cc1, cc2, cc3, cc4, cc5, cc6, cc7⟩, ⟨d1, d2, d3, d4, d5, d6, d7⟩, ⟨f1, f2, f3, f4, f5, f6, f7, f8, f9⟩⟩ := r.1
    refine ⟨⟨a1, a2, a3, a4⟩, ⟨b1, b2, b3, tot_k b4 rfl rfl⟩, ⟨cc1, cc2, cc3, cc4, cc5, cc6, cc7⟩, ⟨d1, d2, d3, d4, d5, d6, d7⟩, ⟨?_, IN_upd f2 (by rw [ep]; exact IN_nI (by omega) (by decide)), IN_upd f3 (by rw [eq]; exact IN_nI (by omega) (by decide)), IN_upd f4 (IN_from rfl rfl c4), f5, f6, f7, f8, ?_⟩⟩
    · show IN 20 (h 22 8 + 1)
      exact IN_inc hW (by decide) hlt
    · intro w hw
      have hw : w < tn (h 22 8 + 1) := hw
      show tn (upd (h 23) (tn (h 22 8)) x1 w) < nS h ∧ tn (upd (h 24) (tn (h 22 8)) x2 w) < nS h ∧ (upd (h 26) (tn (h 22 8)) 3 w = 3 ∨ ((upd (h 26) (tn (h 22 8)) 3 w = 4 ∨ upd (h 26) (tn (h 22 8)) 3 w = 5) ∧ tn (h 27 w) ≤ tn (h 28 w) ∧ 1 ≤ tn (h 29 w)))
      by_cases e : w = tn (h 22 8)
      · simp only [upd, if_pos e]
        rw [ep, eq, tnI (by omega), tnI (by omega)]
        exact ⟨hp, hq, Or.inl (by trivial)⟩
      · simp only [upd, if_neg e]
        exact f9 w (by omega)
  · refine ⟨?_, ⟨hm.2.1.1, hm.2.1.2.1, rfl, hm.2.1.2.2.2⟩, hm.2.2.1, hm.2.2.2.1, ?_⟩
    · intro p hp
      simp only [mP, List.mem_cons, List.not_mem_nil, or_false] at hp
      rcases hp with e | e | e | e | e | e | e | e | e | e | e | e | e | e | e | e | e | e | e | e | e | e | e <;> subst e
      · exact hm.1 (68, 3) (by decide)
      · exact hm.1 (69, 4) (by decide)
      · exact hm.1 (70, 5) (by decide)
      · exact hm.1 (71, 20) (by decide)
      · exact hm.1 (72, 12) (by decide)
      · exact hm.1 (73, 13) (by decide)
      · exact hm.1 (74, 14) (by decide)
      · exact hm.1 (75, 15) (by decide)
      · exact hm.1 (76, 17) (by decide)
      · exact hm.1 (77, 18) (by decide)
      · exact hm.1 (78, 19) (by decide)
      · exact congrArg (fun f => upd f (tn (h 22 8)) (x1)) (hm.c 81 23)
      · exact congrArg (fun f => upd f (tn (h 22 8)) (x2)) (hm.c 82 24)
      · exact congrArg (fun f => upd f (tn (h 22 8)) (x3)) (hm.c 83 25)
      · exact congrArg (fun f => upd f (tn (h 22 8)) (3)) (hm.c 84 26)
      · exact hm.1 (85, 27) (by decide)
      · exact hm.1 (86, 28) (by decide)
      · exact hm.1 (87, 29) (by decide)
      · exact hm.1 (88, 30) (by decide)
      · exact hm.1 (89, 7) (by decide)
      · exact hm.1 (90, 8) (by decide)
      · exact hm.1 (91, 9) (by decide)
      · exact hm.1 (92, 10) (by decide)
    · intro t d k h1 h2 h3
      rw [tkN_c (am.1 31 (by decide) (by decide)) (am.1 32 (by decide) (by decide)) (am.1 33 (by decide) (by decide))]
      exact hm.2.2.2.2 t d k h1 h2 h3
theorem L_shuttle {G : GA} {h : HP} {x1 : Int32} {x2 : Int32} {x3 : Int32} {x4 : Int32} (r : Rel h) : P_Desk_shuttle G h x1 x2 x3 x4 (fun a h1 => P_Model_shuttle G h1 x1 x2 x3 x4 (fun b h2 => a = b ∧ Rel h2)) := by
  refine s_Desk_shuttle_0 _ _ _ _ _ _ _ (c_Walks_has ?_)
  simp only [decide_eq_true_eq]
  by_cases c1 : 0 ≤ x1 ∧ x1 < h 22 8
  rotate_left
  · rw [if_neg c1]
    refine s_Model_shuttle_0 _ _ _ _ _ _ _ (cm_isWalk r (by rfl) ?_)
    simp only [decide_eq_true_eq]
    rw [if_neg c1]
    exact ⟨by trivial, r⟩
  rw [if_pos c1]
  refine c_isMinute ?_
  simp only [decide_eq_true_eq]
  by_cases c2 : 0 ≤ x2 ∧ x2 ≤ 1439
  rotate_left
  · rw [if_neg c2]
    refine s_Model_shuttle_0 _ _ _ _ _ _ _ (cm_isWalk r (by rfl) ?_)
    simp only [decide_eq_true_eq]
    rw [if_pos c1]
    refine cm_in ?_
    simp only [decide_eq_true_eq]
    rw [if_neg c2]
    exact ⟨by trivial, r⟩
  rw [if_pos c2]
  refine c_between ?_
  simp only [decide_eq_true_eq]
  by_cases c3 : x2 ≤ x3 ∧ x3 ≤ 1439
  rotate_left
  · rw [if_neg c3]
    refine s_Model_shuttle_0 _ _ _ _ _ _ _ (cm_isWalk r (by rfl) ?_)
    simp only [decide_eq_true_eq]
    rw [if_pos c1]
    refine cm_in ?_
    simp only [decide_eq_true_eq]
    rw [if_pos c2]
    refine cm_in ?_
    simp only [decide_eq_true_eq]
    rw [if_neg c3]
    exact ⟨by trivial, r⟩
  rw [if_pos c3]
  refine c_between ?_
  simp only [decide_eq_true_eq]
  by_cases c4 : 1 ≤ x4 ∧ x4 ≤ 1440
  rotate_left
  · rw [if_neg c4]
    refine s_Model_shuttle_0 _ _ _ _ _ _ _ (cm_isWalk r (by rfl) ?_)
    simp only [decide_eq_true_eq]
    rw [if_pos c1]
    refine cm_in ?_
    simp only [decide_eq_true_eq]
    rw [if_pos c2]
    refine cm_in ?_
    simp only [decide_eq_true_eq]
    rw [if_pos c3]
    refine cm_in ?_
    simp only [decide_eq_true_eq]
    rw [if_neg c4]
    exact ⟨by trivial, r⟩
  rw [if_pos c4]
  obtain ⟨p, ep, hp⟩ := has_ex c1
  have hp : p < nW h := hp
  have hW := nW_le r.1
  refine s_Walks_makeShuttle_0 _ _ _ _ _ _ _ ?_
  refine ⟨by rw [ep]; exact in_nI (by omega) (by decide), ?_⟩
  intro g1 e1 g2 e2 g3 e3 g4 e4
  subst e1 e2 e3 e4
  refine s_Model_shuttle_0 _ _ _ _ _ _ _ (cm_isWalk r (by rfl) ?_)
  simp only [decide_eq_true_eq]
  rw [if_pos c1]
  refine cm_in ?_
  simp only [decide_eq_true_eq]
  rw [if_pos c2]
  refine cm_in ?_
  simp only [decide_eq_true_eq]
  rw [if_pos c3]
  refine cm_in ?_
  simp only [decide_eq_true_eq]
  rw [if_pos c4]
  refine ⟨by rw [ep]; exact in_nI (by omega) (by decide), ?_⟩
  intro g1 e1 g2 e2 g3 e3 g4 e4
  subst e1 e2 e3 e4
  have hm := r.2.2.1
  have t2 : (0 : Int32).toInt = 0 ∧ (1439 : Int32).toInt = 1439 ∧ (1 : Int32).toInt = 1 ∧ (1440 : Int32).toInt = 1440 := ⟨rfl, rfl, rfl, rfl⟩
  have k2 := c2
  have k3 := c3
  have k4 := c4
  simp only [fa_le] at k2 k3 k4
  have m2 := tn_toInt (x := x2) (by omega)
  have m3 := tn_toInt (x := x3) (by omega)
  have m4 := tn_toInt (x := x4) (by omega)
  refine ⟨congrFun (hm.c 84 26).symm (tn x1), ?_⟩
  have am : AM [26, 27, 28, 29, 84, 85, 86, 87] [] h (up (up (up (up (up (up (up (up h 26 (tn x1) (4)) 27 (tn x1) (x2)) 28 (tn x1) (x3)) 29 (tn x1) (x4)) 84 (tn x1) (4)) 85 (tn x1) (x2)) 86 (tn x1) (x3)) 87 (tn x1) (x4)) :=
    (((((((((AM.refl _ _ h).pt (by decide) (by decide) _ _).pt (by decide) (by decide) _ _).pt (by decide) (by decide) _ _).pt (by decide) (by decide) _ _).pt (by decide) (by decide) _ _).pt (by decide) (by decide) _ _).pt (by decide) (by decide) _ _).pt (by decide) (by decide) _ _)
  refine r.kp (Kp.of am) ⟨Nat.le_refl _, Nat.le_refl _, fun _ _ => Nat.le_refl _, fun _ _ => rfl⟩ ?_ ?_
  · obtain ⟨⟨a1, a2, a3, a4⟩, ⟨b1, b2, b3, b4⟩, ⟨cc1, cc2, cc3, cc4, cc5, cc6, cc7⟩, ⟨d1, d2, d3, d4, d5, d6, d7⟩, ⟨f1, f2, f3, f4, f5, f6, f7, f8, f9⟩⟩ := r.1
    refine ⟨⟨a1, a2, a3, a4⟩, ⟨b1, b2, b3, tot_k b4 rfl rfl⟩, ⟨cc1, cc2, cc3, cc4, cc5, cc6, cc7⟩, ⟨d1, d2, d3, d4, d5, d6, d7⟩, ⟨f1, f2, f3, f4, IN_upd f5 (IN_of rfl c2), IN_upd f6 ⟨by omega, by omega⟩, IN_upd f7 (IN_from rfl rfl c4), f8, ?_⟩⟩
    intro w hw
    show tn (h 23 w) < nS h ∧ tn (h 24 w) < nS h ∧ (upd (h 26) (tn x1) 4 w = 3 ∨ ((upd (h 26) (tn x1) 4 w = 4 ∨ upd (h 26) (tn x1) 4 w = 5) ∧ tn (upd (h 27) (tn x1) x2 w) ≤ tn (upd (h 28) (tn x1) x3 w) ∧ 1 ≤ tn (upd (h 29) (tn x1) x4 w)))
    by_cases e : w = tn x1
    · simp only [upd, if_pos e]
      exact ⟨(f9 w hw).1, (f9 w hw).2.1, Or.inr ⟨Or.inl (by trivial), by omega, by omega⟩⟩
    · simp only [upd, if_neg e]
      exact f9 w hw
  · refine ⟨?_, hm.2.1, hm.2.2.1, hm.2.2.2.1, ?_⟩
    · intro p hp
      simp only [mP, List.mem_cons, List.not_mem_nil, or_false] at hp
      rcases hp with e | e | e | e | e | e | e | e | e | e | e | e | e | e | e | e | e | e | e | e | e | e | e <;> subst e
      · exact hm.1 (68, 3) (by decide)
      · exact hm.1 (69, 4) (by decide)
      · exact hm.1 (70, 5) (by decide)
      · exact hm.1 (71, 20) (by decide)
      · exact hm.1 (72, 12) (by decide)
      · exact hm.1 (73, 13) (by decide)
      · exact hm.1 (74, 14) (by decide)
      · exact hm.1 (75, 15) (by decide)
      · exact hm.1 (76, 17) (by decide)
      · exact hm.1 (77, 18) (by decide)
      · exact hm.1 (78, 19) (by decide)
      · exact hm.1 (81, 23) (by decide)
      · exact hm.1 (82, 24) (by decide)
      · exact hm.1 (83, 25) (by decide)
      · exact congrArg (fun f => upd f (tn x1) (4)) (hm.c 84 26)
      · exact congrArg (fun f => upd f (tn x1) (x2)) (hm.c 85 27)
      · exact congrArg (fun f => upd f (tn x1) (x3)) (hm.c 86 28)
      · exact congrArg (fun f => upd f (tn x1) (x4)) (hm.c 87 29)
      · exact hm.1 (88, 30) (by decide)
      · exact hm.1 (89, 7) (by decide)
      · exact hm.1 (90, 8) (by decide)
      · exact hm.1 (91, 9) (by decide)
      · exact hm.1 (92, 10) (by decide)
    · intro t d k h1 h2 h3
      rw [tkN_c (am.1 31 (by decide) (by decide)) (am.1 32 (by decide) (by decide)) (am.1 33 (by decide) (by decide))]
      exact hm.2.2.2.2 t d k h1 h2 h3
theorem L_asked {G : GA} {h : HP} {x1 : Int32} {x2 : Int32} (r : Rel h) : P_Desk_asked G h x1 x2 (fun a h1 => P_Model_asked G h1 x1 x2 (fun b h2 => a = b ∧ Rel h2)) := by
  refine s_Desk_asked_0 _ _ _ _ _ (c_Walks_has ?_)
  simp only [decide_eq_true_eq]
  by_cases c1 : 0 ≤ x1 ∧ x1 < h 22 8
  rotate_left
  · rw [if_neg c1]
    refine s_Model_asked_0 _ _ _ _ _ (cm_isWalk r (by rfl) ?_)
    simp only [decide_eq_true_eq]
    rw [if_neg c1]
    exact ⟨by trivial, r⟩
  rw [if_pos c1]
  obtain ⟨p, ep, hp⟩ := has_ex c1
  have hp : p < nW h := hp
  have hW := nW_le r.1
  have hm := r.2.2.1
  have hv : vp_in x1 20 := by rw [ep]; exact in_nI (by omega) (by decide)
  have e26 : h 84 (tn x1) = h 26 (tn x1) := congrFun (hm.c 84 26) (tn x1)
  refine ⟨hv, ?_⟩
  by_cases c2 : h 26 (tn x1) = 3
  · rw [if_pos c2]
    refine s_Model_asked_0 _ _ _ _ _ (cm_isWalk r (by rfl) ?_)
    simp only [decide_eq_true_eq]
    rw [if_pos c1]
    refine ⟨hv, ?_⟩
    rw [e26, if_pos c2]
    exact ⟨by trivial, r⟩
  rw [if_neg c2]
  refine c_between ?_
  simp only [decide_eq_true_eq]
  by_cases c3 : 1 ≤ x2 ∧ x2 ≤ 600
  rotate_left
  · rw [if_neg c3]
    refine s_Model_asked_0 _ _ _ _ _ (cm_isWalk r (by rfl) ?_)
    simp only [decide_eq_true_eq]
    rw [if_pos c1]
    refine ⟨hv, ?_⟩
    rw [e26, if_neg c2]
    refine cm_in ?_
    simp only [decide_eq_true_eq]
    rw [if_neg c3]
    exact ⟨by trivial, r⟩
  rw [if_pos c3]
  refine s_Walks_makeAsked_0 _ _ _ _ _ ?_
  refine ⟨hv, ?_⟩
  intro g1 e1 g2 e2
  subst e1 e2
  refine s_Model_asked_0 _ _ _ _ _ (cm_isWalk r (by rfl) ?_)
  simp only [decide_eq_true_eq]
  rw [if_pos c1]
  refine ⟨hv, ?_⟩
  rw [show (up (up h 26 (tn x1) 5) 30 (tn x1) x2) 84 (tn x1) = h 26 (tn x1) from e26, if_neg c2]
  refine cm_in ?_
  simp only [decide_eq_true_eq]
  rw [if_pos c3]
  intro g1 e1 g2 e2
  subst e1 e2
  refine ⟨e26.symm, ?_⟩
  have am : AM [26, 30, 84, 88] [] h (up (up (up (up h 26 (tn x1) (5)) 30 (tn x1) (x2)) 84 (tn x1) (5)) 88 (tn x1) (x2)) :=
    (((((AM.refl _ _ h).pt (by decide) (by decide) _ _).pt (by decide) (by decide) _ _).pt (by decide) (by decide) _ _).pt (by decide) (by decide) _ _)
  refine r.kp (Kp.of am) ⟨Nat.le_refl _, Nat.le_refl _, fun _ _ => Nat.le_refl _, fun _ _ => rfl⟩ ?_ ?_
  · obtain ⟨⟨a1, a2, a3, a4⟩, ⟨b1, b2, b3, b4⟩, ⟨cc1, cc2, cc3, cc4, cc5, cc6, cc7⟩, ⟨d1, d2, d3, d4, d5, d6, d7⟩, ⟨f1, f2, f3, f4, f5, f6, f7, f8, f9⟩⟩ := r.1
    refine ⟨⟨a1, a2, a3, a4⟩, ⟨b1, b2, b3, tot_k b4 rfl rfl⟩, ⟨cc1, cc2, cc3, cc4, cc5, cc6, cc7⟩, ⟨d1, d2, d3, d4, d5, d6, d7⟩, ⟨f1, f2, f3, f4, f5, f6, f7, IN_upd f8 (IN_from rfl rfl c3), ?_⟩⟩
    intro w hw
    show tn (h 23 w) < nS h ∧ tn (h 24 w) < nS h ∧ (upd (h 26) (tn x1) 5 w = 3 ∨ ((upd (h 26) (tn x1) 5 w = 4 ∨ upd (h 26) (tn x1) 5 w = 5) ∧ tn (h 27 w) ≤ tn (h 28 w) ∧ 1 ≤ tn (h 29 w)))
    by_cases e : w = tn x1
    · simp only [upd, if_pos e]
      rcases f9 w hw with ⟨k1, k2, k3 | k3⟩
      · rw [e] at k3
        exact absurd k3 c2
      · exact ⟨k1, k2, Or.inr ⟨Or.inr (by trivial), k3.2⟩⟩
    · simp only [upd, if_neg e]
      exact f9 w hw
  · refine ⟨?_, hm.2.1, hm.2.2.1, hm.2.2.2.1, ?_⟩
    · intro p hp
      simp only [mP, List.mem_cons, List.not_mem_nil, or_false] at hp
      rcases hp with e | e | e | e | e | e | e | e | e | e | e | e | e | e | e | e | e | e | e | e | e | e | e <;> subst e
      · exact hm.1 (68, 3) (by decide)
      · exact hm.1 (69, 4) (by decide)
      · exact hm.1 (70, 5) (by decide)
      · exact hm.1 (71, 20) (by decide)
      · exact hm.1 (72, 12) (by decide)
      · exact hm.1 (73, 13) (by decide)
      · exact hm.1 (74, 14) (by decide)
      · exact hm.1 (75, 15) (by decide)
      · exact hm.1 (76, 17) (by decide)
      · exact hm.1 (77, 18) (by decide)
      · exact hm.1 (78, 19) (by decide)
      · exact hm.1 (81, 23) (by decide)
      · exact hm.1 (82, 24) (by decide)
      · exact hm.1 (83, 25) (by decide)
      · exact congrArg (fun f => upd f (tn x1) (5)) (hm.c 84 26)
      · exact hm.1 (85, 27) (by decide)
      · exact hm.1 (86, 28) (by decide)
      · exact hm.1 (87, 29) (by decide)
      · exact congrArg (fun f => upd f (tn x1) (x2)) (hm.c 88 30)
      · exact hm.1 (89, 7) (by decide)
      · exact hm.1 (90, 8) (by decide)
      · exact hm.1 (91, 9) (by decide)
      · exact hm.1 (92, 10) (by decide)
    · intro t d k h1 h2 h3
      rw [tkN_c (am.1 31 (by decide) (by decide)) (am.1 32 (by decide) (by decide)) (am.1 33 (by decide) (by decide))]
      exact hm.2.2.2.2 t d k h1 h2 h3
theorem L_met {G : GA} {h : HP} (r : Rel h) : P_Desk_met G h (fun a h1 => P_Model_met G h1 (fun b h2 => a = b ∧ Rel h2)) :=
  s_Desk_met_0 _ _ _ (s_Model_met_0 _ _ _ ⟨r.2.2.2.1.symm, r⟩)
theorem L_taken {G : GA} {h : HP} {x1 : Int32} {x2 : Int32} {x3 : Int32} (r : Rel h) : P_Desk_taken G h x1 x2 x3 (fun a h1 => P_Model_taken G h1 x1 x2 x3 (fun b h2 => a = b ∧ Rel h2)) := by
  refine s_Desk_taken_0 _ _ _ _ _ _ (c_hasCall r ?_)
  simp only [decide_eq_true_eq]
  by_cases c1 : (0 ≤ x1 ∧ x1 < h 11 11) ∧ 0 ≤ x3 ∧ x3 < h 15 (tn x1)
  rotate_left
  · rw [if_neg c1]
    refine s_Model_taken_0 _ _ _ _ _ _ (cm_isCall r (by rfl) (by rfl) ?_)
    simp only [decide_eq_true_eq]
    rw [if_neg c1]
    exact ⟨by trivial, r⟩
  rw [if_pos c1]
  refine c_isDay ?_
  simp only [decide_eq_true_eq]
  by_cases c2 : 0 ≤ x2 ∧ x2 ≤ 99
  rotate_left
  · rw [if_neg c2]
    refine s_Model_taken_0 _ _ _ _ _ _ (cm_isCall r (by rfl) (by rfl) ?_)
    simp only [decide_eq_true_eq]
    rw [if_pos c1]
    refine cm_isDay ?_
    simp only [decide_eq_true_eq]
    rw [if_neg c2]
    exact ⟨by trivial, r⟩
  rw [if_pos c2]
  obtain ⟨p, ep, hp⟩ := has_ex c1.1
  obtain ⟨k, ek, hk⟩ := has_ex c1.2
  obtain ⟨d, ed, hd⟩ := IN_ex (b := 99) rfl c2
  have hp : p < nT h := hp
  have hT := nT_le r.1
  have hC := nC_le r.1 (tn x1)
  have hk : k < nC h (tn x1) := hk
  rw [ep, ed, ek]
  refine c_at r.2.1 (On.refl h) (by omega) ?_
  rw [← ep, ← ed, ← ek]
  refine s_Model_taken_0 _ _ _ _ _ _ (cm_isCall r (by rfl) (by rfl) ?_)
  simp only [decide_eq_true_eq]
  rw [if_pos c1]
  refine cm_isDay ?_
  simp only [decide_eq_true_eq]
  rw [if_pos c2]
  rw [ep, ed, ek, show (100 : Int32) = nI 100 from rfl, show (8 : Int32) = nI 8 from rfl, pk_mul, nI_add, pk_mul, nI_add, tnI (by omega)]
  exact ⟨in_nI (by omega) (by decide), (r.2.2.1.2.2.2.2 p d k (by omega) (by omega) (by omega)).symm, r⟩
