/-! ===== more of the simple methods ===== -/
theorem bt_one {k i : Nat} (hk : k < 32) (hi : i < 32) : bt ((1 : Int32) <<< (nI k &&& 31)) i = decide (i = k) := by
  have := bt_set (x := 0) hk hi
  rw [b_or, b_0, Bool.false_or, Bool.false_or] at this
  exact this
theorem bt_clr {x : Int32} {k i : Nat} (hk : k < 32) (hi : i < 32) : bt (x &&& ((1 <<< (nI k &&& 31)) ^^^ (-1))) i = (bt x i && !decide (i = k)) := by
  rw [b_and, b_xor, b_m1 i hi, bt_one hk hi, Bool.xor_true]
theorem c_setGone {G : GA} {h : HP} {t d : Nat} {b : Bool} (ht : t < 32) (hd : d < 100) {K : Int32 → HP → Prop} (kk : ∀ v : Int32, (∀ i, i < 32 → bt v i = if i = t then b else bt (h 21 d) i) → K (if bt (h 21 d) t = true then 1 else 0) (up h 21 d v)) : P_Trips_setGone G h (nI t) (nI d) b K := by
  refine s_Trips_setGone_0 _ _ _ _ _ _ ⟨in_nI hd (by decide), ?_⟩
  rw [tnI (by omega), bit_shr ht]
  cases b
  · rw [if_neg (by decide)]
    intro g e
    subst e
    refine kk _ (fun i hi => ?_)
    rw [bt_clr ht hi]
    by_cases c : i = t
    · rw [if_pos c, decide_eq_true c]
      exact Bool.and_false _
    · rw [if_neg c, decide_eq_false c]
      exact Bool.and_true _
  · rw [if_pos rfl]
    intro g e
    subst e
    refine kk _ (fun i hi => ?_)
    rw [bt_set ht hi]
    by_cases c : i = t
    · rw [if_pos c, decide_eq_true c]
      exact Bool.or_true _
    · rw [if_neg c, decide_eq_false c]
      exact Bool.or_false _
theorem c_setMissed {G : GA} {h : HP} {t k : Nat} {b : Bool} (ht : t < 24) (hk : k < 32) {K : Int32 → HP → Prop} (kk : ∀ v : Int32, (∀ i, i < 32 → bt v i = if i = k then b else bt (h 16 t) i) → K (if bt (h 16 t) k = true then 1 else 0) (up h 16 t v)) : P_Trips_setMissed G h (nI t) (nI k) b K := by
  refine s_Trips_setMissed_0 _ _ _ _ _ _ ⟨in_nI ht (by decide), ?_⟩
  rw [tnI (by omega), bit_shr hk]
  cases b
  · rw [if_neg (by decide)]
    intro g e
    subst e
    refine kk _ (fun i hi => ?_)
    rw [bt_clr hk hi]
    by_cases c : i = k
    · rw [if_pos c, decide_eq_true c]
      exact Bool.and_false _
    · rw [if_neg c, decide_eq_false c]
      exact Bool.and_true _
  · rw [if_pos rfl]
    intro g e
    subst e
    refine kk _ (fun i hi => ?_)
    rw [bt_set hk hi]
    by_cases c : i = k
    · rw [if_pos c, decide_eq_true c]
      exact Bool.or_true _
    · rw [if_neg c, decide_eq_false c]
      exact Bool.or_false _
theorem ix100m (t d : Nat) : 100 * nI t + nI d = nI (100 * t + d) := by
  rw [show (100 : Int32) = nI 100 from rfl, pk_mul, nI_add]
theorem L_gone {G : GA} {h : HP} {x1 : Int32} {x2 : Int32} {x3 : Bool} (r : Rel h) : P_Desk_gone G h x1 x2 x3 (fun a h1 => P_Model_gone G h1 x1 x2 x3 (fun b h2 => a = b ∧ Rel h2)) := by
  refine s_Desk_gone_0 _ _ _ _ _ _ (c_Trips_has ?_)
  simp only [decide_eq_true_eq]
  by_cases c1 : 0 ≤ x1 ∧ x1 < h 11 11
  rotate_left
  · rw [if_neg c1]
    refine s_Model_gone_0 _ _ _ _ _ _ (cm_isTrip r (by rfl) ?_)
    simp only [decide_eq_true_eq]
    rw [if_neg c1]
    exact ⟨by trivial, r⟩
  rw [if_pos c1]
  refine c_isDay ?_
  simp only [decide_eq_true_eq]
  by_cases c2 : 0 ≤ x2 ∧ x2 ≤ 99
  rotate_left
  · rw [if_neg c2]
    refine s_Model_gone_0 _ _ _ _ _ _ (cm_isTrip r (by rfl) ?_)
    simp only [decide_eq_true_eq]
    rw [if_pos c1]
    refine cm_isDay ?_
    simp only [decide_eq_true_eq]
    rw [if_neg c2]
    exact ⟨by trivial, r⟩
  rw [if_pos c2]
  obtain ⟨p, ep, hp⟩ := has_ex c1
  obtain ⟨d, ed, hd⟩ := IN_ex (b := 99) rfl c2
  have hp : p < nT h := hp
  have hT := nT_le r.1
  have hm := r.2.2.1
  rw [ep, ed]
  refine c_setGone (by omega) (by omega) (fun v hv => ?_)
  rw [← ep, ← ed]
  refine s_Model_gone_0 _ _ _ _ _ _ (cm_isTrip r (by rfl) ?_)
  simp only [decide_eq_true_eq]
  rw [if_pos c1]
  refine cm_isDay ?_
  simp only [decide_eq_true_eq]
  rw [if_pos c2]
  rw [ep, ed, ix100m, tnI (by omega)]
  refine ⟨in_nI (by omega) (by decide), ?_⟩
  intro g1 e1
  subst e1
  have hiff : h 80 (100 * p + d) = 0 ↔ bt (h 21 d) p = false := hm.2.2.2.1 p d (by omega) (by omega)
  have hR : Rel (up (up h 21 d v) 80 (100 * p + d) (b2i x3)) := by
    have am : AM [21, 80] [] h (up (up h 21 (d) (v)) 80 (100 * p + d) (b2i x3)) :=
      (((AM.refl _ _ h).pt (by decide) (by decide) _ _).pt (by decide) (by decide) _ _)
    refine r.kp (Kp.of am) ⟨Nat.le_refl _, Nat.le_refl _, fun _ _ => Nat.le_refl _, fun _ _ => rfl⟩ ?_ ?_
    · obtain ⟨⟨a1, a2, a3, a4⟩, ⟨b1, b2, b3, b4⟩, ⟨cc1, cc2, cc3, cc4, cc5, cc6, cc7⟩, ⟨d1, d2, d3, d4, d5, d6, d7⟩, ⟨f1, f2, f3, f4, f5, f6, f7, f8, f9⟩⟩ := r.1
      exact ⟨⟨a1, a2, a3, a4⟩, ⟨b1, b2, b3, tot_k b4 rfl rfl⟩, ⟨cc1, cc2, cc3, cc4, cc5, cc6, cc7⟩, ⟨d1, d2, d3, d4, d5, d6, d7⟩, ⟨f1, f2, f3, f4, f5, f6, f7, f8, f9⟩⟩
    · refine ⟨?_, hm.2.1, hm.2.2.1, ?_, ?_⟩
      · intro p hp
        simp only [mP, List.mem_cons, List.not_mem_nil, or_false] at hp
        rcases hp with e | e | e | e | e | e | e | e | e | e | e | e | e | e | e | e | e | e | e | e | e | e | e <;> subst e
        · exact hm.1 (68, 3) (by decide)
        · exact hm.1 (69, 4) (by decide)
        · exact hm.1 (70, 5) (by decide)
        · exact hm.1 (71, 20) (by decide)
        · exact hm.1 (72, 12) (by decide)
        · exact hm.1 (73, 13) (by decide)
        · exact hm.1 (74, 14) (by decide)
        · exact hm.1 (75, 15) (by decide)
        · exact hm.1 (76, 17) (by decide)
        · exact hm.1 (77, 18) (by decide)
        · exact hm.1 (78, 19) (by decide)
        · exact hm.1 (81, 23) (by decide)
        · exact hm.1 (82, 24) (by decide)
        · exact hm.1 (83, 25) (by decide)
        · exact hm.1 (84, 26) (by decide)
        · exact hm.1 (85, 27) (by decide)
        · exact hm.1 (86, 28) (by decide)
        · exact hm.1 (87, 29) (by decide)
        · exact hm.1 (88, 30) (by decide)
        · exact hm.1 (89, 7) (by decide)
        · exact hm.1 (90, 8) (by decide)
        · exact hm.1 (91, 9) (by decide)
        · exact hm.1 (92, 10) (by decide)
      · intro t d' h1 h2
        show upd (h 80) (100 * p + d) (b2i x3) (100 * t + d') = 0 ↔ bt (upd (h 21) d v d') t = false
        by_cases cd : d' = d
        · by_cases ct : t = p
          · subst cd ct
            rw [upd, if_pos rfl, upd, if_pos rfl, hv t (by omega), if_pos rfl]
            exact b2i_0
          · subst cd
            rw [upd, if_neg (by omega), upd, if_pos rfl, hv t (by omega), if_neg ct]
            exact hm.2.2.2.1 t d' h1 h2
        · rw [upd, if_neg (by omega), upd, if_neg cd]
          exact hm.2.2.2.1 t d' h1 h2
      · intro t d k h1 h2 h3
        rw [tkN_c (am.1 31 (by decide) (by decide)) (am.1 32 (by decide) (by decide)) (am.1 33 (by decide) (by decide))]
        exact hm.2.2.2.2 t d k h1 h2 h3
  by_cases c3 : bt (h 21 d) p = false
  · rw [if_pos (show up h 21 d v 80 (100 * p + d) = 0 from hiff.mpr c3), c3]
    exact ⟨rfl, hR⟩
  · rw [if_neg (show ¬ up h 21 d v 80 (100 * p + d) = 0 from fun q => c3 (hiff.mp q)), if_pos (by cases q : bt (h 21 d) p; exact absurd q c3; rfl)]
    exact ⟨rfl, hR⟩
theorem L_miss {G : GA} {h : HP} {x1 : Int32} {x2 : Int32} {x3 : Bool} (r : Rel h) : P_Desk_miss G h x1 x2 x3 (fun a h1 => P_Model_miss G h1 x1 x2 x3 (fun b h2 => a = b ∧ Rel h2)) := by
  refine s_Desk_miss_0 _ _ _ _ _ _ (c_hasCall r ?_)
  simp only [decide_eq_true_eq]
  by_cases c1 : (0 ≤ x1 ∧ x1 < h 11 11) ∧ 0 ≤ x2 ∧ x2 < h 15 (tn x1)
  rotate_left
  · rw [if_neg c1]
    refine s_Model_miss_0 _ _ _ _ _ _ (cm_isCall r (by rfl) (by rfl) ?_)
    simp only [decide_eq_true_eq]
    rw [if_neg c1]
    exact ⟨by trivial, r⟩
  rw [if_pos c1]
  obtain ⟨p, ep, hp⟩ := has_ex c1.1
  obtain ⟨k, ek, hk⟩ := has_ex c1.2
  have hp : p < nT h := hp
  have hT := nT_le r.1
  have hC := nC_le r.1 p
  have hk : k < nC h p := by rw [ep, tnI (by omega)] at hk; exact hk
  have hm := r.2.2.1
  rw [ep, ek]
  refine c_setMissed (by omega) (by omega) (fun v hv => ?_)
  rw [← ep, ← ek]
  refine s_Model_miss_0 _ _ _ _ _ _ (cm_isCall r (by rfl) (by rfl) ?_)
  simp only [decide_eq_true_eq]
  rw [if_pos c1]
  rw [ep, ek, ix8', tnI (by omega)]
  refine ⟨in_nI (by omega) (by decide), ?_⟩
  intro g1 e1
  subst e1
  have hiff : h 79 (8 * p + k) = 0 ↔ bt (h 16 p) k = false := hm.2.2.1 p k (by omega) (by omega)
  have hR : Rel (up (up h 16 p v) 79 (8 * p + k) (b2i x3)) := by
    have am : AM [16, 79] [] h (up (up h 16 (p) (v)) 79 (8 * p + k) (b2i x3)) :=
      (((AM.refl _ _ h).pt (by decide) (by decide) _ _).pt (by decide) (by decide) _ _)
    refine r.kp (Kp.of am) ⟨Nat.le_refl _, Nat.le_refl _, fun _ _ => Nat.le_refl _, fun _ _ => rfl⟩ ?_ ?_
    · obtain ⟨⟨a1, a2, a3, a4⟩, ⟨b1, b2, b3, b4⟩, ⟨cc1, cc2, cc3, cc4, cc5, cc6, cc7⟩, ⟨d1, d2, d3, d4, d5, d6, d7⟩, ⟨f1, f2, f3, f4, f5, f6, f7, f8, f9⟩⟩ := r.1
      refine ⟨⟨a1, a2, a3, a4⟩, ⟨b1, b2, b3, tot_k b4 rfl rfl⟩, ⟨cc1, cc2, cc3, cc4, cc5, cc6, cc7⟩, ⟨d1, d2, d3, d4, d5, ?_, d7⟩, ⟨f1, f2, f3, f4, f5, f6, f7, f8, f9⟩⟩
      intro t j hj
      show bt (upd (h 16) p v t) j = false
      have hj : nC h t ≤ j := hj
      by_cases ct : t = p
      · subst ct
        rw [upd, if_pos rfl]
        rcases Nat.lt_or_ge j 32 with q | q
        · rw [hv j q, if_neg (by omega)]
          exact d6 t j hj
        · exact b_big q
      · rw [upd, if_neg ct]
        exact d6 t j hj
    · refine ⟨?_, hm.2.1, ?_, hm.2.2.2.1, ?_⟩
      · intro p hp
        simp only [mP, List.mem_cons, List.not_mem_nil, or_false] at hp
        rcases hp with e | e | e | e | e | e | e | e | e | e | e | e | e | e | e | e | e | e | e | e | e | e | e <;> subst e
        · exact hm.1 (68, 3) (by decide)
        · exact hm.1 (69, 4) (by decide)
        · exact hm.1 (70, 5) (by decide)
        · exact hm.1 (71, 20) (by decide)
        · exact hm.1 (72, 12) (by decide)
        · exact hm.1 (73, 13) (by decide)
        · exact hm.1 (74, 14) (by decide)
        · exact hm.1 (75, 15) (by decide)
        · exact hm.1 (76, 17) (by decide)
        · exact hm.1 (77, 18) (by decide)
        · exact hm.1 (78, 19) (by decide)
        · exact hm.1 (81, 23) (by decide)
        · exact hm.1 (82, 24) (by decide)
        · exact hm.1 (83, 25) (by decide)
        · exact hm.1 (84, 26) (by decide)
        · exact hm.1 (85, 27) (by decide)
        · exact hm.1 (86, 28) (by decide)
        · exact hm.1 (87, 29) (by decide)
        · exact hm.1 (88, 30) (by decide)
        · exact hm.1 (89, 7) (by decide)
        · exact hm.1 (90, 8) (by decide)
        · exact hm.1 (91, 9) (by decide)
        · exact hm.1 (92, 10) (by decide)
      · intro t j h1 h2
        show upd (h 79) (8 * p + k) (b2i x3) (8 * t + j) = 0 ↔ bt (upd (h 16) p v t) j = false
        by_cases ct : t = p
        · by_cases cd : j = k
          · subst cd ct
            rw [upd, if_pos rfl, upd, if_pos rfl, hv j (by omega), if_pos rfl]
            exact b2i_0
          · subst ct
            rw [upd, if_neg (by omega), upd, if_pos rfl, hv j (by omega), if_neg cd]
            exact hm.2.2.1 t j h1 h2
        · rw [upd, if_neg (by omega), upd, if_neg ct]
          exact hm.2.2.1 t j h1 h2
      · intro t d k h1 h2 h3
        rw [tkN_c (am.1 31 (by decide) (by decide)) (am.1 32 (by decide) (by decide)) (am.1 33 (by decide) (by decide))]
        exact hm.2.2.2.2 t d k h1 h2 h3
  by_cases c3 : bt (h 16 p) k = false
  · rw [if_pos (show up h 16 p v 79 (8 * p + k) = 0 from hiff.mpr c3), c3]
    exact ⟨rfl, hR⟩
  · rw [if_neg (show ¬ up h 16 p v 79 (8 * p + k) = 0 from fun q => c3 (hiff.mp q)), if_pos (by cases q : bt (h 16 p) k; exact absurd q c3; rfl)]
    exact ⟨rfl, hR⟩
theorem trip_add {G : GA} {h : HP} {x1 x2 x3 : Int32} (r : Rel h) (k1 : IN 2 x1) (k2 : IN 127 x2) (k3 : IN 50 x3) (k4 : ¬ x1 = 0 → 1 ≤ tn x3) {K : Int32 → HP → Prop} (kk : ∀ a h1, H_Model_trip_40 G h1 x1 x2 x3 (fun b h2 => a = b ∧ Rel h2) → K a h1) : P_Trips_add G h x1 x2 x3 K := by
  have e0 : h 67 1 = h 11 11 := r.2.2.1.2.1.2.1
  have hT := r.1.2.2.1.1
  refine s_Trips_add_0 _ _ _ _ _ _ ?_
  by_cases c5 : h 11 11 < 24
  rotate_left
  · rw [if_neg c5]
    refine kk _ _ (s_Model_trip_40 _ _ _ _ _ _ ?_)
    rw [e0, if_pos (full_eq hT rfl c5)]
    exact ⟨by trivial, r⟩
  rw [if_pos c5]
  have hlt : nT h < 24 := full_lt hT rfl c5
  refine ⟨by rw [ok_T r.1]; exact in_nI hlt (by decide), ?_⟩
  intro g1 e1 g2 e2 g3 e3 g4 e4
  subst e1 e2 e3 e4
  refine kk _ _ (s_Model_trip_40 _ _ _ _ _ _ ?_)
  rw [show (up (up (up (up h 12 (tn (h 11 11)) x1) 13 (tn (h 11 11)) x2) 14 (tn (h 11 11)) x3) 11 11 (h 11 11 + 1)) 67 1 = h 11 11 from e0, if_neg (fun e => by rw [e] at c5; exact absurd c5 (by decide))]
  refine ⟨by rw [ok_T r.1]; exact in_nI hlt (by decide), ?_⟩
  intro g1 e1 g2 e2 g3 e3 g4 e4 g5 e5
  subst e1 e2 e3 e4 e5
  refine ⟨by rw [up_at, add1], ?_⟩
  have en : tn (h 11 11 + 1) = nT h + 1 := tn_inc hT (by decide)
  have hn : tn (h 11 11) = nT h := rfl
  have hm := r.2.2.1
  have am : AM [12, 13, 14, 11, 72, 73, 74, 75] [1] h (up (up (up (up (up (up (up (up (up h 12 (tn (h 11 11)) (x1)) 13 (tn (h 11 11)) (x2)) 14 (tn (h 11 11)) (x3)) 11 (11) (h 11 11 + 1)) 72 (tn (h 11 11)) (x1)) 73 (tn (h 11 11)) (x2)) 74 (tn (h 11 11)) (x3)) 75 (tn (h 11 11)) (0)) 67 (1) (h 11 11 + 1)) :=
    ((((((((((AM.refl _ _ h).pt (by decide) (by decide) _ _).pt (by decide) (by decide) _ _).pt (by decide) (by decide) _ _).pt (by decide) (by decide) _ _).pt (by decide) (by decide) _ _).pt (by decide) (by decide) _ _).pt (by decide) (by decide) _ _).pt (by decide) (by decide) _ _).p67 (by decide) _)
  refine r.kp (Kp.of am) ⟨Nat.le_refl _, by show nT h ≤ tn (h 11 11 + 1); rw [en]; omega, fun _ _ => Nat.le_refl _, fun t ht => by show upd (h 12) (tn (h 11 11)) x1 t = h 12 t; rw [upd, if_neg (by omega)]⟩ ?_ ?_
  · obtain ⟨⟨a1, a2, a3, a4⟩, ⟨b1, b2, b3, b4⟩, ⟨cc1, cc2, cc3, cc4, cc5, cc6, cc7⟩, ⟨d1, d2, d3, d4, d5, d6, d7⟩, ⟨f1, f2, f3, f4, f5, f6, f7, f8, f9⟩⟩ := r.1
    refine ⟨⟨a1, a2, a3, a4⟩, ⟨b1, b2, b3, tot_k b4 rfl rfl⟩, ⟨?_, IN_upd cc2 k1, IN_upd cc3 k2, IN_upd cc4 k3, cc5, ?_, ?_⟩, ⟨d1, d2, d3, d4, d5, d6, d7⟩, ⟨f1, f2, f3, f4, f5, f6, f7, f8, f9⟩⟩
    · show IN 24 (h 11 11 + 1)
      exact IN_inc hT (by decide) hlt
    · intro t ht
      have ht : tn (h 11 11 + 1) ≤ t := ht
      exact cc6 t (by omega)
    · intro t ht hk
      have ht : t < tn (h 11 11 + 1) := ht
      have hk : ¬ upd (h 12) (tn (h 11 11)) x1 t = 0 := hk
      show 1 ≤ tn (upd (h 14) (tn (h 11 11)) x3 t)
      by_cases e : t = tn (h 11 11)
      · rw [upd, if_pos e]
        rw [upd, if_pos e] at hk
        exact k4 hk
      · rw [upd, if_neg e]
        rw [upd, if_neg e] at hk
        exact cc7 t (by omega) hk
  · refine ⟨?_, ⟨hm.2.1.1, rfl, hm.2.1.2.2⟩, hm.2.2.1, hm.2.2.2.1, ?_⟩
    · intro p hp
      simp only [mP, List.mem_cons, List.not_mem_nil, or_false] at hp
      rcases hp with e | e | e | e | e | e | e | e | e | e | e | e | e | e | e | e | e | e | e | e | e | e | e <;> subst e
      · exact hm.1 (68, 3) (by decide)
      · exact hm.1 (69, 4) (by decide)
      · exact hm.1 (70, 5) (by decide)
      · exact hm.1 (71, 20) (by decide)
      · exact congrArg (fun f => upd f (tn (h 11 11)) (x1)) (hm.c 72 12)
      · exact congrArg (fun f => upd f (tn (h 11 11)) (x2)) (hm.c 73 13)
      · exact congrArg (fun f => upd f (tn (h 11 11)) (x3)) (hm.c 74 14)
      · exact (fa_upd_same (by show h 75 (tn (h 11 11)) = 0; rw [hm.c 75 15]; exact r.1.2.2.1.2.2.2.2.2.1 (tn (h 11 11)) (Nat.le_refl _))).trans (hm.c 75 15)
      · exact hm.1 (76, 17) (by decide)
      · exact hm.1 (77, 18) (by decide)
      · exact hm.1 (78, 19) (by decide)
      · exact hm.1 (81, 23) (by decide)
      · exact hm.1 (82, 24) (by decide)
      · exact hm.1 (83, 25) (by decide)
      · exact hm.1 (84, 26) (by decide)
      · exact hm.1 (85, 27) (by decide)
      · exact hm.1 (86, 28) (by decide)
      · exact hm.1 (87, 29) (by decide)
      · exact hm.1 (88, 30) (by decide)
      · exact hm.1 (89, 7) (by decide)
      · exact hm.1 (90, 8) (by decide)
      · exact hm.1 (91, 9) (by decide)
      · exact hm.1 (92, 10) (by decide)
    · intro t d k h1 h2 h3
      rw [tkN_c (am.1 31 (by decide) (by decide)) (am.1 32 (by decide) (by decide)) (am.1 33 (by decide) (by decide))]
      exact hm.2.2.2.2 t d k h1 h2 h3
theorem L_trip {G : GA} {h : HP} {x1 : Int32} {x2 : Int32} {x3 : Int32} (r : Rel h) : P_Desk_trip G h x1 x2 x3 (fun a h1 => P_Model_trip G h1 x1 x2 x3 (fun b h2 => a = b ∧ Rel h2)) := by
  refine s_Desk_trip_0 _ _ _ _ _ _ (c_between ?_)
  simp only [decide_eq_true_eq]
  by_cases c1 : 0 ≤ x1 ∧ x1 ≤ 2
  rotate_left
  · rw [if_neg c1]
    refine s_Model_trip_0 _ _ _ _ _ _ (cm_in ?_)
    simp only [decide_eq_true_eq]
    rw [if_neg c1]
    exact ⟨by trivial, r⟩
  rw [if_pos c1]
  refine c_between ?_
  simp only [decide_eq_true_eq]
  by_cases c2 : 1 ≤ x2 ∧ x2 ≤ 127
  rotate_left
  · rw [if_neg c2]
    refine s_Model_trip_0 _ _ _ _ _ _ (cm_in ?_)
    simp only [decide_eq_true_eq]
    rw [if_pos c1]
    refine cm_in ?_
    simp only [decide_eq_true_eq]
    rw [if_neg c2]
    exact ⟨by trivial, r⟩
  rw [if_pos c2]
  by_cases c3 : x1 = 0
  · rw [if_pos c3]
    by_cases c4 : x3 = 0
    · rw [if_pos c4]
      refine trip_add r (IN_of rfl c1) (IN_from rfl rfl c2) (by rw [c4]; exact IN_0 50) (fun q => absurd c3 q) (fun a h1 kq => ?_)
      refine s_Model_trip_0 _ _ _ _ _ _ (cm_in ?_)
      simp only [decide_eq_true_eq]
      rw [if_pos c1]
      refine cm_in ?_
      simp only [decide_eq_true_eq]
      rw [if_pos c2]
      rw [if_pos c3, if_pos c4]
      exact kq
    · rw [if_neg c4]
      refine s_Model_trip_0 _ _ _ _ _ _ (cm_in ?_)
      simp only [decide_eq_true_eq]
      rw [if_pos c1]
      refine cm_in ?_
      simp only [decide_eq_true_eq]
      rw [if_pos c2]
      rw [if_pos c3, if_neg c4]
      exact ⟨by trivial, r⟩
  rw [if_neg c3]
  refine c_between ?_
  simp only [decide_eq_true_eq]
  by_cases c4 : 1 ≤ x3 ∧ x3 ≤ 50
  · rw [if_pos c4]
    have k3 : IN 50 x3 := IN_from rfl rfl c4
    refine trip_add r (IN_of rfl c1) (IN_from rfl rfl c2) k3 (fun _ => by have q := c4.1; rw [fa_le, k3.i, show (1 : Int32).toInt = 1 from rfl] at q; omega) (fun a h1 kq => ?_)
    refine s_Model_trip_0 _ _ _ _ _ _ (cm_in ?_)
    simp only [decide_eq_true_eq]
    rw [if_pos c1]
    refine cm_in ?_
    simp only [decide_eq_true_eq]
    rw [if_pos c2]
    rw [if_neg c3]
    refine cm_in ?_
    simp only [decide_eq_true_eq]
    rw [if_pos c4]
    exact kq
  · rw [if_neg c4]
    refine s_Model_trip_0 _ _ _ _ _ _ (cm_in ?_)
    simp only [decide_eq_true_eq]
    rw [if_pos c1]
    refine cm_in ?_
    simp only [decide_eq_true_eq]
    rw [if_pos c2]
    rw [if_neg c3]
    refine cm_in ?_
    simp only [decide_eq_true_eq]
    rw [if_neg c4]
    exact ⟨by trivial, r⟩
theorem call_core {G : GA} {h : HP} {p n : Nat} {x2 x3 x4 pv lim : Int32} (r : Rel h) (hp : p < nT h) (hn : n = nC h p) (h8 : n < 8) (hx2 : ∃ s, x2 = nI s ∧ s < nS h) (hpv : 0 ≤ pv.toInt) (hpv2 : ∀ m, m + 1 = n → pv = nI (lA h p m)) (hl : lim = if h 12 p = 2 then 2879 else 1439) {K : Int32 → HP → Prop} (kk : ∀ a h1, h1 67 = h 67 → h1 72 = h 72 → h1 75 = h 75 → h1 78 = h 78 → H_Model_call_65 G h1 (nI p) x2 x3 x4 (nI (8 * p + n)) pv (fun b h2 => a = b ∧ Rel h2) → K a h1) : H_Trips_addCall_66 G h (nI p) x2 x3 x4 (nI n) (nI (8 * p + n)) pv lim K := by
  have hT := nT_le r.1
  have hm := r.2.2.1
  have e72 : h 72 = h 12 := hm.c 72 12
  have e75 : h 75 p = nI n := by rw [hm.c 75 15, hn]; exact ok_C r.1 p
  refine s_Trips_addCall_66 _ _ _ _ _ _ _ _ _ _ _ ?_
  by_cases c1 : x3 < pv
  · rw [if_pos c1]
    refine kk _ _ rfl rfl rfl rfl (s_Model_call_65 _ _ _ _ _ _ _ _ _ ?_)
    rw [if_pos c1]
    exact ⟨by trivial, r⟩
  rw [if_neg c1]
  by_cases c2 : x4 < x3
  · rw [if_pos c2]
    refine kk _ _ rfl rfl rfl rfl (s_Model_call_65 _ _ _ _ _ _ _ _ _ ?_)
    rw [if_neg c1, if_pos c2]
    exact ⟨by trivial, r⟩
  rw [if_neg c2]
  have core : ∀ h1 : HP, h1 72 = h 72 → ∀ KK, H_Model_call_100 G h1 (nI p) x2 x3 x4 (nI (8 * p + n)) lim x4 KK → H_Model_call_65 G h1 (nI p) x2 x3 x4 (nI (8 * p + n)) pv KK := by
    intro h1 e1 KK q
    refine s_Model_call_65 _ _ _ _ _ _ _ _ _ ?_
    rw [if_neg c1, if_neg c2, tnI (by omega), e1, e72]
    refine ⟨in_nI (by omega) (by decide), ?_⟩
    by_cases c : h 12 p = 2
    · rw [if_pos c]
      rw [if_pos c] at hl
      rw [hl] at q
      exact q
    · rw [if_neg c]
      rw [if_neg c] at hl
      rw [hl] at q
      exact q
  by_cases c3 : x4 ≤ lim
  rotate_left
  · rw [if_neg c3]
    refine kk _ _ rfl rfl rfl rfl (core _ (by rfl) _ (s_Model_call_100 _ _ _ _ _ _ _ _ _ _ ?_))
    rw [if_neg c3]
    exact ⟨by trivial, r⟩
  rw [if_pos c3, tnI (by omega), tnI (by omega), ok_C r.1 p, ← hn]
  refine ⟨in_nI (by omega) (by decide), ?_⟩
  intro g1 e1 g2 e2 g3 e3
  refine ⟨in_nI (by omega) (by decide), ?_⟩
  intro g4 e4
  subst e1 e2 e3 e4
  refine kk _ _ rfl rfl rfl rfl (core _ (by rfl) _ (s_Model_call_100 _ _ _ _ _ _ _ _ _ _ ?_))
  rw [if_pos c3, tnI (by omega), tnI (by omega), show up (up (up (up h 17 (8 * p + n) x2) 18 (8 * p + n) x3) 19 (8 * p + n) x4) 15 p (nI n + 1) 75 p = nI n from e75]
  refine ⟨in_nI (by omega) (by decide), ?_⟩
  intro g1 e1 g2 e2 g3 e3 g4 e4
  refine ⟨in_nI (by omega) (by decide), ?_⟩
  intro g5 e5
  subst e1 e2 e3 e4 e5
  refine ⟨by rw [up_at, add1], ?_⟩
  obtain ⟨s, es, hs⟩ := hx2
  have hS := nS_le r.1
  have t0 : (2879 : Int32).toInt = 2879 ∧ (1439 : Int32).toInt = 1439 := ⟨rfl, rfl⟩
  have hlim : lim.toInt ≤ 2879 := by
    rw [hl]
    split <;> omega
  have k1 := fa_of_nlt c1
  have k2 := fa_of_nlt c2
  rw [fa_le] at k1 k2 c3
  have i3 : IN 2879 x3 := ⟨by omega, by omega⟩
  have i4 : IN 2879 x4 := ⟨by omega, by omega⟩
  have en : nI n + 1 = nI (n + 1) := by rw [← nI_add]; rfl
  have tn1 : tn (nI n + 1) = n + 1 := by rw [en, tnI (by omega)]
  have hnC : ∀ t, tn (upd (h 15) p (nI n + 1) t) = if t = p then n + 1 else nC h t := by
    intro t
    unfold upd
    by_cases e : t = p
    · rw [if_pos e, if_pos e, tn1]
    · rw [if_neg e, if_neg e]
      rfl
  have am : AM [17, 18, 19, 15, 76, 77, 78, 79, 75] [] h (up (up (up (up (up (up (up (up (up h 17 (8 * p + n) (x2)) 18 (8 * p + n) (x3)) 19 (8 * p + n) (x4)) 15 (p) (nI n + 1)) 76 (8 * p + n) (x2)) 77 (8 * p + n) (x3)) 78 (8 * p + n) (x4)) 79 (8 * p + n) (b2i false)) 75 (p) (nI n + 1)) :=
    ((((((((((AM.refl _ _ h).pt (by decide) (by decide) _ _).pt (by decide) (by decide) _ _).pt (by decide) (by decide) _ _).pt (by decide) (by decide) _ _).pt (by decide) (by decide) _ _).pt (by decide) (by decide) _ _).pt (by decide) (by decide) _ _).pt (by decide) (by decide) _ _).pt (by decide) (by decide) _ _)
  refine r.kp (Kp.of am) ⟨Nat.le_refl _, Nat.le_refl _, fun t ht => ?_, fun _ _ => rfl⟩ ?_ ?_
  · show nC h t ≤ tn (upd (h 15) p (nI n + 1) t)
    rw [hnC]
    split
    · rename_i e
      rw [e]
      omega
    · exact Nat.le_refl _
  · obtain ⟨⟨a1, a2, a3, a4⟩, ⟨b1, b2, b3, b4⟩, ⟨cc1, cc2, cc3, cc4, cc5, cc6, cc7⟩, ⟨d1, d2, d3, d4, d5, d6, d7⟩, ⟨f1, f2, f3, f4, f5, f6, f7, f8, f9⟩⟩ := r.1
    refine ⟨⟨a1, a2, a3, a4⟩, ⟨b1, b2, b3, tot_k b4 rfl rfl⟩, ⟨cc1, cc2, cc3, cc4, IN_upd cc5 (by rw [en]; exact IN_nI (by omega) (by decide)), ?_, cc7⟩, ⟨IN_upd d1 (by rw [es]; exact IN_nI (by omega) (by decide)), IN_upd d2 i3, IN_upd d3 i4, ?_, ?_, ?_, d7⟩, ⟨f1, f2, f3, f4, f5, f6, f7, f8, f9⟩⟩
    · intro t ht
      have ht : nT h ≤ t := ht
      show upd (h 15) p (nI n + 1) t = 0
      rw [upd, if_neg (by omega)]
      exact cc6 t ht
    · intro t k hk
      have hk : k < tn (upd (h 15) p (nI n + 1) t) := hk
      rw [hnC] at hk
      show tn (upd (h 17) (8 * p + n) x2 (8 * t + k)) < nS h ∧ tn (upd (h 18) (8 * p + n) x3 (8 * t + k)) ≤ tn (upd (h 19) (8 * p + n) x4 (8 * t + k))
      have h8t := nC_le r.1 t
      by_cases e : t = p ∧ k = n
      · rw [e.1, e.2]
        simp only [upd, if_pos]
        rw [es, tnI (by omega)]
        have m3 := i3.i
        have m4 := i4.i
        exact ⟨hs, by omega⟩
      · have hk2 : k < nC h t := by
          split at hk
          · rename_i e2
            rw [e2, ← hn]
            omega
          · exact hk
        have ne : ¬ 8 * t + k = 8 * p + n := by omega
        simp only [upd, if_neg ne]
        exact d4 t k hk2
    · intro t k hk
      have hk : k + 1 < tn (upd (h 15) p (nI n + 1) t) := hk
      rw [hnC] at hk
      show tn (upd (h 19) (8 * p + n) x4 (8 * t + k)) ≤ tn (upd (h 18) (8 * p + n) x3 (8 * t + (k + 1)))
      have h8t := nC_le r.1 t
      by_cases e : t = p ∧ k + 1 = n
      · obtain ⟨e1, e2⟩ := e
        subst e1
        have e3 := hpv2 k e2
        rw [upd, if_neg (by omega), upd, if_pos (by omega)]
        have m3 := i3.i
        have m5 := congrArg Int32.toInt e3
        rw [toInt_nI (by have := lA_le r.1 t k; omega)] at m5
        show lA h t k ≤ _
        omega
      · have hk2 : k + 1 < nC h t := by
          split at hk
          · rename_i e2
            rw [e2, ← hn]
            omega
          · exact hk
        have hq : ¬ t = p ∨ nC h t = n := by
          by_cases e2 : t = p
          · exact Or.inr (by rw [e2, hn])
          · exact Or.inl e2
        rw [upd, if_neg (by omega), upd, if_neg (by omega)]
        exact d5 t k hk2
    · intro t k hk
      have hk : tn (upd (h 15) p (nI n + 1) t) ≤ k := hk
      rw [hnC] at hk
      refine d6 t k ?_
      split at hk
      · rename_i e2
        rw [e2, ← hn]
        omega
      · exact hk
  · refine ⟨?_, hm.2.1, ?_, hm.2.2.2.1, ?_⟩
    · intro p hp
      simp only [mP, List.mem_cons, List.not_mem_nil, or_false] at hp
      rcases hp with e | e | e | e | e | e | e | e | e | e | e | e | e | e | e | e | e | e | e | e | e | e | e <;> subst e
      · exact hm.1 (68, 3) (by decide)
      · exact hm.1 (69, 4) (by decide)
      · exact hm.1 (70, 5) (by decide)
      · exact hm.1 (71, 20) (by decide)
      · exact hm.1 (72, 12) (by decide)
      · exact hm.1 (73, 13) (by decide)
      · exact hm.1 (74, 14) (by decide)
      · exact congrArg (fun f => upd f (p) (nI n + 1)) (hm.c 75 15)
      · exact congrArg (fun f => upd f (8 * p + n) (x2)) (hm.c 76 17)
      · exact congrArg (fun f => upd f (8 * p + n) (x3)) (hm.c 77 18)
      · exact congrArg (fun f => upd f (8 * p + n) (x4)) (hm.c 78 19)
      · exact hm.1 (81, 23) (by decide)
      · exact hm.1 (82, 24) (by decide)
      · exact hm.1 (83, 25) (by decide)
      · exact hm.1 (84, 26) (by decide)
      · exact hm.1 (85, 27) (by decide)
      · exact hm.1 (86, 28) (by decide)
      · exact hm.1 (87, 29) (by decide)
      · exact hm.1 (88, 30) (by decide)
      · exact hm.1 (89, 7) (by decide)
      · exact hm.1 (90, 8) (by decide)
      · exact hm.1 (91, 9) (by decide)
      · exact hm.1 (92, 10) (by decide)
    · intro t k h1 h2
      show upd (h 79) (8 * p + n) (b2i false) (8 * t + k) = 0 ↔ bt (h 16 t) k = false
      by_cases e : 8 * t + k = 8 * p + n
      · have e1 : t = p := by omega
        have e2 : k = n := by omega
        rw [upd, if_pos e]
        exact ⟨fun _ => r.1.2.2.2.1.2.2.2.2.2.1 t k (by rw [e1, ← hn]; omega), fun _ => rfl⟩
      · rw [upd, if_neg e]
        exact hm.2.2.1 t k h1 h2
    · intro t d k h1 h2 h3
      rw [tkN_c (am.1 31 (by decide) (by decide)) (am.1 32 (by decide) (by decide)) (am.1 33 (by decide) (by decide))]
      exact hm.2.2.2.2 t d k h1 h2 h3
theorem L_call {G : GA} {h : HP} {x1 : Int32} {x2 : Int32} {x3 : Int32} {x4 : Int32} (r : Rel h) : P_Desk_call G h x1 x2 x3 x4 (fun a h1 => P_Model_call G h1 x1 x2 x3 x4 (fun b h2 => a = b ∧ Rel h2)) := by
  refine s_Desk_call_0 _ _ _ _ _ _ _ (c_Trips_has ?_)
  simp only [decide_eq_true_eq]
  by_cases c1 : 0 ≤ x1 ∧ x1 < h 11 11
  rotate_left
  · rw [if_neg c1]
    refine s_Model_call_0 _ _ _ _ _ _ _ (cm_isTrip r (by rfl) ?_)
    simp only [decide_eq_true_eq]
    rw [if_neg c1]
    exact ⟨by trivial, r⟩
  rw [if_pos c1]
  refine c_Stops_has ?_
  simp only [decide_eq_true_eq]
  by_cases c2 : 0 ≤ x2 ∧ x2 < h 2 3
  rotate_left
  · rw [if_neg c2]
    refine s_Model_call_0 _ _ _ _ _ _ _ (cm_isTrip r (by rfl) ?_)
    simp only [decide_eq_true_eq]
    rw [if_pos c1]
    refine cm_isStop r (by rfl) ?_
    simp only [decide_eq_true_eq]
    rw [if_neg c2]
    exact ⟨by trivial, r⟩
  rw [if_pos c2]
  obtain ⟨p, ep, hp⟩ := has_ex c1
  have hp : p < nT h := hp
  have hT := nT_le r.1
  have hm := r.2.2.1
  have hC := nC_le r.1 p
  have tp : tn x1 = p := by rw [ep, tnI (by omega)]
  have e75 : h 75 p = nI (nC h p) := by rw [hm.c 75 15]; exact ok_C r.1 p
  have hv : vp_in x1 24 := by rw [ep]; exact in_nI (by omega) (by decide)
  refine s_Trips_addCall_0 _ _ _ _ _ _ _ ⟨hv, ?_⟩
  rw [tp, ok_C r.1 p]
  by_cases c3 : nC h p < 8
  rotate_left
  · rw [if_neg (by rw [show (8 : Int32) = nI 8 from rfl, ltI (by omega) (by omega)]; exact c3)]
    refine s_Model_call_0 _ _ _ _ _ _ _ (cm_isTrip r (by rfl) ?_)
    simp only [decide_eq_true_eq]
    rw [if_pos c1]
    refine cm_isStop r (by rfl) ?_
    simp only [decide_eq_true_eq]
    rw [if_pos c2]
    refine ⟨hv, ?_⟩
    rw [tp, e75, if_pos (by rw [show (8 : Int32) = nI 8 from rfl, eqI (by omega) (by omega)]; omega)]
    exact ⟨by trivial, r⟩
  rw [if_pos (by rw [show (8 : Int32) = nI 8 from rfl, ltI (by omega) (by omega)]; exact c3)]
  have ne8 : ¬ nI (nC h p) = 8 := by rw [show (8 : Int32) = nI 8 from rfl, eqI (by omega) (by omega)]; omega
  have i1 : x1 * 8 + nI (nC h p) = nI (8 * p + nC h p) := by rw [ep, ix8]
  have i2 : 8 * x1 + nI (nC h p) = nI (8 * p + nC h p) := by rw [ep, ix8']
  have lim : ∀ y0 K, (∀ l, l = (if h 12 p = 2 then 2879 else 1439) → H_Trips_addCall_66 G h x1 x2 x3 x4 (nI (nC h p)) (nI (8 * p + nC h p)) y0 l K) → H_Trips_addCall_45 G h x1 x2 x3 x4 (nI (nC h p)) (nI (8 * p + nC h p)) y0 K := by
    intro y0 K q
    refine s_Trips_addCall_45 _ _ _ _ _ _ _ _ _ _ ⟨hv, ?_⟩
    rw [tp]
    by_cases c : h 12 p = 2
    · rw [if_pos c]
      exact q _ (by rw [if_pos c])
    · rw [if_neg c]
      exact q _ (by rw [if_neg c])
  rw [i1]
  by_cases c4 : nC h p = 0
  · rw [if_pos (by rw [c4]; rfl)]
    refine lim _ _ (fun l hl => ?_)
    rw [ep]
    refine call_core r hp rfl c3 (has_ex c2) (by decide) (fun m hm => by omega) hl (fun a h1 e1 e2 e3 e4 q => ?_)
    rw [← ep]
    rw [← ep] at q
    refine s_Model_call_0 _ _ _ _ _ _ _ (cm_isTrip r (by rw [e1]) ?_)
    simp only [decide_eq_true_eq]
    rw [if_pos c1]
    refine cm_isStop r (by rw [e1]) ?_
    simp only [decide_eq_true_eq]
    rw [if_pos c2, tp, e3, e75, if_neg ne8, if_pos (by rw [c4]; rfl), i2]
    exact ⟨hv, q⟩
  · have ne0 : ¬ nI (nC h p) = 0 := by rw [show (0 : Int32) = nI 0 from rfl, eqI (by omega) (by omega)]; exact c4
    have i3 : nI (8 * p + nC h p) - 1 = nI (8 * p + (nC h p - 1)) := by
      rw [show 8 * p + nC h p = (8 * p + (nC h p - 1)) + 1 by omega, sub1]
    have hl := lA_le r.1 p (nC h p - 1)
    rw [if_neg ne0, i3, tnI (by omega), ok_lA r.1]
    refine ⟨in_nI (by omega) (by decide), lim _ _ (fun l hl => ?_)⟩
    rw [ep]
    refine call_core r hp rfl c3 (has_ex c2) (by rw [toInt_nI (by omega)]; omega) (fun m hm => by rw [show nC h p - 1 = m by omega]) hl (fun a h1 e1 e2 e3 e4 q => ?_)
    rw [← ep]
    rw [← ep] at q
    refine s_Model_call_0 _ _ _ _ _ _ _ (cm_isTrip r (by rw [e1]) ?_)
    simp only [decide_eq_true_eq]
    rw [if_pos c1]
    refine cm_isStop r (by rw [e1]) ?_
    simp only [decide_eq_true_eq]
    rw [if_pos c2, tp, e3, e75, if_neg ne8, if_neg ne0, i2, i3, tnI (by omega), e4, hm.c 78 19, ok_lA r.1]
    exact ⟨hv, in_nI (by omega) (by decide), q⟩
theorem late_c {h h' : HP} (e6 : h' 6 = h 6) (e7 : h' 7 = h 7) (e8 : h' 8 = h 8) (e9 : h' 9 = h 9) (e10 : h' 10 = h 10) (t d k : Nat) : late h' t d k = late h t d k := by
  have e : ∀ n, lsN h' t d k n = lsN h t d k n := by
    intro n
    induction n with
    | zero => rfl
    | succ n ih =>
      simp only [lsN]
      rw [ih, e7, e8, e9, e10]
  unfold late nL
  rw [e, e6]
theorem L_late {G : GA} {h : HP} {x1 : Int32} {x2 : Int32} {x3 : Int32} {x4 : Int32} (r : Rel h) : P_Desk_late G h x1 x2 x3 x4 (fun a h1 => P_Model_late G h1 x1 x2 x3 x4 (fun b h2 => a = b ∧ Rel h2)) := by
  refine s_Desk_late_0 _ _ _ _ _ _ _ (c_hasCall r ?_)
  simp only [decide_eq_true_eq]
  by_cases c1 : (0 ≤ x1 ∧ x1 < h 11 11) ∧ 0 ≤ x3 ∧ x3 < h 15 (tn x1)
  rotate_left
  · rw [if_neg c1]
    refine s_Model_late_0 _ _ _ _ _ _ _ (cm_isCall r (by rfl) (by rfl) ?_)
    simp only [decide_eq_true_eq]
    rw [if_neg c1]
    exact ⟨by trivial, r⟩
  rw [if_pos c1]
  refine c_isDay ?_
  simp only [decide_eq_true_eq]
  by_cases c2 : 0 ≤ x2 ∧ x2 ≤ 99
  rotate_left
  · rw [if_neg c2]
    refine s_Model_late_0 _ _ _ _ _ _ _ (cm_isCall r (by rfl) (by rfl) ?_)
    simp only [decide_eq_true_eq]
    rw [if_pos c1]
    refine cm_isDay ?_
    simp only [decide_eq_true_eq]
    rw [if_neg c2]
    exact ⟨by trivial, r⟩
  rw [if_pos c2]
  refine c_between ?_
  simp only [decide_eq_true_eq]
  by_cases c3 : 1 ≤ x4 ∧ x4 ≤ 240
  rotate_left
  · rw [if_neg c3]
    refine s_Model_late_0 _ _ _ _ _ _ _ (cm_isCall r (by rfl) (by rfl) ?_)
    simp only [decide_eq_true_eq]
    rw [if_pos c1]
    refine cm_isDay ?_
    simp only [decide_eq_true_eq]
    rw [if_pos c2]
    refine cm_in ?_
    simp only [decide_eq_true_eq]
    rw [if_neg c3]
    exact ⟨by trivial, r⟩
  rw [if_pos c3]
  have e0 : h 67 3 = h 6 4 := r.2.2.1.2.1.2.2.2
  have hL := r.1.2.1.1
  refine s_Delays_tell_0 _ _ _ _ _ _ _ ?_
  by_cases c5 : h 6 4 < 60
  rotate_left
  · rw [if_neg c5]
    refine s_Model_late_0 _ _ _ _ _ _ _ (cm_isCall r (by rfl) (by rfl) ?_)
    simp only [decide_eq_true_eq]
    rw [if_pos c1]
    refine cm_isDay ?_
    simp only [decide_eq_true_eq]
    rw [if_pos c2]
    refine cm_in ?_
    simp only [decide_eq_true_eq]
    rw [if_pos c3]
    rw [e0, if_pos (full_eq hL rfl c5)]
    exact ⟨by trivial, r⟩
  rw [if_pos c5]
  have hlt : nL h < 60 := full_lt hL rfl c5
  have hm := r.2.2.1
  refine ⟨by rw [ok_L r.1]; exact in_nI hlt (by decide), ?_⟩
  intro g1 e1 g2 e2 g3 e3 g4 e4 g5 e5 g6 e6
  subst e1 e2 e3 e4 e5
  rw [show (up (up (up (up (up h 7 (tn (h 6 4)) x1) 8 (tn (h 6 4)) x2) 9 (tn (h 6 4)) x3) 10 (tn (h 6 4)) x4) 6 4 (h 6 4 + 1)) 6 5 = h 6 5 from rfl] at e6
  subst e6
  obtain ⟨p, ep, hp⟩ := has_ex c1.1
  obtain ⟨k, ek, hk⟩ := has_ex c1.2
  obtain ⟨d, ed, hd⟩ := IN_ex (b := 99) rfl c2
  have hC := nC_le r.1 (tn x1)
  have hk : k < nC h (tn x1) := hk
  have k4 : IN 240 x4 := IN_from rfl rfl c3
  have en : tn (h 6 4 + 1) = nL h + 1 := tn_inc hL (by decide)
  have hn : tn (h 6 4) = nL h := rfl
  have hN7 : NetOK (up (up (up (up (up (up h 7 (tn (h 6 4)) (x1)) 8 (tn (h 6 4)) (x2)) 9 (tn (h 6 4)) (x3)) 10 (tn (h 6 4)) (x4)) 6 (4) (h 6 4 + 1)) 6 (5) (h 6 5 + x4)) := by
    obtain ⟨⟨a1, a2, a3, a4⟩, ⟨b1, b2, b3, b4⟩, ⟨cc1, cc2, cc3, cc4, cc5, cc6, cc7⟩, ⟨d1, d2, d3, d4, d5, d6, d7⟩, ⟨f1, f2, f3, f4, f5, f6, f7, f8, f9⟩⟩ := r.1
    refine ⟨⟨a1, a2, a3, a4⟩, ⟨?_, IN_upd b2 (by rw [ek]; exact IN_nI (by omega) (by decide)), IN_upd b3 k4, ?_⟩, ⟨cc1, cc2, cc3, cc4, cc5, cc6, cc7⟩, ⟨d1, d2, d3, d4, d5, d6, d7⟩, ⟨f1, f2, f3, f4, f5, f6, f7, f8, f9⟩⟩
    · show IN 60 (h 6 4 + 1)
      exact IN_inc hL (by decide) hlt
    · show h 6 5 + x4 = nI (totN _ (tn (h 6 4 + 1)))
      rw [en, totN, tot_c (h := h) (h' := up (up (up (up (up (up h 7 (tn (h 6 4)) (x1)) 8 (tn (h 6 4)) (x2)) 9 (tn (h 6 4)) (x3)) 10 (tn (h 6 4)) (x4)) 6 (4) (h 6 4 + 1)) 6 (5) (h 6 5 + x4)) (nL h) (fun j hj => by show upd (h 10) (tn (h 6 4)) x4 j = h 10 j; rw [upd, if_neg (by omega)]), show (up (up (up (up (up (up h 7 (tn (h 6 4)) (x1)) 8 (tn (h 6 4)) (x2)) 9 (tn (h 6 4)) (x3)) 10 (tn (h 6 4)) (x4)) 6 (4) (h 6 4 + 1)) 6 (5) (h 6 5 + x4)) 10 (nL h) = x4 from if_pos rfl, ← nI_add, ← b4, ← k4.e]
  rw [ep, ed, ek] at hN7
  rw [ep, ed, ek]
  refine c_sum hN7 (On.refl _) ?_
  rw [← ep, ← ed, ← ek]
  rw [← ep, ← ed, ← ek] at hN7
  refine s_Model_late_0 _ _ _ _ _ _ _ (cm_isCall r (by rfl) (by rfl) ?_)
  simp only [decide_eq_true_eq]
  rw [if_pos c1]
  refine cm_isDay ?_
  simp only [decide_eq_true_eq]
  rw [if_pos c2]
  refine cm_in ?_
  simp only [decide_eq_true_eq]
  rw [if_pos c3]
  rw [show (up (up (up (up (up (up h 7 (tn (h 6 4)) (x1)) 8 (tn (h 6 4)) (x2)) 9 (tn (h 6 4)) (x3)) 10 (tn (h 6 4)) (x4)) 6 (4) (h 6 4 + 1)) 6 (5) (h 6 5 + x4)) 67 3 = h 6 4 from e0, if_neg (fun e => by rw [e] at c5; exact absurd c5 (by decide))]
  refine ⟨by rw [ok_L r.1]; exact in_nI hlt (by decide), ?_⟩
  intro g1 e1 g2 e2 g3 e3 g4 e4 g5 e5
  subst e1 e2 e3 e4 e5
  have am : AM [7, 8, 9, 10, 6, 89, 90, 91, 92] [3] h (up (up (up (up (up (up (up (up (up (up (up h 7 (tn (h 6 4)) (x1)) 8 (tn (h 6 4)) (x2)) 9 (tn (h 6 4)) (x3)) 10 (tn (h 6 4)) (x4)) 6 (4) (h 6 4 + 1)) 6 (5) (h 6 5 + x4)) 89 (tn (h 6 4)) (x1)) 90 (tn (h 6 4)) (x2)) 91 (tn (h 6 4)) (x3)) 92 (tn (h 6 4)) (x4)) 67 (3) (h 6 4 + 1)) :=
    ((((((((((((AM.refl _ _ h).pt (by decide) (by decide) _ _).pt (by decide) (by decide) _ _).pt (by decide) (by decide) _ _).pt (by decide) (by decide) _ _).pt (by decide) (by decide) _ _).pt (by decide) (by decide) _ _).pt (by decide) (by decide) _ _).pt (by decide) (by decide) _ _).pt (by decide) (by decide) _ _).pt (by decide) (by decide) _ _).p67 (by decide) _)
  have hNH : NetOK (up (up (up (up (up (up (up (up (up (up (up h 7 (tn (h 6 4)) (x1)) 8 (tn (h 6 4)) (x2)) 9 (tn (h 6 4)) (x3)) 10 (tn (h 6 4)) (x4)) 6 (4) (h 6 4 + 1)) 6 (5) (h 6 5 + x4)) 89 (tn (h 6 4)) (x1)) 90 (tn (h 6 4)) (x2)) 91 (tn (h 6 4)) (x3)) 92 (tn (h 6 4)) (x4)) 67 (3) (h 6 4 + 1)) := hN7.on (fun k h1 h2 => by
    rw [up_ce _ _ _ (by omega), up_ce _ _ _ (by omega), up_ce _ _ _ (by omega), up_ce _ _ _ (by omega), up_ce _ _ _ (by omega)])
  have hMH : OnM (up (up (up (up (up (up (up (up (up (up (up h 7 (tn (h 6 4)) (x1)) 8 (tn (h 6 4)) (x2)) 9 (tn (h 6 4)) (x3)) 10 (tn (h 6 4)) (x4)) 6 (4) (h 6 4 + 1)) 6 (5) (h 6 5 + x4)) 89 (tn (h 6 4)) (x1)) 90 (tn (h 6 4)) (x2)) 91 (tn (h 6 4)) (x3)) 92 (tn (h 6 4)) (x4)) 67 (3) (h 6 4 + 1)) (up (up (up (up (up (up (up (up (up (up (up h 7 (tn (h 6 4)) (x1)) 8 (tn (h 6 4)) (x2)) 9 (tn (h 6 4)) (x3)) 10 (tn (h 6 4)) (x4)) 6 (4) (h 6 4 + 1)) 6 (5) (h 6 5 + x4)) 89 (tn (h 6 4)) (x1)) 90 (tn (h 6 4)) (x2)) 91 (tn (h 6 4)) (x3)) 92 (tn (h 6 4)) (x4)) 67 (3) (h 6 4 + 1)) := by
    refine ⟨?_, ⟨hm.2.1.1, hm.2.1.2.1, hm.2.1.2.2.1, rfl⟩, hm.2.2.1, hm.2.2.2.1, ?_⟩
    · intro p hp
      simp only [mP, List.mem_cons, List.not_mem_nil, or_false] at hp
      rcases hp with e | e | e | e | e | e | e | e | e | e | e | e | e | e | e | e | e | e | e | e | e | e | e <;> subst e
      · exact hm.1 (68, 3) (by decide)
      · exact hm.1 (69, 4) (by decide)
      · exact hm.1 (70, 5) (by decide)
      · exact hm.1 (71, 20) (by decide)
      · exact hm.1 (72, 12) (by decide)
      · exact hm.1 (73, 13) (by decide)
      · exact hm.1 (74, 14) (by decide)
      · exact hm.1 (75, 15) (by decide)
      · exact hm.1 (76, 17) (by decide)
      · exact hm.1 (77, 18) (by decide)
      · exact hm.1 (78, 19) (by decide)
      · exact hm.1 (81, 23) (by decide)
      · exact hm.1 (82, 24) (by decide)
      · exact hm.1 (83, 25) (by decide)
      · exact hm.1 (84, 26) (by decide)
      · exact hm.1 (85, 27) (by decide)
      · exact hm.1 (86, 28) (by decide)
      · exact hm.1 (87, 29) (by decide)
      · exact hm.1 (88, 30) (by decide)
      · exact congrArg (fun f => upd f (tn (h 6 4)) (x1)) (hm.c 89 7)
      · exact congrArg (fun f => upd f (tn (h 6 4)) (x2)) (hm.c 90 8)
      · exact congrArg (fun f => upd f (tn (h 6 4)) (x3)) (hm.c 91 9)
      · exact congrArg (fun f => upd f (tn (h 6 4)) (x4)) (hm.c 92 10)
    · intro t d k h1 h2 h3
      rw [tkN_c (am.1 31 (by decide) (by decide)) (am.1 32 (by decide) (by decide)) (am.1 33 (by decide) (by decide))]
      exact hm.2.2.2.2 t d k h1 h2 h3
  have hR := r.kp (Kp.of am) ⟨Nat.le_refl _, Nat.le_refl _, fun _ _ => Nat.le_refl _, fun _ _ => rfl⟩ hNH hMH
  have lt : late (up (up (up (up (up (up (up (up (up (up (up h 7 (tn (h 6 4)) (x1)) 8 (tn (h 6 4)) (x2)) 9 (tn (h 6 4)) (x3)) 10 (tn (h 6 4)) (x4)) 6 (4) (h 6 4 + 1)) 6 (5) (h 6 5 + x4)) 89 (tn (h 6 4)) (x1)) 90 (tn (h 6 4)) (x2)) 91 (tn (h 6 4)) (x3)) 92 (tn (h 6 4)) (x4)) 67 (3) (h 6 4 + 1)) p d k = late (up (up (up (up (up (up h 7 (tn (h 6 4)) (x1)) 8 (tn (h 6 4)) (x2)) 9 (tn (h 6 4)) (x3)) 10 (tn (h 6 4)) (x4)) 6 (4) (h 6 4 + 1)) 6 (5) (h 6 5 + x4)) p d k := late_c (by rfl) (by rfl) (by rfl) (by rfl) (by rfl) p d k
  rw [← lt]
  have fin : ∀ HH : HP, NetOK HH → OnM HH HH → Rel HH → P_Model_lateAt G HH x1 x2 x3 (fun b h2 => nI (late HH p d k) = b ∧ Rel h2) := by
    intro HH q1 q2 q3
    rw [ep, ed, ek]
    exact cm_late q1 q2 ⟨rfl, q3⟩
  exact fin _ hNH hMH hR
theorem cm_count {G : GA} {h : HP} {n : Nat} (hn : n ≤ 30) (e : h 67 4 = nI n) {K : Int32 → HP → Prop} (kk : K (nI (fa_cnt (fun j => decide (h 110 j = 0)) n)) h) : ∀ m i, i + m = n → H_Model_count_73 G h (nI (fa_cnt (fun j => decide (h 110 j = 0)) i)) (nI i) K
  | 0, i, q => by
    refine s_Model_count_73 _ _ _ _ _ ?_
    rw [e, if_pos (by rw [leI (by omega) (by omega)]; omega), show i = n by omega]
    exact kk
  | m + 1, i, q => by
    refine s_Model_count_73 _ _ _ _ _ ?_
    rw [e, if_neg (by rw [leI (by omega) (by omega)]; omega), tnI (by omega)]
    refine ⟨in_nI (by omega) (by decide), ?_⟩
    have ih := cm_count (G := G) hn e kk m (i + 1) (by omega)
    rw [← nI_add] at ih
    by_cases c : h 110 i = 0
    · rw [if_pos c]
      rw [fa_cnt_yes (decide_eq_true c), ← nI_add] at ih
      exact ih
    · rw [if_neg c, show (0 : Int32) = nI 0 from rfl, nI_add, Nat.add_zero]
      rw [fa_cnt_no (decide_eq_false c)] at ih
      exact ih
theorem L_count {G : GA} {h : HP} {x1 : Int32} (r : Rel h) : P_Desk_count G h x1 (fun a h1 => P_Model_count G h1 x1 (fun b h2 => a = b ∧ Rel h2)) := by
  have hm := r.2.2.1
  obtain ⟨n, h1, h2, h3, h4, h5⟩ := r.2.2.2.2.2
  obtain ⟨m, a, w1, w2, w3, w4, w5⟩ := r.2.2.2.2.1
  refine s_Desk_count_0 _ _ _ _ ?_
  have md : ∀ aa, (if x1 = 0 then aa = h 67 0 ∧ Rel h else if x1 = 1 then aa = h 67 1 ∧ Rel h else if x1 = 2 then aa = h 67 2 ∧ Rel h else if x1 = 3 then aa = h 67 41 ∧ Rel h else if x1 = 4 then aa = h 67 4 ∧ Rel h else if x1 = 5 then H_Model_count_73 G h 0 0 (fun b h2 => aa = b ∧ Rel h2) else if x1 = 6 then aa = h 67 3 ∧ Rel h else aa = -2 ∧ Rel h) → P_Model_count G h x1 (fun b h2 => aa = b ∧ Rel h2) := fun aa q => s_Model_count_0 _ _ _ _ q
  by_cases c0 : x1 = 0
  · rw [if_pos c0]
    refine md _ ?_
    rw [if_pos c0]
    exact ⟨hm.2.1.1.symm, r⟩
  rw [if_neg c0]
  by_cases c1 : x1 = 1
  · rw [if_pos c1]
    refine md _ ?_
    rw [if_neg c0, if_pos c1]
    exact ⟨hm.2.1.2.1.symm, r⟩
  rw [if_neg c1]
  by_cases c2 : x1 = 2
  · rw [if_pos c2]
    refine md _ ?_
    rw [if_neg c0, if_neg c1, if_pos c2]
    exact ⟨hm.2.1.2.2.1.symm, r⟩
  rw [if_neg c2]
  by_cases c3 : x1 = 3
  · rw [if_pos c3]
    refine md _ ?_
    rw [if_neg c0, if_neg c1, if_neg c2, if_pos c3]
    exact ⟨w3.trans w4.symm, r⟩
  rw [if_neg c3]
  by_cases c4 : x1 = 4
  · rw [if_pos c4]
    refine md _ ?_
    rw [if_neg c0, if_neg c1, if_neg c2, if_neg c3, if_pos c4]
    exact ⟨h2.trans h3.symm, r⟩
  rw [if_neg c4]
  by_cases c5 : x1 = 5
  · rw [if_pos c5]
    refine md _ ?_
    rw [if_neg c0, if_neg c1, if_neg c2, if_neg c3, if_neg c4, if_pos c5]
    exact cm_count (G := G) h1 h3 ⟨h4, r⟩ n 0 (by omega)
  rw [if_neg c5]
  by_cases c6 : x1 = 6
  · rw [if_pos c6]
    refine md _ ?_
    rw [if_neg c0, if_neg c1, if_neg c2, if_neg c3, if_neg c4, if_neg c5, if_pos c6]
    exact ⟨hm.2.1.2.2.2.symm, r⟩
  rw [if_neg c6]
  refine md _ ?_
  rw [if_neg c0, if_neg c1, if_neg c2, if_neg c3, if_neg c4, if_neg c5, if_neg c6]
  exact ⟨rfl, r⟩
theorem c_Found_has {G : GA} {h : HP} {x : Int32} {K : Bool → HP → Prop} (k : K (decide (0 ≤ x ∧ x < h 54 9)) h) : P_Found_has G h x K := s_Found_has_0 G h x K (has_of (A := True) (B := True) (C := True) (K := fun b => K b h) k)
theorem cm_hasWay {G : GA} {h : HP} (r : Rel h) {x : Int32} {K : Bool → HP → Prop} (k : K (decide (0 ≤ x ∧ x < h 54 9)) h) : P_Model_in G h x 0 (h 67 41 - 1) K := by
  obtain ⟨m, a, w1, w2, w3, w4, w5⟩ := r.2.2.2.2.1
  refine cm_in ?_
  rw [w4, decide_eq_decide.mpr (dec1 (by rw [toInt_nI (by omega)]; omega))]
  rw [w3] at k
  exact k
theorem L_way {G : GA} {h : HP} {x1 : Int32} {x2 : Int32} (r : Rel h) : P_Desk_way G h x1 x2 (fun a h1 => P_Model_way G h1 x1 x2 (fun b h2 => a = b ∧ Rel h2)) := by
  refine s_Desk_way_0 _ _ _ _ _ (c_Found_has ?_)
  simp only [decide_eq_true_eq]
  by_cases c1 : 0 ≤ x1 ∧ x1 < h 54 9
  rotate_left
  · rw [if_neg c1]
    refine s_Model_way_0 _ _ _ _ _ (cm_hasWay r ?_)
    simp only [decide_eq_true_eq]
    rw [if_neg c1]
    exact ⟨by trivial, r⟩
  rw [if_pos c1]
  obtain ⟨m, a, w1, w2, w3, w4, w5, w6⟩ := r.2.2.2.2.1
  obtain ⟨i, ei, hi⟩ := has_ex c1
  rw [w3, tnI (by omega)] at hi
  obtain ⟨k, q1, q2, q3, q4, q5, q6, q7, q8, q9, q10⟩ := w6 i hi
  refine c_between ?_
  simp only [decide_eq_true_eq]
  have hv : vp_in x1 112 := by rw [ei]; exact in_nI (by omega) (by decide)
  have ti : tn x1 = i := by rw [ei, tnI (by omega)]
  have cls : ∀ b K, b < 5 → K (h 55 (5 * i + b)) h → P_Found_ofWay G h x1 (nI b) K := by
    intro b K hb q
    refine s_Found_ofWay_0 _ _ _ _ _ ?_
    rw [ei, show (5 : Int32) = nI 5 from rfl, pk_mul, nI_add, tnI (by omega), show i * 5 + b = 5 * i + b by omega]
    exact ⟨in_nI (by omega) (by decide), q⟩
  by_cases c2 : 0 ≤ x2 ∧ x2 ≤ 4
  rotate_left
  · rw [if_neg c2]
    refine s_Model_way_0 _ _ _ _ _ (cm_hasWay r ?_)
    simp only [decide_eq_true_eq]
    rw [if_pos c1]
    rw [if_neg (fun e => c2 (by rw [e]; decide)), if_neg (fun e => c2 (by rw [e]; decide)), if_neg (fun e => c2 (by rw [e]; decide)), if_neg (fun e => c2 (by rw [e]; decide)), if_neg (fun e => c2 (by rw [e]; decide))]
    exact ⟨by trivial, r⟩
  rw [if_pos c2]
  obtain ⟨b, eb, hb⟩ := IN_ex (b := 4) rfl c2
  have hb5 : b = 0 ∨ b = 1 ∨ b = 2 ∨ b = 3 ∨ b = 4 := by omega
  rcases hb5 with e | e | e | e | e <;> subst e
  · have e2 : x2 = 0 := eb
    rw [eb]
    refine cls 0 _ (by omega) ?_
    rw [← eb]
    refine s_Model_way_0 _ _ _ _ _ (cm_hasWay r ?_)
    simp only [decide_eq_true_eq]
    rw [if_pos c1]
    rw [if_pos e2, ti, q3]
    refine ⟨hv, ?_⟩
    by_cases c3 : k = 0
    · rw [if_pos (by rw [c3]; rfl)]
      rw [if_pos c3] at q8
      exact ⟨q8.trans q7.symm, r⟩
    · rw [if_neg (by rw [show (0 : Int32) = nI 0 from rfl, eqI (by omega) (by omega)]; exact c3), ei, show (63 : Int32) = nI 63 from rfl, show (4 : Int32) = nI 4 from rfl, pk_mul, nI_add, tnI (by omega)]
      rw [if_neg c3] at q8
      exact ⟨in_nI (by omega) (by decide), q8, r⟩
  · have e2 : x2 = 1 := eb
    rw [eb]
    refine cls 1 _ (by omega) ?_
    rw [← eb]
    refine s_Model_way_0 _ _ _ _ _ (cm_hasWay r ?_)
    simp only [decide_eq_true_eq]
    rw [if_pos c1]
    rw [if_neg (by rw [e2]; decide), if_pos e2, ti]
    exact ⟨hv, q4, r⟩
  · have e2 : x2 = 2 := eb
    rw [eb]
    refine cls 2 _ (by omega) ?_
    rw [← eb]
    refine s_Model_way_0 _ _ _ _ _ (cm_hasWay r ?_)
    simp only [decide_eq_true_eq]
    rw [if_pos c1]
    rw [if_neg (by rw [e2]; decide), if_neg (by rw [e2]; decide), if_pos e2, ti]
    exact ⟨hv, q5, r⟩
  · have e2 : x2 = 3 := eb
    rw [eb]
    refine cls 3 _ (by omega) ?_
    rw [← eb]
    refine s_Model_way_0 _ _ _ _ _ (cm_hasWay r ?_)
    simp only [decide_eq_true_eq]
    rw [if_pos c1]
    rw [if_neg (by rw [e2]; decide), if_neg (by rw [e2]; decide), if_neg (by rw [e2]; decide), if_pos e2, ti]
    exact ⟨hv, q6, r⟩
  · have e2 : x2 = 4 := eb
    rw [eb]
    refine cls 4 _ (by omega) ?_
    rw [← eb]
    refine s_Model_way_0 _ _ _ _ _ (cm_hasWay r ?_)
    simp only [decide_eq_true_eq]
    rw [if_pos c1]
    rw [if_neg (by rw [e2]; decide), if_neg (by rw [e2]; decide), if_neg (by rw [e2]; decide), if_neg (by rw [e2]; decide), if_pos e2, ti]
    exact ⟨hv, q2.trans q3.symm, r⟩
theorem L_leg {G : GA} {h : HP} {x1 x2 x3 : Int32} (r : Rel h) : P_Desk_leg G h x1 x2 x3 (fun a h1 => P_Model_leg G h1 x1 x2 x3 (fun b h2 => a = b ∧ Rel h2)) := by
  refine s_Desk_leg_0 _ _ _ _ _ _ (s_Found_hasLeg_0 _ _ _ _ _ (c_Found_has ?_))
  simp only [decide_eq_true_eq]
  by_cases c1 : 0 ≤ x1 ∧ x1 < h 54 9
  rotate_left
  · rw [if_neg c1, if_neg (by decide)]
    refine s_Model_leg_0 _ _ _ _ _ _ (cm_hasWay r ?_)
    simp only [decide_eq_true_eq]
    rw [if_neg c1]
    exact ⟨by trivial, r⟩
  rw [if_pos c1]
  obtain ⟨m, a, w1, w2, w3, w4, w5, w6⟩ := r.2.2.2.2.1
  obtain ⟨i, ei, hi⟩ := has_ex c1
  rw [w3, tnI (by omega)] at hi
  obtain ⟨k, q1, q2, q3, q4, q5, q6, q7, q8, q9, q10⟩ := w6 i hi
  have hv : vp_in x1 112 := by rw [ei]; exact in_nI (by omega) (by decide)
  have ti : tn x1 = i := by rw [ei, tnI (by omega)]
  have md : ∀ aa : Int32, ((0 ≤ x2 ∧ x2 < nI k) → (0 ≤ x3 ∧ x3 ≤ 8) → vp_in (((63 * x1) + (9 * x2)) + x3) 7056 ∧ aa = h 105 (tn (((63 * x1) + (9 * x2)) + x3))) → (¬ ((0 ≤ x2 ∧ x2 < nI k) ∧ 0 ≤ x3 ∧ x3 ≤ 8) → aa = -2) → P_Model_leg G h x1 x2 x3 (fun b h2 => aa = b ∧ Rel h2) := by
    intro aa g1 g2
    refine s_Model_leg_0 _ _ _ _ _ _ (cm_hasWay r ?_)
    simp only [decide_eq_true_eq]
    rw [if_pos c1, ti, q3]
    refine ⟨hv, cm_in ?_⟩
    rw [show decide (0 ≤ x2 ∧ x2 ≤ nI k - 1) = decide (0 ≤ x2 ∧ x2 < nI k) from decide_eq_decide.mpr (dec1 (by rw [toInt_nI (by omega)]; omega))]
    simp only [decide_eq_true_eq]
    by_cases d1 : 0 ≤ x2 ∧ x2 < nI k
    · rw [if_pos d1]
      refine cm_in ?_
      simp only [decide_eq_true_eq]
      by_cases d2 : 0 ≤ x3 ∧ x3 ≤ 8
      · rw [if_pos d2]
        exact ⟨(g1 d1 d2).1, (g1 d1 d2).2, r⟩
      · rw [if_neg d2]
        exact ⟨g2 (fun q => d2 q.2), r⟩
    · rw [if_neg d1]
      exact ⟨g2 (fun q => d1 q.1), r⟩
  by_cases c2 : x2 < 0
  · rw [if_pos c2, if_neg (by decide)]
    exact md _ (fun q _ => by have q1 := q.1; rw [fa_le] at q1; rw [fa_lt] at c2; omega) (fun _ => rfl)
  rw [if_neg c2]
  refine s_Found_ofWay_0 _ _ _ _ _ ?_
  rw [ei, show (5 : Int32) = nI 5 from rfl, show (4 : Int32) = nI 4 from rfl, pk_mul, nI_add, tnI (by omega), show i * 5 + 4 = 5 * i + 4 by omega, q2]
  refine ⟨in_nI (by omega) (by decide), ?_⟩
  rw [← ei]
  by_cases c3 : nI k ≤ x2
  · rw [if_pos c3, if_neg (by decide)]
    exact md _ (fun q _ => by have q1 := q.2; rw [fa_lt] at q1; rw [fa_le] at c3; omega) (fun _ => rfl)
  rw [if_neg c3, if_pos trivial]
  have c23 : 0 ≤ x2 ∧ x2 < nI k := ⟨fa_of_nlt c2, fa_of_nle c3⟩
  refine c_between ?_
  simp only [decide_eq_true_eq]
  by_cases c4 : 0 ≤ x3 ∧ x3 ≤ 8
  rotate_left
  · rw [if_neg c4]
    exact md _ (fun _ q => absurd q c4) (fun _ => rfl)
  rw [if_pos c4]
  obtain ⟨q, eq, hq⟩ := has_ex c23
  rw [tnI (by omega)] at hq
  obtain ⟨c, ec, hc⟩ := IN_ex (b := 8) rfl c4
  refine s_Found_ofLeg_0 _ _ _ _ _ _ ?_
  have i1 : (x1 * 7 + x2) * 9 + x3 = nI ((7 * i + q) * 9 + c) := by
    rw [ei, eq, ec, show (7 : Int32) = nI 7 from rfl, show (9 : Int32) = nI 9 from rfl, pk_mul, nI_add, pk_mul, nI_add, show i * 7 = 7 * i by omega]
  have i2 : 63 * x1 + 9 * x2 + x3 = nI (63 * i + 9 * q + c) := by
    rw [ei, eq, ec, show (63 : Int32) = nI 63 from rfl, show (9 : Int32) = nI 9 from rfl, pk_mul, pk_mul, nI_add, nI_add]
  rw [i1, tnI (by omega)]
  refine ⟨in_nI (by omega) (by decide), md _ (fun _ _ => ?_) (fun g => absurd ⟨c23, c4⟩ g)⟩
  rw [i2, tnI (by omega)]
  exact ⟨in_nI (by omega) (by decide), (q9 q hq).1 c (by omega)⟩
