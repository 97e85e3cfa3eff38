/-! ===== still, comes ===== -/
theorem tk_TL {h : HP} (r : Rel h) {x : Int32} (c : 0 ≤ x ∧ x < h 34 11) : ∃ j k a, x = nI j ∧ TL h j k a ∧ (h 37 j = 0 ↔ h 110 j = 0) := by
  obtain ⟨n, h1, h2, h3, h4, h5, h6⟩ := r.2.2.2.2.2
  obtain ⟨j, ej, hj⟩ := has_ex c
  rw [h2, tnI (by omega)] at hj
  obtain ⟨k, a, q1, q2, q3, q4, q5, q6, q7, q8, q9⟩ := h5 j hj
  exact ⟨j, k, a, ej, ⟨by omega, q1, q2, q3, q4, q5, q6, fun q hq => ⟨(q8 q hq).1, (q8 q hq).2.1, (q8 q hq).2.2.1, (q8 q hq).2.2.2.1, (q8 q hq).2.2.2.2.1⟩⟩, q7⟩
theorem c_isOut {G : GA} {h : HP} (r : Rel h) {x : Int32} {K : Bool → HP → Prop} (k : K (decide ((0 ≤ x ∧ x < h 34 11) ∧ h 37 (tn x) = 0)) h) : P_Tickets_isOut G h x K := by
  refine s_Tickets_isOut_0 _ _ _ _ ?_
  by_cases c1 : x < 0
  · rw [if_pos c1]
    rw [decide_eq_false (fun q => by have q1 := q.1.1; rw [fa_le] at q1; rw [fa_lt] at c1; omega)] at k
    exact k
  rw [if_neg c1]
  by_cases c2 : h 34 11 ≤ x
  · rw [if_pos c2]
    rw [decide_eq_false (fun q => by have q1 := q.1.2; rw [fa_lt] at q1; rw [fa_le] at c2; omega)] at k
    exact k
  rw [if_neg c2]
  have c : 0 ≤ x ∧ x < h 34 11 := ⟨fa_of_nlt c1, fa_of_nle c2⟩
  obtain ⟨j, kk, a, ej, tl, _⟩ := tk_TL r c
  refine ⟨by rw [ej]; exact in_nI tl.1 (by decide), ?_⟩
  by_cases c3 : h 37 (tn x) = 0
  · rw [if_pos c3]
    rw [decide_eq_true ⟨c, c3⟩] at k
    exact k
  · rw [if_neg c3]
    rw [decide_eq_false (fun q => c3 q.2)] at k
    exact k
theorem cm_isTicket {G : GA} {h : HP} (r : Rel h) {x : Int32} {K : Bool → HP → Prop} (k : K (decide ((0 ≤ x ∧ x < h 34 11) ∧ h 37 (tn x) = 0)) h) : P_Model_isTicket G h x K := by
  obtain ⟨n, h1, h2, h3, h4, h5, h6⟩ := r.2.2.2.2.2
  refine s_Model_isTicket_0 _ _ _ _ (cm_in ?_)
  rw [show decide (0 ≤ x ∧ x ≤ h 67 4 - 1) = decide (0 ≤ x ∧ x < h 34 11) from by rw [h3, h2]; exact decide_eq_decide.mpr (dec1 (by rw [toInt_nI (by omega)]; omega))]
  simp only [decide_eq_true_eq]
  by_cases c : 0 ≤ x ∧ x < h 34 11
  · rw [if_pos c]
    obtain ⟨j, kk, a, ej, tl, e37⟩ := tk_TL r c
    have tj : tn x = j := by rw [ej, tnI (by have := tl.1; omega)]
    refine ⟨by rw [ej]; exact in_nI tl.1 (by decide), ?_⟩
    by_cases c3 : h 37 (tn x) = 0
    · rw [if_pos (by rw [tj] at c3 ⊢; exact e37.mp c3)]
      rw [decide_eq_true ⟨c, c3⟩] at k
      exact k
    · rw [if_neg (by rw [tj] at c3 ⊢; exact fun q => c3 (e37.mpr q))]
      rw [decide_eq_false (fun q => c3 q.2)] at k
      exact k
  · rw [if_neg c]
    rw [decide_eq_false (fun q => c q.1)] at k
    exact k
theorem Rel.p57 {h : HP} (r : Rel h) (x : Int32) : Rel (up h 67 57 x) := by
  refine r.same (fun k hk => up_ce _ _ _ (by omega)) (fun j hj => up_sl _ _ (by omega)) (Kp.of (S := []) (T := [57]) ((AM.refl _ _ h).p67 (by decide) _))
theorem tv_le {h : HP} (hN : NetOK h) {j a k : Nat} (tl : TL h j k a) : ∀ m q τ, q + m = k → τ ≤ 160000 + 4000 * q → (∀ y, tv h j a m q τ = (true, y) → y ≤ 200000) ∧ ∀ y, tv h j a m q τ = (false, y) → y < 7
  | 0, q, τ, e, ht => by
    have hk := tl.2.1
    refine ⟨fun y q => ?_, fun y q => ?_⟩
    · cases q
      omega
    · cases q
  | m + 1, q, τ, e, ht => by
    have hk := tl.2.1
    have ha := tl.2.2.1
    rw [tv]
    rcases tl.leg hN (show q < k by omega) with ⟨a1, _, _, a3, a4⟩ | ⟨a1, ⟨a2, a3, a4, a5⟩, _⟩
    · rw [a1, if_neg (by decide)]
      exact tv_le hN tl m (q + 1) (wE h (gT h j q) τ a) (by omega) (wE_t hN ha (by omega) ht)
    · rw [if_pos a1]
      split
      · exact tv_le hN tl m (q + 1) (cT h (gT h j q) (gD h j q) (gF h j q)) (by omega) (Nat.le_trans (cT_le hN a3 (gT h j q) (gF h j q)) (Nat.le_add_right _ _))
      · refine ⟨fun y q => ?_, fun y q => ?_⟩
        · cases q
        · cases q
          omega
theorem enc_f : ∀ y, y < 7 → ¬ 0 ≤ (-1 - nI y) ∧ -(-1 - nI y) = nI (y + 1) ∧ ¬ (-1) < (-1 - nI y) ∧ ¬ nI (y + 1) = -2 ∧ ¬ nI (y + 1) ≤ 0 := by decide
theorem L_still {G : GA} {h : HP} {x1 : Int32} (r : Rel h) : P_Desk_still G h x1 (fun a h1 => P_Model_still G h1 x1 (fun b h2 => a = b ∧ Rel h2)) := by
  refine s_Desk_still_0 _ _ _ _ (c_isOut r ?_)
  simp only [decide_eq_true_eq]
  by_cases c1 : (0 ≤ x1 ∧ x1 < h 34 11) ∧ h 37 (tn x1) = 0
  rotate_left
  · rw [if_neg c1]
    refine s_Model_still_0 _ _ _ _ (cm_isTicket r ?_)
    simp only [decide_eq_true_eq]
    rw [if_neg c1]
    exact ⟨by trivial, r⟩
  rw [if_pos c1]
  obtain ⟨j, k, a, ej, tl, _⟩ := tk_TL r c1.1
  have hj := tl.1
  have ha := tl.2.2.1
  have tj : tn x1 = j := by rw [ej, tnI (by omega)]
  have hb := tv_le r.1 tl k 0 a (by omega) (by omega)
  have cls : ∀ K : Int32 → HP → Prop, K (enc (tv h j a k 0 a)) h → P_Tickets_travel G h x1 K := by
    intro K q
    refine s_Tickets_travel_0 _ _ _ _ ?_
    rw [tj, tl.2.2.2.2.2.1, ej]
    exact ⟨in_nI hj (by decide), c_travel r tl k 0 a (by omega) (by omega) q⟩
  have md : ∀ aa : Int32, (∀ y, tv h j a k 0 a = (true, y) → aa = 0 ∧ Rel (up h 67 57 (nI y))) → (∀ y, tv h j a k 0 a = (false, y) → aa = nI (y + 1) ∧ Rel h) → P_Model_still G h x1 (fun b h2 => aa = b ∧ Rel h2) := by
    intro aa g1 g2
    refine s_Model_still_0 _ _ _ _ (cm_isTicket r ?_)
    simp only [decide_eq_true_eq]
    rw [if_pos c1, tj, tl.2.2.2.2.2.2.1, ej]
    exact ⟨in_nI hj (by decide), cm_travel r tl k 0 a false (by omega) (by omega) rfl g1 g2⟩
  refine cls _ ?_
  rcases hr : tv h j a k 0 a with ⟨b, y⟩
  rw [hr] at md hb
  cases b
  · have hy := enc_f y (hb.2 y rfl)
    show if 0 ≤ (-1 - nI y) then _ else _
    rw [if_neg hy.1]
    refine md _ (fun z q => by cases q) (fun z q => ?_)
    cases q
    exact ⟨hy.2.1, r⟩
  · have hy := hb.1 y rfl
    show if 0 ≤ nI y then _ else _
    rw [if_pos (nIpos (by omega))]
    refine md _ (fun z q => ?_) (fun z q => by cases q)
    cases q
    exact ⟨rfl, r.p57 _⟩
theorem L_comes {G : GA} {h : HP} {x1 : Int32} (r : Rel h) : P_Desk_comes G h x1 (fun a h1 => P_Model_comes G h1 x1 (fun b h2 => a = b ∧ Rel h2)) := by
  refine s_Desk_comes_0 _ _ _ _ (c_isOut r ?_)
  simp only [decide_eq_true_eq]
  by_cases c1 : (0 ≤ x1 ∧ x1 < h 34 11) ∧ h 37 (tn x1) = 0
  rotate_left
  · rw [if_neg c1]
    refine s_Model_comes_0 _ _ _ _ (s_Model_still_0 _ _ _ _ (cm_isTicket r ?_))
    simp only [decide_eq_true_eq]
    rw [if_neg c1, if_pos trivial]
    exact ⟨by trivial, r⟩
  rw [if_pos c1]
  obtain ⟨j, k, a, ej, tl, _⟩ := tk_TL r c1.1
  have hj := tl.1
  have ha := tl.2.2.1
  have tj : tn x1 = j := by rw [ej, tnI (by omega)]
  have hb := tv_le r.1 tl k 0 a (by omega) (by omega)
  have cls : ∀ K : Int32 → HP → Prop, K (enc (tv h j a k 0 a)) h → P_Tickets_travel G h x1 K := by
    intro K q
    refine s_Tickets_travel_0 _ _ _ _ ?_
    rw [tj, tl.2.2.2.2.2.1, ej]
    exact ⟨in_nI hj (by decide), c_travel r tl k 0 a (by omega) (by omega) q⟩
  have md : ∀ K : Int32 → HP → Prop, (∀ y, tv h j a k 0 a = (true, y) → K 0 (up h 67 57 (nI y))) → (∀ y, tv h j a k 0 a = (false, y) → K (nI (y + 1)) h) → P_Model_still G h x1 K := by
    intro K g1 g2
    refine s_Model_still_0 _ _ _ _ (cm_isTicket r ?_)
    simp only [decide_eq_true_eq]
    rw [if_pos c1, tj, tl.2.2.2.2.2.2.1, ej]
    exact ⟨in_nI hj (by decide), cm_travel r tl k 0 a false (by omega) (by omega) rfl g1 g2⟩
  refine cls _ ?_
  rcases hr : tv h j a k 0 a with ⟨b, y⟩
  rw [hr] at md hb
  refine s_Model_comes_0 _ _ _ _ (md _ (fun z q => ?_) (fun z q => ?_))
  · cases q
    have hy := hb.1 y rfl
    rw [if_neg (by decide), if_pos (by decide), up_at]
    refine ⟨?_, r.p57 _⟩
    show (if (-1 : Int32) < nI y then nI y else -1) = nI y
    rw [if_pos (by rw [fa_lt, toInt_nI (by omega), show (-1 : Int32).toInt = -1 from rfl]; omega)]
  · cases q
    have hy := enc_f y (hb.2 y rfl)
    rw [if_neg hy.2.2.2.1, if_neg hy.2.2.2.2]
    refine ⟨?_, r⟩
    show (if (-1 : Int32) < (-1 - nI y) then (-1 - nI y) else -1) = -1
    rw [if_neg hy.2.2.1]
