/-! ===== give ===== -/
theorem pl_c {f : Nat → Int32} {B : Nat} {b : Int32} {t d c q : Nat} {v w : Int32} (e : v = w) : pl f B b t d c q v = pl f B b t d c q w := by rw [e]
theorem L_give {G : GA} {h : HP} {x1 : Int32} (r : Rel h) : P_Desk_give G h x1 (fun a h1 => P_Model_give G h1 x1 (fun b h2 => a = b ∧ Rel h2)) := by
  refine s_Desk_give_0 _ _ _ _ (c_isOut r ?_)
  simp only [decide_eq_true_eq]
  by_cases c1 : (0 ≤ x1 ∧ x1 < h 34 11) ∧ h 37 (tn x1) = 0
  rotate_left
  · rw [if_neg c1]
    refine s_Model_give_0 _ _ _ _ (cm_isTicket r ?_)
    simp only [decide_eq_true_eq]
    rw [if_neg c1]
    exact ⟨by trivial, r⟩
  rw [if_pos c1]
  obtain ⟨n, n1, n2, n3, n4, n5, ⟨n6, n7, n9⟩, n8⟩ := r.2.2.2.2.2
  obtain ⟨j, k, a, ej, tl, eg⟩ := tk_TL r c1.1
  have hm := r.2.2.1
  have hj := tl.1
  have hk7 := tl.2.1
  have tj : tn x1 = j := by rw [ej, tnI (by omega)]
  have hjn : j < n := by
    have := c1.1.2
    rw [ej, n2, ltI (by omega) (by omega)] at this
    exact this
  have g37 : h 37 j = 0 := by rw [← tj]; exact c1.2
  have g110 : h 110 j = 0 := eg.mp g37
  refine s_Tickets_giveBack_0 _ _ _ _ ⟨by rw [ej]; exact in_nI hj (by decide), ?_⟩
  rw [tj]
  intro g1 e1 g2 e2
  subst e1
  refine s_Tickets_changePlaces_0 _ _ _ _ _ ?_
  have on3 : ∀ i, i ≠ 37 → i ≠ 34 → g2 i = h i := fun i h1 h2 => by rw [e2, up_ce _ _ _ h2, up_ce _ _ _ h1]
  have s11 : g2 34 11 = h 34 11 := by rw [e2]; rfl
  have s12 : g2 34 12 = h 34 12 - 1 := by rw [e2, up_at]
  have s37 : g2 37 = upd (h 37) j (b2i true) := by rw [e2]; rfl
  have gr3 : Gr h g2 := Gr.on fun i h1 h2 => on3 i (by omega) (by omega)
  have N3 : NetOK g2 := r.1.on fun i h1 h2 => on3 i (by omega) (by omega)
  have tl3 : TL g2 j k a := tl.on (fun i hi => on3 i (by have := (by decide : ∀ i ∈ [35, 36, 38, 39, 40, 41, 107, 108, 109], i ≠ 37 ∧ i ≠ 34) i hi; exact this.1) (by have := (by decide : ∀ i ∈ [35, 36, 38, 39, 40, 41, 107, 108, 109], i ≠ 37 ∧ i ≠ 34) i hi; exact this.2)) gr3
  have row3 : ∀ t d, rowN g2 t d = rowN h t d := fun t d => rowN_c (on3 31 (by decide) (by decide)) (on3 32 (by decide) (by decide)) t d
  have tk3 : ∀ t d c, tkN g2 t d c = tkN h t d c := fun t d c => tkN_c (on3 31 (by decide) (by decide)) (on3 32 (by decide) (by decide)) (on3 33 (by decide) (by decide)) t d c
  have e109 : g2 109 = h 109 := on3 109 (by decide) (by decide)
  have eS3 : pS g2 = pS h := by unfold pS; rw [on3 31 (by decide) (by decide)]
  have rows : ∀ p, p < k → isP (g2 109) (63 * j) p → rowN g2 (gT g2 j p) (gD g2 j p) ≠ none := by
    intro p hp ip
    have hT := nT_le r.1
    obtain ⟨k', a', q1, q2, q3, q4, q5, q6, q7, q8, q9⟩ := n5 j hjn
    have hkk : k' = k := (eqI (by omega) (by omega)).mp (q4.symm.trans tl.2.2.2.2.1)
    have lg := (q8 p (by omega)).2.2.2.2.2
    rw [row3]
    unfold gT gD
    rw [e109] at ip ⊢
    rcases tl.leg r.1 hp with ⟨a1, _⟩ | ⟨a1, ⟨a2, a3, _⟩, _, b1, b2, _⟩
    · have a1 := of_decide_eq_false a1
      rcases ip with w | w <;> (rw [w] at a1; exact absurd (by decide) a1)
    · exact lg (gT h j p) (gD h j p) ip b1 b2 (by omega) a3
  rw [ej]
  refine c_chPl N3 tl3 (Or.inl rows) (fun h4 pc => ?_) k 0 g2 (by omega) ⟨Agr.refl _ _, by unfold PlOK; rw [on3 31 (by decide) (by decide)]; exact r.2.1, by rw [eS3, on3 33 (by decide) (by decide)]; exact n7, ⟨Nat.le_add_right _ _, fun _ => rfl⟩, fun _ _ w => w, fun p hp => by omega, fun _ _ _ _ _ _ => rfl⟩
  rw [← ej]
  obtain ⟨p1, p2, p3, p4, p5, p6, p7⟩ := pc
  have on4 : ∀ i, i ≠ 37 → i ≠ 34 → i ∉ [31, 32, 33] → h4 i = h i := fun i h1 h2 h3 => by rw [p1 i h3, on3 i h1 h2]
  have lo4 : ∀ i, 2 ≤ i → i ≤ 30 → h4 i = h i := fun i h1 h2 => on4 i (by omega) (by omega) (fun z => by have := (by decide : ∀ i ∈ [31, 32, 33], 31 ≤ i) i z; omega)
  have gr4 : Gr h h4 := Gr.on lo4
  have N4 : NetOK h4 := r.1.on lo4
  have tl4 : TL h4 j k a := tl.on (fun i hi => by have := (by decide : ∀ i ∈ [35, 36, 38, 39, 40, 41, 107, 108, 109], i ≠ 37 ∧ i ≠ 34 ∧ i ∉ [31, 32, 33]) i hi; exact on4 i this.1 this.2.1 this.2.2) gr4
  have hv : vp_in x1 30 := by rw [ej]; exact in_nI hj (by decide)
  refine s_Model_give_0 _ _ _ _ (s_Model_isTicket_0 _ _ _ _ (cm_in ?_))
  have c1' : 0 ≤ x1 ∧ x1 ≤ h4 67 4 - 1 := by
    rw [on4 67 (by decide) (by decide) (by decide), n3]
    refine (dec1 (by rw [toInt_nI (by omega)]; omega)).mpr ?_
    have := c1.1
    rw [n2] at this
    exact this
  rw [if_pos (decide_eq_true c1'), tj, on4 110 (by decide) (by decide) (by decide), if_pos g110, if_pos rfl, tl4.2.2.2.2.1]
  refine ⟨hv, hv, s_Model_places_109_0 _ _ _ _ _ _ ?_⟩
  rw [ej, show (63 : Int32) * nI j = nI (63 * j) by rw [show (63 : Int32) = nI 63 from rfl, pk_mul]]
  refine cm_pl N4 tl4 (fun z h5 am5 hx5 => ?_) k 0 false h4 (by omega) (AM.refl _ _ _) (fun _ _ _ _ _ _ => rfl)
  intro h6 e6
  refine ⟨rfl, ?_⟩
  have h45 : ∀ i, i ≠ 93 → i ≠ 110 → h6 i = h4 i := fun i h1 h2 => by
    rw [e6, up_ce _ _ _ h2]
    by_cases c : i = 67
    · subst c
      funext jj
      exact am5.2 jj (List.not_mem_nil)
    · exact am5.1 i (by simpa using h1) c
  have on6 : ∀ i, i ∉ [31, 32, 33, 34, 37, 93, 110] → h6 i = h i := fun i hi => by
    simp only [List.mem_cons, List.not_mem_nil, or_false, not_or] at hi
    rw [h45 i hi.2.2.2.2.2.1 hi.2.2.2.2.2.2]
    exact on4 i hi.2.2.2.2.1 hi.2.2.2.1 (by simp only [List.mem_cons, List.not_mem_nil, or_false, not_or]; exact ⟨hi.1, hi.2.1, hi.2.2.1⟩)
  have lo6 : ∀ i, 2 ≤ i → i ≤ 30 → h6 i = h i := fun i h1 h2 => on6 i (fun z => by have := (by decide : ∀ i ∈ [31, 32, 33, 34, 37, 93, 110], 31 ≤ i) i z; omega)
  have gr6 : Gr h h6 := Gr.on lo6
  have e93 : h6 93 = h5 93 := by rw [e6, up_ce _ _ _ (by decide)]
  have e110 : h6 110 = upd (h 110) j (b2i true) := by
    rw [e6, up_self, am5.1 110 (by decide) (by decide), on4 110 (by decide) (by decide) (by decide)]
  have tk6 : ∀ t d c, tkN h6 t d c = tkN h4 t d c := fun t d c => tkN_c (h45 31 (by decide) (by decide)) (h45 32 (by decide) (by decide)) (h45 33 (by decide) (by decide)) t d c
  have row6 : ∀ t d, rowN h6 t d = rowN h4 t d := fun t d => rowN_c (h45 31 (by decide) (by decide)) (h45 32 (by decide) (by decide)) t d
  have eS6 : pS h6 = pS h := by
    have : pS h6 = pS h4 := by unfold pS; rw [h45 31 (by decide) (by decide)]
    rw [this, p4.2 rows, eS3]
  have v93 : ∀ t d c, t < 24 → d < 100 → c < 8 → h6 93 (px t d c) = pl (h 109) (63 * j) (-1) t d c k (h 93 (px t d c)) := fun t d c h1 h2 h3 => by
    rw [e93, hx5 t d c h1 h2 h3, on4 109 (by decide) (by decide) (by decide), on4 93 (by decide) (by decide) (by decide)]
  have c34 : h6 34 = g2 34 := by rw [h45 34 (by decide) (by decide), p1 34 (by decide)]
  have ptw : ∀ i, i ≠ j → h6 110 i = h 110 i := fun i hi => by rw [e110, upd, if_neg hi]
  have pj : ¬ h6 110 j = 0 := by rw [e110, upd, if_pos rfl]; decide
  refine ⟨r.1.on lo6, by unfold PlOK; rw [h45 31 (by decide) (by decide)]; exact p2, ?_, by rw [on6 67 (by decide), on6 0 (by decide)]; exact r.2.2.2.1, r.2.2.2.2.1.k2 (fun i hi => on6 i ((by decide : ∀ i ∈ [54, 55, 56, 100, 101, 102, 103, 104, 105], i ∉ [31, 32, 33, 34, 37, 93, 110]) i hi)) (by rw [on6 67 (by decide)]) gr6, ?_⟩
  · refine ⟨fun q hq => ?_, ?_, ?_, ?_, fun t d c h1 h2 h3 => ?_⟩
    · have hr := (by decide : ∀ p ∈ mP, p.1 ∉ [31, 32, 33, 34, 37, 93, 110] ∧ p.2 ∉ [31, 32, 33, 34, 37, 93, 110]) q hq
      rw [on6 q.1 hr.1, on6 q.2 hr.2]
      exact hm.1 q hq
    · rw [on6 67 (by decide), on6 2 (by decide), on6 11 (by decide), on6 22 (by decide), on6 6 (by decide)]
      exact hm.2.1
    · rw [on6 79 (by decide), on6 16 (by decide)]
      exact hm.2.2.1
    · rw [on6 80 (by decide), on6 21 (by decide)]
      exact hm.2.2.2.1
    · show h6 93 (px t d c) = _
      rw [v93 t d c h1 h2 h3, tk6, p7 t d c h1 h2 h3, e109, tk3]
      exact pl_c (hm.2.2.2.2 t d c h1 h2 h3)
  · obtain ⟨k', a', q1, q2, q3, q4, q5, q6, q7, q8, q9⟩ := n5 j hjn
    have hkk : k' = k := (eqI (by omega) (by omega)).mp (q4.symm.trans tl.2.2.2.2.1)
    have c1 := cnt_off (p := fun i => decide (h 110 i = 0)) (p' := fun i => decide (h6 110 i = 0)) (j := j) (decide_eq_true g110) (decide_eq_false pj) (fun i hi => by rw [ptw i hi]) n
    have c2 := cnt_off (p := fun i => !decide (h6 110 i = 0)) (p' := fun i => !decide (h 110 i = 0)) (j := j) (by rw [decide_eq_false pj]; rfl) (by rw [decide_eq_true g110]; rfl) (fun i hi => by rw [ptw i hi]) n
    rw [if_pos hjn] at c1 c2
    refine ⟨n, n1, by rw [c34, s11]; exact n2, by rw [on6 67 (by decide)]; exact n3, by rw [c34, s12, n4, c1, sub1], fun i hi => ?_, ⟨by rw [eS6]; exact n6, by rw [h45 33 (by decide) (by decide), show pS h6 = pS h4 by unfold pS; rw [h45 31 (by decide) (by decide)]]; exact p3, fun i hi => by rw [h45 37 (by decide) (by decide), p1 37 (by decide), s37, upd, if_neg (by omega)]; exact n9 i hi⟩, fun t d c h1 h2 h3 => ?_⟩
    · obtain ⟨k1, a1, w1, w2, w3, w4, w5, w6, w7, w8, w9⟩ := n5 i hi
      have c37 : h6 37 = upd (h 37) j (b2i true) := by rw [h45 37 (by decide) (by decide), p1 37 (by decide), s37]
      unfold Tk1
      rw [on6 36 (by decide), on6 107 (by decide), on6 35 (by decide), on6 108 (by decide), on6 109 (by decide), on6 38 (by decide), on6 39 (by decide), on6 40 (by decide), on6 41 (by decide), c37, e110]
      refine ⟨k1, a1, w1, w2, w3, w4, w5, w6, ?_, fun q hq => ?_, w9⟩
      · unfold upd
        by_cases c : i = j
        · rw [if_pos c, if_pos c]
        · rw [if_neg c, if_neg c]
          exact w7
      · obtain ⟨f1, f2, f3, f4, f5, f6⟩ := w8 q hq
        refine ⟨f1, f2, f3, f4, f5.gr gr6, fun t d b1 b2 b3 b4 b5 => ?_⟩
        rw [row6]
        exact p5 t d (by rw [row3]; exact f6 t d b1 b2 b3 b4 b5)
    · have hb := n8 t d c h1 h2 h3
      have hle := fa_cnt_le (fun i => !decide (h 110 i = 0)) n
      have pd := pl_down (f := h 109) (B := 63 * j) (t := t) (d := d) (c := c) (v := h 93 (px t d c)) (by show _ ≤ (h 93 ((100 * t + d) * 8 + c)).toInt; omega) (by show (h 93 ((100 * t + d) * 8 + c)).toInt ≤ _; omega) k (by omega)
      rw [hkk] at q9
      show _ ≤ (h6 93 (px t d c)).toInt ∧ (h6 93 (px t d c)).toInt ≤ _
      rw [v93 t d c h1 h2 h3, c2]
      have hb1 : -(3 * (fa_cnt (fun i => !decide (h 110 i = 0)) n : Int)) ≤ (h 93 (px t d c)).toInt := hb.1
      have hb2 : (h 93 (px t d c)).toInt ≤ 3 * n := hb.2
      refine ⟨by push_cast; omega, by omega⟩
