/-! ===== meet: the rest ===== -/
theorem Rel.met {h h' : HP} (r : Rel h) (a : AM (0 :: qC) (58 :: qT) h h') (e : h' 67 58 = h' 0 10) : Rel h' := by
  have hq : ∀ k ∈ 0 :: qC, ¬ ((2 ≤ k ∧ k ≤ 41) ∨ (68 ≤ k ∧ k ≤ 93)) := by decide
  have hT : ∀ j ∈ 58 :: qT, ¬ j ≤ 3 := by decide
  have hr : ∀ k ∈ rC', k ∉ 0 :: qC ∧ k ≠ 67 := by decide
  have e1 : ∀ k, (2 ≤ k ∧ k ≤ 41) ∨ (68 ≤ k ∧ k ≤ 93) → h' k = h k := fun k hk => a.1 k (fun z => hq k z hk) (by omega)
  have p : Kq h h' := ⟨fun k hk => a.1 k (hr k hk).1 (hr k hk).2, a.2 4 (by decide), a.2 41 (by decide)⟩
  have g : Gr h h' := Gr.on fun k h1 h2 => e1 k (Or.inl ⟨h1, by omega⟩)
  exact ⟨r.1.on fun k h1 h2 => e1 k (Or.inl ⟨h1, by omega⟩), by unfold PlOK; rw [p.c 31]; exact r.2.1, r.2.2.1.same e1 (fun j hj => a.2 j (fun z => hT j z hj)), e, r.2.2.2.2.1.kp p g, r.2.2.2.2.2.kp p g⟩
theorem cm_gat {G : GA} {N : HP} (hN : NetOK N) (hP : PlOK N) {rs : List (Nat × Nat)} (hrs : rs.length ≤ 132) (hok : RsOK rs) (hok2 : ∀ (v t d : Nat), rs[v]? = some (t, d) → t < nT N) {lim ask : Nat} {x1 x2 x3 : Int32} {sg : Nat → Nat → Nat} (hl : lim ≤ 400000) (ha : ask < lim) (hsg : Sg N rs lim ask sg) (ea : 1440 * x2 + x3 = nI ask) {h0 : HP} {K : Int32 → HP → Prop}
    (kk : ∀ h', OnM h' N → AM qC qT h0 h' → (∀ q, q < nS N → h' 111 q = nI (mxm sg x1 0 (nS N) q)) → H_Model_meet_178 G h' (-1) 0 K) :
    ∀ m i h', i + m = nS N → OnM h' N → h' 67 32 = nI lim → RM N h' rs → AM qC qT h0 h' → (∀ q, q < nS N → h' 111 q = nI (mxm sg x1 0 i q)) → H_Model_meet_75 G h' x1 x2 x3 (nI i) K
  | 0, i, h', e, hm, hlim, rm, am, p1 => by
    have hS := nS_le hN
    refine s_Model_meet_75 _ _ _ _ _ _ _ ?_
    rw [hm.2.1.1, ok_S hN, if_pos (by rw [leI (by omega) (by omega)]; omega)]
    rw [show i = nS N by omega] at p1
    exact kk h' hm am p1
  | m + 1, i, h', e, hm, hlim, rm, am, p1 => by
    have hS := nS_le hN
    have ih := cm_gat (G := G) hN hP hrs hok hok2 hl ha hsg ea kk m (i + 1)
    refine s_Model_meet_75 _ _ _ _ _ _ _ ?_
    rw [hm.2.1.1, ok_S hN, if_neg (by rw [leI (by omega) (by omega)]; omega), ea]
    cases c : bt x1 i
    · rw [if_pos ((bit_shr0 (by omega)).mpr c), nI_1]
      refine ih h' (by omega) hm hlim rm am (fun q hq => ?_)
      rw [mxm, c, if_neg (by decide)]
      exact p1 q hq
    · rw [if_neg (fun z => by rw [(bit_shr0 (by omega)).mp z] at c; cases c)]
      refine cm_go hN hP hl (by omega) hrs hok hok2 (by omega) hm hlim rm (fun h1 E R dp gc am1 em ym => ?_)
      refine cm_gat_q hN hok hl ha hsg c (by omega) dp (h0 := h0) (fun h2 gc2 am2 p2 => ?_) (nS N) 0 h1 (by omega) gc (am.trans (am1.mono (by decide) (by decide))) (fun i hi => ⟨fun e => by subst e; funext f q; exact dp.1 f q, fun e => em i e hi⟩) (fun p hp => by omega) (fun p _ hp => by rw [am1.1 111 (by decide) (by decide)]; exact p1 p hp)
      rw [nI_1]
      exact ih h2 (by omega) gc2.1 gc2.2.2.1 gc2.2.2.2.2 am2 p2
theorem cm_zero {G : GA} {N : HP} (hN : NetOK N) {rs : List (Nat × Nat)} {lim : Nat} {x1 x2 x3 : Int32} {h0 : HP} {K : Int32 → HP → Prop}
    (kk : ∀ h', OnM h' N → h' 67 32 = nI lim → RM N h' rs → AM qC qT h0 h' → (∀ q, q < nS N → h' 111 q = 0) → H_Model_meet_75 G h' x1 x2 x3 0 K) :
    ∀ m i h', i + m = nS N → OnM h' N → h' 67 32 = nI lim → RM N h' rs → AM qC qT h0 h' → (∀ q, q < i → h' 111 q = 0) → H_Model_meet_49 G h' x1 x2 x3 (nI i) K
  | 0, i, h', e, hm, hlim, rm, am, p1 => by
    have hS := nS_le hN
    refine s_Model_meet_49 _ _ _ _ _ _ _ ?_
    rw [hm.2.1.1, ok_S hN, if_pos (by rw [leI (by omega) (by omega)]; omega)]
    exact kk h' hm hlim rm am (fun q hq => p1 q (by omega))
  | m + 1, i, h', e, hm, hlim, rm, am, p1 => by
    have hS := nS_le hN
    refine s_Model_meet_49 _ _ _ _ _ _ _ ?_
    rw [hm.2.1.1, ok_S hN, if_neg (by rw [leI (by omega) (by omega)]; omega), tnI (by omega), nI_1]
    refine ⟨in_nI (by omega) (by decide), ?_⟩
    intro g eg
    subst eg
    refine cm_zero hN kk m (i + 1) _ (by omega) (hm.hi (fun k h1 h2 => up_ce _ _ _ (by omega))) (by rw [up_ce _ _ _ (by decide)]; exact hlim) ?_ (am.pt (by decide) (by decide) _ _) (fun q hq => ?_)
    · unfold RM
      rw [up_ce _ _ _ (by decide), up_ce _ _ _ (by decide), up_ce _ _ _ (by decide), up_ce _ _ _ (by decide), up_ce _ _ _ (by decide)]
      exact rm
    · by_cases c : q = i
      · subst c
        rw [up_at]
      · rw [up_sl _ _ c]
        exact p1 q (by omega)
theorem L_meet {G : GA} {h : HP} {x1 x2 x3 : Int32} (r : Rel h) : P_Desk_meet G h x1 x2 x3 (fun a h1 => P_Model_meet G h1 x1 x2 x3 (fun b h2 => a = b ∧ Rel h2)) := by
  have hS := nS_le r.1
  have hv := NVRe
  have e67 : h 67 0 = nI (nS h) := r.2.2.1.2.1.1.trans (ok_S r.1)
  refine s_Desk_meet_0 _ _ _ _ _ _ ?_
  by_cases c1 : x1 = 0
  · rw [if_pos c1]
    refine s_Model_meet_0 _ _ _ _ _ _ ?_
    rw [if_pos c1]
    exact ⟨by trivial, r⟩
  rw [if_neg c1, ok_S r.1]
  by_cases c2 : ∀ i, nS h ≤ i → bt x1 i = false
  rotate_left
  · rw [if_neg (fun z => c2 ((mask_c (by omega)).mp z))]
    refine s_Model_meet_0 _ _ _ _ _ _ ?_
    rw [if_neg c1, e67, if_neg (fun z => c2 ((mask_m (by omega)).mp z))]
    exact ⟨by trivial, r⟩
  rw [if_pos ((mask_c (by omega)).mpr c2)]
  have m2 := (mask_m (x := x1) (n := nS h) (by omega)).mpr c2
  refine c_isDay ?_
  simp only [decide_eq_true_eq]
  by_cases c3 : 0 ≤ x2 ∧ x2 ≤ 99
  rotate_left
  · rw [if_neg c3]
    refine s_Model_meet_0 _ _ _ _ _ _ ?_
    rw [if_neg c1, e67, if_pos m2]
    refine cm_isDay ?_
    simp only [decide_eq_true_eq]
    rw [if_neg c3]
    exact ⟨by trivial, r⟩
  rw [if_pos c3]
  refine c_isMinute ?_
  simp only [decide_eq_true_eq]
  by_cases c4 : 0 ≤ x3 ∧ x3 ≤ 1439
  rotate_left
  · rw [if_neg c4]
    refine s_Model_meet_0 _ _ _ _ _ _ ?_
    rw [if_neg c1, e67, if_pos m2]
    refine cm_isDay ?_
    simp only [decide_eq_true_eq]
    rw [if_pos c3]
    refine cm_in ?_
    simp only [decide_eq_true_eq]
    rw [if_neg c4]
    exact ⟨by trivial, r⟩
  rw [if_pos c4]
  obtain ⟨d, ed, hd⟩ := IN_ex (b := 99) rfl c3
  obtain ⟨mi, em, hmi⟩ := IN_ex (b := 1439) rfl c4
  have ea : 1440 * x2 + x3 = nI (1440 * d + mi) := by rw [ed, em, show (1440 : Int32) = nI 1440 from rfl, pk_mul, nI_add]
  have hok : RsOK (runsL h (1440 * d + mi) (1440 * (d + 2))) := fun v t d q => (rs_runs q).1
  have hok2 : ∀ (v t d' : Nat), (runsL h (1440 * d + mi) (1440 * (d + 2)))[v]? = some (t, d') → t < nT h := fun v t d q => (rs_runs q).2.1
  have hlen := runsL_len r.1 (show 1440 * d ≤ 1440 * d + mi by omega) (show d < 100 by omega) 100
  have hT := nT_le r.1
  obtain ⟨sg, hsg⟩ := Sg.ex h (runsL h (1440 * d + mi) (1440 * (d + 2))) (1440 * (d + 2)) (1440 * d + mi)
  have hgl : ∀ i q, sg i q ≤ NVR := hsg.le (by omega) (by omega)
  have heq : ∀ q, mxm sg x1 (1440 * d + mi) (nS h) q = mxm sg x1 0 (nS h) q := by
    intro q
    rcases mxm_eq (x := x1) (hsg.ge r.1 (by omega)) q (nS h) with ⟨a, _⟩ | ⟨a, _⟩
    · exfalso
      refine c1 (b_ext (fun i _ => ?_))
      rw [b_0]
      rcases Nat.lt_or_ge i (nS h) with z | z
      · exact a i z
      · exact c2 i z
    · exact a
  refine s_Desk_gather_0 _ _ _ _ _ _ ?_
  rw [ea]
  rw [ed]
  refine c_gather r.1 r.2.1 (by omega) (by omega) (by omega) (On.refl h) (fun h7 on7 ag7 e7 ra7 => ?_)
  rw [← ed]
  refine c_fill_1 (fun h8 ag8 f8 => ?_)
  have on8 : On h8 h := on7.agr ag8 (by decide)
  have e8 : h8 42 6 = nI (1440 * (d + 2)) := by rw [ag8 42 (by decide)]; exact e7
  have ra8 : RA h h8 (runsL h (1440 * d + mi) (1440 * (d + 2))) := by
    unfold RA
    rw [ag8 42 (by decide), ag8 43 (by decide), ag8 44 (by decide), ag8 45 (by decide), ag8 46 (by decide), ag8 47 (by decide)]
    exact ra7
  have agg : Agr gS h h8 := (ag7.mono (by decide)).trans (ag8.mono (by decide))
  refine c_gat (G := G) (x1 := x1) r (by omega) (by omega) hsg hlen hok (fun v t d q => by have := hok2 v t d q; omega) (fun h9 ag9 p9 => ?_) (nS h) 0 h8 (by omega) on8 e8 ra8 agg (fun q hq => f8 q (by omega))
  have g9 : ∀ q, q < nS h → h9 1 q = nI (mxm sg x1 0 (nS h) q) := fun q hq => by rw [p9 q hq, heq q]
  have hgm : ∀ q, mxm sg x1 0 (nS h) q ≤ NVR := fun q => mxm_le (Nat.zero_le _) hgl q _
  have md : ∀ (H : HP) (aa : Int32), (∀ k, 67 ≤ k → k ≤ 93 → H k = h k) → (∀ h', AM qC qT H h' → fb (fun q => mxm sg x1 0 (nS h) q) (nS h) = none → aa = -1 ∧ Rel h') → (∀ h' b, AM qC qT H h' → fb (fun q => mxm sg x1 0 (nS h) q) (nS h) = some b → aa = nI b ∧ Rel (up h' 67 58 (nI (mxm sg x1 0 (nS h) b)))) → P_Model_meet G H x1 x2 x3 (fun b h2 => aa = b ∧ Rel h2) := by
    intro H aa hH k1 k2
    refine s_Model_meet_0 _ _ _ _ _ _ ?_
    rw [if_neg c1, hH 67 (by decide) (by decide), e67, if_pos m2]
    refine cm_isDay ?_
    simp only [decide_eq_true_eq]
    rw [if_pos c3]
    refine cm_in ?_
    simp only [decide_eq_true_eq]
    rw [if_pos c4]
    have lk : ∀ KK : HP → Prop, (∀ h', LK h h' (1440 * d + mi) (1440 * (d + 2)) → AM lS lT' H h' → RM h h' (runsL h (1440 * d + mi) (1440 * (d + 2))) → KK h') → P_Model_look G H x2 x3 KK := by
      intro KK q
      rw [ed, em]
      exact cm_look r.1 (by omega) (by omega) (r.2.2.1.hi hH) q
    refine lk _ (fun h10 lk10 am10 rm10 => ?_)
    refine cm_zero (G := G) (lim := 1440 * (d + 2)) (rs := runsL h (1440 * d + mi) (1440 * (d + 2))) r.1 (h0 := H) (fun h11 hm11 hl11 rm11 am11 p11 => ?_) (nS h) 0 h10 (by omega) lk10.1 lk10.2.2 rm10 (am10.mono (by decide) (by decide)) (fun q hq => by omega)
    refine cm_gat (G := G) (x1 := x1) r.1 r.2.1 hlen hok hok2 (lim := 1440 * (d + 2)) (ask := 1440 * d + mi) (by omega) (by omega) hsg ea (h0 := H) (fun h12 hm12 am12 p12 => ?_) (nS h) 0 h11 (by omega) hm11 hl11 rm11 am11 p11
    exact cm_best (G := G) (n := nS h) hS (hm12.2.1.1.trans (ok_S r.1)) hgm p12 (k1 h12 am12) (fun b q => k2 h12 b am12 q) (nS h) 0 (by omega)
  have am9 : AM (0 :: qC) (58 :: qT) h h9 := ag9.am
  have am9' : AM qC qT h h9 := ag9.am
  have hi9 : ∀ k, 67 ≤ k → k ≤ 93 → h9 k = h k := fun k h1 h2 => ag9 k (fun z => by have := (by decide : ∀ k ∈ gS, k < 67) k z; omega)
  refine c_best (G := G) hS (by rw [ag9 2 (by decide)]; exact ok_S r.1) hgm g9 (fun q => ?_) (fun b q => ?_) (nS h) 0 (by omega)
  · refine md h9 _ hi9 (fun h' am _ => ⟨rfl, r.am (am9'.trans am)⟩) (fun h' b am q2 => ?_)
    rw [q] at q2
    cases q2
  · refine md _ _ (fun k h1 h2 => by rw [up_ce _ _ _ (by omega)]; exact hi9 k h1 h2) (fun h' am q2 => ?_) (fun h' b' am q2 => ?_)
    · rw [q] at q2
      cases q2
    · rw [q] at q2
      cases q2
      refine ⟨rfl, r.met (((am9.pt (by decide) (by decide) _ _).trans (am.mono (by decide) (by decide))).p67 (by decide) _) ?_⟩
      rw [up_at, up_ce _ _ _ (by decide), am.1 0 (by decide) (by decide), up_at]
