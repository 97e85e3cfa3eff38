/-! ===== meet: the rest ===== -/
theorem Rel.met {h h' : HP} (r : Rel h) (a : AM (0 :: qC) (58 :: qT) h h') (e : h' 67 58 = h' 0 10) : Rel h' := by
  have hq : ∀ k ∈ 0 :: qC, ¬ ((2 ≤ k ∧ k ≤ 41) ∨ (68 ≤ k ∧ k ≤ 93)) := by decide
  have hT : ∀ j ∈ 58 :: qT, ¬ j ≤ 3 := by decide
  have hr : ∀ k ∈ rC', k ∉ 0 :: qC ∧ k ≠ 67 := by decide
  have e1 : ∀ k, (2 ≤ k ∧ k ≤ 41) ∨ (68 ≤ k ∧ k ≤ 93) → h' k = h k := fun k hk => a.1 k (fun z => hq k z hk) (by omega)
  have p : Kq h h' := ⟨fun k hk => a.1 k (hr k hk).1 (hr k hk).2, a.2 4 (by decide), a.2 41 (by decide)⟩
  have g : Gr h h' := Gr.on fun k h1 h2 => e1 k (Or.inl ⟨h1, by omega⟩)
  exact ⟨r.1.on fun k h1 h2 => e1 k (Or.inl ⟨h1, by omega⟩), by unfold PlOK; rw [p.c 31]; exact r.2.1, r.2.2.1.same e1 (fun j hj => a.2 j (fun z => hT j z hj)), e, r.2.2.2.2.1.kp p g, r.2.2.2.2.2.kp p g⟩
theorem cm_gat {G : GA} {N : HP} (hN : NetOK N) (hP : PlOK N) {rs : List (Nat × Nat)} (hrs : rs.length ≤ 132) (hok : RsOK rs) (hok2 : ∀ (v t d : Nat), rs[v]? = some (t, d) → t < nT N) {lim ask : Nat} {x1 x2 x3 : Int32} {sg : Nat → Nat → Nat} (hl : lim ≤ 400000) (ha : ask < lim) (hsg : Sg N rs lim ask sg) (ea : 1440 * x2 + x3 = nI ask) {h0 : HP} {K : Int32 → HP → Prop}
    (kk : ∀ h', OnM h' N → AM qC qT h0 h' → (∀ q, q < nS N → h' 111 q = nI (mxm sg x1 0 (nS N) q)) → H_Model_meet_178 G h' (-1) 0 K) :
    ∀ m i h', i + m = nS N → OnM h' N → h' 67 32 = nI lim → RM N h' rs → AM qC qT h0 h' → (∀ q, q < nS N → h' 111 q = nI (mxm sg x1 0 i q)) → H_Model_meet_75 G h' x1 x2 x3 (nI i) K
  | 0, i, h', e, hm, hlim, rm, am, p1 => by
    have hS := nS_le hN
    refine s_Model_meet_75 _ _ _ _ _ _ _ ?_
    rw [hm.2.1.1, ok_S hN, if_pos (by rw [leI (by omega) (by omega)]; omega)]
    rw [show i = nS N by omega] at p1
    exact kk h' hm am p1
  | m + 1, i, h', e, hm, hlim, rm, am, p1 => by
    have hS := nS_le hN
    have ih := cm_gat (G := G) hN hP hrs hok hok2 hl ha hsg ea kk m (i + 1)
    refine s_Model_meet_75 _ _ _ _ _ _ _ ?_
    rw [hm.2.1.1, ok_S hN, if_neg (by rw [leI (by omega) (by omega)]; omega), ea]
    cases c : bt x1 i
    · rw [if_pos ((bit_shr0 (by omega)).mpr c), nI_1]
      refine ih h' (by omega) hm hlim rm am (fun q hq => ?_)
      rw [mxm, c, if_neg (by decide)]
      exact p1 q hq
    · rw [if_neg (fun z => by rw [(bit_shr0 (by omega)).mp z] at c; cases c)]
      refine cm_go hN hP hl (by omega) hrs hok hok2 (by omega) hm hlim rm (fun h1 E R dp gc am1 em ym => ?_)
      refine cm_gat_q hN hok hl ha hsg c (by omega) dp (h0 := h0) (fun h2 gc2 am2 p2 => ?_) (nS N) 0 h1 (by omega) gc (am.trans (am1.mono (by decide) (by decide))) (fun i hi => ⟨fun e => by subst e; funext f q; exact dp.1 f q, fun e => em i e hi⟩) (fun p hp => by omega) (fun p _ hp => by rw [am1.1 111 (by decide) (by decide)]; exact p1 p hp)
      rw [nI_1]
      exact ih h2 (by omega) gc2.1 gc2.2.2.1 gc2.2.2.2.2 am2 p2
theorem cm_zero {G : GA} {N : HP} (hN : NetOK N) {rs : List (Nat × Nat)} {lim : Nat} {x1 x2 x3 : Int32} {h0 : HP} {K : Int32 → HP → Prop}
    (kk : ∀ h', OnM h' N → h' 67 32 = nI lim → RM N h' rs → AM qC qT h0 h' → (∀ q, q < nS N → h' 111 q = 0) → H_Model_meet_75 G h' x1 x2 x3 0 K) :
    ∀ m i h', i + m = nS N → OnM h' N → h' 67 32 = nI lim → RM N h' rs → AM qC qT h0 h' → (∀ q, q < i → h' 111 q = 0) → H_Model_meet_49 G h' x1 x2 x3 (nI i) K
  | 0, i, h', e, hm, hlim, rm, am, p1 => by
    have hS := nS_le hN
    refine s_Model_meet_49 _ _ _ _ _ _ _ ?_
    rw [hm.2.1.1, ok_S hN, if_pos (by rw [leI (by omega) (by omega)]; omega)]
    exact kk h' hm hlim rm am (fun q hq => p1 q (by omega))
  | m + 1, i, h', e, hm, hlim, rm, am, p1 => by
    have hS := nS_le hN
    refine s_Model_meet_49 _ _ _ _ _ _ _ ?_
    rw [hm.2.1.1, ok_S hN, if_neg (by rw [leI (by omega) (by omega)]; omega), tnI (by omega), nI_1]
    refine ⟨in_nI (by omega) (by decide), ?_⟩
    intro g eg
    subst eg
    refine cm_zero hN kk m (i + 1) _ (by omega) (hm.hi (fun k h1 h2 => up_ce _ _ _ (by omega))) (by rw [up_ce _ _ _ (by decide)]; exact hlim) ?_ (am.pt (by decide) (by decide) _ _) (fun q hq => ?_)
    · unfold RM
      rw [up_ce _ _ _ (by decide), up_ce _ _ _ (by decide), up_ce _ _ _ (by decide), up_ce _ _ _ (by decide), up_ce _ _ _ (by decide)]
      exact rm
    · by_cases c : q = i
      · subst c
        rw [up_at]
      · rw [up_sl _ _ c]
        exact p1 q (by omega)
