/-! ===== meet: gathering ===== -/
/-- sg i q: how soon one who asks at stop i is at stop q -/
def Sg (h : HP) (rs : List (Nat × Nat)) (lim ask : Nat) (sg : Nat → Nat → Nat) : Prop := ∀ frm, ∃ E R, DP h rs lim 0 ask frm E R ∧ ∀ q, sg frm q = so0 h lim ask E q
theorem Sg.ex (h : HP) (rs : List (Nat × Nat)) (lim ask : Nat) : ∃ sg, Sg h rs lim ask sg := by
  have h1 : ∀ frm, ∃ g : Nat → Nat, ∃ E R, DP h rs lim 0 ask frm E R ∧ ∀ q, g q = so0 h lim ask E q := fun frm => by
    obtain ⟨E, R, u⟩ := DP_ex h rs lim 0 ask frm
    exact ⟨fun q => so0 h lim ask E q, E, R, u, fun _ => rfl⟩
  exact Classical.axiomOfChoice h1
theorem Sg.is {h : HP} (hN : NetOK h) {rs : List (Nat × Nat)} {lim ask : Nat} (hl : lim ≤ 400000) (ha : ask < 400000) {sg : Nat → Nat → Nat} (s : Sg h rs lim ask sg) {frm : Nat} {E R : Nat → Nat → Nat → Nat} (u : DP h rs lim 0 ask frm E R) (q : Nat) : so0 h lim ask E q = sg frm q := by
  obtain ⟨E', R', u', e⟩ := s frm
  rw [e q]
  exact Nat.le_antisymm (so0_mono hN hl (Nat.le_refl _) ha u u' q) (so0_mono hN hl (Nat.le_refl _) ha u' u q)
theorem Sg.ge {h : HP} (hN : NetOK h) {rs : List (Nat × Nat)} {lim ask : Nat} (ha : ask < 400000) {sg : Nat → Nat → Nat} (s : Sg h rs lim ask sg) (i q : Nat) : ask ≤ sg i q := by
  obtain ⟨E, R, u, e⟩ := s i
  rw [e q]
  exact so0_ge hN ha u q
theorem Sg.le {h : HP} {rs : List (Nat × Nat)} {lim ask : Nat} (hl : lim ≤ 400000) (ha : ask < 400000) {sg : Nat → Nat → Nat} (s : Sg h rs lim ask sg) (i q : Nat) : sg i q ≤ NVR := by
  have hv := NVRe
  obtain ⟨E, R, u, e⟩ := s i
  have := so0_ok (N := h) (ask := ask) (fun r hr => u.up.te hl ha r hr) hl q
  rw [e q]
  omega
abbrev gS : List Nat := [1, 42, 43, 44, 45, 46, 47, 48, 49, 50, 51, 52, 53]
theorem c_gat_q {G : GA} {h : HP} (r : Rel h) {rs : List (Nat × Nat)} {lim ask i : Nat} {x1 : Int32} {sg : Nat → Nat → Nat} (hg : ∀ i q, sg i q ≤ NVR) (ha : ask ≤ NVR) (hb : bt x1 i = true) {K : HP → Prop}
    (kk : ∀ h', On h' h → h' 42 6 = nI lim → RA h h' rs → Agr gS h h' → (∀ q, q < nS h → h' 1 q = nI (mxm sg x1 ask (i + 1) q)) → H_Desk_gather_31 G h' x1 (nI ask) (nI i + 1) K) :
    ∀ m q h', q + m = nS h → On h' h → h' 42 6 = nI lim → RA h h' rs → Agr gS h h' → (∀ p, p < nS h → h' 51 p = nI (sg i p)) → (∀ p, p < q → h' 1 p = nI (mxm sg x1 ask (i + 1) p)) → (∀ p, q ≤ p → p < nS h → h' 1 p = nI (mxm sg x1 ask i p)) → H_Desk_gather_66 G h' x1 (nI ask) (nI i) (nI q) K
  | 0, q, h', e, on, e42, ra, ag, e51, p1, p2 => by
    have hS := nS_le r.1
    refine s_Desk_gather_66 _ _ _ _ _ _ _ ?_
    rw [on.c 2, ok_S r.1, if_pos (by rw [leI (by omega) (by omega)]; omega)]
    exact kk h' on e42 ra ag (fun p hp => p1 p (by omega))
  | m + 1, q, h', e, on, e42, ra, ag, e51, p1, p2 => by
    have hv := NVRe
    have hS := nS_le r.1
    have h1 := mxm_le (x := x1) ha hg q i
    have h2 := hg i q
    refine s_Desk_gather_66 _ _ _ _ _ _ _ ?_
    rw [on.c 2, ok_S r.1, if_neg (by rw [leI (by omega) (by omega)]; omega), tnI (by omega), e51 q (by omega), p2 q (Nat.le_refl _) (by omega), maxI (by omega) (by omega), nI_1]
    refine ⟨in_nI (by omega) (by decide), ?_⟩
    intro g eg
    subst eg
    refine c_gat_q r hg ha hb kk m (q + 1) _ (by omega) (on.up (by decide) _ _) (by rw [up_ce _ _ _ (by decide)]; exact e42) ?_ (ag.up (by decide) _ _) (fun p hp => by rw [up_ce _ _ _ (by decide)]; exact e51 p hp) (fun p hp => ?_) (fun p hp hp2 => ?_)
    · unfold RA
      rw [up_ce _ _ _ (by decide), up_ce _ _ _ (by decide), up_ce _ _ _ (by decide), up_ce _ _ _ (by decide), up_ce _ _ _ (by decide), up_ce _ _ _ (by decide)]
      exact ra
    · by_cases c : p = q
      · subst c
        rw [up_at, mxm, if_pos hb]
      · rw [up_sl _ _ c]
        exact p1 p (by omega)
    · rw [up_sl _ _ (by omega)]
      exact p2 p (by omega) hp2
theorem c_gat {G : GA} {h : HP} (r : Rel h) {rs : List (Nat × Nat)} {lim ask : Nat} {x1 : Int32} {sg : Nat → Nat → Nat} (hl : lim ≤ 400000) (ha : ask < 400000) (hsg : Sg h rs lim ask sg) (hrs : rs.length ≤ 132) (hok : RsOK rs) (hok2 : ∀ (v t d : Nat), rs[v]? = some (t, d) → t < 24) {K : HP → Prop}
    (kk : ∀ h', Agr gS h h' → (∀ q, q < nS h → h' 1 q = nI (mxm sg x1 ask (nS h) q)) → K h') :
    ∀ m i h', i + m = nS h → On h' h → h' 42 6 = nI lim → RA h h' rs → Agr gS h h' → (∀ q, q < nS h → h' 1 q = nI (mxm sg x1 ask i q)) → H_Desk_gather_31 G h' x1 (nI ask) (nI i) K
  | 0, i, h', e, on, e42, ra, ag, p1 => by
    have hS := nS_le r.1
    refine s_Desk_gather_31 _ _ _ _ _ _ ?_
    rw [on.c 2, ok_S r.1, if_pos (by rw [leI (by omega) (by omega)]; omega)]
    rw [show i = nS h by omega] at p1
    exact kk h' ag p1
  | m + 1, i, h', e, on, e42, ra, ag, p1 => by
    have hv := NVRe
    have hS := nS_le r.1
    have ih := c_gat (G := G) r hl ha hsg hrs hok hok2 kk m (i + 1)
    refine s_Desk_gather_31 _ _ _ _ _ _ ?_
    rw [on.c 2, ok_S r.1, if_neg (by rw [leI (by omega) (by omega)]; omega)]
    cases c : bt x1 i
    · rw [if_pos ((bit_shr0 (by omega)).mpr c), nI_1]
      refine ih h' (by omega) on e42 ra ag (fun q hq => ?_)
      rw [mxm, c, if_neg (by decide)]
      exact p1 q hq
    · rw [if_neg (fun z => by rw [(bit_shr0 (by omega)).mp z] at c; cases c)]
      refine c_askSoonest r.1 hl ha hrs hok hok2 (by omega) on e42 ra (fun h1 E0 R0 dp sc ag1 e51 => ?_)
      refine c_gat_q r (hsg.le hl ha) (by omega) c (fun h2 on2 e2 ra2 ag2 p2 => ?_) (nS h) 0 h1 (by omega) sc.1 sc.2.2.2.1 sc.2.2.2.2 (ag.trans (ag1.mono (by decide))) (fun p hp => by rw [e51 p hp, hsg.is r.1 hl ha dp]) (fun p hp => by omega) (fun p _ hp => by rw [ag1 1 (by decide)]; exact p1 p hp)
      rw [nI_1]
      exact ih h2 (by omega) on2 e2 ra2 ag2 p2
/-! ===== the reference's ===== -/
theorem GC.up111 {N h : HP} {rs : List (Nat × Nat)} {lim ask frm : Nat} (g : GC N h rs lim ask frm) (j : Nat) (x : Int32) : GC N (up h 111 j x) rs lim ask frm := by
  refine ⟨g.1.hi (fun k h1 h2 => up_ce _ _ _ (by omega)), ?_, ?_, ?_, ?_⟩
  · rw [up_ce _ _ _ (by decide)]; exact g.2.1
  · rw [up_ce _ _ _ (by decide)]; exact g.2.2.1
  · rw [up_ce _ _ _ (by decide)]; exact g.2.2.2.1
  · unfold RM
    rw [up_ce _ _ _ (by decide), up_ce _ _ _ (by decide), up_ce _ _ _ (by decide), up_ce _ _ _ (by decide), up_ce _ _ _ (by decide)]
    exact g.2.2.2.2
theorem cm_gat_q {G : GA} {N : HP} (hN : NetOK N) {rs : List (Nat × Nat)} (hok : RsOK rs) {lim ask i : Nat} {x1 x2 x3 : Int32} {sg : Nat → Nat → Nat} (hl : lim ≤ 400000) (ha : ask < lim) (hsg : Sg N rs lim ask sg) (hb : bt x1 i = true) (hi : i < 12) {E R : Nat → Nat → Nat → Nat} (dp : DP N rs lim (dear N) ask i E R) {h0 : HP} {K : Int32 → HP → Prop}
    (kk : ∀ h', GC N h' rs lim ask i → AM qC qT h0 h' → (∀ q, q < nS N → h' 111 q = nI (mxm sg x1 0 (i + 1) q)) → H_Model_meet_75 G h' x1 x2 x3 (nI i + 1) K) :
    ∀ m q h', q + m = nS N → GC N h' rs lim ask i → AM qC qT h0 h' → (∀ r, r ≤ 3 → ER h' ask i r (E r)) → (∀ p, p < q → h' 111 p = nI (mxm sg x1 0 (i + 1) p)) → (∀ p, q ≤ p → p < nS N → h' 111 p = nI (mxm sg x1 0 i p)) → H_Model_meet_112 G h' x1 x2 x3 (nI i) (nI q) K
  | 0, q, h', e, gc, am, er, p1, p2 => by
    have hS := nS_le hN
    refine s_Model_meet_112 _ _ _ _ _ _ _ _ ?_
    rw [gc.1.2.1.1, ok_S hN, if_pos (by rw [leI (by omega) (by omega)]; omega)]
    exact kk h' gc am (fun p hp => p1 p (by omega))
  | m + 1, q, h', e, gc, am, er, p1, p2 => by
    have hv := NVRe
    have hS := nS_le hN
    have h1 := mxm_le (x := x1) (Nat.zero_le NVR) (hsg.le hl (by omega)) q i
    refine s_Model_meet_112 _ _ _ _ _ _ _ _ ?_
    rw [gc.1.2.1.1, ok_S hN, if_neg (by rw [leI (by omega) (by omega)]; omega)]
    refine cm_soonestOf hN (by omega) hi (by omega) hl (fun r hr => dp.up.te hl (by omega) r hr) gc er (fun x mo hx => ?_)
    obtain ⟨E0, R0, u0⟩ := DP_ex N rs lim 0 ask i
    have ex := (soon_eq hN ha hl hok dp u0 mo hx).trans (hsg.is hN hl (by omega) u0 q)
    rw [tnI (by omega), p2 q (Nat.le_refl _) (by omega), nI_1]
    refine ⟨in_nI (by omega) (by decide), ?_⟩
    have nxt : ∀ v, v = mxm sg x1 0 (i + 1) q → H_Model_meet_112 G (up h' 111 q (nI v)) x1 x2 x3 (nI i) (nI (q + 1)) K := by
      intro v hv2
      refine cm_gat_q hN hok hl ha hsg hb hi dp kk m (q + 1) _ (by omega) (gc.up111 _ _) (am.pt (by decide) (by decide) _ _) (fun r hr => ⟨(er r hr).1, fun z => ?_⟩) (fun p hp => ?_) (fun p hp hp2 => ?_)
      · have q2 := (er r hr).2 z
        unfold EM at q2 ⊢
        rw [up_ce _ _ _ (by decide)]
        exact q2
      · by_cases c : p = q
        · subst c
          rw [up_at, hv2]
        · rw [up_sl _ _ c]
          exact p1 p (by omega)
      · rw [up_sl _ _ (by omega)]
        exact p2 p (by omega) hp2
    by_cases c : mxm sg x1 0 i q < x
    · rw [if_neg (by rw [leI (by omega) (by omega)]; omega)]
      intro g eg
      subst eg
      exact nxt x (by rw [mxm, if_pos hb, if_pos (by omega)]; exact ex)
    · rw [if_pos (by rw [leI (by omega) (by omega)]; omega)]
      intro g eg
      subst eg
      exact nxt _ (by rw [mxm, if_pos hb, if_neg (by omega)])
