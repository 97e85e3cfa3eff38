/-! ===== reach ===== -/
def qC : List Nat := [1, 42, 43, 44, 45, 46, 47, 48, 49, 50, 51, 52, 53, 57, 58, 59, 60, 61, 62, 63, 64, 65, 66, 94, 95, 96, 97, 98, 99, 106, 111]
def qT : List Nat := [31, 32, 33, 40, 49, 50, 51, 52, 57]
theorem Rel.am {h h' : HP} (r : Rel h) (a : AM qC qT h h') : Rel h' := by
  have hq : ∀ k ∈ qC, ¬ ((2 ≤ k ∧ k ≤ 41) ∨ (68 ≤ k ∧ k ≤ 93)) := by decide
  have hT : ∀ j ∈ qT, ¬ j ≤ 3 := by decide
  exact r.same (fun k hk => a.1 k (fun z => hq k z hk) (by omega)) (fun j hj => a.2 j (fun z => hT j z hj)) (Kp.of a)
theorem Agr.am {S S' T : List Nat} {h h' : HP} (a : Agr S h h') (hS : ∀ k ∈ S, k ∈ S' := by decide) (h67 : 67 ∉ S := by decide) : AM S' T h h' :=
  ⟨fun k hk _ => a k (fun z => hk (hS k z)), fun j _ => by rw [a 67 h67]⟩
theorem OnM.hi {h h' N : HP} (hm : OnM h N) (e : ∀ k, 67 ≤ k → k ≤ 93 → h' k = h k) : OnM h' N := by
  have d : ∀ k, 67 ≤ k → k ≤ 93 → h' k = h k := e
  refine ⟨fun q hq => ?_, ?_, ?_, ?_, ?_⟩
  · have hr : ∀ p ∈ mP, 67 ≤ p.1 ∧ p.1 ≤ 93 := by decide
    rw [d q.1 (hr q hq).1 (hr q hq).2]
    exact hm.1 q hq
  · rw [d 67 (by decide) (by decide)]
    exact hm.2.1
  · rw [d 79 (by decide) (by decide)]
    exact hm.2.2.1
  · rw [d 80 (by decide) (by decide)]
    exact hm.2.2.2.1
  · rw [d 93 (by decide) (by decide)]
    exact hm.2.2.2.2
theorem c_soonQ {G : GA} {h : HP} (r : Rel h) {d ask frm : Nat} (hd : d < 100) (ha1 : 1440 * d ≤ ask) (ha2 : ask < 1440 * (d + 1)) (hf : frm < nS h) {K : HP → Prop}
    (kk : ∀ h8 E0 R0, DP h (runsL h ask (1440 * (d + 2))) (1440 * (d + 2)) 0 ask frm E0 R0 → Agr [42, 43, 44, 45, 46, 47, 48, 49, 50, 51, 52, 53] h h8 → (∀ s, s < nS h → h8 51 s = nI (so0 h (1440 * (d + 2)) ask E0 s)) → K h8) :
    P_Runs_gather G h (nI d) (nI ask) (fun h7 => P_Search_askSoonest G h7 (nI frm) (nI ask) K) := by
  have hS := nS_le r.1
  have hT := nT_le r.1
  refine c_gather r.1 r.2.1 hd ha1 ha2 (On.refl h) (fun h7 on7 ag7 e7 ra7 => ?_)
  refine c_askSoonest r.1 (by omega) (by omega) (runsL_len r.1 ha1 hd 100) (fun v t d q => (rs_runs q).1) (fun v t d q => by have := (rs_runs q).2.1; omega) (by omega) on7 e7 ra7 (fun h8 E0 R0 dp sc ag8 e51 => ?_)
  exact kk h8 E0 R0 dp ((ag7.mono (by decide)).trans (ag8.mono (by decide))) e51
theorem cm_goQ {G : GA} {h h8 : HP} (r : Rel h) (hm : OnM h8 h) {d mi frm : Nat} (hd : d < 100) (hmi : mi < 1440) (hf : frm < nS h) {K : HP → Prop}
    (kk : ∀ h' E R, DP h (runsL h (1440 * d + mi) (1440 * (d + 2))) (1440 * (d + 2)) (dear h) (1440 * d + mi) frm E R → GC h h' (runsL h (1440 * d + mi) (1440 * (d + 2))) (1440 * (d + 2)) (1440 * d + mi) frm → AM qC qT h8 h' → (∀ i, i ≤ 3 → ER h' (1440 * d + mi) frm i (E i)) → (∀ i, i < 3 → YM h' i (R i)) → K h') :
    P_Model_look G h8 (nI d) (nI mi) (fun h9 => P_Model_go G h9 (nI frm) (nI (1440 * d + mi)) K) := by
  refine cm_look r.1 hd hmi hm (fun h9 lk am9 rm => ?_)
  refine cm_go r.1 r.2.1 (by omega) (by omega) (runsL_len r.1 (by omega) hd 100) (fun v t d q => (rs_runs q).1) (fun v t d q => (rs_runs q).2.1) hf lk.1 lk.2.2 rm (fun h' E R dp gc am10 em ym => ?_)
  refine kk h' E R dp gc ((am9.mono (by decide) (by decide)).trans (am10.mono (by decide) (by decide))) (fun i hi => ⟨fun e => ?_, fun e => em i e hi⟩) ym
  subst e
  funext f s
  exact dp.1 f s
def rM (P : Nat → Bool) : Nat → Int32
  | 0 => 0
  | n + 1 => if P n = true then rM P n ||| (1 <<< (nI n &&& 31)) else rM P n
def rP (E : Nat → Nat) (ask : Nat) (x : Int32) (s : Nat) : Bool := decide (E s < NVR) && decide ((E s : Int) - ask ≤ x.toInt)
theorem c_reach_loop {G : GA} {h : HP} {n ask : Nat} {x4 : Int32} (hn : n ≤ 12) (e2 : h 2 3 = nI n) {E : Nat → Nat} (hE : ∀ s, s < n → h 51 s = nI (E s)) (hb : ∀ s, E s = NVR ∨ E s < 400000) (ha : ask < 400000) {K : Int32 → HP → Prop} (kk : K (rM (rP E ask x4) n) h) : ∀ m i, i + m = n → H_Desk_reach_68 G h x4 (nI ask) (rM (rP E ask x4) i) (nI i) K
  | 0, i, e => by
    refine s_Desk_reach_68 _ _ _ _ _ _ _ ?_
    rw [e2, if_pos (by rw [leI (by omega) (by omega)]; omega), show i = n by omega]
    exact kk
  | m + 1, i, e => by
    have hv := NVRe
    have hbi := hb i
    refine s_Desk_reach_68 _ _ _ _ _ _ _ ?_
    rw [e2, if_neg (by rw [leI (by omega) (by omega)]; omega), tnI (by omega), hE i (by omega), nI_1, show (1000000000 : Int32) = nI NVR from rfl]
    refine ⟨in_nI (by omega) (by decide), ?_⟩
    have ih := c_reach_loop (G := G) hn e2 hE hb ha kk m (i + 1) (by omega)
    rw [rM] at ih
    by_cases c1 : E i < NVR
    · rw [if_neg (by rw [leI (by omega) (by omega)]; omega)]
      have es : (nI (E i) - nI ask).toInt = (E i : Int) - ask := by
        rw [toInt_sub (by rw [toInt_nI (by omega), toInt_nI (by omega)]; omega) (by rw [toInt_nI (by omega), toInt_nI (by omega)]; omega), toInt_nI (by omega), toInt_nI (by omega)]
      by_cases c2 : (E i : Int) - ask ≤ x4.toInt
      · rw [if_neg (by rw [fa_lt, es]; omega)]
        rw [if_pos (by unfold rP; rw [decide_eq_true c1, decide_eq_true c2]; rfl)] at ih
        exact ih
      · rw [if_pos (by rw [fa_lt, es]; omega)]
        rw [if_neg (by unfold rP; rw [decide_eq_false c2, Bool.and_false]; decide)] at ih
        exact ih
    · rw [if_pos (by rw [leI (by omega) (by omega)]; omega)]
      rw [if_neg (by unfold rP; rw [decide_eq_false c1, Bool.false_and]; decide)] at ih
      exact ih
theorem cm_reach_loop {G : GA} {N h : HP} (hN : NetOK N) {rs : List (Nat × Nat)} (hok : RsOK rs) {lim ask frm : Nat} {x4 : Int32} (ha : ask < lim) (hl : lim ≤ 400000) (hfr : frm < 12) {E R E0 R0 : Nat → Nat → Nat → Nat} (u : DP N rs lim (dear N) ask frm E R) (u0 : DP N rs lim 0 ask frm E0 R0) (gc : GC N h rs lim ask frm) (er : ∀ r, r ≤ 3 → ER h ask frm r (E r)) (hx : 0 ≤ x4.toInt) {K : Int32 → HP → Prop} (kk : K (rM (rP (so0 N lim ask E0) ask x4) (nS N)) h) : ∀ m i, i + m = nS N → H_Model_reach_58 G h x4 (rM (rP (so0 N lim ask E0) ask x4) i) (nI i) K
  | 0, i, e => by
    have hS := nS_le hN
    refine s_Model_reach_58 _ _ _ _ _ _ ?_
    rw [gc.1.2.1.1, ok_S hN, if_pos (by rw [leI (by omega) (by omega)]; omega), show i = nS N by omega]
    exact kk
  | m + 1, i, e => by
    have hv := NVRe
    have hS := nS_le hN
    refine s_Model_reach_58 _ _ _ _ _ _ ?_
    rw [gc.1.2.1.1, ok_S hN, if_neg (by rw [leI (by omega) (by omega)]; omega)]
    refine cm_soonestOf hN (by omega) hfr (by omega) hl (fun r hr => u.up.te hl (by omega) r hr) gc er (fun x mo hx2 => ?_)
    have ex := soon_eq hN ha hl hok u u0 mo hx2
    rw [gc.2.1, nI_1, show (1000000000 : Int32) = nI NVR from rfl]
    have ih := cm_reach_loop (G := G) hN hok ha hl hfr u u0 gc er hx kk m (i + 1) (by omega)
    rw [rM] at ih
    by_cases c1 : x < NVR
    · rw [if_neg (by rw [leI (by omega) (by omega)]; omega)]
      have es : ((nI ask).toInt64 + x4.toInt64).toInt = (ask : Int) + x4.toInt := by
        have q1 := toInt_lt x4
        rw [Int64.toInt_add, Int32.toInt_toInt64, Int32.toInt_toInt64, toInt_nI (by omega), Int.bmod_eq_of_le (by omega) (by omega)]
      have ex2 : (nI x).toInt64.toInt = x := by rw [Int32.toInt_toInt64, toInt_nI (by omega)]
      by_cases c2 : (x : Int) - ask ≤ x4.toInt
      · rw [if_neg (by rw [lg_cmp_gt, fa_lt64, es, ex2]; omega)]
        rw [if_pos (by unfold rP; rw [← ex, decide_eq_true c1, decide_eq_true c2]; rfl)] at ih
        exact ih
      · rw [if_pos (by rw [lg_cmp_gt, fa_lt64, es, ex2]; omega)]
        rw [if_neg (by unfold rP; rw [← ex, decide_eq_false c2, Bool.and_false]; decide)] at ih
        exact ih
    · rw [if_pos (by rw [leI (by omega) (by omega)]; omega)]
      rw [if_neg (by unfold rP; rw [← ex, decide_eq_false c1, Bool.false_and]; decide)] at ih
      exact ih
theorem so0_ok {N : HP} {lim ask : Nat} {E : Nat → Nat → Nat → Nat} (te : ∀ r, r ≤ 3 → TE (E r)) (hl : lim ≤ 400000) (q : Nat) : so0 N lim ask E q = NVR ∨ so0 N lim ask E q < 400000 :=
  sx_ok (b := fun q => bst E q 4) (s := q) (bst_ok 4 (fun r hr => te r (by omega))) hl (nW N)
theorem L_reach {G : GA} {h : HP} {x1 : Int32} {x2 : Int32} {x3 : Int32} {x4 : Int32} (r : Rel h) : P_Desk_reach G h x1 x2 x3 x4 (fun a h1 => P_Model_reach G h1 x1 x2 x3 x4 (fun b h2 => a = b ∧ Rel h2)) := by
  refine s_Desk_reach_0 _ _ _ _ _ _ _ (c_Stops_has ?_)
  simp only [decide_eq_true_eq]
  by_cases c1 : 0 ≤ x1 ∧ x1 < h 2 3
  rotate_left
  · rw [if_neg c1]
    refine s_Model_reach_0 _ _ _ _ _ _ _ (cm_isStop r (by rfl) ?_)
    simp only [decide_eq_true_eq]
    rw [if_neg c1]
    exact ⟨by trivial, r⟩
  rw [if_pos c1]
  refine c_isDay ?_
  simp only [decide_eq_true_eq]
  by_cases c2 : 0 ≤ x2 ∧ x2 ≤ 99
  rotate_left
  · rw [if_neg c2]
    refine s_Model_reach_0 _ _ _ _ _ _ _ (cm_isStop r (by rfl) ?_)
    simp only [decide_eq_true_eq]
    rw [if_pos c1]
    refine cm_isDay ?_
    simp only [decide_eq_true_eq]
    rw [if_neg c2]
    exact ⟨by trivial, r⟩
  rw [if_pos c2]
  refine c_isMinute ?_
  simp only [decide_eq_true_eq]
  by_cases c3 : 0 ≤ x3 ∧ x3 ≤ 1439
  rotate_left
  · rw [if_neg c3]
    refine s_Model_reach_0 _ _ _ _ _ _ _ (cm_isStop r (by rfl) ?_)
    simp only [decide_eq_true_eq]
    rw [if_pos c1]
    refine cm_isDay ?_
    simp only [decide_eq_true_eq]
    rw [if_pos c2]
    refine cm_in ?_
    simp only [decide_eq_true_eq]
    rw [if_neg c3]
    exact ⟨by trivial, r⟩
  rw [if_pos c3]
  by_cases c4 : 0 ≤ x4
  rotate_left
  · rw [if_neg c4]
    refine s_Model_reach_0 _ _ _ _ _ _ _ (cm_isStop r (by rfl) ?_)
    simp only [decide_eq_true_eq]
    rw [if_pos c1]
    refine cm_isDay ?_
    simp only [decide_eq_true_eq]
    rw [if_pos c2]
    refine cm_in ?_
    simp only [decide_eq_true_eq]
    rw [if_pos c3]
    rw [if_neg c4]
    exact ⟨by trivial, r⟩
  rw [if_pos c4]
  obtain ⟨s, es, hs⟩ := has_ex c1
  have hs : s < nS h := hs
  have hS := nS_le r.1
  obtain ⟨d, ed, hd⟩ := IN_ex (b := 99) rfl c2
  obtain ⟨mi, em, hmi⟩ := IN_ex (b := 1439) rfl c3
  have ea : 1440 * x2 + x3 = nI (1440 * d + mi) := by rw [ed, em, show (1440 : Int32) = nI 1440 from rfl, pk_mul, nI_add]
  rw [ea]
  rw [ed, es]
  refine c_soonQ r (by omega) (by omega) (by omega) hs (fun h8 E0 R0 dp0 ag8 e51 => ?_)
  rw [← ed, ← es]
  have hb : ∀ q, so0 h (1440 * (d + 2)) (1440 * d + mi) E0 q = NVR ∨ so0 h (1440 * (d + 2)) (1440 * d + mi) E0 q < 400000 := fun q => so0_ok (fun r hr => dp0.up.te (by omega) (by omega) r hr) (by omega) q
  have c4' := c4
  rw [fa_le, show (0 : Int32).toInt = 0 from rfl] at c4'
  refine c_reach_loop (G := G) hS (by rw [ag8 2 (by decide)]; exact ok_S r.1) e51 hb (by omega) ?_ (nS h) 0 (by omega)
  refine s_Model_reach_0 _ _ _ _ _ _ _ (cm_isStop r (by rw [ag8 67 (by decide)]) ?_)
  simp only [decide_eq_true_eq]
  rw [if_pos c1]
  refine cm_isDay ?_
  simp only [decide_eq_true_eq]
  rw [if_pos c2]
  refine cm_in ?_
  simp only [decide_eq_true_eq]
  rw [if_pos c3, if_pos c4, ea]
  rw [ed, em, es]
  refine cm_goQ r (r.2.2.1.hi (fun k h1 h2 => ag8 k (fun z => by have := (by decide : ∀ k ∈ [42, 43, 44, 45, 46, 47, 48, 49, 50, 51, 52, 53], k < 67) k z; omega))) (by omega) (by omega) hs (fun h9 E R dp gc am er ym => ?_)
  refine cm_reach_loop (G := G) r.1 (fun v t d q => (rs_runs q).1) (by omega) (by omega) (by omega) dp dp0 gc er c4' ?_ (nS h) 0 (by omega)
  exact ⟨rfl, r.am (ag8.am.trans am)⟩
