/-! ===== ways: the class traces a way ===== -/
theorem c_trace {G : GA} {N : HP} {rs : List (Nat × Nat)} {lim ask frm : Nat} {E R : Nat → Nat → Nat → Nat} (c : CxW N rs lim ask frm E R) {K : HP → Prop} : ∀ r f stop by' ch h, CC N h rs lim ask E R → r ≤ 3 → f < 1000 → stop < 12 → by' < lim → ch < 1000000 → Fe N ask (E r) f stop by' ch →
    (∀ h' wk rv ri rj, Agr [58, 59, 60, 61] h h' → (∀ k, r < k → h' 58 k = h 58 k ∧ h' 59 k = h 59 k ∧ h' 60 k = h 60 k ∧ h' 61 k = h 61 k) → TR N rs lim ask E R wk rv ri rj r f stop by' ch → (∀ k, k ≤ r → h' 58 k = o2i (wk k)) → (∀ k, 1 ≤ k → k ≤ r → h' 59 k = nI (rv k) ∧ h' 60 k = nI (ri k) ∧ h' 61 k = nI (rj k)) → K h') →
    H_Found_trace_16 G h (nI stop) (nI by') (nI ch) (nI f) (nI r) K
  | 0, f, stop, by', ch, h, cc, hr, hf, hst, hby, hch, fe, kk => by
    refine s_Found_trace_16 _ _ _ _ _ _ _ _ ?_
    rw [if_neg (nIneg (by omega))]
    refine c_lW c cc hr hf hst hby hch fe (fun o lw => ?_)
    rw [tnI (by omega)]
    refine ⟨in_nI (by omega) (by decide), ?_⟩
    intro g eg
    rw [if_pos (by decide)]
    refine s_Found_trace_16 _ _ _ _ _ _ _ _ ?_
    rw [if_pos (by decide)]
    refine kk g (fun _ => o) (fun _ => 0) (fun _ => 0) (fun _ => 0) (by rw [eg]; exact (Agr.refl _ _).up (by decide) _ _) (fun k hk => ?_) lw (fun k hk => ?_) (fun k h1 h2 => by omega)
    · rw [eg, up_sl _ _ (by omega), up_ce _ _ _ (by decide), up_ce _ _ _ (by decide), up_ce _ _ _ (by decide)]
      exact ⟨rfl, rfl, rfl, rfl⟩
    · rw [eg, show k = 0 by omega, up_at]
  | r + 1, f, stop, by', ch, h, cc, hr, hf, hst, hby, hch, fe, kk => by
    have hN := c.1
    have hl := c.2.2.2.1
    have hrs := c.2.2.2.2.2.1
    have hT := nT_le hN
    refine s_Found_trace_16 _ _ _ _ _ _ _ _ ?_
    rw [if_neg (nIneg (by omega))]
    refine c_lW c cc hr hf hst hby hch fe (fun o lw => ?_)
    rw [tnI (by omega)]
    refine ⟨in_nI (by omega) (by decide), ?_⟩
    intro g eg
    rw [if_neg (by rw [show (0 : Int32) = nI 0 from rfl, leI (by omega) (by omega)]; omega)]
    have ccg : CC N g rs lim ask E R := cc.agr (S := [58]) (by rw [eg]; exact (Agr.refl _ _).up (by decide) _ _)
    have ho : ∀ w, o = some w → w < nW N := fun w e => by rw [e] at lw; exact lw.2.1
    rw [show g 58 (r + 1) = o2i o by rw [eg, up_at]]
    refine s_Found_leastRide_0 _ _ _ _ _ _ _ _ _ (c_lR c ccg (by omega) hf ho hst hby hch (Cd_ex c (by omega) hby lw) (fun v i j lr => ?_) rs.length 0 (by omega) (fun v' i' j' z => by omega))
    obtain ⟨t, d, w, w2, w3, w4, w5⟩ := lr.1
    obtain ⟨hd, ht⟩ := c.2.2.2.2.2.2.1 v t d w.1
    have hvl : v < rs.length := (List.getElem?_eq_some_iff.mp w.1).1
    have hC := nC_le hN t
    have hij := w.2.1
    have hjC := w.2.2.1
    generalize e5 : (up (up (up g 59 (r + 1) (nI v)) 60 (r + 1) (nI i)) 61 (r + 1) (nI j)) = h5
    have ag5 : Agr [58, 59, 60, 61] h h5 := by
      rw [← e5, eg]
      exact ((((Agr.refl _ _).up (by decide) _ _).up (by decide) _ _).up (by decide) _ _).up (by decide) _ _
    have cc5 : CC N h5 rs lim ask E R := cc.agr ag5
    have v59 : h5 59 (r + 1) = nI v := by rw [← e5, up_ce _ _ _ (by decide), up_ce _ _ _ (by decide), up_at]
    have v60 : h5 60 (r + 1) = nI i := by rw [← e5, up_ce _ _ _ (by decide), up_at]
    have v61 : h5 61 (r + 1) = nI j := by rw [← e5, up_at]
    have v58 : h5 58 (r + 1) = o2i o := by rw [← e5, up_ce _ _ _ (by decide), up_ce _ _ _ (by decide), up_ce _ _ _ (by decide), eg, up_at]
    obtain ⟨r1, r2, r3, r4⟩ := cc5.1.2.2.2.2.2 v t d w.1
    have s1 := sA_lt hN t i
    have s2 := sA_lt hN t j
    have hp := pz_le hN (sA N t i) (sA N t j)
    have hlt := lT_lim hN w
    rw [v59, v60, v61, tnI (show v < 2147483648 by omega), r1, ix8, ix8, tnI (by omega), tnI (by omega), cc5.1.1.c 17, ok_sA hN, ok_sA hN]
    refine ⟨in_nI (by omega) (by decide), in_nI (by omega) (by decide), ?_⟩
    intro v8 e8
    subst e8
    refine ⟨in_nI (by omega) (by decide), ?_⟩
    intro v10 e10
    subst e10
    refine c_price hN cc5.1.1 s1 s2 ?_
    rw [v59, v60, ix8, tnI (by omega), (r4 i (by omega)).2]
    refine ⟨in_nI (by omega) (by decide), ?_⟩
    intro v14 e14
    subst e14
    have hch := ok_ch hN (sA N t i)
    have nxt : H_Found_trace_16 G h5 (nI (sA N t i)) (nI (lT N t d i)) (nI (if r = 0 then 0 else tn (N 3 (sA N t i)))) (nI (f - pz N (sA N t i) (sA N t j))) (nI r) K := by
      refine c_trace c r _ _ _ _ h5 cc5 (by omega) (by omega) s1 hlt (by split <;> omega) (Fe_next c (by omega) hlt w4) (fun h' wk rv ri rj ag keep tr c58 c59 => ?_)
      refine kk h' (fun k => if k = r + 1 then o else wk k) (fun k => if k = r + 1 then v else rv k) (fun k => if k = r + 1 then i else ri k) (fun k => if k = r + 1 then j else rj k) (ag5.trans ag) (fun k hk => ?_) ?_ (fun k hk => ?_) (fun k h1 h2 => ?_)
      · obtain ⟨k1, k2, k3, k4⟩ := keep k (by omega)
        rw [k1, k2, k3, k4, ← e5, eg]
        have nk : ¬ k = r + 1 := by omega
        refine ⟨?_, ?_, ?_, ?_⟩ <;> simp [up_app, nk]
      · unfold TR
        rw [if_pos rfl, if_pos rfl, if_pos rfl, if_pos rfl]
        refine ⟨lw, lr, t, d, w.1, tr.cong (fun k hk => by rw [if_neg (by omega)]) (fun k h1 h2 => by rw [if_neg (by omega), if_neg (by omega), if_neg (by omega)]; exact ⟨rfl, rfl, rfl⟩)⟩
      · by_cases z : k = r + 1
        · rw [if_pos z, z, (keep (r + 1) (by omega)).1, v58]
        · rw [if_neg z]
          exact c58 k (by omega)
      · by_cases z : k = r + 1
        · obtain ⟨k1, k2, k3, k4⟩ := keep (r + 1) (by omega)
          rw [if_pos z, if_pos z, if_pos z, z, k2, k3, k4, v59, v60, v61]
          exact ⟨rfl, rfl, rfl⟩
        · rw [if_neg z, if_neg z, if_neg z]
          exact c59 k h1 (by omega)
    rw [pk_sub w3, show nI (r + 1) + (-1) = nI r by have := sub1 r; rw [Int32.sub_eq_add_neg] at this; exact this]
    by_cases z : r = 0
    · rw [if_pos z] at nxt
      rw [if_pos (by rw [z]; decide)]
      exact nxt
    · rw [if_neg z] at nxt
      rw [if_neg (by rw [show (1 : Int32) = nI 1 from rfl, leI (by omega) (by omega)]; omega), tnI (by omega), cc5.1.1.c 3, hch.1]
      exact ⟨in_nI s1 (by decide), nxt⟩
/-! ===== the legs of a way, in their order ===== -/
abbrev St := (Nat × Nat × Nat) ⊕ Nat
def sT (N : HP) (rs : List (Nat × Nat)) (ask time : Nat) (s : St) : Nat := match s with
  | .inl (v, _, j) => (match rs[v]? with
    | some (t, d) => cT N t d j
    | none => 0)
  | .inr w => wE N w time ask
def tm (N : HP) (rs : List (Nat × Nat)) (ask : Nat) (S : List St) : Nat := S.foldl (sT N rs ask) ask
def lrw (N : HP) (rs : List (Nat × Nat)) (ask time : Nat) (s : St) (c : Nat) : Int32 := match s with
  | .inl (v, i, j) => (match rs[v]? with
    | some (t, d) => [N 12 t, nI t, nI (sA N t i), nI (sA N t j), nI (lT N t d i), nI (cT N t d j), nI d, nI i, nI j].getD c 0
    | none => 0)
  | .inr w => [N 26 w, nI w, N 23 w, N 24 w, nI (wB N w time ask), nI (wE N w time ask), -1, -1, -1].getD c 0
theorem tm_app (N : HP) (rs : List (Nat × Nat)) (ask : Nat) (S : List St) (s : St) : tm N rs ask (S ++ [s]) = sT N rs ask (tm N rs ask S) s := by
  unfold tm
  rw [List.foldl_append]
  rfl
def LgS (N : HP) (rs : List (Nat × Nat)) (ask : Nat) (g : Nat → Nat → Int32) (S : List St) : Prop := ∀ q s, S[q]? = some s → ∀ c, c < 9 → g q c = lrw N rs ask (tm N rs ask (S.take q)) s c
theorem LgS.app {N : HP} {rs : List (Nat × Nat)} {ask : Nat} {g g' : Nat → Nat → Int32} {S : List St} {s : St} (h : LgS N rs ask g S) (e : ∀ q c, q < S.length → c < 9 → g' q c = g q c) (n : ∀ c, c < 9 → g' S.length c = lrw N rs ask (tm N rs ask S) s c) : LgS N rs ask g' (S ++ [s]) := by
  intro q x hx c hc
  rw [List.getElem?_append] at hx
  by_cases z : q < S.length
  · rw [if_pos z] at hx
    rw [e q c z hc, h q x hx c hc, List.take_append_of_le_length (by omega)]
  · rw [if_neg z] at hx
    have hq : q = S.length := by
      have := (List.getElem?_eq_some_iff.mp hx).1
      rw [List.length_singleton] at this
      omega
    subst hq
    rw [Nat.sub_self, List.getElem?_cons_zero] at hx
    rw [n c hc, Option.some.inj hx, List.take_append_of_le_length (Nat.le_refl _), List.take_length]
def ow (o : Option Nat) : List St := match o with
  | none => []
  | some w => [.inr w]
def rdS (rv ri rj : Nat → Nat) (r : Nat) : St := .inl (rv r, ri r, rj r)
def fwl (wk : Nat → Option Nat) (rv ri rj : Nat → Nat) : Nat → List St
  | 0 => ow (wk 0)
  | r + 1 => (fwl wk rv ri rj r ++ [rdS rv ri rj (r + 1)]) ++ ow (wk (r + 1))
def mdl (wk : Nat → Option Nat) (rv ri rj : Nat → Nat) : Nat → List St
  | 0 => []
  | r + 1 => fwl wk rv ri rj r ++ [rdS rv ri rj (r + 1)]
theorem fwl_mdl (wk : Nat → Option Nat) (rv ri rj : Nat → Nat) : ∀ r, fwl wk rv ri rj r = mdl wk rv ri rj r ++ ow (wk r)
  | 0 => rfl
  | r + 1 => rfl
theorem ow_len (o : Option Nat) : (ow o).length ≤ 1 := by
  cases o
  · exact Nat.zero_le _
  · exact Nat.le_refl _
theorem fwl_len (wk : Nat → Option Nat) (rv ri rj : Nat → Nat) : ∀ r, (fwl wk rv ri rj r).length ≤ 2 * r + 1
  | 0 => ow_len _
  | r + 1 => by
    have h1 := fwl_len wk rv ri rj r
    have h2 := ow_len (wk (r + 1))
    rw [fwl, List.length_append, List.length_append, List.length_singleton]
    omega
/-- the steps are such that they can be written -/
def OkT (N : HP) (rs : List (Nat × Nat)) (wk : Nat → Option Nat) (rv ri rj : Nat → Nat) (r : Nat) : Prop := (∀ k, k ≤ r → ∀ w, wk k = some w → w < nW N) ∧ ∀ k, 1 ≤ k → k ≤ r → ∃ t d, rs[rv k]? = some (t, d) ∧ ri k < rj k ∧ rj k < nC N t
theorem TR.ok {N : HP} {rs : List (Nat × Nat)} {lim ask : Nat} {E R : Nat → Nat → Nat → Nat} {wk : Nat → Option Nat} {rv ri rj : Nat → Nat} : ∀ {r f stop by' ch : Nat}, TR N rs lim ask E R wk rv ri rj r f stop by' ch → OkT N rs wk rv ri rj r
  | 0, f, stop, by', ch, h => by
    unfold TR at h
    refine ⟨fun k hk w e => ?_, fun k h1 h2 => by omega⟩
    rw [show k = 0 by omega] at e
    rw [e] at h
    exact h.2.1
  | r + 1, f, stop, by', ch, h => by
    unfold TR at h
    obtain ⟨a1, a2, t, d, a3, a4⟩ := h
    have ih := a4.ok
    refine ⟨fun k hk w e => ?_, fun k h1 h2 => ?_⟩
    · by_cases z : k = r + 1
      · rw [z] at e
        rw [e] at a1
        exact a1.2.1
      · exact ih.1 k (by omega) w e
    · by_cases z : k = r + 1
      · rw [z]
        obtain ⟨t', d', w, _⟩ := a2.1
        exact ⟨t', d', w.1, w.2.1, w.2.2.1⟩
      · exact ih.2 k h1 (by omega)
theorem mdl_tm {N : HP} (hN : NetOK N) {rs : List (Nat × Nat)} (hok : ∀ (v t d : Nat), rs[v]? = some (t, d) → d < 100 ∧ t < nT N) {ask : Nat} (ha : ask < 400000) {wk : Nat → Option Nat} {rv ri rj : Nat → Nat} {r : Nat} (ok : OkT N rs wk rv ri rj r) : tm N rs ask (mdl wk rv ri rj r) < 400000 := by
  cases r with
  | zero => exact ha
  | succ r =>
    obtain ⟨t, d, h1, _, _⟩ := ok.2 (r + 1) (by omega) (by omega)
    rw [mdl, tm_app]
    unfold sT rdS
    dsimp only
    rw [h1]
    dsimp only
    have := cT_le hN (hok _ t d h1).1 t (rj (r + 1))
    omega
theorem upd9 (f : Nat → Int32) (b : Nat) (y0 y1 y2 y3 y4 y5 y6 y7 y8 : Int32) (x : Nat) : upd (upd (upd (upd (upd (upd (upd (upd (upd f b y0) (b + 1) y1) (b + 2) y2) (b + 3) y3) (b + 4) y4) (b + 5) y5) (b + 6) y6) (b + 7) y7) (b + 8) y8 x = if b ≤ x ∧ x < b + 9 then [y0, y1, y2, y3, y4, y5, y6, y7, y8].getD (x - b) 0 else f x := by
  by_cases hx : b ≤ x ∧ x < b + 9
  · rw [if_pos hx]
    obtain ⟨c, rfl⟩ : ∃ c, x = b + c := ⟨x - b, by omega⟩
    rw [Nat.add_sub_cancel_left]
    rcases (show c = 0 ∨ c = 1 ∨ c = 2 ∨ c = 3 ∨ c = 4 ∨ c = 5 ∨ c = 6 ∨ c = 7 ∨ c = 8 by omega) with rfl | rfl | rfl | rfl | rfl | rfl | rfl | rfl | rfl <;> simp [upd]
  · rw [if_neg hx]
    unfold upd
    rw [if_neg (by omega), if_neg (by omega), if_neg (by omega), if_neg (by omega), if_neg (by omega), if_neg (by omega), if_neg (by omega), if_neg (by omega), if_neg (by omega)]
theorem c_wRide {G : GA} {N h : HP} {rs : List (Nat × Nat)} {lim ask frm leg v t d i j : Nat} {E R : Nat → Nat → Nat → Nat} (c : CxW N rs lim ask frm E R) (cc : CC N h rs lim ask E R) (hleg : leg < 406) (hv : rs[v]? = some (t, d)) (hij : i < j) (hj : j < nC N t) {K : Int32 → HP → Prop}
    (kk : ∀ h' time, Agr [56] h h' → (∀ x, h' 56 x = if 9 * leg ≤ x ∧ x < 9 * leg + 9 then lrw N rs ask time (.inl (v, i, j)) (x - 9 * leg) else h 56 x) → K (nI (cT N t d j)) h') : P_Found_writeRide G h (nI leg) (nI v) (nI i) (nI j) K := by
  have hN := c.1
  have hon := cc.1.1
  obtain ⟨hd, ht⟩ := c.2.2.2.2.2.2.1 v t d hv
  have hT := nT_le hN
  have hC := nC_le hN t
  have hvl : v < rs.length := (List.getElem?_eq_some_iff.mp hv).1
  have hrs := c.2.2.2.2.2.1
  obtain ⟨r1, r2, r3, r4⟩ := cc.1.2.2.2.2.2 v t d hv
  refine s_Found_writeRide_0 _ _ _ _ _ _ _ ?_
  have e9 : ∀ c : Nat, nI leg * 9 + nI c = nI (9 * leg + c) := fun c => by rw [show (9 : Int32) = nI 9 from rfl, pk_mul, nI_add, Nat.mul_comm]
  rw [show nI leg * 9 + 0 = nI (9 * leg) from e9 0, show nI leg * 9 + 1 = nI (9 * leg + 1) from e9 1, show nI leg * 9 + 2 = nI (9 * leg + 2) from e9 2, show nI leg * 9 + 3 = nI (9 * leg + 3) from e9 3, show nI leg * 9 + 4 = nI (9 * leg + 4) from e9 4, show nI leg * 9 + 5 = nI (9 * leg + 5) from e9 5, show nI leg * 9 + 6 = nI (9 * leg + 6) from e9 6, show nI leg * 9 + 7 = nI (9 * leg + 7) from e9 7, show nI leg * 9 + 8 = nI (9 * leg + 8) from e9 8]
  rw [tnI (show v < 2147483648 by omega), r1, r2, ix8, ix8, ix8, ix8, tnI (show t < 2147483648 by omega), tnI (show 8 * t + i < 2147483648 by omega), tnI (show 8 * t + j < 2147483648 by omega), tnI (show 8 * v + i < 2147483648 by omega), tnI (show 8 * v + j < 2147483648 by omega), (r4 i (by omega)).2, (r4 j hj).1, hon.c 12, hon.c 17, ok_sA hN, ok_sA hN, tnI (show 9 * leg < 2147483648 by omega), tnI (show 9 * leg + 1 < 2147483648 by omega), tnI (show 9 * leg + 2 < 2147483648 by omega), tnI (show 9 * leg + 3 < 2147483648 by omega), tnI (show 9 * leg + 4 < 2147483648 by omega), tnI (show 9 * leg + 5 < 2147483648 by omega), tnI (show 9 * leg + 6 < 2147483648 by omega), tnI (show 9 * leg + 7 < 2147483648 by omega), tnI (show 9 * leg + 8 < 2147483648 by omega)]
  refine ⟨in_nI (by omega) (by decide), in_nI (by omega) (by decide), in_nI (by omega) (by decide), ?_⟩
  rintro _ rfl
  refine ⟨in_nI (by omega) (by decide), ?_⟩
  rintro _ rfl
  refine ⟨in_nI (by omega) (by decide), in_nI (by omega) (by decide), ?_⟩
  rintro _ rfl
  refine ⟨in_nI (by omega) (by decide), in_nI (by omega) (by decide), ?_⟩
  rintro _ rfl
  refine ⟨in_nI (by omega) (by decide), in_nI (by omega) (by decide), ?_⟩
  rintro _ rfl
  refine ⟨in_nI (by omega) (by decide), in_nI (by omega) (by decide), ?_⟩
  rintro _ rfl
  refine ⟨in_nI (by omega) (by decide), ?_⟩
  rintro _ rfl
  refine ⟨in_nI (by omega) (by decide), ?_⟩
  rintro _ rfl
  refine ⟨in_nI (by omega) (by decide), ?_⟩
  intro g eg
  have val : ∀ x, g 56 x = if 9 * leg ≤ x ∧ x < 9 * leg + 9 then [N 12 t, nI t, nI (sA N t i), nI (sA N t j), nI (lT N t d i), nI (cT N t d j), nI d, nI i, nI j].getD (x - 9 * leg) 0 else h 56 x := fun x => by
    rw [eg]
    simp only [up_self]
    rw [upd9]
  have w5 : g 56 (9 * leg + 5) = nI (cT N t d j) := by
    rw [val, if_pos (by omega), Nat.add_sub_cancel_left]
    rfl
  rw [w5]
  refine kk g 0 (by rw [eg]; exact (((((((((Agr.refl _ _).up (by decide) _ _).up (by decide) _ _).up (by decide) _ _).up (by decide) _ _).up (by decide) _ _).up (by decide) _ _).up (by decide) _ _).up (by decide) _ _).up (by decide) _ _) (fun x => ?_)
  rw [val x]
  unfold lrw
  dsimp only
  rw [hv]
theorem c_wWalk {G : GA} {N h : HP} {rs : List (Nat × Nat)} {lim ask frm leg w time : Nat} {E R : Nat → Nat → Nat → Nat} (c : CxW N rs lim ask frm E R) (cc : CC N h rs lim ask E R) (hleg : leg < 406) (hw : w < nW N) (htm : time < 400000) {K : Int32 → HP → Prop}
    (kk : ∀ h', Agr [56] h h' → (∀ x, h' 56 x = if 9 * leg ≤ x ∧ x < 9 * leg + 9 then lrw N rs ask time (.inr w) (x - 9 * leg) else h 56 x) → K (nI (wE N w time ask)) h') : P_Found_writeWalk G h (nI leg) (nI w) (nI time) K := by
  have hN := c.1
  have hon := cc.1.1
  have hW := nW_le hN
  have hl := c.2.2.2.1
  have ha := c.2.2.2.2.1
  refine s_Found_writeWalk_0 _ _ _ _ _ _ ?_
  have e9 : ∀ c : Nat, nI leg * 9 + nI c = nI (9 * leg + c) := fun c => by rw [show (9 : Int32) = nI 9 from rfl, pk_mul, nI_add, Nat.mul_comm]
  rw [show nI leg * 9 + 0 = nI (9 * leg) from e9 0, show nI leg * 9 + 1 = nI (9 * leg + 1) from e9 1, show nI leg * 9 + 2 = nI (9 * leg + 2) from e9 2, show nI leg * 9 + 3 = nI (9 * leg + 3) from e9 3, show nI leg * 9 + 4 = nI (9 * leg + 4) from e9 4, show nI leg * 9 + 5 = nI (9 * leg + 5) from e9 5, show nI leg * 9 + 6 = nI (9 * leg + 6) from e9 6, show nI leg * 9 + 7 = nI (9 * leg + 7) from e9 7, show nI leg * 9 + 8 = nI (9 * leg + 8) from e9 8]
  rw [tnI (show w < 2147483648 by omega), hon.c 26, hon.c 23, hon.c 24, cc.2.1, tnI (show 9 * leg < 2147483648 by omega), tnI (show 9 * leg + 1 < 2147483648 by omega), tnI (show 9 * leg + 2 < 2147483648 by omega), tnI (show 9 * leg + 3 < 2147483648 by omega), tnI (show 9 * leg + 4 < 2147483648 by omega), tnI (show 9 * leg + 5 < 2147483648 by omega), tnI (show 9 * leg + 6 < 2147483648 by omega), tnI (show 9 * leg + 7 < 2147483648 by omega), tnI (show 9 * leg + 8 < 2147483648 by omega)]
  refine ⟨in_nI (by omega) (by decide), in_nI (by omega) (by decide), ?_⟩
  rintro _ rfl
  refine ⟨in_nI (by omega) (by decide), ?_⟩
  rintro _ rfl
  refine ⟨in_nI (by omega) (by decide), ?_⟩
  rintro _ rfl
  refine ⟨in_nI (by omega) (by decide), ?_⟩
  intro g eg
  have agg : Agr [56] h g := by rw [eg]; exact ((((Agr.refl _ _).up (by decide) _ _).up (by decide) _ _).up (by decide) _ _).up (by decide) _ _
  have ccg := cc.agr agg
  refine c_beginsAt hN ccg.1.1 hw (by omega) (by omega) ⟨in_nI (by omega) (by decide), ?_⟩
  intro g2 eg2
  have agg2 : Agr [56] h g2 := by rw [eg2]; exact agg.up (by decide) _ _
  have ccg2 := cc.agr agg2
  rw [ccg.2.1]
  refine c_endsAt hN ccg2.1.1 hw (Or.inl (by omega)) (by omega) ⟨in_nI (by omega) (by decide), ?_⟩
  rintro _ rfl
  refine ⟨in_nI (by omega) (by decide), ?_⟩
  rintro _ rfl
  refine ⟨in_nI (by omega) (by decide), ?_⟩
  rintro _ rfl
  refine ⟨in_nI (by omega) (by decide), ?_⟩
  intro g3 eg3
  have val : ∀ x, g3 56 x = if 9 * leg ≤ x ∧ x < 9 * leg + 9 then [N 26 w, nI w, N 23 w, N 24 w, nI (wB N w time ask), nI (wE N w time ask), -1, -1, -1].getD (x - 9 * leg) 0 else h 56 x := fun x => by
    rw [eg3, eg2, eg]
    simp only [up_self]
    rw [upd9]
  have w5 : g3 56 (9 * leg + 5) = nI (wE N w time ask) := by
    rw [val, if_pos (by omega), Nat.add_sub_cancel_left]
    rfl
  rw [w5]
  refine kk g3 (by rw [eg3]; exact (((agg2.up (by decide) _ _).up (by decide) _ _).up (by decide) _ _).up (by decide) _ _) (fun x => ?_)
  rw [val x]
  rfl
