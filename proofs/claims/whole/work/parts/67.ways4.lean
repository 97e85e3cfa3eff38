/-! ===== ways: the class writes a way ===== -/
def prl (wk : Nat → Option Nat) (rv ri rj : Nat → Nat) : Nat → List St
  | 0 => []
  | r + 1 => fwl wk rv ri rj r
def WS (N : HP) (rs : List (Nat × Nat)) (ask i : Nat) (h h' : HP) (S : List St) : Prop := Agr [56] h h' ∧ (∀ x, x < 63 * i → h' 56 x = h 56 x) ∧ LgS N rs ask (fun q c => h' 56 (9 * (7 * i + q) + c)) S
theorem WS.app {N : HP} {rs : List (Nat × Nat)} {ask i : Nat} {h h1 h2 : HP} {S : List St} {s : St} (w : WS N rs ask i h h1 S) (ag : Agr [56] h1 h2) (hx : ∀ x, h2 56 x = if 9 * (7 * i + S.length) ≤ x ∧ x < 9 * (7 * i + S.length) + 9 then lrw N rs ask (tm N rs ask S) s (x - 9 * (7 * i + S.length)) else h1 56 x) : WS N rs ask i h h2 (S ++ [s]) := by
  refine ⟨w.1.trans ag, fun x hx2 => ?_, w.2.2.app (fun q c hq hc => ?_) (fun c hc => ?_)⟩
  · rw [hx x, if_neg (by omega)]
    exact w.2.1 x hx2
  · show h2 56 _ = h1 56 _
    rw [hx, if_neg (by omega)]
  · show h2 56 _ = _
    rw [hx, if_pos (by omega), Nat.add_sub_cancel_left]
/-- what the class writes of a way -/
def HW (N : HP) (rs : List (Nat × Nat)) (ask i r f : Nat) (S : List St) (h' : HP) : Prop := LgS N rs ask (fun q c => h' 56 (9 * (7 * i + q) + c)) S ∧ h' 55 (5 * i) = (if S.length = 0 then nI ask else h' 56 (9 * (7 * i) + 4)) ∧ h' 55 (5 * i + 1) = nI (tm N rs ask S) ∧ h' 55 (5 * i + 2) = nI r ∧ h' 55 (5 * i + 3) = nI f ∧ h' 55 (5 * i + 4) = nI S.length
theorem c_write_133 {G : GA} {h : HP} {i r f time k : Nat} {y0 : Int32} (hi : i < 58) {K : HP → Prop}
    (kk : ∀ h', Agr [55] h h' → (∀ x, x < 5 * i → h' 55 x = h 55 x) → h' 55 (5 * i) = y0 → h' 55 (5 * i + 1) = nI time → h' 55 (5 * i + 2) = nI r → h' 55 (5 * i + 3) = nI f → h' 55 (5 * i + 4) = nI k → K h') : H_Found_write_133 G h (nI r) (nI f) (nI time) (nI k) (nI (5 * i)) y0 (nI (5 * i) + 0) K := by
  refine s_Found_write_133 _ _ _ _ _ _ _ _ _ _ ?_
  rw [show nI (5 * i) + 0 = nI (5 * i) from Int32.add_zero _, show nI (5 * i) + 1 = nI (5 * i + 1) from nI_add _ 1, show nI (5 * i) + 2 = nI (5 * i + 2) from nI_add _ 2, show nI (5 * i) + 3 = nI (5 * i + 3) from nI_add _ 3, show nI (5 * i) + 4 = nI (5 * i + 4) from nI_add _ 4, tnI (by omega), tnI (by omega), tnI (by omega), tnI (by omega), tnI (by omega)]
  refine ⟨in_nI (by omega) (by decide), ?_⟩
  rintro _ rfl
  refine ⟨in_nI (by omega) (by decide), ?_⟩
  rintro _ rfl
  refine ⟨in_nI (by omega) (by decide), ?_⟩
  rintro _ rfl
  refine ⟨in_nI (by omega) (by decide), ?_⟩
  rintro _ rfl
  refine ⟨in_nI (by omega) (by decide), ?_⟩
  rintro _ rfl
  refine kk _ (((((Agr.refl _ _).up (by decide) _ _).up (by decide) _ _).up (by decide) _ _).up (by decide) _ _ |>.up (by decide) _ _) (fun x hx => ?_) ?_ ?_ ?_ ?_ ?_
  · rw [up_sl _ _ (by omega), up_sl _ _ (by omega), up_sl _ _ (by omega), up_sl _ _ (by omega), up_sl _ _ (by omega)]
  · rw [up_sl _ _ (by omega), up_sl _ _ (by omega), up_sl _ _ (by omega), up_sl _ _ (by omega), up_at]
  · rw [up_sl _ _ (by omega), up_sl _ _ (by omega), up_sl _ _ (by omega), up_at]
  · rw [up_sl _ _ (by omega), up_sl _ _ (by omega), up_at]
  · rw [up_sl _ _ (by omega), up_at]
  · rw [up_at]
theorem tm_lt {N : HP} (hN : NetOK N) {rs : List (Nat × Nat)} (hok : ∀ (v t d : Nat), rs[v]? = some (t, d) → d < 100 ∧ t < nT N) {ask : Nat} (ha : ask < 400000) {wk : Nat → Option Nat} {rv ri rj : Nat → Nat} {r : Nat} (ok : OkT N rs wk rv ri rj r) : tm N rs ask (fwl wk rv ri rj r) < 410000 := by
  have h1 := mdl_tm hN hok ha ok
  rw [fwl_mdl]
  cases e : wk r with
  | none =>
    rw [show ow none = [] from rfl, List.append_nil]
    omega
  | some w =>
    rw [show ow (some w) = [.inr w] from rfl, tm_app]
    exact wE_small hN h1 ha
theorem c_write_12 {G : GA} {N h : HP} {rs : List (Nat × Nat)} {lim ask frm i rd f : Nat} {E R : Nat → Nat → Nat → Nat} (c : CxW N rs lim ask frm E R) (cc : CC N h rs lim ask E R) (hi : i < 58) (hrd : rd ≤ 3) {wk : Nat → Option Nat} {rv ri rj : Nat → Nat} (ok : OkT N rs wk rv ri rj rd) (c58 : ∀ k, k ≤ rd → h 58 k = o2i (wk k)) (c59 : ∀ k, 1 ≤ k → k ≤ rd → h 59 k = nI (rv k) ∧ h 60 k = nI (ri k) ∧ h 61 k = nI (rj k)) {K : HP → Prop}
    (kk : ∀ h', Agr [55, 56] h h' → (∀ x, x < 63 * i → h' 56 x = h 56 x) → (∀ x, x < 5 * i → h' 55 x = h 55 x) → HW N rs ask i rd f (fwl wk rv ri rj rd) h' → K h') :
    ∀ n r h', r + n = rd + 1 → WS N rs ask i h h' (prl wk rv ri rj r) → H_Found_write_12 G h' (nI i) (nI rd) (nI f) (nI (tm N rs ask (prl wk rv ri rj r))) (nI (prl wk rv ri rj r).length) (nI r) K
  | 0, r, h', e, ws => by
    have cc' := cc.agr ws.1
    have hln := fwl_len wk rv ri rj rd
    refine s_Found_write_12 _ _ _ _ _ _ _ _ _ ?_
    rw [if_pos (by rw [ltI (by omega) (by omega)]; omega)]
    rw [show r = rd + 1 by omega] at ws ⊢
    have ws : WS N rs ask i h h' (fwl wk rv ri rj rd) := ws
    rw [show prl wk rv ri rj (rd + 1) = fwl wk rv ri rj rd from rfl, show nI i * 5 = nI (5 * i) by rw [show (5 : Int32) = nI 5 from rfl, pk_mul, Nat.mul_comm]]
    have fin : ∀ h2, Agr [55] h' h2 → (∀ x, x < 5 * i → h2 55 x = h' 55 x) → h2 55 (5 * i) = (if (fwl wk rv ri rj rd).length = 0 then nI ask else h' 56 (9 * (7 * i) + 4)) → h2 55 (5 * i + 1) = nI (tm N rs ask (fwl wk rv ri rj rd)) → h2 55 (5 * i + 2) = nI rd → h2 55 (5 * i + 3) = nI f → h2 55 (5 * i + 4) = nI (fwl wk rv ri rj rd).length → K h2 := by
      intro h2 ag f0 f1 f2 f3 f4 f5
      have e56 := ag 56 (by decide)
      have e55 := ws.1 55 (by decide)
      refine kk h2 ((ws.1.mono (by decide)).trans (ag.mono (by decide))) (fun x hx => by rw [e56]; exact ws.2.1 x hx) (fun x hx => by rw [f0 x hx, e55]) ⟨?_, by rw [f1, e56], f2, f3, f4, f5⟩
      rw [e56]
      exact ws.2.2
    by_cases z : (fwl wk rv ri rj rd).length = 0
    · rw [if_pos (by rw [z]; rfl), cc'.2.1]
      refine c_write_133 hi (fun h2 ag f0 f1 f2 f3 f4 f5 => fin h2 ag f0 (by rw [if_pos z]; exact f1) f2 f3 f4 f5)
    · rw [if_neg (fun y => z (by have := (eqI (b := 0) (by omega) (by omega)).mp y; exact this))]
      refine s_Found_ofLeg_0 _ _ _ _ _ _ ?_
      rw [show (nI i * 7 + 0) * 9 + 4 = nI (9 * (7 * i) + 4) by rw [Int32.add_zero, show (7 : Int32) = nI 7 from rfl, show (9 : Int32) = nI 9 from rfl, show (4 : Int32) = nI 4 from rfl, pk_mul, pk_mul, nI_add, Nat.mul_comm i 7, Nat.mul_comm _ 9], tnI (by omega)]
      refine ⟨in_nI (by omega) (by decide), ?_⟩
      exact c_write_133 hi (fun h2 ag f0 f1 f2 f3 f4 f5 => fin h2 ag f0 (by rw [if_neg z]; exact f1) f2 f3 f4 f5)
  | n + 1, r, h', e, ws => by
    have hN := c.1
    have hl := c.2.2.2.1
    have ha := c.2.2.2.2.1
    have ih := c_write_12 (G := G) c cc hi hrd ok c58 c59 kk n (r + 1)
    have hW := nW_le hN
    have hrr : r ≤ rd := by omega
    have walk : ∀ h2, WS N rs ask i h h2 (mdl wk rv ri rj r) → H_Found_write_60 G h2 (nI i) (nI rd) (nI f) (nI (tm N rs ask (mdl wk rv ri rj r))) (nI (mdl wk rv ri rj r).length) (nI r) K := by
      intro h2 ws2
      have cc2 := cc.agr ws2.1
      have okr : OkT N rs wk rv ri rj r := ⟨fun k hk => ok.1 k (by omega), fun k h1 h2 => ok.2 k h1 (by omega)⟩
      have hmt := mdl_tm hN c.2.2.2.2.2.2.1 (show ask < 400000 by omega) okr
      have hln := fwl_len wk rv ri rj r
      rw [fwl_mdl, List.length_append] at hln
      have e2 : prl wk rv ri rj (r + 1) = mdl wk rv ri rj r ++ ow (wk r) := by rw [← fwl_mdl]; rfl
      refine s_Found_write_60 _ _ _ _ _ _ _ _ _ ?_
      rw [tnI (by omega), ws2.1 58 (by decide), c58 r hrr]
      refine ⟨in_nI (by omega) (by decide), ?_⟩
      rw [e2] at ih
      cases ew : wk r with
      | none =>
        rw [ew, show ow none = [] from rfl, List.append_nil] at ih
        rw [if_pos (by decide), nI_1]
        exact ih h2 (by omega) ws2
      | some w =>
        have hw := ok.1 r hrr w ew
        rw [ew, show (ow (some w)).length = 1 from rfl] at hln
        rw [ew, show ow (some w) = [.inr w] from rfl] at ih
        rw [show o2i (some w) = nI w from rfl, if_neg (nIneg (by omega)), show nI i * 7 + nI (mdl wk rv ri rj r).length = nI (7 * i + (mdl wk rv ri rj r).length) by rw [show (7 : Int32) = nI 7 from rfl, pk_mul, nI_add, Nat.mul_comm]]
        refine c_wWalk c cc2 (by omega) hw hmt (fun h3 ag3 hx3 => ?_)
        rw [nI_1, nI_1]
        have := ih h3 (by omega) (ws2.app ag3 hx3)
        rw [tm_app, List.length_append] at this
        exact this
    refine s_Found_write_12 _ _ _ _ _ _ _ _ _ ?_
    rw [if_neg (by rw [ltI (by omega) (by omega)]; omega)]
    cases r with
    | zero =>
      rw [if_pos (by decide)]
      exact walk h' ws
    | succ r =>
      have cc' := cc.agr ws.1
      have hln := fwl_len wk rv ri rj r
      rw [if_neg (by rw [show (0 : Int32) = nI 0 from rfl, leI (by omega) (by omega)]; omega), tnI (by omega), ws.1 59 (by decide), ws.1 60 (by decide), ws.1 61 (by decide)]
      obtain ⟨d1, d2, d3⟩ := c59 (r + 1) (by omega) hrr
      obtain ⟨t, d, k1, k2, k3⟩ := ok.2 (r + 1) (by omega) hrr
      rw [d1, d2, d3, show nI i * 7 + nI (prl wk rv ri rj (r + 1)).length = nI (7 * i + (fwl wk rv ri rj r).length) by rw [show (7 : Int32) = nI 7 from rfl, pk_mul, nI_add, Nat.mul_comm]; rfl]
      refine ⟨in_nI (by omega) (by decide), ?_⟩
      refine c_wRide c cc' (by omega) k1 k2 k3 (fun h2 time ag2 hx2 => ?_)
      have wsn : WS N rs ask i h h2 (fwl wk rv ri rj r ++ [rdS rv ri rj (r + 1)]) := WS.app (h1 := h') ws ag2 hx2
      have := walk h2 wsn
      rw [mdl, tm_app, List.length_append] at this
      have et : sT N rs ask (tm N rs ask (fwl wk rv ri rj r)) (rdS rv ri rj (r + 1)) = cT N t d (rj (r + 1)) := by
        unfold sT rdS
        dsimp only
        rw [k1]
      rw [et] at this
      rw [nI_1]
      exact this
theorem c_write {G : GA} {N h : HP} {rs : List (Nat × Nat)} {lim ask frm i rd f : Nat} {E R : Nat → Nat → Nat → Nat} (c : CxW N rs lim ask frm E R) (cc : CC N h rs lim ask E R) (hi : i < 58) (hrd : rd ≤ 3) {wk : Nat → Option Nat} {rv ri rj : Nat → Nat} (ok : OkT N rs wk rv ri rj rd) (c58 : ∀ k, k ≤ rd → h 58 k = o2i (wk k)) (c59 : ∀ k, 1 ≤ k → k ≤ rd → h 59 k = nI (rv k) ∧ h 60 k = nI (ri k) ∧ h 61 k = nI (rj k)) {K : HP → Prop}
    (kk : ∀ h', Agr [55, 56] h h' → (∀ x, x < 63 * i → h' 56 x = h 56 x) → (∀ x, x < 5 * i → h' 55 x = h 55 x) → HW N rs ask i rd f (fwl wk rv ri rj rd) h' → K h') : P_Found_write G h (nI i) (nI rd) (nI f) K := by
  refine s_Found_write_0 _ _ _ _ _ _ ?_
  rw [cc.2.1]
  exact c_write_12 c cc hi hrd ok c58 c59 kk (rd + 1) 0 h (by omega) ⟨Agr.refl _ _, fun _ _ => rfl, fun q s hq => by rw [prl, List.getElem?_nil] at hq; cases hq⟩
