/-! ===== ways: the reference finds a walk ===== -/
def LoB (N : HP) (ask : Nat) (Er : Nat → Nat → Nat) (f stop time : Nat) : Prop := time ≤ Er f stop ∧ ∀ w, w < nW N → tn (N 24 w) = stop → time ≤ wE N w (Er f (tn (N 23 w))) ask
theorem am3 {h : HP} {x y z : Int32} : AM [] [50, 51, 52] h (up (up (up h 67 50 x) 67 51 y) 67 52 z) := (((AM.refl _ _ _).p67 (by decide) _).p67 (by decide) _).p67 (by decide) _
theorem cm_wA {G : GA} {N h : HP} {rs : List (Nat × Nat)} {lim ask frm r f stop time ch : Nat} {E R : Nat → Nat → Nat → Nat} {isE : Bool} (c : CxW N rs lim ask frm E R) (mx : MX N h rs lim ask frm E R) (hr : r ≤ 3) (hf : f < 28) (hst : stop < 12) (htm : time < lim) (fe : Fe N ask (E r) f stop time ch) (hch : ch = if isE = true then 0 else if r = 0 then 0 else tn (N 3 stop)) (lo : isE = true → LoB N ask (E r) f stop time) {K : Int32 → HP → Prop}
    (kk : ∀ o h', LW N ask (E r) f stop time ch o → AM [] [50, 51, 52] h h' → K (o2i o) h') : P_Model_walkAhead G h (nI r) (nI f) (nI stop) isE (nI time) K := by
  have hN := c.1
  have hm := mx.1.1
  have hl := c.2.2.2.1
  have ha := c.2.2.2.2.1
  have hW := nW_le hN
  have hv := NVRe
  have hS := nS_le hN
  have hfr := c.2.2.2.2.2.2.2
  have te := c.te hr
  have w2 : h 67 2 = nI (nW N) := by rw [hm.2.1.2.2.1]; exact ok_W hN
  -- the walks one after the other
  have key : ¬ E r f stop + ch ≤ time → ∀ n w, w + n = nW N → (∀ w', w' < w → tn (N 24 w') = stop → ¬ wE N w' (E r f (tn (N 23 w'))) ask ≤ time) → H_Model_walkAhead_68 G h (nI r) (nI f) (nI stop) isE (nI time) (nI w) K := by
    intro hno n
    induction n with
    | zero =>
      intro w e inv
      exfalso
      rcases fe with z | ⟨w', z1, z2, z3⟩
      · exact hno z
      · exact inv w' (by omega) z2 z3
    | succ n ih =>
      intro w e inv
      have ih := ih (w + 1) (by omega)
      have h24 := wk_24 hN w
      have h23 := wk_23 hN w
      have hw : w < nW N := by omega
      refine s_Model_walkAhead_68 _ _ _ _ _ _ _ _ _ ?_
      rw [w2, if_neg (by rw [leI (by omega) (by omega)]; omega), tnI (by omega), hm.c 82 24, hm.c 81 23, h24.1, h23.1]
      refine ⟨in_nI (by omega) (by decide), ?_⟩
      have nxt : (tn (N 24 w) = stop → ¬ wE N w (E r f (tn (N 23 w))) ask ≤ time) → H_Model_walkAhead_68 G h (nI r) (nI f) (nI stop) isE (nI time) (nI w + 1) K := by
        intro z
        rw [nI_1]
        refine ih (fun w' a b => ?_)
        by_cases y : w' = w
        · rw [y] at b ⊢
          exact z b
        · exact inv w' (by omega) b
      by_cases c2 : nI (tn (N 24 w)) = nI stop
      rotate_left
      · rw [if_neg c2]
        exact nxt (fun z => absurd (by rw [z]) c2)
      rw [if_pos c2]
      have c2 := (eqI (by omega) (by omega)).mp c2
      have yes : wE N w (E r f (tn (N 23 w))) ask ≤ time → ∀ h', AM [] [50, 51, 52] h h' → K (nI w) h' := fun z h' am => kk (some w) h' ⟨hno, hw, c2, z, inv⟩ am
      cases r with
      | zero =>
        have e0 := (mx.2.1 0 (by omega)).1 rfl
        have hf0 : f = 0 := by
          rcases fe with z | ⟨w', z1, z2, z3⟩
          · exact absurd z hno
          · rw [e0] at z3
            rcases Nat.eq_zero_or_pos f with q | q
            · exact q
            · rw [E00_f (by omega), wE_never] at z3
              omega
        rw [if_pos (by decide), mx.1.2.2.2.1]
        by_cases c3 : nI (tn (N 23 w)) = nI frm
        rotate_left
        · rw [if_neg c3]
          refine nxt (fun _ z => ?_)
          rw [e0, E00_f (fun y => c3 (by rw [y.2])), wE_never] at z
          omega
        rw [if_pos c3, mx.1.2.1]
        have c3 := (eqI (by omega) (by omega)).mp c3
        refine cm_behind hN hm hw (by omega) (by omega) ?_
        have ee : E 0 f (tn (N 23 w)) = ask := by rw [e0, hf0]; exact E00_t c3
        have hws := wE_small hN (w := w) (time := ask) (ask := ask) (by omega) (by omega)
        rw [ee] at yes nxt
        cases isE with
        | true =>
          rw [if_pos rfl]
          have l2 := (lo rfl).2 w hw c2
          rw [ee] at l2
          by_cases c4 : nI (wE N w ask ask) = nI time
          · rw [if_pos c4]
            rw [eqI (by omega) (by omega)] at c4
            exact yes (by omega) h (AM.refl _ _ _)
          · rw [if_neg c4]
            rw [eqI (by omega) (by omega)] at c4
            exact nxt (fun _ => by omega)
        | false =>
          rw [if_neg (by decide)]
          by_cases c4 : nI time < nI (wE N w ask ask)
          · rw [if_pos c4]
            rw [ltI (by omega) (by omega)] at c4
            exact nxt (fun _ => by omega)
          · rw [if_neg c4]
            rw [ltI (by omega) (by omega)] at c4
            exact yes (by omega) h (AM.refl _ _ _)
      | succ r =>
        rw [if_neg (by rw [show (0 : Int32) = nI 0 from rfl, leI (by omega) (by omega)]; omega)]
        refine s_Model_findRide_0 _ _ _ _ _ _ _ _ _ (cm_fR (o := some w) (stop := stop) (ch := ch) c mx (by omega) hf (fun w' e' => by rw [← Option.some.inj e']; exact hw) h23.2 htm (fun e' => by cases e') (fun e' b v i j q => ?_) (fun v i j lr => ?_) (fun no => ?_) rs.length 0 (by omega) (fun v' i' j' z => by omega))
        · exact Nat.le_trans ((lo e').2 w hw c2) (Cd_fits c (by omega) (fun w' e' => by rw [← Option.some.inj e']; exact hw) q)
        · rw [if_pos rfl]
          exact yes (Cd_fits c (by omega) (fun w' e' => by rw [← Option.some.inj e']; exact hw) lr.1) _ am3
        · rw [if_neg (by decide)]
          refine nxt (fun _ z => ?_)
          obtain ⟨v, i, j, q⟩ := Cd_ex2 (o := some w) (stop := stop) (ch := ch) c (by omega) htm z
          exact no v i j q
  refine s_Model_walkAhead_0 _ _ _ _ _ _ _ _ ?_
  cases r with
  | zero =>
    have e0 := (mx.2.1 0 (by omega)).1 rfl
    have hc0 : ch = 0 := by rw [hch]; split <;> rfl
    have go : ¬ E 0 f stop + ch ≤ time → H_Model_walkAhead_44 G h (nI 0) (nI f) (nI stop) isE (nI time) K := by
      intro z
      refine s_Model_walkAhead_44 _ _ _ _ _ _ _ _ ?_
      rw [if_pos (by decide)]
      exact key z (nW N) 0 (by omega) (fun w' a => by omega)
    rw [if_pos (show nI 0 = 0 from rfl)]
    by_cases c1 : nI f = 0
    rotate_left
    · rw [if_neg c1]
      refine go (fun z => ?_)
      rw [e0, E00_f (fun y => c1 (by rw [y.1]; rfl))] at z
      omega
    rw [if_pos c1, mx.1.2.2.2.1]
    have hf0 : f = 0 := (eqI (b := 0) (by omega) (by omega)).mp c1
    by_cases c2 : nI stop = nI frm
    rotate_left
    · rw [if_neg c2]
      refine go (fun z => ?_)
      rw [e0, E00_f (fun y => c2 (by rw [y.2]))] at z
      omega
    rw [if_pos c2, mx.1.2.1]
    have ee : E 0 f stop = ask := by rw [e0, hf0]; exact E00_t ((eqI (by omega) (by omega)).mp c2)
    have yes : ask ≤ time → K (-1) h := fun z => kk none h (by show E 0 f stop + ch ≤ time; omega) (AM.refl _ _ _)
    cases isE with
    | true =>
      rw [if_pos rfl]
      have l1 := (lo rfl).1
      by_cases c3 : nI ask = nI time
      · rw [if_pos c3]
        rw [eqI (by omega) (by omega)] at c3
        exact yes (by omega)
      · rw [if_neg c3]
        rw [eqI (by omega) (by omega)] at c3
        exact go (by omega)
    | false =>
      rw [if_neg (by decide)]
      by_cases c3 : nI time < nI ask
      · rw [if_pos c3]
        rw [ltI (by omega) (by omega)] at c3
        exact go (by omega)
      · rw [if_neg c3]
        rw [ltI (by omega) (by omega)] at c3
        exact yes (by omega)
  | succ r =>
    rw [if_neg (fun z => by have := (eqI (a := r + 1) (b := 0) (by omega) (by omega)).mp z; omega)]
    refine s_Model_walkAhead_44 _ _ _ _ _ _ _ _ ?_
    rw [if_neg (by rw [show (0 : Int32) = nI 0 from rfl, leI (by omega) (by omega)]; omega)]
    refine s_Model_findRide_0 _ _ _ _ _ _ _ _ _ (cm_fR (o := none) (stop := stop) (ch := ch) c mx (by omega) hf (fun w' e' => by cases e') hst htm (fun _ => by rw [hch, if_neg (show ¬ r + 1 = 0 by omega)]; rfl) (fun e' b v i j q => ?_) (fun v i j lr => ?_) (fun no => ?_) rs.length 0 (by omega) (fun v' i' j' z => by omega))
    · have l1 := (lo e').1
      have : E (r + 1) f stop + ch ≤ b := Cd_fits c (by omega) (fun w' e' => by cases e') q
      omega
    · rw [if_pos rfl]
      exact kk none _ (Cd_fits c (by omega) (fun w' e' => by cases e') lr.1) am3
    · rw [if_neg (by decide)]
      refine key (fun z => ?_) (nW N) 0 (by omega) (fun w' a => by omega)
      obtain ⟨v, i, j, q⟩ := Cd_ex2 (o := none) (stop := stop) (ch := ch) c (by omega) htm z
      exact no v i j q
/-! ===== the reference puts the steps down, from the end backwards ===== -/
def cO (s : St) (c : Nat) : Prop := match s with
  | .inl _ => True
  | .inr _ => c ≠ 4 ∧ c ≠ 5
theorem lrw_t {N : HP} {rs : List (Nat × Nat)} {ask time time' : Nat} {s : St} {c : Nat} (h : cO s c) : lrw N rs ask time s c = lrw N rs ask time' s c := by
  cases s with
  | inl x => rfl
  | inr w =>
    obtain ⟨h4, h5⟩ := h
    unfold lrw
    dsimp only
    match c, h4, h5 with
    | 0, _, _ => rfl
    | 1, _, _ => rfl
    | 2, _, _ => rfl
    | 3, _, _ => rfl
    | 4, h, _ => exact absurd rfl h
    | 5, _, h => exact absurd rfl h
    | c + 6, _, _ => rfl
def RB (N : HP) (rs : List (Nat × Nat)) (ask : Nat) (h : HP) (B : List St) : Prop := h 67 49 = nI B.length ∧ ∀ q s, B[q]? = some s → ∀ c, c < 9 → cO s c → h 106 (9 * q + c) = lrw N rs ask 0 s c
theorem RB.app {N : HP} {rs : List (Nat × Nat)} {ask : Nat} {h h' : HP} {B : List St} {s : St} (rb : RB N rs ask h B) (e49 : h' 67 49 = nI (B.length + 1)) (old : ∀ x, x < 9 * B.length → h' 106 x = h 106 x) (new : ∀ c, c < 9 → cO s c → h' 106 (9 * B.length + c) = lrw N rs ask 0 s c) : RB N rs ask h' (B ++ [s]) := by
  refine ⟨by rw [e49, List.length_append]; rfl, fun q x hx c hc ho => ?_⟩
  rw [List.getElem?_append] at hx
  by_cases z : q < B.length
  · rw [if_pos z] at hx
    rw [old _ (by omega)]
    exact rb.2 q x hx c hc ho
  · rw [if_neg z] at hx
    have hq : q = B.length := by
      have := (List.getElem?_eq_some_iff.mp hx).1
      rw [List.length_singleton] at this
      omega
    subst hq
    rw [Nat.sub_self, List.getElem?_cons_zero] at hx
    have := Option.some.inj hx
    subst this
    exact new c hc ho
theorem upd7 (f : Nat → Int32) (b : Nat) (y0 y1 y2 y3 y6 y7 y8 : Int32) (x : Nat) : upd (upd (upd (upd (upd (upd (upd f b y0) (b + 1) y1) (b + 2) y2) (b + 3) y3) (b + 6) y6) (b + 7) y7) (b + 8) y8 x = if b ≤ x ∧ x < b + 9 ∧ x ≠ b + 4 ∧ x ≠ b + 5 then [y0, y1, y2, y3, 0, 0, y6, y7, y8].getD (x - b) 0 else f x := by
  by_cases hx : b ≤ x ∧ x < b + 9 ∧ x ≠ b + 4 ∧ x ≠ b + 5
  · rw [if_pos hx]
    obtain ⟨c, rfl⟩ : ∃ c, x = b + c := ⟨x - b, by omega⟩
    rw [Nat.add_sub_cancel_left]
    rcases (show c = 0 ∨ c = 1 ∨ c = 2 ∨ c = 3 ∨ c = 6 ∨ c = 7 ∨ c = 8 by omega) with rfl | rfl | rfl | rfl | rfl | rfl | rfl <;> simp [upd]
  · rw [if_neg hx]
    unfold upd
    rw [if_neg (by omega), if_neg (by omega), if_neg (by omega), if_neg (by omega), if_neg (by omega), if_neg (by omega), if_neg (by omega)]
theorem cm_putW {G : GA} {N h : HP} {rs : List (Nat × Nat)} {lim ask frm w : Nat} {E R : Nat → Nat → Nat → Nat} (c : CxW N rs lim ask frm E R) (mx : MX N h rs lim ask frm E R) (hw : w < nW N) {B : List St} (rb : RB N rs ask h B) (hB : B.length ≤ 6) {K : HP → Prop}
    (kk : ∀ h', AM [106] [49] h h' → RB N rs ask h' (B ++ [.inr w]) → K h') : P_Model_putWalk G h (nI w) K := by
  have hN := c.1
  have hm := mx.1.1
  have hW := nW_le hN
  refine s_Model_putWalk_0 _ _ _ _ ?_
  rw [rb.1, show (9 : Int32) * nI B.length = nI (9 * B.length) by rw [show (9 : Int32) = nI 9 from rfl, pk_mul], show nI (9 * B.length) + 1 = nI (9 * B.length + 1) from nI_add _ 1, show nI (9 * B.length) + 2 = nI (9 * B.length + 2) from nI_add _ 2, show nI (9 * B.length) + 3 = nI (9 * B.length + 3) from nI_add _ 3, show nI (9 * B.length) + 6 = nI (9 * B.length + 6) from nI_add _ 6, show nI (9 * B.length) + 7 = nI (9 * B.length + 7) from nI_add _ 7, show nI (9 * B.length) + 8 = nI (9 * B.length + 8) from nI_add _ 8]
  rw [tnI (show w < 2147483648 by omega), hm.c 84 26, hm.c 81 23, hm.c 82 24, tnI (show 9 * B.length < 2147483648 by omega), tnI (show 9 * B.length + 1 < 2147483648 by omega), tnI (show 9 * B.length + 2 < 2147483648 by omega), tnI (show 9 * B.length + 3 < 2147483648 by omega), tnI (show 9 * B.length + 6 < 2147483648 by omega), tnI (show 9 * B.length + 7 < 2147483648 by omega), tnI (show 9 * B.length + 8 < 2147483648 by omega), nI_1]
  refine ⟨in_nI (by omega) (by decide), in_nI (by omega) (by decide), ?_⟩
  rintro _ rfl
  refine ⟨in_nI (by omega) (by decide), ?_⟩
  rintro _ rfl
  refine ⟨in_nI (by omega) (by decide), ?_⟩
  rintro _ rfl
  refine ⟨in_nI (by omega) (by decide), ?_⟩
  rintro _ rfl
  refine ⟨in_nI (by omega) (by decide), ?_⟩
  rintro _ rfl
  refine ⟨in_nI (by omega) (by decide), ?_⟩
  rintro _ rfl
  refine ⟨in_nI (by omega) (by decide), ?_⟩
  intro g eg g2 eg2
  have val : ∀ x, g2 106 x = if 9 * B.length ≤ x ∧ x < 9 * B.length + 9 ∧ x ≠ 9 * B.length + 4 ∧ x ≠ 9 * B.length + 5 then [N 26 w, nI w, N 23 w, N 24 w, 0, 0, -1, -1, -1].getD (x - 9 * B.length) 0 else h 106 x := fun x => by
    rw [eg2, up_ce _ _ _ (by decide), eg]
    simp only [up_self]
    rw [upd7]
  refine kk g2 ?_ (rb.app (by rw [eg2, up_at]) (fun x hx => by rw [val x, if_neg (by omega)]) (fun c hc ho => ?_))
  · rw [eg2, eg]
    exact (((((((AM.refl _ _ _).pt (by decide) (by decide) _ _).pt (by decide) (by decide) _ _).pt (by decide) (by decide) _ _).pt (by decide) (by decide) _ _).pt (by decide) (by decide) _ _).pt (by decide) (by decide) _ _ |>.pt (by decide) (by decide) _ _).p67 (by decide) _
  · obtain ⟨h4, h5⟩ := ho
    rw [val, if_pos (by omega), Nat.add_sub_cancel_left]
    rcases (show c = 0 ∨ c = 1 ∨ c = 2 ∨ c = 3 ∨ c = 6 ∨ c = 7 ∨ c = 8 by omega) with rfl | rfl | rfl | rfl | rfl | rfl | rfl <;> rfl
theorem cm_putR {G : GA} {N h : HP} {rs : List (Nat × Nat)} {lim ask frm v t d i j : Nat} {E R : Nat → Nat → Nat → Nat} (c : CxW N rs lim ask frm E R) (mx : MX N h rs lim ask frm E R) (hv : rs[v]? = some (t, d)) (hij : i < j) (hj : j < nC N t) {B : List St} (rb : RB N rs ask h B) (hB : B.length ≤ 6) {K : HP → Prop}
    (kk : ∀ h', AM [106] [49] h h' → RB N rs ask h' (B ++ [.inl (v, i, j)]) → K h') : P_Model_putRide G h (nI v) (nI i) (nI j) K := by
  have hN := c.1
  have hm := mx.1.1
  obtain ⟨hd, ht⟩ := c.2.2.2.2.2.2.1 v t d hv
  have hT := nT_le hN
  have hC := nC_le hN t
  have hvl : v < rs.length := (List.getElem?_eq_some_iff.mp hv).1
  have hrs := c.2.2.2.2.2.1
  obtain ⟨r1, r2, r3⟩ := mx.1.2.2.2.2.2 v t d hv
  refine s_Model_putRide_0 _ _ _ _ _ _ ?_
  rw [rb.1, show (9 : Int32) * nI B.length = nI (9 * B.length) by rw [show (9 : Int32) = nI 9 from rfl, pk_mul], show nI (9 * B.length) + 1 = nI (9 * B.length + 1) from nI_add _ 1, show nI (9 * B.length) + 2 = nI (9 * B.length + 2) from nI_add _ 2, show nI (9 * B.length) + 3 = nI (9 * B.length + 3) from nI_add _ 3, show nI (9 * B.length) + 4 = nI (9 * B.length + 4) from nI_add _ 4, show nI (9 * B.length) + 5 = nI (9 * B.length + 5) from nI_add _ 5, show nI (9 * B.length) + 6 = nI (9 * B.length + 6) from nI_add _ 6, show nI (9 * B.length) + 7 = nI (9 * B.length + 7) from nI_add _ 7, show nI (9 * B.length) + 8 = nI (9 * B.length + 8) from nI_add _ 8]
  rw [tnI (show v < 2147483648 by omega), r1, r2, ix8', ix8', ix8', ix8', tnI (show t < 2147483648 by omega), tnI (show 8 * t + i < 2147483648 by omega), tnI (show 8 * t + j < 2147483648 by omega), tnI (show 8 * v + i < 2147483648 by omega), tnI (show 8 * v + j < 2147483648 by omega), (r3 i (by omega)).2, (r3 j hj).1, hm.c 72 12, hm.c 76 17, ok_sA hN, ok_sA hN, tnI (show 9 * B.length < 2147483648 by omega), tnI (show 9 * B.length + 1 < 2147483648 by omega), tnI (show 9 * B.length + 2 < 2147483648 by omega), tnI (show 9 * B.length + 3 < 2147483648 by omega), tnI (show 9 * B.length + 4 < 2147483648 by omega), tnI (show 9 * B.length + 5 < 2147483648 by omega), tnI (show 9 * B.length + 6 < 2147483648 by omega), tnI (show 9 * B.length + 7 < 2147483648 by omega), tnI (show 9 * B.length + 8 < 2147483648 by omega), nI_1]
  refine ⟨in_nI (by omega) (by decide), in_nI (by omega) (by decide), in_nI (by omega) (by decide), ?_⟩
  rintro _ rfl
  refine ⟨in_nI (by omega) (by decide), ?_⟩
  rintro _ rfl
  refine ⟨in_nI (by omega) (by decide), in_nI (by omega) (by decide), ?_⟩
  rintro _ rfl
  refine ⟨in_nI (by omega) (by decide), in_nI (by omega) (by decide), ?_⟩
  rintro _ rfl
  refine ⟨in_nI (by omega) (by decide), in_nI (by omega) (by decide), ?_⟩
  rintro _ rfl
  refine ⟨in_nI (by omega) (by decide), in_nI (by omega) (by decide), ?_⟩
  rintro _ rfl
  refine ⟨in_nI (by omega) (by decide), ?_⟩
  rintro _ rfl
  refine ⟨in_nI (by omega) (by decide), ?_⟩
  rintro _ rfl
  refine ⟨in_nI (by omega) (by decide), ?_⟩
  intro g eg g2 eg2
  have val : ∀ x, g2 106 x = if 9 * B.length ≤ x ∧ x < 9 * B.length + 9 then [N 12 t, nI t, nI (sA N t i), nI (sA N t j), nI (lT N t d i), nI (cT N t d j), nI d, nI i, nI j].getD (x - 9 * B.length) 0 else h 106 x := fun x => by
    rw [eg2, up_ce _ _ _ (by decide), eg]
    simp only [up_self]
    rw [upd9]
  refine kk g2 ?_ (rb.app (by rw [eg2, up_at]) (fun x hx => by rw [val x, if_neg (by omega)]) (fun c hc ho => ?_))
  · rw [eg2, eg]
    exact ((((((((((AM.refl _ _ _).pt (by decide) (by decide) _ _).pt (by decide) (by decide) _ _).pt (by decide) (by decide) _ _).pt (by decide) (by decide) _ _).pt (by decide) (by decide) _ _).pt (by decide) (by decide) _ _).pt (by decide) (by decide) _ _).pt (by decide) (by decide) _ _).pt (by decide) (by decide) _ _).p67 (by decide) _
  · rw [val, if_pos (by omega), Nat.add_sub_cancel_left]
    unfold lrw
    dsimp only
    rw [hv]
