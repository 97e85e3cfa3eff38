/-! ===== ways: the reference finds a way ===== -/
theorem fwl_cong {wk wk' : Nat → Option Nat} {rv ri rj rv' ri' rj' : Nat → Nat} : ∀ {r : Nat}, (∀ k, k ≤ r → wk k = wk' k) → (∀ k, 1 ≤ k → k ≤ r → rv k = rv' k ∧ ri k = ri' k ∧ rj k = rj' k) → fwl wk rv ri rj r = fwl wk' rv' ri' rj' r
  | 0, h1, _ => by
    unfold fwl
    rw [h1 0 (Nat.le_refl _)]
  | r + 1, h1, h2 => by
    have ih := fwl_cong (r := r) (fun k hk => h1 k (by omega)) (fun k a b => h2 k a (by omega))
    obtain ⟨e1, e2, e3⟩ := h2 (r + 1) (by omega) (Nat.le_refl _)
    unfold fwl rdS
    rw [ih, h1 (r + 1) (Nat.le_refl _), e1, e2, e3]
theorem ow_rev (o : Option Nat) : (ow o).reverse = ow o := by
  cases o <;> rfl
theorem rev_fwl (wk : Nat → Option Nat) (rv ri rj : Nat → Nat) (r : Nat) : (fwl wk rv ri rj (r + 1)).reverse = ow (wk (r + 1)) ++ ([rdS rv ri rj (r + 1)] ++ (fwl wk rv ri rj r).reverse) := by
  rw [fwl, List.reverse_append, List.reverse_append, ow_rev]
  rfl
theorem cm_fw {G : GA} {N : HP} {rs : List (Nat × Nat)} {lim ask frm : Nat} {E R : Nat → Nat → Nat → Nat} (c : CxW N rs lim ask frm E R) {K : HP → Prop} : ∀ r f stop time ch h isE B, MX N h rs lim ask frm E R → r ≤ 3 → f < 28 → stop < 12 → time < lim → Fe N ask (E r) f stop time ch → (ch = if isE = true then 0 else if r = 0 then 0 else tn (N 3 stop)) → (isE = true → LoB N ask (E r) f stop time) → RB N rs ask h B → B.length + 2 * r + 1 ≤ 7 →
    (∀ h' wk rv ri rj, AM [106] [49, 50, 51, 52] h h' → TR N rs lim ask E R wk rv ri rj r f stop time ch → RB N rs ask h' (B ++ (fwl wk rv ri rj r).reverse) → K h') → H_Model_findWay_24 G h (nI r) (nI f) (nI stop) (nI time) isE true K
  | r, f, stop, time, ch, h, isE, B, mx, hr, hf, hst, htm, fe, hch, lo, rb, hB, kk => by
    have hN := c.1
    have hl := c.2.2.2.1
    have hW := nW_le hN
    have hrs := c.2.2.2.2.2.1
    have hT := nT_le hN
    refine s_Model_findWay_24 _ _ _ _ _ _ _ _ _ ?_
    rw [if_pos rfl]
    refine cm_wA c mx hr hf hst htm fe hch lo (fun o h1 lw am1 => ?_)
    have mx1 : MX N h1 rs lim ask frm E R := mx.am am1
    have rb1 : RB N rs ask h1 B := ⟨by rw [am1.2 49 (by decide)]; exact rb.1, by rw [am1.1 106 (by decide) (by decide)]; exact rb.2⟩
    have ho : ∀ w, o = some w → w < nW N ∧ tn (N 24 w) = stop := fun w e => by rw [e] at lw; exact ⟨lw.2.1, lw.2.2.1⟩
    have go : ∀ h3, AM [106] [49, 50, 51, 52] h h3 → RB N rs ask h3 (B ++ ow o) → H_Model_findWay_56 G h3 (nI r) (nI f) (nI stop) (nI time) isE (o2i o) K := by
      intro h3 am3' rb3
      have mx3 : MX N h3 rs lim ask frm E R := mx.am am3'
      refine s_Model_findWay_56 _ _ _ _ _ _ _ _ _ ?_
      cases r with
      | zero =>
        rw [if_pos (by decide)]
        refine s_Model_findWay_66 _ _ _ _ _ _ _ _ _ _ ?_
        rw [if_neg (by decide)]
        refine s_Model_findWay_24 _ _ _ _ _ _ _ _ _ ?_
        rw [if_neg (by decide)]
        refine kk h3 (fun _ => o) (fun _ => 0) (fun _ => 0) (fun _ => 0) am3' lw ?_
        rw [show fwl (fun _ => o) (fun _ => 0) (fun _ => 0) (fun _ => 0) 0 = ow o from rfl, ow_rev]
        exact rb3
      | succ r =>
        rw [if_neg (by rw [show (0 : Int32) = nI 0 from rfl, leI (by omega) (by omega)]; omega)]
        refine s_Model_findWay_66 _ _ _ _ _ _ _ _ _ _ ?_
        rw [if_pos rfl]
        have hwst : whr N o stop < 12 := by
          cases o with
          | none => exact hst
          | some w => exact (wk_23 hN w).2
        have ride : H_Model_findWay_98 G h3 (nI (r + 1)) (nI f) (nI time) isE true (o2i o) (nI (whr N o stop)) (nI f) (nI (r + 1)) K := by
          refine s_Model_findWay_98 _ _ _ _ _ _ _ _ _ _ _ _ ?_
          refine s_Model_findRide_0 _ _ _ _ _ _ _ _ _ (cm_fR (o := o) (stop := stop) (ch := ch) c mx3 (by omega) hf (fun w e => (ho w e).1) hwst htm (fun e => by rw [hch, if_neg (show ¬ r + 1 = 0 by omega), e]; rfl) (fun e' b v i j q => ?_) (fun v i j lr => ?_) (fun no => ?_) rs.length 0 (by omega) (fun v' i' j' z => by omega))
          · have fit := Cd_fits c (by omega) (fun w e => (ho w e).1) q
            cases o with
            | none =>
              have fit : E (r + 1) f stop + ch ≤ b := fit
              have := (lo e').1
              omega
            | some w => exact Nat.le_trans ((lo e').2 w (ho w rfl).1 (ho w rfl).2) fit
          · generalize e4 : (up (up (up h3 67 50 (nI v)) 67 51 (nI i)) 67 52 (nI j)) = h4
            have am4 : AM [] [50, 51, 52] h3 h4 := by rw [← e4]; exact am3
            have mx4 : MX N h4 rs lim ask frm E R := mx3.am am4
            have rb4 : RB N rs ask h4 (B ++ ow o) := ⟨by rw [am4.2 49 (by decide)]; exact rb3.1, by rw [am4.1 106 (by decide) (by decide)]; exact rb3.2⟩
            have v50 : h4 67 50 = nI v := by rw [← e4, up_sl _ _ (by decide), up_sl _ _ (by decide), up_at]
            have v51 : h4 67 51 = nI i := by rw [← e4, up_sl _ _ (by decide), up_at]
            have v52 : h4 67 52 = nI j := by rw [← e4, up_at]
            obtain ⟨t, d, w, w2, w3, w4, w5⟩ := lr.1
            obtain ⟨hd, ht⟩ := c.2.2.2.2.2.2.1 v t d w.1
            have hvl : v < rs.length := (List.getElem?_eq_some_iff.mp w.1).1
            have hC := nC_le hN t
            have hij := w.2.1
            have hjC := w.2.2.1
            have s1 := sA_lt hN t i
            have hlt := lT_lim hN w
            have hol := ow_len o
            rw [v50, v51, v52, tnI (by omega), (mx4.1.2.2.2.2.2 v t d w.1).1]
            refine ⟨in_nI (by omega) (by decide), ?_⟩
            refine cm_putR c mx4 w.1 hij hjC rb4 (by rw [List.length_append]; omega) (fun h5 am5 rb5 => ?_)
            have mx5 : MX N h5 rs lim ask frm E R := mx4.am am5
            rw [am5.2 51 (by decide), am5.2 52 (by decide), v51, v52]
            refine cm_fareOf hN mx5.1.1 (by omega) (by omega) (by omega) ?_
            rw [am5.2 50 (by decide), am5.2 51 (by decide), v50, v51, ix8', ix8', tnI (by omega), tnI (by omega), mx5.1.1.c 76 17, ok_sA hN, ((mx5.1.2.2.2.2.2 v t d w.1).2.2 i (by omega)).2]
            refine ⟨in_nI (by omega) (by decide), ?_⟩
            intro v8 e8
            subst e8
            refine ⟨in_nI (by omega) (by decide), ?_⟩
            rw [pk_sub w3, show nI (r + 1) + (-1) = nI r by have := sub1 r; rw [Int32.sub_eq_add_neg] at this; exact this]
            refine cm_fw c r _ _ _ _ h5 false ((B ++ ow o) ++ [.inl (v, i, j)]) mx5 (by omega) (by omega) s1 hlt (Fe_next c (by omega) hlt w4) rfl (fun e => by cases e) rb5 (by rw [List.length_append, List.length_append, List.length_singleton]; omega) (fun h' wk rv ri rj am6 tr rb6 => ?_)
            refine kk h' (fun k => if k = r + 1 then o else wk k) (fun k => if k = r + 1 then v else rv k) (fun k => if k = r + 1 then i else ri k) (fun k => if k = r + 1 then j else rj k) (((am3'.trans (am4.mono (by decide) (by decide))).trans (am5.mono (by decide) (by decide))).trans am6) ?_ ?_
            · unfold TR
              rw [if_pos rfl, if_pos rfl, if_pos rfl, if_pos rfl]
              refine ⟨lw, lr, t, d, w.1, tr.cong (fun k hk => by rw [if_neg (by omega)]) (fun k h1 h2 => by rw [if_neg (by omega), if_neg (by omega), if_neg (by omega)]; exact ⟨rfl, rfl, rfl⟩)⟩
            · rw [rev_fwl, ← fwl_cong (wk := wk) (rv := rv) (ri := ri) (rj := rj) (fun k hk => by rw [if_neg (by omega)]) (fun k h1 h2 => by rw [if_neg (by omega), if_neg (by omega), if_neg (by omega)]; exact ⟨rfl, rfl, rfl⟩), if_pos rfl]
              unfold rdS
              dsimp only
              rw [if_pos rfl, if_pos rfl, if_pos rfl, ← List.append_assoc, ← List.append_assoc]
              exact rb6
          · obtain ⟨v, i, j, q⟩ := Cd_ex c (by omega) htm lw
            exact absurd q (no v i j)
        cases o with
        | none =>
          rw [if_pos (show o2i none < 0 by decide)]
          exact ride
        | some w =>
          have hw := (ho w rfl).1
          rw [show o2i (some w) = nI w from rfl] at ride ⊢
          rw [if_neg (nIneg (by omega)), tnI (by omega), mx3.1.1.c 81 23, (wk_23 hN w).1]
          exact ⟨in_nI (by omega) (by decide), ride⟩
    cases o with
    | none =>
      rw [if_pos (show o2i none < 0 by decide)]
      refine go h1 (am1.mono (by decide) (by decide)) ?_
      rw [show ow none = [] from rfl, List.append_nil]
      exact rb1
    | some w =>
      have hw := (ho w rfl).1
      rw [show o2i (some w) = nI w from rfl, if_neg (nIneg (by omega))]
      refine cm_putW c mx1 hw rb1 (by omega) (fun h3 am3' rb3 => ?_)
      exact go h3 ((am1.mono (by decide) (by decide)).trans (am3'.mono (by decide) (by decide))) rb3
termination_by r => r
/-! ===== the reference takes a way up ===== -/
def OkS (N : HP) (rs : List (Nat × Nat)) (S : List St) : Prop := ∀ s, s ∈ S → match s with
  | .inl (v, i, j) => ∃ t d, rs[v]? = some (t, d) ∧ i < j ∧ j < nC N t
  | .inr w => w < nW N
theorem fwl_ok {N : HP} {rs : List (Nat × Nat)} {wk : Nat → Option Nat} {rv ri rj : Nat → Nat} : ∀ {r : Nat}, OkT N rs wk rv ri rj r → OkS N rs (fwl wk rv ri rj r)
  | 0, ok => by
    intro s hs
    unfold fwl at hs
    cases e : wk 0 with
    | none => rw [e] at hs; exact absurd hs List.not_mem_nil
    | some w =>
      rw [e] at hs
      rw [List.mem_singleton.mp hs]
      exact ok.1 0 (Nat.le_refl _) w e
  | r + 1, ok => by
    have ih := fwl_ok (r := r) ⟨fun k hk => ok.1 k (by omega), fun k h1 h2 => ok.2 k h1 (by omega)⟩
    intro s hs
    rw [fwl, List.mem_append, List.mem_append, List.mem_singleton] at hs
    rcases hs with (hs | hs) | hs
    · exact ih s hs
    · rw [hs]
      exact ok.2 (r + 1) (by omega) (Nat.le_refl _)
    · cases e : wk (r + 1) with
      | none => rw [e] at hs; exact absurd hs List.not_mem_nil
      | some w =>
        rw [e] at hs
        rw [List.mem_singleton.mp hs]
        exact ok.1 (r + 1) (Nat.le_refl _) w e
def TmS (N : HP) (rs : List (Nat × Nat)) (ask : Nat) (S : List St) : Prop := ∀ k, tm N rs ask (S.take k) < 410000
theorem TmS.app {N : HP} {rs : List (Nat × Nat)} {ask : Nat} {S : List St} {s : St} (h : TmS N rs ask S) (hs : tm N rs ask (S ++ [s]) < 410000) : TmS N rs ask (S ++ [s]) := by
  intro k
  rcases Nat.lt_or_ge S.length k with z | z
  · rw [List.take_of_length_le (by rw [List.length_append, List.length_singleton]; omega)]
    exact hs
  · rw [List.take_append_of_le_length z]
    exact h k
theorem owNone : ow none = [] := rfl
theorem TmS.ow {N : HP} (hN : NetOK N) {rs : List (Nat × Nat)} {ask : Nat} (ha : ask < 400000) {S : List St} (h : TmS N rs ask S) (hs : tm N rs ask S < 400000) (o : Option Nat) : TmS N rs ask (S ++ ow o) := by
  cases o with
  | none =>
    rw [owNone, List.append_nil]
    exact h
  | some w =>
    refine TmS.app h ?_
    rw [tm_app]
    exact wE_small hN hs ha
theorem fwl_tm {N : HP} (hN : NetOK N) {rs : List (Nat × Nat)} (hok : ∀ (v t d : Nat), rs[v]? = some (t, d) → d < 100 ∧ t < nT N) {ask : Nat} (ha : ask < 400000) {wk : Nat → Option Nat} {rv ri rj : Nat → Nat} : ∀ {r : Nat}, OkT N rs wk rv ri rj r → TmS N rs ask (fwl wk rv ri rj r)
  | 0, ok => by
    have := TmS.ow hN (rs := rs) ha (S := []) (fun k => by rw [List.take_nil]; show ask < 410000; omega) ha (wk 0)
    exact this
  | r + 1, ok => by
    have okr : OkT N rs wk rv ri rj r := ⟨fun k hk => ok.1 k (by omega), fun k h1 h2 => ok.2 k h1 (by omega)⟩
    have ih := fwl_tm hN hok ha okr
    have hm := mdl_tm hN hok ha ok
    have hm : tm N rs ask (fwl wk rv ri rj r ++ [rdS rv ri rj (r + 1)]) < 400000 := hm
    rw [fwl]
    exact TmS.ow hN ha (ih.app (by omega)) hm (wk (r + 1))
