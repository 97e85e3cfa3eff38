/-! ===== ways: the reference finds a ride ===== -/
def MX (N h : HP) (rs : List (Nat × Nat)) (lim ask frm : Nat) (E R : Nat → Nat → Nat → Nat) : Prop := GC N h rs lim ask frm ∧ (∀ i, i ≤ 3 → ER h ask frm i (E i)) ∧ ∀ i, i < 3 → YM h i (R i)
theorem MX.am {N h h' : HP} {rs : List (Nat × Nat)} {lim ask frm : Nat} {E R : Nat → Nat → Nat → Nat} {S T : List Nat} (m : MX N h rs lim ask frm E R) (a : AM S T h h') (hS : ∀ k, k ∈ S → 100 ≤ k := by decide) (hT : ∀ j, j ∈ T → 41 ≤ j := by decide) : MX N h' rs lim ask frm E R := by
  refine ⟨m.1.am a (fun k hk => by have := hS k hk; omega) hT, fun i hi => ⟨(m.2.1 i hi).1, fun h1 => ((m.2.1 i hi).2 h1).agr (a.1 98 (fun z => by have := hS 98 z; omega) (by decide))⟩, fun i hi => (m.2.2 i hi).agr (a.1 99 (fun z => by have := hS 99 z; omega) (by decide))⟩
theorem Cd_ex2 {N : HP} {rs : List (Nat × Nat)} {lim ask frm : Nat} {E R : Nat → Nat → Nat → Nat} (c : CxW N rs lim ask frm E R) {r f stop by' ch : Nat} (hr : r < 3) (hb : by' < lim) {o : Option Nat} (lw : thr N ask ch o (E (r + 1) f (whr N o stop)) ≤ by') : ∃ v i j, Cd N rs lim ask (R r) f o stop by' ch v i j := by
  have hN := c.1
  have hl := c.2.2.2.1
  have hv := NVRe
  have hs : E (r + 1) f (whr N o stop) < NVR := by
    rcases c.te (r := r + 1) (by omega) f (whr N o stop) with z | z
    · rw [z] at lw
      cases o with
      | none =>
        have lw : NVR + ch ≤ by' := lw
        omega
      | some w =>
        have lw : wE N w NVR ask ≤ by' := lw
        rw [wE_never] at lw
        omega
    · omega
  rcases (c.2.2.1.2.2 r f (whr N o stop) hr).1 with q | ⟨v, t, d, i, j, f', q1, _, q3, q4, q5, q6⟩
  · omega
  · rw [pr_dear hN] at q4
    refine ⟨v, i, j, t, d, q1, q5, by omega, ?_, by rw [← q6]; exact lw⟩
    rw [show f - pz N (sA N t i) (sA N t j) = f' by omega]
    exact q3
theorem cm_fR_42 {G : GA} {N h : HP} {rs : List (Nat × Nat)} {lim ask frm r f v t d i stop time ch : Nat} {E R : Nat → Nat → Nat → Nat} {o : Option Nat} {isE : Bool} (c : CxW N rs lim ask frm E R) (mx : MX N h rs lim ask frm E R) (hr : r < 3) (hf : f < 28) (hv : rs[v]? = some (t, d)) (hi : i < nC N t) (ho : ∀ w, o = some w → w < nW N) (hst : whr N o stop < 12) (htm : time < lim) (hch : o = none → ch = if isE = true then 0 else tn (N 3 (whr N o stop)))
    (low : isE = true → ∀ b v i j, Cd N rs lim ask (R r) f o stop b ch v i j → time ≤ b) {K : Bool → HP → Prop}
    (kk : ∀ v i j, LR (Cd N rs lim ask (R r) f o stop time ch) v i j → K true (up (up (up h 67 50 (nI v)) 67 51 (nI i)) 67 52 (nI j)))
    (kn : (∀ v' i' j', v' < v ∨ v' = v ∧ i' < i + 1 → ¬ Cd N rs lim ask (R r) f o stop time ch v' i' j') → H_Model_findRide_24 G h (nI (r + 1)) (nI f) (nI (whr N o stop)) (o2i o) isE (nI time) (nI v) (nI t) (nI (i + 1)) K) :
    ∀ n j, j + n = nC N t → i < j → (∀ v' i' j', lx v' i' j' v i j → ¬ Cd N rs lim ask (R r) f o stop time ch v' i' j') → H_Model_findRide_42 G h (nI (r + 1)) (nI f) (nI (whr N o stop)) (o2i o) isE (nI time) (nI v) (nI t) (nI i) (nI j) K := by
  have hN := c.1
  have hP := c.2.1
  have hm := mx.1.1
  obtain ⟨hd, ht⟩ := c.2.2.2.2.2.2.1 v t d hv
  have hT := nT_le hN
  have hC := nC_le hN t
  have hl := c.2.2.2.1
  have ha := c.2.2.2.2.1
  have hW := nW_le hN
  have hvl : v < rs.length := (List.getElem?_eq_some_iff.mp hv).1
  have hrs := c.2.2.2.2.2.1
  have hv2 := NVRe
  obtain ⟨r1, r2, r3⟩ := mx.1.2.2.2.2.2 v t d hv
  intro n
  induction n with
  | zero =>
    intro j e hij inv
    refine s_Model_findRide_42 _ _ _ _ _ _ _ _ _ _ _ _ _ ?_
    rw [tnI (by omega), hm.c 75 15, ok_C hN, if_pos (by rw [leI (by omega) (by omega)]; omega), nI_1]
    refine ⟨in_nI (by omega) (by decide), kn (fun v' i' j' hl2 q => ?_)⟩
    by_cases z : v' = v ∧ i' = i
    · rw [z.1, z.2] at q
      obtain ⟨t', d', w, _⟩ := q
      have e1 := Option.some.inj (hv.symm.trans w.1)
      have e2 : t = t' := congrArg Prod.fst e1
      subst e2
      have := w.2.2.1
      have := w.2.1
      refine inv v i j' (Or.inr ⟨rfl, Or.inr ⟨rfl, by omega⟩⟩) ?_
      exact ⟨t, d', w, by assumption⟩
    · exact inv v' i' j' (by unfold lx; omega) q
  | succ n ih =>
    intro j e hij inv
    have hs1 := sA_lt hN t i
    have hs2 := sA_lt hN t j
    have hct := cT_le hN hd t j
    have hlt := lT_le hN hd t i
    have hp := pz_le hN (sA N t i) (sA N t j)
    have nxt : ¬ Cd N rs lim ask (R r) f o stop time ch v i j → H_Model_findRide_42 G h (nI (r + 1)) (nI f) (nI (whr N o stop)) (o2i o) isE (nI time) (nI v) (nI t) (nI i) (nI j + 1) K := by
      intro z
      rw [nI_1]
      refine ih (j + 1) (by omega) (by omega) (fun v' i' j' hl2 q => ?_)
      by_cases y : v' = v ∧ i' = i ∧ j' = j
      · rw [y.1, y.2.1, y.2.2] at q
        exact z q
      · exact inv v' i' j' (by unfold lx at hl2 ⊢; omega) q
    have inv2 : ∀ {P : Prop}, ¬ P → (∀ t' d', Wt N rs lim v t' d' i j ∧ sA N t' j = whr N o stop ∧ pz N (sA N t' i) (sA N t' j) ≤ f ∧ R r (f - pz N (sA N t' i) (sA N t' j)) (sA N t' i) ≤ lT N t' d' i ∧ thr N ask ch o (cT N t' d' j) ≤ time → t' = t → d' = d → P) → ¬ Cd N rs lim ask (R r) f o stop time ch v i j := by
      intro P np hp ⟨t', d', w, w2⟩
      have e1 := Option.some.inj (hv.symm.trans w.1)
      exact np (hp t' d' ⟨w, w2⟩ (congrArg Prod.fst e1).symm (congrArg Prod.snd e1).symm)
    refine s_Model_findRide_42 _ _ _ _ _ _ _ _ _ _ _ _ _ ?_
    rw [tnI (by omega), hm.c 75 15, ok_C hN, if_neg (by rw [leI (by omega) (by omega)]; omega), ix8', ix8', ix8', ix8', tnI (show 8 * t + j < 2147483648 by omega), tnI (show 8 * v + j < 2147483648 by omega), tnI (show v < 2147483648 by omega), tnI (show 8 * t + i < 2147483648 by omega), tnI (show 8 * v + i < 2147483648 by omega), hm.c 76 17, ok_sA hN]
    refine ⟨in_nI (by omega) (by decide), in_nI (by omega) (by decide), ?_⟩
    by_cases c1 : nI (sA N t j) = nI (whr N o stop)
    rotate_left
    · rw [if_neg c1]
      exact nxt (inv2 c1 (fun t' d' w e1 e2 => by subst e1; rw [w.2.1]))
    rw [if_pos c1]
    have c1 := (eqI (by omega) (by omega)).mp c1
    rw [(r3 j (by omega)).1, mx.1.2.2.1]
    refine ⟨in_nI (by omega) (by decide), ?_⟩
    by_cases c2 : nI lim ≤ nI (cT N t d j)
    · rw [if_pos c2]
      rw [leI (by omega) (by omega)] at c2
      exact nxt (inv2 (P := cT N t d j < lim) (by omega) (fun t' d' w e1 e2 => by subst e1 e2; exact w.1.2.2.2.2.2.2))
    rw [if_neg c2, r2]
    rw [leI (by omega) (by omega)] at c2
    refine ⟨in_nI (by omega) (by decide), ?_⟩
    refine cm_hasPlace hN hP hm (by omega) hd hij (by omega) (fun b hb => ?_)
    cases b with
    | false =>
      rw [if_neg (by decide)]
      exact nxt (inv2 (P := false = true) (by decide) (fun t' d' w e1 e2 => by subst e1 e2; exact hb.mpr ⟨w.1.2.2.2.1, w.1.2.2.2.2.1, w.1.2.2.2.2.2.1⟩))
    | true =>
      have hb := hb.mp rfl
      rw [if_pos rfl]
      refine cm_fareOf hN hm (by omega) (by omega) (by omega) ?_
      by_cases c3 : pz N (sA N t i) (sA N t j) ≤ f
      rotate_left
      · rw [if_pos (by rw [fa_lt, pk_sub_toInt (by omega) (by omega), show (0 : Int32).toInt = 0 from rfl]; omega)]
        exact nxt (inv2 c3 (fun t' d' w e1 e2 => by subst e1; exact w.2.2.1))
      rw [pk_sub c3, if_neg (nIneg (by omega)), hm.c 76 17, ok_sA hN, sub1]
      refine ⟨in_nI (by omega) (by decide), ?_⟩
      refine cm_at ?_
      have hmi := mi_lt (show r ≤ 3 by omega) (show f - pz N (sA N t i) (sA N t j) < 28 by omega) hs1
      rw [tnI (by omega), mx.2.2 r hr _ _ (by omega) hs1, (r3 i (by omega)).2, (r3 j (by omega)).1]
      refine ⟨in_nI hmi (by decide), in_nI (by omega) (by decide), ?_⟩
      have hR := c.R hr (f - pz N (sA N t i) (sA N t j)) (sA N t i)
      by_cases c4 : nI (R r (f - pz N (sA N t i) (sA N t j)) (sA N t i)) ≤ nI (lT N t d i)
      rotate_left
      · rw [if_neg c4]
        rw [leI (by omega) (by omega)] at c4
        exact nxt (inv2 c4 (fun t' d' w e1 e2 => by subst e1 e2; exact w.2.2.2.1))
      rw [if_pos c4]
      rw [leI (by omega) (by omega)] at c4
      have wt : Wt N rs lim v t d i j := ⟨hv, hij, by omega, hb.1, hb.2.1, hb.2.2, by omega⟩
      have fin : ∀ y, y = thr N ask ch o (cT N t d j) → y < 2147483648 → H_Model_findRide_232 G h (nI (r + 1)) (nI f) (nI (whr N o stop)) (o2i o) isE (nI time) (nI v) (nI t) (nI i) (nI j) (nI y) K := by
        intro y ey hy
        have yes : y ≤ time → K true (up (up (up h 67 50 (nI v)) 67 51 (nI i)) 67 52 (nI j)) := fun z => kk v i j ⟨⟨t, d, wt, c1, c3, c4, by omega⟩, inv⟩
        have no : ¬ y ≤ time → ¬ Cd N rs lim ask (R r) f o stop time ch v i j := fun z => inv2 z (fun t' d' w e1 e2 => by subst e1 e2; rw [ey]; exact w.2.2.2.2)
        refine s_Model_findRide_232 _ _ _ _ _ _ _ _ _ _ _ _ _ _ ?_
        cases isE with
        | true =>
          rw [if_pos rfl]
          have lo := low rfl y v i j ⟨t, d, wt, c1, c3, c4, by omega⟩
          by_cases c5 : nI y = nI time
          · rw [if_pos c5]
            rintro _ rfl _ rfl _ rfl
            rw [eqI (by omega) (by omega)] at c5
            exact yes (by omega)
          · rw [if_neg c5]
            rw [eqI (by omega) (by omega)] at c5
            exact nxt (no (by omega))
        | false =>
          rw [if_neg (by decide)]
          by_cases c5 : nI y ≤ nI time
          · rw [if_pos c5]
            rintro _ rfl _ rfl _ rfl
            rw [leI (by omega) (by omega)] at c5
            exact yes c5
          · rw [if_neg c5]
            rw [leI (by omega) (by omega)] at c5
            exact nxt (no c5)
      cases o with
      | none =>
        have hch := hch rfl
        have hcs := ok_ch hN (whr N none stop)
        rw [if_pos (show o2i none < 0 by decide)]
        cases isE with
        | true =>
          rw [if_pos rfl]
          rw [if_pos rfl] at hch
          exact fin _ (by show cT N t d j = cT N t d j + ch; omega) (by omega)
        | false =>
          rw [if_neg (by decide)]
          rw [if_neg (by decide)] at hch
          rw [tnI (by omega), hm.c 68 3, hcs.1, nI_add]
          refine ⟨in_nI hst (by decide), fin _ (by show _ = cT N t d j + ch; rw [hch]) (by omega)⟩
      | some w =>
        have hw := ho w rfl
        rw [show o2i (some w) = nI w from rfl, if_neg (nIneg (by omega)), mx.1.2.1]
        refine cm_behind hN hm hw (by omega) (by omega) ?_
        exact fin _ rfl (by have := wE_small hN (w := w) (time := cT N t d j) (ask := ask) (by omega) (by omega); omega)
theorem cm_fR_24 {G : GA} {N h : HP} {rs : List (Nat × Nat)} {lim ask frm r f v t d stop time ch : Nat} {E R : Nat → Nat → Nat → Nat} {o : Option Nat} {isE : Bool} (c : CxW N rs lim ask frm E R) (mx : MX N h rs lim ask frm E R) (hr : r < 3) (hf : f < 28) (hv : rs[v]? = some (t, d)) (ho : ∀ w, o = some w → w < nW N) (hst : whr N o stop < 12) (htm : time < lim) (hch : o = none → ch = if isE = true then 0 else tn (N 3 (whr N o stop)))
    (low : isE = true → ∀ b v i j, Cd N rs lim ask (R r) f o stop b ch v i j → time ≤ b) {K : Bool → HP → Prop}
    (kk : ∀ v i j, LR (Cd N rs lim ask (R r) f o stop time ch) v i j → K true (up (up (up h 67 50 (nI v)) 67 51 (nI i)) 67 52 (nI j)))
    (kn : (∀ v' i' j', v' < v + 1 → ¬ Cd N rs lim ask (R r) f o stop time ch v' i' j') → H_Model_findRide_3 G h (nI (r + 1)) (nI f) (nI (whr N o stop)) (o2i o) isE (nI time) (nI (v + 1)) K) :
    ∀ n i, i + n = nC N t → (∀ v' i' j', v' < v ∨ v' = v ∧ i' < i → ¬ Cd N rs lim ask (R r) f o stop time ch v' i' j') → H_Model_findRide_24 G h (nI (r + 1)) (nI f) (nI (whr N o stop)) (o2i o) isE (nI time) (nI v) (nI t) (nI i) K
  | 0, i, e, inv => by
    have hN := c.1
    obtain ⟨hd, ht⟩ := c.2.2.2.2.2.2.1 v t d hv
    have hT := nT_le hN
    have hC := nC_le hN t
    refine s_Model_findRide_24 _ _ _ _ _ _ _ _ _ _ _ _ ?_
    rw [tnI (by omega), mx.1.1.c 75 15, ok_C hN, if_pos (by rw [leI (by omega) (by omega)]; omega), nI_1]
    refine ⟨in_nI (by omega) (by decide), kn (fun v' i' j' hl q => ?_)⟩
    by_cases z : v' = v
    · rw [z] at q
      obtain ⟨t', d', w, w2⟩ := q
      have e1 := Option.some.inj (hv.symm.trans w.1)
      have e2 : t = t' := congrArg Prod.fst e1
      subst e2
      have := w.2.2.1
      have := w.2.1
      exact inv v i' j' (Or.inr ⟨rfl, by omega⟩) ⟨t, d', w, w2⟩
    · exact inv v' i' j' (Or.inl (by omega)) q
  | n + 1, i, e, inv => by
    have hN := c.1
    obtain ⟨hd, ht⟩ := c.2.2.2.2.2.2.1 v t d hv
    have hT := nT_le hN
    have hC := nC_le hN t
    refine s_Model_findRide_24 _ _ _ _ _ _ _ _ _ _ _ _ ?_
    rw [tnI (by omega), mx.1.1.c 75 15, ok_C hN, if_neg (by rw [leI (by omega) (by omega)]; omega), nI_1]
    refine ⟨in_nI (by omega) (by decide), ?_⟩
    refine cm_fR_42 c mx hr hf hv (by omega) ho hst htm hch low kk (fun h1 => cm_fR_24 c mx hr hf hv ho hst htm hch low kk kn n (i + 1) (by omega) h1) (nC N t - (i + 1)) (i + 1) (by omega) (by omega) (fun v' i' j' hl q => ?_)
    by_cases z : v' = v ∧ i' = i
    · obtain ⟨t', d', w, w2⟩ := q
      have := w.2.1
      unfold lx at hl
      omega
    · exact inv v' i' j' (by unfold lx at hl; omega) q
theorem cm_fR {G : GA} {N h : HP} {rs : List (Nat × Nat)} {lim ask frm r f stop time ch : Nat} {E R : Nat → Nat → Nat → Nat} {o : Option Nat} {isE : Bool} (c : CxW N rs lim ask frm E R) (mx : MX N h rs lim ask frm E R) (hr : r < 3) (hf : f < 28) (ho : ∀ w, o = some w → w < nW N) (hst : whr N o stop < 12) (htm : time < lim) (hch : o = none → ch = if isE = true then 0 else tn (N 3 (whr N o stop)))
    (low : isE = true → ∀ b v i j, Cd N rs lim ask (R r) f o stop b ch v i j → time ≤ b) {K : Bool → HP → Prop}
    (kk : ∀ v i j, LR (Cd N rs lim ask (R r) f o stop time ch) v i j → K true (up (up (up h 67 50 (nI v)) 67 51 (nI i)) 67 52 (nI j)))
    (kn : (∀ v' i' j', ¬ Cd N rs lim ask (R r) f o stop time ch v' i' j') → K false h) :
    ∀ n v, v + n = rs.length → (∀ v' i' j', v' < v → ¬ Cd N rs lim ask (R r) f o stop time ch v' i' j') → H_Model_findRide_3 G h (nI (r + 1)) (nI f) (nI (whr N o stop)) (o2i o) isE (nI time) (nI v) K
  | 0, v, e, inv => by
    have hrs := c.2.2.2.2.2.1
    refine s_Model_findRide_3 _ _ _ _ _ _ _ _ _ _ ?_
    rw [mx.1.2.2.2.2.1, if_pos (by rw [leI (by omega) (by omega)]; omega)]
    refine kn (fun v' i' j' q => ?_)
    have q0 := q
    obtain ⟨t, d, w, _⟩ := q0
    have := (List.getElem?_eq_some_iff.mp w.1).1
    exact inv v' i' j' (by omega) q
  | n + 1, v, e, inv => by
    have hN := c.1
    have hrs := c.2.2.2.2.2.1
    obtain ⟨⟨t, d⟩, hv⟩ : ∃ y, rs[v]? = some y := ⟨rs[v]'(by omega), List.getElem?_eq_getElem (by omega)⟩
    obtain ⟨r1, r2, r3⟩ := mx.1.2.2.2.2.2 v t d hv
    refine s_Model_findRide_3 _ _ _ _ _ _ _ _ _ _ ?_
    rw [mx.1.2.2.2.2.1, if_neg (by rw [leI (by omega) (by omega)]; omega), tnI (by omega), r1]
    refine ⟨in_nI (by omega) (by decide), ?_⟩
    exact cm_fR_24 c mx hr hf hv ho hst htm hch low kk (fun h1 => cm_fR c mx hr hf ho hst htm hch low kk kn n (v + 1) (by omega) h1) (nC N t) 0 (by omega) (fun v' i' j' hl => inv v' i' j' (by omega))
