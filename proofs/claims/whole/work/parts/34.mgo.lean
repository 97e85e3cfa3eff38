def F98 (r : Nat) (h h' : HP) : Prop := AM [98] [] h h' ∧ ∀ r' E', r' ≠ r → EM h r' E' → EM h' r' E'
theorem F98.refl (r : Nat) (h : HP) : F98 r h h := ⟨AM.refl _ _ _, fun _ _ _ y => y⟩
theorem F98.put {r : Nat} {h h' : HP} (F : F98 r h h') {f s : Nat} (hf : f < 28) (hs : s < 12) (x : Int32) : F98 r h (up h' 98 (mi r f s) x) := ⟨F.1.pt (by decide) (by decide) _ _, fun r' E' hne y => (F.2 r' E' hne y).other hne hf hs x⟩
theorem F98.t {r : Nat} {h h' h2 : HP} (F : F98 r h h') (G : F98 r h' h2) : F98 r h h2 := ⟨F.1.trans G.1, fun r' E' a y => G.2 r' E' a (F.2 r' E' a y)⟩
theorem cm_ride_g {G : GA} {N : HP} (hN : NetOK N) {rs : List (Nat × Nat)} {lim ask frm r v t d i j : Nat} (hr : r < 3) (hl : lim ≤ 400000) (hrs : rs.length ≤ 132) (hw : Wt N rs lim v t d i j) (hd : d < 100) {R : Nat → Nat → Nat} (hR : ∀ f s, R f s ≤ NVR) (hbig : ∀ f s, 18 < f → R f s = NVR) {K : HP → Prop} {h0 : HP}
    (kk : ∀ h' E', GC N h' rs lim ask frm → F98 (r + 1) h0 h' → EM h' (r + 1) E' → (∀ f s, MO (SE4 N rs lim R (PL v i (j + 1) 0) f s) (E' f s)) → H_Model_ride_27 G h' (nI (r + 1)) (nI v) (nI t) (nI i) (nI j + 1) K) :
    ∀ (m g : Nat) (h : HP) (E : Nat → Nat → Nat), g + m + pz N (sA N t i) (sA N t j) = 28 → GC N h rs lim ask frm → F98 (r + 1) h0 h → YM h r R → EM h (r + 1) E → (∀ f s, MO (SE4 N rs lim R (PL v i j g) f s) (E f s)) → H_Model_ride_92 G h (nI (r + 1)) (nI v) (nI t) (nI i) (nI j) (nI (pz N (sA N t i) (sA N t j))) (nI g) K
  | 0, g, h, E, e, gc, F, y, ea, mo => by
    have hp := pz_le hN (sA N t i) (sA N t j)
    refine s_Model_ride_92 G h _ _ _ _ _ _ _ K ?_
    rw [nI_add, if_pos (by rw [show (28 : Int32) = nI 28 from rfl, leI (by omega) (by omega)]; omega)]
    refine kk h E gc F ea (fun f s => (mo f s).cong (SE4_cong (fun v' t' d' i' j' g' hw' hR' => ?_) f s))
    have hg' : g' ≤ 18 := by
      rcases Nat.lt_or_ge 18 g' with z | z
      · rw [hbig g' _ z] at hR'
        have := hw'.2.2.2.2.2.2
        have h2 := lT_cT hN d' hw'.2.1 hw'.2.2.1
        have hv := NVRe
        omega
      · exact z
    unfold PL
    constructor
    · intro q; omega
    · intro q; omega
  | m + 1, g, h, E, e, gc, F, y, ea, mo => by
    have hp := pz_le hN (sA N t i) (sA N t j)
    have hv := NVRe
    obtain ⟨w1, w2, w3, w4, w5, w6, w7⟩ := id hw
    have hvl := (List.getElem?_eq_some_iff.mp w1).1
    have hc8 := nC_le hN t
    have ht := lt_nT hN w3
    have ht24 := nT_le hN
    have hs1 := sA_lt hN t i
    have hs2 := sA_lt hN t j
    obtain ⟨e1, e2, e3⟩ := gc.2.2.2.2.2 v t d w1
    have hE : ∀ f s, E f s ≤ NVR := fun f s => (mo f s).le (fun y hy => by have := SE4_lt hy; omega)
    refine s_Model_ride_92 G h _ _ _ _ _ _ _ K ?_
    rw [nI_add, if_neg (by rw [show (28 : Int32) = nI 28 from rfl, leI (by omega) (by omega)]; omega), ix8', tnI (by omega), gc.1.c 76 17, ok_sA hN, sub1]
    refine ⟨in_nI (by omega) (by decide), cm_at ?_⟩
    have hmi := mi_lt (r := r) (f := g) (s := sA N t i) (by omega) (by omega) hs1
    have hRg := hR g (sA N t i)
    have hlt := lT_le hN hd t i
    have hct := cT_le hN hd t j
    rw [tnI (by omega), y g (sA N t i) (by omega) hs1, ix8', tnI (by omega), (e3 i (by omega)).2, nI_1]
    refine ⟨in_nI hmi (by decide), in_nI (by omega) (by decide), ?_⟩
    have ih := cm_ride_g (G := G) hN hr hl hrs hw hd hR hbig kk m (g + 1)
    by_cases c : lT N t d i < R g (sA N t i)
    · rw [if_pos (by rw [ltI (by omega) (by omega)]; exact c)]
      refine ih h E (by omega) gc F y ea (fun f s => (mo f s).cong (SE4_cong (fun v' t' d' i' j' g' hw' hR' => ?_) f s))
      unfold PL
      constructor
      · intro q; omega
      · intro q
        by_cases z : v' = v ∧ i' = i ∧ j' = j ∧ g' = g
        · obtain ⟨rfl, rfl, rfl, rfl⟩ := z
          have ee := hw'.1
          rw [w1] at ee
          cases ee
          omega
        · omega
    · rw [if_neg (by rw [ltI (by omega) (by omega)]; exact c), ix8', tnI (by omega), gc.1.c 76 17, ok_sA hN]
      refine ⟨in_nI (by omega) (by decide), cm_at ?_⟩
      rw [ix8', tnI (by omega), (e3 j w3).1]
      refine ⟨in_nI (by omega) (by decide), ?_⟩
      have hmi2 := mi_lt (r := r + 1) (f := g + pz N (sA N t i) (sA N t j)) (s := sA N t j) (by omega) (by omega) hs2
      have hE2 := hE (g + pz N (sA N t i) (sA N t j)) (sA N t j)
      refine cm_least_98 hmi2 (by omega) (by omega) (ea _ _ (by omega) hs2) ?_
      refine ih _ (upd2 E (g + pz N (sA N t i) (sA N t j)) (sA N t j) _) (by omega) (gc.pt (by decide) _ _) (F.put (by omega) hs2 _) (y.agr (up_ce _ _ _ (by decide))) (ea.put (by omega) hs2 _) (fun f s => ?_)
      have hadd := SE4_add (lim := lim) (R := R) (Pd := PL v i j g) (Pd' := PL v i j (g + 1)) (g := g) (fun a b c e => by unfold PL; omega) hw (by omega) f s
      by_cases cs : f = g + pz N (sA N t i) (sA N t j) ∧ s = sA N t j
      · rw [cs.1, cs.2, upd2_at, ← cs.1, ← cs.2]
        refine (mo f s).add (fun y => ?_) (by omega)
        rw [hadd y]
        exact ⟨fun q => q.imp id And.right, fun q => q.imp id (fun q => ⟨cs, q⟩)⟩
      · rw [upd2_ne _ cs]
        refine (mo f s).cong (fun y => ?_)
        rw [hadd y]
        exact ⟨Or.inl, fun q => q.elim id (fun q => absurd q.1 cs)⟩
theorem cm_ride_j {G : GA} {N : HP} (hN : NetOK N) (hP : PlOK N) {rs : List (Nat × Nat)} {lim ask frm r v t d i : Nat} (hr : r < 3) (hl : lim ≤ 400000) (hrs : rs.length ≤ 132) (hv : rs[v]? = some (t, d)) (hd : d < 100) (ht : t < nT N) {R : Nat → Nat → Nat} (hR : ∀ f s, R f s ≤ NVR) (hbig : ∀ f s, 18 < f → R f s = NVR) {K : HP → Prop} {h0 : HP}
    (kk : ∀ h' E', GC N h' rs lim ask frm → F98 (r + 1) h0 h' → EM h' (r + 1) E' → (∀ f s, MO (SE4 N rs lim R (PL v (i + 1) 0 0) f s) (E' f s)) → H_Model_ride_10 G h' (nI (r + 1)) (nI v) (nI t) (nI i + 1) K) :
    ∀ (m j : Nat) (h : HP) (E : Nat → Nat → Nat), j + m = nC N t → i < j → GC N h rs lim ask frm → F98 (r + 1) h0 h → YM h r R → EM h (r + 1) E → (∀ f s, MO (SE4 N rs lim R (PL v i j 0) f s) (E f s)) → H_Model_ride_27 G h (nI (r + 1)) (nI v) (nI t) (nI i) (nI j) K
  | 0, j, h, E, e, hij, gc, F, y, ea, mo => by
    have hc8 := nC_le hN t
    have ht24 := nT_le hN
    refine s_Model_ride_27 G h _ _ _ _ _ K ⟨in_nI (by omega) (by decide), ?_⟩
    rw [tnI (by omega), gc.1.c 75 15, ok_C hN, if_pos (by rw [leI (by omega) (by omega)]; omega)]
    refine kk h E gc F ea (fun f s => (mo f s).cong (SE4_cong (fun v' t' d' i' j' g' hw' hR' => ?_) f s))
    have hx : v' = v → j' < nC N t := fun ev => by
      have e1 := hw'.1
      rw [ev, hv] at e1
      cases e1
      exact hw'.2.2.1
    unfold PL
    constructor
    · intro q; omega
    · intro q; omega
  | m + 1, j, h, E, e, hij, gc, F, y, ea, mo => by
    have hc8 := nC_le hN t
    have ht24 := nT_le hN
    have hvl := (List.getElem?_eq_some_iff.mp hv).1
    obtain ⟨e1, e2, e3⟩ := gc.2.2.2.2.2 v t d hv
    have hct := cT_le hN hd t j
    refine s_Model_ride_27 G h _ _ _ _ _ K ⟨in_nI (by omega) (by decide), ?_⟩
    rw [tnI (by omega), gc.1.c 75 15, ok_C hN, if_neg (by rw [leI (by omega) (by omega)]; omega), ix8', tnI (by omega), (e3 j (by omega)).1, gc.2.2.1, tnI (by omega), e2]
    refine ⟨in_nI (by omega) (by decide), ?_⟩
    have skip : (¬ Wt N rs lim v t d i j) → ∀ f s, MO (SE4 N rs lim R (PL v i (j + 1) 0) f s) (E f s) := fun hno f s => (mo f s).cong (SE4_cong (fun v' t' d' i' j' g' hw' hR' => by
      have hx : ¬ (v' = v ∧ i' = i ∧ j' = j) := fun z => by
        obtain ⟨rfl, rfl, rfl⟩ := z
        have e1 := hw'.1
        rw [hv] at e1
        cases e1
        exact hno hw'
      unfold PL
      constructor
      · intro q; omega
      · intro q; omega) f s)
    have ih := cm_ride_j (G := G) hN hP hr hl hrs hv hd ht hR hbig kk m (j + 1)
    by_cases c : lim ≤ cT N t d j
    · rw [if_pos (by rw [leI (by omega) (by omega)]; exact c), nI_1]
      exact ih h E (by omega) (by omega) gc F y ea (skip (fun w => by have := w.2.2.2.2.2.2; omega))
    · rw [if_neg (by rw [leI (by omega) (by omega)]; exact c)]
      refine ⟨in_nI (by omega) (by decide), ?_⟩
      refine cm_hasPlace hN hP gc.1 (by omega) hd hij (by omega) (fun b hb => ?_)
      by_cases cb : b = true
      · rw [if_pos cb]
        obtain ⟨b1, b2, b3⟩ := hb.mp cb
        have hw : Wt N rs lim v t d i j := ⟨hv, hij, by omega, b1, b2, b3, by omega⟩
        refine cm_fareOf hN gc.1 (by omega) (by omega) (by omega) ?_
        have hp := pz_le hN (sA N t i) (sA N t j)
        refine cm_ride_g hN hr hl hrs hw hd hR hbig (h0 := h) (fun h' E' gc' F' ea' mo' => ?_) (28 - pz N (sA N t i) (sA N t j)) 0 h E (by omega) gc (F98.refl _ _) y ea mo
        rw [nI_1]
        exact ih h' E' (by omega) (by omega) gc' (F.t F') (y.agr (F'.1.1 99 (by decide) (by decide))) ea' mo'
      · rw [if_neg cb, nI_1]
        exact ih h E (by omega) (by omega) gc F y ea (skip (fun w => cb (hb.mpr ⟨w.2.2.2.1, w.2.2.2.2.1, w.2.2.2.2.2.1⟩)))
theorem cm_ride_i {G : GA} {N : HP} (hN : NetOK N) (hP : PlOK N) {rs : List (Nat × Nat)} {lim ask frm r v t d : Nat} (hr : r < 3) (hl : lim ≤ 400000) (hrs : rs.length ≤ 132) (hv : rs[v]? = some (t, d)) (hd : d < 100) (ht : t < nT N) {R : Nat → Nat → Nat} (hR : ∀ f s, R f s ≤ NVR) (hbig : ∀ f s, 18 < f → R f s = NVR) {K : HP → Prop} {h0 : HP}
    (kk : ∀ h' E', GC N h' rs lim ask frm → F98 (r + 1) h0 h' → EM h' (r + 1) E' → (∀ f s, MO (SE4 N rs lim R (PL (v + 1) 0 0 0) f s) (E' f s)) → K h') :
    ∀ (m i : Nat) (h : HP) (E : Nat → Nat → Nat), i + m = nC N t → GC N h rs lim ask frm → F98 (r + 1) h0 h → YM h r R → EM h (r + 1) E → (∀ f s, MO (SE4 N rs lim R (PL v i 0 0) f s) (E f s)) → H_Model_ride_10 G h (nI (r + 1)) (nI v) (nI t) (nI i) K
  | 0, i, h, E, e, gc, F, y, ea, mo => by
    have hc8 := nC_le hN t
    have ht24 := nT_le hN
    refine s_Model_ride_10 G h _ _ _ _ K ⟨in_nI (by omega) (by decide), ?_⟩
    rw [tnI (by omega), gc.1.c 75 15, ok_C hN, if_pos (by rw [leI (by omega) (by omega)]; omega)]
    refine kk h E gc F ea (fun f s => (mo f s).cong (SE4_cong (fun v' t' d' i' j' g' hw' hR' => ?_) f s))
    have hx : v' = v → i' < nC N t := fun ev => by
      have e1 := hw'.1
      rw [ev, hv] at e1
      cases e1
      have := hw'.2.2.1
      have := hw'.2.1
      omega
    unfold PL
    constructor
    · intro q; omega
    · intro q; omega
  | m + 1, i, h, E, e, gc, F, y, ea, mo => by
    have hc8 := nC_le hN t
    have ht24 := nT_le hN
    refine s_Model_ride_10 G h _ _ _ _ K ⟨in_nI (by omega) (by decide), ?_⟩
    rw [tnI (by omega), gc.1.c 75 15, ok_C hN, if_neg (by rw [leI (by omega) (by omega)]; omega), nI_1]
    refine cm_ride_j hN hP hr hl hrs hv hd ht hR hbig (h0 := h) (fun h' E' gc' F' ea' mo' => ?_) (nC N t - (i + 1)) (i + 1) h E (by omega) (by omega) gc (F98.refl _ _) y ea (fun f s => (mo f s).cong (SE4_cong (fun v' t' d' i' j' g' hw' hR' => ?_) f s))
    · rw [nI_1]
      exact cm_ride_i hN hP hr hl hrs hv hd ht hR hbig kk m (i + 1) h' E' (by omega) gc' (F.t F') (y.agr (F'.1.1 99 (by decide) (by decide))) ea' mo'
    · have := hw'.2.1
      unfold PL
      constructor
      · intro q; omega
      · intro q; omega
theorem cm_ride {G : GA} {N h : HP} (hN : NetOK N) (hP : PlOK N) {rs : List (Nat × Nat)} {lim ask frm r v t d : Nat} (hr : r < 3) (hl : lim ≤ 400000) (hrs : rs.length ≤ 132) (hv : rs[v]? = some (t, d)) (hd : d < 100) (ht : t < nT N) {R E : Nat → Nat → Nat} (hR : ∀ f s, R f s ≤ NVR) (hbig : ∀ f s, 18 < f → R f s = NVR) (gc : GC N h rs lim ask frm) (y : YM h r R) (ea : EM h (r + 1) E) (mo : ∀ f s, MO (SE4 N rs lim R (PL v 0 0 0) f s) (E f s)) {K : HP → Prop}
    (kk : ∀ h' E', GC N h' rs lim ask frm → F98 (r + 1) h h' → EM h' (r + 1) E' → (∀ f s, MO (SE4 N rs lim R (PL (v + 1) 0 0 0) f s) (E' f s)) → K h') : P_Model_ride G h (nI (r + 1)) (nI v) K := by
  have hvl := (List.getElem?_eq_some_iff.mp hv).1
  obtain ⟨e1, e2, e3⟩ := gc.2.2.2.2.2 v t d hv
  refine s_Model_ride_0 G h _ _ K ⟨in_nI (by omega) (by decide), ?_⟩
  rw [tnI (by omega), e1]
  exact cm_ride_i hN hP hr hl hrs hv hd ht hR hbig kk (nC N t) 0 h E (by omega) gc (F98.refl _ _) y ea mo
