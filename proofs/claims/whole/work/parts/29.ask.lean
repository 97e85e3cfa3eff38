theorem c_getOff {G : GA} {N h : HP} (hN : NetOK N) {rs : List (Nat × Nat)} {lim D ask r v k t d : Nat} (hD : D ≤ 9) (hDd : D = 0 ∨ D = dear N) (hr : r < 3) (hl : lim ≤ 400000) (hrs : rs.length ≤ 132) (hv : rs[v]? = some (t, d)) (hd : d < 100) (hk : k < nC N t) {E : Nat → Nat → Nat} (hE : ∀ f s, E f s ≤ NVR) {B : Nat → Nat → Bool} (hB : ∀ z f, B z f = true → f ≤ D * r) (sc : SC N h rs lim D ask) (ea : EA h D (r + 1) E) (ab : AB h B) {K : HP → Prop}
    (kk : ∀ h' m, SC N h' rs lim D ask → F49 D (r + 1) h h' → EA h' D (r + 1) (Eoff E m (sA N t k) (cT N t d k) 32) → (∀ F, F < 32 → (bt m F = true ↔ cT N t d k < lim ∧ ∃ z, z < 4 ∧ prz N D z (zn N (sA N t k)) ≤ F ∧ B z (F - prz N D z (zn N (sA N t k))) = true)) → K h') : P_Search_getOff G h (nI (r + 1)) (nI v) (nI k) K := by
  have hvl := (List.getElem?_eq_some_iff.mp hv).1
  have hc8 := nC_le hN t
  have ht := lt_nT hN hk
  have ht24 := nT_le hN
  obtain ⟨e1, e2, e3, e4⟩ := sc.2.2.2.2.2 v t d hv
  have hct := cT_le hN hd t k
  have hs12 := sA_lt hN t k
  have hz4 := zn_lt hN (sA N t k)
  refine s_Search_getOff_0 G h _ _ _ K ?_
  rw [tnI (by omega), e1, ix8, ix8, tnI (by omega), tnI (by omega), sc.1.c 17, ok_sA hN, (e4 k hk).1, sc.2.2.2.1]
  refine ⟨in_nI (by omega) (by decide), in_nI (by omega) (by decide), in_nI (by omega) (by decide), ?_⟩
  have ea0 : ∀ m, EA h D (r + 1) (Eoff E m (sA N t k) (cT N t d k) 0) := fun m f s hf hs => by
    rw [ea f s hf hs]
    unfold Eoff
    rw [if_neg (by omega)]
  by_cases c : lim ≤ cT N t d k
  · rw [if_pos (by rw [leI (by omega) (by omega)]; exact c)]
    refine c_getOff_loop (h0 := h) hD (by omega) hs12 (by omega) hE (m := 0) (fun F hF q => by rw [b_0] at q; cases q) (fun h' a b c' => kk h' 0 a b c' (fun F hF => ?_)) 32 0 h (by omega) sc (F49.refl _ _ _) (ea0 0)
    rw [b_0]
    constructor
    · intro q; cases q
    · intro q; omega
  · rw [if_neg (by rw [leI (by omega) (by omega)]; exact c)]
    refine ⟨in_nI (by omega) (by decide), ?_⟩
    rw [sc.1.c 4, tnI (by omega), ok_z hN]
    refine c_faresTo hN hD hz4 sc ab (fun m hm => ?_)
    refine c_getOff_loop (h0 := h) hD (by omega) hs12 (by omega) hE (m := m) (fun F hF q => ?_) (fun h' a b c' => kk h' m a b c' (fun F hF => ?_)) 32 0 h (by omega) sc (F49.refl _ _ _) (ea0 m)
    · obtain ⟨z, hz, hp, hb⟩ := (hm F hF).mp q
      have h1 := hB _ _ hb
      have h2 : prz N D z (zn N (sA N t k)) ≤ D := by
        unfold prz
        split
        · omega
        · rcases hDd with q | q
          · contradiction
          · rw [q]; exact dM_ge 16 _ (by omega)
      have h3 : D * (r + 1) = D * r + D := Nat.mul_succ D r
      omega
    · rw [hm F hF]
      exact ⟨fun q => ⟨by omega, q⟩, fun q => q.2⟩
def Ab (N : HP) (t d D r : Nat) (R : Nat → Nat → Nat) (k z f : Nat) : Prop := ∃ i, i < k ∧ oP N t i = true ∧ zn N (sA N t i) = z ∧ f ≤ D * r ∧ R f (sA N t i) ≤ lT N t d i ∧ ∀ q, i ≤ q → q < k → fK N t d q = false
def F4 (D r : Nat) (h h' : HP) : Prop := Agr [49, 53] h h' ∧ ∀ r' E', r' ≤ 3 → r' ≠ r → EA h D r' E' → EA h' D r' E'
theorem F4.refl (D r : Nat) (h : HP) : F4 D r h h := ⟨Agr.refl _ _, fun _ _ _ _ y => y⟩
theorem F4.a {D r : Nat} {h h' h2 : HP} (F : F4 D r h h') (G : F49 D r h' h2) : F4 D r h h2 := ⟨F.1.trans (G.1.mono (by decide)), fun r' E' a b y => G.2 r' E' a b (F.2 r' E' a b y)⟩
theorem F4.b {D r : Nat} {h h' h2 : HP} (F : F4 D r h h') (G : Agr [53] h' h2) : F4 D r h h2 := ⟨F.1.trans (G.mono (by decide)), fun r' E' a b y => (F.2 r' E' a b y).agr (G 49 (by decide))⟩
theorem F4.t {D r : Nat} {h h' h2 : HP} (F : F4 D r h h') (G : F4 D r h' h2) : F4 D r h h2 := ⟨F.1.trans G.1, fun r' E' a b y => G.2 r' E' a b (F.2 r' E' a b y)⟩
theorem SE_k {N : HP} {rs : List (Nat × Nat)} {lim D r v k t d : Nat} {R : Nat → Nat → Nat} {Pd : Nat → Nat → Prop} (hv : rs[v]? = some (t, d)) (hk : k < nC N t) (hbig : ∀ f s, D * r < f → R f s = NVR) (hN : NetOK N) (hd : d < 100) (f s y : Nat) :
    SE N rs lim D R (fun v' j => Pd v' j ∨ (v' = v ∧ j < k + 1)) f s y ↔ SE N rs lim D R (fun v' j => Pd v' j ∨ (v' = v ∧ j < k)) f s y ∨ ((oP N t k = true ∧ s = sA N t k ∧ cT N t d k < lim ∧ ∃ z f', z < 4 ∧ Ab N t d D r R k z f' ∧ f' + prz N D z (zn N (sA N t k)) = f) ∧ y = cT N t d k) := by
  constructor
  · rintro ⟨v', t', d', i, j, f', hw, hp, h1, h2, h3, h4⟩
    by_cases c : Pd v' j ∨ (v' = v ∧ j < k)
    · exact Or.inl ⟨v', t', d', i, j, f', hw, c, h1, h2, h3, h4⟩
    · have hvk : v' = v ∧ j = k := by
        rcases hp with q | q
        · exact absurd (Or.inl q) c
        · refine ⟨q.1, ?_⟩
          rcases Nat.lt_or_ge j k with z | z
          · exact absurd (Or.inr ⟨q.1, z⟩) c
          · omega
      obtain ⟨rfl, rfl⟩ := hvk
      obtain ⟨w1, w2, w3, w4, w5, w6, w7⟩ := hw
      rw [hv] at w1
      cases w1
      refine Or.inr ⟨⟨w5, h3.symm, w7, zn N (sA N t i), f', zn_lt hN _, ⟨i, w2, w4, rfl, ?_, h1, w6⟩, ?_⟩, h4⟩
      · rcases Nat.lt_or_ge (D * r) f' with z | z
        · rw [hbig f' _ z] at h1
          have := lT_le hN hd t i
          have hv := NVRe
          omega
        · exact z
      · rw [← h2, pr_z]
  · rintro (⟨v', t', d', i, j, f', hw, hp, h1, h2, h3, h4⟩ | ⟨⟨q1, q2, q3, z, f', hz, ⟨i, a1, a2, a3, a4, a5, a6⟩, q5⟩, q6⟩)
    · exact ⟨v', t', d', i, j, f', hw, hp.imp id (fun q => ⟨q.1, by omega⟩), h1, h2, h3, h4⟩
    · exact ⟨v, t, d, i, k, f', ⟨hv, a1, hk, a2, q1, a6, q3⟩, Or.inr ⟨rfl, by omega⟩, a5, by rw [pr_z, a3]; exact q5, q2.symm, q6⟩
theorem Ab_step {N : HP} {t d D r k : Nat} {R : Nat → Nat → Nat} (hf : fK N t d k = false) (z f : Nat) : Ab N t d D r R (k + 1) z f ↔ Ab N t d D r R k z f ∨ (oP N t k = true ∧ zn N (sA N t k) = z ∧ f ≤ D * r ∧ R f (sA N t k) ≤ lT N t d k) := by
  constructor
  · rintro ⟨i, a1, a2, a3, a4, a5, a6⟩
    by_cases c : i = k
    · subst c; exact Or.inr ⟨a2, a3, a4, a5⟩
    · exact Or.inl ⟨i, by omega, a2, a3, a4, a5, fun q h1 h2 => a6 q h1 (by omega)⟩
  · rintro (⟨i, a1, a2, a3, a4, a5, a6⟩ | ⟨a2, a3, a4, a5⟩)
    · refine ⟨i, by omega, a2, a3, a4, a5, fun q h1 h2 => ?_⟩
      by_cases c : q = k
      · rw [c]; exact hf
      · exact a6 q h1 (by omega)
    · exact ⟨k, by omega, a2, a3, a4, a5, fun q h1 h2 => by rw [show q = k by omega]; exact hf⟩
theorem Ab_full {N : HP} {t d D r k : Nat} {R : Nat → Nat → Nat} (hf : fK N t d k = true) (z f : Nat) : ¬ Ab N t d D r R (k + 1) z f := by
  rintro ⟨i, a1, a2, a3, a4, a5, a6⟩
  rw [a6 k (by omega) (by omega)] at hf
  cases hf
theorem c_ride_loop {G : GA} {N : HP} (hN : NetOK N) {rs : List (Nat × Nat)} {lim D ask r v t d : Nat} (hD : D ≤ 9) (hDd : D = 0 ∨ D = dear N) (hr : r < 3) (hl : lim ≤ 400000) (hrs : rs.length ≤ 132) (hv : rs[v]? = some (t, d)) (hd : d < 100) (ht : t < 24) {R : Nat → Nat → Nat} (hR : ∀ f s, R f s ≤ NVR) (hbig : ∀ f s, D * r < f → R f s = NVR) {Pd : Nat → Nat → Prop} {K : HP → Prop} {h0 : HP}
    (kk : ∀ h' E', SC N h' rs lim D ask → F4 D (r + 1) h0 h' → EA h' D (r + 1) E' → (∀ f s, MO (SE N rs lim D R (fun v' j => Pd v' j ∨ (v' = v ∧ j < nC N t)) f s) (E' f s)) → K h') :
    ∀ (m k : Nat) (h : HP) (E : Nat → Nat → Nat), k + m = nC N t → SC N h rs lim D ask → F4 D (r + 1) h0 h → RY h D r R → EA h D (r + 1) E → (∀ f s, MO (SE N rs lim D R (fun v' j => Pd v' j ∨ (v' = v ∧ j < k)) f s) (E f s)) → (∀ z f, z < 4 → f < 32 → (bt (h 53 z) f = true ↔ Ab N t d D r R k z f)) → H_Search_ride_21 G h (nI (r + 1)) (nI v) (nI t) (nI k) K
  | 0, k, h, E, e, sc, F, ry, ea, mo, ab => by
    have hc8 := nC_le hN t
    refine s_Search_ride_21 G h _ _ _ _ K ⟨in_nI ht (by decide), ?_⟩
    rw [sc.1.c 15, tnI (by omega), ok_C hN, if_pos (by rw [leI (by omega) (by omega)]; omega)]
    rw [show k = nC N t by omega] at mo
    exact kk h E sc F ea mo
  | m + 1, k, h, E, e, sc, F, ry, ea, mo, ab => by
    have hc8 := nC_le hN t
    have hvl := (List.getElem?_eq_some_iff.mp hv).1
    have hnv := NVRe
    refine s_Search_ride_21 G h _ _ _ _ K ⟨in_nI ht (by decide), ?_⟩
    rw [sc.1.c 15, tnI (by omega), ok_C hN, if_neg (by rw [leI (by omega) (by omega)]; omega)]
    have hE : ∀ f s, E f s ≤ NVR := fun f s => (mo f s).le (fun y hy => by have := SE_lt hy; omega)
    have hAb32 : ∀ k z f, Ab N t d D r R k z f → f ≤ D * r := fun k z f ⟨i, _, _, _, h4, _⟩ => h4
    have hD3 := D3 (show r ≤ 3 by omega) hD
    -- behind getting off
    have next : ∀ h2 E2, SC N h2 rs lim D ask → F4 D (r + 1) h0 h2 → RY h2 D r R → EA h2 D (r + 1) E2 → (∀ f s, MO (SE N rs lim D R (fun v' j => Pd v' j ∨ (v' = v ∧ j < k + 1)) f s) (E2 f s)) → (∀ z f, z < 4 → f < 32 → (bt (h2 53 z) f = true ↔ Ab N t d D r R k z f)) → H_Search_ride_60 G h2 (nI (r + 1)) (nI v) (nI t) (nI k) (oP N t k) K := by
      intro h2 E2 sc2 F2 ry2 ea2 mo2 ab2
      refine s_Search_ride_60 G h2 _ _ _ _ _ K ⟨in_nI (by omega) (by decide), ?_⟩
      obtain ⟨e1, e2, e3, e4⟩ := sc2.2.2.2.2.2 v t d hv
      have ih := c_ride_loop (G := G) hN hD hDd hr hl hrs hv hd ht hR hbig kk m (k + 1)
      rw [tnI (by omega), nI_1]
      by_cases cf : fK N t d k = true
      · rw [if_neg (by rw [bit_shr0 (by omega), e3 k (by omega), cf]; decide)]
        refine c_fill_53 (fun h3 ag3 hz3 => ?_)
        refine ih h3 E2 (by omega) (sc2.agr ag3) (F2.b ag3) (ry2.agr (ag3 50 (by decide))) (ea2.agr (ag3 49 (by decide))) mo2 (fun z f hz hf => ?_)
        rw [hz3 z hz, b_0]
        exact ⟨fun q => (by cases q), fun q => absurd q (Ab_full cf z f)⟩
      · have cf' : fK N t d k = false := Bool.eq_false_iff.mpr cf
        rw [if_pos (by rw [bit_shr0 (by omega), e3 k (by omega)]; exact cf')]
        by_cases co : oP N t k = true
        · rw [if_pos co]
          refine c_getOn hN hD hr hrs hv hd (by omega) hR (B := fun z g => bt (h2 53 z) g) sc2 ry2 (fun z f _ _ => rfl) (fun h3 sc3 ag3 ab3 => ?_)
          refine ih h3 E2 (by omega) sc3 (F2.b ag3) (ry2.agr (ag3 50 (by decide))) (ea2.agr (ag3 49 (by decide))) mo2 (fun z f hz hf => ?_)
          rw [ab3 z f hz hf]
          dsimp only
          rw [Bool.or_eq_true, ab2 z f hz hf, Ab_step cf', Bool.and_eq_true, Bool.and_eq_true, decide_eq_true_eq, decide_eq_true_eq, decide_eq_true_eq]
          exact ⟨fun q => q.imp id (fun q => ⟨co, q.1.symm, q.2⟩), fun q => q.imp id (fun q => ⟨q.2.1.symm, q.2.2⟩)⟩
        · rw [if_neg co]
          refine ih h2 E2 (by omega) sc2 F2 ry2 ea2 mo2 (fun z f hz hf => ?_)
          rw [ab2 z f hz hf, Ab_step cf']
          exact ⟨Or.inl, fun q => q.elim id (fun q => absurd q.1 co)⟩
    refine c_isOpen sc.1 ht (by omega) ?_
    by_cases co : oP N t k = true
    · rw [if_pos co]
      refine c_getOff hN hD hDd hr hl hrs hv hd (by omega) hE (B := fun z g => decide (g < 32) && (decide (z < 4) && bt (h 53 z) g)) (fun z f hb => ?_) sc ea (fun z f hz hf => by dsimp only; rw [decide_eq_true hz, decide_eq_true hf]; rfl) (fun h2 m2 sc2 F2 ea2 hm2 => ?_)
      · rw [Bool.and_eq_true, Bool.and_eq_true, decide_eq_true_eq, decide_eq_true_eq] at hb
        exact hAb32 k z f ((ab z f hb.2.1 hb.1).mp hb.2.2)
      · refine next h2 _ sc2 (F.a F2) (ry.agr (F2.1 50 (by decide))) ea2 (fun f s => ?_) (fun z f hz hf => by rw [F2.1 53 (by decide)]; exact ab z f hz hf)
        have hct := cT_le hN hd t k
        have hse := SE_k (lim := lim) (D := D) (r := r) (R := R) (Pd := Pd) hv (show k < nC N t by omega) hbig hN hd f s
        have hbit : f < 32 → (bt m2 f = true ↔ cT N t d k < lim ∧ ∃ z f', z < 4 ∧ Ab N t d D r R k z f' ∧ f' + prz N D z (zn N (sA N t k)) = f) := fun hf => by
          rw [hm2 f hf]
          constructor
          · rintro ⟨q1, z, hz, hp, hb⟩
            rw [Bool.and_eq_true, Bool.and_eq_true, decide_eq_true_eq, decide_eq_true_eq] at hb
            exact ⟨q1, z, _, hz, (ab z _ hz hb.1).mp hb.2.2, by omega⟩
          · rintro ⟨q1, z, f', hz, ha, hp⟩
            have := hAb32 k z f' ha
            refine ⟨q1, z, hz, by omega, ?_⟩
            rw [show f - prz N D z (zn N (sA N t k)) = f' by omega]
            rw [Bool.and_eq_true, Bool.and_eq_true, decide_eq_true_eq, decide_eq_true_eq]
            exact ⟨by omega, hz, (ab z f' hz (by omega)).mpr ha⟩
        unfold Eoff
        by_cases c : s = sA N t k ∧ f < 32 ∧ bt m2 f = true
        · rw [if_pos c]
          obtain ⟨c1, z, f', c2⟩ := (hbit c.2.1).mp c.2.2
          refine (mo f s).add (fun y => ?_) (by omega)
          rw [hse y]
          exact ⟨fun q => q.imp id And.right, fun q => q.imp id (fun q => ⟨⟨co, c.1, c1, z, f', c2⟩, q⟩)⟩
        · rw [if_neg c]
          refine (mo f s).cong (fun y => ?_)
          rw [hse y]
          refine ⟨Or.inl, fun q => q.elim id (fun q => ?_)⟩
          obtain ⟨⟨q1, q2, q3, z, f', hz, ha, hp⟩, -⟩ := q
          have h1 := hAb32 k z f' ha
          have h2 := prz_le hN D z (zn N (sA N t k))
          have hD2 : D * r ≤ 18 := by
            have : D * r ≤ 9 * 2 := Nat.mul_le_mul hD (by omega)
            omega
          have hf : f < 32 := by omega
          exact absurd ⟨q2, hf, (hbit hf).mpr ⟨q3, z, f', hz, ha, hp⟩⟩ c
    · rw [if_neg co]
      refine next h E sc F ry ea (fun f s => ?_) ab
      refine (mo f s).cong (fun y => ?_)
      rw [SE_k (lim := lim) (D := D) (r := r) (R := R) (Pd := Pd) hv (show k < nC N t by omega) hbig hN hd f s y]
      exact ⟨Or.inl, fun q => q.elim id (fun q => absurd q.1.1 co)⟩
theorem c_ride {G : GA} {N h : HP} (hN : NetOK N) {rs : List (Nat × Nat)} {lim D ask r v t d : Nat} (hD : D ≤ 9) (hDd : D = 0 ∨ D = dear N) (hr : r < 3) (hl : lim ≤ 400000) (hrs : rs.length ≤ 132) (hv : rs[v]? = some (t, d)) (hd : d < 100) (ht : t < 24) {R E : Nat → Nat → Nat} (hR : ∀ f s, R f s ≤ NVR) (hbig : ∀ f s, D * r < f → R f s = NVR) (sc : SC N h rs lim D ask) (ry : RY h D r R) (ea : EA h D (r + 1) E) (mo : ∀ f s, MO (SE N rs lim D R (fun v' _ => v' < v) f s) (E f s)) {K : HP → Prop}
    (kk : ∀ h' E', SC N h' rs lim D ask → F4 D (r + 1) h h' → EA h' D (r + 1) E' → (∀ f s, MO (SE N rs lim D R (fun v' _ => v' < v + 1) f s) (E' f s)) → K h') : P_Search_ride G h (nI (r + 1)) (nI v) K := by
  have hvl := (List.getElem?_eq_some_iff.mp hv).1
  refine s_Search_ride_0 G h _ _ K ⟨in_nI (by omega) (by decide), ?_⟩
  obtain ⟨e1, e2, e3, e4⟩ := sc.2.2.2.2.2 v t d hv
  rw [tnI (by omega), e1]
  refine c_fill_53 (fun h2 ag2 hz2 => ?_)
  refine c_ride_loop hN hD hDd hr hl hrs hv hd ht hR hbig (Pd := fun v' _ => v' < v) (h0 := h) (fun h' E' a b c mo' => kk h' E' a b c (fun f s => ?_)) (nC N t) 0 h2 E (by omega) (sc.agr ag2) ((F4.refl _ _ _).b ag2) (ry.agr (ag2 50 (by decide))) (ea.agr (ag2 49 (by decide))) (fun f s => ?_) (fun z f hz hf => ?_)
  · refine (mo' f s).cong (fun y => ?_)
    constructor
    · rintro ⟨v', t', d', i, j, f', hw, hp, h1⟩
      exact ⟨v', t', d', i, j, f', hw, by rcases hp with q | q <;> omega, h1⟩
    · rintro ⟨v', t', d', i, j, f', hw, hp, h1⟩
      refine ⟨v', t', d', i, j, f', hw, ?_, h1⟩
      by_cases c : v' = v
      · subst c
        have := hw.1
        rw [hv] at this
        cases this
        exact Or.inr ⟨rfl, hw.2.2.1⟩
      · exact Or.inl (by omega)
  · refine (mo f s).cong (fun y => ?_)
    constructor
    · rintro ⟨v', t', d', i, j, f', hw, hp, h1⟩
      exact ⟨v', t', d', i, j, f', hw, Or.inl hp, h1⟩
    · rintro ⟨v', t', d', i, j, f', hw, hp, h1⟩
      exact ⟨v', t', d', i, j, f', hw, by rcases hp with q | q <;> omega, h1⟩
  · rw [hz2 z hz, b_0]
    refine ⟨fun q => (by cases q), fun q => ?_⟩
    obtain ⟨i, h1, -⟩ := q
    omega
