/-! ===== a ticket's way as all is now ===== -/
def rdA (h : HP) (j q : Nat) : Bool := decide ((h 109 (63 * j + 9 * q)).toInt ≤ 2)
def fl (h : HP) (j q : Nat) : Bool := decide (0 < q) && rdA h j (q - 1)
def gT (h : HP) (j q : Nat) : Nat := tn (h 109 (63 * j + 9 * q + 1))
def gD (h : HP) (j q : Nat) : Nat := tn (h 109 (63 * j + 9 * q + 6))
def gN (h : HP) (j q : Nat) : Nat := tn (h 109 (63 * j + 9 * q + 7))
def gF (h : HP) (j q : Nat) : Nat := tn (h 109 (63 * j + 9 * q + 8))
def by' (h : HP) (j q τ : Nat) : Nat := if fl h j q = true then τ + tn (h 3 (sA h (gT h j q) (gN h j q))) else τ
def can (h : HP) (t d on off x : Nat) : Bool := rO h t d && (oP h t on && (oP h t off && decide (x ≤ lT h t d on)))
def tv (h : HP) (j a : Nat) : Nat → Nat → Nat → Bool × Nat
  | 0, _, τ => (true, τ)
  | m + 1, q, τ => if rdA h j q = true then (if can h (gT h j q) (gD h j q) (gN h j q) (gF h j q) (by' h j q τ) = true then tv h j a m (q + 1) (cT h (gT h j q) (gD h j q) (gF h j q)) else (false, q)) else tv h j a m (q + 1) (wE h (gT h j q) τ a)
def enc (x : Bool × Nat) : Int32 := if x.1 = true then nI x.2 else -1 - nI x.2
theorem leg_cases {h : HP} (hN : NetOK h) {l : Nat → Int32} (hl : LegOK h l) : (¬ (l 0).toInt ≤ 2 ∧ l 1 = nI (tn (l 1)) ∧ tn (l 1) < nW h ∧ l 6 = -1) ∨ ((l 0).toInt ≤ 2 ∧ tn (l 1) < nT h ∧ tn (l 6) < 100 ∧ tn (l 7) < tn (l 8) ∧ tn (l 8) < nC h (tn (l 1)) ∧ l 0 = h 12 (tn (l 1)) ∧ l 1 = nI (tn (l 1)) ∧ l 6 = nI (tn (l 6)) ∧ l 7 = nI (tn (l 7)) ∧ l 8 = nI (tn (l 8))) := by
  rcases hl with ⟨h0, ⟨w, hw, e1⟩, e6, _⟩ | ⟨t, d, on, off, h1, h2, h3, h4, h5, h6, h7, h8, h9⟩
  · have := nW_le hN
    refine Or.inl ⟨by omega, ?_, ?_, e6⟩
    · rw [e1, tnI (by omega)]
    · rw [e1, tnI (by omega)]
      exact hw
  · have hT := nT_le hN
    have hC := nC_le hN t
    have hk := (hN.2.2.1.2.1 t).2
    rw [h6, h7, h8, h9, tnI (by omega), tnI (by omega), tnI (by omega), tnI (by omega)]
    exact Or.inr ⟨by rw [h5]; exact hk, h1, h2, h3, h4, h5, rfl, rfl, rfl, rfl⟩
theorem ix7 (t k : Nat) : nI t * 7 + nI k = nI (7 * t + k) := by
  rw [show (7 : Int32) = nI 7 from rfl, pk_mul, nI_add]
  congr 1
  omega
/-- what a ticket's legs are -/
def TL (h : HP) (j k a : Nat) : Prop := j < 30 ∧ k ≤ 7 ∧ a < 144000 ∧ h 36 j = nI k ∧ h 107 j = nI k ∧ h 35 j = nI a ∧ h 108 j = nI a ∧ ∀ q, q < k → h 38 (7 * j + q) = h 109 (63 * j + 9 * q + 1) ∧ h 39 (7 * j + q) = h 109 (63 * j + 9 * q + 6) ∧ h 40 (7 * j + q) = h 109 (63 * j + 9 * q + 7) ∧ h 41 (7 * j + q) = h 109 (63 * j + 9 * q + 8) ∧ LegOK h (fun c => h 109 (63 * j + 9 * q + c))
theorem TL.leg {h : HP} (hN : NetOK h) {j k a q : Nat} (t : TL h j k a) (hq : q < k) : (rdA h j q = false ∧ h 38 (7 * j + q) = nI (gT h j q) ∧ h 109 (63 * j + 9 * q + 1) = nI (gT h j q) ∧ gT h j q < nW h ∧ h 39 (7 * j + q) = -1) ∨ (rdA h j q = true ∧ (gT h j q < nT h ∧ gD h j q < 100 ∧ gN h j q < gF h j q ∧ gF h j q < nC h (gT h j q)) ∧ (h 38 (7 * j + q) = nI (gT h j q) ∧ h 39 (7 * j + q) = nI (gD h j q) ∧ h 40 (7 * j + q) = nI (gN h j q) ∧ h 41 (7 * j + q) = nI (gF h j q)) ∧ h 109 (63 * j + 9 * q + 1) = nI (gT h j q) ∧ h 109 (63 * j + 9 * q + 6) = nI (gD h j q) ∧ h 109 (63 * j + 9 * q + 7) = nI (gN h j q) ∧ h 109 (63 * j + 9 * q + 8) = nI (gF h j q)) := by
  obtain ⟨_, _, _, _, _, _, _, tq⟩ := t
  obtain ⟨e1, e2, e3, e4, hl⟩ := tq q hq
  rcases leg_cases hN hl with ⟨a1, a2, a3, a4⟩ | ⟨a1, a2, a3, a4, a5, a6, a7, a8, a9, a10⟩
  · exact Or.inl ⟨decide_eq_false a1, e1.trans a2, a2, a3, e2.trans a4⟩
  · exact Or.inr ⟨decide_eq_true a1, ⟨a2, a3, a4, a5⟩, ⟨e1.trans a7, e2.trans a8, e3.trans a9, e4.trans a10⟩, a7, a8, a9, a10⟩
theorem wE_t {h : HP} (hN : NetOK h) {w τ a q : Nat} (ha : a < 144000) (hq : q ≤ 8) (ht : τ ≤ 160000 + 4000 * q) : wE h w τ a ≤ 160000 + 4000 * (q + 1) := by
  have h1 := wB_lt hN w τ a
  have h2 := (hN.2.2.2.2.2.2.2.1 w).t
  unfold wE
  rw [if_pos (by rw [NVRe]; omega)]
  split at h1 <;> omega
theorem c_canRide {G : GA} {h : HP} (r : Rel h) {i t d on off x : Nat} (hi : i < 210) (ht : t < nT h) (hd : d < 100) (hof : on < off) (hf : off < nC h t) (hx : x < 1000000) (e1 : h 38 i = nI t) (e2 : h 39 i = nI d) (e3 : h 40 i = nI on) (e4 : h 41 i = nI off) {K : Bool → HP → Prop} (kk : K (can h t d on off x) h) : P_Tickets_canRide G h (nI i) (nI x) K := by
  have hT := nT_le r.1
  have hC := nC_le r.1 t
  have hlT := lT_le r.1 hd t on
  unfold can at kk
  refine s_Tickets_canRide_0 _ _ _ _ _ ⟨in_nI hi (by decide), ?_⟩
  rw [tnI (by omega), e1, e2]
  refine c_runsOn r.1 (On.refl h) (by omega) hd ?_
  cases c1 : rO h t d
  · rw [if_neg (by decide)]
    rw [c1] at kk
    exact kk
  rw [if_pos rfl, e3]
  rw [c1, Bool.true_and] at kk
  refine c_isOpen (On.refl h) (by omega) (by omega) ?_
  cases c2 : oP h t on
  · rw [if_neg (by decide)]
    rw [c2] at kk
    exact kk
  rw [if_pos rfl, e4]
  rw [c2, Bool.true_and] at kk
  refine c_isOpen (On.refl h) (by omega) (by omega) ?_
  cases c3 : oP h t off
  · rw [if_neg (by decide)]
    rw [c3] at kk
    exact kk
  rw [if_pos rfl, e2, e3]
  rw [c3, Bool.true_and] at kk
  refine c_leavesAt r.1 (On.refl h) (by omega) (by omega) ?_
  by_cases c4 : x ≤ lT h t d on
  · rw [if_neg (by rw [ltI (by omega) (by omega)]; omega)]
    rw [decide_eq_true c4] at kk
    exact kk
  · rw [if_pos (by rw [ltI (by omega) (by omega)]; omega)]
    rw [decide_eq_false c4] at kk
    exact kk
theorem c_travel {G : GA} {h : HP} (r : Rel h) {j k a : Nat} (tl : TL h j k a) {K : Int32 → HP → Prop} : ∀ m q τ, q + m = k → τ ≤ 160000 + 4000 * q → K (enc (tv h j a m q τ)) h → H_Tickets_travel_9 G h (nI j) (nI τ) (nI q) K
  | 0, q, τ, e, ht, kk => by
    have tl0 := tl
    obtain ⟨hj, hk, ha, e36, e107, e35, e108, tq⟩ := tl0
    refine s_Tickets_travel_9 _ _ _ _ _ _ ⟨in_nI hj (by decide), ?_⟩
    rw [tnI (by omega), e36, if_pos (by rw [leI (by omega) (by omega)]; omega)]
    exact kk
  | m + 1, q, τ, e, ht, kk => by
    have tl0 := tl
    obtain ⟨hj, hk, ha, e36, e107, e35, e108, tq⟩ := tl0
    have hT := nT_le r.1
    refine s_Tickets_travel_9 _ _ _ _ _ _ ⟨in_nI hj (by decide), ?_⟩
    rw [tnI (by omega), e36, if_neg (by rw [leI (by omega) (by omega)]; omega), ix7, tnI (by omega), e35]
    refine ⟨in_nI (by omega) (by decide), ?_⟩
    rw [nI_1]
    rcases tl.leg r.1 (show q < k by omega) with ⟨a1, a2, _, a3, a4⟩ | ⟨a1, ⟨a2, a3, a4, a5⟩, ⟨b1, b2, b3, b4⟩, _⟩
    · rw [a4, if_neg (by decide), a2]
      refine c_endsAt r.1 (On.refl h) a3 (Or.inl (by omega)) (by omega) ?_
      refine c_travel r tl m (q + 1) _ (by omega) (wE_t r.1 ha (by omega) ht) ?_
      rw [tv, a1, if_neg (by decide)] at kk
      exact kk
    · have hC := nC_le r.1 (gT h j q)
      have hs := sA_lt r.1 (gT h j q) (gN h j q)
      have h3 := (r.1.1.2.1 (sA h (gT h j q) (gN h j q))).t
      have h3e := (r.1.1.2.1 (sA h (gT h j q) (gN h j q))).e
      have fin : ∀ x, x = by' h j q τ → H_Tickets_travel_105 G h (nI j) (nI q) (nI (7 * j + q)) (nI x) (nI (7 * j + q)) K := by
        intro x hx
        have hb : x < 1000000 := by
          rw [hx]
          unfold by'
          split <;> omega
        refine s_Tickets_travel_105 _ _ _ _ _ _ _ _ ?_
        refine c_canRide r (by omega) a2 a3 a4 a5 hb b1 b2 b3 b4 ?_
        rw [hx]
        rw [tv, if_pos a1] at kk
        cases c : can h (gT h j q) (gD h j q) (gN h j q) (gF h j q) (by' h j q τ)
        · rw [if_neg (by decide)]
          rw [c, if_neg (by decide)] at kk
          exact kk
        · rw [if_pos rfl, tnI (by omega), b1, b2, b4, nI_1]
          rw [c, if_pos rfl] at kk
          refine ⟨in_nI (by omega) (by decide), c_comesAt r.1 (On.refl h) (by omega) (by omega) ?_⟩
          exact c_travel r tl m (q + 1) (cT h (gT h j q) (gD h j q) (gF h j q)) (by omega) (Nat.le_trans (cT_le r.1 a3 (gT h j q) (gF h j q)) (Nat.le_add_right _ _)) kk
      rw [b2, if_pos (nIpos (by omega))]
      rcases Nat.eq_zero_or_pos q with q0 | q0
      · rw [if_pos (by rw [q0]; decide)]
        refine s_Tickets_travel_82 _ _ _ _ _ _ _ (s_Tickets_travel_83 _ _ _ _ _ _ _ _ ?_)
        rw [if_pos rfl]
        exact fin τ (by unfold by' fl; rw [decide_eq_false (by omega), Bool.false_and, if_neg (by decide)])
      · rw [if_neg (by rw [show (0 : Int32) = nI 0 from rfl, leI (by omega) (by omega)]; omega)]
        rw [show nI (7 * j + q) - 1 = nI (7 * j + (q - 1)) by rw [show 7 * j + q = (7 * j + (q - 1)) + 1 by omega, sub1], tnI (by omega)]
        refine ⟨in_nI (by omega) (by decide), ?_⟩
        rcases tl.leg r.1 (show q - 1 < k by omega) with ⟨p1, _, _, _, p4⟩ | ⟨p1, ⟨_, p3, _⟩, ⟨_, p5, _⟩, _⟩
        · rw [p4, if_pos (by decide)]
          refine s_Tickets_travel_82 _ _ _ _ _ _ _ (s_Tickets_travel_83 _ _ _ _ _ _ _ _ ?_)
          rw [if_pos rfl]
          exact fin τ (by unfold by' fl; rw [p1, Bool.and_false, if_neg (by decide)])
        · rw [p5, if_neg (nIneg (by omega))]
          refine s_Tickets_travel_83 _ _ _ _ _ _ _ _ ?_
          rw [if_neg (by decide)]
          refine s_Tickets_changeAt_0 _ _ _ _ ?_
          rw [tnI (by omega), b1, b3, ix8, tnI (by omega), ok_sA r.1, tnI (by omega), h3e, nI_add]
          refine ⟨in_nI (by omega) (by decide), in_nI (by omega) (by decide), in_nI (by omega) (by decide), ?_⟩
          exact fin _ (by unfold by' fl; rw [p1, decide_eq_true q0, Bool.true_and, if_pos rfl])
theorem ix63 (j q c : Nat) : 63 * nI j + 9 * nI q + nI c = nI (63 * j + 9 * q + c) := by
  rw [show (63 : Int32) = nI 63 from rfl, show (9 : Int32) = nI 9 from rfl, pk_mul, pk_mul, nI_add, nI_add]
theorem ix63' (j q : Nat) : 63 * nI j + 9 * nI q = nI (63 * j + 9 * q) := by
  rw [show (63 : Int32) = nI 63 from rfl, show (9 : Int32) = nI 9 from rfl, pk_mul, pk_mul, nI_add]
theorem cm_ride1 {G : GA} {h : HP} (r : Rel h) {j a q t d on off x : Nat} (hq : q < 8) (ht : t < nT h) (hd : d < 100) (hof : on < off) (hf : off < nC h t) (hx : x < 1000000) {K : Int32 → HP → Prop} (k1 : can h t d on off x = true → H_Model_still_26 G h (nI j) (nI a) (nI (cT h t d off)) true (nI (q + 1)) K) (k2 : can h t d on off x = false → K (nI (q + 1)) h) : H_Model_still_151 G h (nI j) (nI a) (nI q) (nI t) (nI d) (nI on) (nI off) (nI x) K := by
  have hT := nT_le r.1
  have hC := nC_le r.1 t
  have hlT := lT_le r.1 hd t on
  have hm := r.2.2.1
  have i1 : (1 : Int32) + nI q = nI (q + 1) := by
    rw [show (1 : Int32) = nI 1 from rfl, nI_add, Nat.add_comm]
  have mi : ∀ k, k < 8 → (h 79 (8 * t + k) = 0 ↔ oP h t k = true) := by
    intro k hk
    rw [hm.2.2.1 t k (by omega) hk]
    unfold oP
    cases bt (h 16 t) k <;> simp
  unfold can at k1 k2
  refine s_Model_still_151 _ _ _ _ _ _ _ _ _ _ _ ?_
  refine cm_runs r.1 hm (by omega) hd ?_
  rw [i1]
  cases c1 : rO h t d
  · rw [if_neg (by decide)]
    exact k2 (by rw [c1]; rfl)
  rw [if_pos rfl, ix8', ix8', tnI (by omega), tnI (by omega)]
  rw [c1, Bool.true_and] at k1 k2
  refine ⟨in_nI (by omega) (by decide), ?_⟩
  cases c2 : oP h t on
  · rw [if_neg (by rw [mi on (by omega), c2]; decide)]
    exact k2 (by rw [c2]; rfl)
  rw [if_pos ((mi on (by omega)).mpr c2)]
  rw [c2, Bool.true_and] at k1 k2
  refine ⟨in_nI (by omega) (by decide), ?_⟩
  cases c3 : oP h t off
  · rw [if_neg (by rw [mi off (by omega), c3]; decide)]
    exact k2 (by rw [c3]; rfl)
  rw [if_pos ((mi off (by omega)).mpr c3)]
  rw [c3, Bool.true_and] at k1 k2
  refine cm_leavesAt r.1 hm (by omega) (by omega) ?_
  by_cases c4 : x ≤ lT h t d on
  · rw [if_pos (by rw [leI (by omega) (by omega)]; omega), nI_1]
    refine cm_comesAt r.1 hm (by omega) (by omega) ?_
    exact k1 (decide_eq_true c4)
  · rw [if_neg (by rw [leI (by omega) (by omega)]; omega)]
    exact k2 (decide_eq_false c4)
theorem cm_travel {G : GA} {h : HP} (r : Rel h) {j k a : Nat} (tl : TL h j k a) {K : Int32 → HP → Prop} : ∀ m q τ b, q + m = k → τ ≤ 160000 + 4000 * q → b = fl h j q → (∀ y, tv h j a m q τ = (true, y) → K 0 (up h 67 57 (nI y))) → (∀ y, tv h j a m q τ = (false, y) → K (nI (y + 1)) h) → H_Model_still_26 G h (nI j) (nI a) (nI τ) b (nI q) K
  | 0, q, τ, b, e, ht, eb, k1, k2 => by
    have tl0 := tl
    obtain ⟨hj, hk, ha, e36, e107, e35, e108, tq⟩ := tl0
    refine s_Model_still_26 _ _ _ _ _ _ _ _ ⟨in_nI hj (by decide), ?_⟩
    rw [tnI (by omega), e107, if_pos (by rw [leI (by omega) (by omega)]; omega)]
    intro g eg
    subst eg
    exact k1 τ rfl
  | m + 1, q, τ, b, e, ht, eb, k1, k2 => by
    have tl0 := tl
    obtain ⟨hj, hk, ha, e36, e107, e35, e108, tq⟩ := tl0
    have hT := nT_le r.1
    have hm := r.2.2.1
    refine s_Model_still_26 _ _ _ _ _ _ _ _ ⟨in_nI hj (by decide), ?_⟩
    rw [tnI (by omega), e107, if_neg (by rw [leI (by omega) (by omega)]; omega)]
    rw [show (63 : Int32) * nI j + 9 * nI q + 1 = nI (63 * j + 9 * q + 1) from ix63 j q 1, show (63 : Int32) * nI j + 9 * nI q + 6 = nI (63 * j + 9 * q + 6) from ix63 j q 6, show (63 : Int32) * nI j + 9 * nI q + 7 = nI (63 * j + 9 * q + 7) from ix63 j q 7, show (63 : Int32) * nI j + 9 * nI q + 8 = nI (63 * j + 9 * q + 8) from ix63 j q 8, ix63' j q, nI_1, tnI (by omega), tnI (by omega), tnI (by omega), tnI (by omega), tnI (by omega)]
    refine ⟨in_nI (by omega) (by decide), in_nI (by omega) (by decide), ?_⟩
    have two : (2 : Int32).toInt = 2 := rfl
    have efl : fl h j (q + 1) = rdA h j q := by
      unfold fl
      rw [decide_eq_true (by omega), Bool.true_and, Nat.add_sub_cancel]
    rcases tl.leg r.1 (show q < k by omega) with ⟨a1, _, a2, a3, a4⟩ | ⟨a1, ⟨a2, a3, a4, a5⟩, _, b1, b2, b3, b4⟩
    · rw [if_neg (by rw [fa_le, two]; exact of_decide_eq_false a1), a2]
      refine cm_behind r.1 hm a3 (by omega) (by omega) ?_
      rw [tv, a1, if_neg (by decide)] at k1 k2
      have ew : wE h (gT h j q) τ a = wE h (gT h j q) τ a := rfl
      exact cm_travel r tl m (q + 1) (wE h (gT h j q) τ a) false (by omega) (wE_t r.1 ha (by omega) ht) (by rw [efl, a1]) k1 k2
    · have hC := nC_le r.1 (gT h j q)
      have hs := sA_lt r.1 (gT h j q) (gN h j q)
      have h3 := (r.1.1.2.1 (sA h (gT h j q) (gN h j q))).t
      have h3e := (r.1.1.2.1 (sA h (gT h j q) (gN h j q))).e
      rw [if_pos (by rw [fa_le, two]; exact of_decide_eq_true a1), b1, b2, b3, b4]
      refine ⟨in_nI (by omega) (by decide), in_nI (by omega) (by decide), in_nI (by omega) (by decide), ?_⟩
      rw [tv, if_pos a1] at k1 k2
      have fin : ∀ x, x = by' h j q τ → H_Model_still_151 G h (nI j) (nI a) (nI q) (nI (gT h j q)) (nI (gD h j q)) (nI (gN h j q)) (nI (gF h j q)) (nI x) K := by
        intro x hx
        have hb : x < 1000000 := by
          rw [hx]
          unfold by'
          split <;> omega
        refine cm_ride1 r (by omega) a2 a3 a4 a5 hb (fun c => ?_) (fun c => ?_)
        · rw [hx] at c
          rw [if_pos c] at k1 k2
          exact cm_travel r tl m (q + 1) (cT h (gT h j q) (gD h j q) (gF h j q)) true (by omega) (Nat.le_trans (cT_le r.1 a3 (gT h j q) (gF h j q)) (Nat.le_add_right _ _)) (by rw [efl, a1]) k1 k2
        · rw [hx] at c
          rw [c, if_neg (by decide)] at k2
          exact k2 q rfl
      cases b
      · rw [if_neg (by decide)]
        exact fin τ (by unfold by'; rw [← eb, if_neg (by decide)])
      · rw [if_pos rfl, ix8', tnI (by omega), hm.c 76 17, ok_sA r.1, tnI (by omega), hm.c 68 3, h3e, nI_add]
        refine ⟨in_nI (by omega) (by decide), in_nI (by omega) (by decide), fin _ (by unfold by'; rw [← eb, if_pos rfl])⟩
