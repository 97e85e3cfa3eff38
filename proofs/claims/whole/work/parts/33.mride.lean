/-! ===== the reference's rides ===== -/
def GC (N h : HP) (rs : List (Nat × Nat)) (lim ask frm : Nat) : Prop := OnM h N ∧ h 67 31 = nI ask ∧ h 67 32 = nI lim ∧ h 67 40 = nI frm ∧ RM N h rs
theorem RM.cells {N h h' : HP} {rs : List (Nat × Nat)} (r : RM N h rs) (e : ∀ k, 94 ≤ k → k ≤ 97 → h' k = h k) (e2 : h' 67 33 = h 67 33) : RM N h' rs := by
  unfold RM
  rw [e 94 (by decide) (by decide), e 95 (by decide) (by decide), e 96 (by decide) (by decide), e 97 (by decide) (by decide), e2]
  exact r
theorem GC.am {N h h' : HP} {rs : List (Nat × Nat)} {lim ask frm : Nat} {S T : List Nat} (g : GC N h rs lim ask frm) (a : AM S T h h') (hS : ∀ k, k ∈ S → 98 ≤ k := by decide) (hT : ∀ j, j ∈ T → 41 ≤ j := by decide) : GC N h' rs lim ask frm := by
  obtain ⟨g1, g2, g3, g4, g5⟩ := g
  refine ⟨g1.am a (fun k hk => by have := hS k hk; omega) (fun k hk => by have := hT k hk; omega), ?_, ?_, ?_, g5.cells (fun k h1 h2 => a.1 k (fun q => by have := hS k q; omega) (by omega)) (a.2 33 (fun q => by have := hT 33 q; omega))⟩
  · rw [a.2 31 (fun q => by have := hT 31 q; omega)]; exact g2
  · rw [a.2 32 (fun q => by have := hT 32 q; omega)]; exact g3
  · rw [a.2 40 (fun q => by have := hT 40 q; omega)]; exact g4
theorem GC.pt {N h : HP} {rs : List (Nat × Nat)} {lim ask frm : Nat} (g : GC N h rs lim ask frm) {k : Nat} (hk : 98 ≤ k) (j : Nat) (x : Int32) : GC N (up h k j x) rs lim ask frm :=
  g.am (S := [k]) (T := []) ((AM.refl _ _ _).pt (List.mem_singleton.mpr rfl) (by omega) j x) (fun q hq => by rw [List.mem_singleton.mp hq]; exact hk) (by decide)
def mi (r f s : Nat) : Nat := (28 * r + f) * 12 + s
theorem mi_lt {r f s : Nat} (hr : r ≤ 3) (hf : f < 28) (hs : s < 12) : mi r f s < 1344 := by unfold mi; omega
theorem mi_sep {r r' f f' s s' : Nat} (hf : f < 28) (hf' : f' < 28) (hs : s < 12) (hs' : s' < 12) (e : mi r f s = mi r' f' s') : r = r' ∧ f = f' ∧ s = s' := by
  unfold mi at e
  refine ⟨by omega, by omega, by omega⟩
def EM (h : HP) (r : Nat) (E : Nat → Nat → Nat) : Prop := ∀ f s, f < 28 → s < 12 → h 98 (mi r f s) = nI (E f s)
def YM (h : HP) (r : Nat) (R : Nat → Nat → Nat) : Prop := ∀ f s, f < 28 → s < 12 → h 99 (mi r f s) = nI (R f s)
theorem EM.put {h : HP} {r : Nat} {E : Nat → Nat → Nat} (y : EM h r E) {f s : Nat} (hf : f < 28) (hs : s < 12) (x : Nat) : EM (up h 98 (mi r f s) (nI x)) r (upd2 E f s x) := by
  intro f' s' hf' hs'
  by_cases c : f' = f ∧ s' = s
  · rw [c.1, c.2, up_at, upd2_at]
  · rw [up_sl _ _ (fun e => c (mi_sep hf' hf hs' hs e).2), upd2_ne _ c]
    exact y f' s' hf' hs'
theorem EM.other {h : HP} {r r' : Nat} {E : Nat → Nat → Nat} (y : EM h r' E) (hne : r' ≠ r) {f s : Nat} (hf : f < 28) (hs : s < 12) (x : Int32) : EM (up h 98 (mi r f s) x) r' E := by
  intro f' s' hf' hs'
  rw [up_sl _ _ (fun e => hne (mi_sep hf' hf hs' hs e).1)]
  exact y f' s' hf' hs'
theorem YM.put {h : HP} {r : Nat} {E : Nat → Nat → Nat} (y : YM h r E) {f s : Nat} (hf : f < 28) (hs : s < 12) (x : Nat) : YM (up h 99 (mi r f s) (nI x)) r (upd2 E f s x) := by
  intro f' s' hf' hs'
  by_cases c : f' = f ∧ s' = s
  · rw [c.1, c.2, up_at, upd2_at]
  · rw [up_sl _ _ (fun e => c (mi_sep hf' hf hs' hs e).2), upd2_ne _ c]
    exact y f' s' hf' hs'
theorem YM.other {h : HP} {r r' : Nat} {E : Nat → Nat → Nat} (y : YM h r' E) (hne : r' ≠ r) {f s : Nat} (hf : f < 28) (hs : s < 12) (x : Int32) : YM (up h 99 (mi r f s) x) r' E := by
  intro f' s' hf' hs'
  rw [up_sl _ _ (fun e => hne (mi_sep hf' hf hs' hs e).1)]
  exact y f' s' hf' hs'
theorem EM.agr {h h' : HP} {r : Nat} {E : Nat → Nat → Nat} (y : EM h r E) (e : h' 98 = h 98) : EM h' r E := fun f s hf hs => by rw [e]; exact y f s hf hs
theorem YM.agr {h h' : HP} {r : Nat} {E : Nat → Nat → Nat} (y : YM h r E) (e : h' 99 = h 99) : YM h' r E := fun f s hf hs => by rw [e]; exact y f s hf hs
theorem cm_at {G : GA} {h : HP} {r f s : Nat} {K : Int32 → HP → Prop} (kk : K (nI (mi r f s)) h) : P_Model_at G h (nI r) (nI f) (nI s) K := by
  refine s_Model_at_0 G h _ _ _ K ?_
  rw [show (28 : Int32) = nI 28 from rfl, show (12 : Int32) = nI 12 from rfl, pk_mul, nI_add, pk_mul, nI_add, Nat.mul_comm r 28]
  exact kk
theorem cm_least_98 {G : GA} {h : HP} {i x y : Nat} (hi : i < 1344) (hx : x < 2147483648) (hy : y < 2147483648) (e : h 98 i = nI y) {K : HP → Prop} (kk : K (up h 98 i (nI (if x < y then x else y)))) : P_Model_least_98 G h (nI i) (nI x) K := by
  refine s_Model_least_98_0 G h _ _ K ⟨in_nI hi (by decide), ?_⟩
  rw [tnI (by omega), e]
  by_cases c : x < y
  · rw [if_pos c] at kk
    rw [if_neg (by rw [leI hy hx]; omega)]
    rintro _ rfl
    exact kk
  · rw [if_neg c] at kk
    rw [if_pos (by rw [leI hy hx]; omega)]
    rintro _ rfl
    exact kk
theorem cm_least_99 {G : GA} {h : HP} {i x y : Nat} (hi : i < 1344) (hx : x < 2147483648) (hy : y < 2147483648) (e : h 99 i = nI y) {K : HP → Prop} (kk : K (up h 99 i (nI (if x < y then x else y)))) : P_Model_least_99 G h (nI i) (nI x) K := by
  refine s_Model_least_99_0 G h _ _ K ⟨in_nI hi (by decide), ?_⟩
  rw [tnI (by omega), e]
  by_cases c : x < y
  · rw [if_pos c] at kk
    rw [if_neg (by rw [leI hy hx]; omega)]
    rintro _ rfl
    exact kk
  · rw [if_neg c] at kk
    rw [if_pos (by rw [leI hy hx]; omega)]
    rintro _ rfl
    exact kk
theorem cm_fareOf {G : GA} {h N : HP} (hN : NetOK N) (hm : OnM h N) {t i j : Nat} (ht : t < 24) (hi : i < 8) (hj : j < 8) {K : Int32 → HP → Prop} (kk : K (nI (pz N (sA N t i) (sA N t j))) h) : P_Model_fareOf G h (nI t) (nI i) (nI j) K := by
  refine s_Model_fareOf_0 G h _ _ _ K ?_
  have h1 := sA_lt hN t i
  have h2 := sA_lt hN t j
  have h3 := zn_lt hN (sA N t i)
  have h4 := zn_lt hN (sA N t j)
  rw [ix8', ix8', tnI (by omega), tnI (by omega), hm.c 76 17, ok_sA hN, ok_sA hN, tnI (by omega), tnI (by omega), hm.c 69 4, ok_z hN, ok_z hN, ix4', tnI (by omega), hm.c 70 5, (hN.1.2.2.2 _).e]
  exact ⟨in_nI (by omega) (by decide), in_nI (by omega) (by decide), in_nI (by omega) (by decide), in_nI (by omega) (by decide), in_nI (by omega) (by decide), kk⟩
theorem cm_hasPlace_loop {G : GA} {h N : HP} (hN : NetOK N) (hP : PlOK N) (hm : OnM h N) {t d j : Nat} (ht : t < 24) (hd : d < 100) (hj : j < 8) {K : Bool → HP → Prop} : ∀ (m k : Nat), k + m = j → (∀ b, (b = true ↔ ∀ q, k ≤ q → q < j → fK N t d q = false) → K b h) → H_Model_hasPlace_34 G h (nI t) (nI d) (nI j) (nI k) K
  | 0, k, e, kk => by
    refine s_Model_hasPlace_34 G h _ _ _ _ K ?_
    rw [if_pos (by rw [leI (by omega) (by omega)]; omega)]
    exact kk true ⟨fun _ q h1 h2 => by omega, fun _ => rfl⟩
  | m + 1, k, e, kk => by
    refine s_Model_hasPlace_34 G h _ _ _ _ K ?_
    rw [if_neg (by rw [leI (by omega) (by omega)]; omega), tnI (by omega), hm.c 72 12, hm.c 74 14, nI_1]
    refine ⟨in_nI ht (by decide), ?_⟩
    by_cases c : N 12 t = 0
    · rw [if_pos c]
      exact kk true ⟨fun _ q h1 h2 => fK_0 c d q, fun _ => rfl⟩
    · rw [if_neg c]
      have e1 : (100 * nI t + nI d) * 8 + nI k = nI ((100 * t + d) * 8 + k) := by
        rw [ix100', show (8 : Int32) = nI 8 from rfl, pk_mul, nI_add]
      rw [e1, tnI (by omega), hm.2.2.2.2 t d k ht hd (by omega)]
      refine ⟨in_nI (by omega) (by decide), ?_⟩
      have ef : fK N t d k = decide (N 14 t ≤ tkN N t d k) := by rw [fK_1 c, decide_eq_true (show k < 8 by omega), Bool.true_and]
      by_cases c2 : tkN N t d k < N 14 t
      · rw [if_pos c2]
        refine cm_hasPlace_loop hN hP hm ht hd hj m (k + 1) (by omega) (fun b hb => kk b ?_)
        rw [hb]
        constructor
        · intro q q' h1 h2
          by_cases cq : q' = k
          · rw [cq, ef, decide_eq_false (by rw [fa_le]; rw [fa_lt] at c2; omega)]
          · exact q q' (by omega) h2
        · exact fun q q' h1 h2 => q q' (by omega) h2
      · rw [if_neg c2]
        refine kk false ⟨fun q => (by cases q), fun q => ?_⟩
        have := q k (Nat.le_refl _) (by omega)
        rw [ef, decide_eq_true (by rw [fa_le]; rw [fa_lt] at c2; omega)] at this
        cases this
theorem oP_iff {h N : HP} (hm : OnM h N) {t k : Nat} (ht : t < 24) (hk : k < 8) : h 79 (8 * t + k) = 0 ↔ oP N t k = true := by
  rw [hm.2.2.1 t k ht hk]
  unfold oP
  cases bt (N 16 t) k <;> simp
theorem cm_hasPlace {G : GA} {h N : HP} (hN : NetOK N) (hP : PlOK N) (hm : OnM h N) {t d i j : Nat} (ht : t < 24) (hd : d < 100) (hi : i < j) (hj : j < 8) {K : Bool → HP → Prop} (kk : ∀ b, (b = true ↔ oP N t i = true ∧ oP N t j = true ∧ ∀ q, i ≤ q → q < j → fK N t d q = false) → K b h) : P_Model_hasPlace G h (nI t) (nI d) (nI i) (nI j) K := by
  refine s_Model_hasPlace_0 G h _ _ _ _ K ?_
  rw [ix8', ix8', tnI (by omega), tnI (by omega)]
  refine ⟨in_nI (by omega) (by decide), ?_⟩
  have h1 := oP_iff hm (k := i) ht (by omega)
  have h2 := oP_iff hm (k := j) ht (by omega)
  by_cases c1 : h 79 (8 * t + i) = 0
  · rw [if_pos c1]
    refine ⟨in_nI (by omega) (by decide), ?_⟩
    by_cases c2 : h 79 (8 * t + j) = 0
    · rw [if_pos c2]
      refine cm_hasPlace_loop hN hP hm ht hd hj (j - i) i (by omega) (fun b hb => kk b ?_)
      rw [hb]
      exact ⟨fun q => ⟨h1.mp c1, h2.mp c2, q⟩, fun q => q.2.2⟩
    · rw [if_neg c2]
      exact kk false ⟨fun q => (by cases q), fun q => absurd (h2.mpr q.2.1) c2⟩
  · rw [if_neg c1]
    exact kk false ⟨fun q => (by cases q), fun q => absurd (h1.mpr q.1) c1⟩
/-! ===== one ride more ===== -/
def SE4 (N : HP) (rs : List (Nat × Nat)) (lim : Nat) (R : Nat → Nat → Nat) (Pd : Nat → Nat → Nat → Nat → Prop) (f s y : Nat) : Prop := ∃ v t d i j f', Wt N rs lim v t d i j ∧ Pd v i j f' ∧ R f' (sA N t i) ≤ lT N t d i ∧ f' + pz N (sA N t i) (sA N t j) = f ∧ sA N t j = s ∧ y = cT N t d j
theorem SE4_cong {N : HP} {rs : List (Nat × Nat)} {lim : Nat} {R : Nat → Nat → Nat} {Pd Pd' : Nat → Nat → Nat → Nat → Prop} (h : ∀ v t d i j g, Wt N rs lim v t d i j → R g (sA N t i) ≤ lT N t d i → (Pd v i j g ↔ Pd' v i j g)) (f s y : Nat) : SE4 N rs lim R Pd f s y ↔ SE4 N rs lim R Pd' f s y := by
  constructor
  · rintro ⟨v, t, d, i, j, g, h1, h2, h3, h4⟩
    exact ⟨v, t, d, i, j, g, h1, (h v t d i j g h1 h3).mp h2, h3, h4⟩
  · rintro ⟨v, t, d, i, j, g, h1, h2, h3, h4⟩
    exact ⟨v, t, d, i, j, g, h1, (h v t d i j g h1 h3).mpr h2, h3, h4⟩
theorem SE4_add {N : HP} {rs : List (Nat × Nat)} {lim v t d i j g : Nat} {R : Nat → Nat → Nat} {Pd Pd' : Nat → Nat → Nat → Nat → Prop} (hp : ∀ a b c e, Pd' a b c e ↔ Pd a b c e ∨ (a = v ∧ b = i ∧ c = j ∧ e = g)) (hw : Wt N rs lim v t d i j) (hR : R g (sA N t i) ≤ lT N t d i) (f s y : Nat) :
    SE4 N rs lim R Pd' f s y ↔ SE4 N rs lim R Pd f s y ∨ ((f = g + pz N (sA N t i) (sA N t j) ∧ s = sA N t j) ∧ y = cT N t d j) := by
  constructor
  · rintro ⟨v', t', d', i', j', g', h1, h2, h3, h4, h5, h6⟩
    rcases (hp v' i' j' g').mp h2 with q | ⟨rfl, rfl, rfl, rfl⟩
    · exact Or.inl ⟨v', t', d', i', j', g', h1, q, h3, h4, h5, h6⟩
    · have e := h1.1
      rw [hw.1] at e
      cases e
      exact Or.inr ⟨⟨h4.symm, h5.symm⟩, h6⟩
  · rintro (⟨v', t', d', i', j', g', h1, h2, h3, h4⟩ | ⟨⟨h1, h2⟩, h3⟩)
    · exact ⟨v', t', d', i', j', g', h1, (hp _ _ _ _).mpr (Or.inl h2), h3, h4⟩
    · exact ⟨v, t, d, i, j, g, hw, (hp _ _ _ _).mpr (Or.inr ⟨rfl, rfl, rfl, rfl⟩), hR, h1.symm, h2.symm, h3⟩
theorem SE4_lt {N : HP} {rs : List (Nat × Nat)} {lim : Nat} {R : Nat → Nat → Nat} {Pd : Nat → Nat → Nat → Nat → Prop} {f s y : Nat} (h : SE4 N rs lim R Pd f s y) : y < lim := by
  obtain ⟨v, t, d, i, j, g, h1, -, -, -, -, e⟩ := h
  rw [e]
  exact h1.2.2.2.2.2.2
def PL (v i j g : Nat) : Nat → Nat → Nat → Nat → Prop := fun v' i' j' g' => v' < v ∨ (v' = v ∧ (i' < i ∨ (i' = i ∧ (j' < j ∨ (j' = j ∧ g' < g)))))
