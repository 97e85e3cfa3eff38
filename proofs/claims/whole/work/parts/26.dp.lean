/-! ===== the least of a set of times ===== -/
def MO (S : Nat → Prop) (x : Nat) : Prop := (x = NVR ∨ S x) ∧ ∀ y, S y → x ≤ y
theorem MO.uniq {S S' : Nat → Prop} {x x' : Nat} (h : MO S x) (h' : MO S' x') (hs : ∀ y, S y ↔ S' y) (hb : ∀ y, S y → y < NVR) : x = x' := by
  rcases h.1 with a | a
  · rcases h'.1 with b | b
    · rw [a, b]
    · have h1 := h.2 _ ((hs _).mpr b)
      have h2 := hb _ ((hs _).mpr b)
      omega
  · have h1 := h'.2 _ ((hs _).mp a)
    rcases h'.1 with b | b
    · have h2 := hb _ a
      omega
    · have h2 := h.2 _ ((hs _).mpr b)
      omega
theorem MO.none {S : Nat → Prop} (h : ∀ y, ¬ S y) : MO S NVR := ⟨Or.inl rfl, fun y hy => absurd hy (h y)⟩
theorem MO.cong {S S' : Nat → Prop} {x : Nat} (h : MO S x) (hs : ∀ y, S y ↔ S' y) : MO S' x := ⟨h.1.imp id (hs x).mp, fun y hy => h.2 y ((hs y).mpr hy)⟩
theorem MO.add {S S' : Nat → Prop} {x v : Nat} (h : MO S x) (hs : ∀ y, S' y ↔ S y ∨ y = v) (hv : v ≤ NVR) : MO S' (if v < x then v else x) := by
  refine ⟨?_, fun y hy => ?_⟩
  · split
    · exact Or.inr ((hs _).mpr (Or.inr rfl))
    · exact h.1.imp id (fun q => (hs _).mpr (Or.inl q))
  · rcases (hs y).mp hy with q | q
    · have := h.2 y q
      split <;> omega
    · subst q
      split <;> omega
theorem MO.le {S : Nat → Prop} {x : Nat} (h : MO S x) (hb : ∀ y, S y → y < NVR) : x ≤ NVR := by
  rcases h.1 with a | a
  · omega
  · have := hb _ a; omega
theorem MO.iff {S : Nat → Prop} {x b : Nat} (h : MO S x) (hb : b < NVR) : x ≤ b ↔ ∃ y, S y ∧ y ≤ b := by
  refine ⟨fun q => ?_, fun ⟨y, h1, h2⟩ => Nat.le_trans (h.2 y h1) h2⟩
  rcases h.1 with a | a
  · omega
  · exact ⟨x, a, q⟩
theorem MO.mono {S S' : Nat → Prop} {x x' : Nat} (h : MO S x) (h' : MO S' x') (hs : ∀ y, S' y → ∃ z, S z ∧ z ≤ y) (hx : x ≤ NVR) : x ≤ x' := by
  rcases h'.1 with a | a
  · omega
  · obtain ⟨z, h1, h2⟩ := hs _ a
    exact Nat.le_trans (h.2 z h1) h2
/-! ===== rides, labels ===== -/
def Wt (N : HP) (rs : List (Nat × Nat)) (lim v t d i j : Nat) : Prop := rs[v]? = some (t, d) ∧ i < j ∧ j < nC N t ∧ oP N t i = true ∧ oP N t j = true ∧ (∀ k, i ≤ k → k < j → fK N t d k = false) ∧ cT N t d j < lim
def pr (N : HP) (D a b : Nat) : Nat := if D = 0 then 0 else pz N a b
def SE (N : HP) (rs : List (Nat × Nat)) (lim D : Nat) (R : Nat → Nat → Nat) (Pd : Nat → Nat → Prop) (f s y : Nat) : Prop := ∃ v t d i j f', Wt N rs lim v t d i j ∧ Pd v j ∧ R f' (sA N t i) ≤ lT N t d i ∧ f' + pr N D (sA N t i) (sA N t j) = f ∧ sA N t j = s ∧ y = cT N t d j
def SR (N : HP) (ask r : Nat) (E : Nat → Nat → Nat) (f s y : Nat) : Prop := (s < nS N ∧ E f s < NVR ∧ y = E f s + (if r = 0 then 0 else tn (N 3 s))) ∨ ∃ w, w < nW N ∧ tn (N 24 w) = s ∧ E f (tn (N 23 w)) < NVR ∧ y = wE N w (E f (tn (N 23 w))) ask
/-- the table of a question: E rides, fare, stop: when one is there by a ride; R: when one can get on -/
def DP (N : HP) (rs : List (Nat × Nat)) (lim D ask frm : Nat) (E R : Nat → Nat → Nat → Nat) : Prop :=
  (∀ f s, E 0 f s = if f = 0 ∧ s = frm then ask else NVR) ∧ (∀ r f s, r < 3 → MO (SR N ask r (E r) f s) (R r f s)) ∧ ∀ r f s, r < 3 → MO (SE N rs lim D (R r) (fun _ _ => True) f s) (E (r + 1) f s)
def RsOK (rs : List (Nat × Nat)) : Prop := ∀ (v t d : Nat), rs[v]? = some (t, d) → d < 100
theorem SE_lt {N : HP} {rs : List (Nat × Nat)} {lim D : Nat} {R : Nat → Nat → Nat} {Pd : Nat → Nat → Prop} {f s y : Nat} (h : SE N rs lim D R Pd f s y) : y < lim := by
  obtain ⟨v, t, d, i, j, f', hw, -, -, -, -, e⟩ := h
  rw [e]
  exact hw.2.2.2.2.2.2
theorem pr_le {N : HP} (hN : NetOK N) (a b : Nat) : ∀ D, D = 0 ∨ D = dear N → pr N D a b ≤ D := by
  intro D h
  unfold pr
  split
  · omega
  · rcases h with h | h
    · contradiction
    · rw [h]; exact pz_dear hN a b
theorem rs_dayR {N : HP} {ask lim d : Nat} : ∀ n t d', (t, d') ∈ dayR N ask lim d n → d' = d ∧ okR N ask lim t d = true ∧ t < n
  | 0, t, d', h => by simp [dayR] at h
  | n + 1, t, d', h => by
    simp only [dayR, List.mem_append] at h
    rcases h with h | h
    · have := rs_dayR n t d' h
      exact ⟨this.1, this.2.1, by omega⟩
    · by_cases c : okR N ask lim n d = true
      · rw [if_pos c] at h
        have := List.mem_singleton.mp h
        cases this
        exact ⟨rfl, c, by omega⟩
      · rw [if_neg c] at h
        cases h
theorem rs_allR {N : HP} {ask lim : Nat} : ∀ n t d, (t, d) ∈ allR N ask lim n → d < n ∧ okR N ask lim t d = true ∧ t < nT N
  | 0, t, d, h => by simp [allR] at h
  | n + 1, t, d, h => by
    simp only [allR, List.mem_append] at h
    rcases h with h | h
    · have := rs_allR n t d h
      exact ⟨by omega, this.2⟩
    · have := rs_dayR _ t d h
      obtain ⟨h1, h2, h3⟩ := this
      subst h1
      exact ⟨by omega, h2, h3⟩
theorem rs_runs {N : HP} {ask lim v t d : Nat} (h : (runsL N ask lim)[v]? = some (t, d)) : d < 100 ∧ t < nT N ∧ okR N ask lim t d = true := by
  have := rs_allR 100 t d (List.mem_of_getElem? h)
  exact ⟨this.1, this.2.2, this.2.1⟩
/-! ===== rows of labels ===== -/
def bs (D r : Nat) : Nat := r + D * (r * (r - 1) / 2)
def rw' (D r f : Nat) : Nat := (bs D r + f) * 12
theorem bs0 (D : Nat) : bs D 0 = 0 := by simp [bs]
theorem bs1 (D : Nat) : bs D 1 = 1 := by simp [bs]
theorem bs2 (D : Nat) : bs D 2 = 2 + D := by simp [bs]
theorem bs3 (D : Nat) : bs D 3 = 3 + 3 * D := by simp [bs]; omega
theorem bs4 (D : Nat) : bs D 4 = 4 + 6 * D := by simp [bs]; omega
theorem bs_s (D : Nat) : ∀ r, r ≤ 3 → bs D (r + 1) = bs D r + 1 + D * r
  | 0, _ => by rw [bs0, bs1]; omega
  | 1, _ => by rw [bs1, bs2]; omega
  | 2, _ => by rw [bs2, bs3]; omega
  | 3, _ => by rw [bs3, bs4]; omega
  | r + 4, h => by omega
theorem bs_top {D r f : Nat} (hr : r ≤ 3) (hf : f ≤ D * r) (hD : D ≤ 9) : bs D r + f < 58 := by
  have h1 : r = 0 ∨ r = 1 ∨ r = 2 ∨ r = 3 := by omega
  rcases h1 with rfl | rfl | rfl | rfl
  · rw [bs0]; omega
  · rw [bs1]; omega
  · rw [bs2]; omega
  · rw [bs3]; omega
theorem bs_top2 {D r f : Nat} (hr : r < 3) (hf : f ≤ D * r) (hD : D ≤ 9) : bs D r + f < 30 := by
  have h1 : r = 0 ∨ r = 1 ∨ r = 2 := by omega
  rcases h1 with rfl | rfl | rfl
  · rw [bs0]; omega
  · rw [bs1]; omega
  · rw [bs2]; omega
theorem bs_sep {D r r' f f' : Nat} (hr : r ≤ 3) (hr' : r' ≤ 3) (hf : f ≤ D * r) (hf' : f' ≤ D * r') (e : bs D r + f = bs D r' + f') : r = r' ∧ f = f' := by
  have h1 : r = 0 ∨ r = 1 ∨ r = 2 ∨ r = 3 := by omega
  have h2 : r' = 0 ∨ r' = 1 ∨ r' = 2 ∨ r' = 3 := by omega
  rcases h1 with rfl | rfl | rfl | rfl <;> rcases h2 with rfl | rfl | rfl | rfl <;> simp only [bs0, bs1, bs2, bs3] at e <;> omega
theorem rw_sep {D r r' f f' s s' : Nat} (hr : r ≤ 3) (hr' : r' ≤ 3) (hf : f ≤ D * r) (hf' : f' ≤ D * r') (hs : s < 12) (hs' : s' < 12) (e : rw' D r f + s = rw' D r' f' + s') : r = r' ∧ f = f' ∧ s = s' := by
  unfold rw' at e
  have h1 : bs D r + f = bs D r' + f' := by omega
  have h2 := bs_sep hr hr' hf hf' h1
  exact ⟨h2.1, h2.2, by omega⟩
def EA (h : HP) (D r : Nat) (E : Nat → Nat → Nat) : Prop := ∀ f s, f ≤ D * r → s < 12 → h 49 (rw' D r f + s) = nI (E f s)
def RY (h : HP) (D r : Nat) (R : Nat → Nat → Nat) : Prop := ∀ f s, f ≤ D * r → s < 12 → h 50 (rw' D r f + s) = nI (R f s)
theorem D3 {D r : Nat} (hr : r ≤ 3) (hD : D ≤ 9) : D * r ≤ 27 := by
  have : D * r ≤ D * 3 := Nat.mul_le_mul_left D hr
  omega
theorem c_mostFare {G : GA} {h : HP} {D r : Nat} (hd : h 48 10 = nI D) {K : Int32 → HP → Prop} (kk : K (nI (D * r)) h) : P_Search_mostFare G h (nI r) K := by
  refine s_Search_mostFare_0 G h _ K ?_
  rw [hd, pk_mul]
  exact kk
theorem c_row {G : GA} {h : HP} {D r f : Nat} (hd : h 48 10 = nI D) (hr : r ≤ 4) {K : Int32 → HP → Prop} (kk : K (nI (rw' D r f)) h) : P_Search_row G h (nI r) (nI f) K := by
  refine s_Search_row_0 G h _ _ K ?_
  rw [hd]
  have e : (nI r * (nI r - 1)) / 2 = nI (r * (r - 1) / 2) := by
    rcases Nat.eq_zero_or_pos r with z | z
    · subst z; rfl
    · have hm : r * (r - 1) ≤ 4 * 4 := Nat.mul_le_mul hr (by omega)
      rw [show (1 : Int32) = nI 1 from rfl, show (2 : Int32) = nI 2 from rfl, pk_sub (by omega), pk_mul, pk_div (by omega) (by decide) (by decide)]
  rw [e, pk_mul, nI_add, nI_add, show (12 : Int32) = nI 12 from rfl, pk_mul]
  exact kk
theorem c_canCost {G : GA} {h : HP} {D r f : Nat} (hd : h 48 10 = nI D) (hD : D ≤ 9) (hr : r ≤ 3) (hf : f < 1000) {K : Bool → HP → Prop} (kk : K (decide (f ≤ D * r)) h) : P_Search_canCost G h (nI r) (nI f) K := by
  refine s_Search_canCost_0 G h _ _ K (c_between ?_)
  have h3 := D3 hr hD
  rw [if_pos (by rw [decide_eq_true_eq]; exact ⟨nIpos (by omega), by rw [show (3 : Int32) = nI 3 from rfl, leI (by omega) (by omega)]; exact hr⟩)]
  refine c_mostFare hd (c_between ?_)
  by_cases c : f ≤ D * r
  · rw [if_pos (by rw [decide_eq_true_eq]; exact ⟨nIpos (by omega), by rw [leI (by omega) (by omega)]; exact c⟩)]
    rw [decide_eq_true c] at kk
    exact kk
  · rw [if_neg (by rw [decide_eq_true_eq]; exact fun q => c (by have := q.2; rw [leI (by omega) (by omega)] at this; exact this))]
    rw [decide_eq_false c] at kk
    exact kk
