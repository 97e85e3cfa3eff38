/-! ===== the sizes as ints ===== -/
theorem ok_S {N : HP} (h : NetOK N) : N 2 3 = nI (nS N) := h.1.1.e
theorem ok_L {N : HP} (h : NetOK N) : N 6 4 = nI (nL N) := h.2.1.1.e
theorem ok_T {N : HP} (h : NetOK N) : N 11 11 = nI (nT N) := h.2.2.1.1.e
theorem ok_W {N : HP} (h : NetOK N) : N 22 8 = nI (nW N) := h.2.2.2.2.1.e
theorem ok_C {N : HP} (h : NetOK N) (t : Nat) : N 15 t = nI (nC N t) := (h.2.2.1.2.2.2.2.1 t).e
theorem ok_sA {N : HP} (h : NetOK N) (t k : Nat) : N 17 (8 * t + k) = nI (sA N t k) := (h.2.2.2.1.1 _).e
theorem ok_aA {N : HP} (h : NetOK N) (t k : Nat) : N 18 (8 * t + k) = nI (aA N t k) := (h.2.2.2.1.2.1 _).e
theorem ok_lA {N : HP} (h : NetOK N) (t k : Nat) : N 19 (8 * t + k) = nI (lA N t k) := (h.2.2.2.1.2.2.1 _).e
theorem sA_lt {N : HP} (h : NetOK N) (t k : Nat) : sA N t k < 12 := by
  have := (h.2.2.2.1.1 (8 * t + k)).t
  unfold sA
  omega
theorem ix8 (t k : Nat) : nI t * 8 + nI k = nI (8 * t + k) := by
  rw [show (8 : Int32) = nI 8 from rfl, pk_mul, nI_add]
  congr 1
  omega
theorem ix8' (t k : Nat) : 8 * nI t + nI k = nI (8 * t + k) := by
  rw [show (8 : Int32) = nI 8 from rfl, pk_mul, nI_add]
theorem leI {a b : Nat} (ha : a < 2147483648) (hb : b < 2147483648) : nI a ≤ nI b ↔ a ≤ b := nI_leI ha hb
theorem ltI {a b : Nat} (ha : a < 2147483648) (hb : b < 2147483648) : nI a < nI b ↔ a < b := nI_ltI ha hb
theorem eqI {a b : Nat} (ha : a < 2147483648) (hb : b < 2147483648) : nI a = nI b ↔ a = b := nI_eq ha hb
theorem nIneg {a : Nat} (ha : a < 2147483648) : ¬ nI a < 0 := nI_pos ha
theorem nIpos {a : Nat} (ha : a < 2147483648) : (0 : Int32) ≤ nI a := nI_pos' ha
/-! ===== plain tests ===== -/
theorem c_between {G : GA} {h : HP} {x a b : Int32} {K : Bool → HP → Prop} (k : K (decide (a ≤ x ∧ x ≤ b)) h) : P_Desk_between G h x a b K := by
  refine s_Desk_between_0 G h x a b K ?_
  split
  · rename_i c
    rw [decide_eq_false (by rw [fa_le, fa_lt] at *; omega)] at k
    exact k
  · split
    · rename_i c
      rw [decide_eq_false (by rw [fa_le, fa_lt] at *; rw [fa_le]; omega)] at k
      exact k
    · rename_i c1 c2
      rw [decide_eq_true (by rw [fa_lt] at c1 c2; rw [fa_le, fa_le]; omega)] at k
      exact k
theorem c_isZone {G : GA} {h : HP} {x : Int32} {K : Bool → HP → Prop} (k : K (decide (0 ≤ x ∧ x ≤ 3)) h) : P_Desk_isZone G h x K := s_Desk_isZone_0 G h x K (c_between k)
theorem c_isDay {G : GA} {h : HP} {x : Int32} {K : Bool → HP → Prop} (k : K (decide (0 ≤ x ∧ x ≤ 99)) h) : P_Desk_isDay G h x K := s_Desk_isDay_0 G h x K (c_between k)
theorem c_isMinute {G : GA} {h : HP} {x : Int32} {K : Bool → HP → Prop} (k : K (decide (0 ≤ x ∧ x ≤ 1439)) h) : P_Desk_isMinute G h x K := s_Desk_isMinute_0 G h x K (c_between k)
theorem has_of {x y : Int32} {A B C : Prop} {K : Bool → Prop} (k : K (decide (0 ≤ x ∧ x < y))) : if x < 0 then K false else if y ≤ x then K false else K true := by
  split
  · rename_i c
    rw [decide_eq_false (by rw [fa_le]; rw [fa_lt] at c; intro q; have := q.1; rw [show (0 : Int32).toInt = 0 from rfl] at *; omega)] at k
    exact k
  · split
    · rename_i c
      rw [decide_eq_false (by rw [fa_le] at c; rw [fa_lt]; intro q; omega)] at k
      exact k
    · rename_i c1 c2
      rw [decide_eq_true (by rw [fa_le, fa_lt]; rw [fa_lt] at c1; rw [fa_le] at c2; rw [show (0 : Int32).toInt = 0 from rfl] at *; omega)] at k
      exact k
theorem c_Stops_has {G : GA} {h : HP} {x : Int32} {K : Bool → HP → Prop} (k : K (decide (0 ≤ x ∧ x < h 2 3)) h) : P_Stops_has G h x K := s_Stops_has_0 G h x K (has_of (A := True) (B := True) (C := True) (K := fun b => K b h) k)
theorem c_Trips_has {G : GA} {h : HP} {x : Int32} {K : Bool → HP → Prop} (k : K (decide (0 ≤ x ∧ x < h 11 11)) h) : P_Trips_has G h x K := s_Trips_has_0 G h x K (has_of (A := True) (B := True) (C := True) (K := fun b => K b h) k)
theorem c_Walks_has {G : GA} {h : HP} {x : Int32} {K : Bool → HP → Prop} (k : K (decide (0 ≤ x ∧ x < h 22 8)) h) : P_Walks_has G h x K := s_Walks_has_0 G h x K (has_of (A := True) (B := True) (C := True) (K := fun b => K b h) k)
/-! ===== bits ===== -/
theorem bit_shr {x : Int32} {k : Nat} (hk : k < 32) : ((x >>> (nI k &&& 31)) &&& 1) = if bt x k = true then 1 else 0 := by
  refine b_ext (fun i hi => ?_)
  rw [b_and]
  have h1 : ∀ i, i < 32 → bt (1 : Int32) i = decide (i = 0) := by decide +kernel
  rw [h1 i hi]
  by_cases h0 : i = 0
  · subst h0
    rw [b_sshr k hk x hi, if_pos (by omega), Nat.add_zero]
    cases hb : bt x k
    · simp [b_0]
    · simp [h1 0 (by omega)]
  · rw [decide_eq_false h0, Bool.and_false]
    split
    · rw [h1 i hi, decide_eq_false h0]
    · rw [b_0]
theorem bit_shr0 {x : Int32} {k : Nat} (hk : k < 32) : ((x >>> (nI k &&& 31)) &&& 1) = 0 ↔ bt x k = false := by
  rw [bit_shr hk]
  cases bt x k <;> decide
theorem c_isOpen {G : GA} {h N : HP} (hon : On h N) {t k : Nat} (ht : t < 24) (hk : k < 32) {K : Bool → HP → Prop} (kk : K (oP N t k) h) : P_Trips_isOpen G h (nI t) (nI k) K := by
  refine s_Trips_isOpen_0 G h _ _ K ⟨in_nI ht (by decide), ?_⟩
  rw [hon.c 16, tnI (by omega)]
  unfold oP at kk
  split
  · rename_i c
    rw [(bit_shr0 hk).mp c] at kk
    exact kk
  · rename_i c
    rw [bit_shr0 hk] at c
    cases hb : bt (N 16 t) k
    · exact absurd hb c
    · rw [hb] at kk
      exact kk
theorem c_runsOn {G : GA} {h N : HP} (hN : NetOK N) (hon : On h N) {t d : Nat} (ht : t < 24) (hd : d < 100) {K : Bool → HP → Prop} (kk : K (rO N t d) h) : P_Trips_runsOn G h (nI t) (nI d) K := by
  refine s_Trips_runsOn_0 G h _ _ K ⟨in_nI ht (by decide), in_nI hd (by decide), ?_⟩
  rw [hon.c 13, hon.c 20, hon.c 21, tnI (by omega), tnI (by omega)]
  have hq := hN.2.2.2.1.2.2.2.2.2.2 d
  have hq6 := hq.t
  rw [hq.e]
  unfold rO at kk
  split
  · rename_i c
    rw [(bit_shr0 (by omega)).mp c] at kk
    exact kk
  · rename_i c
    rw [bit_shr0 (by omega)] at c
    cases hb : bt (N 13 t) (tn (N 20 d))
    · exact absurd hb c
    · rw [hb] at kk
      split
      · rename_i c2
        rw [(bit_shr0 (by omega)).mp c2] at kk
        exact kk
      · rename_i c2
        rw [bit_shr0 (by omega)] at c2
        cases hb2 : bt (N 21 d) t
        · exact absurd hb2 c2
        · rw [hb2] at kk
          exact kk
/-! ===== how late ===== -/
theorem c_sum_loop {G : GA} {h N : HP} (hN : NetOK N) (hon : On h N) {t d k : Nat} {K : Int32 → HP → Prop} (kk : K (nI (late N t d k)) h) : ∀ m n, n + m = nL N → H_Delays_sum_6 G h (nI t) (nI d) (nI k) (nI (lsN N t d k n)) (nI n) K
  | 0, n, e => by
    refine s_Delays_sum_6 G h _ _ _ _ _ K ?_
    have hl := nL_le hN
    rw [hon.c 6, ok_L hN, if_pos (by rw [leI (by omega) (by omega)]; omega)]
    rw [Nat.add_zero] at e
    rw [e]
    exact kk
  | m + 1, n, e => by
    refine s_Delays_sum_6 G h _ _ _ _ _ K ?_
    have hl := nL_le hN
    have ih := c_sum_loop hN hon (G := G) (t := t) (d := d) (k := k) kk m (n + 1) (by omega)
    rw [hon.c 6, ok_L hN, if_neg (by rw [leI (by omega) (by omega)]; omega)]
    refine ⟨in_nI (by omega) (by decide), ?_⟩
    rw [hon.c 7, hon.c 8, hon.c 9, hon.c 10, tnI (by omega)]
    have e1 : nI n + 1 = nI (n + 1) := nI_1 n
    have hm := hN.2.1.2.2.1 n
    rw [e1]
    by_cases c1 : N 7 n = nI t
    · by_cases c2 : N 8 n = nI d
      · by_cases c3 : N 9 n ≤ nI k
        · rw [if_pos c1, if_pos c2, if_neg (by rw [fa_lt]; rw [fa_le] at c3; omega), hm.e, nI_add]
          simp only [lsN, c1, c2, c3, and_self, if_true] at ih
          exact ih
        · rw [if_pos c1, if_pos c2, if_pos (by rw [fa_lt]; rw [fa_le] at c3; omega)]
          simp only [lsN, c3, and_false, if_false, Nat.add_zero] at ih
          exact ih
      · rw [if_pos c1, if_neg c2]
        simp only [lsN, c2, and_false, false_and, if_false, Nat.add_zero] at ih
        exact ih
    · rw [if_neg c1]
      simp only [lsN, c1, false_and, if_false, Nat.add_zero] at ih
      exact ih
theorem c_sum {G : GA} {h N : HP} (hN : NetOK N) (hon : On h N) {t d k : Nat} {K : Int32 → HP → Prop} (kk : K (nI (late N t d k)) h) : P_Delays_sum G h (nI t) (nI d) (nI k) K :=
  s_Delays_sum_0 G h _ _ _ K (c_sum_loop hN hon kk (nL N) 0 (by omega))
theorem c_comesAt {G : GA} {h N : HP} (hN : NetOK N) (hon : On h N) {t d k : Nat} (ht : t < 24) (hk : k < 8) {K : Int32 → HP → Prop} (kk : K (nI (cT N t d k)) h) : P_Trips_comesAt G h (nI t) (nI d) (nI k) K := by
  refine s_Trips_comesAt_0 G h _ _ _ K ?_
  rw [ix8]
  refine ⟨in_nI (by omega) (by decide), c_sum hN hon ?_⟩
  rw [hon.c 18, tnI (by omega), ok_aA hN, show (1440 : Int32) = nI 1440 from rfl, pk_mul, nI_add, nI_add]
  exact kk
theorem c_leavesAt {G : GA} {h N : HP} (hN : NetOK N) (hon : On h N) {t d k : Nat} (ht : t < 24) (hk : k < 8) {K : Int32 → HP → Prop} (kk : K (nI (lT N t d k)) h) : P_Trips_leavesAt G h (nI t) (nI d) (nI k) K := by
  refine s_Trips_leavesAt_0 G h _ _ _ K ?_
  rw [ix8]
  refine ⟨in_nI (by omega) (by decide), c_sum hN hon ?_⟩
  rw [hon.c 19, tnI (by omega), ok_lA hN, show (1440 : Int32) = nI 1440 from rfl, pk_mul, nI_add, nI_add]
  exact kk
/-! ===== fares ===== -/
def pz (N : HP) (a b : Nat) : Nat := tn (N 5 (4 * zn N a + zn N b))
theorem zn_lt {N : HP} (h : NetOK N) (s : Nat) : zn N s < 4 := by
  have := (h.1.2.2.1 s).t
  unfold zn
  omega
theorem ok_z {N : HP} (h : NetOK N) (s : Nat) : N 4 s = nI (zn N s) := (h.1.2.2.1 s).e
theorem pz_le {N : HP} (h : NetOK N) (a b : Nat) : pz N a b ≤ 9 := (h.1.2.2.2 _).t
theorem ix4 (t k : Nat) : nI t * 4 + nI k = nI (4 * t + k) := by
  rw [show (4 : Int32) = nI 4 from rfl, pk_mul, nI_add]
  congr 1
  omega
theorem ix4' (t k : Nat) : 4 * nI t + nI k = nI (4 * t + k) := by
  rw [show (4 : Int32) = nI 4 from rfl, pk_mul, nI_add]
theorem c_price {G : GA} {h N : HP} (hN : NetOK N) (hon : On h N) {a b : Nat} (ha : a < 12) (hb : b < 12) {K : Int32 → HP → Prop} (kk : K (nI (pz N a b)) h) : P_Stops_priceOfRide G h (nI a) (nI b) K := by
  refine s_Stops_priceOfRide_0 G h _ _ K ⟨in_nI ha (by decide), in_nI hb (by decide), ?_⟩
  have h1 := zn_lt hN a
  have h2 := zn_lt hN b
  rw [hon.c 4, hon.c 5, tnI (by omega), tnI (by omega), ok_z hN, ok_z hN, ix4, tnI (by omega)]
  refine ⟨in_nI (by omega) (by decide), ?_⟩
  rw [(hN.1.2.2.2 _).e]
  exact kk
