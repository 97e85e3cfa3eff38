/-! ===== places ===== -/
def pS (N : HP) : Nat := tn (N 31 2)
def PlOK (N : HP) : Prop := IN 90 (N 31 2)
theorem ok_P {N : HP} (h : PlOK N) : N 31 2 = nI (pS N) := IN.e h
theorem pS_le {N : HP} (h : PlOK N) : pS N ≤ 90 := IN.t h
def fr (N : HP) (key : Int32) : Nat → Nat → Option Nat
  | 0, _ => none
  | m + 1, n => if N 32 n = key then some n else fr N key m (n + 1)
def rowN (N : HP) (t d : Nat) : Option Nat := fr N (nI (100 * t + d)) (pS N) 0
def tkN (N : HP) (t d k : Nat) : Int32 := match rowN N t d with
  | some r => N 33 (8 * r + k)
  | none => 0
def o2i (o : Option Nat) : Int32 := match o with
  | some r => nI r
  | none => -1
theorem fr_lt {N : HP} {key : Int32} : ∀ (m n r : Nat), fr N key m n = some r → n ≤ r ∧ r < n + m ∧ N 32 r = key
  | 0, n, r, e => by simp [fr] at e
  | m + 1, n, r, e => by
    simp only [fr] at e
    split at e
    · rename_i c
      cases e
      exact ⟨by omega, by omega, c⟩
    · have := fr_lt m (n + 1) r e
      exact ⟨by omega, by omega, this.2.2⟩
theorem fr_none {N : HP} {key : Int32} : ∀ (m n : Nat), fr N key m n = none → ∀ r, n ≤ r → r < n + m → ¬ N 32 r = key
  | 0, n, e, r, h1, h2 => by omega
  | m + 1, n, e, r, h1, h2 => by
    simp only [fr] at e
    split at e
    · cases e
    · rename_i c
      by_cases q : r = n
      · rw [q]; exact c
      · exact fr_none m (n + 1) e r (by omega) (by omega)
theorem rowN_lt {N : HP} {t d r : Nat} (h : rowN N t d = some r) : r < pS N ∧ N 32 r = nI (100 * t + d) := by
  have := fr_lt _ _ _ h
  exact ⟨by omega, this.2.2⟩
theorem c_rowOf_loop {G : GA} {h N : HP} (hP : PlOK N) (hon : On h N) {key : Int32} {K : Int32 → HP → Prop} : ∀ m n, n + m = pS N → K (o2i (fr N key m n)) h → H_Places_rowOf_10 G h key (nI n) K
  | 0, n, e, kk => by
    have hp := pS_le hP
    refine s_Places_rowOf_10 G h _ _ K ?_
    rw [hon.c 31, ok_P hP, if_pos (by rw [leI (by omega) (by omega)]; omega)]
    exact kk
  | m + 1, n, e, kk => by
    have hp := pS_le hP
    refine s_Places_rowOf_10 G h _ _ K ?_
    rw [hon.c 31, ok_P hP, if_neg (by rw [leI (by omega) (by omega)]; omega)]
    refine ⟨in_nI (by omega) (by decide), ?_⟩
    rw [hon.c 32, tnI (by omega), nI_1]
    simp only [fr] at kk
    by_cases c : N 32 n = key
    · rw [if_pos c] at kk ⊢
      exact kk
    · rw [if_neg c] at kk ⊢
      exact c_rowOf_loop hP hon m (n + 1) (by omega) kk
theorem ix100 (t d : Nat) : nI t * 100 + nI d = nI (100 * t + d) := by
  rw [show (100 : Int32) = nI 100 from rfl, pk_mul, nI_add]
  congr 1
  omega
theorem ix100' (t d : Nat) : 100 * nI t + nI d = nI (100 * t + d) := by
  rw [show (100 : Int32) = nI 100 from rfl, pk_mul, nI_add]
theorem c_rowOf {G : GA} {h N : HP} (hP : PlOK N) (hon : On h N) {t d : Nat} {K : Int32 → HP → Prop} (kk : K (o2i (rowN N t d)) h) : P_Places_rowOf G h (nI t) (nI d) K := by
  refine s_Places_rowOf_0 G h _ _ K ?_
  rw [ix100]
  exact c_rowOf_loop hP hon (pS N) 0 (by omega) kk
theorem c_at {G : GA} {h N : HP} (hP : PlOK N) (hon : On h N) {t d k : Nat} (hk : k < 8) {K : Int32 → HP → Prop} (kk : K (tkN N t d k) h) : P_Places_at G h (nI t) (nI d) (nI k) K := by
  have hp := pS_le hP
  refine s_Places_at_0 G h _ _ _ K (c_rowOf hP hon ?_)
  unfold tkN at kk
  cases hr : rowN N t d with
  | none =>
    rw [hr] at kk
    exact (if_neg (c := (0 : Int32) ≤ -1) (by decide)).symm ▸ kk
  | some r =>
    rw [hr] at kk
    have h1 := (rowN_lt hr).1
    show if (0 : Int32) ≤ nI r then _ else _
    rw [if_pos (nIpos (by omega))]
    rw [show o2i (some r) = nI r from rfl, ix8, hon.c 33, tnI (by omega)]
    exact ⟨in_nI (by omega) (by decide), kk⟩
theorem bt_set {x : Int32} {k i : Nat} (hk : k < 32) (hi : i < 32) : bt (x ||| (1 <<< (nI k &&& 31))) i = (bt x i || decide (i = k)) := by
  rw [b_or, b_shl k hk _ hi]
  congr 1
  have h1 : ∀ i, i < 32 → bt (1 : Int32) i = decide (i = 0) := by decide +kernel
  by_cases c : k ≤ i
  · rw [decide_eq_true c, Bool.true_and, h1 _ (by omega)]
    by_cases c2 : i = k
    · rw [decide_eq_true c2, decide_eq_true (by omega)]
    · rw [decide_eq_false c2, decide_eq_false (by omega)]
  · rw [decide_eq_false c, Bool.false_and, decide_eq_false (by omega)]
theorem c_full_loop {G : GA} {h N : HP} (hP : PlOK N) (hon : On h N) {r : Nat} {s : Int32} (hr : r < pS N) {K : Int32 → HP → Prop} (kk : ∀ m : Int32, (∀ k, k < 32 → bt m k = (decide (k < 8) && decide (s ≤ N 33 (8 * r + k)))) → K m h) : ∀ (m n : Nat) (x : Int32), n + m = 8 → (∀ k, k < 32 → bt x k = (decide (k < n) && decide (s ≤ N 33 (8 * r + k)))) → H_Places_full_14 G h s (nI r) x (nI n) K
  | 0, n, x, e, hx => by
    have hp := pS_le hP
    refine s_Places_full_14 G h _ _ _ _ K ?_
    rw [if_neg (nIneg (by omega)), if_pos (by rw [show (8 : Int32) = nI 8 from rfl, leI (by omega) (by omega)]; omega)]
    rw [show n = 8 by omega] at hx
    exact kk x hx
  | m + 1, n, x, e, hx => by
    have hp := pS_le hP
    refine s_Places_full_14 G h _ _ _ _ K ?_
    rw [if_neg (nIneg (by omega)), if_neg (by rw [show (8 : Int32) = nI 8 from rfl, leI (by omega) (by omega)]; omega)]
    rw [ix8, hon.c 33, tnI (by omega), nI_1]
    refine ⟨in_nI (by omega) (by decide), ?_⟩
    by_cases c : N 33 (8 * r + n) < s
    · rw [if_pos c]
      refine c_full_loop hP hon hr kk m (n + 1) x (by omega) (fun k hk => ?_)
      rw [hx k hk]
      by_cases q : k = n
      · subst q
        rw [decide_eq_false (show ¬ s ≤ N 33 (8 * r + k) by rw [fa_le]; rw [fa_lt] at c; omega), Bool.and_false, Bool.and_false]
      · congr 1
        by_cases q2 : k < n
        · rw [decide_eq_true q2, decide_eq_true (by omega)]
        · rw [decide_eq_false q2, decide_eq_false (by omega)]
    · rw [if_neg c]
      refine c_full_loop hP hon hr kk m (n + 1) _ (by omega) (fun k hk => ?_)
      rw [bt_set (by omega) hk, hx k hk]
      by_cases q : k = n
      · subst q
        rw [decide_eq_true (show s ≤ N 33 (8 * r + k) by rw [fa_le]; rw [fa_lt] at c; omega), decide_eq_true (show k < k + 1 by omega)]
        simp
      · rw [decide_eq_false q, Bool.or_false]
        congr 1
        by_cases q2 : k < n
        · rw [decide_eq_true q2, decide_eq_true (by omega)]
        · rw [decide_eq_false q2, decide_eq_false (by omega)]
theorem c_full {G : GA} {h N : HP} (hP : PlOK N) (hon : On h N) {t d : Nat} {s : Int32} (hs1 : 0 < s.toInt) {K : Int32 → HP → Prop} (kk : ∀ m : Int32, (∀ k, k < 32 → bt m k = (decide (k < 8) && decide (s ≤ tkN N t d k))) → K m h) : P_Places_full G h (nI t) (nI d) s K := by
  refine s_Places_full_0 G h _ _ _ K (c_rowOf hP hon ?_)
  unfold tkN at kk
  cases hr : rowN N t d with
  | none =>
    rw [hr] at kk
    refine s_Places_full_14 G h _ _ _ _ K ?_
    rw [if_pos (by decide)]
    refine kk 0 (fun k hk => ?_)
    dsimp only
    rw [b_0, decide_eq_false (show ¬ s ≤ 0 by rw [fa_le, show (0 : Int32).toInt = 0 from rfl]; omega), Bool.and_false]
  | some r =>
    rw [hr] at kk
    exact c_full_loop hP hon (rowN_lt hr).1 kk 8 0 0 (by omega) (fun k hk => by rw [b_0, decide_eq_false (by omega), Bool.false_and])
/-! ===== fills ===== -/
theorem c_fill_57_loop {G : GA} {h0 : HP} {x : Int32} {K : HP → Prop} (kk : ∀ h', Agr [57] h0 h' → (∀ j, j < 28 → h' 57 j = x) → K h') : ∀ (m k : Nat) (h : HP), k + m = 28 → Agr [57] h0 h → (∀ j, j < k → h 57 j = x) → H_Arr_fill_57_5 G h x (nI k) 28 K
  | 0, k, h, e, ha, hx => by
    refine s_Arr_fill_57_5 G h _ _ _ K ?_
    rw [if_pos (by rw [show (28 : Int32) = nI 28 from rfl, leI (by omega) (by omega)]; omega)]
    exact kk h ha (fun j hj => hx j (by omega))
  | m + 1, k, h, e, ha, hx => by
    refine s_Arr_fill_57_5 G h _ _ _ K ?_
    rw [if_neg (by rw [show (28 : Int32) = nI 28 from rfl, leI (by omega) (by omega)]; omega)]
    refine ⟨in_nI (by omega) (by decide), ?_⟩
    rintro _ rfl
    rw [tnI (by omega), nI_1]
    refine c_fill_57_loop kk m (k + 1) _ (by omega) (ha.up (by decide) _ _) (fun j hj => ?_)
    by_cases q : j = k
    · subst q; rw [up_at]
    · rw [up_sl _ _ q]; exact hx j (by omega)
theorem c_fill_57 {G : GA} {h : HP} {x : Int32} {K : HP → Prop} (kk : ∀ h', Agr [57] h h' → (∀ j, j < 28 → h' 57 j = x) → K h') : P_Arr_fill_57 G h x K :=
  s_Arr_fill_57_0 G h _ K (c_fill_57_loop kk 28 0 h (by omega) (Agr.refl _ _) (fun j hj => by omega))
theorem c_fill_53_loop {G : GA} {h0 : HP} {x : Int32} {K : HP → Prop} (kk : ∀ h', Agr [53] h0 h' → (∀ j, j < 4 → h' 53 j = x) → K h') : ∀ (m k : Nat) (h : HP), k + m = 4 → Agr [53] h0 h → (∀ j, j < k → h 53 j = x) → H_Arr_fill_53_5 G h x (nI k) 4 K
  | 0, k, h, e, ha, hx => by
    refine s_Arr_fill_53_5 G h _ _ _ K ?_
    rw [if_pos (by rw [show (4 : Int32) = nI 4 from rfl, leI (by omega) (by omega)]; omega)]
    exact kk h ha (fun j hj => hx j (by omega))
  | m + 1, k, h, e, ha, hx => by
    refine s_Arr_fill_53_5 G h _ _ _ K ?_
    rw [if_neg (by rw [show (4 : Int32) = nI 4 from rfl, leI (by omega) (by omega)]; omega)]
    refine ⟨in_nI (by omega) (by decide), ?_⟩
    rintro _ rfl
    rw [tnI (by omega), nI_1]
    refine c_fill_53_loop kk m (k + 1) _ (by omega) (ha.up (by decide) _ _) (fun j hj => ?_)
    by_cases q : j = k
    · subst q; rw [up_at]
    · rw [up_sl _ _ q]; exact hx j (by omega)
theorem c_fill_53 {G : GA} {h : HP} {x : Int32} {K : HP → Prop} (kk : ∀ h', Agr [53] h h' → (∀ j, j < 4 → h' 53 j = x) → K h') : P_Arr_fill_53 G h x K :=
  s_Arr_fill_53_0 G h _ K (c_fill_53_loop kk 4 0 h (by omega) (Agr.refl _ _) (fun j hj => by omega))
theorem c_fill_1_loop {G : GA} {h0 : HP} {x : Int32} {K : HP → Prop} (kk : ∀ h', Agr [1] h0 h' → (∀ j, j < 12 → h' 1 j = x) → K h') : ∀ (m k : Nat) (h : HP), k + m = 12 → Agr [1] h0 h → (∀ j, j < k → h 1 j = x) → H_Arr_fill_1_5 G h x (nI k) 12 K
  | 0, k, h, e, ha, hx => by
    refine s_Arr_fill_1_5 G h _ _ _ K ?_
    rw [if_pos (by rw [show (12 : Int32) = nI 12 from rfl, leI (by omega) (by omega)]; omega)]
    exact kk h ha (fun j hj => hx j (by omega))
  | m + 1, k, h, e, ha, hx => by
    refine s_Arr_fill_1_5 G h _ _ _ K ?_
    rw [if_neg (by rw [show (12 : Int32) = nI 12 from rfl, leI (by omega) (by omega)]; omega)]
    refine ⟨in_nI (by omega) (by decide), ?_⟩
    rintro _ rfl
    rw [tnI (by omega), nI_1]
    refine c_fill_1_loop kk m (k + 1) _ (by omega) (ha.up (by decide) _ _) (fun j hj => ?_)
    by_cases q : j = k
    · subst q; rw [up_at]
    · rw [up_sl _ _ q]; exact hx j (by omega)
theorem c_fill_1 {G : GA} {h : HP} {x : Int32} {K : HP → Prop} (kk : ∀ h', Agr [1] h h' → (∀ j, j < 12 → h' 1 j = x) → K h') : P_Arr_fill_1 G h x K :=
  s_Arr_fill_1_0 G h _ K (c_fill_1_loop kk 12 0 h (by omega) (Agr.refl _ _) (fun j hj => by omega))
theorem c_fill_49_loop {G : GA} {h0 : HP} {x : Int32} {K : HP → Prop} (kk : ∀ h', Agr [49] h0 h' → (∀ j, j < 696 → h' 49 j = x) → K h') : ∀ (m k : Nat) (h : HP), k + m = 696 → Agr [49] h0 h → (∀ j, j < k → h 49 j = x) → H_Arr_fill_49_5 G h x (nI k) 696 K
  | 0, k, h, e, ha, hx => by
    refine s_Arr_fill_49_5 G h _ _ _ K ?_
    rw [if_pos (by rw [show (696 : Int32) = nI 696 from rfl, leI (by omega) (by omega)]; omega)]
    exact kk h ha (fun j hj => hx j (by omega))
  | m + 1, k, h, e, ha, hx => by
    refine s_Arr_fill_49_5 G h _ _ _ K ?_
    rw [if_neg (by rw [show (696 : Int32) = nI 696 from rfl, leI (by omega) (by omega)]; omega)]
    refine ⟨in_nI (by omega) (by decide), ?_⟩
    rintro _ rfl
    rw [tnI (by omega), nI_1]
    refine c_fill_49_loop kk m (k + 1) _ (by omega) (ha.up (by decide) _ _) (fun j hj => ?_)
    by_cases q : j = k
    · subst q; rw [up_at]
    · rw [up_sl _ _ q]; exact hx j (by omega)
theorem c_fill_49 {G : GA} {h : HP} {x : Int32} {K : HP → Prop} (kk : ∀ h', Agr [49] h h' → (∀ j, j < 696 → h' 49 j = x) → K h') : P_Arr_fill_49 G h x K :=
  s_Arr_fill_49_0 G h _ K (c_fill_49_loop kk 696 0 h (by omega) (Agr.refl _ _) (fun j hj => by omega))
theorem c_fill_50_loop {G : GA} {h0 : HP} {x : Int32} {K : HP → Prop} (kk : ∀ h', Agr [50] h0 h' → (∀ j, j < 360 → h' 50 j = x) → K h') : ∀ (m k : Nat) (h : HP), k + m = 360 → Agr [50] h0 h → (∀ j, j < k → h 50 j = x) → H_Arr_fill_50_5 G h x (nI k) 360 K
  | 0, k, h, e, ha, hx => by
    refine s_Arr_fill_50_5 G h _ _ _ K ?_
    rw [if_pos (by rw [show (360 : Int32) = nI 360 from rfl, leI (by omega) (by omega)]; omega)]
    exact kk h ha (fun j hj => hx j (by omega))
  | m + 1, k, h, e, ha, hx => by
    refine s_Arr_fill_50_5 G h _ _ _ K ?_
    rw [if_neg (by rw [show (360 : Int32) = nI 360 from rfl, leI (by omega) (by omega)]; omega)]
    refine ⟨in_nI (by omega) (by decide), ?_⟩
    rintro _ rfl
    rw [tnI (by omega), nI_1]
    refine c_fill_50_loop kk m (k + 1) _ (by omega) (ha.up (by decide) _ _) (fun j hj => ?_)
    by_cases q : j = k
    · subst q; rw [up_at]
    · rw [up_sl _ _ q]; exact hx j (by omega)
theorem c_fill_50 {G : GA} {h : HP} {x : Int32} {K : HP → Prop} (kk : ∀ h', Agr [50] h h' → (∀ j, j < 360 → h' 50 j = x) → K h') : P_Arr_fill_50 G h x K :=
  s_Arr_fill_50_0 G h _ K (c_fill_50_loop kk 360 0 h (by omega) (Agr.refl _ _) (fun j hj => by omega))
/-! ===== the dearest ===== -/
def dM (N : HP) : Nat → Nat
  | 0 => 0
  | n + 1 => if dM N n < tn (N 5 n) then tn (N 5 n) else dM N n
def dear (N : HP) : Nat := dM N 16
theorem dM_le {N : HP} (h : NetOK N) : ∀ n, dM N n ≤ 9
  | 0 => Nat.zero_le _
  | n + 1 => by
    have h1 := dM_le h n
    have h2 := (h.1.2.2.2 n).t
    simp only [dM]
    split <;> omega
theorem dM_ge {N : HP} : ∀ n j, j < n → tn (N 5 j) ≤ dM N n
  | 0, j, hj => by omega
  | n + 1, j, hj => by
    simp only [dM]
    by_cases q : j = n
    · subst q
      split <;> omega
    · have := dM_ge (N := N) n j (by omega)
      split <;> omega
theorem dear_le {N : HP} (h : NetOK N) : dear N ≤ 9 := dM_le h 16
theorem pz_dear {N : HP} (h : NetOK N) (a b : Nat) : pz N a b ≤ dear N := by
  have h1 := zn_lt h a
  have h2 := zn_lt h b
  exact dM_ge 16 _ (by omega)
theorem c_dearest_loop {G : GA} {h N : HP} (hN : NetOK N) (hon : On h N) {K : Int32 → HP → Prop} (kk : K (nI (dear N)) h) : ∀ m n, n + m = 16 → H_Stops_dearest_13 G h (nI (dM N n)) 16 (nI n) K
  | 0, n, e => by
    refine s_Stops_dearest_13 G h _ _ _ K ?_
    rw [if_pos (by rw [show (16 : Int32) = nI 16 from rfl, leI (by omega) (by omega)]; omega), show n = 16 by omega]
    exact kk
  | m + 1, n, e => by
    refine s_Stops_dearest_13 G h _ _ _ K ?_
    rw [if_neg (by rw [show (16 : Int32) = nI 16 from rfl, leI (by omega) (by omega)]; omega)]
    refine ⟨in_nI (by omega) (by decide), ?_⟩
    have ih := c_dearest_loop hN hon (G := G) kk m (n + 1) (by omega)
    have h1 := dM_le hN n
    have h2 := hN.1.2.2.2 n
    have h3 := h2.t
    rw [hon.c 5, tnI (by omega), nI_1]
    rintro _ rfl
    rw [h2.e]
    simp only [dM] at ih
    by_cases c : dM N n < tn (N 5 n)
    · rw [if_pos c] at ih
      rw [if_pos (by rw [ltI (by omega) (by omega)]; exact c)]
      exact ih
    · rw [if_neg c] at ih
      rw [if_neg (by rw [ltI (by omega) (by omega)]; exact c)]
      exact ih
theorem c_dearest {G : GA} {h N : HP} (hN : NetOK N) (hon : On h N) {K : Int32 → HP → Prop} (kk : K (nI (dear N)) h) : P_Stops_dearest G h K :=
  s_Stops_dearest_0 G h K (c_dearest_loop hN hon kk 16 0 (by omega))
