/-! ===== the network: its numbers, its good shape ===== -/
def IN (b : Nat) (x : Int32) : Prop := 0 ≤ x.toInt ∧ x.toInt ≤ b
theorem IN.t {b : Nat} {x : Int32} (h : IN b x) : tn x ≤ b := by
  have h1 := tn_toInt h.1
  have h2 := h.2
  omega
theorem IN.e {b : Nat} {x : Int32} (h : IN b x) : x = nI (tn x) := (nI_tn h.1).symm
theorem IN.i {b : Nat} {x : Int32} (h : IN b x) : x.toInt = (tn x : Int) := (tn_toInt h.1).symm
theorem IN_nI {b n : Nat} (h : n ≤ b) (hb : b < 2147483648) : IN b (nI n) := by
  refine ⟨?_, ?_⟩ <;> rw [toInt_nI (by omega)] <;> omega
theorem IN_0 (b : Nat) : IN b 0 := by
  refine ⟨by decide, ?_⟩
  rw [show (0 : Int32).toInt = 0 from rfl]
  omega
theorem IN_upd {b : Nat} {f : Nat → Int32} {k : Nat} {x : Int32} (h : ∀ j, IN b (f j)) (hx : IN b x) : ∀ j, IN b (upd f k x j) := by
  intro j
  unfold upd
  split
  · exact hx
  · exact h j
def nS (N : HP) : Nat := tn (N 2 3)
def nL (N : HP) : Nat := tn (N 6 4)
def nT (N : HP) : Nat := tn (N 11 11)
def nC (N : HP) (t : Nat) : Nat := tn (N 15 t)
def nW (N : HP) : Nat := tn (N 22 8)
def sA (N : HP) (t k : Nat) : Nat := tn (N 17 (8 * t + k))
def aA (N : HP) (t k : Nat) : Nat := tn (N 18 (8 * t + k))
def lA (N : HP) (t k : Nat) : Nat := tn (N 19 (8 * t + k))
def zn (N : HP) (s : Nat) : Nat := tn (N 4 s)
def totN (N : HP) : Nat → Nat
  | 0 => 0
  | n + 1 => totN N n + tn (N 10 n)
def NetOK (N : HP) : Prop :=
  (IN 12 (N 2 3) ∧ (∀ s, IN 30 (N 3 s)) ∧ (∀ s, IN 3 (N 4 s)) ∧ (∀ j, IN 9 (N 5 j))) ∧
  (IN 60 (N 6 4) ∧ (∀ n, IN 7 (N 9 n)) ∧ (∀ n, IN 240 (N 10 n)) ∧ N 6 5 = nI (totN N (nL N))) ∧
  (IN 24 (N 11 11) ∧ (∀ t, IN 2 (N 12 t)) ∧ (∀ t, IN 127 (N 13 t)) ∧ (∀ t, IN 50 (N 14 t)) ∧ (∀ t, IN 8 (N 15 t)) ∧ (∀ t, nT N ≤ t → N 15 t = 0) ∧ (∀ t, t < nT N → ¬ N 12 t = 0 → 1 ≤ tn (N 14 t))) ∧
  ((∀ j, IN 11 (N 17 j)) ∧ (∀ j, IN 2879 (N 18 j)) ∧ (∀ j, IN 2879 (N 19 j)) ∧ (∀ t k, k < nC N t → sA N t k < nS N ∧ aA N t k ≤ lA N t k) ∧ (∀ t k, k + 1 < nC N t → lA N t k ≤ aA N t (k + 1)) ∧ (∀ t k, nC N t ≤ k → bt (N 16 t) k = false) ∧ (∀ d, IN 6 (N 20 d))) ∧
  (IN 20 (N 22 8) ∧ (∀ w, IN 11 (N 23 w)) ∧ (∀ w, IN 11 (N 24 w)) ∧ (∀ w, IN 240 (N 25 w)) ∧ (∀ w, IN 1439 (N 27 w)) ∧ (∀ w, IN 1439 (N 28 w)) ∧ (∀ w, IN 1440 (N 29 w)) ∧ (∀ w, IN 600 (N 30 w)) ∧
    (∀ w, w < nW N → tn (N 23 w) < nS N ∧ tn (N 24 w) < nS N ∧ (N 26 w = 3 ∨ ((N 26 w = 4 ∨ N 26 w = 5) ∧ tn (N 27 w) ≤ tn (N 28 w) ∧ 1 ≤ tn (N 29 w)))))
/-- the network's cells are as in N -/
def On (h N : HP) : Prop := ∀ k, 2 ≤ k → k ≤ 33 → h k = N k
theorem On.refl (N : HP) : On N N := fun _ _ _ => rfl
theorem On.agr {h h' N : HP} {S : List Nat} (h0 : On h N) (ha : Agr S h h') (hS : ∀ k, k ∈ S → ¬ (2 ≤ k ∧ k ≤ 33)) : On h' N := fun k h1 h2 => by
  rw [ha k (fun q => hS k q ⟨h1, h2⟩)]
  exact h0 k h1 h2
theorem On.up {h N : HP} (h0 : On h N) {k : Nat} (hk : ¬ (2 ≤ k ∧ k ≤ 33)) (j : Nat) (x : Int32) : On (up h k j x) N := fun q h1 h2 => by
  rw [up_ce _ _ _ (fun e => hk (by rw [← e]; exact ⟨h1, h2⟩))]
  exact h0 q h1 h2
theorem On.c {h N : HP} (h0 : On h N) (k : Nat) (h1 : 2 ≤ k := by decide) (h2 : k ≤ 33 := by decide) : h k = N k := h0 k h1 h2
/-! ===== how late, when it comes and leaves ===== -/
def lsN (N : HP) (t d k : Nat) : Nat → Nat
  | 0 => 0
  | n + 1 => lsN N t d k n + (if N 7 n = nI t ∧ N 8 n = nI d ∧ N 9 n ≤ nI k then tn (N 10 n) else 0)
def late (N : HP) (t d k : Nat) : Nat := lsN N t d k (nL N)
def cT (N : HP) (t d k : Nat) : Nat := 1440 * d + aA N t k + late N t d k
def lT (N : HP) (t d k : Nat) : Nat := 1440 * d + lA N t k + late N t d k
def rO (N : HP) (t d : Nat) : Bool := bt (N 13 t) (tn (N 20 d)) && !bt (N 21 d) t
def oP (N : HP) (t k : Nat) : Bool := !bt (N 16 t) k
theorem lsN_tot {N : HP} (h : NetOK N) (t d k : Nat) : ∀ n, lsN N t d k n ≤ totN N n
  | 0 => Nat.le_refl _
  | n + 1 => by
    have := lsN_tot h t d k n
    simp only [lsN, totN]
    split <;> omega
theorem tot_le {N : HP} (h : NetOK N) : ∀ n, totN N n ≤ 240 * n
  | 0 => Nat.le_refl _
  | n + 1 => by
    have h1 := tot_le h n
    have h2 := (h.2.1.2.2.1 n).t
    simp only [totN]
    omega
theorem lsN_le {N : HP} (h : NetOK N) (t d k : Nat) (n : Nat) : lsN N t d k n ≤ 240 * n := Nat.le_trans (lsN_tot h t d k n) (tot_le h n)
theorem late_le {N : HP} (h : NetOK N) (t d k : Nat) : late N t d k ≤ 14400 := by
  have h1 := lsN_le h t d k (nL N)
  have h2 : nL N ≤ 60 := h.2.1.1.t
  unfold late
  omega
theorem nIle_trans {x : Int32} {a b : Nat} (h : x ≤ nI a) (hab : a ≤ b) (hb : b < 2147483648) : x ≤ nI b := by
  rw [fa_le, toInt_nI (by omega)] at *
  omega
theorem lsN_mono {N : HP} (t d : Nat) {k k' : Nat} (hk : k ≤ k') (hb : k' < 2147483648) : ∀ n, lsN N t d k n ≤ lsN N t d k' n
  | 0 => Nat.le_refl _
  | n + 1 => by
    have h1 := lsN_mono t d hk hb (N := N) n
    simp only [lsN]
    by_cases c : N 7 n = nI t ∧ N 8 n = nI d ∧ N 9 n ≤ nI k
    · rw [if_pos c, if_pos ⟨c.1, c.2.1, nIle_trans c.2.2 hk hb⟩]
      omega
    · rw [if_neg c]
      omega
theorem late_mono {N : HP} (t d : Nat) {k k' : Nat} (hk : k ≤ k') (hb : k' < 2147483648) : late N t d k ≤ late N t d k' := lsN_mono t d hk hb (nL N)
theorem nC_le {N : HP} (h : NetOK N) (t : Nat) : nC N t ≤ 8 := (h.2.2.1.2.2.2.2.1 t).t
theorem nT_le {N : HP} (h : NetOK N) : nT N ≤ 24 := h.2.2.1.1.t
theorem nS_le {N : HP} (h : NetOK N) : nS N ≤ 12 := h.1.1.t
theorem nW_le {N : HP} (h : NetOK N) : nW N ≤ 20 := h.2.2.2.2.1.t
theorem nL_le {N : HP} (h : NetOK N) : nL N ≤ 60 := h.2.1.1.t
theorem nC_0 {N : HP} (h : NetOK N) {t : Nat} (ht : nT N ≤ t) : nC N t = 0 := by
  unfold nC
  rw [h.2.2.1.2.2.2.2.2.1 t ht]
  rfl
theorem lt_nT {N : HP} (h : NetOK N) {t k : Nat} (hk : k < nC N t) : t < nT N := by
  rcases Nat.lt_or_ge t (nT N) with q | q
  · exact q
  · rw [nC_0 h q] at hk
    omega
theorem aA_le {N : HP} (h : NetOK N) (t k : Nat) : aA N t k ≤ 2879 := (h.2.2.2.1.2.1 _).t
theorem lA_le {N : HP} (h : NetOK N) (t k : Nat) : lA N t k ≤ 2879 := (h.2.2.2.1.2.2.1 _).t
theorem cT_lT {N : HP} (h : NetOK N) {t k : Nat} (d : Nat) (hk : k < nC N t) : cT N t d k ≤ lT N t d k := by
  have h1 := (h.2.2.2.1.2.2.2.1 t k hk).2
  unfold cT lT
  omega
theorem lT_cT1 {N : HP} (h : NetOK N) {t k : Nat} (d : Nat) (hk : k + 1 < nC N t) : lT N t d k ≤ cT N t d (k + 1) := by
  have h1 := h.2.2.2.1.2.2.2.2.1 t k hk
  have h2 := late_mono (N := N) t d (show k ≤ k + 1 by omega) (by have := nC_le h t; omega)
  unfold cT lT
  omega
theorem cT_mono {N : HP} (h : NetOK N) {t : Nat} (d : Nat) : ∀ (j i : Nat), i ≤ j → j < nC N t → cT N t d i ≤ cT N t d j
  | 0, i, h1, _ => by rw [show i = 0 by omega]; exact Nat.le_refl _
  | j + 1, i, h1, h2 => by
    rcases Nat.lt_or_ge i (j + 1) with q | q
    · have e1 := cT_mono h (t := t) d j i (by omega) (by omega)
      have e2 := cT_lT h d (show j < nC N t by omega)
      have e3 := lT_cT1 h d h2
      omega
    · rw [show i = j + 1 by omega]
      exact Nat.le_refl _
theorem lT_cT {N : HP} (h : NetOK N) {t : Nat} (d : Nat) {i j : Nat} (hij : i < j) (hj : j < nC N t) : lT N t d i ≤ cT N t d j := by
  have e1 := lT_cT1 h d (show i + 1 < nC N t by omega)
  have e2 := cT_mono h d j (i + 1) (by omega) hj
  omega
theorem lT_mono {N : HP} (h : NetOK N) {t : Nat} (d : Nat) {i j : Nat} (hij : i ≤ j) (hj : j < nC N t) : lT N t d i ≤ lT N t d j := by
  rcases Nat.lt_or_ge i j with q | q
  · have e1 := lT_cT h d q hj
    have e2 := cT_lT h d hj
    omega
  · rw [show i = j by omega]
    exact Nat.le_refl _
theorem cT_le {N : HP} (h : NetOK N) {d : Nat} (hd : d < 100) (t k : Nat) : cT N t d k ≤ 160000 := by
  have h1 := aA_le h t k
  have h2 := late_le h t d k
  unfold cT
  omega
theorem lT_le {N : HP} (h : NetOK N) {d : Nat} (hd : d < 100) (t k : Nat) : lT N t d k ≤ 160000 := by
  have h1 := lA_le h t k
  have h2 := late_le h t d k
  unfold lT
  omega
