/-! ===== walks ===== -/
def NVR : Nat := 1000000000
theorem NVRe : NVR = 1000000000 := rfl
def nB (f l e time : Nat) : Nat := if f < time % 1440 then (if l < f + (time % 1440 - f + e - 1) / e * e then time - time % 1440 + 1440 + f else time - time % 1440 + (f + (time % 1440 - f + e - 1) / e * e)) else time - time % 1440 + f
def nx (N : HP) (w time : Nat) : Nat := nB (tn (N 27 w)) (tn (N 28 w)) (tn (N 29 w)) time
def wB (N : HP) (w time ask : Nat) : Nat := if N 26 w = 3 then time else if N 26 w = 5 then nx N w (if time < ask + tn (N 30 w) then ask + tn (N 30 w) else time) else nx N w time
def wE (N : HP) (w time ask : Nat) : Nat := if time < NVR then wB N w time ask + tn (N 25 w) else NVR
theorem nB_lt {f l e time : Nat} (hf : f < 1440) (hl : l < 1440) : nB f l e time < time + 2880 := by
  unfold nB
  have := Nat.mod_lt time (show 0 < 1440 by decide)
  have := Nat.mod_le time 1440
  split
  · split <;> omega
  · omega
theorem nx_lt {N : HP} (h : NetOK N) (w time : Nat) : nx N w time < time + 2880 := by
  have h1 := (h.2.2.2.2.2.2.2.2.1 w).t
  have h2 := (h.2.2.2.2.2.2.2.2.2.1 w).t
  exact nB_lt (by omega) (by omega)
theorem wB_lt {N : HP} (h : NetOK N) (w time ask : Nat) : wB N w time ask < (if time < ask + 600 then ask + 600 else time) + 2881 := by
  have h3 := (h.2.2.2.2.2.2.2.2.2.2.2.1 w).t
  unfold wB
  split
  · split <;> omega
  · split
    · by_cases c1 : time < ask + tn (N 30 w)
      · rw [if_pos c1]
        have := nx_lt h w (ask + tn (N 30 w))
        split <;> omega
      · rw [if_neg c1]
        have := nx_lt h w time
        split <;> omega
    · have := nx_lt h w time
      split <;> omega
theorem c_nextB {G : GA} {h N : HP} (hN : NetOK N) (hon : On h N) {w time : Nat} (hw : w < nW N) (hk : ¬ N 26 w = 3) (ht : time < 1000000000) {K : Int32 → HP → Prop} (kk : K (nI (nx N w time)) h) : P_Walks_nextBeginning G h (nI w) (nI time) K := by
  have hw20 := nW_le hN
  have h1 := hN.2.2.2.2.2.2.2.2.1 w
  have h2 := hN.2.2.2.2.2.2.2.2.2.1 w
  have h3 := hN.2.2.2.2.2.2.2.2.2.2.1 w
  obtain ⟨-, -, q | ⟨-, q1, q2⟩⟩ := hN.2.2.2.2.2.2.2.2.2.2.2.2 w hw
  · exact absurd q hk
  refine s_Walks_nextBeginning_0 G h _ _ K ⟨in_nI (by omega) (by decide), ?_⟩
  rw [hon.c 27, hon.c 29, tnI (by omega)]
  have e1440 : (1440 : Int32) = nI 1440 := rfl
  have em := pk_rem (a := time) (d := 1440) (by omega) (by decide) (by decide)
  rw [e1440, em]
  have hml := Nat.mod_lt time (show 0 < 1440 by decide)
  have hmle := Nat.mod_le time 1440
  have b1 := h1.t
  have b2 := h2.t
  have b3 := h3.t
  unfold nx nB at kk
  rw [h1.e, h3.e]
  have e27 := h1.e
  have e28 := h2.e
  generalize tn (N 27 w) = f at *
  generalize tn (N 28 w) = l at *
  generalize tn (N 29 w) = e at *
  rw [pk_sub hmle]
  by_cases c : f < time % 1440
  · rw [if_pos c] at kk
    rw [if_pos (by rw [ltI (by omega) (by omega)]; exact c)]
    rw [if_pos (show (1 : Int32) ≤ nI e by rw [show (1 : Int32) = nI 1 from rfl, leI (by omega) (by omega)]; omega)]
    refine s_Walks_nextBeginning_53 G h _ _ _ _ K ⟨in_nI (by omega) (by decide), nI_ne0 (by omega) (by omega), ?_⟩
    rw [hon.c 27, hon.c 28, tnI (by omega), e27, e28]
    have e4 : nI f + (((((nI (time % 1440)) - nI f) + nI e) - 1) / nI e) * nI e = nI (f + (time % 1440 - f + e - 1) / e * e) := by
      rw [pk_sub (by omega), nI_add, show (1 : Int32) = nI 1 from rfl, pk_sub (by omega), pk_div (by omega) (by omega) (by omega), pk_mul, nI_add]
    rw [e4]
    rintro _ rfl
    have hq := Nat.div_mul_le_self (time % 1440 - f + e - 1) e
    by_cases c2 : l < f + (time % 1440 - f + e - 1) / e * e
    · rw [if_pos c2] at kk
      rw [if_pos (by rw [ltI (by omega) (by omega)]; exact c2), e1440, nI_add, nI_add]
      exact kk
    · rw [if_neg c2] at kk
      rw [if_neg (by rw [ltI (by omega) (by omega)]; exact c2), nI_add]
      exact kk
  · rw [if_neg c] at kk
    rw [if_neg (by rw [ltI (by omega) (by omega)]; exact c), nI_add]
    exact kk
theorem c_beginsAt {G : GA} {h N : HP} (hN : NetOK N) (hon : On h N) {w time ask : Nat} (hw : w < nW N) (ht : time < 500000000) (ha : ask < 500000000) {K : Int32 → HP → Prop} (kk : K (nI (wB N w time ask)) h) : P_Walks_beginsAt G h (nI w) (nI time) (nI ask) K := by
  have hw20 := nW_le hN
  have h4 := hN.2.2.2.2.2.2.2.2.2.2.2.1 w
  have b4 := h4.t
  refine s_Walks_beginsAt_0 G h _ _ _ K ⟨in_nI (by omega) (by decide), ?_⟩
  rw [hon.c 26, hon.c 30, tnI (by omega)]
  unfold wB at kk
  by_cases c1 : N 26 w = 3
  · rw [if_pos c1] at kk ⊢
    exact kk
  · rw [if_neg c1] at kk ⊢
    by_cases c2 : N 26 w = 5
    · rw [if_pos c2] at kk ⊢
      rw [h4.e]
      by_cases c3 : time < ask + tn (N 30 w)
      · rw [if_pos c3] at kk
        rw [if_neg (by rw [nI_add, leI (by omega) (by omega)]; omega)]
        refine s_Walks_beginsAt_39 G h _ _ _ _ K ?_
        rw [if_neg (by decide)]
        refine ⟨in_nI (by omega) (by decide), ?_⟩
        rw [hon.c 30, tnI (by omega), h4.e, nI_add]
        exact c_nextB hN hon hw c1 (by omega) kk
      · rw [if_neg c3] at kk
        rw [if_pos (by rw [nI_add, leI (by omega) (by omega)]; omega)]
        refine s_Walks_beginsAt_38 G h _ _ _ K (s_Walks_beginsAt_39 G h _ _ _ _ K ?_)
        rw [if_pos rfl]
        exact c_nextB hN hon hw c1 (by omega) kk
    · rw [if_neg c2] at kk ⊢
      refine s_Walks_beginsAt_38 G h _ _ _ K (s_Walks_beginsAt_39 G h _ _ _ _ K ?_)
      rw [if_pos rfl]
      exact c_nextB hN hon hw c1 (by omega) kk
theorem c_endsAt {G : GA} {h N : HP} (hN : NetOK N) (hon : On h N) {w time ask : Nat} (hw : w < nW N) (ht : time < 500000000 ∨ time = NVR) (ha : ask < 500000000) {K : Int32 → HP → Prop} (kk : K (nI (wE N w time ask)) h) : P_Walks_endsAt G h (nI w) (nI time) (nI ask) K := by
  have hw20 := nW_le hN
  refine s_Walks_endsAt_0 G h _ _ _ K ?_
  have hv := NVRe
  unfold wE at kk
  have e0 : (1000000000 : Int32) = nI NVR := rfl
  rw [e0]
  by_cases c : time < NVR
  · rw [if_pos c] at kk
    rw [if_pos (by rw [ltI (by omega) (by omega)]; exact c)]
    refine c_beginsAt hN hon hw (by omega) ha ⟨in_nI (by omega) (by decide), ?_⟩
    rw [hon.c 25, tnI (by omega), (hN.2.2.2.2.2.2.2.1 w).e, nI_add]
    exact kk
  · rw [if_neg c] at kk
    rw [if_neg (by rw [ltI (by omega) (by omega)]; exact c)]
    exact kk
