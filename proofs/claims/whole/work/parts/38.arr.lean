/-! ===== when one is there ===== -/
def aw (N : HP) (ask : Nat) (E : Nat → Nat → Nat) (f s : Nat) : Nat → Nat
  | 0 => E f s
  | n + 1 => if tn (N 24 n) = s then (if wE N n (E f (tn (N 23 n))) ask < aw N ask E f s n then wE N n (E f (tn (N 23 n))) ask else aw N ask E f s n) else aw N ask E f s n
def arr (N : HP) (lim ask : Nat) (E : Nat → Nat → Nat) (f s : Nat) : Nat := if aw N ask E f s (nW N) < lim then aw N ask E f s (nW N) else NVR
theorem wE_ok {N : HP} (hN : NetOK N) {w x ask : Nat} (hx : x = NVR ∨ x < 400000) (ha : ask < 400000) : wE N w x ask = NVR ∨ wE N w x ask < 410000 := by
  rcases hx with q | q
  · rw [q, wE_never]; exact Or.inl rfl
  · exact Or.inr (wE_small hN q ha)
theorem aw_ok {N : HP} (hN : NetOK N) {ask : Nat} {E : Nat → Nat → Nat} (te : TE E) (ha : ask < 400000) (f s : Nat) : ∀ n, aw N ask E f s n = NVR ∨ aw N ask E f s n < 410000
  | 0 => by
    rcases te f s with q | q
    · exact Or.inl q
    · exact Or.inr (show E f s < 410000 by omega)
  | n + 1 => by
    have ih := aw_ok hN te ha f s n
    have h1 := wE_ok hN (w := n) (te f (tn (N 23 n))) ha
    simp only [aw]
    split
    · split
      · exact h1
      · exact ih
    · exact ih
theorem aw_le {N : HP} {ask : Nat} {E : Nat → Nat → Nat} {f s : Nat} : ∀ n, aw N ask E f s n ≤ E f s ∧ ∀ w, w < n → tn (N 24 w) = s → aw N ask E f s n ≤ wE N w (E f (tn (N 23 w))) ask
  | 0 => ⟨Nat.le_refl _, fun w h => by omega⟩
  | n + 1 => by
    have ih := aw_le (N := N) (ask := ask) (E := E) (f := f) (s := s) n
    simp only [aw]
    by_cases c : tn (N 24 n) = s
    · rw [if_pos c]
      refine ⟨by split <;> omega, fun w hw hs => ?_⟩
      by_cases cw : w = n
      · subst cw; split <;> omega
      · have := ih.2 w (by omega) hs
        split <;> omega
    · rw [if_neg c]
      refine ⟨ih.1, fun w hw hs => ?_⟩
      by_cases cw : w = n
      · subst cw; exact absurd hs c
      · exact ih.2 w (by omega) hs
theorem aw_of {N : HP} {ask : Nat} {E : Nat → Nat → Nat} {f s : Nat} : ∀ n, aw N ask E f s n = E f s ∨ ∃ w, w < n ∧ tn (N 24 w) = s ∧ aw N ask E f s n = wE N w (E f (tn (N 23 w))) ask
  | 0 => Or.inl rfl
  | n + 1 => by
    have ih := aw_of (N := N) (ask := ask) (E := E) (f := f) (s := s) n
    simp only [aw]
    by_cases c : tn (N 24 n) = s
    · rw [if_pos c]
      split
      · exact Or.inr ⟨n, by omega, c, rfl⟩
      · rcases ih with q | ⟨w, a, b⟩
        · exact Or.inl q
        · exact Or.inr ⟨w, by omega, b⟩
    · rw [if_neg c]
      rcases ih with q | ⟨w, a, b⟩
      · exact Or.inl q
      · exact Or.inr ⟨w, by omega, b⟩
theorem arr_ok {N : HP} (hN : NetOK N) {lim ask : Nat} {E : Nat → Nat → Nat} (te : TE E) (ha : ask < 400000) (hl : lim ≤ 400000) (f s : Nat) : arr N lim ask E f s = NVR ∨ arr N lim ask E f s < lim := by
  unfold arr
  split
  · rename_i c; exact Or.inr c
  · exact Or.inl rfl
theorem arr_le1 {N : HP} {lim ask : Nat} {E : Nat → Nat → Nat} {f s : Nat} (h : E f s < lim) : arr N lim ask E f s ≤ E f s := by
  have := (aw_le (N := N) (ask := ask) (E := E) (f := f) (s := s) (nW N)).1
  unfold arr
  rw [if_pos (by omega)]
  exact this
theorem arr_le2 {N : HP} {lim ask : Nat} {E : Nat → Nat → Nat} {f s w : Nat} (hw : w < nW N) (hs : tn (N 24 w) = s) (h : wE N w (E f (tn (N 23 w))) ask < lim) : arr N lim ask E f s ≤ wE N w (E f (tn (N 23 w))) ask := by
  have := (aw_le (N := N) (ask := ask) (E := E) (f := f) (s := s) (nW N)).2 w hw hs
  unfold arr
  rw [if_pos (by omega)]
  exact this
theorem arr_of {N : HP} {lim ask : Nat} {E : Nat → Nat → Nat} {f s : Nat} (h : arr N lim ask E f s < NVR) : arr N lim ask E f s < lim ∧ (arr N lim ask E f s = E f s ∨ ∃ w, w < nW N ∧ tn (N 24 w) = s ∧ arr N lim ask E f s = wE N w (E f (tn (N 23 w))) ask) := by
  unfold arr at h ⊢
  split at h
  · rename_i c
    rw [if_pos c]
    exact ⟨c, aw_of (nW N)⟩
  · omega
theorem c_endedAt {G : GA} {h : HP} {D r f s : Nat} (hd : h 48 10 = nI D) (hD : D ≤ 9) (hr : r ≤ 3) (hf : f < 1000) (hs : s < 12) {E : Nat → Nat → Nat} (ea : EA h D r E) (bg : Bg D r E) {K : Int32 → HP → Prop} (kk : K (nI (E f s)) h) : P_Search_endedAt G h (nI r) (nI f) (nI s) K := by
  refine s_Search_endedAt_0 G h _ _ _ K (c_canCost hd hD hr hf ?_)
  by_cases c : f ≤ D * r
  · rw [if_pos (by rw [decide_eq_true_eq]; exact c)]
    refine c_row hd (by omega) ?_
    have hb := bs_top hr c hD
    have hrw : rw' D r f + 12 ≤ 696 := by unfold rw'; omega
    rw [nI_add, tnI (by omega), ea f s c hs]
    exact ⟨in_nI (by omega) (by decide), kk⟩
  · rw [if_neg (by rw [decide_eq_true_eq]; exact c)]
    rw [bg f s (by omega)] at kk
    exact kk
theorem c_arrival_loop {G : GA} {N h : HP} (hN : NetOK N) {rs : List (Nat × Nat)} {lim D ask r f s : Nat} (hD : D ≤ 9) (hr : r ≤ 3) (hf : f < 1000) (hs : s < 12) (ha : ask < 400000) (hl : lim ≤ 400000) {E : Nat → Nat → Nat} (te : TE E) (sc : SC N h rs lim D ask) (ea : EA h D r E) (bg : Bg D r E) {K : Int32 → HP → Prop} (kk : K (nI (arr N lim ask E f s)) h) : ∀ m n, n + m = nW N → H_Search_arrival_12 G h (nI r) (nI f) (nI s) (nI (aw N ask E f s n)) (nI n) K
  | 0, n, e => by
    have hw := nW_le hN
    have hv := NVRe
    have hok := aw_ok hN te ha f s n
    refine s_Search_arrival_12 G h _ _ _ _ _ K ?_
    rw [sc.1.c 22, ok_W hN, if_pos (by rw [leI (by omega) (by omega)]; omega), sc.2.2.2.1]
    unfold arr at kk
    rw [show n = nW N by omega] at hok ⊢
    by_cases c : aw N ask E f s (nW N) < lim
    · rw [if_pos c] at kk
      rw [if_neg (by rw [leI (by omega) (by omega)]; omega)]
      exact kk
    · rw [if_neg c] at kk
      rw [if_pos (by rw [leI (by omega) (by omega)]; omega)]
      exact kk
  | m + 1, n, e => by
    have hw := nW_le hN
    have hv := NVRe
    have hok := aw_ok hN te ha f s n
    have i23 := hN.2.2.2.2.2.1 n
    have i24 := hN.2.2.2.2.2.2.1 n
    have b23 := i23.t
    have b24 := i24.t
    refine s_Search_arrival_12 G h _ _ _ _ _ K ?_
    rw [sc.1.c 22, ok_W hN, if_neg (by rw [leI (by omega) (by omega)]; omega), sc.1.c 23, sc.1.c 24, tnI (by omega), i23.e, i24.e, nI_1]
    refine ⟨in_nI (by omega) (by decide), ?_⟩
    have ih := c_arrival_loop (G := G) hN hD hr hf hs ha hl te sc ea bg kk m (n + 1) (by omega)
    simp only [aw] at ih
    by_cases c : tn (N 24 n) = s
    · rw [if_pos c] at ih
      rw [if_pos (by rw [c])]
      refine c_endedAt sc.2.2.1 hD hr hf (by omega) ea bg ?_
      rw [sc.2.1]
      have tef := te f (tn (N 23 n))
      have hwk := wE_ok hN (w := n) tef ha
      refine c_endsAt hN sc.1 (by omega) (by omega) (by omega) ?_
      rw [minI (by omega) (by omega)]
      exact ih
    · rw [if_neg c] at ih
      rw [if_neg (by rw [eqI (by omega) (by omega)]; exact c)]
      exact ih
theorem c_arrival {G : GA} {N h : HP} (hN : NetOK N) {rs : List (Nat × Nat)} {lim D ask r f s : Nat} (hD : D ≤ 9) (hr : r ≤ 3) (hf : f < 1000) (hs : s < 12) (ha : ask < 400000) (hl : lim ≤ 400000) {E : Nat → Nat → Nat} (te : TE E) (sc : SC N h rs lim D ask) (ea : EA h D r E) (bg : Bg D r E) {K : Int32 → HP → Prop} (kk : K (nI (arr N lim ask E f s)) h) : P_Search_arrival G h (nI r) (nI f) (nI s) K :=
  s_Search_arrival_0 G h _ _ _ K (c_endedAt sc.2.2.1 hD hr hf hs ea bg (c_arrival_loop hN hD hr hf hs ha hl te sc ea bg kk (nW N) 0 (by omega)))
/-- what the reference reads as 'soonest' -/
def ER (h : HP) (ask frm r : Nat) (E : Nat → Nat → Nat) : Prop := (r = 0 → E = E00 ask frm) ∧ (1 ≤ r → EM h r E)
theorem cm_arrival_118 {G : GA} {N h : HP} (hN : NetOK N) {rs : List (Nat × Nat)} {lim ask frm r f s w : Nat} (ha : ask < 400000) {E : Nat → Nat → Nat} (te : TE E) (gc : GC N h rs lim ask frm) (hw : w < nW N) (hs : tn (N 24 w) = s) {K : Int32 → HP → Prop}
    (kk : H_Model_arrival_44 G h (nI r) (nI f) (nI s) (nI (aw N ask E f s (w + 1))) (nI w + 1) K) : H_Model_arrival_118 G h (nI r) (nI f) (nI s) (nI (aw N ask E f s w)) (nI w) (nI (E f (tn (N 23 w)))) K := by
  have hv := NVRe
  have hok := aw_ok hN te ha f s w
  have tef := te f (tn (N 23 w))
  refine s_Model_arrival_118 G h _ _ _ _ _ _ K ?_
  rw [show (1000000000 : Int32) = nI NVR from rfl]
  simp only [aw] at kk
  rw [if_pos hs] at kk
  by_cases c : E f (tn (N 23 w)) = NVR
  · rw [if_pos (by rw [c])]
    rw [c, wE_never, if_neg (by omega)] at kk
    exact kk
  · rw [if_neg (by rw [eqI (by omega) (by omega)]; exact c), gc.2.1]
    have hwe := wE_small hN (w := w) (time := E f (tn (N 23 w))) (ask := ask) (by omega) ha
    refine cm_behind hN gc.1 hw (by omega) (by omega) ?_
    by_cases c2 : wE N w (E f (tn (N 23 w))) ask < aw N ask E f s w
    · rw [if_pos c2] at kk
      rw [if_neg (by rw [leI (by omega) (by omega)]; omega)]
      exact kk
    · rw [if_neg c2] at kk
      rw [if_pos (by rw [leI (by omega) (by omega)]; omega)]
      exact kk
theorem cm_arrival_loop {G : GA} {N h : HP} (hN : NetOK N) {rs : List (Nat × Nat)} {lim ask frm r f s : Nat} (hr : r ≤ 3) (hf : f < 28) (hs : s < 12) (hfr : frm < 12) (ha : ask < 400000) (hl : lim ≤ 400000) {E : Nat → Nat → Nat} (te : TE E) (gc : GC N h rs lim ask frm) (er : ER h ask frm r E) {K : Int32 → HP → Prop} (kk : K (nI (arr N lim ask E f s)) h) : ∀ m n, n + m = nW N → H_Model_arrival_44 G h (nI r) (nI f) (nI s) (nI (aw N ask E f s n)) (nI n) K
  | 0, n, e => by
    have hw := nW_le hN
    have hv := NVRe
    have hok := aw_ok hN te ha f s n
    refine s_Model_arrival_44 G h _ _ _ _ _ K ?_
    rw [gc.1.2.1.2.2.1, ok_W hN, if_pos (by rw [leI (by omega) (by omega)]; omega), gc.2.2.1]
    unfold arr at kk
    rw [show n = nW N by omega] at hok ⊢
    by_cases c : aw N ask E f s (nW N) < lim
    · rw [if_pos c] at kk
      rw [if_neg (by rw [leI (by omega) (by omega)]; omega)]
      exact kk
    · rw [if_neg c] at kk
      rw [if_pos (by rw [leI (by omega) (by omega)]; omega)]
      exact kk
  | m + 1, n, e => by
    have hw := nW_le hN
    have hv := NVRe
    have i23 := hN.2.2.2.2.2.1 n
    have i24 := hN.2.2.2.2.2.2.1 n
    have b23 := i23.t
    have b24 := i24.t
    have ih := cm_arrival_loop (G := G) hN hr hf hs hfr ha hl te gc er kk m (n + 1) (by omega)
    refine s_Model_arrival_44 G h _ _ _ _ _ K ?_
    rw [gc.1.2.1.2.2.1, ok_W hN, if_neg (by rw [leI (by omega) (by omega)]; omega), gc.1.c 81 23, gc.1.c 82 24, tnI (by omega), i23.e, i24.e, gc.2.2.2.1]
    refine ⟨in_nI (by omega) (by decide), ?_⟩
    by_cases c : tn (N 24 n) = s
    · rw [if_pos (by rw [c])]
      have go118 := cm_arrival_118 (G := G) (r := r) (f := f) (s := s) hN ha te gc (show n < nW N by omega) c (by rw [nI_1]; exact ih)
      have go116 : E f (tn (N 23 n)) = NVR → H_Model_arrival_116 G h (nI r) (nI f) (nI s) (nI (aw N ask E f s n)) (nI n) K := fun q => by
        refine s_Model_arrival_116 G h _ _ _ _ _ K ?_
        rw [q] at go118
        exact go118
      by_cases c0 : r = 0
      · have eE := er.1 c0
        rw [if_pos (by rw [c0]; decide)]
        by_cases cf : f = 0
        · rw [if_pos (by rw [cf]; rfl)]
          by_cases c3 : tn (N 23 n) = frm
          · rw [if_pos (by rw [c3]), gc.2.1]
            rw [eE, cf, E00_t c3, ← eE, ← cf] at go118
            exact go118
          · rw [if_neg (by rw [eqI (by omega) (by omega)]; exact c3)]
            exact go116 (by rw [eE, E00_f (fun z => c3 z.2)])
        · rw [if_neg (by rw [show (0 : Int32) = nI 0 from rfl, eqI (by omega) (by omega)]; exact cf)]
          exact go116 (by rw [eE, E00_f (fun z => cf z.1)])
      · rw [if_neg (by rw [show (0 : Int32) = nI 0 from rfl, leI (by omega) (by omega)]; omega)]
        have em := er.2 (by omega)
        have hmi := mi_lt (r := r) (f := f) (s := tn (N 23 n)) hr hf (by omega)
        refine cm_at ⟨in_nI hmi (by decide), ?_⟩
        rw [tnI (by omega), em f _ hf (by omega)]
        exact go118
    · simp only [aw] at ih
      rw [if_neg c] at ih
      rw [if_neg (by rw [eqI (by omega) (by omega)]; exact c), nI_1]
      exact ih
theorem cm_arrival {G : GA} {N h : HP} (hN : NetOK N) {rs : List (Nat × Nat)} {lim ask frm r f s : Nat} (hr : r ≤ 3) (hf : f < 28) (hs : s < 12) (hfr : frm < 12) (ha : ask < 400000) (hl : lim ≤ 400000) {E : Nat → Nat → Nat} (te : TE E) (gc : GC N h rs lim ask frm) (er : ER h ask frm r E) {K : Int32 → HP → Prop} (kk : K (nI (arr N lim ask E f s)) h) : P_Model_arrival G h (nI r) (nI f) (nI s) K := by
  have start := cm_arrival_loop (G := G) hN hr hf hs hfr ha hl te gc er kk (nW N) 0 (by omega)
  refine s_Model_arrival_0 G h _ _ _ K ?_
  by_cases c0 : r = 0
  · have eE := er.1 c0
    rw [if_pos (by rw [c0]; decide)]
    by_cases cf : f = 0
    · rw [if_pos (by rw [cf]; rfl), gc.2.2.2.1, gc.2.1]
      by_cases c3 : s = frm
      · rw [if_pos (by rw [c3])]
        have e0 : aw N ask E f s 0 = ask := by show E f s = ask; rw [eE, cf, E00_t c3]
        rw [e0] at start
        exact start
      · rw [if_neg (by rw [eqI (by omega) (by omega)]; exact c3)]
        have e0 : aw N ask E f s 0 = NVR := by show E f s = NVR; rw [eE, E00_f (fun z => c3 z.2)]
        rw [e0] at start
        exact start
    · rw [if_neg (by rw [show (0 : Int32) = nI 0 from rfl, eqI (by omega) (by omega)]; exact cf)]
      have e0 : aw N ask E f s 0 = NVR := by show E f s = NVR; rw [eE, E00_f (fun z => cf z.1)]
      rw [e0] at start
      exact start
  · rw [if_neg (by rw [show (0 : Int32) = nI 0 from rfl, leI (by omega) (by omega)]; omega)]
    have em := er.2 (by omega)
    have hmi := mi_lt (r := r) (f := f) (s := s) hr hf hs
    refine cm_at ⟨in_nI hmi (by decide), ?_⟩
    rw [tnI (by omega), em f s hf hs]
    exact start
