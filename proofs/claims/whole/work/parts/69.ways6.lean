/-! ===== ways: the class takes them up ===== -/
def WD (N : HP) (rs : List (Nat × Nat)) (lim ask : Nat) (E R : Nat → Nat → Nat → Nat) (to : Nat) (h : HP) (i y : Nat) : Prop := ∃ r f wk rv ri rj, r ≤ 3 ∧ f < 28 ∧ Ub (aR N lim ask E to) r f ∧ y = kw (aR N lim ask E to) ask r f ∧ TR N rs lim ask E R wk rv ri rj r f to (aR N lim ask E to r f) 0 ∧ HW N rs ask i r f (fwl wk rv ri rj r) h
theorem HW.keep {N : HP} {rs : List (Nat × Nat)} {ask i r f : Nat} {S : List St} {h h' : HP} (w : HW N rs ask i r f S h) (hS : S.length ≤ 7) (e56 : ∀ x, x < 63 * (i + 1) → h' 56 x = h 56 x) (e55 : ∀ x, x < 5 * (i + 1) → h' 55 x = h 55 x) : HW N rs ask i r f S h' := by
  obtain ⟨w1, w2, w3, w4, w5, w6⟩ := w
  refine ⟨fun q s hq c hc => ?_, by rw [e55 _ (by omega), w2, e56 _ (by omega)], by rw [e55 _ (by omega), w3], by rw [e55 _ (by omega), w4], by rw [e55 _ (by omega), w5], by rw [e55 _ (by omega), w6]⟩
  have hq2 := (List.getElem?_eq_some_iff.mp hq).1
  have := w1 q s hq c hc
  show h' 56 _ = _
  rw [e56 _ (by omega)]
  exact this
theorem c_col118 {G : GA} {N h0 : HP} {rs : List (Nat × Nat)} {lim ask frm to : Nat} {E R : Nat → Nat → Nat → Nat} (c : CxW N rs lim ask frm E R) (hto : to < 12) {L : List Nat} (hlen : L.length ≤ 58) (hmem : ∀ y, y ∈ L → ∃ r f, r ≤ 3 ∧ f < 28 ∧ Ub (aR N lim ask E to) r f ∧ y = kw (aR N lim ask E to) ask r f) {K : Int32 → HP → Prop}
    (kk : ∀ h', Agr [55, 56, 58, 59, 60, 61] h0 h' → (∀ i y, L[i]? = some y → WD N rs lim ask E R to h' i y) → K (nI L.length) h') (e9 : h0 54 9 = nI L.length) (so : SLs h0 62 63 L) (cc0 : CC N h0 rs lim ask E R) :
    ∀ n i h', i + n = L.length → Agr [55, 56, 58, 59, 60, 61] h0 h' → (∀ q y, q < i → L[q]? = some y → WD N rs lim ask E R to h' q y) → H_Found_collect_118 G h' (nI to) (nI i) K
  | 0, i, h', e, ag, wd => by
    refine s_Found_collect_118 _ _ _ _ _ ?_
    rw [ag 54 (by decide), e9, if_pos (by rw [leI (by omega) (by omega)]; omega)]
    refine kk h' ag (fun q y hq => wd q y ?_ hq)
    have := (List.getElem?_eq_some_iff.mp hq).1
    omega
  | n + 1, i, h', e, ag, wd => by
    have hN := c.1
    have hl := c.2.2.2.1
    have ha := c.2.2.2.2.1
    have hv := NVRe
    have ih := c_col118 (G := G) c hto hlen hmem kk e9 so cc0 n (i + 1)
    have so' : SLs h' 62 63 L := ⟨by rw [ag 62 (by decide)]; exact so.1, by rw [ag 63 (by decide)]; exact so.2⟩
    have cc' : CC N h' rs lim ask E R := cc0.agr ag
    refine s_Found_collect_118 _ _ _ _ _ ?_
    rw [ag 54 (by decide), e9, if_neg (by rw [leI (by omega) (by omega)]; omega)]
    obtain ⟨y, hy⟩ : ∃ y, L[i]? = some y := ⟨L[i]'(by omega), List.getElem?_eq_getElem (by omega)⟩
    refine c_get62 so' hlen hy (c_get62 so' hlen hy (c_get62 so' hlen hy ?_))
    obtain ⟨r, f, hr, hf, ub, ey⟩ := hmem y (List.mem_of_getElem? hy)
    have afe := aR_fe c hr ub.1
    have hge := aR_ge c (to := to) hr f
    have ylt : y < 2147483648 := by
      rw [ey]
      unfold kw
      omega
    have d1 : nI y - nI y / 28 * 28 = nI f := by
      rw [show (28 : Int32) = nI 28 from rfl, pk_rem (by omega) (by decide) (by decide)]
      congr 1
      rw [ey]
      unfold kw
      omega
    have d2 : nI y / 28 - nI y / 28 / 4 * 4 = nI r := by
      rw [show (28 : Int32) = nI 28 from rfl, show (4 : Int32) = nI 4 from rfl, pk_div (by omega) (by decide) (by decide), pk_rem (by omega) (by decide) (by decide)]
      congr 1
      rw [ey]
      unfold kw
      omega
    have d3 : nI ask + nI y / 28 / 4 = nI (aR N lim ask E to r f) := by
      rw [show (28 : Int32) = nI 28 from rfl, show (4 : Int32) = nI 4 from rfl, pk_div (by omega) (by decide) (by decide), pk_div (by omega) (by decide) (by decide), nI_add]
      congr 1
      rw [ey]
      unfold kw
      omega
    rw [ag 54 (by decide), cc0.2.1, d1, d2, d3]
    refine s_Found_trace_0 _ _ _ _ _ _ _ (c_trace c r f to (aR N lim ask E to r f) 0 h' cc' hr (by omega) hto afe.1 (by omega) afe.2 (fun h2 wk rv ri rj ag2 _ tr c58 c59 => ?_))
    have cc2 := cc'.agr ag2
    refine c_write c cc2 (by omega) hr tr.ok c58 c59 (fun h3 ag3 e56 e55 hw => ?_)
    rw [nI_1]
    refine ih h3 (by omega) ((ag.trans (ag2.mono (by decide))).trans (ag3.mono (by decide))) (fun q y' hq hy' => ?_)
    by_cases z : q = i
    · rw [z] at hy' ⊢
      rw [hy] at hy'
      rw [← Option.some.inj hy']
      exact ⟨r, f, wk, rv, ri, rj, hr, hf, ub, ey, tr, hw⟩
    · obtain ⟨r', f', wk', rv', ri', rj', a1, a2, a3, a4, a5, a6⟩ := wd q y' (by omega) hy'
      have hln := fwl_len wk' rv' ri' rj' r'
      refine ⟨r', f', wk', rv', ri', rj', a1, a2, a3, a4, a5, a6.keep (by omega) (fun x hx => ?_) (fun x hx => ?_)⟩
      · rw [e56 x (by omega), ag2 56 (by decide)]
      · rw [e55 x (by omega), ag2 55 (by decide)]
/-- what the class has at hand -/
def WA (N : HP) (rs : List (Nat × Nat)) (lim ask : Nat) (E R : Nat → Nat → Nat → Nat) (to : Nat) (L : List Nat) (h : HP) : Prop := L.length ≤ 58 ∧ L.Pairwise (· < ·) ∧ (∀ y, y ∈ L ↔ ∃ r f, r ≤ 3 ∧ f < 28 ∧ Ub (aR N lim ask E to) r f ∧ y = kw (aR N lim ask E to) ask r f) ∧ h 54 9 = nI L.length ∧ h 54 10 = nI ask ∧ ∀ i y, L[i]? = some y → WD N rs lim ask E R to h i y
theorem c_collect {G : GA} {N h : HP} {rs : List (Nat × Nat)} {lim ask frm to : Nat} {E R : Nat → Nat → Nat → Nat} (c : CxW N rs lim ask frm E R) (hto : to < 12) (sc : SC N h rs lim (dear N) ask) (ea : ∀ i, i ≤ 3 → EA h (dear N) i (E i)) (ry : ∀ i, i < 3 → RY h (dear N) i (R i)) {K : Int32 → HP → Prop}
    (kk : ∀ h' L, Agr [54, 55, 56, 57, 58, 59, 60, 61, 62, 63] h h' → WA N rs lim ask E R to L h' → K (nI L.length) h') : P_Found_collect G h (nI to) K := by
  have hN := c.1
  have hD := dear_le hN
  refine s_Found_collect_0 _ _ _ _ ?_
  rw [sc.2.1]
  intro h1 e1
  refine s_Sorted_clear_62_0 _ _ _ ?_
  intro h2 e2
  have ag2 : Agr [54, 62] h h2 := by rw [e2, e1]; exact ((Agr.refl _ _).up (by decide) _ _).up (by decide) _ _
  refine c_fill_57 (fun h3 ag3 f3 => ?_)
  have ag3' : Agr [54, 57, 62] h h3 := (ag2.mono (by decide)).trans (ag3.mono (by decide))
  have cc3 : CC N h3 rs lim ask E R := by
    refine ⟨sc.agr ag3', ?_, fun i hi => (ea i hi).agr (ag3' 49 (by decide)), fun i hi => (ry i hi).agr (ag3' 50 (by decide))⟩
    rw [ag3 54 (by decide), e2, up_ce _ _ _ (by decide), e1, up_at]
  refine c_col29 (h0 := h3) c hto (fun h4 ci => ?_) 4 0 h3 (by omega) ⟨cc3, Agr.refl _ _, fun g hg => ⟨NVR, by rw [f3 g hg]; rfl, Nat.le_refl _, Or.inl rfl, fun r' f' p => by unfold Pr at p; omega⟩, [], ⟨by rw [ag3 62 (by decide), e2, up_at]; rfl, fun i y hy => by rw [List.getElem?_nil] at hy; cases hy⟩, List.Pairwise.nil, Nat.zero_le _, fun y => ⟨fun z => absurd z List.not_mem_nil, fun ⟨r', f', p, _⟩ => by unfold Pr at p; omega⟩⟩
  obtain ⟨i1, i2, i3, L, i4, i5, i6, i7⟩ := ci
  intro h5 e5
  have hlen : L.length ≤ 58 := by
    rw [bs4] at i6
    omega
  have ag5 : Agr [54] h4 h5 := by rw [e5]; exact (Agr.refl _ _).up (by decide) _ _
  have cc5 : CC N h5 rs lim ask E R := ⟨i1.1.agr ag5, by rw [e5, up_sl _ _ (by decide)]; exact i1.2.1, fun i hi => (i1.2.2.1 i hi).agr (ag5 49 (by decide)), fun i hi => (i1.2.2.2 i hi).agr (ag5 50 (by decide))⟩
  have mem : ∀ y, y ∈ L ↔ ∃ r f, r ≤ 3 ∧ f < 28 ∧ Ub (aR N lim ask E to) r f ∧ y = kw (aR N lim ask E to) ask r f := fun y => by
    rw [i7 y]
    refine ⟨fun ⟨r', f', p, w⟩ => ?_, fun ⟨r', f', h1, h2, h3, h4⟩ => ⟨r', f', Or.inl ⟨by omega, ?_⟩, h3, h4⟩⟩
    · unfold Pr at p
      have := D3 (show r' ≤ 3 by omega) hD
      exact ⟨r', f', by omega, by omega, w⟩
    · rcases Nat.lt_or_ge (dear N * r') f' with z | z
      · have := aR_big c (to := to) h1 z
        have := h3.1
        omega
      · exact z
  have e62 : h4 62 1 = nI L.length := i4.1
  refine c_col118 (h0 := h5) c hto hlen (fun y hy => (mem y).mp hy) (fun h' ag' wd => ?_) (by rw [e5, up_at, e62]) ⟨by rw [ag5 62 (by decide)]; exact i4.1, by rw [ag5 63 (by decide)]; exact i4.2⟩ cc5 L.length 0 h5 (by omega) (Agr.refl _ _) (fun q y hq => by omega)
  refine kk h' L ((((ag3'.mono (by decide)).trans (i2.mono (by decide))).trans (ag5.mono (by decide))).trans (ag'.mono (by decide))) ⟨hlen, i5, mem, ?_, ?_, wd⟩
  · rw [ag' 54 (by decide), e5, up_at, e62]
  · rw [ag' 54 (by decide)]
    exact cc5.2.1
