theorem MO.addIf {S S' : Nat → Prop} {x v : Nat} {c : Prop} (h : MO S x) (hs : ∀ y, S' y ↔ S y ∨ (c ∧ y = v)) (hv : c → v ≤ NVR) (hn : ¬ c → x ≤ v) : MO S' (if v < x then v else x) := by
  by_cases q : c
  · exact h.add (fun y => by rw [hs y]; exact ⟨fun z => z.imp id And.right, fun z => z.imp id (fun e => ⟨q, e⟩)⟩) (hv q)
  · have := hn q
    rw [if_neg (by omega)]
    exact h.cong (fun y => by rw [hs y]; exact ⟨Or.inl, fun z => z.elim id (fun e => absurd e.1 q)⟩)
/-- the machine's search stands -/
def SC (N h : HP) (rs : List (Nat × Nat)) (lim D ask : Nat) : Prop := On h N ∧ h 48 9 = nI ask ∧ h 48 10 = nI D ∧ h 42 6 = nI lim ∧ RA N h rs
theorem RA.cells {N h h' : HP} {rs : List (Nat × Nat)} (ra : RA N h rs) (e : ∀ k, 42 ≤ k → k ≤ 47 → h' k = h k) : RA N h' rs := by
  unfold RA
  rw [e 42 (by decide) (by decide), e 43 (by decide) (by decide), e 44 (by decide) (by decide), e 45 (by decide) (by decide), e 46 (by decide) (by decide), e 47 (by decide) (by decide)]
  exact ra
theorem SC.agr {N h h' : HP} {rs : List (Nat × Nat)} {lim D ask : Nat} {S : List Nat} (s : SC N h rs lim D ask) (ha : Agr S h h') (hS : ∀ k, k ∈ S → k < 2 ∨ 49 ≤ k := by decide) : SC N h' rs lim D ask := by
  have e : ∀ k, 2 ≤ k → k ≤ 48 → h' k = h k := fun k h1 h2 => ha k (fun q => by have := hS k q; omega)
  obtain ⟨s1, s2, s3, s4, s5⟩ := s
  exact ⟨fun k h1 h2 => by rw [e k h1 (by omega)]; exact s1 k h1 h2, by rw [e 48 (by decide) (by decide)]; exact s2, by rw [e 48 (by decide) (by decide)]; exact s3, by rw [e 42 (by decide) (by decide)]; exact s4, s5.cells (fun k h1 h2 => e k (by omega) (by omega))⟩
theorem SC.up {N h : HP} {rs : List (Nat × Nat)} {lim D ask : Nat} (s : SC N h rs lim D ask) {k : Nat} (hk : k < 2 ∨ 49 ≤ k) (j : Nat) (x : Int32) : SC N (up h k j x) rs lim D ask :=
  s.agr (S := [k]) ((Agr.refl _ _).up (List.mem_singleton.mpr rfl) j x) (fun q hq => by rw [List.mem_singleton.mp hq]; exact hk)
def upd2 (R : Nat → Nat → Nat) (f s x : Nat) : Nat → Nat → Nat := fun f' s' => if f' = f ∧ s' = s then x else R f' s'
theorem upd2_at (R : Nat → Nat → Nat) (f s x : Nat) : upd2 R f s x f s = x := by simp [upd2]
theorem upd2_ne (R : Nat → Nat → Nat) {f s x f' s' : Nat} (h : ¬ (f' = f ∧ s' = s)) : upd2 R f s x f' s' = R f' s' := by simp [upd2, h]
theorem RY.put {h : HP} {D r : Nat} {R : Nat → Nat → Nat} (hr : r ≤ 3) {f s : Nat} (hf : f ≤ D * r) (hs : s < 12) (y : RY h D r R) (x : Nat) : RY (up h 50 (rw' D r f + s) (nI x)) D r (upd2 R f s x) := by
  intro f' s' hf' hs'
  by_cases c : f' = f ∧ s' = s
  · rw [c.1, c.2, up_at, upd2_at]
  · rw [up_sl _ _ (fun e => c (rw_sep hr hr hf' hf hs' hs e).2), upd2_ne _ c]
    exact y f' s' hf' hs'
theorem RY.other {h : HP} {D r r' : Nat} {R : Nat → Nat → Nat} (hr : r ≤ 3) (hr' : r' ≤ 3) (hne : r' ≠ r) {f s : Nat} (hf : f ≤ D * r) (hs : s < 12) (y : RY h D r' R) (x : Int32) : RY (up h 50 (rw' D r f + s) x) D r' R := by
  intro f' s' hf' hs'
  rw [up_sl _ _ (fun e => hne (rw_sep hr' hr hf' hf hs' hs e).1)]
  exact y f' s' hf' hs'
theorem EA.put {h : HP} {D r : Nat} {E : Nat → Nat → Nat} (hr : r ≤ 3) {f s : Nat} (hf : f ≤ D * r) (hs : s < 12) (y : EA h D r E) (x : Nat) : EA (up h 49 (rw' D r f + s) (nI x)) D r (upd2 E f s x) := by
  intro f' s' hf' hs'
  by_cases c : f' = f ∧ s' = s
  · rw [c.1, c.2, up_at, upd2_at]
  · rw [up_sl _ _ (fun e => c (rw_sep hr hr hf' hf hs' hs e).2), upd2_ne _ c]
    exact y f' s' hf' hs'
theorem EA.other {h : HP} {D r r' : Nat} {E : Nat → Nat → Nat} (hr : r ≤ 3) (hr' : r' ≤ 3) (hne : r' ≠ r) {f s : Nat} (hf : f ≤ D * r) (hs : s < 12) (y : EA h D r' E) (x : Int32) : EA (up h 49 (rw' D r f + s) x) D r' E := by
  intro f' s' hf' hs'
  rw [up_sl _ _ (fun e => hne (rw_sep hr' hr hf' hf hs' hs e).1)]
  exact y f' s' hf' hs'
theorem EA.agr {h h' : HP} {D r : Nat} {E : Nat → Nat → Nat} (y : EA h D r E) (e : h' 49 = h 49) : EA h' D r E := fun f s hf hs => by rw [e]; exact y f s hf hs
theorem RY.agr {h h' : HP} {D r : Nat} {R : Nat → Nat → Nat} (y : RY h D r R) (e : h' 50 = h 50) : RY h' D r R := fun f s hf hs => by rw [e]; exact y f s hf hs
/-- other rows of 'ready' stay -/
def F50 (D r : Nat) (h h' : HP) : Prop := Agr [50] h h' ∧ ∀ r' R', r' < 3 → r' ≠ r → RY h D r' R' → RY h' D r' R'
theorem F50.refl (D r : Nat) (h : HP) : F50 D r h h := ⟨Agr.refl _ _, fun _ _ _ _ y => y⟩
theorem F50.put {D r : Nat} {h h' : HP} (F : F50 D r h h') (hr : r ≤ 3) {f s : Nat} (hf : f ≤ D * r) (hs : s < 12) (x : Int32) : F50 D r h (up h' 50 (rw' D r f + s) x) :=
  ⟨F.1.up (by decide) _ _, fun r' R' h1 h2 y => (F.2 r' R' h1 h2 y).other hr (by omega) h2 hf hs x⟩
def TE (E : Nat → Nat → Nat) : Prop := ∀ f s, E f s = NVR ∨ E f s < 400000
def SRw (N : HP) (ask r : Nat) (E : Nat → Nat → Nat) (W f s y : Nat) : Prop := (s < nS N ∧ E f s < NVR ∧ y = E f s + (if r = 0 then 0 else tn (N 3 s))) ∨ ∃ w, w < W ∧ tn (N 24 w) = s ∧ E f (tn (N 23 w)) < NVR ∧ y = wE N w (E f (tn (N 23 w))) ask
theorem wE_small {N : HP} (hN : NetOK N) {w time ask : Nat} (ht : time < 400000) (ha : ask < 400000) : wE N w time ask < 410000 := by
  have h1 := wB_lt hN w time ask
  have h2 := (hN.2.2.2.2.2.2.2.1 w).t
  have hv := NVRe
  unfold wE
  split
  · split at h1 <;> omega
  · omega
theorem wE_never {N : HP} {w ask : Nat} : wE N w NVR ask = NVR := by
  unfold wE
  rw [if_neg (by omega)]
theorem minI {a b : Nat} (ha : a < 2147483648) (hb : b < 2147483648) : (if nI a < nI b then nI a else nI b) = nI (if a < b then a else b) := by
  by_cases c : a < b
  · rw [if_pos c, if_pos (by rw [ltI ha hb]; exact c)]
  · rw [if_neg c, if_neg (by rw [ltI ha hb]; exact c)]
theorem c_ready_w {G : GA} {N : HP} (hN : NetOK N) {rs : List (Nat × Nat)} {lim D ask r f : Nat} (hD : D ≤ 9) (hr : r < 3) (hf : f ≤ D * r) (ha : ask < 400000) {E : Nat → Nat → Nat} (te : TE E) {K : HP → Prop} {h0 : HP}
    (kk : ∀ h' R, SC N h' rs lim D ask → F50 D r h0 h' → RY h' D r R → (∀ f' s, f' < f + 1 → MO (SR N ask r E f' s) (R f' s)) → (∀ f' s, f + 1 ≤ f' → R f' s = NVR) → H_Search_getReady_2 G h' (nI r) (nI f + 1) K) :
    ∀ (m w : Nat) (h : HP) (R : Nat → Nat → Nat), w + m = nW N → SC N h rs lim D ask → EA h D r E → F50 D r h0 h → RY h D r R → (∀ f' s, f' < f → MO (SR N ask r E f' s) (R f' s)) → (∀ f' s, f + 1 ≤ f' → R f' s = NVR) → (∀ s, MO (SRw N ask r E w f s) (R f s)) → (∀ s, R f s ≤ NVR) → H_Search_getReady_93 G h (nI r) (nI f) (nI (rw' D r f)) (nI w) K
  | 0, w, h, R, e, sc, ea, F, y, h1, h2, h3, h4 => by
    have hw := nW_le hN
    refine s_Search_getReady_93 G h _ _ _ _ K ?_
    rw [sc.1.c 22, ok_W hN, if_pos (by rw [leI (by omega) (by omega)]; omega)]
    refine kk h R sc F y (fun f' s hf' => ?_) h2
    by_cases c : f' = f
    · subst c
      have := h3 s
      rw [show w = nW N by omega] at this
      exact this
    · exact h1 f' s (by omega)
  | m + 1, w, h, R, e, sc, ea, F, y, h1, h2, h3, h4 => by
    have hw := nW_le hN
    have hv := NVRe
    have hD3 := D3 (show r ≤ 3 by omega) hD
    have hb := bs_top (show r ≤ 3 by omega) hf hD
    have hb2 := bs_top2 hr hf hD
    refine s_Search_getReady_93 G h _ _ _ _ K ?_
    rw [sc.1.c 22, ok_W hN, if_neg (by rw [leI (by omega) (by omega)]; omega), sc.1.c 23, sc.1.c 24, tnI (by omega)]
    have i23 := hN.2.2.2.2.2.1 w
    have i24 := hN.2.2.2.2.2.2.1 w
    have b23 := i23.t
    have b24 := i24.t
    rw [i23.e, i24.e, nI_add, nI_add]
    have hrw : rw' D r f + 12 ≤ 360 := by unfold rw'; omega
    refine ⟨in_nI (by omega) (by decide), in_nI (by omega) (by decide), ?_⟩
    rw [tnI (by omega), ea f (tn (N 23 w)) hf (by omega), sc.2.1]
    have tef := te f (tn (N 23 w))
    refine c_endsAt hN sc.1 (by omega) (by omega) (by omega) ⟨in_nI (by omega) (by decide), ?_⟩
    rw [tnI (by omega), y f (tn (N 24 w)) hf (by omega)]
    have hwe : wE N w (E f (tn (N 23 w))) ask ≤ NVR := by
      rcases tef with z | z
      · rw [z, wE_never]; exact Nat.le_refl _
      · have := wE_small hN (w := w) z ha
        omega
    have h4w := h4 (tn (N 24 w))
    rw [minI (by omega) (by omega), nI_1]
    rintro _ rfl
    refine c_ready_w hN hD hr hf ha te kk m (w + 1) _ (upd2 R f (tn (N 24 w)) _) (by omega) (sc.up (by decide) _ _) (ea.agr (up_ce _ _ _ (by decide))) (F.put (by omega) hf (by omega) _) (y.put (by omega) hf (by omega) _) (fun f' s hf' => ?_) (fun f' s hf' => ?_) (fun s => ?_) (fun s => ?_)
    · rw [upd2_ne _ (by omega)]; exact h1 f' s hf'
    · rw [upd2_ne _ (by omega)]; exact h2 f' s hf'
    · by_cases cs : s = tn (N 24 w)
      · subst cs
        rw [upd2_at]
        refine (h3 _).addIf (c := E f (tn (N 23 w)) < NVR) (fun yy => ?_) (fun _ => hwe) (fun hn => ?_)
        · unfold SRw
          constructor
          · rintro (q | ⟨w', q1, q2, q3, q4⟩)
            · exact Or.inl (Or.inl q)
            · by_cases cw : w' = w
              · subst cw; exact Or.inr ⟨q3, q4⟩
              · exact Or.inl (Or.inr ⟨w', by omega, q2, q3, q4⟩)
          · rintro ((q | ⟨w', q1, q2⟩) | ⟨q1, q2⟩)
            · exact Or.inl q
            · exact Or.inr ⟨w', by omega, q2⟩
            · exact Or.inr ⟨w, by omega, rfl, q1, q2⟩
        · rcases tef with z | z
          · rw [z, wE_never]; exact h4w
          · omega
      · rw [upd2_ne _ (by omega)]
        refine (h3 s).cong (fun yy => ?_)
        unfold SRw
        constructor
        · rintro (q | ⟨w', q1, q2⟩)
          · exact Or.inl q
          · exact Or.inr ⟨w', by omega, q2⟩
        · rintro (q | ⟨w', q1, q2, q3⟩)
          · exact Or.inl q
          · exact Or.inr ⟨w', by rcases Nat.lt_or_ge w' w with z | z; exact z; exact absurd (by rw [← q2, show w' = w by omega]) cs, q2, q3⟩
    · by_cases cs : s = tn (N 24 w)
      · subst cs
        rw [upd2_at]
        split <;> omega
      · rw [upd2_ne _ (by omega)]; exact h4 s
theorem c_ready_s {G : GA} {N : HP} (hN : NetOK N) {rs : List (Nat × Nat)} {lim D ask r f : Nat} (hD : D ≤ 9) (hr : r < 3) (hf : f ≤ D * r) (ha : ask < 400000) {E : Nat → Nat → Nat} (te : TE E) {K : HP → Prop} {h0 : HP}
    (kk : ∀ h' R, SC N h' rs lim D ask → F50 D r h0 h' → RY h' D r R → (∀ f' s, f' < f + 1 → MO (SR N ask r E f' s) (R f' s)) → (∀ f' s, f + 1 ≤ f' → R f' s = NVR) → H_Search_getReady_2 G h' (nI r) (nI f + 1) K) :
    ∀ (m s : Nat) (h : HP) (R : Nat → Nat → Nat), s + m = nS N → SC N h rs lim D ask → EA h D r E → F50 D r h0 h → RY h D r R → (∀ f' s, f' < f → MO (SR N ask r E f' s) (R f' s)) → (∀ f' s, f + 1 ≤ f' → R f' s = NVR) → (∀ s', s' < s → MO (SRw N ask r E 0 f s') (R f s') ∧ R f s' ≤ NVR) → (∀ s', s ≤ s' → R f s' = NVR) → H_Search_getReady_21 G h (nI r) (nI f) (nI (rw' D r f)) (nI s) K
  | 0, s, h, R, e, sc, ea, F, y, h1, h2, h3, h4 => by
    have hs := nS_le hN
    refine s_Search_getReady_21 G h _ _ _ _ K ?_
    rw [sc.1.c 2, ok_S hN, if_pos (by rw [leI (by omega) (by omega)]; omega)]
    refine c_ready_w hN hD hr hf ha te kk (nW N) 0 h R (by omega) sc ea F y h1 h2 (fun s' => ?_) (fun s' => ?_)
    · rcases Nat.lt_or_ge s' s with z | z
      · exact (h3 s' z).1
      · rw [h4 s' z]
        refine MO.none (fun yy q => ?_)
        rcases q with q | ⟨w, q, -⟩
        · omega
        · omega
    · rcases Nat.lt_or_ge s' s with z | z
      · exact (h3 s' z).2
      · rw [h4 s' z]; exact Nat.le_refl _
  | m + 1, s, h, R, e, sc, ea, F, y, h1, h2, h3, h4 => by
    have hs := nS_le hN
    have hv := NVRe
    have hb := bs_top (show r ≤ 3 by omega) hf hD
    have hb2 := bs_top2 hr hf hD
    have hrw : rw' D r f + 12 ≤ 360 := by unfold rw'; omega
    refine s_Search_getReady_21 G h _ _ _ _ K ?_
    rw [sc.1.c 2, ok_S hN, if_neg (by rw [leI (by omega) (by omega)]; omega), nI_add, nI_1, tnI (by omega), ea f s hf (by omega)]
    refine ⟨in_nI (by omega) (by decide), ?_⟩
    have ih := c_ready_s hN hD hr hf ha te kk m (s + 1)
    rw [show (1000000000 : Int32) = nI NVR from rfl]
    have tef := te f s
    by_cases c : E f s = NVR
    · rw [if_pos (by rw [leI (by omega) (by omega)]; omega)]
      refine ih h R (by omega) sc ea F y h1 h2 (fun s' hs' => ?_) (fun s' hs' => h4 s' (by omega))
      rcases Nat.lt_or_ge s' s with z | z
      · exact h3 s' z
      · rw [h4 s' z]
        refine ⟨MO.none (fun yy q => ?_), Nat.le_refl _⟩
        rcases q with q | ⟨w, q, -⟩
        · rw [show s' = s by omega] at q; omega
        · omega
    · rw [if_neg (by rw [leI (by omega) (by omega)]; omega)]
      have fin : ∀ (a : Nat), a = (if r = 0 then 0 else tn (N 3 s)) → a ≤ 30 → ∀ h2, h2 = up h 50 (rw' D r f + s) (nI (E f s + a)) → H_Search_getReady_21 G h2 (nI r) (nI f) (nI (rw' D r f)) (nI (s + 1)) K := by
        intro a ea' ha30 hh ehh
        rw [ehh]
        refine ih _ (upd2 R f s (E f s + a)) (by omega) (sc.up (by decide) _ _) (ea.agr (up_ce _ _ _ (by decide))) (F.put (by omega) hf (by omega) _) (y.put (by omega) hf (by omega) _) (fun f' s' hf' => ?_) (fun f' s' hf' => ?_) (fun s' hs' => ?_) (fun s' hs' => ?_)
        · rw [upd2_ne _ (by omega)]; exact h1 f' s' hf'
        · rw [upd2_ne _ (by omega)]; exact h2 f' s' hf'
        · by_cases cs : s' = s
          · subst cs
            rw [upd2_at]
            refine ⟨⟨Or.inr (Or.inl ⟨by omega, by omega, by rw [ea']⟩), fun yy q => ?_⟩, by omega⟩
            rcases q with ⟨-, -, q⟩ | ⟨w, q, -⟩
            · rw [q, ← ea']; exact Nat.le_refl _
            · omega
          · rw [upd2_ne _ (by omega)]
            exact h3 s' (by omega)
        · rw [upd2_ne _ (by omega)]; exact h4 s' (by omega)
      by_cases cr : r = 0
      · rw [if_pos (by rw [cr]; rfl)]
        refine ⟨in_nI (by omega) (by decide), ?_⟩
        rintro _ rfl
        refine fin 0 (by rw [if_pos cr]) (by omega) _ ?_
        rw [show (0 : Int32) = nI 0 from rfl, nI_add]
      · rw [if_neg (by rw [show (0 : Int32) = nI 0 from rfl, eqI (by omega) (by omega)]; exact cr), sc.1.c 3, tnI (by omega)]
        refine ⟨in_nI (by omega) (by decide), in_nI (by omega) (by decide), ?_⟩
        rintro _ rfl
        have i3 := hN.1.2.1 s
        refine fin (tn (N 3 s)) (by rw [if_neg cr]) i3.t _ ?_
        rw [← nI_add, ← i3.e]
theorem c_ready_f {G : GA} {N : HP} (hN : NetOK N) {rs : List (Nat × Nat)} {lim D ask r : Nat} (hD : D ≤ 9) (hr : r < 3) (ha : ask < 400000) {E : Nat → Nat → Nat} (te : TE E) (hbig : ∀ f s, D * r < f → E f s = NVR) {K : HP → Prop} {h0 : HP} (ea0 : EA h0 D r E)
    (kk : ∀ h' R, SC N h' rs lim D ask → F50 D r h0 h' → RY h' D r R → (∀ f s, MO (SR N ask r E f s) (R f s)) → K h') :
    ∀ (m f : Nat) (h : HP) (R : Nat → Nat → Nat), f + m = D * r + 1 → SC N h rs lim D ask → F50 D r h0 h → RY h D r R → (∀ f' s, f' < f → MO (SR N ask r E f' s) (R f' s)) → (∀ f' s, f ≤ f' → R f' s = NVR) → H_Search_getReady_2 G h (nI r) (nI f) K
  | 0, f, h, R, e, sc, F, y, h1, h2 => by
    have hD3 := D3 (show r ≤ 3 by omega) hD
    refine s_Search_getReady_2 G h _ _ K (c_mostFare sc.2.2.1 ?_)
    rw [if_pos (by rw [ltI (by omega) (by omega)]; omega)]
    refine kk h R sc F y (fun f' s => ?_)
    rcases Nat.lt_or_ge f' f with z | z
    · exact h1 f' s z
    · rw [h2 f' s z]
      refine MO.none (fun yy q => ?_)
      rcases q with ⟨-, q, -⟩ | ⟨w, -, -, q, -⟩
      · rw [hbig f' _ (by omega)] at q; omega
      · rw [hbig f' _ (by omega)] at q; omega
  | m + 1, f, h, R, e, sc, F, y, h1, h2 => by
    have hD3 := D3 (show r ≤ 3 by omega) hD
    refine s_Search_getReady_2 G h _ _ K (c_mostFare sc.2.2.1 ?_)
    rw [if_neg (by rw [ltI (by omega) (by omega)]; omega)]
    refine c_row sc.2.2.1 (by omega) ?_
    refine c_ready_s hN hD hr (by omega) ha te (h0 := h0) (fun h' R' a b c d e' => ?_) (nS N) 0 h R (by omega) sc (ea0.agr (F.1 49 (by decide))) F y h1 (fun f' s q => h2 f' s (by omega)) (fun s' hs' => by omega) (fun s' _ => h2 f s' (Nat.le_refl _))
    rw [nI_1]
    exact c_ready_f hN hD hr ha te hbig ea0 kk m (f + 1) h' R' (by omega) a b c d e'
theorem c_getReady {G : GA} {N h : HP} (hN : NetOK N) {rs : List (Nat × Nat)} {lim D ask r : Nat} (hD : D ≤ 9) (hr : r < 3) (ha : ask < 400000) {E : Nat → Nat → Nat} (te : TE E) (hbig : ∀ f s, D * r < f → E f s = NVR) (sc : SC N h rs lim D ask) (ea : EA h D r E) (ry : RY h D r (fun _ _ => NVR)) {K : HP → Prop}
    (kk : ∀ h' R, SC N h' rs lim D ask → F50 D r h h' → RY h' D r R → (∀ f s, MO (SR N ask r E f s) (R f s)) → K h') : P_Search_getReady G h (nI r) K :=
  s_Search_getReady_0 G h _ K (c_ready_f hN hD hr ha te hbig ea kk (D * r + 1) 0 h (fun _ _ => NVR) (by omega) sc (F50.refl _ _ _) ry (fun f' s q => by omega) (fun _ _ _ => rfl))
