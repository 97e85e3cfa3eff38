def bst (E : Nat → Nat → Nat → Nat) (s : Nat) : Nat → Nat
  | 0 => NVR
  | n + 1 => if E n 0 s < bst E s n then E n 0 s else bst E s n
def sx (N : HP) (lim ask : Nat) (b : Nat → Nat) (s : Nat) : Nat → Nat
  | 0 => b s
  | n + 1 => if tn (N 24 n) = s ∧ wE N n (b (tn (N 23 n))) ask < lim then (if wE N n (b (tn (N 23 n))) ask < sx N lim ask b s n then wE N n (b (tn (N 23 n))) ask else sx N lim ask b s n) else sx N lim ask b s n
def so0 (N : HP) (lim ask : Nat) (E : Nat → Nat → Nat → Nat) (s : Nat) : Nat := sx N lim ask (fun q => bst E q 4) s (nW N)
theorem bst_ok {E : Nat → Nat → Nat → Nat} {s : Nat} : ∀ n, (∀ r, r < n → TE (E r)) → bst E s n = NVR ∨ bst E s n < 400000
  | 0, _ => Or.inl rfl
  | n + 1, h => by
    have ih := bst_ok (E := E) (s := s) n (fun r hr => h r (by omega))
    have h1 := h n (by omega) 0 s
    simp only [bst]
    split <;> omega
theorem bst_le {E : Nat → Nat → Nat → Nat} {s : Nat} : ∀ n r, r < n → bst E s n ≤ E r 0 s
  | 0, r, h => by omega
  | n + 1, r, h => by
    simp only [bst]
    by_cases c : r = n
    · subst c; split <;> omega
    · have := bst_le (E := E) (s := s) n r (by omega)
      split <;> omega
theorem bst_of {E : Nat → Nat → Nat → Nat} {s : Nat} : ∀ n, bst E s n = NVR ∨ ∃ r, r < n ∧ bst E s n = E r 0 s
  | 0 => Or.inl rfl
  | n + 1 => by
    simp only [bst]
    split
    · exact Or.inr ⟨n, by omega, rfl⟩
    · rcases bst_of (E := E) (s := s) n with q | ⟨r, a, b⟩
      · exact Or.inl q
      · exact Or.inr ⟨r, by omega, b⟩
theorem sx_ok {N : HP} {lim ask : Nat} {b : Nat → Nat} {s : Nat} (hb : b s = NVR ∨ b s < 400000) (hl : lim ≤ 400000) : ∀ n, sx N lim ask b s n = NVR ∨ sx N lim ask b s n < 400000
  | 0 => hb
  | n + 1 => by
    have ih := sx_ok (N := N) (lim := lim) (ask := ask) hb hl n
    simp only [sx]
    split
    · rename_i c
      split
      · exact Or.inr (by omega)
      · exact ih
    · exact ih
theorem sx_le {N : HP} {lim ask : Nat} {b : Nat → Nat} {s : Nat} : ∀ n, sx N lim ask b s n ≤ b s ∧ ∀ w, w < n → tn (N 24 w) = s → wE N w (b (tn (N 23 w))) ask < lim → sx N lim ask b s n ≤ wE N w (b (tn (N 23 w))) ask
  | 0 => ⟨Nat.le_refl _, fun w h => by omega⟩
  | n + 1 => by
    have ih := sx_le (N := N) (lim := lim) (ask := ask) (b := b) (s := s) n
    simp only [sx]
    by_cases c : tn (N 24 n) = s ∧ wE N n (b (tn (N 23 n))) ask < lim
    · rw [if_pos c]
      refine ⟨by split <;> omega, fun w hw h1 h2 => ?_⟩
      by_cases cw : w = n
      · subst cw; split <;> omega
      · have := ih.2 w (by omega) h1 h2
        split <;> omega
    · rw [if_neg c]
      refine ⟨ih.1, fun w hw h1 h2 => ?_⟩
      by_cases cw : w = n
      · subst cw; exact absurd ⟨h1, h2⟩ c
      · exact ih.2 w (by omega) h1 h2
theorem sx_of {N : HP} {lim ask : Nat} {b : Nat → Nat} {s : Nat} : ∀ n, sx N lim ask b s n = b s ∨ ∃ w, w < n ∧ tn (N 24 w) = s ∧ wE N w (b (tn (N 23 w))) ask < lim ∧ sx N lim ask b s n = wE N w (b (tn (N 23 w))) ask
  | 0 => Or.inl rfl
  | n + 1 => by
    have ih := sx_of (N := N) (lim := lim) (ask := ask) (b := b) (s := s) n
    simp only [sx]
    by_cases c : tn (N 24 n) = s ∧ wE N n (b (tn (N 23 n))) ask < lim
    · rw [if_pos c]
      split
      · exact Or.inr ⟨n, by omega, c.1, c.2, rfl⟩
      · rcases ih with q | ⟨w, h1, h2⟩
        · exact Or.inl q
        · exact Or.inr ⟨w, by omega, h2⟩
    · rw [if_neg c]
      rcases ih with q | ⟨w, h1, h2⟩
      · exact Or.inl q
      · exact Or.inr ⟨w, by omega, h2⟩
abbrev qS : List Nat := [48, 49, 50, 51, 52, 53]
theorem c_soon_w {G : GA} {N : HP} (hN : NetOK N) {rs : List (Nat × Nat)} {lim ask : Nat} (hl : lim ≤ 400000) (ha : ask < 400000) {E : Nat → Nat → Nat → Nat} (te : ∀ r, r ≤ 3 → TE (E r)) {K : HP → Prop} {h0 : HP}
    (kk : ∀ h', SC N h' rs lim 0 ask → Agr qS h0 h' → (∀ s, s < nS N → h' 51 s = nI (so0 N lim ask E s)) → K h') :
    ∀ (m w : Nat) (h : HP), w + m = nW N → SC N h rs lim 0 ask → Agr qS h0 h → (∀ s, s < nS N → h 52 s = nI (bst E s 4)) → (∀ s, s < nS N → h 51 s = nI (sx N lim ask (fun q => bst E q 4) s w)) → H_Search_askSoonest_92 G h (nI w) K
  | 0, w, h, e, sc, ag, h52, h51 => by
    have hw := nW_le hN
    refine s_Search_askSoonest_92 G h _ K ?_
    rw [sc.1.c 22, ok_W hN, if_pos (by rw [leI (by omega) (by omega)]; omega)]
    rw [show w = nW N by omega] at h51
    exact kk h sc ag h51
  | m + 1, w, h, e, sc, ag, h52, h51 => by
    have hw := nW_le hN
    have hs12 := nS_le hN
    have hv := NVRe
    have i23 := hN.2.2.2.2.2.1 w
    have i24 := hN.2.2.2.2.2.2.1 w
    obtain ⟨n23, n24, -⟩ := hN.2.2.2.2.2.2.2.2.2.2.2.2 w (by omega)
    refine s_Search_askSoonest_92 G h _ K ?_
    rw [sc.1.c 22, ok_W hN, if_neg (by rw [leI (by omega) (by omega)]; omega), sc.1.c 23, tnI (by omega), i23.e, tnI (by omega), h52 _ n23, sc.2.1]
    refine ⟨in_nI (by omega) (by decide), in_nI (by omega) (by decide), ?_⟩
    have bok : ∀ s, bst E s 4 = NVR ∨ bst E s 4 < 400000 := fun s => bst_ok 4 (fun r hr => te r (by omega))
    have hb := bok (tn (N 23 w))
    have hwk := wE_ok hN (w := w) hb ha
    have hsx := sx_ok (N := N) (lim := lim) (ask := ask) (b := fun q => bst E q 4) (s := tn (N 24 w)) (bok _) hl w
    refine c_endsAt hN sc.1 (by omega) (by omega) (by omega) ?_
    rw [sc.2.2.2.1, sc.1.c 24, i24.e, nI_1]
    have ih := c_soon_w (G := G) hN hl ha te kk m (w + 1)
    by_cases c : wE N w (bst E (tn (N 23 w)) 4) ask < lim
    · rw [if_neg (by rw [leI (by omega) (by omega)]; omega), tnI (by omega), h51 _ n24, minI (by omega) (by omega)]
      refine ⟨in_nI (by omega) (by decide), ?_⟩
      rintro _ rfl
      refine ih _ (by omega) (sc.up (by decide) _ _) (ag.up (by decide) _ _) (fun s hs => by rw [up_ce _ _ _ (by decide)]; exact h52 s hs) (fun s hs => ?_)
      simp only [sx]
      by_cases cs : s = tn (N 24 w)
      · subst cs
        have p : tn (N 24 w) = tn (N 24 w) ∧ wE N w (bst E (tn (N 23 w)) 4) ask < lim := ⟨rfl, c⟩
        rw [up_at, if_pos p]
      · rw [up_sl _ _ cs, if_neg (fun z => cs z.1.symm)]
        exact h51 s hs
    · rw [if_pos (by rw [leI (by omega) (by omega)]; omega)]
      refine ih h (by omega) sc ag h52 (fun s hs => ?_)
      simp only [sx]
      rw [if_neg (fun z => c z.2)]
      exact h51 s hs
theorem c_soon_r {G : GA} {N : HP} (hN : NetOK N) {rs : List (Nat × Nat)} {lim ask s : Nat} (hs : s < 12) {E : Nat → Nat → Nat → Nat} (te : ∀ r, r ≤ 3 → TE (E r)) {K : HP → Prop} {h0 : HP}
    (kk : ∀ h', SC N h' rs lim 0 ask → Agr [51, 52] h0 h' → h' 52 s = nI (bst E s 4) → h' 51 s = nI (bst E s 4) → (∀ q, q ≠ s → h' 51 q = h0 51 q ∧ h' 52 q = h0 52 q) → H_Search_askSoonest_9 G h' (nI s + 1) K) :
    ∀ (m r : Nat) (h : HP), r + m = 4 → SC N h rs lim 0 ask → Agr [51, 52] h0 h → (∀ i, i ≤ 3 → EA h 0 i (E i)) → h 52 s = nI (bst E s r) → (∀ q, q ≠ s → h 51 q = h0 51 q ∧ h 52 q = h0 52 q) → H_Search_askSoonest_31 G h (nI s) (nI r) K
  | 0, r, h, e, sc, ag, ea, h52, ho => by
    refine s_Search_askSoonest_31 G h _ _ K ?_
    rw [if_pos (by rw [show (3 : Int32) = nI 3 from rfl, ltI (by omega) (by omega)]; omega), tnI (by omega)]
    refine ⟨in_nI hs (by decide), ?_⟩
    rintro _ rfl
    rw [show r = 4 by omega] at h52
    refine kk _ (sc.up (by decide) _ _) (ag.up (by decide) _ _) (by rw [up_ce _ _ _ (by decide)]; exact h52) (by rw [up_at]; exact h52) (fun q hq => ?_)
    rw [up_sl _ _ hq, up_ce _ _ _ (by decide)]
    exact ho q hq
  | m + 1, r, h, e, sc, ag, ea, h52, ho => by
    have hv := NVRe
    refine s_Search_askSoonest_31 G h _ _ K ?_
    rw [if_neg (by rw [show (3 : Int32) = nI 3 from rfl, ltI (by omega) (by omega)]; omega), tnI (by omega)]
    refine ⟨in_nI hs (by decide), ?_⟩
    refine c_row (f := 0) sc.2.2.1 (by omega) ?_
    have hb := bs_top (D := 0) (r := r) (f := 0) (by omega) (by omega) (by omega)
    have hrw : rw' 0 r 0 + 12 ≤ 696 := by unfold rw'; omega
    have ter := te r (by omega) 0 s
    have bok := bst_ok (E := E) (s := s) r (fun i hi => te i (by omega))
    rw [nI_add, tnI (by omega), ea r (by omega) 0 s (by omega) hs, h52, minI (by omega) (by omega), nI_1]
    refine ⟨in_nI (by omega) (by decide), ?_⟩
    rintro _ rfl
    refine c_soon_r hN hs te kk m (r + 1) _ (by omega) (sc.up (by decide) _ _) (ag.up (by decide) _ _) (fun i hi => (ea i hi).agr (up_ce _ _ _ (by decide))) (by rw [up_at]; rfl) (fun q hq => ?_)
    rw [up_ce _ _ _ (by decide), up_sl _ _ hq]
    exact ho q hq
theorem c_soon_s {G : GA} {N : HP} (hN : NetOK N) {rs : List (Nat × Nat)} {lim ask : Nat} (hl : lim ≤ 400000) (ha : ask < 400000) {E : Nat → Nat → Nat → Nat} (te : ∀ r, r ≤ 3 → TE (E r)) {K : HP → Prop} {h0 : HP}
    (kk : ∀ h', SC N h' rs lim 0 ask → Agr qS h0 h' → (∀ s, s < nS N → h' 51 s = nI (so0 N lim ask E s)) → K h') :
    ∀ (m s : Nat) (h : HP), s + m = nS N → SC N h rs lim 0 ask → Agr qS h0 h → (∀ i, i ≤ 3 → EA h 0 i (E i)) → (∀ q, q < s → h 52 q = nI (bst E q 4) ∧ h 51 q = nI (bst E q 4)) → H_Search_askSoonest_9 G h (nI s) K
  | 0, s, h, e, sc, ag, ea, hq => by
    have hs12 := nS_le hN
    refine s_Search_askSoonest_9 G h _ K ?_
    rw [sc.1.c 2, ok_S hN, if_pos (by rw [leI (by omega) (by omega)]; omega)]
    exact c_soon_w hN hl ha te kk (nW N) 0 h (by omega) sc ag (fun q h1 => (hq q (by omega)).1) (fun q h1 => (hq q (by omega)).2)
  | m + 1, s, h, e, sc, ag, ea, hq => by
    have hs12 := nS_le hN
    refine s_Search_askSoonest_9 G h _ K ?_
    rw [sc.1.c 2, ok_S hN, if_neg (by rw [leI (by omega) (by omega)]; omega), tnI (by omega)]
    refine ⟨in_nI (by omega) (by decide), ?_⟩
    rintro _ rfl
    refine c_soon_r hN (s := s) (by omega) te (h0 := h) (fun h' sc' ag' e52 e51 ho => ?_) 4 0 _ (by omega) (sc.up (by decide) _ _) ((Agr.refl _ _).up (by decide) _ _) (fun i hi => (ea i hi).agr (up_ce _ _ _ (by decide))) (by rw [up_at]; rfl) (fun q hq' => by rw [up_ce _ _ _ (by decide), up_sl _ _ hq']; exact ⟨rfl, rfl⟩)
    rw [nI_1]
    refine c_soon_s hN hl ha te kk m (s + 1) h' (by omega) sc' (ag.trans (ag'.mono (by decide))) (fun i hi => (ea i hi).agr (ag' 49 (by decide))) (fun q hq' => ?_)
    by_cases c : q = s
    · subst c; exact ⟨e52, e51⟩
    · rw [(ho q c).1, (ho q c).2]
      exact hq q (by omega)
theorem c_askSoonest {G : GA} {N h : HP} (hN : NetOK N) {rs : List (Nat × Nat)} {lim ask frm : Nat} (hl : lim ≤ 400000) (ha : ask < 400000) (hrs : rs.length ≤ 132) (hok : RsOK rs) (hok2 : ∀ (v t d : Nat), rs[v]? = some (t, d) → t < 24) (hf : frm < 12) (hon : On h N) (hlim : h 42 6 = nI lim) (ra : RA N h rs) {K : HP → Prop}
    (kk : ∀ h' E R, DP N rs lim 0 ask frm E R → SC N h' rs lim 0 ask → Agr qS h h' → (∀ s, s < nS N → h' 51 s = nI (so0 N lim ask E s)) → K h') : P_Search_askSoonest G h (nI frm) (nI ask) K := by
  refine s_Search_askSoonest_0 G h _ _ K ?_
  refine c_ask (D := 0) hN (by omega) (Or.inl rfl) hl ha hrs hok hok2 hf hon hlim ra (fun h1 E R dp sc ag ea ry => ?_)
  exact c_soon_s hN hl ha (fun r hr => dp.up.te hl ha r hr) (h0 := h) (fun h' a b c => kk h' E R dp a b c) (nS N) 0 h1 (by omega) sc (ag.mono (by decide)) ea (fun q hq => by omega)
/-! ===== the reference's soonest ===== -/
def SO (N : HP) (lim ask : Nat) (E : Nat → Nat → Nat → Nat) (s : Nat) (P : Nat → Nat → Prop) (y : Nat) : Prop := ∃ r f, P r f ∧ arr N lim ask (E r) f s = y ∧ y < NVR
theorem cm_soon_f {G : GA} {N h : HP} (hN : NetOK N) {rs : List (Nat × Nat)} {lim ask frm r s : Nat} (hr : r ≤ 3) (hs : s < 12) (hfr : frm < 12) (ha : ask < 400000) (hl : lim ≤ 400000) {E : Nat → Nat → Nat → Nat} (te : TE (E r)) (gc : GC N h rs lim ask frm) (er : ER h ask frm r (E r)) {K : Int32 → HP → Prop}
    (kk : ∀ x, MO (SO N lim ask E s (fun r' f' => f' < 28 ∧ r' < r + 1)) x → x ≤ NVR → H_Model_soonestOf_5 G h (nI s) (nI x) (nI r + 1) K) :
    ∀ (m f x : Nat), f + m = 28 → MO (SO N lim ask E s (fun r' f' => f' < 28 ∧ (r' < r ∨ (r' = r ∧ f' < f)))) x → x ≤ NVR → H_Model_soonestOf_13 G h (nI s) (nI x) (nI r) (nI f) K
  | 0, f, x, e, mo, hx => by
    refine s_Model_soonestOf_13 G h _ _ _ _ K ?_
    rw [if_pos (by rw [show (28 : Int32) = nI 28 from rfl, leI (by omega) (by omega)]; omega)]
    refine kk x (mo.cong (fun y => ?_)) hx
    constructor
    · rintro ⟨r', f', h1, h2⟩
      exact ⟨r', f', ⟨h1.1, by omega⟩, h2⟩
    · rintro ⟨r', f', h1, h2⟩
      exact ⟨r', f', ⟨h1.1, by omega⟩, h2⟩
  | m + 1, f, x, e, mo, hx => by
    have hv := NVRe
    refine s_Model_soonestOf_13 G h _ _ _ _ K ?_
    rw [if_neg (by rw [show (28 : Int32) = nI 28 from rfl, leI (by omega) (by omega)]; omega)]
    refine cm_arrival hN hr (by omega) hs hfr ha hl te gc er ?_
    have hak := arr_ok hN te ha hl f s
    rw [nI_1]
    have ih := cm_soon_f (G := G) hN hr hs hfr ha hl te gc er kk m (f + 1)
    have mo2 : MO (SO N lim ask E s (fun r' f' => f' < 28 ∧ (r' < r ∨ (r' = r ∧ f' < f + 1)))) (if arr N lim ask (E r) f s < x then arr N lim ask (E r) f s else x) := by
      refine mo.addIf (c := arr N lim ask (E r) f s < NVR) (fun y => ?_) (fun q => by omega) (fun q => by omega)
      constructor
      · rintro ⟨r', f', h1, h2, h3⟩
        by_cases c : r' = r ∧ f' = f
        · rw [c.1, c.2] at h2
          exact Or.inr ⟨by omega, h2.symm⟩
        · exact Or.inl ⟨r', f', ⟨h1.1, by omega⟩, h2, h3⟩
      · rintro (⟨r', f', h1, h2⟩ | ⟨h1, h2⟩)
        · exact ⟨r', f', ⟨h1.1, by omega⟩, h2⟩
        · exact ⟨r, f, ⟨by omega, by omega⟩, h2.symm, by omega⟩
    by_cases c : arr N lim ask (E r) f s < x
    · rw [if_neg (by rw [leI (by omega) (by omega)]; omega)]
      rw [if_pos c] at mo2
      exact ih _ (by omega) mo2 (by omega)
    · rw [if_pos (by rw [leI (by omega) (by omega)]; omega)]
      rw [if_neg c] at mo2
      exact ih _ (by omega) mo2 hx
theorem cm_soon_r {G : GA} {N h : HP} (hN : NetOK N) {rs : List (Nat × Nat)} {lim ask frm s : Nat} (hs : s < 12) (hfr : frm < 12) (ha : ask < 400000) (hl : lim ≤ 400000) {E : Nat → Nat → Nat → Nat} (te : ∀ r, r ≤ 3 → TE (E r)) (gc : GC N h rs lim ask frm) (er : ∀ r, r ≤ 3 → ER h ask frm r (E r)) {K : Int32 → HP → Prop}
    (kk : ∀ x, MO (SO N lim ask E s (fun r' f' => f' < 28 ∧ r' < 4)) x → x ≤ NVR → K (nI x) h) :
    ∀ (m r x : Nat), r + m = 4 → MO (SO N lim ask E s (fun r' f' => f' < 28 ∧ r' < r)) x → x ≤ NVR → H_Model_soonestOf_5 G h (nI s) (nI x) (nI r) K
  | 0, r, x, e, mo, hx => by
    refine s_Model_soonestOf_5 G h _ _ _ K ?_
    rw [if_pos (by rw [show (4 : Int32) = nI 4 from rfl, leI (by omega) (by omega)]; omega)]
    rw [show r = 4 by omega] at mo
    exact kk x mo hx
  | m + 1, r, x, e, mo, hx => by
    refine s_Model_soonestOf_5 G h _ _ _ K ?_
    rw [if_neg (by rw [show (4 : Int32) = nI 4 from rfl, leI (by omega) (by omega)]; omega)]
    refine cm_soon_f hN (by omega) hs hfr ha hl (te r (by omega)) gc (er r (by omega)) (fun x' mo' hx' => ?_) 28 0 x (by omega) (mo.cong (fun y => ?_)) hx
    · rw [nI_1]
      exact cm_soon_r hN hs hfr ha hl te gc er kk m (r + 1) x' (by omega) mo' hx'
    · constructor
      · rintro ⟨r', f', h1, h2⟩
        exact ⟨r', f', ⟨h1.1, by omega⟩, h2⟩
      · rintro ⟨r', f', h1, h2⟩
        exact ⟨r', f', ⟨h1.1, by omega⟩, h2⟩
theorem cm_soonestOf {G : GA} {N h : HP} (hN : NetOK N) {rs : List (Nat × Nat)} {lim ask frm s : Nat} (hs : s < 12) (hfr : frm < 12) (ha : ask < 400000) (hl : lim ≤ 400000) {E : Nat → Nat → Nat → Nat} (te : ∀ r, r ≤ 3 → TE (E r)) (gc : GC N h rs lim ask frm) (er : ∀ r, r ≤ 3 → ER h ask frm r (E r)) {K : Int32 → HP → Prop}
    (kk : ∀ x, MO (SO N lim ask E s (fun r' f' => f' < 28 ∧ r' < 4)) x → x ≤ NVR → K (nI x) h) : P_Model_soonestOf G h (nI s) K := by
  refine s_Model_soonestOf_0 G h _ K ?_
  exact cm_soon_r hN hs hfr ha hl te gc er kk 4 0 NVR (by omega) (MO.none (fun y q => by obtain ⟨r, f, h1, -⟩ := q; omega)) (Nat.le_refl _)
/-- the two are one -/
theorem soon_eq {N : HP} (hN : NetOK N) {rs : List (Nat × Nat)} {lim ask frm s x : Nat} (ha : ask < lim) (hl : lim ≤ 400000) (hok : RsOK rs) {E R E0 R0 : Nat → Nat → Nat → Nat} (u : DP N rs lim (dear N) ask frm E R) (u0 : DP N rs lim 0 ask frm E0 R0) (mo : MO (SO N lim ask E s (fun r' f' => f' < 28 ∧ r' < 4)) x) (hx : x ≤ NVR) : x = so0 N lim ask E0 s := by
  have hv := NVRe
  have hD := dear_le hN
  have d0 := DP_D0 hN hl (by omega) hok u u0
  have te := fun r (h : r ≤ 3) => u.up.te hl (by omega) r h
  have te0 := fun r (h : r ≤ 3) => u0.up.te hl (by omega) r h
  have bg := fun r (h : r ≤ 3) => (u.up.bg hN (Or.inr rfl) hok r h).1
  have f28 : ∀ r f s, r ≤ 3 → E r f s < NVR → f < 28 := fun r f s hr hlt => by
    rcases Nat.lt_or_ge f 28 with z | z
    · exact z
    · have : dear N * r ≤ 9 * 3 := Nat.mul_le_mul hD hr
      rw [bg r hr f s (by omega)] at hlt
      omega
  have Elim : ∀ r f s, r ≤ 3 → E r f s < NVR → E r f s < lim := fun r f s hr hlt => by
    match r, hr with
    | 0, _ =>
      rw [u.1 f s] at hlt ⊢
      split at hlt
      · rename_i c; rw [if_pos c]; exact ha
      · omega
    | r + 1, hr =>
      rcases (u.2.2 r f s (by omega)).1 with q | q
      · omega
      · exact SE_lt q
  have bok : ∀ s, bst E0 s 4 = NVR ∨ bst E0 s 4 < 400000 := fun s => bst_ok 4 (fun r hr => te0 r (by omega))
  have le1 : so0 N lim ask E0 s ≤ x := by
    rcases mo.1 with q | ⟨r, f, ⟨h1, h2⟩, h3, h4⟩
    · have := sx_ok (N := N) (lim := lim) (ask := ask) (b := fun q => bst E0 q 4) (s := s) (bok s) hl (nW N)
      unfold so0
      omega
    · rw [← h3] at h4 ⊢
      obtain ⟨hlim, q | ⟨w, w1, w2, w3⟩⟩ := arr_of h4
      · rw [q]
        have a1 := ((d0 r (by omega)).1 s).1 f
        have a2 := bst_le (E := E0) (s := s) 4 r (by omega)
        have a3 := (sx_le (N := N) (lim := lim) (ask := ask) (b := fun q => bst E0 q 4) (s := s) (nW N)).1
        dsimp only at a1 a3
        unfold so0
        omega
      · rw [w3] at hlim ⊢
        have a1 := ((d0 r (by omega)).1 (tn (N 23 w))).1 f
        have a2 := bst_le (E := E0) (s := tn (N 23 w)) 4 r (by omega)
        dsimp only at a1
        have a4 := wE_mono hN w1 (show bst E0 (tn (N 23 w)) 4 ≤ E r f (tn (N 23 w)) by omega) (Nat.le_refl ask) (bok _) (by omega)
        have a3 := (sx_le (N := N) (lim := lim) (ask := ask) (b := fun q => bst E0 q 4) (s := s) (nW N)).2 w w1 w2 (by omega)
        unfold so0
        omega
  have le2 : x ≤ so0 N lim ask E0 s := by
    have key : ∀ s', bst E0 s' 4 < NVR → ∃ r f, r ≤ 3 ∧ E r f s' = bst E0 s' 4 := fun s' hb => by
      rcases bst_of (E := E0) (s := s') 4 with q | ⟨r, h1, h2⟩
      · omega
      · obtain ⟨f, hf⟩ := ((d0 r (by omega)).1 s').2
        exact ⟨r, f, by omega, by rw [h2]; exact hf⟩
    unfold so0
    rcases sx_of (N := N) (lim := lim) (ask := ask) (b := fun q => bst E0 q 4) (s := s) (nW N) with q | ⟨w, w1, w2, w3, w4⟩
    · rw [q]
      rcases bok s with z | z
      · omega
      · obtain ⟨r, f, hr, hE⟩ := key s (by omega)
        rw [← hE]
        have hlt := Elim r f s hr (by omega)
        have h1 := arr_le1 (N := N) (ask := ask) hlt
        exact Nat.le_trans (mo.2 _ ⟨r, f, ⟨f28 r f s hr (by omega), by omega⟩, rfl, by omega⟩) h1
    · rw [w4]
      have hb : bst E0 (tn (N 23 w)) 4 < NVR := by
        rcases bok (tn (N 23 w)) with z | z
        · rw [z, wE_never] at w3; omega
        · omega
      obtain ⟨r, f, hr, hE⟩ := key _ hb
      rw [← hE] at w3 ⊢
      have h1 := arr_le2 (E := E r) (f := f) w1 w2 w3
      exact Nat.le_trans (mo.2 _ ⟨r, f, ⟨f28 r f (tn (N 23 w)) hr (by omega), by omega⟩, rfl, by omega⟩) h1
  omega
