def F99 (r : Nat) (h h' : HP) : Prop := AM [99] [] h h' ∧ ∀ r' E', r' ≠ r → YM h r' E' → YM h' r' E'
theorem F99.refl (r : Nat) (h : HP) : F99 r h h := ⟨AM.refl _ _ _, fun _ _ _ y => y⟩
theorem F99.put {r : Nat} {h h' : HP} (F : F99 r h h') {f s : Nat} (hf : f < 28) (hs : s < 12) (x : Int32) : F99 r h (up h' 99 (mi r f s) x) := ⟨F.1.pt (by decide) (by decide) _ _, fun r' E' hne y => (F.2 r' E' hne y).other hne hf hs x⟩
theorem cm_rd_w {G : GA} {N : HP} (hN : NetOK N) {rs : List (Nat × Nat)} {lim ask frm r f : Nat} (hr : r ≤ 3) (hf : f < 28) (ha : ask < 400000) {E : Nat → Nat → Nat} (te : TE E) {K : HP → Prop} {h0 : HP}
    (kk : ∀ h' R, GC N h' rs lim ask frm → F99 r h0 h' → YM h' r R → (∀ f' s, f' < f + 1 → MO (SR N ask r E f' s) (R f' s)) → (∀ f' s, f + 1 ≤ f' → R f' s = NVR) → H_Model_go_145 G h' (nI ask) (nI r) (nI f + 1) K) :
    ∀ (m w : Nat) (h : HP) (R : Nat → Nat → Nat), w + m = nW N → GC N h rs lim ask frm → EM h r E → F99 r h0 h → YM h r R → (∀ f' s, f' < f → MO (SR N ask r E f' s) (R f' s)) → (∀ f' s, f + 1 ≤ f' → R f' s = NVR) → (∀ s, MO (SRw N ask r E w f s) (R f s)) → (∀ s, R f s ≤ NVR) → H_Model_go_227 G h (nI ask) (nI r) (nI f) (nI w) K
  | 0, w, h, R, e, gc, ea, F, y, h1, h2, h3, h4 => by
    have hw := nW_le hN
    refine s_Model_go_227 G h _ _ _ _ K ?_
    rw [gc.1.2.1.2.2.1, ok_W hN, if_pos (by rw [leI (by omega) (by omega)]; omega)]
    refine kk h R gc F y (fun f' s hf' => ?_) h2
    by_cases c : f' = f
    · subst c
      have := h3 s
      rw [show w = nW N by omega] at this
      exact this
    · exact h1 f' s (by omega)
  | m + 1, w, h, R, e, gc, ea, F, y, h1, h2, h3, h4 => by
    have hw := nW_le hN
    have hv := NVRe
    refine s_Model_go_227 G h _ _ _ _ K ?_
    rw [gc.1.2.1.2.2.1, ok_W hN, if_neg (by rw [leI (by omega) (by omega)]; omega), gc.1.c 81 23, tnI (by omega)]
    have i23 := hN.2.2.2.2.2.1 w
    have i24 := hN.2.2.2.2.2.2.1 w
    have b23 := i23.t
    have b24 := i24.t
    have hm1 := mi_lt (r := r) (f := f) (s := tn (N 23 w)) hr hf (by omega)
    have hm2 := mi_lt (r := r) (f := f) (s := tn (N 24 w)) hr hf (by omega)
    refine ⟨in_nI (by omega) (by decide), ?_⟩
    rw [i23.e]
    refine cm_at ?_
    rw [tnI (by omega), ea f (tn (N 23 w)) hf (by omega), nI_1]
    refine ⟨in_nI hm1 (by decide), ?_⟩
    have tef := te f (tn (N 23 w))
    have ih := cm_rd_w (G := G) hN hr hf ha te kk m (w + 1)
    rw [show (1000000000 : Int32) = nI NVR from rfl]
    by_cases c : E f (tn (N 23 w)) = NVR
    · rw [if_pos (by rw [leI (by omega) (by omega)]; omega)]
      refine ih h R (by omega) gc ea F y h1 h2 (fun s => (h3 s).cong (fun yy => ?_)) h4
      unfold SRw
      constructor
      · rintro (q | ⟨w', q1, q2⟩)
        · exact Or.inl q
        · exact Or.inr ⟨w', by omega, q2⟩
      · rintro (q | ⟨w', q1, q2, q3, q4⟩)
        · exact Or.inl q
        · exact Or.inr ⟨w', by rcases Nat.lt_or_ge w' w with z | z; exact z; rw [show w' = w by omega, c] at q3; omega, q2, q3, q4⟩
    · rw [if_neg (by rw [leI (by omega) (by omega)]; omega), gc.1.c 82 24, i24.e]
      refine cm_at (cm_behind hN gc.1 (by omega) (by omega) (by omega) ?_)
      have hwe : wE N w (E f (tn (N 23 w))) ask < 410000 := wE_small hN (by omega) ha
      have h4w := h4 (tn (N 24 w))
      refine cm_least_99 hm2 (by omega) (by omega) (y f _ hf (by omega)) ?_
      refine ih _ (upd2 R f (tn (N 24 w)) _) (by omega) (gc.pt (by decide) _ _) (ea.agr (up_ce _ _ _ (by decide))) (F.put hf (by omega) _) (y.put hf (by omega) _) (fun f' s hf' => ?_) (fun f' s hf' => ?_) (fun s => ?_) (fun s => ?_)
      · rw [upd2_ne _ (by omega)]; exact h1 f' s hf'
      · rw [upd2_ne _ (by omega)]; exact h2 f' s hf'
      · by_cases cs : s = tn (N 24 w)
        · subst cs
          rw [upd2_at]
          refine (h3 _).add (fun yy => ?_) (by omega)
          unfold SRw
          constructor
          · rintro (q | ⟨w', q1, q2, q3, q4⟩)
            · exact Or.inl (Or.inl q)
            · by_cases cw : w' = w
              · subst cw; exact Or.inr q4
              · exact Or.inl (Or.inr ⟨w', by omega, q2, q3, q4⟩)
          · rintro ((q | ⟨w', q1, q2⟩) | q2)
            · exact Or.inl q
            · exact Or.inr ⟨w', by omega, q2⟩
            · exact Or.inr ⟨w, by omega, rfl, by omega, q2⟩
        · rw [upd2_ne _ (by omega)]
          refine (h3 s).cong (fun yy => ?_)
          unfold SRw
          constructor
          · rintro (q | ⟨w', q1, q2⟩)
            · exact Or.inl q
            · exact Or.inr ⟨w', by omega, q2⟩
          · rintro (q | ⟨w', q1, q2, q3⟩)
            · exact Or.inl q
            · exact Or.inr ⟨w', by rcases Nat.lt_or_ge w' w with z | z; exact z; exact absurd (by rw [← q2, show w' = w by omega]) cs, q2, q3⟩
      · by_cases cs : s = tn (N 24 w)
        · subst cs
          rw [upd2_at]
          split <;> omega
        · rw [upd2_ne _ (by omega)]; exact h4 s
theorem cm_rd_s {G : GA} {N : HP} (hN : NetOK N) {rs : List (Nat × Nat)} {lim ask frm r f : Nat} (hr : r ≤ 3) (hr1 : 1 ≤ r) (hf : f < 28) (ha : ask < 400000) {E : Nat → Nat → Nat} (te : TE E) {K : HP → Prop} {h0 : HP}
    (kk : ∀ h' R, GC N h' rs lim ask frm → F99 r h0 h' → YM h' r R → (∀ f' s, f' < f + 1 → MO (SR N ask r E f' s) (R f' s)) → (∀ f' s, f + 1 ≤ f' → R f' s = NVR) → H_Model_go_145 G h' (nI ask) (nI r) (nI f + 1) K) :
    ∀ (m s : Nat) (h : HP) (R : Nat → Nat → Nat), s + m = nS N → GC N h rs lim ask frm → EM h r E → F99 r h0 h → YM h r R → (∀ f' s, f' < f → MO (SR N ask r E f' s) (R f' s)) → (∀ f' s, f + 1 ≤ f' → R f' s = NVR) → (∀ s', s' < s → MO (SRw N ask r E 0 f s') (R f s') ∧ R f s' ≤ NVR) → (∀ s', s ≤ s' → R f s' = NVR) → H_Model_go_155 G h (nI ask) (nI r) (nI f) (nI s) K
  | 0, s, h, R, e, gc, ea, F, y, h1, h2, h3, h4 => by
    have hs := nS_le hN
    refine s_Model_go_155 G h _ _ _ _ K ?_
    rw [gc.1.2.1.1, ok_S hN, if_pos (by rw [leI (by omega) (by omega)]; omega)]
    refine cm_rd_w hN hr hf ha te kk (nW N) 0 h R (by omega) gc ea F y h1 h2 (fun s' => ?_) (fun s' => ?_)
    · rcases Nat.lt_or_ge s' s with z | z
      · exact (h3 s' z).1
      · rw [h4 s' z]
        refine MO.none (fun yy q => ?_)
        rcases q with q | ⟨w, q, -⟩
        · omega
        · omega
    · rcases Nat.lt_or_ge s' s with z | z
      · exact (h3 s' z).2
      · rw [h4 s' z]; exact Nat.le_refl _
  | m + 1, s, h, R, e, gc, ea, F, y, h1, h2, h3, h4 => by
    have hs := nS_le hN
    have hv := NVRe
    have hm1 := mi_lt (r := r) (f := f) (s := s) hr hf (by omega)
    refine s_Model_go_155 G h _ _ _ _ K ?_
    rw [gc.1.2.1.1, ok_S hN, if_neg (by rw [leI (by omega) (by omega)]; omega), nI_1]
    refine cm_at ?_
    rw [tnI (by omega), ea f s hf (by omega)]
    refine ⟨in_nI hm1 (by decide), ?_⟩
    have ih := cm_rd_s (G := G) hN hr hr1 hf ha te kk m (s + 1)
    rw [show (1000000000 : Int32) = nI NVR from rfl]
    have tef := te f s
    by_cases c : E f s = NVR
    · rw [if_pos (by rw [leI (by omega) (by omega)]; omega)]
      refine ih h R (by omega) gc ea F y h1 h2 (fun s' hs' => ?_) (fun s' hs' => h4 s' (by omega))
      rcases Nat.lt_or_ge s' s with z | z
      · exact h3 s' z
      · rw [h4 s' z]
        refine ⟨MO.none (fun yy q => ?_), Nat.le_refl _⟩
        rcases q with q | ⟨w, q, -⟩
        · rw [show s' = s by omega] at q; omega
        · omega
    · rw [if_neg (by rw [leI (by omega) (by omega)]; omega)]
      refine cm_at (cm_at ?_)
      have i3 := hN.1.2.1 s
      have b3 := i3.t
      rw [tnI (by omega), tnI (by omega), ea f s hf (by omega), gc.1.c 68 3, i3.e, nI_add]
      refine ⟨in_nI hm1 (by decide), in_nI (by omega) (by decide), ?_⟩
      refine cm_least_99 (y := NVR) hm1 (by omega) (by omega) (by rw [y f s hf (by omega), h4 s (Nat.le_refl _)]) ?_
      rw [if_pos (by omega)]
      refine ih _ (upd2 R f s (E f s + tn (N 3 s))) (by omega) (gc.pt (by decide) _ _) (ea.agr (up_ce _ _ _ (by decide))) (F.put hf (by omega) _) (y.put hf (by omega) _) (fun f' s' hf' => ?_) (fun f' s' hf' => ?_) (fun s' hs' => ?_) (fun s' hs' => ?_)
      · rw [upd2_ne _ (by omega)]; exact h1 f' s' hf'
      · rw [upd2_ne _ (by omega)]; exact h2 f' s' hf'
      · by_cases cs : s' = s
        · subst cs
          rw [upd2_at]
          refine ⟨⟨Or.inr (Or.inl ⟨by omega, by omega, by rw [if_neg (by omega)]⟩), fun yy q => ?_⟩, by omega⟩
          rcases q with ⟨-, -, q⟩ | ⟨w, q, -⟩
          · rw [q, if_neg (by omega)]; exact Nat.le_refl _
          · omega
        · rw [upd2_ne _ (by omega)]
          exact h3 s' (by omega)
      · rw [upd2_ne _ (by omega)]; exact h4 s' (by omega)
theorem cm_rd_f {G : GA} {N : HP} (hN : NetOK N) {rs : List (Nat × Nat)} {lim ask frm r : Nat} (hr : r ≤ 3) (hr1 : 1 ≤ r) (ha : ask < 400000) {E : Nat → Nat → Nat} (te : TE E) (hbig : ∀ f s, 28 ≤ f → E f s = NVR) {K : HP → Prop} {h0 : HP} (ea0 : EM h0 r E)
    (kk : ∀ h' R, GC N h' rs lim ask frm → F99 r h0 h' → YM h' r R → (∀ f s, MO (SR N ask r E f s) (R f s)) → H_Model_go_112 G h' (nI ask) (nI r + 1) K) :
    ∀ (m f : Nat) (h : HP) (R : Nat → Nat → Nat), f + m = 28 → GC N h rs lim ask frm → F99 r h0 h → YM h r R → (∀ f' s, f' < f → MO (SR N ask r E f' s) (R f' s)) → (∀ f' s, f ≤ f' → R f' s = NVR) → H_Model_go_145 G h (nI ask) (nI r) (nI f) K
  | 0, f, h, R, e, gc, F, y, h1, h2 => by
    refine s_Model_go_145 G h _ _ _ K ?_
    rw [if_pos (by rw [show (28 : Int32) = nI 28 from rfl, leI (by omega) (by omega)]; omega)]
    refine kk h R gc F y (fun f' s => ?_)
    rcases Nat.lt_or_ge f' f with z | z
    · exact h1 f' s z
    · rw [h2 f' s z]
      refine MO.none (fun yy q => ?_)
      rcases q with ⟨-, q, -⟩ | ⟨w, -, -, q, -⟩
      · rw [hbig f' _ (by omega)] at q; omega
      · rw [hbig f' _ (by omega)] at q; omega
  | m + 1, f, h, R, e, gc, F, y, h1, h2 => by
    refine s_Model_go_145 G h _ _ _ K ?_
    rw [if_neg (by rw [show (28 : Int32) = nI 28 from rfl, leI (by omega) (by omega)]; omega)]
    refine cm_rd_s hN hr hr1 (by omega) ha te (h0 := h0) (fun h' R' a b c d e' => ?_) (nS N) 0 h R (by omega) gc (ea0.agr (F.1.1 98 (by decide) (by decide))) F y h1 (fun f' s q => h2 f' s (by omega)) (fun s' hs' => by omega) (fun s' _ => h2 f s' (Nat.le_refl _))
    rw [nI_1]
    exact cm_rd_f hN hr hr1 ha te hbig ea0 kk m (f + 1) h' R' (by omega) a b c d e'
