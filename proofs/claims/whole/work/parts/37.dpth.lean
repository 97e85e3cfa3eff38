/-! ===== the next beginning is the least one ===== -/
def isB (f l e x : Nat) : Prop := ∃ D k, x = 1440 * D + (f + k * e) ∧ f + k * e ≤ l
theorem nB_spec {f l e time : Nat} (hfl : f ≤ l) (hl : l < 1440) (he : 1 ≤ e) : isB f l e (nB f l e time) ∧ time ≤ nB f l e time ∧ ∀ y, isB f l e y → time ≤ y → nB f l e time ≤ y := by
  have hml := Nat.mod_lt time (show 0 < 1440 by decide)
  have hdm := Nat.div_add_mod time 1440
  generalize hq : time % 1440 = q at *
  generalize hD : time / 1440 = D0 at *
  have hdiv := Nat.div_add_mod (q - f + e - 1) e
  have hmod := Nat.mod_lt (q - f + e - 1) (show 0 < e by omega)
  generalize hk0 : (q - f + e - 1) / e = k0 at *
  have hk0e : e * k0 = k0 * e := Nat.mul_comm e k0
  have ent : nB f l e time = if f < q then (if l < f + k0 * e then 1440 * (D0 + 1) + f else 1440 * D0 + (f + k0 * e)) else 1440 * D0 + f := by
    unfold nB
    rw [hq, hk0]
    split
    · split <;> omega
    · omega
  rw [ent]
  by_cases c1 : f < q
  · rw [if_pos c1]
    by_cases c2 : l < f + k0 * e
    · rw [if_pos c2]
      refine ⟨⟨D0 + 1, 0, by rw [Nat.zero_mul]; omega, by rw [Nat.zero_mul]; omega⟩, by omega, ?_⟩
      rintro y ⟨D, k, hy, hk⟩ ht
      rcases Nat.lt_or_ge D0 D with z | z
      · omega
      · have hD' : D = D0 := by omega
        subst hD'
        have hkk : k < k0 := by
          rcases Nat.lt_or_ge k k0 with z | z
          · exact z
          · have := Nat.mul_le_mul_right e z
            omega
        have h1 : (k + 1) * e ≤ k0 * e := Nat.mul_le_mul_right e (by omega)
        have h2 : (k + 1) * e = k * e + e := Nat.succ_mul k e
        omega
    · rw [if_neg c2]
      refine ⟨⟨D0, k0, rfl, by omega⟩, by omega, ?_⟩
      rintro y ⟨D, k, hy, hk⟩ ht
      rcases Nat.lt_or_ge D0 D with z | z
      · omega
      · have hD' : D = D0 := by omega
        subst hD'
        have hkk : k0 ≤ k := by
          rcases Nat.lt_or_ge k k0 with z | z
          · have h1 : (k + 1) * e ≤ k0 * e := Nat.mul_le_mul_right e (by omega)
            have h2 : (k + 1) * e = k * e + e := Nat.succ_mul k e
            omega
          · exact z
        have := Nat.mul_le_mul_right e hkk
        omega
  · rw [if_neg c1]
    refine ⟨⟨D0, 0, by rw [Nat.zero_mul]; omega, by rw [Nat.zero_mul]; omega⟩, by omega, ?_⟩
    rintro y ⟨D, k, hy, hk⟩ ht
    rcases Nat.lt_or_ge D D0 with z | z
    · omega
    · have := Nat.mul_le_mul_left 1440 z
      omega
theorem nx_spec {N : HP} (hN : NetOK N) {w : Nat} (hw : w < nW N) (hk : ¬ N 26 w = 3) : (∀ time, time ≤ nx N w time) ∧ ∀ t t', t ≤ t' → nx N w t ≤ nx N w t' := by
  have b2 := (hN.2.2.2.2.2.2.2.2.2.1 w).t
  obtain ⟨-, -, q | ⟨-, q1, q2⟩⟩ := hN.2.2.2.2.2.2.2.2.2.2.2.2 w hw
  · exact absurd q hk
  have sp : ∀ time, _ := fun time => nB_spec (time := time) q1 (show tn (N 28 w) < 1440 by omega) q2
  exact ⟨fun time => (sp time).2.1, fun t t' h => (sp t).2.2 _ (sp t').1 (Nat.le_trans h (sp t').2.1)⟩
theorem wB_mono {N : HP} (hN : NetOK N) {w : Nat} (hw : w < nW N) {t t' a a' : Nat} (ht : t ≤ t') (ha : a ≤ a') : wB N w t a ≤ wB N w t' a' := by
  unfold wB
  split
  · exact ht
  · rename_i c
    have sp := nx_spec hN hw c
    split
    · exact sp.2 _ _ (by split <;> split <;> omega)
    · exact sp.2 _ _ ht
theorem wB_ge {N : HP} (hN : NetOK N) {w : Nat} (hw : w < nW N) (t a : Nat) : t ≤ wB N w t a := by
  unfold wB
  split
  · exact Nat.le_refl _
  · rename_i c
    have sp := nx_spec hN hw c
    split
    · exact Nat.le_trans (by split <;> omega) (sp.1 _)
    · exact sp.1 _
theorem wE_mono {N : HP} (hN : NetOK N) {w : Nat} (hw : w < nW N) {t t' a a' : Nat} (ht : t ≤ t') (ha : a ≤ a') (hs : t = NVR ∨ t < 400000) (ha4 : a < 400000) : wE N w t a ≤ wE N w t' a' := by
  have hv := NVRe
  rcases hs with q | q
  · rw [q, wE_never]
    unfold wE
    rw [if_neg (by omega)]
    exact Nat.le_refl _
  · have h1 := wE_small hN (w := w) q ha4
    by_cases c : t' < NVR
    · unfold wE
      rw [if_pos (by omega), if_pos c]
      have := wB_mono hN hw ht ha
      omega
    · have : wE N w t' a' = NVR := by unfold wE; rw [if_neg c]
      omega
/-! ===== one table ===== -/
theorem SR_lt {N : HP} (hN : NetOK N) {ask r f s y : Nat} {E : Nat → Nat → Nat} (te : TE E) (ha : ask < 400000) (h : SR N ask r E f s y) : y < NVR := by
  have hv := NVRe
  rcases h with ⟨-, q1, q2⟩ | ⟨w, -, -, q1, q2⟩
  · have h1 := te f s
    have h2 := (hN.1.2.1 s).t
    rw [q2]
    split <;> omega
  · have h1 := te f (tn (N 23 w))
    have := wE_small hN (w := w) (time := E f (tn (N 23 w))) (ask := ask) (by omega) ha
    omega
theorem DP.up {N : HP} {rs : List (Nat × Nat)} {lim D ask frm : Nat} {E R : Nat → Nat → Nat → Nat} (u : DP N rs lim D ask frm E R) : Up N rs lim D ask frm 3 E R := u
theorem DP_uniq {N : HP} (hN : NetOK N) {rs : List (Nat × Nat)} {lim D ask frm : Nat} (hl : lim ≤ 400000) (ha : ask < 400000) {E R E' R' : Nat → Nat → Nat → Nat} (u : DP N rs lim D ask frm E R) (u' : DP N rs lim D ask frm E' R') : ∀ r, r ≤ 3 → E r = E' r ∧ (r < 3 → R r = R' r) := by
  have hv := NVRe
  have stepR : ∀ r, r < 3 → E r = E' r → R r = R' r := fun r hr e => by
    funext f s
    refine (u.2.1 r f s hr).uniq (u'.2.1 r f s hr) (fun y => by rw [e]) (fun y hy => SR_lt hN (u.up.te hl ha r (by omega)) ha hy)
  intro r
  induction r with
  | zero =>
    intro _
    have e : E 0 = E' 0 := by
      funext f s
      rw [u.1 f s, u'.1 f s]
    exact ⟨e, fun h => stepR 0 h e⟩
  | succ r ih =>
    intro hr
    have hR := (ih (by omega)).2 (by omega)
    have e : E (r + 1) = E' (r + 1) := by
      funext f s
      refine (u.2.2 r f s (by omega)).uniq (u'.2.2 r f s (by omega)) (fun y => by rw [hR]) (fun y hy => by have := SE_lt hy; omega)
    exact ⟨e, fun h => stepR (r + 1) h e⟩
/-- fares forgotten -/
def MF (x : Nat) (g : Nat → Nat) : Prop := (∀ f, x ≤ g f) ∧ ∃ f, g f = x
theorem MF.iff {x : Nat} {g : Nat → Nat} (h : MF x g) (b : Nat) : x ≤ b ↔ ∃ f, g f ≤ b := by
  constructor
  · intro q
    obtain ⟨f, hf⟩ := h.2
    exact ⟨f, by omega⟩
  · rintro ⟨f, hf⟩
    exact Nat.le_trans (h.1 f) hf
theorem MF_of_MO {S0 : Nat → Prop} {S : Nat → Nat → Prop} {x : Nat} {g : Nat → Nat} (h0 : MO S0 x) (h : ∀ f, MO (S f) (g f)) (hb : ∀ y, S0 y → y < NVR) (h1 : ∀ y, S0 y → ∃ f z, S f z ∧ z ≤ y) (h2 : ∀ f z, S f z → ∃ y, S0 y ∧ y ≤ z) (hb2 : ∀ f, g f ≤ NVR) : MF x g := by
  have hx := h0.le hb
  have low : ∀ f, x ≤ g f := fun f => by
    rcases (h f).1 with q | q
    · omega
    · obtain ⟨y, a, b⟩ := h2 f _ q
      exact Nat.le_trans (h0.2 y a) b
  refine ⟨low, ?_⟩
  rcases h0.1 with q | q
  · exact ⟨0, by have := low 0; have := hb2 0; omega⟩
  · obtain ⟨f, z, a, b⟩ := h1 _ q
    exact ⟨f, by have := low f; have := (h f).2 z a; omega⟩
theorem DP_D0 {N : HP} (hN : NetOK N) {rs : List (Nat × Nat)} {lim D ask frm : Nat} (hl : lim ≤ 400000) (ha : ask < 400000) (hok : RsOK rs) {E R E0 R0 : Nat → Nat → Nat → Nat} (u : DP N rs lim D ask frm E R) (u0 : DP N rs lim 0 ask frm E0 R0) : ∀ r, r ≤ 3 → (∀ s, MF (E0 r 0 s) (fun f => E r f s)) ∧ (r < 3 → ∀ s, MF (R0 r 0 s) (fun f => R r f s)) := by
  have hv := NVRe
  have stepR : ∀ r, r < 3 → (∀ s, MF (E0 r 0 s) (fun f => E r f s)) → ∀ s, MF (R0 r 0 s) (fun f => R r f s) := fun r hr mf s => by
    have te := u.up.te hl ha r (by omega)
    have te0 := u0.up.te hl ha r (by omega)
    refine MF_of_MO (u0.2.1 r 0 s hr) (fun f => u.2.1 r f s hr) (fun y hy => SR_lt hN te0 ha hy) ?_ ?_ (fun f => (u.2.1 r f s hr).le (fun y hy => SR_lt hN te ha hy))
    · rintro y (⟨q1, q2, q3⟩ | ⟨w, q1, q2, q3, q4⟩)
      · obtain ⟨f, hf⟩ := (mf s).2
        dsimp only at hf
        exact ⟨f, y, Or.inl ⟨q1, by omega, by rw [hf]; exact q3⟩, Nat.le_refl _⟩
      · obtain ⟨f, hf⟩ := (mf (tn (N 23 w))).2
        dsimp only at hf
        exact ⟨f, y, Or.inr ⟨w, q1, q2, by omega, by rw [hf]; exact q4⟩, Nat.le_refl _⟩
    · rintro f z (⟨q1, q2, q3⟩ | ⟨w, q1, q2, q3, q4⟩)
      · have := (mf s).1 f
        dsimp only at this
        exact ⟨_, Or.inl ⟨q1, by omega, rfl⟩, by omega⟩
      · have := (mf (tn (N 23 w))).1 f
        dsimp only at this
        exact ⟨_, Or.inr ⟨w, q1, q2, by omega, rfl⟩, by rw [q4]; exact wE_mono hN q1 this (Nat.le_refl _) (te0 _ _) ha⟩
  intro r
  induction r with
  | zero =>
    intro _
    have e : ∀ s, MF (E0 0 0 s) (fun f => E 0 f s) := fun s => by
      refine ⟨fun f => ?_, 0, ?_⟩
      · show E0 0 0 s ≤ E 0 f s
        rw [u.1 f s, u0.1 0 s]
        by_cases c : s = frm
        · rw [if_pos ⟨rfl, c⟩]
          split <;> omega
        · rw [if_neg (fun z => c z.2), if_neg (fun z => c z.2)]
          exact Nat.le_refl _
      · show E 0 0 s = E0 0 0 s
        rw [u.1 0 s, u0.1 0 s]
    exact ⟨e, fun h => stepR 0 h e⟩
  | succ r ih =>
    intro hr
    have hR := (ih (by omega)).2 (by omega)
    have e : ∀ s, MF (E0 (r + 1) 0 s) (fun f => E (r + 1) f s) := fun s => by
      refine MF_of_MO (u0.2.2 r 0 s (by omega)) (fun f => u.2.2 r f s (by omega)) (fun y hy => by have := SE_lt hy; omega) ?_ ?_ (fun f => (u.2.2 r f s (by omega)).le (fun y hy => by have := SE_lt hy; omega))
      · rintro y ⟨v, t, d, i, j, f', h1, h2, h3, h4, h5, h6⟩
        have hf0 : f' = 0 := by omega
        subst hf0
        obtain ⟨g, hg⟩ := ((hR (sA N t i)).iff _).mp h3
        exact ⟨_, y, ⟨v, t, d, i, j, g, h1, trivial, hg, rfl, h5, h6⟩, Nat.le_refl _⟩
      · rintro f z ⟨v, t, d, i, j, f', h1, h2, h3, h4, h5, h6⟩
        exact ⟨z, ⟨v, t, d, i, j, 0, h1, trivial, ((hR (sA N t i)).iff _).mpr ⟨f', h3⟩, by unfold pr; rw [if_pos rfl], h5, h6⟩, Nat.le_refl _⟩
    exact ⟨e, fun h => stepR (r + 1) h e⟩
/-- who asks later comes no sooner -/
theorem DP_mono {N : HP} (hN : NetOK N) {rs : List (Nat × Nat)} {lim D a a' frm : Nat} (hl : lim ≤ 400000) (ha : a ≤ a') (ha' : a' < 400000) {E R E' R' : Nat → Nat → Nat → Nat} (u : DP N rs lim D a frm E R) (u' : DP N rs lim D a' frm E' R') : ∀ r, r ≤ 3 → (∀ f s, E r f s ≤ E' r f s) ∧ (r < 3 → ∀ f s, R r f s ≤ R' r f s) := by
  have hv := NVRe
  have stepR : ∀ r, r < 3 → (∀ f s, E r f s ≤ E' r f s) → ∀ f s, R r f s ≤ R' r f s := fun r hr mf f s => by
    have te := u.up.te hl (by omega) r (by omega)
    refine (u.2.1 r f s hr).mono (u'.2.1 r f s hr) ?_ ((u.2.1 r f s hr).le (fun y hy => SR_lt hN te (by omega) hy))
    rintro y (⟨q1, q2, q3⟩ | ⟨w, q1, q2, q3, q4⟩)
    · have := mf f s
      exact ⟨_, Or.inl ⟨q1, by omega, rfl⟩, by omega⟩
    · have := mf f (tn (N 23 w))
      exact ⟨_, Or.inr ⟨w, q1, q2, by omega, rfl⟩, by rw [q4]; exact wE_mono hN q1 this ha (te _ _) (by omega)⟩
  intro r
  induction r with
  | zero =>
    intro _
    have e : ∀ f s, E 0 f s ≤ E' 0 f s := fun f s => by
      rw [u.1 f s, u'.1 f s]
      split <;> omega
    exact ⟨e, fun h => stepR 0 h e⟩
  | succ r ih =>
    intro hr
    have hR := (ih (by omega)).2 (by omega)
    have e : ∀ f s, E (r + 1) f s ≤ E' (r + 1) f s := fun f s => by
      refine (u.2.2 r f s (by omega)).mono (u'.2.2 r f s (by omega)) ?_ ((u.2.2 r f s (by omega)).le (fun y hy => by have := SE_lt hy; omega))
      rintro y ⟨v, t, d, i, j, f', h1, h2, h3, h4, h5, h6⟩
      exact ⟨y, ⟨v, t, d, i, j, f', h1, trivial, Nat.le_trans (hR _ _) h3, h4, h5, h6⟩, Nat.le_refl _⟩
    exact ⟨e, fun h => stepR (r + 1) h e⟩
