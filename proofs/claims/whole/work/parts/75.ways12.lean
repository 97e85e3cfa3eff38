/-! ===== ways: the reference goes from arrival to arrival ===== -/
def NX (A : Nat → Nat → Nat) (B r f next : Nat) : Prop := next ≤ NVR ∧ (next = NVR ∨ ∃ r' f', r' ≤ 3 ∧ f' < 28 ∧ A r' f' = next ∧ B ≤ next ∧ next < NVR) ∧ ∀ r' f', (r' < r ∧ f' < 28) ∨ (r' = r ∧ f' < f) → B ≤ A r' f' → next ≤ A r' f'
theorem cm_w89 {G : GA} {N h : HP} {rs : List (Nat × Nat)} {lim ask frm to r B : Nat} {x5 : Int32} {E R : Nat → Nat → Nat → Nat} (c : CxW N rs lim ask frm E R) (mx : MX N h rs lim ask frm E R) (hto : to < 12) (hx : x5.toInt = (B : Int) - 1) (hr : r ≤ 3) {K : Int32 → HP → Prop}
    (kk : ∀ next, NX (aR N lim ask E to) B (r + 1) 0 next → H_Model_ways_80 G h (nI to) x5 (nI next) (nI (r + 1)) K) :
    ∀ n f next, f + n = 28 → NX (aR N lim ask E to) B r f next → H_Model_ways_89 G h (nI to) x5 (nI next) (nI r) (nI f) K
  | 0, f, next, e, nx => by
    refine s_Model_ways_89 _ _ _ _ _ _ _ _ ?_
    rw [show (28 : Int32) = nI 28 from rfl, if_pos (by rw [leI (by omega) (by omega)]; omega), nI_1]
    exact kk next ⟨nx.1, nx.2.1, fun r' f' h1 h2 => nx.2.2 r' f' (by omega) h2⟩
  | n + 1, f, next, e, nx => by
    have hN := c.1
    have hl := c.2.2.2.1
    have ha' := c.2.2.2.2.1
    have hv := NVRe
    have hS := nS_le hN
    have hfr := c.2.2.2.2.2.2.2
    have ih := cm_w89 (G := G) c mx hto hx hr kk n (f + 1)
    have ok2 := aR_ok c (to := to) hr f
    obtain ⟨n1, n2, n3⟩ := nx
    refine s_Model_ways_89 _ _ _ _ _ _ _ _ ?_
    rw [show (28 : Int32) = nI 28 from rfl, if_neg (by rw [leI (by omega) (by omega)]; omega)]
    refine cm_arrival hN hr (by omega) hto (by omega) (by omega) hl (c.te hr) mx.1 (mx.2.1 r hr) ?_
    rw [show nI (arr N lim ask (E r) f to) = nI (aR N lim ask E to r f) from rfl, nI_1]
    have stay : (B ≤ aR N lim ask E to r f → next ≤ aR N lim ask E to r f) → NX (aR N lim ask E to) B r (f + 1) next := fun z => ⟨n1, n2, fun r' f' h1 h2 => by
      by_cases y : r' = r ∧ f' = f
      · rw [y.1, y.2] at h2 ⊢
        exact z h2
      · exact n3 r' f' (by omega) h2⟩
    by_cases c1 : nI (aR N lim ask E to r f) ≤ x5
    · rw [if_pos c1]
      rw [fa_le, toInt_nI (by omega)] at c1
      exact ih next (by omega) (stay (fun z => by omega))
    rw [if_neg c1]
    rw [fa_le, toInt_nI (by omega)] at c1
    by_cases c2 : nI next ≤ nI (aR N lim ask E to r f)
    · rw [if_pos c2]
      rw [leI (by omega) (by omega)] at c2
      exact ih next (by omega) (stay (fun _ => c2))
    · rw [if_neg c2]
      rw [leI (by omega) (by omega)] at c2
      refine ih _ (by omega) ⟨by omega, Or.inr ⟨r, f, hr, by omega, rfl, by omega, by omega⟩, fun r' f' h1 h2 => ?_⟩
      by_cases y : r' = r ∧ f' = f
      · rw [y.1, y.2]
        exact Nat.le_refl _
      · have := n3 r' f' (by omega) h2
        omega
theorem cm_w80 {G : GA} {N h : HP} {rs : List (Nat × Nat)} {lim ask frm to B : Nat} {x5 : Int32} {E R : Nat → Nat → Nat → Nat} (c : CxW N rs lim ask frm E R) (mx : MX N h rs lim ask frm E R) (hto : to < 12) (hx : x5.toInt = (B : Int) - 1) {K : Int32 → HP → Prop}
    (kk : ∀ a, NX (aR N lim ask E to) B 4 0 a → H_Model_ways_144 G h (nI to) (nI a) 0 K) :
    ∀ n r next, r + n = 4 → NX (aR N lim ask E to) B r 0 next → H_Model_ways_80 G h (nI to) x5 (nI next) (nI r) K
  | 0, r, next, e, nx => by
    refine s_Model_ways_80 _ _ _ _ _ _ _ ?_
    rw [show (4 : Int32) = nI 4 from rfl, if_pos (by rw [leI (by omega) (by omega)]; omega)]
    rw [show r = 4 by omega] at nx
    exact kk next nx
  | n + 1, r, next, e, nx => by
    refine s_Model_ways_80 _ _ _ _ _ _ _ ?_
    rw [show (4 : Int32) = nI 4 from rfl, if_neg (by rw [leI (by omega) (by omega)]; omega)]
    exact cm_w89 c mx hto hx (by omega) (fun next2 nx2 => cm_w80 c mx hto hx kk n (r + 1) next2 (by omega) nx2) 28 0 next (by omega) nx
theorem kw_ka {A : Nat → Nat → Nat} {ask r f B : Nat} (hr : r ≤ 3) (hf : f < 28) (hA : ask ≤ A r f) (hB : ask ≤ B) : kw A ask r f < ka ask B 0 0 ↔ A r f < B := by
  unfold kw ka
  omega
theorem cm_w66 {G : GA} {N h0 : HP} {rs : List (Nat × Nat)} {lim ask frm to : Nat} {E R : Nat → Nat → Nat → Nat} (c : CxW N rs lim ask frm E R) (hto : to < 12) {L : List Nat} (lk : LOK N lim ask E to L) {K : Int32 → HP → Prop}
    (kk : ∀ h', MW N rs lim ask frm E R to L h0 h' L.length → K (nI L.length) h') :
    ∀ m B x5 h', lim ≤ B + m → B ≤ lim → x5.toInt = (B : Int) - 1 → ∀ n, (∀ y, y ∈ L → ∃ r f, r ≤ 3 ∧ f < 28 ∧ y = kw (aR N lim ask E to) ask r f) → n = fa_cnt (fun _ => false) 0 + rk L (ka ask B 0 0) → MW N rs lim ask frm E R to L h0 h' n → H_Model_ways_66 G h' (nI to) x5 K := by
  have hN := c.1
  have hl := c.2.2.2.1
  have ha' := c.2.2.2.2.1
  have hv := NVRe
  have hlen := lk.1
  have done : ∀ h', MW N rs lim ask frm E R to L h0 h' L.length → H_Model_ways_144 G h' (nI to) (nI NVR) 0 K := by
    intro h' mw
    refine s_Model_ways_144 _ _ _ _ _ _ ?_
    rw [if_neg (by decide), show (1000000000 : Int32) = nI NVR from rfl, if_pos (by rw [leI (by omega) (by omega)]; omega)]
    refine s_Model_ways_66 _ _ _ _ _ ?_
    rw [show (1000000000 : Int32) = nI NVR from rfl, if_pos (by rw [leI (by omega) (by omega)]; omega), mw.2.2.1]
    exact kk h' mw
  intro m
  induction m with
  | zero =>
    intro B x5 h' h1 h2 hx n mem en mw
    refine s_Model_ways_66 _ _ _ _ _ ?_
    rw [if_neg (by rw [fa_le, hx, show (1000000000 : Int32).toInt = 1000000000 from rfl]; omega), show (1000000000 : Int32) = nI NVR from rfl]
    refine cm_w80 c mw.2.1 hto hx (fun a nx => ?_) 4 0 NVR (by omega) ⟨Nat.le_refl _, Or.inl rfl, fun r' f' z => by omega⟩
    rcases nx.2.1 with z | ⟨r, f, z1, z2, z3, z4, z5⟩
    · rw [z]
      refine done h' ?_
      rw [show L.length = n by
        rw [en]
        show L.length = 0 + rk L (ka ask B 0 0)
        rw [Nat.zero_add, rk_all (fun y hy => ?_)]
        obtain ⟨r, f, q1, q2, q3⟩ := mem y hy
        have ub := (lk.2.2 y).mp hy
        obtain ⟨r3, f3, t1, t2, t3, t4⟩ := ub
        have ok2 := aR_ok c (to := to) t1 f3
        have ge := aR_ge c (to := to) t1 f3
        rw [t4]
        refine (kw_ka t1 t2 ge (by omega)).mpr ?_
        have := t3.1
        omega]
      exact mw
    · have ok2 := aR_ok c (to := to) z1 f
      omega
  | succ m ih =>
    intro B x5 h' h1 h2 hx n mem en mw
    refine s_Model_ways_66 _ _ _ _ _ ?_
    rw [if_neg (by rw [fa_le, hx, show (1000000000 : Int32).toInt = 1000000000 from rfl]; omega), show (1000000000 : Int32) = nI NVR from rfl]
    refine cm_w80 c mw.2.1 hto hx (fun a nx => ?_) 4 0 NVR (by omega) ⟨Nat.le_refl _, Or.inl rfl, fun r' f' z => by omega⟩
    have en : n = rk L (ka ask B 0 0) := by rw [en]; show 0 + _ = _; rw [Nat.zero_add]
    -- those of the list that are not yet behind B arrive at a or later
    have cut : ∀ y, y ∈ L → ∃ r f, r ≤ 3 ∧ f < 28 ∧ y = kw (aR N lim ask E to) ask r f ∧ ask ≤ aR N lim ask E to r f ∧ aR N lim ask E to r f < lim ∧ (B ≤ aR N lim ask E to r f → a ≤ aR N lim ask E to r f) := by
      intro y hy
      obtain ⟨r, f, t1, t2, t3, t4⟩ := (lk.2.2 y).mp hy
      have ok2 := aR_ok c (to := to) t1 f
      have := t3.1
      exact ⟨r, f, t1, t2, t4, aR_ge c t1 f, by omega, fun z => nx.2.2 r f (Or.inl ⟨by omega, t2⟩) z⟩
    have ltB : ∀ {r f : Nat}, r ≤ 3 → f < 28 → ask ≤ aR N lim ask E to r f → (kw (aR N lim ask E to) ask r f < ka ask B 0 0 ↔ aR N lim ask E to r f < B) := by
      intro r f q1 q2 q3
      rcases Nat.lt_or_ge B ask with z | z
      · have : ka ask B 0 0 = 0 := by unfold ka; omega
        omega
      · exact kw_ka q1 q2 q3 z
    rcases nx.2.1 with z | ⟨r, f, z1, z2, z3, z4, z5⟩
    · rw [z]
      refine done h' ?_
      rw [show L.length = n by
        rw [en, rk_all (fun y hy => ?_)]
        obtain ⟨r, f, q1, q2, q3, q4, q5, q6⟩ := cut y hy
        rw [q3]
        refine (ltB q1 q2 q4).mpr ?_
        rcases Nat.lt_or_ge (aR N lim ask E to r f) B with w | w
        · exact w
        · have := q6 w
          omega]
      exact mw
    · have ok2 := aR_ok c (to := to) z1 f
      have ge := aR_ge c (to := to) z1 f
      have hal : a < lim := by omega
      have e0 : rk L (ka ask a 0 0) = n := by
        rw [en]
        refine rk_congr (fun y hy => ?_)
        obtain ⟨r2, f2, q1, q2, q3, q4, q5, q6⟩ := cut y hy
        rw [q3, ltB q1 q2 q4, kw_ka q1 q2 q4 (by omega)]
        exact ⟨fun w => by
          rcases Nat.lt_or_ge (aR N lim ask E to r2 f2) B with y | y
          · exact y
          · have := q6 y
            omega, fun w => by omega⟩
      refine cm_w144 c hto lk hal (by omega) (fun h2 mw2 => ?_) 4 0 h' (by omega) (by rw [e0]; exact mw)
      refine ih (a + 1) (nI a) h2 (by omega) (by omega) (by rw [toInt_nI (by omega)]; push_cast; omega) _ mem ?_ mw2
      show _ = 0 + _
      rw [Nat.zero_add]
