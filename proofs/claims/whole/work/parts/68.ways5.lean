/-! ===== ways: which ones, and the class takes them up ===== -/
def aR (N : HP) (lim ask : Nat) (E : Nat → Nat → Nat → Nat) (to r f : Nat) : Nat := arr N lim ask (E r) f to
theorem aR_ok {N : HP} {rs : List (Nat × Nat)} {lim ask frm : Nat} {E R : Nat → Nat → Nat → Nat} (c : CxW N rs lim ask frm E R) {to r : Nat} (hr : r ≤ 3) (f : Nat) : aR N lim ask E to r f = NVR ∨ aR N lim ask E to r f < lim := arr_ok c.1 (c.te hr) (by have := c.2.2.2.1; have := c.2.2.2.2.1; omega) c.2.2.2.1 f to
theorem aR_ge {N : HP} {rs : List (Nat × Nat)} {lim ask frm : Nat} {E R : Nat → Nat → Nat → Nat} (c : CxW N rs lim ask frm E R) {to r : Nat} (hr : r ≤ 3) (f : Nat) : ask ≤ aR N lim ask E to r f := by
  have hN := c.1
  have hl := c.2.2.2.1
  have ha := c.2.2.2.2.1
  have hv := NVRe
  have ge := DP_ge hN (show ask < 400000 by omega) c.2.2.1 r hr f
  rcases aR_ok c (to := to) hr f with z | z
  · omega
  · rcases (arr_of (show arr N lim ask (E r) f to < NVR by unfold aR at z; omega)).2 with q | ⟨w, h1, h2, q⟩
    · unfold aR
      rw [q]
      exact ge to
    · unfold aR
      rw [q]
      have g2 := ge (tn (N 23 w))
      have t := c.te hr f (tn (N 23 w))
      exact Nat.le_trans g2 (wE_ge hN h1 (by omega))
theorem aR_big {N : HP} {rs : List (Nat × Nat)} {lim ask frm : Nat} {E R : Nat → Nat → Nat → Nat} (c : CxW N rs lim ask frm E R) {to r f : Nat} (hr : r ≤ 3) (hf : dear N * r < f) : aR N lim ask E to r f = NVR := by
  have hl := c.2.2.2.1
  have hv := NVRe
  have bg := (c.bg hr).1 f
  rcases aR_ok c (to := to) hr f with z | z
  · exact z
  · exfalso
    rcases (arr_of (show arr N lim ask (E r) f to < NVR by unfold aR at z; omega)).2 with q | ⟨w, h1, h2, q⟩
    · unfold aR at z
      rw [q, bg to hf] at z
      omega
    · unfold aR at z
      rw [q, bg _ hf, wE_never] at z
      omega
theorem aR_fe {N : HP} {rs : List (Nat × Nat)} {lim ask frm : Nat} {E R : Nat → Nat → Nat → Nat} (c : CxW N rs lim ask frm E R) {to r f : Nat} (hr : r ≤ 3) (h : aR N lim ask E to r f < NVR) : aR N lim ask E to r f < lim ∧ Fe N ask (E r) f to (aR N lim ask E to r f) 0 := by
  have q := arr_of (show arr N lim ask (E r) f to < NVR from h)
  refine ⟨q.1, ?_⟩
  rcases q.2 with z | ⟨w, h1, h2, z⟩
  · exact Or.inl (Nat.le_of_eq z.symm)
  · exact Or.inr ⟨w, h1, h2, Nat.le_of_eq z.symm⟩
/-- no other way beats it -/
def Ub (A : Nat → Nat → Nat) (r f : Nat) : Prop := A r f < NVR ∧ ∀ r2 f2, r2 ≤ r → f2 ≤ f → (r2 < r ∨ f2 < f) → A r f < A r2 f2
def kw (A : Nat → Nat → Nat) (ask r f : Nat) : Nat := ((A r f - ask) * 4 + r) * 28 + f
theorem kw_inj {A : Nat → Nat → Nat} {ask r f r' f' : Nat} (hr : r ≤ 3) (hf : f < 28) (hr' : r' ≤ 3) (hf' : f' < 28) (e : kw A ask r f = kw A ask r' f') : r = r' ∧ f = f' := by
  unfold kw at e
  omega
/-- those that were looked at before -/
def Pr (D r f r' f' : Nat) : Prop := (r' < r ∧ f' ≤ D * r') ∨ (r' = r ∧ f' < f)
def LeS (A : Nat → Nat → Nat) (D r f : Nat) (h : HP) : Prop := ∀ g, g < 28 → ∃ x, h 57 g = nI x ∧ x ≤ NVR ∧ (x = NVR ∨ ∃ r' f', Pr D r f r' f' ∧ f' ≤ g ∧ x = A r' f') ∧ ∀ r' f', Pr D r f r' f' → f' ≤ g → x ≤ A r' f'
theorem c_isUnb {G : GA} {h : HP} {A : Nat → Nat → Nat} {D r f : Nat} (hA : ∀ r' f', r' ≤ 3 → A r' f' ≤ NVR) (hbig : ∀ r' f', r' ≤ 3 → D * r' < f' → A r' f' = NVR) (hr : r ≤ 3) (hf : f < 28) (ls : LeS A D r f h) {K : Bool → HP → Prop}
    (kk : ∀ b h', (b = true ↔ Ub A r f) → Agr [57] h h' → LeS A D r (f + 1) h' → K b h') : P_Found_isUnbeaten G h (nI f) (nI (A r f)) K := by
  have hv := NVRe
  have ha := hA r f hr
  refine s_Found_isUnbeaten_0 _ _ _ _ _ ?_
  rw [tnI (by omega)]
  refine ⟨in_nI hf (by decide), ?_⟩
  obtain ⟨x, e1, e2, e3, e4⟩ := ls f hf
  rw [e1]
  have prS : ∀ r' f', Pr D r (f + 1) r' f' ↔ Pr D r f r' f' ∨ (r' = r ∧ f' = f) := fun r' f' => by unfold Pr; omega
  by_cases c1 : nI (A r f) < nI x
  · rw [if_pos c1]
    rw [ltI (by omega) (by omega)] at c1
    have ub : Ub A r f := by
      refine ⟨by omega, fun r2 f2 h1 h2 h3 => ?_⟩
      by_cases z : r2 < r ∧ D * r2 < f2
      · rw [hbig r2 f2 (by omega) z.2]
        omega
      · have := e4 r2 f2 (by unfold Pr; omega) h2
        omega
    have key : ∀ n g h', g + n = 28 → f ≤ g → Agr [57] h h' → (∀ q, f ≤ q → q < g → h' 57 q = (if nI (A r f) < h 57 q then nI (A r f) else h 57 q)) → (∀ q, q < f ∨ g ≤ q → h' 57 q = h 57 q) → H_Found_isUnbeaten_14 G h' (nI (A r f)) (nI g) K := by
      intro n
      induction n with
      | zero =>
        intro g h' e hg ag hx hy
        refine s_Found_isUnbeaten_14 _ _ _ _ _ ?_
        rw [show (28 : Int32) = nI 28 from rfl, if_pos (by rw [leI (by omega) (by omega)]; omega)]
        refine kk true h' ⟨fun _ => ub, fun _ => rfl⟩ ag (fun q hq => ?_)
        obtain ⟨y, y1, y2, y3, y4⟩ := ls q hq
        by_cases z : q < f
        · refine ⟨y, by rw [hy q (Or.inl z), y1], y2, ?_, fun r' f' p hf' => ?_⟩
          · rcases y3 with w | ⟨r', f', w1, w2, w3⟩
            · exact Or.inl w
            · exact Or.inr ⟨r', f', (prS r' f').mpr (Or.inl w1), w2, w3⟩
          · rcases (prS r' f').mp p with w | w
            · exact y4 r' f' w hf'
            · omega
        · refine ⟨if A r f < y then A r f else y, by rw [hx q (by omega) (by omega), y1, minI (by omega) (by omega)], by split <;> omega, ?_, fun r' f' p hf' => ?_⟩
          · by_cases w : A r f < y
            · rw [if_pos w]
              exact Or.inr ⟨r, f, (prS r f).mpr (Or.inr ⟨rfl, rfl⟩), by omega, rfl⟩
            · rw [if_neg w]
              rcases y3 with w | ⟨r', f', w1, w2, w3⟩
              · exact Or.inl w
              · exact Or.inr ⟨r', f', (prS r' f').mpr (Or.inl w1), w2, w3⟩
          · rcases (prS r' f').mp p with w | w
            · have := y4 r' f' w hf'
              split <;> omega
            · rw [w.1, w.2]
              split <;> omega
      | succ n ih =>
        intro g h' e hg ag hx hy
        refine s_Found_isUnbeaten_14 _ _ _ _ _ ?_
        rw [show (28 : Int32) = nI 28 from rfl, if_neg (by rw [leI (by omega) (by omega)]; omega), tnI (by omega), nI_1]
        refine ⟨in_nI (by omega) (by decide), ?_⟩
        intro h2 eh2
        subst eh2
        refine ih (g + 1) _ (by omega) (by omega) (ag.up (by decide) _ _) (fun q h1 h2 => ?_) (fun q h1 => ?_)
        · by_cases z : q = g
          · rw [z, up_at, hy g (Or.inr (Nat.le_refl _))]
          · rw [up_sl _ _ z]
            exact hx q h1 (by omega)
        · rw [up_sl _ _ (by omega)]
          exact hy q (by omega)
    exact key (28 - f) f h (by omega) (Nat.le_refl _) (Agr.refl _ _) (fun q a b => by omega) (fun q _ => rfl)
  · rw [if_neg c1]
    rw [ltI (by omega) (by omega)] at c1
    refine kk false h ⟨fun z => (by cases z), fun ub => ?_⟩ (Agr.refl _ _) (fun g hg => ?_)
    · exfalso
      rcases e3 with z | ⟨r', f', z1, z2, z3⟩
      · have := ub.1
        omega
      · have := ub.2 r' f' (by unfold Pr at z1; omega) z2 (by unfold Pr at z1; omega)
        omega
    · obtain ⟨y, y1, y2, y3, y4⟩ := ls g hg
      refine ⟨y, y1, y2, ?_, fun r' f' p hf' => ?_⟩
      · rcases y3 with w | ⟨r', f', w1, w2, w3⟩
        · exact Or.inl w
        · exact Or.inr ⟨r', f', (prS r' f').mpr (Or.inl w1), w2, w3⟩
      · rcases (prS r' f').mp p with w | w
        · exact y4 r' f' w hf'
        · rw [w.1, w.2]
          rcases e3 with z | ⟨r2, f2, z1, z2, z3⟩
          · omega
          · have := y4 r2 f2 z1 (by omega)
            omega
/-- the state while the class takes up the keys -/
def CI (N : HP) (rs : List (Nat × Nat)) (lim ask : Nat) (E R : Nat → Nat → Nat → Nat) (to r f : Nat) (h0 h : HP) : Prop := CC N h rs lim ask E R ∧ Agr [57, 62, 63] h0 h ∧ LeS (aR N lim ask E to) (dear N) r f h ∧ ∃ L, SLs h 62 63 L ∧ L.Pairwise (· < ·) ∧ L.length ≤ bs (dear N) r + f ∧ ∀ y, y ∈ L ↔ ∃ r' f', Pr (dear N) r f r' f' ∧ Ub (aR N lim ask E to) r' f' ∧ y = kw (aR N lim ask E to) ask r' f'
theorem lt_le {L : List Nat} (h : L.Pairwise (· < ·)) : L.Pairwise (· ≤ ·) := h.imp (fun h => Nat.le_of_lt h)
theorem lt_nd {L : List Nat} (h : L.Pairwise (· < ·)) : L.Nodup := h.imp (fun h => Nat.ne_of_lt h)
theorem c_col36 {G : GA} {N h0 : HP} {rs : List (Nat × Nat)} {lim ask frm to r : Nat} {E R : Nat → Nat → Nat → Nat} (c : CxW N rs lim ask frm E R) (hto : to < 12) (hr : r ≤ 3) {K : Int32 → HP → Prop}
    (kk : ∀ h', CI N rs lim ask E R to (r + 1) 0 h0 h' → H_Found_collect_29 G h' (nI to) (nI (r + 1)) K) :
    ∀ n f h', f + n = dear N * r + 1 → CI N rs lim ask E R to r f h0 h' → H_Found_collect_36 G h' (nI to) (nI r) (nI f) K
  | 0, f, h', e, ci => by
    have hD := dear_le c.1
    have h3 := D3 hr hD
    refine s_Found_collect_36 _ _ _ _ _ _ (c_mostFare ci.1.1.2.2.1 ?_)
    rw [if_pos (by rw [ltI (by omega) (by omega)]; omega), nI_1]
    have prS : ∀ r' f', Pr (dear N) (r + 1) 0 r' f' ↔ Pr (dear N) r f r' f' := fun r' f' => by
      unfold Pr
      refine ⟨fun z => ?_, fun z => ?_⟩
      · rcases z with z | z
        · by_cases w : r' = r
          · rw [w] at z
            exact Or.inr ⟨w, by omega⟩
          · exact Or.inl ⟨by omega, z.2⟩
        · omega
      · rcases z with z | z
        · exact Or.inl ⟨by omega, z.2⟩
        · rw [z.1]
          exact Or.inl ⟨by omega, by omega⟩
    obtain ⟨i1, i2, i3, L, i4, i5, i6, i7⟩ := ci
    refine kk h' ⟨i1, i2, fun g hg => ?_, L, i4, i5, by rw [bs_s _ r hr]; omega, fun y => ?_⟩
    · obtain ⟨x, x1, x2, x3, x4⟩ := i3 g hg
      refine ⟨x, x1, x2, x3.imp id (fun ⟨r', f', w, w2⟩ => ⟨r', f', (prS r' f').mpr w, w2⟩), fun r' f' p => x4 r' f' ((prS r' f').mp p)⟩
    · rw [i7 y]
      exact ⟨fun ⟨r', f', w, w2⟩ => ⟨r', f', (prS r' f').mpr w, w2⟩, fun ⟨r', f', w, w2⟩ => ⟨r', f', (prS r' f').mp w, w2⟩⟩
  | n + 1, f, h', e, ci => by
    have hN := c.1
    have hD := dear_le c.1
    have h3 := D3 hr hD
    have hl := c.2.2.2.1
    have ha := c.2.2.2.2.1
    have hv := NVRe
    have ih := c_col36 (G := G) c hto hr kk n (f + 1)
    have ok := fun r' (hr' : r' ≤ 3) f' => aR_ok c (to := to) (r := r') hr' f'
    obtain ⟨i1, i2, i3, L, i4, i5, i6, i7⟩ := ci
    refine s_Found_collect_36 _ _ _ _ _ _ (c_mostFare i1.1.2.2.1 ?_)
    rw [if_neg (by rw [ltI (by omega) (by omega)]; omega)]
    refine c_arrival hN hD hr (by omega) hto (by omega) hl (c.te hr) i1.1 (i1.2.2.1 r hr) (c.bg hr).1 ?_
    refine c_isUnb (A := aR N lim ask E to) (D := dear N) (fun r' f' hr' => by have := ok r' hr' f'; omega) (fun r' f' hr' hf' => aR_big c hr' hf') hr (by omega) i3 (fun b h2 hb ag2 ls2 => ?_)
    have cc2 : CC N h2 rs lim ask E R := i1.agr ag2
    have so2 : SLs h2 62 63 L := ⟨by rw [ag2 62 (by decide)]; exact i4.1, by rw [ag2 63 (by decide)]; exact i4.2⟩
    have prS : ∀ r' f', Pr (dear N) r (f + 1) r' f' ↔ Pr (dear N) r f r' f' ∨ (r' = r ∧ f' = f) := fun r' f' => by unfold Pr; omega
    cases b with
    | false =>
      rw [if_neg (by decide), nI_1]
      have nub : ¬ Ub (aR N lim ask E to) r f := fun z => by have := hb.mpr z; cases this
      refine ih h2 (by omega) ⟨cc2, i2.trans (ag2.mono (by decide)), ls2, L, so2, i5, by omega, fun y => ?_⟩
      rw [i7 y]
      refine ⟨fun ⟨r', f', w, w2⟩ => ⟨r', f', (prS r' f').mpr (Or.inl w), w2⟩, fun ⟨r', f', w, w2, w3⟩ => ?_⟩
      rcases (prS r' f').mp w with z | z
      · exact ⟨r', f', z, w2, w3⟩
      · rw [z.1, z.2] at w2
        exact absurd w2 nub
    | true =>
      have ub := hb.mp rfl
      have hlt : aR N lim ask E to r f < lim := by
        have := ok r hr f
        have := ub.1
        omega
      have hge := aR_ge c (to := to) hr f
      rw [if_pos rfl, cc2.2.1, show nI (arr N lim ask (E r) f to) = nI (aR N lim ask E to r f) from rfl, pk_sub hge, show ((nI (aR N lim ask E to r f - ask) * 4 + nI r) * 28 + nI f) = nI (kw (aR N lim ask E to) ask r f) by rw [show (4 : Int32) = nI 4 from rfl, show (28 : Int32) = nI 28 from rfl, pk_mul, nI_add, pk_mul, nI_add]; rfl]
      have hk : ∀ r' f', r' ≤ 3 → f' < 28 → aR N lim ask E to r' f' < NVR → kw (aR N lim ask E to) ask r' f' < 2147483648 := fun r' f' h1 h2 h3 => by
        have := ok r' h1 f'
        unfold kw
        omega
      have hpr : ∀ r' f', Pr (dear N) r f r' f' → r' ≤ 3 ∧ f' < 28 := fun r' f' p => by
        unfold Pr at p
        rcases p with p | p
        · have := D3 (show r' ≤ 3 by omega) hD
          omega
        · omega
      have b57 := bs_top hr (show f ≤ dear N * r by omega) hD
      refine c_ins62 (hk r f hr (by omega) ub.1) so2 (by omega) (lt_le i5) (fun y hy => ?_) (fun h3 L3 ag3 _ so3 pm3 st3 => ?_)
      · obtain ⟨r', f', w1, w2, w3⟩ := (i7 y).mp hy
        have := hpr r' f' w1
        rw [w3]
        exact hk r' f' this.1 this.2 w2.1
      · rw [nI_1]
        have nin : kw (aR N lim ask E to) ask r f ∉ L := fun z => by
          obtain ⟨r', f', w1, w2, w3⟩ := (i7 _).mp z
          have hp := hpr r' f' w1
          have := kw_inj hr (by omega) hp.1 hp.2 w3
          unfold Pr at w1
          omega
        have nd : L3.Nodup := pm3.nodup_iff.mpr (List.nodup_cons.mpr ⟨nin, lt_nd i5⟩)
        refine ih h3 (by omega) ⟨cc2.agr ag3, (i2.trans (ag2.mono (by decide))).trans (ag3.mono (by decide)), ?_, L3, so3, srt_lt st3 nd, ?_, fun y => ?_⟩
        · unfold LeS
          rw [ag3 57 (by decide)]
          exact ls2
        · rw [pm3.length_eq, List.length_cons]
          omega
        · rw [pm3.mem_iff, List.mem_cons, i7 y]
          refine ⟨fun z => ?_, fun ⟨r', f', w, w2, w3⟩ => ?_⟩
          · rcases z with z | ⟨r', f', w, w2⟩
            · exact ⟨r, f, (prS r f).mpr (Or.inr ⟨rfl, rfl⟩), ub, z⟩
            · exact ⟨r', f', (prS r' f').mpr (Or.inl w), w2⟩
          · rcases (prS r' f').mp w with z | z
            · exact Or.inr ⟨r', f', z, w2, w3⟩
            · rw [z.1, z.2] at w3
              exact Or.inl w3
theorem c_col29 {G : GA} {N h0 : HP} {rs : List (Nat × Nat)} {lim ask frm to : Nat} {E R : Nat → Nat → Nat → Nat} (c : CxW N rs lim ask frm E R) (hto : to < 12) {K : Int32 → HP → Prop}
    (kk : ∀ h', CI N rs lim ask E R to 4 0 h0 h' → ∀ h1, h1 = up h' 54 9 (h' 62 1) → H_Found_collect_118 G h1 (nI to) 0 K) :
    ∀ n r h', r + n = 4 → CI N rs lim ask E R to r 0 h0 h' → H_Found_collect_29 G h' (nI to) (nI r) K
  | 0, r, h', e, ci => by
    refine s_Found_collect_29 _ _ _ _ _ ?_
    rw [show (3 : Int32) = nI 3 from rfl, if_pos (by rw [ltI (by omega) (by omega)]; omega)]
    rw [show r = 4 by omega] at ci
    exact kk h' ci
  | n + 1, r, h', e, ci => by
    refine s_Found_collect_29 _ _ _ _ _ ?_
    rw [show (3 : Int32) = nI 3 from rfl, if_neg (by rw [ltI (by omega) (by omega)]; omega)]
    exact c_col36 c hto (by omega) (fun h2 ci2 => c_col29 c hto kk n (r + 1) h2 (by omega) ci2) (dear N * r + 1) 0 h' (by omega) ci
