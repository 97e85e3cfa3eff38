/-! ===== ways: the reference takes them up ===== -/
theorem cm_isB {G : GA} {N h : HP} {rs : List (Nat × Nat)} {lim ask frm to r f : Nat} {E R : Nat → Nat → Nat → Nat} (c : CxW N rs lim ask frm E R) (mx : MX N h rs lim ask frm E R) (hto : to < 12) (hr : r ≤ 3) (hf : f < 28) (hlt : aR N lim ask E to r f < NVR) {K : Bool → HP → Prop}
    (kt : ¬ Ub (aR N lim ask E to) r f → K true h) (kf : Ub (aR N lim ask E to) r f → K false h) : P_Model_isBeaten G h (nI (aR N lim ask E to r f)) (nI r) (nI f) (nI to) K := by
  have hN := c.1
  have hl := c.2.2.2.1
  have ha := c.2.2.2.2.1
  have hv := NVRe
  have hS := nS_le hN
  have hfr := c.2.2.2.2.2.2.2
  refine s_Model_isBeaten_0 _ _ _ _ _ _ _ ?_
  have beat : ∀ r2 f2, r2 ≤ r → f2 ≤ f → aR N lim ask E to r2 f2 ≤ aR N lim ask E to r f → (aR N lim ask E to r2 f2 < aR N lim ask E to r f ∨ r2 < r ∨ f2 < f) → ¬ Ub (aR N lim ask E to) r f := by
    intro r2 f2 h1 h2 h3 h4 ub
    by_cases z : r2 < r ∨ f2 < f
    · have := ub.2 r2 f2 h1 h2 z
      omega
    · have e1 : r2 = r := by omega
      have e2 : f2 = f := by omega
      rw [e1, e2] at h4
      omega
  have inner : ∀ r2, r2 ≤ r → ((∀ r' f', r' < r2 + 1 → f' ≤ f → (r' < r ∨ f' < f) → aR N lim ask E to r f < aR N lim ask E to r' f') → H_Model_isBeaten_3 G h (nI (aR N lim ask E to r f)) (nI r) (nI f) (nI to) (nI (r2 + 1)) K) →
      ∀ n f2, f2 + n = f + 1 → (∀ r' f', (r' < r2 ∧ f' ≤ f) ∨ (r' = r2 ∧ f' < f2) → (r' < r ∨ f' < f) → aR N lim ask E to r f < aR N lim ask E to r' f') → H_Model_isBeaten_12 G h (nI (aR N lim ask E to r f)) (nI r) (nI f) (nI to) (nI r2) (nI f2) K := by
    intro r2 hr2 kn n
    induction n with
    | zero =>
      intro f2 e inv
      refine s_Model_isBeaten_12 _ _ _ _ _ _ _ _ _ ?_
      rw [if_pos (by rw [ltI (by omega) (by omega)]; omega), nI_1]
      exact kn (fun r' f' h1 h2 h3 => inv r' f' (by omega) h3)
    | succ n ih =>
      intro f2 e inv
      have ih := ih (f2 + 1) (by omega)
      refine s_Model_isBeaten_12 _ _ _ _ _ _ _ _ _ ?_
      rw [if_neg (by rw [ltI (by omega) (by omega)]; omega)]
      refine cm_arrival hN (by omega) (by omega) hto (by omega) (by omega) hl (c.te (by omega)) mx.1 (mx.2.1 r2 (by omega)) ?_
      rw [show nI (arr N lim ask (E r2) f2 to) = nI (aR N lim ask E to r2 f2) from rfl]
      have ok2 := aR_ok c (to := to) (r := r2) (by omega) f2
      have nxt : ((r2 < r ∨ f2 < f) → aR N lim ask E to r f < aR N lim ask E to r2 f2) → H_Model_isBeaten_12 G h (nI (aR N lim ask E to r f)) (nI r) (nI f) (nI to) (nI r2) (nI f2 + 1) K := by
        intro z
        rw [nI_1]
        refine ih (fun r' f' h1 h2 => ?_)
        by_cases y : r' = r2 ∧ f' = f2
        · rw [y.1, y.2] at h2 ⊢
          exact z h2
        · exact inv r' f' (by omega) h2
      by_cases c1 : nI (aR N lim ask E to r f) < nI (aR N lim ask E to r2 f2)
      · rw [if_pos c1]
        rw [ltI (by omega) (by omega)] at c1
        exact nxt (fun _ => c1)
      rw [if_neg c1]
      rw [ltI (by omega) (by omega)] at c1
      by_cases c2 : nI (aR N lim ask E to r2 f2) < nI (aR N lim ask E to r f)
      · rw [if_pos c2]
        rw [ltI (by omega) (by omega)] at c2
        exact kt (beat r2 f2 hr2 (by omega) (by omega) (Or.inl c2))
      rw [if_neg c2]
      by_cases c3 : nI r2 < nI r
      · rw [if_pos c3]
        rw [ltI (by omega) (by omega)] at c3
        exact kt (beat r2 f2 hr2 (by omega) (by omega) (Or.inr (Or.inl c3)))
      rw [if_neg c3]
      rw [ltI (by omega) (by omega)] at c3
      by_cases c4 : nI f ≤ nI f2
      · rw [if_pos c4]
        rw [leI (by omega) (by omega)] at c4
        exact nxt (fun z => by omega)
      · rw [if_neg c4]
        rw [leI (by omega) (by omega)] at c4
        exact kt (beat r2 f2 hr2 (by omega) (by omega) (Or.inr (Or.inr (by omega))))
  have outer : ∀ n r2, r2 + n = r + 1 → (∀ r' f', r' < r2 → f' ≤ f → (r' < r ∨ f' < f) → aR N lim ask E to r f < aR N lim ask E to r' f') → H_Model_isBeaten_3 G h (nI (aR N lim ask E to r f)) (nI r) (nI f) (nI to) (nI r2) K := by
    intro n
    induction n with
    | zero =>
      intro r2 e inv
      refine s_Model_isBeaten_3 _ _ _ _ _ _ _ _ ?_
      rw [if_pos (by rw [ltI (by omega) (by omega)]; omega)]
      exact kf ⟨hlt, fun r' f' h1 h2 h3 => inv r' f' (by omega) h2 h3⟩
    | succ n ih =>
      intro r2 e inv
      refine s_Model_isBeaten_3 _ _ _ _ _ _ _ _ ?_
      rw [if_neg (by rw [ltI (by omega) (by omega)]; omega)]
      exact inner r2 (by omega) (fun h1 => ih (r2 + 1) (by omega) h1) (f + 1) 0 (by omega) (fun r' f' h1 h2 => inv r' f' (by omega) (by omega) h2)
  exact outer (r + 1) 0 (by omega) (fun r' f' h1 => by omega)
/-! where a number would stand -/
theorem rk_cons (a : Nat) (l : List Nat) (y : Nat) : rk (a :: l) y = rk l y + if a < y then 1 else 0 := by
  unfold rk
  rw [List.countP_cons]
  simp only [decide_eq_true_eq]
theorem rk_succ {x : Nat} : ∀ {L : List Nat}, L.Nodup → rk L (x + 1) = rk L x + if x ∈ L then 1 else 0
  | [], _ => rfl
  | a :: l, nd => by
    obtain ⟨n1, n2⟩ := List.nodup_cons.mp nd
    rw [rk_cons, rk_cons, rk_succ n2]
    by_cases e : a = x
    · subst e
      rw [if_neg n1, if_pos (by omega), if_neg (by omega), if_pos List.mem_cons_self]
    · have : x ∈ a :: l ↔ x ∈ l := by
        rw [List.mem_cons]
        exact ⟨fun z => z.elim (fun y => absurd y.symm e) id, Or.inr⟩
      by_cases m : x ∈ l
      · rw [if_pos m, if_pos (this.mpr m)]
        by_cases q : a < x
        · rw [if_pos (by omega), if_pos q]
        · rw [if_neg (by omega), if_neg q]
      · rw [if_neg m, if_neg (fun z => m (this.mp z))]
        by_cases q : a < x
        · rw [if_pos (by omega), if_pos q]
        · rw [if_neg (by omega), if_neg q]
theorem rk_congr {L : List Nat} {x y : Nat} (h : ∀ z, z ∈ L → (z < x ↔ z < y)) : rk L x = rk L y := by
  unfold rk
  refine List.countP_congr (fun z hz => ?_)
  simp only [decide_eq_true_eq]
  exact h z hz
theorem rk_all {L : List Nat} {x : Nat} (h : ∀ z, z ∈ L → z < x) : rk L x = L.length := by
  unfold rk
  rw [List.countP_eq_length]
  exact fun z hz => decide_eq_true (h z hz)
theorem rk_none {L : List Nat} {x : Nat} (h : ∀ z, z ∈ L → ¬ z < x) : rk L x = 0 := by
  unfold rk
  rw [List.countP_eq_zero]
  exact fun z hz => by rw [decide_eq_true_eq]; exact h z hz
def ka (ask a r f : Nat) : Nat := ((a - ask) * 4 + r) * 28 + f
/-- what the reference has at hand of way i -/
def WM (N : HP) (rs : List (Nat × Nat)) (lim ask : Nat) (E R : Nat → Nat → Nat → Nat) (to : Nat) (h : HP) (i y : Nat) : Prop := ∃ r f wk rv ri rj, r ≤ 3 ∧ f < 28 ∧ Ub (aR N lim ask E to) r f ∧ y = kw (aR N lim ask E to) ask r f ∧ TR N rs lim ask E R wk rv ri rj r f to (aR N lim ask E to r f) 0 ∧ AW N rs ask i (aR N lim ask E to r f) r f (fwl wk rv ri rj r) h
theorem AW.keep {N : HP} {rs : List (Nat × Nat)} {ask i a r f : Nat} {S : List St} {h h' : HP} (w : AW N rs ask i a r f S h) (hS : S.length ≤ 7) (e105 : ∀ x, x < 63 * (i + 1) → h' 105 x = h 105 x) (e : h' 100 i = h 100 i ∧ h' 101 i = h 101 i ∧ h' 102 i = h 102 i ∧ h' 103 i = h 103 i ∧ h' 104 i = h 104 i) : AW N rs ask i a r f S h' := by
  obtain ⟨w1, w2, w3, w4, w5, w6⟩ := w
  obtain ⟨d1, d2, d3, d4, d5⟩ := e
  refine ⟨fun q s hq c hc => ?_, by rw [d1, w2], by rw [d2, w3], by rw [d3, w4], by rw [d4, w5], by rw [d5, w6]⟩
  have hq2 := (List.getElem?_eq_some_iff.mp hq).1
  have := w1 q s hq c hc
  show h' 105 _ = _
  rw [e105 _ (by omega)]
  exact this
def MW (N : HP) (rs : List (Nat × Nat)) (lim ask frm : Nat) (E R : Nat → Nat → Nat → Nat) (to : Nat) (L : List Nat) (h0 h : HP) (n : Nat) : Prop := AM [100, 101, 102, 103, 104, 105, 106] [41, 49, 50, 51, 52] h0 h ∧ MX N h rs lim ask frm E R ∧ h 67 41 = nI n ∧ ∀ i y, i < n → L[i]? = some y → WM N rs lim ask E R to h i y
/-- the list of the ways, as the class has found it -/
def LOK (N : HP) (lim ask : Nat) (E : Nat → Nat → Nat → Nat) (to : Nat) (L : List Nat) : Prop := L.length ≤ 58 ∧ L.Pairwise (· < ·) ∧ ∀ y, y ∈ L ↔ ∃ r f, r ≤ 3 ∧ f < 28 ∧ Ub (aR N lim ask E to) r f ∧ y = kw (aR N lim ask E to) ask r f
theorem LOK.at {N : HP} {rs : List (Nat × Nat)} {lim ask frm to : Nat} {E R : Nat → Nat → Nat → Nat} (c : CxW N rs lim ask frm E R) {L : List Nat} (lk : LOK N lim ask E to L) {a r f : Nat} (ha : ask ≤ a) (hr : r ≤ 3) (hf : f < 28) : ka ask a r f ∈ L ↔ Ub (aR N lim ask E to) r f ∧ aR N lim ask E to r f = a := by
  rw [lk.2.2]
  refine ⟨fun ⟨r', f', h1, h2, h3, h4⟩ => ?_, fun ⟨h1, h2⟩ => ⟨r, f, hr, hf, h1, by unfold ka kw; rw [h2]⟩⟩
  have ge := aR_ge c (to := to) h1 f'
  unfold ka kw at h4
  have e1 : r' = r := by omega
  have e2 : f' = f := by omega
  subst e1 e2
  exact ⟨h3, by omega⟩
theorem cm_w160 {G : GA} {N h0 : HP} {rs : List (Nat × Nat)} {lim ask frm to a r : Nat} {E R : Nat → Nat → Nat → Nat} (c : CxW N rs lim ask frm E R) (hto : to < 12) {L : List Nat} (lk : LOK N lim ask E to L) (hal : a < lim) (ha : ask ≤ a) (hr : r ≤ 3) {K : Int32 → HP → Prop}
    (kk : ∀ h', MW N rs lim ask frm E R to L h0 h' (rk L (ka ask a (r + 1) 0)) → H_Model_ways_144 G h' (nI to) (nI a) (nI (r + 1)) K) :
    ∀ n f h', f + n = 28 → MW N rs lim ask frm E R to L h0 h' (rk L (ka ask a r f)) → H_Model_ways_160 G h' (nI to) (nI a) (nI r) (nI f) K
  | 0, f, h', e, mw => by
    refine s_Model_ways_160 _ _ _ _ _ _ _ ?_
    rw [show (28 : Int32) = nI 28 from rfl, if_pos (by rw [leI (by omega) (by omega)]; omega), nI_1]
    rw [show ka ask a r f = ka ask a (r + 1) 0 by unfold ka; omega] at mw
    exact kk h' mw
  | n + 1, f, h', e, mw => by
    have hN := c.1
    have hl := c.2.2.2.1
    have ha' := c.2.2.2.2.1
    have hv := NVRe
    have hS := nS_le hN
    have hfr := c.2.2.2.2.2.2.2
    have ih := cm_w160 (G := G) c hto lk hal ha hr kk n (f + 1)
    have nd := lt_nd lk.2.1
    have at' := lk.at c ha hr (show f < 28 by omega)
    have ok2 := aR_ok c (to := to) hr f
    obtain ⟨am, mx, e41, wm⟩ := mw
    have skip : ¬ (Ub (aR N lim ask E to) r f ∧ aR N lim ask E to r f = a) → H_Model_ways_160 G h' (nI to) (nI a) (nI r) (nI f + 1) K := by
      intro z
      rw [nI_1]
      refine ih h' (by omega) ?_
      have : rk L (ka ask a r (f + 1)) = rk L (ka ask a r f) := by
        rw [show ka ask a r (f + 1) = ka ask a r f + 1 by unfold ka; omega, rk_succ nd, if_neg (fun y => z (at'.mp y)), Nat.add_zero]
      rw [this]
      exact ⟨am, mx, e41, wm⟩
    refine s_Model_ways_160 _ _ _ _ _ _ _ ?_
    rw [show (28 : Int32) = nI 28 from rfl, if_neg (by rw [leI (by omega) (by omega)]; omega)]
    refine cm_arrival hN hr (by omega) hto (by omega) (by omega) hl (c.te hr) mx.1 (mx.2.1 r hr) ?_
    rw [show nI (arr N lim ask (E r) f to) = nI (aR N lim ask E to r f) from rfl]
    by_cases c1 : nI (aR N lim ask E to r f) = nI a
    rotate_left
    · rw [if_neg c1]
      exact skip (fun z => c1 (by rw [z.2]))
    rw [if_pos c1]
    have c1 := (eqI (by omega) (by omega)).mp c1
    have hlt : aR N lim ask E to r f < NVR := by omega
    have isb := cm_isB (G := G) c mx hto hr (show f < 28 by omega) hlt (K := fun b4 h3 => if b4 = true then H_Model_ways_160 G h3 (nI to) (nI a) (nI r) (nI f + 1) K else P_Model_findWay G h3 (nI r) (nI f) (nI to) (nI a) (fun h5 => P_Model_add G h5 (nI a) (nI r) (nI f) (fun h6 => H_Model_ways_160 G h6 (nI to) (nI a) (nI r) (nI f + 1) K)))
    rw [c1] at isb
    refine isb (fun nub => ?_) (fun ub => ?_)
    · rw [if_pos rfl]
      exact skip (fun z => nub z.1)
    · rw [if_neg (by decide)]
      refine s_Model_findWay_0 _ _ _ _ _ _ _ ?_
      intro h1 e1
      have am1 : AM [106] [49] h' h1 := by rw [e1]; exact (AM.refl _ _ _).p67 (by decide) _
      have mx1 : MX N h1 rs lim ask frm E R := mx.am am1
      have fe := aR_fe c hr hlt
      have lob : LoB N ask (E r) f to a := by
        rw [← c1]
        refine ⟨?_, fun w hw hw2 => ?_⟩
        · rcases Nat.lt_or_ge (E r f to) lim with z | z
          · exact arr_le1 z
          · omega
        · rcases Nat.lt_or_ge (wE N w (E r f (tn (N 23 w))) ask) lim with z | z
          · exact arr_le2 hw hw2 z
          · omega
      rw [c1] at fe
      refine cm_fw c r f to a 0 h1 true [] mx1 hr (by omega) hto hal fe.2 rfl (fun _ => lob) ⟨by rw [e1, up_at]; rfl, fun q s hq => by rw [List.getElem?_nil] at hq; cases hq⟩ (by rw [List.length_nil]; omega) (fun h2 wk rv ri rj am2 tr rb2 => ?_)
      rw [List.nil_append] at rb2
      have mx2 : MX N h2 rs lim ask frm E R := mx1.am am2
      have hin : ka ask a r f ∈ L := at'.mpr ⟨ub, c1⟩
      obtain ⟨i, hi⟩ := List.mem_iff_getElem?.mp hin
      have ri' : rk L (ka ask a r f) = i := rank_at lk.2.1 hi
      have hil := (List.getElem?_eq_some_iff.mp hi).1
      have hlen := lk.1
      have hln := fwl_len wk rv ri rj r
      have keep41 : h2 67 41 = nI i := by rw [am2.2 41 (by decide), am1.2 41 (by decide), e41, ri']
      refine cm_add c mx2 (by omega) keep41 rb2 (by omega) (fwl_ok tr.ok) (fwl_tm hN c.2.2.2.2.2.2.1 (by omega) tr.ok) (fun h3 am3 e105 e100 e41' aw => ?_)
      rw [nI_1]
      have am' : AM [100, 101, 102, 103, 104, 105, 106] [41, 49, 50, 51, 52] h' h3 := ((am1.mono (by decide) (by decide)).trans (am2.mono (by decide) (by decide))).trans (am3.mono (by decide) (by decide))
      refine ih h3 (by omega) ⟨am.trans am', mx2.am am3, ?_, fun q y hq hy => ?_⟩
      · rw [show ka ask a r (f + 1) = ka ask a r f + 1 by unfold ka; omega, rk_succ nd, if_pos hin, ri', e41']
      · rw [show ka ask a r (f + 1) = ka ask a r f + 1 by unfold ka; omega, rk_succ nd, if_pos hin, ri'] at hq
        by_cases z : q = i
        · rw [z] at hy ⊢
          rw [hi] at hy
          rw [← Option.some.inj hy]
          refine ⟨r, f, wk, rv, ri, rj, hr, by omega, ub, by unfold ka kw; rw [c1], by rw [c1]; exact tr, by rw [c1]; exact aw⟩
        · obtain ⟨r', f', wk', rv', ri2, rj', a1, a2, a3, a4, a5, a6⟩ := wm q y (by omega) hy
          have hln' := fwl_len wk' rv' ri2 rj' r'
          refine ⟨r', f', wk', rv', ri2, rj', a1, a2, a3, a4, a5, a6.keep (by omega) (fun x hx => ?_) ?_⟩
          · rw [e105 x (by omega), am2.1 105 (by decide) (by decide), am1.1 105 (by decide) (by decide)]
          · obtain ⟨k1, k2, k3, k4, k5⟩ := e100 q (by omega)
            rw [k1, k2, k3, k4, k5, am2.1 100 (by decide) (by decide), am1.1 100 (by decide) (by decide), am2.1 101 (by decide) (by decide), am1.1 101 (by decide) (by decide), am2.1 102 (by decide) (by decide), am1.1 102 (by decide) (by decide), am2.1 103 (by decide) (by decide), am1.1 103 (by decide) (by decide), am2.1 104 (by decide) (by decide), am1.1 104 (by decide) (by decide)]
            exact ⟨rfl, rfl, rfl, rfl, rfl⟩
theorem cm_w144 {G : GA} {N h0 : HP} {rs : List (Nat × Nat)} {lim ask frm to a : Nat} {E R : Nat → Nat → Nat → Nat} (c : CxW N rs lim ask frm E R) (hto : to < 12) {L : List Nat} (lk : LOK N lim ask E to L) (hal : a < lim) (ha : ask ≤ a) {K : Int32 → HP → Prop}
    (kk : ∀ h', MW N rs lim ask frm E R to L h0 h' (rk L (ka ask (a + 1) 0 0)) → H_Model_ways_66 G h' (nI to) (nI a) K) :
    ∀ n r h', r + n = 4 → MW N rs lim ask frm E R to L h0 h' (rk L (ka ask a r 0)) → H_Model_ways_144 G h' (nI to) (nI a) (nI r) K
  | 0, r, h', e, mw => by
    refine s_Model_ways_144 _ _ _ _ _ _ ?_
    rw [show (4 : Int32) = nI 4 from rfl, if_pos (by rw [leI (by omega) (by omega)]; omega)]
    rw [show ka ask a r 0 = ka ask (a + 1) 0 0 by unfold ka; omega] at mw
    exact kk h' mw
  | n + 1, r, h', e, mw => by
    have hl := c.2.2.2.1
    refine s_Model_ways_144 _ _ _ _ _ _ ?_
    rw [show (4 : Int32) = nI 4 from rfl, if_neg (by rw [leI (by omega) (by omega)]; omega), show (1000000000 : Int32) = nI 1000000000 from rfl, if_neg (by rw [leI (by omega) (by omega)]; omega)]
    exact cm_w160 c hto lk hal ha (by omega) (fun h2 mw2 => cm_w144 c hto lk hal ha kk n (r + 1) h2 (by omega) mw2) 28 0 h' (by omega) mw
