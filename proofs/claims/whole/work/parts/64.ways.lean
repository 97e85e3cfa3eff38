/-! ===== ways: what a way is, step by step from its end ===== -/
def thr (N : HP) (ask ch : Nat) (o : Option Nat) (c : Nat) : Nat := match o with
  | none => c + ch
  | some w => wE N w c ask
def whr (N : HP) (o : Option Nat) (stop : Nat) : Nat := match o with
  | none => stop
  | some w => tn (N 23 w)
/-- a ride that can be the last one ahead of that walk, stop and time -/
def Cd (N : HP) (rs : List (Nat × Nat)) (lim ask : Nat) (Rr : Nat → Nat → Nat) (f : Nat) (o : Option Nat) (stop by' ch v i j : Nat) : Prop :=
  ∃ t d, Wt N rs lim v t d i j ∧ sA N t j = whr N o stop ∧ pz N (sA N t i) (sA N t j) ≤ f ∧ Rr (f - pz N (sA N t i) (sA N t j)) (sA N t i) ≤ lT N t d i ∧ thr N ask ch o (cT N t d j) ≤ by'
def lx (v i j v' i' j' : Nat) : Prop := v < v' ∨ v = v' ∧ (i < i' ∨ i = i' ∧ j < j')
def LR (C : Nat → Nat → Nat → Prop) (v i j : Nat) : Prop := C v i j ∧ ∀ v' i' j', lx v' i' j' v i j → ¬ C v' i' j'
theorem LR.uniq {C : Nat → Nat → Nat → Prop} {v i j v' i' j' : Nat} (h : LR C v i j) (h' : LR C v' i' j') : v = v' ∧ i = i' ∧ j = j' := by
  have a : ¬ lx v' i' j' v i j := fun z => h.2 v' i' j' z h'.1
  have b : ¬ lx v i j v' i' j' := fun z => h'.2 v i j z h.1
  unfold lx at a b
  omega
def LW (N : HP) (ask : Nat) (Er : Nat → Nat → Nat) (f stop by' ch : Nat) (o : Option Nat) : Prop := match o with
  | none => Er f stop + ch ≤ by'
  | some w => ¬ Er f stop + ch ≤ by' ∧ w < nW N ∧ tn (N 24 w) = stop ∧ wE N w (Er f (tn (N 23 w))) ask ≤ by' ∧ ∀ w', w' < w → tn (N 24 w') = stop → ¬ wE N w' (Er f (tn (N 23 w'))) ask ≤ by'
theorem LW.uniq {N : HP} {ask f stop by' ch : Nat} {Er : Nat → Nat → Nat} {o o' : Option Nat} (h : LW N ask Er f stop by' ch o) (h' : LW N ask Er f stop by' ch o') : o = o' := by
  cases o with
  | none =>
    cases o' with
    | none => rfl
    | some w => exact absurd h h'.1
  | some w =>
    cases o' with
    | none => exact absurd h' h.1
    | some w' =>
      obtain ⟨_, _, h3, h4, h5⟩ := h
      obtain ⟨_, _, g3, g4, g5⟩ := h'
      rcases Nat.lt_trichotomy w w' with q | q | q
      · exact absurd h4 (g5 w q h3)
      · rw [q]
      · exact absurd g4 (h5 w' q g3)
/-- what lies ahead of a stop and a time can be done -/
def Fe (N : HP) (ask : Nat) (Er : Nat → Nat → Nat) (f stop by' ch : Nat) : Prop := Er f stop + ch ≤ by' ∨ ∃ w, w < nW N ∧ tn (N 24 w) = stop ∧ wE N w (Er f (tn (N 23 w))) ask ≤ by'
/-- all that both programs share when ways are asked for -/
def CxW (N : HP) (rs : List (Nat × Nat)) (lim ask frm : Nat) (E R : Nat → Nat → Nat → Nat) : Prop :=
  NetOK N ∧ PlOK N ∧ DP N rs lim (dear N) ask frm E R ∧ lim ≤ 400000 ∧ ask < lim ∧ rs.length ≤ 132 ∧ (∀ (v t d : Nat), rs[v]? = some (t, d) → d < 100 ∧ t < nT N) ∧ frm < nS N
theorem CxW.te {N : HP} {rs : List (Nat × Nat)} {lim ask frm : Nat} {E R : Nat → Nat → Nat → Nat} (c : CxW N rs lim ask frm E R) {r : Nat} (hr : r ≤ 3) : TE (E r) := c.2.2.1.up.te c.2.2.2.1 (by have := c.2.2.2.2.1; have := c.2.2.2.1; omega) r hr
theorem CxW.bg {N : HP} {rs : List (Nat × Nat)} {lim ask frm : Nat} {E R : Nat → Nat → Nat → Nat} (c : CxW N rs lim ask frm E R) {r : Nat} (hr : r ≤ 3) : Bg (dear N) r (E r) ∧ (r < 3 → Bg (dear N) r (R r)) := c.2.2.1.up.bg c.1 (Or.inr rfl) (fun v t d q => (c.2.2.2.2.2.2.1 v t d q).1) r hr
theorem CxW.R {N : HP} {rs : List (Nat × Nat)} {lim ask frm : Nat} {E R : Nat → Nat → Nat → Nat} (c : CxW N rs lim ask frm E R) {r : Nat} (hr : r < 3) (f s : Nat) : R r f s = NVR ∨ R r f s < 410000 := R_le c.1 (by have := c.2.2.2.2.1; have := c.2.2.2.1; omega) (c.te (by omega)) (fun f s => c.2.2.1.2.1 r f s hr) f s
theorem wE_ge {N : HP} (hN : NetOK N) {w : Nat} (hw : w < nW N) {t a : Nat} (h : t ≤ NVR) : t ≤ wE N w t a := by
  unfold wE
  have := wB_ge hN hw t a
  split <;> omega
theorem thr_ge {N : HP} (hN : NetOK N) {ask ch c : Nat} {o : Option Nat} (ho : ∀ w, o = some w → w < nW N) (hc : c ≤ NVR) : c ≤ thr N ask ch o c := by
  cases o with
  | none => exact Nat.le_add_right _ _
  | some w => exact wE_ge hN (ho w rfl) hc
/-- a walk, or none, that fits has a ride ahead of it -/
theorem Cd_ex {N : HP} {rs : List (Nat × Nat)} {lim ask frm : Nat} {E R : Nat → Nat → Nat → Nat} (c : CxW N rs lim ask frm E R) {r f stop by' ch : Nat} (hr : r < 3) (hb : by' < lim) {o : Option Nat} (lw : LW N ask (E (r + 1)) f stop by' ch o) : ∃ v i j, Cd N rs lim ask (R r) f o stop by' ch v i j := by
  have hN := c.1
  have hl := c.2.2.2.1
  have hv := NVRe
  have go : ∀ s, E (r + 1) f s < NVR → ∃ v t d i j, Wt N rs lim v t d i j ∧ sA N t j = s ∧ pz N (sA N t i) (sA N t j) ≤ f ∧ R r (f - pz N (sA N t i) (sA N t j)) (sA N t i) ≤ lT N t d i ∧ cT N t d j = E (r + 1) f s := by
    intro s hs
    rcases (c.2.2.1.2.2 r f s hr).1 with q | q
    · omega
    · obtain ⟨v, t, d, i, j, f', q1, _, q3, q4, q5, q6⟩ := q
      rw [pr_dear hN] at q4
      refine ⟨v, t, d, i, j, q1, q5, by omega, ?_, q6.symm⟩
      rw [show f - pz N (sA N t i) (sA N t j) = f' by omega]
      exact q3
  cases o with
  | none =>
    have lw : E (r + 1) f stop + ch ≤ by' := lw
    obtain ⟨v, t, d, i, j, q1, q2, q3, q4, q5⟩ := go stop (by omega)
    exact ⟨v, i, j, t, d, q1, q2, q3, q4, by show cT N t d j + ch ≤ by'; rw [q5]; exact lw⟩
  | some w =>
    obtain ⟨_, h2, h3, h4, _⟩ := lw
    have hs : E (r + 1) f (tn (N 23 w)) < NVR := by
      rcases c.te (r := r + 1) (by omega) f (tn (N 23 w)) with z | z
      · rw [z, wE_never] at h4
        omega
      · omega
    obtain ⟨v, t, d, i, j, q1, q2, q3, q4, q5⟩ := go _ hs
    exact ⟨v, i, j, t, d, q1, q2, q3, q4, by show wE N w (cT N t d j) ask ≤ by'; rw [q5]; exact h4⟩
/-- and the other way round: a ride ahead of it, and it fits -/
theorem Cd_fits {N : HP} {rs : List (Nat × Nat)} {lim ask frm : Nat} {E R : Nat → Nat → Nat → Nat} (c : CxW N rs lim ask frm E R) {r f stop by' ch v i j : Nat} (hr : r < 3) {o : Option Nat} (ho : ∀ w, o = some w → w < nW N) (q : Cd N rs lim ask (R r) f o stop by' ch v i j) : thr N ask ch o (E (r + 1) f (whr N o stop)) ≤ by' := by
  have hN := c.1
  have hl := c.2.2.2.1
  obtain ⟨t, d, q1, q2, q3, q4, q5⟩ := q
  have le : E (r + 1) f (whr N o stop) ≤ cT N t d j := by
    refine (c.2.2.1.2.2 r f _ hr).2 _ ⟨v, t, d, i, j, f - pz N (sA N t i) (sA N t j), q1, trivial, q4, ?_, q2, rfl⟩
    rw [pr_dear hN]
    omega
  refine Nat.le_trans ?_ q5
  cases o with
  | none => exact Nat.add_le_add_right le _
  | some w => exact wE_mono hN (ho w rfl) le (Nat.le_refl _) (c.te (by omega) _ _) (by have := c.2.2.2.2.1; omega)
/-- getting on: what is ahead of the ride can be done -/
theorem Fe_next {N : HP} {rs : List (Nat × Nat)} {lim ask frm : Nat} {E R : Nat → Nat → Nat → Nat} (c : CxW N rs lim ask frm E R) {r f s b : Nat} (hr : r < 3) (hb : b < lim) (h : R r f s ≤ b) : Fe N ask (E r) f s b (if r = 0 then 0 else tn (N 3 s)) := by
  have hl := c.2.2.2.1
  have hv := NVRe
  obtain ⟨y, h1, h2⟩ := ((c.2.2.1.2.1 r f s hr).iff (by omega)).mp h
  rcases h1 with ⟨_, _, e⟩ | ⟨w, w1, w2, _, e⟩
  · exact Or.inl (by rw [← e]; exact h2)
  · exact Or.inr ⟨w, w1, w2, by rw [← e]; exact h2⟩
theorem lT_lim {N : HP} (hN : NetOK N) {rs : List (Nat × Nat)} {lim v t d i j : Nat} (w : Wt N rs lim v t d i j) : lT N t d i < lim := Nat.lt_of_le_of_lt (lT_cT hN d w.2.1 w.2.2.1) w.2.2.2.2.2.2
/-! the whole way -/
def TR (N : HP) (rs : List (Nat × Nat)) (lim ask : Nat) (E R : Nat → Nat → Nat → Nat) (wk : Nat → Option Nat) (rv ri rj : Nat → Nat) : Nat → Nat → Nat → Nat → Nat → Prop
  | 0, f, stop, by', ch => LW N ask (E 0) f stop by' ch (wk 0)
  | r + 1, f, stop, by', ch => LW N ask (E (r + 1)) f stop by' ch (wk (r + 1)) ∧ LR (Cd N rs lim ask (R r) f (wk (r + 1)) stop by' ch) (rv (r + 1)) (ri (r + 1)) (rj (r + 1)) ∧ ∃ t d, rs[rv (r + 1)]? = some (t, d) ∧ TR N rs lim ask E R wk rv ri rj r (f - pz N (sA N t (ri (r + 1))) (sA N t (rj (r + 1)))) (sA N t (ri (r + 1))) (lT N t d (ri (r + 1))) (if r = 0 then 0 else tn (N 3 (sA N t (ri (r + 1)))))
theorem TR.uniq {N : HP} {rs : List (Nat × Nat)} {lim ask : Nat} {E R : Nat → Nat → Nat → Nat} {wk wk' : Nat → Option Nat} {rv ri rj rv' ri' rj' : Nat → Nat} : ∀ {r f stop by' ch : Nat}, TR N rs lim ask E R wk rv ri rj r f stop by' ch → TR N rs lim ask E R wk' rv' ri' rj' r f stop by' ch → (∀ k, k ≤ r → wk k = wk' k) ∧ ∀ k, 1 ≤ k → k ≤ r → rv k = rv' k ∧ ri k = ri' k ∧ rj k = rj' k
  | 0, f, stop, by', ch, h, h' => ⟨fun k hk => by rw [show k = 0 by omega]; exact LW.uniq h h', fun k h1 h2 => by omega⟩
  | r + 1, f, stop, by', ch, h, h' => by
    obtain ⟨a1, a2, t, d, a3, a4⟩ := h
    obtain ⟨b1, b2, t', d', b3, b4⟩ := h'
    have e1 := a1.uniq b1
    rw [← e1] at b2
    have e2 := a2.uniq b2
    obtain ⟨e2, e3, e4⟩ := e2
    rw [← e2, a3] at b3
    have e5 := Option.some.inj b3
    have e6 : t = t' := congrArg Prod.fst e5
    have e7 : d = d' := congrArg Prod.snd e5
    rw [← e6, ← e7, ← e3, ← e4] at b4
    have ih := TR.uniq a4 b4
    refine ⟨fun k hk => ?_, fun k h1 h2 => ?_⟩
    · by_cases z : k = r + 1
      · rw [z]; exact e1
      · exact ih.1 k (by omega)
    · by_cases z : k = r + 1
      · rw [z]; exact ⟨e2, e3, e4⟩
      · exact ih.2 k h1 (by omega)
/-- only what lies at and below r counts -/
theorem TR.cong {N : HP} {rs : List (Nat × Nat)} {lim ask : Nat} {E R : Nat → Nat → Nat → Nat} {wk wk' : Nat → Option Nat} {rv ri rj rv' ri' rj' : Nat → Nat} : ∀ {r f stop by' ch : Nat}, TR N rs lim ask E R wk rv ri rj r f stop by' ch → (∀ k, k ≤ r → wk k = wk' k) → (∀ k, 1 ≤ k → k ≤ r → rv k = rv' k ∧ ri k = ri' k ∧ rj k = rj' k) → TR N rs lim ask E R wk' rv' ri' rj' r f stop by' ch
  | 0, f, stop, by', ch, h, e, _ => by
    unfold TR at *
    rw [← e 0 (by omega)]
    exact h
  | r + 1, f, stop, by', ch, h, e, e2 => by
    unfold TR at h ⊢
    obtain ⟨a1, a2, t, d, a3, a4⟩ := h
    obtain ⟨z1, z2, z3⟩ := e2 (r + 1) (by omega) (by omega)
    rw [← e (r + 1) (by omega), ← z1, ← z2, ← z3]
    exact ⟨a1, a2, t, d, a3, a4.cong (fun k hk => e k (by omega)) (fun k h1 h2 => e2 k h1 (by omega))⟩
