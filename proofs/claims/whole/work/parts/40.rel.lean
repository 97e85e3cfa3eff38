/-! ===== the class's state and the reference's state are alike ===== -/
def rN (N : HP) : HP := fun k => if 2 ≤ k ∧ k ≤ 30 then N k else fun _ => 0
theorem tot_r (N : HP) : totN (rN N) = totN N := by
  funext n
  induction n with
  | zero => rfl
  | succ n ih =>
    simp only [totN]
    rw [ih]
    rfl
theorem NetOK.re (N : HP) : NetOK (rN N) = NetOK N := by
  unfold NetOK
  rw [tot_r]
  rfl
theorem NetOK.r1 {N : HP} (h : NetOK N) : NetOK (rN N) := by rw [NetOK.re]; exact h
theorem NetOK.r2 {N : HP} (h : NetOK (rN N)) : NetOK N := by rw [NetOK.re] at h; exact h
theorem NetOK.on {h N : HP} (hN : NetOK N) (he : ∀ k, 2 ≤ k → k ≤ 30 → h k = N k) : NetOK h := by
  have e : rN h = rN N := by
    funext k
    unfold rN
    by_cases c : 2 ≤ k ∧ k ≤ 30
    · rw [if_pos c, if_pos c]
      exact he k c.1 c.2
    · rw [if_neg c, if_neg c]
  exact NetOK.r2 (e ▸ NetOK.r1 hN)
def LegOK (N : HP) (l : Nat → Int32) : Prop :=
  (2 < (l 0).toInt ∧ (∃ w, w < nW N ∧ l 1 = nI w) ∧ l 6 = -1 ∧ l 7 = -1 ∧ l 8 = -1) ∨
  ∃ t d on off, t < nT N ∧ d < 100 ∧ on < off ∧ off < nC N t ∧ l 0 = N 12 t ∧ l 1 = nI t ∧ l 6 = nI d ∧ l 7 = nI on ∧ l 8 = nI off
def Gr (N N' : HP) : Prop := nW N ≤ nW N' ∧ nT N ≤ nT N' ∧ (∀ t, t < nT N → nC N t ≤ nC N' t) ∧ ∀ t, t < nT N → N' 12 t = N 12 t
theorem LegOK.gr {N N' : HP} {l : Nat → Int32} (h : LegOK N l) (g : Gr N N') : LegOK N' l := by
  rcases h with ⟨h0, ⟨w, hw, e1⟩, e⟩ | ⟨t, d, on, off, h1, h2, h3, h4, h5, h6⟩
  · exact Or.inl ⟨h0, ⟨w, by have := g.1; omega, e1⟩, e⟩
  · exact Or.inr ⟨t, d, on, off, by have := g.2.1; omega, h2, h3, by have := g.2.2.1 t h1; omega, by rw [g.2.2.2 t h1]; exact h5, h6⟩
def rds (l : Nat → Int32) (b n : Nat) : Nat := fa_cnt (fun q => decide ((l (b + 9 * q)).toInt ≤ 2)) n
def Way1 (h : HP) (a i : Nat) : Prop := ∃ k, k ≤ 7 ∧ h 55 (5 * i + 4) = nI k ∧ h 103 i = nI k ∧ h 55 (5 * i + 1) = h 100 i ∧ h 55 (5 * i + 2) = h 101 i ∧ h 55 (5 * i + 3) = h 102 i ∧ h 104 i = nI a ∧ (h 55 (5 * i) = if k = 0 then nI a else h 105 (63 * i + 4)) ∧ (∀ q, q < k → (∀ c, c < 9 → h 56 ((7 * i + q) * 9 + c) = h 105 (63 * i + 9 * q + c)) ∧ LegOK h (fun c => h 105 (63 * i + 9 * q + c))) ∧ rds (h 105) (63 * i) k ≤ 3
def WR (h : HP) : Prop := ∃ m a, m ≤ 58 ∧ a < 144000 ∧ h 54 9 = nI m ∧ h 67 41 = nI m ∧ h 54 10 = nI a ∧ ∀ i, i < m → Way1 h a i
def Tk1 (h : HP) (j : Nat) : Prop := ∃ k a, k ≤ 7 ∧ a < 144000 ∧ h 36 j = nI k ∧ h 107 j = nI k ∧ h 35 j = nI a ∧ h 108 j = nI a ∧ (h 37 j = 0 ↔ h 110 j = 0) ∧ (∀ q, q < k → h 38 (7 * j + q) = h 109 (63 * j + 9 * q + 1) ∧ h 39 (7 * j + q) = h 109 (63 * j + 9 * q + 6) ∧ h 40 (7 * j + q) = h 109 (63 * j + 9 * q + 7) ∧ h 41 (7 * j + q) = h 109 (63 * j + 9 * q + 8) ∧ LegOK h (fun c => h 109 (63 * j + 9 * q + c)) ∧ ∀ t d, h 109 (63 * j + 9 * q) = 1 ∨ h 109 (63 * j + 9 * q) = 2 → h 109 (63 * j + 9 * q + 1) = nI t → h 109 (63 * j + 9 * q + 6) = nI d → t < 24 → d < 100 → rowN h t d ≠ none) ∧ rds (h 109) (63 * j) k ≤ 3
def TKR (h : HP) : Prop := ∃ n, n ≤ 30 ∧ h 34 11 = nI n ∧ h 67 4 = nI n ∧ h 34 12 = nI (fa_cnt (fun j => decide (h 110 j = 0)) n) ∧ (∀ j, j < n → Tk1 h j) ∧ (pS h ≤ 3 * n ∧ (∀ j, 8 * pS h ≤ j → h 33 j = 0) ∧ ∀ j, n ≤ j → h 37 j = 0) ∧ ∀ t d k, t < 24 → d < 100 → k < 8 → -(3 * fa_cnt (fun j => !decide (h 110 j = 0)) n : Int) ≤ (h 93 ((100 * t + d) * 8 + k)).toInt ∧ (h 93 ((100 * t + d) * 8 + k)).toInt ≤ 3 * n
def Rel (h : HP) : Prop := NetOK h ∧ PlOK h ∧ OnM h h ∧ h 67 58 = h 0 10 ∧ WR h ∧ TKR h
/-- the cells that the ways, the tickets and the places live in -/
def rC' : List Nat := [31, 32, 33, 34, 35, 36, 37, 38, 39, 40, 41, 54, 55, 56, 93, 100, 101, 102, 103, 104, 105, 107, 108, 109, 110]
def rC : List Nat := 0 :: rC'
def Kq (h h' : HP) : Prop := (∀ k ∈ rC', h' k = h k) ∧ h' 67 4 = h 67 4 ∧ h' 67 41 = h 67 41
theorem Kq.c {h h' : HP} (p : Kq h h') (k : Nat) (hk : k ∈ rC' := by decide) : h' k = h k := p.1 k hk
def Kp (h h' : HP) : Prop := (∀ k ∈ rC, h' k = h k) ∧ h' 67 4 = h 67 4 ∧ h' 67 41 = h 67 41 ∧ h' 67 58 = h 67 58
theorem Kp.c {h h' : HP} (p : Kp h h') (k : Nat) (hk : k ∈ rC := by decide) : h' k = h k := p.1 k hk
theorem Kp.q {h h' : HP} (p : Kp h h') : Kq h h' := ⟨fun k hk => p.1 k (List.mem_cons_of_mem _ hk), p.2.1, p.2.2.1⟩
theorem rowN_c {h h' : HP} (e1 : h' 31 = h 31) (e2 : h' 32 = h 32) (t d : Nat) : rowN h' t d = rowN h t d := by
  have e : ∀ m n key, fr h' key m n = fr h key m n := by
    intro m
    induction m with
    | zero => intro n key; rfl
    | succ m ih =>
      intro n key
      simp only [fr]
      rw [e2, ih]
  unfold rowN pS
  rw [e, e1]
theorem tkN_c {h h' : HP} (e1 : h' 31 = h 31) (e2 : h' 32 = h 32) (e3 : h' 33 = h 33) (t d k : Nat) : tkN h' t d k = tkN h t d k := by
  unfold tkN
  rw [rowN_c e1 e2, e3]
theorem WR.kp {h h' : HP} (r : WR h) (p : Kq h h') (g : Gr h h') : WR h' := by
  obtain ⟨m, a, h1, h2, h3, h4, h5, h6⟩ := r
  refine ⟨m, a, h1, h2, by rw [p.c 54]; exact h3, by rw [p.2.2]; exact h4, by rw [p.c 54]; exact h5, fun i hi => ?_⟩
  obtain ⟨k, q1, q2, q3, q4, q5, q6, q7, q8, q9, q10⟩ := h6 i hi
  unfold Way1
  rw [p.c 55, p.c 103, p.c 100, p.c 101, p.c 102, p.c 104, p.c 105, p.c 56]
  exact ⟨k, q1, q2, q3, q4, q5, q6, q7, q8, fun q hq => ⟨(q9 q hq).1, (q9 q hq).2.gr g⟩, q10⟩
theorem TKR.kp {h h' : HP} (r : TKR h) (p : Kq h h') (g : Gr h h') : TKR h' := by
  obtain ⟨n, h1, h2, h3, h4, h5, h6, h7⟩ := r
  refine ⟨n, h1, by rw [p.c 34]; exact h2, by rw [p.2.1]; exact h3, by rw [p.c 34, p.c 110]; exact h4, fun j hj => ?_, by unfold pS; rw [p.c 31, p.c 33, p.c 37]; exact h6, by rw [p.c 93, p.c 110]; exact h7⟩
  obtain ⟨k, a, q1, q2, q3, q4, q5, q6, q7, q8, q9⟩ := h5 j hj
  unfold Tk1
  rw [p.c 36, p.c 107, p.c 35, p.c 108, p.c 37, p.c 110, p.c 109, p.c 38, p.c 39, p.c 40, p.c 41]
  refine ⟨k, a, q1, q2, q3, q4, q5, q6, q7, fun q hq => ?_, q9⟩
  obtain ⟨f1, f2, f3, f4, f5, f6⟩ := q8 q hq
  refine ⟨f1, f2, f3, f4, f5.gr g, fun t d => ?_⟩
  rw [rowN_c (p.c 31) (p.c 32)]
  exact f6 t d
theorem Rel.kp {h h' : HP} (r : Rel h) (p : Kp h h') (g : Gr h h') (hN : NetOK h') (hm : OnM h' h') : Rel h' :=
  ⟨hN, by unfold PlOK; rw [p.c 31]; exact r.2.1, hm, by rw [p.2.2.2, p.c 0]; exact r.2.2.2.1, r.2.2.2.2.1.kp p.q g, r.2.2.2.2.2.kp p.q g⟩
theorem Gr.on {h h' : HP} (e : ∀ k, 2 ≤ k → k ≤ 30 → h' k = h k) : Gr h h' := by
  unfold Gr nW nT nC
  rw [e 22 (by decide) (by decide), e 11 (by decide) (by decide), e 15 (by decide) (by decide), e 12 (by decide) (by decide)]
  exact ⟨Nat.le_refl _, Nat.le_refl _, fun _ _ => Nat.le_refl _, fun _ _ => rfl⟩
theorem OnM.same {h h' : HP} (hm : OnM h h) (e : ∀ k, (2 ≤ k ∧ k ≤ 41) ∨ (68 ≤ k ∧ k ≤ 93) → h' k = h k) (e67 : ∀ j, j ≤ 3 → h' 67 j = h 67 j) : OnM h' h' := by
  have c : ∀ k, 2 ≤ k → k ≤ 41 → h' k = h k := fun k h1 h2 => e k (Or.inl ⟨h1, h2⟩)
  have d : ∀ k, 68 ≤ k → k ≤ 93 → h' k = h k := fun k h1 h2 => e k (Or.inr ⟨h1, h2⟩)
  refine ⟨fun q hq => ?_, ?_, ?_, ?_, ?_⟩
  · have hr : ∀ p ∈ mP, (68 ≤ p.1 ∧ p.1 ≤ 93) ∧ 2 ≤ p.2 ∧ p.2 ≤ 41 := by decide
    rw [d q.1 (hr q hq).1.1 (hr q hq).1.2, c q.2 (hr q hq).2.1 (hr q hq).2.2]
    exact hm.1 q hq
  · rw [e67 0 (by decide), e67 1 (by decide), e67 2 (by decide), e67 3 (by decide), c 2 (by decide) (by decide), c 11 (by decide) (by decide), c 22 (by decide) (by decide), c 6 (by decide) (by decide)]
    exact hm.2.1
  · rw [d 79 (by decide) (by decide), c 16 (by decide) (by decide)]
    exact hm.2.2.1
  · rw [d 80 (by decide) (by decide), c 21 (by decide) (by decide)]
    exact hm.2.2.2.1
  · intro t dd k h1 h2 h3
    rw [d 93 (by decide) (by decide), tkN_c (c 31 (by decide) (by decide)) (c 32 (by decide) (by decide)) (c 33 (by decide) (by decide))]
    exact hm.2.2.2.2 t dd k h1 h2 h3
/-- a question changes nothing that lasts -/
theorem Rel.same {h h' : HP} (r : Rel h) (e : ∀ k, (2 ≤ k ∧ k ≤ 41) ∨ (68 ≤ k ∧ k ≤ 93) → h' k = h k) (e67 : ∀ j, j ≤ 3 → h' 67 j = h 67 j) (p : Kp h h') : Rel h' :=
  r.kp p (Gr.on fun k h1 h2 => e k (Or.inl ⟨h1, by omega⟩)) (r.1.on fun k h1 h2 => e k (Or.inl ⟨h1, by omega⟩)) (r.2.2.1.same e e67)
