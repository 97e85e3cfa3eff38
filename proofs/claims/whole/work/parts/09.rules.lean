theorem V_iconst {G : GA} {i : MI} {pc : Nat} {L : List (Nat × Value)} {st : List Value} {h : HP} {Q : Option Value → HP → Prop} {n : Int} {v : Int32} (hd : decode i.2.1 pc = .ok (.iconst n, 1)) (hv : Int32.ofInt n = v) (k : V G i (pc + 1) L (.int v :: st) h Q) : V G i pc L (st) h Q := by
  intro p l e s m args below meth c H locs ls C hP hS hl
  exact lv_iconst C.1 C.2.1 hd hv (k p l e s m args below meth c H locs ls C hP hS hl)
theorem V_bipush {G : GA} {i : MI} {pc : Nat} {L : List (Nat × Value)} {st : List Value} {h : HP} {Q : Option Value → HP → Prop} {n : Int} {v : Int32} (hd : decode i.2.1 pc = .ok (.bipush n, 2)) (hv : (Int8.ofInt n).toInt32 = v) (k : V G i (pc + 2) L (.int v :: st) h Q) : V G i pc L (st) h Q := by
  intro p l e s m args below meth c H locs ls C hP hS hl
  exact lv_bipush C.1 C.2.1 hd hv (k p l e s m args below meth c H locs ls C hP hS hl)
theorem V_sipush {G : GA} {i : MI} {pc : Nat} {L : List (Nat × Value)} {st : List Value} {h : HP} {Q : Option Value → HP → Prop} {n : Int} {v : Int32} (hd : decode i.2.1 pc = .ok (.sipush n, 3)) (hv : (Int16.ofInt n).toInt32 = v) (k : V G i (pc + 3) L (.int v :: st) h Q) : V G i pc L (st) h Q := by
  intro p l e s m args below meth c H locs ls C hP hS hl
  exact lv_sipush C.1 C.2.1 hd hv (k p l e s m args below meth c H locs ls C hP hS hl)
theorem V_ldc {G : GA} {i : MI} {pc : Nat} {L : List (Nat × Value)} {st : List Value} {h : HP} {Q : Option Value → HP → Prop} {idx : Nat} {v : Int32} (hd : decode i.2.1 pc = .ok (.ldc idx, 2)) (hw : Cond.constant i.1.cls idx v ∈ lwg) (k : V G i (pc + 2) L (.int v :: st) h Q) : V G i pc L (st) h Q := by
  intro p l e s m args below meth c H locs ls C hP hS hl
  exact lv_ldc C.1 C.2.1 C.2.2.2.2.2.1 (C.2.2.2.2.2.2.1 _ (List.mem_cons_of_mem _ hw)) hd (k p l e s m args below meth c H locs ls C hP hS hl)
theorem V_iload_n {G : GA} {i : MI} {pc : Nat} {L : List (Nat × Value)} {st : List Value} {h : HP} {Q : Option Value → HP → Prop} {n : Fin 4} {j q : Nat} {x : Int32} (hd : decode i.2.1 pc = .ok (.iload_n n, 1)) (hn : (n : Nat) = j) (hL : L[q]? = some (j, .int x)) (k : V G i (pc + 1) L (.int x :: st) h Q) : V G i pc L (st) h Q := by
  intro p l e s m args below meth c H locs ls C hP hS hl
  exact lv_iload_n C.1 C.2.1 hd hn (lv_at hl q hL) (k p l e s m args below meth c H locs ls C hP hS hl)
theorem V_iload {G : GA} {i : MI} {pc : Nat} {L : List (Nat × Value)} {st : List Value} {h : HP} {Q : Option Value → HP → Prop} {j q : Nat} {x : Int32} (hd : decode i.2.1 pc = .ok (.iload j, 2)) (hL : L[q]? = some (j, .int x)) (k : V G i (pc + 2) L (.int x :: st) h Q) : V G i pc L (st) h Q := by
  intro p l e s m args below meth c H locs ls C hP hS hl
  exact lv_iload C.1 C.2.1 hd (lv_at hl q hL) (k p l e s m args below meth c H locs ls C hP hS hl)
theorem V_aload_n {G : GA} {i : MI} {pc : Nat} {L : List (Nat × Value)} {st : List Value} {h : HP} {Q : Option Value → HP → Prop} {n : Fin 4} {j q : Nat} {x : Nat} (hd : decode i.2.1 pc = .ok (.aload_n n, 1)) (hn : (n : Nat) = j) (hL : L[q]? = some (j, .ref x)) (k : V G i (pc + 1) L (.ref x :: st) h Q) : V G i pc L (st) h Q := by
  intro p l e s m args below meth c H locs ls C hP hS hl
  exact lv_aload_n C.1 C.2.1 hd hn (lv_at hl q hL) (k p l e s m args below meth c H locs ls C hP hS hl)
theorem V_aload {G : GA} {i : MI} {pc : Nat} {L : List (Nat × Value)} {st : List Value} {h : HP} {Q : Option Value → HP → Prop} {j q : Nat} {x : Nat} (hd : decode i.2.1 pc = .ok (.aload j, 2)) (hL : L[q]? = some (j, .ref x)) (k : V G i (pc + 2) L (.ref x :: st) h Q) : V G i pc L (st) h Q := by
  intro p l e s m args below meth c H locs ls C hP hS hl
  exact lv_aload C.1 C.2.1 hd (lv_at hl q hL) (k p l e s m args below meth c H locs ls C hP hS hl)
def lset (j : Nat) (v : Value) (L : List (Nat × Value)) : List (Nat × Value) := cond (L.any (fun q => Nat.beq q.1 j)) (L.map (fun q => cond (Nat.beq q.1 j) (j, v) q)) (L ++ [(j, v)])
def cat1 (L : List (Nat × Value)) : Bool := L.all (fun q => q.2.category == 1)
theorem lset_mem {j : Nat} {v : Value} {L : List (Nat × Value)} {q : Nat × Value} (h : q ∈ lset j v L) : q = (j, v) ∨ (q ∈ L ∧ q.1 ≠ j) := by
  unfold lset at h
  cases ha : L.any (fun q => Nat.beq q.1 j) with
  | true =>
    rw [ha] at h
    simp only [cond_true] at h
    obtain ⟨r, hr, e⟩ := List.mem_map.mp h
    cases hb : Nat.beq r.1 j with
    | true => rw [hb] at e; exact Or.inl e.symm
    | false =>
      rw [hb] at e
      simp only [cond_false] at e
      rw [← e]
      exact Or.inr ⟨hr, Nat.ne_of_beq_eq_false hb⟩
  | false =>
    rw [ha] at h
    simp only [cond_false] at h
    rcases List.mem_append.mp h with h1 | h1
    · refine Or.inr ⟨h1, ?_⟩
      have := List.any_eq_false.mp ha q h1
      simpa using this
    · exact Or.inl (List.mem_singleton.mp h1)
theorem lset_has {ls' : Array Slot} {nL j : Nat} {v : Value} {L : List (Nat × Value)} (hc : cat1 L = true) (h : lv_has ls' nL ((j, v) :: L.filter (fun q => !(q.1 == j) && !(q.1 + 1 == j && q.2.category == 2)))) : lv_has ls' nL (lset j v L) := by
  refine ⟨h.1, h.2.1, fun q hq => ?_⟩
  rcases lset_mem hq with e | ⟨e1, e2⟩
  · rw [e]; exact h.2.2 _ List.mem_cons_self
  · refine h.2.2 _ (List.mem_cons_of_mem _ (List.mem_filter.mpr ⟨e1, ?_⟩))
    have h1 := List.all_eq_true.mp hc q e1
    have h2 : q.2.category = 1 := by simpa using h1
    simp [e2, h2]
theorem V_istore_n {G : GA} {i : MI} {pc : Nat} {L : List (Nat × Value)} {st : List Value} {h : HP} {Q : Option Value → HP → Prop} {n : Fin 4} {j : Nat} {x : Int32} {L' : List (Nat × Value)} (hd : decode i.2.1 pc = .ok (.istore_n n, 1)) (hn : (n : Nat) = j) (hj : j < i.2.2.1) (hc : cat1 L = true) (hL : lset j (.int x) L = L') (k : V G i (pc + 1) L' st h Q) : V G i pc L (.int x :: st) h Q := by
  intro p l e s m args below meth c H locs ls C hP hS hl
  exact lv_istore_n C.1 C.2.1 hd hn hl hj rfl (fun ls' hl' => k p l e s m args below meth c H locs ls' C hP hS (hL ▸ lset_has hc hl'))
theorem V_istore {G : GA} {i : MI} {pc : Nat} {L : List (Nat × Value)} {st : List Value} {h : HP} {Q : Option Value → HP → Prop} {j : Nat} {x : Int32} {L' : List (Nat × Value)} (hd : decode i.2.1 pc = .ok (.istore j, 2)) (hj : j < i.2.2.1) (hc : cat1 L = true) (hL : lset j (.int x) L = L') (k : V G i (pc + 2) L' st h Q) : V G i pc L (.int x :: st) h Q := by
  intro p l e s m args below meth c H locs ls C hP hS hl
  exact lv_istore C.1 C.2.1 hd hl hj rfl (fun ls' hl' => k p l e s m args below meth c H locs ls' C hP hS (hL ▸ lset_has hc hl'))
theorem V_astore_n {G : GA} {i : MI} {pc : Nat} {L : List (Nat × Value)} {st : List Value} {h : HP} {Q : Option Value → HP → Prop} {n : Fin 4} {j : Nat} {x : Nat} {L' : List (Nat × Value)} (hd : decode i.2.1 pc = .ok (.astore_n n, 1)) (hn : (n : Nat) = j) (hj : j < i.2.2.1) (hc : cat1 L = true) (hL : lset j (.ref x) L = L') (k : V G i (pc + 1) L' st h Q) : V G i pc L (.ref x :: st) h Q := by
  intro p l e s m args below meth c H locs ls C hP hS hl
  exact lv_astore_n C.1 C.2.1 hd hn hl hj rfl (fun ls' hl' => k p l e s m args below meth c H locs ls' C hP hS (hL ▸ lset_has hc hl'))
theorem V_astore {G : GA} {i : MI} {pc : Nat} {L : List (Nat × Value)} {st : List Value} {h : HP} {Q : Option Value → HP → Prop} {j : Nat} {x : Nat} {L' : List (Nat × Value)} (hd : decode i.2.1 pc = .ok (.astore j, 2)) (hj : j < i.2.2.1) (hc : cat1 L = true) (hL : lset j (.ref x) L = L') (k : V G i (pc + 2) L' st h Q) : V G i pc L (.ref x :: st) h Q := by
  intro p l e s m args below meth c H locs ls C hP hS hl
  exact lv_astore C.1 C.2.1 hd hl hj rfl (fun ls' hl' => k p l e s m args below meth c H locs ls' C hP hS (hL ▸ lset_has hc hl'))
theorem V_iinc {G : GA} {i : MI} {pc : Nat} {L : List (Nat × Value)} {st : List Value} {h : HP} {Q : Option Value → HP → Prop} {j q : Nat} {n : Int} {x a : Int32} {L' : List (Nat × Value)} (hd : decode i.2.1 pc = .ok (.iinc j n, 3)) (hq : L[q]? = some (j, .int x)) (ha : Int32.ofInt n = a) (hj : j < i.2.2.1) (hc : cat1 L = true) (hL : lset j (.int (x + a)) L = L') (k : V G i (pc + 3) L' st h Q) : V G i pc L st h Q := by
  intro p l e s m args below meth c H locs ls C hP hS hl
  exact lv_iinc C.1 C.2.1 hd hl hq (by rw [ha]) hj rfl (fun ls' hl' => k p l e s m args below meth c H locs ls' C hP hS (hL ▸ lset_has hc hl'))
theorem V_pick {G : GA} {i : MI} {pc : Nat} {L : List (Nat × Value)} {st : List Value} {h : HP} {Q : Option Value → HP → Prop} {L' : List (Nat × Value)} (ks : List Nat) (hk : lv_pick L ks = L') (k : V G i pc L' st h Q) : V G i pc L st h Q := by
  intro p l e s m args below meth c H locs ls C hP hS hl
  exact k p l e s m args below meth c H locs ls C hP hS (lv_sub hl ks hk)
theorem V_iadd {G : GA} {i : MI} {pc : Nat} {L : List (Nat × Value)} {st : List Value} {h : HP} {Q : Option Value → HP → Prop} {x y : Int32} (hd : decode i.2.1 pc = .ok (.iadd, 1)) (k : V G i (pc + 1) L (.int (x + y) :: st) h Q) : V G i pc L (.int y :: .int x :: st) h Q := by
  intro p l e s m args below meth c H locs ls C hP hS hl
  exact lv_iadd C.1 C.2.1 hd (k p l e s m args below meth c H locs ls C hP hS hl)
theorem V_isub {G : GA} {i : MI} {pc : Nat} {L : List (Nat × Value)} {st : List Value} {h : HP} {Q : Option Value → HP → Prop} {x y : Int32} (hd : decode i.2.1 pc = .ok (.isub, 1)) (k : V G i (pc + 1) L (.int (x - y) :: st) h Q) : V G i pc L (.int y :: .int x :: st) h Q := by
  intro p l e s m args below meth c H locs ls C hP hS hl
  exact lv_isub C.1 C.2.1 hd (k p l e s m args below meth c H locs ls C hP hS hl)
theorem V_imul {G : GA} {i : MI} {pc : Nat} {L : List (Nat × Value)} {st : List Value} {h : HP} {Q : Option Value → HP → Prop} {x y : Int32} (hd : decode i.2.1 pc = .ok (.imul, 1)) (k : V G i (pc + 1) L (.int (x * y) :: st) h Q) : V G i pc L (.int y :: .int x :: st) h Q := by
  intro p l e s m args below meth c H locs ls C hP hS hl
  exact lv_imul C.1 C.2.1 hd (k p l e s m args below meth c H locs ls C hP hS hl)
theorem V_iand {G : GA} {i : MI} {pc : Nat} {L : List (Nat × Value)} {st : List Value} {h : HP} {Q : Option Value → HP → Prop} {x y : Int32} (hd : decode i.2.1 pc = .ok (.iand, 1)) (k : V G i (pc + 1) L (.int (x &&& y) :: st) h Q) : V G i pc L (.int y :: .int x :: st) h Q := by
  intro p l e s m args below meth c H locs ls C hP hS hl
  exact lv_iand C.1 C.2.1 hd (k p l e s m args below meth c H locs ls C hP hS hl)
theorem V_ior {G : GA} {i : MI} {pc : Nat} {L : List (Nat × Value)} {st : List Value} {h : HP} {Q : Option Value → HP → Prop} {x y : Int32} (hd : decode i.2.1 pc = .ok (.ior, 1)) (k : V G i (pc + 1) L (.int (x ||| y) :: st) h Q) : V G i pc L (.int y :: .int x :: st) h Q := by
  intro p l e s m args below meth c H locs ls C hP hS hl
  exact lv_ior C.1 C.2.1 hd (k p l e s m args below meth c H locs ls C hP hS hl)
theorem V_ixor {G : GA} {i : MI} {pc : Nat} {L : List (Nat × Value)} {st : List Value} {h : HP} {Q : Option Value → HP → Prop} {x y : Int32} (hd : decode i.2.1 pc = .ok (.ixor, 1)) (k : V G i (pc + 1) L (.int (x ^^^ y) :: st) h Q) : V G i pc L (.int y :: .int x :: st) h Q := by
  intro p l e s m args below meth c H locs ls C hP hS hl
  exact lv_ixor C.1 C.2.1 hd (k p l e s m args below meth c H locs ls C hP hS hl)
theorem V_ishl {G : GA} {i : MI} {pc : Nat} {L : List (Nat × Value)} {st : List Value} {h : HP} {Q : Option Value → HP → Prop} {x y : Int32} (hd : decode i.2.1 pc = .ok (.ishl, 1)) (k : V G i (pc + 1) L (.int (x <<< (y &&& 31)) :: st) h Q) : V G i pc L (.int y :: .int x :: st) h Q := by
  intro p l e s m args below meth c H locs ls C hP hS hl
  exact lv_ishl C.1 C.2.1 hd (k p l e s m args below meth c H locs ls C hP hS hl)
theorem V_ishr {G : GA} {i : MI} {pc : Nat} {L : List (Nat × Value)} {st : List Value} {h : HP} {Q : Option Value → HP → Prop} {x y : Int32} (hd : decode i.2.1 pc = .ok (.ishr, 1)) (k : V G i (pc + 1) L (.int (x >>> (y &&& 31)) :: st) h Q) : V G i pc L (.int y :: .int x :: st) h Q := by
  intro p l e s m args below meth c H locs ls C hP hS hl
  exact lv_ishr C.1 C.2.1 hd (k p l e s m args below meth c H locs ls C hP hS hl)
theorem V_iushr {G : GA} {i : MI} {pc : Nat} {L : List (Nat × Value)} {st : List Value} {h : HP} {Q : Option Value → HP → Prop} {x y : Int32} (hd : decode i.2.1 pc = .ok (.iushr, 1)) (k : V G i (pc + 1) L (.int ((x.toUInt32 >>> (y.toUInt32 &&& Int32.toUInt32 31)).toInt32) :: st) h Q) : V G i pc L (.int y :: .int x :: st) h Q := by
  intro p l e s m args below meth c H locs ls C hP hS hl
  exact lv_iushr C.1 C.2.1 hd rfl (k p l e s m args below meth c H locs ls C hP hS hl)
theorem V_ineg {G : GA} {i : MI} {pc : Nat} {L : List (Nat × Value)} {st : List Value} {h : HP} {Q : Option Value → HP → Prop} {x : Int32} (hd : decode i.2.1 pc = .ok (.ineg, 1)) (k : V G i (pc + 1) L (.int (-x) :: st) h Q) : V G i pc L (.int x :: st) h Q := by
  intro p l e s m args below meth c H locs ls C hP hS hl
  exact lv_ineg C.1 C.2.1 hd (k p l e s m args below meth c H locs ls C hP hS hl)
theorem V_idiv {G : GA} {i : MI} {pc : Nat} {L : List (Nat × Value)} {st : List Value} {h : HP} {Q : Option Value → HP → Prop} {x y : Int32} (hd : decode i.2.1 pc = .ok (.idiv, 1)) (hne : ¬ y = 0) (k : V G i (pc + 1) L (.int (x / y) :: st) h Q) : V G i pc L (.int y :: .int x :: st) h Q := by
  intro p l e s m args below meth c H locs ls C hP hS hl
  exact lv_idiv C.1 C.2.1 hd hne (k p l e s m args below meth c H locs ls C hP hS hl)
theorem V_irem {G : GA} {i : MI} {pc : Nat} {L : List (Nat × Value)} {st : List Value} {h : HP} {Q : Option Value → HP → Prop} {x y : Int32} (hd : decode i.2.1 pc = .ok (.irem, 1)) (hne : ¬ y = 0) (k : V G i (pc + 1) L (.int (x - x / y * y) :: st) h Q) : V G i pc L (.int y :: .int x :: st) h Q := by
  intro p l e s m args below meth c H locs ls C hP hS hl
  exact lv_irem C.1 C.2.1 hd hne (k p l e s m args below meth c H locs ls C hP hS hl)
theorem V_i2l {G : GA} {i : MI} {pc : Nat} {L : List (Nat × Value)} {st : List Value} {h : HP} {Q : Option Value → HP → Prop} {x : Int32} (hd : decode i.2.1 pc = .ok (.i2l, 1)) (k : V G i (pc + 1) L (.long x.toInt64 :: st) h Q) : V G i pc L (.int x :: st) h Q := by
  intro p l e s m args below meth c H locs ls C hP hS hl
  exact lv_i2l C.1 C.2.1 hd rfl (k p l e s m args below meth c H locs ls C hP hS hl)
theorem V_ladd {G : GA} {i : MI} {pc : Nat} {L : List (Nat × Value)} {st : List Value} {h : HP} {Q : Option Value → HP → Prop} {x y : Int64} (hd : decode i.2.1 pc = .ok (.ladd, 1)) (k : V G i (pc + 1) L (.long (x + y) :: st) h Q) : V G i pc L (.long y :: .long x :: st) h Q := by
  intro p l e s m args below meth c H locs ls C hP hS hl
  exact lv_ladd C.1 C.2.1 hd (k p l e s m args below meth c H locs ls C hP hS hl)
theorem V_lcmp {G : GA} {i : MI} {pc : Nat} {L : List (Nat × Value)} {st : List Value} {h : HP} {Q : Option Value → HP → Prop} {x y : Int64} (hd : decode i.2.1 pc = .ok (.lcmp, 1)) (k : V G i (pc + 1) L (.int (lg_cmp x y) :: st) h Q) : V G i pc L (.long y :: .long x :: st) h Q := by
  intro p l e s m args below meth c H locs ls C hP hS hl
  exact W.lcmp C.1 C.2.1 hd (k p l e s m args below meth c H locs ls C hP hS hl)
theorem V_dup {G : GA} {i : MI} {pc : Nat} {L : List (Nat × Value)} {st : List Value} {h : HP} {Q : Option Value → HP → Prop} {a : Value} (hd : decode i.2.1 pc = .ok (.dup, 1)) (ha : a.category = 1) (k : V G i (pc + 1) L (a :: a :: st) h Q) : V G i pc L (a :: st) h Q := by
  intro p l e s m args below meth c H locs ls C hP hS hl
  exact lv_dup C.1 C.2.1 hd ha (k p l e s m args below meth c H locs ls C hP hS hl)
theorem V_dup_x1 {G : GA} {i : MI} {pc : Nat} {L : List (Nat × Value)} {st : List Value} {h : HP} {Q : Option Value → HP → Prop} {a b : Value} (hd : decode i.2.1 pc = .ok (.dup_x1, 1)) (ha : a.category = 1) (hb : b.category = 1) (k : V G i (pc + 1) L (a :: b :: a :: st) h Q) : V G i pc L (a :: b :: st) h Q := by
  intro p l e s m args below meth c H locs ls C hP hS hl
  exact lv_dup_x1 C.1 C.2.1 hd ha hb (k p l e s m args below meth c H locs ls C hP hS hl)
theorem V_dup2 {G : GA} {i : MI} {pc : Nat} {L : List (Nat × Value)} {st : List Value} {h : HP} {Q : Option Value → HP → Prop} {a b : Value} (hd : decode i.2.1 pc = .ok (.dup2, 1)) (ha : a.category = 1) (hb : b.category = 1) (k : V G i (pc + 1) L (a :: b :: a :: b :: st) h Q) : V G i pc L (a :: b :: st) h Q := by
  intro p l e s m args below meth c H locs ls C hP hS hl
  exact lv_dup2_11 C.1 C.2.1 hd ha hb (k p l e s m args below meth c H locs ls C hP hS hl)
theorem V_goto {G : GA} {i : MI} {pc : Nat} {L : List (Nat × Value)} {st : List Value} {h : HP} {Q : Option Value → HP → Prop} {off : Int} {tgt : Nat} (hd : decode i.2.1 pc = .ok (.goto off, 3)) (ht : (pc : Int) + off = (tgt : Int)) (k : V G i tgt L st h Q) : V G i pc L (st) h Q := by
  intro p l e s m args below meth c H locs ls C hP hS hl
  exact lv_goto C.1 C.2.1 hd ht (k p l e s m args below meth c H locs ls C hP hS hl)
theorem V_if_eq {G : GA} {i : MI} {pc : Nat} {L : List (Nat × Value)} {st : List Value} {h : HP} {Q : Option Value → HP → Prop} {x : Int32} {off : Int} {tgt : Nat} (hd : decode i.2.1 pc = .ok (.ifCond .eq off, 3)) (ht : (pc : Int) + off = (tgt : Int)) (kt : (x = 0) → V G i tgt L st h Q) (kf : ¬ x = 0 → V G i (pc + 3) L st h Q) : V G i pc L (.int x :: st) h Q := by
  intro p l e s m args below meth c H locs ls C hP hS hl
  exact lv_if_eq C.1 C.2.1 hd ht (fun q => kt q p l e s m args below meth c H locs ls C hP hS hl) (fun q => kf q p l e s m args below meth c H locs ls C hP hS hl)
theorem V_icmp_eq {G : GA} {i : MI} {pc : Nat} {L : List (Nat × Value)} {st : List Value} {h : HP} {Q : Option Value → HP → Prop} {x y : Int32} {off : Int} {tgt : Nat} (hd : decode i.2.1 pc = .ok (.if_icmp .eq off, 3)) (ht : (pc : Int) + off = (tgt : Int)) (kt : (x = y) → V G i tgt L st h Q) (kf : ¬ x = y → V G i (pc + 3) L st h Q) : V G i pc L (.int y :: .int x :: st) h Q := by
  intro p l e s m args below meth c H locs ls C hP hS hl
  exact lv_icmp_eq C.1 C.2.1 hd ht (fun q => kt q p l e s m args below meth c H locs ls C hP hS hl) (fun q => kf q p l e s m args below meth c H locs ls C hP hS hl)
theorem V_if_ne {G : GA} {i : MI} {pc : Nat} {L : List (Nat × Value)} {st : List Value} {h : HP} {Q : Option Value → HP → Prop} {x : Int32} {off : Int} {tgt : Nat} (hd : decode i.2.1 pc = .ok (.ifCond .ne off, 3)) (ht : (pc : Int) + off = (tgt : Int)) (kt : (¬ x = 0) → V G i tgt L st h Q) (kf : x = 0 → V G i (pc + 3) L st h Q) : V G i pc L (.int x :: st) h Q := by
  intro p l e s m args below meth c H locs ls C hP hS hl
  exact lv_if_ne C.1 C.2.1 hd ht (fun q => kt q p l e s m args below meth c H locs ls C hP hS hl) (fun q => kf q p l e s m args below meth c H locs ls C hP hS hl)
theorem V_icmp_ne {G : GA} {i : MI} {pc : Nat} {L : List (Nat × Value)} {st : List Value} {h : HP} {Q : Option Value → HP → Prop} {x y : Int32} {off : Int} {tgt : Nat} (hd : decode i.2.1 pc = .ok (.if_icmp .ne off, 3)) (ht : (pc : Int) + off = (tgt : Int)) (kt : (¬ x = y) → V G i tgt L st h Q) (kf : x = y → V G i (pc + 3) L st h Q) : V G i pc L (.int y :: .int x :: st) h Q := by
  intro p l e s m args below meth c H locs ls C hP hS hl
  exact lv_icmp_ne C.1 C.2.1 hd ht (fun q => kt q p l e s m args below meth c H locs ls C hP hS hl) (fun q => kf q p l e s m args below meth c H locs ls C hP hS hl)
theorem V_if_lt {G : GA} {i : MI} {pc : Nat} {L : List (Nat × Value)} {st : List Value} {h : HP} {Q : Option Value → HP → Prop} {x : Int32} {off : Int} {tgt : Nat} (hd : decode i.2.1 pc = .ok (.ifCond .lt off, 3)) (ht : (pc : Int) + off = (tgt : Int)) (kt : (x < 0) → V G i tgt L st h Q) (kf : ¬ x < 0 → V G i (pc + 3) L st h Q) : V G i pc L (.int x :: st) h Q := by
  intro p l e s m args below meth c H locs ls C hP hS hl
  exact lv_if_lt C.1 C.2.1 hd ht (fun q => kt q p l e s m args below meth c H locs ls C hP hS hl) (fun q => kf q p l e s m args below meth c H locs ls C hP hS hl)
theorem V_icmp_lt {G : GA} {i : MI} {pc : Nat} {L : List (Nat × Value)} {st : List Value} {h : HP} {Q : Option Value → HP → Prop} {x y : Int32} {off : Int} {tgt : Nat} (hd : decode i.2.1 pc = .ok (.if_icmp .lt off, 3)) (ht : (pc : Int) + off = (tgt : Int)) (kt : (x < y) → V G i tgt L st h Q) (kf : ¬ x < y → V G i (pc + 3) L st h Q) : V G i pc L (.int y :: .int x :: st) h Q := by
  intro p l e s m args below meth c H locs ls C hP hS hl
  exact lv_icmp_lt C.1 C.2.1 hd ht (fun q => kt q p l e s m args below meth c H locs ls C hP hS hl) (fun q => kf q p l e s m args below meth c H locs ls C hP hS hl)
theorem V_if_ge {G : GA} {i : MI} {pc : Nat} {L : List (Nat × Value)} {st : List Value} {h : HP} {Q : Option Value → HP → Prop} {x : Int32} {off : Int} {tgt : Nat} (hd : decode i.2.1 pc = .ok (.ifCond .ge off, 3)) (ht : (pc : Int) + off = (tgt : Int)) (kt : (0 ≤ x) → V G i tgt L st h Q) (kf : ¬ 0 ≤ x → V G i (pc + 3) L st h Q) : V G i pc L (.int x :: st) h Q := by
  intro p l e s m args below meth c H locs ls C hP hS hl
  exact lv_if_ge C.1 C.2.1 hd ht (fun q => kt q p l e s m args below meth c H locs ls C hP hS hl) (fun q => kf q p l e s m args below meth c H locs ls C hP hS hl)
theorem V_icmp_ge {G : GA} {i : MI} {pc : Nat} {L : List (Nat × Value)} {st : List Value} {h : HP} {Q : Option Value → HP → Prop} {x y : Int32} {off : Int} {tgt : Nat} (hd : decode i.2.1 pc = .ok (.if_icmp .ge off, 3)) (ht : (pc : Int) + off = (tgt : Int)) (kt : (y ≤ x) → V G i tgt L st h Q) (kf : ¬ y ≤ x → V G i (pc + 3) L st h Q) : V G i pc L (.int y :: .int x :: st) h Q := by
  intro p l e s m args below meth c H locs ls C hP hS hl
  exact lv_icmp_ge C.1 C.2.1 hd ht (fun q => kt q p l e s m args below meth c H locs ls C hP hS hl) (fun q => kf q p l e s m args below meth c H locs ls C hP hS hl)
theorem V_if_gt {G : GA} {i : MI} {pc : Nat} {L : List (Nat × Value)} {st : List Value} {h : HP} {Q : Option Value → HP → Prop} {x : Int32} {off : Int} {tgt : Nat} (hd : decode i.2.1 pc = .ok (.ifCond .gt off, 3)) (ht : (pc : Int) + off = (tgt : Int)) (kt : (0 < x) → V G i tgt L st h Q) (kf : ¬ 0 < x → V G i (pc + 3) L st h Q) : V G i pc L (.int x :: st) h Q := by
  intro p l e s m args below meth c H locs ls C hP hS hl
  exact lv_if_gt C.1 C.2.1 hd ht (fun q => kt q p l e s m args below meth c H locs ls C hP hS hl) (fun q => kf q p l e s m args below meth c H locs ls C hP hS hl)
theorem V_icmp_gt {G : GA} {i : MI} {pc : Nat} {L : List (Nat × Value)} {st : List Value} {h : HP} {Q : Option Value → HP → Prop} {x y : Int32} {off : Int} {tgt : Nat} (hd : decode i.2.1 pc = .ok (.if_icmp .gt off, 3)) (ht : (pc : Int) + off = (tgt : Int)) (kt : (y < x) → V G i tgt L st h Q) (kf : ¬ y < x → V G i (pc + 3) L st h Q) : V G i pc L (.int y :: .int x :: st) h Q := by
  intro p l e s m args below meth c H locs ls C hP hS hl
  exact lv_icmp_gt C.1 C.2.1 hd ht (fun q => kt q p l e s m args below meth c H locs ls C hP hS hl) (fun q => kf q p l e s m args below meth c H locs ls C hP hS hl)
theorem V_if_le {G : GA} {i : MI} {pc : Nat} {L : List (Nat × Value)} {st : List Value} {h : HP} {Q : Option Value → HP → Prop} {x : Int32} {off : Int} {tgt : Nat} (hd : decode i.2.1 pc = .ok (.ifCond .le off, 3)) (ht : (pc : Int) + off = (tgt : Int)) (kt : (x ≤ 0) → V G i tgt L st h Q) (kf : ¬ x ≤ 0 → V G i (pc + 3) L st h Q) : V G i pc L (.int x :: st) h Q := by
  intro p l e s m args below meth c H locs ls C hP hS hl
  exact lv_if_le C.1 C.2.1 hd ht (fun q => kt q p l e s m args below meth c H locs ls C hP hS hl) (fun q => kf q p l e s m args below meth c H locs ls C hP hS hl)
theorem V_icmp_le {G : GA} {i : MI} {pc : Nat} {L : List (Nat × Value)} {st : List Value} {h : HP} {Q : Option Value → HP → Prop} {x y : Int32} {off : Int} {tgt : Nat} (hd : decode i.2.1 pc = .ok (.if_icmp .le off, 3)) (ht : (pc : Int) + off = (tgt : Int)) (kt : (x ≤ y) → V G i tgt L st h Q) (kf : ¬ x ≤ y → V G i (pc + 3) L st h Q) : V G i pc L (.int y :: .int x :: st) h Q := by
  intro p l e s m args below meth c H locs ls C hP hS hl
  exact lv_icmp_le C.1 C.2.1 hd ht (fun q => kt q p l e s m args below meth c H locs ls C hP hS hl) (fun q => kf q p l e s m args below meth c H locs ls C hP hS hl)
theorem b2i_0 {b : Bool} : b2i b = 0 ↔ b = false := by cases b <;> decide
theorem V_ifb_eq {G : GA} {i : MI} {pc : Nat} {L : List (Nat × Value)} {st : List Value} {h : HP} {Q : Option Value → HP → Prop} {b : Bool} {off : Int} {tgt : Nat} (hd : decode i.2.1 pc = .ok (.ifCond .eq off, 3)) (ht : (pc : Int) + off = (tgt : Int)) (kt : ¬ b = true → V G i tgt L st h Q) (kf : b = true → V G i (pc + 3) L st h Q) : V G i pc L (.int (b2i b) :: st) h Q :=
  V_if_eq hd ht (fun q => kt (by cases b <;> simp_all [b2i])) (fun q => kf (by cases b <;> simp_all [b2i]))
theorem V_ifb_ne {G : GA} {i : MI} {pc : Nat} {L : List (Nat × Value)} {st : List Value} {h : HP} {Q : Option Value → HP → Prop} {b : Bool} {off : Int} {tgt : Nat} (hd : decode i.2.1 pc = .ok (.ifCond .ne off, 3)) (ht : (pc : Int) + off = (tgt : Int)) (kt : b = true → V G i tgt L st h Q) (kf : ¬ b = true → V G i (pc + 3) L st h Q) : V G i pc L (.int (b2i b) :: st) h Q :=
  V_if_ne hd ht (fun q => kt (by cases b <;> simp_all [b2i])) (fun q => kf (by cases b <;> simp_all [b2i]))
def FOK (own : String) (idx ci j : Nat) (Cn : String) (T : u_T) (N : Nat) : Prop := vwCl[ci]? = some (Cn, T, N) ∧ j < N ∧ (∀ w ∈ u_ws Cn T N, w ∈ lwg) ∧ Cond.fieldLink own idx (T j).1 (T j).2.1 (T j).2.2.1 ∈ lwg
def POK (T : u_T) (N j : Nat) : Prop := ∃ ty0 : Nat → FieldType, (∀ k, k < N → parseFieldDescriptor (T k).2.2.1 = some (ty0 k)) ∧ (∀ a, a < N → ∀ b, b < N → a ≠ b → (T a).2.1 ≠ (T b).2.1) ∧ (T j).2.2.2 = false ∧ parseFieldDescriptor (T j).2.2.1 = some .int
theorem V_getr {G : GA} {i : MI} {pc : Nat} {L : List (Nat × Value)} {st : List Value} {h : HP} {Q : Option Value → HP → Prop} {idx ci j k0 r : Nat} {Cn : String} {T : u_T} {N : Nat} {fl : List (Option Nat)} (hf : FOK i.1.cls idx ci j Cn T N) (hd : decode i.2.1 pc = .ok (.getfield idx, 3)) (hs : shape[k0]? = some (.inr (ci, fl))) (ho : fl[j]? = some (some r)) (k : V G i (pc + 3) L (.ref (G.1 r) :: st) h Q) : V G i pc L (.ref (G.1 k0) :: st) h Q := by
  intro p l e s m args below meth c H locs ls C hP hS hl
  exact va_get C.1 C.2.1 C.2.2.2.2.2.2.1 (fun w hw => List.mem_cons_of_mem _ (hf.2.2.1 w hw)) C.2.2.2.2.2.1 C.2.2.2.2.2.2.2.2.1 hP k0 (wd_get G h hs) hf.1 j hf.2.1 (C.2.2.2.2.2.2.1 _ (List.mem_cons_of_mem _ hf.2.2.2)) (fun _ h9 => h9) (ceF_get G (h k0) fl 0 j (some r) ho) hd (k p l e s m args below meth c H locs ls C hP hS hl)
theorem V_geti {G : GA} {i : MI} {pc : Nat} {L : List (Nat × Value)} {st : List Value} {h : HP} {Q : Option Value → HP → Prop} {idx ci j k0 : Nat} {Cn : String} {T : u_T} {N : Nat} {fl : List (Option Nat)} (hf : FOK i.1.cls idx ci j Cn T N) (hd : decode i.2.1 pc = .ok (.getfield idx, 3)) (hs : shape[k0]? = some (.inr (ci, fl))) (ho : fl[j]? = some none) (k : V G i (pc + 3) L (.int (h k0 j) :: st) h Q) : V G i pc L (.ref (G.1 k0) :: st) h Q := by
  intro p l e s m args below meth c H locs ls C hP hS hl
  exact va_get C.1 C.2.1 C.2.2.2.2.2.2.1 (fun w hw => List.mem_cons_of_mem _ (hf.2.2.1 w hw)) C.2.2.2.2.2.1 C.2.2.2.2.2.2.2.2.1 hP k0 (wd_get G h hs) hf.1 j hf.2.1 (C.2.2.2.2.2.2.1 _ (List.mem_cons_of_mem _ hf.2.2.2)) (fun _ h9 => h9) (by have := ceF_get G (h k0) fl 0 j none ho; rw [Nat.zero_add] at this; exact this) hd (k p l e s m args below meth c H locs ls C hP hS hl)
theorem V_put {G : GA} {i : MI} {pc : Nat} {L : List (Nat × Value)} {st : List Value} {h : HP} {Q : Option Value → HP → Prop} {idx ci j k0 : Nat} {Cn : String} {T : u_T} {N : Nat} {fl : List (Option Nat)} {x : Int32} (hf : FOK i.1.cls idx ci j Cn T N) (hp : POK T N j) (hd : decode i.2.1 pc = .ok (.putfield idx, 3)) (hs : shape[k0]? = some (.inr (ci, fl))) (ho : fl[j]? = some none) (k : V G i (pc + 3) L st (up h k0 j x) Q) : V G i pc L (.int x :: .ref (G.1 k0) :: st) h Q := by
  intro p l e s m args below meth c H locs ls C hP hS hl
  obtain ⟨ty0, hty, hnm, hfin, hpd⟩ := hp
  have hjl : j < (ceF G (h k0) 0 fl).length := by rw [ceF_len]; exact (List.getElem?_eq_some_iff.mp ho).1
  refine va_put C.1 C.2.1 C.2.2.2.2.2.2.1 (fun w hw => List.mem_cons_of_mem _ (hf.2.2.1 w hw)) ty0 hty hnm C.2.2.2.2.2.1 C.2.2.2.2.2.2.2.2.1 hP (wd_D G h C.2.2.2.2.2.2.2.1) hS k0 (wd_get G h hs) hf.1 j hf.2.1 (C.2.2.2.2.2.2.1 _ (List.mem_cons_of_mem _ hf.2.2.2)) (fun _ h9 => h9) hfin hpd rfl rfl hjl hd (fun H1 locs1 hP1 hD1 hS1 => ?_)
  refine k p l e s m args below meth c H1 locs1 ls C ?_ hS1 hl
  have e1 := ceF_set G (h k0) x fl 0 j ho
  have e2 := wd_set G h (upd (h k0) j x) hs
  rw [Nat.zero_add] at e1
  rw [e1] at hP1
  unfold up
  rw [← e2]
  exact hP1
theorem V_iald {G : GA} {i : MI} {pc : Nat} {L : List (Nat × Value)} {st : List Value} {h : HP} {Q : Option Value → HP → Prop} {k0 n : Nat} {x : Int32} (hd : decode i.2.1 pc = .ok (.iaload, 1)) (hs : shape[k0]? = some (.inl (n, false))) (hin : vp_in x n) (k : V G i (pc + 1) L (.int (h k0 (tn x)) :: st) h Q) : V G i pc L (.int x :: .ref (G.1 k0) :: st) h Q := by
  intro p l e s m args below meth c H locs ls C hP hS hl
  exact va_iald C.1 C.2.1 C.2.2.2.2.2.2.2.2.1 hP k0 0 (wd_get G h hs) rfl hin hd (k p l e s m args below meth c H locs ls C hP hS hl)
theorem V_zald {G : GA} {i : MI} {pc : Nat} {L : List (Nat × Value)} {st : List Value} {h : HP} {Q : Option Value → HP → Prop} {k0 n : Nat} {x : Int32} (hd : decode i.2.1 pc = .ok (.baload, 1)) (hs : shape[k0]? = some (.inl (n, true))) (hin : vp_in x n) (k : V G i (pc + 1) L (.int (h k0 (tn x)) :: st) h Q) : V G i pc L (.int x :: .ref (G.1 k0) :: st) h Q := by
  intro p l e s m args below meth c H locs ls C hP hS hl
  exact va_zald C.1 C.2.1 C.2.2.2.2.2.2.2.2.1 hP k0 1 (wd_get G h hs) rfl hin hd (k p l e s m args below meth c H locs ls C hP hS hl)
theorem V_iast {G : GA} {i : MI} {pc : Nat} {L : List (Nat × Value)} {st : List Value} {h : HP} {Q : Option Value → HP → Prop} {k0 n : Nat} {x y : Int32} (hd : decode i.2.1 pc = .ok (.iastore, 1)) (hs : shape[k0]? = some (.inl (n, false))) (hin : vp_in x n) (k : V G i (pc + 1) L st (up h k0 (tn x) y) Q) : V G i pc L (.int y :: .int x :: .ref (G.1 k0) :: st) h Q := by
  intro p l e s m args below meth c H locs ls C hP hS hl
  refine va_iast C.1 C.2.1 C.2.2.2.2.2.2.2.2.1 hP (wd_D G h C.2.2.2.2.2.2.2.1) hS k0 0 (wd_get G h hs) rfl hin hd (fun H1 locs1 hP1 hD1 hS1 => ?_)
  refine k p l e s m args below meth c H1 locs1 ls C ?_ hS1 hl
  have e2 := wd_set G h (upd (h k0) (tn x) y) hs
  unfold up
  rw [← e2]
  exact hP1
theorem nar_b2i (b : Bool) : vp_nar .boolean (b2i b) = b2i b := by cases b <;> rfl
theorem V_zast {G : GA} {i : MI} {pc : Nat} {L : List (Nat × Value)} {st : List Value} {h : HP} {Q : Option Value → HP → Prop} {k0 n : Nat} {x : Int32} {b : Bool} (hd : decode i.2.1 pc = .ok (.bastore, 1)) (hs : shape[k0]? = some (.inl (n, true))) (hin : vp_in x n) (k : V G i (pc + 1) L st (up h k0 (tn x) (b2i b)) Q) : V G i pc L (.int (b2i b) :: .int x :: .ref (G.1 k0) :: st) h Q := by
  intro p l e s m args below meth c H locs ls C hP hS hl
  refine va_zast C.1 C.2.1 C.2.2.2.2.2.2.2.2.1 hP (wd_D G h C.2.2.2.2.2.2.2.1) hS k0 1 (wd_get G h hs) rfl hin hd (fun H1 locs1 hP1 hD1 hS1 => ?_)
  refine k p l e s m args below meth c H1 locs1 ls C ?_ hS1 hl
  have e2 := wd_set G h (upd (h k0) (tn x) (b2i b)) hs
  rw [nar_b2i] at hP1
  unfold up
  rw [← e2]
  exact hP1
theorem V_alen {G : GA} {i : MI} {pc : Nat} {L : List (Nat × Value)} {st : List Value} {h : HP} {Q : Option Value → HP → Prop} {k0 n : Nat} {v : Int32} (hd : decode i.2.1 pc = .ok (.arraylength, 1)) (hs : shape[k0]? = some (.inl (n, false))) (hv : Int32.ofNat n = v) (k : V G i (pc + 1) L (.int v :: st) h Q) : V G i pc L (.ref (G.1 k0) :: st) h Q := by
  intro p l e s m args below meth c H locs ls C hP hS hl
  exact va_alen (ty := .int) C.1 C.2.1 C.2.2.2.2.2.2.2.2.1 hP k0 0 (wd_get G h hs) rfl hv hd (k p l e s m args below meth c H locs ls C hP hS hl)
-- answers
def qI (K : Int32 → HP → Prop) : Option Value → HP → Prop := fun v h => ∃ r : Int32, v = some (.int r) ∧ K r h
def qB (K : Bool → HP → Prop) : Option Value → HP → Prop := fun v h => ∃ r : Bool, v = some (.int (b2i r)) ∧ K r h
def qV (K : HP → Prop) : Option Value → HP → Prop := fun v h => v = none ∧ K h
theorem V_iret {G : GA} {i : MI} {pc : Nat} {L : List (Nat × Value)} {h : HP} {x : Int32} {K : Int32 → HP → Prop} (hr : i.2.2.2.1 = some .int) (hd : decode i.2.1 pc = .ok (.ireturn, 1)) (hk : K x h) : V G i pc L [.int x] h (qI K) := by
  intro p l e s m args below meth c H locs ls C hP hS hl
  exact W.iret (v := x) C.1 C.2.1 (C.2.2.2.1.trans hr) (fun t ht hW => ⟨⟨some (.int x), h, rfl, ⟨x, rfl, hk⟩, by rw [ht]; exact hP⟩, hS.F ht⟩) hS.2.2 hd (hlocks := C.2.2.2.2.1)
theorem V_zret {G : GA} {i : MI} {pc : Nat} {L : List (Nat × Value)} {h : HP} {b : Bool} {K : Bool → HP → Prop} (hr : i.2.2.2.1 = some .boolean) (hd : decode i.2.1 pc = .ok (.ireturn, 1)) (hk : K b h) : V G i pc L [.int (b2i b)] h (qB K) := by
  intro p l e s m args below meth c H locs ls C hP hS hl
  exact W.zret (v := b2i b) (ty := .boolean) C.1 C.2.1 (C.2.2.2.1.trans hr) (by cases b <;> rfl) (fun t ht hW => ⟨⟨some (.int (b2i b)), h, rfl, ⟨b, rfl, hk⟩, by rw [ht]; exact hP⟩, hS.F ht⟩) hS.2.2 hd (hlocks := C.2.2.2.2.1)
theorem V_vret {G : GA} {i : MI} {pc : Nat} {L : List (Nat × Value)} {h : HP} {K : HP → Prop} (hr : i.2.2.2.1 = none) (hd : decode i.2.1 pc = .ok (.return_, 1)) (hk : K h) : V G i pc L [] h (qV K) := by
  intro p l e s m args below meth c H locs ls C hP hS hl
  exact W.vret C.1 C.2.1 (C.2.2.2.1.trans hr) (fun t ht hW => ⟨⟨none, h, rfl, ⟨rfl, hk⟩, by rw [ht]; exact hP⟩, hS.F ht⟩) hS.2.2 hd (hlocks := C.2.2.2.2.1)
-- calls
def COK (i j : MI) (idx n : Nat) : Prop := cwO j ∈ lwg ∧ Cond.methodLink i.1.cls idx j.1 ∈ lwg ∧ Cond.initialized j.1.cls ∈ lwg ∧ (j.1.cls ≠ "java/lang/invoke/MethodHandle" ∧ j.1.cls ≠ "java/lang/invoke/VarHandle" ∧ (parseMethodDescriptor j.1.desc).map (fun d => d.parameters.length) = some n) ∧ ((rmO j).frames + 1 ≤ (rmO i).frames ∧ 8 + (j.2.2.1 + 11) + (rmO j).locals ≤ (rmO i).locals)
theorem PCO.blind (G : GA) (As : List Value) (h : HP) : FrameBlind (PCO G As h) := fun a U g mk q => ⟨q.1, q.2.1.calling, q.2.2⟩
theorem V_run {G : GA} {i : MI} {pc : Nat} {L : List (Nat × Value)} {st : List Value} {Q : Option Value → HP → Prop} {Q' : Option Value → HP → Prop} {rest : List Value} {p : Program} {l : Launch} {e : Env} {s : State} {m : MethodId} {args : Array Value} {below : List Frame} {meth : Method} {c : Code} {H : Heap} {locs : List Loc} {ls : Array Slot} {a : Array Value} (C : Cx G i p s m args meth c) (hS : va_S (AG G) s.heap H locs) (hl : lv_has ls i.2.2.1 L)
    (hr : va_Run p l e (rmO i) s m args below meth c H locs 0 0 0 0 (F0 m pc ls st) rest (QCO G Q' a) (AG G)) (kk : ∀ v h', Q' v h' → V G i (pc + 3) L (v.toList ++ rest) h' Q) :
    W p l e (rmO i) s m args below meth c H locs 0 0 (MQ below (QCO G Q) args s 0 0 (AG G)) (F0 m pc ls st) := by
  intro T hT X
  obtain ⟨v, st₀, t, T', Ls, h0, X', hL, e1, e2, ⟨⟨v', h', hv, hq, hP'⟩, hz, hk⟩, stp⟩ := hr T hT X
  cases hv
  rw [h0] at hz hk
  have hS' : va_S (AG G) s.heap T'.heap (locs ++ Ls) := ⟨Nat.le_trans hS.1 (by rw [e1]; exact hz), fun q h1 h2 => by rw [e1, hk q (Nat.lt_of_lt_of_le h1 hS.1) h2]; exact hS.2.1 q h1 h2, fun q hq => by
      rcases List.mem_append.mp hq with h | h
      · exact hS.2.2 q h
      · exact hL q h⟩
  obtain ⟨t2, a1, b1⟩ := kk v h' hq p l e s m args below meth c T'.heap (locs ++ Ls) ls C (by rw [e1]; exact hP') hS' hl T' rfl X'
  exact ⟨t2, stp t2 a1, b1⟩
theorem V_callV {G : GA} {i : MI} {pc : Nat} {L : List (Nat × Value)} {st : List Value} {h : HP} {Q : Option Value → HP → Prop} {Q' : Option Value → HP → Prop} {j : MI} {idx n k0 ci : Nat} {fl : List (Option Nat)} {r : vw_C} (As rest : List Value) (hc : COK i j idx n) (hin : Cond.instanceMethod j.1 ∈ lwg) (hse : Cond.selects j.1.cls j.1 j.1 ∈ lwg) (hd : decode i.2.1 pc = .ok (.invokevirtual idx, 3)) (hs : shape[k0]? = some (.inr (ci, fl))) (hcl : vwCl[ci]? = some r) (hrc : r.1 = j.1.cls) (hn : As.length = n) (hst : st = As.reverse ++ .ref (G.1 k0) :: rest) (hr : (rest.map fun v => v.category).sum ≤ 8)
    (t : Sp G j (.ref (G.1 k0) :: As) h Q') (kk : ∀ v h', Q' v h' → V G i (pc + 3) L (v.toList ++ rest) h' Q) : V G i pc L st h Q := by
  intro p l e s m args below meth c H locs ls C hP hS hl
  have hts := C.2.2.2.2.2.2.1
  have ok : ∀ {w : Cond}, w ∈ lwg → w.before args s = true := fun hw => hts _ (List.mem_cons_of_mem _ hw)
  have hK := C.2.2.2.2.2.2.2.2
  refine V_run (a := (Value.ref (G.1 k0) :: As).toArray) C hS hl (va_runV (As := As) (rest := rest) (b := G.1 k0) (C := j.1.cls) ⟨C.1, C.2.1, C.2.2.1, C.2.2.2.2.2.1, hts⟩ (t C.2.2.2.2.2.2.2.1 l) ⟨callB_of (bytes := j.2.1) (maxL := j.2.2.1) (ret := j.2.2.2.1) n hts (wsO_good hc.1) rfl rfl rfl (ok hc.2.2.1) (ok hc.2.1) hc.2.2.2.1 hc.2.2.2.2, ok hin, ok hse⟩ ⟨PCO.blind G _ h, hrc ▸ va_recv hK.1 hP hcl (wd_get G h hs), fun U hU hW => ⟨rfl, hK.warm hW, by rw [hU]; exact hP⟩⟩ rfl hn hl.1 hst (lv_room hr) hd ⟨Nat.le_refl _, Nat.le_refl _⟩) kk
theorem V_callS {G : GA} {i : MI} {pc : Nat} {L : List (Nat × Value)} {st : List Value} {h : HP} {Q : Option Value → HP → Prop} {Q' : Option Value → HP → Prop} {j : MI} {idx n : Nat} (As rest : List Value) (hc : COK i j idx n) (hstc : Cond.static j.1 ∈ lwg) (hd : decode i.2.1 pc = .ok (.invokestatic idx, 3)) (hn : As.length = n) (hst : st = As.reverse ++ rest) (hr : (rest.map fun v => v.category).sum ≤ 8)
    (t : Sp G j As h Q') (kk : ∀ v h', Q' v h' → V G i (pc + 3) L (v.toList ++ rest) h' Q) : V G i pc L st h Q := by
  intro p l e s m args below meth c H locs ls C hP hS hl
  have hts := C.2.2.2.2.2.2.1
  have ok : ∀ {w : Cond}, w ∈ lwg → w.before args s = true := fun hw => hts _ (List.mem_cons_of_mem _ hw)
  have hK := C.2.2.2.2.2.2.2.2
  refine V_run (a := As.toArray) C hS hl (va_runS (As := As) (rest := rest) ⟨C.1, C.2.1, C.2.2.1, C.2.2.2.2.2.1, hts⟩ (t C.2.2.2.2.2.2.2.1 l) ⟨callB_of (bytes := j.2.1) (maxL := j.2.2.1) (ret := j.2.2.2.1) n hts (wsO_good hc.1) rfl rfl rfl (ok hc.2.2.1) (ok hc.2.1) hc.2.2.2.1 hc.2.2.2.2, ok hstc⟩ ⟨PCO.blind G _ h, fun U hU hW => ⟨rfl, hK.warm hW, by rw [hU]; exact hP⟩⟩ rfl hn hl.1 hst (lv_room hr) hd ⟨Nat.le_refl _, Nat.le_refl _⟩) kk
def CNK (i j : MI) (idx n : Nat) : Prop := cwO j ∈ lwg ∧ Cond.methodLinkNest i.1.cls idx j.1 "ConnectionDesk" = nestw ∧ Cond.initialized j.1.cls ∈ lwg ∧ (j.1.cls ≠ "java/lang/invoke/MethodHandle" ∧ j.1.cls ≠ "java/lang/invoke/VarHandle" ∧ (parseMethodDescriptor j.1.desc).map (fun d => d.parameters.length) = some n) ∧ ((rmO j).frames + 1 ≤ (rmO i).frames ∧ 8 + (j.2.2.1 + 11) + (rmO j).locals ≤ (rmO i).locals)
theorem V_callSN {G : GA} {i : MI} {pc : Nat} {L : List (Nat × Value)} {st : List Value} {h : HP} {Q : Option Value → HP → Prop} {Q' : Option Value → HP → Prop} {j : MI} {idx n : Nat} (As rest : List Value) (hc : CNK i j idx n) (hstc : Cond.static j.1 ∈ lwg) (hd : decode i.2.1 pc = .ok (.invokestatic idx, 3)) (hn : As.length = n) (hst : st = As.reverse ++ rest) (hr : (rest.map fun v => v.category).sum ≤ 8)
    (t : Sp G j As h Q') (kk : ∀ v h', Q' v h' → V G i (pc + 3) L (v.toList ++ rest) h' Q) : V G i pc L st h Q := by
  intro p l e s m args below meth c H locs ls C hP hS hl
  have hts := C.2.2.2.2.2.2.1
  have ok : ∀ {w : Cond}, w ∈ lwg → w.before args s = true := fun hw => hts _ (List.mem_cons_of_mem _ hw)
  have hK := C.2.2.2.2.2.2.2.2
  refine V_run (a := As.toArray) C hS hl (va_runSN (As := As) (rest := rest) ⟨C.1, C.2.1, C.2.2.1, C.2.2.2.2.2.1, hts⟩ (t C.2.2.2.2.2.2.2.1 l) ⟨va_cnB (bytes := j.2.1) (maxL := j.2.2.1) (ret := j.2.2.2.1) n hts (wsO_good hc.1) rfl rfl rfl (by rw [hc.2.1]; exact hK.2) (ok hc.2.2.1) hc.2.2.2.1 hc.2.2.2.2, ok hstc, trivial⟩ ⟨PCO.blind G _ h, fun U hU hW => ⟨rfl, hK.warm hW, by rw [hU]; exact hP⟩⟩ rfl hn hl.1 hst (lv_room hr) hd ⟨Nat.le_refl _, Nat.le_refl _⟩) kk

theorem V_mmax {G : GA} {i : MI} {pc : Nat} {L : List (Nat × Value)} {st : List Value} {h : HP} {Q : Option Value → HP → Prop} {idx : Nat} {x y : Int32} (hl : Cond.methodLink i.1.cls idx Lib.Math.max.name ∈ lwg) (h1 : Cond.static Lib.Math.max.name ∈ lwg) (h2 : Cond.initialized "java/lang/Math" ∈ lwg) (h3 : Cond.code Lib.Math.max.name Lib.Math.max.code 2 (some .int) ∈ lwg) (hf : 1 ≤ i.2.2.2.2.1) (hlo : (st.map fun v => v.category).sum + 13 ≤ i.2.2.2.2.2) (hd : decode i.2.1 pc = .ok (.invokestatic idx, 3)) (k : V G i (pc + 3) L (.int (if x < y then y else x) :: st) h Q) : V G i pc L (.int y :: .int x :: st) h Q := by
  intro p l e s m args below meth c H locs ls C hP hS hls
  have ok : ∀ {w : Cond}, w ∈ lwg → w.before args s = true := fun hw => C.2.2.2.2.2.2.1 _ (List.mem_cons_of_mem _ hw)
  exact va_mmax C.1 C.2.1 (by rw [C.2.2.1]; exact hls.1.symm) C.2.2.2.2.2.1 (ok hl) (ok h1) (ok h2) (ok h3) hf hlo (Nat.le_refl _) (Nat.le_refl _) hd (k p l e s m args below meth c H locs ls C hP hS hls)
theorem V_mmin {G : GA} {i : MI} {pc : Nat} {L : List (Nat × Value)} {st : List Value} {h : HP} {Q : Option Value → HP → Prop} {idx : Nat} {x y : Int32} (hl : Cond.methodLink i.1.cls idx Lib.Math.min.name ∈ lwg) (h1 : Cond.static Lib.Math.min.name ∈ lwg) (h2 : Cond.initialized "java/lang/Math" ∈ lwg) (h3 : Cond.code Lib.Math.min.name Lib.Math.min.code 2 (some .int) ∈ lwg) (hf : 1 ≤ i.2.2.2.2.1) (hlo : (st.map fun v => v.category).sum + 13 ≤ i.2.2.2.2.2) (hd : decode i.2.1 pc = .ok (.invokestatic idx, 3)) (k : V G i (pc + 3) L (.int (if y < x then y else x) :: st) h Q) : V G i pc L (.int y :: .int x :: st) h Q := by
  intro p l e s m args below meth c H locs ls C hP hS hls
  have ok : ∀ {w : Cond}, w ∈ lwg → w.before args s = true := fun hw => C.2.2.2.2.2.2.1 _ (List.mem_cons_of_mem _ hw)
  exact va_mmin C.1 C.2.1 (by rw [C.2.2.1]; exact hls.1.symm) C.2.2.2.2.2.1 (ok hl) (ok h1) (ok h2) (ok h3) hf hlo (Nat.le_refl _) (Nat.le_refl _) hd (k p l e s m args below meth c H locs ls C hP hS hls)
theorem V_tabOut {G : GA} {i : MI} {pc : Nat} {L : List (Nat × Value)} {st : List Value} {h : HP} {Q : Option Value → HP → Prop} {dflt lo hi : Int} {offs : Array Int} {len tgt : Nat} {x : Int32} (hd : decode i.2.1 pc = .ok (.tableswitch dflt lo hi offs, len)) (hx : x.toInt < lo ∨ hi < x.toInt) (ht : (pc : Int) + dflt = (tgt : Int)) (k : V G i tgt L st h Q) : V G i pc L (.int x :: st) h Q := by
  intro p l e s m args below meth c H locs ls C hP hS hl
  exact lv_tableOut C.1 C.2.1 hd hx ht (k p l e s m args below meth c H locs ls C hP hS hl)
theorem V_tabIn {G : GA} {i : MI} {pc : Nat} {L : List (Nat × Value)} {st : List Value} {h : HP} {Q : Option Value → HP → Prop} {dflt lo hi : Int} {offs : Array Int} {len tgt : Nat} {x : Int32} {off : Int} (hd : decode i.2.1 pc = .ok (.tableswitch dflt lo hi offs, len)) (h1 : ¬ x.toInt < lo) (h2 : ¬ hi < x.toInt) (ho : offs[(x.toInt - lo).toNat]? = some off) (ht : (pc : Int) + off = (tgt : Int)) (k : V G i tgt L st h Q) : V G i pc L (.int x :: st) h Q := by
  intro p l e s m args below meth c H locs ls C hP hS hl
  exact lv_tableIn C.1 C.2.1 hd h1 h2 ho ht (k p l e s m args below meth c H locs ls C hP hS hl)
theorem it_t {c A B : Prop} [Decidable c] (hc : c) (t : if c then A else B) : A := by rw [if_pos hc] at t; exact t
theorem it_f {c A B : Prop} [Decidable c] (hc : ¬ c) (t : if c then A else B) : B := by rw [if_neg hc] at t; exact t
theorem tab_ne {x : Int32} {k : Nat} (hk : k < 2147483648) (h : ¬ x = nI k) : ¬ x.toInt = (k : Int) := fun e => h (Int32.toInt_inj.mp (by rw [e, nI_toInt hk]))
theorem in_of {ws : List Cond} (ps : List Nat) (hp : ws = ps.filterMap (fun i => lw_tbl[i]?)) (hg : ws.all goodWord = true) : ∀ w ∈ ws, w ∈ lwg := by
  intro w hw
  have h1 := List.all_eq_true.mp hg w hw
  rw [hp] at hw
  obtain ⟨i, -, hi⟩ := List.mem_filterMap.mp hw
  exact lwg_at i hi h1
