/-! ===== constructors: a world that grows ===== -/
abbrev nw1 : Cond := .methodLinkNest RX11 11 yX7_init "ConnectionDesk"
abbrev nw2 : Cond := .methodLinkNest RX11 25 yX10_init "ConnectionDesk"
abbrev nw3 : Cond := .methodLinkNest RX11 32 yX3_init "ConnectionDesk"
abbrev nw4 : Cond := .methodLinkNest RX9 44 yX1_init "ConnectionDesk"
def KZ (D : va_G) (a : ClassId × ClassId) (U : State) : Prop := va_K D vwCl [(a.1, .int), (a.2, .boolean)] U ∧ va_Nw nw1 U ∧ va_Nw nw2 U ∧ va_Nw nw3 U ∧ va_Nw nw4 U ∧ va_Nw nestw U
theorem KZ.warm {D : va_G} {a : ClassId × ClassId} {s U : State} (hW : s.WarmedH U.vm) (h : KZ D a s) : KZ D a U := ⟨va_K.moved hW.alike h.1, va_Nw.warmM hW h.2.1, va_Nw.warmM hW h.2.2.1, va_Nw.warmM hW h.2.2.2.1, va_Nw.warmM hW h.2.2.2.2.1, va_Nw.warmM hW h.2.2.2.2.2⟩
theorem KZ.calling {D : va_G} {a : ClassId × ClassId} {U : State} {g : JFrame} {mk : MethodId} {v : Array Value} (h : KZ D a U) : KZ D a (U.calling g mk v) := ⟨va_K.moved (u := U) (U := U.calling g mk v) (Vm.Alike.refl U.vm) h.1, va_Nw.same (u := U) (U := U.calling g mk v) rfl rfl h.2.1, va_Nw.same (u := U) (U := U.calling g mk v) rfl rfl h.2.2.1, va_Nw.same (u := U) (U := U.calling g mk v) rfl rfl h.2.2.2.1, va_Nw.same (u := U) (U := U.calling g mk v) rfl rfl h.2.2.2.2.1, va_Nw.same (u := U) (U := U.calling g mk v) rfl rfl h.2.2.2.2.2⟩
abbrev ZE : Type := va_G × (ClassId × ClassId) × (Nat → Prop) × Room
def QZ (D : va_G) (A : Nat → Prop) (Qw : va_W → Prop) : Array Value → State → Outcome → State → Prop := va_Qv (S := va_W) Qw (fun w t => va_P D vwCl w t.heap ∧ va_D A w) A
def PZ (D : va_G) (a : ClassId × ClassId) (As : List Value) (w0 : va_W) (sz : Nat) : Array Value → State → Prop := fun v U => v = As.toArray ∧ U.heap.size = sz ∧ KZ D a U ∧ va_P D vwCl w0 U.heap ∧ va_D (fun _ => True) w0
/-- a constructor's contract -/
def Ctor (D : va_G) (a : ClassId × ClassId) (j : MI) (Rj : Room) (As : List Value) (w0 : va_W) (Qw : va_W → Prop) : Prop := ∀ (l : Launch) (sz : Nat), Met l j.1 (wsO j) Rj (PZ D a As w0 sz) (QZ D (va_A w0 sz) Qw) Rj.cells Rj.slots (va_A w0 sz)
def Cz (z : ZE) (i : MI) (p : Program) (s : State) (m : MethodId) (args : Array Value) (meth : Method) (c : Code) : Prop :=
  p.tables.exec = Jvm.exec ∧ c.code = i.2.1 ∧ c.maxLocals = i.2.2.1 ∧ meth.sig.returnType = none ∧ meth.locks = false ∧ s.vm.findClass i.1.cls = some m.cls ∧ (∀ w ∈ wsO i, w.before args s = true) ∧ meth.name = "<init>" ∧ KZ z.1 z.2.1 s ∧ ∀ q : Nat, s.heap.size ≤ q → z.2.2.1 q
def Zj (z : ZE) (i : MI) (pc : Nat) (L : List (Nat × Value)) (st : List Value) (ws : va_W) (cells slots : Nat) (Qw : va_W → Prop) : Prop :=
  ∀ (p : Program) (l : Launch) (e : Env) (s : State) (m : MethodId) (args : Array Value) (below : List Frame) (meth : Method) (c : Code) (H : Heap) (locs : List Loc) (ls : Array Slot),
    Cz z i p s m args meth c → va_P z.1 vwCl ws H → va_D z.2.2.1 ws → va_S z.2.2.1 s.heap H locs → lv_has ls i.2.2.1 L →
    W p l e z.2.2.2 s m args below meth c H locs cells slots (MQ below (QZ z.1 z.2.2.1 Qw) args s z.2.2.2.cells z.2.2.2.slots z.2.2.1) (F0 m pc ls st)
theorem Ctor_of_Z {D : va_G} {a : ClassId × ClassId} {i : MI} {R : Room} {As : List Value} {w0 : va_W} {Qw : va_W → Prop} {L : List (Nat × Value)} (hp : plainFor i.1 = true) (hi : i.1.name = "<init>") (hr : i.2.2.2.1 = none) (hn : (lg_sl As).length ≤ i.2.2.1) (hL : lv_args 0 As = L) (hZ : ∀ A : Nat → Prop, Zj (D, a, A, R) i 0 L [] w0 0 0 Qw) : Ctor D a i R As w0 Qw := by
  intro l sz
  refine Met.ofWF (cc := i.2.1) (maxL := i.2.2.1) (ret := i.2.2.2.1) hp rfl ?_
  intro p e s m args below meth c s₁ B hml hv
  obtain ⟨rfl, hsz, hK, hP, hD⟩ := hv
  subst hsz
  rw [lg_entry_eq]
  have hl := lv_entry As hn
  rw [hL] at hl
  have hret : meth.sig.returnType = none := by rw [B.returns]; exact hr
  exact hZ (va_A w0 s.heap.size) p l e s m As.toArray below meth c s.heap [] _ ⟨B.exec, B.bytes, hml, hret, B.notSynchronized, findClass_of_methodNamed B.named, atoms_spec B.pre, by rw [(name_of_methodNamed B.named B.method).1]; exact hi, hK, fun q h => Or.inr h⟩ hP (hD.self (sz := s.heap.size)) va_S.rf hl
theorem fm_of {f : Nat → Option (Nat × va_E)} : ∀ (is : List Nat) (w : va_W), is.map f = w.map some → is.filterMap f = w
  | [], [], _ => rfl
  | [], _ :: _, h => by cases h
  | _ :: _, [], h => by cases h
  | a :: is, x :: w, h => by
    rw [List.map_cons, List.map_cons] at h
    injection h with h1 h2
    rw [List.filterMap_cons, h1, fm_of is w h2]
section
variable {z : ZE} {i : MI} {pc : Nat} {L : List (Nat × Value)} {st : List Value} {ws : va_W} {cells slots : Nat} {Qw : va_W → Prop}
theorem Z_al {n : Fin 4} {j q x : Nat} (hd : decode i.2.1 pc = .ok (.aload_n n, 1)) (hn : (n : Nat) = j) (hL : L[q]? = some (j, .ref x)) (k : Zj z i (pc + 1) L (.ref x :: st) ws cells slots Qw) : Zj z i pc L st ws cells slots Qw := by
  intro p l e s m args below meth c H locs ls C hP hD hS hl
  exact lv_aload_n C.1 C.2.1 hd hn (lv_at hl q hL) (k p l e s m args below meth c H locs ls C hP hD hS hl)
theorem Z_al2 {j q x : Nat} (hd : decode i.2.1 pc = .ok (.aload j, 2)) (hL : L[q]? = some (j, .ref x)) (k : Zj z i (pc + 2) L (.ref x :: st) ws cells slots Qw) : Zj z i pc L st ws cells slots Qw := by
  intro p l e s m args below meth c H locs ls C hP hD hS hl
  exact lv_aload C.1 C.2.1 hd (lv_at hl q hL) (k p l e s m args below meth c H locs ls C hP hD hS hl)
theorem Z_il {n : Fin 4} {j q : Nat} {x : Int32} (hd : decode i.2.1 pc = .ok (.iload_n n, 1)) (hn : (n : Nat) = j) (hL : L[q]? = some (j, .int x)) (k : Zj z i (pc + 1) L (.int x :: st) ws cells slots Qw) : Zj z i pc L st ws cells slots Qw := by
  intro p l e s m args below meth c H locs ls C hP hD hS hl
  exact lv_iload_n C.1 C.2.1 hd hn (lv_at hl q hL) (k p l e s m args below meth c H locs ls C hP hD hS hl)
theorem Z_ic {n : Int} {v : Int32} (hd : decode i.2.1 pc = .ok (.iconst n, 1)) (hv : Int32.ofInt n = v) (k : Zj z i (pc + 1) L (.int v :: st) ws cells slots Qw) : Zj z i pc L st ws cells slots Qw := by
  intro p l e s m args below meth c H locs ls C hP hD hS hl
  exact lv_iconst C.1 C.2.1 hd hv (k p l e s m args below meth c H locs ls C hP hD hS hl)
theorem Z_bi {n : Int} {v : Int32} (hd : decode i.2.1 pc = .ok (.bipush n, 2)) (hv : (Int8.ofInt n).toInt32 = v) (k : Zj z i (pc + 2) L (.int v :: st) ws cells slots Qw) : Zj z i pc L st ws cells slots Qw := by
  intro p l e s m args below meth c H locs ls C hP hD hS hl
  exact lv_bipush C.1 C.2.1 hd hv (k p l e s m args below meth c H locs ls C hP hD hS hl)
theorem Z_si {n : Int} {v : Int32} (hd : decode i.2.1 pc = .ok (.sipush n, 3)) (hv : (Int16.ofInt n).toInt32 = v) (k : Zj z i (pc + 3) L (.int v :: st) ws cells slots Qw) : Zj z i pc L st ws cells slots Qw := by
  intro p l e s m args below meth c H locs ls C hP hD hS hl
  exact lv_sipush C.1 C.2.1 hd hv (k p l e s m args below meth c H locs ls C hP hD hS hl)
theorem Z_dup {a : Value} (hd : decode i.2.1 pc = .ok (.dup, 1)) (ha : a.category = 1) (k : Zj z i (pc + 1) L (a :: a :: st) ws cells slots Qw) : Zj z i pc L (a :: st) ws cells slots Qw := by
  intro p l e s m args below meth c H locs ls C hP hD hS hl
  exact lv_dup C.1 C.2.1 hd ha (k p l e s m args below meth c H locs ls C hP hD hS hl)
theorem Z_is {n : Fin 4} {j : Nat} {x : Int32} {L' : List (Nat × Value)} (hd : decode i.2.1 pc = .ok (.istore_n n, 1)) (hn : (n : Nat) = j) (hj : j < i.2.2.1) (hc : cat1 L = true) (hL : lset j (.int x) L = L') (k : Zj z i (pc + 1) L' st ws cells slots Qw) : Zj z i pc L (.int x :: st) ws cells slots Qw := by
  intro p l e s m args below meth c H locs ls C hP hD hS hl
  exact lv_istore_n C.1 C.2.1 hd hn hl hj rfl (fun ls' hl' => k p l e s m args below meth c H locs ls' C hP hD hS (hL ▸ lset_has hc hl'))
theorem Z_iinc {j q : Nat} {n : Int} {x a : Int32} {L' : List (Nat × Value)} (hd : decode i.2.1 pc = .ok (.iinc j n, 3)) (hq : L[q]? = some (j, .int x)) (ha : Int32.ofInt n = a) (hj : j < i.2.2.1) (hc : cat1 L = true) (hL : lset j (.int (x + a)) L = L') (k : Zj z i (pc + 3) L' st ws cells slots Qw) : Zj z i pc L st ws cells slots Qw := by
  intro p l e s m args below meth c H locs ls C hP hD hS hl
  exact lv_iinc C.1 C.2.1 hd hl hq (by rw [ha]) hj rfl (fun ls' hl' => k p l e s m args below meth c H locs ls' C hP hD hS (hL ▸ lset_has hc hl'))
theorem Z_irem {x y : Int32} (hd : decode i.2.1 pc = .ok (.irem, 1)) (hne : ¬ y = 0) (k : Zj z i (pc + 1) L (.int (x - x / y * y) :: st) ws cells slots Qw) : Zj z i pc L (.int y :: .int x :: st) ws cells slots Qw := by
  intro p l e s m args below meth c H locs ls C hP hD hS hl
  exact lv_irem C.1 C.2.1 hd hne (k p l e s m args below meth c H locs ls C hP hD hS hl)
theorem Z_goto {off : Int} {tgt : Nat} (hd : decode i.2.1 pc = .ok (.goto off, 3)) (ht : (pc : Int) + off = (tgt : Int)) (k : Zj z i tgt L st ws cells slots Qw) : Zj z i pc L st ws cells slots Qw := by
  intro p l e s m args below meth c H locs ls C hP hD hS hl
  exact lv_goto C.1 C.2.1 hd ht (k p l e s m args below meth c H locs ls C hP hD hS hl)
theorem Z_ge {x y : Int32} {off : Int} {tgt : Nat} (hd : decode i.2.1 pc = .ok (.if_icmp .ge off, 3)) (ht : (pc : Int) + off = (tgt : Int)) (kt : y ≤ x → Zj z i tgt L st ws cells slots Qw) (kf : ¬ y ≤ x → Zj z i (pc + 3) L st ws cells slots Qw) : Zj z i pc L (.int y :: .int x :: st) ws cells slots Qw := by
  intro p l e s m args below meth c H locs ls C hP hD hS hl
  exact lv_icmp_ge C.1 C.2.1 hd ht (fun q => kt q p l e s m args below meth c H locs ls C hP hD hS hl) (fun q => kf q p l e s m args below meth c H locs ls C hP hD hS hl)
theorem Z_obj {idx h0 : Nat} (hml : Cond.methodLink i.1.cls idx objectInit ∈ lwg) (hf : 1 ≤ z.2.2.2.frames) (hlo : (st.map fun v => v.category).sum + 12 ≤ z.2.2.2.locals) (hd : decode i.2.1 pc = .ok (.invokespecial idx, 3)) (hio : Cond.instanceMethod objectInit ∈ lwg) (hco : Cond.code objectInit ⟨#[0xb1]⟩ 1 none ∈ lwg) (k : Zj z i (pc + 3) L st ws cells slots Qw) : Zj z i pc L (.ref h0 :: st) ws cells slots Qw := by
  intro p l e s m args below meth c H locs ls C hP hD hS hl
  have ok : ∀ {w : Cond}, w ∈ lwg → w.before args s = true := fun hw => C.2.2.2.2.2.2.1 _ (List.mem_cons_of_mem _ hw)
  refine W.objInit C.1 C.2.1 C.2.2.2.2.2.1 (ok hml) (ok hio) (ok hco) rfl (by rw [C.2.2.1]; exact hl.1) rfl hd hf (show 2 * 0 + (st.map fun v => v.category).sum + 12 ≤ _ by omega) ?_
  refine W.eq (g2 := F0 m (pc + 3) ls st) rfl ?_
  exact k p l e s m args below meth c H locs ls C hP hD hS hl
theorem vI {D : va_G} {a : ClassId × ClassId} {cA : ClassId} {s : State} (h : va_K D vwCl ([(a.1, .int), (a.2, .boolean)] ++ [(cA, .int)]) s) : cA = a.1 := by
  have h1 : s.vm.findClass ("[" ++ (FieldType.int).toString) = some a.1 := (h.2 0 _ rfl).2
  have h2 : s.vm.findClass ("[" ++ (FieldType.int).toString) = some cA := (h.2 2 _ rfl).2
  exact Option.some.inj (h2.symm.trans h1)
theorem vB {D : va_G} {a : ClassId × ClassId} {cA : ClassId} {s : State} (h : va_K D vwCl ([(a.1, .int), (a.2, .boolean)] ++ [(cA, .boolean)]) s) : cA = a.2 := by
  have h1 : s.vm.findClass ("[" ++ (FieldType.boolean).toString) = some a.2 := (h.2 1 _ rfl).2
  have h2 : s.vm.findClass ("[" ++ (FieldType.boolean).toString) = some cA := (h.2 2 _ rfl).2
  exact Option.some.inj (h2.symm.trans h1)
theorem Z_nai {n : Nat} (hw : Cond.arrayClass .int ∈ lwg) (hn : n < 100000) (hcells : cells + 1 ≤ z.2.2.2.cells) (hslots : slots + n ≤ z.2.2.2.slots) (hd : decode i.2.1 pc = .ok (.newarray .int, 2)) (k : ∀ q : Nat, Zj z i (pc + 2) L (.ref q :: st) (ws ++ [(q, .inl (z.2.1.1, n, .inl (fun _ => 0)))]) (cells + 1) (slots + n) Qw) : Zj z i pc L (.int (nI n) :: st) ws cells slots Qw := by
  intro p l e s m args below meth c H locs ls C hP hD hS hl
  refine va_newa (atype := .int) (ty := .int) (a0 := (n, .inl (fun _ => 0))) C.1 C.2.1 (C.2.2.2.2.2.2.1 _ (List.mem_cons_of_mem _ hw)) rfl C.2.2.2.2.2.2.2.2.1.1 hP hD hS C.2.2.2.2.2.2.2.2.2 (fun cA => rfl) (nIneg (by omega)) (tnI (by omega)) (by show n * 4 ≤ _; omega) hcells hslots hd (fun q cA H1 hK1 hP1 hD1 hS1 => ?_)
  have e := vI hK1
  subst e
  exact k q p l e s m args below meth c H1 locs ls C hP1 hD1 hS1 hl
theorem Z_nab {n : Nat} (hw : Cond.arrayClass .boolean ∈ lwg) (hn : n < 100000) (hcells : cells + 1 ≤ z.2.2.2.cells) (hslots : slots + n ≤ z.2.2.2.slots) (hd : decode i.2.1 pc = .ok (.newarray .boolean, 2)) (k : ∀ q : Nat, Zj z i (pc + 2) L (.ref q :: st) (ws ++ [(q, .inl (z.2.1.2, n, .inl (fun _ => 0)))]) (cells + 1) (slots + n) Qw) : Zj z i pc L (.int (nI n) :: st) ws cells slots Qw := by
  intro p l e s m args below meth c H locs ls C hP hD hS hl
  refine va_newa (atype := .boolean) (ty := .boolean) (a0 := (n, .inl (fun _ => 0))) C.1 C.2.1 (C.2.2.2.2.2.2.1 _ (List.mem_cons_of_mem _ hw)) rfl C.2.2.2.2.2.2.2.2.1.1 hP hD hS C.2.2.2.2.2.2.2.2.2 (fun cA => rfl) (nIneg (by omega)) (tnI (by omega)) (by show n * 1 ≤ _; omega) hcells hslots hd (fun q cA H1 hK1 hP1 hD1 hS1 => ?_)
  have e := vB hK1
  subst e
  exact k q p l e s m args below meth c H1 locs ls C hP1 hD1 hS1 hl
/-- a final field of an object of this very class -/
def QOK (own : String) (T : u_T) (N j : Nat) (ty : FieldType) : Prop := ∃ ty0 : Nat → FieldType, (∀ k, k < N → parseFieldDescriptor (T k).2.2.1 = some (ty0 k)) ∧ (∀ a, a < N → ∀ b, b < N → a ≠ b → (T a).2.1 ≠ (T b).2.1) ∧ (T j).2.2.2 = true ∧ (T j).1 = own ∧ parseFieldDescriptor (T j).2.2.1 = some ty
theorem Z_putF {idx ci j k0 a r : Nat} {Cn : String} {T : u_T} {N : Nat} {fs : List Value} {ty : FieldType} (hf : FOK i.1.cls idx ci j Cn T N) (hp : QOK i.1.cls T N j ty) (hn : narrow ty (.ref r) = .ref r) (hfit : fits ty (.ref r) = true) (hd : decode i.2.1 pc = .ok (.putfield idx, 3)) (he : ws[k0]? = some (a, .inr (ci, fs))) (hl' : j < fs.length) (k : Zj z i (pc + 3) L st (ws.set k0 (a, .inr (ci, fs.set j (.ref r)))) cells slots Qw) : Zj z i pc L (.ref r :: .ref a :: st) ws cells slots Qw := by
  intro p l e s m args below meth c H locs ls C hP hD hS hl
  obtain ⟨ty0, hty, hnm, hfin, hdecl, hpd⟩ := hp
  exact va_putF C.1 C.2.1 C.2.2.2.2.2.2.1 (fun w hw => List.mem_cons_of_mem _ (hf.2.2.1 w hw)) ty0 hty hnm C.2.2.2.2.2.1 C.2.2.2.2.2.2.2.2.1.1 hP hD hS k0 he hf.1 j hf.2.1 (C.2.2.2.2.2.2.1 _ (List.mem_cons_of_mem _ hf.2.2.2)) (fun _ h9 => h9) hfin C.2.2.2.2.2.2.2.1 hdecl hpd hn hfit hl' hd (fun H1 locs1 hP1 hD1 hS1 => k p l e s m args below meth c H1 locs1 ls C hP1 hD1 hS1 hl)
theorem Z_put {idx ci j k0 a : Nat} {Cn : String} {T : u_T} {N : Nat} {fs : List Value} {x : Int32} (hf : FOK i.1.cls idx ci j Cn T N) (hp : POK T N j) (hd : decode i.2.1 pc = .ok (.putfield idx, 3)) (he : ws[k0]? = some (a, .inr (ci, fs))) (hl' : j < fs.length) (k : Zj z i (pc + 3) L st (ws.set k0 (a, .inr (ci, fs.set j (.int x)))) cells slots Qw) : Zj z i pc L (.int x :: .ref a :: st) ws cells slots Qw := by
  intro p l e s m args below meth c H locs ls C hP hD hS hl
  obtain ⟨ty0, hty, hnm, hfin, hpd⟩ := hp
  exact va_put C.1 C.2.1 C.2.2.2.2.2.2.1 (fun w hw => List.mem_cons_of_mem _ (hf.2.2.1 w hw)) ty0 hty hnm C.2.2.2.2.2.1 C.2.2.2.2.2.2.2.2.1.1 hP hD hS k0 he hf.1 j hf.2.1 (C.2.2.2.2.2.2.1 _ (List.mem_cons_of_mem _ hf.2.2.2)) (fun _ h9 => h9) hfin hpd rfl rfl hl' hd (fun H1 locs1 hP1 hD1 hS1 => k p l e s m args below meth c H1 locs1 ls C hP1 hD1 hS1 hl)
theorem Z_get {idx ci j k0 a : Nat} {Cn : String} {T : u_T} {N : Nat} {fs : List Value} {v : Value} (hf : FOK i.1.cls idx ci j Cn T N) (hd : decode i.2.1 pc = .ok (.getfield idx, 3)) (he : ws[k0]? = some (a, .inr (ci, fs))) (hv : fs[j]? = some v) (k : Zj z i (pc + 3) L (v :: st) ws cells slots Qw) : Zj z i pc L (.ref a :: st) ws cells slots Qw := by
  intro p l e s m args below meth c H locs ls C hP hD hS hl
  exact va_get C.1 C.2.1 C.2.2.2.2.2.2.1 (fun w hw => List.mem_cons_of_mem _ (hf.2.2.1 w hw)) C.2.2.2.2.2.1 C.2.2.2.2.2.2.2.2.1.1 hP k0 he hf.1 j hf.2.1 (C.2.2.2.2.2.2.1 _ (List.mem_cons_of_mem _ hf.2.2.2)) (fun _ h9 => h9) hv hd (k p l e s m args below meth c H locs ls C hP hD hS hl)
theorem Z_ias {k0 a n : Nat} {f : Nat → Int32} {x y : Int32} (hd : decode i.2.1 pc = .ok (.iastore, 1)) (he : ws[k0]? = some (a, .inl (z.2.1.1, n, .inl f))) (hin : vp_in x n) (k : Zj z i (pc + 1) L st (ws.set k0 (a, .inl (z.2.1.1, n, .inl (upd f (tn x) y)))) cells slots Qw) : Zj z i pc L (.int y :: .int x :: .ref a :: st) ws cells slots Qw := by
  intro p l e s m args below meth c H locs ls C hP hD hS hl
  exact va_iast C.1 C.2.1 C.2.2.2.2.2.2.2.2.1.1 hP hD hS k0 0 he rfl hin hd (fun H1 locs1 hP1 hD1 hS1 => k p l e s m args below meth c H1 locs1 ls C hP1 hD1 hS1 hl)
theorem Z_new {idx ci N : Nat} {Cn : String} {T : u_T} {fs : List Value} (ty : Nat → FieldType) (hc : vwCl[ci]? = some (Cn, T, N)) (hin : ∀ w ∈ u_ws Cn T N, w ∈ lwg) (hty : ∀ k, k < N → parseFieldDescriptor (T k).2.2.1 = some (ty k)) (hcl : Cond.classLink i.1.cls idx Cn ∈ lwg) (hinst : Cond.instantiable Cn N ∈ lwg) (hini : Cond.initialized Cn ∈ lwg) (hfs : ∀ j, j < N → defaultValue (ty j) = vp_V fs j) (hcells : cells + 1 ≤ z.2.2.2.cells) (hslots : slots + N ≤ z.2.2.2.slots) (hd : decode i.2.1 pc = .ok (.new idx, 3)) (k : ∀ q : Nat, Zj z i (pc + 3) L (.ref q :: st) (ws ++ [(q, .inr (ci, fs))]) (cells + 1) (slots + N) Qw) : Zj z i pc L st ws cells slots Qw := by
  intro p l e s m args below meth c H locs ls C hP hD hS hl
  have ok : ∀ {w : Cond}, w ∈ lwg → w.before args s = true := fun hw => C.2.2.2.2.2.2.1 _ (List.mem_cons_of_mem _ hw)
  exact va_new C.1 C.2.1 C.2.2.2.2.2.2.1 (fun w hw => List.mem_cons_of_mem _ (hin w hw)) ty hty C.2.2.2.2.2.1 (ok hcl) (ok hinst) (ok hini) C.2.2.2.2.2.2.2.2.1.1 hP hD hS C.2.2.2.2.2.2.2.2.2 hc hfs hcells hslots hd (fun q H1 hP1 hD1 hS1 => k q p l e s m args below meth c H1 locs ls C hP1 hD1 hS1 hl)
theorem Z_ret (hd : decode i.2.1 pc = .ok (.return_, 1)) (is : List Nat) {w' : va_W} (hi : is.map (fun q => ws[q]?) = w'.map some) (hn : va_nd is = true) (hc : cells ≤ z.2.2.2.cells) (hs : slots ≤ z.2.2.2.slots) (hq : Qw w') : Zj z i pc L [] ws cells slots Qw := by
  intro p l e s m args below meth c H locs ls C hP hD hS hl
  refine W.widen hc hs ?_
  have hP9 := hP.sub (ws' := w') is (fm_of _ _ hi)
  have hD9 := hD.sub (ws' := w') is hn hi
  exact W.vret C.1 C.2.1 C.2.2.2.1 (fun t ht hW => ⟨⟨w', rfl, hq, by rw [ht]; exact hP9, hD9⟩, hS.F ht⟩) hS.2.2 hd (hlocks := C.2.2.2.2.1)
theorem PZ.blind (D : va_G) (a : ClassId × ClassId) (As : List Value) (w0 : va_W) (sz : Nat) : FrameBlind (PZ D a As w0 sz) := fun _ _ _ _ q => ⟨q.1, q.2.1, q.2.2.1.calling, q.2.2.2⟩
theorem Z_init {j : MI} {Rj : Room} {b idx n : Nat} {As : List Value} {wc wr : va_W} {Q' : va_W → Prop} (hM : Ctor z.1 z.2.1 j Rj (.ref b :: As) wc Q') (hcw : cwO j ∈ lwg) (hr : j.2.2.2.1 = none) (hml : Cond.methodLink i.1.cls idx j.1 ∈ lwg) (hini : Cond.initialized j.1.cls ∈ lwg) (him : Cond.instanceMethod j.1 ∈ lwg) (hnm : j.1.name = "<init>") (hnd : j.1.cls ≠ "java/lang/invoke/MethodHandle" ∧ j.1.cls ≠ "java/lang/invoke/VarHandle" ∧ (parseMethodDescriptor j.1.desc).map (fun d => d.parameters.length) = some n) (hro : Rj.frames + 1 ≤ z.2.2.2.frames ∧ 8 + (j.2.2.1 + 11) + Rj.locals ≤ z.2.2.2.locals)
    (isC isR : List Nat) (hC : isC.map (fun q => ws[q]?) = wc.map some) (hncC : va_nd isC = true) (hR : isR.map (fun q => ws[q]?) = wr.map some) (hnR : va_nd isR = true) (hdis : ∀ q ∈ isR, q ∉ isC) (hn : As.length = n) (hst : (st.map fun v => v.category).sum ≤ 8) (hcells : cells + Rj.cells ≤ z.2.2.2.cells) (hslots : slots + Rj.slots ≤ z.2.2.2.slots) (hd : decode i.2.1 pc = .ok (.invokespecial idx, 3))
    (k : ∀ w1, Q' w1 → Zj z i (pc + 3) L st (wr ++ w1) (cells + Rj.cells) (slots + Rj.slots) Qw) : Zj z i pc L (As.reverse ++ .ref b :: st) ws cells slots Qw := by
  intro p l e s m args below meth c H locs ls C hP hD hS hl
  have hts := C.2.2.2.2.2.2.1
  have ok : ∀ {w : Cond}, w ∈ lwg → w.before args s = true := fun hw => hts _ (List.mem_cons_of_mem _ hw)
  have hK := C.2.2.2.2.2.2.2.2.1
  have hPc := hP.sub (ws' := wc) isC (fm_of _ _ hC)
  have hDc := hD.sub (ws' := wc) isC hncC hC
  have hFc := va_free (wc := wc) hD hS C.2.2.2.2.2.2.2.2.2 isC hC
  have hG : GoodIn (wsO i) (wsO j) := wsO_good hcw
  refine va_callv (va_runI (As := As) (rest := st) (bytes := j.2.1) (maxL := j.2.2.1) ⟨C.1, C.2.1, C.2.2.1, C.2.2.2.2.2.1, hts⟩ (hM l H.size) (cwI n hts hG (show wsO j = Cond.code j.1 j.2.1 j.2.2.1 none :: lwg by unfold wsO cwO; rw [hr]) rfl rfl (ok hini) (ok hml) (ok him) hnm hnd hro) ⟨PZ.blind _ _ _ _ _, fun U hU hW => ⟨rfl, by rw [hU], hK.warm hW, by rw [hU]; exact hPc, hDc.weaken (fun _ _ _ _ => trivial)⟩⟩ rfl hn hl.1 rfl (lv_room hst) hd ⟨hcells, hslots⟩) hS (fun q _ h => hFc q h) hFc (fun w1 t H1 locs1 ht hvm hw hB hz1 hk1 hS1 => ?_)
  obtain ⟨hP1, hD1⟩ := hB
  rw [ht] at hP1
  obtain ⟨hP2, hD2⟩ := va_join (wr := wr) (w1 := w1) hP hD isC isR hC hR hnR hdis hk1 hFc hP1 hD1
  exact k w1 hw p l e s m args below meth c H1 locs1 ls C hP2 hD2 hS1 hl
theorem Z_initN {j : MI} {Rj : Room} {b idx n : Nat} {As : List Value} {wc wr : va_W} {Q' : va_W → Prop} (hM : Ctor z.1 z.2.1 j Rj (.ref b :: As) wc Q') (hcw : cwO j ∈ lwg) (hr : j.2.2.2.1 = none) (hml : ∀ U, KZ z.1 z.2.1 U → va_Nw (.methodLinkNest i.1.cls idx j.1 "ConnectionDesk") U) (hini : Cond.initialized j.1.cls ∈ lwg) (him : Cond.instanceMethod j.1 ∈ lwg) (hnm : j.1.name = "<init>") (hnd : j.1.cls ≠ "java/lang/invoke/MethodHandle" ∧ j.1.cls ≠ "java/lang/invoke/VarHandle" ∧ (parseMethodDescriptor j.1.desc).map (fun d => d.parameters.length) = some n) (hro : Rj.frames + 1 ≤ z.2.2.2.frames ∧ 8 + (j.2.2.1 + 11) + Rj.locals ≤ z.2.2.2.locals)
    (isC isR : List Nat) (hC : isC.map (fun q => ws[q]?) = wc.map some) (hncC : va_nd isC = true) (hR : isR.map (fun q => ws[q]?) = wr.map some) (hnR : va_nd isR = true) (hdis : ∀ q ∈ isR, q ∉ isC) (hn : As.length = n) (hst : (st.map fun v => v.category).sum ≤ 8) (hcells : cells + Rj.cells ≤ z.2.2.2.cells) (hslots : slots + Rj.slots ≤ z.2.2.2.slots) (hd : decode i.2.1 pc = .ok (.invokespecial idx, 3))
    (k : ∀ w1, Q' w1 → Zj z i (pc + 3) L st (wr ++ w1) (cells + Rj.cells) (slots + Rj.slots) Qw) : Zj z i pc L (As.reverse ++ .ref b :: st) ws cells slots Qw := by
  intro p l e s m args below meth c H locs ls C hP hD hS hl
  have hts := C.2.2.2.2.2.2.1
  have ok : ∀ {w : Cond}, w ∈ lwg → w.before args s = true := fun hw => hts _ (List.mem_cons_of_mem _ hw)
  have hK := C.2.2.2.2.2.2.2.2.1
  have hPc := hP.sub (ws' := wc) isC (fm_of _ _ hC)
  have hDc := hD.sub (ws' := wc) isC hncC hC
  have hFc := va_free (wc := wc) hD hS C.2.2.2.2.2.2.2.2.2 isC hC
  have hG : GoodIn (wsO i) (wsO j) := wsO_good hcw
  refine va_callv (va_runIN (host := "ConnectionDesk") (As := As) (rest := st) (bytes := j.2.1) (maxL := j.2.2.1) ⟨C.1, C.2.1, C.2.2.1, C.2.2.2.2.2.1, hts⟩ (hM l H.size) ⟨va_cnB n hts hG (show wsO j = Cond.code j.1 j.2.1 j.2.2.1 none :: lwg by unfold wsO cwO; rw [hr]) rfl rfl (hml s hK) (ok hini) hnd hro, hnm, ok him⟩ ⟨PZ.blind _ _ _ _ _, fun U hU hW => ⟨rfl, by rw [hU], hK.warm hW, by rw [hU]; exact hPc, hDc.weaken (fun _ _ _ _ => trivial)⟩⟩ rfl hn hl.1 rfl (lv_room hst) hd ⟨hcells, hslots⟩) hS (fun q _ h => hFc q h) hFc (fun w1 t H1 locs1 ht hvm hw hB hz1 hk1 hS1 => ?_)
  obtain ⟨hP1, hD1⟩ := hB
  rw [ht] at hP1
  obtain ⟨hP2, hD2⟩ := va_join (wr := wr) (w1 := w1) hP hD isC isR hC hR hnR hdis hk1 hFc hP1 hD1
  exact k w1 hw p l e s m args below meth c H1 locs1 ls C hP2 hD2 hS1 hl
theorem Z_max {idx : Nat} {x y : Int32} (hl : Cond.methodLink i.1.cls idx Lib.Math.max.name ∈ lwg) (h1 : Cond.static Lib.Math.max.name ∈ lwg) (h2 : Cond.initialized "java/lang/Math" ∈ lwg) (h3 : Cond.code Lib.Math.max.name Lib.Math.max.code 2 (some .int) ∈ lwg) (hf : 1 ≤ z.2.2.2.frames) (hlo : (st.map fun v => v.category).sum + 13 ≤ z.2.2.2.locals) (hc : cells ≤ z.2.2.2.cells) (hs : slots ≤ z.2.2.2.slots) (hd : decode i.2.1 pc = .ok (.invokestatic idx, 3)) (k : Zj z i (pc + 3) L (.int (if x < y then y else x) :: st) ws cells slots Qw) : Zj z i pc L (.int y :: .int x :: st) ws cells slots Qw := by
  intro p l e s m args below meth c H locs ls C hP hD hS hls
  have ok : ∀ {w : Cond}, w ∈ lwg → w.before args s = true := fun hw => C.2.2.2.2.2.2.1 _ (List.mem_cons_of_mem _ hw)
  exact va_mmax C.1 C.2.1 (by rw [C.2.2.1]; exact hls.1.symm) C.2.2.2.2.2.1 (ok hl) (ok h1) (ok h2) (ok h3) hf hlo hc hs hd (k p l e s m args below meth c H locs ls C hP hD hS hls)
end
