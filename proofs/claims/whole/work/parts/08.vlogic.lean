-- the world: its cells by number; what is in them: an int for each slot of a cell
abbrev HP : Type := Nat → Nat → Int32
abbrev Sh : Type := (Nat × Bool) ⊕ (Nat × List (Option Nat))
abbrev GA : Type := (Nat → Nat) × (ClassId × ClassId) × va_G
abbrev tn (x : Int32) : Nat := x.toNatClampNeg
def hset (h : HP) (k : Nat) (f : Nat → Int32) : HP := fun q => if q = k then f else h q
def up (h : HP) (k j : Nat) (x : Int32) : HP := hset h k (upd (h k) j x)
def b2i (b : Bool) : Int32 := cond b 1 0
def ceV (G : GA) (x : Int32) (o : Option Nat) : Value := match o with
  | some r => .ref (G.1 r)
  | none => .int x
def ceF (G : GA) (f : Nat → Int32) : Nat → List (Option Nat) → List Value
  | _, [] => []
  | j, o :: r => ceV G (f j) o :: ceF G f (j + 1) r
def ce (G : GA) (f : Nat → Int32) (s : Sh) : va_E := match s with
  | .inl a => .inl (cond a.2 G.2.1.2 G.2.1.1, a.1, .inl f)
  | .inr o => .inr (o.1, ceF G f 0 o.2)
def wdF (G : GA) (h : HP) : Nat → List Sh → va_W
  | _, [] => []
  | k, s :: r => (G.1 k, ce G (h k) s) :: wdF G h (k + 1) r
theorem wdF_get (G : GA) (h : HP) : ∀ (sh : List Sh) (k0 k : Nat) (s : Sh), sh[k]? = some s → (wdF G h k0 sh)[k]? = some (G.1 (k0 + k), ce G (h (k0 + k)) s)
  | [], k0, k, s, e => by simp at e
  | s0 :: r, k0, 0, s, e => by
    rw [List.getElem?_cons_zero] at e
    cases e
    rfl
  | s0 :: r, k0, k + 1, s, e => by
    rw [List.getElem?_cons_succ] at e
    have := wdF_get G h r (k0 + 1) k s e
    rw [show k0 + (k + 1) = k0 + 1 + k by omega]
    exact this
theorem wdF_inv (G : GA) (h : HP) : ∀ (sh : List Sh) (k0 k : Nat) (q : Nat × va_E), (wdF G h k0 sh)[k]? = some q → q.1 = G.1 (k0 + k) ∧ k < sh.length
  | [], k0, k, q, e => by simp [wdF] at e
  | s0 :: r, k0, 0, q, e => by
    simp only [wdF, List.getElem?_cons_zero] at e
    cases e
    exact ⟨rfl, by simp⟩
  | s0 :: r, k0, k + 1, q, e => by
    simp only [wdF, List.getElem?_cons_succ] at e
    have := wdF_inv G h r (k0 + 1) k q e
    rw [show k0 + (k + 1) = k0 + 1 + k by omega]
    exact ⟨this.1, by simp; exact this.2⟩
theorem wdF_eq (G : GA) {h h' : HP} : ∀ (sh : List Sh) (k0 : Nat), (∀ q, k0 ≤ q → h q = h' q) → wdF G h k0 sh = wdF G h' k0 sh
  | [], k0, e => rfl
  | s0 :: r, k0, e => by
    simp only [wdF]
    rw [e k0 (Nat.le_refl _), wdF_eq G r (k0 + 1) (fun q hq => e q (by omega))]
theorem wdF_set (G : GA) (h : HP) (f : Nat → Int32) : ∀ (sh : List Sh) (k0 k : Nat) (s : Sh), sh[k]? = some s → (wdF G h k0 sh).set k (G.1 (k0 + k), ce G f s) = wdF G (hset h (k0 + k) f) k0 sh
  | [], k0, k, s, e => by simp at e
  | s0 :: r, k0, 0, s, e => by
    rw [List.getElem?_cons_zero] at e
    cases e
    simp only [wdF, List.set_cons_zero, Nat.add_zero]
    have e1 : hset h k0 f k0 = f := by simp [hset]
    rw [e1, wdF_eq G r (k0 + 1) (h := h) (h' := hset h k0 f) (fun q hq => by unfold hset; rw [if_neg (by omega)])]
  | s0 :: r, k0, k + 1, s, e => by
    rw [List.getElem?_cons_succ] at e
    have := wdF_set G h f r (k0 + 1) k s e
    simp only [wdF, List.set_cons_succ]
    rw [show k0 + (k + 1) = k0 + 1 + k by omega, this]
    congr 2
    unfold hset
    rw [if_neg (by omega)]
theorem ceF_get (G : GA) (f : Nat → Int32) : ∀ (fl : List (Option Nat)) (j0 j : Nat) (o : Option Nat), fl[j]? = some o → (ceF G f j0 fl)[j]? = some (ceV G (f (j0 + j)) o)
  | [], j0, j, o, e => by simp at e
  | o0 :: r, j0, 0, o, e => by
    rw [List.getElem?_cons_zero] at e
    cases e
    rfl
  | o0 :: r, j0, j + 1, o, e => by
    rw [List.getElem?_cons_succ] at e
    have := ceF_get G f r (j0 + 1) j o e
    rw [show j0 + (j + 1) = j0 + 1 + j by omega]
    exact this
theorem ceF_len (G : GA) (f : Nat → Int32) : ∀ (fl : List (Option Nat)) (j0 : Nat), (ceF G f j0 fl).length = fl.length
  | [], j0 => rfl
  | o0 :: r, j0 => by simp [ceF, ceF_len G f r]
theorem ceF_eq (G : GA) {f f' : Nat → Int32} : ∀ (fl : List (Option Nat)) (j0 : Nat), (∀ q, j0 ≤ q → f q = f' q) → ceF G f j0 fl = ceF G f' j0 fl
  | [], j0, e => rfl
  | o0 :: r, j0, e => by
    simp only [ceF]
    rw [e j0 (Nat.le_refl _), ceF_eq G r (j0 + 1) (fun q hq => e q (by omega))]
theorem ceF_set (G : GA) (f : Nat → Int32) (x : Int32) : ∀ (fl : List (Option Nat)) (j0 j : Nat), fl[j]? = some none → (ceF G f j0 fl).set j (.int x) = ceF G (upd f (j0 + j) x) j0 fl
  | [], j0, j, e => by simp at e
  | o0 :: r, j0, 0, e => by
    rw [List.getElem?_cons_zero] at e
    cases e
    simp only [ceF, List.set_cons_zero, Nat.add_zero]
    have e1 : upd f j0 x j0 = x := by simp [upd]
    rw [e1, ceF_eq G r (j0 + 1) (f := f) (f' := upd f j0 x) (fun q hq => by unfold upd; rw [if_neg (by omega)])]
    rfl
  | o0 :: r, j0, j + 1, e => by
    rw [List.getElem?_cons_succ] at e
    have := ceF_set G f x r (j0 + 1) j e
    simp only [ceF, List.set_cons_succ]
    rw [show j0 + (j + 1) = j0 + 1 + j by omega, this]
    congr 2
    unfold upd
    rw [if_neg (by omega)]
-- the shape of this world
def shape : List Sh := [.inr (11, [some 2, some 11, some 22, some 31, some 34, some 42, some 48, some 54, some 64, some 1, none]), .inl (12, false), .inr (7, [some 3, some 4, some 5, none]), .inl (12, false), .inl (12, false), .inl (16, false), .inr (1, [some 7, some 8, some 9, some 10, none, none]), .inl (60, false), .inl (60, false), .inl (60, false), .inl (60, false), .inr (9, [some 12, some 13, some 14, some 15, some 16, some 17, some 18, some 19, some 20, some 21, some 6, none]), .inl (24, false), .inl (24, false), .inl (24, false), .inl (24, false), .inl (24, false), .inl (192, false), .inl (192, false), .inl (192, false), .inl (100, false), .inl (100, false), .inr (10, [some 23, some 24, some 25, some 26, some 27, some 28, some 29, some 30, none]), .inl (20, false), .inl (20, false), .inl (20, false), .inl (20, false), .inl (20, false), .inl (20, false), .inl (20, false), .inl (20, false), .inr (3, [some 32, some 33, none]), .inl (90, false), .inl (720, false), .inr (8, [some 2, some 11, some 22, some 31, some 35, some 36, some 37, some 38, some 39, some 40, some 41, none, none]), .inl (30, false), .inl (30, false), .inl (30, true), .inl (210, false), .inl (210, false), .inl (210, false), .inl (210, false), .inr (4, [some 43, some 44, some 45, some 46, some 47, none, none, some 11, some 31]), .inl (132, false), .inl (132, false), .inl (132, false), .inl (1056, false), .inl (1056, false), .inr (5, [some 2, some 11, some 22, some 42, some 49, some 50, some 51, some 52, some 53, none, none]), .inl (696, false), .inl (360, false), .inl (12, false), .inl (12, false), .inl (4, false), .inr (2, [some 48, some 55, some 56, some 62, some 57, some 58, some 59, some 60, some 61, none, none]), .inl (290, false), .inl (3654, false), .inl (28, false), .inl (4, false), .inl (4, false), .inl (4, false), .inl (4, false), .inr (6, [some 63, none]), .inl (58, false), .inr (0, [some 11, some 65]), .inr (6, [some 66, none]), .inl (192, false), .inr (12, [none, none, none, none, none, some 68, some 69, some 70, some 71, some 72, some 73, some 74, some 75, some 76, some 77, some 78, some 79, some 80, some 81, some 82, some 83, some 84, some 85, some 86, some 87, some 88, some 89, some 90, some 91, some 92, some 93, none, none, none, some 94, some 95, some 96, some 97, some 98, some 99, none, none, some 100, some 101, some 102, some 103, some 104, some 105, some 106, none, none, none, none, some 107, some 108, some 109, some 110, none, none, some 111]), .inl (12, false), .inl (12, false), .inl (16, false), .inl (100, false), .inl (24, false), .inl (24, false), .inl (24, false), .inl (24, false), .inl (192, false), .inl (192, false), .inl (192, false), .inl (192, true), .inl (2400, true), .inl (20, false), .inl (20, false), .inl (20, false), .inl (20, false), .inl (20, false), .inl (20, false), .inl (20, false), .inl (20, false), .inl (60, false), .inl (60, false), .inl (60, false), .inl (60, false), .inl (19200, false), .inl (2400, false), .inl (2400, false), .inl (19200, false), .inl (19200, false), .inl (1344, false), .inl (1344, false), .inl (112, false), .inl (112, false), .inl (112, false), .inl (112, false), .inl (112, false), .inl (7056, false), .inl (63, false), .inl (30, false), .inl (30, false), .inl (1890, false), .inl (30, true), .inl (12, false)]
def wd (G : GA) (h : HP) : va_W := wdF G h 0 shape
def Inj (G : GA) : Prop := ∀ i j : Nat, i < shape.length → j < shape.length → G.1 i = G.1 j → i = j
def AG (G : GA) : Nat → Prop := fun q => ∃ k, k < shape.length ∧ q = G.1 k
theorem wd_get (G : GA) (h : HP) {k : Nat} {s : Sh} (e : shape[k]? = some s) : (wd G h)[k]? = some (G.1 k, ce G (h k) s) := by
  have := wdF_get G h shape 0 k s e
  rw [Nat.zero_add] at this
  exact this
theorem wd_set (G : GA) (h : HP) (f : Nat → Int32) {k : Nat} {s : Sh} (e : shape[k]? = some s) : (wd G h).set k (G.1 k, ce G f s) = wd G (hset h k f) := by
  have := wdF_set G h f shape 0 k s e
  rw [Nat.zero_add] at this
  exact this
theorem wd_D (G : GA) (h : HP) (hI : Inj G) : va_D (AG G) (wd G h) := by
  refine ⟨fun i j p q hi hj e => ?_, fun k q hk => ?_⟩
  · have h1 := wdF_inv G h shape 0 i p hi
    have h2 := wdF_inv G h shape 0 j q hj
    rw [Nat.zero_add] at h1 h2
    exact hI i j h1.2 h2.2 (by rw [← h1.1, ← h2.1]; exact e)
  · have h1 := wdF_inv G h shape 0 k q hk
    rw [Nat.zero_add] at h1
    exact ⟨k, h1.2, h1.1⟩
-- the words
def lwg : List Cond := lw_tbl.filter goodWord
theorem lwg_in {w : Cond} (h : w ∈ lw_tbl) (g : goodWord w = true) : w ∈ lwg := List.mem_filter.mpr ⟨h, g⟩
theorem lwg_at {w : Cond} (i : Nat) (h : lw_tbl[i]? = some w) (g : goodWord w = true) : w ∈ lwg := lwg_in (List.mem_of_getElem? h) g
theorem lwg_good {w : Cond} (h : w ∈ lwg) : (w.onTables && w.keeps) = true ∨ ∃ ty, w = .arrayClass ty := good_of_word (List.mem_filter.mp h).2
abbrev nestw : Cond := .methodLinkNest RX5 109 yX11_between "ConnectionDesk"
def KK (G : GA) (U : State) : Prop := va_K G.2.2 vwCl [(G.2.1.1, .int), (G.2.1.2, .boolean)] U ∧ va_Nw nestw U
theorem KK.warm {G : GA} {s U : State} (hW : s.WarmedH U.vm) (h : KK G s) : KK G U := ⟨va_K.moved hW.alike h.1, va_Nw.warmM hW h.2⟩
theorem KK.calling {G : GA} {U : State} {g : JFrame} {mk : MethodId} {a : Array Value} (h : KK G U) : KK G (U.calling g mk a) := ⟨va_K.moved (u := U) (U := U.calling g mk a) (Vm.Alike.refl U.vm) h.1, va_Nw.same (u := U) (U := U.calling g mk a) rfl rfl h.2⟩
-- a method: its name, its code, its locals, its answer, the frames and the words of locals that its callees want
abbrev MI : Type := MethodName × ByteArray × Nat × Option FieldType × Nat × Nat
def rmO (i : MI) : Room := { frames := i.2.2.2.2.1, cells := 0, slots := 0, locals := i.2.2.2.2.2 }
def cwO (i : MI) : Cond := .code i.1 i.2.1 i.2.2.1 i.2.2.2.1
def wsO (i : MI) : List Cond := cwO i :: lwg
theorem wsO_good {i j : MI} (h : cwO j ∈ lwg) : GoodIn (wsO i) (wsO j) := by
  intro w hw
  have h1 : w ∈ lwg := by
    rcases List.mem_cons.mp hw with e | e
    · rw [e]; exact h
    · exact e
  exact ⟨List.mem_cons_of_mem _ h1, lwg_good h1⟩
def PCO (G : GA) (As : List Value) (h : HP) : Array Value → State → Prop := fun v U => v = As.toArray ∧ KK G U ∧ va_P G.2.2 vwCl (wd G h) U.heap
def QCO (G : GA) (Q : Option Value → HP → Prop) : Array Value → State → Outcome → State → Prop := fun _ st o t => (∃ (v : Option Value) (h' : HP), o = .returned v ∧ Q v h' ∧ va_P G.2.2 vwCl (wd G h') t.heap) ∧ va_F (AG G) st t
def Sp (G : GA) (i : MI) (As : List Value) (h : HP) (Q : Option Value → HP → Prop) : Prop := Inj G → ∀ l : Launch, Met l i.1 (wsO i) (rmO i) (PCO G As h) (QCO G Q) 0 0 (AG G)
def Cx (G : GA) (i : MI) (p : Program) (s : State) (m : MethodId) (args : Array Value) (meth : Method) (c : Code) : Prop :=
  p.tables.exec = Jvm.exec ∧ c.code = i.2.1 ∧ c.maxLocals = i.2.2.1 ∧ meth.sig.returnType = i.2.2.2.1 ∧ meth.locks = false ∧ s.vm.findClass i.1.cls = some m.cls ∧ (∀ w ∈ wsO i, w.before args s = true) ∧ Inj G ∧ KK G s
def V (G : GA) (i : MI) (pc : Nat) (L : List (Nat × Value)) (st : List Value) (h : HP) (Q : Option Value → HP → Prop) : Prop :=
  ∀ (p : Program) (l : Launch) (e : Env) (s : State) (m : MethodId) (args : Array Value) (below : List Frame) (meth : Method) (c : Code) (H : Heap) (locs : List Loc) (ls : Array Slot),
    Cx G i p s m args meth c → va_P G.2.2 vwCl (wd G h) H → va_S (AG G) s.heap H locs → lv_has ls i.2.2.1 L →
    W p l e (rmO i) s m args below meth c H locs 0 0 (MQ below (QCO G Q) args s 0 0 (AG G)) (F0 m pc ls st)
theorem Met.ofWF {l : Launch} {y : MethodName} {ws ws' : List Cond} {rm : Room} {Pc : Array Value → State → Prop} {Qc : Array Value → State → Outcome → State → Prop} {mc ms : Nat} {free : Addr → Prop} {cc : ByteArray} {maxL : Nat} {ret : Option FieldType}
    (hy : plainFor y = true) (hw : ws = Cond.code y cc maxL ret :: ws')
    (body : ∀ p e s m args below meth c s₁, BodyLoose p l y (headSpec ws rm) cc maxL ret e s m args below meth c s₁ → c.maxLocals = maxL → Pc args s →
      W p l e (headSpec ws rm).room s m args below meth c s.heap [] 0 0 (MQ below Qc args s mc ms free) (entryFrame m args maxL)) : Met l y ws rm Pc Qc mc ms free := by
  refine MetFree.of_bodySF (code := cc) (maxLocals := maxL) (ret := ret) hy ?_ ?_
  · intro args s m h hn
    obtain ⟨meth, c, h1, h2, h3, h4, h5, h6, -, -⟩ := Cond.code_spec hn (atoms_spec (ws := ws) h _ (by rw [hw]; exact List.mem_cons_self))
    exact ⟨meth, c, h1, h2, h3, h4, h5, h6⟩
  · intro p e s m args below meth c s₁ B hml hP _
    have hh0 : s₁.heap = s.heap := by rw [B.state]; rfl
    obtain ⟨t, a1, o, b1, b2, b3⟩ := body p e s m args below meth c s₁ B hml hP s₁ hh0 (Stand.of_body B)
    exact ⟨t, o, a1, b1, b2, ⟨b3.1, b3.2⟩⟩
theorem Sp_of_V {G : GA} {i : MI} {As : List Value} {h : HP} {Q : Option Value → HP → Prop} {L : List (Nat × Value)} (hp : plainFor i.1 = true) (hn : (lg_sl As).length ≤ i.2.2.1) (hL : lv_args 0 As = L) (hV : V G i 0 L [] h Q) : Sp G i As h Q := by
  intro hI l
  refine Met.ofWF (cc := i.2.1) (maxL := i.2.2.1) (ret := i.2.2.2.1) hp rfl ?_
  intro p e s m args below meth c s₁ B hml hv
  obtain ⟨rfl, hK, hP⟩ := hv
  rw [lg_entry_eq]
  have hl := lv_entry As hn
  rw [hL] at hl
  exact hV p l e s m As.toArray below meth c s.heap [] _ ⟨B.exec, B.bytes, hml, B.returns, B.notSynchronized, findClass_of_methodNamed B.named, atoms_spec B.pre, hI, hK⟩ hP va_S.rf hl
theorem Sp.mono {G : GA} {i : MI} {As : List Value} {h : HP} {Q Q' : Option Value → HP → Prop} (hs : Sp G i As h Q) (hq : ∀ v h', Q v h' → Q' v h') : Sp G i As h Q' := by
  intro hI l
  have hM := hs hI l
  intro p e ha hc hk s m args below hf hpre hP hK
  obtain ⟨n, o, h1, h2, h3, h4⟩ := hM p e ha hc hk s m args below hf hpre hP hK
  obtain ⟨⟨⟨v, h', e1, e2, e3⟩, hF⟩, hL⟩ := h4
  exact ⟨n, o, h1, h2, h3, ⟨⟨v, h', e1, hq v h' e2, e3⟩, hF⟩, hL⟩
