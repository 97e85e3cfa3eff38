/-! ===== the law: its rows over the fixed world ===== -/
def LC (p : Program) (s : State) (m : MethodId) (meth : Method) (c : Code) (b L : Nat) (xs : Nat → Int32) (G : GA) : Prop := lw_At p s m meth c b L xs ∧ Inj G ∧ KK G s ∧ ∀ k, k < shape.length → s.heap.size ≤ G.1 k
def Lj (p : Program) (l : Launch) (e : Env) (s : State) (m : MethodId) (below : List Frame) (meth : Method) (c : Code) (b : Nat) (G : GA) (pc : Nat) (Lo : List (Nat × Value)) (st : List Value) (h : HP) : Prop :=
  ∀ (H : Heap) (locs : List Loc) (ls : Array Slot), va_P G.2.2 vwCl (wd G h) H → va_S (fun q : Nat => s.heap.size ≤ q) s.heap H locs → lv_has ls 4 Lo → W p l e room_1 s m #[Value.ref b] below meth c H locs 600000 7302250 (lw_Z below #[Value.ref b] s) (F0 m pc ls st)
section
variable {p : Program} {l : Launch} {e : Env} {s : State} {m : MethodId} {below : List Frame} {meth : Method} {c : Code} {b L : Nat} {xs : Nat → Int32} {G : GA} {pc : Nat} {Lo : List (Nat × Value)} {st : List Value} {h : HP}
theorem Y_al {n : Fin 4} {j q x : Nat} (C : LC p s m meth c b L xs G) (hd : decode code pc = .ok (.aload_n n, 1)) (hn : (n : Nat) = j) (hL : Lo[q]? = some (j, .ref x)) (k : Lj p l e s m below meth c b G (pc + 1) Lo (.ref x :: st) h) : Lj p l e s m below meth c b G pc Lo st h := by
  intro H locs ls hP hS hl
  exact lv_aload_n C.1.1 C.1.2.1 hd hn (lv_at hl q hL) (k H locs ls hP hS hl)
theorem Y_il {n : Fin 4} {j q : Nat} {x : Int32} (C : LC p s m meth c b L xs G) (hd : decode code pc = .ok (.iload_n n, 1)) (hn : (n : Nat) = j) (hL : Lo[q]? = some (j, .int x)) (k : Lj p l e s m below meth c b G (pc + 1) Lo (.int x :: st) h) : Lj p l e s m below meth c b G pc Lo st h := by
  intro H locs ls hP hS hl
  exact lv_iload_n C.1.1 C.1.2.1 hd hn (lv_at hl q hL) (k H locs ls hP hS hl)
theorem Y_ic {n : Int} {v : Int32} (C : LC p s m meth c b L xs G) (hd : decode code pc = .ok (.iconst n, 1)) (hv : Int32.ofInt n = v) (k : Lj p l e s m below meth c b G (pc + 1) Lo (.int v :: st) h) : Lj p l e s m below meth c b G pc Lo st h := by
  intro H locs ls hP hS hl
  exact lv_iconst C.1.1 C.1.2.1 hd hv (k H locs ls hP hS hl)
theorem Y_bi {n : Int} {v : Int32} (C : LC p s m meth c b L xs G) (hd : decode code pc = .ok (.bipush n, 2)) (hv : (Int8.ofInt n).toInt32 = v) (k : Lj p l e s m below meth c b G (pc + 2) Lo (.int v :: st) h) : Lj p l e s m below meth c b G pc Lo st h := by
  intro H locs ls hP hS hl
  exact lv_bipush C.1.1 C.1.2.1 hd hv (k H locs ls hP hS hl)
theorem Y_iadd {x y : Int32} (C : LC p s m meth c b L xs G) (hd : decode code pc = .ok (.iadd, 1)) (k : Lj p l e s m below meth c b G (pc + 1) Lo (.int (x + y) :: st) h) : Lj p l e s m below meth c b G pc Lo (.int y :: .int x :: st) h := by
  intro H locs ls hP hS hl
  exact lv_iadd C.1.1 C.1.2.1 hd (k H locs ls hP hS hl)
theorem Y_isub {x y : Int32} (C : LC p s m meth c b L xs G) (hd : decode code pc = .ok (.isub, 1)) (k : Lj p l e s m below meth c b G (pc + 1) Lo (.int (x - y) :: st) h) : Lj p l e s m below meth c b G pc Lo (.int y :: .int x :: st) h := by
  intro H locs ls hP hS hl
  exact lv_isub C.1.1 C.1.2.1 hd (k H locs ls hP hS hl)
theorem Y_iand {x y : Int32} (C : LC p s m meth c b L xs G) (hd : decode code pc = .ok (.iand, 1)) (k : Lj p l e s m below meth c b G (pc + 1) Lo (.int (x &&& y) :: st) h) : Lj p l e s m below meth c b G pc Lo (.int y :: .int x :: st) h := by
  intro H locs ls hP hS hl
  exact lv_iand C.1.1 C.1.2.1 hd (k H locs ls hP hS hl)
theorem Y_goto {off : Int} {tgt : Nat} (C : LC p s m meth c b L xs G) (hd : decode code pc = .ok (.goto off, 3)) (ht : (pc : Int) + off = (tgt : Int)) (k : Lj p l e s m below meth c b G tgt Lo st h) : Lj p l e s m below meth c b G pc Lo st h := by
  intro H locs ls hP hS hl
  exact lv_goto C.1.1 C.1.2.1 hd ht (k H locs ls hP hS hl)
theorem Y_ifeq {x : Int32} {off : Int} {tgt : Nat} (C : LC p s m meth c b L xs G) (hd : decode code pc = .ok (.ifCond .eq off, 3)) (ht : (pc : Int) + off = (tgt : Int)) (kt : x = 0 → Lj p l e s m below meth c b G tgt Lo st h) (kf : ¬ x = 0 → Lj p l e s m below meth c b G (pc + 3) Lo st h) : Lj p l e s m below meth c b G pc Lo (.int x :: st) h := by
  intro H locs ls hP hS hl
  exact lv_if_eq C.1.1 C.1.2.1 hd ht (fun q => kt q H locs ls hP hS hl) (fun q => kf q H locs ls hP hS hl)
theorem Y_eq {x y : Int32} {off : Int} {tgt : Nat} (C : LC p s m meth c b L xs G) (hd : decode code pc = .ok (.if_icmp .eq off, 3)) (ht : (pc : Int) + off = (tgt : Int)) (kt : x = y → Lj p l e s m below meth c b G tgt Lo st h) (kf : ¬ x = y → Lj p l e s m below meth c b G (pc + 3) Lo st h) : Lj p l e s m below meth c b G pc Lo (.int y :: .int x :: st) h := by
  intro H locs ls hP hS hl
  exact lv_icmp_eq C.1.1 C.1.2.1 hd ht (fun q => kt q H locs ls hP hS hl) (fun q => kf q H locs ls hP hS hl)
theorem Y_gt {x y : Int32} {off : Int} {tgt : Nat} (C : LC p s m meth c b L xs G) (hd : decode code pc = .ok (.if_icmp .gt off, 3)) (ht : (pc : Int) + off = (tgt : Int)) (kt : y < x → Lj p l e s m below meth c b G tgt Lo st h) (kf : ¬ y < x → Lj p l e s m below meth c b G (pc + 3) Lo st h) : Lj p l e s m below meth c b G pc Lo (.int y :: .int x :: st) h := by
  intro H locs ls hP hS hl
  exact lv_icmp_gt C.1.1 C.1.2.1 hd ht (fun q => kt q H locs ls hP hS hl) (fun q => kf q H locs ls hP hS hl)
theorem Y_iinc {j q : Nat} {n : Int} {x a : Int32} {L' : List (Nat × Value)} (C : LC p s m meth c b L xs G) (hd : decode code pc = .ok (.iinc j n, 3)) (hq : Lo[q]? = some (j, .int x)) (ha : Int32.ofInt n = a) (hj : j < 4) (hc : cat1 Lo = true) (hL : lset j (.int (x + a)) Lo = L') (k : Lj p l e s m below meth c b G (pc + 3) L' st h) : Lj p l e s m below meth c b G pc Lo st h := by
  intro H locs ls hP hS hl
  exact lv_iinc C.1.1 C.1.2.1 hd hl hq (by rw [ha]) hj rfl (fun ls' hl' => k H locs ls' hP hS (hL ▸ lset_has hc hl'))
theorem Y_slen (C : LC p s m meth c b L xs G) (hd : decode code pc = .ok (.arraylength, 1)) (k : Lj p l e s m below meth c b G (pc + 1) Lo (.int (nI L) :: st) h) : Lj p l e s m below meth c b G pc Lo (.ref b :: st) h := by
  intro H locs ls hP hS hl
  have hbl := C.1.2.2.2.2.2.2.2.1
  exact va_slen C.1.1 C.1.2.1 C.1.2.2.2.2.2.2.1 hbl (Nat.not_le.mpr hbl) hS hd (k H locs ls hP hS hl)
theorem Y_sld {x : Int32} (C : LC p s m meth c b L xs G) (hin : vp_in x L) (hd : decode code pc = .ok (.iaload, 1)) (k : Lj p l e s m below meth c b G (pc + 1) Lo (.int (xs (tn x)) :: st) h) : Lj p l e s m below meth c b G pc Lo (.int x :: .ref b :: st) h := by
  intro H locs ls hP hS hl
  have hbl := C.1.2.2.2.2.2.2.2.1
  exact va_sld C.1.1 C.1.2.1 C.1.2.2.2.2.2.2.1 hbl (Nat.not_le.mpr hbl) hS hin hd (k H locs ls hP hS hl)
theorem Y_tabOut {dflt lo hi : Int} {offs : Array Int} {len tgt : Nat} {x : Int32} (C : LC p s m meth c b L xs G) (hd : decode code pc = .ok (.tableswitch dflt lo hi offs, len)) (hx : x.toInt < lo ∨ hi < x.toInt) (ht : (pc : Int) + dflt = (tgt : Int)) (k : Lj p l e s m below meth c b G tgt Lo st h) : Lj p l e s m below meth c b G pc Lo (.int x :: st) h := by
  intro H locs ls hP hS hl
  exact lv_tableOut C.1.1 C.1.2.1 hd hx ht (k H locs ls hP hS hl)
theorem Y_tabIn {dflt lo hi : Int} {offs : Array Int} {len tgt : Nat} {x : Int32} {off : Int} (C : LC p s m meth c b L xs G) (hd : decode code pc = .ok (.tableswitch dflt lo hi offs, len)) (h1 : ¬ x.toInt < lo) (h2 : ¬ hi < x.toInt) (ho : offs[(x.toInt - lo).toNat]? = some off) (ht : (pc : Int) + off = (tgt : Int)) (k : Lj p l e s m below meth c b G tgt Lo st h) : Lj p l e s m below meth c b G pc Lo (.int x :: st) h := by
  intro H locs ls hP hS hl
  exact lv_tableIn C.1.1 C.1.2.1 hd h1 h2 ho ht (k H locs ls hP hS hl)
theorem Y_ret (C : LC p s m meth c b L xs G) (hd : decode code pc = .ok (.ireturn, 1)) : Lj p l e s m below meth c b G pc Lo [.int 1] h := by
  intro H locs ls hP hS hl
  obtain ⟨hx, hb, hr, hml, hown, hts, hX, hbl, hlocks, hgv⟩ := C.1
  refine va_forget (fun q hq => hS.2.2 q hq) ?_
  exact lw_ret hx hb hr hlocks hd
theorem wsO_tbl {j : MI} (h : cwO j ∈ lwg) : GoodIn lw_tbl (wsO j) := by
  intro w hw
  have h1 : w ∈ lwg := by
    rcases List.mem_cons.mp hw with e | e
    · rw [e]; exact h
    · exact e
  exact ⟨(List.mem_filter.mp h1).1, lwg_good h1⟩
theorem lwg_tbl {w : Cond} (h : w ∈ lwg) : w ∈ lw_tbl := (List.mem_filter.mp h).1
theorem Y_call {j : MI} {idx n k0 ci : Nat} {fl : List (Option Nat)} {r : vw_C} {K : Int32 → HP → Prop} (As rest : List Value) (C : LC p s m meth c b L xs G) (hcw : cwO j ∈ lwg) (hml : Cond.methodLink R_law idx j.1 ∈ lw_tbl) (hini : Cond.initialized j.1.cls ∈ lwg) (hnd : j.1.cls ≠ "java/lang/invoke/MethodHandle" ∧ j.1.cls ≠ "java/lang/invoke/VarHandle" ∧ (parseMethodDescriptor j.1.desc).map (fun d => d.parameters.length) = some n) (hro : (rmO j).frames + 1 ≤ room_1.frames ∧ 8 + (j.2.2.1 + 11) + (rmO j).locals ≤ room_1.locals) (him : Cond.instanceMethod j.1 ∈ lwg) (hse : Cond.selects j.1.cls j.1 j.1 ∈ lwg)
    (hd : decode code pc = .ok (.invokevirtual idx, 3)) (hs : shape[k0]? = some (.inr (ci, fl))) (hcl : vwCl[ci]? = some r) (hrc : r.1 = j.1.cls) (hn : As.length = n) (hst : st = As.reverse ++ .ref (G.1 k0) :: rest) (hr : (rest.map fun v => v.category).sum ≤ 8)
    (t : Sp G j (.ref (G.1 k0) :: As) h (qI K)) (kk : ∀ v h', K v h' → Lj p l e s m below meth c b G (pc + 3) Lo (.int v :: rest) h') : Lj p l e s m below meth c b G pc Lo st h := by
  intro H locs ls hP hS hl
  obtain ⟨hx, hb, hret, hml2, hown, hts, hX, hbl, hlocks, hgv⟩ := C.1
  have ok : ∀ {w : Cond}, w ∈ lwg → w.before #[Value.ref b] s = true := fun hw => hts _ (lwg_tbl hw)
  have hK := C.2.2.1
  have hr0 : va_Run p l e room_1 s m #[Value.ref b] below meth c H locs 600000 7302250 0 0 (F0 m pc ls st) rest (QCO G (qI K) (Value.ref (G.1 k0) :: As).toArray) (AG G) :=
    va_runV (As := As) (rest := rest) (b := G.1 k0) (C := j.1.cls) ⟨hx, hb, hml2, hown, hts⟩ (t C.2.1 l) ⟨callB_of (bytes := j.2.1) (maxL := j.2.2.1) (ret := j.2.2.2.1) n hts (wsO_tbl hcw) rfl rfl rfl (ok hini) (hts _ hml) hnd hro, ok him, ok hse⟩ ⟨PCO.blind G _ h, hrc ▸ va_recv hK.1 hP hcl (wd_get G h hs), fun U hU hW => ⟨rfl, hK.warm hW, by rw [hU]; exact hP⟩⟩ rfl hn hl.1 hst (lv_room hr) hd ⟨Nat.le_refl _, Nat.le_refl _⟩
  intro T hT X
  obtain ⟨v, st₀, t2, T', Ls, h0, X', hL, e1, e2, ⟨⟨v', h', hv, hq, hP'⟩, hz, hk⟩, stp⟩ := hr0 T hT X
  cases hv
  rw [h0] at hz hk
  obtain ⟨r1, er, hKr⟩ := hq
  have hAG : ∀ q : Nat, q < s.heap.size → ¬ AG G q := fun q h1 ⟨k, h2, h3⟩ => by
    have := C.2.2.2 k h2
    rw [h3] at h1
    omega
  have hS' : va_S (fun q : Nat => s.heap.size ≤ q) s.heap T'.heap (locs ++ Ls) := ⟨Nat.le_trans hS.1 (by rw [e1]; exact hz), fun q h1 h2 => by rw [e1, hk q (Nat.lt_of_lt_of_le h1 hS.1) (hAG q h1)]; exact hS.2.1 q h1 h2, fun q hq => by
      rcases List.mem_append.mp hq with h | h
      · exact hS.2.2 q h
      · obtain ⟨k, h2, h3⟩ := hL q h
        show s.heap.size ≤ q.base
        rw [h3]
        exact C.2.2.2 k h2⟩
  subst er
  obtain ⟨t3, a1, b1⟩ := kk r1 h' hKr T'.heap (locs ++ Ls) ls (by rw [e1]; exact hP') hS' hl T' rfl X'
  exact ⟨t3, stp t3 a1, b1⟩
end
