/-! ===== ways: both have the same ways at hand ===== -/
theorem tm_top {N : HP} {rs : List (Nat × Nat)} {lim ask frm : Nat} {E R : Nat → Nat → Nat → Nat} (c : CxW N rs lim ask frm E R) {r f to a : Nat} {wk : Nat → Option Nat} {rv ri rj : Nat → Nat} (hr : r ≤ 3) (hal : a < lim) (lob : LoB N ask (E r) f to a) (tr : TR N rs lim ask E R wk rv ri rj r f to a 0) : tm N rs ask (fwl wk rv ri rj r) = a := by
  have hN := c.1
  have hl := c.2.2.2.1
  have hv := NVRe
  cases r with
  | zero =>
    unfold TR at tr
    rw [fwl]
    cases e : wk 0 with
    | none =>
      rw [e] at tr
      have tr : E 0 f to + 0 ≤ a := tr
      have lo := lob.1
      rw [c.2.2.1.1 f to] at tr lo
      show ask = a
      split at tr <;> split at lo <;> omega
    | some w =>
      rw [e] at tr
      obtain ⟨_, h2, h3, h4, _⟩ := tr
      have lo := lob.2 w h2 h3
      have ee : E 0 f (tn (N 23 w)) = ask := by
        rw [c.2.2.1.1 f (tn (N 23 w))]
        rw [c.2.2.1.1 f (tn (N 23 w))] at h4
        split
        · rfl
        · rename_i z
          rw [if_neg z, wE_never] at h4
          omega
      rw [ee] at h4 lo
      show wE N w ask ask = a
      omega
  | succ r =>
    unfold TR at tr
    obtain ⟨lw, lr, _⟩ := tr
    obtain ⟨t, d, w, w2, w3, w4, w5⟩ := lr.1
    have em : tm N rs ask (mdl wk rv ri rj (r + 1)) = cT N t d (rj (r + 1)) := by
      rw [mdl, tm_app]
      unfold sT rdS
      dsimp only
      rw [w.1]
    have ho : ∀ w, wk (r + 1) = some w → w < nW N := fun w e => by rw [e] at lw; exact lw.2.1
    have fit := Cd_fits (by' := thr N ask 0 (wk (r + 1)) (cT N t d (rj (r + 1)))) c (by omega) ho (show Cd N rs lim ask (R r) f (wk (r + 1)) to _ 0 (rv (r + 1)) (ri (r + 1)) (rj (r + 1)) from ⟨t, d, w, w2, w3, w4, Nat.le_refl _⟩)
    rw [fwl_mdl]
    cases e : wk (r + 1) with
    | none =>
      rw [e] at fit w5
      have fit : E (r + 1) f to + 0 ≤ cT N t d (rj (r + 1)) + 0 := fit
      have w5 : cT N t d (rj (r + 1)) + 0 ≤ a := w5
      have lo := lob.1
      rw [show ow none = [] from rfl, List.append_nil, em]
      omega
    | some w' =>
      rw [e] at fit w5 lw
      have fit : wE N w' (E (r + 1) f (tn (N 23 w'))) ask ≤ wE N w' (cT N t d (rj (r + 1))) ask := fit
      have w5 : wE N w' (cT N t d (rj (r + 1))) ask ≤ a := w5
      have lo := lob.2 w' lw.2.1 lw.2.2.1
      rw [show ow (some w') = [.inr w'] from rfl, tm_app, em]
      show wE N w' (cT N t d (rj (r + 1))) ask = a
      omega
def isR (s : St) : Bool := match s with
  | .inl _ => true
  | .inr _ => false
theorem ow_cnt (o : Option Nat) : (ow o).countP isR = 0 := by
  cases o <;> rfl
theorem fwl_cnt (wk : Nat → Option Nat) (rv ri rj : Nat → Nat) : ∀ r, (fwl wk rv ri rj r).countP isR = r
  | 0 => ow_cnt _
  | r + 1 => by
    rw [fwl, List.countP_append, List.countP_append, fwl_cnt wk rv ri rj r, ow_cnt]
    rfl
theorem rds_cnt {N : HP} (hN : NetOK N) {rs : List (Nat × Nat)} {ask B : Nat} {g : Nat → Int32} {S : List St} (lg : LgS N rs ask (fun q c => g (B + 9 * q + c)) S) (ok : OkS N rs S) : ∀ n, n ≤ S.length → rds g B n = (S.take n).countP isR
  | 0, _ => by
    rw [List.take_zero]
    rfl
  | n + 1, hn => by
    obtain ⟨s, hs⟩ : ∃ s, S[n]? = some s := ⟨S[n]'(by omega), List.getElem?_eq_getElem (by omega)⟩
    rw [rds_S, take_one hs, List.countP_append, rds_cnt hN lg ok n (by omega)]
    have hos := ok s (List.mem_of_getElem? hs)
    have c0 : g (B + 9 * n) = lrw N rs ask (tm N rs ask (S.take n)) s 0 := lg n s hs 0 (by decide)
    rw [c0]
    congr 1
    cases s with
    | inl y =>
      obtain ⟨v, i, j⟩ := y
      obtain ⟨t, d, hv, _⟩ := hos
      have : lrw N rs ask (tm N rs ask (S.take n)) (.inl (v, i, j)) 0 = N 12 t := by
        unfold lrw
        dsimp only
        rw [hv]
        rfl
      rw [this, if_pos (by have := kind_ride hN t; rw [fa_le] at this; exact this)]
      rfl
    | inr w =>
      have : lrw N rs ask (tm N rs ask (S.take n)) (.inr w) 0 = N 26 w := rfl
      rw [this, if_neg (by have := (kind_walk hN (show w < nW N from hos)).2; omega)]
      rfl
theorem leg_ok {N : HP} (hN : NetOK N) {rs : List (Nat × Nat)} (hok : ∀ (v t d : Nat), rs[v]? = some (t, d) → d < 100 ∧ t < nT N) {ask time : Nat} {s : St} {l : Nat → Int32} (hos : match s with
  | .inl (v, i, j) => ∃ t d, rs[v]? = some (t, d) ∧ i < j ∧ j < nC N t
  | .inr w => w < nW N) (hl : ∀ c, c < 9 → l c = lrw N rs ask time s c) : LegOK N l := by
  cases s with
  | inl y =>
    obtain ⟨v, i, j⟩ := y
    obtain ⟨t, d, hv, hij, hj⟩ := hos
    have e : ∀ c, c < 9 → l c = [N 12 t, nI t, nI (sA N t i), nI (sA N t j), nI (lT N t d i), nI (cT N t d j), nI d, nI i, nI j].getD c 0 := fun c hc => by
      rw [hl c hc]
      unfold lrw
      dsimp only
      rw [hv]
    exact Or.inr ⟨t, d, i, j, (hok v t d hv).2, (hok v t d hv).1, hij, hj, e 0 (by decide), e 1 (by decide), e 6 (by decide), e 7 (by decide), e 8 (by decide)⟩
  | inr w =>
    refine Or.inl ⟨?_, ⟨w, hos, hl 1 (by decide)⟩, hl 6 (by decide), hl 7 (by decide), hl 8 (by decide)⟩
    rw [hl 0 (by decide)]
    exact (kind_walk hN (show w < nW N from hos)).2
theorem TKR.k2 {h h' : HP} (r : TKR h) (e : ∀ k ∈ [31, 32, 33, 34, 35, 36, 37, 38, 39, 40, 41, 93, 107, 108, 109, 110], h' k = h k) (e4 : h' 67 4 = h 67 4) (g : Gr h h') : TKR h' := by
  have c : ∀ k, k ∈ [31, 32, 33, 34, 35, 36, 37, 38, 39, 40, 41, 93, 107, 108, 109, 110] → h' k = h k := e
  obtain ⟨n, h1, h2, h3, h4, h5, h6, h7⟩ := r
  refine ⟨n, h1, by rw [c 34 (by decide)]; exact h2, by rw [e4]; exact h3, by rw [c 34 (by decide), c 110 (by decide)]; exact h4, fun j hj => ?_, by unfold pS; rw [c 31 (by decide), c 33 (by decide), c 37 (by decide)]; exact h6, by rw [c 93 (by decide), c 110 (by decide)]; exact h7⟩
  obtain ⟨k, a, q1, q2, q3, q4, q5, q6, q7, q8, q9⟩ := h5 j hj
  unfold Tk1
  rw [c 36 (by decide), c 107 (by decide), c 35 (by decide), c 108 (by decide), c 37 (by decide), c 110 (by decide), c 109 (by decide), c 38 (by decide), c 39 (by decide), c 40 (by decide), c 41 (by decide)]
  refine ⟨k, a, q1, q2, q3, q4, q5, q6, q7, fun q hq => ?_, q9⟩
  obtain ⟨f1, f2, f3, f4, f5, f6⟩ := q8 q hq
  refine ⟨f1, f2, f3, f4, f5.gr g, fun t d => ?_⟩
  rw [rowN_c (c 31 (by decide)) (c 32 (by decide))]
  exact f6 t d
def wC : List Nat := [1, 42, 43, 44, 45, 46, 47, 48, 49, 50, 51, 52, 53, 54, 55, 56, 57, 58, 59, 60, 61, 62, 63, 64, 65, 66, 94, 95, 96, 97, 98, 99, 100, 101, 102, 103, 104, 105, 106, 111]
def wQ : List Nat := [31, 32, 33, 40, 41, 49, 50, 51, 52, 57]
theorem Rel.ways {h h' : HP} (r : Rel h) (a : AM wC wQ h h') (w : WR h') : Rel h' := by
  have hq : ∀ k ∈ wC, ¬ ((2 ≤ k ∧ k ≤ 41) ∨ (68 ≤ k ∧ k ≤ 93)) := by decide
  have e : ∀ k, (2 ≤ k ∧ k ≤ 41) ∨ (68 ≤ k ∧ k ≤ 93) → h' k = h k := fun k hk => a.1 k (fun z => hq k z hk) (by omega)
  have lo : ∀ k, 2 ≤ k → k ≤ 30 → h' k = h k := fun k h1 h2 => e k (Or.inl ⟨h1, by omega⟩)
  refine ⟨r.1.on lo, by unfold PlOK; rw [e 31 (by decide)]; exact r.2.1, r.2.2.1.same e (fun j hj => a.2 j (fun z => by have := (by decide : ∀ j ∈ wQ, ¬ j ≤ 3) j z; omega)), by rw [a.2 58 (by decide), a.1 0 (by decide) (by decide)]; exact r.2.2.2.1, w, r.2.2.2.2.2.k2 (fun k hk => a.1 k ((by decide : ∀ k ∈ [31, 32, 33, 34, 35, 36, 37, 38, 39, 40, 41, 93, 107, 108, 109, 110], k ∉ wC) k hk) ((by decide : ∀ k ∈ [31, 32, 33, 34, 35, 36, 37, 38, 39, 40, 41, 93, 107, 108, 109, 110], k ≠ 67) k hk)) (a.2 4 (by decide)) (Gr.on lo)⟩
/-- way i lies in both alike -/
theorem way_both {N h h' : HP} {rs : List (Nat × Nat)} {lim ask frm to : Nat} {E R : Nat → Nat → Nat → Nat} (c : CxW N rs lim ask frm E R) {i y : Nat} (wd : WD N rs lim ask E R to h i y) (wm : WM N rs lim ask E R to h' i y) (e55 : h' 55 = h 55) (e56 : h' 56 = h 56) (g : Gr N h') : Way1 h' ask i := by
  have hN := c.1
  have hl := c.2.2.2.1
  have ha := c.2.2.2.2.1
  have hv := NVRe
  obtain ⟨r, f, wk, rv, ri, rj, a1, a2, a3, a4, a5, w1, w2, w3, w4, w5, w6⟩ := wd
  obtain ⟨r', f', wk', rv', ri', rj', b1, b2, b3, b4, b5, v1, v2, v3, v4, v5, v6⟩ := wm
  obtain ⟨e1, e2⟩ := kw_inj a1 a2 b1 b2 (a4.symm.trans b4)
  subst e1 e2
  have un := a5.uniq b5
  have es : fwl wk rv ri rj r = fwl wk' rv' ri' rj' r := fwl_cong un.1 un.2
  rw [← es] at v1 v5
  have hln := fwl_len wk rv ri rj r
  have ok := fwl_ok a5.ok
  have ok2 := aR_ok c (to := to) a1 f
  have hlt := a3.1
  have lob : LoB N ask (E r) f to (aR N lim ask E to r f) := by
    refine ⟨?_, fun w hw hw2 => ?_⟩
    · rcases Nat.lt_or_ge (E r f to) lim with z | z
      · exact arr_le1 z
      · omega
    · rcases Nat.lt_or_ge (wE N w (E r f (tn (N 23 w))) ask) lim with z | z
      · exact arr_le2 hw hw2 z
      · omega
  have et := tm_top c a1 (by omega) lob a5
  have leg : ∀ q, q < (fwl wk rv ri rj r).length → (∀ c, c < 9 → h' 56 ((7 * i + q) * 9 + c) = h' 105 (63 * i + 9 * q + c)) ∧ LegOK h' (fun c => h' 105 (63 * i + 9 * q + c)) := by
    intro q hq
    obtain ⟨s, hs⟩ : ∃ s, (fwl wk rv ri rj r)[q]? = some s := ⟨(fwl wk rv ri rj r)[q], List.getElem?_eq_getElem hq⟩
    have k1 := w1 q s hs
    have k2 := v1 q s hs
    refine ⟨fun c hc => ?_, ?_⟩
    · have k1 := k1 c hc
      have k2 := k2 c hc
      rw [e56, Nat.mul_comm (7 * i + q) 9]
      exact k1.trans k2.symm
    · exact (leg_ok hN c.2.2.2.2.2.2.1 (ok s (List.mem_of_getElem? hs)) (fun c hc => k2 c hc)).gr g
  refine ⟨(fwl wk rv ri rj r).length, by omega, by rw [e55]; exact w6, v5, ?_, ?_, ?_, v6, ?_, leg, ?_⟩
  · rw [e55, w3, v2, et]
  · rw [e55, w4, v3]
  · rw [e55, w5, v4]
  · rw [e55, w2]
    by_cases z : (fwl wk rv ri rj r).length = 0
    · rw [if_pos z, if_pos z]
    · rw [if_neg z, if_neg z]
      have := (leg 0 (by omega)).1 4 (by decide)
      rw [e56] at this
      rw [show 9 * (7 * i) + 4 = (7 * i + 0) * 9 + 4 by omega]
      exact this
  · rw [rds_cnt hN v1 ok _ (Nat.le_refl _), List.take_length, fwl_cnt]
    exact a1
