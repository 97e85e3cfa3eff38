/-! ===== numbers kept in their order ===== -/
def SLs (h : HP) (a b : Nat) (L : List Nat) : Prop := h a 1 = nI L.length ∧ ∀ i y, L[i]? = some y → h b i = nI y
theorem srt_mid {A B : List Nat} {x : Nat} (s : (A ++ B).Pairwise (· ≤ ·)) (hA : ∀ y ∈ A, y ≤ x) (hB : ∀ y ∈ B, x ≤ y) : (A ++ x :: B).Pairwise (· ≤ ·) := by
  rw [List.pairwise_append] at s ⊢
  refine ⟨s.1, List.pairwise_cons.mpr ⟨hB, s.2.1⟩, fun a ha b hb => ?_⟩
  rcases List.mem_cons.mp hb with e | e
  · rw [e]; exact hA a ha
  · exact s.2.2 a ha b e
theorem c_ins65_loop {G : GA} {h : HP} {x : Nat} {L : List Nat} (hx : x < 2147483648) (e1 : h 65 1 = nI L.length) (hlen : L.length < 192) (srt : L.Pairwise (· ≤ ·)) (hb : ∀ y ∈ L, y < 2147483648) {K : HP → Prop} (kk : ∀ h' L', Agr [65, 66] h h' → (∀ j, j ≠ 1 → h' 65 j = h 65 j) → SLs h' 65 66 L' → L'.Perm (x :: L) → L'.Pairwise (· ≤ ·) → K h') :
    ∀ m A B h', A.length = m → L = A ++ B → (∀ y ∈ B, x < y) → Agr [66] h h' → (∀ i y, A[i]? = some y → h' 66 i = nI y) → (∀ i y, B[i]? = some y → h' 66 (A.length + 1 + i) = nI y) → H_Sorted_insert_65_18 G h' (nI x) (nI m) K := by
  have fin : ∀ A B h', L = A ++ B → (∀ y ∈ A, y ≤ x) → (∀ y ∈ B, x < y) → Agr [66] h h' → (∀ i y, A[i]? = some y → h' 66 i = nI y) → (∀ i y, B[i]? = some y → h' 66 (A.length + 1 + i) = nI y) → ∀ h1, h1 = up h' 66 A.length (nI x) → ∀ h3, h3 = up h1 65 1 (h' 65 1 + 1) → K h3 := by
    intro A B h' eL hA hB ag fA fB h1 g1 h3 g3
    have e' : h' 65 = h 65 := ag 65 (by decide)
    refine kk h3 (A ++ x :: B) ?_ (fun j hj => ?_) ⟨?_, fun i y hy => ?_⟩ (by rw [eL]; exact List.perm_middle) (srt_mid (by rw [← eL]; exact srt) hA (fun y hy => Nat.le_of_lt (hB y hy)))
    · intro k hk
      simp only [List.mem_cons, List.not_mem_nil, or_false, not_or] at hk
      rw [g3, up_ce _ _ _ hk.1, g1, up_ce _ _ _ hk.2]
      exact ag k (by simpa using hk.2)
    · rw [g3, up_sl _ _ hj, g1, up_ce _ _ _ (by decide), e']
    · rw [g3, up_at, e', e1, nI_1, eL]
      simp only [List.length_append, List.length_cons]
      rw [Nat.add_assoc]
    · rw [g3, up_ce _ _ _ (by decide), g1]
      rw [List.getElem?_append] at hy
      by_cases c : i < A.length
      · rw [if_pos c] at hy
        rw [up_sl _ _ (by omega)]
        exact fA i y hy
      · rw [if_neg c] at hy
        by_cases c2 : i = A.length
        · rw [c2, Nat.sub_self, List.getElem?_cons_zero] at hy
          rw [c2, up_at, Option.some.inj hy]
        · rw [up_sl _ _ c2]
          rw [show i - A.length = (i - A.length - 1) + 1 by omega, List.getElem?_cons_succ] at hy
          have := fB _ y hy
          rw [show A.length + 1 + (i - A.length - 1) = i by omega] at this
          exact this
  intro m
  induction m with
  | zero =>
    intro A B h' eA eL hB ag fA fB
    refine s_Sorted_insert_65_18 _ _ _ _ _ ?_
    rw [if_pos (by decide), show tn (nI 0) = 0 from rfl]
    refine ⟨in_nI (by decide) (by decide), ?_⟩
    have := fin A B h' eL (fun y hy => by rw [List.length_eq_zero_iff.mp eA] at hy; exact absurd hy List.not_mem_nil) hB ag fA fB
    rw [eA] at this
    exact this
  | succ m ih =>
    intro A B h' eA eL hB ag fA fB
    have hne : A ≠ [] := fun z => by rw [z] at eA; exact absurd eA (by simp)
    have hs : A = A.dropLast ++ [A.getLast hne] := (List.dropLast_concat_getLast hne).symm
    have hlA : A.dropLast.length = m := by rw [List.length_dropLast, eA]; rfl
    have hmL : A.length + B.length = L.length := by rw [eL, List.length_append]
    refine s_Sorted_insert_65_18 _ _ _ _ _ ?_
    have zl : A[m]? = some (A.getLast hne) := by
      rw [List.getLast_eq_getElem, List.getElem?_eq_getElem (by omega)]
      simp only [eA, Nat.add_sub_cancel]
    have zv := fA m _ zl
    have hz : A.getLast hne < 2147483648 := hb _ (by rw [eL]; exact List.mem_append_left _ (List.getLast_mem hne))
    rw [if_neg (by rw [show (0 : Int32) = nI 0 from rfl, leI (by omega) (by omega)]; omega), show nI (m + 1) - 1 = nI m from sub1 m, tnI (by omega), tnI (by omega), zv]
    refine ⟨in_nI (by omega) (by decide), ?_⟩
    by_cases c : nI (A.getLast hne) ≤ nI x
    · rw [if_pos c]
      rw [leI hz hx] at c
      refine ⟨in_nI (by omega) (by decide), ?_⟩
      have sA : A.Pairwise (· ≤ ·) := by rw [eL, List.pairwise_append] at srt; exact srt.1
      have := fin A B h' eL (fun y hy => ?_) hB ag fA fB
      · rw [eA] at this
        exact this
      · rw [hs] at hy sA
        rw [List.pairwise_append] at sA
        rcases List.mem_append.mp hy with w | w
        · exact Nat.le_trans (sA.2.2 y w _ (List.mem_singleton.mpr rfl)) c
        · rw [List.mem_singleton.mp w]; exact c
    · rw [if_neg c]
      rw [leI hz hx] at c
      refine ⟨in_nI (by omega) (by decide), ?_⟩
      intro g eg
      subst eg
      rw [show nI (m + 1) + (-1) = nI m by have := sub1 m; rw [Int32.sub_eq_add_neg] at this; exact this]
      refine ih A.dropLast (A.getLast hne :: B) _ hlA (eL.trans (by have q := congrArg (fun z => z ++ B) hs; rw [List.append_assoc] at q; exact q)) (fun y hy => ?_) ?_ (fun i y hy => ?_) (fun i y hy => ?_)
      · rcases List.mem_cons.mp hy with e | e
        · rw [e]; omega
        · exact hB y e
      · intro k hk
        rw [up_ce _ _ _ (by simpa using hk)]
        exact ag k hk
      · have hi : i < A.dropLast.length := by
          have := (List.getElem?_eq_some_iff.mp hy).1
          exact this
        rw [up_sl _ _ (by omega)]
        refine fA i y ?_
        rw [hs, List.getElem?_append, if_pos hi]
        exact hy
      · rw [hlA]
        by_cases ci : i = 0
        · rw [ci, List.getElem?_cons_zero] at hy
          rw [ci, Nat.add_zero, up_at, Option.some.inj hy]
        · rw [up_sl _ _ (by omega)]
          rw [show i = (i - 1) + 1 by omega, List.getElem?_cons_succ] at hy
          have := fB _ y hy
          rw [eA, show m + 1 + 1 + (i - 1) = m + 1 + i by omega] at this
          exact this
theorem c_ins65 {G : GA} {h : HP} {x : Nat} {L : List Nat} (hx : x < 2147483648) (so : SLs h 65 66 L) (hlen : L.length < 192) (srt : L.Pairwise (· ≤ ·)) (hb : ∀ y ∈ L, y < 2147483648) {K : HP → Prop} (kk : ∀ h' L', Agr [65, 66] h h' → (∀ j, j ≠ 1 → h' 65 j = h 65 j) → SLs h' 65 66 L' → L'.Perm (x :: L) → L'.Pairwise (· ≤ ·) → K h') : P_Sorted_insert_65 G h (nI x) K := by
  refine s_Sorted_insert_65_0 _ _ _ _ ?_
  rw [so.1, show (192 : Int32) = nI 192 from rfl, if_pos ((ltI (by omega) (by decide)).mpr hlen)]
  exact c_ins65_loop hx so.1 hlen srt hb kk L.length L [] h rfl (List.append_nil L).symm (fun y hy => absurd hy List.not_mem_nil) (Agr.refl _ _) so.2 (fun i y hy => by rw [List.getElem?_nil] at hy; cases hy)
theorem c_get65 {G : GA} {h : HP} {L : List Nat} (so : SLs h 65 66 L) (hlen : L.length ≤ 192) {i : Nat} {y : Nat} (hi : L[i]? = some y) {K : Int32 → HP → Prop} (kk : K (nI y) h) : P_Sorted_get_65 G h (nI i) K := by
  have hil : i < L.length := (List.getElem?_eq_some_iff.mp hi).1
  refine s_Sorted_get_65_0 _ _ _ _ ?_
  rw [if_neg (nIneg (by omega)), so.1, if_neg (by rw [leI (by omega) (by omega)]; omega), tnI (by omega), so.2 i y hi]
  exact ⟨in_nI (by omega) (by decide), kk⟩
theorem c_ins62_loop {G : GA} {h : HP} {x : Nat} {L : List Nat} (hx : x < 2147483648) (e1 : h 62 1 = nI L.length) (hlen : L.length < 58) (srt : L.Pairwise (· ≤ ·)) (hb : ∀ y ∈ L, y < 2147483648) {K : HP → Prop} (kk : ∀ h' L', Agr [62, 63] h h' → (∀ j, j ≠ 1 → h' 62 j = h 62 j) → SLs h' 62 63 L' → L'.Perm (x :: L) → L'.Pairwise (· ≤ ·) → K h') :
    ∀ m A B h', A.length = m → L = A ++ B → (∀ y ∈ B, x < y) → Agr [63] h h' → (∀ i y, A[i]? = some y → h' 63 i = nI y) → (∀ i y, B[i]? = some y → h' 63 (A.length + 1 + i) = nI y) → H_Sorted_insert_62_18 G h' (nI x) (nI m) K := by
  have fin : ∀ A B h', L = A ++ B → (∀ y ∈ A, y ≤ x) → (∀ y ∈ B, x < y) → Agr [63] h h' → (∀ i y, A[i]? = some y → h' 63 i = nI y) → (∀ i y, B[i]? = some y → h' 63 (A.length + 1 + i) = nI y) → ∀ h1, h1 = up h' 63 A.length (nI x) → ∀ h3, h3 = up h1 62 1 (h' 62 1 + 1) → K h3 := by
    intro A B h' eL hA hB ag fA fB h1 g1 h3 g3
    have e' : h' 62 = h 62 := ag 62 (by decide)
    refine kk h3 (A ++ x :: B) ?_ (fun j hj => ?_) ⟨?_, fun i y hy => ?_⟩ (by rw [eL]; exact List.perm_middle) (srt_mid (by rw [← eL]; exact srt) hA (fun y hy => Nat.le_of_lt (hB y hy)))
    · intro k hk
      simp only [List.mem_cons, List.not_mem_nil, or_false, not_or] at hk
      rw [g3, up_ce _ _ _ hk.1, g1, up_ce _ _ _ hk.2]
      exact ag k (by simpa using hk.2)
    · rw [g3, up_sl _ _ hj, g1, up_ce _ _ _ (by decide), e']
    · rw [g3, up_at, e', e1, nI_1, eL]
      simp only [List.length_append, List.length_cons]
      rw [Nat.add_assoc]
    · rw [g3, up_ce _ _ _ (by decide), g1]
      rw [List.getElem?_append] at hy
      by_cases c : i < A.length
      · rw [if_pos c] at hy
        rw [up_sl _ _ (by omega)]
        exact fA i y hy
      · rw [if_neg c] at hy
        by_cases c2 : i = A.length
        · rw [c2, Nat.sub_self, List.getElem?_cons_zero] at hy
          rw [c2, up_at, Option.some.inj hy]
        · rw [up_sl _ _ c2]
          rw [show i - A.length = (i - A.length - 1) + 1 by omega, List.getElem?_cons_succ] at hy
          have := fB _ y hy
          rw [show A.length + 1 + (i - A.length - 1) = i by omega] at this
          exact this
  intro m
  induction m with
  | zero =>
    intro A B h' eA eL hB ag fA fB
    refine s_Sorted_insert_62_18 _ _ _ _ _ ?_
    rw [if_pos (by decide), show tn (nI 0) = 0 from rfl]
    refine ⟨in_nI (by decide) (by decide), ?_⟩
    have := fin A B h' eL (fun y hy => by rw [List.length_eq_zero_iff.mp eA] at hy; exact absurd hy List.not_mem_nil) hB ag fA fB
    rw [eA] at this
    exact this
  | succ m ih =>
    intro A B h' eA eL hB ag fA fB
    have hne : A ≠ [] := fun z => by rw [z] at eA; exact absurd eA (by simp)
    have hs : A = A.dropLast ++ [A.getLast hne] := (List.dropLast_concat_getLast hne).symm
    have hlA : A.dropLast.length = m := by rw [List.length_dropLast, eA]; rfl
    have hmL : A.length + B.length = L.length := by rw [eL, List.length_append]
    refine s_Sorted_insert_62_18 _ _ _ _ _ ?_
    have zl : A[m]? = some (A.getLast hne) := by
      rw [List.getLast_eq_getElem, List.getElem?_eq_getElem (by omega)]
      simp only [eA, Nat.add_sub_cancel]
    have zv := fA m _ zl
    have hz : A.getLast hne < 2147483648 := hb _ (by rw [eL]; exact List.mem_append_left _ (List.getLast_mem hne))
    rw [if_neg (by rw [show (0 : Int32) = nI 0 from rfl, leI (by omega) (by omega)]; omega), show nI (m + 1) - 1 = nI m from sub1 m, tnI (by omega), tnI (by omega), zv]
    refine ⟨in_nI (by omega) (by decide), ?_⟩
    by_cases c : nI (A.getLast hne) ≤ nI x
    · rw [if_pos c]
      rw [leI hz hx] at c
      refine ⟨in_nI (by omega) (by decide), ?_⟩
      have sA : A.Pairwise (· ≤ ·) := by rw [eL, List.pairwise_append] at srt; exact srt.1
      have := fin A B h' eL (fun y hy => ?_) hB ag fA fB
      · rw [eA] at this
        exact this
      · rw [hs] at hy sA
        rw [List.pairwise_append] at sA
        rcases List.mem_append.mp hy with w | w
        · exact Nat.le_trans (sA.2.2 y w _ (List.mem_singleton.mpr rfl)) c
        · rw [List.mem_singleton.mp w]; exact c
    · rw [if_neg c]
      rw [leI hz hx] at c
      refine ⟨in_nI (by omega) (by decide), ?_⟩
      intro g eg
      subst eg
      rw [show nI (m + 1) + (-1) = nI m by have := sub1 m; rw [Int32.sub_eq_add_neg] at this; exact this]
      refine ih A.dropLast (A.getLast hne :: B) _ hlA (eL.trans (by have q := congrArg (fun z => z ++ B) hs; rw [List.append_assoc] at q; exact q)) (fun y hy => ?_) ?_ (fun i y hy => ?_) (fun i y hy => ?_)
      · rcases List.mem_cons.mp hy with e | e
        · rw [e]; omega
        · exact hB y e
      · intro k hk
        rw [up_ce _ _ _ (by simpa using hk)]
        exact ag k hk
      · have hi : i < A.dropLast.length := by
          have := (List.getElem?_eq_some_iff.mp hy).1
          exact this
        rw [up_sl _ _ (by omega)]
        refine fA i y ?_
        rw [hs, List.getElem?_append, if_pos hi]
        exact hy
      · rw [hlA]
        by_cases ci : i = 0
        · rw [ci, List.getElem?_cons_zero] at hy
          rw [ci, Nat.add_zero, up_at, Option.some.inj hy]
        · rw [up_sl _ _ (by omega)]
          rw [show i = (i - 1) + 1 by omega, List.getElem?_cons_succ] at hy
          have := fB _ y hy
          rw [eA, show m + 1 + 1 + (i - 1) = m + 1 + i by omega] at this
          exact this
theorem c_ins62 {G : GA} {h : HP} {x : Nat} {L : List Nat} (hx : x < 2147483648) (so : SLs h 62 63 L) (hlen : L.length < 58) (srt : L.Pairwise (· ≤ ·)) (hb : ∀ y ∈ L, y < 2147483648) {K : HP → Prop} (kk : ∀ h' L', Agr [62, 63] h h' → (∀ j, j ≠ 1 → h' 62 j = h 62 j) → SLs h' 62 63 L' → L'.Perm (x :: L) → L'.Pairwise (· ≤ ·) → K h') : P_Sorted_insert_62 G h (nI x) K := by
  refine s_Sorted_insert_62_0 _ _ _ _ ?_
  rw [so.1, show (58 : Int32) = nI 58 from rfl, if_pos ((ltI (by omega) (by decide)).mpr hlen)]
  exact c_ins62_loop hx so.1 hlen srt hb kk L.length L [] h rfl (List.append_nil L).symm (fun y hy => absurd hy List.not_mem_nil) (Agr.refl _ _) so.2 (fun i y hy => by rw [List.getElem?_nil] at hy; cases hy)
theorem c_get62 {G : GA} {h : HP} {L : List Nat} (so : SLs h 62 63 L) (hlen : L.length ≤ 58) {i : Nat} {y : Nat} (hi : L[i]? = some y) {K : Int32 → HP → Prop} (kk : K (nI y) h) : P_Sorted_get_62 G h (nI i) K := by
  have hil : i < L.length := (List.getElem?_eq_some_iff.mp hi).1
  refine s_Sorted_get_62_0 _ _ _ _ ?_
  rw [if_neg (nIneg (by omega)), so.1, if_neg (by rw [leI (by omega) (by omega)]; omega), tnI (by omega), so.2 i y hi]
  exact ⟨in_nI (by omega) (by decide), kk⟩
