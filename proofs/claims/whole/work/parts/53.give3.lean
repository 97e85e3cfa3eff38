/-! ===== give: what it needs ===== -/
theorem WR.k2 {h h' : HP} (r : WR h) (e : ∀ k ∈ [54, 55, 56, 100, 101, 102, 103, 104, 105], h' k = h k) (e41 : h' 67 41 = h 67 41) (g : Gr h h') : WR h' := by
  have c : ∀ k, k ∈ [54, 55, 56, 100, 101, 102, 103, 104, 105] → h' k = h k := e
  obtain ⟨m, a, h1, h2, h3, h4, h5, h6⟩ := r
  refine ⟨m, a, h1, h2, by rw [c 54 (by decide)]; exact h3, by rw [e41]; exact h4, by rw [c 54 (by decide)]; exact h5, fun i hi => ?_⟩
  obtain ⟨k, q1, q2, q3, q4, q5, q6, q7, q8, q9, q10⟩ := h6 i hi
  unfold Way1
  rw [c 55 (by decide), c 103 (by decide), c 100 (by decide), c 101 (by decide), c 102 (by decide), c 104 (by decide), c 105 (by decide), c 56 (by decide)]
  exact ⟨k, q1, q2, q3, q4, q5, q6, q7, q8, fun q hq => ⟨(q9 q hq).1, (q9 q hq).2.gr g⟩, q10⟩
theorem cnt_off {p p' : Nat → Bool} {j : Nat} (hp : p j = true) (hp' : p' j = false) (he : ∀ i, i ≠ j → p' i = p i) : ∀ n, fa_cnt p n = fa_cnt p' n + (if j < n then 1 else 0)
  | 0 => rfl
  | n + 1 => by
    have ih := cnt_off hp hp' he n
    by_cases c : n = j
    · subst c
      rw [fa_cnt_yes hp, fa_cnt_no hp', ih, if_neg (Nat.lt_irrefl _), if_pos (Nat.lt_succ_self _)]
    · have e := he n c
      have w : (if j < n + 1 then 1 else 0) = (if j < n then 1 else 0) := by
        by_cases c2 : j < n
        · rw [if_pos c2, if_pos (by omega)]
        · rw [if_neg c2, if_neg (by omega)]
      rw [w]
      cases c2 : p n
      · rw [fa_cnt_no c2, fa_cnt_no (by rw [e]; exact c2)]
        exact ih
      · rw [fa_cnt_yes c2, fa_cnt_yes (by rw [e]; exact c2), ih]
        omega
theorem pl_down {f : Nat → Int32} {B t d c : Nat} {v : Int32} (h1 : -1000 ≤ v.toInt) (h2 : v.toInt ≤ 1000) : ∀ q, q ≤ 100 → v.toInt - rds f B q ≤ (pl f B (-1) t d c q v).toInt ∧ (pl f B (-1) t d c q v).toInt ≤ v.toInt
  | 0, _ => by
    show v.toInt - (0 : Nat) ≤ v.toInt ∧ _
    exact ⟨by omega, Int.le_refl _⟩
  | q + 1, hq => by
    have ih := pl_down (f := f) (B := B) (t := t) (d := d) (c := c) h1 h2 q (by omega)
    have hr : rds f B q ≤ q := fa_cnt_le _ _
    rw [pl, rds_S]
    by_cases w : ovr f B t d c q
    · have k2 : (f (B + 9 * q)).toInt ≤ 2 := by rcases w.1 with e | e <;> (rw [e]; decide)
      have m1 : (-1 : Int32).toInt = -1 := rfl
      rw [if_pos w, if_pos k2, toInt_add (by omega) (by omega), m1]
      omega
    · rw [if_neg w]
      split <;> omega
theorem pl_up {f : Nat → Int32} {B t d c : Nat} {v : Int32} (h1 : -1000 ≤ v.toInt) (h2 : v.toInt ≤ 1000) : ∀ q, q ≤ 100 → v.toInt ≤ (pl f B 1 t d c q v).toInt ∧ (pl f B 1 t d c q v).toInt ≤ v.toInt + rds f B q
  | 0, _ => by
    show _ ∧ v.toInt ≤ v.toInt + (0 : Nat)
    exact ⟨Int.le_refl _, by omega⟩
  | q + 1, hq => by
    have ih := pl_up (f := f) (B := B) (t := t) (d := d) (c := c) h1 h2 q (by omega)
    have hr : rds f B q ≤ q := fa_cnt_le _ _
    rw [pl, rds_S]
    by_cases w : ovr f B t d c q
    · have k2 : (f (B + 9 * q)).toInt ≤ 2 := by rcases w.1 with e | e <;> (rw [e]; decide)
      have m1 : (1 : Int32).toInt = 1 := rfl
      rw [if_pos w, if_pos k2, toInt_add (by omega) (by omega), m1]
      omega
    · rw [if_neg w]
      split <;> omega
theorem TL.on {h h' : HP} {j k a : Nat} (t : TL h j k a) (e : ∀ i ∈ [35, 36, 38, 39, 40, 41, 107, 108, 109], h' i = h i) (g : Gr h h') : TL h' j k a := by
  have c : ∀ i, i ∈ [35, 36, 38, 39, 40, 41, 107, 108, 109] → h' i = h i := e
  unfold TL at *
  rw [c 36 (by decide), c 107 (by decide), c 35 (by decide), c 108 (by decide), c 38 (by decide), c 39 (by decide), c 40 (by decide), c 41 (by decide), c 109 (by decide)]
  obtain ⟨t1, t2, t3, t4, t5, t6, t7, t8⟩ := t
  exact ⟨t1, t2, t3, t4, t5, t6, t7, fun q hq => ⟨(t8 q hq).1, (t8 q hq).2.1, (t8 q hq).2.2.1, (t8 q hq).2.2.2.1, (t8 q hq).2.2.2.2.gr g⟩⟩
