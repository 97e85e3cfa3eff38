/-! ===== counting ===== -/
theorem cnt_add {p q r : Nat → Bool} (h : ∀ k, (p k = true → r k = true) ∧ (q k = true → r k = true) ∧ ¬ (p k = true ∧ q k = true)) : ∀ n, fa_cnt p n + fa_cnt q n ≤ fa_cnt r n
  | 0 => Nat.le_refl _
  | n + 1 => by
    have ih := cnt_add h n
    have hn := h n
    simp only [fa_cnt]
    cases hp : p n <;> cases hq : q n <;> cases hr : r n <;> simp [hp, hq, hr] at hn ⊢ <;> omega
theorem cnt_mono {p r : Nat → Bool} (h : ∀ k, p k = true → r k = true) : ∀ n, fa_cnt p n ≤ fa_cnt r n
  | 0 => Nat.le_refl _
  | n + 1 => by
    have ih := cnt_mono h n
    have hn := h n
    simp only [fa_cnt]
    cases hp : p n <;> cases hr : r n <;> simp [hp, hr] at hn ⊢ <;> omega
theorem cnt_le (p : Nat → Bool) : ∀ n, fa_cnt p n ≤ n
  | 0 => Nat.le_refl _
  | n + 1 => by
    have := cnt_le p n
    simp only [fa_cnt]
    split <;> omega
theorem cnt_one {p : Nat → Bool} {k : Nat} (hk : p k = true) : ∀ n, k < n → 1 ≤ fa_cnt p n
  | 0, h => by omega
  | n + 1, h => by
    simp only [fa_cnt]
    by_cases q : k = n
    · subst q; rw [hk]; simp
    · have := cnt_one hk n (by omega)
      omega
theorem ls_pos {N : HP} {t d k : Nat} : ∀ n, 0 < lsN N t d k n → ∃ q, q < n ∧ N 7 q = nI t ∧ N 8 q = nI d
  | 0, h => by simp [lsN] at h
  | n + 1, h => by
    simp only [lsN] at h
    by_cases c : N 7 n = nI t ∧ N 8 n = nI d ∧ N 9 n ≤ nI k
    · exact ⟨n, by omega, c.1, c.2.1⟩
    · rw [if_neg c] at h
      obtain ⟨q, h1, h2⟩ := ls_pos n h
      exact ⟨q, by omega, h2⟩
theorem okR_late {N : HP} (hN : NetOK N) {ask lim t d day : Nat} (ha : 1440 * day ≤ ask) (hd : d + 2 ≤ day) (h : okR N ask lim t d = true) : ∃ q, q < nL N ∧ N 7 q = nI t ∧ N 8 q = nI d := by
  simp only [okR, Bool.and_eq_true, decide_eq_true_eq] at h
  have h1 := h.2.2.1
  have h2 := aA_le hN t (nC N t - 1)
  unfold cT at h1
  refine ls_pos (nL N) (k := nC N t - 1) ?_
  show 0 < late N t d (nC N t - 1)
  omega
theorem dayR_len {N : HP} {ask lim d : Nat} : ∀ n, (dayR N ask lim d n).length ≤ n
  | 0 => Nat.le_refl _
  | n + 1 => by
    have := dayR_len (N := N) (ask := ask) (lim := lim) (d := d) n
    simp only [dayR, List.length_append]
    split <;> simp <;> omega
theorem dayR_cnt {N : HP} (hN : NetOK N) {ask lim d day : Nat} (ha : 1440 * day ≤ ask) (hd : d + 2 ≤ day) : ∀ n, n ≤ 24 → (dayR N ask lim d n).length ≤ fa_cnt (fun q => decide (N 8 q = nI d ∧ tn (N 7 q) < n)) (nL N)
  | 0, _ => Nat.zero_le _
  | n + 1, hn => by
    have ih := dayR_cnt hN (lim := lim) ha hd n (by omega)
    simp only [dayR, List.length_append]
    by_cases c : okR N ask lim n d = true
    · obtain ⟨q, h1, h2, h3⟩ := okR_late hN ha hd c
      have e1 := cnt_add (p := fun q => decide (N 8 q = nI d ∧ tn (N 7 q) < n)) (q := fun q => decide (N 8 q = nI d ∧ tn (N 7 q) = n)) (r := fun q => decide (N 8 q = nI d ∧ tn (N 7 q) < n + 1)) (fun k => by simp only [decide_eq_true_eq]; refine ⟨fun z => ⟨z.1, by omega⟩, fun z => ⟨z.1, by omega⟩, fun z => by omega⟩) (nL N)
      have e2 := cnt_one (p := fun q => decide (N 8 q = nI d ∧ tn (N 7 q) = n)) (k := q) (by simp only [decide_eq_true_eq]; exact ⟨h3, by rw [h2]; exact tnI (by omega)⟩) (nL N) h1
      rw [if_pos c]
      simp only [List.length_singleton]
      omega
    · rw [if_neg c]
      have e1 := cnt_mono (p := fun q => decide (N 8 q = nI d ∧ tn (N 7 q) < n)) (r := fun q => decide (N 8 q = nI d ∧ tn (N 7 q) < n + 1)) (fun k => by simp only [decide_eq_true_eq]; exact fun z => ⟨z.1, by omega⟩) (nL N)
      simp only [List.length_nil]
      omega
theorem allR_cnt {N : HP} (hN : NetOK N) {ask lim day : Nat} (ha : 1440 * day ≤ ask) (hday : day < 100) : ∀ d, d + 1 ≤ day → (allR N ask lim d).length ≤ fa_cnt (fun q => decide (tn (N 8 q) < d)) (nL N)
  | 0, _ => Nat.zero_le _
  | d + 1, hd => by
    have ih := allR_cnt hN (lim := lim) ha hday d (by omega)
    have h1 := dayR_cnt hN (lim := lim) ha (show d + 2 ≤ day by omega) (nT N) (nT_le hN)
    have e1 := cnt_add (p := fun q => decide (tn (N 8 q) < d)) (q := fun q => decide (N 8 q = nI d ∧ tn (N 7 q) < nT N)) (r := fun q => decide (tn (N 8 q) < d + 1)) (fun k => by
      simp only [decide_eq_true_eq]
      refine ⟨fun z => by omega, fun z => ?_, fun z => ?_⟩
      · rw [z.1, tnI (by omega)]; omega
      · have := z.1; rw [z.2.1, tnI (by omega)] at this; omega) (nL N)
    simp only [allR, List.length_append]
    omega
theorem dayR_nil {N : HP} {ask lim d : Nat} (h : ∀ t, okR N ask lim t d = false) : ∀ n, dayR N ask lim d n = []
  | 0 => rfl
  | n + 1 => by
    simp only [dayR, dayR_nil h n, h n]
    rfl
theorem okR_late_day {N : HP} {ask lim t d : Nat} (h : lim ≤ 1440 * d) : okR N ask lim t d = false := by
  unfold okR
  have : ¬ lT N t d 0 < lim := by unfold lT; omega
  rw [decide_eq_false this]
  simp
theorem allR_end {N : HP} {ask lim e : Nat} (h : lim ≤ 1440 * e) : ∀ m, allR N ask lim (e + m) = allR N ask lim e
  | 0 => rfl
  | m + 1 => by
    show allR N ask lim (e + m) ++ dayR N ask lim (e + m) (nT N) = _
    rw [dayR_nil (fun t => okR_late_day (by omega)), List.append_nil, allR_end h m]
theorem runsL_len {N : HP} (hN : NetOK N) {ask day : Nat} (ha : 1440 * day ≤ ask) (hday : day < 100) : ∀ d, (allR N ask (1440 * (day + 2)) d).length ≤ 132 := by
  have hl := nL_le hN
  have ht := nT_le hN
  have base : (allR N ask (1440 * (day + 2)) (day - 1)).length ≤ 60 := by
    rcases Nat.eq_zero_or_pos day with z | z
    · rw [z]; exact Nat.zero_le _
    · have h1 := allR_cnt hN (lim := 1440 * (day + 2)) ha hday (day - 1) (by omega)
      have h2 := cnt_le (fun q => decide (tn (N 8 q) < day - 1)) (nL N)
      omega
  have up1 : ∀ d, (allR N ask (1440 * (day + 2)) (d + 1)).length ≤ (allR N ask (1440 * (day + 2)) d).length + 24 := fun d => by
    have := dayR_len (N := N) (ask := ask) (lim := 1440 * (day + 2)) (d := d) (nT N)
    simp only [allR, List.length_append]
    omega
  have mono : ∀ m d, (allR N ask (1440 * (day + 2)) d).length ≤ (allR N ask (1440 * (day + 2)) (d + m)).length := by
    intro m
    induction m with
    | zero => intro d; exact Nat.le_refl _
    | succ m ih =>
      intro d
      have := ih d
      show _ ≤ (allR N ask (1440 * (day + 2)) (d + m) ++ dayR N ask (1440 * (day + 2)) (d + m) (nT N)).length
      rw [List.length_append]
      omega
  have top : (allR N ask (1440 * (day + 2)) (day + 2)).length ≤ 132 := by
    have h0 : (allR N ask (1440 * (day + 2)) 0).length = 0 := rfl
    generalize hL : (fun d => (allR N ask (1440 * (day + 2)) d).length) = L
    have up2 : ∀ d, L (d + 1) ≤ L d + 24 := fun d => by rw [← hL]; exact up1 d
    have h02 : L 0 = 0 := by rw [← hL]; exact h0
    have base2 : L (day - 1) ≤ 60 := by rw [← hL]; exact base
    have goal2 : L (day + 2) ≤ 132 := by
      rcases Nat.eq_zero_or_pos day with z | z
      · have a1 : L 1 ≤ L 0 + 24 := up2 0
        have a2 : L 2 ≤ L 1 + 24 := up2 1
        rw [z]
        show L 2 ≤ 132
        omega
      · have a0 : L (day - 1 + 1) ≤ L (day - 1) + 24 := up2 (day - 1)
        have a1 : L (day + 1) ≤ L day + 24 := up2 day
        have a2 : L (day + 2) ≤ L (day + 1) + 24 := up2 (day + 1)
        rw [show day - 1 + 1 = day by omega] at a0
        omega
    rw [← hL] at goal2
    exact goal2
  intro d
  rcases Nat.lt_or_ge d (day + 2) with z | z
  · have := mono (day + 2 - d) d
    rw [show d + (day + 2 - d) = day + 2 by omega] at this
    omega
  · have := allR_end (N := N) (ask := ask) (lim := 1440 * (day + 2)) (e := day + 2) (Nat.le_refl _) (d - (day + 2))
    rw [show day + 2 + (d - (day + 2)) = d by omega] at this
    rw [this]
    exact top
theorem dayR_pre {N : HP} {ask lim d : Nat} {t : Nat} : ∀ m, (dayR N ask lim d t).length ≤ (dayR N ask lim d (t + m)).length
  | 0 => Nat.le_refl _
  | m + 1 => by
    have := dayR_pre (N := N) (ask := ask) (lim := lim) (d := d) (t := t) m
    show _ ≤ (dayR N ask lim d (t + m) ++ _).length
    rw [List.length_append]
    omega
