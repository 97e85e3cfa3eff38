/-! ===== places change ===== -/
theorem c_change_24 {G : GA} {h : HP} {r off : Nat} {b : Int32} (hr : r < 90) (ho : off ≤ 8) {K : HP → Prop} {on : Nat}
    (kk : ∀ h', Agr [33] h h' → (∀ j, h' 33 j = if 8 * r + on ≤ j ∧ j < 8 * r + off then h 33 j + b else h 33 j) → K h') :
    ∀ m c h', off - c = m → on ≤ c → (c ≤ off ∨ on = c) → Agr [33] h h' → (∀ j, h' 33 j = if 8 * r + on ≤ j ∧ j < 8 * r + c then h 33 j + b else h 33 j) → c < 100 → H_Places_change_24 G h' (nI off) b (nI r) (nI c) K
  | 0, c, h', e, h1, h2, ag, hx, hc => by
    refine s_Places_change_24 _ _ _ _ _ _ _ ?_
    rw [if_neg (nIneg (by omega)), if_pos (by rw [leI (by omega) (by omega)]; omega)]
    refine kk h' ag (fun j => ?_)
    rw [hx j]
    by_cases c1 : 8 * r + on ≤ j ∧ j < 8 * r + c
    · rw [if_pos c1, if_pos (by omega)]
    · rw [if_neg c1, if_neg (by omega)]
  | m + 1, c, h', e, h1, h2, ag, hx, hc => by
    refine s_Places_change_24 _ _ _ _ _ _ _ ?_
    rw [if_neg (nIneg (by omega)), if_neg (by rw [leI (by omega) (by omega)]; omega), ix8, tnI (by omega), nI_1, hx, if_neg (by omega)]
    refine ⟨in_nI (by omega) (by decide), ?_⟩
    intro g eg
    subst eg
    refine c_change_24 hr ho kk m (c + 1) _ (by omega) (by omega) (Or.inl (by omega)) (ag.up (by decide) _ _) (fun j => ?_) (by omega)
    by_cases c1 : j = 8 * r + c
    · subst c1
      rw [up_at, if_pos (by omega)]
    · rw [up_sl _ _ c1, hx j]
      by_cases c2 : 8 * r + on ≤ j ∧ j < 8 * r + c
      · rw [if_pos c2, if_pos (by omega)]
      · rw [if_neg c2, if_neg (by omega)]
theorem fr_app {N N' : HP} {key : Int32} : ∀ m n, (∀ j, n ≤ j → j < n + m → N' 32 j = N 32 j) → fr N' key (m + 1) n = match fr N key m n with
    | some r => some r
    | none => if N' 32 (n + m) = key then some (n + m) else none
  | 0, n, _ => by
    simp only [fr, Nat.add_zero]
  | m + 1, n, e => by
    have ih := fr_app (N := N) (N' := N') (key := key) m (n + 1) (fun j h1 h2 => e j (by omega) (by omega))
    rw [fr, ih, e n (Nat.le_refl _) (by omega)]
    conv => rhs; rw [fr]
    by_cases c : N 32 n = key
    · rw [if_pos c, if_pos c]
    · rw [if_neg c, if_neg c, show n + 1 + m = n + (m + 1) by omega]
theorem key_eq {t d t' d' : Nat} (ht : t < 24) (hd : d < 100) (ht' : t' < 24) (hd' : d' < 100) (e : nI (100 * t + d) = nI (100 * t' + d')) : t = t' ∧ d = d' := by
  have := (eqI (by omega) (by omega)).mp e
  omega
theorem row_lt {h : HP} {t d r : Nat} (e : rowN h t d = some r) : r < pS h ∧ h 32 r = nI (100 * t + d) := by
  have := fr_lt _ _ _ e
  exact ⟨by omega, this.2.2⟩
/-- what changing the places of a leg does -/
def Chg (h h' : HP) (t d on off : Nat) (b : Int32) : Prop :=
  Agr [31, 32, 33] h h' ∧ PlOK h' ∧ (pS h ≤ pS h' ∧ pS h' ≤ pS h + 1 ∧ (rowN h t d ≠ none → pS h' = pS h)) ∧ rowN h' t d ≠ none ∧ (∀ t' d', rowN h t' d' ≠ none → rowN h' t' d' ≠ none) ∧ (∀ j, 8 * pS h' ≤ j → h' 33 j = 0) ∧
  ∀ t' d' k, t' < 24 → d' < 100 → k < 8 → tkN h' t' d' k = if (t' = t ∧ d' = d) ∧ on ≤ k ∧ k < off then tkN h t' d' k + b else tkN h t' d' k
theorem c_change {G : GA} {h : HP} (hP : PlOK h) (hz : ∀ j, 8 * pS h ≤ j → h 33 j = 0) {t d on off : Nat} {b : Int32} (ht : t < 24) (hd : d < 100) (ho : on ≤ off) (h8 : off ≤ 8) (hfree : rowN h t d ≠ none ∨ pS h < 90) {K : HP → Prop} (kk : ∀ h', Chg h h' t d on off b → K h') : P_Places_change G h (nI t) (nI d) (nI on) (nI off) b K := by
  have hp := pS_le hP
  refine s_Places_change_0 _ _ _ _ _ _ _ _ ?_
  refine c_rowOf hP (On.refl h) ?_
  cases c : rowN h t d with
  | some r =>
    obtain ⟨r1, r2⟩ := row_lt c
    rw [show o2i (some r) = nI r from rfl, if_pos (nIpos (by omega))]
    refine c_change_24 (h := h) (on := on) (by omega) h8 (fun h' ag hx => ?_) (off - on) on h (by omega) (Nat.le_refl _) (Or.inr rfl) (Agr.refl _ _) (fun j => by rw [if_neg (by omega)]) (by omega)
    have e31 := ag 31 (by decide)
    have e32 := ag 32 (by decide)
    have eS : pS h' = pS h := by unfold pS; rw [e31]
    have hrow := fun t' d' => rowN_c (h := h) (h' := h') e31 e32 t' d'
    refine kk h' ⟨ag.mono (by decide), by unfold PlOK; rw [e31]; exact hP, ⟨by omega, by omega, fun _ => eS⟩, by rw [hrow, c]; exact (fun z => by cases z), fun t' d' q => by rw [hrow]; exact q, fun j hj => ?_, fun t' d' k h1 h2 h3 => ?_⟩
    · rw [hx j, if_neg (by omega)]
      exact hz j (by omega)
    · unfold tkN
      rw [hrow]
      by_cases e : t' = t ∧ d' = d
      · rw [e.1, e.2, c]
        dsimp only
        rw [hx]
        by_cases q : on ≤ k ∧ k < off
        · rw [if_pos (by omega), if_pos ⟨⟨rfl, rfl⟩, q⟩]
        · rw [if_neg (by omega), if_neg (fun z => q z.2)]
      · rw [if_neg (fun z => e z.1)]
        cases c2 : rowN h t' d' with
        | none => rfl
        | some r' =>
          dsimp only
          have q := row_lt c2
          have ne : ¬ r' = r := fun z => by
            rw [z, r2] at q
            have := key_eq ht hd h1 h2 q.2
            exact e ⟨this.1.symm, this.2.symm⟩
          rw [hx, if_neg (by omega)]
  | none =>
    have hlt : pS h < 90 := hfree.resolve_left (fun z => z c)
    rw [show o2i none = -1 from rfl, if_neg (by decide)]
    refine s_Places_newRow_0 _ _ _ _ _ ?_
    rw [ok_P hP, if_pos (by rw [show (90 : Int32) = nI 90 from rfl, ltI (by omega) (by omega)]; exact hlt), tnI (by omega), nI_1, show nI t * 100 + nI d = nI (100 * t + d) by rw [show (100 : Int32) = nI 100 from rfl, pk_mul, nI_add, Nat.mul_comm]]
    refine ⟨in_nI hlt (by decide), ?_⟩
    intro g1 e1 g2 e2
    subst e1 e2
    refine c_change_24 (on := on) hlt h8 (fun h' ag hx => ?_) (off - on) on _ (by omega) (Nat.le_refl _) (Or.inr rfl) (Agr.refl _ _) (fun j => by rw [if_neg (by omega)]) (by omega)
    have e33 : (up (up h 32 (pS h) (nI (100 * t + d))) 31 2 (nI (pS h + 1))) 33 = h 33 := rfl
    have e31 : h' 31 2 = nI (pS h + 1) := by rw [ag 31 (by decide), up_at]
    have e32 : ∀ j, h' 32 j = if j = pS h then nI (100 * t + d) else h 32 j := fun j => by
      rw [ag 32 (by decide)]
      rfl
    have eS : pS h' = pS h + 1 := by unfold pS at *; rw [e31, tnI (by omega)]
    rw [e33] at hx
    have hrow : ∀ t' d', rowN h' t' d' = match rowN h t' d' with
        | some r => some r
        | none => if nI (100 * t + d) = nI (100 * t' + d') then some (pS h) else none := by
      intro t' d'
      unfold rowN
      rw [eS, fr_app (N := h) (pS h) 0 (fun j _ h2 => by rw [e32, if_neg (by omega)]), e32, Nat.zero_add, if_pos rfl]
    have rtd : rowN h' t d = some (pS h) := by
      rw [hrow, c]
      dsimp only
      rw [if_pos rfl]
    refine kk h' ⟨?_, by unfold PlOK; rw [e31]; exact IN_nI (by omega) (by decide), ⟨by omega, by omega, fun z => absurd c z⟩, by rw [rtd]; exact (fun z => by cases z), fun t' d' q => ?_, fun j hj => ?_, fun t' d' k h1 h2 h3 => ?_⟩
    · intro k hk
      rw [ag k (fun z => hk (by simp at z; rw [z]; decide)), up_ce _ _ _ (fun z => hk (by rw [z]; decide)), up_ce _ _ _ (fun z => hk (by rw [z]; decide))]
    · rw [hrow]
      cases c2 : rowN h t' d' with
      | none => exact absurd c2 q
      | some r' => exact (fun z => by cases z)
    · rw [hx j, if_neg (by omega)]
      exact hz j (by omega)
    · by_cases e : t' = t ∧ d' = d
      · unfold tkN
        rw [e.1, e.2, rtd, c]
        dsimp only
        rw [hx, hz _ (by omega)]
        by_cases q : on ≤ k ∧ k < off
        · rw [if_pos (by omega), if_pos ⟨⟨rfl, rfl⟩, q⟩]
        · rw [if_neg (by omega), if_neg (fun z => q z.2)]
      · rw [if_neg (fun z => e z.1)]
        unfold tkN
        rw [hrow]
        cases c2 : rowN h t' d' with
        | none =>
          dsimp only
          rw [if_neg (fun z => by have := key_eq ht hd h1 h2 z; exact e ⟨this.1.symm, this.2.symm⟩)]
        | some r' =>
          dsimp only
          have q := row_lt c2
          rw [hx, if_neg (by omega)]
