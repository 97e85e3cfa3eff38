/-! ===== ways: the reference takes a way up ===== -/
theorem take_one {α : Type} {S : List α} {k : Nat} {s : α} (h : S[k]? = some s) : S.take (k + 1) = S.take k ++ [s] := by
  rw [List.take_succ, h]
  rfl
theorem rev_at {α : Type} {S : List α} {k : Nat} {s : α} (h : S[k]? = some s) : S.reverse[S.length - 1 - k]? = some s := by
  have hk := (List.getElem?_eq_some_iff.mp h).1
  rw [List.getElem?_reverse (by omega), show S.length - 1 - (S.length - 1 - k) = k by omega]
  exact h
/-- the reference's legs so far -/
def AS (N : HP) (rs : List (Nat × Nat)) (ask m : Nat) (h h' : HP) (S : List St) : Prop := AM [105] [] h h' ∧ (∀ x, x < 63 * m → h' 105 x = h 105 x) ∧ LgS N rs ask (fun q c => h' 105 (63 * m + 9 * q + c)) S
theorem cm_add86 {G : GA} {h : HP} {m time k len : Nat} (hm : m < 112) (hlen : len ≤ 7) (hk : k < len) (e49 : h 67 49 = nI len) {K : HP → Prop}
    (kk : ∀ h', AM [105] [] h h' → (∀ x, h' 105 x = if 63 * m + 9 * k ≤ x ∧ x < 63 * m + 9 * k + 9 then h 106 (9 * (len - 1 - k) + (x - (63 * m + 9 * k))) else h 105 x) → H_Model_add_86 G h' (nI m) (nI time) (nI k) (nI (63 * m + 9 * k)) 9 K) :
    ∀ n c h', c + n = 9 → AM [105] [] h h' → (∀ x, h' 105 x = if 63 * m + 9 * k ≤ x ∧ x < 63 * m + 9 * k + c then h 106 (9 * (len - 1 - k) + (x - (63 * m + 9 * k))) else h 105 x) → H_Model_add_86 G h' (nI m) (nI time) (nI k) (nI (63 * m + 9 * k)) (nI c) K
  | 0, c, h', e, am, hx => by
    rw [show c = 9 by omega] at hx ⊢
    exact kk h' am hx
  | n + 1, c, h', e, am, hx => by
    refine s_Model_add_86 _ _ _ _ _ _ _ _ ?_
    rw [show (9 : Int32) = nI 9 from rfl, if_neg (by rw [leI (by omega) (by omega)]; omega), am.2 49 (by decide), e49, show nI len - 1 - nI k = nI (len - 1 - k) by rw [show (1 : Int32) = nI 1 from rfl, pk_sub (by omega), pk_sub (by omega)], pk_mul, nI_add, nI_add, tnI (by omega), tnI (by omega), am.1 106 (by decide) (by decide), nI_1]
    refine ⟨in_nI (by omega) (by decide), in_nI (by omega) (by decide), ?_⟩
    intro g eg
    subst eg
    refine cm_add86 hm hlen hk e49 kk n (c + 1) _ (by omega) (am.pt (by decide) (by decide) _ _) (fun x => ?_)
    by_cases z : x = 63 * m + 9 * k + c
    · rw [z, up_at, if_pos (by omega), show 63 * m + 9 * k + c - (63 * m + 9 * k) = c by omega]
    · rw [up_sl _ _ z, hx x]
      by_cases w : 63 * m + 9 * k ≤ x ∧ x < 63 * m + 9 * k + c
      · rw [if_pos w, if_pos (by omega)]
      · rw [if_neg w, if_neg (by omega)]
theorem kind_ride {N : HP} (hN : NetOK N) (t : Nat) : N 12 t ≤ 2 := by
  have := (hN.2.2.1.2.1 t).2
  rw [fa_le]
  exact this
theorem kind_walk {N : HP} (hN : NetOK N) {w : Nat} (hw : w < nW N) : ¬ N 26 w ≤ 2 ∧ 2 < (N 26 w).toInt := by
  have q := (hN.2.2.2.2.2.2.2.2.2.2.2.2 w hw).2.2
  have : N 26 w = 3 ∨ N 26 w = 4 ∨ N 26 w = 5 := by
    rcases q with z | ⟨z, _⟩
    · exact Or.inl z
    · exact Or.inr z
  rcases this with z | z | z <;> (rw [z]; decide)
theorem ok_25 {N : HP} (hN : NetOK N) (w : Nat) : N 25 w = nI (tn (N 25 w)) := (hN.2.2.2.2.2.2.2.1 w).e
theorem cm_add61 {G : GA} {N h : HP} {rs : List (Nat × Nat)} {lim ask frm m : Nat} {E R : Nat → Nat → Nat → Nat} (c : CxW N rs lim ask frm E R) (mx : MX N h rs lim ask frm E R) (hmm : m < 112) {S : List St} (rb : RB N rs ask h S.reverse) (hS : S.length ≤ 7) (ok : OkS N rs S) (tms : TmS N rs ask S) {K : HP → Prop}
    (kk : ∀ h', AS N rs ask m h h' S → ∀ h1, h1 = up h' 67 41 (h' 67 41 + 1) → K h1) :
    ∀ n k h', k + n = S.length → AS N rs ask m h h' (S.take k) → H_Model_add_61 G h' (nI m) (nI (tm N rs ask (S.take k))) (nI k) K
  | 0, k, h', e, as' => by
    refine s_Model_add_61 _ _ _ _ _ _ ?_
    rw [as'.1.2 49 (by decide), rb.1, List.length_reverse, if_pos (by rw [leI (by omega) (by omega)]; omega)]
    rw [show S.take k = S from List.take_of_length_le (by omega)] at as'
    exact kk h' as'
  | n + 1, k, h', e, as' => by
    have hN := c.1
    have hW := nW_le hN
    have hl := c.2.2.2.1
    have ha := c.2.2.2.2.1
    have hT := nT_le hN
    have ih := cm_add61 (G := G) c mx hmm rb hS ok tms kk n (k + 1)
    have mx' : MX N h' rs lim ask frm E R := mx.am as'.1
    refine s_Model_add_61 _ _ _ _ _ _ ?_
    rw [as'.1.2 49 (by decide), rb.1, List.length_reverse, if_neg (by rw [leI (by omega) (by omega)]; omega), show (63 : Int32) * nI m + 9 * nI k = nI (63 * m + 9 * k) by rw [show (63 : Int32) = nI 63 from rfl, show (9 : Int32) = nI 9 from rfl, pk_mul, pk_mul, nI_add]]
    obtain ⟨s, hs⟩ : ∃ s, S[k]? = some s := ⟨S[k]'(by omega), List.getElem?_eq_getElem (by omega)⟩
    have hrow := rb.2 _ s (rev_at hs)
    have tk := take_one hs
    have htl : (S.take k).length = k := by rw [List.length_take]; omega
    refine cm_add86 (h := h') hmm hS (by omega) (by rw [as'.1.2 49 (by decide), rb.1, List.length_reverse]) (fun h2 am2 hx2 => ?_) 9 0 h' (by omega) (AM.refl _ _ _) (fun x => by rw [if_neg (by omega)])
    have mx2 : MX N h2 rs lim ask frm E R := mx'.am am2
    have col : ∀ c, c < 9 → cO s c → h2 105 (63 * m + 9 * k + c) = lrw N rs ask (tm N rs ask (S.take k)) s c := fun c hc ho => by
      rw [hx2, if_pos (by omega), show 63 * m + 9 * k + c - (63 * m + 9 * k) = c by omega, as'.1.1 106 (by decide) (by decide), hrow c hc ho]
      exact lrw_t ho
    -- the step is done once its nine columns are right
    have fin : ∀ h3, AM [105] [] h2 h3 → (∀ x, ¬ (63 * m + 9 * k ≤ x ∧ x < 63 * m + 9 * k + 9) → h3 105 x = h2 105 x) → (∀ c, c < 9 → h3 105 (63 * m + 9 * k + c) = lrw N rs ask (tm N rs ask (S.take k)) s c) → H_Model_add_61 G h3 (nI m) (nI (tm N rs ask (S.take (k + 1)))) (nI (k + 1)) K := by
      intro h3 am3 hx3 hc3
      have out : ∀ x, ¬ (63 * m + 9 * k ≤ x ∧ x < 63 * m + 9 * k + 9) → h3 105 x = h' 105 x := fun x hx => by
        rw [hx3 x hx, hx2 x, if_neg hx]
      refine ih h3 (by omega) ⟨(as'.1.trans am2).trans am3, fun x hx => ?_, ?_⟩
      · rw [out x (by omega)]
        exact as'.2.1 x hx
      · rw [tk]
        refine as'.2.2.app (fun q c hq hc => ?_) (fun c hc => ?_)
        · rw [htl] at hq
          show h3 105 _ = h' 105 _
          exact out _ (by omega)
        · rw [htl]
          exact hc3 c hc
    refine s_Model_add_86 _ _ _ _ _ _ _ _ ?_
    rw [if_pos (by decide), tnI (by omega), show nI (63 * m + 9 * k) + 1 = nI (63 * m + 9 * k + 1) from nI_add _ 1, show nI (63 * m + 9 * k) + 4 = nI (63 * m + 9 * k + 4) from nI_add _ 4, show nI (63 * m + 9 * k) + 5 = nI (63 * m + 9 * k + 5) from nI_add _ 5, tnI (show 63 * m + 9 * k + 1 < 2147483648 by omega), tnI (show 63 * m + 9 * k + 4 < 2147483648 by omega), tnI (show 63 * m + 9 * k + 5 < 2147483648 by omega), nI_1]
    refine ⟨in_nI (by omega) (by decide), ?_⟩
    have htmk := tms k
    have hos := ok s (List.mem_of_getElem? hs)
    cases s with
    | inl y =>
      obtain ⟨v, i, j⟩ := y
      obtain ⟨t, d, hv, _, _⟩ := hos
      have c0 : h2 105 (63 * m + 9 * k) = N 12 t := by
        have := col 0 (by decide) trivial
        rw [Nat.add_zero] at this
        rw [this]
        unfold lrw
        dsimp only
        rw [hv]
        rfl
      have c5 : h2 105 (63 * m + 9 * k + 5) = nI (cT N t d j) := by
        rw [col 5 (by decide) trivial]
        unfold lrw
        dsimp only
        rw [hv]
        rfl
      have f3 := fin h2 (AM.refl _ _ _) (fun _ _ => rfl) (fun c hc => col c hc trivial)
      rw [tk, tm_app] at f3
      unfold sT at f3
      dsimp only at f3
      rw [hv] at f3
      dsimp only at f3
      rw [c0, if_pos (kind_ride hN t), c5]
      exact ⟨in_nI (by omega) (by decide), f3⟩
    | inr w =>
      have hw : w < nW N := hos
      have c0 : h2 105 (63 * m + 9 * k) = N 26 w := col 0 (by decide) ⟨by decide, by decide⟩
      have c1 : h2 105 (63 * m + 9 * k + 1) = nI w := col 1 (by decide) ⟨by decide, by decide⟩
      rw [c0, if_neg (kind_walk hN hw).1, c1, mx2.1.2.1]
      refine ⟨in_nI (by omega) (by decide), ?_⟩
      refine cm_begins hN mx2.1.1 hw (by omega) (by omega) ⟨in_nI (by omega) (by decide), ?_⟩
      intro h3 e3
      have c31 : h3 105 (63 * m + 9 * k + 1) = nI w := by rw [e3, up_sl _ _ (by omega), c1]
      have c34 : h3 105 (63 * m + 9 * k + 4) = nI (wB N w (tm N rs ask (S.take k)) ask) := by rw [e3, up_at]
      rw [c31, c34, tnI (by omega), mx2.1.1.c 83 25, ok_25 hN, nI_add]
      refine ⟨in_nI (by omega) (by decide), in_nI (by omega) (by decide), ?_⟩
      intro h4 e4
      have we : wB N w (tm N rs ask (S.take k)) ask + tn (N 25 w) = wE N w (tm N rs ask (S.take k)) ask := by
        unfold wE
        rw [if_pos (by rw [NVRe]; omega)]
      rw [we] at e4
      rw [show h4 105 (63 * m + 9 * k + 5) = nI (wE N w (tm N rs ask (S.take k)) ask) by rw [e4, up_at]]
      have f3 := fin h4 (by rw [e4, e3]; exact ((AM.refl _ _ _).pt (by decide) (by decide) _ _).pt (by decide) (by decide) _ _) (fun x hx => by rw [e4, up_sl _ _ (by omega), e3, up_sl _ _ (by omega)]) (fun c hc => ?_)
      · rw [tk, tm_app] at f3
        exact f3
      · by_cases z5 : c = 5
        · rw [z5, e4, up_at]
          rfl
        · by_cases z4 : c = 4
          · rw [z4, e4, up_sl _ _ (by omega), c34]
            rfl
          · rw [e4, up_sl _ _ (by omega), e3, up_sl _ _ (by omega)]
            exact col c hc ⟨z4, z5⟩
/-- what the reference writes of a way -/
def AW (N : HP) (rs : List (Nat × Nat)) (ask m a r f : Nat) (S : List St) (h' : HP) : Prop := LgS N rs ask (fun q c => h' 105 (63 * m + 9 * q + c)) S ∧ h' 100 m = nI a ∧ h' 101 m = nI r ∧ h' 102 m = nI f ∧ h' 103 m = nI S.length ∧ h' 104 m = nI ask
theorem cm_add {G : GA} {N h : HP} {rs : List (Nat × Nat)} {lim ask frm m a r f : Nat} {E R : Nat → Nat → Nat → Nat} (c : CxW N rs lim ask frm E R) (mx : MX N h rs lim ask frm E R) (hmm : m < 112) (e41 : h 67 41 = nI m) {S : List St} (rb : RB N rs ask h S.reverse) (hS : S.length ≤ 7) (ok : OkS N rs S) (tms : TmS N rs ask S) {K : HP → Prop}
    (kk : ∀ h', AM [100, 101, 102, 103, 104, 105] [41] h h' → (∀ x, x < 63 * m → h' 105 x = h 105 x) → (∀ x, x < m → h' 100 x = h 100 x ∧ h' 101 x = h 101 x ∧ h' 102 x = h 102 x ∧ h' 103 x = h 103 x ∧ h' 104 x = h 104 x) → h' 67 41 = nI (m + 1) → AW N rs ask m a r f S h' → K h') : P_Model_add G h (nI a) (nI r) (nI f) K := by
  refine s_Model_add_0 _ _ _ _ _ _ ?_
  rw [e41, tnI (by omega), rb.1, List.length_reverse, mx.1.2.1]
  refine ⟨in_nI hmm (by decide), ?_⟩
  rintro _ rfl _ rfl _ rfl _ rfl h6 e6
  have am6 : AM [100, 101, 102, 103, 104, 105] [41] h h6 := by
    rw [e6]
    exact (((((AM.refl _ _ _).pt (by decide) (by decide) _ _).pt (by decide) (by decide) _ _).pt (by decide) (by decide) _ _).pt (by decide) (by decide) _ _).pt (by decide) (by decide) _ _
  have mx6 : MX N h6 rs lim ask frm E R := mx.am am6
  have rb6 : RB N rs ask h6 S.reverse := ⟨by rw [e6]; exact rb.1, by rw [am6.1 106 (by decide) (by decide)]; exact rb.2⟩
  refine cm_add61 c mx6 hmm rb6 hS ok tms (fun h7 as' h8 e8 => ?_) S.length 0 h6 (by omega) ⟨AM.refl _ _ _, fun _ _ => rfl, fun q s hq => by rw [List.take_zero, List.getElem?_nil] at hq; cases hq⟩
  have e78 : ∀ k, k ≠ 67 → h8 k = h7 k := fun k hk => by rw [e8, up_ce _ _ _ hk]
  have e67 : ∀ k, k ≠ 67 → k ≠ 105 → h8 k = h6 k := fun k hk h5 => by rw [e78 k hk, as'.1.1 k (by simpa using h5) hk]
  refine kk h8 ?_ (fun x hx => ?_) (fun x hx => ?_) ?_ ⟨?_, ?_, ?_, ?_, ?_, ?_⟩
  · rw [e8]
    exact ((am6.trans (as'.1.mono (by decide) (by decide))).p67 (by decide) _)
  · rw [e78 105 (by decide), as'.2.1 x hx, e6]
    rfl
  · rw [e67 100 (by decide) (by decide), e67 101 (by decide) (by decide), e67 102 (by decide) (by decide), e67 103 (by decide) (by decide), e67 104 (by decide) (by decide), e6]
    have : ¬ x = m := by omega
    refine ⟨?_, ?_, ?_, ?_, ?_⟩ <;> simp [up_app, this]
  · rw [e8, up_at, as'.1.2 41 (by decide), e6]
    show h 67 41 + 1 = _
    rw [e41, nI_1]
  · rw [e78 105 (by decide)]
    exact as'.2.2
  · rw [e67 100 (by decide) (by decide), e6]
    simp [up_app]
  · rw [e67 101 (by decide) (by decide), e6]
    simp [up_app]
  · rw [e67 102 (by decide) (by decide), e6]
    simp [up_app]
  · rw [e67 103 (by decide) (by decide), e6]
    simp [up_app]
  · rw [e67 104 (by decide) (by decide), e6]
    simp [up_app]
