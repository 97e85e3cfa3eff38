/-! ===== take: the reference's places of a way, with its flag ===== -/
def Fl (h h' : HP) (T : Nat → Nat → Nat → Prop) (z : Bool) : Prop := z = true ↔ ∃ t d c, t < 24 ∧ d < 100 ∧ c < 8 ∧ T t d c ∧ h 74 t < h' 93 (px t d c)
theorem Fl.congr {h h' : HP} {T T' : Nat → Nat → Nat → Prop} {z : Bool} (f : Fl h h' T z) (e : ∀ t d c, t < 24 → d < 100 → c < 8 → (T t d c ↔ T' t d c)) : Fl h h' T' z := by
  refine Iff.trans f ⟨fun ⟨t, d, c, h1, h2, h3, h4, h5⟩ => ⟨t, d, c, h1, h2, h3, (e t d c h1 h2 h3).mp h4, h5⟩, fun ⟨t, d, c, h1, h2, h3, h4, h5⟩ => ⟨t, d, c, h1, h2, h3, (e t d c h1 h2 h3).mpr h4, h5⟩⟩
theorem px_lt {t d c : Nat} (ht : t < 24) (hd : d < 100) (hc : c < 8) : px t d c < 19200 := by unfold px; omega
theorem cm_w57 {G : GA} {h : HP} {B k q t d on off : Nat} {b : Int32} {T0 : Nat → Nat → Nat → Prop} (hB : B + 9 * q + 8 < 7056) (ht : t < 24) (hd : d < 100) (ho : off ≤ 8) (e6 : h 105 (B + 9 * q + 6) = nI d) (e8 : h 105 (B + 9 * q + 8) = nI off)
    (hb : ∀ t d c, t < 24 → d < 100 → c < 8 → -2000 ≤ (h 93 (px t d c)).toInt ∧ (h 93 (px t d c)).toInt ≤ 2000) {K : Bool → HP → Prop}
    (kk : ∀ z h', AM [93] [] h h' → (∀ j, 19200 ≤ j → h' 93 j = h 93 j) → (∀ t' d' c, t' < 24 → d' < 100 → c < 8 → h' 93 (px t' d' c) = if (t' = t ∧ d' = d) ∧ on ≤ c ∧ c < off then h 93 (px t' d' c) + b else h 93 (px t' d' c)) → (b = 1 → Fl h h' (fun t' d' c' => T0 t' d' c' ∨ ((t' = t ∧ d' = d) ∧ on ≤ c' ∧ c' < off)) z) → H_Model_places_105_6 G h' (nI B) (nI k) b z (nI q + 1) K) :
    ∀ m c z h', off - c = m → on ≤ c → c < 100 → AM [93] [] h h' → (∀ j, 19200 ≤ j → h' 93 j = h 93 j) → (∀ t' d' c', t' < 24 → d' < 100 → c' < 8 → h' 93 (px t' d' c') = if (t' = t ∧ d' = d) ∧ on ≤ c' ∧ c' < c then h 93 (px t' d' c') + b else h 93 (px t' d' c')) → (b = 1 → Fl h h' (fun t' d' c' => T0 t' d' c' ∨ ((t' = t ∧ d' = d) ∧ on ≤ c' ∧ c' < c)) z) → (c ≤ off ∨ on = c) → H_Model_places_105_57 G h' (nI B) (nI k) b z (nI q) (nI (B + 9 * q)) (nI t) (nI c) K
  | 0, c, z, h', e, h1, h2, am, hj, hx, fl, h3 => by
    refine s_Model_places_105_57 _ _ _ _ _ _ _ _ _ _ _ ?_
    rw [show nI (B + 9 * q) + 8 = nI (B + 9 * q + 8) from nI_add _ 8, tnI (by omega), am.1 105 (by decide) (by decide), e8, if_pos (by rw [leI (by omega) (by omega)]; omega)]
    have ee : ∀ c', (on ≤ c' ∧ c' < c) ↔ (on ≤ c' ∧ c' < off) := fun c' => ⟨fun _ => by omega, fun _ => by omega⟩
    refine ⟨in_nI (by omega) (by decide), kk z h' am hj (fun t' d' c' a1 a2 a3 => ?_) (fun eb => (fl eb).congr (fun t' d' c' _ _ _ => by rw [ee]))⟩
    rw [hx t' d' c' a1 a2 a3]
    by_cases w : (t' = t ∧ d' = d) ∧ on ≤ c' ∧ c' < c
    · rw [if_pos w, if_pos ⟨w.1, by omega, by omega⟩]
    · rw [if_neg w, if_neg (fun v => w ⟨v.1, by omega, by omega⟩)]
  | m + 1, c, z, h', e, h1, h2, am, hj, hx, fl, h3 => by
    refine s_Model_places_105_57 _ _ _ _ _ _ _ _ _ _ _ ?_
    rw [show nI (B + 9 * q) + 8 = nI (B + 9 * q + 8) from nI_add _ 8, show nI (B + 9 * q) + 6 = nI (B + 9 * q + 6) from nI_add _ 6, tnI (by omega), tnI (by omega), am.1 105 (by decide) (by decide), e8, e6, if_neg (by rw [leI (by omega) (by omega)]; omega), ix93, nI_1]
    refine ⟨in_nI (by omega) (by decide), in_nI (by omega) (by decide), ?_⟩
    intro v ev
    subst ev
    have hpx : px t d c < 19200 := by unfold px; omega
    rw [tnI (by omega)]
    refine ⟨in_nI hpx (by decide), ?_⟩
    intro g eg
    subst eg
    have hc8 : c < 8 := by omega
    have cur : h' 93 (px t d c) = h 93 (px t d c) := by rw [hx t d c ht hd hc8, if_neg (by omega)]
    have nxt : ∀ z2, (b = 1 → (z2 = true ↔ z = true ∨ h 74 t < h' 93 (px t d c) + b)) → H_Model_places_105_57 G (up h' 93 (px t d c) (h' 93 (px t d c) + b)) (nI B) (nI k) b z2 (nI q) (nI (B + 9 * q)) (nI t) (nI (c + 1)) K := by
      intro z2 ez2
      refine cm_w57 (T0 := T0) hB ht hd ho e6 e8 hb kk m (c + 1) z2 _ (by omega) (by omega) (by omega) (am.pt (by decide) (by decide) _ _) (fun j hj2 => by rw [up_sl _ _ (by omega)]; exact hj j hj2) (fun t' d' c' a1 a2 a3 => ?_) (fun eb => ?_) (Or.inl (by omega))
      · by_cases w : (t' = t ∧ d' = d) ∧ c' = c
        · obtain ⟨⟨w1, w2⟩, w3⟩ := w
          subst w1 w2 w3
          rw [up_at, hx t' d' c' a1 a2 a3, if_neg (by omega), if_pos ⟨⟨rfl, rfl⟩, by omega, by omega⟩]
        · rw [up_sl _ _ (fun ee => w (by have := px_inj a2 a3 hd (by omega) ee; exact ⟨⟨this.1, this.2.1⟩, this.2.2⟩)), hx t' d' c' a1 a2 a3]
          by_cases w2 : (t' = t ∧ d' = d) ∧ on ≤ c' ∧ c' < c
          · rw [if_pos w2, if_pos ⟨w2.1, by omega, by omega⟩]
          · rw [if_neg w2, if_neg (fun v => w2 ⟨v.1, v.2.1, by
              have := v.2.2
              have n : ¬ c' = c := fun ee => w ⟨v.1, ee⟩
              omega⟩)]
      · refine Iff.trans (ez2 eb) ⟨fun z0 => ?_, fun z0 => ?_⟩
        · rcases z0 with z0 | z0
          · obtain ⟨t', d', c', a1, a2, a3, a4, a5⟩ := (fl eb).mp z0
            refine ⟨t', d', c', a1, a2, a3, a4.imp_right (fun y => ⟨y.1, by omega, by omega⟩), ?_⟩
            by_cases w : px t' d' c' = px t d c
            · have := px_inj a2 a3 hd (by omega) w
              obtain ⟨w1, w2, w3⟩ := this
              subst w1 w2 w3
              rw [up_at, eb]
              have b1 := hb t' d' c' a1 a2 a3
              have m1 : (1 : Int32).toInt = 1 := rfl
              rw [fa_lt] at a5 ⊢
              rw [cur] at a5 ⊢
              rw [toInt_add (by omega) (by omega)]
              omega
            · rw [up_sl _ _ w]
              exact a5
          · exact ⟨t, d, c, ht, hd, hc8, Or.inr ⟨⟨rfl, rfl⟩, by omega, by omega⟩, by rw [up_at]; exact z0⟩
        · obtain ⟨t', d', c', a1, a2, a3, a4, a5⟩ := z0
          by_cases w : px t' d' c' = px t d c
          · have := px_inj a2 a3 hd (by omega) w
            obtain ⟨w1, w2, w3⟩ := this
            subst w1 w2 w3
            rw [up_at] at a5
            exact Or.inr a5
          · rw [up_sl _ _ w] at a5
            refine Or.inl ((fl eb).mpr ⟨t', d', c', a1, a2, a3, a4.imp_right (fun y => ⟨y.1, y.2.1, ?_⟩), a5⟩)
            have : ¬ c' = c := fun z => w (by rw [z, y.1.1, y.1.2])
            omega
    have e74 : h' 74 = h 74 := am.1 74 (by decide) (by decide)
    cases z
    · rw [if_neg (by decide), tnI (by omega), up_at, e74]
      refine ⟨in_nI ht (by decide), ?_⟩
      by_cases c5 : h' 93 (px t d c) + b ≤ h 74 t
      · rw [if_pos c5]
        refine nxt false (fun _ => ⟨fun z => (by cases z), fun z => ?_⟩)
        rcases z with z | z
        · cases z
        · rw [fa_lt] at z; rw [fa_le] at c5; omega
      · rw [if_neg c5]
        exact nxt true (fun _ => ⟨fun _ => Or.inr (fa_of_nle c5), fun _ => rfl⟩)
    · rw [if_pos rfl]
      exact nxt true (fun _ => ⟨fun _ => Or.inl rfl, fun _ => rfl⟩)
theorem cm_w {G : GA} {h : HP} (hN : NetOK h) {i k : Nat} (hi : i < 112) (hk : k ≤ 7) (lg : ∀ q, q < k → LegOK h (fun c => h 105 (63 * i + 9 * q + c))) {b : Int32} (hbb : b = 1 ∨ b = -1)
    (hb : ∀ t d c, t < 24 → d < 100 → c < 8 → -1000 ≤ (h 93 (px t d c)).toInt ∧ (h 93 (px t d c)).toInt ≤ 1000) {K : Bool → HP → Prop}
    (kk : ∀ z h', AM [93] [] h h' → (∀ j, 19200 ≤ j → h' 93 j = h 93 j) → (∀ t d c, t < 24 → d < 100 → c < 8 → h' 93 (px t d c) = pl (h 105) (63 * i) b t d c k (h 93 (px t d c))) → (b = 1 → Fl h h' (fun t d c => ∃ p, p < k ∧ ovr (h 105) (63 * i) t d c p) z) → K z h') :
    ∀ m q z h', q + m = k → AM [93] [] h h' → (∀ j, 19200 ≤ j → h' 93 j = h 93 j) → (∀ t d c, t < 24 → d < 100 → c < 8 → h' 93 (px t d c) = pl (h 105) (63 * i) b t d c q (h 93 (px t d c))) → (b = 1 → Fl h h' (fun t d c => ∃ p, p < q ∧ ovr (h 105) (63 * i) t d c p) z) → H_Model_places_105_6 G h' (nI (63 * i)) (nI k) b z (nI q) K
  | 0, q, z, h', e, am, hj, hx, fl => by
    refine s_Model_places_105_6 _ _ _ _ _ _ _ _ ?_
    rw [if_pos (by rw [leI (by omega) (by omega)]; omega)]
    rw [show q = k by omega] at hx fl
    exact kk z h' am hj hx fl
  | m + 1, q, z, h', e, am, hj, hx, fl => by
    have hT := nT_le hN
    have hq : q < k := by omega
    have e105 := am.1 105 (by decide) (by decide)
    have ih := cm_w (G := G) hN hi hk lg hbb hb kk m (q + 1)
    refine s_Model_places_105_6 _ _ _ _ _ _ _ _ ?_
    rw [if_neg (by rw [leI (by omega) (by omega)]; omega), show nI (63 * i) + 9 * nI q = nI (63 * i + 9 * q) by rw [show (9 : Int32) = nI 9 from rfl, pk_mul, nI_add], show nI (63 * i + 9 * q) + 1 = nI (63 * i + 9 * q + 1) from nI_add _ 1, show nI (63 * i + 9 * q) + 7 = nI (63 * i + 9 * q + 7) from nI_add _ 7, tnI (by omega), tnI (by omega), tnI (by omega), e105, nI_1]
    refine ⟨in_nI (by omega) (by decide), ?_⟩
    have ride : isP (h 105) (63 * i) q → H_Model_places_105_57 G h' (nI (63 * i)) (nI k) b z (nI q) (nI (63 * i + 9 * q)) (h 105 (63 * i + 9 * q + 1)) (h 105 (63 * i + 9 * q + 7)) K := by
      intro ip
      rcases leg_cases hN (lg q hq) with ⟨a1, _⟩ | ⟨a1, a2, a3, a4, a5, a6, a7, a8, a9, a10⟩
      · rcases ip with v | v <;> (dsimp only [Nat.add_zero] at a1; rw [v] at a1; exact absurd (by decide) a1)
      · have hC := nC_le hN (wT h i q)
        have a2 : wT h i q < nT h := a2
        have a3 : wD h i q < 100 := a3
        have a4 : wN h i q < wF h i q := a4
        have a5 : wF h i q < nC h (wT h i q) := a5
        rw [show h 105 (63 * i + 9 * q + 1) = nI (wT h i q) from a7, show h 105 (63 * i + 9 * q + 7) = nI (wN h i q) from a9]
        have hbq : ∀ t d c, t < 24 → d < 100 → c < 8 → -2000 ≤ (h' 93 (px t d c)).toInt ∧ (h' 93 (px t d c)).toInt ≤ 2000 := by
          intro t d c h1 h2 h3
          have z1 := hb t d c h1 h2 h3
          have hr : rds (h 105) (63 * i) q ≤ q := fa_cnt_le _ _
          rw [hx t d c h1 h2 h3]
          rcases hbb with eb | eb
          · rw [eb]
            have := pl_up (f := h 105) (B := 63 * i) (t := t) (d := d) (c := c) z1.1 z1.2 q (by omega)
            omega
          · rw [eb]
            have := pl_down (f := h 105) (B := 63 * i) (t := t) (d := d) (c := c) z1.1 z1.2 q (by omega)
            omega
        refine cm_w57 (h := h') (T0 := fun t d c => ∃ p, p < q ∧ ovr (h 105) (63 * i) t d c p) (on := wN h i q) (off := wF h i q) (d := wD h i q) (by omega) (by omega) a3 (by omega) (by rw [e105]; exact a8) (by rw [e105]; exact a10) hbq (fun z2 h2 am2 hj2 hx2 fl2 => ?_) (wF h i q - wN h i q) (wN h i q) z h' rfl (Nat.le_refl _) (by omega) (AM.refl _ _ _) (fun _ _ => rfl) (fun t' d' c' a1 a2 a3 => by rw [if_neg (by omega)]) (fun eb => ?_) (Or.inr rfl)
        · rw [nI_1]
          have ov : ∀ t d c, ovr (h 105) (63 * i) t d c q ↔ (t = wT h i q ∧ d = wD h i q) ∧ wN h i q ≤ c ∧ c < wF h i q := fun t d c => ⟨fun z => z.2, fun z => ⟨ip, z⟩⟩
          refine ih z2 h2 (by omega) (am.trans am2) (fun j a => by rw [hj2 j a, hj j a]) (fun t d c h1 h2' h3 => ?_) (fun eb => ?_)
          · rw [hx2 t d c h1 h2' h3, hx t d c h1 h2' h3, pl]
            by_cases w : (t = wT h i q ∧ d = wD h i q) ∧ wN h i q ≤ c ∧ c < wF h i q
            · rw [if_pos w, if_pos ((ov t d c).mpr w)]
            · rw [if_neg w, if_neg (fun z => w ((ov t d c).mp z))]
          · have e74 : h' 74 = h 74 := am.1 74 (by decide) (by decide)
            have f := fl2 eb
            unfold Fl at f
            rw [e74] at f
            refine Fl.congr (h := h) (h' := h2) f (fun t d c _ _ _ => ⟨fun y => ?_, fun y => ?_⟩)
            · rcases y with ⟨p, hp, y⟩ | y
              · exact ⟨p, by omega, y⟩
              · exact ⟨q, by omega, (ov t d c).mpr y⟩
            · obtain ⟨p, hp, y⟩ := y
              by_cases c : p = q
              · rw [c] at y
                exact Or.inr ((ov t d _).mp y)
              · exact Or.inl ⟨p, by omega, y⟩
        · have e74 : h' 74 = h 74 := am.1 74 (by decide) (by decide)
          have f := fl eb
          unfold Fl at f ⊢
          rw [e74]
          refine Fl.congr (h := h) (h' := h') f (fun t d c _ _ _ => ⟨fun y => Or.inl y, fun y => ?_⟩)
          rcases y with y | y
          · exact y
          · omega
    by_cases c1 : h 105 (63 * i + 9 * q) = 1
    · rw [if_pos c1]
      exact ⟨in_nI (by omega) (by decide), in_nI (by omega) (by decide), ride (Or.inl c1)⟩
    rw [if_neg c1]
    by_cases c2 : h 105 (63 * i + 9 * q) = 2
    · rw [if_pos c2]
      exact ⟨in_nI (by omega) (by decide), in_nI (by omega) (by decide), ride (Or.inr c2)⟩
    rw [if_neg c2]
    have nip : ¬ isP (h 105) (63 * i) q := fun w => by rcases w with v | v; exact c1 v; exact c2 v
    refine ih z h' (by omega) am hj (fun t d c h1 h2 h3 => ?_) (fun eb => (fl eb).congr (fun t d c _ _ _ => ⟨fun ⟨p, hp, y⟩ => ⟨p, by omega, y⟩, fun ⟨p, hp, y⟩ => ?_⟩))
    · rw [pl, if_neg (fun w => nip w.1)]
      exact hx t d c h1 h2 h3
    · by_cases c : p = q
      · rw [c] at y
        exact absurd y.1 nip
      · exact ⟨p, by omega, y⟩
/-! ===== take: what the places come to ===== -/
def nov (f : Nat → Int32) (B t d c k : Nat) : Nat := fa_cnt (fun q => decide (ovr f B t d c q)) k
theorem pl_one (f : Nat → Int32) (B t d c : Nat) (v : Int32) : ∀ k, pl f B 1 t d c k v = v + nI (nov f B t d c k)
  | 0 => by
    show v = v + nI 0
    exact (Int32.add_zero v).symm
  | k + 1 => by
    rw [pl, pl_one f B t d c v k]
    unfold nov
    by_cases w : ovr f B t d c k
    · rw [if_pos w, fa_cnt_yes (decide_eq_true w), Int32.add_assoc, nI_1]
    · rw [if_neg w, fa_cnt_no (decide_eq_false w)]
theorem pl_neg (f : Nat → Int32) (B t d c : Nat) (v : Int32) : ∀ k, pl f B (-1) t d c k (v + nI (nov f B t d c k)) = v := by
  have gen : ∀ k m, pl f B (-1) t d c k (v + (m + nI (nov f B t d c k))) = v + m := by
    intro k
    induction k with
    | zero =>
      intro m
      show v + (m + nI 0) = v + m
      rw [show nI 0 = (0 : Int32) from rfl, Int32.add_zero]
    | succ k ih =>
      intro m
      rw [pl]
      unfold nov
      by_cases w : ovr f B t d c k
      · rw [if_pos w, fa_cnt_yes (decide_eq_true w), ← nI_1, ← Int32.add_comm 1, ← Int32.add_assoc m, show v + (m + 1 + nI (fa_cnt (fun q => decide (ovr f B t d c q)) k)) = v + ((m + 1) + nI (nov f B t d c k)) from rfl, ih (m + 1), Int32.add_assoc, Int32.add_assoc]
        rw [show (1 : Int32) + -1 = 0 from rfl, Int32.add_zero]
      · rw [if_neg w, fa_cnt_no (decide_eq_false w)]
        exact ih m
  intro k
  have := gen k 0
  rw [Int32.zero_add, Int32.add_zero] at this
  exact this
