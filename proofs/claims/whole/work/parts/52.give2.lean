/-! ===== the places of a ticket, the reference's side ===== -/
def px (t d c : Nat) : Nat := (100 * t + d) * 8 + c
theorem px_inj {t d c t' d' c' : Nat} (hd : d < 100) (hc : c < 8) (hd' : d' < 100) (hc' : c' < 8) (e : px t d c = px t' d' c') : t = t' ∧ d = d' ∧ c = c' := by
  unfold px at e
  omega
theorem ix93 (t d c : Nat) : (100 * nI t + nI d) * 8 + nI c = nI (px t d c) := by
  rw [show (100 : Int32) = nI 100 from rfl, show (8 : Int32) = nI 8 from rfl, pk_mul, nI_add, pk_mul, nI_add]
  rfl
theorem cm_pl_57 {G : GA} {h : HP} {B k q t d on off : Nat} {b : Int32} (hB : B + 9 * q + 8 < 1890) (ht : t < 24) (hd : d < 100) (ho : off ≤ 8) (e6 : h 109 (B + 9 * q + 6) = nI d) (e8 : h 109 (B + 9 * q + 8) = nI off) {K : Bool → HP → Prop}
    (kk : ∀ z h', AM [93] [] h h' → (∀ t' d' c, t' < 24 → d' < 100 → c < 8 → h' 93 (px t' d' c) = if (t' = t ∧ d' = d) ∧ on ≤ c ∧ c < off then h 93 (px t' d' c) + b else h 93 (px t' d' c)) → H_Model_places_109_6 G h' (nI B) (nI k) b z (nI q + 1) K) :
    ∀ m c z h', off - c = m → on ≤ c → c < 100 → AM [93] [] h h' → (∀ t' d' c', t' < 24 → d' < 100 → c' < 8 → h' 93 (px t' d' c') = if (t' = t ∧ d' = d) ∧ on ≤ c' ∧ c' < c then h 93 (px t' d' c') + b else h 93 (px t' d' c')) → (c ≤ off ∨ on = c) → H_Model_places_109_57 G h' (nI B) (nI k) b z (nI q) (nI (B + 9 * q)) (nI t) (nI c) K
  | 0, c, z, h', e, h1, h2, am, hx, h3 => by
    refine s_Model_places_109_57 _ _ _ _ _ _ _ _ _ _ _ ?_
    rw [show nI (B + 9 * q) + 8 = nI (B + 9 * q + 8) from nI_add _ 8, tnI (by omega), am.1 109 (by decide) (by decide), e8, if_pos (by rw [leI (by omega) (by omega)]; omega)]
    refine ⟨in_nI (by omega) (by decide), kk z h' am (fun t' d' c' a1 a2 a3 => ?_)⟩
    rw [hx t' d' c' a1 a2 a3]
    by_cases w : (t' = t ∧ d' = d) ∧ on ≤ c' ∧ c' < c
    · rw [if_pos w, if_pos ⟨w.1, by omega, by omega⟩]
    · rw [if_neg w, if_neg (fun v => w ⟨v.1, by omega, by omega⟩)]
  | m + 1, c, z, h', e, h1, h2, am, hx, h3 => by
    refine s_Model_places_109_57 _ _ _ _ _ _ _ _ _ _ _ ?_
    rw [show nI (B + 9 * q) + 8 = nI (B + 9 * q + 8) from nI_add _ 8, show nI (B + 9 * q) + 6 = nI (B + 9 * q + 6) from nI_add _ 6, tnI (by omega), tnI (by omega), am.1 109 (by decide) (by decide), e8, e6, if_neg (by rw [leI (by omega) (by omega)]; omega), ix93, nI_1]
    refine ⟨in_nI (by omega) (by decide), in_nI (by omega) (by decide), ?_⟩
    intro v ev
    subst ev
    have hpx : px t d c < 19200 := by unfold px; omega
    rw [tnI (by omega)]
    refine ⟨in_nI hpx (by decide), ?_⟩
    intro g eg
    subst eg
    have nxt : ∀ z, H_Model_places_109_57 G (up h' 93 (px t d c) (h' 93 (px t d c) + b)) (nI B) (nI k) b z (nI q) (nI (B + 9 * q)) (nI t) (nI (c + 1)) K := by
      intro z
      refine cm_pl_57 hB ht hd ho e6 e8 kk m (c + 1) z _ (by omega) (by omega) (by omega) (am.pt (by decide) (by decide) _ _) (fun t' d' c' a1 a2 a3 => ?_) (Or.inl (by omega))
      by_cases w : (t' = t ∧ d' = d) ∧ c' = c
      · obtain ⟨⟨w1, w2⟩, w3⟩ := w
        subst w1 w2 w3
        rw [up_at, hx t' d' c' a1 a2 a3, if_neg (by omega), if_pos ⟨⟨rfl, rfl⟩, by omega, by omega⟩]
      · rw [up_sl _ _ (fun ee => w (by have := px_inj a2 a3 hd (by omega) ee; exact ⟨⟨this.1, this.2.1⟩, this.2.2⟩)), hx t' d' c' a1 a2 a3]
        by_cases w2 : (t' = t ∧ d' = d) ∧ on ≤ c' ∧ c' < c
        · rw [if_pos w2, if_pos ⟨w2.1, by omega, by omega⟩]
        · rw [if_neg w2, if_neg (fun v => w2 ⟨v.1, v.2.1, by
            have := v.2.2
            have n : ¬ c' = c := fun ee => w ⟨v.1, ee⟩
            omega⟩)]
    cases z
    · rw [if_neg (by decide), tnI (by omega)]
      refine ⟨in_nI ht (by decide), ?_⟩
      split
      · exact nxt false
      · exact nxt true
    · rw [if_pos rfl]
      exact nxt true
theorem cm_pl {G : GA} {h : HP} (hN : NetOK h) {j k a : Nat} (tl : TL h j k a) {b : Int32} {K : Bool → HP → Prop}
    (kk : ∀ z h', AM [93] [] h h' → (∀ t d c, t < 24 → d < 100 → c < 8 → h' 93 (px t d c) = pl (h 109) (63 * j) b t d c k (h 93 (px t d c))) → K z h') :
    ∀ m q z h', q + m = k → AM [93] [] h h' → (∀ t d c, t < 24 → d < 100 → c < 8 → h' 93 (px t d c) = pl (h 109) (63 * j) b t d c q (h 93 (px t d c))) → H_Model_places_109_6 G h' (nI (63 * j)) (nI k) b z (nI q) K
  | 0, q, z, h', e, am, hx => by
    have hk := tl.2.1
    refine s_Model_places_109_6 _ _ _ _ _ _ _ _ ?_
    rw [if_pos (by rw [leI (by omega) (by omega)]; omega)]
    rw [show q = k by omega] at hx
    exact kk z h' am hx
  | m + 1, q, z, h', e, am, hx => by
    have tl0 := tl
    obtain ⟨hj, hk, ha, e36, e107, e35, e108, tq⟩ := tl0
    have hT := nT_le hN
    have hq : q < k := by omega
    have e109 := am.1 109 (by decide) (by decide)
    have ih := cm_pl (G := G) hN tl kk m (q + 1)
    refine s_Model_places_109_6 _ _ _ _ _ _ _ _ ?_
    rw [if_neg (by rw [leI (by omega) (by omega)]; omega), show nI (63 * j) + 9 * nI q = nI (63 * j + 9 * q) by rw [show (9 : Int32) = nI 9 from rfl, pk_mul, nI_add], show nI (63 * j + 9 * q) + 1 = nI (63 * j + 9 * q + 1) from nI_add _ 1, show nI (63 * j + 9 * q) + 7 = nI (63 * j + 9 * q + 7) from nI_add _ 7, tnI (by omega), tnI (by omega), tnI (by omega), e109, nI_1]
    refine ⟨in_nI (by omega) (by decide), ?_⟩
    have ride : isP (h 109) (63 * j) q → H_Model_places_109_57 G h' (nI (63 * j)) (nI k) b z (nI q) (nI (63 * j + 9 * q)) (h 109 (63 * j + 9 * q + 1)) (h 109 (63 * j + 9 * q + 7)) K := by
      intro ip
      rcases tl.leg hN hq with ⟨a1, _⟩ | ⟨a1, ⟨a2, a3, a4, a5⟩, _, b1, b2, b3, b4⟩
      · have a1 := of_decide_eq_false a1
        rcases ip with w | w <;> (rw [w] at a1; exact absurd (by decide) a1)
      · have hC := nC_le hN (gT h j q)
        rw [b1, b3]
        refine cm_pl_57 (h := h') (on := gN h j q) (off := gF h j q) (d := gD h j q) (by omega) (by omega) a3 (by omega) (by rw [e109]; exact b2) (by rw [e109]; exact b4) (fun z2 h2 am2 hx2 => ?_) (gF h j q - gN h j q) (gN h j q) z h' rfl (Nat.le_refl _) (by omega) (AM.refl _ _ _) (fun t' d' c' a1 a2 a3 => by rw [if_neg (by omega)]) (Or.inr rfl)
        rw [nI_1]
        refine ih z2 h2 (by omega) (am.trans am2) (fun t d c h1 h2' h3 => ?_)
        rw [hx2 t d c h1 h2' h3, hx t d c h1 h2' h3, pl]
        by_cases w : (t = gT h j q ∧ d = gD h j q) ∧ gN h j q ≤ c ∧ c < gF h j q
        · rw [if_pos w, if_pos (show ovr (h 109) (63 * j) t d c q from ⟨ip, w⟩)]
        · rw [if_neg w, if_neg (fun z : ovr (h 109) (63 * j) t d c q => w z.2)]
    by_cases c1 : h 109 (63 * j + 9 * q) = 1
    · rw [if_pos c1]
      exact ⟨in_nI (by omega) (by decide), in_nI (by omega) (by decide), ride (Or.inl c1)⟩
    rw [if_neg c1]
    by_cases c2 : h 109 (63 * j + 9 * q) = 2
    · rw [if_pos c2]
      exact ⟨in_nI (by omega) (by decide), in_nI (by omega) (by decide), ride (Or.inr c2)⟩
    rw [if_neg c2]
    refine ih z h' (by omega) am (fun t d c h1 h2 h3 => ?_)
    rw [pl, if_neg (fun w => by rcases w.1 with v | v; exact c1 v; exact c2 v)]
    exact hx t d c h1 h2 h3
