/-! ===== the places of a ticket ===== -/
abbrev isP (f : Nat → Int32) (B q : Nat) : Prop := f (B + 9 * q) = 1 ∨ f (B + 9 * q) = 2
abbrev ovr (f : Nat → Int32) (B t d c q : Nat) : Prop := isP f B q ∧ (t = tn (f (B + 9 * q + 1)) ∧ d = tn (f (B + 9 * q + 6))) ∧ tn (f (B + 9 * q + 7)) ≤ c ∧ c < tn (f (B + 9 * q + 8))
def pl (f : Nat → Int32) (B : Nat) (b : Int32) (t d c : Nat) : Nat → Int32 → Int32
  | 0, v => v
  | q + 1, v => if ovr f B t d c q then pl f B b t d c q v + b else pl f B b t d c q v
def PC (h h' : HP) (j k : Nat) (b : Int32) (q : Nat) : Prop := Agr [31, 32, 33] h h' ∧ PlOK h' ∧ (∀ i, 8 * pS h' ≤ i → h' 33 i = 0) ∧ (pS h' ≤ pS h + rds (h 109) (63 * j) q ∧ ((∀ p, p < k → isP (h 109) (63 * j) p → rowN h (gT h j p) (gD h j p) ≠ none) → pS h' = pS h)) ∧ (∀ t d, rowN h t d ≠ none → rowN h' t d ≠ none) ∧ (∀ p, p < q → isP (h 109) (63 * j) p → rowN h' (gT h j p) (gD h j p) ≠ none) ∧ ∀ t d c, t < 24 → d < 100 → c < 8 → tkN h' t d c = pl (h 109) (63 * j) b t d c q (tkN h t d c)
theorem leg_isP {h : HP} (hN : NetOK h) {l : Nat → Int32} (hl : LegOK h l) : ((l 0 = 1 ∨ l 0 = 2) ∧ (l 0).toInt ≤ 2 ∧ ¬ h 12 (tn (l 1)) = 0) ∨ (¬ (l 0 = 1 ∨ l 0 = 2) ∧ ((l 0).toInt ≤ 2 → h 12 (tn (l 1)) = 0)) := by
  rcases leg_cases hN hl with ⟨a1, _⟩ | ⟨a1, a2, a3, a4, a5, a6, _⟩
  · refine Or.inr ⟨fun z => ?_, fun z => absurd z a1⟩
    rcases z with z | z <;> (rw [z] at a1; exact a1 (by decide))
  · have hk := hN.2.2.1.2.1 (tn (l 1))
    by_cases c : h 12 (tn (l 1)) = 0
    · refine Or.inr ⟨fun z => ?_, fun _ => c⟩
      rw [a6, c] at z
      rcases z with z | z <;> exact absurd z (by decide)
    · refine Or.inl ⟨?_, a1, c⟩
      rw [a6, hk.e]
      have h1 := hk.t
      have h2 : ¬ tn (h 12 (tn (l 1))) = 0 := fun z => c (by rw [hk.e, z]; rfl)
      rcases (show tn (h 12 (tn (l 1))) = 1 ∨ tn (h 12 (tn (l 1))) = 2 by omega) with z | z
      · rw [z]; exact Or.inl rfl
      · rw [z]; exact Or.inr rfl
theorem rds_S (f : Nat → Int32) (B q : Nat) : rds f B (q + 1) = rds f B q + (if (f (B + 9 * q)).toInt ≤ 2 then 1 else 0) := by
  unfold rds
  by_cases c : (f (B + 9 * q)).toInt ≤ 2
  · rw [fa_cnt_yes (decide_eq_true c), if_pos c]
  · rw [fa_cnt_no (decide_eq_false c), if_neg c]
    rfl
theorem rds_mono (f : Nat → Int32) (B : Nat) {q k : Nat} (h : q ≤ k) : rds f B q ≤ rds f B k := by
  induction k with
  | zero => rw [show q = 0 by omega]; exact Nat.le_refl _
  | succ k ih =>
    rcases Nat.lt_or_ge k q with z | z
    · rw [show q = k + 1 by omega]; exact Nat.le_refl _
    · rw [rds_S]
      exact Nat.le_trans (ih z) (Nat.le_add_right _ _)
theorem c_chPl {G : GA} {h : HP} (hN : NetOK h) {j k a : Nat} (tl : TL h j k a) {b : Int32} (free : (∀ p, p < k → isP (h 109) (63 * j) p → rowN h (gT h j p) (gD h j p) ≠ none) ∨ pS h + rds (h 109) (63 * j) k ≤ 90) {K : HP → Prop} (kk : ∀ h', PC h h' j k b k → K h') : ∀ m q h', q + m = k → PC h h' j k b q → H_Tickets_changePlaces_2 G h' (nI j) b (nI q) K
  | 0, q, h', e, pc => by
    have tl0 := tl
    obtain ⟨hj, hk, ha, e36, e107, e35, e108, tq⟩ := tl0
    refine s_Tickets_changePlaces_2 _ _ _ _ _ _ ⟨in_nI hj (by decide), ?_⟩
    rw [tnI (by omega), pc.1 36 (by decide), e36, if_pos (by rw [leI (by omega) (by omega)]; omega)]
    rw [show q = k by omega] at pc
    exact kk h' pc
  | m + 1, q, h', e, pc => by
    have tl0 := tl
    obtain ⟨hj, hk, ha, e36, e107, e35, e108, tq⟩ := tl0
    have hT := nT_le hN
    have ih := c_chPl (G := G) hN tl free kk m (q + 1)
    have hq : q < k := by omega
    have hip := leg_isP hN (tq q hq).2.2.2.2
    dsimp only [Nat.add_zero] at hip
    have stay : ¬ isP (h 109) (63 * j) q → PC h h' j k b (q + 1) := by
      intro z
      obtain ⟨p1, p2, p3, p4, p5, p6, p7⟩ := pc
      refine ⟨p1, p2, p3, ⟨Nat.le_trans p4.1 (by rw [rds_S]; omega), p4.2⟩, p5, fun p hp ip => ?_, fun t d c h1 h2 h3 => ?_⟩
      · by_cases c : p = q
        · rw [c] at ip
          exact absurd ip z
        · exact p6 p (by omega) ip
      · rw [pl, if_neg (fun w => z w.1)]
        exact p7 t d c h1 h2 h3
    refine s_Tickets_changePlaces_2 _ _ _ _ _ _ ⟨in_nI hj (by decide), ?_⟩
    rw [tnI (by omega), pc.1 36 (by decide), e36, if_neg (by rw [leI (by omega) (by omega)]; omega), ix7, tnI (by omega), pc.1 39 (by decide), pc.1 38 (by decide), pc.1 40 (by decide), pc.1 41 (by decide), pc.1 12 (by decide), nI_1]
    refine ⟨in_nI (by omega) (by decide), ?_⟩
    rcases tl.leg hN hq with ⟨a1, a2, _, a3, a4⟩ | ⟨a1, ⟨a2, a3, a4, a5⟩, ⟨b1, b2, b3, b4⟩, _⟩
    · rw [a4, if_pos (by decide)]
      refine ih h' (by omega) (stay (fun z => ?_))
      have a1 := of_decide_eq_false a1
      rcases z with z | z <;> (rw [z] at a1; exact a1 (by decide))
    · have hC := nC_le hN (gT h j q)
      rw [b2, if_neg (nIneg (by omega)), b1, tnI (by omega)]
      refine ⟨in_nI (by omega) (by decide), ?_⟩
      have a1' := of_decide_eq_true a1
      rcases hip with ⟨i1, _, i3⟩ | ⟨i1, i2⟩
      · rw [if_neg (show ¬ h 12 (gT h j q) = 0 from i3), b3, b4]
        have ip : isP (h 109) (63 * j) q := i1
        obtain ⟨p1, p2, p3, p4, p5, p6, p7⟩ := pc
        have hrs : rds (h 109) (63 * j) (q + 1) = rds (h 109) (63 * j) q + 1 := by rw [rds_S, if_pos a1']
        have hrk := rds_mono (h 109) (63 * j) (show q + 1 ≤ k by omega)
        refine c_change p2 p3 (by omega) a3 (by omega) (by omega) (free.imp (fun z => p5 _ _ (z q hq ip)) (fun z => by omega)) (fun h2 cg => ?_)
        obtain ⟨g1, g2, g3, g4, g5, g6, g7⟩ := cg
        refine ih h2 (by omega) ⟨p1.trans g1, g2, g6, ⟨by omega, fun z => ?_⟩, fun t d w => g5 t d (p5 t d w), fun p hp ip2 => ?_, fun t d c h1 h2' h3 => ?_⟩
        · rw [g3.2.2 (p5 _ _ (z q hq ip)), p4.2 z]
        · by_cases c : p = q
          · rw [c]
            exact g4
          · exact g5 _ _ (p6 p (by omega) ip2)
        · rw [g7 t d c h1 h2' h3, p7 t d c h1 h2' h3, pl]
          by_cases w : (t = gT h j q ∧ d = gD h j q) ∧ gN h j q ≤ c ∧ c < gF h j q
          · rw [if_pos w, if_pos (show ovr (h 109) (63 * j) t d c q from ⟨ip, w⟩)]
          · rw [if_neg w, if_neg (fun z : ovr (h 109) (63 * j) t d c q => w z.2)]
      · rw [if_pos (show h 12 (gT h j q) = 0 from i2 a1')]
        exact ih h' (by omega) (stay i1)
