/-! ===== take: the class's question and the reference's flag ===== -/
theorem hpL_iff {h : HP} {i k t d : Nat} : ∀ m c, hpL h i k t d m c = true ↔ ∀ c', c ≤ c' → c' < c + m → hpC h i k t d c' = true
  | 0, c => ⟨fun _ c' _ _ => by omega, fun _ => rfl⟩
  | m + 1, c => by
    rw [hpL, Bool.and_eq_true, hpL_iff m (c + 1)]
    refine ⟨fun z c' h1 h2 => ?_, fun z => ⟨z c (Nat.le_refl _) (by omega), fun c' h1 h2 => z c' (by omega) (by omega)⟩⟩
    by_cases e : c' = c
    · rw [e]; exact z.1
    · exact z.2 c' (by omega) (by omega)
theorem hpW_iff {h : HP} {i k : Nat} : ∀ m q, hpW h i k m q = true ↔ ∀ p, q ≤ p → p < q + m → isP (h 105) (63 * i) p → ∀ c, wN h i p ≤ c → c < wF h i p → hpC h i k (wT h i p) (wD h i p) c = true
  | 0, q => ⟨fun _ p _ _ => by omega, fun _ => rfl⟩
  | m + 1, q => by
    rw [hpW, Bool.and_eq_true, hpW_iff m (q + 1)]
    refine ⟨fun z p h1 h2 ip c h3 h4 => ?_, fun z => ⟨?_, fun p h1 h2 => z p (by omega) (by omega)⟩⟩
    · by_cases e : p = q
      · subst e
        have z1 := z.1
        rw [if_pos ip, hpL_iff] at z1
        exact z1 c h3 (by omega)
      · exact z.2 p (by omega) (by omega) ip c h3 h4
    · by_cases ip : isP (h 105) (63 * i) q
      · rw [if_pos ip, hpL_iff]
        exact fun c h3 h4 => z q (Nat.le_refl _) (by omega) ip c h3 (by omega)
      · rw [if_neg ip]
theorem cnt_congr {p p' : Nat → Bool} : ∀ n, (∀ q, q < n → p q = p' q) → fa_cnt p n = fa_cnt p' n
  | 0, _ => rfl
  | n + 1, e => by
    have ih := cnt_congr n (fun q hq => e q (by omega))
    cases c : p n
    · rw [fa_cnt_no c, fa_cnt_no (by rw [← e n (by omega)]; exact c), ih]
    · rw [fa_cnt_yes c, fa_cnt_yes (by rw [← e n (by omega)]; exact c), ih]
theorem rov_ovr {h : HP} (hN : NetOK h) {i k t d c : Nat} (lg : ∀ q, q < k → LegOK h (fun c => h 105 (63 * i + 9 * q + c))) (ht : t < 24) (hd : d < 100) (hc : c < 8) (hk : h 12 t = 1 ∨ h 12 t = 2) : fa_cnt (rov (h 105) (63 * i) (nI t) (nI d) (nI c)) k = nov (h 105) (63 * i) t d c k := by
  refine cnt_congr k (fun q hq => decide_eq_decide.mpr ?_)
  have hT := nT_le hN
  rcases leg_cases hN (lg q hq) with ⟨a1, _, _, a4⟩ | ⟨a1, a2, a3, a4, a5, a6, a7, a8, a9, a10⟩
  · refine ⟨fun z => ?_, fun z => ?_⟩
    · have z2 := z.2.1
      have a4 : h 105 (63 * i + 9 * q + 6) = -1 := a4
      rw [a4] at z2
      have := congrArg Int32.toInt z2
      rw [toInt_nI (by omega)] at this
      have m1 : (-1 : Int32).toInt = -1 := rfl
      omega
    · rcases z.1 with v | v <;> (dsimp only [Nat.add_zero] at a1; rw [v] at a1; exact absurd (by decide) a1)
  · have hC := nC_le hN (wT h i q)
    have a2 : wT h i q < nT h := a2
    have a3 : wD h i q < 100 := a3
    have a4 : wN h i q < wF h i q := a4
    have a5 : wF h i q < nC h (wT h i q) := a5
    have a6 : h 105 (63 * i + 9 * q) = h 12 (wT h i q) := a6
    rw [show h 105 (63 * i + 9 * q + 1) = nI (wT h i q) from a7, show h 105 (63 * i + 9 * q + 6) = nI (wD h i q) from a8, show h 105 (63 * i + 9 * q + 7) = nI (wN h i q) from a9, show h 105 (63 * i + 9 * q + 8) = nI (wF h i q) from a10, eqI (by omega) (by omega), eqI (by omega) (by omega), leI (by omega) (by omega), ltI (by omega) (by omega)]
    refine ⟨fun z => ⟨?_, ⟨?_, ?_⟩, ?_, ?_⟩, fun z => ?_⟩
    · show h 105 (63 * i + 9 * q) = 1 ∨ h 105 (63 * i + 9 * q) = 2
      rw [a6, z.1]
      exact hk
    · exact z.1.symm
    · exact z.2.1.symm
    · exact z.2.2.1
    · exact z.2.2.2
    · obtain ⟨_, ⟨z1, z2⟩, z3, z4⟩ := z
      exact ⟨z1.symm, z2.symm, z3, z4⟩
/-- the class has the places exactly where the reference's flag stays down -/
theorem hp_flag {h h' : HP} (hN : NetOK h) (hm : OnM h h) {i k : Nat} (lg : ∀ q, q < k → LegOK h (fun c => h 105 (63 * i + 9 * q + c))) {z : Bool}
    (hx : ∀ t d c, t < 24 → d < 100 → c < 8 → h' 93 (px t d c) = pl (h 105) (63 * i) 1 t d c k (h 93 (px t d c)))
    (fl : Fl h h' (fun t d c => ∃ p, p < k ∧ ovr (h 105) (63 * i) t d c p) z) : z = !hpW h i k k 0 := by
  have hT := nT_le hN
  have key : ∀ t d c p, p < k → t < 24 → d < 100 → c < 8 → ovr (h 105) (63 * i) t d c p → (h 74 t < h' 93 (px t d c) ↔ hpC h i k t d c = false) := by
    intro t d c p hp ht hd hc ov
    have hk : h 12 t = 1 ∨ h 12 t = 2 := by
      rcases leg_cases hN (lg p hp) with ⟨a1, _, _, a4⟩ | ⟨a1, a2, a3, a4, a5, a6, a7, a8, a9, a10⟩
      · rcases ov.1 with v | v <;> (dsimp only [Nat.add_zero] at a1; rw [v] at a1; exact absurd (by decide) a1)
      · have a6 : h 105 (63 * i + 9 * p) = h 12 (tn (h 105 (63 * i + 9 * p + 1))) := a6
        rw [ov.2.1.1, ← a6]
        exact ov.1
    rw [hx t d c ht hd hc, pl_one, hpC, rov_ovr hN lg ht hd hc hk, hm.c 74 14, show h 93 (px t d c) = tkN h t d c from hm.2.2.2.2 t d c ht hd hc, decide_eq_false_iff_not]
    exact ⟨fun y w => by rw [fa_lt] at y; rw [fa_le] at w; omega, fun y => fa_of_nle y⟩
  have main : z = true ↔ hpW h i k k 0 = false := by
    refine Iff.trans fl ⟨fun ⟨t, d, c, h1, h2, h3, ⟨p, hp, ov⟩, h5⟩ => ?_, fun w => ?_⟩
    · cases e : hpW h i k k 0
      · rfl
      · have q := (hpW_iff k 0).mp e p (Nat.zero_le _) (by omega) ov.1 c ov.2.2.1 ov.2.2.2
        have q2 := (key t d c p hp h1 h2 h3 ov).mp h5
        rw [show wT h i p = t from ov.2.1.1.symm, show wD h i p = d from ov.2.1.2.symm, q2] at q
        cases q
    · have nn : ¬ ∀ p, 0 ≤ p → p < 0 + k → isP (h 105) (63 * i) p → ∀ c, wN h i p ≤ c → c < wF h i p → hpC h i k (wT h i p) (wD h i p) c = true := fun y => by
        rw [(hpW_iff k 0).mpr y] at w
        cases w
      have ⟨p, np⟩ := Classical.not_forall.mp nn
      have ⟨hp0, np⟩ := Classical.not_imp.mp np
      have ⟨hp, np⟩ := Classical.not_imp.mp np
      have ⟨ip, np⟩ := Classical.not_imp.mp np
      have ⟨c, np⟩ := Classical.not_forall.mp np
      have ⟨h3, np⟩ := Classical.not_imp.mp np
      have ⟨h4, np⟩ := Classical.not_imp.mp np
      have hp : p < k := by omega
      rcases leg_cases hN (lg p hp) with ⟨a1, _, _, a4⟩ | ⟨a1, a2, a3, a4, a5, a6, a7, a8, a9, a10⟩
      · rcases ip with v | v <;> (dsimp only [Nat.add_zero] at a1; rw [v] at a1; exact absurd (by decide) a1)
      · have hC := nC_le hN (wT h i p)
        have a2 : wT h i p < nT h := a2
        have a3 : wD h i p < 100 := a3
        have a5 : wF h i p < nC h (wT h i p) := a5
        have ov : ovr (h 105) (63 * i) (wT h i p) (wD h i p) c p := ⟨ip, ⟨rfl, rfl⟩, h3, h4⟩
        refine ⟨wT h i p, wD h i p, c, by omega, a3, by omega, ⟨p, hp, ov⟩, (key _ _ _ p hp (by omega) a3 (by omega) ov).mpr ?_⟩
        cases e : hpC h i k (wT h i p) (wD h i p) c
        · rfl
        · exact absurd e np
  cases e : hpW h i k k 0
  · rw [main.mpr e]; rfl
  · cases e2 : z
    · rfl
    · rw [main.mp e2] at e
      cases e
/-! ===== the places of a new ticket, the class's side ===== -/
def TF (h : HP) (j k : Nat) (f : Nat → Int32) (B : Nat) : Prop := j < 30 ∧ k ≤ 7 ∧ h 36 j = nI k ∧ ∀ q, q < k → h 38 (7 * j + q) = f (B + 9 * q + 1) ∧ h 39 (7 * j + q) = f (B + 9 * q + 6) ∧ h 40 (7 * j + q) = f (B + 9 * q + 7) ∧ h 41 (7 * j + q) = f (B + 9 * q + 8) ∧ LegOK h (fun c => f (B + 9 * q + c))
def fT (f : Nat → Int32) (B q : Nat) : Nat := tn (f (B + 9 * q + 1))
def fD (f : Nat → Int32) (B q : Nat) : Nat := tn (f (B + 9 * q + 6))
def fN (f : Nat → Int32) (B q : Nat) : Nat := tn (f (B + 9 * q + 7))
def fF (f : Nat → Int32) (B q : Nat) : Nat := tn (f (B + 9 * q + 8))
theorem TF.leg {h : HP} (hN : NetOK h) {j k : Nat} {f : Nat → Int32} {B q : Nat} (t : TF h j k f B) (hq : q < k) : (¬ (f (B + 9 * q)).toInt ≤ 2 ∧ h 39 (7 * j + q) = -1) ∨ ((f (B + 9 * q)).toInt ≤ 2 ∧ (fT f B q < nT h ∧ fD f B q < 100 ∧ fN f B q < fF f B q ∧ fF f B q < nC h (fT f B q)) ∧ (h 38 (7 * j + q) = nI (fT f B q) ∧ h 39 (7 * j + q) = nI (fD f B q) ∧ h 40 (7 * j + q) = nI (fN f B q) ∧ h 41 (7 * j + q) = nI (fF f B q))) := by
  obtain ⟨e1, e2, e3, e4, hl⟩ := t.2.2.2 q hq
  rcases leg_cases hN hl with ⟨a1, _, _, a4⟩ | ⟨a1, a2, a3, a4, a5, a6, a7, a8, a9, a10⟩
  · exact Or.inl ⟨a1, by rw [e2]; exact a4⟩
  · exact Or.inr ⟨a1, ⟨a2, a3, a4, a5⟩, e1.trans a7, e2.trans a8, e3.trans a9, e4.trans a10⟩
def PF (h h' : HP) (f : Nat → Int32) (B k : Nat) (b : Int32) (q : Nat) : Prop := Agr [31, 32, 33] h h' ∧ PlOK h' ∧ (∀ i, 8 * pS h' ≤ i → h' 33 i = 0) ∧ (pS h' ≤ pS h + rds f B q ∧ ((∀ p, p < k → isP f B p → rowN h (fT f B p) (fD f B p) ≠ none) → pS h' = pS h)) ∧ (∀ t d, rowN h t d ≠ none → rowN h' t d ≠ none) ∧ (∀ p, p < q → isP f B p → rowN h' (fT f B p) (fD f B p) ≠ none) ∧ ∀ t d c, t < 24 → d < 100 → c < 8 → tkN h' t d c = pl f B b t d c q (tkN h t d c)
theorem c_chF {G : GA} {h : HP} (hN : NetOK h) {j k B : Nat} {f : Nat → Int32} (tl : TF h j k f B) {b : Int32} (free : (∀ p, p < k → isP f B p → rowN h (fT f B p) (fD f B p) ≠ none) ∨ pS h + rds f B k ≤ 90) {K : HP → Prop} (kk : ∀ h', PF h h' f B k b k → K h') : ∀ m q h', q + m = k → PF h h' f B k b q → H_Tickets_changePlaces_2 G h' (nI j) b (nI q) K
  | 0, q, h', e, pc => by
    have tl0 := tl
    obtain ⟨hj, hk, e36, tq⟩ := tl0
    refine s_Tickets_changePlaces_2 _ _ _ _ _ _ ⟨in_nI hj (by decide), ?_⟩
    rw [tnI (by omega), pc.1 36 (by decide), e36, if_pos (by rw [leI (by omega) (by omega)]; omega)]
    rw [show q = k by omega] at pc
    exact kk h' pc
  | m + 1, q, h', e, pc => by
    have tl0 := tl
    obtain ⟨hj, hk, e36, tq⟩ := tl0
    have hT := nT_le hN
    have ih := c_chF (G := G) hN tl free kk m (q + 1)
    have hq : q < k := by omega
    have hip := leg_isP hN (tq q hq).2.2.2.2
    dsimp only [Nat.add_zero] at hip
    have stay : ¬ isP f B q → PF h h' f B k b (q + 1) := by
      intro z
      obtain ⟨p1, p2, p3, p4, p5, p6, p7⟩ := pc
      refine ⟨p1, p2, p3, ⟨Nat.le_trans p4.1 (by rw [rds_S]; omega), p4.2⟩, p5, fun p hp ip => ?_, fun t d c h1 h2 h3 => ?_⟩
      · by_cases c : p = q
        · rw [c] at ip
          exact absurd ip z
        · exact p6 p (by omega) ip
      · rw [pl, if_neg (fun w => z w.1)]
        exact p7 t d c h1 h2 h3
    refine s_Tickets_changePlaces_2 _ _ _ _ _ _ ⟨in_nI hj (by decide), ?_⟩
    rw [tnI (by omega), pc.1 36 (by decide), e36, if_neg (by rw [leI (by omega) (by omega)]; omega), ix7, tnI (by omega), pc.1 39 (by decide), pc.1 38 (by decide), pc.1 40 (by decide), pc.1 41 (by decide), pc.1 12 (by decide), nI_1]
    refine ⟨in_nI (by omega) (by decide), ?_⟩
    rcases tl.leg hN hq with ⟨a1, a4⟩ | ⟨a1, ⟨a2, a3, a4, a5⟩, ⟨b1, b2, b3, b4⟩⟩
    · rw [a4, if_pos (by decide)]
      refine ih h' (by omega) (stay (fun z => ?_))
      rcases z with z | z <;> (rw [z] at a1; exact a1 (by decide))
    · have hC := nC_le hN (fT f B q)
      rw [b2, if_neg (nIneg (by omega)), b1, tnI (by omega)]
      refine ⟨in_nI (by omega) (by decide), ?_⟩
      have a1' := a1
      rcases hip with ⟨i1, _, i3⟩ | ⟨i1, i2⟩
      · rw [if_neg (show ¬ h 12 (fT f B q) = 0 from i3), b3, b4]
        have ip : isP f B q := i1
        obtain ⟨p1, p2, p3, p4, p5, p6, p7⟩ := pc
        have hrs : rds f B (q + 1) = rds f B q + 1 := by rw [rds_S, if_pos a1']
        have hrk := rds_mono f B (show q + 1 ≤ k by omega)
        refine c_change p2 p3 (by omega) a3 (by omega) (by omega) (free.imp (fun z => p5 _ _ (z q hq ip)) (fun z => by omega)) (fun h2 cg => ?_)
        obtain ⟨g1, g2, g3, g4, g5, g6, g7⟩ := cg
        refine ih h2 (by omega) ⟨p1.trans g1, g2, g6, ⟨by omega, fun z => ?_⟩, fun t d w => g5 t d (p5 t d w), fun p hp ip2 => ?_, fun t d c h1 h2' h3 => ?_⟩
        · rw [g3.2.2 (p5 _ _ (z q hq ip)), p4.2 z]
        · by_cases c : p = q
          · rw [c]
            exact g4
          · exact g5 _ _ (p6 p (by omega) ip2)
        · rw [g7 t d c h1 h2' h3, p7 t d c h1 h2' h3, pl]
          by_cases w : (t = fT f B q ∧ d = fD f B q) ∧ fN f B q ≤ c ∧ c < fF f B q
          · rw [if_pos w, if_pos (show ovr f B t d c q from ⟨ip, w⟩)]
          · rw [if_neg w, if_neg (fun z : ovr f B t d c q => w z.2)]
      · rw [if_pos (show h 12 (fT f B q) = 0 from i2 a1')]
        exact ih h' (by omega) (stay i1)
