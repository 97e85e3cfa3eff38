/-- what holds of the table up to r rides -/
def Up (N : HP) (rs : List (Nat × Nat)) (lim D ask frm r : Nat) (E R : Nat → Nat → Nat → Nat) : Prop :=
  (∀ f s, E 0 f s = if f = 0 ∧ s = frm then ask else NVR) ∧ (∀ i f s, i < r → MO (SR N ask i (E i) f s) (R i f s)) ∧ ∀ i f s, i < r → MO (SE N rs lim D (R i) (fun _ _ => True) f s) (E (i + 1) f s)
def Bg (D r : Nat) (E : Nat → Nat → Nat) : Prop := ∀ f s, D * r < f → E f s = NVR
theorem Bg_R {N : HP} {D ask r : Nat} {E R : Nat → Nat → Nat} (hE : Bg D r E) (mo : ∀ f s, MO (SR N ask r E f s) (R f s)) : Bg D r R := by
  intro f s hf
  rcases (mo f s).1 with q | q
  · exact q
  · rcases q with ⟨-, q, -⟩ | ⟨w, -, -, q, -⟩
    · rw [hE f _ hf] at q; omega
    · rw [hE f _ hf] at q; omega
theorem Bg_E {N : HP} (hN : NetOK N) {rs : List (Nat × Nat)} {lim D r : Nat} (hDd : D = 0 ∨ D = dear N) (hok : RsOK rs) {E R : Nat → Nat → Nat} {Pd : Nat → Nat → Prop} (hR : Bg D r R) (mo : ∀ f s, MO (SE N rs lim D R Pd f s) (E f s)) : Bg D (r + 1) E := by
  intro f s hf
  rcases (mo f s).1 with q | q
  · exact q
  · obtain ⟨v, t, d, i, j, f', hw, -, h1, h2, -, -⟩ := q
    have hd := hok v t d hw.1
    have h3 := lT_le hN hd t i
    have h4 := pr_le hN (sA N t i) (sA N t j) D hDd
    have hv := NVRe
    have hm : D * (r + 1) = D * r + D := Nat.mul_succ D r
    rw [hR f' _ (by omega)] at h1
    omega
theorem TE_0 {E : Nat → Nat → Nat} {ask frm : Nat} (ha : ask < 400000) (h : ∀ f s, E f s = if f = 0 ∧ s = frm then ask else NVR) : TE E := by
  intro f s
  rw [h f s]
  split
  · exact Or.inr ha
  · exact Or.inl rfl
theorem TE_E {N : HP} {rs : List (Nat × Nat)} {lim D : Nat} {E R : Nat → Nat → Nat} {Pd : Nat → Nat → Prop} (hl : lim ≤ 400000) (mo : ∀ f s, MO (SE N rs lim D R Pd f s) (E f s)) : TE E := by
  intro f s
  rcases (mo f s).1 with q | q
  · exact Or.inl q
  · have := SE_lt q
    exact Or.inr (by omega)
theorem R_le {N : HP} (hN : NetOK N) {ask r : Nat} {E R : Nat → Nat → Nat} (ha : ask < 400000) (te : TE E) (mo : ∀ f s, MO (SR N ask r E f s) (R f s)) : ∀ f s, R f s = NVR ∨ R f s < 410000 := by
  intro f s
  have hv := NVRe
  rcases (mo f s).1 with q | q
  · exact Or.inl q
  · rcases q with ⟨-, q1, q2⟩ | ⟨w, -, -, q1, q2⟩
    · have h1 := te f s
      have h2 := (hN.1.2.1 s).t
      refine Or.inr ?_
      rw [q2]
      split <;> omega
    · have h1 := te f (tn (N 23 w))
      refine Or.inr ?_
      rw [q2]
      exact wE_small hN (by omega) ha
theorem Up.te {N : HP} {rs : List (Nat × Nat)} {lim D ask frm r : Nat} {E R : Nat → Nat → Nat → Nat} (u : Up N rs lim D ask frm r E R) (hl : lim ≤ 400000) (ha : ask < 400000) : ∀ i, i ≤ r → TE (E i)
  | 0, _ => TE_0 ha u.1
  | i + 1, h => TE_E hl (fun f s => u.2.2 i f s (by omega))
theorem Up.bg {N : HP} (hN : NetOK N) {rs : List (Nat × Nat)} {lim D ask frm r : Nat} {E R : Nat → Nat → Nat → Nat} (u : Up N rs lim D ask frm r E R) (hDd : D = 0 ∨ D = dear N) (hok : RsOK rs) : ∀ i, i ≤ r → Bg D i (E i) ∧ (i < r → Bg D i (R i))
  | 0, _ => by
    have h0 : Bg D 0 (E 0) := fun f s hf => by rw [u.1 f s, if_neg (by omega)]
    exact ⟨h0, fun h => Bg_R h0 (fun f s => u.2.1 0 f s h)⟩
  | i + 1, h => by
    have ih := (Up.bg hN u hDd hok i (by omega)).2 (by omega)
    have h1 := Bg_E hN hDd hok ih (fun f s => u.2.2 i f s (by omega))
    exact ⟨h1, fun h => Bg_R h1 (fun f s => u.2.1 (i + 1) f s h)⟩
/-- the arrays hold the table up to r rides, NEVER behind it -/
def Hd (h : HP) (D r : Nat) (E R : Nat → Nat → Nat → Nat) : Prop :=
  (∀ i, i ≤ r → EA h D i (E i)) ∧ (∀ i, i < r → RY h D i (R i)) ∧ (∀ i, r < i → i ≤ 3 → EA h D i (fun _ _ => NVR)) ∧ ∀ i, r ≤ i → i < 3 → RY h D i (fun _ _ => NVR)
theorem c_ask_v {G : GA} {N : HP} (hN : NetOK N) {rs : List (Nat × Nat)} {lim D ask r : Nat} (hD : D ≤ 9) (hDd : D = 0 ∨ D = dear N) (hr : r < 3) (hl : lim ≤ 400000) (hrs : rs.length ≤ 132) (hok : RsOK rs) (hok2 : ∀ (v t d : Nat), rs[v]? = some (t, d) → t < 24) {R : Nat → Nat → Nat} (hR : ∀ f s, R f s ≤ NVR) (hbig : Bg D r R) {K : HP → Prop} {h0 : HP}
    (kk : ∀ h' E', SC N h' rs lim D ask → F4 D (r + 1) h0 h' → EA h' D (r + 1) E' → (∀ f s, MO (SE N rs lim D R (fun _ _ => True) f s) (E' f s)) → H_Search_ask_38 G h' (nI (r + 1) + 1) K) :
    ∀ (m v : Nat) (h : HP) (E : Nat → Nat → Nat), v + m = rs.length → SC N h rs lim D ask → F4 D (r + 1) h0 h → RY h D r R → EA h D (r + 1) E → (∀ f s, MO (SE N rs lim D R (fun v' _ => v' < v) f s) (E f s)) → H_Search_ask_55 G h (nI (r + 1)) (nI v) K
  | 0, v, h, E, e, sc, F, ry, ea, mo => by
    refine s_Search_ask_55 G h _ _ K ?_
    rw [sc.2.2.2.2.1, if_pos (by rw [leI (by omega) (by omega)]; omega)]
    refine kk h E sc F ea (fun f s => (mo f s).cong (fun y => ?_))
    constructor
    · rintro ⟨v', t', d', i, j, f', hw, hp, h1⟩
      exact ⟨v', t', d', i, j, f', hw, trivial, h1⟩
    · rintro ⟨v', t', d', i, j, f', hw, hp, h1⟩
      exact ⟨v', t', d', i, j, f', hw, by have := (List.getElem?_eq_some_iff.mp hw.1).1; omega, h1⟩
  | m + 1, v, h, E, e, sc, F, ry, ea, mo => by
    refine s_Search_ask_55 G h _ _ K ?_
    rw [sc.2.2.2.2.1, if_neg (by rw [leI (by omega) (by omega)]; omega)]
    have hlt : v < rs.length := by omega
    obtain ⟨⟨t, d⟩, hv⟩ : ∃ q, rs[v]? = some q := ⟨rs[v], List.getElem?_eq_getElem hlt⟩
    refine c_ride hN hD hDd hr hl hrs hv (hok v t d hv) (hok2 v t d hv) hR hbig sc ry ea mo (fun h' E' sc' F' ea' mo' => ?_)
    rw [nI_1]
    exact c_ask_v hN hD hDd hr hl hrs hok hok2 hR hbig kk m (v + 1) h' E' (by omega) sc' (F.t F') (ry.agr (F'.1 50 (by decide))) ea' mo'
theorem c_ask_r {G : GA} {N : HP} (hN : NetOK N) {rs : List (Nat × Nat)} {lim D ask frm : Nat} (hD : D ≤ 9) (hDd : D = 0 ∨ D = dear N) (hl : lim ≤ 400000) (ha : ask < 400000) (hrs : rs.length ≤ 132) (hok : RsOK rs) (hok2 : ∀ (v t d : Nat), rs[v]? = some (t, d) → t < 24) {K : HP → Prop} {h0 : HP}
    (kk : ∀ h' E R, DP N rs lim D ask frm E R → SC N h' rs lim D ask → Agr [48, 49, 50, 53] h0 h' → (∀ i, i ≤ 3 → EA h' D i (E i)) → (∀ i, i < 3 → RY h' D i (R i)) → K h') :
    ∀ (m r : Nat) (h : HP) (E R : Nat → Nat → Nat → Nat), r + m = 3 → Up N rs lim D ask frm r E R → SC N h rs lim D ask → Agr [48, 49, 50, 53] h0 h → Hd h D r E R → H_Search_ask_38 G h (nI (r + 1)) K
  | 0, r, h, E, R, e, u, sc, ag, hd => by
    refine s_Search_ask_38 G h _ K ?_
    have hr3 : r = 3 := by omega
    subst hr3
    rw [if_pos (by decide)]
    exact kk h E R ⟨u.1, u.2.1, u.2.2⟩ sc ag hd.1 hd.2.1
  | m + 1, r, h, E, R, e, u, sc, ag, hd => by
    refine s_Search_ask_38 G h _ K ?_
    rw [if_neg (by rw [show (3 : Int32) = nI 3 from rfl, ltI (by omega) (by omega)]; omega), sub1]
    have te := u.te hl ha r (Nat.le_refl _)
    have bg := (u.bg hN hDd hok r (Nat.le_refl _)).1
    refine c_getReady hN hD (by omega) ha te bg sc (hd.1 r (Nat.le_refl _)) (hd.2.2.2 r (Nat.le_refl _) (by omega)) (fun h1 R1 sc1 F1 ry1 mo1 => ?_)
    have hR1 : ∀ f s, R1 f s ≤ NVR := fun f s => by
      have := R_le hN ha te mo1 f s
      have hv := NVRe
      omega
    have hb1 := Bg_R bg mo1
    have e49 : h1 49 = h 49 := F1.1 49 (by decide)
    refine c_ask_v hN hD hDd (by omega) hl hrs hok hok2 hR1 hb1 (h0 := h1) (fun h2 E2 sc2 F2 ea2 mo2 => ?_) rs.length 0 h1 (fun _ _ => NVR) (by omega) sc1 (F4.refl _ _ _) ry1 ((hd.2.2.1 (r + 1) (by omega) (by omega)).agr e49) (fun f s => MO.none (fun y q => ?_))
    · rw [nI_1]
      have hag : Agr [48, 49, 50, 53] h0 h2 := (ag.trans (F1.1.mono (by decide))).trans (F2.1.mono (by decide))
      have e50 : h2 50 = h1 50 := F2.1 50 (by decide)
      refine c_ask_r hN hD hDd hl ha hrs hok hok2 kk m (r + 1) h2 (fun i => if i = r + 1 then E2 else E i) (fun i => if i = r then R1 else R i) (by omega) ⟨fun f s => ?_, fun i f s hi => ?_, fun i f s hi => ?_⟩ sc2 hag ⟨fun i hi => ?_, fun i hi => ?_, fun i h1' h2' => ?_, fun i h1' h2' => ?_⟩
      · show (if 0 = r + 1 then E2 else E 0) f s = _
        rw [if_neg (by omega)]
        exact u.1 f s
      · show MO (SR N ask i (if i = r + 1 then E2 else E i) f s) ((if i = r then R1 else R i) f s)
        rw [if_neg (show ¬ i = r + 1 by omega)]
        by_cases c : i = r
        · rw [if_pos c, c]; exact mo1 f s
        · rw [if_neg c]; exact u.2.1 i f s (by omega)
      · show MO (SE N rs lim D (if i = r then R1 else R i) (fun _ _ => True) f s) ((if i + 1 = r + 1 then E2 else E (i + 1)) f s)
        by_cases c : i = r
        · rw [if_pos c, if_pos (by omega)]; exact mo2 f s
        · rw [if_neg c, if_neg (by omega)]; exact u.2.2 i f s (by omega)
      · show EA h2 D i (if i = r + 1 then E2 else E i)
        by_cases c : i = r + 1
        · rw [if_pos c, c]; exact ea2
        · rw [if_neg c]
          exact F2.2 i _ (by omega) c ((hd.1 i (by omega)).agr e49)
      · show RY h2 D i (if i = r then R1 else R i)
        by_cases c : i = r
        · rw [if_pos c, c]; exact ry1.agr e50
        · rw [if_neg c]
          exact (F1.2 i _ (by omega) c (hd.2.1 i (by omega))).agr e50
      · exact F2.2 i _ h2' (by omega) ((hd.2.2.1 i (by omega) h2').agr e49)
      · exact (F1.2 i _ h2' (by omega) (hd.2.2.2 i (by omega) h2')).agr e50
    · obtain ⟨v', t', d', i, j, f', hw, hp, h1⟩ := q
      omega
theorem c_ask {G : GA} {N h : HP} (hN : NetOK N) {rs : List (Nat × Nat)} {lim D ask frm : Nat} (hD : D ≤ 9) (hDd : D = 0 ∨ D = dear N) (hl : lim ≤ 400000) (ha : ask < 400000) (hrs : rs.length ≤ 132) (hok : RsOK rs) (hok2 : ∀ (v t d : Nat), rs[v]? = some (t, d) → t < 24) (hf : frm < 12) (hon : On h N) (hlim : h 42 6 = nI lim) (ra : RA N h rs) {K : HP → Prop}
    (kk : ∀ h' E R, DP N rs lim D ask frm E R → SC N h' rs lim D ask → Agr [48, 49, 50, 53] h h' → (∀ i, i ≤ 3 → EA h' D i (E i)) → (∀ i, i < 3 → RY h' D i (R i)) → K h') : P_Search_ask G h (nI frm) (nI ask) (nI D) K := by
  refine s_Search_ask_0 G h _ _ _ K ?_
  rintro _ rfl _ rfl
  have sc0 : SC N (up (up h 48 9 (nI ask)) 48 10 (nI D)) rs lim D ask := by
    refine ⟨(hon.up (by decide) _ _).up (by decide) _ _, by rw [up_sl _ _ (by decide), up_at], by rw [up_at], by rw [up_ce _ _ _ (by decide), up_ce _ _ _ (by decide)]; exact hlim, ra.cells (fun k h1 h2 => by rw [up_ce _ _ _ (by omega), up_ce _ _ _ (by omega)])⟩
  have ag0 : Agr [48, 49, 50, 53] h (up (up h 48 9 (nI ask)) 48 10 (nI D)) := ((Agr.refl _ _).up (by decide) _ _).up (by decide) _ _
  generalize (up (up h 48 9 (nI ask)) 48 10 (nI D)) = h2 at sc0 ag0 ⊢
  refine c_fill_49 (fun h5 ag5 hx5 => ?_)
  have sc5 := sc0.agr ag5
  refine c_fill_50 (fun h8 ag8 hx8 => ?_)
  have sc8 := sc5.agr ag8
  refine ⟨in_nI (by omega) (by decide), ?_⟩
  rintro _ rfl
  rw [tnI (by omega)]
  have nv : (1000000000 : Int32) = nI NVR := rfl
  have e49 : h8 49 = h5 49 := ag8 49 (by decide)
  have all49 : ∀ i, i ≤ 3 → EA h8 D i (fun _ _ => NVR) := fun i hi f s hf' hs => by
    have hD9 : bs D i + f < 4 + 6 * D := by
      have h1 : i = 0 ∨ i = 1 ∨ i = 2 ∨ i = 3 := by omega
      rcases h1 with rfl | rfl | rfl | rfl
      · rw [bs0]; omega
      · rw [bs1]; omega
      · rw [bs2]; omega
      · rw [bs3]; omega
    rw [e49, hx5 _ (by unfold rw'; omega), nv]
  have all50 : ∀ i, i < 3 → RY h8 D i (fun _ _ => NVR) := fun i hi f s hf' hs => by
    have hD9 : bs D i + f < 3 + 3 * D := by
      have h1 : i = 0 ∨ i = 1 ∨ i = 2 := by omega
      rcases h1 with rfl | rfl | rfl
      · rw [bs0]; omega
      · rw [bs1]; omega
      · rw [bs2]; omega
    rw [hx8 _ (by unfold rw'; omega), nv]
  have efrm : frm = rw' D 0 0 + frm := by unfold rw'; rw [bs0]; omega
  have ag9 : Agr [48, 49, 50, 53] h (up h8 49 frm (nI ask)) := ((ag0.trans (ag5.mono (by decide))).trans (ag8.mono (by decide))).up (by decide) _ _
  refine c_ask_r hN hD hDd hl ha hrs hok hok2 kk 3 0 _ (fun _ f s => if f = 0 ∧ s = frm then ask else NVR) (fun _ _ _ => NVR) (by omega) ⟨fun f s => rfl, fun i f s hi => by omega, fun i f s hi => by omega⟩ (sc8.up (by decide) _ _) ag9 ⟨fun i hi => ?_, fun i hi => by omega, fun i h1 h2 => ?_, fun i h1 h2 => ?_⟩
  · have hi0 : i = 0 := by omega
    subst hi0
    have := (all49 0 (by omega)).put (f := 0) (s := frm) (by omega) (by omega) hf ask
    rw [← efrm] at this
    intro f s hf' hs
    rw [this f s hf' hs]
    rfl
  · have := (all49 i h2).other (r := 0) (f := 0) (s := frm) (by omega) h2 (by omega) (by omega) hf (nI ask)
    rw [← efrm] at this
    exact this
  · exact (all50 i h2).agr (up_ce _ _ _ (by decide))
