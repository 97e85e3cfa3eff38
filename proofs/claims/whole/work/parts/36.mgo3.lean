theorem pr_dear {N : HP} (hN : NetOK N) (a b : Nat) : pr N (dear N) a b = pz N a b := by
  unfold pr
  split
  · rename_i c
    have := pz_dear hN a b
    omega
  · rfl
theorem SE4_SE {N : HP} (hN : NetOK N) {rs : List (Nat × Nat)} {lim : Nat} {R : Nat → Nat → Nat} (f s y : Nat) : SE4 N rs lim R (PL rs.length 0 0 0) f s y ↔ SE N rs lim (dear N) R (fun _ _ => True) f s y := by
  constructor
  · rintro ⟨v, t, d, i, j, g, h1, -, h3, h4, h5⟩
    exact ⟨v, t, d, i, j, g, h1, trivial, h3, by rw [pr_dear hN]; exact h4, h5⟩
  · rintro ⟨v, t, d, i, j, g, h1, -, h3, h4, h5⟩
    exact ⟨v, t, d, i, j, g, h1, Or.inl (List.getElem?_eq_some_iff.mp h1.1).1, h3, by rw [pr_dear hN] at h4; exact h4, h5⟩
theorem cm_go_v {G : GA} {N : HP} (hN : NetOK N) (hP : PlOK N) {rs : List (Nat × Nat)} {lim ask frm r : Nat} (hr : r < 3) (hl : lim ≤ 400000) (hrs : rs.length ≤ 132) (hok : RsOK rs) (hok2 : ∀ (v t d : Nat), rs[v]? = some (t, d) → t < nT N) {R : Nat → Nat → Nat} (hR : ∀ f s, R f s ≤ NVR) (hbig : ∀ f s, 18 < f → R f s = NVR) {K : HP → Prop} {h0 : HP}
    (kk : ∀ h' E', GC N h' rs lim ask frm → F98 (r + 1) h0 h' → EM h' (r + 1) E' → (∀ f s, MO (SE N rs lim (dear N) R (fun _ _ => True) f s) (E' f s)) → H_Model_go_145 G h' (nI ask) (nI (r + 1)) 0 K) :
    ∀ (m v : Nat) (h : HP) (E : Nat → Nat → Nat), v + m = rs.length → GC N h rs lim ask frm → F98 (r + 1) h0 h → YM h r R → EM h (r + 1) E → (∀ f s, MO (SE4 N rs lim R (PL v 0 0 0) f s) (E f s)) → H_Model_go_120 G h (nI ask) (nI (r + 1)) (nI v) K
  | 0, v, h, E, e, gc, F, y, ea, mo => by
    refine s_Model_go_120 G h _ _ _ K ?_
    rw [gc.2.2.2.2.1, if_pos (by rw [leI (by omega) (by omega)]; omega)]
    rw [show v = rs.length by omega] at mo
    exact kk h E gc F ea (fun f s => (mo f s).cong (SE4_SE hN f s))
  | m + 1, v, h, E, e, gc, F, y, ea, mo => by
    refine s_Model_go_120 G h _ _ _ K ?_
    rw [gc.2.2.2.2.1, if_neg (by rw [leI (by omega) (by omega)]; omega)]
    have hlt : v < rs.length := by omega
    obtain ⟨⟨t, d⟩, hv⟩ : ∃ q, rs[v]? = some q := ⟨rs[v], List.getElem?_eq_getElem hlt⟩
    refine cm_ride hN hP hr hl hrs hv (hok v t d hv) (hok2 v t d hv) hR hbig gc y ea mo (fun h' E' gc' F' ea' mo' => ?_)
    rw [nI_1]
    exact cm_go_v hN hP hr hl hrs hok hok2 hR hbig kk m (v + 1) h' E' (by omega) gc' (F.t F') (y.agr (F'.1.1 99 (by decide) (by decide))) ea' mo'
/-- the reference's arrays hold the table: E of 1 to r rides, R of 0 to r -/
def HM (h : HP) (r : Nat) (E R : Nat → Nat → Nat → Nat) : Prop :=
  (∀ i, 1 ≤ i → i ≤ r → EM h i (E i)) ∧ (∀ i, i ≤ r → YM h i (R i)) ∧ (∀ i, r < i → i ≤ 3 → EM h i (fun _ _ => NVR)) ∧ ∀ i, r < i → i ≤ 3 → YM h i (fun _ _ => NVR)
def UM (N : HP) (rs : List (Nat × Nat)) (lim ask frm r : Nat) (E R : Nat → Nat → Nat → Nat) : Prop :=
  (∀ f s, E 0 f s = if f = 0 ∧ s = frm then ask else NVR) ∧ (∀ i f s, i ≤ r → MO (SR N ask i (E i) f s) (R i f s)) ∧ ∀ i f s, i < r → MO (SE N rs lim (dear N) (R i) (fun _ _ => True) f s) (E (i + 1) f s)
theorem UM.up {N : HP} {rs : List (Nat × Nat)} {lim ask frm r : Nat} {E R : Nat → Nat → Nat → Nat} (u : UM N rs lim ask frm r E R) : Up N rs lim (dear N) ask frm r E R := ⟨u.1, fun i f s hi => u.2.1 i f s (by omega), u.2.2⟩
theorem cm_go_r {G : GA} {N : HP} (hN : NetOK N) (hP : PlOK N) {rs : List (Nat × Nat)} {lim ask frm : Nat} (hl : lim ≤ 400000) (ha : ask < 400000) (hrs : rs.length ≤ 132) (hok : RsOK rs) (hok2 : ∀ (v t d : Nat), rs[v]? = some (t, d) → t < nT N) {K : HP → Prop} {h0 : HP}
    (kk : ∀ h' E R, DP N rs lim (dear N) ask frm E R → GC N h' rs lim ask frm → AM [98, 99] [31, 40] h0 h' → (∀ i, 1 ≤ i → i ≤ 3 → EM h' i (E i)) → (∀ i, i < 3 → YM h' i (R i)) → K h') :
    ∀ (m r : Nat) (h : HP) (E R : Nat → Nat → Nat → Nat), r + m = 3 → UM N rs lim ask frm r E R → GC N h rs lim ask frm → AM [98, 99] [31, 40] h0 h → HM h r E R → H_Model_go_112 G h (nI ask) (nI (r + 1)) K
  | 0, r, h, E, R, e, u, gc, am, hd => by
    refine s_Model_go_112 G h _ _ K ?_
    have hr3 : r = 3 := by omega
    subst hr3
    rw [if_pos (by decide)]
    exact kk h E R ⟨u.1, fun i f s hi => u.2.1 i f s (by omega), u.2.2⟩ gc am hd.1 (fun i hi => hd.2.1 i (by omega))
  | m + 1, r, h, E, R, e, u, gc, am, hd => by
    refine s_Model_go_112 G h _ _ K ?_
    rw [if_neg (by rw [show (4 : Int32) = nI 4 from rfl, leI (by omega) (by omega)]; omega)]
    have hD := dear_le hN
    have te := u.up.te hl ha r (Nat.le_refl _)
    have bg := (u.up.bg hN (Or.inr rfl) hok r (Nat.le_refl _)).1
    have mor : ∀ f s, MO (SR N ask r (E r) f s) (R r f s) := fun f s => u.2.1 r f s (Nat.le_refl _)
    have hR : ∀ f s, R r f s ≤ NVR := fun f s => by
      have := R_le hN ha te mor f s
      have hv := NVRe
      omega
    have hbr := Bg_R bg mor
    have hD18 : dear N * r ≤ 18 := by
      have : dear N * r ≤ 9 * 2 := Nat.mul_le_mul hD (by omega)
      omega
    refine cm_go_v hN hP (by omega) hl hrs hok hok2 hR (fun f s hf => hbr f s (by omega)) (h0 := h) (fun h1 E1 gc1 F1 ea1 mo1 => ?_) rs.length 0 h (fun _ _ => NVR) (by omega) gc (F98.refl _ _) (hd.2.1 r (Nat.le_refl _)) (hd.2.2.1 (r + 1) (by omega) (by omega)) (fun f s => MO.none (fun y q => ?_))
    · have te1 := TE_E hl mo1
      have bg1 := Bg_E hN (Or.inr rfl) hok hbr mo1
      have hD27 : dear N * (r + 1) ≤ 27 := by
        have : dear N * (r + 1) ≤ 9 * 3 := Nat.mul_le_mul hD (by omega)
        omega
      have e99 : h1 99 = h 99 := F1.1.1 99 (by decide) (by decide)
      refine cm_rd_f hN (by omega) (by omega) ha te1 (fun f s hf => bg1 f s (by omega)) ea1 (fun h2 R2 gc2 F2 y2 mo2 => ?_) 28 0 h1 (fun _ _ => NVR) (by omega) gc1 (F99.refl _ _) ((hd.2.2.2 (r + 1) (by omega) (by omega)).agr e99) (fun f' s q => by omega) (fun _ _ _ => rfl)
      rw [nI_1]
      have e98 : h2 98 = h1 98 := F2.1.1 98 (by decide) (by decide)
      have am2 : AM [98, 99] [31, 40] h0 h2 := (am.trans (F1.1.mono (by decide) (by decide))).trans (F2.1.mono (by decide) (by decide))
      refine cm_go_r hN hP hl ha hrs hok hok2 kk m (r + 1) h2 (fun i => if i = r + 1 then E1 else E i) (fun i => if i = r + 1 then R2 else R i) (by omega) ⟨fun f s => ?_, fun i f s hi => ?_, fun i f s hi => ?_⟩ gc2 am2 ⟨fun i hi1 hi => ?_, fun i hi => ?_, fun i hi1 hi => ?_, fun i hi1 hi => ?_⟩
      · show (if 0 = r + 1 then E1 else E 0) f s = _
        rw [if_neg (by omega)]
        exact u.1 f s
      · show MO (SR N ask i (if i = r + 1 then E1 else E i) f s) ((if i = r + 1 then R2 else R i) f s)
        by_cases c : i = r + 1
        · rw [if_pos c, if_pos c, c]; exact mo2 f s
        · rw [if_neg c, if_neg c]; exact u.2.1 i f s (by omega)
      · show MO (SE N rs lim (dear N) (if i = r + 1 then R2 else R i) (fun _ _ => True) f s) ((if i + 1 = r + 1 then E1 else E (i + 1)) f s)
        rw [if_neg (show ¬ i = r + 1 by omega)]
        by_cases c : i = r
        · rw [if_pos (by omega), c]; exact mo1 f s
        · rw [if_neg (by omega)]; exact u.2.2 i f s (by omega)
      · show EM h2 i (if i = r + 1 then E1 else E i)
        by_cases c : i = r + 1
        · rw [if_pos c, c]; exact ea1.agr e98
        · rw [if_neg c]
          exact (F1.2 i _ c (hd.1 i hi1 (by omega))).agr e98
      · show YM h2 i (if i = r + 1 then R2 else R i)
        by_cases c : i = r + 1
        · rw [if_pos c, c]; exact y2
        · rw [if_neg c]
          exact F2.2 i _ c ((hd.2.1 i (by omega)).agr e99)
      · exact (F1.2 i _ (by omega) (hd.2.2.1 i (by omega) hi)).agr e98
      · exact F2.2 i _ (by omega) ((hd.2.2.2 i (by omega) hi).agr e99)
    · obtain ⟨v', t', d', i, j, f', hw, hp, h1⟩ := q
      unfold PL at hp
      omega
def E00 (ask frm : Nat) : Nat → Nat → Nat := fun f s => if f = 0 ∧ s = frm then ask else NVR
theorem E00_t {ask frm s : Nat} (h : s = frm) : E00 ask frm 0 s = ask := by unfold E00; rw [if_pos ⟨rfl, h⟩]
theorem E00_f {ask frm f s : Nat} (h : ¬ (f = 0 ∧ s = frm)) : E00 ask frm f s = NVR := by unfold E00; rw [if_neg h]
theorem cm_go_w {G : GA} {N : HP} (hN : NetOK N) {rs : List (Nat × Nat)} {lim ask frm : Nat} (ha : ask < 400000) {K : HP → Prop} {h0 : HP}
    (kk : ∀ h' R, GC N h' rs lim ask frm → F99 0 h0 h' → YM h' 0 R → (∀ f s, MO (SR N ask 0 (E00 ask frm) f s) (R f s)) → H_Model_go_112 G h' (nI ask) 1 K) :
    ∀ (m w : Nat) (h : HP) (R : Nat → Nat → Nat), w + m = nW N → GC N h rs lim ask frm → F99 0 h0 h → YM h 0 R → (∀ f s, 1 ≤ f → R f s = NVR) → (∀ s, MO (SRw N ask 0 (E00 ask frm) w 0 s) (R 0 s)) → (∀ s, R 0 s ≤ NVR) → frm < 12 → H_Model_go_58 G h (nI ask) (nI w) K
  | 0, w, h, R, e, gc, F, y, h2, h3, h4, hfr => by
    have hw := nW_le hN
    refine s_Model_go_58 G h _ _ K ?_
    rw [gc.1.2.1.2.2.1, ok_W hN, if_pos (by rw [leI (by omega) (by omega)]; omega)]
    refine kk h R gc F y (fun f s => ?_)
    by_cases c : f = 0
    · subst c
      have := h3 s
      rw [show w = nW N by omega] at this
      exact this
    · rw [h2 f s (by omega)]
      refine MO.none (fun yy q => ?_)
      rcases q with ⟨-, q, -⟩ | ⟨w, -, -, q, -⟩
      · rw [E00_f (by omega)] at q; omega
      · rw [E00_f (by omega)] at q; omega
  | m + 1, w, h, R, e, gc, F, y, h2, h3, h4, hfr => by
    have hw := nW_le hN
    have hv := NVRe
    have i23 := hN.2.2.2.2.2.1 w
    have i24 := hN.2.2.2.2.2.2.1 w
    have b23 := i23.t
    have b24 := i24.t
    refine s_Model_go_58 G h _ _ K ?_
    rw [gc.1.2.1.2.2.1, ok_W hN, if_neg (by rw [leI (by omega) (by omega)]; omega), gc.1.c 81 23, gc.1.c 82 24, tnI (by omega), gc.2.2.2.1, i23.e, i24.e, nI_1]
    refine ⟨in_nI (by omega) (by decide), ?_⟩
    have ih := cm_go_w (G := G) hN ha kk m (w + 1)
    by_cases c : tn (N 23 w) = frm
    · rw [if_pos (by rw [c])]
      refine cm_at (r := 0) (f := 0) (cm_behind hN gc.1 (by omega) (by omega) (by omega) ?_)
      have hm2 := mi_lt (r := 0) (f := 0) (s := tn (N 24 w)) (by omega) (by omega) (by omega)
      have hwe : wE N w ask ask < 410000 := wE_small hN ha ha
      have h4w := h4 (tn (N 24 w))
      refine cm_least_99 hm2 (by omega) (by omega) (y 0 _ (by omega) (by omega)) ?_
      refine ih _ (upd2 R 0 (tn (N 24 w)) _) (by omega) (gc.pt (by decide) _ _) (F.put (by omega) (by omega) _) (y.put (by omega) (by omega) _) (fun f s hf => ?_) (fun s => ?_) (fun s => ?_) hfr
      · rw [upd2_ne _ (by omega)]; exact h2 f s hf
      · by_cases cs : s = tn (N 24 w)
        · subst cs
          rw [upd2_at]
          refine (h3 _).add (fun yy => ?_) (by omega)
          unfold SRw
          constructor
          · rintro (q | ⟨w', q1, q2, q3, q4⟩)
            · exact Or.inl (Or.inl q)
            · by_cases cw : w' = w
              · subst cw
                rw [E00_t c] at q4
                exact Or.inr q4
              · exact Or.inl (Or.inr ⟨w', by omega, q2, q3, q4⟩)
          · rintro ((q | ⟨w', q1, q2⟩) | q2)
            · exact Or.inl q
            · exact Or.inr ⟨w', by omega, q2⟩
            · refine Or.inr ⟨w, by omega, rfl, ?_, ?_⟩
              · rw [E00_t c]; omega
              · rw [E00_t c]; exact q2
        · rw [upd2_ne _ (by omega)]
          refine (h3 s).cong (fun yy => ?_)
          unfold SRw
          constructor
          · rintro (q | ⟨w', q1, q2⟩)
            · exact Or.inl q
            · exact Or.inr ⟨w', by omega, q2⟩
          · rintro (q | ⟨w', q1, q2, q3⟩)
            · exact Or.inl q
            · exact Or.inr ⟨w', by rcases Nat.lt_or_ge w' w with z | z; exact z; exact absurd (by rw [← q2, show w' = w by omega]) cs, q2, q3⟩
      · by_cases cs : s = tn (N 24 w)
        · subst cs
          rw [upd2_at]
          split <;> omega
        · rw [upd2_ne _ (by omega)]; exact h4 s
    · rw [if_neg (by rw [eqI (by omega) (by omega)]; exact c)]
      refine ih h R (by omega) gc F y h2 (fun s => (h3 s).cong (fun yy => ?_)) h4 hfr
      unfold SRw
      constructor
      · rintro (q | ⟨w', q1, q2⟩)
        · exact Or.inl q
        · exact Or.inr ⟨w', by omega, q2⟩
      · rintro (q | ⟨w', q1, q2, q3, q4⟩)
        · exact Or.inl q
        · refine Or.inr ⟨w', ?_, q2, q3, q4⟩
          rcases Nat.lt_or_ge w' w with z | z
          · exact z
          · rw [show w' = w by omega, E00_f (fun z => c z.2)] at q3
            omega
theorem cm_go_fill {G : GA} {K : HP → Prop} {ask : Nat} {h0 : HP} (kk : ∀ h', AM [98, 99] [] h0 h' → (∀ i, i < 1344 → h' 98 i = nI NVR ∧ h' 99 i = nI NVR) → P_Model_at G h' 0 0 (h' 67 40) (fun (r2 : Int32) (h1 : HP) => vp_in r2 1344 ∧ ∀ h3 : HP, h3 = up h1 99 (tn r2) (nI ask) → H_Model_go_58 G h3 (nI ask) 0 K)) :
    ∀ (m k : Nat) (h : HP), k + m = 1344 → AM [98, 99] [] h0 h → (∀ i, i < k → h 98 i = nI NVR ∧ h 99 i = nI NVR) → H_Model_go_12 G h (nI ask) (nI k) K
  | 0, k, h, e, am, hx => by
    refine s_Model_go_12 G h _ _ K ?_
    rw [if_pos (by rw [show (1344 : Int32) = nI 1344 from rfl, leI (by omega) (by omega)]; omega)]
    exact kk h am (fun i hi => hx i (by omega))
  | m + 1, k, h, e, am, hx => by
    refine s_Model_go_12 G h _ _ K ?_
    rw [if_neg (by rw [show (1344 : Int32) = nI 1344 from rfl, leI (by omega) (by omega)]; omega), nI_1, tnI (by omega)]
    refine ⟨in_nI (by omega) (by decide), ?_⟩
    rintro _ rfl _ rfl
    rw [show (1000000000 : Int32) = nI NVR from rfl]
    refine cm_go_fill kk m (k + 1) _ (by omega) ((am.pt (by decide) (by decide) _ _).pt (by decide) (by decide) _ _) (fun i hi => ?_)
    by_cases c : i = k
    · subst c
      rw [up_ce _ _ _ (by decide), up_at, up_at]
      exact ⟨rfl, rfl⟩
    · rw [up_ce _ _ _ (by decide), up_sl _ _ c, up_sl _ _ c, up_ce _ _ _ (by decide)]
      exact hx i (by omega)
theorem cm_go {G : GA} {N h : HP} (hN : NetOK N) (hP : PlOK N) {rs : List (Nat × Nat)} {lim ask frm : Nat} (hl : lim ≤ 400000) (ha : ask < 400000) (hrs : rs.length ≤ 132) (hok : RsOK rs) (hok2 : ∀ (v t d : Nat), rs[v]? = some (t, d) → t < nT N) (hf : frm < nS N) (hm : OnM h N) (hlim : h 67 32 = nI lim) (rm : RM N h rs) {K : HP → Prop}
    (kk : ∀ h' E R, DP N rs lim (dear N) ask frm E R → GC N h' rs lim ask frm → AM [98, 99] [31, 40] h h' → (∀ i, 1 ≤ i → i ≤ 3 → EM h' i (E i)) → (∀ i, i < 3 → YM h' i (R i)) → K h') : P_Model_go G h (nI frm) (nI ask) K := by
  have hs12 := nS_le hN
  have hv := NVRe
  refine s_Model_go_0 G h _ _ K ?_
  rintro _ rfl _ rfl
  have am0 : AM [98, 99] [31, 40] h (up (up h 67 40 (nI frm)) 67 31 (nI ask)) := ((AM.refl _ _ _).p67 (by decide) _).p67 (by decide) _
  have gc0 : GC N (up (up h 67 40 (nI frm)) 67 31 (nI ask)) rs lim ask frm := ⟨hm.am am0, by rw [up_at], by rw [up_sl _ _ (by decide), up_sl _ _ (by decide)]; exact hlim, by rw [up_sl _ _ (by decide), up_at], rm.cells (fun k h1 h2 => by rw [up_ce _ _ _ (by omega), up_ce _ _ _ (by omega)]) (by rw [up_sl _ _ (by decide), up_sl _ _ (by decide)])⟩
  generalize (up (up h 67 40 (nI frm)) 67 31 (nI ask)) = h2 at am0 gc0 ⊢
  refine cm_go_fill (h0 := h2) (fun h3 am3 hx3 => ?_) 1344 0 h2 (by omega) (AM.refl _ _ _) (fun i hi => by omega)
  have gc3 := gc0.am am3
  rw [gc3.2.2.2.1]
  refine cm_at (r := 0) (f := 0) ?_
  have hmi := mi_lt (r := 0) (f := 0) (s := frm) (by omega) (by omega) (by omega)
  refine ⟨in_nI hmi (by decide), ?_⟩
  rintro _ rfl
  rw [tnI (by omega)]
  have all98 : ∀ i, i ≤ 3 → EM h3 i (fun _ _ => NVR) := fun i hi f s hf hs => (hx3 _ (mi_lt hi hf hs)).1
  have all99 : ∀ i, i ≤ 3 → YM h3 i (fun _ _ => NVR) := fun i hi f s hf hs => (hx3 _ (mi_lt hi hf hs)).2
  have F0 : F99 0 h3 (up h3 99 (mi 0 0 frm) (nI ask)) := (F99.refl _ _).put (by omega) (by omega) _
  refine cm_go_w hN ha (h0 := h3) (fun h4 R4 gc4 F4 y4 mo4 => ?_) (nW N) 0 _ (upd2 (fun _ _ => NVR) 0 frm ask) (by omega) (gc3.pt (by decide) _ _) F0 ((all99 0 (by omega)).put (by omega) (by omega) ask) (fun f s hf => by rw [upd2_ne _ (by omega)]) (fun s => ?_) (fun s => ?_) (by omega)
  · have am4 : AM [98, 99] [31, 40] h h4 := (am0.trans (am3.mono (by decide) (by decide))).trans (F4.1.mono (by decide) (by decide))
    have e98 : h4 98 = h3 98 := F4.1.1 98 (by decide) (by decide)
    refine cm_go_r hN hP hl ha hrs hok hok2 kk 3 0 h4 (fun _ => E00 ask frm) (fun _ => R4) (by omega) ⟨fun f s => rfl, fun i f s hi => ?_, fun i f s hi => by omega⟩ gc4 am4 ⟨fun i hi1 hi => by omega, fun i hi => ?_, fun i hi1 hi => (all98 i hi).agr e98, fun i hi1 hi => F4.2 i _ (by omega) (all99 i hi)⟩
    · have hi0 : i = 0 := by omega
      subst hi0
      exact mo4 f s
    · have hi0 : i = 0 := by omega
      subst hi0
      exact y4
  · by_cases c : s = frm
    · subst c
      rw [upd2_at]
      refine ⟨Or.inr (Or.inl ⟨hf, by rw [E00_t rfl]; omega, by rw [E00_t rfl]; rfl⟩), fun yy q => ?_⟩
      rcases q with ⟨-, -, q⟩ | ⟨w, q, -⟩
      · rw [q, E00_t rfl]; exact Nat.le_add_right _ _
      · omega
    · rw [upd2_ne _ (by omega)]
      refine MO.none (fun yy q => ?_)
      rcases q with ⟨-, q, -⟩ | ⟨w, q, -⟩
      · rw [E00_f (fun z => c z.2)] at q; omega
      · omega
  · by_cases c : s = frm
    · subst c
      rw [upd2_at]; omega
    · rw [upd2_ne _ (by omega)]; exact Nat.le_refl _
