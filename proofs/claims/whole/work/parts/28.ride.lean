def AB (h : HP) (B : Nat → Nat → Bool) : Prop := ∀ z f, z < 4 → f < 32 → bt (h 53 z) f = B z f
def prz (N : HP) (D a b : Nat) : Nat := if D = 0 then 0 else tn (N 5 (4 * a + b))
theorem pr_z (N : HP) (D a b : Nat) : pr N D a b = prz N D (zn N a) (zn N b) := rfl
theorem prz_le {N : HP} (hN : NetOK N) (D a b : Nat) : prz N D a b ≤ 9 := by
  unfold prz
  split
  · omega
  · exact (hN.1.2.2.2 _).t
def F49 (D r : Nat) (h h' : HP) : Prop := Agr [49] h h' ∧ ∀ r' E', r' ≤ 3 → r' ≠ r → EA h D r' E' → EA h' D r' E'
theorem F49.refl (D r : Nat) (h : HP) : F49 D r h h := ⟨Agr.refl _ _, fun _ _ _ _ y => y⟩
theorem F49.put {D r : Nat} {h h' : HP} (F : F49 D r h h') (hr : r ≤ 3) {f s : Nat} (hf : f ≤ D * r) (hs : s < 12) (x : Int32) : F49 D r h (up h' 49 (rw' D r f + s) x) :=
  ⟨F.1.up (by decide) _ _, fun r' R' h1 h2 y => (F.2 r' R' h1 h2 y).other hr h1 h2 hf hs x⟩
theorem sub1 (r : Nat) : nI (r + 1) - 1 = nI r := by
  rw [show (1 : Int32) = nI 1 from rfl, pk_sub (by omega), show r + 1 - 1 = r by omega]
/-! ===== getting on ===== -/
theorem c_getOn_loop {G : GA} {N : HP} (hN : NetOK N) {rs : List (Nat × Nat)} {lim D ask r stop lt : Nat} (hD : D ≤ 9) (hr : r < 3) (hst : stop < 12) (hlt : lt < 1000000) {R : Nat → Nat → Nat} (hR : ∀ f s, R f s ≤ NVR) {B : Nat → Nat → Bool} {K : HP → Prop} {h0 : HP}
    (kk : ∀ h', SC N h' rs lim D ask → Agr [53] h0 h' → AB h' (fun z g => B z g || (decide (z = zn N stop) && (decide (g ≤ D * r) && decide (R g stop ≤ lt)))) → K h') :
    ∀ (m f : Nat) (h : HP), f + m = D * r + 1 → SC N h rs lim D ask → RY h D r R → Agr [53] h0 h → AB h (fun z g => B z g || (decide (z = zn N stop) && (decide (g < f) && decide (R g stop ≤ lt)))) → H_Search_getOn_56 G h (nI (r + 1)) (nI stop) (nI lt) (nI (rw' D r f + stop)) (nI f) K
  | 0, f, h, e, sc, ry, ag, ab => by
    have hD3 := D3 (show r ≤ 3 by omega) hD
    refine s_Search_getOn_56 G h _ _ _ _ _ K ?_
    rw [sub1]
    refine c_mostFare sc.2.2.1 ?_
    rw [if_pos (by rw [ltI (by omega) (by omega)]; omega)]
    refine kk h sc ag (fun z g hz hg => ?_)
    rw [ab z g hz hg]
    dsimp only
    have : decide (g < f) = decide (g ≤ D * r) := by
      by_cases c : g ≤ D * r
      · rw [decide_eq_true c, decide_eq_true (by omega)]
      · rw [decide_eq_false c, decide_eq_false (by omega)]
    simp only [this]
  | m + 1, f, h, e, sc, ry, ag, ab => by
    have hD3 := D3 (show r ≤ 3 by omega) hD
    have hb2 := bs_top2 hr (show f ≤ D * r by omega) hD
    have hrw : rw' D r f + 12 ≤ 360 := by unfold rw'; omega
    have hv := NVRe
    refine s_Search_getOn_56 G h _ _ _ _ _ K ?_
    rw [sub1]
    refine c_mostFare sc.2.2.1 ?_
    rw [if_neg (by rw [ltI (by omega) (by omega)]; omega), tnI (by omega), ry f stop (by omega) hst]
    refine ⟨in_nI (by omega) (by decide), ?_⟩
    have e12 : nI (rw' D r f + stop) + 12 = nI (rw' D r (f + 1) + stop) := by
      rw [show (12 : Int32) = nI 12 from rfl, nI_add]
      congr 1
      unfold rw'
      omega
    rw [e12, nI_1]
    have hRf := hR f stop
    have ih := c_getOn_loop (G := G) hN hD hr hst hlt hR kk m (f + 1)
    by_cases c : lt < R f stop
    · rw [if_pos (by rw [ltI (by omega) (by omega)]; exact c)]
      refine ih h (by omega) sc ry ag (fun z g hz hg => ?_)
      rw [ab z g hz hg]
      dsimp only
      by_cases cg : g = f
      · subst cg
        rw [decide_eq_false (show ¬ R g stop ≤ lt by omega)]
        simp
      · have : decide (g < f) = decide (g < f + 1) := by
          by_cases c2 : g < f
          · rw [decide_eq_true c2, decide_eq_true (by omega)]
          · rw [decide_eq_false c2, decide_eq_false (by omega)]
        simp only [this]
    · rw [if_neg (by rw [ltI (by omega) (by omega)]; exact c)]
      have hz4 := zn_lt hN stop
      rw [sc.1.c 4, tnI (by omega), ok_z hN, tnI (by omega)]
      refine ⟨in_nI (by omega) (by decide), in_nI (by omega) (by decide), ?_⟩
      rintro _ rfl
      refine ih _ (by omega) (sc.up (by decide) _ _) (ry.agr (up_ce _ _ _ (by decide))) (ag.up (by decide) _ _) (fun z g hz hg => ?_)
      rw [up_app, if_pos rfl]
      by_cases cz : z = zn N stop
      · subst cz
        rw [if_pos rfl, bt_set (by omega) hg, ab _ g hz hg]
        dsimp only
        rw [decide_eq_true rfl]
        simp only [Bool.true_and]
        by_cases cg : g = f
        · subst cg
          rw [decide_eq_true (show R g stop ≤ lt by omega), decide_eq_true (show g < g + 1 by omega)]
          simp
        · rw [decide_eq_false cg, Bool.or_false]
          have : decide (g < f) = decide (g < f + 1) := by
            by_cases c2 : g < f
            · rw [decide_eq_true c2, decide_eq_true (by omega)]
            · rw [decide_eq_false c2, decide_eq_false (by omega)]
          rw [this]
      · rw [if_neg cz, ab z g hz hg]
        dsimp only
        rw [decide_eq_false cz]
        simp
theorem c_getOn {G : GA} {N h : HP} (hN : NetOK N) {rs : List (Nat × Nat)} {lim D ask r v k t d : Nat} (hD : D ≤ 9) (hr : r < 3) (hrs : rs.length ≤ 132) (hv : rs[v]? = some (t, d)) (hd : d < 100) (hk : k < nC N t) {R : Nat → Nat → Nat} (hR : ∀ f s, R f s ≤ NVR) {B : Nat → Nat → Bool} (sc : SC N h rs lim D ask) (ry : RY h D r R) (ab : AB h B) {K : HP → Prop}
    (kk : ∀ h', SC N h' rs lim D ask → Agr [53] h h' → AB h' (fun z g => B z g || (decide (z = zn N (sA N t k)) && (decide (g ≤ D * r) && decide (R g (sA N t k) ≤ lT N t d k)))) → K h') : P_Search_getOn G h (nI (r + 1)) (nI v) (nI k) K := by
  have hvl := (List.getElem?_eq_some_iff.mp hv).1
  have hc8 := nC_le hN t
  have ht := lt_nT hN hk
  have ht24 := nT_le hN
  obtain ⟨e1, e2, e3, e4⟩ := sc.2.2.2.2.2 v t d hv
  have hlt := lT_le hN hd t k
  refine s_Search_getOn_0 G h _ _ _ K ?_
  rw [tnI (by omega), e1, ix8, ix8, tnI (by omega), tnI (by omega), sc.1.c 17, ok_sA hN, (e4 k hk).2]
  refine ⟨in_nI (by omega) (by decide), in_nI (by omega) (by decide), in_nI (by omega) (by decide), ?_⟩
  rw [sub1]
  refine c_row (f := 0) sc.2.2.1 (by omega) ?_
  rintro _ rfl
  rw [nI_add]
  exact c_getOn_loop hN hD hr (sA_lt hN t k) (by omega) hR kk (D * r + 1) 0 h (by omega) sc ry (Agr.refl _ _) (fun z g hz hg => by rw [ab z g hz hg]; simp)
/-! ===== fares of those aboard ===== -/
theorem c_faresTo_loop {G : GA} {N : HP} (hN : NetOK N) {rs : List (Nat × Nat)} {lim D ask zo : Nat} (hD : D ≤ 9) (hzo : zo < 4) {B : Nat → Nat → Bool} {h : HP} (sc : SC N h rs lim D ask) (ab : AB h B) {K : Int32 → HP → Prop}
    (kk : ∀ m, (∀ F, F < 32 → (bt m F = true ↔ ∃ z, z < 4 ∧ prz N D z zo ≤ F ∧ B z (F - prz N D z zo) = true)) → K m h) :
    ∀ (n z : Nat) (x : Int32), z + n = 4 → (∀ F, F < 32 → (bt x F = true ↔ ∃ z', z' < z ∧ prz N D z' zo ≤ F ∧ B z' (F - prz N D z' zo) = true)) → H_Search_faresTo_4 G h (nI zo) x (nI z) K
  | 0, z, x, e, hx => by
    refine s_Search_faresTo_4 G h _ _ _ K ?_
    rw [if_pos (by rw [show (4 : Int32) = nI 4 from rfl, leI (by omega) (by omega)]; omega)]
    rw [show z = 4 by omega] at hx
    exact kk x hx
  | n + 1, z, x, e, hx => by
    refine s_Search_faresTo_4 G h _ _ _ K ?_
    rw [if_neg (by rw [show (4 : Int32) = nI 4 from rfl, leI (by omega) (by omega)]; omega), sc.2.2.1, nI_1, tnI (by omega), ix4, sc.1.c 5, tnI (by omega)]
    refine ⟨in_nI (by omega) (by decide), ?_⟩
    have ih := c_faresTo_loop (G := G) hN hD hzo sc ab kk n (z + 1)
    have step : ∀ p, p = prz N D z zo → p ≤ 9 → H_Search_faresTo_4 G h (nI zo) (x ||| (h 53 z <<< (nI p &&& 31))) (nI (z + 1)) K := by
      intro p hp hp9
      refine ih _ (by omega) (fun F hF => ?_)
      rw [b_or, Bool.or_eq_true, hx F hF, b_shl p (by omega) _ hF, Bool.and_eq_true, decide_eq_true_eq]
      constructor
      · rintro (⟨z', h1, h2⟩ | ⟨h1, h2⟩)
        · exact ⟨z', by omega, h2⟩
        · rw [ab z _ (by omega) (by omega)] at h2
          exact ⟨z, by omega, by rw [← hp]; exact h1, by rw [← hp]; exact h2⟩
      · rintro ⟨z', h1, h2, h3⟩
        by_cases c : z' = z
        · subst c
          rw [← hp] at h2 h3
          exact Or.inr ⟨h2, by rw [ab z' _ (by omega) (by omega)]; exact h3⟩
        · exact Or.inl ⟨z', by omega, h2, h3⟩
    by_cases c : D = 0
    · rw [if_pos (by rw [c]; rfl)]
      exact step 0 (by unfold prz; rw [if_pos c]) (by omega)
    · rw [if_neg (by rw [show (0 : Int32) = nI 0 from rfl, eqI (by omega) (by omega)]; exact c)]
      refine ⟨in_nI (by omega) (by decide), ?_⟩
      rintro _ rfl
      have i5 := hN.1.2.2.2 (4 * z + zo)
      rw [i5.e]
      exact step _ (by unfold prz; rw [if_neg c]) i5.t
theorem c_faresTo {G : GA} {N : HP} (hN : NetOK N) {rs : List (Nat × Nat)} {lim D ask zo : Nat} (hD : D ≤ 9) (hzo : zo < 4) {B : Nat → Nat → Bool} {h : HP} (sc : SC N h rs lim D ask) (ab : AB h B) {K : Int32 → HP → Prop}
    (kk : ∀ m, (∀ F, F < 32 → (bt m F = true ↔ ∃ z, z < 4 ∧ prz N D z zo ≤ F ∧ B z (F - prz N D z zo) = true)) → K m h) : P_Search_faresTo G h (nI zo) K :=
  s_Search_faresTo_0 G h _ K (c_faresTo_loop hN hD hzo sc ab kk 4 0 0 (by omega) (fun F hF => by
    rw [b_0]
    constructor
    · intro q; cases q
    · rintro ⟨z, q, -⟩; omega))
/-! ===== getting off ===== -/
def Eoff (E : Nat → Nat → Nat) (m : Int32) (stop time F0 : Nat) : Nat → Nat → Nat := fun F s => if s = stop ∧ F < F0 ∧ bt m F = true then (if time < E F s then time else E F s) else E F s
theorem Eoff_done {h : HP} {D r stop time F : Nat} {E : Nat → Nat → Nat} {m : Int32} (ea : EA h D r (Eoff E m stop time F)) (hF : F ≤ 32) (hno : ∀ F', F ≤ F' → F' < 32 → bt m F' = false) : EA h D r (Eoff E m stop time 32) := by
  intro f s hf hs
  rw [ea f s hf hs]
  congr 1
  unfold Eoff
  by_cases c : f < F
  · simp only [c, show f < 32 by omega, true_and]
  · have hfb : bt m f = false := by
      rcases Nat.lt_or_ge f 32 with z | z
      · exact hno f (by omega) z
      · exact b_big z
    simp [hfb]
theorem c_getOff_loop {G : GA} {N : HP} {rs : List (Nat × Nat)} {lim D ask r stop time : Nat} (hD : D ≤ 9) (hr : r ≤ 3) (hst : stop < 12) (htm : time < 1000000) {E : Nat → Nat → Nat} (hE : ∀ f s, E f s ≤ NVR) {m : Int32} (hm : ∀ F, F < 32 → bt m F = true → F ≤ D * r) {K : HP → Prop} {h0 : HP}
    (kk : ∀ h', SC N h' rs lim D ask → F49 D r h0 h' → EA h' D r (Eoff E m stop time 32) → K h') :
    ∀ (n F : Nat) (h : HP), F + n = 32 → SC N h rs lim D ask → F49 D r h0 h → EA h D r (Eoff E m stop time F) → H_Search_getOff_75 G h (nI r) (nI stop) (nI time) m (nI F) K
  | 0, F, h, e, sc, fr, ea => by
    have hD3 := D3 hr hD
    refine s_Search_getOff_75 G h _ _ _ _ _ K ?_
    have fin := kk h sc fr (Eoff_done ea (by omega) (fun F' h1 h2 => by omega))
    split
    · exact fin
    · refine c_mostFare sc.2.2.1 ?_
      rw [if_pos (by rw [ltI (by omega) (by omega)]; omega)]
      exact fin
  | n + 1, F, h, e, sc, fr, ea => by
    have hD3 := D3 hr hD
    have hv := NVRe
    refine s_Search_getOff_75 G h _ _ _ _ _ K ?_
    split
    · rename_i c
      refine kk h sc fr (Eoff_done ea (by omega) (fun F' h1 h2 => ?_))
      have h3 := b_ushr F (by omega) m (F' - F)
      rw [c, b_0, show F + (F' - F) = F' by omega] at h3
      exact h3.symm
    · refine c_mostFare sc.2.2.1 ?_
      by_cases c1 : D * r < F
      · rw [if_pos (by rw [ltI (by omega) (by omega)]; exact c1)]
        refine kk h sc fr (Eoff_done ea (by omega) (fun F' h1 h2 => ?_))
        cases hb : bt m F'
        · rfl
        · have := hm F' h2 hb
          omega
      · rw [if_neg (by rw [ltI (by omega) (by omega)]; exact c1), nI_1]
        have ih := c_getOff_loop (G := G) hD hr hst htm hE hm kk n (F + 1)
        by_cases c2 : bt m F = true
        · rw [if_neg (by rw [bit_shr0 (by omega), c2]; decide)]
          refine c_row sc.2.2.1 (by omega) ?_
          have hb := bs_top hr (show F ≤ D * r by omega) hD
          have hrw : rw' D r F + 12 ≤ 696 := by unfold rw'; omega
          rw [nI_add, tnI (by omega), ea F stop (by omega) hst]
          refine ⟨in_nI (by omega) (by decide), ?_⟩
          have eF : Eoff E m stop time F F stop = E F stop := by unfold Eoff; rw [if_neg (by omega)]
          have hEF := hE F stop
          rw [eF, minI (by omega) (by omega)]
          rintro _ rfl
          refine ih _ (by omega) (sc.up (by decide) _ _) (fr.put hr (by omega) hst _) (fun f s hf hs => ?_)
          rw [ea.put hr (by omega) hst _ f s hf hs]
          congr 1
          by_cases c3 : f = F ∧ s = stop
          · rw [c3.1, c3.2, upd2_at]
            unfold Eoff
            have p : stop = stop ∧ F < F + 1 ∧ bt m F = true := ⟨rfl, by omega, c2⟩
            rw [if_pos p]
          · rw [upd2_ne _ c3]
            unfold Eoff
            by_cases c4 : s = stop ∧ f < F ∧ bt m f = true
            · have p : s = stop ∧ f < F + 1 ∧ bt m f = true := ⟨c4.1, by omega, c4.2.2⟩
              rw [if_pos c4, if_pos p]
            · have p : ¬ (s = stop ∧ f < F + 1 ∧ bt m f = true) := fun q => c4 ⟨q.1, by rcases Nat.lt_or_ge f F with z | z; exact z; exact absurd ⟨by omega, q.1⟩ c3, q.2.2⟩
              rw [if_neg c4, if_neg p]
        · rw [if_pos (by rw [bit_shr0 (by omega)]; exact Bool.eq_false_iff.mpr c2)]
          refine ih h (by omega) sc fr (fun f s hf hs => ?_)
          rw [ea f s hf hs]
          congr 1
          unfold Eoff
          by_cases c4 : s = stop ∧ f < F ∧ bt m f = true
          · have p : s = stop ∧ f < F + 1 ∧ bt m f = true := ⟨c4.1, by omega, c4.2.2⟩
            rw [if_pos c4, if_pos p]
          · have p : ¬ (s = stop ∧ f < F + 1 ∧ bt m f = true) := fun q => c4 ⟨q.1, by rcases Nat.lt_or_ge f F with z | z; exact z; exact absurd q.2.2 (by rw [show f = F by omega]; exact c2), q.2.2⟩
            rw [if_neg c4, if_neg p]
