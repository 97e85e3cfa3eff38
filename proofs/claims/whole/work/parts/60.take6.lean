/-! ===== take: a ticket is made ===== -/
theorem WL.on {h h' : HP} {i k : Nat} (w : WL h i k) (e55 : h' 55 = h 55) (e56 : h' 56 = h 56) (e105 : h' 105 = h 105) : WL h' i k := by
  unfold WL at *
  rw [e55, e56, e105]
  exact w
def Cp (F : Nat → Int32) (B c n q : Nat) (f g : Nat → Int32) : Prop := ∀ p, g p = if 7 * n ≤ p ∧ p < 7 * n + q then F (B + 9 * (p - 7 * n) + c) else f p
theorem Cp.zero (F : Nat → Int32) (B c n : Nat) (f : Nat → Int32) : Cp F B c n 0 f f := fun p => by rw [if_neg (by omega)]
theorem Cp.step {F : Nat → Int32} {B c n q : Nat} {f g : Nat → Int32} (h : Cp F B c n q f g) : Cp F B c n (q + 1) f (upd g (7 * n + q) (F (B + 9 * q + c))) := fun p => by
  unfold upd
  by_cases e : p = 7 * n + q
  · rw [if_pos e, if_pos (by omega), e, show 7 * n + q - 7 * n = q by omega]
  · rw [if_neg e, h p]
    by_cases w : 7 * n ≤ p ∧ p < 7 * n + q
    · rw [if_pos w, if_pos (by omega)]
    · rw [if_neg w, if_neg (by omega)]
theorem Cp.new {F : Nat → Int32} {B c n q : Nat} {f g : Nat → Int32} (h : Cp F B c n q f g) {p : Nat} (hp : p < q) : g (7 * n + p) = F (B + 9 * p + c) := by
  rw [h, if_pos (by omega), show 7 * n + p - 7 * n = p by omega]
theorem Cp.old {F : Nat → Int32} {B c n q : Nat} {f g : Nat → Int32} (h : Cp F B c n q f g) {p : Nat} (hp : p < 7 * n) : g p = f p := by
  rw [h, if_neg (by omega)]
def MC (h h' : HP) (i n q : Nat) : Prop := Cp (h 105) (63 * i) 1 n q (h 38) (h' 38) ∧ Cp (h 105) (63 * i) 6 n q (h 39) (h' 39) ∧ Cp (h 105) (63 * i) 7 n q (h 40) (h' 40) ∧ Cp (h 105) (63 * i) 8 n q (h 41) (h' 41)
theorem c_mk51 {G : GA} {h : HP} {i k n : Nat} (w : WL h i k) (hn : n < 30) (e11 : h 34 11 = nI n) (e36 : h 36 n = nI k) {K : Int32 → HP → Prop}
    (kk : ∀ h', Agr [38, 39, 40, 41] h h' → MC h h' i n k → P_Tickets_changePlaces G h' (nI n) 1 (fun h2 => ∀ h3, h3 = up h2 34 12 (h2 34 12 + 1) → ∀ h4, h4 = up h3 34 11 (h3 34 11 + 1) → K (h3 34 11) h4)) :
    ∀ m q h', q + m = k → Agr [38, 39, 40, 41] h h' → MC h h' i n q → H_Tickets_make_51 G h' (nI i) (nI q) K
  | 0, q, h', e, ag, mc => by
    have hk := w.2.1
    refine s_Tickets_make_51 _ _ _ _ _ ?_
    rw [ag 34 (by decide), ag 36 (by decide), e11, tnI (by omega), e36]
    refine ⟨in_nI hn (by decide), ?_⟩
    rw [if_pos (by rw [leI (by omega) (by omega)]; omega)]
    rw [show q = k by omega] at mc
    exact kk h' ag mc
  | m + 1, q, h', e, ag, mc => by
    have hk := w.2.1
    have hq : q < k := by omega
    have hw : WL h' i k := w.on (ag 55 (by decide)) (ag 56 (by decide)) (ag 105 (by decide))
    have ih := c_mk51 (G := G) w hn e11 e36 kk m (q + 1)
    have e105 := ag 105 (by decide)
    refine s_Tickets_make_51 _ _ _ _ _ ?_
    rw [ag 34 (by decide), ag 36 (by decide), e11, tnI (by omega), e36]
    refine ⟨in_nI hn (by decide), ?_⟩
    rw [if_neg (by rw [leI (by omega) (by omega)]; omega), ix7, tnI (by omega), nI_1]
    refine c_ofLeg hw hq 1 (by decide) ⟨in_nI (by omega) (by decide), ?_⟩
    intro g1 eg1
    have h1 : WL g1 i k := hw.on (by rw [eg1]; rfl) (by rw [eg1]; rfl) (by rw [eg1]; rfl)
    refine c_ofLeg h1 hq 6 (by decide) ?_
    intro g2 eg2
    have h2 : WL g2 i k := h1.on (by rw [eg2]; rfl) (by rw [eg2]; rfl) (by rw [eg2]; rfl)
    refine c_ofLeg h2 hq 7 (by decide) ?_
    intro g3 eg3
    have h3 : WL g3 i k := h2.on (by rw [eg3]; rfl) (by rw [eg3]; rfl) (by rw [eg3]; rfl)
    refine c_ofLeg h3 hq 8 (by decide) ?_
    intro g4 eg4
    have x1 : g1 105 = h 105 := by rw [eg1]; exact e105
    have x2 : g2 105 = h 105 := by rw [eg2]; exact x1
    have x3 : g3 105 = h 105 := by rw [eg3]; exact x2
    rw [e105] at eg1
    rw [x1] at eg2
    rw [x2] at eg3
    rw [x3] at eg4
    refine ih g4 (by omega) (fun c hc => ?_) ⟨?_, ?_, ?_, ?_⟩
    · simp only [List.mem_cons, List.not_mem_nil, or_false, not_or] at hc
      rw [eg4, up_ce _ _ _ hc.2.2.2, eg3, up_ce _ _ _ hc.2.2.1, eg2, up_ce _ _ _ hc.2.1, eg1, up_ce _ _ _ hc.1]
      exact ag c (by simp only [List.mem_cons, List.not_mem_nil, or_false, not_or]; exact hc)
    · rw [show g4 38 = upd (h' 38) (7 * n + q) (h 105 (63 * i + 9 * q + 1)) by rw [eg4, up_ce _ _ _ (by decide), eg3, up_ce _ _ _ (by decide), eg2, up_ce _ _ _ (by decide), eg1, up_self]]
      exact mc.1.step
    · rw [show g4 39 = upd (h' 39) (7 * n + q) (h 105 (63 * i + 9 * q + 6)) by rw [eg4, up_ce _ _ _ (by decide), eg3, up_ce _ _ _ (by decide), eg2, up_self, eg1, up_ce _ _ _ (by decide)]]
      exact mc.2.1.step
    · rw [show g4 40 = upd (h' 40) (7 * n + q) (h 105 (63 * i + 9 * q + 7)) by rw [eg4, up_ce _ _ _ (by decide), eg3, up_self, eg2, up_ce _ _ _ (by decide), eg1, up_ce _ _ _ (by decide)]]
      exact mc.2.2.1.step
    · rw [show g4 41 = upd (h' 41) (7 * n + q) (h 105 (63 * i + 9 * q + 8)) by rw [eg4, up_self, eg3, up_ce _ _ _ (by decide), eg2, up_ce _ _ _ (by decide), eg1, up_ce _ _ _ (by decide)]]
      exact mc.2.2.2.step
theorem cm_t103 {G : GA} {h : HP} {i n : Nat} (hi : i < 112) (hn : n < 30) (e4 : h 67 4 = nI n) {K : Int32 → HP → Prop}
    (kk : ∀ h', AM [109] [] h h' → (∀ p, h' 109 p = if 63 * n ≤ p ∧ p < 63 * n + 63 then h 105 (63 * i + (p - 63 * n)) else h 109 p) → ∀ h1, h1 = up h' 110 n (b2i false) → ∀ h3, h3 = up h1 67 4 (nI n + 1) → K (h3 67 4 - 1) h3) :
    ∀ m q h', q + m = 63 → AM [109] [] h h' → (∀ p, h' 109 p = if 63 * n ≤ p ∧ p < 63 * n + q then h 105 (63 * i + (p - 63 * n)) else h 109 p) → H_Model_take_103 G h' (nI i) (nI q) K
  | 0, q, h', e, am, hx => by
    refine s_Model_take_103 _ _ _ _ _ ?_
    rw [show (63 : Int32) = nI 63 from rfl, if_pos (by rw [leI (by omega) (by omega)]; omega), am.2 4 (by decide), e4, tnI (by omega)]
    rw [show q = 63 by omega] at hx
    exact ⟨in_nI hn (by decide), kk h' am hx⟩
  | m + 1, q, h', e, am, hx => by
    have ih := cm_t103 (G := G) hi hn e4 kk m (q + 1)
    refine s_Model_take_103 _ _ _ _ _ ?_
    rw [show (63 : Int32) = nI 63 from rfl, if_neg (by rw [leI (by omega) (by omega)]; omega), am.2 4 (by decide), e4, pk_mul, pk_mul, nI_add, nI_add, nI_1, tnI (by omega), tnI (by omega), am.1 105 (by decide) (by decide)]
    refine ⟨in_nI (by omega) (by decide), in_nI (by omega) (by decide), ?_⟩
    intro g eg
    subst eg
    refine ih _ (by omega) (am.pt (by decide) (by decide) _ _) (fun p => ?_)
    by_cases c : p = 63 * n + q
    · rw [c, up_at, if_pos (by omega), show 63 * n + q - 63 * n = q by omega]
    · rw [up_sl _ _ c, hx p]
      by_cases w : 63 * n ≤ p ∧ p < 63 * n + q
      · rw [if_pos w, if_pos (by omega)]
      · rw [if_neg w, if_neg (by omega)]
theorem LegOK.congr {N : HP} {l l' : Nat → Int32} (h : LegOK N l) (e : ∀ c, c < 9 → l' c = l c) : LegOK N l' := by
  unfold LegOK at *
  rw [e 0 (by decide), e 1 (by decide), e 6 (by decide), e 7 (by decide), e 8 (by decide)]
  exact h
theorem rds_congr {f g : Nat → Int32} {B C k : Nat} (e : ∀ q, q < k → f (B + 9 * q) = g (C + 9 * q)) : rds f B k = rds g C k := cnt_congr k (fun q hq => by rw [e q hq])
theorem L_take {G : GA} {h : HP} {x1 : Int32} (r : Rel h) : P_Desk_take G h x1 (fun a h1 => P_Model_take G h1 x1 (fun b h2 => a = b ∧ Rel h2)) := by
  refine s_Desk_take_0 _ _ _ _ (c_Found_has ?_)
  simp only [decide_eq_true_eq]
  by_cases c1 : 0 ≤ x1 ∧ x1 < h 54 9
  rotate_left
  · rw [if_neg c1]
    refine s_Model_take_0 _ _ _ _ (cm_hasWay r ?_)
    simp only [decide_eq_true_eq]
    rw [if_neg c1]
    exact ⟨by trivial, r⟩
  rw [if_pos c1]
  obtain ⟨m, a, w1, w2, w3, w4, w5, w6⟩ := r.2.2.2.2.1
  obtain ⟨i, ei, hi⟩ := has_ex c1
  rw [w3, tnI (by omega)] at hi
  obtain ⟨k, q1, q2, q3, q4, q5, q6, q7, q8, q9, q10⟩ := w6 i hi
  obtain ⟨n, n1, n2, n3, n4, n5, ⟨n6, n7, n9⟩, n8⟩ := r.2.2.2.2.2
  have hN := r.1
  have hm := r.2.2.1
  have hv : vp_in x1 112 := by rw [ei]; exact in_nI (by omega) (by decide)
  have ti : tn x1 = i := by rw [ei, tnI (by omega)]
  have wl : WL h i k := ⟨by omega, q1, q2, fun q hq => (q9 q hq).1⟩
  have lg : ∀ q, q < k → LegOK h (fun c => h 105 (63 * i + 9 * q + c)) := fun q hq => (q9 q hq).2
  refine s_Tickets_make_0 _ _ _ _ ?_
  rw [n2]
  by_cases c2 : (30 : Int32) ≤ nI n
  · rw [if_pos c2]
    refine s_Model_take_0 _ _ _ _ (cm_hasWay r ?_)
    simp only [decide_eq_true_eq]
    rw [if_pos c1, n3]
    rw [show (30 : Int32) = nI 30 from rfl, leI (by omega) (by omega)] at c2
    rw [if_pos (by rw [show n = 30 by omega]; rfl)]
    exact ⟨by trivial, r⟩
  rw [if_neg c2]
  rw [show (30 : Int32) = nI 30 from rfl, leI (by omega) (by omega)] at c2
  have hn : n < 30 := by omega
  have fcl := fa_cnt_le (fun j => !decide (h 110 j = 0)) n
  have hb93 : ∀ t d c, t < 24 → d < 100 → c < 8 → -90 ≤ (h 93 (px t d c)).toInt ∧ (h 93 (px t d c)).toInt ≤ 90 := fun t d c h1 h2 h3 => by
    have hb := n8 t d c h1 h2 h3
    have hb1 : -(3 * (fa_cnt (fun i => !decide (h 110 i = 0)) n : Int)) ≤ (h 93 (px t d c)).toInt := hb.1
    have hb2 : (h 93 (px t d c)).toInt ≤ 3 * n := hb.2
    omega
  have e63 : (63 : Int32) * x1 = nI (63 * i) := by rw [ei, show (63 : Int32) = nI 63 from rfl, pk_mul]
  refine s_Tickets_hasPlaces_0 _ _ _ _ ?_
  rw [ei]
  refine c_hasPlaces_loop hN r.2.1 wl lg k 0 (by omega) ?_
  cases hp : hpW h i k k 0
  · rw [if_neg (by decide), ← ei]
    refine s_Model_take_0 _ _ _ _ (cm_hasWay r ?_)
    simp only [decide_eq_true_eq]
    rw [if_pos c1, n3, if_neg (fun z => by have := (eqI (a := n) (b := 30) (by omega) (by omega)).mp z; omega), e63, ti, q3]
    refine ⟨hv, s_Model_places_105_0 _ _ _ _ _ _ ?_⟩
    refine cm_w hN (by omega) q1 lg (Or.inl rfl) (fun t d c h1 h2 h3 => by have := hb93 t d c h1 h2 h3; omega) (fun z h4 am4 hj4 hx4 fl4 => ?_) k 0 false h (by omega) (AM.refl _ _ _) (fun _ _ => rfl) (fun _ _ _ _ _ _ => rfl) (fun _ => ⟨fun y => (by cases y), fun ⟨_, _, _, _, _, _, ⟨p, hp, _⟩, _⟩ => absurd hp (Nat.not_lt_zero _)⟩)
    have ez := hp_flag hN hm lg hx4 (fl4 rfl)
    rw [hp] at ez
    rw [ez, if_pos (show (!false) = true from rfl), am4.1 103 (by decide) (by decide), q3]
    refine s_Model_places_105_0 _ _ _ _ _ _ ?_
    have e105 := am4.1 105 (by decide) (by decide)
    have lo4 : ∀ c, 2 ≤ c → c ≤ 30 → h4 c = h c := fun c h1 h2 => am4.1 c (by simp; omega) (by omega)
    have hr3 : ∀ t d c, t < 24 → d < 100 → c < 8 → -1000 ≤ (h4 93 (px t d c)).toInt ∧ (h4 93 (px t d c)).toInt ≤ 1000 := fun t d c h1 h2 h3 => by
      have z1 := hb93 t d c h1 h2 h3
      have := pl_up (f := h 105) (B := 63 * i) (t := t) (d := d) (c := c) (v := h 93 (px t d c)) (by omega) (by omega) k (by omega)
      rw [hx4 t d c h1 h2 h3]
      omega
    refine cm_w (h := h4) (hN.on lo4) (by omega) q1 (fun q hq => by rw [e105]; exact (lg q hq).gr (Gr.on lo4)) (Or.inr rfl) hr3 (fun z6 h6 am6 hj6 hx6 _ => ?_) k 0 false h4 (by omega) (AM.refl _ _ _) (fun _ _ => rfl) (fun _ _ _ _ _ _ => rfl) (fun e => absurd e (by decide))
    have eh : h6 = h := by
      funext c
      by_cases c93 : c = 93
      · rw [c93]
        funext j
        by_cases hj : 19200 ≤ j
        · rw [hj6 j hj, hj4 j hj]
        · have ej : j = px (j / 8 / 100) (j / 8 % 100) (j % 8) := by unfold px; omega
          rw [ej, hx6 _ _ _ (by omega) (by omega) (by omega), hx4 _ _ _ (by omega) (by omega) (by omega), e105, pl_one, pl_neg]
      by_cases c67 : c = 67
      · rw [c67]
        funext j
        rw [am6.2 j List.not_mem_nil, am4.2 j List.not_mem_nil]
      rw [am6.1 c (by simpa using c93) c67, am4.1 c (by simpa using c93) c67]
    rw [eh]
    exact ⟨by trivial, r⟩
  rw [if_pos rfl]
  rw [n2, tnI (by omega), w5]
  refine ⟨in_nI hn (by decide), ?_⟩
  intro g1 eg1
  have wl1 : WL g1 i k := wl.on (by rw [eg1]; rfl) (by rw [eg1]; rfl) (by rw [eg1]; rfl)
  refine c_ofWay4 wl1 ?_
  intro g2 eg2
  have on2 : ∀ c, c ≠ 35 → c ≠ 36 → g2 c = h c := fun c h1 h2 => by rw [eg2, up_ce _ _ _ h2, eg1, up_ce _ _ _ h1]
  have s35 : g2 35 = upd (h 35) n (nI a) := by rw [eg2, up_ce _ _ _ (by decide), eg1, up_self]
  have s36 : g2 36 = upd (h 36) n (nI k) := by rw [eg2, up_self, eg1, up_ce _ _ _ (by decide)]
  have wl2 : WL g2 i k := wl.on (on2 55 (by decide) (by decide)) (on2 56 (by decide) (by decide)) (on2 105 (by decide) (by decide))
  refine c_mk51 wl2 hn (by rw [on2 34 (by decide) (by decide)]; exact n2) (by rw [s36, upd, if_pos rfl]) (fun g3 ag3 mc3 => ?_) k 0 g2 (by omega) (Agr.refl _ _) ⟨Cp.zero _ _ _ _ _, Cp.zero _ _ _ _ _, Cp.zero _ _ _ _ _, Cp.zero _ _ _ _ _⟩
  unfold MC at mc3
  rw [on2 105 (by decide) (by decide), on2 38 (by decide) (by decide), on2 39 (by decide) (by decide), on2 40 (by decide) (by decide), on2 41 (by decide) (by decide)] at mc3
  obtain ⟨m38, m39, m40, m41⟩ := mc3
  have on3 : ∀ c, c ∉ [35, 36, 38, 39, 40, 41] → g3 c = h c := fun c hc => by
    simp only [List.mem_cons, List.not_mem_nil, or_false, not_or] at hc
    rw [ag3 c (by simp only [List.mem_cons, List.not_mem_nil, or_false, not_or]; exact hc.2.2), on2 c hc.1 hc.2.1]
  have lo3 : ∀ c, 2 ≤ c → c ≤ 30 → g3 c = h c := fun c h1 h2 => on3 c (fun z => by have := (by decide : ∀ i ∈ [35, 36, 38, 39, 40, 41], 31 ≤ i) c z; omega)
  have gr3 : Gr h g3 := Gr.on lo3
  have eS3 : pS g3 = pS h := by unfold pS; rw [on3 31 (by decide)]
  have row3 : ∀ t d, rowN g3 t d = rowN h t d := fun t d => rowN_c (on3 31 (by decide)) (on3 32 (by decide)) t d
  have tk3 : ∀ t d c, tkN g3 t d c = tkN h t d c := fun t d c => tkN_c (on3 31 (by decide)) (on3 32 (by decide)) (on3 33 (by decide)) t d c
  have tf : TF g3 n k (h 105) (63 * i) := ⟨hn, q1, by rw [ag3 36 (by decide), s36, upd, if_pos rfl], fun q hq => ⟨m38.new hq, m39.new hq, m40.new hq, m41.new hq, (lg q hq).gr gr3⟩⟩
  refine s_Tickets_changePlaces_0 _ _ _ _ _ ?_
  refine c_chF (hN.on lo3) tf (Or.inr (by rw [eS3]; omega)) (fun h4 pc => ?_) k 0 g3 (by omega) ⟨Agr.refl _ _, by unfold PlOK; rw [on3 31 (by decide)]; exact r.2.1, by rw [eS3, on3 33 (by decide)]; exact n7, ⟨Nat.le_add_right _ _, fun _ => rfl⟩, fun _ _ w => w, fun p hp => by omega, fun _ _ _ _ _ _ => rfl⟩
  obtain ⟨p1, p2, p3, p4, p5, p6, p7⟩ := pc
  intro h5 e5 h6 e6
  have on6 : ∀ c, c ∉ [31, 32, 33, 34, 35, 36, 38, 39, 40, 41] → h6 c = h c := fun c hc => by
    have h34 : c ≠ 34 := fun z => hc (by rw [z]; decide)
    rw [e6, up_ce _ _ _ h34, e5, up_ce _ _ _ h34, p1 c (fun z => hc ((by decide : ∀ i ∈ [31, 32, 33], i ∈ [31, 32, 33, 34, 35, 36, 38, 39, 40, 41]) c z))]
    exact on3 c (fun z => hc ((by decide : ∀ i ∈ [35, 36, 38, 39, 40, 41], i ∈ [31, 32, 33, 34, 35, 36, 38, 39, 40, 41]) c z))
  have x34 : ∀ c, c ≠ 34 → h6 c = h4 c := fun c hc => by rw [e6, up_ce _ _ _ hc, e5, up_ce _ _ _ hc]
  have s34 : h4 34 = h 34 := by rw [p1 34 (by decide), on3 34 (by decide)]
  have r5 : h5 34 11 = nI n := by rw [e5, up_sl _ _ (by decide), s34, n2]
  have s11 : h6 34 11 = nI (n + 1) := by rw [e6, up_at, r5, nI_1]
  have s12 : h6 34 12 = h 34 12 + 1 := by rw [e6, up_sl _ _ (by decide), e5, up_at, s34]
  have lo6 : ∀ c, 2 ≤ c → c ≤ 30 → h6 c = h c := fun c h1 h2 => on6 c (fun z => by have := (by decide : ∀ i ∈ [31, 32, 33, 34, 35, 36, 38, 39, 40, 41], 31 ≤ i) c z; omega)
  have e105 := on6 105 (by decide)
  rw [← ei, r5]
  refine s_Model_take_0 _ _ _ _ (cm_in ?_)
  have c1' : 0 ≤ x1 ∧ x1 ≤ h6 67 41 - 1 := by
    rw [on6 67 (by decide), w4]
    refine (dec1 (by rw [toInt_nI (by omega)]; omega)).mpr ?_
    have := c1
    rw [w3] at this
    exact this
  rw [if_pos (decide_eq_true c1'), on6 67 (by decide), n3, if_neg (fun z => by have := (eqI (a := n) (b := 30) (by omega) (by omega)).mp z; omega), e63, ti, on6 103 (by decide), q3]
  refine ⟨hv, s_Model_places_105_0 _ _ _ _ _ _ ?_⟩
  refine cm_w (h := h6) (hN.on lo6) (by omega) q1 (fun q hq => by rw [e105]; exact (lg q hq).gr (Gr.on lo6)) (Or.inl rfl) (fun t d c h1 h2 h3 => by rw [on6 93 (by decide)]; have := hb93 t d c h1 h2 h3; omega) (fun z h7 am7 hj7 hx7 fl7 => ?_) k 0 false h6 (by omega) (AM.refl _ _ _) (fun _ _ => rfl) (fun _ _ _ _ _ _ => rfl) (fun _ => ⟨fun y => (by cases y), fun ⟨_, _, _, _, _, _, ⟨p, hp, _⟩, _⟩ => absurd hp (Nat.not_lt_zero _)⟩)
  have fl7 := fl7 rfl
  unfold Fl at fl7
  rw [e105, on6 74 (by decide)] at fl7
  rw [e105, on6 93 (by decide)] at hx7
  have ez := hp_flag hN hm lg hx7 fl7
  rw [hp] at ez
  rw [ez, if_neg (by decide), am7.2 4 (by decide), am7.1 103 (by decide) (by decide), am7.1 104 (by decide) (by decide), on6 67 (by decide), n3, tnI (by omega), on6 103 (by decide), q3]
  refine ⟨in_nI hn (by decide), ?_⟩
  intro h8 e8 h9 e9
  rw [on6 104 (by decide), q7] at e9
  have z67 : h9 67 = h7 67 := by rw [e9, up_ce _ _ _ (by decide), e8, up_ce _ _ _ (by decide)]
  rw [ei]
  refine cm_t103 (i := i) (by omega) hn (by rw [z67, am7.2 4 (by decide), on6 67 (by decide)]; exact n3) (fun hA amA hxA => ?_) 63 0 h9 (by omega) (AM.refl _ _ _) (fun p => by rw [if_neg (by omega)])
  intro hB eB hC eC
  have sC4 : hC 67 4 = nI (n + 1) := by rw [eC, up_at, nI_1]
  rw [sC4, sub1]
  refine ⟨rfl, ?_⟩
  have hi7 : ∀ c, c ∉ [67, 93, 107, 108, 109, 110] → hC c = h6 c := fun c hc => by
    simp only [List.mem_cons, List.not_mem_nil, or_false, not_or] at hc
    rw [eC, up_ce _ _ _ hc.1, eB, up_ce _ _ _ hc.2.2.2.2.2, amA.1 c (by simpa using hc.2.2.2.2.1) hc.1, e9, up_ce _ _ _ hc.2.2.2.1, e8, up_ce _ _ _ hc.2.2.1, am7.1 c (by simpa using hc.2.1) hc.1]
  have onC : ∀ c, c ∉ [31, 32, 33, 34, 35, 36, 38, 39, 40, 41, 67, 93, 107, 108, 109, 110] → hC c = h c := fun c hc => by
    rw [hi7 c (fun z => hc ((by decide : ∀ i ∈ [67, 93, 107, 108, 109, 110], i ∈ [31, 32, 33, 34, 35, 36, 38, 39, 40, 41, 67, 93, 107, 108, 109, 110]) c z))]
    exact on6 c (fun z => hc ((by decide : ∀ i ∈ [31, 32, 33, 34, 35, 36, 38, 39, 40, 41], i ∈ [31, 32, 33, 34, 35, 36, 38, 39, 40, 41, 67, 93, 107, 108, 109, 110]) c z))
  have loC : ∀ c, 2 ≤ c → c ≤ 30 → hC c = h c := fun c h1 h2 => onC c (fun z => by have := (by decide : ∀ i ∈ [31, 32, 33, 34, 35, 36, 38, 39, 40, 41, 67, 93, 107, 108, 109, 110], 31 ≤ i) c z; omega)
  have gr : Gr h hC := Gr.on loC
  have c67 : ∀ j, j ≠ 4 → hC 67 j = h 67 j := fun j hj => by
    rw [eC, up_sl _ _ hj, eB, up_ce _ _ _ (by decide), amA.2 j List.not_mem_nil, z67, am7.2 j List.not_mem_nil, on6 67 (by decide)]
  have c93 : hC 93 = h7 93 := by
    rw [eC, up_ce _ _ _ (by decide), eB, up_ce _ _ _ (by decide), amA.1 93 (by decide) (by decide), e9, up_ce _ _ _ (by decide), e8, up_ce _ _ _ (by decide)]
  have c107 : hC 107 = upd (h 107) n (nI k) := by
    rw [eC, up_ce _ _ _ (by decide), eB, up_ce _ _ _ (by decide), amA.1 107 (by decide) (by decide), e9, up_ce _ _ _ (by decide), e8, up_self, am7.1 107 (by decide) (by decide), on6 107 (by decide)]
  have c108 : hC 108 = upd (h 108) n (nI a) := by
    rw [eC, up_ce _ _ _ (by decide), eB, up_ce _ _ _ (by decide), amA.1 108 (by decide) (by decide), e9, up_self, e8, up_ce _ _ _ (by decide), am7.1 108 (by decide) (by decide), on6 108 (by decide)]
  have c110 : hC 110 = upd (h 110) n 0 := by
    rw [eC, up_ce _ _ _ (by decide), eB, up_self, amA.1 110 (by decide) (by decide), e9, up_ce _ _ _ (by decide), e8, up_ce _ _ _ (by decide), am7.1 110 (by decide) (by decide), on6 110 (by decide)]
    rfl
  have c109 : ∀ p, hC 109 p = if 63 * n ≤ p ∧ p < 63 * n + 63 then h 105 (63 * i + (p - 63 * n)) else h 109 p := fun p => by
    rw [eC, up_ce _ _ _ (by decide), eB, up_ce _ _ _ (by decide), hxA p, e9, up_ce _ _ _ (by decide), up_ce _ _ _ (by decide), e8, up_ce _ _ _ (by decide), up_ce _ _ _ (by decide), am7.1 105 (by decide) (by decide), am7.1 109 (by decide) (by decide), e105, on6 109 (by decide)]
  have n109 : ∀ q c, q < 7 → c < 9 → hC 109 (63 * n + 9 * q + c) = h 105 (63 * i + 9 * q + c) := fun q c h1 h2 => by
    rw [c109, if_pos (by omega), show 63 * i + (63 * n + 9 * q + c - 63 * n) = 63 * i + 9 * q + c by omega]
  have o109 : ∀ j q c, j < n → q < 7 → c < 9 → hC 109 (63 * j + 9 * q + c) = h 109 (63 * j + 9 * q + c) := fun j q c h0 h1 h2 => by
    rw [c109, if_neg (by omega)]
  have x31 : ∀ c, c ∈ [31, 32, 33, 35, 36, 38, 39, 40, 41] → hC c = h4 c := fun c hc => by
    have := (by decide : ∀ i ∈ [31, 32, 33, 35, 36, 38, 39, 40, 41], i ∉ [67, 93, 107, 108, 109, 110] ∧ i ≠ 34) c hc
    rw [hi7 c this.1, x34 c this.2]
  have c34 : hC 34 = h6 34 := hi7 34 (by decide)
  have c35 : hC 35 = upd (h 35) n (nI a) := by rw [x31 35 (by decide), p1 35 (by decide), ag3 35 (by decide), s35]
  have c36 : hC 36 = upd (h 36) n (nI k) := by rw [x31 36 (by decide), p1 36 (by decide), ag3 36 (by decide), s36]
  have c38 : hC 38 = g3 38 := by rw [x31 38 (by decide), p1 38 (by decide)]
  have c39 : hC 39 = g3 39 := by rw [x31 39 (by decide), p1 39 (by decide)]
  have c40 : hC 40 = g3 40 := by rw [x31 40 (by decide), p1 40 (by decide)]
  have c41 : hC 41 = g3 41 := by rw [x31 41 (by decide), p1 41 (by decide)]
  have eSC : pS hC = pS h4 := by unfold pS; rw [x31 31 (by decide)]
  have rowC : ∀ t d, rowN hC t d = rowN h4 t d := fun t d => rowN_c (x31 31 (by decide)) (x31 32 (by decide)) t d
  have tkC : ∀ t d c, tkN hC t d c = tkN h4 t d c := fun t d c => tkN_c (x31 31 (by decide)) (x31 32 (by decide)) (x31 33 (by decide)) t d c
  have v93 : ∀ t d c, t < 24 → d < 100 → c < 8 → hC 93 (px t d c) = pl (h 105) (63 * i) 1 t d c k (h 93 (px t d c)) := fun t d c h1 h2 h3 => by rw [c93, hx7 t d c h1 h2 h3]
  refine ⟨hN.on loC, by unfold PlOK; rw [x31 31 (by decide)]; exact p2, ?_, by rw [c67 58 (by decide), onC 0 (by decide)]; exact r.2.2.2.1, r.2.2.2.2.1.k2 (fun i hi => onC i ((by decide : ∀ i ∈ [54, 55, 56, 100, 101, 102, 103, 104, 105], i ∉ [31, 32, 33, 34, 35, 36, 38, 39, 40, 41, 67, 93, 107, 108, 109, 110]) i hi)) (c67 41 (by decide)) gr, ?_⟩
  · refine ⟨fun q hq => ?_, ?_, ?_, ?_, fun t d c h1 h2 h3 => ?_⟩
    · have hr := (by decide : ∀ p ∈ mP, p.1 ∉ [31, 32, 33, 34, 35, 36, 38, 39, 40, 41, 67, 93, 107, 108, 109, 110] ∧ p.2 ∉ [31, 32, 33, 34, 35, 36, 38, 39, 40, 41, 67, 93, 107, 108, 109, 110]) q hq
      rw [onC q.1 hr.1, onC q.2 hr.2]
      exact hm.1 q hq
    · rw [c67 0 (by decide), c67 1 (by decide), c67 2 (by decide), c67 3 (by decide), onC 2 (by decide), onC 11 (by decide), onC 22 (by decide), onC 6 (by decide)]
      exact hm.2.1
    · rw [onC 79 (by decide), onC 16 (by decide)]
      exact hm.2.2.1
    · rw [onC 80 (by decide), onC 21 (by decide)]
      exact hm.2.2.2.1
    · show hC 93 (px t d c) = _
      rw [v93 t d c h1 h2 h3, tkC, p7 t d c h1 h2 h3, tk3]
      exact pl_c (hm.2.2.2.2 t d c h1 h2 h3)
  · have k110 : ∀ j, j < n → hC 110 j = h 110 j := fun j hj => by rw [c110, upd, if_neg (by omega)]
    have kn : hC 110 n = 0 := by rw [c110, upd, if_pos rfl]
    have cA : fa_cnt (fun j => decide (hC 110 j = 0)) (n + 1) = fa_cnt (fun j => decide (h 110 j = 0)) n + 1 := by
      rw [fa_cnt_yes (decide_eq_true kn), cnt_congr n (fun q hq => by rw [k110 q hq])]
    have cB : fa_cnt (fun j => !decide (hC 110 j = 0)) (n + 1) = fa_cnt (fun j => !decide (h 110 j = 0)) n := by
      rw [fa_cnt_no (by rw [decide_eq_true kn]; rfl), cnt_congr n (fun q hq => by rw [k110 q hq])]
    refine ⟨n + 1, by omega, by rw [c34, s11], sC4, by rw [c34, s12, n4, cA, nI_1], fun j hj => ?_, ⟨by rw [eSC]; have := p4.1; rw [eS3] at this; omega, by rw [eSC, x31 33 (by decide)]; exact p3, fun j hj => by rw [onC 37 (by decide)]; exact n9 j (by omega)⟩, fun t d c h1 h2 h3 => ?_⟩
    · by_cases cj : j = n
      · subst cj
        unfold Tk1
        rw [c36, c107, c35, c108, onC 37 (by decide), kn, n9 j (Nat.le_refl _), c38, c39, c40, c41, upd, if_pos rfl, upd, if_pos rfl, upd, if_pos rfl, upd, if_pos rfl]
        refine ⟨k, a, q1, w2, rfl, rfl, rfl, rfl, Iff.rfl, fun q hq => ⟨?_, ?_, ?_, ?_, ?_, ?_⟩, ?_⟩
        · rw [m38.new hq, n109 q 1 (by omega) (by decide)]
        · rw [m39.new hq, n109 q 6 (by omega) (by decide)]
        · rw [m40.new hq, n109 q 7 (by omega) (by decide)]
        · rw [m41.new hq, n109 q 8 (by omega) (by decide)]
        · exact ((lg q hq).gr gr).congr (fun c hc => n109 q c (by omega) hc)
        · intro t d b1 b2 b3 b4 b5
          have z0 := n109 q 0 (by omega) (by decide)
          rw [Nat.add_zero, Nat.add_zero] at z0
          rw [z0] at b1
          rw [n109 q 1 (by omega) (by decide)] at b2
          rw [n109 q 6 (by omega) (by decide)] at b3
          have := p6 q hq b1
          unfold fT fD at this
          rw [b2, b3, tnI (by omega), tnI (by omega)] at this
          rw [rowC]
          exact this
        · rw [rds_congr (g := h 105) (C := 63 * i) (fun q hq => by have z0 := n109 q 0 (by omega) (by decide); rw [Nat.add_zero, Nat.add_zero] at z0; exact z0)]
          exact q10
      · have hjn : j < n := by omega
        obtain ⟨k1, a1, y1, y2, y3, y4, y5, y6, y7, y8, y9⟩ := n5 j hjn
        unfold Tk1
        rw [c36, c107, c35, c108, onC 37 (by decide), c110, c38, c39, c40, c41, upd, if_neg cj, upd, if_neg cj, upd, if_neg cj, upd, if_neg cj, upd, if_neg cj]
        refine ⟨k1, a1, y1, y2, y3, y4, y5, y6, y7, fun q hq => ?_, ?_⟩
        · obtain ⟨f1, f2, f3, f4, f5, f6⟩ := y8 q hq
          rw [m38.old (by omega), m39.old (by omega), m40.old (by omega), m41.old (by omega), o109 j q 1 hjn (by omega) (by decide), o109 j q 6 hjn (by omega) (by decide), o109 j q 7 hjn (by omega) (by decide), o109 j q 8 hjn (by omega) (by decide), show hC 109 (63 * j + 9 * q) = h 109 (63 * j + 9 * q) from o109 j q 0 hjn (by omega) (by decide)]
          refine ⟨f1, f2, f3, f4, (f5.gr gr).congr (fun c hc => o109 j q c hjn (by omega) hc), fun t d b1 b2 b3 b4 b5 => ?_⟩
          rw [rowC]
          exact p5 t d (by rw [row3]; exact f6 t d b1 b2 b3 b4 b5)
        · rw [rds_congr (g := h 109) (C := 63 * j) (fun q hq => o109 j q 0 hjn (by omega) (by decide))]
          exact y9
    · have hb := n8 t d c h1 h2 h3
      have z1 := hb93 t d c h1 h2 h3
      have pd := pl_up (f := h 105) (B := 63 * i) (t := t) (d := d) (c := c) (v := h 93 (px t d c)) (by omega) (by omega) k (by omega)
      show _ ≤ (hC 93 (px t d c)).toInt ∧ (hC 93 (px t d c)).toInt ≤ _
      rw [v93 t d c h1 h2 h3, cB]
      have hb1 : -(3 * (fa_cnt (fun i => !decide (h 110 i = 0)) n : Int)) ≤ (h 93 (px t d c)).toInt := hb.1
      have hb2 : (h 93 (px t d c)).toInt ≤ 3 * n := hb.2
      refine ⟨by omega, by push_cast; omega⟩
