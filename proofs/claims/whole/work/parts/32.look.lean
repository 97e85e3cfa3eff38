def RM (N h : HP) (rs : List (Nat × Nat)) : Prop := h 67 33 = nI rs.length ∧ ∀ v t d, rs[v]? = some (t, d) → h 94 v = nI t ∧ h 95 v = nI d ∧ ∀ k, k < nC N t → h 96 (8 * v + k) = nI (cT N t d k) ∧ h 97 (8 * v + k) = nI (lT N t d k)
def LK (N h : HP) (ask lim : Nat) : Prop := OnM h N ∧ h 67 31 = nI ask ∧ h 67 32 = nI lim
abbrev lS : List Nat := [94, 95, 96, 97]
abbrev lT' : List Nat := [31, 32, 33]
theorem LK.pt {N h : HP} {ask lim : Nat} (l : LK N h ask lim) {k : Nat} (hk : 94 ≤ k) (j : Nat) (x : Int32) : LK N (up h k j x) ask lim := by
  have am : AM [k] [] h (up h k j x) := (AM.refl _ _ _).pt (List.mem_singleton.mpr rfl) (by omega) j x
  refine ⟨l.1.am am (fun q hq => by rw [List.mem_singleton.mp hq]; exact hk) (by decide), ?_, ?_⟩
  · rw [am.2 31 (by decide)]; exact l.2.1
  · rw [am.2 32 (by decide)]; exact l.2.2
theorem LK.p67 {N h : HP} {ask lim : Nat} (l : LK N h ask lim) {j : Nat} (hj : 33 ≤ j) (x : Int32) : LK N (up h 67 j x) ask lim := by
  have am : AM [] [j] h (up h 67 j x) := (AM.refl _ _ _).p67 (List.mem_singleton.mpr rfl) x
  refine ⟨l.1.am am (by decide) (fun q hq => by rw [List.mem_singleton.mp hq]; omega), ?_, ?_⟩
  · rw [up_sl _ _ (by omega)]; exact l.2.1
  · rw [up_sl _ _ (by omega)]; exact l.2.2
theorem RM.put {N h : HP} {rs : List (Nat × Nat)} (hN : NetOK N) (r : RM N h rs) {c j : Nat} (x : Int32) (hc : (c = 94 ∨ c = 95) ∧ rs.length ≤ j ∨ (c = 96 ∨ c = 97) ∧ 8 * rs.length ≤ j) : RM N (up h c j x) rs := by
  refine ⟨by rw [up_ce _ _ _ (by omega)]; exact r.1, fun v t d hv => ?_⟩
  have hlt := (List.getElem?_eq_some_iff.mp hv).1
  have h8 := nC_le hN t
  obtain ⟨h1, h2, h3⟩ := r.2 v t d hv
  refine ⟨?_, ?_, fun k hk => ⟨?_, ?_⟩⟩
  · rw [up_app, ← h1]
    split
    · rw [if_neg (by omega)]
    · rfl
  · rw [up_app, ← h2]
    split
    · rw [if_neg (by omega)]
    · rfl
  · rw [up_app, ← (h3 k hk).1]
    split
    · rw [if_neg (by omega)]
    · rfl
  · rw [up_app, ← (h3 k hk).2]
    split
    · rw [if_neg (by omega)]
    · rfl
theorem cm_look3 {G : GA} {N : HP} (hN : NetOK N) {ask lim t d : Nat} (ht : t < nT N) (hd : d < 100) {rs : List (Nat × Nat)} (hrs : rs.length < 2400) {K : HP → Prop} {h0 : HP}
    (kk : ∀ h', LK N h' ask lim → AM lS lT' h0 h' → RM N h' (rs ++ [(t, d)]) → H_Model_look_38 G h' (nI d) (nI t + 1) K) :
    ∀ (m k : Nat) (h : HP), k + m = nC N t → LK N h ask lim → AM lS lT' h0 h → RM N h rs → h 94 rs.length = nI t → h 95 rs.length = nI d → (∀ j, j < k → h 96 (8 * rs.length + j) = nI (cT N t d j) ∧ h 97 (8 * rs.length + j) = nI (lT N t d j)) → H_Model_look_136 G h (nI d) (nI t) (nI k) K
  | 0, k, h, e, l, am, rm, e94, e95, htm => by
    have hc8 := nC_le hN t
    have ht24 := nT_le hN
    refine s_Model_look_136 G h _ _ _ K ⟨in_nI (by omega) (by decide), ?_⟩
    rw [l.1.c 75 15, tnI (by omega), ok_C hN, if_pos (by rw [leI (by omega) (by omega)]; omega), rm.1, nI_1]
    rintro _ rfl
    refine kk _ (l.p67 (by decide) _) (am.p67 (by decide) _) ⟨by rw [up_at, List.length_append, List.length_singleton], fun v t' d' hv => ?_⟩
    rw [up_ce _ _ _ (by decide), up_ce _ _ _ (by decide), up_ce _ _ _ (by decide), up_ce _ _ _ (by decide)]
    rcases Nat.lt_or_ge v rs.length with z | z
    · rw [List.getElem?_append_left z] at hv
      exact rm.2 v t' d' hv
    · rw [List.getElem?_append_right z] at hv
      have hz : v - rs.length < 1 := (List.getElem?_eq_some_iff.mp hv).1
      have ev : v = rs.length := by omega
      subst ev
      rw [Nat.sub_self] at hv
      cases hv
      exact ⟨e94, e95, fun j hj => htm j (by omega)⟩
  | m + 1, k, h, e, l, am, rm, e94, e95, htm => by
    have hc8 := nC_le hN t
    have ht24 := nT_le hN
    refine s_Model_look_136 G h _ _ _ K ⟨in_nI (by omega) (by decide), ?_⟩
    rw [l.1.c 75 15, tnI (by omega), ok_C hN, if_neg (by rw [leI (by omega) (by omega)]; omega)]
    refine cm_comesAt hN l.1 (by omega) (by omega) ?_
    rw [rm.1, ix8', tnI (by omega), nI_1]
    refine ⟨in_nI (by omega) (by decide), ?_⟩
    rintro _ rfl
    refine cm_leavesAt hN (l.pt (by decide) _ _).1 (by omega) (by omega) ⟨in_nI (by omega) (by decide), ?_⟩
    rintro _ rfl
    refine cm_look3 hN ht hd hrs kk m (k + 1) _ (by omega) ((l.pt (by decide) _ _).pt (by decide) _ _) ((am.pt (by decide) (by decide) _ _).pt (by decide) (by decide) _ _) ((rm.put hN _ (by omega)).put hN _ (by omega)) ?_ ?_ (fun j hj => ?_)
    · rw [up_ce _ _ _ (by decide), up_ce _ _ _ (by decide)]; exact e94
    · rw [up_ce _ _ _ (by decide), up_ce _ _ _ (by decide)]; exact e95
    · by_cases ej : j = k
      · subst ej
        rw [up_ce _ _ _ (by decide), up_at, up_at]
        exact ⟨rfl, rfl⟩
      · rw [up_ce _ _ _ (by decide), up_sl _ _ (by omega), up_sl _ _ (by omega), up_ce _ _ _ (by decide)]
        exact htm j (by omega)
set_option maxRecDepth 10000 in
theorem cm_look2 {G : GA} {N : HP} (hN : NetOK N) {day ask d : Nat} (hday : day < 100) (ha1 : 1440 * day ≤ ask) (ha2 : ask < 1440 * (day + 1)) (hd : d < 100) {K : HP → Prop} {h0 : HP}
    (kk : ∀ h', LK N h' ask (1440 * (day + 2)) → AM lS lT' h0 h' → RM N h' (allR N ask (1440 * (day + 2)) (d + 1)) → H_Model_look_29 G h' (nI d + 1) K) :
    ∀ (m t : Nat) (h : HP), t + m = nT N → LK N h ask (1440 * (day + 2)) → AM lS lT' h0 h → RM N h (allR N ask (1440 * (day + 2)) d ++ dayR N ask (1440 * (day + 2)) d t) → H_Model_look_38 G h (nI d) (nI t) K
  | 0, t, h, e, l, am, rm => by
    have ht24 := nT_le hN
    refine s_Model_look_38 G h _ _ K ?_
    rw [l.1.2.1.2.1, ok_T hN, if_pos (by rw [leI (by omega) (by omega)]; omega)]
    rw [show t = nT N by omega] at rm
    exact kk h l am rm
  | m + 1, t, h, e, l, am, rm => by
    have ht24 := nT_le hN
    have hc8 := nC_le hN t
    refine s_Model_look_38 G h _ _ K ?_
    have hlen := runsL_len hN ha1 hday (d + 1)
    have hpre := dayR_pre (N := N) (ask := ask) (lim := 1440 * (day + 2)) (d := d) (t := t) (nT N - t)
    rw [show t + (nT N - t) = nT N by omega] at hpre
    simp only [allR, List.length_append] at hlen
    rw [l.1.2.1.2.1, ok_T hN, if_neg (by rw [leI (by omega) (by omega)]; omega), l.1.c 75 15, tnI (by omega), ok_C hN, nI_1]
    refine ⟨in_nI (by omega) (by decide), ?_⟩
    have ih := cm_look2 (G := G) hN hday ha1 ha2 hd kk m (t + 1)
    have no : okR N ask (1440 * (day + 2)) t d = false → H_Model_look_38 G h (nI d) (nI (t + 1)) K := fun hno => by
      refine ih h (by omega) l am ?_
      simp only [dayR]
      rw [hno, if_neg (by decide), List.append_nil]
      exact rm
    by_cases c1 : nC N t < 2
    · rw [if_pos (by rw [show (2 : Int32) = nI 2 from rfl, ltI (by omega) (by omega)]; exact c1)]
      exact no (by unfold okR; rw [decide_eq_false (by omega)]; rfl)
    · rw [if_neg (by rw [show (2 : Int32) = nI 2 from rfl, ltI (by omega) (by omega)]; exact c1)]
      refine cm_runs hN l.1 (by omega) hd ?_
      by_cases c2 : rO N t d = true
      · rw [if_pos c2]
        have eok : okR N ask (1440 * (day + 2)) t d = decide (ask ≤ cT N t d (nC N t - 1) ∧ lT N t d 0 < 1440 * (day + 2)) := by
          unfold okR
          rw [decide_eq_true (show 2 ≤ nC N t by omega), c2, Bool.true_and, Bool.true_and, Bool.decide_and]
        rw [l.1.c 75 15, ok_C hN, show (1 : Int32) = nI 1 from rfl, pk_sub (by omega)]
        have b1 := cT_le hN hd t (nC N t - 1)
        have b2 := lT_le hN hd t 0
        refine cm_comesAt hN l.1 (by omega) (by omega) ?_
        rw [l.2.1]
        by_cases c3 : cT N t d (nC N t - 1) < ask
        · rw [if_pos (by rw [ltI (by omega) (by omega)]; exact c3)]
          exact no (by rw [eok, decide_eq_false (by omega)])
        · rw [if_neg (by rw [ltI (by omega) (by omega)]; exact c3)]
          refine cm_leavesAt (k := 0) hN l.1 (by omega) (by omega) ?_
          rw [l.2.2]
          by_cases c4 : lT N t d 0 < 1440 * (day + 2)
          · rw [if_pos (by rw [ltI (by omega) (by omega)]; exact c4), rm.1, tnI (by rw [List.length_append]; omega)]
            refine ⟨in_nI (by rw [List.length_append]; omega) (by decide), ?_⟩
            rintro _ rfl _ rfl
            refine cm_look3 (rs := allR N ask (1440 * (day + 2)) d ++ dayR N ask (1440 * (day + 2)) d t) hN (by omega) hd (by rw [List.length_append]; omega) (h0 := h0) (fun h' l' am' rm' => ?_) (nC N t) 0 _ (by omega) ((l.pt (by decide) _ _).pt (by decide) _ _) ((am.pt (by decide) (by decide) _ _).pt (by decide) (by decide) _ _) ((rm.put hN _ (by omega)).put hN _ (by omega)) (by rw [up_ce _ _ _ (by decide), up_at]) (by rw [up_at]) (fun j hj => by omega)
            rw [nI_1]
            refine ih h' (by omega) l' am' ?_
            simp only [dayR]
            rw [eok, if_pos (by rw [decide_eq_true_eq]; omega), ← List.append_assoc]
            exact rm'
          · rw [if_neg (by rw [ltI (by omega) (by omega)]; exact c4)]
            exact no (by rw [eok, decide_eq_false (by omega)])
      · rw [if_neg c2]
        exact no (by unfold okR; rw [Bool.eq_false_iff.mpr c2]; simp)
theorem cm_look1 {G : GA} {N : HP} (hN : NetOK N) {day ask : Nat} (hday : day < 100) (ha1 : 1440 * day ≤ ask) (ha2 : ask < 1440 * (day + 1)) {K : HP → Prop} {h0 : HP}
    (kk : ∀ h', LK N h' ask (1440 * (day + 2)) → AM lS lT' h0 h' → RM N h' (runsL N ask (1440 * (day + 2))) → K h') :
    ∀ (m d : Nat) (h : HP), d + m = 100 → LK N h ask (1440 * (day + 2)) → AM lS lT' h0 h → RM N h (allR N ask (1440 * (day + 2)) d) → H_Model_look_29 G h (nI d) K
  | 0, d, h, e, l, am, rm => by
    refine s_Model_look_29 G h _ K ?_
    rw [if_pos (by rw [show (100 : Int32) = nI 100 from rfl, leI (by omega) (by omega)]; omega)]
    rw [show d = 100 by omega] at rm
    exact kk h l am rm
  | m + 1, d, h, e, l, am, rm => by
    refine s_Model_look_29 G h _ K ?_
    rw [if_neg (by rw [show (100 : Int32) = nI 100 from rfl, leI (by omega) (by omega)]; omega)]
    refine cm_look2 hN hday ha1 ha2 (by omega) (fun h' a b c => ?_) (nT N) 0 h (by omega) l am (by simp only [dayR]; rw [List.append_nil]; exact rm)
    rw [nI_1]
    exact cm_look1 hN hday ha1 ha2 kk m (d + 1) h' (by omega) a b c
theorem cm_look {G : GA} {N h : HP} (hN : NetOK N) {day mi : Nat} (hday : day < 100) (hmi : mi < 1440) (hm : OnM h N) {K : HP → Prop}
    (kk : ∀ h', LK N h' (1440 * day + mi) (1440 * (day + 2)) → AM lS lT' h h' → RM N h' (runsL N (1440 * day + mi) (1440 * (day + 2))) → K h') : P_Model_look G h (nI day) (nI mi) K := by
  refine s_Model_look_0 G h _ _ K ?_
  rintro _ rfl _ rfl _ rfl
  rw [show (1440 : Int32) = nI 1440 from rfl, show (2 : Int32) = nI 2 from rfl, nI_add, pk_mul, pk_mul, nI_add]
  have am : AM lS lT' h (up (up (up h 67 31 (nI (1440 * day + mi))) 67 32 (nI (1440 * (day + 2)))) 67 33 0) := (((AM.refl _ _ _).p67 (by decide) _).p67 (by decide) _).p67 (by decide) _
  exact cm_look1 hN hday (by omega) (by omega) kk 100 0 _ (by omega) ⟨hm.am am, by simp [up_app], by simp [up_app]⟩ am ⟨by simp [up_app]; rfl, fun v t d hv => by simp [allR] at hv⟩
