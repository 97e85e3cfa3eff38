/-! ===== table: the calls of a stop's table ===== -/
def rl (N : HP) (t d k : Nat) : Nat := lA N t k + late N t d k
def kf (N : HP) (d t k : Nat) : Nat := (rl N t d k * 24 + t) * 8 + k
def inT (N : HP) (s d t k : Nat) : Bool := rO N t d && (decide (sA N t k = s) && oP N t k)
def eK (N : HP) (s d t : Nat) : Nat → List Nat
  | 0 => []
  | k + 1 => if inT N s d t k = true then eK N s d t k ++ [kf N d t k] else eK N s d t k
def eT (N : HP) (s d : Nat) : Nat → List Nat
  | 0 => []
  | t + 1 => eT N s d t ++ eK N s d t (nC N t)
theorem eK_no {N : HP} {s d t : Nat} (h : rO N t d = false) : ∀ k, eK N s d t k = []
  | 0 => rfl
  | k + 1 => by
    rw [eK, eK_no h k, if_neg (by unfold inT; rw [h, Bool.false_and]; decide)]
theorem eK_mem {N : HP} {s d t y : Nat} : ∀ k, y ∈ eK N s d t k ↔ ∃ j, j < k ∧ inT N s d t j = true ∧ y = kf N d t j
  | 0 => ⟨fun z => absurd z List.not_mem_nil, fun ⟨_, z, _⟩ => absurd z (Nat.not_lt_zero _)⟩
  | k + 1 => by
    rw [eK]
    by_cases c : inT N s d t k = true
    · rw [if_pos c, List.mem_append, eK_mem k, List.mem_singleton]
      refine ⟨fun z => ?_, fun ⟨j, h1, h2, h3⟩ => ?_⟩
      · rcases z with ⟨j, h1, h2⟩ | z
        · exact ⟨j, by omega, h2⟩
        · exact ⟨k, by omega, c, z⟩
      · by_cases e : j = k
        · rw [e] at h3; exact Or.inr h3
        · exact Or.inl ⟨j, by omega, h2, h3⟩
    · rw [if_neg c, eK_mem k]
      refine ⟨fun ⟨j, h1, h2⟩ => ⟨j, by omega, h2⟩, fun ⟨j, h1, h2, h3⟩ => ?_⟩
      by_cases e : j = k
      · rw [e] at h2; exact absurd h2 c
      · exact ⟨j, by omega, h2, h3⟩
theorem eT_mem {N : HP} {s d y : Nat} : ∀ t, y ∈ eT N s d t ↔ ∃ u j, u < t ∧ j < nC N u ∧ inT N s d u j = true ∧ y = kf N d u j
  | 0 => ⟨fun z => absurd z List.not_mem_nil, fun ⟨_, _, z, _⟩ => absurd z (Nat.not_lt_zero _)⟩
  | t + 1 => by
    rw [eT, List.mem_append, eT_mem t, eK_mem]
    refine ⟨fun z => ?_, fun ⟨u, j, h1, h2⟩ => ?_⟩
    · rcases z with ⟨u, j, h1, h2⟩ | ⟨j, h1, h2⟩
      · exact ⟨u, j, by omega, h2⟩
      · exact ⟨t, j, by omega, h1, h2⟩
    · by_cases e : u = t
      · rw [e] at h2; exact Or.inr ⟨j, h2⟩
      · exact Or.inl ⟨u, j, by omega, h2⟩
theorem eK_len {N : HP} {s d t : Nat} : ∀ k, (eK N s d t k).length ≤ k
  | 0 => Nat.le_refl _
  | k + 1 => by
    rw [eK]
    have := eK_len (N := N) (s := s) (d := d) (t := t) k
    split
    · rw [List.length_append, List.length_singleton]; omega
    · omega
theorem eT_len {N : HP} (hN : NetOK N) {s d : Nat} : ∀ t, (eT N s d t).length ≤ 8 * t
  | 0 => Nat.le_refl _
  | t + 1 => by
    rw [eT, List.length_append]
    have h1 := eT_len hN (s := s) (d := d) t
    have h2 := eK_len (N := N) (s := s) (d := d) (t := t) (nC N t)
    have h3 := nC_le hN t
    omega
theorem kf_inj {N : HP} {d t k u j : Nat} (ht : t < 24) (hk : k < 8) (hu : u < 24) (hj : j < 8) (e : kf N d t k = kf N d u j) : t = u ∧ k = j := by
  unfold kf at e
  omega
theorem kf_lt {N : HP} (hN : NetOK N) {d t k : Nat} (ht : t < 24) (hk : k < 8) : kf N d t k < 4000000 := by
  have h1 := lA_le hN t k
  have h2 := late_le hN t d k
  unfold kf rl
  omega
theorem eK_nd {N : HP} {s d t : Nat} (ht : t < 24) : ∀ k, k ≤ 8 → (eK N s d t k).Nodup
  | 0, _ => List.nodup_nil
  | k + 1, hk => by
    rw [eK]
    have ih := eK_nd (N := N) (s := s) (d := d) ht k (by omega)
    split
    · rw [List.nodup_append]
      refine ⟨ih, by simp, fun a ha b hb => ?_⟩
      rw [List.mem_singleton] at hb
      obtain ⟨j, h1, h2, h3⟩ := (eK_mem k).mp ha
      intro e
      rw [h3, hb] at e
      have := kf_inj ht (by omega) ht (by omega) e
      omega
    · exact ih
theorem eT_nd {N : HP} (hN : NetOK N) {s d : Nat} : ∀ t, t ≤ 24 → (eT N s d t).Nodup
  | 0, _ => List.nodup_nil
  | t + 1, ht => by
    have h3 := nC_le hN t
    rw [eT, List.nodup_append]
    refine ⟨eT_nd hN t (by omega), eK_nd (by omega) _ h3, fun a ha b hb e => ?_⟩
    obtain ⟨u, j, h1, h2, h4, h5⟩ := (eT_mem t).mp ha
    obtain ⟨j', h6, h7, h8⟩ := (eK_mem _).mp hb
    have hC := nC_le hN u
    rw [h5, h8] at e
    have := kf_inj (by omega) (by omega) (by omega) (by omega) e
    omega
/-- where a number stands in its order -/
theorem rank_at : ∀ {L : List Nat} {i y : Nat}, L.Pairwise (· < ·) → L[i]? = some y → L.countP (fun z => decide (z < y)) = i
  | [], i, y, _, h => by rw [List.getElem?_nil] at h; cases h
  | a :: L, 0, y, s, h => by
    rw [List.getElem?_cons_zero] at h
    have e := Option.some.inj h
    subst e
    rw [List.pairwise_cons] at s
    rw [List.countP_eq_zero]
    intro z hz
    rcases List.mem_cons.mp hz with w | w
    · rw [w]; simp
    · have := s.1 z w
      simp; omega
  | a :: L, i + 1, y, s, h => by
    rw [List.getElem?_cons_succ] at h
    rw [List.pairwise_cons] at s
    have hm : y ∈ L := List.mem_of_getElem? h
    have := s.1 y hm
    rw [List.countP_cons_of_pos (by simpa using this), rank_at s.2 h]
theorem srt_lt {L : List Nat} (s : L.Pairwise (· ≤ ·)) (nd : L.Nodup) : L.Pairwise (· < ·) := by
  refine List.Pairwise.imp ?_ (List.Pairwise.and s nd)
  intro a b h
  have h1 : a ≤ b := h.1
  have h2 : a ≠ b := h.2
  omega
/-! the class's board -/
theorem rlI (N : HP) (t d k : Nat) : nI (lT N t d k) - 1440 * nI d = nI (rl N t d k) := by
  rw [show (1440 : Int32) = nI 1440 from rfl, pk_mul, pk_sub (by unfold lT; omega)]
  congr 1
  unfold lT rl
  omega
theorem clI (N : HP) (t d k : Nat) : nI (cT N t d k) - 1440 * nI d = nI (aA N t k + late N t d k) := by
  rw [show (1440 : Int32) = nI 1440 from rfl, pk_mul, pk_sub (by unfold cT; omega)]
  congr 1
  unfold cT
  omega
theorem kfI (N : HP) (t d k : Nat) : (nI (rl N t d k) * 24 + nI t) * 8 + nI k = nI (kf N d t k) := by
  rw [show (24 : Int32) = nI 24 from rfl, show (8 : Int32) = nI 8 from rfl, pk_mul, nI_add, pk_mul, nI_add]
  rfl
def BD (N h' : HP) (E : List Nat) : Prop := Agr [65, 66] N h' ∧ ∃ L, SLs h' 65 66 L ∧ L.Perm E ∧ L.Pairwise (· ≤ ·)
theorem BD.on {N h' : HP} {E : List Nat} (b : BD N h' E) : On h' N := fun k h1 h2 => b.1 k (by simp; omega)
theorem c_gTrip {G : GA} {N : HP} (hN : NetOK N) {s d t : Nat} (hs : s < 12) (hd : d < 100) (ht : t < nT N) (hr : rO N t d = true) {K : HP → Prop} (kk : ∀ h', BD N h' (eT N s d t ++ eK N s d t (nC N t)) → K h') :
    ∀ m k h', k + m = nC N t → BD N h' (eT N s d t ++ eK N s d t k) → H_Board_gatherTrip_3 G h' (nI t) (nI s) (nI d) (nI k) K
  | 0, k, h', e, bd => by
    have hT := nT_le hN
    have hC := nC_le hN t
    refine s_Board_gatherTrip_3 _ _ _ _ _ _ _ ?_
    rw [tnI (by omega), bd.on.c 15, ok_C hN]
    refine ⟨in_nI (by omega) (by decide), ?_⟩
    rw [if_pos (by rw [leI (by omega) (by omega)]; omega)]
    rw [show k = nC N t by omega] at bd
    exact kk h' bd
  | m + 1, k, h', e, bd => by
    have hT := nT_le hN
    have hC := nC_le hN t
    have hk : k < 8 := by omega
    have ih := c_gTrip (G := G) hN hs hd ht hr kk m (k + 1)
    have hsa := sA_lt hN t k
    refine s_Board_gatherTrip_3 _ _ _ _ _ _ _ ?_
    rw [tnI (by omega), bd.on.c 15, ok_C hN]
    refine ⟨in_nI (by omega) (by decide), ?_⟩
    rw [if_neg (by rw [leI (by omega) (by omega)]; omega), ix8, tnI (by omega), bd.on.c 17, ok_sA hN, nI_1]
    refine ⟨in_nI (by omega) (by decide), ?_⟩
    have no : inT N s d t k = false → H_Board_gatherTrip_3 G h' (nI t) (nI s) (nI d) (nI (k + 1)) K := fun z => by
      refine ih h' (by omega) ?_
      rw [eK, if_neg (by rw [z]; decide)]
      exact bd
    by_cases c1 : nI (sA N t k) = nI s
    · rw [if_pos c1]
      have c1 := (eqI (by omega) (by omega)).mp c1
      refine c_isOpen bd.on (by omega) (by omega) ?_
      cases c2 : oP N t k
      · rw [if_neg (by decide)]
        exact no (by unfold inT; rw [c2, Bool.and_false, Bool.and_false])
      · rw [if_pos rfl]
        refine c_leavesAt hN bd.on (by omega) hk ?_
        rw [rlI, kfI]
        have hx := kf_lt hN (d := d) (show t < 24 by omega) hk
        obtain ⟨ag, L, so, pm, st⟩ := bd
        have hl : L.length = (eT N s d t).length + (eK N s d t k).length := by rw [pm.length_eq, List.length_append]
        have hl1 := eT_len hN (s := s) (d := d) t
        have hl2 := eK_len (N := N) (s := s) (d := d) (t := t) k
        refine c_ins65 (by omega) so (by omega) st (fun y hy => ?_) (fun h2 L2 ag2 _ so2 pm2 st2 => ?_)
        · rcases List.mem_append.mp (pm.mem_iff.mp hy) with w | w
          · obtain ⟨u, j, h1, h2, h3, h4⟩ := (eT_mem t).mp w
            have := kf_lt hN (d := d) (show u < 24 by omega) (show j < 8 by have := nC_le hN u; omega)
            omega
          · obtain ⟨j, h1, h3, h4⟩ := (eK_mem k).mp w
            have := kf_lt hN (d := d) (show t < 24 by omega) (show j < 8 by omega)
            omega
        · refine ih h2 (by omega) ⟨ag.trans ag2, L2, so2, ?_, st2⟩
          have it : inT N s d t k = true := by
            unfold inT
            rw [hr, c2, decide_eq_true c1]
            rfl
          rw [eK, if_pos it, ← List.append_assoc]
          exact pm2.trans ((pm.cons _).trans (List.perm_append_singleton _ _).symm)
    · rw [if_neg c1]
      refine no ?_
      unfold inT
      rw [decide_eq_false (fun z => c1 (by rw [z])), Bool.false_and, Bool.and_false]
theorem c_gBoard {G : GA} {N : HP} (hN : NetOK N) {s d : Nat} (hs : s < 12) (hd : d < 100) {K : Int32 → HP → Prop} (kk : ∀ h', BD N h' (eT N s d (nT N)) → K (h' 65 1) h') :
    ∀ m t h', t + m = nT N → BD N h' (eT N s d t) → H_Board_gather_9 G h' (nI s) (nI d) (nI t) K
  | 0, t, h', e, bd => by
    have hT := nT_le hN
    refine s_Board_gather_9 _ _ _ _ _ _ ?_
    rw [bd.on.c 11, ok_T hN, if_pos (by rw [leI (by omega) (by omega)]; omega)]
    rw [show t = nT N by omega] at bd
    exact kk h' bd
  | m + 1, t, h', e, bd => by
    have hT := nT_le hN
    have ih := c_gBoard (G := G) hN hs hd kk m (t + 1)
    refine s_Board_gather_9 _ _ _ _ _ _ ?_
    rw [bd.on.c 11, ok_T hN, if_neg (by rw [leI (by omega) (by omega)]; omega), nI_1]
    refine c_runsOn hN bd.on (by omega) hd ?_
    cases c : rO N t d
    · rw [if_neg (by decide)]
      refine ih h' (by omega) ?_
      rw [eT, eK_no c, List.append_nil]
      exact bd
    · rw [if_pos rfl]
      refine s_Board_gatherTrip_0 _ _ _ _ _ _ ?_
      refine c_gTrip hN hs hd (by omega) c (fun h2 bd2 => ih h2 (by omega) bd2) (nC N t) 0 h' (by omega) ?_
      rw [eK, List.append_nil]
      exact bd
theorem c_board {G : GA} {N : HP} (hN : NetOK N) {s d : Nat} (hs : s < 12) (hd : d < 100) {K : Int32 → HP → Prop} (kk : ∀ h', BD N h' (eT N s d (nT N)) → K (h' 65 1) h') : P_Board_gather G N (nI s) (nI d) K := by
  refine s_Board_gather_0 _ _ _ _ _ (s_Sorted_clear_65_0 _ _ _ ?_)
  intro g eg
  refine c_gBoard hN hs hd kk (nT N) 0 g (by omega) ⟨?_, [], ⟨by rw [eg, up_at]; rfl, fun i y hy => by rw [List.getElem?_nil] at hy; cases hy⟩, List.Perm.refl _, List.Pairwise.nil⟩
  intro k hk
  rw [eg, up_ce _ _ _ (fun e => hk (by rw [e]; decide))]
