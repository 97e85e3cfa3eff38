/-! ===== ways ===== -/
theorem L_ways {G : GA} {h : HP} {x1 x2 x3 x4 : Int32} (r : Rel h) : P_Desk_ways G h x1 x2 x3 x4 (fun a h1 => P_Model_ways G h1 x1 x2 x3 x4 (fun b h2 => a = b ∧ Rel h2)) := by
  refine s_Desk_ways_0 _ _ _ _ _ _ _ (c_Stops_has ?_)
  simp only [decide_eq_true_eq]
  by_cases c1 : 0 ≤ x1 ∧ x1 < h 2 3
  rotate_left
  · rw [if_neg c1]
    refine s_Model_ways_0 _ _ _ _ _ _ _ (cm_isStop r (by rfl) ?_)
    simp only [decide_eq_true_eq]
    rw [if_neg c1]
    exact ⟨by trivial, r⟩
  rw [if_pos c1]
  refine c_Stops_has ?_
  simp only [decide_eq_true_eq]
  by_cases c2 : 0 ≤ x2 ∧ x2 < h 2 3
  rotate_left
  · rw [if_neg c2]
    refine s_Model_ways_0 _ _ _ _ _ _ _ (cm_isStop r (by rfl) ?_)
    simp only [decide_eq_true_eq]
    rw [if_pos c1]
    refine cm_isStop r (by rfl) ?_
    simp only [decide_eq_true_eq]
    rw [if_neg c2]
    exact ⟨by trivial, r⟩
  rw [if_pos c2]
  refine c_isDay ?_
  simp only [decide_eq_true_eq]
  by_cases c3 : 0 ≤ x3 ∧ x3 ≤ 99
  rotate_left
  · rw [if_neg c3]
    refine s_Model_ways_0 _ _ _ _ _ _ _ (cm_isStop r (by rfl) ?_)
    simp only [decide_eq_true_eq]
    rw [if_pos c1]
    refine cm_isStop r (by rfl) ?_
    simp only [decide_eq_true_eq]
    rw [if_pos c2]
    refine cm_isDay ?_
    simp only [decide_eq_true_eq]
    rw [if_neg c3]
    exact ⟨by trivial, r⟩
  rw [if_pos c3]
  refine c_isMinute ?_
  simp only [decide_eq_true_eq]
  by_cases c4 : 0 ≤ x4 ∧ x4 ≤ 1439
  rotate_left
  · rw [if_neg c4]
    refine s_Model_ways_0 _ _ _ _ _ _ _ (cm_isStop r (by rfl) ?_)
    simp only [decide_eq_true_eq]
    rw [if_pos c1]
    refine cm_isStop r (by rfl) ?_
    simp only [decide_eq_true_eq]
    rw [if_pos c2]
    refine cm_isDay ?_
    simp only [decide_eq_true_eq]
    rw [if_pos c3]
    refine cm_in ?_
    simp only [decide_eq_true_eq]
    rw [if_neg c4]
    exact ⟨by trivial, r⟩
  rw [if_pos c4]
  have hN := r.1
  have hS := nS_le hN
  have hT := nT_le hN
  have hv := NVRe
  obtain ⟨frm, ef, hf⟩ := has_ex c1
  obtain ⟨to, et, ht⟩ := has_ex c2
  obtain ⟨d, ed, hd⟩ := IN_ex (b := 99) (by rfl) c3
  obtain ⟨mi, em, hmi⟩ := IN_ex (b := 1439) (by rfl) c4
  have hf : frm < nS h := hf
  have ht : to < nS h := ht
  have eask : 1440 * x3 + x4 = nI (1440 * d + mi) := by rw [ed, em, show (1440 : Int32) = nI 1440 from rfl, pk_mul, nI_add]
  rw [eask, ed, ef, et]
  have hlen := runsL_len hN (ask := 1440 * d + mi) (day := d) (by omega) (by omega) 100
  refine c_gather hN r.2.1 (show d < 100 by omega) (show 1440 * d ≤ 1440 * d + mi by omega) (by omega) (On.refl h) (fun h7 on7 ag7 e7 ra7 => ?_)
  refine c_dearest hN on7 ?_
  refine c_ask hN (dear_le hN) (Or.inr rfl) (show 1440 * (d + 2) ≤ 400000 by omega) (by omega) hlen (fun v t d q => (rs_runs q).1) (fun v t d q => by have := (rs_runs q).2.1; omega) (by omega) on7 e7 ra7 (fun h8 E R dp sc8 ag8 ea8 ry8 => ?_)
  have cx : CxW h (runsL h (1440 * d + mi) (1440 * (d + 2))) (1440 * (d + 2)) (1440 * d + mi) frm E R := ⟨hN, r.2.1, dp, by omega, by omega, hlen, fun v t d q => ⟨(rs_runs q).1, (rs_runs q).2.1⟩, hf⟩
  refine c_collect cx (show to < 12 by omega) sc8 ea8 ry8 (fun h9 L ag9 wa => ?_)
  have agC : Agr [42, 43, 44, 45, 46, 47, 48, 49, 50, 53, 54, 55, 56, 57, 58, 59, 60, 61, 62, 63] h h9 := ((ag7.mono (by decide)).trans (ag8.mono (by decide))).trans (ag9.mono (by decide))
  have e67 : h9 67 = h 67 := agC 67 (by decide)
  have hm9 : OnM h9 h := r.2.2.1.hi (fun k h1 h2 => agC k (by simp; omega))
  obtain ⟨l1, l2, l3, l4, l5, l6⟩ := wa
  refine s_Model_ways_0 _ _ _ _ _ _ _ (cm_isStop r (by rw [e67]) ?_)
  simp only [decide_eq_true_eq]
  rw [← ef, if_pos c1]
  refine cm_isStop r (by rw [e67]) ?_
  simp only [decide_eq_true_eq]
  rw [← et, if_pos c2]
  refine cm_isDay ?_
  simp only [decide_eq_true_eq]
  rw [← ed, if_pos c3]
  refine cm_in ?_
  simp only [decide_eq_true_eq]
  rw [if_pos c4, eask, ed, em, ef, et]
  refine cm_goQ r hm9 (show d < 100 by omega) (by omega) hf (fun h10 E' R' dp' gc am10 er ym => ?_)
  have un := DP_uniq hN (show 1440 * (d + 2) ≤ 400000 by omega) (by omega) dp dp'
  have mx10 : MX h h10 (runsL h (1440 * d + mi) (1440 * (d + 2))) (1440 * (d + 2)) (1440 * d + mi) frm E R := ⟨gc, fun i hi => by rw [(un i hi).1]; exact er i hi, fun i hi => by rw [(un i (by omega)).2 hi]; exact ym i hi⟩
  intro h11 e11
  have am11 : AM [] [41] h10 h11 := by rw [e11]; exact (AM.refl _ _ _).p67 (by decide) _
  have lk : LOK h (1440 * (d + 2)) (1440 * d + mi) E to L := ⟨l1, l2, l3⟩
  have k0 : ka (1440 * d + mi) 0 0 0 = 0 := by unfold ka; omega
  refine cm_w66 (h0 := h11) cx (show to < 12 by omega) lk (fun h12 mw => ?_) (1440 * (d + 2)) 0 (-1) h11 (by omega) (by omega) (by rfl) 0 (fun y hy => by obtain ⟨a, b, c, dd, _, e⟩ := (l3 y).mp hy; exact ⟨a, b, c, dd, e⟩) (by rw [k0, rk_none (fun z _ => Nat.not_lt_zero z)]; rfl) ⟨AM.refl _ _ _, mx10.am am11, by rw [e11, up_at]; rfl, fun i y hi => by omega⟩
  obtain ⟨am12, mx12, e41, wm⟩ := mw
  have amF : AM wC wQ h h12 := (((Agr.am (S' := wC) (T := wQ) agC).trans (am10.mono (by decide) (by decide))).trans (am11.mono (by decide) (by decide))).trans (am12.mono (by decide) (by decide))
  have lo : ∀ k, 2 ≤ k → k ≤ 30 → h12 k = h k := fun k h1 h2 => amF.1 k (fun z => by have := (by decide : ∀ k ∈ wC, ¬ (2 ≤ k ∧ k ≤ 30)) k z; omega) (by omega)
  have cls : ∀ k, k ∈ [54, 55, 56] → h12 k = h9 k := fun k hk => by
    have q := (by decide : ∀ k ∈ [54, 55, 56], k ∉ [100, 101, 102, 103, 104, 105, 106] ∧ k ∉ qC ∧ k ≠ 67) k hk
    rw [am12.1 k q.1 q.2.2, am11.1 k List.not_mem_nil q.2.2, am10.1 k q.2.1 q.2.2]
  refine ⟨rfl, r.ways amF ⟨L.length, 1440 * d + mi, l1, by omega, by rw [cls 54 (by decide)]; exact l4, e41, by rw [cls 54 (by decide)]; exact l5, fun i hi => ?_⟩⟩
  have hi' : L[i]? = some L[i] := List.getElem?_eq_getElem hi
  exact way_both cx (l6 i _ hi') (wm i _ hi hi') (cls 55 (by decide)) (cls 56 (by decide)) (Gr.on lo)
