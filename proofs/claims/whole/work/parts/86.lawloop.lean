/-! ===== the law: its loop ===== -/
set_option maxHeartbeats 4000000 in
set_option maxRecDepth 100000 in
theorem law_loop {p : Program} {l : Launch} {e : Env} {s : State} {m : MethodId} {below : List Frame} {meth : Method} {c : Code} {b L : Nat} {xs : Nat → Int32} {G : GA} (C : LC p s m meth c b L xs G) (hL : L ≤ 2560) : ∀ n i h, L + 1 ≤ i + n → i ≤ L + 5 → Rel h → Lj p l e s m below meth c b G 18 [(0, .ref b), (1, .ref (G.1 0)), (2, .ref (G.1 67)), (3, .int (nI i))] [] h := by
  intro n
  induction n with
  | zero =>
    intro i h h1 h2 r
    refine Y_il (q := 3) C dL_law_18 rfl rfl ?_
    refine Y_al (q := 0) C dL_law_19 rfl rfl ?_
    refine Y_slen C dL_law_20 ?_
    refine Y_ic (v := nI 5) C dL_law_21 rfl ?_
    refine Y_isub C dL_law_22 ?_
    refine Y_gt (tgt := 1161) C dL_law_23 (by decide) (fun _ => ?_) (fun c1 => ?_)
    · refine Y_ic (v := 1) C dL_law_1161 rfl ?_
      exact Y_ret C dL_law_1162
    · rw [fa_lt, pk_sub_toInt (by omega) (by omega), toInt_nI (by omega)] at c1
      omega
  | succ n ih =>
    intro i h h1 h2 r
    refine Y_il (q := 3) C dL_law_18 rfl rfl ?_
    refine Y_al (q := 0) C dL_law_19 rfl rfl ?_
    refine Y_slen C dL_law_20 ?_
    refine Y_ic (v := nI 5) C dL_law_21 rfl ?_
    refine Y_isub C dL_law_22 ?_
    refine Y_gt (tgt := 1161) C dL_law_23 (by decide) (fun _ => ?_) (fun c1 => ?_)
    · refine Y_ic (v := 1) C dL_law_1161 rfl ?_
      exact Y_ret C dL_law_1162
    · rw [fa_lt, pk_sub_toInt (by omega) (by omega), toInt_nI (by omega)] at c1
      have hi : i + 5 ≤ L := by omega
      have nx : ∀ h2, Rel h2 → Lj p l e s m below meth c b G 1155 [(0, .ref b), (1, .ref (G.1 0)), (2, .ref (G.1 67)), (3, .int (nI i))] [] h2 := by
        intro h2 r2
        refine Y_iinc (q := 3) (a := nI 5) (L' := [(0, .ref b), (1, .ref (G.1 0)), (2, .ref (G.1 67)), (3, .int (nI i + nI 5))]) C dL_law_1155 rfl rfl (by decide) rfl rfl ?_
        refine Y_goto (tgt := 18) C dL_law_1158 (by decide) ?_
        rw [nI_add]
        exact ih (i + 5) h2 (by omega) (by omega) r2
      refine Y_al (q := 0) C dL_law_26 rfl rfl ?_
      refine Y_il (q := 3) C dL_law_27 rfl rfl ?_
      refine Y_sld C (in_nI (by omega) (by omega)) dL_law_28 ?_
      refine Y_bi (v := 31) C dL_law_29 rfl ?_
      refine Y_iand C dL_law_31 ?_
      generalize xs (tn (nI i)) &&& 31 = w
      by_cases c_0 : w = nI 0
      · rw [c_0]
        exact Y_tabIn (tgt := 148) C dL_law_32 (by decide) (by decide) rfl (by decide) (law_stop C hL hi r nx)
      by_cases c_1 : w = nI 1
      · rw [c_1]
        exact Y_tabIn (tgt := 181) C dL_law_32 (by decide) (by decide) rfl (by decide) (law_fare C hL hi r nx)
      by_cases c_2 : w = nI 2
      · rw [c_2]
        exact Y_tabIn (tgt := 224) C dL_law_32 (by decide) (by decide) rfl (by decide) (law_day C hL hi r nx)
      by_cases c_3 : w = nI 3
      · rw [c_3]
        exact Y_tabIn (tgt := 257) C dL_law_32 (by decide) (by decide) rfl (by decide) (law_trip C hL hi r nx)
      by_cases c_4 : w = nI 4
      · rw [c_4]
        exact Y_tabIn (tgt := 300) C dL_law_32 (by decide) (by decide) rfl (by decide) (law_call C hL hi r nx)
      by_cases c_5 : w = nI 5
      · rw [c_5]
        exact Y_tabIn (tgt := 353) C dL_law_32 (by decide) (by decide) rfl (by decide) (law_miss C hL hi r nx)
      by_cases c_6 : w = nI 6
      · rw [c_6]
        exact Y_tabIn (tgt := 412) C dL_law_32 (by decide) (by decide) rfl (by decide) (law_walk C hL hi r nx)
      by_cases c_7 : w = nI 7
      · rw [c_7]
        exact Y_tabIn (tgt := 455) C dL_law_32 (by decide) (by decide) rfl (by decide) (law_shuttle C hL hi r nx)
      by_cases c_8 : w = nI 8
      · rw [c_8]
        exact Y_tabIn (tgt := 508) C dL_law_32 (by decide) (by decide) rfl (by decide) (law_asked C hL hi r nx)
      by_cases c_9 : w = nI 9
      · rw [c_9]
        exact Y_tabIn (tgt := 541) C dL_law_32 (by decide) (by decide) rfl (by decide) (law_late C hL hi r nx)
      by_cases c_10 : w = nI 10
      · rw [c_10]
        exact Y_tabIn (tgt := 594) C dL_law_32 (by decide) (by decide) rfl (by decide) (law_gone C hL hi r nx)
      by_cases c_11 : w = nI 11
      · rw [c_11]
        exact Y_tabIn (tgt := 653) C dL_law_32 (by decide) (by decide) rfl (by decide) (law_ways C hL hi r nx)
      by_cases c_12 : w = nI 12
      · rw [c_12]
        exact Y_tabIn (tgt := 706) C dL_law_32 (by decide) (by decide) rfl (by decide) (law_way C hL hi r nx)
      by_cases c_13 : w = nI 13
      · rw [c_13]
        exact Y_tabIn (tgt := 739) C dL_law_32 (by decide) (by decide) rfl (by decide) (law_leg C hL hi r nx)
      by_cases c_14 : w = nI 14
      · rw [c_14]
        exact Y_tabIn (tgt := 782) C dL_law_32 (by decide) (by decide) rfl (by decide) (law_take C hL hi r nx)
      by_cases c_15 : w = nI 15
      · rw [c_15]
        exact Y_tabIn (tgt := 805) C dL_law_32 (by decide) (by decide) rfl (by decide) (law_give C hL hi r nx)
      by_cases c_16 : w = nI 16
      · rw [c_16]
        exact Y_tabIn (tgt := 828) C dL_law_32 (by decide) (by decide) rfl (by decide) (law_still C hL hi r nx)
      by_cases c_17 : w = nI 17
      · rw [c_17]
        exact Y_tabIn (tgt := 851) C dL_law_32 (by decide) (by decide) rfl (by decide) (law_comes C hL hi r nx)
      by_cases c_18 : w = nI 18
      · rw [c_18]
        exact Y_tabIn (tgt := 874) C dL_law_32 (by decide) (by decide) rfl (by decide) (law_taken C hL hi r nx)
      by_cases c_19 : w = nI 19
      · rw [c_19]
        exact Y_tabIn (tgt := 917) C dL_law_32 (by decide) (by decide) rfl (by decide) (law_latest C hL hi r nx)
      by_cases c_20 : w = nI 20
      · rw [c_20]
        exact Y_tabIn (tgt := 970) C dL_law_32 (by decide) (by decide) rfl (by decide) (law_reach C hL hi r nx)
      by_cases c_21 : w = nI 21
      · rw [c_21]
        exact Y_tabIn (tgt := 1023) C dL_law_32 (by decide) (by decide) rfl (by decide) (law_meet C hL hi r nx)
      by_cases c_22 : w = nI 22
      · rw [c_22]
        exact Y_tabIn (tgt := 1066) C dL_law_32 (by decide) (by decide) rfl (by decide) (law_met C hL hi r nx)
      by_cases c_23 : w = nI 23
      · rw [c_23]
        exact Y_tabIn (tgt := 1079) C dL_law_32 (by decide) (by decide) rfl (by decide) (law_table C hL hi r nx)
      by_cases c_24 : w = nI 24
      · rw [c_24]
        exact Y_tabIn (tgt := 1132) C dL_law_32 (by decide) (by decide) rfl (by decide) (law_count C hL hi r nx)
      have n_0 := tab_ne (k := 0) (by decide) c_0
      have n_1 := tab_ne (k := 1) (by decide) c_1
      have n_2 := tab_ne (k := 2) (by decide) c_2
      have n_3 := tab_ne (k := 3) (by decide) c_3
      have n_4 := tab_ne (k := 4) (by decide) c_4
      have n_5 := tab_ne (k := 5) (by decide) c_5
      have n_6 := tab_ne (k := 6) (by decide) c_6
      have n_7 := tab_ne (k := 7) (by decide) c_7
      have n_8 := tab_ne (k := 8) (by decide) c_8
      have n_9 := tab_ne (k := 9) (by decide) c_9
      have n_10 := tab_ne (k := 10) (by decide) c_10
      have n_11 := tab_ne (k := 11) (by decide) c_11
      have n_12 := tab_ne (k := 12) (by decide) c_12
      have n_13 := tab_ne (k := 13) (by decide) c_13
      have n_14 := tab_ne (k := 14) (by decide) c_14
      have n_15 := tab_ne (k := 15) (by decide) c_15
      have n_16 := tab_ne (k := 16) (by decide) c_16
      have n_17 := tab_ne (k := 17) (by decide) c_17
      have n_18 := tab_ne (k := 18) (by decide) c_18
      have n_19 := tab_ne (k := 19) (by decide) c_19
      have n_20 := tab_ne (k := 20) (by decide) c_20
      have n_21 := tab_ne (k := 21) (by decide) c_21
      have n_22 := tab_ne (k := 22) (by decide) c_22
      have n_23 := tab_ne (k := 23) (by decide) c_23
      have n_24 := tab_ne (k := 24) (by decide) c_24
      exact Y_tabOut (tgt := 1155) C dL_law_32 (by omega) (by decide) (nx h r)
