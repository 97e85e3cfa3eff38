set_option maxRecDepth 20000 in
set_option maxHeartbeats 4000000 in
theorem s_Found_write_0 (G : GA) (h : HP) (x1 : Int32) (x2 : Int32) (x3 : Int32) (K : HP → Prop) (t :
  H_Found_write_12 G h x1 x2 x3 (h 54 10) 0 0 K) : P_Found_write G h x1 x2 x3 K := by
  refine Sp_of_V pf_X2_write (Nat.le_of_ble_eq_true rfl) rfl ?_
  refine V_aload_n (q := 0) dX2_write_0 rfl rfl ?_
  refine V_geti f_X2_67 dX2_write_1 rfl rfl ?_
  refine V_istore (L' := [(0, .ref (G.1 54)), (1, .int x1), (2, .int x2), (3, .int x3), (4, .int (h 54 10))]) dX2_write_4 (by decide) rfl rfl ?_
  refine V_iconst (v := 0) dX2_write_6 rfl ?_
  refine V_istore (L' := [(0, .ref (G.1 54)), (1, .int x1), (2, .int x2), (3, .int x3), (4, .int (h 54 10)), (5, .int 0)]) dX2_write_7 (by decide) rfl rfl ?_
  refine V_iconst (v := 0) dX2_write_9 rfl ?_
  refine V_istore (L' := [(0, .ref (G.1 54)), (1, .int x1), (2, .int x2), (3, .int x3), (4, .int (h 54 10)), (5, .int 0), (6, .int 0)]) dX2_write_10 (by decide) rfl rfl ?_
  exact t
set_option maxRecDepth 20000 in
set_option maxHeartbeats 4000000 in
theorem s_Found_write_12 (G : GA) (h : HP) (x1 : Int32) (x2 : Int32) (x3 : Int32) (x4 : Int32) (x5 : Int32) (x6 : Int32) (K : HP → Prop) (t :
  if x2 < x6 then (
    if x5 = 0 then (
      H_Found_write_133 G h x2 x3 x4 x5 (x1 * 5) (h 54 10) ((x1 * 5) + 0) K
    ) else (
      P_Found_ofLeg G h x1 0 4 (fun (r2 : Int32) (h1 : HP) =>
        H_Found_write_133 G h1 x2 x3 x4 x5 (x1 * 5) r2 ((x1 * 5) + 0) K
      )
    )
  ) else (
    if x6 ≤ 0 then (
      H_Found_write_60 G h x1 x2 x3 x4 x5 x6 K
    ) else (
      vp_in x6 4 ∧
      P_Found_writeRide G h ((x1 * 7) + x5) (h 59 (tn x6)) (h 60 (tn x6)) (h 61 (tn x6)) (fun (r5 : Int32) (h4 : HP) =>
        H_Found_write_60 G h4 x1 x2 x3 r5 (x5 + 1) x6 K
      )
    )
  )) : H_Found_write_12 G h x1 x2 x3 x4 x5 x6 K := by
  unfold H_Found_write_12
  refine V_iload (q := 6) dX2_write_12 rfl ?_
  refine V_iload_n (q := 2) dX2_write_14 rfl rfl ?_
  refine V_icmp_gt (tgt := 101) dX2_write_15 (by decide) (fun q => ?_) (fun q => ?_)
  · have t := it_t q t
    refine V_iload_n (q := 1) dX2_write_101 rfl rfl ?_
    refine V_iconst (v := 5) dX2_write_102 rfl ?_
    refine V_imul dX2_write_103 ?_
    refine V_istore (L' := [(0, .ref (G.1 54)), (1, .int x1), (2, .int x2), (3, .int x3), (4, .int x4), (5, .int x5), (6, .int (x1 * 5))]) dX2_write_104 (by decide) rfl rfl ?_
    refine V_aload_n (q := 0) dX2_write_106 rfl rfl ?_
    refine V_getr f_X2_9 dX2_write_107 rfl rfl ?_
    refine V_iload (q := 6) dX2_write_110 rfl ?_
    refine V_iconst (v := 0) dX2_write_112 rfl ?_
    refine V_iadd dX2_write_113 ?_
    refine V_iload (q := 5) dX2_write_114 rfl ?_
    refine V_if_ne (tgt := 126) dX2_write_116 (by decide) (fun q => ?_) (fun q => ?_)
    · have t := it_f q t
      refine V_aload_n (q := 0) dX2_write_126 rfl rfl ?_
      refine V_iload_n (q := 1) dX2_write_127 rfl rfl ?_
      refine V_iconst (v := 0) dX2_write_128 rfl ?_
      refine V_iconst (v := 4) dX2_write_129 rfl ?_
      refine V_callV [.int x1, .int 0, .int 4] [.int ((x1 * 5) + 0), .ref (G.1 55)] g_X2_write_X2_ofLeg wi_X2_ofLeg ws_X2_ofLeg dX2_write_130 rfl rfl rfl rfl rfl (Nat.le_of_ble_eq_true rfl) t (fun _ h1 t => ?_)
      obtain ⟨r2, rfl, t⟩ := t
      refine V_pick (L' := [(0, .ref (G.1 54)), (2, .int x2), (3, .int x3), (4, .int x4), (5, .int x5), (6, .int (x1 * 5))]) [0, 2, 3, 4, 5, 6] rfl ?_
      exact t
    · have t := it_t q t
      refine V_aload_n (q := 0) dX2_write_119 rfl rfl ?_
      refine V_geti f_X2_67 dX2_write_120 rfl rfl ?_
      refine V_goto (tgt := 133) dX2_write_123 (by decide) ?_
      refine V_pick (L' := [(0, .ref (G.1 54)), (2, .int x2), (3, .int x3), (4, .int x4), (5, .int x5), (6, .int (x1 * 5))]) [0, 2, 3, 4, 5, 6] rfl ?_
      exact t
  · have t := it_f q t
    refine V_iload (q := 6) dX2_write_18 rfl ?_
    refine V_if_le (tgt := 60) dX2_write_20 (by decide) (fun q => ?_) (fun q => ?_)
    · have t := it_t q t
      exact t
    · have t := it_f q t
      refine V_aload_n (q := 0) dX2_write_23 rfl rfl ?_
      refine V_iload_n (q := 1) dX2_write_24 rfl rfl ?_
      refine V_bipush (v := 7) dX2_write_25 rfl ?_
      refine V_imul dX2_write_27 ?_
      refine V_iload (q := 5) dX2_write_28 rfl ?_
      refine V_iinc (L' := [(0, .ref (G.1 54)), (1, .int x1), (2, .int x2), (3, .int x3), (4, .int x4), (5, .int (x5 + 1)), (6, .int x6)]) (q := 5) (a := 1) dX2_write_30 rfl rfl (by decide) rfl rfl ?_
      refine V_iadd dX2_write_33 ?_
      refine V_aload_n (q := 0) dX2_write_34 rfl rfl ?_
      refine V_getr f_X2_33 dX2_write_35 rfl rfl ?_
      refine V_iload (q := 6) dX2_write_38 rfl ?_
      obtain ⟨n3, t⟩ := t
      refine V_iald dX2_write_40 rfl n3 ?_
      refine V_aload_n (q := 0) dX2_write_41 rfl rfl ?_
      refine V_getr f_X2_36 dX2_write_42 rfl rfl ?_
      refine V_iload (q := 6) dX2_write_45 rfl ?_
      refine V_iald dX2_write_47 rfl n3 ?_
      refine V_aload_n (q := 0) dX2_write_48 rfl rfl ?_
      refine V_getr f_X2_39 dX2_write_49 rfl rfl ?_
      refine V_iload (q := 6) dX2_write_52 rfl ?_
      refine V_iald dX2_write_54 rfl n3 ?_
      refine V_callV [.int ((x1 * 7) + x5), .int (h 59 (tn x6)), .int (h 60 (tn x6)), .int (h 61 (tn x6))] [] g_X2_write_X2_writeRide wi_X2_writeRide ws_X2_writeRide dX2_write_55 rfl rfl rfl rfl rfl (Nat.le_of_ble_eq_true rfl) t (fun _ h4 t => ?_)
      obtain ⟨r5, rfl, t⟩ := t
      refine V_istore (L' := [(0, .ref (G.1 54)), (1, .int x1), (2, .int x2), (3, .int x3), (4, .int r5), (5, .int (x5 + 1)), (6, .int x6)]) dX2_write_58 (by decide) rfl rfl ?_
      exact t
set_option maxRecDepth 20000 in
set_option maxHeartbeats 4000000 in
theorem s_Found_write_60 (G : GA) (h : HP) (x1 : Int32) (x2 : Int32) (x3 : Int32) (x4 : Int32) (x5 : Int32) (x6 : Int32) (K : HP → Prop) (t :
  vp_in x6 4 ∧
  if (h 58 (tn x6)) < 0 then (
    H_Found_write_12 G h x1 x2 x3 x4 x5 (x6 + 1) K
  ) else (
    P_Found_writeWalk G h ((x1 * 7) + x5) (h 58 (tn x6)) x4 (fun (r3 : Int32) (h2 : HP) =>
      H_Found_write_12 G h2 x1 x2 x3 r3 (x5 + 1) (x6 + 1) K
    )
  )) : H_Found_write_60 G h x1 x2 x3 x4 x5 x6 K := by
  unfold H_Found_write_60
  refine V_aload_n (q := 0) dX2_write_60 rfl rfl ?_
  refine V_getr f_X2_30 dX2_write_61 rfl rfl ?_
  refine V_iload (q := 6) dX2_write_64 rfl ?_
  obtain ⟨n1, t⟩ := t
  refine V_iald dX2_write_66 rfl n1 ?_
  refine V_if_lt (tgt := 95) dX2_write_67 (by decide) (fun q => ?_) (fun q => ?_)
  · have t := it_t q t
    refine V_iinc (L' := [(0, .ref (G.1 54)), (1, .int x1), (2, .int x2), (3, .int x3), (4, .int x4), (5, .int x5), (6, .int (x6 + 1))]) (q := 6) (a := 1) dX2_write_95 rfl rfl (by decide) rfl rfl ?_
    refine V_goto (tgt := 12) dX2_write_98 (by decide) ?_
    exact t
  · have t := it_f q t
    refine V_aload_n (q := 0) dX2_write_70 rfl rfl ?_
    refine V_iload_n (q := 1) dX2_write_71 rfl rfl ?_
    refine V_bipush (v := 7) dX2_write_72 rfl ?_
    refine V_imul dX2_write_74 ?_
    refine V_iload (q := 5) dX2_write_75 rfl ?_
    refine V_iinc (L' := [(0, .ref (G.1 54)), (1, .int x1), (2, .int x2), (3, .int x3), (4, .int x4), (5, .int (x5 + 1)), (6, .int x6)]) (q := 5) (a := 1) dX2_write_77 rfl rfl (by decide) rfl rfl ?_
    refine V_iadd dX2_write_80 ?_
    refine V_aload_n (q := 0) dX2_write_81 rfl rfl ?_
    refine V_getr f_X2_30 dX2_write_82 rfl rfl ?_
    refine V_iload (q := 6) dX2_write_85 rfl ?_
    refine V_iald dX2_write_87 rfl n1 ?_
    refine V_iload (q := 4) dX2_write_88 rfl ?_
    refine V_callV [.int ((x1 * 7) + x5), .int (h 58 (tn x6)), .int x4] [] g_X2_write_X2_writeWalk wi_X2_writeWalk ws_X2_writeWalk dX2_write_90 rfl rfl rfl rfl rfl (Nat.le_of_ble_eq_true rfl) t (fun _ h2 t => ?_)
    obtain ⟨r3, rfl, t⟩ := t
    refine V_istore (L' := [(0, .ref (G.1 54)), (1, .int x1), (2, .int x2), (3, .int x3), (4, .int r3), (5, .int (x5 + 1)), (6, .int x6)]) dX2_write_93 (by decide) rfl rfl ?_
    refine V_iinc (L' := [(0, .ref (G.1 54)), (1, .int x1), (2, .int x2), (3, .int x3), (4, .int r3), (5, .int (x5 + 1)), (6, .int (x6 + 1))]) (q := 6) (a := 1) dX2_write_95 rfl rfl (by decide) rfl rfl ?_
    refine V_goto (tgt := 12) dX2_write_98 (by decide) ?_
    exact t
set_option maxRecDepth 20000 in
set_option maxHeartbeats 4000000 in
theorem s_Found_write_133 (G : GA) (h : HP) (x2 : Int32) (x3 : Int32) (x4 : Int32) (x5 : Int32) (x6 : Int32) (y0 : Int32) (y1 : Int32) (K : HP → Prop) (t :
  vp_in y1 290 ∧
  ∀ h1 : HP, h1 = up h 55 (tn y1) y0 →
  vp_in (x6 + 1) 290 ∧
  ∀ h3 : HP, h3 = up h1 55 (tn (x6 + 1)) x4 →
  vp_in (x6 + 2) 290 ∧
  ∀ h5 : HP, h5 = up h3 55 (tn (x6 + 2)) x2 →
  vp_in (x6 + 3) 290 ∧
  ∀ h7 : HP, h7 = up h5 55 (tn (x6 + 3)) x3 →
  vp_in (x6 + 4) 290 ∧
  ∀ h9 : HP, h9 = up h7 55 (tn (x6 + 4)) x5 →
  K h9) : H_Found_write_133 G h x2 x3 x4 x5 x6 y0 y1 K := by
  unfold H_Found_write_133
  obtain ⟨n2, t⟩ := t
  have t := t _ rfl
  refine V_iast dX2_write_133 rfl n2 ?_
  refine V_aload_n (q := 0) dX2_write_134 rfl rfl ?_
  refine V_getr f_X2_9 dX2_write_135 rfl rfl ?_
  refine V_iload (q := 5) dX2_write_138 rfl ?_
  refine V_iconst (v := 1) dX2_write_140 rfl ?_
  refine V_iadd dX2_write_141 ?_
  refine V_iload (q := 3) dX2_write_142 rfl ?_
  obtain ⟨n4, t⟩ := t
  have t := t _ rfl
  refine V_iast dX2_write_144 rfl n4 ?_
  refine V_aload_n (q := 0) dX2_write_145 rfl rfl ?_
  refine V_getr f_X2_9 dX2_write_146 rfl rfl ?_
  refine V_iload (q := 5) dX2_write_149 rfl ?_
  refine V_iconst (v := 2) dX2_write_151 rfl ?_
  refine V_iadd dX2_write_152 ?_
  refine V_iload_n (q := 1) dX2_write_153 rfl rfl ?_
  obtain ⟨n6, t⟩ := t
  have t := t _ rfl
  refine V_iast dX2_write_154 rfl n6 ?_
  refine V_aload_n (q := 0) dX2_write_155 rfl rfl ?_
  refine V_getr f_X2_9 dX2_write_156 rfl rfl ?_
  refine V_iload (q := 5) dX2_write_159 rfl ?_
  refine V_iconst (v := 3) dX2_write_161 rfl ?_
  refine V_iadd dX2_write_162 ?_
  refine V_iload_n (q := 2) dX2_write_163 rfl rfl ?_
  obtain ⟨n8, t⟩ := t
  have t := t _ rfl
  refine V_iast dX2_write_164 rfl n8 ?_
  refine V_aload_n (q := 0) dX2_write_165 rfl rfl ?_
  refine V_getr f_X2_9 dX2_write_166 rfl rfl ?_
  refine V_iload (q := 5) dX2_write_169 rfl ?_
  refine V_iconst (v := 4) dX2_write_171 rfl ?_
  refine V_iadd dX2_write_172 ?_
  refine V_iload (q := 4) dX2_write_173 rfl ?_
  obtain ⟨n10, t⟩ := t
  have t := t _ rfl
  refine V_iast dX2_write_175 rfl n10 ?_
  exact V_vret rfl dX2_write_176 t
set_option maxRecDepth 20000 in
set_option maxHeartbeats 4000000 in
theorem s_Search_arrival_0 (G : GA) (h : HP) (x1 : Int32) (x2 : Int32) (x3 : Int32) (K : Int32 → HP → Prop) (t :
  P_Search_endedAt G h x1 x2 x3 (fun (r2 : Int32) (h1 : HP) =>
    H_Search_arrival_12 G h1 x1 x2 x3 r2 0 K
  )) : P_Search_arrival G h x1 x2 x3 K := by
  refine Sp_of_V pf_X5_arrival (Nat.le_of_ble_eq_true rfl) rfl ?_
  refine V_aload_n (q := 0) dX5_arrival_0 rfl rfl ?_
  refine V_iload_n (q := 1) dX5_arrival_1 rfl rfl ?_
  refine V_iload_n (q := 2) dX5_arrival_2 rfl rfl ?_
  refine V_iload_n (q := 3) dX5_arrival_3 rfl rfl ?_
  refine V_callV [.int x1, .int x2, .int x3] [] g_X5_arrival_X5_endedAt wi_X5_endedAt ws_X5_endedAt dX5_arrival_4 rfl rfl rfl rfl rfl (Nat.le_of_ble_eq_true rfl) t (fun _ h1 t => ?_)
  obtain ⟨r2, rfl, t⟩ := t
  refine V_istore (L' := [(0, .ref (G.1 48)), (1, .int x1), (2, .int x2), (3, .int x3), (4, .int r2)]) dX5_arrival_7 (by decide) rfl rfl ?_
  refine V_iconst (v := 0) dX5_arrival_9 rfl ?_
  refine V_istore (L' := [(0, .ref (G.1 48)), (1, .int x1), (2, .int x2), (3, .int x3), (4, .int r2), (5, .int 0)]) dX5_arrival_10 (by decide) rfl rfl ?_
  exact t
set_option maxRecDepth 20000 in
set_option maxHeartbeats 4000000 in
theorem s_Search_arrival_12 (G : GA) (h : HP) (x1 : Int32) (x2 : Int32) (x3 : Int32) (x4 : Int32) (x5 : Int32) (K : Int32 → HP → Prop) (t :
  if (h 22 8) ≤ x5 then (
    if (h 42 6) ≤ x4 then (
      K 1000000000 h
    ) else (
      K x4 h
    )
  ) else (
    vp_in x5 20 ∧
    if (h 24 (tn x5)) = x3 then (
      P_Search_endedAt G h x1 x2 (h 23 (tn x5)) (fun (r3 : Int32) (h2 : HP) =>
        P_Walks_endsAt G h2 x5 r3 (h2 48 9) (fun (r5 : Int32) (h4 : HP) =>
          H_Search_arrival_12 G h4 x1 x2 x3 (if r5 < x4 then r5 else x4) (x5 + 1) K
        )
      )
    ) else (
      H_Search_arrival_12 G h x1 x2 x3 x4 (x5 + 1) K
    )
  )) : H_Search_arrival_12 G h x1 x2 x3 x4 x5 K := by
  unfold H_Search_arrival_12
  refine V_iload (q := 5) dX5_arrival_12 rfl ?_
  refine V_aload_n (q := 0) dX5_arrival_14 rfl rfl ?_
  refine V_getr f_X5_35 dX5_arrival_15 rfl rfl ?_
  refine V_geti f_X5_86 dX5_arrival_18 rfl rfl ?_
  refine V_icmp_ge (tgt := 84) dX5_arrival_21 (by decide) (fun q => ?_) (fun q => ?_)
  · have t := it_t q t
    refine V_iload (q := 4) dX5_arrival_84 rfl ?_
    refine V_aload_n (q := 0) dX5_arrival_86 rfl rfl ?_
    refine V_getr f_X5_39 dX5_arrival_87 rfl rfl ?_
    refine V_geti f_X5_96 dX5_arrival_90 rfl rfl ?_
    refine V_icmp_ge (tgt := 101) dX5_arrival_93 (by decide) (fun q => ?_) (fun q => ?_)
    · have t := it_t q t
      refine V_ldc (v := 1000000000) dX5_arrival_101 k_X5_50 ?_
      exact V_iret rfl dX5_arrival_103 t
    · have t := it_f q t
      refine V_iload (q := 4) dX5_arrival_96 rfl ?_
      refine V_goto (tgt := 103) dX5_arrival_98 (by decide) ?_
      exact V_iret rfl dX5_arrival_103 t
  · have t := it_f q t
    refine V_aload_n (q := 0) dX5_arrival_24 rfl rfl ?_
    refine V_getr f_X5_35 dX5_arrival_25 rfl rfl ?_
    refine V_getr f_X5_99 dX5_arrival_28 rfl rfl ?_
    refine V_iload (q := 5) dX5_arrival_31 rfl ?_
    obtain ⟨n1, t⟩ := t
    refine V_iald dX5_arrival_33 rfl n1 ?_
    refine V_iload_n (q := 3) dX5_arrival_34 rfl rfl ?_
    refine V_icmp_ne (tgt := 78) dX5_arrival_35 (by decide) (fun q => ?_) (fun q => ?_)
    · have t := it_f q t
      refine V_iinc (L' := [(0, .ref (G.1 48)), (1, .int x1), (2, .int x2), (3, .int x3), (4, .int x4), (5, .int (x5 + 1))]) (q := 5) (a := 1) dX5_arrival_78 rfl rfl (by decide) rfl rfl ?_
      refine V_goto (tgt := 12) dX5_arrival_81 (by decide) ?_
      exact t
    · have t := it_t q t
      refine V_aload_n (q := 0) dX5_arrival_38 rfl rfl ?_
      refine V_iload_n (q := 1) dX5_arrival_39 rfl rfl ?_
      refine V_iload_n (q := 2) dX5_arrival_40 rfl rfl ?_
      refine V_aload_n (q := 0) dX5_arrival_41 rfl rfl ?_
      refine V_getr f_X5_35 dX5_arrival_42 rfl rfl ?_
      refine V_getr f_X5_89 dX5_arrival_45 rfl rfl ?_
      refine V_iload (q := 5) dX5_arrival_48 rfl ?_
      refine V_iald dX5_arrival_50 rfl n1 ?_
      refine V_callV [.int x1, .int x2, .int (h 23 (tn x5))] [] g_X5_arrival_X5_endedAt wi_X5_endedAt ws_X5_endedAt dX5_arrival_51 rfl rfl rfl rfl rfl (Nat.le_of_ble_eq_true rfl) t (fun _ h2 t => ?_)
      obtain ⟨r3, rfl, t⟩ := t
      refine V_istore (L' := [(0, .ref (G.1 48)), (1, .int x1), (2, .int x2), (3, .int x3), (4, .int x4), (5, .int x5), (6, .int r3)]) dX5_arrival_54 (by decide) rfl rfl ?_
      refine V_iload (q := 4) dX5_arrival_56 rfl ?_
      refine V_aload_n (q := 0) dX5_arrival_58 rfl rfl ?_
      refine V_getr f_X5_35 dX5_arrival_59 rfl rfl ?_
      refine V_iload (q := 5) dX5_arrival_62 rfl ?_
      refine V_iload (q := 6) dX5_arrival_64 rfl ?_
      refine V_aload_n (q := 0) dX5_arrival_66 rfl rfl ?_
      refine V_geti f_X5_43 dX5_arrival_67 rfl rfl ?_
      refine V_callV [.int x5, .int r3, .int (h2 48 9)] [.int x4] g_X5_arrival_X10_endsAt wi_X10_endsAt ws_X10_endsAt dX5_arrival_70 rfl rfl rfl rfl rfl (Nat.le_of_ble_eq_true rfl) t (fun _ h4 t => ?_)
      obtain ⟨r5, rfl, t⟩ := t
      refine V_mmin l_X5_81 w_static_min w_init_math w_code_min (Nat.le_of_ble_eq_true rfl) (Nat.le_of_ble_eq_true rfl) dX5_arrival_73 ?_
      refine V_istore (L' := [(0, .ref (G.1 48)), (1, .int x1), (2, .int x2), (3, .int x3), (4, .int (if r5 < x4 then r5 else x4)), (5, .int x5), (6, .int r3)]) dX5_arrival_76 (by decide) rfl rfl ?_
      refine V_iinc (L' := [(0, .ref (G.1 48)), (1, .int x1), (2, .int x2), (3, .int x3), (4, .int (if r5 < x4 then r5 else x4)), (5, .int (x5 + 1)), (6, .int r3)]) (q := 5) (a := 1) dX5_arrival_78 rfl rfl (by decide) rfl rfl ?_
      refine V_goto (tgt := 12) dX5_arrival_81 (by decide) ?_
      refine V_pick (L' := [(0, .ref (G.1 48)), (1, .int x1), (2, .int x2), (3, .int x3), (4, .int (if r5 < x4 then r5 else x4)), (5, .int (x5 + 1))]) [0, 1, 2, 3, 4, 5] rfl ?_
      exact t
set_option maxRecDepth 20000 in
set_option maxHeartbeats 4000000 in
theorem s_Sorted_clear_62_0 (G : GA) (h : HP)  (K : HP → Prop) (t :
  ∀ h1 : HP, h1 = up h 62 1 0 →
  K h1) : P_Sorted_clear_62 G h  K := by
  refine Sp_of_V pf_X6_clear (Nat.le_of_ble_eq_true rfl) rfl ?_
  refine V_aload_n (q := 0) dX6_clear_0 rfl rfl ?_
  refine V_iconst (v := 0) dX6_clear_1 rfl ?_
  have t := t _ rfl
  refine V_put f_X6_19 p_X6_1 dX6_clear_2 rfl rfl ?_
  exact V_vret rfl dX6_clear_5 t
set_option maxRecDepth 20000 in
set_option maxHeartbeats 4000000 in
theorem s_Sorted_get_62_0 (G : GA) (h : HP) (x1 : Int32) (K : Int32 → HP → Prop) (t :
  if x1 < 0 then (
    K 0 h
  ) else (
    if (h 62 1) ≤ x1 then (
      K 0 h
    ) else (
      vp_in x1 58 ∧
      K (h 63 (tn x1)) h
    )
  )) : P_Sorted_get_62 G h x1 K := by
  refine Sp_of_V pf_X6_get (Nat.le_of_ble_eq_true rfl) rfl ?_
  refine V_iload_n (q := 1) dX6_get_0 rfl rfl ?_
  refine V_if_lt (tgt := 21) dX6_get_1 (by decide) (fun q => ?_) (fun q => ?_)
  · have t := it_t q t
    refine V_iconst (v := 0) dX6_get_21 rfl ?_
    exact V_iret rfl dX6_get_22 t
  · have t := it_f q t
    refine V_iload_n (q := 1) dX6_get_4 rfl rfl ?_
    refine V_aload_n (q := 0) dX6_get_5 rfl rfl ?_
    refine V_geti f_X6_19 dX6_get_6 rfl rfl ?_
    refine V_icmp_ge (tgt := 21) dX6_get_9 (by decide) (fun q => ?_) (fun q => ?_)
    · have t := it_t q t
      refine V_iconst (v := 0) dX6_get_21 rfl ?_
      exact V_iret rfl dX6_get_22 t
    · have t := it_f q t
      refine V_aload_n (q := 0) dX6_get_12 rfl rfl ?_
      refine V_getr f_X6_13 dX6_get_13 rfl rfl ?_
      refine V_iload_n (q := 1) dX6_get_16 rfl rfl ?_
      obtain ⟨n1, t⟩ := t
      refine V_iald dX6_get_17 rfl n1 ?_
      refine V_goto (tgt := 22) dX6_get_18 (by decide) ?_
      exact V_iret rfl dX6_get_22 t
set_option maxRecDepth 20000 in
set_option maxHeartbeats 4000000 in
theorem s_Sorted_insert_62_0 (G : GA) (h : HP) (x1 : Int32) (K : HP → Prop) (t :
  if (h 62 1) < 58 then (
    H_Sorted_insert_62_18 G h x1 (h 62 1) K
  ) else (
    K h
  )) : P_Sorted_insert_62 G h x1 K := by
  refine Sp_of_V pf_X6_insert (Nat.le_of_ble_eq_true rfl) rfl ?_
  refine V_aload_n (q := 0) dX6_insert_0 rfl rfl ?_
  refine V_geti f_X6_19 dX6_insert_1 rfl rfl ?_
  refine V_aload_n (q := 0) dX6_insert_4 rfl rfl ?_
  refine V_getr f_X6_13 dX6_insert_5 rfl rfl ?_
  refine V_alen (v := 58) dX6_insert_8 rfl rfl ?_
  refine V_icmp_lt (tgt := 13) dX6_insert_9 (by decide) (fun q => ?_) (fun q => ?_)
  · have t := it_t q t
    refine V_aload_n (q := 0) dX6_insert_13 rfl rfl ?_
    refine V_geti f_X6_19 dX6_insert_14 rfl rfl ?_
    refine V_istore_n (L' := [(0, .ref (G.1 62)), (1, .int x1), (2, .int (h 62 1))]) dX6_insert_17 rfl (by decide) rfl rfl ?_
    exact t
  · have t := it_f q t
    exact V_vret rfl dX6_insert_12 t
set_option maxRecDepth 20000 in
set_option maxHeartbeats 4000000 in
theorem s_Sorted_insert_62_18 (G : GA) (h : HP) (x1 : Int32) (x2 : Int32) (K : HP → Prop) (t :
  if x2 ≤ 0 then (
    vp_in x2 58 ∧
    ∀ h1 : HP, h1 = up h 63 (tn x2) x1 →
    ∀ h3 : HP, h3 = up h1 62 1 ((h 62 1) + 1) →
    K h3
  ) else (
    vp_in (x2 - 1) 58 ∧
    if (h 63 (tn (x2 - 1))) ≤ x1 then (
      vp_in x2 58 ∧
      ∀ h5 : HP, h5 = up h 63 (tn x2) x1 →
      ∀ h7 : HP, h7 = up h5 62 1 ((h 62 1) + 1) →
      K h7
    ) else (
      vp_in x2 58 ∧
      ∀ h8 : HP, h8 = up h 63 (tn x2) (h 63 (tn (x2 - 1))) →
      H_Sorted_insert_62_18 G h8 x1 (x2 + (-1)) K
    )
  )) : H_Sorted_insert_62_18 G h x1 x2 K := by
  unfold H_Sorted_insert_62_18
  refine V_iload_n (q := 2) dX6_insert_18 rfl rfl ?_
  refine V_if_le (tgt := 54) dX6_insert_19 (by decide) (fun q => ?_) (fun q => ?_)
  · have t := it_t q t
    refine V_aload_n (q := 0) dX6_insert_54 rfl rfl ?_
    refine V_getr f_X6_13 dX6_insert_55 rfl rfl ?_
    refine V_iload_n (q := 2) dX6_insert_58 rfl rfl ?_
    refine V_iload_n (q := 1) dX6_insert_59 rfl rfl ?_
    obtain ⟨n2, t⟩ := t
    have t := t _ rfl
    refine V_iast dX6_insert_60 rfl n2 ?_
    refine V_aload_n (q := 0) dX6_insert_61 rfl rfl ?_
    refine V_dup dX6_insert_62 rfl ?_
    refine V_geti f_X6_19 dX6_insert_63 rfl rfl ?_
    refine V_iconst (v := 1) dX6_insert_66 rfl ?_
    refine V_iadd dX6_insert_67 ?_
    have t := t _ rfl
    refine V_put f_X6_19 p_X6_1 dX6_insert_68 rfl rfl ?_
    exact V_vret rfl dX6_insert_71 t
  · have t := it_f q t
    refine V_aload_n (q := 0) dX6_insert_22 rfl rfl ?_
    refine V_getr f_X6_13 dX6_insert_23 rfl rfl ?_
    refine V_iload_n (q := 2) dX6_insert_26 rfl rfl ?_
    refine V_iconst (v := 1) dX6_insert_27 rfl ?_
    refine V_isub dX6_insert_28 ?_
    obtain ⟨n4, t⟩ := t
    refine V_iald dX6_insert_29 rfl n4 ?_
    refine V_iload_n (q := 1) dX6_insert_30 rfl rfl ?_
    refine V_icmp_le (tgt := 54) dX6_insert_31 (by decide) (fun q => ?_) (fun q => ?_)
    · have t := it_t q t
      refine V_aload_n (q := 0) dX6_insert_54 rfl rfl ?_
      refine V_getr f_X6_13 dX6_insert_55 rfl rfl ?_
      refine V_iload_n (q := 2) dX6_insert_58 rfl rfl ?_
      refine V_iload_n (q := 1) dX6_insert_59 rfl rfl ?_
      obtain ⟨n6, t⟩ := t
      have t := t _ rfl
      refine V_iast dX6_insert_60 rfl n6 ?_
      refine V_aload_n (q := 0) dX6_insert_61 rfl rfl ?_
      refine V_dup dX6_insert_62 rfl ?_
      refine V_geti f_X6_19 dX6_insert_63 rfl rfl ?_
      refine V_iconst (v := 1) dX6_insert_66 rfl ?_
      refine V_iadd dX6_insert_67 ?_
      have t := t _ rfl
      refine V_put f_X6_19 p_X6_1 dX6_insert_68 rfl rfl ?_
      exact V_vret rfl dX6_insert_71 t
    · have t := it_f q t
      refine V_aload_n (q := 0) dX6_insert_34 rfl rfl ?_
      refine V_getr f_X6_13 dX6_insert_35 rfl rfl ?_
      refine V_iload_n (q := 2) dX6_insert_38 rfl rfl ?_
      refine V_aload_n (q := 0) dX6_insert_39 rfl rfl ?_
      refine V_getr f_X6_13 dX6_insert_40 rfl rfl ?_
      refine V_iload_n (q := 2) dX6_insert_43 rfl rfl ?_
      refine V_iconst (v := 1) dX6_insert_44 rfl ?_
      refine V_isub dX6_insert_45 ?_
      refine V_iald dX6_insert_46 rfl n4 ?_
      obtain ⟨n9, t⟩ := t
      have t := t _ rfl
      refine V_iast dX6_insert_47 rfl n9 ?_
      refine V_iinc (L' := [(0, .ref (G.1 62)), (1, .int x1), (2, .int (x2 + (-1)))]) (q := 2) (a := (-1)) dX6_insert_48 rfl rfl (by decide) rfl rfl ?_
      refine V_goto (tgt := 18) dX6_insert_51 (by decide) ?_
      exact t
set_option maxRecDepth 20000 in
set_option maxHeartbeats 4000000 in
theorem s_Found_collect_0 (G : GA) (h : HP) (x1 : Int32) (K : Int32 → HP → Prop) (t :
  ∀ h1 : HP, h1 = up h 54 10 (h 48 9) →
  P_Sorted_clear_62 G h1 (fun h2 : HP =>
    P_Arr_fill_57 G h2 1000000000 (fun h3 : HP =>
      H_Found_collect_29 G h3 x1 0 K
    )
  )) : P_Found_collect G h x1 K := by
  refine Sp_of_V pf_X2_collect (Nat.le_of_ble_eq_true rfl) rfl ?_
  refine V_aload_n (q := 0) dX2_collect_0 rfl rfl ?_
  refine V_aload_n (q := 0) dX2_collect_1 rfl rfl ?_
  refine V_getr f_X2_42 dX2_collect_2 rfl rfl ?_
  refine V_geti f_X2_62 dX2_collect_5 rfl rfl ?_
  have t := t _ rfl
  refine V_put f_X2_67 p_X2_10 dX2_collect_8 rfl rfl ?_
  refine V_aload_n (q := 0) dX2_collect_11 rfl rfl ?_
  refine V_getr f_X2_23 dX2_collect_12 rfl rfl ?_
  refine V_callV [] [] g_X2_collect_X6_clear wi_X6_clear ws_X6_clear dX2_collect_15 rfl rfl rfl rfl rfl (Nat.le_of_ble_eq_true rfl) t (fun _ h2 t => ?_)
  obtain ⟨rfl, t⟩ := t
  refine V_aload_n (q := 0) dX2_collect_18 rfl rfl ?_
  refine V_getr f_X2_27 dX2_collect_19 rfl rfl ?_
  refine V_ldc (v := 1000000000) dX2_collect_22 k_X2_71 ?_
  refine V_callS [.ref (G.1 57), .int 1000000000] [] g_X2_collect_J7_fill_53178 wt_J7_fill_53178 dX2_collect_24 rfl rfl (Nat.le_of_ble_eq_true rfl) t (fun _ h3 t => ?_)
  obtain ⟨rfl, t⟩ := t
  refine V_iconst (v := 0) dX2_collect_27 rfl ?_
  refine V_istore_n (L' := [(0, .ref (G.1 54)), (1, .int x1), (2, .int 0)]) dX2_collect_28 rfl (by decide) rfl rfl ?_
  exact t
set_option maxRecDepth 20000 in
set_option maxHeartbeats 4000000 in
theorem s_Found_collect_29 (G : GA) (h : HP) (x1 : Int32) (x2 : Int32) (K : Int32 → HP → Prop) (t :
  if 3 < x2 then (
    ∀ h1 : HP, h1 = up h 54 9 (h 62 1) →
    H_Found_collect_118 G h1 x1 0 K
  ) else (
    H_Found_collect_36 G h x1 x2 0 K
  )) : H_Found_collect_29 G h x1 x2 K := by
  unfold H_Found_collect_29
  refine V_iload_n (q := 2) dX2_collect_29 rfl rfl ?_
  refine V_iconst (v := 3) dX2_collect_30 rfl ?_
  refine V_icmp_gt (tgt := 105) dX2_collect_31 (by decide) (fun q => ?_) (fun q => ?_)
  · have t := it_t q t
    refine V_aload_n (q := 0) dX2_collect_105 rfl rfl ?_
    refine V_aload_n (q := 0) dX2_collect_106 rfl rfl ?_
    refine V_getr f_X2_23 dX2_collect_107 rfl rfl ?_
    refine V_geti f_X2_92 dX2_collect_110 rfl rfl ?_
    have t := t _ rfl
    refine V_put f_X2_46 p_X2_9 dX2_collect_113 rfl rfl ?_
    refine V_iconst (v := 0) dX2_collect_116 rfl ?_
    refine V_istore_n (L' := [(0, .ref (G.1 54)), (1, .int x1), (2, .int 0)]) dX2_collect_117 rfl (by decide) rfl rfl ?_
    exact t
  · have t := it_f q t
    refine V_iconst (v := 0) dX2_collect_34 rfl ?_
    refine V_istore_n (L' := [(0, .ref (G.1 54)), (1, .int x1), (2, .int x2), (3, .int 0)]) dX2_collect_35 rfl (by decide) rfl rfl ?_
    exact t
set_option maxRecDepth 20000 in
set_option maxHeartbeats 4000000 in
theorem s_Found_collect_36 (G : GA) (h : HP) (x1 : Int32) (x2 : Int32) (x3 : Int32) (K : Int32 → HP → Prop) (t :
  P_Search_mostFare G h x2 (fun (r2 : Int32) (h1 : HP) =>
    if r2 < x3 then (
      H_Found_collect_29 G h1 x1 (x2 + 1) K
    ) else (
      P_Search_arrival G h1 x2 x3 x1 (fun (r4 : Int32) (h3 : HP) =>
        P_Found_isUnbeaten G h3 x3 r4 (fun (b6 : Bool) (h5 : HP) =>
          if b6 = true then (
            P_Sorted_insert_62 G h5 (((((r4 - (h5 54 10)) * 4) + x2) * 28) + x3) (fun h7 : HP =>
              H_Found_collect_36 G h7 x1 x2 (x3 + 1) K
            )
          ) else (
            H_Found_collect_36 G h5 x1 x2 (x3 + 1) K
          )
        )
      )
    )
  )) : H_Found_collect_36 G h x1 x2 x3 K := by
  unfold H_Found_collect_36
  refine V_iload_n (q := 3) dX2_collect_36 rfl rfl ?_
  refine V_aload_n (q := 0) dX2_collect_37 rfl rfl ?_
  refine V_getr f_X2_42 dX2_collect_38 rfl rfl ?_
  refine V_iload_n (q := 2) dX2_collect_41 rfl rfl ?_
  refine V_callV [.int x2] [.int x3] g_X2_collect_X5_mostFare wi_X5_mostFare ws_X5_mostFare dX2_collect_42 rfl rfl rfl rfl rfl (Nat.le_of_ble_eq_true rfl) t (fun _ h1 t => ?_)
  obtain ⟨r2, rfl, t⟩ := t
  refine V_icmp_gt (tgt := 99) dX2_collect_45 (by decide) (fun q => ?_) (fun q => ?_)
  · have t := it_t q t
    refine V_iinc (L' := [(0, .ref (G.1 54)), (1, .int x1), (2, .int (x2 + 1)), (3, .int x3)]) (q := 2) (a := 1) dX2_collect_99 rfl rfl (by decide) rfl rfl ?_
    refine V_goto (tgt := 29) dX2_collect_102 (by decide) ?_
    refine V_pick (L' := [(0, .ref (G.1 54)), (1, .int x1), (2, .int (x2 + 1))]) [0, 1, 2] rfl ?_
    exact t
  · have t := it_f q t
    refine V_aload_n (q := 0) dX2_collect_48 rfl rfl ?_
    refine V_getr f_X2_42 dX2_collect_49 rfl rfl ?_
    refine V_iload_n (q := 2) dX2_collect_52 rfl rfl ?_
    refine V_iload_n (q := 3) dX2_collect_53 rfl rfl ?_
    refine V_iload_n (q := 1) dX2_collect_54 rfl rfl ?_
    refine V_callV [.int x2, .int x3, .int x1] [] g_X2_collect_X5_arrival wi_X5_arrival ws_X5_arrival dX2_collect_55 rfl rfl rfl rfl rfl (Nat.le_of_ble_eq_true rfl) t (fun _ h3 t => ?_)
    obtain ⟨r4, rfl, t⟩ := t
    refine V_istore (L' := [(0, .ref (G.1 54)), (1, .int x1), (2, .int x2), (3, .int x3), (4, .int r4)]) dX2_collect_58 (by decide) rfl rfl ?_
    refine V_aload_n (q := 0) dX2_collect_60 rfl rfl ?_
    refine V_iload_n (q := 3) dX2_collect_61 rfl rfl ?_
    refine V_iload (q := 4) dX2_collect_62 rfl ?_
    refine V_callV [.int x3, .int r4] [] g_X2_collect_X2_isUnbeaten wi_X2_isUnbeaten ws_X2_isUnbeaten dX2_collect_64 rfl rfl rfl rfl rfl (Nat.le_of_ble_eq_true rfl) t (fun _ h5 t => ?_)
    obtain ⟨b6, rfl, t⟩ := t
    refine V_ifb_eq (tgt := 93) dX2_collect_67 (by decide) (fun q => ?_) (fun q => ?_)
    · have t := it_f q t
      refine V_iinc (L' := [(0, .ref (G.1 54)), (1, .int x1), (2, .int x2), (3, .int (x3 + 1)), (4, .int r4)]) (q := 3) (a := 1) dX2_collect_93 rfl rfl (by decide) rfl rfl ?_
      refine V_goto (tgt := 36) dX2_collect_96 (by decide) ?_
      refine V_pick (L' := [(0, .ref (G.1 54)), (1, .int x1), (2, .int x2), (3, .int (x3 + 1))]) [0, 1, 2, 3] rfl ?_
      exact t
    · have t := it_t q t
      refine V_aload_n (q := 0) dX2_collect_70 rfl rfl ?_
      refine V_getr f_X2_23 dX2_collect_71 rfl rfl ?_
      refine V_iload (q := 4) dX2_collect_74 rfl ?_
      refine V_aload_n (q := 0) dX2_collect_76 rfl rfl ?_
      refine V_geti f_X2_67 dX2_collect_77 rfl rfl ?_
      refine V_isub dX2_collect_80 ?_
      refine V_iconst (v := 4) dX2_collect_81 rfl ?_
      refine V_imul dX2_collect_82 ?_
      refine V_iload_n (q := 2) dX2_collect_83 rfl rfl ?_
      refine V_iadd dX2_collect_84 ?_
      refine V_bipush (v := 28) dX2_collect_85 rfl ?_
      refine V_imul dX2_collect_87 ?_
      refine V_iload_n (q := 3) dX2_collect_88 rfl rfl ?_
      refine V_iadd dX2_collect_89 ?_
      refine V_callV [.int (((((r4 - (h5 54 10)) * 4) + x2) * 28) + x3)] [] g_X2_collect_X6_insert wi_X6_insert ws_X6_insert dX2_collect_90 rfl rfl rfl rfl rfl (Nat.le_of_ble_eq_true rfl) t (fun _ h7 t => ?_)
      obtain ⟨rfl, t⟩ := t
      refine V_iinc (L' := [(0, .ref (G.1 54)), (1, .int x1), (2, .int x2), (3, .int (x3 + 1)), (4, .int r4)]) (q := 3) (a := 1) dX2_collect_93 rfl rfl (by decide) rfl rfl ?_
      refine V_goto (tgt := 36) dX2_collect_96 (by decide) ?_
      refine V_pick (L' := [(0, .ref (G.1 54)), (1, .int x1), (2, .int x2), (3, .int (x3 + 1))]) [0, 1, 2, 3] rfl ?_
      exact t
set_option maxRecDepth 20000 in
set_option maxHeartbeats 4000000 in
theorem s_Found_collect_118 (G : GA) (h : HP) (x1 : Int32) (x2 : Int32) (K : Int32 → HP → Prop) (t :
  if (h 54 9) ≤ x2 then (
    K (h 54 9) h
  ) else (
    P_Sorted_get_62 G h x2 (fun (r2 : Int32) (h1 : HP) =>
      P_Sorted_get_62 G h1 x2 (fun (r4 : Int32) (h3 : HP) =>
        P_Sorted_get_62 G h3 x2 (fun (r6 : Int32) (h5 : HP) =>
          P_Found_trace G h5 ((r4 / 28) - (r4 / 28) / 4 * 4) (r2 - r2 / 28 * 28) x1 ((h3 54 10) + ((r6 / 28) / 4)) (fun h7 : HP =>
            P_Found_write G h7 x2 ((r4 / 28) - (r4 / 28) / 4 * 4) (r2 - r2 / 28 * 28) (fun h8 : HP =>
              H_Found_collect_118 G h8 x1 (x2 + 1) K
            )
          )
        )
      )
    )
  )) : H_Found_collect_118 G h x1 x2 K := by
  unfold H_Found_collect_118
  refine V_iload_n (q := 2) dX2_collect_118 rfl rfl ?_
  refine V_aload_n (q := 0) dX2_collect_119 rfl rfl ?_
  refine V_geti f_X2_46 dX2_collect_120 rfl rfl ?_
  refine V_icmp_ge (tgt := 197) dX2_collect_123 (by decide) (fun q => ?_) (fun q => ?_)
  · have t := it_t q t
    refine V_aload_n (q := 0) dX2_collect_197 rfl rfl ?_
    refine V_geti f_X2_46 dX2_collect_198 rfl rfl ?_
    exact V_iret rfl dX2_collect_201 t
  · have t := it_f q t
    refine V_aload_n (q := 0) dX2_collect_126 rfl rfl ?_
    refine V_getr f_X2_23 dX2_collect_127 rfl rfl ?_
    refine V_iload_n (q := 2) dX2_collect_130 rfl rfl ?_
    refine V_callV [.int x2] [] g_X2_collect_X6_get wi_X6_get ws_X6_get dX2_collect_131 rfl rfl rfl rfl rfl (Nat.le_of_ble_eq_true rfl) t (fun _ h1 t => ?_)
    obtain ⟨r2, rfl, t⟩ := t
    refine V_bipush (v := 28) dX2_collect_134 rfl ?_
    refine V_irem dX2_collect_136 (by decide) ?_
    refine V_istore_n (L' := [(0, .ref (G.1 54)), (1, .int x1), (2, .int x2), (3, .int (r2 - r2 / 28 * 28))]) dX2_collect_137 rfl (by decide) rfl rfl ?_
    refine V_aload_n (q := 0) dX2_collect_138 rfl rfl ?_
    refine V_getr f_X2_23 dX2_collect_139 rfl rfl ?_
    refine V_iload_n (q := 2) dX2_collect_142 rfl rfl ?_
    refine V_callV [.int x2] [] g_X2_collect_X6_get wi_X6_get ws_X6_get dX2_collect_143 rfl rfl rfl rfl rfl (Nat.le_of_ble_eq_true rfl) t (fun _ h3 t => ?_)
    obtain ⟨r4, rfl, t⟩ := t
    refine V_bipush (v := 28) dX2_collect_146 rfl ?_
    refine V_idiv dX2_collect_148 (by decide) ?_
    refine V_iconst (v := 4) dX2_collect_149 rfl ?_
    refine V_irem dX2_collect_150 (by decide) ?_
    refine V_istore (L' := [(0, .ref (G.1 54)), (1, .int x1), (2, .int x2), (3, .int (r2 - r2 / 28 * 28)), (4, .int ((r4 / 28) - (r4 / 28) / 4 * 4))]) dX2_collect_151 (by decide) rfl rfl ?_
    refine V_aload_n (q := 0) dX2_collect_153 rfl rfl ?_
    refine V_geti f_X2_67 dX2_collect_154 rfl rfl ?_
    refine V_aload_n (q := 0) dX2_collect_157 rfl rfl ?_
    refine V_getr f_X2_23 dX2_collect_158 rfl rfl ?_
    refine V_iload_n (q := 2) dX2_collect_161 rfl rfl ?_
    refine V_callV [.int x2] [.int (h3 54 10)] g_X2_collect_X6_get wi_X6_get ws_X6_get dX2_collect_162 rfl rfl rfl rfl rfl (Nat.le_of_ble_eq_true rfl) t (fun _ h5 t => ?_)
    obtain ⟨r6, rfl, t⟩ := t
    refine V_bipush (v := 28) dX2_collect_165 rfl ?_
    refine V_idiv dX2_collect_167 (by decide) ?_
    refine V_iconst (v := 4) dX2_collect_168 rfl ?_
    refine V_idiv dX2_collect_169 (by decide) ?_
    refine V_iadd dX2_collect_170 ?_
    refine V_istore (L' := [(0, .ref (G.1 54)), (1, .int x1), (2, .int x2), (3, .int (r2 - r2 / 28 * 28)), (4, .int ((r4 / 28) - (r4 / 28) / 4 * 4)), (5, .int ((h3 54 10) + ((r6 / 28) / 4)))]) dX2_collect_171 (by decide) rfl rfl ?_
    refine V_aload_n (q := 0) dX2_collect_173 rfl rfl ?_
    refine V_iload (q := 4) dX2_collect_174 rfl ?_
    refine V_iload_n (q := 3) dX2_collect_176 rfl rfl ?_
    refine V_iload_n (q := 1) dX2_collect_177 rfl rfl ?_
    refine V_iload (q := 5) dX2_collect_178 rfl ?_
    refine V_callV [.int ((r4 / 28) - (r4 / 28) / 4 * 4), .int (r2 - r2 / 28 * 28), .int x1, .int ((h3 54 10) + ((r6 / 28) / 4))] [] g_X2_collect_X2_trace wi_X2_trace ws_X2_trace dX2_collect_180 rfl rfl rfl rfl rfl (Nat.le_of_ble_eq_true rfl) t (fun _ h7 t => ?_)
    obtain ⟨rfl, t⟩ := t
    refine V_aload_n (q := 0) dX2_collect_183 rfl rfl ?_
    refine V_iload_n (q := 2) dX2_collect_184 rfl rfl ?_
    refine V_iload (q := 4) dX2_collect_185 rfl ?_
    refine V_iload_n (q := 3) dX2_collect_187 rfl rfl ?_
    refine V_callV [.int x2, .int ((r4 / 28) - (r4 / 28) / 4 * 4), .int (r2 - r2 / 28 * 28)] [] g_X2_collect_X2_write wi_X2_write ws_X2_write dX2_collect_188 rfl rfl rfl rfl rfl (Nat.le_of_ble_eq_true rfl) t (fun _ h8 t => ?_)
    obtain ⟨rfl, t⟩ := t
    refine V_iinc (L' := [(0, .ref (G.1 54)), (1, .int x1), (2, .int (x2 + 1)), (3, .int (r2 - r2 / 28 * 28)), (4, .int ((r4 / 28) - (r4 / 28) / 4 * 4)), (5, .int ((h3 54 10) + ((r6 / 28) / 4)))]) (q := 2) (a := 1) dX2_collect_191 rfl rfl (by decide) rfl rfl ?_
    refine V_goto (tgt := 118) dX2_collect_194 (by decide) ?_
    refine V_pick (L' := [(0, .ref (G.1 54)), (1, .int x1), (2, .int (x2 + 1))]) [0, 1, 2] rfl ?_
    exact t
set_option maxRecDepth 20000 in
set_option maxHeartbeats 4000000 in
theorem s_Math_floorDiv_0 (G : GA) (h : HP) (x0 : Int32) (x1 : Int32) (K : Int32 → HP → Prop) (t :
  ¬ x1 = 0 ∧
  if 0 ≤ (x0 ^^^ x1) then (
    K (x0 / x1) h
  ) else (
    if ((x0 / x1) * x1) = x0 then (
      K (x0 / x1) h
    ) else (
      K ((x0 / x1) - 1) h
    )
  )) : P_Math_floorDiv G h x0 x1 K := by
  refine Sp_of_V pf_J9_floorDiv_7cf53 (Nat.le_of_ble_eq_true rfl) rfl ?_
  refine V_iload_n (q := 0) dJ9_floorDiv_7cf53_0 rfl rfl ?_
  refine V_iload_n (q := 1) dJ9_floorDiv_7cf53_1 rfl rfl ?_
  obtain ⟨t0, t⟩ := t
  refine V_idiv dJ9_floorDiv_7cf53_2 t0 ?_
  refine V_istore_n (L' := [(0, .int x0), (1, .int x1), (2, .int (x0 / x1))]) dJ9_floorDiv_7cf53_3 rfl (by decide) rfl rfl ?_
  refine V_iload_n (q := 0) dJ9_floorDiv_7cf53_4 rfl rfl ?_
  refine V_iload_n (q := 1) dJ9_floorDiv_7cf53_5 rfl rfl ?_
  refine V_ixor dJ9_floorDiv_7cf53_6 ?_
  refine V_if_ge (tgt := 21) dJ9_floorDiv_7cf53_7 (by decide) (fun q => ?_) (fun q => ?_)
  · have t := it_t q t
    refine V_iload_n (q := 2) dJ9_floorDiv_7cf53_21 rfl rfl ?_
    exact V_iret rfl dJ9_floorDiv_7cf53_22 t
  · have t := it_f q t
    refine V_iload_n (q := 2) dJ9_floorDiv_7cf53_10 rfl rfl ?_
    refine V_iload_n (q := 1) dJ9_floorDiv_7cf53_11 rfl rfl ?_
    refine V_imul dJ9_floorDiv_7cf53_12 ?_
    refine V_iload_n (q := 0) dJ9_floorDiv_7cf53_13 rfl rfl ?_
    refine V_icmp_eq (tgt := 21) dJ9_floorDiv_7cf53_14 (by decide) (fun q => ?_) (fun q => ?_)
    · have t := it_t q t
      refine V_iload_n (q := 2) dJ9_floorDiv_7cf53_21 rfl rfl ?_
      exact V_iret rfl dJ9_floorDiv_7cf53_22 t
    · have t := it_f q t
      refine V_iload_n (q := 2) dJ9_floorDiv_7cf53_17 rfl rfl ?_
      refine V_iconst (v := 1) dJ9_floorDiv_7cf53_18 rfl ?_
      refine V_isub dJ9_floorDiv_7cf53_19 ?_
      exact V_iret rfl dJ9_floorDiv_7cf53_20 t
set_option maxRecDepth 20000 in
set_option maxHeartbeats 4000000 in
theorem s_Places_rowOf_0 (G : GA) (h : HP) (x1 : Int32) (x2 : Int32) (K : Int32 → HP → Prop) (t :
  H_Places_rowOf_10 G h ((x1 * 100) + x2) 0 K) : P_Places_rowOf G h x1 x2 K := by
  refine Sp_of_V pf_X3_rowOf (Nat.le_of_ble_eq_true rfl) rfl ?_
  refine V_iload_n (q := 1) dX3_rowOf_0 rfl rfl ?_
  refine V_bipush (v := 100) dX3_rowOf_1 rfl ?_
  refine V_imul dX3_rowOf_3 ?_
  refine V_iload_n (q := 2) dX3_rowOf_4 rfl rfl ?_
  refine V_iadd dX3_rowOf_5 ?_
  refine V_istore_n (L' := [(0, .ref (G.1 31)), (1, .int x1), (2, .int x2), (3, .int ((x1 * 100) + x2))]) dX3_rowOf_6 rfl (by decide) rfl rfl ?_
  refine V_iconst (v := 0) dX3_rowOf_7 rfl ?_
  refine V_istore (L' := [(0, .ref (G.1 31)), (1, .int x1), (2, .int x2), (3, .int ((x1 * 100) + x2)), (4, .int 0)]) dX3_rowOf_8 (by decide) rfl rfl ?_
  refine V_pick (L' := [(0, .ref (G.1 31)), (3, .int ((x1 * 100) + x2)), (4, .int 0)]) [0, 3, 4] rfl ?_
  exact t
set_option maxRecDepth 20000 in
set_option maxHeartbeats 4000000 in
theorem s_Places_rowOf_10 (G : GA) (h : HP) (x3 : Int32) (x4 : Int32) (K : Int32 → HP → Prop) (t :
  if (h 31 2) ≤ x4 then (
    K (-1) h
  ) else (
    vp_in x4 90 ∧
    if (h 32 (tn x4)) = x3 then (
      K x4 h
    ) else (
      H_Places_rowOf_10 G h x3 (x4 + 1) K
    )
  )) : H_Places_rowOf_10 G h x3 x4 K := by
  unfold H_Places_rowOf_10
  refine V_iload (q := 2) dX3_rowOf_10 rfl ?_
  refine V_aload_n (q := 0) dX3_rowOf_12 rfl rfl ?_
  refine V_geti f_X3_25 dX3_rowOf_13 rfl rfl ?_
  refine V_icmp_ge (tgt := 39) dX3_rowOf_16 (by decide) (fun q => ?_) (fun q => ?_)
  · have t := it_t q t
    refine V_iconst (v := (-1)) dX3_rowOf_39 rfl ?_
    exact V_iret rfl dX3_rowOf_40 t
  · have t := it_f q t
    refine V_aload_n (q := 0) dX3_rowOf_19 rfl rfl ?_
    refine V_getr f_X3_9 dX3_rowOf_20 rfl rfl ?_
    refine V_iload (q := 2) dX3_rowOf_23 rfl ?_
    obtain ⟨n1, t⟩ := t
    refine V_iald dX3_rowOf_25 rfl n1 ?_
    refine V_iload_n (q := 1) dX3_rowOf_26 rfl rfl ?_
    refine V_icmp_ne (tgt := 33) dX3_rowOf_27 (by decide) (fun q => ?_) (fun q => ?_)
    · have t := it_f q t
      refine V_iinc (L' := [(0, .ref (G.1 31)), (3, .int x3), (4, .int (x4 + 1))]) (q := 2) (a := 1) dX3_rowOf_33 rfl rfl (by decide) rfl rfl ?_
      refine V_goto (tgt := 10) dX3_rowOf_36 (by decide) ?_
      exact t
    · have t := it_t q t
      refine V_iload (q := 2) dX3_rowOf_30 rfl ?_
      exact V_iret rfl dX3_rowOf_32 t
set_option maxRecDepth 20000 in
set_option maxHeartbeats 4000000 in
theorem s_Places_full_0 (G : GA) (h : HP) (x1 : Int32) (x2 : Int32) (x3 : Int32) (K : Int32 → HP → Prop) (t :
  P_Places_rowOf G h x1 x2 (fun (r2 : Int32) (h1 : HP) =>
    H_Places_full_14 G h1 x3 r2 0 0 K
  )) : P_Places_full G h x1 x2 x3 K := by
  refine Sp_of_V pf_X3_full (Nat.le_of_ble_eq_true rfl) rfl ?_
  refine V_aload_n (q := 0) dX3_full_0 rfl rfl ?_
  refine V_iload_n (q := 1) dX3_full_1 rfl rfl ?_
  refine V_iload_n (q := 2) dX3_full_2 rfl rfl ?_
  refine V_callV [.int x1, .int x2] [] g_X3_full_X3_rowOf wi_X3_rowOf ws_X3_rowOf dX3_full_3 rfl rfl rfl rfl rfl (Nat.le_of_ble_eq_true rfl) t (fun _ h1 t => ?_)
  obtain ⟨r2, rfl, t⟩ := t
  refine V_istore (L' := [(0, .ref (G.1 31)), (1, .int x1), (2, .int x2), (3, .int x3), (4, .int r2)]) dX3_full_6 (by decide) rfl rfl ?_
  refine V_iconst (v := 0) dX3_full_8 rfl ?_
  refine V_istore (L' := [(0, .ref (G.1 31)), (1, .int x1), (2, .int x2), (3, .int x3), (4, .int r2), (5, .int 0)]) dX3_full_9 (by decide) rfl rfl ?_
  refine V_iconst (v := 0) dX3_full_11 rfl ?_
  refine V_istore (L' := [(0, .ref (G.1 31)), (1, .int x1), (2, .int x2), (3, .int x3), (4, .int r2), (5, .int 0), (6, .int 0)]) dX3_full_12 (by decide) rfl rfl ?_
  refine V_pick (L' := [(0, .ref (G.1 31)), (3, .int x3), (4, .int r2), (5, .int 0), (6, .int 0)]) [0, 3, 4, 5, 6] rfl ?_
  exact t
set_option maxRecDepth 20000 in
set_option maxHeartbeats 4000000 in
theorem s_Places_full_14 (G : GA) (h : HP) (x3 : Int32) (x4 : Int32) (x5 : Int32) (x6 : Int32) (K : Int32 → HP → Prop) (t :
  if x4 < 0 then (
    K x5 h
  ) else (
    if 8 ≤ x6 then (
      K x5 h
    ) else (
      vp_in ((x4 * 8) + x6) 720 ∧
      if (h 33 (tn ((x4 * 8) + x6))) < x3 then (
        H_Places_full_14 G h x3 x4 x5 (x6 + 1) K
      ) else (
        H_Places_full_14 G h x3 x4 (x5 ||| (1 <<< (x6 &&& 31))) (x6 + 1) K
      )
    )
  )) : H_Places_full_14 G h x3 x4 x5 x6 K := by
  unfold H_Places_full_14
  refine V_iload (q := 2) dX3_full_14 rfl ?_
  refine V_if_lt (tgt := 58) dX3_full_16 (by decide) (fun q => ?_) (fun q => ?_)
  · have t := it_t q t
    refine V_iload (q := 3) dX3_full_58 rfl ?_
    exact V_iret rfl dX3_full_60 t
  · have t := it_f q t
    refine V_iload (q := 4) dX3_full_19 rfl ?_
    refine V_bipush (v := 8) dX3_full_21 rfl ?_
    refine V_icmp_ge (tgt := 58) dX3_full_23 (by decide) (fun q => ?_) (fun q => ?_)
    · have t := it_t q t
      refine V_iload (q := 3) dX3_full_58 rfl ?_
      exact V_iret rfl dX3_full_60 t
    · have t := it_f q t
      refine V_aload_n (q := 0) dX3_full_26 rfl rfl ?_
      refine V_getr f_X3_15 dX3_full_27 rfl rfl ?_
      refine V_iload (q := 2) dX3_full_30 rfl ?_
      refine V_bipush (v := 8) dX3_full_32 rfl ?_
      refine V_imul dX3_full_34 ?_
      refine V_iload (q := 4) dX3_full_35 rfl ?_
      refine V_iadd dX3_full_37 ?_
      obtain ⟨n1, t⟩ := t
      refine V_iald dX3_full_38 rfl n1 ?_
      refine V_iload_n (q := 1) dX3_full_39 rfl rfl ?_
      refine V_icmp_lt (tgt := 52) dX3_full_40 (by decide) (fun q => ?_) (fun q => ?_)
      · have t := it_t q t
        refine V_iinc (L' := [(0, .ref (G.1 31)), (3, .int x3), (4, .int x4), (5, .int x5), (6, .int (x6 + 1))]) (q := 4) (a := 1) dX3_full_52 rfl rfl (by decide) rfl rfl ?_
        refine V_goto (tgt := 14) dX3_full_55 (by decide) ?_
        exact t
      · have t := it_f q t
        refine V_iload (q := 3) dX3_full_43 rfl ?_
        refine V_iconst (v := 1) dX3_full_45 rfl ?_
        refine V_iload (q := 4) dX3_full_46 rfl ?_
        refine V_ishl dX3_full_48 ?_
        refine V_ior dX3_full_49 ?_
        refine V_istore (L' := [(0, .ref (G.1 31)), (3, .int x3), (4, .int x4), (5, .int (x5 ||| (1 <<< (x6 &&& 31)))), (6, .int x6)]) dX3_full_50 (by decide) rfl rfl ?_
        refine V_iinc (L' := [(0, .ref (G.1 31)), (3, .int x3), (4, .int x4), (5, .int (x5 ||| (1 <<< (x6 &&& 31)))), (6, .int (x6 + 1))]) (q := 4) (a := 1) dX3_full_52 rfl rfl (by decide) rfl rfl ?_
        refine V_goto (tgt := 14) dX3_full_55 (by decide) ?_
        exact t
set_option maxRecDepth 20000 in
set_option maxHeartbeats 4000000 in
theorem s_Runs_setTimes_0 (G : GA) (h : HP) (x1 : Int32) (x2 : Int32) (x3 : Int32) (K : HP → Prop) (t :
  H_Runs_setTimes_12 G h x1 x2 x3 ((h 42 5) * 8) 0 K) : P_Runs_setTimes G h x1 x2 x3 K := by
  refine Sp_of_V pf_X4_setTimes (Nat.le_of_ble_eq_true rfl) rfl ?_
  refine V_aload_n (q := 0) dX4_setTimes_0 rfl rfl ?_
  refine V_geti f_X4_35 dX4_setTimes_1 rfl rfl ?_
  refine V_bipush (v := 8) dX4_setTimes_4 rfl ?_
  refine V_imul dX4_setTimes_6 ?_
  refine V_istore (L' := [(0, .ref (G.1 42)), (1, .int x1), (2, .int x2), (3, .int x3), (4, .int ((h 42 5) * 8))]) dX4_setTimes_7 (by decide) rfl rfl ?_
  refine V_iconst (v := 0) dX4_setTimes_9 rfl ?_
  refine V_istore (L' := [(0, .ref (G.1 42)), (1, .int x1), (2, .int x2), (3, .int x3), (4, .int ((h 42 5) * 8)), (5, .int 0)]) dX4_setTimes_10 (by decide) rfl rfl ?_
  exact t
set_option maxRecDepth 20000 in
set_option maxHeartbeats 4000000 in
theorem s_Runs_setTimes_12 (G : GA) (h : HP) (x1 : Int32) (x2 : Int32) (x3 : Int32) (x4 : Int32) (x5 : Int32) (K : HP → Prop) (t :
  if x3 ≤ x5 then (
    H_Runs_setTimes_98 G h x1 x2 x3 x4 0 K
  ) else (
    vp_in ((x1 * 8) + x5) 192 ∧
    vp_in (x4 + x5) 1056 ∧
    ∀ h2 : HP, h2 = up h 46 (tn (x4 + x5)) ((1440 * x2) + (h 18 (tn ((x1 * 8) + x5)))) →
    ∀ h4 : HP, h4 = up h2 47 (tn (x4 + x5)) ((1440 * x2) + (h 19 (tn ((x1 * 8) + x5)))) →
    H_Runs_setTimes_12 G h4 x1 x2 x3 x4 (x5 + 1) K
  )) : H_Runs_setTimes_12 G h x1 x2 x3 x4 x5 K := by
  unfold H_Runs_setTimes_12
  refine V_iload (q := 5) dX4_setTimes_12 rfl ?_
  refine V_iload_n (q := 3) dX4_setTimes_14 rfl rfl ?_
  refine V_icmp_ge (tgt := 86) dX4_setTimes_15 (by decide) (fun q => ?_) (fun q => ?_)
  · have t := it_t q t
    refine V_aload_n (q := 0) dX4_setTimes_86 rfl rfl ?_
    refine V_getr f_X4_27 dX4_setTimes_87 rfl rfl ?_
    refine V_getr f_X4_42 dX4_setTimes_90 rfl rfl ?_
    refine V_astore (L' := [(0, .ref (G.1 42)), (1, .int x1), (2, .int x2), (3, .int x3), (4, .int x4), (5, .ref (G.1 6))]) dX4_setTimes_93 (by decide) rfl rfl ?_
    refine V_iconst (v := 0) dX4_setTimes_95 rfl ?_
    refine V_istore (L' := [(0, .ref (G.1 42)), (1, .int x1), (2, .int x2), (3, .int x3), (4, .int x4), (5, .ref (G.1 6)), (6, .int 0)]) dX4_setTimes_96 (by decide) rfl rfl ?_
    exact t
  · have t := it_f q t
    refine V_aload_n (q := 0) dX4_setTimes_18 rfl rfl ?_
    refine V_getr f_X4_21 dX4_setTimes_19 rfl rfl ?_
    refine V_iload (q := 4) dX4_setTimes_22 rfl ?_
    refine V_iload (q := 5) dX4_setTimes_24 rfl ?_
    refine V_iadd dX4_setTimes_26 ?_
    refine V_sipush (v := 1440) dX4_setTimes_27 rfl ?_
    refine V_iload_n (q := 2) dX4_setTimes_30 rfl rfl ?_
    refine V_imul dX4_setTimes_31 ?_
    refine V_aload_n (q := 0) dX4_setTimes_32 rfl rfl ?_
    refine V_getr f_X4_27 dX4_setTimes_33 rfl rfl ?_
    refine V_getr f_X4_91 dX4_setTimes_36 rfl rfl ?_
    refine V_iload_n (q := 1) dX4_setTimes_39 rfl rfl ?_
    refine V_bipush (v := 8) dX4_setTimes_40 rfl ?_
    refine V_imul dX4_setTimes_42 ?_
    refine V_iload (q := 5) dX4_setTimes_43 rfl ?_
    refine V_iadd dX4_setTimes_45 ?_
    obtain ⟨n1, t⟩ := t
    refine V_iald dX4_setTimes_46 rfl n1 ?_
    refine V_iadd dX4_setTimes_47 ?_
    obtain ⟨n3, t⟩ := t
    have t := t _ rfl
    refine V_iast dX4_setTimes_48 rfl n3 ?_
    refine V_aload_n (q := 0) dX4_setTimes_49 rfl rfl ?_
    refine V_getr f_X4_24 dX4_setTimes_50 rfl rfl ?_
    refine V_iload (q := 4) dX4_setTimes_53 rfl ?_
    refine V_iload (q := 5) dX4_setTimes_55 rfl ?_
    refine V_iadd dX4_setTimes_57 ?_
    refine V_sipush (v := 1440) dX4_setTimes_58 rfl ?_
    refine V_iload_n (q := 2) dX4_setTimes_61 rfl rfl ?_
    refine V_imul dX4_setTimes_62 ?_
    refine V_aload_n (q := 0) dX4_setTimes_63 rfl rfl ?_
    refine V_getr f_X4_27 dX4_setTimes_64 rfl rfl ?_
    refine V_getr f_X4_94 dX4_setTimes_67 rfl rfl ?_
    refine V_iload_n (q := 1) dX4_setTimes_70 rfl rfl ?_
    refine V_bipush (v := 8) dX4_setTimes_71 rfl ?_
    refine V_imul dX4_setTimes_73 ?_
    refine V_iload (q := 5) dX4_setTimes_74 rfl ?_
    refine V_iadd dX4_setTimes_76 ?_
    refine V_iald dX4_setTimes_77 rfl n1 ?_
    refine V_iadd dX4_setTimes_78 ?_
    have t := t _ rfl
    refine V_iast dX4_setTimes_79 rfl n3 ?_
    refine V_iinc (L' := [(0, .ref (G.1 42)), (1, .int x1), (2, .int x2), (3, .int x3), (4, .int x4), (5, .int (x5 + 1))]) (q := 5) (a := 1) dX4_setTimes_80 rfl rfl (by decide) rfl rfl ?_
    refine V_goto (tgt := 12) dX4_setTimes_83 (by decide) ?_
    exact t
set_option maxRecDepth 20000 in
set_option maxHeartbeats 4000000 in
theorem s_Runs_setTimes_98 (G : GA) (h : HP) (x1 : Int32) (x2 : Int32) (x3 : Int32) (x4 : Int32) (x6 : Int32) (K : HP → Prop) (t :
  if (h 6 4) ≤ x6 then (
    K h
  ) else (
    vp_in x6 60 ∧
    if (h 7 (tn x6)) = x1 then (
      if (h 8 (tn x6)) = x2 then (
        H_Runs_setTimes_142 G h x1 x2 x3 x4 x6 (h 9 (tn x6)) K
      ) else (
        H_Runs_setTimes_98 G h x1 x2 x3 x4 (x6 + 1) K
      )
    ) else (
      H_Runs_setTimes_98 G h x1 x2 x3 x4 (x6 + 1) K
    )
  )) : H_Runs_setTimes_98 G h x1 x2 x3 x4 x6 K := by
  unfold H_Runs_setTimes_98
  refine V_iload (q := 6) dX4_setTimes_98 rfl ?_
  refine V_aload (q := 5) dX4_setTimes_100 rfl ?_
  refine V_geti f_X4_97 dX4_setTimes_102 rfl rfl ?_
  refine V_icmp_ge (tgt := 202) dX4_setTimes_105 (by decide) (fun q => ?_) (fun q => ?_)
  · have t := it_t q t
    exact V_vret rfl dX4_setTimes_202 t
  · have t := it_f q t
    refine V_aload (q := 5) dX4_setTimes_108 rfl ?_
    refine V_getr f_X4_98 dX4_setTimes_110 rfl rfl ?_
    refine V_iload (q := 6) dX4_setTimes_113 rfl ?_
    obtain ⟨n1, t⟩ := t
    refine V_iald dX4_setTimes_115 rfl n1 ?_
    refine V_iload_n (q := 1) dX4_setTimes_116 rfl rfl ?_
    refine V_icmp_ne (tgt := 196) dX4_setTimes_117 (by decide) (fun q => ?_) (fun q => ?_)
    · have t := it_f q t
      refine V_iinc (L' := [(0, .ref (G.1 42)), (1, .int x1), (2, .int x2), (3, .int x3), (4, .int x4), (5, .ref (G.1 6)), (6, .int (x6 + 1))]) (q := 6) (a := 1) dX4_setTimes_196 rfl rfl (by decide) rfl rfl ?_
      refine V_goto (tgt := 98) dX4_setTimes_199 (by decide) ?_
      exact t
    · have t := it_t q t
      refine V_aload (q := 5) dX4_setTimes_120 rfl ?_
      refine V_getr f_X4_99 dX4_setTimes_122 rfl rfl ?_
      refine V_iload (q := 6) dX4_setTimes_125 rfl ?_
      refine V_iald dX4_setTimes_127 rfl n1 ?_
      refine V_iload_n (q := 2) dX4_setTimes_128 rfl rfl ?_
      refine V_icmp_ne (tgt := 196) dX4_setTimes_129 (by decide) (fun q => ?_) (fun q => ?_)
      · have t := it_f q t
        refine V_iinc (L' := [(0, .ref (G.1 42)), (1, .int x1), (2, .int x2), (3, .int x3), (4, .int x4), (5, .ref (G.1 6)), (6, .int (x6 + 1))]) (q := 6) (a := 1) dX4_setTimes_196 rfl rfl (by decide) rfl rfl ?_
        refine V_goto (tgt := 98) dX4_setTimes_199 (by decide) ?_
        exact t
      · have t := it_t q t
        refine V_aload (q := 5) dX4_setTimes_132 rfl ?_
        refine V_getr f_X4_100 dX4_setTimes_134 rfl rfl ?_
        refine V_iload (q := 6) dX4_setTimes_137 rfl ?_
        refine V_iald dX4_setTimes_139 rfl n1 ?_
        refine V_istore (L' := [(0, .ref (G.1 42)), (1, .int x1), (2, .int x2), (3, .int x3), (4, .int x4), (5, .ref (G.1 6)), (6, .int x6), (7, .int (h 9 (tn x6)))]) dX4_setTimes_140 (by decide) rfl rfl ?_
        exact t
set_option maxRecDepth 20000 in
set_option maxHeartbeats 4000000 in
theorem s_Runs_setTimes_142 (G : GA) (h : HP) (x1 : Int32) (x2 : Int32) (x3 : Int32) (x4 : Int32) (x6 : Int32) (x7 : Int32) (K : HP → Prop) (t :
  if x3 ≤ x7 then (
    H_Runs_setTimes_98 G h x1 x2 x3 x4 (x6 + 1) K
  ) else (
    vp_in (x4 + x7) 1056 ∧
    vp_in x6 60 ∧
    ∀ h3 : HP, h3 = up h 46 (tn (x4 + x7)) ((h 46 (tn (x4 + x7))) + (h 10 (tn x6))) →
    ∀ h4 : HP, h4 = up h3 47 (tn (x4 + x7)) ((h 47 (tn (x4 + x7))) + (h 10 (tn x6))) →
    H_Runs_setTimes_142 G h4 x1 x2 x3 x4 x6 (x7 + 1) K
  )) : H_Runs_setTimes_142 G h x1 x2 x3 x4 x6 x7 K := by
  unfold H_Runs_setTimes_142
  refine V_iload (q := 7) dX4_setTimes_142 rfl ?_
  refine V_iload_n (q := 3) dX4_setTimes_144 rfl rfl ?_
  refine V_icmp_ge (tgt := 196) dX4_setTimes_145 (by decide) (fun q => ?_) (fun q => ?_)
  · have t := it_t q t
    refine V_iinc (L' := [(0, .ref (G.1 42)), (1, .int x1), (2, .int x2), (3, .int x3), (4, .int x4), (5, .ref (G.1 6)), (6, .int (x6 + 1)), (7, .int x7)]) (q := 6) (a := 1) dX4_setTimes_196 rfl rfl (by decide) rfl rfl ?_
    refine V_goto (tgt := 98) dX4_setTimes_199 (by decide) ?_
    refine V_pick (L' := [(0, .ref (G.1 42)), (1, .int x1), (2, .int x2), (3, .int x3), (4, .int x4), (5, .ref (G.1 6)), (6, .int (x6 + 1))]) [0, 1, 2, 3, 4, 5, 6] rfl ?_
    exact t
  · have t := it_f q t
    refine V_aload_n (q := 0) dX4_setTimes_148 rfl rfl ?_
    refine V_getr f_X4_21 dX4_setTimes_149 rfl rfl ?_
    refine V_iload (q := 4) dX4_setTimes_152 rfl ?_
    refine V_iload (q := 7) dX4_setTimes_154 rfl ?_
    refine V_iadd dX4_setTimes_156 ?_
    refine V_dup2 dX4_setTimes_157 rfl rfl ?_
    obtain ⟨n1, t⟩ := t
    refine V_iald dX4_setTimes_158 rfl n1 ?_
    refine V_aload (q := 5) dX4_setTimes_159 rfl ?_
    refine V_getr f_X4_103 dX4_setTimes_161 rfl rfl ?_
    refine V_iload (q := 6) dX4_setTimes_164 rfl ?_
    obtain ⟨n2, t⟩ := t
    refine V_iald dX4_setTimes_166 rfl n2 ?_
    refine V_iadd dX4_setTimes_167 ?_
    have t := t _ rfl
    refine V_iast dX4_setTimes_168 rfl n1 ?_
    refine V_aload_n (q := 0) dX4_setTimes_169 rfl rfl ?_
    refine V_getr f_X4_24 dX4_setTimes_170 rfl rfl ?_
    refine V_iload (q := 4) dX4_setTimes_173 rfl ?_
    refine V_iload (q := 7) dX4_setTimes_175 rfl ?_
    refine V_iadd dX4_setTimes_177 ?_
    refine V_dup2 dX4_setTimes_178 rfl rfl ?_
    refine V_iald dX4_setTimes_179 rfl n1 ?_
    refine V_aload (q := 5) dX4_setTimes_180 rfl ?_
    refine V_getr f_X4_103 dX4_setTimes_182 rfl rfl ?_
    refine V_iload (q := 6) dX4_setTimes_185 rfl ?_
    refine V_iald dX4_setTimes_187 rfl n2 ?_
    refine V_iadd dX4_setTimes_188 ?_
    have t := t _ rfl
    refine V_iast dX4_setTimes_189 rfl n1 ?_
    refine V_iinc (L' := [(0, .ref (G.1 42)), (1, .int x1), (2, .int x2), (3, .int x3), (4, .int x4), (5, .ref (G.1 6)), (6, .int x6), (7, .int (x7 + 1))]) (q := 7) (a := 1) dX4_setTimes_190 rfl rfl (by decide) rfl rfl ?_
    refine V_goto (tgt := 142) dX4_setTimes_193 (by decide) ?_
    exact t
set_option maxRecDepth 20000 in
set_option maxHeartbeats 4000000 in
theorem s_Runs_gatherRun_0 (G : GA) (h : HP) (x1 : Int32) (x2 : Int32) (x3 : Int32) (K : HP → Prop) (t :
  if (h 42 5) < 132 then (
    vp_in x1 24 ∧
    P_Runs_setTimes G h x1 x2 (h 15 (tn x1)) (fun h2 : HP =>
      vp_in ((((h2 42 5) * 8) + (h 15 (tn x1))) - 1) 1056 ∧
      if (h2 46 (tn ((((h2 42 5) * 8) + (h 15 (tn x1))) - 1))) < x3 then (
        K h2
      ) else (
        vp_in ((h2 42 5) * 8) 1056 ∧
        if (h2 47 (tn ((h2 42 5) * 8))) < (h2 42 6) then (
          vp_in (h2 42 5) 132 ∧
          ∀ h5 : HP, h5 = up h2 43 (tn (h2 42 5)) x1 →
          ∀ h7 : HP, h7 = up h5 44 (tn (h2 42 5)) x2 →
          if (h2 12 (tn x1)) = 0 then (
            ∀ h8 : HP, h8 = up h7 45 (tn (h2 42 5)) 0 →
            ∀ h9 : HP, h9 = up h8 42 5 ((h2 42 5) + 1) →
            K h9
          ) else (
            P_Places_full G h7 x1 x2 (h2 14 (tn x1)) (fun (r11 : Int32) (h10 : HP) =>
              ∀ h12 : HP, h12 = up h10 45 (tn (h2 42 5)) r11 →
              ∀ h13 : HP, h13 = up h12 42 5 ((h10 42 5) + 1) →
              K h13
            )
          )
        ) else (
          K h2
        )
      )
    )
  ) else (
    K h
  )) : P_Runs_gatherRun G h x1 x2 x3 K := by
  refine Sp_of_V pf_X4_gatherRun (Nat.le_of_ble_eq_true rfl) rfl ?_
  refine V_aload_n (q := 0) dX4_gatherRun_0 rfl rfl ?_
  refine V_geti f_X4_35 dX4_gatherRun_1 rfl rfl ?_
  refine V_sipush (v := 132) dX4_gatherRun_4 rfl ?_
  refine V_icmp_lt (tgt := 11) dX4_gatherRun_7 (by decide) (fun q => ?_) (fun q => ?_)
  · have t := it_t q t
    refine V_aload_n (q := 0) dX4_gatherRun_11 rfl rfl ?_
    refine V_getr f_X4_27 dX4_gatherRun_12 rfl rfl ?_
    refine V_getr f_X4_66 dX4_gatherRun_15 rfl rfl ?_
    refine V_iload_n (q := 1) dX4_gatherRun_18 rfl rfl ?_
    obtain ⟨n1, t⟩ := t
    refine V_iald dX4_gatherRun_19 rfl n1 ?_
    refine V_istore (L' := [(0, .ref (G.1 42)), (1, .int x1), (2, .int x2), (3, .int x3), (4, .int (h 15 (tn x1)))]) dX4_gatherRun_20 (by decide) rfl rfl ?_
    refine V_aload_n (q := 0) dX4_gatherRun_22 rfl rfl ?_
    refine V_iload_n (q := 1) dX4_gatherRun_23 rfl rfl ?_
    refine V_iload_n (q := 2) dX4_gatherRun_24 rfl rfl ?_
    refine V_iload (q := 4) dX4_gatherRun_25 rfl ?_
    refine V_callV [.int x1, .int x2, .int (h 15 (tn x1))] [] g_X4_gatherRun_X4_setTimes wi_X4_setTimes ws_X4_setTimes dX4_gatherRun_27 rfl rfl rfl rfl rfl (Nat.le_of_ble_eq_true rfl) t (fun _ h2 t => ?_)
    obtain ⟨rfl, t⟩ := t
    refine V_aload_n (q := 0) dX4_gatherRun_30 rfl rfl ?_
    refine V_getr f_X4_21 dX4_gatherRun_31 rfl rfl ?_
    refine V_aload_n (q := 0) dX4_gatherRun_34 rfl rfl ?_
    refine V_geti f_X4_35 dX4_gatherRun_35 rfl rfl ?_
    refine V_bipush (v := 8) dX4_gatherRun_38 rfl ?_
    refine V_imul dX4_gatherRun_40 ?_
    refine V_iload (q := 4) dX4_gatherRun_41 rfl ?_
    refine V_iadd dX4_gatherRun_43 ?_
    refine V_iconst (v := 1) dX4_gatherRun_44 rfl ?_
    refine V_isub dX4_gatherRun_45 ?_
    obtain ⟨n3, t⟩ := t
    refine V_iald dX4_gatherRun_46 rfl n3 ?_
    refine V_iload_n (q := 3) dX4_gatherRun_47 rfl rfl ?_
    refine V_icmp_lt (tgt := 70) dX4_gatherRun_48 (by decide) (fun q => ?_) (fun q => ?_)
    · have t := it_t q t
      exact V_vret rfl dX4_gatherRun_70 t
    · have t := it_f q t
      refine V_aload_n (q := 0) dX4_gatherRun_51 rfl rfl ?_
      refine V_getr f_X4_24 dX4_gatherRun_52 rfl rfl ?_
      refine V_aload_n (q := 0) dX4_gatherRun_55 rfl rfl ?_
      refine V_geti f_X4_35 dX4_gatherRun_56 rfl rfl ?_
      refine V_bipush (v := 8) dX4_gatherRun_59 rfl ?_
      refine V_imul dX4_gatherRun_61 ?_
      obtain ⟨n4, t⟩ := t
      refine V_iald dX4_gatherRun_62 rfl n4 ?_
      refine V_aload_n (q := 0) dX4_gatherRun_63 rfl rfl ?_
      refine V_geti f_X4_39 dX4_gatherRun_64 rfl rfl ?_
      refine V_icmp_lt (tgt := 71) dX4_gatherRun_67 (by decide) (fun q => ?_) (fun q => ?_)
      · have t := it_t q t
        refine V_aload_n (q := 0) dX4_gatherRun_71 rfl rfl ?_
        refine V_getr f_X4_9 dX4_gatherRun_72 rfl rfl ?_
        refine V_aload_n (q := 0) dX4_gatherRun_75 rfl rfl ?_
        refine V_geti f_X4_35 dX4_gatherRun_76 rfl rfl ?_
        refine V_iload_n (q := 1) dX4_gatherRun_79 rfl rfl ?_
        obtain ⟨n6, t⟩ := t
        have t := t _ rfl
        refine V_iast dX4_gatherRun_80 rfl n6 ?_
        refine V_aload_n (q := 0) dX4_gatherRun_81 rfl rfl ?_
        refine V_getr f_X4_15 dX4_gatherRun_82 rfl rfl ?_
        refine V_aload_n (q := 0) dX4_gatherRun_85 rfl rfl ?_
        refine V_geti f_X4_35 dX4_gatherRun_86 rfl rfl ?_
        refine V_iload_n (q := 2) dX4_gatherRun_89 rfl rfl ?_
        have t := t _ rfl
        refine V_iast dX4_gatherRun_90 rfl n6 ?_
        refine V_aload_n (q := 0) dX4_gatherRun_91 rfl rfl ?_
        refine V_getr f_X4_18 dX4_gatherRun_92 rfl rfl ?_
        refine V_aload_n (q := 0) dX4_gatherRun_95 rfl rfl ?_
        refine V_geti f_X4_35 dX4_gatherRun_96 rfl rfl ?_
        refine V_aload_n (q := 0) dX4_gatherRun_99 rfl rfl ?_
        refine V_getr f_X4_27 dX4_gatherRun_100 rfl rfl ?_
        refine V_getr f_X4_80 dX4_gatherRun_103 rfl rfl ?_
        refine V_iload_n (q := 1) dX4_gatherRun_106 rfl rfl ?_
        refine V_iald dX4_gatherRun_107 rfl n1 ?_
        refine V_if_ne (tgt := 115) dX4_gatherRun_108 (by decide) (fun q => ?_) (fun q => ?_)
        · have t := it_f q t
          refine V_aload_n (q := 0) dX4_gatherRun_115 rfl rfl ?_
          refine V_getr f_X4_31 dX4_gatherRun_116 rfl rfl ?_
          refine V_iload_n (q := 1) dX4_gatherRun_119 rfl rfl ?_
          refine V_iload_n (q := 2) dX4_gatherRun_120 rfl rfl ?_
          refine V_aload_n (q := 0) dX4_gatherRun_121 rfl rfl ?_
          refine V_getr f_X4_27 dX4_gatherRun_122 rfl rfl ?_
          refine V_getr f_X4_83 dX4_gatherRun_125 rfl rfl ?_
          refine V_iload_n (q := 1) dX4_gatherRun_128 rfl rfl ?_
          refine V_iald dX4_gatherRun_129 rfl n1 ?_
          refine V_callV [.int x1, .int x2, .int (h2 14 (tn x1))] [.int (h2 42 5), .ref (G.1 45)] g_X4_gatherRun_X3_full wi_X3_full ws_X3_full dX4_gatherRun_130 rfl rfl rfl rfl rfl (Nat.le_of_ble_eq_true rfl) t (fun _ h10 t => ?_)
          obtain ⟨r11, rfl, t⟩ := t
          have t := t _ rfl
          refine V_iast dX4_gatherRun_133 rfl n6 ?_
          refine V_aload_n (q := 0) dX4_gatherRun_134 rfl rfl ?_
          refine V_dup dX4_gatherRun_135 rfl ?_
          refine V_geti f_X4_35 dX4_gatherRun_136 rfl rfl ?_
          refine V_iconst (v := 1) dX4_gatherRun_139 rfl ?_
          refine V_iadd dX4_gatherRun_140 ?_
          have t := t _ rfl
          refine V_put f_X4_35 p_X4_5 dX4_gatherRun_141 rfl rfl ?_
          exact V_vret rfl dX4_gatherRun_144 t
        · have t := it_t q t
          refine V_iconst (v := 0) dX4_gatherRun_111 rfl ?_
          refine V_goto (tgt := 133) dX4_gatherRun_112 (by decide) ?_
          have t := t _ rfl
          refine V_iast dX4_gatherRun_133 rfl n6 ?_
          refine V_aload_n (q := 0) dX4_gatherRun_134 rfl rfl ?_
          refine V_dup dX4_gatherRun_135 rfl ?_
          refine V_geti f_X4_35 dX4_gatherRun_136 rfl rfl ?_
          refine V_iconst (v := 1) dX4_gatherRun_139 rfl ?_
          refine V_iadd dX4_gatherRun_140 ?_
          have t := t _ rfl
          refine V_put f_X4_35 p_X4_5 dX4_gatherRun_141 rfl rfl ?_
          exact V_vret rfl dX4_gatherRun_144 t
      · have t := it_f q t
        exact V_vret rfl dX4_gatherRun_70 t
  · have t := it_f q t
    exact V_vret rfl dX4_gatherRun_10 t
set_option maxRecDepth 20000 in
set_option maxHeartbeats 4000000 in
theorem s_Trips_runsOn_0 (G : GA) (h : HP) (x1 : Int32) (x2 : Int32) (K : Bool → HP → Prop) (t :
  vp_in x1 24 ∧
  vp_in x2 100 ∧
  if (((h 13 (tn x1)) >>> ((h 20 (tn x2)) &&& 31)) &&& 1) = 0 then (
    K false h
  ) else (
    if (((h 21 (tn x2)) >>> (x1 &&& 31)) &&& 1) = 0 then (
      K true h
    ) else (
      K false h
    )
  )) : P_Trips_runsOn G h x1 x2 K := by
  refine Sp_of_V pf_X9_runsOn (Nat.le_of_ble_eq_true rfl) rfl ?_
  refine V_aload_n (q := 0) dX9_runsOn_0 rfl rfl ?_
  refine V_getr f_X9_15 dX9_runsOn_1 rfl rfl ?_
  refine V_iload_n (q := 1) dX9_runsOn_4 rfl rfl ?_
  obtain ⟨n1, t⟩ := t
  refine V_iald dX9_runsOn_5 rfl n1 ?_
  refine V_aload_n (q := 0) dX9_runsOn_6 rfl rfl ?_
  refine V_getr f_X9_36 dX9_runsOn_7 rfl rfl ?_
  refine V_iload_n (q := 2) dX9_runsOn_10 rfl rfl ?_
  obtain ⟨n2, t⟩ := t
  refine V_iald dX9_runsOn_11 rfl n2 ?_
  refine V_ishr dX9_runsOn_12 ?_
  refine V_iconst (v := 1) dX9_runsOn_13 rfl ?_
  refine V_iand dX9_runsOn_14 ?_
  refine V_if_eq (tgt := 35) dX9_runsOn_15 (by decide) (fun q => ?_) (fun q => ?_)
  · have t := it_t q t
    refine V_iconst (v := 0) dX9_runsOn_35 rfl ?_
    exact V_zret (b := false) rfl dX9_runsOn_36 t
  · have t := it_f q t
    refine V_aload_n (q := 0) dX9_runsOn_18 rfl rfl ?_
    refine V_getr f_X9_39 dX9_runsOn_19 rfl rfl ?_
    refine V_iload_n (q := 2) dX9_runsOn_22 rfl rfl ?_
    refine V_iald dX9_runsOn_23 rfl n2 ?_
    refine V_iload_n (q := 1) dX9_runsOn_24 rfl rfl ?_
    refine V_ishr dX9_runsOn_25 ?_
    refine V_iconst (v := 1) dX9_runsOn_26 rfl ?_
    refine V_iand dX9_runsOn_27 ?_
    refine V_if_ne (tgt := 35) dX9_runsOn_28 (by decide) (fun q => ?_) (fun q => ?_)
    · have t := it_f q t
      refine V_iconst (v := 0) dX9_runsOn_35 rfl ?_
      exact V_zret (b := false) rfl dX9_runsOn_36 t
    · have t := it_t q t
      refine V_iconst (v := 1) dX9_runsOn_31 rfl ?_
      refine V_goto (tgt := 36) dX9_runsOn_32 (by decide) ?_
      exact V_zret (b := true) rfl dX9_runsOn_36 t
set_option maxRecDepth 20000 in
set_option maxHeartbeats 4000000 in
theorem s_Runs_gather_0 (G : GA) (h : HP) (x1 : Int32) (x2 : Int32) (K : HP → Prop) (t :
  ∀ h1 : HP, h1 = up h 42 5 0 →
  ∀ h2 : HP, h2 = up h1 42 6 (1440 * (x1 + 2)) →
  P_Math_floorDiv G h2 (x2 - (h 6 5)) 1440 (fun (r4 : Int32) (h3 : HP) =>
    H_Runs_gather_54 G h3 x2 (if (x1 + 1) < 99 then (x1 + 1) else 99) (if 0 < (r4 - 1) then (r4 - 1) else 0) K
  )) : P_Runs_gather G h x1 x2 K := by
  refine Sp_of_V pf_X4_gather (Nat.le_of_ble_eq_true rfl) rfl ?_
  refine V_aload_n (q := 0) dX4_gather_0 rfl rfl ?_
  refine V_iconst (v := 0) dX4_gather_1 rfl ?_
  have t := t _ rfl
  refine V_put f_X4_35 p_X4_5 dX4_gather_2 rfl rfl ?_
  refine V_aload_n (q := 0) dX4_gather_5 rfl rfl ?_
  refine V_sipush (v := 1440) dX4_gather_6 rfl ?_
  refine V_iload_n (q := 1) dX4_gather_9 rfl rfl ?_
  refine V_iconst (v := 2) dX4_gather_10 rfl ?_
  refine V_iadd dX4_gather_11 ?_
  refine V_imul dX4_gather_12 ?_
  have t := t _ rfl
  refine V_put f_X4_39 p_X4_6 dX4_gather_13 rfl rfl ?_
  refine V_iconst (v := 0) dX4_gather_16 rfl ?_
  refine V_iload_n (q := 2) dX4_gather_17 rfl rfl ?_
  refine V_aload_n (q := 0) dX4_gather_18 rfl rfl ?_
  refine V_getr f_X4_27 dX4_gather_19 rfl rfl ?_
  refine V_getr f_X4_42 dX4_gather_22 rfl rfl ?_
  refine V_geti f_X4_48 dX4_gather_25 rfl rfl ?_
  refine V_isub dX4_gather_28 ?_
  refine V_sipush (v := 1440) dX4_gather_29 rfl ?_
  refine V_callS [.int (x2 - (h 6 5)), .int 1440] [.int 0] g_X4_gather_J9_floorDiv_7cf53 wt_J9_floorDiv_7cf53 dX4_gather_32 rfl rfl (Nat.le_of_ble_eq_true rfl) t (fun _ h3 t => ?_)
  obtain ⟨r4, rfl, t⟩ := t
  refine V_iconst (v := 1) dX4_gather_35 rfl ?_
  refine V_isub dX4_gather_36 ?_
  refine V_mmax l_X4_59 w_static_max w_init_math w_code_max (Nat.le_of_ble_eq_true rfl) (Nat.le_of_ble_eq_true rfl) dX4_gather_37 ?_
  refine V_istore_n (L' := [(0, .ref (G.1 42)), (1, .int x1), (2, .int x2), (3, .int (if 0 < (r4 - 1) then (r4 - 1) else 0))]) dX4_gather_40 rfl (by decide) rfl rfl ?_
  refine V_bipush (v := 99) dX4_gather_41 rfl ?_
  refine V_iload_n (q := 1) dX4_gather_43 rfl rfl ?_
  refine V_iconst (v := 1) dX4_gather_44 rfl ?_
  refine V_iadd dX4_gather_45 ?_
  refine V_mmin l_X4_62 w_static_min w_init_math w_code_min (Nat.le_of_ble_eq_true rfl) (Nat.le_of_ble_eq_true rfl) dX4_gather_46 ?_
  refine V_istore (L' := [(0, .ref (G.1 42)), (1, .int x1), (2, .int x2), (3, .int (if 0 < (r4 - 1) then (r4 - 1) else 0)), (4, .int (if (x1 + 1) < 99 then (x1 + 1) else 99))]) dX4_gather_49 (by decide) rfl rfl ?_
  refine V_iload_n (q := 3) dX4_gather_51 rfl rfl ?_
  refine V_istore (L' := [(0, .ref (G.1 42)), (1, .int x1), (2, .int x2), (3, .int (if 0 < (r4 - 1) then (r4 - 1) else 0)), (4, .int (if (x1 + 1) < 99 then (x1 + 1) else 99)), (5, .int (if 0 < (r4 - 1) then (r4 - 1) else 0))]) dX4_gather_52 (by decide) rfl rfl ?_
  refine V_pick (L' := [(0, .ref (G.1 42)), (2, .int x2), (4, .int (if (x1 + 1) < 99 then (x1 + 1) else 99)), (5, .int (if 0 < (r4 - 1) then (r4 - 1) else 0))]) [0, 2, 4, 5] rfl ?_
  exact t
set_option maxRecDepth 20000 in
set_option maxHeartbeats 4000000 in
theorem s_Runs_gather_54 (G : GA) (h : HP) (x2 : Int32) (x4 : Int32) (x5 : Int32) (K : HP → Prop) (t :
  if x4 < x5 then (
    K h
  ) else (
    H_Runs_gather_64 G h x2 x4 x5 0 K
  )) : H_Runs_gather_54 G h x2 x4 x5 K := by
  unfold H_Runs_gather_54
  refine V_iload (q := 3) dX4_gather_54 rfl ?_
  refine V_iload (q := 2) dX4_gather_56 rfl ?_
  refine V_icmp_gt (tgt := 125) dX4_gather_58 (by decide) (fun q => ?_) (fun q => ?_)
  · have t := it_t q t
    exact V_vret rfl dX4_gather_125 t
  · have t := it_f q t
    refine V_iconst (v := 0) dX4_gather_61 rfl ?_
    refine V_istore (L' := [(0, .ref (G.1 42)), (2, .int x2), (4, .int x4), (5, .int x5), (6, .int 0)]) dX4_gather_62 (by decide) rfl rfl ?_
    exact t
set_option maxRecDepth 20000 in
set_option maxHeartbeats 4000000 in
theorem s_Runs_gather_64 (G : GA) (h : HP) (x2 : Int32) (x4 : Int32) (x5 : Int32) (x6 : Int32) (K : HP → Prop) (t :
  if (h 11 11) ≤ x6 then (
    H_Runs_gather_54 G h x2 x4 (x5 + 1) K
  ) else (
    vp_in x6 24 ∧
    if (h 15 (tn x6)) ≤ 1 then (
      H_Runs_gather_64 G h x2 x4 x5 (x6 + 1) K
    ) else (
      P_Trips_runsOn G h x6 x5 (fun (b3 : Bool) (h2 : HP) =>
        if b3 = true then (
          P_Runs_gatherRun G h2 x6 x5 x2 (fun h4 : HP =>
            H_Runs_gather_64 G h4 x2 x4 x5 (x6 + 1) K
          )
        ) else (
          H_Runs_gather_64 G h2 x2 x4 x5 (x6 + 1) K
        )
      )
    )
  )) : H_Runs_gather_64 G h x2 x4 x5 x6 K := by
  unfold H_Runs_gather_64
  refine V_iload (q := 4) dX4_gather_64 rfl ?_
  refine V_aload_n (q := 0) dX4_gather_66 rfl rfl ?_
  refine V_getr f_X4_27 dX4_gather_67 rfl rfl ?_
  refine V_geti f_X4_65 dX4_gather_70 rfl rfl ?_
  refine V_icmp_ge (tgt := 119) dX4_gather_73 (by decide) (fun q => ?_) (fun q => ?_)
  · have t := it_t q t
    refine V_iinc (L' := [(0, .ref (G.1 42)), (2, .int x2), (4, .int x4), (5, .int (x5 + 1)), (6, .int x6)]) (q := 3) (a := 1) dX4_gather_119 rfl rfl (by decide) rfl rfl ?_
    refine V_goto (tgt := 54) dX4_gather_122 (by decide) ?_
    refine V_pick (L' := [(0, .ref (G.1 42)), (2, .int x2), (4, .int x4), (5, .int (x5 + 1))]) [0, 1, 2, 3] rfl ?_
    exact t
  · have t := it_f q t
    refine V_aload_n (q := 0) dX4_gather_76 rfl rfl ?_
    refine V_getr f_X4_27 dX4_gather_77 rfl rfl ?_
    refine V_getr f_X4_66 dX4_gather_80 rfl rfl ?_
    refine V_iload (q := 4) dX4_gather_83 rfl ?_
    obtain ⟨n1, t⟩ := t
    refine V_iald dX4_gather_85 rfl n1 ?_
    refine V_iconst (v := 1) dX4_gather_86 rfl ?_
    refine V_icmp_le (tgt := 113) dX4_gather_87 (by decide) (fun q => ?_) (fun q => ?_)
    · have t := it_t q t
      refine V_iinc (L' := [(0, .ref (G.1 42)), (2, .int x2), (4, .int x4), (5, .int x5), (6, .int (x6 + 1))]) (q := 4) (a := 1) dX4_gather_113 rfl rfl (by decide) rfl rfl ?_
      refine V_goto (tgt := 64) dX4_gather_116 (by decide) ?_
      exact t
    · have t := it_f q t
      refine V_aload_n (q := 0) dX4_gather_90 rfl rfl ?_
      refine V_getr f_X4_27 dX4_gather_91 rfl rfl ?_
      refine V_iload (q := 4) dX4_gather_94 rfl ?_
      refine V_iload (q := 3) dX4_gather_96 rfl ?_
      refine V_callV [.int x6, .int x5] [] g_X4_gather_X9_runsOn wi_X9_runsOn ws_X9_runsOn dX4_gather_98 rfl rfl rfl rfl rfl (Nat.le_of_ble_eq_true rfl) t (fun _ h2 t => ?_)
      obtain ⟨b3, rfl, t⟩ := t
      refine V_ifb_eq (tgt := 113) dX4_gather_101 (by decide) (fun q => ?_) (fun q => ?_)
      · have t := it_f q t
        refine V_iinc (L' := [(0, .ref (G.1 42)), (2, .int x2), (4, .int x4), (5, .int x5), (6, .int (x6 + 1))]) (q := 4) (a := 1) dX4_gather_113 rfl rfl (by decide) rfl rfl ?_
        refine V_goto (tgt := 64) dX4_gather_116 (by decide) ?_
        exact t
      · have t := it_t q t
        refine V_aload_n (q := 0) dX4_gather_104 rfl rfl ?_
        refine V_iload (q := 4) dX4_gather_105 rfl ?_
        refine V_iload (q := 3) dX4_gather_107 rfl ?_
        refine V_iload_n (q := 1) dX4_gather_109 rfl rfl ?_
        refine V_callV [.int x6, .int x5, .int x2] [] g_X4_gather_X4_gatherRun wi_X4_gatherRun ws_X4_gatherRun dX4_gather_110 rfl rfl rfl rfl rfl (Nat.le_of_ble_eq_true rfl) t (fun _ h4 t => ?_)
        obtain ⟨rfl, t⟩ := t
        refine V_iinc (L' := [(0, .ref (G.1 42)), (2, .int x2), (4, .int x4), (5, .int x5), (6, .int (x6 + 1))]) (q := 4) (a := 1) dX4_gather_113 rfl rfl (by decide) rfl rfl ?_
        refine V_goto (tgt := 64) dX4_gather_116 (by decide) ?_
        exact t
set_option maxRecDepth 20000 in
set_option maxHeartbeats 4000000 in
theorem s_Arr_fill_49_0 (G : GA) (h : HP) (x1 : Int32) (K : HP → Prop) (t :
  H_Arr_fill_49_5 G h x1 0 696 K) : P_Arr_fill_49 G h x1 K := by
  refine Sp_of_V pf_J7_fill_53178 (Nat.le_of_ble_eq_true rfl) rfl ?_
  refine V_iconst (v := 0) dJ7_fill_53178_0 rfl ?_
  refine V_istore_n (L' := [(0, .ref (G.1 49)), (1, .int x1), (2, .int 0)]) dJ7_fill_53178_1 rfl (by decide) rfl rfl ?_
  refine V_aload_n (q := 0) dJ7_fill_53178_2 rfl rfl ?_
  refine V_alen (v := 696) dJ7_fill_53178_3 rfl rfl ?_
  refine V_istore_n (L' := [(0, .ref (G.1 49)), (1, .int x1), (2, .int 0), (3, .int 696)]) dJ7_fill_53178_4 rfl (by decide) rfl rfl ?_
  exact t
set_option maxRecDepth 20000 in
set_option maxHeartbeats 4000000 in
theorem s_Arr_fill_49_5 (G : GA) (h : HP) (x1 : Int32) (x2 : Int32) (x3 : Int32) (K : HP → Prop) (t :
  if x3 ≤ x2 then (
    K h
  ) else (
    vp_in x2 696 ∧
    ∀ h1 : HP, h1 = up h 49 (tn x2) x1 →
    H_Arr_fill_49_5 G h1 x1 (x2 + 1) x3 K
  )) : H_Arr_fill_49_5 G h x1 x2 x3 K := by
  unfold H_Arr_fill_49_5
  refine V_iload_n (q := 2) dJ7_fill_53178_5 rfl rfl ?_
  refine V_iload_n (q := 3) dJ7_fill_53178_6 rfl rfl ?_
  refine V_icmp_ge (tgt := 20) dJ7_fill_53178_7 (by decide) (fun q => ?_) (fun q => ?_)
  · have t := it_t q t
    exact V_vret rfl dJ7_fill_53178_20 t
  · have t := it_f q t
    refine V_aload_n (q := 0) dJ7_fill_53178_10 rfl rfl ?_
    refine V_iload_n (q := 2) dJ7_fill_53178_11 rfl rfl ?_
    refine V_iload_n (q := 1) dJ7_fill_53178_12 rfl rfl ?_
    obtain ⟨n2, t⟩ := t
    have t := t _ rfl
    refine V_iast dJ7_fill_53178_13 rfl n2 ?_
    refine V_iinc (L' := [(0, .ref (G.1 49)), (1, .int x1), (2, .int (x2 + 1)), (3, .int x3)]) (q := 2) (a := 1) dJ7_fill_53178_14 rfl rfl (by decide) rfl rfl ?_
    refine V_goto (tgt := 5) dJ7_fill_53178_17 (by decide) ?_
    exact t
set_option maxRecDepth 20000 in
set_option maxHeartbeats 4000000 in
theorem s_Arr_fill_50_0 (G : GA) (h : HP) (x1 : Int32) (K : HP → Prop) (t :
  H_Arr_fill_50_5 G h x1 0 360 K) : P_Arr_fill_50 G h x1 K := by
  refine Sp_of_V pf_J7_fill_53178 (Nat.le_of_ble_eq_true rfl) rfl ?_
  refine V_iconst (v := 0) dJ7_fill_53178_0 rfl ?_
  refine V_istore_n (L' := [(0, .ref (G.1 50)), (1, .int x1), (2, .int 0)]) dJ7_fill_53178_1 rfl (by decide) rfl rfl ?_
  refine V_aload_n (q := 0) dJ7_fill_53178_2 rfl rfl ?_
  refine V_alen (v := 360) dJ7_fill_53178_3 rfl rfl ?_
  refine V_istore_n (L' := [(0, .ref (G.1 50)), (1, .int x1), (2, .int 0), (3, .int 360)]) dJ7_fill_53178_4 rfl (by decide) rfl rfl ?_
  exact t
set_option maxRecDepth 20000 in
set_option maxHeartbeats 4000000 in
theorem s_Arr_fill_50_5 (G : GA) (h : HP) (x1 : Int32) (x2 : Int32) (x3 : Int32) (K : HP → Prop) (t :
  if x3 ≤ x2 then (
    K h
  ) else (
    vp_in x2 360 ∧
    ∀ h1 : HP, h1 = up h 50 (tn x2) x1 →
    H_Arr_fill_50_5 G h1 x1 (x2 + 1) x3 K
  )) : H_Arr_fill_50_5 G h x1 x2 x3 K := by
  unfold H_Arr_fill_50_5
  refine V_iload_n (q := 2) dJ7_fill_53178_5 rfl rfl ?_
  refine V_iload_n (q := 3) dJ7_fill_53178_6 rfl rfl ?_
  refine V_icmp_ge (tgt := 20) dJ7_fill_53178_7 (by decide) (fun q => ?_) (fun q => ?_)
  · have t := it_t q t
    exact V_vret rfl dJ7_fill_53178_20 t
  · have t := it_f q t
    refine V_aload_n (q := 0) dJ7_fill_53178_10 rfl rfl ?_
    refine V_iload_n (q := 2) dJ7_fill_53178_11 rfl rfl ?_
    refine V_iload_n (q := 1) dJ7_fill_53178_12 rfl rfl ?_
    obtain ⟨n2, t⟩ := t
    have t := t _ rfl
    refine V_iast dJ7_fill_53178_13 rfl n2 ?_
    refine V_iinc (L' := [(0, .ref (G.1 50)), (1, .int x1), (2, .int (x2 + 1)), (3, .int x3)]) (q := 2) (a := 1) dJ7_fill_53178_14 rfl rfl (by decide) rfl rfl ?_
    refine V_goto (tgt := 5) dJ7_fill_53178_17 (by decide) ?_
    exact t
set_option maxRecDepth 20000 in
set_option maxHeartbeats 4000000 in
theorem s_Search_getReady_0 (G : GA) (h : HP) (x1 : Int32) (K : HP → Prop) (t :
  H_Search_getReady_2 G h x1 0 K) : P_Search_getReady G h x1 K := by
  refine Sp_of_V pf_X5_getReady (Nat.le_of_ble_eq_true rfl) rfl ?_
  refine V_iconst (v := 0) dX5_getReady_0 rfl ?_
  refine V_istore_n (L' := [(0, .ref (G.1 48)), (1, .int x1), (2, .int 0)]) dX5_getReady_1 rfl (by decide) rfl rfl ?_
  exact t
set_option maxRecDepth 20000 in
set_option maxHeartbeats 4000000 in
theorem s_Search_getReady_2 (G : GA) (h : HP) (x1 : Int32) (x2 : Int32) (K : HP → Prop) (t :
  P_Search_mostFare G h x1 (fun (r2 : Int32) (h1 : HP) =>
    if r2 < x2 then (
      K h1
    ) else (
      P_Search_row G h1 x1 x2 (fun (r4 : Int32) (h3 : HP) =>
        H_Search_getReady_21 G h3 x1 x2 r4 0 K
      )
    )
  )) : H_Search_getReady_2 G h x1 x2 K := by
  unfold H_Search_getReady_2
  refine V_iload_n (q := 2) dX5_getReady_2 rfl rfl ?_
  refine V_aload_n (q := 0) dX5_getReady_3 rfl rfl ?_
  refine V_iload_n (q := 1) dX5_getReady_4 rfl rfl ?_
  refine V_callV [.int x1] [.int x2] g_X5_getReady_X5_mostFare wi_X5_mostFare ws_X5_mostFare dX5_getReady_5 rfl rfl rfl rfl rfl (Nat.le_of_ble_eq_true rfl) t (fun _ h1 t => ?_)
  obtain ⟨r2, rfl, t⟩ := t
  refine V_icmp_gt (tgt := 182) dX5_getReady_8 (by decide) (fun q => ?_) (fun q => ?_)
  · have t := it_t q t
    exact V_vret rfl dX5_getReady_182 t
  · have t := it_f q t
    refine V_aload_n (q := 0) dX5_getReady_11 rfl rfl ?_
    refine V_iload_n (q := 1) dX5_getReady_12 rfl rfl ?_
    refine V_iload_n (q := 2) dX5_getReady_13 rfl rfl ?_
    refine V_callV [.int x1, .int x2] [] g_X5_getReady_X5_row wi_X5_row ws_X5_row dX5_getReady_14 rfl rfl rfl rfl rfl (Nat.le_of_ble_eq_true rfl) t (fun _ h3 t => ?_)
    obtain ⟨r4, rfl, t⟩ := t
    refine V_istore_n (L' := [(0, .ref (G.1 48)), (1, .int x1), (2, .int x2), (3, .int r4)]) dX5_getReady_17 rfl (by decide) rfl rfl ?_
    refine V_iconst (v := 0) dX5_getReady_18 rfl ?_
    refine V_istore (L' := [(0, .ref (G.1 48)), (1, .int x1), (2, .int x2), (3, .int r4), (4, .int 0)]) dX5_getReady_19 (by decide) rfl rfl ?_
    exact t
set_option maxRecDepth 20000 in
set_option maxHeartbeats 4000000 in
theorem s_Search_getReady_21 (G : GA) (h : HP) (x1 : Int32) (x2 : Int32) (x3 : Int32) (x4 : Int32) (K : HP → Prop) (t :
  if (h 2 3) ≤ x4 then (
    H_Search_getReady_93 G h x1 x2 x3 0 K
  ) else (
    vp_in (x3 + x4) 696 ∧
    if 1000000000 ≤ (h 49 (tn (x3 + x4))) then (
      H_Search_getReady_21 G h x1 x2 x3 (x4 + 1) K
    ) else (
      if x1 = 0 then (
        vp_in (x3 + x4) 360 ∧
        ∀ h2 : HP, h2 = up h 50 (tn (x3 + x4)) ((h 49 (tn (x3 + x4))) + 0) →
        H_Search_getReady_21 G h2 x1 x2 x3 (x4 + 1) K
      ) else (
        vp_in x4 12 ∧
        vp_in (x3 + x4) 360 ∧
        ∀ h5 : HP, h5 = up h 50 (tn (x3 + x4)) ((h 49 (tn (x3 + x4))) + (h 3 (tn x4))) →
        H_Search_getReady_21 G h5 x1 x2 x3 (x4 + 1) K
      )
    )
  )) : H_Search_getReady_21 G h x1 x2 x3 x4 K := by
  unfold H_Search_getReady_21
  refine V_iload (q := 4) dX5_getReady_21 rfl ?_
  refine V_aload_n (q := 0) dX5_getReady_23 rfl rfl ?_
  refine V_getr f_X5_27 dX5_getReady_24 rfl rfl ?_
  refine V_geti f_X5_74 dX5_getReady_27 rfl rfl ?_
  refine V_icmp_ge (tgt := 90) dX5_getReady_30 (by decide) (fun q => ?_) (fun q => ?_)
  · have t := it_t q t
    refine V_iconst (v := 0) dX5_getReady_90 rfl ?_
    refine V_istore (L' := [(0, .ref (G.1 48)), (1, .int x1), (2, .int x2), (3, .int x3), (4, .int 0)]) dX5_getReady_91 (by decide) rfl rfl ?_
    exact t
  · have t := it_f q t
    refine V_aload_n (q := 0) dX5_getReady_33 rfl rfl ?_
    refine V_getr f_X5_9 dX5_getReady_34 rfl rfl ?_
    refine V_iload_n (q := 3) dX5_getReady_37 rfl rfl ?_
    refine V_iload (q := 4) dX5_getReady_38 rfl ?_
    refine V_iadd dX5_getReady_40 ?_
    obtain ⟨n1, t⟩ := t
    refine V_iald dX5_getReady_41 rfl n1 ?_
    refine V_ldc (v := 1000000000) dX5_getReady_42 k_X5_50 ?_
    refine V_icmp_ge (tgt := 84) dX5_getReady_44 (by decide) (fun q => ?_) (fun q => ?_)
    · have t := it_t q t
      refine V_iinc (L' := [(0, .ref (G.1 48)), (1, .int x1), (2, .int x2), (3, .int x3), (4, .int (x4 + 1))]) (q := 4) (a := 1) dX5_getReady_84 rfl rfl (by decide) rfl rfl ?_
      refine V_goto (tgt := 21) dX5_getReady_87 (by decide) ?_
      exact t
    · have t := it_f q t
      refine V_aload_n (q := 0) dX5_getReady_47 rfl rfl ?_
      refine V_getr f_X5_15 dX5_getReady_48 rfl rfl ?_
      refine V_iload_n (q := 3) dX5_getReady_51 rfl rfl ?_
      refine V_iload (q := 4) dX5_getReady_52 rfl ?_
      refine V_iadd dX5_getReady_54 ?_
      refine V_aload_n (q := 0) dX5_getReady_55 rfl rfl ?_
      refine V_getr f_X5_9 dX5_getReady_56 rfl rfl ?_
      refine V_iload_n (q := 3) dX5_getReady_59 rfl rfl ?_
      refine V_iload (q := 4) dX5_getReady_60 rfl ?_
      refine V_iadd dX5_getReady_62 ?_
      refine V_iald dX5_getReady_63 rfl n1 ?_
      refine V_iload_n (q := 1) dX5_getReady_64 rfl rfl ?_
      refine V_if_ne (tgt := 72) dX5_getReady_65 (by decide) (fun q => ?_) (fun q => ?_)
      · have t := it_f q t
        refine V_aload_n (q := 0) dX5_getReady_72 rfl rfl ?_
        refine V_getr f_X5_27 dX5_getReady_73 rfl rfl ?_
        refine V_getr f_X5_117 dX5_getReady_76 rfl rfl ?_
        refine V_iload (q := 4) dX5_getReady_79 rfl ?_
        obtain ⟨n4, t⟩ := t
        refine V_iald dX5_getReady_81 rfl n4 ?_
        refine V_iadd dX5_getReady_82 ?_
        obtain ⟨n6, t⟩ := t
        have t := t _ rfl
        refine V_iast dX5_getReady_83 rfl n6 ?_
        refine V_iinc (L' := [(0, .ref (G.1 48)), (1, .int x1), (2, .int x2), (3, .int x3), (4, .int (x4 + 1))]) (q := 4) (a := 1) dX5_getReady_84 rfl rfl (by decide) rfl rfl ?_
        refine V_goto (tgt := 21) dX5_getReady_87 (by decide) ?_
        exact t
      · have t := it_t q t
        refine V_iconst (v := 0) dX5_getReady_68 rfl ?_
        refine V_goto (tgt := 82) dX5_getReady_69 (by decide) ?_
        refine V_iadd dX5_getReady_82 ?_
        obtain ⟨n3, t⟩ := t
        have t := t _ rfl
        refine V_iast dX5_getReady_83 rfl n3 ?_
        refine V_iinc (L' := [(0, .ref (G.1 48)), (1, .int x1), (2, .int x2), (3, .int x3), (4, .int (x4 + 1))]) (q := 4) (a := 1) dX5_getReady_84 rfl rfl (by decide) rfl rfl ?_
        refine V_goto (tgt := 21) dX5_getReady_87 (by decide) ?_
        exact t
set_option maxRecDepth 20000 in
set_option maxHeartbeats 4000000 in
theorem s_Search_getReady_93 (G : GA) (h : HP) (x1 : Int32) (x2 : Int32) (x3 : Int32) (x4 : Int32) (K : HP → Prop) (t :
  if (h 22 8) ≤ x4 then (
    H_Search_getReady_2 G h x1 (x2 + 1) K
  ) else (
    vp_in x4 20 ∧
    vp_in (x3 + (h 23 (tn x4))) 696 ∧
    P_Walks_endsAt G h x4 (h 49 (tn (x3 + (h 23 (tn x4))))) (h 48 9) (fun (r4 : Int32) (h3 : HP) =>
      vp_in (x3 + (h 24 (tn x4))) 360 ∧
      ∀ h6 : HP, h6 = up h3 50 (tn (x3 + (h 24 (tn x4)))) (if r4 < (h3 50 (tn (x3 + (h 24 (tn x4))))) then r4 else (h3 50 (tn (x3 + (h 24 (tn x4)))))) →
      H_Search_getReady_93 G h6 x1 x2 x3 (x4 + 1) K
    )
  )) : H_Search_getReady_93 G h x1 x2 x3 x4 K := by
  unfold H_Search_getReady_93
  refine V_iload (q := 4) dX5_getReady_93 rfl ?_
  refine V_aload_n (q := 0) dX5_getReady_95 rfl rfl ?_
  refine V_getr f_X5_35 dX5_getReady_96 rfl rfl ?_
  refine V_geti f_X5_86 dX5_getReady_99 rfl rfl ?_
  refine V_icmp_ge (tgt := 176) dX5_getReady_102 (by decide) (fun q => ?_) (fun q => ?_)
  · have t := it_t q t
    refine V_iinc (L' := [(0, .ref (G.1 48)), (1, .int x1), (2, .int (x2 + 1)), (3, .int x3), (4, .int x4)]) (q := 2) (a := 1) dX5_getReady_176 rfl rfl (by decide) rfl rfl ?_
    refine V_goto (tgt := 2) dX5_getReady_179 (by decide) ?_
    refine V_pick (L' := [(0, .ref (G.1 48)), (1, .int x1), (2, .int (x2 + 1))]) [0, 1, 2] rfl ?_
    exact t
  · have t := it_f q t
    refine V_iload_n (q := 3) dX5_getReady_105 rfl rfl ?_
    refine V_aload_n (q := 0) dX5_getReady_106 rfl rfl ?_
    refine V_getr f_X5_35 dX5_getReady_107 rfl rfl ?_
    refine V_getr f_X5_99 dX5_getReady_110 rfl rfl ?_
    refine V_iload (q := 4) dX5_getReady_113 rfl ?_
    obtain ⟨n1, t⟩ := t
    refine V_iald dX5_getReady_115 rfl n1 ?_
    refine V_iadd dX5_getReady_116 ?_
    refine V_istore (L' := [(0, .ref (G.1 48)), (1, .int x1), (2, .int x2), (3, .int x3), (4, .int x4), (5, .int (x3 + (h 24 (tn x4))))]) dX5_getReady_117 (by decide) rfl rfl ?_
    refine V_aload_n (q := 0) dX5_getReady_119 rfl rfl ?_
    refine V_getr f_X5_35 dX5_getReady_120 rfl rfl ?_
    refine V_iload (q := 4) dX5_getReady_123 rfl ?_
    refine V_aload_n (q := 0) dX5_getReady_125 rfl rfl ?_
    refine V_getr f_X5_9 dX5_getReady_126 rfl rfl ?_
    refine V_iload_n (q := 3) dX5_getReady_129 rfl rfl ?_
    refine V_aload_n (q := 0) dX5_getReady_130 rfl rfl ?_
    refine V_getr f_X5_35 dX5_getReady_131 rfl rfl ?_
    refine V_getr f_X5_89 dX5_getReady_134 rfl rfl ?_
    refine V_iload (q := 4) dX5_getReady_137 rfl ?_
    refine V_iald dX5_getReady_139 rfl n1 ?_
    refine V_iadd dX5_getReady_140 ?_
    obtain ⟨n2, t⟩ := t
    refine V_iald dX5_getReady_141 rfl n2 ?_
    refine V_aload_n (q := 0) dX5_getReady_142 rfl rfl ?_
    refine V_geti f_X5_43 dX5_getReady_143 rfl rfl ?_
    refine V_callV [.int x4, .int (h 49 (tn (x3 + (h 23 (tn x4))))), .int (h 48 9)] [] g_X5_getReady_X10_endsAt wi_X10_endsAt ws_X10_endsAt dX5_getReady_146 rfl rfl rfl rfl rfl (Nat.le_of_ble_eq_true rfl) t (fun _ h3 t => ?_)
    obtain ⟨r4, rfl, t⟩ := t
    refine V_istore (L' := [(0, .ref (G.1 48)), (1, .int x1), (2, .int x2), (3, .int x3), (4, .int x4), (5, .int (x3 + (h 24 (tn x4)))), (6, .int r4)]) dX5_getReady_149 (by decide) rfl rfl ?_
    refine V_aload_n (q := 0) dX5_getReady_151 rfl rfl ?_
    refine V_getr f_X5_15 dX5_getReady_152 rfl rfl ?_
    refine V_iload (q := 5) dX5_getReady_155 rfl ?_
    refine V_aload_n (q := 0) dX5_getReady_157 rfl rfl ?_
    refine V_getr f_X5_15 dX5_getReady_158 rfl rfl ?_
    refine V_iload (q := 5) dX5_getReady_161 rfl ?_
    obtain ⟨n5, t⟩ := t
    refine V_iald dX5_getReady_163 rfl n5 ?_
    refine V_iload (q := 6) dX5_getReady_164 rfl ?_
    refine V_mmin l_X5_81 w_static_min w_init_math w_code_min (Nat.le_of_ble_eq_true rfl) (Nat.le_of_ble_eq_true rfl) dX5_getReady_166 ?_
    have t := t _ rfl
    refine V_iast dX5_getReady_169 rfl n5 ?_
    refine V_iinc (L' := [(0, .ref (G.1 48)), (1, .int x1), (2, .int x2), (3, .int x3), (4, .int (x4 + 1)), (5, .int (x3 + (h 24 (tn x4)))), (6, .int r4)]) (q := 4) (a := 1) dX5_getReady_170 rfl rfl (by decide) rfl rfl ?_
    refine V_goto (tgt := 93) dX5_getReady_173 (by decide) ?_
    refine V_pick (L' := [(0, .ref (G.1 48)), (1, .int x1), (2, .int x2), (3, .int x3), (4, .int (x4 + 1))]) [0, 1, 2, 3, 4] rfl ?_
    exact t
set_option maxRecDepth 20000 in
set_option maxHeartbeats 4000000 in
theorem s_Arr_fill_53_0 (G : GA) (h : HP) (x1 : Int32) (K : HP → Prop) (t :
  H_Arr_fill_53_5 G h x1 0 4 K) : P_Arr_fill_53 G h x1 K := by
  refine Sp_of_V pf_J7_fill_53178 (Nat.le_of_ble_eq_true rfl) rfl ?_
  refine V_iconst (v := 0) dJ7_fill_53178_0 rfl ?_
  refine V_istore_n (L' := [(0, .ref (G.1 53)), (1, .int x1), (2, .int 0)]) dJ7_fill_53178_1 rfl (by decide) rfl rfl ?_
  refine V_aload_n (q := 0) dJ7_fill_53178_2 rfl rfl ?_
  refine V_alen (v := 4) dJ7_fill_53178_3 rfl rfl ?_
  refine V_istore_n (L' := [(0, .ref (G.1 53)), (1, .int x1), (2, .int 0), (3, .int 4)]) dJ7_fill_53178_4 rfl (by decide) rfl rfl ?_
  exact t
set_option maxRecDepth 20000 in
set_option maxHeartbeats 4000000 in
theorem s_Arr_fill_53_5 (G : GA) (h : HP) (x1 : Int32) (x2 : Int32) (x3 : Int32) (K : HP → Prop) (t :
  if x3 ≤ x2 then (
    K h
  ) else (
    vp_in x2 4 ∧
    ∀ h1 : HP, h1 = up h 53 (tn x2) x1 →
    H_Arr_fill_53_5 G h1 x1 (x2 + 1) x3 K
  )) : H_Arr_fill_53_5 G h x1 x2 x3 K := by
  unfold H_Arr_fill_53_5
  refine V_iload_n (q := 2) dJ7_fill_53178_5 rfl rfl ?_
  refine V_iload_n (q := 3) dJ7_fill_53178_6 rfl rfl ?_
  refine V_icmp_ge (tgt := 20) dJ7_fill_53178_7 (by decide) (fun q => ?_) (fun q => ?_)
  · have t := it_t q t
    exact V_vret rfl dJ7_fill_53178_20 t
  · have t := it_f q t
    refine V_aload_n (q := 0) dJ7_fill_53178_10 rfl rfl ?_
    refine V_iload_n (q := 2) dJ7_fill_53178_11 rfl rfl ?_
    refine V_iload_n (q := 1) dJ7_fill_53178_12 rfl rfl ?_
    obtain ⟨n2, t⟩ := t
    have t := t _ rfl
    refine V_iast dJ7_fill_53178_13 rfl n2 ?_
    refine V_iinc (L' := [(0, .ref (G.1 53)), (1, .int x1), (2, .int (x2 + 1)), (3, .int x3)]) (q := 2) (a := 1) dJ7_fill_53178_14 rfl rfl (by decide) rfl rfl ?_
    refine V_goto (tgt := 5) dJ7_fill_53178_17 (by decide) ?_
    exact t
set_option maxRecDepth 20000 in
set_option maxHeartbeats 4000000 in
theorem s_Search_faresTo_0 (G : GA) (h : HP) (x1 : Int32) (K : Int32 → HP → Prop) (t :
  H_Search_faresTo_4 G h x1 0 0 K) : P_Search_faresTo G h x1 K := by
  refine Sp_of_V pf_X5_faresTo (Nat.le_of_ble_eq_true rfl) rfl ?_
  refine V_iconst (v := 0) dX5_faresTo_0 rfl ?_
  refine V_istore_n (L' := [(0, .ref (G.1 48)), (1, .int x1), (2, .int 0)]) dX5_faresTo_1 rfl (by decide) rfl rfl ?_
  refine V_iconst (v := 0) dX5_faresTo_2 rfl ?_
  refine V_istore_n (L' := [(0, .ref (G.1 48)), (1, .int x1), (2, .int 0), (3, .int 0)]) dX5_faresTo_3 rfl (by decide) rfl rfl ?_
  exact t
set_option maxRecDepth 20000 in
set_option maxHeartbeats 4000000 in
theorem s_Search_faresTo_4 (G : GA) (h : HP) (x1 : Int32) (x2 : Int32) (x3 : Int32) (K : Int32 → HP → Prop) (t :
  if 4 ≤ x3 then (
    K x2 h
  ) else (
    vp_in x3 4 ∧
    if (h 48 10) = 0 then (
      H_Search_faresTo_4 G h x1 (x2 ||| ((h 53 (tn x3)) <<< (0 &&& 31))) (x3 + 1) K
    ) else (
      vp_in ((x3 * 4) + x1) 16 ∧
      ∀ v3 : Int32, v3 = (x2 ||| ((h 53 (tn x3)) <<< ((h 5 (tn ((x3 * 4) + x1))) &&& 31))) →
      H_Search_faresTo_4 G h x1 v3 (x3 + 1) K
    )
  )) : H_Search_faresTo_4 G h x1 x2 x3 K := by
  unfold H_Search_faresTo_4
  refine V_iload_n (q := 3) dX5_faresTo_4 rfl rfl ?_
  refine V_iconst (v := 4) dX5_faresTo_5 rfl ?_
  refine V_icmp_ge (tgt := 49) dX5_faresTo_6 (by decide) (fun q => ?_) (fun q => ?_)
  · have t := it_t q t
    refine V_iload_n (q := 2) dX5_faresTo_49 rfl rfl ?_
    exact V_iret rfl dX5_faresTo_50 t
  · have t := it_f q t
    refine V_iload_n (q := 2) dX5_faresTo_9 rfl rfl ?_
    refine V_aload_n (q := 0) dX5_faresTo_10 rfl rfl ?_
    refine V_getr f_X5_24 dX5_faresTo_11 rfl rfl ?_
    refine V_iload_n (q := 3) dX5_faresTo_14 rfl rfl ?_
    obtain ⟨n1, t⟩ := t
    refine V_iald dX5_faresTo_15 rfl n1 ?_
    refine V_aload_n (q := 0) dX5_faresTo_16 rfl rfl ?_
    refine V_geti f_X5_47 dX5_faresTo_17 rfl rfl ?_
    refine V_if_ne (tgt := 27) dX5_faresTo_20 (by decide) (fun q => ?_) (fun q => ?_)
    · have t := it_f q t
      refine V_aload_n (q := 0) dX5_faresTo_27 rfl rfl ?_
      refine V_getr f_X5_27 dX5_faresTo_28 rfl rfl ?_
      refine V_getr f_X5_152 dX5_faresTo_31 rfl rfl ?_
      refine V_iload_n (q := 3) dX5_faresTo_34 rfl rfl ?_
      refine V_iconst (v := 4) dX5_faresTo_35 rfl ?_
      refine V_imul dX5_faresTo_36 ?_
      refine V_iload_n (q := 1) dX5_faresTo_37 rfl rfl ?_
      refine V_iadd dX5_faresTo_38 ?_
      obtain ⟨n2, t⟩ := t
      refine V_iald dX5_faresTo_39 rfl n2 ?_
      refine V_ishl dX5_faresTo_40 ?_
      refine V_ior dX5_faresTo_41 ?_
      have t := t _ rfl
      refine V_istore_n (L' := [(0, .ref (G.1 48)), (1, .int x1), (2, .int (x2 ||| ((h 53 (tn x3)) <<< ((h 5 (tn ((x3 * 4) + x1))) &&& 31)))), (3, .int x3)]) dX5_faresTo_42 rfl (by decide) rfl rfl ?_
      refine V_iinc (L' := [(0, .ref (G.1 48)), (1, .int x1), (2, .int (x2 ||| ((h 53 (tn x3)) <<< ((h 5 (tn ((x3 * 4) + x1))) &&& 31)))), (3, .int (x3 + 1))]) (q := 3) (a := 1) dX5_faresTo_43 rfl rfl (by decide) rfl rfl ?_
      refine V_goto (tgt := 4) dX5_faresTo_46 (by decide) ?_
      exact t
    · have t := it_t q t
      refine V_iconst (v := 0) dX5_faresTo_23 rfl ?_
      refine V_goto (tgt := 40) dX5_faresTo_24 (by decide) ?_
      refine V_ishl dX5_faresTo_40 ?_
      refine V_ior dX5_faresTo_41 ?_
      refine V_istore_n (L' := [(0, .ref (G.1 48)), (1, .int x1), (2, .int (x2 ||| ((h 53 (tn x3)) <<< (0 &&& 31)))), (3, .int x3)]) dX5_faresTo_42 rfl (by decide) rfl rfl ?_
      refine V_iinc (L' := [(0, .ref (G.1 48)), (1, .int x1), (2, .int (x2 ||| ((h 53 (tn x3)) <<< (0 &&& 31)))), (3, .int (x3 + 1))]) (q := 3) (a := 1) dX5_faresTo_43 rfl rfl (by decide) rfl rfl ?_
      refine V_goto (tgt := 4) dX5_faresTo_46 (by decide) ?_
      exact t
set_option maxRecDepth 20000 in
set_option maxHeartbeats 4000000 in
theorem s_Search_getOff_0 (G : GA) (h : HP) (x1 : Int32) (x2 : Int32) (x3 : Int32) (K : HP → Prop) (t :
  vp_in x2 132 ∧
  vp_in (((h 43 (tn x2)) * 8) + x3) 192 ∧
  vp_in ((x2 * 8) + x3) 1056 ∧
  if (h 42 6) ≤ (h 46 (tn ((x2 * 8) + x3))) then (
    H_Search_getOff_75 G h x1 (h 17 (tn (((h 43 (tn x2)) * 8) + x3))) (h 46 (tn ((x2 * 8) + x3))) 0 0 K
  ) else (
    vp_in (h 17 (tn (((h 43 (tn x2)) * 8) + x3))) 12 ∧
    P_Search_faresTo G h (h 4 (tn (h 17 (tn (((h 43 (tn x2)) * 8) + x3))))) (fun (r6 : Int32) (h5 : HP) =>
      H_Search_getOff_75 G h5 x1 (h 17 (tn (((h 43 (tn x2)) * 8) + x3))) (h 46 (tn ((x2 * 8) + x3))) r6 0 K
    )
  )) : P_Search_getOff G h x1 x2 x3 K := by
  refine Sp_of_V pf_X5_getOff (Nat.le_of_ble_eq_true rfl) rfl ?_
  refine V_aload_n (q := 0) dX5_getOff_0 rfl rfl ?_
  refine V_getr f_X5_31 dX5_getOff_1 rfl rfl ?_
  refine V_getr f_X5_140 dX5_getOff_4 rfl rfl ?_
  refine V_aload_n (q := 0) dX5_getOff_7 rfl rfl ?_
  refine V_getr f_X5_39 dX5_getOff_8 rfl rfl ?_
  refine V_getr f_X5_120 dX5_getOff_11 rfl rfl ?_
  refine V_iload_n (q := 2) dX5_getOff_14 rfl rfl ?_
  obtain ⟨n1, t⟩ := t
  refine V_iald dX5_getOff_15 rfl n1 ?_
  refine V_bipush (v := 8) dX5_getOff_16 rfl ?_
  refine V_imul dX5_getOff_18 ?_
  refine V_iload_n (q := 3) dX5_getOff_19 rfl rfl ?_
  refine V_iadd dX5_getOff_20 ?_
  obtain ⟨n2, t⟩ := t
  refine V_iald dX5_getOff_21 rfl n2 ?_
  refine V_istore (L' := [(0, .ref (G.1 48)), (1, .int x1), (2, .int x2), (3, .int x3), (4, .int (h 17 (tn (((h 43 (tn x2)) * 8) + x3))))]) dX5_getOff_22 (by decide) rfl rfl ?_
  refine V_aload_n (q := 0) dX5_getOff_24 rfl rfl ?_
  refine V_getr f_X5_39 dX5_getOff_25 rfl rfl ?_
  refine V_getr f_X5_143 dX5_getOff_28 rfl rfl ?_
  refine V_iload_n (q := 2) dX5_getOff_31 rfl rfl ?_
  refine V_bipush (v := 8) dX5_getOff_32 rfl ?_
  refine V_imul dX5_getOff_34 ?_
  refine V_iload_n (q := 3) dX5_getOff_35 rfl rfl ?_
  refine V_iadd dX5_getOff_36 ?_
  obtain ⟨n3, t⟩ := t
  refine V_iald dX5_getOff_37 rfl n3 ?_
  refine V_istore (L' := [(0, .ref (G.1 48)), (1, .int x1), (2, .int x2), (3, .int x3), (4, .int (h 17 (tn (((h 43 (tn x2)) * 8) + x3)))), (5, .int (h 46 (tn ((x2 * 8) + x3))))]) dX5_getOff_38 (by decide) rfl rfl ?_
  refine V_iload (q := 5) dX5_getOff_40 rfl ?_
  refine V_aload_n (q := 0) dX5_getOff_42 rfl rfl ?_
  refine V_getr f_X5_39 dX5_getOff_43 rfl rfl ?_
  refine V_geti f_X5_96 dX5_getOff_46 rfl rfl ?_
  refine V_icmp_ge (tgt := 69) dX5_getOff_49 (by decide) (fun q => ?_) (fun q => ?_)
  · have t := it_t q t
    refine V_iconst (v := 0) dX5_getOff_69 rfl ?_
    refine V_istore (L' := [(0, .ref (G.1 48)), (1, .int x1), (2, .int x2), (3, .int x3), (4, .int (h 17 (tn (((h 43 (tn x2)) * 8) + x3)))), (5, .int (h 46 (tn ((x2 * 8) + x3)))), (6, .int 0)]) dX5_getOff_70 (by decide) rfl rfl ?_
    refine V_iconst (v := 0) dX5_getOff_72 rfl ?_
    refine V_istore (L' := [(0, .ref (G.1 48)), (1, .int x1), (2, .int x2), (3, .int x3), (4, .int (h 17 (tn (((h 43 (tn x2)) * 8) + x3)))), (5, .int (h 46 (tn ((x2 * 8) + x3)))), (6, .int 0), (7, .int 0)]) dX5_getOff_73 (by decide) rfl rfl ?_
    refine V_pick (L' := [(0, .ref (G.1 48)), (1, .int x1), (4, .int (h 17 (tn (((h 43 (tn x2)) * 8) + x3)))), (5, .int (h 46 (tn ((x2 * 8) + x3)))), (6, .int 0), (7, .int 0)]) [0, 1, 4, 5, 6, 7] rfl ?_
    exact t
  · have t := it_f q t
    refine V_aload_n (q := 0) dX5_getOff_52 rfl rfl ?_
    refine V_aload_n (q := 0) dX5_getOff_53 rfl rfl ?_
    refine V_getr f_X5_27 dX5_getOff_54 rfl rfl ?_
    refine V_getr f_X5_146 dX5_getOff_57 rfl rfl ?_
    refine V_iload (q := 4) dX5_getOff_60 rfl ?_
    obtain ⟨n4, t⟩ := t
    refine V_iald dX5_getOff_62 rfl n4 ?_
    refine V_callV [.int (h 4 (tn (h 17 (tn (((h 43 (tn x2)) * 8) + x3)))))] [] g_X5_getOff_X5_faresTo wi_X5_faresTo ws_X5_faresTo dX5_getOff_63 rfl rfl rfl rfl rfl (Nat.le_of_ble_eq_true rfl) t (fun _ h5 t => ?_)
    obtain ⟨r6, rfl, t⟩ := t
    refine V_goto (tgt := 70) dX5_getOff_66 (by decide) ?_
    refine V_istore (L' := [(0, .ref (G.1 48)), (1, .int x1), (2, .int x2), (3, .int x3), (4, .int (h 17 (tn (((h 43 (tn x2)) * 8) + x3)))), (5, .int (h 46 (tn ((x2 * 8) + x3)))), (6, .int r6)]) dX5_getOff_70 (by decide) rfl rfl ?_
    refine V_iconst (v := 0) dX5_getOff_72 rfl ?_
    refine V_istore (L' := [(0, .ref (G.1 48)), (1, .int x1), (2, .int x2), (3, .int x3), (4, .int (h 17 (tn (((h 43 (tn x2)) * 8) + x3)))), (5, .int (h 46 (tn ((x2 * 8) + x3)))), (6, .int r6), (7, .int 0)]) dX5_getOff_73 (by decide) rfl rfl ?_
    refine V_pick (L' := [(0, .ref (G.1 48)), (1, .int x1), (4, .int (h 17 (tn (((h 43 (tn x2)) * 8) + x3)))), (5, .int (h 46 (tn ((x2 * 8) + x3)))), (6, .int r6), (7, .int 0)]) [0, 1, 4, 5, 6, 7] rfl ?_
    exact t
set_option maxRecDepth 20000 in
set_option maxHeartbeats 4000000 in
theorem s_Search_getOff_75 (G : GA) (h : HP) (x1 : Int32) (x4 : Int32) (x5 : Int32) (x6 : Int32) (x7 : Int32) (K : HP → Prop) (t :
  if ((Int32.toUInt32 x6 >>> (Int32.toUInt32 x7 &&& Int32.toUInt32 31)).toInt32) = 0 then (
    K h
  ) else (
    P_Search_mostFare G h x1 (fun (r2 : Int32) (h1 : HP) =>
      if r2 < x7 then (
        K h1
      ) else (
        if ((x6 >>> (x7 &&& 31)) &&& 1) = 0 then (
          H_Search_getOff_75 G h1 x1 x4 x5 x6 (x7 + 1) K
        ) else (
          P_Search_row G h1 x1 x7 (fun (r4 : Int32) (h3 : HP) =>
            vp_in (r4 + x4) 696 ∧
            ∀ h6 : HP, h6 = up h3 49 (tn (r4 + x4)) (if x5 < (h3 49 (tn (r4 + x4))) then x5 else (h3 49 (tn (r4 + x4)))) →
            H_Search_getOff_75 G h6 x1 x4 x5 x6 (x7 + 1) K
          )
        )
      )
    )
  )) : H_Search_getOff_75 G h x1 x4 x5 x6 x7 K := by
  unfold H_Search_getOff_75
  refine V_iload (q := 4) dX5_getOff_75 rfl ?_
  refine V_iload (q := 5) dX5_getOff_77 rfl ?_
  refine V_iushr dX5_getOff_79 ?_
  refine V_if_eq (tgt := 140) dX5_getOff_80 (by decide) (fun q => ?_) (fun q => ?_)
  · have t := it_t q t
    exact V_vret rfl dX5_getOff_140 t
  · have t := it_f q t
    refine V_iload (q := 5) dX5_getOff_83 rfl ?_
    refine V_aload_n (q := 0) dX5_getOff_85 rfl rfl ?_
    refine V_iload_n (q := 1) dX5_getOff_86 rfl rfl ?_
    refine V_callV [.int x1] [.int x7] g_X5_getOff_X5_mostFare wi_X5_mostFare ws_X5_mostFare dX5_getOff_87 rfl rfl rfl rfl rfl (Nat.le_of_ble_eq_true rfl) t (fun _ h1 t => ?_)
    obtain ⟨r2, rfl, t⟩ := t
    refine V_icmp_gt (tgt := 140) dX5_getOff_90 (by decide) (fun q => ?_) (fun q => ?_)
    · have t := it_t q t
      exact V_vret rfl dX5_getOff_140 t
    · have t := it_f q t
      refine V_iload (q := 4) dX5_getOff_93 rfl ?_
      refine V_iload (q := 5) dX5_getOff_95 rfl ?_
      refine V_ishr dX5_getOff_97 ?_
      refine V_iconst (v := 1) dX5_getOff_98 rfl ?_
      refine V_iand dX5_getOff_99 ?_
      refine V_if_eq (tgt := 134) dX5_getOff_100 (by decide) (fun q => ?_) (fun q => ?_)
      · have t := it_t q t
        refine V_iinc (L' := [(0, .ref (G.1 48)), (1, .int x1), (4, .int x4), (5, .int x5), (6, .int x6), (7, .int (x7 + 1))]) (q := 5) (a := 1) dX5_getOff_134 rfl rfl (by decide) rfl rfl ?_
        refine V_goto (tgt := 75) dX5_getOff_137 (by decide) ?_
        exact t
      · have t := it_f q t
        refine V_aload_n (q := 0) dX5_getOff_103 rfl rfl ?_
        refine V_iload_n (q := 1) dX5_getOff_104 rfl rfl ?_
        refine V_iload (q := 5) dX5_getOff_105 rfl ?_
        refine V_callV [.int x1, .int x7] [] g_X5_getOff_X5_row wi_X5_row ws_X5_row dX5_getOff_107 rfl rfl rfl rfl rfl (Nat.le_of_ble_eq_true rfl) t (fun _ h3 t => ?_)
        obtain ⟨r4, rfl, t⟩ := t
        refine V_iload (q := 2) dX5_getOff_110 rfl ?_
        refine V_iadd dX5_getOff_112 ?_
        refine V_istore (L' := [(0, .ref (G.1 48)), (1, .int x1), (4, .int x4), (5, .int x5), (6, .int x6), (7, .int x7), (8, .int (r4 + x4))]) dX5_getOff_113 (by decide) rfl rfl ?_
        refine V_aload_n (q := 0) dX5_getOff_115 rfl rfl ?_
        refine V_getr f_X5_9 dX5_getOff_116 rfl rfl ?_
        refine V_iload (q := 6) dX5_getOff_119 rfl ?_
        refine V_aload_n (q := 0) dX5_getOff_121 rfl rfl ?_
        refine V_getr f_X5_9 dX5_getOff_122 rfl rfl ?_
        refine V_iload (q := 6) dX5_getOff_125 rfl ?_
        obtain ⟨n5, t⟩ := t
        refine V_iald dX5_getOff_127 rfl n5 ?_
        refine V_iload (q := 3) dX5_getOff_128 rfl ?_
        refine V_mmin l_X5_81 w_static_min w_init_math w_code_min (Nat.le_of_ble_eq_true rfl) (Nat.le_of_ble_eq_true rfl) dX5_getOff_130 ?_
        have t := t _ rfl
        refine V_iast dX5_getOff_133 rfl n5 ?_
        refine V_iinc (L' := [(0, .ref (G.1 48)), (1, .int x1), (4, .int x4), (5, .int x5), (6, .int x6), (7, .int (x7 + 1)), (8, .int (r4 + x4))]) (q := 5) (a := 1) dX5_getOff_134 rfl rfl (by decide) rfl rfl ?_
        refine V_goto (tgt := 75) dX5_getOff_137 (by decide) ?_
        refine V_pick (L' := [(0, .ref (G.1 48)), (1, .int x1), (4, .int x4), (5, .int x5), (6, .int x6), (7, .int (x7 + 1))]) [0, 1, 2, 3, 4, 5] rfl ?_
        exact t
set_option maxRecDepth 20000 in
set_option maxHeartbeats 4000000 in
theorem s_Search_getOn_0 (G : GA) (h : HP) (x1 : Int32) (x2 : Int32) (x3 : Int32) (K : HP → Prop) (t :
  vp_in x2 132 ∧
  vp_in (((h 43 (tn x2)) * 8) + x3) 192 ∧
  vp_in ((x2 * 8) + x3) 1056 ∧
  P_Search_row G h (x1 - 1) 0 (fun (r5 : Int32) (h4 : HP) =>
    ∀ v6 : Int32, v6 = (r5 + (h 17 (tn (((h 43 (tn x2)) * 8) + x3)))) →
    H_Search_getOn_56 G h4 x1 (h 17 (tn (((h 43 (tn x2)) * 8) + x3))) (h 47 (tn ((x2 * 8) + x3))) v6 0 K
  )) : P_Search_getOn G h x1 x2 x3 K := by
  refine Sp_of_V pf_X5_getOn (Nat.le_of_ble_eq_true rfl) rfl ?_
  refine V_aload_n (q := 0) dX5_getOn_0 rfl rfl ?_
  refine V_getr f_X5_31 dX5_getOn_1 rfl rfl ?_
  refine V_getr f_X5_140 dX5_getOn_4 rfl rfl ?_
  refine V_aload_n (q := 0) dX5_getOn_7 rfl rfl ?_
  refine V_getr f_X5_39 dX5_getOn_8 rfl rfl ?_
  refine V_getr f_X5_120 dX5_getOn_11 rfl rfl ?_
  refine V_iload_n (q := 2) dX5_getOn_14 rfl rfl ?_
  obtain ⟨n1, t⟩ := t
  refine V_iald dX5_getOn_15 rfl n1 ?_
  refine V_bipush (v := 8) dX5_getOn_16 rfl ?_
  refine V_imul dX5_getOn_18 ?_
  refine V_iload_n (q := 3) dX5_getOn_19 rfl rfl ?_
  refine V_iadd dX5_getOn_20 ?_
  obtain ⟨n2, t⟩ := t
  refine V_iald dX5_getOn_21 rfl n2 ?_
  refine V_istore (L' := [(0, .ref (G.1 48)), (1, .int x1), (2, .int x2), (3, .int x3), (4, .int (h 17 (tn (((h 43 (tn x2)) * 8) + x3))))]) dX5_getOn_22 (by decide) rfl rfl ?_
  refine V_aload_n (q := 0) dX5_getOn_24 rfl rfl ?_
  refine V_getr f_X5_39 dX5_getOn_25 rfl rfl ?_
  refine V_getr f_X5_155 dX5_getOn_28 rfl rfl ?_
  refine V_iload_n (q := 2) dX5_getOn_31 rfl rfl ?_
  refine V_bipush (v := 8) dX5_getOn_32 rfl ?_
  refine V_imul dX5_getOn_34 ?_
  refine V_iload_n (q := 3) dX5_getOn_35 rfl rfl ?_
  refine V_iadd dX5_getOn_36 ?_
  obtain ⟨n3, t⟩ := t
  refine V_iald dX5_getOn_37 rfl n3 ?_
  refine V_istore (L' := [(0, .ref (G.1 48)), (1, .int x1), (2, .int x2), (3, .int x3), (4, .int (h 17 (tn (((h 43 (tn x2)) * 8) + x3)))), (5, .int (h 47 (tn ((x2 * 8) + x3))))]) dX5_getOn_38 (by decide) rfl rfl ?_
  refine V_aload_n (q := 0) dX5_getOn_40 rfl rfl ?_
  refine V_iload_n (q := 1) dX5_getOn_41 rfl rfl ?_
  refine V_iconst (v := 1) dX5_getOn_42 rfl ?_
  refine V_isub dX5_getOn_43 ?_
  refine V_iconst (v := 0) dX5_getOn_44 rfl ?_
  refine V_callV [.int (x1 - 1), .int 0] [] g_X5_getOn_X5_row wi_X5_row ws_X5_row dX5_getOn_45 rfl rfl rfl rfl rfl (Nat.le_of_ble_eq_true rfl) t (fun _ h4 t => ?_)
  obtain ⟨r5, rfl, t⟩ := t
  refine V_iload (q := 4) dX5_getOn_48 rfl ?_
  refine V_iadd dX5_getOn_50 ?_
  have t := t _ rfl
  refine V_istore (L' := [(0, .ref (G.1 48)), (1, .int x1), (2, .int x2), (3, .int x3), (4, .int (h 17 (tn (((h 43 (tn x2)) * 8) + x3)))), (5, .int (h 47 (tn ((x2 * 8) + x3)))), (6, .int (r5 + (h 17 (tn (((h 43 (tn x2)) * 8) + x3)))))]) dX5_getOn_51 (by decide) rfl rfl ?_
  refine V_iconst (v := 0) dX5_getOn_53 rfl ?_
  refine V_istore (L' := [(0, .ref (G.1 48)), (1, .int x1), (2, .int x2), (3, .int x3), (4, .int (h 17 (tn (((h 43 (tn x2)) * 8) + x3)))), (5, .int (h 47 (tn ((x2 * 8) + x3)))), (6, .int (r5 + (h 17 (tn (((h 43 (tn x2)) * 8) + x3))))), (7, .int 0)]) dX5_getOn_54 (by decide) rfl rfl ?_
  refine V_pick (L' := [(0, .ref (G.1 48)), (1, .int x1), (4, .int (h 17 (tn (((h 43 (tn x2)) * 8) + x3)))), (5, .int (h 47 (tn ((x2 * 8) + x3)))), (6, .int (r5 + (h 17 (tn (((h 43 (tn x2)) * 8) + x3))))), (7, .int 0)]) [0, 1, 4, 5, 6, 7] rfl ?_
  exact t
set_option maxRecDepth 20000 in
set_option maxHeartbeats 4000000 in
theorem s_Search_getOn_56 (G : GA) (h : HP) (x1 : Int32) (x4 : Int32) (x5 : Int32) (x6 : Int32) (x7 : Int32) (K : HP → Prop) (t :
  P_Search_mostFare G h (x1 - 1) (fun (r2 : Int32) (h1 : HP) =>
    if r2 < x7 then (
      K h1
    ) else (
      vp_in x6 360 ∧
      if x5 < (h1 50 (tn x6)) then (
        H_Search_getOn_56 G h1 x1 x4 x5 (x6 + 12) (x7 + 1) K
      ) else (
        vp_in x4 12 ∧
        vp_in (h1 4 (tn x4)) 4 ∧
        ∀ h6 : HP, h6 = up h1 53 (tn (h1 4 (tn x4))) ((h1 53 (tn (h1 4 (tn x4)))) ||| (1 <<< (x7 &&& 31))) →
        H_Search_getOn_56 G h6 x1 x4 x5 (x6 + 12) (x7 + 1) K
      )
    )
  )) : H_Search_getOn_56 G h x1 x4 x5 x6 x7 K := by
  unfold H_Search_getOn_56
  refine V_iload (q := 5) dX5_getOn_56 rfl ?_
  refine V_aload_n (q := 0) dX5_getOn_58 rfl rfl ?_
  refine V_iload_n (q := 1) dX5_getOn_59 rfl rfl ?_
  refine V_iconst (v := 1) dX5_getOn_60 rfl ?_
  refine V_isub dX5_getOn_61 ?_
  refine V_callV [.int (x1 - 1)] [.int x7] g_X5_getOn_X5_mostFare wi_X5_mostFare ws_X5_mostFare dX5_getOn_62 rfl rfl rfl rfl rfl (Nat.le_of_ble_eq_true rfl) t (fun _ h1 t => ?_)
  obtain ⟨r2, rfl, t⟩ := t
  refine V_icmp_gt (tgt := 111) dX5_getOn_65 (by decide) (fun q => ?_) (fun q => ?_)
  · have t := it_t q t
    exact V_vret rfl dX5_getOn_111 t
  · have t := it_f q t
    refine V_aload_n (q := 0) dX5_getOn_68 rfl rfl ?_
    refine V_getr f_X5_15 dX5_getOn_69 rfl rfl ?_
    refine V_iload (q := 4) dX5_getOn_72 rfl ?_
    obtain ⟨n3, t⟩ := t
    refine V_iald dX5_getOn_74 rfl n3 ?_
    refine V_iload (q := 3) dX5_getOn_75 rfl ?_
    refine V_icmp_gt (tgt := 102) dX5_getOn_77 (by decide) (fun q => ?_) (fun q => ?_)
    · have t := it_t q t
      refine V_iinc (L' := [(0, .ref (G.1 48)), (1, .int x1), (4, .int x4), (5, .int x5), (6, .int (x6 + 12)), (7, .int x7)]) (q := 4) (a := 12) dX5_getOn_102 rfl rfl (by decide) rfl rfl ?_
      refine V_iinc (L' := [(0, .ref (G.1 48)), (1, .int x1), (4, .int x4), (5, .int x5), (6, .int (x6 + 12)), (7, .int (x7 + 1))]) (q := 5) (a := 1) dX5_getOn_105 rfl rfl (by decide) rfl rfl ?_
      refine V_goto (tgt := 56) dX5_getOn_108 (by decide) ?_
      exact t
    · have t := it_f q t
      refine V_aload_n (q := 0) dX5_getOn_80 rfl rfl ?_
      refine V_getr f_X5_24 dX5_getOn_81 rfl rfl ?_
      refine V_aload_n (q := 0) dX5_getOn_84 rfl rfl ?_
      refine V_getr f_X5_27 dX5_getOn_85 rfl rfl ?_
      refine V_getr f_X5_146 dX5_getOn_88 rfl rfl ?_
      refine V_iload (q := 2) dX5_getOn_91 rfl ?_
      obtain ⟨n4, t⟩ := t
      refine V_iald dX5_getOn_93 rfl n4 ?_
      refine V_dup2 dX5_getOn_94 rfl rfl ?_
      obtain ⟨n5, t⟩ := t
      refine V_iald dX5_getOn_95 rfl n5 ?_
      refine V_iconst (v := 1) dX5_getOn_96 rfl ?_
      refine V_iload (q := 5) dX5_getOn_97 rfl ?_
      refine V_ishl dX5_getOn_99 ?_
      refine V_ior dX5_getOn_100 ?_
      have t := t _ rfl
      refine V_iast dX5_getOn_101 rfl n5 ?_
      refine V_iinc (L' := [(0, .ref (G.1 48)), (1, .int x1), (4, .int x4), (5, .int x5), (6, .int (x6 + 12)), (7, .int x7)]) (q := 4) (a := 12) dX5_getOn_102 rfl rfl (by decide) rfl rfl ?_
      refine V_iinc (L' := [(0, .ref (G.1 48)), (1, .int x1), (4, .int x4), (5, .int x5), (6, .int (x6 + 12)), (7, .int (x7 + 1))]) (q := 5) (a := 1) dX5_getOn_105 rfl rfl (by decide) rfl rfl ?_
      refine V_goto (tgt := 56) dX5_getOn_108 (by decide) ?_
      exact t
set_option maxRecDepth 20000 in
set_option maxHeartbeats 4000000 in
theorem s_Search_ride_0 (G : GA) (h : HP) (x1 : Int32) (x2 : Int32) (K : HP → Prop) (t :
  vp_in x2 132 ∧
  P_Arr_fill_53 G h 0 (fun h2 : HP =>
    H_Search_ride_21 G h2 x1 x2 (h 43 (tn x2)) 0 K
  )) : P_Search_ride G h x1 x2 K := by
  refine Sp_of_V pf_X5_ride (Nat.le_of_ble_eq_true rfl) rfl ?_
  refine V_aload_n (q := 0) dX5_ride_0 rfl rfl ?_
  refine V_getr f_X5_39 dX5_ride_1 rfl rfl ?_
  refine V_getr f_X5_120 dX5_ride_4 rfl rfl ?_
  refine V_iload_n (q := 2) dX5_ride_7 rfl rfl ?_
  obtain ⟨n1, t⟩ := t
  refine V_iald dX5_ride_8 rfl n1 ?_
  refine V_istore_n (L' := [(0, .ref (G.1 48)), (1, .int x1), (2, .int x2), (3, .int (h 43 (tn x2)))]) dX5_ride_9 rfl (by decide) rfl rfl ?_
  refine V_aload_n (q := 0) dX5_ride_10 rfl rfl ?_
  refine V_getr f_X5_24 dX5_ride_11 rfl rfl ?_
  refine V_iconst (v := 0) dX5_ride_14 rfl ?_
  refine V_callS [.ref (G.1 53), .int 0] [] g_X5_ride_J7_fill_53178 wt_J7_fill_53178 dX5_ride_15 rfl rfl (Nat.le_of_ble_eq_true rfl) t (fun _ h2 t => ?_)
  obtain ⟨rfl, t⟩ := t
  refine V_iconst (v := 0) dX5_ride_18 rfl ?_
  refine V_istore (L' := [(0, .ref (G.1 48)), (1, .int x1), (2, .int x2), (3, .int (h 43 (tn x2))), (4, .int 0)]) dX5_ride_19 (by decide) rfl rfl ?_
  exact t
set_option maxRecDepth 20000 in
set_option maxHeartbeats 4000000 in
theorem s_Search_ride_21 (G : GA) (h : HP) (x1 : Int32) (x2 : Int32) (x3 : Int32) (x4 : Int32) (K : HP → Prop) (t :
  vp_in x3 24 ∧
  if (h 15 (tn x3)) ≤ x4 then (
    K h
  ) else (
    P_Trips_isOpen G h x3 x4 (fun (b3 : Bool) (h2 : HP) =>
      if b3 = true then (
        P_Search_getOff G h2 x1 x2 x4 (fun h4 : HP =>
          H_Search_ride_60 G h4 x1 x2 x3 x4 b3 K
        )
      ) else (
        H_Search_ride_60 G h2 x1 x2 x3 x4 b3 K
      )
    )
  )) : H_Search_ride_21 G h x1 x2 x3 x4 K := by
  unfold H_Search_ride_21
  refine V_iload (q := 4) dX5_ride_21 rfl ?_
  refine V_aload_n (q := 0) dX5_ride_23 rfl rfl ?_
  refine V_getr f_X5_31 dX5_ride_24 rfl rfl ?_
  refine V_getr f_X5_123 dX5_ride_27 rfl rfl ?_
  refine V_iload_n (q := 3) dX5_ride_30 rfl rfl ?_
  obtain ⟨n1, t⟩ := t
  refine V_iald dX5_ride_31 rfl n1 ?_
  refine V_icmp_ge (tgt := 107) dX5_ride_32 (by decide) (fun q => ?_) (fun q => ?_)
  · have t := it_t q t
    exact V_vret rfl dX5_ride_107 t
  · have t := it_f q t
    refine V_aload_n (q := 0) dX5_ride_35 rfl rfl ?_
    refine V_getr f_X5_31 dX5_ride_36 rfl rfl ?_
    refine V_iload_n (q := 3) dX5_ride_39 rfl rfl ?_
    refine V_iload (q := 4) dX5_ride_40 rfl ?_
    refine V_callV [.int x3, .int x4] [] g_X5_ride_X9_isOpen wi_X9_isOpen ws_X9_isOpen dX5_ride_42 rfl rfl rfl rfl rfl (Nat.le_of_ble_eq_true rfl) t (fun _ h2 t => ?_)
    obtain ⟨b3, rfl, t⟩ := t
    refine V_istore (L' := [(0, .ref (G.1 48)), (1, .int x1), (2, .int x2), (3, .int x3), (4, .int x4), (5, .int (b2i b3))]) dX5_ride_45 (by decide) rfl rfl ?_
    refine V_iload (q := 5) dX5_ride_47 rfl ?_
    refine V_ifb_eq (tgt := 60) dX5_ride_49 (by decide) (fun q => ?_) (fun q => ?_)
    · have t := it_f q t
      exact t
    · have t := it_t q t
      refine V_aload_n (q := 0) dX5_ride_52 rfl rfl ?_
      refine V_iload_n (q := 1) dX5_ride_53 rfl rfl ?_
      refine V_iload_n (q := 2) dX5_ride_54 rfl rfl ?_
      refine V_iload (q := 4) dX5_ride_55 rfl ?_
      refine V_callV [.int x1, .int x2, .int x4] [] g_X5_ride_X5_getOff wi_X5_getOff ws_X5_getOff dX5_ride_57 rfl rfl rfl rfl rfl (Nat.le_of_ble_eq_true rfl) t (fun _ h4 t => ?_)
      obtain ⟨rfl, t⟩ := t
      exact t
set_option maxRecDepth 20000 in
set_option maxHeartbeats 4000000 in
theorem s_Search_ride_60 (G : GA) (h : HP) (x1 : Int32) (x2 : Int32) (x3 : Int32) (x4 : Int32) (x5 : Bool) (K : HP → Prop) (t :
  vp_in x2 132 ∧
  if (((h 45 (tn x2)) >>> (x4 &&& 31)) &&& 1) = 0 then (
    if x5 = true then (
      P_Search_getOn G h x1 x2 x4 (fun h2 : HP =>
        H_Search_ride_21 G h2 x1 x2 x3 (x4 + 1) K
      )
    ) else (
      H_Search_ride_21 G h x1 x2 x3 (x4 + 1) K
    )
  ) else (
    P_Arr_fill_53 G h 0 (fun h3 : HP =>
      H_Search_ride_21 G h3 x1 x2 x3 (x4 + 1) K
    )
  )) : H_Search_ride_60 G h x1 x2 x3 x4 x5 K := by
  unfold H_Search_ride_60
  refine V_aload_n (q := 0) dX5_ride_60 rfl rfl ?_
  refine V_getr f_X5_39 dX5_ride_61 rfl rfl ?_
  refine V_getr f_X5_134 dX5_ride_64 rfl rfl ?_
  refine V_iload_n (q := 2) dX5_ride_67 rfl rfl ?_
  obtain ⟨n1, t⟩ := t
  refine V_iald dX5_ride_68 rfl n1 ?_
  refine V_iload (q := 4) dX5_ride_69 rfl ?_
  refine V_ishr dX5_ride_71 ?_
  refine V_iconst (v := 1) dX5_ride_72 rfl ?_
  refine V_iand dX5_ride_73 ?_
  refine V_if_eq (tgt := 88) dX5_ride_74 (by decide) (fun q => ?_) (fun q => ?_)
  · have t := it_t q t
    refine V_iload (q := 5) dX5_ride_88 rfl ?_
    refine V_ifb_eq (tgt := 101) dX5_ride_90 (by decide) (fun q => ?_) (fun q => ?_)
    · have t := it_f q t
      refine V_iinc (L' := [(0, .ref (G.1 48)), (1, .int x1), (2, .int x2), (3, .int x3), (4, .int (x4 + 1)), (5, .int (b2i x5))]) (q := 4) (a := 1) dX5_ride_101 rfl rfl (by decide) rfl rfl ?_
      refine V_goto (tgt := 21) dX5_ride_104 (by decide) ?_
      refine V_pick (L' := [(0, .ref (G.1 48)), (1, .int x1), (2, .int x2), (3, .int x3), (4, .int (x4 + 1))]) [0, 1, 2, 3, 4] rfl ?_
      exact t
    · have t := it_t q t
      refine V_aload_n (q := 0) dX5_ride_93 rfl rfl ?_
      refine V_iload_n (q := 1) dX5_ride_94 rfl rfl ?_
      refine V_iload_n (q := 2) dX5_ride_95 rfl rfl ?_
      refine V_iload (q := 4) dX5_ride_96 rfl ?_
      refine V_callV [.int x1, .int x2, .int x4] [] g_X5_ride_X5_getOn wi_X5_getOn ws_X5_getOn dX5_ride_98 rfl rfl rfl rfl rfl (Nat.le_of_ble_eq_true rfl) t (fun _ h2 t => ?_)
      obtain ⟨rfl, t⟩ := t
      refine V_iinc (L' := [(0, .ref (G.1 48)), (1, .int x1), (2, .int x2), (3, .int x3), (4, .int (x4 + 1)), (5, .int (b2i x5))]) (q := 4) (a := 1) dX5_ride_101 rfl rfl (by decide) rfl rfl ?_
      refine V_goto (tgt := 21) dX5_ride_104 (by decide) ?_
      refine V_pick (L' := [(0, .ref (G.1 48)), (1, .int x1), (2, .int x2), (3, .int x3), (4, .int (x4 + 1))]) [0, 1, 2, 3, 4] rfl ?_
      exact t
  · have t := it_f q t
    refine V_aload_n (q := 0) dX5_ride_77 rfl rfl ?_
    refine V_getr f_X5_24 dX5_ride_78 rfl rfl ?_
    refine V_iconst (v := 0) dX5_ride_81 rfl ?_
    refine V_callS [.ref (G.1 53), .int 0] [] g_X5_ride_J7_fill_53178 wt_J7_fill_53178 dX5_ride_82 rfl rfl (Nat.le_of_ble_eq_true rfl) t (fun _ h3 t => ?_)
    obtain ⟨rfl, t⟩ := t
    refine V_goto (tgt := 101) dX5_ride_85 (by decide) ?_
    refine V_iinc (L' := [(0, .ref (G.1 48)), (1, .int x1), (2, .int x2), (3, .int x3), (4, .int (x4 + 1)), (5, .int (b2i x5))]) (q := 4) (a := 1) dX5_ride_101 rfl rfl (by decide) rfl rfl ?_
    refine V_goto (tgt := 21) dX5_ride_104 (by decide) ?_
    refine V_pick (L' := [(0, .ref (G.1 48)), (1, .int x1), (2, .int x2), (3, .int x3), (4, .int (x4 + 1))]) [0, 1, 2, 3, 4] rfl ?_
    exact t
set_option maxRecDepth 20000 in
set_option maxHeartbeats 4000000 in
theorem s_Search_ask_0 (G : GA) (h : HP) (x1 : Int32) (x2 : Int32) (x3 : Int32) (K : HP → Prop) (t :
  ∀ h1 : HP, h1 = up h 48 9 x2 →
  ∀ h2 : HP, h2 = up h1 48 10 x3 →
  P_Arr_fill_49 G h2 1000000000 (fun h3 : HP =>
    P_Arr_fill_50 G h3 1000000000 (fun h4 : HP =>
      vp_in x1 696 ∧
      ∀ h5 : HP, h5 = up h4 49 (tn x1) x2 →
      H_Search_ask_38 G h5 1 K
    )
  )) : P_Search_ask G h x1 x2 x3 K := by
  refine Sp_of_V pf_X5_ask (Nat.le_of_ble_eq_true rfl) rfl ?_
  refine V_aload_n (q := 0) dX5_ask_0 rfl rfl ?_
  refine V_iload_n (q := 2) dX5_ask_1 rfl rfl ?_
  have t := t _ rfl
  refine V_put f_X5_43 p_X5_9 dX5_ask_2 rfl rfl ?_
  refine V_aload_n (q := 0) dX5_ask_5 rfl rfl ?_
  refine V_iload_n (q := 3) dX5_ask_6 rfl rfl ?_
  have t := t _ rfl
  refine V_put f_X5_47 p_X5_10 dX5_ask_7 rfl rfl ?_
  refine V_aload_n (q := 0) dX5_ask_10 rfl rfl ?_
  refine V_getr f_X5_9 dX5_ask_11 rfl rfl ?_
  refine V_ldc (v := 1000000000) dX5_ask_14 k_X5_50 ?_
  refine V_callS [.ref (G.1 49), .int 1000000000] [] g_X5_ask_J7_fill_53178 wt_J7_fill_53178 dX5_ask_16 rfl rfl (Nat.le_of_ble_eq_true rfl) t (fun _ h3 t => ?_)
  obtain ⟨rfl, t⟩ := t
  refine V_aload_n (q := 0) dX5_ask_19 rfl rfl ?_
  refine V_getr f_X5_15 dX5_ask_20 rfl rfl ?_
  refine V_ldc (v := 1000000000) dX5_ask_23 k_X5_50 ?_
  refine V_callS [.ref (G.1 50), .int 1000000000] [] g_X5_ask_J7_fill_53178 wt_J7_fill_53178 dX5_ask_25 rfl rfl (Nat.le_of_ble_eq_true rfl) t (fun _ h4 t => ?_)
  obtain ⟨rfl, t⟩ := t
  refine V_aload_n (q := 0) dX5_ask_28 rfl rfl ?_
  refine V_getr f_X5_9 dX5_ask_29 rfl rfl ?_
  refine V_iload_n (q := 1) dX5_ask_32 rfl rfl ?_
  refine V_iload_n (q := 2) dX5_ask_33 rfl rfl ?_
  obtain ⟨n6, t⟩ := t
  have t := t _ rfl
  refine V_iast dX5_ask_34 rfl n6 ?_
  refine V_iconst (v := 1) dX5_ask_35 rfl ?_
  refine V_istore (L' := [(0, .ref (G.1 48)), (1, .int x1), (2, .int x2), (3, .int x3), (4, .int 1)]) dX5_ask_36 (by decide) rfl rfl ?_
  refine V_pick (L' := [(0, .ref (G.1 48)), (4, .int 1)]) [0, 4] rfl ?_
  exact t
set_option maxRecDepth 20000 in
set_option maxHeartbeats 4000000 in
theorem s_Search_ask_38 (G : GA) (h : HP) (x4 : Int32) (K : HP → Prop) (t :
  if 3 < x4 then (
    K h
  ) else (
    P_Search_getReady G h (x4 - 1) (fun h1 : HP =>
      H_Search_ask_55 G h1 x4 0 K
    )
  )) : H_Search_ask_38 G h x4 K := by
  unfold H_Search_ask_38
  refine V_iload (q := 1) dX5_ask_38 rfl ?_
  refine V_iconst (v := 3) dX5_ask_40 rfl ?_
  refine V_icmp_gt (tgt := 87) dX5_ask_41 (by decide) (fun q => ?_) (fun q => ?_)
  · have t := it_t q t
    exact V_vret rfl dX5_ask_87 t
  · have t := it_f q t
    refine V_aload_n (q := 0) dX5_ask_44 rfl rfl ?_
    refine V_iload (q := 1) dX5_ask_45 rfl ?_
    refine V_iconst (v := 1) dX5_ask_47 rfl ?_
    refine V_isub dX5_ask_48 ?_
    refine V_callV [.int (x4 - 1)] [] g_X5_ask_X5_getReady wi_X5_getReady ws_X5_getReady dX5_ask_49 rfl rfl rfl rfl rfl (Nat.le_of_ble_eq_true rfl) t (fun _ h1 t => ?_)
    obtain ⟨rfl, t⟩ := t
    refine V_iconst (v := 0) dX5_ask_52 rfl ?_
    refine V_istore (L' := [(0, .ref (G.1 48)), (4, .int x4), (5, .int 0)]) dX5_ask_53 (by decide) rfl rfl ?_
    exact t
set_option maxRecDepth 20000 in
set_option maxHeartbeats 4000000 in
theorem s_Search_ask_55 (G : GA) (h : HP) (x4 : Int32) (x5 : Int32) (K : HP → Prop) (t :
  if (h 42 5) ≤ x5 then (
    H_Search_ask_38 G h (x4 + 1) K
  ) else (
    P_Search_ride G h x4 x5 (fun h1 : HP =>
      H_Search_ask_55 G h1 x4 (x5 + 1) K
    )
  )) : H_Search_ask_55 G h x4 x5 K := by
  unfold H_Search_ask_55
  refine V_iload (q := 2) dX5_ask_55 rfl ?_
  refine V_aload_n (q := 0) dX5_ask_57 rfl rfl ?_
  refine V_getr f_X5_39 dX5_ask_58 rfl rfl ?_
  refine V_geti f_X5_61 dX5_ask_61 rfl rfl ?_
  refine V_icmp_ge (tgt := 81) dX5_ask_64 (by decide) (fun q => ?_) (fun q => ?_)
  · have t := it_t q t
    refine V_iinc (L' := [(0, .ref (G.1 48)), (4, .int (x4 + 1)), (5, .int x5)]) (q := 1) (a := 1) dX5_ask_81 rfl rfl (by decide) rfl rfl ?_
    refine V_goto (tgt := 38) dX5_ask_84 (by decide) ?_
    refine V_pick (L' := [(0, .ref (G.1 48)), (4, .int (x4 + 1))]) [0, 1] rfl ?_
    exact t
  · have t := it_f q t
    refine V_aload_n (q := 0) dX5_ask_67 rfl rfl ?_
    refine V_iload (q := 1) dX5_ask_68 rfl ?_
    refine V_iload (q := 2) dX5_ask_70 rfl ?_
    refine V_callV [.int x4, .int x5] [] g_X5_ask_X5_ride wi_X5_ride ws_X5_ride dX5_ask_72 rfl rfl rfl rfl rfl (Nat.le_of_ble_eq_true rfl) t (fun _ h1 t => ?_)
    obtain ⟨rfl, t⟩ := t
    refine V_iinc (L' := [(0, .ref (G.1 48)), (4, .int x4), (5, .int (x5 + 1))]) (q := 2) (a := 1) dX5_ask_75 rfl rfl (by decide) rfl rfl ?_
    refine V_goto (tgt := 55) dX5_ask_78 (by decide) ?_
    exact t
set_option maxRecDepth 20000 in
set_option maxHeartbeats 4000000 in
theorem s_Stops_dearest_0 (G : GA) (h : HP)  (K : Int32 → HP → Prop) (t :
  H_Stops_dearest_13 G h 0 16 0 K) : P_Stops_dearest G h  K := by
  refine Sp_of_V pf_X7_dearest (Nat.le_of_ble_eq_true rfl) rfl ?_
  refine V_iconst (v := 0) dX7_dearest_0 rfl ?_
  refine V_istore_n (L' := [(0, .ref (G.1 2)), (1, .int 0)]) dX7_dearest_1 rfl (by decide) rfl rfl ?_
  refine V_aload_n (q := 0) dX7_dearest_2 rfl rfl ?_
  refine V_getr f_X7_18 dX7_dearest_3 rfl rfl ?_
  refine V_astore_n (L' := [(0, .ref (G.1 2)), (1, .int 0), (2, .ref (G.1 5))]) dX7_dearest_6 rfl (by decide) rfl rfl ?_
  refine V_aload_n (q := 2) dX7_dearest_7 rfl rfl ?_
  refine V_alen (v := 16) dX7_dearest_8 rfl rfl ?_
  refine V_istore_n (L' := [(0, .ref (G.1 2)), (1, .int 0), (2, .ref (G.1 5)), (3, .int 16)]) dX7_dearest_9 rfl (by decide) rfl rfl ?_
  refine V_iconst (v := 0) dX7_dearest_10 rfl ?_
  refine V_istore (L' := [(0, .ref (G.1 2)), (1, .int 0), (2, .ref (G.1 5)), (3, .int 16), (4, .int 0)]) dX7_dearest_11 (by decide) rfl rfl ?_
  refine V_pick (L' := [(1, .int 0), (2, .ref (G.1 5)), (3, .int 16), (4, .int 0)]) [1, 2, 3, 4] rfl ?_
  exact t
set_option maxRecDepth 20000 in
set_option maxHeartbeats 4000000 in
theorem s_Stops_dearest_13 (G : GA) (h : HP) (x1 : Int32) (x3 : Int32) (x4 : Int32) (K : Int32 → HP → Prop) (t :
  if x3 ≤ x4 then (
    K x1 h
  ) else (
    vp_in x4 16 ∧
    ∀ v2 : Int32, v2 = (if x1 < (h 5 (tn x4)) then (h 5 (tn x4)) else x1) →
    H_Stops_dearest_13 G h v2 x3 (x4 + 1) K
  )) : H_Stops_dearest_13 G h x1 x3 x4 K := by
  unfold H_Stops_dearest_13
  refine V_iload (q := 3) dX7_dearest_13 rfl ?_
  refine V_iload_n (q := 2) dX7_dearest_15 rfl rfl ?_
  refine V_icmp_ge (tgt := 38) dX7_dearest_16 (by decide) (fun q => ?_) (fun q => ?_)
  · have t := it_t q t
    refine V_iload_n (q := 0) dX7_dearest_38 rfl rfl ?_
    exact V_iret rfl dX7_dearest_39 t
  · have t := it_f q t
    refine V_aload_n (q := 1) dX7_dearest_19 rfl rfl ?_
    refine V_iload (q := 3) dX7_dearest_20 rfl ?_
    obtain ⟨n1, t⟩ := t
    refine V_iald dX7_dearest_22 rfl n1 ?_
    refine V_istore (L' := [(1, .int x1), (2, .ref (G.1 5)), (3, .int x3), (4, .int x4), (5, .int (h 5 (tn x4)))]) dX7_dearest_23 (by decide) rfl rfl ?_
    refine V_iload_n (q := 0) dX7_dearest_25 rfl rfl ?_
    refine V_iload (q := 4) dX7_dearest_26 rfl ?_
    refine V_mmax l_X7_25 w_static_max w_init_math w_code_max (Nat.le_of_ble_eq_true rfl) (Nat.le_of_ble_eq_true rfl) dX7_dearest_28 ?_
    have t := t _ rfl
    refine V_istore_n (L' := [(1, .int (if x1 < (h 5 (tn x4)) then (h 5 (tn x4)) else x1)), (2, .ref (G.1 5)), (3, .int x3), (4, .int x4), (5, .int (h 5 (tn x4)))]) dX7_dearest_31 rfl (by decide) rfl rfl ?_
    refine V_iinc (L' := [(1, .int (if x1 < (h 5 (tn x4)) then (h 5 (tn x4)) else x1)), (2, .ref (G.1 5)), (3, .int x3), (4, .int (x4 + 1)), (5, .int (h 5 (tn x4)))]) (q := 3) (a := 1) dX7_dearest_32 rfl rfl (by decide) rfl rfl ?_
    refine V_goto (tgt := 13) dX7_dearest_35 (by decide) ?_
    refine V_pick (L' := [(1, .int (if x1 < (h 5 (tn x4)) then (h 5 (tn x4)) else x1)), (2, .ref (G.1 5)), (3, .int x3), (4, .int (x4 + 1))]) [0, 1, 2, 3] rfl ?_
    exact t
set_option maxRecDepth 20000 in
set_option maxHeartbeats 4000000 in
theorem s_Desk_ways_0 (G : GA) (h : HP) (x1 : Int32) (x2 : Int32) (x3 : Int32) (x4 : Int32) (K : Int32 → HP → Prop) (t :
  P_Stops_has G h x1 (fun (b2 : Bool) (h1 : HP) =>
    if b2 = true then (
      P_Stops_has G h1 x2 (fun (b4 : Bool) (h3 : HP) =>
        if b4 = true then (
          P_Desk_isDay G h3 x3 (fun (b6 : Bool) (h5 : HP) =>
            if b6 = true then (
              P_Desk_isMinute G h5 x4 (fun (b8 : Bool) (h7 : HP) =>
                if b8 = true then (
                  P_Runs_gather G h7 x3 ((1440 * x3) + x4) (fun h9 : HP =>
                    P_Stops_dearest G h9 (fun (r11 : Int32) (h10 : HP) =>
                      P_Search_ask G h10 x1 ((1440 * x3) + x4) r11 (fun h12 : HP =>
                        P_Found_collect G h12 x2 (fun (r14 : Int32) (h13 : HP) =>
                          K r14 h13
                        )
                      )
                    )
                  )
                ) else (
                  K (-2) h7
                )
              )
            ) else (
              K (-2) h5
            )
          )
        ) else (
          K (-2) h3
        )
      )
    ) else (
      K (-2) h1
    )
  )) : P_Desk_ways G h x1 x2 x3 x4 K := by
  refine Sp_of_V pf_X11_ways (Nat.le_of_ble_eq_true rfl) rfl ?_
  refine V_aload_n (q := 0) dX11_ways_0 rfl rfl ?_
  refine V_getr f_X11_12 dX11_ways_1 rfl rfl ?_
  refine V_iload_n (q := 1) dX11_ways_4 rfl rfl ?_
  refine V_callV [.int x1] [] g_X11_ways_X7_has wi_X7_has ws_X7_has dX11_ways_5 rfl rfl rfl rfl rfl (Nat.le_of_ble_eq_true rfl) t (fun _ h1 t => ?_)
  obtain ⟨b2, rfl, t⟩ := t
  refine V_ifb_eq (tgt := 37) dX11_ways_8 (by decide) (fun q => ?_) (fun q => ?_)
  · have t := it_f q t
    refine V_bipush (v := (-2)) dX11_ways_37 rfl ?_
    exact V_iret rfl dX11_ways_39 t
  · have t := it_t q t
    refine V_aload_n (q := 0) dX11_ways_11 rfl rfl ?_
    refine V_getr f_X11_12 dX11_ways_12 rfl rfl ?_
    refine V_iload_n (q := 2) dX11_ways_15 rfl rfl ?_
    refine V_callV [.int x2] [] g_X11_ways_X7_has wi_X7_has ws_X7_has dX11_ways_16 rfl rfl rfl rfl rfl (Nat.le_of_ble_eq_true rfl) t (fun _ h3 t => ?_)
    obtain ⟨b4, rfl, t⟩ := t
    refine V_ifb_eq (tgt := 37) dX11_ways_19 (by decide) (fun q => ?_) (fun q => ?_)
    · have t := it_f q t
      refine V_bipush (v := (-2)) dX11_ways_37 rfl ?_
      exact V_iret rfl dX11_ways_39 t
    · have t := it_t q t
      refine V_iload_n (q := 3) dX11_ways_22 rfl rfl ?_
      refine V_callS [.int x3] [] g_X11_ways_X11_isDay wt_X11_isDay dX11_ways_23 rfl rfl (Nat.le_of_ble_eq_true rfl) t (fun _ h5 t => ?_)
      obtain ⟨b6, rfl, t⟩ := t
      refine V_ifb_eq (tgt := 37) dX11_ways_26 (by decide) (fun q => ?_) (fun q => ?_)
      · have t := it_f q t
        refine V_bipush (v := (-2)) dX11_ways_37 rfl ?_
        exact V_iret rfl dX11_ways_39 t
      · have t := it_t q t
        refine V_iload (q := 4) dX11_ways_29 rfl ?_
        refine V_callS [.int x4] [] g_X11_ways_X11_isMinute wt_X11_isMinute dX11_ways_31 rfl rfl (Nat.le_of_ble_eq_true rfl) t (fun _ h7 t => ?_)
        obtain ⟨b8, rfl, t⟩ := t
        refine V_ifb_ne (tgt := 40) dX11_ways_34 (by decide) (fun q => ?_) (fun q => ?_)
        · have t := it_t q t
          refine V_sipush (v := 1440) dX11_ways_40 rfl ?_
          refine V_iload_n (q := 3) dX11_ways_43 rfl rfl ?_
          refine V_imul dX11_ways_44 ?_
          refine V_iload (q := 4) dX11_ways_45 rfl ?_
          refine V_iadd dX11_ways_47 ?_
          refine V_istore (L' := [(0, .ref (G.1 0)), (1, .int x1), (2, .int x2), (3, .int x3), (4, .int x4), (5, .int ((1440 * x3) + x4))]) dX11_ways_48 (by decide) rfl rfl ?_
          refine V_aload_n (q := 0) dX11_ways_50 rfl rfl ?_
          refine V_getr f_X11_51 dX11_ways_51 rfl rfl ?_
          refine V_iload_n (q := 3) dX11_ways_54 rfl rfl ?_
          refine V_iload (q := 5) dX11_ways_55 rfl ?_
          refine V_callV [.int x3, .int ((1440 * x3) + x4)] [] g_X11_ways_X4_gather wi_X4_gather ws_X4_gather dX11_ways_57 rfl rfl rfl rfl rfl (Nat.le_of_ble_eq_true rfl) t (fun _ h9 t => ?_)
          obtain ⟨rfl, t⟩ := t
          refine V_aload_n (q := 0) dX11_ways_60 rfl rfl ?_
          refine V_getr f_X11_60 dX11_ways_61 rfl rfl ?_
          refine V_iload_n (q := 1) dX11_ways_64 rfl rfl ?_
          refine V_iload (q := 5) dX11_ways_65 rfl ?_
          refine V_aload_n (q := 0) dX11_ways_67 rfl rfl ?_
          refine V_getr f_X11_12 dX11_ways_68 rfl rfl ?_
          refine V_callV [] [.int ((1440 * x3) + x4), .int x1, .ref (G.1 48)] g_X11_ways_X7_dearest wi_X7_dearest ws_X7_dearest dX11_ways_71 rfl rfl rfl rfl rfl (Nat.le_of_ble_eq_true rfl) t (fun _ h10 t => ?_)
          obtain ⟨r11, rfl, t⟩ := t
          refine V_callV [.int x1, .int ((1440 * x3) + x4), .int r11] [] g_X11_ways_X5_ask wi_X5_ask ws_X5_ask dX11_ways_74 rfl rfl rfl rfl rfl (Nat.le_of_ble_eq_true rfl) t (fun _ h12 t => ?_)
          obtain ⟨rfl, t⟩ := t
          refine V_aload_n (q := 0) dX11_ways_77 rfl rfl ?_
          refine V_getr f_X11_69 dX11_ways_78 rfl rfl ?_
          refine V_iload_n (q := 2) dX11_ways_81 rfl rfl ?_
          refine V_callV [.int x2] [] g_X11_ways_X2_collect wi_X2_collect ws_X2_collect dX11_ways_82 rfl rfl rfl rfl rfl (Nat.le_of_ble_eq_true rfl) t (fun _ h13 t => ?_)
          obtain ⟨r14, rfl, t⟩ := t
          exact V_iret rfl dX11_ways_85 t
        · have t := it_f q t
          refine V_bipush (v := (-2)) dX11_ways_37 rfl ?_
          exact V_iret rfl dX11_ways_39 t
set_option maxRecDepth 20000 in
set_option maxHeartbeats 4000000 in
theorem s_Found_has_0 (G : GA) (h : HP) (x1 : Int32) (K : Bool → HP → Prop) (t :
  if x1 < 0 then (
    K false h
  ) else (
    if (h 54 9) ≤ x1 then (
      K false h
    ) else (
      K true h
    )
  )) : P_Found_has G h x1 K := by
  refine Sp_of_V pf_X2_has (Nat.le_of_ble_eq_true rfl) rfl ?_
  refine V_iload_n (q := 1) dX2_has_0 rfl rfl ?_
  refine V_if_lt (tgt := 16) dX2_has_1 (by decide) (fun q => ?_) (fun q => ?_)
  · have t := it_t q t
    refine V_iconst (v := 0) dX2_has_16 rfl ?_
    exact V_zret (b := false) rfl dX2_has_17 t
  · have t := it_f q t
    refine V_iload_n (q := 1) dX2_has_4 rfl rfl ?_
    refine V_aload_n (q := 0) dX2_has_5 rfl rfl ?_
    refine V_geti f_X2_46 dX2_has_6 rfl rfl ?_
    refine V_icmp_ge (tgt := 16) dX2_has_9 (by decide) (fun q => ?_) (fun q => ?_)
    · have t := it_t q t
      refine V_iconst (v := 0) dX2_has_16 rfl ?_
      exact V_zret (b := false) rfl dX2_has_17 t
    · have t := it_f q t
      refine V_iconst (v := 1) dX2_has_12 rfl ?_
      refine V_goto (tgt := 17) dX2_has_13 (by decide) ?_
      exact V_zret (b := true) rfl dX2_has_17 t
set_option maxRecDepth 20000 in
set_option maxHeartbeats 4000000 in
theorem s_Found_ofWay_0 (G : GA) (h : HP) (x1 : Int32) (x2 : Int32) (K : Int32 → HP → Prop) (t :
  vp_in ((x1 * 5) + x2) 290 ∧
  K (h 55 (tn ((x1 * 5) + x2))) h) : P_Found_ofWay G h x1 x2 K := by
  refine Sp_of_V pf_X2_ofWay (Nat.le_of_ble_eq_true rfl) rfl ?_
  refine V_aload_n (q := 0) dX2_ofWay_0 rfl rfl ?_
  refine V_getr f_X2_9 dX2_ofWay_1 rfl rfl ?_
  refine V_iload_n (q := 1) dX2_ofWay_4 rfl rfl ?_
  refine V_iconst (v := 5) dX2_ofWay_5 rfl ?_
  refine V_imul dX2_ofWay_6 ?_
  refine V_iload_n (q := 2) dX2_ofWay_7 rfl rfl ?_
  refine V_iadd dX2_ofWay_8 ?_
  obtain ⟨n1, t⟩ := t
  refine V_iald dX2_ofWay_9 rfl n1 ?_
  exact V_iret rfl dX2_ofWay_10 t
set_option maxRecDepth 20000 in
set_option maxHeartbeats 4000000 in
theorem s_Desk_way_0 (G : GA) (h : HP) (x1 : Int32) (x2 : Int32) (K : Int32 → HP → Prop) (t :
  P_Found_has G h x1 (fun (b2 : Bool) (h1 : HP) =>
    if b2 = true then (
      P_Desk_between G h1 x2 0 4 (fun (b4 : Bool) (h3 : HP) =>
        if b4 = true then (
          P_Found_ofWay G h3 x1 x2 (fun (r6 : Int32) (h5 : HP) =>
            K r6 h5
          )
        ) else (
          K (-2) h3
        )
      )
    ) else (
      K (-2) h1
    )
  )) : P_Desk_way G h x1 x2 K := by
  refine Sp_of_V pf_X11_way (Nat.le_of_ble_eq_true rfl) rfl ?_
  refine V_aload_n (q := 0) dX11_way_0 rfl rfl ?_
  refine V_getr f_X11_69 dX11_way_1 rfl rfl ?_
  refine V_iload_n (q := 1) dX11_way_4 rfl rfl ?_
  refine V_callV [.int x1] [] g_X11_way_X2_has wi_X2_has ws_X2_has dX11_way_5 rfl rfl rfl rfl rfl (Nat.le_of_ble_eq_true rfl) t (fun _ h1 t => ?_)
  obtain ⟨b2, rfl, t⟩ := t
  refine V_ifb_eq (tgt := 32) dX11_way_8 (by decide) (fun q => ?_) (fun q => ?_)
  · have t := it_f q t
    refine V_bipush (v := (-2)) dX11_way_32 rfl ?_
    exact V_iret rfl dX11_way_34 t
  · have t := it_t q t
    refine V_iload_n (q := 2) dX11_way_11 rfl rfl ?_
    refine V_iconst (v := 0) dX11_way_12 rfl ?_
    refine V_iconst (v := 4) dX11_way_13 rfl ?_
    refine V_callS [.int x2, .int 0, .int 4] [] g_X11_way_X11_between wt_X11_between dX11_way_14 rfl rfl (Nat.le_of_ble_eq_true rfl) t (fun _ h3 t => ?_)
    obtain ⟨b4, rfl, t⟩ := t
    refine V_ifb_eq (tgt := 32) dX11_way_17 (by decide) (fun q => ?_) (fun q => ?_)
    · have t := it_f q t
      refine V_bipush (v := (-2)) dX11_way_32 rfl ?_
      exact V_iret rfl dX11_way_34 t
    · have t := it_t q t
      refine V_aload_n (q := 0) dX11_way_20 rfl rfl ?_
      refine V_getr f_X11_69 dX11_way_21 rfl rfl ?_
      refine V_iload_n (q := 1) dX11_way_24 rfl rfl ?_
      refine V_iload_n (q := 2) dX11_way_25 rfl rfl ?_
      refine V_callV [.int x1, .int x2] [] g_X11_way_X2_ofWay wi_X2_ofWay ws_X2_ofWay dX11_way_26 rfl rfl rfl rfl rfl (Nat.le_of_ble_eq_true rfl) t (fun _ h5 t => ?_)
      obtain ⟨r6, rfl, t⟩ := t
      refine V_goto (tgt := 34) dX11_way_29 (by decide) ?_
      exact V_iret rfl dX11_way_34 t
set_option maxRecDepth 20000 in
set_option maxHeartbeats 4000000 in
theorem s_Found_hasLeg_0 (G : GA) (h : HP) (x1 : Int32) (x2 : Int32) (K : Bool → HP → Prop) (t :
  P_Found_has G h x1 (fun (b2 : Bool) (h1 : HP) =>
    if b2 = true then (
      if x2 < 0 then (
        K false h1
      ) else (
        P_Found_ofWay G h1 x1 4 (fun (r4 : Int32) (h3 : HP) =>
          if r4 ≤ x2 then (
            K false h3
          ) else (
            K true h3
          )
        )
      )
    ) else (
      K false h1
    )
  )) : P_Found_hasLeg G h x1 x2 K := by
  refine Sp_of_V pf_X2_hasLeg (Nat.le_of_ble_eq_true rfl) rfl ?_
  refine V_aload_n (q := 0) dX2_hasLeg_0 rfl rfl ?_
  refine V_iload_n (q := 1) dX2_hasLeg_1 rfl rfl ?_
  refine V_callV [.int x1] [] g_X2_hasLeg_X2_has wi_X2_has ws_X2_has dX2_hasLeg_2 rfl rfl rfl rfl rfl (Nat.le_of_ble_eq_true rfl) t (fun _ h1 t => ?_)
  obtain ⟨b2, rfl, t⟩ := t
  refine V_ifb_eq (tgt := 26) dX2_hasLeg_5 (by decide) (fun q => ?_) (fun q => ?_)
  · have t := it_f q t
    refine V_iconst (v := 0) dX2_hasLeg_26 rfl ?_
    exact V_zret (b := false) rfl dX2_hasLeg_27 t
  · have t := it_t q t
    refine V_iload_n (q := 2) dX2_hasLeg_8 rfl rfl ?_
    refine V_if_lt (tgt := 26) dX2_hasLeg_9 (by decide) (fun q => ?_) (fun q => ?_)
    · have t := it_t q t
      refine V_iconst (v := 0) dX2_hasLeg_26 rfl ?_
      exact V_zret (b := false) rfl dX2_hasLeg_27 t
    · have t := it_f q t
      refine V_iload_n (q := 2) dX2_hasLeg_12 rfl rfl ?_
      refine V_aload_n (q := 0) dX2_hasLeg_13 rfl rfl ?_
      refine V_iload_n (q := 1) dX2_hasLeg_14 rfl rfl ?_
      refine V_iconst (v := 4) dX2_hasLeg_15 rfl ?_
      refine V_callV [.int x1, .int 4] [.int x2] g_X2_hasLeg_X2_ofWay wi_X2_ofWay ws_X2_ofWay dX2_hasLeg_16 rfl rfl rfl rfl rfl (Nat.le_of_ble_eq_true rfl) t (fun _ h3 t => ?_)
      obtain ⟨r4, rfl, t⟩ := t
      refine V_icmp_ge (tgt := 26) dX2_hasLeg_19 (by decide) (fun q => ?_) (fun q => ?_)
      · have t := it_t q t
        refine V_iconst (v := 0) dX2_hasLeg_26 rfl ?_
        exact V_zret (b := false) rfl dX2_hasLeg_27 t
      · have t := it_f q t
        refine V_iconst (v := 1) dX2_hasLeg_22 rfl ?_
        refine V_goto (tgt := 27) dX2_hasLeg_23 (by decide) ?_
        exact V_zret (b := true) rfl dX2_hasLeg_27 t
set_option maxRecDepth 20000 in
set_option maxHeartbeats 4000000 in
theorem s_Desk_leg_0 (G : GA) (h : HP) (x1 : Int32) (x2 : Int32) (x3 : Int32) (K : Int32 → HP → Prop) (t :
  P_Found_hasLeg G h x1 x2 (fun (b2 : Bool) (h1 : HP) =>
    if b2 = true then (
      P_Desk_between G h1 x3 0 8 (fun (b4 : Bool) (h3 : HP) =>
        if b4 = true then (
          P_Found_ofLeg G h3 x1 x2 x3 (fun (r6 : Int32) (h5 : HP) =>
            K r6 h5
          )
        ) else (
          K (-2) h3
        )
      )
    ) else (
      K (-2) h1
    )
  )) : P_Desk_leg G h x1 x2 x3 K := by
  refine Sp_of_V pf_X11_leg (Nat.le_of_ble_eq_true rfl) rfl ?_
  refine V_aload_n (q := 0) dX11_leg_0 rfl rfl ?_
  refine V_getr f_X11_69 dX11_leg_1 rfl rfl ?_
  refine V_iload_n (q := 1) dX11_leg_4 rfl rfl ?_
  refine V_iload_n (q := 2) dX11_leg_5 rfl rfl ?_
  refine V_callV [.int x1, .int x2] [] g_X11_leg_X2_hasLeg wi_X2_hasLeg ws_X2_hasLeg dX11_leg_6 rfl rfl rfl rfl rfl (Nat.le_of_ble_eq_true rfl) t (fun _ h1 t => ?_)
  obtain ⟨b2, rfl, t⟩ := t
  refine V_ifb_eq (tgt := 35) dX11_leg_9 (by decide) (fun q => ?_) (fun q => ?_)
  · have t := it_f q t
    refine V_bipush (v := (-2)) dX11_leg_35 rfl ?_
    exact V_iret rfl dX11_leg_37 t
  · have t := it_t q t
    refine V_iload_n (q := 3) dX11_leg_12 rfl rfl ?_
    refine V_iconst (v := 0) dX11_leg_13 rfl ?_
    refine V_bipush (v := 8) dX11_leg_14 rfl ?_
    refine V_callS [.int x3, .int 0, .int 8] [] g_X11_leg_X11_between wt_X11_between dX11_leg_16 rfl rfl (Nat.le_of_ble_eq_true rfl) t (fun _ h3 t => ?_)
    obtain ⟨b4, rfl, t⟩ := t
    refine V_ifb_eq (tgt := 35) dX11_leg_19 (by decide) (fun q => ?_) (fun q => ?_)
    · have t := it_f q t
      refine V_bipush (v := (-2)) dX11_leg_35 rfl ?_
      exact V_iret rfl dX11_leg_37 t
    · have t := it_t q t
      refine V_aload_n (q := 0) dX11_leg_22 rfl rfl ?_
      refine V_getr f_X11_69 dX11_leg_23 rfl rfl ?_
      refine V_iload_n (q := 1) dX11_leg_26 rfl rfl ?_
      refine V_iload_n (q := 2) dX11_leg_27 rfl rfl ?_
      refine V_iload_n (q := 3) dX11_leg_28 rfl rfl ?_
      refine V_callV [.int x1, .int x2, .int x3] [] g_X11_leg_X2_ofLeg wi_X2_ofLeg ws_X2_ofLeg dX11_leg_29 rfl rfl rfl rfl rfl (Nat.le_of_ble_eq_true rfl) t (fun _ h5 t => ?_)
      obtain ⟨r6, rfl, t⟩ := t
      refine V_goto (tgt := 37) dX11_leg_32 (by decide) ?_
      exact V_iret rfl dX11_leg_37 t
set_option maxRecDepth 20000 in
set_option maxHeartbeats 4000000 in
theorem s_Places_newRow_0 (G : GA) (h : HP) (x1 : Int32) (x2 : Int32) (K : Int32 → HP → Prop) (t :
  if (h 31 2) < 90 then (
    vp_in (h 31 2) 90 ∧
    ∀ h1 : HP, h1 = up h 32 (tn (h 31 2)) ((x1 * 100) + x2) →
    ∀ h3 : HP, h3 = up h1 31 2 ((h 31 2) + 1) →
    K (h 31 2) h3
  ) else (
    K (-1) h
  )) : P_Places_newRow G h x1 x2 K := by
  refine Sp_of_V pf_X3_newRow (Nat.le_of_ble_eq_true rfl) rfl ?_
  refine V_aload_n (q := 0) dX3_newRow_0 rfl rfl ?_
  refine V_geti f_X3_25 dX3_newRow_1 rfl rfl ?_
  refine V_aload_n (q := 0) dX3_newRow_4 rfl rfl ?_
  refine V_getr f_X3_9 dX3_newRow_5 rfl rfl ?_
  refine V_alen (v := 90) dX3_newRow_8 rfl rfl ?_
  refine V_icmp_lt (tgt := 14) dX3_newRow_9 (by decide) (fun q => ?_) (fun q => ?_)
  · have t := it_t q t
    refine V_aload_n (q := 0) dX3_newRow_14 rfl rfl ?_
    refine V_getr f_X3_9 dX3_newRow_15 rfl rfl ?_
    refine V_aload_n (q := 0) dX3_newRow_18 rfl rfl ?_
    refine V_geti f_X3_25 dX3_newRow_19 rfl rfl ?_
    refine V_iload_n (q := 1) dX3_newRow_22 rfl rfl ?_
    refine V_bipush (v := 100) dX3_newRow_23 rfl ?_
    refine V_imul dX3_newRow_25 ?_
    refine V_iload_n (q := 2) dX3_newRow_26 rfl rfl ?_
    refine V_iadd dX3_newRow_27 ?_
    obtain ⟨n2, t⟩ := t
    have t := t _ rfl
    refine V_iast dX3_newRow_28 rfl n2 ?_
    refine V_aload_n (q := 0) dX3_newRow_29 rfl rfl ?_
    refine V_dup dX3_newRow_30 rfl ?_
    refine V_geti f_X3_25 dX3_newRow_31 rfl rfl ?_
    refine V_dup_x1 dX3_newRow_34 rfl rfl ?_
    refine V_iconst (v := 1) dX3_newRow_35 rfl ?_
    refine V_iadd dX3_newRow_36 ?_
    have t := t _ rfl
    refine V_put f_X3_25 p_X3_2 dX3_newRow_37 rfl rfl ?_
    exact V_iret rfl dX3_newRow_40 t
  · have t := it_f q t
    refine V_iconst (v := (-1)) dX3_newRow_12 rfl ?_
    exact V_iret rfl dX3_newRow_13 t
set_option maxRecDepth 20000 in
set_option maxHeartbeats 4000000 in
theorem s_Places_change_0 (G : GA) (h : HP) (x1 : Int32) (x2 : Int32) (x3 : Int32) (x4 : Int32) (x5 : Int32) (K : HP → Prop) (t :
  P_Places_rowOf G h x1 x2 (fun (r2 : Int32) (h1 : HP) =>
    if 0 ≤ r2 then (
      H_Places_change_24 G h1 x4 x5 r2 x3 K
    ) else (
      P_Places_newRow G h1 x1 x2 (fun (r4 : Int32) (h3 : HP) =>
        H_Places_change_24 G h3 x4 x5 r4 x3 K
      )
    )
  )) : P_Places_change G h x1 x2 x3 x4 x5 K := by
  refine Sp_of_V pf_X3_change (Nat.le_of_ble_eq_true rfl) rfl ?_
  refine V_aload_n (q := 0) dX3_change_0 rfl rfl ?_
  refine V_iload_n (q := 1) dX3_change_1 rfl rfl ?_
  refine V_iload_n (q := 2) dX3_change_2 rfl rfl ?_
  refine V_callV [.int x1, .int x2] [] g_X3_change_X3_rowOf wi_X3_rowOf ws_X3_rowOf dX3_change_3 rfl rfl rfl rfl rfl (Nat.le_of_ble_eq_true rfl) t (fun _ h1 t => ?_)
  obtain ⟨r2, rfl, t⟩ := t
  refine V_istore (L' := [(0, .ref (G.1 31)), (1, .int x1), (2, .int x2), (3, .int x3), (4, .int x4), (5, .int x5), (6, .int r2)]) dX3_change_6 (by decide) rfl rfl ?_
  refine V_iload (q := 6) dX3_change_8 rfl ?_
  refine V_if_ge (tgt := 21) dX3_change_10 (by decide) (fun q => ?_) (fun q => ?_)
  · have t := it_t q t
    refine V_iload_n (q := 3) dX3_change_21 rfl rfl ?_
    refine V_istore (L' := [(0, .ref (G.1 31)), (1, .int x1), (2, .int x2), (3, .int x3), (4, .int x4), (5, .int x5), (6, .int r2), (7, .int x3)]) dX3_change_22 (by decide) rfl rfl ?_
    refine V_pick (L' := [(0, .ref (G.1 31)), (4, .int x4), (5, .int x5), (6, .int r2), (7, .int x3)]) [0, 4, 5, 6, 7] rfl ?_
    exact t
  · have t := it_f q t
    refine V_aload_n (q := 0) dX3_change_13 rfl rfl ?_
    refine V_iload_n (q := 1) dX3_change_14 rfl rfl ?_
    refine V_iload_n (q := 2) dX3_change_15 rfl rfl ?_
    refine V_callV [.int x1, .int x2] [] g_X3_change_X3_newRow wi_X3_newRow ws_X3_newRow dX3_change_16 rfl rfl rfl rfl rfl (Nat.le_of_ble_eq_true rfl) t (fun _ h3 t => ?_)
    obtain ⟨r4, rfl, t⟩ := t
    refine V_istore (L' := [(0, .ref (G.1 31)), (1, .int x1), (2, .int x2), (3, .int x3), (4, .int x4), (5, .int x5), (6, .int r4)]) dX3_change_19 (by decide) rfl rfl ?_
    refine V_iload_n (q := 3) dX3_change_21 rfl rfl ?_
    refine V_istore (L' := [(0, .ref (G.1 31)), (1, .int x1), (2, .int x2), (3, .int x3), (4, .int x4), (5, .int x5), (6, .int r4), (7, .int x3)]) dX3_change_22 (by decide) rfl rfl ?_
    refine V_pick (L' := [(0, .ref (G.1 31)), (4, .int x4), (5, .int x5), (6, .int r4), (7, .int x3)]) [0, 4, 5, 6, 7] rfl ?_
    exact t
set_option maxRecDepth 20000 in
set_option maxHeartbeats 4000000 in
theorem s_Places_change_24 (G : GA) (h : HP) (x4 : Int32) (x5 : Int32) (x6 : Int32) (x7 : Int32) (K : HP → Prop) (t :
  if x6 < 0 then (
    K h
  ) else (
    if x4 ≤ x7 then (
      K h
    ) else (
      vp_in ((x6 * 8) + x7) 720 ∧
      ∀ h2 : HP, h2 = up h 33 (tn ((x6 * 8) + x7)) ((h 33 (tn ((x6 * 8) + x7))) + x5) →
      H_Places_change_24 G h2 x4 x5 x6 (x7 + 1) K
    )
  )) : H_Places_change_24 G h x4 x5 x6 x7 K := by
  unfold H_Places_change_24
  refine V_iload (q := 3) dX3_change_24 rfl ?_
  refine V_if_lt (tgt := 60) dX3_change_26 (by decide) (fun q => ?_) (fun q => ?_)
  · have t := it_t q t
    exact V_vret rfl dX3_change_60 t
  · have t := it_f q t
    refine V_iload (q := 4) dX3_change_29 rfl ?_
    refine V_iload (q := 1) dX3_change_31 rfl ?_
    refine V_icmp_ge (tgt := 60) dX3_change_33 (by decide) (fun q => ?_) (fun q => ?_)
    · have t := it_t q t
      exact V_vret rfl dX3_change_60 t
    · have t := it_f q t
      refine V_aload_n (q := 0) dX3_change_36 rfl rfl ?_
      refine V_getr f_X3_15 dX3_change_37 rfl rfl ?_
      refine V_iload (q := 3) dX3_change_40 rfl ?_
      refine V_bipush (v := 8) dX3_change_42 rfl ?_
      refine V_imul dX3_change_44 ?_
      refine V_iload (q := 4) dX3_change_45 rfl ?_
      refine V_iadd dX3_change_47 ?_
      refine V_dup2 dX3_change_48 rfl rfl ?_
      obtain ⟨n1, t⟩ := t
      refine V_iald dX3_change_49 rfl n1 ?_
      refine V_iload (q := 2) dX3_change_50 rfl ?_
      refine V_iadd dX3_change_52 ?_
      have t := t _ rfl
      refine V_iast dX3_change_53 rfl n1 ?_
      refine V_iinc (L' := [(0, .ref (G.1 31)), (4, .int x4), (5, .int x5), (6, .int x6), (7, .int (x7 + 1))]) (q := 4) (a := 1) dX3_change_54 rfl rfl (by decide) rfl rfl ?_
      refine V_goto (tgt := 24) dX3_change_57 (by decide) ?_
      exact t
set_option maxRecDepth 20000 in
set_option maxHeartbeats 4000000 in
theorem s_Tickets_changePlaces_0 (G : GA) (h : HP) (x1 : Int32) (x2 : Int32) (K : HP → Prop) (t :
  H_Tickets_changePlaces_2 G h x1 x2 0 K) : P_Tickets_changePlaces G h x1 x2 K := by
  refine Sp_of_V pf_X8_changePlaces (Nat.le_of_ble_eq_true rfl) rfl ?_
  refine V_iconst (v := 0) dX8_changePlaces_0 rfl ?_
  refine V_istore_n (L' := [(0, .ref (G.1 34)), (1, .int x1), (2, .int x2), (3, .int 0)]) dX8_changePlaces_1 rfl (by decide) rfl rfl ?_
  exact t
set_option maxRecDepth 20000 in
set_option maxHeartbeats 4000000 in
theorem s_Tickets_changePlaces_2 (G : GA) (h : HP) (x1 : Int32) (x2 : Int32) (x3 : Int32) (K : HP → Prop) (t :
  vp_in x1 30 ∧
  if (h 36 (tn x1)) ≤ x3 then (
    K h
  ) else (
    vp_in ((x1 * 7) + x3) 210 ∧
    if (h 39 (tn ((x1 * 7) + x3))) < 0 then (
      H_Tickets_changePlaces_2 G h x1 x2 (x3 + 1) K
    ) else (
      vp_in (h 38 (tn ((x1 * 7) + x3))) 24 ∧
      if (h 12 (tn (h 38 (tn ((x1 * 7) + x3))))) = 0 then (
        H_Tickets_changePlaces_2 G h x1 x2 (x3 + 1) K
      ) else (
        P_Places_change G h (h 38 (tn ((x1 * 7) + x3))) (h 39 (tn ((x1 * 7) + x3))) (h 40 (tn ((x1 * 7) + x3))) (h 41 (tn ((x1 * 7) + x3))) x2 (fun h4 : HP =>
          H_Tickets_changePlaces_2 G h4 x1 x2 (x3 + 1) K
        )
      )
    )
  )) : H_Tickets_changePlaces_2 G h x1 x2 x3 K := by
  unfold H_Tickets_changePlaces_2
  refine V_iload_n (q := 3) dX8_changePlaces_2 rfl rfl ?_
  refine V_aload_n (q := 0) dX8_changePlaces_3 rfl rfl ?_
  refine V_getr f_X8_15 dX8_changePlaces_4 rfl rfl ?_
  refine V_iload_n (q := 1) dX8_changePlaces_7 rfl rfl ?_
  obtain ⟨n1, t⟩ := t
  refine V_iald dX8_changePlaces_8 rfl n1 ?_
  refine V_icmp_ge (tgt := 90) dX8_changePlaces_9 (by decide) (fun q => ?_) (fun q => ?_)
  · have t := it_t q t
    exact V_vret rfl dX8_changePlaces_90 t
  · have t := it_f q t
    refine V_iload_n (q := 1) dX8_changePlaces_12 rfl rfl ?_
    refine V_bipush (v := 7) dX8_changePlaces_13 rfl ?_
    refine V_imul dX8_changePlaces_15 ?_
    refine V_iload_n (q := 3) dX8_changePlaces_16 rfl rfl ?_
    refine V_iadd dX8_changePlaces_17 ?_
    refine V_istore (L' := [(0, .ref (G.1 34)), (1, .int x1), (2, .int x2), (3, .int x3), (4, .int ((x1 * 7) + x3))]) dX8_changePlaces_18 (by decide) rfl rfl ?_
    refine V_aload_n (q := 0) dX8_changePlaces_20 rfl rfl ?_
    refine V_getr f_X8_25 dX8_changePlaces_21 rfl rfl ?_
    refine V_iload (q := 4) dX8_changePlaces_24 rfl ?_
    obtain ⟨n2, t⟩ := t
    refine V_iald dX8_changePlaces_26 rfl n2 ?_
    refine V_if_lt (tgt := 84) dX8_changePlaces_27 (by decide) (fun q => ?_) (fun q => ?_)
    · have t := it_t q t
      refine V_iinc (L' := [(0, .ref (G.1 34)), (1, .int x1), (2, .int x2), (3, .int (x3 + 1)), (4, .int ((x1 * 7) + x3))]) (q := 3) (a := 1) dX8_changePlaces_84 rfl rfl (by decide) rfl rfl ?_
      refine V_goto (tgt := 2) dX8_changePlaces_87 (by decide) ?_
      refine V_pick (L' := [(0, .ref (G.1 34)), (1, .int x1), (2, .int x2), (3, .int (x3 + 1))]) [0, 1, 2, 3] rfl ?_
      exact t
    · have t := it_f q t
      refine V_aload_n (q := 0) dX8_changePlaces_30 rfl rfl ?_
      refine V_getr f_X8_38 dX8_changePlaces_31 rfl rfl ?_
      refine V_getr f_X8_112 dX8_changePlaces_34 rfl rfl ?_
      refine V_aload_n (q := 0) dX8_changePlaces_37 rfl rfl ?_
      refine V_getr f_X8_22 dX8_changePlaces_38 rfl rfl ?_
      refine V_iload (q := 4) dX8_changePlaces_41 rfl ?_
      refine V_iald dX8_changePlaces_43 rfl n2 ?_
      obtain ⟨n3, t⟩ := t
      refine V_iald dX8_changePlaces_44 rfl n3 ?_
      refine V_if_eq (tgt := 84) dX8_changePlaces_45 (by decide) (fun q => ?_) (fun q => ?_)
      · have t := it_t q t
        refine V_iinc (L' := [(0, .ref (G.1 34)), (1, .int x1), (2, .int x2), (3, .int (x3 + 1)), (4, .int ((x1 * 7) + x3))]) (q := 3) (a := 1) dX8_changePlaces_84 rfl rfl (by decide) rfl rfl ?_
        refine V_goto (tgt := 2) dX8_changePlaces_87 (by decide) ?_
        refine V_pick (L' := [(0, .ref (G.1 34)), (1, .int x1), (2, .int x2), (3, .int (x3 + 1))]) [0, 1, 2, 3] rfl ?_
        exact t
      · have t := it_f q t
        refine V_aload_n (q := 0) dX8_changePlaces_48 rfl rfl ?_
        refine V_getr f_X8_46 dX8_changePlaces_49 rfl rfl ?_
        refine V_aload_n (q := 0) dX8_changePlaces_52 rfl rfl ?_
        refine V_getr f_X8_22 dX8_changePlaces_53 rfl rfl ?_
        refine V_iload (q := 4) dX8_changePlaces_56 rfl ?_
        refine V_iald dX8_changePlaces_58 rfl n2 ?_
        refine V_aload_n (q := 0) dX8_changePlaces_59 rfl rfl ?_
        refine V_getr f_X8_25 dX8_changePlaces_60 rfl rfl ?_
        refine V_iload (q := 4) dX8_changePlaces_63 rfl ?_
        refine V_iald dX8_changePlaces_65 rfl n2 ?_
        refine V_aload_n (q := 0) dX8_changePlaces_66 rfl rfl ?_
        refine V_getr f_X8_28 dX8_changePlaces_67 rfl rfl ?_
        refine V_iload (q := 4) dX8_changePlaces_70 rfl ?_
        refine V_iald dX8_changePlaces_72 rfl n2 ?_
        refine V_aload_n (q := 0) dX8_changePlaces_73 rfl rfl ?_
        refine V_getr f_X8_31 dX8_changePlaces_74 rfl rfl ?_
        refine V_iload (q := 4) dX8_changePlaces_77 rfl ?_
        refine V_iald dX8_changePlaces_79 rfl n2 ?_
        refine V_iload_n (q := 2) dX8_changePlaces_80 rfl rfl ?_
        refine V_callV [.int (h 38 (tn ((x1 * 7) + x3))), .int (h 39 (tn ((x1 * 7) + x3))), .int (h 40 (tn ((x1 * 7) + x3))), .int (h 41 (tn ((x1 * 7) + x3))), .int x2] [] g_X8_changePlaces_X3_change wi_X3_change ws_X3_change dX8_changePlaces_81 rfl rfl rfl rfl rfl (Nat.le_of_ble_eq_true rfl) t (fun _ h4 t => ?_)
        obtain ⟨rfl, t⟩ := t
        refine V_iinc (L' := [(0, .ref (G.1 34)), (1, .int x1), (2, .int x2), (3, .int (x3 + 1)), (4, .int ((x1 * 7) + x3))]) (q := 3) (a := 1) dX8_changePlaces_84 rfl rfl (by decide) rfl rfl ?_
        refine V_goto (tgt := 2) dX8_changePlaces_87 (by decide) ?_
        refine V_pick (L' := [(0, .ref (G.1 34)), (1, .int x1), (2, .int x2), (3, .int (x3 + 1))]) [0, 1, 2, 3] rfl ?_
        exact t
set_option maxRecDepth 20000 in
set_option maxHeartbeats 4000000 in
theorem s_Found_ridesOver_0 (G : GA) (h : HP) (x1 : Int32) (x2 : Int32) (x3 : Int32) (x4 : Int32) (K : Int32 → HP → Prop) (t :
  H_Found_ridesOver_6 G h x1 x2 x3 x4 0 0 K) : P_Found_ridesOver G h x1 x2 x3 x4 K := by
  refine Sp_of_V pf_X2_ridesOver (Nat.le_of_ble_eq_true rfl) rfl ?_
  refine V_iconst (v := 0) dX2_ridesOver_0 rfl ?_
  refine V_istore (L' := [(0, .ref (G.1 54)), (1, .int x1), (2, .int x2), (3, .int x3), (4, .int x4), (5, .int 0)]) dX2_ridesOver_1 (by decide) rfl rfl ?_
  refine V_iconst (v := 0) dX2_ridesOver_3 rfl ?_
  refine V_istore (L' := [(0, .ref (G.1 54)), (1, .int x1), (2, .int x2), (3, .int x3), (4, .int x4), (5, .int 0), (6, .int 0)]) dX2_ridesOver_4 (by decide) rfl rfl ?_
  exact t
set_option maxRecDepth 20000 in
set_option maxHeartbeats 4000000 in
theorem s_Found_ridesOver_6 (G : GA) (h : HP) (x1 : Int32) (x2 : Int32) (x3 : Int32) (x4 : Int32) (x5 : Int32) (x6 : Int32) (K : Int32 → HP → Prop) (t :
  P_Found_ofWay G h x1 4 (fun (r2 : Int32) (h1 : HP) =>
    if r2 ≤ x6 then (
      K x5 h1
    ) else (
      P_Found_ofLeg G h1 x1 x6 1 (fun (r4 : Int32) (h3 : HP) =>
        if r4 = x2 then (
          P_Found_ofLeg G h3 x1 x6 6 (fun (r6 : Int32) (h5 : HP) =>
            if r6 = x3 then (
              P_Found_ofLeg G h5 x1 x6 7 (fun (r8 : Int32) (h7 : HP) =>
                if x4 < r8 then (
                  H_Found_ridesOver_6 G h7 x1 x2 x3 x4 x5 (x6 + 1) K
                ) else (
                  P_Found_ofLeg G h7 x1 x6 8 (fun (r10 : Int32) (h9 : HP) =>
                    if r10 ≤ x4 then (
                      H_Found_ridesOver_6 G h9 x1 x2 x3 x4 x5 (x6 + 1) K
                    ) else (
                      H_Found_ridesOver_6 G h9 x1 x2 x3 x4 (x5 + 1) (x6 + 1) K
                    )
                  )
                )
              )
            ) else (
              H_Found_ridesOver_6 G h5 x1 x2 x3 x4 x5 (x6 + 1) K
            )
          )
        ) else (
          H_Found_ridesOver_6 G h3 x1 x2 x3 x4 x5 (x6 + 1) K
        )
      )
    )
  )) : H_Found_ridesOver_6 G h x1 x2 x3 x4 x5 x6 K := by
  unfold H_Found_ridesOver_6
  refine V_iload (q := 6) dX2_ridesOver_6 rfl ?_
  refine V_aload_n (q := 0) dX2_ridesOver_8 rfl rfl ?_
  refine V_iload_n (q := 1) dX2_ridesOver_9 rfl rfl ?_
  refine V_iconst (v := 4) dX2_ridesOver_10 rfl ?_
  refine V_callV [.int x1, .int 4] [.int x6] g_X2_ridesOver_X2_ofWay wi_X2_ofWay ws_X2_ofWay dX2_ridesOver_11 rfl rfl rfl rfl rfl (Nat.le_of_ble_eq_true rfl) t (fun _ h1 t => ?_)
  obtain ⟨r2, rfl, t⟩ := t
  refine V_icmp_ge (tgt := 79) dX2_ridesOver_14 (by decide) (fun q => ?_) (fun q => ?_)
  · have t := it_t q t
    refine V_iload (q := 5) dX2_ridesOver_79 rfl ?_
    exact V_iret rfl dX2_ridesOver_81 t
  · have t := it_f q t
    refine V_aload_n (q := 0) dX2_ridesOver_17 rfl rfl ?_
    refine V_iload_n (q := 1) dX2_ridesOver_18 rfl rfl ?_
    refine V_iload (q := 6) dX2_ridesOver_19 rfl ?_
    refine V_iconst (v := 1) dX2_ridesOver_21 rfl ?_
    refine V_callV [.int x1, .int x6, .int 1] [] g_X2_ridesOver_X2_ofLeg wi_X2_ofLeg ws_X2_ofLeg dX2_ridesOver_22 rfl rfl rfl rfl rfl (Nat.le_of_ble_eq_true rfl) t (fun _ h3 t => ?_)
    obtain ⟨r4, rfl, t⟩ := t
    refine V_iload_n (q := 2) dX2_ridesOver_25 rfl rfl ?_
    refine V_icmp_ne (tgt := 73) dX2_ridesOver_26 (by decide) (fun q => ?_) (fun q => ?_)
    · have t := it_f q t
      refine V_iinc (L' := [(0, .ref (G.1 54)), (1, .int x1), (2, .int x2), (3, .int x3), (4, .int x4), (5, .int x5), (6, .int (x6 + 1))]) (q := 6) (a := 1) dX2_ridesOver_73 rfl rfl (by decide) rfl rfl ?_
      refine V_goto (tgt := 6) dX2_ridesOver_76 (by decide) ?_
      exact t
    · have t := it_t q t
      refine V_aload_n (q := 0) dX2_ridesOver_29 rfl rfl ?_
      refine V_iload_n (q := 1) dX2_ridesOver_30 rfl rfl ?_
      refine V_iload (q := 6) dX2_ridesOver_31 rfl ?_
      refine V_bipush (v := 6) dX2_ridesOver_33 rfl ?_
      refine V_callV [.int x1, .int x6, .int 6] [] g_X2_ridesOver_X2_ofLeg wi_X2_ofLeg ws_X2_ofLeg dX2_ridesOver_35 rfl rfl rfl rfl rfl (Nat.le_of_ble_eq_true rfl) t (fun _ h5 t => ?_)
      obtain ⟨r6, rfl, t⟩ := t
      refine V_iload_n (q := 3) dX2_ridesOver_38 rfl rfl ?_
      refine V_icmp_ne (tgt := 73) dX2_ridesOver_39 (by decide) (fun q => ?_) (fun q => ?_)
      · have t := it_f q t
        refine V_iinc (L' := [(0, .ref (G.1 54)), (1, .int x1), (2, .int x2), (3, .int x3), (4, .int x4), (5, .int x5), (6, .int (x6 + 1))]) (q := 6) (a := 1) dX2_ridesOver_73 rfl rfl (by decide) rfl rfl ?_
        refine V_goto (tgt := 6) dX2_ridesOver_76 (by decide) ?_
        exact t
      · have t := it_t q t
        refine V_aload_n (q := 0) dX2_ridesOver_42 rfl rfl ?_
        refine V_iload_n (q := 1) dX2_ridesOver_43 rfl rfl ?_
        refine V_iload (q := 6) dX2_ridesOver_44 rfl ?_
        refine V_bipush (v := 7) dX2_ridesOver_46 rfl ?_
        refine V_callV [.int x1, .int x6, .int 7] [] g_X2_ridesOver_X2_ofLeg wi_X2_ofLeg ws_X2_ofLeg dX2_ridesOver_48 rfl rfl rfl rfl rfl (Nat.le_of_ble_eq_true rfl) t (fun _ h7 t => ?_)
        obtain ⟨r8, rfl, t⟩ := t
        refine V_iload (q := 4) dX2_ridesOver_51 rfl ?_
        refine V_icmp_gt (tgt := 73) dX2_ridesOver_53 (by decide) (fun q => ?_) (fun q => ?_)
        · have t := it_t q t
          refine V_iinc (L' := [(0, .ref (G.1 54)), (1, .int x1), (2, .int x2), (3, .int x3), (4, .int x4), (5, .int x5), (6, .int (x6 + 1))]) (q := 6) (a := 1) dX2_ridesOver_73 rfl rfl (by decide) rfl rfl ?_
          refine V_goto (tgt := 6) dX2_ridesOver_76 (by decide) ?_
          exact t
        · have t := it_f q t
          refine V_iload (q := 4) dX2_ridesOver_56 rfl ?_
          refine V_aload_n (q := 0) dX2_ridesOver_58 rfl rfl ?_
          refine V_iload_n (q := 1) dX2_ridesOver_59 rfl rfl ?_
          refine V_iload (q := 6) dX2_ridesOver_60 rfl ?_
          refine V_bipush (v := 8) dX2_ridesOver_62 rfl ?_
          refine V_callV [.int x1, .int x6, .int 8] [.int x4] g_X2_ridesOver_X2_ofLeg wi_X2_ofLeg ws_X2_ofLeg dX2_ridesOver_64 rfl rfl rfl rfl rfl (Nat.le_of_ble_eq_true rfl) t (fun _ h9 t => ?_)
          obtain ⟨r10, rfl, t⟩ := t
          refine V_icmp_ge (tgt := 73) dX2_ridesOver_67 (by decide) (fun q => ?_) (fun q => ?_)
          · have t := it_t q t
            refine V_iinc (L' := [(0, .ref (G.1 54)), (1, .int x1), (2, .int x2), (3, .int x3), (4, .int x4), (5, .int x5), (6, .int (x6 + 1))]) (q := 6) (a := 1) dX2_ridesOver_73 rfl rfl (by decide) rfl rfl ?_
            refine V_goto (tgt := 6) dX2_ridesOver_76 (by decide) ?_
            exact t
          · have t := it_f q t
            refine V_iinc (L' := [(0, .ref (G.1 54)), (1, .int x1), (2, .int x2), (3, .int x3), (4, .int x4), (5, .int (x5 + 1)), (6, .int x6)]) (q := 5) (a := 1) dX2_ridesOver_70 rfl rfl (by decide) rfl rfl ?_
            refine V_iinc (L' := [(0, .ref (G.1 54)), (1, .int x1), (2, .int x2), (3, .int x3), (4, .int x4), (5, .int (x5 + 1)), (6, .int (x6 + 1))]) (q := 6) (a := 1) dX2_ridesOver_73 rfl rfl (by decide) rfl rfl ?_
            refine V_goto (tgt := 6) dX2_ridesOver_76 (by decide) ?_
            exact t
set_option maxRecDepth 20000 in
set_option maxHeartbeats 4000000 in
theorem s_Places_at_0 (G : GA) (h : HP) (x1 : Int32) (x2 : Int32) (x3 : Int32) (K : Int32 → HP → Prop) (t :
  P_Places_rowOf G h x1 x2 (fun (r2 : Int32) (h1 : HP) =>
    if 0 ≤ r2 then (
      vp_in ((r2 * 8) + x3) 720 ∧
      K (h1 33 (tn ((r2 * 8) + x3))) h1
    ) else (
      K 0 h1
    )
  )) : P_Places_at G h x1 x2 x3 K := by
  refine Sp_of_V pf_X3_at (Nat.le_of_ble_eq_true rfl) rfl ?_
  refine V_aload_n (q := 0) dX3_at_0 rfl rfl ?_
  refine V_iload_n (q := 1) dX3_at_1 rfl rfl ?_
  refine V_iload_n (q := 2) dX3_at_2 rfl rfl ?_
  refine V_callV [.int x1, .int x2] [] g_X3_at_X3_rowOf wi_X3_rowOf ws_X3_rowOf dX3_at_3 rfl rfl rfl rfl rfl (Nat.le_of_ble_eq_true rfl) t (fun _ h1 t => ?_)
  obtain ⟨r2, rfl, t⟩ := t
  refine V_istore (L' := [(0, .ref (G.1 31)), (1, .int x1), (2, .int x2), (3, .int x3), (4, .int r2)]) dX3_at_6 (by decide) rfl rfl ?_
  refine V_iload (q := 4) dX3_at_8 rfl ?_
  refine V_if_ge (tgt := 17) dX3_at_10 (by decide) (fun q => ?_) (fun q => ?_)
  · have t := it_t q t
    refine V_aload_n (q := 0) dX3_at_17 rfl rfl ?_
    refine V_getr f_X3_15 dX3_at_18 rfl rfl ?_
    refine V_iload (q := 4) dX3_at_21 rfl ?_
    refine V_bipush (v := 8) dX3_at_23 rfl ?_
    refine V_imul dX3_at_25 ?_
    refine V_iload_n (q := 3) dX3_at_26 rfl rfl ?_
    refine V_iadd dX3_at_27 ?_
    obtain ⟨n3, t⟩ := t
    refine V_iald dX3_at_28 rfl n3 ?_
    exact V_iret rfl dX3_at_29 t
  · have t := it_f q t
    refine V_iconst (v := 0) dX3_at_13 rfl ?_
    refine V_goto (tgt := 29) dX3_at_14 (by decide) ?_
    exact V_iret rfl dX3_at_29 t
set_option maxRecDepth 20000 in
set_option maxHeartbeats 4000000 in
theorem s_Tickets_hasPlacesOn_0 (G : GA) (h : HP) (x2 : Int32) (x3 : Int32) (K : Bool → HP → Prop) (t :
  P_Found_ofLeg G h x2 x3 1 (fun (r2 : Int32) (h1 : HP) =>
    P_Found_ofLeg G h1 x2 x3 6 (fun (r4 : Int32) (h3 : HP) =>
      P_Found_ofLeg G h3 x2 x3 7 (fun (r6 : Int32) (h5 : HP) =>
        H_Tickets_hasPlacesOn_29 G h5 x2 x3 r2 r4 r6 K
      )
    )
  )) : P_Tickets_hasPlacesOn G h x2 x3 K := by
  refine Sp_of_V pf_X8_hasPlacesOn (Nat.le_of_ble_eq_true rfl) rfl ?_
  refine V_aload_n (q := 1) dX8_hasPlacesOn_0 rfl rfl ?_
  refine V_iload_n (q := 2) dX8_hasPlacesOn_1 rfl rfl ?_
  refine V_iload_n (q := 3) dX8_hasPlacesOn_2 rfl rfl ?_
  refine V_iconst (v := 1) dX8_hasPlacesOn_3 rfl ?_
  refine V_callV [.int x2, .int x3, .int 1] [] g_X8_hasPlacesOn_X2_ofLeg wi_X2_ofLeg ws_X2_ofLeg dX8_hasPlacesOn_4 rfl rfl rfl rfl rfl (Nat.le_of_ble_eq_true rfl) t (fun _ h1 t => ?_)
  obtain ⟨r2, rfl, t⟩ := t
  refine V_istore (L' := [(0, .ref (G.1 34)), (1, .ref (G.1 54)), (2, .int x2), (3, .int x3), (4, .int r2)]) dX8_hasPlacesOn_7 (by decide) rfl rfl ?_
  refine V_aload_n (q := 1) dX8_hasPlacesOn_9 rfl rfl ?_
  refine V_iload_n (q := 2) dX8_hasPlacesOn_10 rfl rfl ?_
  refine V_iload_n (q := 3) dX8_hasPlacesOn_11 rfl rfl ?_
  refine V_bipush (v := 6) dX8_hasPlacesOn_12 rfl ?_
  refine V_callV [.int x2, .int x3, .int 6] [] g_X8_hasPlacesOn_X2_ofLeg wi_X2_ofLeg ws_X2_ofLeg dX8_hasPlacesOn_14 rfl rfl rfl rfl rfl (Nat.le_of_ble_eq_true rfl) t (fun _ h3 t => ?_)
  obtain ⟨r4, rfl, t⟩ := t
  refine V_istore (L' := [(0, .ref (G.1 34)), (1, .ref (G.1 54)), (2, .int x2), (3, .int x3), (4, .int r2), (5, .int r4)]) dX8_hasPlacesOn_17 (by decide) rfl rfl ?_
  refine V_aload_n (q := 1) dX8_hasPlacesOn_19 rfl rfl ?_
  refine V_iload_n (q := 2) dX8_hasPlacesOn_20 rfl rfl ?_
  refine V_iload_n (q := 3) dX8_hasPlacesOn_21 rfl rfl ?_
  refine V_bipush (v := 7) dX8_hasPlacesOn_22 rfl ?_
  refine V_callV [.int x2, .int x3, .int 7] [] g_X8_hasPlacesOn_X2_ofLeg wi_X2_ofLeg ws_X2_ofLeg dX8_hasPlacesOn_24 rfl rfl rfl rfl rfl (Nat.le_of_ble_eq_true rfl) t (fun _ h5 t => ?_)
  obtain ⟨r6, rfl, t⟩ := t
  refine V_istore (L' := [(0, .ref (G.1 34)), (1, .ref (G.1 54)), (2, .int x2), (3, .int x3), (4, .int r2), (5, .int r4), (6, .int r6)]) dX8_hasPlacesOn_27 (by decide) rfl rfl ?_
  exact t
set_option maxRecDepth 20000 in
set_option maxHeartbeats 4000000 in
theorem s_Tickets_hasPlacesOn_29 (G : GA) (h : HP) (x2 : Int32) (x3 : Int32) (x4 : Int32) (x5 : Int32) (x6 : Int32) (K : Bool → HP → Prop) (t :
  P_Found_ofLeg G h x2 x3 8 (fun (r2 : Int32) (h1 : HP) =>
    if r2 ≤ x6 then (
      K true h1
    ) else (
      P_Places_at G h1 x4 x5 x6 (fun (r4 : Int32) (h3 : HP) =>
        P_Found_ridesOver G h3 x2 x4 x5 x6 (fun (r6 : Int32) (h5 : HP) =>
          vp_in x4 24 ∧
          if (r4 + r6) ≤ (h5 14 (tn x4)) then (
            H_Tickets_hasPlacesOn_29 G h5 x2 x3 x4 x5 (x6 + 1) K
          ) else (
            K false h5
          )
        )
      )
    )
  )) : H_Tickets_hasPlacesOn_29 G h x2 x3 x4 x5 x6 K := by
  unfold H_Tickets_hasPlacesOn_29
  refine V_iload (q := 6) dX8_hasPlacesOn_29 rfl ?_
  refine V_aload_n (q := 1) dX8_hasPlacesOn_31 rfl rfl ?_
  refine V_iload_n (q := 2) dX8_hasPlacesOn_32 rfl rfl ?_
  refine V_iload_n (q := 3) dX8_hasPlacesOn_33 rfl rfl ?_
  refine V_bipush (v := 8) dX8_hasPlacesOn_34 rfl ?_
  refine V_callV [.int x2, .int x3, .int 8] [.int x6] g_X8_hasPlacesOn_X2_ofLeg wi_X2_ofLeg ws_X2_ofLeg dX8_hasPlacesOn_36 rfl rfl rfl rfl rfl (Nat.le_of_ble_eq_true rfl) t (fun _ h1 t => ?_)
  obtain ⟨r2, rfl, t⟩ := t
  refine V_icmp_ge (tgt := 92) dX8_hasPlacesOn_39 (by decide) (fun q => ?_) (fun q => ?_)
  · have t := it_t q t
    refine V_iconst (v := 1) dX8_hasPlacesOn_92 rfl ?_
    exact V_zret (b := true) rfl dX8_hasPlacesOn_93 t
  · have t := it_f q t
    refine V_aload_n (q := 0) dX8_hasPlacesOn_42 rfl rfl ?_
    refine V_getr f_X8_46 dX8_hasPlacesOn_43 rfl rfl ?_
    refine V_iload (q := 4) dX8_hasPlacesOn_46 rfl ?_
    refine V_iload (q := 5) dX8_hasPlacesOn_48 rfl ?_
    refine V_iload (q := 6) dX8_hasPlacesOn_50 rfl ?_
    refine V_callV [.int x4, .int x5, .int x6] [] g_X8_hasPlacesOn_X3_at wi_X3_at ws_X3_at dX8_hasPlacesOn_52 rfl rfl rfl rfl rfl (Nat.le_of_ble_eq_true rfl) t (fun _ h3 t => ?_)
    obtain ⟨r4, rfl, t⟩ := t
    refine V_aload_n (q := 1) dX8_hasPlacesOn_55 rfl rfl ?_
    refine V_iload_n (q := 2) dX8_hasPlacesOn_56 rfl rfl ?_
    refine V_iload (q := 4) dX8_hasPlacesOn_57 rfl ?_
    refine V_iload (q := 5) dX8_hasPlacesOn_59 rfl ?_
    refine V_iload (q := 6) dX8_hasPlacesOn_61 rfl ?_
    refine V_callV [.int x2, .int x4, .int x5, .int x6] [.int r4] g_X8_hasPlacesOn_X2_ridesOver wi_X2_ridesOver ws_X2_ridesOver dX8_hasPlacesOn_63 rfl rfl rfl rfl rfl (Nat.le_of_ble_eq_true rfl) t (fun _ h5 t => ?_)
    obtain ⟨r6, rfl, t⟩ := t
    refine V_iadd dX8_hasPlacesOn_66 ?_
    refine V_istore (L' := [(0, .ref (G.1 34)), (1, .ref (G.1 54)), (2, .int x2), (3, .int x3), (4, .int x4), (5, .int x5), (6, .int x6), (7, .int (r4 + r6))]) dX8_hasPlacesOn_67 (by decide) rfl rfl ?_
    refine V_iload (q := 7) dX8_hasPlacesOn_69 rfl ?_
    refine V_aload_n (q := 0) dX8_hasPlacesOn_71 rfl rfl ?_
    refine V_getr f_X8_38 dX8_hasPlacesOn_72 rfl rfl ?_
    refine V_getr f_X8_131 dX8_hasPlacesOn_75 rfl rfl ?_
    refine V_iload (q := 4) dX8_hasPlacesOn_78 rfl ?_
    obtain ⟨n7, t⟩ := t
    refine V_iald dX8_hasPlacesOn_80 rfl n7 ?_
    refine V_icmp_le (tgt := 86) dX8_hasPlacesOn_81 (by decide) (fun q => ?_) (fun q => ?_)
    · have t := it_t q t
      refine V_iinc (L' := [(0, .ref (G.1 34)), (1, .ref (G.1 54)), (2, .int x2), (3, .int x3), (4, .int x4), (5, .int x5), (6, .int (x6 + 1)), (7, .int (r4 + r6))]) (q := 6) (a := 1) dX8_hasPlacesOn_86 rfl rfl (by decide) rfl rfl ?_
      refine V_goto (tgt := 29) dX8_hasPlacesOn_89 (by decide) ?_
      refine V_pick (L' := [(0, .ref (G.1 34)), (1, .ref (G.1 54)), (2, .int x2), (3, .int x3), (4, .int x4), (5, .int x5), (6, .int (x6 + 1))]) [0, 1, 2, 3, 4, 5, 6] rfl ?_
      exact t
    · have t := it_f q t
      refine V_iconst (v := 0) dX8_hasPlacesOn_84 rfl ?_
      exact V_zret (b := false) rfl dX8_hasPlacesOn_85 t
set_option maxRecDepth 20000 in
set_option maxHeartbeats 4000000 in
theorem s_Tickets_hasPlaces_0 (G : GA) (h : HP) (x2 : Int32) (K : Bool → HP → Prop) (t :
  H_Tickets_hasPlaces_2 G h x2 0 K) : P_Tickets_hasPlaces G h x2 K := by
  refine Sp_of_V pf_X8_hasPlaces (Nat.le_of_ble_eq_true rfl) rfl ?_
  refine V_iconst (v := 0) dX8_hasPlaces_0 rfl ?_
  refine V_istore_n (L' := [(0, .ref (G.1 34)), (1, .ref (G.1 54)), (2, .int x2), (3, .int 0)]) dX8_hasPlaces_1 rfl (by decide) rfl rfl ?_
  exact t
set_option maxRecDepth 20000 in
set_option maxHeartbeats 4000000 in
theorem s_Tickets_hasPlaces_2 (G : GA) (h : HP) (x2 : Int32) (x3 : Int32) (K : Bool → HP → Prop) (t :
  P_Found_ofWay G h x2 4 (fun (r2 : Int32) (h1 : HP) =>
    if r2 ≤ x3 then (
      K true h1
    ) else (
      P_Found_ofLeg G h1 x2 x3 0 (fun (r4 : Int32) (h3 : HP) =>
        if r4 ≤ 0 then (
          H_Tickets_hasPlaces_2 G h3 x2 (x3 + 1) K
        ) else (
          if 2 < r4 then (
            H_Tickets_hasPlaces_2 G h3 x2 (x3 + 1) K
          ) else (
            P_Tickets_hasPlacesOn G h3 x2 x3 (fun (b6 : Bool) (h5 : HP) =>
              if b6 = true then (
                H_Tickets_hasPlaces_2 G h5 x2 (x3 + 1) K
              ) else (
                K false h5
              )
            )
          )
        )
      )
    )
  )) : H_Tickets_hasPlaces_2 G h x2 x3 K := by
  unfold H_Tickets_hasPlaces_2
  refine V_iload_n (q := 3) dX8_hasPlaces_2 rfl rfl ?_
  refine V_aload_n (q := 1) dX8_hasPlaces_3 rfl rfl ?_
  refine V_iload_n (q := 2) dX8_hasPlaces_4 rfl rfl ?_
  refine V_iconst (v := 4) dX8_hasPlaces_5 rfl ?_
  refine V_callV [.int x2, .int 4] [.int x3] g_X8_hasPlaces_X2_ofWay wi_X2_ofWay ws_X2_ofWay dX8_hasPlaces_6 rfl rfl rfl rfl rfl (Nat.le_of_ble_eq_true rfl) t (fun _ h1 t => ?_)
  obtain ⟨r2, rfl, t⟩ := t
  refine V_icmp_ge (tgt := 50) dX8_hasPlaces_9 (by decide) (fun q => ?_) (fun q => ?_)
  · have t := it_t q t
    refine V_iconst (v := 1) dX8_hasPlaces_50 rfl ?_
    exact V_zret (b := true) rfl dX8_hasPlaces_51 t
  · have t := it_f q t
    refine V_aload_n (q := 1) dX8_hasPlaces_12 rfl rfl ?_
    refine V_iload_n (q := 2) dX8_hasPlaces_13 rfl rfl ?_
    refine V_iload_n (q := 3) dX8_hasPlaces_14 rfl rfl ?_
    refine V_iconst (v := 0) dX8_hasPlaces_15 rfl ?_
    refine V_callV [.int x2, .int x3, .int 0] [] g_X8_hasPlaces_X2_ofLeg wi_X2_ofLeg ws_X2_ofLeg dX8_hasPlaces_16 rfl rfl rfl rfl rfl (Nat.le_of_ble_eq_true rfl) t (fun _ h3 t => ?_)
    obtain ⟨r4, rfl, t⟩ := t
    refine V_istore (L' := [(0, .ref (G.1 34)), (1, .ref (G.1 54)), (2, .int x2), (3, .int x3), (4, .int r4)]) dX8_hasPlaces_19 (by decide) rfl rfl ?_
    refine V_iload (q := 4) dX8_hasPlaces_21 rfl ?_
    refine V_if_le (tgt := 44) dX8_hasPlaces_23 (by decide) (fun q => ?_) (fun q => ?_)
    · have t := it_t q t
      refine V_iinc (L' := [(0, .ref (G.1 34)), (1, .ref (G.1 54)), (2, .int x2), (3, .int (x3 + 1)), (4, .int r4)]) (q := 3) (a := 1) dX8_hasPlaces_44 rfl rfl (by decide) rfl rfl ?_
      refine V_goto (tgt := 2) dX8_hasPlaces_47 (by decide) ?_
      refine V_pick (L' := [(0, .ref (G.1 34)), (1, .ref (G.1 54)), (2, .int x2), (3, .int (x3 + 1))]) [0, 1, 2, 3] rfl ?_
      exact t
    · have t := it_f q t
      refine V_iload (q := 4) dX8_hasPlaces_26 rfl ?_
      refine V_iconst (v := 2) dX8_hasPlaces_28 rfl ?_
      refine V_icmp_gt (tgt := 44) dX8_hasPlaces_29 (by decide) (fun q => ?_) (fun q => ?_)
      · have t := it_t q t
        refine V_iinc (L' := [(0, .ref (G.1 34)), (1, .ref (G.1 54)), (2, .int x2), (3, .int (x3 + 1)), (4, .int r4)]) (q := 3) (a := 1) dX8_hasPlaces_44 rfl rfl (by decide) rfl rfl ?_
        refine V_goto (tgt := 2) dX8_hasPlaces_47 (by decide) ?_
        refine V_pick (L' := [(0, .ref (G.1 34)), (1, .ref (G.1 54)), (2, .int x2), (3, .int (x3 + 1))]) [0, 1, 2, 3] rfl ?_
        exact t
      · have t := it_f q t
        refine V_aload_n (q := 0) dX8_hasPlaces_32 rfl rfl ?_
        refine V_aload_n (q := 1) dX8_hasPlaces_33 rfl rfl ?_
        refine V_iload_n (q := 2) dX8_hasPlaces_34 rfl rfl ?_
        refine V_iload_n (q := 3) dX8_hasPlaces_35 rfl rfl ?_
        refine V_callV [.ref (G.1 54), .int x2, .int x3] [] g_X8_hasPlaces_X8_hasPlacesOn wi_X8_hasPlacesOn ws_X8_hasPlacesOn dX8_hasPlaces_36 rfl rfl rfl rfl rfl (Nat.le_of_ble_eq_true rfl) t (fun _ h5 t => ?_)
        obtain ⟨b6, rfl, t⟩ := t
        refine V_ifb_ne (tgt := 44) dX8_hasPlaces_39 (by decide) (fun q => ?_) (fun q => ?_)
        · have t := it_t q t
          refine V_iinc (L' := [(0, .ref (G.1 34)), (1, .ref (G.1 54)), (2, .int x2), (3, .int (x3 + 1)), (4, .int r4)]) (q := 3) (a := 1) dX8_hasPlaces_44 rfl rfl (by decide) rfl rfl ?_
          refine V_goto (tgt := 2) dX8_hasPlaces_47 (by decide) ?_
          refine V_pick (L' := [(0, .ref (G.1 34)), (1, .ref (G.1 54)), (2, .int x2), (3, .int (x3 + 1))]) [0, 1, 2, 3] rfl ?_
          exact t
        · have t := it_f q t
          refine V_iconst (v := 0) dX8_hasPlaces_42 rfl ?_
          exact V_zret (b := false) rfl dX8_hasPlaces_43 t
set_option maxRecDepth 20000 in
set_option maxHeartbeats 4000000 in
theorem s_Tickets_make_0 (G : GA) (h : HP) (x2 : Int32) (K : Int32 → HP → Prop) (t :
  if 30 ≤ (h 34 11) then (
    K (-2) h
  ) else (
    P_Tickets_hasPlaces G h x2 (fun (b2 : Bool) (h1 : HP) =>
      if b2 = true then (
        vp_in (h1 34 11) 30 ∧
        ∀ h3 : HP, h3 = up h1 35 (tn (h1 34 11)) (h1 54 10) →
        P_Found_ofWay G h3 x2 4 (fun (r6 : Int32) (h5 : HP) =>
          ∀ h7 : HP, h7 = up h5 36 (tn (h1 34 11)) r6 →
          H_Tickets_make_51 G h7 x2 0 K
        )
      ) else (
        K (-2) h1
      )
    )
  )) : P_Tickets_make G h x2 K := by
  refine Sp_of_V pf_X8_make (Nat.le_of_ble_eq_true rfl) rfl ?_
  refine V_aload_n (q := 0) dX8_make_0 rfl rfl ?_
  refine V_geti f_X8_50 dX8_make_1 rfl rfl ?_
  refine V_bipush (v := 30) dX8_make_4 rfl ?_
  refine V_icmp_ge (tgt := 18) dX8_make_6 (by decide) (fun q => ?_) (fun q => ?_)
  · have t := it_t q t
    refine V_bipush (v := (-2)) dX8_make_18 rfl ?_
    exact V_iret rfl dX8_make_20 t
  · have t := it_f q t
    refine V_aload_n (q := 0) dX8_make_9 rfl rfl ?_
    refine V_aload_n (q := 1) dX8_make_10 rfl rfl ?_
    refine V_iload_n (q := 2) dX8_make_11 rfl rfl ?_
    refine V_callV [.ref (G.1 54), .int x2] [] g_X8_make_X8_hasPlaces wi_X8_hasPlaces ws_X8_hasPlaces dX8_make_12 rfl rfl rfl rfl rfl (Nat.le_of_ble_eq_true rfl) t (fun _ h1 t => ?_)
    obtain ⟨b2, rfl, t⟩ := t
    refine V_ifb_ne (tgt := 21) dX8_make_15 (by decide) (fun q => ?_) (fun q => ?_)
    · have t := it_t q t
      refine V_aload_n (q := 0) dX8_make_21 rfl rfl ?_
      refine V_getr f_X8_9 dX8_make_22 rfl rfl ?_
      refine V_aload_n (q := 0) dX8_make_25 rfl rfl ?_
      refine V_geti f_X8_50 dX8_make_26 rfl rfl ?_
      refine V_aload_n (q := 1) dX8_make_29 rfl rfl ?_
      refine V_geti f_X8_58 dX8_make_30 rfl rfl ?_
      obtain ⟨n4, t⟩ := t
      have t := t _ rfl
      refine V_iast dX8_make_33 rfl n4 ?_
      refine V_aload_n (q := 0) dX8_make_34 rfl rfl ?_
      refine V_getr f_X8_15 dX8_make_35 rfl rfl ?_
      refine V_aload_n (q := 0) dX8_make_38 rfl rfl ?_
      refine V_geti f_X8_50 dX8_make_39 rfl rfl ?_
      refine V_aload_n (q := 1) dX8_make_42 rfl rfl ?_
      refine V_iload_n (q := 2) dX8_make_43 rfl rfl ?_
      refine V_iconst (v := 4) dX8_make_44 rfl ?_
      refine V_callV [.int x2, .int 4] [.int (h1 34 11), .ref (G.1 36)] g_X8_make_X2_ofWay wi_X2_ofWay ws_X2_ofWay dX8_make_45 rfl rfl rfl rfl rfl (Nat.le_of_ble_eq_true rfl) t (fun _ h5 t => ?_)
      obtain ⟨r6, rfl, t⟩ := t
      have t := t _ rfl
      refine V_iast dX8_make_48 rfl n4 ?_
      refine V_iconst (v := 0) dX8_make_49 rfl ?_
      refine V_istore_n (L' := [(0, .ref (G.1 34)), (1, .ref (G.1 54)), (2, .int x2), (3, .int 0)]) dX8_make_50 rfl (by decide) rfl rfl ?_
      exact t
    · have t := it_f q t
      refine V_bipush (v := (-2)) dX8_make_18 rfl ?_
      exact V_iret rfl dX8_make_20 t
set_option maxRecDepth 20000 in
set_option maxHeartbeats 4000000 in
theorem s_Tickets_make_51 (G : GA) (h : HP) (x2 : Int32) (x3 : Int32) (K : Int32 → HP → Prop) (t :
  vp_in (h 34 11) 30 ∧
  if (h 36 (tn (h 34 11))) ≤ x3 then (
    P_Tickets_changePlaces G h (h 34 11) 1 (fun h2 : HP =>
      ∀ h3 : HP, h3 = up h2 34 12 ((h2 34 12) + 1) →
      ∀ h4 : HP, h4 = up h3 34 11 ((h3 34 11) + 1) →
      K (h3 34 11) h4
    )
  ) else (
    P_Found_ofLeg G h x2 x3 1 (fun (r6 : Int32) (h5 : HP) =>
      vp_in (((h 34 11) * 7) + x3) 210 ∧
      ∀ h7 : HP, h7 = up h5 38 (tn (((h 34 11) * 7) + x3)) r6 →
      P_Found_ofLeg G h7 x2 x3 6 (fun (r10 : Int32) (h9 : HP) =>
        ∀ h11 : HP, h11 = up h9 39 (tn (((h 34 11) * 7) + x3)) r10 →
        P_Found_ofLeg G h11 x2 x3 7 (fun (r13 : Int32) (h12 : HP) =>
          ∀ h14 : HP, h14 = up h12 40 (tn (((h 34 11) * 7) + x3)) r13 →
          P_Found_ofLeg G h14 x2 x3 8 (fun (r16 : Int32) (h15 : HP) =>
            ∀ h17 : HP, h17 = up h15 41 (tn (((h 34 11) * 7) + x3)) r16 →
            H_Tickets_make_51 G h17 x2 (x3 + 1) K
          )
        )
      )
    )
  )) : H_Tickets_make_51 G h x2 x3 K := by
  unfold H_Tickets_make_51
  refine V_iload_n (q := 3) dX8_make_51 rfl rfl ?_
  refine V_aload_n (q := 0) dX8_make_52 rfl rfl ?_
  refine V_getr f_X8_15 dX8_make_53 rfl rfl ?_
  refine V_aload_n (q := 0) dX8_make_56 rfl rfl ?_
  refine V_geti f_X8_50 dX8_make_57 rfl rfl ?_
  obtain ⟨n1, t⟩ := t
  refine V_iald dX8_make_60 rfl n1 ?_
  refine V_icmp_ge (tgt := 140) dX8_make_61 (by decide) (fun q => ?_) (fun q => ?_)
  · have t := it_t q t
    refine V_aload_n (q := 0) dX8_make_140 rfl rfl ?_
    refine V_aload_n (q := 0) dX8_make_141 rfl rfl ?_
    refine V_geti f_X8_50 dX8_make_142 rfl rfl ?_
    refine V_iconst (v := 1) dX8_make_145 rfl ?_
    refine V_callV [.int (h 34 11), .int 1] [] g_X8_make_X8_changePlaces wi_X8_changePlaces ws_X8_changePlaces dX8_make_146 rfl rfl rfl rfl rfl (Nat.le_of_ble_eq_true rfl) t (fun _ h2 t => ?_)
    obtain ⟨rfl, t⟩ := t
    refine V_aload_n (q := 0) dX8_make_149 rfl rfl ?_
    refine V_dup dX8_make_150 rfl ?_
    refine V_geti f_X8_74 dX8_make_151 rfl rfl ?_
    refine V_iconst (v := 1) dX8_make_154 rfl ?_
    refine V_iadd dX8_make_155 ?_
    have t := t _ rfl
    refine V_put f_X8_74 p_X8_12 dX8_make_156 rfl rfl ?_
    refine V_aload_n (q := 0) dX8_make_159 rfl rfl ?_
    refine V_dup dX8_make_160 rfl ?_
    refine V_geti f_X8_50 dX8_make_161 rfl rfl ?_
    refine V_dup_x1 dX8_make_164 rfl rfl ?_
    refine V_iconst (v := 1) dX8_make_165 rfl ?_
    refine V_iadd dX8_make_166 ?_
    have t := t _ rfl
    refine V_put f_X8_50 p_X8_11 dX8_make_167 rfl rfl ?_
    exact V_iret rfl dX8_make_170 t
  · have t := it_f q t
    refine V_aload_n (q := 0) dX8_make_64 rfl rfl ?_
    refine V_geti f_X8_50 dX8_make_65 rfl rfl ?_
    refine V_bipush (v := 7) dX8_make_68 rfl ?_
    refine V_imul dX8_make_70 ?_
    refine V_iload_n (q := 3) dX8_make_71 rfl rfl ?_
    refine V_iadd dX8_make_72 ?_
    refine V_istore (L' := [(0, .ref (G.1 34)), (1, .ref (G.1 54)), (2, .int x2), (3, .int x3), (4, .int (((h 34 11) * 7) + x3))]) dX8_make_73 (by decide) rfl rfl ?_
    refine V_aload_n (q := 0) dX8_make_75 rfl rfl ?_
    refine V_getr f_X8_22 dX8_make_76 rfl rfl ?_
    refine V_iload (q := 4) dX8_make_79 rfl ?_
    refine V_aload_n (q := 1) dX8_make_81 rfl rfl ?_
    refine V_iload_n (q := 2) dX8_make_82 rfl rfl ?_
    refine V_iload_n (q := 3) dX8_make_83 rfl rfl ?_
    refine V_iconst (v := 1) dX8_make_84 rfl ?_
    refine V_callV [.int x2, .int x3, .int 1] [.int (((h 34 11) * 7) + x3), .ref (G.1 38)] g_X8_make_X2_ofLeg wi_X2_ofLeg ws_X2_ofLeg dX8_make_85 rfl rfl rfl rfl rfl (Nat.le_of_ble_eq_true rfl) t (fun _ h5 t => ?_)
    obtain ⟨r6, rfl, t⟩ := t
    obtain ⟨n8, t⟩ := t
    have t := t _ rfl
    refine V_iast dX8_make_88 rfl n8 ?_
    refine V_aload_n (q := 0) dX8_make_89 rfl rfl ?_
    refine V_getr f_X8_25 dX8_make_90 rfl rfl ?_
    refine V_iload (q := 4) dX8_make_93 rfl ?_
    refine V_aload_n (q := 1) dX8_make_95 rfl rfl ?_
    refine V_iload_n (q := 2) dX8_make_96 rfl rfl ?_
    refine V_iload_n (q := 3) dX8_make_97 rfl rfl ?_
    refine V_bipush (v := 6) dX8_make_98 rfl ?_
    refine V_callV [.int x2, .int x3, .int 6] [.int (((h 34 11) * 7) + x3), .ref (G.1 39)] g_X8_make_X2_ofLeg wi_X2_ofLeg ws_X2_ofLeg dX8_make_100 rfl rfl rfl rfl rfl (Nat.le_of_ble_eq_true rfl) t (fun _ h9 t => ?_)
    obtain ⟨r10, rfl, t⟩ := t
    have t := t _ rfl
    refine V_iast dX8_make_103 rfl n8 ?_
    refine V_aload_n (q := 0) dX8_make_104 rfl rfl ?_
    refine V_getr f_X8_28 dX8_make_105 rfl rfl ?_
    refine V_iload (q := 4) dX8_make_108 rfl ?_
    refine V_aload_n (q := 1) dX8_make_110 rfl rfl ?_
    refine V_iload_n (q := 2) dX8_make_111 rfl rfl ?_
    refine V_iload_n (q := 3) dX8_make_112 rfl rfl ?_
    refine V_bipush (v := 7) dX8_make_113 rfl ?_
    refine V_callV [.int x2, .int x3, .int 7] [.int (((h 34 11) * 7) + x3), .ref (G.1 40)] g_X8_make_X2_ofLeg wi_X2_ofLeg ws_X2_ofLeg dX8_make_115 rfl rfl rfl rfl rfl (Nat.le_of_ble_eq_true rfl) t (fun _ h12 t => ?_)
    obtain ⟨r13, rfl, t⟩ := t
    have t := t _ rfl
    refine V_iast dX8_make_118 rfl n8 ?_
    refine V_aload_n (q := 0) dX8_make_119 rfl rfl ?_
    refine V_getr f_X8_31 dX8_make_120 rfl rfl ?_
    refine V_iload (q := 4) dX8_make_123 rfl ?_
    refine V_aload_n (q := 1) dX8_make_125 rfl rfl ?_
    refine V_iload_n (q := 2) dX8_make_126 rfl rfl ?_
    refine V_iload_n (q := 3) dX8_make_127 rfl rfl ?_
    refine V_bipush (v := 8) dX8_make_128 rfl ?_
    refine V_callV [.int x2, .int x3, .int 8] [.int (((h 34 11) * 7) + x3), .ref (G.1 41)] g_X8_make_X2_ofLeg wi_X2_ofLeg ws_X2_ofLeg dX8_make_130 rfl rfl rfl rfl rfl (Nat.le_of_ble_eq_true rfl) t (fun _ h15 t => ?_)
    obtain ⟨r16, rfl, t⟩ := t
    have t := t _ rfl
    refine V_iast dX8_make_133 rfl n8 ?_
    refine V_iinc (L' := [(0, .ref (G.1 34)), (1, .ref (G.1 54)), (2, .int x2), (3, .int (x3 + 1)), (4, .int (((h 34 11) * 7) + x3))]) (q := 3) (a := 1) dX8_make_134 rfl rfl (by decide) rfl rfl ?_
    refine V_goto (tgt := 51) dX8_make_137 (by decide) ?_
    refine V_pick (L' := [(0, .ref (G.1 34)), (1, .ref (G.1 54)), (2, .int x2), (3, .int (x3 + 1))]) [0, 1, 2, 3] rfl ?_
    exact t
