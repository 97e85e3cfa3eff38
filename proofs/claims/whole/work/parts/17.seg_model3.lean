set_option maxRecDepth 20000 in
set_option maxHeartbeats 4000000 in
theorem s_Model_isInTable_0 (G : GA) (h : HP) (x1 : Int32) (x2 : Int32) (x3 : Int32) (x4 : Int32) (K : Bool → HP → Prop) (t :
  P_Model_runs G h x1 x4 (fun (b2 : Bool) (h1 : HP) =>
    if b2 = true then (
      vp_in ((8 * x1) + x2) 192 ∧
      if (h1 76 (tn ((8 * x1) + x2))) = x3 then (
        if (h1 79 (tn ((8 * x1) + x2))) = 0 then (
          K true h1
        ) else (
          K false h1
        )
      ) else (
        K false h1
      )
    ) else (
      K false h1
    )
  )) : P_Model_isInTable G h x1 x2 x3 x4 K := by
  refine Sp_of_V pf_X12_isInTable (Nat.le_of_ble_eq_true rfl) rfl ?_
  refine V_aload_n (q := 0) dX12_isInTable_0 rfl rfl ?_
  refine V_iload_n (q := 1) dX12_isInTable_1 rfl rfl ?_
  refine V_iload (q := 4) dX12_isInTable_2 rfl ?_
  refine V_callV [.int x1, .int x4] [] g_X12_isInTable_X12_runs wi_X12_runs ws_X12_runs dX12_isInTable_4 rfl rfl rfl rfl rfl (Nat.le_of_ble_eq_true rfl) t (fun _ h1 t => ?_)
  obtain ⟨b2, rfl, t⟩ := t
  refine V_ifb_eq (tgt := 43) dX12_isInTable_7 (by decide) (fun q => ?_) (fun q => ?_)
  · have t := it_f q t
    refine V_iconst (v := 0) dX12_isInTable_43 rfl ?_
    exact V_zret (b := false) rfl dX12_isInTable_44 t
  · have t := it_t q t
    refine V_aload_n (q := 0) dX12_isInTable_10 rfl rfl ?_
    refine V_getr f_X12_34 dX12_isInTable_11 rfl rfl ?_
    refine V_bipush (v := 8) dX12_isInTable_14 rfl ?_
    refine V_iload_n (q := 1) dX12_isInTable_16 rfl rfl ?_
    refine V_imul dX12_isInTable_17 ?_
    refine V_iload_n (q := 2) dX12_isInTable_18 rfl rfl ?_
    refine V_iadd dX12_isInTable_19 ?_
    obtain ⟨n3, t⟩ := t
    refine V_iald dX12_isInTable_20 rfl n3 ?_
    refine V_iload_n (q := 3) dX12_isInTable_21 rfl rfl ?_
    refine V_icmp_ne (tgt := 43) dX12_isInTable_22 (by decide) (fun q => ?_) (fun q => ?_)
    · have t := it_f q t
      refine V_iconst (v := 0) dX12_isInTable_43 rfl ?_
      exact V_zret (b := false) rfl dX12_isInTable_44 t
    · have t := it_t q t
      refine V_aload_n (q := 0) dX12_isInTable_25 rfl rfl ?_
      refine V_getr f_X12_43 dX12_isInTable_26 rfl rfl ?_
      refine V_bipush (v := 8) dX12_isInTable_29 rfl ?_
      refine V_iload_n (q := 1) dX12_isInTable_31 rfl rfl ?_
      refine V_imul dX12_isInTable_32 ?_
      refine V_iload_n (q := 2) dX12_isInTable_33 rfl rfl ?_
      refine V_iadd dX12_isInTable_34 ?_
      refine V_zald dX12_isInTable_35 rfl n3 ?_
      refine V_if_ne (tgt := 43) dX12_isInTable_36 (by decide) (fun q => ?_) (fun q => ?_)
      · have t := it_f q t
        refine V_iconst (v := 0) dX12_isInTable_43 rfl ?_
        exact V_zret (b := false) rfl dX12_isInTable_44 t
      · have t := it_t q t
        refine V_iconst (v := 1) dX12_isInTable_39 rfl ?_
        refine V_goto (tgt := 44) dX12_isInTable_40 (by decide) ?_
        exact V_zret (b := true) rfl dX12_isInTable_44 t
set_option maxRecDepth 20000 in
set_option maxHeartbeats 4000000 in
theorem s_Model_table_0 (G : GA) (h : HP) (x1 : Int32) (x2 : Int32) (x3 : Int32) (x4 : Int32) (K : Int32 → HP → Prop) (t :
  P_Model_isStop G h x1 (fun (b2 : Bool) (h1 : HP) =>
    if b2 = true then (
      P_Model_isDay G h1 x2 (fun (b4 : Bool) (h3 : HP) =>
        if b4 = true then (
          P_Model_in G h3 x4 0 3 (fun (b6 : Bool) (h5 : HP) =>
            if b6 = true then (
              H_Model_table_31 G h5 x1 x2 x3 x4 0 K
            ) else (
              K (-2) h5
            )
          )
        ) else (
          K (-2) h3
        )
      )
    ) else (
      K (-2) h1
    )
  )) : P_Model_table G h x1 x2 x3 x4 K := by
  refine Sp_of_V pf_X12_table (Nat.le_of_ble_eq_true rfl) rfl ?_
  refine V_aload_n (q := 0) dX12_table_0 rfl rfl ?_
  refine V_iload_n (q := 1) dX12_table_1 rfl rfl ?_
  refine V_callV [.int x1] [] g_X12_table_X12_isStop wi_X12_isStop ws_X12_isStop dX12_table_2 rfl rfl rfl rfl rfl (Nat.le_of_ble_eq_true rfl) t (fun _ h1 t => ?_)
  obtain ⟨b2, rfl, t⟩ := t
  refine V_ifb_eq (tgt := 25) dX12_table_5 (by decide) (fun q => ?_) (fun q => ?_)
  · have t := it_f q t
    refine V_bipush (v := (-2)) dX12_table_25 rfl ?_
    exact V_iret rfl dX12_table_27 t
  · have t := it_t q t
    refine V_iload_n (q := 2) dX12_table_8 rfl rfl ?_
    refine V_callS [.int x2] [] g_X12_table_X12_isDay wt_X12_isDay dX12_table_9 rfl rfl (Nat.le_of_ble_eq_true rfl) t (fun _ h3 t => ?_)
    obtain ⟨b4, rfl, t⟩ := t
    refine V_ifb_eq (tgt := 25) dX12_table_12 (by decide) (fun q => ?_) (fun q => ?_)
    · have t := it_f q t
      refine V_bipush (v := (-2)) dX12_table_25 rfl ?_
      exact V_iret rfl dX12_table_27 t
    · have t := it_t q t
      refine V_iload (q := 4) dX12_table_15 rfl ?_
      refine V_iconst (v := 0) dX12_table_17 rfl ?_
      refine V_iconst (v := 3) dX12_table_18 rfl ?_
      refine V_callS [.int x4, .int 0, .int 3] [] g_X12_table_X12_in wt_X12_in dX12_table_19 rfl rfl (Nat.le_of_ble_eq_true rfl) t (fun _ h5 t => ?_)
      obtain ⟨b6, rfl, t⟩ := t
      refine V_ifb_ne (tgt := 28) dX12_table_22 (by decide) (fun q => ?_) (fun q => ?_)
      · have t := it_t q t
        refine V_iconst (v := 0) dX12_table_28 rfl ?_
        refine V_istore (L' := [(0, .ref (G.1 67)), (1, .int x1), (2, .int x2), (3, .int x3), (4, .int x4), (5, .int 0)]) dX12_table_29 (by decide) rfl rfl ?_
        exact t
      · have t := it_f q t
        refine V_bipush (v := (-2)) dX12_table_25 rfl ?_
        exact V_iret rfl dX12_table_27 t
set_option maxRecDepth 20000 in
set_option maxHeartbeats 4000000 in
theorem s_Model_table_31 (G : GA) (h : HP) (x1 : Int32) (x2 : Int32) (x3 : Int32) (x4 : Int32) (x5 : Int32) (K : Int32 → HP → Prop) (t :
  if (h 67 1) ≤ x5 then (
    K (-1) h
  ) else (
    H_Model_table_43 G h x1 x2 x3 x4 x5 0 K
  )) : H_Model_table_31 G h x1 x2 x3 x4 x5 K := by
  unfold H_Model_table_31
  refine V_iload (q := 5) dX12_table_31 rfl ?_
  refine V_aload_n (q := 0) dX12_table_33 rfl rfl ?_
  refine V_geti f_X12_154 dX12_table_34 rfl rfl ?_
  refine V_icmp_ge (tgt := 221) dX12_table_37 (by decide) (fun q => ?_) (fun q => ?_)
  · have t := it_t q t
    refine V_iconst (v := (-1)) dX12_table_221 rfl ?_
    exact V_iret rfl dX12_table_222 t
  · have t := it_f q t
    refine V_iconst (v := 0) dX12_table_40 rfl ?_
    refine V_istore (L' := [(0, .ref (G.1 67)), (1, .int x1), (2, .int x2), (3, .int x3), (4, .int x4), (5, .int x5), (6, .int 0)]) dX12_table_41 (by decide) rfl rfl ?_
    exact t
set_option maxRecDepth 20000 in
set_option maxHeartbeats 4000000 in
theorem s_Model_table_43 (G : GA) (h : HP) (x1 : Int32) (x2 : Int32) (x3 : Int32) (x4 : Int32) (x5 : Int32) (x6 : Int32) (K : Int32 → HP → Prop) (t :
  vp_in x5 24 ∧
  if (h 75 (tn x5)) ≤ x6 then (
    H_Model_table_31 G h x1 x2 x3 x4 (x5 + 1) K
  ) else (
    P_Model_isInTable G h x5 x6 x1 x2 (fun (b3 : Bool) (h2 : HP) =>
      if b3 = true then (
        H_Model_table_77 G h2 x1 x2 x3 x4 x5 x6 0 0 K
      ) else (
        H_Model_table_43 G h2 x1 x2 x3 x4 x5 (x6 + 1) K
      )
    )
  )) : H_Model_table_43 G h x1 x2 x3 x4 x5 x6 K := by
  unfold H_Model_table_43
  refine V_iload (q := 6) dX12_table_43 rfl ?_
  refine V_aload_n (q := 0) dX12_table_45 rfl rfl ?_
  refine V_getr f_X12_31 dX12_table_46 rfl rfl ?_
  refine V_iload (q := 5) dX12_table_49 rfl ?_
  obtain ⟨n1, t⟩ := t
  refine V_iald dX12_table_51 rfl n1 ?_
  refine V_icmp_ge (tgt := 215) dX12_table_52 (by decide) (fun q => ?_) (fun q => ?_)
  · have t := it_t q t
    refine V_iinc (L' := [(0, .ref (G.1 67)), (1, .int x1), (2, .int x2), (3, .int x3), (4, .int x4), (5, .int (x5 + 1)), (6, .int x6)]) (q := 5) (a := 1) dX12_table_215 rfl rfl (by decide) rfl rfl ?_
    refine V_goto (tgt := 31) dX12_table_218 (by decide) ?_
    refine V_pick (L' := [(0, .ref (G.1 67)), (1, .int x1), (2, .int x2), (3, .int x3), (4, .int x4), (5, .int (x5 + 1))]) [0, 1, 2, 3, 4, 5] rfl ?_
    exact t
  · have t := it_f q t
    refine V_aload_n (q := 0) dX12_table_55 rfl rfl ?_
    refine V_iload (q := 5) dX12_table_56 rfl ?_
    refine V_iload (q := 6) dX12_table_58 rfl ?_
    refine V_iload_n (q := 1) dX12_table_60 rfl rfl ?_
    refine V_iload_n (q := 2) dX12_table_61 rfl rfl ?_
    refine V_callV [.int x5, .int x6, .int x1, .int x2] [] g_X12_table_X12_isInTable wi_X12_isInTable ws_X12_isInTable dX12_table_62 rfl rfl rfl rfl rfl (Nat.le_of_ble_eq_true rfl) t (fun _ h2 t => ?_)
    obtain ⟨b3, rfl, t⟩ := t
    refine V_ifb_ne (tgt := 71) dX12_table_65 (by decide) (fun q => ?_) (fun q => ?_)
    · have t := it_t q t
      refine V_iconst (v := 0) dX12_table_71 rfl ?_
      refine V_istore (L' := [(0, .ref (G.1 67)), (1, .int x1), (2, .int x2), (3, .int x3), (4, .int x4), (5, .int x5), (6, .int x6), (7, .int 0)]) dX12_table_72 (by decide) rfl rfl ?_
      refine V_iconst (v := 0) dX12_table_74 rfl ?_
      refine V_istore (L' := [(0, .ref (G.1 67)), (1, .int x1), (2, .int x2), (3, .int x3), (4, .int x4), (5, .int x5), (6, .int x6), (7, .int 0), (8, .int 0)]) dX12_table_75 (by decide) rfl rfl ?_
      exact t
    · have t := it_f q t
      refine V_goto (tgt := 209) dX12_table_68 (by decide) ?_
      refine V_iinc (L' := [(0, .ref (G.1 67)), (1, .int x1), (2, .int x2), (3, .int x3), (4, .int x4), (5, .int x5), (6, .int (x6 + 1))]) (q := 6) (a := 1) dX12_table_209 rfl rfl (by decide) rfl rfl ?_
      refine V_goto (tgt := 43) dX12_table_212 (by decide) ?_
      exact t
set_option maxRecDepth 20000 in
set_option maxHeartbeats 4000000 in
theorem s_Model_table_77 (G : GA) (h : HP) (x1 : Int32) (x2 : Int32) (x3 : Int32) (x4 : Int32) (x5 : Int32) (x6 : Int32) (x7 : Int32) (x8 : Int32) (K : Int32 → HP → Prop) (t :
  if (h 67 1) ≤ x8 then (
    if x7 = x3 then (
      if x4 = 0 then (
        K x5 h
      ) else (
        if x4 = 1 then (
          K x6 h
        ) else (
          if x4 = 2 then (
            P_Model_comesAt G h x5 x2 x6 (fun (r2 : Int32) (h1 : HP) =>
              K (r2 - (1440 * x2)) h1
            )
          ) else (
            P_Model_leavesAt G h x5 x2 x6 (fun (r4 : Int32) (h3 : HP) =>
              K (r4 - (1440 * x2)) h3
            )
          )
        )
      )
    ) else (
      H_Model_table_43 G h x1 x2 x3 x4 x5 (x6 + 1) K
    )
  ) else (
    H_Model_table_89 G h x1 x2 x3 x4 x5 x6 x7 x8 0 K
  )) : H_Model_table_77 G h x1 x2 x3 x4 x5 x6 x7 x8 K := by
  unfold H_Model_table_77
  refine V_iload (q := 8) dX12_table_77 rfl ?_
  refine V_aload_n (q := 0) dX12_table_79 rfl rfl ?_
  refine V_geti f_X12_154 dX12_table_80 rfl rfl ?_
  refine V_icmp_ge (tgt := 145) dX12_table_83 (by decide) (fun q => ?_) (fun q => ?_)
  · have t := it_t q t
    refine V_iload (q := 7) dX12_table_145 rfl ?_
    refine V_iload_n (q := 3) dX12_table_147 rfl rfl ?_
    refine V_icmp_eq (tgt := 154) dX12_table_148 (by decide) (fun q => ?_) (fun q => ?_)
    · have t := it_t q t
      refine V_iload (q := 4) dX12_table_154 rfl ?_
      refine V_if_ne (tgt := 164) dX12_table_156 (by decide) (fun q => ?_) (fun q => ?_)
      · have t := it_f q t
        refine V_iload (q := 4) dX12_table_164 rfl ?_
        refine V_iconst (v := 1) dX12_table_166 rfl ?_
        refine V_icmp_ne (tgt := 175) dX12_table_167 (by decide) (fun q => ?_) (fun q => ?_)
        · have t := it_f q t
          refine V_iload (q := 4) dX12_table_175 rfl ?_
          refine V_iconst (v := 2) dX12_table_177 rfl ?_
          refine V_icmp_ne (tgt := 193) dX12_table_178 (by decide) (fun q => ?_) (fun q => ?_)
          · have t := it_f q t
            refine V_aload_n (q := 0) dX12_table_193 rfl rfl ?_
            refine V_iload (q := 5) dX12_table_194 rfl ?_
            refine V_iload_n (q := 2) dX12_table_196 rfl rfl ?_
            refine V_iload (q := 6) dX12_table_197 rfl ?_
            refine V_callV [.int x5, .int x2, .int x6] [] g_X12_table_X12_leavesAt wi_X12_leavesAt ws_X12_leavesAt dX12_table_199 rfl rfl rfl rfl rfl (Nat.le_of_ble_eq_true rfl) t (fun _ h3 t => ?_)
            obtain ⟨r4, rfl, t⟩ := t
            refine V_sipush (v := 1440) dX12_table_202 rfl ?_
            refine V_iload_n (q := 2) dX12_table_205 rfl rfl ?_
            refine V_imul dX12_table_206 ?_
            refine V_isub dX12_table_207 ?_
            exact V_iret rfl dX12_table_208 t
          · have t := it_t q t
            refine V_aload_n (q := 0) dX12_table_181 rfl rfl ?_
            refine V_iload (q := 5) dX12_table_182 rfl ?_
            refine V_iload_n (q := 2) dX12_table_184 rfl rfl ?_
            refine V_iload (q := 6) dX12_table_185 rfl ?_
            refine V_callV [.int x5, .int x2, .int x6] [] g_X12_table_X12_comesAt wi_X12_comesAt ws_X12_comesAt dX12_table_187 rfl rfl rfl rfl rfl (Nat.le_of_ble_eq_true rfl) t (fun _ h1 t => ?_)
            obtain ⟨r2, rfl, t⟩ := t
            refine V_goto (tgt := 202) dX12_table_190 (by decide) ?_
            refine V_sipush (v := 1440) dX12_table_202 rfl ?_
            refine V_iload_n (q := 2) dX12_table_205 rfl rfl ?_
            refine V_imul dX12_table_206 ?_
            refine V_isub dX12_table_207 ?_
            exact V_iret rfl dX12_table_208 t
        · have t := it_t q t
          refine V_iload (q := 6) dX12_table_170 rfl ?_
          refine V_goto (tgt := 208) dX12_table_172 (by decide) ?_
          exact V_iret rfl dX12_table_208 t
      · have t := it_t q t
        refine V_iload (q := 5) dX12_table_159 rfl ?_
        refine V_goto (tgt := 208) dX12_table_161 (by decide) ?_
        exact V_iret rfl dX12_table_208 t
    · have t := it_f q t
      refine V_goto (tgt := 209) dX12_table_151 (by decide) ?_
      refine V_iinc (L' := [(0, .ref (G.1 67)), (1, .int x1), (2, .int x2), (3, .int x3), (4, .int x4), (5, .int x5), (6, .int (x6 + 1)), (7, .int x7), (8, .int x8)]) (q := 6) (a := 1) dX12_table_209 rfl rfl (by decide) rfl rfl ?_
      refine V_goto (tgt := 43) dX12_table_212 (by decide) ?_
      refine V_pick (L' := [(0, .ref (G.1 67)), (1, .int x1), (2, .int x2), (3, .int x3), (4, .int x4), (5, .int x5), (6, .int (x6 + 1))]) [0, 1, 2, 3, 4, 5, 6] rfl ?_
      exact t
  · have t := it_f q t
    refine V_iconst (v := 0) dX12_table_86 rfl ?_
    refine V_istore (L' := [(0, .ref (G.1 67)), (1, .int x1), (2, .int x2), (3, .int x3), (4, .int x4), (5, .int x5), (6, .int x6), (7, .int x7), (8, .int x8), (9, .int 0)]) dX12_table_87 (by decide) rfl rfl ?_
    exact t
set_option maxRecDepth 20000 in
set_option maxHeartbeats 4000000 in
theorem s_Model_table_89 (G : GA) (h : HP) (x1 : Int32) (x2 : Int32) (x3 : Int32) (x4 : Int32) (x5 : Int32) (x6 : Int32) (x7 : Int32) (x8 : Int32) (x9 : Int32) (K : Int32 → HP → Prop) (t :
  vp_in x8 24 ∧
  if (h 75 (tn x8)) ≤ x9 then (
    H_Model_table_77 G h x1 x2 x3 x4 x5 x6 x7 (x8 + 1) K
  ) else (
    P_Model_isInTable G h x8 x9 x1 x2 (fun (b3 : Bool) (h2 : HP) =>
      if b3 = true then (
        P_Model_isAhead G h2 x8 x9 x5 x6 x2 (fun (b5 : Bool) (h4 : HP) =>
          if b5 = true then (
            H_Model_table_89 G h4 x1 x2 x3 x4 x5 x6 (x7 + 1) x8 (x9 + 1) K
          ) else (
            H_Model_table_89 G h4 x1 x2 x3 x4 x5 x6 x7 x8 (x9 + 1) K
          )
        )
      ) else (
        H_Model_table_89 G h2 x1 x2 x3 x4 x5 x6 x7 x8 (x9 + 1) K
      )
    )
  )) : H_Model_table_89 G h x1 x2 x3 x4 x5 x6 x7 x8 x9 K := by
  unfold H_Model_table_89
  refine V_iload (q := 9) dX12_table_89 rfl ?_
  refine V_aload_n (q := 0) dX12_table_91 rfl rfl ?_
  refine V_getr f_X12_31 dX12_table_92 rfl rfl ?_
  refine V_iload (q := 8) dX12_table_95 rfl ?_
  obtain ⟨n1, t⟩ := t
  refine V_iald dX12_table_97 rfl n1 ?_
  refine V_icmp_ge (tgt := 139) dX12_table_98 (by decide) (fun q => ?_) (fun q => ?_)
  · have t := it_t q t
    refine V_iinc (L' := [(0, .ref (G.1 67)), (1, .int x1), (2, .int x2), (3, .int x3), (4, .int x4), (5, .int x5), (6, .int x6), (7, .int x7), (8, .int (x8 + 1)), (9, .int x9)]) (q := 8) (a := 1) dX12_table_139 rfl rfl (by decide) rfl rfl ?_
    refine V_goto (tgt := 77) dX12_table_142 (by decide) ?_
    refine V_pick (L' := [(0, .ref (G.1 67)), (1, .int x1), (2, .int x2), (3, .int x3), (4, .int x4), (5, .int x5), (6, .int x6), (7, .int x7), (8, .int (x8 + 1))]) [0, 1, 2, 3, 4, 5, 6, 7, 8] rfl ?_
    exact t
  · have t := it_f q t
    refine V_aload_n (q := 0) dX12_table_101 rfl rfl ?_
    refine V_iload (q := 8) dX12_table_102 rfl ?_
    refine V_iload (q := 9) dX12_table_104 rfl ?_
    refine V_iload_n (q := 1) dX12_table_106 rfl rfl ?_
    refine V_iload_n (q := 2) dX12_table_107 rfl rfl ?_
    refine V_callV [.int x8, .int x9, .int x1, .int x2] [] g_X12_table_X12_isInTable wi_X12_isInTable ws_X12_isInTable dX12_table_108 rfl rfl rfl rfl rfl (Nat.le_of_ble_eq_true rfl) t (fun _ h2 t => ?_)
    obtain ⟨b3, rfl, t⟩ := t
    refine V_ifb_eq (tgt := 133) dX12_table_111 (by decide) (fun q => ?_) (fun q => ?_)
    · have t := it_f q t
      refine V_iinc (L' := [(0, .ref (G.1 67)), (1, .int x1), (2, .int x2), (3, .int x3), (4, .int x4), (5, .int x5), (6, .int x6), (7, .int x7), (8, .int x8), (9, .int (x9 + 1))]) (q := 9) (a := 1) dX12_table_133 rfl rfl (by decide) rfl rfl ?_
      refine V_goto (tgt := 89) dX12_table_136 (by decide) ?_
      exact t
    · have t := it_t q t
      refine V_aload_n (q := 0) dX12_table_114 rfl rfl ?_
      refine V_iload (q := 8) dX12_table_115 rfl ?_
      refine V_iload (q := 9) dX12_table_117 rfl ?_
      refine V_iload (q := 5) dX12_table_119 rfl ?_
      refine V_iload (q := 6) dX12_table_121 rfl ?_
      refine V_iload_n (q := 2) dX12_table_123 rfl rfl ?_
      refine V_callV [.int x8, .int x9, .int x5, .int x6, .int x2] [] g_X12_table_X12_isAhead wi_X12_isAhead ws_X12_isAhead dX12_table_124 rfl rfl rfl rfl rfl (Nat.le_of_ble_eq_true rfl) t (fun _ h4 t => ?_)
      obtain ⟨b5, rfl, t⟩ := t
      refine V_ifb_eq (tgt := 133) dX12_table_127 (by decide) (fun q => ?_) (fun q => ?_)
      · have t := it_f q t
        refine V_iinc (L' := [(0, .ref (G.1 67)), (1, .int x1), (2, .int x2), (3, .int x3), (4, .int x4), (5, .int x5), (6, .int x6), (7, .int x7), (8, .int x8), (9, .int (x9 + 1))]) (q := 9) (a := 1) dX12_table_133 rfl rfl (by decide) rfl rfl ?_
        refine V_goto (tgt := 89) dX12_table_136 (by decide) ?_
        exact t
      · have t := it_t q t
        refine V_iinc (L' := [(0, .ref (G.1 67)), (1, .int x1), (2, .int x2), (3, .int x3), (4, .int x4), (5, .int x5), (6, .int x6), (7, .int (x7 + 1)), (8, .int x8), (9, .int x9)]) (q := 7) (a := 1) dX12_table_130 rfl rfl (by decide) rfl rfl ?_
        refine V_iinc (L' := [(0, .ref (G.1 67)), (1, .int x1), (2, .int x2), (3, .int x3), (4, .int x4), (5, .int x5), (6, .int x6), (7, .int (x7 + 1)), (8, .int x8), (9, .int (x9 + 1))]) (q := 9) (a := 1) dX12_table_133 rfl rfl (by decide) rfl rfl ?_
        refine V_goto (tgt := 89) dX12_table_136 (by decide) ?_
        exact t
set_option maxRecDepth 20000 in
set_option maxHeartbeats 4000000 in
theorem s_Model_count_0 (G : GA) (h : HP) (x1 : Int32) (K : Int32 → HP → Prop) (t :
  if x1 = 0 then (
    K (h 67 0) h
  ) else (
  if x1 = 1 then (
    K (h 67 1) h
  ) else (
  if x1 = 2 then (
    K (h 67 2) h
  ) else (
  if x1 = 3 then (
    K (h 67 41) h
  ) else (
  if x1 = 4 then (
    K (h 67 4) h
  ) else (
  if x1 = 5 then (
    H_Model_count_73 G h 0 0 K
  ) else (
  if x1 = 6 then (
    K (h 67 3) h
  ) else (
    K (-2) h
  )))))))) : P_Model_count G h x1 K := by
  refine Sp_of_V pf_X12_count (Nat.le_of_ble_eq_true rfl) rfl ?_
  refine V_iload_n (q := 1) dX12_count_0 rfl rfl ?_
  by_cases q0 : x1 = 0
  · have t := it_t q0 t
    refine V_tabIn (tgt := 44) dX12_count_1 (by rw [q0]; decide) (by rw [q0]; decide) (by rw [q0]; rfl) (by decide) ?_
    refine V_aload_n (q := 0) dX12_count_44 rfl rfl ?_
    refine V_geti f_X12_147 dX12_count_45 rfl rfl ?_
    exact V_iret rfl dX12_count_48 t
  have t := it_f q0 t
  by_cases q1 : x1 = 1
  · have t := it_t q1 t
    refine V_tabIn (tgt := 49) dX12_count_1 (by rw [q1]; decide) (by rw [q1]; decide) (by rw [q1]; rfl) (by decide) ?_
    refine V_aload_n (q := 0) dX12_count_49 rfl rfl ?_
    refine V_geti f_X12_154 dX12_count_50 rfl rfl ?_
    exact V_iret rfl dX12_count_53 t
  have t := it_f q1 t
  by_cases q2 : x1 = 2
  · have t := it_t q2 t
    refine V_tabIn (tgt := 54) dX12_count_1 (by rw [q2]; decide) (by rw [q2]; decide) (by rw [q2]; rfl) (by decide) ?_
    refine V_aload_n (q := 0) dX12_count_54 rfl rfl ?_
    refine V_geti f_X12_161 dX12_count_55 rfl rfl ?_
    exact V_iret rfl dX12_count_58 t
  have t := it_f q2 t
  by_cases q3 : x1 = 3
  · have t := it_t q3 t
    refine V_tabIn (tgt := 59) dX12_count_1 (by rw [q3]; decide) (by rw [q3]; decide) (by rw [q3]; rfl) (by decide) ?_
    refine V_aload_n (q := 0) dX12_count_59 rfl rfl ?_
    refine V_geti f_X12_261 dX12_count_60 rfl rfl ?_
    exact V_iret rfl dX12_count_63 t
  have t := it_f q3 t
  by_cases q4 : x1 = 4
  · have t := it_t q4 t
    refine V_tabIn (tgt := 64) dX12_count_1 (by rw [q4]; decide) (by rw [q4]; decide) (by rw [q4]; rfl) (by decide) ?_
    refine V_aload_n (q := 0) dX12_count_64 rfl rfl ?_
    refine V_geti f_X12_280 dX12_count_65 rfl rfl ?_
    exact V_iret rfl dX12_count_68 t
  have t := it_f q4 t
  by_cases q5 : x1 = 5
  · have t := it_t q5 t
    refine V_tabIn (tgt := 69) dX12_count_1 (by rw [q5]; decide) (by rw [q5]; decide) (by rw [q5]; rfl) (by decide) ?_
    refine V_iconst (v := 0) dX12_count_69 rfl ?_
    refine V_istore_n (L' := [(0, .ref (G.1 67)), (1, .int x1), (2, .int 0)]) dX12_count_70 rfl (by decide) rfl rfl ?_
    refine V_iconst (v := 0) dX12_count_71 rfl ?_
    refine V_istore_n (L' := [(0, .ref (G.1 67)), (1, .int x1), (2, .int 0), (3, .int 0)]) dX12_count_72 rfl (by decide) rfl rfl ?_
    refine V_pick (L' := [(0, .ref (G.1 67)), (2, .int 0), (3, .int 0)]) [0, 2, 3] rfl ?_
    exact t
  have t := it_f q5 t
  by_cases q6 : x1 = 6
  · have t := it_t q6 t
    refine V_tabIn (tgt := 106) dX12_count_1 (by rw [q6]; decide) (by rw [q6]; decide) (by rw [q6]; rfl) (by decide) ?_
    refine V_aload_n (q := 0) dX12_count_106 rfl rfl ?_
    refine V_geti f_X12_177 dX12_count_107 rfl rfl ?_
    exact V_iret rfl dX12_count_110 t
  have t := it_f q6 t
  have a0 := tab_ne (x := x1) (k := 0) (by decide) q0
  have a1 := tab_ne (x := x1) (k := 1) (by decide) q1
  have a2 := tab_ne (x := x1) (k := 2) (by decide) q2
  have a3 := tab_ne (x := x1) (k := 3) (by decide) q3
  have a4 := tab_ne (x := x1) (k := 4) (by decide) q4
  have a5 := tab_ne (x := x1) (k := 5) (by decide) q5
  have a6 := tab_ne (x := x1) (k := 6) (by decide) q6
  refine V_tabOut (tgt := 111) dX12_count_1 (by omega) (by decide) ?_
  refine V_bipush (v := (-2)) dX12_count_111 rfl ?_
  exact V_iret rfl dX12_count_113 t
set_option maxRecDepth 20000 in
set_option maxHeartbeats 4000000 in
theorem s_Model_count_73 (G : GA) (h : HP) (x2 : Int32) (x3 : Int32) (K : Int32 → HP → Prop) (t :
  if (h 67 4) ≤ x3 then (
    K x2 h
  ) else (
    vp_in x3 30 ∧
    if (h 110 (tn x3)) = 0 then (
      H_Model_count_73 G h (x2 + 1) (x3 + 1) K
    ) else (
      H_Model_count_73 G h (x2 + 0) (x3 + 1) K
    )
  )) : H_Model_count_73 G h x2 x3 K := by
  unfold H_Model_count_73
  refine V_iload_n (q := 2) dX12_count_73 rfl rfl ?_
  refine V_aload_n (q := 0) dX12_count_74 rfl rfl ?_
  refine V_geti f_X12_280 dX12_count_75 rfl rfl ?_
  refine V_icmp_ge (tgt := 104) dX12_count_78 (by decide) (fun q => ?_) (fun q => ?_)
  · have t := it_t q t
    refine V_iload_n (q := 1) dX12_count_104 rfl rfl ?_
    exact V_iret rfl dX12_count_105 t
  · have t := it_f q t
    refine V_iload_n (q := 1) dX12_count_81 rfl rfl ?_
    refine V_aload_n (q := 0) dX12_count_82 rfl rfl ?_
    refine V_getr f_X12_137 dX12_count_83 rfl rfl ?_
    refine V_iload_n (q := 2) dX12_count_86 rfl rfl ?_
    obtain ⟨n1, t⟩ := t
    refine V_zald dX12_count_87 rfl n1 ?_
    refine V_if_eq (tgt := 95) dX12_count_88 (by decide) (fun q => ?_) (fun q => ?_)
    · have t := it_t q t
      refine V_iconst (v := 1) dX12_count_95 rfl ?_
      refine V_iadd dX12_count_96 ?_
      refine V_istore_n (L' := [(0, .ref (G.1 67)), (2, .int (x2 + 1)), (3, .int x3)]) dX12_count_97 rfl (by decide) rfl rfl ?_
      refine V_iinc (L' := [(0, .ref (G.1 67)), (2, .int (x2 + 1)), (3, .int (x3 + 1))]) (q := 2) (a := 1) dX12_count_98 rfl rfl (by decide) rfl rfl ?_
      refine V_goto (tgt := 73) dX12_count_101 (by decide) ?_
      exact t
    · have t := it_f q t
      refine V_iconst (v := 0) dX12_count_91 rfl ?_
      refine V_goto (tgt := 96) dX12_count_92 (by decide) ?_
      refine V_iadd dX12_count_96 ?_
      refine V_istore_n (L' := [(0, .ref (G.1 67)), (2, .int (x2 + 0)), (3, .int x3)]) dX12_count_97 rfl (by decide) rfl rfl ?_
      refine V_iinc (L' := [(0, .ref (G.1 67)), (2, .int (x2 + 0)), (3, .int (x3 + 1))]) (q := 2) (a := 1) dX12_count_98 rfl rfl (by decide) rfl rfl ?_
      refine V_goto (tgt := 73) dX12_count_101 (by decide) ?_
      exact t
