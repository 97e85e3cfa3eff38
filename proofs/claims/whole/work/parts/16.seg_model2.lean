set_option maxRecDepth 20000 in
set_option maxHeartbeats 4000000 in
theorem s_Model_go_0 (G : GA) (h : HP) (x1 : Int32) (x2 : Int32) (K : HP → Prop) (t :
  ∀ h1 : HP, h1 = up h 67 40 x1 →
  ∀ h2 : HP, h2 = up h1 67 31 x2 →
  H_Model_go_12 G h2 x2 0 K) : P_Model_go G h x1 x2 K := by
  refine Sp_of_V pf_X12_go (Nat.le_of_ble_eq_true rfl) rfl ?_
  refine V_aload_n (q := 0) dX12_go_0 rfl rfl ?_
  refine V_iload_n (q := 1) dX12_go_1 rfl rfl ?_
  have t := t _ rfl
  refine V_put f_X12_205 p_X12_40 dX12_go_2 rfl rfl ?_
  refine V_aload_n (q := 0) dX12_go_5 rfl rfl ?_
  refine V_iload_n (q := 2) dX12_go_6 rfl rfl ?_
  have t := t _ rfl
  refine V_put f_X12_187 p_X12_31 dX12_go_7 rfl rfl ?_
  refine V_iconst (v := 0) dX12_go_10 rfl ?_
  refine V_istore_n (L' := [(0, .ref (G.1 67)), (1, .int x1), (2, .int x2), (3, .int 0)]) dX12_go_11 rfl (by decide) rfl rfl ?_
  refine V_pick (L' := [(0, .ref (G.1 67)), (2, .int x2), (3, .int 0)]) [0, 2, 3] rfl ?_
  exact t
set_option maxRecDepth 20000 in
set_option maxHeartbeats 4000000 in
theorem s_Model_go_12 (G : GA) (h : HP) (x2 : Int32) (x3 : Int32) (K : HP → Prop) (t :
  if 1344 ≤ x3 then (
    P_Model_at G h 0 0 (h 67 40) (fun (r2 : Int32) (h1 : HP) =>
      vp_in r2 1344 ∧
      ∀ h3 : HP, h3 = up h1 99 (tn r2) x2 →
      H_Model_go_58 G h3 x2 0 K
    )
  ) else (
    vp_in x3 1344 ∧
    ∀ h5 : HP, h5 = up h 98 (tn x3) 1000000000 →
    ∀ h7 : HP, h7 = up h5 99 (tn x3) 1000000000 →
    H_Model_go_12 G h7 x2 (x3 + 1) K
  )) : H_Model_go_12 G h x2 x3 K := by
  unfold H_Model_go_12
  refine V_iload_n (q := 2) dX12_go_12 rfl rfl ?_
  refine V_sipush (v := 1344) dX12_go_13 rfl ?_
  refine V_icmp_ge (tgt := 41) dX12_go_16 (by decide) (fun q => ?_) (fun q => ?_)
  · have t := it_t q t
    refine V_aload_n (q := 0) dX12_go_41 rfl rfl ?_
    refine V_getr f_X12_104 dX12_go_42 rfl rfl ?_
    refine V_iconst (v := 0) dX12_go_45 rfl ?_
    refine V_iconst (v := 0) dX12_go_46 rfl ?_
    refine V_aload_n (q := 0) dX12_go_47 rfl rfl ?_
    refine V_geti f_X12_205 dX12_go_48 rfl rfl ?_
    refine V_callS [.int 0, .int 0, .int (h 67 40)] [.ref (G.1 99)] g_X12_go_X12_at wt_X12_at dX12_go_51 rfl rfl (Nat.le_of_ble_eq_true rfl) t (fun _ h1 t => ?_)
    obtain ⟨r2, rfl, t⟩ := t
    refine V_iload_n (q := 1) dX12_go_54 rfl rfl ?_
    obtain ⟨n4, t⟩ := t
    have t := t _ rfl
    refine V_iast dX12_go_55 rfl n4 ?_
    refine V_iconst (v := 0) dX12_go_56 rfl ?_
    refine V_istore_n (L' := [(0, .ref (G.1 67)), (2, .int x2), (3, .int 0)]) dX12_go_57 rfl (by decide) rfl rfl ?_
    exact t
  · have t := it_f q t
    refine V_aload_n (q := 0) dX12_go_19 rfl rfl ?_
    refine V_getr f_X12_101 dX12_go_20 rfl rfl ?_
    refine V_iload_n (q := 2) dX12_go_23 rfl rfl ?_
    refine V_ldc (v := 1000000000) dX12_go_24 k_X12_208 ?_
    obtain ⟨n6, t⟩ := t
    have t := t _ rfl
    refine V_iast dX12_go_26 rfl n6 ?_
    refine V_aload_n (q := 0) dX12_go_27 rfl rfl ?_
    refine V_getr f_X12_104 dX12_go_28 rfl rfl ?_
    refine V_iload_n (q := 2) dX12_go_31 rfl rfl ?_
    refine V_ldc (v := 1000000000) dX12_go_32 k_X12_208 ?_
    have t := t _ rfl
    refine V_iast dX12_go_34 rfl n6 ?_
    refine V_iinc (L' := [(0, .ref (G.1 67)), (2, .int x2), (3, .int (x3 + 1))]) (q := 2) (a := 1) dX12_go_35 rfl rfl (by decide) rfl rfl ?_
    refine V_goto (tgt := 12) dX12_go_38 (by decide) ?_
    exact t
set_option maxRecDepth 20000 in
set_option maxHeartbeats 4000000 in
theorem s_Model_go_58 (G : GA) (h : HP) (x2 : Int32) (x3 : Int32) (K : HP → Prop) (t :
  if (h 67 2) ≤ x3 then (
    H_Model_go_112 G h x2 1 K
  ) else (
    vp_in x3 20 ∧
    if (h 81 (tn x3)) = (h 67 40) then (
      P_Model_at G h 0 0 (h 82 (tn x3)) (fun (r3 : Int32) (h2 : HP) =>
        P_Model_behind G h2 x3 x2 x2 (fun (r5 : Int32) (h4 : HP) =>
          P_Model_least_99 G h4 r3 r5 (fun h6 : HP =>
            H_Model_go_58 G h6 x2 (x3 + 1) K
          )
        )
      )
    ) else (
      H_Model_go_58 G h x2 (x3 + 1) K
    )
  )) : H_Model_go_58 G h x2 x3 K := by
  unfold H_Model_go_58
  refine V_iload_n (q := 2) dX12_go_58 rfl rfl ?_
  refine V_aload_n (q := 0) dX12_go_59 rfl rfl ?_
  refine V_geti f_X12_161 dX12_go_60 rfl rfl ?_
  refine V_icmp_ge (tgt := 110) dX12_go_63 (by decide) (fun q => ?_) (fun q => ?_)
  · have t := it_t q t
    refine V_iconst (v := 1) dX12_go_110 rfl ?_
    refine V_istore_n (L' := [(0, .ref (G.1 67)), (2, .int x2), (3, .int 1)]) dX12_go_111 rfl (by decide) rfl rfl ?_
    exact t
  · have t := it_f q t
    refine V_aload_n (q := 0) dX12_go_66 rfl rfl ?_
    refine V_getr f_X12_50 dX12_go_67 rfl rfl ?_
    refine V_iload_n (q := 2) dX12_go_70 rfl rfl ?_
    obtain ⟨n1, t⟩ := t
    refine V_iald dX12_go_71 rfl n1 ?_
    refine V_aload_n (q := 0) dX12_go_72 rfl rfl ?_
    refine V_geti f_X12_205 dX12_go_73 rfl rfl ?_
    refine V_icmp_ne (tgt := 104) dX12_go_76 (by decide) (fun q => ?_) (fun q => ?_)
    · have t := it_f q t
      refine V_iinc (L' := [(0, .ref (G.1 67)), (2, .int x2), (3, .int (x3 + 1))]) (q := 2) (a := 1) dX12_go_104 rfl rfl (by decide) rfl rfl ?_
      refine V_goto (tgt := 58) dX12_go_107 (by decide) ?_
      exact t
    · have t := it_t q t
      refine V_aload_n (q := 0) dX12_go_79 rfl rfl ?_
      refine V_getr f_X12_104 dX12_go_80 rfl rfl ?_
      refine V_iconst (v := 0) dX12_go_83 rfl ?_
      refine V_iconst (v := 0) dX12_go_84 rfl ?_
      refine V_aload_n (q := 0) dX12_go_85 rfl rfl ?_
      refine V_getr f_X12_53 dX12_go_86 rfl rfl ?_
      refine V_iload_n (q := 2) dX12_go_89 rfl rfl ?_
      refine V_iald dX12_go_90 rfl n1 ?_
      refine V_callS [.int 0, .int 0, .int (h 82 (tn x3))] [.ref (G.1 99)] g_X12_go_X12_at wt_X12_at dX12_go_91 rfl rfl (Nat.le_of_ble_eq_true rfl) t (fun _ h2 t => ?_)
      obtain ⟨r3, rfl, t⟩ := t
      refine V_aload_n (q := 0) dX12_go_94 rfl rfl ?_
      refine V_iload_n (q := 2) dX12_go_95 rfl rfl ?_
      refine V_iload_n (q := 1) dX12_go_96 rfl rfl ?_
      refine V_iload_n (q := 1) dX12_go_97 rfl rfl ?_
      refine V_callV [.int x3, .int x2, .int x2] [.int r3, .ref (G.1 99)] g_X12_go_X12_behind wi_X12_behind ws_X12_behind dX12_go_98 rfl rfl rfl rfl rfl (Nat.le_of_ble_eq_true rfl) t (fun _ h4 t => ?_)
      obtain ⟨r5, rfl, t⟩ := t
      refine V_callS [.ref (G.1 99), .int r3, .int r5] [] g_X12_go_X12_least wt_X12_least dX12_go_101 rfl rfl (Nat.le_of_ble_eq_true rfl) t (fun _ h6 t => ?_)
      obtain ⟨rfl, t⟩ := t
      refine V_iinc (L' := [(0, .ref (G.1 67)), (2, .int x2), (3, .int (x3 + 1))]) (q := 2) (a := 1) dX12_go_104 rfl rfl (by decide) rfl rfl ?_
      refine V_goto (tgt := 58) dX12_go_107 (by decide) ?_
      exact t
set_option maxRecDepth 20000 in
set_option maxHeartbeats 4000000 in
theorem s_Model_go_112 (G : GA) (h : HP) (x2 : Int32) (x3 : Int32) (K : HP → Prop) (t :
  if 4 ≤ x3 then (
    K h
  ) else (
    H_Model_go_120 G h x2 x3 0 K
  )) : H_Model_go_112 G h x2 x3 K := by
  unfold H_Model_go_112
  refine V_iload_n (q := 2) dX12_go_112 rfl rfl ?_
  refine V_iconst (v := 4) dX12_go_113 rfl ?_
  refine V_icmp_ge (tgt := 310) dX12_go_114 (by decide) (fun q => ?_) (fun q => ?_)
  · have t := it_t q t
    exact V_vret rfl dX12_go_310 t
  · have t := it_f q t
    refine V_iconst (v := 0) dX12_go_117 rfl ?_
    refine V_istore (L' := [(0, .ref (G.1 67)), (2, .int x2), (3, .int x3), (4, .int 0)]) dX12_go_118 (by decide) rfl rfl ?_
    exact t
set_option maxRecDepth 20000 in
set_option maxHeartbeats 4000000 in
theorem s_Model_go_120 (G : GA) (h : HP) (x2 : Int32) (x3 : Int32) (x4 : Int32) (K : HP → Prop) (t :
  if (h 67 33) ≤ x4 then (
    H_Model_go_145 G h x2 x3 0 K
  ) else (
    P_Model_ride G h x3 x4 (fun h1 : HP =>
      H_Model_go_120 G h1 x2 x3 (x4 + 1) K
    )
  )) : H_Model_go_120 G h x2 x3 x4 K := by
  unfold H_Model_go_120
  refine V_iload (q := 3) dX12_go_120 rfl ?_
  refine V_aload_n (q := 0) dX12_go_122 rfl rfl ?_
  refine V_geti f_X12_193 dX12_go_123 rfl rfl ?_
  refine V_icmp_ge (tgt := 142) dX12_go_126 (by decide) (fun q => ?_) (fun q => ?_)
  · have t := it_t q t
    refine V_iconst (v := 0) dX12_go_142 rfl ?_
    refine V_istore (L' := [(0, .ref (G.1 67)), (2, .int x2), (3, .int x3), (4, .int 0)]) dX12_go_143 (by decide) rfl rfl ?_
    exact t
  · have t := it_f q t
    refine V_aload_n (q := 0) dX12_go_129 rfl rfl ?_
    refine V_iload_n (q := 2) dX12_go_130 rfl rfl ?_
    refine V_iload (q := 3) dX12_go_131 rfl ?_
    refine V_callV [.int x3, .int x4] [] g_X12_go_X12_ride wi_X12_ride ws_X12_ride dX12_go_133 rfl rfl rfl rfl rfl (Nat.le_of_ble_eq_true rfl) t (fun _ h1 t => ?_)
    obtain ⟨rfl, t⟩ := t
    refine V_iinc (L' := [(0, .ref (G.1 67)), (2, .int x2), (3, .int x3), (4, .int (x4 + 1))]) (q := 3) (a := 1) dX12_go_136 rfl rfl (by decide) rfl rfl ?_
    refine V_goto (tgt := 120) dX12_go_139 (by decide) ?_
    exact t
set_option maxRecDepth 20000 in
set_option maxHeartbeats 4000000 in
theorem s_Model_go_145 (G : GA) (h : HP) (x2 : Int32) (x3 : Int32) (x4 : Int32) (K : HP → Prop) (t :
  if 28 ≤ x4 then (
    H_Model_go_112 G h x2 (x3 + 1) K
  ) else (
    H_Model_go_155 G h x2 x3 x4 0 K
  )) : H_Model_go_145 G h x2 x3 x4 K := by
  unfold H_Model_go_145
  refine V_iload (q := 3) dX12_go_145 rfl ?_
  refine V_bipush (v := 28) dX12_go_147 rfl ?_
  refine V_icmp_ge (tgt := 304) dX12_go_149 (by decide) (fun q => ?_) (fun q => ?_)
  · have t := it_t q t
    refine V_iinc (L' := [(0, .ref (G.1 67)), (2, .int x2), (3, .int (x3 + 1)), (4, .int x4)]) (q := 2) (a := 1) dX12_go_304 rfl rfl (by decide) rfl rfl ?_
    refine V_goto (tgt := 112) dX12_go_307 (by decide) ?_
    refine V_pick (L' := [(0, .ref (G.1 67)), (2, .int x2), (3, .int (x3 + 1))]) [0, 1, 2] rfl ?_
    exact t
  · have t := it_f q t
    refine V_iconst (v := 0) dX12_go_152 rfl ?_
    refine V_istore (L' := [(0, .ref (G.1 67)), (2, .int x2), (3, .int x3), (4, .int x4), (5, .int 0)]) dX12_go_153 (by decide) rfl rfl ?_
    exact t
set_option maxRecDepth 20000 in
set_option maxHeartbeats 4000000 in
theorem s_Model_go_155 (G : GA) (h : HP) (x2 : Int32) (x3 : Int32) (x4 : Int32) (x5 : Int32) (K : HP → Prop) (t :
  if (h 67 0) ≤ x5 then (
    H_Model_go_227 G h x2 x3 x4 0 K
  ) else (
    P_Model_at G h x3 x4 x5 (fun (r2 : Int32) (h1 : HP) =>
      vp_in r2 1344 ∧
      if 1000000000 ≤ (h1 98 (tn r2)) then (
        H_Model_go_155 G h1 x2 x3 x4 (x5 + 1) K
      ) else (
        P_Model_at G h1 x3 x4 x5 (fun (r5 : Int32) (h4 : HP) =>
          P_Model_at G h4 x3 x4 x5 (fun (r7 : Int32) (h6 : HP) =>
            vp_in r7 1344 ∧
            vp_in x5 12 ∧
            P_Model_least_99 G h6 r5 ((h6 98 (tn r7)) + (h6 68 (tn x5))) (fun h10 : HP =>
              H_Model_go_155 G h10 x2 x3 x4 (x5 + 1) K
            )
          )
        )
      )
    )
  )) : H_Model_go_155 G h x2 x3 x4 x5 K := by
  unfold H_Model_go_155
  refine V_iload (q := 4) dX12_go_155 rfl ?_
  refine V_aload_n (q := 0) dX12_go_157 rfl rfl ?_
  refine V_geti f_X12_147 dX12_go_158 rfl rfl ?_
  refine V_icmp_ge (tgt := 224) dX12_go_161 (by decide) (fun q => ?_) (fun q => ?_)
  · have t := it_t q t
    refine V_iconst (v := 0) dX12_go_224 rfl ?_
    refine V_istore (L' := [(0, .ref (G.1 67)), (2, .int x2), (3, .int x3), (4, .int x4), (5, .int 0)]) dX12_go_225 (by decide) rfl rfl ?_
    exact t
  · have t := it_f q t
    refine V_aload_n (q := 0) dX12_go_164 rfl rfl ?_
    refine V_getr f_X12_101 dX12_go_165 rfl rfl ?_
    refine V_iload_n (q := 2) dX12_go_168 rfl rfl ?_
    refine V_iload (q := 3) dX12_go_169 rfl ?_
    refine V_iload (q := 4) dX12_go_171 rfl ?_
    refine V_callS [.int x3, .int x4, .int x5] [.ref (G.1 98)] g_X12_go_X12_at wt_X12_at dX12_go_173 rfl rfl (Nat.le_of_ble_eq_true rfl) t (fun _ h1 t => ?_)
    obtain ⟨r2, rfl, t⟩ := t
    obtain ⟨n3, t⟩ := t
    refine V_iald dX12_go_176 rfl n3 ?_
    refine V_ldc (v := 1000000000) dX12_go_177 k_X12_208 ?_
    refine V_icmp_ge (tgt := 218) dX12_go_179 (by decide) (fun q => ?_) (fun q => ?_)
    · have t := it_t q t
      refine V_iinc (L' := [(0, .ref (G.1 67)), (2, .int x2), (3, .int x3), (4, .int x4), (5, .int (x5 + 1))]) (q := 4) (a := 1) dX12_go_218 rfl rfl (by decide) rfl rfl ?_
      refine V_goto (tgt := 155) dX12_go_221 (by decide) ?_
      exact t
    · have t := it_f q t
      refine V_aload_n (q := 0) dX12_go_182 rfl rfl ?_
      refine V_getr f_X12_104 dX12_go_183 rfl rfl ?_
      refine V_iload_n (q := 2) dX12_go_186 rfl rfl ?_
      refine V_iload (q := 3) dX12_go_187 rfl ?_
      refine V_iload (q := 4) dX12_go_189 rfl ?_
      refine V_callS [.int x3, .int x4, .int x5] [.ref (G.1 99)] g_X12_go_X12_at wt_X12_at dX12_go_191 rfl rfl (Nat.le_of_ble_eq_true rfl) t (fun _ h4 t => ?_)
      obtain ⟨r5, rfl, t⟩ := t
      refine V_aload_n (q := 0) dX12_go_194 rfl rfl ?_
      refine V_getr f_X12_101 dX12_go_195 rfl rfl ?_
      refine V_iload_n (q := 2) dX12_go_198 rfl rfl ?_
      refine V_iload (q := 3) dX12_go_199 rfl ?_
      refine V_iload (q := 4) dX12_go_201 rfl ?_
      refine V_callS [.int x3, .int x4, .int x5] [.ref (G.1 98), .int r5, .ref (G.1 99)] g_X12_go_X12_at wt_X12_at dX12_go_203 rfl rfl (Nat.le_of_ble_eq_true rfl) t (fun _ h6 t => ?_)
      obtain ⟨r7, rfl, t⟩ := t
      obtain ⟨n8, t⟩ := t
      refine V_iald dX12_go_206 rfl n8 ?_
      refine V_aload_n (q := 0) dX12_go_207 rfl rfl ?_
      refine V_getr f_X12_7 dX12_go_208 rfl rfl ?_
      refine V_iload (q := 4) dX12_go_211 rfl ?_
      obtain ⟨n9, t⟩ := t
      refine V_iald dX12_go_213 rfl n9 ?_
      refine V_iadd dX12_go_214 ?_
      refine V_callS [.ref (G.1 99), .int r5, .int ((h6 98 (tn r7)) + (h6 68 (tn x5)))] [] g_X12_go_X12_least wt_X12_least dX12_go_215 rfl rfl (Nat.le_of_ble_eq_true rfl) t (fun _ h10 t => ?_)
      obtain ⟨rfl, t⟩ := t
      refine V_iinc (L' := [(0, .ref (G.1 67)), (2, .int x2), (3, .int x3), (4, .int x4), (5, .int (x5 + 1))]) (q := 4) (a := 1) dX12_go_218 rfl rfl (by decide) rfl rfl ?_
      refine V_goto (tgt := 155) dX12_go_221 (by decide) ?_
      exact t
set_option maxRecDepth 20000 in
set_option maxHeartbeats 4000000 in
theorem s_Model_go_227 (G : GA) (h : HP) (x2 : Int32) (x3 : Int32) (x4 : Int32) (x5 : Int32) (K : HP → Prop) (t :
  if (h 67 2) ≤ x5 then (
    H_Model_go_145 G h x2 x3 (x4 + 1) K
  ) else (
    vp_in x5 20 ∧
    P_Model_at G h x3 x4 (h 81 (tn x5)) (fun (r3 : Int32) (h2 : HP) =>
      vp_in r3 1344 ∧
      if 1000000000 ≤ (h2 98 (tn r3)) then (
        H_Model_go_227 G h2 x2 x3 x4 (x5 + 1) K
      ) else (
        P_Model_at G h2 x3 x4 (h2 82 (tn x5)) (fun (r6 : Int32) (h5 : HP) =>
          P_Model_behind G h5 x5 (h2 98 (tn r3)) x2 (fun (r8 : Int32) (h7 : HP) =>
            P_Model_least_99 G h7 r6 r8 (fun h9 : HP =>
              H_Model_go_227 G h9 x2 x3 x4 (x5 + 1) K
            )
          )
        )
      )
    )
  )) : H_Model_go_227 G h x2 x3 x4 x5 K := by
  unfold H_Model_go_227
  refine V_iload (q := 4) dX12_go_227 rfl ?_
  refine V_aload_n (q := 0) dX12_go_229 rfl rfl ?_
  refine V_geti f_X12_161 dX12_go_230 rfl rfl ?_
  refine V_icmp_ge (tgt := 298) dX12_go_233 (by decide) (fun q => ?_) (fun q => ?_)
  · have t := it_t q t
    refine V_iinc (L' := [(0, .ref (G.1 67)), (2, .int x2), (3, .int x3), (4, .int (x4 + 1)), (5, .int x5)]) (q := 3) (a := 1) dX12_go_298 rfl rfl (by decide) rfl rfl ?_
    refine V_goto (tgt := 145) dX12_go_301 (by decide) ?_
    refine V_pick (L' := [(0, .ref (G.1 67)), (2, .int x2), (3, .int x3), (4, .int (x4 + 1))]) [0, 1, 2, 3] rfl ?_
    exact t
  · have t := it_f q t
    refine V_aload_n (q := 0) dX12_go_236 rfl rfl ?_
    refine V_getr f_X12_101 dX12_go_237 rfl rfl ?_
    refine V_iload_n (q := 2) dX12_go_240 rfl rfl ?_
    refine V_iload (q := 3) dX12_go_241 rfl ?_
    refine V_aload_n (q := 0) dX12_go_243 rfl rfl ?_
    refine V_getr f_X12_50 dX12_go_244 rfl rfl ?_
    refine V_iload (q := 4) dX12_go_247 rfl ?_
    obtain ⟨n1, t⟩ := t
    refine V_iald dX12_go_249 rfl n1 ?_
    refine V_callS [.int x3, .int x4, .int (h 81 (tn x5))] [.ref (G.1 98)] g_X12_go_X12_at wt_X12_at dX12_go_250 rfl rfl (Nat.le_of_ble_eq_true rfl) t (fun _ h2 t => ?_)
    obtain ⟨r3, rfl, t⟩ := t
    obtain ⟨n4, t⟩ := t
    refine V_iald dX12_go_253 rfl n4 ?_
    refine V_istore (L' := [(0, .ref (G.1 67)), (2, .int x2), (3, .int x3), (4, .int x4), (5, .int x5), (6, .int (h2 98 (tn r3)))]) dX12_go_254 (by decide) rfl rfl ?_
    refine V_iload (q := 5) dX12_go_256 rfl ?_
    refine V_ldc (v := 1000000000) dX12_go_258 k_X12_208 ?_
    refine V_icmp_ge (tgt := 292) dX12_go_260 (by decide) (fun q => ?_) (fun q => ?_)
    · have t := it_t q t
      refine V_iinc (L' := [(0, .ref (G.1 67)), (2, .int x2), (3, .int x3), (4, .int x4), (5, .int (x5 + 1)), (6, .int (h2 98 (tn r3)))]) (q := 4) (a := 1) dX12_go_292 rfl rfl (by decide) rfl rfl ?_
      refine V_goto (tgt := 227) dX12_go_295 (by decide) ?_
      refine V_pick (L' := [(0, .ref (G.1 67)), (2, .int x2), (3, .int x3), (4, .int x4), (5, .int (x5 + 1))]) [0, 1, 2, 3, 4] rfl ?_
      exact t
    · have t := it_f q t
      refine V_aload_n (q := 0) dX12_go_263 rfl rfl ?_
      refine V_getr f_X12_104 dX12_go_264 rfl rfl ?_
      refine V_iload_n (q := 2) dX12_go_267 rfl rfl ?_
      refine V_iload (q := 3) dX12_go_268 rfl ?_
      refine V_aload_n (q := 0) dX12_go_270 rfl rfl ?_
      refine V_getr f_X12_53 dX12_go_271 rfl rfl ?_
      refine V_iload (q := 4) dX12_go_274 rfl ?_
      refine V_iald dX12_go_276 rfl n1 ?_
      refine V_callS [.int x3, .int x4, .int (h2 82 (tn x5))] [.ref (G.1 99)] g_X12_go_X12_at wt_X12_at dX12_go_277 rfl rfl (Nat.le_of_ble_eq_true rfl) t (fun _ h5 t => ?_)
      obtain ⟨r6, rfl, t⟩ := t
      refine V_aload_n (q := 0) dX12_go_280 rfl rfl ?_
      refine V_iload (q := 4) dX12_go_281 rfl ?_
      refine V_iload (q := 5) dX12_go_283 rfl ?_
      refine V_iload_n (q := 1) dX12_go_285 rfl rfl ?_
      refine V_callV [.int x5, .int (h2 98 (tn r3)), .int x2] [.int r6, .ref (G.1 99)] g_X12_go_X12_behind wi_X12_behind ws_X12_behind dX12_go_286 rfl rfl rfl rfl rfl (Nat.le_of_ble_eq_true rfl) t (fun _ h7 t => ?_)
      obtain ⟨r8, rfl, t⟩ := t
      refine V_callS [.ref (G.1 99), .int r6, .int r8] [] g_X12_go_X12_least wt_X12_least dX12_go_289 rfl rfl (Nat.le_of_ble_eq_true rfl) t (fun _ h9 t => ?_)
      obtain ⟨rfl, t⟩ := t
      refine V_iinc (L' := [(0, .ref (G.1 67)), (2, .int x2), (3, .int x3), (4, .int x4), (5, .int (x5 + 1)), (6, .int (h2 98 (tn r3)))]) (q := 4) (a := 1) dX12_go_292 rfl rfl (by decide) rfl rfl ?_
      refine V_goto (tgt := 227) dX12_go_295 (by decide) ?_
      refine V_pick (L' := [(0, .ref (G.1 67)), (2, .int x2), (3, .int x3), (4, .int x4), (5, .int (x5 + 1))]) [0, 1, 2, 3, 4] rfl ?_
      exact t
set_option maxRecDepth 20000 in
set_option maxHeartbeats 4000000 in
theorem s_Model_isBeaten_0 (G : GA) (h : HP) (x1 : Int32) (x2 : Int32) (x3 : Int32) (x4 : Int32) (K : Bool → HP → Prop) (t :
  H_Model_isBeaten_3 G h x1 x2 x3 x4 0 K) : P_Model_isBeaten G h x1 x2 x3 x4 K := by
  refine Sp_of_V pf_X12_isBeaten (Nat.le_of_ble_eq_true rfl) rfl ?_
  refine V_iconst (v := 0) dX12_isBeaten_0 rfl ?_
  refine V_istore (L' := [(0, .ref (G.1 67)), (1, .int x1), (2, .int x2), (3, .int x3), (4, .int x4), (5, .int 0)]) dX12_isBeaten_1 (by decide) rfl rfl ?_
  exact t
set_option maxRecDepth 20000 in
set_option maxHeartbeats 4000000 in
theorem s_Model_isBeaten_3 (G : GA) (h : HP) (x1 : Int32) (x2 : Int32) (x3 : Int32) (x4 : Int32) (x5 : Int32) (K : Bool → HP → Prop) (t :
  if x2 < x5 then (
    K false h
  ) else (
    H_Model_isBeaten_12 G h x1 x2 x3 x4 x5 0 K
  )) : H_Model_isBeaten_3 G h x1 x2 x3 x4 x5 K := by
  unfold H_Model_isBeaten_3
  refine V_iload (q := 5) dX12_isBeaten_3 rfl ?_
  refine V_iload_n (q := 2) dX12_isBeaten_5 rfl rfl ?_
  refine V_icmp_gt (tgt := 68) dX12_isBeaten_6 (by decide) (fun q => ?_) (fun q => ?_)
  · have t := it_t q t
    refine V_iconst (v := 0) dX12_isBeaten_68 rfl ?_
    exact V_zret (b := false) rfl dX12_isBeaten_69 t
  · have t := it_f q t
    refine V_iconst (v := 0) dX12_isBeaten_9 rfl ?_
    refine V_istore (L' := [(0, .ref (G.1 67)), (1, .int x1), (2, .int x2), (3, .int x3), (4, .int x4), (5, .int x5), (6, .int 0)]) dX12_isBeaten_10 (by decide) rfl rfl ?_
    exact t
set_option maxRecDepth 20000 in
set_option maxHeartbeats 4000000 in
theorem s_Model_isBeaten_12 (G : GA) (h : HP) (x1 : Int32) (x2 : Int32) (x3 : Int32) (x4 : Int32) (x5 : Int32) (x6 : Int32) (K : Bool → HP → Prop) (t :
  if x3 < x6 then (
    H_Model_isBeaten_3 G h x1 x2 x3 x4 (x5 + 1) K
  ) else (
    P_Model_arrival G h x5 x6 x4 (fun (r2 : Int32) (h1 : HP) =>
      if x1 < r2 then (
        H_Model_isBeaten_12 G h1 x1 x2 x3 x4 x5 (x6 + 1) K
      ) else (
        if r2 < x1 then (
          K true h1
        ) else (
          if x5 < x2 then (
            K true h1
          ) else (
            if x3 ≤ x6 then (
              H_Model_isBeaten_12 G h1 x1 x2 x3 x4 x5 (x6 + 1) K
            ) else (
              K true h1
            )
          )
        )
      )
    )
  )) : H_Model_isBeaten_12 G h x1 x2 x3 x4 x5 x6 K := by
  unfold H_Model_isBeaten_12
  refine V_iload (q := 6) dX12_isBeaten_12 rfl ?_
  refine V_iload_n (q := 3) dX12_isBeaten_14 rfl rfl ?_
  refine V_icmp_gt (tgt := 62) dX12_isBeaten_15 (by decide) (fun q => ?_) (fun q => ?_)
  · have t := it_t q t
    refine V_iinc (L' := [(0, .ref (G.1 67)), (1, .int x1), (2, .int x2), (3, .int x3), (4, .int x4), (5, .int (x5 + 1)), (6, .int x6)]) (q := 5) (a := 1) dX12_isBeaten_62 rfl rfl (by decide) rfl rfl ?_
    refine V_goto (tgt := 3) dX12_isBeaten_65 (by decide) ?_
    refine V_pick (L' := [(0, .ref (G.1 67)), (1, .int x1), (2, .int x2), (3, .int x3), (4, .int x4), (5, .int (x5 + 1))]) [0, 1, 2, 3, 4, 5] rfl ?_
    exact t
  · have t := it_f q t
    refine V_aload_n (q := 0) dX12_isBeaten_18 rfl rfl ?_
    refine V_iload (q := 5) dX12_isBeaten_19 rfl ?_
    refine V_iload (q := 6) dX12_isBeaten_21 rfl ?_
    refine V_iload (q := 4) dX12_isBeaten_23 rfl ?_
    refine V_callV [.int x5, .int x6, .int x4] [] g_X12_isBeaten_X12_arrival wi_X12_arrival ws_X12_arrival dX12_isBeaten_25 rfl rfl rfl rfl rfl (Nat.le_of_ble_eq_true rfl) t (fun _ h1 t => ?_)
    obtain ⟨r2, rfl, t⟩ := t
    refine V_istore (L' := [(0, .ref (G.1 67)), (1, .int x1), (2, .int x2), (3, .int x3), (4, .int x4), (5, .int x5), (6, .int x6), (7, .int r2)]) dX12_isBeaten_28 (by decide) rfl rfl ?_
    refine V_iload (q := 7) dX12_isBeaten_30 rfl ?_
    refine V_iload_n (q := 1) dX12_isBeaten_32 rfl rfl ?_
    refine V_icmp_gt (tgt := 56) dX12_isBeaten_33 (by decide) (fun q => ?_) (fun q => ?_)
    · have t := it_t q t
      refine V_iinc (L' := [(0, .ref (G.1 67)), (1, .int x1), (2, .int x2), (3, .int x3), (4, .int x4), (5, .int x5), (6, .int (x6 + 1)), (7, .int r2)]) (q := 6) (a := 1) dX12_isBeaten_56 rfl rfl (by decide) rfl rfl ?_
      refine V_goto (tgt := 12) dX12_isBeaten_59 (by decide) ?_
      refine V_pick (L' := [(0, .ref (G.1 67)), (1, .int x1), (2, .int x2), (3, .int x3), (4, .int x4), (5, .int x5), (6, .int (x6 + 1))]) [0, 1, 2, 3, 4, 5, 6] rfl ?_
      exact t
    · have t := it_f q t
      refine V_iload (q := 7) dX12_isBeaten_36 rfl ?_
      refine V_iload_n (q := 1) dX12_isBeaten_38 rfl rfl ?_
      refine V_icmp_lt (tgt := 54) dX12_isBeaten_39 (by decide) (fun q => ?_) (fun q => ?_)
      · have t := it_t q t
        refine V_iconst (v := 1) dX12_isBeaten_54 rfl ?_
        exact V_zret (b := true) rfl dX12_isBeaten_55 t
      · have t := it_f q t
        refine V_iload (q := 5) dX12_isBeaten_42 rfl ?_
        refine V_iload_n (q := 2) dX12_isBeaten_44 rfl rfl ?_
        refine V_icmp_lt (tgt := 54) dX12_isBeaten_45 (by decide) (fun q => ?_) (fun q => ?_)
        · have t := it_t q t
          refine V_iconst (v := 1) dX12_isBeaten_54 rfl ?_
          exact V_zret (b := true) rfl dX12_isBeaten_55 t
        · have t := it_f q t
          refine V_iload (q := 6) dX12_isBeaten_48 rfl ?_
          refine V_iload_n (q := 3) dX12_isBeaten_50 rfl rfl ?_
          refine V_icmp_ge (tgt := 56) dX12_isBeaten_51 (by decide) (fun q => ?_) (fun q => ?_)
          · have t := it_t q t
            refine V_iinc (L' := [(0, .ref (G.1 67)), (1, .int x1), (2, .int x2), (3, .int x3), (4, .int x4), (5, .int x5), (6, .int (x6 + 1)), (7, .int r2)]) (q := 6) (a := 1) dX12_isBeaten_56 rfl rfl (by decide) rfl rfl ?_
            refine V_goto (tgt := 12) dX12_isBeaten_59 (by decide) ?_
            refine V_pick (L' := [(0, .ref (G.1 67)), (1, .int x1), (2, .int x2), (3, .int x3), (4, .int x4), (5, .int x5), (6, .int (x6 + 1))]) [0, 1, 2, 3, 4, 5, 6] rfl ?_
            exact t
          · have t := it_f q t
            refine V_iconst (v := 1) dX12_isBeaten_54 rfl ?_
            exact V_zret (b := true) rfl dX12_isBeaten_55 t
set_option maxRecDepth 20000 in
set_option maxHeartbeats 4000000 in
theorem s_Model_comesAt_0 (G : GA) (h : HP) (x1 : Int32) (x2 : Int32) (x3 : Int32) (K : Int32 → HP → Prop) (t :
  vp_in ((8 * x1) + x3) 192 ∧
  P_Model_lateAt G h x1 x2 x3 (fun (r3 : Int32) (h2 : HP) =>
    K (((1440 * x2) + (h 77 (tn ((8 * x1) + x3)))) + r3) h2
  )) : P_Model_comesAt G h x1 x2 x3 K := by
  refine Sp_of_V pf_X12_comesAt (Nat.le_of_ble_eq_true rfl) rfl ?_
  refine V_sipush (v := 1440) dX12_comesAt_0 rfl ?_
  refine V_iload_n (q := 2) dX12_comesAt_3 rfl rfl ?_
  refine V_imul dX12_comesAt_4 ?_
  refine V_aload_n (q := 0) dX12_comesAt_5 rfl rfl ?_
  refine V_getr f_X12_37 dX12_comesAt_6 rfl rfl ?_
  refine V_bipush (v := 8) dX12_comesAt_9 rfl ?_
  refine V_iload_n (q := 1) dX12_comesAt_11 rfl rfl ?_
  refine V_imul dX12_comesAt_12 ?_
  refine V_iload_n (q := 3) dX12_comesAt_13 rfl rfl ?_
  refine V_iadd dX12_comesAt_14 ?_
  obtain ⟨n1, t⟩ := t
  refine V_iald dX12_comesAt_15 rfl n1 ?_
  refine V_iadd dX12_comesAt_16 ?_
  refine V_aload_n (q := 0) dX12_comesAt_17 rfl rfl ?_
  refine V_iload_n (q := 1) dX12_comesAt_18 rfl rfl ?_
  refine V_iload_n (q := 2) dX12_comesAt_19 rfl rfl ?_
  refine V_iload_n (q := 3) dX12_comesAt_20 rfl rfl ?_
  refine V_callV [.int x1, .int x2, .int x3] [.int ((1440 * x2) + (h 77 (tn ((8 * x1) + x3))))] g_X12_comesAt_X12_lateAt wi_X12_lateAt ws_X12_lateAt dX12_comesAt_21 rfl rfl rfl rfl rfl (Nat.le_of_ble_eq_true rfl) t (fun _ h2 t => ?_)
  obtain ⟨r3, rfl, t⟩ := t
  refine V_iadd dX12_comesAt_24 ?_
  exact V_iret rfl dX12_comesAt_25 t
set_option maxRecDepth 20000 in
set_option maxHeartbeats 4000000 in
theorem s_Model_leavesAt_0 (G : GA) (h : HP) (x1 : Int32) (x2 : Int32) (x3 : Int32) (K : Int32 → HP → Prop) (t :
  vp_in ((8 * x1) + x3) 192 ∧
  P_Model_lateAt G h x1 x2 x3 (fun (r3 : Int32) (h2 : HP) =>
    K (((1440 * x2) + (h 78 (tn ((8 * x1) + x3)))) + r3) h2
  )) : P_Model_leavesAt G h x1 x2 x3 K := by
  refine Sp_of_V pf_X12_leavesAt (Nat.le_of_ble_eq_true rfl) rfl ?_
  refine V_sipush (v := 1440) dX12_leavesAt_0 rfl ?_
  refine V_iload_n (q := 2) dX12_leavesAt_3 rfl rfl ?_
  refine V_imul dX12_leavesAt_4 ?_
  refine V_aload_n (q := 0) dX12_leavesAt_5 rfl rfl ?_
  refine V_getr f_X12_40 dX12_leavesAt_6 rfl rfl ?_
  refine V_bipush (v := 8) dX12_leavesAt_9 rfl ?_
  refine V_iload_n (q := 1) dX12_leavesAt_11 rfl rfl ?_
  refine V_imul dX12_leavesAt_12 ?_
  refine V_iload_n (q := 3) dX12_leavesAt_13 rfl rfl ?_
  refine V_iadd dX12_leavesAt_14 ?_
  obtain ⟨n1, t⟩ := t
  refine V_iald dX12_leavesAt_15 rfl n1 ?_
  refine V_iadd dX12_leavesAt_16 ?_
  refine V_aload_n (q := 0) dX12_leavesAt_17 rfl rfl ?_
  refine V_iload_n (q := 1) dX12_leavesAt_18 rfl rfl ?_
  refine V_iload_n (q := 2) dX12_leavesAt_19 rfl rfl ?_
  refine V_iload_n (q := 3) dX12_leavesAt_20 rfl rfl ?_
  refine V_callV [.int x1, .int x2, .int x3] [.int ((1440 * x2) + (h 78 (tn ((8 * x1) + x3))))] g_X12_leavesAt_X12_lateAt wi_X12_lateAt ws_X12_lateAt dX12_leavesAt_21 rfl rfl rfl rfl rfl (Nat.le_of_ble_eq_true rfl) t (fun _ h2 t => ?_)
  obtain ⟨r3, rfl, t⟩ := t
  refine V_iadd dX12_leavesAt_24 ?_
  exact V_iret rfl dX12_leavesAt_25 t
set_option maxRecDepth 20000 in
set_option maxHeartbeats 4000000 in
theorem s_Model_runs_0 (G : GA) (h : HP) (x1 : Int32) (x2 : Int32) (K : Bool → HP → Prop) (t :
  vp_in x1 24 ∧
  vp_in x2 100 ∧
  if (((h 73 (tn x1)) >>> ((h 71 (tn x2)) &&& 31)) &&& 1) = 1 then (
    vp_in ((100 * x1) + x2) 2400 ∧
    if (h 80 (tn ((100 * x1) + x2))) = 0 then (
      K true h
    ) else (
      K false h
    )
  ) else (
    K false h
  )) : P_Model_runs G h x1 x2 K := by
  refine Sp_of_V pf_X12_runs (Nat.le_of_ble_eq_true rfl) rfl ?_
  refine V_aload_n (q := 0) dX12_runs_0 rfl rfl ?_
  refine V_getr f_X12_25 dX12_runs_1 rfl rfl ?_
  refine V_iload_n (q := 1) dX12_runs_4 rfl rfl ?_
  obtain ⟨n1, t⟩ := t
  refine V_iald dX12_runs_5 rfl n1 ?_
  refine V_aload_n (q := 0) dX12_runs_6 rfl rfl ?_
  refine V_getr f_X12_19 dX12_runs_7 rfl rfl ?_
  refine V_iload_n (q := 2) dX12_runs_10 rfl rfl ?_
  obtain ⟨n2, t⟩ := t
  refine V_iald dX12_runs_11 rfl n2 ?_
  refine V_ishr dX12_runs_12 ?_
  refine V_iconst (v := 1) dX12_runs_13 rfl ?_
  refine V_iand dX12_runs_14 ?_
  refine V_iconst (v := 1) dX12_runs_15 rfl ?_
  refine V_icmp_ne (tgt := 37) dX12_runs_16 (by decide) (fun q => ?_) (fun q => ?_)
  · have t := it_f q t
    refine V_iconst (v := 0) dX12_runs_37 rfl ?_
    exact V_zret (b := false) rfl dX12_runs_38 t
  · have t := it_t q t
    refine V_aload_n (q := 0) dX12_runs_19 rfl rfl ?_
    refine V_getr f_X12_47 dX12_runs_20 rfl rfl ?_
    refine V_bipush (v := 100) dX12_runs_23 rfl ?_
    refine V_iload_n (q := 1) dX12_runs_25 rfl rfl ?_
    refine V_imul dX12_runs_26 ?_
    refine V_iload_n (q := 2) dX12_runs_27 rfl rfl ?_
    refine V_iadd dX12_runs_28 ?_
    obtain ⟨n3, t⟩ := t
    refine V_zald dX12_runs_29 rfl n3 ?_
    refine V_if_ne (tgt := 37) dX12_runs_30 (by decide) (fun q => ?_) (fun q => ?_)
    · have t := it_f q t
      refine V_iconst (v := 0) dX12_runs_37 rfl ?_
      exact V_zret (b := false) rfl dX12_runs_38 t
    · have t := it_t q t
      refine V_iconst (v := 1) dX12_runs_33 rfl ?_
      refine V_goto (tgt := 38) dX12_runs_34 (by decide) ?_
      exact V_zret (b := true) rfl dX12_runs_38 t
set_option maxRecDepth 20000 in
set_option maxHeartbeats 4000000 in
theorem s_Model_look_0 (G : GA) (h : HP) (x1 : Int32) (x2 : Int32) (K : HP → Prop) (t :
  ∀ h1 : HP, h1 = up h 67 31 ((1440 * x1) + x2) →
  ∀ h2 : HP, h2 = up h1 67 32 (1440 * (x1 + 2)) →
  ∀ h3 : HP, h3 = up h2 67 33 0 →
  H_Model_look_29 G h3 0 K) : P_Model_look G h x1 x2 K := by
  refine Sp_of_V pf_X12_look (Nat.le_of_ble_eq_true rfl) rfl ?_
  refine V_aload_n (q := 0) dX12_look_0 rfl rfl ?_
  refine V_sipush (v := 1440) dX12_look_1 rfl ?_
  refine V_iload_n (q := 1) dX12_look_4 rfl rfl ?_
  refine V_imul dX12_look_5 ?_
  refine V_iload_n (q := 2) dX12_look_6 rfl rfl ?_
  refine V_iadd dX12_look_7 ?_
  have t := t _ rfl
  refine V_put f_X12_187 p_X12_31 dX12_look_8 rfl rfl ?_
  refine V_aload_n (q := 0) dX12_look_11 rfl rfl ?_
  refine V_sipush (v := 1440) dX12_look_12 rfl ?_
  refine V_iload_n (q := 1) dX12_look_15 rfl rfl ?_
  refine V_iconst (v := 2) dX12_look_16 rfl ?_
  refine V_iadd dX12_look_17 ?_
  refine V_imul dX12_look_18 ?_
  have t := t _ rfl
  refine V_put f_X12_190 p_X12_32 dX12_look_19 rfl rfl ?_
  refine V_aload_n (q := 0) dX12_look_22 rfl rfl ?_
  refine V_iconst (v := 0) dX12_look_23 rfl ?_
  have t := t _ rfl
  refine V_put f_X12_193 p_X12_33 dX12_look_24 rfl rfl ?_
  refine V_iconst (v := 0) dX12_look_27 rfl ?_
  refine V_istore_n (L' := [(0, .ref (G.1 67)), (1, .int x1), (2, .int x2), (3, .int 0)]) dX12_look_28 rfl (by decide) rfl rfl ?_
  refine V_pick (L' := [(0, .ref (G.1 67)), (3, .int 0)]) [0, 3] rfl ?_
  exact t
set_option maxRecDepth 20000 in
set_option maxHeartbeats 4000000 in
theorem s_Model_look_29 (G : GA) (h : HP) (x3 : Int32) (K : HP → Prop) (t :
  if 100 ≤ x3 then (
    K h
  ) else (
    H_Model_look_38 G h x3 0 K
  )) : H_Model_look_29 G h x3 K := by
  unfold H_Model_look_29
  refine V_iload_n (q := 1) dX12_look_29 rfl rfl ?_
  refine V_bipush (v := 100) dX12_look_30 rfl ?_
  refine V_icmp_ge (tgt := 224) dX12_look_32 (by decide) (fun q => ?_) (fun q => ?_)
  · have t := it_t q t
    exact V_vret rfl dX12_look_224 t
  · have t := it_f q t
    refine V_iconst (v := 0) dX12_look_35 rfl ?_
    refine V_istore (L' := [(0, .ref (G.1 67)), (3, .int x3), (4, .int 0)]) dX12_look_36 (by decide) rfl rfl ?_
    exact t
set_option maxRecDepth 20000 in
set_option maxHeartbeats 4000000 in
theorem s_Model_look_38 (G : GA) (h : HP) (x3 : Int32) (x4 : Int32) (K : HP → Prop) (t :
  if (h 67 1) ≤ x4 then (
    H_Model_look_29 G h (x3 + 1) K
  ) else (
    vp_in x4 24 ∧
    if (h 75 (tn x4)) < 2 then (
      H_Model_look_38 G h x3 (x4 + 1) K
    ) else (
      P_Model_runs G h x4 x3 (fun (b3 : Bool) (h2 : HP) =>
        if b3 = true then (
          P_Model_comesAt G h2 x4 x3 ((h2 75 (tn x4)) - 1) (fun (r5 : Int32) (h4 : HP) =>
            if r5 < (h4 67 31) then (
              H_Model_look_38 G h4 x3 (x4 + 1) K
            ) else (
              P_Model_leavesAt G h4 x4 x3 0 (fun (r7 : Int32) (h6 : HP) =>
                if r7 < (h6 67 32) then (
                  vp_in (h6 67 33) 2400 ∧
                  ∀ h8 : HP, h8 = up h6 94 (tn (h6 67 33)) x4 →
                  ∀ h10 : HP, h10 = up h8 95 (tn (h6 67 33)) x3 →
                  H_Model_look_136 G h10 x3 x4 0 K
                ) else (
                  H_Model_look_38 G h6 x3 (x4 + 1) K
                )
              )
            )
          )
        ) else (
          H_Model_look_38 G h2 x3 (x4 + 1) K
        )
      )
    )
  )) : H_Model_look_38 G h x3 x4 K := by
  unfold H_Model_look_38
  refine V_iload (q := 2) dX12_look_38 rfl ?_
  refine V_aload_n (q := 0) dX12_look_40 rfl rfl ?_
  refine V_geti f_X12_154 dX12_look_41 rfl rfl ?_
  refine V_icmp_ge (tgt := 218) dX12_look_44 (by decide) (fun q => ?_) (fun q => ?_)
  · have t := it_t q t
    refine V_iinc (L' := [(0, .ref (G.1 67)), (3, .int (x3 + 1)), (4, .int x4)]) (q := 1) (a := 1) dX12_look_218 rfl rfl (by decide) rfl rfl ?_
    refine V_goto (tgt := 29) dX12_look_221 (by decide) ?_
    refine V_pick (L' := [(0, .ref (G.1 67)), (3, .int (x3 + 1))]) [0, 1] rfl ?_
    exact t
  · have t := it_f q t
    refine V_aload_n (q := 0) dX12_look_47 rfl rfl ?_
    refine V_getr f_X12_31 dX12_look_48 rfl rfl ?_
    refine V_iload (q := 2) dX12_look_51 rfl ?_
    obtain ⟨n1, t⟩ := t
    refine V_iald dX12_look_53 rfl n1 ?_
    refine V_iconst (v := 2) dX12_look_54 rfl ?_
    refine V_icmp_lt (tgt := 212) dX12_look_55 (by decide) (fun q => ?_) (fun q => ?_)
    · have t := it_t q t
      refine V_iinc (L' := [(0, .ref (G.1 67)), (3, .int x3), (4, .int (x4 + 1))]) (q := 2) (a := 1) dX12_look_212 rfl rfl (by decide) rfl rfl ?_
      refine V_goto (tgt := 38) dX12_look_215 (by decide) ?_
      exact t
    · have t := it_f q t
      refine V_aload_n (q := 0) dX12_look_58 rfl rfl ?_
      refine V_iload (q := 2) dX12_look_59 rfl ?_
      refine V_iload_n (q := 1) dX12_look_61 rfl rfl ?_
      refine V_callV [.int x4, .int x3] [] g_X12_look_X12_runs wi_X12_runs ws_X12_runs dX12_look_62 rfl rfl rfl rfl rfl (Nat.le_of_ble_eq_true rfl) t (fun _ h2 t => ?_)
      obtain ⟨b3, rfl, t⟩ := t
      refine V_ifb_ne (tgt := 71) dX12_look_65 (by decide) (fun q => ?_) (fun q => ?_)
      · have t := it_t q t
        refine V_aload_n (q := 0) dX12_look_71 rfl rfl ?_
        refine V_iload (q := 2) dX12_look_72 rfl ?_
        refine V_iload_n (q := 1) dX12_look_74 rfl rfl ?_
        refine V_aload_n (q := 0) dX12_look_75 rfl rfl ?_
        refine V_getr f_X12_31 dX12_look_76 rfl rfl ?_
        refine V_iload (q := 2) dX12_look_79 rfl ?_
        refine V_iald dX12_look_81 rfl n1 ?_
        refine V_iconst (v := 1) dX12_look_82 rfl ?_
        refine V_isub dX12_look_83 ?_
        refine V_callV [.int x4, .int x3, .int ((h2 75 (tn x4)) - 1)] [] g_X12_look_X12_comesAt wi_X12_comesAt ws_X12_comesAt dX12_look_84 rfl rfl rfl rfl rfl (Nat.le_of_ble_eq_true rfl) t (fun _ h4 t => ?_)
        obtain ⟨r5, rfl, t⟩ := t
        refine V_aload_n (q := 0) dX12_look_87 rfl rfl ?_
        refine V_geti f_X12_187 dX12_look_88 rfl rfl ?_
        refine V_icmp_lt (tgt := 212) dX12_look_91 (by decide) (fun q => ?_) (fun q => ?_)
        · have t := it_t q t
          refine V_iinc (L' := [(0, .ref (G.1 67)), (3, .int x3), (4, .int (x4 + 1))]) (q := 2) (a := 1) dX12_look_212 rfl rfl (by decide) rfl rfl ?_
          refine V_goto (tgt := 38) dX12_look_215 (by decide) ?_
          exact t
        · have t := it_f q t
          refine V_aload_n (q := 0) dX12_look_94 rfl rfl ?_
          refine V_iload (q := 2) dX12_look_95 rfl ?_
          refine V_iload_n (q := 1) dX12_look_97 rfl rfl ?_
          refine V_iconst (v := 0) dX12_look_98 rfl ?_
          refine V_callV [.int x4, .int x3, .int 0] [] g_X12_look_X12_leavesAt wi_X12_leavesAt ws_X12_leavesAt dX12_look_99 rfl rfl rfl rfl rfl (Nat.le_of_ble_eq_true rfl) t (fun _ h6 t => ?_)
          obtain ⟨r7, rfl, t⟩ := t
          refine V_aload_n (q := 0) dX12_look_102 rfl rfl ?_
          refine V_geti f_X12_190 dX12_look_103 rfl rfl ?_
          refine V_icmp_lt (tgt := 112) dX12_look_106 (by decide) (fun q => ?_) (fun q => ?_)
          · have t := it_t q t
            refine V_aload_n (q := 0) dX12_look_112 rfl rfl ?_
            refine V_getr f_X12_89 dX12_look_113 rfl rfl ?_
            refine V_aload_n (q := 0) dX12_look_116 rfl rfl ?_
            refine V_geti f_X12_193 dX12_look_117 rfl rfl ?_
            refine V_iload (q := 2) dX12_look_120 rfl ?_
            obtain ⟨n9, t⟩ := t
            have t := t _ rfl
            refine V_iast dX12_look_122 rfl n9 ?_
            refine V_aload_n (q := 0) dX12_look_123 rfl rfl ?_
            refine V_getr f_X12_92 dX12_look_124 rfl rfl ?_
            refine V_aload_n (q := 0) dX12_look_127 rfl rfl ?_
            refine V_geti f_X12_193 dX12_look_128 rfl rfl ?_
            refine V_iload_n (q := 1) dX12_look_131 rfl rfl ?_
            have t := t _ rfl
            refine V_iast dX12_look_132 rfl n9 ?_
            refine V_iconst (v := 0) dX12_look_133 rfl ?_
            refine V_istore (L' := [(0, .ref (G.1 67)), (3, .int x3), (4, .int x4), (5, .int 0)]) dX12_look_134 (by decide) rfl rfl ?_
            exact t
          · have t := it_f q t
            refine V_goto (tgt := 212) dX12_look_109 (by decide) ?_
            refine V_iinc (L' := [(0, .ref (G.1 67)), (3, .int x3), (4, .int (x4 + 1))]) (q := 2) (a := 1) dX12_look_212 rfl rfl (by decide) rfl rfl ?_
            refine V_goto (tgt := 38) dX12_look_215 (by decide) ?_
            exact t
      · have t := it_f q t
        refine V_goto (tgt := 212) dX12_look_68 (by decide) ?_
        refine V_iinc (L' := [(0, .ref (G.1 67)), (3, .int x3), (4, .int (x4 + 1))]) (q := 2) (a := 1) dX12_look_212 rfl rfl (by decide) rfl rfl ?_
        refine V_goto (tgt := 38) dX12_look_215 (by decide) ?_
        exact t
set_option maxRecDepth 20000 in
set_option maxHeartbeats 4000000 in
theorem s_Model_look_136 (G : GA) (h : HP) (x3 : Int32) (x4 : Int32) (x5 : Int32) (K : HP → Prop) (t :
  vp_in x4 24 ∧
  if (h 75 (tn x4)) ≤ x5 then (
    ∀ h2 : HP, h2 = up h 67 33 ((h 67 33) + 1) →
    H_Model_look_38 G h2 x3 (x4 + 1) K
  ) else (
    P_Model_comesAt G h x4 x3 x5 (fun (r4 : Int32) (h3 : HP) =>
      vp_in ((8 * (h 67 33)) + x5) 19200 ∧
      ∀ h5 : HP, h5 = up h3 96 (tn ((8 * (h 67 33)) + x5)) r4 →
      P_Model_leavesAt G h5 x4 x3 x5 (fun (r8 : Int32) (h7 : HP) =>
        vp_in ((8 * (h3 67 33)) + x5) 19200 ∧
        ∀ h9 : HP, h9 = up h7 97 (tn ((8 * (h3 67 33)) + x5)) r8 →
        H_Model_look_136 G h9 x3 x4 (x5 + 1) K
      )
    )
  )) : H_Model_look_136 G h x3 x4 x5 K := by
  unfold H_Model_look_136
  refine V_iload (q := 3) dX12_look_136 rfl ?_
  refine V_aload_n (q := 0) dX12_look_138 rfl rfl ?_
  refine V_getr f_X12_31 dX12_look_139 rfl rfl ?_
  refine V_iload (q := 2) dX12_look_142 rfl ?_
  obtain ⟨n1, t⟩ := t
  refine V_iald dX12_look_144 rfl n1 ?_
  refine V_icmp_ge (tgt := 202) dX12_look_145 (by decide) (fun q => ?_) (fun q => ?_)
  · have t := it_t q t
    refine V_aload_n (q := 0) dX12_look_202 rfl rfl ?_
    refine V_dup dX12_look_203 rfl ?_
    refine V_geti f_X12_193 dX12_look_204 rfl rfl ?_
    refine V_iconst (v := 1) dX12_look_207 rfl ?_
    refine V_iadd dX12_look_208 ?_
    have t := t _ rfl
    refine V_put f_X12_193 p_X12_33 dX12_look_209 rfl rfl ?_
    refine V_iinc (L' := [(0, .ref (G.1 67)), (3, .int x3), (4, .int (x4 + 1)), (5, .int x5)]) (q := 2) (a := 1) dX12_look_212 rfl rfl (by decide) rfl rfl ?_
    refine V_goto (tgt := 38) dX12_look_215 (by decide) ?_
    refine V_pick (L' := [(0, .ref (G.1 67)), (3, .int x3), (4, .int (x4 + 1))]) [0, 1, 2] rfl ?_
    exact t
  · have t := it_f q t
    refine V_aload_n (q := 0) dX12_look_148 rfl rfl ?_
    refine V_getr f_X12_95 dX12_look_149 rfl rfl ?_
    refine V_bipush (v := 8) dX12_look_152 rfl ?_
    refine V_aload_n (q := 0) dX12_look_154 rfl rfl ?_
    refine V_geti f_X12_193 dX12_look_155 rfl rfl ?_
    refine V_imul dX12_look_158 ?_
    refine V_iload (q := 3) dX12_look_159 rfl ?_
    refine V_iadd dX12_look_161 ?_
    refine V_aload_n (q := 0) dX12_look_162 rfl rfl ?_
    refine V_iload (q := 2) dX12_look_163 rfl ?_
    refine V_iload_n (q := 1) dX12_look_165 rfl rfl ?_
    refine V_iload (q := 3) dX12_look_166 rfl ?_
    refine V_callV [.int x4, .int x3, .int x5] [.int ((8 * (h 67 33)) + x5), .ref (G.1 96)] g_X12_look_X12_comesAt wi_X12_comesAt ws_X12_comesAt dX12_look_168 rfl rfl rfl rfl rfl (Nat.le_of_ble_eq_true rfl) t (fun _ h3 t => ?_)
    obtain ⟨r4, rfl, t⟩ := t
    obtain ⟨n6, t⟩ := t
    have t := t _ rfl
    refine V_iast dX12_look_171 rfl n6 ?_
    refine V_aload_n (q := 0) dX12_look_172 rfl rfl ?_
    refine V_getr f_X12_98 dX12_look_173 rfl rfl ?_
    refine V_bipush (v := 8) dX12_look_176 rfl ?_
    refine V_aload_n (q := 0) dX12_look_178 rfl rfl ?_
    refine V_geti f_X12_193 dX12_look_179 rfl rfl ?_
    refine V_imul dX12_look_182 ?_
    refine V_iload (q := 3) dX12_look_183 rfl ?_
    refine V_iadd dX12_look_185 ?_
    refine V_aload_n (q := 0) dX12_look_186 rfl rfl ?_
    refine V_iload (q := 2) dX12_look_187 rfl ?_
    refine V_iload_n (q := 1) dX12_look_189 rfl rfl ?_
    refine V_iload (q := 3) dX12_look_190 rfl ?_
    refine V_callV [.int x4, .int x3, .int x5] [.int ((8 * (h3 67 33)) + x5), .ref (G.1 97)] g_X12_look_X12_leavesAt wi_X12_leavesAt ws_X12_leavesAt dX12_look_192 rfl rfl rfl rfl rfl (Nat.le_of_ble_eq_true rfl) t (fun _ h7 t => ?_)
    obtain ⟨r8, rfl, t⟩ := t
    obtain ⟨n10, t⟩ := t
    have t := t _ rfl
    refine V_iast dX12_look_195 rfl n10 ?_
    refine V_iinc (L' := [(0, .ref (G.1 67)), (3, .int x3), (4, .int x4), (5, .int (x5 + 1))]) (q := 3) (a := 1) dX12_look_196 rfl rfl (by decide) rfl rfl ?_
    refine V_goto (tgt := 136) dX12_look_199 (by decide) ?_
    exact t
set_option maxRecDepth 20000 in
set_option maxHeartbeats 4000000 in
theorem s_Model_ways_0 (G : GA) (h : HP) (x1 : Int32) (x2 : Int32) (x3 : Int32) (x4 : Int32) (K : Int32 → HP → Prop) (t :
  P_Model_isStop G h x1 (fun (b2 : Bool) (h1 : HP) =>
    if b2 = true then (
      P_Model_isStop G h1 x2 (fun (b4 : Bool) (h3 : HP) =>
        if b4 = true then (
          P_Model_isDay G h3 x3 (fun (b6 : Bool) (h5 : HP) =>
            if b6 = true then (
              P_Model_in G h5 x4 0 1439 (fun (b8 : Bool) (h7 : HP) =>
                if b8 = true then (
                  P_Model_look G h7 x3 x4 (fun h9 : HP =>
                    P_Model_go G h9 x1 ((1440 * x3) + x4) (fun h10 : HP =>
                      ∀ h11 : HP, h11 = up h10 67 41 0 →
                      H_Model_ways_66 G h11 x2 (-1) K
                    )
                  )
                ) else (
                  K (-2) h7
                )
              )
            ) else (
              K (-2) h5
            )
          )
        ) else (
          K (-2) h3
        )
      )
    ) else (
      K (-2) h1
    )
  )) : P_Model_ways G h x1 x2 x3 x4 K := by
  refine Sp_of_V pf_X12_ways (Nat.le_of_ble_eq_true rfl) rfl ?_
  refine V_aload_n (q := 0) dX12_ways_0 rfl rfl ?_
  refine V_iload_n (q := 1) dX12_ways_1 rfl rfl ?_
  refine V_callV [.int x1] [] g_X12_ways_X12_isStop wi_X12_isStop ws_X12_isStop dX12_ways_2 rfl rfl rfl rfl rfl (Nat.le_of_ble_eq_true rfl) t (fun _ h1 t => ?_)
  obtain ⟨b2, rfl, t⟩ := t
  refine V_ifb_eq (tgt := 35) dX12_ways_5 (by decide) (fun q => ?_) (fun q => ?_)
  · have t := it_f q t
    refine V_bipush (v := (-2)) dX12_ways_35 rfl ?_
    exact V_iret rfl dX12_ways_37 t
  · have t := it_t q t
    refine V_aload_n (q := 0) dX12_ways_8 rfl rfl ?_
    refine V_iload_n (q := 2) dX12_ways_9 rfl rfl ?_
    refine V_callV [.int x2] [] g_X12_ways_X12_isStop wi_X12_isStop ws_X12_isStop dX12_ways_10 rfl rfl rfl rfl rfl (Nat.le_of_ble_eq_true rfl) t (fun _ h3 t => ?_)
    obtain ⟨b4, rfl, t⟩ := t
    refine V_ifb_eq (tgt := 35) dX12_ways_13 (by decide) (fun q => ?_) (fun q => ?_)
    · have t := it_f q t
      refine V_bipush (v := (-2)) dX12_ways_35 rfl ?_
      exact V_iret rfl dX12_ways_37 t
    · have t := it_t q t
      refine V_iload_n (q := 3) dX12_ways_16 rfl rfl ?_
      refine V_callS [.int x3] [] g_X12_ways_X12_isDay wt_X12_isDay dX12_ways_17 rfl rfl (Nat.le_of_ble_eq_true rfl) t (fun _ h5 t => ?_)
      obtain ⟨b6, rfl, t⟩ := t
      refine V_ifb_eq (tgt := 35) dX12_ways_20 (by decide) (fun q => ?_) (fun q => ?_)
      · have t := it_f q t
        refine V_bipush (v := (-2)) dX12_ways_35 rfl ?_
        exact V_iret rfl dX12_ways_37 t
      · have t := it_t q t
        refine V_iload (q := 4) dX12_ways_23 rfl ?_
        refine V_iconst (v := 0) dX12_ways_25 rfl ?_
        refine V_sipush (v := 1439) dX12_ways_26 rfl ?_
        refine V_callS [.int x4, .int 0, .int 1439] [] g_X12_ways_X12_in wt_X12_in dX12_ways_29 rfl rfl (Nat.le_of_ble_eq_true rfl) t (fun _ h7 t => ?_)
        obtain ⟨b8, rfl, t⟩ := t
        refine V_ifb_ne (tgt := 38) dX12_ways_32 (by decide) (fun q => ?_) (fun q => ?_)
        · have t := it_t q t
          refine V_aload_n (q := 0) dX12_ways_38 rfl rfl ?_
          refine V_iload_n (q := 3) dX12_ways_39 rfl rfl ?_
          refine V_iload (q := 4) dX12_ways_40 rfl ?_
          refine V_callV [.int x3, .int x4] [] g_X12_ways_X12_look wi_X12_look ws_X12_look dX12_ways_42 rfl rfl rfl rfl rfl (Nat.le_of_ble_eq_true rfl) t (fun _ h9 t => ?_)
          obtain ⟨rfl, t⟩ := t
          refine V_aload_n (q := 0) dX12_ways_45 rfl rfl ?_
          refine V_iload_n (q := 1) dX12_ways_46 rfl rfl ?_
          refine V_sipush (v := 1440) dX12_ways_47 rfl ?_
          refine V_iload_n (q := 3) dX12_ways_50 rfl rfl ?_
          refine V_imul dX12_ways_51 ?_
          refine V_iload (q := 4) dX12_ways_52 rfl ?_
          refine V_iadd dX12_ways_54 ?_
          refine V_callV [.int x1, .int ((1440 * x3) + x4)] [] g_X12_ways_X12_go wi_X12_go ws_X12_go dX12_ways_55 rfl rfl rfl rfl rfl (Nat.le_of_ble_eq_true rfl) t (fun _ h10 t => ?_)
          obtain ⟨rfl, t⟩ := t
          refine V_aload_n (q := 0) dX12_ways_58 rfl rfl ?_
          refine V_iconst (v := 0) dX12_ways_59 rfl ?_
          have t := t _ rfl
          refine V_put f_X12_261 p_X12_41 dX12_ways_60 rfl rfl ?_
          refine V_iconst (v := (-1)) dX12_ways_63 rfl ?_
          refine V_istore (L' := [(0, .ref (G.1 67)), (1, .int x1), (2, .int x2), (3, .int x3), (4, .int x4), (5, .int (-1))]) dX12_ways_64 (by decide) rfl rfl ?_
          refine V_pick (L' := [(0, .ref (G.1 67)), (2, .int x2), (5, .int (-1))]) [0, 2, 5] rfl ?_
          exact t
        · have t := it_f q t
          refine V_bipush (v := (-2)) dX12_ways_35 rfl ?_
          exact V_iret rfl dX12_ways_37 t
set_option maxRecDepth 20000 in
set_option maxHeartbeats 4000000 in
theorem s_Model_ways_66 (G : GA) (h : HP) (x2 : Int32) (x5 : Int32) (K : Int32 → HP → Prop) (t :
  if 1000000000 ≤ x5 then (
    K (h 67 41) h
  ) else (
    H_Model_ways_80 G h x2 x5 1000000000 0 K
  )) : H_Model_ways_66 G h x2 x5 K := by
  unfold H_Model_ways_66
  refine V_iload (q := 2) dX12_ways_66 rfl ?_
  refine V_ldc (v := 1000000000) dX12_ways_68 k_X12_208 ?_
  refine V_icmp_ge (tgt := 234) dX12_ways_70 (by decide) (fun q => ?_) (fun q => ?_)
  · have t := it_t q t
    refine V_aload_n (q := 0) dX12_ways_234 rfl rfl ?_
    refine V_geti f_X12_261 dX12_ways_235 rfl rfl ?_
    exact V_iret rfl dX12_ways_238 t
  · have t := it_f q t
    refine V_ldc (v := 1000000000) dX12_ways_73 k_X12_208 ?_
    refine V_istore (L' := [(0, .ref (G.1 67)), (2, .int x2), (5, .int x5), (6, .int 1000000000)]) dX12_ways_75 (by decide) rfl rfl ?_
    refine V_iconst (v := 0) dX12_ways_77 rfl ?_
    refine V_istore (L' := [(0, .ref (G.1 67)), (2, .int x2), (5, .int x5), (6, .int 1000000000), (7, .int 0)]) dX12_ways_78 (by decide) rfl rfl ?_
    exact t
set_option maxRecDepth 20000 in
set_option maxHeartbeats 4000000 in
theorem s_Model_ways_80 (G : GA) (h : HP) (x2 : Int32) (x5 : Int32) (x6 : Int32) (x7 : Int32) (K : Int32 → HP → Prop) (t :
  if 4 ≤ x7 then (
    H_Model_ways_144 G h x2 x6 0 K
  ) else (
    H_Model_ways_89 G h x2 x5 x6 x7 0 K
  )) : H_Model_ways_80 G h x2 x5 x6 x7 K := by
  unfold H_Model_ways_80
  refine V_iload (q := 4) dX12_ways_80 rfl ?_
  refine V_iconst (v := 4) dX12_ways_82 rfl ?_
  refine V_icmp_ge (tgt := 137) dX12_ways_83 (by decide) (fun q => ?_) (fun q => ?_)
  · have t := it_t q t
    refine V_iload (q := 3) dX12_ways_137 rfl ?_
    refine V_istore (L' := [(0, .ref (G.1 67)), (2, .int x2), (5, .int x6), (6, .int x6), (7, .int x7)]) dX12_ways_139 (by decide) rfl rfl ?_
    refine V_iconst (v := 0) dX12_ways_141 rfl ?_
    refine V_istore (L' := [(0, .ref (G.1 67)), (2, .int x2), (5, .int x6), (6, .int x6), (7, .int 0)]) dX12_ways_142 (by decide) rfl rfl ?_
    refine V_pick (L' := [(0, .ref (G.1 67)), (2, .int x2), (5, .int x6), (7, .int 0)]) [0, 1, 2, 4] rfl ?_
    exact t
  · have t := it_f q t
    refine V_iconst (v := 0) dX12_ways_86 rfl ?_
    refine V_istore (L' := [(0, .ref (G.1 67)), (2, .int x2), (5, .int x5), (6, .int x6), (7, .int x7), (8, .int 0)]) dX12_ways_87 (by decide) rfl rfl ?_
    exact t
set_option maxRecDepth 20000 in
set_option maxHeartbeats 4000000 in
theorem s_Model_ways_89 (G : GA) (h : HP) (x2 : Int32) (x5 : Int32) (x6 : Int32) (x7 : Int32) (x8 : Int32) (K : Int32 → HP → Prop) (t :
  if 28 ≤ x8 then (
    H_Model_ways_80 G h x2 x5 x6 (x7 + 1) K
  ) else (
    P_Model_arrival G h x7 x8 x2 (fun (r2 : Int32) (h1 : HP) =>
      if r2 ≤ x5 then (
        H_Model_ways_89 G h1 x2 x5 x6 x7 (x8 + 1) K
      ) else (
        if x6 ≤ r2 then (
          H_Model_ways_89 G h1 x2 x5 x6 x7 (x8 + 1) K
        ) else (
          H_Model_ways_89 G h1 x2 x5 r2 x7 (x8 + 1) K
        )
      )
    )
  )) : H_Model_ways_89 G h x2 x5 x6 x7 x8 K := by
  unfold H_Model_ways_89
  refine V_iload (q := 5) dX12_ways_89 rfl ?_
  refine V_bipush (v := 28) dX12_ways_91 rfl ?_
  refine V_icmp_ge (tgt := 131) dX12_ways_93 (by decide) (fun q => ?_) (fun q => ?_)
  · have t := it_t q t
    refine V_iinc (L' := [(0, .ref (G.1 67)), (2, .int x2), (5, .int x5), (6, .int x6), (7, .int (x7 + 1)), (8, .int x8)]) (q := 4) (a := 1) dX12_ways_131 rfl rfl (by decide) rfl rfl ?_
    refine V_goto (tgt := 80) dX12_ways_134 (by decide) ?_
    refine V_pick (L' := [(0, .ref (G.1 67)), (2, .int x2), (5, .int x5), (6, .int x6), (7, .int (x7 + 1))]) [0, 1, 2, 3, 4] rfl ?_
    exact t
  · have t := it_f q t
    refine V_aload_n (q := 0) dX12_ways_96 rfl rfl ?_
    refine V_iload (q := 4) dX12_ways_97 rfl ?_
    refine V_iload (q := 5) dX12_ways_99 rfl ?_
    refine V_iload_n (q := 1) dX12_ways_101 rfl rfl ?_
    refine V_callV [.int x7, .int x8, .int x2] [] g_X12_ways_X12_arrival wi_X12_arrival ws_X12_arrival dX12_ways_102 rfl rfl rfl rfl rfl (Nat.le_of_ble_eq_true rfl) t (fun _ h1 t => ?_)
    obtain ⟨r2, rfl, t⟩ := t
    refine V_istore (L' := [(0, .ref (G.1 67)), (2, .int x2), (5, .int x5), (6, .int x6), (7, .int x7), (8, .int x8), (9, .int r2)]) dX12_ways_105 (by decide) rfl rfl ?_
    refine V_iload (q := 6) dX12_ways_107 rfl ?_
    refine V_iload (q := 2) dX12_ways_109 rfl ?_
    refine V_icmp_le (tgt := 125) dX12_ways_111 (by decide) (fun q => ?_) (fun q => ?_)
    · have t := it_t q t
      refine V_iinc (L' := [(0, .ref (G.1 67)), (2, .int x2), (5, .int x5), (6, .int x6), (7, .int x7), (8, .int (x8 + 1)), (9, .int r2)]) (q := 5) (a := 1) dX12_ways_125 rfl rfl (by decide) rfl rfl ?_
      refine V_goto (tgt := 89) dX12_ways_128 (by decide) ?_
      refine V_pick (L' := [(0, .ref (G.1 67)), (2, .int x2), (5, .int x5), (6, .int x6), (7, .int x7), (8, .int (x8 + 1))]) [0, 1, 2, 3, 4, 5] rfl ?_
      exact t
    · have t := it_f q t
      refine V_iload (q := 6) dX12_ways_114 rfl ?_
      refine V_iload (q := 3) dX12_ways_116 rfl ?_
      refine V_icmp_ge (tgt := 125) dX12_ways_118 (by decide) (fun q => ?_) (fun q => ?_)
      · have t := it_t q t
        refine V_iinc (L' := [(0, .ref (G.1 67)), (2, .int x2), (5, .int x5), (6, .int x6), (7, .int x7), (8, .int (x8 + 1)), (9, .int r2)]) (q := 5) (a := 1) dX12_ways_125 rfl rfl (by decide) rfl rfl ?_
        refine V_goto (tgt := 89) dX12_ways_128 (by decide) ?_
        refine V_pick (L' := [(0, .ref (G.1 67)), (2, .int x2), (5, .int x5), (6, .int x6), (7, .int x7), (8, .int (x8 + 1))]) [0, 1, 2, 3, 4, 5] rfl ?_
        exact t
      · have t := it_f q t
        refine V_iload (q := 6) dX12_ways_121 rfl ?_
        refine V_istore (L' := [(0, .ref (G.1 67)), (2, .int x2), (5, .int x5), (6, .int r2), (7, .int x7), (8, .int x8), (9, .int r2)]) dX12_ways_123 (by decide) rfl rfl ?_
        refine V_iinc (L' := [(0, .ref (G.1 67)), (2, .int x2), (5, .int x5), (6, .int r2), (7, .int x7), (8, .int (x8 + 1)), (9, .int r2)]) (q := 5) (a := 1) dX12_ways_125 rfl rfl (by decide) rfl rfl ?_
        refine V_goto (tgt := 89) dX12_ways_128 (by decide) ?_
        refine V_pick (L' := [(0, .ref (G.1 67)), (2, .int x2), (5, .int x5), (6, .int r2), (7, .int x7), (8, .int (x8 + 1))]) [0, 1, 2, 3, 4, 5] rfl ?_
        exact t
set_option maxRecDepth 20000 in
set_option maxHeartbeats 4000000 in
theorem s_Model_ways_144 (G : GA) (h : HP) (x2 : Int32) (x5 : Int32) (x7 : Int32) (K : Int32 → HP → Prop) (t :
  if 4 ≤ x7 then (
    H_Model_ways_66 G h x2 x5 K
  ) else (
    if 1000000000 ≤ x5 then (
      H_Model_ways_66 G h x2 x5 K
    ) else (
      H_Model_ways_160 G h x2 x5 x7 0 K
    )
  )) : H_Model_ways_144 G h x2 x5 x7 K := by
  unfold H_Model_ways_144
  refine V_iload (q := 3) dX12_ways_144 rfl ?_
  refine V_iconst (v := 4) dX12_ways_146 rfl ?_
  refine V_icmp_ge (tgt := 231) dX12_ways_147 (by decide) (fun q => ?_) (fun q => ?_)
  · have t := it_t q t
    refine V_goto (tgt := 66) dX12_ways_231 (by decide) ?_
    refine V_pick (L' := [(0, .ref (G.1 67)), (2, .int x2), (5, .int x5)]) [0, 1, 2] rfl ?_
    exact t
  · have t := it_f q t
    refine V_iload (q := 2) dX12_ways_150 rfl ?_
    refine V_ldc (v := 1000000000) dX12_ways_152 k_X12_208 ?_
    refine V_icmp_ge (tgt := 231) dX12_ways_154 (by decide) (fun q => ?_) (fun q => ?_)
    · have t := it_t q t
      refine V_goto (tgt := 66) dX12_ways_231 (by decide) ?_
      refine V_pick (L' := [(0, .ref (G.1 67)), (2, .int x2), (5, .int x5)]) [0, 1, 2] rfl ?_
      exact t
    · have t := it_f q t
      refine V_iconst (v := 0) dX12_ways_157 rfl ?_
      refine V_istore (L' := [(0, .ref (G.1 67)), (2, .int x2), (5, .int x5), (7, .int x7), (8, .int 0)]) dX12_ways_158 (by decide) rfl rfl ?_
      exact t
set_option maxRecDepth 20000 in
set_option maxHeartbeats 4000000 in
theorem s_Model_ways_160 (G : GA) (h : HP) (x2 : Int32) (x5 : Int32) (x7 : Int32) (x8 : Int32) (K : Int32 → HP → Prop) (t :
  if 28 ≤ x8 then (
    H_Model_ways_144 G h x2 x5 (x7 + 1) K
  ) else (
    P_Model_arrival G h x7 x8 x2 (fun (r2 : Int32) (h1 : HP) =>
      if r2 = x5 then (
        P_Model_isBeaten G h1 x5 x7 x8 x2 (fun (b4 : Bool) (h3 : HP) =>
          if b4 = true then (
            H_Model_ways_160 G h3 x2 x5 x7 (x8 + 1) K
          ) else (
            P_Model_findWay G h3 x7 x8 x2 x5 (fun h5 : HP =>
              P_Model_add G h5 x5 x7 x8 (fun h6 : HP =>
                H_Model_ways_160 G h6 x2 x5 x7 (x8 + 1) K
              )
            )
          )
        )
      ) else (
        H_Model_ways_160 G h1 x2 x5 x7 (x8 + 1) K
      )
    )
  )) : H_Model_ways_160 G h x2 x5 x7 x8 K := by
  unfold H_Model_ways_160
  refine V_iload (q := 4) dX12_ways_160 rfl ?_
  refine V_bipush (v := 28) dX12_ways_162 rfl ?_
  refine V_icmp_ge (tgt := 225) dX12_ways_164 (by decide) (fun q => ?_) (fun q => ?_)
  · have t := it_t q t
    refine V_iinc (L' := [(0, .ref (G.1 67)), (2, .int x2), (5, .int x5), (7, .int (x7 + 1)), (8, .int x8)]) (q := 3) (a := 1) dX12_ways_225 rfl rfl (by decide) rfl rfl ?_
    refine V_goto (tgt := 144) dX12_ways_228 (by decide) ?_
    refine V_pick (L' := [(0, .ref (G.1 67)), (2, .int x2), (5, .int x5), (7, .int (x7 + 1))]) [0, 1, 2, 3] rfl ?_
    exact t
  · have t := it_f q t
    refine V_aload_n (q := 0) dX12_ways_167 rfl rfl ?_
    refine V_iload (q := 3) dX12_ways_168 rfl ?_
    refine V_iload (q := 4) dX12_ways_170 rfl ?_
    refine V_iload_n (q := 1) dX12_ways_172 rfl rfl ?_
    refine V_callV [.int x7, .int x8, .int x2] [] g_X12_ways_X12_arrival wi_X12_arrival ws_X12_arrival dX12_ways_173 rfl rfl rfl rfl rfl (Nat.le_of_ble_eq_true rfl) t (fun _ h1 t => ?_)
    obtain ⟨r2, rfl, t⟩ := t
    refine V_iload (q := 2) dX12_ways_176 rfl ?_
    refine V_icmp_ne (tgt := 219) dX12_ways_178 (by decide) (fun q => ?_) (fun q => ?_)
    · have t := it_f q t
      refine V_iinc (L' := [(0, .ref (G.1 67)), (2, .int x2), (5, .int x5), (7, .int x7), (8, .int (x8 + 1))]) (q := 4) (a := 1) dX12_ways_219 rfl rfl (by decide) rfl rfl ?_
      refine V_goto (tgt := 160) dX12_ways_222 (by decide) ?_
      exact t
    · have t := it_t q t
      refine V_aload_n (q := 0) dX12_ways_181 rfl rfl ?_
      refine V_iload (q := 2) dX12_ways_182 rfl ?_
      refine V_iload (q := 3) dX12_ways_184 rfl ?_
      refine V_iload (q := 4) dX12_ways_186 rfl ?_
      refine V_iload_n (q := 1) dX12_ways_188 rfl rfl ?_
      refine V_callV [.int x5, .int x7, .int x8, .int x2] [] g_X12_ways_X12_isBeaten wi_X12_isBeaten ws_X12_isBeaten dX12_ways_189 rfl rfl rfl rfl rfl (Nat.le_of_ble_eq_true rfl) t (fun _ h3 t => ?_)
      obtain ⟨b4, rfl, t⟩ := t
      refine V_ifb_eq (tgt := 198) dX12_ways_192 (by decide) (fun q => ?_) (fun q => ?_)
      · have t := it_f q t
        refine V_aload_n (q := 0) dX12_ways_198 rfl rfl ?_
        refine V_iload (q := 3) dX12_ways_199 rfl ?_
        refine V_iload (q := 4) dX12_ways_201 rfl ?_
        refine V_iload_n (q := 1) dX12_ways_203 rfl rfl ?_
        refine V_iload (q := 2) dX12_ways_204 rfl ?_
        refine V_callV [.int x7, .int x8, .int x2, .int x5] [] g_X12_ways_X12_findWay wi_X12_findWay ws_X12_findWay dX12_ways_206 rfl rfl rfl rfl rfl (Nat.le_of_ble_eq_true rfl) t (fun _ h5 t => ?_)
        obtain ⟨rfl, t⟩ := t
        refine V_aload_n (q := 0) dX12_ways_209 rfl rfl ?_
        refine V_iload (q := 2) dX12_ways_210 rfl ?_
        refine V_iload (q := 3) dX12_ways_212 rfl ?_
        refine V_iload (q := 4) dX12_ways_214 rfl ?_
        refine V_callV [.int x5, .int x7, .int x8] [] g_X12_ways_X12_add wi_X12_add ws_X12_add dX12_ways_216 rfl rfl rfl rfl rfl (Nat.le_of_ble_eq_true rfl) t (fun _ h6 t => ?_)
        obtain ⟨rfl, t⟩ := t
        refine V_iinc (L' := [(0, .ref (G.1 67)), (2, .int x2), (5, .int x5), (7, .int x7), (8, .int (x8 + 1))]) (q := 4) (a := 1) dX12_ways_219 rfl rfl (by decide) rfl rfl ?_
        refine V_goto (tgt := 160) dX12_ways_222 (by decide) ?_
        exact t
      · have t := it_t q t
        refine V_goto (tgt := 219) dX12_ways_195 (by decide) ?_
        refine V_iinc (L' := [(0, .ref (G.1 67)), (2, .int x2), (5, .int x5), (7, .int x7), (8, .int (x8 + 1))]) (q := 4) (a := 1) dX12_ways_219 rfl rfl (by decide) rfl rfl ?_
        refine V_goto (tgt := 160) dX12_ways_222 (by decide) ?_
        exact t
set_option maxRecDepth 20000 in
set_option maxHeartbeats 4000000 in
theorem s_Model_way_0 (G : GA) (h : HP) (x1 : Int32) (x2 : Int32) (K : Int32 → HP → Prop) (t :
  P_Model_in G h x1 0 ((h 67 41) - 1) (fun (b2 : Bool) (h1 : HP) =>
    if b2 = true then (
      if x2 = 0 then (
        vp_in x1 112 ∧
        if (h1 103 (tn x1)) = 0 then (
          K (h1 104 (tn x1)) h1
        ) else (
          vp_in ((63 * x1) + 4) 7056 ∧
          K (h1 105 (tn ((63 * x1) + 4))) h1
        )
      ) else (
      if x2 = 1 then (
        vp_in x1 112 ∧
        K (h1 100 (tn x1)) h1
      ) else (
      if x2 = 2 then (
        vp_in x1 112 ∧
        K (h1 101 (tn x1)) h1
      ) else (
      if x2 = 3 then (
        vp_in x1 112 ∧
        K (h1 102 (tn x1)) h1
      ) else (
      if x2 = 4 then (
        vp_in x1 112 ∧
        K (h1 103 (tn x1)) h1
      ) else (
        K (-2) h1
      )))))
    ) else (
      K (-2) h1
    )
  )) : P_Model_way G h x1 x2 K := by
  refine Sp_of_V pf_X12_way (Nat.le_of_ble_eq_true rfl) rfl ?_
  refine V_iload_n (q := 1) dX12_way_0 rfl rfl ?_
  refine V_iconst (v := 0) dX12_way_1 rfl ?_
  refine V_aload_n (q := 0) dX12_way_2 rfl rfl ?_
  refine V_geti f_X12_261 dX12_way_3 rfl rfl ?_
  refine V_iconst (v := 1) dX12_way_6 rfl ?_
  refine V_isub dX12_way_7 ?_
  refine V_callS [.int x1, .int 0, .int ((h 67 41) - 1)] [] g_X12_way_X12_in wt_X12_in dX12_way_8 rfl rfl (Nat.le_of_ble_eq_true rfl) t (fun _ h1 t => ?_)
  obtain ⟨b2, rfl, t⟩ := t
  refine V_ifb_ne (tgt := 17) dX12_way_11 (by decide) (fun q => ?_) (fun q => ?_)
  · have t := it_t q t
    refine V_iload_n (q := 2) dX12_way_17 rfl rfl ?_
    by_cases q0 : x2 = 0
    · have t := it_t q0 t
      refine V_tabIn (tgt := 52) dX12_way_18 (by rw [q0]; decide) (by rw [q0]; decide) (by rw [q0]; rfl) (by decide) ?_
      refine V_aload_n (q := 0) dX12_way_52 rfl rfl ?_
      refine V_getr f_X12_116 dX12_way_53 rfl rfl ?_
      refine V_iload_n (q := 1) dX12_way_56 rfl rfl ?_
      obtain ⟨n3, t⟩ := t
      refine V_iald dX12_way_57 rfl n3 ?_
      refine V_if_ne (tgt := 70) dX12_way_58 (by decide) (fun q => ?_) (fun q => ?_)
      · have t := it_f q t
        refine V_aload_n (q := 0) dX12_way_70 rfl rfl ?_
        refine V_getr f_X12_122 dX12_way_71 rfl rfl ?_
        refine V_bipush (v := 63) dX12_way_74 rfl ?_
        refine V_iload_n (q := 1) dX12_way_76 rfl rfl ?_
        refine V_imul dX12_way_77 ?_
        refine V_iconst (v := 4) dX12_way_78 rfl ?_
        refine V_iadd dX12_way_79 ?_
        obtain ⟨n4, t⟩ := t
        refine V_iald dX12_way_80 rfl n4 ?_
        exact V_iret rfl dX12_way_81 t
      · have t := it_t q t
        refine V_aload_n (q := 0) dX12_way_61 rfl rfl ?_
        refine V_getr f_X12_119 dX12_way_62 rfl rfl ?_
        refine V_iload_n (q := 1) dX12_way_65 rfl rfl ?_
        refine V_iald dX12_way_66 rfl n3 ?_
        refine V_goto (tgt := 81) dX12_way_67 (by decide) ?_
        exact V_iret rfl dX12_way_81 t
    have t := it_f q0 t
    by_cases q1 : x2 = 1
    · have t := it_t q1 t
      refine V_tabIn (tgt := 82) dX12_way_18 (by rw [q1]; decide) (by rw [q1]; decide) (by rw [q1]; rfl) (by decide) ?_
      refine V_aload_n (q := 0) dX12_way_82 rfl rfl ?_
      refine V_getr f_X12_107 dX12_way_83 rfl rfl ?_
      refine V_iload_n (q := 1) dX12_way_86 rfl rfl ?_
      obtain ⟨n5, t⟩ := t
      refine V_iald dX12_way_87 rfl n5 ?_
      exact V_iret rfl dX12_way_88 t
    have t := it_f q1 t
    by_cases q2 : x2 = 2
    · have t := it_t q2 t
      refine V_tabIn (tgt := 89) dX12_way_18 (by rw [q2]; decide) (by rw [q2]; decide) (by rw [q2]; rfl) (by decide) ?_
      refine V_aload_n (q := 0) dX12_way_89 rfl rfl ?_
      refine V_getr f_X12_110 dX12_way_90 rfl rfl ?_
      refine V_iload_n (q := 1) dX12_way_93 rfl rfl ?_
      obtain ⟨n6, t⟩ := t
      refine V_iald dX12_way_94 rfl n6 ?_
      exact V_iret rfl dX12_way_95 t
    have t := it_f q2 t
    by_cases q3 : x2 = 3
    · have t := it_t q3 t
      refine V_tabIn (tgt := 96) dX12_way_18 (by rw [q3]; decide) (by rw [q3]; decide) (by rw [q3]; rfl) (by decide) ?_
      refine V_aload_n (q := 0) dX12_way_96 rfl rfl ?_
      refine V_getr f_X12_113 dX12_way_97 rfl rfl ?_
      refine V_iload_n (q := 1) dX12_way_100 rfl rfl ?_
      obtain ⟨n7, t⟩ := t
      refine V_iald dX12_way_101 rfl n7 ?_
      exact V_iret rfl dX12_way_102 t
    have t := it_f q3 t
    by_cases q4 : x2 = 4
    · have t := it_t q4 t
      refine V_tabIn (tgt := 103) dX12_way_18 (by rw [q4]; decide) (by rw [q4]; decide) (by rw [q4]; rfl) (by decide) ?_
      refine V_aload_n (q := 0) dX12_way_103 rfl rfl ?_
      refine V_getr f_X12_116 dX12_way_104 rfl rfl ?_
      refine V_iload_n (q := 1) dX12_way_107 rfl rfl ?_
      obtain ⟨n8, t⟩ := t
      refine V_iald dX12_way_108 rfl n8 ?_
      exact V_iret rfl dX12_way_109 t
    have t := it_f q4 t
    have a0 := tab_ne (x := x2) (k := 0) (by decide) q0
    have a1 := tab_ne (x := x2) (k := 1) (by decide) q1
    have a2 := tab_ne (x := x2) (k := 2) (by decide) q2
    have a3 := tab_ne (x := x2) (k := 3) (by decide) q3
    have a4 := tab_ne (x := x2) (k := 4) (by decide) q4
    refine V_tabOut (tgt := 110) dX12_way_18 (by omega) (by decide) ?_
    refine V_bipush (v := (-2)) dX12_way_110 rfl ?_
    exact V_iret rfl dX12_way_112 t
  · have t := it_f q t
    refine V_bipush (v := (-2)) dX12_way_14 rfl ?_
    exact V_iret rfl dX12_way_16 t
set_option maxRecDepth 20000 in
set_option maxHeartbeats 4000000 in
theorem s_Model_leg_0 (G : GA) (h : HP) (x1 : Int32) (x2 : Int32) (x3 : Int32) (K : Int32 → HP → Prop) (t :
  P_Model_in G h x1 0 ((h 67 41) - 1) (fun (b2 : Bool) (h1 : HP) =>
    if b2 = true then (
      vp_in x1 112 ∧
      P_Model_in G h1 x2 0 ((h1 103 (tn x1)) - 1) (fun (b5 : Bool) (h4 : HP) =>
        if b5 = true then (
          P_Model_in G h4 x3 0 8 (fun (b7 : Bool) (h6 : HP) =>
            if b7 = true then (
              vp_in (((63 * x1) + (9 * x2)) + x3) 7056 ∧
              K (h6 105 (tn (((63 * x1) + (9 * x2)) + x3))) h6
            ) else (
              K (-2) h6
            )
          )
        ) else (
          K (-2) h4
        )
      )
    ) else (
      K (-2) h1
    )
  )) : P_Model_leg G h x1 x2 x3 K := by
  refine Sp_of_V pf_X12_leg (Nat.le_of_ble_eq_true rfl) rfl ?_
  refine V_iload_n (q := 1) dX12_leg_0 rfl rfl ?_
  refine V_iconst (v := 0) dX12_leg_1 rfl ?_
  refine V_aload_n (q := 0) dX12_leg_2 rfl rfl ?_
  refine V_geti f_X12_261 dX12_leg_3 rfl rfl ?_
  refine V_iconst (v := 1) dX12_leg_6 rfl ?_
  refine V_isub dX12_leg_7 ?_
  refine V_callS [.int x1, .int 0, .int ((h 67 41) - 1)] [] g_X12_leg_X12_in wt_X12_in dX12_leg_8 rfl rfl (Nat.le_of_ble_eq_true rfl) t (fun _ h1 t => ?_)
  obtain ⟨b2, rfl, t⟩ := t
  refine V_ifb_eq (tgt := 59) dX12_leg_11 (by decide) (fun q => ?_) (fun q => ?_)
  · have t := it_f q t
    refine V_bipush (v := (-2)) dX12_leg_59 rfl ?_
    exact V_iret rfl dX12_leg_61 t
  · have t := it_t q t
    refine V_iload_n (q := 2) dX12_leg_14 rfl rfl ?_
    refine V_iconst (v := 0) dX12_leg_15 rfl ?_
    refine V_aload_n (q := 0) dX12_leg_16 rfl rfl ?_
    refine V_getr f_X12_116 dX12_leg_17 rfl rfl ?_
    refine V_iload_n (q := 1) dX12_leg_20 rfl rfl ?_
    obtain ⟨n3, t⟩ := t
    refine V_iald dX12_leg_21 rfl n3 ?_
    refine V_iconst (v := 1) dX12_leg_22 rfl ?_
    refine V_isub dX12_leg_23 ?_
    refine V_callS [.int x2, .int 0, .int ((h1 103 (tn x1)) - 1)] [] g_X12_leg_X12_in wt_X12_in dX12_leg_24 rfl rfl (Nat.le_of_ble_eq_true rfl) t (fun _ h4 t => ?_)
    obtain ⟨b5, rfl, t⟩ := t
    refine V_ifb_eq (tgt := 59) dX12_leg_27 (by decide) (fun q => ?_) (fun q => ?_)
    · have t := it_f q t
      refine V_bipush (v := (-2)) dX12_leg_59 rfl ?_
      exact V_iret rfl dX12_leg_61 t
    · have t := it_t q t
      refine V_iload_n (q := 3) dX12_leg_30 rfl rfl ?_
      refine V_iconst (v := 0) dX12_leg_31 rfl ?_
      refine V_bipush (v := 8) dX12_leg_32 rfl ?_
      refine V_callS [.int x3, .int 0, .int 8] [] g_X12_leg_X12_in wt_X12_in dX12_leg_34 rfl rfl (Nat.le_of_ble_eq_true rfl) t (fun _ h6 t => ?_)
      obtain ⟨b7, rfl, t⟩ := t
      refine V_ifb_eq (tgt := 59) dX12_leg_37 (by decide) (fun q => ?_) (fun q => ?_)
      · have t := it_f q t
        refine V_bipush (v := (-2)) dX12_leg_59 rfl ?_
        exact V_iret rfl dX12_leg_61 t
      · have t := it_t q t
        refine V_aload_n (q := 0) dX12_leg_40 rfl rfl ?_
        refine V_getr f_X12_122 dX12_leg_41 rfl rfl ?_
        refine V_bipush (v := 63) dX12_leg_44 rfl ?_
        refine V_iload_n (q := 1) dX12_leg_46 rfl rfl ?_
        refine V_imul dX12_leg_47 ?_
        refine V_bipush (v := 9) dX12_leg_48 rfl ?_
        refine V_iload_n (q := 2) dX12_leg_50 rfl rfl ?_
        refine V_imul dX12_leg_51 ?_
        refine V_iadd dX12_leg_52 ?_
        refine V_iload_n (q := 3) dX12_leg_53 rfl rfl ?_
        refine V_iadd dX12_leg_54 ?_
        obtain ⟨n8, t⟩ := t
        refine V_iald dX12_leg_55 rfl n8 ?_
        refine V_goto (tgt := 61) dX12_leg_56 (by decide) ?_
        exact V_iret rfl dX12_leg_61 t
set_option maxRecDepth 20000 in
set_option maxHeartbeats 4000000 in
theorem s_Model_places_105_0 (G : GA) (h : HP) (x2 : Int32) (x3 : Int32) (x4 : Int32) (K : Bool → HP → Prop) (t :
  H_Model_places_105_6 G h x2 x3 x4 false 0 K) : P_Model_places_105 G h x2 x3 x4 K := by
  refine Sp_of_V pf_X12_places (Nat.le_of_ble_eq_true rfl) rfl ?_
  refine V_iconst (v := 0) dX12_places_0 rfl ?_
  refine V_istore (L' := [(0, .ref (G.1 67)), (1, .ref (G.1 105)), (2, .int x2), (3, .int x3), (4, .int x4), (5, .int 0)]) dX12_places_1 (by decide) rfl rfl ?_
  refine V_iconst (v := 0) dX12_places_3 rfl ?_
  refine V_istore (L' := [(0, .ref (G.1 67)), (1, .ref (G.1 105)), (2, .int x2), (3, .int x3), (4, .int x4), (5, .int 0), (6, .int 0)]) dX12_places_4 (by decide) rfl rfl ?_
  exact t
set_option maxRecDepth 20000 in
set_option maxHeartbeats 4000000 in
theorem s_Model_places_105_6 (G : GA) (h : HP) (x2 : Int32) (x3 : Int32) (x4 : Int32) (x5 : Bool) (x6 : Int32) (K : Bool → HP → Prop) (t :
  if x3 ≤ x6 then (
    K x5 h
  ) else (
    vp_in (x2 + (9 * x6)) 7056 ∧
    if (h 105 (tn (x2 + (9 * x6)))) = 1 then (
      vp_in ((x2 + (9 * x6)) + 1) 7056 ∧
      vp_in ((x2 + (9 * x6)) + 7) 7056 ∧
      H_Model_places_105_57 G h x2 x3 x4 x5 x6 (x2 + (9 * x6)) (h 105 (tn ((x2 + (9 * x6)) + 1))) (h 105 (tn ((x2 + (9 * x6)) + 7))) K
    ) else (
      if (h 105 (tn (x2 + (9 * x6)))) = 2 then (
        vp_in ((x2 + (9 * x6)) + 1) 7056 ∧
        vp_in ((x2 + (9 * x6)) + 7) 7056 ∧
        H_Model_places_105_57 G h x2 x3 x4 x5 x6 (x2 + (9 * x6)) (h 105 (tn ((x2 + (9 * x6)) + 1))) (h 105 (tn ((x2 + (9 * x6)) + 7))) K
      ) else (
        H_Model_places_105_6 G h x2 x3 x4 x5 (x6 + 1) K
      )
    )
  )) : H_Model_places_105_6 G h x2 x3 x4 x5 x6 K := by
  unfold H_Model_places_105_6
  refine V_iload (q := 6) dX12_places_6 rfl ?_
  refine V_iload_n (q := 3) dX12_places_8 rfl rfl ?_
  refine V_icmp_ge (tgt := 143) dX12_places_9 (by decide) (fun q => ?_) (fun q => ?_)
  · have t := it_t q t
    refine V_iload (q := 5) dX12_places_143 rfl ?_
    exact V_zret (b := x5) rfl dX12_places_145 t
  · have t := it_f q t
    refine V_iload_n (q := 2) dX12_places_12 rfl rfl ?_
    refine V_bipush (v := 9) dX12_places_13 rfl ?_
    refine V_iload (q := 6) dX12_places_15 rfl ?_
    refine V_imul dX12_places_17 ?_
    refine V_iadd dX12_places_18 ?_
    refine V_istore (L' := [(0, .ref (G.1 67)), (1, .ref (G.1 105)), (2, .int x2), (3, .int x3), (4, .int x4), (5, .int (b2i x5)), (6, .int x6), (7, .int (x2 + (9 * x6)))]) dX12_places_19 (by decide) rfl rfl ?_
    refine V_aload_n (q := 1) dX12_places_21 rfl rfl ?_
    refine V_iload (q := 7) dX12_places_22 rfl ?_
    obtain ⟨n1, t⟩ := t
    refine V_iald dX12_places_24 rfl n1 ?_
    refine V_iconst (v := 1) dX12_places_25 rfl ?_
    refine V_icmp_eq (tgt := 40) dX12_places_26 (by decide) (fun q => ?_) (fun q => ?_)
    · have t := it_t q t
      refine V_aload_n (q := 1) dX12_places_40 rfl rfl ?_
      refine V_iload (q := 7) dX12_places_41 rfl ?_
      refine V_iconst (v := 1) dX12_places_43 rfl ?_
      refine V_iadd dX12_places_44 ?_
      obtain ⟨n2, t⟩ := t
      refine V_iald dX12_places_45 rfl n2 ?_
      refine V_istore (L' := [(0, .ref (G.1 67)), (1, .ref (G.1 105)), (2, .int x2), (3, .int x3), (4, .int x4), (5, .int (b2i x5)), (6, .int x6), (7, .int (x2 + (9 * x6))), (8, .int (h 105 (tn ((x2 + (9 * x6)) + 1))))]) dX12_places_46 (by decide) rfl rfl ?_
      refine V_aload_n (q := 1) dX12_places_48 rfl rfl ?_
      refine V_iload (q := 7) dX12_places_49 rfl ?_
      refine V_bipush (v := 7) dX12_places_51 rfl ?_
      refine V_iadd dX12_places_53 ?_
      obtain ⟨n3, t⟩ := t
      refine V_iald dX12_places_54 rfl n3 ?_
      refine V_istore (L' := [(0, .ref (G.1 67)), (1, .ref (G.1 105)), (2, .int x2), (3, .int x3), (4, .int x4), (5, .int (b2i x5)), (6, .int x6), (7, .int (x2 + (9 * x6))), (8, .int (h 105 (tn ((x2 + (9 * x6)) + 1)))), (9, .int (h 105 (tn ((x2 + (9 * x6)) + 7))))]) dX12_places_55 (by decide) rfl rfl ?_
      exact t
    · have t := it_f q t
      refine V_aload_n (q := 1) dX12_places_29 rfl rfl ?_
      refine V_iload (q := 7) dX12_places_30 rfl ?_
      refine V_iald dX12_places_32 rfl n1 ?_
      refine V_iconst (v := 2) dX12_places_33 rfl ?_
      refine V_icmp_eq (tgt := 40) dX12_places_34 (by decide) (fun q => ?_) (fun q => ?_)
      · have t := it_t q t
        refine V_aload_n (q := 1) dX12_places_40 rfl rfl ?_
        refine V_iload (q := 7) dX12_places_41 rfl ?_
        refine V_iconst (v := 1) dX12_places_43 rfl ?_
        refine V_iadd dX12_places_44 ?_
        obtain ⟨n4, t⟩ := t
        refine V_iald dX12_places_45 rfl n4 ?_
        refine V_istore (L' := [(0, .ref (G.1 67)), (1, .ref (G.1 105)), (2, .int x2), (3, .int x3), (4, .int x4), (5, .int (b2i x5)), (6, .int x6), (7, .int (x2 + (9 * x6))), (8, .int (h 105 (tn ((x2 + (9 * x6)) + 1))))]) dX12_places_46 (by decide) rfl rfl ?_
        refine V_aload_n (q := 1) dX12_places_48 rfl rfl ?_
        refine V_iload (q := 7) dX12_places_49 rfl ?_
        refine V_bipush (v := 7) dX12_places_51 rfl ?_
        refine V_iadd dX12_places_53 ?_
        obtain ⟨n5, t⟩ := t
        refine V_iald dX12_places_54 rfl n5 ?_
        refine V_istore (L' := [(0, .ref (G.1 67)), (1, .ref (G.1 105)), (2, .int x2), (3, .int x3), (4, .int x4), (5, .int (b2i x5)), (6, .int x6), (7, .int (x2 + (9 * x6))), (8, .int (h 105 (tn ((x2 + (9 * x6)) + 1)))), (9, .int (h 105 (tn ((x2 + (9 * x6)) + 7))))]) dX12_places_55 (by decide) rfl rfl ?_
        exact t
      · have t := it_f q t
        refine V_goto (tgt := 137) dX12_places_37 (by decide) ?_
        refine V_iinc (L' := [(0, .ref (G.1 67)), (1, .ref (G.1 105)), (2, .int x2), (3, .int x3), (4, .int x4), (5, .int (b2i x5)), (6, .int (x6 + 1)), (7, .int (x2 + (9 * x6)))]) (q := 6) (a := 1) dX12_places_137 rfl rfl (by decide) rfl rfl ?_
        refine V_goto (tgt := 6) dX12_places_140 (by decide) ?_
        refine V_pick (L' := [(0, .ref (G.1 67)), (1, .ref (G.1 105)), (2, .int x2), (3, .int x3), (4, .int x4), (5, .int (b2i x5)), (6, .int (x6 + 1))]) [0, 1, 2, 3, 4, 5, 6] rfl ?_
        exact t
set_option maxRecDepth 20000 in
set_option maxHeartbeats 4000000 in
theorem s_Model_places_105_57 (G : GA) (h : HP) (x2 : Int32) (x3 : Int32) (x4 : Int32) (x5 : Bool) (x6 : Int32) (x7 : Int32) (x8 : Int32) (x9 : Int32) (K : Bool → HP → Prop) (t :
  vp_in (x7 + 8) 7056 ∧
  if (h 105 (tn (x7 + 8))) ≤ x9 then (
    H_Model_places_105_6 G h x2 x3 x4 x5 (x6 + 1) K
  ) else (
    vp_in (x7 + 6) 7056 ∧
    ∀ v3 : Int32, v3 = ((((100 * x8) + (h 105 (tn (x7 + 6)))) * 8) + x9) →
    vp_in v3 19200 ∧
    ∀ h5 : HP, h5 = up h 93 (tn v3) ((h 93 (tn v3)) + x4) →
    if x5 = true then (
      H_Model_places_105_57 G h5 x2 x3 x4 true x6 x7 x8 (x9 + 1) K
    ) else (
      vp_in x8 24 ∧
      if (h5 93 (tn v3)) ≤ (h 74 (tn x8)) then (
        H_Model_places_105_57 G h5 x2 x3 x4 false x6 x7 x8 (x9 + 1) K
      ) else (
        H_Model_places_105_57 G h5 x2 x3 x4 true x6 x7 x8 (x9 + 1) K
      )
    )
  )) : H_Model_places_105_57 G h x2 x3 x4 x5 x6 x7 x8 x9 K := by
  unfold H_Model_places_105_57
  refine V_iload (q := 9) dX12_places_57 rfl ?_
  refine V_aload_n (q := 1) dX12_places_59 rfl rfl ?_
  refine V_iload (q := 7) dX12_places_60 rfl ?_
  refine V_bipush (v := 8) dX12_places_62 rfl ?_
  refine V_iadd dX12_places_64 ?_
  obtain ⟨n1, t⟩ := t
  refine V_iald dX12_places_65 rfl n1 ?_
  refine V_icmp_ge (tgt := 137) dX12_places_66 (by decide) (fun q => ?_) (fun q => ?_)
  · have t := it_t q t
    refine V_iinc (L' := [(0, .ref (G.1 67)), (1, .ref (G.1 105)), (2, .int x2), (3, .int x3), (4, .int x4), (5, .int (b2i x5)), (6, .int (x6 + 1)), (7, .int x7), (8, .int x8), (9, .int x9)]) (q := 6) (a := 1) dX12_places_137 rfl rfl (by decide) rfl rfl ?_
    refine V_goto (tgt := 6) dX12_places_140 (by decide) ?_
    refine V_pick (L' := [(0, .ref (G.1 67)), (1, .ref (G.1 105)), (2, .int x2), (3, .int x3), (4, .int x4), (5, .int (b2i x5)), (6, .int (x6 + 1))]) [0, 1, 2, 3, 4, 5, 6] rfl ?_
    exact t
  · have t := it_f q t
    refine V_bipush (v := 100) dX12_places_69 rfl ?_
    refine V_iload (q := 8) dX12_places_71 rfl ?_
    refine V_imul dX12_places_73 ?_
    refine V_aload_n (q := 1) dX12_places_74 rfl rfl ?_
    refine V_iload (q := 7) dX12_places_75 rfl ?_
    refine V_bipush (v := 6) dX12_places_77 rfl ?_
    refine V_iadd dX12_places_79 ?_
    obtain ⟨n2, t⟩ := t
    refine V_iald dX12_places_80 rfl n2 ?_
    refine V_iadd dX12_places_81 ?_
    refine V_bipush (v := 8) dX12_places_82 rfl ?_
    refine V_imul dX12_places_84 ?_
    refine V_iload (q := 9) dX12_places_85 rfl ?_
    refine V_iadd dX12_places_87 ?_
    have t := t _ rfl
    refine V_istore (L' := [(0, .ref (G.1 67)), (1, .ref (G.1 105)), (2, .int x2), (3, .int x3), (4, .int x4), (5, .int (b2i x5)), (6, .int x6), (7, .int x7), (8, .int x8), (9, .int x9), (10, .int ((((100 * x8) + (h 105 (tn (x7 + 6)))) * 8) + x9))]) dX12_places_88 (by decide) rfl rfl ?_
    refine V_aload_n (q := 0) dX12_places_90 rfl rfl ?_
    refine V_getr f_X12_86 dX12_places_91 rfl rfl ?_
    refine V_iload (q := 10) dX12_places_94 rfl ?_
    refine V_dup2 dX12_places_96 rfl rfl ?_
    obtain ⟨n4, t⟩ := t
    refine V_iald dX12_places_97 rfl n4 ?_
    refine V_iload (q := 4) dX12_places_98 rfl ?_
    refine V_iadd dX12_places_100 ?_
    have t := t _ rfl
    refine V_iast dX12_places_101 rfl n4 ?_
    refine V_iload (q := 5) dX12_places_102 rfl ?_
    refine V_ifb_ne (tgt := 124) dX12_places_104 (by decide) (fun q => ?_) (fun q => ?_)
    · have t := it_t q t
      refine V_iconst (v := 1) dX12_places_124 rfl ?_
      refine V_goto (tgt := 129) dX12_places_125 (by decide) ?_
      refine V_istore (L' := [(0, .ref (G.1 67)), (1, .ref (G.1 105)), (2, .int x2), (3, .int x3), (4, .int x4), (5, .int 1), (6, .int x6), (7, .int x7), (8, .int x8), (9, .int x9), (10, .int ((((100 * x8) + (h 105 (tn (x7 + 6)))) * 8) + x9))]) dX12_places_129 (by decide) rfl rfl ?_
      refine V_iinc (L' := [(0, .ref (G.1 67)), (1, .ref (G.1 105)), (2, .int x2), (3, .int x3), (4, .int x4), (5, .int 1), (6, .int x6), (7, .int x7), (8, .int x8), (9, .int (x9 + 1)), (10, .int ((((100 * x8) + (h 105 (tn (x7 + 6)))) * 8) + x9))]) (q := 9) (a := 1) dX12_places_131 rfl rfl (by decide) rfl rfl ?_
      refine V_goto (tgt := 57) dX12_places_134 (by decide) ?_
      refine V_pick (L' := [(0, .ref (G.1 67)), (1, .ref (G.1 105)), (2, .int x2), (3, .int x3), (4, .int x4), (5, .int 1), (6, .int x6), (7, .int x7), (8, .int x8), (9, .int (x9 + 1))]) [0, 1, 2, 3, 4, 5, 6, 7, 8, 9] rfl ?_
      exact t
    · have t := it_f q t
      refine V_aload_n (q := 0) dX12_places_107 rfl rfl ?_
      refine V_getr f_X12_86 dX12_places_108 rfl rfl ?_
      refine V_iload (q := 10) dX12_places_111 rfl ?_
      refine V_iald dX12_places_113 rfl n4 ?_
      refine V_aload_n (q := 0) dX12_places_114 rfl rfl ?_
      refine V_getr f_X12_28 dX12_places_115 rfl rfl ?_
      refine V_iload (q := 8) dX12_places_118 rfl ?_
      obtain ⟨n6, t⟩ := t
      refine V_iald dX12_places_120 rfl n6 ?_
      refine V_icmp_le (tgt := 128) dX12_places_121 (by decide) (fun q => ?_) (fun q => ?_)
      · have t := it_t q t
        refine V_iconst (v := 0) dX12_places_128 rfl ?_
        refine V_istore (L' := [(0, .ref (G.1 67)), (1, .ref (G.1 105)), (2, .int x2), (3, .int x3), (4, .int x4), (5, .int 0), (6, .int x6), (7, .int x7), (8, .int x8), (9, .int x9), (10, .int ((((100 * x8) + (h 105 (tn (x7 + 6)))) * 8) + x9))]) dX12_places_129 (by decide) rfl rfl ?_
        refine V_iinc (L' := [(0, .ref (G.1 67)), (1, .ref (G.1 105)), (2, .int x2), (3, .int x3), (4, .int x4), (5, .int 0), (6, .int x6), (7, .int x7), (8, .int x8), (9, .int (x9 + 1)), (10, .int ((((100 * x8) + (h 105 (tn (x7 + 6)))) * 8) + x9))]) (q := 9) (a := 1) dX12_places_131 rfl rfl (by decide) rfl rfl ?_
        refine V_goto (tgt := 57) dX12_places_134 (by decide) ?_
        refine V_pick (L' := [(0, .ref (G.1 67)), (1, .ref (G.1 105)), (2, .int x2), (3, .int x3), (4, .int x4), (5, .int 0), (6, .int x6), (7, .int x7), (8, .int x8), (9, .int (x9 + 1))]) [0, 1, 2, 3, 4, 5, 6, 7, 8, 9] rfl ?_
        exact t
      · have t := it_f q t
        refine V_iconst (v := 1) dX12_places_124 rfl ?_
        refine V_goto (tgt := 129) dX12_places_125 (by decide) ?_
        refine V_istore (L' := [(0, .ref (G.1 67)), (1, .ref (G.1 105)), (2, .int x2), (3, .int x3), (4, .int x4), (5, .int 1), (6, .int x6), (7, .int x7), (8, .int x8), (9, .int x9), (10, .int ((((100 * x8) + (h 105 (tn (x7 + 6)))) * 8) + x9))]) dX12_places_129 (by decide) rfl rfl ?_
        refine V_iinc (L' := [(0, .ref (G.1 67)), (1, .ref (G.1 105)), (2, .int x2), (3, .int x3), (4, .int x4), (5, .int 1), (6, .int x6), (7, .int x7), (8, .int x8), (9, .int (x9 + 1)), (10, .int ((((100 * x8) + (h 105 (tn (x7 + 6)))) * 8) + x9))]) (q := 9) (a := 1) dX12_places_131 rfl rfl (by decide) rfl rfl ?_
        refine V_goto (tgt := 57) dX12_places_134 (by decide) ?_
        refine V_pick (L' := [(0, .ref (G.1 67)), (1, .ref (G.1 105)), (2, .int x2), (3, .int x3), (4, .int x4), (5, .int 1), (6, .int x6), (7, .int x7), (8, .int x8), (9, .int (x9 + 1))]) [0, 1, 2, 3, 4, 5, 6, 7, 8, 9] rfl ?_
        exact t
set_option maxRecDepth 20000 in
set_option maxHeartbeats 4000000 in
theorem s_Model_take_0 (G : GA) (h : HP) (x1 : Int32) (K : Int32 → HP → Prop) (t :
  P_Model_in G h x1 0 ((h 67 41) - 1) (fun (b2 : Bool) (h1 : HP) =>
    if b2 = true then (
      if (h1 67 4) = 30 then (
        K (-2) h1
      ) else (
        vp_in x1 112 ∧
        P_Model_places_105 G h1 (63 * x1) (h1 103 (tn x1)) 1 (fun (b5 : Bool) (h4 : HP) =>
          if b5 = true then (
            P_Model_places_105 G h4 (63 * x1) (h4 103 (tn x1)) (-1) (fun (b7 : Bool) (h6 : HP) =>
              K (-2) h6
            )
          ) else (
            vp_in (h4 67 4) 30 ∧
            ∀ h8 : HP, h8 = up h4 107 (tn (h4 67 4)) (h4 103 (tn x1)) →
            ∀ h10 : HP, h10 = up h8 108 (tn (h4 67 4)) (h4 104 (tn x1)) →
            H_Model_take_103 G h10 x1 0 K
          )
        )
      )
    ) else (
      K (-2) h1
    )
  )) : P_Model_take G h x1 K := by
  refine Sp_of_V pf_X12_take (Nat.le_of_ble_eq_true rfl) rfl ?_
  refine V_iload_n (q := 1) dX12_take_0 rfl rfl ?_
  refine V_iconst (v := 0) dX12_take_1 rfl ?_
  refine V_aload_n (q := 0) dX12_take_2 rfl rfl ?_
  refine V_geti f_X12_261 dX12_take_3 rfl rfl ?_
  refine V_iconst (v := 1) dX12_take_6 rfl ?_
  refine V_isub dX12_take_7 ?_
  refine V_callS [.int x1, .int 0, .int ((h 67 41) - 1)] [] g_X12_take_X12_in wt_X12_in dX12_take_8 rfl rfl (Nat.le_of_ble_eq_true rfl) t (fun _ h1 t => ?_)
  obtain ⟨b2, rfl, t⟩ := t
  refine V_ifb_eq (tgt := 23) dX12_take_11 (by decide) (fun q => ?_) (fun q => ?_)
  · have t := it_f q t
    refine V_bipush (v := (-2)) dX12_take_23 rfl ?_
    exact V_iret rfl dX12_take_25 t
  · have t := it_t q t
    refine V_aload_n (q := 0) dX12_take_14 rfl rfl ?_
    refine V_geti f_X12_280 dX12_take_15 rfl rfl ?_
    refine V_bipush (v := 30) dX12_take_18 rfl ?_
    refine V_icmp_ne (tgt := 26) dX12_take_20 (by decide) (fun q => ?_) (fun q => ?_)
    · have t := it_f q t
      refine V_aload_n (q := 0) dX12_take_26 rfl rfl ?_
      refine V_aload_n (q := 0) dX12_take_27 rfl rfl ?_
      refine V_getr f_X12_122 dX12_take_28 rfl rfl ?_
      refine V_bipush (v := 63) dX12_take_31 rfl ?_
      refine V_iload_n (q := 1) dX12_take_33 rfl rfl ?_
      refine V_imul dX12_take_34 ?_
      refine V_aload_n (q := 0) dX12_take_35 rfl rfl ?_
      refine V_getr f_X12_116 dX12_take_36 rfl rfl ?_
      refine V_iload_n (q := 1) dX12_take_39 rfl rfl ?_
      obtain ⟨n3, t⟩ := t
      refine V_iald dX12_take_40 rfl n3 ?_
      refine V_iconst (v := 1) dX12_take_41 rfl ?_
      refine V_callV [.ref (G.1 105), .int (63 * x1), .int (h1 103 (tn x1)), .int 1] [] g_X12_take_X12_places wi_X12_places ws_X12_places dX12_take_42 rfl rfl rfl rfl rfl (Nat.le_of_ble_eq_true rfl) t (fun _ h4 t => ?_)
      obtain ⟨b5, rfl, t⟩ := t
      refine V_ifb_eq (tgt := 71) dX12_take_45 (by decide) (fun q => ?_) (fun q => ?_)
      · have t := it_f q t
        refine V_aload_n (q := 0) dX12_take_71 rfl rfl ?_
        refine V_getr f_X12_128 dX12_take_72 rfl rfl ?_
        refine V_aload_n (q := 0) dX12_take_75 rfl rfl ?_
        refine V_geti f_X12_280 dX12_take_76 rfl rfl ?_
        refine V_aload_n (q := 0) dX12_take_79 rfl rfl ?_
        refine V_getr f_X12_116 dX12_take_80 rfl rfl ?_
        refine V_iload_n (q := 1) dX12_take_83 rfl rfl ?_
        refine V_iald dX12_take_84 rfl n3 ?_
        obtain ⟨n9, t⟩ := t
        have t := t _ rfl
        refine V_iast dX12_take_85 rfl n9 ?_
        refine V_aload_n (q := 0) dX12_take_86 rfl rfl ?_
        refine V_getr f_X12_131 dX12_take_87 rfl rfl ?_
        refine V_aload_n (q := 0) dX12_take_90 rfl rfl ?_
        refine V_geti f_X12_280 dX12_take_91 rfl rfl ?_
        refine V_aload_n (q := 0) dX12_take_94 rfl rfl ?_
        refine V_getr f_X12_119 dX12_take_95 rfl rfl ?_
        refine V_iload_n (q := 1) dX12_take_98 rfl rfl ?_
        refine V_iald dX12_take_99 rfl n3 ?_
        have t := t _ rfl
        refine V_iast dX12_take_100 rfl n9 ?_
        refine V_iconst (v := 0) dX12_take_101 rfl ?_
        refine V_istore_n (L' := [(0, .ref (G.1 67)), (1, .int x1), (2, .int 0)]) dX12_take_102 rfl (by decide) rfl rfl ?_
        exact t
      · have t := it_t q t
        refine V_aload_n (q := 0) dX12_take_48 rfl rfl ?_
        refine V_aload_n (q := 0) dX12_take_49 rfl rfl ?_
        refine V_getr f_X12_122 dX12_take_50 rfl rfl ?_
        refine V_bipush (v := 63) dX12_take_53 rfl ?_
        refine V_iload_n (q := 1) dX12_take_55 rfl rfl ?_
        refine V_imul dX12_take_56 ?_
        refine V_aload_n (q := 0) dX12_take_57 rfl rfl ?_
        refine V_getr f_X12_116 dX12_take_58 rfl rfl ?_
        refine V_iload_n (q := 1) dX12_take_61 rfl rfl ?_
        refine V_iald dX12_take_62 rfl n3 ?_
        refine V_iconst (v := (-1)) dX12_take_63 rfl ?_
        refine V_callV [.ref (G.1 105), .int (63 * x1), .int (h4 103 (tn x1)), .int (-1)] [] g_X12_take_X12_places wi_X12_places ws_X12_places dX12_take_64 rfl rfl rfl rfl rfl (Nat.le_of_ble_eq_true rfl) t (fun _ h6 t => ?_)
        obtain ⟨b7, rfl, t⟩ := t
        refine V_istore_n (L' := [(0, .ref (G.1 67)), (1, .int x1), (2, .int (b2i b7))]) dX12_take_67 rfl (by decide) rfl rfl ?_
        refine V_bipush (v := (-2)) dX12_take_68 rfl ?_
        exact V_iret rfl dX12_take_70 t
    · have t := it_t q t
      refine V_bipush (v := (-2)) dX12_take_23 rfl ?_
      exact V_iret rfl dX12_take_25 t
set_option maxRecDepth 20000 in
set_option maxHeartbeats 4000000 in
theorem s_Model_take_103 (G : GA) (h : HP) (x1 : Int32) (x2 : Int32) (K : Int32 → HP → Prop) (t :
  if 63 ≤ x2 then (
    vp_in (h 67 4) 30 ∧
    ∀ h1 : HP, h1 = up h 110 (tn (h 67 4)) (b2i false) →
    ∀ h3 : HP, h3 = up h1 67 4 ((h 67 4) + 1) →
    K ((h3 67 4) - 1) h3
  ) else (
    vp_in ((63 * x1) + x2) 7056 ∧
    vp_in ((63 * (h 67 4)) + x2) 1890 ∧
    ∀ h5 : HP, h5 = up h 109 (tn ((63 * (h 67 4)) + x2)) (h 105 (tn ((63 * x1) + x2))) →
    H_Model_take_103 G h5 x1 (x2 + 1) K
  )) : H_Model_take_103 G h x1 x2 K := by
  unfold H_Model_take_103
  refine V_iload_n (q := 2) dX12_take_103 rfl rfl ?_
  refine V_bipush (v := 63) dX12_take_104 rfl ?_
  refine V_icmp_ge (tgt := 140) dX12_take_106 (by decide) (fun q => ?_) (fun q => ?_)
  · have t := it_t q t
    refine V_aload_n (q := 0) dX12_take_140 rfl rfl ?_
    refine V_getr f_X12_137 dX12_take_141 rfl rfl ?_
    refine V_aload_n (q := 0) dX12_take_144 rfl rfl ?_
    refine V_geti f_X12_280 dX12_take_145 rfl rfl ?_
    refine V_iconst (v := 0) dX12_take_148 rfl ?_
    obtain ⟨n2, t⟩ := t
    have t := t _ rfl
    refine V_zast (b := false) dX12_take_149 rfl n2 ?_
    refine V_aload_n (q := 0) dX12_take_150 rfl rfl ?_
    refine V_dup dX12_take_151 rfl ?_
    refine V_geti f_X12_280 dX12_take_152 rfl rfl ?_
    refine V_iconst (v := 1) dX12_take_155 rfl ?_
    refine V_iadd dX12_take_156 ?_
    have t := t _ rfl
    refine V_put f_X12_280 p_X12_4 dX12_take_157 rfl rfl ?_
    refine V_aload_n (q := 0) dX12_take_160 rfl rfl ?_
    refine V_geti f_X12_280 dX12_take_161 rfl rfl ?_
    refine V_iconst (v := 1) dX12_take_164 rfl ?_
    refine V_isub dX12_take_165 ?_
    exact V_iret rfl dX12_take_166 t
  · have t := it_f q t
    refine V_aload_n (q := 0) dX12_take_109 rfl rfl ?_
    refine V_getr f_X12_134 dX12_take_110 rfl rfl ?_
    refine V_bipush (v := 63) dX12_take_113 rfl ?_
    refine V_aload_n (q := 0) dX12_take_115 rfl rfl ?_
    refine V_geti f_X12_280 dX12_take_116 rfl rfl ?_
    refine V_imul dX12_take_119 ?_
    refine V_iload_n (q := 2) dX12_take_120 rfl rfl ?_
    refine V_iadd dX12_take_121 ?_
    refine V_aload_n (q := 0) dX12_take_122 rfl rfl ?_
    refine V_getr f_X12_122 dX12_take_123 rfl rfl ?_
    refine V_bipush (v := 63) dX12_take_126 rfl ?_
    refine V_iload_n (q := 1) dX12_take_128 rfl rfl ?_
    refine V_imul dX12_take_129 ?_
    refine V_iload_n (q := 2) dX12_take_130 rfl rfl ?_
    refine V_iadd dX12_take_131 ?_
    obtain ⟨n4, t⟩ := t
    refine V_iald dX12_take_132 rfl n4 ?_
    obtain ⟨n6, t⟩ := t
    have t := t _ rfl
    refine V_iast dX12_take_133 rfl n6 ?_
    refine V_iinc (L' := [(0, .ref (G.1 67)), (1, .int x1), (2, .int (x2 + 1))]) (q := 2) (a := 1) dX12_take_134 rfl rfl (by decide) rfl rfl ?_
    refine V_goto (tgt := 103) dX12_take_137 (by decide) ?_
    exact t
set_option maxRecDepth 20000 in
set_option maxHeartbeats 4000000 in
theorem s_Model_isTicket_0 (G : GA) (h : HP) (x1 : Int32) (K : Bool → HP → Prop) (t :
  P_Model_in G h x1 0 ((h 67 4) - 1) (fun (b2 : Bool) (h1 : HP) =>
    if b2 = true then (
      vp_in x1 30 ∧
      if (h1 110 (tn x1)) = 0 then (
        K true h1
      ) else (
        K false h1
      )
    ) else (
      K false h1
    )
  )) : P_Model_isTicket G h x1 K := by
  refine Sp_of_V pf_X12_isTicket (Nat.le_of_ble_eq_true rfl) rfl ?_
  refine V_iload_n (q := 1) dX12_isTicket_0 rfl rfl ?_
  refine V_iconst (v := 0) dX12_isTicket_1 rfl ?_
  refine V_aload_n (q := 0) dX12_isTicket_2 rfl rfl ?_
  refine V_geti f_X12_280 dX12_isTicket_3 rfl rfl ?_
  refine V_iconst (v := 1) dX12_isTicket_6 rfl ?_
  refine V_isub dX12_isTicket_7 ?_
  refine V_callS [.int x1, .int 0, .int ((h 67 4) - 1)] [] g_X12_isTicket_X12_in wt_X12_in dX12_isTicket_8 rfl rfl (Nat.le_of_ble_eq_true rfl) t (fun _ h1 t => ?_)
  obtain ⟨b2, rfl, t⟩ := t
  refine V_ifb_eq (tgt := 27) dX12_isTicket_11 (by decide) (fun q => ?_) (fun q => ?_)
  · have t := it_f q t
    refine V_iconst (v := 0) dX12_isTicket_27 rfl ?_
    exact V_zret (b := false) rfl dX12_isTicket_28 t
  · have t := it_t q t
    refine V_aload_n (q := 0) dX12_isTicket_14 rfl rfl ?_
    refine V_getr f_X12_137 dX12_isTicket_15 rfl rfl ?_
    refine V_iload_n (q := 1) dX12_isTicket_18 rfl rfl ?_
    obtain ⟨n3, t⟩ := t
    refine V_zald dX12_isTicket_19 rfl n3 ?_
    refine V_if_ne (tgt := 27) dX12_isTicket_20 (by decide) (fun q => ?_) (fun q => ?_)
    · have t := it_f q t
      refine V_iconst (v := 0) dX12_isTicket_27 rfl ?_
      exact V_zret (b := false) rfl dX12_isTicket_28 t
    · have t := it_t q t
      refine V_iconst (v := 1) dX12_isTicket_23 rfl ?_
      refine V_goto (tgt := 28) dX12_isTicket_24 (by decide) ?_
      exact V_zret (b := true) rfl dX12_isTicket_28 t
set_option maxRecDepth 20000 in
set_option maxHeartbeats 4000000 in
theorem s_Model_places_109_0 (G : GA) (h : HP) (x2 : Int32) (x3 : Int32) (x4 : Int32) (K : Bool → HP → Prop) (t :
  H_Model_places_109_6 G h x2 x3 x4 false 0 K) : P_Model_places_109 G h x2 x3 x4 K := by
  refine Sp_of_V pf_X12_places (Nat.le_of_ble_eq_true rfl) rfl ?_
  refine V_iconst (v := 0) dX12_places_0 rfl ?_
  refine V_istore (L' := [(0, .ref (G.1 67)), (1, .ref (G.1 109)), (2, .int x2), (3, .int x3), (4, .int x4), (5, .int 0)]) dX12_places_1 (by decide) rfl rfl ?_
  refine V_iconst (v := 0) dX12_places_3 rfl ?_
  refine V_istore (L' := [(0, .ref (G.1 67)), (1, .ref (G.1 109)), (2, .int x2), (3, .int x3), (4, .int x4), (5, .int 0), (6, .int 0)]) dX12_places_4 (by decide) rfl rfl ?_
  exact t
set_option maxRecDepth 20000 in
set_option maxHeartbeats 4000000 in
theorem s_Model_places_109_6 (G : GA) (h : HP) (x2 : Int32) (x3 : Int32) (x4 : Int32) (x5 : Bool) (x6 : Int32) (K : Bool → HP → Prop) (t :
  if x3 ≤ x6 then (
    K x5 h
  ) else (
    vp_in (x2 + (9 * x6)) 1890 ∧
    if (h 109 (tn (x2 + (9 * x6)))) = 1 then (
      vp_in ((x2 + (9 * x6)) + 1) 1890 ∧
      vp_in ((x2 + (9 * x6)) + 7) 1890 ∧
      H_Model_places_109_57 G h x2 x3 x4 x5 x6 (x2 + (9 * x6)) (h 109 (tn ((x2 + (9 * x6)) + 1))) (h 109 (tn ((x2 + (9 * x6)) + 7))) K
    ) else (
      if (h 109 (tn (x2 + (9 * x6)))) = 2 then (
        vp_in ((x2 + (9 * x6)) + 1) 1890 ∧
        vp_in ((x2 + (9 * x6)) + 7) 1890 ∧
        H_Model_places_109_57 G h x2 x3 x4 x5 x6 (x2 + (9 * x6)) (h 109 (tn ((x2 + (9 * x6)) + 1))) (h 109 (tn ((x2 + (9 * x6)) + 7))) K
      ) else (
        H_Model_places_109_6 G h x2 x3 x4 x5 (x6 + 1) K
      )
    )
  )) : H_Model_places_109_6 G h x2 x3 x4 x5 x6 K := by
  unfold H_Model_places_109_6
  refine V_iload (q := 6) dX12_places_6 rfl ?_
  refine V_iload_n (q := 3) dX12_places_8 rfl rfl ?_
  refine V_icmp_ge (tgt := 143) dX12_places_9 (by decide) (fun q => ?_) (fun q => ?_)
  · have t := it_t q t
    refine V_iload (q := 5) dX12_places_143 rfl ?_
    exact V_zret (b := x5) rfl dX12_places_145 t
  · have t := it_f q t
    refine V_iload_n (q := 2) dX12_places_12 rfl rfl ?_
    refine V_bipush (v := 9) dX12_places_13 rfl ?_
    refine V_iload (q := 6) dX12_places_15 rfl ?_
    refine V_imul dX12_places_17 ?_
    refine V_iadd dX12_places_18 ?_
    refine V_istore (L' := [(0, .ref (G.1 67)), (1, .ref (G.1 109)), (2, .int x2), (3, .int x3), (4, .int x4), (5, .int (b2i x5)), (6, .int x6), (7, .int (x2 + (9 * x6)))]) dX12_places_19 (by decide) rfl rfl ?_
    refine V_aload_n (q := 1) dX12_places_21 rfl rfl ?_
    refine V_iload (q := 7) dX12_places_22 rfl ?_
    obtain ⟨n1, t⟩ := t
    refine V_iald dX12_places_24 rfl n1 ?_
    refine V_iconst (v := 1) dX12_places_25 rfl ?_
    refine V_icmp_eq (tgt := 40) dX12_places_26 (by decide) (fun q => ?_) (fun q => ?_)
    · have t := it_t q t
      refine V_aload_n (q := 1) dX12_places_40 rfl rfl ?_
      refine V_iload (q := 7) dX12_places_41 rfl ?_
      refine V_iconst (v := 1) dX12_places_43 rfl ?_
      refine V_iadd dX12_places_44 ?_
      obtain ⟨n2, t⟩ := t
      refine V_iald dX12_places_45 rfl n2 ?_
      refine V_istore (L' := [(0, .ref (G.1 67)), (1, .ref (G.1 109)), (2, .int x2), (3, .int x3), (4, .int x4), (5, .int (b2i x5)), (6, .int x6), (7, .int (x2 + (9 * x6))), (8, .int (h 109 (tn ((x2 + (9 * x6)) + 1))))]) dX12_places_46 (by decide) rfl rfl ?_
      refine V_aload_n (q := 1) dX12_places_48 rfl rfl ?_
      refine V_iload (q := 7) dX12_places_49 rfl ?_
      refine V_bipush (v := 7) dX12_places_51 rfl ?_
      refine V_iadd dX12_places_53 ?_
      obtain ⟨n3, t⟩ := t
      refine V_iald dX12_places_54 rfl n3 ?_
      refine V_istore (L' := [(0, .ref (G.1 67)), (1, .ref (G.1 109)), (2, .int x2), (3, .int x3), (4, .int x4), (5, .int (b2i x5)), (6, .int x6), (7, .int (x2 + (9 * x6))), (8, .int (h 109 (tn ((x2 + (9 * x6)) + 1)))), (9, .int (h 109 (tn ((x2 + (9 * x6)) + 7))))]) dX12_places_55 (by decide) rfl rfl ?_
      exact t
    · have t := it_f q t
      refine V_aload_n (q := 1) dX12_places_29 rfl rfl ?_
      refine V_iload (q := 7) dX12_places_30 rfl ?_
      refine V_iald dX12_places_32 rfl n1 ?_
      refine V_iconst (v := 2) dX12_places_33 rfl ?_
      refine V_icmp_eq (tgt := 40) dX12_places_34 (by decide) (fun q => ?_) (fun q => ?_)
      · have t := it_t q t
        refine V_aload_n (q := 1) dX12_places_40 rfl rfl ?_
        refine V_iload (q := 7) dX12_places_41 rfl ?_
        refine V_iconst (v := 1) dX12_places_43 rfl ?_
        refine V_iadd dX12_places_44 ?_
        obtain ⟨n4, t⟩ := t
        refine V_iald dX12_places_45 rfl n4 ?_
        refine V_istore (L' := [(0, .ref (G.1 67)), (1, .ref (G.1 109)), (2, .int x2), (3, .int x3), (4, .int x4), (5, .int (b2i x5)), (6, .int x6), (7, .int (x2 + (9 * x6))), (8, .int (h 109 (tn ((x2 + (9 * x6)) + 1))))]) dX12_places_46 (by decide) rfl rfl ?_
        refine V_aload_n (q := 1) dX12_places_48 rfl rfl ?_
        refine V_iload (q := 7) dX12_places_49 rfl ?_
        refine V_bipush (v := 7) dX12_places_51 rfl ?_
        refine V_iadd dX12_places_53 ?_
        obtain ⟨n5, t⟩ := t
        refine V_iald dX12_places_54 rfl n5 ?_
        refine V_istore (L' := [(0, .ref (G.1 67)), (1, .ref (G.1 109)), (2, .int x2), (3, .int x3), (4, .int x4), (5, .int (b2i x5)), (6, .int x6), (7, .int (x2 + (9 * x6))), (8, .int (h 109 (tn ((x2 + (9 * x6)) + 1)))), (9, .int (h 109 (tn ((x2 + (9 * x6)) + 7))))]) dX12_places_55 (by decide) rfl rfl ?_
        exact t
      · have t := it_f q t
        refine V_goto (tgt := 137) dX12_places_37 (by decide) ?_
        refine V_iinc (L' := [(0, .ref (G.1 67)), (1, .ref (G.1 109)), (2, .int x2), (3, .int x3), (4, .int x4), (5, .int (b2i x5)), (6, .int (x6 + 1)), (7, .int (x2 + (9 * x6)))]) (q := 6) (a := 1) dX12_places_137 rfl rfl (by decide) rfl rfl ?_
        refine V_goto (tgt := 6) dX12_places_140 (by decide) ?_
        refine V_pick (L' := [(0, .ref (G.1 67)), (1, .ref (G.1 109)), (2, .int x2), (3, .int x3), (4, .int x4), (5, .int (b2i x5)), (6, .int (x6 + 1))]) [0, 1, 2, 3, 4, 5, 6] rfl ?_
        exact t
set_option maxRecDepth 20000 in
set_option maxHeartbeats 4000000 in
theorem s_Model_places_109_57 (G : GA) (h : HP) (x2 : Int32) (x3 : Int32) (x4 : Int32) (x5 : Bool) (x6 : Int32) (x7 : Int32) (x8 : Int32) (x9 : Int32) (K : Bool → HP → Prop) (t :
  vp_in (x7 + 8) 1890 ∧
  if (h 109 (tn (x7 + 8))) ≤ x9 then (
    H_Model_places_109_6 G h x2 x3 x4 x5 (x6 + 1) K
  ) else (
    vp_in (x7 + 6) 1890 ∧
    ∀ v3 : Int32, v3 = ((((100 * x8) + (h 109 (tn (x7 + 6)))) * 8) + x9) →
    vp_in v3 19200 ∧
    ∀ h5 : HP, h5 = up h 93 (tn v3) ((h 93 (tn v3)) + x4) →
    if x5 = true then (
      H_Model_places_109_57 G h5 x2 x3 x4 true x6 x7 x8 (x9 + 1) K
    ) else (
      vp_in x8 24 ∧
      if (h5 93 (tn v3)) ≤ (h 74 (tn x8)) then (
        H_Model_places_109_57 G h5 x2 x3 x4 false x6 x7 x8 (x9 + 1) K
      ) else (
        H_Model_places_109_57 G h5 x2 x3 x4 true x6 x7 x8 (x9 + 1) K
      )
    )
  )) : H_Model_places_109_57 G h x2 x3 x4 x5 x6 x7 x8 x9 K := by
  unfold H_Model_places_109_57
  refine V_iload (q := 9) dX12_places_57 rfl ?_
  refine V_aload_n (q := 1) dX12_places_59 rfl rfl ?_
  refine V_iload (q := 7) dX12_places_60 rfl ?_
  refine V_bipush (v := 8) dX12_places_62 rfl ?_
  refine V_iadd dX12_places_64 ?_
  obtain ⟨n1, t⟩ := t
  refine V_iald dX12_places_65 rfl n1 ?_
  refine V_icmp_ge (tgt := 137) dX12_places_66 (by decide) (fun q => ?_) (fun q => ?_)
  · have t := it_t q t
    refine V_iinc (L' := [(0, .ref (G.1 67)), (1, .ref (G.1 109)), (2, .int x2), (3, .int x3), (4, .int x4), (5, .int (b2i x5)), (6, .int (x6 + 1)), (7, .int x7), (8, .int x8), (9, .int x9)]) (q := 6) (a := 1) dX12_places_137 rfl rfl (by decide) rfl rfl ?_
    refine V_goto (tgt := 6) dX12_places_140 (by decide) ?_
    refine V_pick (L' := [(0, .ref (G.1 67)), (1, .ref (G.1 109)), (2, .int x2), (3, .int x3), (4, .int x4), (5, .int (b2i x5)), (6, .int (x6 + 1))]) [0, 1, 2, 3, 4, 5, 6] rfl ?_
    exact t
  · have t := it_f q t
    refine V_bipush (v := 100) dX12_places_69 rfl ?_
    refine V_iload (q := 8) dX12_places_71 rfl ?_
    refine V_imul dX12_places_73 ?_
    refine V_aload_n (q := 1) dX12_places_74 rfl rfl ?_
    refine V_iload (q := 7) dX12_places_75 rfl ?_
    refine V_bipush (v := 6) dX12_places_77 rfl ?_
    refine V_iadd dX12_places_79 ?_
    obtain ⟨n2, t⟩ := t
    refine V_iald dX12_places_80 rfl n2 ?_
    refine V_iadd dX12_places_81 ?_
    refine V_bipush (v := 8) dX12_places_82 rfl ?_
    refine V_imul dX12_places_84 ?_
    refine V_iload (q := 9) dX12_places_85 rfl ?_
    refine V_iadd dX12_places_87 ?_
    have t := t _ rfl
    refine V_istore (L' := [(0, .ref (G.1 67)), (1, .ref (G.1 109)), (2, .int x2), (3, .int x3), (4, .int x4), (5, .int (b2i x5)), (6, .int x6), (7, .int x7), (8, .int x8), (9, .int x9), (10, .int ((((100 * x8) + (h 109 (tn (x7 + 6)))) * 8) + x9))]) dX12_places_88 (by decide) rfl rfl ?_
    refine V_aload_n (q := 0) dX12_places_90 rfl rfl ?_
    refine V_getr f_X12_86 dX12_places_91 rfl rfl ?_
    refine V_iload (q := 10) dX12_places_94 rfl ?_
    refine V_dup2 dX12_places_96 rfl rfl ?_
    obtain ⟨n4, t⟩ := t
    refine V_iald dX12_places_97 rfl n4 ?_
    refine V_iload (q := 4) dX12_places_98 rfl ?_
    refine V_iadd dX12_places_100 ?_
    have t := t _ rfl
    refine V_iast dX12_places_101 rfl n4 ?_
    refine V_iload (q := 5) dX12_places_102 rfl ?_
    refine V_ifb_ne (tgt := 124) dX12_places_104 (by decide) (fun q => ?_) (fun q => ?_)
    · have t := it_t q t
      refine V_iconst (v := 1) dX12_places_124 rfl ?_
      refine V_goto (tgt := 129) dX12_places_125 (by decide) ?_
      refine V_istore (L' := [(0, .ref (G.1 67)), (1, .ref (G.1 109)), (2, .int x2), (3, .int x3), (4, .int x4), (5, .int 1), (6, .int x6), (7, .int x7), (8, .int x8), (9, .int x9), (10, .int ((((100 * x8) + (h 109 (tn (x7 + 6)))) * 8) + x9))]) dX12_places_129 (by decide) rfl rfl ?_
      refine V_iinc (L' := [(0, .ref (G.1 67)), (1, .ref (G.1 109)), (2, .int x2), (3, .int x3), (4, .int x4), (5, .int 1), (6, .int x6), (7, .int x7), (8, .int x8), (9, .int (x9 + 1)), (10, .int ((((100 * x8) + (h 109 (tn (x7 + 6)))) * 8) + x9))]) (q := 9) (a := 1) dX12_places_131 rfl rfl (by decide) rfl rfl ?_
      refine V_goto (tgt := 57) dX12_places_134 (by decide) ?_
      refine V_pick (L' := [(0, .ref (G.1 67)), (1, .ref (G.1 109)), (2, .int x2), (3, .int x3), (4, .int x4), (5, .int 1), (6, .int x6), (7, .int x7), (8, .int x8), (9, .int (x9 + 1))]) [0, 1, 2, 3, 4, 5, 6, 7, 8, 9] rfl ?_
      exact t
    · have t := it_f q t
      refine V_aload_n (q := 0) dX12_places_107 rfl rfl ?_
      refine V_getr f_X12_86 dX12_places_108 rfl rfl ?_
      refine V_iload (q := 10) dX12_places_111 rfl ?_
      refine V_iald dX12_places_113 rfl n4 ?_
      refine V_aload_n (q := 0) dX12_places_114 rfl rfl ?_
      refine V_getr f_X12_28 dX12_places_115 rfl rfl ?_
      refine V_iload (q := 8) dX12_places_118 rfl ?_
      obtain ⟨n6, t⟩ := t
      refine V_iald dX12_places_120 rfl n6 ?_
      refine V_icmp_le (tgt := 128) dX12_places_121 (by decide) (fun q => ?_) (fun q => ?_)
      · have t := it_t q t
        refine V_iconst (v := 0) dX12_places_128 rfl ?_
        refine V_istore (L' := [(0, .ref (G.1 67)), (1, .ref (G.1 109)), (2, .int x2), (3, .int x3), (4, .int x4), (5, .int 0), (6, .int x6), (7, .int x7), (8, .int x8), (9, .int x9), (10, .int ((((100 * x8) + (h 109 (tn (x7 + 6)))) * 8) + x9))]) dX12_places_129 (by decide) rfl rfl ?_
        refine V_iinc (L' := [(0, .ref (G.1 67)), (1, .ref (G.1 109)), (2, .int x2), (3, .int x3), (4, .int x4), (5, .int 0), (6, .int x6), (7, .int x7), (8, .int x8), (9, .int (x9 + 1)), (10, .int ((((100 * x8) + (h 109 (tn (x7 + 6)))) * 8) + x9))]) (q := 9) (a := 1) dX12_places_131 rfl rfl (by decide) rfl rfl ?_
        refine V_goto (tgt := 57) dX12_places_134 (by decide) ?_
        refine V_pick (L' := [(0, .ref (G.1 67)), (1, .ref (G.1 109)), (2, .int x2), (3, .int x3), (4, .int x4), (5, .int 0), (6, .int x6), (7, .int x7), (8, .int x8), (9, .int (x9 + 1))]) [0, 1, 2, 3, 4, 5, 6, 7, 8, 9] rfl ?_
        exact t
      · have t := it_f q t
        refine V_iconst (v := 1) dX12_places_124 rfl ?_
        refine V_goto (tgt := 129) dX12_places_125 (by decide) ?_
        refine V_istore (L' := [(0, .ref (G.1 67)), (1, .ref (G.1 109)), (2, .int x2), (3, .int x3), (4, .int x4), (5, .int 1), (6, .int x6), (7, .int x7), (8, .int x8), (9, .int x9), (10, .int ((((100 * x8) + (h 109 (tn (x7 + 6)))) * 8) + x9))]) dX12_places_129 (by decide) rfl rfl ?_
        refine V_iinc (L' := [(0, .ref (G.1 67)), (1, .ref (G.1 109)), (2, .int x2), (3, .int x3), (4, .int x4), (5, .int 1), (6, .int x6), (7, .int x7), (8, .int x8), (9, .int (x9 + 1)), (10, .int ((((100 * x8) + (h 109 (tn (x7 + 6)))) * 8) + x9))]) (q := 9) (a := 1) dX12_places_131 rfl rfl (by decide) rfl rfl ?_
        refine V_goto (tgt := 57) dX12_places_134 (by decide) ?_
        refine V_pick (L' := [(0, .ref (G.1 67)), (1, .ref (G.1 109)), (2, .int x2), (3, .int x3), (4, .int x4), (5, .int 1), (6, .int x6), (7, .int x7), (8, .int x8), (9, .int (x9 + 1))]) [0, 1, 2, 3, 4, 5, 6, 7, 8, 9] rfl ?_
        exact t
set_option maxRecDepth 20000 in
set_option maxHeartbeats 4000000 in
theorem s_Model_give_0 (G : GA) (h : HP) (x1 : Int32) (K : Int32 → HP → Prop) (t :
  P_Model_isTicket G h x1 (fun (b2 : Bool) (h1 : HP) =>
    if b2 = true then (
      vp_in x1 30 ∧
      P_Model_places_109 G h1 (63 * x1) (h1 107 (tn x1)) (-1) (fun (b5 : Bool) (h4 : HP) =>
        ∀ h6 : HP, h6 = up h4 110 (tn x1) (b2i true) →
        K 1 h6
      )
    ) else (
      K (-2) h1
    )
  )) : P_Model_give G h x1 K := by
  refine Sp_of_V pf_X12_give (Nat.le_of_ble_eq_true rfl) rfl ?_
  refine V_aload_n (q := 0) dX12_give_0 rfl rfl ?_
  refine V_iload_n (q := 1) dX12_give_1 rfl rfl ?_
  refine V_callV [.int x1] [] g_X12_give_X12_isTicket wi_X12_isTicket ws_X12_isTicket dX12_give_2 rfl rfl rfl rfl rfl (Nat.le_of_ble_eq_true rfl) t (fun _ h1 t => ?_)
  obtain ⟨b2, rfl, t⟩ := t
  refine V_ifb_ne (tgt := 11) dX12_give_5 (by decide) (fun q => ?_) (fun q => ?_)
  · have t := it_t q t
    refine V_aload_n (q := 0) dX12_give_11 rfl rfl ?_
    refine V_aload_n (q := 0) dX12_give_12 rfl rfl ?_
    refine V_getr f_X12_134 dX12_give_13 rfl rfl ?_
    refine V_bipush (v := 63) dX12_give_16 rfl ?_
    refine V_iload_n (q := 1) dX12_give_18 rfl rfl ?_
    refine V_imul dX12_give_19 ?_
    refine V_aload_n (q := 0) dX12_give_20 rfl rfl ?_
    refine V_getr f_X12_128 dX12_give_21 rfl rfl ?_
    refine V_iload_n (q := 1) dX12_give_24 rfl rfl ?_
    obtain ⟨n3, t⟩ := t
    refine V_iald dX12_give_25 rfl n3 ?_
    refine V_iconst (v := (-1)) dX12_give_26 rfl ?_
    refine V_callV [.ref (G.1 109), .int (63 * x1), .int (h1 107 (tn x1)), .int (-1)] [] g_X12_give_X12_places wi_X12_places ws_X12_places dX12_give_27 rfl rfl rfl rfl rfl (Nat.le_of_ble_eq_true rfl) t (fun _ h4 t => ?_)
    obtain ⟨b5, rfl, t⟩ := t
    refine V_istore_n (L' := [(0, .ref (G.1 67)), (1, .int x1), (2, .int (b2i b5))]) dX12_give_30 rfl (by decide) rfl rfl ?_
    refine V_aload_n (q := 0) dX12_give_31 rfl rfl ?_
    refine V_getr f_X12_137 dX12_give_32 rfl rfl ?_
    refine V_iload_n (q := 1) dX12_give_35 rfl rfl ?_
    refine V_iconst (v := 1) dX12_give_36 rfl ?_
    have t := t _ rfl
    refine V_zast (b := true) dX12_give_37 rfl n3 ?_
    refine V_iconst (v := 1) dX12_give_38 rfl ?_
    exact V_iret rfl dX12_give_39 t
  · have t := it_f q t
    refine V_bipush (v := (-2)) dX12_give_8 rfl ?_
    exact V_iret rfl dX12_give_10 t
set_option maxRecDepth 20000 in
set_option maxHeartbeats 4000000 in
theorem s_Model_still_0 (G : GA) (h : HP) (x1 : Int32) (K : Int32 → HP → Prop) (t :
  P_Model_isTicket G h x1 (fun (b2 : Bool) (h1 : HP) =>
    if b2 = true then (
      vp_in x1 30 ∧
      H_Model_still_26 G h1 x1 (h1 108 (tn x1)) (h1 108 (tn x1)) false 0 K
    ) else (
      K (-2) h1
    )
  )) : P_Model_still G h x1 K := by
  refine Sp_of_V pf_X12_still (Nat.le_of_ble_eq_true rfl) rfl ?_
  refine V_aload_n (q := 0) dX12_still_0 rfl rfl ?_
  refine V_iload_n (q := 1) dX12_still_1 rfl rfl ?_
  refine V_callV [.int x1] [] g_X12_still_X12_isTicket wi_X12_isTicket ws_X12_isTicket dX12_still_2 rfl rfl rfl rfl rfl (Nat.le_of_ble_eq_true rfl) t (fun _ h1 t => ?_)
  obtain ⟨b2, rfl, t⟩ := t
  refine V_ifb_ne (tgt := 11) dX12_still_5 (by decide) (fun q => ?_) (fun q => ?_)
  · have t := it_t q t
    refine V_aload_n (q := 0) dX12_still_11 rfl rfl ?_
    refine V_getr f_X12_131 dX12_still_12 rfl rfl ?_
    refine V_iload_n (q := 1) dX12_still_15 rfl rfl ?_
    obtain ⟨n3, t⟩ := t
    refine V_iald dX12_still_16 rfl n3 ?_
    refine V_istore_n (L' := [(0, .ref (G.1 67)), (1, .int x1), (2, .int (h1 108 (tn x1)))]) dX12_still_17 rfl (by decide) rfl rfl ?_
    refine V_iload_n (q := 2) dX12_still_18 rfl rfl ?_
    refine V_istore_n (L' := [(0, .ref (G.1 67)), (1, .int x1), (2, .int (h1 108 (tn x1))), (3, .int (h1 108 (tn x1)))]) dX12_still_19 rfl (by decide) rfl rfl ?_
    refine V_iconst (v := 0) dX12_still_20 rfl ?_
    refine V_istore (L' := [(0, .ref (G.1 67)), (1, .int x1), (2, .int (h1 108 (tn x1))), (3, .int (h1 108 (tn x1))), (4, .int 0)]) dX12_still_21 (by decide) rfl rfl ?_
    refine V_iconst (v := 0) dX12_still_23 rfl ?_
    refine V_istore (L' := [(0, .ref (G.1 67)), (1, .int x1), (2, .int (h1 108 (tn x1))), (3, .int (h1 108 (tn x1))), (4, .int 0), (5, .int 0)]) dX12_still_24 (by decide) rfl rfl ?_
    exact t
  · have t := it_f q t
    refine V_bipush (v := (-2)) dX12_still_8 rfl ?_
    exact V_iret rfl dX12_still_10 t
set_option maxRecDepth 20000 in
set_option maxHeartbeats 4000000 in
theorem s_Model_still_26 (G : GA) (h : HP) (x1 : Int32) (x2 : Int32) (x3 : Int32) (x4 : Bool) (x5 : Int32) (K : Int32 → HP → Prop) (t :
  vp_in x1 30 ∧
  if (h 107 (tn x1)) ≤ x5 then (
    ∀ h2 : HP, h2 = up h 67 57 x3 →
    K 0 h2
  ) else (
    vp_in (((63 * x1) + (9 * x5)) + 1) 1890 ∧
    vp_in ((63 * x1) + (9 * x5)) 1890 ∧
    if (h 109 (tn ((63 * x1) + (9 * x5)))) ≤ 2 then (
      vp_in (((63 * x1) + (9 * x5)) + 6) 1890 ∧
      vp_in (((63 * x1) + (9 * x5)) + 7) 1890 ∧
      vp_in (((63 * x1) + (9 * x5)) + 8) 1890 ∧
      if x4 = true then (
        vp_in ((8 * (h 109 (tn (((63 * x1) + (9 * x5)) + 1)))) + (h 109 (tn (((63 * x1) + (9 * x5)) + 7)))) 192 ∧
        vp_in (h 76 (tn ((8 * (h 109 (tn (((63 * x1) + (9 * x5)) + 1)))) + (h 109 (tn (((63 * x1) + (9 * x5)) + 7)))))) 12 ∧
        H_Model_still_151 G h x1 x2 x5 (h 109 (tn (((63 * x1) + (9 * x5)) + 1))) (h 109 (tn (((63 * x1) + (9 * x5)) + 6))) (h 109 (tn (((63 * x1) + (9 * x5)) + 7))) (h 109 (tn (((63 * x1) + (9 * x5)) + 8))) (x3 + (h 68 (tn (h 76 (tn ((8 * (h 109 (tn (((63 * x1) + (9 * x5)) + 1)))) + (h 109 (tn (((63 * x1) + (9 * x5)) + 7))))))))) K
      ) else (
        H_Model_still_151 G h x1 x2 x5 (h 109 (tn (((63 * x1) + (9 * x5)) + 1))) (h 109 (tn (((63 * x1) + (9 * x5)) + 6))) (h 109 (tn (((63 * x1) + (9 * x5)) + 7))) (h 109 (tn (((63 * x1) + (9 * x5)) + 8))) x3 K
      )
    ) else (
      P_Model_behind G h (h 109 (tn (((63 * x1) + (9 * x5)) + 1))) x3 x2 (fun (r11 : Int32) (h10 : HP) =>
        H_Model_still_26 G h10 x1 x2 r11 false (x5 + 1) K
      )
    )
  )) : H_Model_still_26 G h x1 x2 x3 x4 x5 K := by
  unfold H_Model_still_26
  refine V_iload (q := 5) dX12_still_26 rfl ?_
  refine V_aload_n (q := 0) dX12_still_28 rfl rfl ?_
  refine V_getr f_X12_128 dX12_still_29 rfl rfl ?_
  refine V_iload_n (q := 1) dX12_still_32 rfl rfl ?_
  obtain ⟨n1, t⟩ := t
  refine V_iald dX12_still_33 rfl n1 ?_
  refine V_icmp_ge (tgt := 236) dX12_still_34 (by decide) (fun q => ?_) (fun q => ?_)
  · have t := it_t q t
    refine V_aload_n (q := 0) dX12_still_236 rfl rfl ?_
    refine V_iload_n (q := 3) dX12_still_237 rfl rfl ?_
    have t := t _ rfl
    refine V_put f_X12_289 p_X12_57 dX12_still_238 rfl rfl ?_
    refine V_iconst (v := 0) dX12_still_241 rfl ?_
    exact V_iret rfl dX12_still_242 t
  · have t := it_f q t
    refine V_bipush (v := 63) dX12_still_37 rfl ?_
    refine V_iload_n (q := 1) dX12_still_39 rfl rfl ?_
    refine V_imul dX12_still_40 ?_
    refine V_bipush (v := 9) dX12_still_41 rfl ?_
    refine V_iload (q := 5) dX12_still_43 rfl ?_
    refine V_imul dX12_still_45 ?_
    refine V_iadd dX12_still_46 ?_
    refine V_istore (L' := [(0, .ref (G.1 67)), (1, .int x1), (2, .int x2), (3, .int x3), (4, .int (b2i x4)), (5, .int x5), (6, .int ((63 * x1) + (9 * x5)))]) dX12_still_47 (by decide) rfl rfl ?_
    refine V_aload_n (q := 0) dX12_still_49 rfl rfl ?_
    refine V_getr f_X12_134 dX12_still_50 rfl rfl ?_
    refine V_iload (q := 6) dX12_still_53 rfl ?_
    refine V_iconst (v := 1) dX12_still_55 rfl ?_
    refine V_iadd dX12_still_56 ?_
    obtain ⟨n3, t⟩ := t
    refine V_iald dX12_still_57 rfl n3 ?_
    refine V_istore (L' := [(0, .ref (G.1 67)), (1, .int x1), (2, .int x2), (3, .int x3), (4, .int (b2i x4)), (5, .int x5), (6, .int ((63 * x1) + (9 * x5))), (7, .int (h 109 (tn (((63 * x1) + (9 * x5)) + 1))))]) dX12_still_58 (by decide) rfl rfl ?_
    refine V_aload_n (q := 0) dX12_still_60 rfl rfl ?_
    refine V_getr f_X12_134 dX12_still_61 rfl rfl ?_
    refine V_iload (q := 6) dX12_still_64 rfl ?_
    obtain ⟨n4, t⟩ := t
    refine V_iald dX12_still_66 rfl n4 ?_
    refine V_iconst (v := 2) dX12_still_67 rfl ?_
    refine V_icmp_le (tgt := 86) dX12_still_68 (by decide) (fun q => ?_) (fun q => ?_)
    · have t := it_t q t
      refine V_aload_n (q := 0) dX12_still_86 rfl rfl ?_
      refine V_getr f_X12_134 dX12_still_87 rfl rfl ?_
      refine V_iload (q := 6) dX12_still_90 rfl ?_
      refine V_bipush (v := 6) dX12_still_92 rfl ?_
      refine V_iadd dX12_still_94 ?_
      obtain ⟨n5, t⟩ := t
      refine V_iald dX12_still_95 rfl n5 ?_
      refine V_istore (L' := [(0, .ref (G.1 67)), (1, .int x1), (2, .int x2), (3, .int x3), (4, .int (b2i x4)), (5, .int x5), (6, .int ((63 * x1) + (9 * x5))), (7, .int (h 109 (tn (((63 * x1) + (9 * x5)) + 1)))), (8, .int (h 109 (tn (((63 * x1) + (9 * x5)) + 6))))]) dX12_still_96 (by decide) rfl rfl ?_
      refine V_aload_n (q := 0) dX12_still_98 rfl rfl ?_
      refine V_getr f_X12_134 dX12_still_99 rfl rfl ?_
      refine V_iload (q := 6) dX12_still_102 rfl ?_
      refine V_bipush (v := 7) dX12_still_104 rfl ?_
      refine V_iadd dX12_still_106 ?_
      obtain ⟨n6, t⟩ := t
      refine V_iald dX12_still_107 rfl n6 ?_
      refine V_istore (L' := [(0, .ref (G.1 67)), (1, .int x1), (2, .int x2), (3, .int x3), (4, .int (b2i x4)), (5, .int x5), (6, .int ((63 * x1) + (9 * x5))), (7, .int (h 109 (tn (((63 * x1) + (9 * x5)) + 1)))), (8, .int (h 109 (tn (((63 * x1) + (9 * x5)) + 6)))), (9, .int (h 109 (tn (((63 * x1) + (9 * x5)) + 7))))]) dX12_still_108 (by decide) rfl rfl ?_
      refine V_aload_n (q := 0) dX12_still_110 rfl rfl ?_
      refine V_getr f_X12_134 dX12_still_111 rfl rfl ?_
      refine V_iload (q := 6) dX12_still_114 rfl ?_
      refine V_bipush (v := 8) dX12_still_116 rfl ?_
      refine V_iadd dX12_still_118 ?_
      obtain ⟨n7, t⟩ := t
      refine V_iald dX12_still_119 rfl n7 ?_
      refine V_istore (L' := [(0, .ref (G.1 67)), (1, .int x1), (2, .int x2), (3, .int x3), (4, .int (b2i x4)), (5, .int x5), (6, .int ((63 * x1) + (9 * x5))), (7, .int (h 109 (tn (((63 * x1) + (9 * x5)) + 1)))), (8, .int (h 109 (tn (((63 * x1) + (9 * x5)) + 6)))), (9, .int (h 109 (tn (((63 * x1) + (9 * x5)) + 7)))), (10, .int (h 109 (tn (((63 * x1) + (9 * x5)) + 8))))]) dX12_still_120 (by decide) rfl rfl ?_
      refine V_iload (q := 4) dX12_still_122 rfl ?_
      refine V_ifb_eq (tgt := 150) dX12_still_124 (by decide) (fun q => ?_) (fun q => ?_)
      · have t := it_f q t
        refine V_iload_n (q := 3) dX12_still_150 rfl rfl ?_
        refine V_pick (L' := [(0, .ref (G.1 67)), (1, .int x1), (2, .int x2), (5, .int x5), (7, .int (h 109 (tn (((63 * x1) + (9 * x5)) + 1)))), (8, .int (h 109 (tn (((63 * x1) + (9 * x5)) + 6)))), (9, .int (h 109 (tn (((63 * x1) + (9 * x5)) + 7)))), (10, .int (h 109 (tn (((63 * x1) + (9 * x5)) + 8))))]) [0, 1, 2, 5, 7, 8, 9, 10] rfl ?_
        exact t
      · have t := it_t q t
        refine V_iload_n (q := 3) dX12_still_127 rfl rfl ?_
        refine V_aload_n (q := 0) dX12_still_128 rfl rfl ?_
        refine V_getr f_X12_7 dX12_still_129 rfl rfl ?_
        refine V_aload_n (q := 0) dX12_still_132 rfl rfl ?_
        refine V_getr f_X12_34 dX12_still_133 rfl rfl ?_
        refine V_bipush (v := 8) dX12_still_136 rfl ?_
        refine V_iload (q := 7) dX12_still_138 rfl ?_
        refine V_imul dX12_still_140 ?_
        refine V_iload (q := 9) dX12_still_141 rfl ?_
        refine V_iadd dX12_still_143 ?_
        obtain ⟨n8, t⟩ := t
        refine V_iald dX12_still_144 rfl n8 ?_
        obtain ⟨n9, t⟩ := t
        refine V_iald dX12_still_145 rfl n9 ?_
        refine V_iadd dX12_still_146 ?_
        refine V_goto (tgt := 151) dX12_still_147 (by decide) ?_
        refine V_pick (L' := [(0, .ref (G.1 67)), (1, .int x1), (2, .int x2), (5, .int x5), (7, .int (h 109 (tn (((63 * x1) + (9 * x5)) + 1)))), (8, .int (h 109 (tn (((63 * x1) + (9 * x5)) + 6)))), (9, .int (h 109 (tn (((63 * x1) + (9 * x5)) + 7)))), (10, .int (h 109 (tn (((63 * x1) + (9 * x5)) + 8))))]) [0, 1, 2, 5, 7, 8, 9, 10] rfl ?_
        exact t
    · have t := it_f q t
      refine V_aload_n (q := 0) dX12_still_71 rfl rfl ?_
      refine V_iload (q := 7) dX12_still_72 rfl ?_
      refine V_iload_n (q := 3) dX12_still_74 rfl rfl ?_
      refine V_iload_n (q := 2) dX12_still_75 rfl rfl ?_
      refine V_callV [.int (h 109 (tn (((63 * x1) + (9 * x5)) + 1))), .int x3, .int x2] [] g_X12_still_X12_behind wi_X12_behind ws_X12_behind dX12_still_76 rfl rfl rfl rfl rfl (Nat.le_of_ble_eq_true rfl) t (fun _ h10 t => ?_)
      obtain ⟨r11, rfl, t⟩ := t
      refine V_istore_n (L' := [(0, .ref (G.1 67)), (1, .int x1), (2, .int x2), (3, .int r11), (4, .int (b2i x4)), (5, .int x5), (6, .int ((63 * x1) + (9 * x5))), (7, .int (h 109 (tn (((63 * x1) + (9 * x5)) + 1))))]) dX12_still_79 rfl (by decide) rfl rfl ?_
      refine V_iconst (v := 0) dX12_still_80 rfl ?_
      refine V_istore (L' := [(0, .ref (G.1 67)), (1, .int x1), (2, .int x2), (3, .int r11), (4, .int 0), (5, .int x5), (6, .int ((63 * x1) + (9 * x5))), (7, .int (h 109 (tn (((63 * x1) + (9 * x5)) + 1))))]) dX12_still_81 (by decide) rfl rfl ?_
      refine V_goto (tgt := 230) dX12_still_83 (by decide) ?_
      refine V_iinc (L' := [(0, .ref (G.1 67)), (1, .int x1), (2, .int x2), (3, .int r11), (4, .int 0), (5, .int (x5 + 1)), (6, .int ((63 * x1) + (9 * x5))), (7, .int (h 109 (tn (((63 * x1) + (9 * x5)) + 1))))]) (q := 5) (a := 1) dX12_still_230 rfl rfl (by decide) rfl rfl ?_
      refine V_goto (tgt := 26) dX12_still_233 (by decide) ?_
      refine V_pick (L' := [(0, .ref (G.1 67)), (1, .int x1), (2, .int x2), (3, .int r11), (4, .int 0), (5, .int (x5 + 1))]) [0, 1, 2, 3, 4, 5] rfl ?_
      exact t
set_option maxRecDepth 20000 in
set_option maxHeartbeats 4000000 in
theorem s_Model_still_151 (G : GA) (h : HP) (x1 : Int32) (x2 : Int32) (x5 : Int32) (x7 : Int32) (x8 : Int32) (x9 : Int32) (x10 : Int32) (y0 : Int32) (K : Int32 → HP → Prop) (t :
  P_Model_runs G h x7 x8 (fun (b2 : Bool) (h1 : HP) =>
    if b2 = true then (
      vp_in ((8 * x7) + x9) 192 ∧
      if (h1 79 (tn ((8 * x7) + x9))) = 0 then (
        vp_in ((8 * x7) + x10) 192 ∧
        if (h1 79 (tn ((8 * x7) + x10))) = 0 then (
          P_Model_leavesAt G h1 x7 x8 x9 (fun (r6 : Int32) (h5 : HP) =>
            if y0 ≤ r6 then (
              P_Model_comesAt G h5 x7 x8 x10 (fun (r8 : Int32) (h7 : HP) =>
                H_Model_still_26 G h7 x1 x2 r8 true (x5 + 1) K
              )
            ) else (
              K (1 + x5) h5
            )
          )
        ) else (
          K (1 + x5) h1
        )
      ) else (
        K (1 + x5) h1
      )
    ) else (
      K (1 + x5) h1
    )
  )) : H_Model_still_151 G h x1 x2 x5 x7 x8 x9 x10 y0 K := by
  unfold H_Model_still_151
  refine V_istore (L' := [(0, .ref (G.1 67)), (1, .int x1), (2, .int x2), (5, .int x5), (7, .int x7), (8, .int x8), (9, .int x9), (10, .int x10), (11, .int y0)]) dX12_still_151 (by decide) rfl rfl ?_
  refine V_aload_n (q := 0) dX12_still_153 rfl rfl ?_
  refine V_iload (q := 4) dX12_still_154 rfl ?_
  refine V_iload (q := 5) dX12_still_156 rfl ?_
  refine V_callV [.int x7, .int x8] [] g_X12_still_X12_runs wi_X12_runs ws_X12_runs dX12_still_158 rfl rfl rfl rfl rfl (Nat.le_of_ble_eq_true rfl) t (fun _ h1 t => ?_)
  obtain ⟨b2, rfl, t⟩ := t
  refine V_ifb_eq (tgt := 211) dX12_still_161 (by decide) (fun q => ?_) (fun q => ?_)
  · have t := it_f q t
    refine V_iconst (v := 1) dX12_still_211 rfl ?_
    refine V_iload (q := 3) dX12_still_212 rfl ?_
    refine V_iadd dX12_still_214 ?_
    exact V_iret rfl dX12_still_215 t
  · have t := it_t q t
    refine V_aload_n (q := 0) dX12_still_164 rfl rfl ?_
    refine V_getr f_X12_43 dX12_still_165 rfl rfl ?_
    refine V_bipush (v := 8) dX12_still_168 rfl ?_
    refine V_iload (q := 4) dX12_still_170 rfl ?_
    refine V_imul dX12_still_172 ?_
    refine V_iload (q := 6) dX12_still_173 rfl ?_
    refine V_iadd dX12_still_175 ?_
    obtain ⟨n3, t⟩ := t
    refine V_zald dX12_still_176 rfl n3 ?_
    refine V_if_ne (tgt := 211) dX12_still_177 (by decide) (fun q => ?_) (fun q => ?_)
    · have t := it_f q t
      refine V_iconst (v := 1) dX12_still_211 rfl ?_
      refine V_iload (q := 3) dX12_still_212 rfl ?_
      refine V_iadd dX12_still_214 ?_
      exact V_iret rfl dX12_still_215 t
    · have t := it_t q t
      refine V_aload_n (q := 0) dX12_still_180 rfl rfl ?_
      refine V_getr f_X12_43 dX12_still_181 rfl rfl ?_
      refine V_bipush (v := 8) dX12_still_184 rfl ?_
      refine V_iload (q := 4) dX12_still_186 rfl ?_
      refine V_imul dX12_still_188 ?_
      refine V_iload (q := 7) dX12_still_189 rfl ?_
      refine V_iadd dX12_still_191 ?_
      obtain ⟨n4, t⟩ := t
      refine V_zald dX12_still_192 rfl n4 ?_
      refine V_if_ne (tgt := 211) dX12_still_193 (by decide) (fun q => ?_) (fun q => ?_)
      · have t := it_f q t
        refine V_iconst (v := 1) dX12_still_211 rfl ?_
        refine V_iload (q := 3) dX12_still_212 rfl ?_
        refine V_iadd dX12_still_214 ?_
        exact V_iret rfl dX12_still_215 t
      · have t := it_t q t
        refine V_aload_n (q := 0) dX12_still_196 rfl rfl ?_
        refine V_iload (q := 4) dX12_still_197 rfl ?_
        refine V_iload (q := 5) dX12_still_199 rfl ?_
        refine V_iload (q := 6) dX12_still_201 rfl ?_
        refine V_callV [.int x7, .int x8, .int x9] [] g_X12_still_X12_leavesAt wi_X12_leavesAt ws_X12_leavesAt dX12_still_203 rfl rfl rfl rfl rfl (Nat.le_of_ble_eq_true rfl) t (fun _ h5 t => ?_)
        obtain ⟨r6, rfl, t⟩ := t
        refine V_iload (q := 8) dX12_still_206 rfl ?_
        refine V_icmp_ge (tgt := 216) dX12_still_208 (by decide) (fun q => ?_) (fun q => ?_)
        · have t := it_t q t
          refine V_aload_n (q := 0) dX12_still_216 rfl rfl ?_
          refine V_iload (q := 4) dX12_still_217 rfl ?_
          refine V_iload (q := 5) dX12_still_219 rfl ?_
          refine V_iload (q := 7) dX12_still_221 rfl ?_
          refine V_callV [.int x7, .int x8, .int x10] [] g_X12_still_X12_comesAt wi_X12_comesAt ws_X12_comesAt dX12_still_223 rfl rfl rfl rfl rfl (Nat.le_of_ble_eq_true rfl) t (fun _ h7 t => ?_)
          obtain ⟨r8, rfl, t⟩ := t
          refine V_istore_n (L' := [(0, .ref (G.1 67)), (1, .int x1), (2, .int x2), (5, .int x5), (7, .int x7), (8, .int x8), (9, .int x9), (10, .int x10), (11, .int y0), (3, .int r8)]) dX12_still_226 rfl (by decide) rfl rfl ?_
          refine V_iconst (v := 1) dX12_still_227 rfl ?_
          refine V_istore (L' := [(0, .ref (G.1 67)), (1, .int x1), (2, .int x2), (5, .int x5), (7, .int x7), (8, .int x8), (9, .int x9), (10, .int x10), (11, .int y0), (3, .int r8), (4, .int 1)]) dX12_still_228 (by decide) rfl rfl ?_
          refine V_iinc (L' := [(0, .ref (G.1 67)), (1, .int x1), (2, .int x2), (5, .int (x5 + 1)), (7, .int x7), (8, .int x8), (9, .int x9), (10, .int x10), (11, .int y0), (3, .int r8), (4, .int 1)]) (q := 3) (a := 1) dX12_still_230 rfl rfl (by decide) rfl rfl ?_
          refine V_goto (tgt := 26) dX12_still_233 (by decide) ?_
          refine V_pick (L' := [(0, .ref (G.1 67)), (1, .int x1), (2, .int x2), (3, .int r8), (4, .int 1), (5, .int (x5 + 1))]) [0, 1, 2, 9, 10, 3] rfl ?_
          exact t
        · have t := it_f q t
          refine V_iconst (v := 1) dX12_still_211 rfl ?_
          refine V_iload (q := 3) dX12_still_212 rfl ?_
          refine V_iadd dX12_still_214 ?_
          exact V_iret rfl dX12_still_215 t
set_option maxRecDepth 20000 in
set_option maxHeartbeats 4000000 in
theorem s_Model_comes_0 (G : GA) (h : HP) (x1 : Int32) (K : Int32 → HP → Prop) (t :
  P_Model_still G h x1 (fun (r2 : Int32) (h1 : HP) =>
    if r2 = (-2) then (
      K (-2) h1
    ) else (
      if r2 ≤ 0 then (
        K (h1 67 57) h1
      ) else (
        K (-1) h1
      )
    )
  )) : P_Model_comes G h x1 K := by
  refine Sp_of_V pf_X12_comes (Nat.le_of_ble_eq_true rfl) rfl ?_
  refine V_aload_n (q := 0) dX12_comes_0 rfl rfl ?_
  refine V_iload_n (q := 1) dX12_comes_1 rfl rfl ?_
  refine V_callV [.int x1] [] g_X12_comes_X12_still wi_X12_still ws_X12_still dX12_comes_2 rfl rfl rfl rfl rfl (Nat.le_of_ble_eq_true rfl) t (fun _ h1 t => ?_)
  obtain ⟨r2, rfl, t⟩ := t
  refine V_istore_n (L' := [(0, .ref (G.1 67)), (1, .int x1), (2, .int r2)]) dX12_comes_5 rfl (by decide) rfl rfl ?_
  refine V_iload_n (q := 2) dX12_comes_6 rfl rfl ?_
  refine V_bipush (v := (-2)) dX12_comes_7 rfl ?_
  refine V_icmp_ne (tgt := 17) dX12_comes_9 (by decide) (fun q => ?_) (fun q => ?_)
  · have t := it_f q t
    refine V_iload_n (q := 2) dX12_comes_17 rfl rfl ?_
    refine V_if_le (tgt := 25) dX12_comes_18 (by decide) (fun q => ?_) (fun q => ?_)
    · have t := it_t q t
      refine V_aload_n (q := 0) dX12_comes_25 rfl rfl ?_
      refine V_geti f_X12_289 dX12_comes_26 rfl rfl ?_
      exact V_iret rfl dX12_comes_29 t
    · have t := it_f q t
      refine V_iconst (v := (-1)) dX12_comes_21 rfl ?_
      refine V_goto (tgt := 29) dX12_comes_22 (by decide) ?_
      exact V_iret rfl dX12_comes_29 t
  · have t := it_t q t
    refine V_bipush (v := (-2)) dX12_comes_12 rfl ?_
    refine V_goto (tgt := 29) dX12_comes_14 (by decide) ?_
    exact V_iret rfl dX12_comes_29 t
set_option maxRecDepth 20000 in
set_option maxHeartbeats 4000000 in
theorem s_Model_taken_0 (G : GA) (h : HP) (x1 : Int32) (x2 : Int32) (x3 : Int32) (K : Int32 → HP → Prop) (t :
  P_Model_isCall G h x1 x3 (fun (b2 : Bool) (h1 : HP) =>
    if b2 = true then (
      P_Model_isDay G h1 x2 (fun (b4 : Bool) (h3 : HP) =>
        if b4 = true then (
          vp_in ((((100 * x1) + x2) * 8) + x3) 19200 ∧
          K (h3 93 (tn ((((100 * x1) + x2) * 8) + x3))) h3
        ) else (
          K (-2) h3
        )
      )
    ) else (
      K (-2) h1
    )
  )) : P_Model_taken G h x1 x2 x3 K := by
  refine Sp_of_V pf_X12_taken (Nat.le_of_ble_eq_true rfl) rfl ?_
  refine V_aload_n (q := 0) dX12_taken_0 rfl rfl ?_
  refine V_iload_n (q := 1) dX12_taken_1 rfl rfl ?_
  refine V_iload_n (q := 3) dX12_taken_2 rfl rfl ?_
  refine V_callV [.int x1, .int x3] [] g_X12_taken_X12_isCall wi_X12_isCall ws_X12_isCall dX12_taken_3 rfl rfl rfl rfl rfl (Nat.le_of_ble_eq_true rfl) t (fun _ h1 t => ?_)
  obtain ⟨b2, rfl, t⟩ := t
  refine V_ifb_eq (tgt := 35) dX12_taken_6 (by decide) (fun q => ?_) (fun q => ?_)
  · have t := it_f q t
    refine V_bipush (v := (-2)) dX12_taken_35 rfl ?_
    exact V_iret rfl dX12_taken_37 t
  · have t := it_t q t
    refine V_iload_n (q := 2) dX12_taken_9 rfl rfl ?_
    refine V_callS [.int x2] [] g_X12_taken_X12_isDay wt_X12_isDay dX12_taken_10 rfl rfl (Nat.le_of_ble_eq_true rfl) t (fun _ h3 t => ?_)
    obtain ⟨b4, rfl, t⟩ := t
    refine V_ifb_eq (tgt := 35) dX12_taken_13 (by decide) (fun q => ?_) (fun q => ?_)
    · have t := it_f q t
      refine V_bipush (v := (-2)) dX12_taken_35 rfl ?_
      exact V_iret rfl dX12_taken_37 t
    · have t := it_t q t
      refine V_aload_n (q := 0) dX12_taken_16 rfl rfl ?_
      refine V_getr f_X12_86 dX12_taken_17 rfl rfl ?_
      refine V_bipush (v := 100) dX12_taken_20 rfl ?_
      refine V_iload_n (q := 1) dX12_taken_22 rfl rfl ?_
      refine V_imul dX12_taken_23 ?_
      refine V_iload_n (q := 2) dX12_taken_24 rfl rfl ?_
      refine V_iadd dX12_taken_25 ?_
      refine V_bipush (v := 8) dX12_taken_26 rfl ?_
      refine V_imul dX12_taken_28 ?_
      refine V_iload_n (q := 3) dX12_taken_29 rfl rfl ?_
      refine V_iadd dX12_taken_30 ?_
      obtain ⟨n5, t⟩ := t
      refine V_iald dX12_taken_31 rfl n5 ?_
      refine V_goto (tgt := 37) dX12_taken_32 (by decide) ?_
      exact V_iret rfl dX12_taken_37 t
set_option maxRecDepth 20000 in
set_option maxHeartbeats 4000000 in
theorem s_Model_soonestOf_0 (G : GA) (h : HP) (x1 : Int32) (K : Int32 → HP → Prop) (t :
  H_Model_soonestOf_5 G h x1 1000000000 0 K) : P_Model_soonestOf G h x1 K := by
  refine Sp_of_V pf_X12_soonestOf (Nat.le_of_ble_eq_true rfl) rfl ?_
  refine V_ldc (v := 1000000000) dX12_soonestOf_0 k_X12_208 ?_
  refine V_istore_n (L' := [(0, .ref (G.1 67)), (1, .int x1), (2, .int 1000000000)]) dX12_soonestOf_2 rfl (by decide) rfl rfl ?_
  refine V_iconst (v := 0) dX12_soonestOf_3 rfl ?_
  refine V_istore_n (L' := [(0, .ref (G.1 67)), (1, .int x1), (2, .int 1000000000), (3, .int 0)]) dX12_soonestOf_4 rfl (by decide) rfl rfl ?_
  exact t
set_option maxRecDepth 20000 in
set_option maxHeartbeats 4000000 in
theorem s_Model_soonestOf_5 (G : GA) (h : HP) (x1 : Int32) (x2 : Int32) (x3 : Int32) (K : Int32 → HP → Prop) (t :
  if 4 ≤ x3 then (
    K x2 h
  ) else (
    H_Model_soonestOf_13 G h x1 x2 x3 0 K
  )) : H_Model_soonestOf_5 G h x1 x2 x3 K := by
  unfold H_Model_soonestOf_5
  refine V_iload_n (q := 3) dX12_soonestOf_5 rfl rfl ?_
  refine V_iconst (v := 4) dX12_soonestOf_6 rfl ?_
  refine V_icmp_ge (tgt := 55) dX12_soonestOf_7 (by decide) (fun q => ?_) (fun q => ?_)
  · have t := it_t q t
    refine V_iload_n (q := 2) dX12_soonestOf_55 rfl rfl ?_
    exact V_iret rfl dX12_soonestOf_56 t
  · have t := it_f q t
    refine V_iconst (v := 0) dX12_soonestOf_10 rfl ?_
    refine V_istore (L' := [(0, .ref (G.1 67)), (1, .int x1), (2, .int x2), (3, .int x3), (4, .int 0)]) dX12_soonestOf_11 (by decide) rfl rfl ?_
    exact t
set_option maxRecDepth 20000 in
set_option maxHeartbeats 4000000 in
theorem s_Model_soonestOf_13 (G : GA) (h : HP) (x1 : Int32) (x2 : Int32) (x3 : Int32) (x4 : Int32) (K : Int32 → HP → Prop) (t :
  if 28 ≤ x4 then (
    H_Model_soonestOf_5 G h x1 x2 (x3 + 1) K
  ) else (
    P_Model_arrival G h x3 x4 x1 (fun (r2 : Int32) (h1 : HP) =>
      if x2 ≤ r2 then (
        H_Model_soonestOf_13 G h1 x1 x2 x3 (x4 + 1) K
      ) else (
        H_Model_soonestOf_13 G h1 x1 r2 x3 (x4 + 1) K
      )
    )
  )) : H_Model_soonestOf_13 G h x1 x2 x3 x4 K := by
  unfold H_Model_soonestOf_13
  refine V_iload (q := 4) dX12_soonestOf_13 rfl ?_
  refine V_bipush (v := 28) dX12_soonestOf_15 rfl ?_
  refine V_icmp_ge (tgt := 49) dX12_soonestOf_17 (by decide) (fun q => ?_) (fun q => ?_)
  · have t := it_t q t
    refine V_iinc (L' := [(0, .ref (G.1 67)), (1, .int x1), (2, .int x2), (3, .int (x3 + 1)), (4, .int x4)]) (q := 3) (a := 1) dX12_soonestOf_49 rfl rfl (by decide) rfl rfl ?_
    refine V_goto (tgt := 5) dX12_soonestOf_52 (by decide) ?_
    refine V_pick (L' := [(0, .ref (G.1 67)), (1, .int x1), (2, .int x2), (3, .int (x3 + 1))]) [0, 1, 2, 3] rfl ?_
    exact t
  · have t := it_f q t
    refine V_aload_n (q := 0) dX12_soonestOf_20 rfl rfl ?_
    refine V_iload_n (q := 3) dX12_soonestOf_21 rfl rfl ?_
    refine V_iload (q := 4) dX12_soonestOf_22 rfl ?_
    refine V_iload_n (q := 1) dX12_soonestOf_24 rfl rfl ?_
    refine V_callV [.int x3, .int x4, .int x1] [] g_X12_soonestOf_X12_arrival wi_X12_arrival ws_X12_arrival dX12_soonestOf_25 rfl rfl rfl rfl rfl (Nat.le_of_ble_eq_true rfl) t (fun _ h1 t => ?_)
    obtain ⟨r2, rfl, t⟩ := t
    refine V_istore (L' := [(0, .ref (G.1 67)), (1, .int x1), (2, .int x2), (3, .int x3), (4, .int x4), (5, .int r2)]) dX12_soonestOf_28 (by decide) rfl rfl ?_
    refine V_iload (q := 5) dX12_soonestOf_30 rfl ?_
    refine V_iload_n (q := 2) dX12_soonestOf_32 rfl rfl ?_
    refine V_icmp_ge (tgt := 41) dX12_soonestOf_33 (by decide) (fun q => ?_) (fun q => ?_)
    · have t := it_t q t
      refine V_iload_n (q := 2) dX12_soonestOf_41 rfl rfl ?_
      refine V_istore_n (L' := [(0, .ref (G.1 67)), (1, .int x1), (2, .int x2), (3, .int x3), (4, .int x4), (5, .int r2)]) dX12_soonestOf_42 rfl (by decide) rfl rfl ?_
      refine V_iinc (L' := [(0, .ref (G.1 67)), (1, .int x1), (2, .int x2), (3, .int x3), (4, .int (x4 + 1)), (5, .int r2)]) (q := 4) (a := 1) dX12_soonestOf_43 rfl rfl (by decide) rfl rfl ?_
      refine V_goto (tgt := 13) dX12_soonestOf_46 (by decide) ?_
      refine V_pick (L' := [(0, .ref (G.1 67)), (1, .int x1), (2, .int x2), (3, .int x3), (4, .int (x4 + 1))]) [0, 1, 2, 3, 4] rfl ?_
      exact t
    · have t := it_f q t
      refine V_iload (q := 5) dX12_soonestOf_36 rfl ?_
      refine V_goto (tgt := 42) dX12_soonestOf_38 (by decide) ?_
      refine V_istore_n (L' := [(0, .ref (G.1 67)), (1, .int x1), (2, .int r2), (3, .int x3), (4, .int x4), (5, .int r2)]) dX12_soonestOf_42 rfl (by decide) rfl rfl ?_
      refine V_iinc (L' := [(0, .ref (G.1 67)), (1, .int x1), (2, .int r2), (3, .int x3), (4, .int (x4 + 1)), (5, .int r2)]) (q := 4) (a := 1) dX12_soonestOf_43 rfl rfl (by decide) rfl rfl ?_
      refine V_goto (tgt := 13) dX12_soonestOf_46 (by decide) ?_
      refine V_pick (L' := [(0, .ref (G.1 67)), (1, .int x1), (2, .int r2), (3, .int x3), (4, .int (x4 + 1))]) [0, 1, 2, 3, 4] rfl ?_
      exact t
set_option maxRecDepth 20000 in
set_option maxHeartbeats 4000000 in
theorem s_Model_isInTime_0 (G : GA) (h : HP) (x1 : Int32) (x2 : Int32) (x3 : Int32) (x4 : Int32) (K : Bool → HP → Prop) (t :
  P_Model_go G h x1 x3 (fun h1 : HP =>
    P_Model_soonestOf G h1 x2 (fun (r3 : Int32) (h2 : HP) =>
      if 1000000000 ≤ r3 then (
        K false h2
      ) else (
        if x4 < r3 then (
          K false h2
        ) else (
          K true h2
        )
      )
    )
  )) : P_Model_isInTime G h x1 x2 x3 x4 K := by
  refine Sp_of_V pf_X12_isInTime (Nat.le_of_ble_eq_true rfl) rfl ?_
  refine V_aload_n (q := 0) dX12_isInTime_0 rfl rfl ?_
  refine V_iload_n (q := 1) dX12_isInTime_1 rfl rfl ?_
  refine V_iload_n (q := 3) dX12_isInTime_2 rfl rfl ?_
  refine V_callV [.int x1, .int x3] [] g_X12_isInTime_X12_go wi_X12_go ws_X12_go dX12_isInTime_3 rfl rfl rfl rfl rfl (Nat.le_of_ble_eq_true rfl) t (fun _ h1 t => ?_)
  obtain ⟨rfl, t⟩ := t
  refine V_aload_n (q := 0) dX12_isInTime_6 rfl rfl ?_
  refine V_iload_n (q := 2) dX12_isInTime_7 rfl rfl ?_
  refine V_callV [.int x2] [] g_X12_isInTime_X12_soonestOf wi_X12_soonestOf ws_X12_soonestOf dX12_isInTime_8 rfl rfl rfl rfl rfl (Nat.le_of_ble_eq_true rfl) t (fun _ h2 t => ?_)
  obtain ⟨r3, rfl, t⟩ := t
  refine V_istore (L' := [(0, .ref (G.1 67)), (1, .int x1), (2, .int x2), (3, .int x3), (4, .int x4), (5, .int r3)]) dX12_isInTime_11 (by decide) rfl rfl ?_
  refine V_iload (q := 5) dX12_isInTime_13 rfl ?_
  refine V_ldc (v := 1000000000) dX12_isInTime_15 k_X12_208 ?_
  refine V_icmp_ge (tgt := 31) dX12_isInTime_17 (by decide) (fun q => ?_) (fun q => ?_)
  · have t := it_t q t
    refine V_iconst (v := 0) dX12_isInTime_31 rfl ?_
    exact V_zret (b := false) rfl dX12_isInTime_32 t
  · have t := it_f q t
    refine V_iload (q := 5) dX12_isInTime_20 rfl ?_
    refine V_iload (q := 4) dX12_isInTime_22 rfl ?_
    refine V_icmp_gt (tgt := 31) dX12_isInTime_24 (by decide) (fun q => ?_) (fun q => ?_)
    · have t := it_t q t
      refine V_iconst (v := 0) dX12_isInTime_31 rfl ?_
      exact V_zret (b := false) rfl dX12_isInTime_32 t
    · have t := it_f q t
      refine V_iconst (v := 1) dX12_isInTime_27 rfl ?_
      refine V_goto (tgt := 32) dX12_isInTime_28 (by decide) ?_
      exact V_zret (b := true) rfl dX12_isInTime_32 t
set_option maxRecDepth 20000 in
set_option maxHeartbeats 4000000 in
theorem s_Model_latest_0 (G : GA) (h : HP) (x1 : Int32) (x2 : Int32) (x3 : Int32) (x4 : Int32) (K : Int32 → HP → Prop) (t :
  P_Model_isStop G h x1 (fun (b2 : Bool) (h1 : HP) =>
    if b2 = true then (
      P_Model_isStop G h1 x2 (fun (b4 : Bool) (h3 : HP) =>
        if b4 = true then (
          P_Model_isDay G h3 x3 (fun (b6 : Bool) (h5 : HP) =>
            if b6 = true then (
              P_Model_look G h5 x3 0 (fun h7 : HP =>
                P_Model_isInTime G h7 x1 x2 (1440 * x3) x4 (fun (b9 : Bool) (h8 : HP) =>
                  if b9 = true then (
                    H_Model_latest_58 G h8 x1 x2 x3 x4 0 1440 K
                  ) else (
                    K (-1) h8
                  )
                )
              )
            ) else (
              K (-2) h5
            )
          )
        ) else (
          K (-2) h3
        )
      )
    ) else (
      K (-2) h1
    )
  )) : P_Model_latest G h x1 x2 x3 x4 K := by
  refine Sp_of_V pf_X12_latest (Nat.le_of_ble_eq_true rfl) rfl ?_
  refine V_aload_n (q := 0) dX12_latest_0 rfl rfl ?_
  refine V_iload_n (q := 1) dX12_latest_1 rfl rfl ?_
  refine V_callV [.int x1] [] g_X12_latest_X12_isStop wi_X12_isStop ws_X12_isStop dX12_latest_2 rfl rfl rfl rfl rfl (Nat.le_of_ble_eq_true rfl) t (fun _ h1 t => ?_)
  obtain ⟨b2, rfl, t⟩ := t
  refine V_ifb_eq (tgt := 23) dX12_latest_5 (by decide) (fun q => ?_) (fun q => ?_)
  · have t := it_f q t
    refine V_bipush (v := (-2)) dX12_latest_23 rfl ?_
    exact V_iret rfl dX12_latest_25 t
  · have t := it_t q t
    refine V_aload_n (q := 0) dX12_latest_8 rfl rfl ?_
    refine V_iload_n (q := 2) dX12_latest_9 rfl rfl ?_
    refine V_callV [.int x2] [] g_X12_latest_X12_isStop wi_X12_isStop ws_X12_isStop dX12_latest_10 rfl rfl rfl rfl rfl (Nat.le_of_ble_eq_true rfl) t (fun _ h3 t => ?_)
    obtain ⟨b4, rfl, t⟩ := t
    refine V_ifb_eq (tgt := 23) dX12_latest_13 (by decide) (fun q => ?_) (fun q => ?_)
    · have t := it_f q t
      refine V_bipush (v := (-2)) dX12_latest_23 rfl ?_
      exact V_iret rfl dX12_latest_25 t
    · have t := it_t q t
      refine V_iload_n (q := 3) dX12_latest_16 rfl rfl ?_
      refine V_callS [.int x3] [] g_X12_latest_X12_isDay wt_X12_isDay dX12_latest_17 rfl rfl (Nat.le_of_ble_eq_true rfl) t (fun _ h5 t => ?_)
      obtain ⟨b6, rfl, t⟩ := t
      refine V_ifb_ne (tgt := 26) dX12_latest_20 (by decide) (fun q => ?_) (fun q => ?_)
      · have t := it_t q t
        refine V_aload_n (q := 0) dX12_latest_26 rfl rfl ?_
        refine V_iload_n (q := 3) dX12_latest_27 rfl rfl ?_
        refine V_iconst (v := 0) dX12_latest_28 rfl ?_
        refine V_callV [.int x3, .int 0] [] g_X12_latest_X12_look wi_X12_look ws_X12_look dX12_latest_29 rfl rfl rfl rfl rfl (Nat.le_of_ble_eq_true rfl) t (fun _ h7 t => ?_)
        obtain ⟨rfl, t⟩ := t
        refine V_aload_n (q := 0) dX12_latest_32 rfl rfl ?_
        refine V_iload_n (q := 1) dX12_latest_33 rfl rfl ?_
        refine V_iload_n (q := 2) dX12_latest_34 rfl rfl ?_
        refine V_sipush (v := 1440) dX12_latest_35 rfl ?_
        refine V_iload_n (q := 3) dX12_latest_38 rfl rfl ?_
        refine V_imul dX12_latest_39 ?_
        refine V_iload (q := 4) dX12_latest_40 rfl ?_
        refine V_callV [.int x1, .int x2, .int (1440 * x3), .int x4] [] g_X12_latest_X12_isInTime wi_X12_isInTime ws_X12_isInTime dX12_latest_42 rfl rfl rfl rfl rfl (Nat.le_of_ble_eq_true rfl) t (fun _ h8 t => ?_)
        obtain ⟨b9, rfl, t⟩ := t
        refine V_ifb_ne (tgt := 50) dX12_latest_45 (by decide) (fun q => ?_) (fun q => ?_)
        · have t := it_t q t
          refine V_iconst (v := 0) dX12_latest_50 rfl ?_
          refine V_istore (L' := [(0, .ref (G.1 67)), (1, .int x1), (2, .int x2), (3, .int x3), (4, .int x4), (5, .int 0)]) dX12_latest_51 (by decide) rfl rfl ?_
          refine V_sipush (v := 1440) dX12_latest_53 rfl ?_
          refine V_istore (L' := [(0, .ref (G.1 67)), (1, .int x1), (2, .int x2), (3, .int x3), (4, .int x4), (5, .int 0), (6, .int 1440)]) dX12_latest_56 (by decide) rfl rfl ?_
          exact t
        · have t := it_f q t
          refine V_iconst (v := (-1)) dX12_latest_48 rfl ?_
          exact V_iret rfl dX12_latest_49 t
      · have t := it_f q t
        refine V_bipush (v := (-2)) dX12_latest_23 rfl ?_
        exact V_iret rfl dX12_latest_25 t
set_option maxRecDepth 20000 in
set_option maxHeartbeats 4000000 in
theorem s_Model_latest_58 (G : GA) (h : HP) (x1 : Int32) (x2 : Int32) (x3 : Int32) (x4 : Int32) (x5 : Int32) (x6 : Int32) (K : Int32 → HP → Prop) (t :
  if (x6 - x5) ≤ 1 then (
    K x5 h
  ) else (
    P_Model_isInTime G h x1 x2 ((1440 * x3) + ((x5 + x6) / 2)) x4 (fun (b2 : Bool) (h1 : HP) =>
      if b2 = true then (
        H_Model_latest_58 G h1 x1 x2 x3 x4 ((x5 + x6) / 2) x6 K
      ) else (
        H_Model_latest_58 G h1 x1 x2 x3 x4 x5 ((x5 + x6) / 2) K
      )
    )
  )) : H_Model_latest_58 G h x1 x2 x3 x4 x5 x6 K := by
  unfold H_Model_latest_58
  refine V_iload (q := 6) dX12_latest_58 rfl ?_
  refine V_iload (q := 5) dX12_latest_60 rfl ?_
  refine V_isub dX12_latest_62 ?_
  refine V_iconst (v := 1) dX12_latest_63 rfl ?_
  refine V_icmp_le (tgt := 109) dX12_latest_64 (by decide) (fun q => ?_) (fun q => ?_)
  · have t := it_t q t
    refine V_iload (q := 5) dX12_latest_109 rfl ?_
    exact V_iret rfl dX12_latest_111 t
  · have t := it_f q t
    refine V_iload (q := 5) dX12_latest_67 rfl ?_
    refine V_iload (q := 6) dX12_latest_69 rfl ?_
    refine V_iadd dX12_latest_71 ?_
    refine V_iconst (v := 2) dX12_latest_72 rfl ?_
    refine V_idiv dX12_latest_73 (by decide) ?_
    refine V_istore (L' := [(0, .ref (G.1 67)), (1, .int x1), (2, .int x2), (3, .int x3), (4, .int x4), (5, .int x5), (6, .int x6), (7, .int ((x5 + x6) / 2))]) dX12_latest_74 (by decide) rfl rfl ?_
    refine V_aload_n (q := 0) dX12_latest_76 rfl rfl ?_
    refine V_iload_n (q := 1) dX12_latest_77 rfl rfl ?_
    refine V_iload_n (q := 2) dX12_latest_78 rfl rfl ?_
    refine V_sipush (v := 1440) dX12_latest_79 rfl ?_
    refine V_iload_n (q := 3) dX12_latest_82 rfl rfl ?_
    refine V_imul dX12_latest_83 ?_
    refine V_iload (q := 7) dX12_latest_84 rfl ?_
    refine V_iadd dX12_latest_86 ?_
    refine V_iload (q := 4) dX12_latest_87 rfl ?_
    refine V_callV [.int x1, .int x2, .int ((1440 * x3) + ((x5 + x6) / 2)), .int x4] [] g_X12_latest_X12_isInTime wi_X12_isInTime ws_X12_isInTime dX12_latest_89 rfl rfl rfl rfl rfl (Nat.le_of_ble_eq_true rfl) t (fun _ h1 t => ?_)
    obtain ⟨b2, rfl, t⟩ := t
    refine V_ifb_eq (tgt := 102) dX12_latest_92 (by decide) (fun q => ?_) (fun q => ?_)
    · have t := it_f q t
      refine V_iload (q := 7) dX12_latest_102 rfl ?_
      refine V_istore (L' := [(0, .ref (G.1 67)), (1, .int x1), (2, .int x2), (3, .int x3), (4, .int x4), (5, .int x5), (6, .int ((x5 + x6) / 2)), (7, .int ((x5 + x6) / 2))]) dX12_latest_104 (by decide) rfl rfl ?_
      refine V_goto (tgt := 58) dX12_latest_106 (by decide) ?_
      refine V_pick (L' := [(0, .ref (G.1 67)), (1, .int x1), (2, .int x2), (3, .int x3), (4, .int x4), (5, .int x5), (6, .int ((x5 + x6) / 2))]) [0, 1, 2, 3, 4, 5, 6] rfl ?_
      exact t
    · have t := it_t q t
      refine V_iload (q := 7) dX12_latest_95 rfl ?_
      refine V_istore (L' := [(0, .ref (G.1 67)), (1, .int x1), (2, .int x2), (3, .int x3), (4, .int x4), (5, .int ((x5 + x6) / 2)), (6, .int x6), (7, .int ((x5 + x6) / 2))]) dX12_latest_97 (by decide) rfl rfl ?_
      refine V_goto (tgt := 106) dX12_latest_99 (by decide) ?_
      refine V_goto (tgt := 58) dX12_latest_106 (by decide) ?_
      refine V_pick (L' := [(0, .ref (G.1 67)), (1, .int x1), (2, .int x2), (3, .int x3), (4, .int x4), (5, .int ((x5 + x6) / 2)), (6, .int x6)]) [0, 1, 2, 3, 4, 5, 6] rfl ?_
      exact t
set_option maxRecDepth 20000 in
set_option maxHeartbeats 4000000 in
theorem s_Model_reach_0 (G : GA) (h : HP) (x1 : Int32) (x2 : Int32) (x3 : Int32) (x4 : Int32) (K : Int32 → HP → Prop) (t :
  P_Model_isStop G h x1 (fun (b2 : Bool) (h1 : HP) =>
    if b2 = true then (
      P_Model_isDay G h1 x2 (fun (b4 : Bool) (h3 : HP) =>
        if b4 = true then (
          P_Model_in G h3 x3 0 1439 (fun (b6 : Bool) (h5 : HP) =>
            if b6 = true then (
              if 0 ≤ x4 then (
                P_Model_look G h5 x2 x3 (fun h7 : HP =>
                  P_Model_go G h7 x1 ((1440 * x2) + x3) (fun h8 : HP =>
                    H_Model_reach_58 G h8 x4 0 0 K
                  )
                )
              ) else (
                K (-2) h5
              )
            ) else (
              K (-2) h5
            )
          )
        ) else (
          K (-2) h3
        )
      )
    ) else (
      K (-2) h1
    )
  )) : P_Model_reach G h x1 x2 x3 x4 K := by
  refine Sp_of_V pf_X12_reach (Nat.le_of_ble_eq_true rfl) rfl ?_
  refine V_aload_n (q := 0) dX12_reach_0 rfl rfl ?_
  refine V_iload_n (q := 1) dX12_reach_1 rfl rfl ?_
  refine V_callV [.int x1] [] g_X12_reach_X12_isStop wi_X12_isStop ws_X12_isStop dX12_reach_2 rfl rfl rfl rfl rfl (Nat.le_of_ble_eq_true rfl) t (fun _ h1 t => ?_)
  obtain ⟨b2, rfl, t⟩ := t
  refine V_ifb_eq (tgt := 31) dX12_reach_5 (by decide) (fun q => ?_) (fun q => ?_)
  · have t := it_f q t
    refine V_bipush (v := (-2)) dX12_reach_31 rfl ?_
    exact V_iret rfl dX12_reach_33 t
  · have t := it_t q t
    refine V_iload_n (q := 2) dX12_reach_8 rfl rfl ?_
    refine V_callS [.int x2] [] g_X12_reach_X12_isDay wt_X12_isDay dX12_reach_9 rfl rfl (Nat.le_of_ble_eq_true rfl) t (fun _ h3 t => ?_)
    obtain ⟨b4, rfl, t⟩ := t
    refine V_ifb_eq (tgt := 31) dX12_reach_12 (by decide) (fun q => ?_) (fun q => ?_)
    · have t := it_f q t
      refine V_bipush (v := (-2)) dX12_reach_31 rfl ?_
      exact V_iret rfl dX12_reach_33 t
    · have t := it_t q t
      refine V_iload_n (q := 3) dX12_reach_15 rfl rfl ?_
      refine V_iconst (v := 0) dX12_reach_16 rfl ?_
      refine V_sipush (v := 1439) dX12_reach_17 rfl ?_
      refine V_callS [.int x3, .int 0, .int 1439] [] g_X12_reach_X12_in wt_X12_in dX12_reach_20 rfl rfl (Nat.le_of_ble_eq_true rfl) t (fun _ h5 t => ?_)
      obtain ⟨b6, rfl, t⟩ := t
      refine V_ifb_eq (tgt := 31) dX12_reach_23 (by decide) (fun q => ?_) (fun q => ?_)
      · have t := it_f q t
        refine V_bipush (v := (-2)) dX12_reach_31 rfl ?_
        exact V_iret rfl dX12_reach_33 t
      · have t := it_t q t
        refine V_iload (q := 4) dX12_reach_26 rfl ?_
        refine V_if_ge (tgt := 34) dX12_reach_28 (by decide) (fun q => ?_) (fun q => ?_)
        · have t := it_t q t
          refine V_aload_n (q := 0) dX12_reach_34 rfl rfl ?_
          refine V_iload_n (q := 2) dX12_reach_35 rfl rfl ?_
          refine V_iload_n (q := 3) dX12_reach_36 rfl rfl ?_
          refine V_callV [.int x2, .int x3] [] g_X12_reach_X12_look wi_X12_look ws_X12_look dX12_reach_37 rfl rfl rfl rfl rfl (Nat.le_of_ble_eq_true rfl) t (fun _ h7 t => ?_)
          obtain ⟨rfl, t⟩ := t
          refine V_aload_n (q := 0) dX12_reach_40 rfl rfl ?_
          refine V_iload_n (q := 1) dX12_reach_41 rfl rfl ?_
          refine V_sipush (v := 1440) dX12_reach_42 rfl ?_
          refine V_iload_n (q := 2) dX12_reach_45 rfl rfl ?_
          refine V_imul dX12_reach_46 ?_
          refine V_iload_n (q := 3) dX12_reach_47 rfl rfl ?_
          refine V_iadd dX12_reach_48 ?_
          refine V_callV [.int x1, .int ((1440 * x2) + x3)] [] g_X12_reach_X12_go wi_X12_go ws_X12_go dX12_reach_49 rfl rfl rfl rfl rfl (Nat.le_of_ble_eq_true rfl) t (fun _ h8 t => ?_)
          obtain ⟨rfl, t⟩ := t
          refine V_iconst (v := 0) dX12_reach_52 rfl ?_
          refine V_istore (L' := [(0, .ref (G.1 67)), (1, .int x1), (2, .int x2), (3, .int x3), (4, .int x4), (5, .int 0)]) dX12_reach_53 (by decide) rfl rfl ?_
          refine V_iconst (v := 0) dX12_reach_55 rfl ?_
          refine V_istore (L' := [(0, .ref (G.1 67)), (1, .int x1), (2, .int x2), (3, .int x3), (4, .int x4), (5, .int 0), (6, .int 0)]) dX12_reach_56 (by decide) rfl rfl ?_
          refine V_pick (L' := [(0, .ref (G.1 67)), (4, .int x4), (5, .int 0), (6, .int 0)]) [0, 4, 5, 6] rfl ?_
          exact t
        · have t := it_f q t
          refine V_bipush (v := (-2)) dX12_reach_31 rfl ?_
          exact V_iret rfl dX12_reach_33 t
set_option maxRecDepth 20000 in
set_option maxHeartbeats 4000000 in
theorem s_Model_reach_58 (G : GA) (h : HP) (x4 : Int32) (x5 : Int32) (x6 : Int32) (K : Int32 → HP → Prop) (t :
  if (h 67 0) ≤ x6 then (
    K x5 h
  ) else (
    P_Model_soonestOf G h x6 (fun (r2 : Int32) (h1 : HP) =>
      if 1000000000 ≤ r2 then (
        H_Model_reach_58 G h1 x4 x5 (x6 + 1) K
      ) else (
        if 0 < (lg_cmp (Int32.toInt64 r2) ((Int32.toInt64 (h1 67 31)) + (Int32.toInt64 x4))) then (
          H_Model_reach_58 G h1 x4 x5 (x6 + 1) K
        ) else (
          H_Model_reach_58 G h1 x4 (x5 ||| (1 <<< (x6 &&& 31))) (x6 + 1) K
        )
      )
    )
  )) : H_Model_reach_58 G h x4 x5 x6 K := by
  unfold H_Model_reach_58
  refine V_iload (q := 3) dX12_reach_58 rfl ?_
  refine V_aload_n (q := 0) dX12_reach_60 rfl rfl ?_
  refine V_geti f_X12_147 dX12_reach_61 rfl rfl ?_
  refine V_icmp_ge (tgt := 113) dX12_reach_64 (by decide) (fun q => ?_) (fun q => ?_)
  · have t := it_t q t
    refine V_iload (q := 2) dX12_reach_113 rfl ?_
    exact V_iret rfl dX12_reach_115 t
  · have t := it_f q t
    refine V_aload_n (q := 0) dX12_reach_67 rfl rfl ?_
    refine V_iload (q := 3) dX12_reach_68 rfl ?_
    refine V_callV [.int x6] [] g_X12_reach_X12_soonestOf wi_X12_soonestOf ws_X12_soonestOf dX12_reach_70 rfl rfl rfl rfl rfl (Nat.le_of_ble_eq_true rfl) t (fun _ h1 t => ?_)
    obtain ⟨r2, rfl, t⟩ := t
    refine V_istore (L' := [(0, .ref (G.1 67)), (4, .int x4), (5, .int x5), (6, .int x6), (7, .int r2)]) dX12_reach_73 (by decide) rfl rfl ?_
    refine V_iload (q := 4) dX12_reach_75 rfl ?_
    refine V_ldc (v := 1000000000) dX12_reach_77 k_X12_208 ?_
    refine V_icmp_ge (tgt := 107) dX12_reach_79 (by decide) (fun q => ?_) (fun q => ?_)
    · have t := it_t q t
      refine V_iinc (L' := [(0, .ref (G.1 67)), (4, .int x4), (5, .int x5), (6, .int (x6 + 1)), (7, .int r2)]) (q := 3) (a := 1) dX12_reach_107 rfl rfl (by decide) rfl rfl ?_
      refine V_goto (tgt := 58) dX12_reach_110 (by decide) ?_
      refine V_pick (L' := [(0, .ref (G.1 67)), (4, .int x4), (5, .int x5), (6, .int (x6 + 1))]) [0, 1, 2, 3] rfl ?_
      exact t
    · have t := it_f q t
      refine V_iload (q := 4) dX12_reach_82 rfl ?_
      refine V_i2l dX12_reach_84 ?_
      refine V_aload_n (q := 0) dX12_reach_85 rfl rfl ?_
      refine V_geti f_X12_187 dX12_reach_86 rfl rfl ?_
      refine V_i2l dX12_reach_89 ?_
      refine V_iload (q := 1) dX12_reach_90 rfl ?_
      refine V_i2l dX12_reach_92 ?_
      refine V_ladd dX12_reach_93 ?_
      refine V_lcmp dX12_reach_94 ?_
      refine V_if_gt (tgt := 107) dX12_reach_95 (by decide) (fun q => ?_) (fun q => ?_)
      · have t := it_t q t
        refine V_iinc (L' := [(0, .ref (G.1 67)), (4, .int x4), (5, .int x5), (6, .int (x6 + 1)), (7, .int r2)]) (q := 3) (a := 1) dX12_reach_107 rfl rfl (by decide) rfl rfl ?_
        refine V_goto (tgt := 58) dX12_reach_110 (by decide) ?_
        refine V_pick (L' := [(0, .ref (G.1 67)), (4, .int x4), (5, .int x5), (6, .int (x6 + 1))]) [0, 1, 2, 3] rfl ?_
        exact t
      · have t := it_f q t
        refine V_iload (q := 2) dX12_reach_98 rfl ?_
        refine V_iconst (v := 1) dX12_reach_100 rfl ?_
        refine V_iload (q := 3) dX12_reach_101 rfl ?_
        refine V_ishl dX12_reach_103 ?_
        refine V_ior dX12_reach_104 ?_
        refine V_istore (L' := [(0, .ref (G.1 67)), (4, .int x4), (5, .int (x5 ||| (1 <<< (x6 &&& 31)))), (6, .int x6), (7, .int r2)]) dX12_reach_105 (by decide) rfl rfl ?_
        refine V_iinc (L' := [(0, .ref (G.1 67)), (4, .int x4), (5, .int (x5 ||| (1 <<< (x6 &&& 31)))), (6, .int (x6 + 1)), (7, .int r2)]) (q := 3) (a := 1) dX12_reach_107 rfl rfl (by decide) rfl rfl ?_
        refine V_goto (tgt := 58) dX12_reach_110 (by decide) ?_
        refine V_pick (L' := [(0, .ref (G.1 67)), (4, .int x4), (5, .int (x5 ||| (1 <<< (x6 &&& 31)))), (6, .int (x6 + 1))]) [0, 1, 2, 3] rfl ?_
        exact t
set_option maxRecDepth 20000 in
set_option maxHeartbeats 4000000 in
theorem s_Model_meet_0 (G : GA) (h : HP) (x1 : Int32) (x2 : Int32) (x3 : Int32) (K : Int32 → HP → Prop) (t :
  if x1 = 0 then (
    K (-2) h
  ) else (
    if (x1 &&& (((1 <<< ((h 67 0) &&& 31)) - 1) ^^^ (-1))) = 0 then (
      P_Model_isDay G h x2 (fun (b2 : Bool) (h1 : HP) =>
        if b2 = true then (
          P_Model_in G h1 x3 0 1439 (fun (b4 : Bool) (h3 : HP) =>
            if b4 = true then (
              P_Model_look G h3 x2 x3 (fun h5 : HP =>
                H_Model_meet_49 G h5 x1 x2 x3 0 K
              )
            ) else (
              K (-2) h3
            )
          )
        ) else (
          K (-2) h1
        )
      )
    ) else (
      K (-2) h
    )
  )) : P_Model_meet G h x1 x2 x3 K := by
  refine Sp_of_V pf_X12_meet (Nat.le_of_ble_eq_true rfl) rfl ?_
  refine V_iload_n (q := 1) dX12_meet_0 rfl rfl ?_
  refine V_if_eq (tgt := 37) dX12_meet_1 (by decide) (fun q => ?_) (fun q => ?_)
  · have t := it_t q t
    refine V_bipush (v := (-2)) dX12_meet_37 rfl ?_
    exact V_iret rfl dX12_meet_39 t
  · have t := it_f q t
    refine V_iload_n (q := 1) dX12_meet_4 rfl rfl ?_
    refine V_iconst (v := 1) dX12_meet_5 rfl ?_
    refine V_aload_n (q := 0) dX12_meet_6 rfl rfl ?_
    refine V_geti f_X12_147 dX12_meet_7 rfl rfl ?_
    refine V_ishl dX12_meet_10 ?_
    refine V_iconst (v := 1) dX12_meet_11 rfl ?_
    refine V_isub dX12_meet_12 ?_
    refine V_iconst (v := (-1)) dX12_meet_13 rfl ?_
    refine V_ixor dX12_meet_14 ?_
    refine V_iand dX12_meet_15 ?_
    refine V_if_ne (tgt := 37) dX12_meet_16 (by decide) (fun q => ?_) (fun q => ?_)
    · have t := it_f q t
      refine V_bipush (v := (-2)) dX12_meet_37 rfl ?_
      exact V_iret rfl dX12_meet_39 t
    · have t := it_t q t
      refine V_iload_n (q := 2) dX12_meet_19 rfl rfl ?_
      refine V_callS [.int x2] [] g_X12_meet_X12_isDay wt_X12_isDay dX12_meet_20 rfl rfl (Nat.le_of_ble_eq_true rfl) t (fun _ h1 t => ?_)
      obtain ⟨b2, rfl, t⟩ := t
      refine V_ifb_eq (tgt := 37) dX12_meet_23 (by decide) (fun q => ?_) (fun q => ?_)
      · have t := it_f q t
        refine V_bipush (v := (-2)) dX12_meet_37 rfl ?_
        exact V_iret rfl dX12_meet_39 t
      · have t := it_t q t
        refine V_iload_n (q := 3) dX12_meet_26 rfl rfl ?_
        refine V_iconst (v := 0) dX12_meet_27 rfl ?_
        refine V_sipush (v := 1439) dX12_meet_28 rfl ?_
        refine V_callS [.int x3, .int 0, .int 1439] [] g_X12_meet_X12_in wt_X12_in dX12_meet_31 rfl rfl (Nat.le_of_ble_eq_true rfl) t (fun _ h3 t => ?_)
        obtain ⟨b4, rfl, t⟩ := t
        refine V_ifb_ne (tgt := 40) dX12_meet_34 (by decide) (fun q => ?_) (fun q => ?_)
        · have t := it_t q t
          refine V_aload_n (q := 0) dX12_meet_40 rfl rfl ?_
          refine V_iload_n (q := 2) dX12_meet_41 rfl rfl ?_
          refine V_iload_n (q := 3) dX12_meet_42 rfl rfl ?_
          refine V_callV [.int x2, .int x3] [] g_X12_meet_X12_look wi_X12_look ws_X12_look dX12_meet_43 rfl rfl rfl rfl rfl (Nat.le_of_ble_eq_true rfl) t (fun _ h5 t => ?_)
          obtain ⟨rfl, t⟩ := t
          refine V_iconst (v := 0) dX12_meet_46 rfl ?_
          refine V_istore (L' := [(0, .ref (G.1 67)), (1, .int x1), (2, .int x2), (3, .int x3), (4, .int 0)]) dX12_meet_47 (by decide) rfl rfl ?_
          exact t
        · have t := it_f q t
          refine V_bipush (v := (-2)) dX12_meet_37 rfl ?_
          exact V_iret rfl dX12_meet_39 t
set_option maxRecDepth 20000 in
set_option maxHeartbeats 4000000 in
theorem s_Model_meet_49 (G : GA) (h : HP) (x1 : Int32) (x2 : Int32) (x3 : Int32) (x4 : Int32) (K : Int32 → HP → Prop) (t :
  if (h 67 0) ≤ x4 then (
    H_Model_meet_75 G h x1 x2 x3 0 K
  ) else (
    vp_in x4 12 ∧
    ∀ h1 : HP, h1 = up h 111 (tn x4) 0 →
    H_Model_meet_49 G h1 x1 x2 x3 (x4 + 1) K
  )) : H_Model_meet_49 G h x1 x2 x3 x4 K := by
  unfold H_Model_meet_49
  refine V_iload (q := 4) dX12_meet_49 rfl ?_
  refine V_aload_n (q := 0) dX12_meet_51 rfl rfl ?_
  refine V_geti f_X12_147 dX12_meet_52 rfl rfl ?_
  refine V_icmp_ge (tgt := 72) dX12_meet_55 (by decide) (fun q => ?_) (fun q => ?_)
  · have t := it_t q t
    refine V_iconst (v := 0) dX12_meet_72 rfl ?_
    refine V_istore (L' := [(0, .ref (G.1 67)), (1, .int x1), (2, .int x2), (3, .int x3), (4, .int 0)]) dX12_meet_73 (by decide) rfl rfl ?_
    exact t
  · have t := it_f q t
    refine V_aload_n (q := 0) dX12_meet_58 rfl rfl ?_
    refine V_getr f_X12_144 dX12_meet_59 rfl rfl ?_
    refine V_iload (q := 4) dX12_meet_62 rfl ?_
    refine V_iconst (v := 0) dX12_meet_64 rfl ?_
    obtain ⟨n2, t⟩ := t
    have t := t _ rfl
    refine V_iast dX12_meet_65 rfl n2 ?_
    refine V_iinc (L' := [(0, .ref (G.1 67)), (1, .int x1), (2, .int x2), (3, .int x3), (4, .int (x4 + 1))]) (q := 4) (a := 1) dX12_meet_66 rfl rfl (by decide) rfl rfl ?_
    refine V_goto (tgt := 49) dX12_meet_69 (by decide) ?_
    exact t
set_option maxRecDepth 20000 in
set_option maxHeartbeats 4000000 in
theorem s_Model_meet_75 (G : GA) (h : HP) (x1 : Int32) (x2 : Int32) (x3 : Int32) (x4 : Int32) (K : Int32 → HP → Prop) (t :
  if (h 67 0) ≤ x4 then (
    H_Model_meet_178 G h (-1) 0 K
  ) else (
    if ((x1 >>> (x4 &&& 31)) &&& 1) = 0 then (
      H_Model_meet_75 G h x1 x2 x3 (x4 + 1) K
    ) else (
      P_Model_go G h x4 ((1440 * x2) + x3) (fun h1 : HP =>
        H_Model_meet_112 G h1 x1 x2 x3 x4 0 K
      )
    )
  )) : H_Model_meet_75 G h x1 x2 x3 x4 K := by
  unfold H_Model_meet_75
  refine V_iload (q := 4) dX12_meet_75 rfl ?_
  refine V_aload_n (q := 0) dX12_meet_77 rfl rfl ?_
  refine V_geti f_X12_147 dX12_meet_78 rfl rfl ?_
  refine V_icmp_ge (tgt := 172) dX12_meet_81 (by decide) (fun q => ?_) (fun q => ?_)
  · have t := it_t q t
    refine V_iconst (v := (-1)) dX12_meet_172 rfl ?_
    refine V_istore (L' := [(0, .ref (G.1 67)), (1, .int x1), (2, .int x2), (3, .int x3), (4, .int (-1))]) dX12_meet_173 (by decide) rfl rfl ?_
    refine V_iconst (v := 0) dX12_meet_175 rfl ?_
    refine V_istore (L' := [(0, .ref (G.1 67)), (1, .int x1), (2, .int x2), (3, .int x3), (4, .int (-1)), (5, .int 0)]) dX12_meet_176 (by decide) rfl rfl ?_
    refine V_pick (L' := [(0, .ref (G.1 67)), (4, .int (-1)), (5, .int 0)]) [0, 4, 5] rfl ?_
    exact t
  · have t := it_f q t
    refine V_iload_n (q := 1) dX12_meet_84 rfl rfl ?_
    refine V_iload (q := 4) dX12_meet_85 rfl ?_
    refine V_ishr dX12_meet_87 ?_
    refine V_iconst (v := 1) dX12_meet_88 rfl ?_
    refine V_iand dX12_meet_89 ?_
    refine V_if_ne (tgt := 96) dX12_meet_90 (by decide) (fun q => ?_) (fun q => ?_)
    · have t := it_f q t
      refine V_aload_n (q := 0) dX12_meet_96 rfl rfl ?_
      refine V_iload (q := 4) dX12_meet_97 rfl ?_
      refine V_sipush (v := 1440) dX12_meet_99 rfl ?_
      refine V_iload_n (q := 2) dX12_meet_102 rfl rfl ?_
      refine V_imul dX12_meet_103 ?_
      refine V_iload_n (q := 3) dX12_meet_104 rfl rfl ?_
      refine V_iadd dX12_meet_105 ?_
      refine V_callV [.int x4, .int ((1440 * x2) + x3)] [] g_X12_meet_X12_go wi_X12_go ws_X12_go dX12_meet_106 rfl rfl rfl rfl rfl (Nat.le_of_ble_eq_true rfl) t (fun _ h1 t => ?_)
      obtain ⟨rfl, t⟩ := t
      refine V_iconst (v := 0) dX12_meet_109 rfl ?_
      refine V_istore (L' := [(0, .ref (G.1 67)), (1, .int x1), (2, .int x2), (3, .int x3), (4, .int x4), (5, .int 0)]) dX12_meet_110 (by decide) rfl rfl ?_
      exact t
    · have t := it_t q t
      refine V_goto (tgt := 166) dX12_meet_93 (by decide) ?_
      refine V_iinc (L' := [(0, .ref (G.1 67)), (1, .int x1), (2, .int x2), (3, .int x3), (4, .int (x4 + 1))]) (q := 4) (a := 1) dX12_meet_166 rfl rfl (by decide) rfl rfl ?_
      refine V_goto (tgt := 75) dX12_meet_169 (by decide) ?_
      exact t
set_option maxRecDepth 20000 in
set_option maxHeartbeats 4000000 in
theorem s_Model_meet_112 (G : GA) (h : HP) (x1 : Int32) (x2 : Int32) (x3 : Int32) (x4 : Int32) (x5 : Int32) (K : Int32 → HP → Prop) (t :
  if (h 67 0) ≤ x5 then (
    H_Model_meet_75 G h x1 x2 x3 (x4 + 1) K
  ) else (
    P_Model_soonestOf G h x5 (fun (r2 : Int32) (h1 : HP) =>
      vp_in x5 12 ∧
      if r2 ≤ (h1 111 (tn x5)) then (
        ∀ h4 : HP, h4 = up h1 111 (tn x5) (h1 111 (tn x5)) →
        H_Model_meet_112 G h4 x1 x2 x3 x4 (x5 + 1) K
      ) else (
        ∀ h5 : HP, h5 = up h1 111 (tn x5) r2 →
        H_Model_meet_112 G h5 x1 x2 x3 x4 (x5 + 1) K
      )
    )
  )) : H_Model_meet_112 G h x1 x2 x3 x4 x5 K := by
  unfold H_Model_meet_112
  refine V_iload (q := 5) dX12_meet_112 rfl ?_
  refine V_aload_n (q := 0) dX12_meet_114 rfl rfl ?_
  refine V_geti f_X12_147 dX12_meet_115 rfl rfl ?_
  refine V_icmp_ge (tgt := 166) dX12_meet_118 (by decide) (fun q => ?_) (fun q => ?_)
  · have t := it_t q t
    refine V_iinc (L' := [(0, .ref (G.1 67)), (1, .int x1), (2, .int x2), (3, .int x3), (4, .int (x4 + 1)), (5, .int x5)]) (q := 4) (a := 1) dX12_meet_166 rfl rfl (by decide) rfl rfl ?_
    refine V_goto (tgt := 75) dX12_meet_169 (by decide) ?_
    refine V_pick (L' := [(0, .ref (G.1 67)), (1, .int x1), (2, .int x2), (3, .int x3), (4, .int (x4 + 1))]) [0, 1, 2, 3, 4] rfl ?_
    exact t
  · have t := it_f q t
    refine V_aload_n (q := 0) dX12_meet_121 rfl rfl ?_
    refine V_iload (q := 5) dX12_meet_122 rfl ?_
    refine V_callV [.int x5] [] g_X12_meet_X12_soonestOf wi_X12_soonestOf ws_X12_soonestOf dX12_meet_124 rfl rfl rfl rfl rfl (Nat.le_of_ble_eq_true rfl) t (fun _ h1 t => ?_)
    obtain ⟨r2, rfl, t⟩ := t
    refine V_istore (L' := [(0, .ref (G.1 67)), (1, .int x1), (2, .int x2), (3, .int x3), (4, .int x4), (5, .int x5), (6, .int r2)]) dX12_meet_127 (by decide) rfl rfl ?_
    refine V_aload_n (q := 0) dX12_meet_129 rfl rfl ?_
    refine V_getr f_X12_144 dX12_meet_130 rfl rfl ?_
    refine V_iload (q := 5) dX12_meet_133 rfl ?_
    refine V_iload (q := 6) dX12_meet_135 rfl ?_
    refine V_aload_n (q := 0) dX12_meet_137 rfl rfl ?_
    refine V_getr f_X12_144 dX12_meet_138 rfl rfl ?_
    refine V_iload (q := 5) dX12_meet_141 rfl ?_
    obtain ⟨n3, t⟩ := t
    refine V_iald dX12_meet_143 rfl n3 ?_
    refine V_icmp_le (tgt := 152) dX12_meet_144 (by decide) (fun q => ?_) (fun q => ?_)
    · have t := it_t q t
      refine V_aload_n (q := 0) dX12_meet_152 rfl rfl ?_
      refine V_getr f_X12_144 dX12_meet_153 rfl rfl ?_
      refine V_iload (q := 5) dX12_meet_156 rfl ?_
      refine V_iald dX12_meet_158 rfl n3 ?_
      have t := t _ rfl
      refine V_iast dX12_meet_159 rfl n3 ?_
      refine V_iinc (L' := [(0, .ref (G.1 67)), (1, .int x1), (2, .int x2), (3, .int x3), (4, .int x4), (5, .int (x5 + 1)), (6, .int r2)]) (q := 5) (a := 1) dX12_meet_160 rfl rfl (by decide) rfl rfl ?_
      refine V_goto (tgt := 112) dX12_meet_163 (by decide) ?_
      refine V_pick (L' := [(0, .ref (G.1 67)), (1, .int x1), (2, .int x2), (3, .int x3), (4, .int x4), (5, .int (x5 + 1))]) [0, 1, 2, 3, 4, 5] rfl ?_
      exact t
    · have t := it_f q t
      refine V_iload (q := 6) dX12_meet_147 rfl ?_
      refine V_goto (tgt := 159) dX12_meet_149 (by decide) ?_
      have t := t _ rfl
      refine V_iast dX12_meet_159 rfl n3 ?_
      refine V_iinc (L' := [(0, .ref (G.1 67)), (1, .int x1), (2, .int x2), (3, .int x3), (4, .int x4), (5, .int (x5 + 1)), (6, .int r2)]) (q := 5) (a := 1) dX12_meet_160 rfl rfl (by decide) rfl rfl ?_
      refine V_goto (tgt := 112) dX12_meet_163 (by decide) ?_
      refine V_pick (L' := [(0, .ref (G.1 67)), (1, .int x1), (2, .int x2), (3, .int x3), (4, .int x4), (5, .int (x5 + 1))]) [0, 1, 2, 3, 4, 5] rfl ?_
      exact t
set_option maxRecDepth 20000 in
set_option maxHeartbeats 4000000 in
theorem s_Model_meet_178 (G : GA) (h : HP) (x4 : Int32) (x5 : Int32) (K : Int32 → HP → Prop) (t :
  if (h 67 0) ≤ x5 then (
    if x4 < 0 then (
      K x4 h
    ) else (
      vp_in x4 12 ∧
      ∀ h2 : HP, h2 = up h 67 58 (h 111 (tn x4)) →
      K x4 h2
    )
  ) else (
    vp_in x5 12 ∧
    if 1000000000 ≤ (h 111 (tn x5)) then (
      H_Model_meet_178 G h x4 (x5 + 1) K
    ) else (
      if x4 < 0 then (
        H_Model_meet_178 G h x5 (x5 + 1) K
      ) else (
        vp_in x4 12 ∧
        if (h 111 (tn x4)) ≤ (h 111 (tn x5)) then (
          H_Model_meet_178 G h x4 (x5 + 1) K
        ) else (
          H_Model_meet_178 G h x5 (x5 + 1) K
        )
      )
    )
  )) : H_Model_meet_178 G h x4 x5 K := by
  unfold H_Model_meet_178
  refine V_iload (q := 2) dX12_meet_178 rfl ?_
  refine V_aload_n (q := 0) dX12_meet_180 rfl rfl ?_
  refine V_geti f_X12_147 dX12_meet_181 rfl rfl ?_
  refine V_icmp_ge (tgt := 231) dX12_meet_184 (by decide) (fun q => ?_) (fun q => ?_)
  · have t := it_t q t
    refine V_iload (q := 1) dX12_meet_231 rfl ?_
    refine V_if_lt (tgt := 247) dX12_meet_233 (by decide) (fun q => ?_) (fun q => ?_)
    · have t := it_t q t
      refine V_iload (q := 1) dX12_meet_247 rfl ?_
      exact V_iret rfl dX12_meet_249 t
    · have t := it_f q t
      refine V_aload_n (q := 0) dX12_meet_236 rfl rfl ?_
      refine V_aload_n (q := 0) dX12_meet_237 rfl rfl ?_
      refine V_getr f_X12_144 dX12_meet_238 rfl rfl ?_
      refine V_iload (q := 1) dX12_meet_241 rfl ?_
      obtain ⟨n1, t⟩ := t
      refine V_iald dX12_meet_243 rfl n1 ?_
      have t := t _ rfl
      refine V_put f_X12_140 p_X12_58 dX12_meet_244 rfl rfl ?_
      refine V_iload (q := 1) dX12_meet_247 rfl ?_
      exact V_iret rfl dX12_meet_249 t
  · have t := it_f q t
    refine V_aload_n (q := 0) dX12_meet_187 rfl rfl ?_
    refine V_getr f_X12_144 dX12_meet_188 rfl rfl ?_
    refine V_iload (q := 2) dX12_meet_191 rfl ?_
    obtain ⟨n3, t⟩ := t
    refine V_iald dX12_meet_193 rfl n3 ?_
    refine V_ldc (v := 1000000000) dX12_meet_194 k_X12_208 ?_
    refine V_icmp_ge (tgt := 225) dX12_meet_196 (by decide) (fun q => ?_) (fun q => ?_)
    · have t := it_t q t
      refine V_iinc (L' := [(0, .ref (G.1 67)), (4, .int x4), (5, .int (x5 + 1))]) (q := 2) (a := 1) dX12_meet_225 rfl rfl (by decide) rfl rfl ?_
      refine V_goto (tgt := 178) dX12_meet_228 (by decide) ?_
      exact t
    · have t := it_f q t
      refine V_iload (q := 1) dX12_meet_199 rfl ?_
      refine V_if_lt (tgt := 221) dX12_meet_201 (by decide) (fun q => ?_) (fun q => ?_)
      · have t := it_t q t
        refine V_iload (q := 2) dX12_meet_221 rfl ?_
        refine V_istore (L' := [(0, .ref (G.1 67)), (4, .int x5), (5, .int x5)]) dX12_meet_223 (by decide) rfl rfl ?_
        refine V_iinc (L' := [(0, .ref (G.1 67)), (4, .int x5), (5, .int (x5 + 1))]) (q := 2) (a := 1) dX12_meet_225 rfl rfl (by decide) rfl rfl ?_
        refine V_goto (tgt := 178) dX12_meet_228 (by decide) ?_
        exact t
      · have t := it_f q t
        refine V_aload_n (q := 0) dX12_meet_204 rfl rfl ?_
        refine V_getr f_X12_144 dX12_meet_205 rfl rfl ?_
        refine V_iload (q := 2) dX12_meet_208 rfl ?_
        refine V_iald dX12_meet_210 rfl n3 ?_
        refine V_aload_n (q := 0) dX12_meet_211 rfl rfl ?_
        refine V_getr f_X12_144 dX12_meet_212 rfl rfl ?_
        refine V_iload (q := 1) dX12_meet_215 rfl ?_
        obtain ⟨n4, t⟩ := t
        refine V_iald dX12_meet_217 rfl n4 ?_
        refine V_icmp_ge (tgt := 225) dX12_meet_218 (by decide) (fun q => ?_) (fun q => ?_)
        · have t := it_t q t
          refine V_iinc (L' := [(0, .ref (G.1 67)), (4, .int x4), (5, .int (x5 + 1))]) (q := 2) (a := 1) dX12_meet_225 rfl rfl (by decide) rfl rfl ?_
          refine V_goto (tgt := 178) dX12_meet_228 (by decide) ?_
          exact t
        · have t := it_f q t
          refine V_iload (q := 2) dX12_meet_221 rfl ?_
          refine V_istore (L' := [(0, .ref (G.1 67)), (4, .int x5), (5, .int x5)]) dX12_meet_223 (by decide) rfl rfl ?_
          refine V_iinc (L' := [(0, .ref (G.1 67)), (4, .int x5), (5, .int (x5 + 1))]) (q := 2) (a := 1) dX12_meet_225 rfl rfl (by decide) rfl rfl ?_
          refine V_goto (tgt := 178) dX12_meet_228 (by decide) ?_
          exact t
set_option maxRecDepth 20000 in
set_option maxHeartbeats 4000000 in
theorem s_Model_met_0 (G : GA) (h : HP)  (K : Int32 → HP → Prop) (t :
  K (h 67 58) h) : P_Model_met G h  K := by
  refine Sp_of_V pf_X12_met (Nat.le_of_ble_eq_true rfl) rfl ?_
  refine V_aload_n (q := 0) dX12_met_0 rfl rfl ?_
  refine V_geti f_X12_140 dX12_met_1 rfl rfl ?_
  exact V_iret rfl dX12_met_4 t
set_option maxRecDepth 20000 in
set_option maxHeartbeats 4000000 in
theorem s_Model_isAhead_0 (G : GA) (h : HP) (x1 : Int32) (x2 : Int32) (x3 : Int32) (x4 : Int32) (x5 : Int32) (K : Bool → HP → Prop) (t :
  P_Model_leavesAt G h x1 x5 x2 (fun (r2 : Int32) (h1 : HP) =>
    P_Model_leavesAt G h1 x3 x5 x4 (fun (r4 : Int32) (h3 : HP) =>
      if r2 = r4 then (
        if x1 = x3 then (
          if x4 ≤ x2 then (
            K false h3
          ) else (
            K true h3
          )
        ) else (
          if x3 ≤ x1 then (
            K false h3
          ) else (
            K true h3
          )
        )
      ) else (
        if r4 ≤ r2 then (
          K false h3
        ) else (
          K true h3
        )
      )
    )
  )) : P_Model_isAhead G h x1 x2 x3 x4 x5 K := by
  refine Sp_of_V pf_X12_isAhead (Nat.le_of_ble_eq_true rfl) rfl ?_
  refine V_aload_n (q := 0) dX12_isAhead_0 rfl rfl ?_
  refine V_iload_n (q := 1) dX12_isAhead_1 rfl rfl ?_
  refine V_iload (q := 5) dX12_isAhead_2 rfl ?_
  refine V_iload_n (q := 2) dX12_isAhead_4 rfl rfl ?_
  refine V_callV [.int x1, .int x5, .int x2] [] g_X12_isAhead_X12_leavesAt wi_X12_leavesAt ws_X12_leavesAt dX12_isAhead_5 rfl rfl rfl rfl rfl (Nat.le_of_ble_eq_true rfl) t (fun _ h1 t => ?_)
  obtain ⟨r2, rfl, t⟩ := t
  refine V_istore (L' := [(0, .ref (G.1 67)), (1, .int x1), (2, .int x2), (3, .int x3), (4, .int x4), (5, .int x5), (6, .int r2)]) dX12_isAhead_8 (by decide) rfl rfl ?_
  refine V_aload_n (q := 0) dX12_isAhead_10 rfl rfl ?_
  refine V_iload_n (q := 3) dX12_isAhead_11 rfl rfl ?_
  refine V_iload (q := 5) dX12_isAhead_12 rfl ?_
  refine V_iload (q := 4) dX12_isAhead_14 rfl ?_
  refine V_callV [.int x3, .int x5, .int x4] [] g_X12_isAhead_X12_leavesAt wi_X12_leavesAt ws_X12_leavesAt dX12_isAhead_16 rfl rfl rfl rfl rfl (Nat.le_of_ble_eq_true rfl) t (fun _ h3 t => ?_)
  obtain ⟨r4, rfl, t⟩ := t
  refine V_istore (L' := [(0, .ref (G.1 67)), (1, .int x1), (2, .int x2), (3, .int x3), (4, .int x4), (5, .int x5), (6, .int r2), (7, .int r4)]) dX12_isAhead_19 (by decide) rfl rfl ?_
  refine V_iload (q := 6) dX12_isAhead_21 rfl ?_
  refine V_iload (q := 7) dX12_isAhead_23 rfl ?_
  refine V_icmp_eq (tgt := 43) dX12_isAhead_25 (by decide) (fun q => ?_) (fun q => ?_)
  · have t := it_t q t
    refine V_iload_n (q := 1) dX12_isAhead_43 rfl rfl ?_
    refine V_iload_n (q := 3) dX12_isAhead_44 rfl rfl ?_
    refine V_icmp_eq (tgt := 61) dX12_isAhead_45 (by decide) (fun q => ?_) (fun q => ?_)
    · have t := it_t q t
      refine V_iload_n (q := 2) dX12_isAhead_61 rfl rfl ?_
      refine V_iload (q := 4) dX12_isAhead_62 rfl ?_
      refine V_icmp_ge (tgt := 71) dX12_isAhead_64 (by decide) (fun q => ?_) (fun q => ?_)
      · have t := it_t q t
        refine V_iconst (v := 0) dX12_isAhead_71 rfl ?_
        exact V_zret (b := false) rfl dX12_isAhead_72 t
      · have t := it_f q t
        refine V_iconst (v := 1) dX12_isAhead_67 rfl ?_
        refine V_goto (tgt := 72) dX12_isAhead_68 (by decide) ?_
        exact V_zret (b := true) rfl dX12_isAhead_72 t
    · have t := it_f q t
      refine V_iload_n (q := 1) dX12_isAhead_48 rfl rfl ?_
      refine V_iload_n (q := 3) dX12_isAhead_49 rfl rfl ?_
      refine V_icmp_ge (tgt := 57) dX12_isAhead_50 (by decide) (fun q => ?_) (fun q => ?_)
      · have t := it_t q t
        refine V_iconst (v := 0) dX12_isAhead_57 rfl ?_
        refine V_goto (tgt := 72) dX12_isAhead_58 (by decide) ?_
        exact V_zret (b := false) rfl dX12_isAhead_72 t
      · have t := it_f q t
        refine V_iconst (v := 1) dX12_isAhead_53 rfl ?_
        refine V_goto (tgt := 72) dX12_isAhead_54 (by decide) ?_
        exact V_zret (b := true) rfl dX12_isAhead_72 t
  · have t := it_f q t
    refine V_iload (q := 6) dX12_isAhead_28 rfl ?_
    refine V_iload (q := 7) dX12_isAhead_30 rfl ?_
    refine V_icmp_ge (tgt := 39) dX12_isAhead_32 (by decide) (fun q => ?_) (fun q => ?_)
    · have t := it_t q t
      refine V_iconst (v := 0) dX12_isAhead_39 rfl ?_
      refine V_goto (tgt := 72) dX12_isAhead_40 (by decide) ?_
      exact V_zret (b := false) rfl dX12_isAhead_72 t
    · have t := it_f q t
      refine V_iconst (v := 1) dX12_isAhead_35 rfl ?_
      refine V_goto (tgt := 72) dX12_isAhead_36 (by decide) ?_
      exact V_zret (b := true) rfl dX12_isAhead_72 t
