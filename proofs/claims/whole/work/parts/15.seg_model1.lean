set_option maxRecDepth 20000 in
set_option maxHeartbeats 4000000 in
theorem s_Model_in_0 (G : GA) (h : HP) (x0 : Int32) (x1 : Int32) (x2 : Int32) (K : Bool → HP → Prop) (t :
  if x0 < x1 then (
    K false h
  ) else (
    if x2 < x0 then (
      K false h
    ) else (
      K true h
    )
  )) : P_Model_in G h x0 x1 x2 K := by
  refine Sp_of_V pf_X12_in (Nat.le_of_ble_eq_true rfl) rfl ?_
  refine V_iload_n (q := 0) dX12_in_0 rfl rfl ?_
  refine V_iload_n (q := 1) dX12_in_1 rfl rfl ?_
  refine V_icmp_lt (tgt := 14) dX12_in_2 (by decide) (fun q => ?_) (fun q => ?_)
  · have t := it_t q t
    refine V_iconst (v := 0) dX12_in_14 rfl ?_
    exact V_zret (b := false) rfl dX12_in_15 t
  · have t := it_f q t
    refine V_iload_n (q := 0) dX12_in_5 rfl rfl ?_
    refine V_iload_n (q := 2) dX12_in_6 rfl rfl ?_
    refine V_icmp_gt (tgt := 14) dX12_in_7 (by decide) (fun q => ?_) (fun q => ?_)
    · have t := it_t q t
      refine V_iconst (v := 0) dX12_in_14 rfl ?_
      exact V_zret (b := false) rfl dX12_in_15 t
    · have t := it_f q t
      refine V_iconst (v := 1) dX12_in_10 rfl ?_
      refine V_goto (tgt := 15) dX12_in_11 (by decide) ?_
      exact V_zret (b := true) rfl dX12_in_15 t
set_option maxRecDepth 20000 in
set_option maxHeartbeats 4000000 in
theorem s_Model_stop_0 (G : GA) (h : HP) (x1 : Int32) (x2 : Int32) (K : Int32 → HP → Prop) (t :
  P_Model_in G h x1 0 30 (fun (b2 : Bool) (h1 : HP) =>
    if b2 = true then (
      P_Model_in G h1 x2 0 3 (fun (b4 : Bool) (h3 : HP) =>
        if b4 = true then (
          if (h3 67 0) = 12 then (
            K (-2) h3
          ) else (
            vp_in (h3 67 0) 12 ∧
            ∀ h5 : HP, h5 = up h3 68 (tn (h3 67 0)) x1 →
            ∀ h7 : HP, h7 = up h5 69 (tn (h3 67 0)) x2 →
            ∀ h8 : HP, h8 = up h7 67 0 ((h3 67 0) + 1) →
            K ((h8 67 0) - 1) h8
          )
        ) else (
          K (-2) h3
        )
      )
    ) else (
      K (-2) h1
    )
  )) : P_Model_stop G h x1 x2 K := by
  refine Sp_of_V pf_X12_stop (Nat.le_of_ble_eq_true rfl) rfl ?_
  refine V_iload_n (q := 1) dX12_stop_0 rfl rfl ?_
  refine V_iconst (v := 0) dX12_stop_1 rfl ?_
  refine V_bipush (v := 30) dX12_stop_2 rfl ?_
  refine V_callS [.int x1, .int 0, .int 30] [] g_X12_stop_X12_in wt_X12_in dX12_stop_4 rfl rfl (Nat.le_of_ble_eq_true rfl) t (fun _ h1 t => ?_)
  obtain ⟨b2, rfl, t⟩ := t
  refine V_ifb_eq (tgt := 28) dX12_stop_7 (by decide) (fun q => ?_) (fun q => ?_)
  · have t := it_f q t
    refine V_bipush (v := (-2)) dX12_stop_28 rfl ?_
    exact V_iret rfl dX12_stop_30 t
  · have t := it_t q t
    refine V_iload_n (q := 2) dX12_stop_10 rfl rfl ?_
    refine V_iconst (v := 0) dX12_stop_11 rfl ?_
    refine V_iconst (v := 3) dX12_stop_12 rfl ?_
    refine V_callS [.int x2, .int 0, .int 3] [] g_X12_stop_X12_in wt_X12_in dX12_stop_13 rfl rfl (Nat.le_of_ble_eq_true rfl) t (fun _ h3 t => ?_)
    obtain ⟨b4, rfl, t⟩ := t
    refine V_ifb_eq (tgt := 28) dX12_stop_16 (by decide) (fun q => ?_) (fun q => ?_)
    · have t := it_f q t
      refine V_bipush (v := (-2)) dX12_stop_28 rfl ?_
      exact V_iret rfl dX12_stop_30 t
    · have t := it_t q t
      refine V_aload_n (q := 0) dX12_stop_19 rfl rfl ?_
      refine V_geti f_X12_147 dX12_stop_20 rfl rfl ?_
      refine V_bipush (v := 12) dX12_stop_23 rfl ?_
      refine V_icmp_ne (tgt := 31) dX12_stop_25 (by decide) (fun q => ?_) (fun q => ?_)
      · have t := it_f q t
        refine V_aload_n (q := 0) dX12_stop_31 rfl rfl ?_
        refine V_getr f_X12_7 dX12_stop_32 rfl rfl ?_
        refine V_aload_n (q := 0) dX12_stop_35 rfl rfl ?_
        refine V_geti f_X12_147 dX12_stop_36 rfl rfl ?_
        refine V_iload_n (q := 1) dX12_stop_39 rfl rfl ?_
        obtain ⟨n6, t⟩ := t
        have t := t _ rfl
        refine V_iast dX12_stop_40 rfl n6 ?_
        refine V_aload_n (q := 0) dX12_stop_41 rfl rfl ?_
        refine V_getr f_X12_13 dX12_stop_42 rfl rfl ?_
        refine V_aload_n (q := 0) dX12_stop_45 rfl rfl ?_
        refine V_geti f_X12_147 dX12_stop_46 rfl rfl ?_
        refine V_iload_n (q := 2) dX12_stop_49 rfl rfl ?_
        have t := t _ rfl
        refine V_iast dX12_stop_50 rfl n6 ?_
        refine V_aload_n (q := 0) dX12_stop_51 rfl rfl ?_
        refine V_dup dX12_stop_52 rfl ?_
        refine V_geti f_X12_147 dX12_stop_53 rfl rfl ?_
        refine V_iconst (v := 1) dX12_stop_56 rfl ?_
        refine V_iadd dX12_stop_57 ?_
        have t := t _ rfl
        refine V_put f_X12_147 p_X12_0 dX12_stop_58 rfl rfl ?_
        refine V_aload_n (q := 0) dX12_stop_61 rfl rfl ?_
        refine V_geti f_X12_147 dX12_stop_62 rfl rfl ?_
        refine V_iconst (v := 1) dX12_stop_65 rfl ?_
        refine V_isub dX12_stop_66 ?_
        exact V_iret rfl dX12_stop_67 t
      · have t := it_t q t
        refine V_bipush (v := (-2)) dX12_stop_28 rfl ?_
        exact V_iret rfl dX12_stop_30 t
set_option maxRecDepth 20000 in
set_option maxHeartbeats 4000000 in
theorem s_Model_fare_0 (G : GA) (h : HP) (x1 : Int32) (x2 : Int32) (x3 : Int32) (K : Int32 → HP → Prop) (t :
  P_Model_in G h x1 0 3 (fun (b2 : Bool) (h1 : HP) =>
    if b2 = true then (
      P_Model_in G h1 x2 0 3 (fun (b4 : Bool) (h3 : HP) =>
        if b4 = true then (
          P_Model_in G h3 x3 0 9 (fun (b6 : Bool) (h5 : HP) =>
            if b6 = true then (
              vp_in ((4 * x1) + x2) 16 ∧
              ∀ h8 : HP, h8 = up h5 70 (tn ((4 * x1) + x2)) x3 →
              K (h5 70 (tn ((4 * x1) + x2))) h8
            ) else (
              K (-2) h5
            )
          )
        ) else (
          K (-2) h3
        )
      )
    ) else (
      K (-2) h1
    )
  )) : P_Model_fare G h x1 x2 x3 K := by
  refine Sp_of_V pf_X12_fare (Nat.le_of_ble_eq_true rfl) rfl ?_
  refine V_iload_n (q := 1) dX12_fare_0 rfl rfl ?_
  refine V_iconst (v := 0) dX12_fare_1 rfl ?_
  refine V_iconst (v := 3) dX12_fare_2 rfl ?_
  refine V_callS [.int x1, .int 0, .int 3] [] g_X12_fare_X12_in wt_X12_in dX12_fare_3 rfl rfl (Nat.le_of_ble_eq_true rfl) t (fun _ h1 t => ?_)
  obtain ⟨b2, rfl, t⟩ := t
  refine V_ifb_eq (tgt := 28) dX12_fare_6 (by decide) (fun q => ?_) (fun q => ?_)
  · have t := it_f q t
    refine V_bipush (v := (-2)) dX12_fare_28 rfl ?_
    exact V_iret rfl dX12_fare_30 t
  · have t := it_t q t
    refine V_iload_n (q := 2) dX12_fare_9 rfl rfl ?_
    refine V_iconst (v := 0) dX12_fare_10 rfl ?_
    refine V_iconst (v := 3) dX12_fare_11 rfl ?_
    refine V_callS [.int x2, .int 0, .int 3] [] g_X12_fare_X12_in wt_X12_in dX12_fare_12 rfl rfl (Nat.le_of_ble_eq_true rfl) t (fun _ h3 t => ?_)
    obtain ⟨b4, rfl, t⟩ := t
    refine V_ifb_eq (tgt := 28) dX12_fare_15 (by decide) (fun q => ?_) (fun q => ?_)
    · have t := it_f q t
      refine V_bipush (v := (-2)) dX12_fare_28 rfl ?_
      exact V_iret rfl dX12_fare_30 t
    · have t := it_t q t
      refine V_iload_n (q := 3) dX12_fare_18 rfl rfl ?_
      refine V_iconst (v := 0) dX12_fare_19 rfl ?_
      refine V_bipush (v := 9) dX12_fare_20 rfl ?_
      refine V_callS [.int x3, .int 0, .int 9] [] g_X12_fare_X12_in wt_X12_in dX12_fare_22 rfl rfl (Nat.le_of_ble_eq_true rfl) t (fun _ h5 t => ?_)
      obtain ⟨b6, rfl, t⟩ := t
      refine V_ifb_ne (tgt := 31) dX12_fare_25 (by decide) (fun q => ?_) (fun q => ?_)
      · have t := it_t q t
        refine V_aload_n (q := 0) dX12_fare_31 rfl rfl ?_
        refine V_getr f_X12_16 dX12_fare_32 rfl rfl ?_
        refine V_iconst (v := 4) dX12_fare_35 rfl ?_
        refine V_iload_n (q := 1) dX12_fare_36 rfl rfl ?_
        refine V_imul dX12_fare_37 ?_
        refine V_iload_n (q := 2) dX12_fare_38 rfl rfl ?_
        refine V_iadd dX12_fare_39 ?_
        obtain ⟨n7, t⟩ := t
        refine V_iald dX12_fare_40 rfl n7 ?_
        refine V_istore (L' := [(0, .ref (G.1 67)), (1, .int x1), (2, .int x2), (3, .int x3), (4, .int (h5 70 (tn ((4 * x1) + x2))))]) dX12_fare_41 (by decide) rfl rfl ?_
        refine V_aload_n (q := 0) dX12_fare_43 rfl rfl ?_
        refine V_getr f_X12_16 dX12_fare_44 rfl rfl ?_
        refine V_iconst (v := 4) dX12_fare_47 rfl ?_
        refine V_iload_n (q := 1) dX12_fare_48 rfl rfl ?_
        refine V_imul dX12_fare_49 ?_
        refine V_iload_n (q := 2) dX12_fare_50 rfl rfl ?_
        refine V_iadd dX12_fare_51 ?_
        refine V_iload_n (q := 3) dX12_fare_52 rfl rfl ?_
        have t := t _ rfl
        refine V_iast dX12_fare_53 rfl n7 ?_
        refine V_iload (q := 4) dX12_fare_54 rfl ?_
        exact V_iret rfl dX12_fare_56 t
      · have t := it_f q t
        refine V_bipush (v := (-2)) dX12_fare_28 rfl ?_
        exact V_iret rfl dX12_fare_30 t
set_option maxRecDepth 20000 in
set_option maxHeartbeats 4000000 in
theorem s_Model_isDay_0 (G : GA) (h : HP) (x0 : Int32) (K : Bool → HP → Prop) (t :
  P_Model_in G h x0 0 99 (fun (b2 : Bool) (h1 : HP) =>
    K b2 h1
  )) : P_Model_isDay G h x0 K := by
  refine Sp_of_V pf_X12_isDay (Nat.le_of_ble_eq_true rfl) rfl ?_
  refine V_iload_n (q := 0) dX12_isDay_0 rfl rfl ?_
  refine V_iconst (v := 0) dX12_isDay_1 rfl ?_
  refine V_bipush (v := 99) dX12_isDay_2 rfl ?_
  refine V_callS [.int x0, .int 0, .int 99] [] g_X12_isDay_X12_in wt_X12_in dX12_isDay_4 rfl rfl (Nat.le_of_ble_eq_true rfl) t (fun _ h1 t => ?_)
  obtain ⟨b2, rfl, t⟩ := t
  exact V_zret (b := b2) rfl dX12_isDay_7 t
set_option maxRecDepth 20000 in
set_option maxHeartbeats 4000000 in
theorem s_Model_day_0 (G : GA) (h : HP) (x1 : Int32) (x2 : Int32) (K : Int32 → HP → Prop) (t :
  P_Model_isDay G h x1 (fun (b2 : Bool) (h1 : HP) =>
    if b2 = true then (
      P_Model_in G h1 x2 0 6 (fun (b4 : Bool) (h3 : HP) =>
        if b4 = true then (
          vp_in x1 100 ∧
          ∀ h6 : HP, h6 = up h3 71 (tn x1) x2 →
          K (h3 71 (tn x1)) h6
        ) else (
          K (-2) h3
        )
      )
    ) else (
      K (-2) h1
    )
  )) : P_Model_day G h x1 x2 K := by
  refine Sp_of_V pf_X12_day (Nat.le_of_ble_eq_true rfl) rfl ?_
  refine V_iload_n (q := 1) dX12_day_0 rfl rfl ?_
  refine V_callS [.int x1] [] g_X12_day_X12_isDay wt_X12_isDay dX12_day_1 rfl rfl (Nat.le_of_ble_eq_true rfl) t (fun _ h1 t => ?_)
  obtain ⟨b2, rfl, t⟩ := t
  refine V_ifb_eq (tgt := 17) dX12_day_4 (by decide) (fun q => ?_) (fun q => ?_)
  · have t := it_f q t
    refine V_bipush (v := (-2)) dX12_day_17 rfl ?_
    exact V_iret rfl dX12_day_19 t
  · have t := it_t q t
    refine V_iload_n (q := 2) dX12_day_7 rfl rfl ?_
    refine V_iconst (v := 0) dX12_day_8 rfl ?_
    refine V_bipush (v := 6) dX12_day_9 rfl ?_
    refine V_callS [.int x2, .int 0, .int 6] [] g_X12_day_X12_in wt_X12_in dX12_day_11 rfl rfl (Nat.le_of_ble_eq_true rfl) t (fun _ h3 t => ?_)
    obtain ⟨b4, rfl, t⟩ := t
    refine V_ifb_ne (tgt := 20) dX12_day_14 (by decide) (fun q => ?_) (fun q => ?_)
    · have t := it_t q t
      refine V_aload_n (q := 0) dX12_day_20 rfl rfl ?_
      refine V_getr f_X12_19 dX12_day_21 rfl rfl ?_
      refine V_iload_n (q := 1) dX12_day_24 rfl rfl ?_
      obtain ⟨n5, t⟩ := t
      refine V_iald dX12_day_25 rfl n5 ?_
      refine V_istore_n (L' := [(0, .ref (G.1 67)), (1, .int x1), (2, .int x2), (3, .int (h3 71 (tn x1)))]) dX12_day_26 rfl (by decide) rfl rfl ?_
      refine V_aload_n (q := 0) dX12_day_27 rfl rfl ?_
      refine V_getr f_X12_19 dX12_day_28 rfl rfl ?_
      refine V_iload_n (q := 1) dX12_day_31 rfl rfl ?_
      refine V_iload_n (q := 2) dX12_day_32 rfl rfl ?_
      have t := t _ rfl
      refine V_iast dX12_day_33 rfl n5 ?_
      refine V_iload_n (q := 3) dX12_day_34 rfl rfl ?_
      exact V_iret rfl dX12_day_35 t
    · have t := it_f q t
      refine V_bipush (v := (-2)) dX12_day_17 rfl ?_
      exact V_iret rfl dX12_day_19 t
set_option maxRecDepth 20000 in
set_option maxHeartbeats 4000000 in
theorem s_Model_trip_0 (G : GA) (h : HP) (x1 : Int32) (x2 : Int32) (x3 : Int32) (K : Int32 → HP → Prop) (t :
  P_Model_in G h x1 0 2 (fun (b2 : Bool) (h1 : HP) =>
    if b2 = true then (
      P_Model_in G h1 x2 1 127 (fun (b4 : Bool) (h3 : HP) =>
        if b4 = true then (
          if x1 = 0 then (
            if x3 = 0 then (
              H_Model_trip_40 G h3 x1 x2 x3 K
            ) else (
              K (-2) h3
            )
          ) else (
            P_Model_in G h3 x3 1 50 (fun (b6 : Bool) (h5 : HP) =>
              if b6 = true then (
                H_Model_trip_40 G h5 x1 x2 x3 K
              ) else (
                K (-2) h5
              )
            )
          )
        ) else (
          K (-2) h3
        )
      )
    ) else (
      K (-2) h1
    )
  )) : P_Model_trip G h x1 x2 x3 K := by
  refine Sp_of_V pf_X12_trip (Nat.le_of_ble_eq_true rfl) rfl ?_
  refine V_iload_n (q := 1) dX12_trip_0 rfl rfl ?_
  refine V_iconst (v := 0) dX12_trip_1 rfl ?_
  refine V_iconst (v := 2) dX12_trip_2 rfl ?_
  refine V_callS [.int x1, .int 0, .int 2] [] g_X12_trip_X12_in wt_X12_in dX12_trip_3 rfl rfl (Nat.le_of_ble_eq_true rfl) t (fun _ h1 t => ?_)
  obtain ⟨b2, rfl, t⟩ := t
  refine V_ifb_eq (tgt := 49) dX12_trip_6 (by decide) (fun q => ?_) (fun q => ?_)
  · have t := it_f q t
    refine V_bipush (v := (-2)) dX12_trip_49 rfl ?_
    exact V_iret rfl dX12_trip_51 t
  · have t := it_t q t
    refine V_iload_n (q := 2) dX12_trip_9 rfl rfl ?_
    refine V_iconst (v := 1) dX12_trip_10 rfl ?_
    refine V_bipush (v := 127) dX12_trip_11 rfl ?_
    refine V_callS [.int x2, .int 1, .int 127] [] g_X12_trip_X12_in wt_X12_in dX12_trip_13 rfl rfl (Nat.le_of_ble_eq_true rfl) t (fun _ h3 t => ?_)
    obtain ⟨b4, rfl, t⟩ := t
    refine V_ifb_eq (tgt := 49) dX12_trip_16 (by decide) (fun q => ?_) (fun q => ?_)
    · have t := it_f q t
      refine V_bipush (v := (-2)) dX12_trip_49 rfl ?_
      exact V_iret rfl dX12_trip_51 t
    · have t := it_t q t
      refine V_iload_n (q := 1) dX12_trip_19 rfl rfl ?_
      refine V_if_ne (tgt := 30) dX12_trip_20 (by decide) (fun q => ?_) (fun q => ?_)
      · have t := it_f q t
        refine V_iload_n (q := 3) dX12_trip_30 rfl rfl ?_
        refine V_iconst (v := 1) dX12_trip_31 rfl ?_
        refine V_bipush (v := 50) dX12_trip_32 rfl ?_
        refine V_callS [.int x3, .int 1, .int 50] [] g_X12_trip_X12_in wt_X12_in dX12_trip_34 rfl rfl (Nat.le_of_ble_eq_true rfl) t (fun _ h5 t => ?_)
        obtain ⟨b6, rfl, t⟩ := t
        refine V_ifb_eq (tgt := 49) dX12_trip_37 (by decide) (fun q => ?_) (fun q => ?_)
        · have t := it_f q t
          refine V_bipush (v := (-2)) dX12_trip_49 rfl ?_
          exact V_iret rfl dX12_trip_51 t
        · have t := it_t q t
          exact t
      · have t := it_t q t
        refine V_iload_n (q := 3) dX12_trip_23 rfl rfl ?_
        refine V_if_eq (tgt := 40) dX12_trip_24 (by decide) (fun q => ?_) (fun q => ?_)
        · have t := it_t q t
          exact t
        · have t := it_f q t
          refine V_goto (tgt := 49) dX12_trip_27 (by decide) ?_
          refine V_bipush (v := (-2)) dX12_trip_49 rfl ?_
          exact V_iret rfl dX12_trip_51 t
set_option maxRecDepth 20000 in
set_option maxHeartbeats 4000000 in
theorem s_Model_trip_40 (G : GA) (h : HP) (x1 : Int32) (x2 : Int32) (x3 : Int32) (K : Int32 → HP → Prop) (t :
  if (h 67 1) = 24 then (
    K (-2) h
  ) else (
    vp_in (h 67 1) 24 ∧
    ∀ h1 : HP, h1 = up h 72 (tn (h 67 1)) x1 →
    ∀ h3 : HP, h3 = up h1 73 (tn (h 67 1)) x2 →
    ∀ h4 : HP, h4 = up h3 74 (tn (h 67 1)) x3 →
    ∀ h5 : HP, h5 = up h4 75 (tn (h 67 1)) 0 →
    ∀ h6 : HP, h6 = up h5 67 1 ((h 67 1) + 1) →
    K ((h6 67 1) - 1) h6
  )) : H_Model_trip_40 G h x1 x2 x3 K := by
  unfold H_Model_trip_40
  refine V_aload_n (q := 0) dX12_trip_40 rfl rfl ?_
  refine V_geti f_X12_154 dX12_trip_41 rfl rfl ?_
  refine V_bipush (v := 24) dX12_trip_44 rfl ?_
  refine V_icmp_ne (tgt := 52) dX12_trip_46 (by decide) (fun q => ?_) (fun q => ?_)
  · have t := it_f q t
    refine V_aload_n (q := 0) dX12_trip_52 rfl rfl ?_
    refine V_getr f_X12_22 dX12_trip_53 rfl rfl ?_
    refine V_aload_n (q := 0) dX12_trip_56 rfl rfl ?_
    refine V_geti f_X12_154 dX12_trip_57 rfl rfl ?_
    refine V_iload_n (q := 1) dX12_trip_60 rfl rfl ?_
    obtain ⟨n2, t⟩ := t
    have t := t _ rfl
    refine V_iast dX12_trip_61 rfl n2 ?_
    refine V_aload_n (q := 0) dX12_trip_62 rfl rfl ?_
    refine V_getr f_X12_25 dX12_trip_63 rfl rfl ?_
    refine V_aload_n (q := 0) dX12_trip_66 rfl rfl ?_
    refine V_geti f_X12_154 dX12_trip_67 rfl rfl ?_
    refine V_iload_n (q := 2) dX12_trip_70 rfl rfl ?_
    have t := t _ rfl
    refine V_iast dX12_trip_71 rfl n2 ?_
    refine V_aload_n (q := 0) dX12_trip_72 rfl rfl ?_
    refine V_getr f_X12_28 dX12_trip_73 rfl rfl ?_
    refine V_aload_n (q := 0) dX12_trip_76 rfl rfl ?_
    refine V_geti f_X12_154 dX12_trip_77 rfl rfl ?_
    refine V_iload_n (q := 3) dX12_trip_80 rfl rfl ?_
    have t := t _ rfl
    refine V_iast dX12_trip_81 rfl n2 ?_
    refine V_aload_n (q := 0) dX12_trip_82 rfl rfl ?_
    refine V_getr f_X12_31 dX12_trip_83 rfl rfl ?_
    refine V_aload_n (q := 0) dX12_trip_86 rfl rfl ?_
    refine V_geti f_X12_154 dX12_trip_87 rfl rfl ?_
    refine V_iconst (v := 0) dX12_trip_90 rfl ?_
    have t := t _ rfl
    refine V_iast dX12_trip_91 rfl n2 ?_
    refine V_aload_n (q := 0) dX12_trip_92 rfl rfl ?_
    refine V_dup dX12_trip_93 rfl ?_
    refine V_geti f_X12_154 dX12_trip_94 rfl rfl ?_
    refine V_iconst (v := 1) dX12_trip_97 rfl ?_
    refine V_iadd dX12_trip_98 ?_
    have t := t _ rfl
    refine V_put f_X12_154 p_X12_1 dX12_trip_99 rfl rfl ?_
    refine V_aload_n (q := 0) dX12_trip_102 rfl rfl ?_
    refine V_geti f_X12_154 dX12_trip_103 rfl rfl ?_
    refine V_iconst (v := 1) dX12_trip_106 rfl ?_
    refine V_isub dX12_trip_107 ?_
    exact V_iret rfl dX12_trip_108 t
  · have t := it_t q t
    refine V_bipush (v := (-2)) dX12_trip_49 rfl ?_
    exact V_iret rfl dX12_trip_51 t
set_option maxRecDepth 20000 in
set_option maxHeartbeats 4000000 in
theorem s_Model_isStop_0 (G : GA) (h : HP) (x1 : Int32) (K : Bool → HP → Prop) (t :
  P_Model_in G h x1 0 ((h 67 0) - 1) (fun (b2 : Bool) (h1 : HP) =>
    K b2 h1
  )) : P_Model_isStop G h x1 K := by
  refine Sp_of_V pf_X12_isStop (Nat.le_of_ble_eq_true rfl) rfl ?_
  refine V_iload_n (q := 1) dX12_isStop_0 rfl rfl ?_
  refine V_iconst (v := 0) dX12_isStop_1 rfl ?_
  refine V_aload_n (q := 0) dX12_isStop_2 rfl rfl ?_
  refine V_geti f_X12_147 dX12_isStop_3 rfl rfl ?_
  refine V_iconst (v := 1) dX12_isStop_6 rfl ?_
  refine V_isub dX12_isStop_7 ?_
  refine V_callS [.int x1, .int 0, .int ((h 67 0) - 1)] [] g_X12_isStop_X12_in wt_X12_in dX12_isStop_8 rfl rfl (Nat.le_of_ble_eq_true rfl) t (fun _ h1 t => ?_)
  obtain ⟨b2, rfl, t⟩ := t
  exact V_zret (b := b2) rfl dX12_isStop_11 t
set_option maxRecDepth 20000 in
set_option maxHeartbeats 4000000 in
theorem s_Model_isTrip_0 (G : GA) (h : HP) (x1 : Int32) (K : Bool → HP → Prop) (t :
  P_Model_in G h x1 0 ((h 67 1) - 1) (fun (b2 : Bool) (h1 : HP) =>
    K b2 h1
  )) : P_Model_isTrip G h x1 K := by
  refine Sp_of_V pf_X12_isTrip (Nat.le_of_ble_eq_true rfl) rfl ?_
  refine V_iload_n (q := 1) dX12_isTrip_0 rfl rfl ?_
  refine V_iconst (v := 0) dX12_isTrip_1 rfl ?_
  refine V_aload_n (q := 0) dX12_isTrip_2 rfl rfl ?_
  refine V_geti f_X12_154 dX12_isTrip_3 rfl rfl ?_
  refine V_iconst (v := 1) dX12_isTrip_6 rfl ?_
  refine V_isub dX12_isTrip_7 ?_
  refine V_callS [.int x1, .int 0, .int ((h 67 1) - 1)] [] g_X12_isTrip_X12_in wt_X12_in dX12_isTrip_8 rfl rfl (Nat.le_of_ble_eq_true rfl) t (fun _ h1 t => ?_)
  obtain ⟨b2, rfl, t⟩ := t
  exact V_zret (b := b2) rfl dX12_isTrip_11 t
set_option maxRecDepth 20000 in
set_option maxHeartbeats 4000000 in
theorem s_Model_call_0 (G : GA) (h : HP) (x1 : Int32) (x2 : Int32) (x3 : Int32) (x4 : Int32) (K : Int32 → HP → Prop) (t :
  P_Model_isTrip G h x1 (fun (b2 : Bool) (h1 : HP) =>
    if b2 = true then (
      P_Model_isStop G h1 x2 (fun (b4 : Bool) (h3 : HP) =>
        if b4 = true then (
          vp_in x1 24 ∧
          if (h3 75 (tn x1)) = 8 then (
            K (-2) h3
          ) else (
            if (h3 75 (tn x1)) = 0 then (
              H_Model_call_65 G h3 x1 x2 x3 x4 ((8 * x1) + (h3 75 (tn x1))) 0 K
            ) else (
              vp_in (((8 * x1) + (h3 75 (tn x1))) - 1) 192 ∧
              H_Model_call_65 G h3 x1 x2 x3 x4 ((8 * x1) + (h3 75 (tn x1))) (h3 78 (tn (((8 * x1) + (h3 75 (tn x1))) - 1))) K
            )
          )
        ) else (
          K (-2) h3
        )
      )
    ) else (
      K (-2) h1
    )
  )) : P_Model_call G h x1 x2 x3 x4 K := by
  refine Sp_of_V pf_X12_call (Nat.le_of_ble_eq_true rfl) rfl ?_
  refine V_aload_n (q := 0) dX12_call_0 rfl rfl ?_
  refine V_iload_n (q := 1) dX12_call_1 rfl rfl ?_
  refine V_callV [.int x1] [] g_X12_call_X12_isTrip wi_X12_isTrip ws_X12_isTrip dX12_call_2 rfl rfl rfl rfl rfl (Nat.le_of_ble_eq_true rfl) t (fun _ h1 t => ?_)
  obtain ⟨b2, rfl, t⟩ := t
  refine V_ifb_eq (tgt := 27) dX12_call_5 (by decide) (fun q => ?_) (fun q => ?_)
  · have t := it_f q t
    refine V_bipush (v := (-2)) dX12_call_27 rfl ?_
    exact V_iret rfl dX12_call_29 t
  · have t := it_t q t
    refine V_aload_n (q := 0) dX12_call_8 rfl rfl ?_
    refine V_iload_n (q := 2) dX12_call_9 rfl rfl ?_
    refine V_callV [.int x2] [] g_X12_call_X12_isStop wi_X12_isStop ws_X12_isStop dX12_call_10 rfl rfl rfl rfl rfl (Nat.le_of_ble_eq_true rfl) t (fun _ h3 t => ?_)
    obtain ⟨b4, rfl, t⟩ := t
    refine V_ifb_eq (tgt := 27) dX12_call_13 (by decide) (fun q => ?_) (fun q => ?_)
    · have t := it_f q t
      refine V_bipush (v := (-2)) dX12_call_27 rfl ?_
      exact V_iret rfl dX12_call_29 t
    · have t := it_t q t
      refine V_aload_n (q := 0) dX12_call_16 rfl rfl ?_
      refine V_getr f_X12_31 dX12_call_17 rfl rfl ?_
      refine V_iload_n (q := 1) dX12_call_20 rfl rfl ?_
      obtain ⟨n5, t⟩ := t
      refine V_iald dX12_call_21 rfl n5 ?_
      refine V_bipush (v := 8) dX12_call_22 rfl ?_
      refine V_icmp_ne (tgt := 30) dX12_call_24 (by decide) (fun q => ?_) (fun q => ?_)
      · have t := it_f q t
        refine V_bipush (v := 8) dX12_call_30 rfl ?_
        refine V_iload_n (q := 1) dX12_call_32 rfl rfl ?_
        refine V_imul dX12_call_33 ?_
        refine V_aload_n (q := 0) dX12_call_34 rfl rfl ?_
        refine V_getr f_X12_31 dX12_call_35 rfl rfl ?_
        refine V_iload_n (q := 1) dX12_call_38 rfl rfl ?_
        refine V_iald dX12_call_39 rfl n5 ?_
        refine V_iadd dX12_call_40 ?_
        refine V_istore (L' := [(0, .ref (G.1 67)), (1, .int x1), (2, .int x2), (3, .int x3), (4, .int x4), (5, .int ((8 * x1) + (h3 75 (tn x1))))]) dX12_call_41 (by decide) rfl rfl ?_
        refine V_aload_n (q := 0) dX12_call_43 rfl rfl ?_
        refine V_getr f_X12_31 dX12_call_44 rfl rfl ?_
        refine V_iload_n (q := 1) dX12_call_47 rfl rfl ?_
        refine V_iald dX12_call_48 rfl n5 ?_
        refine V_if_ne (tgt := 56) dX12_call_49 (by decide) (fun q => ?_) (fun q => ?_)
        · have t := it_f q t
          refine V_aload_n (q := 0) dX12_call_56 rfl rfl ?_
          refine V_getr f_X12_40 dX12_call_57 rfl rfl ?_
          refine V_iload (q := 5) dX12_call_60 rfl ?_
          refine V_iconst (v := 1) dX12_call_62 rfl ?_
          refine V_isub dX12_call_63 ?_
          obtain ⟨n6, t⟩ := t
          refine V_iald dX12_call_64 rfl n6 ?_
          exact t
        · have t := it_t q t
          refine V_iconst (v := 0) dX12_call_52 rfl ?_
          refine V_goto (tgt := 65) dX12_call_53 (by decide) ?_
          exact t
      · have t := it_t q t
        refine V_bipush (v := (-2)) dX12_call_27 rfl ?_
        exact V_iret rfl dX12_call_29 t
set_option maxRecDepth 20000 in
set_option maxHeartbeats 4000000 in
theorem s_Model_call_65 (G : GA) (h : HP) (x1 : Int32) (x2 : Int32) (x3 : Int32) (x4 : Int32) (x5 : Int32) (y0 : Int32) (K : Int32 → HP → Prop) (t :
  if x3 < y0 then (
    K (-2) h
  ) else (
    if x4 < x3 then (
      K (-2) h
    ) else (
      vp_in x1 24 ∧
      if (h 72 (tn x1)) = 2 then (
        H_Model_call_100 G h x1 x2 x3 x4 x5 2879 x4 K
      ) else (
        H_Model_call_100 G h x1 x2 x3 x4 x5 1439 x4 K
      )
    )
  )) : H_Model_call_65 G h x1 x2 x3 x4 x5 y0 K := by
  unfold H_Model_call_65
  refine V_istore (L' := [(0, .ref (G.1 67)), (1, .int x1), (2, .int x2), (3, .int x3), (4, .int x4), (5, .int x5), (6, .int y0)]) dX12_call_65 (by decide) rfl rfl ?_
  refine V_iload_n (q := 3) dX12_call_67 rfl rfl ?_
  refine V_iload (q := 6) dX12_call_68 rfl ?_
  refine V_icmp_lt (tgt := 103) dX12_call_70 (by decide) (fun q => ?_) (fun q => ?_)
  · have t := it_t q t
    refine V_bipush (v := (-2)) dX12_call_103 rfl ?_
    exact V_iret rfl dX12_call_105 t
  · have t := it_f q t
    refine V_iload (q := 4) dX12_call_73 rfl ?_
    refine V_iload_n (q := 3) dX12_call_75 rfl rfl ?_
    refine V_icmp_lt (tgt := 103) dX12_call_76 (by decide) (fun q => ?_) (fun q => ?_)
    · have t := it_t q t
      refine V_bipush (v := (-2)) dX12_call_103 rfl ?_
      exact V_iret rfl dX12_call_105 t
    · have t := it_f q t
      refine V_iload (q := 4) dX12_call_79 rfl ?_
      refine V_aload_n (q := 0) dX12_call_81 rfl rfl ?_
      refine V_getr f_X12_22 dX12_call_82 rfl rfl ?_
      refine V_iload_n (q := 1) dX12_call_85 rfl rfl ?_
      obtain ⟨n1, t⟩ := t
      refine V_iald dX12_call_86 rfl n1 ?_
      refine V_iconst (v := 2) dX12_call_87 rfl ?_
      refine V_icmp_ne (tgt := 97) dX12_call_88 (by decide) (fun q => ?_) (fun q => ?_)
      · have t := it_f q t
        refine V_sipush (v := 1439) dX12_call_97 rfl ?_
        refine V_pick (L' := [(0, .ref (G.1 67)), (1, .int x1), (2, .int x2), (3, .int x3), (4, .int x4), (5, .int x5)]) [0, 1, 2, 3, 4, 5] rfl ?_
        exact t
      · have t := it_t q t
        refine V_sipush (v := 2879) dX12_call_91 rfl ?_
        refine V_goto (tgt := 100) dX12_call_94 (by decide) ?_
        refine V_pick (L' := [(0, .ref (G.1 67)), (1, .int x1), (2, .int x2), (3, .int x3), (4, .int x4), (5, .int x5)]) [0, 1, 2, 3, 4, 5] rfl ?_
        exact t
set_option maxRecDepth 20000 in
set_option maxHeartbeats 4000000 in
theorem s_Model_call_100 (G : GA) (h : HP) (x1 : Int32) (x2 : Int32) (x3 : Int32) (x4 : Int32) (x5 : Int32) (y0 : Int32) (y1 : Int32) (K : Int32 → HP → Prop) (t :
  if y1 ≤ y0 then (
    vp_in x5 192 ∧
    ∀ h1 : HP, h1 = up h 76 (tn x5) x2 →
    ∀ h3 : HP, h3 = up h1 77 (tn x5) x3 →
    ∀ h4 : HP, h4 = up h3 78 (tn x5) x4 →
    ∀ h5 : HP, h5 = up h4 79 (tn x5) (b2i false) →
    vp_in x1 24 ∧
    ∀ h7 : HP, h7 = up h5 75 (tn x1) ((h 75 (tn x1)) + 1) →
    K ((h7 75 (tn x1)) - 1) h7
  ) else (
    K (-2) h
  )) : H_Model_call_100 G h x1 x2 x3 x4 x5 y0 y1 K := by
  unfold H_Model_call_100
  refine V_icmp_le (tgt := 106) dX12_call_100 (by decide) (fun q => ?_) (fun q => ?_)
  · have t := it_t q t
    refine V_aload_n (q := 0) dX12_call_106 rfl rfl ?_
    refine V_getr f_X12_34 dX12_call_107 rfl rfl ?_
    refine V_iload (q := 5) dX12_call_110 rfl ?_
    refine V_iload_n (q := 2) dX12_call_112 rfl rfl ?_
    obtain ⟨n2, t⟩ := t
    have t := t _ rfl
    refine V_iast dX12_call_113 rfl n2 ?_
    refine V_aload_n (q := 0) dX12_call_114 rfl rfl ?_
    refine V_getr f_X12_37 dX12_call_115 rfl rfl ?_
    refine V_iload (q := 5) dX12_call_118 rfl ?_
    refine V_iload_n (q := 3) dX12_call_120 rfl rfl ?_
    have t := t _ rfl
    refine V_iast dX12_call_121 rfl n2 ?_
    refine V_aload_n (q := 0) dX12_call_122 rfl rfl ?_
    refine V_getr f_X12_40 dX12_call_123 rfl rfl ?_
    refine V_iload (q := 5) dX12_call_126 rfl ?_
    refine V_iload (q := 4) dX12_call_128 rfl ?_
    have t := t _ rfl
    refine V_iast dX12_call_130 rfl n2 ?_
    refine V_aload_n (q := 0) dX12_call_131 rfl rfl ?_
    refine V_getr f_X12_43 dX12_call_132 rfl rfl ?_
    refine V_iload (q := 5) dX12_call_135 rfl ?_
    refine V_iconst (v := 0) dX12_call_137 rfl ?_
    have t := t _ rfl
    refine V_zast (b := false) dX12_call_138 rfl n2 ?_
    refine V_aload_n (q := 0) dX12_call_139 rfl rfl ?_
    refine V_getr f_X12_31 dX12_call_140 rfl rfl ?_
    refine V_iload_n (q := 1) dX12_call_143 rfl rfl ?_
    refine V_dup2 dX12_call_144 rfl rfl ?_
    obtain ⟨n6, t⟩ := t
    refine V_iald dX12_call_145 rfl n6 ?_
    refine V_iconst (v := 1) dX12_call_146 rfl ?_
    refine V_iadd dX12_call_147 ?_
    have t := t _ rfl
    refine V_iast dX12_call_148 rfl n6 ?_
    refine V_aload_n (q := 0) dX12_call_149 rfl rfl ?_
    refine V_getr f_X12_31 dX12_call_150 rfl rfl ?_
    refine V_iload_n (q := 1) dX12_call_153 rfl rfl ?_
    refine V_iald dX12_call_154 rfl n6 ?_
    refine V_iconst (v := 1) dX12_call_155 rfl ?_
    refine V_isub dX12_call_156 ?_
    exact V_iret rfl dX12_call_157 t
  · have t := it_f q t
    refine V_bipush (v := (-2)) dX12_call_103 rfl ?_
    exact V_iret rfl dX12_call_105 t
set_option maxRecDepth 20000 in
set_option maxHeartbeats 4000000 in
theorem s_Model_isCall_0 (G : GA) (h : HP) (x1 : Int32) (x2 : Int32) (K : Bool → HP → Prop) (t :
  P_Model_isTrip G h x1 (fun (b2 : Bool) (h1 : HP) =>
    if b2 = true then (
      vp_in x1 24 ∧
      P_Model_in G h1 x2 0 ((h1 75 (tn x1)) - 1) (fun (b5 : Bool) (h4 : HP) =>
        if b5 = true then (
          K true h4
        ) else (
          K false h4
        )
      )
    ) else (
      K false h1
    )
  )) : P_Model_isCall G h x1 x2 K := by
  refine Sp_of_V pf_X12_isCall (Nat.le_of_ble_eq_true rfl) rfl ?_
  refine V_aload_n (q := 0) dX12_isCall_0 rfl rfl ?_
  refine V_iload_n (q := 1) dX12_isCall_1 rfl rfl ?_
  refine V_callV [.int x1] [] g_X12_isCall_X12_isTrip wi_X12_isTrip ws_X12_isTrip dX12_isCall_2 rfl rfl rfl rfl rfl (Nat.le_of_ble_eq_true rfl) t (fun _ h1 t => ?_)
  obtain ⟨b2, rfl, t⟩ := t
  refine V_ifb_eq (tgt := 28) dX12_isCall_5 (by decide) (fun q => ?_) (fun q => ?_)
  · have t := it_f q t
    refine V_iconst (v := 0) dX12_isCall_28 rfl ?_
    exact V_zret (b := false) rfl dX12_isCall_29 t
  · have t := it_t q t
    refine V_iload_n (q := 2) dX12_isCall_8 rfl rfl ?_
    refine V_iconst (v := 0) dX12_isCall_9 rfl ?_
    refine V_aload_n (q := 0) dX12_isCall_10 rfl rfl ?_
    refine V_getr f_X12_31 dX12_isCall_11 rfl rfl ?_
    refine V_iload_n (q := 1) dX12_isCall_14 rfl rfl ?_
    obtain ⟨n3, t⟩ := t
    refine V_iald dX12_isCall_15 rfl n3 ?_
    refine V_iconst (v := 1) dX12_isCall_16 rfl ?_
    refine V_isub dX12_isCall_17 ?_
    refine V_callS [.int x2, .int 0, .int ((h1 75 (tn x1)) - 1)] [] g_X12_isCall_X12_in wt_X12_in dX12_isCall_18 rfl rfl (Nat.le_of_ble_eq_true rfl) t (fun _ h4 t => ?_)
    obtain ⟨b5, rfl, t⟩ := t
    refine V_ifb_eq (tgt := 28) dX12_isCall_21 (by decide) (fun q => ?_) (fun q => ?_)
    · have t := it_f q t
      refine V_iconst (v := 0) dX12_isCall_28 rfl ?_
      exact V_zret (b := false) rfl dX12_isCall_29 t
    · have t := it_t q t
      refine V_iconst (v := 1) dX12_isCall_24 rfl ?_
      refine V_goto (tgt := 29) dX12_isCall_25 (by decide) ?_
      exact V_zret (b := true) rfl dX12_isCall_29 t
set_option maxRecDepth 20000 in
set_option maxHeartbeats 4000000 in
theorem s_Model_miss_0 (G : GA) (h : HP) (x1 : Int32) (x2 : Int32) (x3 : Bool) (K : Int32 → HP → Prop) (t :
  P_Model_isCall G h x1 x2 (fun (b2 : Bool) (h1 : HP) =>
    if b2 = true then (
      vp_in ((8 * x1) + x2) 192 ∧
      ∀ h4 : HP, h4 = up h1 79 (tn ((8 * x1) + x2)) (b2i x3) →
      if (h1 79 (tn ((8 * x1) + x2))) = 0 then (
        K 0 h4
      ) else (
        K 1 h4
      )
    ) else (
      K (-2) h1
    )
  )) : P_Model_miss G h x1 x2 x3 K := by
  refine Sp_of_V pf_X12_miss (Nat.le_of_ble_eq_true rfl) rfl ?_
  refine V_aload_n (q := 0) dX12_miss_0 rfl rfl ?_
  refine V_iload_n (q := 1) dX12_miss_1 rfl rfl ?_
  refine V_iload_n (q := 2) dX12_miss_2 rfl rfl ?_
  refine V_callV [.int x1, .int x2] [] g_X12_miss_X12_isCall wi_X12_isCall ws_X12_isCall dX12_miss_3 rfl rfl rfl rfl rfl (Nat.le_of_ble_eq_true rfl) t (fun _ h1 t => ?_)
  obtain ⟨b2, rfl, t⟩ := t
  refine V_ifb_ne (tgt := 12) dX12_miss_6 (by decide) (fun q => ?_) (fun q => ?_)
  · have t := it_t q t
    refine V_aload_n (q := 0) dX12_miss_12 rfl rfl ?_
    refine V_getr f_X12_43 dX12_miss_13 rfl rfl ?_
    refine V_bipush (v := 8) dX12_miss_16 rfl ?_
    refine V_iload_n (q := 1) dX12_miss_18 rfl rfl ?_
    refine V_imul dX12_miss_19 ?_
    refine V_iload_n (q := 2) dX12_miss_20 rfl rfl ?_
    refine V_iadd dX12_miss_21 ?_
    obtain ⟨n3, t⟩ := t
    refine V_zald dX12_miss_22 rfl n3 ?_
    refine V_istore (L' := [(0, .ref (G.1 67)), (1, .int x1), (2, .int x2), (3, .int (b2i x3)), (4, .int (h1 79 (tn ((8 * x1) + x2))))]) dX12_miss_23 (by decide) rfl rfl ?_
    refine V_aload_n (q := 0) dX12_miss_25 rfl rfl ?_
    refine V_getr f_X12_43 dX12_miss_26 rfl rfl ?_
    refine V_bipush (v := 8) dX12_miss_29 rfl ?_
    refine V_iload_n (q := 1) dX12_miss_31 rfl rfl ?_
    refine V_imul dX12_miss_32 ?_
    refine V_iload_n (q := 2) dX12_miss_33 rfl rfl ?_
    refine V_iadd dX12_miss_34 ?_
    refine V_iload_n (q := 3) dX12_miss_35 rfl rfl ?_
    have t := t _ rfl
    refine V_zast (b := x3) dX12_miss_36 rfl n3 ?_
    refine V_iload (q := 4) dX12_miss_37 rfl ?_
    refine V_if_eq (tgt := 46) dX12_miss_39 (by decide) (fun q => ?_) (fun q => ?_)
    · have t := it_t q t
      refine V_iconst (v := 0) dX12_miss_46 rfl ?_
      exact V_iret rfl dX12_miss_47 t
    · have t := it_f q t
      refine V_iconst (v := 1) dX12_miss_42 rfl ?_
      refine V_goto (tgt := 47) dX12_miss_43 (by decide) ?_
      exact V_iret rfl dX12_miss_47 t
  · have t := it_f q t
    refine V_bipush (v := (-2)) dX12_miss_9 rfl ?_
    exact V_iret rfl dX12_miss_11 t
set_option maxRecDepth 20000 in
set_option maxHeartbeats 4000000 in
theorem s_Model_walk_0 (G : GA) (h : HP) (x1 : Int32) (x2 : Int32) (x3 : Int32) (K : Int32 → HP → Prop) (t :
  P_Model_isStop G h x1 (fun (b2 : Bool) (h1 : HP) =>
    if b2 = true then (
      P_Model_isStop G h1 x2 (fun (b4 : Bool) (h3 : HP) =>
        if b4 = true then (
          if x1 = x2 then (
            K (-2) h3
          ) else (
            P_Model_in G h3 x3 1 240 (fun (b6 : Bool) (h5 : HP) =>
              if b6 = true then (
                if (h5 67 2) = 20 then (
                  K (-2) h5
                ) else (
                  vp_in (h5 67 2) 20 ∧
                  ∀ h7 : HP, h7 = up h5 81 (tn (h5 67 2)) x1 →
                  ∀ h9 : HP, h9 = up h7 82 (tn (h5 67 2)) x2 →
                  ∀ h10 : HP, h10 = up h9 83 (tn (h5 67 2)) x3 →
                  ∀ h11 : HP, h11 = up h10 84 (tn (h5 67 2)) 3 →
                  ∀ h12 : HP, h12 = up h11 67 2 ((h5 67 2) + 1) →
                  K ((h12 67 2) - 1) h12
                )
              ) else (
                K (-2) h5
              )
            )
          )
        ) else (
          K (-2) h3
        )
      )
    ) else (
      K (-2) h1
    )
  )) : P_Model_walk G h x1 x2 x3 K := by
  refine Sp_of_V pf_X12_walk (Nat.le_of_ble_eq_true rfl) rfl ?_
  refine V_aload_n (q := 0) dX12_walk_0 rfl rfl ?_
  refine V_iload_n (q := 1) dX12_walk_1 rfl rfl ?_
  refine V_callV [.int x1] [] g_X12_walk_X12_isStop wi_X12_isStop ws_X12_isStop dX12_walk_2 rfl rfl rfl rfl rfl (Nat.le_of_ble_eq_true rfl) t (fun _ h1 t => ?_)
  obtain ⟨b2, rfl, t⟩ := t
  refine V_ifb_eq (tgt := 41) dX12_walk_5 (by decide) (fun q => ?_) (fun q => ?_)
  · have t := it_f q t
    refine V_bipush (v := (-2)) dX12_walk_41 rfl ?_
    exact V_iret rfl dX12_walk_43 t
  · have t := it_t q t
    refine V_aload_n (q := 0) dX12_walk_8 rfl rfl ?_
    refine V_iload_n (q := 2) dX12_walk_9 rfl rfl ?_
    refine V_callV [.int x2] [] g_X12_walk_X12_isStop wi_X12_isStop ws_X12_isStop dX12_walk_10 rfl rfl rfl rfl rfl (Nat.le_of_ble_eq_true rfl) t (fun _ h3 t => ?_)
    obtain ⟨b4, rfl, t⟩ := t
    refine V_ifb_eq (tgt := 41) dX12_walk_13 (by decide) (fun q => ?_) (fun q => ?_)
    · have t := it_f q t
      refine V_bipush (v := (-2)) dX12_walk_41 rfl ?_
      exact V_iret rfl dX12_walk_43 t
    · have t := it_t q t
      refine V_iload_n (q := 1) dX12_walk_16 rfl rfl ?_
      refine V_iload_n (q := 2) dX12_walk_17 rfl rfl ?_
      refine V_icmp_eq (tgt := 41) dX12_walk_18 (by decide) (fun q => ?_) (fun q => ?_)
      · have t := it_t q t
        refine V_bipush (v := (-2)) dX12_walk_41 rfl ?_
        exact V_iret rfl dX12_walk_43 t
      · have t := it_f q t
        refine V_iload_n (q := 3) dX12_walk_21 rfl rfl ?_
        refine V_iconst (v := 1) dX12_walk_22 rfl ?_
        refine V_sipush (v := 240) dX12_walk_23 rfl ?_
        refine V_callS [.int x3, .int 1, .int 240] [] g_X12_walk_X12_in wt_X12_in dX12_walk_26 rfl rfl (Nat.le_of_ble_eq_true rfl) t (fun _ h5 t => ?_)
        obtain ⟨b6, rfl, t⟩ := t
        refine V_ifb_eq (tgt := 41) dX12_walk_29 (by decide) (fun q => ?_) (fun q => ?_)
        · have t := it_f q t
          refine V_bipush (v := (-2)) dX12_walk_41 rfl ?_
          exact V_iret rfl dX12_walk_43 t
        · have t := it_t q t
          refine V_aload_n (q := 0) dX12_walk_32 rfl rfl ?_
          refine V_geti f_X12_161 dX12_walk_33 rfl rfl ?_
          refine V_bipush (v := 20) dX12_walk_36 rfl ?_
          refine V_icmp_ne (tgt := 44) dX12_walk_38 (by decide) (fun q => ?_) (fun q => ?_)
          · have t := it_f q t
            refine V_aload_n (q := 0) dX12_walk_44 rfl rfl ?_
            refine V_getr f_X12_50 dX12_walk_45 rfl rfl ?_
            refine V_aload_n (q := 0) dX12_walk_48 rfl rfl ?_
            refine V_geti f_X12_161 dX12_walk_49 rfl rfl ?_
            refine V_iload_n (q := 1) dX12_walk_52 rfl rfl ?_
            obtain ⟨n8, t⟩ := t
            have t := t _ rfl
            refine V_iast dX12_walk_53 rfl n8 ?_
            refine V_aload_n (q := 0) dX12_walk_54 rfl rfl ?_
            refine V_getr f_X12_53 dX12_walk_55 rfl rfl ?_
            refine V_aload_n (q := 0) dX12_walk_58 rfl rfl ?_
            refine V_geti f_X12_161 dX12_walk_59 rfl rfl ?_
            refine V_iload_n (q := 2) dX12_walk_62 rfl rfl ?_
            have t := t _ rfl
            refine V_iast dX12_walk_63 rfl n8 ?_
            refine V_aload_n (q := 0) dX12_walk_64 rfl rfl ?_
            refine V_getr f_X12_56 dX12_walk_65 rfl rfl ?_
            refine V_aload_n (q := 0) dX12_walk_68 rfl rfl ?_
            refine V_geti f_X12_161 dX12_walk_69 rfl rfl ?_
            refine V_iload_n (q := 3) dX12_walk_72 rfl rfl ?_
            have t := t _ rfl
            refine V_iast dX12_walk_73 rfl n8 ?_
            refine V_aload_n (q := 0) dX12_walk_74 rfl rfl ?_
            refine V_getr f_X12_59 dX12_walk_75 rfl rfl ?_
            refine V_aload_n (q := 0) dX12_walk_78 rfl rfl ?_
            refine V_geti f_X12_161 dX12_walk_79 rfl rfl ?_
            refine V_iconst (v := 3) dX12_walk_82 rfl ?_
            have t := t _ rfl
            refine V_iast dX12_walk_83 rfl n8 ?_
            refine V_aload_n (q := 0) dX12_walk_84 rfl rfl ?_
            refine V_dup dX12_walk_85 rfl ?_
            refine V_geti f_X12_161 dX12_walk_86 rfl rfl ?_
            refine V_iconst (v := 1) dX12_walk_89 rfl ?_
            refine V_iadd dX12_walk_90 ?_
            have t := t _ rfl
            refine V_put f_X12_161 p_X12_2 dX12_walk_91 rfl rfl ?_
            refine V_aload_n (q := 0) dX12_walk_94 rfl rfl ?_
            refine V_geti f_X12_161 dX12_walk_95 rfl rfl ?_
            refine V_iconst (v := 1) dX12_walk_98 rfl ?_
            refine V_isub dX12_walk_99 ?_
            exact V_iret rfl dX12_walk_100 t
          · have t := it_t q t
            refine V_bipush (v := (-2)) dX12_walk_41 rfl ?_
            exact V_iret rfl dX12_walk_43 t
set_option maxRecDepth 20000 in
set_option maxHeartbeats 4000000 in
theorem s_Model_isWalk_0 (G : GA) (h : HP) (x1 : Int32) (K : Bool → HP → Prop) (t :
  P_Model_in G h x1 0 ((h 67 2) - 1) (fun (b2 : Bool) (h1 : HP) =>
    K b2 h1
  )) : P_Model_isWalk G h x1 K := by
  refine Sp_of_V pf_X12_isWalk (Nat.le_of_ble_eq_true rfl) rfl ?_
  refine V_iload_n (q := 1) dX12_isWalk_0 rfl rfl ?_
  refine V_iconst (v := 0) dX12_isWalk_1 rfl ?_
  refine V_aload_n (q := 0) dX12_isWalk_2 rfl rfl ?_
  refine V_geti f_X12_161 dX12_isWalk_3 rfl rfl ?_
  refine V_iconst (v := 1) dX12_isWalk_6 rfl ?_
  refine V_isub dX12_isWalk_7 ?_
  refine V_callS [.int x1, .int 0, .int ((h 67 2) - 1)] [] g_X12_isWalk_X12_in wt_X12_in dX12_isWalk_8 rfl rfl (Nat.le_of_ble_eq_true rfl) t (fun _ h1 t => ?_)
  obtain ⟨b2, rfl, t⟩ := t
  exact V_zret (b := b2) rfl dX12_isWalk_11 t
set_option maxRecDepth 20000 in
set_option maxHeartbeats 4000000 in
theorem s_Model_shuttle_0 (G : GA) (h : HP) (x1 : Int32) (x2 : Int32) (x3 : Int32) (x4 : Int32) (K : Int32 → HP → Prop) (t :
  P_Model_isWalk G h x1 (fun (b2 : Bool) (h1 : HP) =>
    if b2 = true then (
      P_Model_in G h1 x2 0 1439 (fun (b4 : Bool) (h3 : HP) =>
        if b4 = true then (
          P_Model_in G h3 x3 x2 1439 (fun (b6 : Bool) (h5 : HP) =>
            if b6 = true then (
              P_Model_in G h5 x4 1 1440 (fun (b8 : Bool) (h7 : HP) =>
                if b8 = true then (
                  vp_in x1 20 ∧
                  ∀ h10 : HP, h10 = up h7 84 (tn x1) 4 →
                  ∀ h11 : HP, h11 = up h10 85 (tn x1) x2 →
                  ∀ h12 : HP, h12 = up h11 86 (tn x1) x3 →
                  ∀ h13 : HP, h13 = up h12 87 (tn x1) x4 →
                  K (h7 84 (tn x1)) h13
                ) else (
                  K (-2) h7
                )
              )
            ) else (
              K (-2) h5
            )
          )
        ) else (
          K (-2) h3
        )
      )
    ) else (
      K (-2) h1
    )
  )) : P_Model_shuttle G h x1 x2 x3 x4 K := by
  refine Sp_of_V pf_X12_shuttle (Nat.le_of_ble_eq_true rfl) rfl ?_
  refine V_aload_n (q := 0) dX12_shuttle_0 rfl rfl ?_
  refine V_iload_n (q := 1) dX12_shuttle_1 rfl rfl ?_
  refine V_callV [.int x1] [] g_X12_shuttle_X12_isWalk wi_X12_isWalk ws_X12_isWalk dX12_shuttle_2 rfl rfl rfl rfl rfl (Nat.le_of_ble_eq_true rfl) t (fun _ h1 t => ?_)
  obtain ⟨b2, rfl, t⟩ := t
  refine V_ifb_eq (tgt := 42) dX12_shuttle_5 (by decide) (fun q => ?_) (fun q => ?_)
  · have t := it_f q t
    refine V_bipush (v := (-2)) dX12_shuttle_42 rfl ?_
    exact V_iret rfl dX12_shuttle_44 t
  · have t := it_t q t
    refine V_iload_n (q := 2) dX12_shuttle_8 rfl rfl ?_
    refine V_iconst (v := 0) dX12_shuttle_9 rfl ?_
    refine V_sipush (v := 1439) dX12_shuttle_10 rfl ?_
    refine V_callS [.int x2, .int 0, .int 1439] [] g_X12_shuttle_X12_in wt_X12_in dX12_shuttle_13 rfl rfl (Nat.le_of_ble_eq_true rfl) t (fun _ h3 t => ?_)
    obtain ⟨b4, rfl, t⟩ := t
    refine V_ifb_eq (tgt := 42) dX12_shuttle_16 (by decide) (fun q => ?_) (fun q => ?_)
    · have t := it_f q t
      refine V_bipush (v := (-2)) dX12_shuttle_42 rfl ?_
      exact V_iret rfl dX12_shuttle_44 t
    · have t := it_t q t
      refine V_iload_n (q := 3) dX12_shuttle_19 rfl rfl ?_
      refine V_iload_n (q := 2) dX12_shuttle_20 rfl rfl ?_
      refine V_sipush (v := 1439) dX12_shuttle_21 rfl ?_
      refine V_callS [.int x3, .int x2, .int 1439] [] g_X12_shuttle_X12_in wt_X12_in dX12_shuttle_24 rfl rfl (Nat.le_of_ble_eq_true rfl) t (fun _ h5 t => ?_)
      obtain ⟨b6, rfl, t⟩ := t
      refine V_ifb_eq (tgt := 42) dX12_shuttle_27 (by decide) (fun q => ?_) (fun q => ?_)
      · have t := it_f q t
        refine V_bipush (v := (-2)) dX12_shuttle_42 rfl ?_
        exact V_iret rfl dX12_shuttle_44 t
      · have t := it_t q t
        refine V_iload (q := 4) dX12_shuttle_30 rfl ?_
        refine V_iconst (v := 1) dX12_shuttle_32 rfl ?_
        refine V_sipush (v := 1440) dX12_shuttle_33 rfl ?_
        refine V_callS [.int x4, .int 1, .int 1440] [] g_X12_shuttle_X12_in wt_X12_in dX12_shuttle_36 rfl rfl (Nat.le_of_ble_eq_true rfl) t (fun _ h7 t => ?_)
        obtain ⟨b8, rfl, t⟩ := t
        refine V_ifb_ne (tgt := 45) dX12_shuttle_39 (by decide) (fun q => ?_) (fun q => ?_)
        · have t := it_t q t
          refine V_aload_n (q := 0) dX12_shuttle_45 rfl rfl ?_
          refine V_getr f_X12_59 dX12_shuttle_46 rfl rfl ?_
          refine V_iload_n (q := 1) dX12_shuttle_49 rfl rfl ?_
          obtain ⟨n9, t⟩ := t
          refine V_iald dX12_shuttle_50 rfl n9 ?_
          refine V_istore (L' := [(0, .ref (G.1 67)), (1, .int x1), (2, .int x2), (3, .int x3), (4, .int x4), (5, .int (h7 84 (tn x1)))]) dX12_shuttle_51 (by decide) rfl rfl ?_
          refine V_aload_n (q := 0) dX12_shuttle_53 rfl rfl ?_
          refine V_getr f_X12_59 dX12_shuttle_54 rfl rfl ?_
          refine V_iload_n (q := 1) dX12_shuttle_57 rfl rfl ?_
          refine V_iconst (v := 4) dX12_shuttle_58 rfl ?_
          have t := t _ rfl
          refine V_iast dX12_shuttle_59 rfl n9 ?_
          refine V_aload_n (q := 0) dX12_shuttle_60 rfl rfl ?_
          refine V_getr f_X12_62 dX12_shuttle_61 rfl rfl ?_
          refine V_iload_n (q := 1) dX12_shuttle_64 rfl rfl ?_
          refine V_iload_n (q := 2) dX12_shuttle_65 rfl rfl ?_
          have t := t _ rfl
          refine V_iast dX12_shuttle_66 rfl n9 ?_
          refine V_aload_n (q := 0) dX12_shuttle_67 rfl rfl ?_
          refine V_getr f_X12_65 dX12_shuttle_68 rfl rfl ?_
          refine V_iload_n (q := 1) dX12_shuttle_71 rfl rfl ?_
          refine V_iload_n (q := 3) dX12_shuttle_72 rfl rfl ?_
          have t := t _ rfl
          refine V_iast dX12_shuttle_73 rfl n9 ?_
          refine V_aload_n (q := 0) dX12_shuttle_74 rfl rfl ?_
          refine V_getr f_X12_68 dX12_shuttle_75 rfl rfl ?_
          refine V_iload_n (q := 1) dX12_shuttle_78 rfl rfl ?_
          refine V_iload (q := 4) dX12_shuttle_79 rfl ?_
          have t := t _ rfl
          refine V_iast dX12_shuttle_81 rfl n9 ?_
          refine V_iload (q := 5) dX12_shuttle_82 rfl ?_
          exact V_iret rfl dX12_shuttle_84 t
        · have t := it_f q t
          refine V_bipush (v := (-2)) dX12_shuttle_42 rfl ?_
          exact V_iret rfl dX12_shuttle_44 t
set_option maxRecDepth 20000 in
set_option maxHeartbeats 4000000 in
theorem s_Model_asked_0 (G : GA) (h : HP) (x1 : Int32) (x2 : Int32) (K : Int32 → HP → Prop) (t :
  P_Model_isWalk G h x1 (fun (b2 : Bool) (h1 : HP) =>
    if b2 = true then (
      vp_in x1 20 ∧
      if (h1 84 (tn x1)) = 3 then (
        K (-2) h1
      ) else (
        P_Model_in G h1 x2 1 600 (fun (b5 : Bool) (h4 : HP) =>
          if b5 = true then (
            ∀ h6 : HP, h6 = up h4 84 (tn x1) 5 →
            ∀ h7 : HP, h7 = up h6 88 (tn x1) x2 →
            K (h4 84 (tn x1)) h7
          ) else (
            K (-2) h4
          )
        )
      )
    ) else (
      K (-2) h1
    )
  )) : P_Model_asked G h x1 x2 K := by
  refine Sp_of_V pf_X12_asked (Nat.le_of_ble_eq_true rfl) rfl ?_
  refine V_aload_n (q := 0) dX12_asked_0 rfl rfl ?_
  refine V_iload_n (q := 1) dX12_asked_1 rfl rfl ?_
  refine V_callV [.int x1] [] g_X12_asked_X12_isWalk wi_X12_isWalk ws_X12_isWalk dX12_asked_2 rfl rfl rfl rfl rfl (Nat.le_of_ble_eq_true rfl) t (fun _ h1 t => ?_)
  obtain ⟨b2, rfl, t⟩ := t
  refine V_ifb_eq (tgt := 29) dX12_asked_5 (by decide) (fun q => ?_) (fun q => ?_)
  · have t := it_f q t
    refine V_bipush (v := (-2)) dX12_asked_29 rfl ?_
    exact V_iret rfl dX12_asked_31 t
  · have t := it_t q t
    refine V_aload_n (q := 0) dX12_asked_8 rfl rfl ?_
    refine V_getr f_X12_59 dX12_asked_9 rfl rfl ?_
    refine V_iload_n (q := 1) dX12_asked_12 rfl rfl ?_
    obtain ⟨n3, t⟩ := t
    refine V_iald dX12_asked_13 rfl n3 ?_
    refine V_iconst (v := 3) dX12_asked_14 rfl ?_
    refine V_icmp_eq (tgt := 29) dX12_asked_15 (by decide) (fun q => ?_) (fun q => ?_)
    · have t := it_t q t
      refine V_bipush (v := (-2)) dX12_asked_29 rfl ?_
      exact V_iret rfl dX12_asked_31 t
    · have t := it_f q t
      refine V_iload_n (q := 2) dX12_asked_18 rfl rfl ?_
      refine V_iconst (v := 1) dX12_asked_19 rfl ?_
      refine V_sipush (v := 600) dX12_asked_20 rfl ?_
      refine V_callS [.int x2, .int 1, .int 600] [] g_X12_asked_X12_in wt_X12_in dX12_asked_23 rfl rfl (Nat.le_of_ble_eq_true rfl) t (fun _ h4 t => ?_)
      obtain ⟨b5, rfl, t⟩ := t
      refine V_ifb_ne (tgt := 32) dX12_asked_26 (by decide) (fun q => ?_) (fun q => ?_)
      · have t := it_t q t
        refine V_aload_n (q := 0) dX12_asked_32 rfl rfl ?_
        refine V_getr f_X12_59 dX12_asked_33 rfl rfl ?_
        refine V_iload_n (q := 1) dX12_asked_36 rfl rfl ?_
        refine V_iald dX12_asked_37 rfl n3 ?_
        refine V_istore_n (L' := [(0, .ref (G.1 67)), (1, .int x1), (2, .int x2), (3, .int (h4 84 (tn x1)))]) dX12_asked_38 rfl (by decide) rfl rfl ?_
        refine V_aload_n (q := 0) dX12_asked_39 rfl rfl ?_
        refine V_getr f_X12_59 dX12_asked_40 rfl rfl ?_
        refine V_iload_n (q := 1) dX12_asked_43 rfl rfl ?_
        refine V_iconst (v := 5) dX12_asked_44 rfl ?_
        have t := t _ rfl
        refine V_iast dX12_asked_45 rfl n3 ?_
        refine V_aload_n (q := 0) dX12_asked_46 rfl rfl ?_
        refine V_getr f_X12_71 dX12_asked_47 rfl rfl ?_
        refine V_iload_n (q := 1) dX12_asked_50 rfl rfl ?_
        refine V_iload_n (q := 2) dX12_asked_51 rfl rfl ?_
        have t := t _ rfl
        refine V_iast dX12_asked_52 rfl n3 ?_
        refine V_iload_n (q := 3) dX12_asked_53 rfl rfl ?_
        exact V_iret rfl dX12_asked_54 t
      · have t := it_f q t
        refine V_bipush (v := (-2)) dX12_asked_29 rfl ?_
        exact V_iret rfl dX12_asked_31 t
set_option maxRecDepth 20000 in
set_option maxHeartbeats 4000000 in
theorem s_Model_lateAt_0 (G : GA) (h : HP) (x1 : Int32) (x2 : Int32) (x3 : Int32) (K : Int32 → HP → Prop) (t :
  H_Model_lateAt_6 G h x1 x2 x3 0 0 K) : P_Model_lateAt G h x1 x2 x3 K := by
  refine Sp_of_V pf_X12_lateAt (Nat.le_of_ble_eq_true rfl) rfl ?_
  refine V_iconst (v := 0) dX12_lateAt_0 rfl ?_
  refine V_istore (L' := [(0, .ref (G.1 67)), (1, .int x1), (2, .int x2), (3, .int x3), (4, .int 0)]) dX12_lateAt_1 (by decide) rfl rfl ?_
  refine V_iconst (v := 0) dX12_lateAt_3 rfl ?_
  refine V_istore (L' := [(0, .ref (G.1 67)), (1, .int x1), (2, .int x2), (3, .int x3), (4, .int 0), (5, .int 0)]) dX12_lateAt_4 (by decide) rfl rfl ?_
  exact t
set_option maxRecDepth 20000 in
set_option maxHeartbeats 4000000 in
theorem s_Model_lateAt_6 (G : GA) (h : HP) (x1 : Int32) (x2 : Int32) (x3 : Int32) (x4 : Int32) (x5 : Int32) (K : Int32 → HP → Prop) (t :
  if (h 67 3) ≤ x5 then (
    K x4 h
  ) else (
    vp_in x5 60 ∧
    if (h 89 (tn x5)) = x1 then (
      if (h 90 (tn x5)) = x2 then (
        if x3 < (h 91 (tn x5)) then (
          H_Model_lateAt_6 G h x1 x2 x3 x4 (x5 + 1) K
        ) else (
          H_Model_lateAt_6 G h x1 x2 x3 (x4 + (h 92 (tn x5))) (x5 + 1) K
        )
      ) else (
        H_Model_lateAt_6 G h x1 x2 x3 x4 (x5 + 1) K
      )
    ) else (
      H_Model_lateAt_6 G h x1 x2 x3 x4 (x5 + 1) K
    )
  )) : H_Model_lateAt_6 G h x1 x2 x3 x4 x5 K := by
  unfold H_Model_lateAt_6
  refine V_iload (q := 5) dX12_lateAt_6 rfl ?_
  refine V_aload_n (q := 0) dX12_lateAt_8 rfl rfl ?_
  refine V_geti f_X12_177 dX12_lateAt_9 rfl rfl ?_
  refine V_icmp_ge (tgt := 66) dX12_lateAt_12 (by decide) (fun q => ?_) (fun q => ?_)
  · have t := it_t q t
    refine V_iload (q := 4) dX12_lateAt_66 rfl ?_
    exact V_iret rfl dX12_lateAt_68 t
  · have t := it_f q t
    refine V_aload_n (q := 0) dX12_lateAt_15 rfl rfl ?_
    refine V_getr f_X12_74 dX12_lateAt_16 rfl rfl ?_
    refine V_iload (q := 5) dX12_lateAt_19 rfl ?_
    obtain ⟨n1, t⟩ := t
    refine V_iald dX12_lateAt_21 rfl n1 ?_
    refine V_iload_n (q := 1) dX12_lateAt_22 rfl rfl ?_
    refine V_icmp_ne (tgt := 60) dX12_lateAt_23 (by decide) (fun q => ?_) (fun q => ?_)
    · have t := it_f q t
      refine V_iinc (L' := [(0, .ref (G.1 67)), (1, .int x1), (2, .int x2), (3, .int x3), (4, .int x4), (5, .int (x5 + 1))]) (q := 5) (a := 1) dX12_lateAt_60 rfl rfl (by decide) rfl rfl ?_
      refine V_goto (tgt := 6) dX12_lateAt_63 (by decide) ?_
      exact t
    · have t := it_t q t
      refine V_aload_n (q := 0) dX12_lateAt_26 rfl rfl ?_
      refine V_getr f_X12_77 dX12_lateAt_27 rfl rfl ?_
      refine V_iload (q := 5) dX12_lateAt_30 rfl ?_
      refine V_iald dX12_lateAt_32 rfl n1 ?_
      refine V_iload_n (q := 2) dX12_lateAt_33 rfl rfl ?_
      refine V_icmp_ne (tgt := 60) dX12_lateAt_34 (by decide) (fun q => ?_) (fun q => ?_)
      · have t := it_f q t
        refine V_iinc (L' := [(0, .ref (G.1 67)), (1, .int x1), (2, .int x2), (3, .int x3), (4, .int x4), (5, .int (x5 + 1))]) (q := 5) (a := 1) dX12_lateAt_60 rfl rfl (by decide) rfl rfl ?_
        refine V_goto (tgt := 6) dX12_lateAt_63 (by decide) ?_
        exact t
      · have t := it_t q t
        refine V_aload_n (q := 0) dX12_lateAt_37 rfl rfl ?_
        refine V_getr f_X12_80 dX12_lateAt_38 rfl rfl ?_
        refine V_iload (q := 5) dX12_lateAt_41 rfl ?_
        refine V_iald dX12_lateAt_43 rfl n1 ?_
        refine V_iload_n (q := 3) dX12_lateAt_44 rfl rfl ?_
        refine V_icmp_gt (tgt := 60) dX12_lateAt_45 (by decide) (fun q => ?_) (fun q => ?_)
        · have t := it_t q t
          refine V_iinc (L' := [(0, .ref (G.1 67)), (1, .int x1), (2, .int x2), (3, .int x3), (4, .int x4), (5, .int (x5 + 1))]) (q := 5) (a := 1) dX12_lateAt_60 rfl rfl (by decide) rfl rfl ?_
          refine V_goto (tgt := 6) dX12_lateAt_63 (by decide) ?_
          exact t
        · have t := it_f q t
          refine V_iload (q := 4) dX12_lateAt_48 rfl ?_
          refine V_aload_n (q := 0) dX12_lateAt_50 rfl rfl ?_
          refine V_getr f_X12_83 dX12_lateAt_51 rfl rfl ?_
          refine V_iload (q := 5) dX12_lateAt_54 rfl ?_
          refine V_iald dX12_lateAt_56 rfl n1 ?_
          refine V_iadd dX12_lateAt_57 ?_
          refine V_istore (L' := [(0, .ref (G.1 67)), (1, .int x1), (2, .int x2), (3, .int x3), (4, .int (x4 + (h 92 (tn x5)))), (5, .int x5)]) dX12_lateAt_58 (by decide) rfl rfl ?_
          refine V_iinc (L' := [(0, .ref (G.1 67)), (1, .int x1), (2, .int x2), (3, .int x3), (4, .int (x4 + (h 92 (tn x5)))), (5, .int (x5 + 1))]) (q := 5) (a := 1) dX12_lateAt_60 rfl rfl (by decide) rfl rfl ?_
          refine V_goto (tgt := 6) dX12_lateAt_63 (by decide) ?_
          exact t
set_option maxRecDepth 20000 in
set_option maxHeartbeats 4000000 in
theorem s_Model_late_0 (G : GA) (h : HP) (x1 : Int32) (x2 : Int32) (x3 : Int32) (x4 : Int32) (K : Int32 → HP → Prop) (t :
  P_Model_isCall G h x1 x3 (fun (b2 : Bool) (h1 : HP) =>
    if b2 = true then (
      P_Model_isDay G h1 x2 (fun (b4 : Bool) (h3 : HP) =>
        if b4 = true then (
          P_Model_in G h3 x4 1 240 (fun (b6 : Bool) (h5 : HP) =>
            if b6 = true then (
              if (h5 67 3) = 60 then (
                K (-2) h5
              ) else (
                vp_in (h5 67 3) 60 ∧
                ∀ h7 : HP, h7 = up h5 89 (tn (h5 67 3)) x1 →
                ∀ h9 : HP, h9 = up h7 90 (tn (h5 67 3)) x2 →
                ∀ h10 : HP, h10 = up h9 91 (tn (h5 67 3)) x3 →
                ∀ h11 : HP, h11 = up h10 92 (tn (h5 67 3)) x4 →
                ∀ h12 : HP, h12 = up h11 67 3 ((h5 67 3) + 1) →
                P_Model_lateAt G h12 x1 x2 x3 (fun (r14 : Int32) (h13 : HP) =>
                  K r14 h13
                )
              )
            ) else (
              K (-2) h5
            )
          )
        ) else (
          K (-2) h3
        )
      )
    ) else (
      K (-2) h1
    )
  )) : P_Model_late G h x1 x2 x3 x4 K := by
  refine Sp_of_V pf_X12_late (Nat.le_of_ble_eq_true rfl) rfl ?_
  refine V_aload_n (q := 0) dX12_late_0 rfl rfl ?_
  refine V_iload_n (q := 1) dX12_late_1 rfl rfl ?_
  refine V_iload_n (q := 3) dX12_late_2 rfl rfl ?_
  refine V_callV [.int x1, .int x3] [] g_X12_late_X12_isCall wi_X12_isCall ws_X12_isCall dX12_late_3 rfl rfl rfl rfl rfl (Nat.le_of_ble_eq_true rfl) t (fun _ h1 t => ?_)
  obtain ⟨b2, rfl, t⟩ := t
  refine V_ifb_eq (tgt := 37) dX12_late_6 (by decide) (fun q => ?_) (fun q => ?_)
  · have t := it_f q t
    refine V_bipush (v := (-2)) dX12_late_37 rfl ?_
    exact V_iret rfl dX12_late_39 t
  · have t := it_t q t
    refine V_iload_n (q := 2) dX12_late_9 rfl rfl ?_
    refine V_callS [.int x2] [] g_X12_late_X12_isDay wt_X12_isDay dX12_late_10 rfl rfl (Nat.le_of_ble_eq_true rfl) t (fun _ h3 t => ?_)
    obtain ⟨b4, rfl, t⟩ := t
    refine V_ifb_eq (tgt := 37) dX12_late_13 (by decide) (fun q => ?_) (fun q => ?_)
    · have t := it_f q t
      refine V_bipush (v := (-2)) dX12_late_37 rfl ?_
      exact V_iret rfl dX12_late_39 t
    · have t := it_t q t
      refine V_iload (q := 4) dX12_late_16 rfl ?_
      refine V_iconst (v := 1) dX12_late_18 rfl ?_
      refine V_sipush (v := 240) dX12_late_19 rfl ?_
      refine V_callS [.int x4, .int 1, .int 240] [] g_X12_late_X12_in wt_X12_in dX12_late_22 rfl rfl (Nat.le_of_ble_eq_true rfl) t (fun _ h5 t => ?_)
      obtain ⟨b6, rfl, t⟩ := t
      refine V_ifb_eq (tgt := 37) dX12_late_25 (by decide) (fun q => ?_) (fun q => ?_)
      · have t := it_f q t
        refine V_bipush (v := (-2)) dX12_late_37 rfl ?_
        exact V_iret rfl dX12_late_39 t
      · have t := it_t q t
        refine V_aload_n (q := 0) dX12_late_28 rfl rfl ?_
        refine V_geti f_X12_177 dX12_late_29 rfl rfl ?_
        refine V_bipush (v := 60) dX12_late_32 rfl ?_
        refine V_icmp_ne (tgt := 40) dX12_late_34 (by decide) (fun q => ?_) (fun q => ?_)
        · have t := it_f q t
          refine V_aload_n (q := 0) dX12_late_40 rfl rfl ?_
          refine V_getr f_X12_74 dX12_late_41 rfl rfl ?_
          refine V_aload_n (q := 0) dX12_late_44 rfl rfl ?_
          refine V_geti f_X12_177 dX12_late_45 rfl rfl ?_
          refine V_iload_n (q := 1) dX12_late_48 rfl rfl ?_
          obtain ⟨n8, t⟩ := t
          have t := t _ rfl
          refine V_iast dX12_late_49 rfl n8 ?_
          refine V_aload_n (q := 0) dX12_late_50 rfl rfl ?_
          refine V_getr f_X12_77 dX12_late_51 rfl rfl ?_
          refine V_aload_n (q := 0) dX12_late_54 rfl rfl ?_
          refine V_geti f_X12_177 dX12_late_55 rfl rfl ?_
          refine V_iload_n (q := 2) dX12_late_58 rfl rfl ?_
          have t := t _ rfl
          refine V_iast dX12_late_59 rfl n8 ?_
          refine V_aload_n (q := 0) dX12_late_60 rfl rfl ?_
          refine V_getr f_X12_80 dX12_late_61 rfl rfl ?_
          refine V_aload_n (q := 0) dX12_late_64 rfl rfl ?_
          refine V_geti f_X12_177 dX12_late_65 rfl rfl ?_
          refine V_iload_n (q := 3) dX12_late_68 rfl rfl ?_
          have t := t _ rfl
          refine V_iast dX12_late_69 rfl n8 ?_
          refine V_aload_n (q := 0) dX12_late_70 rfl rfl ?_
          refine V_getr f_X12_83 dX12_late_71 rfl rfl ?_
          refine V_aload_n (q := 0) dX12_late_74 rfl rfl ?_
          refine V_geti f_X12_177 dX12_late_75 rfl rfl ?_
          refine V_iload (q := 4) dX12_late_78 rfl ?_
          have t := t _ rfl
          refine V_iast dX12_late_80 rfl n8 ?_
          refine V_aload_n (q := 0) dX12_late_81 rfl rfl ?_
          refine V_dup dX12_late_82 rfl ?_
          refine V_geti f_X12_177 dX12_late_83 rfl rfl ?_
          refine V_iconst (v := 1) dX12_late_86 rfl ?_
          refine V_iadd dX12_late_87 ?_
          have t := t _ rfl
          refine V_put f_X12_177 p_X12_3 dX12_late_88 rfl rfl ?_
          refine V_aload_n (q := 0) dX12_late_91 rfl rfl ?_
          refine V_iload_n (q := 1) dX12_late_92 rfl rfl ?_
          refine V_iload_n (q := 2) dX12_late_93 rfl rfl ?_
          refine V_iload_n (q := 3) dX12_late_94 rfl rfl ?_
          refine V_callV [.int x1, .int x2, .int x3] [] g_X12_late_X12_lateAt wi_X12_lateAt ws_X12_lateAt dX12_late_95 rfl rfl rfl rfl rfl (Nat.le_of_ble_eq_true rfl) t (fun _ h13 t => ?_)
          obtain ⟨r14, rfl, t⟩ := t
          exact V_iret rfl dX12_late_98 t
        · have t := it_t q t
          refine V_bipush (v := (-2)) dX12_late_37 rfl ?_
          exact V_iret rfl dX12_late_39 t
set_option maxRecDepth 20000 in
set_option maxHeartbeats 4000000 in
theorem s_Model_gone_0 (G : GA) (h : HP) (x1 : Int32) (x2 : Int32) (x3 : Bool) (K : Int32 → HP → Prop) (t :
  P_Model_isTrip G h x1 (fun (b2 : Bool) (h1 : HP) =>
    if b2 = true then (
      P_Model_isDay G h1 x2 (fun (b4 : Bool) (h3 : HP) =>
        if b4 = true then (
          vp_in ((100 * x1) + x2) 2400 ∧
          ∀ h6 : HP, h6 = up h3 80 (tn ((100 * x1) + x2)) (b2i x3) →
          if (h3 80 (tn ((100 * x1) + x2))) = 0 then (
            K 0 h6
          ) else (
            K 1 h6
          )
        ) else (
          K (-2) h3
        )
      )
    ) else (
      K (-2) h1
    )
  )) : P_Model_gone G h x1 x2 x3 K := by
  refine Sp_of_V pf_X12_gone (Nat.le_of_ble_eq_true rfl) rfl ?_
  refine V_aload_n (q := 0) dX12_gone_0 rfl rfl ?_
  refine V_iload_n (q := 1) dX12_gone_1 rfl rfl ?_
  refine V_callV [.int x1] [] g_X12_gone_X12_isTrip wi_X12_isTrip ws_X12_isTrip dX12_gone_2 rfl rfl rfl rfl rfl (Nat.le_of_ble_eq_true rfl) t (fun _ h1 t => ?_)
  obtain ⟨b2, rfl, t⟩ := t
  refine V_ifb_eq (tgt := 15) dX12_gone_5 (by decide) (fun q => ?_) (fun q => ?_)
  · have t := it_f q t
    refine V_bipush (v := (-2)) dX12_gone_15 rfl ?_
    exact V_iret rfl dX12_gone_17 t
  · have t := it_t q t
    refine V_iload_n (q := 2) dX12_gone_8 rfl rfl ?_
    refine V_callS [.int x2] [] g_X12_gone_X12_isDay wt_X12_isDay dX12_gone_9 rfl rfl (Nat.le_of_ble_eq_true rfl) t (fun _ h3 t => ?_)
    obtain ⟨b4, rfl, t⟩ := t
    refine V_ifb_ne (tgt := 18) dX12_gone_12 (by decide) (fun q => ?_) (fun q => ?_)
    · have t := it_t q t
      refine V_aload_n (q := 0) dX12_gone_18 rfl rfl ?_
      refine V_getr f_X12_47 dX12_gone_19 rfl rfl ?_
      refine V_bipush (v := 100) dX12_gone_22 rfl ?_
      refine V_iload_n (q := 1) dX12_gone_24 rfl rfl ?_
      refine V_imul dX12_gone_25 ?_
      refine V_iload_n (q := 2) dX12_gone_26 rfl rfl ?_
      refine V_iadd dX12_gone_27 ?_
      obtain ⟨n5, t⟩ := t
      refine V_zald dX12_gone_28 rfl n5 ?_
      refine V_istore (L' := [(0, .ref (G.1 67)), (1, .int x1), (2, .int x2), (3, .int (b2i x3)), (4, .int (h3 80 (tn ((100 * x1) + x2))))]) dX12_gone_29 (by decide) rfl rfl ?_
      refine V_aload_n (q := 0) dX12_gone_31 rfl rfl ?_
      refine V_getr f_X12_47 dX12_gone_32 rfl rfl ?_
      refine V_bipush (v := 100) dX12_gone_35 rfl ?_
      refine V_iload_n (q := 1) dX12_gone_37 rfl rfl ?_
      refine V_imul dX12_gone_38 ?_
      refine V_iload_n (q := 2) dX12_gone_39 rfl rfl ?_
      refine V_iadd dX12_gone_40 ?_
      refine V_iload_n (q := 3) dX12_gone_41 rfl rfl ?_
      have t := t _ rfl
      refine V_zast (b := x3) dX12_gone_42 rfl n5 ?_
      refine V_iload (q := 4) dX12_gone_43 rfl ?_
      refine V_if_eq (tgt := 52) dX12_gone_45 (by decide) (fun q => ?_) (fun q => ?_)
      · have t := it_t q t
        refine V_iconst (v := 0) dX12_gone_52 rfl ?_
        exact V_iret rfl dX12_gone_53 t
      · have t := it_f q t
        refine V_iconst (v := 1) dX12_gone_48 rfl ?_
        refine V_goto (tgt := 53) dX12_gone_49 (by decide) ?_
        exact V_iret rfl dX12_gone_53 t
    · have t := it_f q t
      refine V_bipush (v := (-2)) dX12_gone_15 rfl ?_
      exact V_iret rfl dX12_gone_17 t
set_option maxRecDepth 20000 in
set_option maxHeartbeats 4000000 in
theorem s_Model_begins_0 (G : GA) (h : HP) (x1 : Int32) (x2 : Int32) (x3 : Int32) (K : Int32 → HP → Prop) (t :
  vp_in x1 20 ∧
  if (h 84 (tn x1)) = 3 then (
    K x2 h
  ) else (
    if (h 84 (tn x1)) = 5 then (
      if (x3 + (h 88 (tn x1))) ≤ x2 then (
        H_Model_begins_56 G h x1 x2 (x2 / 1440) K
      ) else (
        H_Model_begins_56 G h x1 (x3 + (h 88 (tn x1))) ((x3 + (h 88 (tn x1))) / 1440) K
      )
    ) else (
      H_Model_begins_56 G h x1 x2 (x2 / 1440) K
    )
  )) : P_Model_begins G h x1 x2 x3 K := by
  refine Sp_of_V pf_X12_begins (Nat.le_of_ble_eq_true rfl) rfl ?_
  refine V_aload_n (q := 0) dX12_begins_0 rfl rfl ?_
  refine V_getr f_X12_59 dX12_begins_1 rfl rfl ?_
  refine V_iload_n (q := 1) dX12_begins_4 rfl rfl ?_
  obtain ⟨n1, t⟩ := t
  refine V_iald dX12_begins_5 rfl n1 ?_
  refine V_iconst (v := 3) dX12_begins_6 rfl ?_
  refine V_icmp_ne (tgt := 12) dX12_begins_7 (by decide) (fun q => ?_) (fun q => ?_)
  · have t := it_f q t
    refine V_aload_n (q := 0) dX12_begins_12 rfl rfl ?_
    refine V_getr f_X12_59 dX12_begins_13 rfl rfl ?_
    refine V_iload_n (q := 1) dX12_begins_16 rfl rfl ?_
    refine V_iald dX12_begins_17 rfl n1 ?_
    refine V_iconst (v := 5) dX12_begins_18 rfl ?_
    refine V_icmp_ne (tgt := 45) dX12_begins_19 (by decide) (fun q => ?_) (fun q => ?_)
    · have t := it_f q t
      refine V_iload_n (q := 2) dX12_begins_45 rfl rfl ?_
      refine V_istore (L' := [(0, .ref (G.1 67)), (1, .int x1), (2, .int x2), (3, .int x3), (4, .int x2)]) dX12_begins_46 (by decide) rfl rfl ?_
      refine V_iload (q := 4) dX12_begins_48 rfl ?_
      refine V_sipush (v := 1440) dX12_begins_50 rfl ?_
      refine V_idiv dX12_begins_53 (by decide) ?_
      refine V_istore (L' := [(0, .ref (G.1 67)), (1, .int x1), (2, .int x2), (3, .int x3), (4, .int x2), (5, .int (x2 / 1440))]) dX12_begins_54 (by decide) rfl rfl ?_
      refine V_pick (L' := [(0, .ref (G.1 67)), (1, .int x1), (4, .int x2), (5, .int (x2 / 1440))]) [0, 1, 4, 5] rfl ?_
      exact t
    · have t := it_t q t
      refine V_iload_n (q := 3) dX12_begins_22 rfl rfl ?_
      refine V_aload_n (q := 0) dX12_begins_23 rfl rfl ?_
      refine V_getr f_X12_71 dX12_begins_24 rfl rfl ?_
      refine V_iload_n (q := 1) dX12_begins_27 rfl rfl ?_
      refine V_iald dX12_begins_28 rfl n1 ?_
      refine V_iadd dX12_begins_29 ?_
      refine V_iload_n (q := 2) dX12_begins_30 rfl rfl ?_
      refine V_icmp_le (tgt := 45) dX12_begins_31 (by decide) (fun q => ?_) (fun q => ?_)
      · have t := it_t q t
        refine V_iload_n (q := 2) dX12_begins_45 rfl rfl ?_
        refine V_istore (L' := [(0, .ref (G.1 67)), (1, .int x1), (2, .int x2), (3, .int x3), (4, .int x2)]) dX12_begins_46 (by decide) rfl rfl ?_
        refine V_iload (q := 4) dX12_begins_48 rfl ?_
        refine V_sipush (v := 1440) dX12_begins_50 rfl ?_
        refine V_idiv dX12_begins_53 (by decide) ?_
        refine V_istore (L' := [(0, .ref (G.1 67)), (1, .int x1), (2, .int x2), (3, .int x3), (4, .int x2), (5, .int (x2 / 1440))]) dX12_begins_54 (by decide) rfl rfl ?_
        refine V_pick (L' := [(0, .ref (G.1 67)), (1, .int x1), (4, .int x2), (5, .int (x2 / 1440))]) [0, 1, 4, 5] rfl ?_
        exact t
      · have t := it_f q t
        refine V_iload_n (q := 3) dX12_begins_34 rfl rfl ?_
        refine V_aload_n (q := 0) dX12_begins_35 rfl rfl ?_
        refine V_getr f_X12_71 dX12_begins_36 rfl rfl ?_
        refine V_iload_n (q := 1) dX12_begins_39 rfl rfl ?_
        refine V_iald dX12_begins_40 rfl n1 ?_
        refine V_iadd dX12_begins_41 ?_
        refine V_goto (tgt := 46) dX12_begins_42 (by decide) ?_
        refine V_istore (L' := [(0, .ref (G.1 67)), (1, .int x1), (2, .int x2), (3, .int x3), (4, .int (x3 + (h 88 (tn x1))))]) dX12_begins_46 (by decide) rfl rfl ?_
        refine V_iload (q := 4) dX12_begins_48 rfl ?_
        refine V_sipush (v := 1440) dX12_begins_50 rfl ?_
        refine V_idiv dX12_begins_53 (by decide) ?_
        refine V_istore (L' := [(0, .ref (G.1 67)), (1, .int x1), (2, .int x2), (3, .int x3), (4, .int (x3 + (h 88 (tn x1)))), (5, .int ((x3 + (h 88 (tn x1))) / 1440))]) dX12_begins_54 (by decide) rfl rfl ?_
        refine V_pick (L' := [(0, .ref (G.1 67)), (1, .int x1), (4, .int (x3 + (h 88 (tn x1)))), (5, .int ((x3 + (h 88 (tn x1))) / 1440))]) [0, 1, 4, 5] rfl ?_
        exact t
  · have t := it_t q t
    refine V_iload_n (q := 2) dX12_begins_10 rfl rfl ?_
    exact V_iret rfl dX12_begins_11 t
set_option maxRecDepth 20000 in
set_option maxHeartbeats 4000000 in
theorem s_Model_begins_56 (G : GA) (h : HP) (x1 : Int32) (x4 : Int32) (x5 : Int32) (K : Int32 → HP → Prop) (t :
  vp_in x1 20 ∧
  H_Model_begins_64 G h x1 x4 x5 (h 85 (tn x1)) K) : H_Model_begins_56 G h x1 x4 x5 K := by
  unfold H_Model_begins_56
  refine V_aload_n (q := 0) dX12_begins_56 rfl rfl ?_
  refine V_getr f_X12_62 dX12_begins_57 rfl rfl ?_
  refine V_iload_n (q := 1) dX12_begins_60 rfl rfl ?_
  obtain ⟨n1, t⟩ := t
  refine V_iald dX12_begins_61 rfl n1 ?_
  refine V_istore (L' := [(0, .ref (G.1 67)), (1, .int x1), (4, .int x4), (5, .int x5), (6, .int (h 85 (tn x1)))]) dX12_begins_62 (by decide) rfl rfl ?_
  exact t
set_option maxRecDepth 20000 in
set_option maxHeartbeats 4000000 in
theorem s_Model_begins_64 (G : GA) (h : HP) (x1 : Int32) (x4 : Int32) (x5 : Int32) (x6 : Int32) (K : Int32 → HP → Prop) (t :
  vp_in x1 20 ∧
  if (h 86 (tn x1)) < x6 then (
    H_Model_begins_56 G h x1 x4 (x5 + 1) K
  ) else (
    if ((1440 * x5) + x6) < x4 then (
      H_Model_begins_64 G h x1 x4 x5 (x6 + (h 87 (tn x1))) K
    ) else (
      K ((1440 * x5) + x6) h
    )
  )) : H_Model_begins_64 G h x1 x4 x5 x6 K := by
  unfold H_Model_begins_64
  refine V_iload (q := 4) dX12_begins_64 rfl ?_
  refine V_aload_n (q := 0) dX12_begins_66 rfl rfl ?_
  refine V_getr f_X12_65 dX12_begins_67 rfl rfl ?_
  refine V_iload_n (q := 1) dX12_begins_70 rfl rfl ?_
  obtain ⟨n1, t⟩ := t
  refine V_iald dX12_begins_71 rfl n1 ?_
  refine V_icmp_gt (tgt := 113) dX12_begins_72 (by decide) (fun q => ?_) (fun q => ?_)
  · have t := it_t q t
    refine V_iinc (L' := [(0, .ref (G.1 67)), (1, .int x1), (4, .int x4), (5, .int (x5 + 1)), (6, .int x6)]) (q := 3) (a := 1) dX12_begins_113 rfl rfl (by decide) rfl rfl ?_
    refine V_goto (tgt := 56) dX12_begins_116 (by decide) ?_
    refine V_pick (L' := [(0, .ref (G.1 67)), (1, .int x1), (4, .int x4), (5, .int (x5 + 1))]) [0, 1, 2, 3] rfl ?_
    exact t
  · have t := it_f q t
    refine V_sipush (v := 1440) dX12_begins_75 rfl ?_
    refine V_iload (q := 3) dX12_begins_78 rfl ?_
    refine V_imul dX12_begins_80 ?_
    refine V_iload (q := 4) dX12_begins_81 rfl ?_
    refine V_iadd dX12_begins_83 ?_
    refine V_iload (q := 2) dX12_begins_84 rfl ?_
    refine V_icmp_lt (tgt := 99) dX12_begins_86 (by decide) (fun q => ?_) (fun q => ?_)
    · have t := it_t q t
      refine V_iload (q := 4) dX12_begins_99 rfl ?_
      refine V_aload_n (q := 0) dX12_begins_101 rfl rfl ?_
      refine V_getr f_X12_68 dX12_begins_102 rfl rfl ?_
      refine V_iload_n (q := 1) dX12_begins_105 rfl rfl ?_
      refine V_iald dX12_begins_106 rfl n1 ?_
      refine V_iadd dX12_begins_107 ?_
      refine V_istore (L' := [(0, .ref (G.1 67)), (1, .int x1), (4, .int x4), (5, .int x5), (6, .int (x6 + (h 87 (tn x1))))]) dX12_begins_108 (by decide) rfl rfl ?_
      refine V_goto (tgt := 64) dX12_begins_110 (by decide) ?_
      exact t
    · have t := it_f q t
      refine V_sipush (v := 1440) dX12_begins_89 rfl ?_
      refine V_iload (q := 3) dX12_begins_92 rfl ?_
      refine V_imul dX12_begins_94 ?_
      refine V_iload (q := 4) dX12_begins_95 rfl ?_
      refine V_iadd dX12_begins_97 ?_
      exact V_iret rfl dX12_begins_98 t
set_option maxRecDepth 20000 in
set_option maxHeartbeats 4000000 in
theorem s_Model_add_0 (G : GA) (h : HP) (x1 : Int32) (x2 : Int32) (x3 : Int32) (K : HP → Prop) (t :
  vp_in (h 67 41) 112 ∧
  ∀ h1 : HP, h1 = up h 100 (tn (h 67 41)) x1 →
  ∀ h3 : HP, h3 = up h1 101 (tn (h 67 41)) x2 →
  ∀ h4 : HP, h4 = up h3 102 (tn (h 67 41)) x3 →
  ∀ h5 : HP, h5 = up h4 103 (tn (h 67 41)) (h 67 49) →
  ∀ h6 : HP, h6 = up h5 104 (tn (h 67 41)) (h 67 31) →
  H_Model_add_61 G h6 (h 67 41) (h 67 31) 0 K) : P_Model_add G h x1 x2 x3 K := by
  refine Sp_of_V pf_X12_add (Nat.le_of_ble_eq_true rfl) rfl ?_
  refine V_aload_n (q := 0) dX12_add_0 rfl rfl ?_
  refine V_geti f_X12_261 dX12_add_1 rfl rfl ?_
  refine V_istore (L' := [(0, .ref (G.1 67)), (1, .int x1), (2, .int x2), (3, .int x3), (4, .int (h 67 41))]) dX12_add_4 (by decide) rfl rfl ?_
  refine V_aload_n (q := 0) dX12_add_6 rfl rfl ?_
  refine V_getr f_X12_107 dX12_add_7 rfl rfl ?_
  refine V_iload (q := 4) dX12_add_10 rfl ?_
  refine V_iload_n (q := 1) dX12_add_12 rfl rfl ?_
  obtain ⟨n2, t⟩ := t
  have t := t _ rfl
  refine V_iast dX12_add_13 rfl n2 ?_
  refine V_aload_n (q := 0) dX12_add_14 rfl rfl ?_
  refine V_getr f_X12_110 dX12_add_15 rfl rfl ?_
  refine V_iload (q := 4) dX12_add_18 rfl ?_
  refine V_iload_n (q := 2) dX12_add_20 rfl rfl ?_
  have t := t _ rfl
  refine V_iast dX12_add_21 rfl n2 ?_
  refine V_aload_n (q := 0) dX12_add_22 rfl rfl ?_
  refine V_getr f_X12_113 dX12_add_23 rfl rfl ?_
  refine V_iload (q := 4) dX12_add_26 rfl ?_
  refine V_iload_n (q := 3) dX12_add_28 rfl rfl ?_
  have t := t _ rfl
  refine V_iast dX12_add_29 rfl n2 ?_
  refine V_aload_n (q := 0) dX12_add_30 rfl rfl ?_
  refine V_getr f_X12_116 dX12_add_31 rfl rfl ?_
  refine V_iload (q := 4) dX12_add_34 rfl ?_
  refine V_aload_n (q := 0) dX12_add_36 rfl rfl ?_
  refine V_geti f_X12_233 dX12_add_37 rfl rfl ?_
  have t := t _ rfl
  refine V_iast dX12_add_40 rfl n2 ?_
  refine V_aload_n (q := 0) dX12_add_41 rfl rfl ?_
  refine V_getr f_X12_119 dX12_add_42 rfl rfl ?_
  refine V_iload (q := 4) dX12_add_45 rfl ?_
  refine V_aload_n (q := 0) dX12_add_47 rfl rfl ?_
  refine V_geti f_X12_187 dX12_add_48 rfl rfl ?_
  have t := t _ rfl
  refine V_iast dX12_add_51 rfl n2 ?_
  refine V_aload_n (q := 0) dX12_add_52 rfl rfl ?_
  refine V_geti f_X12_187 dX12_add_53 rfl rfl ?_
  refine V_istore (L' := [(0, .ref (G.1 67)), (1, .int x1), (2, .int x2), (3, .int x3), (4, .int (h 67 41)), (5, .int (h 67 31))]) dX12_add_56 (by decide) rfl rfl ?_
  refine V_iconst (v := 0) dX12_add_58 rfl ?_
  refine V_istore (L' := [(0, .ref (G.1 67)), (1, .int x1), (2, .int x2), (3, .int x3), (4, .int (h 67 41)), (5, .int (h 67 31)), (6, .int 0)]) dX12_add_59 (by decide) rfl rfl ?_
  refine V_pick (L' := [(0, .ref (G.1 67)), (4, .int (h 67 41)), (5, .int (h 67 31)), (6, .int 0)]) [0, 4, 5, 6] rfl ?_
  exact t
set_option maxRecDepth 20000 in
set_option maxHeartbeats 4000000 in
theorem s_Model_add_61 (G : GA) (h : HP) (x4 : Int32) (x5 : Int32) (x6 : Int32) (K : HP → Prop) (t :
  if (h 67 49) ≤ x6 then (
    ∀ h1 : HP, h1 = up h 67 41 ((h 67 41) + 1) →
    K h1
  ) else (
    H_Model_add_86 G h x4 x5 x6 ((63 * x4) + (9 * x6)) 0 K
  )) : H_Model_add_61 G h x4 x5 x6 K := by
  unfold H_Model_add_61
  refine V_iload (q := 3) dX12_add_61 rfl ?_
  refine V_aload_n (q := 0) dX12_add_63 rfl rfl ?_
  refine V_geti f_X12_233 dX12_add_64 rfl rfl ?_
  refine V_icmp_ge (tgt := 218) dX12_add_67 (by decide) (fun q => ?_) (fun q => ?_)
  · have t := it_t q t
    refine V_aload_n (q := 0) dX12_add_218 rfl rfl ?_
    refine V_dup dX12_add_219 rfl ?_
    refine V_geti f_X12_261 dX12_add_220 rfl rfl ?_
    refine V_iconst (v := 1) dX12_add_223 rfl ?_
    refine V_iadd dX12_add_224 ?_
    have t := t _ rfl
    refine V_put f_X12_261 p_X12_41 dX12_add_225 rfl rfl ?_
    exact V_vret rfl dX12_add_228 t
  · have t := it_f q t
    refine V_bipush (v := 63) dX12_add_70 rfl ?_
    refine V_iload (q := 1) dX12_add_72 rfl ?_
    refine V_imul dX12_add_74 ?_
    refine V_bipush (v := 9) dX12_add_75 rfl ?_
    refine V_iload (q := 3) dX12_add_77 rfl ?_
    refine V_imul dX12_add_79 ?_
    refine V_iadd dX12_add_80 ?_
    refine V_istore (L' := [(0, .ref (G.1 67)), (4, .int x4), (5, .int x5), (6, .int x6), (7, .int ((63 * x4) + (9 * x6)))]) dX12_add_81 (by decide) rfl rfl ?_
    refine V_iconst (v := 0) dX12_add_83 rfl ?_
    refine V_istore (L' := [(0, .ref (G.1 67)), (4, .int x4), (5, .int x5), (6, .int x6), (7, .int ((63 * x4) + (9 * x6))), (8, .int 0)]) dX12_add_84 (by decide) rfl rfl ?_
    exact t
set_option maxRecDepth 20000 in
set_option maxHeartbeats 4000000 in
theorem s_Model_add_86 (G : GA) (h : HP) (x4 : Int32) (x5 : Int32) (x6 : Int32) (x7 : Int32) (x8 : Int32) (K : HP → Prop) (t :
  if 9 ≤ x8 then (
    vp_in x7 7056 ∧
    if (h 105 (tn x7)) ≤ 2 then (
      vp_in (x7 + 5) 7056 ∧
      H_Model_add_61 G h x4 (h 105 (tn (x7 + 5))) (x6 + 1) K
    ) else (
      vp_in (x7 + 1) 7056 ∧
      P_Model_begins G h (h 105 (tn (x7 + 1))) x5 (h 67 31) (fun (r5 : Int32) (h4 : HP) =>
        vp_in (x7 + 4) 7056 ∧
        ∀ h6 : HP, h6 = up h4 105 (tn (x7 + 4)) r5 →
        vp_in (h6 105 (tn (x7 + 1))) 20 ∧
        vp_in (x7 + 5) 7056 ∧
        ∀ h9 : HP, h9 = up h6 105 (tn (x7 + 5)) ((h6 105 (tn (x7 + 4))) + (h4 83 (tn (h6 105 (tn (x7 + 1)))))) →
        H_Model_add_61 G h9 x4 (h9 105 (tn (x7 + 5))) (x6 + 1) K
      )
    )
  ) else (
    vp_in ((9 * (((h 67 49) - 1) - x6)) + x8) 63 ∧
    vp_in (x7 + x8) 7056 ∧
    ∀ h12 : HP, h12 = up h 105 (tn (x7 + x8)) (h 106 (tn ((9 * (((h 67 49) - 1) - x6)) + x8))) →
    H_Model_add_86 G h12 x4 x5 x6 x7 (x8 + 1) K
  )) : H_Model_add_86 G h x4 x5 x6 x7 x8 K := by
  unfold H_Model_add_86
  refine V_iload (q := 5) dX12_add_86 rfl ?_
  refine V_bipush (v := 9) dX12_add_88 rfl ?_
  refine V_icmp_ge (tgt := 129) dX12_add_90 (by decide) (fun q => ?_) (fun q => ?_)
  · have t := it_t q t
    refine V_aload_n (q := 0) dX12_add_129 rfl rfl ?_
    refine V_getr f_X12_122 dX12_add_130 rfl rfl ?_
    refine V_iload (q := 4) dX12_add_133 rfl ?_
    obtain ⟨n1, t⟩ := t
    refine V_iald dX12_add_135 rfl n1 ?_
    refine V_iconst (v := 2) dX12_add_136 rfl ?_
    refine V_icmp_le (tgt := 201) dX12_add_137 (by decide) (fun q => ?_) (fun q => ?_)
    · have t := it_t q t
      refine V_aload_n (q := 0) dX12_add_201 rfl rfl ?_
      refine V_getr f_X12_122 dX12_add_202 rfl rfl ?_
      refine V_iload (q := 4) dX12_add_205 rfl ?_
      refine V_iconst (v := 5) dX12_add_207 rfl ?_
      refine V_iadd dX12_add_208 ?_
      obtain ⟨n2, t⟩ := t
      refine V_iald dX12_add_209 rfl n2 ?_
      refine V_istore (L' := [(0, .ref (G.1 67)), (4, .int x4), (5, .int (h 105 (tn (x7 + 5)))), (6, .int x6), (7, .int x7), (8, .int x8)]) dX12_add_210 (by decide) rfl rfl ?_
      refine V_iinc (L' := [(0, .ref (G.1 67)), (4, .int x4), (5, .int (h 105 (tn (x7 + 5)))), (6, .int (x6 + 1)), (7, .int x7), (8, .int x8)]) (q := 3) (a := 1) dX12_add_212 rfl rfl (by decide) rfl rfl ?_
      refine V_goto (tgt := 61) dX12_add_215 (by decide) ?_
      refine V_pick (L' := [(0, .ref (G.1 67)), (4, .int x4), (5, .int (h 105 (tn (x7 + 5)))), (6, .int (x6 + 1))]) [0, 1, 2, 3] rfl ?_
      exact t
    · have t := it_f q t
      refine V_aload_n (q := 0) dX12_add_140 rfl rfl ?_
      refine V_getr f_X12_122 dX12_add_141 rfl rfl ?_
      refine V_iload (q := 4) dX12_add_144 rfl ?_
      refine V_iconst (v := 4) dX12_add_146 rfl ?_
      refine V_iadd dX12_add_147 ?_
      refine V_aload_n (q := 0) dX12_add_148 rfl rfl ?_
      refine V_aload_n (q := 0) dX12_add_149 rfl rfl ?_
      refine V_getr f_X12_122 dX12_add_150 rfl rfl ?_
      refine V_iload (q := 4) dX12_add_153 rfl ?_
      refine V_iconst (v := 1) dX12_add_155 rfl ?_
      refine V_iadd dX12_add_156 ?_
      obtain ⟨n3, t⟩ := t
      refine V_iald dX12_add_157 rfl n3 ?_
      refine V_iload (q := 2) dX12_add_158 rfl ?_
      refine V_aload_n (q := 0) dX12_add_160 rfl rfl ?_
      refine V_geti f_X12_187 dX12_add_161 rfl rfl ?_
      refine V_callV [.int (h 105 (tn (x7 + 1))), .int x5, .int (h 67 31)] [.int (x7 + 4), .ref (G.1 105)] g_X12_add_X12_begins wi_X12_begins ws_X12_begins dX12_add_164 rfl rfl rfl rfl rfl (Nat.le_of_ble_eq_true rfl) t (fun _ h4 t => ?_)
      obtain ⟨r5, rfl, t⟩ := t
      obtain ⟨n7, t⟩ := t
      have t := t _ rfl
      refine V_iast dX12_add_167 rfl n7 ?_
      refine V_aload_n (q := 0) dX12_add_168 rfl rfl ?_
      refine V_getr f_X12_122 dX12_add_169 rfl rfl ?_
      refine V_iload (q := 4) dX12_add_172 rfl ?_
      refine V_iconst (v := 5) dX12_add_174 rfl ?_
      refine V_iadd dX12_add_175 ?_
      refine V_aload_n (q := 0) dX12_add_176 rfl rfl ?_
      refine V_getr f_X12_122 dX12_add_177 rfl rfl ?_
      refine V_iload (q := 4) dX12_add_180 rfl ?_
      refine V_iconst (v := 4) dX12_add_182 rfl ?_
      refine V_iadd dX12_add_183 ?_
      refine V_iald dX12_add_184 rfl n7 ?_
      refine V_aload_n (q := 0) dX12_add_185 rfl rfl ?_
      refine V_getr f_X12_56 dX12_add_186 rfl rfl ?_
      refine V_aload_n (q := 0) dX12_add_189 rfl rfl ?_
      refine V_getr f_X12_122 dX12_add_190 rfl rfl ?_
      refine V_iload (q := 4) dX12_add_193 rfl ?_
      refine V_iconst (v := 1) dX12_add_195 rfl ?_
      refine V_iadd dX12_add_196 ?_
      refine V_iald dX12_add_197 rfl n3 ?_
      obtain ⟨n8, t⟩ := t
      refine V_iald dX12_add_198 rfl n8 ?_
      refine V_iadd dX12_add_199 ?_
      obtain ⟨n10, t⟩ := t
      have t := t _ rfl
      refine V_iast dX12_add_200 rfl n10 ?_
      refine V_aload_n (q := 0) dX12_add_201 rfl rfl ?_
      refine V_getr f_X12_122 dX12_add_202 rfl rfl ?_
      refine V_iload (q := 4) dX12_add_205 rfl ?_
      refine V_iconst (v := 5) dX12_add_207 rfl ?_
      refine V_iadd dX12_add_208 ?_
      refine V_iald dX12_add_209 rfl n10 ?_
      refine V_istore (L' := [(0, .ref (G.1 67)), (4, .int x4), (5, .int ((up (up h4 105 (tn (x7 + 4)) r5) 105 (tn (x7 + 5)) (((up h4 105 (tn (x7 + 4)) r5) 105 (tn (x7 + 4))) + (h4 83 (tn ((up h4 105 (tn (x7 + 4)) r5) 105 (tn (x7 + 1))))))) 105 (tn (x7 + 5)))), (6, .int x6), (7, .int x7), (8, .int x8)]) dX12_add_210 (by decide) rfl rfl ?_
      refine V_iinc (L' := [(0, .ref (G.1 67)), (4, .int x4), (5, .int ((up (up h4 105 (tn (x7 + 4)) r5) 105 (tn (x7 + 5)) (((up h4 105 (tn (x7 + 4)) r5) 105 (tn (x7 + 4))) + (h4 83 (tn ((up h4 105 (tn (x7 + 4)) r5) 105 (tn (x7 + 1))))))) 105 (tn (x7 + 5)))), (6, .int (x6 + 1)), (7, .int x7), (8, .int x8)]) (q := 3) (a := 1) dX12_add_212 rfl rfl (by decide) rfl rfl ?_
      refine V_goto (tgt := 61) dX12_add_215 (by decide) ?_
      refine V_pick (L' := [(0, .ref (G.1 67)), (4, .int x4), (5, .int ((up (up h4 105 (tn (x7 + 4)) r5) 105 (tn (x7 + 5)) (((up h4 105 (tn (x7 + 4)) r5) 105 (tn (x7 + 4))) + (h4 83 (tn ((up h4 105 (tn (x7 + 4)) r5) 105 (tn (x7 + 1))))))) 105 (tn (x7 + 5)))), (6, .int (x6 + 1))]) [0, 1, 2, 3] rfl ?_
      exact t
  · have t := it_f q t
    refine V_aload_n (q := 0) dX12_add_93 rfl rfl ?_
    refine V_getr f_X12_122 dX12_add_94 rfl rfl ?_
    refine V_iload (q := 4) dX12_add_97 rfl ?_
    refine V_iload (q := 5) dX12_add_99 rfl ?_
    refine V_iadd dX12_add_101 ?_
    refine V_aload_n (q := 0) dX12_add_102 rfl rfl ?_
    refine V_getr f_X12_125 dX12_add_103 rfl rfl ?_
    refine V_bipush (v := 9) dX12_add_106 rfl ?_
    refine V_aload_n (q := 0) dX12_add_108 rfl rfl ?_
    refine V_geti f_X12_233 dX12_add_109 rfl rfl ?_
    refine V_iconst (v := 1) dX12_add_112 rfl ?_
    refine V_isub dX12_add_113 ?_
    refine V_iload (q := 3) dX12_add_114 rfl ?_
    refine V_isub dX12_add_116 ?_
    refine V_imul dX12_add_117 ?_
    refine V_iload (q := 5) dX12_add_118 rfl ?_
    refine V_iadd dX12_add_120 ?_
    obtain ⟨n11, t⟩ := t
    refine V_iald dX12_add_121 rfl n11 ?_
    obtain ⟨n13, t⟩ := t
    have t := t _ rfl
    refine V_iast dX12_add_122 rfl n13 ?_
    refine V_iinc (L' := [(0, .ref (G.1 67)), (4, .int x4), (5, .int x5), (6, .int x6), (7, .int x7), (8, .int (x8 + 1))]) (q := 5) (a := 1) dX12_add_123 rfl rfl (by decide) rfl rfl ?_
    refine V_goto (tgt := 86) dX12_add_126 (by decide) ?_
    exact t
set_option maxRecDepth 20000 in
set_option maxHeartbeats 4000000 in
theorem s_Model_at_0 (G : GA) (h : HP) (x0 : Int32) (x1 : Int32) (x2 : Int32) (K : Int32 → HP → Prop) (t :
  K ((((x0 * 28) + x1) * 12) + x2) h) : P_Model_at G h x0 x1 x2 K := by
  refine Sp_of_V pf_X12_at (Nat.le_of_ble_eq_true rfl) rfl ?_
  refine V_iload_n (q := 0) dX12_at_0 rfl rfl ?_
  refine V_bipush (v := 28) dX12_at_1 rfl ?_
  refine V_imul dX12_at_3 ?_
  refine V_iload_n (q := 1) dX12_at_4 rfl rfl ?_
  refine V_iadd dX12_at_5 ?_
  refine V_bipush (v := 12) dX12_at_6 rfl ?_
  refine V_imul dX12_at_8 ?_
  refine V_iload_n (q := 2) dX12_at_9 rfl rfl ?_
  refine V_iadd dX12_at_10 ?_
  exact V_iret rfl dX12_at_11 t
set_option maxRecDepth 20000 in
set_option maxHeartbeats 4000000 in
theorem s_Model_behind_0 (G : GA) (h : HP) (x1 : Int32) (x2 : Int32) (x3 : Int32) (K : Int32 → HP → Prop) (t :
  P_Model_begins G h x1 x2 x3 (fun (r2 : Int32) (h1 : HP) =>
    vp_in x1 20 ∧
    K (r2 + (h1 83 (tn x1))) h1
  )) : P_Model_behind G h x1 x2 x3 K := by
  refine Sp_of_V pf_X12_behind (Nat.le_of_ble_eq_true rfl) rfl ?_
  refine V_aload_n (q := 0) dX12_behind_0 rfl rfl ?_
  refine V_iload_n (q := 1) dX12_behind_1 rfl rfl ?_
  refine V_iload_n (q := 2) dX12_behind_2 rfl rfl ?_
  refine V_iload_n (q := 3) dX12_behind_3 rfl rfl ?_
  refine V_callV [.int x1, .int x2, .int x3] [] g_X12_behind_X12_begins wi_X12_begins ws_X12_begins dX12_behind_4 rfl rfl rfl rfl rfl (Nat.le_of_ble_eq_true rfl) t (fun _ h1 t => ?_)
  obtain ⟨r2, rfl, t⟩ := t
  refine V_aload_n (q := 0) dX12_behind_7 rfl rfl ?_
  refine V_getr f_X12_56 dX12_behind_8 rfl rfl ?_
  refine V_iload_n (q := 1) dX12_behind_11 rfl rfl ?_
  obtain ⟨n3, t⟩ := t
  refine V_iald dX12_behind_12 rfl n3 ?_
  refine V_iadd dX12_behind_13 ?_
  exact V_iret rfl dX12_behind_14 t
set_option maxRecDepth 20000 in
set_option maxHeartbeats 4000000 in
theorem s_Model_arrival_0 (G : GA) (h : HP) (x1 : Int32) (x2 : Int32) (x3 : Int32) (K : Int32 → HP → Prop) (t :
  if x1 ≤ 0 then (
    if x2 = 0 then (
      if x3 = (h 67 40) then (
        H_Model_arrival_44 G h x1 x2 x3 (h 67 31) 0 K
      ) else (
        H_Model_arrival_44 G h x1 x2 x3 1000000000 0 K
      )
    ) else (
      H_Model_arrival_44 G h x1 x2 x3 1000000000 0 K
    )
  ) else (
    P_Model_at G h x1 x2 x3 (fun (r2 : Int32) (h1 : HP) =>
      vp_in r2 1344 ∧
      H_Model_arrival_44 G h1 x1 x2 x3 (h1 98 (tn r2)) 0 K
    )
  )) : P_Model_arrival G h x1 x2 x3 K := by
  refine Sp_of_V pf_X12_arrival (Nat.le_of_ble_eq_true rfl) rfl ?_
  refine V_iload_n (q := 1) dX12_arrival_0 rfl rfl ?_
  refine V_if_le (tgt := 18) dX12_arrival_1 (by decide) (fun q => ?_) (fun q => ?_)
  · have t := it_t q t
    refine V_iload_n (q := 2) dX12_arrival_18 rfl rfl ?_
    refine V_if_ne (tgt := 37) dX12_arrival_19 (by decide) (fun q => ?_) (fun q => ?_)
    · have t := it_f q t
      refine V_ldc (v := 1000000000) dX12_arrival_37 k_X12_208 ?_
      refine V_istore (L' := [(0, .ref (G.1 67)), (1, .int x1), (2, .int x2), (3, .int x3), (4, .int 1000000000)]) dX12_arrival_39 (by decide) rfl rfl ?_
      refine V_iconst (v := 0) dX12_arrival_41 rfl ?_
      refine V_istore (L' := [(0, .ref (G.1 67)), (1, .int x1), (2, .int x2), (3, .int x3), (4, .int 1000000000), (5, .int 0)]) dX12_arrival_42 (by decide) rfl rfl ?_
      exact t
    · have t := it_t q t
      refine V_iload_n (q := 3) dX12_arrival_22 rfl rfl ?_
      refine V_aload_n (q := 0) dX12_arrival_23 rfl rfl ?_
      refine V_geti f_X12_205 dX12_arrival_24 rfl rfl ?_
      refine V_icmp_ne (tgt := 37) dX12_arrival_27 (by decide) (fun q => ?_) (fun q => ?_)
      · have t := it_f q t
        refine V_ldc (v := 1000000000) dX12_arrival_37 k_X12_208 ?_
        refine V_istore (L' := [(0, .ref (G.1 67)), (1, .int x1), (2, .int x2), (3, .int x3), (4, .int 1000000000)]) dX12_arrival_39 (by decide) rfl rfl ?_
        refine V_iconst (v := 0) dX12_arrival_41 rfl ?_
        refine V_istore (L' := [(0, .ref (G.1 67)), (1, .int x1), (2, .int x2), (3, .int x3), (4, .int 1000000000), (5, .int 0)]) dX12_arrival_42 (by decide) rfl rfl ?_
        exact t
      · have t := it_t q t
        refine V_aload_n (q := 0) dX12_arrival_30 rfl rfl ?_
        refine V_geti f_X12_187 dX12_arrival_31 rfl rfl ?_
        refine V_goto (tgt := 39) dX12_arrival_34 (by decide) ?_
        refine V_istore (L' := [(0, .ref (G.1 67)), (1, .int x1), (2, .int x2), (3, .int x3), (4, .int (h 67 31))]) dX12_arrival_39 (by decide) rfl rfl ?_
        refine V_iconst (v := 0) dX12_arrival_41 rfl ?_
        refine V_istore (L' := [(0, .ref (G.1 67)), (1, .int x1), (2, .int x2), (3, .int x3), (4, .int (h 67 31)), (5, .int 0)]) dX12_arrival_42 (by decide) rfl rfl ?_
        exact t
  · have t := it_f q t
    refine V_aload_n (q := 0) dX12_arrival_4 rfl rfl ?_
    refine V_getr f_X12_101 dX12_arrival_5 rfl rfl ?_
    refine V_iload_n (q := 1) dX12_arrival_8 rfl rfl ?_
    refine V_iload_n (q := 2) dX12_arrival_9 rfl rfl ?_
    refine V_iload_n (q := 3) dX12_arrival_10 rfl rfl ?_
    refine V_callS [.int x1, .int x2, .int x3] [.ref (G.1 98)] g_X12_arrival_X12_at wt_X12_at dX12_arrival_11 rfl rfl (Nat.le_of_ble_eq_true rfl) t (fun _ h1 t => ?_)
    obtain ⟨r2, rfl, t⟩ := t
    obtain ⟨n3, t⟩ := t
    refine V_iald dX12_arrival_14 rfl n3 ?_
    refine V_goto (tgt := 39) dX12_arrival_15 (by decide) ?_
    refine V_istore (L' := [(0, .ref (G.1 67)), (1, .int x1), (2, .int x2), (3, .int x3), (4, .int (h1 98 (tn r2)))]) dX12_arrival_39 (by decide) rfl rfl ?_
    refine V_iconst (v := 0) dX12_arrival_41 rfl ?_
    refine V_istore (L' := [(0, .ref (G.1 67)), (1, .int x1), (2, .int x2), (3, .int x3), (4, .int (h1 98 (tn r2))), (5, .int 0)]) dX12_arrival_42 (by decide) rfl rfl ?_
    exact t
set_option maxRecDepth 20000 in
set_option maxHeartbeats 4000000 in
theorem s_Model_arrival_44 (G : GA) (h : HP) (x1 : Int32) (x2 : Int32) (x3 : Int32) (x4 : Int32) (x5 : Int32) (K : Int32 → HP → Prop) (t :
  if (h 67 2) ≤ x5 then (
    if (h 67 32) ≤ x4 then (
      K 1000000000 h
    ) else (
      K x4 h
    )
  ) else (
    vp_in x5 20 ∧
    if (h 82 (tn x5)) = x3 then (
      if x1 ≤ 0 then (
        if x2 = 0 then (
          if (h 81 (tn x5)) = (h 67 40) then (
            H_Model_arrival_118 G h x1 x2 x3 x4 x5 (h 67 31) K
          ) else (
            H_Model_arrival_116 G h x1 x2 x3 x4 x5 K
          )
        ) else (
          H_Model_arrival_116 G h x1 x2 x3 x4 x5 K
        )
      ) else (
        P_Model_at G h x1 x2 (h 81 (tn x5)) (fun (r3 : Int32) (h2 : HP) =>
          vp_in r3 1344 ∧
          H_Model_arrival_118 G h2 x1 x2 x3 x4 x5 (h2 98 (tn r3)) K
        )
      )
    ) else (
      H_Model_arrival_44 G h x1 x2 x3 x4 (x5 + 1) K
    )
  )) : H_Model_arrival_44 G h x1 x2 x3 x4 x5 K := by
  unfold H_Model_arrival_44
  refine V_iload (q := 5) dX12_arrival_44 rfl ?_
  refine V_aload_n (q := 0) dX12_arrival_46 rfl rfl ?_
  refine V_geti f_X12_161 dX12_arrival_47 rfl rfl ?_
  refine V_icmp_ge (tgt := 166) dX12_arrival_50 (by decide) (fun q => ?_) (fun q => ?_)
  · have t := it_t q t
    refine V_iload (q := 4) dX12_arrival_166 rfl ?_
    refine V_aload_n (q := 0) dX12_arrival_168 rfl rfl ?_
    refine V_geti f_X12_190 dX12_arrival_169 rfl rfl ?_
    refine V_icmp_ge (tgt := 180) dX12_arrival_172 (by decide) (fun q => ?_) (fun q => ?_)
    · have t := it_t q t
      refine V_ldc (v := 1000000000) dX12_arrival_180 k_X12_208 ?_
      exact V_iret rfl dX12_arrival_182 t
    · have t := it_f q t
      refine V_iload (q := 4) dX12_arrival_175 rfl ?_
      refine V_goto (tgt := 182) dX12_arrival_177 (by decide) ?_
      exact V_iret rfl dX12_arrival_182 t
  · have t := it_f q t
    refine V_aload_n (q := 0) dX12_arrival_53 rfl rfl ?_
    refine V_getr f_X12_53 dX12_arrival_54 rfl rfl ?_
    refine V_iload (q := 5) dX12_arrival_57 rfl ?_
    obtain ⟨n1, t⟩ := t
    refine V_iald dX12_arrival_59 rfl n1 ?_
    refine V_iload_n (q := 3) dX12_arrival_60 rfl rfl ?_
    refine V_icmp_eq (tgt := 67) dX12_arrival_61 (by decide) (fun q => ?_) (fun q => ?_)
    · have t := it_t q t
      refine V_iload_n (q := 1) dX12_arrival_67 rfl rfl ?_
      refine V_if_le (tgt := 91) dX12_arrival_68 (by decide) (fun q => ?_) (fun q => ?_)
      · have t := it_t q t
        refine V_iload_n (q := 2) dX12_arrival_91 rfl rfl ?_
        refine V_if_ne (tgt := 116) dX12_arrival_92 (by decide) (fun q => ?_) (fun q => ?_)
        · have t := it_f q t
          exact t
        · have t := it_t q t
          refine V_aload_n (q := 0) dX12_arrival_95 rfl rfl ?_
          refine V_getr f_X12_50 dX12_arrival_96 rfl rfl ?_
          refine V_iload (q := 5) dX12_arrival_99 rfl ?_
          refine V_iald dX12_arrival_101 rfl n1 ?_
          refine V_aload_n (q := 0) dX12_arrival_102 rfl rfl ?_
          refine V_geti f_X12_205 dX12_arrival_103 rfl rfl ?_
          refine V_icmp_ne (tgt := 116) dX12_arrival_106 (by decide) (fun q => ?_) (fun q => ?_)
          · have t := it_f q t
            exact t
          · have t := it_t q t
            refine V_aload_n (q := 0) dX12_arrival_109 rfl rfl ?_
            refine V_geti f_X12_187 dX12_arrival_110 rfl rfl ?_
            refine V_goto (tgt := 118) dX12_arrival_113 (by decide) ?_
            exact t
      · have t := it_f q t
        refine V_aload_n (q := 0) dX12_arrival_71 rfl rfl ?_
        refine V_getr f_X12_101 dX12_arrival_72 rfl rfl ?_
        refine V_iload_n (q := 1) dX12_arrival_75 rfl rfl ?_
        refine V_iload_n (q := 2) dX12_arrival_76 rfl rfl ?_
        refine V_aload_n (q := 0) dX12_arrival_77 rfl rfl ?_
        refine V_getr f_X12_50 dX12_arrival_78 rfl rfl ?_
        refine V_iload (q := 5) dX12_arrival_81 rfl ?_
        refine V_iald dX12_arrival_83 rfl n1 ?_
        refine V_callS [.int x1, .int x2, .int (h 81 (tn x5))] [.ref (G.1 98)] g_X12_arrival_X12_at wt_X12_at dX12_arrival_84 rfl rfl (Nat.le_of_ble_eq_true rfl) t (fun _ h2 t => ?_)
        obtain ⟨r3, rfl, t⟩ := t
        obtain ⟨n4, t⟩ := t
        refine V_iald dX12_arrival_87 rfl n4 ?_
        refine V_goto (tgt := 118) dX12_arrival_88 (by decide) ?_
        exact t
    · have t := it_f q t
      refine V_goto (tgt := 160) dX12_arrival_64 (by decide) ?_
      refine V_iinc (L' := [(0, .ref (G.1 67)), (1, .int x1), (2, .int x2), (3, .int x3), (4, .int x4), (5, .int (x5 + 1))]) (q := 5) (a := 1) dX12_arrival_160 rfl rfl (by decide) rfl rfl ?_
      refine V_goto (tgt := 44) dX12_arrival_163 (by decide) ?_
      exact t
set_option maxRecDepth 20000 in
set_option maxHeartbeats 4000000 in
theorem s_Model_arrival_116 (G : GA) (h : HP) (x1 : Int32) (x2 : Int32) (x3 : Int32) (x4 : Int32) (x5 : Int32) (K : Int32 → HP → Prop) (t :
  H_Model_arrival_118 G h x1 x2 x3 x4 x5 1000000000 K) : H_Model_arrival_116 G h x1 x2 x3 x4 x5 K := by
  unfold H_Model_arrival_116
  refine V_ldc (v := 1000000000) dX12_arrival_116 k_X12_208 ?_
  exact t
set_option maxRecDepth 20000 in
set_option maxHeartbeats 4000000 in
theorem s_Model_arrival_118 (G : GA) (h : HP) (x1 : Int32) (x2 : Int32) (x3 : Int32) (x4 : Int32) (x5 : Int32) (y0 : Int32) (K : Int32 → HP → Prop) (t :
  if y0 = 1000000000 then (
    H_Model_arrival_44 G h x1 x2 x3 x4 (x5 + 1) K
  ) else (
    P_Model_behind G h x5 y0 (h 67 31) (fun (r2 : Int32) (h1 : HP) =>
      if x4 ≤ r2 then (
        H_Model_arrival_44 G h1 x1 x2 x3 x4 (x5 + 1) K
      ) else (
        H_Model_arrival_44 G h1 x1 x2 x3 r2 (x5 + 1) K
      )
    )
  )) : H_Model_arrival_118 G h x1 x2 x3 x4 x5 y0 K := by
  unfold H_Model_arrival_118
  refine V_istore (L' := [(0, .ref (G.1 67)), (1, .int x1), (2, .int x2), (3, .int x3), (4, .int x4), (5, .int x5), (6, .int y0)]) dX12_arrival_118 (by decide) rfl rfl ?_
  refine V_iload (q := 6) dX12_arrival_120 rfl ?_
  refine V_ldc (v := 1000000000) dX12_arrival_122 k_X12_208 ?_
  refine V_icmp_ne (tgt := 130) dX12_arrival_124 (by decide) (fun q => ?_) (fun q => ?_)
  · have t := it_f q t
    refine V_aload_n (q := 0) dX12_arrival_130 rfl rfl ?_
    refine V_iload (q := 5) dX12_arrival_131 rfl ?_
    refine V_iload (q := 6) dX12_arrival_133 rfl ?_
    refine V_aload_n (q := 0) dX12_arrival_135 rfl rfl ?_
    refine V_geti f_X12_187 dX12_arrival_136 rfl rfl ?_
    refine V_callV [.int x5, .int y0, .int (h 67 31)] [] g_X12_arrival_X12_behind wi_X12_behind ws_X12_behind dX12_arrival_139 rfl rfl rfl rfl rfl (Nat.le_of_ble_eq_true rfl) t (fun _ h1 t => ?_)
    obtain ⟨r2, rfl, t⟩ := t
    refine V_istore (L' := [(0, .ref (G.1 67)), (1, .int x1), (2, .int x2), (3, .int x3), (4, .int x4), (5, .int x5), (6, .int y0), (7, .int r2)]) dX12_arrival_142 (by decide) rfl rfl ?_
    refine V_iload (q := 7) dX12_arrival_144 rfl ?_
    refine V_iload (q := 4) dX12_arrival_146 rfl ?_
    refine V_icmp_ge (tgt := 156) dX12_arrival_148 (by decide) (fun q => ?_) (fun q => ?_)
    · have t := it_t q t
      refine V_iload (q := 4) dX12_arrival_156 rfl ?_
      refine V_istore (L' := [(0, .ref (G.1 67)), (1, .int x1), (2, .int x2), (3, .int x3), (4, .int x4), (5, .int x5), (6, .int y0), (7, .int r2)]) dX12_arrival_158 (by decide) rfl rfl ?_
      refine V_iinc (L' := [(0, .ref (G.1 67)), (1, .int x1), (2, .int x2), (3, .int x3), (4, .int x4), (5, .int (x5 + 1)), (6, .int y0), (7, .int r2)]) (q := 5) (a := 1) dX12_arrival_160 rfl rfl (by decide) rfl rfl ?_
      refine V_goto (tgt := 44) dX12_arrival_163 (by decide) ?_
      refine V_pick (L' := [(0, .ref (G.1 67)), (1, .int x1), (2, .int x2), (3, .int x3), (4, .int x4), (5, .int (x5 + 1))]) [0, 1, 2, 3, 4, 5] rfl ?_
      exact t
    · have t := it_f q t
      refine V_iload (q := 7) dX12_arrival_151 rfl ?_
      refine V_goto (tgt := 158) dX12_arrival_153 (by decide) ?_
      refine V_istore (L' := [(0, .ref (G.1 67)), (1, .int x1), (2, .int x2), (3, .int x3), (4, .int r2), (5, .int x5), (6, .int y0), (7, .int r2)]) dX12_arrival_158 (by decide) rfl rfl ?_
      refine V_iinc (L' := [(0, .ref (G.1 67)), (1, .int x1), (2, .int x2), (3, .int x3), (4, .int r2), (5, .int (x5 + 1)), (6, .int y0), (7, .int r2)]) (q := 5) (a := 1) dX12_arrival_160 rfl rfl (by decide) rfl rfl ?_
      refine V_goto (tgt := 44) dX12_arrival_163 (by decide) ?_
      refine V_pick (L' := [(0, .ref (G.1 67)), (1, .int x1), (2, .int x2), (3, .int x3), (4, .int r2), (5, .int (x5 + 1))]) [0, 1, 2, 3, 4, 5] rfl ?_
      exact t
  · have t := it_t q t
    refine V_goto (tgt := 160) dX12_arrival_127 (by decide) ?_
    refine V_iinc (L' := [(0, .ref (G.1 67)), (1, .int x1), (2, .int x2), (3, .int x3), (4, .int x4), (5, .int (x5 + 1)), (6, .int y0)]) (q := 5) (a := 1) dX12_arrival_160 rfl rfl (by decide) rfl rfl ?_
    refine V_goto (tgt := 44) dX12_arrival_163 (by decide) ?_
    refine V_pick (L' := [(0, .ref (G.1 67)), (1, .int x1), (2, .int x2), (3, .int x3), (4, .int x4), (5, .int (x5 + 1))]) [0, 1, 2, 3, 4, 5] rfl ?_
    exact t
set_option maxRecDepth 20000 in
set_option maxHeartbeats 4000000 in
theorem s_Model_fareOf_0 (G : GA) (h : HP) (x1 : Int32) (x2 : Int32) (x3 : Int32) (K : Int32 → HP → Prop) (t :
  vp_in ((8 * x1) + x2) 192 ∧
  vp_in (h 76 (tn ((8 * x1) + x2))) 12 ∧
  vp_in ((8 * x1) + x3) 192 ∧
  vp_in (h 76 (tn ((8 * x1) + x3))) 12 ∧
  vp_in ((4 * (h 69 (tn (h 76 (tn ((8 * x1) + x2)))))) + (h 69 (tn (h 76 (tn ((8 * x1) + x3)))))) 16 ∧
  K (h 70 (tn ((4 * (h 69 (tn (h 76 (tn ((8 * x1) + x2)))))) + (h 69 (tn (h 76 (tn ((8 * x1) + x3)))))))) h) : P_Model_fareOf G h x1 x2 x3 K := by
  refine Sp_of_V pf_X12_fareOf (Nat.le_of_ble_eq_true rfl) rfl ?_
  refine V_aload_n (q := 0) dX12_fareOf_0 rfl rfl ?_
  refine V_getr f_X12_16 dX12_fareOf_1 rfl rfl ?_
  refine V_iconst (v := 4) dX12_fareOf_4 rfl ?_
  refine V_aload_n (q := 0) dX12_fareOf_5 rfl rfl ?_
  refine V_getr f_X12_13 dX12_fareOf_6 rfl rfl ?_
  refine V_aload_n (q := 0) dX12_fareOf_9 rfl rfl ?_
  refine V_getr f_X12_34 dX12_fareOf_10 rfl rfl ?_
  refine V_bipush (v := 8) dX12_fareOf_13 rfl ?_
  refine V_iload_n (q := 1) dX12_fareOf_15 rfl rfl ?_
  refine V_imul dX12_fareOf_16 ?_
  refine V_iload_n (q := 2) dX12_fareOf_17 rfl rfl ?_
  refine V_iadd dX12_fareOf_18 ?_
  obtain ⟨n1, t⟩ := t
  refine V_iald dX12_fareOf_19 rfl n1 ?_
  obtain ⟨n2, t⟩ := t
  refine V_iald dX12_fareOf_20 rfl n2 ?_
  refine V_imul dX12_fareOf_21 ?_
  refine V_aload_n (q := 0) dX12_fareOf_22 rfl rfl ?_
  refine V_getr f_X12_13 dX12_fareOf_23 rfl rfl ?_
  refine V_aload_n (q := 0) dX12_fareOf_26 rfl rfl ?_
  refine V_getr f_X12_34 dX12_fareOf_27 rfl rfl ?_
  refine V_bipush (v := 8) dX12_fareOf_30 rfl ?_
  refine V_iload_n (q := 1) dX12_fareOf_32 rfl rfl ?_
  refine V_imul dX12_fareOf_33 ?_
  refine V_iload_n (q := 3) dX12_fareOf_34 rfl rfl ?_
  refine V_iadd dX12_fareOf_35 ?_
  obtain ⟨n3, t⟩ := t
  refine V_iald dX12_fareOf_36 rfl n3 ?_
  obtain ⟨n4, t⟩ := t
  refine V_iald dX12_fareOf_37 rfl n4 ?_
  refine V_iadd dX12_fareOf_38 ?_
  obtain ⟨n5, t⟩ := t
  refine V_iald dX12_fareOf_39 rfl n5 ?_
  exact V_iret rfl dX12_fareOf_40 t
set_option maxRecDepth 20000 in
set_option maxHeartbeats 4000000 in
theorem s_Model_hasPlace_0 (G : GA) (h : HP) (x1 : Int32) (x2 : Int32) (x3 : Int32) (x4 : Int32) (K : Bool → HP → Prop) (t :
  vp_in ((8 * x1) + x3) 192 ∧
  if (h 79 (tn ((8 * x1) + x3))) = 0 then (
    vp_in ((8 * x1) + x4) 192 ∧
    if (h 79 (tn ((8 * x1) + x4))) = 0 then (
      H_Model_hasPlace_34 G h x1 x2 x4 x3 K
    ) else (
      K false h
    )
  ) else (
    K false h
  )) : P_Model_hasPlace G h x1 x2 x3 x4 K := by
  refine Sp_of_V pf_X12_hasPlace (Nat.le_of_ble_eq_true rfl) rfl ?_
  refine V_aload_n (q := 0) dX12_hasPlace_0 rfl rfl ?_
  refine V_getr f_X12_43 dX12_hasPlace_1 rfl rfl ?_
  refine V_bipush (v := 8) dX12_hasPlace_4 rfl ?_
  refine V_iload_n (q := 1) dX12_hasPlace_6 rfl rfl ?_
  refine V_imul dX12_hasPlace_7 ?_
  refine V_iload_n (q := 3) dX12_hasPlace_8 rfl rfl ?_
  refine V_iadd dX12_hasPlace_9 ?_
  obtain ⟨n1, t⟩ := t
  refine V_zald dX12_hasPlace_10 rfl n1 ?_
  refine V_if_ne (tgt := 29) dX12_hasPlace_11 (by decide) (fun q => ?_) (fun q => ?_)
  · have t := it_f q t
    refine V_iconst (v := 0) dX12_hasPlace_29 rfl ?_
    exact V_zret (b := false) rfl dX12_hasPlace_30 t
  · have t := it_t q t
    refine V_aload_n (q := 0) dX12_hasPlace_14 rfl rfl ?_
    refine V_getr f_X12_43 dX12_hasPlace_15 rfl rfl ?_
    refine V_bipush (v := 8) dX12_hasPlace_18 rfl ?_
    refine V_iload_n (q := 1) dX12_hasPlace_20 rfl rfl ?_
    refine V_imul dX12_hasPlace_21 ?_
    refine V_iload (q := 4) dX12_hasPlace_22 rfl ?_
    refine V_iadd dX12_hasPlace_24 ?_
    obtain ⟨n2, t⟩ := t
    refine V_zald dX12_hasPlace_25 rfl n2 ?_
    refine V_if_eq (tgt := 31) dX12_hasPlace_26 (by decide) (fun q => ?_) (fun q => ?_)
    · have t := it_t q t
      refine V_iload_n (q := 3) dX12_hasPlace_31 rfl rfl ?_
      refine V_istore (L' := [(0, .ref (G.1 67)), (1, .int x1), (2, .int x2), (3, .int x3), (4, .int x4), (5, .int x3)]) dX12_hasPlace_32 (by decide) rfl rfl ?_
      refine V_pick (L' := [(0, .ref (G.1 67)), (1, .int x1), (2, .int x2), (4, .int x4), (5, .int x3)]) [0, 1, 2, 4, 5] rfl ?_
      exact t
    · have t := it_f q t
      refine V_iconst (v := 0) dX12_hasPlace_29 rfl ?_
      exact V_zret (b := false) rfl dX12_hasPlace_30 t
set_option maxRecDepth 20000 in
set_option maxHeartbeats 4000000 in
theorem s_Model_hasPlace_34 (G : GA) (h : HP) (x1 : Int32) (x2 : Int32) (x4 : Int32) (x5 : Int32) (K : Bool → HP → Prop) (t :
  if x4 ≤ x5 then (
    K true h
  ) else (
    vp_in x1 24 ∧
    if (h 72 (tn x1)) = 0 then (
      K true h
    ) else (
      vp_in ((((100 * x1) + x2) * 8) + x5) 19200 ∧
      if (h 93 (tn ((((100 * x1) + x2) * 8) + x5))) < (h 74 (tn x1)) then (
        H_Model_hasPlace_34 G h x1 x2 x4 (x5 + 1) K
      ) else (
        K false h
      )
    )
  )) : H_Model_hasPlace_34 G h x1 x2 x4 x5 K := by
  unfold H_Model_hasPlace_34
  refine V_iload (q := 4) dX12_hasPlace_34 rfl ?_
  refine V_iload (q := 3) dX12_hasPlace_36 rfl ?_
  refine V_icmp_ge (tgt := 84) dX12_hasPlace_38 (by decide) (fun q => ?_) (fun q => ?_)
  · have t := it_t q t
    refine V_iconst (v := 1) dX12_hasPlace_84 rfl ?_
    exact V_zret (b := true) rfl dX12_hasPlace_85 t
  · have t := it_f q t
    refine V_aload_n (q := 0) dX12_hasPlace_41 rfl rfl ?_
    refine V_getr f_X12_22 dX12_hasPlace_42 rfl rfl ?_
    refine V_iload_n (q := 1) dX12_hasPlace_45 rfl rfl ?_
    obtain ⟨n1, t⟩ := t
    refine V_iald dX12_hasPlace_46 rfl n1 ?_
    refine V_if_eq (tgt := 84) dX12_hasPlace_47 (by decide) (fun q => ?_) (fun q => ?_)
    · have t := it_t q t
      refine V_iconst (v := 1) dX12_hasPlace_84 rfl ?_
      exact V_zret (b := true) rfl dX12_hasPlace_85 t
    · have t := it_f q t
      refine V_aload_n (q := 0) dX12_hasPlace_50 rfl rfl ?_
      refine V_getr f_X12_86 dX12_hasPlace_51 rfl rfl ?_
      refine V_bipush (v := 100) dX12_hasPlace_54 rfl ?_
      refine V_iload_n (q := 1) dX12_hasPlace_56 rfl rfl ?_
      refine V_imul dX12_hasPlace_57 ?_
      refine V_iload_n (q := 2) dX12_hasPlace_58 rfl rfl ?_
      refine V_iadd dX12_hasPlace_59 ?_
      refine V_bipush (v := 8) dX12_hasPlace_60 rfl ?_
      refine V_imul dX12_hasPlace_62 ?_
      refine V_iload (q := 4) dX12_hasPlace_63 rfl ?_
      refine V_iadd dX12_hasPlace_65 ?_
      obtain ⟨n2, t⟩ := t
      refine V_iald dX12_hasPlace_66 rfl n2 ?_
      refine V_aload_n (q := 0) dX12_hasPlace_67 rfl rfl ?_
      refine V_getr f_X12_28 dX12_hasPlace_68 rfl rfl ?_
      refine V_iload_n (q := 1) dX12_hasPlace_71 rfl rfl ?_
      refine V_iald dX12_hasPlace_72 rfl n1 ?_
      refine V_icmp_lt (tgt := 78) dX12_hasPlace_73 (by decide) (fun q => ?_) (fun q => ?_)
      · have t := it_t q t
        refine V_iinc (L' := [(0, .ref (G.1 67)), (1, .int x1), (2, .int x2), (4, .int x4), (5, .int (x5 + 1))]) (q := 4) (a := 1) dX12_hasPlace_78 rfl rfl (by decide) rfl rfl ?_
        refine V_goto (tgt := 34) dX12_hasPlace_81 (by decide) ?_
        exact t
      · have t := it_f q t
        refine V_iconst (v := 0) dX12_hasPlace_76 rfl ?_
        exact V_zret (b := false) rfl dX12_hasPlace_77 t
set_option maxRecDepth 20000 in
set_option maxHeartbeats 4000000 in
theorem s_Model_findRide_0 (G : GA) (h : HP) (x1 : Int32) (x2 : Int32) (x3 : Int32) (x4 : Int32) (x5 : Bool) (x6 : Int32) (K : Bool → HP → Prop) (t :
  H_Model_findRide_3 G h x1 x2 x3 x4 x5 x6 0 K) : P_Model_findRide G h x1 x2 x3 x4 x5 x6 K := by
  refine Sp_of_V pf_X12_findRide (Nat.le_of_ble_eq_true rfl) rfl ?_
  refine V_iconst (v := 0) dX12_findRide_0 rfl ?_
  refine V_istore (L' := [(0, .ref (G.1 67)), (1, .int x1), (2, .int x2), (3, .int x3), (4, .int x4), (5, .int (b2i x5)), (6, .int x6), (7, .int 0)]) dX12_findRide_1 (by decide) rfl rfl ?_
  exact t
set_option maxRecDepth 20000 in
set_option maxHeartbeats 4000000 in
theorem s_Model_findRide_3 (G : GA) (h : HP) (x1 : Int32) (x2 : Int32) (x3 : Int32) (x4 : Int32) (x5 : Bool) (x6 : Int32) (x7 : Int32) (K : Bool → HP → Prop) (t :
  if (h 67 33) ≤ x7 then (
    K false h
  ) else (
    vp_in x7 2400 ∧
    H_Model_findRide_24 G h x1 x2 x3 x4 x5 x6 x7 (h 94 (tn x7)) 0 K
  )) : H_Model_findRide_3 G h x1 x2 x3 x4 x5 x6 x7 K := by
  unfold H_Model_findRide_3
  refine V_iload (q := 7) dX12_findRide_3 rfl ?_
  refine V_aload_n (q := 0) dX12_findRide_5 rfl rfl ?_
  refine V_geti f_X12_193 dX12_findRide_6 rfl rfl ?_
  refine V_icmp_ge (tgt := 297) dX12_findRide_9 (by decide) (fun q => ?_) (fun q => ?_)
  · have t := it_t q t
    refine V_iconst (v := 0) dX12_findRide_297 rfl ?_
    exact V_zret (b := false) rfl dX12_findRide_298 t
  · have t := it_f q t
    refine V_aload_n (q := 0) dX12_findRide_12 rfl rfl ?_
    refine V_getr f_X12_89 dX12_findRide_13 rfl rfl ?_
    refine V_iload (q := 7) dX12_findRide_16 rfl ?_
    obtain ⟨n1, t⟩ := t
    refine V_iald dX12_findRide_18 rfl n1 ?_
    refine V_istore (L' := [(0, .ref (G.1 67)), (1, .int x1), (2, .int x2), (3, .int x3), (4, .int x4), (5, .int (b2i x5)), (6, .int x6), (7, .int x7), (8, .int (h 94 (tn x7)))]) dX12_findRide_19 (by decide) rfl rfl ?_
    refine V_iconst (v := 0) dX12_findRide_21 rfl ?_
    refine V_istore (L' := [(0, .ref (G.1 67)), (1, .int x1), (2, .int x2), (3, .int x3), (4, .int x4), (5, .int (b2i x5)), (6, .int x6), (7, .int x7), (8, .int (h 94 (tn x7))), (9, .int 0)]) dX12_findRide_22 (by decide) rfl rfl ?_
    exact t
set_option maxRecDepth 20000 in
set_option maxHeartbeats 4000000 in
theorem s_Model_findRide_24 (G : GA) (h : HP) (x1 : Int32) (x2 : Int32) (x3 : Int32) (x4 : Int32) (x5 : Bool) (x6 : Int32) (x7 : Int32) (x8 : Int32) (x9 : Int32) (K : Bool → HP → Prop) (t :
  vp_in x8 24 ∧
  if (h 75 (tn x8)) ≤ x9 then (
    H_Model_findRide_3 G h x1 x2 x3 x4 x5 x6 (x7 + 1) K
  ) else (
    H_Model_findRide_42 G h x1 x2 x3 x4 x5 x6 x7 x8 x9 (x9 + 1) K
  )) : H_Model_findRide_24 G h x1 x2 x3 x4 x5 x6 x7 x8 x9 K := by
  unfold H_Model_findRide_24
  refine V_iload (q := 9) dX12_findRide_24 rfl ?_
  refine V_aload_n (q := 0) dX12_findRide_26 rfl rfl ?_
  refine V_getr f_X12_31 dX12_findRide_27 rfl rfl ?_
  refine V_iload (q := 8) dX12_findRide_30 rfl ?_
  obtain ⟨n1, t⟩ := t
  refine V_iald dX12_findRide_32 rfl n1 ?_
  refine V_icmp_ge (tgt := 291) dX12_findRide_33 (by decide) (fun q => ?_) (fun q => ?_)
  · have t := it_t q t
    refine V_iinc (L' := [(0, .ref (G.1 67)), (1, .int x1), (2, .int x2), (3, .int x3), (4, .int x4), (5, .int (b2i x5)), (6, .int x6), (7, .int (x7 + 1)), (8, .int x8), (9, .int x9)]) (q := 7) (a := 1) dX12_findRide_291 rfl rfl (by decide) rfl rfl ?_
    refine V_goto (tgt := 3) dX12_findRide_294 (by decide) ?_
    refine V_pick (L' := [(0, .ref (G.1 67)), (1, .int x1), (2, .int x2), (3, .int x3), (4, .int x4), (5, .int (b2i x5)), (6, .int x6), (7, .int (x7 + 1))]) [0, 1, 2, 3, 4, 5, 6, 7] rfl ?_
    exact t
  · have t := it_f q t
    refine V_iload (q := 9) dX12_findRide_36 rfl ?_
    refine V_iconst (v := 1) dX12_findRide_38 rfl ?_
    refine V_iadd dX12_findRide_39 ?_
    refine V_istore (L' := [(0, .ref (G.1 67)), (1, .int x1), (2, .int x2), (3, .int x3), (4, .int x4), (5, .int (b2i x5)), (6, .int x6), (7, .int x7), (8, .int x8), (9, .int x9), (10, .int (x9 + 1))]) dX12_findRide_40 (by decide) rfl rfl ?_
    exact t
set_option maxRecDepth 20000 in
set_option maxHeartbeats 4000000 in
theorem s_Model_findRide_42 (G : GA) (h : HP) (x1 : Int32) (x2 : Int32) (x3 : Int32) (x4 : Int32) (x5 : Bool) (x6 : Int32) (x7 : Int32) (x8 : Int32) (x9 : Int32) (x10 : Int32) (K : Bool → HP → Prop) (t :
  vp_in x8 24 ∧
  if (h 75 (tn x8)) ≤ x10 then (
    H_Model_findRide_24 G h x1 x2 x3 x4 x5 x6 x7 x8 (x9 + 1) K
  ) else (
    vp_in ((8 * x8) + x10) 192 ∧
    if (h 76 (tn ((8 * x8) + x10))) = x3 then (
      vp_in ((8 * x7) + x10) 19200 ∧
      if (h 67 32) ≤ (h 96 (tn ((8 * x7) + x10))) then (
        H_Model_findRide_42 G h x1 x2 x3 x4 x5 x6 x7 x8 x9 (x10 + 1) K
      ) else (
        vp_in x7 2400 ∧
        P_Model_hasPlace G h x8 (h 95 (tn x7)) x9 x10 (fun (b6 : Bool) (h5 : HP) =>
          if b6 = true then (
            P_Model_fareOf G h5 x8 x9 x10 (fun (r8 : Int32) (h7 : HP) =>
              if (x2 - r8) < 0 then (
                H_Model_findRide_42 G h7 x1 x2 x3 x4 x5 x6 x7 x8 x9 (x10 + 1) K
              ) else (
                vp_in ((8 * x8) + x9) 192 ∧
                P_Model_at G h7 (x1 - 1) (x2 - r8) (h7 76 (tn ((8 * x8) + x9))) (fun (r11 : Int32) (h10 : HP) =>
                  vp_in r11 1344 ∧
                  vp_in ((8 * x7) + x9) 19200 ∧
                  if (h10 99 (tn r11)) ≤ (h10 97 (tn ((8 * x7) + x9))) then (
                    if x4 < 0 then (
                      if x5 = true then (
                        H_Model_findRide_232 G h10 x1 x2 x3 x4 x5 x6 x7 x8 x9 x10 (h10 96 (tn ((8 * x7) + x10))) K
                      ) else (
                        vp_in x3 12 ∧
                        H_Model_findRide_232 G h10 x1 x2 x3 x4 x5 x6 x7 x8 x9 x10 ((h10 96 (tn ((8 * x7) + x10))) + (h10 68 (tn x3))) K
                      )
                    ) else (
                      P_Model_behind G h10 x4 (h10 96 (tn ((8 * x7) + x10))) (h10 67 31) (fun (r16 : Int32) (h15 : HP) =>
                        H_Model_findRide_232 G h15 x1 x2 x3 x4 x5 x6 x7 x8 x9 x10 r16 K
                      )
                    )
                  ) else (
                    H_Model_findRide_42 G h10 x1 x2 x3 x4 x5 x6 x7 x8 x9 (x10 + 1) K
                  )
                )
              )
            )
          ) else (
            H_Model_findRide_42 G h5 x1 x2 x3 x4 x5 x6 x7 x8 x9 (x10 + 1) K
          )
        )
      )
    ) else (
      H_Model_findRide_42 G h x1 x2 x3 x4 x5 x6 x7 x8 x9 (x10 + 1) K
    )
  )) : H_Model_findRide_42 G h x1 x2 x3 x4 x5 x6 x7 x8 x9 x10 K := by
  unfold H_Model_findRide_42
  refine V_iload (q := 10) dX12_findRide_42 rfl ?_
  refine V_aload_n (q := 0) dX12_findRide_44 rfl rfl ?_
  refine V_getr f_X12_31 dX12_findRide_45 rfl rfl ?_
  refine V_iload (q := 8) dX12_findRide_48 rfl ?_
  obtain ⟨n1, t⟩ := t
  refine V_iald dX12_findRide_50 rfl n1 ?_
  refine V_icmp_ge (tgt := 285) dX12_findRide_51 (by decide) (fun q => ?_) (fun q => ?_)
  · have t := it_t q t
    refine V_iinc (L' := [(0, .ref (G.1 67)), (1, .int x1), (2, .int x2), (3, .int x3), (4, .int x4), (5, .int (b2i x5)), (6, .int x6), (7, .int x7), (8, .int x8), (9, .int (x9 + 1)), (10, .int x10)]) (q := 9) (a := 1) dX12_findRide_285 rfl rfl (by decide) rfl rfl ?_
    refine V_goto (tgt := 24) dX12_findRide_288 (by decide) ?_
    refine V_pick (L' := [(0, .ref (G.1 67)), (1, .int x1), (2, .int x2), (3, .int x3), (4, .int x4), (5, .int (b2i x5)), (6, .int x6), (7, .int x7), (8, .int x8), (9, .int (x9 + 1))]) [0, 1, 2, 3, 4, 5, 6, 7, 8, 9] rfl ?_
    exact t
  · have t := it_f q t
    refine V_aload_n (q := 0) dX12_findRide_54 rfl rfl ?_
    refine V_getr f_X12_34 dX12_findRide_55 rfl rfl ?_
    refine V_bipush (v := 8) dX12_findRide_58 rfl ?_
    refine V_iload (q := 8) dX12_findRide_60 rfl ?_
    refine V_imul dX12_findRide_62 ?_
    refine V_iload (q := 10) dX12_findRide_63 rfl ?_
    refine V_iadd dX12_findRide_65 ?_
    obtain ⟨n2, t⟩ := t
    refine V_iald dX12_findRide_66 rfl n2 ?_
    refine V_iload_n (q := 3) dX12_findRide_67 rfl rfl ?_
    refine V_icmp_ne (tgt := 279) dX12_findRide_68 (by decide) (fun q => ?_) (fun q => ?_)
    · have t := it_f q t
      refine V_iinc (L' := [(0, .ref (G.1 67)), (1, .int x1), (2, .int x2), (3, .int x3), (4, .int x4), (5, .int (b2i x5)), (6, .int x6), (7, .int x7), (8, .int x8), (9, .int x9), (10, .int (x10 + 1))]) (q := 10) (a := 1) dX12_findRide_279 rfl rfl (by decide) rfl rfl ?_
      refine V_goto (tgt := 42) dX12_findRide_282 (by decide) ?_
      exact t
    · have t := it_t q t
      refine V_aload_n (q := 0) dX12_findRide_71 rfl rfl ?_
      refine V_getr f_X12_95 dX12_findRide_72 rfl rfl ?_
      refine V_bipush (v := 8) dX12_findRide_75 rfl ?_
      refine V_iload (q := 7) dX12_findRide_77 rfl ?_
      refine V_imul dX12_findRide_79 ?_
      refine V_iload (q := 10) dX12_findRide_80 rfl ?_
      refine V_iadd dX12_findRide_82 ?_
      obtain ⟨n3, t⟩ := t
      refine V_iald dX12_findRide_83 rfl n3 ?_
      refine V_aload_n (q := 0) dX12_findRide_84 rfl rfl ?_
      refine V_geti f_X12_190 dX12_findRide_85 rfl rfl ?_
      refine V_icmp_ge (tgt := 279) dX12_findRide_88 (by decide) (fun q => ?_) (fun q => ?_)
      · have t := it_t q t
        refine V_iinc (L' := [(0, .ref (G.1 67)), (1, .int x1), (2, .int x2), (3, .int x3), (4, .int x4), (5, .int (b2i x5)), (6, .int x6), (7, .int x7), (8, .int x8), (9, .int x9), (10, .int (x10 + 1))]) (q := 10) (a := 1) dX12_findRide_279 rfl rfl (by decide) rfl rfl ?_
        refine V_goto (tgt := 42) dX12_findRide_282 (by decide) ?_
        exact t
      · have t := it_f q t
        refine V_aload_n (q := 0) dX12_findRide_91 rfl rfl ?_
        refine V_iload (q := 8) dX12_findRide_92 rfl ?_
        refine V_aload_n (q := 0) dX12_findRide_94 rfl rfl ?_
        refine V_getr f_X12_92 dX12_findRide_95 rfl rfl ?_
        refine V_iload (q := 7) dX12_findRide_98 rfl ?_
        obtain ⟨n4, t⟩ := t
        refine V_iald dX12_findRide_100 rfl n4 ?_
        refine V_iload (q := 9) dX12_findRide_101 rfl ?_
        refine V_iload (q := 10) dX12_findRide_103 rfl ?_
        refine V_callV [.int x8, .int (h 95 (tn x7)), .int x9, .int x10] [] g_X12_findRide_X12_hasPlace wi_X12_hasPlace ws_X12_hasPlace dX12_findRide_105 rfl rfl rfl rfl rfl (Nat.le_of_ble_eq_true rfl) t (fun _ h5 t => ?_)
        obtain ⟨b6, rfl, t⟩ := t
        refine V_ifb_ne (tgt := 114) dX12_findRide_108 (by decide) (fun q => ?_) (fun q => ?_)
        · have t := it_t q t
          refine V_iload_n (q := 2) dX12_findRide_114 rfl rfl ?_
          refine V_aload_n (q := 0) dX12_findRide_115 rfl rfl ?_
          refine V_iload (q := 8) dX12_findRide_116 rfl ?_
          refine V_iload (q := 9) dX12_findRide_118 rfl ?_
          refine V_iload (q := 10) dX12_findRide_120 rfl ?_
          refine V_callV [.int x8, .int x9, .int x10] [.int x2] g_X12_findRide_X12_fareOf wi_X12_fareOf ws_X12_fareOf dX12_findRide_122 rfl rfl rfl rfl rfl (Nat.le_of_ble_eq_true rfl) t (fun _ h7 t => ?_)
          obtain ⟨r8, rfl, t⟩ := t
          refine V_isub dX12_findRide_125 ?_
          refine V_istore (L' := [(0, .ref (G.1 67)), (1, .int x1), (2, .int x2), (3, .int x3), (4, .int x4), (5, .int (b2i x5)), (6, .int x6), (7, .int x7), (8, .int x8), (9, .int x9), (10, .int x10), (11, .int (x2 - r8))]) dX12_findRide_126 (by decide) rfl rfl ?_
          refine V_iload (q := 11) dX12_findRide_128 rfl ?_
          refine V_if_lt (tgt := 279) dX12_findRide_130 (by decide) (fun q => ?_) (fun q => ?_)
          · have t := it_t q t
            refine V_iinc (L' := [(0, .ref (G.1 67)), (1, .int x1), (2, .int x2), (3, .int x3), (4, .int x4), (5, .int (b2i x5)), (6, .int x6), (7, .int x7), (8, .int x8), (9, .int x9), (10, .int (x10 + 1)), (11, .int (x2 - r8))]) (q := 10) (a := 1) dX12_findRide_279 rfl rfl (by decide) rfl rfl ?_
            refine V_goto (tgt := 42) dX12_findRide_282 (by decide) ?_
            refine V_pick (L' := [(0, .ref (G.1 67)), (1, .int x1), (2, .int x2), (3, .int x3), (4, .int x4), (5, .int (b2i x5)), (6, .int x6), (7, .int x7), (8, .int x8), (9, .int x9), (10, .int (x10 + 1))]) [0, 1, 2, 3, 4, 5, 6, 7, 8, 9, 10] rfl ?_
            exact t
          · have t := it_f q t
            refine V_aload_n (q := 0) dX12_findRide_133 rfl rfl ?_
            refine V_getr f_X12_104 dX12_findRide_134 rfl rfl ?_
            refine V_iload_n (q := 1) dX12_findRide_137 rfl rfl ?_
            refine V_iconst (v := 1) dX12_findRide_138 rfl ?_
            refine V_isub dX12_findRide_139 ?_
            refine V_iload (q := 11) dX12_findRide_140 rfl ?_
            refine V_aload_n (q := 0) dX12_findRide_142 rfl rfl ?_
            refine V_getr f_X12_34 dX12_findRide_143 rfl rfl ?_
            refine V_bipush (v := 8) dX12_findRide_146 rfl ?_
            refine V_iload (q := 8) dX12_findRide_148 rfl ?_
            refine V_imul dX12_findRide_150 ?_
            refine V_iload (q := 9) dX12_findRide_151 rfl ?_
            refine V_iadd dX12_findRide_153 ?_
            obtain ⟨n9, t⟩ := t
            refine V_iald dX12_findRide_154 rfl n9 ?_
            refine V_callS [.int (x1 - 1), .int (x2 - r8), .int (h7 76 (tn ((8 * x8) + x9)))] [.ref (G.1 99)] g_X12_findRide_X12_at wt_X12_at dX12_findRide_155 rfl rfl (Nat.le_of_ble_eq_true rfl) t (fun _ h10 t => ?_)
            obtain ⟨r11, rfl, t⟩ := t
            obtain ⟨n12, t⟩ := t
            refine V_iald dX12_findRide_158 rfl n12 ?_
            refine V_aload_n (q := 0) dX12_findRide_159 rfl rfl ?_
            refine V_getr f_X12_98 dX12_findRide_160 rfl rfl ?_
            refine V_bipush (v := 8) dX12_findRide_163 rfl ?_
            refine V_iload (q := 7) dX12_findRide_165 rfl ?_
            refine V_imul dX12_findRide_167 ?_
            refine V_iload (q := 9) dX12_findRide_168 rfl ?_
            refine V_iadd dX12_findRide_170 ?_
            obtain ⟨n13, t⟩ := t
            refine V_iald dX12_findRide_171 rfl n13 ?_
            refine V_icmp_le (tgt := 178) dX12_findRide_172 (by decide) (fun q => ?_) (fun q => ?_)
            · have t := it_t q t
              refine V_aload_n (q := 0) dX12_findRide_178 rfl rfl ?_
              refine V_getr f_X12_95 dX12_findRide_179 rfl rfl ?_
              refine V_bipush (v := 8) dX12_findRide_182 rfl ?_
              refine V_iload (q := 7) dX12_findRide_184 rfl ?_
              refine V_imul dX12_findRide_186 ?_
              refine V_iload (q := 10) dX12_findRide_187 rfl ?_
              refine V_iadd dX12_findRide_189 ?_
              refine V_iald dX12_findRide_190 rfl n3 ?_
              refine V_istore (L' := [(0, .ref (G.1 67)), (1, .int x1), (2, .int x2), (3, .int x3), (4, .int x4), (5, .int (b2i x5)), (6, .int x6), (7, .int x7), (8, .int x8), (9, .int x9), (10, .int x10), (11, .int (x2 - r8)), (12, .int (h10 96 (tn ((8 * x7) + x10))))]) dX12_findRide_191 (by decide) rfl rfl ?_
              refine V_iload (q := 4) dX12_findRide_193 rfl ?_
              refine V_if_lt (tgt := 213) dX12_findRide_195 (by decide) (fun q => ?_) (fun q => ?_)
              · have t := it_t q t
                refine V_iload (q := 5) dX12_findRide_213 rfl ?_
                refine V_ifb_eq (tgt := 223) dX12_findRide_215 (by decide) (fun q => ?_) (fun q => ?_)
                · have t := it_f q t
                  refine V_iload (q := 12) dX12_findRide_223 rfl ?_
                  refine V_aload_n (q := 0) dX12_findRide_225 rfl rfl ?_
                  refine V_getr f_X12_7 dX12_findRide_226 rfl rfl ?_
                  refine V_iload_n (q := 3) dX12_findRide_229 rfl rfl ?_
                  obtain ⟨n14, t⟩ := t
                  refine V_iald dX12_findRide_230 rfl n14 ?_
                  refine V_iadd dX12_findRide_231 ?_
                  refine V_pick (L' := [(0, .ref (G.1 67)), (1, .int x1), (2, .int x2), (3, .int x3), (4, .int x4), (5, .int (b2i x5)), (6, .int x6), (7, .int x7), (8, .int x8), (9, .int x9), (10, .int x10)]) [0, 1, 2, 3, 4, 5, 6, 7, 8, 9, 10] rfl ?_
                  exact t
                · have t := it_t q t
                  refine V_iload (q := 12) dX12_findRide_218 rfl ?_
                  refine V_goto (tgt := 232) dX12_findRide_220 (by decide) ?_
                  refine V_pick (L' := [(0, .ref (G.1 67)), (1, .int x1), (2, .int x2), (3, .int x3), (4, .int x4), (5, .int (b2i x5)), (6, .int x6), (7, .int x7), (8, .int x8), (9, .int x9), (10, .int x10)]) [0, 1, 2, 3, 4, 5, 6, 7, 8, 9, 10] rfl ?_
                  exact t
              · have t := it_f q t
                refine V_aload_n (q := 0) dX12_findRide_198 rfl rfl ?_
                refine V_iload (q := 4) dX12_findRide_199 rfl ?_
                refine V_iload (q := 12) dX12_findRide_201 rfl ?_
                refine V_aload_n (q := 0) dX12_findRide_203 rfl rfl ?_
                refine V_geti f_X12_187 dX12_findRide_204 rfl rfl ?_
                refine V_callV [.int x4, .int (h10 96 (tn ((8 * x7) + x10))), .int (h10 67 31)] [] g_X12_findRide_X12_behind wi_X12_behind ws_X12_behind dX12_findRide_207 rfl rfl rfl rfl rfl (Nat.le_of_ble_eq_true rfl) t (fun _ h15 t => ?_)
                obtain ⟨r16, rfl, t⟩ := t
                refine V_goto (tgt := 232) dX12_findRide_210 (by decide) ?_
                refine V_pick (L' := [(0, .ref (G.1 67)), (1, .int x1), (2, .int x2), (3, .int x3), (4, .int x4), (5, .int (b2i x5)), (6, .int x6), (7, .int x7), (8, .int x8), (9, .int x9), (10, .int x10)]) [0, 1, 2, 3, 4, 5, 6, 7, 8, 9, 10] rfl ?_
                exact t
            · have t := it_f q t
              refine V_goto (tgt := 279) dX12_findRide_175 (by decide) ?_
              refine V_iinc (L' := [(0, .ref (G.1 67)), (1, .int x1), (2, .int x2), (3, .int x3), (4, .int x4), (5, .int (b2i x5)), (6, .int x6), (7, .int x7), (8, .int x8), (9, .int x9), (10, .int (x10 + 1)), (11, .int (x2 - r8))]) (q := 10) (a := 1) dX12_findRide_279 rfl rfl (by decide) rfl rfl ?_
              refine V_goto (tgt := 42) dX12_findRide_282 (by decide) ?_
              refine V_pick (L' := [(0, .ref (G.1 67)), (1, .int x1), (2, .int x2), (3, .int x3), (4, .int x4), (5, .int (b2i x5)), (6, .int x6), (7, .int x7), (8, .int x8), (9, .int x9), (10, .int (x10 + 1))]) [0, 1, 2, 3, 4, 5, 6, 7, 8, 9, 10] rfl ?_
              exact t
        · have t := it_f q t
          refine V_goto (tgt := 279) dX12_findRide_111 (by decide) ?_
          refine V_iinc (L' := [(0, .ref (G.1 67)), (1, .int x1), (2, .int x2), (3, .int x3), (4, .int x4), (5, .int (b2i x5)), (6, .int x6), (7, .int x7), (8, .int x8), (9, .int x9), (10, .int (x10 + 1))]) (q := 10) (a := 1) dX12_findRide_279 rfl rfl (by decide) rfl rfl ?_
          refine V_goto (tgt := 42) dX12_findRide_282 (by decide) ?_
          exact t
set_option maxRecDepth 20000 in
set_option maxHeartbeats 4000000 in
theorem s_Model_findRide_232 (G : GA) (h : HP) (x1 : Int32) (x2 : Int32) (x3 : Int32) (x4 : Int32) (x5 : Bool) (x6 : Int32) (x7 : Int32) (x8 : Int32) (x9 : Int32) (x10 : Int32) (y0 : Int32) (K : Bool → HP → Prop) (t :
  if x5 = true then (
    if y0 = x6 then (
      ∀ h1 : HP, h1 = up h 67 50 x7 →
      ∀ h2 : HP, h2 = up h1 67 51 x9 →
      ∀ h3 : HP, h3 = up h2 67 52 x10 →
      K true h3
    ) else (
      H_Model_findRide_42 G h x1 x2 x3 x4 x5 x6 x7 x8 x9 (x10 + 1) K
    )
  ) else (
    if y0 ≤ x6 then (
      ∀ h4 : HP, h4 = up h 67 50 x7 →
      ∀ h5 : HP, h5 = up h4 67 51 x9 →
      ∀ h6 : HP, h6 = up h5 67 52 x10 →
      K true h6
    ) else (
      H_Model_findRide_42 G h x1 x2 x3 x4 x5 x6 x7 x8 x9 (x10 + 1) K
    )
  )) : H_Model_findRide_232 G h x1 x2 x3 x4 x5 x6 x7 x8 x9 x10 y0 K := by
  unfold H_Model_findRide_232
  refine V_istore (L' := [(0, .ref (G.1 67)), (1, .int x1), (2, .int x2), (3, .int x3), (4, .int x4), (5, .int (b2i x5)), (6, .int x6), (7, .int x7), (8, .int x8), (9, .int x9), (10, .int x10), (13, .int y0)]) dX12_findRide_232 (by decide) rfl rfl ?_
  refine V_iload (q := 5) dX12_findRide_234 rfl ?_
  refine V_ifb_eq (tgt := 249) dX12_findRide_236 (by decide) (fun q => ?_) (fun q => ?_)
  · have t := it_f q t
    refine V_iload (q := 11) dX12_findRide_249 rfl ?_
    refine V_iload (q := 6) dX12_findRide_251 rfl ?_
    refine V_icmp_le (tgt := 259) dX12_findRide_253 (by decide) (fun q => ?_) (fun q => ?_)
    · have t := it_t q t
      refine V_aload_n (q := 0) dX12_findRide_259 rfl rfl ?_
      refine V_iload (q := 7) dX12_findRide_260 rfl ?_
      have t := t _ rfl
      refine V_put f_X12_236 p_X12_50 dX12_findRide_262 rfl rfl ?_
      refine V_aload_n (q := 0) dX12_findRide_265 rfl rfl ?_
      refine V_iload (q := 9) dX12_findRide_266 rfl ?_
      have t := t _ rfl
      refine V_put f_X12_239 p_X12_51 dX12_findRide_268 rfl rfl ?_
      refine V_aload_n (q := 0) dX12_findRide_271 rfl rfl ?_
      refine V_iload (q := 10) dX12_findRide_272 rfl ?_
      have t := t _ rfl
      refine V_put f_X12_242 p_X12_52 dX12_findRide_274 rfl rfl ?_
      refine V_iconst (v := 1) dX12_findRide_277 rfl ?_
      exact V_zret (b := true) rfl dX12_findRide_278 t
    · have t := it_f q t
      refine V_goto (tgt := 279) dX12_findRide_256 (by decide) ?_
      refine V_iinc (L' := [(0, .ref (G.1 67)), (1, .int x1), (2, .int x2), (3, .int x3), (4, .int x4), (5, .int (b2i x5)), (6, .int x6), (7, .int x7), (8, .int x8), (9, .int x9), (10, .int (x10 + 1)), (13, .int y0)]) (q := 10) (a := 1) dX12_findRide_279 rfl rfl (by decide) rfl rfl ?_
      refine V_goto (tgt := 42) dX12_findRide_282 (by decide) ?_
      refine V_pick (L' := [(0, .ref (G.1 67)), (1, .int x1), (2, .int x2), (3, .int x3), (4, .int x4), (5, .int (b2i x5)), (6, .int x6), (7, .int x7), (8, .int x8), (9, .int x9), (10, .int (x10 + 1))]) [0, 1, 2, 3, 4, 5, 6, 7, 8, 9, 10] rfl ?_
      exact t
  · have t := it_t q t
    refine V_iload (q := 11) dX12_findRide_239 rfl ?_
    refine V_iload (q := 6) dX12_findRide_241 rfl ?_
    refine V_icmp_eq (tgt := 259) dX12_findRide_243 (by decide) (fun q => ?_) (fun q => ?_)
    · have t := it_t q t
      refine V_aload_n (q := 0) dX12_findRide_259 rfl rfl ?_
      refine V_iload (q := 7) dX12_findRide_260 rfl ?_
      have t := t _ rfl
      refine V_put f_X12_236 p_X12_50 dX12_findRide_262 rfl rfl ?_
      refine V_aload_n (q := 0) dX12_findRide_265 rfl rfl ?_
      refine V_iload (q := 9) dX12_findRide_266 rfl ?_
      have t := t _ rfl
      refine V_put f_X12_239 p_X12_51 dX12_findRide_268 rfl rfl ?_
      refine V_aload_n (q := 0) dX12_findRide_271 rfl rfl ?_
      refine V_iload (q := 10) dX12_findRide_272 rfl ?_
      have t := t _ rfl
      refine V_put f_X12_242 p_X12_52 dX12_findRide_274 rfl rfl ?_
      refine V_iconst (v := 1) dX12_findRide_277 rfl ?_
      exact V_zret (b := true) rfl dX12_findRide_278 t
    · have t := it_f q t
      refine V_goto (tgt := 279) dX12_findRide_246 (by decide) ?_
      refine V_iinc (L' := [(0, .ref (G.1 67)), (1, .int x1), (2, .int x2), (3, .int x3), (4, .int x4), (5, .int (b2i x5)), (6, .int x6), (7, .int x7), (8, .int x8), (9, .int x9), (10, .int (x10 + 1)), (13, .int y0)]) (q := 10) (a := 1) dX12_findRide_279 rfl rfl (by decide) rfl rfl ?_
      refine V_goto (tgt := 42) dX12_findRide_282 (by decide) ?_
      refine V_pick (L' := [(0, .ref (G.1 67)), (1, .int x1), (2, .int x2), (3, .int x3), (4, .int x4), (5, .int (b2i x5)), (6, .int x6), (7, .int x7), (8, .int x8), (9, .int x9), (10, .int (x10 + 1))]) [0, 1, 2, 3, 4, 5, 6, 7, 8, 9, 10] rfl ?_
      exact t
set_option maxRecDepth 20000 in
set_option maxHeartbeats 4000000 in
theorem s_Model_putRide_0 (G : GA) (h : HP) (x1 : Int32) (x2 : Int32) (x3 : Int32) (K : HP → Prop) (t :
  vp_in x1 2400 ∧
  vp_in (h 94 (tn x1)) 24 ∧
  vp_in (9 * (h 67 49)) 63 ∧
  ∀ h3 : HP, h3 = up h 106 (tn (9 * (h 67 49))) (h 72 (tn (h 94 (tn x1)))) →
  vp_in ((9 * (h 67 49)) + 1) 63 ∧
  ∀ h5 : HP, h5 = up h3 106 (tn ((9 * (h 67 49)) + 1)) (h 94 (tn x1)) →
  vp_in ((8 * (h 94 (tn x1))) + x2) 192 ∧
  vp_in ((9 * (h 67 49)) + 2) 63 ∧
  ∀ h8 : HP, h8 = up h5 106 (tn ((9 * (h 67 49)) + 2)) (h 76 (tn ((8 * (h 94 (tn x1))) + x2))) →
  vp_in ((8 * (h 94 (tn x1))) + x3) 192 ∧
  vp_in ((9 * (h 67 49)) + 3) 63 ∧
  ∀ h11 : HP, h11 = up h8 106 (tn ((9 * (h 67 49)) + 3)) (h 76 (tn ((8 * (h 94 (tn x1))) + x3))) →
  vp_in ((8 * x1) + x2) 19200 ∧
  vp_in ((9 * (h 67 49)) + 4) 63 ∧
  ∀ h14 : HP, h14 = up h11 106 (tn ((9 * (h 67 49)) + 4)) (h 97 (tn ((8 * x1) + x2))) →
  vp_in ((8 * x1) + x3) 19200 ∧
  vp_in ((9 * (h 67 49)) + 5) 63 ∧
  ∀ h17 : HP, h17 = up h14 106 (tn ((9 * (h 67 49)) + 5)) (h 96 (tn ((8 * x1) + x3))) →
  vp_in ((9 * (h 67 49)) + 6) 63 ∧
  ∀ h19 : HP, h19 = up h17 106 (tn ((9 * (h 67 49)) + 6)) (h 95 (tn x1)) →
  vp_in ((9 * (h 67 49)) + 7) 63 ∧
  ∀ h21 : HP, h21 = up h19 106 (tn ((9 * (h 67 49)) + 7)) x2 →
  vp_in ((9 * (h 67 49)) + 8) 63 ∧
  ∀ h23 : HP, h23 = up h21 106 (tn ((9 * (h 67 49)) + 8)) x3 →
  ∀ h25 : HP, h25 = up h23 67 49 ((h 67 49) + 1) →
  K h25) : P_Model_putRide G h x1 x2 x3 K := by
  refine Sp_of_V pf_X12_putRide (Nat.le_of_ble_eq_true rfl) rfl ?_
  refine V_aload_n (q := 0) dX12_putRide_0 rfl rfl ?_
  refine V_getr f_X12_89 dX12_putRide_1 rfl rfl ?_
  refine V_iload_n (q := 1) dX12_putRide_4 rfl rfl ?_
  obtain ⟨n1, t⟩ := t
  refine V_iald dX12_putRide_5 rfl n1 ?_
  refine V_istore (L' := [(0, .ref (G.1 67)), (1, .int x1), (2, .int x2), (3, .int x3), (4, .int (h 94 (tn x1)))]) dX12_putRide_6 (by decide) rfl rfl ?_
  refine V_bipush (v := 9) dX12_putRide_8 rfl ?_
  refine V_aload_n (q := 0) dX12_putRide_10 rfl rfl ?_
  refine V_geti f_X12_233 dX12_putRide_11 rfl rfl ?_
  refine V_imul dX12_putRide_14 ?_
  refine V_istore (L' := [(0, .ref (G.1 67)), (1, .int x1), (2, .int x2), (3, .int x3), (4, .int (h 94 (tn x1))), (5, .int (9 * (h 67 49)))]) dX12_putRide_15 (by decide) rfl rfl ?_
  refine V_aload_n (q := 0) dX12_putRide_17 rfl rfl ?_
  refine V_getr f_X12_125 dX12_putRide_18 rfl rfl ?_
  refine V_iload (q := 5) dX12_putRide_21 rfl ?_
  refine V_aload_n (q := 0) dX12_putRide_23 rfl rfl ?_
  refine V_getr f_X12_22 dX12_putRide_24 rfl rfl ?_
  refine V_iload (q := 4) dX12_putRide_27 rfl ?_
  obtain ⟨n2, t⟩ := t
  refine V_iald dX12_putRide_29 rfl n2 ?_
  obtain ⟨n4, t⟩ := t
  have t := t _ rfl
  refine V_iast dX12_putRide_30 rfl n4 ?_
  refine V_aload_n (q := 0) dX12_putRide_31 rfl rfl ?_
  refine V_getr f_X12_125 dX12_putRide_32 rfl rfl ?_
  refine V_iload (q := 5) dX12_putRide_35 rfl ?_
  refine V_iconst (v := 1) dX12_putRide_37 rfl ?_
  refine V_iadd dX12_putRide_38 ?_
  refine V_iload (q := 4) dX12_putRide_39 rfl ?_
  obtain ⟨n6, t⟩ := t
  have t := t _ rfl
  refine V_iast dX12_putRide_41 rfl n6 ?_
  refine V_aload_n (q := 0) dX12_putRide_42 rfl rfl ?_
  refine V_getr f_X12_125 dX12_putRide_43 rfl rfl ?_
  refine V_iload (q := 5) dX12_putRide_46 rfl ?_
  refine V_iconst (v := 2) dX12_putRide_48 rfl ?_
  refine V_iadd dX12_putRide_49 ?_
  refine V_aload_n (q := 0) dX12_putRide_50 rfl rfl ?_
  refine V_getr f_X12_34 dX12_putRide_51 rfl rfl ?_
  refine V_bipush (v := 8) dX12_putRide_54 rfl ?_
  refine V_iload (q := 4) dX12_putRide_56 rfl ?_
  refine V_imul dX12_putRide_58 ?_
  refine V_iload_n (q := 2) dX12_putRide_59 rfl rfl ?_
  refine V_iadd dX12_putRide_60 ?_
  obtain ⟨n7, t⟩ := t
  refine V_iald dX12_putRide_61 rfl n7 ?_
  obtain ⟨n9, t⟩ := t
  have t := t _ rfl
  refine V_iast dX12_putRide_62 rfl n9 ?_
  refine V_aload_n (q := 0) dX12_putRide_63 rfl rfl ?_
  refine V_getr f_X12_125 dX12_putRide_64 rfl rfl ?_
  refine V_iload (q := 5) dX12_putRide_67 rfl ?_
  refine V_iconst (v := 3) dX12_putRide_69 rfl ?_
  refine V_iadd dX12_putRide_70 ?_
  refine V_aload_n (q := 0) dX12_putRide_71 rfl rfl ?_
  refine V_getr f_X12_34 dX12_putRide_72 rfl rfl ?_
  refine V_bipush (v := 8) dX12_putRide_75 rfl ?_
  refine V_iload (q := 4) dX12_putRide_77 rfl ?_
  refine V_imul dX12_putRide_79 ?_
  refine V_iload_n (q := 3) dX12_putRide_80 rfl rfl ?_
  refine V_iadd dX12_putRide_81 ?_
  obtain ⟨n10, t⟩ := t
  refine V_iald dX12_putRide_82 rfl n10 ?_
  obtain ⟨n12, t⟩ := t
  have t := t _ rfl
  refine V_iast dX12_putRide_83 rfl n12 ?_
  refine V_aload_n (q := 0) dX12_putRide_84 rfl rfl ?_
  refine V_getr f_X12_125 dX12_putRide_85 rfl rfl ?_
  refine V_iload (q := 5) dX12_putRide_88 rfl ?_
  refine V_iconst (v := 4) dX12_putRide_90 rfl ?_
  refine V_iadd dX12_putRide_91 ?_
  refine V_aload_n (q := 0) dX12_putRide_92 rfl rfl ?_
  refine V_getr f_X12_98 dX12_putRide_93 rfl rfl ?_
  refine V_bipush (v := 8) dX12_putRide_96 rfl ?_
  refine V_iload_n (q := 1) dX12_putRide_98 rfl rfl ?_
  refine V_imul dX12_putRide_99 ?_
  refine V_iload_n (q := 2) dX12_putRide_100 rfl rfl ?_
  refine V_iadd dX12_putRide_101 ?_
  obtain ⟨n13, t⟩ := t
  refine V_iald dX12_putRide_102 rfl n13 ?_
  obtain ⟨n15, t⟩ := t
  have t := t _ rfl
  refine V_iast dX12_putRide_103 rfl n15 ?_
  refine V_aload_n (q := 0) dX12_putRide_104 rfl rfl ?_
  refine V_getr f_X12_125 dX12_putRide_105 rfl rfl ?_
  refine V_iload (q := 5) dX12_putRide_108 rfl ?_
  refine V_iconst (v := 5) dX12_putRide_110 rfl ?_
  refine V_iadd dX12_putRide_111 ?_
  refine V_aload_n (q := 0) dX12_putRide_112 rfl rfl ?_
  refine V_getr f_X12_95 dX12_putRide_113 rfl rfl ?_
  refine V_bipush (v := 8) dX12_putRide_116 rfl ?_
  refine V_iload_n (q := 1) dX12_putRide_118 rfl rfl ?_
  refine V_imul dX12_putRide_119 ?_
  refine V_iload_n (q := 3) dX12_putRide_120 rfl rfl ?_
  refine V_iadd dX12_putRide_121 ?_
  obtain ⟨n16, t⟩ := t
  refine V_iald dX12_putRide_122 rfl n16 ?_
  obtain ⟨n18, t⟩ := t
  have t := t _ rfl
  refine V_iast dX12_putRide_123 rfl n18 ?_
  refine V_aload_n (q := 0) dX12_putRide_124 rfl rfl ?_
  refine V_getr f_X12_125 dX12_putRide_125 rfl rfl ?_
  refine V_iload (q := 5) dX12_putRide_128 rfl ?_
  refine V_bipush (v := 6) dX12_putRide_130 rfl ?_
  refine V_iadd dX12_putRide_132 ?_
  refine V_aload_n (q := 0) dX12_putRide_133 rfl rfl ?_
  refine V_getr f_X12_92 dX12_putRide_134 rfl rfl ?_
  refine V_iload_n (q := 1) dX12_putRide_137 rfl rfl ?_
  refine V_iald dX12_putRide_138 rfl n1 ?_
  obtain ⟨n20, t⟩ := t
  have t := t _ rfl
  refine V_iast dX12_putRide_139 rfl n20 ?_
  refine V_aload_n (q := 0) dX12_putRide_140 rfl rfl ?_
  refine V_getr f_X12_125 dX12_putRide_141 rfl rfl ?_
  refine V_iload (q := 5) dX12_putRide_144 rfl ?_
  refine V_bipush (v := 7) dX12_putRide_146 rfl ?_
  refine V_iadd dX12_putRide_148 ?_
  refine V_iload_n (q := 2) dX12_putRide_149 rfl rfl ?_
  obtain ⟨n22, t⟩ := t
  have t := t _ rfl
  refine V_iast dX12_putRide_150 rfl n22 ?_
  refine V_aload_n (q := 0) dX12_putRide_151 rfl rfl ?_
  refine V_getr f_X12_125 dX12_putRide_152 rfl rfl ?_
  refine V_iload (q := 5) dX12_putRide_155 rfl ?_
  refine V_bipush (v := 8) dX12_putRide_157 rfl ?_
  refine V_iadd dX12_putRide_159 ?_
  refine V_iload_n (q := 3) dX12_putRide_160 rfl rfl ?_
  obtain ⟨n24, t⟩ := t
  have t := t _ rfl
  refine V_iast dX12_putRide_161 rfl n24 ?_
  refine V_aload_n (q := 0) dX12_putRide_162 rfl rfl ?_
  refine V_dup dX12_putRide_163 rfl ?_
  refine V_geti f_X12_233 dX12_putRide_164 rfl rfl ?_
  refine V_iconst (v := 1) dX12_putRide_167 rfl ?_
  refine V_iadd dX12_putRide_168 ?_
  have t := t _ rfl
  refine V_put f_X12_233 p_X12_49 dX12_putRide_169 rfl rfl ?_
  exact V_vret rfl dX12_putRide_172 t
set_option maxRecDepth 20000 in
set_option maxHeartbeats 4000000 in
theorem s_Model_putWalk_0 (G : GA) (h : HP) (x1 : Int32) (K : HP → Prop) (t :
  vp_in x1 20 ∧
  vp_in (9 * (h 67 49)) 63 ∧
  ∀ h2 : HP, h2 = up h 106 (tn (9 * (h 67 49))) (h 84 (tn x1)) →
  vp_in ((9 * (h 67 49)) + 1) 63 ∧
  ∀ h4 : HP, h4 = up h2 106 (tn ((9 * (h 67 49)) + 1)) x1 →
  vp_in ((9 * (h 67 49)) + 2) 63 ∧
  ∀ h6 : HP, h6 = up h4 106 (tn ((9 * (h 67 49)) + 2)) (h 81 (tn x1)) →
  vp_in ((9 * (h 67 49)) + 3) 63 ∧
  ∀ h8 : HP, h8 = up h6 106 (tn ((9 * (h 67 49)) + 3)) (h 82 (tn x1)) →
  vp_in ((9 * (h 67 49)) + 6) 63 ∧
  ∀ h10 : HP, h10 = up h8 106 (tn ((9 * (h 67 49)) + 6)) (-1) →
  vp_in ((9 * (h 67 49)) + 7) 63 ∧
  ∀ h12 : HP, h12 = up h10 106 (tn ((9 * (h 67 49)) + 7)) (-1) →
  vp_in ((9 * (h 67 49)) + 8) 63 ∧
  ∀ h14 : HP, h14 = up h12 106 (tn ((9 * (h 67 49)) + 8)) (-1) →
  ∀ h16 : HP, h16 = up h14 67 49 ((h 67 49) + 1) →
  K h16) : P_Model_putWalk G h x1 K := by
  refine Sp_of_V pf_X12_putWalk (Nat.le_of_ble_eq_true rfl) rfl ?_
  refine V_bipush (v := 9) dX12_putWalk_0 rfl ?_
  refine V_aload_n (q := 0) dX12_putWalk_2 rfl rfl ?_
  refine V_geti f_X12_233 dX12_putWalk_3 rfl rfl ?_
  refine V_imul dX12_putWalk_6 ?_
  refine V_istore_n (L' := [(0, .ref (G.1 67)), (1, .int x1), (2, .int (9 * (h 67 49)))]) dX12_putWalk_7 rfl (by decide) rfl rfl ?_
  refine V_aload_n (q := 0) dX12_putWalk_8 rfl rfl ?_
  refine V_getr f_X12_125 dX12_putWalk_9 rfl rfl ?_
  refine V_iload_n (q := 2) dX12_putWalk_12 rfl rfl ?_
  refine V_aload_n (q := 0) dX12_putWalk_13 rfl rfl ?_
  refine V_getr f_X12_59 dX12_putWalk_14 rfl rfl ?_
  refine V_iload_n (q := 1) dX12_putWalk_17 rfl rfl ?_
  obtain ⟨n1, t⟩ := t
  refine V_iald dX12_putWalk_18 rfl n1 ?_
  obtain ⟨n3, t⟩ := t
  have t := t _ rfl
  refine V_iast dX12_putWalk_19 rfl n3 ?_
  refine V_aload_n (q := 0) dX12_putWalk_20 rfl rfl ?_
  refine V_getr f_X12_125 dX12_putWalk_21 rfl rfl ?_
  refine V_iload_n (q := 2) dX12_putWalk_24 rfl rfl ?_
  refine V_iconst (v := 1) dX12_putWalk_25 rfl ?_
  refine V_iadd dX12_putWalk_26 ?_
  refine V_iload_n (q := 1) dX12_putWalk_27 rfl rfl ?_
  obtain ⟨n5, t⟩ := t
  have t := t _ rfl
  refine V_iast dX12_putWalk_28 rfl n5 ?_
  refine V_aload_n (q := 0) dX12_putWalk_29 rfl rfl ?_
  refine V_getr f_X12_125 dX12_putWalk_30 rfl rfl ?_
  refine V_iload_n (q := 2) dX12_putWalk_33 rfl rfl ?_
  refine V_iconst (v := 2) dX12_putWalk_34 rfl ?_
  refine V_iadd dX12_putWalk_35 ?_
  refine V_aload_n (q := 0) dX12_putWalk_36 rfl rfl ?_
  refine V_getr f_X12_50 dX12_putWalk_37 rfl rfl ?_
  refine V_iload_n (q := 1) dX12_putWalk_40 rfl rfl ?_
  refine V_iald dX12_putWalk_41 rfl n1 ?_
  obtain ⟨n7, t⟩ := t
  have t := t _ rfl
  refine V_iast dX12_putWalk_42 rfl n7 ?_
  refine V_aload_n (q := 0) dX12_putWalk_43 rfl rfl ?_
  refine V_getr f_X12_125 dX12_putWalk_44 rfl rfl ?_
  refine V_iload_n (q := 2) dX12_putWalk_47 rfl rfl ?_
  refine V_iconst (v := 3) dX12_putWalk_48 rfl ?_
  refine V_iadd dX12_putWalk_49 ?_
  refine V_aload_n (q := 0) dX12_putWalk_50 rfl rfl ?_
  refine V_getr f_X12_53 dX12_putWalk_51 rfl rfl ?_
  refine V_iload_n (q := 1) dX12_putWalk_54 rfl rfl ?_
  refine V_iald dX12_putWalk_55 rfl n1 ?_
  obtain ⟨n9, t⟩ := t
  have t := t _ rfl
  refine V_iast dX12_putWalk_56 rfl n9 ?_
  refine V_aload_n (q := 0) dX12_putWalk_57 rfl rfl ?_
  refine V_getr f_X12_125 dX12_putWalk_58 rfl rfl ?_
  refine V_iload_n (q := 2) dX12_putWalk_61 rfl rfl ?_
  refine V_bipush (v := 6) dX12_putWalk_62 rfl ?_
  refine V_iadd dX12_putWalk_64 ?_
  refine V_iconst (v := (-1)) dX12_putWalk_65 rfl ?_
  obtain ⟨n11, t⟩ := t
  have t := t _ rfl
  refine V_iast dX12_putWalk_66 rfl n11 ?_
  refine V_aload_n (q := 0) dX12_putWalk_67 rfl rfl ?_
  refine V_getr f_X12_125 dX12_putWalk_68 rfl rfl ?_
  refine V_iload_n (q := 2) dX12_putWalk_71 rfl rfl ?_
  refine V_bipush (v := 7) dX12_putWalk_72 rfl ?_
  refine V_iadd dX12_putWalk_74 ?_
  refine V_iconst (v := (-1)) dX12_putWalk_75 rfl ?_
  obtain ⟨n13, t⟩ := t
  have t := t _ rfl
  refine V_iast dX12_putWalk_76 rfl n13 ?_
  refine V_aload_n (q := 0) dX12_putWalk_77 rfl rfl ?_
  refine V_getr f_X12_125 dX12_putWalk_78 rfl rfl ?_
  refine V_iload_n (q := 2) dX12_putWalk_81 rfl rfl ?_
  refine V_bipush (v := 8) dX12_putWalk_82 rfl ?_
  refine V_iadd dX12_putWalk_84 ?_
  refine V_iconst (v := (-1)) dX12_putWalk_85 rfl ?_
  obtain ⟨n15, t⟩ := t
  have t := t _ rfl
  refine V_iast dX12_putWalk_86 rfl n15 ?_
  refine V_aload_n (q := 0) dX12_putWalk_87 rfl rfl ?_
  refine V_dup dX12_putWalk_88 rfl ?_
  refine V_geti f_X12_233 dX12_putWalk_89 rfl rfl ?_
  refine V_iconst (v := 1) dX12_putWalk_92 rfl ?_
  refine V_iadd dX12_putWalk_93 ?_
  have t := t _ rfl
  refine V_put f_X12_233 p_X12_49 dX12_putWalk_94 rfl rfl ?_
  exact V_vret rfl dX12_putWalk_97 t
set_option maxRecDepth 20000 in
set_option maxHeartbeats 4000000 in
theorem s_Model_walkAhead_0 (G : GA) (h : HP) (x1 : Int32) (x2 : Int32) (x3 : Int32) (x4 : Bool) (x5 : Int32) (K : Int32 → HP → Prop) (t :
  if x1 = 0 then (
    if x2 = 0 then (
      if x3 = (h 67 40) then (
        if x4 = true then (
          if (h 67 31) = x5 then (
            K (-1) h
          ) else (
            H_Model_walkAhead_44 G h x1 x2 x3 x4 x5 K
          )
        ) else (
          if x5 < (h 67 31) then (
            H_Model_walkAhead_44 G h x1 x2 x3 x4 x5 K
          ) else (
            K (-1) h
          )
        )
      ) else (
        H_Model_walkAhead_44 G h x1 x2 x3 x4 x5 K
      )
    ) else (
      H_Model_walkAhead_44 G h x1 x2 x3 x4 x5 K
    )
  ) else (
    H_Model_walkAhead_44 G h x1 x2 x3 x4 x5 K
  )) : P_Model_walkAhead G h x1 x2 x3 x4 x5 K := by
  refine Sp_of_V pf_X12_walkAhead (Nat.le_of_ble_eq_true rfl) rfl ?_
  refine V_iload_n (q := 1) dX12_walkAhead_0 rfl rfl ?_
  refine V_if_ne (tgt := 44) dX12_walkAhead_1 (by decide) (fun q => ?_) (fun q => ?_)
  · have t := it_f q t
    exact t
  · have t := it_t q t
    refine V_iload_n (q := 2) dX12_walkAhead_4 rfl rfl ?_
    refine V_if_ne (tgt := 44) dX12_walkAhead_5 (by decide) (fun q => ?_) (fun q => ?_)
    · have t := it_f q t
      exact t
    · have t := it_t q t
      refine V_iload_n (q := 3) dX12_walkAhead_8 rfl rfl ?_
      refine V_aload_n (q := 0) dX12_walkAhead_9 rfl rfl ?_
      refine V_geti f_X12_205 dX12_walkAhead_10 rfl rfl ?_
      refine V_icmp_ne (tgt := 44) dX12_walkAhead_13 (by decide) (fun q => ?_) (fun q => ?_)
      · have t := it_f q t
        exact t
      · have t := it_t q t
        refine V_iload (q := 4) dX12_walkAhead_16 rfl ?_
        refine V_ifb_eq (tgt := 33) dX12_walkAhead_18 (by decide) (fun q => ?_) (fun q => ?_)
        · have t := it_f q t
          refine V_aload_n (q := 0) dX12_walkAhead_33 rfl rfl ?_
          refine V_geti f_X12_187 dX12_walkAhead_34 rfl rfl ?_
          refine V_iload (q := 5) dX12_walkAhead_37 rfl ?_
          refine V_icmp_gt (tgt := 44) dX12_walkAhead_39 (by decide) (fun q => ?_) (fun q => ?_)
          · have t := it_t q t
            exact t
          · have t := it_f q t
            refine V_iconst (v := (-1)) dX12_walkAhead_42 rfl ?_
            exact V_iret rfl dX12_walkAhead_43 t
        · have t := it_t q t
          refine V_aload_n (q := 0) dX12_walkAhead_21 rfl rfl ?_
          refine V_geti f_X12_187 dX12_walkAhead_22 rfl rfl ?_
          refine V_iload (q := 5) dX12_walkAhead_25 rfl ?_
          refine V_icmp_ne (tgt := 44) dX12_walkAhead_27 (by decide) (fun q => ?_) (fun q => ?_)
          · have t := it_f q t
            exact t
          · have t := it_t q t
            refine V_goto (tgt := 42) dX12_walkAhead_30 (by decide) ?_
            refine V_iconst (v := (-1)) dX12_walkAhead_42 rfl ?_
            exact V_iret rfl dX12_walkAhead_43 t
set_option maxRecDepth 20000 in
set_option maxHeartbeats 4000000 in
theorem s_Model_walkAhead_44 (G : GA) (h : HP) (x1 : Int32) (x2 : Int32) (x3 : Int32) (x4 : Bool) (x5 : Int32) (K : Int32 → HP → Prop) (t :
  if x1 ≤ 0 then (
    H_Model_walkAhead_68 G h x1 x2 x3 x4 x5 0 K
  ) else (
    P_Model_findRide G h x1 x2 x3 (-1) x4 x5 (fun (b2 : Bool) (h1 : HP) =>
      if b2 = true then (
        K (-1) h1
      ) else (
        H_Model_walkAhead_68 G h1 x1 x2 x3 x4 x5 0 K
      )
    )
  )) : H_Model_walkAhead_44 G h x1 x2 x3 x4 x5 K := by
  unfold H_Model_walkAhead_44
  refine V_iload_n (q := 1) dX12_walkAhead_44 rfl rfl ?_
  refine V_if_le (tgt := 65) dX12_walkAhead_45 (by decide) (fun q => ?_) (fun q => ?_)
  · have t := it_t q t
    refine V_iconst (v := 0) dX12_walkAhead_65 rfl ?_
    refine V_istore (L' := [(0, .ref (G.1 67)), (1, .int x1), (2, .int x2), (3, .int x3), (4, .int (b2i x4)), (5, .int x5), (6, .int 0)]) dX12_walkAhead_66 (by decide) rfl rfl ?_
    exact t
  · have t := it_f q t
    refine V_aload_n (q := 0) dX12_walkAhead_48 rfl rfl ?_
    refine V_iload_n (q := 1) dX12_walkAhead_49 rfl rfl ?_
    refine V_iload_n (q := 2) dX12_walkAhead_50 rfl rfl ?_
    refine V_iload_n (q := 3) dX12_walkAhead_51 rfl rfl ?_
    refine V_iconst (v := (-1)) dX12_walkAhead_52 rfl ?_
    refine V_iload (q := 4) dX12_walkAhead_53 rfl ?_
    refine V_iload (q := 5) dX12_walkAhead_55 rfl ?_
    refine V_callV [.int x1, .int x2, .int x3, .int (-1), .int (b2i x4), .int x5] [] g_X12_walkAhead_X12_findRide wi_X12_findRide ws_X12_findRide dX12_walkAhead_57 rfl rfl rfl rfl rfl (Nat.le_of_ble_eq_true rfl) t (fun _ h1 t => ?_)
    obtain ⟨b2, rfl, t⟩ := t
    refine V_ifb_eq (tgt := 65) dX12_walkAhead_60 (by decide) (fun q => ?_) (fun q => ?_)
    · have t := it_f q t
      refine V_iconst (v := 0) dX12_walkAhead_65 rfl ?_
      refine V_istore (L' := [(0, .ref (G.1 67)), (1, .int x1), (2, .int x2), (3, .int x3), (4, .int (b2i x4)), (5, .int x5), (6, .int 0)]) dX12_walkAhead_66 (by decide) rfl rfl ?_
      exact t
    · have t := it_t q t
      refine V_iconst (v := (-1)) dX12_walkAhead_63 rfl ?_
      exact V_iret rfl dX12_walkAhead_64 t
set_option maxRecDepth 20000 in
set_option maxHeartbeats 4000000 in
theorem s_Model_walkAhead_68 (G : GA) (h : HP) (x1 : Int32) (x2 : Int32) (x3 : Int32) (x4 : Bool) (x5 : Int32) (x6 : Int32) (K : Int32 → HP → Prop) (t :
  if (h 67 2) ≤ x6 then (
    K (-1) h
  ) else (
    vp_in x6 20 ∧
    if (h 82 (tn x6)) = x3 then (
      if x1 ≤ 0 then (
        if (h 81 (tn x6)) = (h 67 40) then (
          P_Model_behind G h x6 (h 67 31) (h 67 31) (fun (r3 : Int32) (h2 : HP) =>
            if x4 = true then (
              if r3 = x5 then (
                K x6 h2
              ) else (
                H_Model_walkAhead_68 G h2 x1 x2 x3 x4 x5 (x6 + 1) K
              )
            ) else (
              if x5 < r3 then (
                H_Model_walkAhead_68 G h2 x1 x2 x3 x4 x5 (x6 + 1) K
              ) else (
                K x6 h2
              )
            )
          )
        ) else (
          H_Model_walkAhead_68 G h x1 x2 x3 x4 x5 (x6 + 1) K
        )
      ) else (
        P_Model_findRide G h x1 x2 (h 81 (tn x6)) x6 x4 x5 (fun (b5 : Bool) (h4 : HP) =>
          if b5 = true then (
            K x6 h4
          ) else (
            H_Model_walkAhead_68 G h4 x1 x2 x3 x4 x5 (x6 + 1) K
          )
        )
      )
    ) else (
      H_Model_walkAhead_68 G h x1 x2 x3 x4 x5 (x6 + 1) K
    )
  )) : H_Model_walkAhead_68 G h x1 x2 x3 x4 x5 x6 K := by
  unfold H_Model_walkAhead_68
  refine V_iload (q := 6) dX12_walkAhead_68 rfl ?_
  refine V_aload_n (q := 0) dX12_walkAhead_70 rfl rfl ?_
  refine V_geti f_X12_161 dX12_walkAhead_71 rfl rfl ?_
  refine V_icmp_ge (tgt := 181) dX12_walkAhead_74 (by decide) (fun q => ?_) (fun q => ?_)
  · have t := it_t q t
    refine V_iconst (v := (-1)) dX12_walkAhead_181 rfl ?_
    exact V_iret rfl dX12_walkAhead_182 t
  · have t := it_f q t
    refine V_aload_n (q := 0) dX12_walkAhead_77 rfl rfl ?_
    refine V_getr f_X12_53 dX12_walkAhead_78 rfl rfl ?_
    refine V_iload (q := 6) dX12_walkAhead_81 rfl ?_
    obtain ⟨n1, t⟩ := t
    refine V_iald dX12_walkAhead_83 rfl n1 ?_
    refine V_iload_n (q := 3) dX12_walkAhead_84 rfl rfl ?_
    refine V_icmp_eq (tgt := 91) dX12_walkAhead_85 (by decide) (fun q => ?_) (fun q => ?_)
    · have t := it_t q t
      refine V_iload_n (q := 1) dX12_walkAhead_91 rfl rfl ?_
      refine V_if_le (tgt := 120) dX12_walkAhead_92 (by decide) (fun q => ?_) (fun q => ?_)
      · have t := it_t q t
        refine V_aload_n (q := 0) dX12_walkAhead_120 rfl rfl ?_
        refine V_getr f_X12_50 dX12_walkAhead_121 rfl rfl ?_
        refine V_iload (q := 6) dX12_walkAhead_124 rfl ?_
        refine V_iald dX12_walkAhead_126 rfl n1 ?_
        refine V_aload_n (q := 0) dX12_walkAhead_127 rfl rfl ?_
        refine V_geti f_X12_205 dX12_walkAhead_128 rfl rfl ?_
        refine V_icmp_ne (tgt := 175) dX12_walkAhead_131 (by decide) (fun q => ?_) (fun q => ?_)
        · have t := it_f q t
          refine V_iinc (L' := [(0, .ref (G.1 67)), (1, .int x1), (2, .int x2), (3, .int x3), (4, .int (b2i x4)), (5, .int x5), (6, .int (x6 + 1))]) (q := 6) (a := 1) dX12_walkAhead_175 rfl rfl (by decide) rfl rfl ?_
          refine V_goto (tgt := 68) dX12_walkAhead_178 (by decide) ?_
          exact t
        · have t := it_t q t
          refine V_aload_n (q := 0) dX12_walkAhead_134 rfl rfl ?_
          refine V_iload (q := 6) dX12_walkAhead_135 rfl ?_
          refine V_aload_n (q := 0) dX12_walkAhead_137 rfl rfl ?_
          refine V_geti f_X12_187 dX12_walkAhead_138 rfl rfl ?_
          refine V_aload_n (q := 0) dX12_walkAhead_141 rfl rfl ?_
          refine V_geti f_X12_187 dX12_walkAhead_142 rfl rfl ?_
          refine V_callV [.int x6, .int (h 67 31), .int (h 67 31)] [] g_X12_walkAhead_X12_behind wi_X12_behind ws_X12_behind dX12_walkAhead_145 rfl rfl rfl rfl rfl (Nat.le_of_ble_eq_true rfl) t (fun _ h2 t => ?_)
          obtain ⟨r3, rfl, t⟩ := t
          refine V_istore (L' := [(0, .ref (G.1 67)), (1, .int x1), (2, .int x2), (3, .int x3), (4, .int (b2i x4)), (5, .int x5), (6, .int x6), (7, .int r3)]) dX12_walkAhead_148 (by decide) rfl rfl ?_
          refine V_iload (q := 4) dX12_walkAhead_150 rfl ?_
          refine V_ifb_eq (tgt := 165) dX12_walkAhead_152 (by decide) (fun q => ?_) (fun q => ?_)
          · have t := it_f q t
            refine V_iload (q := 7) dX12_walkAhead_165 rfl ?_
            refine V_iload (q := 5) dX12_walkAhead_167 rfl ?_
            refine V_icmp_gt (tgt := 175) dX12_walkAhead_169 (by decide) (fun q => ?_) (fun q => ?_)
            · have t := it_t q t
              refine V_iinc (L' := [(0, .ref (G.1 67)), (1, .int x1), (2, .int x2), (3, .int x3), (4, .int (b2i x4)), (5, .int x5), (6, .int (x6 + 1)), (7, .int r3)]) (q := 6) (a := 1) dX12_walkAhead_175 rfl rfl (by decide) rfl rfl ?_
              refine V_goto (tgt := 68) dX12_walkAhead_178 (by decide) ?_
              refine V_pick (L' := [(0, .ref (G.1 67)), (1, .int x1), (2, .int x2), (3, .int x3), (4, .int (b2i x4)), (5, .int x5), (6, .int (x6 + 1))]) [0, 1, 2, 3, 4, 5, 6] rfl ?_
              exact t
            · have t := it_f q t
              refine V_iload (q := 6) dX12_walkAhead_172 rfl ?_
              exact V_iret rfl dX12_walkAhead_174 t
          · have t := it_t q t
            refine V_iload (q := 7) dX12_walkAhead_155 rfl ?_
            refine V_iload (q := 5) dX12_walkAhead_157 rfl ?_
            refine V_icmp_ne (tgt := 175) dX12_walkAhead_159 (by decide) (fun q => ?_) (fun q => ?_)
            · have t := it_f q t
              refine V_iinc (L' := [(0, .ref (G.1 67)), (1, .int x1), (2, .int x2), (3, .int x3), (4, .int (b2i x4)), (5, .int x5), (6, .int (x6 + 1)), (7, .int r3)]) (q := 6) (a := 1) dX12_walkAhead_175 rfl rfl (by decide) rfl rfl ?_
              refine V_goto (tgt := 68) dX12_walkAhead_178 (by decide) ?_
              refine V_pick (L' := [(0, .ref (G.1 67)), (1, .int x1), (2, .int x2), (3, .int x3), (4, .int (b2i x4)), (5, .int x5), (6, .int (x6 + 1))]) [0, 1, 2, 3, 4, 5, 6] rfl ?_
              exact t
            · have t := it_t q t
              refine V_goto (tgt := 172) dX12_walkAhead_162 (by decide) ?_
              refine V_iload (q := 6) dX12_walkAhead_172 rfl ?_
              exact V_iret rfl dX12_walkAhead_174 t
      · have t := it_f q t
        refine V_aload_n (q := 0) dX12_walkAhead_95 rfl rfl ?_
        refine V_iload_n (q := 1) dX12_walkAhead_96 rfl rfl ?_
        refine V_iload_n (q := 2) dX12_walkAhead_97 rfl rfl ?_
        refine V_aload_n (q := 0) dX12_walkAhead_98 rfl rfl ?_
        refine V_getr f_X12_50 dX12_walkAhead_99 rfl rfl ?_
        refine V_iload (q := 6) dX12_walkAhead_102 rfl ?_
        refine V_iald dX12_walkAhead_104 rfl n1 ?_
        refine V_iload (q := 6) dX12_walkAhead_105 rfl ?_
        refine V_iload (q := 4) dX12_walkAhead_107 rfl ?_
        refine V_iload (q := 5) dX12_walkAhead_109 rfl ?_
        refine V_callV [.int x1, .int x2, .int (h 81 (tn x6)), .int x6, .int (b2i x4), .int x5] [] g_X12_walkAhead_X12_findRide wi_X12_findRide ws_X12_findRide dX12_walkAhead_111 rfl rfl rfl rfl rfl (Nat.le_of_ble_eq_true rfl) t (fun _ h4 t => ?_)
        obtain ⟨b5, rfl, t⟩ := t
        refine V_ifb_eq (tgt := 175) dX12_walkAhead_114 (by decide) (fun q => ?_) (fun q => ?_)
        · have t := it_f q t
          refine V_iinc (L' := [(0, .ref (G.1 67)), (1, .int x1), (2, .int x2), (3, .int x3), (4, .int (b2i x4)), (5, .int x5), (6, .int (x6 + 1))]) (q := 6) (a := 1) dX12_walkAhead_175 rfl rfl (by decide) rfl rfl ?_
          refine V_goto (tgt := 68) dX12_walkAhead_178 (by decide) ?_
          exact t
        · have t := it_t q t
          refine V_iload (q := 6) dX12_walkAhead_117 rfl ?_
          exact V_iret rfl dX12_walkAhead_119 t
    · have t := it_f q t
      refine V_goto (tgt := 175) dX12_walkAhead_88 (by decide) ?_
      refine V_iinc (L' := [(0, .ref (G.1 67)), (1, .int x1), (2, .int x2), (3, .int x3), (4, .int (b2i x4)), (5, .int x5), (6, .int (x6 + 1))]) (q := 6) (a := 1) dX12_walkAhead_175 rfl rfl (by decide) rfl rfl ?_
      refine V_goto (tgt := 68) dX12_walkAhead_178 (by decide) ?_
      exact t
set_option maxRecDepth 20000 in
set_option maxHeartbeats 4000000 in
theorem s_Model_findWay_0 (G : GA) (h : HP) (x1 : Int32) (x2 : Int32) (x3 : Int32) (x4 : Int32) (K : HP → Prop) (t :
  ∀ h1 : HP, h1 = up h 67 49 0 →
  H_Model_findWay_24 G h1 x1 x2 x3 x4 true true K) : P_Model_findWay G h x1 x2 x3 x4 K := by
  refine Sp_of_V pf_X12_findWay (Nat.le_of_ble_eq_true rfl) rfl ?_
  refine V_aload_n (q := 0) dX12_findWay_0 rfl rfl ?_
  refine V_iconst (v := 0) dX12_findWay_1 rfl ?_
  have t := t _ rfl
  refine V_put f_X12_233 p_X12_49 dX12_findWay_2 rfl rfl ?_
  refine V_iload_n (q := 1) dX12_findWay_5 rfl rfl ?_
  refine V_istore (L' := [(0, .ref (G.1 67)), (1, .int x1), (2, .int x2), (3, .int x3), (4, .int x4), (5, .int x1)]) dX12_findWay_6 (by decide) rfl rfl ?_
  refine V_iload_n (q := 2) dX12_findWay_8 rfl rfl ?_
  refine V_istore (L' := [(0, .ref (G.1 67)), (1, .int x1), (2, .int x2), (3, .int x3), (4, .int x4), (5, .int x1), (6, .int x2)]) dX12_findWay_9 (by decide) rfl rfl ?_
  refine V_iload_n (q := 3) dX12_findWay_11 rfl rfl ?_
  refine V_istore (L' := [(0, .ref (G.1 67)), (1, .int x1), (2, .int x2), (3, .int x3), (4, .int x4), (5, .int x1), (6, .int x2), (7, .int x3)]) dX12_findWay_12 (by decide) rfl rfl ?_
  refine V_iload (q := 4) dX12_findWay_14 rfl ?_
  refine V_istore (L' := [(0, .ref (G.1 67)), (1, .int x1), (2, .int x2), (3, .int x3), (4, .int x4), (5, .int x1), (6, .int x2), (7, .int x3), (8, .int x4)]) dX12_findWay_16 (by decide) rfl rfl ?_
  refine V_iconst (v := 1) dX12_findWay_18 rfl ?_
  refine V_istore (L' := [(0, .ref (G.1 67)), (1, .int x1), (2, .int x2), (3, .int x3), (4, .int x4), (5, .int x1), (6, .int x2), (7, .int x3), (8, .int x4), (9, .int 1)]) dX12_findWay_19 (by decide) rfl rfl ?_
  refine V_iconst (v := 1) dX12_findWay_21 rfl ?_
  refine V_istore (L' := [(0, .ref (G.1 67)), (1, .int x1), (2, .int x2), (3, .int x3), (4, .int x4), (5, .int x1), (6, .int x2), (7, .int x3), (8, .int x4), (9, .int 1), (10, .int 1)]) dX12_findWay_22 (by decide) rfl rfl ?_
  refine V_pick (L' := [(0, .ref (G.1 67)), (5, .int x1), (6, .int x2), (7, .int x3), (8, .int x4), (9, .int 1), (10, .int 1)]) [0, 5, 6, 7, 8, 9, 10] rfl ?_
  exact t
set_option maxRecDepth 20000 in
set_option maxHeartbeats 4000000 in
theorem s_Model_findWay_24 (G : GA) (h : HP) (x5 : Int32) (x6 : Int32) (x7 : Int32) (x8 : Int32) (x9 : Bool) (x10 : Bool) (K : HP → Prop) (t :
  if x10 = true then (
    P_Model_walkAhead G h x5 x6 x7 x9 x8 (fun (r2 : Int32) (h1 : HP) =>
      if r2 < 0 then (
        H_Model_findWay_56 G h1 x5 x6 x7 x8 x9 r2 K
      ) else (
        P_Model_putWalk G h1 r2 (fun h3 : HP =>
          H_Model_findWay_56 G h3 x5 x6 x7 x8 x9 r2 K
        )
      )
    )
  ) else (
    K h
  )) : H_Model_findWay_24 G h x5 x6 x7 x8 x9 x10 K := by
  unfold H_Model_findWay_24
  refine V_iload (q := 6) dX12_findWay_24 rfl ?_
  refine V_ifb_eq (tgt := 200) dX12_findWay_26 (by decide) (fun q => ?_) (fun q => ?_)
  · have t := it_f q t
    exact V_vret rfl dX12_findWay_200 t
  · have t := it_t q t
    refine V_aload_n (q := 0) dX12_findWay_29 rfl rfl ?_
    refine V_iload (q := 1) dX12_findWay_30 rfl ?_
    refine V_iload (q := 2) dX12_findWay_32 rfl ?_
    refine V_iload (q := 3) dX12_findWay_34 rfl ?_
    refine V_iload (q := 5) dX12_findWay_36 rfl ?_
    refine V_iload (q := 4) dX12_findWay_38 rfl ?_
    refine V_callV [.int x5, .int x6, .int x7, .int (b2i x9), .int x8] [] g_X12_findWay_X12_walkAhead wi_X12_walkAhead ws_X12_walkAhead dX12_findWay_40 rfl rfl rfl rfl rfl (Nat.le_of_ble_eq_true rfl) t (fun _ h1 t => ?_)
    obtain ⟨r2, rfl, t⟩ := t
    refine V_istore (L' := [(0, .ref (G.1 67)), (5, .int x5), (6, .int x6), (7, .int x7), (8, .int x8), (9, .int (b2i x9)), (10, .int (b2i x10)), (11, .int r2)]) dX12_findWay_43 (by decide) rfl rfl ?_
    refine V_iload (q := 7) dX12_findWay_45 rfl ?_
    refine V_if_lt (tgt := 56) dX12_findWay_47 (by decide) (fun q => ?_) (fun q => ?_)
    · have t := it_t q t
      refine V_pick (L' := [(0, .ref (G.1 67)), (5, .int x5), (6, .int x6), (7, .int x7), (8, .int x8), (9, .int (b2i x9)), (11, .int r2)]) [0, 1, 2, 3, 4, 5, 7] rfl ?_
      exact t
    · have t := it_f q t
      refine V_aload_n (q := 0) dX12_findWay_50 rfl rfl ?_
      refine V_iload (q := 7) dX12_findWay_51 rfl ?_
      refine V_callV [.int r2] [] g_X12_findWay_X12_putWalk wi_X12_putWalk ws_X12_putWalk dX12_findWay_53 rfl rfl rfl rfl rfl (Nat.le_of_ble_eq_true rfl) t (fun _ h3 t => ?_)
      obtain ⟨rfl, t⟩ := t
      refine V_pick (L' := [(0, .ref (G.1 67)), (5, .int x5), (6, .int x6), (7, .int x7), (8, .int x8), (9, .int (b2i x9)), (11, .int r2)]) [0, 1, 2, 3, 4, 5, 7] rfl ?_
      exact t
set_option maxRecDepth 20000 in
set_option maxHeartbeats 4000000 in
theorem s_Model_findWay_56 (G : GA) (h : HP) (x5 : Int32) (x6 : Int32) (x7 : Int32) (x8 : Int32) (x9 : Bool) (x11 : Int32) (K : HP → Prop) (t :
  if x5 ≤ 0 then (
    H_Model_findWay_66 G h x5 x6 x7 x8 x9 x11 false K
  ) else (
    H_Model_findWay_66 G h x5 x6 x7 x8 x9 x11 true K
  )) : H_Model_findWay_56 G h x5 x6 x7 x8 x9 x11 K := by
  unfold H_Model_findWay_56
  refine V_iload (q := 1) dX12_findWay_56 rfl ?_
  refine V_if_le (tgt := 65) dX12_findWay_58 (by decide) (fun q => ?_) (fun q => ?_)
  · have t := it_t q t
    refine V_iconst (v := 0) dX12_findWay_65 rfl ?_
    exact t
  · have t := it_f q t
    refine V_iconst (v := 1) dX12_findWay_61 rfl ?_
    refine V_goto (tgt := 66) dX12_findWay_62 (by decide) ?_
    exact t
set_option maxRecDepth 20000 in
set_option maxHeartbeats 4000000 in
theorem s_Model_findWay_66 (G : GA) (h : HP) (x5 : Int32) (x6 : Int32) (x7 : Int32) (x8 : Int32) (x9 : Bool) (x11 : Int32) (y0 : Bool) (K : HP → Prop) (t :
  if y0 = true then (
    if x11 < 0 then (
      H_Model_findWay_98 G h x5 x6 x8 x9 y0 x11 x7 x6 x5 K
    ) else (
      vp_in x11 20 ∧
      H_Model_findWay_98 G h x5 x6 x8 x9 y0 x11 (h 81 (tn x11)) x6 x5 K
    )
  ) else (
    H_Model_findWay_24 G h x5 x6 x7 x8 x9 y0 K
  )) : H_Model_findWay_66 G h x5 x6 x7 x8 x9 x11 y0 K := by
  unfold H_Model_findWay_66
  refine V_istore (L' := [(0, .ref (G.1 67)), (5, .int x5), (6, .int x6), (7, .int x7), (8, .int x8), (9, .int (b2i x9)), (11, .int x11), (10, .int (b2i y0))]) dX12_findWay_66 (by decide) rfl rfl ?_
  refine V_iload (q := 7) dX12_findWay_68 rfl ?_
  refine V_ifb_ne (tgt := 76) dX12_findWay_70 (by decide) (fun q => ?_) (fun q => ?_)
  · have t := it_t q t
    refine V_aload_n (q := 0) dX12_findWay_76 rfl rfl ?_
    refine V_iload (q := 1) dX12_findWay_77 rfl ?_
    refine V_iload (q := 2) dX12_findWay_79 rfl ?_
    refine V_iload (q := 6) dX12_findWay_81 rfl ?_
    refine V_if_lt (tgt := 96) dX12_findWay_83 (by decide) (fun q => ?_) (fun q => ?_)
    · have t := it_t q t
      refine V_iload (q := 3) dX12_findWay_96 rfl ?_
      refine V_pick (L' := [(0, .ref (G.1 67)), (5, .int x5), (6, .int x6), (8, .int x8), (9, .int (b2i x9)), (10, .int (b2i y0)), (11, .int x11)]) [0, 1, 2, 4, 5, 7, 6] rfl ?_
      exact t
    · have t := it_f q t
      refine V_aload_n (q := 0) dX12_findWay_86 rfl rfl ?_
      refine V_getr f_X12_50 dX12_findWay_87 rfl rfl ?_
      refine V_iload (q := 6) dX12_findWay_90 rfl ?_
      obtain ⟨n1, t⟩ := t
      refine V_iald dX12_findWay_92 rfl n1 ?_
      refine V_goto (tgt := 98) dX12_findWay_93 (by decide) ?_
      refine V_pick (L' := [(0, .ref (G.1 67)), (5, .int x5), (6, .int x6), (8, .int x8), (9, .int (b2i x9)), (10, .int (b2i y0)), (11, .int x11)]) [0, 1, 2, 4, 5, 7, 6] rfl ?_
      exact t
  · have t := it_f q t
    refine V_goto (tgt := 24) dX12_findWay_73 (by decide) ?_
    refine V_pick (L' := [(0, .ref (G.1 67)), (5, .int x5), (6, .int x6), (7, .int x7), (8, .int x8), (9, .int (b2i x9)), (10, .int (b2i y0))]) [0, 1, 2, 3, 4, 5, 7] rfl ?_
    exact t
set_option maxRecDepth 20000 in
set_option maxHeartbeats 4000000 in
theorem s_Model_findWay_98 (G : GA) (h : HP) (x5 : Int32) (x6 : Int32) (x8 : Int32) (x9 : Bool) (x10 : Bool) (x11 : Int32) (y0 : Int32) (y1 : Int32) (y2 : Int32) (K : HP → Prop) (t :
  P_Model_findRide G h y2 y1 y0 x11 x9 x8 (fun (b2 : Bool) (h1 : HP) =>
    vp_in (h1 67 50) 2400 ∧
    P_Model_putRide G h1 (h1 67 50) (h1 67 51) (h1 67 52) (fun h4 : HP =>
      P_Model_fareOf G h4 (h1 94 (tn (h1 67 50))) (h4 67 51) (h4 67 52) (fun (r6 : Int32) (h5 : HP) =>
        vp_in ((8 * (h1 94 (tn (h1 67 50)))) + (h5 67 51)) 192 ∧
        ∀ v8 : Int32, v8 = (h5 76 (tn ((8 * (h1 94 (tn (h1 67 50)))) + (h5 67 51)))) →
        vp_in ((8 * (h5 67 50)) + (h5 67 51)) 19200 ∧
        H_Model_findWay_24 G h5 (x5 + (-1)) (x6 - r6) v8 (h5 97 (tn ((8 * (h5 67 50)) + (h5 67 51)))) false x10 K
      )
    )
  )) : H_Model_findWay_98 G h x5 x6 x8 x9 x10 x11 y0 y1 y2 K := by
  unfold H_Model_findWay_98
  refine V_iload (q := 6) dX12_findWay_98 rfl ?_
  refine V_iload (q := 4) dX12_findWay_100 rfl ?_
  refine V_iload (q := 3) dX12_findWay_102 rfl ?_
  refine V_callV [.int y2, .int y1, .int y0, .int x11, .int (b2i x9), .int x8] [] g_X12_findWay_X12_findRide wi_X12_findRide ws_X12_findRide dX12_findWay_104 rfl rfl rfl rfl rfl (Nat.le_of_ble_eq_true rfl) t (fun _ h1 t => ?_)
  obtain ⟨b2, rfl, t⟩ := t
  refine V_istore (L' := [(0, .ref (G.1 67)), (5, .int x5), (6, .int x6), (8, .int x8), (9, .int (b2i x9)), (10, .int (b2i x10)), (11, .int x11), (12, .int (b2i b2))]) dX12_findWay_107 (by decide) rfl rfl ?_
  refine V_aload_n (q := 0) dX12_findWay_109 rfl rfl ?_
  refine V_getr f_X12_89 dX12_findWay_110 rfl rfl ?_
  refine V_aload_n (q := 0) dX12_findWay_113 rfl rfl ?_
  refine V_geti f_X12_236 dX12_findWay_114 rfl rfl ?_
  obtain ⟨n3, t⟩ := t
  refine V_iald dX12_findWay_117 rfl n3 ?_
  refine V_istore (L' := [(0, .ref (G.1 67)), (5, .int x5), (6, .int x6), (8, .int x8), (9, .int (b2i x9)), (10, .int (b2i x10)), (11, .int x11), (12, .int (b2i b2)), (13, .int (h1 94 (tn (h1 67 50))))]) dX12_findWay_118 (by decide) rfl rfl ?_
  refine V_aload_n (q := 0) dX12_findWay_120 rfl rfl ?_
  refine V_aload_n (q := 0) dX12_findWay_121 rfl rfl ?_
  refine V_geti f_X12_236 dX12_findWay_122 rfl rfl ?_
  refine V_aload_n (q := 0) dX12_findWay_125 rfl rfl ?_
  refine V_geti f_X12_239 dX12_findWay_126 rfl rfl ?_
  refine V_aload_n (q := 0) dX12_findWay_129 rfl rfl ?_
  refine V_geti f_X12_242 dX12_findWay_130 rfl rfl ?_
  refine V_callV [.int (h1 67 50), .int (h1 67 51), .int (h1 67 52)] [] g_X12_findWay_X12_putRide wi_X12_putRide ws_X12_putRide dX12_findWay_133 rfl rfl rfl rfl rfl (Nat.le_of_ble_eq_true rfl) t (fun _ h4 t => ?_)
  obtain ⟨rfl, t⟩ := t
  refine V_iload (q := 2) dX12_findWay_136 rfl ?_
  refine V_aload_n (q := 0) dX12_findWay_138 rfl rfl ?_
  refine V_iload (q := 8) dX12_findWay_139 rfl ?_
  refine V_aload_n (q := 0) dX12_findWay_141 rfl rfl ?_
  refine V_geti f_X12_239 dX12_findWay_142 rfl rfl ?_
  refine V_aload_n (q := 0) dX12_findWay_145 rfl rfl ?_
  refine V_geti f_X12_242 dX12_findWay_146 rfl rfl ?_
  refine V_callV [.int (h1 94 (tn (h1 67 50))), .int (h4 67 51), .int (h4 67 52)] [.int x6] g_X12_findWay_X12_fareOf wi_X12_fareOf ws_X12_fareOf dX12_findWay_149 rfl rfl rfl rfl rfl (Nat.le_of_ble_eq_true rfl) t (fun _ h5 t => ?_)
  obtain ⟨r6, rfl, t⟩ := t
  refine V_isub dX12_findWay_152 ?_
  refine V_istore (L' := [(0, .ref (G.1 67)), (5, .int x5), (6, .int (x6 - r6)), (8, .int x8), (9, .int (b2i x9)), (10, .int (b2i x10)), (11, .int x11), (12, .int (b2i b2)), (13, .int (h1 94 (tn (h1 67 50))))]) dX12_findWay_153 (by decide) rfl rfl ?_
  refine V_aload_n (q := 0) dX12_findWay_155 rfl rfl ?_
  refine V_getr f_X12_34 dX12_findWay_156 rfl rfl ?_
  refine V_bipush (v := 8) dX12_findWay_159 rfl ?_
  refine V_iload (q := 8) dX12_findWay_161 rfl ?_
  refine V_imul dX12_findWay_163 ?_
  refine V_aload_n (q := 0) dX12_findWay_164 rfl rfl ?_
  refine V_geti f_X12_239 dX12_findWay_165 rfl rfl ?_
  refine V_iadd dX12_findWay_168 ?_
  obtain ⟨n7, t⟩ := t
  refine V_iald dX12_findWay_169 rfl n7 ?_
  have t := t _ rfl
  refine V_istore (L' := [(0, .ref (G.1 67)), (5, .int x5), (6, .int (x6 - r6)), (8, .int x8), (9, .int (b2i x9)), (10, .int (b2i x10)), (11, .int x11), (12, .int (b2i b2)), (13, .int (h1 94 (tn (h1 67 50)))), (7, .int (h5 76 (tn ((8 * (h1 94 (tn (h1 67 50)))) + (h5 67 51)))))]) dX12_findWay_170 (by decide) rfl rfl ?_
  refine V_aload_n (q := 0) dX12_findWay_172 rfl rfl ?_
  refine V_getr f_X12_98 dX12_findWay_173 rfl rfl ?_
  refine V_bipush (v := 8) dX12_findWay_176 rfl ?_
  refine V_aload_n (q := 0) dX12_findWay_178 rfl rfl ?_
  refine V_geti f_X12_236 dX12_findWay_179 rfl rfl ?_
  refine V_imul dX12_findWay_182 ?_
  refine V_aload_n (q := 0) dX12_findWay_183 rfl rfl ?_
  refine V_geti f_X12_239 dX12_findWay_184 rfl rfl ?_
  refine V_iadd dX12_findWay_187 ?_
  obtain ⟨n9, t⟩ := t
  refine V_iald dX12_findWay_188 rfl n9 ?_
  refine V_istore (L' := [(0, .ref (G.1 67)), (5, .int x5), (6, .int (x6 - r6)), (8, .int (h5 97 (tn ((8 * (h5 67 50)) + (h5 67 51))))), (9, .int (b2i x9)), (10, .int (b2i x10)), (11, .int x11), (12, .int (b2i b2)), (13, .int (h1 94 (tn (h1 67 50)))), (7, .int (h5 76 (tn ((8 * (h1 94 (tn (h1 67 50)))) + (h5 67 51)))))]) dX12_findWay_189 (by decide) rfl rfl ?_
  refine V_iconst (v := 0) dX12_findWay_191 rfl ?_
  refine V_istore (L' := [(0, .ref (G.1 67)), (5, .int x5), (6, .int (x6 - r6)), (8, .int (h5 97 (tn ((8 * (h5 67 50)) + (h5 67 51))))), (9, .int 0), (10, .int (b2i x10)), (11, .int x11), (12, .int (b2i b2)), (13, .int (h1 94 (tn (h1 67 50)))), (7, .int (h5 76 (tn ((8 * (h1 94 (tn (h1 67 50)))) + (h5 67 51)))))]) dX12_findWay_192 (by decide) rfl rfl ?_
  refine V_iinc (L' := [(0, .ref (G.1 67)), (5, .int (x5 + (-1))), (6, .int (x6 - r6)), (8, .int (h5 97 (tn ((8 * (h5 67 50)) + (h5 67 51))))), (9, .int 0), (10, .int (b2i x10)), (11, .int x11), (12, .int (b2i b2)), (13, .int (h1 94 (tn (h1 67 50)))), (7, .int (h5 76 (tn ((8 * (h1 94 (tn (h1 67 50)))) + (h5 67 51)))))]) (q := 1) (a := (-1)) dX12_findWay_194 rfl rfl (by decide) rfl rfl ?_
  refine V_goto (tgt := 24) dX12_findWay_197 (by decide) ?_
  refine V_pick (L' := [(0, .ref (G.1 67)), (5, .int (x5 + (-1))), (6, .int (x6 - r6)), (7, .int (h5 76 (tn ((8 * (h1 94 (tn (h1 67 50)))) + (h5 67 51))))), (8, .int (h5 97 (tn ((8 * (h5 67 50)) + (h5 67 51))))), (9, .int 0), (10, .int (b2i x10))]) [0, 1, 2, 9, 3, 4, 5] rfl ?_
  exact t
set_option maxRecDepth 20000 in
set_option maxHeartbeats 4000000 in
theorem s_Model_least_99_0 (G : GA) (h : HP) (x1 : Int32) (x2 : Int32) (K : HP → Prop) (t :
  vp_in x1 1344 ∧
  if (h 99 (tn x1)) ≤ x2 then (
    ∀ h2 : HP, h2 = up h 99 (tn x1) (h 99 (tn x1)) →
    K h2
  ) else (
    ∀ h3 : HP, h3 = up h 99 (tn x1) x2 →
    K h3
  )) : P_Model_least_99 G h x1 x2 K := by
  refine Sp_of_V pf_X12_least (Nat.le_of_ble_eq_true rfl) rfl ?_
  refine V_aload_n (q := 0) dX12_least_0 rfl rfl ?_
  refine V_iload_n (q := 1) dX12_least_1 rfl rfl ?_
  refine V_iload_n (q := 2) dX12_least_2 rfl rfl ?_
  refine V_aload_n (q := 0) dX12_least_3 rfl rfl ?_
  refine V_iload_n (q := 1) dX12_least_4 rfl rfl ?_
  obtain ⟨n1, t⟩ := t
  refine V_iald dX12_least_5 rfl n1 ?_
  refine V_icmp_ge (tgt := 13) dX12_least_6 (by decide) (fun q => ?_) (fun q => ?_)
  · have t := it_t q t
    refine V_aload_n (q := 0) dX12_least_13 rfl rfl ?_
    refine V_iload_n (q := 1) dX12_least_14 rfl rfl ?_
    refine V_iald dX12_least_15 rfl n1 ?_
    have t := t _ rfl
    refine V_iast dX12_least_16 rfl n1 ?_
    exact V_vret rfl dX12_least_17 t
  · have t := it_f q t
    refine V_iload_n (q := 2) dX12_least_9 rfl rfl ?_
    refine V_goto (tgt := 16) dX12_least_10 (by decide) ?_
    have t := t _ rfl
    refine V_iast dX12_least_16 rfl n1 ?_
    exact V_vret rfl dX12_least_17 t
set_option maxRecDepth 20000 in
set_option maxHeartbeats 4000000 in
theorem s_Model_least_98_0 (G : GA) (h : HP) (x1 : Int32) (x2 : Int32) (K : HP → Prop) (t :
  vp_in x1 1344 ∧
  if (h 98 (tn x1)) ≤ x2 then (
    ∀ h2 : HP, h2 = up h 98 (tn x1) (h 98 (tn x1)) →
    K h2
  ) else (
    ∀ h3 : HP, h3 = up h 98 (tn x1) x2 →
    K h3
  )) : P_Model_least_98 G h x1 x2 K := by
  refine Sp_of_V pf_X12_least (Nat.le_of_ble_eq_true rfl) rfl ?_
  refine V_aload_n (q := 0) dX12_least_0 rfl rfl ?_
  refine V_iload_n (q := 1) dX12_least_1 rfl rfl ?_
  refine V_iload_n (q := 2) dX12_least_2 rfl rfl ?_
  refine V_aload_n (q := 0) dX12_least_3 rfl rfl ?_
  refine V_iload_n (q := 1) dX12_least_4 rfl rfl ?_
  obtain ⟨n1, t⟩ := t
  refine V_iald dX12_least_5 rfl n1 ?_
  refine V_icmp_ge (tgt := 13) dX12_least_6 (by decide) (fun q => ?_) (fun q => ?_)
  · have t := it_t q t
    refine V_aload_n (q := 0) dX12_least_13 rfl rfl ?_
    refine V_iload_n (q := 1) dX12_least_14 rfl rfl ?_
    refine V_iald dX12_least_15 rfl n1 ?_
    have t := t _ rfl
    refine V_iast dX12_least_16 rfl n1 ?_
    exact V_vret rfl dX12_least_17 t
  · have t := it_f q t
    refine V_iload_n (q := 2) dX12_least_9 rfl rfl ?_
    refine V_goto (tgt := 16) dX12_least_10 (by decide) ?_
    have t := t _ rfl
    refine V_iast dX12_least_16 rfl n1 ?_
    exact V_vret rfl dX12_least_17 t
set_option maxRecDepth 20000 in
set_option maxHeartbeats 4000000 in
theorem s_Model_ride_0 (G : GA) (h : HP) (x1 : Int32) (x2 : Int32) (K : HP → Prop) (t :
  vp_in x2 2400 ∧
  H_Model_ride_10 G h x1 x2 (h 94 (tn x2)) 0 K) : P_Model_ride G h x1 x2 K := by
  refine Sp_of_V pf_X12_ride (Nat.le_of_ble_eq_true rfl) rfl ?_
  refine V_aload_n (q := 0) dX12_ride_0 rfl rfl ?_
  refine V_getr f_X12_89 dX12_ride_1 rfl rfl ?_
  refine V_iload_n (q := 2) dX12_ride_4 rfl rfl ?_
  obtain ⟨n1, t⟩ := t
  refine V_iald dX12_ride_5 rfl n1 ?_
  refine V_istore_n (L' := [(0, .ref (G.1 67)), (1, .int x1), (2, .int x2), (3, .int (h 94 (tn x2)))]) dX12_ride_6 rfl (by decide) rfl rfl ?_
  refine V_iconst (v := 0) dX12_ride_7 rfl ?_
  refine V_istore (L' := [(0, .ref (G.1 67)), (1, .int x1), (2, .int x2), (3, .int (h 94 (tn x2))), (4, .int 0)]) dX12_ride_8 (by decide) rfl rfl ?_
  exact t
set_option maxRecDepth 20000 in
set_option maxHeartbeats 4000000 in
theorem s_Model_ride_10 (G : GA) (h : HP) (x1 : Int32) (x2 : Int32) (x3 : Int32) (x4 : Int32) (K : HP → Prop) (t :
  vp_in x3 24 ∧
  if (h 75 (tn x3)) ≤ x4 then (
    K h
  ) else (
    H_Model_ride_27 G h x1 x2 x3 x4 (x4 + 1) K
  )) : H_Model_ride_10 G h x1 x2 x3 x4 K := by
  unfold H_Model_ride_10
  refine V_iload (q := 4) dX12_ride_10 rfl ?_
  refine V_aload_n (q := 0) dX12_ride_12 rfl rfl ?_
  refine V_getr f_X12_31 dX12_ride_13 rfl rfl ?_
  refine V_iload_n (q := 3) dX12_ride_16 rfl rfl ?_
  obtain ⟨n1, t⟩ := t
  refine V_iald dX12_ride_17 rfl n1 ?_
  refine V_icmp_ge (tgt := 200) dX12_ride_18 (by decide) (fun q => ?_) (fun q => ?_)
  · have t := it_t q t
    exact V_vret rfl dX12_ride_200 t
  · have t := it_f q t
    refine V_iload (q := 4) dX12_ride_21 rfl ?_
    refine V_iconst (v := 1) dX12_ride_23 rfl ?_
    refine V_iadd dX12_ride_24 ?_
    refine V_istore (L' := [(0, .ref (G.1 67)), (1, .int x1), (2, .int x2), (3, .int x3), (4, .int x4), (5, .int (x4 + 1))]) dX12_ride_25 (by decide) rfl rfl ?_
    exact t
set_option maxRecDepth 20000 in
set_option maxHeartbeats 4000000 in
theorem s_Model_ride_27 (G : GA) (h : HP) (x1 : Int32) (x2 : Int32) (x3 : Int32) (x4 : Int32) (x5 : Int32) (K : HP → Prop) (t :
  vp_in x3 24 ∧
  if (h 75 (tn x3)) ≤ x5 then (
    H_Model_ride_10 G h x1 x2 x3 (x4 + 1) K
  ) else (
    vp_in ((8 * x2) + x5) 19200 ∧
    if (h 67 32) ≤ (h 96 (tn ((8 * x2) + x5))) then (
      H_Model_ride_27 G h x1 x2 x3 x4 (x5 + 1) K
    ) else (
      vp_in x2 2400 ∧
      P_Model_hasPlace G h x3 (h 95 (tn x2)) x4 x5 (fun (b5 : Bool) (h4 : HP) =>
        if b5 = true then (
          P_Model_fareOf G h4 x3 x4 x5 (fun (r7 : Int32) (h6 : HP) =>
            H_Model_ride_92 G h6 x1 x2 x3 x4 x5 r7 0 K
          )
        ) else (
          H_Model_ride_27 G h4 x1 x2 x3 x4 (x5 + 1) K
        )
      )
    )
  )) : H_Model_ride_27 G h x1 x2 x3 x4 x5 K := by
  unfold H_Model_ride_27
  refine V_iload (q := 5) dX12_ride_27 rfl ?_
  refine V_aload_n (q := 0) dX12_ride_29 rfl rfl ?_
  refine V_getr f_X12_31 dX12_ride_30 rfl rfl ?_
  refine V_iload_n (q := 3) dX12_ride_33 rfl rfl ?_
  obtain ⟨n1, t⟩ := t
  refine V_iald dX12_ride_34 rfl n1 ?_
  refine V_icmp_ge (tgt := 194) dX12_ride_35 (by decide) (fun q => ?_) (fun q => ?_)
  · have t := it_t q t
    refine V_iinc (L' := [(0, .ref (G.1 67)), (1, .int x1), (2, .int x2), (3, .int x3), (4, .int (x4 + 1)), (5, .int x5)]) (q := 4) (a := 1) dX12_ride_194 rfl rfl (by decide) rfl rfl ?_
    refine V_goto (tgt := 10) dX12_ride_197 (by decide) ?_
    refine V_pick (L' := [(0, .ref (G.1 67)), (1, .int x1), (2, .int x2), (3, .int x3), (4, .int (x4 + 1))]) [0, 1, 2, 3, 4] rfl ?_
    exact t
  · have t := it_f q t
    refine V_aload_n (q := 0) dX12_ride_38 rfl rfl ?_
    refine V_getr f_X12_95 dX12_ride_39 rfl rfl ?_
    refine V_bipush (v := 8) dX12_ride_42 rfl ?_
    refine V_iload_n (q := 2) dX12_ride_44 rfl rfl ?_
    refine V_imul dX12_ride_45 ?_
    refine V_iload (q := 5) dX12_ride_46 rfl ?_
    refine V_iadd dX12_ride_48 ?_
    obtain ⟨n2, t⟩ := t
    refine V_iald dX12_ride_49 rfl n2 ?_
    refine V_aload_n (q := 0) dX12_ride_50 rfl rfl ?_
    refine V_geti f_X12_190 dX12_ride_51 rfl rfl ?_
    refine V_icmp_ge (tgt := 188) dX12_ride_54 (by decide) (fun q => ?_) (fun q => ?_)
    · have t := it_t q t
      refine V_iinc (L' := [(0, .ref (G.1 67)), (1, .int x1), (2, .int x2), (3, .int x3), (4, .int x4), (5, .int (x5 + 1))]) (q := 5) (a := 1) dX12_ride_188 rfl rfl (by decide) rfl rfl ?_
      refine V_goto (tgt := 27) dX12_ride_191 (by decide) ?_
      exact t
    · have t := it_f q t
      refine V_aload_n (q := 0) dX12_ride_57 rfl rfl ?_
      refine V_iload_n (q := 3) dX12_ride_58 rfl rfl ?_
      refine V_aload_n (q := 0) dX12_ride_59 rfl rfl ?_
      refine V_getr f_X12_92 dX12_ride_60 rfl rfl ?_
      refine V_iload_n (q := 2) dX12_ride_63 rfl rfl ?_
      obtain ⟨n3, t⟩ := t
      refine V_iald dX12_ride_64 rfl n3 ?_
      refine V_iload (q := 4) dX12_ride_65 rfl ?_
      refine V_iload (q := 5) dX12_ride_67 rfl ?_
      refine V_callV [.int x3, .int (h 95 (tn x2)), .int x4, .int x5] [] g_X12_ride_X12_hasPlace wi_X12_hasPlace ws_X12_hasPlace dX12_ride_69 rfl rfl rfl rfl rfl (Nat.le_of_ble_eq_true rfl) t (fun _ h4 t => ?_)
      obtain ⟨b5, rfl, t⟩ := t
      refine V_ifb_ne (tgt := 78) dX12_ride_72 (by decide) (fun q => ?_) (fun q => ?_)
      · have t := it_t q t
        refine V_aload_n (q := 0) dX12_ride_78 rfl rfl ?_
        refine V_iload_n (q := 3) dX12_ride_79 rfl rfl ?_
        refine V_iload (q := 4) dX12_ride_80 rfl ?_
        refine V_iload (q := 5) dX12_ride_82 rfl ?_
        refine V_callV [.int x3, .int x4, .int x5] [] g_X12_ride_X12_fareOf wi_X12_fareOf ws_X12_fareOf dX12_ride_84 rfl rfl rfl rfl rfl (Nat.le_of_ble_eq_true rfl) t (fun _ h6 t => ?_)
        obtain ⟨r7, rfl, t⟩ := t
        refine V_istore (L' := [(0, .ref (G.1 67)), (1, .int x1), (2, .int x2), (3, .int x3), (4, .int x4), (5, .int x5), (6, .int r7)]) dX12_ride_87 (by decide) rfl rfl ?_
        refine V_iconst (v := 0) dX12_ride_89 rfl ?_
        refine V_istore (L' := [(0, .ref (G.1 67)), (1, .int x1), (2, .int x2), (3, .int x3), (4, .int x4), (5, .int x5), (6, .int r7), (7, .int 0)]) dX12_ride_90 (by decide) rfl rfl ?_
        exact t
      · have t := it_f q t
        refine V_goto (tgt := 188) dX12_ride_75 (by decide) ?_
        refine V_iinc (L' := [(0, .ref (G.1 67)), (1, .int x1), (2, .int x2), (3, .int x3), (4, .int x4), (5, .int (x5 + 1))]) (q := 5) (a := 1) dX12_ride_188 rfl rfl (by decide) rfl rfl ?_
        refine V_goto (tgt := 27) dX12_ride_191 (by decide) ?_
        exact t
set_option maxRecDepth 20000 in
set_option maxHeartbeats 4000000 in
theorem s_Model_ride_92 (G : GA) (h : HP) (x1 : Int32) (x2 : Int32) (x3 : Int32) (x4 : Int32) (x5 : Int32) (x6 : Int32) (x7 : Int32) (K : HP → Prop) (t :
  if 28 ≤ (x7 + x6) then (
    H_Model_ride_27 G h x1 x2 x3 x4 (x5 + 1) K
  ) else (
    vp_in ((8 * x3) + x4) 192 ∧
    P_Model_at G h (x1 - 1) x7 (h 76 (tn ((8 * x3) + x4))) (fun (r3 : Int32) (h2 : HP) =>
      vp_in r3 1344 ∧
      vp_in ((8 * x2) + x4) 19200 ∧
      if (h2 97 (tn ((8 * x2) + x4))) < (h2 99 (tn r3)) then (
        H_Model_ride_92 G h2 x1 x2 x3 x4 x5 x6 (x7 + 1) K
      ) else (
        vp_in ((8 * x3) + x5) 192 ∧
        P_Model_at G h2 x1 (x7 + x6) (h2 76 (tn ((8 * x3) + x5))) (fun (r8 : Int32) (h7 : HP) =>
          vp_in ((8 * x2) + x5) 19200 ∧
          P_Model_least_98 G h7 r8 (h7 96 (tn ((8 * x2) + x5))) (fun h10 : HP =>
            H_Model_ride_92 G h10 x1 x2 x3 x4 x5 x6 (x7 + 1) K
          )
        )
      )
    )
  )) : H_Model_ride_92 G h x1 x2 x3 x4 x5 x6 x7 K := by
  unfold H_Model_ride_92
  refine V_iload (q := 7) dX12_ride_92 rfl ?_
  refine V_iload (q := 6) dX12_ride_94 rfl ?_
  refine V_iadd dX12_ride_96 ?_
  refine V_bipush (v := 28) dX12_ride_97 rfl ?_
  refine V_icmp_ge (tgt := 188) dX12_ride_99 (by decide) (fun q => ?_) (fun q => ?_)
  · have t := it_t q t
    refine V_iinc (L' := [(0, .ref (G.1 67)), (1, .int x1), (2, .int x2), (3, .int x3), (4, .int x4), (5, .int (x5 + 1)), (6, .int x6), (7, .int x7)]) (q := 5) (a := 1) dX12_ride_188 rfl rfl (by decide) rfl rfl ?_
    refine V_goto (tgt := 27) dX12_ride_191 (by decide) ?_
    refine V_pick (L' := [(0, .ref (G.1 67)), (1, .int x1), (2, .int x2), (3, .int x3), (4, .int x4), (5, .int (x5 + 1))]) [0, 1, 2, 3, 4, 5] rfl ?_
    exact t
  · have t := it_f q t
    refine V_aload_n (q := 0) dX12_ride_102 rfl rfl ?_
    refine V_getr f_X12_104 dX12_ride_103 rfl rfl ?_
    refine V_iload_n (q := 1) dX12_ride_106 rfl rfl ?_
    refine V_iconst (v := 1) dX12_ride_107 rfl ?_
    refine V_isub dX12_ride_108 ?_
    refine V_iload (q := 7) dX12_ride_109 rfl ?_
    refine V_aload_n (q := 0) dX12_ride_111 rfl rfl ?_
    refine V_getr f_X12_34 dX12_ride_112 rfl rfl ?_
    refine V_bipush (v := 8) dX12_ride_115 rfl ?_
    refine V_iload_n (q := 3) dX12_ride_117 rfl rfl ?_
    refine V_imul dX12_ride_118 ?_
    refine V_iload (q := 4) dX12_ride_119 rfl ?_
    refine V_iadd dX12_ride_121 ?_
    obtain ⟨n1, t⟩ := t
    refine V_iald dX12_ride_122 rfl n1 ?_
    refine V_callS [.int (x1 - 1), .int x7, .int (h 76 (tn ((8 * x3) + x4)))] [.ref (G.1 99)] g_X12_ride_X12_at wt_X12_at dX12_ride_123 rfl rfl (Nat.le_of_ble_eq_true rfl) t (fun _ h2 t => ?_)
    obtain ⟨r3, rfl, t⟩ := t
    obtain ⟨n4, t⟩ := t
    refine V_iald dX12_ride_126 rfl n4 ?_
    refine V_aload_n (q := 0) dX12_ride_127 rfl rfl ?_
    refine V_getr f_X12_98 dX12_ride_128 rfl rfl ?_
    refine V_bipush (v := 8) dX12_ride_131 rfl ?_
    refine V_iload_n (q := 2) dX12_ride_133 rfl rfl ?_
    refine V_imul dX12_ride_134 ?_
    refine V_iload (q := 4) dX12_ride_135 rfl ?_
    refine V_iadd dX12_ride_137 ?_
    obtain ⟨n5, t⟩ := t
    refine V_iald dX12_ride_138 rfl n5 ?_
    refine V_icmp_gt (tgt := 182) dX12_ride_139 (by decide) (fun q => ?_) (fun q => ?_)
    · have t := it_t q t
      refine V_iinc (L' := [(0, .ref (G.1 67)), (1, .int x1), (2, .int x2), (3, .int x3), (4, .int x4), (5, .int x5), (6, .int x6), (7, .int (x7 + 1))]) (q := 7) (a := 1) dX12_ride_182 rfl rfl (by decide) rfl rfl ?_
      refine V_goto (tgt := 92) dX12_ride_185 (by decide) ?_
      exact t
    · have t := it_f q t
      refine V_aload_n (q := 0) dX12_ride_142 rfl rfl ?_
      refine V_getr f_X12_101 dX12_ride_143 rfl rfl ?_
      refine V_iload_n (q := 1) dX12_ride_146 rfl rfl ?_
      refine V_iload (q := 7) dX12_ride_147 rfl ?_
      refine V_iload (q := 6) dX12_ride_149 rfl ?_
      refine V_iadd dX12_ride_151 ?_
      refine V_aload_n (q := 0) dX12_ride_152 rfl rfl ?_
      refine V_getr f_X12_34 dX12_ride_153 rfl rfl ?_
      refine V_bipush (v := 8) dX12_ride_156 rfl ?_
      refine V_iload_n (q := 3) dX12_ride_158 rfl rfl ?_
      refine V_imul dX12_ride_159 ?_
      refine V_iload (q := 5) dX12_ride_160 rfl ?_
      refine V_iadd dX12_ride_162 ?_
      obtain ⟨n6, t⟩ := t
      refine V_iald dX12_ride_163 rfl n6 ?_
      refine V_callS [.int x1, .int (x7 + x6), .int (h2 76 (tn ((8 * x3) + x5)))] [.ref (G.1 98)] g_X12_ride_X12_at wt_X12_at dX12_ride_164 rfl rfl (Nat.le_of_ble_eq_true rfl) t (fun _ h7 t => ?_)
      obtain ⟨r8, rfl, t⟩ := t
      refine V_aload_n (q := 0) dX12_ride_167 rfl rfl ?_
      refine V_getr f_X12_95 dX12_ride_168 rfl rfl ?_
      refine V_bipush (v := 8) dX12_ride_171 rfl ?_
      refine V_iload_n (q := 2) dX12_ride_173 rfl rfl ?_
      refine V_imul dX12_ride_174 ?_
      refine V_iload (q := 5) dX12_ride_175 rfl ?_
      refine V_iadd dX12_ride_177 ?_
      obtain ⟨n9, t⟩ := t
      refine V_iald dX12_ride_178 rfl n9 ?_
      refine V_callS [.ref (G.1 98), .int r8, .int (h7 96 (tn ((8 * x2) + x5)))] [] g_X12_ride_X12_least wt_X12_least dX12_ride_179 rfl rfl (Nat.le_of_ble_eq_true rfl) t (fun _ h10 t => ?_)
      obtain ⟨rfl, t⟩ := t
      refine V_iinc (L' := [(0, .ref (G.1 67)), (1, .int x1), (2, .int x2), (3, .int x3), (4, .int x4), (5, .int x5), (6, .int x6), (7, .int (x7 + 1))]) (q := 7) (a := 1) dX12_ride_182 rfl rfl (by decide) rfl rfl ?_
      refine V_goto (tgt := 92) dX12_ride_185 (by decide) ?_
      exact t
