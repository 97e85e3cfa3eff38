set_option maxRecDepth 20000 in
set_option maxHeartbeats 4000000 in
theorem s_Desk_between_0 (G : GA) (h : HP) (x0 : Int32) (x1 : Int32) (x2 : Int32) (K : Bool → HP → Prop) (t :
  if x0 < x1 then (
    K false h
  ) else (
    if x2 < x0 then (
      K false h
    ) else (
      K true h
    )
  )) : P_Desk_between G h x0 x1 x2 K := by
  refine Sp_of_V pf_X11_between (Nat.le_of_ble_eq_true rfl) rfl ?_
  refine V_iload_n (q := 0) dX11_between_0 rfl rfl ?_
  refine V_iload_n (q := 1) dX11_between_1 rfl rfl ?_
  refine V_icmp_lt (tgt := 14) dX11_between_2 (by decide) (fun q => ?_) (fun q => ?_)
  · have t := it_t q t
    refine V_iconst (v := 0) dX11_between_14 rfl ?_
    exact V_zret (b := false) rfl dX11_between_15 t
  · have t := it_f q t
    refine V_iload_n (q := 0) dX11_between_5 rfl rfl ?_
    refine V_iload_n (q := 2) dX11_between_6 rfl rfl ?_
    refine V_icmp_gt (tgt := 14) dX11_between_7 (by decide) (fun q => ?_) (fun q => ?_)
    · have t := it_t q t
      refine V_iconst (v := 0) dX11_between_14 rfl ?_
      exact V_zret (b := false) rfl dX11_between_15 t
    · have t := it_f q t
      refine V_iconst (v := 1) dX11_between_10 rfl ?_
      refine V_goto (tgt := 15) dX11_between_11 (by decide) ?_
      exact V_zret (b := true) rfl dX11_between_15 t
set_option maxRecDepth 20000 in
set_option maxHeartbeats 4000000 in
theorem s_Desk_isZone_0 (G : GA) (h : HP) (x0 : Int32) (K : Bool → HP → Prop) (t :
  P_Desk_between G h x0 0 3 (fun (b2 : Bool) (h1 : HP) =>
    K b2 h1
  )) : P_Desk_isZone G h x0 K := by
  refine Sp_of_V pf_X11_isZone (Nat.le_of_ble_eq_true rfl) rfl ?_
  refine V_iload_n (q := 0) dX11_isZone_0 rfl rfl ?_
  refine V_iconst (v := 0) dX11_isZone_1 rfl ?_
  refine V_iconst (v := 3) dX11_isZone_2 rfl ?_
  refine V_callS [.int x0, .int 0, .int 3] [] g_X11_isZone_X11_between wt_X11_between dX11_isZone_3 rfl rfl (Nat.le_of_ble_eq_true rfl) t (fun _ h1 t => ?_)
  obtain ⟨b2, rfl, t⟩ := t
  exact V_zret (b := b2) rfl dX11_isZone_6 t
set_option maxRecDepth 20000 in
set_option maxHeartbeats 4000000 in
theorem s_Stops_add_0 (G : GA) (h : HP) (x1 : Int32) (x2 : Int32) (K : Int32 → HP → Prop) (t :
  if (h 2 3) < 12 then (
    vp_in (h 2 3) 12 ∧
    ∀ h1 : HP, h1 = up h 3 (tn (h 2 3)) x1 →
    ∀ h3 : HP, h3 = up h1 4 (tn (h 2 3)) x2 →
    ∀ h4 : HP, h4 = up h3 2 3 ((h 2 3) + 1) →
    K (h 2 3) h4
  ) else (
    K (-2) h
  )) : P_Stops_add G h x1 x2 K := by
  refine Sp_of_V pf_X7_add (Nat.le_of_ble_eq_true rfl) rfl ?_
  refine V_aload_n (q := 0) dX7_add_0 rfl rfl ?_
  refine V_geti f_X7_21 dX7_add_1 rfl rfl ?_
  refine V_bipush (v := 12) dX7_add_4 rfl ?_
  refine V_icmp_lt (tgt := 12) dX7_add_6 (by decide) (fun q => ?_) (fun q => ?_)
  · have t := it_t q t
    refine V_aload_n (q := 0) dX7_add_12 rfl rfl ?_
    refine V_getr f_X7_9 dX7_add_13 rfl rfl ?_
    refine V_aload_n (q := 0) dX7_add_16 rfl rfl ?_
    refine V_geti f_X7_21 dX7_add_17 rfl rfl ?_
    refine V_iload_n (q := 1) dX7_add_20 rfl rfl ?_
    obtain ⟨n2, t⟩ := t
    have t := t _ rfl
    refine V_iast dX7_add_21 rfl n2 ?_
    refine V_aload_n (q := 0) dX7_add_22 rfl rfl ?_
    refine V_getr f_X7_15 dX7_add_23 rfl rfl ?_
    refine V_aload_n (q := 0) dX7_add_26 rfl rfl ?_
    refine V_geti f_X7_21 dX7_add_27 rfl rfl ?_
    refine V_iload_n (q := 2) dX7_add_30 rfl rfl ?_
    have t := t _ rfl
    refine V_iast dX7_add_31 rfl n2 ?_
    refine V_aload_n (q := 0) dX7_add_32 rfl rfl ?_
    refine V_dup dX7_add_33 rfl ?_
    refine V_geti f_X7_21 dX7_add_34 rfl rfl ?_
    refine V_dup_x1 dX7_add_37 rfl rfl ?_
    refine V_iconst (v := 1) dX7_add_38 rfl ?_
    refine V_iadd dX7_add_39 ?_
    have t := t _ rfl
    refine V_put f_X7_21 p_X7_3 dX7_add_40 rfl rfl ?_
    exact V_iret rfl dX7_add_43 t
  · have t := it_f q t
    refine V_bipush (v := (-2)) dX7_add_9 rfl ?_
    exact V_iret rfl dX7_add_11 t
set_option maxRecDepth 20000 in
set_option maxHeartbeats 4000000 in
theorem s_Desk_stop_0 (G : GA) (h : HP) (x1 : Int32) (x2 : Int32) (K : Int32 → HP → Prop) (t :
  P_Desk_between G h x1 0 30 (fun (b2 : Bool) (h1 : HP) =>
    if b2 = true then (
      P_Desk_isZone G h1 x2 (fun (b4 : Bool) (h3 : HP) =>
        if b4 = true then (
          P_Stops_add G h3 x1 x2 (fun (r6 : Int32) (h5 : HP) =>
            K r6 h5
          )
        ) else (
          K (-2) h3
        )
      )
    ) else (
      K (-2) h1
    )
  )) : P_Desk_stop G h x1 x2 K := by
  refine Sp_of_V pf_X11_stop (Nat.le_of_ble_eq_true rfl) rfl ?_
  refine V_iload_n (q := 1) dX11_stop_0 rfl rfl ?_
  refine V_iconst (v := 0) dX11_stop_1 rfl ?_
  refine V_bipush (v := 30) dX11_stop_2 rfl ?_
  refine V_callS [.int x1, .int 0, .int 30] [] g_X11_stop_X11_between wt_X11_between dX11_stop_4 rfl rfl (Nat.le_of_ble_eq_true rfl) t (fun _ h1 t => ?_)
  obtain ⟨b2, rfl, t⟩ := t
  refine V_ifb_eq (tgt := 17) dX11_stop_7 (by decide) (fun q => ?_) (fun q => ?_)
  · have t := it_f q t
    refine V_bipush (v := (-2)) dX11_stop_17 rfl ?_
    exact V_iret rfl dX11_stop_19 t
  · have t := it_t q t
    refine V_iload_n (q := 2) dX11_stop_10 rfl rfl ?_
    refine V_callS [.int x2] [] g_X11_stop_X11_isZone wt_X11_isZone dX11_stop_11 rfl rfl (Nat.le_of_ble_eq_true rfl) t (fun _ h3 t => ?_)
    obtain ⟨b4, rfl, t⟩ := t
    refine V_ifb_ne (tgt := 20) dX11_stop_14 (by decide) (fun q => ?_) (fun q => ?_)
    · have t := it_t q t
      refine V_aload_n (q := 0) dX11_stop_20 rfl rfl ?_
      refine V_getr f_X11_12 dX11_stop_21 rfl rfl ?_
      refine V_iload_n (q := 1) dX11_stop_24 rfl rfl ?_
      refine V_iload_n (q := 2) dX11_stop_25 rfl rfl ?_
      refine V_callV [.int x1, .int x2] [] g_X11_stop_X7_add wi_X7_add ws_X7_add dX11_stop_26 rfl rfl rfl rfl rfl (Nat.le_of_ble_eq_true rfl) t (fun _ h5 t => ?_)
      obtain ⟨r6, rfl, t⟩ := t
      exact V_iret rfl dX11_stop_29 t
    · have t := it_f q t
      refine V_bipush (v := (-2)) dX11_stop_17 rfl ?_
      exact V_iret rfl dX11_stop_19 t
set_option maxRecDepth 20000 in
set_option maxHeartbeats 4000000 in
theorem s_Stops_price_0 (G : GA) (h : HP) (x1 : Int32) (x2 : Int32) (x3 : Int32) (K : Int32 → HP → Prop) (t :
  vp_in ((x1 * 4) + x2) 16 ∧
  ∀ h2 : HP, h2 = up h 5 (tn ((x1 * 4) + x2)) x3 →
  K (h 5 (tn ((x1 * 4) + x2))) h2) : P_Stops_price G h x1 x2 x3 K := by
  refine Sp_of_V pf_X7_price (Nat.le_of_ble_eq_true rfl) rfl ?_
  refine V_aload_n (q := 0) dX7_price_0 rfl rfl ?_
  refine V_getr f_X7_18 dX7_price_1 rfl rfl ?_
  refine V_iload_n (q := 1) dX7_price_4 rfl rfl ?_
  refine V_iconst (v := 4) dX7_price_5 rfl ?_
  refine V_imul dX7_price_6 ?_
  refine V_iload_n (q := 2) dX7_price_7 rfl rfl ?_
  refine V_iadd dX7_price_8 ?_
  obtain ⟨n1, t⟩ := t
  refine V_iald dX7_price_9 rfl n1 ?_
  refine V_istore (L' := [(0, .ref (G.1 2)), (1, .int x1), (2, .int x2), (3, .int x3), (4, .int (h 5 (tn ((x1 * 4) + x2))))]) dX7_price_10 (by decide) rfl rfl ?_
  refine V_aload_n (q := 0) dX7_price_12 rfl rfl ?_
  refine V_getr f_X7_18 dX7_price_13 rfl rfl ?_
  refine V_iload_n (q := 1) dX7_price_16 rfl rfl ?_
  refine V_iconst (v := 4) dX7_price_17 rfl ?_
  refine V_imul dX7_price_18 ?_
  refine V_iload_n (q := 2) dX7_price_19 rfl rfl ?_
  refine V_iadd dX7_price_20 ?_
  refine V_iload_n (q := 3) dX7_price_21 rfl rfl ?_
  have t := t _ rfl
  refine V_iast dX7_price_22 rfl n1 ?_
  refine V_iload (q := 4) dX7_price_23 rfl ?_
  exact V_iret rfl dX7_price_25 t
set_option maxRecDepth 20000 in
set_option maxHeartbeats 4000000 in
theorem s_Desk_fare_0 (G : GA) (h : HP) (x1 : Int32) (x2 : Int32) (x3 : Int32) (K : Int32 → HP → Prop) (t :
  P_Desk_isZone G h x1 (fun (b2 : Bool) (h1 : HP) =>
    if b2 = true then (
      P_Desk_isZone G h1 x2 (fun (b4 : Bool) (h3 : HP) =>
        if b4 = true then (
          P_Desk_between G h3 x3 0 9 (fun (b6 : Bool) (h5 : HP) =>
            if b6 = true then (
              P_Stops_price G h5 x1 x2 x3 (fun (r8 : Int32) (h7 : HP) =>
                K r8 h7
              )
            ) else (
              K (-2) h5
            )
          )
        ) else (
          K (-2) h3
        )
      )
    ) else (
      K (-2) h1
    )
  )) : P_Desk_fare G h x1 x2 x3 K := by
  refine Sp_of_V pf_X11_fare (Nat.le_of_ble_eq_true rfl) rfl ?_
  refine V_iload_n (q := 1) dX11_fare_0 rfl rfl ?_
  refine V_callS [.int x1] [] g_X11_fare_X11_isZone wt_X11_isZone dX11_fare_1 rfl rfl (Nat.le_of_ble_eq_true rfl) t (fun _ h1 t => ?_)
  obtain ⟨b2, rfl, t⟩ := t
  refine V_ifb_eq (tgt := 24) dX11_fare_4 (by decide) (fun q => ?_) (fun q => ?_)
  · have t := it_f q t
    refine V_bipush (v := (-2)) dX11_fare_24 rfl ?_
    exact V_iret rfl dX11_fare_26 t
  · have t := it_t q t
    refine V_iload_n (q := 2) dX11_fare_7 rfl rfl ?_
    refine V_callS [.int x2] [] g_X11_fare_X11_isZone wt_X11_isZone dX11_fare_8 rfl rfl (Nat.le_of_ble_eq_true rfl) t (fun _ h3 t => ?_)
    obtain ⟨b4, rfl, t⟩ := t
    refine V_ifb_eq (tgt := 24) dX11_fare_11 (by decide) (fun q => ?_) (fun q => ?_)
    · have t := it_f q t
      refine V_bipush (v := (-2)) dX11_fare_24 rfl ?_
      exact V_iret rfl dX11_fare_26 t
    · have t := it_t q t
      refine V_iload_n (q := 3) dX11_fare_14 rfl rfl ?_
      refine V_iconst (v := 0) dX11_fare_15 rfl ?_
      refine V_bipush (v := 9) dX11_fare_16 rfl ?_
      refine V_callS [.int x3, .int 0, .int 9] [] g_X11_fare_X11_between wt_X11_between dX11_fare_18 rfl rfl (Nat.le_of_ble_eq_true rfl) t (fun _ h5 t => ?_)
      obtain ⟨b6, rfl, t⟩ := t
      refine V_ifb_ne (tgt := 27) dX11_fare_21 (by decide) (fun q => ?_) (fun q => ?_)
      · have t := it_t q t
        refine V_aload_n (q := 0) dX11_fare_27 rfl rfl ?_
        refine V_getr f_X11_12 dX11_fare_28 rfl rfl ?_
        refine V_iload_n (q := 1) dX11_fare_31 rfl rfl ?_
        refine V_iload_n (q := 2) dX11_fare_32 rfl rfl ?_
        refine V_iload_n (q := 3) dX11_fare_33 rfl rfl ?_
        refine V_callV [.int x1, .int x2, .int x3] [] g_X11_fare_X7_price wi_X7_price ws_X7_price dX11_fare_34 rfl rfl rfl rfl rfl (Nat.le_of_ble_eq_true rfl) t (fun _ h7 t => ?_)
        obtain ⟨r8, rfl, t⟩ := t
        exact V_iret rfl dX11_fare_37 t
      · have t := it_f q t
        refine V_bipush (v := (-2)) dX11_fare_24 rfl ?_
        exact V_iret rfl dX11_fare_26 t
set_option maxRecDepth 20000 in
set_option maxHeartbeats 4000000 in
theorem s_Desk_isDay_0 (G : GA) (h : HP) (x0 : Int32) (K : Bool → HP → Prop) (t :
  P_Desk_between G h x0 0 99 (fun (b2 : Bool) (h1 : HP) =>
    K b2 h1
  )) : P_Desk_isDay G h x0 K := by
  refine Sp_of_V pf_X11_isDay (Nat.le_of_ble_eq_true rfl) rfl ?_
  refine V_iload_n (q := 0) dX11_isDay_0 rfl rfl ?_
  refine V_iconst (v := 0) dX11_isDay_1 rfl ?_
  refine V_bipush (v := 99) dX11_isDay_2 rfl ?_
  refine V_callS [.int x0, .int 0, .int 99] [] g_X11_isDay_X11_between wt_X11_between dX11_isDay_4 rfl rfl (Nat.le_of_ble_eq_true rfl) t (fun _ h1 t => ?_)
  obtain ⟨b2, rfl, t⟩ := t
  exact V_zret (b := b2) rfl dX11_isDay_7 t
set_option maxRecDepth 20000 in
set_option maxHeartbeats 4000000 in
theorem s_Desk_day_0 (G : GA) (h : HP) (x1 : Int32) (x2 : Int32) (K : Int32 → HP → Prop) (t :
  P_Desk_isDay G h x1 (fun (b2 : Bool) (h1 : HP) =>
    if b2 = true then (
      P_Desk_between G h1 x2 0 6 (fun (b4 : Bool) (h3 : HP) =>
        if b4 = true then (
          vp_in x1 100 ∧
          ∀ h6 : HP, h6 = up h3 20 (tn x1) x2 →
          K (h3 20 (tn x1)) h6
        ) else (
          K (-2) h3
        )
      )
    ) else (
      K (-2) h1
    )
  )) : P_Desk_day G h x1 x2 K := by
  refine Sp_of_V pf_X11_day (Nat.le_of_ble_eq_true rfl) rfl ?_
  refine V_iload_n (q := 1) dX11_day_0 rfl rfl ?_
  refine V_callS [.int x1] [] g_X11_day_X11_isDay wt_X11_isDay dX11_day_1 rfl rfl (Nat.le_of_ble_eq_true rfl) t (fun _ h1 t => ?_)
  obtain ⟨b2, rfl, t⟩ := t
  refine V_ifb_eq (tgt := 17) dX11_day_4 (by decide) (fun q => ?_) (fun q => ?_)
  · have t := it_f q t
    refine V_bipush (v := (-2)) dX11_day_17 rfl ?_
    exact V_iret rfl dX11_day_19 t
  · have t := it_t q t
    refine V_iload_n (q := 2) dX11_day_7 rfl rfl ?_
    refine V_iconst (v := 0) dX11_day_8 rfl ?_
    refine V_bipush (v := 6) dX11_day_9 rfl ?_
    refine V_callS [.int x2, .int 0, .int 6] [] g_X11_day_X11_between wt_X11_between dX11_day_11 rfl rfl (Nat.le_of_ble_eq_true rfl) t (fun _ h3 t => ?_)
    obtain ⟨b4, rfl, t⟩ := t
    refine V_ifb_ne (tgt := 20) dX11_day_14 (by decide) (fun q => ?_) (fun q => ?_)
    · have t := it_t q t
      refine V_aload_n (q := 0) dX11_day_20 rfl rfl ?_
      refine V_getr f_X11_19 dX11_day_21 rfl rfl ?_
      refine V_getr f_X11_109 dX11_day_24 rfl rfl ?_
      refine V_iload_n (q := 1) dX11_day_27 rfl rfl ?_
      obtain ⟨n5, t⟩ := t
      refine V_iald dX11_day_28 rfl n5 ?_
      refine V_istore_n (L' := [(0, .ref (G.1 0)), (1, .int x1), (2, .int x2), (3, .int (h3 20 (tn x1)))]) dX11_day_29 rfl (by decide) rfl rfl ?_
      refine V_aload_n (q := 0) dX11_day_30 rfl rfl ?_
      refine V_getr f_X11_19 dX11_day_31 rfl rfl ?_
      refine V_getr f_X11_109 dX11_day_34 rfl rfl ?_
      refine V_iload_n (q := 1) dX11_day_37 rfl rfl ?_
      refine V_iload_n (q := 2) dX11_day_38 rfl rfl ?_
      have t := t _ rfl
      refine V_iast dX11_day_39 rfl n5 ?_
      refine V_iload_n (q := 3) dX11_day_40 rfl rfl ?_
      exact V_iret rfl dX11_day_41 t
    · have t := it_f q t
      refine V_bipush (v := (-2)) dX11_day_17 rfl ?_
      exact V_iret rfl dX11_day_19 t
set_option maxRecDepth 20000 in
set_option maxHeartbeats 4000000 in
theorem s_Trips_add_0 (G : GA) (h : HP) (x1 : Int32) (x2 : Int32) (x3 : Int32) (K : Int32 → HP → Prop) (t :
  if (h 11 11) < 24 then (
    vp_in (h 11 11) 24 ∧
    ∀ h1 : HP, h1 = up h 12 (tn (h 11 11)) x1 →
    ∀ h3 : HP, h3 = up h1 13 (tn (h 11 11)) x2 →
    ∀ h4 : HP, h4 = up h3 14 (tn (h 11 11)) x3 →
    ∀ h5 : HP, h5 = up h4 11 11 ((h 11 11) + 1) →
    K (h 11 11) h5
  ) else (
    K (-2) h
  )) : P_Trips_add G h x1 x2 x3 K := by
  refine Sp_of_V pf_X9_add (Nat.le_of_ble_eq_true rfl) rfl ?_
  refine V_aload_n (q := 0) dX9_add_0 rfl rfl ?_
  refine V_geti f_X9_49 dX9_add_1 rfl rfl ?_
  refine V_bipush (v := 24) dX9_add_4 rfl ?_
  refine V_icmp_lt (tgt := 12) dX9_add_6 (by decide) (fun q => ?_) (fun q => ?_)
  · have t := it_t q t
    refine V_aload_n (q := 0) dX9_add_12 rfl rfl ?_
    refine V_getr f_X9_9 dX9_add_13 rfl rfl ?_
    refine V_aload_n (q := 0) dX9_add_16 rfl rfl ?_
    refine V_geti f_X9_49 dX9_add_17 rfl rfl ?_
    refine V_iload_n (q := 1) dX9_add_20 rfl rfl ?_
    obtain ⟨n2, t⟩ := t
    have t := t _ rfl
    refine V_iast dX9_add_21 rfl n2 ?_
    refine V_aload_n (q := 0) dX9_add_22 rfl rfl ?_
    refine V_getr f_X9_15 dX9_add_23 rfl rfl ?_
    refine V_aload_n (q := 0) dX9_add_26 rfl rfl ?_
    refine V_geti f_X9_49 dX9_add_27 rfl rfl ?_
    refine V_iload_n (q := 2) dX9_add_30 rfl rfl ?_
    have t := t _ rfl
    refine V_iast dX9_add_31 rfl n2 ?_
    refine V_aload_n (q := 0) dX9_add_32 rfl rfl ?_
    refine V_getr f_X9_18 dX9_add_33 rfl rfl ?_
    refine V_aload_n (q := 0) dX9_add_36 rfl rfl ?_
    refine V_geti f_X9_49 dX9_add_37 rfl rfl ?_
    refine V_iload_n (q := 3) dX9_add_40 rfl rfl ?_
    have t := t _ rfl
    refine V_iast dX9_add_41 rfl n2 ?_
    refine V_aload_n (q := 0) dX9_add_42 rfl rfl ?_
    refine V_dup dX9_add_43 rfl ?_
    refine V_geti f_X9_49 dX9_add_44 rfl rfl ?_
    refine V_dup_x1 dX9_add_47 rfl rfl ?_
    refine V_iconst (v := 1) dX9_add_48 rfl ?_
    refine V_iadd dX9_add_49 ?_
    have t := t _ rfl
    refine V_put f_X9_49 p_X9_11 dX9_add_50 rfl rfl ?_
    exact V_iret rfl dX9_add_53 t
  · have t := it_f q t
    refine V_bipush (v := (-2)) dX9_add_9 rfl ?_
    exact V_iret rfl dX9_add_11 t
set_option maxRecDepth 20000 in
set_option maxHeartbeats 4000000 in
theorem s_Desk_trip_0 (G : GA) (h : HP) (x1 : Int32) (x2 : Int32) (x3 : Int32) (K : Int32 → HP → Prop) (t :
  P_Desk_between G h x1 0 2 (fun (b2 : Bool) (h1 : HP) =>
    if b2 = true then (
      P_Desk_between G h1 x2 1 127 (fun (b4 : Bool) (h3 : HP) =>
        if b4 = true then (
          if x1 = 0 then (
            if x3 = 0 then (
              P_Trips_add G h3 x1 x2 x3 (fun (r6 : Int32) (h5 : HP) =>
                K r6 h5
              )
            ) else (
              K (-2) h3
            )
          ) else (
            P_Desk_between G h3 x3 1 50 (fun (b8 : Bool) (h7 : HP) =>
              if b8 = true then (
                P_Trips_add G h7 x1 x2 x3 (fun (r10 : Int32) (h9 : HP) =>
                  K r10 h9
                )
              ) else (
                K (-2) h7
              )
            )
          )
        ) else (
          K (-2) h3
        )
      )
    ) else (
      K (-2) h1
    )
  )) : P_Desk_trip G h x1 x2 x3 K := by
  refine Sp_of_V pf_X11_trip (Nat.le_of_ble_eq_true rfl) rfl ?_
  refine V_iload_n (q := 1) dX11_trip_0 rfl rfl ?_
  refine V_iconst (v := 0) dX11_trip_1 rfl ?_
  refine V_iconst (v := 2) dX11_trip_2 rfl ?_
  refine V_callS [.int x1, .int 0, .int 2] [] g_X11_trip_X11_between wt_X11_between dX11_trip_3 rfl rfl (Nat.le_of_ble_eq_true rfl) t (fun _ h1 t => ?_)
  obtain ⟨b2, rfl, t⟩ := t
  refine V_ifb_eq (tgt := 19) dX11_trip_6 (by decide) (fun q => ?_) (fun q => ?_)
  · have t := it_f q t
    refine V_bipush (v := (-2)) dX11_trip_19 rfl ?_
    exact V_iret rfl dX11_trip_21 t
  · have t := it_t q t
    refine V_iload_n (q := 2) dX11_trip_9 rfl rfl ?_
    refine V_iconst (v := 1) dX11_trip_10 rfl ?_
    refine V_bipush (v := 127) dX11_trip_11 rfl ?_
    refine V_callS [.int x2, .int 1, .int 127] [] g_X11_trip_X11_between wt_X11_between dX11_trip_13 rfl rfl (Nat.le_of_ble_eq_true rfl) t (fun _ h3 t => ?_)
    obtain ⟨b4, rfl, t⟩ := t
    refine V_ifb_ne (tgt := 22) dX11_trip_16 (by decide) (fun q => ?_) (fun q => ?_)
    · have t := it_t q t
      refine V_iload_n (q := 1) dX11_trip_22 rfl rfl ?_
      refine V_if_ne (tgt := 38) dX11_trip_23 (by decide) (fun q => ?_) (fun q => ?_)
      · have t := it_f q t
        refine V_iload_n (q := 3) dX11_trip_38 rfl rfl ?_
        refine V_iconst (v := 1) dX11_trip_39 rfl ?_
        refine V_bipush (v := 50) dX11_trip_40 rfl ?_
        refine V_callS [.int x3, .int 1, .int 50] [] g_X11_trip_X11_between wt_X11_between dX11_trip_42 rfl rfl (Nat.le_of_ble_eq_true rfl) t (fun _ h7 t => ?_)
        obtain ⟨b8, rfl, t⟩ := t
        refine V_istore (L' := [(0, .ref (G.1 0)), (1, .int x1), (2, .int x2), (3, .int x3), (4, .int (b2i b8))]) dX11_trip_45 (by decide) rfl rfl ?_
        refine V_iload (q := 4) dX11_trip_47 rfl ?_
        refine V_ifb_eq (tgt := 65) dX11_trip_49 (by decide) (fun q => ?_) (fun q => ?_)
        · have t := it_f q t
          refine V_bipush (v := (-2)) dX11_trip_65 rfl ?_
          exact V_iret rfl dX11_trip_67 t
        · have t := it_t q t
          refine V_aload_n (q := 0) dX11_trip_52 rfl rfl ?_
          refine V_getr f_X11_19 dX11_trip_53 rfl rfl ?_
          refine V_iload_n (q := 1) dX11_trip_56 rfl rfl ?_
          refine V_iload_n (q := 2) dX11_trip_57 rfl rfl ?_
          refine V_iload_n (q := 3) dX11_trip_58 rfl rfl ?_
          refine V_callV [.int x1, .int x2, .int x3] [] g_X11_trip_X9_add wi_X9_add ws_X9_add dX11_trip_59 rfl rfl rfl rfl rfl (Nat.le_of_ble_eq_true rfl) t (fun _ h9 t => ?_)
          obtain ⟨r10, rfl, t⟩ := t
          refine V_goto (tgt := 67) dX11_trip_62 (by decide) ?_
          exact V_iret rfl dX11_trip_67 t
      · have t := it_t q t
        refine V_iload_n (q := 3) dX11_trip_26 rfl rfl ?_
        refine V_if_ne (tgt := 34) dX11_trip_27 (by decide) (fun q => ?_) (fun q => ?_)
        · have t := it_f q t
          refine V_iconst (v := 0) dX11_trip_34 rfl ?_
          refine V_goto (tgt := 45) dX11_trip_35 (by decide) ?_
          refine V_istore (L' := [(0, .ref (G.1 0)), (1, .int x1), (2, .int x2), (3, .int x3), (4, .int 0)]) dX11_trip_45 (by decide) rfl rfl ?_
          refine V_iload (q := 4) dX11_trip_47 rfl ?_
          refine V_if_eq (tgt := 65) dX11_trip_49 (by decide) (fun q => ?_) (fun q => absurd q (by decide))
          refine V_bipush (v := (-2)) dX11_trip_65 rfl ?_
          exact V_iret rfl dX11_trip_67 t
        · have t := it_t q t
          refine V_iconst (v := 1) dX11_trip_30 rfl ?_
          refine V_goto (tgt := 45) dX11_trip_31 (by decide) ?_
          refine V_istore (L' := [(0, .ref (G.1 0)), (1, .int x1), (2, .int x2), (3, .int x3), (4, .int 1)]) dX11_trip_45 (by decide) rfl rfl ?_
          refine V_iload (q := 4) dX11_trip_47 rfl ?_
          refine V_if_eq (tgt := 65) dX11_trip_49 (by decide) (fun q => absurd q (by decide)) (fun q => ?_)
          refine V_aload_n (q := 0) dX11_trip_52 rfl rfl ?_
          refine V_getr f_X11_19 dX11_trip_53 rfl rfl ?_
          refine V_iload_n (q := 1) dX11_trip_56 rfl rfl ?_
          refine V_iload_n (q := 2) dX11_trip_57 rfl rfl ?_
          refine V_iload_n (q := 3) dX11_trip_58 rfl rfl ?_
          refine V_callV [.int x1, .int x2, .int x3] [] g_X11_trip_X9_add wi_X9_add ws_X9_add dX11_trip_59 rfl rfl rfl rfl rfl (Nat.le_of_ble_eq_true rfl) t (fun _ h5 t => ?_)
          obtain ⟨r6, rfl, t⟩ := t
          refine V_goto (tgt := 67) dX11_trip_62 (by decide) ?_
          exact V_iret rfl dX11_trip_67 t
    · have t := it_f q t
      refine V_bipush (v := (-2)) dX11_trip_19 rfl ?_
      exact V_iret rfl dX11_trip_21 t
set_option maxRecDepth 20000 in
set_option maxHeartbeats 4000000 in
theorem s_Stops_has_0 (G : GA) (h : HP) (x1 : Int32) (K : Bool → HP → Prop) (t :
  if x1 < 0 then (
    K false h
  ) else (
    if (h 2 3) ≤ x1 then (
      K false h
    ) else (
      K true h
    )
  )) : P_Stops_has G h x1 K := by
  refine Sp_of_V pf_X7_has (Nat.le_of_ble_eq_true rfl) rfl ?_
  refine V_iload_n (q := 1) dX7_has_0 rfl rfl ?_
  refine V_if_lt (tgt := 16) dX7_has_1 (by decide) (fun q => ?_) (fun q => ?_)
  · have t := it_t q t
    refine V_iconst (v := 0) dX7_has_16 rfl ?_
    exact V_zret (b := false) rfl dX7_has_17 t
  · have t := it_f q t
    refine V_iload_n (q := 1) dX7_has_4 rfl rfl ?_
    refine V_aload_n (q := 0) dX7_has_5 rfl rfl ?_
    refine V_geti f_X7_21 dX7_has_6 rfl rfl ?_
    refine V_icmp_ge (tgt := 16) dX7_has_9 (by decide) (fun q => ?_) (fun q => ?_)
    · have t := it_t q t
      refine V_iconst (v := 0) dX7_has_16 rfl ?_
      exact V_zret (b := false) rfl dX7_has_17 t
    · have t := it_f q t
      refine V_iconst (v := 1) dX7_has_12 rfl ?_
      refine V_goto (tgt := 17) dX7_has_13 (by decide) ?_
      exact V_zret (b := true) rfl dX7_has_17 t
set_option maxRecDepth 20000 in
set_option maxHeartbeats 4000000 in
theorem s_Trips_addCall_0 (G : GA) (h : HP) (x1 : Int32) (x2 : Int32) (x3 : Int32) (x4 : Int32) (K : Int32 → HP → Prop) (t :
  vp_in x1 24 ∧
  if (h 15 (tn x1)) < 8 then (
    if (h 15 (tn x1)) = 0 then (
      H_Trips_addCall_45 G h x1 x2 x3 x4 (h 15 (tn x1)) ((x1 * 8) + (h 15 (tn x1))) 0 K
    ) else (
      vp_in (((x1 * 8) + (h 15 (tn x1))) - 1) 192 ∧
      H_Trips_addCall_45 G h x1 x2 x3 x4 (h 15 (tn x1)) ((x1 * 8) + (h 15 (tn x1))) (h 19 (tn (((x1 * 8) + (h 15 (tn x1))) - 1))) K
    )
  ) else (
    K (-2) h
  )) : P_Trips_addCall G h x1 x2 x3 x4 K := by
  refine Sp_of_V pf_X9_addCall (Nat.le_of_ble_eq_true rfl) rfl ?_
  refine V_aload_n (q := 0) dX9_addCall_0 rfl rfl ?_
  refine V_getr f_X9_21 dX9_addCall_1 rfl rfl ?_
  refine V_iload_n (q := 1) dX9_addCall_4 rfl rfl ?_
  obtain ⟨n1, t⟩ := t
  refine V_iald dX9_addCall_5 rfl n1 ?_
  refine V_istore (L' := [(0, .ref (G.1 11)), (1, .int x1), (2, .int x2), (3, .int x3), (4, .int x4), (5, .int (h 15 (tn x1)))]) dX9_addCall_6 (by decide) rfl rfl ?_
  refine V_iload (q := 5) dX9_addCall_8 rfl ?_
  refine V_bipush (v := 8) dX9_addCall_10 rfl ?_
  refine V_icmp_lt (tgt := 18) dX9_addCall_12 (by decide) (fun q => ?_) (fun q => ?_)
  · have t := it_t q t
    refine V_iload_n (q := 1) dX9_addCall_18 rfl rfl ?_
    refine V_bipush (v := 8) dX9_addCall_19 rfl ?_
    refine V_imul dX9_addCall_21 ?_
    refine V_iload (q := 5) dX9_addCall_22 rfl ?_
    refine V_iadd dX9_addCall_24 ?_
    refine V_istore (L' := [(0, .ref (G.1 11)), (1, .int x1), (2, .int x2), (3, .int x3), (4, .int x4), (5, .int (h 15 (tn x1))), (6, .int ((x1 * 8) + (h 15 (tn x1))))]) dX9_addCall_25 (by decide) rfl rfl ?_
    refine V_iload (q := 5) dX9_addCall_27 rfl ?_
    refine V_if_ne (tgt := 36) dX9_addCall_29 (by decide) (fun q => ?_) (fun q => ?_)
    · have t := it_f q t
      refine V_aload_n (q := 0) dX9_addCall_36 rfl rfl ?_
      refine V_getr f_X9_33 dX9_addCall_37 rfl rfl ?_
      refine V_iload (q := 6) dX9_addCall_40 rfl ?_
      refine V_iconst (v := 1) dX9_addCall_42 rfl ?_
      refine V_isub dX9_addCall_43 ?_
      obtain ⟨n2, t⟩ := t
      refine V_iald dX9_addCall_44 rfl n2 ?_
      exact t
    · have t := it_t q t
      refine V_iconst (v := 0) dX9_addCall_32 rfl ?_
      refine V_goto (tgt := 45) dX9_addCall_33 (by decide) ?_
      exact t
  · have t := it_f q t
    refine V_bipush (v := (-2)) dX9_addCall_15 rfl ?_
    exact V_iret rfl dX9_addCall_17 t
set_option maxRecDepth 20000 in
set_option maxHeartbeats 4000000 in
theorem s_Trips_addCall_45 (G : GA) (h : HP) (x1 : Int32) (x2 : Int32) (x3 : Int32) (x4 : Int32) (x5 : Int32) (x6 : Int32) (y0 : Int32) (K : Int32 → HP → Prop) (t :
  vp_in x1 24 ∧
  if (h 12 (tn x1)) = 2 then (
    H_Trips_addCall_66 G h x1 x2 x3 x4 x5 x6 y0 2879 K
  ) else (
    H_Trips_addCall_66 G h x1 x2 x3 x4 x5 x6 y0 1439 K
  )) : H_Trips_addCall_45 G h x1 x2 x3 x4 x5 x6 y0 K := by
  unfold H_Trips_addCall_45
  refine V_istore (L' := [(0, .ref (G.1 11)), (1, .int x1), (2, .int x2), (3, .int x3), (4, .int x4), (5, .int x5), (6, .int x6), (7, .int y0)]) dX9_addCall_45 (by decide) rfl rfl ?_
  refine V_aload_n (q := 0) dX9_addCall_47 rfl rfl ?_
  refine V_getr f_X9_9 dX9_addCall_48 rfl rfl ?_
  refine V_iload_n (q := 1) dX9_addCall_51 rfl rfl ?_
  obtain ⟨n1, t⟩ := t
  refine V_iald dX9_addCall_52 rfl n1 ?_
  refine V_iconst (v := 2) dX9_addCall_53 rfl ?_
  refine V_icmp_ne (tgt := 63) dX9_addCall_54 (by decide) (fun q => ?_) (fun q => ?_)
  · have t := it_f q t
    refine V_sipush (v := 1439) dX9_addCall_63 rfl ?_
    exact t
  · have t := it_t q t
    refine V_sipush (v := 2879) dX9_addCall_57 rfl ?_
    refine V_goto (tgt := 66) dX9_addCall_60 (by decide) ?_
    exact t
set_option maxRecDepth 20000 in
set_option maxHeartbeats 4000000 in
theorem s_Trips_addCall_66 (G : GA) (h : HP) (x1 : Int32) (x2 : Int32) (x3 : Int32) (x4 : Int32) (x5 : Int32) (x6 : Int32) (x7 : Int32) (y0 : Int32) (K : Int32 → HP → Prop) (t :
  if x3 < x7 then (
    K (-2) h
  ) else (
    if x4 < x3 then (
      K (-2) h
    ) else (
      if x4 ≤ y0 then (
        vp_in x6 192 ∧
        ∀ h1 : HP, h1 = up h 17 (tn x6) x2 →
        ∀ h3 : HP, h3 = up h1 18 (tn x6) x3 →
        ∀ h4 : HP, h4 = up h3 19 (tn x6) x4 →
        vp_in x1 24 ∧
        ∀ h6 : HP, h6 = up h4 15 (tn x1) ((h 15 (tn x1)) + 1) →
        K x5 h6
      ) else (
        K (-2) h
      )
    )
  )) : H_Trips_addCall_66 G h x1 x2 x3 x4 x5 x6 x7 y0 K := by
  unfold H_Trips_addCall_66
  refine V_istore (L' := [(0, .ref (G.1 11)), (1, .int x1), (2, .int x2), (3, .int x3), (4, .int x4), (5, .int x5), (6, .int x6), (7, .int x7), (8, .int y0)]) dX9_addCall_66 (by decide) rfl rfl ?_
  refine V_iload_n (q := 3) dX9_addCall_68 rfl rfl ?_
  refine V_iload (q := 7) dX9_addCall_69 rfl ?_
  refine V_icmp_lt (tgt := 87) dX9_addCall_71 (by decide) (fun q => ?_) (fun q => ?_)
  · have t := it_t q t
    refine V_bipush (v := (-2)) dX9_addCall_87 rfl ?_
    exact V_iret rfl dX9_addCall_89 t
  · have t := it_f q t
    refine V_iload (q := 4) dX9_addCall_74 rfl ?_
    refine V_iload_n (q := 3) dX9_addCall_76 rfl rfl ?_
    refine V_icmp_lt (tgt := 87) dX9_addCall_77 (by decide) (fun q => ?_) (fun q => ?_)
    · have t := it_t q t
      refine V_bipush (v := (-2)) dX9_addCall_87 rfl ?_
      exact V_iret rfl dX9_addCall_89 t
    · have t := it_f q t
      refine V_iload (q := 4) dX9_addCall_80 rfl ?_
      refine V_iload (q := 8) dX9_addCall_82 rfl ?_
      refine V_icmp_le (tgt := 90) dX9_addCall_84 (by decide) (fun q => ?_) (fun q => ?_)
      · have t := it_t q t
        refine V_aload_n (q := 0) dX9_addCall_90 rfl rfl ?_
        refine V_getr f_X9_27 dX9_addCall_91 rfl rfl ?_
        refine V_iload (q := 6) dX9_addCall_94 rfl ?_
        refine V_iload_n (q := 2) dX9_addCall_96 rfl rfl ?_
        obtain ⟨n2, t⟩ := t
        have t := t _ rfl
        refine V_iast dX9_addCall_97 rfl n2 ?_
        refine V_aload_n (q := 0) dX9_addCall_98 rfl rfl ?_
        refine V_getr f_X9_30 dX9_addCall_99 rfl rfl ?_
        refine V_iload (q := 6) dX9_addCall_102 rfl ?_
        refine V_iload_n (q := 3) dX9_addCall_104 rfl rfl ?_
        have t := t _ rfl
        refine V_iast dX9_addCall_105 rfl n2 ?_
        refine V_aload_n (q := 0) dX9_addCall_106 rfl rfl ?_
        refine V_getr f_X9_33 dX9_addCall_107 rfl rfl ?_
        refine V_iload (q := 6) dX9_addCall_110 rfl ?_
        refine V_iload (q := 4) dX9_addCall_112 rfl ?_
        have t := t _ rfl
        refine V_iast dX9_addCall_114 rfl n2 ?_
        refine V_aload_n (q := 0) dX9_addCall_115 rfl rfl ?_
        refine V_getr f_X9_21 dX9_addCall_116 rfl rfl ?_
        refine V_iload_n (q := 1) dX9_addCall_119 rfl rfl ?_
        refine V_dup2 dX9_addCall_120 rfl rfl ?_
        obtain ⟨n5, t⟩ := t
        refine V_iald dX9_addCall_121 rfl n5 ?_
        refine V_iconst (v := 1) dX9_addCall_122 rfl ?_
        refine V_iadd dX9_addCall_123 ?_
        have t := t _ rfl
        refine V_iast dX9_addCall_124 rfl n5 ?_
        refine V_iload (q := 5) dX9_addCall_125 rfl ?_
        exact V_iret rfl dX9_addCall_127 t
      · have t := it_f q t
        refine V_bipush (v := (-2)) dX9_addCall_87 rfl ?_
        exact V_iret rfl dX9_addCall_89 t
set_option maxRecDepth 20000 in
set_option maxHeartbeats 4000000 in
theorem s_Trips_has_0 (G : GA) (h : HP) (x1 : Int32) (K : Bool → HP → Prop) (t :
  if x1 < 0 then (
    K false h
  ) else (
    if (h 11 11) ≤ x1 then (
      K false h
    ) else (
      K true h
    )
  )) : P_Trips_has G h x1 K := by
  refine Sp_of_V pf_X9_has (Nat.le_of_ble_eq_true rfl) rfl ?_
  refine V_iload_n (q := 1) dX9_has_0 rfl rfl ?_
  refine V_if_lt (tgt := 16) dX9_has_1 (by decide) (fun q => ?_) (fun q => ?_)
  · have t := it_t q t
    refine V_iconst (v := 0) dX9_has_16 rfl ?_
    exact V_zret (b := false) rfl dX9_has_17 t
  · have t := it_f q t
    refine V_iload_n (q := 1) dX9_has_4 rfl rfl ?_
    refine V_aload_n (q := 0) dX9_has_5 rfl rfl ?_
    refine V_geti f_X9_49 dX9_has_6 rfl rfl ?_
    refine V_icmp_ge (tgt := 16) dX9_has_9 (by decide) (fun q => ?_) (fun q => ?_)
    · have t := it_t q t
      refine V_iconst (v := 0) dX9_has_16 rfl ?_
      exact V_zret (b := false) rfl dX9_has_17 t
    · have t := it_f q t
      refine V_iconst (v := 1) dX9_has_12 rfl ?_
      refine V_goto (tgt := 17) dX9_has_13 (by decide) ?_
      exact V_zret (b := true) rfl dX9_has_17 t
set_option maxRecDepth 20000 in
set_option maxHeartbeats 4000000 in
theorem s_Desk_call_0 (G : GA) (h : HP) (x1 : Int32) (x2 : Int32) (x3 : Int32) (x4 : Int32) (K : Int32 → HP → Prop) (t :
  P_Trips_has G h x1 (fun (b2 : Bool) (h1 : HP) =>
    if b2 = true then (
      P_Stops_has G h1 x2 (fun (b4 : Bool) (h3 : HP) =>
        if b4 = true then (
          P_Trips_addCall G h3 x1 x2 x3 x4 (fun (r6 : Int32) (h5 : HP) =>
            K r6 h5
          )
        ) else (
          K (-2) h3
        )
      )
    ) else (
      K (-2) h1
    )
  )) : P_Desk_call G h x1 x2 x3 x4 K := by
  refine Sp_of_V pf_X11_call (Nat.le_of_ble_eq_true rfl) rfl ?_
  refine V_aload_n (q := 0) dX11_call_0 rfl rfl ?_
  refine V_getr f_X11_19 dX11_call_1 rfl rfl ?_
  refine V_iload_n (q := 1) dX11_call_4 rfl rfl ?_
  refine V_callV [.int x1] [] g_X11_call_X9_has wi_X9_has ws_X9_has dX11_call_5 rfl rfl rfl rfl rfl (Nat.le_of_ble_eq_true rfl) t (fun _ h1 t => ?_)
  obtain ⟨b2, rfl, t⟩ := t
  refine V_ifb_eq (tgt := 22) dX11_call_8 (by decide) (fun q => ?_) (fun q => ?_)
  · have t := it_f q t
    refine V_bipush (v := (-2)) dX11_call_22 rfl ?_
    exact V_iret rfl dX11_call_24 t
  · have t := it_t q t
    refine V_aload_n (q := 0) dX11_call_11 rfl rfl ?_
    refine V_getr f_X11_12 dX11_call_12 rfl rfl ?_
    refine V_iload_n (q := 2) dX11_call_15 rfl rfl ?_
    refine V_callV [.int x2] [] g_X11_call_X7_has wi_X7_has ws_X7_has dX11_call_16 rfl rfl rfl rfl rfl (Nat.le_of_ble_eq_true rfl) t (fun _ h3 t => ?_)
    obtain ⟨b4, rfl, t⟩ := t
    refine V_ifb_ne (tgt := 25) dX11_call_19 (by decide) (fun q => ?_) (fun q => ?_)
    · have t := it_t q t
      refine V_aload_n (q := 0) dX11_call_25 rfl rfl ?_
      refine V_getr f_X11_19 dX11_call_26 rfl rfl ?_
      refine V_iload_n (q := 1) dX11_call_29 rfl rfl ?_
      refine V_iload_n (q := 2) dX11_call_30 rfl rfl ?_
      refine V_iload_n (q := 3) dX11_call_31 rfl rfl ?_
      refine V_iload (q := 4) dX11_call_32 rfl ?_
      refine V_callV [.int x1, .int x2, .int x3, .int x4] [] g_X11_call_X9_addCall wi_X9_addCall ws_X9_addCall dX11_call_34 rfl rfl rfl rfl rfl (Nat.le_of_ble_eq_true rfl) t (fun _ h5 t => ?_)
      obtain ⟨r6, rfl, t⟩ := t
      exact V_iret rfl dX11_call_37 t
    · have t := it_f q t
      refine V_bipush (v := (-2)) dX11_call_22 rfl ?_
      exact V_iret rfl dX11_call_24 t
set_option maxRecDepth 20000 in
set_option maxHeartbeats 4000000 in
theorem s_Trips_hasCall_0 (G : GA) (h : HP) (x1 : Int32) (x2 : Int32) (K : Bool → HP → Prop) (t :
  P_Trips_has G h x1 (fun (b2 : Bool) (h1 : HP) =>
    if b2 = true then (
      if x2 < 0 then (
        K false h1
      ) else (
        vp_in x1 24 ∧
        if (h1 15 (tn x1)) ≤ x2 then (
          K false h1
        ) else (
          K true h1
        )
      )
    ) else (
      K false h1
    )
  )) : P_Trips_hasCall G h x1 x2 K := by
  refine Sp_of_V pf_X9_hasCall (Nat.le_of_ble_eq_true rfl) rfl ?_
  refine V_aload_n (q := 0) dX9_hasCall_0 rfl rfl ?_
  refine V_iload_n (q := 1) dX9_hasCall_1 rfl rfl ?_
  refine V_callV [.int x1] [] g_X9_hasCall_X9_has wi_X9_has ws_X9_has dX9_hasCall_2 rfl rfl rfl rfl rfl (Nat.le_of_ble_eq_true rfl) t (fun _ h1 t => ?_)
  obtain ⟨b2, rfl, t⟩ := t
  refine V_ifb_eq (tgt := 26) dX9_hasCall_5 (by decide) (fun q => ?_) (fun q => ?_)
  · have t := it_f q t
    refine V_iconst (v := 0) dX9_hasCall_26 rfl ?_
    exact V_zret (b := false) rfl dX9_hasCall_27 t
  · have t := it_t q t
    refine V_iload_n (q := 2) dX9_hasCall_8 rfl rfl ?_
    refine V_if_lt (tgt := 26) dX9_hasCall_9 (by decide) (fun q => ?_) (fun q => ?_)
    · have t := it_t q t
      refine V_iconst (v := 0) dX9_hasCall_26 rfl ?_
      exact V_zret (b := false) rfl dX9_hasCall_27 t
    · have t := it_f q t
      refine V_iload_n (q := 2) dX9_hasCall_12 rfl rfl ?_
      refine V_aload_n (q := 0) dX9_hasCall_13 rfl rfl ?_
      refine V_getr f_X9_21 dX9_hasCall_14 rfl rfl ?_
      refine V_iload_n (q := 1) dX9_hasCall_17 rfl rfl ?_
      obtain ⟨n3, t⟩ := t
      refine V_iald dX9_hasCall_18 rfl n3 ?_
      refine V_icmp_ge (tgt := 26) dX9_hasCall_19 (by decide) (fun q => ?_) (fun q => ?_)
      · have t := it_t q t
        refine V_iconst (v := 0) dX9_hasCall_26 rfl ?_
        exact V_zret (b := false) rfl dX9_hasCall_27 t
      · have t := it_f q t
        refine V_iconst (v := 1) dX9_hasCall_22 rfl ?_
        refine V_goto (tgt := 27) dX9_hasCall_23 (by decide) ?_
        exact V_zret (b := true) rfl dX9_hasCall_27 t
set_option maxRecDepth 20000 in
set_option maxHeartbeats 4000000 in
theorem s_Trips_setMissed_0 (G : GA) (h : HP) (x1 : Int32) (x2 : Int32) (x3 : Bool) (K : Int32 → HP → Prop) (t :
  vp_in x1 24 ∧
  if x3 = true then (
    ∀ h2 : HP, h2 = up h 16 (tn x1) ((h 16 (tn x1)) ||| (1 <<< (x2 &&& 31))) →
    K (((h 16 (tn x1)) >>> (x2 &&& 31)) &&& 1) h2
  ) else (
    ∀ h3 : HP, h3 = up h 16 (tn x1) ((h 16 (tn x1)) &&& ((1 <<< (x2 &&& 31)) ^^^ (-1))) →
    K (((h 16 (tn x1)) >>> (x2 &&& 31)) &&& 1) h3
  )) : P_Trips_setMissed G h x1 x2 x3 K := by
  refine Sp_of_V pf_X9_setMissed (Nat.le_of_ble_eq_true rfl) rfl ?_
  refine V_aload_n (q := 0) dX9_setMissed_0 rfl rfl ?_
  refine V_getr f_X9_24 dX9_setMissed_1 rfl rfl ?_
  refine V_iload_n (q := 1) dX9_setMissed_4 rfl rfl ?_
  obtain ⟨n1, t⟩ := t
  refine V_iald dX9_setMissed_5 rfl n1 ?_
  refine V_iload_n (q := 2) dX9_setMissed_6 rfl rfl ?_
  refine V_ishr dX9_setMissed_7 ?_
  refine V_iconst (v := 1) dX9_setMissed_8 rfl ?_
  refine V_iand dX9_setMissed_9 ?_
  refine V_istore (L' := [(0, .ref (G.1 11)), (1, .int x1), (2, .int x2), (3, .int (b2i x3)), (4, .int (((h 16 (tn x1)) >>> (x2 &&& 31)) &&& 1))]) dX9_setMissed_10 (by decide) rfl rfl ?_
  refine V_aload_n (q := 0) dX9_setMissed_12 rfl rfl ?_
  refine V_getr f_X9_24 dX9_setMissed_13 rfl rfl ?_
  refine V_iload_n (q := 1) dX9_setMissed_16 rfl rfl ?_
  refine V_iload_n (q := 3) dX9_setMissed_17 rfl rfl ?_
  refine V_ifb_eq (tgt := 34) dX9_setMissed_18 (by decide) (fun q => ?_) (fun q => ?_)
  · have t := it_f q t
    refine V_aload_n (q := 0) dX9_setMissed_34 rfl rfl ?_
    refine V_getr f_X9_24 dX9_setMissed_35 rfl rfl ?_
    refine V_iload_n (q := 1) dX9_setMissed_38 rfl rfl ?_
    refine V_iald dX9_setMissed_39 rfl n1 ?_
    refine V_iconst (v := 1) dX9_setMissed_40 rfl ?_
    refine V_iload_n (q := 2) dX9_setMissed_41 rfl rfl ?_
    refine V_ishl dX9_setMissed_42 ?_
    refine V_iconst (v := (-1)) dX9_setMissed_43 rfl ?_
    refine V_ixor dX9_setMissed_44 ?_
    refine V_iand dX9_setMissed_45 ?_
    have t := t _ rfl
    refine V_iast dX9_setMissed_46 rfl n1 ?_
    refine V_iload (q := 4) dX9_setMissed_47 rfl ?_
    exact V_iret rfl dX9_setMissed_49 t
  · have t := it_t q t
    refine V_aload_n (q := 0) dX9_setMissed_21 rfl rfl ?_
    refine V_getr f_X9_24 dX9_setMissed_22 rfl rfl ?_
    refine V_iload_n (q := 1) dX9_setMissed_25 rfl rfl ?_
    refine V_iald dX9_setMissed_26 rfl n1 ?_
    refine V_iconst (v := 1) dX9_setMissed_27 rfl ?_
    refine V_iload_n (q := 2) dX9_setMissed_28 rfl rfl ?_
    refine V_ishl dX9_setMissed_29 ?_
    refine V_ior dX9_setMissed_30 ?_
    refine V_goto (tgt := 46) dX9_setMissed_31 (by decide) ?_
    have t := t _ rfl
    refine V_iast dX9_setMissed_46 rfl n1 ?_
    refine V_iload (q := 4) dX9_setMissed_47 rfl ?_
    exact V_iret rfl dX9_setMissed_49 t
set_option maxRecDepth 20000 in
set_option maxHeartbeats 4000000 in
theorem s_Desk_miss_0 (G : GA) (h : HP) (x1 : Int32) (x2 : Int32) (x3 : Bool) (K : Int32 → HP → Prop) (t :
  P_Trips_hasCall G h x1 x2 (fun (b2 : Bool) (h1 : HP) =>
    if b2 = true then (
      P_Trips_setMissed G h1 x1 x2 x3 (fun (r4 : Int32) (h3 : HP) =>
        K r4 h3
      )
    ) else (
      K (-2) h1
    )
  )) : P_Desk_miss G h x1 x2 x3 K := by
  refine Sp_of_V pf_X11_miss (Nat.le_of_ble_eq_true rfl) rfl ?_
  refine V_aload_n (q := 0) dX11_miss_0 rfl rfl ?_
  refine V_getr f_X11_19 dX11_miss_1 rfl rfl ?_
  refine V_iload_n (q := 1) dX11_miss_4 rfl rfl ?_
  refine V_iload_n (q := 2) dX11_miss_5 rfl rfl ?_
  refine V_callV [.int x1, .int x2] [] g_X11_miss_X9_hasCall wi_X9_hasCall ws_X9_hasCall dX11_miss_6 rfl rfl rfl rfl rfl (Nat.le_of_ble_eq_true rfl) t (fun _ h1 t => ?_)
  obtain ⟨b2, rfl, t⟩ := t
  refine V_ifb_eq (tgt := 25) dX11_miss_9 (by decide) (fun q => ?_) (fun q => ?_)
  · have t := it_f q t
    refine V_bipush (v := (-2)) dX11_miss_25 rfl ?_
    exact V_iret rfl dX11_miss_27 t
  · have t := it_t q t
    refine V_aload_n (q := 0) dX11_miss_12 rfl rfl ?_
    refine V_getr f_X11_19 dX11_miss_13 rfl rfl ?_
    refine V_iload_n (q := 1) dX11_miss_16 rfl rfl ?_
    refine V_iload_n (q := 2) dX11_miss_17 rfl rfl ?_
    refine V_iload_n (q := 3) dX11_miss_18 rfl rfl ?_
    refine V_callV [.int x1, .int x2, .int (b2i x3)] [] g_X11_miss_X9_setMissed wi_X9_setMissed ws_X9_setMissed dX11_miss_19 rfl rfl rfl rfl rfl (Nat.le_of_ble_eq_true rfl) t (fun _ h3 t => ?_)
    obtain ⟨r4, rfl, t⟩ := t
    refine V_goto (tgt := 27) dX11_miss_22 (by decide) ?_
    exact V_iret rfl dX11_miss_27 t
set_option maxRecDepth 20000 in
set_option maxHeartbeats 4000000 in
theorem s_Walks_add_0 (G : GA) (h : HP) (x1 : Int32) (x2 : Int32) (x3 : Int32) (K : Int32 → HP → Prop) (t :
  if (h 22 8) < 20 then (
    vp_in (h 22 8) 20 ∧
    ∀ h1 : HP, h1 = up h 23 (tn (h 22 8)) x1 →
    ∀ h3 : HP, h3 = up h1 24 (tn (h 22 8)) x2 →
    ∀ h4 : HP, h4 = up h3 25 (tn (h 22 8)) x3 →
    ∀ h5 : HP, h5 = up h4 26 (tn (h 22 8)) 3 →
    ∀ h6 : HP, h6 = up h5 22 8 ((h 22 8) + 1) →
    K (h 22 8) h6
  ) else (
    K (-2) h
  )) : P_Walks_add G h x1 x2 x3 K := by
  refine Sp_of_V pf_X10_add (Nat.le_of_ble_eq_true rfl) rfl ?_
  refine V_aload_n (q := 0) dX10_add_0 rfl rfl ?_
  refine V_geti f_X10_36 dX10_add_1 rfl rfl ?_
  refine V_bipush (v := 20) dX10_add_4 rfl ?_
  refine V_icmp_lt (tgt := 12) dX10_add_6 (by decide) (fun q => ?_) (fun q => ?_)
  · have t := it_t q t
    refine V_aload_n (q := 0) dX10_add_12 rfl rfl ?_
    refine V_getr f_X10_9 dX10_add_13 rfl rfl ?_
    refine V_aload_n (q := 0) dX10_add_16 rfl rfl ?_
    refine V_geti f_X10_36 dX10_add_17 rfl rfl ?_
    refine V_iload_n (q := 1) dX10_add_20 rfl rfl ?_
    obtain ⟨n2, t⟩ := t
    have t := t _ rfl
    refine V_iast dX10_add_21 rfl n2 ?_
    refine V_aload_n (q := 0) dX10_add_22 rfl rfl ?_
    refine V_getr f_X10_15 dX10_add_23 rfl rfl ?_
    refine V_aload_n (q := 0) dX10_add_26 rfl rfl ?_
    refine V_geti f_X10_36 dX10_add_27 rfl rfl ?_
    refine V_iload_n (q := 2) dX10_add_30 rfl rfl ?_
    have t := t _ rfl
    refine V_iast dX10_add_31 rfl n2 ?_
    refine V_aload_n (q := 0) dX10_add_32 rfl rfl ?_
    refine V_getr f_X10_18 dX10_add_33 rfl rfl ?_
    refine V_aload_n (q := 0) dX10_add_36 rfl rfl ?_
    refine V_geti f_X10_36 dX10_add_37 rfl rfl ?_
    refine V_iload_n (q := 3) dX10_add_40 rfl rfl ?_
    have t := t _ rfl
    refine V_iast dX10_add_41 rfl n2 ?_
    refine V_aload_n (q := 0) dX10_add_42 rfl rfl ?_
    refine V_getr f_X10_21 dX10_add_43 rfl rfl ?_
    refine V_aload_n (q := 0) dX10_add_46 rfl rfl ?_
    refine V_geti f_X10_36 dX10_add_47 rfl rfl ?_
    refine V_iconst (v := 3) dX10_add_50 rfl ?_
    have t := t _ rfl
    refine V_iast dX10_add_51 rfl n2 ?_
    refine V_aload_n (q := 0) dX10_add_52 rfl rfl ?_
    refine V_dup dX10_add_53 rfl ?_
    refine V_geti f_X10_36 dX10_add_54 rfl rfl ?_
    refine V_dup_x1 dX10_add_57 rfl rfl ?_
    refine V_iconst (v := 1) dX10_add_58 rfl ?_
    refine V_iadd dX10_add_59 ?_
    have t := t _ rfl
    refine V_put f_X10_36 p_X10_8 dX10_add_60 rfl rfl ?_
    exact V_iret rfl dX10_add_63 t
  · have t := it_f q t
    refine V_bipush (v := (-2)) dX10_add_9 rfl ?_
    exact V_iret rfl dX10_add_11 t
set_option maxRecDepth 20000 in
set_option maxHeartbeats 4000000 in
theorem s_Desk_walk_0 (G : GA) (h : HP) (x1 : Int32) (x2 : Int32) (x3 : Int32) (K : Int32 → HP → Prop) (t :
  P_Stops_has G h x1 (fun (b2 : Bool) (h1 : HP) =>
    if b2 = true then (
      P_Stops_has G h1 x2 (fun (b4 : Bool) (h3 : HP) =>
        if b4 = true then (
          if x1 = x2 then (
            K (-2) h3
          ) else (
            P_Desk_between G h3 x3 1 240 (fun (b6 : Bool) (h5 : HP) =>
              if b6 = true then (
                P_Walks_add G h5 x1 x2 x3 (fun (r8 : Int32) (h7 : HP) =>
                  K r8 h7
                )
              ) else (
                K (-2) h5
              )
            )
          )
        ) else (
          K (-2) h3
        )
      )
    ) else (
      K (-2) h1
    )
  )) : P_Desk_walk G h x1 x2 x3 K := by
  refine Sp_of_V pf_X11_walk (Nat.le_of_ble_eq_true rfl) rfl ?_
  refine V_aload_n (q := 0) dX11_walk_0 rfl rfl ?_
  refine V_getr f_X11_12 dX11_walk_1 rfl rfl ?_
  refine V_iload_n (q := 1) dX11_walk_4 rfl rfl ?_
  refine V_callV [.int x1] [] g_X11_walk_X7_has wi_X7_has ws_X7_has dX11_walk_5 rfl rfl rfl rfl rfl (Nat.le_of_ble_eq_true rfl) t (fun _ h1 t => ?_)
  obtain ⟨b2, rfl, t⟩ := t
  refine V_ifb_eq (tgt := 38) dX11_walk_8 (by decide) (fun q => ?_) (fun q => ?_)
  · have t := it_f q t
    refine V_bipush (v := (-2)) dX11_walk_38 rfl ?_
    exact V_iret rfl dX11_walk_40 t
  · have t := it_t q t
    refine V_aload_n (q := 0) dX11_walk_11 rfl rfl ?_
    refine V_getr f_X11_12 dX11_walk_12 rfl rfl ?_
    refine V_iload_n (q := 2) dX11_walk_15 rfl rfl ?_
    refine V_callV [.int x2] [] g_X11_walk_X7_has wi_X7_has ws_X7_has dX11_walk_16 rfl rfl rfl rfl rfl (Nat.le_of_ble_eq_true rfl) t (fun _ h3 t => ?_)
    obtain ⟨b4, rfl, t⟩ := t
    refine V_ifb_eq (tgt := 38) dX11_walk_19 (by decide) (fun q => ?_) (fun q => ?_)
    · have t := it_f q t
      refine V_bipush (v := (-2)) dX11_walk_38 rfl ?_
      exact V_iret rfl dX11_walk_40 t
    · have t := it_t q t
      refine V_iload_n (q := 1) dX11_walk_22 rfl rfl ?_
      refine V_iload_n (q := 2) dX11_walk_23 rfl rfl ?_
      refine V_icmp_eq (tgt := 38) dX11_walk_24 (by decide) (fun q => ?_) (fun q => ?_)
      · have t := it_t q t
        refine V_bipush (v := (-2)) dX11_walk_38 rfl ?_
        exact V_iret rfl dX11_walk_40 t
      · have t := it_f q t
        refine V_iload_n (q := 3) dX11_walk_27 rfl rfl ?_
        refine V_iconst (v := 1) dX11_walk_28 rfl ?_
        refine V_sipush (v := 240) dX11_walk_29 rfl ?_
        refine V_callS [.int x3, .int 1, .int 240] [] g_X11_walk_X11_between wt_X11_between dX11_walk_32 rfl rfl (Nat.le_of_ble_eq_true rfl) t (fun _ h5 t => ?_)
        obtain ⟨b6, rfl, t⟩ := t
        refine V_ifb_ne (tgt := 41) dX11_walk_35 (by decide) (fun q => ?_) (fun q => ?_)
        · have t := it_t q t
          refine V_aload_n (q := 0) dX11_walk_41 rfl rfl ?_
          refine V_getr f_X11_26 dX11_walk_42 rfl rfl ?_
          refine V_iload_n (q := 1) dX11_walk_45 rfl rfl ?_
          refine V_iload_n (q := 2) dX11_walk_46 rfl rfl ?_
          refine V_iload_n (q := 3) dX11_walk_47 rfl rfl ?_
          refine V_callV [.int x1, .int x2, .int x3] [] g_X11_walk_X10_add wi_X10_add ws_X10_add dX11_walk_48 rfl rfl rfl rfl rfl (Nat.le_of_ble_eq_true rfl) t (fun _ h7 t => ?_)
          obtain ⟨r8, rfl, t⟩ := t
          exact V_iret rfl dX11_walk_51 t
        · have t := it_f q t
          refine V_bipush (v := (-2)) dX11_walk_38 rfl ?_
          exact V_iret rfl dX11_walk_40 t
set_option maxRecDepth 20000 in
set_option maxHeartbeats 4000000 in
theorem s_Desk_isMinute_0 (G : GA) (h : HP) (x0 : Int32) (K : Bool → HP → Prop) (t :
  P_Desk_between G h x0 0 1439 (fun (b2 : Bool) (h1 : HP) =>
    K b2 h1
  )) : P_Desk_isMinute G h x0 K := by
  refine Sp_of_V pf_X11_isMinute (Nat.le_of_ble_eq_true rfl) rfl ?_
  refine V_iload_n (q := 0) dX11_isMinute_0 rfl rfl ?_
  refine V_iconst (v := 0) dX11_isMinute_1 rfl ?_
  refine V_sipush (v := 1439) dX11_isMinute_2 rfl ?_
  refine V_callS [.int x0, .int 0, .int 1439] [] g_X11_isMinute_X11_between wt_X11_between dX11_isMinute_5 rfl rfl (Nat.le_of_ble_eq_true rfl) t (fun _ h1 t => ?_)
  obtain ⟨b2, rfl, t⟩ := t
  exact V_zret (b := b2) rfl dX11_isMinute_8 t
set_option maxRecDepth 20000 in
set_option maxHeartbeats 4000000 in
theorem s_Walks_has_0 (G : GA) (h : HP) (x1 : Int32) (K : Bool → HP → Prop) (t :
  if x1 < 0 then (
    K false h
  ) else (
    if (h 22 8) ≤ x1 then (
      K false h
    ) else (
      K true h
    )
  )) : P_Walks_has G h x1 K := by
  refine Sp_of_V pf_X10_has (Nat.le_of_ble_eq_true rfl) rfl ?_
  refine V_iload_n (q := 1) dX10_has_0 rfl rfl ?_
  refine V_if_lt (tgt := 16) dX10_has_1 (by decide) (fun q => ?_) (fun q => ?_)
  · have t := it_t q t
    refine V_iconst (v := 0) dX10_has_16 rfl ?_
    exact V_zret (b := false) rfl dX10_has_17 t
  · have t := it_f q t
    refine V_iload_n (q := 1) dX10_has_4 rfl rfl ?_
    refine V_aload_n (q := 0) dX10_has_5 rfl rfl ?_
    refine V_geti f_X10_36 dX10_has_6 rfl rfl ?_
    refine V_icmp_ge (tgt := 16) dX10_has_9 (by decide) (fun q => ?_) (fun q => ?_)
    · have t := it_t q t
      refine V_iconst (v := 0) dX10_has_16 rfl ?_
      exact V_zret (b := false) rfl dX10_has_17 t
    · have t := it_f q t
      refine V_iconst (v := 1) dX10_has_12 rfl ?_
      refine V_goto (tgt := 17) dX10_has_13 (by decide) ?_
      exact V_zret (b := true) rfl dX10_has_17 t
set_option maxRecDepth 20000 in
set_option maxHeartbeats 4000000 in
theorem s_Walks_makeShuttle_0 (G : GA) (h : HP) (x1 : Int32) (x2 : Int32) (x3 : Int32) (x4 : Int32) (K : Int32 → HP → Prop) (t :
  vp_in x1 20 ∧
  ∀ h2 : HP, h2 = up h 26 (tn x1) 4 →
  ∀ h3 : HP, h3 = up h2 27 (tn x1) x2 →
  ∀ h4 : HP, h4 = up h3 28 (tn x1) x3 →
  ∀ h5 : HP, h5 = up h4 29 (tn x1) x4 →
  K (h 26 (tn x1)) h5) : P_Walks_makeShuttle G h x1 x2 x3 x4 K := by
  refine Sp_of_V pf_X10_makeShuttle (Nat.le_of_ble_eq_true rfl) rfl ?_
  refine V_aload_n (q := 0) dX10_makeShuttle_0 rfl rfl ?_
  refine V_getr f_X10_21 dX10_makeShuttle_1 rfl rfl ?_
  refine V_iload_n (q := 1) dX10_makeShuttle_4 rfl rfl ?_
  obtain ⟨n1, t⟩ := t
  refine V_iald dX10_makeShuttle_5 rfl n1 ?_
  refine V_istore (L' := [(0, .ref (G.1 22)), (1, .int x1), (2, .int x2), (3, .int x3), (4, .int x4), (5, .int (h 26 (tn x1)))]) dX10_makeShuttle_6 (by decide) rfl rfl ?_
  refine V_aload_n (q := 0) dX10_makeShuttle_8 rfl rfl ?_
  refine V_getr f_X10_21 dX10_makeShuttle_9 rfl rfl ?_
  refine V_iload_n (q := 1) dX10_makeShuttle_12 rfl rfl ?_
  refine V_iconst (v := 4) dX10_makeShuttle_13 rfl ?_
  have t := t _ rfl
  refine V_iast dX10_makeShuttle_14 rfl n1 ?_
  refine V_aload_n (q := 0) dX10_makeShuttle_15 rfl rfl ?_
  refine V_getr f_X10_24 dX10_makeShuttle_16 rfl rfl ?_
  refine V_iload_n (q := 1) dX10_makeShuttle_19 rfl rfl ?_
  refine V_iload_n (q := 2) dX10_makeShuttle_20 rfl rfl ?_
  have t := t _ rfl
  refine V_iast dX10_makeShuttle_21 rfl n1 ?_
  refine V_aload_n (q := 0) dX10_makeShuttle_22 rfl rfl ?_
  refine V_getr f_X10_27 dX10_makeShuttle_23 rfl rfl ?_
  refine V_iload_n (q := 1) dX10_makeShuttle_26 rfl rfl ?_
  refine V_iload_n (q := 3) dX10_makeShuttle_27 rfl rfl ?_
  have t := t _ rfl
  refine V_iast dX10_makeShuttle_28 rfl n1 ?_
  refine V_aload_n (q := 0) dX10_makeShuttle_29 rfl rfl ?_
  refine V_getr f_X10_30 dX10_makeShuttle_30 rfl rfl ?_
  refine V_iload_n (q := 1) dX10_makeShuttle_33 rfl rfl ?_
  refine V_iload (q := 4) dX10_makeShuttle_34 rfl ?_
  have t := t _ rfl
  refine V_iast dX10_makeShuttle_36 rfl n1 ?_
  refine V_iload (q := 5) dX10_makeShuttle_37 rfl ?_
  exact V_iret rfl dX10_makeShuttle_39 t
set_option maxRecDepth 20000 in
set_option maxHeartbeats 4000000 in
theorem s_Desk_shuttle_0 (G : GA) (h : HP) (x1 : Int32) (x2 : Int32) (x3 : Int32) (x4 : Int32) (K : Int32 → HP → Prop) (t :
  P_Walks_has G h x1 (fun (b2 : Bool) (h1 : HP) =>
    if b2 = true then (
      P_Desk_isMinute G h1 x2 (fun (b4 : Bool) (h3 : HP) =>
        if b4 = true then (
          P_Desk_between G h3 x3 x2 1439 (fun (b6 : Bool) (h5 : HP) =>
            if b6 = true then (
              P_Desk_between G h5 x4 1 1440 (fun (b8 : Bool) (h7 : HP) =>
                if b8 = true then (
                  P_Walks_makeShuttle G h7 x1 x2 x3 x4 (fun (r10 : Int32) (h9 : HP) =>
                    K r10 h9
                  )
                ) else (
                  K (-2) h7
                )
              )
            ) else (
              K (-2) h5
            )
          )
        ) else (
          K (-2) h3
        )
      )
    ) else (
      K (-2) h1
    )
  )) : P_Desk_shuttle G h x1 x2 x3 x4 K := by
  refine Sp_of_V pf_X11_shuttle (Nat.le_of_ble_eq_true rfl) rfl ?_
  refine V_aload_n (q := 0) dX11_shuttle_0 rfl rfl ?_
  refine V_getr f_X11_26 dX11_shuttle_1 rfl rfl ?_
  refine V_iload_n (q := 1) dX11_shuttle_4 rfl rfl ?_
  refine V_callV [.int x1] [] g_X11_shuttle_X10_has wi_X10_has ws_X10_has dX11_shuttle_5 rfl rfl rfl rfl rfl (Nat.le_of_ble_eq_true rfl) t (fun _ h1 t => ?_)
  obtain ⟨b2, rfl, t⟩ := t
  refine V_ifb_eq (tgt := 41) dX11_shuttle_8 (by decide) (fun q => ?_) (fun q => ?_)
  · have t := it_f q t
    refine V_bipush (v := (-2)) dX11_shuttle_41 rfl ?_
    exact V_iret rfl dX11_shuttle_43 t
  · have t := it_t q t
    refine V_iload_n (q := 2) dX11_shuttle_11 rfl rfl ?_
    refine V_callS [.int x2] [] g_X11_shuttle_X11_isMinute wt_X11_isMinute dX11_shuttle_12 rfl rfl (Nat.le_of_ble_eq_true rfl) t (fun _ h3 t => ?_)
    obtain ⟨b4, rfl, t⟩ := t
    refine V_ifb_eq (tgt := 41) dX11_shuttle_15 (by decide) (fun q => ?_) (fun q => ?_)
    · have t := it_f q t
      refine V_bipush (v := (-2)) dX11_shuttle_41 rfl ?_
      exact V_iret rfl dX11_shuttle_43 t
    · have t := it_t q t
      refine V_iload_n (q := 3) dX11_shuttle_18 rfl rfl ?_
      refine V_iload_n (q := 2) dX11_shuttle_19 rfl rfl ?_
      refine V_sipush (v := 1439) dX11_shuttle_20 rfl ?_
      refine V_callS [.int x3, .int x2, .int 1439] [] g_X11_shuttle_X11_between wt_X11_between dX11_shuttle_23 rfl rfl (Nat.le_of_ble_eq_true rfl) t (fun _ h5 t => ?_)
      obtain ⟨b6, rfl, t⟩ := t
      refine V_ifb_eq (tgt := 41) dX11_shuttle_26 (by decide) (fun q => ?_) (fun q => ?_)
      · have t := it_f q t
        refine V_bipush (v := (-2)) dX11_shuttle_41 rfl ?_
        exact V_iret rfl dX11_shuttle_43 t
      · have t := it_t q t
        refine V_iload (q := 4) dX11_shuttle_29 rfl ?_
        refine V_iconst (v := 1) dX11_shuttle_31 rfl ?_
        refine V_sipush (v := 1440) dX11_shuttle_32 rfl ?_
        refine V_callS [.int x4, .int 1, .int 1440] [] g_X11_shuttle_X11_between wt_X11_between dX11_shuttle_35 rfl rfl (Nat.le_of_ble_eq_true rfl) t (fun _ h7 t => ?_)
        obtain ⟨b8, rfl, t⟩ := t
        refine V_ifb_ne (tgt := 44) dX11_shuttle_38 (by decide) (fun q => ?_) (fun q => ?_)
        · have t := it_t q t
          refine V_aload_n (q := 0) dX11_shuttle_44 rfl rfl ?_
          refine V_getr f_X11_26 dX11_shuttle_45 rfl rfl ?_
          refine V_iload_n (q := 1) dX11_shuttle_48 rfl rfl ?_
          refine V_iload_n (q := 2) dX11_shuttle_49 rfl rfl ?_
          refine V_iload_n (q := 3) dX11_shuttle_50 rfl rfl ?_
          refine V_iload (q := 4) dX11_shuttle_51 rfl ?_
          refine V_callV [.int x1, .int x2, .int x3, .int x4] [] g_X11_shuttle_X10_makeShuttle wi_X10_makeShuttle ws_X10_makeShuttle dX11_shuttle_53 rfl rfl rfl rfl rfl (Nat.le_of_ble_eq_true rfl) t (fun _ h9 t => ?_)
          obtain ⟨r10, rfl, t⟩ := t
          exact V_iret rfl dX11_shuttle_56 t
        · have t := it_f q t
          refine V_bipush (v := (-2)) dX11_shuttle_41 rfl ?_
          exact V_iret rfl dX11_shuttle_43 t
set_option maxRecDepth 20000 in
set_option maxHeartbeats 4000000 in
theorem s_Walks_makeAsked_0 (G : GA) (h : HP) (x1 : Int32) (x2 : Int32) (K : Int32 → HP → Prop) (t :
  vp_in x1 20 ∧
  ∀ h2 : HP, h2 = up h 26 (tn x1) 5 →
  ∀ h3 : HP, h3 = up h2 30 (tn x1) x2 →
  K (h 26 (tn x1)) h3) : P_Walks_makeAsked G h x1 x2 K := by
  refine Sp_of_V pf_X10_makeAsked (Nat.le_of_ble_eq_true rfl) rfl ?_
  refine V_aload_n (q := 0) dX10_makeAsked_0 rfl rfl ?_
  refine V_getr f_X10_21 dX10_makeAsked_1 rfl rfl ?_
  refine V_iload_n (q := 1) dX10_makeAsked_4 rfl rfl ?_
  obtain ⟨n1, t⟩ := t
  refine V_iald dX10_makeAsked_5 rfl n1 ?_
  refine V_istore_n (L' := [(0, .ref (G.1 22)), (1, .int x1), (2, .int x2), (3, .int (h 26 (tn x1)))]) dX10_makeAsked_6 rfl (by decide) rfl rfl ?_
  refine V_aload_n (q := 0) dX10_makeAsked_7 rfl rfl ?_
  refine V_getr f_X10_21 dX10_makeAsked_8 rfl rfl ?_
  refine V_iload_n (q := 1) dX10_makeAsked_11 rfl rfl ?_
  refine V_iconst (v := 5) dX10_makeAsked_12 rfl ?_
  have t := t _ rfl
  refine V_iast dX10_makeAsked_13 rfl n1 ?_
  refine V_aload_n (q := 0) dX10_makeAsked_14 rfl rfl ?_
  refine V_getr f_X10_33 dX10_makeAsked_15 rfl rfl ?_
  refine V_iload_n (q := 1) dX10_makeAsked_18 rfl rfl ?_
  refine V_iload_n (q := 2) dX10_makeAsked_19 rfl rfl ?_
  have t := t _ rfl
  refine V_iast dX10_makeAsked_20 rfl n1 ?_
  refine V_iload_n (q := 3) dX10_makeAsked_21 rfl rfl ?_
  exact V_iret rfl dX10_makeAsked_22 t
set_option maxRecDepth 20000 in
set_option maxHeartbeats 4000000 in
theorem s_Desk_asked_0 (G : GA) (h : HP) (x1 : Int32) (x2 : Int32) (K : Int32 → HP → Prop) (t :
  P_Walks_has G h x1 (fun (b2 : Bool) (h1 : HP) =>
    if b2 = true then (
      vp_in x1 20 ∧
      if (h1 26 (tn x1)) = 3 then (
        K (-2) h1
      ) else (
        P_Desk_between G h1 x2 1 600 (fun (b5 : Bool) (h4 : HP) =>
          if b5 = true then (
            P_Walks_makeAsked G h4 x1 x2 (fun (r7 : Int32) (h6 : HP) =>
              K r7 h6
            )
          ) else (
            K (-2) h4
          )
        )
      )
    ) else (
      K (-2) h1
    )
  )) : P_Desk_asked G h x1 x2 K := by
  refine Sp_of_V pf_X11_asked (Nat.le_of_ble_eq_true rfl) rfl ?_
  refine V_aload_n (q := 0) dX11_asked_0 rfl rfl ?_
  refine V_getr f_X11_26 dX11_asked_1 rfl rfl ?_
  refine V_iload_n (q := 1) dX11_asked_4 rfl rfl ?_
  refine V_callV [.int x1] [] g_X11_asked_X10_has wi_X10_has ws_X10_has dX11_asked_5 rfl rfl rfl rfl rfl (Nat.le_of_ble_eq_true rfl) t (fun _ h1 t => ?_)
  obtain ⟨b2, rfl, t⟩ := t
  refine V_ifb_eq (tgt := 35) dX11_asked_8 (by decide) (fun q => ?_) (fun q => ?_)
  · have t := it_f q t
    refine V_bipush (v := (-2)) dX11_asked_35 rfl ?_
    exact V_iret rfl dX11_asked_37 t
  · have t := it_t q t
    refine V_aload_n (q := 0) dX11_asked_11 rfl rfl ?_
    refine V_getr f_X11_26 dX11_asked_12 rfl rfl ?_
    refine V_getr f_X11_138 dX11_asked_15 rfl rfl ?_
    refine V_iload_n (q := 1) dX11_asked_18 rfl rfl ?_
    obtain ⟨n3, t⟩ := t
    refine V_iald dX11_asked_19 rfl n3 ?_
    refine V_iconst (v := 3) dX11_asked_20 rfl ?_
    refine V_icmp_eq (tgt := 35) dX11_asked_21 (by decide) (fun q => ?_) (fun q => ?_)
    · have t := it_t q t
      refine V_bipush (v := (-2)) dX11_asked_35 rfl ?_
      exact V_iret rfl dX11_asked_37 t
    · have t := it_f q t
      refine V_iload_n (q := 2) dX11_asked_24 rfl rfl ?_
      refine V_iconst (v := 1) dX11_asked_25 rfl ?_
      refine V_sipush (v := 600) dX11_asked_26 rfl ?_
      refine V_callS [.int x2, .int 1, .int 600] [] g_X11_asked_X11_between wt_X11_between dX11_asked_29 rfl rfl (Nat.le_of_ble_eq_true rfl) t (fun _ h4 t => ?_)
      obtain ⟨b5, rfl, t⟩ := t
      refine V_ifb_ne (tgt := 38) dX11_asked_32 (by decide) (fun q => ?_) (fun q => ?_)
      · have t := it_t q t
        refine V_aload_n (q := 0) dX11_asked_38 rfl rfl ?_
        refine V_getr f_X11_26 dX11_asked_39 rfl rfl ?_
        refine V_iload_n (q := 1) dX11_asked_42 rfl rfl ?_
        refine V_iload_n (q := 2) dX11_asked_43 rfl rfl ?_
        refine V_callV [.int x1, .int x2] [] g_X11_asked_X10_makeAsked wi_X10_makeAsked ws_X10_makeAsked dX11_asked_44 rfl rfl rfl rfl rfl (Nat.le_of_ble_eq_true rfl) t (fun _ h6 t => ?_)
        obtain ⟨r7, rfl, t⟩ := t
        exact V_iret rfl dX11_asked_47 t
      · have t := it_f q t
        refine V_bipush (v := (-2)) dX11_asked_35 rfl ?_
        exact V_iret rfl dX11_asked_37 t
set_option maxRecDepth 20000 in
set_option maxHeartbeats 4000000 in
theorem s_Delays_sum_0 (G : GA) (h : HP) (x1 : Int32) (x2 : Int32) (x3 : Int32) (K : Int32 → HP → Prop) (t :
  H_Delays_sum_6 G h x1 x2 x3 0 0 K) : P_Delays_sum G h x1 x2 x3 K := by
  refine Sp_of_V pf_X1_sum (Nat.le_of_ble_eq_true rfl) rfl ?_
  refine V_iconst (v := 0) dX1_sum_0 rfl ?_
  refine V_istore (L' := [(0, .ref (G.1 6)), (1, .int x1), (2, .int x2), (3, .int x3), (4, .int 0)]) dX1_sum_1 (by decide) rfl rfl ?_
  refine V_iconst (v := 0) dX1_sum_3 rfl ?_
  refine V_istore (L' := [(0, .ref (G.1 6)), (1, .int x1), (2, .int x2), (3, .int x3), (4, .int 0), (5, .int 0)]) dX1_sum_4 (by decide) rfl rfl ?_
  exact t
set_option maxRecDepth 20000 in
set_option maxHeartbeats 4000000 in
theorem s_Delays_sum_6 (G : GA) (h : HP) (x1 : Int32) (x2 : Int32) (x3 : Int32) (x4 : Int32) (x5 : Int32) (K : Int32 → HP → Prop) (t :
  if (h 6 4) ≤ x5 then (
    K x4 h
  ) else (
    vp_in x5 60 ∧
    if (h 7 (tn x5)) = x1 then (
      if (h 8 (tn x5)) = x2 then (
        if x3 < (h 9 (tn x5)) then (
          H_Delays_sum_6 G h x1 x2 x3 x4 (x5 + 1) K
        ) else (
          H_Delays_sum_6 G h x1 x2 x3 (x4 + (h 10 (tn x5))) (x5 + 1) K
        )
      ) else (
        H_Delays_sum_6 G h x1 x2 x3 x4 (x5 + 1) K
      )
    ) else (
      H_Delays_sum_6 G h x1 x2 x3 x4 (x5 + 1) K
    )
  )) : H_Delays_sum_6 G h x1 x2 x3 x4 x5 K := by
  unfold H_Delays_sum_6
  refine V_iload (q := 5) dX1_sum_6 rfl ?_
  refine V_aload_n (q := 0) dX1_sum_8 rfl rfl ?_
  refine V_geti f_X1_24 dX1_sum_9 rfl rfl ?_
  refine V_icmp_ge (tgt := 66) dX1_sum_12 (by decide) (fun q => ?_) (fun q => ?_)
  · have t := it_t q t
    refine V_iload (q := 4) dX1_sum_66 rfl ?_
    exact V_iret rfl dX1_sum_68 t
  · have t := it_f q t
    refine V_aload_n (q := 0) dX1_sum_15 rfl rfl ?_
    refine V_getr f_X1_9 dX1_sum_16 rfl rfl ?_
    refine V_iload (q := 5) dX1_sum_19 rfl ?_
    obtain ⟨n1, t⟩ := t
    refine V_iald dX1_sum_21 rfl n1 ?_
    refine V_iload_n (q := 1) dX1_sum_22 rfl rfl ?_
    refine V_icmp_ne (tgt := 60) dX1_sum_23 (by decide) (fun q => ?_) (fun q => ?_)
    · have t := it_f q t
      refine V_iinc (L' := [(0, .ref (G.1 6)), (1, .int x1), (2, .int x2), (3, .int x3), (4, .int x4), (5, .int (x5 + 1))]) (q := 5) (a := 1) dX1_sum_60 rfl rfl (by decide) rfl rfl ?_
      refine V_goto (tgt := 6) dX1_sum_63 (by decide) ?_
      exact t
    · have t := it_t q t
      refine V_aload_n (q := 0) dX1_sum_26 rfl rfl ?_
      refine V_getr f_X1_15 dX1_sum_27 rfl rfl ?_
      refine V_iload (q := 5) dX1_sum_30 rfl ?_
      refine V_iald dX1_sum_32 rfl n1 ?_
      refine V_iload_n (q := 2) dX1_sum_33 rfl rfl ?_
      refine V_icmp_ne (tgt := 60) dX1_sum_34 (by decide) (fun q => ?_) (fun q => ?_)
      · have t := it_f q t
        refine V_iinc (L' := [(0, .ref (G.1 6)), (1, .int x1), (2, .int x2), (3, .int x3), (4, .int x4), (5, .int (x5 + 1))]) (q := 5) (a := 1) dX1_sum_60 rfl rfl (by decide) rfl rfl ?_
        refine V_goto (tgt := 6) dX1_sum_63 (by decide) ?_
        exact t
      · have t := it_t q t
        refine V_aload_n (q := 0) dX1_sum_37 rfl rfl ?_
        refine V_getr f_X1_18 dX1_sum_38 rfl rfl ?_
        refine V_iload (q := 5) dX1_sum_41 rfl ?_
        refine V_iald dX1_sum_43 rfl n1 ?_
        refine V_iload_n (q := 3) dX1_sum_44 rfl rfl ?_
        refine V_icmp_gt (tgt := 60) dX1_sum_45 (by decide) (fun q => ?_) (fun q => ?_)
        · have t := it_t q t
          refine V_iinc (L' := [(0, .ref (G.1 6)), (1, .int x1), (2, .int x2), (3, .int x3), (4, .int x4), (5, .int (x5 + 1))]) (q := 5) (a := 1) dX1_sum_60 rfl rfl (by decide) rfl rfl ?_
          refine V_goto (tgt := 6) dX1_sum_63 (by decide) ?_
          exact t
        · have t := it_f q t
          refine V_iload (q := 4) dX1_sum_48 rfl ?_
          refine V_aload_n (q := 0) dX1_sum_50 rfl rfl ?_
          refine V_getr f_X1_21 dX1_sum_51 rfl rfl ?_
          refine V_iload (q := 5) dX1_sum_54 rfl ?_
          refine V_iald dX1_sum_56 rfl n1 ?_
          refine V_iadd dX1_sum_57 ?_
          refine V_istore (L' := [(0, .ref (G.1 6)), (1, .int x1), (2, .int x2), (3, .int x3), (4, .int (x4 + (h 10 (tn x5)))), (5, .int x5)]) dX1_sum_58 (by decide) rfl rfl ?_
          refine V_iinc (L' := [(0, .ref (G.1 6)), (1, .int x1), (2, .int x2), (3, .int x3), (4, .int (x4 + (h 10 (tn x5)))), (5, .int (x5 + 1))]) (q := 5) (a := 1) dX1_sum_60 rfl rfl (by decide) rfl rfl ?_
          refine V_goto (tgt := 6) dX1_sum_63 (by decide) ?_
          exact t
set_option maxRecDepth 20000 in
set_option maxHeartbeats 4000000 in
theorem s_Delays_tell_0 (G : GA) (h : HP) (x1 : Int32) (x2 : Int32) (x3 : Int32) (x4 : Int32) (K : Int32 → HP → Prop) (t :
  if (h 6 4) < 60 then (
    vp_in (h 6 4) 60 ∧
    ∀ h1 : HP, h1 = up h 7 (tn (h 6 4)) x1 →
    ∀ h3 : HP, h3 = up h1 8 (tn (h 6 4)) x2 →
    ∀ h4 : HP, h4 = up h3 9 (tn (h 6 4)) x3 →
    ∀ h5 : HP, h5 = up h4 10 (tn (h 6 4)) x4 →
    ∀ h6 : HP, h6 = up h5 6 4 ((h 6 4) + 1) →
    ∀ h7 : HP, h7 = up h6 6 5 ((h6 6 5) + x4) →
    P_Delays_sum G h7 x1 x2 x3 (fun (r9 : Int32) (h8 : HP) =>
      K r9 h8
    )
  ) else (
    K (-2) h
  )) : P_Delays_tell G h x1 x2 x3 x4 K := by
  refine Sp_of_V pf_X1_tell (Nat.le_of_ble_eq_true rfl) rfl ?_
  refine V_aload_n (q := 0) dX1_tell_0 rfl rfl ?_
  refine V_geti f_X1_24 dX1_tell_1 rfl rfl ?_
  refine V_bipush (v := 60) dX1_tell_4 rfl ?_
  refine V_icmp_lt (tgt := 12) dX1_tell_6 (by decide) (fun q => ?_) (fun q => ?_)
  · have t := it_t q t
    refine V_aload_n (q := 0) dX1_tell_12 rfl rfl ?_
    refine V_getr f_X1_9 dX1_tell_13 rfl rfl ?_
    refine V_aload_n (q := 0) dX1_tell_16 rfl rfl ?_
    refine V_geti f_X1_24 dX1_tell_17 rfl rfl ?_
    refine V_iload_n (q := 1) dX1_tell_20 rfl rfl ?_
    obtain ⟨n2, t⟩ := t
    have t := t _ rfl
    refine V_iast dX1_tell_21 rfl n2 ?_
    refine V_aload_n (q := 0) dX1_tell_22 rfl rfl ?_
    refine V_getr f_X1_15 dX1_tell_23 rfl rfl ?_
    refine V_aload_n (q := 0) dX1_tell_26 rfl rfl ?_
    refine V_geti f_X1_24 dX1_tell_27 rfl rfl ?_
    refine V_iload_n (q := 2) dX1_tell_30 rfl rfl ?_
    have t := t _ rfl
    refine V_iast dX1_tell_31 rfl n2 ?_
    refine V_aload_n (q := 0) dX1_tell_32 rfl rfl ?_
    refine V_getr f_X1_18 dX1_tell_33 rfl rfl ?_
    refine V_aload_n (q := 0) dX1_tell_36 rfl rfl ?_
    refine V_geti f_X1_24 dX1_tell_37 rfl rfl ?_
    refine V_iload_n (q := 3) dX1_tell_40 rfl rfl ?_
    have t := t _ rfl
    refine V_iast dX1_tell_41 rfl n2 ?_
    refine V_aload_n (q := 0) dX1_tell_42 rfl rfl ?_
    refine V_getr f_X1_21 dX1_tell_43 rfl rfl ?_
    refine V_aload_n (q := 0) dX1_tell_46 rfl rfl ?_
    refine V_geti f_X1_24 dX1_tell_47 rfl rfl ?_
    refine V_iload (q := 4) dX1_tell_50 rfl ?_
    have t := t _ rfl
    refine V_iast dX1_tell_52 rfl n2 ?_
    refine V_aload_n (q := 0) dX1_tell_53 rfl rfl ?_
    refine V_dup dX1_tell_54 rfl ?_
    refine V_geti f_X1_24 dX1_tell_55 rfl rfl ?_
    refine V_iconst (v := 1) dX1_tell_58 rfl ?_
    refine V_iadd dX1_tell_59 ?_
    have t := t _ rfl
    refine V_put f_X1_24 p_X1_4 dX1_tell_60 rfl rfl ?_
    refine V_aload_n (q := 0) dX1_tell_63 rfl rfl ?_
    refine V_dup dX1_tell_64 rfl ?_
    refine V_geti f_X1_28 dX1_tell_65 rfl rfl ?_
    refine V_iload (q := 4) dX1_tell_68 rfl ?_
    refine V_iadd dX1_tell_70 ?_
    have t := t _ rfl
    refine V_put f_X1_28 p_X1_5 dX1_tell_71 rfl rfl ?_
    refine V_aload_n (q := 0) dX1_tell_74 rfl rfl ?_
    refine V_iload_n (q := 1) dX1_tell_75 rfl rfl ?_
    refine V_iload_n (q := 2) dX1_tell_76 rfl rfl ?_
    refine V_iload_n (q := 3) dX1_tell_77 rfl rfl ?_
    refine V_callV [.int x1, .int x2, .int x3] [] g_X1_tell_X1_sum wi_X1_sum ws_X1_sum dX1_tell_78 rfl rfl rfl rfl rfl (Nat.le_of_ble_eq_true rfl) t (fun _ h8 t => ?_)
    obtain ⟨r9, rfl, t⟩ := t
    exact V_iret rfl dX1_tell_81 t
  · have t := it_f q t
    refine V_bipush (v := (-2)) dX1_tell_9 rfl ?_
    exact V_iret rfl dX1_tell_11 t
set_option maxRecDepth 20000 in
set_option maxHeartbeats 4000000 in
theorem s_Desk_late_0 (G : GA) (h : HP) (x1 : Int32) (x2 : Int32) (x3 : Int32) (x4 : Int32) (K : Int32 → HP → Prop) (t :
  P_Trips_hasCall G h x1 x3 (fun (b2 : Bool) (h1 : HP) =>
    if b2 = true then (
      P_Desk_isDay G h1 x2 (fun (b4 : Bool) (h3 : HP) =>
        if b4 = true then (
          P_Desk_between G h3 x4 1 240 (fun (b6 : Bool) (h5 : HP) =>
            if b6 = true then (
              P_Delays_tell G h5 x1 x2 x3 x4 (fun (r8 : Int32) (h7 : HP) =>
                K r8 h7
              )
            ) else (
              K (-2) h5
            )
          )
        ) else (
          K (-2) h3
        )
      )
    ) else (
      K (-2) h1
    )
  )) : P_Desk_late G h x1 x2 x3 x4 K := by
  refine Sp_of_V pf_X11_late (Nat.le_of_ble_eq_true rfl) rfl ?_
  refine V_aload_n (q := 0) dX11_late_0 rfl rfl ?_
  refine V_getr f_X11_19 dX11_late_1 rfl rfl ?_
  refine V_iload_n (q := 1) dX11_late_4 rfl rfl ?_
  refine V_iload_n (q := 3) dX11_late_5 rfl rfl ?_
  refine V_callV [.int x1, .int x3] [] g_X11_late_X9_hasCall wi_X9_hasCall ws_X9_hasCall dX11_late_6 rfl rfl rfl rfl rfl (Nat.le_of_ble_eq_true rfl) t (fun _ h1 t => ?_)
  obtain ⟨b2, rfl, t⟩ := t
  refine V_ifb_eq (tgt := 31) dX11_late_9 (by decide) (fun q => ?_) (fun q => ?_)
  · have t := it_f q t
    refine V_bipush (v := (-2)) dX11_late_31 rfl ?_
    exact V_iret rfl dX11_late_33 t
  · have t := it_t q t
    refine V_iload_n (q := 2) dX11_late_12 rfl rfl ?_
    refine V_callS [.int x2] [] g_X11_late_X11_isDay wt_X11_isDay dX11_late_13 rfl rfl (Nat.le_of_ble_eq_true rfl) t (fun _ h3 t => ?_)
    obtain ⟨b4, rfl, t⟩ := t
    refine V_ifb_eq (tgt := 31) dX11_late_16 (by decide) (fun q => ?_) (fun q => ?_)
    · have t := it_f q t
      refine V_bipush (v := (-2)) dX11_late_31 rfl ?_
      exact V_iret rfl dX11_late_33 t
    · have t := it_t q t
      refine V_iload (q := 4) dX11_late_19 rfl ?_
      refine V_iconst (v := 1) dX11_late_21 rfl ?_
      refine V_sipush (v := 240) dX11_late_22 rfl ?_
      refine V_callS [.int x4, .int 1, .int 240] [] g_X11_late_X11_between wt_X11_between dX11_late_25 rfl rfl (Nat.le_of_ble_eq_true rfl) t (fun _ h5 t => ?_)
      obtain ⟨b6, rfl, t⟩ := t
      refine V_ifb_ne (tgt := 34) dX11_late_28 (by decide) (fun q => ?_) (fun q => ?_)
      · have t := it_t q t
        refine V_aload_n (q := 0) dX11_late_34 rfl rfl ?_
        refine V_getr f_X11_19 dX11_late_35 rfl rfl ?_
        refine V_getr f_X11_144 dX11_late_38 rfl rfl ?_
        refine V_iload_n (q := 1) dX11_late_41 rfl rfl ?_
        refine V_iload_n (q := 2) dX11_late_42 rfl rfl ?_
        refine V_iload_n (q := 3) dX11_late_43 rfl rfl ?_
        refine V_iload (q := 4) dX11_late_44 rfl ?_
        refine V_callV [.int x1, .int x2, .int x3, .int x4] [] g_X11_late_X1_tell wi_X1_tell ws_X1_tell dX11_late_46 rfl rfl rfl rfl rfl (Nat.le_of_ble_eq_true rfl) t (fun _ h7 t => ?_)
        obtain ⟨r8, rfl, t⟩ := t
        exact V_iret rfl dX11_late_49 t
      · have t := it_f q t
        refine V_bipush (v := (-2)) dX11_late_31 rfl ?_
        exact V_iret rfl dX11_late_33 t
set_option maxRecDepth 20000 in
set_option maxHeartbeats 4000000 in
theorem s_Trips_setGone_0 (G : GA) (h : HP) (x1 : Int32) (x2 : Int32) (x3 : Bool) (K : Int32 → HP → Prop) (t :
  vp_in x2 100 ∧
  if x3 = true then (
    ∀ h2 : HP, h2 = up h 21 (tn x2) ((h 21 (tn x2)) ||| (1 <<< (x1 &&& 31))) →
    K (((h 21 (tn x2)) >>> (x1 &&& 31)) &&& 1) h2
  ) else (
    ∀ h3 : HP, h3 = up h 21 (tn x2) ((h 21 (tn x2)) &&& ((1 <<< (x1 &&& 31)) ^^^ (-1))) →
    K (((h 21 (tn x2)) >>> (x1 &&& 31)) &&& 1) h3
  )) : P_Trips_setGone G h x1 x2 x3 K := by
  refine Sp_of_V pf_X9_setGone (Nat.le_of_ble_eq_true rfl) rfl ?_
  refine V_aload_n (q := 0) dX9_setGone_0 rfl rfl ?_
  refine V_getr f_X9_39 dX9_setGone_1 rfl rfl ?_
  refine V_iload_n (q := 2) dX9_setGone_4 rfl rfl ?_
  obtain ⟨n1, t⟩ := t
  refine V_iald dX9_setGone_5 rfl n1 ?_
  refine V_iload_n (q := 1) dX9_setGone_6 rfl rfl ?_
  refine V_ishr dX9_setGone_7 ?_
  refine V_iconst (v := 1) dX9_setGone_8 rfl ?_
  refine V_iand dX9_setGone_9 ?_
  refine V_istore (L' := [(0, .ref (G.1 11)), (1, .int x1), (2, .int x2), (3, .int (b2i x3)), (4, .int (((h 21 (tn x2)) >>> (x1 &&& 31)) &&& 1))]) dX9_setGone_10 (by decide) rfl rfl ?_
  refine V_aload_n (q := 0) dX9_setGone_12 rfl rfl ?_
  refine V_getr f_X9_39 dX9_setGone_13 rfl rfl ?_
  refine V_iload_n (q := 2) dX9_setGone_16 rfl rfl ?_
  refine V_iload_n (q := 3) dX9_setGone_17 rfl rfl ?_
  refine V_ifb_eq (tgt := 34) dX9_setGone_18 (by decide) (fun q => ?_) (fun q => ?_)
  · have t := it_f q t
    refine V_aload_n (q := 0) dX9_setGone_34 rfl rfl ?_
    refine V_getr f_X9_39 dX9_setGone_35 rfl rfl ?_
    refine V_iload_n (q := 2) dX9_setGone_38 rfl rfl ?_
    refine V_iald dX9_setGone_39 rfl n1 ?_
    refine V_iconst (v := 1) dX9_setGone_40 rfl ?_
    refine V_iload_n (q := 1) dX9_setGone_41 rfl rfl ?_
    refine V_ishl dX9_setGone_42 ?_
    refine V_iconst (v := (-1)) dX9_setGone_43 rfl ?_
    refine V_ixor dX9_setGone_44 ?_
    refine V_iand dX9_setGone_45 ?_
    have t := t _ rfl
    refine V_iast dX9_setGone_46 rfl n1 ?_
    refine V_iload (q := 4) dX9_setGone_47 rfl ?_
    exact V_iret rfl dX9_setGone_49 t
  · have t := it_t q t
    refine V_aload_n (q := 0) dX9_setGone_21 rfl rfl ?_
    refine V_getr f_X9_39 dX9_setGone_22 rfl rfl ?_
    refine V_iload_n (q := 2) dX9_setGone_25 rfl rfl ?_
    refine V_iald dX9_setGone_26 rfl n1 ?_
    refine V_iconst (v := 1) dX9_setGone_27 rfl ?_
    refine V_iload_n (q := 1) dX9_setGone_28 rfl rfl ?_
    refine V_ishl dX9_setGone_29 ?_
    refine V_ior dX9_setGone_30 ?_
    refine V_goto (tgt := 46) dX9_setGone_31 (by decide) ?_
    have t := t _ rfl
    refine V_iast dX9_setGone_46 rfl n1 ?_
    refine V_iload (q := 4) dX9_setGone_47 rfl ?_
    exact V_iret rfl dX9_setGone_49 t
set_option maxRecDepth 20000 in
set_option maxHeartbeats 4000000 in
theorem s_Desk_gone_0 (G : GA) (h : HP) (x1 : Int32) (x2 : Int32) (x3 : Bool) (K : Int32 → HP → Prop) (t :
  P_Trips_has G h x1 (fun (b2 : Bool) (h1 : HP) =>
    if b2 = true then (
      P_Desk_isDay G h1 x2 (fun (b4 : Bool) (h3 : HP) =>
        if b4 = true then (
          P_Trips_setGone G h3 x1 x2 x3 (fun (r6 : Int32) (h5 : HP) =>
            K r6 h5
          )
        ) else (
          K (-2) h3
        )
      )
    ) else (
      K (-2) h1
    )
  )) : P_Desk_gone G h x1 x2 x3 K := by
  refine Sp_of_V pf_X11_gone (Nat.le_of_ble_eq_true rfl) rfl ?_
  refine V_aload_n (q := 0) dX11_gone_0 rfl rfl ?_
  refine V_getr f_X11_19 dX11_gone_1 rfl rfl ?_
  refine V_iload_n (q := 1) dX11_gone_4 rfl rfl ?_
  refine V_callV [.int x1] [] g_X11_gone_X9_has wi_X9_has ws_X9_has dX11_gone_5 rfl rfl rfl rfl rfl (Nat.le_of_ble_eq_true rfl) t (fun _ h1 t => ?_)
  obtain ⟨b2, rfl, t⟩ := t
  refine V_ifb_eq (tgt := 31) dX11_gone_8 (by decide) (fun q => ?_) (fun q => ?_)
  · have t := it_f q t
    refine V_bipush (v := (-2)) dX11_gone_31 rfl ?_
    exact V_iret rfl dX11_gone_33 t
  · have t := it_t q t
    refine V_iload_n (q := 2) dX11_gone_11 rfl rfl ?_
    refine V_callS [.int x2] [] g_X11_gone_X11_isDay wt_X11_isDay dX11_gone_12 rfl rfl (Nat.le_of_ble_eq_true rfl) t (fun _ h3 t => ?_)
    obtain ⟨b4, rfl, t⟩ := t
    refine V_ifb_eq (tgt := 31) dX11_gone_15 (by decide) (fun q => ?_) (fun q => ?_)
    · have t := it_f q t
      refine V_bipush (v := (-2)) dX11_gone_31 rfl ?_
      exact V_iret rfl dX11_gone_33 t
    · have t := it_t q t
      refine V_aload_n (q := 0) dX11_gone_18 rfl rfl ?_
      refine V_getr f_X11_19 dX11_gone_19 rfl rfl ?_
      refine V_iload_n (q := 1) dX11_gone_22 rfl rfl ?_
      refine V_iload_n (q := 2) dX11_gone_23 rfl rfl ?_
      refine V_iload_n (q := 3) dX11_gone_24 rfl rfl ?_
      refine V_callV [.int x1, .int x2, .int (b2i x3)] [] g_X11_gone_X9_setGone wi_X9_setGone ws_X9_setGone dX11_gone_25 rfl rfl rfl rfl rfl (Nat.le_of_ble_eq_true rfl) t (fun _ h5 t => ?_)
      obtain ⟨r6, rfl, t⟩ := t
      refine V_goto (tgt := 33) dX11_gone_28 (by decide) ?_
      exact V_iret rfl dX11_gone_33 t
set_option maxRecDepth 20000 in
set_option maxHeartbeats 4000000 in
theorem s_Arr_fill_57_0 (G : GA) (h : HP) (x1 : Int32) (K : HP → Prop) (t :
  H_Arr_fill_57_5 G h x1 0 28 K) : P_Arr_fill_57 G h x1 K := by
  refine Sp_of_V pf_J7_fill_53178 (Nat.le_of_ble_eq_true rfl) rfl ?_
  refine V_iconst (v := 0) dJ7_fill_53178_0 rfl ?_
  refine V_istore_n (L' := [(0, .ref (G.1 57)), (1, .int x1), (2, .int 0)]) dJ7_fill_53178_1 rfl (by decide) rfl rfl ?_
  refine V_aload_n (q := 0) dJ7_fill_53178_2 rfl rfl ?_
  refine V_alen (v := 28) dJ7_fill_53178_3 rfl rfl ?_
  refine V_istore_n (L' := [(0, .ref (G.1 57)), (1, .int x1), (2, .int 0), (3, .int 28)]) dJ7_fill_53178_4 rfl (by decide) rfl rfl ?_
  exact t
set_option maxRecDepth 20000 in
set_option maxHeartbeats 4000000 in
theorem s_Arr_fill_57_5 (G : GA) (h : HP) (x1 : Int32) (x2 : Int32) (x3 : Int32) (K : HP → Prop) (t :
  if x3 ≤ x2 then (
    K h
  ) else (
    vp_in x2 28 ∧
    ∀ h1 : HP, h1 = up h 57 (tn x2) x1 →
    H_Arr_fill_57_5 G h1 x1 (x2 + 1) x3 K
  )) : H_Arr_fill_57_5 G h x1 x2 x3 K := by
  unfold H_Arr_fill_57_5
  refine V_iload_n (q := 2) dJ7_fill_53178_5 rfl rfl ?_
  refine V_iload_n (q := 3) dJ7_fill_53178_6 rfl rfl ?_
  refine V_icmp_ge (tgt := 20) dJ7_fill_53178_7 (by decide) (fun q => ?_) (fun q => ?_)
  · have t := it_t q t
    exact V_vret rfl dJ7_fill_53178_20 t
  · have t := it_f q t
    refine V_aload_n (q := 0) dJ7_fill_53178_10 rfl rfl ?_
    refine V_iload_n (q := 2) dJ7_fill_53178_11 rfl rfl ?_
    refine V_iload_n (q := 1) dJ7_fill_53178_12 rfl rfl ?_
    obtain ⟨n2, t⟩ := t
    have t := t _ rfl
    refine V_iast dJ7_fill_53178_13 rfl n2 ?_
    refine V_iinc (L' := [(0, .ref (G.1 57)), (1, .int x1), (2, .int (x2 + 1)), (3, .int x3)]) (q := 2) (a := 1) dJ7_fill_53178_14 rfl rfl (by decide) rfl rfl ?_
    refine V_goto (tgt := 5) dJ7_fill_53178_17 (by decide) ?_
    exact t
set_option maxRecDepth 20000 in
set_option maxHeartbeats 4000000 in
theorem s_Found_isUnbeaten_0 (G : GA) (h : HP) (x1 : Int32) (x2 : Int32) (K : Bool → HP → Prop) (t :
  vp_in x1 28 ∧
  if x2 < (h 57 (tn x1)) then (
    H_Found_isUnbeaten_14 G h x2 x1 K
  ) else (
    K false h
  )) : P_Found_isUnbeaten G h x1 x2 K := by
  refine Sp_of_V pf_X2_isUnbeaten (Nat.le_of_ble_eq_true rfl) rfl ?_
  refine V_iload_n (q := 2) dX2_isUnbeaten_0 rfl rfl ?_
  refine V_aload_n (q := 0) dX2_isUnbeaten_1 rfl rfl ?_
  refine V_getr f_X2_27 dX2_isUnbeaten_2 rfl rfl ?_
  refine V_iload_n (q := 1) dX2_isUnbeaten_5 rfl rfl ?_
  obtain ⟨n1, t⟩ := t
  refine V_iald dX2_isUnbeaten_6 rfl n1 ?_
  refine V_icmp_lt (tgt := 12) dX2_isUnbeaten_7 (by decide) (fun q => ?_) (fun q => ?_)
  · have t := it_t q t
    refine V_iload_n (q := 1) dX2_isUnbeaten_12 rfl rfl ?_
    refine V_istore_n (L' := [(0, .ref (G.1 54)), (1, .int x1), (2, .int x2), (3, .int x1)]) dX2_isUnbeaten_13 rfl (by decide) rfl rfl ?_
    refine V_pick (L' := [(0, .ref (G.1 54)), (2, .int x2), (3, .int x1)]) [0, 2, 3] rfl ?_
    exact t
  · have t := it_f q t
    refine V_iconst (v := 0) dX2_isUnbeaten_10 rfl ?_
    exact V_zret (b := false) rfl dX2_isUnbeaten_11 t
set_option maxRecDepth 20000 in
set_option maxHeartbeats 4000000 in
theorem s_Found_isUnbeaten_14 (G : GA) (h : HP) (x2 : Int32) (x3 : Int32) (K : Bool → HP → Prop) (t :
  if 28 ≤ x3 then (
    K true h
  ) else (
    vp_in x3 28 ∧
    ∀ h2 : HP, h2 = up h 57 (tn x3) (if x2 < (h 57 (tn x3)) then x2 else (h 57 (tn x3))) →
    H_Found_isUnbeaten_14 G h2 x2 (x3 + 1) K
  )) : H_Found_isUnbeaten_14 G h x2 x3 K := by
  unfold H_Found_isUnbeaten_14
  refine V_iload_n (q := 2) dX2_isUnbeaten_14 rfl rfl ?_
  refine V_bipush (v := 28) dX2_isUnbeaten_15 rfl ?_
  refine V_icmp_ge (tgt := 42) dX2_isUnbeaten_17 (by decide) (fun q => ?_) (fun q => ?_)
  · have t := it_t q t
    refine V_iconst (v := 1) dX2_isUnbeaten_42 rfl ?_
    exact V_zret (b := true) rfl dX2_isUnbeaten_43 t
  · have t := it_f q t
    refine V_aload_n (q := 0) dX2_isUnbeaten_20 rfl rfl ?_
    refine V_getr f_X2_27 dX2_isUnbeaten_21 rfl rfl ?_
    refine V_iload_n (q := 2) dX2_isUnbeaten_24 rfl rfl ?_
    refine V_aload_n (q := 0) dX2_isUnbeaten_25 rfl rfl ?_
    refine V_getr f_X2_27 dX2_isUnbeaten_26 rfl rfl ?_
    refine V_iload_n (q := 2) dX2_isUnbeaten_29 rfl rfl ?_
    obtain ⟨n1, t⟩ := t
    refine V_iald dX2_isUnbeaten_30 rfl n1 ?_
    refine V_iload_n (q := 1) dX2_isUnbeaten_31 rfl rfl ?_
    refine V_mmin l_X2_104 w_static_min w_init_math w_code_min (Nat.le_of_ble_eq_true rfl) (Nat.le_of_ble_eq_true rfl) dX2_isUnbeaten_32 ?_
    have t := t _ rfl
    refine V_iast dX2_isUnbeaten_35 rfl n1 ?_
    refine V_iinc (L' := [(0, .ref (G.1 54)), (2, .int x2), (3, .int (x3 + 1))]) (q := 2) (a := 1) dX2_isUnbeaten_36 rfl rfl (by decide) rfl rfl ?_
    refine V_goto (tgt := 14) dX2_isUnbeaten_39 (by decide) ?_
    exact t
set_option maxRecDepth 20000 in
set_option maxHeartbeats 4000000 in
theorem s_Trips_isOpen_0 (G : GA) (h : HP) (x1 : Int32) (x2 : Int32) (K : Bool → HP → Prop) (t :
  vp_in x1 24 ∧
  if (((h 16 (tn x1)) >>> (x2 &&& 31)) &&& 1) = 0 then (
    K true h
  ) else (
    K false h
  )) : P_Trips_isOpen G h x1 x2 K := by
  refine Sp_of_V pf_X9_isOpen (Nat.le_of_ble_eq_true rfl) rfl ?_
  refine V_aload_n (q := 0) dX9_isOpen_0 rfl rfl ?_
  refine V_getr f_X9_24 dX9_isOpen_1 rfl rfl ?_
  refine V_iload_n (q := 1) dX9_isOpen_4 rfl rfl ?_
  obtain ⟨n1, t⟩ := t
  refine V_iald dX9_isOpen_5 rfl n1 ?_
  refine V_iload_n (q := 2) dX9_isOpen_6 rfl rfl ?_
  refine V_ishr dX9_isOpen_7 ?_
  refine V_iconst (v := 1) dX9_isOpen_8 rfl ?_
  refine V_iand dX9_isOpen_9 ?_
  refine V_if_ne (tgt := 17) dX9_isOpen_10 (by decide) (fun q => ?_) (fun q => ?_)
  · have t := it_f q t
    refine V_iconst (v := 0) dX9_isOpen_17 rfl ?_
    exact V_zret (b := false) rfl dX9_isOpen_18 t
  · have t := it_t q t
    refine V_iconst (v := 1) dX9_isOpen_13 rfl ?_
    refine V_goto (tgt := 18) dX9_isOpen_14 (by decide) ?_
    exact V_zret (b := true) rfl dX9_isOpen_18 t
set_option maxRecDepth 20000 in
set_option maxHeartbeats 4000000 in
theorem s_Walks_nextBeginning_0 (G : GA) (h : HP) (x1 : Int32) (x2 : Int32) (K : Int32 → HP → Prop) (t :
  vp_in x1 20 ∧
  if (h 27 (tn x1)) < (x2 - x2 / 1440 * 1440) then (
    if 1 ≤ (h 29 (tn x1)) then (
      H_Walks_nextBeginning_53 G h x1 (x2 - x2 / 1440 * 1440) (x2 - (x2 - x2 / 1440 * 1440)) (h 29 (tn x1)) K
    ) else (
      H_Walks_nextBeginning_53 G h x1 (x2 - x2 / 1440 * 1440) (x2 - (x2 - x2 / 1440 * 1440)) 1440 K
    )
  ) else (
    K ((x2 - (x2 - x2 / 1440 * 1440)) + (h 27 (tn x1))) h
  )) : P_Walks_nextBeginning G h x1 x2 K := by
  refine Sp_of_V pf_X10_nextBeginning (Nat.le_of_ble_eq_true rfl) rfl ?_
  refine V_iload_n (q := 2) dX10_nextBeginning_0 rfl rfl ?_
  refine V_sipush (v := 1440) dX10_nextBeginning_1 rfl ?_
  refine V_irem dX10_nextBeginning_4 (by decide) ?_
  refine V_istore_n (L' := [(0, .ref (G.1 22)), (1, .int x1), (2, .int x2), (3, .int (x2 - x2 / 1440 * 1440))]) dX10_nextBeginning_5 rfl (by decide) rfl rfl ?_
  refine V_iload_n (q := 2) dX10_nextBeginning_6 rfl rfl ?_
  refine V_iload_n (q := 3) dX10_nextBeginning_7 rfl rfl ?_
  refine V_isub dX10_nextBeginning_8 ?_
  refine V_istore (L' := [(0, .ref (G.1 22)), (1, .int x1), (2, .int x2), (3, .int (x2 - x2 / 1440 * 1440)), (4, .int (x2 - (x2 - x2 / 1440 * 1440)))]) dX10_nextBeginning_9 (by decide) rfl rfl ?_
  refine V_iload_n (q := 3) dX10_nextBeginning_11 rfl rfl ?_
  refine V_aload_n (q := 0) dX10_nextBeginning_12 rfl rfl ?_
  refine V_getr f_X10_24 dX10_nextBeginning_13 rfl rfl ?_
  refine V_iload_n (q := 1) dX10_nextBeginning_16 rfl rfl ?_
  obtain ⟨n1, t⟩ := t
  refine V_iald dX10_nextBeginning_17 rfl n1 ?_
  refine V_icmp_gt (tgt := 31) dX10_nextBeginning_18 (by decide) (fun q => ?_) (fun q => ?_)
  · have t := it_t q t
    refine V_aload_n (q := 0) dX10_nextBeginning_31 rfl rfl ?_
    refine V_getr f_X10_30 dX10_nextBeginning_32 rfl rfl ?_
    refine V_iload_n (q := 1) dX10_nextBeginning_35 rfl rfl ?_
    refine V_iald dX10_nextBeginning_36 rfl n1 ?_
    refine V_iconst (v := 1) dX10_nextBeginning_37 rfl ?_
    refine V_icmp_ge (tgt := 47) dX10_nextBeginning_38 (by decide) (fun q => ?_) (fun q => ?_)
    · have t := it_t q t
      refine V_aload_n (q := 0) dX10_nextBeginning_47 rfl rfl ?_
      refine V_getr f_X10_30 dX10_nextBeginning_48 rfl rfl ?_
      refine V_iload_n (q := 1) dX10_nextBeginning_51 rfl rfl ?_
      refine V_iald dX10_nextBeginning_52 rfl n1 ?_
      refine V_pick (L' := [(0, .ref (G.1 22)), (1, .int x1), (3, .int (x2 - x2 / 1440 * 1440)), (4, .int (x2 - (x2 - x2 / 1440 * 1440)))]) [0, 1, 3, 4] rfl ?_
      exact t
    · have t := it_f q t
      refine V_sipush (v := 1440) dX10_nextBeginning_41 rfl ?_
      refine V_goto (tgt := 53) dX10_nextBeginning_44 (by decide) ?_
      refine V_pick (L' := [(0, .ref (G.1 22)), (1, .int x1), (3, .int (x2 - x2 / 1440 * 1440)), (4, .int (x2 - (x2 - x2 / 1440 * 1440)))]) [0, 1, 3, 4] rfl ?_
      exact t
  · have t := it_f q t
    refine V_iload (q := 4) dX10_nextBeginning_21 rfl ?_
    refine V_aload_n (q := 0) dX10_nextBeginning_23 rfl rfl ?_
    refine V_getr f_X10_24 dX10_nextBeginning_24 rfl rfl ?_
    refine V_iload_n (q := 1) dX10_nextBeginning_27 rfl rfl ?_
    refine V_iald dX10_nextBeginning_28 rfl n1 ?_
    refine V_iadd dX10_nextBeginning_29 ?_
    exact V_iret rfl dX10_nextBeginning_30 t
set_option maxRecDepth 20000 in
set_option maxHeartbeats 4000000 in
theorem s_Walks_nextBeginning_53 (G : GA) (h : HP) (x1 : Int32) (x3 : Int32) (x4 : Int32) (y0 : Int32) (K : Int32 → HP → Prop) (t :
  vp_in x1 20 ∧
  ¬ y0 = 0 ∧
  ∀ v2 : Int32, v2 = ((h 27 (tn x1)) + (((((x3 - (h 27 (tn x1))) + y0) - 1) / y0) * y0)) →
  if (h 28 (tn x1)) < v2 then (
    K ((x4 + 1440) + (h 27 (tn x1))) h
  ) else (
    K (x4 + v2) h
  )) : H_Walks_nextBeginning_53 G h x1 x3 x4 y0 K := by
  unfold H_Walks_nextBeginning_53
  refine V_istore (L' := [(0, .ref (G.1 22)), (1, .int x1), (3, .int x3), (4, .int x4), (5, .int y0)]) dX10_nextBeginning_53 (by decide) rfl rfl ?_
  refine V_aload_n (q := 0) dX10_nextBeginning_55 rfl rfl ?_
  refine V_getr f_X10_24 dX10_nextBeginning_56 rfl rfl ?_
  refine V_iload_n (q := 1) dX10_nextBeginning_59 rfl rfl ?_
  obtain ⟨n1, t⟩ := t
  refine V_iald dX10_nextBeginning_60 rfl n1 ?_
  refine V_iload_n (q := 2) dX10_nextBeginning_61 rfl rfl ?_
  refine V_aload_n (q := 0) dX10_nextBeginning_62 rfl rfl ?_
  refine V_getr f_X10_24 dX10_nextBeginning_63 rfl rfl ?_
  refine V_iload_n (q := 1) dX10_nextBeginning_66 rfl rfl ?_
  refine V_iald dX10_nextBeginning_67 rfl n1 ?_
  refine V_isub dX10_nextBeginning_68 ?_
  refine V_iload (q := 4) dX10_nextBeginning_69 rfl ?_
  refine V_iadd dX10_nextBeginning_71 ?_
  refine V_iconst (v := 1) dX10_nextBeginning_72 rfl ?_
  refine V_isub dX10_nextBeginning_73 ?_
  refine V_iload (q := 4) dX10_nextBeginning_74 rfl ?_
  obtain ⟨t0, t⟩ := t
  refine V_idiv dX10_nextBeginning_76 t0 ?_
  refine V_iload (q := 4) dX10_nextBeginning_77 rfl ?_
  refine V_imul dX10_nextBeginning_79 ?_
  refine V_iadd dX10_nextBeginning_80 ?_
  have t := t _ rfl
  refine V_istore (L' := [(0, .ref (G.1 22)), (1, .int x1), (3, .int x3), (4, .int x4), (5, .int y0), (6, .int ((h 27 (tn x1)) + (((((x3 - (h 27 (tn x1))) + y0) - 1) / y0) * y0)))]) dX10_nextBeginning_81 (by decide) rfl rfl ?_
  refine V_iload (q := 5) dX10_nextBeginning_83 rfl ?_
  refine V_aload_n (q := 0) dX10_nextBeginning_85 rfl rfl ?_
  refine V_getr f_X10_27 dX10_nextBeginning_86 rfl rfl ?_
  refine V_iload_n (q := 1) dX10_nextBeginning_89 rfl rfl ?_
  refine V_iald dX10_nextBeginning_90 rfl n1 ?_
  refine V_icmp_gt (tgt := 102) dX10_nextBeginning_91 (by decide) (fun q => ?_) (fun q => ?_)
  · have t := it_t q t
    refine V_iload (q := 3) dX10_nextBeginning_102 rfl ?_
    refine V_sipush (v := 1440) dX10_nextBeginning_104 rfl ?_
    refine V_iadd dX10_nextBeginning_107 ?_
    refine V_aload_n (q := 0) dX10_nextBeginning_108 rfl rfl ?_
    refine V_getr f_X10_24 dX10_nextBeginning_109 rfl rfl ?_
    refine V_iload_n (q := 1) dX10_nextBeginning_112 rfl rfl ?_
    refine V_iald dX10_nextBeginning_113 rfl n1 ?_
    refine V_iadd dX10_nextBeginning_114 ?_
    exact V_iret rfl dX10_nextBeginning_115 t
  · have t := it_f q t
    refine V_iload (q := 3) dX10_nextBeginning_94 rfl ?_
    refine V_iload (q := 5) dX10_nextBeginning_96 rfl ?_
    refine V_iadd dX10_nextBeginning_98 ?_
    refine V_goto (tgt := 115) dX10_nextBeginning_99 (by decide) ?_
    exact V_iret rfl dX10_nextBeginning_115 t
set_option maxRecDepth 20000 in
set_option maxHeartbeats 4000000 in
theorem s_Walks_beginsAt_0 (G : GA) (h : HP) (x1 : Int32) (x2 : Int32) (x3 : Int32) (K : Int32 → HP → Prop) (t :
  vp_in x1 20 ∧
  if (h 26 (tn x1)) = 3 then (
    K x2 h
  ) else (
    if (h 26 (tn x1)) = 5 then (
      if (x3 + (h 30 (tn x1))) ≤ x2 then (
        H_Walks_beginsAt_38 G h x1 x2 x3 K
      ) else (
        H_Walks_beginsAt_39 G h x1 x2 x3 1 K
      )
    ) else (
      H_Walks_beginsAt_38 G h x1 x2 x3 K
    )
  )) : P_Walks_beginsAt G h x1 x2 x3 K := by
  refine Sp_of_V pf_X10_beginsAt (Nat.le_of_ble_eq_true rfl) rfl ?_
  refine V_aload_n (q := 0) dX10_beginsAt_0 rfl rfl ?_
  refine V_getr f_X10_21 dX10_beginsAt_1 rfl rfl ?_
  refine V_iload_n (q := 1) dX10_beginsAt_4 rfl rfl ?_
  obtain ⟨n1, t⟩ := t
  refine V_iald dX10_beginsAt_5 rfl n1 ?_
  refine V_iconst (v := 3) dX10_beginsAt_6 rfl ?_
  refine V_icmp_ne (tgt := 12) dX10_beginsAt_7 (by decide) (fun q => ?_) (fun q => ?_)
  · have t := it_f q t
    refine V_aload_n (q := 0) dX10_beginsAt_12 rfl rfl ?_
    refine V_getr f_X10_21 dX10_beginsAt_13 rfl rfl ?_
    refine V_iload_n (q := 1) dX10_beginsAt_16 rfl rfl ?_
    refine V_iald dX10_beginsAt_17 rfl n1 ?_
    refine V_iconst (v := 5) dX10_beginsAt_18 rfl ?_
    refine V_icmp_ne (tgt := 38) dX10_beginsAt_19 (by decide) (fun q => ?_) (fun q => ?_)
    · have t := it_f q t
      exact t
    · have t := it_t q t
      refine V_iload_n (q := 2) dX10_beginsAt_22 rfl rfl ?_
      refine V_iload_n (q := 3) dX10_beginsAt_23 rfl rfl ?_
      refine V_aload_n (q := 0) dX10_beginsAt_24 rfl rfl ?_
      refine V_getr f_X10_33 dX10_beginsAt_25 rfl rfl ?_
      refine V_iload_n (q := 1) dX10_beginsAt_28 rfl rfl ?_
      refine V_iald dX10_beginsAt_29 rfl n1 ?_
      refine V_iadd dX10_beginsAt_30 ?_
      refine V_icmp_ge (tgt := 38) dX10_beginsAt_31 (by decide) (fun q => ?_) (fun q => ?_)
      · have t := it_t q t
        exact t
      · have t := it_f q t
        refine V_iconst (v := 1) dX10_beginsAt_34 rfl ?_
        refine V_goto (tgt := 39) dX10_beginsAt_35 (by decide) ?_
        exact t
  · have t := it_t q t
    refine V_iload_n (q := 2) dX10_beginsAt_10 rfl rfl ?_
    exact V_iret rfl dX10_beginsAt_11 t
set_option maxRecDepth 20000 in
set_option maxHeartbeats 4000000 in
theorem s_Walks_beginsAt_38 (G : GA) (h : HP) (x1 : Int32) (x2 : Int32) (x3 : Int32) (K : Int32 → HP → Prop) (t :
  H_Walks_beginsAt_39 G h x1 x2 x3 0 K) : H_Walks_beginsAt_38 G h x1 x2 x3 K := by
  unfold H_Walks_beginsAt_38
  refine V_iconst (v := 0) dX10_beginsAt_38 rfl ?_
  exact t
set_option maxRecDepth 20000 in
set_option maxHeartbeats 4000000 in
theorem s_Walks_beginsAt_39 (G : GA) (h : HP) (x1 : Int32) (x2 : Int32) (x3 : Int32) (y0 : Int32) (K : Int32 → HP → Prop) (t :
  if y0 = 0 then (
    P_Walks_nextBeginning G h x1 x2 (fun (r2 : Int32) (h1 : HP) =>
      K r2 h1
    )
  ) else (
    vp_in x1 20 ∧
    P_Walks_nextBeginning G h x1 (x3 + (h 30 (tn x1))) (fun (r5 : Int32) (h4 : HP) =>
      K r5 h4
    )
  )) : H_Walks_beginsAt_39 G h x1 x2 x3 y0 K := by
  unfold H_Walks_beginsAt_39
  refine V_istore (L' := [(0, .ref (G.1 22)), (1, .int x1), (2, .int x2), (3, .int x3), (4, .int y0)]) dX10_beginsAt_39 (by decide) rfl rfl ?_
  refine V_aload_n (q := 0) dX10_beginsAt_41 rfl rfl ?_
  refine V_iload_n (q := 1) dX10_beginsAt_42 rfl rfl ?_
  refine V_iload (q := 4) dX10_beginsAt_43 rfl ?_
  refine V_if_eq (tgt := 59) dX10_beginsAt_45 (by decide) (fun q => ?_) (fun q => ?_)
  · have t := it_t q t
    refine V_iload_n (q := 2) dX10_beginsAt_59 rfl rfl ?_
    refine V_callV [.int x1, .int x2] [] g_X10_beginsAt_X10_nextBeginning wi_X10_nextBeginning ws_X10_nextBeginning dX10_beginsAt_60 rfl rfl rfl rfl rfl (Nat.le_of_ble_eq_true rfl) t (fun _ h1 t => ?_)
    obtain ⟨r2, rfl, t⟩ := t
    exact V_iret rfl dX10_beginsAt_63 t
  · have t := it_f q t
    refine V_iload_n (q := 3) dX10_beginsAt_48 rfl rfl ?_
    refine V_aload_n (q := 0) dX10_beginsAt_49 rfl rfl ?_
    refine V_getr f_X10_33 dX10_beginsAt_50 rfl rfl ?_
    refine V_iload_n (q := 1) dX10_beginsAt_53 rfl rfl ?_
    obtain ⟨n3, t⟩ := t
    refine V_iald dX10_beginsAt_54 rfl n3 ?_
    refine V_iadd dX10_beginsAt_55 ?_
    refine V_goto (tgt := 60) dX10_beginsAt_56 (by decide) ?_
    refine V_callV [.int x1, .int (x3 + (h 30 (tn x1)))] [] g_X10_beginsAt_X10_nextBeginning wi_X10_nextBeginning ws_X10_nextBeginning dX10_beginsAt_60 rfl rfl rfl rfl rfl (Nat.le_of_ble_eq_true rfl) t (fun _ h4 t => ?_)
    obtain ⟨r5, rfl, t⟩ := t
    exact V_iret rfl dX10_beginsAt_63 t
set_option maxRecDepth 20000 in
set_option maxHeartbeats 4000000 in
theorem s_Walks_endsAt_0 (G : GA) (h : HP) (x1 : Int32) (x2 : Int32) (x3 : Int32) (K : Int32 → HP → Prop) (t :
  if x2 < 1000000000 then (
    P_Walks_beginsAt G h x1 x2 x3 (fun (r2 : Int32) (h1 : HP) =>
      vp_in x1 20 ∧
      K (r2 + (h1 25 (tn x1))) h1
    )
  ) else (
    K 1000000000 h
  )) : P_Walks_endsAt G h x1 x2 x3 K := by
  refine Sp_of_V pf_X10_endsAt (Nat.le_of_ble_eq_true rfl) rfl ?_
  refine V_iload_n (q := 2) dX10_endsAt_0 rfl rfl ?_
  refine V_ldc (v := 1000000000) dX10_endsAt_1 k_X10_44 ?_
  refine V_icmp_lt (tgt := 11) dX10_endsAt_3 (by decide) (fun q => ?_) (fun q => ?_)
  · have t := it_t q t
    refine V_aload_n (q := 0) dX10_endsAt_11 rfl rfl ?_
    refine V_iload_n (q := 1) dX10_endsAt_12 rfl rfl ?_
    refine V_iload_n (q := 2) dX10_endsAt_13 rfl rfl ?_
    refine V_iload_n (q := 3) dX10_endsAt_14 rfl rfl ?_
    refine V_callV [.int x1, .int x2, .int x3] [] g_X10_endsAt_X10_beginsAt wi_X10_beginsAt ws_X10_beginsAt dX10_endsAt_15 rfl rfl rfl rfl rfl (Nat.le_of_ble_eq_true rfl) t (fun _ h1 t => ?_)
    obtain ⟨r2, rfl, t⟩ := t
    refine V_aload_n (q := 0) dX10_endsAt_18 rfl rfl ?_
    refine V_getr f_X10_18 dX10_endsAt_19 rfl rfl ?_
    refine V_iload_n (q := 1) dX10_endsAt_22 rfl rfl ?_
    obtain ⟨n3, t⟩ := t
    refine V_iald dX10_endsAt_23 rfl n3 ?_
    refine V_iadd dX10_endsAt_24 ?_
    exact V_iret rfl dX10_endsAt_25 t
  · have t := it_f q t
    refine V_ldc (v := 1000000000) dX10_endsAt_6 k_X10_44 ?_
    refine V_goto (tgt := 25) dX10_endsAt_8 (by decide) ?_
    exact V_iret rfl dX10_endsAt_25 t
set_option maxRecDepth 20000 in
set_option maxHeartbeats 4000000 in
theorem s_Found_callsInTime_0 (G : GA) (h : HP) (x1 : Int32) (x2 : Int32) (x3 : Int32) (x4 : Int32) (x5 : Int32) (K : Int32 → HP → Prop) (t :
  if 0 ≤ x2 then (
    vp_in x2 20 ∧
    vp_in x1 132 ∧
    H_Found_callsInTime_42 G h x1 x2 x4 x5 (h 23 (tn x2)) (h 43 (tn x1)) 0 0 K
  ) else (
    vp_in x1 132 ∧
    H_Found_callsInTime_42 G h x1 x2 x4 x5 x3 (h 43 (tn x1)) 0 0 K
  )) : P_Found_callsInTime G h x1 x2 x3 x4 x5 K := by
  refine Sp_of_V pf_X2_callsInTime (Nat.le_of_ble_eq_true rfl) rfl ?_
  refine V_iload_n (q := 2) dX2_callsInTime_0 rfl rfl ?_
  refine V_if_ge (tgt := 8) dX2_callsInTime_1 (by decide) (fun q => ?_) (fun q => ?_)
  · have t := it_t q t
    refine V_aload_n (q := 0) dX2_callsInTime_8 rfl rfl ?_
    refine V_getr f_X2_42 dX2_callsInTime_9 rfl rfl ?_
    refine V_getr f_X2_153 dX2_callsInTime_12 rfl rfl ?_
    refine V_getr f_X2_163 dX2_callsInTime_15 rfl rfl ?_
    refine V_iload_n (q := 2) dX2_callsInTime_18 rfl rfl ?_
    obtain ⟨n1, t⟩ := t
    refine V_iald dX2_callsInTime_19 rfl n1 ?_
    refine V_istore (L' := [(0, .ref (G.1 54)), (1, .int x1), (2, .int x2), (3, .int x3), (4, .int x4), (5, .int x5), (6, .int (h 23 (tn x2)))]) dX2_callsInTime_20 (by decide) rfl rfl ?_
    refine V_aload_n (q := 0) dX2_callsInTime_22 rfl rfl ?_
    refine V_getr f_X2_42 dX2_callsInTime_23 rfl rfl ?_
    refine V_getr f_X2_117 dX2_callsInTime_26 rfl rfl ?_
    refine V_getr f_X2_121 dX2_callsInTime_29 rfl rfl ?_
    refine V_iload_n (q := 1) dX2_callsInTime_32 rfl rfl ?_
    obtain ⟨n2, t⟩ := t
    refine V_iald dX2_callsInTime_33 rfl n2 ?_
    refine V_istore (L' := [(0, .ref (G.1 54)), (1, .int x1), (2, .int x2), (3, .int x3), (4, .int x4), (5, .int x5), (6, .int (h 23 (tn x2))), (7, .int (h 43 (tn x1)))]) dX2_callsInTime_34 (by decide) rfl rfl ?_
    refine V_iconst (v := 0) dX2_callsInTime_36 rfl ?_
    refine V_istore (L' := [(0, .ref (G.1 54)), (1, .int x1), (2, .int x2), (3, .int x3), (4, .int x4), (5, .int x5), (6, .int (h 23 (tn x2))), (7, .int (h 43 (tn x1))), (8, .int 0)]) dX2_callsInTime_37 (by decide) rfl rfl ?_
    refine V_iconst (v := 0) dX2_callsInTime_39 rfl ?_
    refine V_istore (L' := [(0, .ref (G.1 54)), (1, .int x1), (2, .int x2), (3, .int x3), (4, .int x4), (5, .int x5), (6, .int (h 23 (tn x2))), (7, .int (h 43 (tn x1))), (8, .int 0), (9, .int 0)]) dX2_callsInTime_40 (by decide) rfl rfl ?_
    refine V_pick (L' := [(0, .ref (G.1 54)), (1, .int x1), (2, .int x2), (4, .int x4), (5, .int x5), (6, .int (h 23 (tn x2))), (7, .int (h 43 (tn x1))), (8, .int 0), (9, .int 0)]) [0, 1, 2, 4, 5, 6, 7, 8, 9] rfl ?_
    exact t
  · have t := it_f q t
    refine V_iload_n (q := 3) dX2_callsInTime_4 rfl rfl ?_
    refine V_goto (tgt := 20) dX2_callsInTime_5 (by decide) ?_
    refine V_istore (L' := [(0, .ref (G.1 54)), (1, .int x1), (2, .int x2), (3, .int x3), (4, .int x4), (5, .int x5), (6, .int x3)]) dX2_callsInTime_20 (by decide) rfl rfl ?_
    refine V_aload_n (q := 0) dX2_callsInTime_22 rfl rfl ?_
    refine V_getr f_X2_42 dX2_callsInTime_23 rfl rfl ?_
    refine V_getr f_X2_117 dX2_callsInTime_26 rfl rfl ?_
    refine V_getr f_X2_121 dX2_callsInTime_29 rfl rfl ?_
    refine V_iload_n (q := 1) dX2_callsInTime_32 rfl rfl ?_
    obtain ⟨n3, t⟩ := t
    refine V_iald dX2_callsInTime_33 rfl n3 ?_
    refine V_istore (L' := [(0, .ref (G.1 54)), (1, .int x1), (2, .int x2), (3, .int x3), (4, .int x4), (5, .int x5), (6, .int x3), (7, .int (h 43 (tn x1)))]) dX2_callsInTime_34 (by decide) rfl rfl ?_
    refine V_iconst (v := 0) dX2_callsInTime_36 rfl ?_
    refine V_istore (L' := [(0, .ref (G.1 54)), (1, .int x1), (2, .int x2), (3, .int x3), (4, .int x4), (5, .int x5), (6, .int x3), (7, .int (h 43 (tn x1))), (8, .int 0)]) dX2_callsInTime_37 (by decide) rfl rfl ?_
    refine V_iconst (v := 0) dX2_callsInTime_39 rfl ?_
    refine V_istore (L' := [(0, .ref (G.1 54)), (1, .int x1), (2, .int x2), (3, .int x3), (4, .int x4), (5, .int x5), (6, .int x3), (7, .int (h 43 (tn x1))), (8, .int 0), (9, .int 0)]) dX2_callsInTime_40 (by decide) rfl rfl ?_
    refine V_pick (L' := [(0, .ref (G.1 54)), (1, .int x1), (2, .int x2), (4, .int x4), (5, .int x5), (6, .int x3), (7, .int (h 43 (tn x1))), (8, .int 0), (9, .int 0)]) [0, 1, 2, 4, 5, 6, 7, 8, 9] rfl ?_
    exact t
set_option maxRecDepth 20000 in
set_option maxHeartbeats 4000000 in
theorem s_Found_callsInTime_42 (G : GA) (h : HP) (x1 : Int32) (x2 : Int32) (x4 : Int32) (x5 : Int32) (x6 : Int32) (x7 : Int32) (x8 : Int32) (x9 : Int32) (K : Int32 → HP → Prop) (t :
  vp_in x7 24 ∧
  if (h 15 (tn x7)) ≤ x9 then (
    K x8 h
  ) else (
    vp_in ((x7 * 8) + x9) 192 ∧
    if (h 17 (tn ((x7 * 8) + x9))) = x6 then (
      P_Trips_isOpen G h x7 x9 (fun (b4 : Bool) (h3 : HP) =>
        if b4 = true then (
          vp_in ((x1 * 8) + x9) 1056 ∧
          if 0 ≤ x2 then (
            P_Walks_endsAt G h3 x2 (h3 46 (tn ((x1 * 8) + x9))) (h3 54 10) (fun (r7 : Int32) (h6 : HP) =>
              H_Found_callsInTime_150 G h6 x1 x2 x4 x5 x6 x7 x8 x9 r7 K
            )
          ) else (
            H_Found_callsInTime_150 G h3 x1 x2 x4 x5 x6 x7 x8 x9 ((h3 46 (tn ((x1 * 8) + x9))) + x5) K
          )
        ) else (
          H_Found_callsInTime_42 G h3 x1 x2 x4 x5 x6 x7 x8 (x9 + 1) K
        )
      )
    ) else (
      H_Found_callsInTime_42 G h x1 x2 x4 x5 x6 x7 x8 (x9 + 1) K
    )
  )) : H_Found_callsInTime_42 G h x1 x2 x4 x5 x6 x7 x8 x9 K := by
  unfold H_Found_callsInTime_42
  refine V_iload (q := 8) dX2_callsInTime_42 rfl ?_
  refine V_aload_n (q := 0) dX2_callsInTime_44 rfl rfl ?_
  refine V_getr f_X2_42 dX2_callsInTime_45 rfl rfl ?_
  refine V_getr f_X2_126 dX2_callsInTime_48 rfl rfl ?_
  refine V_getr f_X2_180 dX2_callsInTime_51 rfl rfl ?_
  refine V_iload (q := 6) dX2_callsInTime_54 rfl ?_
  obtain ⟨n1, t⟩ := t
  refine V_iald dX2_callsInTime_56 rfl n1 ?_
  refine V_icmp_ge (tgt := 178) dX2_callsInTime_57 (by decide) (fun q => ?_) (fun q => ?_)
  · have t := it_t q t
    refine V_iload (q := 7) dX2_callsInTime_178 rfl ?_
    exact V_iret rfl dX2_callsInTime_180 t
  · have t := it_f q t
    refine V_aload_n (q := 0) dX2_callsInTime_60 rfl rfl ?_
    refine V_getr f_X2_42 dX2_callsInTime_61 rfl rfl ?_
    refine V_getr f_X2_126 dX2_callsInTime_64 rfl rfl ?_
    refine V_getr f_X2_130 dX2_callsInTime_67 rfl rfl ?_
    refine V_iload (q := 6) dX2_callsInTime_70 rfl ?_
    refine V_bipush (v := 8) dX2_callsInTime_72 rfl ?_
    refine V_imul dX2_callsInTime_74 ?_
    refine V_iload (q := 8) dX2_callsInTime_75 rfl ?_
    refine V_iadd dX2_callsInTime_77 ?_
    obtain ⟨n2, t⟩ := t
    refine V_iald dX2_callsInTime_78 rfl n2 ?_
    refine V_iload (q := 5) dX2_callsInTime_79 rfl ?_
    refine V_icmp_ne (tgt := 172) dX2_callsInTime_81 (by decide) (fun q => ?_) (fun q => ?_)
    · have t := it_f q t
      refine V_iinc (L' := [(0, .ref (G.1 54)), (1, .int x1), (2, .int x2), (4, .int x4), (5, .int x5), (6, .int x6), (7, .int x7), (8, .int x8), (9, .int (x9 + 1))]) (q := 8) (a := 1) dX2_callsInTime_172 rfl rfl (by decide) rfl rfl ?_
      refine V_goto (tgt := 42) dX2_callsInTime_175 (by decide) ?_
      exact t
    · have t := it_t q t
      refine V_aload_n (q := 0) dX2_callsInTime_84 rfl rfl ?_
      refine V_getr f_X2_42 dX2_callsInTime_85 rfl rfl ?_
      refine V_getr f_X2_126 dX2_callsInTime_88 rfl rfl ?_
      refine V_iload (q := 6) dX2_callsInTime_91 rfl ?_
      refine V_iload (q := 8) dX2_callsInTime_93 rfl ?_
      refine V_callV [.int x7, .int x9] [] g_X2_callsInTime_X9_isOpen wi_X9_isOpen ws_X9_isOpen dX2_callsInTime_95 rfl rfl rfl rfl rfl (Nat.le_of_ble_eq_true rfl) t (fun _ h3 t => ?_)
      obtain ⟨b4, rfl, t⟩ := t
      refine V_ifb_eq (tgt := 172) dX2_callsInTime_98 (by decide) (fun q => ?_) (fun q => ?_)
      · have t := it_f q t
        refine V_iinc (L' := [(0, .ref (G.1 54)), (1, .int x1), (2, .int x2), (4, .int x4), (5, .int x5), (6, .int x6), (7, .int x7), (8, .int x8), (9, .int (x9 + 1))]) (q := 8) (a := 1) dX2_callsInTime_172 rfl rfl (by decide) rfl rfl ?_
        refine V_goto (tgt := 42) dX2_callsInTime_175 (by decide) ?_
        exact t
      · have t := it_t q t
        refine V_aload_n (q := 0) dX2_callsInTime_101 rfl rfl ?_
        refine V_getr f_X2_42 dX2_callsInTime_102 rfl rfl ?_
        refine V_getr f_X2_117 dX2_callsInTime_105 rfl rfl ?_
        refine V_getr f_X2_186 dX2_callsInTime_108 rfl rfl ?_
        refine V_iload_n (q := 1) dX2_callsInTime_111 rfl rfl ?_
        refine V_bipush (v := 8) dX2_callsInTime_112 rfl ?_
        refine V_imul dX2_callsInTime_114 ?_
        refine V_iload (q := 8) dX2_callsInTime_115 rfl ?_
        refine V_iadd dX2_callsInTime_117 ?_
        obtain ⟨n5, t⟩ := t
        refine V_iald dX2_callsInTime_118 rfl n5 ?_
        refine V_istore (L' := [(0, .ref (G.1 54)), (1, .int x1), (2, .int x2), (4, .int x4), (5, .int x5), (6, .int x6), (7, .int x7), (8, .int x8), (9, .int x9), (10, .int (h3 46 (tn ((x1 * 8) + x9))))]) dX2_callsInTime_119 (by decide) rfl rfl ?_
        refine V_iload_n (q := 2) dX2_callsInTime_121 rfl rfl ?_
        refine V_if_ge (tgt := 133) dX2_callsInTime_122 (by decide) (fun q => ?_) (fun q => ?_)
        · have t := it_t q t
          refine V_aload_n (q := 0) dX2_callsInTime_133 rfl rfl ?_
          refine V_getr f_X2_42 dX2_callsInTime_134 rfl rfl ?_
          refine V_getr f_X2_153 dX2_callsInTime_137 rfl rfl ?_
          refine V_iload_n (q := 2) dX2_callsInTime_140 rfl rfl ?_
          refine V_iload (q := 9) dX2_callsInTime_141 rfl ?_
          refine V_aload_n (q := 0) dX2_callsInTime_143 rfl rfl ?_
          refine V_geti f_X2_67 dX2_callsInTime_144 rfl rfl ?_
          refine V_callV [.int x2, .int (h3 46 (tn ((x1 * 8) + x9))), .int (h3 54 10)] [] g_X2_callsInTime_X10_endsAt wi_X10_endsAt ws_X10_endsAt dX2_callsInTime_147 rfl rfl rfl rfl rfl (Nat.le_of_ble_eq_true rfl) t (fun _ h6 t => ?_)
          obtain ⟨r7, rfl, t⟩ := t
          refine V_pick (L' := [(0, .ref (G.1 54)), (1, .int x1), (2, .int x2), (4, .int x4), (5, .int x5), (6, .int x6), (7, .int x7), (8, .int x8), (9, .int x9)]) [0, 1, 2, 3, 4, 5, 6, 7, 8] rfl ?_
          exact t
        · have t := it_f q t
          refine V_iload (q := 9) dX2_callsInTime_125 rfl ?_
          refine V_iload (q := 4) dX2_callsInTime_127 rfl ?_
          refine V_iadd dX2_callsInTime_129 ?_
          refine V_goto (tgt := 150) dX2_callsInTime_130 (by decide) ?_
          refine V_pick (L' := [(0, .ref (G.1 54)), (1, .int x1), (2, .int x2), (4, .int x4), (5, .int x5), (6, .int x6), (7, .int x7), (8, .int x8), (9, .int x9)]) [0, 1, 2, 3, 4, 5, 6, 7, 8] rfl ?_
          exact t
set_option maxRecDepth 20000 in
set_option maxHeartbeats 4000000 in
theorem s_Found_callsInTime_150 (G : GA) (h : HP) (x1 : Int32) (x2 : Int32) (x4 : Int32) (x5 : Int32) (x6 : Int32) (x7 : Int32) (x8 : Int32) (x9 : Int32) (y0 : Int32) (K : Int32 → HP → Prop) (t :
  if x4 < y0 then (
    H_Found_callsInTime_42 G h x1 x2 x4 x5 x6 x7 (x8 ||| 0) (x9 + 1) K
  ) else (
    H_Found_callsInTime_42 G h x1 x2 x4 x5 x6 x7 (x8 ||| (1 <<< (x9 &&& 31))) (x9 + 1) K
  )) : H_Found_callsInTime_150 G h x1 x2 x4 x5 x6 x7 x8 x9 y0 K := by
  unfold H_Found_callsInTime_150
  refine V_istore (L' := [(0, .ref (G.1 54)), (1, .int x1), (2, .int x2), (4, .int x4), (5, .int x5), (6, .int x6), (7, .int x7), (8, .int x8), (9, .int x9), (11, .int y0)]) dX2_callsInTime_150 (by decide) rfl rfl ?_
  refine V_iload (q := 7) dX2_callsInTime_152 rfl ?_
  refine V_iload (q := 9) dX2_callsInTime_154 rfl ?_
  refine V_iload (q := 3) dX2_callsInTime_156 rfl ?_
  refine V_icmp_gt (tgt := 168) dX2_callsInTime_158 (by decide) (fun q => ?_) (fun q => ?_)
  · have t := it_t q t
    refine V_iconst (v := 0) dX2_callsInTime_168 rfl ?_
    refine V_ior dX2_callsInTime_169 ?_
    refine V_istore (L' := [(0, .ref (G.1 54)), (1, .int x1), (2, .int x2), (4, .int x4), (5, .int x5), (6, .int x6), (7, .int x7), (8, .int (x8 ||| 0)), (9, .int x9), (11, .int y0)]) dX2_callsInTime_170 (by decide) rfl rfl ?_
    refine V_iinc (L' := [(0, .ref (G.1 54)), (1, .int x1), (2, .int x2), (4, .int x4), (5, .int x5), (6, .int x6), (7, .int x7), (8, .int (x8 ||| 0)), (9, .int (x9 + 1)), (11, .int y0)]) (q := 8) (a := 1) dX2_callsInTime_172 rfl rfl (by decide) rfl rfl ?_
    refine V_goto (tgt := 42) dX2_callsInTime_175 (by decide) ?_
    refine V_pick (L' := [(0, .ref (G.1 54)), (1, .int x1), (2, .int x2), (4, .int x4), (5, .int x5), (6, .int x6), (7, .int x7), (8, .int (x8 ||| 0)), (9, .int (x9 + 1))]) [0, 1, 2, 3, 4, 5, 6, 7, 8] rfl ?_
    exact t
  · have t := it_f q t
    refine V_iconst (v := 1) dX2_callsInTime_161 rfl ?_
    refine V_iload (q := 8) dX2_callsInTime_162 rfl ?_
    refine V_ishl dX2_callsInTime_164 ?_
    refine V_goto (tgt := 169) dX2_callsInTime_165 (by decide) ?_
    refine V_ior dX2_callsInTime_169 ?_
    refine V_istore (L' := [(0, .ref (G.1 54)), (1, .int x1), (2, .int x2), (4, .int x4), (5, .int x5), (6, .int x6), (7, .int x7), (8, .int (x8 ||| (1 <<< (x9 &&& 31)))), (9, .int x9), (11, .int y0)]) dX2_callsInTime_170 (by decide) rfl rfl ?_
    refine V_iinc (L' := [(0, .ref (G.1 54)), (1, .int x1), (2, .int x2), (4, .int x4), (5, .int x5), (6, .int x6), (7, .int x7), (8, .int (x8 ||| (1 <<< (x9 &&& 31)))), (9, .int (x9 + 1)), (11, .int y0)]) (q := 8) (a := 1) dX2_callsInTime_172 rfl rfl (by decide) rfl rfl ?_
    refine V_goto (tgt := 42) dX2_callsInTime_175 (by decide) ?_
    refine V_pick (L' := [(0, .ref (G.1 54)), (1, .int x1), (2, .int x2), (4, .int x4), (5, .int x5), (6, .int x6), (7, .int x7), (8, .int (x8 ||| (1 <<< (x9 &&& 31)))), (9, .int (x9 + 1))]) [0, 1, 2, 3, 4, 5, 6, 7, 8] rfl ?_
    exact t
set_option maxRecDepth 20000 in
set_option maxHeartbeats 4000000 in
theorem s_Search_mostFare_0 (G : GA) (h : HP) (x1 : Int32) (K : Int32 → HP → Prop) (t :
  K ((h 48 10) * x1) h) : P_Search_mostFare G h x1 K := by
  refine Sp_of_V pf_X5_mostFare (Nat.le_of_ble_eq_true rfl) rfl ?_
  refine V_aload_n (q := 0) dX5_mostFare_0 rfl rfl ?_
  refine V_geti f_X5_47 dX5_mostFare_1 rfl rfl ?_
  refine V_iload_n (q := 1) dX5_mostFare_4 rfl rfl ?_
  refine V_imul dX5_mostFare_5 ?_
  exact V_iret rfl dX5_mostFare_6 t
set_option maxRecDepth 20000 in
set_option maxHeartbeats 4000000 in
theorem s_Search_canCost_0 (G : GA) (h : HP) (x1 : Int32) (x2 : Int32) (K : Bool → HP → Prop) (t :
  P_Desk_between G h x1 0 3 (fun (b2 : Bool) (h1 : HP) =>
    if b2 = true then (
      P_Search_mostFare G h1 x1 (fun (r4 : Int32) (h3 : HP) =>
        P_Desk_between G h3 x2 0 r4 (fun (b6 : Bool) (h5 : HP) =>
          if b6 = true then (
            K true h5
          ) else (
            K false h5
          )
        )
      )
    ) else (
      K false h1
    )
  )) : P_Search_canCost G h x1 x2 K := by
  refine Sp_of_V pf_X5_canCost (Nat.le_of_ble_eq_true rfl) rfl ?_
  refine V_iload_n (q := 1) dX5_canCost_0 rfl rfl ?_
  refine V_iconst (v := 0) dX5_canCost_1 rfl ?_
  refine V_iconst (v := 3) dX5_canCost_2 rfl ?_
  refine V_callSN [.int x1, .int 0, .int 3] [] g_X5_canCost_X11_between wt_X11_between dX5_canCost_3 rfl rfl (Nat.le_of_ble_eq_true rfl) t (fun _ h1 t => ?_)
  obtain ⟨b2, rfl, t⟩ := t
  refine V_ifb_eq (tgt := 26) dX5_canCost_6 (by decide) (fun q => ?_) (fun q => ?_)
  · have t := it_f q t
    refine V_iconst (v := 0) dX5_canCost_26 rfl ?_
    exact V_zret (b := false) rfl dX5_canCost_27 t
  · have t := it_t q t
    refine V_iload_n (q := 2) dX5_canCost_9 rfl rfl ?_
    refine V_iconst (v := 0) dX5_canCost_10 rfl ?_
    refine V_aload_n (q := 0) dX5_canCost_11 rfl rfl ?_
    refine V_iload_n (q := 1) dX5_canCost_12 rfl rfl ?_
    refine V_callV [.int x1] [.int 0, .int x2] g_X5_canCost_X5_mostFare wi_X5_mostFare ws_X5_mostFare dX5_canCost_13 rfl rfl rfl rfl rfl (Nat.le_of_ble_eq_true rfl) t (fun _ h3 t => ?_)
    obtain ⟨r4, rfl, t⟩ := t
    refine V_callSN [.int x2, .int 0, .int r4] [] g_X5_canCost_X11_between wt_X11_between dX5_canCost_16 rfl rfl (Nat.le_of_ble_eq_true rfl) t (fun _ h5 t => ?_)
    obtain ⟨b6, rfl, t⟩ := t
    refine V_ifb_eq (tgt := 26) dX5_canCost_19 (by decide) (fun q => ?_) (fun q => ?_)
    · have t := it_f q t
      refine V_iconst (v := 0) dX5_canCost_26 rfl ?_
      exact V_zret (b := false) rfl dX5_canCost_27 t
    · have t := it_t q t
      refine V_iconst (v := 1) dX5_canCost_22 rfl ?_
      refine V_goto (tgt := 27) dX5_canCost_23 (by decide) ?_
      exact V_zret (b := true) rfl dX5_canCost_27 t
set_option maxRecDepth 20000 in
set_option maxHeartbeats 4000000 in
theorem s_Search_row_0 (G : GA) (h : HP) (x1 : Int32) (x2 : Int32) (K : Int32 → HP → Prop) (t :
  K (((x1 + ((h 48 10) * ((x1 * (x1 - 1)) / 2))) + x2) * 12) h) : P_Search_row G h x1 x2 K := by
  refine Sp_of_V pf_X5_row (Nat.le_of_ble_eq_true rfl) rfl ?_
  refine V_iload_n (q := 1) dX5_row_0 rfl rfl ?_
  refine V_aload_n (q := 0) dX5_row_1 rfl rfl ?_
  refine V_geti f_X5_47 dX5_row_2 rfl rfl ?_
  refine V_iload_n (q := 1) dX5_row_5 rfl rfl ?_
  refine V_iload_n (q := 1) dX5_row_6 rfl rfl ?_
  refine V_iconst (v := 1) dX5_row_7 rfl ?_
  refine V_isub dX5_row_8 ?_
  refine V_imul dX5_row_9 ?_
  refine V_iconst (v := 2) dX5_row_10 rfl ?_
  refine V_idiv dX5_row_11 (by decide) ?_
  refine V_imul dX5_row_12 ?_
  refine V_iadd dX5_row_13 ?_
  refine V_iload_n (q := 2) dX5_row_14 rfl rfl ?_
  refine V_iadd dX5_row_15 ?_
  refine V_bipush (v := 12) dX5_row_16 rfl ?_
  refine V_imul dX5_row_18 ?_
  exact V_iret rfl dX5_row_19 t
set_option maxRecDepth 20000 in
set_option maxHeartbeats 4000000 in
theorem s_Search_readyAt_0 (G : GA) (h : HP) (x1 : Int32) (x2 : Int32) (x3 : Int32) (K : Int32 → HP → Prop) (t :
  if 3 ≤ x1 then (
    K 1000000000 h
  ) else (
    P_Search_canCost G h x1 x2 (fun (b2 : Bool) (h1 : HP) =>
      if b2 = true then (
        P_Search_row G h1 x1 x2 (fun (r4 : Int32) (h3 : HP) =>
          vp_in (r4 + x3) 360 ∧
          K (h3 50 (tn (r4 + x3))) h3
        )
      ) else (
        K 1000000000 h1
      )
    )
  )) : P_Search_readyAt G h x1 x2 x3 K := by
  refine Sp_of_V pf_X5_readyAt (Nat.le_of_ble_eq_true rfl) rfl ?_
  refine V_iload_n (q := 1) dX5_readyAt_0 rfl rfl ?_
  refine V_iconst (v := 3) dX5_readyAt_1 rfl ?_
  refine V_icmp_ge (tgt := 30) dX5_readyAt_2 (by decide) (fun q => ?_) (fun q => ?_)
  · have t := it_t q t
    refine V_ldc (v := 1000000000) dX5_readyAt_30 k_X5_50 ?_
    exact V_iret rfl dX5_readyAt_32 t
  · have t := it_f q t
    refine V_aload_n (q := 0) dX5_readyAt_5 rfl rfl ?_
    refine V_iload_n (q := 1) dX5_readyAt_6 rfl rfl ?_
    refine V_iload_n (q := 2) dX5_readyAt_7 rfl rfl ?_
    refine V_callV [.int x1, .int x2] [] g_X5_readyAt_X5_canCost wi_X5_canCost ws_X5_canCost dX5_readyAt_8 rfl rfl rfl rfl rfl (Nat.le_of_ble_eq_true rfl) t (fun _ h1 t => ?_)
    obtain ⟨b2, rfl, t⟩ := t
    refine V_ifb_eq (tgt := 30) dX5_readyAt_11 (by decide) (fun q => ?_) (fun q => ?_)
    · have t := it_f q t
      refine V_ldc (v := 1000000000) dX5_readyAt_30 k_X5_50 ?_
      exact V_iret rfl dX5_readyAt_32 t
    · have t := it_t q t
      refine V_aload_n (q := 0) dX5_readyAt_14 rfl rfl ?_
      refine V_getr f_X5_15 dX5_readyAt_15 rfl rfl ?_
      refine V_aload_n (q := 0) dX5_readyAt_18 rfl rfl ?_
      refine V_iload_n (q := 1) dX5_readyAt_19 rfl rfl ?_
      refine V_iload_n (q := 2) dX5_readyAt_20 rfl rfl ?_
      refine V_callV [.int x1, .int x2] [.ref (G.1 50)] g_X5_readyAt_X5_row wi_X5_row ws_X5_row dX5_readyAt_21 rfl rfl rfl rfl rfl (Nat.le_of_ble_eq_true rfl) t (fun _ h3 t => ?_)
      obtain ⟨r4, rfl, t⟩ := t
      refine V_iload_n (q := 3) dX5_readyAt_24 rfl rfl ?_
      refine V_iadd dX5_readyAt_25 ?_
      obtain ⟨n5, t⟩ := t
      refine V_iald dX5_readyAt_26 rfl n5 ?_
      refine V_goto (tgt := 32) dX5_readyAt_27 (by decide) ?_
      exact V_iret rfl dX5_readyAt_32 t
set_option maxRecDepth 20000 in
set_option maxHeartbeats 4000000 in
theorem s_Stops_priceOfRide_0 (G : GA) (h : HP) (x1 : Int32) (x2 : Int32) (K : Int32 → HP → Prop) (t :
  vp_in x1 12 ∧
  vp_in x2 12 ∧
  vp_in (((h 4 (tn x1)) * 4) + (h 4 (tn x2))) 16 ∧
  K (h 5 (tn (((h 4 (tn x1)) * 4) + (h 4 (tn x2))))) h) : P_Stops_priceOfRide G h x1 x2 K := by
  refine Sp_of_V pf_X7_priceOfRide (Nat.le_of_ble_eq_true rfl) rfl ?_
  refine V_aload_n (q := 0) dX7_priceOfRide_0 rfl rfl ?_
  refine V_getr f_X7_18 dX7_priceOfRide_1 rfl rfl ?_
  refine V_aload_n (q := 0) dX7_priceOfRide_4 rfl rfl ?_
  refine V_getr f_X7_15 dX7_priceOfRide_5 rfl rfl ?_
  refine V_iload_n (q := 1) dX7_priceOfRide_8 rfl rfl ?_
  obtain ⟨n1, t⟩ := t
  refine V_iald dX7_priceOfRide_9 rfl n1 ?_
  refine V_iconst (v := 4) dX7_priceOfRide_10 rfl ?_
  refine V_imul dX7_priceOfRide_11 ?_
  refine V_aload_n (q := 0) dX7_priceOfRide_12 rfl rfl ?_
  refine V_getr f_X7_15 dX7_priceOfRide_13 rfl rfl ?_
  refine V_iload_n (q := 2) dX7_priceOfRide_16 rfl rfl ?_
  obtain ⟨n2, t⟩ := t
  refine V_iald dX7_priceOfRide_17 rfl n2 ?_
  refine V_iadd dX7_priceOfRide_18 ?_
  obtain ⟨n3, t⟩ := t
  refine V_iald dX7_priceOfRide_19 rfl n3 ?_
  exact V_iret rfl dX7_priceOfRide_20 t
set_option maxRecDepth 20000 in
set_option maxHeartbeats 4000000 in
theorem s_Found_canGetOn_0 (G : GA) (h : HP) (x1 : Int32) (x2 : Int32) (x3 : Int32) (x4 : Int32) (x5 : Int32) (K : Bool → HP → Prop) (t :
  vp_in x3 132 ∧
  vp_in (((h 43 (tn x3)) * 8) + x4) 192 ∧
  vp_in (((h 43 (tn x3)) * 8) + x5) 192 ∧
  P_Stops_priceOfRide G h (h 17 (tn (((h 43 (tn x3)) * 8) + x4))) (h 17 (tn (((h 43 (tn x3)) * 8) + x5))) (fun (r5 : Int32) (h4 : HP) =>
    P_Trips_isOpen G h4 (h 43 (tn x3)) x4 (fun (b7 : Bool) (h6 : HP) =>
      if b7 = true then (
        P_Search_readyAt G h6 (x1 - 1) (x2 - r5) (h 17 (tn (((h 43 (tn x3)) * 8) + x4))) (fun (r9 : Int32) (h8 : HP) =>
          vp_in ((x3 * 8) + x4) 1056 ∧
          if (h8 47 (tn ((x3 * 8) + x4))) < r9 then (
            K false h8
          ) else (
            K true h8
          )
        )
      ) else (
        K false h6
      )
    )
  )) : P_Found_canGetOn G h x1 x2 x3 x4 x5 K := by
  refine Sp_of_V pf_X2_canGetOn (Nat.le_of_ble_eq_true rfl) rfl ?_
  refine V_aload_n (q := 0) dX2_canGetOn_0 rfl rfl ?_
  refine V_getr f_X2_42 dX2_canGetOn_1 rfl rfl ?_
  refine V_getr f_X2_117 dX2_canGetOn_4 rfl rfl ?_
  refine V_getr f_X2_121 dX2_canGetOn_7 rfl rfl ?_
  refine V_iload_n (q := 3) dX2_canGetOn_10 rfl rfl ?_
  obtain ⟨n1, t⟩ := t
  refine V_iald dX2_canGetOn_11 rfl n1 ?_
  refine V_istore (L' := [(0, .ref (G.1 54)), (1, .int x1), (2, .int x2), (3, .int x3), (4, .int x4), (5, .int x5), (6, .int (h 43 (tn x3)))]) dX2_canGetOn_12 (by decide) rfl rfl ?_
  refine V_aload_n (q := 0) dX2_canGetOn_14 rfl rfl ?_
  refine V_getr f_X2_42 dX2_canGetOn_15 rfl rfl ?_
  refine V_getr f_X2_126 dX2_canGetOn_18 rfl rfl ?_
  refine V_getr f_X2_130 dX2_canGetOn_21 rfl rfl ?_
  refine V_iload (q := 6) dX2_canGetOn_24 rfl ?_
  refine V_bipush (v := 8) dX2_canGetOn_26 rfl ?_
  refine V_imul dX2_canGetOn_28 ?_
  refine V_iload (q := 4) dX2_canGetOn_29 rfl ?_
  refine V_iadd dX2_canGetOn_31 ?_
  obtain ⟨n2, t⟩ := t
  refine V_iald dX2_canGetOn_32 rfl n2 ?_
  refine V_istore (L' := [(0, .ref (G.1 54)), (1, .int x1), (2, .int x2), (3, .int x3), (4, .int x4), (5, .int x5), (6, .int (h 43 (tn x3))), (7, .int (h 17 (tn (((h 43 (tn x3)) * 8) + x4))))]) dX2_canGetOn_33 (by decide) rfl rfl ?_
  refine V_iload_n (q := 2) dX2_canGetOn_35 rfl rfl ?_
  refine V_aload_n (q := 0) dX2_canGetOn_36 rfl rfl ?_
  refine V_getr f_X2_42 dX2_canGetOn_37 rfl rfl ?_
  refine V_getr f_X2_135 dX2_canGetOn_40 rfl rfl ?_
  refine V_iload (q := 7) dX2_canGetOn_43 rfl ?_
  refine V_aload_n (q := 0) dX2_canGetOn_45 rfl rfl ?_
  refine V_getr f_X2_42 dX2_canGetOn_46 rfl rfl ?_
  refine V_getr f_X2_126 dX2_canGetOn_49 rfl rfl ?_
  refine V_getr f_X2_130 dX2_canGetOn_52 rfl rfl ?_
  refine V_iload (q := 6) dX2_canGetOn_55 rfl ?_
  refine V_bipush (v := 8) dX2_canGetOn_57 rfl ?_
  refine V_imul dX2_canGetOn_59 ?_
  refine V_iload (q := 5) dX2_canGetOn_60 rfl ?_
  refine V_iadd dX2_canGetOn_62 ?_
  obtain ⟨n3, t⟩ := t
  refine V_iald dX2_canGetOn_63 rfl n3 ?_
  refine V_callV [.int (h 17 (tn (((h 43 (tn x3)) * 8) + x4))), .int (h 17 (tn (((h 43 (tn x3)) * 8) + x5)))] [.int x2] g_X2_canGetOn_X7_priceOfRide wi_X7_priceOfRide ws_X7_priceOfRide dX2_canGetOn_64 rfl rfl rfl rfl rfl (Nat.le_of_ble_eq_true rfl) t (fun _ h4 t => ?_)
  obtain ⟨r5, rfl, t⟩ := t
  refine V_isub dX2_canGetOn_67 ?_
  refine V_istore (L' := [(0, .ref (G.1 54)), (1, .int x1), (2, .int x2), (3, .int x3), (4, .int x4), (5, .int x5), (6, .int (h 43 (tn x3))), (7, .int (h 17 (tn (((h 43 (tn x3)) * 8) + x4)))), (8, .int (x2 - r5))]) dX2_canGetOn_68 (by decide) rfl rfl ?_
  refine V_aload_n (q := 0) dX2_canGetOn_70 rfl rfl ?_
  refine V_getr f_X2_42 dX2_canGetOn_71 rfl rfl ?_
  refine V_getr f_X2_126 dX2_canGetOn_74 rfl rfl ?_
  refine V_iload (q := 6) dX2_canGetOn_77 rfl ?_
  refine V_iload (q := 4) dX2_canGetOn_79 rfl ?_
  refine V_callV [.int (h 43 (tn x3)), .int x4] [] g_X2_canGetOn_X9_isOpen wi_X9_isOpen ws_X9_isOpen dX2_canGetOn_81 rfl rfl rfl rfl rfl (Nat.le_of_ble_eq_true rfl) t (fun _ h6 t => ?_)
  obtain ⟨b7, rfl, t⟩ := t
  refine V_ifb_eq (tgt := 126) dX2_canGetOn_84 (by decide) (fun q => ?_) (fun q => ?_)
  · have t := it_f q t
    refine V_iconst (v := 0) dX2_canGetOn_126 rfl ?_
    exact V_zret (b := false) rfl dX2_canGetOn_127 t
  · have t := it_t q t
    refine V_aload_n (q := 0) dX2_canGetOn_87 rfl rfl ?_
    refine V_getr f_X2_42 dX2_canGetOn_88 rfl rfl ?_
    refine V_iload_n (q := 1) dX2_canGetOn_91 rfl rfl ?_
    refine V_iconst (v := 1) dX2_canGetOn_92 rfl ?_
    refine V_isub dX2_canGetOn_93 ?_
    refine V_iload (q := 8) dX2_canGetOn_94 rfl ?_
    refine V_iload (q := 7) dX2_canGetOn_96 rfl ?_
    refine V_callV [.int (x1 - 1), .int (x2 - r5), .int (h 17 (tn (((h 43 (tn x3)) * 8) + x4)))] [] g_X2_canGetOn_X5_readyAt wi_X5_readyAt ws_X5_readyAt dX2_canGetOn_98 rfl rfl rfl rfl rfl (Nat.le_of_ble_eq_true rfl) t (fun _ h8 t => ?_)
    obtain ⟨r9, rfl, t⟩ := t
    refine V_aload_n (q := 0) dX2_canGetOn_101 rfl rfl ?_
    refine V_getr f_X2_42 dX2_canGetOn_102 rfl rfl ?_
    refine V_getr f_X2_117 dX2_canGetOn_105 rfl rfl ?_
    refine V_getr f_X2_144 dX2_canGetOn_108 rfl rfl ?_
    refine V_iload_n (q := 3) dX2_canGetOn_111 rfl rfl ?_
    refine V_bipush (v := 8) dX2_canGetOn_112 rfl ?_
    refine V_imul dX2_canGetOn_114 ?_
    refine V_iload (q := 4) dX2_canGetOn_115 rfl ?_
    refine V_iadd dX2_canGetOn_117 ?_
    obtain ⟨n10, t⟩ := t
    refine V_iald dX2_canGetOn_118 rfl n10 ?_
    refine V_icmp_gt (tgt := 126) dX2_canGetOn_119 (by decide) (fun q => ?_) (fun q => ?_)
    · have t := it_t q t
      refine V_iconst (v := 0) dX2_canGetOn_126 rfl ?_
      exact V_zret (b := false) rfl dX2_canGetOn_127 t
    · have t := it_f q t
      refine V_iconst (v := 1) dX2_canGetOn_122 rfl ?_
      refine V_goto (tgt := 127) dX2_canGetOn_123 (by decide) ?_
      exact V_zret (b := true) rfl dX2_canGetOn_127 t
set_option maxRecDepth 20000 in
set_option maxHeartbeats 4000000 in
theorem s_Found_firstOff_0 (G : GA) (h : HP) (x1 : Int32) (x2 : Int32) (x3 : Int32) (K : Int32 → HP → Prop) (t :
  H_Found_firstOff_3 G h x1 x2 x3 x2 K) : P_Found_firstOff G h x1 x2 x3 K := by
  refine Sp_of_V pf_X2_firstOff (Nat.le_of_ble_eq_true rfl) rfl ?_
  refine V_iload_n (q := 2) dX2_firstOff_0 rfl rfl ?_
  refine V_istore (L' := [(0, .ref (G.1 54)), (1, .int x1), (2, .int x2), (3, .int x3), (4, .int x2)]) dX2_firstOff_1 (by decide) rfl rfl ?_
  exact t
set_option maxRecDepth 20000 in
set_option maxHeartbeats 4000000 in
theorem s_Found_firstOff_3 (G : GA) (h : HP) (x1 : Int32) (x2 : Int32) (x3 : Int32) (x4 : Int32) (K : Int32 → HP → Prop) (t :
  if 8 ≤ x4 then (
    K (-1) h
  ) else (
    if x4 ≤ x2 then (
      H_Found_firstOff_28 G h x1 x2 x3 x4 K
    ) else (
      if ((x3 >>> (x4 &&& 31)) &&& 1) = 0 then (
        H_Found_firstOff_28 G h x1 x2 x3 x4 K
      ) else (
        K x4 h
      )
    )
  )) : H_Found_firstOff_3 G h x1 x2 x3 x4 K := by
  unfold H_Found_firstOff_3
  refine V_iload (q := 4) dX2_firstOff_3 rfl ?_
  refine V_bipush (v := 8) dX2_firstOff_5 rfl ?_
  refine V_icmp_ge (tgt := 56) dX2_firstOff_7 (by decide) (fun q => ?_) (fun q => ?_)
  · have t := it_t q t
    refine V_iconst (v := (-1)) dX2_firstOff_56 rfl ?_
    exact V_iret rfl dX2_firstOff_57 t
  · have t := it_f q t
    refine V_iload (q := 4) dX2_firstOff_10 rfl ?_
    refine V_iload_n (q := 2) dX2_firstOff_12 rfl rfl ?_
    refine V_icmp_le (tgt := 28) dX2_firstOff_13 (by decide) (fun q => ?_) (fun q => ?_)
    · have t := it_t q t
      exact t
    · have t := it_f q t
      refine V_iload_n (q := 3) dX2_firstOff_16 rfl rfl ?_
      refine V_iload (q := 4) dX2_firstOff_17 rfl ?_
      refine V_ishr dX2_firstOff_19 ?_
      refine V_iconst (v := 1) dX2_firstOff_20 rfl ?_
      refine V_iand dX2_firstOff_21 ?_
      refine V_if_eq (tgt := 28) dX2_firstOff_22 (by decide) (fun q => ?_) (fun q => ?_)
      · have t := it_t q t
        exact t
      · have t := it_f q t
        refine V_iload (q := 4) dX2_firstOff_25 rfl ?_
        exact V_iret rfl dX2_firstOff_27 t
set_option maxRecDepth 20000 in
set_option maxHeartbeats 4000000 in
theorem s_Found_firstOff_28 (G : GA) (h : HP) (x1 : Int32) (x2 : Int32) (x3 : Int32) (x4 : Int32) (K : Int32 → HP → Prop) (t :
  vp_in x1 132 ∧
  if (((h 45 (tn x1)) >>> (x4 &&& 31)) &&& 1) = 0 then (
    H_Found_firstOff_3 G h x1 x2 x3 (x4 + 1) K
  ) else (
    K (-1) h
  )) : H_Found_firstOff_28 G h x1 x2 x3 x4 K := by
  unfold H_Found_firstOff_28
  refine V_aload_n (q := 0) dX2_firstOff_28 rfl rfl ?_
  refine V_getr f_X2_42 dX2_firstOff_29 rfl rfl ?_
  refine V_getr f_X2_117 dX2_firstOff_32 rfl rfl ?_
  refine V_getr f_X2_189 dX2_firstOff_35 rfl rfl ?_
  refine V_iload_n (q := 1) dX2_firstOff_38 rfl rfl ?_
  obtain ⟨n1, t⟩ := t
  refine V_iald dX2_firstOff_39 rfl n1 ?_
  refine V_iload (q := 4) dX2_firstOff_40 rfl ?_
  refine V_ishr dX2_firstOff_42 ?_
  refine V_iconst (v := 1) dX2_firstOff_43 rfl ?_
  refine V_iand dX2_firstOff_44 ?_
  refine V_if_eq (tgt := 50) dX2_firstOff_45 (by decide) (fun q => ?_) (fun q => ?_)
  · have t := it_t q t
    refine V_iinc (L' := [(0, .ref (G.1 54)), (1, .int x1), (2, .int x2), (3, .int x3), (4, .int (x4 + 1))]) (q := 4) (a := 1) dX2_firstOff_50 rfl rfl (by decide) rfl rfl ?_
    refine V_goto (tgt := 3) dX2_firstOff_53 (by decide) ?_
    exact t
  · have t := it_f q t
    refine V_iconst (v := (-1)) dX2_firstOff_48 rfl ?_
    exact V_iret rfl dX2_firstOff_49 t
set_option maxRecDepth 20000 in
set_option maxHeartbeats 4000000 in
theorem s_Found_leastRide_0 (G : GA) (h : HP) (x1 : Int32) (x2 : Int32) (x3 : Int32) (x4 : Int32) (x5 : Int32) (x6 : Int32) (K : HP → Prop) (t :
  H_Found_leastRide_3 G h x1 x2 x3 x4 x5 x6 0 K) : P_Found_leastRide G h x1 x2 x3 x4 x5 x6 K := by
  refine Sp_of_V pf_X2_leastRide (Nat.le_of_ble_eq_true rfl) rfl ?_
  refine V_iconst (v := 0) dX2_leastRide_0 rfl ?_
  refine V_istore (L' := [(0, .ref (G.1 54)), (1, .int x1), (2, .int x2), (3, .int x3), (4, .int x4), (5, .int x5), (6, .int x6), (7, .int 0)]) dX2_leastRide_1 (by decide) rfl rfl ?_
  exact t
set_option maxRecDepth 20000 in
set_option maxHeartbeats 4000000 in
theorem s_Found_leastRide_3 (G : GA) (h : HP) (x1 : Int32) (x2 : Int32) (x3 : Int32) (x4 : Int32) (x5 : Int32) (x6 : Int32) (x7 : Int32) (K : HP → Prop) (t :
  if (h 42 5) ≤ x7 then (
    K h
  ) else (
    P_Found_callsInTime G h x7 x3 x4 x5 x6 (fun (r2 : Int32) (h1 : HP) =>
      H_Found_leastRide_36 G h1 x1 x2 x3 x4 x5 x6 x7 r2 0 K
    )
  )) : H_Found_leastRide_3 G h x1 x2 x3 x4 x5 x6 x7 K := by
  unfold H_Found_leastRide_3
  refine V_iload (q := 7) dX2_leastRide_3 rfl ?_
  refine V_aload_n (q := 0) dX2_leastRide_5 rfl rfl ?_
  refine V_getr f_X2_42 dX2_leastRide_6 rfl rfl ?_
  refine V_getr f_X2_117 dX2_leastRide_9 rfl rfl ?_
  refine V_geti f_X2_169 dX2_leastRide_12 rfl rfl ?_
  refine V_icmp_ge (tgt := 119) dX2_leastRide_15 (by decide) (fun q => ?_) (fun q => ?_)
  · have t := it_t q t
    exact V_vret rfl dX2_leastRide_119 t
  · have t := it_f q t
    refine V_aload_n (q := 0) dX2_leastRide_18 rfl rfl ?_
    refine V_iload (q := 7) dX2_leastRide_19 rfl ?_
    refine V_iload_n (q := 3) dX2_leastRide_21 rfl rfl ?_
    refine V_iload (q := 4) dX2_leastRide_22 rfl ?_
    refine V_iload (q := 5) dX2_leastRide_24 rfl ?_
    refine V_iload (q := 6) dX2_leastRide_26 rfl ?_
    refine V_callV [.int x7, .int x3, .int x4, .int x5, .int x6] [] g_X2_leastRide_X2_callsInTime wi_X2_callsInTime ws_X2_callsInTime dX2_leastRide_28 rfl rfl rfl rfl rfl (Nat.le_of_ble_eq_true rfl) t (fun _ h1 t => ?_)
    obtain ⟨r2, rfl, t⟩ := t
    refine V_istore (L' := [(0, .ref (G.1 54)), (1, .int x1), (2, .int x2), (3, .int x3), (4, .int x4), (5, .int x5), (6, .int x6), (7, .int x7), (8, .int r2)]) dX2_leastRide_31 (by decide) rfl rfl ?_
    refine V_iconst (v := 0) dX2_leastRide_33 rfl ?_
    refine V_istore (L' := [(0, .ref (G.1 54)), (1, .int x1), (2, .int x2), (3, .int x3), (4, .int x4), (5, .int x5), (6, .int x6), (7, .int x7), (8, .int r2), (9, .int 0)]) dX2_leastRide_34 (by decide) rfl rfl ?_
    exact t
set_option maxRecDepth 20000 in
set_option maxHeartbeats 4000000 in
theorem s_Found_leastRide_36 (G : GA) (h : HP) (x1 : Int32) (x2 : Int32) (x3 : Int32) (x4 : Int32) (x5 : Int32) (x6 : Int32) (x7 : Int32) (x8 : Int32) (x9 : Int32) (K : HP → Prop) (t :
  if x8 = 0 then (
    H_Found_leastRide_3 G h x1 x2 x3 x4 x5 x6 (x7 + 1) K
  ) else (
    if 7 ≤ x9 then (
      H_Found_leastRide_3 G h x1 x2 x3 x4 x5 x6 (x7 + 1) K
    ) else (
      P_Found_firstOff G h x7 x9 x8 (fun (r2 : Int32) (h1 : HP) =>
        if r2 ≤ x9 then (
          H_Found_leastRide_36 G h1 x1 x2 x3 x4 x5 x6 x7 x8 (x9 + 1) K
        ) else (
          P_Found_canGetOn G h1 x1 x2 x7 x9 r2 (fun (b4 : Bool) (h3 : HP) =>
            if b4 = true then (
              vp_in x1 4 ∧
              ∀ h5 : HP, h5 = up h3 59 (tn x1) x7 →
              ∀ h7 : HP, h7 = up h5 60 (tn x1) x9 →
              ∀ h8 : HP, h8 = up h7 61 (tn x1) r2 →
              K h8
            ) else (
              H_Found_leastRide_36 G h3 x1 x2 x3 x4 x5 x6 x7 x8 (x9 + 1) K
            )
          )
        )
      )
    )
  )) : H_Found_leastRide_36 G h x1 x2 x3 x4 x5 x6 x7 x8 x9 K := by
  unfold H_Found_leastRide_36
  refine V_iload (q := 8) dX2_leastRide_36 rfl ?_
  refine V_if_eq (tgt := 113) dX2_leastRide_38 (by decide) (fun q => ?_) (fun q => ?_)
  · have t := it_t q t
    refine V_iinc (L' := [(0, .ref (G.1 54)), (1, .int x1), (2, .int x2), (3, .int x3), (4, .int x4), (5, .int x5), (6, .int x6), (7, .int (x7 + 1)), (8, .int x8), (9, .int x9)]) (q := 7) (a := 1) dX2_leastRide_113 rfl rfl (by decide) rfl rfl ?_
    refine V_goto (tgt := 3) dX2_leastRide_116 (by decide) ?_
    refine V_pick (L' := [(0, .ref (G.1 54)), (1, .int x1), (2, .int x2), (3, .int x3), (4, .int x4), (5, .int x5), (6, .int x6), (7, .int (x7 + 1))]) [0, 1, 2, 3, 4, 5, 6, 7] rfl ?_
    exact t
  · have t := it_f q t
    refine V_iload (q := 9) dX2_leastRide_41 rfl ?_
    refine V_bipush (v := 7) dX2_leastRide_43 rfl ?_
    refine V_icmp_ge (tgt := 113) dX2_leastRide_45 (by decide) (fun q => ?_) (fun q => ?_)
    · have t := it_t q t
      refine V_iinc (L' := [(0, .ref (G.1 54)), (1, .int x1), (2, .int x2), (3, .int x3), (4, .int x4), (5, .int x5), (6, .int x6), (7, .int (x7 + 1)), (8, .int x8), (9, .int x9)]) (q := 7) (a := 1) dX2_leastRide_113 rfl rfl (by decide) rfl rfl ?_
      refine V_goto (tgt := 3) dX2_leastRide_116 (by decide) ?_
      refine V_pick (L' := [(0, .ref (G.1 54)), (1, .int x1), (2, .int x2), (3, .int x3), (4, .int x4), (5, .int x5), (6, .int x6), (7, .int (x7 + 1))]) [0, 1, 2, 3, 4, 5, 6, 7] rfl ?_
      exact t
    · have t := it_f q t
      refine V_aload_n (q := 0) dX2_leastRide_48 rfl rfl ?_
      refine V_iload (q := 7) dX2_leastRide_49 rfl ?_
      refine V_iload (q := 9) dX2_leastRide_51 rfl ?_
      refine V_iload (q := 8) dX2_leastRide_53 rfl ?_
      refine V_callV [.int x7, .int x9, .int x8] [] g_X2_leastRide_X2_firstOff wi_X2_firstOff ws_X2_firstOff dX2_leastRide_55 rfl rfl rfl rfl rfl (Nat.le_of_ble_eq_true rfl) t (fun _ h1 t => ?_)
      obtain ⟨r2, rfl, t⟩ := t
      refine V_istore (L' := [(0, .ref (G.1 54)), (1, .int x1), (2, .int x2), (3, .int x3), (4, .int x4), (5, .int x5), (6, .int x6), (7, .int x7), (8, .int x8), (9, .int x9), (10, .int r2)]) dX2_leastRide_58 (by decide) rfl rfl ?_
      refine V_iload (q := 10) dX2_leastRide_60 rfl ?_
      refine V_iload (q := 9) dX2_leastRide_62 rfl ?_
      refine V_icmp_le (tgt := 107) dX2_leastRide_64 (by decide) (fun q => ?_) (fun q => ?_)
      · have t := it_t q t
        refine V_iinc (L' := [(0, .ref (G.1 54)), (1, .int x1), (2, .int x2), (3, .int x3), (4, .int x4), (5, .int x5), (6, .int x6), (7, .int x7), (8, .int x8), (9, .int (x9 + 1)), (10, .int r2)]) (q := 9) (a := 1) dX2_leastRide_107 rfl rfl (by decide) rfl rfl ?_
        refine V_goto (tgt := 36) dX2_leastRide_110 (by decide) ?_
        refine V_pick (L' := [(0, .ref (G.1 54)), (1, .int x1), (2, .int x2), (3, .int x3), (4, .int x4), (5, .int x5), (6, .int x6), (7, .int x7), (8, .int x8), (9, .int (x9 + 1))]) [0, 1, 2, 3, 4, 5, 6, 7, 8, 9] rfl ?_
        exact t
      · have t := it_f q t
        refine V_aload_n (q := 0) dX2_leastRide_67 rfl rfl ?_
        refine V_iload_n (q := 1) dX2_leastRide_68 rfl rfl ?_
        refine V_iload_n (q := 2) dX2_leastRide_69 rfl rfl ?_
        refine V_iload (q := 7) dX2_leastRide_70 rfl ?_
        refine V_iload (q := 9) dX2_leastRide_72 rfl ?_
        refine V_iload (q := 10) dX2_leastRide_74 rfl ?_
        refine V_callV [.int x1, .int x2, .int x7, .int x9, .int r2] [] g_X2_leastRide_X2_canGetOn wi_X2_canGetOn ws_X2_canGetOn dX2_leastRide_76 rfl rfl rfl rfl rfl (Nat.le_of_ble_eq_true rfl) t (fun _ h3 t => ?_)
        obtain ⟨b4, rfl, t⟩ := t
        refine V_ifb_eq (tgt := 107) dX2_leastRide_79 (by decide) (fun q => ?_) (fun q => ?_)
        · have t := it_f q t
          refine V_iinc (L' := [(0, .ref (G.1 54)), (1, .int x1), (2, .int x2), (3, .int x3), (4, .int x4), (5, .int x5), (6, .int x6), (7, .int x7), (8, .int x8), (9, .int (x9 + 1)), (10, .int r2)]) (q := 9) (a := 1) dX2_leastRide_107 rfl rfl (by decide) rfl rfl ?_
          refine V_goto (tgt := 36) dX2_leastRide_110 (by decide) ?_
          refine V_pick (L' := [(0, .ref (G.1 54)), (1, .int x1), (2, .int x2), (3, .int x3), (4, .int x4), (5, .int x5), (6, .int x6), (7, .int x7), (8, .int x8), (9, .int (x9 + 1))]) [0, 1, 2, 3, 4, 5, 6, 7, 8, 9] rfl ?_
          exact t
        · have t := it_t q t
          refine V_aload_n (q := 0) dX2_leastRide_82 rfl rfl ?_
          refine V_getr f_X2_33 dX2_leastRide_83 rfl rfl ?_
          refine V_iload_n (q := 1) dX2_leastRide_86 rfl rfl ?_
          refine V_iload (q := 7) dX2_leastRide_87 rfl ?_
          obtain ⟨n6, t⟩ := t
          have t := t _ rfl
          refine V_iast dX2_leastRide_89 rfl n6 ?_
          refine V_aload_n (q := 0) dX2_leastRide_90 rfl rfl ?_
          refine V_getr f_X2_36 dX2_leastRide_91 rfl rfl ?_
          refine V_iload_n (q := 1) dX2_leastRide_94 rfl rfl ?_
          refine V_iload (q := 9) dX2_leastRide_95 rfl ?_
          have t := t _ rfl
          refine V_iast dX2_leastRide_97 rfl n6 ?_
          refine V_aload_n (q := 0) dX2_leastRide_98 rfl rfl ?_
          refine V_getr f_X2_39 dX2_leastRide_99 rfl rfl ?_
          refine V_iload_n (q := 1) dX2_leastRide_102 rfl rfl ?_
          refine V_iload (q := 10) dX2_leastRide_103 rfl ?_
          have t := t _ rfl
          refine V_iast dX2_leastRide_105 rfl n6 ?_
          exact V_vret rfl dX2_leastRide_106 t
set_option maxRecDepth 20000 in
set_option maxHeartbeats 4000000 in
theorem s_Search_endedAt_0 (G : GA) (h : HP) (x1 : Int32) (x2 : Int32) (x3 : Int32) (K : Int32 → HP → Prop) (t :
  P_Search_canCost G h x1 x2 (fun (b2 : Bool) (h1 : HP) =>
    if b2 = true then (
      P_Search_row G h1 x1 x2 (fun (r4 : Int32) (h3 : HP) =>
        vp_in (r4 + x3) 696 ∧
        K (h3 49 (tn (r4 + x3))) h3
      )
    ) else (
      K 1000000000 h1
    )
  )) : P_Search_endedAt G h x1 x2 x3 K := by
  refine Sp_of_V pf_X5_endedAt (Nat.le_of_ble_eq_true rfl) rfl ?_
  refine V_aload_n (q := 0) dX5_endedAt_0 rfl rfl ?_
  refine V_iload_n (q := 1) dX5_endedAt_1 rfl rfl ?_
  refine V_iload_n (q := 2) dX5_endedAt_2 rfl rfl ?_
  refine V_callV [.int x1, .int x2] [] g_X5_endedAt_X5_canCost wi_X5_canCost ws_X5_canCost dX5_endedAt_3 rfl rfl rfl rfl rfl (Nat.le_of_ble_eq_true rfl) t (fun _ h1 t => ?_)
  obtain ⟨b2, rfl, t⟩ := t
  refine V_ifb_eq (tgt := 25) dX5_endedAt_6 (by decide) (fun q => ?_) (fun q => ?_)
  · have t := it_f q t
    refine V_ldc (v := 1000000000) dX5_endedAt_25 k_X5_50 ?_
    exact V_iret rfl dX5_endedAt_27 t
  · have t := it_t q t
    refine V_aload_n (q := 0) dX5_endedAt_9 rfl rfl ?_
    refine V_getr f_X5_9 dX5_endedAt_10 rfl rfl ?_
    refine V_aload_n (q := 0) dX5_endedAt_13 rfl rfl ?_
    refine V_iload_n (q := 1) dX5_endedAt_14 rfl rfl ?_
    refine V_iload_n (q := 2) dX5_endedAt_15 rfl rfl ?_
    refine V_callV [.int x1, .int x2] [.ref (G.1 49)] g_X5_endedAt_X5_row wi_X5_row ws_X5_row dX5_endedAt_16 rfl rfl rfl rfl rfl (Nat.le_of_ble_eq_true rfl) t (fun _ h3 t => ?_)
    obtain ⟨r4, rfl, t⟩ := t
    refine V_iload_n (q := 3) dX5_endedAt_19 rfl rfl ?_
    refine V_iadd dX5_endedAt_20 ?_
    obtain ⟨n5, t⟩ := t
    refine V_iald dX5_endedAt_21 rfl n5 ?_
    refine V_goto (tgt := 27) dX5_endedAt_22 (by decide) ?_
    exact V_iret rfl dX5_endedAt_27 t
set_option maxRecDepth 20000 in
set_option maxHeartbeats 4000000 in
theorem s_Found_leastWalk_0 (G : GA) (h : HP) (x1 : Int32) (x2 : Int32) (x3 : Int32) (x4 : Int32) (x5 : Int32) (K : Int32 → HP → Prop) (t :
  P_Search_endedAt G h x1 x2 x3 (fun (r2 : Int32) (h1 : HP) =>
    if x4 < (r2 + x5) then (
      H_Found_leastWalk_32 G h1 x1 x2 x3 x4 0 K
    ) else (
      K (-1) h1
    )
  )) : P_Found_leastWalk G h x1 x2 x3 x4 x5 K := by
  refine Sp_of_V pf_X2_leastWalk (Nat.le_of_ble_eq_true rfl) rfl ?_
  refine V_aload_n (q := 0) dX2_leastWalk_0 rfl rfl ?_
  refine V_getr f_X2_42 dX2_leastWalk_1 rfl rfl ?_
  refine V_iload_n (q := 1) dX2_leastWalk_4 rfl rfl ?_
  refine V_iload_n (q := 2) dX2_leastWalk_5 rfl rfl ?_
  refine V_iload_n (q := 3) dX2_leastWalk_6 rfl rfl ?_
  refine V_callV [.int x1, .int x2, .int x3] [] g_X2_leastWalk_X5_endedAt wi_X5_endedAt ws_X5_endedAt dX2_leastWalk_7 rfl rfl rfl rfl rfl (Nat.le_of_ble_eq_true rfl) t (fun _ h1 t => ?_)
  obtain ⟨r2, rfl, t⟩ := t
  refine V_iload (q := 5) dX2_leastWalk_10 rfl ?_
  refine V_iadd dX2_leastWalk_12 ?_
  refine V_iload (q := 4) dX2_leastWalk_13 rfl ?_
  refine V_icmp_gt (tgt := 20) dX2_leastWalk_15 (by decide) (fun q => ?_) (fun q => ?_)
  · have t := it_t q t
    refine V_aload_n (q := 0) dX2_leastWalk_20 rfl rfl ?_
    refine V_getr f_X2_42 dX2_leastWalk_21 rfl rfl ?_
    refine V_getr f_X2_153 dX2_leastWalk_24 rfl rfl ?_
    refine V_astore (L' := [(0, .ref (G.1 54)), (1, .int x1), (2, .int x2), (3, .int x3), (4, .int x4), (5, .int x5), (6, .ref (G.1 22))]) dX2_leastWalk_27 (by decide) rfl rfl ?_
    refine V_iconst (v := 0) dX2_leastWalk_29 rfl ?_
    refine V_istore (L' := [(0, .ref (G.1 54)), (1, .int x1), (2, .int x2), (3, .int x3), (4, .int x4), (5, .int x5), (6, .ref (G.1 22)), (7, .int 0)]) dX2_leastWalk_30 (by decide) rfl rfl ?_
    refine V_pick (L' := [(0, .ref (G.1 54)), (1, .int x1), (2, .int x2), (3, .int x3), (4, .int x4), (6, .ref (G.1 22)), (7, .int 0)]) [0, 1, 2, 3, 4, 6, 7] rfl ?_
    exact t
  · have t := it_f q t
    refine V_iconst (v := (-1)) dX2_leastWalk_18 rfl ?_
    exact V_iret rfl dX2_leastWalk_19 t
set_option maxRecDepth 20000 in
set_option maxHeartbeats 4000000 in
theorem s_Found_leastWalk_32 (G : GA) (h : HP) (x1 : Int32) (x2 : Int32) (x3 : Int32) (x4 : Int32) (x7 : Int32) (K : Int32 → HP → Prop) (t :
  if (h 22 8) ≤ x7 then (
    K (-1) h
  ) else (
    vp_in x7 20 ∧
    if (h 24 (tn x7)) = x3 then (
      P_Search_endedAt G h x1 x2 (h 23 (tn x7)) (fun (r3 : Int32) (h2 : HP) =>
        P_Walks_endsAt G h2 x7 r3 (h2 54 10) (fun (r5 : Int32) (h4 : HP) =>
          if x4 < r5 then (
            H_Found_leastWalk_32 G h4 x1 x2 x3 x4 (x7 + 1) K
          ) else (
            K x7 h4
          )
        )
      )
    ) else (
      H_Found_leastWalk_32 G h x1 x2 x3 x4 (x7 + 1) K
    )
  )) : H_Found_leastWalk_32 G h x1 x2 x3 x4 x7 K := by
  unfold H_Found_leastWalk_32
  refine V_iload (q := 6) dX2_leastWalk_32 rfl ?_
  refine V_aload (q := 5) dX2_leastWalk_34 rfl ?_
  refine V_geti f_X2_157 dX2_leastWalk_36 rfl rfl ?_
  refine V_icmp_ge (tgt := 96) dX2_leastWalk_39 (by decide) (fun q => ?_) (fun q => ?_)
  · have t := it_t q t
    refine V_iconst (v := (-1)) dX2_leastWalk_96 rfl ?_
    exact V_iret rfl dX2_leastWalk_97 t
  · have t := it_f q t
    refine V_aload (q := 5) dX2_leastWalk_42 rfl ?_
    refine V_getr f_X2_160 dX2_leastWalk_44 rfl rfl ?_
    refine V_iload (q := 6) dX2_leastWalk_47 rfl ?_
    obtain ⟨n1, t⟩ := t
    refine V_iald dX2_leastWalk_49 rfl n1 ?_
    refine V_iload_n (q := 3) dX2_leastWalk_50 rfl rfl ?_
    refine V_icmp_ne (tgt := 90) dX2_leastWalk_51 (by decide) (fun q => ?_) (fun q => ?_)
    · have t := it_f q t
      refine V_iinc (L' := [(0, .ref (G.1 54)), (1, .int x1), (2, .int x2), (3, .int x3), (4, .int x4), (6, .ref (G.1 22)), (7, .int (x7 + 1))]) (q := 6) (a := 1) dX2_leastWalk_90 rfl rfl (by decide) rfl rfl ?_
      refine V_goto (tgt := 32) dX2_leastWalk_93 (by decide) ?_
      exact t
    · have t := it_t q t
      refine V_aload (q := 5) dX2_leastWalk_54 rfl ?_
      refine V_iload (q := 6) dX2_leastWalk_56 rfl ?_
      refine V_aload_n (q := 0) dX2_leastWalk_58 rfl rfl ?_
      refine V_getr f_X2_42 dX2_leastWalk_59 rfl rfl ?_
      refine V_iload_n (q := 1) dX2_leastWalk_62 rfl rfl ?_
      refine V_iload_n (q := 2) dX2_leastWalk_63 rfl rfl ?_
      refine V_aload (q := 5) dX2_leastWalk_64 rfl ?_
      refine V_getr f_X2_163 dX2_leastWalk_66 rfl rfl ?_
      refine V_iload (q := 6) dX2_leastWalk_69 rfl ?_
      refine V_iald dX2_leastWalk_71 rfl n1 ?_
      refine V_callV [.int x1, .int x2, .int (h 23 (tn x7))] [.int x7, .ref (G.1 22)] g_X2_leastWalk_X5_endedAt wi_X5_endedAt ws_X5_endedAt dX2_leastWalk_72 rfl rfl rfl rfl rfl (Nat.le_of_ble_eq_true rfl) t (fun _ h2 t => ?_)
      obtain ⟨r3, rfl, t⟩ := t
      refine V_aload_n (q := 0) dX2_leastWalk_75 rfl rfl ?_
      refine V_geti f_X2_67 dX2_leastWalk_76 rfl rfl ?_
      refine V_callV [.int x7, .int r3, .int (h2 54 10)] [] g_X2_leastWalk_X10_endsAt wi_X10_endsAt ws_X10_endsAt dX2_leastWalk_79 rfl rfl rfl rfl rfl (Nat.le_of_ble_eq_true rfl) t (fun _ h4 t => ?_)
      obtain ⟨r5, rfl, t⟩ := t
      refine V_iload (q := 4) dX2_leastWalk_82 rfl ?_
      refine V_icmp_gt (tgt := 90) dX2_leastWalk_84 (by decide) (fun q => ?_) (fun q => ?_)
      · have t := it_t q t
        refine V_iinc (L' := [(0, .ref (G.1 54)), (1, .int x1), (2, .int x2), (3, .int x3), (4, .int x4), (6, .ref (G.1 22)), (7, .int (x7 + 1))]) (q := 6) (a := 1) dX2_leastWalk_90 rfl rfl (by decide) rfl rfl ?_
        refine V_goto (tgt := 32) dX2_leastWalk_93 (by decide) ?_
        exact t
      · have t := it_f q t
        refine V_iload (q := 6) dX2_leastWalk_87 rfl ?_
        exact V_iret rfl dX2_leastWalk_89 t
set_option maxRecDepth 20000 in
set_option maxHeartbeats 4000000 in
theorem s_Found_trace_0 (G : GA) (h : HP) (x1 : Int32) (x2 : Int32) (x3 : Int32) (x4 : Int32) (K : HP → Prop) (t :
  H_Found_trace_16 G h x3 x4 0 x2 x1 K) : P_Found_trace G h x1 x2 x3 x4 K := by
  refine Sp_of_V pf_X2_trace (Nat.le_of_ble_eq_true rfl) rfl ?_
  refine V_iload_n (q := 3) dX2_trace_0 rfl rfl ?_
  refine V_istore (L' := [(0, .ref (G.1 54)), (1, .int x1), (2, .int x2), (3, .int x3), (4, .int x4), (5, .int x3)]) dX2_trace_1 (by decide) rfl rfl ?_
  refine V_iload (q := 4) dX2_trace_3 rfl ?_
  refine V_istore (L' := [(0, .ref (G.1 54)), (1, .int x1), (2, .int x2), (3, .int x3), (4, .int x4), (5, .int x3), (6, .int x4)]) dX2_trace_5 (by decide) rfl rfl ?_
  refine V_iconst (v := 0) dX2_trace_7 rfl ?_
  refine V_istore (L' := [(0, .ref (G.1 54)), (1, .int x1), (2, .int x2), (3, .int x3), (4, .int x4), (5, .int x3), (6, .int x4), (7, .int 0)]) dX2_trace_8 (by decide) rfl rfl ?_
  refine V_iload_n (q := 2) dX2_trace_10 rfl rfl ?_
  refine V_istore (L' := [(0, .ref (G.1 54)), (1, .int x1), (2, .int x2), (3, .int x3), (4, .int x4), (5, .int x3), (6, .int x4), (7, .int 0), (8, .int x2)]) dX2_trace_11 (by decide) rfl rfl ?_
  refine V_iload_n (q := 1) dX2_trace_13 rfl rfl ?_
  refine V_istore (L' := [(0, .ref (G.1 54)), (1, .int x1), (2, .int x2), (3, .int x3), (4, .int x4), (5, .int x3), (6, .int x4), (7, .int 0), (8, .int x2), (9, .int x1)]) dX2_trace_14 (by decide) rfl rfl ?_
  refine V_pick (L' := [(0, .ref (G.1 54)), (5, .int x3), (6, .int x4), (7, .int 0), (8, .int x2), (9, .int x1)]) [0, 5, 6, 7, 8, 9] rfl ?_
  exact t
set_option maxRecDepth 20000 in
set_option maxHeartbeats 4000000 in
theorem s_Found_trace_16 (G : GA) (h : HP) (x5 : Int32) (x6 : Int32) (x7 : Int32) (x8 : Int32) (x9 : Int32) (K : HP → Prop) (t :
  if x9 < 0 then (
    K h
  ) else (
    P_Found_leastWalk G h x9 x8 x5 x6 x7 (fun (r2 : Int32) (h1 : HP) =>
      vp_in x9 4 ∧
      ∀ h3 : HP, h3 = up h1 58 (tn x9) r2 →
      if x9 ≤ 0 then (
        H_Found_trace_16 G h3 x5 x6 x7 x8 (x9 + (-1)) K
      ) else (
        P_Found_leastRide G h3 x9 x8 (h3 58 (tn x9)) x5 x6 x7 (fun h5 : HP =>
          vp_in (h5 59 (tn x9)) 132 ∧
          vp_in (((h5 43 (tn (h5 59 (tn x9)))) * 8) + (h5 60 (tn x9))) 192 ∧
          ∀ v8 : Int32, v8 = (h5 17 (tn (((h5 43 (tn (h5 59 (tn x9)))) * 8) + (h5 60 (tn x9))))) →
          vp_in (((h5 43 (tn (h5 59 (tn x9)))) * 8) + (h5 61 (tn x9))) 192 ∧
          ∀ v10 : Int32, v10 = (h5 17 (tn (((h5 43 (tn (h5 59 (tn x9)))) * 8) + (h5 61 (tn x9))))) →
          P_Stops_priceOfRide G h5 v8 v10 (fun (r12 : Int32) (h11 : HP) =>
            vp_in (((h11 59 (tn x9)) * 8) + (h11 60 (tn x9))) 1056 ∧
            ∀ v14 : Int32, v14 = (h11 47 (tn (((h11 59 (tn x9)) * 8) + (h11 60 (tn x9))))) →
            if x9 ≤ 1 then (
              H_Found_trace_16 G h11 v8 v14 0 (x8 - r12) (x9 + (-1)) K
            ) else (
              vp_in v8 12 ∧
              H_Found_trace_16 G h11 v8 v14 (h11 3 (tn v8)) (x8 - r12) (x9 + (-1)) K
            )
          )
        )
      )
    )
  )) : H_Found_trace_16 G h x5 x6 x7 x8 x9 K := by
  unfold H_Found_trace_16
  refine V_iload (q := 5) dX2_trace_16 rfl ?_
  refine V_if_lt (tgt := 225) dX2_trace_18 (by decide) (fun q => ?_) (fun q => ?_)
  · have t := it_t q t
    exact V_vret rfl dX2_trace_225 t
  · have t := it_f q t
    refine V_aload_n (q := 0) dX2_trace_21 rfl rfl ?_
    refine V_getr f_X2_30 dX2_trace_22 rfl rfl ?_
    refine V_iload (q := 5) dX2_trace_25 rfl ?_
    refine V_aload_n (q := 0) dX2_trace_27 rfl rfl ?_
    refine V_iload (q := 5) dX2_trace_28 rfl ?_
    refine V_iload (q := 4) dX2_trace_30 rfl ?_
    refine V_iload (q := 1) dX2_trace_32 rfl ?_
    refine V_iload (q := 2) dX2_trace_34 rfl ?_
    refine V_iload (q := 3) dX2_trace_36 rfl ?_
    refine V_callV [.int x9, .int x8, .int x5, .int x6, .int x7] [.int x9, .ref (G.1 58)] g_X2_trace_X2_leastWalk wi_X2_leastWalk ws_X2_leastWalk dX2_trace_38 rfl rfl rfl rfl rfl (Nat.le_of_ble_eq_true rfl) t (fun _ h1 t => ?_)
    obtain ⟨r2, rfl, t⟩ := t
    obtain ⟨n4, t⟩ := t
    have t := t _ rfl
    refine V_iast dX2_trace_41 rfl n4 ?_
    refine V_iload (q := 5) dX2_trace_42 rfl ?_
    refine V_if_le (tgt := 219) dX2_trace_44 (by decide) (fun q => ?_) (fun q => ?_)
    · have t := it_t q t
      refine V_iinc (L' := [(0, .ref (G.1 54)), (5, .int x5), (6, .int x6), (7, .int x7), (8, .int x8), (9, .int (x9 + (-1)))]) (q := 5) (a := (-1)) dX2_trace_219 rfl rfl (by decide) rfl rfl ?_
      refine V_goto (tgt := 16) dX2_trace_222 (by decide) ?_
      exact t
    · have t := it_f q t
      refine V_aload_n (q := 0) dX2_trace_47 rfl rfl ?_
      refine V_iload (q := 5) dX2_trace_48 rfl ?_
      refine V_iload (q := 4) dX2_trace_50 rfl ?_
      refine V_aload_n (q := 0) dX2_trace_52 rfl rfl ?_
      refine V_getr f_X2_30 dX2_trace_53 rfl rfl ?_
      refine V_iload (q := 5) dX2_trace_56 rfl ?_
      refine V_iald dX2_trace_58 rfl n4 ?_
      refine V_iload (q := 1) dX2_trace_59 rfl ?_
      refine V_iload (q := 2) dX2_trace_61 rfl ?_
      refine V_iload (q := 3) dX2_trace_63 rfl ?_
      refine V_callV [.int x9, .int x8, .int ((up h1 58 (tn x9) r2) 58 (tn x9)), .int x5, .int x6, .int x7] [] g_X2_trace_X2_leastRide wi_X2_leastRide ws_X2_leastRide dX2_trace_65 rfl rfl rfl rfl rfl (Nat.le_of_ble_eq_true rfl) t (fun _ h5 t => ?_)
      obtain ⟨rfl, t⟩ := t
      refine V_aload_n (q := 0) dX2_trace_68 rfl rfl ?_
      refine V_getr f_X2_42 dX2_trace_69 rfl rfl ?_
      refine V_getr f_X2_117 dX2_trace_72 rfl rfl ?_
      refine V_getr f_X2_121 dX2_trace_75 rfl rfl ?_
      refine V_aload_n (q := 0) dX2_trace_78 rfl rfl ?_
      refine V_getr f_X2_33 dX2_trace_79 rfl rfl ?_
      refine V_iload (q := 5) dX2_trace_82 rfl ?_
      refine V_iald dX2_trace_84 rfl n4 ?_
      obtain ⟨n6, t⟩ := t
      refine V_iald dX2_trace_85 rfl n6 ?_
      refine V_istore (L' := [(0, .ref (G.1 54)), (5, .int x5), (6, .int x6), (7, .int x7), (8, .int x8), (9, .int x9), (10, .int (h5 43 (tn (h5 59 (tn x9)))))]) dX2_trace_86 (by decide) rfl rfl ?_
      refine V_aload_n (q := 0) dX2_trace_88 rfl rfl ?_
      refine V_getr f_X2_42 dX2_trace_89 rfl rfl ?_
      refine V_getr f_X2_126 dX2_trace_92 rfl rfl ?_
      refine V_getr f_X2_130 dX2_trace_95 rfl rfl ?_
      refine V_iload (q := 6) dX2_trace_98 rfl ?_
      refine V_bipush (v := 8) dX2_trace_100 rfl ?_
      refine V_imul dX2_trace_102 ?_
      refine V_aload_n (q := 0) dX2_trace_103 rfl rfl ?_
      refine V_getr f_X2_36 dX2_trace_104 rfl rfl ?_
      refine V_iload (q := 5) dX2_trace_107 rfl ?_
      refine V_iald dX2_trace_109 rfl n4 ?_
      refine V_iadd dX2_trace_110 ?_
      obtain ⟨n7, t⟩ := t
      refine V_iald dX2_trace_111 rfl n7 ?_
      have t := t _ rfl
      refine V_istore (L' := [(0, .ref (G.1 54)), (5, .int x5), (6, .int x6), (7, .int x7), (8, .int x8), (9, .int x9), (10, .int (h5 43 (tn (h5 59 (tn x9))))), (11, .int (h5 17 (tn (((h5 43 (tn (h5 59 (tn x9)))) * 8) + (h5 60 (tn x9))))))]) dX2_trace_112 (by decide) rfl rfl ?_
      refine V_aload_n (q := 0) dX2_trace_114 rfl rfl ?_
      refine V_getr f_X2_42 dX2_trace_115 rfl rfl ?_
      refine V_getr f_X2_126 dX2_trace_118 rfl rfl ?_
      refine V_getr f_X2_130 dX2_trace_121 rfl rfl ?_
      refine V_iload (q := 6) dX2_trace_124 rfl ?_
      refine V_bipush (v := 8) dX2_trace_126 rfl ?_
      refine V_imul dX2_trace_128 ?_
      refine V_aload_n (q := 0) dX2_trace_129 rfl rfl ?_
      refine V_getr f_X2_39 dX2_trace_130 rfl rfl ?_
      refine V_iload (q := 5) dX2_trace_133 rfl ?_
      refine V_iald dX2_trace_135 rfl n4 ?_
      refine V_iadd dX2_trace_136 ?_
      obtain ⟨n9, t⟩ := t
      refine V_iald dX2_trace_137 rfl n9 ?_
      have t := t _ rfl
      refine V_istore (L' := [(0, .ref (G.1 54)), (5, .int x5), (6, .int x6), (7, .int x7), (8, .int x8), (9, .int x9), (10, .int (h5 43 (tn (h5 59 (tn x9))))), (11, .int (h5 17 (tn (((h5 43 (tn (h5 59 (tn x9)))) * 8) + (h5 60 (tn x9)))))), (12, .int (h5 17 (tn (((h5 43 (tn (h5 59 (tn x9)))) * 8) + (h5 61 (tn x9))))))]) dX2_trace_138 (by decide) rfl rfl ?_
      refine V_iload (q := 4) dX2_trace_140 rfl ?_
      refine V_aload_n (q := 0) dX2_trace_142 rfl rfl ?_
      refine V_getr f_X2_42 dX2_trace_143 rfl rfl ?_
      refine V_getr f_X2_135 dX2_trace_146 rfl rfl ?_
      refine V_iload (q := 7) dX2_trace_149 rfl ?_
      refine V_iload (q := 8) dX2_trace_151 rfl ?_
      refine V_callV [.int (h5 17 (tn (((h5 43 (tn (h5 59 (tn x9)))) * 8) + (h5 60 (tn x9))))), .int (h5 17 (tn (((h5 43 (tn (h5 59 (tn x9)))) * 8) + (h5 61 (tn x9)))))] [.int x8] g_X2_trace_X7_priceOfRide wi_X7_priceOfRide ws_X7_priceOfRide dX2_trace_153 rfl rfl rfl rfl rfl (Nat.le_of_ble_eq_true rfl) t (fun _ h11 t => ?_)
      obtain ⟨r12, rfl, t⟩ := t
      refine V_isub dX2_trace_156 ?_
      refine V_istore (L' := [(0, .ref (G.1 54)), (5, .int x5), (6, .int x6), (7, .int x7), (8, .int (x8 - r12)), (9, .int x9), (10, .int (h5 43 (tn (h5 59 (tn x9))))), (11, .int (h5 17 (tn (((h5 43 (tn (h5 59 (tn x9)))) * 8) + (h5 60 (tn x9)))))), (12, .int (h5 17 (tn (((h5 43 (tn (h5 59 (tn x9)))) * 8) + (h5 61 (tn x9))))))]) dX2_trace_157 (by decide) rfl rfl ?_
      refine V_iload (q := 7) dX2_trace_159 rfl ?_
      refine V_istore (L' := [(0, .ref (G.1 54)), (5, .int (h5 17 (tn (((h5 43 (tn (h5 59 (tn x9)))) * 8) + (h5 60 (tn x9)))))), (6, .int x6), (7, .int x7), (8, .int (x8 - r12)), (9, .int x9), (10, .int (h5 43 (tn (h5 59 (tn x9))))), (11, .int (h5 17 (tn (((h5 43 (tn (h5 59 (tn x9)))) * 8) + (h5 60 (tn x9)))))), (12, .int (h5 17 (tn (((h5 43 (tn (h5 59 (tn x9)))) * 8) + (h5 61 (tn x9))))))]) dX2_trace_161 (by decide) rfl rfl ?_
      refine V_aload_n (q := 0) dX2_trace_163 rfl rfl ?_
      refine V_getr f_X2_42 dX2_trace_164 rfl rfl ?_
      refine V_getr f_X2_117 dX2_trace_167 rfl rfl ?_
      refine V_getr f_X2_144 dX2_trace_170 rfl rfl ?_
      refine V_aload_n (q := 0) dX2_trace_173 rfl rfl ?_
      refine V_getr f_X2_33 dX2_trace_174 rfl rfl ?_
      refine V_iload (q := 5) dX2_trace_177 rfl ?_
      refine V_iald dX2_trace_179 rfl n4 ?_
      refine V_bipush (v := 8) dX2_trace_180 rfl ?_
      refine V_imul dX2_trace_182 ?_
      refine V_aload_n (q := 0) dX2_trace_183 rfl rfl ?_
      refine V_getr f_X2_36 dX2_trace_184 rfl rfl ?_
      refine V_iload (q := 5) dX2_trace_187 rfl ?_
      refine V_iald dX2_trace_189 rfl n4 ?_
      refine V_iadd dX2_trace_190 ?_
      obtain ⟨n13, t⟩ := t
      refine V_iald dX2_trace_191 rfl n13 ?_
      have t := t _ rfl
      refine V_istore (L' := [(0, .ref (G.1 54)), (5, .int (h5 17 (tn (((h5 43 (tn (h5 59 (tn x9)))) * 8) + (h5 60 (tn x9)))))), (6, .int (h11 47 (tn (((h11 59 (tn x9)) * 8) + (h11 60 (tn x9)))))), (7, .int x7), (8, .int (x8 - r12)), (9, .int x9), (10, .int (h5 43 (tn (h5 59 (tn x9))))), (11, .int (h5 17 (tn (((h5 43 (tn (h5 59 (tn x9)))) * 8) + (h5 60 (tn x9)))))), (12, .int (h5 17 (tn (((h5 43 (tn (h5 59 (tn x9)))) * 8) + (h5 61 (tn x9))))))]) dX2_trace_192 (by decide) rfl rfl ?_
      refine V_iload (q := 5) dX2_trace_194 rfl ?_
      refine V_iconst (v := 1) dX2_trace_196 rfl ?_
      refine V_icmp_le (tgt := 216) dX2_trace_197 (by decide) (fun q => ?_) (fun q => ?_)
      · have t := it_t q t
        refine V_iconst (v := 0) dX2_trace_216 rfl ?_
        refine V_istore (L' := [(0, .ref (G.1 54)), (5, .int (h5 17 (tn (((h5 43 (tn (h5 59 (tn x9)))) * 8) + (h5 60 (tn x9)))))), (6, .int (h11 47 (tn (((h11 59 (tn x9)) * 8) + (h11 60 (tn x9)))))), (7, .int 0), (8, .int (x8 - r12)), (9, .int x9), (10, .int (h5 43 (tn (h5 59 (tn x9))))), (11, .int (h5 17 (tn (((h5 43 (tn (h5 59 (tn x9)))) * 8) + (h5 60 (tn x9)))))), (12, .int (h5 17 (tn (((h5 43 (tn (h5 59 (tn x9)))) * 8) + (h5 61 (tn x9))))))]) dX2_trace_217 (by decide) rfl rfl ?_
        refine V_iinc (L' := [(0, .ref (G.1 54)), (5, .int (h5 17 (tn (((h5 43 (tn (h5 59 (tn x9)))) * 8) + (h5 60 (tn x9)))))), (6, .int (h11 47 (tn (((h11 59 (tn x9)) * 8) + (h11 60 (tn x9)))))), (7, .int 0), (8, .int (x8 - r12)), (9, .int (x9 + (-1))), (10, .int (h5 43 (tn (h5 59 (tn x9))))), (11, .int (h5 17 (tn (((h5 43 (tn (h5 59 (tn x9)))) * 8) + (h5 60 (tn x9)))))), (12, .int (h5 17 (tn (((h5 43 (tn (h5 59 (tn x9)))) * 8) + (h5 61 (tn x9))))))]) (q := 5) (a := (-1)) dX2_trace_219 rfl rfl (by decide) rfl rfl ?_
        refine V_goto (tgt := 16) dX2_trace_222 (by decide) ?_
        refine V_pick (L' := [(0, .ref (G.1 54)), (5, .int (h5 17 (tn (((h5 43 (tn (h5 59 (tn x9)))) * 8) + (h5 60 (tn x9)))))), (6, .int (h11 47 (tn (((h11 59 (tn x9)) * 8) + (h11 60 (tn x9)))))), (7, .int 0), (8, .int (x8 - r12)), (9, .int (x9 + (-1)))]) [0, 1, 2, 3, 4, 5] rfl ?_
        exact t
      · have t := it_f q t
        refine V_aload_n (q := 0) dX2_trace_200 rfl rfl ?_
        refine V_getr f_X2_42 dX2_trace_201 rfl rfl ?_
        refine V_getr f_X2_135 dX2_trace_204 rfl rfl ?_
        refine V_getr f_X2_147 dX2_trace_207 rfl rfl ?_
        refine V_iload (q := 7) dX2_trace_210 rfl ?_
        obtain ⟨n15, t⟩ := t
        refine V_iald dX2_trace_212 rfl n15 ?_
        refine V_goto (tgt := 217) dX2_trace_213 (by decide) ?_
        refine V_istore (L' := [(0, .ref (G.1 54)), (5, .int (h5 17 (tn (((h5 43 (tn (h5 59 (tn x9)))) * 8) + (h5 60 (tn x9)))))), (6, .int (h11 47 (tn (((h11 59 (tn x9)) * 8) + (h11 60 (tn x9)))))), (7, .int (h11 3 (tn (h5 17 (tn (((h5 43 (tn (h5 59 (tn x9)))) * 8) + (h5 60 (tn x9)))))))), (8, .int (x8 - r12)), (9, .int x9), (10, .int (h5 43 (tn (h5 59 (tn x9))))), (11, .int (h5 17 (tn (((h5 43 (tn (h5 59 (tn x9)))) * 8) + (h5 60 (tn x9)))))), (12, .int (h5 17 (tn (((h5 43 (tn (h5 59 (tn x9)))) * 8) + (h5 61 (tn x9))))))]) dX2_trace_217 (by decide) rfl rfl ?_
        refine V_iinc (L' := [(0, .ref (G.1 54)), (5, .int (h5 17 (tn (((h5 43 (tn (h5 59 (tn x9)))) * 8) + (h5 60 (tn x9)))))), (6, .int (h11 47 (tn (((h11 59 (tn x9)) * 8) + (h11 60 (tn x9)))))), (7, .int (h11 3 (tn (h5 17 (tn (((h5 43 (tn (h5 59 (tn x9)))) * 8) + (h5 60 (tn x9)))))))), (8, .int (x8 - r12)), (9, .int (x9 + (-1))), (10, .int (h5 43 (tn (h5 59 (tn x9))))), (11, .int (h5 17 (tn (((h5 43 (tn (h5 59 (tn x9)))) * 8) + (h5 60 (tn x9)))))), (12, .int (h5 17 (tn (((h5 43 (tn (h5 59 (tn x9)))) * 8) + (h5 61 (tn x9))))))]) (q := 5) (a := (-1)) dX2_trace_219 rfl rfl (by decide) rfl rfl ?_
        refine V_goto (tgt := 16) dX2_trace_222 (by decide) ?_
        refine V_pick (L' := [(0, .ref (G.1 54)), (5, .int (h5 17 (tn (((h5 43 (tn (h5 59 (tn x9)))) * 8) + (h5 60 (tn x9)))))), (6, .int (h11 47 (tn (((h11 59 (tn x9)) * 8) + (h11 60 (tn x9)))))), (7, .int (h11 3 (tn (h5 17 (tn (((h5 43 (tn (h5 59 (tn x9)))) * 8) + (h5 60 (tn x9)))))))), (8, .int (x8 - r12)), (9, .int (x9 + (-1)))]) [0, 1, 2, 3, 4, 5] rfl ?_
        exact t
set_option maxRecDepth 20000 in
set_option maxHeartbeats 4000000 in
theorem s_Found_ofLeg_0 (G : GA) (h : HP) (x1 : Int32) (x2 : Int32) (x3 : Int32) (K : Int32 → HP → Prop) (t :
  vp_in ((((x1 * 7) + x2) * 9) + x3) 3654 ∧
  K (h 56 (tn ((((x1 * 7) + x2) * 9) + x3))) h) : P_Found_ofLeg G h x1 x2 x3 K := by
  refine Sp_of_V pf_X2_ofLeg (Nat.le_of_ble_eq_true rfl) rfl ?_
  refine V_aload_n (q := 0) dX2_ofLeg_0 rfl rfl ?_
  refine V_getr f_X2_15 dX2_ofLeg_1 rfl rfl ?_
  refine V_iload_n (q := 1) dX2_ofLeg_4 rfl rfl ?_
  refine V_bipush (v := 7) dX2_ofLeg_5 rfl ?_
  refine V_imul dX2_ofLeg_7 ?_
  refine V_iload_n (q := 2) dX2_ofLeg_8 rfl rfl ?_
  refine V_iadd dX2_ofLeg_9 ?_
  refine V_bipush (v := 9) dX2_ofLeg_10 rfl ?_
  refine V_imul dX2_ofLeg_12 ?_
  refine V_iload_n (q := 3) dX2_ofLeg_13 rfl rfl ?_
  refine V_iadd dX2_ofLeg_14 ?_
  obtain ⟨n1, t⟩ := t
  refine V_iald dX2_ofLeg_15 rfl n1 ?_
  exact V_iret rfl dX2_ofLeg_16 t
set_option maxRecDepth 20000 in
set_option maxHeartbeats 4000000 in
theorem s_Found_writeRide_0 (G : GA) (h : HP) (x1 : Int32) (x2 : Int32) (x3 : Int32) (x4 : Int32) (K : Int32 → HP → Prop) (t :
  vp_in x2 132 ∧
  vp_in (h 43 (tn x2)) 24 ∧
  vp_in ((x1 * 9) + 0) 3654 ∧
  ∀ h3 : HP, h3 = up h 56 (tn ((x1 * 9) + 0)) (h 12 (tn (h 43 (tn x2)))) →
  vp_in ((x1 * 9) + 1) 3654 ∧
  ∀ h5 : HP, h5 = up h3 56 (tn ((x1 * 9) + 1)) (h 43 (tn x2)) →
  vp_in (((h 43 (tn x2)) * 8) + x3) 192 ∧
  vp_in ((x1 * 9) + 2) 3654 ∧
  ∀ h8 : HP, h8 = up h5 56 (tn ((x1 * 9) + 2)) (h 17 (tn (((h 43 (tn x2)) * 8) + x3))) →
  vp_in (((h 43 (tn x2)) * 8) + x4) 192 ∧
  vp_in ((x1 * 9) + 3) 3654 ∧
  ∀ h11 : HP, h11 = up h8 56 (tn ((x1 * 9) + 3)) (h 17 (tn (((h 43 (tn x2)) * 8) + x4))) →
  vp_in ((x2 * 8) + x3) 1056 ∧
  vp_in ((x1 * 9) + 4) 3654 ∧
  ∀ h14 : HP, h14 = up h11 56 (tn ((x1 * 9) + 4)) (h 47 (tn ((x2 * 8) + x3))) →
  vp_in ((x2 * 8) + x4) 1056 ∧
  vp_in ((x1 * 9) + 5) 3654 ∧
  ∀ h17 : HP, h17 = up h14 56 (tn ((x1 * 9) + 5)) (h 46 (tn ((x2 * 8) + x4))) →
  vp_in ((x1 * 9) + 6) 3654 ∧
  ∀ h19 : HP, h19 = up h17 56 (tn ((x1 * 9) + 6)) (h 44 (tn x2)) →
  vp_in ((x1 * 9) + 7) 3654 ∧
  ∀ h21 : HP, h21 = up h19 56 (tn ((x1 * 9) + 7)) x3 →
  vp_in ((x1 * 9) + 8) 3654 ∧
  ∀ h23 : HP, h23 = up h21 56 (tn ((x1 * 9) + 8)) x4 →
  K (h23 56 (tn ((x1 * 9) + 5))) h23) : P_Found_writeRide G h x1 x2 x3 x4 K := by
  refine Sp_of_V pf_X2_writeRide (Nat.le_of_ble_eq_true rfl) rfl ?_
  refine V_iload_n (q := 1) dX2_writeRide_0 rfl rfl ?_
  refine V_bipush (v := 9) dX2_writeRide_1 rfl ?_
  refine V_imul dX2_writeRide_3 ?_
  refine V_istore (L' := [(0, .ref (G.1 54)), (1, .int x1), (2, .int x2), (3, .int x3), (4, .int x4), (5, .int (x1 * 9))]) dX2_writeRide_4 (by decide) rfl rfl ?_
  refine V_aload_n (q := 0) dX2_writeRide_6 rfl rfl ?_
  refine V_getr f_X2_42 dX2_writeRide_7 rfl rfl ?_
  refine V_getr f_X2_117 dX2_writeRide_10 rfl rfl ?_
  refine V_getr f_X2_121 dX2_writeRide_13 rfl rfl ?_
  refine V_iload_n (q := 2) dX2_writeRide_16 rfl rfl ?_
  obtain ⟨n1, t⟩ := t
  refine V_iald dX2_writeRide_17 rfl n1 ?_
  refine V_istore (L' := [(0, .ref (G.1 54)), (1, .int x1), (2, .int x2), (3, .int x3), (4, .int x4), (5, .int (x1 * 9)), (6, .int (h 43 (tn x2)))]) dX2_writeRide_18 (by decide) rfl rfl ?_
  refine V_aload_n (q := 0) dX2_writeRide_20 rfl rfl ?_
  refine V_getr f_X2_15 dX2_writeRide_21 rfl rfl ?_
  refine V_iload (q := 5) dX2_writeRide_24 rfl ?_
  refine V_iconst (v := 0) dX2_writeRide_26 rfl ?_
  refine V_iadd dX2_writeRide_27 ?_
  refine V_aload_n (q := 0) dX2_writeRide_28 rfl rfl ?_
  refine V_getr f_X2_42 dX2_writeRide_29 rfl rfl ?_
  refine V_getr f_X2_126 dX2_writeRide_32 rfl rfl ?_
  refine V_getr f_X2_202 dX2_writeRide_35 rfl rfl ?_
  refine V_iload (q := 6) dX2_writeRide_38 rfl ?_
  obtain ⟨n2, t⟩ := t
  refine V_iald dX2_writeRide_40 rfl n2 ?_
  obtain ⟨n4, t⟩ := t
  have t := t _ rfl
  refine V_iast dX2_writeRide_41 rfl n4 ?_
  refine V_aload_n (q := 0) dX2_writeRide_42 rfl rfl ?_
  refine V_getr f_X2_15 dX2_writeRide_43 rfl rfl ?_
  refine V_iload (q := 5) dX2_writeRide_46 rfl ?_
  refine V_iconst (v := 1) dX2_writeRide_48 rfl ?_
  refine V_iadd dX2_writeRide_49 ?_
  refine V_iload (q := 6) dX2_writeRide_50 rfl ?_
  obtain ⟨n6, t⟩ := t
  have t := t _ rfl
  refine V_iast dX2_writeRide_52 rfl n6 ?_
  refine V_aload_n (q := 0) dX2_writeRide_53 rfl rfl ?_
  refine V_getr f_X2_15 dX2_writeRide_54 rfl rfl ?_
  refine V_iload (q := 5) dX2_writeRide_57 rfl ?_
  refine V_iconst (v := 2) dX2_writeRide_59 rfl ?_
  refine V_iadd dX2_writeRide_60 ?_
  refine V_aload_n (q := 0) dX2_writeRide_61 rfl rfl ?_
  refine V_getr f_X2_42 dX2_writeRide_62 rfl rfl ?_
  refine V_getr f_X2_126 dX2_writeRide_65 rfl rfl ?_
  refine V_getr f_X2_130 dX2_writeRide_68 rfl rfl ?_
  refine V_iload (q := 6) dX2_writeRide_71 rfl ?_
  refine V_bipush (v := 8) dX2_writeRide_73 rfl ?_
  refine V_imul dX2_writeRide_75 ?_
  refine V_iload_n (q := 3) dX2_writeRide_76 rfl rfl ?_
  refine V_iadd dX2_writeRide_77 ?_
  obtain ⟨n7, t⟩ := t
  refine V_iald dX2_writeRide_78 rfl n7 ?_
  obtain ⟨n9, t⟩ := t
  have t := t _ rfl
  refine V_iast dX2_writeRide_79 rfl n9 ?_
  refine V_aload_n (q := 0) dX2_writeRide_80 rfl rfl ?_
  refine V_getr f_X2_15 dX2_writeRide_81 rfl rfl ?_
  refine V_iload (q := 5) dX2_writeRide_84 rfl ?_
  refine V_iconst (v := 3) dX2_writeRide_86 rfl ?_
  refine V_iadd dX2_writeRide_87 ?_
  refine V_aload_n (q := 0) dX2_writeRide_88 rfl rfl ?_
  refine V_getr f_X2_42 dX2_writeRide_89 rfl rfl ?_
  refine V_getr f_X2_126 dX2_writeRide_92 rfl rfl ?_
  refine V_getr f_X2_130 dX2_writeRide_95 rfl rfl ?_
  refine V_iload (q := 6) dX2_writeRide_98 rfl ?_
  refine V_bipush (v := 8) dX2_writeRide_100 rfl ?_
  refine V_imul dX2_writeRide_102 ?_
  refine V_iload (q := 4) dX2_writeRide_103 rfl ?_
  refine V_iadd dX2_writeRide_105 ?_
  obtain ⟨n10, t⟩ := t
  refine V_iald dX2_writeRide_106 rfl n10 ?_
  obtain ⟨n12, t⟩ := t
  have t := t _ rfl
  refine V_iast dX2_writeRide_107 rfl n12 ?_
  refine V_aload_n (q := 0) dX2_writeRide_108 rfl rfl ?_
  refine V_getr f_X2_15 dX2_writeRide_109 rfl rfl ?_
  refine V_iload (q := 5) dX2_writeRide_112 rfl ?_
  refine V_iconst (v := 4) dX2_writeRide_114 rfl ?_
  refine V_iadd dX2_writeRide_115 ?_
  refine V_aload_n (q := 0) dX2_writeRide_116 rfl rfl ?_
  refine V_getr f_X2_42 dX2_writeRide_117 rfl rfl ?_
  refine V_getr f_X2_117 dX2_writeRide_120 rfl rfl ?_
  refine V_getr f_X2_144 dX2_writeRide_123 rfl rfl ?_
  refine V_iload_n (q := 2) dX2_writeRide_126 rfl rfl ?_
  refine V_bipush (v := 8) dX2_writeRide_127 rfl ?_
  refine V_imul dX2_writeRide_129 ?_
  refine V_iload_n (q := 3) dX2_writeRide_130 rfl rfl ?_
  refine V_iadd dX2_writeRide_131 ?_
  obtain ⟨n13, t⟩ := t
  refine V_iald dX2_writeRide_132 rfl n13 ?_
  obtain ⟨n15, t⟩ := t
  have t := t _ rfl
  refine V_iast dX2_writeRide_133 rfl n15 ?_
  refine V_aload_n (q := 0) dX2_writeRide_134 rfl rfl ?_
  refine V_getr f_X2_15 dX2_writeRide_135 rfl rfl ?_
  refine V_iload (q := 5) dX2_writeRide_138 rfl ?_
  refine V_iconst (v := 5) dX2_writeRide_140 rfl ?_
  refine V_iadd dX2_writeRide_141 ?_
  refine V_aload_n (q := 0) dX2_writeRide_142 rfl rfl ?_
  refine V_getr f_X2_42 dX2_writeRide_143 rfl rfl ?_
  refine V_getr f_X2_117 dX2_writeRide_146 rfl rfl ?_
  refine V_getr f_X2_186 dX2_writeRide_149 rfl rfl ?_
  refine V_iload_n (q := 2) dX2_writeRide_152 rfl rfl ?_
  refine V_bipush (v := 8) dX2_writeRide_153 rfl ?_
  refine V_imul dX2_writeRide_155 ?_
  refine V_iload (q := 4) dX2_writeRide_156 rfl ?_
  refine V_iadd dX2_writeRide_158 ?_
  obtain ⟨n16, t⟩ := t
  refine V_iald dX2_writeRide_159 rfl n16 ?_
  obtain ⟨n18, t⟩ := t
  have t := t _ rfl
  refine V_iast dX2_writeRide_160 rfl n18 ?_
  refine V_aload_n (q := 0) dX2_writeRide_161 rfl rfl ?_
  refine V_getr f_X2_15 dX2_writeRide_162 rfl rfl ?_
  refine V_iload (q := 5) dX2_writeRide_165 rfl ?_
  refine V_bipush (v := 6) dX2_writeRide_167 rfl ?_
  refine V_iadd dX2_writeRide_169 ?_
  refine V_aload_n (q := 0) dX2_writeRide_170 rfl rfl ?_
  refine V_getr f_X2_42 dX2_writeRide_171 rfl rfl ?_
  refine V_getr f_X2_117 dX2_writeRide_174 rfl rfl ?_
  refine V_getr f_X2_205 dX2_writeRide_177 rfl rfl ?_
  refine V_iload_n (q := 2) dX2_writeRide_180 rfl rfl ?_
  refine V_iald dX2_writeRide_181 rfl n1 ?_
  obtain ⟨n20, t⟩ := t
  have t := t _ rfl
  refine V_iast dX2_writeRide_182 rfl n20 ?_
  refine V_aload_n (q := 0) dX2_writeRide_183 rfl rfl ?_
  refine V_getr f_X2_15 dX2_writeRide_184 rfl rfl ?_
  refine V_iload (q := 5) dX2_writeRide_187 rfl ?_
  refine V_bipush (v := 7) dX2_writeRide_189 rfl ?_
  refine V_iadd dX2_writeRide_191 ?_
  refine V_iload_n (q := 3) dX2_writeRide_192 rfl rfl ?_
  obtain ⟨n22, t⟩ := t
  have t := t _ rfl
  refine V_iast dX2_writeRide_193 rfl n22 ?_
  refine V_aload_n (q := 0) dX2_writeRide_194 rfl rfl ?_
  refine V_getr f_X2_15 dX2_writeRide_195 rfl rfl ?_
  refine V_iload (q := 5) dX2_writeRide_198 rfl ?_
  refine V_bipush (v := 8) dX2_writeRide_200 rfl ?_
  refine V_iadd dX2_writeRide_202 ?_
  refine V_iload (q := 4) dX2_writeRide_203 rfl ?_
  obtain ⟨n24, t⟩ := t
  have t := t _ rfl
  refine V_iast dX2_writeRide_205 rfl n24 ?_
  refine V_aload_n (q := 0) dX2_writeRide_206 rfl rfl ?_
  refine V_getr f_X2_15 dX2_writeRide_207 rfl rfl ?_
  refine V_iload (q := 5) dX2_writeRide_210 rfl ?_
  refine V_iconst (v := 5) dX2_writeRide_212 rfl ?_
  refine V_iadd dX2_writeRide_213 ?_
  refine V_iald dX2_writeRide_214 rfl n18 ?_
  exact V_iret rfl dX2_writeRide_215 t
set_option maxRecDepth 20000 in
set_option maxHeartbeats 4000000 in
theorem s_Found_writeWalk_0 (G : GA) (h : HP) (x1 : Int32) (x2 : Int32) (x3 : Int32) (K : Int32 → HP → Prop) (t :
  vp_in x2 20 ∧
  vp_in ((x1 * 9) + 0) 3654 ∧
  ∀ h2 : HP, h2 = up h 56 (tn ((x1 * 9) + 0)) (h 26 (tn x2)) →
  vp_in ((x1 * 9) + 1) 3654 ∧
  ∀ h4 : HP, h4 = up h2 56 (tn ((x1 * 9) + 1)) x2 →
  vp_in ((x1 * 9) + 2) 3654 ∧
  ∀ h6 : HP, h6 = up h4 56 (tn ((x1 * 9) + 2)) (h 23 (tn x2)) →
  vp_in ((x1 * 9) + 3) 3654 ∧
  ∀ h8 : HP, h8 = up h6 56 (tn ((x1 * 9) + 3)) (h 24 (tn x2)) →
  P_Walks_beginsAt G h8 x2 x3 (h 54 10) (fun (r11 : Int32) (h10 : HP) =>
    vp_in ((x1 * 9) + 4) 3654 ∧
    ∀ h12 : HP, h12 = up h10 56 (tn ((x1 * 9) + 4)) r11 →
    P_Walks_endsAt G h12 x2 x3 (h10 54 10) (fun (r15 : Int32) (h14 : HP) =>
      vp_in ((x1 * 9) + 5) 3654 ∧
      ∀ h16 : HP, h16 = up h14 56 (tn ((x1 * 9) + 5)) r15 →
      vp_in ((x1 * 9) + 6) 3654 ∧
      ∀ h18 : HP, h18 = up h16 56 (tn ((x1 * 9) + 6)) (-1) →
      vp_in ((x1 * 9) + 7) 3654 ∧
      ∀ h20 : HP, h20 = up h18 56 (tn ((x1 * 9) + 7)) (-1) →
      vp_in ((x1 * 9) + 8) 3654 ∧
      ∀ h22 : HP, h22 = up h20 56 (tn ((x1 * 9) + 8)) (-1) →
      K (h22 56 (tn ((x1 * 9) + 5))) h22
    )
  )) : P_Found_writeWalk G h x1 x2 x3 K := by
  refine Sp_of_V pf_X2_writeWalk (Nat.le_of_ble_eq_true rfl) rfl ?_
  refine V_iload_n (q := 1) dX2_writeWalk_0 rfl rfl ?_
  refine V_bipush (v := 9) dX2_writeWalk_1 rfl ?_
  refine V_imul dX2_writeWalk_3 ?_
  refine V_istore (L' := [(0, .ref (G.1 54)), (1, .int x1), (2, .int x2), (3, .int x3), (4, .int (x1 * 9))]) dX2_writeWalk_4 (by decide) rfl rfl ?_
  refine V_aload_n (q := 0) dX2_writeWalk_6 rfl rfl ?_
  refine V_getr f_X2_42 dX2_writeWalk_7 rfl rfl ?_
  refine V_getr f_X2_153 dX2_writeWalk_10 rfl rfl ?_
  refine V_astore (L' := [(0, .ref (G.1 54)), (1, .int x1), (2, .int x2), (3, .int x3), (4, .int (x1 * 9)), (5, .ref (G.1 22))]) dX2_writeWalk_13 (by decide) rfl rfl ?_
  refine V_aload_n (q := 0) dX2_writeWalk_15 rfl rfl ?_
  refine V_getr f_X2_15 dX2_writeWalk_16 rfl rfl ?_
  refine V_iload (q := 4) dX2_writeWalk_19 rfl ?_
  refine V_iconst (v := 0) dX2_writeWalk_21 rfl ?_
  refine V_iadd dX2_writeWalk_22 ?_
  refine V_aload (q := 5) dX2_writeWalk_23 rfl ?_
  refine V_getr f_X2_208 dX2_writeWalk_25 rfl rfl ?_
  refine V_iload_n (q := 2) dX2_writeWalk_28 rfl rfl ?_
  obtain ⟨n1, t⟩ := t
  refine V_iald dX2_writeWalk_29 rfl n1 ?_
  obtain ⟨n3, t⟩ := t
  have t := t _ rfl
  refine V_iast dX2_writeWalk_30 rfl n3 ?_
  refine V_aload_n (q := 0) dX2_writeWalk_31 rfl rfl ?_
  refine V_getr f_X2_15 dX2_writeWalk_32 rfl rfl ?_
  refine V_iload (q := 4) dX2_writeWalk_35 rfl ?_
  refine V_iconst (v := 1) dX2_writeWalk_37 rfl ?_
  refine V_iadd dX2_writeWalk_38 ?_
  refine V_iload_n (q := 2) dX2_writeWalk_39 rfl rfl ?_
  obtain ⟨n5, t⟩ := t
  have t := t _ rfl
  refine V_iast dX2_writeWalk_40 rfl n5 ?_
  refine V_aload_n (q := 0) dX2_writeWalk_41 rfl rfl ?_
  refine V_getr f_X2_15 dX2_writeWalk_42 rfl rfl ?_
  refine V_iload (q := 4) dX2_writeWalk_45 rfl ?_
  refine V_iconst (v := 2) dX2_writeWalk_47 rfl ?_
  refine V_iadd dX2_writeWalk_48 ?_
  refine V_aload (q := 5) dX2_writeWalk_49 rfl ?_
  refine V_getr f_X2_163 dX2_writeWalk_51 rfl rfl ?_
  refine V_iload_n (q := 2) dX2_writeWalk_54 rfl rfl ?_
  refine V_iald dX2_writeWalk_55 rfl n1 ?_
  obtain ⟨n7, t⟩ := t
  have t := t _ rfl
  refine V_iast dX2_writeWalk_56 rfl n7 ?_
  refine V_aload_n (q := 0) dX2_writeWalk_57 rfl rfl ?_
  refine V_getr f_X2_15 dX2_writeWalk_58 rfl rfl ?_
  refine V_iload (q := 4) dX2_writeWalk_61 rfl ?_
  refine V_iconst (v := 3) dX2_writeWalk_63 rfl ?_
  refine V_iadd dX2_writeWalk_64 ?_
  refine V_aload (q := 5) dX2_writeWalk_65 rfl ?_
  refine V_getr f_X2_160 dX2_writeWalk_67 rfl rfl ?_
  refine V_iload_n (q := 2) dX2_writeWalk_70 rfl rfl ?_
  refine V_iald dX2_writeWalk_71 rfl n1 ?_
  obtain ⟨n9, t⟩ := t
  have t := t _ rfl
  refine V_iast dX2_writeWalk_72 rfl n9 ?_
  refine V_aload_n (q := 0) dX2_writeWalk_73 rfl rfl ?_
  refine V_getr f_X2_15 dX2_writeWalk_74 rfl rfl ?_
  refine V_iload (q := 4) dX2_writeWalk_77 rfl ?_
  refine V_iconst (v := 4) dX2_writeWalk_79 rfl ?_
  refine V_iadd dX2_writeWalk_80 ?_
  refine V_aload (q := 5) dX2_writeWalk_81 rfl ?_
  refine V_iload_n (q := 2) dX2_writeWalk_83 rfl rfl ?_
  refine V_iload_n (q := 3) dX2_writeWalk_84 rfl rfl ?_
  refine V_aload_n (q := 0) dX2_writeWalk_85 rfl rfl ?_
  refine V_geti f_X2_67 dX2_writeWalk_86 rfl rfl ?_
  refine V_callV [.int x2, .int x3, .int (h 54 10)] [.int ((x1 * 9) + 4), .ref (G.1 56)] g_X2_writeWalk_X10_beginsAt wi_X10_beginsAt ws_X10_beginsAt dX2_writeWalk_89 rfl rfl rfl rfl rfl (Nat.le_of_ble_eq_true rfl) t (fun _ h10 t => ?_)
  obtain ⟨r11, rfl, t⟩ := t
  obtain ⟨n13, t⟩ := t
  have t := t _ rfl
  refine V_iast dX2_writeWalk_92 rfl n13 ?_
  refine V_aload_n (q := 0) dX2_writeWalk_93 rfl rfl ?_
  refine V_getr f_X2_15 dX2_writeWalk_94 rfl rfl ?_
  refine V_iload (q := 4) dX2_writeWalk_97 rfl ?_
  refine V_iconst (v := 5) dX2_writeWalk_99 rfl ?_
  refine V_iadd dX2_writeWalk_100 ?_
  refine V_aload (q := 5) dX2_writeWalk_101 rfl ?_
  refine V_iload_n (q := 2) dX2_writeWalk_103 rfl rfl ?_
  refine V_iload_n (q := 3) dX2_writeWalk_104 rfl rfl ?_
  refine V_aload_n (q := 0) dX2_writeWalk_105 rfl rfl ?_
  refine V_geti f_X2_67 dX2_writeWalk_106 rfl rfl ?_
  refine V_callV [.int x2, .int x3, .int (h10 54 10)] [.int ((x1 * 9) + 5), .ref (G.1 56)] g_X2_writeWalk_X10_endsAt wi_X10_endsAt ws_X10_endsAt dX2_writeWalk_109 rfl rfl rfl rfl rfl (Nat.le_of_ble_eq_true rfl) t (fun _ h14 t => ?_)
  obtain ⟨r15, rfl, t⟩ := t
  obtain ⟨n17, t⟩ := t
  have t := t _ rfl
  refine V_iast dX2_writeWalk_112 rfl n17 ?_
  refine V_aload_n (q := 0) dX2_writeWalk_113 rfl rfl ?_
  refine V_getr f_X2_15 dX2_writeWalk_114 rfl rfl ?_
  refine V_iload (q := 4) dX2_writeWalk_117 rfl ?_
  refine V_bipush (v := 6) dX2_writeWalk_119 rfl ?_
  refine V_iadd dX2_writeWalk_121 ?_
  refine V_iconst (v := (-1)) dX2_writeWalk_122 rfl ?_
  obtain ⟨n19, t⟩ := t
  have t := t _ rfl
  refine V_iast dX2_writeWalk_123 rfl n19 ?_
  refine V_aload_n (q := 0) dX2_writeWalk_124 rfl rfl ?_
  refine V_getr f_X2_15 dX2_writeWalk_125 rfl rfl ?_
  refine V_iload (q := 4) dX2_writeWalk_128 rfl ?_
  refine V_bipush (v := 7) dX2_writeWalk_130 rfl ?_
  refine V_iadd dX2_writeWalk_132 ?_
  refine V_iconst (v := (-1)) dX2_writeWalk_133 rfl ?_
  obtain ⟨n21, t⟩ := t
  have t := t _ rfl
  refine V_iast dX2_writeWalk_134 rfl n21 ?_
  refine V_aload_n (q := 0) dX2_writeWalk_135 rfl rfl ?_
  refine V_getr f_X2_15 dX2_writeWalk_136 rfl rfl ?_
  refine V_iload (q := 4) dX2_writeWalk_139 rfl ?_
  refine V_bipush (v := 8) dX2_writeWalk_141 rfl ?_
  refine V_iadd dX2_writeWalk_143 ?_
  refine V_iconst (v := (-1)) dX2_writeWalk_144 rfl ?_
  obtain ⟨n23, t⟩ := t
  have t := t _ rfl
  refine V_iast dX2_writeWalk_145 rfl n23 ?_
  refine V_aload_n (q := 0) dX2_writeWalk_146 rfl rfl ?_
  refine V_getr f_X2_15 dX2_writeWalk_147 rfl rfl ?_
  refine V_iload (q := 4) dX2_writeWalk_150 rfl ?_
  refine V_iconst (v := 5) dX2_writeWalk_152 rfl ?_
  refine V_iadd dX2_writeWalk_153 ?_
  refine V_iald dX2_writeWalk_154 rfl n17 ?_
  exact V_iret rfl dX2_writeWalk_155 t
