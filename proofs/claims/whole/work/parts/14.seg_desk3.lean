set_option maxRecDepth 20000 in
set_option maxHeartbeats 4000000 in
theorem s_Desk_take_0 (G : GA) (h : HP) (x1 : Int32) (K : Int32 → HP → Prop) (t :
  P_Found_has G h x1 (fun (b2 : Bool) (h1 : HP) =>
    if b2 = true then (
      P_Tickets_make G h1 x1 (fun (r4 : Int32) (h3 : HP) =>
        K r4 h3
      )
    ) else (
      K (-2) h1
    )
  )) : P_Desk_take G h x1 K := by
  refine Sp_of_V pf_X11_take (Nat.le_of_ble_eq_true rfl) rfl ?_
  refine V_aload_n (q := 0) dX11_take_0 rfl rfl ?_
  refine V_getr f_X11_69 dX11_take_1 rfl rfl ?_
  refine V_iload_n (q := 1) dX11_take_4 rfl rfl ?_
  refine V_callV [.int x1] [] g_X11_take_X2_has wi_X2_has ws_X2_has dX11_take_5 rfl rfl rfl rfl rfl (Nat.le_of_ble_eq_true rfl) t (fun _ h1 t => ?_)
  obtain ⟨b2, rfl, t⟩ := t
  refine V_ifb_eq (tgt := 26) dX11_take_8 (by decide) (fun q => ?_) (fun q => ?_)
  · have t := it_f q t
    refine V_bipush (v := (-2)) dX11_take_26 rfl ?_
    exact V_iret rfl dX11_take_28 t
  · have t := it_t q t
    refine V_aload_n (q := 0) dX11_take_11 rfl rfl ?_
    refine V_getr f_X11_42 dX11_take_12 rfl rfl ?_
    refine V_aload_n (q := 0) dX11_take_15 rfl rfl ?_
    refine V_getr f_X11_69 dX11_take_16 rfl rfl ?_
    refine V_iload_n (q := 1) dX11_take_19 rfl rfl ?_
    refine V_callV [.ref (G.1 54), .int x1] [] g_X11_take_X8_make wi_X8_make ws_X8_make dX11_take_20 rfl rfl rfl rfl rfl (Nat.le_of_ble_eq_true rfl) t (fun _ h3 t => ?_)
    obtain ⟨r4, rfl, t⟩ := t
    refine V_goto (tgt := 28) dX11_take_23 (by decide) ?_
    exact V_iret rfl dX11_take_28 t
set_option maxRecDepth 20000 in
set_option maxHeartbeats 4000000 in
theorem s_Tickets_giveBack_0 (G : GA) (h : HP) (x1 : Int32) (K : HP → Prop) (t :
  vp_in x1 30 ∧
  ∀ h1 : HP, h1 = up h 37 (tn x1) (b2i true) →
  ∀ h3 : HP, h3 = up h1 34 12 ((h 34 12) - 1) →
  P_Tickets_changePlaces G h3 x1 (-1) (fun h4 : HP =>
    K h4
  )) : P_Tickets_giveBack G h x1 K := by
  refine Sp_of_V pf_X8_giveBack (Nat.le_of_ble_eq_true rfl) rfl ?_
  refine V_aload_n (q := 0) dX8_giveBack_0 rfl rfl ?_
  refine V_getr f_X8_18 dX8_giveBack_1 rfl rfl ?_
  refine V_iload_n (q := 1) dX8_giveBack_4 rfl rfl ?_
  refine V_iconst (v := 1) dX8_giveBack_5 rfl ?_
  obtain ⟨n2, t⟩ := t
  have t := t _ rfl
  refine V_zast (b := true) dX8_giveBack_6 rfl n2 ?_
  refine V_aload_n (q := 0) dX8_giveBack_7 rfl rfl ?_
  refine V_dup dX8_giveBack_8 rfl ?_
  refine V_geti f_X8_74 dX8_giveBack_9 rfl rfl ?_
  refine V_iconst (v := 1) dX8_giveBack_12 rfl ?_
  refine V_isub dX8_giveBack_13 ?_
  have t := t _ rfl
  refine V_put f_X8_74 p_X8_12 dX8_giveBack_14 rfl rfl ?_
  refine V_aload_n (q := 0) dX8_giveBack_17 rfl rfl ?_
  refine V_iload_n (q := 1) dX8_giveBack_18 rfl rfl ?_
  refine V_iconst (v := (-1)) dX8_giveBack_19 rfl ?_
  refine V_callV [.int x1, .int (-1)] [] g_X8_giveBack_X8_changePlaces wi_X8_changePlaces ws_X8_changePlaces dX8_giveBack_20 rfl rfl rfl rfl rfl (Nat.le_of_ble_eq_true rfl) t (fun _ h4 t => ?_)
  obtain ⟨rfl, t⟩ := t
  exact V_vret rfl dX8_giveBack_23 t
set_option maxRecDepth 20000 in
set_option maxHeartbeats 4000000 in
theorem s_Tickets_isOut_0 (G : GA) (h : HP) (x1 : Int32) (K : Bool → HP → Prop) (t :
  if x1 < 0 then (
    K false h
  ) else (
    if (h 34 11) ≤ x1 then (
      K false h
    ) else (
      vp_in x1 30 ∧
      if (h 37 (tn x1)) = 0 then (
        K true h
      ) else (
        K false h
      )
    )
  )) : P_Tickets_isOut G h x1 K := by
  refine Sp_of_V pf_X8_isOut (Nat.le_of_ble_eq_true rfl) rfl ?_
  refine V_iload_n (q := 1) dX8_isOut_0 rfl rfl ?_
  refine V_if_lt (tgt := 25) dX8_isOut_1 (by decide) (fun q => ?_) (fun q => ?_)
  · have t := it_t q t
    refine V_iconst (v := 0) dX8_isOut_25 rfl ?_
    exact V_zret (b := false) rfl dX8_isOut_26 t
  · have t := it_f q t
    refine V_iload_n (q := 1) dX8_isOut_4 rfl rfl ?_
    refine V_aload_n (q := 0) dX8_isOut_5 rfl rfl ?_
    refine V_geti f_X8_50 dX8_isOut_6 rfl rfl ?_
    refine V_icmp_ge (tgt := 25) dX8_isOut_9 (by decide) (fun q => ?_) (fun q => ?_)
    · have t := it_t q t
      refine V_iconst (v := 0) dX8_isOut_25 rfl ?_
      exact V_zret (b := false) rfl dX8_isOut_26 t
    · have t := it_f q t
      refine V_aload_n (q := 0) dX8_isOut_12 rfl rfl ?_
      refine V_getr f_X8_18 dX8_isOut_13 rfl rfl ?_
      refine V_iload_n (q := 1) dX8_isOut_16 rfl rfl ?_
      obtain ⟨n1, t⟩ := t
      refine V_zald dX8_isOut_17 rfl n1 ?_
      refine V_if_ne (tgt := 25) dX8_isOut_18 (by decide) (fun q => ?_) (fun q => ?_)
      · have t := it_f q t
        refine V_iconst (v := 0) dX8_isOut_25 rfl ?_
        exact V_zret (b := false) rfl dX8_isOut_26 t
      · have t := it_t q t
        refine V_iconst (v := 1) dX8_isOut_21 rfl ?_
        refine V_goto (tgt := 26) dX8_isOut_22 (by decide) ?_
        exact V_zret (b := true) rfl dX8_isOut_26 t
set_option maxRecDepth 20000 in
set_option maxHeartbeats 4000000 in
theorem s_Desk_give_0 (G : GA) (h : HP) (x1 : Int32) (K : Int32 → HP → Prop) (t :
  P_Tickets_isOut G h x1 (fun (b2 : Bool) (h1 : HP) =>
    if b2 = true then (
      P_Tickets_giveBack G h1 x1 (fun h3 : HP =>
        K 1 h3
      )
    ) else (
      K (-2) h1
    )
  )) : P_Desk_give G h x1 K := by
  refine Sp_of_V pf_X11_give (Nat.le_of_ble_eq_true rfl) rfl ?_
  refine V_aload_n (q := 0) dX11_give_0 rfl rfl ?_
  refine V_getr f_X11_42 dX11_give_1 rfl rfl ?_
  refine V_iload_n (q := 1) dX11_give_4 rfl rfl ?_
  refine V_callV [.int x1] [] g_X11_give_X8_isOut wi_X8_isOut ws_X8_isOut dX11_give_5 rfl rfl rfl rfl rfl (Nat.le_of_ble_eq_true rfl) t (fun _ h1 t => ?_)
  obtain ⟨b2, rfl, t⟩ := t
  refine V_ifb_ne (tgt := 14) dX11_give_8 (by decide) (fun q => ?_) (fun q => ?_)
  · have t := it_t q t
    refine V_aload_n (q := 0) dX11_give_14 rfl rfl ?_
    refine V_getr f_X11_42 dX11_give_15 rfl rfl ?_
    refine V_iload_n (q := 1) dX11_give_18 rfl rfl ?_
    refine V_callV [.int x1] [] g_X11_give_X8_giveBack wi_X8_giveBack ws_X8_giveBack dX11_give_19 rfl rfl rfl rfl rfl (Nat.le_of_ble_eq_true rfl) t (fun _ h3 t => ?_)
    obtain ⟨rfl, t⟩ := t
    refine V_iconst (v := 1) dX11_give_22 rfl ?_
    exact V_iret rfl dX11_give_23 t
  · have t := it_f q t
    refine V_bipush (v := (-2)) dX11_give_11 rfl ?_
    exact V_iret rfl dX11_give_13 t
set_option maxRecDepth 20000 in
set_option maxHeartbeats 4000000 in
theorem s_Trips_leavesAt_0 (G : GA) (h : HP) (x1 : Int32) (x2 : Int32) (x3 : Int32) (K : Int32 → HP → Prop) (t :
  vp_in ((x1 * 8) + x3) 192 ∧
  P_Delays_sum G h x1 x2 x3 (fun (r3 : Int32) (h2 : HP) =>
    K (((1440 * x2) + (h 19 (tn ((x1 * 8) + x3)))) + r3) h2
  )) : P_Trips_leavesAt G h x1 x2 x3 K := by
  refine Sp_of_V pf_X9_leavesAt (Nat.le_of_ble_eq_true rfl) rfl ?_
  refine V_sipush (v := 1440) dX9_leavesAt_0 rfl ?_
  refine V_iload_n (q := 2) dX9_leavesAt_3 rfl rfl ?_
  refine V_imul dX9_leavesAt_4 ?_
  refine V_aload_n (q := 0) dX9_leavesAt_5 rfl rfl ?_
  refine V_getr f_X9_33 dX9_leavesAt_6 rfl rfl ?_
  refine V_iload_n (q := 1) dX9_leavesAt_9 rfl rfl ?_
  refine V_bipush (v := 8) dX9_leavesAt_10 rfl ?_
  refine V_imul dX9_leavesAt_12 ?_
  refine V_iload_n (q := 3) dX9_leavesAt_13 rfl rfl ?_
  refine V_iadd dX9_leavesAt_14 ?_
  obtain ⟨n1, t⟩ := t
  refine V_iald dX9_leavesAt_15 rfl n1 ?_
  refine V_iadd dX9_leavesAt_16 ?_
  refine V_aload_n (q := 0) dX9_leavesAt_17 rfl rfl ?_
  refine V_getr f_X9_45 dX9_leavesAt_18 rfl rfl ?_
  refine V_iload_n (q := 1) dX9_leavesAt_21 rfl rfl ?_
  refine V_iload_n (q := 2) dX9_leavesAt_22 rfl rfl ?_
  refine V_iload_n (q := 3) dX9_leavesAt_23 rfl rfl ?_
  refine V_callV [.int x1, .int x2, .int x3] [.int ((1440 * x2) + (h 19 (tn ((x1 * 8) + x3))))] g_X9_leavesAt_X1_sum wi_X1_sum ws_X1_sum dX9_leavesAt_24 rfl rfl rfl rfl rfl (Nat.le_of_ble_eq_true rfl) t (fun _ h2 t => ?_)
  obtain ⟨r3, rfl, t⟩ := t
  refine V_iadd dX9_leavesAt_27 ?_
  exact V_iret rfl dX9_leavesAt_28 t
set_option maxRecDepth 20000 in
set_option maxHeartbeats 4000000 in
theorem s_Tickets_canRide_0 (G : GA) (h : HP) (x1 : Int32) (x2 : Int32) (K : Bool → HP → Prop) (t :
  vp_in x1 210 ∧
  P_Trips_runsOn G h (h 38 (tn x1)) (h 39 (tn x1)) (fun (b3 : Bool) (h2 : HP) =>
    if b3 = true then (
      P_Trips_isOpen G h2 (h 38 (tn x1)) (h2 40 (tn x1)) (fun (b5 : Bool) (h4 : HP) =>
        if b5 = true then (
          P_Trips_isOpen G h4 (h 38 (tn x1)) (h4 41 (tn x1)) (fun (b7 : Bool) (h6 : HP) =>
            if b7 = true then (
              P_Trips_leavesAt G h6 (h 38 (tn x1)) (h6 39 (tn x1)) (h6 40 (tn x1)) (fun (r9 : Int32) (h8 : HP) =>
                if r9 < x2 then (
                  K false h8
                ) else (
                  K true h8
                )
              )
            ) else (
              K false h6
            )
          )
        ) else (
          K false h4
        )
      )
    ) else (
      K false h2
    )
  )) : P_Tickets_canRide G h x1 x2 K := by
  refine Sp_of_V pf_X8_canRide (Nat.le_of_ble_eq_true rfl) rfl ?_
  refine V_aload_n (q := 0) dX8_canRide_0 rfl rfl ?_
  refine V_getr f_X8_22 dX8_canRide_1 rfl rfl ?_
  refine V_iload_n (q := 1) dX8_canRide_4 rfl rfl ?_
  obtain ⟨n1, t⟩ := t
  refine V_iald dX8_canRide_5 rfl n1 ?_
  refine V_istore_n (L' := [(0, .ref (G.1 34)), (1, .int x1), (2, .int x2), (3, .int (h 38 (tn x1)))]) dX8_canRide_6 rfl (by decide) rfl rfl ?_
  refine V_aload_n (q := 0) dX8_canRide_7 rfl rfl ?_
  refine V_getr f_X8_38 dX8_canRide_8 rfl rfl ?_
  refine V_iload_n (q := 3) dX8_canRide_11 rfl rfl ?_
  refine V_aload_n (q := 0) dX8_canRide_12 rfl rfl ?_
  refine V_getr f_X8_25 dX8_canRide_13 rfl rfl ?_
  refine V_iload_n (q := 1) dX8_canRide_16 rfl rfl ?_
  refine V_iald dX8_canRide_17 rfl n1 ?_
  refine V_callV [.int (h 38 (tn x1)), .int (h 39 (tn x1))] [] g_X8_canRide_X9_runsOn wi_X9_runsOn ws_X9_runsOn dX8_canRide_18 rfl rfl rfl rfl rfl (Nat.le_of_ble_eq_true rfl) t (fun _ h2 t => ?_)
  obtain ⟨b3, rfl, t⟩ := t
  refine V_ifb_eq (tgt := 86) dX8_canRide_21 (by decide) (fun q => ?_) (fun q => ?_)
  · have t := it_f q t
    refine V_iconst (v := 0) dX8_canRide_86 rfl ?_
    exact V_zret (b := false) rfl dX8_canRide_87 t
  · have t := it_t q t
    refine V_aload_n (q := 0) dX8_canRide_24 rfl rfl ?_
    refine V_getr f_X8_38 dX8_canRide_25 rfl rfl ?_
    refine V_iload_n (q := 3) dX8_canRide_28 rfl rfl ?_
    refine V_aload_n (q := 0) dX8_canRide_29 rfl rfl ?_
    refine V_getr f_X8_28 dX8_canRide_30 rfl rfl ?_
    refine V_iload_n (q := 1) dX8_canRide_33 rfl rfl ?_
    refine V_iald dX8_canRide_34 rfl n1 ?_
    refine V_callV [.int (h 38 (tn x1)), .int (h2 40 (tn x1))] [] g_X8_canRide_X9_isOpen wi_X9_isOpen ws_X9_isOpen dX8_canRide_35 rfl rfl rfl rfl rfl (Nat.le_of_ble_eq_true rfl) t (fun _ h4 t => ?_)
    obtain ⟨b5, rfl, t⟩ := t
    refine V_ifb_eq (tgt := 86) dX8_canRide_38 (by decide) (fun q => ?_) (fun q => ?_)
    · have t := it_f q t
      refine V_iconst (v := 0) dX8_canRide_86 rfl ?_
      exact V_zret (b := false) rfl dX8_canRide_87 t
    · have t := it_t q t
      refine V_aload_n (q := 0) dX8_canRide_41 rfl rfl ?_
      refine V_getr f_X8_38 dX8_canRide_42 rfl rfl ?_
      refine V_iload_n (q := 3) dX8_canRide_45 rfl rfl ?_
      refine V_aload_n (q := 0) dX8_canRide_46 rfl rfl ?_
      refine V_getr f_X8_31 dX8_canRide_47 rfl rfl ?_
      refine V_iload_n (q := 1) dX8_canRide_50 rfl rfl ?_
      refine V_iald dX8_canRide_51 rfl n1 ?_
      refine V_callV [.int (h 38 (tn x1)), .int (h4 41 (tn x1))] [] g_X8_canRide_X9_isOpen wi_X9_isOpen ws_X9_isOpen dX8_canRide_52 rfl rfl rfl rfl rfl (Nat.le_of_ble_eq_true rfl) t (fun _ h6 t => ?_)
      obtain ⟨b7, rfl, t⟩ := t
      refine V_ifb_eq (tgt := 86) dX8_canRide_55 (by decide) (fun q => ?_) (fun q => ?_)
      · have t := it_f q t
        refine V_iconst (v := 0) dX8_canRide_86 rfl ?_
        exact V_zret (b := false) rfl dX8_canRide_87 t
      · have t := it_t q t
        refine V_aload_n (q := 0) dX8_canRide_58 rfl rfl ?_
        refine V_getr f_X8_38 dX8_canRide_59 rfl rfl ?_
        refine V_iload_n (q := 3) dX8_canRide_62 rfl rfl ?_
        refine V_aload_n (q := 0) dX8_canRide_63 rfl rfl ?_
        refine V_getr f_X8_25 dX8_canRide_64 rfl rfl ?_
        refine V_iload_n (q := 1) dX8_canRide_67 rfl rfl ?_
        refine V_iald dX8_canRide_68 rfl n1 ?_
        refine V_aload_n (q := 0) dX8_canRide_69 rfl rfl ?_
        refine V_getr f_X8_28 dX8_canRide_70 rfl rfl ?_
        refine V_iload_n (q := 1) dX8_canRide_73 rfl rfl ?_
        refine V_iald dX8_canRide_74 rfl n1 ?_
        refine V_callV [.int (h 38 (tn x1)), .int (h6 39 (tn x1)), .int (h6 40 (tn x1))] [] g_X8_canRide_X9_leavesAt wi_X9_leavesAt ws_X9_leavesAt dX8_canRide_75 rfl rfl rfl rfl rfl (Nat.le_of_ble_eq_true rfl) t (fun _ h8 t => ?_)
        obtain ⟨r9, rfl, t⟩ := t
        refine V_iload_n (q := 2) dX8_canRide_78 rfl rfl ?_
        refine V_icmp_lt (tgt := 86) dX8_canRide_79 (by decide) (fun q => ?_) (fun q => ?_)
        · have t := it_t q t
          refine V_iconst (v := 0) dX8_canRide_86 rfl ?_
          exact V_zret (b := false) rfl dX8_canRide_87 t
        · have t := it_f q t
          refine V_iconst (v := 1) dX8_canRide_82 rfl ?_
          refine V_goto (tgt := 87) dX8_canRide_83 (by decide) ?_
          exact V_zret (b := true) rfl dX8_canRide_87 t
set_option maxRecDepth 20000 in
set_option maxHeartbeats 4000000 in
theorem s_Tickets_changeAt_0 (G : GA) (h : HP) (x1 : Int32) (K : Int32 → HP → Prop) (t :
  vp_in x1 210 ∧
  vp_in (((h 38 (tn x1)) * 8) + (h 40 (tn x1))) 192 ∧
  vp_in (h 17 (tn (((h 38 (tn x1)) * 8) + (h 40 (tn x1))))) 12 ∧
  K (h 3 (tn (h 17 (tn (((h 38 (tn x1)) * 8) + (h 40 (tn x1))))))) h) : P_Tickets_changeAt G h x1 K := by
  refine Sp_of_V pf_X8_changeAt (Nat.le_of_ble_eq_true rfl) rfl ?_
  refine V_aload_n (q := 0) dX8_changeAt_0 rfl rfl ?_
  refine V_getr f_X8_34 dX8_changeAt_1 rfl rfl ?_
  refine V_getr f_X8_95 dX8_changeAt_4 rfl rfl ?_
  refine V_aload_n (q := 0) dX8_changeAt_7 rfl rfl ?_
  refine V_getr f_X8_38 dX8_changeAt_8 rfl rfl ?_
  refine V_getr f_X8_100 dX8_changeAt_11 rfl rfl ?_
  refine V_aload_n (q := 0) dX8_changeAt_14 rfl rfl ?_
  refine V_getr f_X8_22 dX8_changeAt_15 rfl rfl ?_
  refine V_iload_n (q := 1) dX8_changeAt_18 rfl rfl ?_
  obtain ⟨n1, t⟩ := t
  refine V_iald dX8_changeAt_19 rfl n1 ?_
  refine V_bipush (v := 8) dX8_changeAt_20 rfl ?_
  refine V_imul dX8_changeAt_22 ?_
  refine V_aload_n (q := 0) dX8_changeAt_23 rfl rfl ?_
  refine V_getr f_X8_28 dX8_changeAt_24 rfl rfl ?_
  refine V_iload_n (q := 1) dX8_changeAt_27 rfl rfl ?_
  refine V_iald dX8_changeAt_28 rfl n1 ?_
  refine V_iadd dX8_changeAt_29 ?_
  obtain ⟨n2, t⟩ := t
  refine V_iald dX8_changeAt_30 rfl n2 ?_
  obtain ⟨n3, t⟩ := t
  refine V_iald dX8_changeAt_31 rfl n3 ?_
  exact V_iret rfl dX8_changeAt_32 t
set_option maxRecDepth 20000 in
set_option maxHeartbeats 4000000 in
theorem s_Trips_comesAt_0 (G : GA) (h : HP) (x1 : Int32) (x2 : Int32) (x3 : Int32) (K : Int32 → HP → Prop) (t :
  vp_in ((x1 * 8) + x3) 192 ∧
  P_Delays_sum G h x1 x2 x3 (fun (r3 : Int32) (h2 : HP) =>
    K (((1440 * x2) + (h 18 (tn ((x1 * 8) + x3)))) + r3) h2
  )) : P_Trips_comesAt G h x1 x2 x3 K := by
  refine Sp_of_V pf_X9_comesAt (Nat.le_of_ble_eq_true rfl) rfl ?_
  refine V_sipush (v := 1440) dX9_comesAt_0 rfl ?_
  refine V_iload_n (q := 2) dX9_comesAt_3 rfl rfl ?_
  refine V_imul dX9_comesAt_4 ?_
  refine V_aload_n (q := 0) dX9_comesAt_5 rfl rfl ?_
  refine V_getr f_X9_30 dX9_comesAt_6 rfl rfl ?_
  refine V_iload_n (q := 1) dX9_comesAt_9 rfl rfl ?_
  refine V_bipush (v := 8) dX9_comesAt_10 rfl ?_
  refine V_imul dX9_comesAt_12 ?_
  refine V_iload_n (q := 3) dX9_comesAt_13 rfl rfl ?_
  refine V_iadd dX9_comesAt_14 ?_
  obtain ⟨n1, t⟩ := t
  refine V_iald dX9_comesAt_15 rfl n1 ?_
  refine V_iadd dX9_comesAt_16 ?_
  refine V_aload_n (q := 0) dX9_comesAt_17 rfl rfl ?_
  refine V_getr f_X9_45 dX9_comesAt_18 rfl rfl ?_
  refine V_iload_n (q := 1) dX9_comesAt_21 rfl rfl ?_
  refine V_iload_n (q := 2) dX9_comesAt_22 rfl rfl ?_
  refine V_iload_n (q := 3) dX9_comesAt_23 rfl rfl ?_
  refine V_callV [.int x1, .int x2, .int x3] [.int ((1440 * x2) + (h 18 (tn ((x1 * 8) + x3))))] g_X9_comesAt_X1_sum wi_X1_sum ws_X1_sum dX9_comesAt_24 rfl rfl rfl rfl rfl (Nat.le_of_ble_eq_true rfl) t (fun _ h2 t => ?_)
  obtain ⟨r3, rfl, t⟩ := t
  refine V_iadd dX9_comesAt_27 ?_
  exact V_iret rfl dX9_comesAt_28 t
set_option maxRecDepth 20000 in
set_option maxHeartbeats 4000000 in
theorem s_Tickets_travel_0 (G : GA) (h : HP) (x1 : Int32) (K : Int32 → HP → Prop) (t :
  vp_in x1 30 ∧
  H_Tickets_travel_9 G h x1 (h 35 (tn x1)) 0 K) : P_Tickets_travel G h x1 K := by
  refine Sp_of_V pf_X8_travel (Nat.le_of_ble_eq_true rfl) rfl ?_
  refine V_aload_n (q := 0) dX8_travel_0 rfl rfl ?_
  refine V_getr f_X8_9 dX8_travel_1 rfl rfl ?_
  refine V_iload_n (q := 1) dX8_travel_4 rfl rfl ?_
  obtain ⟨n1, t⟩ := t
  refine V_iald dX8_travel_5 rfl n1 ?_
  refine V_istore_n (L' := [(0, .ref (G.1 34)), (1, .int x1), (2, .int (h 35 (tn x1)))]) dX8_travel_6 rfl (by decide) rfl rfl ?_
  refine V_iconst (v := 0) dX8_travel_7 rfl ?_
  refine V_istore_n (L' := [(0, .ref (G.1 34)), (1, .int x1), (2, .int (h 35 (tn x1))), (3, .int 0)]) dX8_travel_8 rfl (by decide) rfl rfl ?_
  exact t
set_option maxRecDepth 20000 in
set_option maxHeartbeats 4000000 in
theorem s_Tickets_travel_9 (G : GA) (h : HP) (x1 : Int32) (x2 : Int32) (x3 : Int32) (K : Int32 → HP → Prop) (t :
  vp_in x1 30 ∧
  if (h 36 (tn x1)) ≤ x3 then (
    K x2 h
  ) else (
    vp_in ((x1 * 7) + x3) 210 ∧
    if 0 ≤ (h 39 (tn ((x1 * 7) + x3))) then (
      if x3 ≤ 0 then (
        H_Tickets_travel_82 G h x1 x2 x3 ((x1 * 7) + x3) K
      ) else (
        vp_in (((x1 * 7) + x3) - 1) 210 ∧
        if (h 39 (tn (((x1 * 7) + x3) - 1))) < 0 then (
          H_Tickets_travel_82 G h x1 x2 x3 ((x1 * 7) + x3) K
        ) else (
          H_Tickets_travel_83 G h x1 x2 x3 ((x1 * 7) + x3) 1 K
        )
      )
    ) else (
      P_Walks_endsAt G h (h 38 (tn ((x1 * 7) + x3))) x2 (h 35 (tn x1)) (fun (r5 : Int32) (h4 : HP) =>
        H_Tickets_travel_9 G h4 x1 r5 (x3 + 1) K
      )
    )
  )) : H_Tickets_travel_9 G h x1 x2 x3 K := by
  unfold H_Tickets_travel_9
  refine V_iload_n (q := 3) dX8_travel_9 rfl rfl ?_
  refine V_aload_n (q := 0) dX8_travel_10 rfl rfl ?_
  refine V_getr f_X8_15 dX8_travel_11 rfl rfl ?_
  refine V_iload_n (q := 1) dX8_travel_14 rfl rfl ?_
  obtain ⟨n1, t⟩ := t
  refine V_iald dX8_travel_15 rfl n1 ?_
  refine V_icmp_ge (tgt := 150) dX8_travel_16 (by decide) (fun q => ?_) (fun q => ?_)
  · have t := it_t q t
    refine V_iload_n (q := 2) dX8_travel_150 rfl rfl ?_
    exact V_iret rfl dX8_travel_151 t
  · have t := it_f q t
    refine V_iload_n (q := 1) dX8_travel_19 rfl rfl ?_
    refine V_bipush (v := 7) dX8_travel_20 rfl ?_
    refine V_imul dX8_travel_22 ?_
    refine V_iload_n (q := 3) dX8_travel_23 rfl rfl ?_
    refine V_iadd dX8_travel_24 ?_
    refine V_istore (L' := [(0, .ref (G.1 34)), (1, .int x1), (2, .int x2), (3, .int x3), (4, .int ((x1 * 7) + x3))]) dX8_travel_25 (by decide) rfl rfl ?_
    refine V_aload_n (q := 0) dX8_travel_27 rfl rfl ?_
    refine V_getr f_X8_25 dX8_travel_28 rfl rfl ?_
    refine V_iload (q := 4) dX8_travel_31 rfl ?_
    obtain ⟨n2, t⟩ := t
    refine V_iald dX8_travel_33 rfl n2 ?_
    refine V_if_ge (tgt := 62) dX8_travel_34 (by decide) (fun q => ?_) (fun q => ?_)
    · have t := it_t q t
      refine V_iload_n (q := 3) dX8_travel_62 rfl rfl ?_
      refine V_if_le (tgt := 82) dX8_travel_63 (by decide) (fun q => ?_) (fun q => ?_)
      · have t := it_t q t
        exact t
      · have t := it_f q t
        refine V_aload_n (q := 0) dX8_travel_66 rfl rfl ?_
        refine V_getr f_X8_25 dX8_travel_67 rfl rfl ?_
        refine V_iload (q := 4) dX8_travel_70 rfl ?_
        refine V_iconst (v := 1) dX8_travel_72 rfl ?_
        refine V_isub dX8_travel_73 ?_
        obtain ⟨n3, t⟩ := t
        refine V_iald dX8_travel_74 rfl n3 ?_
        refine V_if_lt (tgt := 82) dX8_travel_75 (by decide) (fun q => ?_) (fun q => ?_)
        · have t := it_t q t
          exact t
        · have t := it_f q t
          refine V_iconst (v := 1) dX8_travel_78 rfl ?_
          refine V_goto (tgt := 83) dX8_travel_79 (by decide) ?_
          exact t
    · have t := it_f q t
      refine V_aload_n (q := 0) dX8_travel_37 rfl rfl ?_
      refine V_getr f_X8_42 dX8_travel_38 rfl rfl ?_
      refine V_aload_n (q := 0) dX8_travel_41 rfl rfl ?_
      refine V_getr f_X8_22 dX8_travel_42 rfl rfl ?_
      refine V_iload (q := 4) dX8_travel_45 rfl ?_
      refine V_iald dX8_travel_47 rfl n2 ?_
      refine V_iload_n (q := 2) dX8_travel_48 rfl rfl ?_
      refine V_aload_n (q := 0) dX8_travel_49 rfl rfl ?_
      refine V_getr f_X8_9 dX8_travel_50 rfl rfl ?_
      refine V_iload_n (q := 1) dX8_travel_53 rfl rfl ?_
      refine V_iald dX8_travel_54 rfl n1 ?_
      refine V_callV [.int (h 38 (tn ((x1 * 7) + x3))), .int x2, .int (h 35 (tn x1))] [] g_X8_travel_X10_endsAt wi_X10_endsAt ws_X10_endsAt dX8_travel_55 rfl rfl rfl rfl rfl (Nat.le_of_ble_eq_true rfl) t (fun _ h4 t => ?_)
      obtain ⟨r5, rfl, t⟩ := t
      refine V_istore_n (L' := [(0, .ref (G.1 34)), (1, .int x1), (2, .int r5), (3, .int x3), (4, .int ((x1 * 7) + x3))]) dX8_travel_58 rfl (by decide) rfl rfl ?_
      refine V_goto (tgt := 144) dX8_travel_59 (by decide) ?_
      refine V_iinc (L' := [(0, .ref (G.1 34)), (1, .int x1), (2, .int r5), (3, .int (x3 + 1)), (4, .int ((x1 * 7) + x3))]) (q := 3) (a := 1) dX8_travel_144 rfl rfl (by decide) rfl rfl ?_
      refine V_goto (tgt := 9) dX8_travel_147 (by decide) ?_
      refine V_pick (L' := [(0, .ref (G.1 34)), (1, .int x1), (2, .int r5), (3, .int (x3 + 1))]) [0, 1, 2, 3] rfl ?_
      exact t
set_option maxRecDepth 20000 in
set_option maxHeartbeats 4000000 in
theorem s_Tickets_travel_82 (G : GA) (h : HP) (x1 : Int32) (x2 : Int32) (x3 : Int32) (x4 : Int32) (K : Int32 → HP → Prop) (t :
  H_Tickets_travel_83 G h x1 x2 x3 x4 0 K) : H_Tickets_travel_82 G h x1 x2 x3 x4 K := by
  unfold H_Tickets_travel_82
  refine V_iconst (v := 0) dX8_travel_82 rfl ?_
  exact t
set_option maxRecDepth 20000 in
set_option maxHeartbeats 4000000 in
theorem s_Tickets_travel_83 (G : GA) (h : HP) (x1 : Int32) (x2 : Int32) (x3 : Int32) (x4 : Int32) (y0 : Int32) (K : Int32 → HP → Prop) (t :
  if y0 = 0 then (
    H_Tickets_travel_105 G h x1 x3 x4 x2 x4 K
  ) else (
    P_Tickets_changeAt G h x4 (fun (r2 : Int32) (h1 : HP) =>
      H_Tickets_travel_105 G h1 x1 x3 x4 (x2 + r2) x4 K
    )
  )) : H_Tickets_travel_83 G h x1 x2 x3 x4 y0 K := by
  unfold H_Tickets_travel_83
  refine V_istore (L' := [(0, .ref (G.1 34)), (1, .int x1), (2, .int x2), (3, .int x3), (4, .int x4), (5, .int y0)]) dX8_travel_83 (by decide) rfl rfl ?_
  refine V_aload_n (q := 0) dX8_travel_85 rfl rfl ?_
  refine V_iload (q := 4) dX8_travel_86 rfl ?_
  refine V_iload (q := 5) dX8_travel_88 rfl ?_
  refine V_if_eq (tgt := 104) dX8_travel_90 (by decide) (fun q => ?_) (fun q => ?_)
  · have t := it_t q t
    refine V_iload_n (q := 2) dX8_travel_104 rfl rfl ?_
    refine V_pick (L' := [(0, .ref (G.1 34)), (1, .int x1), (3, .int x3), (4, .int x4)]) [0, 1, 3, 4] rfl ?_
    exact t
  · have t := it_f q t
    refine V_iload_n (q := 2) dX8_travel_93 rfl rfl ?_
    refine V_aload_n (q := 0) dX8_travel_94 rfl rfl ?_
    refine V_iload (q := 4) dX8_travel_95 rfl ?_
    refine V_callV [.int x4] [.int x2, .int x4, .ref (G.1 34)] g_X8_travel_X8_changeAt wi_X8_changeAt ws_X8_changeAt dX8_travel_97 rfl rfl rfl rfl rfl (Nat.le_of_ble_eq_true rfl) t (fun _ h1 t => ?_)
    obtain ⟨r2, rfl, t⟩ := t
    refine V_iadd dX8_travel_100 ?_
    refine V_goto (tgt := 105) dX8_travel_101 (by decide) ?_
    refine V_pick (L' := [(0, .ref (G.1 34)), (1, .int x1), (3, .int x3), (4, .int x4)]) [0, 1, 3, 4] rfl ?_
    exact t
set_option maxRecDepth 20000 in
set_option maxHeartbeats 4000000 in
theorem s_Tickets_travel_105 (G : GA) (h : HP) (x1 : Int32) (x3 : Int32) (x4 : Int32) (y0 : Int32) (y1 : Int32) (K : Int32 → HP → Prop) (t :
  P_Tickets_canRide G h y1 y0 (fun (b2 : Bool) (h1 : HP) =>
    if b2 = true then (
      vp_in x4 210 ∧
      P_Trips_comesAt G h1 (h1 38 (tn x4)) (h1 39 (tn x4)) (h1 41 (tn x4)) (fun (r5 : Int32) (h4 : HP) =>
        H_Tickets_travel_9 G h4 x1 r5 (x3 + 1) K
      )
    ) else (
      K ((-1) - x3) h1
    )
  )) : H_Tickets_travel_105 G h x1 x3 x4 y0 y1 K := by
  unfold H_Tickets_travel_105
  refine V_callV [.int y1, .int y0] [] g_X8_travel_X8_canRide wi_X8_canRide ws_X8_canRide dX8_travel_105 rfl rfl rfl rfl rfl (Nat.le_of_ble_eq_true rfl) t (fun _ h1 t => ?_)
  obtain ⟨b2, rfl, t⟩ := t
  refine V_ifb_ne (tgt := 115) dX8_travel_108 (by decide) (fun q => ?_) (fun q => ?_)
  · have t := it_t q t
    refine V_aload_n (q := 0) dX8_travel_115 rfl rfl ?_
    refine V_getr f_X8_38 dX8_travel_116 rfl rfl ?_
    refine V_aload_n (q := 0) dX8_travel_119 rfl rfl ?_
    refine V_getr f_X8_22 dX8_travel_120 rfl rfl ?_
    refine V_iload (q := 3) dX8_travel_123 rfl ?_
    obtain ⟨n3, t⟩ := t
    refine V_iald dX8_travel_125 rfl n3 ?_
    refine V_aload_n (q := 0) dX8_travel_126 rfl rfl ?_
    refine V_getr f_X8_25 dX8_travel_127 rfl rfl ?_
    refine V_iload (q := 3) dX8_travel_130 rfl ?_
    refine V_iald dX8_travel_132 rfl n3 ?_
    refine V_aload_n (q := 0) dX8_travel_133 rfl rfl ?_
    refine V_getr f_X8_31 dX8_travel_134 rfl rfl ?_
    refine V_iload (q := 3) dX8_travel_137 rfl ?_
    refine V_iald dX8_travel_139 rfl n3 ?_
    refine V_callV [.int (h1 38 (tn x4)), .int (h1 39 (tn x4)), .int (h1 41 (tn x4))] [] g_X8_travel_X9_comesAt wi_X9_comesAt ws_X9_comesAt dX8_travel_140 rfl rfl rfl rfl rfl (Nat.le_of_ble_eq_true rfl) t (fun _ h4 t => ?_)
    obtain ⟨r5, rfl, t⟩ := t
    refine V_istore_n (L' := [(0, .ref (G.1 34)), (1, .int x1), (3, .int x3), (4, .int x4), (2, .int r5)]) dX8_travel_143 rfl (by decide) rfl rfl ?_
    refine V_iinc (L' := [(0, .ref (G.1 34)), (1, .int x1), (3, .int (x3 + 1)), (4, .int x4), (2, .int r5)]) (q := 2) (a := 1) dX8_travel_144 rfl rfl (by decide) rfl rfl ?_
    refine V_goto (tgt := 9) dX8_travel_147 (by decide) ?_
    refine V_pick (L' := [(0, .ref (G.1 34)), (1, .int x1), (2, .int r5), (3, .int (x3 + 1))]) [0, 1, 4, 2] rfl ?_
    exact t
  · have t := it_f q t
    refine V_iconst (v := (-1)) dX8_travel_111 rfl ?_
    refine V_iload_n (q := 2) dX8_travel_112 rfl rfl ?_
    refine V_isub dX8_travel_113 ?_
    exact V_iret rfl dX8_travel_114 t
set_option maxRecDepth 20000 in
set_option maxHeartbeats 4000000 in
theorem s_Desk_still_0 (G : GA) (h : HP) (x1 : Int32) (K : Int32 → HP → Prop) (t :
  P_Tickets_isOut G h x1 (fun (b2 : Bool) (h1 : HP) =>
    if b2 = true then (
      P_Tickets_travel G h1 x1 (fun (r4 : Int32) (h3 : HP) =>
        if 0 ≤ r4 then (
          K 0 h3
        ) else (
          K (-r4) h3
        )
      )
    ) else (
      K (-2) h1
    )
  )) : P_Desk_still G h x1 K := by
  refine Sp_of_V pf_X11_still (Nat.le_of_ble_eq_true rfl) rfl ?_
  refine V_aload_n (q := 0) dX11_still_0 rfl rfl ?_
  refine V_getr f_X11_42 dX11_still_1 rfl rfl ?_
  refine V_iload_n (q := 1) dX11_still_4 rfl rfl ?_
  refine V_callV [.int x1] [] g_X11_still_X8_isOut wi_X8_isOut ws_X8_isOut dX11_still_5 rfl rfl rfl rfl rfl (Nat.le_of_ble_eq_true rfl) t (fun _ h1 t => ?_)
  obtain ⟨b2, rfl, t⟩ := t
  refine V_ifb_ne (tgt := 14) dX11_still_8 (by decide) (fun q => ?_) (fun q => ?_)
  · have t := it_t q t
    refine V_aload_n (q := 0) dX11_still_14 rfl rfl ?_
    refine V_getr f_X11_42 dX11_still_15 rfl rfl ?_
    refine V_iload_n (q := 1) dX11_still_18 rfl rfl ?_
    refine V_callV [.int x1] [] g_X11_still_X8_travel wi_X8_travel ws_X8_travel dX11_still_19 rfl rfl rfl rfl rfl (Nat.le_of_ble_eq_true rfl) t (fun _ h3 t => ?_)
    obtain ⟨r4, rfl, t⟩ := t
    refine V_istore_n (L' := [(0, .ref (G.1 0)), (1, .int x1), (2, .int r4)]) dX11_still_22 rfl (by decide) rfl rfl ?_
    refine V_iload_n (q := 2) dX11_still_23 rfl rfl ?_
    refine V_if_ge (tgt := 32) dX11_still_24 (by decide) (fun q => ?_) (fun q => ?_)
    · have t := it_t q t
      refine V_iconst (v := 0) dX11_still_32 rfl ?_
      exact V_iret rfl dX11_still_33 t
    · have t := it_f q t
      refine V_iload_n (q := 2) dX11_still_27 rfl rfl ?_
      refine V_ineg dX11_still_28 ?_
      refine V_goto (tgt := 33) dX11_still_29 (by decide) ?_
      exact V_iret rfl dX11_still_33 t
  · have t := it_f q t
    refine V_bipush (v := (-2)) dX11_still_11 rfl ?_
    exact V_iret rfl dX11_still_13 t
set_option maxRecDepth 20000 in
set_option maxHeartbeats 4000000 in
theorem s_Desk_comes_0 (G : GA) (h : HP) (x1 : Int32) (K : Int32 → HP → Prop) (t :
  P_Tickets_isOut G h x1 (fun (b2 : Bool) (h1 : HP) =>
    if b2 = true then (
      P_Tickets_travel G h1 x1 (fun (r4 : Int32) (h3 : HP) =>
        K (if (-1) < r4 then r4 else (-1)) h3
      )
    ) else (
      K (-2) h1
    )
  )) : P_Desk_comes G h x1 K := by
  refine Sp_of_V pf_X11_comes (Nat.le_of_ble_eq_true rfl) rfl ?_
  refine V_aload_n (q := 0) dX11_comes_0 rfl rfl ?_
  refine V_getr f_X11_42 dX11_comes_1 rfl rfl ?_
  refine V_iload_n (q := 1) dX11_comes_4 rfl rfl ?_
  refine V_callV [.int x1] [] g_X11_comes_X8_isOut wi_X8_isOut ws_X8_isOut dX11_comes_5 rfl rfl rfl rfl rfl (Nat.le_of_ble_eq_true rfl) t (fun _ h1 t => ?_)
  obtain ⟨b2, rfl, t⟩ := t
  refine V_ifb_eq (tgt := 26) dX11_comes_8 (by decide) (fun q => ?_) (fun q => ?_)
  · have t := it_f q t
    refine V_bipush (v := (-2)) dX11_comes_26 rfl ?_
    exact V_iret rfl dX11_comes_28 t
  · have t := it_t q t
    refine V_iconst (v := (-1)) dX11_comes_11 rfl ?_
    refine V_aload_n (q := 0) dX11_comes_12 rfl rfl ?_
    refine V_getr f_X11_42 dX11_comes_13 rfl rfl ?_
    refine V_iload_n (q := 1) dX11_comes_16 rfl rfl ?_
    refine V_callV [.int x1] [.int (-1)] g_X11_comes_X8_travel wi_X8_travel ws_X8_travel dX11_comes_17 rfl rfl rfl rfl rfl (Nat.le_of_ble_eq_true rfl) t (fun _ h3 t => ?_)
    obtain ⟨r4, rfl, t⟩ := t
    refine V_mmax l_X11_196 w_static_max w_init_math w_code_max (Nat.le_of_ble_eq_true rfl) (Nat.le_of_ble_eq_true rfl) dX11_comes_20 ?_
    refine V_goto (tgt := 28) dX11_comes_23 (by decide) ?_
    exact V_iret rfl dX11_comes_28 t
set_option maxRecDepth 20000 in
set_option maxHeartbeats 4000000 in
theorem s_Desk_taken_0 (G : GA) (h : HP) (x1 : Int32) (x2 : Int32) (x3 : Int32) (K : Int32 → HP → Prop) (t :
  P_Trips_hasCall G h x1 x3 (fun (b2 : Bool) (h1 : HP) =>
    if b2 = true then (
      P_Desk_isDay G h1 x2 (fun (b4 : Bool) (h3 : HP) =>
        if b4 = true then (
          P_Places_at G h3 x1 x2 x3 (fun (r6 : Int32) (h5 : HP) =>
            K r6 h5
          )
        ) else (
          K (-2) h3
        )
      )
    ) else (
      K (-2) h1
    )
  )) : P_Desk_taken G h x1 x2 x3 K := by
  refine Sp_of_V pf_X11_taken (Nat.le_of_ble_eq_true rfl) rfl ?_
  refine V_aload_n (q := 0) dX11_taken_0 rfl rfl ?_
  refine V_getr f_X11_19 dX11_taken_1 rfl rfl ?_
  refine V_iload_n (q := 1) dX11_taken_4 rfl rfl ?_
  refine V_iload_n (q := 3) dX11_taken_5 rfl rfl ?_
  refine V_callV [.int x1, .int x3] [] g_X11_taken_X9_hasCall wi_X9_hasCall ws_X9_hasCall dX11_taken_6 rfl rfl rfl rfl rfl (Nat.le_of_ble_eq_true rfl) t (fun _ h1 t => ?_)
  obtain ⟨b2, rfl, t⟩ := t
  refine V_ifb_eq (tgt := 32) dX11_taken_9 (by decide) (fun q => ?_) (fun q => ?_)
  · have t := it_f q t
    refine V_bipush (v := (-2)) dX11_taken_32 rfl ?_
    exact V_iret rfl dX11_taken_34 t
  · have t := it_t q t
    refine V_iload_n (q := 2) dX11_taken_12 rfl rfl ?_
    refine V_callS [.int x2] [] g_X11_taken_X11_isDay wt_X11_isDay dX11_taken_13 rfl rfl (Nat.le_of_ble_eq_true rfl) t (fun _ h3 t => ?_)
    obtain ⟨b4, rfl, t⟩ := t
    refine V_ifb_eq (tgt := 32) dX11_taken_16 (by decide) (fun q => ?_) (fun q => ?_)
    · have t := it_f q t
      refine V_bipush (v := (-2)) dX11_taken_32 rfl ?_
      exact V_iret rfl dX11_taken_34 t
    · have t := it_t q t
      refine V_aload_n (q := 0) dX11_taken_19 rfl rfl ?_
      refine V_getr f_X11_33 dX11_taken_20 rfl rfl ?_
      refine V_iload_n (q := 1) dX11_taken_23 rfl rfl ?_
      refine V_iload_n (q := 2) dX11_taken_24 rfl rfl ?_
      refine V_iload_n (q := 3) dX11_taken_25 rfl rfl ?_
      refine V_callV [.int x1, .int x2, .int x3] [] g_X11_taken_X3_at wi_X3_at ws_X3_at dX11_taken_26 rfl rfl rfl rfl rfl (Nat.le_of_ble_eq_true rfl) t (fun _ h5 t => ?_)
      obtain ⟨r6, rfl, t⟩ := t
      refine V_goto (tgt := 34) dX11_taken_29 (by decide) ?_
      exact V_iret rfl dX11_taken_34 t
set_option maxRecDepth 20000 in
set_option maxHeartbeats 4000000 in
theorem s_Search_askSoonest_0 (G : GA) (h : HP) (x1 : Int32) (x2 : Int32) (K : HP → Prop) (t :
  P_Search_ask G h x1 x2 0 (fun h1 : HP =>
    H_Search_askSoonest_9 G h1 0 K
  )) : P_Search_askSoonest G h x1 x2 K := by
  refine Sp_of_V pf_X5_askSoonest (Nat.le_of_ble_eq_true rfl) rfl ?_
  refine V_aload_n (q := 0) dX5_askSoonest_0 rfl rfl ?_
  refine V_iload_n (q := 1) dX5_askSoonest_1 rfl rfl ?_
  refine V_iload_n (q := 2) dX5_askSoonest_2 rfl rfl ?_
  refine V_iconst (v := 0) dX5_askSoonest_3 rfl ?_
  refine V_callV [.int x1, .int x2, .int 0] [] g_X5_askSoonest_X5_ask wi_X5_ask ws_X5_ask dX5_askSoonest_4 rfl rfl rfl rfl rfl (Nat.le_of_ble_eq_true rfl) t (fun _ h1 t => ?_)
  obtain ⟨rfl, t⟩ := t
  refine V_iconst (v := 0) dX5_askSoonest_7 rfl ?_
  refine V_istore_n (L' := [(0, .ref (G.1 48)), (1, .int x1), (2, .int x2), (3, .int 0)]) dX5_askSoonest_8 rfl (by decide) rfl rfl ?_
  refine V_pick (L' := [(0, .ref (G.1 48)), (3, .int 0)]) [0, 3] rfl ?_
  exact t
set_option maxRecDepth 20000 in
set_option maxHeartbeats 4000000 in
theorem s_Search_askSoonest_9 (G : GA) (h : HP) (x3 : Int32) (K : HP → Prop) (t :
  if (h 2 3) ≤ x3 then (
    H_Search_askSoonest_92 G h 0 K
  ) else (
    vp_in x3 12 ∧
    ∀ h1 : HP, h1 = up h 52 (tn x3) 1000000000 →
    H_Search_askSoonest_31 G h1 x3 0 K
  )) : H_Search_askSoonest_9 G h x3 K := by
  unfold H_Search_askSoonest_9
  refine V_iload_n (q := 1) dX5_askSoonest_9 rfl rfl ?_
  refine V_aload_n (q := 0) dX5_askSoonest_10 rfl rfl ?_
  refine V_getr f_X5_27 dX5_askSoonest_11 rfl rfl ?_
  refine V_geti f_X5_74 dX5_askSoonest_14 rfl rfl ?_
  refine V_icmp_ge (tgt := 90) dX5_askSoonest_17 (by decide) (fun q => ?_) (fun q => ?_)
  · have t := it_t q t
    refine V_iconst (v := 0) dX5_askSoonest_90 rfl ?_
    refine V_istore_n (L' := [(0, .ref (G.1 48)), (3, .int 0)]) dX5_askSoonest_91 rfl (by decide) rfl rfl ?_
    exact t
  · have t := it_f q t
    refine V_aload_n (q := 0) dX5_askSoonest_20 rfl rfl ?_
    refine V_getr f_X5_21 dX5_askSoonest_21 rfl rfl ?_
    refine V_iload_n (q := 1) dX5_askSoonest_24 rfl rfl ?_
    refine V_ldc (v := 1000000000) dX5_askSoonest_25 k_X5_50 ?_
    obtain ⟨n2, t⟩ := t
    have t := t _ rfl
    refine V_iast dX5_askSoonest_27 rfl n2 ?_
    refine V_iconst (v := 0) dX5_askSoonest_28 rfl ?_
    refine V_istore (L' := [(0, .ref (G.1 48)), (3, .int x3), (4, .int 0)]) dX5_askSoonest_29 (by decide) rfl rfl ?_
    exact t
set_option maxRecDepth 20000 in
set_option maxHeartbeats 4000000 in
theorem s_Search_askSoonest_31 (G : GA) (h : HP) (x3 : Int32) (x4 : Int32) (K : HP → Prop) (t :
  if 3 < x4 then (
    vp_in x3 12 ∧
    ∀ h2 : HP, h2 = up h 51 (tn x3) (h 52 (tn x3)) →
    H_Search_askSoonest_9 G h2 (x3 + 1) K
  ) else (
    vp_in x3 12 ∧
    P_Search_row G h x4 0 (fun (r5 : Int32) (h4 : HP) =>
      vp_in (r5 + x3) 696 ∧
      ∀ h7 : HP, h7 = up h4 52 (tn x3) (if (h4 49 (tn (r5 + x3))) < (h 52 (tn x3)) then (h4 49 (tn (r5 + x3))) else (h 52 (tn x3))) →
      H_Search_askSoonest_31 G h7 x3 (x4 + 1) K
    )
  )) : H_Search_askSoonest_31 G h x3 x4 K := by
  unfold H_Search_askSoonest_31
  refine V_iload (q := 2) dX5_askSoonest_31 rfl ?_
  refine V_iconst (v := 3) dX5_askSoonest_33 rfl ?_
  refine V_icmp_gt (tgt := 72) dX5_askSoonest_34 (by decide) (fun q => ?_) (fun q => ?_)
  · have t := it_t q t
    refine V_aload_n (q := 0) dX5_askSoonest_72 rfl rfl ?_
    refine V_getr f_X5_18 dX5_askSoonest_73 rfl rfl ?_
    refine V_iload_n (q := 1) dX5_askSoonest_76 rfl rfl ?_
    refine V_aload_n (q := 0) dX5_askSoonest_77 rfl rfl ?_
    refine V_getr f_X5_21 dX5_askSoonest_78 rfl rfl ?_
    refine V_iload_n (q := 1) dX5_askSoonest_81 rfl rfl ?_
    obtain ⟨n1, t⟩ := t
    refine V_iald dX5_askSoonest_82 rfl n1 ?_
    have t := t _ rfl
    refine V_iast dX5_askSoonest_83 rfl n1 ?_
    refine V_iinc (L' := [(0, .ref (G.1 48)), (3, .int (x3 + 1)), (4, .int x4)]) (q := 1) (a := 1) dX5_askSoonest_84 rfl rfl (by decide) rfl rfl ?_
    refine V_goto (tgt := 9) dX5_askSoonest_87 (by decide) ?_
    refine V_pick (L' := [(0, .ref (G.1 48)), (3, .int (x3 + 1))]) [0, 1] rfl ?_
    exact t
  · have t := it_f q t
    refine V_aload_n (q := 0) dX5_askSoonest_37 rfl rfl ?_
    refine V_getr f_X5_21 dX5_askSoonest_38 rfl rfl ?_
    refine V_iload_n (q := 1) dX5_askSoonest_41 rfl rfl ?_
    refine V_aload_n (q := 0) dX5_askSoonest_42 rfl rfl ?_
    refine V_getr f_X5_21 dX5_askSoonest_43 rfl rfl ?_
    refine V_iload_n (q := 1) dX5_askSoonest_46 rfl rfl ?_
    obtain ⟨n3, t⟩ := t
    refine V_iald dX5_askSoonest_47 rfl n3 ?_
    refine V_aload_n (q := 0) dX5_askSoonest_48 rfl rfl ?_
    refine V_getr f_X5_9 dX5_askSoonest_49 rfl rfl ?_
    refine V_aload_n (q := 0) dX5_askSoonest_52 rfl rfl ?_
    refine V_iload (q := 2) dX5_askSoonest_53 rfl ?_
    refine V_iconst (v := 0) dX5_askSoonest_55 rfl ?_
    refine V_callV [.int x4, .int 0] [.ref (G.1 49), .int (h 52 (tn x3)), .int x3, .ref (G.1 52)] g_X5_askSoonest_X5_row wi_X5_row ws_X5_row dX5_askSoonest_56 rfl rfl rfl rfl rfl (Nat.le_of_ble_eq_true rfl) t (fun _ h4 t => ?_)
    obtain ⟨r5, rfl, t⟩ := t
    refine V_iload_n (q := 1) dX5_askSoonest_59 rfl rfl ?_
    refine V_iadd dX5_askSoonest_60 ?_
    obtain ⟨n6, t⟩ := t
    refine V_iald dX5_askSoonest_61 rfl n6 ?_
    refine V_mmin l_X5_81 w_static_min w_init_math w_code_min (Nat.le_of_ble_eq_true rfl) (Nat.le_of_ble_eq_true rfl) dX5_askSoonest_62 ?_
    have t := t _ rfl
    refine V_iast dX5_askSoonest_65 rfl n3 ?_
    refine V_iinc (L' := [(0, .ref (G.1 48)), (3, .int x3), (4, .int (x4 + 1))]) (q := 2) (a := 1) dX5_askSoonest_66 rfl rfl (by decide) rfl rfl ?_
    refine V_goto (tgt := 31) dX5_askSoonest_69 (by decide) ?_
    exact t
set_option maxRecDepth 20000 in
set_option maxHeartbeats 4000000 in
theorem s_Search_askSoonest_92 (G : GA) (h : HP) (x3 : Int32) (K : HP → Prop) (t :
  if (h 22 8) ≤ x3 then (
    K h
  ) else (
    vp_in x3 20 ∧
    vp_in (h 23 (tn x3)) 12 ∧
    P_Walks_endsAt G h x3 (h 52 (tn (h 23 (tn x3)))) (h 48 9) (fun (r4 : Int32) (h3 : HP) =>
      if (h3 42 6) ≤ r4 then (
        H_Search_askSoonest_92 G h3 (x3 + 1) K
      ) else (
        vp_in (h3 24 (tn x3)) 12 ∧
        ∀ h6 : HP, h6 = up h3 51 (tn (h3 24 (tn x3))) (if r4 < (h3 51 (tn (h3 24 (tn x3)))) then r4 else (h3 51 (tn (h3 24 (tn x3))))) →
        H_Search_askSoonest_92 G h6 (x3 + 1) K
      )
    )
  )) : H_Search_askSoonest_92 G h x3 K := by
  unfold H_Search_askSoonest_92
  refine V_iload_n (q := 1) dX5_askSoonest_92 rfl rfl ?_
  refine V_aload_n (q := 0) dX5_askSoonest_93 rfl rfl ?_
  refine V_getr f_X5_35 dX5_askSoonest_94 rfl rfl ?_
  refine V_geti f_X5_86 dX5_askSoonest_97 rfl rfl ?_
  refine V_icmp_ge (tgt := 182) dX5_askSoonest_100 (by decide) (fun q => ?_) (fun q => ?_)
  · have t := it_t q t
    exact V_vret rfl dX5_askSoonest_182 t
  · have t := it_f q t
    refine V_aload_n (q := 0) dX5_askSoonest_103 rfl rfl ?_
    refine V_getr f_X5_35 dX5_askSoonest_104 rfl rfl ?_
    refine V_iload_n (q := 1) dX5_askSoonest_107 rfl rfl ?_
    refine V_aload_n (q := 0) dX5_askSoonest_108 rfl rfl ?_
    refine V_getr f_X5_21 dX5_askSoonest_109 rfl rfl ?_
    refine V_aload_n (q := 0) dX5_askSoonest_112 rfl rfl ?_
    refine V_getr f_X5_35 dX5_askSoonest_113 rfl rfl ?_
    refine V_getr f_X5_89 dX5_askSoonest_116 rfl rfl ?_
    refine V_iload_n (q := 1) dX5_askSoonest_119 rfl rfl ?_
    obtain ⟨n1, t⟩ := t
    refine V_iald dX5_askSoonest_120 rfl n1 ?_
    obtain ⟨n2, t⟩ := t
    refine V_iald dX5_askSoonest_121 rfl n2 ?_
    refine V_aload_n (q := 0) dX5_askSoonest_122 rfl rfl ?_
    refine V_geti f_X5_43 dX5_askSoonest_123 rfl rfl ?_
    refine V_callV [.int x3, .int (h 52 (tn (h 23 (tn x3)))), .int (h 48 9)] [] g_X5_askSoonest_X10_endsAt wi_X10_endsAt ws_X10_endsAt dX5_askSoonest_126 rfl rfl rfl rfl rfl (Nat.le_of_ble_eq_true rfl) t (fun _ h3 t => ?_)
    obtain ⟨r4, rfl, t⟩ := t
    refine V_istore (L' := [(0, .ref (G.1 48)), (3, .int x3), (4, .int r4)]) dX5_askSoonest_129 (by decide) rfl rfl ?_
    refine V_iload (q := 2) dX5_askSoonest_131 rfl ?_
    refine V_aload_n (q := 0) dX5_askSoonest_133 rfl rfl ?_
    refine V_getr f_X5_39 dX5_askSoonest_134 rfl rfl ?_
    refine V_geti f_X5_96 dX5_askSoonest_137 rfl rfl ?_
    refine V_icmp_ge (tgt := 176) dX5_askSoonest_140 (by decide) (fun q => ?_) (fun q => ?_)
    · have t := it_t q t
      refine V_iinc (L' := [(0, .ref (G.1 48)), (3, .int (x3 + 1)), (4, .int r4)]) (q := 1) (a := 1) dX5_askSoonest_176 rfl rfl (by decide) rfl rfl ?_
      refine V_goto (tgt := 92) dX5_askSoonest_179 (by decide) ?_
      refine V_pick (L' := [(0, .ref (G.1 48)), (3, .int (x3 + 1))]) [0, 1] rfl ?_
      exact t
    · have t := it_f q t
      refine V_aload_n (q := 0) dX5_askSoonest_143 rfl rfl ?_
      refine V_getr f_X5_18 dX5_askSoonest_144 rfl rfl ?_
      refine V_aload_n (q := 0) dX5_askSoonest_147 rfl rfl ?_
      refine V_getr f_X5_35 dX5_askSoonest_148 rfl rfl ?_
      refine V_getr f_X5_99 dX5_askSoonest_151 rfl rfl ?_
      refine V_iload_n (q := 1) dX5_askSoonest_154 rfl rfl ?_
      refine V_iald dX5_askSoonest_155 rfl n1 ?_
      refine V_aload_n (q := 0) dX5_askSoonest_156 rfl rfl ?_
      refine V_getr f_X5_18 dX5_askSoonest_157 rfl rfl ?_
      refine V_aload_n (q := 0) dX5_askSoonest_160 rfl rfl ?_
      refine V_getr f_X5_35 dX5_askSoonest_161 rfl rfl ?_
      refine V_getr f_X5_99 dX5_askSoonest_164 rfl rfl ?_
      refine V_iload_n (q := 1) dX5_askSoonest_167 rfl rfl ?_
      refine V_iald dX5_askSoonest_168 rfl n1 ?_
      obtain ⟨n5, t⟩ := t
      refine V_iald dX5_askSoonest_169 rfl n5 ?_
      refine V_iload (q := 2) dX5_askSoonest_170 rfl ?_
      refine V_mmin l_X5_81 w_static_min w_init_math w_code_min (Nat.le_of_ble_eq_true rfl) (Nat.le_of_ble_eq_true rfl) dX5_askSoonest_172 ?_
      have t := t _ rfl
      refine V_iast dX5_askSoonest_175 rfl n5 ?_
      refine V_iinc (L' := [(0, .ref (G.1 48)), (3, .int (x3 + 1)), (4, .int r4)]) (q := 1) (a := 1) dX5_askSoonest_176 rfl rfl (by decide) rfl rfl ?_
      refine V_goto (tgt := 92) dX5_askSoonest_179 (by decide) ?_
      refine V_pick (L' := [(0, .ref (G.1 48)), (3, .int (x3 + 1))]) [0, 1] rfl ?_
      exact t
set_option maxRecDepth 20000 in
set_option maxHeartbeats 4000000 in
theorem s_Desk_latest_0 (G : GA) (h : HP) (x1 : Int32) (x2 : Int32) (x3 : Int32) (x4 : Int32) (K : Int32 → HP → Prop) (t :
  P_Stops_has G h x1 (fun (b2 : Bool) (h1 : HP) =>
    if b2 = true then (
      P_Stops_has G h1 x2 (fun (b4 : Bool) (h3 : HP) =>
        if b4 = true then (
          P_Desk_isDay G h3 x3 (fun (b6 : Bool) (h5 : HP) =>
            if b6 = true then (
              P_Runs_gather G h5 x3 (1440 * x3) (fun h7 : HP =>
                H_Desk_latest_57 G h7 x1 x2 x4 (1440 * x3) (-1) 1024 K
              )
            ) else (
              K (-2) h5
            )
          )
        ) else (
          K (-2) h3
        )
      )
    ) else (
      K (-2) h1
    )
  )) : P_Desk_latest G h x1 x2 x3 x4 K := by
  refine Sp_of_V pf_X11_latest (Nat.le_of_ble_eq_true rfl) rfl ?_
  refine V_aload_n (q := 0) dX11_latest_0 rfl rfl ?_
  refine V_getr f_X11_12 dX11_latest_1 rfl rfl ?_
  refine V_iload_n (q := 1) dX11_latest_4 rfl rfl ?_
  refine V_callV [.int x1] [] g_X11_latest_X7_has wi_X7_has ws_X7_has dX11_latest_5 rfl rfl rfl rfl rfl (Nat.le_of_ble_eq_true rfl) t (fun _ h1 t => ?_)
  obtain ⟨b2, rfl, t⟩ := t
  refine V_ifb_eq (tgt := 29) dX11_latest_8 (by decide) (fun q => ?_) (fun q => ?_)
  · have t := it_f q t
    refine V_bipush (v := (-2)) dX11_latest_29 rfl ?_
    exact V_iret rfl dX11_latest_31 t
  · have t := it_t q t
    refine V_aload_n (q := 0) dX11_latest_11 rfl rfl ?_
    refine V_getr f_X11_12 dX11_latest_12 rfl rfl ?_
    refine V_iload_n (q := 2) dX11_latest_15 rfl rfl ?_
    refine V_callV [.int x2] [] g_X11_latest_X7_has wi_X7_has ws_X7_has dX11_latest_16 rfl rfl rfl rfl rfl (Nat.le_of_ble_eq_true rfl) t (fun _ h3 t => ?_)
    obtain ⟨b4, rfl, t⟩ := t
    refine V_ifb_eq (tgt := 29) dX11_latest_19 (by decide) (fun q => ?_) (fun q => ?_)
    · have t := it_f q t
      refine V_bipush (v := (-2)) dX11_latest_29 rfl ?_
      exact V_iret rfl dX11_latest_31 t
    · have t := it_t q t
      refine V_iload_n (q := 3) dX11_latest_22 rfl rfl ?_
      refine V_callS [.int x3] [] g_X11_latest_X11_isDay wt_X11_isDay dX11_latest_23 rfl rfl (Nat.le_of_ble_eq_true rfl) t (fun _ h5 t => ?_)
      obtain ⟨b6, rfl, t⟩ := t
      refine V_ifb_ne (tgt := 32) dX11_latest_26 (by decide) (fun q => ?_) (fun q => ?_)
      · have t := it_t q t
        refine V_sipush (v := 1440) dX11_latest_32 rfl ?_
        refine V_iload_n (q := 3) dX11_latest_35 rfl rfl ?_
        refine V_imul dX11_latest_36 ?_
        refine V_istore (L' := [(0, .ref (G.1 0)), (1, .int x1), (2, .int x2), (3, .int x3), (4, .int x4), (5, .int (1440 * x3))]) dX11_latest_37 (by decide) rfl rfl ?_
        refine V_aload_n (q := 0) dX11_latest_39 rfl rfl ?_
        refine V_getr f_X11_51 dX11_latest_40 rfl rfl ?_
        refine V_iload_n (q := 3) dX11_latest_43 rfl rfl ?_
        refine V_iload (q := 5) dX11_latest_44 rfl ?_
        refine V_callV [.int x3, .int (1440 * x3)] [] g_X11_latest_X4_gather wi_X4_gather ws_X4_gather dX11_latest_46 rfl rfl rfl rfl rfl (Nat.le_of_ble_eq_true rfl) t (fun _ h7 t => ?_)
        obtain ⟨rfl, t⟩ := t
        refine V_iconst (v := (-1)) dX11_latest_49 rfl ?_
        refine V_istore (L' := [(0, .ref (G.1 0)), (1, .int x1), (2, .int x2), (3, .int x3), (4, .int x4), (5, .int (1440 * x3)), (6, .int (-1))]) dX11_latest_50 (by decide) rfl rfl ?_
        refine V_sipush (v := 1024) dX11_latest_52 rfl ?_
        refine V_istore (L' := [(0, .ref (G.1 0)), (1, .int x1), (2, .int x2), (3, .int x3), (4, .int x4), (5, .int (1440 * x3)), (6, .int (-1)), (7, .int 1024)]) dX11_latest_55 (by decide) rfl rfl ?_
        refine V_pick (L' := [(0, .ref (G.1 0)), (1, .int x1), (2, .int x2), (4, .int x4), (5, .int (1440 * x3)), (6, .int (-1)), (7, .int 1024)]) [0, 1, 2, 4, 5, 6, 7] rfl ?_
        exact t
      · have t := it_f q t
        refine V_bipush (v := (-2)) dX11_latest_29 rfl ?_
        exact V_iret rfl dX11_latest_31 t
set_option maxRecDepth 20000 in
set_option maxHeartbeats 4000000 in
theorem s_Desk_latest_57 (G : GA) (h : HP) (x1 : Int32) (x2 : Int32) (x4 : Int32) (x5 : Int32) (x6 : Int32) (x7 : Int32) (K : Int32 → HP → Prop) (t :
  if x7 ≤ 0 then (
    K x6 h
  ) else (
    if 1440 ≤ (x6 + x7) then (
      H_Desk_latest_57 G h x1 x2 x4 x5 x6 (x7 >>> (1 &&& 31)) K
    ) else (
      P_Search_askSoonest G h x1 (x5 + (x6 + x7)) (fun h1 : HP =>
        vp_in x2 12 ∧
        if 1000000000 ≤ (h1 51 (tn x2)) then (
          H_Desk_latest_57 G h1 x1 x2 x4 x5 x6 (x7 >>> (1 &&& 31)) K
        ) else (
          if x4 < (h1 51 (tn x2)) then (
            H_Desk_latest_57 G h1 x1 x2 x4 x5 x6 (x7 >>> (1 &&& 31)) K
          ) else (
            H_Desk_latest_57 G h1 x1 x2 x4 x5 (x6 + x7) (x7 >>> (1 &&& 31)) K
          )
        )
      )
    )
  )) : H_Desk_latest_57 G h x1 x2 x4 x5 x6 x7 K := by
  unfold H_Desk_latest_57
  refine V_iload (q := 6) dX11_latest_57 rfl ?_
  refine V_if_le (tgt := 131) dX11_latest_59 (by decide) (fun q => ?_) (fun q => ?_)
  · have t := it_t q t
    refine V_iload (q := 5) dX11_latest_131 rfl ?_
    exact V_iret rfl dX11_latest_133 t
  · have t := it_f q t
    refine V_iload (q := 5) dX11_latest_62 rfl ?_
    refine V_iload (q := 6) dX11_latest_64 rfl ?_
    refine V_iadd dX11_latest_66 ?_
    refine V_istore (L' := [(0, .ref (G.1 0)), (1, .int x1), (2, .int x2), (4, .int x4), (5, .int x5), (6, .int x6), (7, .int x7), (8, .int (x6 + x7))]) dX11_latest_67 (by decide) rfl rfl ?_
    refine V_iload (q := 7) dX11_latest_69 rfl ?_
    refine V_sipush (v := 1440) dX11_latest_71 rfl ?_
    refine V_icmp_ge (tgt := 122) dX11_latest_74 (by decide) (fun q => ?_) (fun q => ?_)
    · have t := it_t q t
      refine V_iload (q := 6) dX11_latest_122 rfl ?_
      refine V_iconst (v := 1) dX11_latest_124 rfl ?_
      refine V_ishr dX11_latest_125 ?_
      refine V_istore (L' := [(0, .ref (G.1 0)), (1, .int x1), (2, .int x2), (4, .int x4), (5, .int x5), (6, .int x6), (7, .int (x7 >>> (1 &&& 31))), (8, .int (x6 + x7))]) dX11_latest_126 (by decide) rfl rfl ?_
      refine V_goto (tgt := 57) dX11_latest_128 (by decide) ?_
      refine V_pick (L' := [(0, .ref (G.1 0)), (1, .int x1), (2, .int x2), (4, .int x4), (5, .int x5), (6, .int x6), (7, .int (x7 >>> (1 &&& 31)))]) [0, 1, 2, 3, 4, 5, 6] rfl ?_
      exact t
    · have t := it_f q t
      refine V_aload_n (q := 0) dX11_latest_77 rfl rfl ?_
      refine V_getr f_X11_60 dX11_latest_78 rfl rfl ?_
      refine V_iload_n (q := 1) dX11_latest_81 rfl rfl ?_
      refine V_iload (q := 4) dX11_latest_82 rfl ?_
      refine V_iload (q := 7) dX11_latest_84 rfl ?_
      refine V_iadd dX11_latest_86 ?_
      refine V_callV [.int x1, .int (x5 + (x6 + x7))] [] g_X11_latest_X5_askSoonest wi_X5_askSoonest ws_X5_askSoonest dX11_latest_87 rfl rfl rfl rfl rfl (Nat.le_of_ble_eq_true rfl) t (fun _ h1 t => ?_)
      obtain ⟨rfl, t⟩ := t
      refine V_aload_n (q := 0) dX11_latest_90 rfl rfl ?_
      refine V_getr f_X11_60 dX11_latest_91 rfl rfl ?_
      refine V_getr f_X11_207 dX11_latest_94 rfl rfl ?_
      refine V_iload_n (q := 2) dX11_latest_97 rfl rfl ?_
      obtain ⟨n2, t⟩ := t
      refine V_iald dX11_latest_98 rfl n2 ?_
      refine V_ldc (v := 1000000000) dX11_latest_99 k_X11_210 ?_
      refine V_icmp_ge (tgt := 122) dX11_latest_101 (by decide) (fun q => ?_) (fun q => ?_)
      · have t := it_t q t
        refine V_iload (q := 6) dX11_latest_122 rfl ?_
        refine V_iconst (v := 1) dX11_latest_124 rfl ?_
        refine V_ishr dX11_latest_125 ?_
        refine V_istore (L' := [(0, .ref (G.1 0)), (1, .int x1), (2, .int x2), (4, .int x4), (5, .int x5), (6, .int x6), (7, .int (x7 >>> (1 &&& 31))), (8, .int (x6 + x7))]) dX11_latest_126 (by decide) rfl rfl ?_
        refine V_goto (tgt := 57) dX11_latest_128 (by decide) ?_
        refine V_pick (L' := [(0, .ref (G.1 0)), (1, .int x1), (2, .int x2), (4, .int x4), (5, .int x5), (6, .int x6), (7, .int (x7 >>> (1 &&& 31)))]) [0, 1, 2, 3, 4, 5, 6] rfl ?_
        exact t
      · have t := it_f q t
        refine V_aload_n (q := 0) dX11_latest_104 rfl rfl ?_
        refine V_getr f_X11_60 dX11_latest_105 rfl rfl ?_
        refine V_getr f_X11_207 dX11_latest_108 rfl rfl ?_
        refine V_iload_n (q := 2) dX11_latest_111 rfl rfl ?_
        refine V_iald dX11_latest_112 rfl n2 ?_
        refine V_iload (q := 3) dX11_latest_113 rfl ?_
        refine V_icmp_gt (tgt := 122) dX11_latest_115 (by decide) (fun q => ?_) (fun q => ?_)
        · have t := it_t q t
          refine V_iload (q := 6) dX11_latest_122 rfl ?_
          refine V_iconst (v := 1) dX11_latest_124 rfl ?_
          refine V_ishr dX11_latest_125 ?_
          refine V_istore (L' := [(0, .ref (G.1 0)), (1, .int x1), (2, .int x2), (4, .int x4), (5, .int x5), (6, .int x6), (7, .int (x7 >>> (1 &&& 31))), (8, .int (x6 + x7))]) dX11_latest_126 (by decide) rfl rfl ?_
          refine V_goto (tgt := 57) dX11_latest_128 (by decide) ?_
          refine V_pick (L' := [(0, .ref (G.1 0)), (1, .int x1), (2, .int x2), (4, .int x4), (5, .int x5), (6, .int x6), (7, .int (x7 >>> (1 &&& 31)))]) [0, 1, 2, 3, 4, 5, 6] rfl ?_
          exact t
        · have t := it_f q t
          refine V_iload (q := 7) dX11_latest_118 rfl ?_
          refine V_istore (L' := [(0, .ref (G.1 0)), (1, .int x1), (2, .int x2), (4, .int x4), (5, .int x5), (6, .int (x6 + x7)), (7, .int x7), (8, .int (x6 + x7))]) dX11_latest_120 (by decide) rfl rfl ?_
          refine V_iload (q := 6) dX11_latest_122 rfl ?_
          refine V_iconst (v := 1) dX11_latest_124 rfl ?_
          refine V_ishr dX11_latest_125 ?_
          refine V_istore (L' := [(0, .ref (G.1 0)), (1, .int x1), (2, .int x2), (4, .int x4), (5, .int x5), (6, .int (x6 + x7)), (7, .int (x7 >>> (1 &&& 31))), (8, .int (x6 + x7))]) dX11_latest_126 (by decide) rfl rfl ?_
          refine V_goto (tgt := 57) dX11_latest_128 (by decide) ?_
          refine V_pick (L' := [(0, .ref (G.1 0)), (1, .int x1), (2, .int x2), (4, .int x4), (5, .int x5), (6, .int (x6 + x7)), (7, .int (x7 >>> (1 &&& 31)))]) [0, 1, 2, 3, 4, 5, 6] rfl ?_
          exact t
set_option maxRecDepth 20000 in
set_option maxHeartbeats 4000000 in
theorem s_Desk_reach_0 (G : GA) (h : HP) (x1 : Int32) (x2 : Int32) (x3 : Int32) (x4 : Int32) (K : Int32 → HP → Prop) (t :
  P_Stops_has G h x1 (fun (b2 : Bool) (h1 : HP) =>
    if b2 = true then (
      P_Desk_isDay G h1 x2 (fun (b4 : Bool) (h3 : HP) =>
        if b4 = true then (
          P_Desk_isMinute G h3 x3 (fun (b6 : Bool) (h5 : HP) =>
            if b6 = true then (
              if 0 ≤ x4 then (
                P_Runs_gather G h5 x2 ((1440 * x2) + x3) (fun h7 : HP =>
                  P_Search_askSoonest G h7 x1 ((1440 * x2) + x3) (fun h8 : HP =>
                    H_Desk_reach_68 G h8 x4 ((1440 * x2) + x3) 0 0 K
                  )
                )
              ) else (
                K (-2) h5
              )
            ) else (
              K (-2) h5
            )
          )
        ) else (
          K (-2) h3
        )
      )
    ) else (
      K (-2) h1
    )
  )) : P_Desk_reach G h x1 x2 x3 x4 K := by
  refine Sp_of_V pf_X11_reach (Nat.le_of_ble_eq_true rfl) rfl ?_
  refine V_aload_n (q := 0) dX11_reach_0 rfl rfl ?_
  refine V_getr f_X11_12 dX11_reach_1 rfl rfl ?_
  refine V_iload_n (q := 1) dX11_reach_4 rfl rfl ?_
  refine V_callV [.int x1] [] g_X11_reach_X7_has wi_X7_has ws_X7_has dX11_reach_5 rfl rfl rfl rfl rfl (Nat.le_of_ble_eq_true rfl) t (fun _ h1 t => ?_)
  obtain ⟨b2, rfl, t⟩ := t
  refine V_ifb_eq (tgt := 30) dX11_reach_8 (by decide) (fun q => ?_) (fun q => ?_)
  · have t := it_f q t
    refine V_bipush (v := (-2)) dX11_reach_30 rfl ?_
    exact V_iret rfl dX11_reach_32 t
  · have t := it_t q t
    refine V_iload_n (q := 2) dX11_reach_11 rfl rfl ?_
    refine V_callS [.int x2] [] g_X11_reach_X11_isDay wt_X11_isDay dX11_reach_12 rfl rfl (Nat.le_of_ble_eq_true rfl) t (fun _ h3 t => ?_)
    obtain ⟨b4, rfl, t⟩ := t
    refine V_ifb_eq (tgt := 30) dX11_reach_15 (by decide) (fun q => ?_) (fun q => ?_)
    · have t := it_f q t
      refine V_bipush (v := (-2)) dX11_reach_30 rfl ?_
      exact V_iret rfl dX11_reach_32 t
    · have t := it_t q t
      refine V_iload_n (q := 3) dX11_reach_18 rfl rfl ?_
      refine V_callS [.int x3] [] g_X11_reach_X11_isMinute wt_X11_isMinute dX11_reach_19 rfl rfl (Nat.le_of_ble_eq_true rfl) t (fun _ h5 t => ?_)
      obtain ⟨b6, rfl, t⟩ := t
      refine V_ifb_eq (tgt := 30) dX11_reach_22 (by decide) (fun q => ?_) (fun q => ?_)
      · have t := it_f q t
        refine V_bipush (v := (-2)) dX11_reach_30 rfl ?_
        exact V_iret rfl dX11_reach_32 t
      · have t := it_t q t
        refine V_iload (q := 4) dX11_reach_25 rfl ?_
        refine V_if_ge (tgt := 33) dX11_reach_27 (by decide) (fun q => ?_) (fun q => ?_)
        · have t := it_t q t
          refine V_sipush (v := 1440) dX11_reach_33 rfl ?_
          refine V_iload_n (q := 2) dX11_reach_36 rfl rfl ?_
          refine V_imul dX11_reach_37 ?_
          refine V_iload_n (q := 3) dX11_reach_38 rfl rfl ?_
          refine V_iadd dX11_reach_39 ?_
          refine V_istore (L' := [(0, .ref (G.1 0)), (1, .int x1), (2, .int x2), (3, .int x3), (4, .int x4), (5, .int ((1440 * x2) + x3))]) dX11_reach_40 (by decide) rfl rfl ?_
          refine V_aload_n (q := 0) dX11_reach_42 rfl rfl ?_
          refine V_getr f_X11_51 dX11_reach_43 rfl rfl ?_
          refine V_iload_n (q := 2) dX11_reach_46 rfl rfl ?_
          refine V_iload (q := 5) dX11_reach_47 rfl ?_
          refine V_callV [.int x2, .int ((1440 * x2) + x3)] [] g_X11_reach_X4_gather wi_X4_gather ws_X4_gather dX11_reach_49 rfl rfl rfl rfl rfl (Nat.le_of_ble_eq_true rfl) t (fun _ h7 t => ?_)
          obtain ⟨rfl, t⟩ := t
          refine V_aload_n (q := 0) dX11_reach_52 rfl rfl ?_
          refine V_getr f_X11_60 dX11_reach_53 rfl rfl ?_
          refine V_iload_n (q := 1) dX11_reach_56 rfl rfl ?_
          refine V_iload (q := 5) dX11_reach_57 rfl ?_
          refine V_callV [.int x1, .int ((1440 * x2) + x3)] [] g_X11_reach_X5_askSoonest wi_X5_askSoonest ws_X5_askSoonest dX11_reach_59 rfl rfl rfl rfl rfl (Nat.le_of_ble_eq_true rfl) t (fun _ h8 t => ?_)
          obtain ⟨rfl, t⟩ := t
          refine V_iconst (v := 0) dX11_reach_62 rfl ?_
          refine V_istore (L' := [(0, .ref (G.1 0)), (1, .int x1), (2, .int x2), (3, .int x3), (4, .int x4), (5, .int ((1440 * x2) + x3)), (6, .int 0)]) dX11_reach_63 (by decide) rfl rfl ?_
          refine V_iconst (v := 0) dX11_reach_65 rfl ?_
          refine V_istore (L' := [(0, .ref (G.1 0)), (1, .int x1), (2, .int x2), (3, .int x3), (4, .int x4), (5, .int ((1440 * x2) + x3)), (6, .int 0), (7, .int 0)]) dX11_reach_66 (by decide) rfl rfl ?_
          refine V_pick (L' := [(0, .ref (G.1 0)), (4, .int x4), (5, .int ((1440 * x2) + x3)), (6, .int 0), (7, .int 0)]) [0, 4, 5, 6, 7] rfl ?_
          exact t
        · have t := it_f q t
          refine V_bipush (v := (-2)) dX11_reach_30 rfl ?_
          exact V_iret rfl dX11_reach_32 t
set_option maxRecDepth 20000 in
set_option maxHeartbeats 4000000 in
theorem s_Desk_reach_68 (G : GA) (h : HP) (x4 : Int32) (x5 : Int32) (x6 : Int32) (x7 : Int32) (K : Int32 → HP → Prop) (t :
  if (h 2 3) ≤ x7 then (
    K x6 h
  ) else (
    vp_in x7 12 ∧
    if 1000000000 ≤ (h 51 (tn x7)) then (
      H_Desk_reach_68 G h x4 x5 x6 (x7 + 1) K
    ) else (
      if x4 < ((h 51 (tn x7)) - x5) then (
        H_Desk_reach_68 G h x4 x5 x6 (x7 + 1) K
      ) else (
        H_Desk_reach_68 G h x4 x5 (x6 ||| (1 <<< (x7 &&& 31))) (x7 + 1) K
      )
    )
  )) : H_Desk_reach_68 G h x4 x5 x6 x7 K := by
  unfold H_Desk_reach_68
  refine V_iload (q := 4) dX11_reach_68 rfl ?_
  refine V_aload_n (q := 0) dX11_reach_70 rfl rfl ?_
  refine V_getr f_X11_12 dX11_reach_71 rfl rfl ?_
  refine V_geti f_X11_211 dX11_reach_74 rfl rfl ?_
  refine V_icmp_ge (tgt := 128) dX11_reach_77 (by decide) (fun q => ?_) (fun q => ?_)
  · have t := it_t q t
    refine V_iload (q := 3) dX11_reach_128 rfl ?_
    exact V_iret rfl dX11_reach_130 t
  · have t := it_f q t
    refine V_aload_n (q := 0) dX11_reach_80 rfl rfl ?_
    refine V_getr f_X11_60 dX11_reach_81 rfl rfl ?_
    refine V_getr f_X11_207 dX11_reach_84 rfl rfl ?_
    refine V_iload (q := 4) dX11_reach_87 rfl ?_
    obtain ⟨n1, t⟩ := t
    refine V_iald dX11_reach_89 rfl n1 ?_
    refine V_ldc (v := 1000000000) dX11_reach_90 k_X11_210 ?_
    refine V_icmp_ge (tgt := 122) dX11_reach_92 (by decide) (fun q => ?_) (fun q => ?_)
    · have t := it_t q t
      refine V_iinc (L' := [(0, .ref (G.1 0)), (4, .int x4), (5, .int x5), (6, .int x6), (7, .int (x7 + 1))]) (q := 4) (a := 1) dX11_reach_122 rfl rfl (by decide) rfl rfl ?_
      refine V_goto (tgt := 68) dX11_reach_125 (by decide) ?_
      exact t
    · have t := it_f q t
      refine V_aload_n (q := 0) dX11_reach_95 rfl rfl ?_
      refine V_getr f_X11_60 dX11_reach_96 rfl rfl ?_
      refine V_getr f_X11_207 dX11_reach_99 rfl rfl ?_
      refine V_iload (q := 4) dX11_reach_102 rfl ?_
      refine V_iald dX11_reach_104 rfl n1 ?_
      refine V_iload (q := 2) dX11_reach_105 rfl ?_
      refine V_isub dX11_reach_107 ?_
      refine V_iload (q := 1) dX11_reach_108 rfl ?_
      refine V_icmp_gt (tgt := 122) dX11_reach_110 (by decide) (fun q => ?_) (fun q => ?_)
      · have t := it_t q t
        refine V_iinc (L' := [(0, .ref (G.1 0)), (4, .int x4), (5, .int x5), (6, .int x6), (7, .int (x7 + 1))]) (q := 4) (a := 1) dX11_reach_122 rfl rfl (by decide) rfl rfl ?_
        refine V_goto (tgt := 68) dX11_reach_125 (by decide) ?_
        exact t
      · have t := it_f q t
        refine V_iload (q := 3) dX11_reach_113 rfl ?_
        refine V_iconst (v := 1) dX11_reach_115 rfl ?_
        refine V_iload (q := 4) dX11_reach_116 rfl ?_
        refine V_ishl dX11_reach_118 ?_
        refine V_ior dX11_reach_119 ?_
        refine V_istore (L' := [(0, .ref (G.1 0)), (4, .int x4), (5, .int x5), (6, .int (x6 ||| (1 <<< (x7 &&& 31)))), (7, .int x7)]) dX11_reach_120 (by decide) rfl rfl ?_
        refine V_iinc (L' := [(0, .ref (G.1 0)), (4, .int x4), (5, .int x5), (6, .int (x6 ||| (1 <<< (x7 &&& 31)))), (7, .int (x7 + 1))]) (q := 4) (a := 1) dX11_reach_122 rfl rfl (by decide) rfl rfl ?_
        refine V_goto (tgt := 68) dX11_reach_125 (by decide) ?_
        exact t
set_option maxRecDepth 20000 in
set_option maxHeartbeats 4000000 in
theorem s_Arr_fill_1_0 (G : GA) (h : HP) (x1 : Int32) (K : HP → Prop) (t :
  H_Arr_fill_1_5 G h x1 0 12 K) : P_Arr_fill_1 G h x1 K := by
  refine Sp_of_V pf_J7_fill_53178 (Nat.le_of_ble_eq_true rfl) rfl ?_
  refine V_iconst (v := 0) dJ7_fill_53178_0 rfl ?_
  refine V_istore_n (L' := [(0, .ref (G.1 1)), (1, .int x1), (2, .int 0)]) dJ7_fill_53178_1 rfl (by decide) rfl rfl ?_
  refine V_aload_n (q := 0) dJ7_fill_53178_2 rfl rfl ?_
  refine V_alen (v := 12) dJ7_fill_53178_3 rfl rfl ?_
  refine V_istore_n (L' := [(0, .ref (G.1 1)), (1, .int x1), (2, .int 0), (3, .int 12)]) dJ7_fill_53178_4 rfl (by decide) rfl rfl ?_
  exact t
set_option maxRecDepth 20000 in
set_option maxHeartbeats 4000000 in
theorem s_Arr_fill_1_5 (G : GA) (h : HP) (x1 : Int32) (x2 : Int32) (x3 : Int32) (K : HP → Prop) (t :
  if x3 ≤ x2 then (
    K h
  ) else (
    vp_in x2 12 ∧
    ∀ h1 : HP, h1 = up h 1 (tn x2) x1 →
    H_Arr_fill_1_5 G h1 x1 (x2 + 1) x3 K
  )) : H_Arr_fill_1_5 G h x1 x2 x3 K := by
  unfold H_Arr_fill_1_5
  refine V_iload_n (q := 2) dJ7_fill_53178_5 rfl rfl ?_
  refine V_iload_n (q := 3) dJ7_fill_53178_6 rfl rfl ?_
  refine V_icmp_ge (tgt := 20) dJ7_fill_53178_7 (by decide) (fun q => ?_) (fun q => ?_)
  · have t := it_t q t
    exact V_vret rfl dJ7_fill_53178_20 t
  · have t := it_f q t
    refine V_aload_n (q := 0) dJ7_fill_53178_10 rfl rfl ?_
    refine V_iload_n (q := 2) dJ7_fill_53178_11 rfl rfl ?_
    refine V_iload_n (q := 1) dJ7_fill_53178_12 rfl rfl ?_
    obtain ⟨n2, t⟩ := t
    have t := t _ rfl
    refine V_iast dJ7_fill_53178_13 rfl n2 ?_
    refine V_iinc (L' := [(0, .ref (G.1 1)), (1, .int x1), (2, .int (x2 + 1)), (3, .int x3)]) (q := 2) (a := 1) dJ7_fill_53178_14 rfl rfl (by decide) rfl rfl ?_
    refine V_goto (tgt := 5) dJ7_fill_53178_17 (by decide) ?_
    exact t
set_option maxRecDepth 20000 in
set_option maxHeartbeats 4000000 in
theorem s_Desk_gather_0 (G : GA) (h : HP) (x1 : Int32) (x2 : Int32) (x3 : Int32) (K : HP → Prop) (t :
  P_Runs_gather G h x2 ((1440 * x2) + x3) (fun h1 : HP =>
    P_Arr_fill_1 G h1 ((1440 * x2) + x3) (fun h2 : HP =>
      H_Desk_gather_31 G h2 x1 ((1440 * x2) + x3) 0 K
    )
  )) : P_Desk_gather G h x1 x2 x3 K := by
  refine Sp_of_V pf_X11_gather (Nat.le_of_ble_eq_true rfl) rfl ?_
  refine V_sipush (v := 1440) dX11_gather_0 rfl ?_
  refine V_iload_n (q := 2) dX11_gather_3 rfl rfl ?_
  refine V_imul dX11_gather_4 ?_
  refine V_iload_n (q := 3) dX11_gather_5 rfl rfl ?_
  refine V_iadd dX11_gather_6 ?_
  refine V_istore (L' := [(0, .ref (G.1 0)), (1, .int x1), (2, .int x2), (3, .int x3), (4, .int ((1440 * x2) + x3))]) dX11_gather_7 (by decide) rfl rfl ?_
  refine V_aload_n (q := 0) dX11_gather_9 rfl rfl ?_
  refine V_getr f_X11_51 dX11_gather_10 rfl rfl ?_
  refine V_iload_n (q := 2) dX11_gather_13 rfl rfl ?_
  refine V_iload (q := 4) dX11_gather_14 rfl ?_
  refine V_callV [.int x2, .int ((1440 * x2) + x3)] [] g_X11_gather_X4_gather wi_X4_gather ws_X4_gather dX11_gather_16 rfl rfl rfl rfl rfl (Nat.le_of_ble_eq_true rfl) t (fun _ h1 t => ?_)
  obtain ⟨rfl, t⟩ := t
  refine V_aload_n (q := 0) dX11_gather_19 rfl rfl ?_
  refine V_getr f_X11_82 dX11_gather_20 rfl rfl ?_
  refine V_iload (q := 4) dX11_gather_23 rfl ?_
  refine V_callS [.ref (G.1 1), .int ((1440 * x2) + x3)] [] g_X11_gather_J7_fill_53178 wt_J7_fill_53178 dX11_gather_25 rfl rfl (Nat.le_of_ble_eq_true rfl) t (fun _ h2 t => ?_)
  obtain ⟨rfl, t⟩ := t
  refine V_iconst (v := 0) dX11_gather_28 rfl ?_
  refine V_istore (L' := [(0, .ref (G.1 0)), (1, .int x1), (2, .int x2), (3, .int x3), (4, .int ((1440 * x2) + x3)), (5, .int 0)]) dX11_gather_29 (by decide) rfl rfl ?_
  refine V_pick (L' := [(0, .ref (G.1 0)), (1, .int x1), (4, .int ((1440 * x2) + x3)), (5, .int 0)]) [0, 1, 4, 5] rfl ?_
  exact t
set_option maxRecDepth 20000 in
set_option maxHeartbeats 4000000 in
theorem s_Desk_gather_31 (G : GA) (h : HP) (x1 : Int32) (x4 : Int32) (x5 : Int32) (K : HP → Prop) (t :
  if (h 2 3) ≤ x5 then (
    K h
  ) else (
    if ((x1 >>> (x5 &&& 31)) &&& 1) = 0 then (
      H_Desk_gather_31 G h x1 x4 (x5 + 1) K
    ) else (
      P_Search_askSoonest G h x5 x4 (fun h1 : HP =>
        H_Desk_gather_66 G h1 x1 x4 x5 0 K
      )
    )
  )) : H_Desk_gather_31 G h x1 x4 x5 K := by
  unfold H_Desk_gather_31
  refine V_iload (q := 3) dX11_gather_31 rfl ?_
  refine V_aload_n (q := 0) dX11_gather_33 rfl rfl ?_
  refine V_getr f_X11_12 dX11_gather_34 rfl rfl ?_
  refine V_geti f_X11_211 dX11_gather_37 rfl rfl ?_
  refine V_icmp_ge (tgt := 117) dX11_gather_40 (by decide) (fun q => ?_) (fun q => ?_)
  · have t := it_t q t
    exact V_vret rfl dX11_gather_117 t
  · have t := it_f q t
    refine V_iload_n (q := 1) dX11_gather_43 rfl rfl ?_
    refine V_iload (q := 3) dX11_gather_44 rfl ?_
    refine V_ishr dX11_gather_46 ?_
    refine V_iconst (v := 1) dX11_gather_47 rfl ?_
    refine V_iand dX11_gather_48 ?_
    refine V_if_eq (tgt := 111) dX11_gather_49 (by decide) (fun q => ?_) (fun q => ?_)
    · have t := it_t q t
      refine V_iinc (L' := [(0, .ref (G.1 0)), (1, .int x1), (4, .int x4), (5, .int (x5 + 1))]) (q := 3) (a := 1) dX11_gather_111 rfl rfl (by decide) rfl rfl ?_
      refine V_goto (tgt := 31) dX11_gather_114 (by decide) ?_
      exact t
    · have t := it_f q t
      refine V_aload_n (q := 0) dX11_gather_52 rfl rfl ?_
      refine V_getr f_X11_60 dX11_gather_53 rfl rfl ?_
      refine V_iload (q := 3) dX11_gather_56 rfl ?_
      refine V_iload (q := 2) dX11_gather_58 rfl ?_
      refine V_callV [.int x5, .int x4] [] g_X11_gather_X5_askSoonest wi_X5_askSoonest ws_X5_askSoonest dX11_gather_60 rfl rfl rfl rfl rfl (Nat.le_of_ble_eq_true rfl) t (fun _ h1 t => ?_)
      obtain ⟨rfl, t⟩ := t
      refine V_iconst (v := 0) dX11_gather_63 rfl ?_
      refine V_istore (L' := [(0, .ref (G.1 0)), (1, .int x1), (4, .int x4), (5, .int x5), (6, .int 0)]) dX11_gather_64 (by decide) rfl rfl ?_
      exact t
set_option maxRecDepth 20000 in
set_option maxHeartbeats 4000000 in
theorem s_Desk_gather_66 (G : GA) (h : HP) (x1 : Int32) (x4 : Int32) (x5 : Int32) (x6 : Int32) (K : HP → Prop) (t :
  if (h 2 3) ≤ x6 then (
    H_Desk_gather_31 G h x1 x4 (x5 + 1) K
  ) else (
    vp_in x6 12 ∧
    ∀ h2 : HP, h2 = up h 1 (tn x6) (if (h 1 (tn x6)) < (h 51 (tn x6)) then (h 51 (tn x6)) else (h 1 (tn x6))) →
    H_Desk_gather_66 G h2 x1 x4 x5 (x6 + 1) K
  )) : H_Desk_gather_66 G h x1 x4 x5 x6 K := by
  unfold H_Desk_gather_66
  refine V_iload (q := 4) dX11_gather_66 rfl ?_
  refine V_aload_n (q := 0) dX11_gather_68 rfl rfl ?_
  refine V_getr f_X11_12 dX11_gather_69 rfl rfl ?_
  refine V_geti f_X11_211 dX11_gather_72 rfl rfl ?_
  refine V_icmp_ge (tgt := 111) dX11_gather_75 (by decide) (fun q => ?_) (fun q => ?_)
  · have t := it_t q t
    refine V_iinc (L' := [(0, .ref (G.1 0)), (1, .int x1), (4, .int x4), (5, .int (x5 + 1)), (6, .int x6)]) (q := 3) (a := 1) dX11_gather_111 rfl rfl (by decide) rfl rfl ?_
    refine V_goto (tgt := 31) dX11_gather_114 (by decide) ?_
    refine V_pick (L' := [(0, .ref (G.1 0)), (1, .int x1), (4, .int x4), (5, .int (x5 + 1))]) [0, 1, 2, 3] rfl ?_
    exact t
  · have t := it_f q t
    refine V_aload_n (q := 0) dX11_gather_78 rfl rfl ?_
    refine V_getr f_X11_82 dX11_gather_79 rfl rfl ?_
    refine V_iload (q := 4) dX11_gather_82 rfl ?_
    refine V_aload_n (q := 0) dX11_gather_84 rfl rfl ?_
    refine V_getr f_X11_82 dX11_gather_85 rfl rfl ?_
    refine V_iload (q := 4) dX11_gather_88 rfl ?_
    obtain ⟨n1, t⟩ := t
    refine V_iald dX11_gather_90 rfl n1 ?_
    refine V_aload_n (q := 0) dX11_gather_91 rfl rfl ?_
    refine V_getr f_X11_60 dX11_gather_92 rfl rfl ?_
    refine V_getr f_X11_207 dX11_gather_95 rfl rfl ?_
    refine V_iload (q := 4) dX11_gather_98 rfl ?_
    refine V_iald dX11_gather_100 rfl n1 ?_
    refine V_mmax l_X11_196 w_static_max w_init_math w_code_max (Nat.le_of_ble_eq_true rfl) (Nat.le_of_ble_eq_true rfl) dX11_gather_101 ?_
    have t := t _ rfl
    refine V_iast dX11_gather_104 rfl n1 ?_
    refine V_iinc (L' := [(0, .ref (G.1 0)), (1, .int x1), (4, .int x4), (5, .int x5), (6, .int (x6 + 1))]) (q := 4) (a := 1) dX11_gather_105 rfl rfl (by decide) rfl rfl ?_
    refine V_goto (tgt := 66) dX11_gather_108 (by decide) ?_
    exact t
set_option maxRecDepth 20000 in
set_option maxHeartbeats 4000000 in
theorem s_Desk_meet_0 (G : GA) (h : HP) (x1 : Int32) (x2 : Int32) (x3 : Int32) (K : Int32 → HP → Prop) (t :
  if x1 = 0 then (
    K (-2) h
  ) else (
    if ((Int32.toUInt32 x1 >>> (Int32.toUInt32 (h 2 3) &&& Int32.toUInt32 31)).toInt32) = 0 then (
      P_Desk_isDay G h x2 (fun (b2 : Bool) (h1 : HP) =>
        if b2 = true then (
          P_Desk_isMinute G h1 x3 (fun (b4 : Bool) (h3 : HP) =>
            if b4 = true then (
              P_Desk_gather G h3 x1 x2 x3 (fun h5 : HP =>
                H_Desk_meet_46 G h5 (-1) 0 K
              )
            ) else (
              K (-2) h3
            )
          )
        ) else (
          K (-2) h1
        )
      )
    ) else (
      K (-2) h
    )
  )) : P_Desk_meet G h x1 x2 x3 K := by
  refine Sp_of_V pf_X11_meet (Nat.le_of_ble_eq_true rfl) rfl ?_
  refine V_iload_n (q := 1) dX11_meet_0 rfl rfl ?_
  refine V_if_eq (tgt := 30) dX11_meet_1 (by decide) (fun q => ?_) (fun q => ?_)
  · have t := it_t q t
    refine V_bipush (v := (-2)) dX11_meet_30 rfl ?_
    exact V_iret rfl dX11_meet_32 t
  · have t := it_f q t
    refine V_iload_n (q := 1) dX11_meet_4 rfl rfl ?_
    refine V_aload_n (q := 0) dX11_meet_5 rfl rfl ?_
    refine V_getr f_X11_12 dX11_meet_6 rfl rfl ?_
    refine V_geti f_X11_211 dX11_meet_9 rfl rfl ?_
    refine V_iushr dX11_meet_12 ?_
    refine V_if_ne (tgt := 30) dX11_meet_13 (by decide) (fun q => ?_) (fun q => ?_)
    · have t := it_f q t
      refine V_bipush (v := (-2)) dX11_meet_30 rfl ?_
      exact V_iret rfl dX11_meet_32 t
    · have t := it_t q t
      refine V_iload_n (q := 2) dX11_meet_16 rfl rfl ?_
      refine V_callS [.int x2] [] g_X11_meet_X11_isDay wt_X11_isDay dX11_meet_17 rfl rfl (Nat.le_of_ble_eq_true rfl) t (fun _ h1 t => ?_)
      obtain ⟨b2, rfl, t⟩ := t
      refine V_ifb_eq (tgt := 30) dX11_meet_20 (by decide) (fun q => ?_) (fun q => ?_)
      · have t := it_f q t
        refine V_bipush (v := (-2)) dX11_meet_30 rfl ?_
        exact V_iret rfl dX11_meet_32 t
      · have t := it_t q t
        refine V_iload_n (q := 3) dX11_meet_23 rfl rfl ?_
        refine V_callS [.int x3] [] g_X11_meet_X11_isMinute wt_X11_isMinute dX11_meet_24 rfl rfl (Nat.le_of_ble_eq_true rfl) t (fun _ h3 t => ?_)
        obtain ⟨b4, rfl, t⟩ := t
        refine V_ifb_ne (tgt := 33) dX11_meet_27 (by decide) (fun q => ?_) (fun q => ?_)
        · have t := it_t q t
          refine V_aload_n (q := 0) dX11_meet_33 rfl rfl ?_
          refine V_iload_n (q := 1) dX11_meet_34 rfl rfl ?_
          refine V_iload_n (q := 2) dX11_meet_35 rfl rfl ?_
          refine V_iload_n (q := 3) dX11_meet_36 rfl rfl ?_
          refine V_callV [.int x1, .int x2, .int x3] [] g_X11_meet_X11_gather wi_X11_gather ws_X11_gather dX11_meet_37 rfl rfl rfl rfl rfl (Nat.le_of_ble_eq_true rfl) t (fun _ h5 t => ?_)
          obtain ⟨rfl, t⟩ := t
          refine V_iconst (v := (-1)) dX11_meet_40 rfl ?_
          refine V_istore (L' := [(0, .ref (G.1 0)), (1, .int x1), (2, .int x2), (3, .int x3), (4, .int (-1))]) dX11_meet_41 (by decide) rfl rfl ?_
          refine V_iconst (v := 0) dX11_meet_43 rfl ?_
          refine V_istore (L' := [(0, .ref (G.1 0)), (1, .int x1), (2, .int x2), (3, .int x3), (4, .int (-1)), (5, .int 0)]) dX11_meet_44 (by decide) rfl rfl ?_
          refine V_pick (L' := [(0, .ref (G.1 0)), (4, .int (-1)), (5, .int 0)]) [0, 4, 5] rfl ?_
          exact t
        · have t := it_f q t
          refine V_bipush (v := (-2)) dX11_meet_30 rfl ?_
          exact V_iret rfl dX11_meet_32 t
set_option maxRecDepth 20000 in
set_option maxHeartbeats 4000000 in
theorem s_Desk_meet_46 (G : GA) (h : HP) (x4 : Int32) (x5 : Int32) (K : Int32 → HP → Prop) (t :
  if (h 2 3) ≤ x5 then (
    if x4 < 0 then (
      K x4 h
    ) else (
      vp_in x4 12 ∧
      ∀ h2 : HP, h2 = up h 0 10 (h 1 (tn x4)) →
      K x4 h2
    )
  ) else (
    vp_in x5 12 ∧
    if 0 ≤ x4 then (
      vp_in x4 12 ∧
      if (h 1 (tn x4)) ≤ (h 1 (tn x5)) then (
        H_Desk_meet_46 G h x4 (x5 + 1) K
      ) else (
        H_Desk_meet_46 G h x5 (x5 + 1) K
      )
    ) else (
      if 1000000000 ≤ (h 1 (tn x5)) then (
        H_Desk_meet_46 G h x4 (x5 + 1) K
      ) else (
        H_Desk_meet_46 G h x5 (x5 + 1) K
      )
    )
  )) : H_Desk_meet_46 G h x4 x5 K := by
  unfold H_Desk_meet_46
  refine V_iload (q := 2) dX11_meet_46 rfl ?_
  refine V_aload_n (q := 0) dX11_meet_48 rfl rfl ?_
  refine V_getr f_X11_12 dX11_meet_49 rfl rfl ?_
  refine V_geti f_X11_211 dX11_meet_52 rfl rfl ?_
  refine V_icmp_ge (tgt := 95) dX11_meet_55 (by decide) (fun q => ?_) (fun q => ?_)
  · have t := it_t q t
    refine V_iload (q := 1) dX11_meet_95 rfl ?_
    refine V_if_lt (tgt := 111) dX11_meet_97 (by decide) (fun q => ?_) (fun q => ?_)
    · have t := it_t q t
      refine V_iload (q := 1) dX11_meet_111 rfl ?_
      exact V_iret rfl dX11_meet_113 t
    · have t := it_f q t
      refine V_aload_n (q := 0) dX11_meet_100 rfl rfl ?_
      refine V_aload_n (q := 0) dX11_meet_101 rfl rfl ?_
      refine V_getr f_X11_82 dX11_meet_102 rfl rfl ?_
      refine V_iload (q := 1) dX11_meet_105 rfl ?_
      obtain ⟨n1, t⟩ := t
      refine V_iald dX11_meet_107 rfl n1 ?_
      have t := t _ rfl
      refine V_put f_X11_86 p_X11_10 dX11_meet_108 rfl rfl ?_
      refine V_iload (q := 1) dX11_meet_111 rfl ?_
      exact V_iret rfl dX11_meet_113 t
  · have t := it_f q t
    refine V_aload_n (q := 0) dX11_meet_58 rfl rfl ?_
    refine V_getr f_X11_82 dX11_meet_59 rfl rfl ?_
    refine V_iload (q := 2) dX11_meet_62 rfl ?_
    obtain ⟨n3, t⟩ := t
    refine V_iald dX11_meet_64 rfl n3 ?_
    refine V_iload (q := 1) dX11_meet_65 rfl ?_
    refine V_if_ge (tgt := 75) dX11_meet_67 (by decide) (fun q => ?_) (fun q => ?_)
    · have t := it_t q t
      refine V_aload_n (q := 0) dX11_meet_75 rfl rfl ?_
      refine V_getr f_X11_82 dX11_meet_76 rfl rfl ?_
      refine V_iload (q := 1) dX11_meet_79 rfl ?_
      obtain ⟨n4, t⟩ := t
      refine V_iald dX11_meet_81 rfl n4 ?_
      refine V_icmp_ge (tgt := 89) dX11_meet_82 (by decide) (fun q => ?_) (fun q => ?_)
      · have t := it_t q t
        refine V_iinc (L' := [(0, .ref (G.1 0)), (4, .int x4), (5, .int (x5 + 1))]) (q := 2) (a := 1) dX11_meet_89 rfl rfl (by decide) rfl rfl ?_
        refine V_goto (tgt := 46) dX11_meet_92 (by decide) ?_
        exact t
      · have t := it_f q t
        refine V_iload (q := 2) dX11_meet_85 rfl ?_
        refine V_istore (L' := [(0, .ref (G.1 0)), (4, .int x5), (5, .int x5)]) dX11_meet_87 (by decide) rfl rfl ?_
        refine V_iinc (L' := [(0, .ref (G.1 0)), (4, .int x5), (5, .int (x5 + 1))]) (q := 2) (a := 1) dX11_meet_89 rfl rfl (by decide) rfl rfl ?_
        refine V_goto (tgt := 46) dX11_meet_92 (by decide) ?_
        exact t
    · have t := it_f q t
      refine V_ldc (v := 1000000000) dX11_meet_70 k_X11_210 ?_
      refine V_goto (tgt := 82) dX11_meet_72 (by decide) ?_
      refine V_icmp_ge (tgt := 89) dX11_meet_82 (by decide) (fun q => ?_) (fun q => ?_)
      · have t := it_t q t
        refine V_iinc (L' := [(0, .ref (G.1 0)), (4, .int x4), (5, .int (x5 + 1))]) (q := 2) (a := 1) dX11_meet_89 rfl rfl (by decide) rfl rfl ?_
        refine V_goto (tgt := 46) dX11_meet_92 (by decide) ?_
        exact t
      · have t := it_f q t
        refine V_iload (q := 2) dX11_meet_85 rfl ?_
        refine V_istore (L' := [(0, .ref (G.1 0)), (4, .int x5), (5, .int x5)]) dX11_meet_87 (by decide) rfl rfl ?_
        refine V_iinc (L' := [(0, .ref (G.1 0)), (4, .int x5), (5, .int (x5 + 1))]) (q := 2) (a := 1) dX11_meet_89 rfl rfl (by decide) rfl rfl ?_
        refine V_goto (tgt := 46) dX11_meet_92 (by decide) ?_
        exact t
set_option maxRecDepth 20000 in
set_option maxHeartbeats 4000000 in
theorem s_Desk_met_0 (G : GA) (h : HP)  (K : Int32 → HP → Prop) (t :
  K (h 0 10) h) : P_Desk_met G h  K := by
  refine Sp_of_V pf_X11_met (Nat.le_of_ble_eq_true rfl) rfl ?_
  refine V_aload_n (q := 0) dX11_met_0 rfl rfl ?_
  refine V_geti f_X11_86 dX11_met_1 rfl rfl ?_
  exact V_iret rfl dX11_met_4 t
set_option maxRecDepth 20000 in
set_option maxHeartbeats 4000000 in
theorem s_Sorted_insert_65_0 (G : GA) (h : HP) (x1 : Int32) (K : HP → Prop) (t :
  if (h 65 1) < 192 then (
    H_Sorted_insert_65_18 G h x1 (h 65 1) K
  ) else (
    K h
  )) : P_Sorted_insert_65 G h x1 K := by
  refine Sp_of_V pf_X6_insert (Nat.le_of_ble_eq_true rfl) rfl ?_
  refine V_aload_n (q := 0) dX6_insert_0 rfl rfl ?_
  refine V_geti f_X6_19 dX6_insert_1 rfl rfl ?_
  refine V_aload_n (q := 0) dX6_insert_4 rfl rfl ?_
  refine V_getr f_X6_13 dX6_insert_5 rfl rfl ?_
  refine V_alen (v := 192) dX6_insert_8 rfl rfl ?_
  refine V_icmp_lt (tgt := 13) dX6_insert_9 (by decide) (fun q => ?_) (fun q => ?_)
  · have t := it_t q t
    refine V_aload_n (q := 0) dX6_insert_13 rfl rfl ?_
    refine V_geti f_X6_19 dX6_insert_14 rfl rfl ?_
    refine V_istore_n (L' := [(0, .ref (G.1 65)), (1, .int x1), (2, .int (h 65 1))]) dX6_insert_17 rfl (by decide) rfl rfl ?_
    exact t
  · have t := it_f q t
    exact V_vret rfl dX6_insert_12 t
set_option maxRecDepth 20000 in
set_option maxHeartbeats 4000000 in
theorem s_Sorted_insert_65_18 (G : GA) (h : HP) (x1 : Int32) (x2 : Int32) (K : HP → Prop) (t :
  if x2 ≤ 0 then (
    vp_in x2 192 ∧
    ∀ h1 : HP, h1 = up h 66 (tn x2) x1 →
    ∀ h3 : HP, h3 = up h1 65 1 ((h 65 1) + 1) →
    K h3
  ) else (
    vp_in (x2 - 1) 192 ∧
    if (h 66 (tn (x2 - 1))) ≤ x1 then (
      vp_in x2 192 ∧
      ∀ h5 : HP, h5 = up h 66 (tn x2) x1 →
      ∀ h7 : HP, h7 = up h5 65 1 ((h 65 1) + 1) →
      K h7
    ) else (
      vp_in x2 192 ∧
      ∀ h8 : HP, h8 = up h 66 (tn x2) (h 66 (tn (x2 - 1))) →
      H_Sorted_insert_65_18 G h8 x1 (x2 + (-1)) K
    )
  )) : H_Sorted_insert_65_18 G h x1 x2 K := by
  unfold H_Sorted_insert_65_18
  refine V_iload_n (q := 2) dX6_insert_18 rfl rfl ?_
  refine V_if_le (tgt := 54) dX6_insert_19 (by decide) (fun q => ?_) (fun q => ?_)
  · have t := it_t q t
    refine V_aload_n (q := 0) dX6_insert_54 rfl rfl ?_
    refine V_getr f_X6_13 dX6_insert_55 rfl rfl ?_
    refine V_iload_n (q := 2) dX6_insert_58 rfl rfl ?_
    refine V_iload_n (q := 1) dX6_insert_59 rfl rfl ?_
    obtain ⟨n2, t⟩ := t
    have t := t _ rfl
    refine V_iast dX6_insert_60 rfl n2 ?_
    refine V_aload_n (q := 0) dX6_insert_61 rfl rfl ?_
    refine V_dup dX6_insert_62 rfl ?_
    refine V_geti f_X6_19 dX6_insert_63 rfl rfl ?_
    refine V_iconst (v := 1) dX6_insert_66 rfl ?_
    refine V_iadd dX6_insert_67 ?_
    have t := t _ rfl
    refine V_put f_X6_19 p_X6_1 dX6_insert_68 rfl rfl ?_
    exact V_vret rfl dX6_insert_71 t
  · have t := it_f q t
    refine V_aload_n (q := 0) dX6_insert_22 rfl rfl ?_
    refine V_getr f_X6_13 dX6_insert_23 rfl rfl ?_
    refine V_iload_n (q := 2) dX6_insert_26 rfl rfl ?_
    refine V_iconst (v := 1) dX6_insert_27 rfl ?_
    refine V_isub dX6_insert_28 ?_
    obtain ⟨n4, t⟩ := t
    refine V_iald dX6_insert_29 rfl n4 ?_
    refine V_iload_n (q := 1) dX6_insert_30 rfl rfl ?_
    refine V_icmp_le (tgt := 54) dX6_insert_31 (by decide) (fun q => ?_) (fun q => ?_)
    · have t := it_t q t
      refine V_aload_n (q := 0) dX6_insert_54 rfl rfl ?_
      refine V_getr f_X6_13 dX6_insert_55 rfl rfl ?_
      refine V_iload_n (q := 2) dX6_insert_58 rfl rfl ?_
      refine V_iload_n (q := 1) dX6_insert_59 rfl rfl ?_
      obtain ⟨n6, t⟩ := t
      have t := t _ rfl
      refine V_iast dX6_insert_60 rfl n6 ?_
      refine V_aload_n (q := 0) dX6_insert_61 rfl rfl ?_
      refine V_dup dX6_insert_62 rfl ?_
      refine V_geti f_X6_19 dX6_insert_63 rfl rfl ?_
      refine V_iconst (v := 1) dX6_insert_66 rfl ?_
      refine V_iadd dX6_insert_67 ?_
      have t := t _ rfl
      refine V_put f_X6_19 p_X6_1 dX6_insert_68 rfl rfl ?_
      exact V_vret rfl dX6_insert_71 t
    · have t := it_f q t
      refine V_aload_n (q := 0) dX6_insert_34 rfl rfl ?_
      refine V_getr f_X6_13 dX6_insert_35 rfl rfl ?_
      refine V_iload_n (q := 2) dX6_insert_38 rfl rfl ?_
      refine V_aload_n (q := 0) dX6_insert_39 rfl rfl ?_
      refine V_getr f_X6_13 dX6_insert_40 rfl rfl ?_
      refine V_iload_n (q := 2) dX6_insert_43 rfl rfl ?_
      refine V_iconst (v := 1) dX6_insert_44 rfl ?_
      refine V_isub dX6_insert_45 ?_
      refine V_iald dX6_insert_46 rfl n4 ?_
      obtain ⟨n9, t⟩ := t
      have t := t _ rfl
      refine V_iast dX6_insert_47 rfl n9 ?_
      refine V_iinc (L' := [(0, .ref (G.1 65)), (1, .int x1), (2, .int (x2 + (-1)))]) (q := 2) (a := (-1)) dX6_insert_48 rfl rfl (by decide) rfl rfl ?_
      refine V_goto (tgt := 18) dX6_insert_51 (by decide) ?_
      exact t
set_option maxRecDepth 20000 in
set_option maxHeartbeats 4000000 in
theorem s_Board_gatherTrip_0 (G : GA) (h : HP) (x1 : Int32) (x2 : Int32) (x3 : Int32) (K : HP → Prop) (t :
  H_Board_gatherTrip_3 G h x1 x2 x3 0 K) : P_Board_gatherTrip G h x1 x2 x3 K := by
  refine Sp_of_V pf_X0_gatherTrip (Nat.le_of_ble_eq_true rfl) rfl ?_
  refine V_iconst (v := 0) dX0_gatherTrip_0 rfl ?_
  refine V_istore (L' := [(0, .ref (G.1 64)), (1, .int x1), (2, .int x2), (3, .int x3), (4, .int 0)]) dX0_gatherTrip_1 (by decide) rfl rfl ?_
  exact t
set_option maxRecDepth 20000 in
set_option maxHeartbeats 4000000 in
theorem s_Board_gatherTrip_3 (G : GA) (h : HP) (x1 : Int32) (x2 : Int32) (x3 : Int32) (x4 : Int32) (K : HP → Prop) (t :
  vp_in x1 24 ∧
  if (h 15 (tn x1)) ≤ x4 then (
    K h
  ) else (
    vp_in ((x1 * 8) + x4) 192 ∧
    if (h 17 (tn ((x1 * 8) + x4))) = x2 then (
      P_Trips_isOpen G h x1 x4 (fun (b4 : Bool) (h3 : HP) =>
        if b4 = true then (
          P_Trips_leavesAt G h3 x1 x3 x4 (fun (r6 : Int32) (h5 : HP) =>
            P_Sorted_insert_65 G h5 (((((r6 - (1440 * x3)) * 24) + x1) * 8) + x4) (fun h7 : HP =>
              H_Board_gatherTrip_3 G h7 x1 x2 x3 (x4 + 1) K
            )
          )
        ) else (
          H_Board_gatherTrip_3 G h3 x1 x2 x3 (x4 + 1) K
        )
      )
    ) else (
      H_Board_gatherTrip_3 G h x1 x2 x3 (x4 + 1) K
    )
  )) : H_Board_gatherTrip_3 G h x1 x2 x3 x4 K := by
  unfold H_Board_gatherTrip_3
  refine V_iload (q := 4) dX0_gatherTrip_3 rfl ?_
  refine V_aload_n (q := 0) dX0_gatherTrip_5 rfl rfl ?_
  refine V_getr f_X0_20 dX0_gatherTrip_6 rfl rfl ?_
  refine V_getr f_X0_53 dX0_gatherTrip_9 rfl rfl ?_
  refine V_iload_n (q := 1) dX0_gatherTrip_12 rfl rfl ?_
  obtain ⟨n1, t⟩ := t
  refine V_iald dX0_gatherTrip_13 rfl n1 ?_
  refine V_icmp_ge (tgt := 94) dX0_gatherTrip_14 (by decide) (fun q => ?_) (fun q => ?_)
  · have t := it_t q t
    exact V_vret rfl dX0_gatherTrip_94 t
  · have t := it_f q t
    refine V_aload_n (q := 0) dX0_gatherTrip_17 rfl rfl ?_
    refine V_getr f_X0_20 dX0_gatherTrip_18 rfl rfl ?_
    refine V_getr f_X0_57 dX0_gatherTrip_21 rfl rfl ?_
    refine V_iload_n (q := 1) dX0_gatherTrip_24 rfl rfl ?_
    refine V_bipush (v := 8) dX0_gatherTrip_25 rfl ?_
    refine V_imul dX0_gatherTrip_27 ?_
    refine V_iload (q := 4) dX0_gatherTrip_28 rfl ?_
    refine V_iadd dX0_gatherTrip_30 ?_
    obtain ⟨n2, t⟩ := t
    refine V_iald dX0_gatherTrip_31 rfl n2 ?_
    refine V_iload_n (q := 2) dX0_gatherTrip_32 rfl rfl ?_
    refine V_icmp_ne (tgt := 88) dX0_gatherTrip_33 (by decide) (fun q => ?_) (fun q => ?_)
    · have t := it_f q t
      refine V_iinc (L' := [(0, .ref (G.1 64)), (1, .int x1), (2, .int x2), (3, .int x3), (4, .int (x4 + 1))]) (q := 4) (a := 1) dX0_gatherTrip_88 rfl rfl (by decide) rfl rfl ?_
      refine V_goto (tgt := 3) dX0_gatherTrip_91 (by decide) ?_
      exact t
    · have t := it_t q t
      refine V_aload_n (q := 0) dX0_gatherTrip_36 rfl rfl ?_
      refine V_getr f_X0_20 dX0_gatherTrip_37 rfl rfl ?_
      refine V_iload_n (q := 1) dX0_gatherTrip_40 rfl rfl ?_
      refine V_iload (q := 4) dX0_gatherTrip_41 rfl ?_
      refine V_callV [.int x1, .int x4] [] g_X0_gatherTrip_X9_isOpen wi_X9_isOpen ws_X9_isOpen dX0_gatherTrip_43 rfl rfl rfl rfl rfl (Nat.le_of_ble_eq_true rfl) t (fun _ h3 t => ?_)
      obtain ⟨b4, rfl, t⟩ := t
      refine V_ifb_eq (tgt := 88) dX0_gatherTrip_46 (by decide) (fun q => ?_) (fun q => ?_)
      · have t := it_f q t
        refine V_iinc (L' := [(0, .ref (G.1 64)), (1, .int x1), (2, .int x2), (3, .int x3), (4, .int (x4 + 1))]) (q := 4) (a := 1) dX0_gatherTrip_88 rfl rfl (by decide) rfl rfl ?_
        refine V_goto (tgt := 3) dX0_gatherTrip_91 (by decide) ?_
        exact t
      · have t := it_t q t
        refine V_aload_n (q := 0) dX0_gatherTrip_49 rfl rfl ?_
        refine V_getr f_X0_20 dX0_gatherTrip_50 rfl rfl ?_
        refine V_iload_n (q := 1) dX0_gatherTrip_53 rfl rfl ?_
        refine V_iload_n (q := 3) dX0_gatherTrip_54 rfl rfl ?_
        refine V_iload (q := 4) dX0_gatherTrip_55 rfl ?_
        refine V_callV [.int x1, .int x3, .int x4] [] g_X0_gatherTrip_X9_leavesAt wi_X9_leavesAt ws_X9_leavesAt dX0_gatherTrip_57 rfl rfl rfl rfl rfl (Nat.le_of_ble_eq_true rfl) t (fun _ h5 t => ?_)
        obtain ⟨r6, rfl, t⟩ := t
        refine V_sipush (v := 1440) dX0_gatherTrip_60 rfl ?_
        refine V_iload_n (q := 3) dX0_gatherTrip_63 rfl rfl ?_
        refine V_imul dX0_gatherTrip_64 ?_
        refine V_isub dX0_gatherTrip_65 ?_
        refine V_istore (L' := [(0, .ref (G.1 64)), (1, .int x1), (2, .int x2), (3, .int x3), (4, .int x4), (5, .int (r6 - (1440 * x3)))]) dX0_gatherTrip_66 (by decide) rfl rfl ?_
        refine V_aload_n (q := 0) dX0_gatherTrip_68 rfl rfl ?_
        refine V_getr f_X0_14 dX0_gatherTrip_69 rfl rfl ?_
        refine V_iload (q := 5) dX0_gatherTrip_72 rfl ?_
        refine V_bipush (v := 24) dX0_gatherTrip_74 rfl ?_
        refine V_imul dX0_gatherTrip_76 ?_
        refine V_iload_n (q := 1) dX0_gatherTrip_77 rfl rfl ?_
        refine V_iadd dX0_gatherTrip_78 ?_
        refine V_bipush (v := 8) dX0_gatherTrip_79 rfl ?_
        refine V_imul dX0_gatherTrip_81 ?_
        refine V_iload (q := 4) dX0_gatherTrip_82 rfl ?_
        refine V_iadd dX0_gatherTrip_84 ?_
        refine V_callV [.int (((((r6 - (1440 * x3)) * 24) + x1) * 8) + x4)] [] g_X0_gatherTrip_X6_insert wi_X6_insert ws_X6_insert dX0_gatherTrip_85 rfl rfl rfl rfl rfl (Nat.le_of_ble_eq_true rfl) t (fun _ h7 t => ?_)
        obtain ⟨rfl, t⟩ := t
        refine V_iinc (L' := [(0, .ref (G.1 64)), (1, .int x1), (2, .int x2), (3, .int x3), (4, .int (x4 + 1)), (5, .int (r6 - (1440 * x3)))]) (q := 4) (a := 1) dX0_gatherTrip_88 rfl rfl (by decide) rfl rfl ?_
        refine V_goto (tgt := 3) dX0_gatherTrip_91 (by decide) ?_
        refine V_pick (L' := [(0, .ref (G.1 64)), (1, .int x1), (2, .int x2), (3, .int x3), (4, .int (x4 + 1))]) [0, 1, 2, 3, 4] rfl ?_
        exact t
set_option maxRecDepth 20000 in
set_option maxHeartbeats 4000000 in
theorem s_Sorted_clear_65_0 (G : GA) (h : HP)  (K : HP → Prop) (t :
  ∀ h1 : HP, h1 = up h 65 1 0 →
  K h1) : P_Sorted_clear_65 G h  K := by
  refine Sp_of_V pf_X6_clear (Nat.le_of_ble_eq_true rfl) rfl ?_
  refine V_aload_n (q := 0) dX6_clear_0 rfl rfl ?_
  refine V_iconst (v := 0) dX6_clear_1 rfl ?_
  have t := t _ rfl
  refine V_put f_X6_19 p_X6_1 dX6_clear_2 rfl rfl ?_
  exact V_vret rfl dX6_clear_5 t
set_option maxRecDepth 20000 in
set_option maxHeartbeats 4000000 in
theorem s_Board_gather_0 (G : GA) (h : HP) (x1 : Int32) (x2 : Int32) (K : Int32 → HP → Prop) (t :
  P_Sorted_clear_65 G h (fun h1 : HP =>
    H_Board_gather_9 G h1 x1 x2 0 K
  )) : P_Board_gather G h x1 x2 K := by
  refine Sp_of_V pf_X0_gather (Nat.le_of_ble_eq_true rfl) rfl ?_
  refine V_aload_n (q := 0) dX0_gather_0 rfl rfl ?_
  refine V_getr f_X0_14 dX0_gather_1 rfl rfl ?_
  refine V_callV [] [] g_X0_gather_X6_clear wi_X6_clear ws_X6_clear dX0_gather_4 rfl rfl rfl rfl rfl (Nat.le_of_ble_eq_true rfl) t (fun _ h1 t => ?_)
  obtain ⟨rfl, t⟩ := t
  refine V_iconst (v := 0) dX0_gather_7 rfl ?_
  refine V_istore_n (L' := [(0, .ref (G.1 64)), (1, .int x1), (2, .int x2), (3, .int 0)]) dX0_gather_8 rfl (by decide) rfl rfl ?_
  exact t
set_option maxRecDepth 20000 in
set_option maxHeartbeats 4000000 in
theorem s_Board_gather_9 (G : GA) (h : HP) (x1 : Int32) (x2 : Int32) (x3 : Int32) (K : Int32 → HP → Prop) (t :
  if (h 11 11) ≤ x3 then (
    K (h 65 1) h
  ) else (
    P_Trips_runsOn G h x3 x2 (fun (b2 : Bool) (h1 : HP) =>
      if b2 = true then (
        P_Board_gatherTrip G h1 x3 x1 x2 (fun h3 : HP =>
          H_Board_gather_9 G h3 x1 x2 (x3 + 1) K
        )
      ) else (
        H_Board_gather_9 G h1 x1 x2 (x3 + 1) K
      )
    )
  )) : H_Board_gather_9 G h x1 x2 x3 K := by
  unfold H_Board_gather_9
  refine V_iload_n (q := 3) dX0_gather_9 rfl rfl ?_
  refine V_aload_n (q := 0) dX0_gather_10 rfl rfl ?_
  refine V_getr f_X0_20 dX0_gather_11 rfl rfl ?_
  refine V_geti f_X0_27 dX0_gather_14 rfl rfl ?_
  refine V_icmp_ge (tgt := 45) dX0_gather_17 (by decide) (fun q => ?_) (fun q => ?_)
  · have t := it_t q t
    refine V_aload_n (q := 0) dX0_gather_45 rfl rfl ?_
    refine V_getr f_X0_14 dX0_gather_46 rfl rfl ?_
    refine V_geti f_X0_41 dX0_gather_49 rfl rfl ?_
    exact V_iret rfl dX0_gather_52 t
  · have t := it_f q t
    refine V_aload_n (q := 0) dX0_gather_20 rfl rfl ?_
    refine V_getr f_X0_20 dX0_gather_21 rfl rfl ?_
    refine V_iload_n (q := 3) dX0_gather_24 rfl rfl ?_
    refine V_iload_n (q := 2) dX0_gather_25 rfl rfl ?_
    refine V_callV [.int x3, .int x2] [] g_X0_gather_X9_runsOn wi_X9_runsOn ws_X9_runsOn dX0_gather_26 rfl rfl rfl rfl rfl (Nat.le_of_ble_eq_true rfl) t (fun _ h1 t => ?_)
    obtain ⟨b2, rfl, t⟩ := t
    refine V_ifb_eq (tgt := 39) dX0_gather_29 (by decide) (fun q => ?_) (fun q => ?_)
    · have t := it_f q t
      refine V_iinc (L' := [(0, .ref (G.1 64)), (1, .int x1), (2, .int x2), (3, .int (x3 + 1))]) (q := 3) (a := 1) dX0_gather_39 rfl rfl (by decide) rfl rfl ?_
      refine V_goto (tgt := 9) dX0_gather_42 (by decide) ?_
      exact t
    · have t := it_t q t
      refine V_aload_n (q := 0) dX0_gather_32 rfl rfl ?_
      refine V_iload_n (q := 3) dX0_gather_33 rfl rfl ?_
      refine V_iload_n (q := 1) dX0_gather_34 rfl rfl ?_
      refine V_iload_n (q := 2) dX0_gather_35 rfl rfl ?_
      refine V_callV [.int x3, .int x1, .int x2] [] g_X0_gather_X0_gatherTrip wi_X0_gatherTrip ws_X0_gatherTrip dX0_gather_36 rfl rfl rfl rfl rfl (Nat.le_of_ble_eq_true rfl) t (fun _ h3 t => ?_)
      obtain ⟨rfl, t⟩ := t
      refine V_iinc (L' := [(0, .ref (G.1 64)), (1, .int x1), (2, .int x2), (3, .int (x3 + 1))]) (q := 3) (a := 1) dX0_gather_39 rfl rfl (by decide) rfl rfl ?_
      refine V_goto (tgt := 9) dX0_gather_42 (by decide) ?_
      exact t
set_option maxRecDepth 20000 in
set_option maxHeartbeats 4000000 in
theorem s_Sorted_get_65_0 (G : GA) (h : HP) (x1 : Int32) (K : Int32 → HP → Prop) (t :
  if x1 < 0 then (
    K 0 h
  ) else (
    if (h 65 1) ≤ x1 then (
      K 0 h
    ) else (
      vp_in x1 192 ∧
      K (h 66 (tn x1)) h
    )
  )) : P_Sorted_get_65 G h x1 K := by
  refine Sp_of_V pf_X6_get (Nat.le_of_ble_eq_true rfl) rfl ?_
  refine V_iload_n (q := 1) dX6_get_0 rfl rfl ?_
  refine V_if_lt (tgt := 21) dX6_get_1 (by decide) (fun q => ?_) (fun q => ?_)
  · have t := it_t q t
    refine V_iconst (v := 0) dX6_get_21 rfl ?_
    exact V_iret rfl dX6_get_22 t
  · have t := it_f q t
    refine V_iload_n (q := 1) dX6_get_4 rfl rfl ?_
    refine V_aload_n (q := 0) dX6_get_5 rfl rfl ?_
    refine V_geti f_X6_19 dX6_get_6 rfl rfl ?_
    refine V_icmp_ge (tgt := 21) dX6_get_9 (by decide) (fun q => ?_) (fun q => ?_)
    · have t := it_t q t
      refine V_iconst (v := 0) dX6_get_21 rfl ?_
      exact V_iret rfl dX6_get_22 t
    · have t := it_f q t
      refine V_aload_n (q := 0) dX6_get_12 rfl rfl ?_
      refine V_getr f_X6_13 dX6_get_13 rfl rfl ?_
      refine V_iload_n (q := 1) dX6_get_16 rfl rfl ?_
      obtain ⟨n1, t⟩ := t
      refine V_iald dX6_get_17 rfl n1 ?_
      refine V_goto (tgt := 22) dX6_get_18 (by decide) ?_
      exact V_iret rfl dX6_get_22 t
set_option maxRecDepth 20000 in
set_option maxHeartbeats 4000000 in
theorem s_Board_of_0 (G : GA) (h : HP) (x1 : Int32) (x2 : Int32) (x3 : Int32) (K : Int32 → HP → Prop) (t :
  P_Sorted_get_65 G h x1 (fun (r2 : Int32) (h1 : HP) =>
    P_Sorted_get_65 G h1 x1 (fun (r4 : Int32) (h3 : HP) =>
      if x3 = 0 then (
        K ((r2 / 8) - (r2 / 8) / 24 * 24) h3
      ) else (
      if x3 = 1 then (
        K (r4 - r4 / 8 * 8) h3
      ) else (
      if x3 = 2 then (
        P_Trips_comesAt G h3 ((r2 / 8) - (r2 / 8) / 24 * 24) x2 (r4 - r4 / 8 * 8) (fun (r6 : Int32) (h5 : HP) =>
          K (r6 - (1440 * x2)) h5
        )
      ) else (
        P_Trips_leavesAt G h3 ((r2 / 8) - (r2 / 8) / 24 * 24) x2 (r4 - r4 / 8 * 8) (fun (r8 : Int32) (h7 : HP) =>
          K (r8 - (1440 * x2)) h7
        )
      )))
    )
  )) : P_Board_of G h x1 x2 x3 K := by
  refine Sp_of_V pf_X0_of (Nat.le_of_ble_eq_true rfl) rfl ?_
  refine V_aload_n (q := 0) dX0_of_0 rfl rfl ?_
  refine V_getr f_X0_14 dX0_of_1 rfl rfl ?_
  refine V_iload_n (q := 1) dX0_of_4 rfl rfl ?_
  refine V_callV [.int x1] [] g_X0_of_X6_get wi_X6_get ws_X6_get dX0_of_5 rfl rfl rfl rfl rfl (Nat.le_of_ble_eq_true rfl) t (fun _ h1 t => ?_)
  obtain ⟨r2, rfl, t⟩ := t
  refine V_bipush (v := 8) dX0_of_8 rfl ?_
  refine V_idiv dX0_of_10 (by decide) ?_
  refine V_bipush (v := 24) dX0_of_11 rfl ?_
  refine V_irem dX0_of_13 (by decide) ?_
  refine V_istore (L' := [(0, .ref (G.1 64)), (1, .int x1), (2, .int x2), (3, .int x3), (4, .int ((r2 / 8) - (r2 / 8) / 24 * 24))]) dX0_of_14 (by decide) rfl rfl ?_
  refine V_aload_n (q := 0) dX0_of_16 rfl rfl ?_
  refine V_getr f_X0_14 dX0_of_17 rfl rfl ?_
  refine V_iload_n (q := 1) dX0_of_20 rfl rfl ?_
  refine V_callV [.int x1] [] g_X0_of_X6_get wi_X6_get ws_X6_get dX0_of_21 rfl rfl rfl rfl rfl (Nat.le_of_ble_eq_true rfl) t (fun _ h3 t => ?_)
  obtain ⟨r4, rfl, t⟩ := t
  refine V_bipush (v := 8) dX0_of_24 rfl ?_
  refine V_irem dX0_of_26 (by decide) ?_
  refine V_istore (L' := [(0, .ref (G.1 64)), (1, .int x1), (2, .int x2), (3, .int x3), (4, .int ((r2 / 8) - (r2 / 8) / 24 * 24)), (5, .int (r4 - r4 / 8 * 8))]) dX0_of_27 (by decide) rfl rfl ?_
  refine V_iload_n (q := 3) dX0_of_29 rfl rfl ?_
  by_cases q0 : x3 = 0
  · have t := it_t q0 t
    refine V_tabIn (tgt := 56) dX0_of_30 (by rw [q0]; decide) (by rw [q0]; decide) (by rw [q0]; rfl) (by decide) ?_
    refine V_iload (q := 4) dX0_of_56 rfl ?_
    exact V_iret rfl dX0_of_58 t
  have t := it_f q0 t
  by_cases q1 : x3 = 1
  · have t := it_t q1 t
    refine V_tabIn (tgt := 59) dX0_of_30 (by rw [q1]; decide) (by rw [q1]; decide) (by rw [q1]; rfl) (by decide) ?_
    refine V_iload (q := 5) dX0_of_59 rfl ?_
    exact V_iret rfl dX0_of_61 t
  have t := it_f q1 t
  by_cases q2 : x3 = 2
  · have t := it_t q2 t
    refine V_tabIn (tgt := 62) dX0_of_30 (by rw [q2]; decide) (by rw [q2]; decide) (by rw [q2]; rfl) (by decide) ?_
    refine V_aload_n (q := 0) dX0_of_62 rfl rfl ?_
    refine V_getr f_X0_20 dX0_of_63 rfl rfl ?_
    refine V_iload (q := 4) dX0_of_66 rfl ?_
    refine V_iload_n (q := 2) dX0_of_68 rfl rfl ?_
    refine V_iload (q := 5) dX0_of_69 rfl ?_
    refine V_callV [.int ((r2 / 8) - (r2 / 8) / 24 * 24), .int x2, .int (r4 - r4 / 8 * 8)] [] g_X0_of_X9_comesAt wi_X9_comesAt ws_X9_comesAt dX0_of_71 rfl rfl rfl rfl rfl (Nat.le_of_ble_eq_true rfl) t (fun _ h5 t => ?_)
    obtain ⟨r6, rfl, t⟩ := t
    refine V_sipush (v := 1440) dX0_of_74 rfl ?_
    refine V_iload_n (q := 2) dX0_of_77 rfl rfl ?_
    refine V_imul dX0_of_78 ?_
    refine V_isub dX0_of_79 ?_
    exact V_iret rfl dX0_of_80 t
  have t := it_f q2 t
  have a0 := tab_ne (x := x3) (k := 0) (by decide) q0
  have a1 := tab_ne (x := x3) (k := 1) (by decide) q1
  have a2 := tab_ne (x := x3) (k := 2) (by decide) q2
  refine V_tabOut (tgt := 81) dX0_of_30 (by omega) (by decide) ?_
  refine V_aload_n (q := 0) dX0_of_81 rfl rfl ?_
  refine V_getr f_X0_20 dX0_of_82 rfl rfl ?_
  refine V_iload (q := 4) dX0_of_85 rfl ?_
  refine V_iload_n (q := 2) dX0_of_87 rfl rfl ?_
  refine V_iload (q := 5) dX0_of_88 rfl ?_
  refine V_callV [.int ((r2 / 8) - (r2 / 8) / 24 * 24), .int x2, .int (r4 - r4 / 8 * 8)] [] g_X0_of_X9_leavesAt wi_X9_leavesAt ws_X9_leavesAt dX0_of_90 rfl rfl rfl rfl rfl (Nat.le_of_ble_eq_true rfl) t (fun _ h7 t => ?_)
  obtain ⟨r8, rfl, t⟩ := t
  refine V_sipush (v := 1440) dX0_of_93 rfl ?_
  refine V_iload_n (q := 2) dX0_of_96 rfl rfl ?_
  refine V_imul dX0_of_97 ?_
  refine V_isub dX0_of_98 ?_
  exact V_iret rfl dX0_of_99 t
set_option maxRecDepth 20000 in
set_option maxHeartbeats 4000000 in
theorem s_Desk_table_0 (G : GA) (h : HP) (x1 : Int32) (x2 : Int32) (x3 : Int32) (x4 : Int32) (K : Int32 → HP → Prop) (t :
  P_Stops_has G h x1 (fun (b2 : Bool) (h1 : HP) =>
    if b2 = true then (
      P_Desk_isDay G h1 x2 (fun (b4 : Bool) (h3 : HP) =>
        if b4 = true then (
          P_Desk_between G h3 x4 0 3 (fun (b6 : Bool) (h5 : HP) =>
            if b6 = true then (
              P_Board_gather G h5 x1 x2 (fun (r8 : Int32) (h7 : HP) =>
                P_Desk_between G h7 x3 0 (r8 - 1) (fun (b10 : Bool) (h9 : HP) =>
                  if b10 = true then (
                    P_Board_of G h9 x3 x2 x4 (fun (r12 : Int32) (h11 : HP) =>
                      K r12 h11
                    )
                  ) else (
                    K (-1) h9
                  )
                )
              )
            ) else (
              K (-2) h5
            )
          )
        ) else (
          K (-2) h3
        )
      )
    ) else (
      K (-2) h1
    )
  )) : P_Desk_table G h x1 x2 x3 x4 K := by
  refine Sp_of_V pf_X11_table (Nat.le_of_ble_eq_true rfl) rfl ?_
  refine V_aload_n (q := 0) dX11_table_0 rfl rfl ?_
  refine V_getr f_X11_12 dX11_table_1 rfl rfl ?_
  refine V_iload_n (q := 1) dX11_table_4 rfl rfl ?_
  refine V_callV [.int x1] [] g_X11_table_X7_has wi_X7_has ws_X7_has dX11_table_5 rfl rfl rfl rfl rfl (Nat.le_of_ble_eq_true rfl) t (fun _ h1 t => ?_)
  obtain ⟨b2, rfl, t⟩ := t
  refine V_ifb_eq (tgt := 28) dX11_table_8 (by decide) (fun q => ?_) (fun q => ?_)
  · have t := it_f q t
    refine V_bipush (v := (-2)) dX11_table_28 rfl ?_
    exact V_iret rfl dX11_table_30 t
  · have t := it_t q t
    refine V_iload_n (q := 2) dX11_table_11 rfl rfl ?_
    refine V_callS [.int x2] [] g_X11_table_X11_isDay wt_X11_isDay dX11_table_12 rfl rfl (Nat.le_of_ble_eq_true rfl) t (fun _ h3 t => ?_)
    obtain ⟨b4, rfl, t⟩ := t
    refine V_ifb_eq (tgt := 28) dX11_table_15 (by decide) (fun q => ?_) (fun q => ?_)
    · have t := it_f q t
      refine V_bipush (v := (-2)) dX11_table_28 rfl ?_
      exact V_iret rfl dX11_table_30 t
    · have t := it_t q t
      refine V_iload (q := 4) dX11_table_18 rfl ?_
      refine V_iconst (v := 0) dX11_table_20 rfl ?_
      refine V_iconst (v := 3) dX11_table_21 rfl ?_
      refine V_callS [.int x4, .int 0, .int 3] [] g_X11_table_X11_between wt_X11_between dX11_table_22 rfl rfl (Nat.le_of_ble_eq_true rfl) t (fun _ h5 t => ?_)
      obtain ⟨b6, rfl, t⟩ := t
      refine V_ifb_ne (tgt := 31) dX11_table_25 (by decide) (fun q => ?_) (fun q => ?_)
      · have t := it_t q t
        refine V_aload_n (q := 0) dX11_table_31 rfl rfl ?_
        refine V_getr f_X11_78 dX11_table_32 rfl rfl ?_
        refine V_iload_n (q := 1) dX11_table_35 rfl rfl ?_
        refine V_iload_n (q := 2) dX11_table_36 rfl rfl ?_
        refine V_callV [.int x1, .int x2] [] g_X11_table_X0_gather wi_X0_gather ws_X0_gather dX11_table_37 rfl rfl rfl rfl rfl (Nat.le_of_ble_eq_true rfl) t (fun _ h7 t => ?_)
        obtain ⟨r8, rfl, t⟩ := t
        refine V_istore (L' := [(0, .ref (G.1 0)), (1, .int x1), (2, .int x2), (3, .int x3), (4, .int x4), (5, .int r8)]) dX11_table_40 (by decide) rfl rfl ?_
        refine V_iload_n (q := 3) dX11_table_42 rfl rfl ?_
        refine V_iconst (v := 0) dX11_table_43 rfl ?_
        refine V_iload (q := 5) dX11_table_44 rfl ?_
        refine V_iconst (v := 1) dX11_table_46 rfl ?_
        refine V_isub dX11_table_47 ?_
        refine V_callS [.int x3, .int 0, .int (r8 - 1)] [] g_X11_table_X11_between wt_X11_between dX11_table_48 rfl rfl (Nat.le_of_ble_eq_true rfl) t (fun _ h9 t => ?_)
        obtain ⟨b10, rfl, t⟩ := t
        refine V_ifb_eq (tgt := 68) dX11_table_51 (by decide) (fun q => ?_) (fun q => ?_)
        · have t := it_f q t
          refine V_iconst (v := (-1)) dX11_table_68 rfl ?_
          exact V_iret rfl dX11_table_69 t
        · have t := it_t q t
          refine V_aload_n (q := 0) dX11_table_54 rfl rfl ?_
          refine V_getr f_X11_78 dX11_table_55 rfl rfl ?_
          refine V_iload_n (q := 3) dX11_table_58 rfl rfl ?_
          refine V_iload_n (q := 2) dX11_table_59 rfl rfl ?_
          refine V_iload (q := 4) dX11_table_60 rfl ?_
          refine V_callV [.int x3, .int x2, .int x4] [] g_X11_table_X0_of wi_X0_of ws_X0_of dX11_table_62 rfl rfl rfl rfl rfl (Nat.le_of_ble_eq_true rfl) t (fun _ h11 t => ?_)
          obtain ⟨r12, rfl, t⟩ := t
          refine V_goto (tgt := 69) dX11_table_65 (by decide) ?_
          exact V_iret rfl dX11_table_69 t
      · have t := it_f q t
        refine V_bipush (v := (-2)) dX11_table_28 rfl ?_
        exact V_iret rfl dX11_table_30 t
set_option maxRecDepth 20000 in
set_option maxHeartbeats 4000000 in
theorem s_Desk_count_0 (G : GA) (h : HP) (x1 : Int32) (K : Int32 → HP → Prop) (t :
  if x1 = 0 then (
    K (h 2 3) h
  ) else (
  if x1 = 1 then (
    K (h 11 11) h
  ) else (
  if x1 = 2 then (
    K (h 22 8) h
  ) else (
  if x1 = 3 then (
    K (h 54 9) h
  ) else (
  if x1 = 4 then (
    K (h 34 11) h
  ) else (
  if x1 = 5 then (
    K (h 34 12) h
  ) else (
  if x1 = 6 then (
    K (h 6 4) h
  ) else (
    K (-2) h
  )))))))) : P_Desk_count G h x1 K := by
  refine Sp_of_V pf_X11_count (Nat.le_of_ble_eq_true rfl) rfl ?_
  refine V_iload_n (q := 1) dX11_count_0 rfl rfl ?_
  by_cases q0 : x1 = 0
  · have t := it_t q0 t
    refine V_tabIn (tgt := 44) dX11_count_1 (by rw [q0]; decide) (by rw [q0]; decide) (by rw [q0]; rfl) (by decide) ?_
    refine V_aload_n (q := 0) dX11_count_44 rfl rfl ?_
    refine V_getr f_X11_12 dX11_count_45 rfl rfl ?_
    refine V_geti f_X11_211 dX11_count_48 rfl rfl ?_
    exact V_iret rfl dX11_count_51 t
  have t := it_f q0 t
  by_cases q1 : x1 = 1
  · have t := it_t q1 t
    refine V_tabIn (tgt := 52) dX11_count_1 (by rw [q1]; decide) (by rw [q1]; decide) (by rw [q1]; rfl) (by decide) ?_
    refine V_aload_n (q := 0) dX11_count_52 rfl rfl ?_
    refine V_getr f_X11_19 dX11_count_53 rfl rfl ?_
    refine V_geti f_X11_221 dX11_count_56 rfl rfl ?_
    exact V_iret rfl dX11_count_59 t
  have t := it_f q1 t
  by_cases q2 : x1 = 2
  · have t := it_t q2 t
    refine V_tabIn (tgt := 60) dX11_count_1 (by rw [q2]; decide) (by rw [q2]; decide) (by rw [q2]; rfl) (by decide) ?_
    refine V_aload_n (q := 0) dX11_count_60 rfl rfl ?_
    refine V_getr f_X11_26 dX11_count_61 rfl rfl ?_
    refine V_geti f_X11_222 dX11_count_64 rfl rfl ?_
    exact V_iret rfl dX11_count_67 t
  have t := it_f q2 t
  by_cases q3 : x1 = 3
  · have t := it_t q3 t
    refine V_tabIn (tgt := 68) dX11_count_1 (by rw [q3]; decide) (by rw [q3]; decide) (by rw [q3]; rfl) (by decide) ?_
    refine V_aload_n (q := 0) dX11_count_68 rfl rfl ?_
    refine V_getr f_X11_69 dX11_count_69 rfl rfl ?_
    refine V_geti f_X11_223 dX11_count_72 rfl rfl ?_
    exact V_iret rfl dX11_count_75 t
  have t := it_f q3 t
  by_cases q4 : x1 = 4
  · have t := it_t q4 t
    refine V_tabIn (tgt := 76) dX11_count_1 (by rw [q4]; decide) (by rw [q4]; decide) (by rw [q4]; rfl) (by decide) ?_
    refine V_aload_n (q := 0) dX11_count_76 rfl rfl ?_
    refine V_getr f_X11_42 dX11_count_77 rfl rfl ?_
    refine V_geti f_X11_224 dX11_count_80 rfl rfl ?_
    exact V_iret rfl dX11_count_83 t
  have t := it_f q4 t
  by_cases q5 : x1 = 5
  · have t := it_t q5 t
    refine V_tabIn (tgt := 84) dX11_count_1 (by rw [q5]; decide) (by rw [q5]; decide) (by rw [q5]; rfl) (by decide) ?_
    refine V_aload_n (q := 0) dX11_count_84 rfl rfl ?_
    refine V_getr f_X11_42 dX11_count_85 rfl rfl ?_
    refine V_geti f_X11_225 dX11_count_88 rfl rfl ?_
    exact V_iret rfl dX11_count_91 t
  have t := it_f q5 t
  by_cases q6 : x1 = 6
  · have t := it_t q6 t
    refine V_tabIn (tgt := 92) dX11_count_1 (by rw [q6]; decide) (by rw [q6]; decide) (by rw [q6]; rfl) (by decide) ?_
    refine V_aload_n (q := 0) dX11_count_92 rfl rfl ?_
    refine V_getr f_X11_19 dX11_count_93 rfl rfl ?_
    refine V_getr f_X11_144 dX11_count_96 rfl rfl ?_
    refine V_geti f_X11_228 dX11_count_99 rfl rfl ?_
    exact V_iret rfl dX11_count_102 t
  have t := it_f q6 t
  have a0 := tab_ne (x := x1) (k := 0) (by decide) q0
  have a1 := tab_ne (x := x1) (k := 1) (by decide) q1
  have a2 := tab_ne (x := x1) (k := 2) (by decide) q2
  have a3 := tab_ne (x := x1) (k := 3) (by decide) q3
  have a4 := tab_ne (x := x1) (k := 4) (by decide) q4
  have a5 := tab_ne (x := x1) (k := 5) (by decide) q5
  have a6 := tab_ne (x := x1) (k := 6) (by decide) q6
  refine V_tabOut (tgt := 103) dX11_count_1 (by omega) (by decide) ?_
  refine V_bipush (v := (-2)) dX11_count_103 rfl ?_
  exact V_iret rfl dX11_count_105 t
