/-! ===== constructors ===== -/
set_option maxRecDepth 100000 in
set_option maxHeartbeats 4000000 in
theorem ct_X7_init (D : va_G) (a : ClassId × ClassId) (h0 : Nat) : Ctor D a mX7_init (rzX7) [.ref h0] [(h0, .inr (7, [.null, .null, .null, .int 0]))] (fun w => ∃ q1 q2 q3 : Nat, w = [(h0, .inr (7, [.ref q1, .ref q2, .ref q3, .int 0])), (q1, .inl (a.1, 12, .inl (fun _ => 0))), (q2, .inl (a.1, 12, .inl (fun _ => 0))), (q3, .inl (a.1, 16, .inl (fun _ => 0)))]) := by
  refine Ctor_of_Z (L := [(0, .ref h0)]) (by decide) rfl rfl (Nat.le_of_ble_eq_true rfl) rfl (fun A => ?_)
  refine Z_al (q := 0) dX7_init_0 rfl rfl ?_
  refine Z_obj om_X7 (Nat.le_of_ble_eq_true rfl) (Nat.le_of_ble_eq_true rfl) dX7_init_1 w_objm w_objc ?_
  refine Z_al (q := 0) dX7_init_4 rfl rfl ?_
  refine Z_bi (v := (nI 12)) dX7_init_5 rfl ?_
  refine Z_nai (n := 12) wa_i (Nat.le_of_ble_eq_true rfl) (Nat.le_of_ble_eq_true rfl) (Nat.le_of_ble_eq_true rfl) dX7_init_7 (fun q1 => ?_)
  refine Z_putF (k0 := 0) f_X7_9 qk_X7_0 rfl rfl dX7_init_9 rfl (Nat.le_of_ble_eq_true rfl) ?_
  show Zj (D, a, A, rzX7) mX7_init 12 [(0, .ref h0)] [] [(h0, .inr (7, [.ref q1, .null, .null, .int 0])), (q1, .inl (a.1, 12, .inl (fun _ => 0)))] 1 12 _
  refine Z_al (q := 0) dX7_init_12 rfl rfl ?_
  refine Z_bi (v := (nI 12)) dX7_init_13 rfl ?_
  refine Z_nai (n := 12) wa_i (Nat.le_of_ble_eq_true rfl) (Nat.le_of_ble_eq_true rfl) (Nat.le_of_ble_eq_true rfl) dX7_init_15 (fun q2 => ?_)
  refine Z_putF (k0 := 0) f_X7_15 qk_X7_1 rfl rfl dX7_init_17 rfl (Nat.le_of_ble_eq_true rfl) ?_
  show Zj (D, a, A, rzX7) mX7_init 20 [(0, .ref h0)] [] [(h0, .inr (7, [.ref q1, .ref q2, .null, .int 0])), (q1, .inl (a.1, 12, .inl (fun _ => 0))), (q2, .inl (a.1, 12, .inl (fun _ => 0)))] 2 24 _
  refine Z_al (q := 0) dX7_init_20 rfl rfl ?_
  refine Z_bi (v := (nI 16)) dX7_init_21 rfl ?_
  refine Z_nai (n := 16) wa_i (Nat.le_of_ble_eq_true rfl) (Nat.le_of_ble_eq_true rfl) (Nat.le_of_ble_eq_true rfl) dX7_init_23 (fun q3 => ?_)
  refine Z_putF (k0 := 0) f_X7_18 qk_X7_2 rfl rfl dX7_init_25 rfl (Nat.le_of_ble_eq_true rfl) ?_
  show Zj (D, a, A, rzX7) mX7_init 28 [(0, .ref h0)] [] [(h0, .inr (7, [.ref q1, .ref q2, .ref q3, .int 0])), (q1, .inl (a.1, 12, .inl (fun _ => 0))), (q2, .inl (a.1, 12, .inl (fun _ => 0))), (q3, .inl (a.1, 16, .inl (fun _ => 0)))] 3 40 _
  exact Z_ret dX7_init_28 [0, 1, 2, 3] (w' := [(h0, .inr (7, [.ref q1, .ref q2, .ref q3, .int 0])), (q1, .inl (a.1, 12, .inl (fun _ => 0))), (q2, .inl (a.1, 12, .inl (fun _ => 0))), (q3, .inl (a.1, 16, .inl (fun _ => 0)))]) rfl rfl (Nat.le_of_ble_eq_true rfl) (Nat.le_of_ble_eq_true rfl) ⟨q1, q2, q3, rfl⟩
set_option maxRecDepth 100000 in
set_option maxHeartbeats 4000000 in
theorem ct_X1_init (D : va_G) (a : ClassId × ClassId) (h0 : Nat) : Ctor D a mX1_init (rzX1) [.ref h0] [(h0, .inr (1, [.null, .null, .null, .null, .int 0, .int 0]))] (fun w => ∃ q1 q2 q3 q4 : Nat, w = [(h0, .inr (1, [.ref q1, .ref q2, .ref q3, .ref q4, .int 0, .int 0])), (q1, .inl (a.1, 60, .inl (fun _ => 0))), (q2, .inl (a.1, 60, .inl (fun _ => 0))), (q3, .inl (a.1, 60, .inl (fun _ => 0))), (q4, .inl (a.1, 60, .inl (fun _ => 0)))]) := by
  refine Ctor_of_Z (L := [(0, .ref h0)]) (by decide) rfl rfl (Nat.le_of_ble_eq_true rfl) rfl (fun A => ?_)
  refine Z_al (q := 0) dX1_init_0 rfl rfl ?_
  refine Z_obj om_X1 (Nat.le_of_ble_eq_true rfl) (Nat.le_of_ble_eq_true rfl) dX1_init_1 w_objm w_objc ?_
  refine Z_al (q := 0) dX1_init_4 rfl rfl ?_
  refine Z_bi (v := (nI 60)) dX1_init_5 rfl ?_
  refine Z_nai (n := 60) wa_i (Nat.le_of_ble_eq_true rfl) (Nat.le_of_ble_eq_true rfl) (Nat.le_of_ble_eq_true rfl) dX1_init_7 (fun q1 => ?_)
  refine Z_putF (k0 := 0) f_X1_9 qk_X1_0 rfl rfl dX1_init_9 rfl (Nat.le_of_ble_eq_true rfl) ?_
  show Zj (D, a, A, rzX1) mX1_init 12 [(0, .ref h0)] [] [(h0, .inr (1, [.ref q1, .null, .null, .null, .int 0, .int 0])), (q1, .inl (a.1, 60, .inl (fun _ => 0)))] 1 60 _
  refine Z_al (q := 0) dX1_init_12 rfl rfl ?_
  refine Z_bi (v := (nI 60)) dX1_init_13 rfl ?_
  refine Z_nai (n := 60) wa_i (Nat.le_of_ble_eq_true rfl) (Nat.le_of_ble_eq_true rfl) (Nat.le_of_ble_eq_true rfl) dX1_init_15 (fun q2 => ?_)
  refine Z_putF (k0 := 0) f_X1_15 qk_X1_1 rfl rfl dX1_init_17 rfl (Nat.le_of_ble_eq_true rfl) ?_
  show Zj (D, a, A, rzX1) mX1_init 20 [(0, .ref h0)] [] [(h0, .inr (1, [.ref q1, .ref q2, .null, .null, .int 0, .int 0])), (q1, .inl (a.1, 60, .inl (fun _ => 0))), (q2, .inl (a.1, 60, .inl (fun _ => 0)))] 2 120 _
  refine Z_al (q := 0) dX1_init_20 rfl rfl ?_
  refine Z_bi (v := (nI 60)) dX1_init_21 rfl ?_
  refine Z_nai (n := 60) wa_i (Nat.le_of_ble_eq_true rfl) (Nat.le_of_ble_eq_true rfl) (Nat.le_of_ble_eq_true rfl) dX1_init_23 (fun q3 => ?_)
  refine Z_putF (k0 := 0) f_X1_18 qk_X1_2 rfl rfl dX1_init_25 rfl (Nat.le_of_ble_eq_true rfl) ?_
  show Zj (D, a, A, rzX1) mX1_init 28 [(0, .ref h0)] [] [(h0, .inr (1, [.ref q1, .ref q2, .ref q3, .null, .int 0, .int 0])), (q1, .inl (a.1, 60, .inl (fun _ => 0))), (q2, .inl (a.1, 60, .inl (fun _ => 0))), (q3, .inl (a.1, 60, .inl (fun _ => 0)))] 3 180 _
  refine Z_al (q := 0) dX1_init_28 rfl rfl ?_
  refine Z_bi (v := (nI 60)) dX1_init_29 rfl ?_
  refine Z_nai (n := 60) wa_i (Nat.le_of_ble_eq_true rfl) (Nat.le_of_ble_eq_true rfl) (Nat.le_of_ble_eq_true rfl) dX1_init_31 (fun q4 => ?_)
  refine Z_putF (k0 := 0) f_X1_21 qk_X1_3 rfl rfl dX1_init_33 rfl (Nat.le_of_ble_eq_true rfl) ?_
  show Zj (D, a, A, rzX1) mX1_init 36 [(0, .ref h0)] [] [(h0, .inr (1, [.ref q1, .ref q2, .ref q3, .ref q4, .int 0, .int 0])), (q1, .inl (a.1, 60, .inl (fun _ => 0))), (q2, .inl (a.1, 60, .inl (fun _ => 0))), (q3, .inl (a.1, 60, .inl (fun _ => 0))), (q4, .inl (a.1, 60, .inl (fun _ => 0)))] 4 240 _
  exact Z_ret dX1_init_36 [0, 1, 2, 3, 4] (w' := [(h0, .inr (1, [.ref q1, .ref q2, .ref q3, .ref q4, .int 0, .int 0])), (q1, .inl (a.1, 60, .inl (fun _ => 0))), (q2, .inl (a.1, 60, .inl (fun _ => 0))), (q3, .inl (a.1, 60, .inl (fun _ => 0))), (q4, .inl (a.1, 60, .inl (fun _ => 0)))]) rfl rfl (Nat.le_of_ble_eq_true rfl) (Nat.le_of_ble_eq_true rfl) ⟨q1, q2, q3, q4, rfl⟩
set_option maxRecDepth 100000 in
set_option maxHeartbeats 4000000 in
theorem ct_X10_init (D : va_G) (a : ClassId × ClassId) (h0 : Nat) : Ctor D a mX10_init (rzX10) [.ref h0] [(h0, .inr (10, [.null, .null, .null, .null, .null, .null, .null, .null, .int 0]))] (fun w => ∃ q1 q2 q3 q4 q5 q6 q7 q8 : Nat, w = [(h0, .inr (10, [.ref q1, .ref q2, .ref q3, .ref q4, .ref q5, .ref q6, .ref q7, .ref q8, .int 0])), (q1, .inl (a.1, 20, .inl (fun _ => 0))), (q2, .inl (a.1, 20, .inl (fun _ => 0))), (q3, .inl (a.1, 20, .inl (fun _ => 0))), (q4, .inl (a.1, 20, .inl (fun _ => 0))), (q5, .inl (a.1, 20, .inl (fun _ => 0))), (q6, .inl (a.1, 20, .inl (fun _ => 0))), (q7, .inl (a.1, 20, .inl (fun _ => 0))), (q8, .inl (a.1, 20, .inl (fun _ => 0)))]) := by
  refine Ctor_of_Z (L := [(0, .ref h0)]) (by decide) rfl rfl (Nat.le_of_ble_eq_true rfl) rfl (fun A => ?_)
  refine Z_al (q := 0) dX10_init_0 rfl rfl ?_
  refine Z_obj om_X10 (Nat.le_of_ble_eq_true rfl) (Nat.le_of_ble_eq_true rfl) dX10_init_1 w_objm w_objc ?_
  refine Z_al (q := 0) dX10_init_4 rfl rfl ?_
  refine Z_bi (v := (nI 20)) dX10_init_5 rfl ?_
  refine Z_nai (n := 20) wa_i (Nat.le_of_ble_eq_true rfl) (Nat.le_of_ble_eq_true rfl) (Nat.le_of_ble_eq_true rfl) dX10_init_7 (fun q1 => ?_)
  refine Z_putF (k0 := 0) f_X10_9 qk_X10_0 rfl rfl dX10_init_9 rfl (Nat.le_of_ble_eq_true rfl) ?_
  show Zj (D, a, A, rzX10) mX10_init 12 [(0, .ref h0)] [] [(h0, .inr (10, [.ref q1, .null, .null, .null, .null, .null, .null, .null, .int 0])), (q1, .inl (a.1, 20, .inl (fun _ => 0)))] 1 20 _
  refine Z_al (q := 0) dX10_init_12 rfl rfl ?_
  refine Z_bi (v := (nI 20)) dX10_init_13 rfl ?_
  refine Z_nai (n := 20) wa_i (Nat.le_of_ble_eq_true rfl) (Nat.le_of_ble_eq_true rfl) (Nat.le_of_ble_eq_true rfl) dX10_init_15 (fun q2 => ?_)
  refine Z_putF (k0 := 0) f_X10_15 qk_X10_1 rfl rfl dX10_init_17 rfl (Nat.le_of_ble_eq_true rfl) ?_
  show Zj (D, a, A, rzX10) mX10_init 20 [(0, .ref h0)] [] [(h0, .inr (10, [.ref q1, .ref q2, .null, .null, .null, .null, .null, .null, .int 0])), (q1, .inl (a.1, 20, .inl (fun _ => 0))), (q2, .inl (a.1, 20, .inl (fun _ => 0)))] 2 40 _
  refine Z_al (q := 0) dX10_init_20 rfl rfl ?_
  refine Z_bi (v := (nI 20)) dX10_init_21 rfl ?_
  refine Z_nai (n := 20) wa_i (Nat.le_of_ble_eq_true rfl) (Nat.le_of_ble_eq_true rfl) (Nat.le_of_ble_eq_true rfl) dX10_init_23 (fun q3 => ?_)
  refine Z_putF (k0 := 0) f_X10_18 qk_X10_2 rfl rfl dX10_init_25 rfl (Nat.le_of_ble_eq_true rfl) ?_
  show Zj (D, a, A, rzX10) mX10_init 28 [(0, .ref h0)] [] [(h0, .inr (10, [.ref q1, .ref q2, .ref q3, .null, .null, .null, .null, .null, .int 0])), (q1, .inl (a.1, 20, .inl (fun _ => 0))), (q2, .inl (a.1, 20, .inl (fun _ => 0))), (q3, .inl (a.1, 20, .inl (fun _ => 0)))] 3 60 _
  refine Z_al (q := 0) dX10_init_28 rfl rfl ?_
  refine Z_bi (v := (nI 20)) dX10_init_29 rfl ?_
  refine Z_nai (n := 20) wa_i (Nat.le_of_ble_eq_true rfl) (Nat.le_of_ble_eq_true rfl) (Nat.le_of_ble_eq_true rfl) dX10_init_31 (fun q4 => ?_)
  refine Z_putF (k0 := 0) f_X10_21 qk_X10_3 rfl rfl dX10_init_33 rfl (Nat.le_of_ble_eq_true rfl) ?_
  show Zj (D, a, A, rzX10) mX10_init 36 [(0, .ref h0)] [] [(h0, .inr (10, [.ref q1, .ref q2, .ref q3, .ref q4, .null, .null, .null, .null, .int 0])), (q1, .inl (a.1, 20, .inl (fun _ => 0))), (q2, .inl (a.1, 20, .inl (fun _ => 0))), (q3, .inl (a.1, 20, .inl (fun _ => 0))), (q4, .inl (a.1, 20, .inl (fun _ => 0)))] 4 80 _
  refine Z_al (q := 0) dX10_init_36 rfl rfl ?_
  refine Z_bi (v := (nI 20)) dX10_init_37 rfl ?_
  refine Z_nai (n := 20) wa_i (Nat.le_of_ble_eq_true rfl) (Nat.le_of_ble_eq_true rfl) (Nat.le_of_ble_eq_true rfl) dX10_init_39 (fun q5 => ?_)
  refine Z_putF (k0 := 0) f_X10_24 qk_X10_4 rfl rfl dX10_init_41 rfl (Nat.le_of_ble_eq_true rfl) ?_
  show Zj (D, a, A, rzX10) mX10_init 44 [(0, .ref h0)] [] [(h0, .inr (10, [.ref q1, .ref q2, .ref q3, .ref q4, .ref q5, .null, .null, .null, .int 0])), (q1, .inl (a.1, 20, .inl (fun _ => 0))), (q2, .inl (a.1, 20, .inl (fun _ => 0))), (q3, .inl (a.1, 20, .inl (fun _ => 0))), (q4, .inl (a.1, 20, .inl (fun _ => 0))), (q5, .inl (a.1, 20, .inl (fun _ => 0)))] 5 100 _
  refine Z_al (q := 0) dX10_init_44 rfl rfl ?_
  refine Z_bi (v := (nI 20)) dX10_init_45 rfl ?_
  refine Z_nai (n := 20) wa_i (Nat.le_of_ble_eq_true rfl) (Nat.le_of_ble_eq_true rfl) (Nat.le_of_ble_eq_true rfl) dX10_init_47 (fun q6 => ?_)
  refine Z_putF (k0 := 0) f_X10_27 qk_X10_5 rfl rfl dX10_init_49 rfl (Nat.le_of_ble_eq_true rfl) ?_
  show Zj (D, a, A, rzX10) mX10_init 52 [(0, .ref h0)] [] [(h0, .inr (10, [.ref q1, .ref q2, .ref q3, .ref q4, .ref q5, .ref q6, .null, .null, .int 0])), (q1, .inl (a.1, 20, .inl (fun _ => 0))), (q2, .inl (a.1, 20, .inl (fun _ => 0))), (q3, .inl (a.1, 20, .inl (fun _ => 0))), (q4, .inl (a.1, 20, .inl (fun _ => 0))), (q5, .inl (a.1, 20, .inl (fun _ => 0))), (q6, .inl (a.1, 20, .inl (fun _ => 0)))] 6 120 _
  refine Z_al (q := 0) dX10_init_52 rfl rfl ?_
  refine Z_bi (v := (nI 20)) dX10_init_53 rfl ?_
  refine Z_nai (n := 20) wa_i (Nat.le_of_ble_eq_true rfl) (Nat.le_of_ble_eq_true rfl) (Nat.le_of_ble_eq_true rfl) dX10_init_55 (fun q7 => ?_)
  refine Z_putF (k0 := 0) f_X10_30 qk_X10_6 rfl rfl dX10_init_57 rfl (Nat.le_of_ble_eq_true rfl) ?_
  show Zj (D, a, A, rzX10) mX10_init 60 [(0, .ref h0)] [] [(h0, .inr (10, [.ref q1, .ref q2, .ref q3, .ref q4, .ref q5, .ref q6, .ref q7, .null, .int 0])), (q1, .inl (a.1, 20, .inl (fun _ => 0))), (q2, .inl (a.1, 20, .inl (fun _ => 0))), (q3, .inl (a.1, 20, .inl (fun _ => 0))), (q4, .inl (a.1, 20, .inl (fun _ => 0))), (q5, .inl (a.1, 20, .inl (fun _ => 0))), (q6, .inl (a.1, 20, .inl (fun _ => 0))), (q7, .inl (a.1, 20, .inl (fun _ => 0)))] 7 140 _
  refine Z_al (q := 0) dX10_init_60 rfl rfl ?_
  refine Z_bi (v := (nI 20)) dX10_init_61 rfl ?_
  refine Z_nai (n := 20) wa_i (Nat.le_of_ble_eq_true rfl) (Nat.le_of_ble_eq_true rfl) (Nat.le_of_ble_eq_true rfl) dX10_init_63 (fun q8 => ?_)
  refine Z_putF (k0 := 0) f_X10_33 qk_X10_7 rfl rfl dX10_init_65 rfl (Nat.le_of_ble_eq_true rfl) ?_
  show Zj (D, a, A, rzX10) mX10_init 68 [(0, .ref h0)] [] [(h0, .inr (10, [.ref q1, .ref q2, .ref q3, .ref q4, .ref q5, .ref q6, .ref q7, .ref q8, .int 0])), (q1, .inl (a.1, 20, .inl (fun _ => 0))), (q2, .inl (a.1, 20, .inl (fun _ => 0))), (q3, .inl (a.1, 20, .inl (fun _ => 0))), (q4, .inl (a.1, 20, .inl (fun _ => 0))), (q5, .inl (a.1, 20, .inl (fun _ => 0))), (q6, .inl (a.1, 20, .inl (fun _ => 0))), (q7, .inl (a.1, 20, .inl (fun _ => 0))), (q8, .inl (a.1, 20, .inl (fun _ => 0)))] 8 160 _
  exact Z_ret dX10_init_68 [0, 1, 2, 3, 4, 5, 6, 7, 8] (w' := [(h0, .inr (10, [.ref q1, .ref q2, .ref q3, .ref q4, .ref q5, .ref q6, .ref q7, .ref q8, .int 0])), (q1, .inl (a.1, 20, .inl (fun _ => 0))), (q2, .inl (a.1, 20, .inl (fun _ => 0))), (q3, .inl (a.1, 20, .inl (fun _ => 0))), (q4, .inl (a.1, 20, .inl (fun _ => 0))), (q5, .inl (a.1, 20, .inl (fun _ => 0))), (q6, .inl (a.1, 20, .inl (fun _ => 0))), (q7, .inl (a.1, 20, .inl (fun _ => 0))), (q8, .inl (a.1, 20, .inl (fun _ => 0)))]) rfl rfl (Nat.le_of_ble_eq_true rfl) (Nat.le_of_ble_eq_true rfl) ⟨q1, q2, q3, q4, q5, q6, q7, q8, rfl⟩
set_option maxRecDepth 100000 in
set_option maxHeartbeats 4000000 in
theorem ct_X3_init (D : va_G) (a : ClassId × ClassId) (h0 : Nat) : Ctor D a mX3_init (rzX3) [.ref h0] [(h0, .inr (3, [.null, .null, .int 0]))] (fun w => ∃ q1 q2 : Nat, w = [(h0, .inr (3, [.ref q1, .ref q2, .int 0])), (q1, .inl (a.1, 90, .inl (fun _ => 0))), (q2, .inl (a.1, 720, .inl (fun _ => 0)))]) := by
  refine Ctor_of_Z (L := [(0, .ref h0)]) (by decide) rfl rfl (Nat.le_of_ble_eq_true rfl) rfl (fun A => ?_)
  refine Z_al (q := 0) dX3_init_0 rfl rfl ?_
  refine Z_obj om_X3 (Nat.le_of_ble_eq_true rfl) (Nat.le_of_ble_eq_true rfl) dX3_init_1 w_objm w_objc ?_
  refine Z_al (q := 0) dX3_init_4 rfl rfl ?_
  refine Z_bi (v := (nI 90)) dX3_init_5 rfl ?_
  refine Z_nai (n := 90) wa_i (Nat.le_of_ble_eq_true rfl) (Nat.le_of_ble_eq_true rfl) (Nat.le_of_ble_eq_true rfl) dX3_init_7 (fun q1 => ?_)
  refine Z_putF (k0 := 0) f_X3_9 qk_X3_0 rfl rfl dX3_init_9 rfl (Nat.le_of_ble_eq_true rfl) ?_
  show Zj (D, a, A, rzX3) mX3_init 12 [(0, .ref h0)] [] [(h0, .inr (3, [.ref q1, .null, .int 0])), (q1, .inl (a.1, 90, .inl (fun _ => 0)))] 1 90 _
  refine Z_al (q := 0) dX3_init_12 rfl rfl ?_
  refine Z_si (v := (nI 720)) dX3_init_13 rfl ?_
  refine Z_nai (n := 720) wa_i (Nat.le_of_ble_eq_true rfl) (Nat.le_of_ble_eq_true rfl) (Nat.le_of_ble_eq_true rfl) dX3_init_16 (fun q2 => ?_)
  refine Z_putF (k0 := 0) f_X3_15 qk_X3_1 rfl rfl dX3_init_18 rfl (Nat.le_of_ble_eq_true rfl) ?_
  show Zj (D, a, A, rzX3) mX3_init 21 [(0, .ref h0)] [] [(h0, .inr (3, [.ref q1, .ref q2, .int 0])), (q1, .inl (a.1, 90, .inl (fun _ => 0))), (q2, .inl (a.1, 720, .inl (fun _ => 0)))] 2 810 _
  exact Z_ret dX3_init_21 [0, 1, 2] (w' := [(h0, .inr (3, [.ref q1, .ref q2, .int 0])), (q1, .inl (a.1, 90, .inl (fun _ => 0))), (q2, .inl (a.1, 720, .inl (fun _ => 0)))]) rfl rfl (Nat.le_of_ble_eq_true rfl) (Nat.le_of_ble_eq_true rfl) ⟨q1, q2, rfl⟩
set_option maxRecDepth 100000 in
set_option maxHeartbeats 4000000 in
theorem ct_X8_init (D : va_G) (a : ClassId × ClassId) (h0 r1 r2 r3 r4 : Nat) : Ctor D a mX8_init (rzX8) [.ref h0, .ref r1, .ref r2, .ref r3, .ref r4] [(h0, .inr (8, [.null, .null, .null, .null, .null, .null, .null, .null, .null, .null, .null, .int 0, .int 0]))] (fun w => ∃ q1 q2 q3 q4 q5 q6 q7 : Nat, w = [(h0, .inr (8, [.ref r1, .ref r2, .ref r3, .ref r4, .ref q1, .ref q2, .ref q3, .ref q4, .ref q5, .ref q6, .ref q7, .int 0, .int 0])), (q1, .inl (a.1, 30, .inl (fun _ => 0))), (q2, .inl (a.1, 30, .inl (fun _ => 0))), (q3, .inl (a.2, 30, .inl (fun _ => 0))), (q4, .inl (a.1, 210, .inl (fun _ => 0))), (q5, .inl (a.1, 210, .inl (fun _ => 0))), (q6, .inl (a.1, 210, .inl (fun _ => 0))), (q7, .inl (a.1, 210, .inl (fun _ => 0)))]) := by
  refine Ctor_of_Z (L := [(0, .ref h0), (1, .ref r1), (2, .ref r2), (3, .ref r3), (4, .ref r4)]) (by decide) rfl rfl (Nat.le_of_ble_eq_true rfl) rfl (fun A => ?_)
  refine Z_al (q := 0) dX8_init_0 rfl rfl ?_
  refine Z_obj om_X8 (Nat.le_of_ble_eq_true rfl) (Nat.le_of_ble_eq_true rfl) dX8_init_1 w_objm w_objc ?_
  refine Z_al (q := 0) dX8_init_4 rfl rfl ?_
  refine Z_bi (v := (nI 30)) dX8_init_5 rfl ?_
  refine Z_nai (n := 30) wa_i (Nat.le_of_ble_eq_true rfl) (Nat.le_of_ble_eq_true rfl) (Nat.le_of_ble_eq_true rfl) dX8_init_7 (fun q1 => ?_)
  refine Z_putF (k0 := 0) f_X8_9 qk_X8_4 rfl rfl dX8_init_9 rfl (Nat.le_of_ble_eq_true rfl) ?_
  show Zj (D, a, A, rzX8) mX8_init 12 [(0, .ref h0), (1, .ref r1), (2, .ref r2), (3, .ref r3), (4, .ref r4)] [] [(h0, .inr (8, [.null, .null, .null, .null, .ref q1, .null, .null, .null, .null, .null, .null, .int 0, .int 0])), (q1, .inl (a.1, 30, .inl (fun _ => 0)))] 1 30 _
  refine Z_al (q := 0) dX8_init_12 rfl rfl ?_
  refine Z_bi (v := (nI 30)) dX8_init_13 rfl ?_
  refine Z_nai (n := 30) wa_i (Nat.le_of_ble_eq_true rfl) (Nat.le_of_ble_eq_true rfl) (Nat.le_of_ble_eq_true rfl) dX8_init_15 (fun q2 => ?_)
  refine Z_putF (k0 := 0) f_X8_15 qk_X8_5 rfl rfl dX8_init_17 rfl (Nat.le_of_ble_eq_true rfl) ?_
  show Zj (D, a, A, rzX8) mX8_init 20 [(0, .ref h0), (1, .ref r1), (2, .ref r2), (3, .ref r3), (4, .ref r4)] [] [(h0, .inr (8, [.null, .null, .null, .null, .ref q1, .ref q2, .null, .null, .null, .null, .null, .int 0, .int 0])), (q1, .inl (a.1, 30, .inl (fun _ => 0))), (q2, .inl (a.1, 30, .inl (fun _ => 0)))] 2 60 _
  refine Z_al (q := 0) dX8_init_20 rfl rfl ?_
  refine Z_bi (v := (nI 30)) dX8_init_21 rfl ?_
  refine Z_nab (n := 30) wa_b (Nat.le_of_ble_eq_true rfl) (Nat.le_of_ble_eq_true rfl) (Nat.le_of_ble_eq_true rfl) dX8_init_23 (fun q3 => ?_)
  refine Z_putF (k0 := 0) f_X8_18 qk_X8_6 rfl rfl dX8_init_25 rfl (Nat.le_of_ble_eq_true rfl) ?_
  show Zj (D, a, A, rzX8) mX8_init 28 [(0, .ref h0), (1, .ref r1), (2, .ref r2), (3, .ref r3), (4, .ref r4)] [] [(h0, .inr (8, [.null, .null, .null, .null, .ref q1, .ref q2, .ref q3, .null, .null, .null, .null, .int 0, .int 0])), (q1, .inl (a.1, 30, .inl (fun _ => 0))), (q2, .inl (a.1, 30, .inl (fun _ => 0))), (q3, .inl (a.2, 30, .inl (fun _ => 0)))] 3 90 _
  refine Z_al (q := 0) dX8_init_28 rfl rfl ?_
  refine Z_si (v := (nI 210)) dX8_init_29 rfl ?_
  refine Z_nai (n := 210) wa_i (Nat.le_of_ble_eq_true rfl) (Nat.le_of_ble_eq_true rfl) (Nat.le_of_ble_eq_true rfl) dX8_init_32 (fun q4 => ?_)
  refine Z_putF (k0 := 0) f_X8_22 qk_X8_7 rfl rfl dX8_init_34 rfl (Nat.le_of_ble_eq_true rfl) ?_
  show Zj (D, a, A, rzX8) mX8_init 37 [(0, .ref h0), (1, .ref r1), (2, .ref r2), (3, .ref r3), (4, .ref r4)] [] [(h0, .inr (8, [.null, .null, .null, .null, .ref q1, .ref q2, .ref q3, .ref q4, .null, .null, .null, .int 0, .int 0])), (q1, .inl (a.1, 30, .inl (fun _ => 0))), (q2, .inl (a.1, 30, .inl (fun _ => 0))), (q3, .inl (a.2, 30, .inl (fun _ => 0))), (q4, .inl (a.1, 210, .inl (fun _ => 0)))] 4 300 _
  refine Z_al (q := 0) dX8_init_37 rfl rfl ?_
  refine Z_si (v := (nI 210)) dX8_init_38 rfl ?_
  refine Z_nai (n := 210) wa_i (Nat.le_of_ble_eq_true rfl) (Nat.le_of_ble_eq_true rfl) (Nat.le_of_ble_eq_true rfl) dX8_init_41 (fun q5 => ?_)
  refine Z_putF (k0 := 0) f_X8_25 qk_X8_8 rfl rfl dX8_init_43 rfl (Nat.le_of_ble_eq_true rfl) ?_
  show Zj (D, a, A, rzX8) mX8_init 46 [(0, .ref h0), (1, .ref r1), (2, .ref r2), (3, .ref r3), (4, .ref r4)] [] [(h0, .inr (8, [.null, .null, .null, .null, .ref q1, .ref q2, .ref q3, .ref q4, .ref q5, .null, .null, .int 0, .int 0])), (q1, .inl (a.1, 30, .inl (fun _ => 0))), (q2, .inl (a.1, 30, .inl (fun _ => 0))), (q3, .inl (a.2, 30, .inl (fun _ => 0))), (q4, .inl (a.1, 210, .inl (fun _ => 0))), (q5, .inl (a.1, 210, .inl (fun _ => 0)))] 5 510 _
  refine Z_al (q := 0) dX8_init_46 rfl rfl ?_
  refine Z_si (v := (nI 210)) dX8_init_47 rfl ?_
  refine Z_nai (n := 210) wa_i (Nat.le_of_ble_eq_true rfl) (Nat.le_of_ble_eq_true rfl) (Nat.le_of_ble_eq_true rfl) dX8_init_50 (fun q6 => ?_)
  refine Z_putF (k0 := 0) f_X8_28 qk_X8_9 rfl rfl dX8_init_52 rfl (Nat.le_of_ble_eq_true rfl) ?_
  show Zj (D, a, A, rzX8) mX8_init 55 [(0, .ref h0), (1, .ref r1), (2, .ref r2), (3, .ref r3), (4, .ref r4)] [] [(h0, .inr (8, [.null, .null, .null, .null, .ref q1, .ref q2, .ref q3, .ref q4, .ref q5, .ref q6, .null, .int 0, .int 0])), (q1, .inl (a.1, 30, .inl (fun _ => 0))), (q2, .inl (a.1, 30, .inl (fun _ => 0))), (q3, .inl (a.2, 30, .inl (fun _ => 0))), (q4, .inl (a.1, 210, .inl (fun _ => 0))), (q5, .inl (a.1, 210, .inl (fun _ => 0))), (q6, .inl (a.1, 210, .inl (fun _ => 0)))] 6 720 _
  refine Z_al (q := 0) dX8_init_55 rfl rfl ?_
  refine Z_si (v := (nI 210)) dX8_init_56 rfl ?_
  refine Z_nai (n := 210) wa_i (Nat.le_of_ble_eq_true rfl) (Nat.le_of_ble_eq_true rfl) (Nat.le_of_ble_eq_true rfl) dX8_init_59 (fun q7 => ?_)
  refine Z_putF (k0 := 0) f_X8_31 qk_X8_10 rfl rfl dX8_init_61 rfl (Nat.le_of_ble_eq_true rfl) ?_
  show Zj (D, a, A, rzX8) mX8_init 64 [(0, .ref h0), (1, .ref r1), (2, .ref r2), (3, .ref r3), (4, .ref r4)] [] [(h0, .inr (8, [.null, .null, .null, .null, .ref q1, .ref q2, .ref q3, .ref q4, .ref q5, .ref q6, .ref q7, .int 0, .int 0])), (q1, .inl (a.1, 30, .inl (fun _ => 0))), (q2, .inl (a.1, 30, .inl (fun _ => 0))), (q3, .inl (a.2, 30, .inl (fun _ => 0))), (q4, .inl (a.1, 210, .inl (fun _ => 0))), (q5, .inl (a.1, 210, .inl (fun _ => 0))), (q6, .inl (a.1, 210, .inl (fun _ => 0))), (q7, .inl (a.1, 210, .inl (fun _ => 0)))] 7 930 _
  refine Z_al (q := 0) dX8_init_64 rfl rfl ?_
  refine Z_al (q := 1) dX8_init_65 rfl rfl ?_
  refine Z_putF (k0 := 0) f_X8_34 qk_X8_0 rfl rfl dX8_init_66 rfl (Nat.le_of_ble_eq_true rfl) ?_
  show Zj (D, a, A, rzX8) mX8_init 69 [(0, .ref h0), (1, .ref r1), (2, .ref r2), (3, .ref r3), (4, .ref r4)] [] [(h0, .inr (8, [.ref r1, .null, .null, .null, .ref q1, .ref q2, .ref q3, .ref q4, .ref q5, .ref q6, .ref q7, .int 0, .int 0])), (q1, .inl (a.1, 30, .inl (fun _ => 0))), (q2, .inl (a.1, 30, .inl (fun _ => 0))), (q3, .inl (a.2, 30, .inl (fun _ => 0))), (q4, .inl (a.1, 210, .inl (fun _ => 0))), (q5, .inl (a.1, 210, .inl (fun _ => 0))), (q6, .inl (a.1, 210, .inl (fun _ => 0))), (q7, .inl (a.1, 210, .inl (fun _ => 0)))] 7 930 _
  refine Z_al (q := 0) dX8_init_69 rfl rfl ?_
  refine Z_al (q := 2) dX8_init_70 rfl rfl ?_
  refine Z_putF (k0 := 0) f_X8_38 qk_X8_1 rfl rfl dX8_init_71 rfl (Nat.le_of_ble_eq_true rfl) ?_
  show Zj (D, a, A, rzX8) mX8_init 74 [(0, .ref h0), (1, .ref r1), (2, .ref r2), (3, .ref r3), (4, .ref r4)] [] [(h0, .inr (8, [.ref r1, .ref r2, .null, .null, .ref q1, .ref q2, .ref q3, .ref q4, .ref q5, .ref q6, .ref q7, .int 0, .int 0])), (q1, .inl (a.1, 30, .inl (fun _ => 0))), (q2, .inl (a.1, 30, .inl (fun _ => 0))), (q3, .inl (a.2, 30, .inl (fun _ => 0))), (q4, .inl (a.1, 210, .inl (fun _ => 0))), (q5, .inl (a.1, 210, .inl (fun _ => 0))), (q6, .inl (a.1, 210, .inl (fun _ => 0))), (q7, .inl (a.1, 210, .inl (fun _ => 0)))] 7 930 _
  refine Z_al (q := 0) dX8_init_74 rfl rfl ?_
  refine Z_al (q := 3) dX8_init_75 rfl rfl ?_
  refine Z_putF (k0 := 0) f_X8_42 qk_X8_2 rfl rfl dX8_init_76 rfl (Nat.le_of_ble_eq_true rfl) ?_
  show Zj (D, a, A, rzX8) mX8_init 79 [(0, .ref h0), (1, .ref r1), (2, .ref r2), (3, .ref r3), (4, .ref r4)] [] [(h0, .inr (8, [.ref r1, .ref r2, .ref r3, .null, .ref q1, .ref q2, .ref q3, .ref q4, .ref q5, .ref q6, .ref q7, .int 0, .int 0])), (q1, .inl (a.1, 30, .inl (fun _ => 0))), (q2, .inl (a.1, 30, .inl (fun _ => 0))), (q3, .inl (a.2, 30, .inl (fun _ => 0))), (q4, .inl (a.1, 210, .inl (fun _ => 0))), (q5, .inl (a.1, 210, .inl (fun _ => 0))), (q6, .inl (a.1, 210, .inl (fun _ => 0))), (q7, .inl (a.1, 210, .inl (fun _ => 0)))] 7 930 _
  refine Z_al (q := 0) dX8_init_79 rfl rfl ?_
  refine Z_al2 (q := 4) dX8_init_80 rfl ?_
  refine Z_putF (k0 := 0) f_X8_46 qk_X8_3 rfl rfl dX8_init_82 rfl (Nat.le_of_ble_eq_true rfl) ?_
  show Zj (D, a, A, rzX8) mX8_init 85 [(0, .ref h0), (1, .ref r1), (2, .ref r2), (3, .ref r3), (4, .ref r4)] [] [(h0, .inr (8, [.ref r1, .ref r2, .ref r3, .ref r4, .ref q1, .ref q2, .ref q3, .ref q4, .ref q5, .ref q6, .ref q7, .int 0, .int 0])), (q1, .inl (a.1, 30, .inl (fun _ => 0))), (q2, .inl (a.1, 30, .inl (fun _ => 0))), (q3, .inl (a.2, 30, .inl (fun _ => 0))), (q4, .inl (a.1, 210, .inl (fun _ => 0))), (q5, .inl (a.1, 210, .inl (fun _ => 0))), (q6, .inl (a.1, 210, .inl (fun _ => 0))), (q7, .inl (a.1, 210, .inl (fun _ => 0)))] 7 930 _
  exact Z_ret dX8_init_85 [0, 1, 2, 3, 4, 5, 6, 7] (w' := [(h0, .inr (8, [.ref r1, .ref r2, .ref r3, .ref r4, .ref q1, .ref q2, .ref q3, .ref q4, .ref q5, .ref q6, .ref q7, .int 0, .int 0])), (q1, .inl (a.1, 30, .inl (fun _ => 0))), (q2, .inl (a.1, 30, .inl (fun _ => 0))), (q3, .inl (a.2, 30, .inl (fun _ => 0))), (q4, .inl (a.1, 210, .inl (fun _ => 0))), (q5, .inl (a.1, 210, .inl (fun _ => 0))), (q6, .inl (a.1, 210, .inl (fun _ => 0))), (q7, .inl (a.1, 210, .inl (fun _ => 0)))]) rfl rfl (Nat.le_of_ble_eq_true rfl) (Nat.le_of_ble_eq_true rfl) ⟨q1, q2, q3, q4, q5, q6, q7, rfl⟩
set_option maxRecDepth 100000 in
set_option maxHeartbeats 4000000 in
theorem ct_X4_init (D : va_G) (a : ClassId × ClassId) (h0 r1 r2 : Nat) : Ctor D a mX4_init (rzX4) [.ref h0, .ref r1, .ref r2] [(h0, .inr (4, [.null, .null, .null, .null, .null, .int 0, .int 0, .null, .null]))] (fun w => ∃ q1 q2 q3 q4 q5 : Nat, w = [(h0, .inr (4, [.ref q1, .ref q2, .ref q3, .ref q4, .ref q5, .int 0, .int 0, .ref r1, .ref r2])), (q1, .inl (a.1, 132, .inl (fun _ => 0))), (q2, .inl (a.1, 132, .inl (fun _ => 0))), (q3, .inl (a.1, 132, .inl (fun _ => 0))), (q4, .inl (a.1, 1056, .inl (fun _ => 0))), (q5, .inl (a.1, 1056, .inl (fun _ => 0)))]) := by
  refine Ctor_of_Z (L := [(0, .ref h0), (1, .ref r1), (2, .ref r2)]) (by decide) rfl rfl (Nat.le_of_ble_eq_true rfl) rfl (fun A => ?_)
  refine Z_al (q := 0) dX4_init_0 rfl rfl ?_
  refine Z_obj om_X4 (Nat.le_of_ble_eq_true rfl) (Nat.le_of_ble_eq_true rfl) dX4_init_1 w_objm w_objc ?_
  refine Z_al (q := 0) dX4_init_4 rfl rfl ?_
  refine Z_si (v := (nI 132)) dX4_init_5 rfl ?_
  refine Z_nai (n := 132) wa_i (Nat.le_of_ble_eq_true rfl) (Nat.le_of_ble_eq_true rfl) (Nat.le_of_ble_eq_true rfl) dX4_init_8 (fun q1 => ?_)
  refine Z_putF (k0 := 0) f_X4_9 qk_X4_0 rfl rfl dX4_init_10 rfl (Nat.le_of_ble_eq_true rfl) ?_
  show Zj (D, a, A, rzX4) mX4_init 13 [(0, .ref h0), (1, .ref r1), (2, .ref r2)] [] [(h0, .inr (4, [.ref q1, .null, .null, .null, .null, .int 0, .int 0, .null, .null])), (q1, .inl (a.1, 132, .inl (fun _ => 0)))] 1 132 _
  refine Z_al (q := 0) dX4_init_13 rfl rfl ?_
  refine Z_si (v := (nI 132)) dX4_init_14 rfl ?_
  refine Z_nai (n := 132) wa_i (Nat.le_of_ble_eq_true rfl) (Nat.le_of_ble_eq_true rfl) (Nat.le_of_ble_eq_true rfl) dX4_init_17 (fun q2 => ?_)
  refine Z_putF (k0 := 0) f_X4_15 qk_X4_1 rfl rfl dX4_init_19 rfl (Nat.le_of_ble_eq_true rfl) ?_
  show Zj (D, a, A, rzX4) mX4_init 22 [(0, .ref h0), (1, .ref r1), (2, .ref r2)] [] [(h0, .inr (4, [.ref q1, .ref q2, .null, .null, .null, .int 0, .int 0, .null, .null])), (q1, .inl (a.1, 132, .inl (fun _ => 0))), (q2, .inl (a.1, 132, .inl (fun _ => 0)))] 2 264 _
  refine Z_al (q := 0) dX4_init_22 rfl rfl ?_
  refine Z_si (v := (nI 132)) dX4_init_23 rfl ?_
  refine Z_nai (n := 132) wa_i (Nat.le_of_ble_eq_true rfl) (Nat.le_of_ble_eq_true rfl) (Nat.le_of_ble_eq_true rfl) dX4_init_26 (fun q3 => ?_)
  refine Z_putF (k0 := 0) f_X4_18 qk_X4_2 rfl rfl dX4_init_28 rfl (Nat.le_of_ble_eq_true rfl) ?_
  show Zj (D, a, A, rzX4) mX4_init 31 [(0, .ref h0), (1, .ref r1), (2, .ref r2)] [] [(h0, .inr (4, [.ref q1, .ref q2, .ref q3, .null, .null, .int 0, .int 0, .null, .null])), (q1, .inl (a.1, 132, .inl (fun _ => 0))), (q2, .inl (a.1, 132, .inl (fun _ => 0))), (q3, .inl (a.1, 132, .inl (fun _ => 0)))] 3 396 _
  refine Z_al (q := 0) dX4_init_31 rfl rfl ?_
  refine Z_si (v := (nI 1056)) dX4_init_32 rfl ?_
  refine Z_nai (n := 1056) wa_i (Nat.le_of_ble_eq_true rfl) (Nat.le_of_ble_eq_true rfl) (Nat.le_of_ble_eq_true rfl) dX4_init_35 (fun q4 => ?_)
  refine Z_putF (k0 := 0) f_X4_21 qk_X4_3 rfl rfl dX4_init_37 rfl (Nat.le_of_ble_eq_true rfl) ?_
  show Zj (D, a, A, rzX4) mX4_init 40 [(0, .ref h0), (1, .ref r1), (2, .ref r2)] [] [(h0, .inr (4, [.ref q1, .ref q2, .ref q3, .ref q4, .null, .int 0, .int 0, .null, .null])), (q1, .inl (a.1, 132, .inl (fun _ => 0))), (q2, .inl (a.1, 132, .inl (fun _ => 0))), (q3, .inl (a.1, 132, .inl (fun _ => 0))), (q4, .inl (a.1, 1056, .inl (fun _ => 0)))] 4 1452 _
  refine Z_al (q := 0) dX4_init_40 rfl rfl ?_
  refine Z_si (v := (nI 1056)) dX4_init_41 rfl ?_
  refine Z_nai (n := 1056) wa_i (Nat.le_of_ble_eq_true rfl) (Nat.le_of_ble_eq_true rfl) (Nat.le_of_ble_eq_true rfl) dX4_init_44 (fun q5 => ?_)
  refine Z_putF (k0 := 0) f_X4_24 qk_X4_4 rfl rfl dX4_init_46 rfl (Nat.le_of_ble_eq_true rfl) ?_
  show Zj (D, a, A, rzX4) mX4_init 49 [(0, .ref h0), (1, .ref r1), (2, .ref r2)] [] [(h0, .inr (4, [.ref q1, .ref q2, .ref q3, .ref q4, .ref q5, .int 0, .int 0, .null, .null])), (q1, .inl (a.1, 132, .inl (fun _ => 0))), (q2, .inl (a.1, 132, .inl (fun _ => 0))), (q3, .inl (a.1, 132, .inl (fun _ => 0))), (q4, .inl (a.1, 1056, .inl (fun _ => 0))), (q5, .inl (a.1, 1056, .inl (fun _ => 0)))] 5 2508 _
  refine Z_al (q := 0) dX4_init_49 rfl rfl ?_
  refine Z_al (q := 1) dX4_init_50 rfl rfl ?_
  refine Z_putF (k0 := 0) f_X4_27 qk_X4_7 rfl rfl dX4_init_51 rfl (Nat.le_of_ble_eq_true rfl) ?_
  show Zj (D, a, A, rzX4) mX4_init 54 [(0, .ref h0), (1, .ref r1), (2, .ref r2)] [] [(h0, .inr (4, [.ref q1, .ref q2, .ref q3, .ref q4, .ref q5, .int 0, .int 0, .ref r1, .null])), (q1, .inl (a.1, 132, .inl (fun _ => 0))), (q2, .inl (a.1, 132, .inl (fun _ => 0))), (q3, .inl (a.1, 132, .inl (fun _ => 0))), (q4, .inl (a.1, 1056, .inl (fun _ => 0))), (q5, .inl (a.1, 1056, .inl (fun _ => 0)))] 5 2508 _
  refine Z_al (q := 0) dX4_init_54 rfl rfl ?_
  refine Z_al (q := 2) dX4_init_55 rfl rfl ?_
  refine Z_putF (k0 := 0) f_X4_31 qk_X4_8 rfl rfl dX4_init_56 rfl (Nat.le_of_ble_eq_true rfl) ?_
  show Zj (D, a, A, rzX4) mX4_init 59 [(0, .ref h0), (1, .ref r1), (2, .ref r2)] [] [(h0, .inr (4, [.ref q1, .ref q2, .ref q3, .ref q4, .ref q5, .int 0, .int 0, .ref r1, .ref r2])), (q1, .inl (a.1, 132, .inl (fun _ => 0))), (q2, .inl (a.1, 132, .inl (fun _ => 0))), (q3, .inl (a.1, 132, .inl (fun _ => 0))), (q4, .inl (a.1, 1056, .inl (fun _ => 0))), (q5, .inl (a.1, 1056, .inl (fun _ => 0)))] 5 2508 _
  exact Z_ret dX4_init_59 [0, 1, 2, 3, 4, 5] (w' := [(h0, .inr (4, [.ref q1, .ref q2, .ref q3, .ref q4, .ref q5, .int 0, .int 0, .ref r1, .ref r2])), (q1, .inl (a.1, 132, .inl (fun _ => 0))), (q2, .inl (a.1, 132, .inl (fun _ => 0))), (q3, .inl (a.1, 132, .inl (fun _ => 0))), (q4, .inl (a.1, 1056, .inl (fun _ => 0))), (q5, .inl (a.1, 1056, .inl (fun _ => 0)))]) rfl rfl (Nat.le_of_ble_eq_true rfl) (Nat.le_of_ble_eq_true rfl) ⟨q1, q2, q3, q4, q5, rfl⟩
set_option maxRecDepth 100000 in
set_option maxHeartbeats 4000000 in
theorem ct_X5_init (D : va_G) (a : ClassId × ClassId) (h0 r1 r2 r3 r4 : Nat) : Ctor D a mX5_init (rzX5) [.ref h0, .ref r1, .ref r2, .ref r3, .ref r4] [(h0, .inr (5, [.null, .null, .null, .null, .null, .null, .null, .null, .null, .int 0, .int 0]))] (fun w => ∃ q1 q2 q3 q4 q5 : Nat, w = [(h0, .inr (5, [.ref r1, .ref r2, .ref r3, .ref r4, .ref q1, .ref q2, .ref q3, .ref q4, .ref q5, .int 0, .int 0])), (q1, .inl (a.1, 696, .inl (fun _ => 0))), (q2, .inl (a.1, 360, .inl (fun _ => 0))), (q3, .inl (a.1, 12, .inl (fun _ => 0))), (q4, .inl (a.1, 12, .inl (fun _ => 0))), (q5, .inl (a.1, 4, .inl (fun _ => 0)))]) := by
  refine Ctor_of_Z (L := [(0, .ref h0), (1, .ref r1), (2, .ref r2), (3, .ref r3), (4, .ref r4)]) (by decide) rfl rfl (Nat.le_of_ble_eq_true rfl) rfl (fun A => ?_)
  refine Z_al (q := 0) dX5_init_0 rfl rfl ?_
  refine Z_obj om_X5 (Nat.le_of_ble_eq_true rfl) (Nat.le_of_ble_eq_true rfl) dX5_init_1 w_objm w_objc ?_
  refine Z_al (q := 0) dX5_init_4 rfl rfl ?_
  refine Z_si (v := (nI 696)) dX5_init_5 rfl ?_
  refine Z_nai (n := 696) wa_i (Nat.le_of_ble_eq_true rfl) (Nat.le_of_ble_eq_true rfl) (Nat.le_of_ble_eq_true rfl) dX5_init_8 (fun q1 => ?_)
  refine Z_putF (k0 := 0) f_X5_9 qk_X5_4 rfl rfl dX5_init_10 rfl (Nat.le_of_ble_eq_true rfl) ?_
  show Zj (D, a, A, rzX5) mX5_init 13 [(0, .ref h0), (1, .ref r1), (2, .ref r2), (3, .ref r3), (4, .ref r4)] [] [(h0, .inr (5, [.null, .null, .null, .null, .ref q1, .null, .null, .null, .null, .int 0, .int 0])), (q1, .inl (a.1, 696, .inl (fun _ => 0)))] 1 696 _
  refine Z_al (q := 0) dX5_init_13 rfl rfl ?_
  refine Z_si (v := (nI 360)) dX5_init_14 rfl ?_
  refine Z_nai (n := 360) wa_i (Nat.le_of_ble_eq_true rfl) (Nat.le_of_ble_eq_true rfl) (Nat.le_of_ble_eq_true rfl) dX5_init_17 (fun q2 => ?_)
  refine Z_putF (k0 := 0) f_X5_15 qk_X5_5 rfl rfl dX5_init_19 rfl (Nat.le_of_ble_eq_true rfl) ?_
  show Zj (D, a, A, rzX5) mX5_init 22 [(0, .ref h0), (1, .ref r1), (2, .ref r2), (3, .ref r3), (4, .ref r4)] [] [(h0, .inr (5, [.null, .null, .null, .null, .ref q1, .ref q2, .null, .null, .null, .int 0, .int 0])), (q1, .inl (a.1, 696, .inl (fun _ => 0))), (q2, .inl (a.1, 360, .inl (fun _ => 0)))] 2 1056 _
  refine Z_al (q := 0) dX5_init_22 rfl rfl ?_
  refine Z_bi (v := (nI 12)) dX5_init_23 rfl ?_
  refine Z_nai (n := 12) wa_i (Nat.le_of_ble_eq_true rfl) (Nat.le_of_ble_eq_true rfl) (Nat.le_of_ble_eq_true rfl) dX5_init_25 (fun q3 => ?_)
  refine Z_putF (k0 := 0) f_X5_18 qk_X5_6 rfl rfl dX5_init_27 rfl (Nat.le_of_ble_eq_true rfl) ?_
  show Zj (D, a, A, rzX5) mX5_init 30 [(0, .ref h0), (1, .ref r1), (2, .ref r2), (3, .ref r3), (4, .ref r4)] [] [(h0, .inr (5, [.null, .null, .null, .null, .ref q1, .ref q2, .ref q3, .null, .null, .int 0, .int 0])), (q1, .inl (a.1, 696, .inl (fun _ => 0))), (q2, .inl (a.1, 360, .inl (fun _ => 0))), (q3, .inl (a.1, 12, .inl (fun _ => 0)))] 3 1068 _
  refine Z_al (q := 0) dX5_init_30 rfl rfl ?_
  refine Z_bi (v := (nI 12)) dX5_init_31 rfl ?_
  refine Z_nai (n := 12) wa_i (Nat.le_of_ble_eq_true rfl) (Nat.le_of_ble_eq_true rfl) (Nat.le_of_ble_eq_true rfl) dX5_init_33 (fun q4 => ?_)
  refine Z_putF (k0 := 0) f_X5_21 qk_X5_7 rfl rfl dX5_init_35 rfl (Nat.le_of_ble_eq_true rfl) ?_
  show Zj (D, a, A, rzX5) mX5_init 38 [(0, .ref h0), (1, .ref r1), (2, .ref r2), (3, .ref r3), (4, .ref r4)] [] [(h0, .inr (5, [.null, .null, .null, .null, .ref q1, .ref q2, .ref q3, .ref q4, .null, .int 0, .int 0])), (q1, .inl (a.1, 696, .inl (fun _ => 0))), (q2, .inl (a.1, 360, .inl (fun _ => 0))), (q3, .inl (a.1, 12, .inl (fun _ => 0))), (q4, .inl (a.1, 12, .inl (fun _ => 0)))] 4 1080 _
  refine Z_al (q := 0) dX5_init_38 rfl rfl ?_
  refine Z_ic (v := (nI 4)) dX5_init_39 rfl ?_
  refine Z_nai (n := 4) wa_i (Nat.le_of_ble_eq_true rfl) (Nat.le_of_ble_eq_true rfl) (Nat.le_of_ble_eq_true rfl) dX5_init_40 (fun q5 => ?_)
  refine Z_putF (k0 := 0) f_X5_24 qk_X5_8 rfl rfl dX5_init_42 rfl (Nat.le_of_ble_eq_true rfl) ?_
  show Zj (D, a, A, rzX5) mX5_init 45 [(0, .ref h0), (1, .ref r1), (2, .ref r2), (3, .ref r3), (4, .ref r4)] [] [(h0, .inr (5, [.null, .null, .null, .null, .ref q1, .ref q2, .ref q3, .ref q4, .ref q5, .int 0, .int 0])), (q1, .inl (a.1, 696, .inl (fun _ => 0))), (q2, .inl (a.1, 360, .inl (fun _ => 0))), (q3, .inl (a.1, 12, .inl (fun _ => 0))), (q4, .inl (a.1, 12, .inl (fun _ => 0))), (q5, .inl (a.1, 4, .inl (fun _ => 0)))] 5 1084 _
  refine Z_al (q := 0) dX5_init_45 rfl rfl ?_
  refine Z_al (q := 1) dX5_init_46 rfl rfl ?_
  refine Z_putF (k0 := 0) f_X5_27 qk_X5_0 rfl rfl dX5_init_47 rfl (Nat.le_of_ble_eq_true rfl) ?_
  show Zj (D, a, A, rzX5) mX5_init 50 [(0, .ref h0), (1, .ref r1), (2, .ref r2), (3, .ref r3), (4, .ref r4)] [] [(h0, .inr (5, [.ref r1, .null, .null, .null, .ref q1, .ref q2, .ref q3, .ref q4, .ref q5, .int 0, .int 0])), (q1, .inl (a.1, 696, .inl (fun _ => 0))), (q2, .inl (a.1, 360, .inl (fun _ => 0))), (q3, .inl (a.1, 12, .inl (fun _ => 0))), (q4, .inl (a.1, 12, .inl (fun _ => 0))), (q5, .inl (a.1, 4, .inl (fun _ => 0)))] 5 1084 _
  refine Z_al (q := 0) dX5_init_50 rfl rfl ?_
  refine Z_al (q := 2) dX5_init_51 rfl rfl ?_
  refine Z_putF (k0 := 0) f_X5_31 qk_X5_1 rfl rfl dX5_init_52 rfl (Nat.le_of_ble_eq_true rfl) ?_
  show Zj (D, a, A, rzX5) mX5_init 55 [(0, .ref h0), (1, .ref r1), (2, .ref r2), (3, .ref r3), (4, .ref r4)] [] [(h0, .inr (5, [.ref r1, .ref r2, .null, .null, .ref q1, .ref q2, .ref q3, .ref q4, .ref q5, .int 0, .int 0])), (q1, .inl (a.1, 696, .inl (fun _ => 0))), (q2, .inl (a.1, 360, .inl (fun _ => 0))), (q3, .inl (a.1, 12, .inl (fun _ => 0))), (q4, .inl (a.1, 12, .inl (fun _ => 0))), (q5, .inl (a.1, 4, .inl (fun _ => 0)))] 5 1084 _
  refine Z_al (q := 0) dX5_init_55 rfl rfl ?_
  refine Z_al (q := 3) dX5_init_56 rfl rfl ?_
  refine Z_putF (k0 := 0) f_X5_35 qk_X5_2 rfl rfl dX5_init_57 rfl (Nat.le_of_ble_eq_true rfl) ?_
  show Zj (D, a, A, rzX5) mX5_init 60 [(0, .ref h0), (1, .ref r1), (2, .ref r2), (3, .ref r3), (4, .ref r4)] [] [(h0, .inr (5, [.ref r1, .ref r2, .ref r3, .null, .ref q1, .ref q2, .ref q3, .ref q4, .ref q5, .int 0, .int 0])), (q1, .inl (a.1, 696, .inl (fun _ => 0))), (q2, .inl (a.1, 360, .inl (fun _ => 0))), (q3, .inl (a.1, 12, .inl (fun _ => 0))), (q4, .inl (a.1, 12, .inl (fun _ => 0))), (q5, .inl (a.1, 4, .inl (fun _ => 0)))] 5 1084 _
  refine Z_al (q := 0) dX5_init_60 rfl rfl ?_
  refine Z_al2 (q := 4) dX5_init_61 rfl ?_
  refine Z_putF (k0 := 0) f_X5_39 qk_X5_3 rfl rfl dX5_init_63 rfl (Nat.le_of_ble_eq_true rfl) ?_
  show Zj (D, a, A, rzX5) mX5_init 66 [(0, .ref h0), (1, .ref r1), (2, .ref r2), (3, .ref r3), (4, .ref r4)] [] [(h0, .inr (5, [.ref r1, .ref r2, .ref r3, .ref r4, .ref q1, .ref q2, .ref q3, .ref q4, .ref q5, .int 0, .int 0])), (q1, .inl (a.1, 696, .inl (fun _ => 0))), (q2, .inl (a.1, 360, .inl (fun _ => 0))), (q3, .inl (a.1, 12, .inl (fun _ => 0))), (q4, .inl (a.1, 12, .inl (fun _ => 0))), (q5, .inl (a.1, 4, .inl (fun _ => 0)))] 5 1084 _
  exact Z_ret dX5_init_66 [0, 1, 2, 3, 4, 5] (w' := [(h0, .inr (5, [.ref r1, .ref r2, .ref r3, .ref r4, .ref q1, .ref q2, .ref q3, .ref q4, .ref q5, .int 0, .int 0])), (q1, .inl (a.1, 696, .inl (fun _ => 0))), (q2, .inl (a.1, 360, .inl (fun _ => 0))), (q3, .inl (a.1, 12, .inl (fun _ => 0))), (q4, .inl (a.1, 12, .inl (fun _ => 0))), (q5, .inl (a.1, 4, .inl (fun _ => 0)))]) rfl rfl (Nat.le_of_ble_eq_true rfl) (Nat.le_of_ble_eq_true rfl) ⟨q1, q2, q3, q4, q5, rfl⟩
set_option maxRecDepth 100000 in
set_option maxHeartbeats 4000000 in
theorem ct_X6_init (D : va_G) (a : ClassId × ClassId) (h0 x1 : Nat) (hx : x1 < 100000) : Ctor D a mX6_init (rzX6 x1) [.ref h0, .int (nI x1)] [(h0, .inr (6, [.null, .int 0]))] (fun w => ∃ q1 : Nat, w = [(h0, .inr (6, [.ref q1, .int 0])), (q1, .inl (a.1, x1, .inl (fun _ => 0)))]) := by
  refine Ctor_of_Z (L := [(0, .ref h0), (1, .int (nI x1))]) (by decide) rfl rfl (Nat.le_of_ble_eq_true rfl) rfl (fun A => ?_)
  refine Z_al (q := 0) dX6_init_0 rfl rfl ?_
  refine Z_obj om_X6 (Nat.le_of_ble_eq_true rfl) (Nat.le_of_ble_eq_true rfl) dX6_init_1 w_objm w_objc ?_
  refine Z_al (q := 0) dX6_init_4 rfl rfl ?_
  refine Z_ic (v := (nI 0)) dX6_init_5 rfl ?_
  refine Z_il (q := 1) dX6_init_6 rfl rfl ?_
  refine Z_max l_X6_7 w_static_max w_init_math w_code_max (Nat.le_of_ble_eq_true rfl) (Nat.le_of_ble_eq_true rfl) (Nat.zero_le _) (Nat.zero_le _) dX6_init_7 ?_
  rw [mx0 hx]
  refine Z_nai (n := x1) wa_i hx (Nat.le_refl _) (Nat.le_of_eq (Nat.zero_add _)) dX6_init_10 (fun q1 => ?_)
  refine Z_putF (k0 := 0) f_X6_13 qk_X6_0 rfl rfl dX6_init_12 rfl (Nat.le_of_ble_eq_true rfl) ?_
  show Zj (D, a, A, rzX6 x1) mX6_init 15 [(0, .ref h0), (1, .int (nI x1))] [] [(h0, .inr (6, [.ref q1, .int 0])), (q1, .inl (a.1, x1, .inl (fun _ => 0)))] 1 (0 + x1) _
  exact Z_ret dX6_init_15 [0, 1] (w' := [(h0, .inr (6, [.ref q1, .int 0])), (q1, .inl (a.1, x1, .inl (fun _ => 0)))]) rfl rfl (Nat.le_refl _) (Nat.le_of_eq (Nat.zero_add _)) ⟨q1, rfl⟩
set_option maxRecDepth 100000 in
set_option maxHeartbeats 4000000 in
theorem ct_X2_init (D : va_G) (a : ClassId × ClassId) (h0 r1 : Nat) : Ctor D a mX2_init (rzX2) [.ref h0, .ref r1] [(h0, .inr (2, [.null, .null, .null, .null, .null, .null, .null, .null, .null, .int 0, .int 0]))] (fun w => ∃ q1 q2 q3 q4 q5 q6 q7 q8 q9 : Nat, w = [(h0, .inr (2, [.ref r1, .ref q1, .ref q2, .ref q3, .ref q5, .ref q6, .ref q7, .ref q8, .ref q9, .int 0, .int 0])), (q1, .inl (a.1, 290, .inl (fun _ => 0))), (q2, .inl (a.1, 3654, .inl (fun _ => 0))), (q3, .inr (6, [.ref q4, .int 0])), (q4, .inl (a.1, 58, .inl (fun _ => 0))), (q5, .inl (a.1, 28, .inl (fun _ => 0))), (q6, .inl (a.1, 4, .inl (fun _ => 0))), (q7, .inl (a.1, 4, .inl (fun _ => 0))), (q8, .inl (a.1, 4, .inl (fun _ => 0))), (q9, .inl (a.1, 4, .inl (fun _ => 0)))]) := by
  refine Ctor_of_Z (L := [(0, .ref h0), (1, .ref r1)]) (by decide) rfl rfl (Nat.le_of_ble_eq_true rfl) rfl (fun A => ?_)
  refine Z_al (q := 0) dX2_init_0 rfl rfl ?_
  refine Z_obj om_X2 (Nat.le_of_ble_eq_true rfl) (Nat.le_of_ble_eq_true rfl) dX2_init_1 w_objm w_objc ?_
  refine Z_al (q := 0) dX2_init_4 rfl rfl ?_
  refine Z_si (v := (nI 290)) dX2_init_5 rfl ?_
  refine Z_nai (n := 290) wa_i (Nat.le_of_ble_eq_true rfl) (Nat.le_of_ble_eq_true rfl) (Nat.le_of_ble_eq_true rfl) dX2_init_8 (fun q1 => ?_)
  refine Z_putF (k0 := 0) f_X2_9 qk_X2_1 rfl rfl dX2_init_10 rfl (Nat.le_of_ble_eq_true rfl) ?_
  show Zj (D, a, A, rzX2) mX2_init 13 [(0, .ref h0), (1, .ref r1)] [] [(h0, .inr (2, [.null, .ref q1, .null, .null, .null, .null, .null, .null, .null, .int 0, .int 0])), (q1, .inl (a.1, 290, .inl (fun _ => 0)))] 1 290 _
  refine Z_al (q := 0) dX2_init_13 rfl rfl ?_
  refine Z_si (v := (nI 3654)) dX2_init_14 rfl ?_
  refine Z_nai (n := 3654) wa_i (Nat.le_of_ble_eq_true rfl) (Nat.le_of_ble_eq_true rfl) (Nat.le_of_ble_eq_true rfl) dX2_init_17 (fun q2 => ?_)
  refine Z_putF (k0 := 0) f_X2_15 qk_X2_2 rfl rfl dX2_init_19 rfl (Nat.le_of_ble_eq_true rfl) ?_
  show Zj (D, a, A, rzX2) mX2_init 22 [(0, .ref h0), (1, .ref r1)] [] [(h0, .inr (2, [.null, .ref q1, .ref q2, .null, .null, .null, .null, .null, .null, .int 0, .int 0])), (q1, .inl (a.1, 290, .inl (fun _ => 0))), (q2, .inl (a.1, 3654, .inl (fun _ => 0)))] 2 3944 _
  refine Z_al (q := 0) dX2_init_22 rfl rfl ?_
  refine Z_new (ci := 6) tyX6 rfl inX6 tyX6_ok cl_X2_18 it_X6 wc_X6 df_X6 (Nat.le_of_ble_eq_true rfl) (Nat.le_of_ble_eq_true rfl) dX2_init_23 (fun q3 => ?_)
  refine Z_dup dX2_init_26 rfl ?_
  refine Z_bi (v := (nI 58)) dX2_init_27 rfl ?_
  refine Z_init (As := [.int (nI 58)]) (ct_X6_init D a q3 58 (Nat.le_of_ble_eq_true rfl)) cw_X6_init rfl ml_X2_20 wc_X6 wi_X6_init rfl nd_X6_init ⟨Nat.le_of_ble_eq_true rfl, Nat.le_of_ble_eq_true rfl⟩ [3] [0, 1, 2] (wr := [(h0, .inr (2, [.null, .ref q1, .ref q2, .null, .null, .null, .null, .null, .null, .int 0, .int 0])), (q1, .inl (a.1, 290, .inl (fun _ => 0))), (q2, .inl (a.1, 3654, .inl (fun _ => 0)))]) rfl rfl rfl rfl (by decide) rfl (Nat.le_of_ble_eq_true rfl) (Nat.le_of_ble_eq_true rfl) (Nat.le_of_ble_eq_true rfl) dX2_init_29 (fun w1 hw1 => ?_)
  obtain ⟨q4, rfl⟩ := hw1
  show Zj (D, a, A, rzX2) mX2_init 32 [(0, .ref h0), (1, .ref r1)] [.ref q3, .ref h0] [(h0, .inr (2, [.null, .ref q1, .ref q2, .null, .null, .null, .null, .null, .null, .int 0, .int 0])), (q1, .inl (a.1, 290, .inl (fun _ => 0))), (q2, .inl (a.1, 3654, .inl (fun _ => 0))), (q3, .inr (6, [.ref q4, .int 0])), (q4, .inl (a.1, 58, .inl (fun _ => 0)))] 4 4004 _
  refine Z_putF (k0 := 0) f_X2_23 qk_X2_3 rfl rfl dX2_init_32 rfl (Nat.le_of_ble_eq_true rfl) ?_
  show Zj (D, a, A, rzX2) mX2_init 35 [(0, .ref h0), (1, .ref r1)] [] [(h0, .inr (2, [.null, .ref q1, .ref q2, .ref q3, .null, .null, .null, .null, .null, .int 0, .int 0])), (q1, .inl (a.1, 290, .inl (fun _ => 0))), (q2, .inl (a.1, 3654, .inl (fun _ => 0))), (q3, .inr (6, [.ref q4, .int 0])), (q4, .inl (a.1, 58, .inl (fun _ => 0)))] 4 4004 _
  refine Z_al (q := 0) dX2_init_35 rfl rfl ?_
  refine Z_bi (v := (nI 28)) dX2_init_36 rfl ?_
  refine Z_nai (n := 28) wa_i (Nat.le_of_ble_eq_true rfl) (Nat.le_of_ble_eq_true rfl) (Nat.le_of_ble_eq_true rfl) dX2_init_38 (fun q5 => ?_)
  refine Z_putF (k0 := 0) f_X2_27 qk_X2_4 rfl rfl dX2_init_40 rfl (Nat.le_of_ble_eq_true rfl) ?_
  show Zj (D, a, A, rzX2) mX2_init 43 [(0, .ref h0), (1, .ref r1)] [] [(h0, .inr (2, [.null, .ref q1, .ref q2, .ref q3, .ref q5, .null, .null, .null, .null, .int 0, .int 0])), (q1, .inl (a.1, 290, .inl (fun _ => 0))), (q2, .inl (a.1, 3654, .inl (fun _ => 0))), (q3, .inr (6, [.ref q4, .int 0])), (q4, .inl (a.1, 58, .inl (fun _ => 0))), (q5, .inl (a.1, 28, .inl (fun _ => 0)))] 5 4032 _
  refine Z_al (q := 0) dX2_init_43 rfl rfl ?_
  refine Z_ic (v := (nI 4)) dX2_init_44 rfl ?_
  refine Z_nai (n := 4) wa_i (Nat.le_of_ble_eq_true rfl) (Nat.le_of_ble_eq_true rfl) (Nat.le_of_ble_eq_true rfl) dX2_init_45 (fun q6 => ?_)
  refine Z_putF (k0 := 0) f_X2_30 qk_X2_5 rfl rfl dX2_init_47 rfl (Nat.le_of_ble_eq_true rfl) ?_
  show Zj (D, a, A, rzX2) mX2_init 50 [(0, .ref h0), (1, .ref r1)] [] [(h0, .inr (2, [.null, .ref q1, .ref q2, .ref q3, .ref q5, .ref q6, .null, .null, .null, .int 0, .int 0])), (q1, .inl (a.1, 290, .inl (fun _ => 0))), (q2, .inl (a.1, 3654, .inl (fun _ => 0))), (q3, .inr (6, [.ref q4, .int 0])), (q4, .inl (a.1, 58, .inl (fun _ => 0))), (q5, .inl (a.1, 28, .inl (fun _ => 0))), (q6, .inl (a.1, 4, .inl (fun _ => 0)))] 6 4036 _
  refine Z_al (q := 0) dX2_init_50 rfl rfl ?_
  refine Z_ic (v := (nI 4)) dX2_init_51 rfl ?_
  refine Z_nai (n := 4) wa_i (Nat.le_of_ble_eq_true rfl) (Nat.le_of_ble_eq_true rfl) (Nat.le_of_ble_eq_true rfl) dX2_init_52 (fun q7 => ?_)
  refine Z_putF (k0 := 0) f_X2_33 qk_X2_6 rfl rfl dX2_init_54 rfl (Nat.le_of_ble_eq_true rfl) ?_
  show Zj (D, a, A, rzX2) mX2_init 57 [(0, .ref h0), (1, .ref r1)] [] [(h0, .inr (2, [.null, .ref q1, .ref q2, .ref q3, .ref q5, .ref q6, .ref q7, .null, .null, .int 0, .int 0])), (q1, .inl (a.1, 290, .inl (fun _ => 0))), (q2, .inl (a.1, 3654, .inl (fun _ => 0))), (q3, .inr (6, [.ref q4, .int 0])), (q4, .inl (a.1, 58, .inl (fun _ => 0))), (q5, .inl (a.1, 28, .inl (fun _ => 0))), (q6, .inl (a.1, 4, .inl (fun _ => 0))), (q7, .inl (a.1, 4, .inl (fun _ => 0)))] 7 4040 _
  refine Z_al (q := 0) dX2_init_57 rfl rfl ?_
  refine Z_ic (v := (nI 4)) dX2_init_58 rfl ?_
  refine Z_nai (n := 4) wa_i (Nat.le_of_ble_eq_true rfl) (Nat.le_of_ble_eq_true rfl) (Nat.le_of_ble_eq_true rfl) dX2_init_59 (fun q8 => ?_)
  refine Z_putF (k0 := 0) f_X2_36 qk_X2_7 rfl rfl dX2_init_61 rfl (Nat.le_of_ble_eq_true rfl) ?_
  show Zj (D, a, A, rzX2) mX2_init 64 [(0, .ref h0), (1, .ref r1)] [] [(h0, .inr (2, [.null, .ref q1, .ref q2, .ref q3, .ref q5, .ref q6, .ref q7, .ref q8, .null, .int 0, .int 0])), (q1, .inl (a.1, 290, .inl (fun _ => 0))), (q2, .inl (a.1, 3654, .inl (fun _ => 0))), (q3, .inr (6, [.ref q4, .int 0])), (q4, .inl (a.1, 58, .inl (fun _ => 0))), (q5, .inl (a.1, 28, .inl (fun _ => 0))), (q6, .inl (a.1, 4, .inl (fun _ => 0))), (q7, .inl (a.1, 4, .inl (fun _ => 0))), (q8, .inl (a.1, 4, .inl (fun _ => 0)))] 8 4044 _
  refine Z_al (q := 0) dX2_init_64 rfl rfl ?_
  refine Z_ic (v := (nI 4)) dX2_init_65 rfl ?_
  refine Z_nai (n := 4) wa_i (Nat.le_of_ble_eq_true rfl) (Nat.le_of_ble_eq_true rfl) (Nat.le_of_ble_eq_true rfl) dX2_init_66 (fun q9 => ?_)
  refine Z_putF (k0 := 0) f_X2_39 qk_X2_8 rfl rfl dX2_init_68 rfl (Nat.le_of_ble_eq_true rfl) ?_
  show Zj (D, a, A, rzX2) mX2_init 71 [(0, .ref h0), (1, .ref r1)] [] [(h0, .inr (2, [.null, .ref q1, .ref q2, .ref q3, .ref q5, .ref q6, .ref q7, .ref q8, .ref q9, .int 0, .int 0])), (q1, .inl (a.1, 290, .inl (fun _ => 0))), (q2, .inl (a.1, 3654, .inl (fun _ => 0))), (q3, .inr (6, [.ref q4, .int 0])), (q4, .inl (a.1, 58, .inl (fun _ => 0))), (q5, .inl (a.1, 28, .inl (fun _ => 0))), (q6, .inl (a.1, 4, .inl (fun _ => 0))), (q7, .inl (a.1, 4, .inl (fun _ => 0))), (q8, .inl (a.1, 4, .inl (fun _ => 0))), (q9, .inl (a.1, 4, .inl (fun _ => 0)))] 9 4048 _
  refine Z_al (q := 0) dX2_init_71 rfl rfl ?_
  refine Z_al (q := 1) dX2_init_72 rfl rfl ?_
  refine Z_putF (k0 := 0) f_X2_42 qk_X2_0 rfl rfl dX2_init_73 rfl (Nat.le_of_ble_eq_true rfl) ?_
  show Zj (D, a, A, rzX2) mX2_init 76 [(0, .ref h0), (1, .ref r1)] [] [(h0, .inr (2, [.ref r1, .ref q1, .ref q2, .ref q3, .ref q5, .ref q6, .ref q7, .ref q8, .ref q9, .int 0, .int 0])), (q1, .inl (a.1, 290, .inl (fun _ => 0))), (q2, .inl (a.1, 3654, .inl (fun _ => 0))), (q3, .inr (6, [.ref q4, .int 0])), (q4, .inl (a.1, 58, .inl (fun _ => 0))), (q5, .inl (a.1, 28, .inl (fun _ => 0))), (q6, .inl (a.1, 4, .inl (fun _ => 0))), (q7, .inl (a.1, 4, .inl (fun _ => 0))), (q8, .inl (a.1, 4, .inl (fun _ => 0))), (q9, .inl (a.1, 4, .inl (fun _ => 0)))] 9 4048 _
  exact Z_ret dX2_init_76 [0, 1, 2, 3, 4, 5, 6, 7, 8, 9] (w' := [(h0, .inr (2, [.ref r1, .ref q1, .ref q2, .ref q3, .ref q5, .ref q6, .ref q7, .ref q8, .ref q9, .int 0, .int 0])), (q1, .inl (a.1, 290, .inl (fun _ => 0))), (q2, .inl (a.1, 3654, .inl (fun _ => 0))), (q3, .inr (6, [.ref q4, .int 0])), (q4, .inl (a.1, 58, .inl (fun _ => 0))), (q5, .inl (a.1, 28, .inl (fun _ => 0))), (q6, .inl (a.1, 4, .inl (fun _ => 0))), (q7, .inl (a.1, 4, .inl (fun _ => 0))), (q8, .inl (a.1, 4, .inl (fun _ => 0))), (q9, .inl (a.1, 4, .inl (fun _ => 0)))]) rfl rfl (Nat.le_of_ble_eq_true rfl) (Nat.le_of_ble_eq_true rfl) ⟨q1, q2, q3, q4, q5, q6, q7, q8, q9, rfl⟩
set_option maxRecDepth 100000 in
set_option maxHeartbeats 4000000 in
theorem ct_X0_init (D : va_G) (a : ClassId × ClassId) (h0 r1 : Nat) : Ctor D a mX0_init (rzX0) [.ref h0, .ref r1] [(h0, .inr (0, [.null, .null]))] (fun w => ∃ q1 q2 : Nat, w = [(h0, .inr (0, [.ref r1, .ref q1])), (q1, .inr (6, [.ref q2, .int 0])), (q2, .inl (a.1, 192, .inl (fun _ => 0)))]) := by
  refine Ctor_of_Z (L := [(0, .ref h0), (1, .ref r1)]) (by decide) rfl rfl (Nat.le_of_ble_eq_true rfl) rfl (fun A => ?_)
  refine Z_al (q := 0) dX0_init_0 rfl rfl ?_
  refine Z_obj om_X0 (Nat.le_of_ble_eq_true rfl) (Nat.le_of_ble_eq_true rfl) dX0_init_1 w_objm w_objc ?_
  refine Z_al (q := 0) dX0_init_4 rfl rfl ?_
  refine Z_new (ci := 6) tyX6 rfl inX6 tyX6_ok cl_X0_9 it_X6 wc_X6 df_X6 (Nat.le_of_ble_eq_true rfl) (Nat.le_of_ble_eq_true rfl) dX0_init_5 (fun q1 => ?_)
  refine Z_dup dX0_init_8 rfl ?_
  refine Z_si (v := (nI 192)) dX0_init_9 rfl ?_
  refine Z_init (As := [.int (nI 192)]) (ct_X6_init D a q1 192 (Nat.le_of_ble_eq_true rfl)) cw_X6_init rfl ml_X0_11 wc_X6 wi_X6_init rfl nd_X6_init ⟨Nat.le_of_ble_eq_true rfl, Nat.le_of_ble_eq_true rfl⟩ [1] [0] (wr := [(h0, .inr (0, [.null, .null]))]) rfl rfl rfl rfl (by decide) rfl (Nat.le_of_ble_eq_true rfl) (Nat.le_of_ble_eq_true rfl) (Nat.le_of_ble_eq_true rfl) dX0_init_12 (fun w1 hw1 => ?_)
  obtain ⟨q2, rfl⟩ := hw1
  show Zj (D, a, A, rzX0) mX0_init 15 [(0, .ref h0), (1, .ref r1)] [.ref q1, .ref h0] [(h0, .inr (0, [.null, .null])), (q1, .inr (6, [.ref q2, .int 0])), (q2, .inl (a.1, 192, .inl (fun _ => 0)))] 2 194 _
  refine Z_putF (k0 := 0) f_X0_14 qk_X0_1 rfl rfl dX0_init_15 rfl (Nat.le_of_ble_eq_true rfl) ?_
  show Zj (D, a, A, rzX0) mX0_init 18 [(0, .ref h0), (1, .ref r1)] [] [(h0, .inr (0, [.null, .ref q1])), (q1, .inr (6, [.ref q2, .int 0])), (q2, .inl (a.1, 192, .inl (fun _ => 0)))] 2 194 _
  refine Z_al (q := 0) dX0_init_18 rfl rfl ?_
  refine Z_al (q := 1) dX0_init_19 rfl rfl ?_
  refine Z_putF (k0 := 0) f_X0_20 qk_X0_0 rfl rfl dX0_init_20 rfl (Nat.le_of_ble_eq_true rfl) ?_
  show Zj (D, a, A, rzX0) mX0_init 23 [(0, .ref h0), (1, .ref r1)] [] [(h0, .inr (0, [.ref r1, .ref q1])), (q1, .inr (6, [.ref q2, .int 0])), (q2, .inl (a.1, 192, .inl (fun _ => 0)))] 2 194 _
  exact Z_ret dX0_init_23 [0, 1, 2] (w' := [(h0, .inr (0, [.ref r1, .ref q1])), (q1, .inr (6, [.ref q2, .int 0])), (q2, .inl (a.1, 192, .inl (fun _ => 0)))]) rfl rfl (Nat.le_of_ble_eq_true rfl) (Nat.le_of_ble_eq_true rfl) ⟨q1, q2, rfl⟩
set_option maxRecDepth 100000 in
set_option maxHeartbeats 4000000 in
theorem ct_X9_init (D : va_G) (a : ClassId × ClassId) (h0 : Nat) : Ctor D a mX9_init (rzX9) [.ref h0] [(h0, .inr (9, [.null, .null, .null, .null, .null, .null, .null, .null, .null, .null, .null, .int 0]))] (fun w => ∃ q1 q2 q3 q4 q5 q6 q7 q8 q9 q10 q11 q12 q13 q14 q15 : Nat, w = [(h0, .inr (9, [.ref q1, .ref q2, .ref q3, .ref q4, .ref q5, .ref q6, .ref q7, .ref q8, .ref q9, .ref q10, .ref q11, .int 0])), (q1, .inl (a.1, 24, .inl (fun _ => 0))), (q2, .inl (a.1, 24, .inl (fun _ => 0))), (q3, .inl (a.1, 24, .inl (fun _ => 0))), (q4, .inl (a.1, 24, .inl (fun _ => 0))), (q5, .inl (a.1, 24, .inl (fun _ => 0))), (q6, .inl (a.1, 192, .inl (fun _ => 0))), (q7, .inl (a.1, 192, .inl (fun _ => 0))), (q8, .inl (a.1, 192, .inl (fun _ => 0))), (q9, .inl (a.1, 100, .inl (dk 100))), (q10, .inl (a.1, 100, .inl (fun _ => 0))), (q11, .inr (1, [.ref q12, .ref q13, .ref q14, .ref q15, .int 0, .int 0])), (q12, .inl (a.1, 60, .inl (fun _ => 0))), (q13, .inl (a.1, 60, .inl (fun _ => 0))), (q14, .inl (a.1, 60, .inl (fun _ => 0))), (q15, .inl (a.1, 60, .inl (fun _ => 0)))]) := by
  refine Ctor_of_Z (L := [(0, .ref h0)]) (by decide) rfl rfl (Nat.le_of_ble_eq_true rfl) rfl (fun A => ?_)
  refine Z_al (q := 0) dX9_init_0 rfl rfl ?_
  refine Z_obj om_X9 (Nat.le_of_ble_eq_true rfl) (Nat.le_of_ble_eq_true rfl) dX9_init_1 w_objm w_objc ?_
  refine Z_al (q := 0) dX9_init_4 rfl rfl ?_
  refine Z_bi (v := (nI 24)) dX9_init_5 rfl ?_
  refine Z_nai (n := 24) wa_i (Nat.le_of_ble_eq_true rfl) (Nat.le_of_ble_eq_true rfl) (Nat.le_of_ble_eq_true rfl) dX9_init_7 (fun q1 => ?_)
  refine Z_putF (k0 := 0) f_X9_9 qk_X9_0 rfl rfl dX9_init_9 rfl (Nat.le_of_ble_eq_true rfl) ?_
  show Zj (D, a, A, rzX9) mX9_init 12 [(0, .ref h0)] [] [(h0, .inr (9, [.ref q1, .null, .null, .null, .null, .null, .null, .null, .null, .null, .null, .int 0])), (q1, .inl (a.1, 24, .inl (fun _ => 0)))] 1 24 _
  refine Z_al (q := 0) dX9_init_12 rfl rfl ?_
  refine Z_bi (v := (nI 24)) dX9_init_13 rfl ?_
  refine Z_nai (n := 24) wa_i (Nat.le_of_ble_eq_true rfl) (Nat.le_of_ble_eq_true rfl) (Nat.le_of_ble_eq_true rfl) dX9_init_15 (fun q2 => ?_)
  refine Z_putF (k0 := 0) f_X9_15 qk_X9_1 rfl rfl dX9_init_17 rfl (Nat.le_of_ble_eq_true rfl) ?_
  show Zj (D, a, A, rzX9) mX9_init 20 [(0, .ref h0)] [] [(h0, .inr (9, [.ref q1, .ref q2, .null, .null, .null, .null, .null, .null, .null, .null, .null, .int 0])), (q1, .inl (a.1, 24, .inl (fun _ => 0))), (q2, .inl (a.1, 24, .inl (fun _ => 0)))] 2 48 _
  refine Z_al (q := 0) dX9_init_20 rfl rfl ?_
  refine Z_bi (v := (nI 24)) dX9_init_21 rfl ?_
  refine Z_nai (n := 24) wa_i (Nat.le_of_ble_eq_true rfl) (Nat.le_of_ble_eq_true rfl) (Nat.le_of_ble_eq_true rfl) dX9_init_23 (fun q3 => ?_)
  refine Z_putF (k0 := 0) f_X9_18 qk_X9_2 rfl rfl dX9_init_25 rfl (Nat.le_of_ble_eq_true rfl) ?_
  show Zj (D, a, A, rzX9) mX9_init 28 [(0, .ref h0)] [] [(h0, .inr (9, [.ref q1, .ref q2, .ref q3, .null, .null, .null, .null, .null, .null, .null, .null, .int 0])), (q1, .inl (a.1, 24, .inl (fun _ => 0))), (q2, .inl (a.1, 24, .inl (fun _ => 0))), (q3, .inl (a.1, 24, .inl (fun _ => 0)))] 3 72 _
  refine Z_al (q := 0) dX9_init_28 rfl rfl ?_
  refine Z_bi (v := (nI 24)) dX9_init_29 rfl ?_
  refine Z_nai (n := 24) wa_i (Nat.le_of_ble_eq_true rfl) (Nat.le_of_ble_eq_true rfl) (Nat.le_of_ble_eq_true rfl) dX9_init_31 (fun q4 => ?_)
  refine Z_putF (k0 := 0) f_X9_21 qk_X9_3 rfl rfl dX9_init_33 rfl (Nat.le_of_ble_eq_true rfl) ?_
  show Zj (D, a, A, rzX9) mX9_init 36 [(0, .ref h0)] [] [(h0, .inr (9, [.ref q1, .ref q2, .ref q3, .ref q4, .null, .null, .null, .null, .null, .null, .null, .int 0])), (q1, .inl (a.1, 24, .inl (fun _ => 0))), (q2, .inl (a.1, 24, .inl (fun _ => 0))), (q3, .inl (a.1, 24, .inl (fun _ => 0))), (q4, .inl (a.1, 24, .inl (fun _ => 0)))] 4 96 _
  refine Z_al (q := 0) dX9_init_36 rfl rfl ?_
  refine Z_bi (v := (nI 24)) dX9_init_37 rfl ?_
  refine Z_nai (n := 24) wa_i (Nat.le_of_ble_eq_true rfl) (Nat.le_of_ble_eq_true rfl) (Nat.le_of_ble_eq_true rfl) dX9_init_39 (fun q5 => ?_)
  refine Z_putF (k0 := 0) f_X9_24 qk_X9_4 rfl rfl dX9_init_41 rfl (Nat.le_of_ble_eq_true rfl) ?_
  show Zj (D, a, A, rzX9) mX9_init 44 [(0, .ref h0)] [] [(h0, .inr (9, [.ref q1, .ref q2, .ref q3, .ref q4, .ref q5, .null, .null, .null, .null, .null, .null, .int 0])), (q1, .inl (a.1, 24, .inl (fun _ => 0))), (q2, .inl (a.1, 24, .inl (fun _ => 0))), (q3, .inl (a.1, 24, .inl (fun _ => 0))), (q4, .inl (a.1, 24, .inl (fun _ => 0))), (q5, .inl (a.1, 24, .inl (fun _ => 0)))] 5 120 _
  refine Z_al (q := 0) dX9_init_44 rfl rfl ?_
  refine Z_si (v := (nI 192)) dX9_init_45 rfl ?_
  refine Z_nai (n := 192) wa_i (Nat.le_of_ble_eq_true rfl) (Nat.le_of_ble_eq_true rfl) (Nat.le_of_ble_eq_true rfl) dX9_init_48 (fun q6 => ?_)
  refine Z_putF (k0 := 0) f_X9_27 qk_X9_5 rfl rfl dX9_init_50 rfl (Nat.le_of_ble_eq_true rfl) ?_
  show Zj (D, a, A, rzX9) mX9_init 53 [(0, .ref h0)] [] [(h0, .inr (9, [.ref q1, .ref q2, .ref q3, .ref q4, .ref q5, .ref q6, .null, .null, .null, .null, .null, .int 0])), (q1, .inl (a.1, 24, .inl (fun _ => 0))), (q2, .inl (a.1, 24, .inl (fun _ => 0))), (q3, .inl (a.1, 24, .inl (fun _ => 0))), (q4, .inl (a.1, 24, .inl (fun _ => 0))), (q5, .inl (a.1, 24, .inl (fun _ => 0))), (q6, .inl (a.1, 192, .inl (fun _ => 0)))] 6 312 _
  refine Z_al (q := 0) dX9_init_53 rfl rfl ?_
  refine Z_si (v := (nI 192)) dX9_init_54 rfl ?_
  refine Z_nai (n := 192) wa_i (Nat.le_of_ble_eq_true rfl) (Nat.le_of_ble_eq_true rfl) (Nat.le_of_ble_eq_true rfl) dX9_init_57 (fun q7 => ?_)
  refine Z_putF (k0 := 0) f_X9_30 qk_X9_6 rfl rfl dX9_init_59 rfl (Nat.le_of_ble_eq_true rfl) ?_
  show Zj (D, a, A, rzX9) mX9_init 62 [(0, .ref h0)] [] [(h0, .inr (9, [.ref q1, .ref q2, .ref q3, .ref q4, .ref q5, .ref q6, .ref q7, .null, .null, .null, .null, .int 0])), (q1, .inl (a.1, 24, .inl (fun _ => 0))), (q2, .inl (a.1, 24, .inl (fun _ => 0))), (q3, .inl (a.1, 24, .inl (fun _ => 0))), (q4, .inl (a.1, 24, .inl (fun _ => 0))), (q5, .inl (a.1, 24, .inl (fun _ => 0))), (q6, .inl (a.1, 192, .inl (fun _ => 0))), (q7, .inl (a.1, 192, .inl (fun _ => 0)))] 7 504 _
  refine Z_al (q := 0) dX9_init_62 rfl rfl ?_
  refine Z_si (v := (nI 192)) dX9_init_63 rfl ?_
  refine Z_nai (n := 192) wa_i (Nat.le_of_ble_eq_true rfl) (Nat.le_of_ble_eq_true rfl) (Nat.le_of_ble_eq_true rfl) dX9_init_66 (fun q8 => ?_)
  refine Z_putF (k0 := 0) f_X9_33 qk_X9_7 rfl rfl dX9_init_68 rfl (Nat.le_of_ble_eq_true rfl) ?_
  show Zj (D, a, A, rzX9) mX9_init 71 [(0, .ref h0)] [] [(h0, .inr (9, [.ref q1, .ref q2, .ref q3, .ref q4, .ref q5, .ref q6, .ref q7, .ref q8, .null, .null, .null, .int 0])), (q1, .inl (a.1, 24, .inl (fun _ => 0))), (q2, .inl (a.1, 24, .inl (fun _ => 0))), (q3, .inl (a.1, 24, .inl (fun _ => 0))), (q4, .inl (a.1, 24, .inl (fun _ => 0))), (q5, .inl (a.1, 24, .inl (fun _ => 0))), (q6, .inl (a.1, 192, .inl (fun _ => 0))), (q7, .inl (a.1, 192, .inl (fun _ => 0))), (q8, .inl (a.1, 192, .inl (fun _ => 0)))] 8 696 _
  refine Z_al (q := 0) dX9_init_71 rfl rfl ?_
  refine Z_bi (v := (nI 100)) dX9_init_72 rfl ?_
  refine Z_nai (n := 100) wa_i (Nat.le_of_ble_eq_true rfl) (Nat.le_of_ble_eq_true rfl) (Nat.le_of_ble_eq_true rfl) dX9_init_74 (fun q9 => ?_)
  refine Z_putF (k0 := 0) f_X9_36 qk_X9_8 rfl rfl dX9_init_76 rfl (Nat.le_of_ble_eq_true rfl) ?_
  show Zj (D, a, A, rzX9) mX9_init 79 [(0, .ref h0)] [] [(h0, .inr (9, [.ref q1, .ref q2, .ref q3, .ref q4, .ref q5, .ref q6, .ref q7, .ref q8, .ref q9, .null, .null, .int 0])), (q1, .inl (a.1, 24, .inl (fun _ => 0))), (q2, .inl (a.1, 24, .inl (fun _ => 0))), (q3, .inl (a.1, 24, .inl (fun _ => 0))), (q4, .inl (a.1, 24, .inl (fun _ => 0))), (q5, .inl (a.1, 24, .inl (fun _ => 0))), (q6, .inl (a.1, 192, .inl (fun _ => 0))), (q7, .inl (a.1, 192, .inl (fun _ => 0))), (q8, .inl (a.1, 192, .inl (fun _ => 0))), (q9, .inl (a.1, 100, .inl (fun _ => 0)))] 9 796 _
  refine Z_al (q := 0) dX9_init_79 rfl rfl ?_
  refine Z_bi (v := (nI 100)) dX9_init_80 rfl ?_
  refine Z_nai (n := 100) wa_i (Nat.le_of_ble_eq_true rfl) (Nat.le_of_ble_eq_true rfl) (Nat.le_of_ble_eq_true rfl) dX9_init_82 (fun q10 => ?_)
  refine Z_putF (k0 := 0) f_X9_39 qk_X9_9 rfl rfl dX9_init_84 rfl (Nat.le_of_ble_eq_true rfl) ?_
  show Zj (D, a, A, rzX9) mX9_init 87 [(0, .ref h0)] [] [(h0, .inr (9, [.ref q1, .ref q2, .ref q3, .ref q4, .ref q5, .ref q6, .ref q7, .ref q8, .ref q9, .ref q10, .null, .int 0])), (q1, .inl (a.1, 24, .inl (fun _ => 0))), (q2, .inl (a.1, 24, .inl (fun _ => 0))), (q3, .inl (a.1, 24, .inl (fun _ => 0))), (q4, .inl (a.1, 24, .inl (fun _ => 0))), (q5, .inl (a.1, 24, .inl (fun _ => 0))), (q6, .inl (a.1, 192, .inl (fun _ => 0))), (q7, .inl (a.1, 192, .inl (fun _ => 0))), (q8, .inl (a.1, 192, .inl (fun _ => 0))), (q9, .inl (a.1, 100, .inl (fun _ => 0))), (q10, .inl (a.1, 100, .inl (fun _ => 0)))] 10 896 _
  refine Z_al (q := 0) dX9_init_87 rfl rfl ?_
  refine Z_new (ci := 1) tyX1 rfl inX1 tyX1_ok cl_X9_42 it_X1 wc_X1 df_X1 (Nat.le_of_ble_eq_true rfl) (Nat.le_of_ble_eq_true rfl) dX9_init_88 (fun q11 => ?_)
  refine Z_dup dX9_init_91 rfl ?_
  refine Z_initN (As := []) (ct_X1_init D a q11) cw_X1_init rfl (fun U hU => hU.2.2.2.2.1) wc_X1 wi_X1_init rfl nd_X1_init ⟨Nat.le_of_ble_eq_true rfl, Nat.le_of_ble_eq_true rfl⟩ [11] [0, 1, 2, 3, 4, 5, 6, 7, 8, 9, 10] (wr := [(h0, .inr (9, [.ref q1, .ref q2, .ref q3, .ref q4, .ref q5, .ref q6, .ref q7, .ref q8, .ref q9, .ref q10, .null, .int 0])), (q1, .inl (a.1, 24, .inl (fun _ => 0))), (q2, .inl (a.1, 24, .inl (fun _ => 0))), (q3, .inl (a.1, 24, .inl (fun _ => 0))), (q4, .inl (a.1, 24, .inl (fun _ => 0))), (q5, .inl (a.1, 24, .inl (fun _ => 0))), (q6, .inl (a.1, 192, .inl (fun _ => 0))), (q7, .inl (a.1, 192, .inl (fun _ => 0))), (q8, .inl (a.1, 192, .inl (fun _ => 0))), (q9, .inl (a.1, 100, .inl (fun _ => 0))), (q10, .inl (a.1, 100, .inl (fun _ => 0)))]) rfl rfl rfl rfl (by decide) rfl (Nat.le_of_ble_eq_true rfl) (Nat.le_of_ble_eq_true rfl) (Nat.le_of_ble_eq_true rfl) dX9_init_92 (fun w1 hw1 => ?_)
  obtain ⟨q12, q13, q14, q15, rfl⟩ := hw1
  show Zj (D, a, A, rzX9) mX9_init 95 [(0, .ref h0)] [.ref q11, .ref h0] [(h0, .inr (9, [.ref q1, .ref q2, .ref q3, .ref q4, .ref q5, .ref q6, .ref q7, .ref q8, .ref q9, .ref q10, .null, .int 0])), (q1, .inl (a.1, 24, .inl (fun _ => 0))), (q2, .inl (a.1, 24, .inl (fun _ => 0))), (q3, .inl (a.1, 24, .inl (fun _ => 0))), (q4, .inl (a.1, 24, .inl (fun _ => 0))), (q5, .inl (a.1, 24, .inl (fun _ => 0))), (q6, .inl (a.1, 192, .inl (fun _ => 0))), (q7, .inl (a.1, 192, .inl (fun _ => 0))), (q8, .inl (a.1, 192, .inl (fun _ => 0))), (q9, .inl (a.1, 100, .inl (fun _ => 0))), (q10, .inl (a.1, 100, .inl (fun _ => 0))), (q11, .inr (1, [.ref q12, .ref q13, .ref q14, .ref q15, .int 0, .int 0])), (q12, .inl (a.1, 60, .inl (fun _ => 0))), (q13, .inl (a.1, 60, .inl (fun _ => 0))), (q14, .inl (a.1, 60, .inl (fun _ => 0))), (q15, .inl (a.1, 60, .inl (fun _ => 0)))] 15 1142 _
  refine Z_putF (k0 := 0) f_X9_45 qk_X9_10 rfl rfl dX9_init_95 rfl (Nat.le_of_ble_eq_true rfl) ?_
  show Zj (D, a, A, rzX9) mX9_init 98 [(0, .ref h0)] [] [(h0, .inr (9, [.ref q1, .ref q2, .ref q3, .ref q4, .ref q5, .ref q6, .ref q7, .ref q8, .ref q9, .ref q10, .ref q11, .int 0])), (q1, .inl (a.1, 24, .inl (fun _ => 0))), (q2, .inl (a.1, 24, .inl (fun _ => 0))), (q3, .inl (a.1, 24, .inl (fun _ => 0))), (q4, .inl (a.1, 24, .inl (fun _ => 0))), (q5, .inl (a.1, 24, .inl (fun _ => 0))), (q6, .inl (a.1, 192, .inl (fun _ => 0))), (q7, .inl (a.1, 192, .inl (fun _ => 0))), (q8, .inl (a.1, 192, .inl (fun _ => 0))), (q9, .inl (a.1, 100, .inl (fun _ => 0))), (q10, .inl (a.1, 100, .inl (fun _ => 0))), (q11, .inr (1, [.ref q12, .ref q13, .ref q14, .ref q15, .int 0, .int 0])), (q12, .inl (a.1, 60, .inl (fun _ => 0))), (q13, .inl (a.1, 60, .inl (fun _ => 0))), (q14, .inl (a.1, 60, .inl (fun _ => 0))), (q15, .inl (a.1, 60, .inl (fun _ => 0)))] 15 1142 _
  refine Z_ic (v := (nI 0)) dX9_init_98 rfl ?_
  refine Z_is (L' := [(0, .ref h0), (1, .int (nI 0))]) dX9_init_99 rfl (by decide) rfl rfl ?_
  have lp : ∀ n d, d + n = 100 → Zj (D, a, A, rzX9) mX9_init 100 [(0, .ref h0), (1, .int (nI d))] [] [(h0, .inr (9, [.ref q1, .ref q2, .ref q3, .ref q4, .ref q5, .ref q6, .ref q7, .ref q8, .ref q9, .ref q10, .ref q11, .int 0])), (q1, .inl (a.1, 24, .inl (fun _ => 0))), (q2, .inl (a.1, 24, .inl (fun _ => 0))), (q3, .inl (a.1, 24, .inl (fun _ => 0))), (q4, .inl (a.1, 24, .inl (fun _ => 0))), (q5, .inl (a.1, 24, .inl (fun _ => 0))), (q6, .inl (a.1, 192, .inl (fun _ => 0))), (q7, .inl (a.1, 192, .inl (fun _ => 0))), (q8, .inl (a.1, 192, .inl (fun _ => 0))), (q9, .inl (a.1, 100, .inl (dk d))), (q10, .inl (a.1, 100, .inl (fun _ => 0))), (q11, .inr (1, [.ref q12, .ref q13, .ref q14, .ref q15, .int 0, .int 0])), (q12, .inl (a.1, 60, .inl (fun _ => 0))), (q13, .inl (a.1, 60, .inl (fun _ => 0))), (q14, .inl (a.1, 60, .inl (fun _ => 0))), (q15, .inl (a.1, 60, .inl (fun _ => 0)))] 15 1142 (fun w => ∃ q1 q2 q3 q4 q5 q6 q7 q8 q9 q10 q11 q12 q13 q14 q15 : Nat, w = [(h0, .inr (9, [.ref q1, .ref q2, .ref q3, .ref q4, .ref q5, .ref q6, .ref q7, .ref q8, .ref q9, .ref q10, .ref q11, .int 0])), (q1, .inl (a.1, 24, .inl (fun _ => 0))), (q2, .inl (a.1, 24, .inl (fun _ => 0))), (q3, .inl (a.1, 24, .inl (fun _ => 0))), (q4, .inl (a.1, 24, .inl (fun _ => 0))), (q5, .inl (a.1, 24, .inl (fun _ => 0))), (q6, .inl (a.1, 192, .inl (fun _ => 0))), (q7, .inl (a.1, 192, .inl (fun _ => 0))), (q8, .inl (a.1, 192, .inl (fun _ => 0))), (q9, .inl (a.1, 100, .inl (dk 100))), (q10, .inl (a.1, 100, .inl (fun _ => 0))), (q11, .inr (1, [.ref q12, .ref q13, .ref q14, .ref q15, .int 0, .int 0])), (q12, .inl (a.1, 60, .inl (fun _ => 0))), (q13, .inl (a.1, 60, .inl (fun _ => 0))), (q14, .inl (a.1, 60, .inl (fun _ => 0))), (q15, .inl (a.1, 60, .inl (fun _ => 0)))]) := by
    intro n
    induction n with
    | zero =>
      intro d ed
      refine Z_il (q := 1) dX9_init_100 rfl rfl ?_
      refine Z_bi (v := nI 100) dX9_init_101 rfl ?_
      refine Z_ge (tgt := 122) dX9_init_103 (by decide) (fun c1 => ?_) (fun c1 => ?_)
      · rw [show d = 100 by omega]
        exact Z_ret dX9_init_122 [0, 1, 2, 3, 4, 5, 6, 7, 8, 9, 10, 11, 12, 13, 14, 15] (w' := [(h0, .inr (9, [.ref q1, .ref q2, .ref q3, .ref q4, .ref q5, .ref q6, .ref q7, .ref q8, .ref q9, .ref q10, .ref q11, .int 0])), (q1, .inl (a.1, 24, .inl (fun _ => 0))), (q2, .inl (a.1, 24, .inl (fun _ => 0))), (q3, .inl (a.1, 24, .inl (fun _ => 0))), (q4, .inl (a.1, 24, .inl (fun _ => 0))), (q5, .inl (a.1, 24, .inl (fun _ => 0))), (q6, .inl (a.1, 192, .inl (fun _ => 0))), (q7, .inl (a.1, 192, .inl (fun _ => 0))), (q8, .inl (a.1, 192, .inl (fun _ => 0))), (q9, .inl (a.1, 100, .inl (dk 100))), (q10, .inl (a.1, 100, .inl (fun _ => 0))), (q11, .inr (1, [.ref q12, .ref q13, .ref q14, .ref q15, .int 0, .int 0])), (q12, .inl (a.1, 60, .inl (fun _ => 0))), (q13, .inl (a.1, 60, .inl (fun _ => 0))), (q14, .inl (a.1, 60, .inl (fun _ => 0))), (q15, .inl (a.1, 60, .inl (fun _ => 0)))]) rfl rfl (Nat.le_of_ble_eq_true rfl) (Nat.le_of_ble_eq_true rfl) ⟨q1, q2, q3, q4, q5, q6, q7, q8, q9, q10, q11, q12, q13, q14, q15, rfl⟩
      · exact absurd ((leI (by omega) (by omega)).mpr (by omega)) c1
    | succ n ih =>
      intro d ed
      refine Z_il (q := 1) dX9_init_100 rfl rfl ?_
      refine Z_bi (v := nI 100) dX9_init_101 rfl ?_
      refine Z_ge (tgt := 122) dX9_init_103 (by decide) (fun c1 => ?_) (fun c1 => ?_)
      · exact absurd ((leI (by omega) (by omega)).mp c1) (by omega)
      · refine Z_al (q := 0) dX9_init_106 rfl rfl ?_
        refine Z_get (k0 := 0) (v := .ref q9) f_X9_36 dX9_init_107 rfl rfl ?_
        refine Z_il (q := 1) dX9_init_110 rfl rfl ?_
        refine Z_il (q := 1) dX9_init_111 rfl rfl ?_
        refine Z_bi (v := nI 7) dX9_init_112 rfl ?_
        refine Z_irem dX9_init_114 (by decide) ?_
        refine Z_ias (k0 := 9) (n := 100) (f := dk d) dX9_init_115 rfl (in_nI (by omega) (by decide)) ?_
        refine Z_iinc (q := 1) (a := 1) (L' := [(0, .ref h0), (1, .int (nI d + 1))]) dX9_init_116 rfl rfl (by decide) rfl rfl ?_
        refine Z_goto (tgt := 100) dX9_init_119 (by decide) ?_
        have ih := ih (d + 1) (by omega)
        rw [← dk_s (show d < 100 by omega), ← nI_1] at ih
        exact ih
  have l0 := lp 100 0 rfl
  rw [dk_0] at l0
  exact l0
