/-! ===== constructors: the words ===== -/
def dk (d : Nat) : Nat → Int32 := fun j => if j < d then nI (j % 7) else 0
theorem dk_0 : dk 0 = fun _ => 0 := by
  funext j
  unfold dk
  rw [if_neg (Nat.not_lt_zero _)]
theorem dk_s {d : Nat} (h : d < 100) : upd (dk d) (tn (nI d)) (nI d - nI d / nI 7 * nI 7) = dk (d + 1) := by
  funext j
  rw [tnI (by omega), pk_rem (by omega) (by decide) (by decide)]
  unfold upd dk
  by_cases c : j = d
  · rw [if_pos c, if_pos (by omega), c]
  · rw [if_neg c]
    by_cases c2 : j < d
    · rw [if_pos c2, if_pos (by omega)]
    · rw [if_neg c2, if_neg (by omega)]
theorem mx0 {n : Nat} (h : n < 100000) : (if nI 0 < nI n then nI n else nI 0) = nI n := by
  by_cases c : nI 0 < nI n
  · rw [if_pos c]
  · rw [if_neg c]
    rw [ltI (by omega) (by omega)] at c
    rw [show n = 0 by omega]
theorem w_objm : Cond.instanceMethod objectInit ∈ lwg := lwg_at 80 (by decide +kernel) rfl
theorem w_objc : Cond.code objectInit ⟨#[0xb1]⟩ 1 none ∈ lwg := lwg_at 81 (by decide +kernel) rfl
theorem wa_i : Cond.arrayClass .int ∈ lwg := lwg_at 108 (by decide +kernel) rfl
theorem wa_b : Cond.arrayClass .boolean ∈ lwg := lwg_at 312 (by decide +kernel) rfl
abbrev mX7_init : MI := (yX7_init, cX7_init, 1, none, 0, 0)
theorem om_X7 : Cond.methodLink RX7 3 objectInit ∈ lwg := lwg_at 87 (by decide +kernel) rfl
theorem qk_X7_0 : QOK RX7 TX7 4 0 (tyX7 0) := ⟨tyX7, tyX7_ok, nmX7, rfl, rfl, tyX7_ok 0 (by decide)⟩
theorem qk_X7_1 : QOK RX7 TX7 4 1 (tyX7 1) := ⟨tyX7, tyX7_ok, nmX7, rfl, rfl, tyX7_ok 1 (by decide)⟩
theorem qk_X7_2 : QOK RX7 TX7 4 2 (tyX7 2) := ⟨tyX7, tyX7_ok, nmX7, rfl, rfl, tyX7_ok 2 (by decide)⟩
abbrev rzX7 : Room := { frames := 1, cells := 3, slots := 40, locals := 12 }
abbrev mX1_init : MI := (yX1_init, cX1_init, 1, none, 0, 0)
theorem om_X1 : Cond.methodLink RX1 3 objectInit ∈ lwg := lwg_at 120 (by decide +kernel) rfl
theorem qk_X1_0 : QOK RX1 TX1 6 0 (tyX1 0) := ⟨tyX1, tyX1_ok, nmX1, rfl, rfl, tyX1_ok 0 (by decide)⟩
theorem qk_X1_1 : QOK RX1 TX1 6 1 (tyX1 1) := ⟨tyX1, tyX1_ok, nmX1, rfl, rfl, tyX1_ok 1 (by decide)⟩
theorem qk_X1_2 : QOK RX1 TX1 6 2 (tyX1 2) := ⟨tyX1, tyX1_ok, nmX1, rfl, rfl, tyX1_ok 2 (by decide)⟩
theorem qk_X1_3 : QOK RX1 TX1 6 3 (tyX1 3) := ⟨tyX1, tyX1_ok, nmX1, rfl, rfl, tyX1_ok 3 (by decide)⟩
abbrev rzX1 : Room := { frames := 1, cells := 4, slots := 240, locals := 12 }
abbrev mX10_init : MI := (yX10_init, cX10_init, 1, none, 0, 0)
theorem om_X10 : Cond.methodLink RX10 3 objectInit ∈ lwg := lwg_at 210 (by decide +kernel) rfl
theorem qk_X10_0 : QOK RX10 TX10 9 0 (tyX10 0) := ⟨tyX10, tyX10_ok, nmX10, rfl, rfl, tyX10_ok 0 (by decide)⟩
theorem qk_X10_1 : QOK RX10 TX10 9 1 (tyX10 1) := ⟨tyX10, tyX10_ok, nmX10, rfl, rfl, tyX10_ok 1 (by decide)⟩
theorem qk_X10_2 : QOK RX10 TX10 9 2 (tyX10 2) := ⟨tyX10, tyX10_ok, nmX10, rfl, rfl, tyX10_ok 2 (by decide)⟩
theorem qk_X10_3 : QOK RX10 TX10 9 3 (tyX10 3) := ⟨tyX10, tyX10_ok, nmX10, rfl, rfl, tyX10_ok 3 (by decide)⟩
theorem qk_X10_4 : QOK RX10 TX10 9 4 (tyX10 4) := ⟨tyX10, tyX10_ok, nmX10, rfl, rfl, tyX10_ok 4 (by decide)⟩
theorem qk_X10_5 : QOK RX10 TX10 9 5 (tyX10 5) := ⟨tyX10, tyX10_ok, nmX10, rfl, rfl, tyX10_ok 5 (by decide)⟩
theorem qk_X10_6 : QOK RX10 TX10 9 6 (tyX10 6) := ⟨tyX10, tyX10_ok, nmX10, rfl, rfl, tyX10_ok 6 (by decide)⟩
theorem qk_X10_7 : QOK RX10 TX10 9 7 (tyX10 7) := ⟨tyX10, tyX10_ok, nmX10, rfl, rfl, tyX10_ok 7 (by decide)⟩
abbrev rzX10 : Room := { frames := 1, cells := 8, slots := 160, locals := 12 }
abbrev mX3_init : MI := (yX3_init, cX3_init, 1, none, 0, 0)
theorem om_X3 : Cond.methodLink RX3 3 objectInit ∈ lwg := lwg_at 253 (by decide +kernel) rfl
theorem qk_X3_0 : QOK RX3 TX3 3 0 (tyX3 0) := ⟨tyX3, tyX3_ok, nmX3, rfl, rfl, tyX3_ok 0 (by decide)⟩
theorem qk_X3_1 : QOK RX3 TX3 3 1 (tyX3 1) := ⟨tyX3, tyX3_ok, nmX3, rfl, rfl, tyX3_ok 1 (by decide)⟩
abbrev rzX3 : Room := { frames := 1, cells := 2, slots := 810, locals := 12 }
abbrev mX8_init : MI := (yX8_init, cX8_init, 5, none, 0, 0)
theorem om_X8 : Cond.methodLink RX8 3 objectInit ∈ lwg := lwg_at 269 (by decide +kernel) rfl
theorem qk_X8_4 : QOK RX8 TX8 13 4 (tyX8 4) := ⟨tyX8, tyX8_ok, nmX8, rfl, rfl, tyX8_ok 4 (by decide)⟩
theorem qk_X8_5 : QOK RX8 TX8 13 5 (tyX8 5) := ⟨tyX8, tyX8_ok, nmX8, rfl, rfl, tyX8_ok 5 (by decide)⟩
theorem qk_X8_6 : QOK RX8 TX8 13 6 (tyX8 6) := ⟨tyX8, tyX8_ok, nmX8, rfl, rfl, tyX8_ok 6 (by decide)⟩
theorem qk_X8_7 : QOK RX8 TX8 13 7 (tyX8 7) := ⟨tyX8, tyX8_ok, nmX8, rfl, rfl, tyX8_ok 7 (by decide)⟩
theorem qk_X8_8 : QOK RX8 TX8 13 8 (tyX8 8) := ⟨tyX8, tyX8_ok, nmX8, rfl, rfl, tyX8_ok 8 (by decide)⟩
theorem qk_X8_9 : QOK RX8 TX8 13 9 (tyX8 9) := ⟨tyX8, tyX8_ok, nmX8, rfl, rfl, tyX8_ok 9 (by decide)⟩
theorem qk_X8_10 : QOK RX8 TX8 13 10 (tyX8 10) := ⟨tyX8, tyX8_ok, nmX8, rfl, rfl, tyX8_ok 10 (by decide)⟩
theorem qk_X8_0 : QOK RX8 TX8 13 0 (tyX8 0) := ⟨tyX8, tyX8_ok, nmX8, rfl, rfl, tyX8_ok 0 (by decide)⟩
theorem qk_X8_1 : QOK RX8 TX8 13 1 (tyX8 1) := ⟨tyX8, tyX8_ok, nmX8, rfl, rfl, tyX8_ok 1 (by decide)⟩
theorem qk_X8_2 : QOK RX8 TX8 13 2 (tyX8 2) := ⟨tyX8, tyX8_ok, nmX8, rfl, rfl, tyX8_ok 2 (by decide)⟩
theorem qk_X8_3 : QOK RX8 TX8 13 3 (tyX8 3) := ⟨tyX8, tyX8_ok, nmX8, rfl, rfl, tyX8_ok 3 (by decide)⟩
abbrev rzX8 : Room := { frames := 1, cells := 7, slots := 930, locals := 12 }
abbrev mX4_init : MI := (yX4_init, cX4_init, 3, none, 0, 0)
theorem om_X4 : Cond.methodLink RX4 3 objectInit ∈ lwg := lwg_at 318 (by decide +kernel) rfl
theorem qk_X4_0 : QOK RX4 TX4 9 0 (tyX4 0) := ⟨tyX4, tyX4_ok, nmX4, rfl, rfl, tyX4_ok 0 (by decide)⟩
theorem qk_X4_1 : QOK RX4 TX4 9 1 (tyX4 1) := ⟨tyX4, tyX4_ok, nmX4, rfl, rfl, tyX4_ok 1 (by decide)⟩
theorem qk_X4_2 : QOK RX4 TX4 9 2 (tyX4 2) := ⟨tyX4, tyX4_ok, nmX4, rfl, rfl, tyX4_ok 2 (by decide)⟩
theorem qk_X4_3 : QOK RX4 TX4 9 3 (tyX4 3) := ⟨tyX4, tyX4_ok, nmX4, rfl, rfl, tyX4_ok 3 (by decide)⟩
theorem qk_X4_4 : QOK RX4 TX4 9 4 (tyX4 4) := ⟨tyX4, tyX4_ok, nmX4, rfl, rfl, tyX4_ok 4 (by decide)⟩
theorem qk_X4_7 : QOK RX4 TX4 9 7 (tyX4 7) := ⟨tyX4, tyX4_ok, nmX4, rfl, rfl, tyX4_ok 7 (by decide)⟩
theorem qk_X4_8 : QOK RX4 TX4 9 8 (tyX4 8) := ⟨tyX4, tyX4_ok, nmX4, rfl, rfl, tyX4_ok 8 (by decide)⟩
abbrev rzX4 : Room := { frames := 1, cells := 5, slots := 2508, locals := 12 }
abbrev mX5_init : MI := (yX5_init, cX5_init, 5, none, 0, 0)
theorem om_X5 : Cond.methodLink RX5 3 objectInit ∈ lwg := lwg_at 364 (by decide +kernel) rfl
theorem qk_X5_4 : QOK RX5 TX5 11 4 (tyX5 4) := ⟨tyX5, tyX5_ok, nmX5, rfl, rfl, tyX5_ok 4 (by decide)⟩
theorem qk_X5_5 : QOK RX5 TX5 11 5 (tyX5 5) := ⟨tyX5, tyX5_ok, nmX5, rfl, rfl, tyX5_ok 5 (by decide)⟩
theorem qk_X5_6 : QOK RX5 TX5 11 6 (tyX5 6) := ⟨tyX5, tyX5_ok, nmX5, rfl, rfl, tyX5_ok 6 (by decide)⟩
theorem qk_X5_7 : QOK RX5 TX5 11 7 (tyX5 7) := ⟨tyX5, tyX5_ok, nmX5, rfl, rfl, tyX5_ok 7 (by decide)⟩
theorem qk_X5_8 : QOK RX5 TX5 11 8 (tyX5 8) := ⟨tyX5, tyX5_ok, nmX5, rfl, rfl, tyX5_ok 8 (by decide)⟩
theorem qk_X5_0 : QOK RX5 TX5 11 0 (tyX5 0) := ⟨tyX5, tyX5_ok, nmX5, rfl, rfl, tyX5_ok 0 (by decide)⟩
theorem qk_X5_1 : QOK RX5 TX5 11 1 (tyX5 1) := ⟨tyX5, tyX5_ok, nmX5, rfl, rfl, tyX5_ok 1 (by decide)⟩
theorem qk_X5_2 : QOK RX5 TX5 11 2 (tyX5 2) := ⟨tyX5, tyX5_ok, nmX5, rfl, rfl, tyX5_ok 2 (by decide)⟩
theorem qk_X5_3 : QOK RX5 TX5 11 3 (tyX5 3) := ⟨tyX5, tyX5_ok, nmX5, rfl, rfl, tyX5_ok 3 (by decide)⟩
abbrev rzX5 : Room := { frames := 1, cells := 5, slots := 1084, locals := 12 }
abbrev mX6_init : MI := (yX6_init, cX6_init, 2, none, 0, 0)
theorem om_X6 : Cond.methodLink RX6 1 objectInit ∈ lwg := lwg_at 416 (by decide +kernel) rfl
theorem l_X6_7 : Cond.methodLink RX6 7 Lib.Math.max.name ∈ lwg := lwg_at 417 (by decide +kernel) rfl
theorem qk_X6_0 : QOK RX6 TX6 2 0 (tyX6 0) := ⟨tyX6, tyX6_ok, nmX6, rfl, rfl, tyX6_ok 0 (by decide)⟩
abbrev rzX6 (n : Nat) : Room := { frames := 1, cells := 1, slots := n, locals := 14 }
abbrev mX2_init : MI := (yX2_init, cX2_init, 2, none, 0, 0)
theorem om_X2 : Cond.methodLink RX2 3 objectInit ∈ lwg := lwg_at 410 (by decide +kernel) rfl
theorem qk_X2_1 : QOK RX2 TX2 11 1 (tyX2 1) := ⟨tyX2, tyX2_ok, nmX2, rfl, rfl, tyX2_ok 1 (by decide)⟩
theorem qk_X2_2 : QOK RX2 TX2 11 2 (tyX2 2) := ⟨tyX2, tyX2_ok, nmX2, rfl, rfl, tyX2_ok 2 (by decide)⟩
theorem cl_X2_18 : Cond.classLink RX2 18 RX6 ∈ lwg := lwg_at 411 (by decide +kernel) rfl
theorem it_X6 : Cond.instantiable RX6 2 ∈ lwg := lwg_at 412 (by decide +kernel) rfl
theorem df_X6 : ∀ j, j < 2 → defaultValue (tyX6 j) = vp_V [.null, .int 0] j := by decide +kernel
theorem cw_X6_init : cwO mX6_init ∈ lwg := lwg_at 415 (by decide +kernel) rfl
theorem nd_X6_init : yX6_init.cls ≠ "java/lang/invoke/MethodHandle" ∧ yX6_init.cls ≠ "java/lang/invoke/VarHandle" ∧ (parseMethodDescriptor yX6_init.desc).map (fun d => d.parameters.length) = some 1 := by decide +kernel
theorem wi_X6_init : Cond.instanceMethod yX6_init ∈ lwg := lwg_at 414 (by decide +kernel) rfl
theorem ml_X2_20 : Cond.methodLink RX2 20 yX6_init ∈ lwg := lwg_at 413 (by decide +kernel) rfl
theorem qk_X2_3 : QOK RX2 TX2 11 3 (tyX2 3) := ⟨tyX2, tyX2_ok, nmX2, rfl, rfl, tyX2_ok 3 (by decide)⟩
theorem qk_X2_4 : QOK RX2 TX2 11 4 (tyX2 4) := ⟨tyX2, tyX2_ok, nmX2, rfl, rfl, tyX2_ok 4 (by decide)⟩
theorem qk_X2_5 : QOK RX2 TX2 11 5 (tyX2 5) := ⟨tyX2, tyX2_ok, nmX2, rfl, rfl, tyX2_ok 5 (by decide)⟩
theorem qk_X2_6 : QOK RX2 TX2 11 6 (tyX2 6) := ⟨tyX2, tyX2_ok, nmX2, rfl, rfl, tyX2_ok 6 (by decide)⟩
theorem qk_X2_7 : QOK RX2 TX2 11 7 (tyX2 7) := ⟨tyX2, tyX2_ok, nmX2, rfl, rfl, tyX2_ok 7 (by decide)⟩
theorem qk_X2_8 : QOK RX2 TX2 11 8 (tyX2 8) := ⟨tyX2, tyX2_ok, nmX2, rfl, rfl, tyX2_ok 8 (by decide)⟩
theorem qk_X2_0 : QOK RX2 TX2 11 0 (tyX2 0) := ⟨tyX2, tyX2_ok, nmX2, rfl, rfl, tyX2_ok 0 (by decide)⟩
abbrev rzX2 : Room := { frames := 2, cells := 9, slots := 4048, locals := 35 }
abbrev mX0_init : MI := (yX0_init, cX0_init, 2, none, 0, 0)
theorem om_X0 : Cond.methodLink RX0 3 objectInit ∈ lwg := lwg_at 470 (by decide +kernel) rfl
theorem cl_X0_9 : Cond.classLink RX0 9 RX6 ∈ lwg := lwg_at 471 (by decide +kernel) rfl
theorem ml_X0_11 : Cond.methodLink RX0 11 yX6_init ∈ lwg := lwg_at 472 (by decide +kernel) rfl
theorem qk_X0_1 : QOK RX0 TX0 2 1 (tyX0 1) := ⟨tyX0, tyX0_ok, nmX0, rfl, rfl, tyX0_ok 1 (by decide)⟩
theorem qk_X0_0 : QOK RX0 TX0 2 0 (tyX0 0) := ⟨tyX0, tyX0_ok, nmX0, rfl, rfl, tyX0_ok 0 (by decide)⟩
abbrev rzX0 : Room := { frames := 2, cells := 2, slots := 194, locals := 35 }
abbrev mX9_init : MI := (yX9_init, cX9_init, 2, none, 0, 0)
theorem om_X9 : Cond.methodLink RX9 3 objectInit ∈ lwg := lwg_at 114 (by decide +kernel) rfl
theorem qk_X9_0 : QOK RX9 TX9 12 0 (tyX9 0) := ⟨tyX9, tyX9_ok, nmX9, rfl, rfl, tyX9_ok 0 (by decide)⟩
theorem qk_X9_1 : QOK RX9 TX9 12 1 (tyX9 1) := ⟨tyX9, tyX9_ok, nmX9, rfl, rfl, tyX9_ok 1 (by decide)⟩
theorem qk_X9_2 : QOK RX9 TX9 12 2 (tyX9 2) := ⟨tyX9, tyX9_ok, nmX9, rfl, rfl, tyX9_ok 2 (by decide)⟩
theorem qk_X9_3 : QOK RX9 TX9 12 3 (tyX9 3) := ⟨tyX9, tyX9_ok, nmX9, rfl, rfl, tyX9_ok 3 (by decide)⟩
theorem qk_X9_4 : QOK RX9 TX9 12 4 (tyX9 4) := ⟨tyX9, tyX9_ok, nmX9, rfl, rfl, tyX9_ok 4 (by decide)⟩
theorem qk_X9_5 : QOK RX9 TX9 12 5 (tyX9 5) := ⟨tyX9, tyX9_ok, nmX9, rfl, rfl, tyX9_ok 5 (by decide)⟩
theorem qk_X9_6 : QOK RX9 TX9 12 6 (tyX9 6) := ⟨tyX9, tyX9_ok, nmX9, rfl, rfl, tyX9_ok 6 (by decide)⟩
theorem qk_X9_7 : QOK RX9 TX9 12 7 (tyX9 7) := ⟨tyX9, tyX9_ok, nmX9, rfl, rfl, tyX9_ok 7 (by decide)⟩
theorem qk_X9_8 : QOK RX9 TX9 12 8 (tyX9 8) := ⟨tyX9, tyX9_ok, nmX9, rfl, rfl, tyX9_ok 8 (by decide)⟩
theorem qk_X9_9 : QOK RX9 TX9 12 9 (tyX9 9) := ⟨tyX9, tyX9_ok, nmX9, rfl, rfl, tyX9_ok 9 (by decide)⟩
theorem cl_X9_42 : Cond.classLink RX9 42 RX1 ∈ lwg := lwg_at 115 (by decide +kernel) rfl
theorem it_X1 : Cond.instantiable RX1 6 ∈ lwg := lwg_at 116 (by decide +kernel) rfl
theorem df_X1 : ∀ j, j < 6 → defaultValue (tyX1 j) = vp_V [.null, .null, .null, .null, .int 0, .int 0] j := by decide +kernel
theorem cw_X1_init : cwO mX1_init ∈ lwg := lwg_at 119 (by decide +kernel) rfl
theorem nd_X1_init : yX1_init.cls ≠ "java/lang/invoke/MethodHandle" ∧ yX1_init.cls ≠ "java/lang/invoke/VarHandle" ∧ (parseMethodDescriptor yX1_init.desc).map (fun d => d.parameters.length) = some 0 := by decide +kernel
theorem wi_X1_init : Cond.instanceMethod yX1_init ∈ lwg := lwg_at 118 (by decide +kernel) rfl
theorem qk_X9_10 : QOK RX9 TX9 12 10 (tyX9 10) := ⟨tyX9, tyX9_ok, nmX9, rfl, rfl, tyX9_ok 10 (by decide)⟩
abbrev rzX9 : Room := { frames := 2, cells := 15, slots := 1142, locals := 32 }
abbrev mX11_init : MI := (yX11_init, cX11_init, 1, none, 0, 0)
theorem om_X11 : Cond.methodLink RX11 3 objectInit ∈ lwg := lwg_at 79 (by decide +kernel) rfl
theorem cl_X11_9 : Cond.classLink RX11 9 RX7 ∈ lwg := lwg_at 82 (by decide +kernel) rfl
theorem it_X7 : Cond.instantiable RX7 4 ∈ lwg := lwg_at 83 (by decide +kernel) rfl
theorem df_X7 : ∀ j, j < 4 → defaultValue (tyX7 j) = vp_V [.null, .null, .null, .int 0] j := by decide +kernel
theorem cw_X7_init : cwO mX7_init ∈ lwg := lwg_at 86 (by decide +kernel) rfl
theorem nd_X7_init : yX7_init.cls ≠ "java/lang/invoke/MethodHandle" ∧ yX7_init.cls ≠ "java/lang/invoke/VarHandle" ∧ (parseMethodDescriptor yX7_init.desc).map (fun d => d.parameters.length) = some 0 := by decide +kernel
theorem wi_X7_init : Cond.instanceMethod yX7_init ∈ lwg := lwg_at 85 (by decide +kernel) rfl
theorem qk_X11_0 : QOK RX11 TX11 11 0 (tyX11 0) := ⟨tyX11, tyX11_ok, nmX11, rfl, rfl, tyX11_ok 0 (by decide)⟩
theorem cl_X11_16 : Cond.classLink RX11 16 RX9 ∈ lwg := lwg_at 109 (by decide +kernel) rfl
theorem it_X9 : Cond.instantiable RX9 12 ∈ lwg := lwg_at 110 (by decide +kernel) rfl
theorem df_X9 : ∀ j, j < 12 → defaultValue (tyX9 j) = vp_V [.null, .null, .null, .null, .null, .null, .null, .null, .null, .null, .null, .int 0] j := by decide +kernel
theorem cw_X9_init : cwO mX9_init ∈ lwg := lwg_at 113 (by decide +kernel) rfl
theorem nd_X9_init : yX9_init.cls ≠ "java/lang/invoke/MethodHandle" ∧ yX9_init.cls ≠ "java/lang/invoke/VarHandle" ∧ (parseMethodDescriptor yX9_init.desc).map (fun d => d.parameters.length) = some 0 := by decide +kernel
theorem wi_X9_init : Cond.instanceMethod yX9_init ∈ lwg := lwg_at 112 (by decide +kernel) rfl
theorem ml_X11_18 : Cond.methodLink RX11 18 yX9_init ∈ lwg := lwg_at 111 (by decide +kernel) rfl
theorem qk_X11_1 : QOK RX11 TX11 11 1 (tyX11 1) := ⟨tyX11, tyX11_ok, nmX11, rfl, rfl, tyX11_ok 1 (by decide)⟩
theorem cl_X11_23 : Cond.classLink RX11 23 RX10 ∈ lwg := lwg_at 205 (by decide +kernel) rfl
theorem it_X10 : Cond.instantiable RX10 9 ∈ lwg := lwg_at 206 (by decide +kernel) rfl
theorem df_X10 : ∀ j, j < 9 → defaultValue (tyX10 j) = vp_V [.null, .null, .null, .null, .null, .null, .null, .null, .int 0] j := by decide +kernel
theorem cw_X10_init : cwO mX10_init ∈ lwg := lwg_at 209 (by decide +kernel) rfl
theorem nd_X10_init : yX10_init.cls ≠ "java/lang/invoke/MethodHandle" ∧ yX10_init.cls ≠ "java/lang/invoke/VarHandle" ∧ (parseMethodDescriptor yX10_init.desc).map (fun d => d.parameters.length) = some 0 := by decide +kernel
theorem wi_X10_init : Cond.instanceMethod yX10_init ∈ lwg := lwg_at 208 (by decide +kernel) rfl
theorem qk_X11_2 : QOK RX11 TX11 11 2 (tyX11 2) := ⟨tyX11, tyX11_ok, nmX11, rfl, rfl, tyX11_ok 2 (by decide)⟩
theorem cl_X11_30 : Cond.classLink RX11 30 RX3 ∈ lwg := lwg_at 248 (by decide +kernel) rfl
theorem it_X3 : Cond.instantiable RX3 3 ∈ lwg := lwg_at 249 (by decide +kernel) rfl
theorem df_X3 : ∀ j, j < 3 → defaultValue (tyX3 j) = vp_V [.null, .null, .int 0] j := by decide +kernel
theorem cw_X3_init : cwO mX3_init ∈ lwg := lwg_at 252 (by decide +kernel) rfl
theorem nd_X3_init : yX3_init.cls ≠ "java/lang/invoke/MethodHandle" ∧ yX3_init.cls ≠ "java/lang/invoke/VarHandle" ∧ (parseMethodDescriptor yX3_init.desc).map (fun d => d.parameters.length) = some 0 := by decide +kernel
theorem wi_X3_init : Cond.instanceMethod yX3_init ∈ lwg := lwg_at 251 (by decide +kernel) rfl
theorem qk_X11_3 : QOK RX11 TX11 11 3 (tyX11 3) := ⟨tyX11, tyX11_ok, nmX11, rfl, rfl, tyX11_ok 3 (by decide)⟩
theorem cl_X11_37 : Cond.classLink RX11 37 RX8 ∈ lwg := lwg_at 264 (by decide +kernel) rfl
theorem it_X8 : Cond.instantiable RX8 13 ∈ lwg := lwg_at 265 (by decide +kernel) rfl
theorem df_X8 : ∀ j, j < 13 → defaultValue (tyX8 j) = vp_V [.null, .null, .null, .null, .null, .null, .null, .null, .null, .null, .null, .int 0, .int 0] j := by decide +kernel
theorem cw_X8_init : cwO mX8_init ∈ lwg := lwg_at 268 (by decide +kernel) rfl
theorem nd_X8_init : yX8_init.cls ≠ "java/lang/invoke/MethodHandle" ∧ yX8_init.cls ≠ "java/lang/invoke/VarHandle" ∧ (parseMethodDescriptor yX8_init.desc).map (fun d => d.parameters.length) = some 4 := by decide +kernel
theorem wi_X8_init : Cond.instanceMethod yX8_init ∈ lwg := lwg_at 267 (by decide +kernel) rfl
theorem ml_X11_39 : Cond.methodLink RX11 39 yX8_init ∈ lwg := lwg_at 266 (by decide +kernel) rfl
theorem qk_X11_4 : QOK RX11 TX11 11 4 (tyX11 4) := ⟨tyX11, tyX11_ok, nmX11, rfl, rfl, tyX11_ok 4 (by decide)⟩
theorem cl_X11_46 : Cond.classLink RX11 46 RX4 ∈ lwg := lwg_at 313 (by decide +kernel) rfl
theorem it_X4 : Cond.instantiable RX4 9 ∈ lwg := lwg_at 314 (by decide +kernel) rfl
theorem df_X4 : ∀ j, j < 9 → defaultValue (tyX4 j) = vp_V [.null, .null, .null, .null, .null, .int 0, .int 0, .null, .null] j := by decide +kernel
theorem cw_X4_init : cwO mX4_init ∈ lwg := lwg_at 317 (by decide +kernel) rfl
theorem nd_X4_init : yX4_init.cls ≠ "java/lang/invoke/MethodHandle" ∧ yX4_init.cls ≠ "java/lang/invoke/VarHandle" ∧ (parseMethodDescriptor yX4_init.desc).map (fun d => d.parameters.length) = some 2 := by decide +kernel
theorem wi_X4_init : Cond.instanceMethod yX4_init ∈ lwg := lwg_at 316 (by decide +kernel) rfl
theorem ml_X11_48 : Cond.methodLink RX11 48 yX4_init ∈ lwg := lwg_at 315 (by decide +kernel) rfl
theorem qk_X11_5 : QOK RX11 TX11 11 5 (tyX11 5) := ⟨tyX11, tyX11_ok, nmX11, rfl, rfl, tyX11_ok 5 (by decide)⟩
theorem cl_X11_55 : Cond.classLink RX11 55 RX5 ∈ lwg := lwg_at 359 (by decide +kernel) rfl
theorem it_X5 : Cond.instantiable RX5 11 ∈ lwg := lwg_at 360 (by decide +kernel) rfl
theorem df_X5 : ∀ j, j < 11 → defaultValue (tyX5 j) = vp_V [.null, .null, .null, .null, .null, .null, .null, .null, .null, .int 0, .int 0] j := by decide +kernel
theorem cw_X5_init : cwO mX5_init ∈ lwg := lwg_at 363 (by decide +kernel) rfl
theorem nd_X5_init : yX5_init.cls ≠ "java/lang/invoke/MethodHandle" ∧ yX5_init.cls ≠ "java/lang/invoke/VarHandle" ∧ (parseMethodDescriptor yX5_init.desc).map (fun d => d.parameters.length) = some 4 := by decide +kernel
theorem wi_X5_init : Cond.instanceMethod yX5_init ∈ lwg := lwg_at 362 (by decide +kernel) rfl
theorem ml_X11_57 : Cond.methodLink RX11 57 yX5_init ∈ lwg := lwg_at 361 (by decide +kernel) rfl
theorem qk_X11_6 : QOK RX11 TX11 11 6 (tyX11 6) := ⟨tyX11, tyX11_ok, nmX11, rfl, rfl, tyX11_ok 6 (by decide)⟩
theorem cl_X11_64 : Cond.classLink RX11 64 RX2 ∈ lwg := lwg_at 405 (by decide +kernel) rfl
theorem it_X2 : Cond.instantiable RX2 11 ∈ lwg := lwg_at 406 (by decide +kernel) rfl
theorem df_X2 : ∀ j, j < 11 → defaultValue (tyX2 j) = vp_V [.null, .null, .null, .null, .null, .null, .null, .null, .null, .int 0, .int 0] j := by decide +kernel
theorem cw_X2_init : cwO mX2_init ∈ lwg := lwg_at 409 (by decide +kernel) rfl
theorem nd_X2_init : yX2_init.cls ≠ "java/lang/invoke/MethodHandle" ∧ yX2_init.cls ≠ "java/lang/invoke/VarHandle" ∧ (parseMethodDescriptor yX2_init.desc).map (fun d => d.parameters.length) = some 1 := by decide +kernel
theorem wi_X2_init : Cond.instanceMethod yX2_init ∈ lwg := lwg_at 408 (by decide +kernel) rfl
theorem ml_X11_66 : Cond.methodLink RX11 66 yX2_init ∈ lwg := lwg_at 407 (by decide +kernel) rfl
theorem qk_X11_7 : QOK RX11 TX11 11 7 (tyX11 7) := ⟨tyX11, tyX11_ok, nmX11, rfl, rfl, tyX11_ok 7 (by decide)⟩
theorem cl_X11_73 : Cond.classLink RX11 73 RX0 ∈ lwg := lwg_at 465 (by decide +kernel) rfl
theorem it_X0 : Cond.instantiable RX0 2 ∈ lwg := lwg_at 466 (by decide +kernel) rfl
theorem df_X0 : ∀ j, j < 2 → defaultValue (tyX0 j) = vp_V [.null, .null] j := by decide +kernel
theorem cw_X0_init : cwO mX0_init ∈ lwg := lwg_at 469 (by decide +kernel) rfl
theorem nd_X0_init : yX0_init.cls ≠ "java/lang/invoke/MethodHandle" ∧ yX0_init.cls ≠ "java/lang/invoke/VarHandle" ∧ (parseMethodDescriptor yX0_init.desc).map (fun d => d.parameters.length) = some 1 := by decide +kernel
theorem wi_X0_init : Cond.instanceMethod yX0_init ∈ lwg := lwg_at 468 (by decide +kernel) rfl
theorem ml_X11_75 : Cond.methodLink RX11 75 yX0_init ∈ lwg := lwg_at 467 (by decide +kernel) rfl
theorem qk_X11_8 : QOK RX11 TX11 11 8 (tyX11 8) := ⟨tyX11, tyX11_ok, nmX11, rfl, rfl, tyX11_ok 8 (by decide)⟩
theorem qk_X11_9 : QOK RX11 TX11 11 9 (tyX11 9) := ⟨tyX11, tyX11_ok, nmX11, rfl, rfl, tyX11_ok 9 (by decide)⟩
abbrev rzX11 : Room := { frames := 3, cells := 66, slots := 11002, locals := 56 }
abbrev mX12_init : MI := (yX12_init, cX12_init, 2, none, 0, 0)
theorem om_X12 : Cond.methodLink RX12 1 objectInit ∈ lwg := lwg_at 984 (by decide +kernel) rfl
theorem qk_X12_5 : QOK RX12 TX12 60 5 (tyX12 5) := ⟨tyX12, tyX12_ok, nmX12, rfl, rfl, tyX12_ok 5 (by decide)⟩
theorem qk_X12_6 : QOK RX12 TX12 60 6 (tyX12 6) := ⟨tyX12, tyX12_ok, nmX12, rfl, rfl, tyX12_ok 6 (by decide)⟩
theorem qk_X12_7 : QOK RX12 TX12 60 7 (tyX12 7) := ⟨tyX12, tyX12_ok, nmX12, rfl, rfl, tyX12_ok 7 (by decide)⟩
theorem qk_X12_8 : QOK RX12 TX12 60 8 (tyX12 8) := ⟨tyX12, tyX12_ok, nmX12, rfl, rfl, tyX12_ok 8 (by decide)⟩
theorem qk_X12_9 : QOK RX12 TX12 60 9 (tyX12 9) := ⟨tyX12, tyX12_ok, nmX12, rfl, rfl, tyX12_ok 9 (by decide)⟩
theorem qk_X12_10 : QOK RX12 TX12 60 10 (tyX12 10) := ⟨tyX12, tyX12_ok, nmX12, rfl, rfl, tyX12_ok 10 (by decide)⟩
theorem qk_X12_11 : QOK RX12 TX12 60 11 (tyX12 11) := ⟨tyX12, tyX12_ok, nmX12, rfl, rfl, tyX12_ok 11 (by decide)⟩
theorem qk_X12_12 : QOK RX12 TX12 60 12 (tyX12 12) := ⟨tyX12, tyX12_ok, nmX12, rfl, rfl, tyX12_ok 12 (by decide)⟩
theorem qk_X12_13 : QOK RX12 TX12 60 13 (tyX12 13) := ⟨tyX12, tyX12_ok, nmX12, rfl, rfl, tyX12_ok 13 (by decide)⟩
theorem qk_X12_14 : QOK RX12 TX12 60 14 (tyX12 14) := ⟨tyX12, tyX12_ok, nmX12, rfl, rfl, tyX12_ok 14 (by decide)⟩
theorem qk_X12_15 : QOK RX12 TX12 60 15 (tyX12 15) := ⟨tyX12, tyX12_ok, nmX12, rfl, rfl, tyX12_ok 15 (by decide)⟩
theorem qk_X12_16 : QOK RX12 TX12 60 16 (tyX12 16) := ⟨tyX12, tyX12_ok, nmX12, rfl, rfl, tyX12_ok 16 (by decide)⟩
theorem qk_X12_17 : QOK RX12 TX12 60 17 (tyX12 17) := ⟨tyX12, tyX12_ok, nmX12, rfl, rfl, tyX12_ok 17 (by decide)⟩
theorem qk_X12_18 : QOK RX12 TX12 60 18 (tyX12 18) := ⟨tyX12, tyX12_ok, nmX12, rfl, rfl, tyX12_ok 18 (by decide)⟩
theorem qk_X12_19 : QOK RX12 TX12 60 19 (tyX12 19) := ⟨tyX12, tyX12_ok, nmX12, rfl, rfl, tyX12_ok 19 (by decide)⟩
theorem qk_X12_20 : QOK RX12 TX12 60 20 (tyX12 20) := ⟨tyX12, tyX12_ok, nmX12, rfl, rfl, tyX12_ok 20 (by decide)⟩
theorem qk_X12_21 : QOK RX12 TX12 60 21 (tyX12 21) := ⟨tyX12, tyX12_ok, nmX12, rfl, rfl, tyX12_ok 21 (by decide)⟩
theorem qk_X12_22 : QOK RX12 TX12 60 22 (tyX12 22) := ⟨tyX12, tyX12_ok, nmX12, rfl, rfl, tyX12_ok 22 (by decide)⟩
theorem qk_X12_23 : QOK RX12 TX12 60 23 (tyX12 23) := ⟨tyX12, tyX12_ok, nmX12, rfl, rfl, tyX12_ok 23 (by decide)⟩
theorem qk_X12_24 : QOK RX12 TX12 60 24 (tyX12 24) := ⟨tyX12, tyX12_ok, nmX12, rfl, rfl, tyX12_ok 24 (by decide)⟩
theorem qk_X12_25 : QOK RX12 TX12 60 25 (tyX12 25) := ⟨tyX12, tyX12_ok, nmX12, rfl, rfl, tyX12_ok 25 (by decide)⟩
theorem qk_X12_26 : QOK RX12 TX12 60 26 (tyX12 26) := ⟨tyX12, tyX12_ok, nmX12, rfl, rfl, tyX12_ok 26 (by decide)⟩
theorem qk_X12_27 : QOK RX12 TX12 60 27 (tyX12 27) := ⟨tyX12, tyX12_ok, nmX12, rfl, rfl, tyX12_ok 27 (by decide)⟩
theorem qk_X12_28 : QOK RX12 TX12 60 28 (tyX12 28) := ⟨tyX12, tyX12_ok, nmX12, rfl, rfl, tyX12_ok 28 (by decide)⟩
theorem qk_X12_29 : QOK RX12 TX12 60 29 (tyX12 29) := ⟨tyX12, tyX12_ok, nmX12, rfl, rfl, tyX12_ok 29 (by decide)⟩
theorem qk_X12_30 : QOK RX12 TX12 60 30 (tyX12 30) := ⟨tyX12, tyX12_ok, nmX12, rfl, rfl, tyX12_ok 30 (by decide)⟩
theorem qk_X12_34 : QOK RX12 TX12 60 34 (tyX12 34) := ⟨tyX12, tyX12_ok, nmX12, rfl, rfl, tyX12_ok 34 (by decide)⟩
theorem qk_X12_35 : QOK RX12 TX12 60 35 (tyX12 35) := ⟨tyX12, tyX12_ok, nmX12, rfl, rfl, tyX12_ok 35 (by decide)⟩
theorem qk_X12_36 : QOK RX12 TX12 60 36 (tyX12 36) := ⟨tyX12, tyX12_ok, nmX12, rfl, rfl, tyX12_ok 36 (by decide)⟩
theorem qk_X12_37 : QOK RX12 TX12 60 37 (tyX12 37) := ⟨tyX12, tyX12_ok, nmX12, rfl, rfl, tyX12_ok 37 (by decide)⟩
theorem qk_X12_38 : QOK RX12 TX12 60 38 (tyX12 38) := ⟨tyX12, tyX12_ok, nmX12, rfl, rfl, tyX12_ok 38 (by decide)⟩
theorem qk_X12_39 : QOK RX12 TX12 60 39 (tyX12 39) := ⟨tyX12, tyX12_ok, nmX12, rfl, rfl, tyX12_ok 39 (by decide)⟩
theorem qk_X12_42 : QOK RX12 TX12 60 42 (tyX12 42) := ⟨tyX12, tyX12_ok, nmX12, rfl, rfl, tyX12_ok 42 (by decide)⟩
theorem qk_X12_43 : QOK RX12 TX12 60 43 (tyX12 43) := ⟨tyX12, tyX12_ok, nmX12, rfl, rfl, tyX12_ok 43 (by decide)⟩
theorem qk_X12_44 : QOK RX12 TX12 60 44 (tyX12 44) := ⟨tyX12, tyX12_ok, nmX12, rfl, rfl, tyX12_ok 44 (by decide)⟩
theorem qk_X12_45 : QOK RX12 TX12 60 45 (tyX12 45) := ⟨tyX12, tyX12_ok, nmX12, rfl, rfl, tyX12_ok 45 (by decide)⟩
theorem qk_X12_46 : QOK RX12 TX12 60 46 (tyX12 46) := ⟨tyX12, tyX12_ok, nmX12, rfl, rfl, tyX12_ok 46 (by decide)⟩
theorem qk_X12_47 : QOK RX12 TX12 60 47 (tyX12 47) := ⟨tyX12, tyX12_ok, nmX12, rfl, rfl, tyX12_ok 47 (by decide)⟩
theorem qk_X12_48 : QOK RX12 TX12 60 48 (tyX12 48) := ⟨tyX12, tyX12_ok, nmX12, rfl, rfl, tyX12_ok 48 (by decide)⟩
theorem qk_X12_53 : QOK RX12 TX12 60 53 (tyX12 53) := ⟨tyX12, tyX12_ok, nmX12, rfl, rfl, tyX12_ok 53 (by decide)⟩
theorem qk_X12_54 : QOK RX12 TX12 60 54 (tyX12 54) := ⟨tyX12, tyX12_ok, nmX12, rfl, rfl, tyX12_ok 54 (by decide)⟩
theorem qk_X12_55 : QOK RX12 TX12 60 55 (tyX12 55) := ⟨tyX12, tyX12_ok, nmX12, rfl, rfl, tyX12_ok 55 (by decide)⟩
theorem qk_X12_56 : QOK RX12 TX12 60 56 (tyX12 56) := ⟨tyX12, tyX12_ok, nmX12, rfl, rfl, tyX12_ok 56 (by decide)⟩
theorem qk_X12_59 : QOK RX12 TX12 60 59 (tyX12 59) := ⟨tyX12, tyX12_ok, nmX12, rfl, rfl, tyX12_ok 59 (by decide)⟩
abbrev rzX12 : Room := { frames := 1, cells := 44, slots := 78563, locals := 12 }
