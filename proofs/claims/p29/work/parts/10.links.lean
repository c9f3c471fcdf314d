theorem df_X0 (base : Nat) : ∀ j, j < 3 → defaultValue (tyX0 j) = fv base (fun _ => 0) (fun _ => 0) (fun _ => 0) 0 j := by
  intro j hj
  rcases (show j = 0 ∨ j = 1 ∨ j = 2 by omega) with rfl | rfl | rfl <;> rfl
theorem df_X1 (base : Nat) : ∀ j, j < 2 → defaultValue (tyX1 j) = fv base (fun _ => 0) (fun _ => 0) (fun _ => 0) 1 j := by
  intro j hj
  rcases (show j = 0 ∨ j = 1 by omega) with rfl | rfl <;> rfl
theorem df_X2 (base : Nat) : ∀ j, j < 10 → defaultValue (tyX2 j) = fv base (fun _ => 0) (fun _ => 0) (fun _ => 0) 2 j := by
  intro j hj
  rcases (show j = 0 ∨ j = 1 ∨ j = 2 ∨ j = 3 ∨ j = 4 ∨ j = 5 ∨ j = 6 ∨ j = 7 ∨ j = 8 ∨ j = 9 by omega) with rfl | rfl | rfl | rfl | rfl | rfl | rfl | rfl | rfl | rfl <;> rfl
theorem df_X3 (base : Nat) : ∀ j, j < 5 → defaultValue (tyX3 j) = fv base (fun _ => 0) (fun _ => 0) (fun _ => 0) 3 j := by
  intro j hj
  rcases (show j = 0 ∨ j = 1 ∨ j = 2 ∨ j = 3 ∨ j = 4 by omega) with rfl | rfl | rfl | rfl | rfl <;> rfl
theorem df_X4 (base : Nat) : ∀ j, j < 3 → defaultValue (tyX4 j) = fv base (fun _ => 0) (fun _ => 0) (fun _ => 0) 4 j := by
  intro j hj
  rcases (show j = 0 ∨ j = 1 ∨ j = 2 by omega) with rfl | rfl | rfl <;> rfl
theorem df_X5 (base : Nat) : ∀ j, j < 2 → defaultValue (tyX5 j) = fv base (fun _ => 0) (fun _ => 0) (fun _ => 0) 5 j := by
  intro j hj
  rcases (show j = 0 ∨ j = 1 by omega) with rfl | rfl <;> rfl
theorem df_X6 (base : Nat) : ∀ j, j < 11 → defaultValue (tyX6 j) = fv base (fun _ => 0) (fun _ => 0) (fun _ => 0) 6 j := by
  intro j hj
  rcases (show j = 0 ∨ j = 1 ∨ j = 2 ∨ j = 3 ∨ j = 4 ∨ j = 5 ∨ j = 6 ∨ j = 7 ∨ j = 8 ∨ j = 9 ∨ j = 10 by omega) with rfl | rfl | rfl | rfl | rfl | rfl | rfl | rfl | rfl | rfl | rfl <;> rfl
theorem df_X7 (base : Nat) : ∀ j, j < 8 → defaultValue (tyX7 j) = fv base (fun _ => 0) (fun _ => 0) (fun _ => 0) 7 j := by
  intro j hj
  rcases (show j = 0 ∨ j = 1 ∨ j = 2 ∨ j = 3 ∨ j = 4 ∨ j = 5 ∨ j = 6 ∨ j = 7 by omega) with rfl | rfl | rfl | rfl | rfl | rfl | rfl | rfl <;> rfl
theorem df_X8 (base : Nat) : ∀ j, j < 7 → defaultValue (tyX8 j) = fv base (fun _ => 0) (fun _ => 0) (fun _ => 0) 8 j := by
  intro j hj
  rcases (show j = 0 ∨ j = 1 ∨ j = 2 ∨ j = 3 ∨ j = 4 ∨ j = 5 ∨ j = 6 by omega) with rfl | rfl | rfl | rfl | rfl | rfl | rfl <;> rfl
theorem ob_w2 : Cond.instanceMethod Lib.objectInit ∈ wsA := in_wsA 24 (by decide +kernel) rfl
theorem ob_w3 : Cond.code Lib.objectInit ⟨#[0xb1]⟩ 1 none ∈ wsA := in_wsA 25 (by decide +kernel) rfl
theorem fl_X0_9 : FL RX0 9 0 0 (.array .int) := ⟨RX0, TX0, 3, rfl, by decide, rfl, by decide, inX0, in_wsA 235 (by decide +kernel) rfl, by decide +kernel⟩
theorem fp_X0_0_0 : FP RX0 0 0 true := ⟨RX0, TX0, 3, tyX0, rfl, tyX0_ok, nmX0, rfl, fun _ => rfl⟩
theorem fl_X0_15 : FL RX0 15 0 1 (.array .int) := ⟨RX0, TX0, 3, rfl, by decide, rfl, by decide, inX0, in_wsA 237 (by decide +kernel) rfl, by decide +kernel⟩
theorem fp_X0_0_1 : FP RX0 0 1 true := ⟨RX0, TX0, 3, tyX0, rfl, tyX0_ok, nmX0, rfl, fun _ => rfl⟩
theorem fl_X0_18 : FL RX0 18 0 2 (.array .int) := ⟨RX0, TX0, 3, rfl, by decide, rfl, by decide, inX0, in_wsA 239 (by decide +kernel) rfl, by decide +kernel⟩
theorem fp_X0_0_2 : FP RX0 0 2 true := ⟨RX0, TX0, 3, tyX0, rfl, tyX0_ok, nmX0, rfl, fun _ => rfl⟩
theorem cl_X0_36 : CL RX0 36 yX0_isWanting cX0_isWanting 2 (some .boolean) 1 := ⟨in_wsA 423 (by decide +kernel) rfl, in_wsA 16 (by decide +kernel) rfl, in_wsA 426 (by decide +kernel) rfl, by decide +kernel⟩
theorem cv_X0_isWanting : CLV yX0_isWanting := ⟨in_wsA 425 (by decide +kernel) rfl, in_wsA 2 (by decide +kernel) rfl⟩
theorem cl_X0_25 : CL RX0 25 yX0_sharesOfWanting cX0_sharesOfWanting 3 (some .int) 0 := ⟨in_wsA 427 (by decide +kernel) rfl, in_wsA 16 (by decide +kernel) rfl, in_wsA 430 (by decide +kernel) rfl, by decide +kernel⟩
theorem cv_X0_sharesOfWanting : CLV yX0_sharesOfWanting := ⟨in_wsA 429 (by decide +kernel) rfl, in_wsA 3 (by decide +kernel) rfl⟩
theorem cl_X0_28 : CL RX0 28 yX0_giveParts cX0_giveParts 6 (some .int) 2 := ⟨in_wsA 431 (by decide +kernel) rfl, in_wsA 16 (by decide +kernel) rfl, in_wsA 434 (by decide +kernel) rfl, by decide +kernel⟩
theorem cv_X0_giveParts : CLV yX0_giveParts := ⟨in_wsA 433 (by decide +kernel) rfl, in_wsA 4 (by decide +kernel) rfl⟩
theorem cl_X0_32 : CL RX0 32 yX0_giveLowest cX0_giveLowest 5 (some .int) 3 := ⟨in_wsA 436 (by decide +kernel) rfl, in_wsA 16 (by decide +kernel) rfl, in_wsA 439 (by decide +kernel) rfl, by decide +kernel⟩
theorem cv_X0_giveLowest : CLV yX0_giveLowest := ⟨in_wsA 438 (by decide +kernel) rfl, in_wsA 5 (by decide +kernel) rfl⟩
theorem cl_X0_21 : CL RX0 21 yX0_lowestWanting cX0_lowestWanting 2 (some .int) 0 := ⟨in_wsA 419 (by decide +kernel) rfl, in_wsA 16 (by decide +kernel) rfl, in_wsA 422 (by decide +kernel) rfl, by decide +kernel⟩
theorem cv_X0_lowestWanting : CLV yX0_lowestWanting := ⟨in_wsA 421 (by decide +kernel) rfl, in_wsA 1 (by decide +kernel) rfl⟩
theorem fl_X4_15 : FL RX4 15 4 0 .int := ⟨RX4, TX4, 3, rfl, by decide, rfl, by decide, inX4, in_wsA 45 (by decide +kernel) rfl, by decide +kernel⟩
theorem fp_X4_4_0 : FP RX4 4 0 true := ⟨RX4, TX4, 3, tyX4, rfl, tyX4_ok, nmX4, rfl, fun _ => rfl⟩
theorem fl_X4_21 : FL RX4 21 4 1 (.array .char) := ⟨RX4, TX4, 3, rfl, by decide, rfl, by decide, inX4, in_wsA 48 (by decide +kernel) rfl, by decide +kernel⟩
theorem fp_X4_4_1 : FP RX4 4 1 true := ⟨RX4, TX4, 3, tyX4, rfl, tyX4_ok, nmX4, rfl, fun _ => rfl⟩
theorem fl_X4_25 : FL RX4 25 4 2 (.array .int) := ⟨RX4, TX4, 3, rfl, by decide, rfl, by decide, inX4, in_wsA 49 (by decide +kernel) rfl, by decide +kernel⟩
theorem fp_X4_4_2 : FP RX4 4 2 true := ⟨RX4, TX4, 3, tyX4, rfl, tyX4_ok, nmX4, rfl, fun _ => rfl⟩
theorem fl_X7_9 : FL RX7 9 7 1 .int := ⟨RX7, TX7, 8, rfl, by decide, rfl, by decide, inX7, in_wsA 72 (by decide +kernel) rfl, by decide +kernel⟩
theorem fp_X7_7_1 : FP RX7 7 1 false := ⟨RX7, TX7, 8, tyX7, rfl, tyX7_ok, nmX7, rfl, fun h => Bool.noConfusion h⟩
theorem fl_X7_15 : FL RX7 15 7 2 .int := ⟨RX7, TX7, 8, rfl, by decide, rfl, by decide, inX7, in_wsA 75 (by decide +kernel) rfl, by decide +kernel⟩
theorem fp_X7_7_2 : FP RX7 7 2 false := ⟨RX7, TX7, 8, tyX7, rfl, tyX7_ok, nmX7, rfl, fun h => Bool.noConfusion h⟩
theorem fl_X7_18 : FL RX7 18 7 3 .int := ⟨RX7, TX7, 8, rfl, by decide, rfl, by decide, inX7, in_wsA 78 (by decide +kernel) rfl, by decide +kernel⟩
theorem fp_X7_7_3 : FP RX7 7 3 false := ⟨RX7, TX7, 8, tyX7, rfl, tyX7_ok, nmX7, rfl, fun h => Bool.noConfusion h⟩
theorem fl_X7_21 : FL RX7 21 7 4 .int := ⟨RX7, TX7, 8, rfl, by decide, rfl, by decide, inX7, in_wsA 80 (by decide +kernel) rfl, by decide +kernel⟩
theorem fp_X7_7_4 : FP RX7 7 4 false := ⟨RX7, TX7, 8, tyX7, rfl, tyX7_ok, nmX7, rfl, fun h => Bool.noConfusion h⟩
theorem fl_X7_24 : FL RX7 24 7 5 .int := ⟨RX7, TX7, 8, rfl, by decide, rfl, by decide, inX7, in_wsA 81 (by decide +kernel) rfl, by decide +kernel⟩
theorem fp_X7_7_5 : FP RX7 7 5 false := ⟨RX7, TX7, 8, tyX7, rfl, tyX7_ok, nmX7, rfl, fun h => Bool.noConfusion h⟩
theorem fl_X7_27 : FL RX7 27 7 6 .long := ⟨RX7, TX7, 8, rfl, by decide, rfl, by decide, inX7, in_wsA 82 (by decide +kernel) rfl, by decide +kernel⟩
theorem fp_X7_7_6 : FP RX7 7 6 false := ⟨RX7, TX7, 8, tyX7, rfl, tyX7_ok, nmX7, rfl, fun h => Bool.noConfusion h⟩
theorem fl_X7_31 : FL RX7 31 7 7 .int := ⟨RX7, TX7, 8, rfl, by decide, rfl, by decide, inX7, in_wsA 83 (by decide +kernel) rfl, by decide +kernel⟩
theorem fp_X7_7_7 : FP RX7 7 7 false := ⟨RX7, TX7, 8, tyX7, rfl, tyX7_ok, nmX7, rfl, fun h => Bool.noConfusion h⟩
theorem fl_X7_34 : FL RX7 34 7 0 (.object "HaggleWash$Program") := ⟨RX7, TX7, 8, rfl, by decide, rfl, by decide, inX7, in_wsA 70 (by decide +kernel) rfl, by decide +kernel⟩
theorem fp_X7_7_0 : FP RX7 7 0 false := ⟨RX7, TX7, 8, tyX7, rfl, tyX7_ok, nmX7, rfl, fun h => Bool.noConfusion h⟩
theorem fl_X2_9 : FL RX2 9 2 1 .int := ⟨RX2, TX2, 10, rfl, by decide, rfl, by decide, inX2, in_wsA 103 (by decide +kernel) rfl, by decide +kernel⟩
theorem fp_X2_2_1 : FP RX2 2 1 false := ⟨RX2, TX2, 10, tyX2, rfl, tyX2_ok, nmX2, rfl, fun h => Bool.noConfusion h⟩
theorem fl_X2_15 : FL RX2 15 2 2 .int := ⟨RX2, TX2, 10, rfl, by decide, rfl, by decide, inX2, in_wsA 105 (by decide +kernel) rfl, by decide +kernel⟩
theorem fp_X2_2_2 : FP RX2 2 2 false := ⟨RX2, TX2, 10, tyX2, rfl, tyX2_ok, nmX2, rfl, fun h => Bool.noConfusion h⟩
theorem fl_X2_18 : FL RX2 18 2 3 .int := ⟨RX2, TX2, 10, rfl, by decide, rfl, by decide, inX2, in_wsA 107 (by decide +kernel) rfl, by decide +kernel⟩
theorem fp_X2_2_3 : FP RX2 2 3 false := ⟨RX2, TX2, 10, tyX2, rfl, tyX2_ok, nmX2, rfl, fun h => Bool.noConfusion h⟩
theorem fl_X2_21 : FL RX2 21 2 4 .int := ⟨RX2, TX2, 10, rfl, by decide, rfl, by decide, inX2, in_wsA 110 (by decide +kernel) rfl, by decide +kernel⟩
theorem fp_X2_2_4 : FP RX2 2 4 false := ⟨RX2, TX2, 10, tyX2, rfl, tyX2_ok, nmX2, rfl, fun h => Bool.noConfusion h⟩
theorem fl_X2_24 : FL RX2 24 2 5 .int := ⟨RX2, TX2, 10, rfl, by decide, rfl, by decide, inX2, in_wsA 112 (by decide +kernel) rfl, by decide +kernel⟩
theorem fp_X2_2_5 : FP RX2 2 5 false := ⟨RX2, TX2, 10, tyX2, rfl, tyX2_ok, nmX2, rfl, fun h => Bool.noConfusion h⟩
theorem fl_X2_27 : FL RX2 27 2 6 .int := ⟨RX2, TX2, 10, rfl, by decide, rfl, by decide, inX2, in_wsA 114 (by decide +kernel) rfl, by decide +kernel⟩
theorem fp_X2_2_6 : FP RX2 2 6 false := ⟨RX2, TX2, 10, tyX2, rfl, tyX2_ok, nmX2, rfl, fun h => Bool.noConfusion h⟩
theorem fl_X2_30 : FL RX2 30 2 7 .int := ⟨RX2, TX2, 10, rfl, by decide, rfl, by decide, inX2, in_wsA 116 (by decide +kernel) rfl, by decide +kernel⟩
theorem fp_X2_2_7 : FP RX2 2 7 false := ⟨RX2, TX2, 10, tyX2, rfl, tyX2_ok, nmX2, rfl, fun h => Bool.noConfusion h⟩
theorem fl_X2_33 : FL RX2 33 2 8 .int := ⟨RX2, TX2, 10, rfl, by decide, rfl, by decide, inX2, in_wsA 118 (by decide +kernel) rfl, by decide +kernel⟩
theorem fp_X2_2_8 : FP RX2 2 8 false := ⟨RX2, TX2, 10, tyX2, rfl, tyX2_ok, nmX2, rfl, fun h => Bool.noConfusion h⟩
theorem fl_X2_36 : FL RX2 36 2 9 .int := ⟨RX2, TX2, 10, rfl, by decide, rfl, by decide, inX2, in_wsA 120 (by decide +kernel) rfl, by decide +kernel⟩
theorem fp_X2_2_9 : FP RX2 2 9 false := ⟨RX2, TX2, 10, tyX2, rfl, tyX2_ok, nmX2, rfl, fun h => Bool.noConfusion h⟩
theorem cl_X2_41 : CL RX2 41 yX7_init cX7_init 2 none 1 := ⟨in_wsA 66 (by decide +kernel) rfl, in_wsA 13 (by decide +kernel) rfl, in_wsA 68 (by decide +kernel) rfl, by decide +kernel⟩
theorem ci_X7_init : Cond.instanceMethod yX7_init ∈ wsA := in_wsA 67 (by decide +kernel) rfl
theorem fl_X2_44 : FL RX2 44 2 0 (.object "HaggleWash$Washer") := ⟨RX2, TX2, 10, rfl, by decide, rfl, by decide, inX2, in_wsA 101 (by decide +kernel) rfl, by decide +kernel⟩
theorem fp_X2_2_0 : FP RX2 2 0 true := ⟨RX2, TX2, 10, tyX2, rfl, tyX2_ok, nmX2, rfl, fun _ => rfl⟩
theorem fl_X3_9 : FL RX3 9 3 0 .int := ⟨RX3, TX3, 5, rfl, by decide, rfl, by decide, inX3, in_wsA 148 (by decide +kernel) rfl, by decide +kernel⟩
theorem fp_X3_3_0 : FP RX3 3 0 false := ⟨RX3, TX3, 5, tyX3, rfl, tyX3_ok, nmX3, rfl, fun h => Bool.noConfusion h⟩
theorem fl_X3_15 : FL RX3 15 3 1 .int := ⟨RX3, TX3, 5, rfl, by decide, rfl, by decide, inX3, in_wsA 150 (by decide +kernel) rfl, by decide +kernel⟩
theorem fp_X3_3_1 : FP RX3 3 1 false := ⟨RX3, TX3, 5, tyX3, rfl, tyX3_ok, nmX3, rfl, fun h => Bool.noConfusion h⟩
theorem fl_X3_18 : FL RX3 18 3 2 .int := ⟨RX3, TX3, 5, rfl, by decide, rfl, by decide, inX3, in_wsA 152 (by decide +kernel) rfl, by decide +kernel⟩
theorem fp_X3_3_2 : FP RX3 3 2 false := ⟨RX3, TX3, 5, tyX3, rfl, tyX3_ok, nmX3, rfl, fun h => Bool.noConfusion h⟩
theorem fl_X3_21 : FL RX3 21 3 3 .int := ⟨RX3, TX3, 5, rfl, by decide, rfl, by decide, inX3, in_wsA 154 (by decide +kernel) rfl, by decide +kernel⟩
theorem fp_X3_3_3 : FP RX3 3 3 false := ⟨RX3, TX3, 5, tyX3, rfl, tyX3_ok, nmX3, rfl, fun h => Bool.noConfusion h⟩
theorem fl_X3_24 : FL RX3 24 3 4 .int := ⟨RX3, TX3, 5, rfl, by decide, rfl, by decide, inX3, in_wsA 156 (by decide +kernel) rfl, by decide +kernel⟩
theorem fp_X3_3_4 : FP RX3 3 4 false := ⟨RX3, TX3, 5, tyX3, rfl, tyX3_ok, nmX3, rfl, fun h => Bool.noConfusion h⟩
theorem fl_X6_17 : FL RX6 17 6 1 (.array (.object "HaggleWash$House")) := ⟨RX6, TX6, 11, rfl, by decide, rfl, by decide, inX6, in_wsA 171 (by decide +kernel) rfl, by decide +kernel⟩
theorem cl_X6_58 : CL RX6 58 yX2_init cX2_init 2 none 1 := ⟨in_wsA 60 (by decide +kernel) rfl, in_wsA 12 (by decide +kernel) rfl, in_wsA 62 (by decide +kernel) rfl, by decide +kernel⟩
theorem ci_X2_init : Cond.instanceMethod yX2_init ∈ wsA := in_wsA 61 (by decide +kernel) rfl
theorem fl_X6_23 : FL RX6 23 6 2 (.array (.object "HaggleWash$Lease")) := ⟨RX6, TX6, 11, rfl, by decide, rfl, by decide, inX6, in_wsA 173 (by decide +kernel) rfl, by decide +kernel⟩
theorem cn_X3_init : Cond.initialized yX3_init.cls ∈ wsA ∧ Cond.code yX3_init cX3_init 1 none ∈ wsA ∧ (yX3_init.cls ≠ "java/lang/invoke/MethodHandle" ∧ yX3_init.cls ≠ "java/lang/invoke/VarHandle" ∧ (parseMethodDescriptor yX3_init.desc).map (fun d => d.parameters.length) = some 0) := ⟨in_wsA 14 (by decide +kernel) rfl, in_wsA 146 (by decide +kernel) rfl, by decide +kernel⟩
theorem ci_X3_init : Cond.instanceMethod yX3_init ∈ wsA := in_wsA 145 (by decide +kernel) rfl
theorem fl_X6_9 : FL RX6 9 6 0 (.array .int) := ⟨RX6, TX6, 11, rfl, by decide, rfl, by decide, inX6, in_wsA 169 (by decide +kernel) rfl, by decide +kernel⟩
theorem fp_X6_6_0 : FP RX6 6 0 true := ⟨RX6, TX6, 11, tyX6, rfl, tyX6_ok, nmX6, rfl, fun _ => rfl⟩
theorem fp_X6_6_1 : FP RX6 6 1 true := ⟨RX6, TX6, 11, tyX6, rfl, tyX6_ok, nmX6, rfl, fun _ => rfl⟩
theorem fp_X6_6_2 : FP RX6 6 2 true := ⟨RX6, TX6, 11, tyX6, rfl, tyX6_ok, nmX6, rfl, fun _ => rfl⟩
theorem fl_X6_27 : FL RX6 27 6 3 .int := ⟨RX6, TX6, 11, rfl, by decide, rfl, by decide, inX6, in_wsA 175 (by decide +kernel) rfl, by decide +kernel⟩
theorem fp_X6_6_3 : FP RX6 6 3 false := ⟨RX6, TX6, 11, tyX6, rfl, tyX6_ok, nmX6, rfl, fun h => Bool.noConfusion h⟩
theorem fl_X6_31 : FL RX6 31 6 4 .int := ⟨RX6, TX6, 11, rfl, by decide, rfl, by decide, inX6, in_wsA 177 (by decide +kernel) rfl, by decide +kernel⟩
theorem fp_X6_6_4 : FP RX6 6 4 false := ⟨RX6, TX6, 11, tyX6, rfl, tyX6_ok, nmX6, rfl, fun h => Bool.noConfusion h⟩
theorem fl_X6_34 : FL RX6 34 6 5 .int := ⟨RX6, TX6, 11, rfl, by decide, rfl, by decide, inX6, in_wsA 179 (by decide +kernel) rfl, by decide +kernel⟩
theorem fp_X6_6_5 : FP RX6 6 5 false := ⟨RX6, TX6, 11, tyX6, rfl, tyX6_ok, nmX6, rfl, fun h => Bool.noConfusion h⟩
theorem fl_X6_37 : FL RX6 37 6 6 .int := ⟨RX6, TX6, 11, rfl, by decide, rfl, by decide, inX6, in_wsA 180 (by decide +kernel) rfl, by decide +kernel⟩
theorem fp_X6_6_6 : FP RX6 6 6 false := ⟨RX6, TX6, 11, tyX6, rfl, tyX6_ok, nmX6, rfl, fun h => Bool.noConfusion h⟩
theorem fl_X6_40 : FL RX6 40 6 7 .boolean := ⟨RX6, TX6, 11, rfl, by decide, rfl, by decide, inX6, in_wsA 181 (by decide +kernel) rfl, by decide +kernel⟩
theorem fp_X6_6_7 : FP RX6 6 7 false := ⟨RX6, TX6, 11, tyX6, rfl, tyX6_ok, nmX6, rfl, fun h => Bool.noConfusion h⟩
theorem fl_X6_44 : FL RX6 44 6 8 .int := ⟨RX6, TX6, 11, rfl, by decide, rfl, by decide, inX6, in_wsA 183 (by decide +kernel) rfl, by decide +kernel⟩
theorem fp_X6_6_8 : FP RX6 6 8 false := ⟨RX6, TX6, 11, tyX6, rfl, tyX6_ok, nmX6, rfl, fun h => Bool.noConfusion h⟩
theorem fl_X6_47 : FL RX6 47 6 9 .int := ⟨RX6, TX6, 11, rfl, by decide, rfl, by decide, inX6, in_wsA 185 (by decide +kernel) rfl, by decide +kernel⟩
theorem fp_X6_6_9 : FP RX6 6 9 false := ⟨RX6, TX6, 11, tyX6, rfl, tyX6_ok, nmX6, rfl, fun h => Bool.noConfusion h⟩
theorem fl_X6_50 : FL RX6 50 6 10 .int := ⟨RX6, TX6, 11, rfl, by decide, rfl, by decide, inX6, in_wsA 187 (by decide +kernel) rfl, by decide +kernel⟩
theorem fp_X6_6_10 : FP RX6 6 10 false := ⟨RX6, TX6, 11, tyX6, rfl, tyX6_ok, nmX6, rfl, fun h => Bool.noConfusion h⟩
theorem cl_X6_55 : CL RX6 55 yX4_init cX4_init 2 none 1 := ⟨in_wsA 38 (by decide +kernel) rfl, in_wsA 10 (by decide +kernel) rfl, in_wsA 40 (by decide +kernel) rfl, by decide +kernel⟩
theorem ci_X4_init : Cond.instanceMethod yX4_init ∈ wsA := in_wsA 39 (by decide +kernel) rfl
theorem fl_X1_11 : FL RX1 11 1 0 (.array (.object "HaggleWash$Street")) := ⟨RX1, TX1, 2, rfl, by decide, rfl, by decide, inX1, in_wsA 221 (by decide +kernel) rfl, by decide +kernel⟩
theorem cl_X1_21 : CL RX1 21 yX6_init cX6_init 3 none 0 := ⟨in_wsA 220 (by decide +kernel) rfl, in_wsA 9 (by decide +kernel) rfl, in_wsA 30 (by decide +kernel) rfl, by decide +kernel⟩
theorem ci_X6_init : Cond.instanceMethod yX6_init ∈ wsA := in_wsA 29 (by decide +kernel) rfl
theorem fp_X1_1_0 : FP RX1 1 0 true := ⟨RX1, TX1, 2, tyX1, rfl, tyX1_ok, nmX1, rfl, fun _ => rfl⟩
theorem fl_X1_17 : FL RX1 17 1 1 .int := ⟨RX1, TX1, 2, rfl, by decide, rfl, by decide, inX1, in_wsA 222 (by decide +kernel) rfl, by decide +kernel⟩
theorem fp_X1_1_1 : FP RX1 1 1 false := ⟨RX1, TX1, 2, tyX1, rfl, tyX1_ok, nmX1, rfl, fun h => Bool.noConfusion h⟩
theorem cl_X2_48 : CL RX2 48 yX7_copyFrom cX7_copyFrom 2 none 1 := ⟨in_wsA 308 (by decide +kernel) rfl, in_wsA 13 (by decide +kernel) rfl, in_wsA 311 (by decide +kernel) rfl, by decide +kernel⟩
theorem cv_X7_copyFrom : CLV yX7_copyFrom := ⟨in_wsA 309 (by decide +kernel) rfl, in_wsA 310 (by decide +kernel) rfl⟩
theorem cl_X6_62 : CL RX6 62 yX2_copyFrom cX2_copyFrom 2 none 1 := ⟨in_wsA 304 (by decide +kernel) rfl, in_wsA 12 (by decide +kernel) rfl, in_wsA 307 (by decide +kernel) rfl, by decide +kernel⟩
theorem cv_X2_copyFrom : CLV yX2_copyFrom := ⟨in_wsA 305 (by decide +kernel) rfl, in_wsA 306 (by decide +kernel) rfl⟩
theorem cl_X6_66 : CL RX6 66 yX3_copyFrom cX3_copyFrom 2 none 1 := ⟨in_wsA 312 (by decide +kernel) rfl, in_wsA 14 (by decide +kernel) rfl, in_wsA 315 (by decide +kernel) rfl, by decide +kernel⟩
theorem cv_X3_copyFrom : CLV yX3_copyFrom := ⟨in_wsA 313 (by decide +kernel) rfl, in_wsA 314 (by decide +kernel) rfl⟩
theorem cl_X1_25 : CL RX1 25 yX6_copyFrom cX6_copyFrom 3 none 1 := ⟨in_wsA 300 (by decide +kernel) rfl, in_wsA 9 (by decide +kernel) rfl, in_wsA 303 (by decide +kernel) rfl, by decide +kernel⟩
theorem cv_X6_copyFrom : CLV yX6_copyFrom := ⟨in_wsA 301 (by decide +kernel) rfl, in_wsA 302 (by decide +kernel) rfl⟩
theorem cl_X1_22 : CL RX1 22 yX1_dropOldest cX1_dropOldest 3 none 0 := ⟨in_wsA 296 (by decide +kernel) rfl, in_wsA 15 (by decide +kernel) rfl, in_wsA 299 (by decide +kernel) rfl, by decide +kernel⟩
theorem cv_X1_dropOldest : CLV yX1_dropOldest := ⟨in_wsA 298 (by decide +kernel) rfl, in_wsA 0 (by decide +kernel) rfl⟩
theorem cl_X4_29 : CL RX4 29 yX4_hasPhase cX4_hasPhase 2 (some .boolean) 1 := ⟨in_wsA 357 (by decide +kernel) rfl, in_wsA 10 (by decide +kernel) rfl, in_wsA 360 (by decide +kernel) rfl, by decide +kernel⟩
theorem cv_X4_hasPhase : CLV yX4_hasPhase := ⟨in_wsA 358 (by decide +kernel) rfl, in_wsA 359 (by decide +kernel) rfl⟩
theorem cn_X8_isWithin : Cond.initialized yX8_isWithin.cls ∈ wsA ∧ Cond.code yX8_isWithin cX8_isWithin 3 (some .boolean) ∈ wsA ∧ (yX8_isWithin.cls ≠ "java/lang/invoke/MethodHandle" ∧ yX8_isWithin.cls ≠ "java/lang/invoke/VarHandle" ∧ (parseMethodDescriptor yX8_isWithin.desc).map (fun d => d.parameters.length) = some 3) := ⟨in_wsA 8 (by decide +kernel) rfl, in_wsA 291 (by decide +kernel) rfl, by decide +kernel⟩
theorem cs_X8_isWithin : Cond.static yX8_isWithin ∈ wsA := in_wsA 290 (by decide +kernel) rfl
theorem cl_X4_33 : CL RX4 33 yX4_isGoodNumber cX4_isGoodNumber 2 (some .boolean) 2 := ⟨in_wsA 695 (by decide +kernel) rfl, in_wsA 10 (by decide +kernel) rfl, in_wsA 697 (by decide +kernel) rfl, by decide +kernel⟩
theorem cs_X4_isGoodNumber : Cond.static yX4_isGoodNumber ∈ wsA := in_wsA 696 (by decide +kernel) rfl
theorem fl_X5_9 : FL RX5 9 5 0 (.array .char) := ⟨RX5, TX5, 2, rfl, by decide, rfl, by decide, inX5, in_wsA 255 (by decide +kernel) rfl, by decide +kernel⟩
theorem fp_X5_5_0 : FP RX5 5 0 true := ⟨RX5, TX5, 2, tyX5, rfl, tyX5_ok, nmX5, rfl, fun _ => rfl⟩
theorem fl_X5_15 : FL RX5 15 5 1 .int := ⟨RX5, TX5, 2, rfl, by decide, rfl, by decide, inX5, in_wsA 256 (by decide +kernel) rfl, by decide +kernel⟩
theorem fp_X5_5_1 : FP RX5 5 1 false := ⟨RX5, TX5, 2, tyX5, rfl, tyX5_ok, nmX5, rfl, fun h => Bool.noConfusion h⟩
theorem cl_X5_23 : CL RX5 23 yX5_isKindWithNumber cX5_isKindWithNumber 1 (some .boolean) 1 := ⟨in_wsA 667 (by decide +kernel) rfl, in_wsA 17 (by decide +kernel) rfl, in_wsA 669 (by decide +kernel) rfl, by decide +kernel⟩
theorem cs_X5_isKindWithNumber : Cond.static yX5_isKindWithNumber ∈ wsA := in_wsA 668 (by decide +kernel) rfl
theorem cl_X5_27 : CL RX5 27 yX5_isDigit cX5_isDigit 1 (some .boolean) 1 := ⟨in_wsA 670 (by decide +kernel) rfl, in_wsA 17 (by decide +kernel) rfl, in_wsA 672 (by decide +kernel) rfl, by decide +kernel⟩
theorem cs_X5_isDigit : Cond.static yX5_isDigit ∈ wsA := in_wsA 671 (by decide +kernel) rfl
theorem cl_X5_19 : CL RX5 19 yX5_placeBehind cX5_placeBehind 2 (some .int) 2 := ⟨in_wsA 664 (by decide +kernel) rfl, in_wsA 17 (by decide +kernel) rfl, in_wsA 666 (by decide +kernel) rfl, by decide +kernel⟩
theorem cs_X5_placeBehind : Cond.static yX5_placeBehind ∈ wsA := in_wsA 665 (by decide +kernel) rfl
theorem cl_X5_43 : CL RX5 43 yX4_putKind cX4_putKind 3 none 2 := ⟨in_wsA 687 (by decide +kernel) rfl, in_wsA 10 (by decide +kernel) rfl, in_wsA 690 (by decide +kernel) rfl, by decide +kernel⟩
theorem cv_X4_putKind : CLV yX4_putKind := ⟨in_wsA 688 (by decide +kernel) rfl, in_wsA 689 (by decide +kernel) rfl⟩
theorem cl_X5_39 : CL RX5 39 yX4_putDigit cX4_putDigit 3 none 2 := ⟨in_wsA 683 (by decide +kernel) rfl, in_wsA 10 (by decide +kernel) rfl, in_wsA 686 (by decide +kernel) rfl, by decide +kernel⟩
theorem cv_X4_putDigit : CLV yX4_putDigit := ⟨in_wsA 684 (by decide +kernel) rfl, in_wsA 685 (by decide +kernel) rfl⟩
theorem cl_X5_32 : CL RX5 32 yX5_separators cX5_separators 3 (some .int) 0 := ⟨in_wsA 678 (by decide +kernel) rfl, in_wsA 17 (by decide +kernel) rfl, in_wsA 681 (by decide +kernel) rfl, by decide +kernel⟩
theorem cv_X5_separators : CLV yX5_separators := ⟨in_wsA 680 (by decide +kernel) rfl, in_wsA 6 (by decide +kernel) rfl⟩
theorem cl_X5_36 : CL RX5 36 yX4_init cX4_init 2 none 1 := ⟨in_wsA 682 (by decide +kernel) rfl, in_wsA 10 (by decide +kernel) rfl, in_wsA 40 (by decide +kernel) rfl, by decide +kernel⟩
theorem fl_X6_73 : FL RX6 73 2 0 (.object "HaggleWash$Washer") := ⟨RX2, TX2, 10, rfl, by decide, rfl, by decide, inX2, in_wsA 102 (by decide +kernel) rfl, by decide +kernel⟩
theorem fl_X6_77 : FL RX6 77 2 1 .int := ⟨RX2, TX2, 10, rfl, by decide, rfl, by decide, inX2, in_wsA 104 (by decide +kernel) rfl, by decide +kernel⟩
theorem fp_X6_2_1 : FP RX6 2 1 false := ⟨RX2, TX2, 10, tyX2, rfl, tyX2_ok, nmX2, rfl, fun h => Bool.noConfusion h⟩
theorem fl_X6_80 : FL RX6 80 2 2 .int := ⟨RX2, TX2, 10, rfl, by decide, rfl, by decide, inX2, in_wsA 106 (by decide +kernel) rfl, by decide +kernel⟩
theorem fp_X6_2_2 : FP RX6 2 2 false := ⟨RX2, TX2, 10, tyX2, rfl, tyX2_ok, nmX2, rfl, fun h => Bool.noConfusion h⟩
theorem fl_X6_83 : FL RX6 83 2 3 .int := ⟨RX2, TX2, 10, rfl, by decide, rfl, by decide, inX2, in_wsA 108 (by decide +kernel) rfl, by decide +kernel⟩
theorem fp_X6_2_3 : FP RX6 2 3 false := ⟨RX2, TX2, 10, tyX2, rfl, tyX2_ok, nmX2, rfl, fun h => Bool.noConfusion h⟩
theorem cl_X7_45 : CL RX7 45 yX4_kindOf cX4_kindOf 2 (some .char) 1 := ⟨in_wsA 353 (by decide +kernel) rfl, in_wsA 10 (by decide +kernel) rfl, in_wsA 356 (by decide +kernel) rfl, by decide +kernel⟩
theorem cv_X4_kindOf : CLV yX4_kindOf := ⟨in_wsA 354 (by decide +kernel) rfl, in_wsA 355 (by decide +kernel) rfl⟩
theorem cl_X6_86 : CL RX6 86 yX6_washerOf cX6_washerOf 2 (some (.object "HaggleWash$Washer")) 1 := ⟨in_wsA 332 (by decide +kernel) rfl, in_wsA 9 (by decide +kernel) rfl, in_wsA 335 (by decide +kernel) rfl, by decide +kernel⟩
theorem cv_X6_washerOf : CLV yX6_washerOf := ⟨in_wsA 333 (by decide +kernel) rfl, in_wsA 334 (by decide +kernel) rfl⟩
theorem cl_X6_90 : CL RX6 90 yX7_spinAnew cX7_spinAnew 1 none 0 := ⟨in_wsA 349 (by decide +kernel) rfl, in_wsA 13 (by decide +kernel) rfl, in_wsA 352 (by decide +kernel) rfl, by decide +kernel⟩
theorem cv_X7_spinAnew : CLV yX7_spinAnew := ⟨in_wsA 350 (by decide +kernel) rfl, in_wsA 351 (by decide +kernel) rfl⟩
theorem fl_X6_95 : FL RX6 95 7 2 .int := ⟨RX7, TX7, 8, rfl, by decide, rfl, by decide, inX7, in_wsA 76 (by decide +kernel) rfl, by decide +kernel⟩
theorem cl_X6_98 : CL RX6 98 yX7_temperature cX7_temperature 1 (some .int) 0 := ⟨in_wsA 336 (by decide +kernel) rfl, in_wsA 13 (by decide +kernel) rfl, in_wsA 339 (by decide +kernel) rfl, by decide +kernel⟩
theorem cv_X7_temperature : CLV yX7_temperature := ⟨in_wsA 337 (by decide +kernel) rfl, in_wsA 338 (by decide +kernel) rfl⟩
theorem fl_X6_102 : FL RX6 102 3 0 .int := ⟨RX3, TX3, 5, rfl, by decide, rfl, by decide, inX3, in_wsA 149 (by decide +kernel) rfl, by decide +kernel⟩
theorem fl_X6_105 : FL RX6 105 3 2 .int := ⟨RX3, TX3, 5, rfl, by decide, rfl, by decide, inX3, in_wsA 153 (by decide +kernel) rfl, by decide +kernel⟩
theorem cl_X6_108 : CL RX6 108 yX6_lentOf cX6_lentOf 4 (some .int) 1 := ⟨in_wsA 404 (by decide +kernel) rfl, in_wsA 9 (by decide +kernel) rfl, in_wsA 407 (by decide +kernel) rfl, by decide +kernel⟩
theorem cv_X6_lentOf : CLV yX6_lentOf := ⟨in_wsA 405 (by decide +kernel) rfl, in_wsA 406 (by decide +kernel) rfl⟩
theorem fl_X6_115 : FL RX6 115 3 1 .int := ⟨RX3, TX3, 5, rfl, by decide, rfl, by decide, inX3, in_wsA 151 (by decide +kernel) rfl, by decide +kernel⟩
theorem cl_X6_112 : CL RX6 112 yX6_unlentOf cX6_unlentOf 2 (some .int) 1 := ⟨in_wsA 400 (by decide +kernel) rfl, in_wsA 9 (by decide +kernel) rfl, in_wsA 403 (by decide +kernel) rfl, by decide +kernel⟩
theorem cv_X6_unlentOf : CLV yX6_unlentOf := ⟨in_wsA 401 (by decide +kernel) rfl, in_wsA 402 (by decide +kernel) rfl⟩
theorem fl_X6_118 : FL RX6 118 7 1 .int := ⟨RX7, TX7, 8, rfl, by decide, rfl, by decide, inX7, in_wsA 74 (by decide +kernel) rfl, by decide +kernel⟩
theorem fl_X6_121 : FL RX6 121 2 7 .int := ⟨RX2, TX2, 10, rfl, by decide, rfl, by decide, inX2, in_wsA 117 (by decide +kernel) rfl, by decide +kernel⟩
theorem fp_X6_2_7 : FP RX6 2 7 false := ⟨RX2, TX2, 10, tyX2, rfl, tyX2_ok, nmX2, rfl, fun h => Bool.noConfusion h⟩
theorem cl_X6_124 : CL RX6 124 yX2_changePrice cX2_changePrice 2 none 1 := ⟨in_wsA 624 (by decide +kernel) rfl, in_wsA 12 (by decide +kernel) rfl, in_wsA 627 (by decide +kernel) rfl, by decide +kernel⟩
theorem cv_X2_changePrice : CLV yX2_changePrice := ⟨in_wsA 625 (by decide +kernel) rfl, in_wsA 626 (by decide +kernel) rfl⟩
theorem fl_X6_127 : FL RX6 127 2 8 .int := ⟨RX2, TX2, 10, rfl, by decide, rfl, by decide, inX2, in_wsA 119 (by decide +kernel) rfl, by decide +kernel⟩
theorem fp_X6_2_8 : FP RX6 2 8 false := ⟨RX2, TX2, 10, tyX2, rfl, tyX2_ok, nmX2, rfl, fun h => Bool.noConfusion h⟩
theorem fl_X6_130 : FL RX6 130 2 6 .int := ⟨RX2, TX2, 10, rfl, by decide, rfl, by decide, inX2, in_wsA 115 (by decide +kernel) rfl, by decide +kernel⟩
theorem fp_X6_2_6 : FP RX6 2 6 false := ⟨RX2, TX2, 10, tyX2, rfl, tyX2_ok, nmX2, rfl, fun h => Bool.noConfusion h⟩
theorem fl_X6_133 : FL RX6 133 2 9 .int := ⟨RX2, TX2, 10, rfl, by decide, rfl, by decide, inX2, in_wsA 121 (by decide +kernel) rfl, by decide +kernel⟩
theorem fp_X6_2_9 : FP RX6 2 9 false := ⟨RX2, TX2, 10, tyX2, rfl, tyX2_ok, nmX2, rfl, fun h => Bool.noConfusion h⟩
theorem fp_X6_3_0 : FP RX6 3 0 false := ⟨RX3, TX3, 5, tyX3, rfl, tyX3_ok, nmX3, rfl, fun h => Bool.noConfusion h⟩
theorem fp_X6_3_1 : FP RX6 3 1 false := ⟨RX3, TX3, 5, tyX3, rfl, tyX3_ok, nmX3, rfl, fun h => Bool.noConfusion h⟩
theorem fp_X6_3_2 : FP RX6 3 2 false := ⟨RX3, TX3, 5, tyX3, rfl, tyX3_ok, nmX3, rfl, fun h => Bool.noConfusion h⟩
theorem fl_X6_136 : FL RX6 136 3 3 .int := ⟨RX3, TX3, 5, rfl, by decide, rfl, by decide, inX3, in_wsA 155 (by decide +kernel) rfl, by decide +kernel⟩
theorem fp_X6_3_3 : FP RX6 3 3 false := ⟨RX3, TX3, 5, tyX3, rfl, tyX3_ok, nmX3, rfl, fun h => Bool.noConfusion h⟩
theorem fl_X6_139 : FL RX6 139 3 4 .int := ⟨RX3, TX3, 5, rfl, by decide, rfl, by decide, inX3, in_wsA 157 (by decide +kernel) rfl, by decide +kernel⟩
theorem fp_X6_3_4 : FP RX6 3 4 false := ⟨RX3, TX3, 5, tyX3, rfl, tyX3_ok, nmX3, rfl, fun h => Bool.noConfusion h⟩
theorem cl_X7_49 : CL RX7 49 yX4_numberOf cX4_numberOf 2 (some .int) 1 := ⟨in_wsA 385 (by decide +kernel) rfl, in_wsA 10 (by decide +kernel) rfl, in_wsA 388 (by decide +kernel) rfl, by decide +kernel⟩
theorem cv_X4_numberOf : CLV yX4_numberOf := ⟨in_wsA 386 (by decide +kernel) rfl, in_wsA 387 (by decide +kernel) rfl⟩
theorem cl_X6_140 : CL RX6 140 yX7_wantedHeat cX7_wantedHeat 3 (some .int) 0 := ⟨in_wsA 381 (by decide +kernel) rfl, in_wsA 13 (by decide +kernel) rfl, in_wsA 384 (by decide +kernel) rfl, by decide +kernel⟩
theorem cv_X7_wantedHeat : CLV yX7_wantedHeat := ⟨in_wsA 382 (by decide +kernel) rfl, in_wsA 383 (by decide +kernel) rfl⟩
theorem fl_X6_148 : FL RX6 148 0 1 (.array .int) := ⟨RX0, TX0, 3, rfl, by decide, rfl, by decide, inX0, in_wsA 238 (by decide +kernel) rfl, by decide +kernel⟩
theorem fl_X6_143 : FL RX6 143 0 0 (.array .int) := ⟨RX0, TX0, 3, rfl, by decide, rfl, by decide, inX0, in_wsA 236 (by decide +kernel) rfl, by decide +kernel⟩
theorem cl_X6_150 : CL RX6 150 yX6_sharesOf cX6_sharesOf 4 (some .int) 1 := ⟨in_wsA 396 (by decide +kernel) rfl, in_wsA 9 (by decide +kernel) rfl, in_wsA 399 (by decide +kernel) rfl, by decide +kernel⟩
theorem cv_X6_sharesOf : CLV yX6_sharesOf := ⟨in_wsA 397 (by decide +kernel) rfl, in_wsA 398 (by decide +kernel) rfl⟩
theorem cl_X6_153 : CL RX6 153 yX6_storeWithInput cX6_storeWithInput 1 (some .int) 0 := ⟨in_wsA 408 (by decide +kernel) rfl, in_wsA 9 (by decide +kernel) rfl, in_wsA 411 (by decide +kernel) rfl, by decide +kernel⟩
theorem cv_X6_storeWithInput : CLV yX6_storeWithInput := ⟨in_wsA 409 (by decide +kernel) rfl, in_wsA 410 (by decide +kernel) rfl⟩
theorem cl_X6_162 : CL RX6 162 yX0_divide cX0_divide 7 none 1 := ⟨in_wsA 415 (by decide +kernel) rfl, in_wsA 16 (by decide +kernel) rfl, in_wsA 418 (by decide +kernel) rfl, by decide +kernel⟩
theorem cv_X0_divide : CLV yX0_divide := ⟨in_wsA 416 (by decide +kernel) rfl, in_wsA 417 (by decide +kernel) rfl⟩
theorem fl_X6_185 : FL RX6 185 2 4 .int := ⟨RX2, TX2, 10, rfl, by decide, rfl, by decide, inX2, in_wsA 111 (by decide +kernel) rfl, by decide +kernel⟩
theorem fl_X6_188 : FL RX6 188 0 2 (.array .int) := ⟨RX0, TX0, 3, rfl, by decide, rfl, by decide, inX0, in_wsA 240 (by decide +kernel) rfl, by decide +kernel⟩
theorem fp_X6_2_4 : FP RX6 2 4 false := ⟨RX2, TX2, 10, tyX2, rfl, tyX2_ok, nmX2, rfl, fun h => Bool.noConfusion h⟩
theorem cl_X6_182 : CL RX6 182 yX6_divideHeat cX6_divideHeat 3 none 1 := ⟨in_wsA 377 (by decide +kernel) rfl, in_wsA 9 (by decide +kernel) rfl, in_wsA 380 (by decide +kernel) rfl, by decide +kernel⟩
theorem cv_X6_divideHeat : CLV yX6_divideHeat := ⟨in_wsA 378 (by decide +kernel) rfl, in_wsA 379 (by decide +kernel) rfl⟩
theorem cl_X7_78 : CL RX7 78 yX7_drain cX7_drain 2 none 0 := ⟨in_wsA 462 (by decide +kernel) rfl, in_wsA 13 (by decide +kernel) rfl, in_wsA 465 (by decide +kernel) rfl, by decide +kernel⟩
theorem cv_X7_drain : CLV yX7_drain := ⟨in_wsA 463 (by decide +kernel) rfl, in_wsA 464 (by decide +kernel) rfl⟩
theorem cl_X7_75 : CL RX7 75 yX7_pour cX7_pour 4 none 1 := ⟨in_wsA 456 (by decide +kernel) rfl, in_wsA 13 (by decide +kernel) rfl, in_wsA 459 (by decide +kernel) rfl, by decide +kernel⟩
theorem cv_X7_pour : CLV yX7_pour := ⟨in_wsA 457 (by decide +kernel) rfl, in_wsA 458 (by decide +kernel) rfl⟩
theorem cl_X7_88 : CL RX7 88 yX7_temperature cX7_temperature 1 (some .int) 0 := ⟨in_wsA 471 (by decide +kernel) rfl, in_wsA 13 (by decide +kernel) rfl, in_wsA 339 (by decide +kernel) rfl, by decide +kernel⟩
theorem cl_X7_64 : CL RX7 64 yX7_cannotWork cX7_cannotWork 2 (some .boolean) 0 := ⟨in_wsA 448 (by decide +kernel) rfl, in_wsA 13 (by decide +kernel) rfl, in_wsA 451 (by decide +kernel) rfl, by decide +kernel⟩
theorem cv_X7_cannotWork : CLV yX7_cannotWork := ⟨in_wsA 449 (by decide +kernel) rfl, in_wsA 450 (by decide +kernel) rfl⟩
theorem cl_X7_68 : CL RX7 68 yX7_change cX7_change 2 none 1 := ⟨in_wsA 452 (by decide +kernel) rfl, in_wsA 13 (by decide +kernel) rfl, in_wsA 455 (by decide +kernel) rfl, by decide +kernel⟩
theorem cv_X7_change : CLV yX7_change := ⟨in_wsA 453 (by decide +kernel) rfl, in_wsA 454 (by decide +kernel) rfl⟩
theorem cl_X7_72 : CL RX7 72 yX7_isPhaseOver cX7_isPhaseOver 2 (some .boolean) 0 := ⟨in_wsA 467 (by decide +kernel) rfl, in_wsA 13 (by decide +kernel) rfl, in_wsA 470 (by decide +kernel) rfl, by decide +kernel⟩
theorem cv_X7_isPhaseOver : CLV yX7_isPhaseOver := ⟨in_wsA 468 (by decide +kernel) rfl, in_wsA 469 (by decide +kernel) rfl⟩
theorem fl_X7_40 : FL RX7 40 4 0 .int := ⟨RX4, TX4, 3, rfl, by decide, rfl, by decide, inX4, in_wsA 46 (by decide +kernel) rfl, by decide +kernel⟩
theorem cl_X6_191 : CL RX6 191 yX7_endsInMinute cX7_endsInMinute 2 (some .boolean) 1 := ⟨in_wsA 444 (by decide +kernel) rfl, in_wsA 13 (by decide +kernel) rfl, in_wsA 447 (by decide +kernel) rfl, by decide +kernel⟩
theorem cv_X7_endsInMinute : CLV yX7_endsInMinute := ⟨in_wsA 445 (by decide +kernel) rfl, in_wsA 446 (by decide +kernel) rfl⟩
theorem fl_X6_195 : FL RX6 195 2 5 .int := ⟨RX2, TX2, 10, rfl, by decide, rfl, by decide, inX2, in_wsA 113 (by decide +kernel) rfl, by decide +kernel⟩
theorem fp_X6_2_5 : FP RX6 2 5 false := ⟨RX2, TX2, 10, tyX2, rfl, tyX2_ok, nmX2, rfl, fun h => Bool.noConfusion h⟩
theorem cl_X6_179 : CL RX6 179 yX6_shortenLeases cX6_shortenLeases 3 none 0 := ⟨in_wsA 481 (by decide +kernel) rfl, in_wsA 9 (by decide +kernel) rfl, in_wsA 484 (by decide +kernel) rfl, by decide +kernel⟩
theorem cv_X6_shortenLeases : CLV yX6_shortenLeases := ⟨in_wsA 482 (by decide +kernel) rfl, in_wsA 483 (by decide +kernel) rfl⟩
theorem cl_X6_173 : CL RX6 173 yX7_cool cX7_cool 2 none 0 := ⟨in_wsA 472 (by decide +kernel) rfl, in_wsA 13 (by decide +kernel) rfl, in_wsA 475 (by decide +kernel) rfl, by decide +kernel⟩
theorem cv_X7_cool : CLV yX7_cool := ⟨in_wsA 473 (by decide +kernel) rfl, in_wsA 474 (by decide +kernel) rfl⟩
theorem cl_X6_176 : CL RX6 176 yX7_unlockIfSafe cX7_unlockIfSafe 2 none 1 := ⟨in_wsA 477 (by decide +kernel) rfl, in_wsA 13 (by decide +kernel) rfl, in_wsA 480 (by decide +kernel) rfl, by decide +kernel⟩
theorem cv_X7_unlockIfSafe : CLV yX7_unlockIfSafe := ⟨in_wsA 478 (by decide +kernel) rfl, in_wsA 479 (by decide +kernel) rfl⟩
theorem cl_X6_165 : CL RX6 165 yX6_giveHeat cX6_giveHeat 5 (some .int) 1 := ⟨in_wsA 373 (by decide +kernel) rfl, in_wsA 9 (by decide +kernel) rfl, in_wsA 376 (by decide +kernel) rfl, by decide +kernel⟩
theorem cv_X6_giveHeat : CLV yX6_giveHeat := ⟨in_wsA 374 (by decide +kernel) rfl, in_wsA 375 (by decide +kernel) rfl⟩
theorem cl_X6_169 : CL RX6 169 yX6_work cX6_work 3 none 1 := ⟨in_wsA 440 (by decide +kernel) rfl, in_wsA 9 (by decide +kernel) rfl, in_wsA 443 (by decide +kernel) rfl, by decide +kernel⟩
theorem cv_X6_work : CLV yX6_work := ⟨in_wsA 441 (by decide +kernel) rfl, in_wsA 442 (by decide +kernel) rfl⟩
theorem cl_X6_198 : CL RX6 198 yX2_tell cX2_tell 2 (some .int) 1 := ⟨in_wsA 607 (by decide +kernel) rfl, in_wsA 12 (by decide +kernel) rfl, in_wsA 565 (by decide +kernel) rfl, by decide +kernel⟩
theorem cv_X2_tell : CLV yX2_tell := ⟨in_wsA 563 (by decide +kernel) rfl, in_wsA 564 (by decide +kernel) rfl⟩
theorem cl_X6_201 : CL RX6 201 yX6_washersIn cX6_washersIn 4 (some .int) 1 := ⟨in_wsA 598 (by decide +kernel) rfl, in_wsA 9 (by decide +kernel) rfl, in_wsA 364 (by decide +kernel) rfl, by decide +kernel⟩
theorem cv_X6_washersIn : CLV yX6_washersIn := ⟨in_wsA 362 (by decide +kernel) rfl, in_wsA 363 (by decide +kernel) rfl⟩
theorem cl_X6_204 : CL RX6 204 yX6_doorsIn cX6_doorsIn 4 (some .int) 1 := ⟨in_wsA 599 (by decide +kernel) rfl, in_wsA 9 (by decide +kernel) rfl, in_wsA 602 (by decide +kernel) rfl, by decide +kernel⟩
theorem cv_X6_doorsIn : CLV yX6_doorsIn := ⟨in_wsA 600 (by decide +kernel) rfl, in_wsA 601 (by decide +kernel) rfl⟩
theorem cl_X6_207 : CL RX6 207 yX6_sumOf cX6_sumOf 4 (some .int) 1 := ⟨in_wsA 603 (by decide +kernel) rfl, in_wsA 9 (by decide +kernel) rfl, in_wsA 606 (by decide +kernel) rfl, by decide +kernel⟩
theorem cv_X6_sumOf : CLV yX6_sumOf := ⟨in_wsA 604 (by decide +kernel) rfl, in_wsA 605 (by decide +kernel) rfl⟩
theorem cl_X8_9 : CL RX8 9 yX6_init cX6_init 3 none 0 := ⟨in_wsA 28 (by decide +kernel) rfl, in_wsA 9 (by decide +kernel) rfl, in_wsA 30 (by decide +kernel) rfl, by decide +kernel⟩
theorem fl_X8_10 : FL RX8 10 8 0 (.object "HaggleWash$Street") := ⟨RX8, TX8, 7, rfl, by decide, rfl, by decide, inX8, in_wsA 263 (by decide +kernel) rfl, by decide +kernel⟩
theorem fp_X8_8_0 : FP RX8 8 0 true := ⟨RX8, TX8, 7, tyX8, rfl, tyX8_ok, nmX8, rfl, fun _ => rfl⟩
theorem fl_X8_16 : FL RX8 16 8 1 (.object "HaggleWash$Street") := ⟨RX8, TX8, 7, rfl, by decide, rfl, by decide, inX8, in_wsA 264 (by decide +kernel) rfl, by decide +kernel⟩
theorem fp_X8_8_1 : FP RX8 8 1 true := ⟨RX8, TX8, 7, tyX8, rfl, tyX8_ok, nmX8, rfl, fun _ => rfl⟩
theorem fl_X8_19 : FL RX8 19 8 2 (.object "HaggleWash$Street") := ⟨RX8, TX8, 7, rfl, by decide, rfl, by decide, inX8, in_wsA 265 (by decide +kernel) rfl, by decide +kernel⟩
theorem fp_X8_8_2 : FP RX8 8 2 true := ⟨RX8, TX8, 7, tyX8, rfl, tyX8_ok, nmX8, rfl, fun _ => rfl⟩
theorem cl_X8_24 : CL RX8 24 yX1_init cX1_init 2 none 0 := ⟨in_wsA 214 (by decide +kernel) rfl, in_wsA 15 (by decide +kernel) rfl, in_wsA 216 (by decide +kernel) rfl, by decide +kernel⟩
theorem ci_X1_init : Cond.instanceMethod yX1_init ∈ wsA := in_wsA 215 (by decide +kernel) rfl
theorem fl_X8_25 : FL RX8 25 8 3 (.object "HaggleWash$History") := ⟨RX8, TX8, 7, rfl, by decide, rfl, by decide, inX8, in_wsA 266 (by decide +kernel) rfl, by decide +kernel⟩
theorem fp_X8_8_3 : FP RX8 8 3 true := ⟨RX8, TX8, 7, tyX8, rfl, tyX8_ok, nmX8, rfl, fun _ => rfl⟩
theorem cn_X0_init : Cond.initialized yX0_init.cls ∈ wsA ∧ Cond.code yX0_init cX0_init 1 none ∈ wsA ∧ (yX0_init.cls ≠ "java/lang/invoke/MethodHandle" ∧ yX0_init.cls ≠ "java/lang/invoke/VarHandle" ∧ (parseMethodDescriptor yX0_init.desc).map (fun d => d.parameters.length) = some 0) := ⟨in_wsA 16 (by decide +kernel) rfl, in_wsA 233 (by decide +kernel) rfl, by decide +kernel⟩
theorem ci_X0_init : Cond.instanceMethod yX0_init ∈ wsA := in_wsA 232 (by decide +kernel) rfl
theorem fl_X8_32 : FL RX8 32 8 4 (.object "HaggleWash$HeatSplit") := ⟨RX8, TX8, 7, rfl, by decide, rfl, by decide, inX8, in_wsA 267 (by decide +kernel) rfl, by decide +kernel⟩
theorem fp_X8_8_4 : FP RX8 8 4 true := ⟨RX8, TX8, 7, tyX8, rfl, tyX8_ok, nmX8, rfl, fun _ => rfl⟩
theorem cn_X5_init : Cond.initialized yX5_init.cls ∈ wsA ∧ Cond.code yX5_init cX5_init 1 none ∈ wsA ∧ (yX5_init.cls ≠ "java/lang/invoke/MethodHandle" ∧ yX5_init.cls ≠ "java/lang/invoke/VarHandle" ∧ (parseMethodDescriptor yX5_init.desc).map (fun d => d.parameters.length) = some 0) := ⟨in_wsA 17 (by decide +kernel) rfl, in_wsA 253 (by decide +kernel) rfl, by decide +kernel⟩
theorem ci_X5_init : Cond.instanceMethod yX5_init ∈ wsA := in_wsA 252 (by decide +kernel) rfl
theorem fl_X8_39 : FL RX8 39 8 5 (.object "HaggleWash$ProgramText") := ⟨RX8, TX8, 7, rfl, by decide, rfl, by decide, inX8, in_wsA 268 (by decide +kernel) rfl, by decide +kernel⟩
theorem fp_X8_8_5 : FP RX8 8 5 true := ⟨RX8, TX8, 7, tyX8, rfl, tyX8_ok, nmX8, rfl, fun _ => rfl⟩
theorem fl_X8_43 : FL RX8 43 8 6 .boolean := ⟨RX8, TX8, 7, rfl, by decide, rfl, by decide, inX8, in_wsA 269 (by decide +kernel) rfl, by decide +kernel⟩
theorem fp_X8_8_6 : FP RX8 8 6 false := ⟨RX8, TX8, 7, tyX8, rfl, tyX8_ok, nmX8, rfl, fun h => Bool.noConfusion h⟩
theorem cl_X8_47 : CL RX8 47 yX8_isWithin cX8_isWithin 3 (some .boolean) 3 := ⟨in_wsA 289 (by decide +kernel) rfl, in_wsA 8 (by decide +kernel) rfl, in_wsA 291 (by decide +kernel) rfl, by decide +kernel⟩
theorem fl_X8_51 : FL RX8 51 6 3 .int := ⟨RX6, TX6, 11, rfl, by decide, rfl, by decide, inX6, in_wsA 176 (by decide +kernel) rfl, by decide +kernel⟩
theorem cl_X8_55 : CL RX8 55 yX1_record cX1_record 2 none 1 := ⟨in_wsA 292 (by decide +kernel) rfl, in_wsA 15 (by decide +kernel) rfl, in_wsA 295 (by decide +kernel) rfl, by decide +kernel⟩
theorem cv_X1_record : CLV yX1_record := ⟨in_wsA 293 (by decide +kernel) rfl, in_wsA 294 (by decide +kernel) rfl⟩
theorem cl_X8_59 : CL RX8 59 yX6_settle cX6_settle 5 (some .int) 3 := ⟨in_wsA 316 (by decide +kernel) rfl, in_wsA 9 (by decide +kernel) rfl, in_wsA 319 (by decide +kernel) rfl, by decide +kernel⟩
theorem cv_X6_settle : CLV yX6_settle := ⟨in_wsA 317 (by decide +kernel) rfl, in_wsA 318 (by decide +kernel) rfl⟩
theorem fl_X8_77 : FL RX8 77 6 0 (.array .int) := ⟨RX6, TX6, 11, rfl, by decide, rfl, by decide, inX6, in_wsA 170 (by decide +kernel) rfl, by decide +kernel⟩
theorem cl_X8_73 : CL RX8 73 yX6_hasUnlockedAbove cX6_hasUnlockedAbove 3 (some .boolean) 1 := ⟨in_wsA 328 (by decide +kernel) rfl, in_wsA 9 (by decide +kernel) rfl, in_wsA 331 (by decide +kernel) rfl, by decide +kernel⟩
theorem cv_X6_hasUnlockedAbove : CLV yX6_hasUnlockedAbove := ⟨in_wsA 329 (by decide +kernel) rfl, in_wsA 330 (by decide +kernel) rfl⟩
theorem fl_X8_70 : FL RX8 70 6 8 .int := ⟨RX6, TX6, 11, rfl, by decide, rfl, by decide, inX6, in_wsA 184 (by decide +kernel) rfl, by decide +kernel⟩
theorem fl_X8_80 : FL RX8 80 6 7 .boolean := ⟨RX6, TX6, 11, rfl, by decide, rfl, by decide, inX6, in_wsA 182 (by decide +kernel) rfl, by decide +kernel⟩
theorem cl_X8_83 : CL RX8 83 yX6_switchPower cX6_switchPower 3 none 1 := ⟨in_wsA 345 (by decide +kernel) rfl, in_wsA 9 (by decide +kernel) rfl, in_wsA 348 (by decide +kernel) rfl, by decide +kernel⟩
theorem cv_X6_switchPower : CLV yX6_switchPower := ⟨in_wsA 346 (by decide +kernel) rfl, in_wsA 347 (by decide +kernel) rfl⟩
theorem cl_X8_87 : CL RX8 87 yX6_washersIn cX6_washersIn 4 (some .int) 1 := ⟨in_wsA 361 (by decide +kernel) rfl, in_wsA 9 (by decide +kernel) rfl, in_wsA 364 (by decide +kernel) rfl, by decide +kernel⟩
theorem cl_X8_91 : CL RX8 91 yX6_passMinute cX6_passMinute 4 (some .int) 1 := ⟨in_wsA 369 (by decide +kernel) rfl, in_wsA 9 (by decide +kernel) rfl, in_wsA 372 (by decide +kernel) rfl, by decide +kernel⟩
theorem cv_X6_passMinute : CLV yX6_passMinute := ⟨in_wsA 370 (by decide +kernel) rfl, in_wsA 371 (by decide +kernel) rfl⟩
theorem cl_X8_95 : CL RX8 95 yX5_append cX5_append 2 (some .boolean) 1 := ⟨in_wsA 652 (by decide +kernel) rfl, in_wsA 17 (by decide +kernel) rfl, in_wsA 655 (by decide +kernel) rfl, by decide +kernel⟩
theorem cv_X5_append : CLV yX5_append := ⟨in_wsA 653 (by decide +kernel) rfl, in_wsA 654 (by decide +kernel) rfl⟩
theorem fl_X8_99 : FL RX8 99 5 1 .int := ⟨RX5, TX5, 2, rfl, by decide, rfl, by decide, inX5, in_wsA 257 (by decide +kernel) rfl, by decide +kernel⟩
theorem fp_X8_5_1 : FP RX8 5 1 false := ⟨RX5, TX5, 2, tyX5, rfl, tyX5_ok, nmX5, rfl, fun h => Bool.noConfusion h⟩
theorem cl_X8_102 : CL RX8 102 yX6_hasHouse cX6_hasHouse 2 (some .boolean) 1 := ⟨in_wsA 489 (by decide +kernel) rfl, in_wsA 9 (by decide +kernel) rfl, in_wsA 492 (by decide +kernel) rfl, by decide +kernel⟩
theorem cv_X6_hasHouse : CLV yX6_hasHouse := ⟨in_wsA 490 (by decide +kernel) rfl, in_wsA 491 (by decide +kernel) rfl⟩
theorem cl_X8_105 : CL RX8 105 yX5_firstFault cX5_firstFault 3 (some .int) 0 := ⟨in_wsA 660 (by decide +kernel) rfl, in_wsA 17 (by decide +kernel) rfl, in_wsA 663 (by decide +kernel) rfl, by decide +kernel⟩
theorem cv_X5_firstFault : CLV yX5_firstFault := ⟨in_wsA 661 (by decide +kernel) rfl, in_wsA 662 (by decide +kernel) rfl⟩
theorem cl_X8_109 : CL RX8 109 yX5_toProgram cX5_toProgram 5 (some (.object "HaggleWash$Program")) 0 := ⟨in_wsA 673 (by decide +kernel) rfl, in_wsA 17 (by decide +kernel) rfl, in_wsA 676 (by decide +kernel) rfl, by decide +kernel⟩
theorem cv_X5_toProgram : CLV yX5_toProgram := ⟨in_wsA 674 (by decide +kernel) rfl, in_wsA 675 (by decide +kernel) rfl⟩
theorem cl_X8_113 : CL RX8 113 yX4_hasGoodNumbers cX4_hasGoodNumbers 2 (some .boolean) 0 := ⟨in_wsA 691 (by decide +kernel) rfl, in_wsA 10 (by decide +kernel) rfl, in_wsA 694 (by decide +kernel) rfl, by decide +kernel⟩
theorem cv_X4_hasGoodNumbers : CLV yX4_hasGoodNumbers := ⟨in_wsA 692 (by decide +kernel) rfl, in_wsA 693 (by decide +kernel) rfl⟩
theorem fl_X8_119 : FL RX8 119 4 0 .int := ⟨RX4, TX4, 3, rfl, by decide, rfl, by decide, inX4, in_wsA 47 (by decide +kernel) rfl, by decide +kernel⟩
theorem cl_X8_120 : CL RX8 120 yX6_washerOf cX6_washerOf 2 (some (.object "HaggleWash$Washer")) 1 := ⟨in_wsA 494 (by decide +kernel) rfl, in_wsA 9 (by decide +kernel) rfl, in_wsA 335 (by decide +kernel) rfl, by decide +kernel⟩
theorem fl_X8_124 : FL RX8 124 7 1 .int := ⟨RX7, TX7, 8, rfl, by decide, rfl, by decide, inX7, in_wsA 73 (by decide +kernel) rfl, by decide +kernel⟩
theorem fl_X8_129 : FL RX8 129 7 0 (.object "HaggleWash$Program") := ⟨RX7, TX7, 8, rfl, by decide, rfl, by decide, inX7, in_wsA 71 (by decide +kernel) rfl, by decide +kernel⟩
theorem fp_X8_7_0 : FP RX8 7 0 false := ⟨RX7, TX7, 8, tyX7, rfl, tyX7_ok, nmX7, rfl, fun h => Bool.noConfusion h⟩
theorem cl_X8_133 : CL RX8 133 yX7_canStart cX7_canStart 1 (some .boolean) 0 := ⟨in_wsA 495 (by decide +kernel) rfl, in_wsA 13 (by decide +kernel) rfl, in_wsA 498 (by decide +kernel) rfl, by decide +kernel⟩
theorem cv_X7_canStart : CLV yX7_canStart := ⟨in_wsA 496 (by decide +kernel) rfl, in_wsA 497 (by decide +kernel) rfl⟩
theorem cl_X8_136 : CL RX8 136 yX7_begin cX7_begin 1 none 0 := ⟨in_wsA 499 (by decide +kernel) rfl, in_wsA 13 (by decide +kernel) rfl, in_wsA 502 (by decide +kernel) rfl, by decide +kernel⟩
theorem cv_X7_begin : CLV yX7_begin := ⟨in_wsA 500 (by decide +kernel) rfl, in_wsA 501 (by decide +kernel) rfl⟩
theorem fp_X8_7_1 : FP RX8 7 1 false := ⟨RX7, TX7, 8, tyX7, rfl, tyX7_ok, nmX7, rfl, fun h => Bool.noConfusion h⟩
theorem fl_X8_139 : FL RX8 139 7 3 .int := ⟨RX7, TX7, 8, rfl, by decide, rfl, by decide, inX7, in_wsA 79 (by decide +kernel) rfl, by decide +kernel⟩
theorem fl_X8_149 : FL RX8 149 7 2 .int := ⟨RX7, TX7, 8, rfl, by decide, rfl, by decide, inX7, in_wsA 77 (by decide +kernel) rfl, by decide +kernel⟩
theorem fp_X8_7_2 : FP RX8 7 2 false := ⟨RX7, TX7, 8, tyX7, rfl, tyX7_ok, nmX7, rfl, fun h => Bool.noConfusion h⟩
theorem cl_X8_152 : CL RX8 152 yX7_temperature cX7_temperature 1 (some .int) 0 := ⟨in_wsA 511 (by decide +kernel) rfl, in_wsA 13 (by decide +kernel) rfl, in_wsA 339 (by decide +kernel) rfl, by decide +kernel⟩
theorem cl_X8_155 : CL RX8 155 yX6_unlentOf cX6_unlentOf 2 (some .int) 1 := ⟨in_wsA 615 (by decide +kernel) rfl, in_wsA 9 (by decide +kernel) rfl, in_wsA 403 (by decide +kernel) rfl, by decide +kernel⟩
theorem fl_X8_158 : FL RX8 158 6 1 (.array (.object "HaggleWash$House")) := ⟨RX6, TX6, 11, rfl, by decide, rfl, by decide, inX6, in_wsA 172 (by decide +kernel) rfl, by decide +kernel⟩
theorem fl_X8_162 : FL RX8 162 2 3 .int := ⟨RX2, TX2, 10, rfl, by decide, rfl, by decide, inX2, in_wsA 109 (by decide +kernel) rfl, by decide +kernel⟩
theorem fl_X8_167 : FL RX8 167 6 4 .int := ⟨RX6, TX6, 11, rfl, by decide, rfl, by decide, inX6, in_wsA 178 (by decide +kernel) rfl, by decide +kernel⟩
theorem cl_X8_170 : CL RX8 170 yX6_askOf cX6_askOf 4 (some .int) 2 := ⟨in_wsA 616 (by decide +kernel) rfl, in_wsA 9 (by decide +kernel) rfl, in_wsA 619 (by decide +kernel) rfl, by decide +kernel⟩
theorem cv_X6_askOf : CLV yX6_askOf := ⟨in_wsA 617 (by decide +kernel) rfl, in_wsA 618 (by decide +kernel) rfl⟩
theorem cl_X8_178 : CL RX8 178 yX6_pay cX6_pay 4 none 3 := ⟨in_wsA 630 (by decide +kernel) rfl, in_wsA 9 (by decide +kernel) rfl, in_wsA 633 (by decide +kernel) rfl, by decide +kernel⟩
theorem cv_X6_pay : CLV yX6_pay := ⟨in_wsA 631 (by decide +kernel) rfl, in_wsA 632 (by decide +kernel) rfl⟩
theorem cl_X8_182 : CL RX8 182 yX6_lend cX6_lend 7 none 5 := ⟨in_wsA 634 (by decide +kernel) rfl, in_wsA 9 (by decide +kernel) rfl, in_wsA 637 (by decide +kernel) rfl, by decide +kernel⟩
theorem cv_X6_lend : CLV yX6_lend := ⟨in_wsA 635 (by decide +kernel) rfl, in_wsA 636 (by decide +kernel) rfl⟩
theorem cl_X8_174 : CL RX8 174 yX6_refuse cX6_refuse 4 none 3 := ⟨in_wsA 620 (by decide +kernel) rfl, in_wsA 9 (by decide +kernel) rfl, in_wsA 623 (by decide +kernel) rfl, by decide +kernel⟩
theorem cv_X6_refuse : CLV yX6_refuse := ⟨in_wsA 621 (by decide +kernel) rfl, in_wsA 622 (by decide +kernel) rfl⟩
theorem cl_X8_202 : CL RX8 202 yX2_tell cX2_tell 2 (some .int) 1 := ⟨in_wsA 562 (by decide +kernel) rfl, in_wsA 12 (by decide +kernel) rfl, in_wsA 565 (by decide +kernel) rfl, by decide +kernel⟩
theorem cl_X8_199 : CL RX8 199 yX6_sharesOf cX6_sharesOf 4 (some .int) 1 := ⟨in_wsA 561 (by decide +kernel) rfl, in_wsA 9 (by decide +kernel) rfl, in_wsA 399 (by decide +kernel) rfl, by decide +kernel⟩
theorem cl_X8_205 : CL RX8 205 yX7_tell cX7_tell 2 (some .int) 1 := ⟨in_wsA 570 (by decide +kernel) rfl, in_wsA 13 (by decide +kernel) rfl, in_wsA 573 (by decide +kernel) rfl, by decide +kernel⟩
theorem cv_X7_tell : CLV yX7_tell := ⟨in_wsA 571 (by decide +kernel) rfl, in_wsA 572 (by decide +kernel) rfl⟩
theorem fl_X8_216 : FL RX8 216 6 9 .int := ⟨RX6, TX6, 11, rfl, by decide, rfl, by decide, inX6, in_wsA 186 (by decide +kernel) rfl, by decide +kernel⟩
theorem fl_X8_219 : FL RX8 219 6 10 .int := ⟨RX6, TX6, 11, rfl, by decide, rfl, by decide, inX6, in_wsA 188 (by decide +kernel) rfl, by decide +kernel⟩
theorem cl_X8_222 : CL RX8 222 yX6_wantedHeat cX6_wantedHeat 3 (some .int) 0 := ⟨in_wsA 586 (by decide +kernel) rfl, in_wsA 9 (by decide +kernel) rfl, in_wsA 589 (by decide +kernel) rfl, by decide +kernel⟩
theorem cv_X6_wantedHeat : CLV yX6_wantedHeat := ⟨in_wsA 587 (by decide +kernel) rfl, in_wsA 588 (by decide +kernel) rfl⟩
theorem cl_X8_225 : CL RX8 225 yX6_divideHeat cX6_divideHeat 3 none 1 := ⟨in_wsA 520 (by decide +kernel) rfl, in_wsA 9 (by decide +kernel) rfl, in_wsA 380 (by decide +kernel) rfl, by decide +kernel⟩
theorem fl_X8_229 : FL RX8 229 0 2 (.array .int) := ⟨RX0, TX0, 3, rfl, by decide, rfl, by decide, inX0, in_wsA 241 (by decide +kernel) rfl, by decide +kernel⟩
theorem fl_X8_232 : FL RX8 232 6 2 (.array (.object "HaggleWash$Lease")) := ⟨RX6, TX6, 11, rfl, by decide, rfl, by decide, inX6, in_wsA 174 (by decide +kernel) rfl, by decide +kernel⟩
theorem cl_X8_236 : CL RX8 236 yX3_tell cX3_tell 2 (some .int) 1 := ⟨in_wsA 578 (by decide +kernel) rfl, in_wsA 14 (by decide +kernel) rfl, in_wsA 581 (by decide +kernel) rfl, by decide +kernel⟩
theorem cv_X3_tell : CLV yX3_tell := ⟨in_wsA 579 (by decide +kernel) rfl, in_wsA 580 (by decide +kernel) rfl⟩
theorem fl_X8_190 : FL RX8 190 1 1 .int := ⟨RX1, TX1, 2, rfl, by decide, rfl, by decide, inX1, in_wsA 223 (by decide +kernel) rfl, by decide +kernel⟩
theorem cl_X8_239 : CL RX8 239 yX6_tell cX6_tell 2 (some .int) 1 := ⟨in_wsA 594 (by decide +kernel) rfl, in_wsA 9 (by decide +kernel) rfl, in_wsA 597 (by decide +kernel) rfl, by decide +kernel⟩
theorem cv_X6_tell : CLV yX6_tell := ⟨in_wsA 595 (by decide +kernel) rfl, in_wsA 596 (by decide +kernel) rfl⟩
theorem cl_X10_10 : CL RX10 10 yX10_letter cX10_letter 3 (some .int) 3 := ⟨in_wsA 533 (by decide +kernel) rfl, in_wsA 7 (by decide +kernel) rfl, in_wsA 535 (by decide +kernel) rfl, by decide +kernel⟩
theorem cs_X10_letter : Cond.static yX10_letter ∈ wsA := in_wsA 534 (by decide +kernel) rfl
theorem cl_X10_16 : CL RX10 16 yX10_number cX10_number 3 (some .int) 3 := ⟨in_wsA 545 (by decide +kernel) rfl, in_wsA 7 (by decide +kernel) rfl, in_wsA 547 (by decide +kernel) rfl, by decide +kernel⟩
theorem cs_X10_number : Cond.static yX10_number ∈ wsA := in_wsA 546 (by decide +kernel) rfl
theorem cl_X10_19 : CL RX10 19 yX10_want cX10_want 4 (some .int) 3 := ⟨in_wsA 542 (by decide +kernel) rfl, in_wsA 7 (by decide +kernel) rfl, in_wsA 544 (by decide +kernel) rfl, by decide +kernel⟩
theorem cs_X10_want : Cond.static yX10_want ∈ wsA := in_wsA 543 (by decide +kernel) rfl
theorem cl_X10_22 : CL RX10 22 yX10_shares cX10_shares 6 (some .int) 4 := ⟨in_wsA 548 (by decide +kernel) rfl, in_wsA 7 (by decide +kernel) rfl, in_wsA 550 (by decide +kernel) rfl, by decide +kernel⟩
theorem cs_X10_shares : Cond.static yX10_shares ∈ wsA := in_wsA 549 (by decide +kernel) rfl
theorem cl_X10_26 : CL RX10 26 yX10_temperature cX10_temperature 2 (some .int) 2 := ⟨in_wsA 530 (by decide +kernel) rfl, in_wsA 7 (by decide +kernel) rfl, in_wsA 532 (by decide +kernel) rfl, by decide +kernel⟩
theorem cs_X10_temperature : Cond.static yX10_temperature ∈ wsA := in_wsA 531 (by decide +kernel) rfl
theorem cl_X10_34 : CL RX10 34 yX10_works cX10_works 9 none 4 := ⟨in_wsA 551 (by decide +kernel) rfl, in_wsA 7 (by decide +kernel) rfl, in_wsA 553 (by decide +kernel) rfl, by decide +kernel⟩
theorem cs_X10_works : Cond.static yX10_works ∈ wsA := in_wsA 552 (by decide +kernel) rfl
theorem cl_X10_30 : CL RX10 30 yX10_split cX10_split 13 none 6 := ⟨in_wsA 539 (by decide +kernel) rfl, in_wsA 7 (by decide +kernel) rfl, in_wsA 541 (by decide +kernel) rfl, by decide +kernel⟩
theorem cs_X10_split : Cond.static yX10_split ∈ wsA := in_wsA 540 (by decide +kernel) rfl
theorem cl_X10_44 : CL RX10 44 yX8_washer cX8_washer 3 (some .int) 2 := ⟨in_wsA 566 (by decide +kernel) rfl, in_wsA 8 (by decide +kernel) rfl, in_wsA 569 (by decide +kernel) rfl, by decide +kernel⟩
theorem cv_X8_washer : CLV yX8_washer := ⟨in_wsA 567 (by decide +kernel) rfl, in_wsA 568 (by decide +kernel) rfl⟩
theorem cl_X10_38 : CL RX10 38 yX8_house cX8_house 3 (some .int) 2 := ⟨in_wsA 557 (by decide +kernel) rfl, in_wsA 8 (by decide +kernel) rfl, in_wsA 560 (by decide +kernel) rfl, by decide +kernel⟩
theorem cv_X8_house : CLV yX8_house := ⟨in_wsA 558 (by decide +kernel) rfl, in_wsA 559 (by decide +kernel) rfl⟩
theorem cl_X10_47 : CL RX10 47 yX8_lease cX8_lease 3 (some .int) 2 := ⟨in_wsA 574 (by decide +kernel) rfl, in_wsA 8 (by decide +kernel) rfl, in_wsA 577 (by decide +kernel) rfl, by decide +kernel⟩
theorem cv_X8_lease : CLV yX8_lease := ⟨in_wsA 575 (by decide +kernel) rfl, in_wsA 576 (by decide +kernel) rfl⟩
theorem cl_X10_50 : CL RX10 50 yX8_boiler cX8_boiler 2 (some .int) 1 := ⟨in_wsA 582 (by decide +kernel) rfl, in_wsA 8 (by decide +kernel) rfl, in_wsA 585 (by decide +kernel) rfl, by decide +kernel⟩
theorem cv_X8_boiler : CLV yX8_boiler := ⟨in_wsA 583 (by decide +kernel) rfl, in_wsA 584 (by decide +kernel) rfl⟩
theorem cl_X10_54 : CL RX10 54 yX8_count cX8_count 2 (some .int) 1 := ⟨in_wsA 590 (by decide +kernel) rfl, in_wsA 8 (by decide +kernel) rfl, in_wsA 593 (by decide +kernel) rfl, by decide +kernel⟩
theorem cv_X8_count : CLV yX8_count := ⟨in_wsA 591 (by decide +kernel) rfl, in_wsA 592 (by decide +kernel) rfl⟩
theorem cl_X10_57 : CL RX10 57 yX10_low cX10_low 2 (some .int) 2 := ⟨in_wsA 526 (by decide +kernel) rfl, in_wsA 7 (by decide +kernel) rfl, in_wsA 528 (by decide +kernel) rfl, by decide +kernel⟩
theorem cs_X10_low : Cond.static yX10_low ∈ wsA := in_wsA 527 (by decide +kernel) rfl
theorem cl_X10_60 : CL RX10 60 yX8_haggle cX8_haggle 8 (some .int) 5 := ⟨in_wsA 611 (by decide +kernel) rfl, in_wsA 8 (by decide +kernel) rfl, in_wsA 614 (by decide +kernel) rfl, by decide +kernel⟩
theorem cv_X8_haggle : CLV yX8_haggle := ⟨in_wsA 612 (by decide +kernel) rfl, in_wsA 613 (by decide +kernel) rfl⟩
theorem cl_X10_64 : CL RX10 64 yX10_unlent cX10_unlent 6 (some .int) 4 := ⟨in_wsA 638 (by decide +kernel) rfl, in_wsA 7 (by decide +kernel) rfl, in_wsA 640 (by decide +kernel) rfl, by decide +kernel⟩
theorem cs_X10_unlent : Cond.static yX10_unlent ∈ wsA := in_wsA 639 (by decide +kernel) rfl
theorem cl_X10_71 : CL RX10 71 yX8_type cX8_type 2 (some .int) 1 := ⟨in_wsA 648 (by decide +kernel) rfl, in_wsA 8 (by decide +kernel) rfl, in_wsA 651 (by decide +kernel) rfl, by decide +kernel⟩
theorem cv_X8_type : CLV yX8_type := ⟨in_wsA 649 (by decide +kernel) rfl, in_wsA 650 (by decide +kernel) rfl⟩
theorem cl_X10_67 : CL RX10 67 yX8_clearText cX8_clearText 2 (some .int) 0 := ⟨in_wsA 644 (by decide +kernel) rfl, in_wsA 8 (by decide +kernel) rfl, in_wsA 647 (by decide +kernel) rfl, by decide +kernel⟩
theorem cv_X8_clearText : CLV yX8_clearText := ⟨in_wsA 645 (by decide +kernel) rfl, in_wsA 646 (by decide +kernel) rfl⟩
theorem cl_X10_75 : CL RX10 75 yX8_readProgram cX8_readProgram 4 (some .int) 1 := ⟨in_wsA 656 (by decide +kernel) rfl, in_wsA 8 (by decide +kernel) rfl, in_wsA 659 (by decide +kernel) rfl, by decide +kernel⟩
theorem cv_X8_readProgram : CLV yX8_readProgram := ⟨in_wsA 657 (by decide +kernel) rfl, in_wsA 658 (by decide +kernel) rfl⟩
theorem cl_X10_79 : CL RX10 79 yX10_cell cX10_cell 2 (some .int) 2 := ⟨in_wsA 521 (by decide +kernel) rfl, in_wsA 7 (by decide +kernel) rfl, in_wsA 523 (by decide +kernel) rfl, by decide +kernel⟩
theorem cs_X10_cell : Cond.static yX10_cell ∈ wsA := in_wsA 522 (by decide +kernel) rfl
theorem cl_X10_86 : CL RX10 86 yX8_addHouse cX8_addHouse 4 (some .int) 3 := ⟨in_wsA 285 (by decide +kernel) rfl, in_wsA 8 (by decide +kernel) rfl, in_wsA 288 (by decide +kernel) rfl, by decide +kernel⟩
theorem cv_X8_addHouse : CLV yX8_addHouse := ⟨in_wsA 286 (by decide +kernel) rfl, in_wsA 287 (by decide +kernel) rfl⟩
theorem cl_X10_90 : CL RX10 90 yX10_program cX10_program 11 (some .boolean) 5 := ⟨in_wsA 641 (by decide +kernel) rfl, in_wsA 7 (by decide +kernel) rfl, in_wsA 643 (by decide +kernel) rfl, by decide +kernel⟩
theorem cs_X10_program : Cond.static yX10_program ∈ wsA := in_wsA 642 (by decide +kernel) rfl
theorem cl_X10_124 : CL RX10 124 yX10_same cX10_same 9 (some .boolean) 5 := ⟨in_wsA 554 (by decide +kernel) rfl, in_wsA 7 (by decide +kernel) rfl, in_wsA 556 (by decide +kernel) rfl, by decide +kernel⟩
theorem cs_X10_same : Cond.static yX10_same ∈ wsA := in_wsA 555 (by decide +kernel) rfl
theorem cl_X10_118 : CL RX10 118 yX8_closeDoor cX8_closeDoor 3 (some .int) 1 := ⟨in_wsA 512 (by decide +kernel) rfl, in_wsA 8 (by decide +kernel) rfl, in_wsA 515 (by decide +kernel) rfl, by decide +kernel⟩
theorem cv_X8_closeDoor : CLV yX8_closeDoor := ⟨in_wsA 513 (by decide +kernel) rfl, in_wsA 514 (by decide +kernel) rfl⟩
theorem cl_X10_115 : CL RX10 115 yX8_openDoor cX8_openDoor 3 (some .int) 1 := ⟨in_wsA 507 (by decide +kernel) rfl, in_wsA 8 (by decide +kernel) rfl, in_wsA 510 (by decide +kernel) rfl, by decide +kernel⟩
theorem cv_X8_openDoor : CLV yX8_openDoor := ⟨in_wsA 508 (by decide +kernel) rfl, in_wsA 509 (by decide +kernel) rfl⟩
theorem cl_X10_100 : CL RX10 100 yX10_minute cX10_minute 9 (some .int) 5 := ⟨in_wsA 536 (by decide +kernel) rfl, in_wsA 7 (by decide +kernel) rfl, in_wsA 538 (by decide +kernel) rfl, by decide +kernel⟩
theorem cs_X10_minute : Cond.static yX10_minute ∈ wsA := in_wsA 537 (by decide +kernel) rfl
theorem cl_X10_94 : CL RX10 94 yX8_start cX8_start 3 (some .int) 1 := ⟨in_wsA 485 (by decide +kernel) rfl, in_wsA 8 (by decide +kernel) rfl, in_wsA 488 (by decide +kernel) rfl, by decide +kernel⟩
theorem cv_X8_start : CLV yX8_start := ⟨in_wsA 486 (by decide +kernel) rfl, in_wsA 487 (by decide +kernel) rfl⟩
theorem cl_X10_121 : CL RX10 121 yX8_stop cX8_stop 3 (some .int) 1 := ⟨in_wsA 503 (by decide +kernel) rfl, in_wsA 8 (by decide +kernel) rfl, in_wsA 506 (by decide +kernel) rfl, by decide +kernel⟩
theorem cv_X8_stop : CLV yX8_stop := ⟨in_wsA 504 (by decide +kernel) rfl, in_wsA 505 (by decide +kernel) rfl⟩
theorem cl_X10_111 : CL RX10 111 yX8_power cX8_power 2 (some .int) 1 := ⟨in_wsA 341 (by decide +kernel) rfl, in_wsA 8 (by decide +kernel) rfl, in_wsA 344 (by decide +kernel) rfl, by decide +kernel⟩
theorem cv_X8_power : CLV yX8_power := ⟨in_wsA 342 (by decide +kernel) rfl, in_wsA 343 (by decide +kernel) rfl⟩
theorem cl_X10_107 : CL RX10 107 yX10_haggled cX10_haggled 15 (some .boolean) 5 := ⟨in_wsA 608 (by decide +kernel) rfl, in_wsA 7 (by decide +kernel) rfl, in_wsA 610 (by decide +kernel) rfl, by decide +kernel⟩
theorem cs_X10_haggled : Cond.static yX10_haggled ∈ wsA := in_wsA 609 (by decide +kernel) rfl
theorem cl_X10_97 : CL RX10 97 yX8_heatNext cX8_heatNext 2 (some .int) 1 := ⟨in_wsA 516 (by decide +kernel) rfl, in_wsA 8 (by decide +kernel) rfl, in_wsA 519 (by decide +kernel) rfl, by decide +kernel⟩
theorem cv_X8_heatNext : CLV yX8_heatNext := ⟨in_wsA 517 (by decide +kernel) rfl, in_wsA 518 (by decide +kernel) rfl⟩
theorem cl_X10_104 : CL RX10 104 yX8_pass cX8_pass 4 (some .int) 1 := ⟨in_wsA 365 (by decide +kernel) rfl, in_wsA 8 (by decide +kernel) rfl, in_wsA 368 (by decide +kernel) rfl, by decide +kernel⟩
theorem cv_X8_pass : CLV yX8_pass := ⟨in_wsA 366 (by decide +kernel) rfl, in_wsA 367 (by decide +kernel) rfl⟩
theorem cl_X10_83 : CL RX10 83 yX8_set cX8_set 4 (some .int) 2 := ⟨in_wsA 320 (by decide +kernel) rfl, in_wsA 8 (by decide +kernel) rfl, in_wsA 323 (by decide +kernel) rfl, by decide +kernel⟩
theorem cv_X8_set : CLV yX8_set := ⟨in_wsA 321 (by decide +kernel) rfl, in_wsA 322 (by decide +kernel) rfl⟩
