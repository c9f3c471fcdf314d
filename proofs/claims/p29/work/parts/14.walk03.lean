abbrev rm_X7_cannotWork : Room := { frames := 2, cells := 0, slots := 0, locals := 42 }
def s_X7_cannotWork_J25 (v0 : Nat) (v1 : Int32) (h : Hp) : Rv Int32 :=
  if v1 = 115 then getI h v0 7 5 fun x4 =>
  if x4 ≤ 0 then retZ 0 h
  else retZ 1 h
  else retZ 0 h
def s_X7_cannotWork (a0 : Nat) (h : Hp) : Rv Int32 :=
  getR h a0 7 0 fun x1 =>
  getI h a0 7 3 fun x2 =>
  inv h x1 4 (s_X4_kindOf x1 x2 h) fun x3 h =>
  if x3 = 104 then getI h a0 7 5 fun x5 =>
  if x5 = 0 then retZ 1 h
  else s_X7_cannotWork_J25 a0 x3 h
  else s_X7_cannotWork_J25 a0 x3 h
set_option maxRecDepth 100000 in
set_option maxHeartbeats 4000000 in
theorem o_X7_cannotWork_J25 {l : Launch} {base : Nat} {D : va_G} {cA : Nat → ClassId} {p : Program} {e : Env} {s : State} {m : MethodId} {args : Array Value} {below : List Frame} {meth : Method} {c : Code} (C : GC base D cA p s m args meth c cX7_cannotWork 2 RX7) (hr : meth.sig.returnType = (some .boolean)) {X : Int32 × Hp} : ∀ (v0 : Nat) (v1 : Int32) (h : Hp), s_X7_cannotWork_J25 v0 v1 h = some X → GW base D cA p l e rm_X7_cannotWork s m args below meth c (MQ below (QcI base D cA X.1 X.2) args s 0 0 (AA base)) 2 h 0 0 25 [(0, .ref (base + v0)), (1, .int v1)] [] := by
  intro v0 v1 h E
  unfold s_X7_cannotWork_J25 at E
  refine g_iload_n C 1 dX7_cannotWork_25 rfl rfl ?_
  refine g_bipush C 115 dX7_cannotWork_26 rfl ?_
  refine g_icmp_ne C 42 dX7_cannotWork_28 (by decide) E (fun E => ?_) (fun E => ?_)
  · refine g_iconst C 0 dX7_cannotWork_42 rfl ?_
    exact g_zret C dX7_cannotWork_43 hr E
  · refine g_aload_n C 0 dX7_cannotWork_31 rfl rfl ?_
    refine g_getI C dX7_cannotWork_32 fl_X7_24 (by decide) (by decide) E (fun x1 E => ?_)
    refine g_if_le C 42 dX7_cannotWork_35 (by decide) E (fun E => ?_) (fun E => ?_)
    · refine g_iconst C 0 dX7_cannotWork_42 rfl ?_
      exact g_zret C dX7_cannotWork_43 hr E
    · refine g_iconst C 1 dX7_cannotWork_38 rfl ?_
      refine g_goto C 43 dX7_cannotWork_39 (by decide) ?_
      exact g_zret C dX7_cannotWork_43 hr E
set_option maxRecDepth 100000 in
set_option maxHeartbeats 4000000 in
theorem o_X7_cannotWork (l : Launch) (base : Nat) (D : va_G) (cA : Nat → ClassId) (a0 : Nat) (h : Hp) (r : Int32) (h' : Hp) (E : s_X7_cannotWork a0 h = some (r, h')) : Met l yX7_cannotWork (.code yX7_cannotWork cX7_cannotWork 2 (some .boolean) :: wsA) rm_X7_cannotWork (PcG base D cA [.ref (base + a0)] h) (QcI base D cA r h') 0 0 (AA base) := by
  refine g_met [.ref (base + a0)] (by decide) (Nat.le_of_ble_eq_true rfl) (fun p e s m args below meth c C hr hn => ?_)
  refine g_lv (lv' := [(0, .ref (base + a0))]) rfl ?_
  unfold s_X7_cannotWork at E
  refine g_aload_n C 0 dX7_cannotWork_0 rfl rfl ?_
  refine g_getR C dX7_cannotWork_1 fl_X7_34 rfl E (fun x1 E => ?_)
  refine g_aload_n C 0 dX7_cannotWork_4 rfl rfl ?_
  refine g_getI C dX7_cannotWork_5 fl_X7_18 (by decide) (by decide) E (fun x2 E => ?_)
  refine g_invI C (q := (RX4, TX4, 3)) [.int x2] dX7_cannotWork_8 cl_X7_45 cv_X4_kindOf rfl (by decide) rfl rfl ⟨Nat.le_of_ble_eq_true rfl, Nat.le_of_ble_eq_true rfl⟩ (Nat.le_of_ble_eq_true rfl) ⟨Nat.le_of_ble_eq_true rfl, Nat.le_of_ble_eq_true rfl⟩ rfl (fun r' h' E => o_X4_kindOf l base D cA x1 x2 h r' h' E) E (fun x3 h4 E => ?_)
  refine g_istore_n C (lv' := [(1, .int x3), (0, .ref (base + a0))]) dX7_cannotWork_11 rfl (by decide) rfl ?_
  refine g_iload_n C 0 dX7_cannotWork_12 rfl rfl ?_
  refine g_bipush C 104 dX7_cannotWork_13 rfl ?_
  refine g_icmp_ne C 25 dX7_cannotWork_15 (by decide) E (fun E => ?_) (fun E => ?_)
  · refine g_sub (lv' := [(0, .ref (base + a0)), (1, .int x3)]) [1, 0] rfl ?_
    exact o_X7_cannotWork_J25 C hr a0 x3 h4 E
  · refine g_aload_n C 1 dX7_cannotWork_18 rfl rfl ?_
    refine g_getI C dX7_cannotWork_19 fl_X7_24 (by decide) (by decide) E (fun x5 E => ?_)
    refine g_if_eq C 38 dX7_cannotWork_22 (by decide) E (fun E => ?_) (fun E => ?_)
    · refine g_iconst C 1 dX7_cannotWork_38 rfl ?_
      refine g_goto C 43 dX7_cannotWork_39 (by decide) ?_
      exact g_zret C dX7_cannotWork_43 hr E
    · refine g_sub (lv' := [(0, .ref (base + a0)), (1, .int x3)]) [1, 0] rfl ?_
      exact o_X7_cannotWork_J25 C hr a0 x3 h4 E
abbrev rm_X7_pour : Room := { frames := 1, cells := 0, slots := 0, locals := 13 }
def s_X7_pour (a0 : Nat) (a1 : Int32) (h : Hp) : Rv Unit :=
  getI h a0 7 4 fun x1 =>
  getI h a0 7 5 fun x2 =>
  putI h a0 7 5 (x2 + (if (a1 - (6 * (x1 - 1))) < 6 then (a1 - (6 * (x1 - 1))) else 6)) fun h =>
  getI h a0 7 7 fun x3 =>
  putI h a0 7 7 (x3 + (if (a1 - (6 * (x1 - 1))) < 6 then (a1 - (6 * (x1 - 1))) else 6)) fun h =>
  getL h a0 7 6 fun x4 =>
  putL h a0 7 6 (x4 + (60 * ((if (a1 - (6 * (x1 - 1))) < 6 then (a1 - (6 * (x1 - 1))) else 6).toInt64))) fun h =>
  retU h
set_option maxRecDepth 100000 in
set_option maxHeartbeats 4000000 in
theorem o_X7_pour (l : Launch) (base : Nat) (D : va_G) (cA : Nat → ClassId) (a0 : Nat) (a1 : Int32) (h : Hp) (r : Unit) (h' : Hp) (E : s_X7_pour a0 a1 h = some (r, h')) : Met l yX7_pour (.code yX7_pour cX7_pour 4 none :: wsA) rm_X7_pour (PcG base D cA [.ref (base + a0), .int a1] h) (QcU base D cA h') 0 0 (AA base) := by
  refine g_met [.ref (base + a0), .int a1] (by decide) (Nat.le_of_ble_eq_true rfl) (fun p e s m args below meth c C hr hn => ?_)
  refine g_lv (lv' := [(0, .ref (base + a0)), (1, .int a1)]) rfl ?_
  unfold s_X7_pour at E
  refine g_iload_n C 1 dX7_pour_0 rfl rfl ?_
  refine g_bipush C 6 dX7_pour_1 rfl ?_
  refine g_aload_n C 0 dX7_pour_3 rfl rfl ?_
  refine g_getI C dX7_pour_4 fl_X7_21 (by decide) (by decide) E (fun x1 E => ?_)
  refine g_iconst C 1 dX7_pour_7 rfl ?_
  refine g_isub C dX7_pour_8 ?_
  refine g_imul C dX7_pour_9 ?_
  refine g_isub C dX7_pour_10 ?_
  refine g_istore_n C (lv' := [(2, .int (a1 - (6 * (x1 - 1)))), (0, .ref (base + a0)), (1, .int a1)]) dX7_pour_11 rfl (by decide) rfl ?_
  refine g_bipush C 6 dX7_pour_12 rfl ?_
  refine g_iload_n C 0 dX7_pour_14 rfl rfl ?_
  refine g_mmin C dX7_pour_15 (in_wsA 460 (by decide +kernel) rfl) (in_wsA 413 (by decide +kernel) rfl) (in_wsA 11 (by decide +kernel) rfl) (in_wsA 414 (by decide +kernel) rfl) (Nat.le_of_ble_eq_true rfl) (Nat.le_of_ble_eq_true rfl) (Nat.le_of_ble_eq_true rfl) (Nat.le_of_ble_eq_true rfl) ?_
  refine g_istore_n C (lv' := [(3, .int (if (a1 - (6 * (x1 - 1))) < 6 then (a1 - (6 * (x1 - 1))) else 6)), (2, .int (a1 - (6 * (x1 - 1)))), (0, .ref (base + a0)), (1, .int a1)]) dX7_pour_18 rfl (by decide) rfl ?_
  refine g_aload_n C 2 dX7_pour_19 rfl rfl ?_
  refine g_dup C dX7_pour_20 rfl ?_
  refine g_getI C dX7_pour_21 fl_X7_24 (by decide) (by decide) E (fun x2 E => ?_)
  refine g_iload_n C 0 dX7_pour_24 rfl rfl ?_
  refine g_iadd C dX7_pour_25 ?_
  refine g_putI C false dX7_pour_26 fl_X7_24 fp_X7_7_5 (fun q => Bool.noConfusion q) rfl E (fun h3 E => ?_)
  refine g_aload_n C 2 dX7_pour_29 rfl rfl ?_
  refine g_dup C dX7_pour_30 rfl ?_
  refine g_getI C dX7_pour_31 fl_X7_31 (by decide) (by decide) E (fun x4 E => ?_)
  refine g_iload_n C 0 dX7_pour_34 rfl rfl ?_
  refine g_iadd C dX7_pour_35 ?_
  refine g_putI C false dX7_pour_36 fl_X7_31 fp_X7_7_7 (fun q => Bool.noConfusion q) rfl E (fun h5 E => ?_)
  refine g_aload_n C 2 dX7_pour_39 rfl rfl ?_
  refine g_dup C dX7_pour_40 rfl ?_
  refine g_getL C dX7_pour_41 fl_X7_27 rfl E (fun x6 E => ?_)
  refine g_ldc2 C 60 dX7_pour_44 (in_wsA 461 (by decide +kernel) rfl) ?_
  refine g_iload_n C 0 dX7_pour_47 rfl rfl ?_
  refine g_i2l C dX7_pour_48 ?_
  refine g_lmul C dX7_pour_49 ?_
  refine g_ladd C dX7_pour_50 ?_
  refine g_putL C false dX7_pour_51 fl_X7_27 fp_X7_7_6 (fun q => Bool.noConfusion q) rfl E (fun h7 E => ?_)
  exact g_vret C dX7_pour_54 hr E
abbrev rm_X7_drain : Room := { frames := 1, cells := 0, slots := 0, locals := 13 }
def s_X7_drain (a0 : Nat) (h : Hp) : Rv Unit :=
  getI h a0 7 5 fun x1 =>
  getI h a0 7 5 fun x2 =>
  if x2 ≤ 0 then putL h a0 7 6 0 fun h =>
  putI h a0 7 5 (if 0 < (x1 - 12) then (x1 - 12) else 0) fun h =>
  retU h
  else getL h a0 7 6 fun x3 =>
  getI h a0 7 5 fun x4 =>
  divL (x3 * ((if 0 < (x1 - 12) then (x1 - 12) else 0).toInt64)) x4.toInt64 fun x5 =>
  putL h a0 7 6 x5 fun h =>
  putI h a0 7 5 (if 0 < (x1 - 12) then (x1 - 12) else 0) fun h =>
  retU h
set_option maxRecDepth 100000 in
set_option maxHeartbeats 4000000 in
theorem o_X7_drain (l : Launch) (base : Nat) (D : va_G) (cA : Nat → ClassId) (a0 : Nat) (h : Hp) (r : Unit) (h' : Hp) (E : s_X7_drain a0 h = some (r, h')) : Met l yX7_drain (.code yX7_drain cX7_drain 2 none :: wsA) rm_X7_drain (PcG base D cA [.ref (base + a0)] h) (QcU base D cA h') 0 0 (AA base) := by
  refine g_met [.ref (base + a0)] (by decide) (Nat.le_of_ble_eq_true rfl) (fun p e s m args below meth c C hr hn => ?_)
  refine g_lv (lv' := [(0, .ref (base + a0))]) rfl ?_
  unfold s_X7_drain at E
  refine g_iconst C 0 dX7_drain_0 rfl ?_
  refine g_aload_n C 0 dX7_drain_1 rfl rfl ?_
  refine g_getI C dX7_drain_2 fl_X7_24 (by decide) (by decide) E (fun x1 E => ?_)
  refine g_bipush C 12 dX7_drain_5 rfl ?_
  refine g_isub C dX7_drain_7 ?_
  refine g_mmax C dX7_drain_8 (in_wsA 466 (by decide +kernel) rfl) (in_wsA 43 (by decide +kernel) rfl) (in_wsA 11 (by decide +kernel) rfl) (in_wsA 44 (by decide +kernel) rfl) (Nat.le_of_ble_eq_true rfl) (Nat.le_of_ble_eq_true rfl) (Nat.le_of_ble_eq_true rfl) (Nat.le_of_ble_eq_true rfl) ?_
  refine g_istore_n C (lv' := [(1, .int (if 0 < (x1 - 12) then (x1 - 12) else 0)), (0, .ref (base + a0))]) dX7_drain_11 rfl (by decide) rfl ?_
  refine g_aload_n C 1 dX7_drain_12 rfl rfl ?_
  refine g_aload_n C 1 dX7_drain_13 rfl rfl ?_
  refine g_getI C dX7_drain_14 fl_X7_24 (by decide) (by decide) E (fun x2 E => ?_)
  refine g_if_le C 36 dX7_drain_17 (by decide) E (fun E => ?_) (fun E => ?_)
  · refine g_lconst C 0 dX7_drain_36 rfl ?_
    refine g_putL C false dX7_drain_37 fl_X7_27 fp_X7_7_6 (fun q => Bool.noConfusion q) rfl E (fun h3 E => ?_)
    refine g_aload_n C 1 dX7_drain_40 rfl rfl ?_
    refine g_iload_n C 0 dX7_drain_41 rfl rfl ?_
    refine g_putI C false dX7_drain_42 fl_X7_24 fp_X7_7_5 (fun q => Bool.noConfusion q) rfl E (fun h4 E => ?_)
    exact g_vret C dX7_drain_45 hr E
  · refine g_aload_n C 1 dX7_drain_20 rfl rfl ?_
    refine g_getL C dX7_drain_21 fl_X7_27 rfl E (fun x5 E => ?_)
    refine g_iload_n C 0 dX7_drain_24 rfl rfl ?_
    refine g_i2l C dX7_drain_25 ?_
    refine g_lmul C dX7_drain_26 ?_
    refine g_aload_n C 1 dX7_drain_27 rfl rfl ?_
    refine g_getI C dX7_drain_28 fl_X7_24 (by decide) (by decide) E (fun x6 E => ?_)
    refine g_i2l C dX7_drain_31 ?_
    refine g_ldiv C dX7_drain_32 E (fun x7 E => ?_)
    refine g_goto C 37 dX7_drain_33 (by decide) ?_
    refine g_putL C false dX7_drain_37 fl_X7_27 fp_X7_7_6 (fun q => Bool.noConfusion q) rfl E (fun h8 E => ?_)
    refine g_aload_n C 1 dX7_drain_40 rfl rfl ?_
    refine g_iload_n C 0 dX7_drain_41 rfl rfl ?_
    refine g_putI C false dX7_drain_42 fl_X7_24 fp_X7_7_5 (fun q => Bool.noConfusion q) rfl E (fun h9 E => ?_)
    exact g_vret C dX7_drain_45 hr E
abbrev rm_X7_change : Room := { frames := 2, cells := 0, slots := 0, locals := 42 }
def s_X7_change (a0 : Nat) (a1 : Int32) (h : Hp) : Rv Unit :=
  getR h a0 7 0 fun x1 =>
  getI h a0 7 3 fun x2 =>
  inv h x1 4 (s_X4_kindOf x1 x2 h) fun x3 h =>
  if x3 = 100 then inv h a0 7 (s_X7_drain a0 h) fun _ h =>
  retU h
  else if x3 = 102 then getR h a0 7 0 fun x4 =>
  getI h a0 7 3 fun x5 =>
  inv h x4 4 (s_X4_numberOf x4 x5 h) fun x6 h =>
  inv h a0 7 (s_X7_pour a0 x6 h) fun _ h =>
  retU h
  else if x3 = 104 then getL h a0 7 6 fun x7 =>
  putL h a0 7 6 (x7 + a1.toInt64) fun h =>
  retU h
  else retU h
set_option maxRecDepth 100000 in
set_option maxHeartbeats 4000000 in
theorem o_X7_change (l : Launch) (base : Nat) (D : va_G) (cA : Nat → ClassId) (a0 : Nat) (a1 : Int32) (h : Hp) (r : Unit) (h' : Hp) (E : s_X7_change a0 a1 h = some (r, h')) : Met l yX7_change (.code yX7_change cX7_change 2 none :: wsA) rm_X7_change (PcG base D cA [.ref (base + a0), .int a1] h) (QcU base D cA h') 0 0 (AA base) := by
  refine g_met [.ref (base + a0), .int a1] (by decide) (Nat.le_of_ble_eq_true rfl) (fun p e s m args below meth c C hr hn => ?_)
  refine g_lv (lv' := [(0, .ref (base + a0)), (1, .int a1)]) rfl ?_
  unfold s_X7_change at E
  refine g_aload_n C 0 dX7_change_0 rfl rfl ?_
  refine g_getR C dX7_change_1 fl_X7_34 rfl E (fun x1 E => ?_)
  refine g_aload_n C 0 dX7_change_4 rfl rfl ?_
  refine g_getI C dX7_change_5 fl_X7_18 (by decide) (by decide) E (fun x2 E => ?_)
  refine g_invI C (q := (RX4, TX4, 3)) [.int x2] dX7_change_8 cl_X7_45 cv_X4_kindOf rfl (by decide) rfl rfl ⟨Nat.le_of_ble_eq_true rfl, Nat.le_of_ble_eq_true rfl⟩ (Nat.le_of_ble_eq_true rfl) ⟨Nat.le_of_ble_eq_true rfl, Nat.le_of_ble_eq_true rfl⟩ rfl (fun r' h' E => o_X4_kindOf l base D cA x1 x2 h r' h' E) E (fun x3 h4 E => ?_)
  by_cases q5 : x3 = 100
  · rw [if_pos q5] at E
    refine g_tswIn C 100 76 q5 dX7_change_11 (by decide) (by decide) rfl (by decide) ?_
    refine g_aload_n C 0 dX7_change_76 rfl rfl ?_
    refine g_invU C (q := (RX7, TX7, 8)) [] dX7_change_77 cl_X7_78 cv_X7_drain rfl (by decide) rfl rfl ⟨Nat.le_of_ble_eq_true rfl, Nat.le_of_ble_eq_true rfl⟩ (Nat.le_of_ble_eq_true rfl) ⟨Nat.le_of_ble_eq_true rfl, Nat.le_of_ble_eq_true rfl⟩ rfl (fun r' h' E => o_X7_drain l base D cA a0 h4 r' h' E) E (fun x6 h7 E => ?_)
    refine g_goto C 83 dX7_change_80 (by decide) ?_
    exact g_vret C dX7_change_83 hr E
  rw [if_neg q5] at E
  by_cases q8 : x3 = 102
  · rw [if_pos q8] at E
    refine g_tswIn C 102 44 q8 dX7_change_11 (by decide) (by decide) rfl (by decide) ?_
    refine g_aload_n C 0 dX7_change_44 rfl rfl ?_
    refine g_aload_n C 0 dX7_change_45 rfl rfl ?_
    refine g_getR C dX7_change_46 fl_X7_34 rfl E (fun x9 E => ?_)
    refine g_aload_n C 0 dX7_change_49 rfl rfl ?_
    refine g_getI C dX7_change_50 fl_X7_18 (by decide) (by decide) E (fun x10 E => ?_)
    refine g_invI C (q := (RX4, TX4, 3)) [.int x10] dX7_change_53 cl_X7_49 cv_X4_numberOf rfl (by decide) rfl rfl ⟨Nat.le_of_ble_eq_true rfl, Nat.le_of_ble_eq_true rfl⟩ (Nat.le_of_ble_eq_true rfl) ⟨Nat.le_of_ble_eq_true rfl, Nat.le_of_ble_eq_true rfl⟩ rfl (fun r' h' E => o_X4_numberOf l base D cA x9 x10 h4 r' h' E) E (fun x11 h12 E => ?_)
    refine g_invU C (q := (RX7, TX7, 8)) [.int x11] dX7_change_56 cl_X7_75 cv_X7_pour rfl (by decide) rfl rfl ⟨Nat.le_of_ble_eq_true rfl, Nat.le_of_ble_eq_true rfl⟩ (Nat.le_of_ble_eq_true rfl) ⟨Nat.le_of_ble_eq_true rfl, Nat.le_of_ble_eq_true rfl⟩ rfl (fun r' h' E => o_X7_pour l base D cA a0 x11 h12 r' h' E) E (fun x13 h14 E => ?_)
    refine g_goto C 83 dX7_change_59 (by decide) ?_
    exact g_vret C dX7_change_83 hr E
  rw [if_neg q8] at E
  by_cases q15 : x3 = 104
  · rw [if_pos q15] at E
    refine g_tswIn C 104 62 q15 dX7_change_11 (by decide) (by decide) rfl (by decide) ?_
    refine g_aload_n C 0 dX7_change_62 rfl rfl ?_
    refine g_dup C dX7_change_63 rfl ?_
    refine g_getL C dX7_change_64 fl_X7_27 rfl E (fun x16 E => ?_)
    refine g_iload_n C 1 dX7_change_67 rfl rfl ?_
    refine g_i2l C dX7_change_68 ?_
    refine g_ladd C dX7_change_69 ?_
    refine g_putL C false dX7_change_70 fl_X7_27 fp_X7_7_6 (fun q => Bool.noConfusion q) rfl E (fun h17 E => ?_)
    refine g_goto C 83 dX7_change_73 (by decide) ?_
    exact g_vret C dX7_change_83 hr E
  rw [if_neg q15] at E
  refine g_tswDf C 83 dX7_change_11 (fun z z1 z2 zx => ?_) (by decide) ?_
  · rcases (show z = 100 ∨ z = 101 ∨ z = 102 ∨ z = 103 ∨ z = 104 by omega) with rfl | rfl | rfl | rfl | rfl
    · exact absurd zx (lv_neT q5 (by decide))
    · rfl
    · exact absurd zx (lv_neT q8 (by decide))
    · rfl
    · exact absurd zx (lv_neT q15 (by decide))
  exact g_vret C dX7_change_83 hr E
abbrev rm_X7_isPhaseOver : Room := { frames := 2, cells := 0, slots := 0, locals := 42 }
def s_X7_isPhaseOver (a0 : Nat) (h : Hp) : Rv Int32 :=
  getR h a0 7 0 fun x1 =>
  getI h a0 7 3 fun x2 =>
  inv h x1 4 (s_X4_numberOf x1 x2 h) fun x3 h =>
  getR h a0 7 0 fun x4 =>
  getI h a0 7 3 fun x5 =>
  inv h x4 4 (s_X4_kindOf x4 x5 h) fun x6 h =>
  if x6 = 100 then getI h a0 7 5 fun x7 =>
  if x7 = 0 then retZ 1 h
  else retZ 0 h
  else if x6 = 102 then getI h a0 7 4 fun x8 =>
  if (6 * x8) < x3 then retZ 0 h
  else retZ 1 h
  else if x6 = 104 then inv h a0 7 (s_X7_temperature a0 h) fun x9 h =>
  if x9 < x3 then retZ 0 h
  else retZ 1 h
  else getI h a0 7 4 fun x10 =>
  if x10 < x3 then retZ 0 h
  else retZ 1 h
set_option maxRecDepth 100000 in
set_option maxHeartbeats 4000000 in
theorem o_X7_isPhaseOver (l : Launch) (base : Nat) (D : va_G) (cA : Nat → ClassId) (a0 : Nat) (h : Hp) (r : Int32) (h' : Hp) (E : s_X7_isPhaseOver a0 h = some (r, h')) : Met l yX7_isPhaseOver (.code yX7_isPhaseOver cX7_isPhaseOver 2 (some .boolean) :: wsA) rm_X7_isPhaseOver (PcG base D cA [.ref (base + a0)] h) (QcI base D cA r h') 0 0 (AA base) := by
  refine g_met [.ref (base + a0)] (by decide) (Nat.le_of_ble_eq_true rfl) (fun p e s m args below meth c C hr hn => ?_)
  refine g_lv (lv' := [(0, .ref (base + a0))]) rfl ?_
  unfold s_X7_isPhaseOver at E
  refine g_aload_n C 0 dX7_isPhaseOver_0 rfl rfl ?_
  refine g_getR C dX7_isPhaseOver_1 fl_X7_34 rfl E (fun x1 E => ?_)
  refine g_aload_n C 0 dX7_isPhaseOver_4 rfl rfl ?_
  refine g_getI C dX7_isPhaseOver_5 fl_X7_18 (by decide) (by decide) E (fun x2 E => ?_)
  refine g_invI C (q := (RX4, TX4, 3)) [.int x2] dX7_isPhaseOver_8 cl_X7_49 cv_X4_numberOf rfl (by decide) rfl rfl ⟨Nat.le_of_ble_eq_true rfl, Nat.le_of_ble_eq_true rfl⟩ (Nat.le_of_ble_eq_true rfl) ⟨Nat.le_of_ble_eq_true rfl, Nat.le_of_ble_eq_true rfl⟩ rfl (fun r' h' E => o_X4_numberOf l base D cA x1 x2 h r' h' E) E (fun x3 h4 E => ?_)
  refine g_istore_n C (lv' := [(1, .int x3), (0, .ref (base + a0))]) dX7_isPhaseOver_11 rfl (by decide) rfl ?_
  refine g_aload_n C 1 dX7_isPhaseOver_12 rfl rfl ?_
  refine g_getR C dX7_isPhaseOver_13 fl_X7_34 rfl E (fun x5 E => ?_)
  refine g_aload_n C 1 dX7_isPhaseOver_16 rfl rfl ?_
  refine g_getI C dX7_isPhaseOver_17 fl_X7_18 (by decide) (by decide) E (fun x6 E => ?_)
  refine g_invI C (q := (RX4, TX4, 3)) [.int x6] dX7_isPhaseOver_20 cl_X7_45 cv_X4_kindOf rfl (by decide) rfl rfl ⟨Nat.le_of_ble_eq_true rfl, Nat.le_of_ble_eq_true rfl⟩ (Nat.le_of_ble_eq_true rfl) ⟨Nat.le_of_ble_eq_true rfl, Nat.le_of_ble_eq_true rfl⟩ rfl (fun r' h' E => o_X4_kindOf l base D cA x5 x6 h4 r' h' E) E (fun x7 h8 E => ?_)
  by_cases q9 : x7 = 100
  · rw [if_pos q9] at E
    refine g_tswIn C 100 87 q9 dX7_isPhaseOver_23 (by decide) (by decide) rfl (by decide) ?_
    refine g_aload_n C 1 dX7_isPhaseOver_87 rfl rfl ?_
    refine g_getI C dX7_isPhaseOver_88 fl_X7_24 (by decide) (by decide) E (fun x10 E => ?_)
    refine g_if_ne C 98 dX7_isPhaseOver_91 (by decide) E (fun E => ?_) (fun E => ?_)
    · refine g_iconst C 0 dX7_isPhaseOver_98 rfl ?_
      exact g_zret C dX7_isPhaseOver_99 hr E
    · refine g_iconst C 1 dX7_isPhaseOver_94 rfl ?_
      refine g_goto C 99 dX7_isPhaseOver_95 (by decide) ?_
      exact g_zret C dX7_isPhaseOver_99 hr E
  rw [if_neg q9] at E
  by_cases q11 : x7 = 102
  · rw [if_pos q11] at E
    refine g_tswIn C 102 56 q11 dX7_isPhaseOver_23 (by decide) (by decide) rfl (by decide) ?_
    refine g_bipush C 6 dX7_isPhaseOver_56 rfl ?_
    refine g_aload_n C 1 dX7_isPhaseOver_58 rfl rfl ?_
    refine g_getI C dX7_isPhaseOver_59 fl_X7_21 (by decide) (by decide) E (fun x12 E => ?_)
    refine g_imul C dX7_isPhaseOver_62 ?_
    refine g_iload_n C 0 dX7_isPhaseOver_63 rfl rfl ?_
    refine g_icmp_lt C 71 dX7_isPhaseOver_64 (by decide) E (fun E => ?_) (fun E => ?_)
    · refine g_iconst C 0 dX7_isPhaseOver_71 rfl ?_
      exact g_zret C dX7_isPhaseOver_72 hr E
    · refine g_iconst C 1 dX7_isPhaseOver_67 rfl ?_
      refine g_goto C 72 dX7_isPhaseOver_68 (by decide) ?_
      exact g_zret C dX7_isPhaseOver_72 hr E
  rw [if_neg q11] at E
  by_cases q13 : x7 = 104
  · rw [if_pos q13] at E
    refine g_tswIn C 104 73 q13 dX7_isPhaseOver_23 (by decide) (by decide) rfl (by decide) ?_
    refine g_aload_n C 1 dX7_isPhaseOver_73 rfl rfl ?_
    refine g_invI C (q := (RX7, TX7, 8)) [] dX7_isPhaseOver_74 cl_X7_88 cv_X7_temperature rfl (by decide) rfl rfl ⟨Nat.le_of_ble_eq_true rfl, Nat.le_of_ble_eq_true rfl⟩ (Nat.le_of_ble_eq_true rfl) ⟨Nat.le_of_ble_eq_true rfl, Nat.le_of_ble_eq_true rfl⟩ rfl (fun r' h' E => o_X7_temperature l base D cA a0 h8 r' h' E) E (fun x14 h15 E => ?_)
    refine g_iload_n C 0 dX7_isPhaseOver_77 rfl rfl ?_
    refine g_icmp_lt C 85 dX7_isPhaseOver_78 (by decide) E (fun E => ?_) (fun E => ?_)
    · refine g_iconst C 0 dX7_isPhaseOver_85 rfl ?_
      exact g_zret C dX7_isPhaseOver_86 hr E
    · refine g_iconst C 1 dX7_isPhaseOver_81 rfl ?_
      refine g_goto C 86 dX7_isPhaseOver_82 (by decide) ?_
      exact g_zret C dX7_isPhaseOver_86 hr E
  rw [if_neg q13] at E
  refine g_tswDf C 100 dX7_isPhaseOver_23 (fun z z1 z2 zx => ?_) (by decide) ?_
  · rcases (show z = 100 ∨ z = 101 ∨ z = 102 ∨ z = 103 ∨ z = 104 by omega) with rfl | rfl | rfl | rfl | rfl
    · exact absurd zx (lv_neT q9 (by decide))
    · rfl
    · exact absurd zx (lv_neT q11 (by decide))
    · rfl
    · exact absurd zx (lv_neT q13 (by decide))
  refine g_aload_n C 1 dX7_isPhaseOver_100 rfl rfl ?_
  refine g_getI C dX7_isPhaseOver_101 fl_X7_21 (by decide) (by decide) E (fun x16 E => ?_)
  refine g_iload_n C 0 dX7_isPhaseOver_104 rfl rfl ?_
  refine g_icmp_lt C 112 dX7_isPhaseOver_105 (by decide) E (fun E => ?_) (fun E => ?_)
  · refine g_iconst C 0 dX7_isPhaseOver_112 rfl ?_
    exact g_zret C dX7_isPhaseOver_113 hr E
  · refine g_iconst C 1 dX7_isPhaseOver_108 rfl ?_
    refine g_goto C 113 dX7_isPhaseOver_109 (by decide) ?_
    exact g_zret C dX7_isPhaseOver_113 hr E
abbrev rm_X7_endsInMinute : Room := { frames := 3, cells := 0, slots := 0, locals := 63 }
def s_X7_endsInMinute (a0 : Nat) (a1 : Int32) (h : Hp) : Rv Int32 :=
  inv h a0 7 (s_X7_cannotWork a0 h) fun x1 h =>
  if x1 = 0 then getI h a0 7 4 fun x2 =>
  putI h a0 7 4 (x2 + 1) fun h =>
  inv h a0 7 (s_X7_change a0 a1 h) fun _ h =>
  inv h a0 7 (s_X7_isPhaseOver a0 h) fun x3 h =>
  if x3 = 0 then retZ 0 h
  else getI h a0 7 3 fun x4 =>
  putI h a0 7 3 (x4 + 1) fun h =>
  putI h a0 7 4 0 fun h =>
  getI h a0 7 3 fun x5 =>
  getR h a0 7 0 fun x6 =>
  getI h x6 4 0 fun x7 =>
  if x7 ≤ x5 then putI h a0 7 1 0 fun h =>
  retZ 1 h
  else retZ 0 h
  else putI h a0 7 1 2 fun h =>
  retZ 0 h
set_option maxRecDepth 100000 in
set_option maxHeartbeats 4000000 in
theorem o_X7_endsInMinute (l : Launch) (base : Nat) (D : va_G) (cA : Nat → ClassId) (a0 : Nat) (a1 : Int32) (h : Hp) (r : Int32) (h' : Hp) (E : s_X7_endsInMinute a0 a1 h = some (r, h')) : Met l yX7_endsInMinute (.code yX7_endsInMinute cX7_endsInMinute 2 (some .boolean) :: wsA) rm_X7_endsInMinute (PcG base D cA [.ref (base + a0), .int a1] h) (QcI base D cA r h') 0 0 (AA base) := by
  refine g_met [.ref (base + a0), .int a1] (by decide) (Nat.le_of_ble_eq_true rfl) (fun p e s m args below meth c C hr hn => ?_)
  refine g_lv (lv' := [(0, .ref (base + a0)), (1, .int a1)]) rfl ?_
  unfold s_X7_endsInMinute at E
  refine g_aload_n C 0 dX7_endsInMinute_0 rfl rfl ?_
  refine g_invI C (q := (RX7, TX7, 8)) [] dX7_endsInMinute_1 cl_X7_64 cv_X7_cannotWork rfl (by decide) rfl rfl ⟨Nat.le_of_ble_eq_true rfl, Nat.le_of_ble_eq_true rfl⟩ (Nat.le_of_ble_eq_true rfl) ⟨Nat.le_of_ble_eq_true rfl, Nat.le_of_ble_eq_true rfl⟩ rfl (fun r' h' E => o_X7_cannotWork l base D cA a0 h r' h' E) E (fun x1 h2 E => ?_)
  refine g_if_eq C 14 dX7_endsInMinute_4 (by decide) E (fun E => ?_) (fun E => ?_)
  · refine g_aload_n C 0 dX7_endsInMinute_14 rfl rfl ?_
    refine g_dup C dX7_endsInMinute_15 rfl ?_
    refine g_getI C dX7_endsInMinute_16 fl_X7_21 (by decide) (by decide) E (fun x3 E => ?_)
    refine g_iconst C 1 dX7_endsInMinute_19 rfl ?_
    refine g_iadd C dX7_endsInMinute_20 ?_
    refine g_putI C false dX7_endsInMinute_21 fl_X7_21 fp_X7_7_4 (fun q => Bool.noConfusion q) rfl E (fun h4 E => ?_)
    refine g_aload_n C 0 dX7_endsInMinute_24 rfl rfl ?_
    refine g_iload_n C 1 dX7_endsInMinute_25 rfl rfl ?_
    refine g_invU C (q := (RX7, TX7, 8)) [.int a1] dX7_endsInMinute_26 cl_X7_68 cv_X7_change rfl (by decide) rfl rfl ⟨Nat.le_of_ble_eq_true rfl, Nat.le_of_ble_eq_true rfl⟩ (Nat.le_of_ble_eq_true rfl) ⟨Nat.le_of_ble_eq_true rfl, Nat.le_of_ble_eq_true rfl⟩ rfl (fun r' h' E => o_X7_change l base D cA a0 a1 h4 r' h' E) E (fun x5 h6 E => ?_)
    refine g_aload_n C 0 dX7_endsInMinute_29 rfl rfl ?_
    refine g_invI C (q := (RX7, TX7, 8)) [] dX7_endsInMinute_30 cl_X7_72 cv_X7_isPhaseOver rfl (by decide) rfl rfl ⟨Nat.le_of_ble_eq_true rfl, Nat.le_of_ble_eq_true rfl⟩ (Nat.le_of_ble_eq_true rfl) ⟨Nat.le_of_ble_eq_true rfl, Nat.le_of_ble_eq_true rfl⟩ rfl (fun r' h' E => o_X7_isPhaseOver l base D cA a0 h6 r' h' E) E (fun x7 h8 E => ?_)
    refine g_if_ne C 38 dX7_endsInMinute_33 (by decide) E (fun E => ?_) (fun E => ?_)
    · refine g_aload_n C 0 dX7_endsInMinute_38 rfl rfl ?_
      refine g_dup C dX7_endsInMinute_39 rfl ?_
      refine g_getI C dX7_endsInMinute_40 fl_X7_18 (by decide) (by decide) E (fun x9 E => ?_)
      refine g_iconst C 1 dX7_endsInMinute_43 rfl ?_
      refine g_iadd C dX7_endsInMinute_44 ?_
      refine g_putI C false dX7_endsInMinute_45 fl_X7_18 fp_X7_7_3 (fun q => Bool.noConfusion q) rfl E (fun h10 E => ?_)
      refine g_aload_n C 0 dX7_endsInMinute_48 rfl rfl ?_
      refine g_iconst C 0 dX7_endsInMinute_49 rfl ?_
      refine g_putI C false dX7_endsInMinute_50 fl_X7_21 fp_X7_7_4 (fun q => Bool.noConfusion q) rfl E (fun h11 E => ?_)
      refine g_aload_n C 0 dX7_endsInMinute_53 rfl rfl ?_
      refine g_getI C dX7_endsInMinute_54 fl_X7_18 (by decide) (by decide) E (fun x12 E => ?_)
      refine g_aload_n C 0 dX7_endsInMinute_57 rfl rfl ?_
      refine g_getR C dX7_endsInMinute_58 fl_X7_34 rfl E (fun x13 E => ?_)
      refine g_getI C dX7_endsInMinute_61 fl_X7_40 (by decide) (by decide) E (fun x14 E => ?_)
      refine g_icmp_ge C 69 dX7_endsInMinute_64 (by decide) E (fun E => ?_) (fun E => ?_)
      · refine g_aload_n C 0 dX7_endsInMinute_69 rfl rfl ?_
        refine g_iconst C 0 dX7_endsInMinute_70 rfl ?_
        refine g_putI C false dX7_endsInMinute_71 fl_X7_9 fp_X7_7_1 (fun q => Bool.noConfusion q) rfl E (fun h15 E => ?_)
        refine g_iconst C 1 dX7_endsInMinute_74 rfl ?_
        exact g_zret C dX7_endsInMinute_75 hr E
      · refine g_iconst C 0 dX7_endsInMinute_67 rfl ?_
        exact g_zret C dX7_endsInMinute_68 hr E
    · refine g_iconst C 0 dX7_endsInMinute_36 rfl ?_
      exact g_zret C dX7_endsInMinute_37 hr E
  · refine g_aload_n C 0 dX7_endsInMinute_7 rfl rfl ?_
    refine g_iconst C 2 dX7_endsInMinute_8 rfl ?_
    refine g_putI C false dX7_endsInMinute_9 fl_X7_9 fp_X7_7_1 (fun q => Bool.noConfusion q) rfl E (fun h16 E => ?_)
    refine g_iconst C 0 dX7_endsInMinute_12 rfl ?_
    exact g_zret C dX7_endsInMinute_13 hr E
abbrev rm_X6_work : Room := { frames := 4, cells := 0, slots := 0, locals := 84 }
def s_X6_work_L2 : Nat → Nat → Nat → Int32 → Hp → Rv Unit
  | 0, _, _, _, _ => none
  | n + 1, v0, v1, v2, h =>
    getI h v0 6 3 fun x1 =>
  if x1 ≤ v2 then retU h
  else inv h v0 6 (s_X6_washerOf v0 v2 h) fun x2 h =>
  getI h x2 7 1 fun x3 =>
  if x3 = 1 then inv h v0 6 (s_X6_washerOf v0 v2 h) fun x4 h =>
  getR h v1 0 2 fun x5 =>
  ldI h x5 20 v2 fun x6 =>
  inv h x4 7 (s_X7_endsInMinute x4 x6 h) fun x7 h =>
  if x7 = 0 then s_X6_work_L2 n v0 v1 (v2 + 1) h
  else getR h v0 6 1 fun x8 =>
  ldR h x8 22 v2 fun x9 =>
  getI h x9 2 5 fun x10 =>
  putI h x9 2 5 (x10 + 1) fun h =>
  s_X6_work_L2 n v0 v1 (v2 + 1) h
  else s_X6_work_L2 n v0 v1 (v2 + 1) h
def s_X6_work (a0 : Nat) (a1 : Nat) (h : Hp) : Rv Unit :=
  s_X6_work_L2 100000 a0 a1 0 h
set_option maxRecDepth 100000 in
set_option maxHeartbeats 4000000 in
theorem o_X6_work_L2 {l : Launch} {base : Nat} {D : va_G} {cA : Nat → ClassId} {p : Program} {e : Env} {s : State} {m : MethodId} {args : Array Value} {below : List Frame} {meth : Method} {c : Code} (C : GC base D cA p s m args meth c cX6_work 3 RX6) (hr : meth.sig.returnType = none) {X : Unit × Hp} : ∀ (n : Nat) (v0 : Nat) (v1 : Nat) (v2 : Int32) (h : Hp), s_X6_work_L2 n v0 v1 v2 h = some X → GW base D cA p l e rm_X6_work s m args below meth c (MQ below (QcU base D cA X.2) args s 0 0 (AA base)) 3 h 0 0 2 [(0, .ref (base + v0)), (1, .ref (base + v1)), (2, .int v2)] [] := by
  intro n
  induction n with
  | zero =>
    intro v0 v1 v2 h E
    rw [s_X6_work_L2] at E
    cases E
  | succ n ih =>
    intro v0 v1 v2 h E
    rw [s_X6_work_L2] at E
    refine g_iload_n C 2 dX6_work_2 rfl rfl ?_
    refine g_aload_n C 0 dX6_work_3 rfl rfl ?_
    refine g_getI C dX6_work_4 fl_X6_27 (by decide) (by decide) E (fun x1 E => ?_)
    refine g_icmp_ge C 60 dX6_work_7 (by decide) E (fun E => ?_) (fun E => ?_)
    · exact g_vret C dX6_work_60 hr E
    · refine g_aload_n C 0 dX6_work_10 rfl rfl ?_
      refine g_iload_n C 2 dX6_work_11 rfl rfl ?_
      refine g_invR C (q := (RX6, TX6, 11)) [.int v2] dX6_work_12 cl_X6_86 cv_X6_washerOf rfl (by decide) rfl rfl ⟨Nat.le_of_ble_eq_true rfl, Nat.le_of_ble_eq_true rfl⟩ (Nat.le_of_ble_eq_true rfl) ⟨Nat.le_of_ble_eq_true rfl, Nat.le_of_ble_eq_true rfl⟩ rfl (fun r' h' E => o_X6_washerOf l base D cA v0 v2 h r' h' E) E (fun x2 h3 E => ?_)
      refine g_getI C dX6_work_15 fl_X6_118 (by decide) (by decide) E (fun x4 E => ?_)
      refine g_iconst C 1 dX6_work_18 rfl ?_
      refine g_icmp_ne C 54 dX6_work_19 (by decide) E (fun E => ?_) (fun E => ?_)
      · refine g_iinc C (lv' := [(2, .int (v2 + 1)), (0, .ref (base + v0)), (1, .ref (base + v1))]) 2 1 dX6_work_54 rfl rfl (by decide) rfl ?_
        refine g_goto C 2 dX6_work_57 (by decide) ?_
        refine g_sub (lv' := [(0, .ref (base + v0)), (1, .ref (base + v1)), (2, .int (v2 + 1))]) [1, 2, 0] rfl ?_
        exact ih v0 v1 (v2 + 1) h3 E
      · refine g_aload_n C 0 dX6_work_22 rfl rfl ?_
        refine g_iload_n C 2 dX6_work_23 rfl rfl ?_
        refine g_invR C (q := (RX6, TX6, 11)) [.int v2] dX6_work_24 cl_X6_86 cv_X6_washerOf rfl (by decide) rfl rfl ⟨Nat.le_of_ble_eq_true rfl, Nat.le_of_ble_eq_true rfl⟩ (Nat.le_of_ble_eq_true rfl) ⟨Nat.le_of_ble_eq_true rfl, Nat.le_of_ble_eq_true rfl⟩ rfl (fun r' h' E => o_X6_washerOf l base D cA v0 v2 h3 r' h' E) E (fun x5 h6 E => ?_)
        refine g_aload_n C 1 dX6_work_27 rfl rfl ?_
        refine g_getR C dX6_work_28 fl_X6_188 rfl E (fun x7 E => ?_)
        refine g_iload_n C 2 dX6_work_31 rfl rfl ?_
        refine g_iald C dX6_work_32 E (fun x8 E => ?_)
        refine g_invI C (q := (RX7, TX7, 8)) [.int x8] dX6_work_33 cl_X6_191 cv_X7_endsInMinute rfl (by decide) rfl rfl ⟨Nat.le_of_ble_eq_true rfl, Nat.le_of_ble_eq_true rfl⟩ (Nat.le_of_ble_eq_true rfl) ⟨Nat.le_of_ble_eq_true rfl, Nat.le_of_ble_eq_true rfl⟩ rfl (fun r' h' E => o_X7_endsInMinute l base D cA x5 x8 h6 r' h' E) E (fun x9 h10 E => ?_)
        refine g_if_eq C 54 dX6_work_36 (by decide) E (fun E => ?_) (fun E => ?_)
        · refine g_iinc C (lv' := [(2, .int (v2 + 1)), (0, .ref (base + v0)), (1, .ref (base + v1))]) 2 1 dX6_work_54 rfl rfl (by decide) rfl ?_
          refine g_goto C 2 dX6_work_57 (by decide) ?_
          refine g_sub (lv' := [(0, .ref (base + v0)), (1, .ref (base + v1)), (2, .int (v2 + 1))]) [1, 2, 0] rfl ?_
          exact ih v0 v1 (v2 + 1) h10 E
        · refine g_aload_n C 0 dX6_work_39 rfl rfl ?_
          refine g_getR C dX6_work_40 fl_X6_17 rfl E (fun x11 E => ?_)
          refine g_iload_n C 2 dX6_work_43 rfl rfl ?_
          refine g_aald C 2 (by decide) (by decide) rfl dX6_work_44 E (fun x12 E => ?_)
          refine g_dup C dX6_work_45 rfl ?_
          refine g_getI C dX6_work_46 fl_X6_195 (by decide) (by decide) E (fun x13 E => ?_)
          refine g_iconst C 1 dX6_work_49 rfl ?_
          refine g_iadd C dX6_work_50 ?_
          refine g_putI C false dX6_work_51 fl_X6_195 fp_X6_2_5 (fun q => Bool.noConfusion q) rfl E (fun h14 E => ?_)
          refine g_iinc C (lv' := [(2, .int (v2 + 1)), (0, .ref (base + v0)), (1, .ref (base + v1))]) 2 1 dX6_work_54 rfl rfl (by decide) rfl ?_
          refine g_goto C 2 dX6_work_57 (by decide) ?_
          refine g_sub (lv' := [(0, .ref (base + v0)), (1, .ref (base + v1)), (2, .int (v2 + 1))]) [1, 2, 0] rfl ?_
          exact ih v0 v1 (v2 + 1) h14 E
set_option maxRecDepth 100000 in
set_option maxHeartbeats 4000000 in
theorem o_X6_work (l : Launch) (base : Nat) (D : va_G) (cA : Nat → ClassId) (a0 : Nat) (a1 : Nat) (h : Hp) (r : Unit) (h' : Hp) (E : s_X6_work a0 a1 h = some (r, h')) : Met l yX6_work (.code yX6_work cX6_work 3 none :: wsA) rm_X6_work (PcG base D cA [.ref (base + a0), .ref (base + a1)] h) (QcU base D cA h') 0 0 (AA base) := by
  refine g_met [.ref (base + a0), .ref (base + a1)] (by decide) (Nat.le_of_ble_eq_true rfl) (fun p e s m args below meth c C hr hn => ?_)
  refine g_lv (lv' := [(0, .ref (base + a0)), (1, .ref (base + a1))]) rfl ?_
  unfold s_X6_work at E
  refine g_iconst C 0 dX6_work_0 rfl ?_
  refine g_istore_n C (lv' := [(2, .int 0), (0, .ref (base + a0)), (1, .ref (base + a1))]) dX6_work_1 rfl (by decide) rfl ?_
  refine g_sub (lv' := [(0, .ref (base + a0)), (1, .ref (base + a1)), (2, .int 0)]) [1, 2, 0] rfl ?_
  exact o_X6_work_L2 C hr _ a0 a1 0 h E
abbrev rm_X7_cool : Room := { frames := 1, cells := 0, slots := 0, locals := 20 }
def s_X7_cool (a0 : Nat) (h : Hp) : Rv Unit :=
  inv h a0 7 (s_X7_temperature a0 h) fun x1 h =>
  getI h a0 7 5 fun x2 =>
  if x2 ≤ 0 then retU h
  else if (x1 - 15) ≤ 0 then retU h
  else getL h a0 7 6 fun x3 =>
  getI h a0 7 5 fun x4 =>
  divL (((x1 - 15).toInt64) * x4.toInt64) 30 fun x5 =>
  putL h a0 7 6 (x3 - x5) fun h =>
  retU h
set_option maxRecDepth 100000 in
set_option maxHeartbeats 4000000 in
theorem o_X7_cool (l : Launch) (base : Nat) (D : va_G) (cA : Nat → ClassId) (a0 : Nat) (h : Hp) (r : Unit) (h' : Hp) (E : s_X7_cool a0 h = some (r, h')) : Met l yX7_cool (.code yX7_cool cX7_cool 2 none :: wsA) rm_X7_cool (PcG base D cA [.ref (base + a0)] h) (QcU base D cA h') 0 0 (AA base) := by
  refine g_met [.ref (base + a0)] (by decide) (Nat.le_of_ble_eq_true rfl) (fun p e s m args below meth c C hr hn => ?_)
  refine g_lv (lv' := [(0, .ref (base + a0))]) rfl ?_
  unfold s_X7_cool at E
  refine g_aload_n C 0 dX7_cool_0 rfl rfl ?_
  refine g_invI C (q := (RX7, TX7, 8)) [] dX7_cool_1 cl_X7_88 cv_X7_temperature rfl (by decide) rfl rfl ⟨Nat.le_of_ble_eq_true rfl, Nat.le_of_ble_eq_true rfl⟩ (Nat.le_of_ble_eq_true rfl) ⟨Nat.le_of_ble_eq_true rfl, Nat.le_of_ble_eq_true rfl⟩ rfl (fun r' h' E => o_X7_temperature l base D cA a0 h r' h' E) E (fun x1 h2 E => ?_)
  refine g_bipush C 15 dX7_cool_4 rfl ?_
  refine g_isub C dX7_cool_6 ?_
  refine g_istore_n C (lv' := [(1, .int (x1 - 15)), (0, .ref (base + a0))]) dX7_cool_7 rfl (by decide) rfl ?_
  refine g_aload_n C 1 dX7_cool_8 rfl rfl ?_
  refine g_getI C dX7_cool_9 fl_X7_24 (by decide) (by decide) E (fun x3 E => ?_)
  refine g_if_le C 40 dX7_cool_12 (by decide) E (fun E => ?_) (fun E => ?_)
  · exact g_vret C dX7_cool_40 hr E
  · refine g_iload_n C 0 dX7_cool_15 rfl rfl ?_
    refine g_if_le C 40 dX7_cool_16 (by decide) E (fun E => ?_) (fun E => ?_)
    · exact g_vret C dX7_cool_40 hr E
    · refine g_aload_n C 1 dX7_cool_19 rfl rfl ?_
      refine g_dup C dX7_cool_20 rfl ?_
      refine g_getL C dX7_cool_21 fl_X7_27 rfl E (fun x4 E => ?_)
      refine g_iload_n C 0 dX7_cool_24 rfl rfl ?_
      refine g_i2l C dX7_cool_25 ?_
      refine g_aload_n C 1 dX7_cool_26 rfl rfl ?_
      refine g_getI C dX7_cool_27 fl_X7_24 (by decide) (by decide) E (fun x5 E => ?_)
      refine g_i2l C dX7_cool_30 ?_
      refine g_lmul C dX7_cool_31 ?_
      refine g_ldc2 C 30 dX7_cool_32 (in_wsA 476 (by decide +kernel) rfl) ?_
      refine g_ldiv C dX7_cool_35 E (fun x6 E => ?_)
      refine g_lsub C dX7_cool_36 ?_
      refine g_putL C false dX7_cool_37 fl_X7_27 fp_X7_7_6 (fun q => Bool.noConfusion q) rfl E (fun h7 E => ?_)
      exact g_vret C dX7_cool_40 hr E
abbrev rm_X7_unlockIfSafe : Room := { frames := 1, cells := 0, slots := 0, locals := 20 }
def s_X7_unlockIfSafe (a0 : Nat) (a1 : Int32) (h : Hp) : Rv Unit :=
  getI h a0 7 2 fun x1 =>
  if x1 = 2 then getI h a0 7 1 fun x2 =>
  if x2 = 1 then retU h
  else inv h a0 7 (s_X7_temperature a0 h) fun x3 h =>
  if a1 < x3 then retU h
  else putI h a0 7 2 1 fun h =>
  retU h
  else retU h
set_option maxRecDepth 100000 in
set_option maxHeartbeats 4000000 in
theorem o_X7_unlockIfSafe (l : Launch) (base : Nat) (D : va_G) (cA : Nat → ClassId) (a0 : Nat) (a1 : Int32) (h : Hp) (r : Unit) (h' : Hp) (E : s_X7_unlockIfSafe a0 a1 h = some (r, h')) : Met l yX7_unlockIfSafe (.code yX7_unlockIfSafe cX7_unlockIfSafe 2 none :: wsA) rm_X7_unlockIfSafe (PcG base D cA [.ref (base + a0), .int a1] h) (QcU base D cA h') 0 0 (AA base) := by
  refine g_met [.ref (base + a0), .int a1] (by decide) (Nat.le_of_ble_eq_true rfl) (fun p e s m args below meth c C hr hn => ?_)
  refine g_lv (lv' := [(0, .ref (base + a0)), (1, .int a1)]) rfl ?_
  unfold s_X7_unlockIfSafe at E
  refine g_aload_n C 0 dX7_unlockIfSafe_0 rfl rfl ?_
  refine g_getI C dX7_unlockIfSafe_1 fl_X7_15 (by decide) (by decide) E (fun x1 E => ?_)
  refine g_iconst C 2 dX7_unlockIfSafe_4 rfl ?_
  refine g_icmp_ne C 29 dX7_unlockIfSafe_5 (by decide) E (fun E => ?_) (fun E => ?_)
  · exact g_vret C dX7_unlockIfSafe_29 hr E
  · refine g_aload_n C 0 dX7_unlockIfSafe_8 rfl rfl ?_
    refine g_getI C dX7_unlockIfSafe_9 fl_X7_9 (by decide) (by decide) E (fun x2 E => ?_)
    refine g_iconst C 1 dX7_unlockIfSafe_12 rfl ?_
    refine g_icmp_eq C 29 dX7_unlockIfSafe_13 (by decide) E (fun E => ?_) (fun E => ?_)
    · exact g_vret C dX7_unlockIfSafe_29 hr E
    · refine g_aload_n C 0 dX7_unlockIfSafe_16 rfl rfl ?_
      refine g_invI C (q := (RX7, TX7, 8)) [] dX7_unlockIfSafe_17 cl_X7_88 cv_X7_temperature rfl (by decide) rfl rfl ⟨Nat.le_of_ble_eq_true rfl, Nat.le_of_ble_eq_true rfl⟩ (Nat.le_of_ble_eq_true rfl) ⟨Nat.le_of_ble_eq_true rfl, Nat.le_of_ble_eq_true rfl⟩ rfl (fun r' h' E => o_X7_temperature l base D cA a0 h r' h' E) E (fun x3 h4 E => ?_)
      refine g_iload_n C 1 dX7_unlockIfSafe_20 rfl rfl ?_
      refine g_icmp_gt C 29 dX7_unlockIfSafe_21 (by decide) E (fun E => ?_) (fun E => ?_)
      · exact g_vret C dX7_unlockIfSafe_29 hr E
      · refine g_aload_n C 0 dX7_unlockIfSafe_24 rfl rfl ?_
        refine g_iconst C 1 dX7_unlockIfSafe_25 rfl ?_
        refine g_putI C false dX7_unlockIfSafe_26 fl_X7_15 fp_X7_7_2 (fun q => Bool.noConfusion q) rfl E (fun h5 E => ?_)
        exact g_vret C dX7_unlockIfSafe_29 hr E
abbrev rm_X6_shortenLeases : Room := { frames := 1, cells := 0, slots := 0, locals := 21 }
def s_X6_shortenLeases_L4 : Nat → Nat → Int32 → Int32 → Hp → Rv Unit
  | 0, _, _, _, _ => none
  | n + 1, v0, v1, v2, h =>
    getI h v0 6 4 fun x1 =>
  if x1 ≤ v2 then putI h v0 6 4 v1 fun h =>
  retU h
  else getR h v0 6 2 fun x2 =>
  ldR h x2 23 v2 fun x3 =>
  getI h x3 3 3 fun x4 =>
  putI h x3 3 3 (x4 - 1) fun h =>
  getR h v0 6 2 fun x5 =>
  ldR h x5 23 v2 fun x6 =>
  getI h x6 3 3 fun x7 =>
  if x7 ≤ 0 then s_X6_shortenLeases_L4 n v0 v1 (v2 + 1) h
  else getR h v0 6 2 fun x8 =>
  ldR h x8 23 v1 fun x9 =>
  getR h v0 6 2 fun x10 =>
  ldR h x10 23 v2 fun x11 =>
  inv h x9 3 (s_X3_copyFrom x9 x11 h) fun _ h =>
  s_X6_shortenLeases_L4 n v0 (v1 + 1) (v2 + 1) h
def s_X6_shortenLeases (a0 : Nat) (h : Hp) : Rv Unit :=
  s_X6_shortenLeases_L4 100000 a0 0 0 h
set_option maxRecDepth 100000 in
set_option maxHeartbeats 4000000 in
theorem o_X6_shortenLeases_L4 {l : Launch} {base : Nat} {D : va_G} {cA : Nat → ClassId} {p : Program} {e : Env} {s : State} {m : MethodId} {args : Array Value} {below : List Frame} {meth : Method} {c : Code} (C : GC base D cA p s m args meth c cX6_shortenLeases 3 RX6) (hr : meth.sig.returnType = none) {X : Unit × Hp} : ∀ (n : Nat) (v0 : Nat) (v1 : Int32) (v2 : Int32) (h : Hp), s_X6_shortenLeases_L4 n v0 v1 v2 h = some X → GW base D cA p l e rm_X6_shortenLeases s m args below meth c (MQ below (QcU base D cA X.2) args s 0 0 (AA base)) 3 h 0 0 4 [(0, .ref (base + v0)), (1, .int v1), (2, .int v2)] [] := by
  intro n
  induction n with
  | zero =>
    intro v0 v1 v2 h E
    rw [s_X6_shortenLeases_L4] at E
    cases E
  | succ n ih =>
    intro v0 v1 v2 h E
    rw [s_X6_shortenLeases_L4] at E
    refine g_iload_n C 2 dX6_shortenLeases_4 rfl rfl ?_
    refine g_aload_n C 0 dX6_shortenLeases_5 rfl rfl ?_
    refine g_getI C dX6_shortenLeases_6 fl_X6_31 (by decide) (by decide) E (fun x1 E => ?_)
    refine g_icmp_ge C 63 dX6_shortenLeases_9 (by decide) E (fun E => ?_) (fun E => ?_)
    · refine g_aload_n C 0 dX6_shortenLeases_63 rfl rfl ?_
      refine g_iload_n C 1 dX6_shortenLeases_64 rfl rfl ?_
      refine g_putI C false dX6_shortenLeases_65 fl_X6_31 fp_X6_6_4 (fun q => Bool.noConfusion q) rfl E (fun h2 E => ?_)
      exact g_vret C dX6_shortenLeases_68 hr E
    · refine g_aload_n C 0 dX6_shortenLeases_12 rfl rfl ?_
      refine g_getR C dX6_shortenLeases_13 fl_X6_23 rfl E (fun x3 E => ?_)
      refine g_iload_n C 2 dX6_shortenLeases_16 rfl rfl ?_
      refine g_aald C 3 (by decide) (by decide) rfl dX6_shortenLeases_17 E (fun x4 E => ?_)
      refine g_dup C dX6_shortenLeases_18 rfl ?_
      refine g_getI C dX6_shortenLeases_19 fl_X6_136 (by decide) (by decide) E (fun x5 E => ?_)
      refine g_iconst C 1 dX6_shortenLeases_22 rfl ?_
      refine g_isub C dX6_shortenLeases_23 ?_
      refine g_putI C false dX6_shortenLeases_24 fl_X6_136 fp_X6_3_3 (fun q => Bool.noConfusion q) rfl E (fun h6 E => ?_)
      refine g_aload_n C 0 dX6_shortenLeases_27 rfl rfl ?_
      refine g_getR C dX6_shortenLeases_28 fl_X6_23 rfl E (fun x7 E => ?_)
      refine g_iload_n C 2 dX6_shortenLeases_31 rfl rfl ?_
      refine g_aald C 3 (by decide) (by decide) rfl dX6_shortenLeases_32 E (fun x8 E => ?_)
      refine g_getI C dX6_shortenLeases_33 fl_X6_136 (by decide) (by decide) E (fun x9 E => ?_)
      refine g_if_le C 57 dX6_shortenLeases_36 (by decide) E (fun E => ?_) (fun E => ?_)
      · refine g_iinc C (lv' := [(2, .int (v2 + 1)), (0, .ref (base + v0)), (1, .int v1)]) 2 1 dX6_shortenLeases_57 rfl rfl (by decide) rfl ?_
        refine g_goto C 4 dX6_shortenLeases_60 (by decide) ?_
        refine g_sub (lv' := [(0, .ref (base + v0)), (1, .int v1), (2, .int (v2 + 1))]) [1, 2, 0] rfl ?_
        exact ih v0 v1 (v2 + 1) h6 E
      · refine g_aload_n C 0 dX6_shortenLeases_39 rfl rfl ?_
        refine g_getR C dX6_shortenLeases_40 fl_X6_23 rfl E (fun x10 E => ?_)
        refine g_iload_n C 1 dX6_shortenLeases_43 rfl rfl ?_
        refine g_aald C 3 (by decide) (by decide) rfl dX6_shortenLeases_44 E (fun x11 E => ?_)
        refine g_aload_n C 0 dX6_shortenLeases_45 rfl rfl ?_
        refine g_getR C dX6_shortenLeases_46 fl_X6_23 rfl E (fun x12 E => ?_)
        refine g_iload_n C 2 dX6_shortenLeases_49 rfl rfl ?_
        refine g_aald C 3 (by decide) (by decide) rfl dX6_shortenLeases_50 E (fun x13 E => ?_)
        refine g_invU C (q := (RX3, TX3, 5)) [.ref (base + x13)] dX6_shortenLeases_51 cl_X6_66 cv_X3_copyFrom rfl (by decide) rfl rfl ⟨Nat.le_of_ble_eq_true rfl, Nat.le_of_ble_eq_true rfl⟩ (Nat.le_of_ble_eq_true rfl) ⟨Nat.le_of_ble_eq_true rfl, Nat.le_of_ble_eq_true rfl⟩ rfl (fun r' h' E => o_X3_copyFrom l base D cA x11 x13 h6 r' h' E) E (fun x14 h15 E => ?_)
        refine g_iinc C (lv' := [(1, .int (v1 + 1)), (0, .ref (base + v0)), (2, .int v2)]) 1 1 dX6_shortenLeases_54 rfl rfl (by decide) rfl ?_
        refine g_iinc C (lv' := [(2, .int (v2 + 1)), (1, .int (v1 + 1)), (0, .ref (base + v0))]) 2 1 dX6_shortenLeases_57 rfl rfl (by decide) rfl ?_
        refine g_goto C 4 dX6_shortenLeases_60 (by decide) ?_
        refine g_sub (lv' := [(0, .ref (base + v0)), (1, .int (v1 + 1)), (2, .int (v2 + 1))]) [2, 1, 0] rfl ?_
        exact ih v0 (v1 + 1) (v2 + 1) h15 E
set_option maxRecDepth 100000 in
set_option maxHeartbeats 4000000 in
theorem o_X6_shortenLeases (l : Launch) (base : Nat) (D : va_G) (cA : Nat → ClassId) (a0 : Nat) (h : Hp) (r : Unit) (h' : Hp) (E : s_X6_shortenLeases a0 h = some (r, h')) : Met l yX6_shortenLeases (.code yX6_shortenLeases cX6_shortenLeases 3 none :: wsA) rm_X6_shortenLeases (PcG base D cA [.ref (base + a0)] h) (QcU base D cA h') 0 0 (AA base) := by
  refine g_met [.ref (base + a0)] (by decide) (Nat.le_of_ble_eq_true rfl) (fun p e s m args below meth c C hr hn => ?_)
  refine g_lv (lv' := [(0, .ref (base + a0))]) rfl ?_
  unfold s_X6_shortenLeases at E
  refine g_iconst C 0 dX6_shortenLeases_0 rfl ?_
  refine g_istore_n C (lv' := [(1, .int 0), (0, .ref (base + a0))]) dX6_shortenLeases_1 rfl (by decide) rfl ?_
  refine g_iconst C 0 dX6_shortenLeases_2 rfl ?_
  refine g_istore_n C (lv' := [(2, .int 0), (1, .int 0), (0, .ref (base + a0))]) dX6_shortenLeases_3 rfl (by decide) rfl ?_
  refine g_sub (lv' := [(0, .ref (base + a0)), (1, .int 0), (2, .int 0)]) [2, 1, 0] rfl ?_
  exact o_X6_shortenLeases_L4 C hr _ a0 0 0 h E
abbrev rm_X6_passMinute : Room := { frames := 5, cells := 0, slots := 0, locals := 115 }
def s_X6_passMinute_L35 : Nat → Nat → Int32 → Int32 → Hp → Rv Int32
  | 0, _, _, _, _ => none
  | n + 1, v0, v2, v3, h =>
    getI h v0 6 3 fun x3 =>
  if x3 ≤ v3 then inv h v0 6 (s_X6_shortenLeases v0 h) fun _ h =>
  getI h v0 6 5 fun x4 =>
  putI h v0 6 5 (x4 + 1) fun h =>
  retI v2 h
  else inv h v0 6 (s_X6_washerOf v0 v3 h) fun x5 h =>
  inv h x5 7 (s_X7_cool x5 h) fun _ h =>
  getI h v0 6 7 fun x6 =>
  if x6 = 0 then s_X6_passMinute_L35 n v0 v2 (v3 + 1) h
  else inv h v0 6 (s_X6_washerOf v0 v3 h) fun x7 h =>
  getR h v0 6 0 fun x8 =>
  ldI h x8 20 3 fun x9 =>
  inv h x7 7 (s_X7_unlockIfSafe x7 x9 h) fun _ h =>
  s_X6_passMinute_L35 n v0 v2 (v3 + 1) h
def s_X6_passMinute (a0 : Nat) (a1 : Nat) (h : Hp) : Rv Int32 :=
  getI h a0 6 7 fun x1 =>
  if x1 = 0 then getI h a0 6 6 fun x2 =>
  putI h a0 6 6 (x2 + 1) fun h =>
  s_X6_passMinute_L35 100000 a0 0 0 h
  else inv h a0 6 (s_X6_giveHeat a0 a1 h) fun x10 h =>
  inv h a0 6 (s_X6_work a0 a1 h) fun _ h =>
  s_X6_passMinute_L35 100000 a0 x10 0 h
set_option maxRecDepth 100000 in
set_option maxHeartbeats 4000000 in
theorem o_X6_passMinute_L35 {l : Launch} {base : Nat} {D : va_G} {cA : Nat → ClassId} {p : Program} {e : Env} {s : State} {m : MethodId} {args : Array Value} {below : List Frame} {meth : Method} {c : Code} (C : GC base D cA p s m args meth c cX6_passMinute 4 RX6) (hr : meth.sig.returnType = (some .int)) {X : Int32 × Hp} : ∀ (n : Nat) (v0 : Nat) (v2 : Int32) (v3 : Int32) (h : Hp), s_X6_passMinute_L35 n v0 v2 v3 h = some X → GW base D cA p l e rm_X6_passMinute s m args below meth c (MQ below (QcI base D cA X.1 X.2) args s 0 0 (AA base)) 4 h 0 0 35 [(0, .ref (base + v0)), (2, .int v2), (3, .int v3)] [] := by
  intro n
  induction n with
  | zero =>
    intro v0 v2 v3 h E
    rw [s_X6_passMinute_L35] at E
    cases E
  | succ n ih =>
    intro v0 v2 v3 h E
    rw [s_X6_passMinute_L35] at E
    refine g_iload_n C 2 dX6_passMinute_35 rfl rfl ?_
    refine g_aload_n C 0 dX6_passMinute_36 rfl rfl ?_
    refine g_getI C dX6_passMinute_37 fl_X6_27 (by decide) (by decide) E (fun x1 E => ?_)
    refine g_icmp_ge C 78 dX6_passMinute_40 (by decide) E (fun E => ?_) (fun E => ?_)
    · refine g_aload_n C 0 dX6_passMinute_78 rfl rfl ?_
      refine g_invU C (q := (RX6, TX6, 11)) [] dX6_passMinute_79 cl_X6_179 cv_X6_shortenLeases rfl (by decide) rfl rfl ⟨Nat.le_of_ble_eq_true rfl, Nat.le_of_ble_eq_true rfl⟩ (Nat.le_of_ble_eq_true rfl) ⟨Nat.le_of_ble_eq_true rfl, Nat.le_of_ble_eq_true rfl⟩ rfl (fun r' h' E => o_X6_shortenLeases l base D cA v0 h r' h' E) E (fun x2 h3 E => ?_)
      refine g_aload_n C 0 dX6_passMinute_82 rfl rfl ?_
      refine g_dup C dX6_passMinute_83 rfl ?_
      refine g_getI C dX6_passMinute_84 fl_X6_34 (by decide) (by decide) E (fun x4 E => ?_)
      refine g_iconst C 1 dX6_passMinute_87 rfl ?_
      refine g_iadd C dX6_passMinute_88 ?_
      refine g_putI C false dX6_passMinute_89 fl_X6_34 fp_X6_6_5 (fun q => Bool.noConfusion q) rfl E (fun h5 E => ?_)
      refine g_iload_n C 1 dX6_passMinute_92 rfl rfl ?_
      exact g_iret C dX6_passMinute_93 hr E
    · refine g_aload_n C 0 dX6_passMinute_43 rfl rfl ?_
      refine g_iload_n C 2 dX6_passMinute_44 rfl rfl ?_
      refine g_invR C (q := (RX6, TX6, 11)) [.int v3] dX6_passMinute_45 cl_X6_86 cv_X6_washerOf rfl (by decide) rfl rfl ⟨Nat.le_of_ble_eq_true rfl, Nat.le_of_ble_eq_true rfl⟩ (Nat.le_of_ble_eq_true rfl) ⟨Nat.le_of_ble_eq_true rfl, Nat.le_of_ble_eq_true rfl⟩ rfl (fun r' h' E => o_X6_washerOf l base D cA v0 v3 h r' h' E) E (fun x6 h7 E => ?_)
      refine g_invU C (q := (RX7, TX7, 8)) [] dX6_passMinute_48 cl_X6_173 cv_X7_cool rfl (by decide) rfl rfl ⟨Nat.le_of_ble_eq_true rfl, Nat.le_of_ble_eq_true rfl⟩ (Nat.le_of_ble_eq_true rfl) ⟨Nat.le_of_ble_eq_true rfl, Nat.le_of_ble_eq_true rfl⟩ rfl (fun r' h' E => o_X7_cool l base D cA x6 h7 r' h' E) E (fun x8 h9 E => ?_)
      refine g_aload_n C 0 dX6_passMinute_51 rfl rfl ?_
      refine g_getI C dX6_passMinute_52 fl_X6_40 (by decide) (by decide) E (fun x10 E => ?_)
      refine g_if_eq C 72 dX6_passMinute_55 (by decide) E (fun E => ?_) (fun E => ?_)
      · refine g_iinc C (lv' := [(3, .int (v3 + 1)), (0, .ref (base + v0)), (2, .int v2)]) 2 1 dX6_passMinute_72 rfl rfl (by decide) rfl ?_
        refine g_goto C 35 dX6_passMinute_75 (by decide) ?_
        refine g_sub (lv' := [(0, .ref (base + v0)), (2, .int v2), (3, .int (v3 + 1))]) [1, 2, 0] rfl ?_
        exact ih v0 v2 (v3 + 1) h9 E
      · refine g_aload_n C 0 dX6_passMinute_58 rfl rfl ?_
        refine g_iload_n C 2 dX6_passMinute_59 rfl rfl ?_
        refine g_invR C (q := (RX6, TX6, 11)) [.int v3] dX6_passMinute_60 cl_X6_86 cv_X6_washerOf rfl (by decide) rfl rfl ⟨Nat.le_of_ble_eq_true rfl, Nat.le_of_ble_eq_true rfl⟩ (Nat.le_of_ble_eq_true rfl) ⟨Nat.le_of_ble_eq_true rfl, Nat.le_of_ble_eq_true rfl⟩ rfl (fun r' h' E => o_X6_washerOf l base D cA v0 v3 h9 r' h' E) E (fun x11 h12 E => ?_)
        refine g_aload_n C 0 dX6_passMinute_63 rfl rfl ?_
        refine g_getR C dX6_passMinute_64 fl_X6_9 rfl E (fun x13 E => ?_)
        refine g_iconst C 3 dX6_passMinute_67 rfl ?_
        refine g_iald C dX6_passMinute_68 E (fun x14 E => ?_)
        refine g_invU C (q := (RX7, TX7, 8)) [.int x14] dX6_passMinute_69 cl_X6_176 cv_X7_unlockIfSafe rfl (by decide) rfl rfl ⟨Nat.le_of_ble_eq_true rfl, Nat.le_of_ble_eq_true rfl⟩ (Nat.le_of_ble_eq_true rfl) ⟨Nat.le_of_ble_eq_true rfl, Nat.le_of_ble_eq_true rfl⟩ rfl (fun r' h' E => o_X7_unlockIfSafe l base D cA x11 x14 h12 r' h' E) E (fun x15 h16 E => ?_)
        refine g_iinc C (lv' := [(3, .int (v3 + 1)), (0, .ref (base + v0)), (2, .int v2)]) 2 1 dX6_passMinute_72 rfl rfl (by decide) rfl ?_
        refine g_goto C 35 dX6_passMinute_75 (by decide) ?_
        refine g_sub (lv' := [(0, .ref (base + v0)), (2, .int v2), (3, .int (v3 + 1))]) [1, 2, 0] rfl ?_
        exact ih v0 v2 (v3 + 1) h16 E
set_option maxRecDepth 100000 in
set_option maxHeartbeats 4000000 in
theorem o_X6_passMinute (l : Launch) (base : Nat) (D : va_G) (cA : Nat → ClassId) (a0 : Nat) (a1 : Nat) (h : Hp) (r : Int32) (h' : Hp) (E : s_X6_passMinute a0 a1 h = some (r, h')) : Met l yX6_passMinute (.code yX6_passMinute cX6_passMinute 4 (some .int) :: wsA) rm_X6_passMinute (PcG base D cA [.ref (base + a0), .ref (base + a1)] h) (QcI base D cA r h') 0 0 (AA base) := by
  refine g_met [.ref (base + a0), .ref (base + a1)] (by decide) (Nat.le_of_ble_eq_true rfl) (fun p e s m args below meth c C hr hn => ?_)
  refine g_lv (lv' := [(0, .ref (base + a0)), (1, .ref (base + a1))]) rfl ?_
  unfold s_X6_passMinute at E
  refine g_iconst C 0 dX6_passMinute_0 rfl ?_
  refine g_istore_n C (lv' := [(2, .int 0), (0, .ref (base + a0)), (1, .ref (base + a1))]) dX6_passMinute_1 rfl (by decide) rfl ?_
  refine g_aload_n C 1 dX6_passMinute_2 rfl rfl ?_
  refine g_getI C dX6_passMinute_3 fl_X6_40 (by decide) (by decide) E (fun x1 E => ?_)
  refine g_if_eq C 23 dX6_passMinute_6 (by decide) E (fun E => ?_) (fun E => ?_)
  · refine g_aload_n C 1 dX6_passMinute_23 rfl rfl ?_
    refine g_dup C dX6_passMinute_24 rfl ?_
    refine g_getI C dX6_passMinute_25 fl_X6_37 (by decide) (by decide) E (fun x2 E => ?_)
    refine g_iconst C 1 dX6_passMinute_28 rfl ?_
    refine g_iadd C dX6_passMinute_29 ?_
    refine g_putI C false dX6_passMinute_30 fl_X6_37 fp_X6_6_6 (fun q => Bool.noConfusion q) rfl E (fun h3 E => ?_)
    refine g_iconst C 0 dX6_passMinute_33 rfl ?_
    refine g_istore_n C (lv' := [(3, .int 0), (2, .int 0), (0, .ref (base + a0)), (1, .ref (base + a1))]) dX6_passMinute_34 rfl (by decide) rfl ?_
    refine g_sub (lv' := [(0, .ref (base + a0)), (2, .int 0), (3, .int 0)]) [2, 1, 0] rfl ?_
    exact o_X6_passMinute_L35 C hr _ a0 0 0 h3 E
  · refine g_aload_n C 1 dX6_passMinute_9 rfl rfl ?_
    refine g_aload_n C 2 dX6_passMinute_10 rfl rfl ?_
    refine g_invI C (q := (RX6, TX6, 11)) [.ref (base + a1)] dX6_passMinute_11 cl_X6_165 cv_X6_giveHeat rfl (by decide) rfl rfl ⟨Nat.le_of_ble_eq_true rfl, Nat.le_of_ble_eq_true rfl⟩ (Nat.le_of_ble_eq_true rfl) ⟨Nat.le_of_ble_eq_true rfl, Nat.le_of_ble_eq_true rfl⟩ rfl (fun r' h' E => o_X6_giveHeat l base D cA a0 a1 h r' h' E) E (fun x4 h5 E => ?_)
    refine g_istore_n C (lv' := [(2, .int x4), (0, .ref (base + a0)), (1, .ref (base + a1))]) dX6_passMinute_14 rfl (by decide) rfl ?_
    refine g_aload_n C 1 dX6_passMinute_15 rfl rfl ?_
    refine g_aload_n C 2 dX6_passMinute_16 rfl rfl ?_
    refine g_invU C (q := (RX6, TX6, 11)) [.ref (base + a1)] dX6_passMinute_17 cl_X6_169 cv_X6_work rfl (by decide) rfl rfl ⟨Nat.le_of_ble_eq_true rfl, Nat.le_of_ble_eq_true rfl⟩ (Nat.le_of_ble_eq_true rfl) ⟨Nat.le_of_ble_eq_true rfl, Nat.le_of_ble_eq_true rfl⟩ rfl (fun r' h' E => o_X6_work l base D cA a0 a1 h5 r' h' E) E (fun x6 h7 E => ?_)
    refine g_goto C 33 dX6_passMinute_20 (by decide) ?_
    refine g_iconst C 0 dX6_passMinute_33 rfl ?_
    refine g_istore_n C (lv' := [(3, .int 0), (2, .int x4), (0, .ref (base + a0)), (1, .ref (base + a1))]) dX6_passMinute_34 rfl (by decide) rfl ?_
    refine g_sub (lv' := [(0, .ref (base + a0)), (2, .int x4), (3, .int 0)]) [2, 1, 0] rfl ?_
    exact o_X6_passMinute_L35 C hr _ a0 x4 0 h7 E
abbrev rm_X6_washersIn : Room := { frames := 1, cells := 0, slots := 0, locals := 21 }
def s_X6_washersIn_L4 : Nat → Nat → Int32 → Int32 → Int32 → Hp → Rv Int32
  | 0, _, _, _, _, _ => none
  | n + 1, v0, v1, v2, v3, h =>
    getI h v0 6 3 fun x1 =>
  if x1 ≤ v3 then retI v2 h
  else inv h v0 6 (s_X6_washerOf v0 v3 h) fun x2 h =>
  getI h x2 7 1 fun x3 =>
  if x3 = v1 then s_X6_washersIn_L4 n v0 v1 (v2 + 1) (v3 + 1) h
  else s_X6_washersIn_L4 n v0 v1 (v2 + 0) (v3 + 1) h
def s_X6_washersIn (a0 : Nat) (a1 : Int32) (h : Hp) : Rv Int32 :=
  s_X6_washersIn_L4 100000 a0 a1 0 0 h
set_option maxRecDepth 100000 in
set_option maxHeartbeats 4000000 in
theorem o_X6_washersIn_L4 {l : Launch} {base : Nat} {D : va_G} {cA : Nat → ClassId} {p : Program} {e : Env} {s : State} {m : MethodId} {args : Array Value} {below : List Frame} {meth : Method} {c : Code} (C : GC base D cA p s m args meth c cX6_washersIn 4 RX6) (hr : meth.sig.returnType = (some .int)) {X : Int32 × Hp} : ∀ (n : Nat) (v0 : Nat) (v1 : Int32) (v2 : Int32) (v3 : Int32) (h : Hp), s_X6_washersIn_L4 n v0 v1 v2 v3 h = some X → GW base D cA p l e rm_X6_washersIn s m args below meth c (MQ below (QcI base D cA X.1 X.2) args s 0 0 (AA base)) 4 h 0 0 4 [(0, .ref (base + v0)), (1, .int v1), (2, .int v2), (3, .int v3)] [] := by
  intro n
  induction n with
  | zero =>
    intro v0 v1 v2 v3 h E
    rw [s_X6_washersIn_L4] at E
    cases E
  | succ n ih =>
    intro v0 v1 v2 v3 h E
    rw [s_X6_washersIn_L4] at E
    refine g_iload_n C 3 dX6_washersIn_4 rfl rfl ?_
    refine g_aload_n C 0 dX6_washersIn_5 rfl rfl ?_
    refine g_getI C dX6_washersIn_6 fl_X6_27 (by decide) (by decide) E (fun x1 E => ?_)
    refine g_icmp_ge C 38 dX6_washersIn_9 (by decide) E (fun E => ?_) (fun E => ?_)
    · refine g_iload_n C 2 dX6_washersIn_38 rfl rfl ?_
      exact g_iret C dX6_washersIn_39 hr E
    · refine g_iload_n C 2 dX6_washersIn_12 rfl rfl ?_
      refine g_aload_n C 0 dX6_washersIn_13 rfl rfl ?_
      refine g_iload_n C 3 dX6_washersIn_14 rfl rfl ?_
      refine g_invR C (q := (RX6, TX6, 11)) [.int v3] dX6_washersIn_15 cl_X6_86 cv_X6_washerOf rfl (by decide) rfl rfl ⟨Nat.le_of_ble_eq_true rfl, Nat.le_of_ble_eq_true rfl⟩ (Nat.le_of_ble_eq_true rfl) ⟨Nat.le_of_ble_eq_true rfl, Nat.le_of_ble_eq_true rfl⟩ rfl (fun r' h' E => o_X6_washerOf l base D cA v0 v3 h r' h' E) E (fun x2 h3 E => ?_)
      refine g_getI C dX6_washersIn_18 fl_X6_118 (by decide) (by decide) E (fun x4 E => ?_)
      refine g_iload_n C 1 dX6_washersIn_21 rfl rfl ?_
      refine g_icmp_ne C 29 dX6_washersIn_22 (by decide) E (fun E => ?_) (fun E => ?_)
      · refine g_iconst C 0 dX6_washersIn_29 rfl ?_
        refine g_iadd C dX6_washersIn_30 ?_
        refine g_istore_n C (lv' := [(2, .int (v2 + 0)), (0, .ref (base + v0)), (1, .int v1), (3, .int v3)]) dX6_washersIn_31 rfl (by decide) rfl ?_
        refine g_iinc C (lv' := [(3, .int (v3 + 1)), (2, .int (v2 + 0)), (0, .ref (base + v0)), (1, .int v1)]) 3 1 dX6_washersIn_32 rfl rfl (by decide) rfl ?_
        refine g_goto C 4 dX6_washersIn_35 (by decide) ?_
        refine g_sub (lv' := [(0, .ref (base + v0)), (1, .int v1), (2, .int (v2 + 0)), (3, .int (v3 + 1))]) [2, 3, 1, 0] rfl ?_
        exact ih v0 v1 (v2 + 0) (v3 + 1) h3 E
      · refine g_iconst C 1 dX6_washersIn_25 rfl ?_
        refine g_goto C 30 dX6_washersIn_26 (by decide) ?_
        refine g_iadd C dX6_washersIn_30 ?_
        refine g_istore_n C (lv' := [(2, .int (v2 + 1)), (0, .ref (base + v0)), (1, .int v1), (3, .int v3)]) dX6_washersIn_31 rfl (by decide) rfl ?_
        refine g_iinc C (lv' := [(3, .int (v3 + 1)), (2, .int (v2 + 1)), (0, .ref (base + v0)), (1, .int v1)]) 3 1 dX6_washersIn_32 rfl rfl (by decide) rfl ?_
        refine g_goto C 4 dX6_washersIn_35 (by decide) ?_
        refine g_sub (lv' := [(0, .ref (base + v0)), (1, .int v1), (2, .int (v2 + 1)), (3, .int (v3 + 1))]) [2, 3, 1, 0] rfl ?_
        exact ih v0 v1 (v2 + 1) (v3 + 1) h3 E
set_option maxRecDepth 100000 in
set_option maxHeartbeats 4000000 in
theorem o_X6_washersIn (l : Launch) (base : Nat) (D : va_G) (cA : Nat → ClassId) (a0 : Nat) (a1 : Int32) (h : Hp) (r : Int32) (h' : Hp) (E : s_X6_washersIn a0 a1 h = some (r, h')) : Met l yX6_washersIn (.code yX6_washersIn cX6_washersIn 4 (some .int) :: wsA) rm_X6_washersIn (PcG base D cA [.ref (base + a0), .int a1] h) (QcI base D cA r h') 0 0 (AA base) := by
  refine g_met [.ref (base + a0), .int a1] (by decide) (Nat.le_of_ble_eq_true rfl) (fun p e s m args below meth c C hr hn => ?_)
  refine g_lv (lv' := [(0, .ref (base + a0)), (1, .int a1)]) rfl ?_
  unfold s_X6_washersIn at E
  refine g_iconst C 0 dX6_washersIn_0 rfl ?_
  refine g_istore_n C (lv' := [(2, .int 0), (0, .ref (base + a0)), (1, .int a1)]) dX6_washersIn_1 rfl (by decide) rfl ?_
  refine g_iconst C 0 dX6_washersIn_2 rfl ?_
  refine g_istore_n C (lv' := [(3, .int 0), (2, .int 0), (0, .ref (base + a0)), (1, .int a1)]) dX6_washersIn_3 rfl (by decide) rfl ?_
  refine g_sub (lv' := [(0, .ref (base + a0)), (1, .int a1), (2, .int 0), (3, .int 0)]) [2, 3, 1, 0] rfl ?_
  exact o_X6_washersIn_L4 C hr _ a0 a1 0 0 h E
abbrev rm_X6_doorsIn : Room := { frames := 1, cells := 0, slots := 0, locals := 21 }
def s_X6_doorsIn_L4 : Nat → Nat → Int32 → Int32 → Int32 → Hp → Rv Int32
  | 0, _, _, _, _, _ => none
  | n + 1, v0, v1, v2, v3, h =>
    getI h v0 6 3 fun x1 =>
  if x1 ≤ v3 then retI v2 h
  else inv h v0 6 (s_X6_washerOf v0 v3 h) fun x2 h =>
  getI h x2 7 2 fun x3 =>
  if x3 = v1 then s_X6_doorsIn_L4 n v0 v1 (v2 + 1) (v3 + 1) h
  else s_X6_doorsIn_L4 n v0 v1 (v2 + 0) (v3 + 1) h
def s_X6_doorsIn (a0 : Nat) (a1 : Int32) (h : Hp) : Rv Int32 :=
  s_X6_doorsIn_L4 100000 a0 a1 0 0 h
set_option maxRecDepth 100000 in
set_option maxHeartbeats 4000000 in
theorem o_X6_doorsIn_L4 {l : Launch} {base : Nat} {D : va_G} {cA : Nat → ClassId} {p : Program} {e : Env} {s : State} {m : MethodId} {args : Array Value} {below : List Frame} {meth : Method} {c : Code} (C : GC base D cA p s m args meth c cX6_doorsIn 4 RX6) (hr : meth.sig.returnType = (some .int)) {X : Int32 × Hp} : ∀ (n : Nat) (v0 : Nat) (v1 : Int32) (v2 : Int32) (v3 : Int32) (h : Hp), s_X6_doorsIn_L4 n v0 v1 v2 v3 h = some X → GW base D cA p l e rm_X6_doorsIn s m args below meth c (MQ below (QcI base D cA X.1 X.2) args s 0 0 (AA base)) 4 h 0 0 4 [(0, .ref (base + v0)), (1, .int v1), (2, .int v2), (3, .int v3)] [] := by
  intro n
  induction n with
  | zero =>
    intro v0 v1 v2 v3 h E
    rw [s_X6_doorsIn_L4] at E
    cases E
  | succ n ih =>
    intro v0 v1 v2 v3 h E
    rw [s_X6_doorsIn_L4] at E
    refine g_iload_n C 3 dX6_doorsIn_4 rfl rfl ?_
    refine g_aload_n C 0 dX6_doorsIn_5 rfl rfl ?_
    refine g_getI C dX6_doorsIn_6 fl_X6_27 (by decide) (by decide) E (fun x1 E => ?_)
    refine g_icmp_ge C 38 dX6_doorsIn_9 (by decide) E (fun E => ?_) (fun E => ?_)
    · refine g_iload_n C 2 dX6_doorsIn_38 rfl rfl ?_
      exact g_iret C dX6_doorsIn_39 hr E
    · refine g_iload_n C 2 dX6_doorsIn_12 rfl rfl ?_
      refine g_aload_n C 0 dX6_doorsIn_13 rfl rfl ?_
      refine g_iload_n C 3 dX6_doorsIn_14 rfl rfl ?_
      refine g_invR C (q := (RX6, TX6, 11)) [.int v3] dX6_doorsIn_15 cl_X6_86 cv_X6_washerOf rfl (by decide) rfl rfl ⟨Nat.le_of_ble_eq_true rfl, Nat.le_of_ble_eq_true rfl⟩ (Nat.le_of_ble_eq_true rfl) ⟨Nat.le_of_ble_eq_true rfl, Nat.le_of_ble_eq_true rfl⟩ rfl (fun r' h' E => o_X6_washerOf l base D cA v0 v3 h r' h' E) E (fun x2 h3 E => ?_)
      refine g_getI C dX6_doorsIn_18 fl_X6_95 (by decide) (by decide) E (fun x4 E => ?_)
      refine g_iload_n C 1 dX6_doorsIn_21 rfl rfl ?_
      refine g_icmp_ne C 29 dX6_doorsIn_22 (by decide) E (fun E => ?_) (fun E => ?_)
      · refine g_iconst C 0 dX6_doorsIn_29 rfl ?_
        refine g_iadd C dX6_doorsIn_30 ?_
        refine g_istore_n C (lv' := [(2, .int (v2 + 0)), (0, .ref (base + v0)), (1, .int v1), (3, .int v3)]) dX6_doorsIn_31 rfl (by decide) rfl ?_
        refine g_iinc C (lv' := [(3, .int (v3 + 1)), (2, .int (v2 + 0)), (0, .ref (base + v0)), (1, .int v1)]) 3 1 dX6_doorsIn_32 rfl rfl (by decide) rfl ?_
        refine g_goto C 4 dX6_doorsIn_35 (by decide) ?_
        refine g_sub (lv' := [(0, .ref (base + v0)), (1, .int v1), (2, .int (v2 + 0)), (3, .int (v3 + 1))]) [2, 3, 1, 0] rfl ?_
        exact ih v0 v1 (v2 + 0) (v3 + 1) h3 E
      · refine g_iconst C 1 dX6_doorsIn_25 rfl ?_
        refine g_goto C 30 dX6_doorsIn_26 (by decide) ?_
        refine g_iadd C dX6_doorsIn_30 ?_
        refine g_istore_n C (lv' := [(2, .int (v2 + 1)), (0, .ref (base + v0)), (1, .int v1), (3, .int v3)]) dX6_doorsIn_31 rfl (by decide) rfl ?_
        refine g_iinc C (lv' := [(3, .int (v3 + 1)), (2, .int (v2 + 1)), (0, .ref (base + v0)), (1, .int v1)]) 3 1 dX6_doorsIn_32 rfl rfl (by decide) rfl ?_
        refine g_goto C 4 dX6_doorsIn_35 (by decide) ?_
        refine g_sub (lv' := [(0, .ref (base + v0)), (1, .int v1), (2, .int (v2 + 1)), (3, .int (v3 + 1))]) [2, 3, 1, 0] rfl ?_
        exact ih v0 v1 (v2 + 1) (v3 + 1) h3 E
set_option maxRecDepth 100000 in
set_option maxHeartbeats 4000000 in
theorem o_X6_doorsIn (l : Launch) (base : Nat) (D : va_G) (cA : Nat → ClassId) (a0 : Nat) (a1 : Int32) (h : Hp) (r : Int32) (h' : Hp) (E : s_X6_doorsIn a0 a1 h = some (r, h')) : Met l yX6_doorsIn (.code yX6_doorsIn cX6_doorsIn 4 (some .int) :: wsA) rm_X6_doorsIn (PcG base D cA [.ref (base + a0), .int a1] h) (QcI base D cA r h') 0 0 (AA base) := by
  refine g_met [.ref (base + a0), .int a1] (by decide) (Nat.le_of_ble_eq_true rfl) (fun p e s m args below meth c C hr hn => ?_)
  refine g_lv (lv' := [(0, .ref (base + a0)), (1, .int a1)]) rfl ?_
  unfold s_X6_doorsIn at E
  refine g_iconst C 0 dX6_doorsIn_0 rfl ?_
  refine g_istore_n C (lv' := [(2, .int 0), (0, .ref (base + a0)), (1, .int a1)]) dX6_doorsIn_1 rfl (by decide) rfl ?_
  refine g_iconst C 0 dX6_doorsIn_2 rfl ?_
  refine g_istore_n C (lv' := [(3, .int 0), (2, .int 0), (0, .ref (base + a0)), (1, .int a1)]) dX6_doorsIn_3 rfl (by decide) rfl ?_
  refine g_sub (lv' := [(0, .ref (base + a0)), (1, .int a1), (2, .int 0), (3, .int 0)]) [2, 3, 1, 0] rfl ?_
  exact o_X6_doorsIn_L4 C hr _ a0 a1 0 0 h E
abbrev rm_X6_sumOf : Room := { frames := 1, cells := 0, slots := 0, locals := 21 }
def s_X6_sumOf_L4 : Nat → Nat → Int32 → Int32 → Int32 → Hp → Rv Int32
  | 0, _, _, _, _, _ => none
  | n + 1, v0, v1, v2, v3, h =>
    getI h v0 6 3 fun x1 =>
  if x1 ≤ v3 then retI v2 h
  else getR h v0 6 1 fun x2 =>
  ldR h x2 22 v3 fun x3 =>
  inv h x3 2 (s_X2_tell x3 v1 h) fun x4 h =>
  s_X6_sumOf_L4 n v0 v1 (v2 + x4) (v3 + 1) h
def s_X6_sumOf (a0 : Nat) (a1 : Int32) (h : Hp) : Rv Int32 :=
  s_X6_sumOf_L4 100000 a0 a1 0 0 h
set_option maxRecDepth 100000 in
set_option maxHeartbeats 4000000 in
theorem o_X6_sumOf_L4 {l : Launch} {base : Nat} {D : va_G} {cA : Nat → ClassId} {p : Program} {e : Env} {s : State} {m : MethodId} {args : Array Value} {below : List Frame} {meth : Method} {c : Code} (C : GC base D cA p s m args meth c cX6_sumOf 4 RX6) (hr : meth.sig.returnType = (some .int)) {X : Int32 × Hp} : ∀ (n : Nat) (v0 : Nat) (v1 : Int32) (v2 : Int32) (v3 : Int32) (h : Hp), s_X6_sumOf_L4 n v0 v1 v2 v3 h = some X → GW base D cA p l e rm_X6_sumOf s m args below meth c (MQ below (QcI base D cA X.1 X.2) args s 0 0 (AA base)) 4 h 0 0 4 [(0, .ref (base + v0)), (1, .int v1), (2, .int v2), (3, .int v3)] [] := by
  intro n
  induction n with
  | zero =>
    intro v0 v1 v2 v3 h E
    rw [s_X6_sumOf_L4] at E
    cases E
  | succ n ih =>
    intro v0 v1 v2 v3 h E
    rw [s_X6_sumOf_L4] at E
    refine g_iload_n C 3 dX6_sumOf_4 rfl rfl ?_
    refine g_aload_n C 0 dX6_sumOf_5 rfl rfl ?_
    refine g_getI C dX6_sumOf_6 fl_X6_27 (by decide) (by decide) E (fun x1 E => ?_)
    refine g_icmp_ge C 31 dX6_sumOf_9 (by decide) E (fun E => ?_) (fun E => ?_)
    · refine g_iload_n C 2 dX6_sumOf_31 rfl rfl ?_
      exact g_iret C dX6_sumOf_32 hr E
    · refine g_iload_n C 2 dX6_sumOf_12 rfl rfl ?_
      refine g_aload_n C 0 dX6_sumOf_13 rfl rfl ?_
      refine g_getR C dX6_sumOf_14 fl_X6_17 rfl E (fun x2 E => ?_)
      refine g_iload_n C 3 dX6_sumOf_17 rfl rfl ?_
      refine g_aald C 2 (by decide) (by decide) rfl dX6_sumOf_18 E (fun x3 E => ?_)
      refine g_iload_n C 1 dX6_sumOf_19 rfl rfl ?_
      refine g_invI C (q := (RX2, TX2, 10)) [.int v1] dX6_sumOf_20 cl_X6_198 cv_X2_tell rfl (by decide) rfl rfl ⟨Nat.le_of_ble_eq_true rfl, Nat.le_of_ble_eq_true rfl⟩ (Nat.le_of_ble_eq_true rfl) ⟨Nat.le_of_ble_eq_true rfl, Nat.le_of_ble_eq_true rfl⟩ rfl (fun r' h' E => o_X2_tell l base D cA x3 v1 h r' h' E) E (fun x4 h5 E => ?_)
      refine g_iadd C dX6_sumOf_23 ?_
      refine g_istore_n C (lv' := [(2, .int (v2 + x4)), (0, .ref (base + v0)), (1, .int v1), (3, .int v3)]) dX6_sumOf_24 rfl (by decide) rfl ?_
      refine g_iinc C (lv' := [(3, .int (v3 + 1)), (2, .int (v2 + x4)), (0, .ref (base + v0)), (1, .int v1)]) 3 1 dX6_sumOf_25 rfl rfl (by decide) rfl ?_
      refine g_goto C 4 dX6_sumOf_28 (by decide) ?_
      refine g_sub (lv' := [(0, .ref (base + v0)), (1, .int v1), (2, .int (v2 + x4)), (3, .int (v3 + 1))]) [2, 3, 1, 0] rfl ?_
      exact ih v0 v1 (v2 + x4) (v3 + 1) h5 E
set_option maxRecDepth 100000 in
set_option maxHeartbeats 4000000 in
theorem o_X6_sumOf (l : Launch) (base : Nat) (D : va_G) (cA : Nat → ClassId) (a0 : Nat) (a1 : Int32) (h : Hp) (r : Int32) (h' : Hp) (E : s_X6_sumOf a0 a1 h = some (r, h')) : Met l yX6_sumOf (.code yX6_sumOf cX6_sumOf 4 (some .int) :: wsA) rm_X6_sumOf (PcG base D cA [.ref (base + a0), .int a1] h) (QcI base D cA r h') 0 0 (AA base) := by
  refine g_met [.ref (base + a0), .int a1] (by decide) (Nat.le_of_ble_eq_true rfl) (fun p e s m args below meth c C hr hn => ?_)
  refine g_lv (lv' := [(0, .ref (base + a0)), (1, .int a1)]) rfl ?_
  unfold s_X6_sumOf at E
  refine g_iconst C 0 dX6_sumOf_0 rfl ?_
  refine g_istore_n C (lv' := [(2, .int 0), (0, .ref (base + a0)), (1, .int a1)]) dX6_sumOf_1 rfl (by decide) rfl ?_
  refine g_iconst C 0 dX6_sumOf_2 rfl ?_
  refine g_istore_n C (lv' := [(3, .int 0), (2, .int 0), (0, .ref (base + a0)), (1, .int a1)]) dX6_sumOf_3 rfl (by decide) rfl ?_
  refine g_sub (lv' := [(0, .ref (base + a0)), (1, .int a1), (2, .int 0), (3, .int 0)]) [2, 3, 1, 0] rfl ?_
  exact o_X6_sumOf_L4 C hr _ a0 a1 0 0 h E
abbrev rm_X6_tell : Room := { frames := 2, cells := 0, slots := 0, locals := 44 }
def s_X6_tell (a0 : Nat) (a1 : Int32) (h : Hp) : Rv Int32 :=
  if a1 = 0 then getI h a0 6 5 fun x1 =>
  retI x1 h
  else if a1 = 1 then getI h a0 6 7 fun x2 =>
  if x2 = 0 then retI 0 h
  else retI 1 h
  else if a1 = 2 then getI h a0 6 3 fun x3 =>
  retI x3 h
  else if a1 = 3 then inv h a0 6 (s_X6_washersIn a0 1 h) fun x4 h =>
  retI x4 h
  else if a1 = 4 then inv h a0 6 (s_X6_washersIn a0 2 h) fun x5 h =>
  retI x5 h
  else if a1 = 5 then inv h a0 6 (s_X6_doorsIn a0 2 h) fun x6 h =>
  retI x6 h
  else if a1 = 6 then inv h a0 6 (s_X6_doorsIn a0 0 h) fun x7 h =>
  retI x7 h
  else if a1 = 7 then getI h a0 6 4 fun x8 =>
  retI x8 h
  else if a1 = 8 then inv h a0 6 (s_X6_sumOf a0 6 h) fun x9 h =>
  retI x9 h
  else if a1 = 9 then inv h a0 6 (s_X6_sumOf a0 7 h) fun x10 h =>
  retI x10 h
  else if a1 = 10 then getI h a0 6 6 fun x11 =>
  retI x11 h
  else if a1 = 11 then inv h a0 6 (s_X6_sumOf a0 5 h) fun x12 h =>
  retI x12 h
  else if a1 = 12 then inv h a0 6 (s_X6_sumOf a0 1 h) fun x13 h =>
  retI x13 h
  else retI (-2) h
set_option maxRecDepth 100000 in
set_option maxHeartbeats 4000000 in
theorem o_X6_tell (l : Launch) (base : Nat) (D : va_G) (cA : Nat → ClassId) (a0 : Nat) (a1 : Int32) (h : Hp) (r : Int32) (h' : Hp) (E : s_X6_tell a0 a1 h = some (r, h')) : Met l yX6_tell (.code yX6_tell cX6_tell 2 (some .int) :: wsA) rm_X6_tell (PcG base D cA [.ref (base + a0), .int a1] h) (QcI base D cA r h') 0 0 (AA base) := by
  refine g_met [.ref (base + a0), .int a1] (by decide) (Nat.le_of_ble_eq_true rfl) (fun p e s m args below meth c C hr hn => ?_)
  refine g_lv (lv' := [(0, .ref (base + a0)), (1, .int a1)]) rfl ?_
  unfold s_X6_tell at E
  refine g_iload_n C 1 dX6_tell_0 rfl rfl ?_
  by_cases q1 : a1 = 0
  · rw [if_pos q1] at E
    refine g_tswIn C 0 68 q1 dX6_tell_1 (by decide) (by decide) rfl (by decide) ?_
    refine g_aload_n C 0 dX6_tell_68 rfl rfl ?_
    refine g_getI C dX6_tell_69 fl_X6_34 (by decide) (by decide) E (fun x2 E => ?_)
    exact g_iret C dX6_tell_72 hr E
  rw [if_neg q1] at E
  by_cases q3 : a1 = 1
  · rw [if_pos q3] at E
    refine g_tswIn C 1 73 q3 dX6_tell_1 (by decide) (by decide) rfl (by decide) ?_
    refine g_aload_n C 0 dX6_tell_73 rfl rfl ?_
    refine g_getI C dX6_tell_74 fl_X6_40 (by decide) (by decide) E (fun x4 E => ?_)
    refine g_if_eq C 84 dX6_tell_77 (by decide) E (fun E => ?_) (fun E => ?_)
    · refine g_iconst C 0 dX6_tell_84 rfl ?_
      exact g_iret C dX6_tell_85 hr E
    · refine g_iconst C 1 dX6_tell_80 rfl ?_
      refine g_goto C 85 dX6_tell_81 (by decide) ?_
      exact g_iret C dX6_tell_85 hr E
  rw [if_neg q3] at E
  by_cases q5 : a1 = 2
  · rw [if_pos q5] at E
    refine g_tswIn C 2 86 q5 dX6_tell_1 (by decide) (by decide) rfl (by decide) ?_
    refine g_aload_n C 0 dX6_tell_86 rfl rfl ?_
    refine g_getI C dX6_tell_87 fl_X6_27 (by decide) (by decide) E (fun x6 E => ?_)
    exact g_iret C dX6_tell_90 hr E
  rw [if_neg q5] at E
  by_cases q7 : a1 = 3
  · rw [if_pos q7] at E
    refine g_tswIn C 3 91 q7 dX6_tell_1 (by decide) (by decide) rfl (by decide) ?_
    refine g_aload_n C 0 dX6_tell_91 rfl rfl ?_
    refine g_iconst C 1 dX6_tell_92 rfl ?_
    refine g_invI C (q := (RX6, TX6, 11)) [.int 1] dX6_tell_93 cl_X6_201 cv_X6_washersIn rfl (by decide) rfl rfl ⟨Nat.le_of_ble_eq_true rfl, Nat.le_of_ble_eq_true rfl⟩ (Nat.le_of_ble_eq_true rfl) ⟨Nat.le_of_ble_eq_true rfl, Nat.le_of_ble_eq_true rfl⟩ rfl (fun r' h' E => o_X6_washersIn l base D cA a0 1 h r' h' E) E (fun x8 h9 E => ?_)
    exact g_iret C dX6_tell_96 hr E
  rw [if_neg q7] at E
  by_cases q10 : a1 = 4
  · rw [if_pos q10] at E
    refine g_tswIn C 4 97 q10 dX6_tell_1 (by decide) (by decide) rfl (by decide) ?_
    refine g_aload_n C 0 dX6_tell_97 rfl rfl ?_
    refine g_iconst C 2 dX6_tell_98 rfl ?_
    refine g_invI C (q := (RX6, TX6, 11)) [.int 2] dX6_tell_99 cl_X6_201 cv_X6_washersIn rfl (by decide) rfl rfl ⟨Nat.le_of_ble_eq_true rfl, Nat.le_of_ble_eq_true rfl⟩ (Nat.le_of_ble_eq_true rfl) ⟨Nat.le_of_ble_eq_true rfl, Nat.le_of_ble_eq_true rfl⟩ rfl (fun r' h' E => o_X6_washersIn l base D cA a0 2 h r' h' E) E (fun x11 h12 E => ?_)
    exact g_iret C dX6_tell_102 hr E
  rw [if_neg q10] at E
  by_cases q13 : a1 = 5
  · rw [if_pos q13] at E
    refine g_tswIn C 5 103 q13 dX6_tell_1 (by decide) (by decide) rfl (by decide) ?_
    refine g_aload_n C 0 dX6_tell_103 rfl rfl ?_
    refine g_iconst C 2 dX6_tell_104 rfl ?_
    refine g_invI C (q := (RX6, TX6, 11)) [.int 2] dX6_tell_105 cl_X6_204 cv_X6_doorsIn rfl (by decide) rfl rfl ⟨Nat.le_of_ble_eq_true rfl, Nat.le_of_ble_eq_true rfl⟩ (Nat.le_of_ble_eq_true rfl) ⟨Nat.le_of_ble_eq_true rfl, Nat.le_of_ble_eq_true rfl⟩ rfl (fun r' h' E => o_X6_doorsIn l base D cA a0 2 h r' h' E) E (fun x14 h15 E => ?_)
    exact g_iret C dX6_tell_108 hr E
  rw [if_neg q13] at E
  by_cases q16 : a1 = 6
  · rw [if_pos q16] at E
    refine g_tswIn C 6 109 q16 dX6_tell_1 (by decide) (by decide) rfl (by decide) ?_
    refine g_aload_n C 0 dX6_tell_109 rfl rfl ?_
    refine g_iconst C 0 dX6_tell_110 rfl ?_
    refine g_invI C (q := (RX6, TX6, 11)) [.int 0] dX6_tell_111 cl_X6_204 cv_X6_doorsIn rfl (by decide) rfl rfl ⟨Nat.le_of_ble_eq_true rfl, Nat.le_of_ble_eq_true rfl⟩ (Nat.le_of_ble_eq_true rfl) ⟨Nat.le_of_ble_eq_true rfl, Nat.le_of_ble_eq_true rfl⟩ rfl (fun r' h' E => o_X6_doorsIn l base D cA a0 0 h r' h' E) E (fun x17 h18 E => ?_)
    exact g_iret C dX6_tell_114 hr E
  rw [if_neg q16] at E
  by_cases q19 : a1 = 7
  · rw [if_pos q19] at E
    refine g_tswIn C 7 115 q19 dX6_tell_1 (by decide) (by decide) rfl (by decide) ?_
    refine g_aload_n C 0 dX6_tell_115 rfl rfl ?_
    refine g_getI C dX6_tell_116 fl_X6_31 (by decide) (by decide) E (fun x20 E => ?_)
    exact g_iret C dX6_tell_119 hr E
  rw [if_neg q19] at E
  by_cases q21 : a1 = 8
  · rw [if_pos q21] at E
    refine g_tswIn C 8 120 q21 dX6_tell_1 (by decide) (by decide) rfl (by decide) ?_
    refine g_aload_n C 0 dX6_tell_120 rfl rfl ?_
    refine g_bipush C 6 dX6_tell_121 rfl ?_
    refine g_invI C (q := (RX6, TX6, 11)) [.int 6] dX6_tell_123 cl_X6_207 cv_X6_sumOf rfl (by decide) rfl rfl ⟨Nat.le_of_ble_eq_true rfl, Nat.le_of_ble_eq_true rfl⟩ (Nat.le_of_ble_eq_true rfl) ⟨Nat.le_of_ble_eq_true rfl, Nat.le_of_ble_eq_true rfl⟩ rfl (fun r' h' E => o_X6_sumOf l base D cA a0 6 h r' h' E) E (fun x22 h23 E => ?_)
    exact g_iret C dX6_tell_126 hr E
  rw [if_neg q21] at E
  by_cases q24 : a1 = 9
  · rw [if_pos q24] at E
    refine g_tswIn C 9 127 q24 dX6_tell_1 (by decide) (by decide) rfl (by decide) ?_
    refine g_aload_n C 0 dX6_tell_127 rfl rfl ?_
    refine g_bipush C 7 dX6_tell_128 rfl ?_
    refine g_invI C (q := (RX6, TX6, 11)) [.int 7] dX6_tell_130 cl_X6_207 cv_X6_sumOf rfl (by decide) rfl rfl ⟨Nat.le_of_ble_eq_true rfl, Nat.le_of_ble_eq_true rfl⟩ (Nat.le_of_ble_eq_true rfl) ⟨Nat.le_of_ble_eq_true rfl, Nat.le_of_ble_eq_true rfl⟩ rfl (fun r' h' E => o_X6_sumOf l base D cA a0 7 h r' h' E) E (fun x25 h26 E => ?_)
    exact g_iret C dX6_tell_133 hr E
  rw [if_neg q24] at E
  by_cases q27 : a1 = 10
  · rw [if_pos q27] at E
    refine g_tswIn C 10 134 q27 dX6_tell_1 (by decide) (by decide) rfl (by decide) ?_
    refine g_aload_n C 0 dX6_tell_134 rfl rfl ?_
    refine g_getI C dX6_tell_135 fl_X6_37 (by decide) (by decide) E (fun x28 E => ?_)
    exact g_iret C dX6_tell_138 hr E
  rw [if_neg q27] at E
  by_cases q29 : a1 = 11
  · rw [if_pos q29] at E
    refine g_tswIn C 11 139 q29 dX6_tell_1 (by decide) (by decide) rfl (by decide) ?_
    refine g_aload_n C 0 dX6_tell_139 rfl rfl ?_
    refine g_iconst C 5 dX6_tell_140 rfl ?_
    refine g_invI C (q := (RX6, TX6, 11)) [.int 5] dX6_tell_141 cl_X6_207 cv_X6_sumOf rfl (by decide) rfl rfl ⟨Nat.le_of_ble_eq_true rfl, Nat.le_of_ble_eq_true rfl⟩ (Nat.le_of_ble_eq_true rfl) ⟨Nat.le_of_ble_eq_true rfl, Nat.le_of_ble_eq_true rfl⟩ rfl (fun r' h' E => o_X6_sumOf l base D cA a0 5 h r' h' E) E (fun x30 h31 E => ?_)
    exact g_iret C dX6_tell_144 hr E
  rw [if_neg q29] at E
  by_cases q32 : a1 = 12
  · rw [if_pos q32] at E
    refine g_tswIn C 12 145 q32 dX6_tell_1 (by decide) (by decide) rfl (by decide) ?_
    refine g_aload_n C 0 dX6_tell_145 rfl rfl ?_
    refine g_iconst C 1 dX6_tell_146 rfl ?_
    refine g_invI C (q := (RX6, TX6, 11)) [.int 1] dX6_tell_147 cl_X6_207 cv_X6_sumOf rfl (by decide) rfl rfl ⟨Nat.le_of_ble_eq_true rfl, Nat.le_of_ble_eq_true rfl⟩ (Nat.le_of_ble_eq_true rfl) ⟨Nat.le_of_ble_eq_true rfl, Nat.le_of_ble_eq_true rfl⟩ rfl (fun r' h' E => o_X6_sumOf l base D cA a0 1 h r' h' E) E (fun x33 h34 E => ?_)
    exact g_iret C dX6_tell_150 hr E
  rw [if_neg q32] at E
  refine g_tswDf C 151 dX6_tell_1 (fun z z1 z2 zx => ?_) (by decide) ?_
  · rcases (show z = 0 ∨ z = 1 ∨ z = 2 ∨ z = 3 ∨ z = 4 ∨ z = 5 ∨ z = 6 ∨ z = 7 ∨ z = 8 ∨ z = 9 ∨ z = 10 ∨ z = 11 ∨ z = 12 by omega) with rfl | rfl | rfl | rfl | rfl | rfl | rfl | rfl | rfl | rfl | rfl | rfl | rfl
    · exact absurd zx (lv_neT q1 (by decide))
    · exact absurd zx (lv_neT q3 (by decide))
    · exact absurd zx (lv_neT q5 (by decide))
    · exact absurd zx (lv_neT q7 (by decide))
    · exact absurd zx (lv_neT q10 (by decide))
    · exact absurd zx (lv_neT q13 (by decide))
    · exact absurd zx (lv_neT q16 (by decide))
    · exact absurd zx (lv_neT q19 (by decide))
    · exact absurd zx (lv_neT q21 (by decide))
    · exact absurd zx (lv_neT q24 (by decide))
    · exact absurd zx (lv_neT q27 (by decide))
    · exact absurd zx (lv_neT q29 (by decide))
    · exact absurd zx (lv_neT q32 (by decide))
  refine g_bipush C (-2) dX6_tell_151 rfl ?_
  exact g_iret C dX6_tell_153 hr E
