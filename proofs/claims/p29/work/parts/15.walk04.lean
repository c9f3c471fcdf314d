abbrev rm_X7_canStart : Room := { frames := 0, cells := 0, slots := 0, locals := 0 }
def s_X7_canStart (a0 : Nat) (h : Hp) : Rv Int32 :=
  getR h a0 7 0 fun x1 =>
  getI h x1 4 0 fun x2 =>
  if x2 ≤ 0 then retZ 0 h
  else getI h a0 7 1 fun x3 =>
  if x3 = 0 then getI h a0 7 2 fun x4 =>
  if x4 = 0 then retZ 0 h
  else retZ 1 h
  else retZ 0 h
set_option maxRecDepth 100000 in
set_option maxHeartbeats 4000000 in
theorem o_X7_canStart (l : Launch) (base : Nat) (D : va_G) (cA : Nat → ClassId) (a0 : Nat) (h : Hp) (r : Int32) (h' : Hp) (E : s_X7_canStart a0 h = some (r, h')) : Met l yX7_canStart (.code yX7_canStart cX7_canStart 1 (some .boolean) :: wsA) rm_X7_canStart (PcG base D cA [.ref (base + a0)] h) (QcI base D cA r h') 0 0 (AA base) := by
  refine g_met [.ref (base + a0)] (by decide) (Nat.le_of_ble_eq_true rfl) (fun p e s m args below meth c C hr hn => ?_)
  refine g_lv (lv' := [(0, .ref (base + a0))]) rfl ?_
  unfold s_X7_canStart at E
  refine g_aload_n C 0 dX7_canStart_0 rfl rfl ?_
  refine g_getR C dX7_canStart_1 fl_X7_34 rfl E (fun x1 E => ?_)
  refine g_getI C dX7_canStart_4 fl_X7_40 (by decide) (by decide) E (fun x2 E => ?_)
  refine g_if_le C 28 dX7_canStart_7 (by decide) E (fun E => ?_) (fun E => ?_)
  · refine g_iconst C 0 dX7_canStart_28 rfl ?_
    exact g_zret C dX7_canStart_29 hr E
  · refine g_aload_n C 0 dX7_canStart_10 rfl rfl ?_
    refine g_getI C dX7_canStart_11 fl_X7_9 (by decide) (by decide) E (fun x3 E => ?_)
    refine g_if_ne C 28 dX7_canStart_14 (by decide) E (fun E => ?_) (fun E => ?_)
    · refine g_iconst C 0 dX7_canStart_28 rfl ?_
      exact g_zret C dX7_canStart_29 hr E
    · refine g_aload_n C 0 dX7_canStart_17 rfl rfl ?_
      refine g_getI C dX7_canStart_18 fl_X7_15 (by decide) (by decide) E (fun x4 E => ?_)
      refine g_if_eq C 28 dX7_canStart_21 (by decide) E (fun E => ?_) (fun E => ?_)
      · refine g_iconst C 0 dX7_canStart_28 rfl ?_
        exact g_zret C dX7_canStart_29 hr E
      · refine g_iconst C 1 dX7_canStart_24 rfl ?_
        refine g_goto C 29 dX7_canStart_25 (by decide) ?_
        exact g_zret C dX7_canStart_29 hr E
abbrev rm_X7_begin : Room := { frames := 0, cells := 0, slots := 0, locals := 0 }
def s_X7_begin (a0 : Nat) (h : Hp) : Rv Unit :=
  putI h a0 7 1 1 fun h =>
  putI h a0 7 2 2 fun h =>
  putI h a0 7 3 0 fun h =>
  putI h a0 7 4 0 fun h =>
  retU h
set_option maxRecDepth 100000 in
set_option maxHeartbeats 4000000 in
theorem o_X7_begin (l : Launch) (base : Nat) (D : va_G) (cA : Nat → ClassId) (a0 : Nat) (h : Hp) (r : Unit) (h' : Hp) (E : s_X7_begin a0 h = some (r, h')) : Met l yX7_begin (.code yX7_begin cX7_begin 1 none :: wsA) rm_X7_begin (PcG base D cA [.ref (base + a0)] h) (QcU base D cA h') 0 0 (AA base) := by
  refine g_met [.ref (base + a0)] (by decide) (Nat.le_of_ble_eq_true rfl) (fun p e s m args below meth c C hr hn => ?_)
  refine g_lv (lv' := [(0, .ref (base + a0))]) rfl ?_
  unfold s_X7_begin at E
  refine g_aload_n C 0 dX7_begin_0 rfl rfl ?_
  refine g_iconst C 1 dX7_begin_1 rfl ?_
  refine g_putI C false dX7_begin_2 fl_X7_9 fp_X7_7_1 (fun q => Bool.noConfusion q) rfl E (fun h1 E => ?_)
  refine g_aload_n C 0 dX7_begin_5 rfl rfl ?_
  refine g_iconst C 2 dX7_begin_6 rfl ?_
  refine g_putI C false dX7_begin_7 fl_X7_15 fp_X7_7_2 (fun q => Bool.noConfusion q) rfl E (fun h2 E => ?_)
  refine g_aload_n C 0 dX7_begin_10 rfl rfl ?_
  refine g_iconst C 0 dX7_begin_11 rfl ?_
  refine g_putI C false dX7_begin_12 fl_X7_18 fp_X7_7_3 (fun q => Bool.noConfusion q) rfl E (fun h3 E => ?_)
  refine g_aload_n C 0 dX7_begin_15 rfl rfl ?_
  refine g_iconst C 0 dX7_begin_16 rfl ?_
  refine g_putI C false dX7_begin_17 fl_X7_21 fp_X7_7_4 (fun q => Bool.noConfusion q) rfl E (fun h4 E => ?_)
  exact g_vret C dX7_begin_20 hr E
abbrev rm_X7_tell : Room := { frames := 1, cells := 0, slots := 0, locals := 20 }
def s_X7_tell (a0 : Nat) (a1 : Int32) (h : Hp) : Rv Int32 :=
  if a1 = 0 then getI h a0 7 1 fun x1 =>
  retI x1 h
  else if a1 = 1 then getI h a0 7 1 fun x2 =>
  if x2 = 0 then retI (-5) h
  else getI h a0 7 3 fun x3 =>
  retI x3 h
  else if a1 = 2 then getI h a0 7 5 fun x4 =>
  retI x4 h
  else if a1 = 3 then inv h a0 7 (s_X7_temperature a0 h) fun x5 h =>
  retI x5 h
  else if a1 = 4 then getL h a0 7 6 fun x6 =>
  retI x6.toInt32 h
  else if a1 = 5 then getI h a0 7 2 fun x7 =>
  retI x7 h
  else if a1 = 6 then getI h a0 7 1 fun x8 =>
  if x8 = 0 then retI (-5) h
  else getI h a0 7 4 fun x9 =>
  retI x9 h
  else if a1 = 7 then getR h a0 7 0 fun x10 =>
  getI h x10 4 0 fun x11 =>
  retI x11 h
  else if a1 = 8 then getI h a0 7 7 fun x12 =>
  retI x12 h
  else retI (-2) h
set_option maxRecDepth 100000 in
set_option maxHeartbeats 4000000 in
theorem o_X7_tell (l : Launch) (base : Nat) (D : va_G) (cA : Nat → ClassId) (a0 : Nat) (a1 : Int32) (h : Hp) (r : Int32) (h' : Hp) (E : s_X7_tell a0 a1 h = some (r, h')) : Met l yX7_tell (.code yX7_tell cX7_tell 2 (some .int) :: wsA) rm_X7_tell (PcG base D cA [.ref (base + a0), .int a1] h) (QcI base D cA r h') 0 0 (AA base) := by
  refine g_met [.ref (base + a0), .int a1] (by decide) (Nat.le_of_ble_eq_true rfl) (fun p e s m args below meth c C hr hn => ?_)
  refine g_lv (lv' := [(0, .ref (base + a0)), (1, .int a1)]) rfl ?_
  unfold s_X7_tell at E
  refine g_iload_n C 1 dX7_tell_0 rfl rfl ?_
  by_cases q1 : a1 = 0
  · rw [if_pos q1] at E
    refine g_tswIn C 0 52 q1 dX7_tell_1 (by decide) (by decide) rfl (by decide) ?_
    refine g_aload_n C 0 dX7_tell_52 rfl rfl ?_
    refine g_getI C dX7_tell_53 fl_X7_9 (by decide) (by decide) E (fun x2 E => ?_)
    exact g_iret C dX7_tell_56 hr E
  rw [if_neg q1] at E
  by_cases q3 : a1 = 1
  · rw [if_pos q3] at E
    refine g_tswIn C 1 57 q3 dX7_tell_1 (by decide) (by decide) rfl (by decide) ?_
    refine g_aload_n C 0 dX7_tell_57 rfl rfl ?_
    refine g_getI C dX7_tell_58 fl_X7_9 (by decide) (by decide) E (fun x4 E => ?_)
    refine g_if_ne C 69 dX7_tell_61 (by decide) E (fun E => ?_) (fun E => ?_)
    · refine g_aload_n C 0 dX7_tell_69 rfl rfl ?_
      refine g_getI C dX7_tell_70 fl_X7_18 (by decide) (by decide) E (fun x5 E => ?_)
      exact g_iret C dX7_tell_73 hr E
    · refine g_bipush C (-5) dX7_tell_64 rfl ?_
      refine g_goto C 73 dX7_tell_66 (by decide) ?_
      exact g_iret C dX7_tell_73 hr E
  rw [if_neg q3] at E
  by_cases q6 : a1 = 2
  · rw [if_pos q6] at E
    refine g_tswIn C 2 74 q6 dX7_tell_1 (by decide) (by decide) rfl (by decide) ?_
    refine g_aload_n C 0 dX7_tell_74 rfl rfl ?_
    refine g_getI C dX7_tell_75 fl_X7_24 (by decide) (by decide) E (fun x7 E => ?_)
    exact g_iret C dX7_tell_78 hr E
  rw [if_neg q6] at E
  by_cases q8 : a1 = 3
  · rw [if_pos q8] at E
    refine g_tswIn C 3 79 q8 dX7_tell_1 (by decide) (by decide) rfl (by decide) ?_
    refine g_aload_n C 0 dX7_tell_79 rfl rfl ?_
    refine g_invI C (q := (RX7, TX7, 8)) [] dX7_tell_80 cl_X7_88 cv_X7_temperature rfl (by decide) rfl rfl ⟨Nat.le_of_ble_eq_true rfl, Nat.le_of_ble_eq_true rfl⟩ (Nat.le_of_ble_eq_true rfl) ⟨Nat.le_of_ble_eq_true rfl, Nat.le_of_ble_eq_true rfl⟩ rfl (fun r' h' E => o_X7_temperature l base D cA a0 h r' h' E) E (fun x9 h10 E => ?_)
    exact g_iret C dX7_tell_83 hr E
  rw [if_neg q8] at E
  by_cases q11 : a1 = 4
  · rw [if_pos q11] at E
    refine g_tswIn C 4 84 q11 dX7_tell_1 (by decide) (by decide) rfl (by decide) ?_
    refine g_aload_n C 0 dX7_tell_84 rfl rfl ?_
    refine g_getL C dX7_tell_85 fl_X7_27 rfl E (fun x12 E => ?_)
    refine g_l2i C dX7_tell_88 ?_
    exact g_iret C dX7_tell_89 hr E
  rw [if_neg q11] at E
  by_cases q13 : a1 = 5
  · rw [if_pos q13] at E
    refine g_tswIn C 5 90 q13 dX7_tell_1 (by decide) (by decide) rfl (by decide) ?_
    refine g_aload_n C 0 dX7_tell_90 rfl rfl ?_
    refine g_getI C dX7_tell_91 fl_X7_15 (by decide) (by decide) E (fun x14 E => ?_)
    exact g_iret C dX7_tell_94 hr E
  rw [if_neg q13] at E
  by_cases q15 : a1 = 6
  · rw [if_pos q15] at E
    refine g_tswIn C 6 95 q15 dX7_tell_1 (by decide) (by decide) rfl (by decide) ?_
    refine g_aload_n C 0 dX7_tell_95 rfl rfl ?_
    refine g_getI C dX7_tell_96 fl_X7_9 (by decide) (by decide) E (fun x16 E => ?_)
    refine g_if_ne C 107 dX7_tell_99 (by decide) E (fun E => ?_) (fun E => ?_)
    · refine g_aload_n C 0 dX7_tell_107 rfl rfl ?_
      refine g_getI C dX7_tell_108 fl_X7_21 (by decide) (by decide) E (fun x17 E => ?_)
      exact g_iret C dX7_tell_111 hr E
    · refine g_bipush C (-5) dX7_tell_102 rfl ?_
      refine g_goto C 111 dX7_tell_104 (by decide) ?_
      exact g_iret C dX7_tell_111 hr E
  rw [if_neg q15] at E
  by_cases q18 : a1 = 7
  · rw [if_pos q18] at E
    refine g_tswIn C 7 112 q18 dX7_tell_1 (by decide) (by decide) rfl (by decide) ?_
    refine g_aload_n C 0 dX7_tell_112 rfl rfl ?_
    refine g_getR C dX7_tell_113 fl_X7_34 rfl E (fun x19 E => ?_)
    refine g_getI C dX7_tell_116 fl_X7_40 (by decide) (by decide) E (fun x20 E => ?_)
    exact g_iret C dX7_tell_119 hr E
  rw [if_neg q18] at E
  by_cases q21 : a1 = 8
  · rw [if_pos q21] at E
    refine g_tswIn C 8 120 q21 dX7_tell_1 (by decide) (by decide) rfl (by decide) ?_
    refine g_aload_n C 0 dX7_tell_120 rfl rfl ?_
    refine g_getI C dX7_tell_121 fl_X7_31 (by decide) (by decide) E (fun x22 E => ?_)
    exact g_iret C dX7_tell_124 hr E
  rw [if_neg q21] at E
  refine g_tswDf C 125 dX7_tell_1 (fun z z1 z2 zx => ?_) (by decide) ?_
  · rcases (show z = 0 ∨ z = 1 ∨ z = 2 ∨ z = 3 ∨ z = 4 ∨ z = 5 ∨ z = 6 ∨ z = 7 ∨ z = 8 by omega) with rfl | rfl | rfl | rfl | rfl | rfl | rfl | rfl | rfl
    · exact absurd zx (lv_neT q1 (by decide))
    · exact absurd zx (lv_neT q3 (by decide))
    · exact absurd zx (lv_neT q6 (by decide))
    · exact absurd zx (lv_neT q8 (by decide))
    · exact absurd zx (lv_neT q11 (by decide))
    · exact absurd zx (lv_neT q13 (by decide))
    · exact absurd zx (lv_neT q15 (by decide))
    · exact absurd zx (lv_neT q18 (by decide))
    · exact absurd zx (lv_neT q21 (by decide))
  refine g_bipush C (-2) dX7_tell_125 rfl ?_
  exact g_iret C dX7_tell_127 hr E
abbrev rm_X8_init : Room := { frames := 5, cells := 296, slots := 3143, locals := 97 }
def s_X8_init (a0 : Nat) (h : Hp) : Rv Unit :=
  newO h 6 fun x1 h =>
  bnd (s_X6_init x1 h) fun _ h =>
  putR h a0 8 0 x1 fun h =>
  newO h 6 fun x2 h =>
  bnd (s_X6_init x2 h) fun _ h =>
  putR h a0 8 1 x2 fun h =>
  newO h 6 fun x3 h =>
  bnd (s_X6_init x3 h) fun _ h =>
  putR h a0 8 2 x3 fun h =>
  newO h 1 fun x4 h =>
  bnd (s_X1_init x4 h) fun _ h =>
  putR h a0 8 3 x4 fun h =>
  newO h 0 fun x5 h =>
  bnd (s_X0_init x5 h) fun _ h =>
  putR h a0 8 4 x5 fun h =>
  newO h 5 fun x6 h =>
  bnd (s_X5_init x6 h) fun _ h =>
  putR h a0 8 5 x6 fun h =>
  putZ h a0 8 6 0 fun h =>
  retU h
set_option maxRecDepth 100000 in
set_option maxHeartbeats 4000000 in
theorem o_X8_init (l : Launch) (base : Nat) (D : va_G) (cA : Nat → ClassId) (a0 : Nat) (h : Hp) (r : Unit) (h' : Hp) (E : s_X8_init a0 h = some (r, h')) : Met l yX8_init (.code yX8_init cX8_init 1 none :: wsA) rm_X8_init (PcG base D cA [.ref (base + a0)] h) (QcU base D cA h') 296 3143 (AA base) := by
  refine g_met [.ref (base + a0)] (by decide) (Nat.le_of_ble_eq_true rfl) (fun p e s m args below meth c C hr hn => ?_)
  refine g_lv (lv' := [(0, .ref (base + a0))]) rfl ?_
  unfold s_X8_init at E
  refine g_aload_n C 0 dX8_init_0 rfl rfl ?_
  refine g_obj C dX8_init_1 (in_wsA 23 (by decide +kernel) rfl) (ob_w2) (ob_w3) (Nat.le_of_ble_eq_true rfl) (Nat.le_of_ble_eq_true rfl) ?_
  refine g_aload_n C 0 dX8_init_4 rfl rfl ?_
  refine g_new C tyX6 tyX6_ok rfl (by decide) rfl inX6 (in_wsA 26 (by decide +kernel) rfl) (in_wsA 27 (by decide +kernel) rfl) (in_wsA 9 (by decide +kernel) rfl) (df_X6 base) (Nat.le_of_ble_eq_true rfl) (Nat.le_of_ble_eq_true rfl) dX8_init_5 E (fun x1 h2 E => ?_)
  refine g_dup C dX8_init_8 rfl ?_
  refine g_ini C [] dX8_init_9 cl_X8_9 ci_X6_init rfl rfl ⟨Nat.le_of_ble_eq_true rfl, Nat.le_of_ble_eq_true rfl⟩ (Nat.le_of_ble_eq_true rfl) ⟨Nat.le_of_ble_eq_true rfl, Nat.le_of_ble_eq_true rfl⟩ rfl (fun r' h' E => o_X6_init l base D cA x1 h2 r' h' E) E (fun x3 h4 E => ?_)
  refine g_putR C true dX8_init_12 fl_X8_10 ⟨rfl, rfl⟩ fp_X8_8_0 (fun _ => hn) rfl E (fun h5 E => ?_)
  refine g_aload_n C 0 dX8_init_15 rfl rfl ?_
  refine g_new C tyX6 tyX6_ok rfl (by decide) rfl inX6 (in_wsA 26 (by decide +kernel) rfl) (in_wsA 27 (by decide +kernel) rfl) (in_wsA 9 (by decide +kernel) rfl) (df_X6 base) (Nat.le_of_ble_eq_true rfl) (Nat.le_of_ble_eq_true rfl) dX8_init_16 E (fun x6 h7 E => ?_)
  refine g_dup C dX8_init_19 rfl ?_
  refine g_ini C [] dX8_init_20 cl_X8_9 ci_X6_init rfl rfl ⟨Nat.le_of_ble_eq_true rfl, Nat.le_of_ble_eq_true rfl⟩ (Nat.le_of_ble_eq_true rfl) ⟨Nat.le_of_ble_eq_true rfl, Nat.le_of_ble_eq_true rfl⟩ rfl (fun r' h' E => o_X6_init l base D cA x6 h7 r' h' E) E (fun x8 h9 E => ?_)
  refine g_putR C true dX8_init_23 fl_X8_16 ⟨rfl, rfl⟩ fp_X8_8_1 (fun _ => hn) rfl E (fun h10 E => ?_)
  refine g_aload_n C 0 dX8_init_26 rfl rfl ?_
  refine g_new C tyX6 tyX6_ok rfl (by decide) rfl inX6 (in_wsA 26 (by decide +kernel) rfl) (in_wsA 27 (by decide +kernel) rfl) (in_wsA 9 (by decide +kernel) rfl) (df_X6 base) (Nat.le_of_ble_eq_true rfl) (Nat.le_of_ble_eq_true rfl) dX8_init_27 E (fun x11 h12 E => ?_)
  refine g_dup C dX8_init_30 rfl ?_
  refine g_ini C [] dX8_init_31 cl_X8_9 ci_X6_init rfl rfl ⟨Nat.le_of_ble_eq_true rfl, Nat.le_of_ble_eq_true rfl⟩ (Nat.le_of_ble_eq_true rfl) ⟨Nat.le_of_ble_eq_true rfl, Nat.le_of_ble_eq_true rfl⟩ rfl (fun r' h' E => o_X6_init l base D cA x11 h12 r' h' E) E (fun x13 h14 E => ?_)
  refine g_putR C true dX8_init_34 fl_X8_19 ⟨rfl, rfl⟩ fp_X8_8_2 (fun _ => hn) rfl E (fun h15 E => ?_)
  refine g_aload_n C 0 dX8_init_37 rfl rfl ?_
  refine g_new C tyX1 tyX1_ok rfl (by decide) rfl inX1 (in_wsA 212 (by decide +kernel) rfl) (in_wsA 213 (by decide +kernel) rfl) (in_wsA 15 (by decide +kernel) rfl) (df_X1 base) (Nat.le_of_ble_eq_true rfl) (Nat.le_of_ble_eq_true rfl) dX8_init_38 E (fun x16 h17 E => ?_)
  refine g_dup C dX8_init_41 rfl ?_
  refine g_ini C [] dX8_init_42 cl_X8_24 ci_X1_init rfl rfl ⟨Nat.le_of_ble_eq_true rfl, Nat.le_of_ble_eq_true rfl⟩ (Nat.le_of_ble_eq_true rfl) ⟨Nat.le_of_ble_eq_true rfl, Nat.le_of_ble_eq_true rfl⟩ rfl (fun r' h' E => o_X1_init l base D cA x16 h17 r' h' E) E (fun x18 h19 E => ?_)
  refine g_putR C true dX8_init_45 fl_X8_25 ⟨rfl, rfl⟩ fp_X8_8_3 (fun _ => hn) rfl E (fun h20 E => ?_)
  refine g_aload_n C 0 dX8_init_48 rfl rfl ?_
  refine g_new C tyX0 tyX0_ok rfl (by decide) rfl inX0 (in_wsA 229 (by decide +kernel) rfl) (in_wsA 230 (by decide +kernel) rfl) (in_wsA 16 (by decide +kernel) rfl) (df_X0 base) (Nat.le_of_ble_eq_true rfl) (Nat.le_of_ble_eq_true rfl) dX8_init_49 E (fun x21 h22 E => ?_)
  refine g_dup C dX8_init_52 rfl ?_
  refine g_nin C [] dX8_init_53 C.2.2.2.2.2.2.2.2.1 cn_X0_init ci_X0_init rfl rfl ⟨Nat.le_of_ble_eq_true rfl, Nat.le_of_ble_eq_true rfl⟩ (Nat.le_of_ble_eq_true rfl) ⟨Nat.le_of_ble_eq_true rfl, Nat.le_of_ble_eq_true rfl⟩ rfl (fun r' h' E => o_X0_init l base D cA x21 h22 r' h' E) E (fun x23 h24 E => ?_)
  refine g_putR C true dX8_init_56 fl_X8_32 ⟨rfl, rfl⟩ fp_X8_8_4 (fun _ => hn) rfl E (fun h25 E => ?_)
  refine g_aload_n C 0 dX8_init_59 rfl rfl ?_
  refine g_new C tyX5 tyX5_ok rfl (by decide) rfl inX5 (in_wsA 249 (by decide +kernel) rfl) (in_wsA 250 (by decide +kernel) rfl) (in_wsA 17 (by decide +kernel) rfl) (df_X5 base) (Nat.le_of_ble_eq_true rfl) (Nat.le_of_ble_eq_true rfl) dX8_init_60 E (fun x26 h27 E => ?_)
  refine g_dup C dX8_init_63 rfl ?_
  refine g_nin C [] dX8_init_64 C.2.2.2.2.2.2.2.2.2.1 cn_X5_init ci_X5_init rfl rfl ⟨Nat.le_of_ble_eq_true rfl, Nat.le_of_ble_eq_true rfl⟩ (Nat.le_of_ble_eq_true rfl) ⟨Nat.le_of_ble_eq_true rfl, Nat.le_of_ble_eq_true rfl⟩ rfl (fun r' h' E => o_X5_init l base D cA x26 h27 r' h' E) E (fun x28 h29 E => ?_)
  refine g_putR C true dX8_init_67 fl_X8_39 ⟨rfl, rfl⟩ fp_X8_8_5 (fun _ => hn) rfl E (fun h30 E => ?_)
  refine g_aload_n C 0 dX8_init_70 rfl rfl ?_
  refine g_iconst C 0 dX8_init_71 rfl ?_
  refine g_putZ C false dX8_init_72 fl_X8_43 fp_X8_8_6 (fun q => Bool.noConfusion q) rfl E (fun h31 E => ?_)
  exact g_vret C dX8_init_75 hr E
abbrev rm_X8_addHouse : Room := { frames := 4, cells := 0, slots := 0, locals := 85 }
def s_X8_addHouse (a0 : Nat) (a1 : Int32) (a2 : Int32) (a3 : Int32) (h : Hp) : Rv Int32 :=
  bnd (s_X8_isWithin a1 1 20 h) fun x1 h =>
  if x1 = 0 then retI (-2) h
  else bnd (s_X8_isWithin a2 1 50 h) fun x2 h =>
  if x2 = 0 then retI (-2) h
  else bnd (s_X8_isWithin a3 0 9999 h) fun x3 h =>
  if x3 = 0 then retI (-2) h
  else getR h a0 8 0 fun x4 =>
  getI h x4 6 3 fun x5 =>
  if x5 < 8 then getR h a0 8 3 fun x6 =>
  getR h a0 8 0 fun x7 =>
  inv h x6 1 (s_X1_record x6 x7 h) fun _ h =>
  getR h a0 8 0 fun x8 =>
  inv h x8 6 (s_X6_settle x8 a1 a2 a3 h) fun x9 h =>
  retI x9 h
  else retI (-3) h
set_option maxRecDepth 100000 in
set_option maxHeartbeats 4000000 in
theorem o_X8_addHouse (l : Launch) (base : Nat) (D : va_G) (cA : Nat → ClassId) (a0 : Nat) (a1 : Int32) (a2 : Int32) (a3 : Int32) (h : Hp) (r : Int32) (h' : Hp) (E : s_X8_addHouse a0 a1 a2 a3 h = some (r, h')) : Met l yX8_addHouse (.code yX8_addHouse cX8_addHouse 4 (some .int) :: wsA) rm_X8_addHouse (PcG base D cA [.ref (base + a0), .int a1, .int a2, .int a3] h) (QcI base D cA r h') 0 0 (AA base) := by
  refine g_met [.ref (base + a0), .int a1, .int a2, .int a3] (by decide) (Nat.le_of_ble_eq_true rfl) (fun p e s m args below meth c C hr hn => ?_)
  refine g_lv (lv' := [(0, .ref (base + a0)), (1, .int a1), (2, .int a2), (3, .int a3)]) rfl ?_
  unfold s_X8_addHouse at E
  refine g_iload_n C 1 dX8_addHouse_0 rfl rfl ?_
  refine g_iconst C 1 dX8_addHouse_1 rfl ?_
  refine g_bipush C 20 dX8_addHouse_2 rfl ?_
  refine g_staI C [.int a1, .int 1, .int 20] dX8_addHouse_4 cl_X8_47 cs_X8_isWithin rfl rfl ⟨Nat.le_of_ble_eq_true rfl, Nat.le_of_ble_eq_true rfl⟩ (Nat.le_of_ble_eq_true rfl) ⟨Nat.le_of_ble_eq_true rfl, Nat.le_of_ble_eq_true rfl⟩ rfl (fun r' h' E => o_X8_isWithin l base D cA a1 1 20 h r' h' E) E (fun x1 h2 E => ?_)
  refine g_if_eq C 31 dX8_addHouse_7 (by decide) E (fun E => ?_) (fun E => ?_)
  · refine g_bipush C (-2) dX8_addHouse_31 rfl ?_
    exact g_iret C dX8_addHouse_33 hr E
  · refine g_iload_n C 2 dX8_addHouse_10 rfl rfl ?_
    refine g_iconst C 1 dX8_addHouse_11 rfl ?_
    refine g_bipush C 50 dX8_addHouse_12 rfl ?_
    refine g_staI C [.int a2, .int 1, .int 50] dX8_addHouse_14 cl_X8_47 cs_X8_isWithin rfl rfl ⟨Nat.le_of_ble_eq_true rfl, Nat.le_of_ble_eq_true rfl⟩ (Nat.le_of_ble_eq_true rfl) ⟨Nat.le_of_ble_eq_true rfl, Nat.le_of_ble_eq_true rfl⟩ rfl (fun r' h' E => o_X8_isWithin l base D cA a2 1 50 h2 r' h' E) E (fun x3 h4 E => ?_)
    refine g_if_eq C 31 dX8_addHouse_17 (by decide) E (fun E => ?_) (fun E => ?_)
    · refine g_bipush C (-2) dX8_addHouse_31 rfl ?_
      exact g_iret C dX8_addHouse_33 hr E
    · refine g_iload_n C 3 dX8_addHouse_20 rfl rfl ?_
      refine g_iconst C 0 dX8_addHouse_21 rfl ?_
      refine g_sipush C 9999 dX8_addHouse_22 rfl ?_
      refine g_staI C [.int a3, .int 0, .int 9999] dX8_addHouse_25 cl_X8_47 cs_X8_isWithin rfl rfl ⟨Nat.le_of_ble_eq_true rfl, Nat.le_of_ble_eq_true rfl⟩ (Nat.le_of_ble_eq_true rfl) ⟨Nat.le_of_ble_eq_true rfl, Nat.le_of_ble_eq_true rfl⟩ rfl (fun r' h' E => o_X8_isWithin l base D cA a3 0 9999 h4 r' h' E) E (fun x5 h6 E => ?_)
      refine g_if_ne C 34 dX8_addHouse_28 (by decide) E (fun E => ?_) (fun E => ?_)
      · refine g_aload_n C 0 dX8_addHouse_34 rfl rfl ?_
        refine g_getR C dX8_addHouse_35 fl_X8_10 rfl E (fun x7 E => ?_)
        refine g_getI C dX8_addHouse_38 fl_X8_51 (by decide) (by decide) E (fun x8 E => ?_)
        refine g_bipush C 8 dX8_addHouse_41 rfl ?_
        refine g_icmp_lt C 49 dX8_addHouse_43 (by decide) E (fun E => ?_) (fun E => ?_)
        · refine g_aload_n C 0 dX8_addHouse_49 rfl rfl ?_
          refine g_getR C dX8_addHouse_50 fl_X8_25 rfl E (fun x9 E => ?_)
          refine g_aload_n C 0 dX8_addHouse_53 rfl rfl ?_
          refine g_getR C dX8_addHouse_54 fl_X8_10 rfl E (fun x10 E => ?_)
          refine g_invU C (q := (RX1, TX1, 2)) [.ref (base + x10)] dX8_addHouse_57 cl_X8_55 cv_X1_record rfl (by decide) rfl rfl ⟨Nat.le_of_ble_eq_true rfl, Nat.le_of_ble_eq_true rfl⟩ (Nat.le_of_ble_eq_true rfl) ⟨Nat.le_of_ble_eq_true rfl, Nat.le_of_ble_eq_true rfl⟩ rfl (fun r' h' E => o_X1_record l base D cA x9 x10 h6 r' h' E) E (fun x11 h12 E => ?_)
          refine g_aload_n C 0 dX8_addHouse_60 rfl rfl ?_
          refine g_getR C dX8_addHouse_61 fl_X8_10 rfl E (fun x13 E => ?_)
          refine g_iload_n C 1 dX8_addHouse_64 rfl rfl ?_
          refine g_iload_n C 2 dX8_addHouse_65 rfl rfl ?_
          refine g_iload_n C 3 dX8_addHouse_66 rfl rfl ?_
          refine g_invI C (q := (RX6, TX6, 11)) [.int a1, .int a2, .int a3] dX8_addHouse_67 cl_X8_59 cv_X6_settle rfl (by decide) rfl rfl ⟨Nat.le_of_ble_eq_true rfl, Nat.le_of_ble_eq_true rfl⟩ (Nat.le_of_ble_eq_true rfl) ⟨Nat.le_of_ble_eq_true rfl, Nat.le_of_ble_eq_true rfl⟩ rfl (fun r' h' E => o_X6_settle l base D cA x13 a1 a2 a3 h12 r' h' E) E (fun x14 h15 E => ?_)
          exact g_iret C dX8_addHouse_70 hr E
        · refine g_bipush C (-3) dX8_addHouse_46 rfl ?_
          exact g_iret C dX8_addHouse_48 hr E
      · refine g_bipush C (-2) dX8_addHouse_31 rfl ?_
        exact g_iret C dX8_addHouse_33 hr E
abbrev rm_X8_set : Room := { frames := 4, cells := 0, slots := 0, locals := 85 }
def s_X8_set_J63 (v0 : Nat) (v1 : Int32) (v2 : Int32) (h : Hp) : Rv Int32 :=
  getR h v0 8 0 fun x5 =>
  getR h x5 6 0 fun x6 =>
  ldI h x6 20 v1 fun x7 =>
  if x7 = v2 then retI (-5) h
  else getR h v0 8 3 fun x8 =>
  getR h v0 8 0 fun x9 =>
  inv h x8 1 (s_X1_record x8 x9 h) fun _ h =>
  getR h v0 8 0 fun x10 =>
  getR h x10 6 0 fun x11 =>
  stI h x11 20 v1 v2 fun h =>
  retI x7 h
def s_X8_set_J44 (v0 : Nat) (v1 : Int32) (v2 : Int32) (h : Hp) : Rv Int32 :=
  if v1 = 3 then getR h v0 8 0 fun x12 =>
  inv h x12 6 (s_X6_hasUnlockedAbove x12 v2 h) fun x13 h =>
  if x13 = 0 then s_X8_set_J63 v0 v1 v2 h
  else retI (-4) h
  else s_X8_set_J63 v0 v1 v2 h
def s_X8_set (a0 : Nat) (a1 : Int32) (a2 : Int32) (h : Hp) : Rv Int32 :=
  bnd (s_X8_isWithin a1 0 3 h) fun x1 h =>
  if x1 = 0 then retI (-2) h
  else ldS leastS a1 fun x2 =>
  ldS mostS a1 fun x3 =>
  bnd (s_X8_isWithin a2 x2 x3 h) fun x4 h =>
  if x4 = 0 then retI (-2) h
  else if a1 = 0 then getR h a0 8 0 fun x14 =>
  getI h x14 6 8 fun x15 =>
  if a2 < x15 then retI (-4) h
  else s_X8_set_J44 a0 a1 a2 h
  else s_X8_set_J44 a0 a1 a2 h
set_option maxRecDepth 100000 in
set_option maxHeartbeats 4000000 in
theorem o_X8_set_J63 {l : Launch} {base : Nat} {D : va_G} {cA : Nat → ClassId} {p : Program} {e : Env} {s : State} {m : MethodId} {args : Array Value} {below : List Frame} {meth : Method} {c : Code} (C : GC base D cA p s m args meth c cX8_set 4 RX8) (hr : meth.sig.returnType = (some .int)) {X : Int32 × Hp} : ∀ (v0 : Nat) (v1 : Int32) (v2 : Int32) (h : Hp), s_X8_set_J63 v0 v1 v2 h = some X → GW base D cA p l e rm_X8_set s m args below meth c (MQ below (QcI base D cA X.1 X.2) args s 0 0 (AA base)) 4 h 0 0 63 [(0, .ref (base + v0)), (1, .int v1), (2, .int v2)] [] := by
  intro v0 v1 v2 h E
  unfold s_X8_set_J63 at E
  refine g_aload_n C 0 dX8_set_63 rfl rfl ?_
  refine g_getR C dX8_set_64 fl_X8_10 rfl E (fun x1 E => ?_)
  refine g_getR C dX8_set_67 fl_X8_77 rfl E (fun x2 E => ?_)
  refine g_iload_n C 1 dX8_set_70 rfl rfl ?_
  refine g_iald C dX8_set_71 E (fun x3 E => ?_)
  refine g_istore_n C (lv' := [(3, .int x3), (0, .ref (base + v0)), (1, .int v1), (2, .int v2)]) dX8_set_72 rfl (by decide) rfl ?_
  refine g_iload_n C 0 dX8_set_73 rfl rfl ?_
  refine g_iload_n C 3 dX8_set_74 rfl rfl ?_
  refine g_icmp_ne C 81 dX8_set_75 (by decide) E (fun E => ?_) (fun E => ?_)
  · refine g_aload_n C 1 dX8_set_81 rfl rfl ?_
    refine g_getR C dX8_set_82 fl_X8_25 rfl E (fun x4 E => ?_)
    refine g_aload_n C 1 dX8_set_85 rfl rfl ?_
    refine g_getR C dX8_set_86 fl_X8_10 rfl E (fun x5 E => ?_)
    refine g_invU C (q := (RX1, TX1, 2)) [.ref (base + x5)] dX8_set_89 cl_X8_55 cv_X1_record rfl (by decide) rfl rfl ⟨Nat.le_of_ble_eq_true rfl, Nat.le_of_ble_eq_true rfl⟩ (Nat.le_of_ble_eq_true rfl) ⟨Nat.le_of_ble_eq_true rfl, Nat.le_of_ble_eq_true rfl⟩ rfl (fun r' h' E => o_X1_record l base D cA x4 x5 h r' h' E) E (fun x6 h7 E => ?_)
    refine g_aload_n C 1 dX8_set_92 rfl rfl ?_
    refine g_getR C dX8_set_93 fl_X8_10 rfl E (fun x8 E => ?_)
    refine g_getR C dX8_set_96 fl_X8_77 rfl E (fun x9 E => ?_)
    refine g_iload_n C 2 dX8_set_99 rfl rfl ?_
    refine g_iload_n C 3 dX8_set_100 rfl rfl ?_
    refine g_iast C dX8_set_101 E (fun h10 E => ?_)
    refine g_iload_n C 0 dX8_set_102 rfl rfl ?_
    exact g_iret C dX8_set_103 hr E
  · refine g_bipush C (-5) dX8_set_78 rfl ?_
    exact g_iret C dX8_set_80 hr E
set_option maxRecDepth 100000 in
set_option maxHeartbeats 4000000 in
theorem o_X8_set_J44 {l : Launch} {base : Nat} {D : va_G} {cA : Nat → ClassId} {p : Program} {e : Env} {s : State} {m : MethodId} {args : Array Value} {below : List Frame} {meth : Method} {c : Code} (C : GC base D cA p s m args meth c cX8_set 4 RX8) (hr : meth.sig.returnType = (some .int)) {X : Int32 × Hp} : ∀ (v0 : Nat) (v1 : Int32) (v2 : Int32) (h : Hp), s_X8_set_J44 v0 v1 v2 h = some X → GW base D cA p l e rm_X8_set s m args below meth c (MQ below (QcI base D cA X.1 X.2) args s 0 0 (AA base)) 4 h 0 0 44 [(0, .ref (base + v0)), (1, .int v1), (2, .int v2)] [] := by
  intro v0 v1 v2 h E
  unfold s_X8_set_J44 at E
  refine g_iload_n C 1 dX8_set_44 rfl rfl ?_
  refine g_iconst C 3 dX8_set_45 rfl ?_
  refine g_icmp_ne C 63 dX8_set_46 (by decide) E (fun E => ?_) (fun E => ?_)
  · refine g_sub (lv' := [(0, .ref (base + v0)), (1, .int v1), (2, .int v2)]) [0, 1, 2] rfl ?_
    exact o_X8_set_J63 C hr v0 v1 v2 h E
  · refine g_aload_n C 0 dX8_set_49 rfl rfl ?_
    refine g_getR C dX8_set_50 fl_X8_10 rfl E (fun x1 E => ?_)
    refine g_iload_n C 2 dX8_set_53 rfl rfl ?_
    refine g_invI C (q := (RX6, TX6, 11)) [.int v2] dX8_set_54 cl_X8_73 cv_X6_hasUnlockedAbove rfl (by decide) rfl rfl ⟨Nat.le_of_ble_eq_true rfl, Nat.le_of_ble_eq_true rfl⟩ (Nat.le_of_ble_eq_true rfl) ⟨Nat.le_of_ble_eq_true rfl, Nat.le_of_ble_eq_true rfl⟩ rfl (fun r' h' E => o_X6_hasUnlockedAbove l base D cA x1 v2 h r' h' E) E (fun x2 h3 E => ?_)
    refine g_if_eq C 63 dX8_set_57 (by decide) E (fun E => ?_) (fun E => ?_)
    · refine g_sub (lv' := [(0, .ref (base + v0)), (1, .int v1), (2, .int v2)]) [0, 1, 2] rfl ?_
      exact o_X8_set_J63 C hr v0 v1 v2 h3 E
    · refine g_bipush C (-4) dX8_set_60 rfl ?_
      exact g_iret C dX8_set_62 hr E
set_option maxRecDepth 100000 in
set_option maxHeartbeats 4000000 in
theorem o_X8_set (l : Launch) (base : Nat) (D : va_G) (cA : Nat → ClassId) (a0 : Nat) (a1 : Int32) (a2 : Int32) (h : Hp) (r : Int32) (h' : Hp) (E : s_X8_set a0 a1 a2 h = some (r, h')) : Met l yX8_set (.code yX8_set cX8_set 4 (some .int) :: wsA) rm_X8_set (PcG base D cA [.ref (base + a0), .int a1, .int a2] h) (QcI base D cA r h') 0 0 (AA base) := by
  refine g_met [.ref (base + a0), .int a1, .int a2] (by decide) (Nat.le_of_ble_eq_true rfl) (fun p e s m args below meth c C hr hn => ?_)
  refine g_lv (lv' := [(0, .ref (base + a0)), (1, .int a1), (2, .int a2)]) rfl ?_
  unfold s_X8_set at E
  refine g_iload_n C 1 dX8_set_0 rfl rfl ?_
  refine g_iconst C 0 dX8_set_1 rfl ?_
  refine g_iconst C 3 dX8_set_2 rfl ?_
  refine g_staI C [.int a1, .int 0, .int 3] dX8_set_3 cl_X8_47 cs_X8_isWithin rfl rfl ⟨Nat.le_of_ble_eq_true rfl, Nat.le_of_ble_eq_true rfl⟩ (Nat.le_of_ble_eq_true rfl) ⟨Nat.le_of_ble_eq_true rfl, Nat.le_of_ble_eq_true rfl⟩ rfl (fun r' h' E => o_X8_isWithin l base D cA a1 0 3 h r' h' E) E (fun x1 h2 E => ?_)
  refine g_if_eq C 26 dX8_set_6 (by decide) E (fun E => ?_) (fun E => ?_)
  · refine g_bipush C (-2) dX8_set_26 rfl ?_
    exact g_iret C dX8_set_28 hr E
  · refine g_iload_n C 2 dX8_set_9 rfl rfl ?_
    refine g_getsL C dX8_set_10 (in_wsA 324 (by decide +kernel) rfl) (fun b3 hb4 hx5 => ?_)
    refine g_iload_n C 1 dX8_set_13 rfl rfl ?_
    refine g_sald C hb4 hx5 dX8_set_14 E (fun x6 E => ?_)
    refine g_getsM C dX8_set_15 (in_wsA 326 (by decide +kernel) rfl) (fun b7 hb8 hx9 => ?_)
    refine g_iload_n C 1 dX8_set_18 rfl rfl ?_
    refine g_sald C hb8 hx9 dX8_set_19 E (fun x10 E => ?_)
    refine g_staI C [.int a2, .int x6, .int x10] dX8_set_20 cl_X8_47 cs_X8_isWithin rfl rfl ⟨Nat.le_of_ble_eq_true rfl, Nat.le_of_ble_eq_true rfl⟩ (Nat.le_of_ble_eq_true rfl) ⟨Nat.le_of_ble_eq_true rfl, Nat.le_of_ble_eq_true rfl⟩ rfl (fun r' h' E => o_X8_isWithin l base D cA a2 x6 x10 h2 r' h' E) E (fun x11 h12 E => ?_)
    refine g_if_ne C 29 dX8_set_23 (by decide) E (fun E => ?_) (fun E => ?_)
    · refine g_iload_n C 1 dX8_set_29 rfl rfl ?_
      refine g_if_ne C 44 dX8_set_30 (by decide) E (fun E => ?_) (fun E => ?_)
      · refine g_sub (lv' := [(0, .ref (base + a0)), (1, .int a1), (2, .int a2)]) [0, 1, 2] rfl ?_
        exact o_X8_set_J44 C hr a0 a1 a2 h12 E
      · refine g_aload_n C 0 dX8_set_33 rfl rfl ?_
        refine g_getR C dX8_set_34 fl_X8_10 rfl E (fun x13 E => ?_)
        refine g_getI C dX8_set_37 fl_X8_70 (by decide) (by decide) E (fun x14 E => ?_)
        refine g_iload_n C 2 dX8_set_40 rfl rfl ?_
        refine g_icmp_gt C 60 dX8_set_41 (by decide) E (fun E => ?_) (fun E => ?_)
        · refine g_bipush C (-4) dX8_set_60 rfl ?_
          exact g_iret C dX8_set_62 hr E
        · refine g_sub (lv' := [(0, .ref (base + a0)), (1, .int a1), (2, .int a2)]) [0, 1, 2] rfl ?_
          exact o_X8_set_J44 C hr a0 a1 a2 h12 E
    · refine g_bipush C (-2) dX8_set_26 rfl ?_
      exact g_iret C dX8_set_28 hr E
abbrev rm_X8_power : Room := { frames := 4, cells := 0, slots := 0, locals := 85 }
def s_X8_power (a0 : Nat) (a1 : Int32) (h : Hp) : Rv Int32 :=
  getR h a0 8 0 fun x1 =>
  getI h x1 6 7 fun x2 =>
  if x2 = a1 then retI (-5) h
  else getR h a0 8 3 fun x3 =>
  getR h a0 8 0 fun x4 =>
  inv h x3 1 (s_X1_record x3 x4 h) fun _ h =>
  getR h a0 8 0 fun x5 =>
  inv h x5 6 (s_X6_switchPower x5 a1 h) fun _ h =>
  getR h a0 8 0 fun x6 =>
  inv h x6 6 (s_X6_washersIn x6 1 h) fun x7 h =>
  retI x7 h
set_option maxRecDepth 100000 in
set_option maxHeartbeats 4000000 in
theorem o_X8_power (l : Launch) (base : Nat) (D : va_G) (cA : Nat → ClassId) (a0 : Nat) (a1 : Int32) (h : Hp) (r : Int32) (h' : Hp) (E : s_X8_power a0 a1 h = some (r, h')) : Met l yX8_power (.code yX8_power cX8_power 2 (some .int) :: wsA) rm_X8_power (PcG base D cA [.ref (base + a0), .int a1] h) (QcI base D cA r h') 0 0 (AA base) := by
  refine g_met [.ref (base + a0), .int a1] (by decide) (Nat.le_of_ble_eq_true rfl) (fun p e s m args below meth c C hr hn => ?_)
  refine g_lv (lv' := [(0, .ref (base + a0)), (1, .int a1)]) rfl ?_
  unfold s_X8_power at E
  refine g_aload_n C 0 dX8_power_0 rfl rfl ?_
  refine g_getR C dX8_power_1 fl_X8_10 rfl E (fun x1 E => ?_)
  refine g_getI C dX8_power_4 fl_X8_80 (by decide) (by decide) E (fun x2 E => ?_)
  refine g_iload_n C 1 dX8_power_7 rfl rfl ?_
  refine g_icmp_ne C 14 dX8_power_8 (by decide) E (fun E => ?_) (fun E => ?_)
  · refine g_aload_n C 0 dX8_power_14 rfl rfl ?_
    refine g_getR C dX8_power_15 fl_X8_25 rfl E (fun x3 E => ?_)
    refine g_aload_n C 0 dX8_power_18 rfl rfl ?_
    refine g_getR C dX8_power_19 fl_X8_10 rfl E (fun x4 E => ?_)
    refine g_invU C (q := (RX1, TX1, 2)) [.ref (base + x4)] dX8_power_22 cl_X8_55 cv_X1_record rfl (by decide) rfl rfl ⟨Nat.le_of_ble_eq_true rfl, Nat.le_of_ble_eq_true rfl⟩ (Nat.le_of_ble_eq_true rfl) ⟨Nat.le_of_ble_eq_true rfl, Nat.le_of_ble_eq_true rfl⟩ rfl (fun r' h' E => o_X1_record l base D cA x3 x4 h r' h' E) E (fun x5 h6 E => ?_)
    refine g_aload_n C 0 dX8_power_25 rfl rfl ?_
    refine g_getR C dX8_power_26 fl_X8_10 rfl E (fun x7 E => ?_)
    refine g_iload_n C 1 dX8_power_29 rfl rfl ?_
    refine g_invU C (q := (RX6, TX6, 11)) [.int a1] dX8_power_30 cl_X8_83 cv_X6_switchPower rfl (by decide) rfl rfl ⟨Nat.le_of_ble_eq_true rfl, Nat.le_of_ble_eq_true rfl⟩ (Nat.le_of_ble_eq_true rfl) ⟨Nat.le_of_ble_eq_true rfl, Nat.le_of_ble_eq_true rfl⟩ rfl (fun r' h' E => o_X6_switchPower l base D cA x7 a1 h6 r' h' E) E (fun x8 h9 E => ?_)
    refine g_aload_n C 0 dX8_power_33 rfl rfl ?_
    refine g_getR C dX8_power_34 fl_X8_10 rfl E (fun x10 E => ?_)
    refine g_iconst C 1 dX8_power_37 rfl ?_
    refine g_invI C (q := (RX6, TX6, 11)) [.int 1] dX8_power_38 cl_X8_87 cv_X6_washersIn rfl (by decide) rfl rfl ⟨Nat.le_of_ble_eq_true rfl, Nat.le_of_ble_eq_true rfl⟩ (Nat.le_of_ble_eq_true rfl) ⟨Nat.le_of_ble_eq_true rfl, Nat.le_of_ble_eq_true rfl⟩ rfl (fun r' h' E => o_X6_washersIn l base D cA x10 1 h9 r' h' E) E (fun x11 h12 E => ?_)
    exact g_iret C dX8_power_41 hr E
  · refine g_bipush C (-5) dX8_power_11 rfl ?_
    exact g_iret C dX8_power_13 hr E
abbrev rm_X8_pass : Room := { frames := 6, cells := 0, slots := 0, locals := 138 }
def s_X8_pass_L28 : Nat → Nat → Int32 → Int32 → Int32 → Hp → Rv Int32
  | 0, _, _, _, _, _ => none
  | n + 1, v0, v1, v2, v3, h =>
    if v1 ≤ v3 then retI v2 h
  else getR h v0 8 0 fun x4 =>
  getR h v0 8 4 fun x5 =>
  inv h x4 6 (s_X6_passMinute x4 x5 h) fun x6 h =>
  s_X8_pass_L28 n v0 v1 (v2 + x6) (v3 + 1) h
def s_X8_pass (a0 : Nat) (a1 : Int32) (h : Hp) : Rv Int32 :=
  bnd (s_X8_isWithin a1 1 60 h) fun x1 h =>
  if x1 = 0 then retI (-2) h
  else getR h a0 8 3 fun x2 =>
  getR h a0 8 0 fun x3 =>
  inv h x2 1 (s_X1_record x2 x3 h) fun _ h =>
  s_X8_pass_L28 100000 a0 a1 0 0 h
set_option maxRecDepth 100000 in
set_option maxHeartbeats 4000000 in
theorem o_X8_pass_L28 {l : Launch} {base : Nat} {D : va_G} {cA : Nat → ClassId} {p : Program} {e : Env} {s : State} {m : MethodId} {args : Array Value} {below : List Frame} {meth : Method} {c : Code} (C : GC base D cA p s m args meth c cX8_pass 4 RX8) (hr : meth.sig.returnType = (some .int)) {X : Int32 × Hp} : ∀ (n : Nat) (v0 : Nat) (v1 : Int32) (v2 : Int32) (v3 : Int32) (h : Hp), s_X8_pass_L28 n v0 v1 v2 v3 h = some X → GW base D cA p l e rm_X8_pass s m args below meth c (MQ below (QcI base D cA X.1 X.2) args s 0 0 (AA base)) 4 h 0 0 28 [(0, .ref (base + v0)), (1, .int v1), (2, .int v2), (3, .int v3)] [] := by
  intro n
  induction n with
  | zero =>
    intro v0 v1 v2 v3 h E
    rw [s_X8_pass_L28] at E
    cases E
  | succ n ih =>
    intro v0 v1 v2 v3 h E
    rw [s_X8_pass_L28] at E
    refine g_iload_n C 3 dX8_pass_28 rfl rfl ?_
    refine g_iload_n C 1 dX8_pass_29 rfl rfl ?_
    refine g_icmp_ge C 53 dX8_pass_30 (by decide) E (fun E => ?_) (fun E => ?_)
    · refine g_iload_n C 2 dX8_pass_53 rfl rfl ?_
      exact g_iret C dX8_pass_54 hr E
    · refine g_iload_n C 2 dX8_pass_33 rfl rfl ?_
      refine g_aload_n C 0 dX8_pass_34 rfl rfl ?_
      refine g_getR C dX8_pass_35 fl_X8_10 rfl E (fun x1 E => ?_)
      refine g_aload_n C 0 dX8_pass_38 rfl rfl ?_
      refine g_getR C dX8_pass_39 fl_X8_32 rfl E (fun x2 E => ?_)
      refine g_invI C (q := (RX6, TX6, 11)) [.ref (base + x2)] dX8_pass_42 cl_X8_91 cv_X6_passMinute rfl (by decide) rfl rfl ⟨Nat.le_of_ble_eq_true rfl, Nat.le_of_ble_eq_true rfl⟩ (Nat.le_of_ble_eq_true rfl) ⟨Nat.le_of_ble_eq_true rfl, Nat.le_of_ble_eq_true rfl⟩ rfl (fun r' h' E => o_X6_passMinute l base D cA x1 x2 h r' h' E) E (fun x3 h4 E => ?_)
      refine g_iadd C dX8_pass_45 ?_
      refine g_istore_n C (lv' := [(2, .int (v2 + x3)), (0, .ref (base + v0)), (1, .int v1), (3, .int v3)]) dX8_pass_46 rfl (by decide) rfl ?_
      refine g_iinc C (lv' := [(3, .int (v3 + 1)), (2, .int (v2 + x3)), (0, .ref (base + v0)), (1, .int v1)]) 3 1 dX8_pass_47 rfl rfl (by decide) rfl ?_
      refine g_goto C 28 dX8_pass_50 (by decide) ?_
      refine g_sub (lv' := [(0, .ref (base + v0)), (1, .int v1), (2, .int (v2 + x3)), (3, .int (v3 + 1))]) [2, 3, 1, 0] rfl ?_
      exact ih v0 v1 (v2 + x3) (v3 + 1) h4 E
set_option maxRecDepth 100000 in
set_option maxHeartbeats 4000000 in
theorem o_X8_pass (l : Launch) (base : Nat) (D : va_G) (cA : Nat → ClassId) (a0 : Nat) (a1 : Int32) (h : Hp) (r : Int32) (h' : Hp) (E : s_X8_pass a0 a1 h = some (r, h')) : Met l yX8_pass (.code yX8_pass cX8_pass 4 (some .int) :: wsA) rm_X8_pass (PcG base D cA [.ref (base + a0), .int a1] h) (QcI base D cA r h') 0 0 (AA base) := by
  refine g_met [.ref (base + a0), .int a1] (by decide) (Nat.le_of_ble_eq_true rfl) (fun p e s m args below meth c C hr hn => ?_)
  refine g_lv (lv' := [(0, .ref (base + a0)), (1, .int a1)]) rfl ?_
  unfold s_X8_pass at E
  refine g_iload_n C 1 dX8_pass_0 rfl rfl ?_
  refine g_iconst C 1 dX8_pass_1 rfl ?_
  refine g_bipush C 60 dX8_pass_2 rfl ?_
  refine g_staI C [.int a1, .int 1, .int 60] dX8_pass_4 cl_X8_47 cs_X8_isWithin rfl rfl ⟨Nat.le_of_ble_eq_true rfl, Nat.le_of_ble_eq_true rfl⟩ (Nat.le_of_ble_eq_true rfl) ⟨Nat.le_of_ble_eq_true rfl, Nat.le_of_ble_eq_true rfl⟩ rfl (fun r' h' E => o_X8_isWithin l base D cA a1 1 60 h r' h' E) E (fun x1 h2 E => ?_)
  refine g_if_ne C 13 dX8_pass_7 (by decide) E (fun E => ?_) (fun E => ?_)
  · refine g_aload_n C 0 dX8_pass_13 rfl rfl ?_
    refine g_getR C dX8_pass_14 fl_X8_25 rfl E (fun x3 E => ?_)
    refine g_aload_n C 0 dX8_pass_17 rfl rfl ?_
    refine g_getR C dX8_pass_18 fl_X8_10 rfl E (fun x4 E => ?_)
    refine g_invU C (q := (RX1, TX1, 2)) [.ref (base + x4)] dX8_pass_21 cl_X8_55 cv_X1_record rfl (by decide) rfl rfl ⟨Nat.le_of_ble_eq_true rfl, Nat.le_of_ble_eq_true rfl⟩ (Nat.le_of_ble_eq_true rfl) ⟨Nat.le_of_ble_eq_true rfl, Nat.le_of_ble_eq_true rfl⟩ rfl (fun r' h' E => o_X1_record l base D cA x3 x4 h2 r' h' E) E (fun x5 h6 E => ?_)
    refine g_iconst C 0 dX8_pass_24 rfl ?_
    refine g_istore_n C (lv' := [(2, .int 0), (0, .ref (base + a0)), (1, .int a1)]) dX8_pass_25 rfl (by decide) rfl ?_
    refine g_iconst C 0 dX8_pass_26 rfl ?_
    refine g_istore_n C (lv' := [(3, .int 0), (2, .int 0), (0, .ref (base + a0)), (1, .int a1)]) dX8_pass_27 rfl (by decide) rfl ?_
    refine g_sub (lv' := [(0, .ref (base + a0)), (1, .int a1), (2, .int 0), (3, .int 0)]) [2, 3, 1, 0] rfl ?_
    exact o_X8_pass_L28 C hr _ a0 a1 0 0 h6 E
  · refine g_bipush C (-2) dX8_pass_10 rfl ?_
    exact g_iret C dX8_pass_12 hr E
abbrev rm_X8_type : Room := { frames := 1, cells := 0, slots := 0, locals := 21 }
def s_X8_type (a0 : Nat) (a1 : Int32) (h : Hp) : Rv Int32 :=
  getR h a0 8 5 fun x1 =>
  inv h x1 5 (s_X5_append x1 a1 h) fun x2 h =>
  if x2 = 0 then retI (-3) h
  else getR h a0 8 5 fun x3 =>
  getI h x3 5 1 fun x4 =>
  retI x4 h
set_option maxRecDepth 100000 in
set_option maxHeartbeats 4000000 in
theorem o_X8_type (l : Launch) (base : Nat) (D : va_G) (cA : Nat → ClassId) (a0 : Nat) (a1 : Int32) (h : Hp) (r : Int32) (h' : Hp) (E : s_X8_type a0 a1 h = some (r, h')) : Met l yX8_type (.code yX8_type cX8_type 2 (some .int) :: wsA) rm_X8_type (PcG base D cA [.ref (base + a0), .int a1] h) (QcI base D cA r h') 0 0 (AA base) := by
  refine g_met [.ref (base + a0), .int a1] (by decide) (Nat.le_of_ble_eq_true rfl) (fun p e s m args below meth c C hr hn => ?_)
  refine g_lv (lv' := [(0, .ref (base + a0)), (1, .int a1)]) rfl ?_
  unfold s_X8_type at E
  refine g_aload_n C 0 dX8_type_0 rfl rfl ?_
  refine g_getR C dX8_type_1 fl_X8_39 rfl E (fun x1 E => ?_)
  refine g_iload_n C 1 dX8_type_4 rfl rfl ?_
  refine g_invI C (q := (RX5, TX5, 2)) [.int a1] dX8_type_5 cl_X8_95 cv_X5_append rfl (by decide) rfl rfl ⟨Nat.le_of_ble_eq_true rfl, Nat.le_of_ble_eq_true rfl⟩ (Nat.le_of_ble_eq_true rfl) ⟨Nat.le_of_ble_eq_true rfl, Nat.le_of_ble_eq_true rfl⟩ rfl (fun r' h' E => o_X5_append l base D cA x1 a1 h r' h' E) E (fun x2 h3 E => ?_)
  refine g_if_eq C 21 dX8_type_8 (by decide) E (fun E => ?_) (fun E => ?_)
  · refine g_bipush C (-3) dX8_type_21 rfl ?_
    exact g_iret C dX8_type_23 hr E
  · refine g_aload_n C 0 dX8_type_11 rfl rfl ?_
    refine g_getR C dX8_type_12 fl_X8_39 rfl E (fun x4 E => ?_)
    refine g_getI C dX8_type_15 fl_X8_99 (by decide) (by decide) E (fun x5 E => ?_)
    refine g_goto C 23 dX8_type_18 (by decide) ?_
    exact g_iret C dX8_type_23 hr E
abbrev rm_X8_clearText : Room := { frames := 0, cells := 0, slots := 0, locals := 0 }
def s_X8_clearText (a0 : Nat) (h : Hp) : Rv Int32 :=
  getR h a0 8 5 fun x1 =>
  getI h x1 5 1 fun x2 =>
  getR h a0 8 5 fun x3 =>
  putI h x3 5 1 0 fun h =>
  retI x2 h
set_option maxRecDepth 100000 in
set_option maxHeartbeats 4000000 in
theorem o_X8_clearText (l : Launch) (base : Nat) (D : va_G) (cA : Nat → ClassId) (a0 : Nat) (h : Hp) (r : Int32) (h' : Hp) (E : s_X8_clearText a0 h = some (r, h')) : Met l yX8_clearText (.code yX8_clearText cX8_clearText 2 (some .int) :: wsA) rm_X8_clearText (PcG base D cA [.ref (base + a0)] h) (QcI base D cA r h') 0 0 (AA base) := by
  refine g_met [.ref (base + a0)] (by decide) (Nat.le_of_ble_eq_true rfl) (fun p e s m args below meth c C hr hn => ?_)
  refine g_lv (lv' := [(0, .ref (base + a0))]) rfl ?_
  unfold s_X8_clearText at E
  refine g_aload_n C 0 dX8_clearText_0 rfl rfl ?_
  refine g_getR C dX8_clearText_1 fl_X8_39 rfl E (fun x1 E => ?_)
  refine g_getI C dX8_clearText_4 fl_X8_99 (by decide) (by decide) E (fun x2 E => ?_)
  refine g_istore_n C (lv' := [(1, .int x2), (0, .ref (base + a0))]) dX8_clearText_7 rfl (by decide) rfl ?_
  refine g_aload_n C 1 dX8_clearText_8 rfl rfl ?_
  refine g_getR C dX8_clearText_9 fl_X8_39 rfl E (fun x3 E => ?_)
  refine g_iconst C 0 dX8_clearText_12 rfl ?_
  refine g_putI C false dX8_clearText_13 fl_X8_99 fp_X8_5_1 (fun q => Bool.noConfusion q) rfl E (fun h4 E => ?_)
  refine g_iload_n C 0 dX8_clearText_16 rfl rfl ?_
  exact g_iret C dX8_clearText_17 hr E
abbrev rm_X8_readProgram : Room := { frames := 4, cells := 3, slots := 131, locals := 85 }
def s_X8_readProgram (a0 : Nat) (a1 : Int32) (h : Hp) : Rv Int32 :=
  getR h a0 8 0 fun x1 =>
  inv h x1 6 (s_X6_hasHouse x1 a1 h) fun x2 h =>
  if x2 = 0 then retI (-1) h
  else getR h a0 8 5 fun x3 =>
  inv h x3 5 (s_X5_firstFault x3 h) fun x4 h =>
  if x4 = (-5) then getR h a0 8 5 fun x5 =>
  inv h x5 5 (s_X5_toProgram x5 h) fun x6 h =>
  inv h x6 4 (s_X4_hasGoodNumbers x6 h) fun x7 h =>
  if x7 = 0 then retI (-2) h
  else getI h x6 4 0 fun x8 =>
  if x8 ≤ 12 then getR h a0 8 0 fun x9 =>
  inv h x9 6 (s_X6_washerOf x9 a1 h) fun x10 h =>
  getI h x10 7 1 fun x11 =>
  if x11 = 1 then retI (-4) h
  else getR h a0 8 3 fun x12 =>
  getR h a0 8 0 fun x13 =>
  inv h x12 1 (s_X1_record x12 x13 h) fun _ h =>
  getR h a0 8 0 fun x14 =>
  inv h x14 6 (s_X6_washerOf x14 a1 h) fun x15 h =>
  putR h x15 7 0 x6 fun h =>
  getI h x6 4 0 fun x16 =>
  retI x16 h
  else retI (-3) h
  else retI ((-100) - x4) h
set_option maxRecDepth 100000 in
set_option maxHeartbeats 4000000 in
theorem o_X8_readProgram (l : Launch) (base : Nat) (D : va_G) (cA : Nat → ClassId) (a0 : Nat) (a1 : Int32) (h : Hp) (r : Int32) (h' : Hp) (E : s_X8_readProgram a0 a1 h = some (r, h')) : Met l yX8_readProgram (.code yX8_readProgram cX8_readProgram 4 (some .int) :: wsA) rm_X8_readProgram (PcG base D cA [.ref (base + a0), .int a1] h) (QcI base D cA r h') 3 131 (AA base) := by
  refine g_met [.ref (base + a0), .int a1] (by decide) (Nat.le_of_ble_eq_true rfl) (fun p e s m args below meth c C hr hn => ?_)
  refine g_lv (lv' := [(0, .ref (base + a0)), (1, .int a1)]) rfl ?_
  unfold s_X8_readProgram at E
  refine g_aload_n C 0 dX8_readProgram_0 rfl rfl ?_
  refine g_getR C dX8_readProgram_1 fl_X8_10 rfl E (fun x1 E => ?_)
  refine g_iload_n C 1 dX8_readProgram_4 rfl rfl ?_
  refine g_invI C (q := (RX6, TX6, 11)) [.int a1] dX8_readProgram_5 cl_X8_102 cv_X6_hasHouse rfl (by decide) rfl rfl ⟨Nat.le_of_ble_eq_true rfl, Nat.le_of_ble_eq_true rfl⟩ (Nat.le_of_ble_eq_true rfl) ⟨Nat.le_of_ble_eq_true rfl, Nat.le_of_ble_eq_true rfl⟩ rfl (fun r' h' E => o_X6_hasHouse l base D cA x1 a1 h r' h' E) E (fun x2 h3 E => ?_)
  refine g_if_ne C 13 dX8_readProgram_8 (by decide) E (fun E => ?_) (fun E => ?_)
  · refine g_aload_n C 0 dX8_readProgram_13 rfl rfl ?_
    refine g_getR C dX8_readProgram_14 fl_X8_39 rfl E (fun x4 E => ?_)
    refine g_invI C (q := (RX5, TX5, 2)) [] dX8_readProgram_17 cl_X8_105 cv_X5_firstFault rfl (by decide) rfl rfl ⟨Nat.le_of_ble_eq_true rfl, Nat.le_of_ble_eq_true rfl⟩ (Nat.le_of_ble_eq_true rfl) ⟨Nat.le_of_ble_eq_true rfl, Nat.le_of_ble_eq_true rfl⟩ rfl (fun r' h' E => o_X5_firstFault l base D cA x4 h3 r' h' E) E (fun x5 h6 E => ?_)
    refine g_istore_n C (lv' := [(2, .int x5), (0, .ref (base + a0)), (1, .int a1)]) dX8_readProgram_20 rfl (by decide) rfl ?_
    refine g_iload_n C 0 dX8_readProgram_21 rfl rfl ?_
    refine g_bipush C (-5) dX8_readProgram_22 rfl ?_
    refine g_icmp_eq C 32 dX8_readProgram_24 (by decide) E (fun E => ?_) (fun E => ?_)
    · refine g_aload_n C 1 dX8_readProgram_32 rfl rfl ?_
      refine g_getR C dX8_readProgram_33 fl_X8_39 rfl E (fun x7 E => ?_)
      refine g_invR C (q := (RX5, TX5, 2)) [] dX8_readProgram_36 cl_X8_109 cv_X5_toProgram rfl (by decide) rfl rfl ⟨Nat.le_of_ble_eq_true rfl, Nat.le_of_ble_eq_true rfl⟩ (Nat.le_of_ble_eq_true rfl) ⟨Nat.le_of_ble_eq_true rfl, Nat.le_of_ble_eq_true rfl⟩ rfl (fun r' h' E => o_X5_toProgram l base D cA x7 h6 r' h' E) E (fun x8 h9 E => ?_)
      refine g_astore_n C (lv' := [(3, .ref (base + x8)), (2, .int x5), (0, .ref (base + a0)), (1, .int a1)]) dX8_readProgram_39 rfl (by decide) rfl ?_
      refine g_aload_n C 0 dX8_readProgram_40 rfl rfl ?_
      refine g_invI C (q := (RX4, TX4, 3)) [] dX8_readProgram_41 cl_X8_113 cv_X4_hasGoodNumbers rfl (by decide) rfl rfl ⟨Nat.le_of_ble_eq_true rfl, Nat.le_of_ble_eq_true rfl⟩ (Nat.le_of_ble_eq_true rfl) ⟨Nat.le_of_ble_eq_true rfl, Nat.le_of_ble_eq_true rfl⟩ rfl (fun r' h' E => o_X4_hasGoodNumbers l base D cA x8 h9 r' h' E) E (fun x10 h11 E => ?_)
      refine g_if_ne C 50 dX8_readProgram_44 (by decide) E (fun E => ?_) (fun E => ?_)
      · refine g_aload_n C 0 dX8_readProgram_50 rfl rfl ?_
        refine g_getI C dX8_readProgram_51 fl_X8_119 (by decide) (by decide) E (fun x12 E => ?_)
        refine g_bipush C 12 dX8_readProgram_54 rfl ?_
        refine g_icmp_le C 62 dX8_readProgram_56 (by decide) E (fun E => ?_) (fun E => ?_)
        · refine g_aload_n C 2 dX8_readProgram_62 rfl rfl ?_
          refine g_getR C dX8_readProgram_63 fl_X8_10 rfl E (fun x13 E => ?_)
          refine g_iload_n C 3 dX8_readProgram_66 rfl rfl ?_
          refine g_invR C (q := (RX6, TX6, 11)) [.int a1] dX8_readProgram_67 cl_X8_120 cv_X6_washerOf rfl (by decide) rfl rfl ⟨Nat.le_of_ble_eq_true rfl, Nat.le_of_ble_eq_true rfl⟩ (Nat.le_of_ble_eq_true rfl) ⟨Nat.le_of_ble_eq_true rfl, Nat.le_of_ble_eq_true rfl⟩ rfl (fun r' h' E => o_X6_washerOf l base D cA x13 a1 h11 r' h' E) E (fun x14 h15 E => ?_)
          refine g_getI C dX8_readProgram_70 fl_X8_124 (by decide) (by decide) E (fun x16 E => ?_)
          refine g_iconst C 1 dX8_readProgram_73 rfl ?_
          refine g_icmp_ne C 80 dX8_readProgram_74 (by decide) E (fun E => ?_) (fun E => ?_)
          · refine g_aload_n C 2 dX8_readProgram_80 rfl rfl ?_
            refine g_getR C dX8_readProgram_81 fl_X8_25 rfl E (fun x17 E => ?_)
            refine g_aload_n C 2 dX8_readProgram_84 rfl rfl ?_
            refine g_getR C dX8_readProgram_85 fl_X8_10 rfl E (fun x18 E => ?_)
            refine g_invU C (q := (RX1, TX1, 2)) [.ref (base + x18)] dX8_readProgram_88 cl_X8_55 cv_X1_record rfl (by decide) rfl rfl ⟨Nat.le_of_ble_eq_true rfl, Nat.le_of_ble_eq_true rfl⟩ (Nat.le_of_ble_eq_true rfl) ⟨Nat.le_of_ble_eq_true rfl, Nat.le_of_ble_eq_true rfl⟩ rfl (fun r' h' E => o_X1_record l base D cA x17 x18 h15 r' h' E) E (fun x19 h20 E => ?_)
            refine g_aload_n C 2 dX8_readProgram_91 rfl rfl ?_
            refine g_getR C dX8_readProgram_92 fl_X8_10 rfl E (fun x21 E => ?_)
            refine g_iload_n C 3 dX8_readProgram_95 rfl rfl ?_
            refine g_invR C (q := (RX6, TX6, 11)) [.int a1] dX8_readProgram_96 cl_X8_120 cv_X6_washerOf rfl (by decide) rfl rfl ⟨Nat.le_of_ble_eq_true rfl, Nat.le_of_ble_eq_true rfl⟩ (Nat.le_of_ble_eq_true rfl) ⟨Nat.le_of_ble_eq_true rfl, Nat.le_of_ble_eq_true rfl⟩ rfl (fun r' h' E => o_X6_washerOf l base D cA x21 a1 h20 r' h' E) E (fun x22 h23 E => ?_)
            refine g_aload_n C 0 dX8_readProgram_99 rfl rfl ?_
            refine g_putR C false dX8_readProgram_100 fl_X8_129 ⟨rfl, rfl⟩ fp_X8_7_0 (fun q => Bool.noConfusion q) rfl E (fun h24 E => ?_)
            refine g_aload_n C 0 dX8_readProgram_103 rfl rfl ?_
            refine g_getI C dX8_readProgram_104 fl_X8_119 (by decide) (by decide) E (fun x25 E => ?_)
            exact g_iret C dX8_readProgram_107 hr E
          · refine g_bipush C (-4) dX8_readProgram_77 rfl ?_
            exact g_iret C dX8_readProgram_79 hr E
        · refine g_bipush C (-3) dX8_readProgram_59 rfl ?_
          exact g_iret C dX8_readProgram_61 hr E
      · refine g_bipush C (-2) dX8_readProgram_47 rfl ?_
        exact g_iret C dX8_readProgram_49 hr E
    · refine g_bipush C (-100) dX8_readProgram_27 rfl ?_
      refine g_iload_n C 0 dX8_readProgram_29 rfl rfl ?_
      refine g_isub C dX8_readProgram_30 ?_
      refine g_widen 3 131 (by decide) (by decide) ?_
      exact g_iret C dX8_readProgram_31 hr E
  · refine g_iconst C (-1) dX8_readProgram_11 rfl ?_
    refine g_widen 3 131 (by decide) (by decide) ?_
    exact g_iret C dX8_readProgram_12 hr E
abbrev rm_X8_start : Room := { frames := 4, cells := 0, slots := 0, locals := 85 }
def s_X8_start (a0 : Nat) (a1 : Int32) (h : Hp) : Rv Int32 :=
  getR h a0 8 0 fun x1 =>
  inv h x1 6 (s_X6_hasHouse x1 a1 h) fun x2 h =>
  if x2 = 0 then retI (-1) h
  else getR h a0 8 0 fun x3 =>
  inv h x3 6 (s_X6_washerOf x3 a1 h) fun x4 h =>
  getR h a0 8 0 fun x5 =>
  getI h x5 6 7 fun x6 =>
  if x6 = 0 then retI (-4) h
  else inv h x4 7 (s_X7_canStart x4 h) fun x7 h =>
  if x7 = 0 then retI (-4) h
  else getR h a0 8 3 fun x8 =>
  getR h a0 8 0 fun x9 =>
  inv h x8 1 (s_X1_record x8 x9 h) fun _ h =>
  inv h x4 7 (s_X7_begin x4 h) fun _ h =>
  getR h x4 7 0 fun x10 =>
  getI h x10 4 0 fun x11 =>
  retI x11 h
set_option maxRecDepth 100000 in
set_option maxHeartbeats 4000000 in
theorem o_X8_start (l : Launch) (base : Nat) (D : va_G) (cA : Nat → ClassId) (a0 : Nat) (a1 : Int32) (h : Hp) (r : Int32) (h' : Hp) (E : s_X8_start a0 a1 h = some (r, h')) : Met l yX8_start (.code yX8_start cX8_start 3 (some .int) :: wsA) rm_X8_start (PcG base D cA [.ref (base + a0), .int a1] h) (QcI base D cA r h') 0 0 (AA base) := by
  refine g_met [.ref (base + a0), .int a1] (by decide) (Nat.le_of_ble_eq_true rfl) (fun p e s m args below meth c C hr hn => ?_)
  refine g_lv (lv' := [(0, .ref (base + a0)), (1, .int a1)]) rfl ?_
  unfold s_X8_start at E
  refine g_aload_n C 0 dX8_start_0 rfl rfl ?_
  refine g_getR C dX8_start_1 fl_X8_10 rfl E (fun x1 E => ?_)
  refine g_iload_n C 1 dX8_start_4 rfl rfl ?_
  refine g_invI C (q := (RX6, TX6, 11)) [.int a1] dX8_start_5 cl_X8_102 cv_X6_hasHouse rfl (by decide) rfl rfl ⟨Nat.le_of_ble_eq_true rfl, Nat.le_of_ble_eq_true rfl⟩ (Nat.le_of_ble_eq_true rfl) ⟨Nat.le_of_ble_eq_true rfl, Nat.le_of_ble_eq_true rfl⟩ rfl (fun r' h' E => o_X6_hasHouse l base D cA x1 a1 h r' h' E) E (fun x2 h3 E => ?_)
  refine g_if_ne C 13 dX8_start_8 (by decide) E (fun E => ?_) (fun E => ?_)
  · refine g_aload_n C 0 dX8_start_13 rfl rfl ?_
    refine g_getR C dX8_start_14 fl_X8_10 rfl E (fun x4 E => ?_)
    refine g_iload_n C 1 dX8_start_17 rfl rfl ?_
    refine g_invR C (q := (RX6, TX6, 11)) [.int a1] dX8_start_18 cl_X8_120 cv_X6_washerOf rfl (by decide) rfl rfl ⟨Nat.le_of_ble_eq_true rfl, Nat.le_of_ble_eq_true rfl⟩ (Nat.le_of_ble_eq_true rfl) ⟨Nat.le_of_ble_eq_true rfl, Nat.le_of_ble_eq_true rfl⟩ rfl (fun r' h' E => o_X6_washerOf l base D cA x4 a1 h3 r' h' E) E (fun x5 h6 E => ?_)
    refine g_astore_n C (lv' := [(2, .ref (base + x5)), (0, .ref (base + a0)), (1, .int a1)]) dX8_start_21 rfl (by decide) rfl ?_
    refine g_aload_n C 1 dX8_start_22 rfl rfl ?_
    refine g_getR C dX8_start_23 fl_X8_10 rfl E (fun x7 E => ?_)
    refine g_getI C dX8_start_26 fl_X8_80 (by decide) (by decide) E (fun x8 E => ?_)
    refine g_if_eq C 39 dX8_start_29 (by decide) E (fun E => ?_) (fun E => ?_)
    · refine g_bipush C (-4) dX8_start_39 rfl ?_
      exact g_iret C dX8_start_41 hr E
    · refine g_aload_n C 0 dX8_start_32 rfl rfl ?_
      refine g_invI C (q := (RX7, TX7, 8)) [] dX8_start_33 cl_X8_133 cv_X7_canStart rfl (by decide) rfl rfl ⟨Nat.le_of_ble_eq_true rfl, Nat.le_of_ble_eq_true rfl⟩ (Nat.le_of_ble_eq_true rfl) ⟨Nat.le_of_ble_eq_true rfl, Nat.le_of_ble_eq_true rfl⟩ rfl (fun r' h' E => o_X7_canStart l base D cA x5 h6 r' h' E) E (fun x9 h10 E => ?_)
      refine g_if_ne C 42 dX8_start_36 (by decide) E (fun E => ?_) (fun E => ?_)
      · refine g_aload_n C 1 dX8_start_42 rfl rfl ?_
        refine g_getR C dX8_start_43 fl_X8_25 rfl E (fun x11 E => ?_)
        refine g_aload_n C 1 dX8_start_46 rfl rfl ?_
        refine g_getR C dX8_start_47 fl_X8_10 rfl E (fun x12 E => ?_)
        refine g_invU C (q := (RX1, TX1, 2)) [.ref (base + x12)] dX8_start_50 cl_X8_55 cv_X1_record rfl (by decide) rfl rfl ⟨Nat.le_of_ble_eq_true rfl, Nat.le_of_ble_eq_true rfl⟩ (Nat.le_of_ble_eq_true rfl) ⟨Nat.le_of_ble_eq_true rfl, Nat.le_of_ble_eq_true rfl⟩ rfl (fun r' h' E => o_X1_record l base D cA x11 x12 h10 r' h' E) E (fun x13 h14 E => ?_)
        refine g_aload_n C 0 dX8_start_53 rfl rfl ?_
        refine g_invU C (q := (RX7, TX7, 8)) [] dX8_start_54 cl_X8_136 cv_X7_begin rfl (by decide) rfl rfl ⟨Nat.le_of_ble_eq_true rfl, Nat.le_of_ble_eq_true rfl⟩ (Nat.le_of_ble_eq_true rfl) ⟨Nat.le_of_ble_eq_true rfl, Nat.le_of_ble_eq_true rfl⟩ rfl (fun r' h' E => o_X7_begin l base D cA x5 h14 r' h' E) E (fun x15 h16 E => ?_)
        refine g_aload_n C 0 dX8_start_57 rfl rfl ?_
        refine g_getR C dX8_start_58 fl_X8_129 rfl E (fun x17 E => ?_)
        refine g_getI C dX8_start_61 fl_X8_119 (by decide) (by decide) E (fun x18 E => ?_)
        exact g_iret C dX8_start_64 hr E
      · refine g_bipush C (-4) dX8_start_39 rfl ?_
        exact g_iret C dX8_start_41 hr E
  · refine g_iconst C (-1) dX8_start_11 rfl ?_
    exact g_iret C dX8_start_12 hr E
abbrev rm_X8_stop : Room := { frames := 4, cells := 0, slots := 0, locals := 85 }
def s_X8_stop (a0 : Nat) (a1 : Int32) (h : Hp) : Rv Int32 :=
  getR h a0 8 0 fun x1 =>
  inv h x1 6 (s_X6_hasHouse x1 a1 h) fun x2 h =>
  if x2 = 0 then retI (-1) h
  else getR h a0 8 0 fun x3 =>
  inv h x3 6 (s_X6_washerOf x3 a1 h) fun x4 h =>
  getI h x4 7 1 fun x5 =>
  if x5 = 0 then retI (-5) h
  else getR h a0 8 3 fun x6 =>
  getR h a0 8 0 fun x7 =>
  inv h x6 1 (s_X1_record x6 x7 h) fun _ h =>
  putI h x4 7 1 0 fun h =>
  getI h x4 7 3 fun x8 =>
  retI x8 h
set_option maxRecDepth 100000 in
set_option maxHeartbeats 4000000 in
theorem o_X8_stop (l : Launch) (base : Nat) (D : va_G) (cA : Nat → ClassId) (a0 : Nat) (a1 : Int32) (h : Hp) (r : Int32) (h' : Hp) (E : s_X8_stop a0 a1 h = some (r, h')) : Met l yX8_stop (.code yX8_stop cX8_stop 3 (some .int) :: wsA) rm_X8_stop (PcG base D cA [.ref (base + a0), .int a1] h) (QcI base D cA r h') 0 0 (AA base) := by
  refine g_met [.ref (base + a0), .int a1] (by decide) (Nat.le_of_ble_eq_true rfl) (fun p e s m args below meth c C hr hn => ?_)
  refine g_lv (lv' := [(0, .ref (base + a0)), (1, .int a1)]) rfl ?_
  unfold s_X8_stop at E
  refine g_aload_n C 0 dX8_stop_0 rfl rfl ?_
  refine g_getR C dX8_stop_1 fl_X8_10 rfl E (fun x1 E => ?_)
  refine g_iload_n C 1 dX8_stop_4 rfl rfl ?_
  refine g_invI C (q := (RX6, TX6, 11)) [.int a1] dX8_stop_5 cl_X8_102 cv_X6_hasHouse rfl (by decide) rfl rfl ⟨Nat.le_of_ble_eq_true rfl, Nat.le_of_ble_eq_true rfl⟩ (Nat.le_of_ble_eq_true rfl) ⟨Nat.le_of_ble_eq_true rfl, Nat.le_of_ble_eq_true rfl⟩ rfl (fun r' h' E => o_X6_hasHouse l base D cA x1 a1 h r' h' E) E (fun x2 h3 E => ?_)
  refine g_if_ne C 13 dX8_stop_8 (by decide) E (fun E => ?_) (fun E => ?_)
  · refine g_aload_n C 0 dX8_stop_13 rfl rfl ?_
    refine g_getR C dX8_stop_14 fl_X8_10 rfl E (fun x4 E => ?_)
    refine g_iload_n C 1 dX8_stop_17 rfl rfl ?_
    refine g_invR C (q := (RX6, TX6, 11)) [.int a1] dX8_stop_18 cl_X8_120 cv_X6_washerOf rfl (by decide) rfl rfl ⟨Nat.le_of_ble_eq_true rfl, Nat.le_of_ble_eq_true rfl⟩ (Nat.le_of_ble_eq_true rfl) ⟨Nat.le_of_ble_eq_true rfl, Nat.le_of_ble_eq_true rfl⟩ rfl (fun r' h' E => o_X6_washerOf l base D cA x4 a1 h3 r' h' E) E (fun x5 h6 E => ?_)
    refine g_astore_n C (lv' := [(2, .ref (base + x5)), (0, .ref (base + a0)), (1, .int a1)]) dX8_stop_21 rfl (by decide) rfl ?_
    refine g_aload_n C 0 dX8_stop_22 rfl rfl ?_
    refine g_getI C dX8_stop_23 fl_X8_124 (by decide) (by decide) E (fun x7 E => ?_)
    refine g_if_ne C 32 dX8_stop_26 (by decide) E (fun E => ?_) (fun E => ?_)
    · refine g_aload_n C 1 dX8_stop_32 rfl rfl ?_
      refine g_getR C dX8_stop_33 fl_X8_25 rfl E (fun x8 E => ?_)
      refine g_aload_n C 1 dX8_stop_36 rfl rfl ?_
      refine g_getR C dX8_stop_37 fl_X8_10 rfl E (fun x9 E => ?_)
      refine g_invU C (q := (RX1, TX1, 2)) [.ref (base + x9)] dX8_stop_40 cl_X8_55 cv_X1_record rfl (by decide) rfl rfl ⟨Nat.le_of_ble_eq_true rfl, Nat.le_of_ble_eq_true rfl⟩ (Nat.le_of_ble_eq_true rfl) ⟨Nat.le_of_ble_eq_true rfl, Nat.le_of_ble_eq_true rfl⟩ rfl (fun r' h' E => o_X1_record l base D cA x8 x9 h6 r' h' E) E (fun x10 h11 E => ?_)
      refine g_aload_n C 0 dX8_stop_43 rfl rfl ?_
      refine g_iconst C 0 dX8_stop_44 rfl ?_
      refine g_putI C false dX8_stop_45 fl_X8_124 fp_X8_7_1 (fun q => Bool.noConfusion q) rfl E (fun h12 E => ?_)
      refine g_aload_n C 0 dX8_stop_48 rfl rfl ?_
      refine g_getI C dX8_stop_49 fl_X8_139 (by decide) (by decide) E (fun x13 E => ?_)
      exact g_iret C dX8_stop_52 hr E
    · refine g_bipush C (-5) dX8_stop_29 rfl ?_
      exact g_iret C dX8_stop_31 hr E
  · refine g_iconst C (-1) dX8_stop_11 rfl ?_
    exact g_iret C dX8_stop_12 hr E
abbrev rm_X8_openDoor : Room := { frames := 4, cells := 0, slots := 0, locals := 85 }
def s_X8_openDoor (a0 : Nat) (a1 : Int32) (h : Hp) : Rv Int32 :=
  getR h a0 8 0 fun x1 =>
  inv h x1 6 (s_X6_hasHouse x1 a1 h) fun x2 h =>
  if x2 = 0 then retI (-1) h
  else getR h a0 8 0 fun x3 =>
  inv h x3 6 (s_X6_washerOf x3 a1 h) fun x4 h =>
  getI h x4 7 2 fun x5 =>
  if x5 = 2 then retI (-4) h
  else getI h x4 7 2 fun x6 =>
  if x6 = 0 then retI (-5) h
  else getR h a0 8 3 fun x7 =>
  getR h a0 8 0 fun x8 =>
  inv h x7 1 (s_X1_record x7 x8 h) fun _ h =>
  putI h x4 7 2 0 fun h =>
  inv h x4 7 (s_X7_temperature x4 h) fun x9 h =>
  retI x9 h
set_option maxRecDepth 100000 in
set_option maxHeartbeats 4000000 in
theorem o_X8_openDoor (l : Launch) (base : Nat) (D : va_G) (cA : Nat → ClassId) (a0 : Nat) (a1 : Int32) (h : Hp) (r : Int32) (h' : Hp) (E : s_X8_openDoor a0 a1 h = some (r, h')) : Met l yX8_openDoor (.code yX8_openDoor cX8_openDoor 3 (some .int) :: wsA) rm_X8_openDoor (PcG base D cA [.ref (base + a0), .int a1] h) (QcI base D cA r h') 0 0 (AA base) := by
  refine g_met [.ref (base + a0), .int a1] (by decide) (Nat.le_of_ble_eq_true rfl) (fun p e s m args below meth c C hr hn => ?_)
  refine g_lv (lv' := [(0, .ref (base + a0)), (1, .int a1)]) rfl ?_
  unfold s_X8_openDoor at E
  refine g_aload_n C 0 dX8_openDoor_0 rfl rfl ?_
  refine g_getR C dX8_openDoor_1 fl_X8_10 rfl E (fun x1 E => ?_)
  refine g_iload_n C 1 dX8_openDoor_4 rfl rfl ?_
  refine g_invI C (q := (RX6, TX6, 11)) [.int a1] dX8_openDoor_5 cl_X8_102 cv_X6_hasHouse rfl (by decide) rfl rfl ⟨Nat.le_of_ble_eq_true rfl, Nat.le_of_ble_eq_true rfl⟩ (Nat.le_of_ble_eq_true rfl) ⟨Nat.le_of_ble_eq_true rfl, Nat.le_of_ble_eq_true rfl⟩ rfl (fun r' h' E => o_X6_hasHouse l base D cA x1 a1 h r' h' E) E (fun x2 h3 E => ?_)
  refine g_if_ne C 13 dX8_openDoor_8 (by decide) E (fun E => ?_) (fun E => ?_)
  · refine g_aload_n C 0 dX8_openDoor_13 rfl rfl ?_
    refine g_getR C dX8_openDoor_14 fl_X8_10 rfl E (fun x4 E => ?_)
    refine g_iload_n C 1 dX8_openDoor_17 rfl rfl ?_
    refine g_invR C (q := (RX6, TX6, 11)) [.int a1] dX8_openDoor_18 cl_X8_120 cv_X6_washerOf rfl (by decide) rfl rfl ⟨Nat.le_of_ble_eq_true rfl, Nat.le_of_ble_eq_true rfl⟩ (Nat.le_of_ble_eq_true rfl) ⟨Nat.le_of_ble_eq_true rfl, Nat.le_of_ble_eq_true rfl⟩ rfl (fun r' h' E => o_X6_washerOf l base D cA x4 a1 h3 r' h' E) E (fun x5 h6 E => ?_)
    refine g_astore_n C (lv' := [(2, .ref (base + x5)), (0, .ref (base + a0)), (1, .int a1)]) dX8_openDoor_21 rfl (by decide) rfl ?_
    refine g_aload_n C 0 dX8_openDoor_22 rfl rfl ?_
    refine g_getI C dX8_openDoor_23 fl_X8_149 (by decide) (by decide) E (fun x7 E => ?_)
    refine g_iconst C 2 dX8_openDoor_26 rfl ?_
    refine g_icmp_ne C 33 dX8_openDoor_27 (by decide) E (fun E => ?_) (fun E => ?_)
    · refine g_aload_n C 0 dX8_openDoor_33 rfl rfl ?_
      refine g_getI C dX8_openDoor_34 fl_X8_149 (by decide) (by decide) E (fun x8 E => ?_)
      refine g_if_ne C 43 dX8_openDoor_37 (by decide) E (fun E => ?_) (fun E => ?_)
      · refine g_aload_n C 1 dX8_openDoor_43 rfl rfl ?_
        refine g_getR C dX8_openDoor_44 fl_X8_25 rfl E (fun x9 E => ?_)
        refine g_aload_n C 1 dX8_openDoor_47 rfl rfl ?_
        refine g_getR C dX8_openDoor_48 fl_X8_10 rfl E (fun x10 E => ?_)
        refine g_invU C (q := (RX1, TX1, 2)) [.ref (base + x10)] dX8_openDoor_51 cl_X8_55 cv_X1_record rfl (by decide) rfl rfl ⟨Nat.le_of_ble_eq_true rfl, Nat.le_of_ble_eq_true rfl⟩ (Nat.le_of_ble_eq_true rfl) ⟨Nat.le_of_ble_eq_true rfl, Nat.le_of_ble_eq_true rfl⟩ rfl (fun r' h' E => o_X1_record l base D cA x9 x10 h6 r' h' E) E (fun x11 h12 E => ?_)
        refine g_aload_n C 0 dX8_openDoor_54 rfl rfl ?_
        refine g_iconst C 0 dX8_openDoor_55 rfl ?_
        refine g_putI C false dX8_openDoor_56 fl_X8_149 fp_X8_7_2 (fun q => Bool.noConfusion q) rfl E (fun h13 E => ?_)
        refine g_aload_n C 0 dX8_openDoor_59 rfl rfl ?_
        refine g_invI C (q := (RX7, TX7, 8)) [] dX8_openDoor_60 cl_X8_152 cv_X7_temperature rfl (by decide) rfl rfl ⟨Nat.le_of_ble_eq_true rfl, Nat.le_of_ble_eq_true rfl⟩ (Nat.le_of_ble_eq_true rfl) ⟨Nat.le_of_ble_eq_true rfl, Nat.le_of_ble_eq_true rfl⟩ rfl (fun r' h' E => o_X7_temperature l base D cA x5 h13 r' h' E) E (fun x14 h15 E => ?_)
        exact g_iret C dX8_openDoor_63 hr E
      · refine g_bipush C (-5) dX8_openDoor_40 rfl ?_
        exact g_iret C dX8_openDoor_42 hr E
    · refine g_bipush C (-4) dX8_openDoor_30 rfl ?_
      exact g_iret C dX8_openDoor_32 hr E
  · refine g_iconst C (-1) dX8_openDoor_11 rfl ?_
    exact g_iret C dX8_openDoor_12 hr E
abbrev rm_X8_closeDoor : Room := { frames := 4, cells := 0, slots := 0, locals := 85 }
def s_X8_closeDoor (a0 : Nat) (a1 : Int32) (h : Hp) : Rv Int32 :=
  getR h a0 8 0 fun x1 =>
  inv h x1 6 (s_X6_hasHouse x1 a1 h) fun x2 h =>
  if x2 = 0 then retI (-1) h
  else getR h a0 8 0 fun x3 =>
  inv h x3 6 (s_X6_washerOf x3 a1 h) fun x4 h =>
  getI h x4 7 2 fun x5 =>
  if x5 = 0 then getR h a0 8 3 fun x6 =>
  getR h a0 8 0 fun x7 =>
  inv h x6 1 (s_X1_record x6 x7 h) fun _ h =>
  putI h x4 7 2 1 fun h =>
  retI 1 h
  else retI (-5) h
set_option maxRecDepth 100000 in
set_option maxHeartbeats 4000000 in
theorem o_X8_closeDoor (l : Launch) (base : Nat) (D : va_G) (cA : Nat → ClassId) (a0 : Nat) (a1 : Int32) (h : Hp) (r : Int32) (h' : Hp) (E : s_X8_closeDoor a0 a1 h = some (r, h')) : Met l yX8_closeDoor (.code yX8_closeDoor cX8_closeDoor 3 (some .int) :: wsA) rm_X8_closeDoor (PcG base D cA [.ref (base + a0), .int a1] h) (QcI base D cA r h') 0 0 (AA base) := by
  refine g_met [.ref (base + a0), .int a1] (by decide) (Nat.le_of_ble_eq_true rfl) (fun p e s m args below meth c C hr hn => ?_)
  refine g_lv (lv' := [(0, .ref (base + a0)), (1, .int a1)]) rfl ?_
  unfold s_X8_closeDoor at E
  refine g_aload_n C 0 dX8_closeDoor_0 rfl rfl ?_
  refine g_getR C dX8_closeDoor_1 fl_X8_10 rfl E (fun x1 E => ?_)
  refine g_iload_n C 1 dX8_closeDoor_4 rfl rfl ?_
  refine g_invI C (q := (RX6, TX6, 11)) [.int a1] dX8_closeDoor_5 cl_X8_102 cv_X6_hasHouse rfl (by decide) rfl rfl ⟨Nat.le_of_ble_eq_true rfl, Nat.le_of_ble_eq_true rfl⟩ (Nat.le_of_ble_eq_true rfl) ⟨Nat.le_of_ble_eq_true rfl, Nat.le_of_ble_eq_true rfl⟩ rfl (fun r' h' E => o_X6_hasHouse l base D cA x1 a1 h r' h' E) E (fun x2 h3 E => ?_)
  refine g_if_ne C 13 dX8_closeDoor_8 (by decide) E (fun E => ?_) (fun E => ?_)
  · refine g_aload_n C 0 dX8_closeDoor_13 rfl rfl ?_
    refine g_getR C dX8_closeDoor_14 fl_X8_10 rfl E (fun x4 E => ?_)
    refine g_iload_n C 1 dX8_closeDoor_17 rfl rfl ?_
    refine g_invR C (q := (RX6, TX6, 11)) [.int a1] dX8_closeDoor_18 cl_X8_120 cv_X6_washerOf rfl (by decide) rfl rfl ⟨Nat.le_of_ble_eq_true rfl, Nat.le_of_ble_eq_true rfl⟩ (Nat.le_of_ble_eq_true rfl) ⟨Nat.le_of_ble_eq_true rfl, Nat.le_of_ble_eq_true rfl⟩ rfl (fun r' h' E => o_X6_washerOf l base D cA x4 a1 h3 r' h' E) E (fun x5 h6 E => ?_)
    refine g_astore_n C (lv' := [(2, .ref (base + x5)), (0, .ref (base + a0)), (1, .int a1)]) dX8_closeDoor_21 rfl (by decide) rfl ?_
    refine g_aload_n C 0 dX8_closeDoor_22 rfl rfl ?_
    refine g_getI C dX8_closeDoor_23 fl_X8_149 (by decide) (by decide) E (fun x7 E => ?_)
    refine g_if_eq C 32 dX8_closeDoor_26 (by decide) E (fun E => ?_) (fun E => ?_)
    · refine g_aload_n C 1 dX8_closeDoor_32 rfl rfl ?_
      refine g_getR C dX8_closeDoor_33 fl_X8_25 rfl E (fun x8 E => ?_)
      refine g_aload_n C 1 dX8_closeDoor_36 rfl rfl ?_
      refine g_getR C dX8_closeDoor_37 fl_X8_10 rfl E (fun x9 E => ?_)
      refine g_invU C (q := (RX1, TX1, 2)) [.ref (base + x9)] dX8_closeDoor_40 cl_X8_55 cv_X1_record rfl (by decide) rfl rfl ⟨Nat.le_of_ble_eq_true rfl, Nat.le_of_ble_eq_true rfl⟩ (Nat.le_of_ble_eq_true rfl) ⟨Nat.le_of_ble_eq_true rfl, Nat.le_of_ble_eq_true rfl⟩ rfl (fun r' h' E => o_X1_record l base D cA x8 x9 h6 r' h' E) E (fun x10 h11 E => ?_)
      refine g_aload_n C 0 dX8_closeDoor_43 rfl rfl ?_
      refine g_iconst C 1 dX8_closeDoor_44 rfl ?_
      refine g_putI C false dX8_closeDoor_45 fl_X8_149 fp_X8_7_2 (fun q => Bool.noConfusion q) rfl E (fun h12 E => ?_)
      refine g_iconst C 1 dX8_closeDoor_48 rfl ?_
      exact g_iret C dX8_closeDoor_49 hr E
    · refine g_bipush C (-5) dX8_closeDoor_29 rfl ?_
      exact g_iret C dX8_closeDoor_31 hr E
  · refine g_iconst C (-1) dX8_closeDoor_11 rfl ?_
    exact g_iret C dX8_closeDoor_12 hr E
abbrev rm_X8_haggle : Room := { frames := 4, cells := 0, slots := 0, locals := 85 }
def s_X8_haggle (a0 : Nat) (a1 : Int32) (a2 : Int32) (a3 : Int32) (a4 : Int32) (a5 : Int32) (h : Hp) : Rv Int32 :=
  getR h a0 8 0 fun x1 =>
  inv h x1 6 (s_X6_hasHouse x1 a1 h) fun x2 h =>
  if x2 = 0 then retI (-1) h
  else getR h a0 8 0 fun x3 =>
  inv h x3 6 (s_X6_hasHouse x3 a2 h) fun x4 h =>
  if x4 = 0 then retI (-1) h
  else bnd (s_X8_isWithin a3 1 20 h) fun x5 h =>
  if x5 = 0 then retI (-2) h
  else bnd (s_X8_isWithin a4 1 9999 h) fun x6 h =>
  if x6 = 0 then retI (-2) h
  else bnd (s_X8_isWithin a5 1 240 h) fun x7 h =>
  if x7 = 0 then retI (-2) h
  else if a1 = a2 then retI (-2) h
  else getR h a0 8 0 fun x8 =>
  inv h x8 6 (s_X6_unlentOf x8 a2 h) fun x9 h =>
  if x9 < a3 then retI (-4) h
  else getR h a0 8 0 fun x10 =>
  getR h x10 6 1 fun x11 =>
  ldR h x11 22 a1 fun x12 =>
  getI h x12 2 3 fun x13 =>
  if a4 ≤ x13 then getR h a0 8 0 fun x14 =>
  getI h x14 6 4 fun x15 =>
  if x15 < 10 then getR h a0 8 3 fun x16 =>
  getR h a0 8 0 fun x17 =>
  inv h x16 1 (s_X1_record x16 x17 h) fun _ h =>
  getR h a0 8 0 fun x18 =>
  inv h x18 6 (s_X6_askOf x18 a2 a3 h) fun x19 h =>
  if x19 ≤ a4 then divI (a4 + x19) 2 fun x20 =>
  getR h a0 8 0 fun x21 =>
  inv h x21 6 (s_X6_pay x21 a1 a2 x20 h) fun _ h =>
  getR h a0 8 0 fun x22 =>
  inv h x22 6 (s_X6_lend x22 a1 a2 a3 a5 x20 h) fun _ h =>
  retI x20 h
  else getR h a0 8 0 fun x23 =>
  if (2 * a4) < x19 then inv h x23 6 (s_X6_refuse x23 a1 a2 0 h) fun _ h =>
  retI 0 h
  else inv h x23 6 (s_X6_refuse x23 a1 a2 1 h) fun _ h =>
  retI 0 h
  else retI (-3) h
  else retI (-4) h
set_option maxRecDepth 100000 in
set_option maxHeartbeats 4000000 in
theorem o_X8_haggle (l : Launch) (base : Nat) (D : va_G) (cA : Nat → ClassId) (a0 : Nat) (a1 : Int32) (a2 : Int32) (a3 : Int32) (a4 : Int32) (a5 : Int32) (h : Hp) (r : Int32) (h' : Hp) (E : s_X8_haggle a0 a1 a2 a3 a4 a5 h = some (r, h')) : Met l yX8_haggle (.code yX8_haggle cX8_haggle 8 (some .int) :: wsA) rm_X8_haggle (PcG base D cA [.ref (base + a0), .int a1, .int a2, .int a3, .int a4, .int a5] h) (QcI base D cA r h') 0 0 (AA base) := by
  refine g_met [.ref (base + a0), .int a1, .int a2, .int a3, .int a4, .int a5] (by decide) (Nat.le_of_ble_eq_true rfl) (fun p e s m args below meth c C hr hn => ?_)
  refine g_lv (lv' := [(0, .ref (base + a0)), (1, .int a1), (2, .int a2), (3, .int a3), (4, .int a4), (5, .int a5)]) rfl ?_
  unfold s_X8_haggle at E
  refine g_aload_n C 0 dX8_haggle_0 rfl rfl ?_
  refine g_getR C dX8_haggle_1 fl_X8_10 rfl E (fun x1 E => ?_)
  refine g_iload_n C 1 dX8_haggle_4 rfl rfl ?_
  refine g_invI C (q := (RX6, TX6, 11)) [.int a1] dX8_haggle_5 cl_X8_102 cv_X6_hasHouse rfl (by decide) rfl rfl ⟨Nat.le_of_ble_eq_true rfl, Nat.le_of_ble_eq_true rfl⟩ (Nat.le_of_ble_eq_true rfl) ⟨Nat.le_of_ble_eq_true rfl, Nat.le_of_ble_eq_true rfl⟩ rfl (fun r' h' E => o_X6_hasHouse l base D cA x1 a1 h r' h' E) E (fun x2 h3 E => ?_)
  refine g_if_eq C 22 dX8_haggle_8 (by decide) E (fun E => ?_) (fun E => ?_)
  · refine g_iconst C (-1) dX8_haggle_22 rfl ?_
    exact g_iret C dX8_haggle_23 hr E
  · refine g_aload_n C 0 dX8_haggle_11 rfl rfl ?_
    refine g_getR C dX8_haggle_12 fl_X8_10 rfl E (fun x4 E => ?_)
    refine g_iload_n C 2 dX8_haggle_15 rfl rfl ?_
    refine g_invI C (q := (RX6, TX6, 11)) [.int a2] dX8_haggle_16 cl_X8_102 cv_X6_hasHouse rfl (by decide) rfl rfl ⟨Nat.le_of_ble_eq_true rfl, Nat.le_of_ble_eq_true rfl⟩ (Nat.le_of_ble_eq_true rfl) ⟨Nat.le_of_ble_eq_true rfl, Nat.le_of_ble_eq_true rfl⟩ rfl (fun r' h' E => o_X6_hasHouse l base D cA x4 a2 h3 r' h' E) E (fun x5 h6 E => ?_)
    refine g_if_ne C 24 dX8_haggle_19 (by decide) E (fun E => ?_) (fun E => ?_)
    · refine g_iload_n C 3 dX8_haggle_24 rfl rfl ?_
      refine g_iconst C 1 dX8_haggle_25 rfl ?_
      refine g_bipush C 20 dX8_haggle_26 rfl ?_
      refine g_staI C [.int a3, .int 1, .int 20] dX8_haggle_28 cl_X8_47 cs_X8_isWithin rfl rfl ⟨Nat.le_of_ble_eq_true rfl, Nat.le_of_ble_eq_true rfl⟩ (Nat.le_of_ble_eq_true rfl) ⟨Nat.le_of_ble_eq_true rfl, Nat.le_of_ble_eq_true rfl⟩ rfl (fun r' h' E => o_X8_isWithin l base D cA a3 1 20 h6 r' h' E) E (fun x7 h8 E => ?_)
      refine g_if_eq C 63 dX8_haggle_31 (by decide) E (fun E => ?_) (fun E => ?_)
      · refine g_bipush C (-2) dX8_haggle_63 rfl ?_
        exact g_iret C dX8_haggle_65 hr E
      · refine g_iload C 4 dX8_haggle_34 rfl ?_
        refine g_iconst C 1 dX8_haggle_36 rfl ?_
        refine g_sipush C 9999 dX8_haggle_37 rfl ?_
        refine g_staI C [.int a4, .int 1, .int 9999] dX8_haggle_40 cl_X8_47 cs_X8_isWithin rfl rfl ⟨Nat.le_of_ble_eq_true rfl, Nat.le_of_ble_eq_true rfl⟩ (Nat.le_of_ble_eq_true rfl) ⟨Nat.le_of_ble_eq_true rfl, Nat.le_of_ble_eq_true rfl⟩ rfl (fun r' h' E => o_X8_isWithin l base D cA a4 1 9999 h8 r' h' E) E (fun x9 h10 E => ?_)
        refine g_if_eq C 63 dX8_haggle_43 (by decide) E (fun E => ?_) (fun E => ?_)
        · refine g_bipush C (-2) dX8_haggle_63 rfl ?_
          exact g_iret C dX8_haggle_65 hr E
        · refine g_iload C 5 dX8_haggle_46 rfl ?_
          refine g_iconst C 1 dX8_haggle_48 rfl ?_
          refine g_sipush C 240 dX8_haggle_49 rfl ?_
          refine g_staI C [.int a5, .int 1, .int 240] dX8_haggle_52 cl_X8_47 cs_X8_isWithin rfl rfl ⟨Nat.le_of_ble_eq_true rfl, Nat.le_of_ble_eq_true rfl⟩ (Nat.le_of_ble_eq_true rfl) ⟨Nat.le_of_ble_eq_true rfl, Nat.le_of_ble_eq_true rfl⟩ rfl (fun r' h' E => o_X8_isWithin l base D cA a5 1 240 h10 r' h' E) E (fun x11 h12 E => ?_)
          refine g_if_eq C 63 dX8_haggle_55 (by decide) E (fun E => ?_) (fun E => ?_)
          · refine g_bipush C (-2) dX8_haggle_63 rfl ?_
            exact g_iret C dX8_haggle_65 hr E
          · refine g_iload_n C 1 dX8_haggle_58 rfl rfl ?_
            refine g_iload_n C 2 dX8_haggle_59 rfl rfl ?_
            refine g_icmp_ne C 66 dX8_haggle_60 (by decide) E (fun E => ?_) (fun E => ?_)
            · refine g_aload_n C 0 dX8_haggle_66 rfl rfl ?_
              refine g_getR C dX8_haggle_67 fl_X8_10 rfl E (fun x13 E => ?_)
              refine g_iload_n C 2 dX8_haggle_70 rfl rfl ?_
              refine g_invI C (q := (RX6, TX6, 11)) [.int a2] dX8_haggle_71 cl_X8_155 cv_X6_unlentOf rfl (by decide) rfl rfl ⟨Nat.le_of_ble_eq_true rfl, Nat.le_of_ble_eq_true rfl⟩ (Nat.le_of_ble_eq_true rfl) ⟨Nat.le_of_ble_eq_true rfl, Nat.le_of_ble_eq_true rfl⟩ rfl (fun r' h' E => o_X6_unlentOf l base D cA x13 a2 h12 r' h' E) E (fun x14 h15 E => ?_)
              refine g_iload_n C 3 dX8_haggle_74 rfl rfl ?_
              refine g_icmp_lt C 95 dX8_haggle_75 (by decide) E (fun E => ?_) (fun E => ?_)
              · refine g_bipush C (-4) dX8_haggle_95 rfl ?_
                exact g_iret C dX8_haggle_97 hr E
              · refine g_aload_n C 0 dX8_haggle_78 rfl rfl ?_
                refine g_getR C dX8_haggle_79 fl_X8_10 rfl E (fun x16 E => ?_)
                refine g_getR C dX8_haggle_82 fl_X8_158 rfl E (fun x17 E => ?_)
                refine g_iload_n C 1 dX8_haggle_85 rfl rfl ?_
                refine g_aald C 2 (by decide) (by decide) rfl dX8_haggle_86 E (fun x18 E => ?_)
                refine g_getI C dX8_haggle_87 fl_X8_162 (by decide) (by decide) E (fun x19 E => ?_)
                refine g_iload C 4 dX8_haggle_90 rfl ?_
                refine g_icmp_ge C 98 dX8_haggle_92 (by decide) E (fun E => ?_) (fun E => ?_)
                · refine g_aload_n C 0 dX8_haggle_98 rfl rfl ?_
                  refine g_getR C dX8_haggle_99 fl_X8_10 rfl E (fun x20 E => ?_)
                  refine g_getI C dX8_haggle_102 fl_X8_167 (by decide) (by decide) E (fun x21 E => ?_)
                  refine g_bipush C 10 dX8_haggle_105 rfl ?_
                  refine g_icmp_lt C 113 dX8_haggle_107 (by decide) E (fun E => ?_) (fun E => ?_)
                  · refine g_aload_n C 0 dX8_haggle_113 rfl rfl ?_
                    refine g_getR C dX8_haggle_114 fl_X8_25 rfl E (fun x22 E => ?_)
                    refine g_aload_n C 0 dX8_haggle_117 rfl rfl ?_
                    refine g_getR C dX8_haggle_118 fl_X8_10 rfl E (fun x23 E => ?_)
                    refine g_invU C (q := (RX1, TX1, 2)) [.ref (base + x23)] dX8_haggle_121 cl_X8_55 cv_X1_record rfl (by decide) rfl rfl ⟨Nat.le_of_ble_eq_true rfl, Nat.le_of_ble_eq_true rfl⟩ (Nat.le_of_ble_eq_true rfl) ⟨Nat.le_of_ble_eq_true rfl, Nat.le_of_ble_eq_true rfl⟩ rfl (fun r' h' E => o_X1_record l base D cA x22 x23 h15 r' h' E) E (fun x24 h25 E => ?_)
                    refine g_aload_n C 0 dX8_haggle_124 rfl rfl ?_
                    refine g_getR C dX8_haggle_125 fl_X8_10 rfl E (fun x26 E => ?_)
                    refine g_iload_n C 2 dX8_haggle_128 rfl rfl ?_
                    refine g_iload_n C 3 dX8_haggle_129 rfl rfl ?_
                    refine g_invI C (q := (RX6, TX6, 11)) [.int a2, .int a3] dX8_haggle_130 cl_X8_170 cv_X6_askOf rfl (by decide) rfl rfl ⟨Nat.le_of_ble_eq_true rfl, Nat.le_of_ble_eq_true rfl⟩ (Nat.le_of_ble_eq_true rfl) ⟨Nat.le_of_ble_eq_true rfl, Nat.le_of_ble_eq_true rfl⟩ rfl (fun r' h' E => o_X6_askOf l base D cA x26 a2 a3 h25 r' h' E) E (fun x27 h28 E => ?_)
                    refine g_istore C (lv' := [(6, .int x27), (0, .ref (base + a0)), (1, .int a1), (2, .int a2), (3, .int a3), (4, .int a4), (5, .int a5)]) dX8_haggle_133 (by decide) rfl ?_
                    refine g_iload C 5 dX8_haggle_135 rfl ?_
                    refine g_iload C 0 dX8_haggle_137 rfl ?_
                    refine g_icmp_ge C 167 dX8_haggle_139 (by decide) E (fun E => ?_) (fun E => ?_)
                    · refine g_iload C 5 dX8_haggle_167 rfl ?_
                      refine g_iload C 0 dX8_haggle_169 rfl ?_
                      refine g_iadd C dX8_haggle_171 ?_
                      refine g_iconst C 2 dX8_haggle_172 rfl ?_
                      refine g_idiv C dX8_haggle_173 E (fun x29 E => ?_)
                      refine g_istore C (lv' := [(7, .int x29), (6, .int x27), (0, .ref (base + a0)), (1, .int a1), (2, .int a2), (3, .int a3), (4, .int a4), (5, .int a5)]) dX8_haggle_174 (by decide) rfl ?_
                      refine g_aload_n C 2 dX8_haggle_176 rfl rfl ?_
                      refine g_getR C dX8_haggle_177 fl_X8_10 rfl E (fun x30 E => ?_)
                      refine g_iload_n C 3 dX8_haggle_180 rfl rfl ?_
                      refine g_iload_n C 4 dX8_haggle_181 rfl rfl ?_
                      refine g_iload C 0 dX8_haggle_182 rfl ?_
                      refine g_invU C (q := (RX6, TX6, 11)) [.int a1, .int a2, .int x29] dX8_haggle_184 cl_X8_178 cv_X6_pay rfl (by decide) rfl rfl ⟨Nat.le_of_ble_eq_true rfl, Nat.le_of_ble_eq_true rfl⟩ (Nat.le_of_ble_eq_true rfl) ⟨Nat.le_of_ble_eq_true rfl, Nat.le_of_ble_eq_true rfl⟩ rfl (fun r' h' E => o_X6_pay l base D cA x30 a1 a2 x29 h28 r' h' E) E (fun x31 h32 E => ?_)
                      refine g_aload_n C 2 dX8_haggle_187 rfl rfl ?_
                      refine g_getR C dX8_haggle_188 fl_X8_10 rfl E (fun x33 E => ?_)
                      refine g_iload_n C 3 dX8_haggle_191 rfl rfl ?_
                      refine g_iload_n C 4 dX8_haggle_192 rfl rfl ?_
                      refine g_iload_n C 5 dX8_haggle_193 rfl rfl ?_
                      refine g_iload C 7 dX8_haggle_194 rfl ?_
                      refine g_iload C 0 dX8_haggle_196 rfl ?_
                      refine g_invU C (q := (RX6, TX6, 11)) [.int a1, .int a2, .int a3, .int a5, .int x29] dX8_haggle_198 cl_X8_182 cv_X6_lend rfl (by decide) rfl rfl ⟨Nat.le_of_ble_eq_true rfl, Nat.le_of_ble_eq_true rfl⟩ (Nat.le_of_ble_eq_true rfl) ⟨Nat.le_of_ble_eq_true rfl, Nat.le_of_ble_eq_true rfl⟩ rfl (fun r' h' E => o_X6_lend l base D cA x33 a1 a2 a3 a5 x29 h32 r' h' E) E (fun x34 h35 E => ?_)
                      refine g_iload C 0 dX8_haggle_201 rfl ?_
                      exact g_iret C dX8_haggle_203 hr E
                    · refine g_aload_n C 1 dX8_haggle_142 rfl rfl ?_
                      refine g_getR C dX8_haggle_143 fl_X8_10 rfl E (fun x36 E => ?_)
                      refine g_iload_n C 2 dX8_haggle_146 rfl rfl ?_
                      refine g_iload_n C 3 dX8_haggle_147 rfl rfl ?_
                      refine g_iconst C 2 dX8_haggle_148 rfl ?_
                      refine g_iload C 5 dX8_haggle_149 rfl ?_
                      refine g_imul C dX8_haggle_151 ?_
                      refine g_iload C 0 dX8_haggle_152 rfl ?_
                      refine g_icmp_lt C 161 dX8_haggle_154 (by decide) E (fun E => ?_) (fun E => ?_)
                      · refine g_iconst C 0 dX8_haggle_161 rfl ?_
                        refine g_invU C (q := (RX6, TX6, 11)) [.int a1, .int a2, .int 0] dX8_haggle_162 cl_X8_174 cv_X6_refuse rfl (by decide) rfl rfl ⟨Nat.le_of_ble_eq_true rfl, Nat.le_of_ble_eq_true rfl⟩ (Nat.le_of_ble_eq_true rfl) ⟨Nat.le_of_ble_eq_true rfl, Nat.le_of_ble_eq_true rfl⟩ rfl (fun r' h' E => o_X6_refuse l base D cA x36 a1 a2 0 h28 r' h' E) E (fun x37 h38 E => ?_)
                        refine g_iconst C 0 dX8_haggle_165 rfl ?_
                        exact g_iret C dX8_haggle_166 hr E
                      · refine g_iconst C 1 dX8_haggle_157 rfl ?_
                        refine g_goto C 162 dX8_haggle_158 (by decide) ?_
                        refine g_invU C (q := (RX6, TX6, 11)) [.int a1, .int a2, .int 1] dX8_haggle_162 cl_X8_174 cv_X6_refuse rfl (by decide) rfl rfl ⟨Nat.le_of_ble_eq_true rfl, Nat.le_of_ble_eq_true rfl⟩ (Nat.le_of_ble_eq_true rfl) ⟨Nat.le_of_ble_eq_true rfl, Nat.le_of_ble_eq_true rfl⟩ rfl (fun r' h' E => o_X6_refuse l base D cA x36 a1 a2 1 h28 r' h' E) E (fun x39 h40 E => ?_)
                        refine g_iconst C 0 dX8_haggle_165 rfl ?_
                        exact g_iret C dX8_haggle_166 hr E
                  · refine g_bipush C (-3) dX8_haggle_110 rfl ?_
                    exact g_iret C dX8_haggle_112 hr E
                · refine g_bipush C (-4) dX8_haggle_95 rfl ?_
                  exact g_iret C dX8_haggle_97 hr E
            · refine g_bipush C (-2) dX8_haggle_63 rfl ?_
              exact g_iret C dX8_haggle_65 hr E
    · refine g_iconst C (-1) dX8_haggle_22 rfl ?_
      exact g_iret C dX8_haggle_23 hr E
abbrev rm_X8_house : Room := { frames := 3, cells := 0, slots := 0, locals := 67 }
def s_X8_house (a0 : Nat) (a1 : Int32) (a2 : Int32) (h : Hp) : Rv Int32 :=
  getR h a0 8 0 fun x1 =>
  inv h x1 6 (s_X6_hasHouse x1 a1 h) fun x2 h =>
  if x2 = 0 then retI (-1) h
  else if a2 = 0 then getR h a0 8 0 fun x7 =>
  inv h x7 6 (s_X6_sharesOf x7 a1 h) fun x8 h =>
  retI x8 h
  else getR h a0 8 0 fun x3 =>
  getR h x3 6 1 fun x4 =>
  ldR h x4 22 a1 fun x5 =>
  inv h x5 2 (s_X2_tell x5 a2 h) fun x6 h =>
  retI x6 h
set_option maxRecDepth 100000 in
set_option maxHeartbeats 4000000 in
theorem o_X8_house (l : Launch) (base : Nat) (D : va_G) (cA : Nat → ClassId) (a0 : Nat) (a1 : Int32) (a2 : Int32) (h : Hp) (r : Int32) (h' : Hp) (E : s_X8_house a0 a1 a2 h = some (r, h')) : Met l yX8_house (.code yX8_house cX8_house 3 (some .int) :: wsA) rm_X8_house (PcG base D cA [.ref (base + a0), .int a1, .int a2] h) (QcI base D cA r h') 0 0 (AA base) := by
  refine g_met [.ref (base + a0), .int a1, .int a2] (by decide) (Nat.le_of_ble_eq_true rfl) (fun p e s m args below meth c C hr hn => ?_)
  refine g_lv (lv' := [(0, .ref (base + a0)), (1, .int a1), (2, .int a2)]) rfl ?_
  unfold s_X8_house at E
  refine g_aload_n C 0 dX8_house_0 rfl rfl ?_
  refine g_getR C dX8_house_1 fl_X8_10 rfl E (fun x1 E => ?_)
  refine g_iload_n C 1 dX8_house_4 rfl rfl ?_
  refine g_invI C (q := (RX6, TX6, 11)) [.int a1] dX8_house_5 cl_X8_102 cv_X6_hasHouse rfl (by decide) rfl rfl ⟨Nat.le_of_ble_eq_true rfl, Nat.le_of_ble_eq_true rfl⟩ (Nat.le_of_ble_eq_true rfl) ⟨Nat.le_of_ble_eq_true rfl, Nat.le_of_ble_eq_true rfl⟩ rfl (fun r' h' E => o_X6_hasHouse l base D cA x1 a1 h r' h' E) E (fun x2 h3 E => ?_)
  refine g_if_ne C 13 dX8_house_8 (by decide) E (fun E => ?_) (fun E => ?_)
  · refine g_iload_n C 2 dX8_house_13 rfl rfl ?_
    refine g_if_ne C 28 dX8_house_14 (by decide) E (fun E => ?_) (fun E => ?_)
    · refine g_aload_n C 0 dX8_house_28 rfl rfl ?_
      refine g_getR C dX8_house_29 fl_X8_10 rfl E (fun x4 E => ?_)
      refine g_getR C dX8_house_32 fl_X8_158 rfl E (fun x5 E => ?_)
      refine g_iload_n C 1 dX8_house_35 rfl rfl ?_
      refine g_aald C 2 (by decide) (by decide) rfl dX8_house_36 E (fun x6 E => ?_)
      refine g_iload_n C 2 dX8_house_37 rfl rfl ?_
      refine g_invI C (q := (RX2, TX2, 10)) [.int a2] dX8_house_38 cl_X8_202 cv_X2_tell rfl (by decide) rfl rfl ⟨Nat.le_of_ble_eq_true rfl, Nat.le_of_ble_eq_true rfl⟩ (Nat.le_of_ble_eq_true rfl) ⟨Nat.le_of_ble_eq_true rfl, Nat.le_of_ble_eq_true rfl⟩ rfl (fun r' h' E => o_X2_tell l base D cA x6 a2 h3 r' h' E) E (fun x7 h8 E => ?_)
      exact g_iret C dX8_house_41 hr E
    · refine g_aload_n C 0 dX8_house_17 rfl rfl ?_
      refine g_getR C dX8_house_18 fl_X8_10 rfl E (fun x9 E => ?_)
      refine g_iload_n C 1 dX8_house_21 rfl rfl ?_
      refine g_invI C (q := (RX6, TX6, 11)) [.int a1] dX8_house_22 cl_X8_199 cv_X6_sharesOf rfl (by decide) rfl rfl ⟨Nat.le_of_ble_eq_true rfl, Nat.le_of_ble_eq_true rfl⟩ (Nat.le_of_ble_eq_true rfl) ⟨Nat.le_of_ble_eq_true rfl, Nat.le_of_ble_eq_true rfl⟩ rfl (fun r' h' E => o_X6_sharesOf l base D cA x9 a1 h3 r' h' E) E (fun x10 h11 E => ?_)
      refine g_goto C 41 dX8_house_25 (by decide) ?_
      exact g_iret C dX8_house_41 hr E
  · refine g_iconst C (-1) dX8_house_11 rfl ?_
    exact g_iret C dX8_house_12 hr E
