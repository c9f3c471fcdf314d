abbrev rm_X8_washer : Room := { frames := 2, cells := 0, slots := 0, locals := 43 }
def s_X8_washer (a0 : Nat) (a1 : Int32) (a2 : Int32) (h : Hp) : Rv Int32 :=
  getR h a0 8 0 fun x1 =>
  inv h x1 6 (s_X6_hasHouse x1 a1 h) fun x2 h =>
  if x2 = 0 then retI (-1) h
  else getR h a0 8 0 fun x3 =>
  inv h x3 6 (s_X6_washerOf x3 a1 h) fun x4 h =>
  inv h x4 7 (s_X7_tell x4 a2 h) fun x5 h =>
  retI x5 h
set_option maxRecDepth 100000 in
set_option maxHeartbeats 4000000 in
theorem o_X8_washer (l : Launch) (base : Nat) (D : va_G) (cA : Nat → ClassId) (a0 : Nat) (a1 : Int32) (a2 : Int32) (h : Hp) (r : Int32) (h' : Hp) (E : s_X8_washer a0 a1 a2 h = some (r, h')) : Met l yX8_washer (.code yX8_washer cX8_washer 3 (some .int) :: wsA) rm_X8_washer (PcG base D cA [.ref (base + a0), .int a1, .int a2] h) (QcI base D cA r h') 0 0 (AA base) := by
  refine g_met [.ref (base + a0), .int a1, .int a2] (by decide) (Nat.le_of_ble_eq_true rfl) (fun p e s m args below meth c C hr hn => ?_)
  refine g_lv (lv' := [(0, .ref (base + a0)), (1, .int a1), (2, .int a2)]) rfl ?_
  unfold s_X8_washer at E
  refine g_aload_n C 0 dX8_washer_0 rfl rfl ?_
  refine g_getR C dX8_washer_1 fl_X8_10 rfl E (fun x1 E => ?_)
  refine g_iload_n C 1 dX8_washer_4 rfl rfl ?_
  refine g_invI C (q := (RX6, TX6, 11)) [.int a1] dX8_washer_5 cl_X8_102 cv_X6_hasHouse rfl (by decide) rfl rfl ⟨Nat.le_of_ble_eq_true rfl, Nat.le_of_ble_eq_true rfl⟩ (Nat.le_of_ble_eq_true rfl) ⟨Nat.le_of_ble_eq_true rfl, Nat.le_of_ble_eq_true rfl⟩ rfl (fun r' h' E => o_X6_hasHouse l base D cA x1 a1 h r' h' E) E (fun x2 h3 E => ?_)
  refine g_if_eq C 26 dX8_washer_8 (by decide) E (fun E => ?_) (fun E => ?_)
  · refine g_iconst C (-1) dX8_washer_26 rfl ?_
    exact g_iret C dX8_washer_27 hr E
  · refine g_aload_n C 0 dX8_washer_11 rfl rfl ?_
    refine g_getR C dX8_washer_12 fl_X8_10 rfl E (fun x4 E => ?_)
    refine g_iload_n C 1 dX8_washer_15 rfl rfl ?_
    refine g_invR C (q := (RX6, TX6, 11)) [.int a1] dX8_washer_16 cl_X8_120 cv_X6_washerOf rfl (by decide) rfl rfl ⟨Nat.le_of_ble_eq_true rfl, Nat.le_of_ble_eq_true rfl⟩ (Nat.le_of_ble_eq_true rfl) ⟨Nat.le_of_ble_eq_true rfl, Nat.le_of_ble_eq_true rfl⟩ rfl (fun r' h' E => o_X6_washerOf l base D cA x4 a1 h3 r' h' E) E (fun x5 h6 E => ?_)
    refine g_iload_n C 2 dX8_washer_19 rfl rfl ?_
    refine g_invI C (q := (RX7, TX7, 8)) [.int a2] dX8_washer_20 cl_X8_205 cv_X7_tell rfl (by decide) rfl rfl ⟨Nat.le_of_ble_eq_true rfl, Nat.le_of_ble_eq_true rfl⟩ (Nat.le_of_ble_eq_true rfl) ⟨Nat.le_of_ble_eq_true rfl, Nat.le_of_ble_eq_true rfl⟩ rfl (fun r' h' E => o_X7_tell l base D cA x5 a2 h6 r' h' E) E (fun x7 h8 E => ?_)
    refine g_goto C 27 dX8_washer_23 (by decide) ?_
    exact g_iret C dX8_washer_27 hr E
abbrev rm_X8_boiler : Room := { frames := 4, cells := 0, slots := 0, locals := 86 }
def s_X8_boiler (a0 : Nat) (a1 : Int32) (h : Hp) : Rv Int32 :=
  if a1 = 0 then getR h a0 8 0 fun x1 =>
  getI h x1 6 8 fun x2 =>
  retI x2 h
  else if a1 = 1 then getR h a0 8 0 fun x3 =>
  getR h x3 6 0 fun x4 =>
  ldI h x4 20 0 fun x5 =>
  retI x5 h
  else if a1 = 2 then getR h a0 8 0 fun x6 =>
  getR h x6 6 0 fun x7 =>
  ldI h x7 20 1 fun x8 =>
  retI x8 h
  else if a1 = 3 then getR h a0 8 0 fun x9 =>
  getR h x9 6 0 fun x10 =>
  ldI h x10 20 2 fun x11 =>
  retI x11 h
  else if a1 = 4 then getR h a0 8 0 fun x12 =>
  getI h x12 6 9 fun x13 =>
  retI x13 h
  else if a1 = 5 then getR h a0 8 0 fun x14 =>
  getI h x14 6 10 fun x15 =>
  retI x15 h
  else if a1 = 6 then getR h a0 8 0 fun x16 =>
  inv h x16 6 (s_X6_wantedHeat x16 h) fun x17 h =>
  retI x17 h
  else if a1 = 7 then getR h a0 8 0 fun x18 =>
  getR h x18 6 0 fun x19 =>
  ldI h x19 20 3 fun x20 =>
  retI x20 h
  else retI (-2) h
set_option maxRecDepth 100000 in
set_option maxHeartbeats 4000000 in
theorem o_X8_boiler (l : Launch) (base : Nat) (D : va_G) (cA : Nat → ClassId) (a0 : Nat) (a1 : Int32) (h : Hp) (r : Int32) (h' : Hp) (E : s_X8_boiler a0 a1 h = some (r, h')) : Met l yX8_boiler (.code yX8_boiler cX8_boiler 2 (some .int) :: wsA) rm_X8_boiler (PcG base D cA [.ref (base + a0), .int a1] h) (QcI base D cA r h') 0 0 (AA base) := by
  refine g_met [.ref (base + a0), .int a1] (by decide) (Nat.le_of_ble_eq_true rfl) (fun p e s m args below meth c C hr hn => ?_)
  refine g_lv (lv' := [(0, .ref (base + a0)), (1, .int a1)]) rfl ?_
  unfold s_X8_boiler at E
  refine g_iload_n C 1 dX8_boiler_0 rfl rfl ?_
  by_cases q1 : a1 = 0
  · rw [if_pos q1] at E
    refine g_tswIn C 0 48 q1 dX8_boiler_1 (by decide) (by decide) rfl (by decide) ?_
    refine g_aload_n C 0 dX8_boiler_48 rfl rfl ?_
    refine g_getR C dX8_boiler_49 fl_X8_10 rfl E (fun x2 E => ?_)
    refine g_getI C dX8_boiler_52 fl_X8_70 (by decide) (by decide) E (fun x3 E => ?_)
    exact g_iret C dX8_boiler_55 hr E
  rw [if_neg q1] at E
  by_cases q4 : a1 = 1
  · rw [if_pos q4] at E
    refine g_tswIn C 1 56 q4 dX8_boiler_1 (by decide) (by decide) rfl (by decide) ?_
    refine g_aload_n C 0 dX8_boiler_56 rfl rfl ?_
    refine g_getR C dX8_boiler_57 fl_X8_10 rfl E (fun x5 E => ?_)
    refine g_getR C dX8_boiler_60 fl_X8_77 rfl E (fun x6 E => ?_)
    refine g_iconst C 0 dX8_boiler_63 rfl ?_
    refine g_iald C dX8_boiler_64 E (fun x7 E => ?_)
    exact g_iret C dX8_boiler_65 hr E
  rw [if_neg q4] at E
  by_cases q8 : a1 = 2
  · rw [if_pos q8] at E
    refine g_tswIn C 2 66 q8 dX8_boiler_1 (by decide) (by decide) rfl (by decide) ?_
    refine g_aload_n C 0 dX8_boiler_66 rfl rfl ?_
    refine g_getR C dX8_boiler_67 fl_X8_10 rfl E (fun x9 E => ?_)
    refine g_getR C dX8_boiler_70 fl_X8_77 rfl E (fun x10 E => ?_)
    refine g_iconst C 1 dX8_boiler_73 rfl ?_
    refine g_iald C dX8_boiler_74 E (fun x11 E => ?_)
    exact g_iret C dX8_boiler_75 hr E
  rw [if_neg q8] at E
  by_cases q12 : a1 = 3
  · rw [if_pos q12] at E
    refine g_tswIn C 3 76 q12 dX8_boiler_1 (by decide) (by decide) rfl (by decide) ?_
    refine g_aload_n C 0 dX8_boiler_76 rfl rfl ?_
    refine g_getR C dX8_boiler_77 fl_X8_10 rfl E (fun x13 E => ?_)
    refine g_getR C dX8_boiler_80 fl_X8_77 rfl E (fun x14 E => ?_)
    refine g_iconst C 2 dX8_boiler_83 rfl ?_
    refine g_iald C dX8_boiler_84 E (fun x15 E => ?_)
    exact g_iret C dX8_boiler_85 hr E
  rw [if_neg q12] at E
  by_cases q16 : a1 = 4
  · rw [if_pos q16] at E
    refine g_tswIn C 4 86 q16 dX8_boiler_1 (by decide) (by decide) rfl (by decide) ?_
    refine g_aload_n C 0 dX8_boiler_86 rfl rfl ?_
    refine g_getR C dX8_boiler_87 fl_X8_10 rfl E (fun x17 E => ?_)
    refine g_getI C dX8_boiler_90 fl_X8_216 (by decide) (by decide) E (fun x18 E => ?_)
    exact g_iret C dX8_boiler_93 hr E
  rw [if_neg q16] at E
  by_cases q19 : a1 = 5
  · rw [if_pos q19] at E
    refine g_tswIn C 5 94 q19 dX8_boiler_1 (by decide) (by decide) rfl (by decide) ?_
    refine g_aload_n C 0 dX8_boiler_94 rfl rfl ?_
    refine g_getR C dX8_boiler_95 fl_X8_10 rfl E (fun x20 E => ?_)
    refine g_getI C dX8_boiler_98 fl_X8_219 (by decide) (by decide) E (fun x21 E => ?_)
    exact g_iret C dX8_boiler_101 hr E
  rw [if_neg q19] at E
  by_cases q22 : a1 = 6
  · rw [if_pos q22] at E
    refine g_tswIn C 6 102 q22 dX8_boiler_1 (by decide) (by decide) rfl (by decide) ?_
    refine g_aload_n C 0 dX8_boiler_102 rfl rfl ?_
    refine g_getR C dX8_boiler_103 fl_X8_10 rfl E (fun x23 E => ?_)
    refine g_invI C (q := (RX6, TX6, 11)) [] dX8_boiler_106 cl_X8_222 cv_X6_wantedHeat rfl (by decide) rfl rfl ⟨Nat.le_of_ble_eq_true rfl, Nat.le_of_ble_eq_true rfl⟩ (Nat.le_of_ble_eq_true rfl) ⟨Nat.le_of_ble_eq_true rfl, Nat.le_of_ble_eq_true rfl⟩ rfl (fun r' h' E => o_X6_wantedHeat l base D cA x23 h r' h' E) E (fun x24 h25 E => ?_)
    exact g_iret C dX8_boiler_109 hr E
  rw [if_neg q22] at E
  by_cases q26 : a1 = 7
  · rw [if_pos q26] at E
    refine g_tswIn C 7 110 q26 dX8_boiler_1 (by decide) (by decide) rfl (by decide) ?_
    refine g_aload_n C 0 dX8_boiler_110 rfl rfl ?_
    refine g_getR C dX8_boiler_111 fl_X8_10 rfl E (fun x27 E => ?_)
    refine g_getR C dX8_boiler_114 fl_X8_77 rfl E (fun x28 E => ?_)
    refine g_iconst C 3 dX8_boiler_117 rfl ?_
    refine g_iald C dX8_boiler_118 E (fun x29 E => ?_)
    exact g_iret C dX8_boiler_119 hr E
  rw [if_neg q26] at E
  refine g_tswDf C 120 dX8_boiler_1 (fun z z1 z2 zx => ?_) (by decide) ?_
  · rcases (show z = 0 ∨ z = 1 ∨ z = 2 ∨ z = 3 ∨ z = 4 ∨ z = 5 ∨ z = 6 ∨ z = 7 by omega) with rfl | rfl | rfl | rfl | rfl | rfl | rfl | rfl
    · exact absurd zx (lv_neT q1 (by decide))
    · exact absurd zx (lv_neT q4 (by decide))
    · exact absurd zx (lv_neT q8 (by decide))
    · exact absurd zx (lv_neT q12 (by decide))
    · exact absurd zx (lv_neT q16 (by decide))
    · exact absurd zx (lv_neT q19 (by decide))
    · exact absurd zx (lv_neT q22 (by decide))
    · exact absurd zx (lv_neT q26 (by decide))
  refine g_bipush C (-2) dX8_boiler_120 rfl ?_
  exact g_iret C dX8_boiler_122 hr E
abbrev rm_X8_heatNext : Room := { frames := 4, cells := 0, slots := 0, locals := 91 }
def s_X8_heatNext (a0 : Nat) (a1 : Int32) (h : Hp) : Rv Int32 :=
  getR h a0 8 0 fun x1 =>
  inv h x1 6 (s_X6_hasHouse x1 a1 h) fun x2 h =>
  if x2 = 0 then retI (-1) h
  else getR h a0 8 0 fun x3 =>
  getI h x3 6 7 fun x4 =>
  if x4 = 0 then retI 0 h
  else getR h a0 8 0 fun x5 =>
  getR h a0 8 4 fun x6 =>
  inv h x5 6 (s_X6_divideHeat x5 x6 h) fun _ h =>
  getR h a0 8 4 fun x7 =>
  getR h x7 0 2 fun x8 =>
  ldI h x8 20 a1 fun x9 =>
  retI x9 h
set_option maxRecDepth 100000 in
set_option maxHeartbeats 4000000 in
theorem o_X8_heatNext (l : Launch) (base : Nat) (D : va_G) (cA : Nat → ClassId) (a0 : Nat) (a1 : Int32) (h : Hp) (r : Int32) (h' : Hp) (E : s_X8_heatNext a0 a1 h = some (r, h')) : Met l yX8_heatNext (.code yX8_heatNext cX8_heatNext 2 (some .int) :: wsA) rm_X8_heatNext (PcG base D cA [.ref (base + a0), .int a1] h) (QcI base D cA r h') 0 0 (AA base) := by
  refine g_met [.ref (base + a0), .int a1] (by decide) (Nat.le_of_ble_eq_true rfl) (fun p e s m args below meth c C hr hn => ?_)
  refine g_lv (lv' := [(0, .ref (base + a0)), (1, .int a1)]) rfl ?_
  unfold s_X8_heatNext at E
  refine g_aload_n C 0 dX8_heatNext_0 rfl rfl ?_
  refine g_getR C dX8_heatNext_1 fl_X8_10 rfl E (fun x1 E => ?_)
  refine g_iload_n C 1 dX8_heatNext_4 rfl rfl ?_
  refine g_invI C (q := (RX6, TX6, 11)) [.int a1] dX8_heatNext_5 cl_X8_102 cv_X6_hasHouse rfl (by decide) rfl rfl ⟨Nat.le_of_ble_eq_true rfl, Nat.le_of_ble_eq_true rfl⟩ (Nat.le_of_ble_eq_true rfl) ⟨Nat.le_of_ble_eq_true rfl, Nat.le_of_ble_eq_true rfl⟩ rfl (fun r' h' E => o_X6_hasHouse l base D cA x1 a1 h r' h' E) E (fun x2 h3 E => ?_)
  refine g_if_ne C 13 dX8_heatNext_8 (by decide) E (fun E => ?_) (fun E => ?_)
  · refine g_aload_n C 0 dX8_heatNext_13 rfl rfl ?_
    refine g_getR C dX8_heatNext_14 fl_X8_10 rfl E (fun x4 E => ?_)
    refine g_getI C dX8_heatNext_17 fl_X8_80 (by decide) (by decide) E (fun x5 E => ?_)
    refine g_if_ne C 25 dX8_heatNext_20 (by decide) E (fun E => ?_) (fun E => ?_)
    · refine g_aload_n C 0 dX8_heatNext_25 rfl rfl ?_
      refine g_getR C dX8_heatNext_26 fl_X8_10 rfl E (fun x6 E => ?_)
      refine g_aload_n C 0 dX8_heatNext_29 rfl rfl ?_
      refine g_getR C dX8_heatNext_30 fl_X8_32 rfl E (fun x7 E => ?_)
      refine g_invU C (q := (RX6, TX6, 11)) [.ref (base + x7)] dX8_heatNext_33 cl_X8_225 cv_X6_divideHeat rfl (by decide) rfl rfl ⟨Nat.le_of_ble_eq_true rfl, Nat.le_of_ble_eq_true rfl⟩ (Nat.le_of_ble_eq_true rfl) ⟨Nat.le_of_ble_eq_true rfl, Nat.le_of_ble_eq_true rfl⟩ rfl (fun r' h' E => o_X6_divideHeat l base D cA x6 x7 h3 r' h' E) E (fun x8 h9 E => ?_)
      refine g_aload_n C 0 dX8_heatNext_36 rfl rfl ?_
      refine g_getR C dX8_heatNext_37 fl_X8_32 rfl E (fun x10 E => ?_)
      refine g_getR C dX8_heatNext_40 fl_X8_229 rfl E (fun x11 E => ?_)
      refine g_iload_n C 1 dX8_heatNext_43 rfl rfl ?_
      refine g_iald C dX8_heatNext_44 E (fun x12 E => ?_)
      exact g_iret C dX8_heatNext_45 hr E
    · refine g_iconst C 0 dX8_heatNext_23 rfl ?_
      exact g_iret C dX8_heatNext_24 hr E
  · refine g_iconst C (-1) dX8_heatNext_11 rfl ?_
    exact g_iret C dX8_heatNext_12 hr E
abbrev rm_X8_lease : Room := { frames := 1, cells := 0, slots := 0, locals := 22 }
def s_X8_lease (a0 : Nat) (a1 : Int32) (a2 : Int32) (h : Hp) : Rv Int32 :=
  getR h a0 8 0 fun x1 =>
  getI h x1 6 4 fun x2 =>
  bnd (s_X8_isWithin a1 0 (x2 - 1) h) fun x3 h =>
  if x3 = 0 then retI (-1) h
  else getR h a0 8 0 fun x4 =>
  getR h x4 6 2 fun x5 =>
  ldR h x5 23 a1 fun x6 =>
  inv h x6 3 (s_X3_tell x6 a2 h) fun x7 h =>
  retI x7 h
set_option maxRecDepth 100000 in
set_option maxHeartbeats 4000000 in
theorem o_X8_lease (l : Launch) (base : Nat) (D : va_G) (cA : Nat → ClassId) (a0 : Nat) (a1 : Int32) (a2 : Int32) (h : Hp) (r : Int32) (h' : Hp) (E : s_X8_lease a0 a1 a2 h = some (r, h')) : Met l yX8_lease (.code yX8_lease cX8_lease 3 (some .int) :: wsA) rm_X8_lease (PcG base D cA [.ref (base + a0), .int a1, .int a2] h) (QcI base D cA r h') 0 0 (AA base) := by
  refine g_met [.ref (base + a0), .int a1, .int a2] (by decide) (Nat.le_of_ble_eq_true rfl) (fun p e s m args below meth c C hr hn => ?_)
  refine g_lv (lv' := [(0, .ref (base + a0)), (1, .int a1), (2, .int a2)]) rfl ?_
  unfold s_X8_lease at E
  refine g_iload_n C 1 dX8_lease_0 rfl rfl ?_
  refine g_iconst C 0 dX8_lease_1 rfl ?_
  refine g_aload_n C 0 dX8_lease_2 rfl rfl ?_
  refine g_getR C dX8_lease_3 fl_X8_10 rfl E (fun x1 E => ?_)
  refine g_getI C dX8_lease_6 fl_X8_167 (by decide) (by decide) E (fun x2 E => ?_)
  refine g_iconst C 1 dX8_lease_9 rfl ?_
  refine g_isub C dX8_lease_10 ?_
  refine g_staI C [.int a1, .int 0, .int (x2 - 1)] dX8_lease_11 cl_X8_47 cs_X8_isWithin rfl rfl ⟨Nat.le_of_ble_eq_true rfl, Nat.le_of_ble_eq_true rfl⟩ (Nat.le_of_ble_eq_true rfl) ⟨Nat.le_of_ble_eq_true rfl, Nat.le_of_ble_eq_true rfl⟩ rfl (fun r' h' E => o_X8_isWithin l base D cA a1 0 (x2 - 1) h r' h' E) E (fun x3 h4 E => ?_)
  refine g_if_eq C 33 dX8_lease_14 (by decide) E (fun E => ?_) (fun E => ?_)
  · refine g_iconst C (-1) dX8_lease_33 rfl ?_
    exact g_iret C dX8_lease_34 hr E
  · refine g_aload_n C 0 dX8_lease_17 rfl rfl ?_
    refine g_getR C dX8_lease_18 fl_X8_10 rfl E (fun x5 E => ?_)
    refine g_getR C dX8_lease_21 fl_X8_232 rfl E (fun x6 E => ?_)
    refine g_iload_n C 1 dX8_lease_24 rfl rfl ?_
    refine g_aald C 3 (by decide) (by decide) rfl dX8_lease_25 E (fun x7 E => ?_)
    refine g_iload_n C 2 dX8_lease_26 rfl rfl ?_
    refine g_invI C (q := (RX3, TX3, 5)) [.int a2] dX8_lease_27 cl_X8_236 cv_X3_tell rfl (by decide) rfl rfl ⟨Nat.le_of_ble_eq_true rfl, Nat.le_of_ble_eq_true rfl⟩ (Nat.le_of_ble_eq_true rfl) ⟨Nat.le_of_ble_eq_true rfl, Nat.le_of_ble_eq_true rfl⟩ rfl (fun r' h' E => o_X3_tell l base D cA x7 a2 h4 r' h' E) E (fun x8 h9 E => ?_)
    refine g_goto C 34 dX8_lease_30 (by decide) ?_
    exact g_iret C dX8_lease_34 hr E
abbrev rm_X8_count : Room := { frames := 3, cells := 0, slots := 0, locals := 65 }
def s_X8_count (a0 : Nat) (a1 : Int32) (h : Hp) : Rv Int32 :=
  if a1 = 13 then getR h a0 8 3 fun x1 =>
  getI h x1 1 1 fun x2 =>
  retI x2 h
  else if a1 = 14 then getR h a0 8 5 fun x3 =>
  getI h x3 5 1 fun x4 =>
  retI x4 h
  else getR h a0 8 0 fun x5 =>
  inv h x5 6 (s_X6_tell x5 a1 h) fun x6 h =>
  retI x6 h
set_option maxRecDepth 100000 in
set_option maxHeartbeats 4000000 in
theorem o_X8_count (l : Launch) (base : Nat) (D : va_G) (cA : Nat → ClassId) (a0 : Nat) (a1 : Int32) (h : Hp) (r : Int32) (h' : Hp) (E : s_X8_count a0 a1 h = some (r, h')) : Met l yX8_count (.code yX8_count cX8_count 2 (some .int) :: wsA) rm_X8_count (PcG base D cA [.ref (base + a0), .int a1] h) (QcI base D cA r h') 0 0 (AA base) := by
  refine g_met [.ref (base + a0), .int a1] (by decide) (Nat.le_of_ble_eq_true rfl) (fun p e s m args below meth c C hr hn => ?_)
  refine g_lv (lv' := [(0, .ref (base + a0)), (1, .int a1)]) rfl ?_
  unfold s_X8_count at E
  refine g_iload_n C 1 dX8_count_0 rfl rfl ?_
  by_cases q1 : a1 = 13
  · rw [if_pos q1] at E
    refine g_lsw C (off := 27) 28 dX8_count_1 (by decide) (by rw [q1]; rfl) (by decide) ?_
    refine g_aload_n C 0 dX8_count_28 rfl rfl ?_
    refine g_getR C dX8_count_29 fl_X8_25 rfl E (fun x2 E => ?_)
    refine g_getI C dX8_count_32 fl_X8_190 (by decide) (by decide) E (fun x3 E => ?_)
    exact g_iret C dX8_count_35 hr E
  rw [if_neg q1] at E
  by_cases q4 : a1 = 14
  · rw [if_pos q4] at E
    refine g_lsw C (off := 35) 36 dX8_count_1 (by decide) (by rw [q4]; rfl) (by decide) ?_
    refine g_aload_n C 0 dX8_count_36 rfl rfl ?_
    refine g_getR C dX8_count_37 fl_X8_39 rfl E (fun x5 E => ?_)
    refine g_getI C dX8_count_40 fl_X8_99 (by decide) (by decide) E (fun x6 E => ?_)
    exact g_iret C dX8_count_43 hr E
  rw [if_neg q4] at E
  refine g_lsw C (off := 43) 44 dX8_count_1 (by decide) (by show Op.lookupswitch.offset [(13, 27), (14, 35)] 43 _ = _; rw [lv_osw q1 (by decide), lv_osw q4 (by decide)]; rfl) (by decide) ?_
  refine g_aload_n C 0 dX8_count_44 rfl rfl ?_
  refine g_getR C dX8_count_45 fl_X8_10 rfl E (fun x7 E => ?_)
  refine g_iload_n C 1 dX8_count_48 rfl rfl ?_
  refine g_invI C (q := (RX6, TX6, 11)) [.int a1] dX8_count_49 cl_X8_239 cv_X6_tell rfl (by decide) rfl rfl ⟨Nat.le_of_ble_eq_true rfl, Nat.le_of_ble_eq_true rfl⟩ (Nat.le_of_ble_eq_true rfl) ⟨Nat.le_of_ble_eq_true rfl, Nat.le_of_ble_eq_true rfl⟩ rfl (fun r' h' E => o_X6_tell l base D cA x7 a1 h r' h' E) E (fun x8 h9 E => ?_)
  exact g_iret C dX8_count_52 hr E
