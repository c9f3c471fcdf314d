abbrev rm_X8_undo : Room := { frames := 4, cells := 0, slots := 0, locals := 85 }
def s_X8_undo (a0 : Nat) (h : Hp) : Rv Int32 :=
  getR h a0 8 3 fun x1 =>
  getR h a0 8 0 fun x2 =>
  inv h x1 1 (s_X1_takeBack x1 x2 h) fun x3 h =>
  if x3 = 0 then retI (-5) h
  else getR h a0 8 3 fun x4 =>
  getI h x4 1 1 fun x5 =>
  retI x5 h
set_option maxRecDepth 100000 in
set_option maxHeartbeats 4000000 in
theorem o_X8_undo (l : Launch) (base : Nat) (D : va_G) (cA : Nat → ClassId) (a0 : Nat) (h : Hp) (r : Int32) (h' : Hp) (E : s_X8_undo a0 h = some (r, h')) : Met l yX8_undo (.code yX8_undo cX8_undo 1 (some .int) :: wsA) rm_X8_undo (PcG base D cA [.ref (base + a0)] h) (QcI base D cA r h') 0 0 (AA base) := by
  refine g_met [.ref (base + a0)] (by decide) (Nat.le_of_ble_eq_true rfl) (fun p e s m args below meth c C hr hn => ?_)
  refine g_lv (lv' := [(0, .ref (base + a0))]) rfl ?_
  unfold s_X8_undo at E
  refine g_aload_n C 0 dX8_undo_0 rfl rfl ?_
  refine g_getR C dX8_undo_1 fl_X8_25 rfl E (fun x1 E => ?_)
  refine g_aload_n C 0 dX8_undo_4 rfl rfl ?_
  refine g_getR C dX8_undo_5 fl_X8_10 rfl E (fun x2 E => ?_)
  refine g_invI C (q := (RX1, TX1, 2)) [.ref (base + x2)] dX8_undo_8 cl_X8_186 cv_X1_takeBack rfl (by decide) rfl rfl ⟨Nat.le_of_ble_eq_true rfl, Nat.le_of_ble_eq_true rfl⟩ (Nat.le_of_ble_eq_true rfl) ⟨Nat.le_of_ble_eq_true rfl, Nat.le_of_ble_eq_true rfl⟩ rfl (fun r' h' E => o_X1_takeBack l base D cA x1 x2 h r' h' E) E (fun x3 h4 E => ?_)
  refine g_if_eq C 24 dX8_undo_11 (by decide) E (fun E => ?_) (fun E => ?_)
  · refine g_bipush C (-5) dX8_undo_24 rfl ?_
    exact g_iret C dX8_undo_26 hr E
  · refine g_aload_n C 0 dX8_undo_14 rfl rfl ?_
    refine g_getR C dX8_undo_15 fl_X8_25 rfl E (fun x5 E => ?_)
    refine g_getI C dX8_undo_18 fl_X8_190 (by decide) (by decide) E (fun x6 E => ?_)
    refine g_goto C 26 dX8_undo_21 (by decide) ?_
    exact g_iret C dX8_undo_26 hr E
abbrev rm_X8_keep : Room := { frames := 3, cells := 0, slots := 0, locals := 64 }
def s_X8_keep (a0 : Nat) (h : Hp) : Rv Int32 :=
  getR h a0 8 2 fun x1 =>
  getR h a0 8 0 fun x2 =>
  inv h x1 6 (s_X6_copyFrom x1 x2 h) fun _ h =>
  putZ h a0 8 6 1 fun h =>
  getR h a0 8 0 fun x3 =>
  getI h x3 6 5 fun x4 =>
  retI x4 h
set_option maxRecDepth 100000 in
set_option maxHeartbeats 4000000 in
theorem o_X8_keep (l : Launch) (base : Nat) (D : va_G) (cA : Nat → ClassId) (a0 : Nat) (h : Hp) (r : Int32) (h' : Hp) (E : s_X8_keep a0 h = some (r, h')) : Met l yX8_keep (.code yX8_keep cX8_keep 1 (some .int) :: wsA) rm_X8_keep (PcG base D cA [.ref (base + a0)] h) (QcI base D cA r h') 0 0 (AA base) := by
  refine g_met [.ref (base + a0)] (by decide) (Nat.le_of_ble_eq_true rfl) (fun p e s m args below meth c C hr hn => ?_)
  refine g_lv (lv' := [(0, .ref (base + a0))]) rfl ?_
  unfold s_X8_keep at E
  refine g_aload_n C 0 dX8_keep_0 rfl rfl ?_
  refine g_getR C dX8_keep_1 fl_X8_19 rfl E (fun x1 E => ?_)
  refine g_aload_n C 0 dX8_keep_4 rfl rfl ?_
  refine g_getR C dX8_keep_5 fl_X8_10 rfl E (fun x2 E => ?_)
  refine g_invU C (q := (RX6, TX6, 11)) [.ref (base + x2)] dX8_keep_8 cl_X8_193 cv_X6_copyFrom rfl (by decide) rfl rfl ⟨Nat.le_of_ble_eq_true rfl, Nat.le_of_ble_eq_true rfl⟩ (Nat.le_of_ble_eq_true rfl) ⟨Nat.le_of_ble_eq_true rfl, Nat.le_of_ble_eq_true rfl⟩ rfl (fun r' h' E => o_X6_copyFrom l base D cA x1 x2 h r' h' E) E (fun x3 h4 E => ?_)
  refine g_aload_n C 0 dX8_keep_11 rfl rfl ?_
  refine g_iconst C 1 dX8_keep_12 rfl ?_
  refine g_putZ C false dX8_keep_13 fl_X8_43 fp_X8_8_6 (fun q => Bool.noConfusion q) rfl E (fun h5 E => ?_)
  refine g_aload_n C 0 dX8_keep_16 rfl rfl ?_
  refine g_getR C dX8_keep_17 fl_X8_10 rfl E (fun x6 E => ?_)
  refine g_getI C dX8_keep_20 fl_X8_196 (by decide) (by decide) E (fun x7 E => ?_)
  exact g_iret C dX8_keep_23 hr E
abbrev rm_X8_restore : Room := { frames := 4, cells := 0, slots := 0, locals := 85 }
def s_X8_restore (a0 : Nat) (h : Hp) : Rv Int32 :=
  getI h a0 8 6 fun x1 =>
  if x1 = 0 then retI (-5) h
  else getR h a0 8 3 fun x2 =>
  getR h a0 8 0 fun x3 =>
  inv h x2 1 (s_X1_record x2 x3 h) fun _ h =>
  getR h a0 8 0 fun x4 =>
  getR h a0 8 2 fun x5 =>
  inv h x4 6 (s_X6_copyFrom x4 x5 h) fun _ h =>
  getR h a0 8 0 fun x6 =>
  getI h x6 6 5 fun x7 =>
  retI x7 h
set_option maxRecDepth 100000 in
set_option maxHeartbeats 4000000 in
theorem o_X8_restore (l : Launch) (base : Nat) (D : va_G) (cA : Nat → ClassId) (a0 : Nat) (h : Hp) (r : Int32) (h' : Hp) (E : s_X8_restore a0 h = some (r, h')) : Met l yX8_restore (.code yX8_restore cX8_restore 1 (some .int) :: wsA) rm_X8_restore (PcG base D cA [.ref (base + a0)] h) (QcI base D cA r h') 0 0 (AA base) := by
  refine g_met [.ref (base + a0)] (by decide) (Nat.le_of_ble_eq_true rfl) (fun p e s m args below meth c C hr hn => ?_)
  refine g_lv (lv' := [(0, .ref (base + a0))]) rfl ?_
  unfold s_X8_restore at E
  refine g_aload_n C 0 dX8_restore_0 rfl rfl ?_
  refine g_getI C dX8_restore_1 fl_X8_43 (by decide) (by decide) E (fun x1 E => ?_)
  refine g_if_ne C 10 dX8_restore_4 (by decide) E (fun E => ?_) (fun E => ?_)
  · refine g_aload_n C 0 dX8_restore_10 rfl rfl ?_
    refine g_getR C dX8_restore_11 fl_X8_25 rfl E (fun x2 E => ?_)
    refine g_aload_n C 0 dX8_restore_14 rfl rfl ?_
    refine g_getR C dX8_restore_15 fl_X8_10 rfl E (fun x3 E => ?_)
    refine g_invU C (q := (RX1, TX1, 2)) [.ref (base + x3)] dX8_restore_18 cl_X8_55 cv_X1_record rfl (by decide) rfl rfl ⟨Nat.le_of_ble_eq_true rfl, Nat.le_of_ble_eq_true rfl⟩ (Nat.le_of_ble_eq_true rfl) ⟨Nat.le_of_ble_eq_true rfl, Nat.le_of_ble_eq_true rfl⟩ rfl (fun r' h' E => o_X1_record l base D cA x2 x3 h r' h' E) E (fun x4 h5 E => ?_)
    refine g_aload_n C 0 dX8_restore_21 rfl rfl ?_
    refine g_getR C dX8_restore_22 fl_X8_10 rfl E (fun x6 E => ?_)
    refine g_aload_n C 0 dX8_restore_25 rfl rfl ?_
    refine g_getR C dX8_restore_26 fl_X8_19 rfl E (fun x7 E => ?_)
    refine g_invU C (q := (RX6, TX6, 11)) [.ref (base + x7)] dX8_restore_29 cl_X8_193 cv_X6_copyFrom rfl (by decide) rfl rfl ⟨Nat.le_of_ble_eq_true rfl, Nat.le_of_ble_eq_true rfl⟩ (Nat.le_of_ble_eq_true rfl) ⟨Nat.le_of_ble_eq_true rfl, Nat.le_of_ble_eq_true rfl⟩ rfl (fun r' h' E => o_X6_copyFrom l base D cA x6 x7 h5 r' h' E) E (fun x8 h9 E => ?_)
    refine g_aload_n C 0 dX8_restore_32 rfl rfl ?_
    refine g_getR C dX8_restore_33 fl_X8_10 rfl E (fun x10 E => ?_)
    refine g_getI C dX8_restore_36 fl_X8_196 (by decide) (by decide) E (fun x11 E => ?_)
    exact g_iret C dX8_restore_39 hr E
  · refine g_bipush C (-5) dX8_restore_7 rfl ?_
    exact g_iret C dX8_restore_9 hr E
abbrev rm_X8_house : Room := { frames := 3, cells := 0, slots := 0, locals := 67 }
def s_X8_house (a0 : Nat) (a1 : Int32) (a2 : Int32) (h : Hp) : Rv Int32 :=
  getR h a0 8 0 fun x1 =>
  inv h x1 6 (s_X6_hasHouse x1 a1 h) fun x2 h =>
  if x2 = 0 then retI (-1) h
  else if a2 = 0 then getR h a0 8 0 fun x7 =>
  inv h x7 6 (s_X6_sharesOf x7 a1 h) fun x8 h =>
  retI x8 h
  else getR h a0 8 0 fun x3 =>
  getR h x3 6 1 fun x4 =>
  ldR h x4 22 a1 fun x5 =>
  inv h x5 2 (s_X2_tell x5 a2 h) fun x6 h =>
  retI x6 h
set_option maxRecDepth 100000 in
set_option maxHeartbeats 4000000 in
theorem o_X8_house (l : Launch) (base : Nat) (D : va_G) (cA : Nat → ClassId) (a0 : Nat) (a1 : Int32) (a2 : Int32) (h : Hp) (r : Int32) (h' : Hp) (E : s_X8_house a0 a1 a2 h = some (r, h')) : Met l yX8_house (.code yX8_house cX8_house 3 (some .int) :: wsA) rm_X8_house (PcG base D cA [.ref (base + a0), .int a1, .int a2] h) (QcI base D cA r h') 0 0 (AA base) := by
  refine g_met [.ref (base + a0), .int a1, .int a2] (by decide) (Nat.le_of_ble_eq_true rfl) (fun p e s m args below meth c C hr hn => ?_)
  refine g_lv (lv' := [(0, .ref (base + a0)), (1, .int a1), (2, .int a2)]) rfl ?_
  unfold s_X8_house at E
  refine g_aload_n C 0 dX8_house_0 rfl rfl ?_
  refine g_getR C dX8_house_1 fl_X8_10 rfl E (fun x1 E => ?_)
  refine g_iload_n C 1 dX8_house_4 rfl rfl ?_
  refine g_invI C (q := (RX6, TX6, 11)) [.int a1] dX8_house_5 cl_X8_102 cv_X6_hasHouse rfl (by decide) rfl rfl ⟨Nat.le_of_ble_eq_true rfl, Nat.le_of_ble_eq_true rfl⟩ (Nat.le_of_ble_eq_true rfl) ⟨Nat.le_of_ble_eq_true rfl, Nat.le_of_ble_eq_true rfl⟩ rfl (fun r' h' E => o_X6_hasHouse l base D cA x1 a1 h r' h' E) E (fun x2 h3 E => ?_)
  refine g_if_ne C 13 dX8_house_8 (by decide) E (fun E => ?_) (fun E => ?_)
  · refine g_iload_n C 2 dX8_house_13 rfl rfl ?_
    refine g_if_ne C 28 dX8_house_14 (by decide) E (fun E => ?_) (fun E => ?_)
    · refine g_aload_n C 0 dX8_house_28 rfl rfl ?_
      refine g_getR C dX8_house_29 fl_X8_10 rfl E (fun x4 E => ?_)
      refine g_getR C dX8_house_32 fl_X8_158 rfl E (fun x5 E => ?_)
      refine g_iload_n C 1 dX8_house_35 rfl rfl ?_
      refine g_aald C 2 (by decide) (by decide) rfl dX8_house_36 E (fun x6 E => ?_)
      refine g_iload_n C 2 dX8_house_37 rfl rfl ?_
      refine g_invI C (q := (RX2, TX2, 10)) [.int a2] dX8_house_38 cl_X8_202 cv_X2_tell rfl (by decide) rfl rfl ⟨Nat.le_of_ble_eq_true rfl, Nat.le_of_ble_eq_true rfl⟩ (Nat.le_of_ble_eq_true rfl) ⟨Nat.le_of_ble_eq_true rfl, Nat.le_of_ble_eq_true rfl⟩ rfl (fun r' h' E => o_X2_tell l base D cA x6 a2 h3 r' h' E) E (fun x7 h8 E => ?_)
      exact g_iret C dX8_house_41 hr E
    · refine g_aload_n C 0 dX8_house_17 rfl rfl ?_
      refine g_getR C dX8_house_18 fl_X8_10 rfl E (fun x9 E => ?_)
      refine g_iload_n C 1 dX8_house_21 rfl rfl ?_
      refine g_invI C (q := (RX6, TX6, 11)) [.int a1] dX8_house_22 cl_X8_199 cv_X6_sharesOf rfl (by decide) rfl rfl ⟨Nat.le_of_ble_eq_true rfl, Nat.le_of_ble_eq_true rfl⟩ (Nat.le_of_ble_eq_true rfl) ⟨Nat.le_of_ble_eq_true rfl, Nat.le_of_ble_eq_true rfl⟩ rfl (fun r' h' E => o_X6_sharesOf l base D cA x9 a1 h3 r' h' E) E (fun x10 h11 E => ?_)
      refine g_goto C 41 dX8_house_25 (by decide) ?_
      exact g_iret C dX8_house_41 hr E
  · refine g_iconst C (-1) dX8_house_11 rfl ?_
    exact g_iret C dX8_house_12 hr E
abbrev rm_X8_washer : Room := { frames := 2, cells := 0, slots := 0, locals := 43 }
def s_X8_washer (a0 : Nat) (a1 : Int32) (a2 : Int32) (h : Hp) : Rv Int32 :=
  getR h a0 8 0 fun x1 =>
  inv h x1 6 (s_X6_hasHouse x1 a1 h) fun x2 h =>
  if x2 = 0 then retI (-1) h
  else getR h a0 8 0 fun x3 =>
  inv h x3 6 (s_X6_washerOf x3 a1 h) fun x4 h =>
  inv h x4 7 (s_X7_tell x4 a2 h) fun x5 h =>
  retI x5 h
set_option maxRecDepth 100000 in
set_option maxHeartbeats 4000000 in
theorem o_X8_washer (l : Launch) (base : Nat) (D : va_G) (cA : Nat → ClassId) (a0 : Nat) (a1 : Int32) (a2 : Int32) (h : Hp) (r : Int32) (h' : Hp) (E : s_X8_washer a0 a1 a2 h = some (r, h')) : Met l yX8_washer (.code yX8_washer cX8_washer 3 (some .int) :: wsA) rm_X8_washer (PcG base D cA [.ref (base + a0), .int a1, .int a2] h) (QcI base D cA r h') 0 0 (AA base) := by
  refine g_met [.ref (base + a0), .int a1, .int a2] (by decide) (Nat.le_of_ble_eq_true rfl) (fun p e s m args below meth c C hr hn => ?_)
  refine g_lv (lv' := [(0, .ref (base + a0)), (1, .int a1), (2, .int a2)]) rfl ?_
  unfold s_X8_washer at E
  refine g_aload_n C 0 dX8_washer_0 rfl rfl ?_
  refine g_getR C dX8_washer_1 fl_X8_10 rfl E (fun x1 E => ?_)
  refine g_iload_n C 1 dX8_washer_4 rfl rfl ?_
  refine g_invI C (q := (RX6, TX6, 11)) [.int a1] dX8_washer_5 cl_X8_102 cv_X6_hasHouse rfl (by decide) rfl rfl ⟨Nat.le_of_ble_eq_true rfl, Nat.le_of_ble_eq_true rfl⟩ (Nat.le_of_ble_eq_true rfl) ⟨Nat.le_of_ble_eq_true rfl, Nat.le_of_ble_eq_true rfl⟩ rfl (fun r' h' E => o_X6_hasHouse l base D cA x1 a1 h r' h' E) E (fun x2 h3 E => ?_)
  refine g_if_eq C 26 dX8_washer_8 (by decide) E (fun E => ?_) (fun E => ?_)
  · refine g_iconst C (-1) dX8_washer_26 rfl ?_
    exact g_iret C dX8_washer_27 hr E
  · refine g_aload_n C 0 dX8_washer_11 rfl rfl ?_
    refine g_getR C dX8_washer_12 fl_X8_10 rfl E (fun x4 E => ?_)
    refine g_iload_n C 1 dX8_washer_15 rfl rfl ?_
    refine g_invR C (q := (RX6, TX6, 11)) [.int a1] dX8_washer_16 cl_X8_120 cv_X6_washerOf rfl (by decide) rfl rfl ⟨Nat.le_of_ble_eq_true rfl, Nat.le_of_ble_eq_true rfl⟩ (Nat.le_of_ble_eq_true rfl) ⟨Nat.le_of_ble_eq_true rfl, Nat.le_of_ble_eq_true rfl⟩ rfl (fun r' h' E => o_X6_washerOf l base D cA x4 a1 h3 r' h' E) E (fun x5 h6 E => ?_)
    refine g_iload_n C 2 dX8_washer_19 rfl rfl ?_
    refine g_invI C (q := (RX7, TX7, 8)) [.int a2] dX8_washer_20 cl_X8_205 cv_X7_tell rfl (by decide) rfl rfl ⟨Nat.le_of_ble_eq_true rfl, Nat.le_of_ble_eq_true rfl⟩ (Nat.le_of_ble_eq_true rfl) ⟨Nat.le_of_ble_eq_true rfl, Nat.le_of_ble_eq_true rfl⟩ rfl (fun r' h' E => o_X7_tell l base D cA x5 a2 h6 r' h' E) E (fun x7 h8 E => ?_)
    refine g_goto C 27 dX8_washer_23 (by decide) ?_
    exact g_iret C dX8_washer_27 hr E
abbrev rm_X8_phase : Room := { frames := 2, cells := 0, slots := 0, locals := 43 }
def s_X8_phase (a0 : Nat) (a1 : Int32) (a2 : Int32) (a3 : Int32) (h : Hp) : Rv Int32 :=
  getR h a0 8 0 fun x1 =>
  inv h x1 6 (s_X6_hasHouse x1 a1 h) fun x2 h =>
  if x2 = 0 then retI (-1) h
  else getR h a0 8 0 fun x3 =>
  inv h x3 6 (s_X6_washerOf x3 a1 h) fun x4 h =>
  getR h x4 7 0 fun x5 =>
  inv h x5 4 (s_X4_hasPhase x5 a2 h) fun x6 h =>
  if x6 = 0 then retI (-1) h
  else if a3 = 0 then inv h x5 4 (s_X4_kindOf x5 a2 h) fun x7 h =>
  retI x7 h
  else if a3 = 1 then inv h x5 4 (s_X4_numberOf x5 a2 h) fun x8 h =>
  retI x8 h
  else retI (-2) h
set_option maxRecDepth 100000 in
set_option maxHeartbeats 4000000 in
theorem o_X8_phase (l : Launch) (base : Nat) (D : va_G) (cA : Nat → ClassId) (a0 : Nat) (a1 : Int32) (a2 : Int32) (a3 : Int32) (h : Hp) (r : Int32) (h' : Hp) (E : s_X8_phase a0 a1 a2 a3 h = some (r, h')) : Met l yX8_phase (.code yX8_phase cX8_phase 5 (some .int) :: wsA) rm_X8_phase (PcG base D cA [.ref (base + a0), .int a1, .int a2, .int a3] h) (QcI base D cA r h') 0 0 (AA base) := by
  refine g_met [.ref (base + a0), .int a1, .int a2, .int a3] (by decide) (Nat.le_of_ble_eq_true rfl) (fun p e s m args below meth c C hr hn => ?_)
  refine g_lv (lv' := [(0, .ref (base + a0)), (1, .int a1), (2, .int a2), (3, .int a3)]) rfl ?_
  unfold s_X8_phase at E
  refine g_aload_n C 0 dX8_phase_0 rfl rfl ?_
  refine g_getR C dX8_phase_1 fl_X8_10 rfl E (fun x1 E => ?_)
  refine g_iload_n C 1 dX8_phase_4 rfl rfl ?_
  refine g_invI C (q := (RX6, TX6, 11)) [.int a1] dX8_phase_5 cl_X8_102 cv_X6_hasHouse rfl (by decide) rfl rfl ⟨Nat.le_of_ble_eq_true rfl, Nat.le_of_ble_eq_true rfl⟩ (Nat.le_of_ble_eq_true rfl) ⟨Nat.le_of_ble_eq_true rfl, Nat.le_of_ble_eq_true rfl⟩ rfl (fun r' h' E => o_X6_hasHouse l base D cA x1 a1 h r' h' E) E (fun x2 h3 E => ?_)
  refine g_if_ne C 13 dX8_phase_8 (by decide) E (fun E => ?_) (fun E => ?_)
  · refine g_aload_n C 0 dX8_phase_13 rfl rfl ?_
    refine g_getR C dX8_phase_14 fl_X8_10 rfl E (fun x4 E => ?_)
    refine g_iload_n C 1 dX8_phase_17 rfl rfl ?_
    refine g_invR C (q := (RX6, TX6, 11)) [.int a1] dX8_phase_18 cl_X8_120 cv_X6_washerOf rfl (by decide) rfl rfl ⟨Nat.le_of_ble_eq_true rfl, Nat.le_of_ble_eq_true rfl⟩ (Nat.le_of_ble_eq_true rfl) ⟨Nat.le_of_ble_eq_true rfl, Nat.le_of_ble_eq_true rfl⟩ rfl (fun r' h' E => o_X6_washerOf l base D cA x4 a1 h3 r' h' E) E (fun x5 h6 E => ?_)
    refine g_getR C dX8_phase_21 fl_X8_129 rfl E (fun x7 E => ?_)
    refine g_astore C (lv' := [(4, .ref (base + x7)), (0, .ref (base + a0)), (1, .int a1), (2, .int a2), (3, .int a3)]) dX8_phase_24 (by decide) rfl ?_
    refine g_aload C 0 dX8_phase_26 rfl ?_
    refine g_iload_n C 3 dX8_phase_28 rfl rfl ?_
    refine g_invI C (q := (RX4, TX4, 3)) [.int a2] dX8_phase_29 cl_X8_206 cv_X4_hasPhase rfl (by decide) rfl rfl ⟨Nat.le_of_ble_eq_true rfl, Nat.le_of_ble_eq_true rfl⟩ (Nat.le_of_ble_eq_true rfl) ⟨Nat.le_of_ble_eq_true rfl, Nat.le_of_ble_eq_true rfl⟩ rfl (fun r' h' E => o_X4_hasPhase l base D cA x7 a2 h6 r' h' E) E (fun x8 h9 E => ?_)
    refine g_if_ne C 37 dX8_phase_32 (by decide) E (fun E => ?_) (fun E => ?_)
    · refine g_iload_n C 4 dX8_phase_37 rfl rfl ?_
      by_cases q10 : a3 = 0
      · rw [if_pos q10] at E
        refine g_lsw C (off := 26) 64 dX8_phase_38 (by decide) (by rw [q10]; rfl) (by decide) ?_
        refine g_aload C 0 dX8_phase_64 rfl ?_
        refine g_iload_n C 3 dX8_phase_66 rfl rfl ?_
        refine g_invI C (q := (RX4, TX4, 3)) [.int a2] dX8_phase_67 cl_X8_209 cv_X4_kindOf rfl (by decide) rfl rfl ⟨Nat.le_of_ble_eq_true rfl, Nat.le_of_ble_eq_true rfl⟩ (Nat.le_of_ble_eq_true rfl) ⟨Nat.le_of_ble_eq_true rfl, Nat.le_of_ble_eq_true rfl⟩ rfl (fun r' h' E => o_X4_kindOf l base D cA x7 a2 h9 r' h' E) E (fun x11 h12 E => ?_)
        exact g_iret C dX8_phase_70 hr E
      rw [if_neg q10] at E
      by_cases q13 : a3 = 1
      · rw [if_pos q13] at E
        refine g_lsw C (off := 33) 71 dX8_phase_38 (by decide) (by rw [q13]; rfl) (by decide) ?_
        refine g_aload C 0 dX8_phase_71 rfl ?_
        refine g_iload_n C 3 dX8_phase_73 rfl rfl ?_
        refine g_invI C (q := (RX4, TX4, 3)) [.int a2] dX8_phase_74 cl_X8_213 cv_X4_numberOf rfl (by decide) rfl rfl ⟨Nat.le_of_ble_eq_true rfl, Nat.le_of_ble_eq_true rfl⟩ (Nat.le_of_ble_eq_true rfl) ⟨Nat.le_of_ble_eq_true rfl, Nat.le_of_ble_eq_true rfl⟩ rfl (fun r' h' E => o_X4_numberOf l base D cA x7 a2 h9 r' h' E) E (fun x14 h15 E => ?_)
        exact g_iret C dX8_phase_77 hr E
      rw [if_neg q13] at E
      refine g_lsw C (off := 40) 78 dX8_phase_38 (by decide) (by show Op.lookupswitch.offset [(0, 26), (1, 33)] 40 _ = _; rw [lv_osw q10 (by decide), lv_osw q13 (by decide)]; rfl) (by decide) ?_
      refine g_bipush C (-2) dX8_phase_78 rfl ?_
      exact g_iret C dX8_phase_80 hr E
    · refine g_iconst C (-1) dX8_phase_35 rfl ?_
      exact g_iret C dX8_phase_36 hr E
  · refine g_iconst C (-1) dX8_phase_11 rfl ?_
    exact g_iret C dX8_phase_12 hr E
abbrev rm_X8_boiler : Room := { frames := 4, cells := 0, slots := 0, locals := 86 }
def s_X8_boiler (a0 : Nat) (a1 : Int32) (h : Hp) : Rv Int32 :=
  if a1 = 0 then getR h a0 8 0 fun x1 =>
  getI h x1 6 8 fun x2 =>
  retI x2 h
  else if a1 = 1 then getR h a0 8 0 fun x3 =>
  getR h x3 6 0 fun x4 =>
  ldI h x4 20 0 fun x5 =>
  retI x5 h
  else if a1 = 2 then getR h a0 8 0 fun x6 =>
  getR h x6 6 0 fun x7 =>
  ldI h x7 20 1 fun x8 =>
  retI x8 h
  else if a1 = 3 then getR h a0 8 0 fun x9 =>
  getR h x9 6 0 fun x10 =>
  ldI h x10 20 2 fun x11 =>
  retI x11 h
  else if a1 = 4 then getR h a0 8 0 fun x12 =>
  getI h x12 6 9 fun x13 =>
  retI x13 h
  else if a1 = 5 then getR h a0 8 0 fun x14 =>
  getI h x14 6 10 fun x15 =>
  retI x15 h
  else if a1 = 6 then getR h a0 8 0 fun x16 =>
  inv h x16 6 (s_X6_wantedHeat x16 h) fun x17 h =>
  retI x17 h
  else if a1 = 7 then getR h a0 8 0 fun x18 =>
  getR h x18 6 0 fun x19 =>
  ldI h x19 20 3 fun x20 =>
  retI x20 h
  else retI (-2) h
set_option maxRecDepth 100000 in
set_option maxHeartbeats 4000000 in
theorem o_X8_boiler (l : Launch) (base : Nat) (D : va_G) (cA : Nat → ClassId) (a0 : Nat) (a1 : Int32) (h : Hp) (r : Int32) (h' : Hp) (E : s_X8_boiler a0 a1 h = some (r, h')) : Met l yX8_boiler (.code yX8_boiler cX8_boiler 2 (some .int) :: wsA) rm_X8_boiler (PcG base D cA [.ref (base + a0), .int a1] h) (QcI base D cA r h') 0 0 (AA base) := by
  refine g_met [.ref (base + a0), .int a1] (by decide) (Nat.le_of_ble_eq_true rfl) (fun p e s m args below meth c C hr hn => ?_)
  refine g_lv (lv' := [(0, .ref (base + a0)), (1, .int a1)]) rfl ?_
  unfold s_X8_boiler at E
  refine g_iload_n C 1 dX8_boiler_0 rfl rfl ?_
  by_cases q1 : a1 = 0
  · rw [if_pos q1] at E
    refine g_tswIn C 0 48 q1 dX8_boiler_1 (by decide) (by decide) rfl (by decide) ?_
    refine g_aload_n C 0 dX8_boiler_48 rfl rfl ?_
    refine g_getR C dX8_boiler_49 fl_X8_10 rfl E (fun x2 E => ?_)
    refine g_getI C dX8_boiler_52 fl_X8_70 (by decide) (by decide) E (fun x3 E => ?_)
    exact g_iret C dX8_boiler_55 hr E
  rw [if_neg q1] at E
  by_cases q4 : a1 = 1
  · rw [if_pos q4] at E
    refine g_tswIn C 1 56 q4 dX8_boiler_1 (by decide) (by decide) rfl (by decide) ?_
    refine g_aload_n C 0 dX8_boiler_56 rfl rfl ?_
    refine g_getR C dX8_boiler_57 fl_X8_10 rfl E (fun x5 E => ?_)
    refine g_getR C dX8_boiler_60 fl_X8_77 rfl E (fun x6 E => ?_)
    refine g_iconst C 0 dX8_boiler_63 rfl ?_
    refine g_iald C dX8_boiler_64 E (fun x7 E => ?_)
    exact g_iret C dX8_boiler_65 hr E
  rw [if_neg q4] at E
  by_cases q8 : a1 = 2
  · rw [if_pos q8] at E
    refine g_tswIn C 2 66 q8 dX8_boiler_1 (by decide) (by decide) rfl (by decide) ?_
    refine g_aload_n C 0 dX8_boiler_66 rfl rfl ?_
    refine g_getR C dX8_boiler_67 fl_X8_10 rfl E (fun x9 E => ?_)
    refine g_getR C dX8_boiler_70 fl_X8_77 rfl E (fun x10 E => ?_)
    refine g_iconst C 1 dX8_boiler_73 rfl ?_
    refine g_iald C dX8_boiler_74 E (fun x11 E => ?_)
    exact g_iret C dX8_boiler_75 hr E
  rw [if_neg q8] at E
  by_cases q12 : a1 = 3
  · rw [if_pos q12] at E
    refine g_tswIn C 3 76 q12 dX8_boiler_1 (by decide) (by decide) rfl (by decide) ?_
    refine g_aload_n C 0 dX8_boiler_76 rfl rfl ?_
    refine g_getR C dX8_boiler_77 fl_X8_10 rfl E (fun x13 E => ?_)
    refine g_getR C dX8_boiler_80 fl_X8_77 rfl E (fun x14 E => ?_)
    refine g_iconst C 2 dX8_boiler_83 rfl ?_
    refine g_iald C dX8_boiler_84 E (fun x15 E => ?_)
    exact g_iret C dX8_boiler_85 hr E
  rw [if_neg q12] at E
  by_cases q16 : a1 = 4
  · rw [if_pos q16] at E
    refine g_tswIn C 4 86 q16 dX8_boiler_1 (by decide) (by decide) rfl (by decide) ?_
    refine g_aload_n C 0 dX8_boiler_86 rfl rfl ?_
    refine g_getR C dX8_boiler_87 fl_X8_10 rfl E (fun x17 E => ?_)
    refine g_getI C dX8_boiler_90 fl_X8_216 (by decide) (by decide) E (fun x18 E => ?_)
    exact g_iret C dX8_boiler_93 hr E
  rw [if_neg q16] at E
  by_cases q19 : a1 = 5
  · rw [if_pos q19] at E
    refine g_tswIn C 5 94 q19 dX8_boiler_1 (by decide) (by decide) rfl (by decide) ?_
    refine g_aload_n C 0 dX8_boiler_94 rfl rfl ?_
    refine g_getR C dX8_boiler_95 fl_X8_10 rfl E (fun x20 E => ?_)
    refine g_getI C dX8_boiler_98 fl_X8_219 (by decide) (by decide) E (fun x21 E => ?_)
    exact g_iret C dX8_boiler_101 hr E
  rw [if_neg q19] at E
  by_cases q22 : a1 = 6
  · rw [if_pos q22] at E
    refine g_tswIn C 6 102 q22 dX8_boiler_1 (by decide) (by decide) rfl (by decide) ?_
    refine g_aload_n C 0 dX8_boiler_102 rfl rfl ?_
    refine g_getR C dX8_boiler_103 fl_X8_10 rfl E (fun x23 E => ?_)
    refine g_invI C (q := (RX6, TX6, 11)) [] dX8_boiler_106 cl_X8_222 cv_X6_wantedHeat rfl (by decide) rfl rfl ⟨Nat.le_of_ble_eq_true rfl, Nat.le_of_ble_eq_true rfl⟩ (Nat.le_of_ble_eq_true rfl) ⟨Nat.le_of_ble_eq_true rfl, Nat.le_of_ble_eq_true rfl⟩ rfl (fun r' h' E => o_X6_wantedHeat l base D cA x23 h r' h' E) E (fun x24 h25 E => ?_)
    exact g_iret C dX8_boiler_109 hr E
  rw [if_neg q22] at E
  by_cases q26 : a1 = 7
  · rw [if_pos q26] at E
    refine g_tswIn C 7 110 q26 dX8_boiler_1 (by decide) (by decide) rfl (by decide) ?_
    refine g_aload_n C 0 dX8_boiler_110 rfl rfl ?_
    refine g_getR C dX8_boiler_111 fl_X8_10 rfl E (fun x27 E => ?_)
    refine g_getR C dX8_boiler_114 fl_X8_77 rfl E (fun x28 E => ?_)
    refine g_iconst C 3 dX8_boiler_117 rfl ?_
    refine g_iald C dX8_boiler_118 E (fun x29 E => ?_)
    exact g_iret C dX8_boiler_119 hr E
  rw [if_neg q26] at E
  refine g_tswDf C 120 dX8_boiler_1 (fun z z1 z2 zx => ?_) (by decide) ?_
  · rcases (show z = 0 ∨ z = 1 ∨ z = 2 ∨ z = 3 ∨ z = 4 ∨ z = 5 ∨ z = 6 ∨ z = 7 by omega) with rfl | rfl | rfl | rfl | rfl | rfl | rfl | rfl
    · exact absurd zx (lv_neT q1 (by decide))
    · exact absurd zx (lv_neT q4 (by decide))
    · exact absurd zx (lv_neT q8 (by decide))
    · exact absurd zx (lv_neT q12 (by decide))
    · exact absurd zx (lv_neT q16 (by decide))
    · exact absurd zx (lv_neT q19 (by decide))
    · exact absurd zx (lv_neT q22 (by decide))
    · exact absurd zx (lv_neT q26 (by decide))
  refine g_bipush C (-2) dX8_boiler_120 rfl ?_
  exact g_iret C dX8_boiler_122 hr E
abbrev rm_X8_heatNext : Room := { frames := 4, cells := 0, slots := 0, locals := 91 }
def s_X8_heatNext (a0 : Nat) (a1 : Int32) (h : Hp) : Rv Int32 :=
  getR h a0 8 0 fun x1 =>
  inv h x1 6 (s_X6_hasHouse x1 a1 h) fun x2 h =>
  if x2 = 0 then retI (-1) h
  else getR h a0 8 0 fun x3 =>
  getI h x3 6 7 fun x4 =>
  if x4 = 0 then retI 0 h
  else getR h a0 8 0 fun x5 =>
  getR h a0 8 4 fun x6 =>
  inv h x5 6 (s_X6_divideHeat x5 x6 h) fun _ h =>
  getR h a0 8 4 fun x7 =>
  getR h x7 0 2 fun x8 =>
  ldI h x8 20 a1 fun x9 =>
  retI x9 h
set_option maxRecDepth 100000 in
set_option maxHeartbeats 4000000 in
theorem o_X8_heatNext (l : Launch) (base : Nat) (D : va_G) (cA : Nat → ClassId) (a0 : Nat) (a1 : Int32) (h : Hp) (r : Int32) (h' : Hp) (E : s_X8_heatNext a0 a1 h = some (r, h')) : Met l yX8_heatNext (.code yX8_heatNext cX8_heatNext 2 (some .int) :: wsA) rm_X8_heatNext (PcG base D cA [.ref (base + a0), .int a1] h) (QcI base D cA r h') 0 0 (AA base) := by
  refine g_met [.ref (base + a0), .int a1] (by decide) (Nat.le_of_ble_eq_true rfl) (fun p e s m args below meth c C hr hn => ?_)
  refine g_lv (lv' := [(0, .ref (base + a0)), (1, .int a1)]) rfl ?_
  unfold s_X8_heatNext at E
  refine g_aload_n C 0 dX8_heatNext_0 rfl rfl ?_
  refine g_getR C dX8_heatNext_1 fl_X8_10 rfl E (fun x1 E => ?_)
  refine g_iload_n C 1 dX8_heatNext_4 rfl rfl ?_
  refine g_invI C (q := (RX6, TX6, 11)) [.int a1] dX8_heatNext_5 cl_X8_102 cv_X6_hasHouse rfl (by decide) rfl rfl ⟨Nat.le_of_ble_eq_true rfl, Nat.le_of_ble_eq_true rfl⟩ (Nat.le_of_ble_eq_true rfl) ⟨Nat.le_of_ble_eq_true rfl, Nat.le_of_ble_eq_true rfl⟩ rfl (fun r' h' E => o_X6_hasHouse l base D cA x1 a1 h r' h' E) E (fun x2 h3 E => ?_)
  refine g_if_ne C 13 dX8_heatNext_8 (by decide) E (fun E => ?_) (fun E => ?_)
  · refine g_aload_n C 0 dX8_heatNext_13 rfl rfl ?_
    refine g_getR C dX8_heatNext_14 fl_X8_10 rfl E (fun x4 E => ?_)
    refine g_getI C dX8_heatNext_17 fl_X8_80 (by decide) (by decide) E (fun x5 E => ?_)
    refine g_if_ne C 25 dX8_heatNext_20 (by decide) E (fun E => ?_) (fun E => ?_)
    · refine g_aload_n C 0 dX8_heatNext_25 rfl rfl ?_
      refine g_getR C dX8_heatNext_26 fl_X8_10 rfl E (fun x6 E => ?_)
      refine g_aload_n C 0 dX8_heatNext_29 rfl rfl ?_
      refine g_getR C dX8_heatNext_30 fl_X8_32 rfl E (fun x7 E => ?_)
      refine g_invU C (q := (RX6, TX6, 11)) [.ref (base + x7)] dX8_heatNext_33 cl_X8_225 cv_X6_divideHeat rfl (by decide) rfl rfl ⟨Nat.le_of_ble_eq_true rfl, Nat.le_of_ble_eq_true rfl⟩ (Nat.le_of_ble_eq_true rfl) ⟨Nat.le_of_ble_eq_true rfl, Nat.le_of_ble_eq_true rfl⟩ rfl (fun r' h' E => o_X6_divideHeat l base D cA x6 x7 h3 r' h' E) E (fun x8 h9 E => ?_)
      refine g_aload_n C 0 dX8_heatNext_36 rfl rfl ?_
      refine g_getR C dX8_heatNext_37 fl_X8_32 rfl E (fun x10 E => ?_)
      refine g_getR C dX8_heatNext_40 fl_X8_229 rfl E (fun x11 E => ?_)
      refine g_iload_n C 1 dX8_heatNext_43 rfl rfl ?_
      refine g_iald C dX8_heatNext_44 E (fun x12 E => ?_)
      exact g_iret C dX8_heatNext_45 hr E
    · refine g_iconst C 0 dX8_heatNext_23 rfl ?_
      exact g_iret C dX8_heatNext_24 hr E
  · refine g_iconst C (-1) dX8_heatNext_11 rfl ?_
    exact g_iret C dX8_heatNext_12 hr E
abbrev rm_X8_lease : Room := { frames := 1, cells := 0, slots := 0, locals := 22 }
def s_X8_lease (a0 : Nat) (a1 : Int32) (a2 : Int32) (h : Hp) : Rv Int32 :=
  getR h a0 8 0 fun x1 =>
  getI h x1 6 4 fun x2 =>
  bnd (s_X8_isWithin a1 0 (x2 - 1) h) fun x3 h =>
  if x3 = 0 then retI (-1) h
  else getR h a0 8 0 fun x4 =>
  getR h x4 6 2 fun x5 =>
  ldR h x5 23 a1 fun x6 =>
  inv h x6 3 (s_X3_tell x6 a2 h) fun x7 h =>
  retI x7 h
set_option maxRecDepth 100000 in
set_option maxHeartbeats 4000000 in
theorem o_X8_lease (l : Launch) (base : Nat) (D : va_G) (cA : Nat → ClassId) (a0 : Nat) (a1 : Int32) (a2 : Int32) (h : Hp) (r : Int32) (h' : Hp) (E : s_X8_lease a0 a1 a2 h = some (r, h')) : Met l yX8_lease (.code yX8_lease cX8_lease 3 (some .int) :: wsA) rm_X8_lease (PcG base D cA [.ref (base + a0), .int a1, .int a2] h) (QcI base D cA r h') 0 0 (AA base) := by
  refine g_met [.ref (base + a0), .int a1, .int a2] (by decide) (Nat.le_of_ble_eq_true rfl) (fun p e s m args below meth c C hr hn => ?_)
  refine g_lv (lv' := [(0, .ref (base + a0)), (1, .int a1), (2, .int a2)]) rfl ?_
  unfold s_X8_lease at E
  refine g_iload_n C 1 dX8_lease_0 rfl rfl ?_
  refine g_iconst C 0 dX8_lease_1 rfl ?_
  refine g_aload_n C 0 dX8_lease_2 rfl rfl ?_
  refine g_getR C dX8_lease_3 fl_X8_10 rfl E (fun x1 E => ?_)
  refine g_getI C dX8_lease_6 fl_X8_167 (by decide) (by decide) E (fun x2 E => ?_)
  refine g_iconst C 1 dX8_lease_9 rfl ?_
  refine g_isub C dX8_lease_10 ?_
  refine g_staI C [.int a1, .int 0, .int (x2 - 1)] dX8_lease_11 cl_X8_47 cs_X8_isWithin rfl rfl ⟨Nat.le_of_ble_eq_true rfl, Nat.le_of_ble_eq_true rfl⟩ (Nat.le_of_ble_eq_true rfl) ⟨Nat.le_of_ble_eq_true rfl, Nat.le_of_ble_eq_true rfl⟩ rfl (fun r' h' E => o_X8_isWithin l base D cA a1 0 (x2 - 1) h r' h' E) E (fun x3 h4 E => ?_)
  refine g_if_eq C 33 dX8_lease_14 (by decide) E (fun E => ?_) (fun E => ?_)
  · refine g_iconst C (-1) dX8_lease_33 rfl ?_
    exact g_iret C dX8_lease_34 hr E
  · refine g_aload_n C 0 dX8_lease_17 rfl rfl ?_
    refine g_getR C dX8_lease_18 fl_X8_10 rfl E (fun x5 E => ?_)
    refine g_getR C dX8_lease_21 fl_X8_232 rfl E (fun x6 E => ?_)
    refine g_iload_n C 1 dX8_lease_24 rfl rfl ?_
    refine g_aald C 3 (by decide) (by decide) rfl dX8_lease_25 E (fun x7 E => ?_)
    refine g_iload_n C 2 dX8_lease_26 rfl rfl ?_
    refine g_invI C (q := (RX3, TX3, 5)) [.int a2] dX8_lease_27 cl_X8_236 cv_X3_tell rfl (by decide) rfl rfl ⟨Nat.le_of_ble_eq_true rfl, Nat.le_of_ble_eq_true rfl⟩ (Nat.le_of_ble_eq_true rfl) ⟨Nat.le_of_ble_eq_true rfl, Nat.le_of_ble_eq_true rfl⟩ rfl (fun r' h' E => o_X3_tell l base D cA x7 a2 h4 r' h' E) E (fun x8 h9 E => ?_)
    refine g_goto C 34 dX8_lease_30 (by decide) ?_
    exact g_iret C dX8_lease_34 hr E
abbrev rm_X8_ask : Room := { frames := 2, cells := 0, slots := 0, locals := 44 }
def s_X8_ask (a0 : Nat) (a1 : Int32) (a2 : Int32) (h : Hp) : Rv Int32 :=
  getR h a0 8 0 fun x1 =>
  inv h x1 6 (s_X6_hasHouse x1 a1 h) fun x2 h =>
  if x2 = 0 then retI (-1) h
  else bnd (s_X8_isWithin a2 1 20 h) fun x3 h =>
  if x3 = 0 then retI (-2) h
  else getR h a0 8 0 fun x4 =>
  inv h x4 6 (s_X6_unlentOf x4 a1 h) fun x5 h =>
  if a2 ≤ x5 then getR h a0 8 0 fun x6 =>
  inv h x6 6 (s_X6_askOf x6 a1 a2 h) fun x7 h =>
  retI x7 h
  else retI (-4) h
set_option maxRecDepth 100000 in
set_option maxHeartbeats 4000000 in
theorem o_X8_ask (l : Launch) (base : Nat) (D : va_G) (cA : Nat → ClassId) (a0 : Nat) (a1 : Int32) (a2 : Int32) (h : Hp) (r : Int32) (h' : Hp) (E : s_X8_ask a0 a1 a2 h = some (r, h')) : Met l yX8_ask (.code yX8_ask cX8_ask 3 (some .int) :: wsA) rm_X8_ask (PcG base D cA [.ref (base + a0), .int a1, .int a2] h) (QcI base D cA r h') 0 0 (AA base) := by
  refine g_met [.ref (base + a0), .int a1, .int a2] (by decide) (Nat.le_of_ble_eq_true rfl) (fun p e s m args below meth c C hr hn => ?_)
  refine g_lv (lv' := [(0, .ref (base + a0)), (1, .int a1), (2, .int a2)]) rfl ?_
  unfold s_X8_ask at E
  refine g_aload_n C 0 dX8_ask_0 rfl rfl ?_
  refine g_getR C dX8_ask_1 fl_X8_10 rfl E (fun x1 E => ?_)
  refine g_iload_n C 1 dX8_ask_4 rfl rfl ?_
  refine g_invI C (q := (RX6, TX6, 11)) [.int a1] dX8_ask_5 cl_X8_102 cv_X6_hasHouse rfl (by decide) rfl rfl ⟨Nat.le_of_ble_eq_true rfl, Nat.le_of_ble_eq_true rfl⟩ (Nat.le_of_ble_eq_true rfl) ⟨Nat.le_of_ble_eq_true rfl, Nat.le_of_ble_eq_true rfl⟩ rfl (fun r' h' E => o_X6_hasHouse l base D cA x1 a1 h r' h' E) E (fun x2 h3 E => ?_)
  refine g_if_ne C 13 dX8_ask_8 (by decide) E (fun E => ?_) (fun E => ?_)
  · refine g_iload_n C 2 dX8_ask_13 rfl rfl ?_
    refine g_iconst C 1 dX8_ask_14 rfl ?_
    refine g_bipush C 20 dX8_ask_15 rfl ?_
    refine g_staI C [.int a2, .int 1, .int 20] dX8_ask_17 cl_X8_47 cs_X8_isWithin rfl rfl ⟨Nat.le_of_ble_eq_true rfl, Nat.le_of_ble_eq_true rfl⟩ (Nat.le_of_ble_eq_true rfl) ⟨Nat.le_of_ble_eq_true rfl, Nat.le_of_ble_eq_true rfl⟩ rfl (fun r' h' E => o_X8_isWithin l base D cA a2 1 20 h3 r' h' E) E (fun x4 h5 E => ?_)
    refine g_if_ne C 26 dX8_ask_20 (by decide) E (fun E => ?_) (fun E => ?_)
    · refine g_aload_n C 0 dX8_ask_26 rfl rfl ?_
      refine g_getR C dX8_ask_27 fl_X8_10 rfl E (fun x6 E => ?_)
      refine g_iload_n C 1 dX8_ask_30 rfl rfl ?_
      refine g_invI C (q := (RX6, TX6, 11)) [.int a1] dX8_ask_31 cl_X8_155 cv_X6_unlentOf rfl (by decide) rfl rfl ⟨Nat.le_of_ble_eq_true rfl, Nat.le_of_ble_eq_true rfl⟩ (Nat.le_of_ble_eq_true rfl) ⟨Nat.le_of_ble_eq_true rfl, Nat.le_of_ble_eq_true rfl⟩ rfl (fun r' h' E => o_X6_unlentOf l base D cA x6 a1 h5 r' h' E) E (fun x7 h8 E => ?_)
      refine g_iload_n C 2 dX8_ask_34 rfl rfl ?_
      refine g_icmp_ge C 43 dX8_ask_35 (by decide) E (fun E => ?_) (fun E => ?_)
      · refine g_aload_n C 0 dX8_ask_43 rfl rfl ?_
        refine g_getR C dX8_ask_44 fl_X8_10 rfl E (fun x9 E => ?_)
        refine g_iload_n C 1 dX8_ask_47 rfl rfl ?_
        refine g_iload_n C 2 dX8_ask_48 rfl rfl ?_
        refine g_invI C (q := (RX6, TX6, 11)) [.int a1, .int a2] dX8_ask_49 cl_X8_170 cv_X6_askOf rfl (by decide) rfl rfl ⟨Nat.le_of_ble_eq_true rfl, Nat.le_of_ble_eq_true rfl⟩ (Nat.le_of_ble_eq_true rfl) ⟨Nat.le_of_ble_eq_true rfl, Nat.le_of_ble_eq_true rfl⟩ rfl (fun r' h' E => o_X6_askOf l base D cA x9 a1 a2 h8 r' h' E) E (fun x10 h11 E => ?_)
        exact g_iret C dX8_ask_52 hr E
      · refine g_bipush C (-4) dX8_ask_38 rfl ?_
        refine g_goto C 52 dX8_ask_40 (by decide) ?_
        exact g_iret C dX8_ask_52 hr E
    · refine g_bipush C (-2) dX8_ask_23 rfl ?_
      exact g_iret C dX8_ask_25 hr E
  · refine g_iconst C (-1) dX8_ask_11 rfl ?_
    exact g_iret C dX8_ask_12 hr E
abbrev rm_X8_overIn : Room := { frames := 6, cells := 0, slots := 0, locals := 138 }
def s_X8_overIn_L53 (k86 : Nat → Int32 → Hp → Rv Int32) : Nat → Nat → Nat → Int32 → Hp → Rv Int32
  | 0, _, _, _, _ => none
  | n + 1, v0, v2, v3, h =>
    if 600 ≤ v3 then k86 v2 v3 h
  else getI h v2 7 1 fun x10 =>
  if x10 = 1 then getR h v0 8 1 fun x11 =>
  getR h v0 8 4 fun x12 =>
  inv h x11 6 (s_X6_passMinute x11 x12 h) fun x13 h =>
  s_X8_overIn_L53 k86 n v0 v2 (v3 + 1) h
  else k86 v2 v3 h
def s_X8_overIn_J86 (v2 : Nat) (v3 : Int32) (h : Hp) : Rv Int32 :=
  getI h v2 7 1 fun x14 =>
  if x14 = 0 then retI v3 h
  else retI (-5) h
def s_X8_overIn (a0 : Nat) (a1 : Int32) (h : Hp) : Rv Int32 :=
  getR h a0 8 0 fun x1 =>
  inv h x1 6 (s_X6_hasHouse x1 a1 h) fun x2 h =>
  if x2 = 0 then retI (-1) h
  else getR h a0 8 0 fun x3 =>
  inv h x3 6 (s_X6_washerOf x3 a1 h) fun x4 h =>
  getI h x4 7 1 fun x5 =>
  if x5 = 1 then getR h a0 8 1 fun x6 =>
  getR h a0 8 0 fun x7 =>
  inv h x6 6 (s_X6_copyFrom x6 x7 h) fun _ h =>
  getR h a0 8 1 fun x8 =>
  inv h x8 6 (s_X6_washerOf x8 a1 h) fun x9 h =>
  s_X8_overIn_L53 (fun y0 y1 h => s_X8_overIn_J86 y0 y1 h) 100000 a0 x9 0 h
  else retI (-4) h
set_option maxRecDepth 100000 in
set_option maxHeartbeats 4000000 in
theorem o_X8_overIn_L53 {l : Launch} {base : Nat} {D : va_G} {cA : Nat → ClassId} {p : Program} {e : Env} {s : State} {m : MethodId} {args : Array Value} {below : List Frame} {meth : Method} {c : Code} (C : GC base D cA p s m args meth c cX8_overIn 4 RX8) (hr : meth.sig.returnType = (some .int)) {X : Int32 × Hp} {k86 : Nat → Int32 → Hp → Rv Int32} (K86 : ∀ (y0 : Nat) (y1 : Int32) (h : Hp), k86 y0 y1 h = some X → GW base D cA p l e rm_X8_overIn s m args below meth c (MQ below (QcI base D cA X.1 X.2) args s 0 0 (AA base)) 4 h 0 0 86 [(2, .ref (base + y0)), (3, .int y1)] []) : ∀ (n : Nat) (v0 : Nat) (v2 : Nat) (v3 : Int32) (h : Hp), s_X8_overIn_L53 k86 n v0 v2 v3 h = some X → GW base D cA p l e rm_X8_overIn s m args below meth c (MQ below (QcI base D cA X.1 X.2) args s 0 0 (AA base)) 4 h 0 0 53 [(0, .ref (base + v0)), (2, .ref (base + v2)), (3, .int v3)] [] := by
  intro n
  induction n with
  | zero =>
    intro v0 v2 v3 h E
    rw [s_X8_overIn_L53] at E
    cases E
  | succ n ih =>
    intro v0 v2 v3 h E
    rw [s_X8_overIn_L53] at E
    refine g_iload_n C 2 dX8_overIn_53 rfl rfl ?_
    refine g_sipush C 600 dX8_overIn_54 rfl ?_
    refine g_icmp_ge C 86 dX8_overIn_57 (by decide) E (fun E => ?_) (fun E => ?_)
    · refine g_sub (lv' := [(2, .ref (base + v2)), (3, .int v3)]) [1, 2] rfl ?_
      exact K86 v2 v3 h E
    · refine g_aload_n C 1 dX8_overIn_60 rfl rfl ?_
      refine g_getI C dX8_overIn_61 fl_X8_124 (by decide) (by decide) E (fun x1 E => ?_)
      refine g_iconst C 1 dX8_overIn_64 rfl ?_
      refine g_icmp_ne C 86 dX8_overIn_65 (by decide) E (fun E => ?_) (fun E => ?_)
      · refine g_sub (lv' := [(2, .ref (base + v2)), (3, .int v3)]) [1, 2] rfl ?_
        exact K86 v2 v3 h E
      · refine g_aload_n C 0 dX8_overIn_68 rfl rfl ?_
        refine g_getR C dX8_overIn_69 fl_X8_16 rfl E (fun x2 E => ?_)
        refine g_aload_n C 0 dX8_overIn_72 rfl rfl ?_
        refine g_getR C dX8_overIn_73 fl_X8_32 rfl E (fun x3 E => ?_)
        refine g_invI C (q := (RX6, TX6, 11)) [.ref (base + x3)] dX8_overIn_76 cl_X8_91 cv_X6_passMinute rfl (by decide) rfl rfl ⟨Nat.le_of_ble_eq_true rfl, Nat.le_of_ble_eq_true rfl⟩ (Nat.le_of_ble_eq_true rfl) ⟨Nat.le_of_ble_eq_true rfl, Nat.le_of_ble_eq_true rfl⟩ rfl (fun r' h' E => o_X6_passMinute l base D cA x2 x3 h r' h' E) E (fun x4 h5 E => ?_)
        refine g_pop C dX8_overIn_79 rfl ?_
        refine g_iinc C (lv' := [(3, .int (v3 + 1)), (0, .ref (base + v0)), (2, .ref (base + v2))]) 2 1 dX8_overIn_80 rfl rfl (by decide) rfl ?_
        refine g_goto C 53 dX8_overIn_83 (by decide) ?_
        refine g_sub (lv' := [(0, .ref (base + v0)), (2, .ref (base + v2)), (3, .int (v3 + 1))]) [1, 2, 0] rfl ?_
        exact ih v0 v2 (v3 + 1) h5 E
set_option maxRecDepth 100000 in
set_option maxHeartbeats 4000000 in
theorem o_X8_overIn_J86 {l : Launch} {base : Nat} {D : va_G} {cA : Nat → ClassId} {p : Program} {e : Env} {s : State} {m : MethodId} {args : Array Value} {below : List Frame} {meth : Method} {c : Code} (C : GC base D cA p s m args meth c cX8_overIn 4 RX8) (hr : meth.sig.returnType = (some .int)) {X : Int32 × Hp} : ∀ (v2 : Nat) (v3 : Int32) (h : Hp), s_X8_overIn_J86 v2 v3 h = some X → GW base D cA p l e rm_X8_overIn s m args below meth c (MQ below (QcI base D cA X.1 X.2) args s 0 0 (AA base)) 4 h 0 0 86 [(2, .ref (base + v2)), (3, .int v3)] [] := by
  intro v2 v3 h E
  unfold s_X8_overIn_J86 at E
  refine g_aload_n C 0 dX8_overIn_86 rfl rfl ?_
  refine g_getI C dX8_overIn_87 fl_X8_124 (by decide) (by decide) E (fun x1 E => ?_)
  refine g_if_ne C 97 dX8_overIn_90 (by decide) E (fun E => ?_) (fun E => ?_)
  · refine g_bipush C (-5) dX8_overIn_97 rfl ?_
    exact g_iret C dX8_overIn_99 hr E
  · refine g_iload_n C 1 dX8_overIn_93 rfl rfl ?_
    refine g_goto C 99 dX8_overIn_94 (by decide) ?_
    exact g_iret C dX8_overIn_99 hr E
set_option maxRecDepth 100000 in
set_option maxHeartbeats 4000000 in
theorem o_X8_overIn (l : Launch) (base : Nat) (D : va_G) (cA : Nat → ClassId) (a0 : Nat) (a1 : Int32) (h : Hp) (r : Int32) (h' : Hp) (E : s_X8_overIn a0 a1 h = some (r, h')) : Met l yX8_overIn (.code yX8_overIn cX8_overIn 4 (some .int) :: wsA) rm_X8_overIn (PcG base D cA [.ref (base + a0), .int a1] h) (QcI base D cA r h') 0 0 (AA base) := by
  refine g_met [.ref (base + a0), .int a1] (by decide) (Nat.le_of_ble_eq_true rfl) (fun p e s m args below meth c C hr hn => ?_)
  refine g_lv (lv' := [(0, .ref (base + a0)), (1, .int a1)]) rfl ?_
  unfold s_X8_overIn at E
  refine g_aload_n C 0 dX8_overIn_0 rfl rfl ?_
  refine g_getR C dX8_overIn_1 fl_X8_10 rfl E (fun x1 E => ?_)
  refine g_iload_n C 1 dX8_overIn_4 rfl rfl ?_
  refine g_invI C (q := (RX6, TX6, 11)) [.int a1] dX8_overIn_5 cl_X8_102 cv_X6_hasHouse rfl (by decide) rfl rfl ⟨Nat.le_of_ble_eq_true rfl, Nat.le_of_ble_eq_true rfl⟩ (Nat.le_of_ble_eq_true rfl) ⟨Nat.le_of_ble_eq_true rfl, Nat.le_of_ble_eq_true rfl⟩ rfl (fun r' h' E => o_X6_hasHouse l base D cA x1 a1 h r' h' E) E (fun x2 h3 E => ?_)
  refine g_if_ne C 13 dX8_overIn_8 (by decide) E (fun E => ?_) (fun E => ?_)
  · refine g_aload_n C 0 dX8_overIn_13 rfl rfl ?_
    refine g_getR C dX8_overIn_14 fl_X8_10 rfl E (fun x4 E => ?_)
    refine g_iload_n C 1 dX8_overIn_17 rfl rfl ?_
    refine g_invR C (q := (RX6, TX6, 11)) [.int a1] dX8_overIn_18 cl_X8_120 cv_X6_washerOf rfl (by decide) rfl rfl ⟨Nat.le_of_ble_eq_true rfl, Nat.le_of_ble_eq_true rfl⟩ (Nat.le_of_ble_eq_true rfl) ⟨Nat.le_of_ble_eq_true rfl, Nat.le_of_ble_eq_true rfl⟩ rfl (fun r' h' E => o_X6_washerOf l base D cA x4 a1 h3 r' h' E) E (fun x5 h6 E => ?_)
    refine g_getI C dX8_overIn_21 fl_X8_124 (by decide) (by decide) E (fun x7 E => ?_)
    refine g_iconst C 1 dX8_overIn_24 rfl ?_
    refine g_icmp_eq C 31 dX8_overIn_25 (by decide) E (fun E => ?_) (fun E => ?_)
    · refine g_aload_n C 0 dX8_overIn_31 rfl rfl ?_
      refine g_getR C dX8_overIn_32 fl_X8_16 rfl E (fun x8 E => ?_)
      refine g_aload_n C 0 dX8_overIn_35 rfl rfl ?_
      refine g_getR C dX8_overIn_36 fl_X8_10 rfl E (fun x9 E => ?_)
      refine g_invU C (q := (RX6, TX6, 11)) [.ref (base + x9)] dX8_overIn_39 cl_X8_193 cv_X6_copyFrom rfl (by decide) rfl rfl ⟨Nat.le_of_ble_eq_true rfl, Nat.le_of_ble_eq_true rfl⟩ (Nat.le_of_ble_eq_true rfl) ⟨Nat.le_of_ble_eq_true rfl, Nat.le_of_ble_eq_true rfl⟩ rfl (fun r' h' E => o_X6_copyFrom l base D cA x8 x9 h6 r' h' E) E (fun x10 h11 E => ?_)
      refine g_aload_n C 0 dX8_overIn_42 rfl rfl ?_
      refine g_getR C dX8_overIn_43 fl_X8_16 rfl E (fun x12 E => ?_)
      refine g_iload_n C 1 dX8_overIn_46 rfl rfl ?_
      refine g_invR C (q := (RX6, TX6, 11)) [.int a1] dX8_overIn_47 cl_X8_120 cv_X6_washerOf rfl (by decide) rfl rfl ⟨Nat.le_of_ble_eq_true rfl, Nat.le_of_ble_eq_true rfl⟩ (Nat.le_of_ble_eq_true rfl) ⟨Nat.le_of_ble_eq_true rfl, Nat.le_of_ble_eq_true rfl⟩ rfl (fun r' h' E => o_X6_washerOf l base D cA x12 a1 h11 r' h' E) E (fun x13 h14 E => ?_)
      refine g_astore_n C (lv' := [(2, .ref (base + x13)), (0, .ref (base + a0)), (1, .int a1)]) dX8_overIn_50 rfl (by decide) rfl ?_
      refine g_iconst C 0 dX8_overIn_51 rfl ?_
      refine g_istore_n C (lv' := [(3, .int 0), (2, .ref (base + x13)), (0, .ref (base + a0)), (1, .int a1)]) dX8_overIn_52 rfl (by decide) rfl ?_
      refine g_sub (lv' := [(0, .ref (base + a0)), (2, .ref (base + x13)), (3, .int 0)]) [2, 1, 0] rfl ?_
      refine o_X8_overIn_L53 C hr ?_ _ a0 x13 0 h14 E
      · intro y15 y16 h17 E
        refine g_sub (lv' := [(2, .ref (base + y15)), (3, .int y16)]) [0, 1] rfl ?_
        exact o_X8_overIn_J86 C hr y15 y16 h17 E
    · refine g_bipush C (-4) dX8_overIn_28 rfl ?_
      exact g_iret C dX8_overIn_30 hr E
  · refine g_iconst C (-1) dX8_overIn_11 rfl ?_
    exact g_iret C dX8_overIn_12 hr E
abbrev rm_X8_freeIn : Room := { frames := 6, cells := 0, slots := 0, locals := 138 }
def s_X8_freeIn_L35 (k68 : Nat → Int32 → Hp → Rv Int32) : Nat → Nat → Nat → Int32 → Hp → Rv Int32
  | 0, _, _, _, _ => none
  | n + 1, v0, v2, v3, h =>
    if 600 ≤ v3 then k68 v2 v3 h
  else getI h v2 7 2 fun x7 =>
  if x7 = 2 then getR h v0 8 1 fun x8 =>
  getR h v0 8 4 fun x9 =>
  inv h x8 6 (s_X6_passMinute x8 x9 h) fun x10 h =>
  s_X8_freeIn_L35 k68 n v0 v2 (v3 + 1) h
  else k68 v2 v3 h
def s_X8_freeIn_J68 (v2 : Nat) (v3 : Int32) (h : Hp) : Rv Int32 :=
  getI h v2 7 2 fun x11 =>
  if x11 = 2 then retI (-5) h
  else retI v3 h
def s_X8_freeIn (a0 : Nat) (a1 : Int32) (h : Hp) : Rv Int32 :=
  getR h a0 8 0 fun x1 =>
  inv h x1 6 (s_X6_hasHouse x1 a1 h) fun x2 h =>
  if x2 = 0 then retI (-1) h
  else getR h a0 8 1 fun x3 =>
  getR h a0 8 0 fun x4 =>
  inv h x3 6 (s_X6_copyFrom x3 x4 h) fun _ h =>
  getR h a0 8 1 fun x5 =>
  inv h x5 6 (s_X6_washerOf x5 a1 h) fun x6 h =>
  s_X8_freeIn_L35 (fun y0 y1 h => s_X8_freeIn_J68 y0 y1 h) 100000 a0 x6 0 h
set_option maxRecDepth 100000 in
set_option maxHeartbeats 4000000 in
theorem o_X8_freeIn_L35 {l : Launch} {base : Nat} {D : va_G} {cA : Nat → ClassId} {p : Program} {e : Env} {s : State} {m : MethodId} {args : Array Value} {below : List Frame} {meth : Method} {c : Code} (C : GC base D cA p s m args meth c cX8_freeIn 4 RX8) (hr : meth.sig.returnType = (some .int)) {X : Int32 × Hp} {k68 : Nat → Int32 → Hp → Rv Int32} (K68 : ∀ (y0 : Nat) (y1 : Int32) (h : Hp), k68 y0 y1 h = some X → GW base D cA p l e rm_X8_freeIn s m args below meth c (MQ below (QcI base D cA X.1 X.2) args s 0 0 (AA base)) 4 h 0 0 68 [(2, .ref (base + y0)), (3, .int y1)] []) : ∀ (n : Nat) (v0 : Nat) (v2 : Nat) (v3 : Int32) (h : Hp), s_X8_freeIn_L35 k68 n v0 v2 v3 h = some X → GW base D cA p l e rm_X8_freeIn s m args below meth c (MQ below (QcI base D cA X.1 X.2) args s 0 0 (AA base)) 4 h 0 0 35 [(0, .ref (base + v0)), (2, .ref (base + v2)), (3, .int v3)] [] := by
  intro n
  induction n with
  | zero =>
    intro v0 v2 v3 h E
    rw [s_X8_freeIn_L35] at E
    cases E
  | succ n ih =>
    intro v0 v2 v3 h E
    rw [s_X8_freeIn_L35] at E
    refine g_iload_n C 2 dX8_freeIn_35 rfl rfl ?_
    refine g_sipush C 600 dX8_freeIn_36 rfl ?_
    refine g_icmp_ge C 68 dX8_freeIn_39 (by decide) E (fun E => ?_) (fun E => ?_)
    · refine g_sub (lv' := [(2, .ref (base + v2)), (3, .int v3)]) [1, 2] rfl ?_
      exact K68 v2 v3 h E
    · refine g_aload_n C 1 dX8_freeIn_42 rfl rfl ?_
      refine g_getI C dX8_freeIn_43 fl_X8_149 (by decide) (by decide) E (fun x1 E => ?_)
      refine g_iconst C 2 dX8_freeIn_46 rfl ?_
      refine g_icmp_ne C 68 dX8_freeIn_47 (by decide) E (fun E => ?_) (fun E => ?_)
      · refine g_sub (lv' := [(2, .ref (base + v2)), (3, .int v3)]) [1, 2] rfl ?_
        exact K68 v2 v3 h E
      · refine g_aload_n C 0 dX8_freeIn_50 rfl rfl ?_
        refine g_getR C dX8_freeIn_51 fl_X8_16 rfl E (fun x2 E => ?_)
        refine g_aload_n C 0 dX8_freeIn_54 rfl rfl ?_
        refine g_getR C dX8_freeIn_55 fl_X8_32 rfl E (fun x3 E => ?_)
        refine g_invI C (q := (RX6, TX6, 11)) [.ref (base + x3)] dX8_freeIn_58 cl_X8_91 cv_X6_passMinute rfl (by decide) rfl rfl ⟨Nat.le_of_ble_eq_true rfl, Nat.le_of_ble_eq_true rfl⟩ (Nat.le_of_ble_eq_true rfl) ⟨Nat.le_of_ble_eq_true rfl, Nat.le_of_ble_eq_true rfl⟩ rfl (fun r' h' E => o_X6_passMinute l base D cA x2 x3 h r' h' E) E (fun x4 h5 E => ?_)
        refine g_pop C dX8_freeIn_61 rfl ?_
        refine g_iinc C (lv' := [(3, .int (v3 + 1)), (0, .ref (base + v0)), (2, .ref (base + v2))]) 2 1 dX8_freeIn_62 rfl rfl (by decide) rfl ?_
        refine g_goto C 35 dX8_freeIn_65 (by decide) ?_
        refine g_sub (lv' := [(0, .ref (base + v0)), (2, .ref (base + v2)), (3, .int (v3 + 1))]) [1, 2, 0] rfl ?_
        exact ih v0 v2 (v3 + 1) h5 E
set_option maxRecDepth 100000 in
set_option maxHeartbeats 4000000 in
theorem o_X8_freeIn_J68 {l : Launch} {base : Nat} {D : va_G} {cA : Nat → ClassId} {p : Program} {e : Env} {s : State} {m : MethodId} {args : Array Value} {below : List Frame} {meth : Method} {c : Code} (C : GC base D cA p s m args meth c cX8_freeIn 4 RX8) (hr : meth.sig.returnType = (some .int)) {X : Int32 × Hp} : ∀ (v2 : Nat) (v3 : Int32) (h : Hp), s_X8_freeIn_J68 v2 v3 h = some X → GW base D cA p l e rm_X8_freeIn s m args below meth c (MQ below (QcI base D cA X.1 X.2) args s 0 0 (AA base)) 4 h 0 0 68 [(2, .ref (base + v2)), (3, .int v3)] [] := by
  intro v2 v3 h E
  unfold s_X8_freeIn_J68 at E
  refine g_aload_n C 0 dX8_freeIn_68 rfl rfl ?_
  refine g_getI C dX8_freeIn_69 fl_X8_149 (by decide) (by decide) E (fun x1 E => ?_)
  refine g_iconst C 2 dX8_freeIn_72 rfl ?_
  refine g_icmp_ne C 81 dX8_freeIn_73 (by decide) E (fun E => ?_) (fun E => ?_)
  · refine g_iload_n C 1 dX8_freeIn_81 rfl rfl ?_
    exact g_iret C dX8_freeIn_82 hr E
  · refine g_bipush C (-5) dX8_freeIn_76 rfl ?_
    refine g_goto C 82 dX8_freeIn_78 (by decide) ?_
    exact g_iret C dX8_freeIn_82 hr E
set_option maxRecDepth 100000 in
set_option maxHeartbeats 4000000 in
theorem o_X8_freeIn (l : Launch) (base : Nat) (D : va_G) (cA : Nat → ClassId) (a0 : Nat) (a1 : Int32) (h : Hp) (r : Int32) (h' : Hp) (E : s_X8_freeIn a0 a1 h = some (r, h')) : Met l yX8_freeIn (.code yX8_freeIn cX8_freeIn 4 (some .int) :: wsA) rm_X8_freeIn (PcG base D cA [.ref (base + a0), .int a1] h) (QcI base D cA r h') 0 0 (AA base) := by
  refine g_met [.ref (base + a0), .int a1] (by decide) (Nat.le_of_ble_eq_true rfl) (fun p e s m args below meth c C hr hn => ?_)
  refine g_lv (lv' := [(0, .ref (base + a0)), (1, .int a1)]) rfl ?_
  unfold s_X8_freeIn at E
  refine g_aload_n C 0 dX8_freeIn_0 rfl rfl ?_
  refine g_getR C dX8_freeIn_1 fl_X8_10 rfl E (fun x1 E => ?_)
  refine g_iload_n C 1 dX8_freeIn_4 rfl rfl ?_
  refine g_invI C (q := (RX6, TX6, 11)) [.int a1] dX8_freeIn_5 cl_X8_102 cv_X6_hasHouse rfl (by decide) rfl rfl ⟨Nat.le_of_ble_eq_true rfl, Nat.le_of_ble_eq_true rfl⟩ (Nat.le_of_ble_eq_true rfl) ⟨Nat.le_of_ble_eq_true rfl, Nat.le_of_ble_eq_true rfl⟩ rfl (fun r' h' E => o_X6_hasHouse l base D cA x1 a1 h r' h' E) E (fun x2 h3 E => ?_)
  refine g_if_ne C 13 dX8_freeIn_8 (by decide) E (fun E => ?_) (fun E => ?_)
  · refine g_aload_n C 0 dX8_freeIn_13 rfl rfl ?_
    refine g_getR C dX8_freeIn_14 fl_X8_16 rfl E (fun x4 E => ?_)
    refine g_aload_n C 0 dX8_freeIn_17 rfl rfl ?_
    refine g_getR C dX8_freeIn_18 fl_X8_10 rfl E (fun x5 E => ?_)
    refine g_invU C (q := (RX6, TX6, 11)) [.ref (base + x5)] dX8_freeIn_21 cl_X8_193 cv_X6_copyFrom rfl (by decide) rfl rfl ⟨Nat.le_of_ble_eq_true rfl, Nat.le_of_ble_eq_true rfl⟩ (Nat.le_of_ble_eq_true rfl) ⟨Nat.le_of_ble_eq_true rfl, Nat.le_of_ble_eq_true rfl⟩ rfl (fun r' h' E => o_X6_copyFrom l base D cA x4 x5 h3 r' h' E) E (fun x6 h7 E => ?_)
    refine g_aload_n C 0 dX8_freeIn_24 rfl rfl ?_
    refine g_getR C dX8_freeIn_25 fl_X8_16 rfl E (fun x8 E => ?_)
    refine g_iload_n C 1 dX8_freeIn_28 rfl rfl ?_
    refine g_invR C (q := (RX6, TX6, 11)) [.int a1] dX8_freeIn_29 cl_X8_120 cv_X6_washerOf rfl (by decide) rfl rfl ⟨Nat.le_of_ble_eq_true rfl, Nat.le_of_ble_eq_true rfl⟩ (Nat.le_of_ble_eq_true rfl) ⟨Nat.le_of_ble_eq_true rfl, Nat.le_of_ble_eq_true rfl⟩ rfl (fun r' h' E => o_X6_washerOf l base D cA x8 a1 h7 r' h' E) E (fun x9 h10 E => ?_)
    refine g_astore_n C (lv' := [(2, .ref (base + x9)), (0, .ref (base + a0)), (1, .int a1)]) dX8_freeIn_32 rfl (by decide) rfl ?_
    refine g_iconst C 0 dX8_freeIn_33 rfl ?_
    refine g_istore_n C (lv' := [(3, .int 0), (2, .ref (base + x9)), (0, .ref (base + a0)), (1, .int a1)]) dX8_freeIn_34 rfl (by decide) rfl ?_
    refine g_sub (lv' := [(0, .ref (base + a0)), (2, .ref (base + x9)), (3, .int 0)]) [2, 1, 0] rfl ?_
    refine o_X8_freeIn_L35 C hr ?_ _ a0 x9 0 h10 E
    · intro y11 y12 h13 E
      refine g_sub (lv' := [(2, .ref (base + y11)), (3, .int y12)]) [0, 1] rfl ?_
      exact o_X8_freeIn_J68 C hr y11 y12 h13 E
  · refine g_iconst C (-1) dX8_freeIn_11 rfl ?_
    exact g_iret C dX8_freeIn_12 hr E
abbrev rm_X8_count : Room := { frames := 3, cells := 0, slots := 0, locals := 65 }
def s_X8_count (a0 : Nat) (a1 : Int32) (h : Hp) : Rv Int32 :=
  if a1 = 13 then getR h a0 8 3 fun x1 =>
  getI h x1 1 1 fun x2 =>
  retI x2 h
  else if a1 = 14 then getR h a0 8 5 fun x3 =>
  getI h x3 5 1 fun x4 =>
  retI x4 h
  else getR h a0 8 0 fun x5 =>
  inv h x5 6 (s_X6_tell x5 a1 h) fun x6 h =>
  retI x6 h
set_option maxRecDepth 100000 in
set_option maxHeartbeats 4000000 in
theorem o_X8_count (l : Launch) (base : Nat) (D : va_G) (cA : Nat → ClassId) (a0 : Nat) (a1 : Int32) (h : Hp) (r : Int32) (h' : Hp) (E : s_X8_count a0 a1 h = some (r, h')) : Met l yX8_count (.code yX8_count cX8_count 2 (some .int) :: wsA) rm_X8_count (PcG base D cA [.ref (base + a0), .int a1] h) (QcI base D cA r h') 0 0 (AA base) := by
  refine g_met [.ref (base + a0), .int a1] (by decide) (Nat.le_of_ble_eq_true rfl) (fun p e s m args below meth c C hr hn => ?_)
  refine g_lv (lv' := [(0, .ref (base + a0)), (1, .int a1)]) rfl ?_
  unfold s_X8_count at E
  refine g_iload_n C 1 dX8_count_0 rfl rfl ?_
  by_cases q1 : a1 = 13
  · rw [if_pos q1] at E
    refine g_lsw C (off := 27) 28 dX8_count_1 (by decide) (by rw [q1]; rfl) (by decide) ?_
    refine g_aload_n C 0 dX8_count_28 rfl rfl ?_
    refine g_getR C dX8_count_29 fl_X8_25 rfl E (fun x2 E => ?_)
    refine g_getI C dX8_count_32 fl_X8_190 (by decide) (by decide) E (fun x3 E => ?_)
    exact g_iret C dX8_count_35 hr E
  rw [if_neg q1] at E
  by_cases q4 : a1 = 14
  · rw [if_pos q4] at E
    refine g_lsw C (off := 35) 36 dX8_count_1 (by decide) (by rw [q4]; rfl) (by decide) ?_
    refine g_aload_n C 0 dX8_count_36 rfl rfl ?_
    refine g_getR C dX8_count_37 fl_X8_39 rfl E (fun x5 E => ?_)
    refine g_getI C dX8_count_40 fl_X8_99 (by decide) (by decide) E (fun x6 E => ?_)
    exact g_iret C dX8_count_43 hr E
  rw [if_neg q4] at E
  refine g_lsw C (off := 43) 44 dX8_count_1 (by decide) (by show Op.lookupswitch.offset [(13, 27), (14, 35)] 43 _ = _; rw [lv_osw q1 (by decide), lv_osw q4 (by decide)]; rfl) (by decide) ?_
  refine g_aload_n C 0 dX8_count_44 rfl rfl ?_
  refine g_getR C dX8_count_45 fl_X8_10 rfl E (fun x7 E => ?_)
  refine g_iload_n C 1 dX8_count_48 rfl rfl ?_
  refine g_invI C (q := (RX6, TX6, 11)) [.int a1] dX8_count_49 cl_X8_239 cv_X6_tell rfl (by decide) rfl rfl ⟨Nat.le_of_ble_eq_true rfl, Nat.le_of_ble_eq_true rfl⟩ (Nat.le_of_ble_eq_true rfl) ⟨Nat.le_of_ble_eq_true rfl, Nat.le_of_ble_eq_true rfl⟩ rfl (fun r' h' E => o_X6_tell l base D cA x7 a1 h r' h' E) E (fun x8 h9 E => ?_)
  exact g_iret C dX8_count_52 hr E
