abbrev rm_X5_toProgram : Room := { frames := 2, cells := 3, slots := 131, locals := 43 }
def s_X5_toProgram_L18 : Nat → Nat → Nat → Int32 → Int32 → Hp → Rv Nat
  | 0, _, _, _, _, _ => none
  | n + 1, v0, v1, v2, v3, h =>
    getI h v0 5 1 fun x3 =>
  if x3 ≤ v3 then retR v1 h
  else getR h v0 5 0 fun x4 =>
  ldI h x4 21 v3 fun x5 =>
  if x5 = 59 then s_X5_toProgram_L18 n v0 v1 (v2 + 1) (v3 + 1) h
  else bnd (s_X5_isDigit x5 h) fun x6 h =>
  if x6 = 0 then inv h v1 4 (s_X4_putKind v1 v2 x5 h) fun _ h =>
  s_X5_toProgram_L18 n v0 v1 v2 (v3 + 1) h
  else inv h v1 4 (s_X4_putDigit v1 v2 (x5 - 48) h) fun _ h =>
  s_X5_toProgram_L18 n v0 v1 v2 (v3 + 1) h
def s_X5_toProgram (a0 : Nat) (h : Hp) : Rv Nat :=
  newO h 4 fun x1 h =>
  inv h a0 5 (s_X5_separators a0 h) fun x2 h =>
  bnd (s_X4_init x1 (x2 + 1) h) fun _ h =>
  s_X5_toProgram_L18 100000 a0 x1 0 0 h
set_option maxRecDepth 100000 in
set_option maxHeartbeats 4000000 in
theorem o_X5_toProgram_L18 {l : Launch} {base : Nat} {D : va_G} {cA : Nat → ClassId} {p : Program} {e : Env} {s : State} {m : MethodId} {args : Array Value} {below : List Frame} {meth : Method} {c : Code} (C : GC base D cA p s m args meth c cX5_toProgram 5 RX5) (hr : meth.sig.returnType = (some (.object "HaggleWash$Program"))) {X : Nat × Hp} : ∀ (n : Nat) (v0 : Nat) (v1 : Nat) (v2 : Int32) (v3 : Int32) (h : Hp), s_X5_toProgram_L18 n v0 v1 v2 v3 h = some X → GW base D cA p l e rm_X5_toProgram s m args below meth c (MQ below (QcR base D cA X.1 X.2) args s 3 131 (AA base)) 5 h 3 131 18 [(0, .ref (base + v0)), (1, .ref (base + v1)), (2, .int v2), (3, .int v3)] [] := by
  intro n
  induction n with
  | zero =>
    intro v0 v1 v2 v3 h E
    rw [s_X5_toProgram_L18] at E
    cases E
  | succ n ih =>
    intro v0 v1 v2 v3 h E
    rw [s_X5_toProgram_L18] at E
    refine g_iload_n C 3 dX5_toProgram_18 rfl rfl ?_
    refine g_aload_n C 0 dX5_toProgram_19 rfl rfl ?_
    refine g_getI C dX5_toProgram_20 fl_X5_15 (by decide) (by decide) E (fun x1 E => ?_)
    refine g_icmp_ge C 81 dX5_toProgram_23 (by decide) E (fun E => ?_) (fun E => ?_)
    · refine g_aload_n C 1 dX5_toProgram_81 rfl rfl ?_
      exact g_aret C dX5_toProgram_82 hr E
    · refine g_aload_n C 0 dX5_toProgram_26 rfl rfl ?_
      refine g_getR C dX5_toProgram_27 fl_X5_9 rfl E (fun x2 E => ?_)
      refine g_iload_n C 3 dX5_toProgram_30 rfl rfl ?_
      refine g_cald C dX5_toProgram_31 E (fun x3 E => ?_)
      refine g_istore C (lv' := [(4, .int x3), (0, .ref (base + v0)), (1, .ref (base + v1)), (2, .int v2), (3, .int v3)]) dX5_toProgram_32 (by decide) rfl ?_
      refine g_iload C 0 dX5_toProgram_34 rfl ?_
      refine g_bipush C 59 dX5_toProgram_36 rfl ?_
      refine g_icmp_ne C 47 dX5_toProgram_38 (by decide) E (fun E => ?_) (fun E => ?_)
      · refine g_iload C 0 dX5_toProgram_47 rfl ?_
        refine g_staI C [.int x3] dX5_toProgram_49 cl_X5_27 cs_X5_isDigit rfl rfl ⟨Nat.le_of_ble_eq_true rfl, Nat.le_of_ble_eq_true rfl⟩ (Nat.le_of_ble_eq_true rfl) ⟨Nat.le_of_ble_eq_true rfl, Nat.le_of_ble_eq_true rfl⟩ rfl (fun r' h' E => o_X5_isDigit l base D cA x3 h r' h' E) E (fun x4 h5 E => ?_)
        refine g_if_eq C 68 dX5_toProgram_52 (by decide) E (fun E => ?_) (fun E => ?_)
        · refine g_aload_n C 2 dX5_toProgram_68 rfl rfl ?_
          refine g_iload_n C 3 dX5_toProgram_69 rfl rfl ?_
          refine g_iload C 0 dX5_toProgram_70 rfl ?_
          refine g_invU C (q := (RX4, TX4, 3)) [.int v2, .int x3] dX5_toProgram_72 cl_X5_43 cv_X4_putKind rfl (by decide) rfl rfl ⟨Nat.le_of_ble_eq_true rfl, Nat.le_of_ble_eq_true rfl⟩ (Nat.le_of_ble_eq_true rfl) ⟨Nat.le_of_ble_eq_true rfl, Nat.le_of_ble_eq_true rfl⟩ rfl (fun r' h' E => o_X4_putKind l base D cA v1 v2 x3 h5 r' h' E) E (fun x6 h7 E => ?_)
          refine g_iinc C (lv' := [(3, .int (v3 + 1)), (4, .int x3), (0, .ref (base + v0)), (1, .ref (base + v1)), (2, .int v2)]) 4 1 dX5_toProgram_75 rfl rfl (by decide) rfl ?_
          refine g_goto C 18 dX5_toProgram_78 (by decide) ?_
          refine g_sub (lv' := [(0, .ref (base + v0)), (1, .ref (base + v1)), (2, .int v2), (3, .int (v3 + 1))]) [2, 3, 4, 0] rfl ?_
          exact ih v0 v1 v2 (v3 + 1) h7 E
        · refine g_aload_n C 2 dX5_toProgram_55 rfl rfl ?_
          refine g_iload_n C 3 dX5_toProgram_56 rfl rfl ?_
          refine g_iload C 0 dX5_toProgram_57 rfl ?_
          refine g_bipush C 48 dX5_toProgram_59 rfl ?_
          refine g_isub C dX5_toProgram_61 ?_
          refine g_invU C (q := (RX4, TX4, 3)) [.int v2, .int (x3 - 48)] dX5_toProgram_62 cl_X5_39 cv_X4_putDigit rfl (by decide) rfl rfl ⟨Nat.le_of_ble_eq_true rfl, Nat.le_of_ble_eq_true rfl⟩ (Nat.le_of_ble_eq_true rfl) ⟨Nat.le_of_ble_eq_true rfl, Nat.le_of_ble_eq_true rfl⟩ rfl (fun r' h' E => o_X4_putDigit l base D cA v1 v2 (x3 - 48) h5 r' h' E) E (fun x8 h9 E => ?_)
          refine g_goto C 75 dX5_toProgram_65 (by decide) ?_
          refine g_iinc C (lv' := [(3, .int (v3 + 1)), (4, .int x3), (0, .ref (base + v0)), (1, .ref (base + v1)), (2, .int v2)]) 4 1 dX5_toProgram_75 rfl rfl (by decide) rfl ?_
          refine g_goto C 18 dX5_toProgram_78 (by decide) ?_
          refine g_sub (lv' := [(0, .ref (base + v0)), (1, .ref (base + v1)), (2, .int v2), (3, .int (v3 + 1))]) [2, 3, 4, 0] rfl ?_
          exact ih v0 v1 v2 (v3 + 1) h9 E
      · refine g_iinc C (lv' := [(2, .int (v2 + 1)), (4, .int x3), (0, .ref (base + v0)), (1, .ref (base + v1)), (3, .int v3)]) 3 1 dX5_toProgram_41 rfl rfl (by decide) rfl ?_
        refine g_goto C 75 dX5_toProgram_44 (by decide) ?_
        refine g_iinc C (lv' := [(3, .int (v3 + 1)), (2, .int (v2 + 1)), (4, .int x3), (0, .ref (base + v0)), (1, .ref (base + v1))]) 4 1 dX5_toProgram_75 rfl rfl (by decide) rfl ?_
        refine g_goto C 18 dX5_toProgram_78 (by decide) ?_
        refine g_sub (lv' := [(0, .ref (base + v0)), (1, .ref (base + v1)), (2, .int (v2 + 1)), (3, .int (v3 + 1))]) [3, 4, 1, 0] rfl ?_
        exact ih v0 v1 (v2 + 1) (v3 + 1) h E
set_option maxRecDepth 100000 in
set_option maxHeartbeats 4000000 in
theorem o_X5_toProgram (l : Launch) (base : Nat) (D : va_G) (cA : Nat → ClassId) (a0 : Nat) (h : Hp) (r : Nat) (h' : Hp) (E : s_X5_toProgram a0 h = some (r, h')) : Met l yX5_toProgram (.code yX5_toProgram cX5_toProgram 5 (some (.object "HaggleWash$Program")) :: wsA) rm_X5_toProgram (PcG base D cA [.ref (base + a0)] h) (QcR base D cA r h') 3 131 (AA base) := by
  refine g_met [.ref (base + a0)] (by decide) (Nat.le_of_ble_eq_true rfl) (fun p e s m args below meth c C hr hn => ?_)
  refine g_lv (lv' := [(0, .ref (base + a0))]) rfl ?_
  unfold s_X5_toProgram at E
  refine g_new C tyX4 tyX4_ok rfl (by decide) rfl inX4 (in_wsA 677 (by decide +kernel) rfl) (in_wsA 37 (by decide +kernel) rfl) (in_wsA 10 (by decide +kernel) rfl) (df_X4 base) (Nat.le_of_ble_eq_true rfl) (Nat.le_of_ble_eq_true rfl) dX5_toProgram_0 E (fun x1 h2 E => ?_)
  refine g_dup C dX5_toProgram_3 rfl ?_
  refine g_aload_n C 0 dX5_toProgram_4 rfl rfl ?_
  refine g_invI C (q := (RX5, TX5, 2)) [] dX5_toProgram_5 cl_X5_32 cv_X5_separators rfl (by decide) rfl rfl ⟨Nat.le_of_ble_eq_true rfl, Nat.le_of_ble_eq_true rfl⟩ (Nat.le_of_ble_eq_true rfl) ⟨Nat.le_of_ble_eq_true rfl, Nat.le_of_ble_eq_true rfl⟩ rfl (fun r' h' E => o_X5_separators l base D cA a0 h2 r' h' E) E (fun x3 h4 E => ?_)
  refine g_iconst C 1 dX5_toProgram_8 rfl ?_
  refine g_iadd C dX5_toProgram_9 ?_
  refine g_ini C [.int (x3 + 1)] dX5_toProgram_10 cl_X5_36 ci_X4_init rfl rfl ⟨Nat.le_of_ble_eq_true rfl, Nat.le_of_ble_eq_true rfl⟩ (Nat.le_of_ble_eq_true rfl) ⟨Nat.le_of_ble_eq_true rfl, Nat.le_of_ble_eq_true rfl⟩ rfl (fun r' h' E => o_X4_init l base D cA x1 (x3 + 1) h4 r' h' E) E (fun x5 h6 E => ?_)
  refine g_astore_n C (lv' := [(1, .ref (base + x1)), (0, .ref (base + a0))]) dX5_toProgram_13 rfl (by decide) rfl ?_
  refine g_iconst C 0 dX5_toProgram_14 rfl ?_
  refine g_istore_n C (lv' := [(2, .int 0), (1, .ref (base + x1)), (0, .ref (base + a0))]) dX5_toProgram_15 rfl (by decide) rfl ?_
  refine g_iconst C 0 dX5_toProgram_16 rfl ?_
  refine g_istore_n C (lv' := [(3, .int 0), (2, .int 0), (1, .ref (base + x1)), (0, .ref (base + a0))]) dX5_toProgram_17 rfl (by decide) rfl ?_
  refine g_sub (lv' := [(0, .ref (base + a0)), (1, .ref (base + x1)), (2, .int 0), (3, .int 0)]) [3, 2, 1, 0] rfl ?_
  exact o_X5_toProgram_L18 C hr _ a0 x1 0 0 h6 E
abbrev rm_X6_hasHouse : Room := { frames := 1, cells := 0, slots := 0, locals := 22 }
def s_X6_hasHouse (a0 : Nat) (a1 : Int32) (h : Hp) : Rv Int32 :=
  getI h a0 6 3 fun x1 =>
  bnd (s_X8_isWithin a1 0 (x1 - 1) h) fun x2 h =>
  retZ x2 h
set_option maxRecDepth 100000 in
set_option maxHeartbeats 4000000 in
theorem o_X6_hasHouse (l : Launch) (base : Nat) (D : va_G) (cA : Nat → ClassId) (a0 : Nat) (a1 : Int32) (h : Hp) (r : Int32) (h' : Hp) (E : s_X6_hasHouse a0 a1 h = some (r, h')) : Met l yX6_hasHouse (.code yX6_hasHouse cX6_hasHouse 2 (some .boolean) :: wsA) rm_X6_hasHouse (PcG base D cA [.ref (base + a0), .int a1] h) (QcI base D cA r h') 0 0 (AA base) := by
  refine g_met [.ref (base + a0), .int a1] (by decide) (Nat.le_of_ble_eq_true rfl) (fun p e s m args below meth c C hr hn => ?_)
  refine g_lv (lv' := [(0, .ref (base + a0)), (1, .int a1)]) rfl ?_
  unfold s_X6_hasHouse at E
  refine g_iload_n C 1 dX6_hasHouse_0 rfl rfl ?_
  refine g_iconst C 0 dX6_hasHouse_1 rfl ?_
  refine g_aload_n C 0 dX6_hasHouse_2 rfl rfl ?_
  refine g_getI C dX6_hasHouse_3 fl_X6_27 (by decide) (by decide) E (fun x1 E => ?_)
  refine g_iconst C 1 dX6_hasHouse_6 rfl ?_
  refine g_isub C dX6_hasHouse_7 ?_
  refine g_nstI C [.int a1, .int 0, .int (x1 - 1)] dX6_hasHouse_8 C.2.2.2.2.2.2.2.2.2.2.2.1 cn_X8_isWithin cs_X8_isWithin rfl ⟨Nat.le_of_ble_eq_true rfl, Nat.le_of_ble_eq_true rfl⟩ (Nat.le_of_ble_eq_true rfl) ⟨Nat.le_of_ble_eq_true rfl, Nat.le_of_ble_eq_true rfl⟩ rfl (fun r' h' E => o_X8_isWithin l base D cA a1 0 (x1 - 1) h r' h' E) E (fun x2 h3 E => ?_)
  exact g_zret C dX6_hasHouse_11 hr E
abbrev rm_X6_washerOf : Room := { frames := 0, cells := 0, slots := 0, locals := 0 }
def s_X6_washerOf (a0 : Nat) (a1 : Int32) (h : Hp) : Rv Nat :=
  getR h a0 6 1 fun x1 =>
  ldR h x1 22 a1 fun x2 =>
  getR h x2 2 0 fun x3 =>
  retR x3 h
set_option maxRecDepth 100000 in
set_option maxHeartbeats 4000000 in
theorem o_X6_washerOf (l : Launch) (base : Nat) (D : va_G) (cA : Nat → ClassId) (a0 : Nat) (a1 : Int32) (h : Hp) (r : Nat) (h' : Hp) (E : s_X6_washerOf a0 a1 h = some (r, h')) : Met l yX6_washerOf (.code yX6_washerOf cX6_washerOf 2 (some (.object "HaggleWash$Washer")) :: wsA) rm_X6_washerOf (PcG base D cA [.ref (base + a0), .int a1] h) (QcR base D cA r h') 0 0 (AA base) := by
  refine g_met [.ref (base + a0), .int a1] (by decide) (Nat.le_of_ble_eq_true rfl) (fun p e s m args below meth c C hr hn => ?_)
  refine g_lv (lv' := [(0, .ref (base + a0)), (1, .int a1)]) rfl ?_
  unfold s_X6_washerOf at E
  refine g_aload_n C 0 dX6_washerOf_0 rfl rfl ?_
  refine g_getR C dX6_washerOf_1 fl_X6_17 rfl E (fun x1 E => ?_)
  refine g_iload_n C 1 dX6_washerOf_4 rfl rfl ?_
  refine g_aald C 2 (by decide) (by decide) rfl dX6_washerOf_5 E (fun x2 E => ?_)
  refine g_getR C dX6_washerOf_6 fl_X6_73 rfl E (fun x3 E => ?_)
  exact g_aret C dX6_washerOf_9 hr E
abbrev rm_X6_settle : Room := { frames := 0, cells := 0, slots := 0, locals := 0 }
def s_X6_settle (a0 : Nat) (a1 : Int32) (a2 : Int32) (a3 : Int32) (h : Hp) : Rv Int32 :=
  getR h a0 6 1 fun x1 =>
  getI h a0 6 3 fun x2 =>
  ldR h x1 22 x2 fun x3 =>
  putI h x3 2 1 a1 fun h =>
  putI h x3 2 2 a2 fun h =>
  putI h x3 2 3 a3 fun h =>
  getI h a0 6 3 fun x4 =>
  putI h a0 6 3 (x4 + 1) fun h =>
  getI h a0 6 3 fun x5 =>
  retI (x5 - 1) h
set_option maxRecDepth 100000 in
set_option maxHeartbeats 4000000 in
theorem o_X6_settle (l : Launch) (base : Nat) (D : va_G) (cA : Nat → ClassId) (a0 : Nat) (a1 : Int32) (a2 : Int32) (a3 : Int32) (h : Hp) (r : Int32) (h' : Hp) (E : s_X6_settle a0 a1 a2 a3 h = some (r, h')) : Met l yX6_settle (.code yX6_settle cX6_settle 5 (some .int) :: wsA) rm_X6_settle (PcG base D cA [.ref (base + a0), .int a1, .int a2, .int a3] h) (QcI base D cA r h') 0 0 (AA base) := by
  refine g_met [.ref (base + a0), .int a1, .int a2, .int a3] (by decide) (Nat.le_of_ble_eq_true rfl) (fun p e s m args below meth c C hr hn => ?_)
  refine g_lv (lv' := [(0, .ref (base + a0)), (1, .int a1), (2, .int a2), (3, .int a3)]) rfl ?_
  unfold s_X6_settle at E
  refine g_aload_n C 0 dX6_settle_0 rfl rfl ?_
  refine g_getR C dX6_settle_1 fl_X6_17 rfl E (fun x1 E => ?_)
  refine g_aload_n C 0 dX6_settle_4 rfl rfl ?_
  refine g_getI C dX6_settle_5 fl_X6_27 (by decide) (by decide) E (fun x2 E => ?_)
  refine g_aald C 2 (by decide) (by decide) rfl dX6_settle_8 E (fun x3 E => ?_)
  refine g_astore C (lv' := [(4, .ref (base + x3)), (0, .ref (base + a0)), (1, .int a1), (2, .int a2), (3, .int a3)]) dX6_settle_9 (by decide) rfl ?_
  refine g_aload C 0 dX6_settle_11 rfl ?_
  refine g_iload_n C 2 dX6_settle_13 rfl rfl ?_
  refine g_putI C false dX6_settle_14 fl_X6_77 fp_X6_2_1 (fun q => Bool.noConfusion q) rfl E (fun h4 E => ?_)
  refine g_aload C 0 dX6_settle_17 rfl ?_
  refine g_iload_n C 3 dX6_settle_19 rfl rfl ?_
  refine g_putI C false dX6_settle_20 fl_X6_80 fp_X6_2_2 (fun q => Bool.noConfusion q) rfl E (fun h5 E => ?_)
  refine g_aload C 0 dX6_settle_23 rfl ?_
  refine g_iload_n C 4 dX6_settle_25 rfl rfl ?_
  refine g_putI C false dX6_settle_26 fl_X6_83 fp_X6_2_3 (fun q => Bool.noConfusion q) rfl E (fun h6 E => ?_)
  refine g_aload_n C 1 dX6_settle_29 rfl rfl ?_
  refine g_dup C dX6_settle_30 rfl ?_
  refine g_getI C dX6_settle_31 fl_X6_27 (by decide) (by decide) E (fun x7 E => ?_)
  refine g_iconst C 1 dX6_settle_34 rfl ?_
  refine g_iadd C dX6_settle_35 ?_
  refine g_putI C false dX6_settle_36 fl_X6_27 fp_X6_6_3 (fun q => Bool.noConfusion q) rfl E (fun h8 E => ?_)
  refine g_aload_n C 1 dX6_settle_39 rfl rfl ?_
  refine g_getI C dX6_settle_40 fl_X6_27 (by decide) (by decide) E (fun x9 E => ?_)
  refine g_iconst C 1 dX6_settle_43 rfl ?_
  refine g_isub C dX6_settle_44 ?_
  exact g_iret C dX6_settle_45 hr E
abbrev rm_X7_spinAnew : Room := { frames := 2, cells := 0, slots := 0, locals := 42 }
def s_X7_spinAnew (a0 : Nat) (h : Hp) : Rv Unit :=
  getI h a0 7 1 fun x1 =>
  if x1 = 1 then getR h a0 7 0 fun x2 =>
  getI h a0 7 3 fun x3 =>
  inv h x2 4 (s_X4_kindOf x2 x3 h) fun x4 h =>
  if x4 = 115 then putI h a0 7 4 0 fun h =>
  retU h
  else retU h
  else retU h
set_option maxRecDepth 100000 in
set_option maxHeartbeats 4000000 in
theorem o_X7_spinAnew (l : Launch) (base : Nat) (D : va_G) (cA : Nat → ClassId) (a0 : Nat) (h : Hp) (r : Unit) (h' : Hp) (E : s_X7_spinAnew a0 h = some (r, h')) : Met l yX7_spinAnew (.code yX7_spinAnew cX7_spinAnew 1 none :: wsA) rm_X7_spinAnew (PcG base D cA [.ref (base + a0)] h) (QcU base D cA h') 0 0 (AA base) := by
  refine g_met [.ref (base + a0)] (by decide) (Nat.le_of_ble_eq_true rfl) (fun p e s m args below meth c C hr hn => ?_)
  refine g_lv (lv' := [(0, .ref (base + a0))]) rfl ?_
  unfold s_X7_spinAnew at E
  refine g_aload_n C 0 dX7_spinAnew_0 rfl rfl ?_
  refine g_getI C dX7_spinAnew_1 fl_X7_9 (by decide) (by decide) E (fun x1 E => ?_)
  refine g_iconst C 1 dX7_spinAnew_4 rfl ?_
  refine g_icmp_ne C 29 dX7_spinAnew_5 (by decide) E (fun E => ?_) (fun E => ?_)
  · exact g_vret C dX7_spinAnew_29 hr E
  · refine g_aload_n C 0 dX7_spinAnew_8 rfl rfl ?_
    refine g_getR C dX7_spinAnew_9 fl_X7_34 rfl E (fun x2 E => ?_)
    refine g_aload_n C 0 dX7_spinAnew_12 rfl rfl ?_
    refine g_getI C dX7_spinAnew_13 fl_X7_18 (by decide) (by decide) E (fun x3 E => ?_)
    refine g_invI C (q := (RX4, TX4, 3)) [.int x3] dX7_spinAnew_16 cl_X7_45 cv_X4_kindOf rfl (by decide) rfl rfl ⟨Nat.le_of_ble_eq_true rfl, Nat.le_of_ble_eq_true rfl⟩ (Nat.le_of_ble_eq_true rfl) ⟨Nat.le_of_ble_eq_true rfl, Nat.le_of_ble_eq_true rfl⟩ rfl (fun r' h' E => o_X4_kindOf l base D cA x2 x3 h r' h' E) E (fun x4 h5 E => ?_)
    refine g_bipush C 115 dX7_spinAnew_19 rfl ?_
    refine g_icmp_ne C 29 dX7_spinAnew_21 (by decide) E (fun E => ?_) (fun E => ?_)
    · exact g_vret C dX7_spinAnew_29 hr E
    · refine g_aload_n C 0 dX7_spinAnew_24 rfl rfl ?_
      refine g_iconst C 0 dX7_spinAnew_25 rfl ?_
      refine g_putI C false dX7_spinAnew_26 fl_X7_21 fp_X7_7_4 (fun q => Bool.noConfusion q) rfl E (fun h6 E => ?_)
      exact g_vret C dX7_spinAnew_29 hr E
abbrev rm_X6_switchPower : Room := { frames := 3, cells := 0, slots := 0, locals := 62 }
def s_X6_switchPower_L7 : Nat → Nat → Int32 → Int32 → Hp → Rv Unit
  | 0, _, _, _, _ => none
  | n + 1, v0, v1, v2, h =>
    if v1 = 0 then retU h
  else getI h v0 6 3 fun x1 =>
  if x1 ≤ v2 then retU h
  else inv h v0 6 (s_X6_washerOf v0 v2 h) fun x2 h =>
  inv h x2 7 (s_X7_spinAnew x2 h) fun _ h =>
  s_X6_switchPower_L7 n v0 v1 (v2 + 1) h
def s_X6_switchPower (a0 : Nat) (a1 : Int32) (h : Hp) : Rv Unit :=
  putZ h a0 6 7 a1 fun h =>
  s_X6_switchPower_L7 100000 a0 a1 0 h
set_option maxRecDepth 100000 in
set_option maxHeartbeats 4000000 in
theorem o_X6_switchPower_L7 {l : Launch} {base : Nat} {D : va_G} {cA : Nat → ClassId} {p : Program} {e : Env} {s : State} {m : MethodId} {args : Array Value} {below : List Frame} {meth : Method} {c : Code} (C : GC base D cA p s m args meth c cX6_switchPower 3 RX6) (hr : meth.sig.returnType = none) {X : Unit × Hp} : ∀ (n : Nat) (v0 : Nat) (v1 : Int32) (v2 : Int32) (h : Hp), s_X6_switchPower_L7 n v0 v1 v2 h = some X → GW base D cA p l e rm_X6_switchPower s m args below meth c (MQ below (QcU base D cA X.2) args s 0 0 (AA base)) 3 h 0 0 7 [(0, .ref (base + v0)), (1, .int v1), (2, .int v2)] [] := by
  intro n
  induction n with
  | zero =>
    intro v0 v1 v2 h E
    rw [s_X6_switchPower_L7] at E
    cases E
  | succ n ih =>
    intro v0 v1 v2 h E
    rw [s_X6_switchPower_L7] at E
    refine g_iload_n C 1 dX6_switchPower_7 rfl rfl ?_
    refine g_if_eq C 33 dX6_switchPower_8 (by decide) E (fun E => ?_) (fun E => ?_)
    · exact g_vret C dX6_switchPower_33 hr E
    · refine g_iload_n C 2 dX6_switchPower_11 rfl rfl ?_
      refine g_aload_n C 0 dX6_switchPower_12 rfl rfl ?_
      refine g_getI C dX6_switchPower_13 fl_X6_27 (by decide) (by decide) E (fun x1 E => ?_)
      refine g_icmp_ge C 33 dX6_switchPower_16 (by decide) E (fun E => ?_) (fun E => ?_)
      · exact g_vret C dX6_switchPower_33 hr E
      · refine g_aload_n C 0 dX6_switchPower_19 rfl rfl ?_
        refine g_iload_n C 2 dX6_switchPower_20 rfl rfl ?_
        refine g_invR C (q := (RX6, TX6, 11)) [.int v2] dX6_switchPower_21 cl_X6_86 cv_X6_washerOf rfl (by decide) rfl rfl ⟨Nat.le_of_ble_eq_true rfl, Nat.le_of_ble_eq_true rfl⟩ (Nat.le_of_ble_eq_true rfl) ⟨Nat.le_of_ble_eq_true rfl, Nat.le_of_ble_eq_true rfl⟩ rfl (fun r' h' E => o_X6_washerOf l base D cA v0 v2 h r' h' E) E (fun x2 h3 E => ?_)
        refine g_invU C (q := (RX7, TX7, 8)) [] dX6_switchPower_24 cl_X6_90 cv_X7_spinAnew rfl (by decide) rfl rfl ⟨Nat.le_of_ble_eq_true rfl, Nat.le_of_ble_eq_true rfl⟩ (Nat.le_of_ble_eq_true rfl) ⟨Nat.le_of_ble_eq_true rfl, Nat.le_of_ble_eq_true rfl⟩ rfl (fun r' h' E => o_X7_spinAnew l base D cA x2 h3 r' h' E) E (fun x4 h5 E => ?_)
        refine g_iinc C (lv' := [(2, .int (v2 + 1)), (0, .ref (base + v0)), (1, .int v1)]) 2 1 dX6_switchPower_27 rfl rfl (by decide) rfl ?_
        refine g_goto C 7 dX6_switchPower_30 (by decide) ?_
        refine g_sub (lv' := [(0, .ref (base + v0)), (1, .int v1), (2, .int (v2 + 1))]) [1, 2, 0] rfl ?_
        exact ih v0 v1 (v2 + 1) h5 E
set_option maxRecDepth 100000 in
set_option maxHeartbeats 4000000 in
theorem o_X6_switchPower (l : Launch) (base : Nat) (D : va_G) (cA : Nat → ClassId) (a0 : Nat) (a1 : Int32) (h : Hp) (r : Unit) (h' : Hp) (E : s_X6_switchPower a0 a1 h = some (r, h')) : Met l yX6_switchPower (.code yX6_switchPower cX6_switchPower 3 none :: wsA) rm_X6_switchPower (PcG base D cA [.ref (base + a0), .int a1] h) (QcU base D cA h') 0 0 (AA base) := by
  refine g_met [.ref (base + a0), .int a1] (by decide) (Nat.le_of_ble_eq_true rfl) (fun p e s m args below meth c C hr hn => ?_)
  refine g_lv (lv' := [(0, .ref (base + a0)), (1, .int a1)]) rfl ?_
  unfold s_X6_switchPower at E
  refine g_aload_n C 0 dX6_switchPower_0 rfl rfl ?_
  refine g_iload_n C 1 dX6_switchPower_1 rfl rfl ?_
  refine g_putZ C false dX6_switchPower_2 fl_X6_40 fp_X6_6_7 (fun q => Bool.noConfusion q) rfl E (fun h1 E => ?_)
  refine g_iconst C 0 dX6_switchPower_5 rfl ?_
  refine g_istore_n C (lv' := [(2, .int 0), (0, .ref (base + a0)), (1, .int a1)]) dX6_switchPower_6 rfl (by decide) rfl ?_
  refine g_sub (lv' := [(0, .ref (base + a0)), (1, .int a1), (2, .int 0)]) [1, 2, 0] rfl ?_
  exact o_X6_switchPower_L7 C hr _ a0 a1 0 h1 E
abbrev rm_X7_temperature : Room := { frames := 0, cells := 0, slots := 0, locals := 0 }
def s_X7_temperature (a0 : Nat) (h : Hp) : Rv Int32 :=
  getI h a0 7 5 fun x1 =>
  if x1 ≤ 0 then retI 15 h
  else getL h a0 7 6 fun x2 =>
  getI h a0 7 5 fun x3 =>
  divL x2 (4 * x3.toInt64) fun x4 =>
  retI x4.toInt32 h
set_option maxRecDepth 100000 in
set_option maxHeartbeats 4000000 in
theorem o_X7_temperature (l : Launch) (base : Nat) (D : va_G) (cA : Nat → ClassId) (a0 : Nat) (h : Hp) (r : Int32) (h' : Hp) (E : s_X7_temperature a0 h = some (r, h')) : Met l yX7_temperature (.code yX7_temperature cX7_temperature 1 (some .int) :: wsA) rm_X7_temperature (PcG base D cA [.ref (base + a0)] h) (QcI base D cA r h') 0 0 (AA base) := by
  refine g_met [.ref (base + a0)] (by decide) (Nat.le_of_ble_eq_true rfl) (fun p e s m args below meth c C hr hn => ?_)
  refine g_lv (lv' := [(0, .ref (base + a0))]) rfl ?_
  unfold s_X7_temperature at E
  refine g_aload_n C 0 dX7_temperature_0 rfl rfl ?_
  refine g_getI C dX7_temperature_1 fl_X7_24 (by decide) (by decide) E (fun x1 E => ?_)
  refine g_if_le C 25 dX7_temperature_4 (by decide) E (fun E => ?_) (fun E => ?_)
  · refine g_bipush C 15 dX7_temperature_25 rfl ?_
    exact g_iret C dX7_temperature_27 hr E
  · refine g_aload_n C 0 dX7_temperature_7 rfl rfl ?_
    refine g_getL C dX7_temperature_8 fl_X7_27 rfl E (fun x2 E => ?_)
    refine g_ldc2 C 4 dX7_temperature_11 (in_wsA 340 (by decide +kernel) rfl) ?_
    refine g_aload_n C 0 dX7_temperature_14 rfl rfl ?_
    refine g_getI C dX7_temperature_15 fl_X7_24 (by decide) (by decide) E (fun x3 E => ?_)
    refine g_i2l C dX7_temperature_18 ?_
    refine g_lmul C dX7_temperature_19 ?_
    refine g_ldiv C dX7_temperature_20 E (fun x4 E => ?_)
    refine g_l2i C dX7_temperature_21 ?_
    refine g_goto C 27 dX7_temperature_22 (by decide) ?_
    exact g_iret C dX7_temperature_27 hr E
abbrev rm_X6_hasUnlockedAbove : Room := { frames := 1, cells := 0, slots := 0, locals := 21 }
def s_X6_hasUnlockedAbove_L2 : Nat → Nat → Int32 → Int32 → Hp → Rv Int32
  | 0, _, _, _, _ => none
  | n + 1, v0, v1, v2, h =>
    getI h v0 6 3 fun x1 =>
  if x1 ≤ v2 then retZ 0 h
  else inv h v0 6 (s_X6_washerOf v0 v2 h) fun x2 h =>
  getI h x2 7 2 fun x3 =>
  if x3 = 2 then s_X6_hasUnlockedAbove_L2 n v0 v1 (v2 + 1) h
  else inv h v0 6 (s_X6_washerOf v0 v2 h) fun x4 h =>
  inv h x4 7 (s_X7_temperature x4 h) fun x5 h =>
  if x5 ≤ v1 then s_X6_hasUnlockedAbove_L2 n v0 v1 (v2 + 1) h
  else retZ 1 h
def s_X6_hasUnlockedAbove (a0 : Nat) (a1 : Int32) (h : Hp) : Rv Int32 :=
  s_X6_hasUnlockedAbove_L2 100000 a0 a1 0 h
set_option maxRecDepth 100000 in
set_option maxHeartbeats 4000000 in
theorem o_X6_hasUnlockedAbove_L2 {l : Launch} {base : Nat} {D : va_G} {cA : Nat → ClassId} {p : Program} {e : Env} {s : State} {m : MethodId} {args : Array Value} {below : List Frame} {meth : Method} {c : Code} (C : GC base D cA p s m args meth c cX6_hasUnlockedAbove 3 RX6) (hr : meth.sig.returnType = (some .boolean)) {X : Int32 × Hp} : ∀ (n : Nat) (v0 : Nat) (v1 : Int32) (v2 : Int32) (h : Hp), s_X6_hasUnlockedAbove_L2 n v0 v1 v2 h = some X → GW base D cA p l e rm_X6_hasUnlockedAbove s m args below meth c (MQ below (QcI base D cA X.1 X.2) args s 0 0 (AA base)) 3 h 0 0 2 [(0, .ref (base + v0)), (1, .int v1), (2, .int v2)] [] := by
  intro n
  induction n with
  | zero =>
    intro v0 v1 v2 h E
    rw [s_X6_hasUnlockedAbove_L2] at E
    cases E
  | succ n ih =>
    intro v0 v1 v2 h E
    rw [s_X6_hasUnlockedAbove_L2] at E
    refine g_iload_n C 2 dX6_hasUnlockedAbove_2 rfl rfl ?_
    refine g_aload_n C 0 dX6_hasUnlockedAbove_3 rfl rfl ?_
    refine g_getI C dX6_hasUnlockedAbove_4 fl_X6_27 (by decide) (by decide) E (fun x1 E => ?_)
    refine g_icmp_ge C 42 dX6_hasUnlockedAbove_7 (by decide) E (fun E => ?_) (fun E => ?_)
    · refine g_iconst C 0 dX6_hasUnlockedAbove_42 rfl ?_
      exact g_zret C dX6_hasUnlockedAbove_43 hr E
    · refine g_aload_n C 0 dX6_hasUnlockedAbove_10 rfl rfl ?_
      refine g_iload_n C 2 dX6_hasUnlockedAbove_11 rfl rfl ?_
      refine g_invR C (q := (RX6, TX6, 11)) [.int v2] dX6_hasUnlockedAbove_12 cl_X6_86 cv_X6_washerOf rfl (by decide) rfl rfl ⟨Nat.le_of_ble_eq_true rfl, Nat.le_of_ble_eq_true rfl⟩ (Nat.le_of_ble_eq_true rfl) ⟨Nat.le_of_ble_eq_true rfl, Nat.le_of_ble_eq_true rfl⟩ rfl (fun r' h' E => o_X6_washerOf l base D cA v0 v2 h r' h' E) E (fun x2 h3 E => ?_)
      refine g_getI C dX6_hasUnlockedAbove_15 fl_X6_95 (by decide) (by decide) E (fun x4 E => ?_)
      refine g_iconst C 2 dX6_hasUnlockedAbove_18 rfl ?_
      refine g_icmp_eq C 36 dX6_hasUnlockedAbove_19 (by decide) E (fun E => ?_) (fun E => ?_)
      · refine g_iinc C (lv' := [(2, .int (v2 + 1)), (0, .ref (base + v0)), (1, .int v1)]) 2 1 dX6_hasUnlockedAbove_36 rfl rfl (by decide) rfl ?_
        refine g_goto C 2 dX6_hasUnlockedAbove_39 (by decide) ?_
        refine g_sub (lv' := [(0, .ref (base + v0)), (1, .int v1), (2, .int (v2 + 1))]) [1, 2, 0] rfl ?_
        exact ih v0 v1 (v2 + 1) h3 E
      · refine g_aload_n C 0 dX6_hasUnlockedAbove_22 rfl rfl ?_
        refine g_iload_n C 2 dX6_hasUnlockedAbove_23 rfl rfl ?_
        refine g_invR C (q := (RX6, TX6, 11)) [.int v2] dX6_hasUnlockedAbove_24 cl_X6_86 cv_X6_washerOf rfl (by decide) rfl rfl ⟨Nat.le_of_ble_eq_true rfl, Nat.le_of_ble_eq_true rfl⟩ (Nat.le_of_ble_eq_true rfl) ⟨Nat.le_of_ble_eq_true rfl, Nat.le_of_ble_eq_true rfl⟩ rfl (fun r' h' E => o_X6_washerOf l base D cA v0 v2 h3 r' h' E) E (fun x5 h6 E => ?_)
        refine g_invI C (q := (RX7, TX7, 8)) [] dX6_hasUnlockedAbove_27 cl_X6_98 cv_X7_temperature rfl (by decide) rfl rfl ⟨Nat.le_of_ble_eq_true rfl, Nat.le_of_ble_eq_true rfl⟩ (Nat.le_of_ble_eq_true rfl) ⟨Nat.le_of_ble_eq_true rfl, Nat.le_of_ble_eq_true rfl⟩ rfl (fun r' h' E => o_X7_temperature l base D cA x5 h6 r' h' E) E (fun x7 h8 E => ?_)
        refine g_iload_n C 1 dX6_hasUnlockedAbove_30 rfl rfl ?_
        refine g_icmp_le C 36 dX6_hasUnlockedAbove_31 (by decide) E (fun E => ?_) (fun E => ?_)
        · refine g_iinc C (lv' := [(2, .int (v2 + 1)), (0, .ref (base + v0)), (1, .int v1)]) 2 1 dX6_hasUnlockedAbove_36 rfl rfl (by decide) rfl ?_
          refine g_goto C 2 dX6_hasUnlockedAbove_39 (by decide) ?_
          refine g_sub (lv' := [(0, .ref (base + v0)), (1, .int v1), (2, .int (v2 + 1))]) [1, 2, 0] rfl ?_
          exact ih v0 v1 (v2 + 1) h8 E
        · refine g_iconst C 1 dX6_hasUnlockedAbove_34 rfl ?_
          exact g_zret C dX6_hasUnlockedAbove_35 hr E
set_option maxRecDepth 100000 in
set_option maxHeartbeats 4000000 in
theorem o_X6_hasUnlockedAbove (l : Launch) (base : Nat) (D : va_G) (cA : Nat → ClassId) (a0 : Nat) (a1 : Int32) (h : Hp) (r : Int32) (h' : Hp) (E : s_X6_hasUnlockedAbove a0 a1 h = some (r, h')) : Met l yX6_hasUnlockedAbove (.code yX6_hasUnlockedAbove cX6_hasUnlockedAbove 3 (some .boolean) :: wsA) rm_X6_hasUnlockedAbove (PcG base D cA [.ref (base + a0), .int a1] h) (QcI base D cA r h') 0 0 (AA base) := by
  refine g_met [.ref (base + a0), .int a1] (by decide) (Nat.le_of_ble_eq_true rfl) (fun p e s m args below meth c C hr hn => ?_)
  refine g_lv (lv' := [(0, .ref (base + a0)), (1, .int a1)]) rfl ?_
  unfold s_X6_hasUnlockedAbove at E
  refine g_iconst C 0 dX6_hasUnlockedAbove_0 rfl ?_
  refine g_istore_n C (lv' := [(2, .int 0), (0, .ref (base + a0)), (1, .int a1)]) dX6_hasUnlockedAbove_1 rfl (by decide) rfl ?_
  refine g_sub (lv' := [(0, .ref (base + a0)), (1, .int a1), (2, .int 0)]) [1, 2, 0] rfl ?_
  exact o_X6_hasUnlockedAbove_L2 C hr _ a0 a1 0 h E
abbrev rm_X6_lentOf : Room := { frames := 0, cells := 0, slots := 0, locals := 0 }
def s_X6_lentOf_L4 : Nat → Nat → Int32 → Int32 → Int32 → Hp → Rv Int32
  | 0, _, _, _, _, _ => none
  | n + 1, v0, v1, v2, v3, h =>
    getI h v0 6 4 fun x1 =>
  if x1 ≤ v3 then retI v2 h
  else getR h v0 6 2 fun x2 =>
  ldR h x2 23 v3 fun x3 =>
  getI h x3 3 0 fun x4 =>
  if x4 = v1 then getR h v0 6 2 fun x5 =>
  ldR h x5 23 v3 fun x6 =>
  getI h x6 3 2 fun x7 =>
  s_X6_lentOf_L4 n v0 v1 (v2 + x7) (v3 + 1) h
  else s_X6_lentOf_L4 n v0 v1 (v2 + 0) (v3 + 1) h
def s_X6_lentOf (a0 : Nat) (a1 : Int32) (h : Hp) : Rv Int32 :=
  s_X6_lentOf_L4 100000 a0 a1 0 0 h
set_option maxRecDepth 100000 in
set_option maxHeartbeats 4000000 in
theorem o_X6_lentOf_L4 {l : Launch} {base : Nat} {D : va_G} {cA : Nat → ClassId} {p : Program} {e : Env} {s : State} {m : MethodId} {args : Array Value} {below : List Frame} {meth : Method} {c : Code} (C : GC base D cA p s m args meth c cX6_lentOf 4 RX6) (hr : meth.sig.returnType = (some .int)) {X : Int32 × Hp} : ∀ (n : Nat) (v0 : Nat) (v1 : Int32) (v2 : Int32) (v3 : Int32) (h : Hp), s_X6_lentOf_L4 n v0 v1 v2 v3 h = some X → GW base D cA p l e rm_X6_lentOf s m args below meth c (MQ below (QcI base D cA X.1 X.2) args s 0 0 (AA base)) 4 h 0 0 4 [(0, .ref (base + v0)), (1, .int v1), (2, .int v2), (3, .int v3)] [] := by
  intro n
  induction n with
  | zero =>
    intro v0 v1 v2 v3 h E
    rw [s_X6_lentOf_L4] at E
    cases E
  | succ n ih =>
    intro v0 v1 v2 v3 h E
    rw [s_X6_lentOf_L4] at E
    refine g_iload_n C 3 dX6_lentOf_4 rfl rfl ?_
    refine g_aload_n C 0 dX6_lentOf_5 rfl rfl ?_
    refine g_getI C dX6_lentOf_6 fl_X6_31 (by decide) (by decide) E (fun x1 E => ?_)
    refine g_icmp_ge C 47 dX6_lentOf_9 (by decide) E (fun E => ?_) (fun E => ?_)
    · refine g_iload_n C 2 dX6_lentOf_47 rfl rfl ?_
      exact g_iret C dX6_lentOf_48 hr E
    · refine g_iload_n C 2 dX6_lentOf_12 rfl rfl ?_
      refine g_aload_n C 0 dX6_lentOf_13 rfl rfl ?_
      refine g_getR C dX6_lentOf_14 fl_X6_23 rfl E (fun x2 E => ?_)
      refine g_iload_n C 3 dX6_lentOf_17 rfl rfl ?_
      refine g_aald C 3 (by decide) (by decide) rfl dX6_lentOf_18 E (fun x3 E => ?_)
      refine g_getI C dX6_lentOf_19 fl_X6_102 (by decide) (by decide) E (fun x4 E => ?_)
      refine g_iload_n C 1 dX6_lentOf_22 rfl rfl ?_
      refine g_icmp_ne C 38 dX6_lentOf_23 (by decide) E (fun E => ?_) (fun E => ?_)
      · refine g_iconst C 0 dX6_lentOf_38 rfl ?_
        refine g_iadd C dX6_lentOf_39 ?_
        refine g_istore_n C (lv' := [(2, .int (v2 + 0)), (0, .ref (base + v0)), (1, .int v1), (3, .int v3)]) dX6_lentOf_40 rfl (by decide) rfl ?_
        refine g_iinc C (lv' := [(3, .int (v3 + 1)), (2, .int (v2 + 0)), (0, .ref (base + v0)), (1, .int v1)]) 3 1 dX6_lentOf_41 rfl rfl (by decide) rfl ?_
        refine g_goto C 4 dX6_lentOf_44 (by decide) ?_
        refine g_sub (lv' := [(0, .ref (base + v0)), (1, .int v1), (2, .int (v2 + 0)), (3, .int (v3 + 1))]) [2, 3, 1, 0] rfl ?_
        exact ih v0 v1 (v2 + 0) (v3 + 1) h E
      · refine g_aload_n C 0 dX6_lentOf_26 rfl rfl ?_
        refine g_getR C dX6_lentOf_27 fl_X6_23 rfl E (fun x5 E => ?_)
        refine g_iload_n C 3 dX6_lentOf_30 rfl rfl ?_
        refine g_aald C 3 (by decide) (by decide) rfl dX6_lentOf_31 E (fun x6 E => ?_)
        refine g_getI C dX6_lentOf_32 fl_X6_105 (by decide) (by decide) E (fun x7 E => ?_)
        refine g_goto C 39 dX6_lentOf_35 (by decide) ?_
        refine g_iadd C dX6_lentOf_39 ?_
        refine g_istore_n C (lv' := [(2, .int (v2 + x7)), (0, .ref (base + v0)), (1, .int v1), (3, .int v3)]) dX6_lentOf_40 rfl (by decide) rfl ?_
        refine g_iinc C (lv' := [(3, .int (v3 + 1)), (2, .int (v2 + x7)), (0, .ref (base + v0)), (1, .int v1)]) 3 1 dX6_lentOf_41 rfl rfl (by decide) rfl ?_
        refine g_goto C 4 dX6_lentOf_44 (by decide) ?_
        refine g_sub (lv' := [(0, .ref (base + v0)), (1, .int v1), (2, .int (v2 + x7)), (3, .int (v3 + 1))]) [2, 3, 1, 0] rfl ?_
        exact ih v0 v1 (v2 + x7) (v3 + 1) h E
set_option maxRecDepth 100000 in
set_option maxHeartbeats 4000000 in
theorem o_X6_lentOf (l : Launch) (base : Nat) (D : va_G) (cA : Nat → ClassId) (a0 : Nat) (a1 : Int32) (h : Hp) (r : Int32) (h' : Hp) (E : s_X6_lentOf a0 a1 h = some (r, h')) : Met l yX6_lentOf (.code yX6_lentOf cX6_lentOf 4 (some .int) :: wsA) rm_X6_lentOf (PcG base D cA [.ref (base + a0), .int a1] h) (QcI base D cA r h') 0 0 (AA base) := by
  refine g_met [.ref (base + a0), .int a1] (by decide) (Nat.le_of_ble_eq_true rfl) (fun p e s m args below meth c C hr hn => ?_)
  refine g_lv (lv' := [(0, .ref (base + a0)), (1, .int a1)]) rfl ?_
  unfold s_X6_lentOf at E
  refine g_iconst C 0 dX6_lentOf_0 rfl ?_
  refine g_istore_n C (lv' := [(2, .int 0), (0, .ref (base + a0)), (1, .int a1)]) dX6_lentOf_1 rfl (by decide) rfl ?_
  refine g_iconst C 0 dX6_lentOf_2 rfl ?_
  refine g_istore_n C (lv' := [(3, .int 0), (2, .int 0), (0, .ref (base + a0)), (1, .int a1)]) dX6_lentOf_3 rfl (by decide) rfl ?_
  refine g_sub (lv' := [(0, .ref (base + a0)), (1, .int a1), (2, .int 0), (3, .int 0)]) [2, 3, 1, 0] rfl ?_
  exact o_X6_lentOf_L4 C hr _ a0 a1 0 0 h E
abbrev rm_X6_unlentOf : Room := { frames := 1, cells := 0, slots := 0, locals := 23 }
def s_X6_unlentOf (a0 : Nat) (a1 : Int32) (h : Hp) : Rv Int32 :=
  getR h a0 6 1 fun x1 =>
  ldR h x1 22 a1 fun x2 =>
  getI h x2 2 1 fun x3 =>
  inv h a0 6 (s_X6_lentOf a0 a1 h) fun x4 h =>
  retI (x3 - x4) h
set_option maxRecDepth 100000 in
set_option maxHeartbeats 4000000 in
theorem o_X6_unlentOf (l : Launch) (base : Nat) (D : va_G) (cA : Nat → ClassId) (a0 : Nat) (a1 : Int32) (h : Hp) (r : Int32) (h' : Hp) (E : s_X6_unlentOf a0 a1 h = some (r, h')) : Met l yX6_unlentOf (.code yX6_unlentOf cX6_unlentOf 2 (some .int) :: wsA) rm_X6_unlentOf (PcG base D cA [.ref (base + a0), .int a1] h) (QcI base D cA r h') 0 0 (AA base) := by
  refine g_met [.ref (base + a0), .int a1] (by decide) (Nat.le_of_ble_eq_true rfl) (fun p e s m args below meth c C hr hn => ?_)
  refine g_lv (lv' := [(0, .ref (base + a0)), (1, .int a1)]) rfl ?_
  unfold s_X6_unlentOf at E
  refine g_aload_n C 0 dX6_unlentOf_0 rfl rfl ?_
  refine g_getR C dX6_unlentOf_1 fl_X6_17 rfl E (fun x1 E => ?_)
  refine g_iload_n C 1 dX6_unlentOf_4 rfl rfl ?_
  refine g_aald C 2 (by decide) (by decide) rfl dX6_unlentOf_5 E (fun x2 E => ?_)
  refine g_getI C dX6_unlentOf_6 fl_X6_77 (by decide) (by decide) E (fun x3 E => ?_)
  refine g_aload_n C 0 dX6_unlentOf_9 rfl rfl ?_
  refine g_iload_n C 1 dX6_unlentOf_10 rfl rfl ?_
  refine g_invI C (q := (RX6, TX6, 11)) [.int a1] dX6_unlentOf_11 cl_X6_108 cv_X6_lentOf rfl (by decide) rfl rfl ⟨Nat.le_of_ble_eq_true rfl, Nat.le_of_ble_eq_true rfl⟩ (Nat.le_of_ble_eq_true rfl) ⟨Nat.le_of_ble_eq_true rfl, Nat.le_of_ble_eq_true rfl⟩ rfl (fun r' h' E => o_X6_lentOf l base D cA a0 a1 h r' h' E) E (fun x4 h5 E => ?_)
  refine g_isub C dX6_unlentOf_14 ?_
  exact g_iret C dX6_unlentOf_15 hr E
abbrev rm_X6_sharesOf : Room := { frames := 2, cells := 0, slots := 0, locals := 44 }
def s_X6_sharesOf_L8 : Nat → Nat → Int32 → Int32 → Int32 → Hp → Rv Int32
  | 0, _, _, _, _, _ => none
  | n + 1, v0, v1, v2, v3, h =>
    getI h v0 6 4 fun x2 =>
  if x2 ≤ v3 then retI v2 h
  else getR h v0 6 2 fun x3 =>
  ldR h x3 23 v3 fun x4 =>
  getI h x4 3 1 fun x5 =>
  if x5 = v1 then getR h v0 6 2 fun x6 =>
  ldR h x6 23 v3 fun x7 =>
  getI h x7 3 2 fun x8 =>
  s_X6_sharesOf_L8 n v0 v1 (v2 + x8) (v3 + 1) h
  else s_X6_sharesOf_L8 n v0 v1 (v2 + 0) (v3 + 1) h
def s_X6_sharesOf (a0 : Nat) (a1 : Int32) (h : Hp) : Rv Int32 :=
  inv h a0 6 (s_X6_unlentOf a0 a1 h) fun x1 h =>
  s_X6_sharesOf_L8 100000 a0 a1 x1 0 h
set_option maxRecDepth 100000 in
set_option maxHeartbeats 4000000 in
theorem o_X6_sharesOf_L8 {l : Launch} {base : Nat} {D : va_G} {cA : Nat → ClassId} {p : Program} {e : Env} {s : State} {m : MethodId} {args : Array Value} {below : List Frame} {meth : Method} {c : Code} (C : GC base D cA p s m args meth c cX6_sharesOf 4 RX6) (hr : meth.sig.returnType = (some .int)) {X : Int32 × Hp} : ∀ (n : Nat) (v0 : Nat) (v1 : Int32) (v2 : Int32) (v3 : Int32) (h : Hp), s_X6_sharesOf_L8 n v0 v1 v2 v3 h = some X → GW base D cA p l e rm_X6_sharesOf s m args below meth c (MQ below (QcI base D cA X.1 X.2) args s 0 0 (AA base)) 4 h 0 0 8 [(0, .ref (base + v0)), (1, .int v1), (2, .int v2), (3, .int v3)] [] := by
  intro n
  induction n with
  | zero =>
    intro v0 v1 v2 v3 h E
    rw [s_X6_sharesOf_L8] at E
    cases E
  | succ n ih =>
    intro v0 v1 v2 v3 h E
    rw [s_X6_sharesOf_L8] at E
    refine g_iload_n C 3 dX6_sharesOf_8 rfl rfl ?_
    refine g_aload_n C 0 dX6_sharesOf_9 rfl rfl ?_
    refine g_getI C dX6_sharesOf_10 fl_X6_31 (by decide) (by decide) E (fun x1 E => ?_)
    refine g_icmp_ge C 51 dX6_sharesOf_13 (by decide) E (fun E => ?_) (fun E => ?_)
    · refine g_iload_n C 2 dX6_sharesOf_51 rfl rfl ?_
      exact g_iret C dX6_sharesOf_52 hr E
    · refine g_iload_n C 2 dX6_sharesOf_16 rfl rfl ?_
      refine g_aload_n C 0 dX6_sharesOf_17 rfl rfl ?_
      refine g_getR C dX6_sharesOf_18 fl_X6_23 rfl E (fun x2 E => ?_)
      refine g_iload_n C 3 dX6_sharesOf_21 rfl rfl ?_
      refine g_aald C 3 (by decide) (by decide) rfl dX6_sharesOf_22 E (fun x3 E => ?_)
      refine g_getI C dX6_sharesOf_23 fl_X6_115 (by decide) (by decide) E (fun x4 E => ?_)
      refine g_iload_n C 1 dX6_sharesOf_26 rfl rfl ?_
      refine g_icmp_ne C 42 dX6_sharesOf_27 (by decide) E (fun E => ?_) (fun E => ?_)
      · refine g_iconst C 0 dX6_sharesOf_42 rfl ?_
        refine g_iadd C dX6_sharesOf_43 ?_
        refine g_istore_n C (lv' := [(2, .int (v2 + 0)), (0, .ref (base + v0)), (1, .int v1), (3, .int v3)]) dX6_sharesOf_44 rfl (by decide) rfl ?_
        refine g_iinc C (lv' := [(3, .int (v3 + 1)), (2, .int (v2 + 0)), (0, .ref (base + v0)), (1, .int v1)]) 3 1 dX6_sharesOf_45 rfl rfl (by decide) rfl ?_
        refine g_goto C 8 dX6_sharesOf_48 (by decide) ?_
        refine g_sub (lv' := [(0, .ref (base + v0)), (1, .int v1), (2, .int (v2 + 0)), (3, .int (v3 + 1))]) [2, 3, 1, 0] rfl ?_
        exact ih v0 v1 (v2 + 0) (v3 + 1) h E
      · refine g_aload_n C 0 dX6_sharesOf_30 rfl rfl ?_
        refine g_getR C dX6_sharesOf_31 fl_X6_23 rfl E (fun x5 E => ?_)
        refine g_iload_n C 3 dX6_sharesOf_34 rfl rfl ?_
        refine g_aald C 3 (by decide) (by decide) rfl dX6_sharesOf_35 E (fun x6 E => ?_)
        refine g_getI C dX6_sharesOf_36 fl_X6_105 (by decide) (by decide) E (fun x7 E => ?_)
        refine g_goto C 43 dX6_sharesOf_39 (by decide) ?_
        refine g_iadd C dX6_sharesOf_43 ?_
        refine g_istore_n C (lv' := [(2, .int (v2 + x7)), (0, .ref (base + v0)), (1, .int v1), (3, .int v3)]) dX6_sharesOf_44 rfl (by decide) rfl ?_
        refine g_iinc C (lv' := [(3, .int (v3 + 1)), (2, .int (v2 + x7)), (0, .ref (base + v0)), (1, .int v1)]) 3 1 dX6_sharesOf_45 rfl rfl (by decide) rfl ?_
        refine g_goto C 8 dX6_sharesOf_48 (by decide) ?_
        refine g_sub (lv' := [(0, .ref (base + v0)), (1, .int v1), (2, .int (v2 + x7)), (3, .int (v3 + 1))]) [2, 3, 1, 0] rfl ?_
        exact ih v0 v1 (v2 + x7) (v3 + 1) h E
set_option maxRecDepth 100000 in
set_option maxHeartbeats 4000000 in
theorem o_X6_sharesOf (l : Launch) (base : Nat) (D : va_G) (cA : Nat → ClassId) (a0 : Nat) (a1 : Int32) (h : Hp) (r : Int32) (h' : Hp) (E : s_X6_sharesOf a0 a1 h = some (r, h')) : Met l yX6_sharesOf (.code yX6_sharesOf cX6_sharesOf 4 (some .int) :: wsA) rm_X6_sharesOf (PcG base D cA [.ref (base + a0), .int a1] h) (QcI base D cA r h') 0 0 (AA base) := by
  refine g_met [.ref (base + a0), .int a1] (by decide) (Nat.le_of_ble_eq_true rfl) (fun p e s m args below meth c C hr hn => ?_)
  refine g_lv (lv' := [(0, .ref (base + a0)), (1, .int a1)]) rfl ?_
  unfold s_X6_sharesOf at E
  refine g_aload_n C 0 dX6_sharesOf_0 rfl rfl ?_
  refine g_iload_n C 1 dX6_sharesOf_1 rfl rfl ?_
  refine g_invI C (q := (RX6, TX6, 11)) [.int a1] dX6_sharesOf_2 cl_X6_112 cv_X6_unlentOf rfl (by decide) rfl rfl ⟨Nat.le_of_ble_eq_true rfl, Nat.le_of_ble_eq_true rfl⟩ (Nat.le_of_ble_eq_true rfl) ⟨Nat.le_of_ble_eq_true rfl, Nat.le_of_ble_eq_true rfl⟩ rfl (fun r' h' E => o_X6_unlentOf l base D cA a0 a1 h r' h' E) E (fun x1 h2 E => ?_)
  refine g_istore_n C (lv' := [(2, .int x1), (0, .ref (base + a0)), (1, .int a1)]) dX6_sharesOf_5 rfl (by decide) rfl ?_
  refine g_iconst C 0 dX6_sharesOf_6 rfl ?_
  refine g_istore_n C (lv' := [(3, .int 0), (2, .int x1), (0, .ref (base + a0)), (1, .int a1)]) dX6_sharesOf_7 rfl (by decide) rfl ?_
  refine g_sub (lv' := [(0, .ref (base + a0)), (1, .int a1), (2, .int x1), (3, .int 0)]) [2, 3, 1, 0] rfl ?_
  exact o_X6_sharesOf_L8 C hr _ a0 a1 x1 0 h2 E
abbrev rm_X6_askOf : Room := { frames := 1, cells := 0, slots := 0, locals := 21 }
def s_X6_askOf (a0 : Nat) (a1 : Int32) (a2 : Int32) (h : Hp) : Rv Int32 :=
  getR h a0 6 1 fun x1 =>
  ldR h x1 22 a1 fun x2 =>
  getI h x2 2 2 fun x3 =>
  inv h a0 6 (s_X6_washerOf a0 a1 h) fun x4 h =>
  getI h x4 7 1 fun x5 =>
  if x5 = 1 then retI (2 * (a2 * x3)) h
  else retI (a2 * x3) h
set_option maxRecDepth 100000 in
set_option maxHeartbeats 4000000 in
theorem o_X6_askOf (l : Launch) (base : Nat) (D : va_G) (cA : Nat → ClassId) (a0 : Nat) (a1 : Int32) (a2 : Int32) (h : Hp) (r : Int32) (h' : Hp) (E : s_X6_askOf a0 a1 a2 h = some (r, h')) : Met l yX6_askOf (.code yX6_askOf cX6_askOf 4 (some .int) :: wsA) rm_X6_askOf (PcG base D cA [.ref (base + a0), .int a1, .int a2] h) (QcI base D cA r h') 0 0 (AA base) := by
  refine g_met [.ref (base + a0), .int a1, .int a2] (by decide) (Nat.le_of_ble_eq_true rfl) (fun p e s m args below meth c C hr hn => ?_)
  refine g_lv (lv' := [(0, .ref (base + a0)), (1, .int a1), (2, .int a2)]) rfl ?_
  unfold s_X6_askOf at E
  refine g_iload_n C 2 dX6_askOf_0 rfl rfl ?_
  refine g_aload_n C 0 dX6_askOf_1 rfl rfl ?_
  refine g_getR C dX6_askOf_2 fl_X6_17 rfl E (fun x1 E => ?_)
  refine g_iload_n C 1 dX6_askOf_5 rfl rfl ?_
  refine g_aald C 2 (by decide) (by decide) rfl dX6_askOf_6 E (fun x2 E => ?_)
  refine g_getI C dX6_askOf_7 fl_X6_80 (by decide) (by decide) E (fun x3 E => ?_)
  refine g_imul C dX6_askOf_10 ?_
  refine g_istore_n C (lv' := [(3, .int (a2 * x3)), (0, .ref (base + a0)), (1, .int a1), (2, .int a2)]) dX6_askOf_11 rfl (by decide) rfl ?_
  refine g_aload_n C 1 dX6_askOf_12 rfl rfl ?_
  refine g_iload_n C 2 dX6_askOf_13 rfl rfl ?_
  refine g_invR C (q := (RX6, TX6, 11)) [.int a1] dX6_askOf_14 cl_X6_86 cv_X6_washerOf rfl (by decide) rfl rfl ⟨Nat.le_of_ble_eq_true rfl, Nat.le_of_ble_eq_true rfl⟩ (Nat.le_of_ble_eq_true rfl) ⟨Nat.le_of_ble_eq_true rfl, Nat.le_of_ble_eq_true rfl⟩ rfl (fun r' h' E => o_X6_washerOf l base D cA a0 a1 h r' h' E) E (fun x4 h5 E => ?_)
  refine g_getI C dX6_askOf_17 fl_X6_118 (by decide) (by decide) E (fun x6 E => ?_)
  refine g_iconst C 1 dX6_askOf_20 rfl ?_
  refine g_icmp_ne C 30 dX6_askOf_21 (by decide) E (fun E => ?_) (fun E => ?_)
  · refine g_iload_n C 0 dX6_askOf_30 rfl rfl ?_
    exact g_iret C dX6_askOf_31 hr E
  · refine g_iconst C 2 dX6_askOf_24 rfl ?_
    refine g_iload_n C 0 dX6_askOf_25 rfl rfl ?_
    refine g_imul C dX6_askOf_26 ?_
    refine g_goto C 31 dX6_askOf_27 (by decide) ?_
    exact g_iret C dX6_askOf_31 hr E
abbrev rm_X6_refuse : Room := { frames := 2, cells := 0, slots := 0, locals := 36 }
def s_X6_refuse (a0 : Nat) (a1 : Int32) (a2 : Int32) (a3 : Int32) (h : Hp) : Rv Unit :=
  getR h a0 6 1 fun x1 =>
  ldR h x1 22 a1 fun x2 =>
  getI h x2 2 7 fun x3 =>
  putI h x2 2 7 (x3 + 1) fun h =>
  getR h a0 6 1 fun x4 =>
  ldR h x4 22 a2 fun x5 =>
  if a3 = 0 then inv h x5 2 (s_X2_changePrice x5 1 h) fun _ h =>
  retU h
  else inv h x5 2 (s_X2_changePrice x5 (-1) h) fun _ h =>
  retU h
set_option maxRecDepth 100000 in
set_option maxHeartbeats 4000000 in
theorem o_X6_refuse (l : Launch) (base : Nat) (D : va_G) (cA : Nat → ClassId) (a0 : Nat) (a1 : Int32) (a2 : Int32) (a3 : Int32) (h : Hp) (r : Unit) (h' : Hp) (E : s_X6_refuse a0 a1 a2 a3 h = some (r, h')) : Met l yX6_refuse (.code yX6_refuse cX6_refuse 4 none :: wsA) rm_X6_refuse (PcG base D cA [.ref (base + a0), .int a1, .int a2, .int a3] h) (QcU base D cA h') 0 0 (AA base) := by
  refine g_met [.ref (base + a0), .int a1, .int a2, .int a3] (by decide) (Nat.le_of_ble_eq_true rfl) (fun p e s m args below meth c C hr hn => ?_)
  refine g_lv (lv' := [(0, .ref (base + a0)), (1, .int a1), (2, .int a2), (3, .int a3)]) rfl ?_
  unfold s_X6_refuse at E
  refine g_aload_n C 0 dX6_refuse_0 rfl rfl ?_
  refine g_getR C dX6_refuse_1 fl_X6_17 rfl E (fun x1 E => ?_)
  refine g_iload_n C 1 dX6_refuse_4 rfl rfl ?_
  refine g_aald C 2 (by decide) (by decide) rfl dX6_refuse_5 E (fun x2 E => ?_)
  refine g_dup C dX6_refuse_6 rfl ?_
  refine g_getI C dX6_refuse_7 fl_X6_121 (by decide) (by decide) E (fun x3 E => ?_)
  refine g_iconst C 1 dX6_refuse_10 rfl ?_
  refine g_iadd C dX6_refuse_11 ?_
  refine g_putI C false dX6_refuse_12 fl_X6_121 fp_X6_2_7 (fun q => Bool.noConfusion q) rfl E (fun h4 E => ?_)
  refine g_aload_n C 0 dX6_refuse_15 rfl rfl ?_
  refine g_getR C dX6_refuse_16 fl_X6_17 rfl E (fun x5 E => ?_)
  refine g_iload_n C 2 dX6_refuse_19 rfl rfl ?_
  refine g_aald C 2 (by decide) (by decide) rfl dX6_refuse_20 E (fun x6 E => ?_)
  refine g_iload_n C 3 dX6_refuse_21 rfl rfl ?_
  refine g_if_eq C 29 dX6_refuse_22 (by decide) E (fun E => ?_) (fun E => ?_)
  · refine g_iconst C 1 dX6_refuse_29 rfl ?_
    refine g_invU C (q := (RX2, TX2, 10)) [.int 1] dX6_refuse_30 cl_X6_124 cv_X2_changePrice rfl (by decide) rfl rfl ⟨Nat.le_of_ble_eq_true rfl, Nat.le_of_ble_eq_true rfl⟩ (Nat.le_of_ble_eq_true rfl) ⟨Nat.le_of_ble_eq_true rfl, Nat.le_of_ble_eq_true rfl⟩ rfl (fun r' h' E => o_X2_changePrice l base D cA x6 1 h4 r' h' E) E (fun x7 h8 E => ?_)
    exact g_vret C dX6_refuse_33 hr E
  · refine g_iconst C (-1) dX6_refuse_25 rfl ?_
    refine g_goto C 30 dX6_refuse_26 (by decide) ?_
    refine g_invU C (q := (RX2, TX2, 10)) [.int (-1)] dX6_refuse_30 cl_X6_124 cv_X2_changePrice rfl (by decide) rfl rfl ⟨Nat.le_of_ble_eq_true rfl, Nat.le_of_ble_eq_true rfl⟩ (Nat.le_of_ble_eq_true rfl) ⟨Nat.le_of_ble_eq_true rfl, Nat.le_of_ble_eq_true rfl⟩ rfl (fun r' h' E => o_X2_changePrice l base D cA x6 (-1) h4 r' h' E) E (fun x9 h10 E => ?_)
    exact g_vret C dX6_refuse_33 hr E
abbrev rm_X6_pay : Room := { frames := 2, cells := 0, slots := 0, locals := 36 }
def s_X6_pay (a0 : Nat) (a1 : Int32) (a2 : Int32) (a3 : Int32) (h : Hp) : Rv Unit :=
  getR h a0 6 1 fun x1 =>
  ldR h x1 22 a1 fun x2 =>
  getI h x2 2 3 fun x3 =>
  putI h x2 2 3 (x3 - a3) fun h =>
  getR h a0 6 1 fun x4 =>
  ldR h x4 22 a1 fun x5 =>
  getI h x5 2 8 fun x6 =>
  putI h x5 2 8 (x6 + a3) fun h =>
  getR h a0 6 1 fun x7 =>
  ldR h x7 22 a1 fun x8 =>
  getI h x8 2 6 fun x9 =>
  putI h x8 2 6 (x9 + 1) fun h =>
  getR h a0 6 1 fun x10 =>
  ldR h x10 22 a2 fun x11 =>
  getI h x11 2 3 fun x12 =>
  putI h x11 2 3 (x12 + a3) fun h =>
  getR h a0 6 1 fun x13 =>
  ldR h x13 22 a2 fun x14 =>
  getI h x14 2 9 fun x15 =>
  putI h x14 2 9 (x15 + a3) fun h =>
  getR h a0 6 1 fun x16 =>
  ldR h x16 22 a2 fun x17 =>
  inv h x17 2 (s_X2_changePrice x17 1 h) fun _ h =>
  retU h
set_option maxRecDepth 100000 in
set_option maxHeartbeats 4000000 in
theorem o_X6_pay (l : Launch) (base : Nat) (D : va_G) (cA : Nat → ClassId) (a0 : Nat) (a1 : Int32) (a2 : Int32) (a3 : Int32) (h : Hp) (r : Unit) (h' : Hp) (E : s_X6_pay a0 a1 a2 a3 h = some (r, h')) : Met l yX6_pay (.code yX6_pay cX6_pay 4 none :: wsA) rm_X6_pay (PcG base D cA [.ref (base + a0), .int a1, .int a2, .int a3] h) (QcU base D cA h') 0 0 (AA base) := by
  refine g_met [.ref (base + a0), .int a1, .int a2, .int a3] (by decide) (Nat.le_of_ble_eq_true rfl) (fun p e s m args below meth c C hr hn => ?_)
  refine g_lv (lv' := [(0, .ref (base + a0)), (1, .int a1), (2, .int a2), (3, .int a3)]) rfl ?_
  unfold s_X6_pay at E
  refine g_aload_n C 0 dX6_pay_0 rfl rfl ?_
  refine g_getR C dX6_pay_1 fl_X6_17 rfl E (fun x1 E => ?_)
  refine g_iload_n C 1 dX6_pay_4 rfl rfl ?_
  refine g_aald C 2 (by decide) (by decide) rfl dX6_pay_5 E (fun x2 E => ?_)
  refine g_dup C dX6_pay_6 rfl ?_
  refine g_getI C dX6_pay_7 fl_X6_83 (by decide) (by decide) E (fun x3 E => ?_)
  refine g_iload_n C 3 dX6_pay_10 rfl rfl ?_
  refine g_isub C dX6_pay_11 ?_
  refine g_putI C false dX6_pay_12 fl_X6_83 fp_X6_2_3 (fun q => Bool.noConfusion q) rfl E (fun h4 E => ?_)
  refine g_aload_n C 0 dX6_pay_15 rfl rfl ?_
  refine g_getR C dX6_pay_16 fl_X6_17 rfl E (fun x5 E => ?_)
  refine g_iload_n C 1 dX6_pay_19 rfl rfl ?_
  refine g_aald C 2 (by decide) (by decide) rfl dX6_pay_20 E (fun x6 E => ?_)
  refine g_dup C dX6_pay_21 rfl ?_
  refine g_getI C dX6_pay_22 fl_X6_127 (by decide) (by decide) E (fun x7 E => ?_)
  refine g_iload_n C 3 dX6_pay_25 rfl rfl ?_
  refine g_iadd C dX6_pay_26 ?_
  refine g_putI C false dX6_pay_27 fl_X6_127 fp_X6_2_8 (fun q => Bool.noConfusion q) rfl E (fun h8 E => ?_)
  refine g_aload_n C 0 dX6_pay_30 rfl rfl ?_
  refine g_getR C dX6_pay_31 fl_X6_17 rfl E (fun x9 E => ?_)
  refine g_iload_n C 1 dX6_pay_34 rfl rfl ?_
  refine g_aald C 2 (by decide) (by decide) rfl dX6_pay_35 E (fun x10 E => ?_)
  refine g_dup C dX6_pay_36 rfl ?_
  refine g_getI C dX6_pay_37 fl_X6_130 (by decide) (by decide) E (fun x11 E => ?_)
  refine g_iconst C 1 dX6_pay_40 rfl ?_
  refine g_iadd C dX6_pay_41 ?_
  refine g_putI C false dX6_pay_42 fl_X6_130 fp_X6_2_6 (fun q => Bool.noConfusion q) rfl E (fun h12 E => ?_)
  refine g_aload_n C 0 dX6_pay_45 rfl rfl ?_
  refine g_getR C dX6_pay_46 fl_X6_17 rfl E (fun x13 E => ?_)
  refine g_iload_n C 2 dX6_pay_49 rfl rfl ?_
  refine g_aald C 2 (by decide) (by decide) rfl dX6_pay_50 E (fun x14 E => ?_)
  refine g_dup C dX6_pay_51 rfl ?_
  refine g_getI C dX6_pay_52 fl_X6_83 (by decide) (by decide) E (fun x15 E => ?_)
  refine g_iload_n C 3 dX6_pay_55 rfl rfl ?_
  refine g_iadd C dX6_pay_56 ?_
  refine g_putI C false dX6_pay_57 fl_X6_83 fp_X6_2_3 (fun q => Bool.noConfusion q) rfl E (fun h16 E => ?_)
  refine g_aload_n C 0 dX6_pay_60 rfl rfl ?_
  refine g_getR C dX6_pay_61 fl_X6_17 rfl E (fun x17 E => ?_)
  refine g_iload_n C 2 dX6_pay_64 rfl rfl ?_
  refine g_aald C 2 (by decide) (by decide) rfl dX6_pay_65 E (fun x18 E => ?_)
  refine g_dup C dX6_pay_66 rfl ?_
  refine g_getI C dX6_pay_67 fl_X6_133 (by decide) (by decide) E (fun x19 E => ?_)
  refine g_iload_n C 3 dX6_pay_70 rfl rfl ?_
  refine g_iadd C dX6_pay_71 ?_
  refine g_putI C false dX6_pay_72 fl_X6_133 fp_X6_2_9 (fun q => Bool.noConfusion q) rfl E (fun h20 E => ?_)
  refine g_aload_n C 0 dX6_pay_75 rfl rfl ?_
  refine g_getR C dX6_pay_76 fl_X6_17 rfl E (fun x21 E => ?_)
  refine g_iload_n C 2 dX6_pay_79 rfl rfl ?_
  refine g_aald C 2 (by decide) (by decide) rfl dX6_pay_80 E (fun x22 E => ?_)
  refine g_iconst C 1 dX6_pay_81 rfl ?_
  refine g_invU C (q := (RX2, TX2, 10)) [.int 1] dX6_pay_82 cl_X6_124 cv_X2_changePrice rfl (by decide) rfl rfl ⟨Nat.le_of_ble_eq_true rfl, Nat.le_of_ble_eq_true rfl⟩ (Nat.le_of_ble_eq_true rfl) ⟨Nat.le_of_ble_eq_true rfl, Nat.le_of_ble_eq_true rfl⟩ rfl (fun r' h' E => o_X2_changePrice l base D cA x22 1 h20 r' h' E) E (fun x23 h24 E => ?_)
  exact g_vret C dX6_pay_85 hr E
abbrev rm_X6_lend : Room := { frames := 0, cells := 0, slots := 0, locals := 0 }
def s_X6_lend (a0 : Nat) (a1 : Int32) (a2 : Int32) (a3 : Int32) (a4 : Int32) (a5 : Int32) (h : Hp) : Rv Unit :=
  getR h a0 6 2 fun x1 =>
  getI h a0 6 4 fun x2 =>
  ldR h x1 23 x2 fun x3 =>
  putI h x3 3 0 a2 fun h =>
  putI h x3 3 1 a1 fun h =>
  putI h x3 3 2 a3 fun h =>
  putI h x3 3 3 a4 fun h =>
  putI h x3 3 4 a5 fun h =>
  getI h a0 6 4 fun x4 =>
  putI h a0 6 4 (x4 + 1) fun h =>
  retU h
set_option maxRecDepth 100000 in
set_option maxHeartbeats 4000000 in
theorem o_X6_lend (l : Launch) (base : Nat) (D : va_G) (cA : Nat → ClassId) (a0 : Nat) (a1 : Int32) (a2 : Int32) (a3 : Int32) (a4 : Int32) (a5 : Int32) (h : Hp) (r : Unit) (h' : Hp) (E : s_X6_lend a0 a1 a2 a3 a4 a5 h = some (r, h')) : Met l yX6_lend (.code yX6_lend cX6_lend 7 none :: wsA) rm_X6_lend (PcG base D cA [.ref (base + a0), .int a1, .int a2, .int a3, .int a4, .int a5] h) (QcU base D cA h') 0 0 (AA base) := by
  refine g_met [.ref (base + a0), .int a1, .int a2, .int a3, .int a4, .int a5] (by decide) (Nat.le_of_ble_eq_true rfl) (fun p e s m args below meth c C hr hn => ?_)
  refine g_lv (lv' := [(0, .ref (base + a0)), (1, .int a1), (2, .int a2), (3, .int a3), (4, .int a4), (5, .int a5)]) rfl ?_
  unfold s_X6_lend at E
  refine g_aload_n C 0 dX6_lend_0 rfl rfl ?_
  refine g_getR C dX6_lend_1 fl_X6_23 rfl E (fun x1 E => ?_)
  refine g_aload_n C 0 dX6_lend_4 rfl rfl ?_
  refine g_getI C dX6_lend_5 fl_X6_31 (by decide) (by decide) E (fun x2 E => ?_)
  refine g_aald C 3 (by decide) (by decide) rfl dX6_lend_8 E (fun x3 E => ?_)
  refine g_astore C (lv' := [(6, .ref (base + x3)), (0, .ref (base + a0)), (1, .int a1), (2, .int a2), (3, .int a3), (4, .int a4), (5, .int a5)]) dX6_lend_9 (by decide) rfl ?_
  refine g_aload C 0 dX6_lend_11 rfl ?_
  refine g_iload_n C 3 dX6_lend_13 rfl rfl ?_
  refine g_putI C false dX6_lend_14 fl_X6_102 fp_X6_3_0 (fun q => Bool.noConfusion q) rfl E (fun h4 E => ?_)
  refine g_aload C 0 dX6_lend_17 rfl ?_
  refine g_iload_n C 2 dX6_lend_19 rfl rfl ?_
  refine g_putI C false dX6_lend_20 fl_X6_115 fp_X6_3_1 (fun q => Bool.noConfusion q) rfl E (fun h5 E => ?_)
  refine g_aload C 0 dX6_lend_23 rfl ?_
  refine g_iload_n C 4 dX6_lend_25 rfl rfl ?_
  refine g_putI C false dX6_lend_26 fl_X6_105 fp_X6_3_2 (fun q => Bool.noConfusion q) rfl E (fun h6 E => ?_)
  refine g_aload C 0 dX6_lend_29 rfl ?_
  refine g_iload C 5 dX6_lend_31 rfl ?_
  refine g_putI C false dX6_lend_33 fl_X6_136 fp_X6_3_3 (fun q => Bool.noConfusion q) rfl E (fun h7 E => ?_)
  refine g_aload C 0 dX6_lend_36 rfl ?_
  refine g_iload C 6 dX6_lend_38 rfl ?_
  refine g_putI C false dX6_lend_40 fl_X6_139 fp_X6_3_4 (fun q => Bool.noConfusion q) rfl E (fun h8 E => ?_)
  refine g_aload_n C 1 dX6_lend_43 rfl rfl ?_
  refine g_dup C dX6_lend_44 rfl ?_
  refine g_getI C dX6_lend_45 fl_X6_31 (by decide) (by decide) E (fun x9 E => ?_)
  refine g_iconst C 1 dX6_lend_48 rfl ?_
  refine g_iadd C dX6_lend_49 ?_
  refine g_putI C false dX6_lend_50 fl_X6_31 fp_X6_6_4 (fun q => Bool.noConfusion q) rfl E (fun h10 E => ?_)
  exact g_vret C dX6_lend_53 hr E
abbrev rm_X7_wantedHeat : Room := { frames := 2, cells := 0, slots := 0, locals := 42 }
def s_X7_wantedHeat (a0 : Nat) (h : Hp) : Rv Int32 :=
  getI h a0 7 1 fun x1 =>
  if x1 = 1 then getR h a0 7 0 fun x2 =>
  getI h a0 7 3 fun x3 =>
  inv h x2 4 (s_X4_kindOf x2 x3 h) fun x4 h =>
  if x4 = 104 then getI h a0 7 5 fun x5 =>
  getR h a0 7 0 fun x6 =>
  getI h a0 7 3 fun x7 =>
  inv h x6 4 (s_X4_numberOf x6 x7 h) fun x8 h =>
  getL h a0 7 6 fun x9 =>
  retI ((if (if (((4 * x5.toInt64) * x8.toInt64) - x9) < 250 then (((4 * x5.toInt64) * x8.toInt64) - x9) else 250) < 0 then 0 else (if (((4 * x5.toInt64) * x8.toInt64) - x9) < 250 then (((4 * x5.toInt64) * x8.toInt64) - x9) else 250)).toInt32) h
  else retI 0 h
  else retI 0 h
set_option maxRecDepth 100000 in
set_option maxHeartbeats 4000000 in
theorem o_X7_wantedHeat (l : Launch) (base : Nat) (D : va_G) (cA : Nat → ClassId) (a0 : Nat) (h : Hp) (r : Int32) (h' : Hp) (E : s_X7_wantedHeat a0 h = some (r, h')) : Met l yX7_wantedHeat (.code yX7_wantedHeat cX7_wantedHeat 3 (some .int) :: wsA) rm_X7_wantedHeat (PcG base D cA [.ref (base + a0)] h) (QcI base D cA r h') 0 0 (AA base) := by
  refine g_met [.ref (base + a0)] (by decide) (Nat.le_of_ble_eq_true rfl) (fun p e s m args below meth c C hr hn => ?_)
  refine g_lv (lv' := [(0, .ref (base + a0))]) rfl ?_
  unfold s_X7_wantedHeat at E
  refine g_aload_n C 0 dX7_wantedHeat_0 rfl rfl ?_
  refine g_getI C dX7_wantedHeat_1 fl_X7_9 (by decide) (by decide) E (fun x1 E => ?_)
  refine g_iconst C 1 dX7_wantedHeat_4 rfl ?_
  refine g_icmp_ne C 24 dX7_wantedHeat_5 (by decide) E (fun E => ?_) (fun E => ?_)
  · refine g_iconst C 0 dX7_wantedHeat_24 rfl ?_
    exact g_iret C dX7_wantedHeat_25 hr E
  · refine g_aload_n C 0 dX7_wantedHeat_8 rfl rfl ?_
    refine g_getR C dX7_wantedHeat_9 fl_X7_34 rfl E (fun x2 E => ?_)
    refine g_aload_n C 0 dX7_wantedHeat_12 rfl rfl ?_
    refine g_getI C dX7_wantedHeat_13 fl_X7_18 (by decide) (by decide) E (fun x3 E => ?_)
    refine g_invI C (q := (RX4, TX4, 3)) [.int x3] dX7_wantedHeat_16 cl_X7_45 cv_X4_kindOf rfl (by decide) rfl rfl ⟨Nat.le_of_ble_eq_true rfl, Nat.le_of_ble_eq_true rfl⟩ (Nat.le_of_ble_eq_true rfl) ⟨Nat.le_of_ble_eq_true rfl, Nat.le_of_ble_eq_true rfl⟩ rfl (fun r' h' E => o_X4_kindOf l base D cA x2 x3 h r' h' E) E (fun x4 h5 E => ?_)
    refine g_bipush C 104 dX7_wantedHeat_19 rfl ?_
    refine g_icmp_eq C 26 dX7_wantedHeat_21 (by decide) E (fun E => ?_) (fun E => ?_)
    · refine g_ldc2 C 4 dX7_wantedHeat_26 (in_wsA 340 (by decide +kernel) rfl) ?_
      refine g_aload_n C 0 dX7_wantedHeat_29 rfl rfl ?_
      refine g_getI C dX7_wantedHeat_30 fl_X7_24 (by decide) (by decide) E (fun x6 E => ?_)
      refine g_i2l C dX7_wantedHeat_33 ?_
      refine g_lmul C dX7_wantedHeat_34 ?_
      refine g_aload_n C 0 dX7_wantedHeat_35 rfl rfl ?_
      refine g_getR C dX7_wantedHeat_36 fl_X7_34 rfl E (fun x7 E => ?_)
      refine g_aload_n C 0 dX7_wantedHeat_39 rfl rfl ?_
      refine g_getI C dX7_wantedHeat_40 fl_X7_18 (by decide) (by decide) E (fun x8 E => ?_)
      refine g_invI C (q := (RX4, TX4, 3)) [.int x8] dX7_wantedHeat_43 cl_X7_49 cv_X4_numberOf rfl (by decide) rfl rfl ⟨Nat.le_of_ble_eq_true rfl, Nat.le_of_ble_eq_true rfl⟩ (Nat.le_of_ble_eq_true rfl) ⟨Nat.le_of_ble_eq_true rfl, Nat.le_of_ble_eq_true rfl⟩ rfl (fun r' h' E => o_X4_numberOf l base D cA x7 x8 h5 r' h' E) E (fun x9 h10 E => ?_)
      refine g_i2l C dX7_wantedHeat_46 ?_
      refine g_lmul C dX7_wantedHeat_47 ?_
      refine g_aload_n C 0 dX7_wantedHeat_48 rfl rfl ?_
      refine g_getL C dX7_wantedHeat_49 fl_X7_27 rfl E (fun x11 E => ?_)
      refine g_lsub C dX7_wantedHeat_52 ?_
      refine g_lstore_n C (lv' := [(1, .long (((4 * x6.toInt64) * x9.toInt64) - x11)), (0, .ref (base + a0))]) dX7_wantedHeat_53 rfl (by decide) rfl ?_
      refine g_lconst C 0 dX7_wantedHeat_54 rfl ?_
      refine g_ldc2 C 250 dX7_wantedHeat_55 (in_wsA 389 (by decide +kernel) rfl) ?_
      refine g_lload_n C 0 dX7_wantedHeat_58 rfl rfl ?_
      refine g_lmin C dX7_wantedHeat_59 (in_wsA 390 (by decide +kernel) rfl) (in_wsA 391 (by decide +kernel) rfl) (in_wsA 11 (by decide +kernel) rfl) (in_wsA 392 (by decide +kernel) rfl) (Nat.le_of_ble_eq_true rfl) (Nat.le_of_ble_eq_true rfl) (Nat.le_of_ble_eq_true rfl) (Nat.le_of_ble_eq_true rfl) ?_
      refine g_lmax C dX7_wantedHeat_62 (in_wsA 393 (by decide +kernel) rfl) (in_wsA 394 (by decide +kernel) rfl) (in_wsA 11 (by decide +kernel) rfl) (in_wsA 395 (by decide +kernel) rfl) (Nat.le_of_ble_eq_true rfl) (Nat.le_of_ble_eq_true rfl) (Nat.le_of_ble_eq_true rfl) (Nat.le_of_ble_eq_true rfl) ?_
      refine g_l2i C dX7_wantedHeat_65 ?_
      exact g_iret C dX7_wantedHeat_66 hr E
    · refine g_iconst C 0 dX7_wantedHeat_24 rfl ?_
      exact g_iret C dX7_wantedHeat_25 hr E
abbrev rm_X6_wantedHeat : Room := { frames := 3, cells := 0, slots := 0, locals := 64 }
def s_X6_wantedHeat_L4 : Nat → Nat → Int32 → Int32 → Hp → Rv Int32
  | 0, _, _, _, _ => none
  | n + 1, v0, v1, v2, h =>
    getI h v0 6 3 fun x1 =>
  if x1 ≤ v2 then retI v1 h
  else inv h v0 6 (s_X6_washerOf v0 v2 h) fun x2 h =>
  inv h x2 7 (s_X7_wantedHeat x2 h) fun x3 h =>
  s_X6_wantedHeat_L4 n v0 (v1 + x3) (v2 + 1) h
def s_X6_wantedHeat (a0 : Nat) (h : Hp) : Rv Int32 :=
  s_X6_wantedHeat_L4 100000 a0 0 0 h
set_option maxRecDepth 100000 in
set_option maxHeartbeats 4000000 in
theorem o_X6_wantedHeat_L4 {l : Launch} {base : Nat} {D : va_G} {cA : Nat → ClassId} {p : Program} {e : Env} {s : State} {m : MethodId} {args : Array Value} {below : List Frame} {meth : Method} {c : Code} (C : GC base D cA p s m args meth c cX6_wantedHeat 3 RX6) (hr : meth.sig.returnType = (some .int)) {X : Int32 × Hp} : ∀ (n : Nat) (v0 : Nat) (v1 : Int32) (v2 : Int32) (h : Hp), s_X6_wantedHeat_L4 n v0 v1 v2 h = some X → GW base D cA p l e rm_X6_wantedHeat s m args below meth c (MQ below (QcI base D cA X.1 X.2) args s 0 0 (AA base)) 3 h 0 0 4 [(0, .ref (base + v0)), (1, .int v1), (2, .int v2)] [] := by
  intro n
  induction n with
  | zero =>
    intro v0 v1 v2 h E
    rw [s_X6_wantedHeat_L4] at E
    cases E
  | succ n ih =>
    intro v0 v1 v2 h E
    rw [s_X6_wantedHeat_L4] at E
    refine g_iload_n C 2 dX6_wantedHeat_4 rfl rfl ?_
    refine g_aload_n C 0 dX6_wantedHeat_5 rfl rfl ?_
    refine g_getI C dX6_wantedHeat_6 fl_X6_27 (by decide) (by decide) E (fun x1 E => ?_)
    refine g_icmp_ge C 29 dX6_wantedHeat_9 (by decide) E (fun E => ?_) (fun E => ?_)
    · refine g_iload_n C 1 dX6_wantedHeat_29 rfl rfl ?_
      exact g_iret C dX6_wantedHeat_30 hr E
    · refine g_iload_n C 1 dX6_wantedHeat_12 rfl rfl ?_
      refine g_aload_n C 0 dX6_wantedHeat_13 rfl rfl ?_
      refine g_iload_n C 2 dX6_wantedHeat_14 rfl rfl ?_
      refine g_invR C (q := (RX6, TX6, 11)) [.int v2] dX6_wantedHeat_15 cl_X6_86 cv_X6_washerOf rfl (by decide) rfl rfl ⟨Nat.le_of_ble_eq_true rfl, Nat.le_of_ble_eq_true rfl⟩ (Nat.le_of_ble_eq_true rfl) ⟨Nat.le_of_ble_eq_true rfl, Nat.le_of_ble_eq_true rfl⟩ rfl (fun r' h' E => o_X6_washerOf l base D cA v0 v2 h r' h' E) E (fun x2 h3 E => ?_)
      refine g_invI C (q := (RX7, TX7, 8)) [] dX6_wantedHeat_18 cl_X6_140 cv_X7_wantedHeat rfl (by decide) rfl rfl ⟨Nat.le_of_ble_eq_true rfl, Nat.le_of_ble_eq_true rfl⟩ (Nat.le_of_ble_eq_true rfl) ⟨Nat.le_of_ble_eq_true rfl, Nat.le_of_ble_eq_true rfl⟩ rfl (fun r' h' E => o_X7_wantedHeat l base D cA x2 h3 r' h' E) E (fun x4 h5 E => ?_)
      refine g_iadd C dX6_wantedHeat_21 ?_
      refine g_istore_n C (lv' := [(1, .int (v1 + x4)), (0, .ref (base + v0)), (2, .int v2)]) dX6_wantedHeat_22 rfl (by decide) rfl ?_
      refine g_iinc C (lv' := [(2, .int (v2 + 1)), (1, .int (v1 + x4)), (0, .ref (base + v0))]) 2 1 dX6_wantedHeat_23 rfl rfl (by decide) rfl ?_
      refine g_goto C 4 dX6_wantedHeat_26 (by decide) ?_
      refine g_sub (lv' := [(0, .ref (base + v0)), (1, .int (v1 + x4)), (2, .int (v2 + 1))]) [2, 1, 0] rfl ?_
      exact ih v0 (v1 + x4) (v2 + 1) h5 E
set_option maxRecDepth 100000 in
set_option maxHeartbeats 4000000 in
theorem o_X6_wantedHeat (l : Launch) (base : Nat) (D : va_G) (cA : Nat → ClassId) (a0 : Nat) (h : Hp) (r : Int32) (h' : Hp) (E : s_X6_wantedHeat a0 h = some (r, h')) : Met l yX6_wantedHeat (.code yX6_wantedHeat cX6_wantedHeat 3 (some .int) :: wsA) rm_X6_wantedHeat (PcG base D cA [.ref (base + a0)] h) (QcI base D cA r h') 0 0 (AA base) := by
  refine g_met [.ref (base + a0)] (by decide) (Nat.le_of_ble_eq_true rfl) (fun p e s m args below meth c C hr hn => ?_)
  refine g_lv (lv' := [(0, .ref (base + a0))]) rfl ?_
  unfold s_X6_wantedHeat at E
  refine g_iconst C 0 dX6_wantedHeat_0 rfl ?_
  refine g_istore_n C (lv' := [(1, .int 0), (0, .ref (base + a0))]) dX6_wantedHeat_1 rfl (by decide) rfl ?_
  refine g_iconst C 0 dX6_wantedHeat_2 rfl ?_
  refine g_istore_n C (lv' := [(2, .int 0), (1, .int 0), (0, .ref (base + a0))]) dX6_wantedHeat_3 rfl (by decide) rfl ?_
  refine g_sub (lv' := [(0, .ref (base + a0)), (1, .int 0), (2, .int 0)]) [2, 1, 0] rfl ?_
  exact o_X6_wantedHeat_L4 C hr _ a0 0 0 h E
abbrev rm_X6_storeWithInput : Room := { frames := 1, cells := 0, slots := 0, locals := 13 }
def s_X6_storeWithInput (a0 : Nat) (h : Hp) : Rv Int32 :=
  getR h a0 6 0 fun x1 =>
  ldI h x1 20 0 fun x2 =>
  getI h a0 6 8 fun x3 =>
  getR h a0 6 0 fun x4 =>
  ldI h x4 20 1 fun x5 =>
  retI (if (x3 + x5) < x2 then (x3 + x5) else x2) h
set_option maxRecDepth 100000 in
set_option maxHeartbeats 4000000 in
theorem o_X6_storeWithInput (l : Launch) (base : Nat) (D : va_G) (cA : Nat → ClassId) (a0 : Nat) (h : Hp) (r : Int32) (h' : Hp) (E : s_X6_storeWithInput a0 h = some (r, h')) : Met l yX6_storeWithInput (.code yX6_storeWithInput cX6_storeWithInput 1 (some .int) :: wsA) rm_X6_storeWithInput (PcG base D cA [.ref (base + a0)] h) (QcI base D cA r h') 0 0 (AA base) := by
  refine g_met [.ref (base + a0)] (by decide) (Nat.le_of_ble_eq_true rfl) (fun p e s m args below meth c C hr hn => ?_)
  refine g_lv (lv' := [(0, .ref (base + a0))]) rfl ?_
  unfold s_X6_storeWithInput at E
  refine g_aload_n C 0 dX6_storeWithInput_0 rfl rfl ?_
  refine g_getR C dX6_storeWithInput_1 fl_X6_9 rfl E (fun x1 E => ?_)
  refine g_iconst C 0 dX6_storeWithInput_4 rfl ?_
  refine g_iald C dX6_storeWithInput_5 E (fun x2 E => ?_)
  refine g_aload_n C 0 dX6_storeWithInput_6 rfl rfl ?_
  refine g_getI C dX6_storeWithInput_7 fl_X6_44 (by decide) (by decide) E (fun x3 E => ?_)
  refine g_aload_n C 0 dX6_storeWithInput_10 rfl rfl ?_
  refine g_getR C dX6_storeWithInput_11 fl_X6_9 rfl E (fun x4 E => ?_)
  refine g_iconst C 1 dX6_storeWithInput_14 rfl ?_
  refine g_iald C dX6_storeWithInput_15 E (fun x5 E => ?_)
  refine g_iadd C dX6_storeWithInput_16 ?_
  refine g_mmin C dX6_storeWithInput_17 (in_wsA 412 (by decide +kernel) rfl) (in_wsA 413 (by decide +kernel) rfl) (in_wsA 11 (by decide +kernel) rfl) (in_wsA 414 (by decide +kernel) rfl) (Nat.le_of_ble_eq_true rfl) (Nat.le_of_ble_eq_true rfl) (Nat.le_of_ble_eq_true rfl) (Nat.le_of_ble_eq_true rfl) ?_
  exact g_iret C dX6_storeWithInput_20 hr E
abbrev rm_X6_divideHeat : Room := { frames := 3, cells := 0, slots := 0, locals := 69 }
def s_X6_divideHeat_J33 (k2 : Nat → Nat → Int32 → Hp → Rv Unit) (v0 : Nat) (v1 : Nat) (v2 : Int32) (w0 : Nat) (w1 : Int32) (w2 : Int32) (h : Hp) : Rv Unit :=
  stI h w0 20 w1 w2 fun h =>
  getR h v1 0 1 fun x6 =>
  getR h v1 0 0 fun x7 =>
  ldI h x7 20 v2 fun x8 =>
  if x8 ≤ 0 then stI h x6 20 v2 0 fun h =>
  k2 v0 v1 (v2 + 1) h
  else inv h v0 6 (s_X6_sharesOf v0 v2 h) fun x9 h =>
  stI h x6 20 v2 x9 fun h =>
  k2 v0 v1 (v2 + 1) h
def s_X6_divideHeat_L2 : Nat → Nat → Nat → Int32 → Hp → Rv Unit
  | 0, _, _, _, _ => none
  | n + 1, v0, v1, v2, h =>
    if 8 ≤ v2 then getR h v0 6 0 fun x1 =>
  ldI h x1 20 2 fun x2 =>
  inv h v0 6 (s_X6_storeWithInput v0 h) fun x3 h =>
  inv h v1 0 (s_X0_divide v1 (if x3 < x2 then x3 else x2) h) fun _ h =>
  retU h
  else getR h v1 0 0 fun x4 =>
  getI h v0 6 3 fun x5 =>
  if x5 ≤ v2 then s_X6_divideHeat_J33 (fun y0 y1 y2 h => s_X6_divideHeat_L2 n y0 y1 y2 h) v0 v1 v2 x4 v2 0 h
  else inv h v0 6 (s_X6_washerOf v0 v2 h) fun x10 h =>
  inv h x10 7 (s_X7_wantedHeat x10 h) fun x11 h =>
  s_X6_divideHeat_J33 (fun y0 y1 y2 h => s_X6_divideHeat_L2 n y0 y1 y2 h) v0 v1 v2 x4 v2 x11 h
def s_X6_divideHeat (a0 : Nat) (a1 : Nat) (h : Hp) : Rv Unit :=
  s_X6_divideHeat_L2 100000 a0 a1 0 h
set_option maxRecDepth 100000 in
set_option maxHeartbeats 4000000 in
theorem o_X6_divideHeat_J33 {l : Launch} {base : Nat} {D : va_G} {cA : Nat → ClassId} {p : Program} {e : Env} {s : State} {m : MethodId} {args : Array Value} {below : List Frame} {meth : Method} {c : Code} (C : GC base D cA p s m args meth c cX6_divideHeat 3 RX6) (hr : meth.sig.returnType = none) {X : Unit × Hp} {k2 : Nat → Nat → Int32 → Hp → Rv Unit} (K2 : ∀ (y0 : Nat) (y1 : Nat) (y2 : Int32) (h : Hp), k2 y0 y1 y2 h = some X → GW base D cA p l e rm_X6_divideHeat s m args below meth c (MQ below (QcU base D cA X.2) args s 0 0 (AA base)) 3 h 0 0 2 [(0, .ref (base + y0)), (1, .ref (base + y1)), (2, .int y2)] []) : ∀ (v0 : Nat) (v1 : Nat) (v2 : Int32) (w0 : Nat) (w1 : Int32) (w2 : Int32) (h : Hp), s_X6_divideHeat_J33 k2 v0 v1 v2 w0 w1 w2 h = some X → GW base D cA p l e rm_X6_divideHeat s m args below meth c (MQ below (QcU base D cA X.2) args s 0 0 (AA base)) 3 h 0 0 33 [(0, .ref (base + v0)), (1, .ref (base + v1)), (2, .int v2)] [.int w2, .int w1, .ref (base + w0)] := by
  intro v0 v1 v2 w0 w1 w2 h E
  unfold s_X6_divideHeat_J33 at E
  refine g_iast C dX6_divideHeat_33 E (fun h1 E => ?_)
  refine g_aload_n C 1 dX6_divideHeat_34 rfl rfl ?_
  refine g_getR C dX6_divideHeat_35 fl_X6_148 rfl E (fun x2 E => ?_)
  refine g_iload_n C 2 dX6_divideHeat_38 rfl rfl ?_
  refine g_aload_n C 1 dX6_divideHeat_39 rfl rfl ?_
  refine g_getR C dX6_divideHeat_40 fl_X6_143 rfl E (fun x3 E => ?_)
  refine g_iload_n C 2 dX6_divideHeat_43 rfl rfl ?_
  refine g_iald C dX6_divideHeat_44 E (fun x4 E => ?_)
  refine g_if_le C 56 dX6_divideHeat_45 (by decide) E (fun E => ?_) (fun E => ?_)
  · refine g_iconst C 0 dX6_divideHeat_56 rfl ?_
    refine g_iast C dX6_divideHeat_57 E (fun h5 E => ?_)
    refine g_iinc C (lv' := [(2, .int (v2 + 1)), (0, .ref (base + v0)), (1, .ref (base + v1))]) 2 1 dX6_divideHeat_58 rfl rfl (by decide) rfl ?_
    refine g_goto C 2 dX6_divideHeat_61 (by decide) ?_
    refine g_sub (lv' := [(0, .ref (base + v0)), (1, .ref (base + v1)), (2, .int (v2 + 1))]) [1, 2, 0] rfl ?_
    exact K2 v0 v1 (v2 + 1) h5 E
  · refine g_aload_n C 0 dX6_divideHeat_48 rfl rfl ?_
    refine g_iload_n C 2 dX6_divideHeat_49 rfl rfl ?_
    refine g_invI C (q := (RX6, TX6, 11)) [.int v2] dX6_divideHeat_50 cl_X6_150 cv_X6_sharesOf rfl (by decide) rfl rfl ⟨Nat.le_of_ble_eq_true rfl, Nat.le_of_ble_eq_true rfl⟩ (Nat.le_of_ble_eq_true rfl) ⟨Nat.le_of_ble_eq_true rfl, Nat.le_of_ble_eq_true rfl⟩ rfl (fun r' h' E => o_X6_sharesOf l base D cA v0 v2 h1 r' h' E) E (fun x6 h7 E => ?_)
    refine g_goto C 57 dX6_divideHeat_53 (by decide) ?_
    refine g_iast C dX6_divideHeat_57 E (fun h8 E => ?_)
    refine g_iinc C (lv' := [(2, .int (v2 + 1)), (0, .ref (base + v0)), (1, .ref (base + v1))]) 2 1 dX6_divideHeat_58 rfl rfl (by decide) rfl ?_
    refine g_goto C 2 dX6_divideHeat_61 (by decide) ?_
    refine g_sub (lv' := [(0, .ref (base + v0)), (1, .ref (base + v1)), (2, .int (v2 + 1))]) [1, 2, 0] rfl ?_
    exact K2 v0 v1 (v2 + 1) h8 E
set_option maxRecDepth 100000 in
set_option maxHeartbeats 4000000 in
theorem o_X6_divideHeat_L2 {l : Launch} {base : Nat} {D : va_G} {cA : Nat → ClassId} {p : Program} {e : Env} {s : State} {m : MethodId} {args : Array Value} {below : List Frame} {meth : Method} {c : Code} (C : GC base D cA p s m args meth c cX6_divideHeat 3 RX6) (hr : meth.sig.returnType = none) {X : Unit × Hp} : ∀ (n : Nat) (v0 : Nat) (v1 : Nat) (v2 : Int32) (h : Hp), s_X6_divideHeat_L2 n v0 v1 v2 h = some X → GW base D cA p l e rm_X6_divideHeat s m args below meth c (MQ below (QcU base D cA X.2) args s 0 0 (AA base)) 3 h 0 0 2 [(0, .ref (base + v0)), (1, .ref (base + v1)), (2, .int v2)] [] := by
  intro n
  induction n with
  | zero =>
    intro v0 v1 v2 h E
    rw [s_X6_divideHeat_L2] at E
    cases E
  | succ n ih =>
    intro v0 v1 v2 h E
    rw [s_X6_divideHeat_L2] at E
    refine g_iload_n C 2 dX6_divideHeat_2 rfl rfl ?_
    refine g_bipush C 8 dX6_divideHeat_3 rfl ?_
    refine g_icmp_ge C 64 dX6_divideHeat_5 (by decide) E (fun E => ?_) (fun E => ?_)
    · refine g_aload_n C 1 dX6_divideHeat_64 rfl rfl ?_
      refine g_aload_n C 0 dX6_divideHeat_65 rfl rfl ?_
      refine g_getR C dX6_divideHeat_66 fl_X6_9 rfl E (fun x1 E => ?_)
      refine g_iconst C 2 dX6_divideHeat_69 rfl ?_
      refine g_iald C dX6_divideHeat_70 E (fun x2 E => ?_)
      refine g_aload_n C 0 dX6_divideHeat_71 rfl rfl ?_
      refine g_invI C (q := (RX6, TX6, 11)) [] dX6_divideHeat_72 cl_X6_153 cv_X6_storeWithInput rfl (by decide) rfl rfl ⟨Nat.le_of_ble_eq_true rfl, Nat.le_of_ble_eq_true rfl⟩ (Nat.le_of_ble_eq_true rfl) ⟨Nat.le_of_ble_eq_true rfl, Nat.le_of_ble_eq_true rfl⟩ rfl (fun r' h' E => o_X6_storeWithInput l base D cA v0 h r' h' E) E (fun x3 h4 E => ?_)
      refine g_mmin C dX6_divideHeat_75 (in_wsA 412 (by decide +kernel) rfl) (in_wsA 413 (by decide +kernel) rfl) (in_wsA 11 (by decide +kernel) rfl) (in_wsA 414 (by decide +kernel) rfl) (Nat.le_of_ble_eq_true rfl) (Nat.le_of_ble_eq_true rfl) (Nat.le_of_ble_eq_true rfl) (Nat.le_of_ble_eq_true rfl) ?_
      refine g_invU C (q := (RX0, TX0, 3)) [.int (if x3 < x2 then x3 else x2)] dX6_divideHeat_78 cl_X6_162 cv_X0_divide rfl (by decide) rfl rfl ⟨Nat.le_of_ble_eq_true rfl, Nat.le_of_ble_eq_true rfl⟩ (Nat.le_of_ble_eq_true rfl) ⟨Nat.le_of_ble_eq_true rfl, Nat.le_of_ble_eq_true rfl⟩ rfl (fun r' h' E => o_X0_divide l base D cA v1 (if x3 < x2 then x3 else x2) h4 r' h' E) E (fun x5 h6 E => ?_)
      exact g_vret C dX6_divideHeat_81 hr E
    · refine g_aload_n C 1 dX6_divideHeat_8 rfl rfl ?_
      refine g_getR C dX6_divideHeat_9 fl_X6_143 rfl E (fun x7 E => ?_)
      refine g_iload_n C 2 dX6_divideHeat_12 rfl rfl ?_
      refine g_iload_n C 2 dX6_divideHeat_13 rfl rfl ?_
      refine g_aload_n C 0 dX6_divideHeat_14 rfl rfl ?_
      refine g_getI C dX6_divideHeat_15 fl_X6_27 (by decide) (by decide) E (fun x8 E => ?_)
      refine g_icmp_ge C 32 dX6_divideHeat_18 (by decide) E (fun E => ?_) (fun E => ?_)
      · refine g_iconst C 0 dX6_divideHeat_32 rfl ?_
        refine g_sub (lv' := [(0, .ref (base + v0)), (1, .ref (base + v1)), (2, .int v2)]) [0, 1, 2] rfl ?_
        refine o_X6_divideHeat_J33 C hr ?_ v0 v1 v2 x7 v2 0 h E
        · intro y9 y10 y11 h12 E
          refine g_sub (lv' := [(0, .ref (base + y9)), (1, .ref (base + y10)), (2, .int y11)]) [0, 1, 2] rfl ?_
          exact ih y9 y10 y11 h12 E
      · refine g_aload_n C 0 dX6_divideHeat_21 rfl rfl ?_
        refine g_iload_n C 2 dX6_divideHeat_22 rfl rfl ?_
        refine g_invR C (q := (RX6, TX6, 11)) [.int v2] dX6_divideHeat_23 cl_X6_86 cv_X6_washerOf rfl (by decide) rfl rfl ⟨Nat.le_of_ble_eq_true rfl, Nat.le_of_ble_eq_true rfl⟩ (Nat.le_of_ble_eq_true rfl) ⟨Nat.le_of_ble_eq_true rfl, Nat.le_of_ble_eq_true rfl⟩ rfl (fun r' h' E => o_X6_washerOf l base D cA v0 v2 h r' h' E) E (fun x13 h14 E => ?_)
        refine g_invI C (q := (RX7, TX7, 8)) [] dX6_divideHeat_26 cl_X6_140 cv_X7_wantedHeat rfl (by decide) rfl rfl ⟨Nat.le_of_ble_eq_true rfl, Nat.le_of_ble_eq_true rfl⟩ (Nat.le_of_ble_eq_true rfl) ⟨Nat.le_of_ble_eq_true rfl, Nat.le_of_ble_eq_true rfl⟩ rfl (fun r' h' E => o_X7_wantedHeat l base D cA x13 h14 r' h' E) E (fun x15 h16 E => ?_)
        refine g_goto C 33 dX6_divideHeat_29 (by decide) ?_
        refine g_sub (lv' := [(0, .ref (base + v0)), (1, .ref (base + v1)), (2, .int v2)]) [0, 1, 2] rfl ?_
        refine o_X6_divideHeat_J33 C hr ?_ v0 v1 v2 x7 v2 x15 h16 E
        · intro y17 y18 y19 h20 E
          refine g_sub (lv' := [(0, .ref (base + y17)), (1, .ref (base + y18)), (2, .int y19)]) [0, 1, 2] rfl ?_
          exact ih y17 y18 y19 h20 E
set_option maxRecDepth 100000 in
set_option maxHeartbeats 4000000 in
theorem o_X6_divideHeat (l : Launch) (base : Nat) (D : va_G) (cA : Nat → ClassId) (a0 : Nat) (a1 : Nat) (h : Hp) (r : Unit) (h' : Hp) (E : s_X6_divideHeat a0 a1 h = some (r, h')) : Met l yX6_divideHeat (.code yX6_divideHeat cX6_divideHeat 3 none :: wsA) rm_X6_divideHeat (PcG base D cA [.ref (base + a0), .ref (base + a1)] h) (QcU base D cA h') 0 0 (AA base) := by
  refine g_met [.ref (base + a0), .ref (base + a1)] (by decide) (Nat.le_of_ble_eq_true rfl) (fun p e s m args below meth c C hr hn => ?_)
  refine g_lv (lv' := [(0, .ref (base + a0)), (1, .ref (base + a1))]) rfl ?_
  unfold s_X6_divideHeat at E
  refine g_iconst C 0 dX6_divideHeat_0 rfl ?_
  refine g_istore_n C (lv' := [(2, .int 0), (0, .ref (base + a0)), (1, .ref (base + a1))]) dX6_divideHeat_1 rfl (by decide) rfl ?_
  refine g_sub (lv' := [(0, .ref (base + a0)), (1, .ref (base + a1)), (2, .int 0)]) [1, 2, 0] rfl ?_
  exact o_X6_divideHeat_L2 C hr _ a0 a1 0 h E
abbrev rm_X6_giveHeat : Room := { frames := 4, cells := 0, slots := 0, locals := 91 }
def s_X6_giveHeat_L30 : Nat → Nat → Nat → Int32 → Int32 → Int32 → Hp → Rv Int32
  | 0, _, _, _, _, _, _ => none
  | n + 1, v0, v1, v2, v3, v4, h =>
    getI h v0 6 3 fun x4 =>
  if x4 ≤ v4 then putI h v0 6 8 (v2 - v3) fun h =>
  getI h v0 6 10 fun x5 =>
  putI h v0 6 10 (x5 + v3) fun h =>
  retI v3 h
  else getR h v0 6 1 fun x6 =>
  ldR h x6 22 v4 fun x7 =>
  getI h x7 2 4 fun x8 =>
  getR h v1 0 2 fun x9 =>
  ldI h x9 20 v4 fun x10 =>
  putI h x7 2 4 (x8 + x10) fun h =>
  getR h v1 0 2 fun x11 =>
  ldI h x11 20 v4 fun x12 =>
  s_X6_giveHeat_L30 n v0 v1 v2 (v3 + x12) (v4 + 1) h
def s_X6_giveHeat (a0 : Nat) (a1 : Nat) (h : Hp) : Rv Int32 :=
  inv h a0 6 (s_X6_divideHeat a0 a1 h) fun _ h =>
  inv h a0 6 (s_X6_storeWithInput a0 h) fun x1 h =>
  getI h a0 6 9 fun x2 =>
  getI h a0 6 8 fun x3 =>
  putI h a0 6 9 (x2 + (x1 - x3)) fun h =>
  s_X6_giveHeat_L30 100000 a0 a1 x1 0 0 h
set_option maxRecDepth 100000 in
set_option maxHeartbeats 4000000 in
theorem o_X6_giveHeat_L30 {l : Launch} {base : Nat} {D : va_G} {cA : Nat → ClassId} {p : Program} {e : Env} {s : State} {m : MethodId} {args : Array Value} {below : List Frame} {meth : Method} {c : Code} (C : GC base D cA p s m args meth c cX6_giveHeat 5 RX6) (hr : meth.sig.returnType = (some .int)) {X : Int32 × Hp} : ∀ (n : Nat) (v0 : Nat) (v1 : Nat) (v2 : Int32) (v3 : Int32) (v4 : Int32) (h : Hp), s_X6_giveHeat_L30 n v0 v1 v2 v3 v4 h = some X → GW base D cA p l e rm_X6_giveHeat s m args below meth c (MQ below (QcI base D cA X.1 X.2) args s 0 0 (AA base)) 5 h 0 0 30 [(0, .ref (base + v0)), (1, .ref (base + v1)), (2, .int v2), (3, .int v3), (4, .int v4)] [] := by
  intro n
  induction n with
  | zero =>
    intro v0 v1 v2 v3 v4 h E
    rw [s_X6_giveHeat_L30] at E
    cases E
  | succ n ih =>
    intro v0 v1 v2 v3 v4 h E
    rw [s_X6_giveHeat_L30] at E
    refine g_iload C 4 dX6_giveHeat_30 rfl ?_
    refine g_aload_n C 0 dX6_giveHeat_32 rfl rfl ?_
    refine g_getI C dX6_giveHeat_33 fl_X6_27 (by decide) (by decide) E (fun x1 E => ?_)
    refine g_icmp_ge C 77 dX6_giveHeat_36 (by decide) E (fun E => ?_) (fun E => ?_)
    · refine g_aload_n C 0 dX6_giveHeat_77 rfl rfl ?_
      refine g_iload_n C 2 dX6_giveHeat_78 rfl rfl ?_
      refine g_iload_n C 3 dX6_giveHeat_79 rfl rfl ?_
      refine g_isub C dX6_giveHeat_80 ?_
      refine g_putI C false dX6_giveHeat_81 fl_X6_44 fp_X6_6_8 (fun q => Bool.noConfusion q) rfl E (fun h2 E => ?_)
      refine g_aload_n C 0 dX6_giveHeat_84 rfl rfl ?_
      refine g_dup C dX6_giveHeat_85 rfl ?_
      refine g_getI C dX6_giveHeat_86 fl_X6_50 (by decide) (by decide) E (fun x3 E => ?_)
      refine g_iload_n C 3 dX6_giveHeat_89 rfl rfl ?_
      refine g_iadd C dX6_giveHeat_90 ?_
      refine g_putI C false dX6_giveHeat_91 fl_X6_50 fp_X6_6_10 (fun q => Bool.noConfusion q) rfl E (fun h4 E => ?_)
      refine g_iload_n C 3 dX6_giveHeat_94 rfl rfl ?_
      exact g_iret C dX6_giveHeat_95 hr E
    · refine g_aload_n C 0 dX6_giveHeat_39 rfl rfl ?_
      refine g_getR C dX6_giveHeat_40 fl_X6_17 rfl E (fun x5 E => ?_)
      refine g_iload C 4 dX6_giveHeat_43 rfl ?_
      refine g_aald C 2 (by decide) (by decide) rfl dX6_giveHeat_45 E (fun x6 E => ?_)
      refine g_dup C dX6_giveHeat_46 rfl ?_
      refine g_getI C dX6_giveHeat_47 fl_X6_185 (by decide) (by decide) E (fun x7 E => ?_)
      refine g_aload_n C 1 dX6_giveHeat_50 rfl rfl ?_
      refine g_getR C dX6_giveHeat_51 fl_X6_188 rfl E (fun x8 E => ?_)
      refine g_iload C 4 dX6_giveHeat_54 rfl ?_
      refine g_iald C dX6_giveHeat_56 E (fun x9 E => ?_)
      refine g_iadd C dX6_giveHeat_57 ?_
      refine g_putI C false dX6_giveHeat_58 fl_X6_185 fp_X6_2_4 (fun q => Bool.noConfusion q) rfl E (fun h10 E => ?_)
      refine g_iload_n C 3 dX6_giveHeat_61 rfl rfl ?_
      refine g_aload_n C 1 dX6_giveHeat_62 rfl rfl ?_
      refine g_getR C dX6_giveHeat_63 fl_X6_188 rfl E (fun x11 E => ?_)
      refine g_iload C 4 dX6_giveHeat_66 rfl ?_
      refine g_iald C dX6_giveHeat_68 E (fun x12 E => ?_)
      refine g_iadd C dX6_giveHeat_69 ?_
      refine g_istore_n C (lv' := [(3, .int (v3 + x12)), (0, .ref (base + v0)), (1, .ref (base + v1)), (2, .int v2), (4, .int v4)]) dX6_giveHeat_70 rfl (by decide) rfl ?_
      refine g_iinc C (lv' := [(4, .int (v4 + 1)), (3, .int (v3 + x12)), (0, .ref (base + v0)), (1, .ref (base + v1)), (2, .int v2)]) 4 1 dX6_giveHeat_71 rfl rfl (by decide) rfl ?_
      refine g_goto C 30 dX6_giveHeat_74 (by decide) ?_
      refine g_sub (lv' := [(0, .ref (base + v0)), (1, .ref (base + v1)), (2, .int v2), (3, .int (v3 + x12)), (4, .int (v4 + 1))]) [2, 3, 4, 1, 0] rfl ?_
      exact ih v0 v1 v2 (v3 + x12) (v4 + 1) h10 E
set_option maxRecDepth 100000 in
set_option maxHeartbeats 4000000 in
theorem o_X6_giveHeat (l : Launch) (base : Nat) (D : va_G) (cA : Nat → ClassId) (a0 : Nat) (a1 : Nat) (h : Hp) (r : Int32) (h' : Hp) (E : s_X6_giveHeat a0 a1 h = some (r, h')) : Met l yX6_giveHeat (.code yX6_giveHeat cX6_giveHeat 5 (some .int) :: wsA) rm_X6_giveHeat (PcG base D cA [.ref (base + a0), .ref (base + a1)] h) (QcI base D cA r h') 0 0 (AA base) := by
  refine g_met [.ref (base + a0), .ref (base + a1)] (by decide) (Nat.le_of_ble_eq_true rfl) (fun p e s m args below meth c C hr hn => ?_)
  refine g_lv (lv' := [(0, .ref (base + a0)), (1, .ref (base + a1))]) rfl ?_
  unfold s_X6_giveHeat at E
  refine g_aload_n C 0 dX6_giveHeat_0 rfl rfl ?_
  refine g_aload_n C 1 dX6_giveHeat_1 rfl rfl ?_
  refine g_invU C (q := (RX6, TX6, 11)) [.ref (base + a1)] dX6_giveHeat_2 cl_X6_182 cv_X6_divideHeat rfl (by decide) rfl rfl ⟨Nat.le_of_ble_eq_true rfl, Nat.le_of_ble_eq_true rfl⟩ (Nat.le_of_ble_eq_true rfl) ⟨Nat.le_of_ble_eq_true rfl, Nat.le_of_ble_eq_true rfl⟩ rfl (fun r' h' E => o_X6_divideHeat l base D cA a0 a1 h r' h' E) E (fun x1 h2 E => ?_)
  refine g_aload_n C 0 dX6_giveHeat_5 rfl rfl ?_
  refine g_invI C (q := (RX6, TX6, 11)) [] dX6_giveHeat_6 cl_X6_153 cv_X6_storeWithInput rfl (by decide) rfl rfl ⟨Nat.le_of_ble_eq_true rfl, Nat.le_of_ble_eq_true rfl⟩ (Nat.le_of_ble_eq_true rfl) ⟨Nat.le_of_ble_eq_true rfl, Nat.le_of_ble_eq_true rfl⟩ rfl (fun r' h' E => o_X6_storeWithInput l base D cA a0 h2 r' h' E) E (fun x3 h4 E => ?_)
  refine g_istore_n C (lv' := [(2, .int x3), (0, .ref (base + a0)), (1, .ref (base + a1))]) dX6_giveHeat_9 rfl (by decide) rfl ?_
  refine g_aload_n C 1 dX6_giveHeat_10 rfl rfl ?_
  refine g_dup C dX6_giveHeat_11 rfl ?_
  refine g_getI C dX6_giveHeat_12 fl_X6_47 (by decide) (by decide) E (fun x5 E => ?_)
  refine g_iload_n C 0 dX6_giveHeat_15 rfl rfl ?_
  refine g_aload_n C 1 dX6_giveHeat_16 rfl rfl ?_
  refine g_getI C dX6_giveHeat_17 fl_X6_44 (by decide) (by decide) E (fun x6 E => ?_)
  refine g_isub C dX6_giveHeat_20 ?_
  refine g_iadd C dX6_giveHeat_21 ?_
  refine g_putI C false dX6_giveHeat_22 fl_X6_47 fp_X6_6_9 (fun q => Bool.noConfusion q) rfl E (fun h7 E => ?_)
  refine g_iconst C 0 dX6_giveHeat_25 rfl ?_
  refine g_istore_n C (lv' := [(3, .int 0), (2, .int x3), (0, .ref (base + a0)), (1, .ref (base + a1))]) dX6_giveHeat_26 rfl (by decide) rfl ?_
  refine g_iconst C 0 dX6_giveHeat_27 rfl ?_
  refine g_istore C (lv' := [(4, .int 0), (3, .int 0), (2, .int x3), (0, .ref (base + a0)), (1, .ref (base + a1))]) dX6_giveHeat_28 (by decide) rfl ?_
  refine g_sub (lv' := [(0, .ref (base + a0)), (1, .ref (base + a1)), (2, .int x3), (3, .int 0), (4, .int 0)]) [3, 4, 2, 1, 0] rfl ?_
  exact o_X6_giveHeat_L30 C hr _ a0 a1 x3 0 0 h7 E
