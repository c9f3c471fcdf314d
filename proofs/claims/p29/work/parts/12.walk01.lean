abbrev rm_X6_copyFrom : Room := { frames := 2, cells := 0, slots := 0, locals := 42 }
def s_X6_copyFrom_L2 (k25 : Nat → Nat → Hp → Rv Unit) : Nat → Nat → Nat → Int32 → Hp → Rv Unit
  | 0, _, _, _, _ => none
  | n + 1, v0, v1, v2, h =>
    if 4 ≤ v2 then k25 v0 v1 h
  else getR h v0 6 0 fun x1 =>
  getR h v1 6 0 fun x2 =>
  ldI h x2 20 v2 fun x3 =>
  stI h x1 20 v2 x3 fun h =>
  s_X6_copyFrom_L2 k25 n v0 v1 (v2 + 1) h
def s_X6_copyFrom_L27 (k54 : Nat → Nat → Hp → Rv Unit) : Nat → Nat → Nat → Int32 → Hp → Rv Unit
  | 0, _, _, _, _ => none
  | n + 1, v0, v1, v2, h =>
    if 8 ≤ v2 then k54 v0 v1 h
  else getR h v0 6 1 fun x4 =>
  ldR h x4 22 v2 fun x5 =>
  getR h v1 6 1 fun x6 =>
  ldR h x6 22 v2 fun x7 =>
  inv h x5 2 (s_X2_copyFrom x5 x7 h) fun _ h =>
  s_X6_copyFrom_L27 k54 n v0 v1 (v2 + 1) h
def s_X6_copyFrom_L56 : Nat → Nat → Nat → Int32 → Hp → Rv Unit
  | 0, _, _, _, _ => none
  | n + 1, v0, v1, v2, h =>
    if 10 ≤ v2 then getI h v1 6 3 fun x8 =>
  putI h v0 6 3 x8 fun h =>
  getI h v1 6 4 fun x9 =>
  putI h v0 6 4 x9 fun h =>
  getI h v1 6 5 fun x10 =>
  putI h v0 6 5 x10 fun h =>
  getI h v1 6 6 fun x11 =>
  putI h v0 6 6 x11 fun h =>
  getI h v1 6 7 fun x12 =>
  putZ h v0 6 7 x12 fun h =>
  getI h v1 6 8 fun x13 =>
  putI h v0 6 8 x13 fun h =>
  getI h v1 6 9 fun x14 =>
  putI h v0 6 9 x14 fun h =>
  getI h v1 6 10 fun x15 =>
  putI h v0 6 10 x15 fun h =>
  retU h
  else getR h v0 6 2 fun x16 =>
  ldR h x16 23 v2 fun x17 =>
  getR h v1 6 2 fun x18 =>
  ldR h x18 23 v2 fun x19 =>
  inv h x17 3 (s_X3_copyFrom x17 x19 h) fun _ h =>
  s_X6_copyFrom_L56 n v0 v1 (v2 + 1) h
def s_X6_copyFrom (a0 : Nat) (a1 : Nat) (h : Hp) : Rv Unit :=
  s_X6_copyFrom_L2 (fun y0 y1 h => s_X6_copyFrom_L27 (fun y0 y1 h => s_X6_copyFrom_L56 100000 y0 y1 0 h) 100000 y0 y1 0 h) 100000 a0 a1 0 h
set_option maxRecDepth 100000 in
set_option maxHeartbeats 4000000 in
theorem o_X6_copyFrom_L2 {l : Launch} {base : Nat} {D : va_G} {cA : Nat → ClassId} {p : Program} {e : Env} {s : State} {m : MethodId} {args : Array Value} {below : List Frame} {meth : Method} {c : Code} (C : GC base D cA p s m args meth c cX6_copyFrom 3 RX6) (hr : meth.sig.returnType = none) {X : Unit × Hp} {k25 : Nat → Nat → Hp → Rv Unit} (K25 : ∀ (y0 : Nat) (y1 : Nat) (h : Hp), k25 y0 y1 h = some X → GW base D cA p l e rm_X6_copyFrom s m args below meth c (MQ below (QcU base D cA X.2) args s 0 0 (AA base)) 3 h 0 0 25 [(0, .ref (base + y0)), (1, .ref (base + y1))] []) : ∀ (n : Nat) (v0 : Nat) (v1 : Nat) (v2 : Int32) (h : Hp), s_X6_copyFrom_L2 k25 n v0 v1 v2 h = some X → GW base D cA p l e rm_X6_copyFrom s m args below meth c (MQ below (QcU base D cA X.2) args s 0 0 (AA base)) 3 h 0 0 2 [(0, .ref (base + v0)), (1, .ref (base + v1)), (2, .int v2)] [] := by
  intro n
  induction n with
  | zero =>
    intro v0 v1 v2 h E
    rw [s_X6_copyFrom_L2] at E
    cases E
  | succ n ih =>
    intro v0 v1 v2 h E
    rw [s_X6_copyFrom_L2] at E
    refine g_iload_n C 2 dX6_copyFrom_2 rfl rfl ?_
    refine g_iconst C 4 dX6_copyFrom_3 rfl ?_
    refine g_icmp_ge C 25 dX6_copyFrom_4 (by decide) E (fun E => ?_) (fun E => ?_)
    · refine g_sub (lv' := [(0, .ref (base + v0)), (1, .ref (base + v1))]) [0, 1] rfl ?_
      exact K25 v0 v1 h E
    · refine g_aload_n C 0 dX6_copyFrom_7 rfl rfl ?_
      refine g_getR C dX6_copyFrom_8 fl_X6_9 rfl E (fun x1 E => ?_)
      refine g_iload_n C 2 dX6_copyFrom_11 rfl rfl ?_
      refine g_aload_n C 1 dX6_copyFrom_12 rfl rfl ?_
      refine g_getR C dX6_copyFrom_13 fl_X6_9 rfl E (fun x2 E => ?_)
      refine g_iload_n C 2 dX6_copyFrom_16 rfl rfl ?_
      refine g_iald C dX6_copyFrom_17 E (fun x3 E => ?_)
      refine g_iast C dX6_copyFrom_18 E (fun h4 E => ?_)
      refine g_iinc C (lv' := [(2, .int (v2 + 1)), (0, .ref (base + v0)), (1, .ref (base + v1))]) 2 1 dX6_copyFrom_19 rfl rfl (by decide) rfl ?_
      refine g_goto C 2 dX6_copyFrom_22 (by decide) ?_
      refine g_sub (lv' := [(0, .ref (base + v0)), (1, .ref (base + v1)), (2, .int (v2 + 1))]) [1, 2, 0] rfl ?_
      exact ih v0 v1 (v2 + 1) h4 E
set_option maxRecDepth 100000 in
set_option maxHeartbeats 4000000 in
theorem o_X6_copyFrom_L27 {l : Launch} {base : Nat} {D : va_G} {cA : Nat → ClassId} {p : Program} {e : Env} {s : State} {m : MethodId} {args : Array Value} {below : List Frame} {meth : Method} {c : Code} (C : GC base D cA p s m args meth c cX6_copyFrom 3 RX6) (hr : meth.sig.returnType = none) {X : Unit × Hp} {k54 : Nat → Nat → Hp → Rv Unit} (K54 : ∀ (y0 : Nat) (y1 : Nat) (h : Hp), k54 y0 y1 h = some X → GW base D cA p l e rm_X6_copyFrom s m args below meth c (MQ below (QcU base D cA X.2) args s 0 0 (AA base)) 3 h 0 0 54 [(0, .ref (base + y0)), (1, .ref (base + y1))] []) : ∀ (n : Nat) (v0 : Nat) (v1 : Nat) (v2 : Int32) (h : Hp), s_X6_copyFrom_L27 k54 n v0 v1 v2 h = some X → GW base D cA p l e rm_X6_copyFrom s m args below meth c (MQ below (QcU base D cA X.2) args s 0 0 (AA base)) 3 h 0 0 27 [(0, .ref (base + v0)), (1, .ref (base + v1)), (2, .int v2)] [] := by
  intro n
  induction n with
  | zero =>
    intro v0 v1 v2 h E
    rw [s_X6_copyFrom_L27] at E
    cases E
  | succ n ih =>
    intro v0 v1 v2 h E
    rw [s_X6_copyFrom_L27] at E
    refine g_iload_n C 2 dX6_copyFrom_27 rfl rfl ?_
    refine g_bipush C 8 dX6_copyFrom_28 rfl ?_
    refine g_icmp_ge C 54 dX6_copyFrom_30 (by decide) E (fun E => ?_) (fun E => ?_)
    · refine g_sub (lv' := [(0, .ref (base + v0)), (1, .ref (base + v1))]) [0, 1] rfl ?_
      exact K54 v0 v1 h E
    · refine g_aload_n C 0 dX6_copyFrom_33 rfl rfl ?_
      refine g_getR C dX6_copyFrom_34 fl_X6_17 rfl E (fun x1 E => ?_)
      refine g_iload_n C 2 dX6_copyFrom_37 rfl rfl ?_
      refine g_aald C 2 (by decide) (by decide) rfl dX6_copyFrom_38 E (fun x2 E => ?_)
      refine g_aload_n C 1 dX6_copyFrom_39 rfl rfl ?_
      refine g_getR C dX6_copyFrom_40 fl_X6_17 rfl E (fun x3 E => ?_)
      refine g_iload_n C 2 dX6_copyFrom_43 rfl rfl ?_
      refine g_aald C 2 (by decide) (by decide) rfl dX6_copyFrom_44 E (fun x4 E => ?_)
      refine g_invU C (q := (RX2, TX2, 10)) [.ref (base + x4)] dX6_copyFrom_45 cl_X6_62 cv_X2_copyFrom rfl (by decide) rfl rfl ⟨Nat.le_of_ble_eq_true rfl, Nat.le_of_ble_eq_true rfl⟩ (Nat.le_of_ble_eq_true rfl) ⟨Nat.le_of_ble_eq_true rfl, Nat.le_of_ble_eq_true rfl⟩ rfl (fun r' h' E => o_X2_copyFrom l base D cA x2 x4 h r' h' E) E (fun x5 h6 E => ?_)
      refine g_iinc C (lv' := [(2, .int (v2 + 1)), (0, .ref (base + v0)), (1, .ref (base + v1))]) 2 1 dX6_copyFrom_48 rfl rfl (by decide) rfl ?_
      refine g_goto C 27 dX6_copyFrom_51 (by decide) ?_
      refine g_sub (lv' := [(0, .ref (base + v0)), (1, .ref (base + v1)), (2, .int (v2 + 1))]) [1, 2, 0] rfl ?_
      exact ih v0 v1 (v2 + 1) h6 E
set_option maxRecDepth 100000 in
set_option maxHeartbeats 4000000 in
theorem o_X6_copyFrom_L56 {l : Launch} {base : Nat} {D : va_G} {cA : Nat → ClassId} {p : Program} {e : Env} {s : State} {m : MethodId} {args : Array Value} {below : List Frame} {meth : Method} {c : Code} (C : GC base D cA p s m args meth c cX6_copyFrom 3 RX6) (hr : meth.sig.returnType = none) {X : Unit × Hp} : ∀ (n : Nat) (v0 : Nat) (v1 : Nat) (v2 : Int32) (h : Hp), s_X6_copyFrom_L56 n v0 v1 v2 h = some X → GW base D cA p l e rm_X6_copyFrom s m args below meth c (MQ below (QcU base D cA X.2) args s 0 0 (AA base)) 3 h 0 0 56 [(0, .ref (base + v0)), (1, .ref (base + v1)), (2, .int v2)] [] := by
  intro n
  induction n with
  | zero =>
    intro v0 v1 v2 h E
    rw [s_X6_copyFrom_L56] at E
    cases E
  | succ n ih =>
    intro v0 v1 v2 h E
    rw [s_X6_copyFrom_L56] at E
    refine g_iload_n C 2 dX6_copyFrom_56 rfl rfl ?_
    refine g_bipush C 10 dX6_copyFrom_57 rfl ?_
    refine g_icmp_ge C 83 dX6_copyFrom_59 (by decide) E (fun E => ?_) (fun E => ?_)
    · refine g_aload_n C 0 dX6_copyFrom_83 rfl rfl ?_
      refine g_aload_n C 1 dX6_copyFrom_84 rfl rfl ?_
      refine g_getI C dX6_copyFrom_85 fl_X6_27 (by decide) (by decide) E (fun x1 E => ?_)
      refine g_putI C false dX6_copyFrom_88 fl_X6_27 fp_X6_6_3 (fun q => Bool.noConfusion q) rfl E (fun h2 E => ?_)
      refine g_aload_n C 0 dX6_copyFrom_91 rfl rfl ?_
      refine g_aload_n C 1 dX6_copyFrom_92 rfl rfl ?_
      refine g_getI C dX6_copyFrom_93 fl_X6_31 (by decide) (by decide) E (fun x3 E => ?_)
      refine g_putI C false dX6_copyFrom_96 fl_X6_31 fp_X6_6_4 (fun q => Bool.noConfusion q) rfl E (fun h4 E => ?_)
      refine g_aload_n C 0 dX6_copyFrom_99 rfl rfl ?_
      refine g_aload_n C 1 dX6_copyFrom_100 rfl rfl ?_
      refine g_getI C dX6_copyFrom_101 fl_X6_34 (by decide) (by decide) E (fun x5 E => ?_)
      refine g_putI C false dX6_copyFrom_104 fl_X6_34 fp_X6_6_5 (fun q => Bool.noConfusion q) rfl E (fun h6 E => ?_)
      refine g_aload_n C 0 dX6_copyFrom_107 rfl rfl ?_
      refine g_aload_n C 1 dX6_copyFrom_108 rfl rfl ?_
      refine g_getI C dX6_copyFrom_109 fl_X6_37 (by decide) (by decide) E (fun x7 E => ?_)
      refine g_putI C false dX6_copyFrom_112 fl_X6_37 fp_X6_6_6 (fun q => Bool.noConfusion q) rfl E (fun h8 E => ?_)
      refine g_aload_n C 0 dX6_copyFrom_115 rfl rfl ?_
      refine g_aload_n C 1 dX6_copyFrom_116 rfl rfl ?_
      refine g_getI C dX6_copyFrom_117 fl_X6_40 (by decide) (by decide) E (fun x9 E => ?_)
      refine g_putZ C false dX6_copyFrom_120 fl_X6_40 fp_X6_6_7 (fun q => Bool.noConfusion q) rfl E (fun h10 E => ?_)
      refine g_aload_n C 0 dX6_copyFrom_123 rfl rfl ?_
      refine g_aload_n C 1 dX6_copyFrom_124 rfl rfl ?_
      refine g_getI C dX6_copyFrom_125 fl_X6_44 (by decide) (by decide) E (fun x11 E => ?_)
      refine g_putI C false dX6_copyFrom_128 fl_X6_44 fp_X6_6_8 (fun q => Bool.noConfusion q) rfl E (fun h12 E => ?_)
      refine g_aload_n C 0 dX6_copyFrom_131 rfl rfl ?_
      refine g_aload_n C 1 dX6_copyFrom_132 rfl rfl ?_
      refine g_getI C dX6_copyFrom_133 fl_X6_47 (by decide) (by decide) E (fun x13 E => ?_)
      refine g_putI C false dX6_copyFrom_136 fl_X6_47 fp_X6_6_9 (fun q => Bool.noConfusion q) rfl E (fun h14 E => ?_)
      refine g_aload_n C 0 dX6_copyFrom_139 rfl rfl ?_
      refine g_aload_n C 1 dX6_copyFrom_140 rfl rfl ?_
      refine g_getI C dX6_copyFrom_141 fl_X6_50 (by decide) (by decide) E (fun x15 E => ?_)
      refine g_putI C false dX6_copyFrom_144 fl_X6_50 fp_X6_6_10 (fun q => Bool.noConfusion q) rfl E (fun h16 E => ?_)
      exact g_vret C dX6_copyFrom_147 hr E
    · refine g_aload_n C 0 dX6_copyFrom_62 rfl rfl ?_
      refine g_getR C dX6_copyFrom_63 fl_X6_23 rfl E (fun x17 E => ?_)
      refine g_iload_n C 2 dX6_copyFrom_66 rfl rfl ?_
      refine g_aald C 3 (by decide) (by decide) rfl dX6_copyFrom_67 E (fun x18 E => ?_)
      refine g_aload_n C 1 dX6_copyFrom_68 rfl rfl ?_
      refine g_getR C dX6_copyFrom_69 fl_X6_23 rfl E (fun x19 E => ?_)
      refine g_iload_n C 2 dX6_copyFrom_72 rfl rfl ?_
      refine g_aald C 3 (by decide) (by decide) rfl dX6_copyFrom_73 E (fun x20 E => ?_)
      refine g_invU C (q := (RX3, TX3, 5)) [.ref (base + x20)] dX6_copyFrom_74 cl_X6_66 cv_X3_copyFrom rfl (by decide) rfl rfl ⟨Nat.le_of_ble_eq_true rfl, Nat.le_of_ble_eq_true rfl⟩ (Nat.le_of_ble_eq_true rfl) ⟨Nat.le_of_ble_eq_true rfl, Nat.le_of_ble_eq_true rfl⟩ rfl (fun r' h' E => o_X3_copyFrom l base D cA x18 x20 h r' h' E) E (fun x21 h22 E => ?_)
      refine g_iinc C (lv' := [(2, .int (v2 + 1)), (0, .ref (base + v0)), (1, .ref (base + v1))]) 2 1 dX6_copyFrom_77 rfl rfl (by decide) rfl ?_
      refine g_goto C 56 dX6_copyFrom_80 (by decide) ?_
      refine g_sub (lv' := [(0, .ref (base + v0)), (1, .ref (base + v1)), (2, .int (v2 + 1))]) [1, 2, 0] rfl ?_
      exact ih v0 v1 (v2 + 1) h22 E
set_option maxRecDepth 100000 in
set_option maxHeartbeats 4000000 in
theorem o_X6_copyFrom (l : Launch) (base : Nat) (D : va_G) (cA : Nat → ClassId) (a0 : Nat) (a1 : Nat) (h : Hp) (r : Unit) (h' : Hp) (E : s_X6_copyFrom a0 a1 h = some (r, h')) : Met l yX6_copyFrom (.code yX6_copyFrom cX6_copyFrom 3 none :: wsA) rm_X6_copyFrom (PcG base D cA [.ref (base + a0), .ref (base + a1)] h) (QcU base D cA h') 0 0 (AA base) := by
  refine g_met [.ref (base + a0), .ref (base + a1)] (by decide) (Nat.le_of_ble_eq_true rfl) (fun p e s m args below meth c C hr hn => ?_)
  refine g_lv (lv' := [(0, .ref (base + a0)), (1, .ref (base + a1))]) rfl ?_
  unfold s_X6_copyFrom at E
  refine g_iconst C 0 dX6_copyFrom_0 rfl ?_
  refine g_istore_n C (lv' := [(2, .int 0), (0, .ref (base + a0)), (1, .ref (base + a1))]) dX6_copyFrom_1 rfl (by decide) rfl ?_
  refine g_sub (lv' := [(0, .ref (base + a0)), (1, .ref (base + a1)), (2, .int 0)]) [1, 2, 0] rfl ?_
  refine o_X6_copyFrom_L2 C hr ?_ _ a0 a1 0 h E
  · intro y1 y2 h3 E
    refine g_iconst C 0 dX6_copyFrom_25 rfl ?_
    refine g_istore_n C (lv' := [(2, .int 0), (0, .ref (base + y1)), (1, .ref (base + y2))]) dX6_copyFrom_26 rfl (by decide) rfl ?_
    refine g_sub (lv' := [(0, .ref (base + y1)), (1, .ref (base + y2)), (2, .int 0)]) [1, 2, 0] rfl ?_
    refine o_X6_copyFrom_L27 C hr ?_ _ y1 y2 0 h3 E
    · intro y4 y5 h6 E
      refine g_iconst C 0 dX6_copyFrom_54 rfl ?_
      refine g_istore_n C (lv' := [(2, .int 0), (0, .ref (base + y4)), (1, .ref (base + y5))]) dX6_copyFrom_55 rfl (by decide) rfl ?_
      refine g_sub (lv' := [(0, .ref (base + y4)), (1, .ref (base + y5)), (2, .int 0)]) [1, 2, 0] rfl ?_
      exact o_X6_copyFrom_L56 C hr _ y4 y5 0 h6 E
abbrev rm_X1_record : Room := { frames := 3, cells := 0, slots := 0, locals := 64 }
def s_X1_record_J12 (v0 : Nat) (v1 : Nat) (h : Hp) : Rv Unit :=
  getR h v0 1 0 fun x2 =>
  getI h v0 1 1 fun x3 =>
  ldR h x2 24 x3 fun x4 =>
  inv h x4 6 (s_X6_copyFrom x4 v1 h) fun _ h =>
  getI h v0 1 1 fun x5 =>
  putI h v0 1 1 (x5 + 1) fun h =>
  retU h
def s_X1_record (a0 : Nat) (a1 : Nat) (h : Hp) : Rv Unit :=
  getI h a0 1 1 fun x1 =>
  if x1 = 4 then inv h a0 1 (s_X1_dropOldest a0 h) fun _ h =>
  s_X1_record_J12 a0 a1 h
  else s_X1_record_J12 a0 a1 h
set_option maxRecDepth 100000 in
set_option maxHeartbeats 4000000 in
theorem o_X1_record_J12 {l : Launch} {base : Nat} {D : va_G} {cA : Nat → ClassId} {p : Program} {e : Env} {s : State} {m : MethodId} {args : Array Value} {below : List Frame} {meth : Method} {c : Code} (C : GC base D cA p s m args meth c cX1_record 2 RX1) (hr : meth.sig.returnType = none) {X : Unit × Hp} : ∀ (v0 : Nat) (v1 : Nat) (h : Hp), s_X1_record_J12 v0 v1 h = some X → GW base D cA p l e rm_X1_record s m args below meth c (MQ below (QcU base D cA X.2) args s 0 0 (AA base)) 2 h 0 0 12 [(0, .ref (base + v0)), (1, .ref (base + v1))] [] := by
  intro v0 v1 h E
  unfold s_X1_record_J12 at E
  refine g_aload_n C 0 dX1_record_12 rfl rfl ?_
  refine g_getR C dX1_record_13 fl_X1_11 rfl E (fun x1 E => ?_)
  refine g_aload_n C 0 dX1_record_16 rfl rfl ?_
  refine g_getI C dX1_record_17 fl_X1_17 (by decide) (by decide) E (fun x2 E => ?_)
  refine g_aald C 4 (by decide) (by decide) rfl dX1_record_20 E (fun x3 E => ?_)
  refine g_aload_n C 1 dX1_record_21 rfl rfl ?_
  refine g_invU C (q := (RX6, TX6, 11)) [.ref (base + v1)] dX1_record_22 cl_X1_25 cv_X6_copyFrom rfl (by decide) rfl rfl ⟨Nat.le_of_ble_eq_true rfl, Nat.le_of_ble_eq_true rfl⟩ (Nat.le_of_ble_eq_true rfl) ⟨Nat.le_of_ble_eq_true rfl, Nat.le_of_ble_eq_true rfl⟩ rfl (fun r' h' E => o_X6_copyFrom l base D cA x3 v1 h r' h' E) E (fun x4 h5 E => ?_)
  refine g_aload_n C 0 dX1_record_25 rfl rfl ?_
  refine g_dup C dX1_record_26 rfl ?_
  refine g_getI C dX1_record_27 fl_X1_17 (by decide) (by decide) E (fun x6 E => ?_)
  refine g_iconst C 1 dX1_record_30 rfl ?_
  refine g_iadd C dX1_record_31 ?_
  refine g_putI C false dX1_record_32 fl_X1_17 fp_X1_1_1 (fun q => Bool.noConfusion q) rfl E (fun h7 E => ?_)
  exact g_vret C dX1_record_35 hr E
set_option maxRecDepth 100000 in
set_option maxHeartbeats 4000000 in
theorem o_X1_record (l : Launch) (base : Nat) (D : va_G) (cA : Nat → ClassId) (a0 : Nat) (a1 : Nat) (h : Hp) (r : Unit) (h' : Hp) (E : s_X1_record a0 a1 h = some (r, h')) : Met l yX1_record (.code yX1_record cX1_record 2 none :: wsA) rm_X1_record (PcG base D cA [.ref (base + a0), .ref (base + a1)] h) (QcU base D cA h') 0 0 (AA base) := by
  refine g_met [.ref (base + a0), .ref (base + a1)] (by decide) (Nat.le_of_ble_eq_true rfl) (fun p e s m args below meth c C hr hn => ?_)
  refine g_lv (lv' := [(0, .ref (base + a0)), (1, .ref (base + a1))]) rfl ?_
  unfold s_X1_record at E
  refine g_aload_n C 0 dX1_record_0 rfl rfl ?_
  refine g_getI C dX1_record_1 fl_X1_17 (by decide) (by decide) E (fun x1 E => ?_)
  refine g_iconst C 4 dX1_record_4 rfl ?_
  refine g_icmp_ne C 12 dX1_record_5 (by decide) E (fun E => ?_) (fun E => ?_)
  · refine g_sub (lv' := [(0, .ref (base + a0)), (1, .ref (base + a1))]) [0, 1] rfl ?_
    exact o_X1_record_J12 C hr a0 a1 h E
  · refine g_aload_n C 0 dX1_record_8 rfl rfl ?_
    refine g_invU C (q := (RX1, TX1, 2)) [] dX1_record_9 cl_X1_22 cv_X1_dropOldest rfl (by decide) rfl rfl ⟨Nat.le_of_ble_eq_true rfl, Nat.le_of_ble_eq_true rfl⟩ (Nat.le_of_ble_eq_true rfl) ⟨Nat.le_of_ble_eq_true rfl, Nat.le_of_ble_eq_true rfl⟩ rfl (fun r' h' E => o_X1_dropOldest l base D cA a0 h r' h' E) E (fun x2 h3 E => ?_)
    refine g_sub (lv' := [(0, .ref (base + a0)), (1, .ref (base + a1))]) [0, 1] rfl ?_
    exact o_X1_record_J12 C hr a0 a1 h3 E
abbrev rm_X2_changePrice : Room := { frames := 1, cells := 0, slots := 0, locals := 15 }
def s_X2_changePrice (a0 : Nat) (a1 : Int32) (h : Hp) : Rv Unit :=
  getI h a0 2 2 fun x1 =>
  putI h a0 2 2 (if 1 < (if (x1 + a1) < 50 then (x1 + a1) else 50) then (if (x1 + a1) < 50 then (x1 + a1) else 50) else 1) fun h =>
  retU h
set_option maxRecDepth 100000 in
set_option maxHeartbeats 4000000 in
theorem o_X2_changePrice (l : Launch) (base : Nat) (D : va_G) (cA : Nat → ClassId) (a0 : Nat) (a1 : Int32) (h : Hp) (r : Unit) (h' : Hp) (E : s_X2_changePrice a0 a1 h = some (r, h')) : Met l yX2_changePrice (.code yX2_changePrice cX2_changePrice 2 none :: wsA) rm_X2_changePrice (PcG base D cA [.ref (base + a0), .int a1] h) (QcU base D cA h') 0 0 (AA base) := by
  refine g_met [.ref (base + a0), .int a1] (by decide) (Nat.le_of_ble_eq_true rfl) (fun p e s m args below meth c C hr hn => ?_)
  refine g_lv (lv' := [(0, .ref (base + a0)), (1, .int a1)]) rfl ?_
  unfold s_X2_changePrice at E
  refine g_aload_n C 0 dX2_changePrice_0 rfl rfl ?_
  refine g_iconst C 1 dX2_changePrice_1 rfl ?_
  refine g_bipush C 50 dX2_changePrice_2 rfl ?_
  refine g_aload_n C 0 dX2_changePrice_4 rfl rfl ?_
  refine g_getI C dX2_changePrice_5 fl_X2_15 (by decide) (by decide) E (fun x1 E => ?_)
  refine g_iload_n C 1 dX2_changePrice_8 rfl rfl ?_
  refine g_iadd C dX2_changePrice_9 ?_
  refine g_mmin C dX2_changePrice_10 (in_wsA 628 (by decide +kernel) rfl) (in_wsA 413 (by decide +kernel) rfl) (in_wsA 11 (by decide +kernel) rfl) (in_wsA 414 (by decide +kernel) rfl) (Nat.le_of_ble_eq_true rfl) (Nat.le_of_ble_eq_true rfl) (Nat.le_of_ble_eq_true rfl) (Nat.le_of_ble_eq_true rfl) ?_
  refine g_mmax C dX2_changePrice_13 (in_wsA 629 (by decide +kernel) rfl) (in_wsA 43 (by decide +kernel) rfl) (in_wsA 11 (by decide +kernel) rfl) (in_wsA 44 (by decide +kernel) rfl) (Nat.le_of_ble_eq_true rfl) (Nat.le_of_ble_eq_true rfl) (Nat.le_of_ble_eq_true rfl) (Nat.le_of_ble_eq_true rfl) ?_
  refine g_putI C false dX2_changePrice_16 fl_X2_15 fp_X2_2_2 (fun q => Bool.noConfusion q) rfl E (fun h2 E => ?_)
  exact g_vret C dX2_changePrice_19 hr E
abbrev rm_X2_tell : Room := { frames := 0, cells := 0, slots := 0, locals := 0 }
def s_X2_tell (a0 : Nat) (a1 : Int32) (h : Hp) : Rv Int32 :=
  if a1 = 1 then getI h a0 2 1 fun x1 =>
  retI x1 h
  else if a1 = 2 then getI h a0 2 2 fun x2 =>
  retI x2 h
  else if a1 = 3 then getI h a0 2 3 fun x3 =>
  retI x3 h
  else if a1 = 4 then getI h a0 2 4 fun x4 =>
  retI x4 h
  else if a1 = 5 then getI h a0 2 5 fun x5 =>
  retI x5 h
  else if a1 = 6 then getI h a0 2 6 fun x6 =>
  retI x6 h
  else if a1 = 7 then getI h a0 2 7 fun x7 =>
  retI x7 h
  else if a1 = 8 then getI h a0 2 8 fun x8 =>
  retI x8 h
  else if a1 = 9 then getI h a0 2 9 fun x9 =>
  retI x9 h
  else retI (-2) h
set_option maxRecDepth 100000 in
set_option maxHeartbeats 4000000 in
theorem o_X2_tell (l : Launch) (base : Nat) (D : va_G) (cA : Nat → ClassId) (a0 : Nat) (a1 : Int32) (h : Hp) (r : Int32) (h' : Hp) (E : s_X2_tell a0 a1 h = some (r, h')) : Met l yX2_tell (.code yX2_tell cX2_tell 2 (some .int) :: wsA) rm_X2_tell (PcG base D cA [.ref (base + a0), .int a1] h) (QcI base D cA r h') 0 0 (AA base) := by
  refine g_met [.ref (base + a0), .int a1] (by decide) (Nat.le_of_ble_eq_true rfl) (fun p e s m args below meth c C hr hn => ?_)
  refine g_lv (lv' := [(0, .ref (base + a0)), (1, .int a1)]) rfl ?_
  unfold s_X2_tell at E
  refine g_iload_n C 1 dX2_tell_0 rfl rfl ?_
  by_cases q1 : a1 = 1
  · rw [if_pos q1] at E
    refine g_tswIn C 1 52 q1 dX2_tell_1 (by decide) (by decide) rfl (by decide) ?_
    refine g_aload_n C 0 dX2_tell_52 rfl rfl ?_
    refine g_getI C dX2_tell_53 fl_X2_9 (by decide) (by decide) E (fun x2 E => ?_)
    exact g_iret C dX2_tell_56 hr E
  rw [if_neg q1] at E
  by_cases q3 : a1 = 2
  · rw [if_pos q3] at E
    refine g_tswIn C 2 57 q3 dX2_tell_1 (by decide) (by decide) rfl (by decide) ?_
    refine g_aload_n C 0 dX2_tell_57 rfl rfl ?_
    refine g_getI C dX2_tell_58 fl_X2_15 (by decide) (by decide) E (fun x4 E => ?_)
    exact g_iret C dX2_tell_61 hr E
  rw [if_neg q3] at E
  by_cases q5 : a1 = 3
  · rw [if_pos q5] at E
    refine g_tswIn C 3 62 q5 dX2_tell_1 (by decide) (by decide) rfl (by decide) ?_
    refine g_aload_n C 0 dX2_tell_62 rfl rfl ?_
    refine g_getI C dX2_tell_63 fl_X2_18 (by decide) (by decide) E (fun x6 E => ?_)
    exact g_iret C dX2_tell_66 hr E
  rw [if_neg q5] at E
  by_cases q7 : a1 = 4
  · rw [if_pos q7] at E
    refine g_tswIn C 4 67 q7 dX2_tell_1 (by decide) (by decide) rfl (by decide) ?_
    refine g_aload_n C 0 dX2_tell_67 rfl rfl ?_
    refine g_getI C dX2_tell_68 fl_X2_21 (by decide) (by decide) E (fun x8 E => ?_)
    exact g_iret C dX2_tell_71 hr E
  rw [if_neg q7] at E
  by_cases q9 : a1 = 5
  · rw [if_pos q9] at E
    refine g_tswIn C 5 72 q9 dX2_tell_1 (by decide) (by decide) rfl (by decide) ?_
    refine g_aload_n C 0 dX2_tell_72 rfl rfl ?_
    refine g_getI C dX2_tell_73 fl_X2_24 (by decide) (by decide) E (fun x10 E => ?_)
    exact g_iret C dX2_tell_76 hr E
  rw [if_neg q9] at E
  by_cases q11 : a1 = 6
  · rw [if_pos q11] at E
    refine g_tswIn C 6 77 q11 dX2_tell_1 (by decide) (by decide) rfl (by decide) ?_
    refine g_aload_n C 0 dX2_tell_77 rfl rfl ?_
    refine g_getI C dX2_tell_78 fl_X2_27 (by decide) (by decide) E (fun x12 E => ?_)
    exact g_iret C dX2_tell_81 hr E
  rw [if_neg q11] at E
  by_cases q13 : a1 = 7
  · rw [if_pos q13] at E
    refine g_tswIn C 7 82 q13 dX2_tell_1 (by decide) (by decide) rfl (by decide) ?_
    refine g_aload_n C 0 dX2_tell_82 rfl rfl ?_
    refine g_getI C dX2_tell_83 fl_X2_30 (by decide) (by decide) E (fun x14 E => ?_)
    exact g_iret C dX2_tell_86 hr E
  rw [if_neg q13] at E
  by_cases q15 : a1 = 8
  · rw [if_pos q15] at E
    refine g_tswIn C 8 87 q15 dX2_tell_1 (by decide) (by decide) rfl (by decide) ?_
    refine g_aload_n C 0 dX2_tell_87 rfl rfl ?_
    refine g_getI C dX2_tell_88 fl_X2_33 (by decide) (by decide) E (fun x16 E => ?_)
    exact g_iret C dX2_tell_91 hr E
  rw [if_neg q15] at E
  by_cases q17 : a1 = 9
  · rw [if_pos q17] at E
    refine g_tswIn C 9 92 q17 dX2_tell_1 (by decide) (by decide) rfl (by decide) ?_
    refine g_aload_n C 0 dX2_tell_92 rfl rfl ?_
    refine g_getI C dX2_tell_93 fl_X2_36 (by decide) (by decide) E (fun x18 E => ?_)
    exact g_iret C dX2_tell_96 hr E
  rw [if_neg q17] at E
  refine g_tswDf C 97 dX2_tell_1 (fun z z1 z2 zx => ?_) (by decide) ?_
  · rcases (show z = 1 ∨ z = 2 ∨ z = 3 ∨ z = 4 ∨ z = 5 ∨ z = 6 ∨ z = 7 ∨ z = 8 ∨ z = 9 by omega) with rfl | rfl | rfl | rfl | rfl | rfl | rfl | rfl | rfl
    · exact absurd zx (lv_neT q1 (by decide))
    · exact absurd zx (lv_neT q3 (by decide))
    · exact absurd zx (lv_neT q5 (by decide))
    · exact absurd zx (lv_neT q7 (by decide))
    · exact absurd zx (lv_neT q9 (by decide))
    · exact absurd zx (lv_neT q11 (by decide))
    · exact absurd zx (lv_neT q13 (by decide))
    · exact absurd zx (lv_neT q15 (by decide))
    · exact absurd zx (lv_neT q17 (by decide))
  refine g_bipush C (-2) dX2_tell_97 rfl ?_
  exact g_iret C dX2_tell_99 hr E
abbrev rm_X3_tell : Room := { frames := 0, cells := 0, slots := 0, locals := 0 }
def s_X3_tell (a0 : Nat) (a1 : Int32) (h : Hp) : Rv Int32 :=
  if a1 = 0 then getI h a0 3 0 fun x1 =>
  retI x1 h
  else if a1 = 1 then getI h a0 3 1 fun x2 =>
  retI x2 h
  else if a1 = 2 then getI h a0 3 2 fun x3 =>
  retI x3 h
  else if a1 = 3 then getI h a0 3 3 fun x4 =>
  retI x4 h
  else if a1 = 4 then getI h a0 3 4 fun x5 =>
  retI x5 h
  else retI (-2) h
set_option maxRecDepth 100000 in
set_option maxHeartbeats 4000000 in
theorem o_X3_tell (l : Launch) (base : Nat) (D : va_G) (cA : Nat → ClassId) (a0 : Nat) (a1 : Int32) (h : Hp) (r : Int32) (h' : Hp) (E : s_X3_tell a0 a1 h = some (r, h')) : Met l yX3_tell (.code yX3_tell cX3_tell 2 (some .int) :: wsA) rm_X3_tell (PcG base D cA [.ref (base + a0), .int a1] h) (QcI base D cA r h') 0 0 (AA base) := by
  refine g_met [.ref (base + a0), .int a1] (by decide) (Nat.le_of_ble_eq_true rfl) (fun p e s m args below meth c C hr hn => ?_)
  refine g_lv (lv' := [(0, .ref (base + a0)), (1, .int a1)]) rfl ?_
  unfold s_X3_tell at E
  refine g_iload_n C 1 dX3_tell_0 rfl rfl ?_
  by_cases q1 : a1 = 0
  · rw [if_pos q1] at E
    refine g_tswIn C 0 36 q1 dX3_tell_1 (by decide) (by decide) rfl (by decide) ?_
    refine g_aload_n C 0 dX3_tell_36 rfl rfl ?_
    refine g_getI C dX3_tell_37 fl_X3_9 (by decide) (by decide) E (fun x2 E => ?_)
    exact g_iret C dX3_tell_40 hr E
  rw [if_neg q1] at E
  by_cases q3 : a1 = 1
  · rw [if_pos q3] at E
    refine g_tswIn C 1 41 q3 dX3_tell_1 (by decide) (by decide) rfl (by decide) ?_
    refine g_aload_n C 0 dX3_tell_41 rfl rfl ?_
    refine g_getI C dX3_tell_42 fl_X3_15 (by decide) (by decide) E (fun x4 E => ?_)
    exact g_iret C dX3_tell_45 hr E
  rw [if_neg q3] at E
  by_cases q5 : a1 = 2
  · rw [if_pos q5] at E
    refine g_tswIn C 2 46 q5 dX3_tell_1 (by decide) (by decide) rfl (by decide) ?_
    refine g_aload_n C 0 dX3_tell_46 rfl rfl ?_
    refine g_getI C dX3_tell_47 fl_X3_18 (by decide) (by decide) E (fun x6 E => ?_)
    exact g_iret C dX3_tell_50 hr E
  rw [if_neg q5] at E
  by_cases q7 : a1 = 3
  · rw [if_pos q7] at E
    refine g_tswIn C 3 51 q7 dX3_tell_1 (by decide) (by decide) rfl (by decide) ?_
    refine g_aload_n C 0 dX3_tell_51 rfl rfl ?_
    refine g_getI C dX3_tell_52 fl_X3_21 (by decide) (by decide) E (fun x8 E => ?_)
    exact g_iret C dX3_tell_55 hr E
  rw [if_neg q7] at E
  by_cases q9 : a1 = 4
  · rw [if_pos q9] at E
    refine g_tswIn C 4 56 q9 dX3_tell_1 (by decide) (by decide) rfl (by decide) ?_
    refine g_aload_n C 0 dX3_tell_56 rfl rfl ?_
    refine g_getI C dX3_tell_57 fl_X3_24 (by decide) (by decide) E (fun x10 E => ?_)
    exact g_iret C dX3_tell_60 hr E
  rw [if_neg q9] at E
  refine g_tswDf C 61 dX3_tell_1 (fun z z1 z2 zx => ?_) (by decide) ?_
  · rcases (show z = 0 ∨ z = 1 ∨ z = 2 ∨ z = 3 ∨ z = 4 by omega) with rfl | rfl | rfl | rfl | rfl
    · exact absurd zx (lv_neT q1 (by decide))
    · exact absurd zx (lv_neT q3 (by decide))
    · exact absurd zx (lv_neT q5 (by decide))
    · exact absurd zx (lv_neT q7 (by decide))
    · exact absurd zx (lv_neT q9 (by decide))
  refine g_bipush C (-2) dX3_tell_61 rfl ?_
  exact g_iret C dX3_tell_63 hr E
abbrev rm_X4_hasPhase : Room := { frames := 0, cells := 0, slots := 0, locals := 0 }
def s_X4_hasPhase (a0 : Nat) (a1 : Int32) (h : Hp) : Rv Int32 :=
  if a1 < 0 then retZ 0 h
  else getI h a0 4 0 fun x1 =>
  if x1 ≤ a1 then retZ 0 h
  else retZ 1 h
set_option maxRecDepth 100000 in
set_option maxHeartbeats 4000000 in
theorem o_X4_hasPhase (l : Launch) (base : Nat) (D : va_G) (cA : Nat → ClassId) (a0 : Nat) (a1 : Int32) (h : Hp) (r : Int32) (h' : Hp) (E : s_X4_hasPhase a0 a1 h = some (r, h')) : Met l yX4_hasPhase (.code yX4_hasPhase cX4_hasPhase 2 (some .boolean) :: wsA) rm_X4_hasPhase (PcG base D cA [.ref (base + a0), .int a1] h) (QcI base D cA r h') 0 0 (AA base) := by
  refine g_met [.ref (base + a0), .int a1] (by decide) (Nat.le_of_ble_eq_true rfl) (fun p e s m args below meth c C hr hn => ?_)
  refine g_lv (lv' := [(0, .ref (base + a0)), (1, .int a1)]) rfl ?_
  unfold s_X4_hasPhase at E
  refine g_iconst C 0 dX4_hasPhase_0 rfl ?_
  refine g_iload_n C 1 dX4_hasPhase_1 rfl rfl ?_
  refine g_icmp_gt C 17 dX4_hasPhase_2 (by decide) E (fun E => ?_) (fun E => ?_)
  · refine g_iconst C 0 dX4_hasPhase_17 rfl ?_
    exact g_zret C dX4_hasPhase_18 hr E
  · refine g_iload_n C 1 dX4_hasPhase_5 rfl rfl ?_
    refine g_aload_n C 0 dX4_hasPhase_6 rfl rfl ?_
    refine g_getI C dX4_hasPhase_7 fl_X4_15 (by decide) (by decide) E (fun x1 E => ?_)
    refine g_icmp_ge C 17 dX4_hasPhase_10 (by decide) E (fun E => ?_) (fun E => ?_)
    · refine g_iconst C 0 dX4_hasPhase_17 rfl ?_
      exact g_zret C dX4_hasPhase_18 hr E
    · refine g_iconst C 1 dX4_hasPhase_13 rfl ?_
      refine g_goto C 18 dX4_hasPhase_14 (by decide) ?_
      exact g_zret C dX4_hasPhase_18 hr E
abbrev rm_X4_kindOf : Room := { frames := 1, cells := 0, slots := 0, locals := 21 }
def s_X4_kindOf (a0 : Nat) (a1 : Int32) (h : Hp) : Rv Int32 :=
  inv h a0 4 (s_X4_hasPhase a0 a1 h) fun x1 h =>
  if x1 = 0 then retC 0 h
  else getR h a0 4 1 fun x2 =>
  ldI h x2 21 a1 fun x3 =>
  retC x3 h
set_option maxRecDepth 100000 in
set_option maxHeartbeats 4000000 in
theorem o_X4_kindOf (l : Launch) (base : Nat) (D : va_G) (cA : Nat → ClassId) (a0 : Nat) (a1 : Int32) (h : Hp) (r : Int32) (h' : Hp) (E : s_X4_kindOf a0 a1 h = some (r, h')) : Met l yX4_kindOf (.code yX4_kindOf cX4_kindOf 2 (some .char) :: wsA) rm_X4_kindOf (PcG base D cA [.ref (base + a0), .int a1] h) (QcI base D cA r h') 0 0 (AA base) := by
  refine g_met [.ref (base + a0), .int a1] (by decide) (Nat.le_of_ble_eq_true rfl) (fun p e s m args below meth c C hr hn => ?_)
  refine g_lv (lv' := [(0, .ref (base + a0)), (1, .int a1)]) rfl ?_
  unfold s_X4_kindOf at E
  refine g_aload_n C 0 dX4_kindOf_0 rfl rfl ?_
  refine g_iload_n C 1 dX4_kindOf_1 rfl rfl ?_
  refine g_invI C (q := (RX4, TX4, 3)) [.int a1] dX4_kindOf_2 cl_X4_29 cv_X4_hasPhase rfl (by decide) rfl rfl ⟨Nat.le_of_ble_eq_true rfl, Nat.le_of_ble_eq_true rfl⟩ (Nat.le_of_ble_eq_true rfl) ⟨Nat.le_of_ble_eq_true rfl, Nat.le_of_ble_eq_true rfl⟩ rfl (fun r' h' E => o_X4_hasPhase l base D cA a0 a1 h r' h' E) E (fun x1 h2 E => ?_)
  refine g_if_eq C 17 dX4_kindOf_5 (by decide) E (fun E => ?_) (fun E => ?_)
  · refine g_iconst C 0 dX4_kindOf_17 rfl ?_
    exact g_cret C dX4_kindOf_18 hr E
  · refine g_aload_n C 0 dX4_kindOf_8 rfl rfl ?_
    refine g_getR C dX4_kindOf_9 fl_X4_21 rfl E (fun x3 E => ?_)
    refine g_iload_n C 1 dX4_kindOf_12 rfl rfl ?_
    refine g_cald C dX4_kindOf_13 E (fun x4 E => ?_)
    refine g_goto C 18 dX4_kindOf_14 (by decide) ?_
    exact g_cret C dX4_kindOf_18 hr E
abbrev rm_X4_numberOf : Room := { frames := 1, cells := 0, slots := 0, locals := 21 }
def s_X4_numberOf (a0 : Nat) (a1 : Int32) (h : Hp) : Rv Int32 :=
  inv h a0 4 (s_X4_hasPhase a0 a1 h) fun x1 h =>
  if x1 = 0 then retI 0 h
  else getR h a0 4 2 fun x2 =>
  ldI h x2 20 a1 fun x3 =>
  retI x3 h
set_option maxRecDepth 100000 in
set_option maxHeartbeats 4000000 in
theorem o_X4_numberOf (l : Launch) (base : Nat) (D : va_G) (cA : Nat → ClassId) (a0 : Nat) (a1 : Int32) (h : Hp) (r : Int32) (h' : Hp) (E : s_X4_numberOf a0 a1 h = some (r, h')) : Met l yX4_numberOf (.code yX4_numberOf cX4_numberOf 2 (some .int) :: wsA) rm_X4_numberOf (PcG base D cA [.ref (base + a0), .int a1] h) (QcI base D cA r h') 0 0 (AA base) := by
  refine g_met [.ref (base + a0), .int a1] (by decide) (Nat.le_of_ble_eq_true rfl) (fun p e s m args below meth c C hr hn => ?_)
  refine g_lv (lv' := [(0, .ref (base + a0)), (1, .int a1)]) rfl ?_
  unfold s_X4_numberOf at E
  refine g_aload_n C 0 dX4_numberOf_0 rfl rfl ?_
  refine g_iload_n C 1 dX4_numberOf_1 rfl rfl ?_
  refine g_invI C (q := (RX4, TX4, 3)) [.int a1] dX4_numberOf_2 cl_X4_29 cv_X4_hasPhase rfl (by decide) rfl rfl ⟨Nat.le_of_ble_eq_true rfl, Nat.le_of_ble_eq_true rfl⟩ (Nat.le_of_ble_eq_true rfl) ⟨Nat.le_of_ble_eq_true rfl, Nat.le_of_ble_eq_true rfl⟩ rfl (fun r' h' E => o_X4_hasPhase l base D cA a0 a1 h r' h' E) E (fun x1 h2 E => ?_)
  refine g_if_eq C 17 dX4_numberOf_5 (by decide) E (fun E => ?_) (fun E => ?_)
  · refine g_iconst C 0 dX4_numberOf_17 rfl ?_
    exact g_iret C dX4_numberOf_18 hr E
  · refine g_aload_n C 0 dX4_numberOf_8 rfl rfl ?_
    refine g_getR C dX4_numberOf_9 fl_X4_25 rfl E (fun x3 E => ?_)
    refine g_iload_n C 1 dX4_numberOf_12 rfl rfl ?_
    refine g_iald C dX4_numberOf_13 E (fun x4 E => ?_)
    refine g_goto C 18 dX4_numberOf_14 (by decide) ?_
    exact g_iret C dX4_numberOf_18 hr E
abbrev rm_X4_putKind : Room := { frames := 1, cells := 0, slots := 0, locals := 21 }
def s_X4_putKind (a0 : Nat) (a1 : Int32) (a2 : Int32) (h : Hp) : Rv Unit :=
  inv h a0 4 (s_X4_hasPhase a0 a1 h) fun x1 h =>
  if x1 = 0 then retU h
  else getR h a0 4 1 fun x2 =>
  stI h x2 21 a1 (vp_nar .char a2) fun h =>
  retU h
set_option maxRecDepth 100000 in
set_option maxHeartbeats 4000000 in
theorem o_X4_putKind (l : Launch) (base : Nat) (D : va_G) (cA : Nat → ClassId) (a0 : Nat) (a1 : Int32) (a2 : Int32) (h : Hp) (r : Unit) (h' : Hp) (E : s_X4_putKind a0 a1 a2 h = some (r, h')) : Met l yX4_putKind (.code yX4_putKind cX4_putKind 3 none :: wsA) rm_X4_putKind (PcG base D cA [.ref (base + a0), .int a1, .int a2] h) (QcU base D cA h') 0 0 (AA base) := by
  refine g_met [.ref (base + a0), .int a1, .int a2] (by decide) (Nat.le_of_ble_eq_true rfl) (fun p e s m args below meth c C hr hn => ?_)
  refine g_lv (lv' := [(0, .ref (base + a0)), (1, .int a1), (2, .int a2)]) rfl ?_
  unfold s_X4_putKind at E
  refine g_aload_n C 0 dX4_putKind_0 rfl rfl ?_
  refine g_iload_n C 1 dX4_putKind_1 rfl rfl ?_
  refine g_invI C (q := (RX4, TX4, 3)) [.int a1] dX4_putKind_2 cl_X4_29 cv_X4_hasPhase rfl (by decide) rfl rfl ⟨Nat.le_of_ble_eq_true rfl, Nat.le_of_ble_eq_true rfl⟩ (Nat.le_of_ble_eq_true rfl) ⟨Nat.le_of_ble_eq_true rfl, Nat.le_of_ble_eq_true rfl⟩ rfl (fun r' h' E => o_X4_hasPhase l base D cA a0 a1 h r' h' E) E (fun x1 h2 E => ?_)
  refine g_if_eq C 15 dX4_putKind_5 (by decide) E (fun E => ?_) (fun E => ?_)
  · exact g_vret C dX4_putKind_15 hr E
  · refine g_aload_n C 0 dX4_putKind_8 rfl rfl ?_
    refine g_getR C dX4_putKind_9 fl_X4_21 rfl E (fun x3 E => ?_)
    refine g_iload_n C 1 dX4_putKind_12 rfl rfl ?_
    refine g_iload_n C 2 dX4_putKind_13 rfl rfl ?_
    refine g_cast C dX4_putKind_14 E (fun h4 E => ?_)
    exact g_vret C dX4_putKind_15 hr E
abbrev rm_X4_putDigit : Room := { frames := 1, cells := 0, slots := 0, locals := 21 }
def s_X4_putDigit (a0 : Nat) (a1 : Int32) (a2 : Int32) (h : Hp) : Rv Unit :=
  inv h a0 4 (s_X4_hasPhase a0 a1 h) fun x1 h =>
  if x1 = 0 then retU h
  else getR h a0 4 2 fun x2 =>
  getR h a0 4 2 fun x3 =>
  ldI h x3 20 a1 fun x4 =>
  stI h x2 20 a1 ((10 * x4) + a2) fun h =>
  retU h
set_option maxRecDepth 100000 in
set_option maxHeartbeats 4000000 in
theorem o_X4_putDigit (l : Launch) (base : Nat) (D : va_G) (cA : Nat → ClassId) (a0 : Nat) (a1 : Int32) (a2 : Int32) (h : Hp) (r : Unit) (h' : Hp) (E : s_X4_putDigit a0 a1 a2 h = some (r, h')) : Met l yX4_putDigit (.code yX4_putDigit cX4_putDigit 3 none :: wsA) rm_X4_putDigit (PcG base D cA [.ref (base + a0), .int a1, .int a2] h) (QcU base D cA h') 0 0 (AA base) := by
  refine g_met [.ref (base + a0), .int a1, .int a2] (by decide) (Nat.le_of_ble_eq_true rfl) (fun p e s m args below meth c C hr hn => ?_)
  refine g_lv (lv' := [(0, .ref (base + a0)), (1, .int a1), (2, .int a2)]) rfl ?_
  unfold s_X4_putDigit at E
  refine g_aload_n C 0 dX4_putDigit_0 rfl rfl ?_
  refine g_iload_n C 1 dX4_putDigit_1 rfl rfl ?_
  refine g_invI C (q := (RX4, TX4, 3)) [.int a1] dX4_putDigit_2 cl_X4_29 cv_X4_hasPhase rfl (by decide) rfl rfl ⟨Nat.le_of_ble_eq_true rfl, Nat.le_of_ble_eq_true rfl⟩ (Nat.le_of_ble_eq_true rfl) ⟨Nat.le_of_ble_eq_true rfl, Nat.le_of_ble_eq_true rfl⟩ rfl (fun r' h' E => o_X4_hasPhase l base D cA a0 a1 h r' h' E) E (fun x1 h2 E => ?_)
  refine g_if_eq C 25 dX4_putDigit_5 (by decide) E (fun E => ?_) (fun E => ?_)
  · exact g_vret C dX4_putDigit_25 hr E
  · refine g_aload_n C 0 dX4_putDigit_8 rfl rfl ?_
    refine g_getR C dX4_putDigit_9 fl_X4_25 rfl E (fun x3 E => ?_)
    refine g_iload_n C 1 dX4_putDigit_12 rfl rfl ?_
    refine g_bipush C 10 dX4_putDigit_13 rfl ?_
    refine g_aload_n C 0 dX4_putDigit_15 rfl rfl ?_
    refine g_getR C dX4_putDigit_16 fl_X4_25 rfl E (fun x4 E => ?_)
    refine g_iload_n C 1 dX4_putDigit_19 rfl rfl ?_
    refine g_iald C dX4_putDigit_20 E (fun x5 E => ?_)
    refine g_imul C dX4_putDigit_21 ?_
    refine g_iload_n C 2 dX4_putDigit_22 rfl rfl ?_
    refine g_iadd C dX4_putDigit_23 ?_
    refine g_iast C dX4_putDigit_24 E (fun h6 E => ?_)
    exact g_vret C dX4_putDigit_25 hr E
abbrev rm_X8_isWithin : Room := { frames := 0, cells := 0, slots := 0, locals := 0 }
def s_X8_isWithin (a0 : Int32) (a1 : Int32) (a2 : Int32) (h : Hp) : Rv Int32 :=
  if a0 < a1 then retZ 0 h
  else if a2 < a0 then retZ 0 h
  else retZ 1 h
set_option maxRecDepth 100000 in
set_option maxHeartbeats 4000000 in
theorem o_X8_isWithin (l : Launch) (base : Nat) (D : va_G) (cA : Nat → ClassId) (a0 : Int32) (a1 : Int32) (a2 : Int32) (h : Hp) (r : Int32) (h' : Hp) (E : s_X8_isWithin a0 a1 a2 h = some (r, h')) : Met l yX8_isWithin (.code yX8_isWithin cX8_isWithin 3 (some .boolean) :: wsA) rm_X8_isWithin (PcG base D cA [.int a0, .int a1, .int a2] h) (QcI base D cA r h') 0 0 (AA base) := by
  refine g_met [.int a0, .int a1, .int a2] (by decide) (Nat.le_of_ble_eq_true rfl) (fun p e s m args below meth c C hr hn => ?_)
  refine g_lv (lv' := [(0, .int a0), (1, .int a1), (2, .int a2)]) rfl ?_
  unfold s_X8_isWithin at E
  refine g_iload_n C 1 dX8_isWithin_0 rfl rfl ?_
  refine g_iload_n C 0 dX8_isWithin_1 rfl rfl ?_
  refine g_icmp_gt C 14 dX8_isWithin_2 (by decide) E (fun E => ?_) (fun E => ?_)
  · refine g_iconst C 0 dX8_isWithin_14 rfl ?_
    exact g_zret C dX8_isWithin_15 hr E
  · refine g_iload_n C 0 dX8_isWithin_5 rfl rfl ?_
    refine g_iload_n C 2 dX8_isWithin_6 rfl rfl ?_
    refine g_icmp_gt C 14 dX8_isWithin_7 (by decide) E (fun E => ?_) (fun E => ?_)
    · refine g_iconst C 0 dX8_isWithin_14 rfl ?_
      exact g_zret C dX8_isWithin_15 hr E
    · refine g_iconst C 1 dX8_isWithin_10 rfl ?_
      refine g_goto C 15 dX8_isWithin_11 (by decide) ?_
      exact g_zret C dX8_isWithin_15 hr E
abbrev rm_X4_isGoodNumber : Room := { frames := 1, cells := 0, slots := 0, locals := 22 }
def s_X4_isGoodNumber (a0 : Int32) (a1 : Int32) (h : Hp) : Rv Int32 :=
  if a0 = 102 then bnd (s_X8_isWithin a1 1 60 h) fun x1 h =>
  retZ x1 h
  else if a0 = 104 then bnd (s_X8_isWithin a1 16 95 h) fun x2 h =>
  retZ x2 h
  else if a0 = 115 then bnd (s_X8_isWithin a1 1 30 h) fun x3 h =>
  retZ x3 h
  else if a0 = 119 then bnd (s_X8_isWithin a1 1 99 h) fun x4 h =>
  retZ x4 h
  else if a1 = 0 then retZ 1 h
  else retZ 0 h
set_option maxRecDepth 100000 in
set_option maxHeartbeats 4000000 in
theorem o_X4_isGoodNumber (l : Launch) (base : Nat) (D : va_G) (cA : Nat → ClassId) (a0 : Int32) (a1 : Int32) (h : Hp) (r : Int32) (h' : Hp) (E : s_X4_isGoodNumber a0 a1 h = some (r, h')) : Met l yX4_isGoodNumber (.code yX4_isGoodNumber cX4_isGoodNumber 2 (some .boolean) :: wsA) rm_X4_isGoodNumber (PcG base D cA [.int a0, .int a1] h) (QcI base D cA r h') 0 0 (AA base) := by
  refine g_met [.int a0, .int a1] (by decide) (Nat.le_of_ble_eq_true rfl) (fun p e s m args below meth c C hr hn => ?_)
  refine g_lv (lv' := [(0, .int a0), (1, .int a1)]) rfl ?_
  unfold s_X4_isGoodNumber at E
  refine g_iload_n C 0 dX4_isGoodNumber_0 rfl rfl ?_
  by_cases q1 : a0 = 102
  · rw [if_pos q1] at E
    refine g_lsw C (off := 43) 44 dX4_isGoodNumber_1 (by decide) (by rw [q1]; rfl) (by decide) ?_
    refine g_iload_n C 1 dX4_isGoodNumber_44 rfl rfl ?_
    refine g_iconst C 1 dX4_isGoodNumber_45 rfl ?_
    refine g_bipush C 60 dX4_isGoodNumber_46 rfl ?_
    refine g_nstI C [.int a1, .int 1, .int 60] dX4_isGoodNumber_48 C.2.2.2.2.2.2.2.2.2.2.2.2.1 cn_X8_isWithin cs_X8_isWithin rfl ⟨Nat.le_of_ble_eq_true rfl, Nat.le_of_ble_eq_true rfl⟩ (Nat.le_of_ble_eq_true rfl) ⟨Nat.le_of_ble_eq_true rfl, Nat.le_of_ble_eq_true rfl⟩ rfl (fun r' h' E => o_X8_isWithin l base D cA a1 1 60 h r' h' E) E (fun x2 h3 E => ?_)
    exact g_zret C dX4_isGoodNumber_51 hr E
  rw [if_neg q1] at E
  by_cases q4 : a0 = 104
  · rw [if_pos q4] at E
    refine g_lsw C (off := 51) 52 dX4_isGoodNumber_1 (by decide) (by rw [q4]; rfl) (by decide) ?_
    refine g_iload_n C 1 dX4_isGoodNumber_52 rfl rfl ?_
    refine g_bipush C 16 dX4_isGoodNumber_53 rfl ?_
    refine g_bipush C 95 dX4_isGoodNumber_55 rfl ?_
    refine g_nstI C [.int a1, .int 16, .int 95] dX4_isGoodNumber_57 C.2.2.2.2.2.2.2.2.2.2.2.2.1 cn_X8_isWithin cs_X8_isWithin rfl ⟨Nat.le_of_ble_eq_true rfl, Nat.le_of_ble_eq_true rfl⟩ (Nat.le_of_ble_eq_true rfl) ⟨Nat.le_of_ble_eq_true rfl, Nat.le_of_ble_eq_true rfl⟩ rfl (fun r' h' E => o_X8_isWithin l base D cA a1 16 95 h r' h' E) E (fun x5 h6 E => ?_)
    exact g_zret C dX4_isGoodNumber_60 hr E
  rw [if_neg q4] at E
  by_cases q7 : a0 = 115
  · rw [if_pos q7] at E
    refine g_lsw C (off := 68) 69 dX4_isGoodNumber_1 (by decide) (by rw [q7]; rfl) (by decide) ?_
    refine g_iload_n C 1 dX4_isGoodNumber_69 rfl rfl ?_
    refine g_iconst C 1 dX4_isGoodNumber_70 rfl ?_
    refine g_bipush C 30 dX4_isGoodNumber_71 rfl ?_
    refine g_nstI C [.int a1, .int 1, .int 30] dX4_isGoodNumber_73 C.2.2.2.2.2.2.2.2.2.2.2.2.1 cn_X8_isWithin cs_X8_isWithin rfl ⟨Nat.le_of_ble_eq_true rfl, Nat.le_of_ble_eq_true rfl⟩ (Nat.le_of_ble_eq_true rfl) ⟨Nat.le_of_ble_eq_true rfl, Nat.le_of_ble_eq_true rfl⟩ rfl (fun r' h' E => o_X8_isWithin l base D cA a1 1 30 h r' h' E) E (fun x8 h9 E => ?_)
    exact g_zret C dX4_isGoodNumber_76 hr E
  rw [if_neg q7] at E
  by_cases q10 : a0 = 119
  · rw [if_pos q10] at E
    refine g_lsw C (off := 60) 61 dX4_isGoodNumber_1 (by decide) (by rw [q10]; rfl) (by decide) ?_
    refine g_iload_n C 1 dX4_isGoodNumber_61 rfl rfl ?_
    refine g_iconst C 1 dX4_isGoodNumber_62 rfl ?_
    refine g_bipush C 99 dX4_isGoodNumber_63 rfl ?_
    refine g_nstI C [.int a1, .int 1, .int 99] dX4_isGoodNumber_65 C.2.2.2.2.2.2.2.2.2.2.2.2.1 cn_X8_isWithin cs_X8_isWithin rfl ⟨Nat.le_of_ble_eq_true rfl, Nat.le_of_ble_eq_true rfl⟩ (Nat.le_of_ble_eq_true rfl) ⟨Nat.le_of_ble_eq_true rfl, Nat.le_of_ble_eq_true rfl⟩ rfl (fun r' h' E => o_X8_isWithin l base D cA a1 1 99 h r' h' E) E (fun x11 h12 E => ?_)
    exact g_zret C dX4_isGoodNumber_68 hr E
  rw [if_neg q10] at E
  refine g_lsw C (off := 76) 77 dX4_isGoodNumber_1 (by decide) (by show Op.lookupswitch.offset [(102, 43), (104, 51), (115, 68), (119, 60)] 76 _ = _; rw [lv_osw q1 (by decide), lv_osw q4 (by decide), lv_osw q7 (by decide), lv_osw q10 (by decide)]; rfl) (by decide) ?_
  refine g_iload_n C 1 dX4_isGoodNumber_77 rfl rfl ?_
  refine g_if_ne C 85 dX4_isGoodNumber_78 (by decide) E (fun E => ?_) (fun E => ?_)
  · refine g_iconst C 0 dX4_isGoodNumber_85 rfl ?_
    exact g_zret C dX4_isGoodNumber_86 hr E
  · refine g_iconst C 1 dX4_isGoodNumber_81 rfl ?_
    refine g_goto C 86 dX4_isGoodNumber_82 (by decide) ?_
    exact g_zret C dX4_isGoodNumber_86 hr E
abbrev rm_X4_hasGoodNumbers : Room := { frames := 2, cells := 0, slots := 0, locals := 43 }
def s_X4_hasGoodNumbers_L2 : Nat → Nat → Int32 → Hp → Rv Int32
  | 0, _, _, _ => none
  | n + 1, v0, v1, h =>
    getI h v0 4 0 fun x1 =>
  if x1 ≤ v1 then retZ 1 h
  else getR h v0 4 1 fun x2 =>
  ldI h x2 21 v1 fun x3 =>
  getR h v0 4 2 fun x4 =>
  ldI h x4 20 v1 fun x5 =>
  bnd (s_X4_isGoodNumber x3 x5 h) fun x6 h =>
  if x6 = 0 then retZ 0 h
  else s_X4_hasGoodNumbers_L2 n v0 (v1 + 1) h
def s_X4_hasGoodNumbers (a0 : Nat) (h : Hp) : Rv Int32 :=
  s_X4_hasGoodNumbers_L2 100000 a0 0 h
set_option maxRecDepth 100000 in
set_option maxHeartbeats 4000000 in
theorem o_X4_hasGoodNumbers_L2 {l : Launch} {base : Nat} {D : va_G} {cA : Nat → ClassId} {p : Program} {e : Env} {s : State} {m : MethodId} {args : Array Value} {below : List Frame} {meth : Method} {c : Code} (C : GC base D cA p s m args meth c cX4_hasGoodNumbers 2 RX4) (hr : meth.sig.returnType = (some .boolean)) {X : Int32 × Hp} : ∀ (n : Nat) (v0 : Nat) (v1 : Int32) (h : Hp), s_X4_hasGoodNumbers_L2 n v0 v1 h = some X → GW base D cA p l e rm_X4_hasGoodNumbers s m args below meth c (MQ below (QcI base D cA X.1 X.2) args s 0 0 (AA base)) 2 h 0 0 2 [(0, .ref (base + v0)), (1, .int v1)] [] := by
  intro n
  induction n with
  | zero =>
    intro v0 v1 h E
    rw [s_X4_hasGoodNumbers_L2] at E
    cases E
  | succ n ih =>
    intro v0 v1 h E
    rw [s_X4_hasGoodNumbers_L2] at E
    refine g_iload_n C 1 dX4_hasGoodNumbers_2 rfl rfl ?_
    refine g_aload_n C 0 dX4_hasGoodNumbers_3 rfl rfl ?_
    refine g_getI C dX4_hasGoodNumbers_4 fl_X4_15 (by decide) (by decide) E (fun x1 E => ?_)
    refine g_icmp_ge C 36 dX4_hasGoodNumbers_7 (by decide) E (fun E => ?_) (fun E => ?_)
    · refine g_iconst C 1 dX4_hasGoodNumbers_36 rfl ?_
      exact g_zret C dX4_hasGoodNumbers_37 hr E
    · refine g_aload_n C 0 dX4_hasGoodNumbers_10 rfl rfl ?_
      refine g_getR C dX4_hasGoodNumbers_11 fl_X4_21 rfl E (fun x2 E => ?_)
      refine g_iload_n C 1 dX4_hasGoodNumbers_14 rfl rfl ?_
      refine g_cald C dX4_hasGoodNumbers_15 E (fun x3 E => ?_)
      refine g_aload_n C 0 dX4_hasGoodNumbers_16 rfl rfl ?_
      refine g_getR C dX4_hasGoodNumbers_17 fl_X4_25 rfl E (fun x4 E => ?_)
      refine g_iload_n C 1 dX4_hasGoodNumbers_20 rfl rfl ?_
      refine g_iald C dX4_hasGoodNumbers_21 E (fun x5 E => ?_)
      refine g_staI C [.int x3, .int x5] dX4_hasGoodNumbers_22 cl_X4_33 cs_X4_isGoodNumber rfl rfl ⟨Nat.le_of_ble_eq_true rfl, Nat.le_of_ble_eq_true rfl⟩ (Nat.le_of_ble_eq_true rfl) ⟨Nat.le_of_ble_eq_true rfl, Nat.le_of_ble_eq_true rfl⟩ rfl (fun r' h' E => o_X4_isGoodNumber l base D cA x3 x5 h r' h' E) E (fun x6 h7 E => ?_)
      refine g_if_ne C 30 dX4_hasGoodNumbers_25 (by decide) E (fun E => ?_) (fun E => ?_)
      · refine g_iinc C (lv' := [(1, .int (v1 + 1)), (0, .ref (base + v0))]) 1 1 dX4_hasGoodNumbers_30 rfl rfl (by decide) rfl ?_
        refine g_goto C 2 dX4_hasGoodNumbers_33 (by decide) ?_
        refine g_sub (lv' := [(0, .ref (base + v0)), (1, .int (v1 + 1))]) [1, 0] rfl ?_
        exact ih v0 (v1 + 1) h7 E
      · refine g_iconst C 0 dX4_hasGoodNumbers_28 rfl ?_
        exact g_zret C dX4_hasGoodNumbers_29 hr E
set_option maxRecDepth 100000 in
set_option maxHeartbeats 4000000 in
theorem o_X4_hasGoodNumbers (l : Launch) (base : Nat) (D : va_G) (cA : Nat → ClassId) (a0 : Nat) (h : Hp) (r : Int32) (h' : Hp) (E : s_X4_hasGoodNumbers a0 h = some (r, h')) : Met l yX4_hasGoodNumbers (.code yX4_hasGoodNumbers cX4_hasGoodNumbers 2 (some .boolean) :: wsA) rm_X4_hasGoodNumbers (PcG base D cA [.ref (base + a0)] h) (QcI base D cA r h') 0 0 (AA base) := by
  refine g_met [.ref (base + a0)] (by decide) (Nat.le_of_ble_eq_true rfl) (fun p e s m args below meth c C hr hn => ?_)
  refine g_lv (lv' := [(0, .ref (base + a0))]) rfl ?_
  unfold s_X4_hasGoodNumbers at E
  refine g_iconst C 0 dX4_hasGoodNumbers_0 rfl ?_
  refine g_istore_n C (lv' := [(1, .int 0), (0, .ref (base + a0))]) dX4_hasGoodNumbers_1 rfl (by decide) rfl ?_
  refine g_sub (lv' := [(0, .ref (base + a0)), (1, .int 0)]) [1, 0] rfl ?_
  exact o_X4_hasGoodNumbers_L2 C hr _ a0 0 h E
abbrev rm_X5_init : Room := { frames := 1, cells := 1, slots := 60, locals := 12 }
def s_X5_init (a0 : Nat) (h : Hp) : Rv Unit :=
  newA h 21 60 60 fun x1 h =>
  putR h a0 5 0 x1 fun h =>
  putI h a0 5 1 0 fun h =>
  retU h
set_option maxRecDepth 100000 in
set_option maxHeartbeats 4000000 in
theorem o_X5_init (l : Launch) (base : Nat) (D : va_G) (cA : Nat → ClassId) (a0 : Nat) (h : Hp) (r : Unit) (h' : Hp) (E : s_X5_init a0 h = some (r, h')) : Met l yX5_init (.code yX5_init cX5_init 1 none :: wsA) rm_X5_init (PcG base D cA [.ref (base + a0)] h) (QcU base D cA h') 1 60 (AA base) := by
  refine g_met [.ref (base + a0)] (by decide) (Nat.le_of_ble_eq_true rfl) (fun p e s m args below meth c C hr hn => ?_)
  refine g_lv (lv' := [(0, .ref (base + a0))]) rfl ?_
  unfold s_X5_init at E
  refine g_aload_n C 0 dX5_init_0 rfl rfl ?_
  refine g_obj C dX5_init_1 (in_wsA 254 (by decide +kernel) rfl) (ob_w2) (ob_w3) (Nat.le_of_ble_eq_true rfl) (Nat.le_of_ble_eq_true rfl) ?_
  refine g_aload_n C 0 dX5_init_4 rfl rfl ?_
  refine g_bipush C 60 dX5_init_5 rfl ?_
  refine g_newa C (ty := .char) (cap := 60) 1 (by decide) (by decide) rfl rfl (fun _ _ => rfl) rfl (in_wsA 58 (by decide +kernel) rfl) (by decide) (Nat.le_of_ble_eq_true rfl) (Nat.le_of_ble_eq_true rfl) dX5_init_7 E (fun x1 h2 E => ?_)
  refine g_putR C true dX5_init_9 fl_X5_9 ⟨rfl, rfl⟩ fp_X5_5_0 (fun _ => hn) rfl E (fun h3 E => ?_)
  refine g_aload_n C 0 dX5_init_12 rfl rfl ?_
  refine g_iconst C 0 dX5_init_13 rfl ?_
  refine g_putI C false dX5_init_14 fl_X5_15 fp_X5_5_1 (fun q => Bool.noConfusion q) rfl E (fun h4 E => ?_)
  exact g_vret C dX5_init_17 hr E
abbrev rm_X5_append : Room := { frames := 0, cells := 0, slots := 0, locals := 0 }
def s_X5_append (a0 : Nat) (a1 : Int32) (h : Hp) : Rv Int32 :=
  getI h a0 5 1 fun x1 =>
  if x1 < 60 then getR h a0 5 0 fun x2 =>
  getI h a0 5 1 fun x3 =>
  stI h x2 21 x3 (vp_nar .char a1) fun h =>
  getI h a0 5 1 fun x4 =>
  putI h a0 5 1 (x4 + 1) fun h =>
  retZ 1 h
  else retZ 0 h
set_option maxRecDepth 100000 in
set_option maxHeartbeats 4000000 in
theorem o_X5_append (l : Launch) (base : Nat) (D : va_G) (cA : Nat → ClassId) (a0 : Nat) (a1 : Int32) (h : Hp) (r : Int32) (h' : Hp) (E : s_X5_append a0 a1 h = some (r, h')) : Met l yX5_append (.code yX5_append cX5_append 2 (some .boolean) :: wsA) rm_X5_append (PcG base D cA [.ref (base + a0), .int a1] h) (QcI base D cA r h') 0 0 (AA base) := by
  refine g_met [.ref (base + a0), .int a1] (by decide) (Nat.le_of_ble_eq_true rfl) (fun p e s m args below meth c C hr hn => ?_)
  refine g_lv (lv' := [(0, .ref (base + a0)), (1, .int a1)]) rfl ?_
  unfold s_X5_append at E
  refine g_aload_n C 0 dX5_append_0 rfl rfl ?_
  refine g_getI C dX5_append_1 fl_X5_15 (by decide) (by decide) E (fun x1 E => ?_)
  refine g_bipush C 60 dX5_append_4 rfl ?_
  refine g_icmp_lt C 11 dX5_append_6 (by decide) E (fun E => ?_) (fun E => ?_)
  · refine g_aload_n C 0 dX5_append_11 rfl rfl ?_
    refine g_getR C dX5_append_12 fl_X5_9 rfl E (fun x2 E => ?_)
    refine g_aload_n C 0 dX5_append_15 rfl rfl ?_
    refine g_getI C dX5_append_16 fl_X5_15 (by decide) (by decide) E (fun x3 E => ?_)
    refine g_iload_n C 1 dX5_append_19 rfl rfl ?_
    refine g_cast C dX5_append_20 E (fun h4 E => ?_)
    refine g_aload_n C 0 dX5_append_21 rfl rfl ?_
    refine g_dup C dX5_append_22 rfl ?_
    refine g_getI C dX5_append_23 fl_X5_15 (by decide) (by decide) E (fun x5 E => ?_)
    refine g_iconst C 1 dX5_append_26 rfl ?_
    refine g_iadd C dX5_append_27 ?_
    refine g_putI C false dX5_append_28 fl_X5_15 fp_X5_5_1 (fun q => Bool.noConfusion q) rfl E (fun h6 E => ?_)
    refine g_iconst C 1 dX5_append_31 rfl ?_
    exact g_zret C dX5_append_32 hr E
  · refine g_iconst C 0 dX5_append_9 rfl ?_
    exact g_zret C dX5_append_10 hr E
abbrev rm_X5_isKindWithNumber : Room := { frames := 0, cells := 0, slots := 0, locals := 0 }
def s_X5_isKindWithNumber (a0 : Int32) (h : Hp) : Rv Int32 :=
  if a0 = 102 then retZ 1 h
  else if a0 = 104 then retZ 1 h
  else if a0 = 119 then retZ 1 h
  else if a0 = 115 then retZ 1 h
  else retZ 0 h
set_option maxRecDepth 100000 in
set_option maxHeartbeats 4000000 in
theorem o_X5_isKindWithNumber (l : Launch) (base : Nat) (D : va_G) (cA : Nat → ClassId) (a0 : Int32) (h : Hp) (r : Int32) (h' : Hp) (E : s_X5_isKindWithNumber a0 h = some (r, h')) : Met l yX5_isKindWithNumber (.code yX5_isKindWithNumber cX5_isKindWithNumber 1 (some .boolean) :: wsA) rm_X5_isKindWithNumber (PcG base D cA [.int a0] h) (QcI base D cA r h') 0 0 (AA base) := by
  refine g_met [.int a0] (by decide) (Nat.le_of_ble_eq_true rfl) (fun p e s m args below meth c C hr hn => ?_)
  refine g_lv (lv' := [(0, .int a0)]) rfl ?_
  unfold s_X5_isKindWithNumber at E
  refine g_iload_n C 0 dX5_isKindWithNumber_0 rfl rfl ?_
  refine g_bipush C 102 dX5_isKindWithNumber_1 rfl ?_
  refine g_icmp_eq C 24 dX5_isKindWithNumber_3 (by decide) E (fun E => ?_) (fun E => ?_)
  · refine g_iconst C 1 dX5_isKindWithNumber_24 rfl ?_
    refine g_goto C 29 dX5_isKindWithNumber_25 (by decide) ?_
    exact g_zret C dX5_isKindWithNumber_29 hr E
  · refine g_iload_n C 0 dX5_isKindWithNumber_6 rfl rfl ?_
    refine g_bipush C 104 dX5_isKindWithNumber_7 rfl ?_
    refine g_icmp_eq C 24 dX5_isKindWithNumber_9 (by decide) E (fun E => ?_) (fun E => ?_)
    · refine g_iconst C 1 dX5_isKindWithNumber_24 rfl ?_
      refine g_goto C 29 dX5_isKindWithNumber_25 (by decide) ?_
      exact g_zret C dX5_isKindWithNumber_29 hr E
    · refine g_iload_n C 0 dX5_isKindWithNumber_12 rfl rfl ?_
      refine g_bipush C 119 dX5_isKindWithNumber_13 rfl ?_
      refine g_icmp_eq C 24 dX5_isKindWithNumber_15 (by decide) E (fun E => ?_) (fun E => ?_)
      · refine g_iconst C 1 dX5_isKindWithNumber_24 rfl ?_
        refine g_goto C 29 dX5_isKindWithNumber_25 (by decide) ?_
        exact g_zret C dX5_isKindWithNumber_29 hr E
      · refine g_iload_n C 0 dX5_isKindWithNumber_18 rfl rfl ?_
        refine g_bipush C 115 dX5_isKindWithNumber_19 rfl ?_
        refine g_icmp_ne C 28 dX5_isKindWithNumber_21 (by decide) E (fun E => ?_) (fun E => ?_)
        · refine g_iconst C 0 dX5_isKindWithNumber_28 rfl ?_
          exact g_zret C dX5_isKindWithNumber_29 hr E
        · refine g_iconst C 1 dX5_isKindWithNumber_24 rfl ?_
          refine g_goto C 29 dX5_isKindWithNumber_25 (by decide) ?_
          exact g_zret C dX5_isKindWithNumber_29 hr E
abbrev rm_X5_isDigit : Room := { frames := 0, cells := 0, slots := 0, locals := 0 }
def s_X5_isDigit (a0 : Int32) (h : Hp) : Rv Int32 :=
  if a0 < 48 then retZ 0 h
  else if 57 < a0 then retZ 0 h
  else retZ 1 h
set_option maxRecDepth 100000 in
set_option maxHeartbeats 4000000 in
theorem o_X5_isDigit (l : Launch) (base : Nat) (D : va_G) (cA : Nat → ClassId) (a0 : Int32) (h : Hp) (r : Int32) (h' : Hp) (E : s_X5_isDigit a0 h = some (r, h')) : Met l yX5_isDigit (.code yX5_isDigit cX5_isDigit 1 (some .boolean) :: wsA) rm_X5_isDigit (PcG base D cA [.int a0] h) (QcI base D cA r h') 0 0 (AA base) := by
  refine g_met [.int a0] (by decide) (Nat.le_of_ble_eq_true rfl) (fun p e s m args below meth c C hr hn => ?_)
  refine g_lv (lv' := [(0, .int a0)]) rfl ?_
  unfold s_X5_isDigit at E
  refine g_bipush C 48 dX5_isDigit_0 rfl ?_
  refine g_iload_n C 0 dX5_isDigit_2 rfl rfl ?_
  refine g_icmp_gt C 16 dX5_isDigit_3 (by decide) E (fun E => ?_) (fun E => ?_)
  · refine g_iconst C 0 dX5_isDigit_16 rfl ?_
    exact g_zret C dX5_isDigit_17 hr E
  · refine g_iload_n C 0 dX5_isDigit_6 rfl rfl ?_
    refine g_bipush C 57 dX5_isDigit_7 rfl ?_
    refine g_icmp_gt C 16 dX5_isDigit_9 (by decide) E (fun E => ?_) (fun E => ?_)
    · refine g_iconst C 0 dX5_isDigit_16 rfl ?_
      exact g_zret C dX5_isDigit_17 hr E
    · refine g_iconst C 1 dX5_isDigit_12 rfl ?_
      refine g_goto C 17 dX5_isDigit_13 (by decide) ?_
      exact g_zret C dX5_isDigit_17 hr E
abbrev rm_X5_placeBehind : Room := { frames := 1, cells := 0, slots := 0, locals := 20 }
def s_X5_placeBehind (a0 : Int32) (a1 : Int32) (h : Hp) : Rv Int32 :=
  if a0 = 0 then if a1 = 100 then retI 3 h
  else bnd (s_X5_isKindWithNumber a1 h) fun x1 h =>
  if x1 = 0 then retI (-5) h
  else retI 1 h
  else if a0 = 1 then bnd (s_X5_isDigit a1 h) fun x2 h =>
  if x2 = 0 then retI (-5) h
  else if a1 = 48 then retI (-5) h
  else retI 2 h
  else if a0 = 2 then bnd (s_X5_isDigit a1 h) fun x3 h =>
  if x3 = 0 then if a1 = 59 then retI 0 h
  else retI (-5) h
  else retI 3 h
  else if a1 = 59 then retI 0 h
  else retI (-5) h
set_option maxRecDepth 100000 in
set_option maxHeartbeats 4000000 in
theorem o_X5_placeBehind (l : Launch) (base : Nat) (D : va_G) (cA : Nat → ClassId) (a0 : Int32) (a1 : Int32) (h : Hp) (r : Int32) (h' : Hp) (E : s_X5_placeBehind a0 a1 h = some (r, h')) : Met l yX5_placeBehind (.code yX5_placeBehind cX5_placeBehind 2 (some .int) :: wsA) rm_X5_placeBehind (PcG base D cA [.int a0, .int a1] h) (QcI base D cA r h') 0 0 (AA base) := by
  refine g_met [.int a0, .int a1] (by decide) (Nat.le_of_ble_eq_true rfl) (fun p e s m args below meth c C hr hn => ?_)
  refine g_lv (lv' := [(0, .int a0), (1, .int a1)]) rfl ?_
  unfold s_X5_placeBehind at E
  refine g_iload_n C 0 dX5_placeBehind_0 rfl rfl ?_
  by_cases q1 : a0 = 0
  · rw [if_pos q1] at E
    refine g_tswIn C 0 28 q1 dX5_placeBehind_1 (by decide) (by decide) rfl (by decide) ?_
    refine g_iload_n C 1 dX5_placeBehind_28 rfl rfl ?_
    refine g_bipush C 100 dX5_placeBehind_29 rfl ?_
    refine g_icmp_ne C 36 dX5_placeBehind_31 (by decide) E (fun E => ?_) (fun E => ?_)
    · refine g_iload_n C 1 dX5_placeBehind_36 rfl rfl ?_
      refine g_staI C [.int a1] dX5_placeBehind_37 cl_X5_23 cs_X5_isKindWithNumber rfl rfl ⟨Nat.le_of_ble_eq_true rfl, Nat.le_of_ble_eq_true rfl⟩ (Nat.le_of_ble_eq_true rfl) ⟨Nat.le_of_ble_eq_true rfl, Nat.le_of_ble_eq_true rfl⟩ rfl (fun r' h' E => o_X5_isKindWithNumber l base D cA a1 h r' h' E) E (fun x2 h3 E => ?_)
      refine g_if_eq C 47 dX5_placeBehind_40 (by decide) E (fun E => ?_) (fun E => ?_)
      · refine g_bipush C (-5) dX5_placeBehind_47 rfl ?_
        exact g_iret C dX5_placeBehind_49 hr E
      · refine g_iconst C 1 dX5_placeBehind_43 rfl ?_
        refine g_goto C 49 dX5_placeBehind_44 (by decide) ?_
        exact g_iret C dX5_placeBehind_49 hr E
    · refine g_iconst C 3 dX5_placeBehind_34 rfl ?_
      exact g_iret C dX5_placeBehind_35 hr E
  rw [if_neg q1] at E
  by_cases q4 : a0 = 1
  · rw [if_pos q4] at E
    refine g_tswIn C 1 50 q4 dX5_placeBehind_1 (by decide) (by decide) rfl (by decide) ?_
    refine g_iload_n C 1 dX5_placeBehind_50 rfl rfl ?_
    refine g_staI C [.int a1] dX5_placeBehind_51 cl_X5_27 cs_X5_isDigit rfl rfl ⟨Nat.le_of_ble_eq_true rfl, Nat.le_of_ble_eq_true rfl⟩ (Nat.le_of_ble_eq_true rfl) ⟨Nat.le_of_ble_eq_true rfl, Nat.le_of_ble_eq_true rfl⟩ rfl (fun r' h' E => o_X5_isDigit l base D cA a1 h r' h' E) E (fun x5 h6 E => ?_)
    refine g_if_eq C 67 dX5_placeBehind_54 (by decide) E (fun E => ?_) (fun E => ?_)
    · refine g_bipush C (-5) dX5_placeBehind_67 rfl ?_
      exact g_iret C dX5_placeBehind_69 hr E
    · refine g_iload_n C 1 dX5_placeBehind_57 rfl rfl ?_
      refine g_bipush C 48 dX5_placeBehind_58 rfl ?_
      refine g_icmp_eq C 67 dX5_placeBehind_60 (by decide) E (fun E => ?_) (fun E => ?_)
      · refine g_bipush C (-5) dX5_placeBehind_67 rfl ?_
        exact g_iret C dX5_placeBehind_69 hr E
      · refine g_iconst C 2 dX5_placeBehind_63 rfl ?_
        refine g_goto C 69 dX5_placeBehind_64 (by decide) ?_
        exact g_iret C dX5_placeBehind_69 hr E
  rw [if_neg q4] at E
  by_cases q7 : a0 = 2
  · rw [if_pos q7] at E
    refine g_tswIn C 2 70 q7 dX5_placeBehind_1 (by decide) (by decide) rfl (by decide) ?_
    refine g_iload_n C 1 dX5_placeBehind_70 rfl rfl ?_
    refine g_staI C [.int a1] dX5_placeBehind_71 cl_X5_27 cs_X5_isDigit rfl rfl ⟨Nat.le_of_ble_eq_true rfl, Nat.le_of_ble_eq_true rfl⟩ (Nat.le_of_ble_eq_true rfl) ⟨Nat.le_of_ble_eq_true rfl, Nat.le_of_ble_eq_true rfl⟩ rfl (fun r' h' E => o_X5_isDigit l base D cA a1 h r' h' E) E (fun x8 h9 E => ?_)
    refine g_if_eq C 79 dX5_placeBehind_74 (by decide) E (fun E => ?_) (fun E => ?_)
    · refine g_iload_n C 1 dX5_placeBehind_79 rfl rfl ?_
      refine g_bipush C 59 dX5_placeBehind_80 rfl ?_
      refine g_icmp_ne C 89 dX5_placeBehind_82 (by decide) E (fun E => ?_) (fun E => ?_)
      · refine g_bipush C (-5) dX5_placeBehind_89 rfl ?_
        exact g_iret C dX5_placeBehind_91 hr E
      · refine g_iconst C 0 dX5_placeBehind_85 rfl ?_
        refine g_goto C 91 dX5_placeBehind_86 (by decide) ?_
        exact g_iret C dX5_placeBehind_91 hr E
    · refine g_iconst C 3 dX5_placeBehind_77 rfl ?_
      exact g_iret C dX5_placeBehind_78 hr E
  rw [if_neg q7] at E
  refine g_tswDf C 92 dX5_placeBehind_1 (fun z z1 z2 zx => ?_) (by decide) ?_
  · rcases (show z = 0 ∨ z = 1 ∨ z = 2 by omega) with rfl | rfl | rfl
    · exact absurd zx (lv_neT q1 (by decide))
    · exact absurd zx (lv_neT q4 (by decide))
    · exact absurd zx (lv_neT q7 (by decide))
  refine g_iload_n C 1 dX5_placeBehind_92 rfl rfl ?_
  refine g_bipush C 59 dX5_placeBehind_93 rfl ?_
  refine g_icmp_ne C 102 dX5_placeBehind_95 (by decide) E (fun E => ?_) (fun E => ?_)
  · refine g_bipush C (-5) dX5_placeBehind_102 rfl ?_
    exact g_iret C dX5_placeBehind_104 hr E
  · refine g_iconst C 0 dX5_placeBehind_98 rfl ?_
    refine g_goto C 104 dX5_placeBehind_99 (by decide) ?_
    exact g_iret C dX5_placeBehind_104 hr E
abbrev rm_X5_firstFault : Room := { frames := 2, cells := 0, slots := 0, locals := 41 }
def s_X5_firstFault_L4 (k37 : Nat → Int32 → Hp → Rv Int32) : Nat → Nat → Int32 → Int32 → Hp → Rv Int32
  | 0, _, _, _, _ => none
  | n + 1, v0, v1, v2, h =>
    getI h v0 5 1 fun x1 =>
  if x1 ≤ v2 then k37 v0 v1 h
  else getR h v0 5 0 fun x2 =>
  ldI h x2 21 v2 fun x3 =>
  bnd (s_X5_placeBehind v1 x3 h) fun x4 h =>
  if x4 = (-5) then retI v2 h
  else s_X5_firstFault_L4 k37 n v0 x4 (v2 + 1) h
def s_X5_firstFault (a0 : Nat) (h : Hp) : Rv Int32 :=
  s_X5_firstFault_L4 (fun y0 y1 h => if y1 = 0 then getI h y0 5 1 fun x5 =>
  retI x5 h
  else if y1 = 1 then getI h y0 5 1 fun x6 =>
  retI x6 h
  else retI (-5) h) 100000 a0 0 0 h
set_option maxRecDepth 100000 in
set_option maxHeartbeats 4000000 in
theorem o_X5_firstFault_L4 {l : Launch} {base : Nat} {D : va_G} {cA : Nat → ClassId} {p : Program} {e : Env} {s : State} {m : MethodId} {args : Array Value} {below : List Frame} {meth : Method} {c : Code} (C : GC base D cA p s m args meth c cX5_firstFault 3 RX5) (hr : meth.sig.returnType = (some .int)) {X : Int32 × Hp} {k37 : Nat → Int32 → Hp → Rv Int32} (K37 : ∀ (y0 : Nat) (y1 : Int32) (h : Hp), k37 y0 y1 h = some X → GW base D cA p l e rm_X5_firstFault s m args below meth c (MQ below (QcI base D cA X.1 X.2) args s 0 0 (AA base)) 3 h 0 0 37 [(0, .ref (base + y0)), (1, .int y1)] []) : ∀ (n : Nat) (v0 : Nat) (v1 : Int32) (v2 : Int32) (h : Hp), s_X5_firstFault_L4 k37 n v0 v1 v2 h = some X → GW base D cA p l e rm_X5_firstFault s m args below meth c (MQ below (QcI base D cA X.1 X.2) args s 0 0 (AA base)) 3 h 0 0 4 [(0, .ref (base + v0)), (1, .int v1), (2, .int v2)] [] := by
  intro n
  induction n with
  | zero =>
    intro v0 v1 v2 h E
    rw [s_X5_firstFault_L4] at E
    cases E
  | succ n ih =>
    intro v0 v1 v2 h E
    rw [s_X5_firstFault_L4] at E
    refine g_iload_n C 2 dX5_firstFault_4 rfl rfl ?_
    refine g_aload_n C 0 dX5_firstFault_5 rfl rfl ?_
    refine g_getI C dX5_firstFault_6 fl_X5_15 (by decide) (by decide) E (fun x1 E => ?_)
    refine g_icmp_ge C 37 dX5_firstFault_9 (by decide) E (fun E => ?_) (fun E => ?_)
    · refine g_sub (lv' := [(0, .ref (base + v0)), (1, .int v1)]) [0, 1] rfl ?_
      exact K37 v0 v1 h E
    · refine g_iload_n C 1 dX5_firstFault_12 rfl rfl ?_
      refine g_aload_n C 0 dX5_firstFault_13 rfl rfl ?_
      refine g_getR C dX5_firstFault_14 fl_X5_9 rfl E (fun x2 E => ?_)
      refine g_iload_n C 2 dX5_firstFault_17 rfl rfl ?_
      refine g_cald C dX5_firstFault_18 E (fun x3 E => ?_)
      refine g_staI C [.int v1, .int x3] dX5_firstFault_19 cl_X5_19 cs_X5_placeBehind rfl rfl ⟨Nat.le_of_ble_eq_true rfl, Nat.le_of_ble_eq_true rfl⟩ (Nat.le_of_ble_eq_true rfl) ⟨Nat.le_of_ble_eq_true rfl, Nat.le_of_ble_eq_true rfl⟩ rfl (fun r' h' E => o_X5_placeBehind l base D cA v1 x3 h r' h' E) E (fun x4 h5 E => ?_)
      refine g_istore_n C (lv' := [(1, .int x4), (0, .ref (base + v0)), (2, .int v2)]) dX5_firstFault_22 rfl (by decide) rfl ?_
      refine g_iload_n C 0 dX5_firstFault_23 rfl rfl ?_
      refine g_bipush C (-5) dX5_firstFault_24 rfl ?_
      refine g_icmp_ne C 31 dX5_firstFault_26 (by decide) E (fun E => ?_) (fun E => ?_)
      · refine g_iinc C (lv' := [(2, .int (v2 + 1)), (1, .int x4), (0, .ref (base + v0))]) 2 1 dX5_firstFault_31 rfl rfl (by decide) rfl ?_
        refine g_goto C 4 dX5_firstFault_34 (by decide) ?_
        refine g_sub (lv' := [(0, .ref (base + v0)), (1, .int x4), (2, .int (v2 + 1))]) [2, 1, 0] rfl ?_
        exact ih v0 x4 (v2 + 1) h5 E
      · refine g_iload_n C 2 dX5_firstFault_29 rfl rfl ?_
        exact g_iret C dX5_firstFault_30 hr E
set_option maxRecDepth 100000 in
set_option maxHeartbeats 4000000 in
theorem o_X5_firstFault (l : Launch) (base : Nat) (D : va_G) (cA : Nat → ClassId) (a0 : Nat) (h : Hp) (r : Int32) (h' : Hp) (E : s_X5_firstFault a0 h = some (r, h')) : Met l yX5_firstFault (.code yX5_firstFault cX5_firstFault 3 (some .int) :: wsA) rm_X5_firstFault (PcG base D cA [.ref (base + a0)] h) (QcI base D cA r h') 0 0 (AA base) := by
  refine g_met [.ref (base + a0)] (by decide) (Nat.le_of_ble_eq_true rfl) (fun p e s m args below meth c C hr hn => ?_)
  refine g_lv (lv' := [(0, .ref (base + a0))]) rfl ?_
  unfold s_X5_firstFault at E
  refine g_iconst C 0 dX5_firstFault_0 rfl ?_
  refine g_istore_n C (lv' := [(1, .int 0), (0, .ref (base + a0))]) dX5_firstFault_1 rfl (by decide) rfl ?_
  refine g_iconst C 0 dX5_firstFault_2 rfl ?_
  refine g_istore_n C (lv' := [(2, .int 0), (1, .int 0), (0, .ref (base + a0))]) dX5_firstFault_3 rfl (by decide) rfl ?_
  refine g_sub (lv' := [(0, .ref (base + a0)), (1, .int 0), (2, .int 0)]) [2, 1, 0] rfl ?_
  refine o_X5_firstFault_L4 C hr ?_ _ a0 0 0 h E
  · intro y1 y2 h3 E
    refine g_iload_n C 1 dX5_firstFault_37 rfl rfl ?_
    refine g_if_eq C 46 dX5_firstFault_38 (by decide) E (fun E => ?_) (fun E => ?_)
    · refine g_aload_n C 0 dX5_firstFault_46 rfl rfl ?_
      refine g_getI C dX5_firstFault_47 fl_X5_15 (by decide) (by decide) E (fun x4 E => ?_)
      refine g_goto C 55 dX5_firstFault_50 (by decide) ?_
      exact g_iret C dX5_firstFault_55 hr E
    · refine g_iload_n C 1 dX5_firstFault_41 rfl rfl ?_
      refine g_iconst C 1 dX5_firstFault_42 rfl ?_
      refine g_icmp_ne C 53 dX5_firstFault_43 (by decide) E (fun E => ?_) (fun E => ?_)
      · refine g_bipush C (-5) dX5_firstFault_53 rfl ?_
        exact g_iret C dX5_firstFault_55 hr E
      · refine g_aload_n C 0 dX5_firstFault_46 rfl rfl ?_
        refine g_getI C dX5_firstFault_47 fl_X5_15 (by decide) (by decide) E (fun x5 E => ?_)
        refine g_goto C 55 dX5_firstFault_50 (by decide) ?_
        exact g_iret C dX5_firstFault_55 hr E
abbrev rm_X5_separators : Room := { frames := 0, cells := 0, slots := 0, locals := 0 }
def s_X5_separators_L4 : Nat → Nat → Int32 → Int32 → Hp → Rv Int32
  | 0, _, _, _, _ => none
  | n + 1, v0, v1, v2, h =>
    getI h v0 5 1 fun x1 =>
  if x1 ≤ v2 then retI v1 h
  else getR h v0 5 0 fun x2 =>
  ldI h x2 21 v2 fun x3 =>
  if x3 = 59 then s_X5_separators_L4 n v0 (v1 + 1) (v2 + 1) h
  else s_X5_separators_L4 n v0 (v1 + 0) (v2 + 1) h
def s_X5_separators (a0 : Nat) (h : Hp) : Rv Int32 :=
  s_X5_separators_L4 100000 a0 0 0 h
set_option maxRecDepth 100000 in
set_option maxHeartbeats 4000000 in
theorem o_X5_separators_L4 {l : Launch} {base : Nat} {D : va_G} {cA : Nat → ClassId} {p : Program} {e : Env} {s : State} {m : MethodId} {args : Array Value} {below : List Frame} {meth : Method} {c : Code} (C : GC base D cA p s m args meth c cX5_separators 3 RX5) (hr : meth.sig.returnType = (some .int)) {X : Int32 × Hp} : ∀ (n : Nat) (v0 : Nat) (v1 : Int32) (v2 : Int32) (h : Hp), s_X5_separators_L4 n v0 v1 v2 h = some X → GW base D cA p l e rm_X5_separators s m args below meth c (MQ below (QcI base D cA X.1 X.2) args s 0 0 (AA base)) 3 h 0 0 4 [(0, .ref (base + v0)), (1, .int v1), (2, .int v2)] [] := by
  intro n
  induction n with
  | zero =>
    intro v0 v1 v2 h E
    rw [s_X5_separators_L4] at E
    cases E
  | succ n ih =>
    intro v0 v1 v2 h E
    rw [s_X5_separators_L4] at E
    refine g_iload_n C 2 dX5_separators_4 rfl rfl ?_
    refine g_aload_n C 0 dX5_separators_5 rfl rfl ?_
    refine g_getI C dX5_separators_6 fl_X5_15 (by decide) (by decide) E (fun x1 E => ?_)
    refine g_icmp_ge C 37 dX5_separators_9 (by decide) E (fun E => ?_) (fun E => ?_)
    · refine g_iload_n C 1 dX5_separators_37 rfl rfl ?_
      exact g_iret C dX5_separators_38 hr E
    · refine g_iload_n C 1 dX5_separators_12 rfl rfl ?_
      refine g_aload_n C 0 dX5_separators_13 rfl rfl ?_
      refine g_getR C dX5_separators_14 fl_X5_9 rfl E (fun x2 E => ?_)
      refine g_iload_n C 2 dX5_separators_17 rfl rfl ?_
      refine g_cald C dX5_separators_18 E (fun x3 E => ?_)
      refine g_bipush C 59 dX5_separators_19 rfl ?_
      refine g_icmp_ne C 28 dX5_separators_21 (by decide) E (fun E => ?_) (fun E => ?_)
      · refine g_iconst C 0 dX5_separators_28 rfl ?_
        refine g_iadd C dX5_separators_29 ?_
        refine g_istore_n C (lv' := [(1, .int (v1 + 0)), (0, .ref (base + v0)), (2, .int v2)]) dX5_separators_30 rfl (by decide) rfl ?_
        refine g_iinc C (lv' := [(2, .int (v2 + 1)), (1, .int (v1 + 0)), (0, .ref (base + v0))]) 2 1 dX5_separators_31 rfl rfl (by decide) rfl ?_
        refine g_goto C 4 dX5_separators_34 (by decide) ?_
        refine g_sub (lv' := [(0, .ref (base + v0)), (1, .int (v1 + 0)), (2, .int (v2 + 1))]) [2, 1, 0] rfl ?_
        exact ih v0 (v1 + 0) (v2 + 1) h E
      · refine g_iconst C 1 dX5_separators_24 rfl ?_
        refine g_goto C 29 dX5_separators_25 (by decide) ?_
        refine g_iadd C dX5_separators_29 ?_
        refine g_istore_n C (lv' := [(1, .int (v1 + 1)), (0, .ref (base + v0)), (2, .int v2)]) dX5_separators_30 rfl (by decide) rfl ?_
        refine g_iinc C (lv' := [(2, .int (v2 + 1)), (1, .int (v1 + 1)), (0, .ref (base + v0))]) 2 1 dX5_separators_31 rfl rfl (by decide) rfl ?_
        refine g_goto C 4 dX5_separators_34 (by decide) ?_
        refine g_sub (lv' := [(0, .ref (base + v0)), (1, .int (v1 + 1)), (2, .int (v2 + 1))]) [2, 1, 0] rfl ?_
        exact ih v0 (v1 + 1) (v2 + 1) h E
set_option maxRecDepth 100000 in
set_option maxHeartbeats 4000000 in
theorem o_X5_separators (l : Launch) (base : Nat) (D : va_G) (cA : Nat → ClassId) (a0 : Nat) (h : Hp) (r : Int32) (h' : Hp) (E : s_X5_separators a0 h = some (r, h')) : Met l yX5_separators (.code yX5_separators cX5_separators 3 (some .int) :: wsA) rm_X5_separators (PcG base D cA [.ref (base + a0)] h) (QcI base D cA r h') 0 0 (AA base) := by
  refine g_met [.ref (base + a0)] (by decide) (Nat.le_of_ble_eq_true rfl) (fun p e s m args below meth c C hr hn => ?_)
  refine g_lv (lv' := [(0, .ref (base + a0))]) rfl ?_
  unfold s_X5_separators at E
  refine g_iconst C 0 dX5_separators_0 rfl ?_
  refine g_istore_n C (lv' := [(1, .int 0), (0, .ref (base + a0))]) dX5_separators_1 rfl (by decide) rfl ?_
  refine g_iconst C 0 dX5_separators_2 rfl ?_
  refine g_istore_n C (lv' := [(2, .int 0), (1, .int 0), (0, .ref (base + a0))]) dX5_separators_3 rfl (by decide) rfl ?_
  refine g_sub (lv' := [(0, .ref (base + a0)), (1, .int 0), (2, .int 0)]) [2, 1, 0] rfl ?_
  exact o_X5_separators_L4 C hr _ a0 0 0 h E
