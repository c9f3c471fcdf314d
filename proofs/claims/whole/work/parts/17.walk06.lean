abbrev rm_X9_init : Room := { frames := 1, cells := 9, slots := 2943, locals := 12 }
def s_X9_init (a0 : Nat) (h : Hp) : Rv Unit :=
  newA h 20 401 401 fun x1 h =>
  putR h a0 9 0 x1 fun h =>
  newA h 20 401 401 fun x2 h =>
  putR h a0 9 1 x2 fun h =>
  newA h 20 401 401 fun x3 h =>
  putR h a0 9 2 x3 fun h =>
  newA h 20 1604 1604 fun x4 h =>
  putR h a0 9 4 x4 fun h =>
  newA h 20 60 60 fun x5 h =>
  putR h a0 9 6 x5 fun h =>
  newA h 20 8 8 fun x6 h =>
  putR h a0 9 8 x6 fun h =>
  newA h 20 8 8 fun x7 h =>
  putR h a0 9 9 x7 fun h =>
  newA h 20 30 30 fun x8 h =>
  putR h a0 9 11 x8 fun h =>
  newA h 20 30 30 fun x9 h =>
  putR h a0 9 12 x9 fun h =>
  getR h a0 9 0 fun x10 =>
  stI h x10 20 1 1 fun h =>
  getR h a0 9 0 fun x11 =>
  stI h x11 20 3 20000 fun h =>
  getR h a0 9 0 fun x12 =>
  stI h x12 20 4 200 fun h =>
  getR h a0 9 0 fun x13 =>
  stI h x13 20 5 300 fun h =>
  getR h a0 9 0 fun x14 =>
  stI h x14 20 6 40 fun h =>
  getR h a0 9 0 fun x15 =>
  stI h x15 20 7 10000 fun h =>
  retU h
set_option maxRecDepth 100000 in
set_option maxHeartbeats 4000000 in
theorem o_X9_init (l : Launch) (base : Nat) (D : va_G) (cA : Nat → ClassId) (a0 : Nat) (h : Hp) (r : Unit) (h' : Hp) (E : s_X9_init a0 h = some (r, h')) : Met l yX9_init (.code yX9_init cX9_init 1 none :: wsA) rm_X9_init (PcG base D cA [.ref (base + a0)] h) (QcU base D cA h') 9 2943 (AA base) := by
  refine g_met [.ref (base + a0)] (by decide) (Nat.le_of_ble_eq_true rfl) (fun p e s m args below meth c C hr hn => ?_)
  refine g_lv (lv' := [(0, .ref (base + a0))]) rfl ?_
  unfold s_X9_init at E
  refine g_aload_n C 0 dX9_init_0 rfl rfl ?_
  refine g_obj C dX9_init_1 (in_wsA 740 (by decide +kernel) rfl) (ob_w2) (ob_w3) (Nat.le_of_ble_eq_true rfl) (Nat.le_of_ble_eq_true rfl) ?_
  refine g_aload_n C 0 dX9_init_4 rfl rfl ?_
  refine g_sipush C 401 dX9_init_5 rfl ?_
  refine g_newa C (ty := .int) (cap := 401) 0 (by decide) (by decide) rfl rfl (fun _ _ => rfl) rfl (in_wsA 95 (by decide +kernel) rfl) (by decide) (Nat.le_of_ble_eq_true rfl) (Nat.le_of_ble_eq_true rfl) dX9_init_8 E (fun x1 h2 E => ?_)
  refine g_putR C true dX9_init_10 fl_X9_7 ⟨rfl, rfl⟩ fp_X9_9_0 (fun _ => hn) rfl E (fun h3 E => ?_)
  refine g_aload_n C 0 dX9_init_13 rfl rfl ?_
  refine g_sipush C 401 dX9_init_14 rfl ?_
  refine g_newa C (ty := .int) (cap := 401) 0 (by decide) (by decide) rfl rfl (fun _ _ => rfl) rfl (in_wsA 95 (by decide +kernel) rfl) (by decide) (Nat.le_of_ble_eq_true rfl) (Nat.le_of_ble_eq_true rfl) dX9_init_17 E (fun x4 h5 E => ?_)
  refine g_putR C true dX9_init_19 fl_X9_13 ⟨rfl, rfl⟩ fp_X9_9_1 (fun _ => hn) rfl E (fun h6 E => ?_)
  refine g_aload_n C 0 dX9_init_22 rfl rfl ?_
  refine g_sipush C 401 dX9_init_23 rfl ?_
  refine g_newa C (ty := .int) (cap := 401) 0 (by decide) (by decide) rfl rfl (fun _ _ => rfl) rfl (in_wsA 95 (by decide +kernel) rfl) (by decide) (Nat.le_of_ble_eq_true rfl) (Nat.le_of_ble_eq_true rfl) dX9_init_26 E (fun x7 h8 E => ?_)
  refine g_putR C true dX9_init_28 fl_X9_16 ⟨rfl, rfl⟩ fp_X9_9_2 (fun _ => hn) rfl E (fun h9 E => ?_)
  refine g_aload_n C 0 dX9_init_31 rfl rfl ?_
  refine g_sipush C 1604 dX9_init_32 rfl ?_
  refine g_newa C (ty := .int) (cap := 1604) 0 (by decide) (by decide) rfl rfl (fun _ _ => rfl) rfl (in_wsA 95 (by decide +kernel) rfl) (by decide) (Nat.le_of_ble_eq_true rfl) (Nat.le_of_ble_eq_true rfl) dX9_init_35 E (fun x10 h11 E => ?_)
  refine g_putR C true dX9_init_37 fl_X9_19 ⟨rfl, rfl⟩ fp_X9_9_4 (fun _ => hn) rfl E (fun h12 E => ?_)
  refine g_aload_n C 0 dX9_init_40 rfl rfl ?_
  refine g_bipush C 60 dX9_init_41 rfl ?_
  refine g_newa C (ty := .int) (cap := 60) 0 (by decide) (by decide) rfl rfl (fun _ _ => rfl) rfl (in_wsA 95 (by decide +kernel) rfl) (by decide) (Nat.le_of_ble_eq_true rfl) (Nat.le_of_ble_eq_true rfl) dX9_init_43 E (fun x13 h14 E => ?_)
  refine g_putR C true dX9_init_45 fl_X9_22 ⟨rfl, rfl⟩ fp_X9_9_6 (fun _ => hn) rfl E (fun h15 E => ?_)
  refine g_aload_n C 0 dX9_init_48 rfl rfl ?_
  refine g_bipush C 8 dX9_init_49 rfl ?_
  refine g_newa C (ty := .int) (cap := 8) 0 (by decide) (by decide) rfl rfl (fun _ _ => rfl) rfl (in_wsA 95 (by decide +kernel) rfl) (by decide) (Nat.le_of_ble_eq_true rfl) (Nat.le_of_ble_eq_true rfl) dX9_init_51 E (fun x16 h17 E => ?_)
  refine g_putR C true dX9_init_53 fl_X9_25 ⟨rfl, rfl⟩ fp_X9_9_8 (fun _ => hn) rfl E (fun h18 E => ?_)
  refine g_aload_n C 0 dX9_init_56 rfl rfl ?_
  refine g_bipush C 8 dX9_init_57 rfl ?_
  refine g_newa C (ty := .int) (cap := 8) 0 (by decide) (by decide) rfl rfl (fun _ _ => rfl) rfl (in_wsA 95 (by decide +kernel) rfl) (by decide) (Nat.le_of_ble_eq_true rfl) (Nat.le_of_ble_eq_true rfl) dX9_init_59 E (fun x19 h20 E => ?_)
  refine g_putR C true dX9_init_61 fl_X9_28 ⟨rfl, rfl⟩ fp_X9_9_9 (fun _ => hn) rfl E (fun h21 E => ?_)
  refine g_aload_n C 0 dX9_init_64 rfl rfl ?_
  refine g_bipush C 30 dX9_init_65 rfl ?_
  refine g_newa C (ty := .int) (cap := 30) 0 (by decide) (by decide) rfl rfl (fun _ _ => rfl) rfl (in_wsA 95 (by decide +kernel) rfl) (by decide) (Nat.le_of_ble_eq_true rfl) (Nat.le_of_ble_eq_true rfl) dX9_init_67 E (fun x22 h23 E => ?_)
  refine g_putR C true dX9_init_69 fl_X9_31 ⟨rfl, rfl⟩ fp_X9_9_11 (fun _ => hn) rfl E (fun h24 E => ?_)
  refine g_aload_n C 0 dX9_init_72 rfl rfl ?_
  refine g_bipush C 30 dX9_init_73 rfl ?_
  refine g_newa C (ty := .int) (cap := 30) 0 (by decide) (by decide) rfl rfl (fun _ _ => rfl) rfl (in_wsA 95 (by decide +kernel) rfl) (by decide) (Nat.le_of_ble_eq_true rfl) (Nat.le_of_ble_eq_true rfl) dX9_init_75 E (fun x25 h26 E => ?_)
  refine g_putR C true dX9_init_77 fl_X9_34 ⟨rfl, rfl⟩ fp_X9_9_12 (fun _ => hn) rfl E (fun h27 E => ?_)
  refine g_aload_n C 0 dX9_init_80 rfl rfl ?_
  refine g_getR C dX9_init_81 fl_X9_7 rfl E (fun x28 E => ?_)
  refine g_iconst C 1 dX9_init_84 rfl ?_
  refine g_iconst C 1 dX9_init_85 rfl ?_
  refine g_iast C dX9_init_86 E (fun h29 E => ?_)
  refine g_aload_n C 0 dX9_init_87 rfl rfl ?_
  refine g_getR C dX9_init_88 fl_X9_7 rfl E (fun x30 E => ?_)
  refine g_iconst C 3 dX9_init_91 rfl ?_
  refine g_sipush C 20000 dX9_init_92 rfl ?_
  refine g_iast C dX9_init_95 E (fun h31 E => ?_)
  refine g_aload_n C 0 dX9_init_96 rfl rfl ?_
  refine g_getR C dX9_init_97 fl_X9_7 rfl E (fun x32 E => ?_)
  refine g_iconst C 4 dX9_init_100 rfl ?_
  refine g_sipush C 200 dX9_init_101 rfl ?_
  refine g_iast C dX9_init_104 E (fun h33 E => ?_)
  refine g_aload_n C 0 dX9_init_105 rfl rfl ?_
  refine g_getR C dX9_init_106 fl_X9_7 rfl E (fun x34 E => ?_)
  refine g_iconst C 5 dX9_init_109 rfl ?_
  refine g_sipush C 300 dX9_init_110 rfl ?_
  refine g_iast C dX9_init_113 E (fun h35 E => ?_)
  refine g_aload_n C 0 dX9_init_114 rfl rfl ?_
  refine g_getR C dX9_init_115 fl_X9_7 rfl E (fun x36 E => ?_)
  refine g_bipush C 6 dX9_init_118 rfl ?_
  refine g_bipush C 40 dX9_init_120 rfl ?_
  refine g_iast C dX9_init_122 E (fun h37 E => ?_)
  refine g_aload_n C 0 dX9_init_123 rfl rfl ?_
  refine g_getR C dX9_init_124 fl_X9_7 rfl E (fun x38 E => ?_)
  refine g_bipush C 7 dX9_init_127 rfl ?_
  refine g_sipush C 10000 dX9_init_129 rfl ?_
  refine g_iast C dX9_init_132 E (fun h39 E => ?_)
  exact g_vret C dX9_init_133 hr E
abbrev rm_X9_copy : Room := { frames := 0, cells := 0, slots := 0, locals := 0 }
def s_X9_copy_L3 : Nat → Nat → Int32 → Nat → Int32 → Int32 → Hp → Rv Unit
  | 0, _, _, _, _, _, _ => none
  | n + 1, v0, v1, v2, v3, v4, h =>
    if 401 ≤ v4 then retU h
  else ldI h v0 20 (v1 + v4) fun x1 =>
  stI h v2 20 (v3 + v4) x1 fun h =>
  s_X9_copy_L3 n v0 v1 v2 v3 (v4 + 1) h
def s_X9_copy (a0 : Nat) (a1 : Int32) (a2 : Nat) (a3 : Int32) (h : Hp) : Rv Unit :=
  s_X9_copy_L3 100000 a0 a1 a2 a3 0 h
set_option maxRecDepth 100000 in
set_option maxHeartbeats 4000000 in
theorem o_X9_copy_L3 {l : Launch} {base : Nat} {D : va_G} {cA : Nat → ClassId} {p : Program} {e : Env} {s : State} {m : MethodId} {args : Array Value} {below : List Frame} {meth : Method} {c : Code} (C : GC base D cA p s m args meth c cX9_copy 5 RX9) (hr : meth.sig.returnType = none) {X : Unit × Hp} : ∀ (n : Nat) (v0 : Nat) (v1 : Int32) (v2 : Nat) (v3 : Int32) (v4 : Int32) (h : Hp), s_X9_copy_L3 n v0 v1 v2 v3 v4 h = some X → GW base D cA p l e rm_X9_copy s m args below meth c (MQ below (QcU base D cA X.2) args s 0 0 (AA base)) 5 h 0 0 3 [(0, .ref (base + v0)), (1, .int v1), (2, .ref (base + v2)), (3, .int v3), (4, .int v4)] [] := by
  intro n
  induction n with
  | zero =>
    intro v0 v1 v2 v3 v4 h E
    rw [s_X9_copy_L3] at E
    cases E
  | succ n ih =>
    intro v0 v1 v2 v3 v4 h E
    rw [s_X9_copy_L3] at E
    refine g_iload C 4 dX9_copy_3 rfl ?_
    refine g_sipush C 401 dX9_copy_5 rfl ?_
    refine g_icmp_ge C 29 dX9_copy_8 (by decide) E (fun E => ?_) (fun E => ?_)
    · exact g_vret C dX9_copy_29 hr E
    · refine g_aload_n C 2 dX9_copy_11 rfl rfl ?_
      refine g_iload_n C 3 dX9_copy_12 rfl rfl ?_
      refine g_iload C 4 dX9_copy_13 rfl ?_
      refine g_iadd C dX9_copy_15 ?_
      refine g_aload_n C 0 dX9_copy_16 rfl rfl ?_
      refine g_iload_n C 1 dX9_copy_17 rfl rfl ?_
      refine g_iload C 4 dX9_copy_18 rfl ?_
      refine g_iadd C dX9_copy_20 ?_
      refine g_iald C dX9_copy_21 E (fun x1 E => ?_)
      refine g_iast C dX9_copy_22 E (fun h2 E => ?_)
      refine g_iinc C (lv' := [(4, .int (v4 + 1)), (0, .ref (base + v0)), (1, .int v1), (2, .ref (base + v2)), (3, .int v3)]) 4 1 dX9_copy_23 rfl rfl (by decide) rfl ?_
      refine g_goto C 3 dX9_copy_26 (by decide) ?_
      refine g_sub (lv' := [(0, .ref (base + v0)), (1, .int v1), (2, .ref (base + v2)), (3, .int v3), (4, .int (v4 + 1))]) [1, 2, 3, 4, 0] rfl ?_
      exact ih v0 v1 v2 v3 (v4 + 1) h2 E
set_option maxRecDepth 100000 in
set_option maxHeartbeats 4000000 in
theorem o_X9_copy (l : Launch) (base : Nat) (D : va_G) (cA : Nat → ClassId) (a0 : Nat) (a1 : Int32) (a2 : Nat) (a3 : Int32) (h : Hp) (r : Unit) (h' : Hp) (E : s_X9_copy a0 a1 a2 a3 h = some (r, h')) : Met l yX9_copy (.code yX9_copy cX9_copy 5 none :: wsA) rm_X9_copy (PcG base D cA [.ref (base + a0), .int a1, .ref (base + a2), .int a3] h) (QcU base D cA h') 0 0 (AA base) := by
  refine g_met [.ref (base + a0), .int a1, .ref (base + a2), .int a3] (by decide) (Nat.le_of_ble_eq_true rfl) (fun p e s m args below meth c C hr hn => ?_)
  refine g_lv (lv' := [(0, .ref (base + a0)), (1, .int a1), (2, .ref (base + a2)), (3, .int a3)]) rfl ?_
  unfold s_X9_copy at E
  refine g_iconst C 0 dX9_copy_0 rfl ?_
  refine g_istore C (lv' := [(4, .int 0), (0, .ref (base + a0)), (1, .int a1), (2, .ref (base + a2)), (3, .int a3)]) dX9_copy_1 (by decide) rfl ?_
  refine g_sub (lv' := [(0, .ref (base + a0)), (1, .int a1), (2, .ref (base + a2)), (3, .int a3), (4, .int 0)]) [1, 2, 3, 4, 0] rfl ?_
  exact o_X9_copy_L3 C hr _ a0 a1 a2 a3 0 h E
abbrev rm_X9_within : Room := { frames := 0, cells := 0, slots := 0, locals := 0 }
def s_X9_within (a0 : Int32) (a1 : Int32) (a2 : Int32) (h : Hp) : Rv Int32 :=
  if a0 < a1 then retZ 0 h
  else if a2 < a0 then retZ 0 h
  else retZ 1 h
set_option maxRecDepth 100000 in
set_option maxHeartbeats 4000000 in
theorem o_X9_within (l : Launch) (base : Nat) (D : va_G) (cA : Nat → ClassId) (a0 : Int32) (a1 : Int32) (a2 : Int32) (h : Hp) (r : Int32) (h' : Hp) (E : s_X9_within a0 a1 a2 h = some (r, h')) : Met l yX9_within (.code yX9_within cX9_within 3 (some .boolean) :: wsA) rm_X9_within (PcG base D cA [.int a0, .int a1, .int a2] h) (QcI base D cA r h') 0 0 (AA base) := by
  refine g_met [.int a0, .int a1, .int a2] (by decide) (Nat.le_of_ble_eq_true rfl) (fun p e s m args below meth c C hr hn => ?_)
  refine g_lv (lv' := [(0, .int a0), (1, .int a1), (2, .int a2)]) rfl ?_
  unfold s_X9_within at E
  refine g_iload_n C 0 dX9_within_0 rfl rfl ?_
  refine g_iload_n C 1 dX9_within_1 rfl rfl ?_
  refine g_icmp_lt C 14 dX9_within_2 (by decide) E (fun E => ?_) (fun E => ?_)
  · refine g_iconst C 0 dX9_within_14 rfl ?_
    exact g_zret C dX9_within_15 hr E
  · refine g_iload_n C 0 dX9_within_5 rfl rfl ?_
    refine g_iload_n C 2 dX9_within_6 rfl rfl ?_
    refine g_icmp_gt C 14 dX9_within_7 (by decide) E (fun E => ?_) (fun E => ?_)
    · refine g_iconst C 0 dX9_within_14 rfl ?_
      exact g_zret C dX9_within_15 hr E
    · refine g_iconst C 1 dX9_within_10 rfl ?_
      refine g_goto C 15 dX9_within_11 (by decide) ?_
      exact g_zret C dX9_within_15 hr E
abbrev rm_X9_record : Room := { frames := 1, cells := 0, slots := 0, locals := 24 }
def s_X9_record_J49 (v0 : Nat) (h : Hp) : Rv Unit :=
  getR h v0 9 0 fun x2 =>
  getR h v0 9 4 fun x3 =>
  getI h v0 9 5 fun x4 =>
  bnd (s_X9_copy x2 0 x3 (x4 * 401) h) fun _ h =>
  getI h v0 9 5 fun x5 =>
  putI h v0 9 5 (x5 + 1) fun h =>
  retU h
def s_X9_record_L10 (k49 : Nat → Hp → Rv Unit) : Nat → Nat → Int32 → Hp → Rv Unit
  | 0, _, _, _ => none
  | n + 1, v0, v1, h =>
    if 1203 ≤ v1 then getI h v0 9 5 fun x6 =>
  putI h v0 9 5 (x6 - 1) fun h =>
  k49 v0 h
  else getR h v0 9 4 fun x7 =>
  getR h v0 9 4 fun x8 =>
  ldI h x8 20 (v1 + 401) fun x9 =>
  stI h x7 20 v1 x9 fun h =>
  s_X9_record_L10 k49 n v0 (v1 + 1) h
def s_X9_record (a0 : Nat) (h : Hp) : Rv Unit :=
  getI h a0 9 5 fun x1 =>
  if x1 = 4 then s_X9_record_L10 (fun y0 h => s_X9_record_J49 y0 h) 100000 a0 0 h
  else s_X9_record_J49 a0 h
set_option maxRecDepth 100000 in
set_option maxHeartbeats 4000000 in
theorem o_X9_record_J49 {l : Launch} {base : Nat} {D : va_G} {cA : Nat → ClassId} {p : Program} {e : Env} {s : State} {m : MethodId} {args : Array Value} {below : List Frame} {meth : Method} {c : Code} (C : GC base D cA p s m args meth c cX9_record 2 RX9) (hr : meth.sig.returnType = none) {X : Unit × Hp} : ∀ (v0 : Nat) (h : Hp), s_X9_record_J49 v0 h = some X → GW base D cA p l e rm_X9_record s m args below meth c (MQ below (QcU base D cA X.2) args s 0 0 (AA base)) 2 h 0 0 49 [(0, .ref (base + v0))] [] := by
  intro v0 h E
  unfold s_X9_record_J49 at E
  refine g_aload_n C 0 dX9_record_49 rfl rfl ?_
  refine g_getR C dX9_record_50 fl_X9_7 rfl E (fun x1 E => ?_)
  refine g_iconst C 0 dX9_record_53 rfl ?_
  refine g_aload_n C 0 dX9_record_54 rfl rfl ?_
  refine g_getR C dX9_record_55 fl_X9_19 rfl E (fun x2 E => ?_)
  refine g_aload_n C 0 dX9_record_58 rfl rfl ?_
  refine g_getI C dX9_record_59 fl_X9_37 (by decide) (by decide) E (fun x3 E => ?_)
  refine g_sipush C 401 dX9_record_62 rfl ?_
  refine g_imul C dX9_record_65 ?_
  refine g_staU C [.ref (base + x1), .int 0, .ref (base + x2), .int (x3 * 401)] dX9_record_66 cl_X9_41 cs_X9_copy rfl rfl ⟨Nat.le_of_ble_eq_true rfl, Nat.le_of_ble_eq_true rfl⟩ (Nat.le_of_ble_eq_true rfl) ⟨Nat.le_of_ble_eq_true rfl, Nat.le_of_ble_eq_true rfl⟩ rfl (fun r' h' E => o_X9_copy l base D cA x1 0 x2 (x3 * 401) h r' h' E) E (fun x4 h5 E => ?_)
  refine g_aload_n C 0 dX9_record_69 rfl rfl ?_
  refine g_dup C dX9_record_70 rfl ?_
  refine g_getI C dX9_record_71 fl_X9_37 (by decide) (by decide) E (fun x6 E => ?_)
  refine g_iconst C 1 dX9_record_74 rfl ?_
  refine g_iadd C dX9_record_75 ?_
  refine g_putI C false dX9_record_76 fl_X9_37 fp_X9_9_5 (fun q => Bool.noConfusion q) rfl E (fun h7 E => ?_)
  exact g_vret C dX9_record_79 hr E
set_option maxRecDepth 100000 in
set_option maxHeartbeats 4000000 in
theorem o_X9_record_L10 {l : Launch} {base : Nat} {D : va_G} {cA : Nat → ClassId} {p : Program} {e : Env} {s : State} {m : MethodId} {args : Array Value} {below : List Frame} {meth : Method} {c : Code} (C : GC base D cA p s m args meth c cX9_record 2 RX9) (hr : meth.sig.returnType = none) {X : Unit × Hp} {k49 : Nat → Hp → Rv Unit} (K49 : ∀ (y0 : Nat) (h : Hp), k49 y0 h = some X → GW base D cA p l e rm_X9_record s m args below meth c (MQ below (QcU base D cA X.2) args s 0 0 (AA base)) 2 h 0 0 49 [(0, .ref (base + y0))] []) : ∀ (n : Nat) (v0 : Nat) (v1 : Int32) (h : Hp), s_X9_record_L10 k49 n v0 v1 h = some X → GW base D cA p l e rm_X9_record s m args below meth c (MQ below (QcU base D cA X.2) args s 0 0 (AA base)) 2 h 0 0 10 [(0, .ref (base + v0)), (1, .int v1)] [] := by
  intro n
  induction n with
  | zero =>
    intro v0 v1 h E
    rw [s_X9_record_L10] at E
    cases E
  | succ n ih =>
    intro v0 v1 h E
    rw [s_X9_record_L10] at E
    refine g_iload_n C 1 dX9_record_10 rfl rfl ?_
    refine g_sipush C 1203 dX9_record_11 rfl ?_
    refine g_icmp_ge C 39 dX9_record_14 (by decide) E (fun E => ?_) (fun E => ?_)
    · refine g_aload_n C 0 dX9_record_39 rfl rfl ?_
      refine g_dup C dX9_record_40 rfl ?_
      refine g_getI C dX9_record_41 fl_X9_37 (by decide) (by decide) E (fun x1 E => ?_)
      refine g_iconst C 1 dX9_record_44 rfl ?_
      refine g_isub C dX9_record_45 ?_
      refine g_putI C false dX9_record_46 fl_X9_37 fp_X9_9_5 (fun q => Bool.noConfusion q) rfl E (fun h2 E => ?_)
      refine g_sub (lv' := [(0, .ref (base + v0))]) [0] rfl ?_
      exact K49 v0 h2 E
    · refine g_aload_n C 0 dX9_record_17 rfl rfl ?_
      refine g_getR C dX9_record_18 fl_X9_19 rfl E (fun x3 E => ?_)
      refine g_iload_n C 1 dX9_record_21 rfl rfl ?_
      refine g_aload_n C 0 dX9_record_22 rfl rfl ?_
      refine g_getR C dX9_record_23 fl_X9_19 rfl E (fun x4 E => ?_)
      refine g_iload_n C 1 dX9_record_26 rfl rfl ?_
      refine g_sipush C 401 dX9_record_27 rfl ?_
      refine g_iadd C dX9_record_30 ?_
      refine g_iald C dX9_record_31 E (fun x5 E => ?_)
      refine g_iast C dX9_record_32 E (fun h6 E => ?_)
      refine g_iinc C (lv' := [(1, .int (v1 + 1)), (0, .ref (base + v0))]) 1 1 dX9_record_33 rfl rfl (by decide) rfl ?_
      refine g_goto C 10 dX9_record_36 (by decide) ?_
      refine g_sub (lv' := [(0, .ref (base + v0)), (1, .int (v1 + 1))]) [1, 0] rfl ?_
      exact ih v0 (v1 + 1) h6 E
set_option maxRecDepth 100000 in
set_option maxHeartbeats 4000000 in
theorem o_X9_record (l : Launch) (base : Nat) (D : va_G) (cA : Nat → ClassId) (a0 : Nat) (h : Hp) (r : Unit) (h' : Hp) (E : s_X9_record a0 h = some (r, h')) : Met l yX9_record (.code yX9_record cX9_record 2 none :: wsA) rm_X9_record (PcG base D cA [.ref (base + a0)] h) (QcU base D cA h') 0 0 (AA base) := by
  refine g_met [.ref (base + a0)] (by decide) (Nat.le_of_ble_eq_true rfl) (fun p e s m args below meth c C hr hn => ?_)
  refine g_lv (lv' := [(0, .ref (base + a0))]) rfl ?_
  unfold s_X9_record at E
  refine g_aload_n C 0 dX9_record_0 rfl rfl ?_
  refine g_getI C dX9_record_1 fl_X9_37 (by decide) (by decide) E (fun x1 E => ?_)
  refine g_iconst C 4 dX9_record_4 rfl ?_
  refine g_icmp_ne C 49 dX9_record_5 (by decide) E (fun E => ?_) (fun E => ?_)
  · refine g_sub (lv' := [(0, .ref (base + a0))]) [0] rfl ?_
    exact o_X9_record_J49 C hr a0 h E
  · refine g_iconst C 0 dX9_record_8 rfl ?_
    refine g_istore_n C (lv' := [(1, .int 0), (0, .ref (base + a0))]) dX9_record_9 rfl (by decide) rfl ?_
    refine g_sub (lv' := [(0, .ref (base + a0)), (1, .int 0)]) [1, 0] rfl ?_
    refine o_X9_record_L10 C hr ?_ _ a0 0 h E
    · intro y2 h3 E
      refine g_sub (lv' := [(0, .ref (base + y2))]) [0] rfl ?_
      exact o_X9_record_J49 C hr y2 h3 E
abbrev rm_X9_isHouse : Room := { frames := 1, cells := 0, slots := 0, locals := 22 }
def s_X9_isHouse (a0 : Nat) (a1 : Int32) (h : Hp) : Rv Int32 :=
  getR h a0 9 0 fun x1 =>
  ldI h x1 20 2 fun x2 =>
  bnd (s_X9_within a1 0 (x2 - 1) h) fun x3 h =>
  retZ x3 h
set_option maxRecDepth 100000 in
set_option maxHeartbeats 4000000 in
theorem o_X9_isHouse (l : Launch) (base : Nat) (D : va_G) (cA : Nat → ClassId) (a0 : Nat) (a1 : Int32) (h : Hp) (r : Int32) (h' : Hp) (E : s_X9_isHouse a0 a1 h = some (r, h')) : Met l yX9_isHouse (.code yX9_isHouse cX9_isHouse 2 (some .boolean) :: wsA) rm_X9_isHouse (PcG base D cA [.ref (base + a0), .int a1] h) (QcI base D cA r h') 0 0 (AA base) := by
  refine g_met [.ref (base + a0), .int a1] (by decide) (Nat.le_of_ble_eq_true rfl) (fun p e s m args below meth c C hr hn => ?_)
  refine g_lv (lv' := [(0, .ref (base + a0)), (1, .int a1)]) rfl ?_
  unfold s_X9_isHouse at E
  refine g_iload_n C 1 dX9_isHouse_0 rfl rfl ?_
  refine g_iconst C 0 dX9_isHouse_1 rfl ?_
  refine g_aload_n C 0 dX9_isHouse_2 rfl rfl ?_
  refine g_getR C dX9_isHouse_3 fl_X9_7 rfl E (fun x1 E => ?_)
  refine g_iconst C 2 dX9_isHouse_6 rfl ?_
  refine g_iald C dX9_isHouse_7 E (fun x2 E => ?_)
  refine g_iconst C 1 dX9_isHouse_8 rfl ?_
  refine g_isub C dX9_isHouse_9 ?_
  refine g_staI C [.int a1, .int 0, .int (x2 - 1)] dX9_isHouse_10 cl_X9_45 cs_X9_within rfl rfl ⟨Nat.le_of_ble_eq_true rfl, Nat.le_of_ble_eq_true rfl⟩ (Nat.le_of_ble_eq_true rfl) ⟨Nat.le_of_ble_eq_true rfl, Nat.le_of_ble_eq_true rfl⟩ rfl (fun r' h' E => o_X9_within l base D cA a1 0 (x2 - 1) h r' h' E) E (fun x3 h4 E => ?_)
  exact g_zret C dX9_isHouse_13 hr E
abbrev rm_X9_part : Room := { frames := 0, cells := 0, slots := 0, locals := 0 }
def s_X9_part (a0 : Nat) (a1 : Int32) (a2 : Int32) (h : Hp) : Rv Int32 :=
  getR h a0 9 0 fun x1 =>
  ldI h x1 20 ((15 + (42 * a1)) + a2) fun x2 =>
  retI x2 h
set_option maxRecDepth 100000 in
set_option maxHeartbeats 4000000 in
theorem o_X9_part (l : Launch) (base : Nat) (D : va_G) (cA : Nat → ClassId) (a0 : Nat) (a1 : Int32) (a2 : Int32) (h : Hp) (r : Int32) (h' : Hp) (E : s_X9_part a0 a1 a2 h = some (r, h')) : Met l yX9_part (.code yX9_part cX9_part 3 (some .int) :: wsA) rm_X9_part (PcG base D cA [.ref (base + a0), .int a1, .int a2] h) (QcI base D cA r h') 0 0 (AA base) := by
  refine g_met [.ref (base + a0), .int a1, .int a2] (by decide) (Nat.le_of_ble_eq_true rfl) (fun p e s m args below meth c C hr hn => ?_)
  refine g_lv (lv' := [(0, .ref (base + a0)), (1, .int a1), (2, .int a2)]) rfl ?_
  unfold s_X9_part at E
  refine g_aload_n C 0 dX9_part_0 rfl rfl ?_
  refine g_getR C dX9_part_1 fl_X9_7 rfl E (fun x1 E => ?_)
  refine g_bipush C 15 dX9_part_4 rfl ?_
  refine g_bipush C 42 dX9_part_6 rfl ?_
  refine g_iload_n C 1 dX9_part_8 rfl rfl ?_
  refine g_imul C dX9_part_9 ?_
  refine g_iadd C dX9_part_10 ?_
  refine g_iload_n C 2 dX9_part_11 rfl rfl ?_
  refine g_iadd C dX9_part_12 ?_
  refine g_iald C dX9_part_13 E (fun x2 E => ?_)
  exact g_iret C dX9_part_14 hr E
abbrev rm_X9_setPart : Room := { frames := 0, cells := 0, slots := 0, locals := 0 }
def s_X9_setPart (a0 : Nat) (a1 : Int32) (a2 : Int32) (a3 : Int32) (h : Hp) : Rv Unit :=
  getR h a0 9 0 fun x1 =>
  stI h x1 20 ((15 + (42 * a1)) + a2) a3 fun h =>
  retU h
set_option maxRecDepth 100000 in
set_option maxHeartbeats 4000000 in
theorem o_X9_setPart (l : Launch) (base : Nat) (D : va_G) (cA : Nat → ClassId) (a0 : Nat) (a1 : Int32) (a2 : Int32) (a3 : Int32) (h : Hp) (r : Unit) (h' : Hp) (E : s_X9_setPart a0 a1 a2 a3 h = some (r, h')) : Met l yX9_setPart (.code yX9_setPart cX9_setPart 4 none :: wsA) rm_X9_setPart (PcG base D cA [.ref (base + a0), .int a1, .int a2, .int a3] h) (QcU base D cA h') 0 0 (AA base) := by
  refine g_met [.ref (base + a0), .int a1, .int a2, .int a3] (by decide) (Nat.le_of_ble_eq_true rfl) (fun p e s m args below meth c C hr hn => ?_)
  refine g_lv (lv' := [(0, .ref (base + a0)), (1, .int a1), (2, .int a2), (3, .int a3)]) rfl ?_
  unfold s_X9_setPart at E
  refine g_aload_n C 0 dX9_setPart_0 rfl rfl ?_
  refine g_getR C dX9_setPart_1 fl_X9_7 rfl E (fun x1 E => ?_)
  refine g_bipush C 15 dX9_setPart_4 rfl ?_
  refine g_bipush C 42 dX9_setPart_6 rfl ?_
  refine g_iload_n C 1 dX9_setPart_8 rfl rfl ?_
  refine g_imul C dX9_setPart_9 ?_
  refine g_iadd C dX9_setPart_10 ?_
  refine g_iload_n C 2 dX9_setPart_11 rfl rfl ?_
  refine g_iadd C dX9_setPart_12 ?_
  refine g_iload_n C 3 dX9_setPart_13 rfl rfl ?_
  refine g_iast C dX9_setPart_14 E (fun h2 E => ?_)
  exact g_vret C dX9_setPart_15 hr E
abbrev rm_X9_addPart : Room := { frames := 0, cells := 0, slots := 0, locals := 0 }
def s_X9_addPart (a0 : Nat) (a1 : Int32) (a2 : Int32) (a3 : Int32) (h : Hp) : Rv Unit :=
  getR h a0 9 0 fun x1 =>
  ldI h x1 20 ((15 + (42 * a1)) + a2) fun x2 =>
  stI h x1 20 ((15 + (42 * a1)) + a2) (x2 + a3) fun h =>
  retU h
set_option maxRecDepth 100000 in
set_option maxHeartbeats 4000000 in
theorem o_X9_addPart (l : Launch) (base : Nat) (D : va_G) (cA : Nat → ClassId) (a0 : Nat) (a1 : Int32) (a2 : Int32) (a3 : Int32) (h : Hp) (r : Unit) (h' : Hp) (E : s_X9_addPart a0 a1 a2 a3 h = some (r, h')) : Met l yX9_addPart (.code yX9_addPart cX9_addPart 4 none :: wsA) rm_X9_addPart (PcG base D cA [.ref (base + a0), .int a1, .int a2, .int a3] h) (QcU base D cA h') 0 0 (AA base) := by
  refine g_met [.ref (base + a0), .int a1, .int a2, .int a3] (by decide) (Nat.le_of_ble_eq_true rfl) (fun p e s m args below meth c C hr hn => ?_)
  refine g_lv (lv' := [(0, .ref (base + a0)), (1, .int a1), (2, .int a2), (3, .int a3)]) rfl ?_
  unfold s_X9_addPart at E
  refine g_aload_n C 0 dX9_addPart_0 rfl rfl ?_
  refine g_getR C dX9_addPart_1 fl_X9_7 rfl E (fun x1 E => ?_)
  refine g_bipush C 15 dX9_addPart_4 rfl ?_
  refine g_bipush C 42 dX9_addPart_6 rfl ?_
  refine g_iload_n C 1 dX9_addPart_8 rfl rfl ?_
  refine g_imul C dX9_addPart_9 ?_
  refine g_iadd C dX9_addPart_10 ?_
  refine g_iload_n C 2 dX9_addPart_11 rfl rfl ?_
  refine g_iadd C dX9_addPart_12 ?_
  refine g_dup2 C dX9_addPart_13 rfl rfl ?_
  refine g_iald C dX9_addPart_14 E (fun x2 E => ?_)
  refine g_iload_n C 3 dX9_addPart_15 rfl rfl ?_
  refine g_iadd C dX9_addPart_16 ?_
  refine g_iast C dX9_addPart_17 E (fun h3 E => ?_)
  exact g_vret C dX9_addPart_18 hr E
abbrev rm_X9_leasePart : Room := { frames := 0, cells := 0, slots := 0, locals := 0 }
def s_X9_leasePart (a0 : Nat) (a1 : Int32) (a2 : Int32) (h : Hp) : Rv Int32 :=
  getR h a0 9 0 fun x1 =>
  ldI h x1 20 ((351 + (5 * a1)) + a2) fun x2 =>
  retI x2 h
set_option maxRecDepth 100000 in
set_option maxHeartbeats 4000000 in
theorem o_X9_leasePart (l : Launch) (base : Nat) (D : va_G) (cA : Nat → ClassId) (a0 : Nat) (a1 : Int32) (a2 : Int32) (h : Hp) (r : Int32) (h' : Hp) (E : s_X9_leasePart a0 a1 a2 h = some (r, h')) : Met l yX9_leasePart (.code yX9_leasePart cX9_leasePart 3 (some .int) :: wsA) rm_X9_leasePart (PcG base D cA [.ref (base + a0), .int a1, .int a2] h) (QcI base D cA r h') 0 0 (AA base) := by
  refine g_met [.ref (base + a0), .int a1, .int a2] (by decide) (Nat.le_of_ble_eq_true rfl) (fun p e s m args below meth c C hr hn => ?_)
  refine g_lv (lv' := [(0, .ref (base + a0)), (1, .int a1), (2, .int a2)]) rfl ?_
  unfold s_X9_leasePart at E
  refine g_aload_n C 0 dX9_leasePart_0 rfl rfl ?_
  refine g_getR C dX9_leasePart_1 fl_X9_7 rfl E (fun x1 E => ?_)
  refine g_sipush C 351 dX9_leasePart_4 rfl ?_
  refine g_iconst C 5 dX9_leasePart_7 rfl ?_
  refine g_iload_n C 1 dX9_leasePart_8 rfl rfl ?_
  refine g_imul C dX9_leasePart_9 ?_
  refine g_iadd C dX9_leasePart_10 ?_
  refine g_iload_n C 2 dX9_leasePart_11 rfl rfl ?_
  refine g_iadd C dX9_leasePart_12 ?_
  refine g_iald C dX9_leasePart_13 E (fun x2 E => ?_)
  exact g_iret C dX9_leasePart_14 hr E
abbrev rm_X9_temperature : Room := { frames := 1, cells := 0, slots := 0, locals := 22 }
def s_X9_temperature (a0 : Nat) (a1 : Int32) (h : Hp) : Rv Int32 :=
  inv h a0 9 (s_X9_part a0 a1 11 h) fun x1 h =>
  if x1 = 0 then retI 15 h
  else inv h a0 9 (s_X9_part a0 a1 12 h) fun x2 h =>
  inv h a0 9 (s_X9_part a0 a1 11 h) fun x3 h =>
  divI x2 (4 * x3) fun x4 =>
  retI x4 h
set_option maxRecDepth 100000 in
set_option maxHeartbeats 4000000 in
theorem o_X9_temperature (l : Launch) (base : Nat) (D : va_G) (cA : Nat → ClassId) (a0 : Nat) (a1 : Int32) (h : Hp) (r : Int32) (h' : Hp) (E : s_X9_temperature a0 a1 h = some (r, h')) : Met l yX9_temperature (.code yX9_temperature cX9_temperature 2 (some .int) :: wsA) rm_X9_temperature (PcG base D cA [.ref (base + a0), .int a1] h) (QcI base D cA r h') 0 0 (AA base) := by
  refine g_met [.ref (base + a0), .int a1] (by decide) (Nat.le_of_ble_eq_true rfl) (fun p e s m args below meth c C hr hn => ?_)
  refine g_lv (lv' := [(0, .ref (base + a0)), (1, .int a1)]) rfl ?_
  unfold s_X9_temperature at E
  refine g_aload_n C 0 dX9_temperature_0 rfl rfl ?_
  refine g_iload_n C 1 dX9_temperature_1 rfl rfl ?_
  refine g_bipush C 11 dX9_temperature_2 rfl ?_
  refine g_invI C (q := (RX9, TX9, 13)) [.int a1, .int 11] dX9_temperature_4 cl_X9_49 cv_X9_part rfl (by decide) rfl rfl ⟨Nat.le_of_ble_eq_true rfl, Nat.le_of_ble_eq_true rfl⟩ (Nat.le_of_ble_eq_true rfl) ⟨Nat.le_of_ble_eq_true rfl, Nat.le_of_ble_eq_true rfl⟩ rfl (fun r' h' E => o_X9_part l base D cA a0 a1 11 h r' h' E) E (fun x1 h2 E => ?_)
  refine g_if_ne C 15 dX9_temperature_7 (by decide) E (fun E => ?_) (fun E => ?_)
  · refine g_aload_n C 0 dX9_temperature_15 rfl rfl ?_
    refine g_iload_n C 1 dX9_temperature_16 rfl rfl ?_
    refine g_bipush C 12 dX9_temperature_17 rfl ?_
    refine g_invI C (q := (RX9, TX9, 13)) [.int a1, .int 12] dX9_temperature_19 cl_X9_49 cv_X9_part rfl (by decide) rfl rfl ⟨Nat.le_of_ble_eq_true rfl, Nat.le_of_ble_eq_true rfl⟩ (Nat.le_of_ble_eq_true rfl) ⟨Nat.le_of_ble_eq_true rfl, Nat.le_of_ble_eq_true rfl⟩ rfl (fun r' h' E => o_X9_part l base D cA a0 a1 12 h2 r' h' E) E (fun x3 h4 E => ?_)
    refine g_iconst C 4 dX9_temperature_22 rfl ?_
    refine g_aload_n C 0 dX9_temperature_23 rfl rfl ?_
    refine g_iload_n C 1 dX9_temperature_24 rfl rfl ?_
    refine g_bipush C 11 dX9_temperature_25 rfl ?_
    refine g_invI C (q := (RX9, TX9, 13)) [.int a1, .int 11] dX9_temperature_27 cl_X9_49 cv_X9_part rfl (by decide) rfl rfl ⟨Nat.le_of_ble_eq_true rfl, Nat.le_of_ble_eq_true rfl⟩ (Nat.le_of_ble_eq_true rfl) ⟨Nat.le_of_ble_eq_true rfl, Nat.le_of_ble_eq_true rfl⟩ rfl (fun r' h' E => o_X9_part l base D cA a0 a1 11 h4 r' h' E) E (fun x5 h6 E => ?_)
    refine g_imul C dX9_temperature_30 ?_
    refine g_idiv C dX9_temperature_31 E (fun x7 E => ?_)
    exact g_iret C dX9_temperature_32 hr E
  · refine g_bipush C 15 dX9_temperature_10 rfl ?_
    refine g_goto C 32 dX9_temperature_12 (by decide) ?_
    exact g_iret C dX9_temperature_32 hr E
abbrev rm_X9_lent : Room := { frames := 1, cells := 0, slots := 0, locals := 22 }
def s_X9_lent_L4 : Nat → Nat → Int32 → Int32 → Int32 → Hp → Rv Int32
  | 0, _, _, _, _, _ => none
  | n + 1, v0, v1, v2, v3, h =>
    getR h v0 9 0 fun x1 =>
  ldI h x1 20 8 fun x2 =>
  if x2 ≤ v3 then retI v2 h
  else inv h v0 9 (s_X9_leasePart v0 v3 0 h) fun x3 h =>
  if x3 = v1 then inv h v0 9 (s_X9_leasePart v0 v3 2 h) fun x4 h =>
  s_X9_lent_L4 n v0 v1 (v2 + x4) (v3 + 1) h
  else s_X9_lent_L4 n v0 v1 (v2 + 0) (v3 + 1) h
def s_X9_lent (a0 : Nat) (a1 : Int32) (h : Hp) : Rv Int32 :=
  s_X9_lent_L4 100000 a0 a1 0 0 h
set_option maxRecDepth 100000 in
set_option maxHeartbeats 4000000 in
theorem o_X9_lent_L4 {l : Launch} {base : Nat} {D : va_G} {cA : Nat → ClassId} {p : Program} {e : Env} {s : State} {m : MethodId} {args : Array Value} {below : List Frame} {meth : Method} {c : Code} (C : GC base D cA p s m args meth c cX9_lent 4 RX9) (hr : meth.sig.returnType = (some .int)) {X : Int32 × Hp} : ∀ (n : Nat) (v0 : Nat) (v1 : Int32) (v2 : Int32) (v3 : Int32) (h : Hp), s_X9_lent_L4 n v0 v1 v2 v3 h = some X → GW base D cA p l e rm_X9_lent s m args below meth c (MQ below (QcI base D cA X.1 X.2) args s 0 0 (AA base)) 4 h 0 0 4 [(0, .ref (base + v0)), (1, .int v1), (2, .int v2), (3, .int v3)] [] := by
  intro n
  induction n with
  | zero =>
    intro v0 v1 v2 v3 h E
    rw [s_X9_lent_L4] at E
    cases E
  | succ n ih =>
    intro v0 v1 v2 v3 h E
    rw [s_X9_lent_L4] at E
    refine g_iload_n C 3 dX9_lent_4 rfl rfl ?_
    refine g_aload_n C 0 dX9_lent_5 rfl rfl ?_
    refine g_getR C dX9_lent_6 fl_X9_7 rfl E (fun x1 E => ?_)
    refine g_bipush C 8 dX9_lent_9 rfl ?_
    refine g_iald C dX9_lent_11 E (fun x2 E => ?_)
    refine g_icmp_ge C 44 dX9_lent_12 (by decide) E (fun E => ?_) (fun E => ?_)
    · refine g_iload_n C 2 dX9_lent_44 rfl rfl ?_
      exact g_iret C dX9_lent_45 hr E
    · refine g_iload_n C 2 dX9_lent_15 rfl rfl ?_
      refine g_aload_n C 0 dX9_lent_16 rfl rfl ?_
      refine g_iload_n C 3 dX9_lent_17 rfl rfl ?_
      refine g_iconst C 0 dX9_lent_18 rfl ?_
      refine g_invI C (q := (RX9, TX9, 13)) [.int v3, .int 0] dX9_lent_19 cl_X9_53 cv_X9_leasePart rfl (by decide) rfl rfl ⟨Nat.le_of_ble_eq_true rfl, Nat.le_of_ble_eq_true rfl⟩ (Nat.le_of_ble_eq_true rfl) ⟨Nat.le_of_ble_eq_true rfl, Nat.le_of_ble_eq_true rfl⟩ rfl (fun r' h' E => o_X9_leasePart l base D cA v0 v3 0 h r' h' E) E (fun x3 h4 E => ?_)
      refine g_iload_n C 1 dX9_lent_22 rfl rfl ?_
      refine g_icmp_ne C 35 dX9_lent_23 (by decide) E (fun E => ?_) (fun E => ?_)
      · refine g_iconst C 0 dX9_lent_35 rfl ?_
        refine g_iadd C dX9_lent_36 ?_
        refine g_istore_n C (lv' := [(2, .int (v2 + 0)), (0, .ref (base + v0)), (1, .int v1), (3, .int v3)]) dX9_lent_37 rfl (by decide) rfl ?_
        refine g_iinc C (lv' := [(3, .int (v3 + 1)), (2, .int (v2 + 0)), (0, .ref (base + v0)), (1, .int v1)]) 3 1 dX9_lent_38 rfl rfl (by decide) rfl ?_
        refine g_goto C 4 dX9_lent_41 (by decide) ?_
        refine g_sub (lv' := [(0, .ref (base + v0)), (1, .int v1), (2, .int (v2 + 0)), (3, .int (v3 + 1))]) [2, 3, 1, 0] rfl ?_
        exact ih v0 v1 (v2 + 0) (v3 + 1) h4 E
      · refine g_aload_n C 0 dX9_lent_26 rfl rfl ?_
        refine g_iload_n C 3 dX9_lent_27 rfl rfl ?_
        refine g_iconst C 2 dX9_lent_28 rfl ?_
        refine g_invI C (q := (RX9, TX9, 13)) [.int v3, .int 2] dX9_lent_29 cl_X9_53 cv_X9_leasePart rfl (by decide) rfl rfl ⟨Nat.le_of_ble_eq_true rfl, Nat.le_of_ble_eq_true rfl⟩ (Nat.le_of_ble_eq_true rfl) ⟨Nat.le_of_ble_eq_true rfl, Nat.le_of_ble_eq_true rfl⟩ rfl (fun r' h' E => o_X9_leasePart l base D cA v0 v3 2 h4 r' h' E) E (fun x5 h6 E => ?_)
        refine g_goto C 36 dX9_lent_32 (by decide) ?_
        refine g_iadd C dX9_lent_36 ?_
        refine g_istore_n C (lv' := [(2, .int (v2 + x5)), (0, .ref (base + v0)), (1, .int v1), (3, .int v3)]) dX9_lent_37 rfl (by decide) rfl ?_
        refine g_iinc C (lv' := [(3, .int (v3 + 1)), (2, .int (v2 + x5)), (0, .ref (base + v0)), (1, .int v1)]) 3 1 dX9_lent_38 rfl rfl (by decide) rfl ?_
        refine g_goto C 4 dX9_lent_41 (by decide) ?_
        refine g_sub (lv' := [(0, .ref (base + v0)), (1, .int v1), (2, .int (v2 + x5)), (3, .int (v3 + 1))]) [2, 3, 1, 0] rfl ?_
        exact ih v0 v1 (v2 + x5) (v3 + 1) h6 E
set_option maxRecDepth 100000 in
set_option maxHeartbeats 4000000 in
theorem o_X9_lent (l : Launch) (base : Nat) (D : va_G) (cA : Nat → ClassId) (a0 : Nat) (a1 : Int32) (h : Hp) (r : Int32) (h' : Hp) (E : s_X9_lent a0 a1 h = some (r, h')) : Met l yX9_lent (.code yX9_lent cX9_lent 4 (some .int) :: wsA) rm_X9_lent (PcG base D cA [.ref (base + a0), .int a1] h) (QcI base D cA r h') 0 0 (AA base) := by
  refine g_met [.ref (base + a0), .int a1] (by decide) (Nat.le_of_ble_eq_true rfl) (fun p e s m args below meth c C hr hn => ?_)
  refine g_lv (lv' := [(0, .ref (base + a0)), (1, .int a1)]) rfl ?_
  unfold s_X9_lent at E
  refine g_iconst C 0 dX9_lent_0 rfl ?_
  refine g_istore_n C (lv' := [(2, .int 0), (0, .ref (base + a0)), (1, .int a1)]) dX9_lent_1 rfl (by decide) rfl ?_
  refine g_iconst C 0 dX9_lent_2 rfl ?_
  refine g_istore_n C (lv' := [(3, .int 0), (2, .int 0), (0, .ref (base + a0)), (1, .int a1)]) dX9_lent_3 rfl (by decide) rfl ?_
  refine g_sub (lv' := [(0, .ref (base + a0)), (1, .int a1), (2, .int 0), (3, .int 0)]) [2, 3, 1, 0] rfl ?_
  exact o_X9_lent_L4 C hr _ a0 a1 0 0 h E
abbrev rm_X9_sharesOf : Room := { frames := 2, cells := 0, slots := 0, locals := 45 }
def s_X9_sharesOf_L15 : Nat → Nat → Int32 → Int32 → Int32 → Hp → Rv Int32
  | 0, _, _, _, _, _ => none
  | n + 1, v0, v1, v2, v3, h =>
    getR h v0 9 0 fun x3 =>
  ldI h x3 20 8 fun x4 =>
  if x4 ≤ v3 then retI v2 h
  else inv h v0 9 (s_X9_leasePart v0 v3 1 h) fun x5 h =>
  if x5 = v1 then inv h v0 9 (s_X9_leasePart v0 v3 2 h) fun x6 h =>
  s_X9_sharesOf_L15 n v0 v1 (v2 + x6) (v3 + 1) h
  else s_X9_sharesOf_L15 n v0 v1 (v2 + 0) (v3 + 1) h
def s_X9_sharesOf (a0 : Nat) (a1 : Int32) (h : Hp) : Rv Int32 :=
  inv h a0 9 (s_X9_part a0 a1 0 h) fun x1 h =>
  inv h a0 9 (s_X9_lent a0 a1 h) fun x2 h =>
  s_X9_sharesOf_L15 100000 a0 a1 (x1 - x2) 0 h
set_option maxRecDepth 100000 in
set_option maxHeartbeats 4000000 in
theorem o_X9_sharesOf_L15 {l : Launch} {base : Nat} {D : va_G} {cA : Nat → ClassId} {p : Program} {e : Env} {s : State} {m : MethodId} {args : Array Value} {below : List Frame} {meth : Method} {c : Code} (C : GC base D cA p s m args meth c cX9_sharesOf 4 RX9) (hr : meth.sig.returnType = (some .int)) {X : Int32 × Hp} : ∀ (n : Nat) (v0 : Nat) (v1 : Int32) (v2 : Int32) (v3 : Int32) (h : Hp), s_X9_sharesOf_L15 n v0 v1 v2 v3 h = some X → GW base D cA p l e rm_X9_sharesOf s m args below meth c (MQ below (QcI base D cA X.1 X.2) args s 0 0 (AA base)) 4 h 0 0 15 [(0, .ref (base + v0)), (1, .int v1), (2, .int v2), (3, .int v3)] [] := by
  intro n
  induction n with
  | zero =>
    intro v0 v1 v2 v3 h E
    rw [s_X9_sharesOf_L15] at E
    cases E
  | succ n ih =>
    intro v0 v1 v2 v3 h E
    rw [s_X9_sharesOf_L15] at E
    refine g_iload_n C 3 dX9_sharesOf_15 rfl rfl ?_
    refine g_aload_n C 0 dX9_sharesOf_16 rfl rfl ?_
    refine g_getR C dX9_sharesOf_17 fl_X9_7 rfl E (fun x1 E => ?_)
    refine g_bipush C 8 dX9_sharesOf_20 rfl ?_
    refine g_iald C dX9_sharesOf_22 E (fun x2 E => ?_)
    refine g_icmp_ge C 55 dX9_sharesOf_23 (by decide) E (fun E => ?_) (fun E => ?_)
    · refine g_iload_n C 2 dX9_sharesOf_55 rfl rfl ?_
      exact g_iret C dX9_sharesOf_56 hr E
    · refine g_iload_n C 2 dX9_sharesOf_26 rfl rfl ?_
      refine g_aload_n C 0 dX9_sharesOf_27 rfl rfl ?_
      refine g_iload_n C 3 dX9_sharesOf_28 rfl rfl ?_
      refine g_iconst C 1 dX9_sharesOf_29 rfl ?_
      refine g_invI C (q := (RX9, TX9, 13)) [.int v3, .int 1] dX9_sharesOf_30 cl_X9_53 cv_X9_leasePart rfl (by decide) rfl rfl ⟨Nat.le_of_ble_eq_true rfl, Nat.le_of_ble_eq_true rfl⟩ (Nat.le_of_ble_eq_true rfl) ⟨Nat.le_of_ble_eq_true rfl, Nat.le_of_ble_eq_true rfl⟩ rfl (fun r' h' E => o_X9_leasePart l base D cA v0 v3 1 h r' h' E) E (fun x3 h4 E => ?_)
      refine g_iload_n C 1 dX9_sharesOf_33 rfl rfl ?_
      refine g_icmp_ne C 46 dX9_sharesOf_34 (by decide) E (fun E => ?_) (fun E => ?_)
      · refine g_iconst C 0 dX9_sharesOf_46 rfl ?_
        refine g_iadd C dX9_sharesOf_47 ?_
        refine g_istore_n C (lv' := [(2, .int (v2 + 0)), (0, .ref (base + v0)), (1, .int v1), (3, .int v3)]) dX9_sharesOf_48 rfl (by decide) rfl ?_
        refine g_iinc C (lv' := [(3, .int (v3 + 1)), (2, .int (v2 + 0)), (0, .ref (base + v0)), (1, .int v1)]) 3 1 dX9_sharesOf_49 rfl rfl (by decide) rfl ?_
        refine g_goto C 15 dX9_sharesOf_52 (by decide) ?_
        refine g_sub (lv' := [(0, .ref (base + v0)), (1, .int v1), (2, .int (v2 + 0)), (3, .int (v3 + 1))]) [2, 3, 1, 0] rfl ?_
        exact ih v0 v1 (v2 + 0) (v3 + 1) h4 E
      · refine g_aload_n C 0 dX9_sharesOf_37 rfl rfl ?_
        refine g_iload_n C 3 dX9_sharesOf_38 rfl rfl ?_
        refine g_iconst C 2 dX9_sharesOf_39 rfl ?_
        refine g_invI C (q := (RX9, TX9, 13)) [.int v3, .int 2] dX9_sharesOf_40 cl_X9_53 cv_X9_leasePart rfl (by decide) rfl rfl ⟨Nat.le_of_ble_eq_true rfl, Nat.le_of_ble_eq_true rfl⟩ (Nat.le_of_ble_eq_true rfl) ⟨Nat.le_of_ble_eq_true rfl, Nat.le_of_ble_eq_true rfl⟩ rfl (fun r' h' E => o_X9_leasePart l base D cA v0 v3 2 h4 r' h' E) E (fun x5 h6 E => ?_)
        refine g_goto C 47 dX9_sharesOf_43 (by decide) ?_
        refine g_iadd C dX9_sharesOf_47 ?_
        refine g_istore_n C (lv' := [(2, .int (v2 + x5)), (0, .ref (base + v0)), (1, .int v1), (3, .int v3)]) dX9_sharesOf_48 rfl (by decide) rfl ?_
        refine g_iinc C (lv' := [(3, .int (v3 + 1)), (2, .int (v2 + x5)), (0, .ref (base + v0)), (1, .int v1)]) 3 1 dX9_sharesOf_49 rfl rfl (by decide) rfl ?_
        refine g_goto C 15 dX9_sharesOf_52 (by decide) ?_
        refine g_sub (lv' := [(0, .ref (base + v0)), (1, .int v1), (2, .int (v2 + x5)), (3, .int (v3 + 1))]) [2, 3, 1, 0] rfl ?_
        exact ih v0 v1 (v2 + x5) (v3 + 1) h6 E
set_option maxRecDepth 100000 in
set_option maxHeartbeats 4000000 in
theorem o_X9_sharesOf (l : Launch) (base : Nat) (D : va_G) (cA : Nat → ClassId) (a0 : Nat) (a1 : Int32) (h : Hp) (r : Int32) (h' : Hp) (E : s_X9_sharesOf a0 a1 h = some (r, h')) : Met l yX9_sharesOf (.code yX9_sharesOf cX9_sharesOf 4 (some .int) :: wsA) rm_X9_sharesOf (PcG base D cA [.ref (base + a0), .int a1] h) (QcI base D cA r h') 0 0 (AA base) := by
  refine g_met [.ref (base + a0), .int a1] (by decide) (Nat.le_of_ble_eq_true rfl) (fun p e s m args below meth c C hr hn => ?_)
  refine g_lv (lv' := [(0, .ref (base + a0)), (1, .int a1)]) rfl ?_
  unfold s_X9_sharesOf at E
  refine g_aload_n C 0 dX9_sharesOf_0 rfl rfl ?_
  refine g_iload_n C 1 dX9_sharesOf_1 rfl rfl ?_
  refine g_iconst C 0 dX9_sharesOf_2 rfl ?_
  refine g_invI C (q := (RX9, TX9, 13)) [.int a1, .int 0] dX9_sharesOf_3 cl_X9_49 cv_X9_part rfl (by decide) rfl rfl ⟨Nat.le_of_ble_eq_true rfl, Nat.le_of_ble_eq_true rfl⟩ (Nat.le_of_ble_eq_true rfl) ⟨Nat.le_of_ble_eq_true rfl, Nat.le_of_ble_eq_true rfl⟩ rfl (fun r' h' E => o_X9_part l base D cA a0 a1 0 h r' h' E) E (fun x1 h2 E => ?_)
  refine g_aload_n C 0 dX9_sharesOf_6 rfl rfl ?_
  refine g_iload_n C 1 dX9_sharesOf_7 rfl rfl ?_
  refine g_invI C (q := (RX9, TX9, 13)) [.int a1] dX9_sharesOf_8 cl_X9_56 cv_X9_lent rfl (by decide) rfl rfl ⟨Nat.le_of_ble_eq_true rfl, Nat.le_of_ble_eq_true rfl⟩ (Nat.le_of_ble_eq_true rfl) ⟨Nat.le_of_ble_eq_true rfl, Nat.le_of_ble_eq_true rfl⟩ rfl (fun r' h' E => o_X9_lent l base D cA a0 a1 h2 r' h' E) E (fun x3 h4 E => ?_)
  refine g_isub C dX9_sharesOf_11 ?_
  refine g_istore_n C (lv' := [(2, .int (x1 - x3)), (0, .ref (base + a0)), (1, .int a1)]) dX9_sharesOf_12 rfl (by decide) rfl ?_
  refine g_iconst C 0 dX9_sharesOf_13 rfl ?_
  refine g_istore_n C (lv' := [(3, .int 0), (2, .int (x1 - x3)), (0, .ref (base + a0)), (1, .int a1)]) dX9_sharesOf_14 rfl (by decide) rfl ?_
  refine g_sub (lv' := [(0, .ref (base + a0)), (1, .int a1), (2, .int (x1 - x3)), (3, .int 0)]) [2, 3, 1, 0] rfl ?_
  exact o_X9_sharesOf_L15 C hr _ a0 a1 (x1 - x3) 0 h4 E
abbrev rm_X9_runs : Room := { frames := 1, cells := 0, slots := 0, locals := 22 }
def s_X9_runs (a0 : Nat) (a1 : Int32) (h : Hp) : Rv Int32 :=
  inv h a0 9 (s_X9_part a0 a1 9 h) fun x1 h =>
  if x1 = 1 then retZ 1 h
  else retZ 0 h
set_option maxRecDepth 100000 in
set_option maxHeartbeats 4000000 in
theorem o_X9_runs (l : Launch) (base : Nat) (D : va_G) (cA : Nat → ClassId) (a0 : Nat) (a1 : Int32) (h : Hp) (r : Int32) (h' : Hp) (E : s_X9_runs a0 a1 h = some (r, h')) : Met l yX9_runs (.code yX9_runs cX9_runs 2 (some .boolean) :: wsA) rm_X9_runs (PcG base D cA [.ref (base + a0), .int a1] h) (QcI base D cA r h') 0 0 (AA base) := by
  refine g_met [.ref (base + a0), .int a1] (by decide) (Nat.le_of_ble_eq_true rfl) (fun p e s m args below meth c C hr hn => ?_)
  refine g_lv (lv' := [(0, .ref (base + a0)), (1, .int a1)]) rfl ?_
  unfold s_X9_runs at E
  refine g_aload_n C 0 dX9_runs_0 rfl rfl ?_
  refine g_iload_n C 1 dX9_runs_1 rfl rfl ?_
  refine g_bipush C 9 dX9_runs_2 rfl ?_
  refine g_invI C (q := (RX9, TX9, 13)) [.int a1, .int 9] dX9_runs_4 cl_X9_49 cv_X9_part rfl (by decide) rfl rfl ⟨Nat.le_of_ble_eq_true rfl, Nat.le_of_ble_eq_true rfl⟩ (Nat.le_of_ble_eq_true rfl) ⟨Nat.le_of_ble_eq_true rfl, Nat.le_of_ble_eq_true rfl⟩ rfl (fun r' h' E => o_X9_part l base D cA a0 a1 9 h r' h' E) E (fun x1 h2 E => ?_)
  refine g_iconst C 1 dX9_runs_7 rfl ?_
  refine g_icmp_ne C 15 dX9_runs_8 (by decide) E (fun E => ?_) (fun E => ?_)
  · refine g_iconst C 0 dX9_runs_15 rfl ?_
    exact g_zret C dX9_runs_16 hr E
  · refine g_iconst C 1 dX9_runs_11 rfl ?_
    refine g_goto C 16 dX9_runs_12 (by decide) ?_
    exact g_zret C dX9_runs_16 hr E
abbrev rm_X9_kindOf : Room := { frames := 1, cells := 0, slots := 0, locals := 22 }
def s_X9_kindOf (a0 : Nat) (a1 : Int32) (h : Hp) : Rv Int32 :=
  inv h a0 9 (s_X9_part a0 a1 10 h) fun x1 h =>
  inv h a0 9 (s_X9_part a0 a1 (18 + x1) h) fun x2 h =>
  retI x2 h
set_option maxRecDepth 100000 in
set_option maxHeartbeats 4000000 in
theorem o_X9_kindOf (l : Launch) (base : Nat) (D : va_G) (cA : Nat → ClassId) (a0 : Nat) (a1 : Int32) (h : Hp) (r : Int32) (h' : Hp) (E : s_X9_kindOf a0 a1 h = some (r, h')) : Met l yX9_kindOf (.code yX9_kindOf cX9_kindOf 2 (some .int) :: wsA) rm_X9_kindOf (PcG base D cA [.ref (base + a0), .int a1] h) (QcI base D cA r h') 0 0 (AA base) := by
  refine g_met [.ref (base + a0), .int a1] (by decide) (Nat.le_of_ble_eq_true rfl) (fun p e s m args below meth c C hr hn => ?_)
  refine g_lv (lv' := [(0, .ref (base + a0)), (1, .int a1)]) rfl ?_
  unfold s_X9_kindOf at E
  refine g_aload_n C 0 dX9_kindOf_0 rfl rfl ?_
  refine g_iload_n C 1 dX9_kindOf_1 rfl rfl ?_
  refine g_bipush C 18 dX9_kindOf_2 rfl ?_
  refine g_aload_n C 0 dX9_kindOf_4 rfl rfl ?_
  refine g_iload_n C 1 dX9_kindOf_5 rfl rfl ?_
  refine g_bipush C 10 dX9_kindOf_6 rfl ?_
  refine g_invI C (q := (RX9, TX9, 13)) [.int a1, .int 10] dX9_kindOf_8 cl_X9_49 cv_X9_part rfl (by decide) rfl rfl ⟨Nat.le_of_ble_eq_true rfl, Nat.le_of_ble_eq_true rfl⟩ (Nat.le_of_ble_eq_true rfl) ⟨Nat.le_of_ble_eq_true rfl, Nat.le_of_ble_eq_true rfl⟩ rfl (fun r' h' E => o_X9_part l base D cA a0 a1 10 h r' h' E) E (fun x1 h2 E => ?_)
  refine g_iadd C dX9_kindOf_11 ?_
  refine g_invI C (q := (RX9, TX9, 13)) [.int a1, .int (18 + x1)] dX9_kindOf_12 cl_X9_49 cv_X9_part rfl (by decide) rfl rfl ⟨Nat.le_of_ble_eq_true rfl, Nat.le_of_ble_eq_true rfl⟩ (Nat.le_of_ble_eq_true rfl) ⟨Nat.le_of_ble_eq_true rfl, Nat.le_of_ble_eq_true rfl⟩ rfl (fun r' h' E => o_X9_part l base D cA a0 a1 (18 + x1) h2 r' h' E) E (fun x3 h4 E => ?_)
  exact g_iret C dX9_kindOf_15 hr E
abbrev rm_X9_numberOf : Room := { frames := 1, cells := 0, slots := 0, locals := 22 }
def s_X9_numberOf (a0 : Nat) (a1 : Int32) (h : Hp) : Rv Int32 :=
  inv h a0 9 (s_X9_part a0 a1 10 h) fun x1 h =>
  inv h a0 9 (s_X9_part a0 a1 (30 + x1) h) fun x2 h =>
  retI x2 h
set_option maxRecDepth 100000 in
set_option maxHeartbeats 4000000 in
theorem o_X9_numberOf (l : Launch) (base : Nat) (D : va_G) (cA : Nat → ClassId) (a0 : Nat) (a1 : Int32) (h : Hp) (r : Int32) (h' : Hp) (E : s_X9_numberOf a0 a1 h = some (r, h')) : Met l yX9_numberOf (.code yX9_numberOf cX9_numberOf 2 (some .int) :: wsA) rm_X9_numberOf (PcG base D cA [.ref (base + a0), .int a1] h) (QcI base D cA r h') 0 0 (AA base) := by
  refine g_met [.ref (base + a0), .int a1] (by decide) (Nat.le_of_ble_eq_true rfl) (fun p e s m args below meth c C hr hn => ?_)
  refine g_lv (lv' := [(0, .ref (base + a0)), (1, .int a1)]) rfl ?_
  unfold s_X9_numberOf at E
  refine g_aload_n C 0 dX9_numberOf_0 rfl rfl ?_
  refine g_iload_n C 1 dX9_numberOf_1 rfl rfl ?_
  refine g_bipush C 30 dX9_numberOf_2 rfl ?_
  refine g_aload_n C 0 dX9_numberOf_4 rfl rfl ?_
  refine g_iload_n C 1 dX9_numberOf_5 rfl rfl ?_
  refine g_bipush C 10 dX9_numberOf_6 rfl ?_
  refine g_invI C (q := (RX9, TX9, 13)) [.int a1, .int 10] dX9_numberOf_8 cl_X9_49 cv_X9_part rfl (by decide) rfl rfl ⟨Nat.le_of_ble_eq_true rfl, Nat.le_of_ble_eq_true rfl⟩ (Nat.le_of_ble_eq_true rfl) ⟨Nat.le_of_ble_eq_true rfl, Nat.le_of_ble_eq_true rfl⟩ rfl (fun r' h' E => o_X9_part l base D cA a0 a1 10 h r' h' E) E (fun x1 h2 E => ?_)
  refine g_iadd C dX9_numberOf_11 ?_
  refine g_invI C (q := (RX9, TX9, 13)) [.int a1, .int (30 + x1)] dX9_numberOf_12 cl_X9_49 cv_X9_part rfl (by decide) rfl rfl ⟨Nat.le_of_ble_eq_true rfl, Nat.le_of_ble_eq_true rfl⟩ (Nat.le_of_ble_eq_true rfl) ⟨Nat.le_of_ble_eq_true rfl, Nat.le_of_ble_eq_true rfl⟩ rfl (fun r' h' E => o_X9_part l base D cA a0 a1 (30 + x1) h2 r' h' E) E (fun x3 h4 E => ?_)
  exact g_iret C dX9_numberOf_15 hr E
abbrev rm_X9_washersIn : Room := { frames := 1, cells := 0, slots := 0, locals := 22 }
def s_X9_washersIn_L4 : Nat → Nat → Int32 → Int32 → Int32 → Hp → Rv Int32
  | 0, _, _, _, _, _ => none
  | n + 1, v0, v1, v2, v3, h =>
    getR h v0 9 0 fun x1 =>
  ldI h x1 20 2 fun x2 =>
  if x2 ≤ v3 then retI v2 h
  else inv h v0 9 (s_X9_part v0 v3 9 h) fun x3 h =>
  if x3 = v1 then s_X9_washersIn_L4 n v0 v1 (v2 + 1) (v3 + 1) h
  else s_X9_washersIn_L4 n v0 v1 (v2 + 0) (v3 + 1) h
def s_X9_washersIn (a0 : Nat) (a1 : Int32) (h : Hp) : Rv Int32 :=
  s_X9_washersIn_L4 100000 a0 a1 0 0 h
set_option maxRecDepth 100000 in
set_option maxHeartbeats 4000000 in
theorem o_X9_washersIn_L4 {l : Launch} {base : Nat} {D : va_G} {cA : Nat → ClassId} {p : Program} {e : Env} {s : State} {m : MethodId} {args : Array Value} {below : List Frame} {meth : Method} {c : Code} (C : GC base D cA p s m args meth c cX9_washersIn 4 RX9) (hr : meth.sig.returnType = (some .int)) {X : Int32 × Hp} : ∀ (n : Nat) (v0 : Nat) (v1 : Int32) (v2 : Int32) (v3 : Int32) (h : Hp), s_X9_washersIn_L4 n v0 v1 v2 v3 h = some X → GW base D cA p l e rm_X9_washersIn s m args below meth c (MQ below (QcI base D cA X.1 X.2) args s 0 0 (AA base)) 4 h 0 0 4 [(0, .ref (base + v0)), (1, .int v1), (2, .int v2), (3, .int v3)] [] := by
  intro n
  induction n with
  | zero =>
    intro v0 v1 v2 v3 h E
    rw [s_X9_washersIn_L4] at E
    cases E
  | succ n ih =>
    intro v0 v1 v2 v3 h E
    rw [s_X9_washersIn_L4] at E
    refine g_iload_n C 3 dX9_washersIn_4 rfl rfl ?_
    refine g_aload_n C 0 dX9_washersIn_5 rfl rfl ?_
    refine g_getR C dX9_washersIn_6 fl_X9_7 rfl E (fun x1 E => ?_)
    refine g_iconst C 2 dX9_washersIn_9 rfl ?_
    refine g_iald C dX9_washersIn_10 E (fun x2 E => ?_)
    refine g_icmp_ge C 39 dX9_washersIn_11 (by decide) E (fun E => ?_) (fun E => ?_)
    · refine g_iload_n C 2 dX9_washersIn_39 rfl rfl ?_
      exact g_iret C dX9_washersIn_40 hr E
    · refine g_iload_n C 2 dX9_washersIn_14 rfl rfl ?_
      refine g_aload_n C 0 dX9_washersIn_15 rfl rfl ?_
      refine g_iload_n C 3 dX9_washersIn_16 rfl rfl ?_
      refine g_bipush C 9 dX9_washersIn_17 rfl ?_
      refine g_invI C (q := (RX9, TX9, 13)) [.int v3, .int 9] dX9_washersIn_19 cl_X9_49 cv_X9_part rfl (by decide) rfl rfl ⟨Nat.le_of_ble_eq_true rfl, Nat.le_of_ble_eq_true rfl⟩ (Nat.le_of_ble_eq_true rfl) ⟨Nat.le_of_ble_eq_true rfl, Nat.le_of_ble_eq_true rfl⟩ rfl (fun r' h' E => o_X9_part l base D cA v0 v3 9 h r' h' E) E (fun x3 h4 E => ?_)
      refine g_iload_n C 1 dX9_washersIn_22 rfl rfl ?_
      refine g_icmp_ne C 30 dX9_washersIn_23 (by decide) E (fun E => ?_) (fun E => ?_)
      · refine g_iconst C 0 dX9_washersIn_30 rfl ?_
        refine g_iadd C dX9_washersIn_31 ?_
        refine g_istore_n C (lv' := [(2, .int (v2 + 0)), (0, .ref (base + v0)), (1, .int v1), (3, .int v3)]) dX9_washersIn_32 rfl (by decide) rfl ?_
        refine g_iinc C (lv' := [(3, .int (v3 + 1)), (2, .int (v2 + 0)), (0, .ref (base + v0)), (1, .int v1)]) 3 1 dX9_washersIn_33 rfl rfl (by decide) rfl ?_
        refine g_goto C 4 dX9_washersIn_36 (by decide) ?_
        refine g_sub (lv' := [(0, .ref (base + v0)), (1, .int v1), (2, .int (v2 + 0)), (3, .int (v3 + 1))]) [2, 3, 1, 0] rfl ?_
        exact ih v0 v1 (v2 + 0) (v3 + 1) h4 E
      · refine g_iconst C 1 dX9_washersIn_26 rfl ?_
        refine g_goto C 31 dX9_washersIn_27 (by decide) ?_
        refine g_iadd C dX9_washersIn_31 ?_
        refine g_istore_n C (lv' := [(2, .int (v2 + 1)), (0, .ref (base + v0)), (1, .int v1), (3, .int v3)]) dX9_washersIn_32 rfl (by decide) rfl ?_
        refine g_iinc C (lv' := [(3, .int (v3 + 1)), (2, .int (v2 + 1)), (0, .ref (base + v0)), (1, .int v1)]) 3 1 dX9_washersIn_33 rfl rfl (by decide) rfl ?_
        refine g_goto C 4 dX9_washersIn_36 (by decide) ?_
        refine g_sub (lv' := [(0, .ref (base + v0)), (1, .int v1), (2, .int (v2 + 1)), (3, .int (v3 + 1))]) [2, 3, 1, 0] rfl ?_
        exact ih v0 v1 (v2 + 1) (v3 + 1) h4 E
set_option maxRecDepth 100000 in
set_option maxHeartbeats 4000000 in
theorem o_X9_washersIn (l : Launch) (base : Nat) (D : va_G) (cA : Nat → ClassId) (a0 : Nat) (a1 : Int32) (h : Hp) (r : Int32) (h' : Hp) (E : s_X9_washersIn a0 a1 h = some (r, h')) : Met l yX9_washersIn (.code yX9_washersIn cX9_washersIn 4 (some .int) :: wsA) rm_X9_washersIn (PcG base D cA [.ref (base + a0), .int a1] h) (QcI base D cA r h') 0 0 (AA base) := by
  refine g_met [.ref (base + a0), .int a1] (by decide) (Nat.le_of_ble_eq_true rfl) (fun p e s m args below meth c C hr hn => ?_)
  refine g_lv (lv' := [(0, .ref (base + a0)), (1, .int a1)]) rfl ?_
  unfold s_X9_washersIn at E
  refine g_iconst C 0 dX9_washersIn_0 rfl ?_
  refine g_istore_n C (lv' := [(2, .int 0), (0, .ref (base + a0)), (1, .int a1)]) dX9_washersIn_1 rfl (by decide) rfl ?_
  refine g_iconst C 0 dX9_washersIn_2 rfl ?_
  refine g_istore_n C (lv' := [(3, .int 0), (2, .int 0), (0, .ref (base + a0)), (1, .int a1)]) dX9_washersIn_3 rfl (by decide) rfl ?_
  refine g_sub (lv' := [(0, .ref (base + a0)), (1, .int a1), (2, .int 0), (3, .int 0)]) [2, 3, 1, 0] rfl ?_
  exact o_X9_washersIn_L4 C hr _ a0 a1 0 0 h E
abbrev rm_X9_addHouse : Room := { frames := 2, cells := 0, slots := 0, locals := 45 }
def s_X9_addHouse_L63 (k85 : Nat → Int32 → Int32 → Int32 → Int32 → Hp → Rv Int32) : Nat → Nat → Int32 → Int32 → Int32 → Int32 → Int32 → Hp → Rv Int32
  | 0, _, _, _, _, _, _, _ => none
  | n + 1, v0, v1, v2, v3, v4, v5, h =>
    if 42 ≤ v5 then k85 v0 v1 v2 v3 v4 h
  else inv h v0 9 (s_X9_setPart v0 v4 v5 0 h) fun _ h =>
  s_X9_addHouse_L63 k85 n v0 v1 v2 v3 v4 (v5 + 1) h
def s_X9_addHouse (a0 : Nat) (a1 : Int32) (a2 : Int32) (a3 : Int32) (h : Hp) : Rv Int32 :=
  bnd (s_X9_within a1 1 20 h) fun x1 h =>
  if x1 = 0 then retI (-2) h
  else bnd (s_X9_within a2 1 50 h) fun x2 h =>
  if x2 = 0 then retI (-2) h
  else bnd (s_X9_within a3 0 9999 h) fun x3 h =>
  if x3 = 0 then retI (-2) h
  else getR h a0 9 0 fun x4 =>
  ldI h x4 20 2 fun x5 =>
  if x5 = 8 then retI (-3) h
  else inv h a0 9 (s_X9_record a0 h) fun _ h =>
  getR h a0 9 0 fun x6 =>
  ldI h x6 20 2 fun x7 =>
  s_X9_addHouse_L63 (fun y0 y1 y2 y3 y4 h => inv h y0 9 (s_X9_setPart y0 y4 0 y1 h) fun _ h =>
  inv h y0 9 (s_X9_setPart y0 y4 1 y2 h) fun _ h =>
  inv h y0 9 (s_X9_setPart y0 y4 2 y3 h) fun _ h =>
  inv h y0 9 (s_X9_setPart y0 y4 13 1 h) fun _ h =>
  getR h y0 9 0 fun x8 =>
  ldI h x8 20 2 fun x9 =>
  stI h x8 20 2 (x9 + 1) fun h =>
  retI y4 h) 100000 a0 a1 a2 a3 x7 0 h
set_option maxRecDepth 100000 in
set_option maxHeartbeats 4000000 in
theorem o_X9_addHouse_L63 {l : Launch} {base : Nat} {D : va_G} {cA : Nat → ClassId} {p : Program} {e : Env} {s : State} {m : MethodId} {args : Array Value} {below : List Frame} {meth : Method} {c : Code} (C : GC base D cA p s m args meth c cX9_addHouse 6 RX9) (hr : meth.sig.returnType = (some .int)) {X : Int32 × Hp} {k85 : Nat → Int32 → Int32 → Int32 → Int32 → Hp → Rv Int32} (K85 : ∀ (y0 : Nat) (y1 : Int32) (y2 : Int32) (y3 : Int32) (y4 : Int32) (h : Hp), k85 y0 y1 y2 y3 y4 h = some X → GW base D cA p l e rm_X9_addHouse s m args below meth c (MQ below (QcI base D cA X.1 X.2) args s 0 0 (AA base)) 6 h 0 0 85 [(0, .ref (base + y0)), (1, .int y1), (2, .int y2), (3, .int y3), (4, .int y4)] []) : ∀ (n : Nat) (v0 : Nat) (v1 : Int32) (v2 : Int32) (v3 : Int32) (v4 : Int32) (v5 : Int32) (h : Hp), s_X9_addHouse_L63 k85 n v0 v1 v2 v3 v4 v5 h = some X → GW base D cA p l e rm_X9_addHouse s m args below meth c (MQ below (QcI base D cA X.1 X.2) args s 0 0 (AA base)) 6 h 0 0 63 [(0, .ref (base + v0)), (1, .int v1), (2, .int v2), (3, .int v3), (4, .int v4), (5, .int v5)] [] := by
  intro n
  induction n with
  | zero =>
    intro v0 v1 v2 v3 v4 v5 h E
    rw [s_X9_addHouse_L63] at E
    cases E
  | succ n ih =>
    intro v0 v1 v2 v3 v4 v5 h E
    rw [s_X9_addHouse_L63] at E
    refine g_iload C 5 dX9_addHouse_63 rfl ?_
    refine g_bipush C 42 dX9_addHouse_65 rfl ?_
    refine g_icmp_ge C 85 dX9_addHouse_67 (by decide) E (fun E => ?_) (fun E => ?_)
    · refine g_sub (lv' := [(0, .ref (base + v0)), (1, .int v1), (2, .int v2), (3, .int v3), (4, .int v4)]) [0, 1, 2, 3, 4] rfl ?_
      exact K85 v0 v1 v2 v3 v4 h E
    · refine g_aload_n C 0 dX9_addHouse_70 rfl rfl ?_
      refine g_iload C 4 dX9_addHouse_71 rfl ?_
      refine g_iload C 5 dX9_addHouse_73 rfl ?_
      refine g_iconst C 0 dX9_addHouse_75 rfl ?_
      refine g_invU C (q := (RX9, TX9, 13)) [.int v4, .int v5, .int 0] dX9_addHouse_76 cl_X9_63 cv_X9_setPart rfl (by decide) rfl rfl ⟨Nat.le_of_ble_eq_true rfl, Nat.le_of_ble_eq_true rfl⟩ (Nat.le_of_ble_eq_true rfl) ⟨Nat.le_of_ble_eq_true rfl, Nat.le_of_ble_eq_true rfl⟩ rfl (fun r' h' E => o_X9_setPart l base D cA v0 v4 v5 0 h r' h' E) E (fun x1 h2 E => ?_)
      refine g_iinc C (lv' := [(5, .int (v5 + 1)), (0, .ref (base + v0)), (1, .int v1), (2, .int v2), (3, .int v3), (4, .int v4)]) 5 1 dX9_addHouse_79 rfl rfl (by decide) rfl ?_
      refine g_goto C 63 dX9_addHouse_82 (by decide) ?_
      refine g_sub (lv' := [(0, .ref (base + v0)), (1, .int v1), (2, .int v2), (3, .int v3), (4, .int v4), (5, .int (v5 + 1))]) [1, 2, 3, 4, 5, 0] rfl ?_
      exact ih v0 v1 v2 v3 v4 (v5 + 1) h2 E
set_option maxRecDepth 100000 in
set_option maxHeartbeats 4000000 in
theorem o_X9_addHouse (l : Launch) (base : Nat) (D : va_G) (cA : Nat → ClassId) (a0 : Nat) (a1 : Int32) (a2 : Int32) (a3 : Int32) (h : Hp) (r : Int32) (h' : Hp) (E : s_X9_addHouse a0 a1 a2 a3 h = some (r, h')) : Met l yX9_addHouse (.code yX9_addHouse cX9_addHouse 6 (some .int) :: wsA) rm_X9_addHouse (PcG base D cA [.ref (base + a0), .int a1, .int a2, .int a3] h) (QcI base D cA r h') 0 0 (AA base) := by
  refine g_met [.ref (base + a0), .int a1, .int a2, .int a3] (by decide) (Nat.le_of_ble_eq_true rfl) (fun p e s m args below meth c C hr hn => ?_)
  refine g_lv (lv' := [(0, .ref (base + a0)), (1, .int a1), (2, .int a2), (3, .int a3)]) rfl ?_
  unfold s_X9_addHouse at E
  refine g_iload_n C 1 dX9_addHouse_0 rfl rfl ?_
  refine g_iconst C 1 dX9_addHouse_1 rfl ?_
  refine g_bipush C 20 dX9_addHouse_2 rfl ?_
  refine g_staI C [.int a1, .int 1, .int 20] dX9_addHouse_4 cl_X9_45 cs_X9_within rfl rfl ⟨Nat.le_of_ble_eq_true rfl, Nat.le_of_ble_eq_true rfl⟩ (Nat.le_of_ble_eq_true rfl) ⟨Nat.le_of_ble_eq_true rfl, Nat.le_of_ble_eq_true rfl⟩ rfl (fun r' h' E => o_X9_within l base D cA a1 1 20 h r' h' E) E (fun x1 h2 E => ?_)
  refine g_if_eq C 31 dX9_addHouse_7 (by decide) E (fun E => ?_) (fun E => ?_)
  · refine g_bipush C (-2) dX9_addHouse_31 rfl ?_
    exact g_iret C dX9_addHouse_33 hr E
  · refine g_iload_n C 2 dX9_addHouse_10 rfl rfl ?_
    refine g_iconst C 1 dX9_addHouse_11 rfl ?_
    refine g_bipush C 50 dX9_addHouse_12 rfl ?_
    refine g_staI C [.int a2, .int 1, .int 50] dX9_addHouse_14 cl_X9_45 cs_X9_within rfl rfl ⟨Nat.le_of_ble_eq_true rfl, Nat.le_of_ble_eq_true rfl⟩ (Nat.le_of_ble_eq_true rfl) ⟨Nat.le_of_ble_eq_true rfl, Nat.le_of_ble_eq_true rfl⟩ rfl (fun r' h' E => o_X9_within l base D cA a2 1 50 h2 r' h' E) E (fun x3 h4 E => ?_)
    refine g_if_eq C 31 dX9_addHouse_17 (by decide) E (fun E => ?_) (fun E => ?_)
    · refine g_bipush C (-2) dX9_addHouse_31 rfl ?_
      exact g_iret C dX9_addHouse_33 hr E
    · refine g_iload_n C 3 dX9_addHouse_20 rfl rfl ?_
      refine g_iconst C 0 dX9_addHouse_21 rfl ?_
      refine g_sipush C 9999 dX9_addHouse_22 rfl ?_
      refine g_staI C [.int a3, .int 0, .int 9999] dX9_addHouse_25 cl_X9_45 cs_X9_within rfl rfl ⟨Nat.le_of_ble_eq_true rfl, Nat.le_of_ble_eq_true rfl⟩ (Nat.le_of_ble_eq_true rfl) ⟨Nat.le_of_ble_eq_true rfl, Nat.le_of_ble_eq_true rfl⟩ rfl (fun r' h' E => o_X9_within l base D cA a3 0 9999 h4 r' h' E) E (fun x5 h6 E => ?_)
      refine g_if_ne C 34 dX9_addHouse_28 (by decide) E (fun E => ?_) (fun E => ?_)
      · refine g_aload_n C 0 dX9_addHouse_34 rfl rfl ?_
        refine g_getR C dX9_addHouse_35 fl_X9_7 rfl E (fun x7 E => ?_)
        refine g_iconst C 2 dX9_addHouse_38 rfl ?_
        refine g_iald C dX9_addHouse_39 E (fun x8 E => ?_)
        refine g_bipush C 8 dX9_addHouse_40 rfl ?_
        refine g_icmp_ne C 48 dX9_addHouse_42 (by decide) E (fun E => ?_) (fun E => ?_)
        · refine g_aload_n C 0 dX9_addHouse_48 rfl rfl ?_
          refine g_invU C (q := (RX9, TX9, 13)) [] dX9_addHouse_49 cl_X9_60 cv_X9_record rfl (by decide) rfl rfl ⟨Nat.le_of_ble_eq_true rfl, Nat.le_of_ble_eq_true rfl⟩ (Nat.le_of_ble_eq_true rfl) ⟨Nat.le_of_ble_eq_true rfl, Nat.le_of_ble_eq_true rfl⟩ rfl (fun r' h' E => o_X9_record l base D cA a0 h6 r' h' E) E (fun x9 h10 E => ?_)
          refine g_aload_n C 0 dX9_addHouse_52 rfl rfl ?_
          refine g_getR C dX9_addHouse_53 fl_X9_7 rfl E (fun x11 E => ?_)
          refine g_iconst C 2 dX9_addHouse_56 rfl ?_
          refine g_iald C dX9_addHouse_57 E (fun x12 E => ?_)
          refine g_istore C (lv' := [(4, .int x12), (0, .ref (base + a0)), (1, .int a1), (2, .int a2), (3, .int a3)]) dX9_addHouse_58 (by decide) rfl ?_
          refine g_iconst C 0 dX9_addHouse_60 rfl ?_
          refine g_istore C (lv' := [(5, .int 0), (4, .int x12), (0, .ref (base + a0)), (1, .int a1), (2, .int a2), (3, .int a3)]) dX9_addHouse_61 (by decide) rfl ?_
          refine g_sub (lv' := [(0, .ref (base + a0)), (1, .int a1), (2, .int a2), (3, .int a3), (4, .int x12), (5, .int 0)]) [2, 3, 4, 5, 1, 0] rfl ?_
          refine o_X9_addHouse_L63 C hr ?_ _ a0 a1 a2 a3 x12 0 h10 E
          · intro y13 y14 y15 y16 y17 h18 E
            refine g_aload_n C 0 dX9_addHouse_85 rfl rfl ?_
            refine g_iload C 4 dX9_addHouse_86 rfl ?_
            refine g_iconst C 0 dX9_addHouse_88 rfl ?_
            refine g_iload_n C 1 dX9_addHouse_89 rfl rfl ?_
            refine g_invU C (q := (RX9, TX9, 13)) [.int y17, .int 0, .int y14] dX9_addHouse_90 cl_X9_63 cv_X9_setPart rfl (by decide) rfl rfl ⟨Nat.le_of_ble_eq_true rfl, Nat.le_of_ble_eq_true rfl⟩ (Nat.le_of_ble_eq_true rfl) ⟨Nat.le_of_ble_eq_true rfl, Nat.le_of_ble_eq_true rfl⟩ rfl (fun r' h' E => o_X9_setPart l base D cA y13 y17 0 y14 h18 r' h' E) E (fun x19 h20 E => ?_)
            refine g_aload_n C 0 dX9_addHouse_93 rfl rfl ?_
            refine g_iload C 4 dX9_addHouse_94 rfl ?_
            refine g_iconst C 1 dX9_addHouse_96 rfl ?_
            refine g_iload_n C 2 dX9_addHouse_97 rfl rfl ?_
            refine g_invU C (q := (RX9, TX9, 13)) [.int y17, .int 1, .int y15] dX9_addHouse_98 cl_X9_63 cv_X9_setPart rfl (by decide) rfl rfl ⟨Nat.le_of_ble_eq_true rfl, Nat.le_of_ble_eq_true rfl⟩ (Nat.le_of_ble_eq_true rfl) ⟨Nat.le_of_ble_eq_true rfl, Nat.le_of_ble_eq_true rfl⟩ rfl (fun r' h' E => o_X9_setPart l base D cA y13 y17 1 y15 h20 r' h' E) E (fun x21 h22 E => ?_)
            refine g_aload_n C 0 dX9_addHouse_101 rfl rfl ?_
            refine g_iload C 4 dX9_addHouse_102 rfl ?_
            refine g_iconst C 2 dX9_addHouse_104 rfl ?_
            refine g_iload_n C 3 dX9_addHouse_105 rfl rfl ?_
            refine g_invU C (q := (RX9, TX9, 13)) [.int y17, .int 2, .int y16] dX9_addHouse_106 cl_X9_63 cv_X9_setPart rfl (by decide) rfl rfl ⟨Nat.le_of_ble_eq_true rfl, Nat.le_of_ble_eq_true rfl⟩ (Nat.le_of_ble_eq_true rfl) ⟨Nat.le_of_ble_eq_true rfl, Nat.le_of_ble_eq_true rfl⟩ rfl (fun r' h' E => o_X9_setPart l base D cA y13 y17 2 y16 h22 r' h' E) E (fun x23 h24 E => ?_)
            refine g_aload_n C 0 dX9_addHouse_109 rfl rfl ?_
            refine g_iload C 4 dX9_addHouse_110 rfl ?_
            refine g_bipush C 13 dX9_addHouse_112 rfl ?_
            refine g_iconst C 1 dX9_addHouse_114 rfl ?_
            refine g_invU C (q := (RX9, TX9, 13)) [.int y17, .int 13, .int 1] dX9_addHouse_115 cl_X9_63 cv_X9_setPart rfl (by decide) rfl rfl ⟨Nat.le_of_ble_eq_true rfl, Nat.le_of_ble_eq_true rfl⟩ (Nat.le_of_ble_eq_true rfl) ⟨Nat.le_of_ble_eq_true rfl, Nat.le_of_ble_eq_true rfl⟩ rfl (fun r' h' E => o_X9_setPart l base D cA y13 y17 13 1 h24 r' h' E) E (fun x25 h26 E => ?_)
            refine g_aload_n C 0 dX9_addHouse_118 rfl rfl ?_
            refine g_getR C dX9_addHouse_119 fl_X9_7 rfl E (fun x27 E => ?_)
            refine g_iconst C 2 dX9_addHouse_122 rfl ?_
            refine g_dup2 C dX9_addHouse_123 rfl rfl ?_
            refine g_iald C dX9_addHouse_124 E (fun x28 E => ?_)
            refine g_iconst C 1 dX9_addHouse_125 rfl ?_
            refine g_iadd C dX9_addHouse_126 ?_
            refine g_iast C dX9_addHouse_127 E (fun h29 E => ?_)
            refine g_iload C 4 dX9_addHouse_128 rfl ?_
            exact g_iret C dX9_addHouse_130 hr E
        · refine g_bipush C (-3) dX9_addHouse_45 rfl ?_
          exact g_iret C dX9_addHouse_47 hr E
      · refine g_bipush C (-2) dX9_addHouse_31 rfl ?_
        exact g_iret C dX9_addHouse_33 hr E
abbrev rm_X9_isSetting : Room := { frames := 1, cells := 0, slots := 0, locals := 22 }
def s_X9_isSetting (a0 : Int32) (a1 : Int32) (h : Hp) : Rv Int32 :=
  if a0 = 0 then bnd (s_X9_within a1 1000 60000 h) fun x1 h =>
  retZ x1 h
  else if a0 = 1 then bnd (s_X9_within a1 0 900 h) fun x2 h =>
  retZ x2 h
  else if a0 = 2 then bnd (s_X9_within a1 10 2000 h) fun x3 h =>
  retZ x3 h
  else if a0 = 3 then bnd (s_X9_within a1 20 60 h) fun x4 h =>
  retZ x4 h
  else retZ 0 h
set_option maxRecDepth 100000 in
set_option maxHeartbeats 4000000 in
theorem o_X9_isSetting (l : Launch) (base : Nat) (D : va_G) (cA : Nat → ClassId) (a0 : Int32) (a1 : Int32) (h : Hp) (r : Int32) (h' : Hp) (E : s_X9_isSetting a0 a1 h = some (r, h')) : Met l yX9_isSetting (.code yX9_isSetting cX9_isSetting 2 (some .boolean) :: wsA) rm_X9_isSetting (PcG base D cA [.int a0, .int a1] h) (QcI base D cA r h') 0 0 (AA base) := by
  refine g_met [.int a0, .int a1] (by decide) (Nat.le_of_ble_eq_true rfl) (fun p e s m args below meth c C hr hn => ?_)
  refine g_lv (lv' := [(0, .int a0), (1, .int a1)]) rfl ?_
  unfold s_X9_isSetting at E
  refine g_iload_n C 0 dX9_isSetting_0 rfl rfl ?_
  by_cases q1 : a0 = 0
  · rw [if_pos q1] at E
    refine g_tswIn C 0 32 q1 dX9_isSetting_1 (by decide) (by decide) rfl (by decide) ?_
    refine g_iload_n C 1 dX9_isSetting_32 rfl rfl ?_
    refine g_sipush C 1000 dX9_isSetting_33 rfl ?_
    refine g_ldc C 60000 dX9_isSetting_36 (in_wsA 806 (by decide +kernel) rfl) ?_
    refine g_staI C [.int a1, .int 1000, .int 60000] dX9_isSetting_38 cl_X9_45 cs_X9_within rfl rfl ⟨Nat.le_of_ble_eq_true rfl, Nat.le_of_ble_eq_true rfl⟩ (Nat.le_of_ble_eq_true rfl) ⟨Nat.le_of_ble_eq_true rfl, Nat.le_of_ble_eq_true rfl⟩ rfl (fun r' h' E => o_X9_within l base D cA a1 1000 60000 h r' h' E) E (fun x2 h3 E => ?_)
    exact g_zret C dX9_isSetting_41 hr E
  rw [if_neg q1] at E
  by_cases q4 : a0 = 1
  · rw [if_pos q4] at E
    refine g_tswIn C 1 42 q4 dX9_isSetting_1 (by decide) (by decide) rfl (by decide) ?_
    refine g_iload_n C 1 dX9_isSetting_42 rfl rfl ?_
    refine g_iconst C 0 dX9_isSetting_43 rfl ?_
    refine g_sipush C 900 dX9_isSetting_44 rfl ?_
    refine g_staI C [.int a1, .int 0, .int 900] dX9_isSetting_47 cl_X9_45 cs_X9_within rfl rfl ⟨Nat.le_of_ble_eq_true rfl, Nat.le_of_ble_eq_true rfl⟩ (Nat.le_of_ble_eq_true rfl) ⟨Nat.le_of_ble_eq_true rfl, Nat.le_of_ble_eq_true rfl⟩ rfl (fun r' h' E => o_X9_within l base D cA a1 0 900 h r' h' E) E (fun x5 h6 E => ?_)
    exact g_zret C dX9_isSetting_50 hr E
  rw [if_neg q4] at E
  by_cases q7 : a0 = 2
  · rw [if_pos q7] at E
    refine g_tswIn C 2 51 q7 dX9_isSetting_1 (by decide) (by decide) rfl (by decide) ?_
    refine g_iload_n C 1 dX9_isSetting_51 rfl rfl ?_
    refine g_bipush C 10 dX9_isSetting_52 rfl ?_
    refine g_sipush C 2000 dX9_isSetting_54 rfl ?_
    refine g_staI C [.int a1, .int 10, .int 2000] dX9_isSetting_57 cl_X9_45 cs_X9_within rfl rfl ⟨Nat.le_of_ble_eq_true rfl, Nat.le_of_ble_eq_true rfl⟩ (Nat.le_of_ble_eq_true rfl) ⟨Nat.le_of_ble_eq_true rfl, Nat.le_of_ble_eq_true rfl⟩ rfl (fun r' h' E => o_X9_within l base D cA a1 10 2000 h r' h' E) E (fun x8 h9 E => ?_)
    exact g_zret C dX9_isSetting_60 hr E
  rw [if_neg q7] at E
  by_cases q10 : a0 = 3
  · rw [if_pos q10] at E
    refine g_tswIn C 3 61 q10 dX9_isSetting_1 (by decide) (by decide) rfl (by decide) ?_
    refine g_iload_n C 1 dX9_isSetting_61 rfl rfl ?_
    refine g_bipush C 20 dX9_isSetting_62 rfl ?_
    refine g_bipush C 60 dX9_isSetting_64 rfl ?_
    refine g_staI C [.int a1, .int 20, .int 60] dX9_isSetting_66 cl_X9_45 cs_X9_within rfl rfl ⟨Nat.le_of_ble_eq_true rfl, Nat.le_of_ble_eq_true rfl⟩ (Nat.le_of_ble_eq_true rfl) ⟨Nat.le_of_ble_eq_true rfl, Nat.le_of_ble_eq_true rfl⟩ rfl (fun r' h' E => o_X9_within l base D cA a1 20 60 h r' h' E) E (fun x11 h12 E => ?_)
    exact g_zret C dX9_isSetting_69 hr E
  rw [if_neg q10] at E
  refine g_tswDf C 70 dX9_isSetting_1 (fun z z1 z2 zx => ?_) (by decide) ?_
  · rcases (show z = 0 ∨ z = 1 ∨ z = 2 ∨ z = 3 by omega) with rfl | rfl | rfl | rfl
    · exact absurd zx (lv_neT q1 (by decide))
    · exact absurd zx (lv_neT q4 (by decide))
    · exact absurd zx (lv_neT q7 (by decide))
    · exact absurd zx (lv_neT q10 (by decide))
  refine g_iconst C 0 dX9_isSetting_70 rfl ?_
  exact g_zret C dX9_isSetting_71 hr E
abbrev rm_X9_isTooHot : Room := { frames := 2, cells := 0, slots := 0, locals := 43 }
def s_X9_isTooHot_L4 : Nat → Nat → Int32 → Int32 → Int32 → Hp → Rv Int32
  | 0, _, _, _, _, _ => none
  | n + 1, v0, v1, v2, v3, h =>
    getR h v0 9 0 fun x1 =>
  ldI h x1 20 2 fun x2 =>
  if x2 ≤ v3 then retZ v2 h
  else if v2 = 0 then inv h v0 9 (s_X9_part v0 v3 13 h) fun x3 h =>
  if x3 = 2 then s_X9_isTooHot_L4 n v0 v1 0 (v3 + 1) h
  else inv h v0 9 (s_X9_temperature v0 v3 h) fun x4 h =>
  if x4 ≤ v1 then s_X9_isTooHot_L4 n v0 v1 0 (v3 + 1) h
  else s_X9_isTooHot_L4 n v0 v1 1 (v3 + 1) h
  else s_X9_isTooHot_L4 n v0 v1 1 (v3 + 1) h
def s_X9_isTooHot (a0 : Nat) (a1 : Int32) (h : Hp) : Rv Int32 :=
  s_X9_isTooHot_L4 100000 a0 a1 0 0 h
set_option maxRecDepth 100000 in
set_option maxHeartbeats 4000000 in
theorem o_X9_isTooHot_L4 {l : Launch} {base : Nat} {D : va_G} {cA : Nat → ClassId} {p : Program} {e : Env} {s : State} {m : MethodId} {args : Array Value} {below : List Frame} {meth : Method} {c : Code} (C : GC base D cA p s m args meth c cX9_isTooHot 4 RX9) (hr : meth.sig.returnType = (some .boolean)) {X : Int32 × Hp} : ∀ (n : Nat) (v0 : Nat) (v1 : Int32) (v2 : Int32) (v3 : Int32) (h : Hp), s_X9_isTooHot_L4 n v0 v1 v2 v3 h = some X → GW base D cA p l e rm_X9_isTooHot s m args below meth c (MQ below (QcI base D cA X.1 X.2) args s 0 0 (AA base)) 4 h 0 0 4 [(0, .ref (base + v0)), (1, .int v1), (2, .int v2), (3, .int v3)] [] := by
  intro n
  induction n with
  | zero =>
    intro v0 v1 v2 v3 h E
    rw [s_X9_isTooHot_L4] at E
    cases E
  | succ n ih =>
    intro v0 v1 v2 v3 h E
    rw [s_X9_isTooHot_L4] at E
    refine g_iload_n C 3 dX9_isTooHot_4 rfl rfl ?_
    refine g_aload_n C 0 dX9_isTooHot_5 rfl rfl ?_
    refine g_getR C dX9_isTooHot_6 fl_X9_7 rfl E (fun x1 E => ?_)
    refine g_iconst C 2 dX9_isTooHot_9 rfl ?_
    refine g_iald C dX9_isTooHot_10 E (fun x2 E => ?_)
    refine g_icmp_ge C 50 dX9_isTooHot_11 (by decide) E (fun E => ?_) (fun E => ?_)
    · refine g_iload_n C 2 dX9_isTooHot_50 rfl rfl ?_
      exact g_zret C dX9_isTooHot_51 hr E
    · refine g_iload_n C 2 dX9_isTooHot_14 rfl rfl ?_
      refine g_if_ne C 38 dX9_isTooHot_15 (by decide) E (fun E => ?_) (fun E => ?_)
      · refine g_iconst C 1 dX9_isTooHot_38 rfl ?_
        refine g_goto C 43 dX9_isTooHot_39 (by decide) ?_
        refine g_istore_n C (lv' := [(2, .int 1), (0, .ref (base + v0)), (1, .int v1), (3, .int v3)]) dX9_isTooHot_43 rfl (by decide) rfl ?_
        refine g_iinc C (lv' := [(3, .int (v3 + 1)), (2, .int 1), (0, .ref (base + v0)), (1, .int v1)]) 3 1 dX9_isTooHot_44 rfl rfl (by decide) rfl ?_
        refine g_goto C 4 dX9_isTooHot_47 (by decide) ?_
        refine g_sub (lv' := [(0, .ref (base + v0)), (1, .int v1), (2, .int 1), (3, .int (v3 + 1))]) [2, 3, 1, 0] rfl ?_
        exact ih v0 v1 1 (v3 + 1) h E
      · refine g_aload_n C 0 dX9_isTooHot_18 rfl rfl ?_
        refine g_iload_n C 3 dX9_isTooHot_19 rfl rfl ?_
        refine g_bipush C 13 dX9_isTooHot_20 rfl ?_
        refine g_invI C (q := (RX9, TX9, 13)) [.int v3, .int 13] dX9_isTooHot_22 cl_X9_49 cv_X9_part rfl (by decide) rfl rfl ⟨Nat.le_of_ble_eq_true rfl, Nat.le_of_ble_eq_true rfl⟩ (Nat.le_of_ble_eq_true rfl) ⟨Nat.le_of_ble_eq_true rfl, Nat.le_of_ble_eq_true rfl⟩ rfl (fun r' h' E => o_X9_part l base D cA v0 v3 13 h r' h' E) E (fun x3 h4 E => ?_)
        refine g_iconst C 2 dX9_isTooHot_25 rfl ?_
        refine g_icmp_eq C 42 dX9_isTooHot_26 (by decide) E (fun E => ?_) (fun E => ?_)
        · refine g_iconst C 0 dX9_isTooHot_42 rfl ?_
          refine g_istore_n C (lv' := [(2, .int 0), (0, .ref (base + v0)), (1, .int v1), (3, .int v3)]) dX9_isTooHot_43 rfl (by decide) rfl ?_
          refine g_iinc C (lv' := [(3, .int (v3 + 1)), (2, .int 0), (0, .ref (base + v0)), (1, .int v1)]) 3 1 dX9_isTooHot_44 rfl rfl (by decide) rfl ?_
          refine g_goto C 4 dX9_isTooHot_47 (by decide) ?_
          refine g_sub (lv' := [(0, .ref (base + v0)), (1, .int v1), (2, .int 0), (3, .int (v3 + 1))]) [2, 3, 1, 0] rfl ?_
          exact ih v0 v1 0 (v3 + 1) h4 E
        · refine g_aload_n C 0 dX9_isTooHot_29 rfl rfl ?_
          refine g_iload_n C 3 dX9_isTooHot_30 rfl rfl ?_
          refine g_invI C (q := (RX9, TX9, 13)) [.int v3] dX9_isTooHot_31 cl_X9_68 cv_X9_temperature rfl (by decide) rfl rfl ⟨Nat.le_of_ble_eq_true rfl, Nat.le_of_ble_eq_true rfl⟩ (Nat.le_of_ble_eq_true rfl) ⟨Nat.le_of_ble_eq_true rfl, Nat.le_of_ble_eq_true rfl⟩ rfl (fun r' h' E => o_X9_temperature l base D cA v0 v3 h4 r' h' E) E (fun x5 h6 E => ?_)
          refine g_iload_n C 1 dX9_isTooHot_34 rfl rfl ?_
          refine g_icmp_le C 42 dX9_isTooHot_35 (by decide) E (fun E => ?_) (fun E => ?_)
          · refine g_iconst C 0 dX9_isTooHot_42 rfl ?_
            refine g_istore_n C (lv' := [(2, .int 0), (0, .ref (base + v0)), (1, .int v1), (3, .int v3)]) dX9_isTooHot_43 rfl (by decide) rfl ?_
            refine g_iinc C (lv' := [(3, .int (v3 + 1)), (2, .int 0), (0, .ref (base + v0)), (1, .int v1)]) 3 1 dX9_isTooHot_44 rfl rfl (by decide) rfl ?_
            refine g_goto C 4 dX9_isTooHot_47 (by decide) ?_
            refine g_sub (lv' := [(0, .ref (base + v0)), (1, .int v1), (2, .int 0), (3, .int (v3 + 1))]) [2, 3, 1, 0] rfl ?_
            exact ih v0 v1 0 (v3 + 1) h6 E
          · refine g_iconst C 1 dX9_isTooHot_38 rfl ?_
            refine g_goto C 43 dX9_isTooHot_39 (by decide) ?_
            refine g_istore_n C (lv' := [(2, .int 1), (0, .ref (base + v0)), (1, .int v1), (3, .int v3)]) dX9_isTooHot_43 rfl (by decide) rfl ?_
            refine g_iinc C (lv' := [(3, .int (v3 + 1)), (2, .int 1), (0, .ref (base + v0)), (1, .int v1)]) 3 1 dX9_isTooHot_44 rfl rfl (by decide) rfl ?_
            refine g_goto C 4 dX9_isTooHot_47 (by decide) ?_
            refine g_sub (lv' := [(0, .ref (base + v0)), (1, .int v1), (2, .int 1), (3, .int (v3 + 1))]) [2, 3, 1, 0] rfl ?_
            exact ih v0 v1 1 (v3 + 1) h6 E
set_option maxRecDepth 100000 in
set_option maxHeartbeats 4000000 in
theorem o_X9_isTooHot (l : Launch) (base : Nat) (D : va_G) (cA : Nat → ClassId) (a0 : Nat) (a1 : Int32) (h : Hp) (r : Int32) (h' : Hp) (E : s_X9_isTooHot a0 a1 h = some (r, h')) : Met l yX9_isTooHot (.code yX9_isTooHot cX9_isTooHot 4 (some .boolean) :: wsA) rm_X9_isTooHot (PcG base D cA [.ref (base + a0), .int a1] h) (QcI base D cA r h') 0 0 (AA base) := by
  refine g_met [.ref (base + a0), .int a1] (by decide) (Nat.le_of_ble_eq_true rfl) (fun p e s m args below meth c C hr hn => ?_)
  refine g_lv (lv' := [(0, .ref (base + a0)), (1, .int a1)]) rfl ?_
  unfold s_X9_isTooHot at E
  refine g_iconst C 0 dX9_isTooHot_0 rfl ?_
  refine g_istore_n C (lv' := [(2, .int 0), (0, .ref (base + a0)), (1, .int a1)]) dX9_isTooHot_1 rfl (by decide) rfl ?_
  refine g_iconst C 0 dX9_isTooHot_2 rfl ?_
  refine g_istore_n C (lv' := [(3, .int 0), (2, .int 0), (0, .ref (base + a0)), (1, .int a1)]) dX9_isTooHot_3 rfl (by decide) rfl ?_
  refine g_sub (lv' := [(0, .ref (base + a0)), (1, .int a1), (2, .int 0), (3, .int 0)]) [2, 3, 1, 0] rfl ?_
  exact o_X9_isTooHot_L4 C hr _ a0 a1 0 0 h E
abbrev rm_X9_set : Room := { frames := 3, cells := 0, slots := 0, locals := 66 }
def s_X9_set_J42 (v0 : Nat) (v1 : Int32) (v2 : Int32) (h : Hp) : Rv Int32 :=
  getR h v0 9 0 fun x2 =>
  ldI h x2 20 (3 + v1) fun x3 =>
  if x3 = v2 then retI (-5) h
  else inv h v0 9 (s_X9_record v0 h) fun _ h =>
  getR h v0 9 0 fun x4 =>
  stI h x4 20 (3 + v1) v2 fun h =>
  retI x3 h
def s_X9_set_J26 (v0 : Nat) (v1 : Int32) (v2 : Int32) (h : Hp) : Rv Int32 :=
  if v1 = 3 then inv h v0 9 (s_X9_isTooHot v0 v2 h) fun x5 h =>
  if x5 = 0 then s_X9_set_J42 v0 v1 v2 h
  else retI (-4) h
  else s_X9_set_J42 v0 v1 v2 h
def s_X9_set (a0 : Nat) (a1 : Int32) (a2 : Int32) (h : Hp) : Rv Int32 :=
  bnd (s_X9_isSetting a1 a2 h) fun x1 h =>
  if x1 = 0 then retI (-2) h
  else if a1 = 0 then getR h a0 9 0 fun x6 =>
  ldI h x6 20 7 fun x7 =>
  if a2 < x7 then retI (-4) h
  else s_X9_set_J26 a0 a1 a2 h
  else s_X9_set_J26 a0 a1 a2 h
set_option maxRecDepth 100000 in
set_option maxHeartbeats 4000000 in
theorem o_X9_set_J42 {l : Launch} {base : Nat} {D : va_G} {cA : Nat → ClassId} {p : Program} {e : Env} {s : State} {m : MethodId} {args : Array Value} {below : List Frame} {meth : Method} {c : Code} (C : GC base D cA p s m args meth c cX9_set 4 RX9) (hr : meth.sig.returnType = (some .int)) {X : Int32 × Hp} : ∀ (v0 : Nat) (v1 : Int32) (v2 : Int32) (h : Hp), s_X9_set_J42 v0 v1 v2 h = some X → GW base D cA p l e rm_X9_set s m args below meth c (MQ below (QcI base D cA X.1 X.2) args s 0 0 (AA base)) 4 h 0 0 42 [(0, .ref (base + v0)), (1, .int v1), (2, .int v2)] [] := by
  intro v0 v1 v2 h E
  unfold s_X9_set_J42 at E
  refine g_aload_n C 0 dX9_set_42 rfl rfl ?_
  refine g_getR C dX9_set_43 fl_X9_7 rfl E (fun x1 E => ?_)
  refine g_iconst C 3 dX9_set_46 rfl ?_
  refine g_iload_n C 1 dX9_set_47 rfl rfl ?_
  refine g_iadd C dX9_set_48 ?_
  refine g_iald C dX9_set_49 E (fun x2 E => ?_)
  refine g_istore_n C (lv' := [(3, .int x2), (0, .ref (base + v0)), (1, .int v1), (2, .int v2)]) dX9_set_50 rfl (by decide) rfl ?_
  refine g_iload_n C 0 dX9_set_51 rfl rfl ?_
  refine g_iload_n C 3 dX9_set_52 rfl rfl ?_
  refine g_icmp_ne C 59 dX9_set_53 (by decide) E (fun E => ?_) (fun E => ?_)
  · refine g_aload_n C 1 dX9_set_59 rfl rfl ?_
    refine g_invU C (q := (RX9, TX9, 13)) [] dX9_set_60 cl_X9_60 cv_X9_record rfl (by decide) rfl rfl ⟨Nat.le_of_ble_eq_true rfl, Nat.le_of_ble_eq_true rfl⟩ (Nat.le_of_ble_eq_true rfl) ⟨Nat.le_of_ble_eq_true rfl, Nat.le_of_ble_eq_true rfl⟩ rfl (fun r' h' E => o_X9_record l base D cA v0 h r' h' E) E (fun x3 h4 E => ?_)
    refine g_aload_n C 1 dX9_set_63 rfl rfl ?_
    refine g_getR C dX9_set_64 fl_X9_7 rfl E (fun x5 E => ?_)
    refine g_iconst C 3 dX9_set_67 rfl ?_
    refine g_iload_n C 2 dX9_set_68 rfl rfl ?_
    refine g_iadd C dX9_set_69 ?_
    refine g_iload_n C 3 dX9_set_70 rfl rfl ?_
    refine g_iast C dX9_set_71 E (fun h6 E => ?_)
    refine g_iload_n C 0 dX9_set_72 rfl rfl ?_
    exact g_iret C dX9_set_73 hr E
  · refine g_bipush C (-5) dX9_set_56 rfl ?_
    exact g_iret C dX9_set_58 hr E
set_option maxRecDepth 100000 in
set_option maxHeartbeats 4000000 in
theorem o_X9_set_J26 {l : Launch} {base : Nat} {D : va_G} {cA : Nat → ClassId} {p : Program} {e : Env} {s : State} {m : MethodId} {args : Array Value} {below : List Frame} {meth : Method} {c : Code} (C : GC base D cA p s m args meth c cX9_set 4 RX9) (hr : meth.sig.returnType = (some .int)) {X : Int32 × Hp} : ∀ (v0 : Nat) (v1 : Int32) (v2 : Int32) (h : Hp), s_X9_set_J26 v0 v1 v2 h = some X → GW base D cA p l e rm_X9_set s m args below meth c (MQ below (QcI base D cA X.1 X.2) args s 0 0 (AA base)) 4 h 0 0 26 [(0, .ref (base + v0)), (1, .int v1), (2, .int v2)] [] := by
  intro v0 v1 v2 h E
  unfold s_X9_set_J26 at E
  refine g_iload_n C 1 dX9_set_26 rfl rfl ?_
  refine g_iconst C 3 dX9_set_27 rfl ?_
  refine g_icmp_ne C 42 dX9_set_28 (by decide) E (fun E => ?_) (fun E => ?_)
  · refine g_sub (lv' := [(0, .ref (base + v0)), (1, .int v1), (2, .int v2)]) [0, 1, 2] rfl ?_
    exact o_X9_set_J42 C hr v0 v1 v2 h E
  · refine g_aload_n C 0 dX9_set_31 rfl rfl ?_
    refine g_iload_n C 2 dX9_set_32 rfl rfl ?_
    refine g_invI C (q := (RX9, TX9, 13)) [.int v2] dX9_set_33 cl_X9_75 cv_X9_isTooHot rfl (by decide) rfl rfl ⟨Nat.le_of_ble_eq_true rfl, Nat.le_of_ble_eq_true rfl⟩ (Nat.le_of_ble_eq_true rfl) ⟨Nat.le_of_ble_eq_true rfl, Nat.le_of_ble_eq_true rfl⟩ rfl (fun r' h' E => o_X9_isTooHot l base D cA v0 v2 h r' h' E) E (fun x1 h2 E => ?_)
    refine g_if_eq C 42 dX9_set_36 (by decide) E (fun E => ?_) (fun E => ?_)
    · refine g_sub (lv' := [(0, .ref (base + v0)), (1, .int v1), (2, .int v2)]) [0, 1, 2] rfl ?_
      exact o_X9_set_J42 C hr v0 v1 v2 h2 E
    · refine g_bipush C (-4) dX9_set_39 rfl ?_
      exact g_iret C dX9_set_41 hr E
set_option maxRecDepth 100000 in
set_option maxHeartbeats 4000000 in
theorem o_X9_set (l : Launch) (base : Nat) (D : va_G) (cA : Nat → ClassId) (a0 : Nat) (a1 : Int32) (a2 : Int32) (h : Hp) (r : Int32) (h' : Hp) (E : s_X9_set a0 a1 a2 h = some (r, h')) : Met l yX9_set (.code yX9_set cX9_set 4 (some .int) :: wsA) rm_X9_set (PcG base D cA [.ref (base + a0), .int a1, .int a2] h) (QcI base D cA r h') 0 0 (AA base) := by
  refine g_met [.ref (base + a0), .int a1, .int a2] (by decide) (Nat.le_of_ble_eq_true rfl) (fun p e s m args below meth c C hr hn => ?_)
  refine g_lv (lv' := [(0, .ref (base + a0)), (1, .int a1), (2, .int a2)]) rfl ?_
  unfold s_X9_set at E
  refine g_iload_n C 1 dX9_set_0 rfl rfl ?_
  refine g_iload_n C 2 dX9_set_1 rfl rfl ?_
  refine g_staI C [.int a1, .int a2] dX9_set_2 cl_X9_71 cs_X9_isSetting rfl rfl ⟨Nat.le_of_ble_eq_true rfl, Nat.le_of_ble_eq_true rfl⟩ (Nat.le_of_ble_eq_true rfl) ⟨Nat.le_of_ble_eq_true rfl, Nat.le_of_ble_eq_true rfl⟩ rfl (fun r' h' E => o_X9_isSetting l base D cA a1 a2 h r' h' E) E (fun x1 h2 E => ?_)
  refine g_if_ne C 11 dX9_set_5 (by decide) E (fun E => ?_) (fun E => ?_)
  · refine g_iload_n C 1 dX9_set_11 rfl rfl ?_
    refine g_if_ne C 26 dX9_set_12 (by decide) E (fun E => ?_) (fun E => ?_)
    · refine g_sub (lv' := [(0, .ref (base + a0)), (1, .int a1), (2, .int a2)]) [0, 1, 2] rfl ?_
      exact o_X9_set_J26 C hr a0 a1 a2 h2 E
    · refine g_aload_n C 0 dX9_set_15 rfl rfl ?_
      refine g_getR C dX9_set_16 fl_X9_7 rfl E (fun x3 E => ?_)
      refine g_bipush C 7 dX9_set_19 rfl ?_
      refine g_iald C dX9_set_21 E (fun x4 E => ?_)
      refine g_iload_n C 2 dX9_set_22 rfl rfl ?_
      refine g_icmp_gt C 39 dX9_set_23 (by decide) E (fun E => ?_) (fun E => ?_)
      · refine g_bipush C (-4) dX9_set_39 rfl ?_
        exact g_iret C dX9_set_41 hr E
      · refine g_sub (lv' := [(0, .ref (base + a0)), (1, .int a1), (2, .int a2)]) [0, 1, 2] rfl ?_
        exact o_X9_set_J26 C hr a0 a1 a2 h2 E
  · refine g_bipush C (-2) dX9_set_8 rfl ?_
    exact g_iret C dX9_set_10 hr E
