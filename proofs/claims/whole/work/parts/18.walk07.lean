abbrev rm_X9_power : Room := { frames := 2, cells := 0, slots := 0, locals := 45 }
def s_X9_power_L36 : Nat → Nat → Int32 → Int32 → Hp → Rv Int32
  | 0, _, _, _, _ => none
  | n + 1, v0, v1, v3, h =>
    getR h v0 9 0 fun x4 =>
  ldI h x4 20 2 fun x5 =>
  if x5 ≤ v3 then inv h v0 9 (s_X9_washersIn v0 1 h) fun x6 h =>
  retI x6 h
  else if v1 = 0 then inv h v0 9 (s_X9_washersIn v0 1 h) fun x7 h =>
  retI x7 h
  else inv h v0 9 (s_X9_runs v0 v3 h) fun x8 h =>
  if x8 = 0 then s_X9_power_L36 n v0 v1 (v3 + 1) h
  else inv h v0 9 (s_X9_kindOf v0 v3 h) fun x9 h =>
  if x9 = 115 then inv h v0 9 (s_X9_setPart v0 v3 14 0 h) fun _ h =>
  s_X9_power_L36 n v0 v1 (v3 + 1) h
  else s_X9_power_L36 n v0 v1 (v3 + 1) h
def s_X9_power_J9 (v0 : Nat) (v1 : Int32) (w0 : Int32) (h : Hp) : Rv Int32 :=
  getR h v0 9 0 fun x1 =>
  ldI h x1 20 1 fun x2 =>
  if x2 = w0 then retI (-5) h
  else inv h v0 9 (s_X9_record v0 h) fun _ h =>
  getR h v0 9 0 fun x3 =>
  stI h x3 20 1 w0 fun h =>
  s_X9_power_L36 100000 v0 v1 0 h
def s_X9_power (a0 : Nat) (a1 : Int32) (h : Hp) : Rv Int32 :=
  if a1 = 0 then s_X9_power_J9 a0 a1 0 h
  else s_X9_power_J9 a0 a1 1 h
set_option maxRecDepth 100000 in
set_option maxHeartbeats 4000000 in
theorem o_X9_power_L36 {l : Launch} {base : Nat} {D : va_G} {cA : Nat → ClassId} {p : Program} {e : Env} {s : State} {m : MethodId} {args : Array Value} {below : List Frame} {meth : Method} {c : Code} (C : GC base D cA p s m args meth c cX9_power 4 RX9) (hr : meth.sig.returnType = (some .int)) {X : Int32 × Hp} : ∀ (n : Nat) (v0 : Nat) (v1 : Int32) (v3 : Int32) (h : Hp), s_X9_power_L36 n v0 v1 v3 h = some X → GW base D cA p l e rm_X9_power s m args below meth c (MQ below (QcI base D cA X.1 X.2) args s 0 0 (AA base)) 4 h 0 0 36 [(0, .ref (base + v0)), (1, .int v1), (3, .int v3)] [] := by
  intro n
  induction n with
  | zero =>
    intro v0 v1 v3 h E
    rw [s_X9_power_L36] at E
    cases E
  | succ n ih =>
    intro v0 v1 v3 h E
    rw [s_X9_power_L36] at E
    refine g_iload_n C 2 dX9_power_36 rfl rfl ?_
    refine g_aload_n C 0 dX9_power_37 rfl rfl ?_
    refine g_getR C dX9_power_38 fl_X9_7 rfl E (fun x1 E => ?_)
    refine g_iconst C 2 dX9_power_41 rfl ?_
    refine g_iald C dX9_power_42 E (fun x2 E => ?_)
    refine g_icmp_ge C 82 dX9_power_43 (by decide) E (fun E => ?_) (fun E => ?_)
    · refine g_aload_n C 0 dX9_power_82 rfl rfl ?_
      refine g_iconst C 1 dX9_power_83 rfl ?_
      refine g_invI C (q := (RX9, TX9, 13)) [.int 1] dX9_power_84 cl_X9_85 cv_X9_washersIn rfl (by decide) rfl rfl ⟨Nat.le_of_ble_eq_true rfl, Nat.le_of_ble_eq_true rfl⟩ (Nat.le_of_ble_eq_true rfl) ⟨Nat.le_of_ble_eq_true rfl, Nat.le_of_ble_eq_true rfl⟩ rfl (fun r' h' E => o_X9_washersIn l base D cA v0 1 h r' h' E) E (fun x3 h4 E => ?_)
      exact g_iret C dX9_power_87 hr E
    · refine g_iload_n C 1 dX9_power_46 rfl rfl ?_
      refine g_if_eq C 82 dX9_power_47 (by decide) E (fun E => ?_) (fun E => ?_)
      · refine g_aload_n C 0 dX9_power_82 rfl rfl ?_
        refine g_iconst C 1 dX9_power_83 rfl ?_
        refine g_invI C (q := (RX9, TX9, 13)) [.int 1] dX9_power_84 cl_X9_85 cv_X9_washersIn rfl (by decide) rfl rfl ⟨Nat.le_of_ble_eq_true rfl, Nat.le_of_ble_eq_true rfl⟩ (Nat.le_of_ble_eq_true rfl) ⟨Nat.le_of_ble_eq_true rfl, Nat.le_of_ble_eq_true rfl⟩ rfl (fun r' h' E => o_X9_washersIn l base D cA v0 1 h r' h' E) E (fun x5 h6 E => ?_)
        exact g_iret C dX9_power_87 hr E
      · refine g_aload_n C 0 dX9_power_50 rfl rfl ?_
        refine g_iload_n C 2 dX9_power_51 rfl rfl ?_
        refine g_invI C (q := (RX9, TX9, 13)) [.int v3] dX9_power_52 cl_X9_79 cv_X9_runs rfl (by decide) rfl rfl ⟨Nat.le_of_ble_eq_true rfl, Nat.le_of_ble_eq_true rfl⟩ (Nat.le_of_ble_eq_true rfl) ⟨Nat.le_of_ble_eq_true rfl, Nat.le_of_ble_eq_true rfl⟩ rfl (fun r' h' E => o_X9_runs l base D cA v0 v3 h r' h' E) E (fun x7 h8 E => ?_)
        refine g_if_eq C 76 dX9_power_55 (by decide) E (fun E => ?_) (fun E => ?_)
        · refine g_iinc C (lv' := [(3, .int (v3 + 1)), (0, .ref (base + v0)), (1, .int v1)]) 2 1 dX9_power_76 rfl rfl (by decide) rfl ?_
          refine g_goto C 36 dX9_power_79 (by decide) ?_
          refine g_sub (lv' := [(0, .ref (base + v0)), (1, .int v1), (3, .int (v3 + 1))]) [1, 2, 0] rfl ?_
          exact ih v0 v1 (v3 + 1) h8 E
        · refine g_aload_n C 0 dX9_power_58 rfl rfl ?_
          refine g_iload_n C 2 dX9_power_59 rfl rfl ?_
          refine g_invI C (q := (RX9, TX9, 13)) [.int v3] dX9_power_60 cl_X9_82 cv_X9_kindOf rfl (by decide) rfl rfl ⟨Nat.le_of_ble_eq_true rfl, Nat.le_of_ble_eq_true rfl⟩ (Nat.le_of_ble_eq_true rfl) ⟨Nat.le_of_ble_eq_true rfl, Nat.le_of_ble_eq_true rfl⟩ rfl (fun r' h' E => o_X9_kindOf l base D cA v0 v3 h8 r' h' E) E (fun x9 h10 E => ?_)
          refine g_bipush C 115 dX9_power_63 rfl ?_
          refine g_icmp_ne C 76 dX9_power_65 (by decide) E (fun E => ?_) (fun E => ?_)
          · refine g_iinc C (lv' := [(3, .int (v3 + 1)), (0, .ref (base + v0)), (1, .int v1)]) 2 1 dX9_power_76 rfl rfl (by decide) rfl ?_
            refine g_goto C 36 dX9_power_79 (by decide) ?_
            refine g_sub (lv' := [(0, .ref (base + v0)), (1, .int v1), (3, .int (v3 + 1))]) [1, 2, 0] rfl ?_
            exact ih v0 v1 (v3 + 1) h10 E
          · refine g_aload_n C 0 dX9_power_68 rfl rfl ?_
            refine g_iload_n C 2 dX9_power_69 rfl rfl ?_
            refine g_bipush C 14 dX9_power_70 rfl ?_
            refine g_iconst C 0 dX9_power_72 rfl ?_
            refine g_invU C (q := (RX9, TX9, 13)) [.int v3, .int 14, .int 0] dX9_power_73 cl_X9_63 cv_X9_setPart rfl (by decide) rfl rfl ⟨Nat.le_of_ble_eq_true rfl, Nat.le_of_ble_eq_true rfl⟩ (Nat.le_of_ble_eq_true rfl) ⟨Nat.le_of_ble_eq_true rfl, Nat.le_of_ble_eq_true rfl⟩ rfl (fun r' h' E => o_X9_setPart l base D cA v0 v3 14 0 h10 r' h' E) E (fun x11 h12 E => ?_)
            refine g_iinc C (lv' := [(3, .int (v3 + 1)), (0, .ref (base + v0)), (1, .int v1)]) 2 1 dX9_power_76 rfl rfl (by decide) rfl ?_
            refine g_goto C 36 dX9_power_79 (by decide) ?_
            refine g_sub (lv' := [(0, .ref (base + v0)), (1, .int v1), (3, .int (v3 + 1))]) [1, 2, 0] rfl ?_
            exact ih v0 v1 (v3 + 1) h12 E
set_option maxRecDepth 100000 in
set_option maxHeartbeats 4000000 in
theorem o_X9_power_J9 {l : Launch} {base : Nat} {D : va_G} {cA : Nat → ClassId} {p : Program} {e : Env} {s : State} {m : MethodId} {args : Array Value} {below : List Frame} {meth : Method} {c : Code} (C : GC base D cA p s m args meth c cX9_power 4 RX9) (hr : meth.sig.returnType = (some .int)) {X : Int32 × Hp} : ∀ (v0 : Nat) (v1 : Int32) (w0 : Int32) (h : Hp), s_X9_power_J9 v0 v1 w0 h = some X → GW base D cA p l e rm_X9_power s m args below meth c (MQ below (QcI base D cA X.1 X.2) args s 0 0 (AA base)) 4 h 0 0 9 [(0, .ref (base + v0)), (1, .int v1)] [.int w0] := by
  intro v0 v1 w0 h E
  unfold s_X9_power_J9 at E
  refine g_istore_n C (lv' := [(2, .int w0), (0, .ref (base + v0)), (1, .int v1)]) dX9_power_9 rfl (by decide) rfl ?_
  refine g_aload_n C 1 dX9_power_10 rfl rfl ?_
  refine g_getR C dX9_power_11 fl_X9_7 rfl E (fun x1 E => ?_)
  refine g_iconst C 1 dX9_power_14 rfl ?_
  refine g_iald C dX9_power_15 E (fun x2 E => ?_)
  refine g_iload_n C 0 dX9_power_16 rfl rfl ?_
  refine g_icmp_ne C 23 dX9_power_17 (by decide) E (fun E => ?_) (fun E => ?_)
  · refine g_aload_n C 1 dX9_power_23 rfl rfl ?_
    refine g_invU C (q := (RX9, TX9, 13)) [] dX9_power_24 cl_X9_60 cv_X9_record rfl (by decide) rfl rfl ⟨Nat.le_of_ble_eq_true rfl, Nat.le_of_ble_eq_true rfl⟩ (Nat.le_of_ble_eq_true rfl) ⟨Nat.le_of_ble_eq_true rfl, Nat.le_of_ble_eq_true rfl⟩ rfl (fun r' h' E => o_X9_record l base D cA v0 h r' h' E) E (fun x3 h4 E => ?_)
    refine g_aload_n C 1 dX9_power_27 rfl rfl ?_
    refine g_getR C dX9_power_28 fl_X9_7 rfl E (fun x5 E => ?_)
    refine g_iconst C 1 dX9_power_31 rfl ?_
    refine g_iload_n C 0 dX9_power_32 rfl rfl ?_
    refine g_iast C dX9_power_33 E (fun h6 E => ?_)
    refine g_iconst C 0 dX9_power_34 rfl ?_
    refine g_istore_n C (lv' := [(3, .int 0), (2, .int w0), (0, .ref (base + v0)), (1, .int v1)]) dX9_power_35 rfl (by decide) rfl ?_
    refine g_sub (lv' := [(0, .ref (base + v0)), (1, .int v1), (3, .int 0)]) [2, 3, 0] rfl ?_
    exact o_X9_power_L36 C hr _ v0 v1 0 h6 E
  · refine g_bipush C (-5) dX9_power_20 rfl ?_
    exact g_iret C dX9_power_22 hr E
set_option maxRecDepth 100000 in
set_option maxHeartbeats 4000000 in
theorem o_X9_power (l : Launch) (base : Nat) (D : va_G) (cA : Nat → ClassId) (a0 : Nat) (a1 : Int32) (h : Hp) (r : Int32) (h' : Hp) (E : s_X9_power a0 a1 h = some (r, h')) : Met l yX9_power (.code yX9_power cX9_power 4 (some .int) :: wsA) rm_X9_power (PcG base D cA [.ref (base + a0), .int a1] h) (QcI base D cA r h') 0 0 (AA base) := by
  refine g_met [.ref (base + a0), .int a1] (by decide) (Nat.le_of_ble_eq_true rfl) (fun p e s m args below meth c C hr hn => ?_)
  refine g_lv (lv' := [(0, .ref (base + a0)), (1, .int a1)]) rfl ?_
  unfold s_X9_power at E
  refine g_iload_n C 1 dX9_power_0 rfl rfl ?_
  refine g_if_eq C 8 dX9_power_1 (by decide) E (fun E => ?_) (fun E => ?_)
  · refine g_iconst C 0 dX9_power_8 rfl ?_
    refine g_sub (lv' := [(0, .ref (base + a0)), (1, .int a1)]) [0, 1] rfl ?_
    exact o_X9_power_J9 C hr a0 a1 0 h E
  · refine g_iconst C 1 dX9_power_4 rfl ?_
    refine g_goto C 9 dX9_power_5 (by decide) ?_
    refine g_sub (lv' := [(0, .ref (base + a0)), (1, .int a1)]) [0, 1] rfl ?_
    exact o_X9_power_J9 C hr a0 a1 1 h E
abbrev rm_X9_wantOf : Room := { frames := 2, cells := 0, slots := 0, locals := 43 }
def s_X9_wantOf (a0 : Nat) (a1 : Int32) (h : Hp) : Rv Int32 :=
  inv h a0 9 (s_X9_runs a0 a1 h) fun x1 h =>
  if x1 = 0 then retI 0 h
  else inv h a0 9 (s_X9_kindOf a0 a1 h) fun x2 h =>
  if x2 = 104 then inv h a0 9 (s_X9_part a0 a1 11 h) fun x3 h =>
  if x3 = 0 then retI 0 h
  else inv h a0 9 (s_X9_part a0 a1 11 h) fun x4 h =>
  inv h a0 9 (s_X9_numberOf a0 a1 h) fun x5 h =>
  inv h a0 9 (s_X9_part a0 a1 12 h) fun x6 h =>
  if 0 ≤ (((4 * x4) * x5) - x6) then if (((4 * x4) * x5) - x6) ≤ 250 then retI (((4 * x4) * x5) - x6) h
  else retI 250 h
  else retI 0 h
  else retI 0 h
set_option maxRecDepth 100000 in
set_option maxHeartbeats 4000000 in
theorem o_X9_wantOf (l : Launch) (base : Nat) (D : va_G) (cA : Nat → ClassId) (a0 : Nat) (a1 : Int32) (h : Hp) (r : Int32) (h' : Hp) (E : s_X9_wantOf a0 a1 h = some (r, h')) : Met l yX9_wantOf (.code yX9_wantOf cX9_wantOf 3 (some .int) :: wsA) rm_X9_wantOf (PcG base D cA [.ref (base + a0), .int a1] h) (QcI base D cA r h') 0 0 (AA base) := by
  refine g_met [.ref (base + a0), .int a1] (by decide) (Nat.le_of_ble_eq_true rfl) (fun p e s m args below meth c C hr hn => ?_)
  refine g_lv (lv' := [(0, .ref (base + a0)), (1, .int a1)]) rfl ?_
  unfold s_X9_wantOf at E
  refine g_aload_n C 0 dX9_wantOf_0 rfl rfl ?_
  refine g_iload_n C 1 dX9_wantOf_1 rfl rfl ?_
  refine g_invI C (q := (RX9, TX9, 13)) [.int a1] dX9_wantOf_2 cl_X9_79 cv_X9_runs rfl (by decide) rfl rfl ⟨Nat.le_of_ble_eq_true rfl, Nat.le_of_ble_eq_true rfl⟩ (Nat.le_of_ble_eq_true rfl) ⟨Nat.le_of_ble_eq_true rfl, Nat.le_of_ble_eq_true rfl⟩ rfl (fun r' h' E => o_X9_runs l base D cA a0 a1 h r' h' E) E (fun x1 h2 E => ?_)
  refine g_if_eq C 28 dX9_wantOf_5 (by decide) E (fun E => ?_) (fun E => ?_)
  · refine g_iconst C 0 dX9_wantOf_28 rfl ?_
    exact g_iret C dX9_wantOf_29 hr E
  · refine g_aload_n C 0 dX9_wantOf_8 rfl rfl ?_
    refine g_iload_n C 1 dX9_wantOf_9 rfl rfl ?_
    refine g_invI C (q := (RX9, TX9, 13)) [.int a1] dX9_wantOf_10 cl_X9_82 cv_X9_kindOf rfl (by decide) rfl rfl ⟨Nat.le_of_ble_eq_true rfl, Nat.le_of_ble_eq_true rfl⟩ (Nat.le_of_ble_eq_true rfl) ⟨Nat.le_of_ble_eq_true rfl, Nat.le_of_ble_eq_true rfl⟩ rfl (fun r' h' E => o_X9_kindOf l base D cA a0 a1 h2 r' h' E) E (fun x3 h4 E => ?_)
    refine g_bipush C 104 dX9_wantOf_13 rfl ?_
    refine g_icmp_ne C 28 dX9_wantOf_15 (by decide) E (fun E => ?_) (fun E => ?_)
    · refine g_iconst C 0 dX9_wantOf_28 rfl ?_
      exact g_iret C dX9_wantOf_29 hr E
    · refine g_aload_n C 0 dX9_wantOf_18 rfl rfl ?_
      refine g_iload_n C 1 dX9_wantOf_19 rfl rfl ?_
      refine g_bipush C 11 dX9_wantOf_20 rfl ?_
      refine g_invI C (q := (RX9, TX9, 13)) [.int a1, .int 11] dX9_wantOf_22 cl_X9_49 cv_X9_part rfl (by decide) rfl rfl ⟨Nat.le_of_ble_eq_true rfl, Nat.le_of_ble_eq_true rfl⟩ (Nat.le_of_ble_eq_true rfl) ⟨Nat.le_of_ble_eq_true rfl, Nat.le_of_ble_eq_true rfl⟩ rfl (fun r' h' E => o_X9_part l base D cA a0 a1 11 h4 r' h' E) E (fun x5 h6 E => ?_)
      refine g_if_ne C 30 dX9_wantOf_25 (by decide) E (fun E => ?_) (fun E => ?_)
      · refine g_iconst C 4 dX9_wantOf_30 rfl ?_
        refine g_aload_n C 0 dX9_wantOf_31 rfl rfl ?_
        refine g_iload_n C 1 dX9_wantOf_32 rfl rfl ?_
        refine g_bipush C 11 dX9_wantOf_33 rfl ?_
        refine g_invI C (q := (RX9, TX9, 13)) [.int a1, .int 11] dX9_wantOf_35 cl_X9_49 cv_X9_part rfl (by decide) rfl rfl ⟨Nat.le_of_ble_eq_true rfl, Nat.le_of_ble_eq_true rfl⟩ (Nat.le_of_ble_eq_true rfl) ⟨Nat.le_of_ble_eq_true rfl, Nat.le_of_ble_eq_true rfl⟩ rfl (fun r' h' E => o_X9_part l base D cA a0 a1 11 h6 r' h' E) E (fun x7 h8 E => ?_)
        refine g_imul C dX9_wantOf_38 ?_
        refine g_aload_n C 0 dX9_wantOf_39 rfl rfl ?_
        refine g_iload_n C 1 dX9_wantOf_40 rfl rfl ?_
        refine g_invI C (q := (RX9, TX9, 13)) [.int a1] dX9_wantOf_41 cl_X9_88 cv_X9_numberOf rfl (by decide) rfl rfl ⟨Nat.le_of_ble_eq_true rfl, Nat.le_of_ble_eq_true rfl⟩ (Nat.le_of_ble_eq_true rfl) ⟨Nat.le_of_ble_eq_true rfl, Nat.le_of_ble_eq_true rfl⟩ rfl (fun r' h' E => o_X9_numberOf l base D cA a0 a1 h8 r' h' E) E (fun x9 h10 E => ?_)
        refine g_imul C dX9_wantOf_44 ?_
        refine g_aload_n C 0 dX9_wantOf_45 rfl rfl ?_
        refine g_iload_n C 1 dX9_wantOf_46 rfl rfl ?_
        refine g_bipush C 12 dX9_wantOf_47 rfl ?_
        refine g_invI C (q := (RX9, TX9, 13)) [.int a1, .int 12] dX9_wantOf_49 cl_X9_49 cv_X9_part rfl (by decide) rfl rfl ⟨Nat.le_of_ble_eq_true rfl, Nat.le_of_ble_eq_true rfl⟩ (Nat.le_of_ble_eq_true rfl) ⟨Nat.le_of_ble_eq_true rfl, Nat.le_of_ble_eq_true rfl⟩ rfl (fun r' h' E => o_X9_part l base D cA a0 a1 12 h10 r' h' E) E (fun x11 h12 E => ?_)
        refine g_isub C dX9_wantOf_52 ?_
        refine g_istore_n C (lv' := [(2, .int (((4 * x7) * x9) - x11)), (0, .ref (base + a0)), (1, .int a1)]) dX9_wantOf_53 rfl (by decide) rfl ?_
        refine g_iload_n C 0 dX9_wantOf_54 rfl rfl ?_
        refine g_if_ge C 62 dX9_wantOf_55 (by decide) E (fun E => ?_) (fun E => ?_)
        · refine g_iload_n C 0 dX9_wantOf_62 rfl rfl ?_
          refine g_sipush C 250 dX9_wantOf_63 rfl ?_
          refine g_icmp_le C 75 dX9_wantOf_66 (by decide) E (fun E => ?_) (fun E => ?_)
          · refine g_iload_n C 0 dX9_wantOf_75 rfl rfl ?_
            exact g_iret C dX9_wantOf_76 hr E
          · refine g_sipush C 250 dX9_wantOf_69 rfl ?_
            refine g_goto C 76 dX9_wantOf_72 (by decide) ?_
            exact g_iret C dX9_wantOf_76 hr E
        · refine g_iconst C 0 dX9_wantOf_58 rfl ?_
          refine g_goto C 76 dX9_wantOf_59 (by decide) ?_
          exact g_iret C dX9_wantOf_76 hr E
      · refine g_iconst C 0 dX9_wantOf_28 rfl ?_
        exact g_iret C dX9_wantOf_29 hr E
abbrev rm_X9_wantingShares : Room := { frames := 3, cells := 0, slots := 0, locals := 68 }
def s_X9_wantingShares_L4 : Nat → Nat → Int32 → Int32 → Hp → Rv Int32
  | 0, _, _, _, _ => none
  | n + 1, v0, v1, v2, h =>
    getR h v0 9 0 fun x1 =>
  ldI h x1 20 2 fun x2 =>
  if x2 ≤ v2 then retI v1 h
  else getR h v0 9 9 fun x3 =>
  ldI h x3 20 v2 fun x4 =>
  getR h v0 9 8 fun x5 =>
  ldI h x5 20 v2 fun x6 =>
  if x6 ≤ x4 then s_X9_wantingShares_L4 n v0 (v1 + 0) (v2 + 1) h
  else inv h v0 9 (s_X9_sharesOf v0 v2 h) fun x7 h =>
  s_X9_wantingShares_L4 n v0 (v1 + x7) (v2 + 1) h
def s_X9_wantingShares (a0 : Nat) (h : Hp) : Rv Int32 :=
  s_X9_wantingShares_L4 100000 a0 0 0 h
set_option maxRecDepth 100000 in
set_option maxHeartbeats 4000000 in
theorem o_X9_wantingShares_L4 {l : Launch} {base : Nat} {D : va_G} {cA : Nat → ClassId} {p : Program} {e : Env} {s : State} {m : MethodId} {args : Array Value} {below : List Frame} {meth : Method} {c : Code} (C : GC base D cA p s m args meth c cX9_wantingShares 3 RX9) (hr : meth.sig.returnType = (some .int)) {X : Int32 × Hp} : ∀ (n : Nat) (v0 : Nat) (v1 : Int32) (v2 : Int32) (h : Hp), s_X9_wantingShares_L4 n v0 v1 v2 h = some X → GW base D cA p l e rm_X9_wantingShares s m args below meth c (MQ below (QcI base D cA X.1 X.2) args s 0 0 (AA base)) 3 h 0 0 4 [(0, .ref (base + v0)), (1, .int v1), (2, .int v2)] [] := by
  intro n
  induction n with
  | zero =>
    intro v0 v1 v2 h E
    rw [s_X9_wantingShares_L4] at E
    cases E
  | succ n ih =>
    intro v0 v1 v2 h E
    rw [s_X9_wantingShares_L4] at E
    refine g_iload_n C 2 dX9_wantingShares_4 rfl rfl ?_
    refine g_aload_n C 0 dX9_wantingShares_5 rfl rfl ?_
    refine g_getR C dX9_wantingShares_6 fl_X9_7 rfl E (fun x1 E => ?_)
    refine g_iconst C 2 dX9_wantingShares_9 rfl ?_
    refine g_iald C dX9_wantingShares_10 E (fun x2 E => ?_)
    refine g_icmp_ge C 47 dX9_wantingShares_11 (by decide) E (fun E => ?_) (fun E => ?_)
    · refine g_iload_n C 1 dX9_wantingShares_47 rfl rfl ?_
      exact g_iret C dX9_wantingShares_48 hr E
    · refine g_iload_n C 1 dX9_wantingShares_14 rfl rfl ?_
      refine g_aload_n C 0 dX9_wantingShares_15 rfl rfl ?_
      refine g_getR C dX9_wantingShares_16 fl_X9_28 rfl E (fun x3 E => ?_)
      refine g_iload_n C 2 dX9_wantingShares_19 rfl rfl ?_
      refine g_iald C dX9_wantingShares_20 E (fun x4 E => ?_)
      refine g_aload_n C 0 dX9_wantingShares_21 rfl rfl ?_
      refine g_getR C dX9_wantingShares_22 fl_X9_25 rfl E (fun x5 E => ?_)
      refine g_iload_n C 2 dX9_wantingShares_25 rfl rfl ?_
      refine g_iald C dX9_wantingShares_26 E (fun x6 E => ?_)
      refine g_icmp_ge C 38 dX9_wantingShares_27 (by decide) E (fun E => ?_) (fun E => ?_)
      · refine g_iconst C 0 dX9_wantingShares_38 rfl ?_
        refine g_iadd C dX9_wantingShares_39 ?_
        refine g_istore_n C (lv' := [(1, .int (v1 + 0)), (0, .ref (base + v0)), (2, .int v2)]) dX9_wantingShares_40 rfl (by decide) rfl ?_
        refine g_iinc C (lv' := [(2, .int (v2 + 1)), (1, .int (v1 + 0)), (0, .ref (base + v0))]) 2 1 dX9_wantingShares_41 rfl rfl (by decide) rfl ?_
        refine g_goto C 4 dX9_wantingShares_44 (by decide) ?_
        refine g_sub (lv' := [(0, .ref (base + v0)), (1, .int (v1 + 0)), (2, .int (v2 + 1))]) [2, 1, 0] rfl ?_
        exact ih v0 (v1 + 0) (v2 + 1) h E
      · refine g_aload_n C 0 dX9_wantingShares_30 rfl rfl ?_
        refine g_iload_n C 2 dX9_wantingShares_31 rfl rfl ?_
        refine g_invI C (q := (RX9, TX9, 13)) [.int v2] dX9_wantingShares_32 cl_X9_91 cv_X9_sharesOf rfl (by decide) rfl rfl ⟨Nat.le_of_ble_eq_true rfl, Nat.le_of_ble_eq_true rfl⟩ (Nat.le_of_ble_eq_true rfl) ⟨Nat.le_of_ble_eq_true rfl, Nat.le_of_ble_eq_true rfl⟩ rfl (fun r' h' E => o_X9_sharesOf l base D cA v0 v2 h r' h' E) E (fun x7 h8 E => ?_)
        refine g_goto C 39 dX9_wantingShares_35 (by decide) ?_
        refine g_iadd C dX9_wantingShares_39 ?_
        refine g_istore_n C (lv' := [(1, .int (v1 + x7)), (0, .ref (base + v0)), (2, .int v2)]) dX9_wantingShares_40 rfl (by decide) rfl ?_
        refine g_iinc C (lv' := [(2, .int (v2 + 1)), (1, .int (v1 + x7)), (0, .ref (base + v0))]) 2 1 dX9_wantingShares_41 rfl rfl (by decide) rfl ?_
        refine g_goto C 4 dX9_wantingShares_44 (by decide) ?_
        refine g_sub (lv' := [(0, .ref (base + v0)), (1, .int (v1 + x7)), (2, .int (v2 + 1))]) [2, 1, 0] rfl ?_
        exact ih v0 (v1 + x7) (v2 + 1) h8 E
set_option maxRecDepth 100000 in
set_option maxHeartbeats 4000000 in
theorem o_X9_wantingShares (l : Launch) (base : Nat) (D : va_G) (cA : Nat → ClassId) (a0 : Nat) (h : Hp) (r : Int32) (h' : Hp) (E : s_X9_wantingShares a0 h = some (r, h')) : Met l yX9_wantingShares (.code yX9_wantingShares cX9_wantingShares 3 (some .int) :: wsA) rm_X9_wantingShares (PcG base D cA [.ref (base + a0)] h) (QcI base D cA r h') 0 0 (AA base) := by
  refine g_met [.ref (base + a0)] (by decide) (Nat.le_of_ble_eq_true rfl) (fun p e s m args below meth c C hr hn => ?_)
  refine g_lv (lv' := [(0, .ref (base + a0))]) rfl ?_
  unfold s_X9_wantingShares at E
  refine g_iconst C 0 dX9_wantingShares_0 rfl ?_
  refine g_istore_n C (lv' := [(1, .int 0), (0, .ref (base + a0))]) dX9_wantingShares_1 rfl (by decide) rfl ?_
  refine g_iconst C 0 dX9_wantingShares_2 rfl ?_
  refine g_istore_n C (lv' := [(2, .int 0), (1, .int 0), (0, .ref (base + a0))]) dX9_wantingShares_3 rfl (by decide) rfl ?_
  refine g_sub (lv' := [(0, .ref (base + a0)), (1, .int 0), (2, .int 0)]) [2, 1, 0] rfl ?_
  exact o_X9_wantingShares_L4 C hr _ a0 0 0 h E
abbrev rm_X9_split : Room := { frames := 4, cells := 0, slots := 0, locals := 90 }
def s_X9_split_L2 (k46 : Nat → Int32 → Hp → Rv Int32) : Nat → Nat → Int32 → Int32 → Hp → Rv Int32
  | 0, _, _, _, _ => none
  | n + 1, v0, v1, v2, h =>
    if 8 ≤ v2 then k46 v0 v1 h
  else getR h v0 9 8 fun x1 =>
  getR h v0 9 0 fun x2 =>
  ldI h x2 20 2 fun x3 =>
  if x3 ≤ v2 then stI h x1 20 v2 0 fun h =>
  getR h v0 9 9 fun x4 =>
  stI h x4 20 v2 0 fun h =>
  s_X9_split_L2 k46 n v0 v1 (v2 + 1) h
  else inv h v0 9 (s_X9_wantOf v0 v2 h) fun x5 h =>
  stI h x1 20 v2 x5 fun h =>
  getR h v0 9 9 fun x6 =>
  stI h x6 20 v2 0 fun h =>
  s_X9_split_L2 k46 n v0 v1 (v2 + 1) h
def s_X9_split_J180 (k75 : Nat → Int32 → Int32 → Int32 → Int32 → Int32 → Int32 → Hp → Rv Int32) (v0 : Nat) (v1 : Int32) (v2 : Int32) (v4 : Int32) (v5 : Int32) (v6 : Int32) (v7 : Int32) (w0 : Int32) (h : Hp) : Rv Int32 :=
  getR h v0 9 9 fun x24 =>
  ldI h x24 20 v6 fun x25 =>
  stI h x24 20 v6 (x25 + v7) fun h =>
  k75 v0 v1 (v2 - v7) w0 v4 v5 (v6 + 1) h
def s_X9_split_J166 (k75 : Nat → Int32 → Int32 → Int32 → Int32 → Int32 → Int32 → Hp → Rv Int32) (v0 : Nat) (v1 : Int32) (v2 : Int32) (v3 : Int32) (v4 : Int32) (v5 : Int32) (v6 : Int32) (w0 : Int32) (h : Hp) : Rv Int32 :=
  if v3 = (-5) then s_X9_split_J180 (fun y0 y1 y2 y3 y4 y5 y6 h => k75 y0 y1 y2 y3 y4 y5 y6 h) v0 v1 v2 v4 v5 v6 w0 v6 h
  else s_X9_split_J180 (fun y0 y1 y2 y3 y4 y5 y6 h => k75 y0 y1 y2 y3 y4 y5 y6 h) v0 v1 v2 v4 v5 v6 w0 v3 h
def s_X9_split_J124 (k75 : Nat → Int32 → Int32 → Int32 → Int32 → Int32 → Int32 → Hp → Rv Int32) (v0 : Nat) (v1 : Int32) (v2 : Int32) (v3 : Int32) (v4 : Int32) (v5 : Int32) (v6 : Int32) (w0 : Int32) (h : Hp) : Rv Int32 :=
  getR h v0 9 8 fun x16 =>
  ldI h x16 20 v6 fun x17 =>
  getR h v0 9 9 fun x18 =>
  ldI h x18 20 v6 fun x19 =>
  if (x17 - x19) ≤ w0 then getR h v0 9 8 fun x20 =>
  ldI h x20 20 v6 fun x21 =>
  getR h v0 9 9 fun x22 =>
  ldI h x22 20 v6 fun x23 =>
  s_X9_split_J166 (fun y0 y1 y2 y3 y4 y5 y6 h => k75 y0 y1 y2 y3 y4 y5 y6 h) v0 v1 v2 v3 v4 v5 v6 (x21 - x23) h
  else s_X9_split_J166 (fun y0 y1 y2 y3 y4 y5 y6 h => k75 y0 y1 y2 y3 y4 y5 y6 h) v0 v1 v2 v3 v4 v5 v6 w0 h
def s_X9_split_L75 (k204 : Nat → Int32 → Int32 → Int32 → Int32 → Hp → Rv Int32) : Nat → Nat → Int32 → Int32 → Int32 → Int32 → Int32 → Int32 → Hp → Rv Int32
  | 0, _, _, _, _, _, _, _, _ => none
  | n + 1, v0, v1, v2, v3, v4, v5, v6, h =>
    getR h v0 9 0 fun x8 =>
  ldI h x8 20 2 fun x9 =>
  if x9 ≤ v6 then k204 v0 v1 v2 v3 v5 h
  else getR h v0 9 9 fun x10 =>
  ldI h x10 20 v6 fun x11 =>
  getR h v0 9 8 fun x12 =>
  ldI h x12 20 v6 fun x13 =>
  if x13 ≤ x11 then s_X9_split_L75 k204 n v0 v1 v2 v3 v4 v5 (v6 + 1) h
  else if v4 = 0 then s_X9_split_J124 (fun y0 y1 y2 y3 y4 y5 y6 h => s_X9_split_L75 k204 n y0 y1 y2 y3 y4 y5 y6 h) v0 v1 v2 v3 v4 v5 v6 0 h
  else inv h v0 9 (s_X9_sharesOf v0 v6 h) fun x14 h =>
  divI (v5 * x14) v4 fun x15 =>
  s_X9_split_J124 (fun y0 y1 y2 y3 y4 y5 y6 h => s_X9_split_L75 k204 n y0 y1 y2 y3 y4 y5 y6 h) v0 v1 v2 v3 v4 v5 v6 x15 h
def s_X9_split_L50 : Nat → Nat → Int32 → Int32 → Int32 → Hp → Rv Int32
  | 0, _, _, _, _, _ => none
  | n + 1, v0, v1, v2, v3, h =>
    if v2 ≤ 0 then retI (v1 - v2) h
  else if v3 = (-5) then retI (v1 - v2) h
  else inv h v0 9 (s_X9_wantingShares v0 h) fun x7 h =>
  s_X9_split_L75 (fun y0 y1 y2 y3 y4 h => if y3 = (-5) then s_X9_split_L50 n y0 y1 y2 y3 h
  else if y2 = y4 then getR h y0 9 9 fun x26 =>
  ldI h x26 20 y3 fun x27 =>
  stI h x26 20 y3 (x27 + 1) fun h =>
  s_X9_split_L50 n y0 y1 (y2 + (-1)) y3 h
  else s_X9_split_L50 n y0 y1 y2 y3 h) 100000 v0 v1 v2 (-5) x7 v2 0 h
def s_X9_split (a0 : Nat) (a1 : Int32) (h : Hp) : Rv Int32 :=
  s_X9_split_L2 (fun y0 y1 h => s_X9_split_L50 100000 y0 y1 y1 0 h) 100000 a0 a1 0 h
set_option maxRecDepth 100000 in
set_option maxHeartbeats 4000000 in
theorem o_X9_split_L2 {l : Launch} {base : Nat} {D : va_G} {cA : Nat → ClassId} {p : Program} {e : Env} {s : State} {m : MethodId} {args : Array Value} {below : List Frame} {meth : Method} {c : Code} (C : GC base D cA p s m args meth c cX9_split 8 RX9) (hr : meth.sig.returnType = (some .int)) {X : Int32 × Hp} {k46 : Nat → Int32 → Hp → Rv Int32} (K46 : ∀ (y0 : Nat) (y1 : Int32) (h : Hp), k46 y0 y1 h = some X → GW base D cA p l e rm_X9_split s m args below meth c (MQ below (QcI base D cA X.1 X.2) args s 0 0 (AA base)) 8 h 0 0 46 [(0, .ref (base + y0)), (1, .int y1)] []) : ∀ (n : Nat) (v0 : Nat) (v1 : Int32) (v2 : Int32) (h : Hp), s_X9_split_L2 k46 n v0 v1 v2 h = some X → GW base D cA p l e rm_X9_split s m args below meth c (MQ below (QcI base D cA X.1 X.2) args s 0 0 (AA base)) 8 h 0 0 2 [(0, .ref (base + v0)), (1, .int v1), (2, .int v2)] [] := by
  intro n
  induction n with
  | zero =>
    intro v0 v1 v2 h E
    rw [s_X9_split_L2] at E
    cases E
  | succ n ih =>
    intro v0 v1 v2 h E
    rw [s_X9_split_L2] at E
    refine g_iload_n C 2 dX9_split_2 rfl rfl ?_
    refine g_bipush C 8 dX9_split_3 rfl ?_
    refine g_icmp_ge C 46 dX9_split_5 (by decide) E (fun E => ?_) (fun E => ?_)
    · refine g_sub (lv' := [(0, .ref (base + v0)), (1, .int v1)]) [0, 1] rfl ?_
      exact K46 v0 v1 h E
    · refine g_aload_n C 0 dX9_split_8 rfl rfl ?_
      refine g_getR C dX9_split_9 fl_X9_25 rfl E (fun x1 E => ?_)
      refine g_iload_n C 2 dX9_split_12 rfl rfl ?_
      refine g_iload_n C 2 dX9_split_13 rfl rfl ?_
      refine g_aload_n C 0 dX9_split_14 rfl rfl ?_
      refine g_getR C dX9_split_15 fl_X9_7 rfl E (fun x2 E => ?_)
      refine g_iconst C 2 dX9_split_18 rfl ?_
      refine g_iald C dX9_split_19 E (fun x3 E => ?_)
      refine g_icmp_ge C 31 dX9_split_20 (by decide) E (fun E => ?_) (fun E => ?_)
      · refine g_iconst C 0 dX9_split_31 rfl ?_
        refine g_iast C dX9_split_32 E (fun h4 E => ?_)
        refine g_aload_n C 0 dX9_split_33 rfl rfl ?_
        refine g_getR C dX9_split_34 fl_X9_28 rfl E (fun x5 E => ?_)
        refine g_iload_n C 2 dX9_split_37 rfl rfl ?_
        refine g_iconst C 0 dX9_split_38 rfl ?_
        refine g_iast C dX9_split_39 E (fun h6 E => ?_)
        refine g_iinc C (lv' := [(2, .int (v2 + 1)), (0, .ref (base + v0)), (1, .int v1)]) 2 1 dX9_split_40 rfl rfl (by decide) rfl ?_
        refine g_goto C 2 dX9_split_43 (by decide) ?_
        refine g_sub (lv' := [(0, .ref (base + v0)), (1, .int v1), (2, .int (v2 + 1))]) [1, 2, 0] rfl ?_
        exact ih v0 v1 (v2 + 1) h6 E
      · refine g_aload_n C 0 dX9_split_23 rfl rfl ?_
        refine g_iload_n C 2 dX9_split_24 rfl rfl ?_
        refine g_invI C (q := (RX9, TX9, 13)) [.int v2] dX9_split_25 cl_X9_94 cv_X9_wantOf rfl (by decide) rfl rfl ⟨Nat.le_of_ble_eq_true rfl, Nat.le_of_ble_eq_true rfl⟩ (Nat.le_of_ble_eq_true rfl) ⟨Nat.le_of_ble_eq_true rfl, Nat.le_of_ble_eq_true rfl⟩ rfl (fun r' h' E => o_X9_wantOf l base D cA v0 v2 h r' h' E) E (fun x7 h8 E => ?_)
        refine g_goto C 32 dX9_split_28 (by decide) ?_
        refine g_iast C dX9_split_32 E (fun h9 E => ?_)
        refine g_aload_n C 0 dX9_split_33 rfl rfl ?_
        refine g_getR C dX9_split_34 fl_X9_28 rfl E (fun x10 E => ?_)
        refine g_iload_n C 2 dX9_split_37 rfl rfl ?_
        refine g_iconst C 0 dX9_split_38 rfl ?_
        refine g_iast C dX9_split_39 E (fun h11 E => ?_)
        refine g_iinc C (lv' := [(2, .int (v2 + 1)), (0, .ref (base + v0)), (1, .int v1)]) 2 1 dX9_split_40 rfl rfl (by decide) rfl ?_
        refine g_goto C 2 dX9_split_43 (by decide) ?_
        refine g_sub (lv' := [(0, .ref (base + v0)), (1, .int v1), (2, .int (v2 + 1))]) [1, 2, 0] rfl ?_
        exact ih v0 v1 (v2 + 1) h11 E
set_option maxRecDepth 100000 in
set_option maxHeartbeats 4000000 in
theorem o_X9_split_J180 {l : Launch} {base : Nat} {D : va_G} {cA : Nat → ClassId} {p : Program} {e : Env} {s : State} {m : MethodId} {args : Array Value} {below : List Frame} {meth : Method} {c : Code} (C : GC base D cA p s m args meth c cX9_split 8 RX9) (hr : meth.sig.returnType = (some .int)) {X : Int32 × Hp} {k75 : Nat → Int32 → Int32 → Int32 → Int32 → Int32 → Int32 → Hp → Rv Int32} (K75 : ∀ (y0 : Nat) (y1 : Int32) (y2 : Int32) (y3 : Int32) (y4 : Int32) (y5 : Int32) (y6 : Int32) (h : Hp), k75 y0 y1 y2 y3 y4 y5 y6 h = some X → GW base D cA p l e rm_X9_split s m args below meth c (MQ below (QcI base D cA X.1 X.2) args s 0 0 (AA base)) 8 h 0 0 75 [(0, .ref (base + y0)), (1, .int y1), (2, .int y2), (3, .int y3), (4, .int y4), (5, .int y5), (6, .int y6)] []) : ∀ (v0 : Nat) (v1 : Int32) (v2 : Int32) (v4 : Int32) (v5 : Int32) (v6 : Int32) (v7 : Int32) (w0 : Int32) (h : Hp), s_X9_split_J180 k75 v0 v1 v2 v4 v5 v6 v7 w0 h = some X → GW base D cA p l e rm_X9_split s m args below meth c (MQ below (QcI base D cA X.1 X.2) args s 0 0 (AA base)) 8 h 0 0 180 [(0, .ref (base + v0)), (1, .int v1), (2, .int v2), (4, .int v4), (5, .int v5), (6, .int v6), (7, .int v7)] [.int w0] := by
  intro v0 v1 v2 v4 v5 v6 v7 w0 h E
  unfold s_X9_split_J180 at E
  refine g_istore_n C (lv' := [(3, .int w0), (0, .ref (base + v0)), (1, .int v1), (2, .int v2), (4, .int v4), (5, .int v5), (6, .int v6), (7, .int v7)]) dX9_split_180 rfl (by decide) rfl ?_
  refine g_aload_n C 1 dX9_split_181 rfl rfl ?_
  refine g_getR C dX9_split_182 fl_X9_28 rfl E (fun x1 E => ?_)
  refine g_iload C 6 dX9_split_185 rfl ?_
  refine g_dup2 C dX9_split_187 rfl rfl ?_
  refine g_iald C dX9_split_188 E (fun x2 E => ?_)
  refine g_iload C 7 dX9_split_189 rfl ?_
  refine g_iadd C dX9_split_191 ?_
  refine g_iast C dX9_split_192 E (fun h3 E => ?_)
  refine g_iload_n C 3 dX9_split_193 rfl rfl ?_
  refine g_iload C 7 dX9_split_194 rfl ?_
  refine g_isub C dX9_split_196 ?_
  refine g_istore_n C (lv' := [(2, .int (v2 - v7)), (3, .int w0), (0, .ref (base + v0)), (1, .int v1), (4, .int v4), (5, .int v5), (6, .int v6), (7, .int v7)]) dX9_split_197 rfl (by decide) rfl ?_
  refine g_iinc C (lv' := [(6, .int (v6 + 1)), (2, .int (v2 - v7)), (3, .int w0), (0, .ref (base + v0)), (1, .int v1), (4, .int v4), (5, .int v5), (7, .int v7)]) 6 1 dX9_split_198 rfl rfl (by decide) rfl ?_
  refine g_goto C 75 dX9_split_201 (by decide) ?_
  refine g_sub (lv' := [(0, .ref (base + v0)), (1, .int v1), (2, .int (v2 - v7)), (3, .int w0), (4, .int v4), (5, .int v5), (6, .int (v6 + 1))]) [3, 4, 1, 2, 5, 6, 0] rfl ?_
  exact K75 v0 v1 (v2 - v7) w0 v4 v5 (v6 + 1) h3 E
set_option maxRecDepth 100000 in
set_option maxHeartbeats 4000000 in
theorem o_X9_split_J166 {l : Launch} {base : Nat} {D : va_G} {cA : Nat → ClassId} {p : Program} {e : Env} {s : State} {m : MethodId} {args : Array Value} {below : List Frame} {meth : Method} {c : Code} (C : GC base D cA p s m args meth c cX9_split 8 RX9) (hr : meth.sig.returnType = (some .int)) {X : Int32 × Hp} {k75 : Nat → Int32 → Int32 → Int32 → Int32 → Int32 → Int32 → Hp → Rv Int32} (K75 : ∀ (y0 : Nat) (y1 : Int32) (y2 : Int32) (y3 : Int32) (y4 : Int32) (y5 : Int32) (y6 : Int32) (h : Hp), k75 y0 y1 y2 y3 y4 y5 y6 h = some X → GW base D cA p l e rm_X9_split s m args below meth c (MQ below (QcI base D cA X.1 X.2) args s 0 0 (AA base)) 8 h 0 0 75 [(0, .ref (base + y0)), (1, .int y1), (2, .int y2), (3, .int y3), (4, .int y4), (5, .int y5), (6, .int y6)] []) : ∀ (v0 : Nat) (v1 : Int32) (v2 : Int32) (v3 : Int32) (v4 : Int32) (v5 : Int32) (v6 : Int32) (w0 : Int32) (h : Hp), s_X9_split_J166 k75 v0 v1 v2 v3 v4 v5 v6 w0 h = some X → GW base D cA p l e rm_X9_split s m args below meth c (MQ below (QcI base D cA X.1 X.2) args s 0 0 (AA base)) 8 h 0 0 166 [(0, .ref (base + v0)), (1, .int v1), (2, .int v2), (3, .int v3), (4, .int v4), (5, .int v5), (6, .int v6)] [.int w0] := by
  intro v0 v1 v2 v3 v4 v5 v6 w0 h E
  unfold s_X9_split_J166 at E
  refine g_istore C (lv' := [(7, .int w0), (0, .ref (base + v0)), (1, .int v1), (2, .int v2), (3, .int v3), (4, .int v4), (5, .int v5), (6, .int v6)]) dX9_split_166 (by decide) rfl ?_
  refine g_iload_n C 4 dX9_split_168 rfl rfl ?_
  refine g_bipush C (-5) dX9_split_169 rfl ?_
  refine g_icmp_ne C 179 dX9_split_171 (by decide) E (fun E => ?_) (fun E => ?_)
  · refine g_iload_n C 4 dX9_split_179 rfl rfl ?_
    refine g_sub (lv' := [(0, .ref (base + v0)), (1, .int v1), (2, .int v2), (4, .int v4), (5, .int v5), (6, .int v6), (7, .int w0)]) [1, 2, 3, 5, 6, 7, 0] rfl ?_
    refine o_X9_split_J180 C hr ?_ v0 v1 v2 v4 v5 v6 w0 v3 h E
    · intro y1 y2 y3 y4 y5 y6 y7 h8 E
      refine g_sub (lv' := [(0, .ref (base + y1)), (1, .int y2), (2, .int y3), (3, .int y4), (4, .int y5), (5, .int y6), (6, .int y7)]) [0, 1, 2, 3, 4, 5, 6] rfl ?_
      exact K75 y1 y2 y3 y4 y5 y6 y7 h8 E
  · refine g_iload C 7 dX9_split_174 rfl ?_
    refine g_goto C 180 dX9_split_176 (by decide) ?_
    refine g_sub (lv' := [(0, .ref (base + v0)), (1, .int v1), (2, .int v2), (4, .int v4), (5, .int v5), (6, .int v6), (7, .int w0)]) [1, 2, 3, 5, 6, 7, 0] rfl ?_
    refine o_X9_split_J180 C hr ?_ v0 v1 v2 v4 v5 v6 w0 v6 h E
    · intro y9 y10 y11 y12 y13 y14 y15 h16 E
      refine g_sub (lv' := [(0, .ref (base + y9)), (1, .int y10), (2, .int y11), (3, .int y12), (4, .int y13), (5, .int y14), (6, .int y15)]) [0, 1, 2, 3, 4, 5, 6] rfl ?_
      exact K75 y9 y10 y11 y12 y13 y14 y15 h16 E
set_option maxRecDepth 100000 in
set_option maxHeartbeats 4000000 in
theorem o_X9_split_J124 {l : Launch} {base : Nat} {D : va_G} {cA : Nat → ClassId} {p : Program} {e : Env} {s : State} {m : MethodId} {args : Array Value} {below : List Frame} {meth : Method} {c : Code} (C : GC base D cA p s m args meth c cX9_split 8 RX9) (hr : meth.sig.returnType = (some .int)) {X : Int32 × Hp} {k75 : Nat → Int32 → Int32 → Int32 → Int32 → Int32 → Int32 → Hp → Rv Int32} (K75 : ∀ (y0 : Nat) (y1 : Int32) (y2 : Int32) (y3 : Int32) (y4 : Int32) (y5 : Int32) (y6 : Int32) (h : Hp), k75 y0 y1 y2 y3 y4 y5 y6 h = some X → GW base D cA p l e rm_X9_split s m args below meth c (MQ below (QcI base D cA X.1 X.2) args s 0 0 (AA base)) 8 h 0 0 75 [(0, .ref (base + y0)), (1, .int y1), (2, .int y2), (3, .int y3), (4, .int y4), (5, .int y5), (6, .int y6)] []) : ∀ (v0 : Nat) (v1 : Int32) (v2 : Int32) (v3 : Int32) (v4 : Int32) (v5 : Int32) (v6 : Int32) (w0 : Int32) (h : Hp), s_X9_split_J124 k75 v0 v1 v2 v3 v4 v5 v6 w0 h = some X → GW base D cA p l e rm_X9_split s m args below meth c (MQ below (QcI base D cA X.1 X.2) args s 0 0 (AA base)) 8 h 0 0 124 [(0, .ref (base + v0)), (1, .int v1), (2, .int v2), (3, .int v3), (4, .int v4), (5, .int v5), (6, .int v6)] [.int w0] := by
  intro v0 v1 v2 v3 v4 v5 v6 w0 h E
  unfold s_X9_split_J124 at E
  refine g_istore C (lv' := [(7, .int w0), (0, .ref (base + v0)), (1, .int v1), (2, .int v2), (3, .int v3), (4, .int v4), (5, .int v5), (6, .int v6)]) dX9_split_124 (by decide) rfl ?_
  refine g_iload C 0 dX9_split_126 rfl ?_
  refine g_aload_n C 1 dX9_split_128 rfl rfl ?_
  refine g_getR C dX9_split_129 fl_X9_25 rfl E (fun x1 E => ?_)
  refine g_iload C 7 dX9_split_132 rfl ?_
  refine g_iald C dX9_split_134 E (fun x2 E => ?_)
  refine g_aload_n C 1 dX9_split_135 rfl rfl ?_
  refine g_getR C dX9_split_136 fl_X9_28 rfl E (fun x3 E => ?_)
  refine g_iload C 7 dX9_split_139 rfl ?_
  refine g_iald C dX9_split_141 E (fun x4 E => ?_)
  refine g_isub C dX9_split_142 ?_
  refine g_icmp_ge C 151 dX9_split_143 (by decide) E (fun E => ?_) (fun E => ?_)
  · refine g_aload_n C 1 dX9_split_151 rfl rfl ?_
    refine g_getR C dX9_split_152 fl_X9_25 rfl E (fun x5 E => ?_)
    refine g_iload C 7 dX9_split_155 rfl ?_
    refine g_iald C dX9_split_157 E (fun x6 E => ?_)
    refine g_aload_n C 1 dX9_split_158 rfl rfl ?_
    refine g_getR C dX9_split_159 fl_X9_28 rfl E (fun x7 E => ?_)
    refine g_iload C 7 dX9_split_162 rfl ?_
    refine g_iald C dX9_split_164 E (fun x8 E => ?_)
    refine g_isub C dX9_split_165 ?_
    refine g_sub (lv' := [(0, .ref (base + v0)), (1, .int v1), (2, .int v2), (3, .int v3), (4, .int v4), (5, .int v5), (6, .int v6)]) [1, 2, 3, 4, 5, 6, 7] rfl ?_
    refine o_X9_split_J166 C hr ?_ v0 v1 v2 v3 v4 v5 v6 (x6 - x8) h E
    · intro y9 y10 y11 y12 y13 y14 y15 h16 E
      refine g_sub (lv' := [(0, .ref (base + y9)), (1, .int y10), (2, .int y11), (3, .int y12), (4, .int y13), (5, .int y14), (6, .int y15)]) [0, 1, 2, 3, 4, 5, 6] rfl ?_
      exact K75 y9 y10 y11 y12 y13 y14 y15 h16 E
  · refine g_iload C 0 dX9_split_146 rfl ?_
    refine g_goto C 166 dX9_split_148 (by decide) ?_
    refine g_sub (lv' := [(0, .ref (base + v0)), (1, .int v1), (2, .int v2), (3, .int v3), (4, .int v4), (5, .int v5), (6, .int v6)]) [1, 2, 3, 4, 5, 6, 7] rfl ?_
    refine o_X9_split_J166 C hr ?_ v0 v1 v2 v3 v4 v5 v6 w0 h E
    · intro y17 y18 y19 y20 y21 y22 y23 h24 E
      refine g_sub (lv' := [(0, .ref (base + y17)), (1, .int y18), (2, .int y19), (3, .int y20), (4, .int y21), (5, .int y22), (6, .int y23)]) [0, 1, 2, 3, 4, 5, 6] rfl ?_
      exact K75 y17 y18 y19 y20 y21 y22 y23 h24 E
set_option maxRecDepth 100000 in
set_option maxHeartbeats 4000000 in
theorem o_X9_split_L75 {l : Launch} {base : Nat} {D : va_G} {cA : Nat → ClassId} {p : Program} {e : Env} {s : State} {m : MethodId} {args : Array Value} {below : List Frame} {meth : Method} {c : Code} (C : GC base D cA p s m args meth c cX9_split 8 RX9) (hr : meth.sig.returnType = (some .int)) {X : Int32 × Hp} {k204 : Nat → Int32 → Int32 → Int32 → Int32 → Hp → Rv Int32} (K204 : ∀ (y0 : Nat) (y1 : Int32) (y2 : Int32) (y3 : Int32) (y4 : Int32) (h : Hp), k204 y0 y1 y2 y3 y4 h = some X → GW base D cA p l e rm_X9_split s m args below meth c (MQ below (QcI base D cA X.1 X.2) args s 0 0 (AA base)) 8 h 0 0 204 [(0, .ref (base + y0)), (1, .int y1), (2, .int y2), (3, .int y3), (5, .int y4)] []) : ∀ (n : Nat) (v0 : Nat) (v1 : Int32) (v2 : Int32) (v3 : Int32) (v4 : Int32) (v5 : Int32) (v6 : Int32) (h : Hp), s_X9_split_L75 k204 n v0 v1 v2 v3 v4 v5 v6 h = some X → GW base D cA p l e rm_X9_split s m args below meth c (MQ below (QcI base D cA X.1 X.2) args s 0 0 (AA base)) 8 h 0 0 75 [(0, .ref (base + v0)), (1, .int v1), (2, .int v2), (3, .int v3), (4, .int v4), (5, .int v5), (6, .int v6)] [] := by
  intro n
  induction n with
  | zero =>
    intro v0 v1 v2 v3 v4 v5 v6 h E
    rw [s_X9_split_L75] at E
    cases E
  | succ n ih =>
    intro v0 v1 v2 v3 v4 v5 v6 h E
    rw [s_X9_split_L75] at E
    refine g_iload C 6 dX9_split_75 rfl ?_
    refine g_aload_n C 0 dX9_split_77 rfl rfl ?_
    refine g_getR C dX9_split_78 fl_X9_7 rfl E (fun x1 E => ?_)
    refine g_iconst C 2 dX9_split_81 rfl ?_
    refine g_iald C dX9_split_82 E (fun x2 E => ?_)
    refine g_icmp_ge C 204 dX9_split_83 (by decide) E (fun E => ?_) (fun E => ?_)
    · refine g_sub (lv' := [(0, .ref (base + v0)), (1, .int v1), (2, .int v2), (3, .int v3), (5, .int v5)]) [0, 1, 2, 3, 5] rfl ?_
      exact K204 v0 v1 v2 v3 v5 h E
    · refine g_aload_n C 0 dX9_split_86 rfl rfl ?_
      refine g_getR C dX9_split_87 fl_X9_28 rfl E (fun x3 E => ?_)
      refine g_iload C 6 dX9_split_90 rfl ?_
      refine g_iald C dX9_split_92 E (fun x4 E => ?_)
      refine g_aload_n C 0 dX9_split_93 rfl rfl ?_
      refine g_getR C dX9_split_94 fl_X9_25 rfl E (fun x5 E => ?_)
      refine g_iload C 6 dX9_split_97 rfl ?_
      refine g_iald C dX9_split_99 E (fun x6 E => ?_)
      refine g_icmp_ge C 198 dX9_split_100 (by decide) E (fun E => ?_) (fun E => ?_)
      · refine g_iinc C (lv' := [(6, .int (v6 + 1)), (0, .ref (base + v0)), (1, .int v1), (2, .int v2), (3, .int v3), (4, .int v4), (5, .int v5)]) 6 1 dX9_split_198 rfl rfl (by decide) rfl ?_
        refine g_goto C 75 dX9_split_201 (by decide) ?_
        refine g_sub (lv' := [(0, .ref (base + v0)), (1, .int v1), (2, .int v2), (3, .int v3), (4, .int v4), (5, .int v5), (6, .int (v6 + 1))]) [1, 2, 3, 4, 5, 6, 0] rfl ?_
        exact ih v0 v1 v2 v3 v4 v5 (v6 + 1) h E
      · refine g_iload C 4 dX9_split_103 rfl ?_
        refine g_if_ne C 112 dX9_split_105 (by decide) E (fun E => ?_) (fun E => ?_)
        · refine g_iload C 5 dX9_split_112 rfl ?_
          refine g_aload_n C 0 dX9_split_114 rfl rfl ?_
          refine g_iload C 6 dX9_split_115 rfl ?_
          refine g_invI C (q := (RX9, TX9, 13)) [.int v6] dX9_split_117 cl_X9_91 cv_X9_sharesOf rfl (by decide) rfl rfl ⟨Nat.le_of_ble_eq_true rfl, Nat.le_of_ble_eq_true rfl⟩ (Nat.le_of_ble_eq_true rfl) ⟨Nat.le_of_ble_eq_true rfl, Nat.le_of_ble_eq_true rfl⟩ rfl (fun r' h' E => o_X9_sharesOf l base D cA v0 v6 h r' h' E) E (fun x7 h8 E => ?_)
          refine g_imul C dX9_split_120 ?_
          refine g_iload C 4 dX9_split_121 rfl ?_
          refine g_idiv C dX9_split_123 E (fun x9 E => ?_)
          refine g_sub (lv' := [(0, .ref (base + v0)), (1, .int v1), (2, .int v2), (3, .int v3), (4, .int v4), (5, .int v5), (6, .int v6)]) [0, 1, 2, 3, 4, 5, 6] rfl ?_
          refine o_X9_split_J124 C hr ?_ v0 v1 v2 v3 v4 v5 v6 x9 h8 E
          · intro y10 y11 y12 y13 y14 y15 y16 h17 E
            refine g_sub (lv' := [(0, .ref (base + y10)), (1, .int y11), (2, .int y12), (3, .int y13), (4, .int y14), (5, .int y15), (6, .int y16)]) [0, 1, 2, 3, 4, 5, 6] rfl ?_
            exact ih y10 y11 y12 y13 y14 y15 y16 h17 E
        · refine g_iconst C 0 dX9_split_108 rfl ?_
          refine g_goto C 124 dX9_split_109 (by decide) ?_
          refine g_sub (lv' := [(0, .ref (base + v0)), (1, .int v1), (2, .int v2), (3, .int v3), (4, .int v4), (5, .int v5), (6, .int v6)]) [0, 1, 2, 3, 4, 5, 6] rfl ?_
          refine o_X9_split_J124 C hr ?_ v0 v1 v2 v3 v4 v5 v6 0 h E
          · intro y18 y19 y20 y21 y22 y23 y24 h25 E
            refine g_sub (lv' := [(0, .ref (base + y18)), (1, .int y19), (2, .int y20), (3, .int y21), (4, .int y22), (5, .int y23), (6, .int y24)]) [0, 1, 2, 3, 4, 5, 6] rfl ?_
            exact ih y18 y19 y20 y21 y22 y23 y24 h25 E
set_option maxRecDepth 100000 in
set_option maxHeartbeats 4000000 in
theorem o_X9_split_L50 {l : Launch} {base : Nat} {D : va_G} {cA : Nat → ClassId} {p : Program} {e : Env} {s : State} {m : MethodId} {args : Array Value} {below : List Frame} {meth : Method} {c : Code} (C : GC base D cA p s m args meth c cX9_split 8 RX9) (hr : meth.sig.returnType = (some .int)) {X : Int32 × Hp} : ∀ (n : Nat) (v0 : Nat) (v1 : Int32) (v2 : Int32) (v3 : Int32) (h : Hp), s_X9_split_L50 n v0 v1 v2 v3 h = some X → GW base D cA p l e rm_X9_split s m args below meth c (MQ below (QcI base D cA X.1 X.2) args s 0 0 (AA base)) 8 h 0 0 50 [(0, .ref (base + v0)), (1, .int v1), (2, .int v2), (3, .int v3)] [] := by
  intro n
  induction n with
  | zero =>
    intro v0 v1 v2 v3 h E
    rw [s_X9_split_L50] at E
    cases E
  | succ n ih =>
    intro v0 v1 v2 v3 h E
    rw [s_X9_split_L50] at E
    refine g_iload_n C 2 dX9_split_50 rfl rfl ?_
    refine g_if_le C 232 dX9_split_51 (by decide) E (fun E => ?_) (fun E => ?_)
    · refine g_iload_n C 1 dX9_split_232 rfl rfl ?_
      refine g_iload_n C 2 dX9_split_233 rfl rfl ?_
      refine g_isub C dX9_split_234 ?_
      exact g_iret C dX9_split_235 hr E
    · refine g_iload_n C 3 dX9_split_54 rfl rfl ?_
      refine g_bipush C (-5) dX9_split_55 rfl ?_
      refine g_icmp_eq C 232 dX9_split_57 (by decide) E (fun E => ?_) (fun E => ?_)
      · refine g_iload_n C 1 dX9_split_232 rfl rfl ?_
        refine g_iload_n C 2 dX9_split_233 rfl rfl ?_
        refine g_isub C dX9_split_234 ?_
        exact g_iret C dX9_split_235 hr E
      · refine g_aload_n C 0 dX9_split_60 rfl rfl ?_
        refine g_invI C (q := (RX9, TX9, 13)) [] dX9_split_61 cl_X9_97 cv_X9_wantingShares rfl (by decide) rfl rfl ⟨Nat.le_of_ble_eq_true rfl, Nat.le_of_ble_eq_true rfl⟩ (Nat.le_of_ble_eq_true rfl) ⟨Nat.le_of_ble_eq_true rfl, Nat.le_of_ble_eq_true rfl⟩ rfl (fun r' h' E => o_X9_wantingShares l base D cA v0 h r' h' E) E (fun x1 h2 E => ?_)
        refine g_istore C (lv' := [(4, .int x1), (0, .ref (base + v0)), (1, .int v1), (2, .int v2), (3, .int v3)]) dX9_split_64 (by decide) rfl ?_
        refine g_iload_n C 3 dX9_split_66 rfl rfl ?_
        refine g_istore C (lv' := [(5, .int v2), (4, .int x1), (0, .ref (base + v0)), (1, .int v1), (2, .int v2), (3, .int v3)]) dX9_split_67 (by decide) rfl ?_
        refine g_bipush C (-5) dX9_split_69 rfl ?_
        refine g_istore_n C (lv' := [(3, .int (-5)), (5, .int v2), (4, .int x1), (0, .ref (base + v0)), (1, .int v1), (2, .int v2)]) dX9_split_71 rfl (by decide) rfl ?_
        refine g_iconst C 0 dX9_split_72 rfl ?_
        refine g_istore C (lv' := [(6, .int 0), (3, .int (-5)), (5, .int v2), (4, .int x1), (0, .ref (base + v0)), (1, .int v1), (2, .int v2)]) dX9_split_73 (by decide) rfl ?_
        refine g_sub (lv' := [(0, .ref (base + v0)), (1, .int v1), (2, .int v2), (3, .int (-5)), (4, .int x1), (5, .int v2), (6, .int 0)]) [4, 5, 6, 1, 3, 2, 0] rfl ?_
        refine o_X9_split_L75 C hr ?_ _ v0 v1 v2 (-5) x1 v2 0 h2 E
        · intro y3 y4 y5 y6 y7 h8 E
          refine g_iload_n C 3 dX9_split_204 rfl rfl ?_
          refine g_bipush C (-5) dX9_split_205 rfl ?_
          refine g_icmp_eq C 229 dX9_split_207 (by decide) E (fun E => ?_) (fun E => ?_)
          · refine g_goto C 50 dX9_split_229 (by decide) ?_
            refine g_sub (lv' := [(0, .ref (base + y3)), (1, .int y4), (2, .int y5), (3, .int y6)]) [0, 1, 2, 3] rfl ?_
            exact ih y3 y4 y5 y6 h8 E
          · refine g_iload_n C 2 dX9_split_210 rfl rfl ?_
            refine g_iload C 4 dX9_split_211 rfl ?_
            refine g_icmp_ne C 229 dX9_split_213 (by decide) E (fun E => ?_) (fun E => ?_)
            · refine g_goto C 50 dX9_split_229 (by decide) ?_
              refine g_sub (lv' := [(0, .ref (base + y3)), (1, .int y4), (2, .int y5), (3, .int y6)]) [0, 1, 2, 3] rfl ?_
              exact ih y3 y4 y5 y6 h8 E
            · refine g_aload_n C 0 dX9_split_216 rfl rfl ?_
              refine g_getR C dX9_split_217 fl_X9_28 rfl E (fun x9 E => ?_)
              refine g_iload_n C 3 dX9_split_220 rfl rfl ?_
              refine g_dup2 C dX9_split_221 rfl rfl ?_
              refine g_iald C dX9_split_222 E (fun x10 E => ?_)
              refine g_iconst C 1 dX9_split_223 rfl ?_
              refine g_iadd C dX9_split_224 ?_
              refine g_iast C dX9_split_225 E (fun h11 E => ?_)
              refine g_iinc C (lv' := [(2, .int (y5 + (-1))), (0, .ref (base + y3)), (1, .int y4), (3, .int y6), (5, .int y7)]) 2 (-1) dX9_split_226 rfl rfl (by decide) rfl ?_
              refine g_goto C 50 dX9_split_229 (by decide) ?_
              refine g_sub (lv' := [(0, .ref (base + y3)), (1, .int y4), (2, .int (y5 + (-1))), (3, .int y6)]) [1, 2, 0, 3] rfl ?_
              exact ih y3 y4 (y5 + (-1)) y6 h11 E
set_option maxRecDepth 100000 in
set_option maxHeartbeats 4000000 in
theorem o_X9_split (l : Launch) (base : Nat) (D : va_G) (cA : Nat → ClassId) (a0 : Nat) (a1 : Int32) (h : Hp) (r : Int32) (h' : Hp) (E : s_X9_split a0 a1 h = some (r, h')) : Met l yX9_split (.code yX9_split cX9_split 8 (some .int) :: wsA) rm_X9_split (PcG base D cA [.ref (base + a0), .int a1] h) (QcI base D cA r h') 0 0 (AA base) := by
  refine g_met [.ref (base + a0), .int a1] (by decide) (Nat.le_of_ble_eq_true rfl) (fun p e s m args below meth c C hr hn => ?_)
  refine g_lv (lv' := [(0, .ref (base + a0)), (1, .int a1)]) rfl ?_
  unfold s_X9_split at E
  refine g_iconst C 0 dX9_split_0 rfl ?_
  refine g_istore_n C (lv' := [(2, .int 0), (0, .ref (base + a0)), (1, .int a1)]) dX9_split_1 rfl (by decide) rfl ?_
  refine g_sub (lv' := [(0, .ref (base + a0)), (1, .int a1), (2, .int 0)]) [1, 2, 0] rfl ?_
  refine o_X9_split_L2 C hr ?_ _ a0 a1 0 h E
  · intro y1 y2 h3 E
    refine g_iload_n C 1 dX9_split_46 rfl rfl ?_
    refine g_istore_n C (lv' := [(2, .int y2), (0, .ref (base + y1)), (1, .int y2)]) dX9_split_47 rfl (by decide) rfl ?_
    refine g_iconst C 0 dX9_split_48 rfl ?_
    refine g_istore_n C (lv' := [(3, .int 0), (2, .int y2), (0, .ref (base + y1)), (1, .int y2)]) dX9_split_49 rfl (by decide) rfl ?_
    refine g_sub (lv' := [(0, .ref (base + y1)), (1, .int y2), (2, .int y2), (3, .int 0)]) [2, 3, 1, 0] rfl ?_
    exact o_X9_split_L50 C hr _ y1 y2 y2 0 h3 E
abbrev rm_X9_heatNow : Room := { frames := 0, cells := 0, slots := 0, locals := 0 }
def s_X9_heatNow (a0 : Nat) (h : Hp) : Rv Int32 :=
  getR h a0 9 0 fun x1 =>
  ldI h x1 20 5 fun x2 =>
  getR h a0 9 0 fun x3 =>
  ldI h x3 20 7 fun x4 =>
  if x4 ≤ x2 then getR h a0 9 0 fun x5 =>
  ldI h x5 20 7 fun x6 =>
  retI x6 h
  else getR h a0 9 0 fun x7 =>
  ldI h x7 20 5 fun x8 =>
  retI x8 h
set_option maxRecDepth 100000 in
set_option maxHeartbeats 4000000 in
theorem o_X9_heatNow (l : Launch) (base : Nat) (D : va_G) (cA : Nat → ClassId) (a0 : Nat) (h : Hp) (r : Int32) (h' : Hp) (E : s_X9_heatNow a0 h = some (r, h')) : Met l yX9_heatNow (.code yX9_heatNow cX9_heatNow 1 (some .int) :: wsA) rm_X9_heatNow (PcG base D cA [.ref (base + a0)] h) (QcI base D cA r h') 0 0 (AA base) := by
  refine g_met [.ref (base + a0)] (by decide) (Nat.le_of_ble_eq_true rfl) (fun p e s m args below meth c C hr hn => ?_)
  refine g_lv (lv' := [(0, .ref (base + a0))]) rfl ?_
  unfold s_X9_heatNow at E
  refine g_aload_n C 0 dX9_heatNow_0 rfl rfl ?_
  refine g_getR C dX9_heatNow_1 fl_X9_7 rfl E (fun x1 E => ?_)
  refine g_iconst C 5 dX9_heatNow_4 rfl ?_
  refine g_iald C dX9_heatNow_5 E (fun x2 E => ?_)
  refine g_aload_n C 0 dX9_heatNow_6 rfl rfl ?_
  refine g_getR C dX9_heatNow_7 fl_X9_7 rfl E (fun x3 E => ?_)
  refine g_bipush C 7 dX9_heatNow_10 rfl ?_
  refine g_iald C dX9_heatNow_12 E (fun x4 E => ?_)
  refine g_icmp_ge C 25 dX9_heatNow_13 (by decide) E (fun E => ?_) (fun E => ?_)
  · refine g_aload_n C 0 dX9_heatNow_25 rfl rfl ?_
    refine g_getR C dX9_heatNow_26 fl_X9_7 rfl E (fun x5 E => ?_)
    refine g_bipush C 7 dX9_heatNow_29 rfl ?_
    refine g_iald C dX9_heatNow_31 E (fun x6 E => ?_)
    exact g_iret C dX9_heatNow_32 hr E
  · refine g_aload_n C 0 dX9_heatNow_16 rfl rfl ?_
    refine g_getR C dX9_heatNow_17 fl_X9_7 rfl E (fun x7 E => ?_)
    refine g_iconst C 5 dX9_heatNow_20 rfl ?_
    refine g_iald C dX9_heatNow_21 E (fun x8 E => ?_)
    refine g_goto C 32 dX9_heatNow_22 (by decide) ?_
    exact g_iret C dX9_heatNow_32 hr E
abbrev rm_X9_fillStore : Room := { frames := 0, cells := 0, slots := 0, locals := 0 }
def s_X9_fillStore_J48 (v0 : Nat) (v1 : Int32) (w0 : Nat) (w1 : Int32) (w2 : Int32) (h : Hp) : Rv Unit :=
  stI h w0 20 w1 w2 fun h =>
  getR h v0 9 0 fun x10 =>
  ldI h x10 20 13 fun x11 =>
  getR h v0 9 0 fun x12 =>
  ldI h x12 20 7 fun x13 =>
  stI h x10 20 13 (x11 + (x13 - v1)) fun h =>
  retU h
def s_X9_fillStore (a0 : Nat) (h : Hp) : Rv Unit :=
  getR h a0 9 0 fun x1 =>
  ldI h x1 20 7 fun x2 =>
  getR h a0 9 0 fun x3 =>
  getR h a0 9 0 fun x4 =>
  ldI h x4 20 4 fun x5 =>
  getR h a0 9 0 fun x6 =>
  ldI h x6 20 3 fun x7 =>
  if x7 ≤ (x2 + x5) then getR h a0 9 0 fun x8 =>
  ldI h x8 20 3 fun x9 =>
  s_X9_fillStore_J48 a0 x2 x3 7 x9 h
  else getR h a0 9 0 fun x14 =>
  ldI h x14 20 4 fun x15 =>
  s_X9_fillStore_J48 a0 x2 x3 7 (x2 + x15) h
set_option maxRecDepth 100000 in
set_option maxHeartbeats 4000000 in
theorem o_X9_fillStore_J48 {l : Launch} {base : Nat} {D : va_G} {cA : Nat → ClassId} {p : Program} {e : Env} {s : State} {m : MethodId} {args : Array Value} {below : List Frame} {meth : Method} {c : Code} (C : GC base D cA p s m args meth c cX9_fillStore 2 RX9) (hr : meth.sig.returnType = none) {X : Unit × Hp} : ∀ (v0 : Nat) (v1 : Int32) (w0 : Nat) (w1 : Int32) (w2 : Int32) (h : Hp), s_X9_fillStore_J48 v0 v1 w0 w1 w2 h = some X → GW base D cA p l e rm_X9_fillStore s m args below meth c (MQ below (QcU base D cA X.2) args s 0 0 (AA base)) 2 h 0 0 48 [(0, .ref (base + v0)), (1, .int v1)] [.int w2, .int w1, .ref (base + w0)] := by
  intro v0 v1 w0 w1 w2 h E
  unfold s_X9_fillStore_J48 at E
  refine g_iast C dX9_fillStore_48 E (fun h1 E => ?_)
  refine g_aload_n C 0 dX9_fillStore_49 rfl rfl ?_
  refine g_getR C dX9_fillStore_50 fl_X9_7 rfl E (fun x2 E => ?_)
  refine g_bipush C 13 dX9_fillStore_53 rfl ?_
  refine g_dup2 C dX9_fillStore_55 rfl rfl ?_
  refine g_iald C dX9_fillStore_56 E (fun x3 E => ?_)
  refine g_aload_n C 0 dX9_fillStore_57 rfl rfl ?_
  refine g_getR C dX9_fillStore_58 fl_X9_7 rfl E (fun x4 E => ?_)
  refine g_bipush C 7 dX9_fillStore_61 rfl ?_
  refine g_iald C dX9_fillStore_63 E (fun x5 E => ?_)
  refine g_iload_n C 1 dX9_fillStore_64 rfl rfl ?_
  refine g_isub C dX9_fillStore_65 ?_
  refine g_iadd C dX9_fillStore_66 ?_
  refine g_iast C dX9_fillStore_67 E (fun h6 E => ?_)
  exact g_vret C dX9_fillStore_68 hr E
set_option maxRecDepth 100000 in
set_option maxHeartbeats 4000000 in
theorem o_X9_fillStore (l : Launch) (base : Nat) (D : va_G) (cA : Nat → ClassId) (a0 : Nat) (h : Hp) (r : Unit) (h' : Hp) (E : s_X9_fillStore a0 h = some (r, h')) : Met l yX9_fillStore (.code yX9_fillStore cX9_fillStore 2 none :: wsA) rm_X9_fillStore (PcG base D cA [.ref (base + a0)] h) (QcU base D cA h') 0 0 (AA base) := by
  refine g_met [.ref (base + a0)] (by decide) (Nat.le_of_ble_eq_true rfl) (fun p e s m args below meth c C hr hn => ?_)
  refine g_lv (lv' := [(0, .ref (base + a0))]) rfl ?_
  unfold s_X9_fillStore at E
  refine g_aload_n C 0 dX9_fillStore_0 rfl rfl ?_
  refine g_getR C dX9_fillStore_1 fl_X9_7 rfl E (fun x1 E => ?_)
  refine g_bipush C 7 dX9_fillStore_4 rfl ?_
  refine g_iald C dX9_fillStore_6 E (fun x2 E => ?_)
  refine g_istore_n C (lv' := [(1, .int x2), (0, .ref (base + a0))]) dX9_fillStore_7 rfl (by decide) rfl ?_
  refine g_aload_n C 1 dX9_fillStore_8 rfl rfl ?_
  refine g_getR C dX9_fillStore_9 fl_X9_7 rfl E (fun x3 E => ?_)
  refine g_bipush C 7 dX9_fillStore_12 rfl ?_
  refine g_iload_n C 0 dX9_fillStore_14 rfl rfl ?_
  refine g_aload_n C 1 dX9_fillStore_15 rfl rfl ?_
  refine g_getR C dX9_fillStore_16 fl_X9_7 rfl E (fun x4 E => ?_)
  refine g_iconst C 4 dX9_fillStore_19 rfl ?_
  refine g_iald C dX9_fillStore_20 E (fun x5 E => ?_)
  refine g_iadd C dX9_fillStore_21 ?_
  refine g_aload_n C 1 dX9_fillStore_22 rfl rfl ?_
  refine g_getR C dX9_fillStore_23 fl_X9_7 rfl E (fun x6 E => ?_)
  refine g_iconst C 3 dX9_fillStore_26 rfl ?_
  refine g_iald C dX9_fillStore_27 E (fun x7 E => ?_)
  refine g_icmp_ge C 42 dX9_fillStore_28 (by decide) E (fun E => ?_) (fun E => ?_)
  · refine g_aload_n C 1 dX9_fillStore_42 rfl rfl ?_
    refine g_getR C dX9_fillStore_43 fl_X9_7 rfl E (fun x8 E => ?_)
    refine g_iconst C 3 dX9_fillStore_46 rfl ?_
    refine g_iald C dX9_fillStore_47 E (fun x9 E => ?_)
    refine g_sub (lv' := [(0, .ref (base + a0)), (1, .int x2)]) [1, 0] rfl ?_
    exact o_X9_fillStore_J48 C hr a0 x2 x3 7 x9 h E
  · refine g_iload_n C 0 dX9_fillStore_31 rfl rfl ?_
    refine g_aload_n C 1 dX9_fillStore_32 rfl rfl ?_
    refine g_getR C dX9_fillStore_33 fl_X9_7 rfl E (fun x10 E => ?_)
    refine g_iconst C 4 dX9_fillStore_36 rfl ?_
    refine g_iald C dX9_fillStore_37 E (fun x11 E => ?_)
    refine g_iadd C dX9_fillStore_38 ?_
    refine g_goto C 48 dX9_fillStore_39 (by decide) ?_
    refine g_sub (lv' := [(0, .ref (base + a0)), (1, .int x2)]) [1, 0] rfl ?_
    exact o_X9_fillStore_J48 C hr a0 x2 x3 7 (x2 + x11) h E
abbrev rm_X9_beginPhase : Room := { frames := 1, cells := 0, slots := 0, locals := 23 }
def s_X9_beginPhase (a0 : Nat) (a1 : Int32) (a2 : Int32) (h : Hp) : Rv Unit :=
  inv h a0 9 (s_X9_setPart a0 a1 10 a2 h) fun _ h =>
  inv h a0 9 (s_X9_setPart a0 a1 14 0 h) fun _ h =>
  inv h a0 9 (s_X9_setPart a0 a1 16 0 h) fun _ h =>
  retU h
set_option maxRecDepth 100000 in
set_option maxHeartbeats 4000000 in
theorem o_X9_beginPhase (l : Launch) (base : Nat) (D : va_G) (cA : Nat → ClassId) (a0 : Nat) (a1 : Int32) (a2 : Int32) (h : Hp) (r : Unit) (h' : Hp) (E : s_X9_beginPhase a0 a1 a2 h = some (r, h')) : Met l yX9_beginPhase (.code yX9_beginPhase cX9_beginPhase 3 none :: wsA) rm_X9_beginPhase (PcG base D cA [.ref (base + a0), .int a1, .int a2] h) (QcU base D cA h') 0 0 (AA base) := by
  refine g_met [.ref (base + a0), .int a1, .int a2] (by decide) (Nat.le_of_ble_eq_true rfl) (fun p e s m args below meth c C hr hn => ?_)
  refine g_lv (lv' := [(0, .ref (base + a0)), (1, .int a1), (2, .int a2)]) rfl ?_
  unfold s_X9_beginPhase at E
  refine g_aload_n C 0 dX9_beginPhase_0 rfl rfl ?_
  refine g_iload_n C 1 dX9_beginPhase_1 rfl rfl ?_
  refine g_bipush C 10 dX9_beginPhase_2 rfl ?_
  refine g_iload_n C 2 dX9_beginPhase_4 rfl rfl ?_
  refine g_invU C (q := (RX9, TX9, 13)) [.int a1, .int 10, .int a2] dX9_beginPhase_5 cl_X9_63 cv_X9_setPart rfl (by decide) rfl rfl ⟨Nat.le_of_ble_eq_true rfl, Nat.le_of_ble_eq_true rfl⟩ (Nat.le_of_ble_eq_true rfl) ⟨Nat.le_of_ble_eq_true rfl, Nat.le_of_ble_eq_true rfl⟩ rfl (fun r' h' E => o_X9_setPart l base D cA a0 a1 10 a2 h r' h' E) E (fun x1 h2 E => ?_)
  refine g_aload_n C 0 dX9_beginPhase_8 rfl rfl ?_
  refine g_iload_n C 1 dX9_beginPhase_9 rfl rfl ?_
  refine g_bipush C 14 dX9_beginPhase_10 rfl ?_
  refine g_iconst C 0 dX9_beginPhase_12 rfl ?_
  refine g_invU C (q := (RX9, TX9, 13)) [.int a1, .int 14, .int 0] dX9_beginPhase_13 cl_X9_63 cv_X9_setPart rfl (by decide) rfl rfl ⟨Nat.le_of_ble_eq_true rfl, Nat.le_of_ble_eq_true rfl⟩ (Nat.le_of_ble_eq_true rfl) ⟨Nat.le_of_ble_eq_true rfl, Nat.le_of_ble_eq_true rfl⟩ rfl (fun r' h' E => o_X9_setPart l base D cA a0 a1 14 0 h2 r' h' E) E (fun x3 h4 E => ?_)
  refine g_aload_n C 0 dX9_beginPhase_16 rfl rfl ?_
  refine g_iload_n C 1 dX9_beginPhase_17 rfl rfl ?_
  refine g_bipush C 16 dX9_beginPhase_18 rfl ?_
  refine g_iconst C 0 dX9_beginPhase_20 rfl ?_
  refine g_invU C (q := (RX9, TX9, 13)) [.int a1, .int 16, .int 0] dX9_beginPhase_21 cl_X9_63 cv_X9_setPart rfl (by decide) rfl rfl ⟨Nat.le_of_ble_eq_true rfl, Nat.le_of_ble_eq_true rfl⟩ (Nat.le_of_ble_eq_true rfl) ⟨Nat.le_of_ble_eq_true rfl, Nat.le_of_ble_eq_true rfl⟩ rfl (fun r' h' E => o_X9_setPart l base D cA a0 a1 16 0 h4 r' h' E) E (fun x5 h6 E => ?_)
  exact g_vret C dX9_beginPhase_24 hr E
abbrev rm_X9_fills : Room := { frames := 2, cells := 0, slots := 0, locals := 43 }
def s_X9_fills_J26 (v0 : Nat) (v1 : Int32) (w0 : Int32) (h : Hp) : Rv Unit :=
  inv h v0 9 (s_X9_addPart v0 v1 16 w0 h) fun _ h =>
  inv h v0 9 (s_X9_addPart v0 v1 17 w0 h) fun _ h =>
  inv h v0 9 (s_X9_addPart v0 v1 11 w0 h) fun _ h =>
  inv h v0 9 (s_X9_addPart v0 v1 12 (60 * w0) h) fun _ h =>
  retU h
def s_X9_fills (a0 : Nat) (a1 : Int32) (h : Hp) : Rv Unit :=
  inv h a0 9 (s_X9_numberOf a0 a1 h) fun x1 h =>
  inv h a0 9 (s_X9_part a0 a1 16 h) fun x2 h =>
  if 6 ≤ (x1 - x2) then s_X9_fills_J26 a0 a1 6 h
  else s_X9_fills_J26 a0 a1 (x1 - x2) h
set_option maxRecDepth 100000 in
set_option maxHeartbeats 4000000 in
theorem o_X9_fills_J26 {l : Launch} {base : Nat} {D : va_G} {cA : Nat → ClassId} {p : Program} {e : Env} {s : State} {m : MethodId} {args : Array Value} {below : List Frame} {meth : Method} {c : Code} (C : GC base D cA p s m args meth c cX9_fills 4 RX9) (hr : meth.sig.returnType = none) {X : Unit × Hp} : ∀ (v0 : Nat) (v1 : Int32) (w0 : Int32) (h : Hp), s_X9_fills_J26 v0 v1 w0 h = some X → GW base D cA p l e rm_X9_fills s m args below meth c (MQ below (QcU base D cA X.2) args s 0 0 (AA base)) 4 h 0 0 26 [(0, .ref (base + v0)), (1, .int v1)] [.int w0] := by
  intro v0 v1 w0 h E
  unfold s_X9_fills_J26 at E
  refine g_istore_n C (lv' := [(3, .int w0), (0, .ref (base + v0)), (1, .int v1)]) dX9_fills_26 rfl (by decide) rfl ?_
  refine g_aload_n C 1 dX9_fills_27 rfl rfl ?_
  refine g_iload_n C 2 dX9_fills_28 rfl rfl ?_
  refine g_bipush C 16 dX9_fills_29 rfl ?_
  refine g_iload_n C 0 dX9_fills_31 rfl rfl ?_
  refine g_invU C (q := (RX9, TX9, 13)) [.int v1, .int 16, .int w0] dX9_fills_32 cl_X9_101 cv_X9_addPart rfl (by decide) rfl rfl ⟨Nat.le_of_ble_eq_true rfl, Nat.le_of_ble_eq_true rfl⟩ (Nat.le_of_ble_eq_true rfl) ⟨Nat.le_of_ble_eq_true rfl, Nat.le_of_ble_eq_true rfl⟩ rfl (fun r' h' E => o_X9_addPart l base D cA v0 v1 16 w0 h r' h' E) E (fun x1 h2 E => ?_)
  refine g_aload_n C 1 dX9_fills_35 rfl rfl ?_
  refine g_iload_n C 2 dX9_fills_36 rfl rfl ?_
  refine g_bipush C 17 dX9_fills_37 rfl ?_
  refine g_iload_n C 0 dX9_fills_39 rfl rfl ?_
  refine g_invU C (q := (RX9, TX9, 13)) [.int v1, .int 17, .int w0] dX9_fills_40 cl_X9_101 cv_X9_addPart rfl (by decide) rfl rfl ⟨Nat.le_of_ble_eq_true rfl, Nat.le_of_ble_eq_true rfl⟩ (Nat.le_of_ble_eq_true rfl) ⟨Nat.le_of_ble_eq_true rfl, Nat.le_of_ble_eq_true rfl⟩ rfl (fun r' h' E => o_X9_addPart l base D cA v0 v1 17 w0 h2 r' h' E) E (fun x3 h4 E => ?_)
  refine g_aload_n C 1 dX9_fills_43 rfl rfl ?_
  refine g_iload_n C 2 dX9_fills_44 rfl rfl ?_
  refine g_bipush C 11 dX9_fills_45 rfl ?_
  refine g_iload_n C 0 dX9_fills_47 rfl rfl ?_
  refine g_invU C (q := (RX9, TX9, 13)) [.int v1, .int 11, .int w0] dX9_fills_48 cl_X9_101 cv_X9_addPart rfl (by decide) rfl rfl ⟨Nat.le_of_ble_eq_true rfl, Nat.le_of_ble_eq_true rfl⟩ (Nat.le_of_ble_eq_true rfl) ⟨Nat.le_of_ble_eq_true rfl, Nat.le_of_ble_eq_true rfl⟩ rfl (fun r' h' E => o_X9_addPart l base D cA v0 v1 11 w0 h4 r' h' E) E (fun x5 h6 E => ?_)
  refine g_aload_n C 1 dX9_fills_51 rfl rfl ?_
  refine g_iload_n C 2 dX9_fills_52 rfl rfl ?_
  refine g_bipush C 12 dX9_fills_53 rfl ?_
  refine g_bipush C 60 dX9_fills_55 rfl ?_
  refine g_iload_n C 0 dX9_fills_57 rfl rfl ?_
  refine g_imul C dX9_fills_58 ?_
  refine g_invU C (q := (RX9, TX9, 13)) [.int v1, .int 12, .int (60 * w0)] dX9_fills_59 cl_X9_101 cv_X9_addPart rfl (by decide) rfl rfl ⟨Nat.le_of_ble_eq_true rfl, Nat.le_of_ble_eq_true rfl⟩ (Nat.le_of_ble_eq_true rfl) ⟨Nat.le_of_ble_eq_true rfl, Nat.le_of_ble_eq_true rfl⟩ rfl (fun r' h' E => o_X9_addPart l base D cA v0 v1 12 (60 * w0) h6 r' h' E) E (fun x7 h8 E => ?_)
  exact g_vret C dX9_fills_62 hr E
set_option maxRecDepth 100000 in
set_option maxHeartbeats 4000000 in
theorem o_X9_fills (l : Launch) (base : Nat) (D : va_G) (cA : Nat → ClassId) (a0 : Nat) (a1 : Int32) (h : Hp) (r : Unit) (h' : Hp) (E : s_X9_fills a0 a1 h = some (r, h')) : Met l yX9_fills (.code yX9_fills cX9_fills 4 none :: wsA) rm_X9_fills (PcG base D cA [.ref (base + a0), .int a1] h) (QcU base D cA h') 0 0 (AA base) := by
  refine g_met [.ref (base + a0), .int a1] (by decide) (Nat.le_of_ble_eq_true rfl) (fun p e s m args below meth c C hr hn => ?_)
  refine g_lv (lv' := [(0, .ref (base + a0)), (1, .int a1)]) rfl ?_
  unfold s_X9_fills at E
  refine g_aload_n C 0 dX9_fills_0 rfl rfl ?_
  refine g_iload_n C 1 dX9_fills_1 rfl rfl ?_
  refine g_invI C (q := (RX9, TX9, 13)) [.int a1] dX9_fills_2 cl_X9_88 cv_X9_numberOf rfl (by decide) rfl rfl ⟨Nat.le_of_ble_eq_true rfl, Nat.le_of_ble_eq_true rfl⟩ (Nat.le_of_ble_eq_true rfl) ⟨Nat.le_of_ble_eq_true rfl, Nat.le_of_ble_eq_true rfl⟩ rfl (fun r' h' E => o_X9_numberOf l base D cA a0 a1 h r' h' E) E (fun x1 h2 E => ?_)
  refine g_aload_n C 0 dX9_fills_5 rfl rfl ?_
  refine g_iload_n C 1 dX9_fills_6 rfl rfl ?_
  refine g_bipush C 16 dX9_fills_7 rfl ?_
  refine g_invI C (q := (RX9, TX9, 13)) [.int a1, .int 16] dX9_fills_9 cl_X9_49 cv_X9_part rfl (by decide) rfl rfl ⟨Nat.le_of_ble_eq_true rfl, Nat.le_of_ble_eq_true rfl⟩ (Nat.le_of_ble_eq_true rfl) ⟨Nat.le_of_ble_eq_true rfl, Nat.le_of_ble_eq_true rfl⟩ rfl (fun r' h' E => o_X9_part l base D cA a0 a1 16 h2 r' h' E) E (fun x3 h4 E => ?_)
  refine g_isub C dX9_fills_12 ?_
  refine g_istore_n C (lv' := [(2, .int (x1 - x3)), (0, .ref (base + a0)), (1, .int a1)]) dX9_fills_13 rfl (by decide) rfl ?_
  refine g_iload_n C 0 dX9_fills_14 rfl rfl ?_
  refine g_bipush C 6 dX9_fills_15 rfl ?_
  refine g_icmp_ge C 24 dX9_fills_17 (by decide) E (fun E => ?_) (fun E => ?_)
  · refine g_bipush C 6 dX9_fills_24 rfl ?_
    refine g_sub (lv' := [(0, .ref (base + a0)), (1, .int a1)]) [1, 2] rfl ?_
    exact o_X9_fills_J26 C hr a0 a1 6 h4 E
  · refine g_iload_n C 0 dX9_fills_20 rfl rfl ?_
    refine g_goto C 26 dX9_fills_21 (by decide) ?_
    refine g_sub (lv' := [(0, .ref (base + a0)), (1, .int a1)]) [1, 2] rfl ?_
    exact o_X9_fills_J26 C hr a0 a1 (x1 - x3) h4 E
abbrev rm_X9_drains : Room := { frames := 1, cells := 0, slots := 0, locals := 23 }
def s_X9_drains_J22 (v0 : Nat) (v1 : Int32) (v2 : Int32) (w0 : Int32) (h : Hp) : Rv Unit :=
  inv h v0 9 (s_X9_setPart v0 v1 11 w0 h) fun _ h =>
  if v2 = 0 then inv h v0 9 (s_X9_setPart v0 v1 12 0 h) fun _ h =>
  retU h
  else inv h v0 9 (s_X9_part v0 v1 12 h) fun x2 h =>
  divL (x2.toInt64 * w0.toInt64) v2.toInt64 fun x3 =>
  inv h v0 9 (s_X9_setPart v0 v1 12 x3.toInt32 h) fun _ h =>
  retU h
def s_X9_drains (a0 : Nat) (a1 : Int32) (h : Hp) : Rv Unit :=
  inv h a0 9 (s_X9_part a0 a1 11 h) fun x1 h =>
  if 12 ≤ x1 then s_X9_drains_J22 a0 a1 x1 (x1 - 12) h
  else s_X9_drains_J22 a0 a1 x1 0 h
set_option maxRecDepth 100000 in
set_option maxHeartbeats 4000000 in
theorem o_X9_drains_J22 {l : Launch} {base : Nat} {D : va_G} {cA : Nat → ClassId} {p : Program} {e : Env} {s : State} {m : MethodId} {args : Array Value} {below : List Frame} {meth : Method} {c : Code} (C : GC base D cA p s m args meth c cX9_drains 4 RX9) (hr : meth.sig.returnType = none) {X : Unit × Hp} : ∀ (v0 : Nat) (v1 : Int32) (v2 : Int32) (w0 : Int32) (h : Hp), s_X9_drains_J22 v0 v1 v2 w0 h = some X → GW base D cA p l e rm_X9_drains s m args below meth c (MQ below (QcU base D cA X.2) args s 0 0 (AA base)) 4 h 0 0 22 [(0, .ref (base + v0)), (1, .int v1), (2, .int v2)] [.int w0] := by
  intro v0 v1 v2 w0 h E
  unfold s_X9_drains_J22 at E
  refine g_istore_n C (lv' := [(3, .int w0), (0, .ref (base + v0)), (1, .int v1), (2, .int v2)]) dX9_drains_22 rfl (by decide) rfl ?_
  refine g_aload_n C 1 dX9_drains_23 rfl rfl ?_
  refine g_iload_n C 2 dX9_drains_24 rfl rfl ?_
  refine g_bipush C 11 dX9_drains_25 rfl ?_
  refine g_iload_n C 0 dX9_drains_27 rfl rfl ?_
  refine g_invU C (q := (RX9, TX9, 13)) [.int v1, .int 11, .int w0] dX9_drains_28 cl_X9_63 cv_X9_setPart rfl (by decide) rfl rfl ⟨Nat.le_of_ble_eq_true rfl, Nat.le_of_ble_eq_true rfl⟩ (Nat.le_of_ble_eq_true rfl) ⟨Nat.le_of_ble_eq_true rfl, Nat.le_of_ble_eq_true rfl⟩ rfl (fun r' h' E => o_X9_setPart l base D cA v0 v1 11 w0 h r' h' E) E (fun x1 h2 E => ?_)
  refine g_aload_n C 1 dX9_drains_31 rfl rfl ?_
  refine g_iload_n C 2 dX9_drains_32 rfl rfl ?_
  refine g_bipush C 12 dX9_drains_33 rfl ?_
  refine g_iload_n C 3 dX9_drains_35 rfl rfl ?_
  refine g_if_ne C 43 dX9_drains_36 (by decide) E (fun E => ?_) (fun E => ?_)
  · refine g_aload_n C 1 dX9_drains_43 rfl rfl ?_
    refine g_iload_n C 2 dX9_drains_44 rfl rfl ?_
    refine g_bipush C 12 dX9_drains_45 rfl ?_
    refine g_invI C (q := (RX9, TX9, 13)) [.int v1, .int 12] dX9_drains_47 cl_X9_49 cv_X9_part rfl (by decide) rfl rfl ⟨Nat.le_of_ble_eq_true rfl, Nat.le_of_ble_eq_true rfl⟩ (Nat.le_of_ble_eq_true rfl) ⟨Nat.le_of_ble_eq_true rfl, Nat.le_of_ble_eq_true rfl⟩ rfl (fun r' h' E => o_X9_part l base D cA v0 v1 12 h2 r' h' E) E (fun x3 h4 E => ?_)
    refine g_i2l C dX9_drains_50 ?_
    refine g_iload_n C 0 dX9_drains_51 rfl rfl ?_
    refine g_i2l C dX9_drains_52 ?_
    refine g_lmul C dX9_drains_53 ?_
    refine g_iload_n C 3 dX9_drains_54 rfl rfl ?_
    refine g_i2l C dX9_drains_55 ?_
    refine g_ldiv C dX9_drains_56 E (fun x5 E => ?_)
    refine g_l2i C dX9_drains_57 ?_
    refine g_invU C (q := (RX9, TX9, 13)) [.int v1, .int 12, .int x5.toInt32] dX9_drains_58 cl_X9_63 cv_X9_setPart rfl (by decide) rfl rfl ⟨Nat.le_of_ble_eq_true rfl, Nat.le_of_ble_eq_true rfl⟩ (Nat.le_of_ble_eq_true rfl) ⟨Nat.le_of_ble_eq_true rfl, Nat.le_of_ble_eq_true rfl⟩ rfl (fun r' h' E => o_X9_setPart l base D cA v0 v1 12 x5.toInt32 h4 r' h' E) E (fun x6 h7 E => ?_)
    exact g_vret C dX9_drains_61 hr E
  · refine g_iconst C 0 dX9_drains_39 rfl ?_
    refine g_goto C 58 dX9_drains_40 (by decide) ?_
    refine g_invU C (q := (RX9, TX9, 13)) [.int v1, .int 12, .int 0] dX9_drains_58 cl_X9_63 cv_X9_setPart rfl (by decide) rfl rfl ⟨Nat.le_of_ble_eq_true rfl, Nat.le_of_ble_eq_true rfl⟩ (Nat.le_of_ble_eq_true rfl) ⟨Nat.le_of_ble_eq_true rfl, Nat.le_of_ble_eq_true rfl⟩ rfl (fun r' h' E => o_X9_setPart l base D cA v0 v1 12 0 h2 r' h' E) E (fun x8 h9 E => ?_)
    exact g_vret C dX9_drains_61 hr E
set_option maxRecDepth 100000 in
set_option maxHeartbeats 4000000 in
theorem o_X9_drains (l : Launch) (base : Nat) (D : va_G) (cA : Nat → ClassId) (a0 : Nat) (a1 : Int32) (h : Hp) (r : Unit) (h' : Hp) (E : s_X9_drains a0 a1 h = some (r, h')) : Met l yX9_drains (.code yX9_drains cX9_drains 4 none :: wsA) rm_X9_drains (PcG base D cA [.ref (base + a0), .int a1] h) (QcU base D cA h') 0 0 (AA base) := by
  refine g_met [.ref (base + a0), .int a1] (by decide) (Nat.le_of_ble_eq_true rfl) (fun p e s m args below meth c C hr hn => ?_)
  refine g_lv (lv' := [(0, .ref (base + a0)), (1, .int a1)]) rfl ?_
  unfold s_X9_drains at E
  refine g_aload_n C 0 dX9_drains_0 rfl rfl ?_
  refine g_iload_n C 1 dX9_drains_1 rfl rfl ?_
  refine g_bipush C 11 dX9_drains_2 rfl ?_
  refine g_invI C (q := (RX9, TX9, 13)) [.int a1, .int 11] dX9_drains_4 cl_X9_49 cv_X9_part rfl (by decide) rfl rfl ⟨Nat.le_of_ble_eq_true rfl, Nat.le_of_ble_eq_true rfl⟩ (Nat.le_of_ble_eq_true rfl) ⟨Nat.le_of_ble_eq_true rfl, Nat.le_of_ble_eq_true rfl⟩ rfl (fun r' h' E => o_X9_part l base D cA a0 a1 11 h r' h' E) E (fun x1 h2 E => ?_)
  refine g_istore_n C (lv' := [(2, .int x1), (0, .ref (base + a0)), (1, .int a1)]) dX9_drains_7 rfl (by decide) rfl ?_
  refine g_iload_n C 0 dX9_drains_8 rfl rfl ?_
  refine g_bipush C 12 dX9_drains_9 rfl ?_
  refine g_icmp_ge C 18 dX9_drains_11 (by decide) E (fun E => ?_) (fun E => ?_)
  · refine g_iload_n C 0 dX9_drains_18 rfl rfl ?_
    refine g_bipush C 12 dX9_drains_19 rfl ?_
    refine g_isub C dX9_drains_21 ?_
    refine g_sub (lv' := [(0, .ref (base + a0)), (1, .int a1), (2, .int x1)]) [1, 2, 0] rfl ?_
    exact o_X9_drains_J22 C hr a0 a1 x1 (x1 - 12) h2 E
  · refine g_iconst C 0 dX9_drains_14 rfl ?_
    refine g_goto C 22 dX9_drains_15 (by decide) ?_
    refine g_sub (lv' := [(0, .ref (base + a0)), (1, .int a1), (2, .int x1)]) [1, 2, 0] rfl ?_
    exact o_X9_drains_J22 C hr a0 a1 x1 0 h2 E
abbrev rm_X9_isOver : Room := { frames := 2, cells := 0, slots := 0, locals := 43 }
def s_X9_isOver (a0 : Nat) (a1 : Int32) (h : Hp) : Rv Int32 :=
  inv h a0 9 (s_X9_kindOf a0 a1 h) fun x1 h =>
  if x1 = 100 then inv h a0 9 (s_X9_part a0 a1 11 h) fun x2 h =>
  if x2 = 0 then retZ 1 h
  else retZ 0 h
  else if x1 = 102 then inv h a0 9 (s_X9_part a0 a1 16 h) fun x3 h =>
  inv h a0 9 (s_X9_numberOf a0 a1 h) fun x4 h =>
  if x3 = x4 then retZ 1 h
  else retZ 0 h
  else if x1 = 104 then inv h a0 9 (s_X9_temperature a0 a1 h) fun x5 h =>
  inv h a0 9 (s_X9_numberOf a0 a1 h) fun x6 h =>
  if x5 < x6 then retZ 0 h
  else retZ 1 h
  else inv h a0 9 (s_X9_part a0 a1 14 h) fun x7 h =>
  inv h a0 9 (s_X9_numberOf a0 a1 h) fun x8 h =>
  if x7 < x8 then retZ 0 h
  else retZ 1 h
set_option maxRecDepth 100000 in
set_option maxHeartbeats 4000000 in
theorem o_X9_isOver (l : Launch) (base : Nat) (D : va_G) (cA : Nat → ClassId) (a0 : Nat) (a1 : Int32) (h : Hp) (r : Int32) (h' : Hp) (E : s_X9_isOver a0 a1 h = some (r, h')) : Met l yX9_isOver (.code yX9_isOver cX9_isOver 2 (some .boolean) :: wsA) rm_X9_isOver (PcG base D cA [.ref (base + a0), .int a1] h) (QcI base D cA r h') 0 0 (AA base) := by
  refine g_met [.ref (base + a0), .int a1] (by decide) (Nat.le_of_ble_eq_true rfl) (fun p e s m args below meth c C hr hn => ?_)
  refine g_lv (lv' := [(0, .ref (base + a0)), (1, .int a1)]) rfl ?_
  unfold s_X9_isOver at E
  refine g_aload_n C 0 dX9_isOver_0 rfl rfl ?_
  refine g_iload_n C 1 dX9_isOver_1 rfl rfl ?_
  refine g_invI C (q := (RX9, TX9, 13)) [.int a1] dX9_isOver_2 cl_X9_82 cv_X9_kindOf rfl (by decide) rfl rfl ⟨Nat.le_of_ble_eq_true rfl, Nat.le_of_ble_eq_true rfl⟩ (Nat.le_of_ble_eq_true rfl) ⟨Nat.le_of_ble_eq_true rfl, Nat.le_of_ble_eq_true rfl⟩ rfl (fun r' h' E => o_X9_kindOf l base D cA a0 a1 h r' h' E) E (fun x1 h2 E => ?_)
  by_cases q3 : x1 = 100
  · rw [if_pos q3] at E
    refine g_tswIn C 100 80 q3 dX9_isOver_5 (by decide) (by decide) rfl (by decide) ?_
    refine g_aload_n C 0 dX9_isOver_80 rfl rfl ?_
    refine g_iload_n C 1 dX9_isOver_81 rfl rfl ?_
    refine g_bipush C 11 dX9_isOver_82 rfl ?_
    refine g_invI C (q := (RX9, TX9, 13)) [.int a1, .int 11] dX9_isOver_84 cl_X9_49 cv_X9_part rfl (by decide) rfl rfl ⟨Nat.le_of_ble_eq_true rfl, Nat.le_of_ble_eq_true rfl⟩ (Nat.le_of_ble_eq_true rfl) ⟨Nat.le_of_ble_eq_true rfl, Nat.le_of_ble_eq_true rfl⟩ rfl (fun r' h' E => o_X9_part l base D cA a0 a1 11 h2 r' h' E) E (fun x4 h5 E => ?_)
    refine g_if_ne C 94 dX9_isOver_87 (by decide) E (fun E => ?_) (fun E => ?_)
    · refine g_iconst C 0 dX9_isOver_94 rfl ?_
      exact g_zret C dX9_isOver_95 hr E
    · refine g_iconst C 1 dX9_isOver_90 rfl ?_
      refine g_goto C 95 dX9_isOver_91 (by decide) ?_
      exact g_zret C dX9_isOver_95 hr E
  rw [if_neg q3] at E
  by_cases q6 : x1 = 102
  · rw [if_pos q6] at E
    refine g_tswIn C 102 40 q6 dX9_isOver_5 (by decide) (by decide) rfl (by decide) ?_
    refine g_aload_n C 0 dX9_isOver_40 rfl rfl ?_
    refine g_iload_n C 1 dX9_isOver_41 rfl rfl ?_
    refine g_bipush C 16 dX9_isOver_42 rfl ?_
    refine g_invI C (q := (RX9, TX9, 13)) [.int a1, .int 16] dX9_isOver_44 cl_X9_49 cv_X9_part rfl (by decide) rfl rfl ⟨Nat.le_of_ble_eq_true rfl, Nat.le_of_ble_eq_true rfl⟩ (Nat.le_of_ble_eq_true rfl) ⟨Nat.le_of_ble_eq_true rfl, Nat.le_of_ble_eq_true rfl⟩ rfl (fun r' h' E => o_X9_part l base D cA a0 a1 16 h2 r' h' E) E (fun x7 h8 E => ?_)
    refine g_aload_n C 0 dX9_isOver_47 rfl rfl ?_
    refine g_iload_n C 1 dX9_isOver_48 rfl rfl ?_
    refine g_invI C (q := (RX9, TX9, 13)) [.int a1] dX9_isOver_49 cl_X9_88 cv_X9_numberOf rfl (by decide) rfl rfl ⟨Nat.le_of_ble_eq_true rfl, Nat.le_of_ble_eq_true rfl⟩ (Nat.le_of_ble_eq_true rfl) ⟨Nat.le_of_ble_eq_true rfl, Nat.le_of_ble_eq_true rfl⟩ rfl (fun r' h' E => o_X9_numberOf l base D cA a0 a1 h8 r' h' E) E (fun x9 h10 E => ?_)
    refine g_icmp_ne C 59 dX9_isOver_52 (by decide) E (fun E => ?_) (fun E => ?_)
    · refine g_iconst C 0 dX9_isOver_59 rfl ?_
      exact g_zret C dX9_isOver_60 hr E
    · refine g_iconst C 1 dX9_isOver_55 rfl ?_
      refine g_goto C 60 dX9_isOver_56 (by decide) ?_
      exact g_zret C dX9_isOver_60 hr E
  rw [if_neg q6] at E
  by_cases q11 : x1 = 104
  · rw [if_pos q11] at E
    refine g_tswIn C 104 61 q11 dX9_isOver_5 (by decide) (by decide) rfl (by decide) ?_
    refine g_aload_n C 0 dX9_isOver_61 rfl rfl ?_
    refine g_iload_n C 1 dX9_isOver_62 rfl rfl ?_
    refine g_invI C (q := (RX9, TX9, 13)) [.int a1] dX9_isOver_63 cl_X9_68 cv_X9_temperature rfl (by decide) rfl rfl ⟨Nat.le_of_ble_eq_true rfl, Nat.le_of_ble_eq_true rfl⟩ (Nat.le_of_ble_eq_true rfl) ⟨Nat.le_of_ble_eq_true rfl, Nat.le_of_ble_eq_true rfl⟩ rfl (fun r' h' E => o_X9_temperature l base D cA a0 a1 h2 r' h' E) E (fun x12 h13 E => ?_)
    refine g_aload_n C 0 dX9_isOver_66 rfl rfl ?_
    refine g_iload_n C 1 dX9_isOver_67 rfl rfl ?_
    refine g_invI C (q := (RX9, TX9, 13)) [.int a1] dX9_isOver_68 cl_X9_88 cv_X9_numberOf rfl (by decide) rfl rfl ⟨Nat.le_of_ble_eq_true rfl, Nat.le_of_ble_eq_true rfl⟩ (Nat.le_of_ble_eq_true rfl) ⟨Nat.le_of_ble_eq_true rfl, Nat.le_of_ble_eq_true rfl⟩ rfl (fun r' h' E => o_X9_numberOf l base D cA a0 a1 h13 r' h' E) E (fun x14 h15 E => ?_)
    refine g_icmp_lt C 78 dX9_isOver_71 (by decide) E (fun E => ?_) (fun E => ?_)
    · refine g_iconst C 0 dX9_isOver_78 rfl ?_
      exact g_zret C dX9_isOver_79 hr E
    · refine g_iconst C 1 dX9_isOver_74 rfl ?_
      refine g_goto C 79 dX9_isOver_75 (by decide) ?_
      exact g_zret C dX9_isOver_79 hr E
  rw [if_neg q11] at E
  refine g_tswDf C 96 dX9_isOver_5 (fun z z1 z2 zx => ?_) (by decide) ?_
  · rcases (show z = 100 ∨ z = 101 ∨ z = 102 ∨ z = 103 ∨ z = 104 by omega) with rfl | rfl | rfl | rfl | rfl
    · exact absurd zx (lv_neT q3 (by decide))
    · rfl
    · exact absurd zx (lv_neT q6 (by decide))
    · rfl
    · exact absurd zx (lv_neT q11 (by decide))
  refine g_aload_n C 0 dX9_isOver_96 rfl rfl ?_
  refine g_iload_n C 1 dX9_isOver_97 rfl rfl ?_
  refine g_bipush C 14 dX9_isOver_98 rfl ?_
  refine g_invI C (q := (RX9, TX9, 13)) [.int a1, .int 14] dX9_isOver_100 cl_X9_49 cv_X9_part rfl (by decide) rfl rfl ⟨Nat.le_of_ble_eq_true rfl, Nat.le_of_ble_eq_true rfl⟩ (Nat.le_of_ble_eq_true rfl) ⟨Nat.le_of_ble_eq_true rfl, Nat.le_of_ble_eq_true rfl⟩ rfl (fun r' h' E => o_X9_part l base D cA a0 a1 14 h2 r' h' E) E (fun x16 h17 E => ?_)
  refine g_aload_n C 0 dX9_isOver_103 rfl rfl ?_
  refine g_iload_n C 1 dX9_isOver_104 rfl rfl ?_
  refine g_invI C (q := (RX9, TX9, 13)) [.int a1] dX9_isOver_105 cl_X9_88 cv_X9_numberOf rfl (by decide) rfl rfl ⟨Nat.le_of_ble_eq_true rfl, Nat.le_of_ble_eq_true rfl⟩ (Nat.le_of_ble_eq_true rfl) ⟨Nat.le_of_ble_eq_true rfl, Nat.le_of_ble_eq_true rfl⟩ rfl (fun r' h' E => o_X9_numberOf l base D cA a0 a1 h17 r' h' E) E (fun x18 h19 E => ?_)
  refine g_icmp_lt C 115 dX9_isOver_108 (by decide) E (fun E => ?_) (fun E => ?_)
  · refine g_iconst C 0 dX9_isOver_115 rfl ?_
    exact g_zret C dX9_isOver_116 hr E
  · refine g_iconst C 1 dX9_isOver_111 rfl ?_
    refine g_goto C 116 dX9_isOver_112 (by decide) ?_
    exact g_zret C dX9_isOver_116 hr E
