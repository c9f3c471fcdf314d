abbrev rm_X9_isInRange : Room := { frames := 1, cells := 0, slots := 0, locals := 22 }
def s_X9_isInRange (a0 : Nat) (a1 : Int32) (h : Hp) : Rv Int32 :=
  getR h a0 9 12 fun x1 =>
  ldI h x1 20 a1 fun x2 =>
  getR h a0 9 11 fun x3 =>
  ldI h x3 20 a1 fun x4 =>
  if x4 = 102 then if 60 < x2 then retZ 0 h
  else retZ 1 h
  else if x4 = 104 then bnd (s_X9_within x2 16 95 h) fun x5 h =>
  retZ x5 h
  else if x4 = 115 then if 30 < x2 then retZ 0 h
  else retZ 1 h
  else retZ 1 h
set_option maxRecDepth 100000 in
set_option maxHeartbeats 4000000 in
theorem o_X9_isInRange (l : Launch) (base : Nat) (D : va_G) (cA : Nat → ClassId) (a0 : Nat) (a1 : Int32) (h : Hp) (r : Int32) (h' : Hp) (E : s_X9_isInRange a0 a1 h = some (r, h')) : Met l yX9_isInRange (.code yX9_isInRange cX9_isInRange 3 (some .boolean) :: wsA) rm_X9_isInRange (PcG base D cA [.ref (base + a0), .int a1] h) (QcI base D cA r h') 0 0 (AA base) := by
  refine g_met [.ref (base + a0), .int a1] (by decide) (Nat.le_of_ble_eq_true rfl) (fun p e s m args below meth c C hr hn => ?_)
  refine g_lv (lv' := [(0, .ref (base + a0)), (1, .int a1)]) rfl ?_
  unfold s_X9_isInRange at E
  refine g_aload_n C 0 dX9_isInRange_0 rfl rfl ?_
  refine g_getR C dX9_isInRange_1 fl_X9_34 rfl E (fun x1 E => ?_)
  refine g_iload_n C 1 dX9_isInRange_4 rfl rfl ?_
  refine g_iald C dX9_isInRange_5 E (fun x2 E => ?_)
  refine g_istore_n C (lv' := [(2, .int x2), (0, .ref (base + a0)), (1, .int a1)]) dX9_isInRange_6 rfl (by decide) rfl ?_
  refine g_aload_n C 1 dX9_isInRange_7 rfl rfl ?_
  refine g_getR C dX9_isInRange_8 fl_X9_31 rfl E (fun x3 E => ?_)
  refine g_iload_n C 2 dX9_isInRange_11 rfl rfl ?_
  refine g_iald C dX9_isInRange_12 E (fun x4 E => ?_)
  by_cases q5 : x4 = 102
  · rw [if_pos q5] at E
    refine g_lsw C (off := 35) 48 dX9_isInRange_13 (by decide) (by rw [q5]; rfl) (by decide) ?_
    refine g_iload_n C 0 dX9_isInRange_48 rfl rfl ?_
    refine g_bipush C 60 dX9_isInRange_49 rfl ?_
    refine g_icmp_gt C 58 dX9_isInRange_51 (by decide) E (fun E => ?_) (fun E => ?_)
    · refine g_iconst C 0 dX9_isInRange_58 rfl ?_
      exact g_zret C dX9_isInRange_59 hr E
    · refine g_iconst C 1 dX9_isInRange_54 rfl ?_
      refine g_goto C 59 dX9_isInRange_55 (by decide) ?_
      exact g_zret C dX9_isInRange_59 hr E
  rw [if_neg q5] at E
  by_cases q6 : x4 = 104
  · rw [if_pos q6] at E
    refine g_lsw C (off := 47) 60 dX9_isInRange_13 (by decide) (by rw [q6]; rfl) (by decide) ?_
    refine g_iload_n C 0 dX9_isInRange_60 rfl rfl ?_
    refine g_bipush C 16 dX9_isInRange_61 rfl ?_
    refine g_bipush C 95 dX9_isInRange_63 rfl ?_
    refine g_staI C [.int x2, .int 16, .int 95] dX9_isInRange_65 cl_X9_45 cs_X9_within rfl rfl ⟨Nat.le_of_ble_eq_true rfl, Nat.le_of_ble_eq_true rfl⟩ (Nat.le_of_ble_eq_true rfl) ⟨Nat.le_of_ble_eq_true rfl, Nat.le_of_ble_eq_true rfl⟩ rfl (fun r' h' E => o_X9_within l base D cA x2 16 95 h r' h' E) E (fun x7 h8 E => ?_)
    exact g_zret C dX9_isInRange_68 hr E
  rw [if_neg q6] at E
  by_cases q9 : x4 = 115
  · rw [if_pos q9] at E
    refine g_lsw C (off := 56) 69 dX9_isInRange_13 (by decide) (by rw [q9]; rfl) (by decide) ?_
    refine g_iload_n C 0 dX9_isInRange_69 rfl rfl ?_
    refine g_bipush C 30 dX9_isInRange_70 rfl ?_
    refine g_icmp_gt C 79 dX9_isInRange_72 (by decide) E (fun E => ?_) (fun E => ?_)
    · refine g_iconst C 0 dX9_isInRange_79 rfl ?_
      exact g_zret C dX9_isInRange_80 hr E
    · refine g_iconst C 1 dX9_isInRange_75 rfl ?_
      refine g_goto C 80 dX9_isInRange_76 (by decide) ?_
      exact g_zret C dX9_isInRange_80 hr E
  rw [if_neg q9] at E
  refine g_lsw C (off := 68) 81 dX9_isInRange_13 (by decide) (by show Op.lookupswitch.offset [(102, 35), (104, 47), (115, 56)] 68 _ = _; rw [lv_osw q5 (by decide), lv_osw q6 (by decide), lv_osw q9 (by decide)]; rfl) (by decide) ?_
  refine g_iconst C 1 dX9_isInRange_81 rfl ?_
  exact g_zret C dX9_isInRange_82 hr E
abbrev rm_X9_readProgram : Room := { frames := 2, cells := 0, slots := 0, locals := 46 }
def s_X9_readProgram_L28 (k53 : Nat → Int32 → Hp → Rv Int32) : Nat → Nat → Int32 → Int32 → Hp → Rv Int32
  | 0, _, _, _, _ => none
  | n + 1, v0, v1, v3, h =>
    getI h v0 9 10 fun x3 =>
  if x3 ≤ v3 then k53 v0 v1 h
  else inv h v0 9 (s_X9_isInRange v0 v3 h) fun x4 h =>
  if x4 = 0 then retI (-2) h
  else s_X9_readProgram_L28 k53 n v0 v1 (v3 + 1) h
def s_X9_readProgram_L82 : Nat → Nat → Int32 → Int32 → Hp → Rv Int32
  | 0, _, _, _, _ => none
  | n + 1, v0, v1, v3, h =>
    getI h v0 9 10 fun x7 =>
  if x7 ≤ v3 then getI h v0 9 10 fun x8 =>
  inv h v0 9 (s_X9_setPart v0 v1 15 x8 h) fun _ h =>
  getI h v0 9 10 fun x9 =>
  retI x9 h
  else getR h v0 9 11 fun x10 =>
  ldI h x10 20 v3 fun x11 =>
  inv h v0 9 (s_X9_setPart v0 v1 (18 + v3) x11 h) fun _ h =>
  getR h v0 9 12 fun x12 =>
  ldI h x12 20 v3 fun x13 =>
  inv h v0 9 (s_X9_setPart v0 v1 (30 + v3) x13 h) fun _ h =>
  s_X9_readProgram_L82 n v0 v1 (v3 + 1) h
def s_X9_readProgram (a0 : Nat) (a1 : Int32) (h : Hp) : Rv Int32 :=
  inv h a0 9 (s_X9_isHouse a0 a1 h) fun x1 h =>
  if x1 = 0 then retI (-1) h
  else inv h a0 9 (s_X9_readText a0 h) fun x2 h =>
  if x2 = (-5) then s_X9_readProgram_L28 (fun y0 y1 h => getI h y0 9 10 fun x5 =>
  if x5 ≤ 12 then inv h y0 9 (s_X9_runs y0 y1 h) fun x6 h =>
  if x6 = 0 then inv h y0 9 (s_X9_record y0 h) fun _ h =>
  s_X9_readProgram_L82 100000 y0 y1 0 h
  else retI (-4) h
  else retI (-3) h) 100000 a0 a1 0 h
  else retI ((-100) - x2) h
set_option maxRecDepth 100000 in
set_option maxHeartbeats 4000000 in
theorem o_X9_readProgram_L28 {l : Launch} {base : Nat} {D : va_G} {cA : Nat → ClassId} {p : Program} {e : Env} {s : State} {m : MethodId} {args : Array Value} {below : List Frame} {meth : Method} {c : Code} (C : GC base D cA p s m args meth c cX9_readProgram 4 RX9) (hr : meth.sig.returnType = (some .int)) {X : Int32 × Hp} {k53 : Nat → Int32 → Hp → Rv Int32} (K53 : ∀ (y0 : Nat) (y1 : Int32) (h : Hp), k53 y0 y1 h = some X → GW base D cA p l e rm_X9_readProgram s m args below meth c (MQ below (QcI base D cA X.1 X.2) args s 0 0 (AA base)) 4 h 0 0 53 [(0, .ref (base + y0)), (1, .int y1)] []) : ∀ (n : Nat) (v0 : Nat) (v1 : Int32) (v3 : Int32) (h : Hp), s_X9_readProgram_L28 k53 n v0 v1 v3 h = some X → GW base D cA p l e rm_X9_readProgram s m args below meth c (MQ below (QcI base D cA X.1 X.2) args s 0 0 (AA base)) 4 h 0 0 28 [(0, .ref (base + v0)), (1, .int v1), (3, .int v3)] [] := by
  intro n
  induction n with
  | zero =>
    intro v0 v1 v3 h E
    rw [s_X9_readProgram_L28] at E
    cases E
  | succ n ih =>
    intro v0 v1 v3 h E
    rw [s_X9_readProgram_L28] at E
    refine g_iload_n C 2 dX9_readProgram_28 rfl rfl ?_
    refine g_aload_n C 0 dX9_readProgram_29 rfl rfl ?_
    refine g_getI C dX9_readProgram_30 fl_X9_148 (by decide) (by decide) E (fun x1 E => ?_)
    refine g_icmp_ge C 53 dX9_readProgram_33 (by decide) E (fun E => ?_) (fun E => ?_)
    · refine g_sub (lv' := [(0, .ref (base + v0)), (1, .int v1)]) [0, 1] rfl ?_
      exact K53 v0 v1 h E
    · refine g_aload_n C 0 dX9_readProgram_36 rfl rfl ?_
      refine g_iload_n C 2 dX9_readProgram_37 rfl rfl ?_
      refine g_invI C (q := (RX9, TX9, 13)) [.int v3] dX9_readProgram_38 cl_X9_160 cv_X9_isInRange rfl (by decide) rfl rfl ⟨Nat.le_of_ble_eq_true rfl, Nat.le_of_ble_eq_true rfl⟩ (Nat.le_of_ble_eq_true rfl) ⟨Nat.le_of_ble_eq_true rfl, Nat.le_of_ble_eq_true rfl⟩ rfl (fun r' h' E => o_X9_isInRange l base D cA v0 v3 h r' h' E) E (fun x2 h3 E => ?_)
      refine g_if_ne C 47 dX9_readProgram_41 (by decide) E (fun E => ?_) (fun E => ?_)
      · refine g_iinc C (lv' := [(3, .int (v3 + 1)), (0, .ref (base + v0)), (1, .int v1)]) 2 1 dX9_readProgram_47 rfl rfl (by decide) rfl ?_
        refine g_goto C 28 dX9_readProgram_50 (by decide) ?_
        refine g_sub (lv' := [(0, .ref (base + v0)), (1, .int v1), (3, .int (v3 + 1))]) [1, 2, 0] rfl ?_
        exact ih v0 v1 (v3 + 1) h3 E
      · refine g_bipush C (-2) dX9_readProgram_44 rfl ?_
        exact g_iret C dX9_readProgram_46 hr E
set_option maxRecDepth 100000 in
set_option maxHeartbeats 4000000 in
theorem o_X9_readProgram_L82 {l : Launch} {base : Nat} {D : va_G} {cA : Nat → ClassId} {p : Program} {e : Env} {s : State} {m : MethodId} {args : Array Value} {below : List Frame} {meth : Method} {c : Code} (C : GC base D cA p s m args meth c cX9_readProgram 4 RX9) (hr : meth.sig.returnType = (some .int)) {X : Int32 × Hp} : ∀ (n : Nat) (v0 : Nat) (v1 : Int32) (v3 : Int32) (h : Hp), s_X9_readProgram_L82 n v0 v1 v3 h = some X → GW base D cA p l e rm_X9_readProgram s m args below meth c (MQ below (QcI base D cA X.1 X.2) args s 0 0 (AA base)) 4 h 0 0 82 [(0, .ref (base + v0)), (1, .int v1), (3, .int v3)] [] := by
  intro n
  induction n with
  | zero =>
    intro v0 v1 v3 h E
    rw [s_X9_readProgram_L82] at E
    cases E
  | succ n ih =>
    intro v0 v1 v3 h E
    rw [s_X9_readProgram_L82] at E
    refine g_iload_n C 2 dX9_readProgram_82 rfl rfl ?_
    refine g_aload_n C 0 dX9_readProgram_83 rfl rfl ?_
    refine g_getI C dX9_readProgram_84 fl_X9_148 (by decide) (by decide) E (fun x1 E => ?_)
    refine g_icmp_ge C 126 dX9_readProgram_87 (by decide) E (fun E => ?_) (fun E => ?_)
    · refine g_aload_n C 0 dX9_readProgram_126 rfl rfl ?_
      refine g_iload_n C 1 dX9_readProgram_127 rfl rfl ?_
      refine g_bipush C 15 dX9_readProgram_128 rfl ?_
      refine g_aload_n C 0 dX9_readProgram_130 rfl rfl ?_
      refine g_getI C dX9_readProgram_131 fl_X9_148 (by decide) (by decide) E (fun x2 E => ?_)
      refine g_invU C (q := (RX9, TX9, 13)) [.int v1, .int 15, .int x2] dX9_readProgram_134 cl_X9_63 cv_X9_setPart rfl (by decide) rfl rfl ⟨Nat.le_of_ble_eq_true rfl, Nat.le_of_ble_eq_true rfl⟩ (Nat.le_of_ble_eq_true rfl) ⟨Nat.le_of_ble_eq_true rfl, Nat.le_of_ble_eq_true rfl⟩ rfl (fun r' h' E => o_X9_setPart l base D cA v0 v1 15 x2 h r' h' E) E (fun x3 h4 E => ?_)
      refine g_aload_n C 0 dX9_readProgram_137 rfl rfl ?_
      refine g_getI C dX9_readProgram_138 fl_X9_148 (by decide) (by decide) E (fun x5 E => ?_)
      exact g_iret C dX9_readProgram_141 hr E
    · refine g_aload_n C 0 dX9_readProgram_90 rfl rfl ?_
      refine g_iload_n C 1 dX9_readProgram_91 rfl rfl ?_
      refine g_bipush C 18 dX9_readProgram_92 rfl ?_
      refine g_iload_n C 2 dX9_readProgram_94 rfl rfl ?_
      refine g_iadd C dX9_readProgram_95 ?_
      refine g_aload_n C 0 dX9_readProgram_96 rfl rfl ?_
      refine g_getR C dX9_readProgram_97 fl_X9_31 rfl E (fun x6 E => ?_)
      refine g_iload_n C 2 dX9_readProgram_100 rfl rfl ?_
      refine g_iald C dX9_readProgram_101 E (fun x7 E => ?_)
      refine g_invU C (q := (RX9, TX9, 13)) [.int v1, .int (18 + v3), .int x7] dX9_readProgram_102 cl_X9_63 cv_X9_setPart rfl (by decide) rfl rfl ⟨Nat.le_of_ble_eq_true rfl, Nat.le_of_ble_eq_true rfl⟩ (Nat.le_of_ble_eq_true rfl) ⟨Nat.le_of_ble_eq_true rfl, Nat.le_of_ble_eq_true rfl⟩ rfl (fun r' h' E => o_X9_setPart l base D cA v0 v1 (18 + v3) x7 h r' h' E) E (fun x8 h9 E => ?_)
      refine g_aload_n C 0 dX9_readProgram_105 rfl rfl ?_
      refine g_iload_n C 1 dX9_readProgram_106 rfl rfl ?_
      refine g_bipush C 30 dX9_readProgram_107 rfl ?_
      refine g_iload_n C 2 dX9_readProgram_109 rfl rfl ?_
      refine g_iadd C dX9_readProgram_110 ?_
      refine g_aload_n C 0 dX9_readProgram_111 rfl rfl ?_
      refine g_getR C dX9_readProgram_112 fl_X9_34 rfl E (fun x10 E => ?_)
      refine g_iload_n C 2 dX9_readProgram_115 rfl rfl ?_
      refine g_iald C dX9_readProgram_116 E (fun x11 E => ?_)
      refine g_invU C (q := (RX9, TX9, 13)) [.int v1, .int (30 + v3), .int x11] dX9_readProgram_117 cl_X9_63 cv_X9_setPart rfl (by decide) rfl rfl ⟨Nat.le_of_ble_eq_true rfl, Nat.le_of_ble_eq_true rfl⟩ (Nat.le_of_ble_eq_true rfl) ⟨Nat.le_of_ble_eq_true rfl, Nat.le_of_ble_eq_true rfl⟩ rfl (fun r' h' E => o_X9_setPart l base D cA v0 v1 (30 + v3) x11 h9 r' h' E) E (fun x12 h13 E => ?_)
      refine g_iinc C (lv' := [(3, .int (v3 + 1)), (0, .ref (base + v0)), (1, .int v1)]) 2 1 dX9_readProgram_120 rfl rfl (by decide) rfl ?_
      refine g_goto C 82 dX9_readProgram_123 (by decide) ?_
      refine g_sub (lv' := [(0, .ref (base + v0)), (1, .int v1), (3, .int (v3 + 1))]) [1, 2, 0] rfl ?_
      exact ih v0 v1 (v3 + 1) h13 E
set_option maxRecDepth 100000 in
set_option maxHeartbeats 4000000 in
theorem o_X9_readProgram (l : Launch) (base : Nat) (D : va_G) (cA : Nat → ClassId) (a0 : Nat) (a1 : Int32) (h : Hp) (r : Int32) (h' : Hp) (E : s_X9_readProgram a0 a1 h = some (r, h')) : Met l yX9_readProgram (.code yX9_readProgram cX9_readProgram 4 (some .int) :: wsA) rm_X9_readProgram (PcG base D cA [.ref (base + a0), .int a1] h) (QcI base D cA r h') 0 0 (AA base) := by
  refine g_met [.ref (base + a0), .int a1] (by decide) (Nat.le_of_ble_eq_true rfl) (fun p e s m args below meth c C hr hn => ?_)
  refine g_lv (lv' := [(0, .ref (base + a0)), (1, .int a1)]) rfl ?_
  unfold s_X9_readProgram at E
  refine g_aload_n C 0 dX9_readProgram_0 rfl rfl ?_
  refine g_iload_n C 1 dX9_readProgram_1 rfl rfl ?_
  refine g_invI C (q := (RX9, TX9, 13)) [.int a1] dX9_readProgram_2 cl_X9_154 cv_X9_isHouse rfl (by decide) rfl rfl ⟨Nat.le_of_ble_eq_true rfl, Nat.le_of_ble_eq_true rfl⟩ (Nat.le_of_ble_eq_true rfl) ⟨Nat.le_of_ble_eq_true rfl, Nat.le_of_ble_eq_true rfl⟩ rfl (fun r' h' E => o_X9_isHouse l base D cA a0 a1 h r' h' E) E (fun x1 h2 E => ?_)
  refine g_if_ne C 10 dX9_readProgram_5 (by decide) E (fun E => ?_) (fun E => ?_)
  · refine g_aload_n C 0 dX9_readProgram_10 rfl rfl ?_
    refine g_invI C (q := (RX9, TX9, 13)) [] dX9_readProgram_11 cl_X9_157 cv_X9_readText rfl (by decide) rfl rfl ⟨Nat.le_of_ble_eq_true rfl, Nat.le_of_ble_eq_true rfl⟩ (Nat.le_of_ble_eq_true rfl) ⟨Nat.le_of_ble_eq_true rfl, Nat.le_of_ble_eq_true rfl⟩ rfl (fun r' h' E => o_X9_readText l base D cA a0 h2 r' h' E) E (fun x3 h4 E => ?_)
    refine g_istore_n C (lv' := [(2, .int x3), (0, .ref (base + a0)), (1, .int a1)]) dX9_readProgram_14 rfl (by decide) rfl ?_
    refine g_iload_n C 0 dX9_readProgram_15 rfl rfl ?_
    refine g_bipush C (-5) dX9_readProgram_16 rfl ?_
    refine g_icmp_eq C 26 dX9_readProgram_18 (by decide) E (fun E => ?_) (fun E => ?_)
    · refine g_iconst C 0 dX9_readProgram_26 rfl ?_
      refine g_istore_n C (lv' := [(3, .int 0), (2, .int x3), (0, .ref (base + a0)), (1, .int a1)]) dX9_readProgram_27 rfl (by decide) rfl ?_
      refine g_sub (lv' := [(0, .ref (base + a0)), (1, .int a1), (3, .int 0)]) [2, 3, 0] rfl ?_
      refine o_X9_readProgram_L28 C hr ?_ _ a0 a1 0 h4 E
      · intro y5 y6 h7 E
        refine g_aload_n C 0 dX9_readProgram_53 rfl rfl ?_
        refine g_getI C dX9_readProgram_54 fl_X9_148 (by decide) (by decide) E (fun x8 E => ?_)
        refine g_bipush C 12 dX9_readProgram_57 rfl ?_
        refine g_icmp_le C 65 dX9_readProgram_59 (by decide) E (fun E => ?_) (fun E => ?_)
        · refine g_aload_n C 0 dX9_readProgram_65 rfl rfl ?_
          refine g_iload_n C 1 dX9_readProgram_66 rfl rfl ?_
          refine g_invI C (q := (RX9, TX9, 13)) [.int y6] dX9_readProgram_67 cl_X9_79 cv_X9_runs rfl (by decide) rfl rfl ⟨Nat.le_of_ble_eq_true rfl, Nat.le_of_ble_eq_true rfl⟩ (Nat.le_of_ble_eq_true rfl) ⟨Nat.le_of_ble_eq_true rfl, Nat.le_of_ble_eq_true rfl⟩ rfl (fun r' h' E => o_X9_runs l base D cA y5 y6 h7 r' h' E) E (fun x9 h10 E => ?_)
          refine g_if_eq C 76 dX9_readProgram_70 (by decide) E (fun E => ?_) (fun E => ?_)
          · refine g_aload_n C 0 dX9_readProgram_76 rfl rfl ?_
            refine g_invU C (q := (RX9, TX9, 13)) [] dX9_readProgram_77 cl_X9_60 cv_X9_record rfl (by decide) rfl rfl ⟨Nat.le_of_ble_eq_true rfl, Nat.le_of_ble_eq_true rfl⟩ (Nat.le_of_ble_eq_true rfl) ⟨Nat.le_of_ble_eq_true rfl, Nat.le_of_ble_eq_true rfl⟩ rfl (fun r' h' E => o_X9_record l base D cA y5 h10 r' h' E) E (fun x11 h12 E => ?_)
            refine g_iconst C 0 dX9_readProgram_80 rfl ?_
            refine g_istore_n C (lv' := [(3, .int 0), (0, .ref (base + y5)), (1, .int y6)]) dX9_readProgram_81 rfl (by decide) rfl ?_
            refine g_sub (lv' := [(0, .ref (base + y5)), (1, .int y6), (3, .int 0)]) [1, 2, 0] rfl ?_
            exact o_X9_readProgram_L82 C hr _ y5 y6 0 h12 E
          · refine g_bipush C (-4) dX9_readProgram_73 rfl ?_
            exact g_iret C dX9_readProgram_75 hr E
        · refine g_bipush C (-3) dX9_readProgram_62 rfl ?_
          exact g_iret C dX9_readProgram_64 hr E
    · refine g_bipush C (-100) dX9_readProgram_21 rfl ?_
      refine g_iload_n C 0 dX9_readProgram_23 rfl rfl ?_
      refine g_isub C dX9_readProgram_24 ?_
      exact g_iret C dX9_readProgram_25 hr E
  · refine g_iconst C (-1) dX9_readProgram_8 rfl ?_
    exact g_iret C dX9_readProgram_9 hr E
abbrev rm_X9_start : Room := { frames := 2, cells := 0, slots := 0, locals := 45 }
def s_X9_start (a0 : Nat) (a1 : Int32) (h : Hp) : Rv Int32 :=
  inv h a0 9 (s_X9_isHouse a0 a1 h) fun x1 h =>
  if x1 = 0 then retI (-1) h
  else getR h a0 9 0 fun x2 =>
  ldI h x2 20 1 fun x3 =>
  if x3 = 0 then retI (-4) h
  else inv h a0 9 (s_X9_part a0 a1 15 h) fun x4 h =>
  if x4 = 0 then retI (-4) h
  else inv h a0 9 (s_X9_part a0 a1 9 h) fun x5 h =>
  if x5 = 0 then inv h a0 9 (s_X9_part a0 a1 13 h) fun x6 h =>
  if x6 = 0 then retI (-4) h
  else inv h a0 9 (s_X9_record a0 h) fun _ h =>
  inv h a0 9 (s_X9_setPart a0 a1 9 1 h) fun _ h =>
  inv h a0 9 (s_X9_setPart a0 a1 13 2 h) fun _ h =>
  inv h a0 9 (s_X9_beginPhase a0 a1 0 h) fun _ h =>
  inv h a0 9 (s_X9_part a0 a1 15 h) fun x7 h =>
  retI x7 h
  else retI (-4) h
set_option maxRecDepth 100000 in
set_option maxHeartbeats 4000000 in
theorem o_X9_start (l : Launch) (base : Nat) (D : va_G) (cA : Nat → ClassId) (a0 : Nat) (a1 : Int32) (h : Hp) (r : Int32) (h' : Hp) (E : s_X9_start a0 a1 h = some (r, h')) : Met l yX9_start (.code yX9_start cX9_start 2 (some .int) :: wsA) rm_X9_start (PcG base D cA [.ref (base + a0), .int a1] h) (QcI base D cA r h') 0 0 (AA base) := by
  refine g_met [.ref (base + a0), .int a1] (by decide) (Nat.le_of_ble_eq_true rfl) (fun p e s m args below meth c C hr hn => ?_)
  refine g_lv (lv' := [(0, .ref (base + a0)), (1, .int a1)]) rfl ?_
  unfold s_X9_start at E
  refine g_aload_n C 0 dX9_start_0 rfl rfl ?_
  refine g_iload_n C 1 dX9_start_1 rfl rfl ?_
  refine g_invI C (q := (RX9, TX9, 13)) [.int a1] dX9_start_2 cl_X9_154 cv_X9_isHouse rfl (by decide) rfl rfl ⟨Nat.le_of_ble_eq_true rfl, Nat.le_of_ble_eq_true rfl⟩ (Nat.le_of_ble_eq_true rfl) ⟨Nat.le_of_ble_eq_true rfl, Nat.le_of_ble_eq_true rfl⟩ rfl (fun r' h' E => o_X9_isHouse l base D cA a0 a1 h r' h' E) E (fun x1 h2 E => ?_)
  refine g_if_ne C 10 dX9_start_5 (by decide) E (fun E => ?_) (fun E => ?_)
  · refine g_aload_n C 0 dX9_start_10 rfl rfl ?_
    refine g_getR C dX9_start_11 fl_X9_7 rfl E (fun x3 E => ?_)
    refine g_iconst C 1 dX9_start_14 rfl ?_
    refine g_iald C dX9_start_15 E (fun x4 E => ?_)
    refine g_if_eq C 49 dX9_start_16 (by decide) E (fun E => ?_) (fun E => ?_)
    · refine g_bipush C (-4) dX9_start_49 rfl ?_
      exact g_iret C dX9_start_51 hr E
    · refine g_aload_n C 0 dX9_start_19 rfl rfl ?_
      refine g_iload_n C 1 dX9_start_20 rfl rfl ?_
      refine g_bipush C 15 dX9_start_21 rfl ?_
      refine g_invI C (q := (RX9, TX9, 13)) [.int a1, .int 15] dX9_start_23 cl_X9_49 cv_X9_part rfl (by decide) rfl rfl ⟨Nat.le_of_ble_eq_true rfl, Nat.le_of_ble_eq_true rfl⟩ (Nat.le_of_ble_eq_true rfl) ⟨Nat.le_of_ble_eq_true rfl, Nat.le_of_ble_eq_true rfl⟩ rfl (fun r' h' E => o_X9_part l base D cA a0 a1 15 h2 r' h' E) E (fun x5 h6 E => ?_)
      refine g_if_eq C 49 dX9_start_26 (by decide) E (fun E => ?_) (fun E => ?_)
      · refine g_bipush C (-4) dX9_start_49 rfl ?_
        exact g_iret C dX9_start_51 hr E
      · refine g_aload_n C 0 dX9_start_29 rfl rfl ?_
        refine g_iload_n C 1 dX9_start_30 rfl rfl ?_
        refine g_bipush C 9 dX9_start_31 rfl ?_
        refine g_invI C (q := (RX9, TX9, 13)) [.int a1, .int 9] dX9_start_33 cl_X9_49 cv_X9_part rfl (by decide) rfl rfl ⟨Nat.le_of_ble_eq_true rfl, Nat.le_of_ble_eq_true rfl⟩ (Nat.le_of_ble_eq_true rfl) ⟨Nat.le_of_ble_eq_true rfl, Nat.le_of_ble_eq_true rfl⟩ rfl (fun r' h' E => o_X9_part l base D cA a0 a1 9 h6 r' h' E) E (fun x7 h8 E => ?_)
        refine g_if_ne C 49 dX9_start_36 (by decide) E (fun E => ?_) (fun E => ?_)
        · refine g_bipush C (-4) dX9_start_49 rfl ?_
          exact g_iret C dX9_start_51 hr E
        · refine g_aload_n C 0 dX9_start_39 rfl rfl ?_
          refine g_iload_n C 1 dX9_start_40 rfl rfl ?_
          refine g_bipush C 13 dX9_start_41 rfl ?_
          refine g_invI C (q := (RX9, TX9, 13)) [.int a1, .int 13] dX9_start_43 cl_X9_49 cv_X9_part rfl (by decide) rfl rfl ⟨Nat.le_of_ble_eq_true rfl, Nat.le_of_ble_eq_true rfl⟩ (Nat.le_of_ble_eq_true rfl) ⟨Nat.le_of_ble_eq_true rfl, Nat.le_of_ble_eq_true rfl⟩ rfl (fun r' h' E => o_X9_part l base D cA a0 a1 13 h8 r' h' E) E (fun x9 h10 E => ?_)
          refine g_if_ne C 52 dX9_start_46 (by decide) E (fun E => ?_) (fun E => ?_)
          · refine g_aload_n C 0 dX9_start_52 rfl rfl ?_
            refine g_invU C (q := (RX9, TX9, 13)) [] dX9_start_53 cl_X9_60 cv_X9_record rfl (by decide) rfl rfl ⟨Nat.le_of_ble_eq_true rfl, Nat.le_of_ble_eq_true rfl⟩ (Nat.le_of_ble_eq_true rfl) ⟨Nat.le_of_ble_eq_true rfl, Nat.le_of_ble_eq_true rfl⟩ rfl (fun r' h' E => o_X9_record l base D cA a0 h10 r' h' E) E (fun x11 h12 E => ?_)
            refine g_aload_n C 0 dX9_start_56 rfl rfl ?_
            refine g_iload_n C 1 dX9_start_57 rfl rfl ?_
            refine g_bipush C 9 dX9_start_58 rfl ?_
            refine g_iconst C 1 dX9_start_60 rfl ?_
            refine g_invU C (q := (RX9, TX9, 13)) [.int a1, .int 9, .int 1] dX9_start_61 cl_X9_63 cv_X9_setPart rfl (by decide) rfl rfl ⟨Nat.le_of_ble_eq_true rfl, Nat.le_of_ble_eq_true rfl⟩ (Nat.le_of_ble_eq_true rfl) ⟨Nat.le_of_ble_eq_true rfl, Nat.le_of_ble_eq_true rfl⟩ rfl (fun r' h' E => o_X9_setPart l base D cA a0 a1 9 1 h12 r' h' E) E (fun x13 h14 E => ?_)
            refine g_aload_n C 0 dX9_start_64 rfl rfl ?_
            refine g_iload_n C 1 dX9_start_65 rfl rfl ?_
            refine g_bipush C 13 dX9_start_66 rfl ?_
            refine g_iconst C 2 dX9_start_68 rfl ?_
            refine g_invU C (q := (RX9, TX9, 13)) [.int a1, .int 13, .int 2] dX9_start_69 cl_X9_63 cv_X9_setPart rfl (by decide) rfl rfl ⟨Nat.le_of_ble_eq_true rfl, Nat.le_of_ble_eq_true rfl⟩ (Nat.le_of_ble_eq_true rfl) ⟨Nat.le_of_ble_eq_true rfl, Nat.le_of_ble_eq_true rfl⟩ rfl (fun r' h' E => o_X9_setPart l base D cA a0 a1 13 2 h14 r' h' E) E (fun x15 h16 E => ?_)
            refine g_aload_n C 0 dX9_start_72 rfl rfl ?_
            refine g_iload_n C 1 dX9_start_73 rfl rfl ?_
            refine g_iconst C 0 dX9_start_74 rfl ?_
            refine g_invU C (q := (RX9, TX9, 13)) [.int a1, .int 0] dX9_start_75 cl_X9_114 cv_X9_beginPhase rfl (by decide) rfl rfl ⟨Nat.le_of_ble_eq_true rfl, Nat.le_of_ble_eq_true rfl⟩ (Nat.le_of_ble_eq_true rfl) ⟨Nat.le_of_ble_eq_true rfl, Nat.le_of_ble_eq_true rfl⟩ rfl (fun r' h' E => o_X9_beginPhase l base D cA a0 a1 0 h16 r' h' E) E (fun x17 h18 E => ?_)
            refine g_aload_n C 0 dX9_start_78 rfl rfl ?_
            refine g_iload_n C 1 dX9_start_79 rfl rfl ?_
            refine g_bipush C 15 dX9_start_80 rfl ?_
            refine g_invI C (q := (RX9, TX9, 13)) [.int a1, .int 15] dX9_start_82 cl_X9_49 cv_X9_part rfl (by decide) rfl rfl ⟨Nat.le_of_ble_eq_true rfl, Nat.le_of_ble_eq_true rfl⟩ (Nat.le_of_ble_eq_true rfl) ⟨Nat.le_of_ble_eq_true rfl, Nat.le_of_ble_eq_true rfl⟩ rfl (fun r' h' E => o_X9_part l base D cA a0 a1 15 h18 r' h' E) E (fun x19 h20 E => ?_)
            exact g_iret C dX9_start_85 hr E
          · refine g_bipush C (-4) dX9_start_49 rfl ?_
            exact g_iret C dX9_start_51 hr E
  · refine g_iconst C (-1) dX9_start_8 rfl ?_
    exact g_iret C dX9_start_9 hr E
abbrev rm_X9_stop : Room := { frames := 2, cells := 0, slots := 0, locals := 45 }
def s_X9_stop_J28 (v0 : Nat) (v1 : Int32) (w0 : Int32) (h : Hp) : Rv Int32 :=
  if 0 ≤ w0 then inv h v0 9 (s_X9_record v0 h) fun _ h =>
  inv h v0 9 (s_X9_setPart v0 v1 9 0 h) fun _ h =>
  inv h v0 9 (s_X9_part v0 v1 10 h) fun x3 h =>
  retI x3 h
  else retI w0 h
def s_X9_stop (a0 : Nat) (a1 : Int32) (h : Hp) : Rv Int32 :=
  inv h a0 9 (s_X9_isHouse a0 a1 h) fun x1 h =>
  if x1 = 0 then s_X9_stop_J28 a0 a1 (-1) h
  else inv h a0 9 (s_X9_part a0 a1 9 h) fun x2 h =>
  if x2 = 0 then s_X9_stop_J28 a0 a1 (-5) h
  else s_X9_stop_J28 a0 a1 0 h
set_option maxRecDepth 100000 in
set_option maxHeartbeats 4000000 in
theorem o_X9_stop_J28 {l : Launch} {base : Nat} {D : va_G} {cA : Nat → ClassId} {p : Program} {e : Env} {s : State} {m : MethodId} {args : Array Value} {below : List Frame} {meth : Method} {c : Code} (C : GC base D cA p s m args meth c cX9_stop 3 RX9) (hr : meth.sig.returnType = (some .int)) {X : Int32 × Hp} : ∀ (v0 : Nat) (v1 : Int32) (w0 : Int32) (h : Hp), s_X9_stop_J28 v0 v1 w0 h = some X → GW base D cA p l e rm_X9_stop s m args below meth c (MQ below (QcI base D cA X.1 X.2) args s 0 0 (AA base)) 3 h 0 0 28 [(0, .ref (base + v0)), (1, .int v1)] [.int w0] := by
  intro v0 v1 w0 h E
  unfold s_X9_stop_J28 at E
  refine g_istore_n C (lv' := [(2, .int w0), (0, .ref (base + v0)), (1, .int v1)]) dX9_stop_28 rfl (by decide) rfl ?_
  refine g_iload_n C 0 dX9_stop_29 rfl rfl ?_
  refine g_if_ge C 35 dX9_stop_30 (by decide) E (fun E => ?_) (fun E => ?_)
  · refine g_aload_n C 1 dX9_stop_35 rfl rfl ?_
    refine g_invU C (q := (RX9, TX9, 13)) [] dX9_stop_36 cl_X9_60 cv_X9_record rfl (by decide) rfl rfl ⟨Nat.le_of_ble_eq_true rfl, Nat.le_of_ble_eq_true rfl⟩ (Nat.le_of_ble_eq_true rfl) ⟨Nat.le_of_ble_eq_true rfl, Nat.le_of_ble_eq_true rfl⟩ rfl (fun r' h' E => o_X9_record l base D cA v0 h r' h' E) E (fun x1 h2 E => ?_)
    refine g_aload_n C 1 dX9_stop_39 rfl rfl ?_
    refine g_iload_n C 2 dX9_stop_40 rfl rfl ?_
    refine g_bipush C 9 dX9_stop_41 rfl ?_
    refine g_iconst C 0 dX9_stop_43 rfl ?_
    refine g_invU C (q := (RX9, TX9, 13)) [.int v1, .int 9, .int 0] dX9_stop_44 cl_X9_63 cv_X9_setPart rfl (by decide) rfl rfl ⟨Nat.le_of_ble_eq_true rfl, Nat.le_of_ble_eq_true rfl⟩ (Nat.le_of_ble_eq_true rfl) ⟨Nat.le_of_ble_eq_true rfl, Nat.le_of_ble_eq_true rfl⟩ rfl (fun r' h' E => o_X9_setPart l base D cA v0 v1 9 0 h2 r' h' E) E (fun x3 h4 E => ?_)
    refine g_aload_n C 1 dX9_stop_47 rfl rfl ?_
    refine g_iload_n C 2 dX9_stop_48 rfl rfl ?_
    refine g_bipush C 10 dX9_stop_49 rfl ?_
    refine g_invI C (q := (RX9, TX9, 13)) [.int v1, .int 10] dX9_stop_51 cl_X9_49 cv_X9_part rfl (by decide) rfl rfl ⟨Nat.le_of_ble_eq_true rfl, Nat.le_of_ble_eq_true rfl⟩ (Nat.le_of_ble_eq_true rfl) ⟨Nat.le_of_ble_eq_true rfl, Nat.le_of_ble_eq_true rfl⟩ rfl (fun r' h' E => o_X9_part l base D cA v0 v1 10 h4 r' h' E) E (fun x5 h6 E => ?_)
    exact g_iret C dX9_stop_54 hr E
  · refine g_iload_n C 0 dX9_stop_33 rfl rfl ?_
    exact g_iret C dX9_stop_34 hr E
set_option maxRecDepth 100000 in
set_option maxHeartbeats 4000000 in
theorem o_X9_stop (l : Launch) (base : Nat) (D : va_G) (cA : Nat → ClassId) (a0 : Nat) (a1 : Int32) (h : Hp) (r : Int32) (h' : Hp) (E : s_X9_stop a0 a1 h = some (r, h')) : Met l yX9_stop (.code yX9_stop cX9_stop 3 (some .int) :: wsA) rm_X9_stop (PcG base D cA [.ref (base + a0), .int a1] h) (QcI base D cA r h') 0 0 (AA base) := by
  refine g_met [.ref (base + a0), .int a1] (by decide) (Nat.le_of_ble_eq_true rfl) (fun p e s m args below meth c C hr hn => ?_)
  refine g_lv (lv' := [(0, .ref (base + a0)), (1, .int a1)]) rfl ?_
  unfold s_X9_stop at E
  refine g_aload_n C 0 dX9_stop_0 rfl rfl ?_
  refine g_iload_n C 1 dX9_stop_1 rfl rfl ?_
  refine g_invI C (q := (RX9, TX9, 13)) [.int a1] dX9_stop_2 cl_X9_154 cv_X9_isHouse rfl (by decide) rfl rfl ⟨Nat.le_of_ble_eq_true rfl, Nat.le_of_ble_eq_true rfl⟩ (Nat.le_of_ble_eq_true rfl) ⟨Nat.le_of_ble_eq_true rfl, Nat.le_of_ble_eq_true rfl⟩ rfl (fun r' h' E => o_X9_isHouse l base D cA a0 a1 h r' h' E) E (fun x1 h2 E => ?_)
  refine g_if_ne C 12 dX9_stop_5 (by decide) E (fun E => ?_) (fun E => ?_)
  · refine g_aload_n C 0 dX9_stop_12 rfl rfl ?_
    refine g_iload_n C 1 dX9_stop_13 rfl rfl ?_
    refine g_bipush C 9 dX9_stop_14 rfl ?_
    refine g_invI C (q := (RX9, TX9, 13)) [.int a1, .int 9] dX9_stop_16 cl_X9_49 cv_X9_part rfl (by decide) rfl rfl ⟨Nat.le_of_ble_eq_true rfl, Nat.le_of_ble_eq_true rfl⟩ (Nat.le_of_ble_eq_true rfl) ⟨Nat.le_of_ble_eq_true rfl, Nat.le_of_ble_eq_true rfl⟩ rfl (fun r' h' E => o_X9_part l base D cA a0 a1 9 h2 r' h' E) E (fun x3 h4 E => ?_)
    refine g_if_ne C 27 dX9_stop_19 (by decide) E (fun E => ?_) (fun E => ?_)
    · refine g_iconst C 0 dX9_stop_27 rfl ?_
      refine g_sub (lv' := [(0, .ref (base + a0)), (1, .int a1)]) [0, 1] rfl ?_
      exact o_X9_stop_J28 C hr a0 a1 0 h4 E
    · refine g_bipush C (-5) dX9_stop_22 rfl ?_
      refine g_goto C 28 dX9_stop_24 (by decide) ?_
      refine g_sub (lv' := [(0, .ref (base + a0)), (1, .int a1)]) [0, 1] rfl ?_
      exact o_X9_stop_J28 C hr a0 a1 (-5) h4 E
  · refine g_iconst C (-1) dX9_stop_8 rfl ?_
    refine g_goto C 28 dX9_stop_9 (by decide) ?_
    refine g_sub (lv' := [(0, .ref (base + a0)), (1, .int a1)]) [0, 1] rfl ?_
    exact o_X9_stop_J28 C hr a0 a1 (-1) h2 E
abbrev rm_X9_bail : Room := { frames := 2, cells := 0, slots := 0, locals := 45 }
def s_X9_bail_J41 (v0 : Nat) (v1 : Int32) (w0 : Int32) (h : Hp) : Rv Int32 :=
  if 0 ≤ w0 then inv h v0 9 (s_X9_record v0 h) fun _ h =>
  inv h v0 9 (s_X9_part v0 v1 11 h) fun x4 h =>
  inv h v0 9 (s_X9_setPart v0 v1 11 0 h) fun _ h =>
  inv h v0 9 (s_X9_setPart v0 v1 12 0 h) fun _ h =>
  retI x4 h
  else retI w0 h
def s_X9_bail (a0 : Nat) (a1 : Int32) (h : Hp) : Rv Int32 :=
  inv h a0 9 (s_X9_isHouse a0 a1 h) fun x1 h =>
  if x1 = 0 then s_X9_bail_J41 a0 a1 (-1) h
  else inv h a0 9 (s_X9_runs a0 a1 h) fun x2 h =>
  if x2 = 0 then inv h a0 9 (s_X9_part a0 a1 11 h) fun x3 h =>
  if x3 = 0 then s_X9_bail_J41 a0 a1 (-5) h
  else s_X9_bail_J41 a0 a1 0 h
  else s_X9_bail_J41 a0 a1 (-4) h
set_option maxRecDepth 100000 in
set_option maxHeartbeats 4000000 in
theorem o_X9_bail_J41 {l : Launch} {base : Nat} {D : va_G} {cA : Nat → ClassId} {p : Program} {e : Env} {s : State} {m : MethodId} {args : Array Value} {below : List Frame} {meth : Method} {c : Code} (C : GC base D cA p s m args meth c cX9_bail 4 RX9) (hr : meth.sig.returnType = (some .int)) {X : Int32 × Hp} : ∀ (v0 : Nat) (v1 : Int32) (w0 : Int32) (h : Hp), s_X9_bail_J41 v0 v1 w0 h = some X → GW base D cA p l e rm_X9_bail s m args below meth c (MQ below (QcI base D cA X.1 X.2) args s 0 0 (AA base)) 4 h 0 0 41 [(0, .ref (base + v0)), (1, .int v1)] [.int w0] := by
  intro v0 v1 w0 h E
  unfold s_X9_bail_J41 at E
  refine g_istore_n C (lv' := [(2, .int w0), (0, .ref (base + v0)), (1, .int v1)]) dX9_bail_41 rfl (by decide) rfl ?_
  refine g_iload_n C 0 dX9_bail_42 rfl rfl ?_
  refine g_if_ge C 48 dX9_bail_43 (by decide) E (fun E => ?_) (fun E => ?_)
  · refine g_aload_n C 1 dX9_bail_48 rfl rfl ?_
    refine g_invU C (q := (RX9, TX9, 13)) [] dX9_bail_49 cl_X9_60 cv_X9_record rfl (by decide) rfl rfl ⟨Nat.le_of_ble_eq_true rfl, Nat.le_of_ble_eq_true rfl⟩ (Nat.le_of_ble_eq_true rfl) ⟨Nat.le_of_ble_eq_true rfl, Nat.le_of_ble_eq_true rfl⟩ rfl (fun r' h' E => o_X9_record l base D cA v0 h r' h' E) E (fun x1 h2 E => ?_)
    refine g_aload_n C 1 dX9_bail_52 rfl rfl ?_
    refine g_iload_n C 2 dX9_bail_53 rfl rfl ?_
    refine g_bipush C 11 dX9_bail_54 rfl ?_
    refine g_invI C (q := (RX9, TX9, 13)) [.int v1, .int 11] dX9_bail_56 cl_X9_49 cv_X9_part rfl (by decide) rfl rfl ⟨Nat.le_of_ble_eq_true rfl, Nat.le_of_ble_eq_true rfl⟩ (Nat.le_of_ble_eq_true rfl) ⟨Nat.le_of_ble_eq_true rfl, Nat.le_of_ble_eq_true rfl⟩ rfl (fun r' h' E => o_X9_part l base D cA v0 v1 11 h2 r' h' E) E (fun x3 h4 E => ?_)
    refine g_istore_n C (lv' := [(3, .int x3), (2, .int w0), (0, .ref (base + v0)), (1, .int v1)]) dX9_bail_59 rfl (by decide) rfl ?_
    refine g_aload_n C 2 dX9_bail_60 rfl rfl ?_
    refine g_iload_n C 3 dX9_bail_61 rfl rfl ?_
    refine g_bipush C 11 dX9_bail_62 rfl ?_
    refine g_iconst C 0 dX9_bail_64 rfl ?_
    refine g_invU C (q := (RX9, TX9, 13)) [.int v1, .int 11, .int 0] dX9_bail_65 cl_X9_63 cv_X9_setPart rfl (by decide) rfl rfl ⟨Nat.le_of_ble_eq_true rfl, Nat.le_of_ble_eq_true rfl⟩ (Nat.le_of_ble_eq_true rfl) ⟨Nat.le_of_ble_eq_true rfl, Nat.le_of_ble_eq_true rfl⟩ rfl (fun r' h' E => o_X9_setPart l base D cA v0 v1 11 0 h4 r' h' E) E (fun x5 h6 E => ?_)
    refine g_aload_n C 2 dX9_bail_68 rfl rfl ?_
    refine g_iload_n C 3 dX9_bail_69 rfl rfl ?_
    refine g_bipush C 12 dX9_bail_70 rfl ?_
    refine g_iconst C 0 dX9_bail_72 rfl ?_
    refine g_invU C (q := (RX9, TX9, 13)) [.int v1, .int 12, .int 0] dX9_bail_73 cl_X9_63 cv_X9_setPart rfl (by decide) rfl rfl ⟨Nat.le_of_ble_eq_true rfl, Nat.le_of_ble_eq_true rfl⟩ (Nat.le_of_ble_eq_true rfl) ⟨Nat.le_of_ble_eq_true rfl, Nat.le_of_ble_eq_true rfl⟩ rfl (fun r' h' E => o_X9_setPart l base D cA v0 v1 12 0 h6 r' h' E) E (fun x7 h8 E => ?_)
    refine g_iload_n C 0 dX9_bail_76 rfl rfl ?_
    exact g_iret C dX9_bail_77 hr E
  · refine g_iload_n C 0 dX9_bail_46 rfl rfl ?_
    exact g_iret C dX9_bail_47 hr E
set_option maxRecDepth 100000 in
set_option maxHeartbeats 4000000 in
theorem o_X9_bail (l : Launch) (base : Nat) (D : va_G) (cA : Nat → ClassId) (a0 : Nat) (a1 : Int32) (h : Hp) (r : Int32) (h' : Hp) (E : s_X9_bail a0 a1 h = some (r, h')) : Met l yX9_bail (.code yX9_bail cX9_bail 4 (some .int) :: wsA) rm_X9_bail (PcG base D cA [.ref (base + a0), .int a1] h) (QcI base D cA r h') 0 0 (AA base) := by
  refine g_met [.ref (base + a0), .int a1] (by decide) (Nat.le_of_ble_eq_true rfl) (fun p e s m args below meth c C hr hn => ?_)
  refine g_lv (lv' := [(0, .ref (base + a0)), (1, .int a1)]) rfl ?_
  unfold s_X9_bail at E
  refine g_aload_n C 0 dX9_bail_0 rfl rfl ?_
  refine g_iload_n C 1 dX9_bail_1 rfl rfl ?_
  refine g_invI C (q := (RX9, TX9, 13)) [.int a1] dX9_bail_2 cl_X9_154 cv_X9_isHouse rfl (by decide) rfl rfl ⟨Nat.le_of_ble_eq_true rfl, Nat.le_of_ble_eq_true rfl⟩ (Nat.le_of_ble_eq_true rfl) ⟨Nat.le_of_ble_eq_true rfl, Nat.le_of_ble_eq_true rfl⟩ rfl (fun r' h' E => o_X9_isHouse l base D cA a0 a1 h r' h' E) E (fun x1 h2 E => ?_)
  refine g_if_ne C 12 dX9_bail_5 (by decide) E (fun E => ?_) (fun E => ?_)
  · refine g_aload_n C 0 dX9_bail_12 rfl rfl ?_
    refine g_iload_n C 1 dX9_bail_13 rfl rfl ?_
    refine g_invI C (q := (RX9, TX9, 13)) [.int a1] dX9_bail_14 cl_X9_79 cv_X9_runs rfl (by decide) rfl rfl ⟨Nat.le_of_ble_eq_true rfl, Nat.le_of_ble_eq_true rfl⟩ (Nat.le_of_ble_eq_true rfl) ⟨Nat.le_of_ble_eq_true rfl, Nat.le_of_ble_eq_true rfl⟩ rfl (fun r' h' E => o_X9_runs l base D cA a0 a1 h2 r' h' E) E (fun x3 h4 E => ?_)
    refine g_if_eq C 25 dX9_bail_17 (by decide) E (fun E => ?_) (fun E => ?_)
    · refine g_aload_n C 0 dX9_bail_25 rfl rfl ?_
      refine g_iload_n C 1 dX9_bail_26 rfl rfl ?_
      refine g_bipush C 11 dX9_bail_27 rfl ?_
      refine g_invI C (q := (RX9, TX9, 13)) [.int a1, .int 11] dX9_bail_29 cl_X9_49 cv_X9_part rfl (by decide) rfl rfl ⟨Nat.le_of_ble_eq_true rfl, Nat.le_of_ble_eq_true rfl⟩ (Nat.le_of_ble_eq_true rfl) ⟨Nat.le_of_ble_eq_true rfl, Nat.le_of_ble_eq_true rfl⟩ rfl (fun r' h' E => o_X9_part l base D cA a0 a1 11 h4 r' h' E) E (fun x5 h6 E => ?_)
      refine g_if_ne C 40 dX9_bail_32 (by decide) E (fun E => ?_) (fun E => ?_)
      · refine g_iconst C 0 dX9_bail_40 rfl ?_
        refine g_sub (lv' := [(0, .ref (base + a0)), (1, .int a1)]) [0, 1] rfl ?_
        exact o_X9_bail_J41 C hr a0 a1 0 h6 E
      · refine g_bipush C (-5) dX9_bail_35 rfl ?_
        refine g_goto C 41 dX9_bail_37 (by decide) ?_
        refine g_sub (lv' := [(0, .ref (base + a0)), (1, .int a1)]) [0, 1] rfl ?_
        exact o_X9_bail_J41 C hr a0 a1 (-5) h6 E
    · refine g_bipush C (-4) dX9_bail_20 rfl ?_
      refine g_goto C 41 dX9_bail_22 (by decide) ?_
      refine g_sub (lv' := [(0, .ref (base + a0)), (1, .int a1)]) [0, 1] rfl ?_
      exact o_X9_bail_J41 C hr a0 a1 (-4) h4 E
  · refine g_iconst C (-1) dX9_bail_8 rfl ?_
    refine g_goto C 41 dX9_bail_9 (by decide) ?_
    refine g_sub (lv' := [(0, .ref (base + a0)), (1, .int a1)]) [0, 1] rfl ?_
    exact o_X9_bail_J41 C hr a0 a1 (-1) h2 E
abbrev rm_X9_openDoor : Room := { frames := 2, cells := 0, slots := 0, locals := 45 }
def s_X9_openDoor_J44 (v0 : Nat) (v1 : Int32) (w0 : Int32) (h : Hp) : Rv Int32 :=
  if 0 ≤ w0 then inv h v0 9 (s_X9_record v0 h) fun _ h =>
  inv h v0 9 (s_X9_setPart v0 v1 13 0 h) fun _ h =>
  inv h v0 9 (s_X9_temperature v0 v1 h) fun x4 h =>
  retI x4 h
  else retI w0 h
def s_X9_openDoor (a0 : Nat) (a1 : Int32) (h : Hp) : Rv Int32 :=
  inv h a0 9 (s_X9_isHouse a0 a1 h) fun x1 h =>
  if x1 = 0 then s_X9_openDoor_J44 a0 a1 (-1) h
  else inv h a0 9 (s_X9_part a0 a1 13 h) fun x2 h =>
  if x2 = 2 then s_X9_openDoor_J44 a0 a1 (-4) h
  else inv h a0 9 (s_X9_part a0 a1 13 h) fun x3 h =>
  if x3 = 0 then s_X9_openDoor_J44 a0 a1 (-5) h
  else s_X9_openDoor_J44 a0 a1 0 h
set_option maxRecDepth 100000 in
set_option maxHeartbeats 4000000 in
theorem o_X9_openDoor_J44 {l : Launch} {base : Nat} {D : va_G} {cA : Nat → ClassId} {p : Program} {e : Env} {s : State} {m : MethodId} {args : Array Value} {below : List Frame} {meth : Method} {c : Code} (C : GC base D cA p s m args meth c cX9_openDoor 3 RX9) (hr : meth.sig.returnType = (some .int)) {X : Int32 × Hp} : ∀ (v0 : Nat) (v1 : Int32) (w0 : Int32) (h : Hp), s_X9_openDoor_J44 v0 v1 w0 h = some X → GW base D cA p l e rm_X9_openDoor s m args below meth c (MQ below (QcI base D cA X.1 X.2) args s 0 0 (AA base)) 3 h 0 0 44 [(0, .ref (base + v0)), (1, .int v1)] [.int w0] := by
  intro v0 v1 w0 h E
  unfold s_X9_openDoor_J44 at E
  refine g_istore_n C (lv' := [(2, .int w0), (0, .ref (base + v0)), (1, .int v1)]) dX9_openDoor_44 rfl (by decide) rfl ?_
  refine g_iload_n C 0 dX9_openDoor_45 rfl rfl ?_
  refine g_if_ge C 51 dX9_openDoor_46 (by decide) E (fun E => ?_) (fun E => ?_)
  · refine g_aload_n C 1 dX9_openDoor_51 rfl rfl ?_
    refine g_invU C (q := (RX9, TX9, 13)) [] dX9_openDoor_52 cl_X9_60 cv_X9_record rfl (by decide) rfl rfl ⟨Nat.le_of_ble_eq_true rfl, Nat.le_of_ble_eq_true rfl⟩ (Nat.le_of_ble_eq_true rfl) ⟨Nat.le_of_ble_eq_true rfl, Nat.le_of_ble_eq_true rfl⟩ rfl (fun r' h' E => o_X9_record l base D cA v0 h r' h' E) E (fun x1 h2 E => ?_)
    refine g_aload_n C 1 dX9_openDoor_55 rfl rfl ?_
    refine g_iload_n C 2 dX9_openDoor_56 rfl rfl ?_
    refine g_bipush C 13 dX9_openDoor_57 rfl ?_
    refine g_iconst C 0 dX9_openDoor_59 rfl ?_
    refine g_invU C (q := (RX9, TX9, 13)) [.int v1, .int 13, .int 0] dX9_openDoor_60 cl_X9_63 cv_X9_setPart rfl (by decide) rfl rfl ⟨Nat.le_of_ble_eq_true rfl, Nat.le_of_ble_eq_true rfl⟩ (Nat.le_of_ble_eq_true rfl) ⟨Nat.le_of_ble_eq_true rfl, Nat.le_of_ble_eq_true rfl⟩ rfl (fun r' h' E => o_X9_setPart l base D cA v0 v1 13 0 h2 r' h' E) E (fun x3 h4 E => ?_)
    refine g_aload_n C 1 dX9_openDoor_63 rfl rfl ?_
    refine g_iload_n C 2 dX9_openDoor_64 rfl rfl ?_
    refine g_invI C (q := (RX9, TX9, 13)) [.int v1] dX9_openDoor_65 cl_X9_68 cv_X9_temperature rfl (by decide) rfl rfl ⟨Nat.le_of_ble_eq_true rfl, Nat.le_of_ble_eq_true rfl⟩ (Nat.le_of_ble_eq_true rfl) ⟨Nat.le_of_ble_eq_true rfl, Nat.le_of_ble_eq_true rfl⟩ rfl (fun r' h' E => o_X9_temperature l base D cA v0 v1 h4 r' h' E) E (fun x5 h6 E => ?_)
    exact g_iret C dX9_openDoor_68 hr E
  · refine g_iload_n C 0 dX9_openDoor_49 rfl rfl ?_
    exact g_iret C dX9_openDoor_50 hr E
set_option maxRecDepth 100000 in
set_option maxHeartbeats 4000000 in
theorem o_X9_openDoor (l : Launch) (base : Nat) (D : va_G) (cA : Nat → ClassId) (a0 : Nat) (a1 : Int32) (h : Hp) (r : Int32) (h' : Hp) (E : s_X9_openDoor a0 a1 h = some (r, h')) : Met l yX9_openDoor (.code yX9_openDoor cX9_openDoor 3 (some .int) :: wsA) rm_X9_openDoor (PcG base D cA [.ref (base + a0), .int a1] h) (QcI base D cA r h') 0 0 (AA base) := by
  refine g_met [.ref (base + a0), .int a1] (by decide) (Nat.le_of_ble_eq_true rfl) (fun p e s m args below meth c C hr hn => ?_)
  refine g_lv (lv' := [(0, .ref (base + a0)), (1, .int a1)]) rfl ?_
  unfold s_X9_openDoor at E
  refine g_aload_n C 0 dX9_openDoor_0 rfl rfl ?_
  refine g_iload_n C 1 dX9_openDoor_1 rfl rfl ?_
  refine g_invI C (q := (RX9, TX9, 13)) [.int a1] dX9_openDoor_2 cl_X9_154 cv_X9_isHouse rfl (by decide) rfl rfl ⟨Nat.le_of_ble_eq_true rfl, Nat.le_of_ble_eq_true rfl⟩ (Nat.le_of_ble_eq_true rfl) ⟨Nat.le_of_ble_eq_true rfl, Nat.le_of_ble_eq_true rfl⟩ rfl (fun r' h' E => o_X9_isHouse l base D cA a0 a1 h r' h' E) E (fun x1 h2 E => ?_)
  refine g_if_ne C 12 dX9_openDoor_5 (by decide) E (fun E => ?_) (fun E => ?_)
  · refine g_aload_n C 0 dX9_openDoor_12 rfl rfl ?_
    refine g_iload_n C 1 dX9_openDoor_13 rfl rfl ?_
    refine g_bipush C 13 dX9_openDoor_14 rfl ?_
    refine g_invI C (q := (RX9, TX9, 13)) [.int a1, .int 13] dX9_openDoor_16 cl_X9_49 cv_X9_part rfl (by decide) rfl rfl ⟨Nat.le_of_ble_eq_true rfl, Nat.le_of_ble_eq_true rfl⟩ (Nat.le_of_ble_eq_true rfl) ⟨Nat.le_of_ble_eq_true rfl, Nat.le_of_ble_eq_true rfl⟩ rfl (fun r' h' E => o_X9_part l base D cA a0 a1 13 h2 r' h' E) E (fun x3 h4 E => ?_)
    refine g_iconst C 2 dX9_openDoor_19 rfl ?_
    refine g_icmp_ne C 28 dX9_openDoor_20 (by decide) E (fun E => ?_) (fun E => ?_)
    · refine g_aload_n C 0 dX9_openDoor_28 rfl rfl ?_
      refine g_iload_n C 1 dX9_openDoor_29 rfl rfl ?_
      refine g_bipush C 13 dX9_openDoor_30 rfl ?_
      refine g_invI C (q := (RX9, TX9, 13)) [.int a1, .int 13] dX9_openDoor_32 cl_X9_49 cv_X9_part rfl (by decide) rfl rfl ⟨Nat.le_of_ble_eq_true rfl, Nat.le_of_ble_eq_true rfl⟩ (Nat.le_of_ble_eq_true rfl) ⟨Nat.le_of_ble_eq_true rfl, Nat.le_of_ble_eq_true rfl⟩ rfl (fun r' h' E => o_X9_part l base D cA a0 a1 13 h4 r' h' E) E (fun x5 h6 E => ?_)
      refine g_if_ne C 43 dX9_openDoor_35 (by decide) E (fun E => ?_) (fun E => ?_)
      · refine g_iconst C 0 dX9_openDoor_43 rfl ?_
        refine g_sub (lv' := [(0, .ref (base + a0)), (1, .int a1)]) [0, 1] rfl ?_
        exact o_X9_openDoor_J44 C hr a0 a1 0 h6 E
      · refine g_bipush C (-5) dX9_openDoor_38 rfl ?_
        refine g_goto C 44 dX9_openDoor_40 (by decide) ?_
        refine g_sub (lv' := [(0, .ref (base + a0)), (1, .int a1)]) [0, 1] rfl ?_
        exact o_X9_openDoor_J44 C hr a0 a1 (-5) h6 E
    · refine g_bipush C (-4) dX9_openDoor_23 rfl ?_
      refine g_goto C 44 dX9_openDoor_25 (by decide) ?_
      refine g_sub (lv' := [(0, .ref (base + a0)), (1, .int a1)]) [0, 1] rfl ?_
      exact o_X9_openDoor_J44 C hr a0 a1 (-4) h4 E
  · refine g_iconst C (-1) dX9_openDoor_8 rfl ?_
    refine g_goto C 44 dX9_openDoor_9 (by decide) ?_
    refine g_sub (lv' := [(0, .ref (base + a0)), (1, .int a1)]) [0, 1] rfl ?_
    exact o_X9_openDoor_J44 C hr a0 a1 (-1) h2 E
abbrev rm_X9_closeDoor : Room := { frames := 2, cells := 0, slots := 0, locals := 45 }
def s_X9_closeDoor_J28 (v0 : Nat) (v1 : Int32) (w0 : Int32) (h : Hp) : Rv Int32 :=
  if 0 ≤ w0 then inv h v0 9 (s_X9_record v0 h) fun _ h =>
  inv h v0 9 (s_X9_setPart v0 v1 13 1 h) fun _ h =>
  retI 1 h
  else retI w0 h
def s_X9_closeDoor (a0 : Nat) (a1 : Int32) (h : Hp) : Rv Int32 :=
  inv h a0 9 (s_X9_isHouse a0 a1 h) fun x1 h =>
  if x1 = 0 then s_X9_closeDoor_J28 a0 a1 (-1) h
  else inv h a0 9 (s_X9_part a0 a1 13 h) fun x2 h =>
  if x2 = 0 then s_X9_closeDoor_J28 a0 a1 0 h
  else s_X9_closeDoor_J28 a0 a1 (-5) h
set_option maxRecDepth 100000 in
set_option maxHeartbeats 4000000 in
theorem o_X9_closeDoor_J28 {l : Launch} {base : Nat} {D : va_G} {cA : Nat → ClassId} {p : Program} {e : Env} {s : State} {m : MethodId} {args : Array Value} {below : List Frame} {meth : Method} {c : Code} (C : GC base D cA p s m args meth c cX9_closeDoor 3 RX9) (hr : meth.sig.returnType = (some .int)) {X : Int32 × Hp} : ∀ (v0 : Nat) (v1 : Int32) (w0 : Int32) (h : Hp), s_X9_closeDoor_J28 v0 v1 w0 h = some X → GW base D cA p l e rm_X9_closeDoor s m args below meth c (MQ below (QcI base D cA X.1 X.2) args s 0 0 (AA base)) 3 h 0 0 28 [(0, .ref (base + v0)), (1, .int v1)] [.int w0] := by
  intro v0 v1 w0 h E
  unfold s_X9_closeDoor_J28 at E
  refine g_istore_n C (lv' := [(2, .int w0), (0, .ref (base + v0)), (1, .int v1)]) dX9_closeDoor_28 rfl (by decide) rfl ?_
  refine g_iload_n C 0 dX9_closeDoor_29 rfl rfl ?_
  refine g_if_ge C 35 dX9_closeDoor_30 (by decide) E (fun E => ?_) (fun E => ?_)
  · refine g_aload_n C 1 dX9_closeDoor_35 rfl rfl ?_
    refine g_invU C (q := (RX9, TX9, 13)) [] dX9_closeDoor_36 cl_X9_60 cv_X9_record rfl (by decide) rfl rfl ⟨Nat.le_of_ble_eq_true rfl, Nat.le_of_ble_eq_true rfl⟩ (Nat.le_of_ble_eq_true rfl) ⟨Nat.le_of_ble_eq_true rfl, Nat.le_of_ble_eq_true rfl⟩ rfl (fun r' h' E => o_X9_record l base D cA v0 h r' h' E) E (fun x1 h2 E => ?_)
    refine g_aload_n C 1 dX9_closeDoor_39 rfl rfl ?_
    refine g_iload_n C 2 dX9_closeDoor_40 rfl rfl ?_
    refine g_bipush C 13 dX9_closeDoor_41 rfl ?_
    refine g_iconst C 1 dX9_closeDoor_43 rfl ?_
    refine g_invU C (q := (RX9, TX9, 13)) [.int v1, .int 13, .int 1] dX9_closeDoor_44 cl_X9_63 cv_X9_setPart rfl (by decide) rfl rfl ⟨Nat.le_of_ble_eq_true rfl, Nat.le_of_ble_eq_true rfl⟩ (Nat.le_of_ble_eq_true rfl) ⟨Nat.le_of_ble_eq_true rfl, Nat.le_of_ble_eq_true rfl⟩ rfl (fun r' h' E => o_X9_setPart l base D cA v0 v1 13 1 h2 r' h' E) E (fun x3 h4 E => ?_)
    refine g_iconst C 1 dX9_closeDoor_47 rfl ?_
    exact g_iret C dX9_closeDoor_48 hr E
  · refine g_iload_n C 0 dX9_closeDoor_33 rfl rfl ?_
    exact g_iret C dX9_closeDoor_34 hr E
set_option maxRecDepth 100000 in
set_option maxHeartbeats 4000000 in
theorem o_X9_closeDoor (l : Launch) (base : Nat) (D : va_G) (cA : Nat → ClassId) (a0 : Nat) (a1 : Int32) (h : Hp) (r : Int32) (h' : Hp) (E : s_X9_closeDoor a0 a1 h = some (r, h')) : Met l yX9_closeDoor (.code yX9_closeDoor cX9_closeDoor 3 (some .int) :: wsA) rm_X9_closeDoor (PcG base D cA [.ref (base + a0), .int a1] h) (QcI base D cA r h') 0 0 (AA base) := by
  refine g_met [.ref (base + a0), .int a1] (by decide) (Nat.le_of_ble_eq_true rfl) (fun p e s m args below meth c C hr hn => ?_)
  refine g_lv (lv' := [(0, .ref (base + a0)), (1, .int a1)]) rfl ?_
  unfold s_X9_closeDoor at E
  refine g_aload_n C 0 dX9_closeDoor_0 rfl rfl ?_
  refine g_iload_n C 1 dX9_closeDoor_1 rfl rfl ?_
  refine g_invI C (q := (RX9, TX9, 13)) [.int a1] dX9_closeDoor_2 cl_X9_154 cv_X9_isHouse rfl (by decide) rfl rfl ⟨Nat.le_of_ble_eq_true rfl, Nat.le_of_ble_eq_true rfl⟩ (Nat.le_of_ble_eq_true rfl) ⟨Nat.le_of_ble_eq_true rfl, Nat.le_of_ble_eq_true rfl⟩ rfl (fun r' h' E => o_X9_isHouse l base D cA a0 a1 h r' h' E) E (fun x1 h2 E => ?_)
  refine g_if_ne C 12 dX9_closeDoor_5 (by decide) E (fun E => ?_) (fun E => ?_)
  · refine g_aload_n C 0 dX9_closeDoor_12 rfl rfl ?_
    refine g_iload_n C 1 dX9_closeDoor_13 rfl rfl ?_
    refine g_bipush C 13 dX9_closeDoor_14 rfl ?_
    refine g_invI C (q := (RX9, TX9, 13)) [.int a1, .int 13] dX9_closeDoor_16 cl_X9_49 cv_X9_part rfl (by decide) rfl rfl ⟨Nat.le_of_ble_eq_true rfl, Nat.le_of_ble_eq_true rfl⟩ (Nat.le_of_ble_eq_true rfl) ⟨Nat.le_of_ble_eq_true rfl, Nat.le_of_ble_eq_true rfl⟩ rfl (fun r' h' E => o_X9_part l base D cA a0 a1 13 h2 r' h' E) E (fun x3 h4 E => ?_)
    refine g_if_eq C 27 dX9_closeDoor_19 (by decide) E (fun E => ?_) (fun E => ?_)
    · refine g_iconst C 0 dX9_closeDoor_27 rfl ?_
      refine g_sub (lv' := [(0, .ref (base + a0)), (1, .int a1)]) [0, 1] rfl ?_
      exact o_X9_closeDoor_J28 C hr a0 a1 0 h4 E
    · refine g_bipush C (-5) dX9_closeDoor_22 rfl ?_
      refine g_goto C 28 dX9_closeDoor_24 (by decide) ?_
      refine g_sub (lv' := [(0, .ref (base + a0)), (1, .int a1)]) [0, 1] rfl ?_
      exact o_X9_closeDoor_J28 C hr a0 a1 (-5) h4 E
  · refine g_iconst C (-1) dX9_closeDoor_8 rfl ?_
    refine g_goto C 28 dX9_closeDoor_9 (by decide) ?_
    refine g_sub (lv' := [(0, .ref (base + a0)), (1, .int a1)]) [0, 1] rfl ?_
    exact o_X9_closeDoor_J28 C hr a0 a1 (-1) h2 E
abbrev rm_X9_askOf : Room := { frames := 2, cells := 0, slots := 0, locals := 43 }
def s_X9_askOf (a0 : Nat) (a1 : Int32) (a2 : Int32) (h : Hp) : Rv Int32 :=
  inv h a0 9 (s_X9_part a0 a1 1 h) fun x1 h =>
  inv h a0 9 (s_X9_runs a0 a1 h) fun x2 h =>
  if x2 = 0 then retI ((a2 * x1) * 1) h
  else retI ((a2 * x1) * 2) h
set_option maxRecDepth 100000 in
set_option maxHeartbeats 4000000 in
theorem o_X9_askOf (l : Launch) (base : Nat) (D : va_G) (cA : Nat → ClassId) (a0 : Nat) (a1 : Int32) (a2 : Int32) (h : Hp) (r : Int32) (h' : Hp) (E : s_X9_askOf a0 a1 a2 h = some (r, h')) : Met l yX9_askOf (.code yX9_askOf cX9_askOf 3 (some .int) :: wsA) rm_X9_askOf (PcG base D cA [.ref (base + a0), .int a1, .int a2] h) (QcI base D cA r h') 0 0 (AA base) := by
  refine g_met [.ref (base + a0), .int a1, .int a2] (by decide) (Nat.le_of_ble_eq_true rfl) (fun p e s m args below meth c C hr hn => ?_)
  refine g_lv (lv' := [(0, .ref (base + a0)), (1, .int a1), (2, .int a2)]) rfl ?_
  unfold s_X9_askOf at E
  refine g_iload_n C 2 dX9_askOf_0 rfl rfl ?_
  refine g_aload_n C 0 dX9_askOf_1 rfl rfl ?_
  refine g_iload_n C 1 dX9_askOf_2 rfl rfl ?_
  refine g_iconst C 1 dX9_askOf_3 rfl ?_
  refine g_invI C (q := (RX9, TX9, 13)) [.int a1, .int 1] dX9_askOf_4 cl_X9_49 cv_X9_part rfl (by decide) rfl rfl ⟨Nat.le_of_ble_eq_true rfl, Nat.le_of_ble_eq_true rfl⟩ (Nat.le_of_ble_eq_true rfl) ⟨Nat.le_of_ble_eq_true rfl, Nat.le_of_ble_eq_true rfl⟩ rfl (fun r' h' E => o_X9_part l base D cA a0 a1 1 h r' h' E) E (fun x1 h2 E => ?_)
  refine g_imul C dX9_askOf_7 ?_
  refine g_aload_n C 0 dX9_askOf_8 rfl rfl ?_
  refine g_iload_n C 1 dX9_askOf_9 rfl rfl ?_
  refine g_invI C (q := (RX9, TX9, 13)) [.int a1] dX9_askOf_10 cl_X9_79 cv_X9_runs rfl (by decide) rfl rfl ⟨Nat.le_of_ble_eq_true rfl, Nat.le_of_ble_eq_true rfl⟩ (Nat.le_of_ble_eq_true rfl) ⟨Nat.le_of_ble_eq_true rfl, Nat.le_of_ble_eq_true rfl⟩ rfl (fun r' h' E => o_X9_runs l base D cA a0 a1 h2 r' h' E) E (fun x3 h4 E => ?_)
  refine g_if_eq C 20 dX9_askOf_13 (by decide) E (fun E => ?_) (fun E => ?_)
  · refine g_iconst C 1 dX9_askOf_20 rfl ?_
    refine g_imul C dX9_askOf_21 ?_
    exact g_iret C dX9_askOf_22 hr E
  · refine g_iconst C 2 dX9_askOf_16 rfl ?_
    refine g_goto C 21 dX9_askOf_17 (by decide) ?_
    refine g_imul C dX9_askOf_21 ?_
    exact g_iret C dX9_askOf_22 hr E
abbrev rm_X9_hasToLend : Room := { frames := 2, cells := 0, slots := 0, locals := 45 }
def s_X9_hasToLend (a0 : Nat) (a1 : Int32) (a2 : Int32) (h : Hp) : Rv Int32 :=
  inv h a0 9 (s_X9_part a0 a1 0 h) fun x1 h =>
  inv h a0 9 (s_X9_lent a0 a1 h) fun x2 h =>
  if (x1 - x2) < a2 then retZ 0 h
  else retZ 1 h
set_option maxRecDepth 100000 in
set_option maxHeartbeats 4000000 in
theorem o_X9_hasToLend (l : Launch) (base : Nat) (D : va_G) (cA : Nat → ClassId) (a0 : Nat) (a1 : Int32) (a2 : Int32) (h : Hp) (r : Int32) (h' : Hp) (E : s_X9_hasToLend a0 a1 a2 h = some (r, h')) : Met l yX9_hasToLend (.code yX9_hasToLend cX9_hasToLend 3 (some .boolean) :: wsA) rm_X9_hasToLend (PcG base D cA [.ref (base + a0), .int a1, .int a2] h) (QcI base D cA r h') 0 0 (AA base) := by
  refine g_met [.ref (base + a0), .int a1, .int a2] (by decide) (Nat.le_of_ble_eq_true rfl) (fun p e s m args below meth c C hr hn => ?_)
  refine g_lv (lv' := [(0, .ref (base + a0)), (1, .int a1), (2, .int a2)]) rfl ?_
  unfold s_X9_hasToLend at E
  refine g_aload_n C 0 dX9_hasToLend_0 rfl rfl ?_
  refine g_iload_n C 1 dX9_hasToLend_1 rfl rfl ?_
  refine g_iconst C 0 dX9_hasToLend_2 rfl ?_
  refine g_invI C (q := (RX9, TX9, 13)) [.int a1, .int 0] dX9_hasToLend_3 cl_X9_49 cv_X9_part rfl (by decide) rfl rfl ⟨Nat.le_of_ble_eq_true rfl, Nat.le_of_ble_eq_true rfl⟩ (Nat.le_of_ble_eq_true rfl) ⟨Nat.le_of_ble_eq_true rfl, Nat.le_of_ble_eq_true rfl⟩ rfl (fun r' h' E => o_X9_part l base D cA a0 a1 0 h r' h' E) E (fun x1 h2 E => ?_)
  refine g_aload_n C 0 dX9_hasToLend_6 rfl rfl ?_
  refine g_iload_n C 1 dX9_hasToLend_7 rfl rfl ?_
  refine g_invI C (q := (RX9, TX9, 13)) [.int a1] dX9_hasToLend_8 cl_X9_56 cv_X9_lent rfl (by decide) rfl rfl ⟨Nat.le_of_ble_eq_true rfl, Nat.le_of_ble_eq_true rfl⟩ (Nat.le_of_ble_eq_true rfl) ⟨Nat.le_of_ble_eq_true rfl, Nat.le_of_ble_eq_true rfl⟩ rfl (fun r' h' E => o_X9_lent l base D cA a0 a1 h2 r' h' E) E (fun x3 h4 E => ?_)
  refine g_isub C dX9_hasToLend_11 ?_
  refine g_iload_n C 2 dX9_hasToLend_12 rfl rfl ?_
  refine g_icmp_lt C 20 dX9_hasToLend_13 (by decide) E (fun E => ?_) (fun E => ?_)
  · refine g_iconst C 0 dX9_hasToLend_20 rfl ?_
    exact g_zret C dX9_hasToLend_21 hr E
  · refine g_iconst C 1 dX9_hasToLend_16 rfl ?_
    refine g_goto C 21 dX9_hasToLend_17 (by decide) ?_
    exact g_zret C dX9_hasToLend_21 hr E
abbrev rm_X9_changePrice : Room := { frames := 1, cells := 0, slots := 0, locals := 23 }
def s_X9_changePrice (a0 : Nat) (a1 : Int32) (a2 : Int32) (h : Hp) : Rv Unit :=
  inv h a0 9 (s_X9_part a0 a1 1 h) fun x1 h =>
  if 1 ≤ (x1 + a2) then if (x1 + a2) ≤ 50 then inv h a0 9 (s_X9_setPart a0 a1 1 (x1 + a2) h) fun _ h =>
  retU h
  else inv h a0 9 (s_X9_setPart a0 a1 1 50 h) fun _ h =>
  retU h
  else inv h a0 9 (s_X9_setPart a0 a1 1 1 h) fun _ h =>
  retU h
set_option maxRecDepth 100000 in
set_option maxHeartbeats 4000000 in
theorem o_X9_changePrice (l : Launch) (base : Nat) (D : va_G) (cA : Nat → ClassId) (a0 : Nat) (a1 : Int32) (a2 : Int32) (h : Hp) (r : Unit) (h' : Hp) (E : s_X9_changePrice a0 a1 a2 h = some (r, h')) : Met l yX9_changePrice (.code yX9_changePrice cX9_changePrice 4 none :: wsA) rm_X9_changePrice (PcG base D cA [.ref (base + a0), .int a1, .int a2] h) (QcU base D cA h') 0 0 (AA base) := by
  refine g_met [.ref (base + a0), .int a1, .int a2] (by decide) (Nat.le_of_ble_eq_true rfl) (fun p e s m args below meth c C hr hn => ?_)
  refine g_lv (lv' := [(0, .ref (base + a0)), (1, .int a1), (2, .int a2)]) rfl ?_
  unfold s_X9_changePrice at E
  refine g_aload_n C 0 dX9_changePrice_0 rfl rfl ?_
  refine g_iload_n C 1 dX9_changePrice_1 rfl rfl ?_
  refine g_iconst C 1 dX9_changePrice_2 rfl ?_
  refine g_invI C (q := (RX9, TX9, 13)) [.int a1, .int 1] dX9_changePrice_3 cl_X9_49 cv_X9_part rfl (by decide) rfl rfl ⟨Nat.le_of_ble_eq_true rfl, Nat.le_of_ble_eq_true rfl⟩ (Nat.le_of_ble_eq_true rfl) ⟨Nat.le_of_ble_eq_true rfl, Nat.le_of_ble_eq_true rfl⟩ rfl (fun r' h' E => o_X9_part l base D cA a0 a1 1 h r' h' E) E (fun x1 h2 E => ?_)
  refine g_iload_n C 2 dX9_changePrice_6 rfl rfl ?_
  refine g_iadd C dX9_changePrice_7 ?_
  refine g_istore_n C (lv' := [(3, .int (x1 + a2)), (0, .ref (base + a0)), (1, .int a1), (2, .int a2)]) dX9_changePrice_8 rfl (by decide) rfl ?_
  refine g_aload_n C 1 dX9_changePrice_9 rfl rfl ?_
  refine g_iload_n C 2 dX9_changePrice_10 rfl rfl ?_
  refine g_iconst C 1 dX9_changePrice_11 rfl ?_
  refine g_iload_n C 0 dX9_changePrice_12 rfl rfl ?_
  refine g_iconst C 1 dX9_changePrice_13 rfl ?_
  refine g_icmp_ge C 21 dX9_changePrice_14 (by decide) E (fun E => ?_) (fun E => ?_)
  · refine g_iload_n C 0 dX9_changePrice_21 rfl rfl ?_
    refine g_bipush C 50 dX9_changePrice_22 rfl ?_
    refine g_icmp_le C 32 dX9_changePrice_24 (by decide) E (fun E => ?_) (fun E => ?_)
    · refine g_iload_n C 0 dX9_changePrice_32 rfl rfl ?_
      refine g_invU C (q := (RX9, TX9, 13)) [.int a1, .int 1, .int (x1 + a2)] dX9_changePrice_33 cl_X9_63 cv_X9_setPart rfl (by decide) rfl rfl ⟨Nat.le_of_ble_eq_true rfl, Nat.le_of_ble_eq_true rfl⟩ (Nat.le_of_ble_eq_true rfl) ⟨Nat.le_of_ble_eq_true rfl, Nat.le_of_ble_eq_true rfl⟩ rfl (fun r' h' E => o_X9_setPart l base D cA a0 a1 1 (x1 + a2) h2 r' h' E) E (fun x3 h4 E => ?_)
      exact g_vret C dX9_changePrice_36 hr E
    · refine g_bipush C 50 dX9_changePrice_27 rfl ?_
      refine g_goto C 33 dX9_changePrice_29 (by decide) ?_
      refine g_invU C (q := (RX9, TX9, 13)) [.int a1, .int 1, .int 50] dX9_changePrice_33 cl_X9_63 cv_X9_setPart rfl (by decide) rfl rfl ⟨Nat.le_of_ble_eq_true rfl, Nat.le_of_ble_eq_true rfl⟩ (Nat.le_of_ble_eq_true rfl) ⟨Nat.le_of_ble_eq_true rfl, Nat.le_of_ble_eq_true rfl⟩ rfl (fun r' h' E => o_X9_setPart l base D cA a0 a1 1 50 h2 r' h' E) E (fun x5 h6 E => ?_)
      exact g_vret C dX9_changePrice_36 hr E
  · refine g_iconst C 1 dX9_changePrice_17 rfl ?_
    refine g_goto C 33 dX9_changePrice_18 (by decide) ?_
    refine g_invU C (q := (RX9, TX9, 13)) [.int a1, .int 1, .int 1] dX9_changePrice_33 cl_X9_63 cv_X9_setPart rfl (by decide) rfl rfl ⟨Nat.le_of_ble_eq_true rfl, Nat.le_of_ble_eq_true rfl⟩ (Nat.le_of_ble_eq_true rfl) ⟨Nat.le_of_ble_eq_true rfl, Nat.le_of_ble_eq_true rfl⟩ rfl (fun r' h' E => o_X9_setPart l base D cA a0 a1 1 1 h2 r' h' E) E (fun x7 h8 E => ?_)
    exact g_vret C dX9_changePrice_36 hr E
abbrev rm_X9_deals : Room := { frames := 2, cells := 0, slots := 0, locals := 46 }
def s_X9_deals (a0 : Nat) (a1 : Int32) (a2 : Int32) (a3 : Int32) (a4 : Int32) (a5 : Int32) (h : Hp) : Rv Unit :=
  getR h a0 9 0 fun x1 =>
  ldI h x1 20 8 fun x2 =>
  getR h a0 9 0 fun x3 =>
  stI h x3 20 ((351 + (5 * x2)) + 0) a2 fun h =>
  getR h a0 9 0 fun x4 =>
  stI h x4 20 ((351 + (5 * x2)) + 1) a1 fun h =>
  getR h a0 9 0 fun x5 =>
  stI h x5 20 ((351 + (5 * x2)) + 2) a3 fun h =>
  getR h a0 9 0 fun x6 =>
  stI h x6 20 ((351 + (5 * x2)) + 3) a4 fun h =>
  getR h a0 9 0 fun x7 =>
  stI h x7 20 ((351 + (5 * x2)) + 4) a5 fun h =>
  getR h a0 9 0 fun x8 =>
  ldI h x8 20 8 fun x9 =>
  stI h x8 20 8 (x9 + 1) fun h =>
  getR h a0 9 0 fun x10 =>
  ldI h x10 20 9 fun x11 =>
  stI h x10 20 9 (x11 + 1) fun h =>
  inv h a0 9 (s_X9_addPart a0 a1 2 (-a5) h) fun _ h =>
  inv h a0 9 (s_X9_addPart a0 a1 7 a5 h) fun _ h =>
  inv h a0 9 (s_X9_addPart a0 a1 5 1 h) fun _ h =>
  inv h a0 9 (s_X9_addPart a0 a2 2 a5 h) fun _ h =>
  inv h a0 9 (s_X9_addPart a0 a2 8 a5 h) fun _ h =>
  inv h a0 9 (s_X9_changePrice a0 a2 1 h) fun _ h =>
  retU h
set_option maxRecDepth 100000 in
set_option maxHeartbeats 4000000 in
theorem o_X9_deals (l : Launch) (base : Nat) (D : va_G) (cA : Nat → ClassId) (a0 : Nat) (a1 : Int32) (a2 : Int32) (a3 : Int32) (a4 : Int32) (a5 : Int32) (h : Hp) (r : Unit) (h' : Hp) (E : s_X9_deals a0 a1 a2 a3 a4 a5 h = some (r, h')) : Met l yX9_deals (.code yX9_deals cX9_deals 7 none :: wsA) rm_X9_deals (PcG base D cA [.ref (base + a0), .int a1, .int a2, .int a3, .int a4, .int a5] h) (QcU base D cA h') 0 0 (AA base) := by
  refine g_met [.ref (base + a0), .int a1, .int a2, .int a3, .int a4, .int a5] (by decide) (Nat.le_of_ble_eq_true rfl) (fun p e s m args below meth c C hr hn => ?_)
  refine g_lv (lv' := [(0, .ref (base + a0)), (1, .int a1), (2, .int a2), (3, .int a3), (4, .int a4), (5, .int a5)]) rfl ?_
  unfold s_X9_deals at E
  refine g_sipush C 351 dX9_deals_0 rfl ?_
  refine g_iconst C 5 dX9_deals_3 rfl ?_
  refine g_aload_n C 0 dX9_deals_4 rfl rfl ?_
  refine g_getR C dX9_deals_5 fl_X9_7 rfl E (fun x1 E => ?_)
  refine g_bipush C 8 dX9_deals_8 rfl ?_
  refine g_iald C dX9_deals_10 E (fun x2 E => ?_)
  refine g_imul C dX9_deals_11 ?_
  refine g_iadd C dX9_deals_12 ?_
  refine g_istore C (lv' := [(6, .int (351 + (5 * x2))), (0, .ref (base + a0)), (1, .int a1), (2, .int a2), (3, .int a3), (4, .int a4), (5, .int a5)]) dX9_deals_13 (by decide) rfl ?_
  refine g_aload_n C 1 dX9_deals_15 rfl rfl ?_
  refine g_getR C dX9_deals_16 fl_X9_7 rfl E (fun x3 E => ?_)
  refine g_iload C 0 dX9_deals_19 rfl ?_
  refine g_iconst C 0 dX9_deals_21 rfl ?_
  refine g_iadd C dX9_deals_22 ?_
  refine g_iload_n C 3 dX9_deals_23 rfl rfl ?_
  refine g_iast C dX9_deals_24 E (fun h4 E => ?_)
  refine g_aload_n C 1 dX9_deals_25 rfl rfl ?_
  refine g_getR C dX9_deals_26 fl_X9_7 rfl E (fun x5 E => ?_)
  refine g_iload C 0 dX9_deals_29 rfl ?_
  refine g_iconst C 1 dX9_deals_31 rfl ?_
  refine g_iadd C dX9_deals_32 ?_
  refine g_iload_n C 2 dX9_deals_33 rfl rfl ?_
  refine g_iast C dX9_deals_34 E (fun h6 E => ?_)
  refine g_aload_n C 1 dX9_deals_35 rfl rfl ?_
  refine g_getR C dX9_deals_36 fl_X9_7 rfl E (fun x7 E => ?_)
  refine g_iload C 0 dX9_deals_39 rfl ?_
  refine g_iconst C 2 dX9_deals_41 rfl ?_
  refine g_iadd C dX9_deals_42 ?_
  refine g_iload_n C 4 dX9_deals_43 rfl rfl ?_
  refine g_iast C dX9_deals_44 E (fun h8 E => ?_)
  refine g_aload_n C 1 dX9_deals_45 rfl rfl ?_
  refine g_getR C dX9_deals_46 fl_X9_7 rfl E (fun x9 E => ?_)
  refine g_iload C 0 dX9_deals_49 rfl ?_
  refine g_iconst C 3 dX9_deals_51 rfl ?_
  refine g_iadd C dX9_deals_52 ?_
  refine g_iload C 5 dX9_deals_53 rfl ?_
  refine g_iast C dX9_deals_55 E (fun h10 E => ?_)
  refine g_aload_n C 1 dX9_deals_56 rfl rfl ?_
  refine g_getR C dX9_deals_57 fl_X9_7 rfl E (fun x11 E => ?_)
  refine g_iload C 0 dX9_deals_60 rfl ?_
  refine g_iconst C 4 dX9_deals_62 rfl ?_
  refine g_iadd C dX9_deals_63 ?_
  refine g_iload C 6 dX9_deals_64 rfl ?_
  refine g_iast C dX9_deals_66 E (fun h12 E => ?_)
  refine g_aload_n C 1 dX9_deals_67 rfl rfl ?_
  refine g_getR C dX9_deals_68 fl_X9_7 rfl E (fun x13 E => ?_)
  refine g_bipush C 8 dX9_deals_71 rfl ?_
  refine g_dup2 C dX9_deals_73 rfl rfl ?_
  refine g_iald C dX9_deals_74 E (fun x14 E => ?_)
  refine g_iconst C 1 dX9_deals_75 rfl ?_
  refine g_iadd C dX9_deals_76 ?_
  refine g_iast C dX9_deals_77 E (fun h15 E => ?_)
  refine g_aload_n C 1 dX9_deals_78 rfl rfl ?_
  refine g_getR C dX9_deals_79 fl_X9_7 rfl E (fun x16 E => ?_)
  refine g_bipush C 9 dX9_deals_82 rfl ?_
  refine g_dup2 C dX9_deals_84 rfl rfl ?_
  refine g_iald C dX9_deals_85 E (fun x17 E => ?_)
  refine g_iconst C 1 dX9_deals_86 rfl ?_
  refine g_iadd C dX9_deals_87 ?_
  refine g_iast C dX9_deals_88 E (fun h18 E => ?_)
  refine g_aload_n C 1 dX9_deals_89 rfl rfl ?_
  refine g_iload_n C 2 dX9_deals_90 rfl rfl ?_
  refine g_iconst C 2 dX9_deals_91 rfl ?_
  refine g_iload C 6 dX9_deals_92 rfl ?_
  refine g_ineg C dX9_deals_94 ?_
  refine g_invU C (q := (RX9, TX9, 13)) [.int a1, .int 2, .int (-a5)] dX9_deals_95 cl_X9_101 cv_X9_addPart rfl (by decide) rfl rfl ⟨Nat.le_of_ble_eq_true rfl, Nat.le_of_ble_eq_true rfl⟩ (Nat.le_of_ble_eq_true rfl) ⟨Nat.le_of_ble_eq_true rfl, Nat.le_of_ble_eq_true rfl⟩ rfl (fun r' h' E => o_X9_addPart l base D cA a0 a1 2 (-a5) h18 r' h' E) E (fun x19 h20 E => ?_)
  refine g_aload_n C 1 dX9_deals_98 rfl rfl ?_
  refine g_iload_n C 2 dX9_deals_99 rfl rfl ?_
  refine g_bipush C 7 dX9_deals_100 rfl ?_
  refine g_iload C 6 dX9_deals_102 rfl ?_
  refine g_invU C (q := (RX9, TX9, 13)) [.int a1, .int 7, .int a5] dX9_deals_104 cl_X9_101 cv_X9_addPart rfl (by decide) rfl rfl ⟨Nat.le_of_ble_eq_true rfl, Nat.le_of_ble_eq_true rfl⟩ (Nat.le_of_ble_eq_true rfl) ⟨Nat.le_of_ble_eq_true rfl, Nat.le_of_ble_eq_true rfl⟩ rfl (fun r' h' E => o_X9_addPart l base D cA a0 a1 7 a5 h20 r' h' E) E (fun x21 h22 E => ?_)
  refine g_aload_n C 1 dX9_deals_107 rfl rfl ?_
  refine g_iload_n C 2 dX9_deals_108 rfl rfl ?_
  refine g_iconst C 5 dX9_deals_109 rfl ?_
  refine g_iconst C 1 dX9_deals_110 rfl ?_
  refine g_invU C (q := (RX9, TX9, 13)) [.int a1, .int 5, .int 1] dX9_deals_111 cl_X9_101 cv_X9_addPart rfl (by decide) rfl rfl ⟨Nat.le_of_ble_eq_true rfl, Nat.le_of_ble_eq_true rfl⟩ (Nat.le_of_ble_eq_true rfl) ⟨Nat.le_of_ble_eq_true rfl, Nat.le_of_ble_eq_true rfl⟩ rfl (fun r' h' E => o_X9_addPart l base D cA a0 a1 5 1 h22 r' h' E) E (fun x23 h24 E => ?_)
  refine g_aload_n C 1 dX9_deals_114 rfl rfl ?_
  refine g_iload_n C 3 dX9_deals_115 rfl rfl ?_
  refine g_iconst C 2 dX9_deals_116 rfl ?_
  refine g_iload C 6 dX9_deals_117 rfl ?_
  refine g_invU C (q := (RX9, TX9, 13)) [.int a2, .int 2, .int a5] dX9_deals_119 cl_X9_101 cv_X9_addPart rfl (by decide) rfl rfl ⟨Nat.le_of_ble_eq_true rfl, Nat.le_of_ble_eq_true rfl⟩ (Nat.le_of_ble_eq_true rfl) ⟨Nat.le_of_ble_eq_true rfl, Nat.le_of_ble_eq_true rfl⟩ rfl (fun r' h' E => o_X9_addPart l base D cA a0 a2 2 a5 h24 r' h' E) E (fun x25 h26 E => ?_)
  refine g_aload_n C 1 dX9_deals_122 rfl rfl ?_
  refine g_iload_n C 3 dX9_deals_123 rfl rfl ?_
  refine g_bipush C 8 dX9_deals_124 rfl ?_
  refine g_iload C 6 dX9_deals_126 rfl ?_
  refine g_invU C (q := (RX9, TX9, 13)) [.int a2, .int 8, .int a5] dX9_deals_128 cl_X9_101 cv_X9_addPart rfl (by decide) rfl rfl ⟨Nat.le_of_ble_eq_true rfl, Nat.le_of_ble_eq_true rfl⟩ (Nat.le_of_ble_eq_true rfl) ⟨Nat.le_of_ble_eq_true rfl, Nat.le_of_ble_eq_true rfl⟩ rfl (fun r' h' E => o_X9_addPart l base D cA a0 a2 8 a5 h26 r' h' E) E (fun x27 h28 E => ?_)
  refine g_aload_n C 1 dX9_deals_131 rfl rfl ?_
  refine g_iload_n C 3 dX9_deals_132 rfl rfl ?_
  refine g_iconst C 1 dX9_deals_133 rfl ?_
  refine g_invU C (q := (RX9, TX9, 13)) [.int a2, .int 1] dX9_deals_134 cl_X9_163 cv_X9_changePrice rfl (by decide) rfl rfl ⟨Nat.le_of_ble_eq_true rfl, Nat.le_of_ble_eq_true rfl⟩ (Nat.le_of_ble_eq_true rfl) ⟨Nat.le_of_ble_eq_true rfl, Nat.le_of_ble_eq_true rfl⟩ rfl (fun r' h' E => o_X9_changePrice l base D cA a0 a2 1 h28 r' h' E) E (fun x29 h30 E => ?_)
  exact g_vret C dX9_deals_137 hr E
abbrev rm_X9_haggle : Room := { frames := 3, cells := 0, slots := 0, locals := 72 }
def s_X9_haggle (a0 : Nat) (a1 : Int32) (a2 : Int32) (a3 : Int32) (a4 : Int32) (a5 : Int32) (h : Hp) : Rv Int32 :=
  inv h a0 9 (s_X9_isHouse a0 a1 h) fun x1 h =>
  if x1 = 0 then retI (-1) h
  else inv h a0 9 (s_X9_isHouse a0 a2 h) fun x2 h =>
  if x2 = 0 then retI (-1) h
  else bnd (s_X9_within a3 1 20 h) fun x3 h =>
  if x3 = 0 then retI (-2) h
  else bnd (s_X9_within a4 1 9999 h) fun x4 h =>
  if x4 = 0 then retI (-2) h
  else bnd (s_X9_within a5 1 240 h) fun x5 h =>
  if x5 = 0 then retI (-2) h
  else if a1 = a2 then retI (-2) h
  else inv h a0 9 (s_X9_hasToLend a0 a2 a3 h) fun x6 h =>
  if x6 = 0 then retI (-4) h
  else inv h a0 9 (s_X9_part a0 a1 2 h) fun x7 h =>
  if a4 ≤ x7 then getR h a0 9 0 fun x8 =>
  ldI h x8 20 8 fun x9 =>
  if x9 = 10 then retI (-3) h
  else inv h a0 9 (s_X9_record a0 h) fun _ h =>
  inv h a0 9 (s_X9_askOf a0 a2 a3 h) fun x10 h =>
  if a4 < x10 then inv h a0 9 (s_X9_addPart a0 a1 6 1 h) fun _ h =>
  getR h a0 9 0 fun x11 =>
  ldI h x11 20 10 fun x12 =>
  stI h x11 20 10 (x12 + 1) fun h =>
  if (2 * a4) < x10 then inv h a0 9 (s_X9_changePrice a0 a2 1 h) fun _ h =>
  retI 0 h
  else inv h a0 9 (s_X9_changePrice a0 a2 (-1) h) fun _ h =>
  retI 0 h
  else divI (a4 + x10) 2 fun x13 =>
  inv h a0 9 (s_X9_deals a0 a1 a2 a3 a5 x13 h) fun _ h =>
  retI x13 h
  else retI (-4) h
set_option maxRecDepth 100000 in
set_option maxHeartbeats 4000000 in
theorem o_X9_haggle (l : Launch) (base : Nat) (D : va_G) (cA : Nat → ClassId) (a0 : Nat) (a1 : Int32) (a2 : Int32) (a3 : Int32) (a4 : Int32) (a5 : Int32) (h : Hp) (r : Int32) (h' : Hp) (E : s_X9_haggle a0 a1 a2 a3 a4 a5 h = some (r, h')) : Met l yX9_haggle (.code yX9_haggle cX9_haggle 8 (some .int) :: wsA) rm_X9_haggle (PcG base D cA [.ref (base + a0), .int a1, .int a2, .int a3, .int a4, .int a5] h) (QcI base D cA r h') 0 0 (AA base) := by
  refine g_met [.ref (base + a0), .int a1, .int a2, .int a3, .int a4, .int a5] (by decide) (Nat.le_of_ble_eq_true rfl) (fun p e s m args below meth c C hr hn => ?_)
  refine g_lv (lv' := [(0, .ref (base + a0)), (1, .int a1), (2, .int a2), (3, .int a3), (4, .int a4), (5, .int a5)]) rfl ?_
  unfold s_X9_haggle at E
  refine g_aload_n C 0 dX9_haggle_0 rfl rfl ?_
  refine g_iload_n C 1 dX9_haggle_1 rfl rfl ?_
  refine g_invI C (q := (RX9, TX9, 13)) [.int a1] dX9_haggle_2 cl_X9_154 cv_X9_isHouse rfl (by decide) rfl rfl ⟨Nat.le_of_ble_eq_true rfl, Nat.le_of_ble_eq_true rfl⟩ (Nat.le_of_ble_eq_true rfl) ⟨Nat.le_of_ble_eq_true rfl, Nat.le_of_ble_eq_true rfl⟩ rfl (fun r' h' E => o_X9_isHouse l base D cA a0 a1 h r' h' E) E (fun x1 h2 E => ?_)
  refine g_if_eq C 16 dX9_haggle_5 (by decide) E (fun E => ?_) (fun E => ?_)
  · refine g_iconst C (-1) dX9_haggle_16 rfl ?_
    exact g_iret C dX9_haggle_17 hr E
  · refine g_aload_n C 0 dX9_haggle_8 rfl rfl ?_
    refine g_iload_n C 2 dX9_haggle_9 rfl rfl ?_
    refine g_invI C (q := (RX9, TX9, 13)) [.int a2] dX9_haggle_10 cl_X9_154 cv_X9_isHouse rfl (by decide) rfl rfl ⟨Nat.le_of_ble_eq_true rfl, Nat.le_of_ble_eq_true rfl⟩ (Nat.le_of_ble_eq_true rfl) ⟨Nat.le_of_ble_eq_true rfl, Nat.le_of_ble_eq_true rfl⟩ rfl (fun r' h' E => o_X9_isHouse l base D cA a0 a2 h2 r' h' E) E (fun x3 h4 E => ?_)
    refine g_if_ne C 18 dX9_haggle_13 (by decide) E (fun E => ?_) (fun E => ?_)
    · refine g_iload_n C 3 dX9_haggle_18 rfl rfl ?_
      refine g_iconst C 1 dX9_haggle_19 rfl ?_
      refine g_bipush C 20 dX9_haggle_20 rfl ?_
      refine g_staI C [.int a3, .int 1, .int 20] dX9_haggle_22 cl_X9_45 cs_X9_within rfl rfl ⟨Nat.le_of_ble_eq_true rfl, Nat.le_of_ble_eq_true rfl⟩ (Nat.le_of_ble_eq_true rfl) ⟨Nat.le_of_ble_eq_true rfl, Nat.le_of_ble_eq_true rfl⟩ rfl (fun r' h' E => o_X9_within l base D cA a3 1 20 h4 r' h' E) E (fun x5 h6 E => ?_)
      refine g_if_eq C 57 dX9_haggle_25 (by decide) E (fun E => ?_) (fun E => ?_)
      · refine g_bipush C (-2) dX9_haggle_57 rfl ?_
        exact g_iret C dX9_haggle_59 hr E
      · refine g_iload C 4 dX9_haggle_28 rfl ?_
        refine g_iconst C 1 dX9_haggle_30 rfl ?_
        refine g_sipush C 9999 dX9_haggle_31 rfl ?_
        refine g_staI C [.int a4, .int 1, .int 9999] dX9_haggle_34 cl_X9_45 cs_X9_within rfl rfl ⟨Nat.le_of_ble_eq_true rfl, Nat.le_of_ble_eq_true rfl⟩ (Nat.le_of_ble_eq_true rfl) ⟨Nat.le_of_ble_eq_true rfl, Nat.le_of_ble_eq_true rfl⟩ rfl (fun r' h' E => o_X9_within l base D cA a4 1 9999 h6 r' h' E) E (fun x7 h8 E => ?_)
        refine g_if_eq C 57 dX9_haggle_37 (by decide) E (fun E => ?_) (fun E => ?_)
        · refine g_bipush C (-2) dX9_haggle_57 rfl ?_
          exact g_iret C dX9_haggle_59 hr E
        · refine g_iload C 5 dX9_haggle_40 rfl ?_
          refine g_iconst C 1 dX9_haggle_42 rfl ?_
          refine g_sipush C 240 dX9_haggle_43 rfl ?_
          refine g_staI C [.int a5, .int 1, .int 240] dX9_haggle_46 cl_X9_45 cs_X9_within rfl rfl ⟨Nat.le_of_ble_eq_true rfl, Nat.le_of_ble_eq_true rfl⟩ (Nat.le_of_ble_eq_true rfl) ⟨Nat.le_of_ble_eq_true rfl, Nat.le_of_ble_eq_true rfl⟩ rfl (fun r' h' E => o_X9_within l base D cA a5 1 240 h8 r' h' E) E (fun x9 h10 E => ?_)
          refine g_if_eq C 57 dX9_haggle_49 (by decide) E (fun E => ?_) (fun E => ?_)
          · refine g_bipush C (-2) dX9_haggle_57 rfl ?_
            exact g_iret C dX9_haggle_59 hr E
          · refine g_iload_n C 1 dX9_haggle_52 rfl rfl ?_
            refine g_iload_n C 2 dX9_haggle_53 rfl rfl ?_
            refine g_icmp_ne C 60 dX9_haggle_54 (by decide) E (fun E => ?_) (fun E => ?_)
            · refine g_aload_n C 0 dX9_haggle_60 rfl rfl ?_
              refine g_iload_n C 2 dX9_haggle_61 rfl rfl ?_
              refine g_iload_n C 3 dX9_haggle_62 rfl rfl ?_
              refine g_invI C (q := (RX9, TX9, 13)) [.int a2, .int a3] dX9_haggle_63 cl_X9_166 cv_X9_hasToLend rfl (by decide) rfl rfl ⟨Nat.le_of_ble_eq_true rfl, Nat.le_of_ble_eq_true rfl⟩ (Nat.le_of_ble_eq_true rfl) ⟨Nat.le_of_ble_eq_true rfl, Nat.le_of_ble_eq_true rfl⟩ rfl (fun r' h' E => o_X9_hasToLend l base D cA a0 a2 a3 h10 r' h' E) E (fun x11 h12 E => ?_)
              refine g_if_eq C 80 dX9_haggle_66 (by decide) E (fun E => ?_) (fun E => ?_)
              · refine g_bipush C (-4) dX9_haggle_80 rfl ?_
                exact g_iret C dX9_haggle_82 hr E
              · refine g_aload_n C 0 dX9_haggle_69 rfl rfl ?_
                refine g_iload_n C 1 dX9_haggle_70 rfl rfl ?_
                refine g_iconst C 2 dX9_haggle_71 rfl ?_
                refine g_invI C (q := (RX9, TX9, 13)) [.int a1, .int 2] dX9_haggle_72 cl_X9_49 cv_X9_part rfl (by decide) rfl rfl ⟨Nat.le_of_ble_eq_true rfl, Nat.le_of_ble_eq_true rfl⟩ (Nat.le_of_ble_eq_true rfl) ⟨Nat.le_of_ble_eq_true rfl, Nat.le_of_ble_eq_true rfl⟩ rfl (fun r' h' E => o_X9_part l base D cA a0 a1 2 h12 r' h' E) E (fun x13 h14 E => ?_)
                refine g_iload C 4 dX9_haggle_75 rfl ?_
                refine g_icmp_ge C 83 dX9_haggle_77 (by decide) E (fun E => ?_) (fun E => ?_)
                · refine g_aload_n C 0 dX9_haggle_83 rfl rfl ?_
                  refine g_getR C dX9_haggle_84 fl_X9_7 rfl E (fun x15 E => ?_)
                  refine g_bipush C 8 dX9_haggle_87 rfl ?_
                  refine g_iald C dX9_haggle_89 E (fun x16 E => ?_)
                  refine g_bipush C 10 dX9_haggle_90 rfl ?_
                  refine g_icmp_ne C 98 dX9_haggle_92 (by decide) E (fun E => ?_) (fun E => ?_)
                  · refine g_aload_n C 0 dX9_haggle_98 rfl rfl ?_
                    refine g_invU C (q := (RX9, TX9, 13)) [] dX9_haggle_99 cl_X9_60 cv_X9_record rfl (by decide) rfl rfl ⟨Nat.le_of_ble_eq_true rfl, Nat.le_of_ble_eq_true rfl⟩ (Nat.le_of_ble_eq_true rfl) ⟨Nat.le_of_ble_eq_true rfl, Nat.le_of_ble_eq_true rfl⟩ rfl (fun r' h' E => o_X9_record l base D cA a0 h14 r' h' E) E (fun x17 h18 E => ?_)
                    refine g_aload_n C 0 dX9_haggle_102 rfl rfl ?_
                    refine g_iload_n C 2 dX9_haggle_103 rfl rfl ?_
                    refine g_iload_n C 3 dX9_haggle_104 rfl rfl ?_
                    refine g_invI C (q := (RX9, TX9, 13)) [.int a2, .int a3] dX9_haggle_105 cl_X9_169 cv_X9_askOf rfl (by decide) rfl rfl ⟨Nat.le_of_ble_eq_true rfl, Nat.le_of_ble_eq_true rfl⟩ (Nat.le_of_ble_eq_true rfl) ⟨Nat.le_of_ble_eq_true rfl, Nat.le_of_ble_eq_true rfl⟩ rfl (fun r' h' E => o_X9_askOf l base D cA a0 a2 a3 h18 r' h' E) E (fun x19 h20 E => ?_)
                    refine g_istore C (lv' := [(6, .int x19), (0, .ref (base + a0)), (1, .int a1), (2, .int a2), (3, .int a3), (4, .int a4), (5, .int a5)]) dX9_haggle_108 (by decide) rfl ?_
                    refine g_iload C 5 dX9_haggle_110 rfl ?_
                    refine g_iload C 0 dX9_haggle_112 rfl ?_
                    refine g_icmp_lt C 140 dX9_haggle_114 (by decide) E (fun E => ?_) (fun E => ?_)
                    · refine g_aload_n C 1 dX9_haggle_140 rfl rfl ?_
                      refine g_iload_n C 2 dX9_haggle_141 rfl rfl ?_
                      refine g_bipush C 6 dX9_haggle_142 rfl ?_
                      refine g_iconst C 1 dX9_haggle_144 rfl ?_
                      refine g_invU C (q := (RX9, TX9, 13)) [.int a1, .int 6, .int 1] dX9_haggle_145 cl_X9_101 cv_X9_addPart rfl (by decide) rfl rfl ⟨Nat.le_of_ble_eq_true rfl, Nat.le_of_ble_eq_true rfl⟩ (Nat.le_of_ble_eq_true rfl) ⟨Nat.le_of_ble_eq_true rfl, Nat.le_of_ble_eq_true rfl⟩ rfl (fun r' h' E => o_X9_addPart l base D cA a0 a1 6 1 h20 r' h' E) E (fun x21 h22 E => ?_)
                      refine g_aload_n C 1 dX9_haggle_148 rfl rfl ?_
                      refine g_getR C dX9_haggle_149 fl_X9_7 rfl E (fun x23 E => ?_)
                      refine g_bipush C 10 dX9_haggle_152 rfl ?_
                      refine g_dup2 C dX9_haggle_154 rfl rfl ?_
                      refine g_iald C dX9_haggle_155 E (fun x24 E => ?_)
                      refine g_iconst C 1 dX9_haggle_156 rfl ?_
                      refine g_iadd C dX9_haggle_157 ?_
                      refine g_iast C dX9_haggle_158 E (fun h25 E => ?_)
                      refine g_aload_n C 1 dX9_haggle_159 rfl rfl ?_
                      refine g_iload_n C 3 dX9_haggle_160 rfl rfl ?_
                      refine g_iconst C 2 dX9_haggle_161 rfl ?_
                      refine g_iload C 5 dX9_haggle_162 rfl ?_
                      refine g_imul C dX9_haggle_164 ?_
                      refine g_iload C 0 dX9_haggle_165 rfl ?_
                      refine g_icmp_lt C 174 dX9_haggle_167 (by decide) E (fun E => ?_) (fun E => ?_)
                      · refine g_iconst C 1 dX9_haggle_174 rfl ?_
                        refine g_invU C (q := (RX9, TX9, 13)) [.int a2, .int 1] dX9_haggle_175 cl_X9_163 cv_X9_changePrice rfl (by decide) rfl rfl ⟨Nat.le_of_ble_eq_true rfl, Nat.le_of_ble_eq_true rfl⟩ (Nat.le_of_ble_eq_true rfl) ⟨Nat.le_of_ble_eq_true rfl, Nat.le_of_ble_eq_true rfl⟩ rfl (fun r' h' E => o_X9_changePrice l base D cA a0 a2 1 h25 r' h' E) E (fun x26 h27 E => ?_)
                        refine g_iconst C 0 dX9_haggle_178 rfl ?_
                        exact g_iret C dX9_haggle_179 hr E
                      · refine g_iconst C (-1) dX9_haggle_170 rfl ?_
                        refine g_goto C 175 dX9_haggle_171 (by decide) ?_
                        refine g_invU C (q := (RX9, TX9, 13)) [.int a2, .int (-1)] dX9_haggle_175 cl_X9_163 cv_X9_changePrice rfl (by decide) rfl rfl ⟨Nat.le_of_ble_eq_true rfl, Nat.le_of_ble_eq_true rfl⟩ (Nat.le_of_ble_eq_true rfl) ⟨Nat.le_of_ble_eq_true rfl, Nat.le_of_ble_eq_true rfl⟩ rfl (fun r' h' E => o_X9_changePrice l base D cA a0 a2 (-1) h25 r' h' E) E (fun x28 h29 E => ?_)
                        refine g_iconst C 0 dX9_haggle_178 rfl ?_
                        exact g_iret C dX9_haggle_179 hr E
                    · refine g_iload C 5 dX9_haggle_117 rfl ?_
                      refine g_iload C 0 dX9_haggle_119 rfl ?_
                      refine g_iadd C dX9_haggle_121 ?_
                      refine g_iconst C 2 dX9_haggle_122 rfl ?_
                      refine g_idiv C dX9_haggle_123 E (fun x30 E => ?_)
                      refine g_istore C (lv' := [(7, .int x30), (6, .int x19), (0, .ref (base + a0)), (1, .int a1), (2, .int a2), (3, .int a3), (4, .int a4), (5, .int a5)]) dX9_haggle_124 (by decide) rfl ?_
                      refine g_aload_n C 2 dX9_haggle_126 rfl rfl ?_
                      refine g_iload_n C 3 dX9_haggle_127 rfl rfl ?_
                      refine g_iload_n C 4 dX9_haggle_128 rfl rfl ?_
                      refine g_iload_n C 5 dX9_haggle_129 rfl rfl ?_
                      refine g_iload C 7 dX9_haggle_130 rfl ?_
                      refine g_iload C 0 dX9_haggle_132 rfl ?_
                      refine g_invU C (q := (RX9, TX9, 13)) [.int a1, .int a2, .int a3, .int a5, .int x30] dX9_haggle_134 cl_X9_172 cv_X9_deals rfl (by decide) rfl rfl ⟨Nat.le_of_ble_eq_true rfl, Nat.le_of_ble_eq_true rfl⟩ (Nat.le_of_ble_eq_true rfl) ⟨Nat.le_of_ble_eq_true rfl, Nat.le_of_ble_eq_true rfl⟩ rfl (fun r' h' E => o_X9_deals l base D cA a0 a1 a2 a3 a5 x30 h20 r' h' E) E (fun x31 h32 E => ?_)
                      refine g_iload C 0 dX9_haggle_137 rfl ?_
                      exact g_iret C dX9_haggle_139 hr E
                  · refine g_bipush C (-3) dX9_haggle_95 rfl ?_
                    exact g_iret C dX9_haggle_97 hr E
                · refine g_bipush C (-4) dX9_haggle_80 rfl ?_
                  exact g_iret C dX9_haggle_82 hr E
            · refine g_bipush C (-2) dX9_haggle_57 rfl ?_
              exact g_iret C dX9_haggle_59 hr E
    · refine g_iconst C (-1) dX9_haggle_16 rfl ?_
      exact g_iret C dX9_haggle_17 hr E
abbrev rm_X9_undo : Room := { frames := 1, cells := 0, slots := 0, locals := 24 }
def s_X9_undo (a0 : Nat) (h : Hp) : Rv Int32 :=
  getI h a0 9 5 fun x1 =>
  if x1 = 0 then retI (-5) h
  else getI h a0 9 5 fun x2 =>
  putI h a0 9 5 (x2 - 1) fun h =>
  getR h a0 9 4 fun x3 =>
  getI h a0 9 5 fun x4 =>
  getR h a0 9 0 fun x5 =>
  bnd (s_X9_copy x3 (x4 * 401) x5 0 h) fun _ h =>
  getI h a0 9 5 fun x6 =>
  retI x6 h
set_option maxRecDepth 100000 in
set_option maxHeartbeats 4000000 in
theorem o_X9_undo (l : Launch) (base : Nat) (D : va_G) (cA : Nat → ClassId) (a0 : Nat) (h : Hp) (r : Int32) (h' : Hp) (E : s_X9_undo a0 h = some (r, h')) : Met l yX9_undo (.code yX9_undo cX9_undo 1 (some .int) :: wsA) rm_X9_undo (PcG base D cA [.ref (base + a0)] h) (QcI base D cA r h') 0 0 (AA base) := by
  refine g_met [.ref (base + a0)] (by decide) (Nat.le_of_ble_eq_true rfl) (fun p e s m args below meth c C hr hn => ?_)
  refine g_lv (lv' := [(0, .ref (base + a0))]) rfl ?_
  unfold s_X9_undo at E
  refine g_aload_n C 0 dX9_undo_0 rfl rfl ?_
  refine g_getI C dX9_undo_1 fl_X9_37 (by decide) (by decide) E (fun x1 E => ?_)
  refine g_if_ne C 10 dX9_undo_4 (by decide) E (fun E => ?_) (fun E => ?_)
  · refine g_aload_n C 0 dX9_undo_10 rfl rfl ?_
    refine g_dup C dX9_undo_11 rfl ?_
    refine g_getI C dX9_undo_12 fl_X9_37 (by decide) (by decide) E (fun x2 E => ?_)
    refine g_iconst C 1 dX9_undo_15 rfl ?_
    refine g_isub C dX9_undo_16 ?_
    refine g_putI C false dX9_undo_17 fl_X9_37 fp_X9_9_5 (fun q => Bool.noConfusion q) rfl E (fun h3 E => ?_)
    refine g_aload_n C 0 dX9_undo_20 rfl rfl ?_
    refine g_getR C dX9_undo_21 fl_X9_19 rfl E (fun x4 E => ?_)
    refine g_aload_n C 0 dX9_undo_24 rfl rfl ?_
    refine g_getI C dX9_undo_25 fl_X9_37 (by decide) (by decide) E (fun x5 E => ?_)
    refine g_sipush C 401 dX9_undo_28 rfl ?_
    refine g_imul C dX9_undo_31 ?_
    refine g_aload_n C 0 dX9_undo_32 rfl rfl ?_
    refine g_getR C dX9_undo_33 fl_X9_7 rfl E (fun x6 E => ?_)
    refine g_iconst C 0 dX9_undo_36 rfl ?_
    refine g_staU C [.ref (base + x4), .int (x5 * 401), .ref (base + x6), .int 0] dX9_undo_37 cl_X9_41 cs_X9_copy rfl rfl ⟨Nat.le_of_ble_eq_true rfl, Nat.le_of_ble_eq_true rfl⟩ (Nat.le_of_ble_eq_true rfl) ⟨Nat.le_of_ble_eq_true rfl, Nat.le_of_ble_eq_true rfl⟩ rfl (fun r' h' E => o_X9_copy l base D cA x4 (x5 * 401) x6 0 h3 r' h' E) E (fun x7 h8 E => ?_)
    refine g_aload_n C 0 dX9_undo_40 rfl rfl ?_
    refine g_getI C dX9_undo_41 fl_X9_37 (by decide) (by decide) E (fun x9 E => ?_)
    exact g_iret C dX9_undo_44 hr E
  · refine g_bipush C (-5) dX9_undo_7 rfl ?_
    exact g_iret C dX9_undo_9 hr E
abbrev rm_X9_keep : Room := { frames := 1, cells := 0, slots := 0, locals := 24 }
def s_X9_keep (a0 : Nat) (h : Hp) : Rv Int32 :=
  getR h a0 9 0 fun x1 =>
  getR h a0 9 2 fun x2 =>
  bnd (s_X9_copy x1 0 x2 0 h) fun _ h =>
  putI h a0 9 3 1 fun h =>
  getR h a0 9 0 fun x3 =>
  ldI h x3 20 0 fun x4 =>
  retI x4 h
set_option maxRecDepth 100000 in
set_option maxHeartbeats 4000000 in
theorem o_X9_keep (l : Launch) (base : Nat) (D : va_G) (cA : Nat → ClassId) (a0 : Nat) (h : Hp) (r : Int32) (h' : Hp) (E : s_X9_keep a0 h = some (r, h')) : Met l yX9_keep (.code yX9_keep cX9_keep 1 (some .int) :: wsA) rm_X9_keep (PcG base D cA [.ref (base + a0)] h) (QcI base D cA r h') 0 0 (AA base) := by
  refine g_met [.ref (base + a0)] (by decide) (Nat.le_of_ble_eq_true rfl) (fun p e s m args below meth c C hr hn => ?_)
  refine g_lv (lv' := [(0, .ref (base + a0))]) rfl ?_
  unfold s_X9_keep at E
  refine g_aload_n C 0 dX9_keep_0 rfl rfl ?_
  refine g_getR C dX9_keep_1 fl_X9_7 rfl E (fun x1 E => ?_)
  refine g_iconst C 0 dX9_keep_4 rfl ?_
  refine g_aload_n C 0 dX9_keep_5 rfl rfl ?_
  refine g_getR C dX9_keep_6 fl_X9_16 rfl E (fun x2 E => ?_)
  refine g_iconst C 0 dX9_keep_9 rfl ?_
  refine g_staU C [.ref (base + x1), .int 0, .ref (base + x2), .int 0] dX9_keep_10 cl_X9_41 cs_X9_copy rfl rfl ⟨Nat.le_of_ble_eq_true rfl, Nat.le_of_ble_eq_true rfl⟩ (Nat.le_of_ble_eq_true rfl) ⟨Nat.le_of_ble_eq_true rfl, Nat.le_of_ble_eq_true rfl⟩ rfl (fun r' h' E => o_X9_copy l base D cA x1 0 x2 0 h r' h' E) E (fun x3 h4 E => ?_)
  refine g_aload_n C 0 dX9_keep_13 rfl rfl ?_
  refine g_iconst C 1 dX9_keep_14 rfl ?_
  refine g_putI C false dX9_keep_15 fl_X9_176 fp_X9_9_3 (fun q => Bool.noConfusion q) rfl E (fun h5 E => ?_)
  refine g_aload_n C 0 dX9_keep_18 rfl rfl ?_
  refine g_getR C dX9_keep_19 fl_X9_7 rfl E (fun x6 E => ?_)
  refine g_iconst C 0 dX9_keep_22 rfl ?_
  refine g_iald C dX9_keep_23 E (fun x7 E => ?_)
  exact g_iret C dX9_keep_24 hr E
abbrev rm_X9_restore : Room := { frames := 2, cells := 0, slots := 0, locals := 45 }
def s_X9_restore (a0 : Nat) (h : Hp) : Rv Int32 :=
  getI h a0 9 3 fun x1 =>
  if x1 = 0 then retI (-5) h
  else inv h a0 9 (s_X9_record a0 h) fun _ h =>
  getR h a0 9 2 fun x2 =>
  getR h a0 9 0 fun x3 =>
  bnd (s_X9_copy x2 0 x3 0 h) fun _ h =>
  getR h a0 9 0 fun x4 =>
  ldI h x4 20 0 fun x5 =>
  retI x5 h
set_option maxRecDepth 100000 in
set_option maxHeartbeats 4000000 in
theorem o_X9_restore (l : Launch) (base : Nat) (D : va_G) (cA : Nat → ClassId) (a0 : Nat) (h : Hp) (r : Int32) (h' : Hp) (E : s_X9_restore a0 h = some (r, h')) : Met l yX9_restore (.code yX9_restore cX9_restore 1 (some .int) :: wsA) rm_X9_restore (PcG base D cA [.ref (base + a0)] h) (QcI base D cA r h') 0 0 (AA base) := by
  refine g_met [.ref (base + a0)] (by decide) (Nat.le_of_ble_eq_true rfl) (fun p e s m args below meth c C hr hn => ?_)
  refine g_lv (lv' := [(0, .ref (base + a0))]) rfl ?_
  unfold s_X9_restore at E
  refine g_aload_n C 0 dX9_restore_0 rfl rfl ?_
  refine g_getI C dX9_restore_1 fl_X9_176 (by decide) (by decide) E (fun x1 E => ?_)
  refine g_if_ne C 10 dX9_restore_4 (by decide) E (fun E => ?_) (fun E => ?_)
  · refine g_aload_n C 0 dX9_restore_10 rfl rfl ?_
    refine g_invU C (q := (RX9, TX9, 13)) [] dX9_restore_11 cl_X9_60 cv_X9_record rfl (by decide) rfl rfl ⟨Nat.le_of_ble_eq_true rfl, Nat.le_of_ble_eq_true rfl⟩ (Nat.le_of_ble_eq_true rfl) ⟨Nat.le_of_ble_eq_true rfl, Nat.le_of_ble_eq_true rfl⟩ rfl (fun r' h' E => o_X9_record l base D cA a0 h r' h' E) E (fun x2 h3 E => ?_)
    refine g_aload_n C 0 dX9_restore_14 rfl rfl ?_
    refine g_getR C dX9_restore_15 fl_X9_16 rfl E (fun x4 E => ?_)
    refine g_iconst C 0 dX9_restore_18 rfl ?_
    refine g_aload_n C 0 dX9_restore_19 rfl rfl ?_
    refine g_getR C dX9_restore_20 fl_X9_7 rfl E (fun x5 E => ?_)
    refine g_iconst C 0 dX9_restore_23 rfl ?_
    refine g_staU C [.ref (base + x4), .int 0, .ref (base + x5), .int 0] dX9_restore_24 cl_X9_41 cs_X9_copy rfl rfl ⟨Nat.le_of_ble_eq_true rfl, Nat.le_of_ble_eq_true rfl⟩ (Nat.le_of_ble_eq_true rfl) ⟨Nat.le_of_ble_eq_true rfl, Nat.le_of_ble_eq_true rfl⟩ rfl (fun r' h' E => o_X9_copy l base D cA x4 0 x5 0 h3 r' h' E) E (fun x6 h7 E => ?_)
    refine g_aload_n C 0 dX9_restore_27 rfl rfl ?_
    refine g_getR C dX9_restore_28 fl_X9_7 rfl E (fun x8 E => ?_)
    refine g_iconst C 0 dX9_restore_31 rfl ?_
    refine g_iald C dX9_restore_32 E (fun x9 E => ?_)
    exact g_iret C dX9_restore_33 hr E
  · refine g_bipush C (-5) dX9_restore_7 rfl ?_
    exact g_iret C dX9_restore_9 hr E
abbrev rm_X9_house : Room := { frames := 3, cells := 0, slots := 0, locals := 68 }
def s_X9_house (a0 : Nat) (a1 : Int32) (a2 : Int32) (h : Hp) : Rv Int32 :=
  inv h a0 9 (s_X9_isHouse a0 a1 h) fun x1 h =>
  if x1 = 0 then retI (-1) h
  else bnd (s_X9_within a2 0 9 h) fun x2 h =>
  if x2 = 0 then retI (-2) h
  else if a2 = 0 then inv h a0 9 (s_X9_sharesOf a0 a1 h) fun x4 h =>
  retI x4 h
  else inv h a0 9 (s_X9_part a0 a1 (a2 - 1) h) fun x3 h =>
  retI x3 h
set_option maxRecDepth 100000 in
set_option maxHeartbeats 4000000 in
theorem o_X9_house (l : Launch) (base : Nat) (D : va_G) (cA : Nat → ClassId) (a0 : Nat) (a1 : Int32) (a2 : Int32) (h : Hp) (r : Int32) (h' : Hp) (E : s_X9_house a0 a1 a2 h = some (r, h')) : Met l yX9_house (.code yX9_house cX9_house 3 (some .int) :: wsA) rm_X9_house (PcG base D cA [.ref (base + a0), .int a1, .int a2] h) (QcI base D cA r h') 0 0 (AA base) := by
  refine g_met [.ref (base + a0), .int a1, .int a2] (by decide) (Nat.le_of_ble_eq_true rfl) (fun p e s m args below meth c C hr hn => ?_)
  refine g_lv (lv' := [(0, .ref (base + a0)), (1, .int a1), (2, .int a2)]) rfl ?_
  unfold s_X9_house at E
  refine g_aload_n C 0 dX9_house_0 rfl rfl ?_
  refine g_iload_n C 1 dX9_house_1 rfl rfl ?_
  refine g_invI C (q := (RX9, TX9, 13)) [.int a1] dX9_house_2 cl_X9_154 cv_X9_isHouse rfl (by decide) rfl rfl ⟨Nat.le_of_ble_eq_true rfl, Nat.le_of_ble_eq_true rfl⟩ (Nat.le_of_ble_eq_true rfl) ⟨Nat.le_of_ble_eq_true rfl, Nat.le_of_ble_eq_true rfl⟩ rfl (fun r' h' E => o_X9_isHouse l base D cA a0 a1 h r' h' E) E (fun x1 h2 E => ?_)
  refine g_if_ne C 10 dX9_house_5 (by decide) E (fun E => ?_) (fun E => ?_)
  · refine g_iload_n C 2 dX9_house_10 rfl rfl ?_
    refine g_iconst C 0 dX9_house_11 rfl ?_
    refine g_bipush C 9 dX9_house_12 rfl ?_
    refine g_staI C [.int a2, .int 0, .int 9] dX9_house_14 cl_X9_45 cs_X9_within rfl rfl ⟨Nat.le_of_ble_eq_true rfl, Nat.le_of_ble_eq_true rfl⟩ (Nat.le_of_ble_eq_true rfl) ⟨Nat.le_of_ble_eq_true rfl, Nat.le_of_ble_eq_true rfl⟩ rfl (fun r' h' E => o_X9_within l base D cA a2 0 9 h2 r' h' E) E (fun x3 h4 E => ?_)
    refine g_if_ne C 25 dX9_house_17 (by decide) E (fun E => ?_) (fun E => ?_)
    · refine g_iload_n C 2 dX9_house_25 rfl rfl ?_
      refine g_if_ne C 37 dX9_house_26 (by decide) E (fun E => ?_) (fun E => ?_)
      · refine g_aload_n C 0 dX9_house_37 rfl rfl ?_
        refine g_iload_n C 1 dX9_house_38 rfl rfl ?_
        refine g_iload_n C 2 dX9_house_39 rfl rfl ?_
        refine g_iconst C 1 dX9_house_40 rfl ?_
        refine g_isub C dX9_house_41 ?_
        refine g_invI C (q := (RX9, TX9, 13)) [.int a1, .int (a2 - 1)] dX9_house_42 cl_X9_49 cv_X9_part rfl (by decide) rfl rfl ⟨Nat.le_of_ble_eq_true rfl, Nat.le_of_ble_eq_true rfl⟩ (Nat.le_of_ble_eq_true rfl) ⟨Nat.le_of_ble_eq_true rfl, Nat.le_of_ble_eq_true rfl⟩ rfl (fun r' h' E => o_X9_part l base D cA a0 a1 (a2 - 1) h4 r' h' E) E (fun x5 h6 E => ?_)
        exact g_iret C dX9_house_45 hr E
      · refine g_aload_n C 0 dX9_house_29 rfl rfl ?_
        refine g_iload_n C 1 dX9_house_30 rfl rfl ?_
        refine g_invI C (q := (RX9, TX9, 13)) [.int a1] dX9_house_31 cl_X9_91 cv_X9_sharesOf rfl (by decide) rfl rfl ⟨Nat.le_of_ble_eq_true rfl, Nat.le_of_ble_eq_true rfl⟩ (Nat.le_of_ble_eq_true rfl) ⟨Nat.le_of_ble_eq_true rfl, Nat.le_of_ble_eq_true rfl⟩ rfl (fun r' h' E => o_X9_sharesOf l base D cA a0 a1 h4 r' h' E) E (fun x7 h8 E => ?_)
        refine g_goto C 45 dX9_house_34 (by decide) ?_
        exact g_iret C dX9_house_45 hr E
    · refine g_bipush C (-2) dX9_house_20 rfl ?_
      refine g_goto C 45 dX9_house_22 (by decide) ?_
      exact g_iret C dX9_house_45 hr E
  · refine g_iconst C (-1) dX9_house_8 rfl ?_
    exact g_iret C dX9_house_9 hr E
