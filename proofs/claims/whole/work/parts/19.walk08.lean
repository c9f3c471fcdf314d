abbrev rm_X9_works : Room := { frames := 3, cells := 0, slots := 0, locals := 66 }
def s_X9_works_J98 (v0 : Nat) (v1 : Int32) (h : Hp) : Rv Unit :=
  inv h v0 9 (s_X9_addPart v0 v1 14 1 h) fun _ h =>
  inv h v0 9 (s_X9_isOver v0 v1 h) fun x3 h =>
  if x3 = 0 then retU h
  else inv h v0 9 (s_X9_part v0 v1 10 h) fun x4 h =>
  inv h v0 9 (s_X9_part v0 v1 15 h) fun x5 h =>
  if x5 ≤ (x4 + 1) then inv h v0 9 (s_X9_setPart v0 v1 9 0 h) fun _ h =>
  inv h v0 9 (s_X9_addPart v0 v1 4 1 h) fun _ h =>
  getR h v0 9 0 fun x6 =>
  ldI h x6 20 12 fun x7 =>
  stI h x6 20 12 (x7 + 1) fun h =>
  retU h
  else inv h v0 9 (s_X9_part v0 v1 10 h) fun x8 h =>
  inv h v0 9 (s_X9_beginPhase v0 v1 (x8 + 1) h) fun _ h =>
  retU h
def s_X9_works_J51 (v0 : Nat) (v1 : Int32) (v2 : Int32) (h : Hp) : Rv Unit :=
  if v2 = 102 then inv h v0 9 (s_X9_fills v0 v1 h) fun _ h =>
  s_X9_works_J98 v0 v1 h
  else if v2 = 100 then inv h v0 9 (s_X9_drains v0 v1 h) fun _ h =>
  s_X9_works_J98 v0 v1 h
  else if v2 = 104 then getR h v0 9 9 fun x9 =>
  ldI h x9 20 v1 fun x10 =>
  inv h v0 9 (s_X9_addPart v0 v1 12 x10 h) fun _ h =>
  s_X9_works_J98 v0 v1 h
  else s_X9_works_J98 v0 v1 h
def s_X9_works_J32 (v0 : Nat) (v1 : Int32) (v2 : Int32) (v3 : Int32) (h : Hp) : Rv Unit :=
  if v2 = 115 then if v3 = 0 then inv h v0 9 (s_X9_setPart v0 v1 9 2 h) fun _ h =>
  retU h
  else s_X9_works_J51 v0 v1 v2 h
  else s_X9_works_J51 v0 v1 v2 h
def s_X9_works_J21 (v0 : Nat) (v1 : Int32) (v2 : Int32) (w0 : Int32) (h : Hp) : Rv Unit :=
  if v2 = 104 then if w0 = 0 then s_X9_works_J32 v0 v1 v2 w0 h
  else inv h v0 9 (s_X9_setPart v0 v1 9 2 h) fun _ h =>
  retU h
  else s_X9_works_J32 v0 v1 v2 w0 h
def s_X9_works (a0 : Nat) (a1 : Int32) (h : Hp) : Rv Unit :=
  inv h a0 9 (s_X9_kindOf a0 a1 h) fun x1 h =>
  inv h a0 9 (s_X9_part a0 a1 11 h) fun x2 h =>
  if x2 = 0 then s_X9_works_J21 a0 a1 x1 1 h
  else s_X9_works_J21 a0 a1 x1 0 h
set_option maxRecDepth 100000 in
set_option maxHeartbeats 4000000 in
theorem o_X9_works_J98 {l : Launch} {base : Nat} {D : va_G} {cA : Nat → ClassId} {p : Program} {e : Env} {s : State} {m : MethodId} {args : Array Value} {below : List Frame} {meth : Method} {c : Code} (C : GC base D cA p s m args meth c cX9_works 4 RX9) (hr : meth.sig.returnType = none) {X : Unit × Hp} : ∀ (v0 : Nat) (v1 : Int32) (h : Hp), s_X9_works_J98 v0 v1 h = some X → GW base D cA p l e rm_X9_works s m args below meth c (MQ below (QcU base D cA X.2) args s 0 0 (AA base)) 4 h 0 0 98 [(0, .ref (base + v0)), (1, .int v1)] [] := by
  intro v0 v1 h E
  unfold s_X9_works_J98 at E
  refine g_aload_n C 0 dX9_works_98 rfl rfl ?_
  refine g_iload_n C 1 dX9_works_99 rfl rfl ?_
  refine g_bipush C 14 dX9_works_100 rfl ?_
  refine g_iconst C 1 dX9_works_102 rfl ?_
  refine g_invU C (q := (RX9, TX9, 13)) [.int v1, .int 14, .int 1] dX9_works_103 cl_X9_101 cv_X9_addPart rfl (by decide) rfl rfl ⟨Nat.le_of_ble_eq_true rfl, Nat.le_of_ble_eq_true rfl⟩ (Nat.le_of_ble_eq_true rfl) ⟨Nat.le_of_ble_eq_true rfl, Nat.le_of_ble_eq_true rfl⟩ rfl (fun r' h' E => o_X9_addPart l base D cA v0 v1 14 1 h r' h' E) E (fun x1 h2 E => ?_)
  refine g_aload_n C 0 dX9_works_106 rfl rfl ?_
  refine g_iload_n C 1 dX9_works_107 rfl rfl ?_
  refine g_invI C (q := (RX9, TX9, 13)) [.int v1] dX9_works_108 cl_X9_111 cv_X9_isOver rfl (by decide) rfl rfl ⟨Nat.le_of_ble_eq_true rfl, Nat.le_of_ble_eq_true rfl⟩ (Nat.le_of_ble_eq_true rfl) ⟨Nat.le_of_ble_eq_true rfl, Nat.le_of_ble_eq_true rfl⟩ rfl (fun r' h' E => o_X9_isOver l base D cA v0 v1 h2 r' h' E) E (fun x3 h4 E => ?_)
  refine g_if_ne C 115 dX9_works_111 (by decide) E (fun E => ?_) (fun E => ?_)
  · refine g_aload_n C 0 dX9_works_115 rfl rfl ?_
    refine g_iload_n C 1 dX9_works_116 rfl rfl ?_
    refine g_bipush C 10 dX9_works_117 rfl ?_
    refine g_invI C (q := (RX9, TX9, 13)) [.int v1, .int 10] dX9_works_119 cl_X9_49 cv_X9_part rfl (by decide) rfl rfl ⟨Nat.le_of_ble_eq_true rfl, Nat.le_of_ble_eq_true rfl⟩ (Nat.le_of_ble_eq_true rfl) ⟨Nat.le_of_ble_eq_true rfl, Nat.le_of_ble_eq_true rfl⟩ rfl (fun r' h' E => o_X9_part l base D cA v0 v1 10 h4 r' h' E) E (fun x5 h6 E => ?_)
    refine g_iconst C 1 dX9_works_122 rfl ?_
    refine g_iadd C dX9_works_123 ?_
    refine g_aload_n C 0 dX9_works_124 rfl rfl ?_
    refine g_iload_n C 1 dX9_works_125 rfl rfl ?_
    refine g_bipush C 15 dX9_works_126 rfl ?_
    refine g_invI C (q := (RX9, TX9, 13)) [.int v1, .int 15] dX9_works_128 cl_X9_49 cv_X9_part rfl (by decide) rfl rfl ⟨Nat.le_of_ble_eq_true rfl, Nat.le_of_ble_eq_true rfl⟩ (Nat.le_of_ble_eq_true rfl) ⟨Nat.le_of_ble_eq_true rfl, Nat.le_of_ble_eq_true rfl⟩ rfl (fun r' h' E => o_X9_part l base D cA v0 v1 15 h6 r' h' E) E (fun x7 h8 E => ?_)
    refine g_icmp_ge C 151 dX9_works_131 (by decide) E (fun E => ?_) (fun E => ?_)
    · refine g_aload_n C 0 dX9_works_151 rfl rfl ?_
      refine g_iload_n C 1 dX9_works_152 rfl rfl ?_
      refine g_bipush C 9 dX9_works_153 rfl ?_
      refine g_iconst C 0 dX9_works_155 rfl ?_
      refine g_invU C (q := (RX9, TX9, 13)) [.int v1, .int 9, .int 0] dX9_works_156 cl_X9_63 cv_X9_setPart rfl (by decide) rfl rfl ⟨Nat.le_of_ble_eq_true rfl, Nat.le_of_ble_eq_true rfl⟩ (Nat.le_of_ble_eq_true rfl) ⟨Nat.le_of_ble_eq_true rfl, Nat.le_of_ble_eq_true rfl⟩ rfl (fun r' h' E => o_X9_setPart l base D cA v0 v1 9 0 h8 r' h' E) E (fun x9 h10 E => ?_)
      refine g_aload_n C 0 dX9_works_159 rfl rfl ?_
      refine g_iload_n C 1 dX9_works_160 rfl rfl ?_
      refine g_iconst C 4 dX9_works_161 rfl ?_
      refine g_iconst C 1 dX9_works_162 rfl ?_
      refine g_invU C (q := (RX9, TX9, 13)) [.int v1, .int 4, .int 1] dX9_works_163 cl_X9_101 cv_X9_addPart rfl (by decide) rfl rfl ⟨Nat.le_of_ble_eq_true rfl, Nat.le_of_ble_eq_true rfl⟩ (Nat.le_of_ble_eq_true rfl) ⟨Nat.le_of_ble_eq_true rfl, Nat.le_of_ble_eq_true rfl⟩ rfl (fun r' h' E => o_X9_addPart l base D cA v0 v1 4 1 h10 r' h' E) E (fun x11 h12 E => ?_)
      refine g_aload_n C 0 dX9_works_166 rfl rfl ?_
      refine g_getR C dX9_works_167 fl_X9_7 rfl E (fun x13 E => ?_)
      refine g_bipush C 12 dX9_works_170 rfl ?_
      refine g_dup2 C dX9_works_172 rfl rfl ?_
      refine g_iald C dX9_works_173 E (fun x14 E => ?_)
      refine g_iconst C 1 dX9_works_174 rfl ?_
      refine g_iadd C dX9_works_175 ?_
      refine g_iast C dX9_works_176 E (fun h15 E => ?_)
      exact g_vret C dX9_works_177 hr E
    · refine g_aload_n C 0 dX9_works_134 rfl rfl ?_
      refine g_iload_n C 1 dX9_works_135 rfl rfl ?_
      refine g_aload_n C 0 dX9_works_136 rfl rfl ?_
      refine g_iload_n C 1 dX9_works_137 rfl rfl ?_
      refine g_bipush C 10 dX9_works_138 rfl ?_
      refine g_invI C (q := (RX9, TX9, 13)) [.int v1, .int 10] dX9_works_140 cl_X9_49 cv_X9_part rfl (by decide) rfl rfl ⟨Nat.le_of_ble_eq_true rfl, Nat.le_of_ble_eq_true rfl⟩ (Nat.le_of_ble_eq_true rfl) ⟨Nat.le_of_ble_eq_true rfl, Nat.le_of_ble_eq_true rfl⟩ rfl (fun r' h' E => o_X9_part l base D cA v0 v1 10 h8 r' h' E) E (fun x16 h17 E => ?_)
      refine g_iconst C 1 dX9_works_143 rfl ?_
      refine g_iadd C dX9_works_144 ?_
      refine g_invU C (q := (RX9, TX9, 13)) [.int v1, .int (x16 + 1)] dX9_works_145 cl_X9_114 cv_X9_beginPhase rfl (by decide) rfl rfl ⟨Nat.le_of_ble_eq_true rfl, Nat.le_of_ble_eq_true rfl⟩ (Nat.le_of_ble_eq_true rfl) ⟨Nat.le_of_ble_eq_true rfl, Nat.le_of_ble_eq_true rfl⟩ rfl (fun r' h' E => o_X9_beginPhase l base D cA v0 v1 (x16 + 1) h17 r' h' E) E (fun x18 h19 E => ?_)
      refine g_goto C 177 dX9_works_148 (by decide) ?_
      exact g_vret C dX9_works_177 hr E
  · exact g_vret C dX9_works_114 hr E
set_option maxRecDepth 100000 in
set_option maxHeartbeats 4000000 in
theorem o_X9_works_J51 {l : Launch} {base : Nat} {D : va_G} {cA : Nat → ClassId} {p : Program} {e : Env} {s : State} {m : MethodId} {args : Array Value} {below : List Frame} {meth : Method} {c : Code} (C : GC base D cA p s m args meth c cX9_works 4 RX9) (hr : meth.sig.returnType = none) {X : Unit × Hp} : ∀ (v0 : Nat) (v1 : Int32) (v2 : Int32) (h : Hp), s_X9_works_J51 v0 v1 v2 h = some X → GW base D cA p l e rm_X9_works s m args below meth c (MQ below (QcU base D cA X.2) args s 0 0 (AA base)) 4 h 0 0 51 [(0, .ref (base + v0)), (1, .int v1), (2, .int v2)] [] := by
  intro v0 v1 v2 h E
  unfold s_X9_works_J51 at E
  refine g_iload_n C 2 dX9_works_51 rfl rfl ?_
  refine g_bipush C 102 dX9_works_52 rfl ?_
  refine g_icmp_ne C 65 dX9_works_54 (by decide) E (fun E => ?_) (fun E => ?_)
  · refine g_iload_n C 2 dX9_works_65 rfl rfl ?_
    refine g_bipush C 100 dX9_works_66 rfl ?_
    refine g_icmp_ne C 79 dX9_works_68 (by decide) E (fun E => ?_) (fun E => ?_)
    · refine g_iload_n C 2 dX9_works_79 rfl rfl ?_
      refine g_bipush C 104 dX9_works_80 rfl ?_
      refine g_icmp_ne C 98 dX9_works_82 (by decide) E (fun E => ?_) (fun E => ?_)
      · refine g_sub (lv' := [(0, .ref (base + v0)), (1, .int v1)]) [0, 1] rfl ?_
        exact o_X9_works_J98 C hr v0 v1 h E
      · refine g_aload_n C 0 dX9_works_85 rfl rfl ?_
        refine g_iload_n C 1 dX9_works_86 rfl rfl ?_
        refine g_bipush C 12 dX9_works_87 rfl ?_
        refine g_aload_n C 0 dX9_works_89 rfl rfl ?_
        refine g_getR C dX9_works_90 fl_X9_28 rfl E (fun x1 E => ?_)
        refine g_iload_n C 1 dX9_works_93 rfl rfl ?_
        refine g_iald C dX9_works_94 E (fun x2 E => ?_)
        refine g_invU C (q := (RX9, TX9, 13)) [.int v1, .int 12, .int x2] dX9_works_95 cl_X9_101 cv_X9_addPart rfl (by decide) rfl rfl ⟨Nat.le_of_ble_eq_true rfl, Nat.le_of_ble_eq_true rfl⟩ (Nat.le_of_ble_eq_true rfl) ⟨Nat.le_of_ble_eq_true rfl, Nat.le_of_ble_eq_true rfl⟩ rfl (fun r' h' E => o_X9_addPart l base D cA v0 v1 12 x2 h r' h' E) E (fun x3 h4 E => ?_)
        refine g_sub (lv' := [(0, .ref (base + v0)), (1, .int v1)]) [0, 1] rfl ?_
        exact o_X9_works_J98 C hr v0 v1 h4 E
    · refine g_aload_n C 0 dX9_works_71 rfl rfl ?_
      refine g_iload_n C 1 dX9_works_72 rfl rfl ?_
      refine g_invU C (q := (RX9, TX9, 13)) [.int v1] dX9_works_73 cl_X9_108 cv_X9_drains rfl (by decide) rfl rfl ⟨Nat.le_of_ble_eq_true rfl, Nat.le_of_ble_eq_true rfl⟩ (Nat.le_of_ble_eq_true rfl) ⟨Nat.le_of_ble_eq_true rfl, Nat.le_of_ble_eq_true rfl⟩ rfl (fun r' h' E => o_X9_drains l base D cA v0 v1 h r' h' E) E (fun x5 h6 E => ?_)
      refine g_goto C 98 dX9_works_76 (by decide) ?_
      refine g_sub (lv' := [(0, .ref (base + v0)), (1, .int v1)]) [0, 1] rfl ?_
      exact o_X9_works_J98 C hr v0 v1 h6 E
  · refine g_aload_n C 0 dX9_works_57 rfl rfl ?_
    refine g_iload_n C 1 dX9_works_58 rfl rfl ?_
    refine g_invU C (q := (RX9, TX9, 13)) [.int v1] dX9_works_59 cl_X9_104 cv_X9_fills rfl (by decide) rfl rfl ⟨Nat.le_of_ble_eq_true rfl, Nat.le_of_ble_eq_true rfl⟩ (Nat.le_of_ble_eq_true rfl) ⟨Nat.le_of_ble_eq_true rfl, Nat.le_of_ble_eq_true rfl⟩ rfl (fun r' h' E => o_X9_fills l base D cA v0 v1 h r' h' E) E (fun x7 h8 E => ?_)
    refine g_goto C 98 dX9_works_62 (by decide) ?_
    refine g_sub (lv' := [(0, .ref (base + v0)), (1, .int v1)]) [0, 1] rfl ?_
    exact o_X9_works_J98 C hr v0 v1 h8 E
set_option maxRecDepth 100000 in
set_option maxHeartbeats 4000000 in
theorem o_X9_works_J32 {l : Launch} {base : Nat} {D : va_G} {cA : Nat → ClassId} {p : Program} {e : Env} {s : State} {m : MethodId} {args : Array Value} {below : List Frame} {meth : Method} {c : Code} (C : GC base D cA p s m args meth c cX9_works 4 RX9) (hr : meth.sig.returnType = none) {X : Unit × Hp} : ∀ (v0 : Nat) (v1 : Int32) (v2 : Int32) (v3 : Int32) (h : Hp), s_X9_works_J32 v0 v1 v2 v3 h = some X → GW base D cA p l e rm_X9_works s m args below meth c (MQ below (QcU base D cA X.2) args s 0 0 (AA base)) 4 h 0 0 32 [(0, .ref (base + v0)), (1, .int v1), (2, .int v2), (3, .int v3)] [] := by
  intro v0 v1 v2 v3 h E
  unfold s_X9_works_J32 at E
  refine g_iload_n C 2 dX9_works_32 rfl rfl ?_
  refine g_bipush C 115 dX9_works_33 rfl ?_
  refine g_icmp_ne C 51 dX9_works_35 (by decide) E (fun E => ?_) (fun E => ?_)
  · refine g_sub (lv' := [(0, .ref (base + v0)), (1, .int v1), (2, .int v2)]) [0, 1, 2] rfl ?_
    exact o_X9_works_J51 C hr v0 v1 v2 h E
  · refine g_iload_n C 3 dX9_works_38 rfl rfl ?_
    refine g_if_ne C 51 dX9_works_39 (by decide) E (fun E => ?_) (fun E => ?_)
    · refine g_sub (lv' := [(0, .ref (base + v0)), (1, .int v1), (2, .int v2)]) [0, 1, 2] rfl ?_
      exact o_X9_works_J51 C hr v0 v1 v2 h E
    · refine g_aload_n C 0 dX9_works_42 rfl rfl ?_
      refine g_iload_n C 1 dX9_works_43 rfl rfl ?_
      refine g_bipush C 9 dX9_works_44 rfl ?_
      refine g_iconst C 2 dX9_works_46 rfl ?_
      refine g_invU C (q := (RX9, TX9, 13)) [.int v1, .int 9, .int 2] dX9_works_47 cl_X9_63 cv_X9_setPart rfl (by decide) rfl rfl ⟨Nat.le_of_ble_eq_true rfl, Nat.le_of_ble_eq_true rfl⟩ (Nat.le_of_ble_eq_true rfl) ⟨Nat.le_of_ble_eq_true rfl, Nat.le_of_ble_eq_true rfl⟩ rfl (fun r' h' E => o_X9_setPart l base D cA v0 v1 9 2 h r' h' E) E (fun x1 h2 E => ?_)
      exact g_vret C dX9_works_50 hr E
set_option maxRecDepth 100000 in
set_option maxHeartbeats 4000000 in
theorem o_X9_works_J21 {l : Launch} {base : Nat} {D : va_G} {cA : Nat → ClassId} {p : Program} {e : Env} {s : State} {m : MethodId} {args : Array Value} {below : List Frame} {meth : Method} {c : Code} (C : GC base D cA p s m args meth c cX9_works 4 RX9) (hr : meth.sig.returnType = none) {X : Unit × Hp} : ∀ (v0 : Nat) (v1 : Int32) (v2 : Int32) (w0 : Int32) (h : Hp), s_X9_works_J21 v0 v1 v2 w0 h = some X → GW base D cA p l e rm_X9_works s m args below meth c (MQ below (QcU base D cA X.2) args s 0 0 (AA base)) 4 h 0 0 21 [(0, .ref (base + v0)), (1, .int v1), (2, .int v2)] [.int w0] := by
  intro v0 v1 v2 w0 h E
  unfold s_X9_works_J21 at E
  refine g_istore_n C (lv' := [(3, .int w0), (0, .ref (base + v0)), (1, .int v1), (2, .int v2)]) dX9_works_21 rfl (by decide) rfl ?_
  refine g_iload_n C 3 dX9_works_22 rfl rfl ?_
  refine g_bipush C 104 dX9_works_23 rfl ?_
  refine g_icmp_ne C 32 dX9_works_25 (by decide) E (fun E => ?_) (fun E => ?_)
  · refine g_sub (lv' := [(0, .ref (base + v0)), (1, .int v1), (2, .int v2), (3, .int w0)]) [1, 2, 3, 0] rfl ?_
    exact o_X9_works_J32 C hr v0 v1 v2 w0 h E
  · refine g_iload_n C 0 dX9_works_28 rfl rfl ?_
    refine g_if_ne C 42 dX9_works_29 (by decide) E (fun E => ?_) (fun E => ?_)
    · refine g_aload_n C 1 dX9_works_42 rfl rfl ?_
      refine g_iload_n C 2 dX9_works_43 rfl rfl ?_
      refine g_bipush C 9 dX9_works_44 rfl ?_
      refine g_iconst C 2 dX9_works_46 rfl ?_
      refine g_invU C (q := (RX9, TX9, 13)) [.int v1, .int 9, .int 2] dX9_works_47 cl_X9_63 cv_X9_setPart rfl (by decide) rfl rfl ⟨Nat.le_of_ble_eq_true rfl, Nat.le_of_ble_eq_true rfl⟩ (Nat.le_of_ble_eq_true rfl) ⟨Nat.le_of_ble_eq_true rfl, Nat.le_of_ble_eq_true rfl⟩ rfl (fun r' h' E => o_X9_setPart l base D cA v0 v1 9 2 h r' h' E) E (fun x1 h2 E => ?_)
      exact g_vret C dX9_works_50 hr E
    · refine g_sub (lv' := [(0, .ref (base + v0)), (1, .int v1), (2, .int v2), (3, .int w0)]) [1, 2, 3, 0] rfl ?_
      exact o_X9_works_J32 C hr v0 v1 v2 w0 h E
set_option maxRecDepth 100000 in
set_option maxHeartbeats 4000000 in
theorem o_X9_works (l : Launch) (base : Nat) (D : va_G) (cA : Nat → ClassId) (a0 : Nat) (a1 : Int32) (h : Hp) (r : Unit) (h' : Hp) (E : s_X9_works a0 a1 h = some (r, h')) : Met l yX9_works (.code yX9_works cX9_works 4 none :: wsA) rm_X9_works (PcG base D cA [.ref (base + a0), .int a1] h) (QcU base D cA h') 0 0 (AA base) := by
  refine g_met [.ref (base + a0), .int a1] (by decide) (Nat.le_of_ble_eq_true rfl) (fun p e s m args below meth c C hr hn => ?_)
  refine g_lv (lv' := [(0, .ref (base + a0)), (1, .int a1)]) rfl ?_
  unfold s_X9_works at E
  refine g_aload_n C 0 dX9_works_0 rfl rfl ?_
  refine g_iload_n C 1 dX9_works_1 rfl rfl ?_
  refine g_invI C (q := (RX9, TX9, 13)) [.int a1] dX9_works_2 cl_X9_82 cv_X9_kindOf rfl (by decide) rfl rfl ⟨Nat.le_of_ble_eq_true rfl, Nat.le_of_ble_eq_true rfl⟩ (Nat.le_of_ble_eq_true rfl) ⟨Nat.le_of_ble_eq_true rfl, Nat.le_of_ble_eq_true rfl⟩ rfl (fun r' h' E => o_X9_kindOf l base D cA a0 a1 h r' h' E) E (fun x1 h2 E => ?_)
  refine g_istore_n C (lv' := [(2, .int x1), (0, .ref (base + a0)), (1, .int a1)]) dX9_works_5 rfl (by decide) rfl ?_
  refine g_aload_n C 1 dX9_works_6 rfl rfl ?_
  refine g_iload_n C 2 dX9_works_7 rfl rfl ?_
  refine g_bipush C 11 dX9_works_8 rfl ?_
  refine g_invI C (q := (RX9, TX9, 13)) [.int a1, .int 11] dX9_works_10 cl_X9_49 cv_X9_part rfl (by decide) rfl rfl ⟨Nat.le_of_ble_eq_true rfl, Nat.le_of_ble_eq_true rfl⟩ (Nat.le_of_ble_eq_true rfl) ⟨Nat.le_of_ble_eq_true rfl, Nat.le_of_ble_eq_true rfl⟩ rfl (fun r' h' E => o_X9_part l base D cA a0 a1 11 h2 r' h' E) E (fun x3 h4 E => ?_)
  refine g_if_ne C 20 dX9_works_13 (by decide) E (fun E => ?_) (fun E => ?_)
  · refine g_iconst C 0 dX9_works_20 rfl ?_
    refine g_sub (lv' := [(0, .ref (base + a0)), (1, .int a1), (2, .int x1)]) [1, 2, 0] rfl ?_
    exact o_X9_works_J21 C hr a0 a1 x1 0 h4 E
  · refine g_iconst C 1 dX9_works_16 rfl ?_
    refine g_goto C 21 dX9_works_17 (by decide) ?_
    refine g_sub (lv' := [(0, .ref (base + a0)), (1, .int a1), (2, .int x1)]) [1, 2, 0] rfl ?_
    exact o_X9_works_J21 C hr a0 a1 x1 1 h4 E
abbrev rm_X9_powered : Room := { frames := 5, cells := 0, slots := 0, locals := 117 }
def s_X9_powered_L37 : Nat → Nat → Int32 → Int32 → Hp → Rv Int32
  | 0, _, _, _, _ => none
  | n + 1, v0, v1, v2, h =>
    getR h v0 9 0 fun x7 =>
  ldI h x7 20 2 fun x8 =>
  if x8 ≤ v2 then retI v1 h
  else getR h v0 9 9 fun x9 =>
  ldI h x9 20 v2 fun x10 =>
  inv h v0 9 (s_X9_addPart v0 v2 3 x10 h) fun _ h =>
  inv h v0 9 (s_X9_runs v0 v2 h) fun x11 h =>
  if x11 = 0 then s_X9_powered_L37 n v0 v1 (v2 + 1) h
  else inv h v0 9 (s_X9_works v0 v2 h) fun _ h =>
  s_X9_powered_L37 n v0 v1 (v2 + 1) h
def s_X9_powered (a0 : Nat) (h : Hp) : Rv Int32 :=
  inv h a0 9 (s_X9_fillStore a0 h) fun _ h =>
  inv h a0 9 (s_X9_heatNow a0 h) fun x1 h =>
  inv h a0 9 (s_X9_split a0 x1 h) fun x2 h =>
  getR h a0 9 0 fun x3 =>
  ldI h x3 20 7 fun x4 =>
  stI h x3 20 7 (x4 - x2) fun h =>
  getR h a0 9 0 fun x5 =>
  ldI h x5 20 14 fun x6 =>
  stI h x5 20 14 (x6 + x2) fun h =>
  s_X9_powered_L37 100000 a0 x2 0 h
set_option maxRecDepth 100000 in
set_option maxHeartbeats 4000000 in
theorem o_X9_powered_L37 {l : Launch} {base : Nat} {D : va_G} {cA : Nat → ClassId} {p : Program} {e : Env} {s : State} {m : MethodId} {args : Array Value} {below : List Frame} {meth : Method} {c : Code} (C : GC base D cA p s m args meth c cX9_powered 3 RX9) (hr : meth.sig.returnType = (some .int)) {X : Int32 × Hp} : ∀ (n : Nat) (v0 : Nat) (v1 : Int32) (v2 : Int32) (h : Hp), s_X9_powered_L37 n v0 v1 v2 h = some X → GW base D cA p l e rm_X9_powered s m args below meth c (MQ below (QcI base D cA X.1 X.2) args s 0 0 (AA base)) 3 h 0 0 37 [(0, .ref (base + v0)), (1, .int v1), (2, .int v2)] [] := by
  intro n
  induction n with
  | zero =>
    intro v0 v1 v2 h E
    rw [s_X9_powered_L37] at E
    cases E
  | succ n ih =>
    intro v0 v1 v2 h E
    rw [s_X9_powered_L37] at E
    refine g_iload_n C 2 dX9_powered_37 rfl rfl ?_
    refine g_aload_n C 0 dX9_powered_38 rfl rfl ?_
    refine g_getR C dX9_powered_39 fl_X9_7 rfl E (fun x1 E => ?_)
    refine g_iconst C 2 dX9_powered_42 rfl ?_
    refine g_iald C dX9_powered_43 E (fun x2 E => ?_)
    refine g_icmp_ge C 78 dX9_powered_44 (by decide) E (fun E => ?_) (fun E => ?_)
    · refine g_iload_n C 1 dX9_powered_78 rfl rfl ?_
      exact g_iret C dX9_powered_79 hr E
    · refine g_aload_n C 0 dX9_powered_47 rfl rfl ?_
      refine g_iload_n C 2 dX9_powered_48 rfl rfl ?_
      refine g_iconst C 3 dX9_powered_49 rfl ?_
      refine g_aload_n C 0 dX9_powered_50 rfl rfl ?_
      refine g_getR C dX9_powered_51 fl_X9_28 rfl E (fun x3 E => ?_)
      refine g_iload_n C 2 dX9_powered_54 rfl rfl ?_
      refine g_iald C dX9_powered_55 E (fun x4 E => ?_)
      refine g_invU C (q := (RX9, TX9, 13)) [.int v2, .int 3, .int x4] dX9_powered_56 cl_X9_101 cv_X9_addPart rfl (by decide) rfl rfl ⟨Nat.le_of_ble_eq_true rfl, Nat.le_of_ble_eq_true rfl⟩ (Nat.le_of_ble_eq_true rfl) ⟨Nat.le_of_ble_eq_true rfl, Nat.le_of_ble_eq_true rfl⟩ rfl (fun r' h' E => o_X9_addPart l base D cA v0 v2 3 x4 h r' h' E) E (fun x5 h6 E => ?_)
      refine g_aload_n C 0 dX9_powered_59 rfl rfl ?_
      refine g_iload_n C 2 dX9_powered_60 rfl rfl ?_
      refine g_invI C (q := (RX9, TX9, 13)) [.int v2] dX9_powered_61 cl_X9_79 cv_X9_runs rfl (by decide) rfl rfl ⟨Nat.le_of_ble_eq_true rfl, Nat.le_of_ble_eq_true rfl⟩ (Nat.le_of_ble_eq_true rfl) ⟨Nat.le_of_ble_eq_true rfl, Nat.le_of_ble_eq_true rfl⟩ rfl (fun r' h' E => o_X9_runs l base D cA v0 v2 h6 r' h' E) E (fun x7 h8 E => ?_)
      refine g_if_eq C 72 dX9_powered_64 (by decide) E (fun E => ?_) (fun E => ?_)
      · refine g_iinc C (lv' := [(2, .int (v2 + 1)), (0, .ref (base + v0)), (1, .int v1)]) 2 1 dX9_powered_72 rfl rfl (by decide) rfl ?_
        refine g_goto C 37 dX9_powered_75 (by decide) ?_
        refine g_sub (lv' := [(0, .ref (base + v0)), (1, .int v1), (2, .int (v2 + 1))]) [1, 2, 0] rfl ?_
        exact ih v0 v1 (v2 + 1) h8 E
      · refine g_aload_n C 0 dX9_powered_67 rfl rfl ?_
        refine g_iload_n C 2 dX9_powered_68 rfl rfl ?_
        refine g_invU C (q := (RX9, TX9, 13)) [.int v2] dX9_powered_69 cl_X9_127 cv_X9_works rfl (by decide) rfl rfl ⟨Nat.le_of_ble_eq_true rfl, Nat.le_of_ble_eq_true rfl⟩ (Nat.le_of_ble_eq_true rfl) ⟨Nat.le_of_ble_eq_true rfl, Nat.le_of_ble_eq_true rfl⟩ rfl (fun r' h' E => o_X9_works l base D cA v0 v2 h8 r' h' E) E (fun x9 h10 E => ?_)
        refine g_iinc C (lv' := [(2, .int (v2 + 1)), (0, .ref (base + v0)), (1, .int v1)]) 2 1 dX9_powered_72 rfl rfl (by decide) rfl ?_
        refine g_goto C 37 dX9_powered_75 (by decide) ?_
        refine g_sub (lv' := [(0, .ref (base + v0)), (1, .int v1), (2, .int (v2 + 1))]) [1, 2, 0] rfl ?_
        exact ih v0 v1 (v2 + 1) h10 E
set_option maxRecDepth 100000 in
set_option maxHeartbeats 4000000 in
theorem o_X9_powered (l : Launch) (base : Nat) (D : va_G) (cA : Nat → ClassId) (a0 : Nat) (h : Hp) (r : Int32) (h' : Hp) (E : s_X9_powered a0 h = some (r, h')) : Met l yX9_powered (.code yX9_powered cX9_powered 3 (some .int) :: wsA) rm_X9_powered (PcG base D cA [.ref (base + a0)] h) (QcI base D cA r h') 0 0 (AA base) := by
  refine g_met [.ref (base + a0)] (by decide) (Nat.le_of_ble_eq_true rfl) (fun p e s m args below meth c C hr hn => ?_)
  refine g_lv (lv' := [(0, .ref (base + a0))]) rfl ?_
  unfold s_X9_powered at E
  refine g_aload_n C 0 dX9_powered_0 rfl rfl ?_
  refine g_invU C (q := (RX9, TX9, 13)) [] dX9_powered_1 cl_X9_118 cv_X9_fillStore rfl (by decide) rfl rfl ⟨Nat.le_of_ble_eq_true rfl, Nat.le_of_ble_eq_true rfl⟩ (Nat.le_of_ble_eq_true rfl) ⟨Nat.le_of_ble_eq_true rfl, Nat.le_of_ble_eq_true rfl⟩ rfl (fun r' h' E => o_X9_fillStore l base D cA a0 h r' h' E) E (fun x1 h2 E => ?_)
  refine g_aload_n C 0 dX9_powered_4 rfl rfl ?_
  refine g_aload_n C 0 dX9_powered_5 rfl rfl ?_
  refine g_invI C (q := (RX9, TX9, 13)) [] dX9_powered_6 cl_X9_121 cv_X9_heatNow rfl (by decide) rfl rfl ⟨Nat.le_of_ble_eq_true rfl, Nat.le_of_ble_eq_true rfl⟩ (Nat.le_of_ble_eq_true rfl) ⟨Nat.le_of_ble_eq_true rfl, Nat.le_of_ble_eq_true rfl⟩ rfl (fun r' h' E => o_X9_heatNow l base D cA a0 h2 r' h' E) E (fun x3 h4 E => ?_)
  refine g_invI C (q := (RX9, TX9, 13)) [.int x3] dX9_powered_9 cl_X9_124 cv_X9_split rfl (by decide) rfl rfl ⟨Nat.le_of_ble_eq_true rfl, Nat.le_of_ble_eq_true rfl⟩ (Nat.le_of_ble_eq_true rfl) ⟨Nat.le_of_ble_eq_true rfl, Nat.le_of_ble_eq_true rfl⟩ rfl (fun r' h' E => o_X9_split l base D cA a0 x3 h4 r' h' E) E (fun x5 h6 E => ?_)
  refine g_istore_n C (lv' := [(1, .int x5), (0, .ref (base + a0))]) dX9_powered_12 rfl (by decide) rfl ?_
  refine g_aload_n C 1 dX9_powered_13 rfl rfl ?_
  refine g_getR C dX9_powered_14 fl_X9_7 rfl E (fun x7 E => ?_)
  refine g_bipush C 7 dX9_powered_17 rfl ?_
  refine g_dup2 C dX9_powered_19 rfl rfl ?_
  refine g_iald C dX9_powered_20 E (fun x8 E => ?_)
  refine g_iload_n C 0 dX9_powered_21 rfl rfl ?_
  refine g_isub C dX9_powered_22 ?_
  refine g_iast C dX9_powered_23 E (fun h9 E => ?_)
  refine g_aload_n C 1 dX9_powered_24 rfl rfl ?_
  refine g_getR C dX9_powered_25 fl_X9_7 rfl E (fun x10 E => ?_)
  refine g_bipush C 14 dX9_powered_28 rfl ?_
  refine g_dup2 C dX9_powered_30 rfl rfl ?_
  refine g_iald C dX9_powered_31 E (fun x11 E => ?_)
  refine g_iload_n C 0 dX9_powered_32 rfl rfl ?_
  refine g_iadd C dX9_powered_33 ?_
  refine g_iast C dX9_powered_34 E (fun h12 E => ?_)
  refine g_iconst C 0 dX9_powered_35 rfl ?_
  refine g_istore_n C (lv' := [(2, .int 0), (1, .int x5), (0, .ref (base + a0))]) dX9_powered_36 rfl (by decide) rfl ?_
  refine g_sub (lv' := [(0, .ref (base + a0)), (1, .int x5), (2, .int 0)]) [2, 1, 0] rfl ?_
  exact o_X9_powered_L37 C hr _ a0 x5 0 h12 E
abbrev rm_X9_cool : Room := { frames := 2, cells := 0, slots := 0, locals := 43 }
def s_X9_cool_L2 : Nat → Nat → Int32 → Hp → Rv Unit
  | 0, _, _, _ => none
  | n + 1, v0, v1, h =>
    getR h v0 9 0 fun x1 =>
  ldI h x1 20 2 fun x2 =>
  if x2 ≤ v1 then retU h
  else inv h v0 9 (s_X9_temperature v0 v1 h) fun x3 h =>
  inv h v0 9 (s_X9_part v0 v1 11 h) fun x4 h =>
  if x4 ≤ 0 then s_X9_cool_L2 n v0 (v1 + 1) h
  else if (x3 - 15) ≤ 0 then s_X9_cool_L2 n v0 (v1 + 1) h
  else inv h v0 9 (s_X9_part v0 v1 11 h) fun x5 h =>
  divI ((x3 - 15) * x5) 30 fun x6 =>
  inv h v0 9 (s_X9_addPart v0 v1 12 (-x6) h) fun _ h =>
  s_X9_cool_L2 n v0 (v1 + 1) h
def s_X9_cool (a0 : Nat) (h : Hp) : Rv Unit :=
  s_X9_cool_L2 100000 a0 0 h
set_option maxRecDepth 100000 in
set_option maxHeartbeats 4000000 in
theorem o_X9_cool_L2 {l : Launch} {base : Nat} {D : va_G} {cA : Nat → ClassId} {p : Program} {e : Env} {s : State} {m : MethodId} {args : Array Value} {below : List Frame} {meth : Method} {c : Code} (C : GC base D cA p s m args meth c cX9_cool 3 RX9) (hr : meth.sig.returnType = none) {X : Unit × Hp} : ∀ (n : Nat) (v0 : Nat) (v1 : Int32) (h : Hp), s_X9_cool_L2 n v0 v1 h = some X → GW base D cA p l e rm_X9_cool s m args below meth c (MQ below (QcU base D cA X.2) args s 0 0 (AA base)) 3 h 0 0 2 [(0, .ref (base + v0)), (1, .int v1)] [] := by
  intro n
  induction n with
  | zero =>
    intro v0 v1 h E
    rw [s_X9_cool_L2] at E
    cases E
  | succ n ih =>
    intro v0 v1 h E
    rw [s_X9_cool_L2] at E
    refine g_iload_n C 1 dX9_cool_2 rfl rfl ?_
    refine g_aload_n C 0 dX9_cool_3 rfl rfl ?_
    refine g_getR C dX9_cool_4 fl_X9_7 rfl E (fun x1 E => ?_)
    refine g_iconst C 2 dX9_cool_7 rfl ?_
    refine g_iald C dX9_cool_8 E (fun x2 E => ?_)
    refine g_icmp_ge C 61 dX9_cool_9 (by decide) E (fun E => ?_) (fun E => ?_)
    · exact g_vret C dX9_cool_61 hr E
    · refine g_aload_n C 0 dX9_cool_12 rfl rfl ?_
      refine g_iload_n C 1 dX9_cool_13 rfl rfl ?_
      refine g_invI C (q := (RX9, TX9, 13)) [.int v1] dX9_cool_14 cl_X9_68 cv_X9_temperature rfl (by decide) rfl rfl ⟨Nat.le_of_ble_eq_true rfl, Nat.le_of_ble_eq_true rfl⟩ (Nat.le_of_ble_eq_true rfl) ⟨Nat.le_of_ble_eq_true rfl, Nat.le_of_ble_eq_true rfl⟩ rfl (fun r' h' E => o_X9_temperature l base D cA v0 v1 h r' h' E) E (fun x3 h4 E => ?_)
      refine g_bipush C 15 dX9_cool_17 rfl ?_
      refine g_isub C dX9_cool_19 ?_
      refine g_istore_n C (lv' := [(2, .int (x3 - 15)), (0, .ref (base + v0)), (1, .int v1)]) dX9_cool_20 rfl (by decide) rfl ?_
      refine g_aload_n C 1 dX9_cool_21 rfl rfl ?_
      refine g_iload_n C 2 dX9_cool_22 rfl rfl ?_
      refine g_bipush C 11 dX9_cool_23 rfl ?_
      refine g_invI C (q := (RX9, TX9, 13)) [.int v1, .int 11] dX9_cool_25 cl_X9_49 cv_X9_part rfl (by decide) rfl rfl ⟨Nat.le_of_ble_eq_true rfl, Nat.le_of_ble_eq_true rfl⟩ (Nat.le_of_ble_eq_true rfl) ⟨Nat.le_of_ble_eq_true rfl, Nat.le_of_ble_eq_true rfl⟩ rfl (fun r' h' E => o_X9_part l base D cA v0 v1 11 h4 r' h' E) E (fun x5 h6 E => ?_)
      refine g_if_le C 55 dX9_cool_28 (by decide) E (fun E => ?_) (fun E => ?_)
      · refine g_iinc C (lv' := [(1, .int (v1 + 1)), (2, .int (x3 - 15)), (0, .ref (base + v0))]) 2 1 dX9_cool_55 rfl rfl (by decide) rfl ?_
        refine g_goto C 2 dX9_cool_58 (by decide) ?_
        refine g_sub (lv' := [(0, .ref (base + v0)), (1, .int (v1 + 1))]) [2, 0] rfl ?_
        exact ih v0 (v1 + 1) h6 E
      · refine g_iload_n C 0 dX9_cool_31 rfl rfl ?_
        refine g_if_le C 55 dX9_cool_32 (by decide) E (fun E => ?_) (fun E => ?_)
        · refine g_iinc C (lv' := [(1, .int (v1 + 1)), (2, .int (x3 - 15)), (0, .ref (base + v0))]) 2 1 dX9_cool_55 rfl rfl (by decide) rfl ?_
          refine g_goto C 2 dX9_cool_58 (by decide) ?_
          refine g_sub (lv' := [(0, .ref (base + v0)), (1, .int (v1 + 1))]) [2, 0] rfl ?_
          exact ih v0 (v1 + 1) h6 E
        · refine g_aload_n C 1 dX9_cool_35 rfl rfl ?_
          refine g_iload_n C 2 dX9_cool_36 rfl rfl ?_
          refine g_bipush C 12 dX9_cool_37 rfl ?_
          refine g_iload_n C 0 dX9_cool_39 rfl rfl ?_
          refine g_aload_n C 1 dX9_cool_40 rfl rfl ?_
          refine g_iload_n C 2 dX9_cool_41 rfl rfl ?_
          refine g_bipush C 11 dX9_cool_42 rfl ?_
          refine g_invI C (q := (RX9, TX9, 13)) [.int v1, .int 11] dX9_cool_44 cl_X9_49 cv_X9_part rfl (by decide) rfl rfl ⟨Nat.le_of_ble_eq_true rfl, Nat.le_of_ble_eq_true rfl⟩ (Nat.le_of_ble_eq_true rfl) ⟨Nat.le_of_ble_eq_true rfl, Nat.le_of_ble_eq_true rfl⟩ rfl (fun r' h' E => o_X9_part l base D cA v0 v1 11 h6 r' h' E) E (fun x7 h8 E => ?_)
          refine g_imul C dX9_cool_47 ?_
          refine g_bipush C 30 dX9_cool_48 rfl ?_
          refine g_idiv C dX9_cool_50 E (fun x9 E => ?_)
          refine g_ineg C dX9_cool_51 ?_
          refine g_invU C (q := (RX9, TX9, 13)) [.int v1, .int 12, .int (-x9)] dX9_cool_52 cl_X9_101 cv_X9_addPart rfl (by decide) rfl rfl ⟨Nat.le_of_ble_eq_true rfl, Nat.le_of_ble_eq_true rfl⟩ (Nat.le_of_ble_eq_true rfl) ⟨Nat.le_of_ble_eq_true rfl, Nat.le_of_ble_eq_true rfl⟩ rfl (fun r' h' E => o_X9_addPart l base D cA v0 v1 12 (-x9) h8 r' h' E) E (fun x10 h11 E => ?_)
          refine g_iinc C (lv' := [(1, .int (v1 + 1)), (2, .int (x3 - 15)), (0, .ref (base + v0))]) 2 1 dX9_cool_55 rfl rfl (by decide) rfl ?_
          refine g_goto C 2 dX9_cool_58 (by decide) ?_
          refine g_sub (lv' := [(0, .ref (base + v0)), (1, .int (v1 + 1))]) [2, 0] rfl ?_
          exact ih v0 (v1 + 1) h11 E
set_option maxRecDepth 100000 in
set_option maxHeartbeats 4000000 in
theorem o_X9_cool (l : Launch) (base : Nat) (D : va_G) (cA : Nat → ClassId) (a0 : Nat) (h : Hp) (r : Unit) (h' : Hp) (E : s_X9_cool a0 h = some (r, h')) : Met l yX9_cool (.code yX9_cool cX9_cool 3 none :: wsA) rm_X9_cool (PcG base D cA [.ref (base + a0)] h) (QcU base D cA h') 0 0 (AA base) := by
  refine g_met [.ref (base + a0)] (by decide) (Nat.le_of_ble_eq_true rfl) (fun p e s m args below meth c C hr hn => ?_)
  refine g_lv (lv' := [(0, .ref (base + a0))]) rfl ?_
  unfold s_X9_cool at E
  refine g_iconst C 0 dX9_cool_0 rfl ?_
  refine g_istore_n C (lv' := [(1, .int 0), (0, .ref (base + a0))]) dX9_cool_1 rfl (by decide) rfl ?_
  refine g_sub (lv' := [(0, .ref (base + a0)), (1, .int 0)]) [1, 0] rfl ?_
  exact o_X9_cool_L2 C hr _ a0 0 h E
abbrev rm_X9_unlock : Room := { frames := 2, cells := 0, slots := 0, locals := 43 }
def s_X9_unlock_L2 : Nat → Nat → Int32 → Hp → Rv Unit
  | 0, _, _, _ => none
  | n + 1, v0, v1, h =>
    getR h v0 9 0 fun x1 =>
  ldI h x1 20 2 fun x2 =>
  if x2 ≤ v1 then retU h
  else inv h v0 9 (s_X9_part v0 v1 13 h) fun x3 h =>
  if x3 = 2 then inv h v0 9 (s_X9_runs v0 v1 h) fun x4 h =>
  if x4 = 0 then inv h v0 9 (s_X9_temperature v0 v1 h) fun x5 h =>
  getR h v0 9 0 fun x6 =>
  ldI h x6 20 6 fun x7 =>
  if x7 < x5 then s_X9_unlock_L2 n v0 (v1 + 1) h
  else inv h v0 9 (s_X9_setPart v0 v1 13 1 h) fun _ h =>
  s_X9_unlock_L2 n v0 (v1 + 1) h
  else s_X9_unlock_L2 n v0 (v1 + 1) h
  else s_X9_unlock_L2 n v0 (v1 + 1) h
def s_X9_unlock (a0 : Nat) (h : Hp) : Rv Unit :=
  s_X9_unlock_L2 100000 a0 0 h
set_option maxRecDepth 100000 in
set_option maxHeartbeats 4000000 in
theorem o_X9_unlock_L2 {l : Launch} {base : Nat} {D : va_G} {cA : Nat → ClassId} {p : Program} {e : Env} {s : State} {m : MethodId} {args : Array Value} {below : List Frame} {meth : Method} {c : Code} (C : GC base D cA p s m args meth c cX9_unlock 2 RX9) (hr : meth.sig.returnType = none) {X : Unit × Hp} : ∀ (n : Nat) (v0 : Nat) (v1 : Int32) (h : Hp), s_X9_unlock_L2 n v0 v1 h = some X → GW base D cA p l e rm_X9_unlock s m args below meth c (MQ below (QcU base D cA X.2) args s 0 0 (AA base)) 2 h 0 0 2 [(0, .ref (base + v0)), (1, .int v1)] [] := by
  intro n
  induction n with
  | zero =>
    intro v0 v1 h E
    rw [s_X9_unlock_L2] at E
    cases E
  | succ n ih =>
    intro v0 v1 h E
    rw [s_X9_unlock_L2] at E
    refine g_iload_n C 1 dX9_unlock_2 rfl rfl ?_
    refine g_aload_n C 0 dX9_unlock_3 rfl rfl ?_
    refine g_getR C dX9_unlock_4 fl_X9_7 rfl E (fun x1 E => ?_)
    refine g_iconst C 2 dX9_unlock_7 rfl ?_
    refine g_iald C dX9_unlock_8 E (fun x2 E => ?_)
    refine g_icmp_ge C 60 dX9_unlock_9 (by decide) E (fun E => ?_) (fun E => ?_)
    · exact g_vret C dX9_unlock_60 hr E
    · refine g_aload_n C 0 dX9_unlock_12 rfl rfl ?_
      refine g_iload_n C 1 dX9_unlock_13 rfl rfl ?_
      refine g_bipush C 13 dX9_unlock_14 rfl ?_
      refine g_invI C (q := (RX9, TX9, 13)) [.int v1, .int 13] dX9_unlock_16 cl_X9_49 cv_X9_part rfl (by decide) rfl rfl ⟨Nat.le_of_ble_eq_true rfl, Nat.le_of_ble_eq_true rfl⟩ (Nat.le_of_ble_eq_true rfl) ⟨Nat.le_of_ble_eq_true rfl, Nat.le_of_ble_eq_true rfl⟩ rfl (fun r' h' E => o_X9_part l base D cA v0 v1 13 h r' h' E) E (fun x3 h4 E => ?_)
      refine g_iconst C 2 dX9_unlock_19 rfl ?_
      refine g_icmp_ne C 54 dX9_unlock_20 (by decide) E (fun E => ?_) (fun E => ?_)
      · refine g_iinc C (lv' := [(1, .int (v1 + 1)), (0, .ref (base + v0))]) 1 1 dX9_unlock_54 rfl rfl (by decide) rfl ?_
        refine g_goto C 2 dX9_unlock_57 (by decide) ?_
        refine g_sub (lv' := [(0, .ref (base + v0)), (1, .int (v1 + 1))]) [1, 0] rfl ?_
        exact ih v0 (v1 + 1) h4 E
      · refine g_aload_n C 0 dX9_unlock_23 rfl rfl ?_
        refine g_iload_n C 1 dX9_unlock_24 rfl rfl ?_
        refine g_invI C (q := (RX9, TX9, 13)) [.int v1] dX9_unlock_25 cl_X9_79 cv_X9_runs rfl (by decide) rfl rfl ⟨Nat.le_of_ble_eq_true rfl, Nat.le_of_ble_eq_true rfl⟩ (Nat.le_of_ble_eq_true rfl) ⟨Nat.le_of_ble_eq_true rfl, Nat.le_of_ble_eq_true rfl⟩ rfl (fun r' h' E => o_X9_runs l base D cA v0 v1 h4 r' h' E) E (fun x5 h6 E => ?_)
        refine g_if_ne C 54 dX9_unlock_28 (by decide) E (fun E => ?_) (fun E => ?_)
        · refine g_iinc C (lv' := [(1, .int (v1 + 1)), (0, .ref (base + v0))]) 1 1 dX9_unlock_54 rfl rfl (by decide) rfl ?_
          refine g_goto C 2 dX9_unlock_57 (by decide) ?_
          refine g_sub (lv' := [(0, .ref (base + v0)), (1, .int (v1 + 1))]) [1, 0] rfl ?_
          exact ih v0 (v1 + 1) h6 E
        · refine g_aload_n C 0 dX9_unlock_31 rfl rfl ?_
          refine g_iload_n C 1 dX9_unlock_32 rfl rfl ?_
          refine g_invI C (q := (RX9, TX9, 13)) [.int v1] dX9_unlock_33 cl_X9_68 cv_X9_temperature rfl (by decide) rfl rfl ⟨Nat.le_of_ble_eq_true rfl, Nat.le_of_ble_eq_true rfl⟩ (Nat.le_of_ble_eq_true rfl) ⟨Nat.le_of_ble_eq_true rfl, Nat.le_of_ble_eq_true rfl⟩ rfl (fun r' h' E => o_X9_temperature l base D cA v0 v1 h6 r' h' E) E (fun x7 h8 E => ?_)
          refine g_aload_n C 0 dX9_unlock_36 rfl rfl ?_
          refine g_getR C dX9_unlock_37 fl_X9_7 rfl E (fun x9 E => ?_)
          refine g_bipush C 6 dX9_unlock_40 rfl ?_
          refine g_iald C dX9_unlock_42 E (fun x10 E => ?_)
          refine g_icmp_gt C 54 dX9_unlock_43 (by decide) E (fun E => ?_) (fun E => ?_)
          · refine g_iinc C (lv' := [(1, .int (v1 + 1)), (0, .ref (base + v0))]) 1 1 dX9_unlock_54 rfl rfl (by decide) rfl ?_
            refine g_goto C 2 dX9_unlock_57 (by decide) ?_
            refine g_sub (lv' := [(0, .ref (base + v0)), (1, .int (v1 + 1))]) [1, 0] rfl ?_
            exact ih v0 (v1 + 1) h8 E
          · refine g_aload_n C 0 dX9_unlock_46 rfl rfl ?_
            refine g_iload_n C 1 dX9_unlock_47 rfl rfl ?_
            refine g_bipush C 13 dX9_unlock_48 rfl ?_
            refine g_iconst C 1 dX9_unlock_50 rfl ?_
            refine g_invU C (q := (RX9, TX9, 13)) [.int v1, .int 13, .int 1] dX9_unlock_51 cl_X9_63 cv_X9_setPart rfl (by decide) rfl rfl ⟨Nat.le_of_ble_eq_true rfl, Nat.le_of_ble_eq_true rfl⟩ (Nat.le_of_ble_eq_true rfl) ⟨Nat.le_of_ble_eq_true rfl, Nat.le_of_ble_eq_true rfl⟩ rfl (fun r' h' E => o_X9_setPart l base D cA v0 v1 13 1 h8 r' h' E) E (fun x11 h12 E => ?_)
            refine g_iinc C (lv' := [(1, .int (v1 + 1)), (0, .ref (base + v0))]) 1 1 dX9_unlock_54 rfl rfl (by decide) rfl ?_
            refine g_goto C 2 dX9_unlock_57 (by decide) ?_
            refine g_sub (lv' := [(0, .ref (base + v0)), (1, .int (v1 + 1))]) [1, 0] rfl ?_
            exact ih v0 (v1 + 1) h12 E
set_option maxRecDepth 100000 in
set_option maxHeartbeats 4000000 in
theorem o_X9_unlock (l : Launch) (base : Nat) (D : va_G) (cA : Nat → ClassId) (a0 : Nat) (h : Hp) (r : Unit) (h' : Hp) (E : s_X9_unlock a0 h = some (r, h')) : Met l yX9_unlock (.code yX9_unlock cX9_unlock 2 none :: wsA) rm_X9_unlock (PcG base D cA [.ref (base + a0)] h) (QcU base D cA h') 0 0 (AA base) := by
  refine g_met [.ref (base + a0)] (by decide) (Nat.le_of_ble_eq_true rfl) (fun p e s m args below meth c C hr hn => ?_)
  refine g_lv (lv' := [(0, .ref (base + a0))]) rfl ?_
  unfold s_X9_unlock at E
  refine g_iconst C 0 dX9_unlock_0 rfl ?_
  refine g_istore_n C (lv' := [(1, .int 0), (0, .ref (base + a0))]) dX9_unlock_1 rfl (by decide) rfl ?_
  refine g_sub (lv' := [(0, .ref (base + a0)), (1, .int 0)]) [1, 0] rfl ?_
  exact o_X9_unlock_L2 C hr _ a0 0 h E
abbrev rm_X9_endLeases : Room := { frames := 1, cells := 0, slots := 0, locals := 22 }
def s_X9_endLeases_L44 (k75 : Nat → Int32 → Int32 → Hp → Rv Unit) : Nat → Nat → Int32 → Int32 → Int32 → Hp → Rv Unit
  | 0, _, _, _, _, _ => none
  | n + 1, v0, v1, v2, v3, h =>
    if 5 ≤ v3 then k75 v0 v1 v2 h
  else getR h v0 9 0 fun x7 =>
  inv h v0 9 (s_X9_leasePart v0 v2 v3 h) fun x8 h =>
  stI h x7 20 ((351 + (5 * v1)) + v3) x8 fun h =>
  s_X9_endLeases_L44 k75 n v0 v1 v2 (v3 + 1) h
def s_X9_endLeases_L4 : Nat → Nat → Int32 → Int32 → Hp → Rv Unit
  | 0, _, _, _, _ => none
  | n + 1, v0, v1, v2, h =>
    getR h v0 9 0 fun x1 =>
  ldI h x1 20 8 fun x2 =>
  if x2 ≤ v2 then getR h v0 9 0 fun x3 =>
  stI h x3 20 8 v1 fun h =>
  retU h
  else getR h v0 9 0 fun x4 =>
  ldI h x4 20 ((351 + (5 * v2)) + 3) fun x5 =>
  stI h x4 20 ((351 + (5 * v2)) + 3) (x5 - 1) fun h =>
  inv h v0 9 (s_X9_leasePart v0 v2 3 h) fun x6 h =>
  if x6 ≤ 0 then s_X9_endLeases_L4 n v0 v1 (v2 + 1) h
  else s_X9_endLeases_L44 (fun y0 y1 y2 h => s_X9_endLeases_L4 n y0 (y1 + 1) (y2 + 1) h) 100000 v0 v1 v2 0 h
def s_X9_endLeases (a0 : Nat) (h : Hp) : Rv Unit :=
  s_X9_endLeases_L4 100000 a0 0 0 h
set_option maxRecDepth 100000 in
set_option maxHeartbeats 4000000 in
theorem o_X9_endLeases_L44 {l : Launch} {base : Nat} {D : va_G} {cA : Nat → ClassId} {p : Program} {e : Env} {s : State} {m : MethodId} {args : Array Value} {below : List Frame} {meth : Method} {c : Code} (C : GC base D cA p s m args meth c cX9_endLeases 4 RX9) (hr : meth.sig.returnType = none) {X : Unit × Hp} {k75 : Nat → Int32 → Int32 → Hp → Rv Unit} (K75 : ∀ (y0 : Nat) (y1 : Int32) (y2 : Int32) (h : Hp), k75 y0 y1 y2 h = some X → GW base D cA p l e rm_X9_endLeases s m args below meth c (MQ below (QcU base D cA X.2) args s 0 0 (AA base)) 4 h 0 0 75 [(0, .ref (base + y0)), (1, .int y1), (2, .int y2)] []) : ∀ (n : Nat) (v0 : Nat) (v1 : Int32) (v2 : Int32) (v3 : Int32) (h : Hp), s_X9_endLeases_L44 k75 n v0 v1 v2 v3 h = some X → GW base D cA p l e rm_X9_endLeases s m args below meth c (MQ below (QcU base D cA X.2) args s 0 0 (AA base)) 4 h 0 0 44 [(0, .ref (base + v0)), (1, .int v1), (2, .int v2), (3, .int v3)] [] := by
  intro n
  induction n with
  | zero =>
    intro v0 v1 v2 v3 h E
    rw [s_X9_endLeases_L44] at E
    cases E
  | succ n ih =>
    intro v0 v1 v2 v3 h E
    rw [s_X9_endLeases_L44] at E
    refine g_iload_n C 3 dX9_endLeases_44 rfl rfl ?_
    refine g_iconst C 5 dX9_endLeases_45 rfl ?_
    refine g_icmp_ge C 75 dX9_endLeases_46 (by decide) E (fun E => ?_) (fun E => ?_)
    · refine g_sub (lv' := [(0, .ref (base + v0)), (1, .int v1), (2, .int v2)]) [0, 1, 2] rfl ?_
      exact K75 v0 v1 v2 h E
    · refine g_aload_n C 0 dX9_endLeases_49 rfl rfl ?_
      refine g_getR C dX9_endLeases_50 fl_X9_7 rfl E (fun x1 E => ?_)
      refine g_sipush C 351 dX9_endLeases_53 rfl ?_
      refine g_iconst C 5 dX9_endLeases_56 rfl ?_
      refine g_iload_n C 1 dX9_endLeases_57 rfl rfl ?_
      refine g_imul C dX9_endLeases_58 ?_
      refine g_iadd C dX9_endLeases_59 ?_
      refine g_iload_n C 3 dX9_endLeases_60 rfl rfl ?_
      refine g_iadd C dX9_endLeases_61 ?_
      refine g_aload_n C 0 dX9_endLeases_62 rfl rfl ?_
      refine g_iload_n C 2 dX9_endLeases_63 rfl rfl ?_
      refine g_iload_n C 3 dX9_endLeases_64 rfl rfl ?_
      refine g_invI C (q := (RX9, TX9, 13)) [.int v2, .int v3] dX9_endLeases_65 cl_X9_53 cv_X9_leasePart rfl (by decide) rfl rfl ⟨Nat.le_of_ble_eq_true rfl, Nat.le_of_ble_eq_true rfl⟩ (Nat.le_of_ble_eq_true rfl) ⟨Nat.le_of_ble_eq_true rfl, Nat.le_of_ble_eq_true rfl⟩ rfl (fun r' h' E => o_X9_leasePart l base D cA v0 v2 v3 h r' h' E) E (fun x2 h3 E => ?_)
      refine g_iast C dX9_endLeases_68 E (fun h4 E => ?_)
      refine g_iinc C (lv' := [(3, .int (v3 + 1)), (0, .ref (base + v0)), (1, .int v1), (2, .int v2)]) 3 1 dX9_endLeases_69 rfl rfl (by decide) rfl ?_
      refine g_goto C 44 dX9_endLeases_72 (by decide) ?_
      refine g_sub (lv' := [(0, .ref (base + v0)), (1, .int v1), (2, .int v2), (3, .int (v3 + 1))]) [1, 2, 3, 0] rfl ?_
      exact ih v0 v1 v2 (v3 + 1) h4 E
set_option maxRecDepth 100000 in
set_option maxHeartbeats 4000000 in
theorem o_X9_endLeases_L4 {l : Launch} {base : Nat} {D : va_G} {cA : Nat → ClassId} {p : Program} {e : Env} {s : State} {m : MethodId} {args : Array Value} {below : List Frame} {meth : Method} {c : Code} (C : GC base D cA p s m args meth c cX9_endLeases 4 RX9) (hr : meth.sig.returnType = none) {X : Unit × Hp} : ∀ (n : Nat) (v0 : Nat) (v1 : Int32) (v2 : Int32) (h : Hp), s_X9_endLeases_L4 n v0 v1 v2 h = some X → GW base D cA p l e rm_X9_endLeases s m args below meth c (MQ below (QcU base D cA X.2) args s 0 0 (AA base)) 4 h 0 0 4 [(0, .ref (base + v0)), (1, .int v1), (2, .int v2)] [] := by
  intro n
  induction n with
  | zero =>
    intro v0 v1 v2 h E
    rw [s_X9_endLeases_L4] at E
    cases E
  | succ n ih =>
    intro v0 v1 v2 h E
    rw [s_X9_endLeases_L4] at E
    refine g_iload_n C 2 dX9_endLeases_4 rfl rfl ?_
    refine g_aload_n C 0 dX9_endLeases_5 rfl rfl ?_
    refine g_getR C dX9_endLeases_6 fl_X9_7 rfl E (fun x1 E => ?_)
    refine g_bipush C 8 dX9_endLeases_9 rfl ?_
    refine g_iald C dX9_endLeases_11 E (fun x2 E => ?_)
    refine g_icmp_ge C 84 dX9_endLeases_12 (by decide) E (fun E => ?_) (fun E => ?_)
    · refine g_aload_n C 0 dX9_endLeases_84 rfl rfl ?_
      refine g_getR C dX9_endLeases_85 fl_X9_7 rfl E (fun x3 E => ?_)
      refine g_bipush C 8 dX9_endLeases_88 rfl ?_
      refine g_iload_n C 1 dX9_endLeases_90 rfl rfl ?_
      refine g_iast C dX9_endLeases_91 E (fun h4 E => ?_)
      exact g_vret C dX9_endLeases_92 hr E
    · refine g_aload_n C 0 dX9_endLeases_15 rfl rfl ?_
      refine g_getR C dX9_endLeases_16 fl_X9_7 rfl E (fun x5 E => ?_)
      refine g_sipush C 351 dX9_endLeases_19 rfl ?_
      refine g_iconst C 5 dX9_endLeases_22 rfl ?_
      refine g_iload_n C 2 dX9_endLeases_23 rfl rfl ?_
      refine g_imul C dX9_endLeases_24 ?_
      refine g_iadd C dX9_endLeases_25 ?_
      refine g_iconst C 3 dX9_endLeases_26 rfl ?_
      refine g_iadd C dX9_endLeases_27 ?_
      refine g_dup2 C dX9_endLeases_28 rfl rfl ?_
      refine g_iald C dX9_endLeases_29 E (fun x6 E => ?_)
      refine g_iconst C 1 dX9_endLeases_30 rfl ?_
      refine g_isub C dX9_endLeases_31 ?_
      refine g_iast C dX9_endLeases_32 E (fun h7 E => ?_)
      refine g_aload_n C 0 dX9_endLeases_33 rfl rfl ?_
      refine g_iload_n C 2 dX9_endLeases_34 rfl rfl ?_
      refine g_iconst C 3 dX9_endLeases_35 rfl ?_
      refine g_invI C (q := (RX9, TX9, 13)) [.int v2, .int 3] dX9_endLeases_36 cl_X9_53 cv_X9_leasePart rfl (by decide) rfl rfl ⟨Nat.le_of_ble_eq_true rfl, Nat.le_of_ble_eq_true rfl⟩ (Nat.le_of_ble_eq_true rfl) ⟨Nat.le_of_ble_eq_true rfl, Nat.le_of_ble_eq_true rfl⟩ rfl (fun r' h' E => o_X9_leasePart l base D cA v0 v2 3 h7 r' h' E) E (fun x8 h9 E => ?_)
      refine g_if_le C 78 dX9_endLeases_39 (by decide) E (fun E => ?_) (fun E => ?_)
      · refine g_iinc C (lv' := [(2, .int (v2 + 1)), (0, .ref (base + v0)), (1, .int v1)]) 2 1 dX9_endLeases_78 rfl rfl (by decide) rfl ?_
        refine g_goto C 4 dX9_endLeases_81 (by decide) ?_
        refine g_sub (lv' := [(0, .ref (base + v0)), (1, .int v1), (2, .int (v2 + 1))]) [1, 2, 0] rfl ?_
        exact ih v0 v1 (v2 + 1) h9 E
      · refine g_iconst C 0 dX9_endLeases_42 rfl ?_
        refine g_istore_n C (lv' := [(3, .int 0), (0, .ref (base + v0)), (1, .int v1), (2, .int v2)]) dX9_endLeases_43 rfl (by decide) rfl ?_
        refine g_sub (lv' := [(0, .ref (base + v0)), (1, .int v1), (2, .int v2), (3, .int 0)]) [1, 2, 3, 0] rfl ?_
        refine o_X9_endLeases_L44 C hr ?_ _ v0 v1 v2 0 h9 E
        · intro y10 y11 y12 h13 E
          refine g_iinc C (lv' := [(1, .int (y11 + 1)), (0, .ref (base + y10)), (2, .int y12)]) 1 1 dX9_endLeases_75 rfl rfl (by decide) rfl ?_
          refine g_iinc C (lv' := [(2, .int (y12 + 1)), (1, .int (y11 + 1)), (0, .ref (base + y10))]) 2 1 dX9_endLeases_78 rfl rfl (by decide) rfl ?_
          refine g_goto C 4 dX9_endLeases_81 (by decide) ?_
          refine g_sub (lv' := [(0, .ref (base + y10)), (1, .int (y11 + 1)), (2, .int (y12 + 1))]) [2, 1, 0] rfl ?_
          exact ih y10 (y11 + 1) (y12 + 1) h13 E
set_option maxRecDepth 100000 in
set_option maxHeartbeats 4000000 in
theorem o_X9_endLeases (l : Launch) (base : Nat) (D : va_G) (cA : Nat → ClassId) (a0 : Nat) (h : Hp) (r : Unit) (h' : Hp) (E : s_X9_endLeases a0 h = some (r, h')) : Met l yX9_endLeases (.code yX9_endLeases cX9_endLeases 4 none :: wsA) rm_X9_endLeases (PcG base D cA [.ref (base + a0)] h) (QcU base D cA h') 0 0 (AA base) := by
  refine g_met [.ref (base + a0)] (by decide) (Nat.le_of_ble_eq_true rfl) (fun p e s m args below meth c C hr hn => ?_)
  refine g_lv (lv' := [(0, .ref (base + a0))]) rfl ?_
  unfold s_X9_endLeases at E
  refine g_iconst C 0 dX9_endLeases_0 rfl ?_
  refine g_istore_n C (lv' := [(1, .int 0), (0, .ref (base + a0))]) dX9_endLeases_1 rfl (by decide) rfl ?_
  refine g_iconst C 0 dX9_endLeases_2 rfl ?_
  refine g_istore_n C (lv' := [(2, .int 0), (1, .int 0), (0, .ref (base + a0))]) dX9_endLeases_3 rfl (by decide) rfl ?_
  refine g_sub (lv' := [(0, .ref (base + a0)), (1, .int 0), (2, .int 0)]) [2, 1, 0] rfl ?_
  exact o_X9_endLeases_L4 C hr _ a0 0 0 h E
abbrev rm_X9_minute : Room := { frames := 6, cells := 0, slots := 0, locals := 139 }
def s_X9_minute_J58 (v0 : Nat) (v2 : Int32) (w0 : Nat) (w1 : Int32) (w2 : Int32) (w3 : Int32) (h : Hp) : Rv Int32 :=
  stI h w0 20 w1 (w2 + w3) fun h =>
  inv h v0 9 (s_X9_endLeases v0 h) fun _ h =>
  getR h v0 9 0 fun x5 =>
  ldI h x5 20 0 fun x6 =>
  stI h x5 20 0 (x6 + 1) fun h =>
  retI v2 h
def s_X9_minute_J41 (v0 : Nat) (v1 : Int32) (v2 : Int32) (h : Hp) : Rv Int32 :=
  getR h v0 9 0 fun x3 =>
  ldI h x3 20 11 fun x4 =>
  if v1 = 0 then s_X9_minute_J58 v0 v2 x3 11 x4 1 h
  else s_X9_minute_J58 v0 v2 x3 11 x4 0 h
def s_X9_minute_J28 (v0 : Nat) (v1 : Int32) (w0 : Int32) (h : Hp) : Rv Int32 :=
  inv h v0 9 (s_X9_cool v0 h) fun _ h =>
  if v1 = 0 then s_X9_minute_J41 v0 v1 w0 h
  else inv h v0 9 (s_X9_unlock v0 h) fun _ h =>
  s_X9_minute_J41 v0 v1 w0 h
def s_X9_minute_J15 (v0 : Nat) (w0 : Int32) (h : Hp) : Rv Int32 :=
  if w0 = 0 then s_X9_minute_J28 v0 w0 0 h
  else inv h v0 9 (s_X9_powered v0 h) fun x7 h =>
  s_X9_minute_J28 v0 w0 x7 h
def s_X9_minute (a0 : Nat) (h : Hp) : Rv Int32 :=
  getR h a0 9 0 fun x1 =>
  ldI h x1 20 1 fun x2 =>
  if x2 = 1 then s_X9_minute_J15 a0 1 h
  else s_X9_minute_J15 a0 0 h
set_option maxRecDepth 100000 in
set_option maxHeartbeats 4000000 in
theorem o_X9_minute_J58 {l : Launch} {base : Nat} {D : va_G} {cA : Nat → ClassId} {p : Program} {e : Env} {s : State} {m : MethodId} {args : Array Value} {below : List Frame} {meth : Method} {c : Code} (C : GC base D cA p s m args meth c cX9_minute 3 RX9) (hr : meth.sig.returnType = (some .int)) {X : Int32 × Hp} : ∀ (v0 : Nat) (v2 : Int32) (w0 : Nat) (w1 : Int32) (w2 : Int32) (w3 : Int32) (h : Hp), s_X9_minute_J58 v0 v2 w0 w1 w2 w3 h = some X → GW base D cA p l e rm_X9_minute s m args below meth c (MQ below (QcI base D cA X.1 X.2) args s 0 0 (AA base)) 3 h 0 0 58 [(0, .ref (base + v0)), (2, .int v2)] [.int w3, .int w2, .int w1, .ref (base + w0)] := by
  intro v0 v2 w0 w1 w2 w3 h E
  unfold s_X9_minute_J58 at E
  refine g_iadd C dX9_minute_58 ?_
  refine g_iast C dX9_minute_59 E (fun h1 E => ?_)
  refine g_aload_n C 0 dX9_minute_60 rfl rfl ?_
  refine g_invU C (q := (RX9, TX9, 13)) [] dX9_minute_61 cl_X9_139 cv_X9_endLeases rfl (by decide) rfl rfl ⟨Nat.le_of_ble_eq_true rfl, Nat.le_of_ble_eq_true rfl⟩ (Nat.le_of_ble_eq_true rfl) ⟨Nat.le_of_ble_eq_true rfl, Nat.le_of_ble_eq_true rfl⟩ rfl (fun r' h' E => o_X9_endLeases l base D cA v0 h1 r' h' E) E (fun x2 h3 E => ?_)
  refine g_aload_n C 0 dX9_minute_64 rfl rfl ?_
  refine g_getR C dX9_minute_65 fl_X9_7 rfl E (fun x4 E => ?_)
  refine g_iconst C 0 dX9_minute_68 rfl ?_
  refine g_dup2 C dX9_minute_69 rfl rfl ?_
  refine g_iald C dX9_minute_70 E (fun x5 E => ?_)
  refine g_iconst C 1 dX9_minute_71 rfl ?_
  refine g_iadd C dX9_minute_72 ?_
  refine g_iast C dX9_minute_73 E (fun h6 E => ?_)
  refine g_iload_n C 1 dX9_minute_74 rfl rfl ?_
  exact g_iret C dX9_minute_75 hr E
set_option maxRecDepth 100000 in
set_option maxHeartbeats 4000000 in
theorem o_X9_minute_J41 {l : Launch} {base : Nat} {D : va_G} {cA : Nat → ClassId} {p : Program} {e : Env} {s : State} {m : MethodId} {args : Array Value} {below : List Frame} {meth : Method} {c : Code} (C : GC base D cA p s m args meth c cX9_minute 3 RX9) (hr : meth.sig.returnType = (some .int)) {X : Int32 × Hp} : ∀ (v0 : Nat) (v1 : Int32) (v2 : Int32) (h : Hp), s_X9_minute_J41 v0 v1 v2 h = some X → GW base D cA p l e rm_X9_minute s m args below meth c (MQ below (QcI base D cA X.1 X.2) args s 0 0 (AA base)) 3 h 0 0 41 [(0, .ref (base + v0)), (1, .int v1), (2, .int v2)] [] := by
  intro v0 v1 v2 h E
  unfold s_X9_minute_J41 at E
  refine g_aload_n C 0 dX9_minute_41 rfl rfl ?_
  refine g_getR C dX9_minute_42 fl_X9_7 rfl E (fun x1 E => ?_)
  refine g_bipush C 11 dX9_minute_45 rfl ?_
  refine g_dup2 C dX9_minute_47 rfl rfl ?_
  refine g_iald C dX9_minute_48 E (fun x2 E => ?_)
  refine g_iload_n C 1 dX9_minute_49 rfl rfl ?_
  refine g_if_eq C 57 dX9_minute_50 (by decide) E (fun E => ?_) (fun E => ?_)
  · refine g_iconst C 1 dX9_minute_57 rfl ?_
    refine g_sub (lv' := [(0, .ref (base + v0)), (2, .int v2)]) [0, 2] rfl ?_
    exact o_X9_minute_J58 C hr v0 v2 x1 11 x2 1 h E
  · refine g_iconst C 0 dX9_minute_53 rfl ?_
    refine g_goto C 58 dX9_minute_54 (by decide) ?_
    refine g_sub (lv' := [(0, .ref (base + v0)), (2, .int v2)]) [0, 2] rfl ?_
    exact o_X9_minute_J58 C hr v0 v2 x1 11 x2 0 h E
set_option maxRecDepth 100000 in
set_option maxHeartbeats 4000000 in
theorem o_X9_minute_J28 {l : Launch} {base : Nat} {D : va_G} {cA : Nat → ClassId} {p : Program} {e : Env} {s : State} {m : MethodId} {args : Array Value} {below : List Frame} {meth : Method} {c : Code} (C : GC base D cA p s m args meth c cX9_minute 3 RX9) (hr : meth.sig.returnType = (some .int)) {X : Int32 × Hp} : ∀ (v0 : Nat) (v1 : Int32) (w0 : Int32) (h : Hp), s_X9_minute_J28 v0 v1 w0 h = some X → GW base D cA p l e rm_X9_minute s m args below meth c (MQ below (QcI base D cA X.1 X.2) args s 0 0 (AA base)) 3 h 0 0 28 [(0, .ref (base + v0)), (1, .int v1)] [.int w0] := by
  intro v0 v1 w0 h E
  unfold s_X9_minute_J28 at E
  refine g_istore_n C (lv' := [(2, .int w0), (0, .ref (base + v0)), (1, .int v1)]) dX9_minute_28 rfl (by decide) rfl ?_
  refine g_aload_n C 1 dX9_minute_29 rfl rfl ?_
  refine g_invU C (q := (RX9, TX9, 13)) [] dX9_minute_30 cl_X9_133 cv_X9_cool rfl (by decide) rfl rfl ⟨Nat.le_of_ble_eq_true rfl, Nat.le_of_ble_eq_true rfl⟩ (Nat.le_of_ble_eq_true rfl) ⟨Nat.le_of_ble_eq_true rfl, Nat.le_of_ble_eq_true rfl⟩ rfl (fun r' h' E => o_X9_cool l base D cA v0 h r' h' E) E (fun x1 h2 E => ?_)
  refine g_iload_n C 2 dX9_minute_33 rfl rfl ?_
  refine g_if_eq C 41 dX9_minute_34 (by decide) E (fun E => ?_) (fun E => ?_)
  · refine g_sub (lv' := [(0, .ref (base + v0)), (1, .int v1), (2, .int w0)]) [1, 2, 0] rfl ?_
    exact o_X9_minute_J41 C hr v0 v1 w0 h2 E
  · refine g_aload_n C 1 dX9_minute_37 rfl rfl ?_
    refine g_invU C (q := (RX9, TX9, 13)) [] dX9_minute_38 cl_X9_136 cv_X9_unlock rfl (by decide) rfl rfl ⟨Nat.le_of_ble_eq_true rfl, Nat.le_of_ble_eq_true rfl⟩ (Nat.le_of_ble_eq_true rfl) ⟨Nat.le_of_ble_eq_true rfl, Nat.le_of_ble_eq_true rfl⟩ rfl (fun r' h' E => o_X9_unlock l base D cA v0 h2 r' h' E) E (fun x3 h4 E => ?_)
    refine g_sub (lv' := [(0, .ref (base + v0)), (1, .int v1), (2, .int w0)]) [1, 2, 0] rfl ?_
    exact o_X9_minute_J41 C hr v0 v1 w0 h4 E
set_option maxRecDepth 100000 in
set_option maxHeartbeats 4000000 in
theorem o_X9_minute_J15 {l : Launch} {base : Nat} {D : va_G} {cA : Nat → ClassId} {p : Program} {e : Env} {s : State} {m : MethodId} {args : Array Value} {below : List Frame} {meth : Method} {c : Code} (C : GC base D cA p s m args meth c cX9_minute 3 RX9) (hr : meth.sig.returnType = (some .int)) {X : Int32 × Hp} : ∀ (v0 : Nat) (w0 : Int32) (h : Hp), s_X9_minute_J15 v0 w0 h = some X → GW base D cA p l e rm_X9_minute s m args below meth c (MQ below (QcI base D cA X.1 X.2) args s 0 0 (AA base)) 3 h 0 0 15 [(0, .ref (base + v0))] [.int w0] := by
  intro v0 w0 h E
  unfold s_X9_minute_J15 at E
  refine g_istore_n C (lv' := [(1, .int w0), (0, .ref (base + v0))]) dX9_minute_15 rfl (by decide) rfl ?_
  refine g_iload_n C 0 dX9_minute_16 rfl rfl ?_
  refine g_if_eq C 27 dX9_minute_17 (by decide) E (fun E => ?_) (fun E => ?_)
  · refine g_iconst C 0 dX9_minute_27 rfl ?_
    refine g_sub (lv' := [(0, .ref (base + v0)), (1, .int w0)]) [1, 0] rfl ?_
    exact o_X9_minute_J28 C hr v0 w0 0 h E
  · refine g_aload_n C 1 dX9_minute_20 rfl rfl ?_
    refine g_invI C (q := (RX9, TX9, 13)) [] dX9_minute_21 cl_X9_130 cv_X9_powered rfl (by decide) rfl rfl ⟨Nat.le_of_ble_eq_true rfl, Nat.le_of_ble_eq_true rfl⟩ (Nat.le_of_ble_eq_true rfl) ⟨Nat.le_of_ble_eq_true rfl, Nat.le_of_ble_eq_true rfl⟩ rfl (fun r' h' E => o_X9_powered l base D cA v0 h r' h' E) E (fun x1 h2 E => ?_)
    refine g_goto C 28 dX9_minute_24 (by decide) ?_
    refine g_sub (lv' := [(0, .ref (base + v0)), (1, .int w0)]) [1, 0] rfl ?_
    exact o_X9_minute_J28 C hr v0 w0 x1 h2 E
set_option maxRecDepth 100000 in
set_option maxHeartbeats 4000000 in
theorem o_X9_minute (l : Launch) (base : Nat) (D : va_G) (cA : Nat → ClassId) (a0 : Nat) (h : Hp) (r : Int32) (h' : Hp) (E : s_X9_minute a0 h = some (r, h')) : Met l yX9_minute (.code yX9_minute cX9_minute 3 (some .int) :: wsA) rm_X9_minute (PcG base D cA [.ref (base + a0)] h) (QcI base D cA r h') 0 0 (AA base) := by
  refine g_met [.ref (base + a0)] (by decide) (Nat.le_of_ble_eq_true rfl) (fun p e s m args below meth c C hr hn => ?_)
  refine g_lv (lv' := [(0, .ref (base + a0))]) rfl ?_
  unfold s_X9_minute at E
  refine g_aload_n C 0 dX9_minute_0 rfl rfl ?_
  refine g_getR C dX9_minute_1 fl_X9_7 rfl E (fun x1 E => ?_)
  refine g_iconst C 1 dX9_minute_4 rfl ?_
  refine g_iald C dX9_minute_5 E (fun x2 E => ?_)
  refine g_iconst C 1 dX9_minute_6 rfl ?_
  refine g_icmp_ne C 14 dX9_minute_7 (by decide) E (fun E => ?_) (fun E => ?_)
  · refine g_iconst C 0 dX9_minute_14 rfl ?_
    refine g_sub (lv' := [(0, .ref (base + a0))]) [0] rfl ?_
    exact o_X9_minute_J15 C hr a0 0 h E
  · refine g_iconst C 1 dX9_minute_10 rfl ?_
    refine g_goto C 15 dX9_minute_11 (by decide) ?_
    refine g_sub (lv' := [(0, .ref (base + a0))]) [0] rfl ?_
    exact o_X9_minute_J15 C hr a0 1 h E
abbrev rm_X9_pass : Room := { frames := 7, cells := 0, slots := 0, locals := 161 }
def s_X9_pass_L21 : Nat → Nat → Int32 → Int32 → Int32 → Hp → Rv Int32
  | 0, _, _, _, _, _ => none
  | n + 1, v0, v1, v2, v3, h =>
    if v1 ≤ v3 then retI v2 h
  else inv h v0 9 (s_X9_minute v0 h) fun x2 h =>
  s_X9_pass_L21 n v0 v1 (v2 + x2) (v3 + 1) h
def s_X9_pass (a0 : Nat) (a1 : Int32) (h : Hp) : Rv Int32 :=
  bnd (s_X9_within a1 1 60 h) fun x1 h =>
  if x1 = 0 then retI (-2) h
  else inv h a0 9 (s_X9_record a0 h) fun _ h =>
  s_X9_pass_L21 100000 a0 a1 0 0 h
set_option maxRecDepth 100000 in
set_option maxHeartbeats 4000000 in
theorem o_X9_pass_L21 {l : Launch} {base : Nat} {D : va_G} {cA : Nat → ClassId} {p : Program} {e : Env} {s : State} {m : MethodId} {args : Array Value} {below : List Frame} {meth : Method} {c : Code} (C : GC base D cA p s m args meth c cX9_pass 4 RX9) (hr : meth.sig.returnType = (some .int)) {X : Int32 × Hp} : ∀ (n : Nat) (v0 : Nat) (v1 : Int32) (v2 : Int32) (v3 : Int32) (h : Hp), s_X9_pass_L21 n v0 v1 v2 v3 h = some X → GW base D cA p l e rm_X9_pass s m args below meth c (MQ below (QcI base D cA X.1 X.2) args s 0 0 (AA base)) 4 h 0 0 21 [(0, .ref (base + v0)), (1, .int v1), (2, .int v2), (3, .int v3)] [] := by
  intro n
  induction n with
  | zero =>
    intro v0 v1 v2 v3 h E
    rw [s_X9_pass_L21] at E
    cases E
  | succ n ih =>
    intro v0 v1 v2 v3 h E
    rw [s_X9_pass_L21] at E
    refine g_iload_n C 3 dX9_pass_21 rfl rfl ?_
    refine g_iload_n C 1 dX9_pass_22 rfl rfl ?_
    refine g_icmp_ge C 39 dX9_pass_23 (by decide) E (fun E => ?_) (fun E => ?_)
    · refine g_iload_n C 2 dX9_pass_39 rfl rfl ?_
      exact g_iret C dX9_pass_40 hr E
    · refine g_iload_n C 2 dX9_pass_26 rfl rfl ?_
      refine g_aload_n C 0 dX9_pass_27 rfl rfl ?_
      refine g_invI C (q := (RX9, TX9, 13)) [] dX9_pass_28 cl_X9_142 cv_X9_minute rfl (by decide) rfl rfl ⟨Nat.le_of_ble_eq_true rfl, Nat.le_of_ble_eq_true rfl⟩ (Nat.le_of_ble_eq_true rfl) ⟨Nat.le_of_ble_eq_true rfl, Nat.le_of_ble_eq_true rfl⟩ rfl (fun r' h' E => o_X9_minute l base D cA v0 h r' h' E) E (fun x1 h2 E => ?_)
      refine g_iadd C dX9_pass_31 ?_
      refine g_istore_n C (lv' := [(2, .int (v2 + x1)), (0, .ref (base + v0)), (1, .int v1), (3, .int v3)]) dX9_pass_32 rfl (by decide) rfl ?_
      refine g_iinc C (lv' := [(3, .int (v3 + 1)), (2, .int (v2 + x1)), (0, .ref (base + v0)), (1, .int v1)]) 3 1 dX9_pass_33 rfl rfl (by decide) rfl ?_
      refine g_goto C 21 dX9_pass_36 (by decide) ?_
      refine g_sub (lv' := [(0, .ref (base + v0)), (1, .int v1), (2, .int (v2 + x1)), (3, .int (v3 + 1))]) [2, 3, 1, 0] rfl ?_
      exact ih v0 v1 (v2 + x1) (v3 + 1) h2 E
set_option maxRecDepth 100000 in
set_option maxHeartbeats 4000000 in
theorem o_X9_pass (l : Launch) (base : Nat) (D : va_G) (cA : Nat → ClassId) (a0 : Nat) (a1 : Int32) (h : Hp) (r : Int32) (h' : Hp) (E : s_X9_pass a0 a1 h = some (r, h')) : Met l yX9_pass (.code yX9_pass cX9_pass 4 (some .int) :: wsA) rm_X9_pass (PcG base D cA [.ref (base + a0), .int a1] h) (QcI base D cA r h') 0 0 (AA base) := by
  refine g_met [.ref (base + a0), .int a1] (by decide) (Nat.le_of_ble_eq_true rfl) (fun p e s m args below meth c C hr hn => ?_)
  refine g_lv (lv' := [(0, .ref (base + a0)), (1, .int a1)]) rfl ?_
  unfold s_X9_pass at E
  refine g_iload_n C 1 dX9_pass_0 rfl rfl ?_
  refine g_iconst C 1 dX9_pass_1 rfl ?_
  refine g_bipush C 60 dX9_pass_2 rfl ?_
  refine g_staI C [.int a1, .int 1, .int 60] dX9_pass_4 cl_X9_45 cs_X9_within rfl rfl ⟨Nat.le_of_ble_eq_true rfl, Nat.le_of_ble_eq_true rfl⟩ (Nat.le_of_ble_eq_true rfl) ⟨Nat.le_of_ble_eq_true rfl, Nat.le_of_ble_eq_true rfl⟩ rfl (fun r' h' E => o_X9_within l base D cA a1 1 60 h r' h' E) E (fun x1 h2 E => ?_)
  refine g_if_ne C 13 dX9_pass_7 (by decide) E (fun E => ?_) (fun E => ?_)
  · refine g_aload_n C 0 dX9_pass_13 rfl rfl ?_
    refine g_invU C (q := (RX9, TX9, 13)) [] dX9_pass_14 cl_X9_60 cv_X9_record rfl (by decide) rfl rfl ⟨Nat.le_of_ble_eq_true rfl, Nat.le_of_ble_eq_true rfl⟩ (Nat.le_of_ble_eq_true rfl) ⟨Nat.le_of_ble_eq_true rfl, Nat.le_of_ble_eq_true rfl⟩ rfl (fun r' h' E => o_X9_record l base D cA a0 h2 r' h' E) E (fun x3 h4 E => ?_)
    refine g_iconst C 0 dX9_pass_17 rfl ?_
    refine g_istore_n C (lv' := [(2, .int 0), (0, .ref (base + a0)), (1, .int a1)]) dX9_pass_18 rfl (by decide) rfl ?_
    refine g_iconst C 0 dX9_pass_19 rfl ?_
    refine g_istore_n C (lv' := [(3, .int 0), (2, .int 0), (0, .ref (base + a0)), (1, .int a1)]) dX9_pass_20 rfl (by decide) rfl ?_
    refine g_sub (lv' := [(0, .ref (base + a0)), (1, .int a1), (2, .int 0), (3, .int 0)]) [2, 3, 1, 0] rfl ?_
    exact o_X9_pass_L21 C hr _ a0 a1 0 0 h4 E
  · refine g_bipush C (-2) dX9_pass_10 rfl ?_
    exact g_iret C dX9_pass_12 hr E
abbrev rm_X9_type : Room := { frames := 0, cells := 0, slots := 0, locals := 0 }
def s_X9_type (a0 : Nat) (a1 : Int32) (h : Hp) : Rv Int32 :=
  getI h a0 9 7 fun x1 =>
  if x1 = 60 then retI (-3) h
  else getR h a0 9 6 fun x2 =>
  getI h a0 9 7 fun x3 =>
  stI h x2 20 x3 a1 fun h =>
  getI h a0 9 7 fun x4 =>
  putI h a0 9 7 (x4 + 1) fun h =>
  getI h a0 9 7 fun x5 =>
  retI x5 h
set_option maxRecDepth 100000 in
set_option maxHeartbeats 4000000 in
theorem o_X9_type (l : Launch) (base : Nat) (D : va_G) (cA : Nat → ClassId) (a0 : Nat) (a1 : Int32) (h : Hp) (r : Int32) (h' : Hp) (E : s_X9_type a0 a1 h = some (r, h')) : Met l yX9_type (.code yX9_type cX9_type 2 (some .int) :: wsA) rm_X9_type (PcG base D cA [.ref (base + a0), .int a1] h) (QcI base D cA r h') 0 0 (AA base) := by
  refine g_met [.ref (base + a0), .int a1] (by decide) (Nat.le_of_ble_eq_true rfl) (fun p e s m args below meth c C hr hn => ?_)
  refine g_lv (lv' := [(0, .ref (base + a0)), (1, .int a1)]) rfl ?_
  unfold s_X9_type at E
  refine g_aload_n C 0 dX9_type_0 rfl rfl ?_
  refine g_getI C dX9_type_1 fl_X9_145 (by decide) (by decide) E (fun x1 E => ?_)
  refine g_bipush C 60 dX9_type_4 rfl ?_
  refine g_icmp_ne C 12 dX9_type_6 (by decide) E (fun E => ?_) (fun E => ?_)
  · refine g_aload_n C 0 dX9_type_12 rfl rfl ?_
    refine g_getR C dX9_type_13 fl_X9_22 rfl E (fun x2 E => ?_)
    refine g_aload_n C 0 dX9_type_16 rfl rfl ?_
    refine g_getI C dX9_type_17 fl_X9_145 (by decide) (by decide) E (fun x3 E => ?_)
    refine g_iload_n C 1 dX9_type_20 rfl rfl ?_
    refine g_iast C dX9_type_21 E (fun h4 E => ?_)
    refine g_aload_n C 0 dX9_type_22 rfl rfl ?_
    refine g_dup C dX9_type_23 rfl ?_
    refine g_getI C dX9_type_24 fl_X9_145 (by decide) (by decide) E (fun x5 E => ?_)
    refine g_iconst C 1 dX9_type_27 rfl ?_
    refine g_iadd C dX9_type_28 ?_
    refine g_putI C false dX9_type_29 fl_X9_145 fp_X9_9_7 (fun q => Bool.noConfusion q) rfl E (fun h6 E => ?_)
    refine g_aload_n C 0 dX9_type_32 rfl rfl ?_
    refine g_getI C dX9_type_33 fl_X9_145 (by decide) (by decide) E (fun x7 E => ?_)
    exact g_iret C dX9_type_36 hr E
  · refine g_bipush C (-3) dX9_type_9 rfl ?_
    exact g_iret C dX9_type_11 hr E
abbrev rm_X9_clearText : Room := { frames := 0, cells := 0, slots := 0, locals := 0 }
def s_X9_clearText (a0 : Nat) (h : Hp) : Rv Int32 :=
  getI h a0 9 7 fun x1 =>
  putI h a0 9 7 0 fun h =>
  retI x1 h
set_option maxRecDepth 100000 in
set_option maxHeartbeats 4000000 in
theorem o_X9_clearText (l : Launch) (base : Nat) (D : va_G) (cA : Nat → ClassId) (a0 : Nat) (h : Hp) (r : Int32) (h' : Hp) (E : s_X9_clearText a0 h = some (r, h')) : Met l yX9_clearText (.code yX9_clearText cX9_clearText 2 (some .int) :: wsA) rm_X9_clearText (PcG base D cA [.ref (base + a0)] h) (QcI base D cA r h') 0 0 (AA base) := by
  refine g_met [.ref (base + a0)] (by decide) (Nat.le_of_ble_eq_true rfl) (fun p e s m args below meth c C hr hn => ?_)
  refine g_lv (lv' := [(0, .ref (base + a0))]) rfl ?_
  unfold s_X9_clearText at E
  refine g_aload_n C 0 dX9_clearText_0 rfl rfl ?_
  refine g_getI C dX9_clearText_1 fl_X9_145 (by decide) (by decide) E (fun x1 E => ?_)
  refine g_istore_n C (lv' := [(1, .int x1), (0, .ref (base + a0))]) dX9_clearText_4 rfl (by decide) rfl ?_
  refine g_aload_n C 1 dX9_clearText_5 rfl rfl ?_
  refine g_iconst C 0 dX9_clearText_6 rfl ?_
  refine g_putI C false dX9_clearText_7 fl_X9_145 fp_X9_9_7 (fun q => Bool.noConfusion q) rfl E (fun h2 E => ?_)
  refine g_iload_n C 0 dX9_clearText_10 rfl rfl ?_
  exact g_iret C dX9_clearText_11 hr E
abbrev rm_X9_character : Room := { frames := 0, cells := 0, slots := 0, locals := 0 }
def s_X9_character (a0 : Nat) (a1 : Int32) (h : Hp) : Rv Int32 :=
  getI h a0 9 7 fun x1 =>
  if x1 ≤ a1 then retI (-1) h
  else getR h a0 9 6 fun x2 =>
  ldI h x2 20 a1 fun x3 =>
  retI x3 h
set_option maxRecDepth 100000 in
set_option maxHeartbeats 4000000 in
theorem o_X9_character (l : Launch) (base : Nat) (D : va_G) (cA : Nat → ClassId) (a0 : Nat) (a1 : Int32) (h : Hp) (r : Int32) (h' : Hp) (E : s_X9_character a0 a1 h = some (r, h')) : Met l yX9_character (.code yX9_character cX9_character 2 (some .int) :: wsA) rm_X9_character (PcG base D cA [.ref (base + a0), .int a1] h) (QcI base D cA r h') 0 0 (AA base) := by
  refine g_met [.ref (base + a0), .int a1] (by decide) (Nat.le_of_ble_eq_true rfl) (fun p e s m args below meth c C hr hn => ?_)
  refine g_lv (lv' := [(0, .ref (base + a0)), (1, .int a1)]) rfl ?_
  unfold s_X9_character at E
  refine g_iload_n C 1 dX9_character_0 rfl rfl ?_
  refine g_aload_n C 0 dX9_character_1 rfl rfl ?_
  refine g_getI C dX9_character_2 fl_X9_145 (by decide) (by decide) E (fun x1 E => ?_)
  refine g_icmp_ge C 17 dX9_character_5 (by decide) E (fun E => ?_) (fun E => ?_)
  · refine g_iconst C (-1) dX9_character_17 rfl ?_
    exact g_iret C dX9_character_18 hr E
  · refine g_aload_n C 0 dX9_character_8 rfl rfl ?_
    refine g_getR C dX9_character_9 fl_X9_22 rfl E (fun x2 E => ?_)
    refine g_iload_n C 1 dX9_character_12 rfl rfl ?_
    refine g_iald C dX9_character_13 E (fun x3 E => ?_)
    refine g_goto C 18 dX9_character_14 (by decide) ?_
    exact g_iret C dX9_character_18 hr E
abbrev rm_X9_readText : Room := { frames := 1, cells := 0, slots := 0, locals := 22 }
def s_X9_readText_J129 (k9 : Nat → Int32 → Int32 → Hp → Rv Int32) (v0 : Nat) (v1 : Int32) (v2 : Int32) (v3 : Int32) (v4 : Int32) (h : Hp) : Rv Int32 :=
  getR h v0 9 11 fun x2 =>
  getI h v0 9 10 fun x3 =>
  stI h x2 20 x3 v3 fun h =>
  getR h v0 9 12 fun x4 =>
  getI h v0 9 10 fun x5 =>
  stI h x4 20 x5 v4 fun h =>
  getI h v0 9 10 fun x6 =>
  putI h v0 9 10 (x6 + 1) fun h =>
  getI h v0 9 7 fun x7 =>
  if v1 = x7 then retI (-5) h
  else inv h v0 9 (s_X9_character v0 v1 h) fun x8 h =>
  if x8 = 59 then k9 v0 (v1 + 1) (v2 + 1) h
  else retI v1 h
def s_X9_readText_J53 (k9 : Nat → Int32 → Int32 → Hp → Rv Int32) (v0 : Nat) (v1 : Int32) (v2 : Int32) (v3 : Int32) (h : Hp) : Rv Int32 :=
  if v3 = 100 then s_X9_readText_J129 (fun y0 y1 y2 h => k9 y0 y1 y2 h) v0 (v1 + 1) v2 v3 0 h
  else inv h v0 9 (s_X9_character v0 (v1 + 1) h) fun x9 h =>
  bnd (s_X9_within x9 49 57 h) fun x10 h =>
  if x10 = 0 then retI (v1 + 1) h
  else inv h v0 9 (s_X9_character v0 (v1 + 1) h) fun x11 h =>
  inv h v0 9 (s_X9_character v0 ((v1 + 1) + 1) h) fun x12 h =>
  bnd (s_X9_within x12 48 57 h) fun x13 h =>
  if x13 = 0 then s_X9_readText_J129 (fun y0 y1 y2 h => k9 y0 y1 y2 h) v0 ((v1 + 1) + 1) v2 v3 (x11 - 48) h
  else inv h v0 9 (s_X9_character v0 ((v1 + 1) + 1) h) fun x14 h =>
  s_X9_readText_J129 (fun y0 y1 y2 h => k9 y0 y1 y2 h) v0 (((v1 + 1) + 1) + 1) v2 v3 (((10 * (x11 - 48)) + x14) - 48) h
def s_X9_readText_L9 : Nat → Nat → Int32 → Int32 → Hp → Rv Int32
  | 0, _, _, _, _ => none
  | n + 1, v0, v1, v2, h =>
    if 60 < v2 then retI v1 h
  else inv h v0 9 (s_X9_character v0 v1 h) fun x1 h =>
  if x1 = 102 then s_X9_readText_J53 (fun y0 y1 y2 h => s_X9_readText_L9 n y0 y1 y2 h) v0 v1 v2 x1 h
  else if x1 = 104 then s_X9_readText_J53 (fun y0 y1 y2 h => s_X9_readText_L9 n y0 y1 y2 h) v0 v1 v2 x1 h
  else if x1 = 119 then s_X9_readText_J53 (fun y0 y1 y2 h => s_X9_readText_L9 n y0 y1 y2 h) v0 v1 v2 x1 h
  else if x1 = 100 then s_X9_readText_J53 (fun y0 y1 y2 h => s_X9_readText_L9 n y0 y1 y2 h) v0 v1 v2 x1 h
  else if x1 = 115 then s_X9_readText_J53 (fun y0 y1 y2 h => s_X9_readText_L9 n y0 y1 y2 h) v0 v1 v2 x1 h
  else retI v1 h
def s_X9_readText (a0 : Nat) (h : Hp) : Rv Int32 :=
  putI h a0 9 10 0 fun h =>
  s_X9_readText_L9 100000 a0 0 0 h
set_option maxRecDepth 100000 in
set_option maxHeartbeats 4000000 in
theorem o_X9_readText_J129 {l : Launch} {base : Nat} {D : va_G} {cA : Nat → ClassId} {p : Program} {e : Env} {s : State} {m : MethodId} {args : Array Value} {below : List Frame} {meth : Method} {c : Code} (C : GC base D cA p s m args meth c cX9_readText 5 RX9) (hr : meth.sig.returnType = (some .int)) {X : Int32 × Hp} {k9 : Nat → Int32 → Int32 → Hp → Rv Int32} (K9 : ∀ (y0 : Nat) (y1 : Int32) (y2 : Int32) (h : Hp), k9 y0 y1 y2 h = some X → GW base D cA p l e rm_X9_readText s m args below meth c (MQ below (QcI base D cA X.1 X.2) args s 0 0 (AA base)) 5 h 0 0 9 [(0, .ref (base + y0)), (1, .int y1), (2, .int y2)] []) : ∀ (v0 : Nat) (v1 : Int32) (v2 : Int32) (v3 : Int32) (v4 : Int32) (h : Hp), s_X9_readText_J129 k9 v0 v1 v2 v3 v4 h = some X → GW base D cA p l e rm_X9_readText s m args below meth c (MQ below (QcI base D cA X.1 X.2) args s 0 0 (AA base)) 5 h 0 0 129 [(0, .ref (base + v0)), (1, .int v1), (2, .int v2), (3, .int v3), (4, .int v4)] [] := by
  intro v0 v1 v2 v3 v4 h E
  unfold s_X9_readText_J129 at E
  refine g_aload_n C 0 dX9_readText_129 rfl rfl ?_
  refine g_getR C dX9_readText_130 fl_X9_31 rfl E (fun x1 E => ?_)
  refine g_aload_n C 0 dX9_readText_133 rfl rfl ?_
  refine g_getI C dX9_readText_134 fl_X9_148 (by decide) (by decide) E (fun x2 E => ?_)
  refine g_iload_n C 3 dX9_readText_137 rfl rfl ?_
  refine g_iast C dX9_readText_138 E (fun h3 E => ?_)
  refine g_aload_n C 0 dX9_readText_139 rfl rfl ?_
  refine g_getR C dX9_readText_140 fl_X9_34 rfl E (fun x4 E => ?_)
  refine g_aload_n C 0 dX9_readText_143 rfl rfl ?_
  refine g_getI C dX9_readText_144 fl_X9_148 (by decide) (by decide) E (fun x5 E => ?_)
  refine g_iload C 4 dX9_readText_147 rfl ?_
  refine g_iast C dX9_readText_149 E (fun h6 E => ?_)
  refine g_aload_n C 0 dX9_readText_150 rfl rfl ?_
  refine g_dup C dX9_readText_151 rfl ?_
  refine g_getI C dX9_readText_152 fl_X9_148 (by decide) (by decide) E (fun x7 E => ?_)
  refine g_iconst C 1 dX9_readText_155 rfl ?_
  refine g_iadd C dX9_readText_156 ?_
  refine g_putI C false dX9_readText_157 fl_X9_148 fp_X9_9_10 (fun q => Bool.noConfusion q) rfl E (fun h8 E => ?_)
  refine g_iload_n C 1 dX9_readText_160 rfl rfl ?_
  refine g_aload_n C 0 dX9_readText_161 rfl rfl ?_
  refine g_getI C dX9_readText_162 fl_X9_145 (by decide) (by decide) E (fun x9 E => ?_)
  refine g_icmp_ne C 171 dX9_readText_165 (by decide) E (fun E => ?_) (fun E => ?_)
  · refine g_aload_n C 0 dX9_readText_171 rfl rfl ?_
    refine g_iload_n C 1 dX9_readText_172 rfl rfl ?_
    refine g_invI C (q := (RX9, TX9, 13)) [.int v1] dX9_readText_173 cl_X9_151 cv_X9_character rfl (by decide) rfl rfl ⟨Nat.le_of_ble_eq_true rfl, Nat.le_of_ble_eq_true rfl⟩ (Nat.le_of_ble_eq_true rfl) ⟨Nat.le_of_ble_eq_true rfl, Nat.le_of_ble_eq_true rfl⟩ rfl (fun r' h' E => o_X9_character l base D cA v0 v1 h8 r' h' E) E (fun x10 h11 E => ?_)
    refine g_bipush C 59 dX9_readText_176 rfl ?_
    refine g_icmp_eq C 183 dX9_readText_178 (by decide) E (fun E => ?_) (fun E => ?_)
    · refine g_iinc C (lv' := [(1, .int (v1 + 1)), (0, .ref (base + v0)), (2, .int v2), (3, .int v3), (4, .int v4)]) 1 1 dX9_readText_183 rfl rfl (by decide) rfl ?_
      refine g_iinc C (lv' := [(2, .int (v2 + 1)), (1, .int (v1 + 1)), (0, .ref (base + v0)), (3, .int v3), (4, .int v4)]) 2 1 dX9_readText_186 rfl rfl (by decide) rfl ?_
      refine g_goto C 9 dX9_readText_189 (by decide) ?_
      refine g_sub (lv' := [(0, .ref (base + v0)), (1, .int (v1 + 1)), (2, .int (v2 + 1))]) [2, 1, 0] rfl ?_
      exact K9 v0 (v1 + 1) (v2 + 1) h11 E
    · refine g_iload_n C 1 dX9_readText_181 rfl rfl ?_
      exact g_iret C dX9_readText_182 hr E
  · refine g_bipush C (-5) dX9_readText_168 rfl ?_
    exact g_iret C dX9_readText_170 hr E
set_option maxRecDepth 100000 in
set_option maxHeartbeats 4000000 in
theorem o_X9_readText_J53 {l : Launch} {base : Nat} {D : va_G} {cA : Nat → ClassId} {p : Program} {e : Env} {s : State} {m : MethodId} {args : Array Value} {below : List Frame} {meth : Method} {c : Code} (C : GC base D cA p s m args meth c cX9_readText 5 RX9) (hr : meth.sig.returnType = (some .int)) {X : Int32 × Hp} {k9 : Nat → Int32 → Int32 → Hp → Rv Int32} (K9 : ∀ (y0 : Nat) (y1 : Int32) (y2 : Int32) (h : Hp), k9 y0 y1 y2 h = some X → GW base D cA p l e rm_X9_readText s m args below meth c (MQ below (QcI base D cA X.1 X.2) args s 0 0 (AA base)) 5 h 0 0 9 [(0, .ref (base + y0)), (1, .int y1), (2, .int y2)] []) : ∀ (v0 : Nat) (v1 : Int32) (v2 : Int32) (v3 : Int32) (h : Hp), s_X9_readText_J53 k9 v0 v1 v2 v3 h = some X → GW base D cA p l e rm_X9_readText s m args below meth c (MQ below (QcI base D cA X.1 X.2) args s 0 0 (AA base)) 5 h 0 0 53 [(0, .ref (base + v0)), (1, .int v1), (2, .int v2), (3, .int v3)] [] := by
  intro v0 v1 v2 v3 h E
  unfold s_X9_readText_J53 at E
  refine g_iinc C (lv' := [(1, .int (v1 + 1)), (0, .ref (base + v0)), (2, .int v2), (3, .int v3)]) 1 1 dX9_readText_53 rfl rfl (by decide) rfl ?_
  refine g_iconst C 0 dX9_readText_56 rfl ?_
  refine g_istore C (lv' := [(4, .int 0), (1, .int (v1 + 1)), (0, .ref (base + v0)), (2, .int v2), (3, .int v3)]) dX9_readText_57 (by decide) rfl ?_
  refine g_iload_n C 4 dX9_readText_59 rfl rfl ?_
  refine g_bipush C 100 dX9_readText_60 rfl ?_
  refine g_icmp_eq C 129 dX9_readText_62 (by decide) E (fun E => ?_) (fun E => ?_)
  · refine g_sub (lv' := [(0, .ref (base + v0)), (1, .int (v1 + 1)), (2, .int v2), (3, .int v3), (4, .int 0)]) [2, 1, 3, 4, 0] rfl ?_
    refine o_X9_readText_J129 C hr ?_ v0 (v1 + 1) v2 v3 0 h E
    · intro y1 y2 y3 h4 E
      refine g_sub (lv' := [(0, .ref (base + y1)), (1, .int y2), (2, .int y3)]) [0, 1, 2] rfl ?_
      exact K9 y1 y2 y3 h4 E
  · refine g_aload_n C 2 dX9_readText_65 rfl rfl ?_
    refine g_iload_n C 1 dX9_readText_66 rfl rfl ?_
    refine g_invI C (q := (RX9, TX9, 13)) [.int (v1 + 1)] dX9_readText_67 cl_X9_151 cv_X9_character rfl (by decide) rfl rfl ⟨Nat.le_of_ble_eq_true rfl, Nat.le_of_ble_eq_true rfl⟩ (Nat.le_of_ble_eq_true rfl) ⟨Nat.le_of_ble_eq_true rfl, Nat.le_of_ble_eq_true rfl⟩ rfl (fun r' h' E => o_X9_character l base D cA v0 (v1 + 1) h r' h' E) E (fun x5 h6 E => ?_)
    refine g_bipush C 49 dX9_readText_70 rfl ?_
    refine g_bipush C 57 dX9_readText_72 rfl ?_
    refine g_staI C [.int x5, .int 49, .int 57] dX9_readText_74 cl_X9_45 cs_X9_within rfl rfl ⟨Nat.le_of_ble_eq_true rfl, Nat.le_of_ble_eq_true rfl⟩ (Nat.le_of_ble_eq_true rfl) ⟨Nat.le_of_ble_eq_true rfl, Nat.le_of_ble_eq_true rfl⟩ rfl (fun r' h' E => o_X9_within l base D cA x5 49 57 h6 r' h' E) E (fun x7 h8 E => ?_)
    refine g_if_ne C 82 dX9_readText_77 (by decide) E (fun E => ?_) (fun E => ?_)
    · refine g_aload_n C 2 dX9_readText_82 rfl rfl ?_
      refine g_iload_n C 1 dX9_readText_83 rfl rfl ?_
      refine g_invI C (q := (RX9, TX9, 13)) [.int (v1 + 1)] dX9_readText_84 cl_X9_151 cv_X9_character rfl (by decide) rfl rfl ⟨Nat.le_of_ble_eq_true rfl, Nat.le_of_ble_eq_true rfl⟩ (Nat.le_of_ble_eq_true rfl) ⟨Nat.le_of_ble_eq_true rfl, Nat.le_of_ble_eq_true rfl⟩ rfl (fun r' h' E => o_X9_character l base D cA v0 (v1 + 1) h8 r' h' E) E (fun x9 h10 E => ?_)
      refine g_bipush C 48 dX9_readText_87 rfl ?_
      refine g_isub C dX9_readText_89 ?_
      refine g_istore C (lv' := [(4, .int (x9 - 48)), (1, .int (v1 + 1)), (0, .ref (base + v0)), (2, .int v2), (3, .int v3)]) dX9_readText_90 (by decide) rfl ?_
      refine g_iinc C (lv' := [(1, .int ((v1 + 1) + 1)), (4, .int (x9 - 48)), (0, .ref (base + v0)), (2, .int v2), (3, .int v3)]) 1 1 dX9_readText_92 rfl rfl (by decide) rfl ?_
      refine g_aload_n C 2 dX9_readText_95 rfl rfl ?_
      refine g_iload_n C 0 dX9_readText_96 rfl rfl ?_
      refine g_invI C (q := (RX9, TX9, 13)) [.int ((v1 + 1) + 1)] dX9_readText_97 cl_X9_151 cv_X9_character rfl (by decide) rfl rfl ⟨Nat.le_of_ble_eq_true rfl, Nat.le_of_ble_eq_true rfl⟩ (Nat.le_of_ble_eq_true rfl) ⟨Nat.le_of_ble_eq_true rfl, Nat.le_of_ble_eq_true rfl⟩ rfl (fun r' h' E => o_X9_character l base D cA v0 ((v1 + 1) + 1) h10 r' h' E) E (fun x11 h12 E => ?_)
      refine g_bipush C 48 dX9_readText_100 rfl ?_
      refine g_bipush C 57 dX9_readText_102 rfl ?_
      refine g_staI C [.int x11, .int 48, .int 57] dX9_readText_104 cl_X9_45 cs_X9_within rfl rfl ⟨Nat.le_of_ble_eq_true rfl, Nat.le_of_ble_eq_true rfl⟩ (Nat.le_of_ble_eq_true rfl) ⟨Nat.le_of_ble_eq_true rfl, Nat.le_of_ble_eq_true rfl⟩ rfl (fun r' h' E => o_X9_within l base D cA x11 48 57 h12 r' h' E) E (fun x13 h14 E => ?_)
      refine g_if_eq C 129 dX9_readText_107 (by decide) E (fun E => ?_) (fun E => ?_)
      · refine g_sub (lv' := [(0, .ref (base + v0)), (1, .int ((v1 + 1) + 1)), (2, .int v2), (3, .int v3), (4, .int (x9 - 48))]) [2, 0, 3, 4, 1] rfl ?_
        refine o_X9_readText_J129 C hr ?_ v0 ((v1 + 1) + 1) v2 v3 (x9 - 48) h14 E
        · intro y15 y16 y17 h18 E
          refine g_sub (lv' := [(0, .ref (base + y15)), (1, .int y16), (2, .int y17)]) [0, 1, 2] rfl ?_
          exact K9 y15 y16 y17 h18 E
      · refine g_bipush C 10 dX9_readText_110 rfl ?_
        refine g_iload C 1 dX9_readText_112 rfl ?_
        refine g_imul C dX9_readText_114 ?_
        refine g_aload_n C 2 dX9_readText_115 rfl rfl ?_
        refine g_iload_n C 0 dX9_readText_116 rfl rfl ?_
        refine g_invI C (q := (RX9, TX9, 13)) [.int ((v1 + 1) + 1)] dX9_readText_117 cl_X9_151 cv_X9_character rfl (by decide) rfl rfl ⟨Nat.le_of_ble_eq_true rfl, Nat.le_of_ble_eq_true rfl⟩ (Nat.le_of_ble_eq_true rfl) ⟨Nat.le_of_ble_eq_true rfl, Nat.le_of_ble_eq_true rfl⟩ rfl (fun r' h' E => o_X9_character l base D cA v0 ((v1 + 1) + 1) h14 r' h' E) E (fun x19 h20 E => ?_)
        refine g_iadd C dX9_readText_120 ?_
        refine g_bipush C 48 dX9_readText_121 rfl ?_
        refine g_isub C dX9_readText_123 ?_
        refine g_istore C (lv' := [(4, .int (((10 * (x9 - 48)) + x19) - 48)), (1, .int ((v1 + 1) + 1)), (0, .ref (base + v0)), (2, .int v2), (3, .int v3)]) dX9_readText_124 (by decide) rfl ?_
        refine g_iinc C (lv' := [(1, .int (((v1 + 1) + 1) + 1)), (4, .int (((10 * (x9 - 48)) + x19) - 48)), (0, .ref (base + v0)), (2, .int v2), (3, .int v3)]) 1 1 dX9_readText_126 rfl rfl (by decide) rfl ?_
        refine g_sub (lv' := [(0, .ref (base + v0)), (1, .int (((v1 + 1) + 1) + 1)), (2, .int v2), (3, .int v3), (4, .int (((10 * (x9 - 48)) + x19) - 48))]) [2, 0, 3, 4, 1] rfl ?_
        refine o_X9_readText_J129 C hr ?_ v0 (((v1 + 1) + 1) + 1) v2 v3 (((10 * (x9 - 48)) + x19) - 48) h20 E
        · intro y21 y22 y23 h24 E
          refine g_sub (lv' := [(0, .ref (base + y21)), (1, .int y22), (2, .int y23)]) [0, 1, 2] rfl ?_
          exact K9 y21 y22 y23 h24 E
    · refine g_iload_n C 1 dX9_readText_80 rfl rfl ?_
      exact g_iret C dX9_readText_81 hr E
set_option maxRecDepth 100000 in
set_option maxHeartbeats 4000000 in
theorem o_X9_readText_L9 {l : Launch} {base : Nat} {D : va_G} {cA : Nat → ClassId} {p : Program} {e : Env} {s : State} {m : MethodId} {args : Array Value} {below : List Frame} {meth : Method} {c : Code} (C : GC base D cA p s m args meth c cX9_readText 5 RX9) (hr : meth.sig.returnType = (some .int)) {X : Int32 × Hp} : ∀ (n : Nat) (v0 : Nat) (v1 : Int32) (v2 : Int32) (h : Hp), s_X9_readText_L9 n v0 v1 v2 h = some X → GW base D cA p l e rm_X9_readText s m args below meth c (MQ below (QcI base D cA X.1 X.2) args s 0 0 (AA base)) 5 h 0 0 9 [(0, .ref (base + v0)), (1, .int v1), (2, .int v2)] [] := by
  intro n
  induction n with
  | zero =>
    intro v0 v1 v2 h E
    rw [s_X9_readText_L9] at E
    cases E
  | succ n ih =>
    intro v0 v1 v2 h E
    rw [s_X9_readText_L9] at E
    refine g_iload_n C 2 dX9_readText_9 rfl rfl ?_
    refine g_bipush C 60 dX9_readText_10 rfl ?_
    refine g_icmp_gt C 192 dX9_readText_12 (by decide) E (fun E => ?_) (fun E => ?_)
    · refine g_iload_n C 1 dX9_readText_192 rfl rfl ?_
      exact g_iret C dX9_readText_193 hr E
    · refine g_aload_n C 0 dX9_readText_15 rfl rfl ?_
      refine g_iload_n C 1 dX9_readText_16 rfl rfl ?_
      refine g_invI C (q := (RX9, TX9, 13)) [.int v1] dX9_readText_17 cl_X9_151 cv_X9_character rfl (by decide) rfl rfl ⟨Nat.le_of_ble_eq_true rfl, Nat.le_of_ble_eq_true rfl⟩ (Nat.le_of_ble_eq_true rfl) ⟨Nat.le_of_ble_eq_true rfl, Nat.le_of_ble_eq_true rfl⟩ rfl (fun r' h' E => o_X9_character l base D cA v0 v1 h r' h' E) E (fun x1 h2 E => ?_)
      refine g_istore_n C (lv' := [(3, .int x1), (0, .ref (base + v0)), (1, .int v1), (2, .int v2)]) dX9_readText_20 rfl (by decide) rfl ?_
      refine g_iload_n C 0 dX9_readText_21 rfl rfl ?_
      refine g_bipush C 102 dX9_readText_22 rfl ?_
      refine g_icmp_eq C 53 dX9_readText_24 (by decide) E (fun E => ?_) (fun E => ?_)
      · refine g_sub (lv' := [(0, .ref (base + v0)), (1, .int v1), (2, .int v2), (3, .int x1)]) [1, 2, 3, 0] rfl ?_
        refine o_X9_readText_J53 C hr ?_ v0 v1 v2 x1 h2 E
        · intro y3 y4 y5 h6 E
          refine g_sub (lv' := [(0, .ref (base + y3)), (1, .int y4), (2, .int y5)]) [0, 1, 2] rfl ?_
          exact ih y3 y4 y5 h6 E
      · refine g_iload_n C 0 dX9_readText_27 rfl rfl ?_
        refine g_bipush C 104 dX9_readText_28 rfl ?_
        refine g_icmp_eq C 53 dX9_readText_30 (by decide) E (fun E => ?_) (fun E => ?_)
        · refine g_sub (lv' := [(0, .ref (base + v0)), (1, .int v1), (2, .int v2), (3, .int x1)]) [1, 2, 3, 0] rfl ?_
          refine o_X9_readText_J53 C hr ?_ v0 v1 v2 x1 h2 E
          · intro y7 y8 y9 h10 E
            refine g_sub (lv' := [(0, .ref (base + y7)), (1, .int y8), (2, .int y9)]) [0, 1, 2] rfl ?_
            exact ih y7 y8 y9 h10 E
        · refine g_iload_n C 0 dX9_readText_33 rfl rfl ?_
          refine g_bipush C 119 dX9_readText_34 rfl ?_
          refine g_icmp_eq C 53 dX9_readText_36 (by decide) E (fun E => ?_) (fun E => ?_)
          · refine g_sub (lv' := [(0, .ref (base + v0)), (1, .int v1), (2, .int v2), (3, .int x1)]) [1, 2, 3, 0] rfl ?_
            refine o_X9_readText_J53 C hr ?_ v0 v1 v2 x1 h2 E
            · intro y11 y12 y13 h14 E
              refine g_sub (lv' := [(0, .ref (base + y11)), (1, .int y12), (2, .int y13)]) [0, 1, 2] rfl ?_
              exact ih y11 y12 y13 h14 E
          · refine g_iload_n C 0 dX9_readText_39 rfl rfl ?_
            refine g_bipush C 100 dX9_readText_40 rfl ?_
            refine g_icmp_eq C 53 dX9_readText_42 (by decide) E (fun E => ?_) (fun E => ?_)
            · refine g_sub (lv' := [(0, .ref (base + v0)), (1, .int v1), (2, .int v2), (3, .int x1)]) [1, 2, 3, 0] rfl ?_
              refine o_X9_readText_J53 C hr ?_ v0 v1 v2 x1 h2 E
              · intro y15 y16 y17 h18 E
                refine g_sub (lv' := [(0, .ref (base + y15)), (1, .int y16), (2, .int y17)]) [0, 1, 2] rfl ?_
                exact ih y15 y16 y17 h18 E
            · refine g_iload_n C 0 dX9_readText_45 rfl rfl ?_
              refine g_bipush C 115 dX9_readText_46 rfl ?_
              refine g_icmp_eq C 53 dX9_readText_48 (by decide) E (fun E => ?_) (fun E => ?_)
              · refine g_sub (lv' := [(0, .ref (base + v0)), (1, .int v1), (2, .int v2), (3, .int x1)]) [1, 2, 3, 0] rfl ?_
                refine o_X9_readText_J53 C hr ?_ v0 v1 v2 x1 h2 E
                · intro y19 y20 y21 h22 E
                  refine g_sub (lv' := [(0, .ref (base + y19)), (1, .int y20), (2, .int y21)]) [0, 1, 2] rfl ?_
                  exact ih y19 y20 y21 h22 E
              · refine g_iload_n C 2 dX9_readText_51 rfl rfl ?_
                exact g_iret C dX9_readText_52 hr E
set_option maxRecDepth 100000 in
set_option maxHeartbeats 4000000 in
theorem o_X9_readText (l : Launch) (base : Nat) (D : va_G) (cA : Nat → ClassId) (a0 : Nat) (h : Hp) (r : Int32) (h' : Hp) (E : s_X9_readText a0 h = some (r, h')) : Met l yX9_readText (.code yX9_readText cX9_readText 5 (some .int) :: wsA) rm_X9_readText (PcG base D cA [.ref (base + a0)] h) (QcI base D cA r h') 0 0 (AA base) := by
  refine g_met [.ref (base + a0)] (by decide) (Nat.le_of_ble_eq_true rfl) (fun p e s m args below meth c C hr hn => ?_)
  refine g_lv (lv' := [(0, .ref (base + a0))]) rfl ?_
  unfold s_X9_readText at E
  refine g_iconst C 0 dX9_readText_0 rfl ?_
  refine g_istore_n C (lv' := [(1, .int 0), (0, .ref (base + a0))]) dX9_readText_1 rfl (by decide) rfl ?_
  refine g_aload_n C 1 dX9_readText_2 rfl rfl ?_
  refine g_iconst C 0 dX9_readText_3 rfl ?_
  refine g_putI C false dX9_readText_4 fl_X9_148 fp_X9_9_10 (fun q => Bool.noConfusion q) rfl E (fun h1 E => ?_)
  refine g_iconst C 0 dX9_readText_7 rfl ?_
  refine g_istore_n C (lv' := [(2, .int 0), (1, .int 0), (0, .ref (base + a0))]) dX9_readText_8 rfl (by decide) rfl ?_
  refine g_sub (lv' := [(0, .ref (base + a0)), (1, .int 0), (2, .int 0)]) [2, 1, 0] rfl ?_
  exact o_X9_readText_L9 C hr _ a0 0 0 h1 E
