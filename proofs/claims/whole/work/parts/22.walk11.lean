abbrev rm_X9_count : Room := { frames := 3, cells := 0, slots := 0, locals := 68 }
def s_X9_count_L4 (k28 : Nat → Int32 → Int32 → Hp → Rv Int32) : Nat → Nat → Int32 → Int32 → Int32 → Hp → Rv Int32
  | 0, _, _, _, _, _ => none
  | n + 1, v0, v1, v2, v3, h =>
    getR h v0 9 0 fun x1 =>
  ldI h x1 20 2 fun x2 =>
  if x2 ≤ v3 then k28 v0 v1 v2 h
  else inv h v0 9 (s_X9_sharesOf v0 v3 h) fun x3 h =>
  s_X9_count_L4 k28 n v0 v1 (v2 + x3) (v3 + 1) h
def s_X9_count (a0 : Nat) (a1 : Int32) (h : Hp) : Rv Int32 :=
  s_X9_count_L4 (fun y0 y1 y2 h => if y1 = 0 then getR h y0 9 0 fun x4 =>
  ldI h x4 20 (0 + y1) fun x5 =>
  retI x5 h
  else if y1 = 1 then getR h y0 9 0 fun x6 =>
  ldI h x6 20 (0 + y1) fun x7 =>
  retI x7 h
  else if y1 = 2 then getR h y0 9 0 fun x8 =>
  ldI h x8 20 (0 + y1) fun x9 =>
  retI x9 h
  else if y1 = 3 then inv h y0 9 (s_X9_washersIn y0 1 h) fun x10 h =>
  retI x10 h
  else if y1 = 4 then inv h y0 9 (s_X9_washersIn y0 2 h) fun x11 h =>
  retI x11 h
  else if y1 = 5 then inv h y0 9 (s_X9_doorsThat y0 2 h) fun x12 h =>
  retI x12 h
  else if y1 = 6 then inv h y0 9 (s_X9_doorsThat y0 0 h) fun x13 h =>
  retI x13 h
  else if y1 = 7 then getR h y0 9 0 fun x14 =>
  ldI h x14 20 ((8 + y1) - 7) fun x15 =>
  retI x15 h
  else if y1 = 8 then getR h y0 9 0 fun x16 =>
  ldI h x16 20 ((8 + y1) - 7) fun x17 =>
  retI x17 h
  else if y1 = 9 then getR h y0 9 0 fun x18 =>
  ldI h x18 20 ((8 + y1) - 7) fun x19 =>
  retI x19 h
  else if y1 = 10 then getR h y0 9 0 fun x20 =>
  ldI h x20 20 ((8 + y1) - 7) fun x21 =>
  retI x21 h
  else if y1 = 11 then getR h y0 9 0 fun x22 =>
  ldI h x22 20 ((8 + y1) - 7) fun x23 =>
  retI x23 h
  else if y1 = 12 then retI y2 h
  else if y1 = 13 then getI h y0 9 5 fun x24 =>
  retI x24 h
  else if y1 = 14 then getI h y0 9 7 fun x25 =>
  retI x25 h
  else retI (-2) h) 100000 a0 a1 0 0 h
set_option maxRecDepth 100000 in
set_option maxHeartbeats 4000000 in
theorem o_X9_count_L4 {l : Launch} {base : Nat} {D : va_G} {cA : Nat → ClassId} {p : Program} {e : Env} {s : State} {m : MethodId} {args : Array Value} {below : List Frame} {meth : Method} {c : Code} (C : GC base D cA p s m args meth c cX9_count 4 RX9) (hr : meth.sig.returnType = (some .int)) {X : Int32 × Hp} {k28 : Nat → Int32 → Int32 → Hp → Rv Int32} (K28 : ∀ (y0 : Nat) (y1 : Int32) (y2 : Int32) (h : Hp), k28 y0 y1 y2 h = some X → GW base D cA p l e rm_X9_count s m args below meth c (MQ below (QcI base D cA X.1 X.2) args s 0 0 (AA base)) 4 h 0 0 28 [(0, .ref (base + y0)), (1, .int y1), (2, .int y2)] []) : ∀ (n : Nat) (v0 : Nat) (v1 : Int32) (v2 : Int32) (v3 : Int32) (h : Hp), s_X9_count_L4 k28 n v0 v1 v2 v3 h = some X → GW base D cA p l e rm_X9_count s m args below meth c (MQ below (QcI base D cA X.1 X.2) args s 0 0 (AA base)) 4 h 0 0 4 [(0, .ref (base + v0)), (1, .int v1), (2, .int v2), (3, .int v3)] [] := by
  intro n
  induction n with
  | zero =>
    intro v0 v1 v2 v3 h E
    rw [s_X9_count_L4] at E
    cases E
  | succ n ih =>
    intro v0 v1 v2 v3 h E
    rw [s_X9_count_L4] at E
    refine g_iload_n C 3 dX9_count_4 rfl rfl ?_
    refine g_aload_n C 0 dX9_count_5 rfl rfl ?_
    refine g_getR C dX9_count_6 fl_X9_7 rfl E (fun x1 E => ?_)
    refine g_iconst C 2 dX9_count_9 rfl ?_
    refine g_iald C dX9_count_10 E (fun x2 E => ?_)
    refine g_icmp_ge C 28 dX9_count_11 (by decide) E (fun E => ?_) (fun E => ?_)
    · refine g_sub (lv' := [(0, .ref (base + v0)), (1, .int v1), (2, .int v2)]) [0, 1, 2] rfl ?_
      exact K28 v0 v1 v2 h E
    · refine g_iload_n C 2 dX9_count_14 rfl rfl ?_
      refine g_aload_n C 0 dX9_count_15 rfl rfl ?_
      refine g_iload_n C 3 dX9_count_16 rfl rfl ?_
      refine g_invI C (q := (RX9, TX9, 13)) [.int v3] dX9_count_17 cl_X9_91 cv_X9_sharesOf rfl (by decide) rfl rfl ⟨Nat.le_of_ble_eq_true rfl, Nat.le_of_ble_eq_true rfl⟩ (Nat.le_of_ble_eq_true rfl) ⟨Nat.le_of_ble_eq_true rfl, Nat.le_of_ble_eq_true rfl⟩ rfl (fun r' h' E => o_X9_sharesOf l base D cA v0 v3 h r' h' E) E (fun x3 h4 E => ?_)
      refine g_iadd C dX9_count_20 ?_
      refine g_istore_n C (lv' := [(2, .int (v2 + x3)), (0, .ref (base + v0)), (1, .int v1), (3, .int v3)]) dX9_count_21 rfl (by decide) rfl ?_
      refine g_iinc C (lv' := [(3, .int (v3 + 1)), (2, .int (v2 + x3)), (0, .ref (base + v0)), (1, .int v1)]) 3 1 dX9_count_22 rfl rfl (by decide) rfl ?_
      refine g_goto C 4 dX9_count_25 (by decide) ?_
      refine g_sub (lv' := [(0, .ref (base + v0)), (1, .int v1), (2, .int (v2 + x3)), (3, .int (v3 + 1))]) [2, 3, 1, 0] rfl ?_
      exact ih v0 v1 (v2 + x3) (v3 + 1) h4 E
set_option maxRecDepth 100000 in
set_option maxHeartbeats 4000000 in
theorem o_X9_count (l : Launch) (base : Nat) (D : va_G) (cA : Nat → ClassId) (a0 : Nat) (a1 : Int32) (h : Hp) (r : Int32) (h' : Hp) (E : s_X9_count a0 a1 h = some (r, h')) : Met l yX9_count (.code yX9_count cX9_count 4 (some .int) :: wsA) rm_X9_count (PcG base D cA [.ref (base + a0), .int a1] h) (QcI base D cA r h') 0 0 (AA base) := by
  refine g_met [.ref (base + a0), .int a1] (by decide) (Nat.le_of_ble_eq_true rfl) (fun p e s m args below meth c C hr hn => ?_)
  refine g_lv (lv' := [(0, .ref (base + a0)), (1, .int a1)]) rfl ?_
  unfold s_X9_count at E
  refine g_iconst C 0 dX9_count_0 rfl ?_
  refine g_istore_n C (lv' := [(2, .int 0), (0, .ref (base + a0)), (1, .int a1)]) dX9_count_1 rfl (by decide) rfl ?_
  refine g_iconst C 0 dX9_count_2 rfl ?_
  refine g_istore_n C (lv' := [(3, .int 0), (2, .int 0), (0, .ref (base + a0)), (1, .int a1)]) dX9_count_3 rfl (by decide) rfl ?_
  refine g_sub (lv' := [(0, .ref (base + a0)), (1, .int a1), (2, .int 0), (3, .int 0)]) [2, 3, 1, 0] rfl ?_
  refine o_X9_count_L4 C hr ?_ _ a0 a1 0 0 h E
  · intro y1 y2 y3 h4 E
    refine g_iload_n C 1 dX9_count_28 rfl rfl ?_
    by_cases q5 : y2 = 0
    · rw [if_pos q5] at E
      refine g_tswIn C 0 104 q5 dX9_count_29 (by decide) (by decide) rfl (by decide) ?_
      refine g_aload_n C 0 dX9_count_104 rfl rfl ?_
      refine g_getR C dX9_count_105 fl_X9_7 rfl E (fun x6 E => ?_)
      refine g_iconst C 0 dX9_count_108 rfl ?_
      refine g_iload_n C 1 dX9_count_109 rfl rfl ?_
      refine g_iadd C dX9_count_110 ?_
      refine g_iald C dX9_count_111 E (fun x7 E => ?_)
      exact g_iret C dX9_count_112 hr E
    rw [if_neg q5] at E
    by_cases q8 : y2 = 1
    · rw [if_pos q8] at E
      refine g_tswIn C 1 104 q8 dX9_count_29 (by decide) (by decide) rfl (by decide) ?_
      refine g_aload_n C 0 dX9_count_104 rfl rfl ?_
      refine g_getR C dX9_count_105 fl_X9_7 rfl E (fun x9 E => ?_)
      refine g_iconst C 0 dX9_count_108 rfl ?_
      refine g_iload_n C 1 dX9_count_109 rfl rfl ?_
      refine g_iadd C dX9_count_110 ?_
      refine g_iald C dX9_count_111 E (fun x10 E => ?_)
      exact g_iret C dX9_count_112 hr E
    rw [if_neg q8] at E
    by_cases q11 : y2 = 2
    · rw [if_pos q11] at E
      refine g_tswIn C 2 104 q11 dX9_count_29 (by decide) (by decide) rfl (by decide) ?_
      refine g_aload_n C 0 dX9_count_104 rfl rfl ?_
      refine g_getR C dX9_count_105 fl_X9_7 rfl E (fun x12 E => ?_)
      refine g_iconst C 0 dX9_count_108 rfl ?_
      refine g_iload_n C 1 dX9_count_109 rfl rfl ?_
      refine g_iadd C dX9_count_110 ?_
      refine g_iald C dX9_count_111 E (fun x13 E => ?_)
      exact g_iret C dX9_count_112 hr E
    rw [if_neg q11] at E
    by_cases q14 : y2 = 3
    · rw [if_pos q14] at E
      refine g_tswIn C 3 113 q14 dX9_count_29 (by decide) (by decide) rfl (by decide) ?_
      refine g_aload_n C 0 dX9_count_113 rfl rfl ?_
      refine g_iconst C 1 dX9_count_114 rfl ?_
      refine g_invI C (q := (RX9, TX9, 13)) [.int 1] dX9_count_115 cl_X9_85 cv_X9_washersIn rfl (by decide) rfl rfl ⟨Nat.le_of_ble_eq_true rfl, Nat.le_of_ble_eq_true rfl⟩ (Nat.le_of_ble_eq_true rfl) ⟨Nat.le_of_ble_eq_true rfl, Nat.le_of_ble_eq_true rfl⟩ rfl (fun r' h' E => o_X9_washersIn l base D cA y1 1 h4 r' h' E) E (fun x15 h16 E => ?_)
      exact g_iret C dX9_count_118 hr E
    rw [if_neg q14] at E
    by_cases q17 : y2 = 4
    · rw [if_pos q17] at E
      refine g_tswIn C 4 119 q17 dX9_count_29 (by decide) (by decide) rfl (by decide) ?_
      refine g_aload_n C 0 dX9_count_119 rfl rfl ?_
      refine g_iconst C 2 dX9_count_120 rfl ?_
      refine g_invI C (q := (RX9, TX9, 13)) [.int 2] dX9_count_121 cl_X9_85 cv_X9_washersIn rfl (by decide) rfl rfl ⟨Nat.le_of_ble_eq_true rfl, Nat.le_of_ble_eq_true rfl⟩ (Nat.le_of_ble_eq_true rfl) ⟨Nat.le_of_ble_eq_true rfl, Nat.le_of_ble_eq_true rfl⟩ rfl (fun r' h' E => o_X9_washersIn l base D cA y1 2 h4 r' h' E) E (fun x18 h19 E => ?_)
      exact g_iret C dX9_count_124 hr E
    rw [if_neg q17] at E
    by_cases q20 : y2 = 5
    · rw [if_pos q20] at E
      refine g_tswIn C 5 125 q20 dX9_count_29 (by decide) (by decide) rfl (by decide) ?_
      refine g_aload_n C 0 dX9_count_125 rfl rfl ?_
      refine g_iconst C 2 dX9_count_126 rfl ?_
      refine g_invI C (q := (RX9, TX9, 13)) [.int 2] dX9_count_127 cl_X9_179 cv_X9_doorsThat rfl (by decide) rfl rfl ⟨Nat.le_of_ble_eq_true rfl, Nat.le_of_ble_eq_true rfl⟩ (Nat.le_of_ble_eq_true rfl) ⟨Nat.le_of_ble_eq_true rfl, Nat.le_of_ble_eq_true rfl⟩ rfl (fun r' h' E => o_X9_doorsThat l base D cA y1 2 h4 r' h' E) E (fun x21 h22 E => ?_)
      exact g_iret C dX9_count_130 hr E
    rw [if_neg q20] at E
    by_cases q23 : y2 = 6
    · rw [if_pos q23] at E
      refine g_tswIn C 6 131 q23 dX9_count_29 (by decide) (by decide) rfl (by decide) ?_
      refine g_aload_n C 0 dX9_count_131 rfl rfl ?_
      refine g_iconst C 0 dX9_count_132 rfl ?_
      refine g_invI C (q := (RX9, TX9, 13)) [.int 0] dX9_count_133 cl_X9_179 cv_X9_doorsThat rfl (by decide) rfl rfl ⟨Nat.le_of_ble_eq_true rfl, Nat.le_of_ble_eq_true rfl⟩ (Nat.le_of_ble_eq_true rfl) ⟨Nat.le_of_ble_eq_true rfl, Nat.le_of_ble_eq_true rfl⟩ rfl (fun r' h' E => o_X9_doorsThat l base D cA y1 0 h4 r' h' E) E (fun x24 h25 E => ?_)
      exact g_iret C dX9_count_136 hr E
    rw [if_neg q23] at E
    by_cases q26 : y2 = 7
    · rw [if_pos q26] at E
      refine g_tswIn C 7 137 q26 dX9_count_29 (by decide) (by decide) rfl (by decide) ?_
      refine g_aload_n C 0 dX9_count_137 rfl rfl ?_
      refine g_getR C dX9_count_138 fl_X9_7 rfl E (fun x27 E => ?_)
      refine g_bipush C 8 dX9_count_141 rfl ?_
      refine g_iload_n C 1 dX9_count_143 rfl rfl ?_
      refine g_iadd C dX9_count_144 ?_
      refine g_bipush C 7 dX9_count_145 rfl ?_
      refine g_isub C dX9_count_147 ?_
      refine g_iald C dX9_count_148 E (fun x28 E => ?_)
      exact g_iret C dX9_count_149 hr E
    rw [if_neg q26] at E
    by_cases q29 : y2 = 8
    · rw [if_pos q29] at E
      refine g_tswIn C 8 137 q29 dX9_count_29 (by decide) (by decide) rfl (by decide) ?_
      refine g_aload_n C 0 dX9_count_137 rfl rfl ?_
      refine g_getR C dX9_count_138 fl_X9_7 rfl E (fun x30 E => ?_)
      refine g_bipush C 8 dX9_count_141 rfl ?_
      refine g_iload_n C 1 dX9_count_143 rfl rfl ?_
      refine g_iadd C dX9_count_144 ?_
      refine g_bipush C 7 dX9_count_145 rfl ?_
      refine g_isub C dX9_count_147 ?_
      refine g_iald C dX9_count_148 E (fun x31 E => ?_)
      exact g_iret C dX9_count_149 hr E
    rw [if_neg q29] at E
    by_cases q32 : y2 = 9
    · rw [if_pos q32] at E
      refine g_tswIn C 9 137 q32 dX9_count_29 (by decide) (by decide) rfl (by decide) ?_
      refine g_aload_n C 0 dX9_count_137 rfl rfl ?_
      refine g_getR C dX9_count_138 fl_X9_7 rfl E (fun x33 E => ?_)
      refine g_bipush C 8 dX9_count_141 rfl ?_
      refine g_iload_n C 1 dX9_count_143 rfl rfl ?_
      refine g_iadd C dX9_count_144 ?_
      refine g_bipush C 7 dX9_count_145 rfl ?_
      refine g_isub C dX9_count_147 ?_
      refine g_iald C dX9_count_148 E (fun x34 E => ?_)
      exact g_iret C dX9_count_149 hr E
    rw [if_neg q32] at E
    by_cases q35 : y2 = 10
    · rw [if_pos q35] at E
      refine g_tswIn C 10 137 q35 dX9_count_29 (by decide) (by decide) rfl (by decide) ?_
      refine g_aload_n C 0 dX9_count_137 rfl rfl ?_
      refine g_getR C dX9_count_138 fl_X9_7 rfl E (fun x36 E => ?_)
      refine g_bipush C 8 dX9_count_141 rfl ?_
      refine g_iload_n C 1 dX9_count_143 rfl rfl ?_
      refine g_iadd C dX9_count_144 ?_
      refine g_bipush C 7 dX9_count_145 rfl ?_
      refine g_isub C dX9_count_147 ?_
      refine g_iald C dX9_count_148 E (fun x37 E => ?_)
      exact g_iret C dX9_count_149 hr E
    rw [if_neg q35] at E
    by_cases q38 : y2 = 11
    · rw [if_pos q38] at E
      refine g_tswIn C 11 137 q38 dX9_count_29 (by decide) (by decide) rfl (by decide) ?_
      refine g_aload_n C 0 dX9_count_137 rfl rfl ?_
      refine g_getR C dX9_count_138 fl_X9_7 rfl E (fun x39 E => ?_)
      refine g_bipush C 8 dX9_count_141 rfl ?_
      refine g_iload_n C 1 dX9_count_143 rfl rfl ?_
      refine g_iadd C dX9_count_144 ?_
      refine g_bipush C 7 dX9_count_145 rfl ?_
      refine g_isub C dX9_count_147 ?_
      refine g_iald C dX9_count_148 E (fun x40 E => ?_)
      exact g_iret C dX9_count_149 hr E
    rw [if_neg q38] at E
    by_cases q41 : y2 = 12
    · rw [if_pos q41] at E
      refine g_tswIn C 12 150 q41 dX9_count_29 (by decide) (by decide) rfl (by decide) ?_
      refine g_iload_n C 2 dX9_count_150 rfl rfl ?_
      exact g_iret C dX9_count_151 hr E
    rw [if_neg q41] at E
    by_cases q42 : y2 = 13
    · rw [if_pos q42] at E
      refine g_tswIn C 13 152 q42 dX9_count_29 (by decide) (by decide) rfl (by decide) ?_
      refine g_aload_n C 0 dX9_count_152 rfl rfl ?_
      refine g_getI C dX9_count_153 fl_X9_37 (by decide) (by decide) E (fun x43 E => ?_)
      exact g_iret C dX9_count_156 hr E
    rw [if_neg q42] at E
    by_cases q44 : y2 = 14
    · rw [if_pos q44] at E
      refine g_tswIn C 14 157 q44 dX9_count_29 (by decide) (by decide) rfl (by decide) ?_
      refine g_aload_n C 0 dX9_count_157 rfl rfl ?_
      refine g_getI C dX9_count_158 fl_X9_145 (by decide) (by decide) E (fun x45 E => ?_)
      exact g_iret C dX9_count_161 hr E
    rw [if_neg q44] at E
    refine g_tswDf C 162 dX9_count_29 (fun z z1 z2 zx => ?_) (by decide) ?_
    · rcases (show z = 0 ∨ z = 1 ∨ z = 2 ∨ z = 3 ∨ z = 4 ∨ z = 5 ∨ z = 6 ∨ z = 7 ∨ z = 8 ∨ z = 9 ∨ z = 10 ∨ z = 11 ∨ z = 12 ∨ z = 13 ∨ z = 14 by omega) with rfl | rfl | rfl | rfl | rfl | rfl | rfl | rfl | rfl | rfl | rfl | rfl | rfl | rfl | rfl
      · exact absurd zx (lv_neT q5 (by decide))
      · exact absurd zx (lv_neT q8 (by decide))
      · exact absurd zx (lv_neT q11 (by decide))
      · exact absurd zx (lv_neT q14 (by decide))
      · exact absurd zx (lv_neT q17 (by decide))
      · exact absurd zx (lv_neT q20 (by decide))
      · exact absurd zx (lv_neT q23 (by decide))
      · exact absurd zx (lv_neT q26 (by decide))
      · exact absurd zx (lv_neT q29 (by decide))
      · exact absurd zx (lv_neT q32 (by decide))
      · exact absurd zx (lv_neT q35 (by decide))
      · exact absurd zx (lv_neT q38 (by decide))
      · exact absurd zx (lv_neT q41 (by decide))
      · exact absurd zx (lv_neT q42 (by decide))
      · exact absurd zx (lv_neT q44 (by decide))
    refine g_bipush C (-2) dX9_count_162 rfl ?_
    exact g_iret C dX9_count_164 hr E
