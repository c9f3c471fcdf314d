abbrev rm_X9_washer : Room := { frames := 2, cells := 0, slots := 0, locals := 43 }
def s_X9_washer_J25 (v0 : Nat) (v1 : Int32) (v2 : Int32) (w0 : Int32) (h : Hp) : Rv Int32 :=
  if v2 = 0 then inv h v0 9 (s_X9_part v0 v1 9 h) fun x3 h =>
  retI x3 h
  else if v2 = 1 then if w0 = 0 then inv h v0 9 (s_X9_part v0 v1 10 h) fun x4 h =>
  retI x4 h
  else retI (-5) h
  else if v2 = 2 then inv h v0 9 (s_X9_part v0 v1 11 h) fun x5 h =>
  retI x5 h
  else if v2 = 3 then inv h v0 9 (s_X9_temperature v0 v1 h) fun x6 h =>
  retI x6 h
  else if v2 = 4 then inv h v0 9 (s_X9_part v0 v1 12 h) fun x7 h =>
  retI x7 h
  else if v2 = 5 then inv h v0 9 (s_X9_part v0 v1 13 h) fun x8 h =>
  retI x8 h
  else if v2 = 6 then if w0 = 0 then inv h v0 9 (s_X9_part v0 v1 14 h) fun x9 h =>
  retI x9 h
  else retI (-5) h
  else if v2 = 7 then inv h v0 9 (s_X9_part v0 v1 15 h) fun x10 h =>
  retI x10 h
  else if v2 = 8 then inv h v0 9 (s_X9_part v0 v1 17 h) fun x11 h =>
  retI x11 h
  else retI (-2) h
def s_X9_washer (a0 : Nat) (a1 : Int32) (a2 : Int32) (h : Hp) : Rv Int32 :=
  inv h a0 9 (s_X9_isHouse a0 a1 h) fun x1 h =>
  if x1 = 0 then retI (-1) h
  else inv h a0 9 (s_X9_part a0 a1 9 h) fun x2 h =>
  if x2 = 0 then s_X9_washer_J25 a0 a1 a2 1 h
  else s_X9_washer_J25 a0 a1 a2 0 h
set_option maxRecDepth 100000 in
set_option maxHeartbeats 4000000 in
theorem o_X9_washer_J25 {l : Launch} {base : Nat} {D : va_G} {cA : Nat → ClassId} {p : Program} {e : Env} {s : State} {m : MethodId} {args : Array Value} {below : List Frame} {meth : Method} {c : Code} (C : GC base D cA p s m args meth c cX9_washer 4 RX9) (hr : meth.sig.returnType = (some .int)) {X : Int32 × Hp} : ∀ (v0 : Nat) (v1 : Int32) (v2 : Int32) (w0 : Int32) (h : Hp), s_X9_washer_J25 v0 v1 v2 w0 h = some X → GW base D cA p l e rm_X9_washer s m args below meth c (MQ below (QcI base D cA X.1 X.2) args s 0 0 (AA base)) 4 h 0 0 25 [(0, .ref (base + v0)), (1, .int v1), (2, .int v2)] [.int w0] := by
  intro v0 v1 v2 w0 h E
  unfold s_X9_washer_J25 at E
  refine g_istore_n C (lv' := [(3, .int w0), (0, .ref (base + v0)), (1, .int v1), (2, .int v2)]) dX9_washer_25 rfl (by decide) rfl ?_
  refine g_iload_n C 3 dX9_washer_26 rfl rfl ?_
  by_cases q1 : v2 = 0
  · rw [if_pos q1] at E
    refine g_tswIn C 0 76 q1 dX9_washer_27 (by decide) (by decide) rfl (by decide) ?_
    refine g_aload_n C 1 dX9_washer_76 rfl rfl ?_
    refine g_iload_n C 2 dX9_washer_77 rfl rfl ?_
    refine g_bipush C 9 dX9_washer_78 rfl ?_
    refine g_invI C (q := (RX9, TX9, 13)) [.int v1, .int 9] dX9_washer_80 cl_X9_49 cv_X9_part rfl (by decide) rfl rfl ⟨Nat.le_of_ble_eq_true rfl, Nat.le_of_ble_eq_true rfl⟩ (Nat.le_of_ble_eq_true rfl) ⟨Nat.le_of_ble_eq_true rfl, Nat.le_of_ble_eq_true rfl⟩ rfl (fun r' h' E => o_X9_part l base D cA v0 v1 9 h r' h' E) E (fun x2 h3 E => ?_)
    exact g_iret C dX9_washer_83 hr E
  rw [if_neg q1] at E
  by_cases q4 : v2 = 1
  · rw [if_pos q4] at E
    refine g_tswIn C 1 84 q4 dX9_washer_27 (by decide) (by decide) rfl (by decide) ?_
    refine g_iload_n C 0 dX9_washer_84 rfl rfl ?_
    refine g_if_eq C 93 dX9_washer_85 (by decide) E (fun E => ?_) (fun E => ?_)
    · refine g_aload_n C 1 dX9_washer_93 rfl rfl ?_
      refine g_iload_n C 2 dX9_washer_94 rfl rfl ?_
      refine g_bipush C 10 dX9_washer_95 rfl ?_
      refine g_invI C (q := (RX9, TX9, 13)) [.int v1, .int 10] dX9_washer_97 cl_X9_49 cv_X9_part rfl (by decide) rfl rfl ⟨Nat.le_of_ble_eq_true rfl, Nat.le_of_ble_eq_true rfl⟩ (Nat.le_of_ble_eq_true rfl) ⟨Nat.le_of_ble_eq_true rfl, Nat.le_of_ble_eq_true rfl⟩ rfl (fun r' h' E => o_X9_part l base D cA v0 v1 10 h r' h' E) E (fun x5 h6 E => ?_)
      exact g_iret C dX9_washer_100 hr E
    · refine g_bipush C (-5) dX9_washer_88 rfl ?_
      refine g_goto C 100 dX9_washer_90 (by decide) ?_
      exact g_iret C dX9_washer_100 hr E
  rw [if_neg q4] at E
  by_cases q7 : v2 = 2
  · rw [if_pos q7] at E
    refine g_tswIn C 2 101 q7 dX9_washer_27 (by decide) (by decide) rfl (by decide) ?_
    refine g_aload_n C 1 dX9_washer_101 rfl rfl ?_
    refine g_iload_n C 2 dX9_washer_102 rfl rfl ?_
    refine g_bipush C 11 dX9_washer_103 rfl ?_
    refine g_invI C (q := (RX9, TX9, 13)) [.int v1, .int 11] dX9_washer_105 cl_X9_49 cv_X9_part rfl (by decide) rfl rfl ⟨Nat.le_of_ble_eq_true rfl, Nat.le_of_ble_eq_true rfl⟩ (Nat.le_of_ble_eq_true rfl) ⟨Nat.le_of_ble_eq_true rfl, Nat.le_of_ble_eq_true rfl⟩ rfl (fun r' h' E => o_X9_part l base D cA v0 v1 11 h r' h' E) E (fun x8 h9 E => ?_)
    exact g_iret C dX9_washer_108 hr E
  rw [if_neg q7] at E
  by_cases q10 : v2 = 3
  · rw [if_pos q10] at E
    refine g_tswIn C 3 109 q10 dX9_washer_27 (by decide) (by decide) rfl (by decide) ?_
    refine g_aload_n C 1 dX9_washer_109 rfl rfl ?_
    refine g_iload_n C 2 dX9_washer_110 rfl rfl ?_
    refine g_invI C (q := (RX9, TX9, 13)) [.int v1] dX9_washer_111 cl_X9_68 cv_X9_temperature rfl (by decide) rfl rfl ⟨Nat.le_of_ble_eq_true rfl, Nat.le_of_ble_eq_true rfl⟩ (Nat.le_of_ble_eq_true rfl) ⟨Nat.le_of_ble_eq_true rfl, Nat.le_of_ble_eq_true rfl⟩ rfl (fun r' h' E => o_X9_temperature l base D cA v0 v1 h r' h' E) E (fun x11 h12 E => ?_)
    exact g_iret C dX9_washer_114 hr E
  rw [if_neg q10] at E
  by_cases q13 : v2 = 4
  · rw [if_pos q13] at E
    refine g_tswIn C 4 115 q13 dX9_washer_27 (by decide) (by decide) rfl (by decide) ?_
    refine g_aload_n C 1 dX9_washer_115 rfl rfl ?_
    refine g_iload_n C 2 dX9_washer_116 rfl rfl ?_
    refine g_bipush C 12 dX9_washer_117 rfl ?_
    refine g_invI C (q := (RX9, TX9, 13)) [.int v1, .int 12] dX9_washer_119 cl_X9_49 cv_X9_part rfl (by decide) rfl rfl ⟨Nat.le_of_ble_eq_true rfl, Nat.le_of_ble_eq_true rfl⟩ (Nat.le_of_ble_eq_true rfl) ⟨Nat.le_of_ble_eq_true rfl, Nat.le_of_ble_eq_true rfl⟩ rfl (fun r' h' E => o_X9_part l base D cA v0 v1 12 h r' h' E) E (fun x14 h15 E => ?_)
    exact g_iret C dX9_washer_122 hr E
  rw [if_neg q13] at E
  by_cases q16 : v2 = 5
  · rw [if_pos q16] at E
    refine g_tswIn C 5 123 q16 dX9_washer_27 (by decide) (by decide) rfl (by decide) ?_
    refine g_aload_n C 1 dX9_washer_123 rfl rfl ?_
    refine g_iload_n C 2 dX9_washer_124 rfl rfl ?_
    refine g_bipush C 13 dX9_washer_125 rfl ?_
    refine g_invI C (q := (RX9, TX9, 13)) [.int v1, .int 13] dX9_washer_127 cl_X9_49 cv_X9_part rfl (by decide) rfl rfl ⟨Nat.le_of_ble_eq_true rfl, Nat.le_of_ble_eq_true rfl⟩ (Nat.le_of_ble_eq_true rfl) ⟨Nat.le_of_ble_eq_true rfl, Nat.le_of_ble_eq_true rfl⟩ rfl (fun r' h' E => o_X9_part l base D cA v0 v1 13 h r' h' E) E (fun x17 h18 E => ?_)
    exact g_iret C dX9_washer_130 hr E
  rw [if_neg q16] at E
  by_cases q19 : v2 = 6
  · rw [if_pos q19] at E
    refine g_tswIn C 6 131 q19 dX9_washer_27 (by decide) (by decide) rfl (by decide) ?_
    refine g_iload_n C 0 dX9_washer_131 rfl rfl ?_
    refine g_if_eq C 140 dX9_washer_132 (by decide) E (fun E => ?_) (fun E => ?_)
    · refine g_aload_n C 1 dX9_washer_140 rfl rfl ?_
      refine g_iload_n C 2 dX9_washer_141 rfl rfl ?_
      refine g_bipush C 14 dX9_washer_142 rfl ?_
      refine g_invI C (q := (RX9, TX9, 13)) [.int v1, .int 14] dX9_washer_144 cl_X9_49 cv_X9_part rfl (by decide) rfl rfl ⟨Nat.le_of_ble_eq_true rfl, Nat.le_of_ble_eq_true rfl⟩ (Nat.le_of_ble_eq_true rfl) ⟨Nat.le_of_ble_eq_true rfl, Nat.le_of_ble_eq_true rfl⟩ rfl (fun r' h' E => o_X9_part l base D cA v0 v1 14 h r' h' E) E (fun x20 h21 E => ?_)
      exact g_iret C dX9_washer_147 hr E
    · refine g_bipush C (-5) dX9_washer_135 rfl ?_
      refine g_goto C 147 dX9_washer_137 (by decide) ?_
      exact g_iret C dX9_washer_147 hr E
  rw [if_neg q19] at E
  by_cases q22 : v2 = 7
  · rw [if_pos q22] at E
    refine g_tswIn C 7 148 q22 dX9_washer_27 (by decide) (by decide) rfl (by decide) ?_
    refine g_aload_n C 1 dX9_washer_148 rfl rfl ?_
    refine g_iload_n C 2 dX9_washer_149 rfl rfl ?_
    refine g_bipush C 15 dX9_washer_150 rfl ?_
    refine g_invI C (q := (RX9, TX9, 13)) [.int v1, .int 15] dX9_washer_152 cl_X9_49 cv_X9_part rfl (by decide) rfl rfl ⟨Nat.le_of_ble_eq_true rfl, Nat.le_of_ble_eq_true rfl⟩ (Nat.le_of_ble_eq_true rfl) ⟨Nat.le_of_ble_eq_true rfl, Nat.le_of_ble_eq_true rfl⟩ rfl (fun r' h' E => o_X9_part l base D cA v0 v1 15 h r' h' E) E (fun x23 h24 E => ?_)
    exact g_iret C dX9_washer_155 hr E
  rw [if_neg q22] at E
  by_cases q25 : v2 = 8
  · rw [if_pos q25] at E
    refine g_tswIn C 8 156 q25 dX9_washer_27 (by decide) (by decide) rfl (by decide) ?_
    refine g_aload_n C 1 dX9_washer_156 rfl rfl ?_
    refine g_iload_n C 2 dX9_washer_157 rfl rfl ?_
    refine g_bipush C 17 dX9_washer_158 rfl ?_
    refine g_invI C (q := (RX9, TX9, 13)) [.int v1, .int 17] dX9_washer_160 cl_X9_49 cv_X9_part rfl (by decide) rfl rfl ⟨Nat.le_of_ble_eq_true rfl, Nat.le_of_ble_eq_true rfl⟩ (Nat.le_of_ble_eq_true rfl) ⟨Nat.le_of_ble_eq_true rfl, Nat.le_of_ble_eq_true rfl⟩ rfl (fun r' h' E => o_X9_part l base D cA v0 v1 17 h r' h' E) E (fun x26 h27 E => ?_)
    exact g_iret C dX9_washer_163 hr E
  rw [if_neg q25] at E
  refine g_tswDf C 164 dX9_washer_27 (fun z z1 z2 zx => ?_) (by decide) ?_
  · rcases (show z = 0 ∨ z = 1 ∨ z = 2 ∨ z = 3 ∨ z = 4 ∨ z = 5 ∨ z = 6 ∨ z = 7 ∨ z = 8 by omega) with rfl | rfl | rfl | rfl | rfl | rfl | rfl | rfl | rfl
    · exact absurd zx (lv_neT q1 (by decide))
    · exact absurd zx (lv_neT q4 (by decide))
    · exact absurd zx (lv_neT q7 (by decide))
    · exact absurd zx (lv_neT q10 (by decide))
    · exact absurd zx (lv_neT q13 (by decide))
    · exact absurd zx (lv_neT q16 (by decide))
    · exact absurd zx (lv_neT q19 (by decide))
    · exact absurd zx (lv_neT q22 (by decide))
    · exact absurd zx (lv_neT q25 (by decide))
  refine g_bipush C (-2) dX9_washer_164 rfl ?_
  exact g_iret C dX9_washer_166 hr E
set_option maxRecDepth 100000 in
set_option maxHeartbeats 4000000 in
theorem o_X9_washer (l : Launch) (base : Nat) (D : va_G) (cA : Nat → ClassId) (a0 : Nat) (a1 : Int32) (a2 : Int32) (h : Hp) (r : Int32) (h' : Hp) (E : s_X9_washer a0 a1 a2 h = some (r, h')) : Met l yX9_washer (.code yX9_washer cX9_washer 4 (some .int) :: wsA) rm_X9_washer (PcG base D cA [.ref (base + a0), .int a1, .int a2] h) (QcI base D cA r h') 0 0 (AA base) := by
  refine g_met [.ref (base + a0), .int a1, .int a2] (by decide) (Nat.le_of_ble_eq_true rfl) (fun p e s m args below meth c C hr hn => ?_)
  refine g_lv (lv' := [(0, .ref (base + a0)), (1, .int a1), (2, .int a2)]) rfl ?_
  unfold s_X9_washer at E
  refine g_aload_n C 0 dX9_washer_0 rfl rfl ?_
  refine g_iload_n C 1 dX9_washer_1 rfl rfl ?_
  refine g_invI C (q := (RX9, TX9, 13)) [.int a1] dX9_washer_2 cl_X9_154 cv_X9_isHouse rfl (by decide) rfl rfl ⟨Nat.le_of_ble_eq_true rfl, Nat.le_of_ble_eq_true rfl⟩ (Nat.le_of_ble_eq_true rfl) ⟨Nat.le_of_ble_eq_true rfl, Nat.le_of_ble_eq_true rfl⟩ rfl (fun r' h' E => o_X9_isHouse l base D cA a0 a1 h r' h' E) E (fun x1 h2 E => ?_)
  refine g_if_ne C 10 dX9_washer_5 (by decide) E (fun E => ?_) (fun E => ?_)
  · refine g_aload_n C 0 dX9_washer_10 rfl rfl ?_
    refine g_iload_n C 1 dX9_washer_11 rfl rfl ?_
    refine g_bipush C 9 dX9_washer_12 rfl ?_
    refine g_invI C (q := (RX9, TX9, 13)) [.int a1, .int 9] dX9_washer_14 cl_X9_49 cv_X9_part rfl (by decide) rfl rfl ⟨Nat.le_of_ble_eq_true rfl, Nat.le_of_ble_eq_true rfl⟩ (Nat.le_of_ble_eq_true rfl) ⟨Nat.le_of_ble_eq_true rfl, Nat.le_of_ble_eq_true rfl⟩ rfl (fun r' h' E => o_X9_part l base D cA a0 a1 9 h2 r' h' E) E (fun x3 h4 E => ?_)
    refine g_if_ne C 24 dX9_washer_17 (by decide) E (fun E => ?_) (fun E => ?_)
    · refine g_iconst C 0 dX9_washer_24 rfl ?_
      refine g_sub (lv' := [(0, .ref (base + a0)), (1, .int a1), (2, .int a2)]) [0, 1, 2] rfl ?_
      exact o_X9_washer_J25 C hr a0 a1 a2 0 h4 E
    · refine g_iconst C 1 dX9_washer_20 rfl ?_
      refine g_goto C 25 dX9_washer_21 (by decide) ?_
      refine g_sub (lv' := [(0, .ref (base + a0)), (1, .int a1), (2, .int a2)]) [0, 1, 2] rfl ?_
      exact o_X9_washer_J25 C hr a0 a1 a2 1 h4 E
  · refine g_iconst C (-1) dX9_washer_8 rfl ?_
    exact g_iret C dX9_washer_9 hr E
abbrev rm_X9_phase : Room := { frames := 2, cells := 0, slots := 0, locals := 43 }
def s_X9_phase (a0 : Nat) (a1 : Int32) (a2 : Int32) (a3 : Int32) (h : Hp) : Rv Int32 :=
  inv h a0 9 (s_X9_isHouse a0 a1 h) fun x1 h =>
  if x1 = 0 then retI (-1) h
  else inv h a0 9 (s_X9_part a0 a1 15 h) fun x2 h =>
  bnd (s_X9_within a2 0 (x2 - 1) h) fun x3 h =>
  if x3 = 0 then retI (-1) h
  else if a3 = 0 then inv h a0 9 (s_X9_part a0 a1 (18 + a2) h) fun x5 h =>
  retI x5 h
  else if a3 = 1 then inv h a0 9 (s_X9_part a0 a1 (30 + a2) h) fun x4 h =>
  retI x4 h
  else retI (-2) h
set_option maxRecDepth 100000 in
set_option maxHeartbeats 4000000 in
theorem o_X9_phase (l : Launch) (base : Nat) (D : va_G) (cA : Nat → ClassId) (a0 : Nat) (a1 : Int32) (a2 : Int32) (a3 : Int32) (h : Hp) (r : Int32) (h' : Hp) (E : s_X9_phase a0 a1 a2 a3 h = some (r, h')) : Met l yX9_phase (.code yX9_phase cX9_phase 4 (some .int) :: wsA) rm_X9_phase (PcG base D cA [.ref (base + a0), .int a1, .int a2, .int a3] h) (QcI base D cA r h') 0 0 (AA base) := by
  refine g_met [.ref (base + a0), .int a1, .int a2, .int a3] (by decide) (Nat.le_of_ble_eq_true rfl) (fun p e s m args below meth c C hr hn => ?_)
  refine g_lv (lv' := [(0, .ref (base + a0)), (1, .int a1), (2, .int a2), (3, .int a3)]) rfl ?_
  unfold s_X9_phase at E
  refine g_aload_n C 0 dX9_phase_0 rfl rfl ?_
  refine g_iload_n C 1 dX9_phase_1 rfl rfl ?_
  refine g_invI C (q := (RX9, TX9, 13)) [.int a1] dX9_phase_2 cl_X9_154 cv_X9_isHouse rfl (by decide) rfl rfl ⟨Nat.le_of_ble_eq_true rfl, Nat.le_of_ble_eq_true rfl⟩ (Nat.le_of_ble_eq_true rfl) ⟨Nat.le_of_ble_eq_true rfl, Nat.le_of_ble_eq_true rfl⟩ rfl (fun r' h' E => o_X9_isHouse l base D cA a0 a1 h r' h' E) E (fun x1 h2 E => ?_)
  refine g_if_eq C 25 dX9_phase_5 (by decide) E (fun E => ?_) (fun E => ?_)
  · refine g_iconst C (-1) dX9_phase_25 rfl ?_
    exact g_iret C dX9_phase_26 hr E
  · refine g_iload_n C 2 dX9_phase_8 rfl rfl ?_
    refine g_iconst C 0 dX9_phase_9 rfl ?_
    refine g_aload_n C 0 dX9_phase_10 rfl rfl ?_
    refine g_iload_n C 1 dX9_phase_11 rfl rfl ?_
    refine g_bipush C 15 dX9_phase_12 rfl ?_
    refine g_invI C (q := (RX9, TX9, 13)) [.int a1, .int 15] dX9_phase_14 cl_X9_49 cv_X9_part rfl (by decide) rfl rfl ⟨Nat.le_of_ble_eq_true rfl, Nat.le_of_ble_eq_true rfl⟩ (Nat.le_of_ble_eq_true rfl) ⟨Nat.le_of_ble_eq_true rfl, Nat.le_of_ble_eq_true rfl⟩ rfl (fun r' h' E => o_X9_part l base D cA a0 a1 15 h2 r' h' E) E (fun x3 h4 E => ?_)
    refine g_iconst C 1 dX9_phase_17 rfl ?_
    refine g_isub C dX9_phase_18 ?_
    refine g_staI C [.int a2, .int 0, .int (x3 - 1)] dX9_phase_19 cl_X9_45 cs_X9_within rfl rfl ⟨Nat.le_of_ble_eq_true rfl, Nat.le_of_ble_eq_true rfl⟩ (Nat.le_of_ble_eq_true rfl) ⟨Nat.le_of_ble_eq_true rfl, Nat.le_of_ble_eq_true rfl⟩ rfl (fun r' h' E => o_X9_within l base D cA a2 0 (x3 - 1) h4 r' h' E) E (fun x5 h6 E => ?_)
    refine g_if_ne C 27 dX9_phase_22 (by decide) E (fun E => ?_) (fun E => ?_)
    · refine g_iload_n C 3 dX9_phase_27 rfl rfl ?_
      refine g_if_ne C 43 dX9_phase_28 (by decide) E (fun E => ?_) (fun E => ?_)
      · refine g_iload_n C 3 dX9_phase_43 rfl rfl ?_
        refine g_iconst C 1 dX9_phase_44 rfl ?_
        refine g_icmp_ne C 60 dX9_phase_45 (by decide) E (fun E => ?_) (fun E => ?_)
        · refine g_bipush C (-2) dX9_phase_60 rfl ?_
          exact g_iret C dX9_phase_62 hr E
        · refine g_aload_n C 0 dX9_phase_48 rfl rfl ?_
          refine g_iload_n C 1 dX9_phase_49 rfl rfl ?_
          refine g_bipush C 30 dX9_phase_50 rfl ?_
          refine g_iload_n C 2 dX9_phase_52 rfl rfl ?_
          refine g_iadd C dX9_phase_53 ?_
          refine g_invI C (q := (RX9, TX9, 13)) [.int a1, .int (30 + a2)] dX9_phase_54 cl_X9_49 cv_X9_part rfl (by decide) rfl rfl ⟨Nat.le_of_ble_eq_true rfl, Nat.le_of_ble_eq_true rfl⟩ (Nat.le_of_ble_eq_true rfl) ⟨Nat.le_of_ble_eq_true rfl, Nat.le_of_ble_eq_true rfl⟩ rfl (fun r' h' E => o_X9_part l base D cA a0 a1 (30 + a2) h6 r' h' E) E (fun x7 h8 E => ?_)
          refine g_goto C 62 dX9_phase_57 (by decide) ?_
          exact g_iret C dX9_phase_62 hr E
      · refine g_aload_n C 0 dX9_phase_31 rfl rfl ?_
        refine g_iload_n C 1 dX9_phase_32 rfl rfl ?_
        refine g_bipush C 18 dX9_phase_33 rfl ?_
        refine g_iload_n C 2 dX9_phase_35 rfl rfl ?_
        refine g_iadd C dX9_phase_36 ?_
        refine g_invI C (q := (RX9, TX9, 13)) [.int a1, .int (18 + a2)] dX9_phase_37 cl_X9_49 cv_X9_part rfl (by decide) rfl rfl ⟨Nat.le_of_ble_eq_true rfl, Nat.le_of_ble_eq_true rfl⟩ (Nat.le_of_ble_eq_true rfl) ⟨Nat.le_of_ble_eq_true rfl, Nat.le_of_ble_eq_true rfl⟩ rfl (fun r' h' E => o_X9_part l base D cA a0 a1 (18 + a2) h6 r' h' E) E (fun x9 h10 E => ?_)
        refine g_goto C 62 dX9_phase_40 (by decide) ?_
        exact g_iret C dX9_phase_62 hr E
    · refine g_iconst C (-1) dX9_phase_25 rfl ?_
      exact g_iret C dX9_phase_26 hr E
abbrev rm_X9_boiler : Room := { frames := 3, cells := 0, slots := 0, locals := 65 }
def s_X9_boiler_L4 (k28 : Nat → Int32 → Int32 → Hp → Rv Int32) : Nat → Nat → Int32 → Int32 → Int32 → Hp → Rv Int32
  | 0, _, _, _, _, _ => none
  | n + 1, v0, v1, v2, v3, h =>
    getR h v0 9 0 fun x1 =>
  ldI h x1 20 2 fun x2 =>
  if x2 ≤ v3 then k28 v0 v1 v2 h
  else inv h v0 9 (s_X9_wantOf v0 v3 h) fun x3 h =>
  s_X9_boiler_L4 k28 n v0 v1 (v2 + x3) (v3 + 1) h
def s_X9_boiler (a0 : Nat) (a1 : Int32) (h : Hp) : Rv Int32 :=
  s_X9_boiler_L4 (fun y0 y1 y2 h => if y1 = 0 then getR h y0 9 0 fun x4 =>
  ldI h x4 20 7 fun x5 =>
  retI x5 h
  else if y1 = 1 then getR h y0 9 0 fun x6 =>
  ldI h x6 20 ((3 + y1) - 1) fun x7 =>
  retI x7 h
  else if y1 = 2 then getR h y0 9 0 fun x8 =>
  ldI h x8 20 ((3 + y1) - 1) fun x9 =>
  retI x9 h
  else if y1 = 3 then getR h y0 9 0 fun x10 =>
  ldI h x10 20 ((3 + y1) - 1) fun x11 =>
  retI x11 h
  else if y1 = 4 then getR h y0 9 0 fun x12 =>
  ldI h x12 20 13 fun x13 =>
  retI x13 h
  else if y1 = 5 then getR h y0 9 0 fun x14 =>
  ldI h x14 20 14 fun x15 =>
  retI x15 h
  else if y1 = 6 then retI y2 h
  else if y1 = 7 then getR h y0 9 0 fun x16 =>
  ldI h x16 20 6 fun x17 =>
  retI x17 h
  else retI (-2) h) 100000 a0 a1 0 0 h
set_option maxRecDepth 100000 in
set_option maxHeartbeats 4000000 in
theorem o_X9_boiler_L4 {l : Launch} {base : Nat} {D : va_G} {cA : Nat → ClassId} {p : Program} {e : Env} {s : State} {m : MethodId} {args : Array Value} {below : List Frame} {meth : Method} {c : Code} (C : GC base D cA p s m args meth c cX9_boiler 4 RX9) (hr : meth.sig.returnType = (some .int)) {X : Int32 × Hp} {k28 : Nat → Int32 → Int32 → Hp → Rv Int32} (K28 : ∀ (y0 : Nat) (y1 : Int32) (y2 : Int32) (h : Hp), k28 y0 y1 y2 h = some X → GW base D cA p l e rm_X9_boiler s m args below meth c (MQ below (QcI base D cA X.1 X.2) args s 0 0 (AA base)) 4 h 0 0 28 [(0, .ref (base + y0)), (1, .int y1), (2, .int y2)] []) : ∀ (n : Nat) (v0 : Nat) (v1 : Int32) (v2 : Int32) (v3 : Int32) (h : Hp), s_X9_boiler_L4 k28 n v0 v1 v2 v3 h = some X → GW base D cA p l e rm_X9_boiler s m args below meth c (MQ below (QcI base D cA X.1 X.2) args s 0 0 (AA base)) 4 h 0 0 4 [(0, .ref (base + v0)), (1, .int v1), (2, .int v2), (3, .int v3)] [] := by
  intro n
  induction n with
  | zero =>
    intro v0 v1 v2 v3 h E
    rw [s_X9_boiler_L4] at E
    cases E
  | succ n ih =>
    intro v0 v1 v2 v3 h E
    rw [s_X9_boiler_L4] at E
    refine g_iload_n C 3 dX9_boiler_4 rfl rfl ?_
    refine g_aload_n C 0 dX9_boiler_5 rfl rfl ?_
    refine g_getR C dX9_boiler_6 fl_X9_7 rfl E (fun x1 E => ?_)
    refine g_iconst C 2 dX9_boiler_9 rfl ?_
    refine g_iald C dX9_boiler_10 E (fun x2 E => ?_)
    refine g_icmp_ge C 28 dX9_boiler_11 (by decide) E (fun E => ?_) (fun E => ?_)
    · refine g_sub (lv' := [(0, .ref (base + v0)), (1, .int v1), (2, .int v2)]) [0, 1, 2] rfl ?_
      exact K28 v0 v1 v2 h E
    · refine g_iload_n C 2 dX9_boiler_14 rfl rfl ?_
      refine g_aload_n C 0 dX9_boiler_15 rfl rfl ?_
      refine g_iload_n C 3 dX9_boiler_16 rfl rfl ?_
      refine g_invI C (q := (RX9, TX9, 13)) [.int v3] dX9_boiler_17 cl_X9_94 cv_X9_wantOf rfl (by decide) rfl rfl ⟨Nat.le_of_ble_eq_true rfl, Nat.le_of_ble_eq_true rfl⟩ (Nat.le_of_ble_eq_true rfl) ⟨Nat.le_of_ble_eq_true rfl, Nat.le_of_ble_eq_true rfl⟩ rfl (fun r' h' E => o_X9_wantOf l base D cA v0 v3 h r' h' E) E (fun x3 h4 E => ?_)
      refine g_iadd C dX9_boiler_20 ?_
      refine g_istore_n C (lv' := [(2, .int (v2 + x3)), (0, .ref (base + v0)), (1, .int v1), (3, .int v3)]) dX9_boiler_21 rfl (by decide) rfl ?_
      refine g_iinc C (lv' := [(3, .int (v3 + 1)), (2, .int (v2 + x3)), (0, .ref (base + v0)), (1, .int v1)]) 3 1 dX9_boiler_22 rfl rfl (by decide) rfl ?_
      refine g_goto C 4 dX9_boiler_25 (by decide) ?_
      refine g_sub (lv' := [(0, .ref (base + v0)), (1, .int v1), (2, .int (v2 + x3)), (3, .int (v3 + 1))]) [2, 3, 1, 0] rfl ?_
      exact ih v0 v1 (v2 + x3) (v3 + 1) h4 E
set_option maxRecDepth 100000 in
set_option maxHeartbeats 4000000 in
theorem o_X9_boiler (l : Launch) (base : Nat) (D : va_G) (cA : Nat → ClassId) (a0 : Nat) (a1 : Int32) (h : Hp) (r : Int32) (h' : Hp) (E : s_X9_boiler a0 a1 h = some (r, h')) : Met l yX9_boiler (.code yX9_boiler cX9_boiler 4 (some .int) :: wsA) rm_X9_boiler (PcG base D cA [.ref (base + a0), .int a1] h) (QcI base D cA r h') 0 0 (AA base) := by
  refine g_met [.ref (base + a0), .int a1] (by decide) (Nat.le_of_ble_eq_true rfl) (fun p e s m args below meth c C hr hn => ?_)
  refine g_lv (lv' := [(0, .ref (base + a0)), (1, .int a1)]) rfl ?_
  unfold s_X9_boiler at E
  refine g_iconst C 0 dX9_boiler_0 rfl ?_
  refine g_istore_n C (lv' := [(2, .int 0), (0, .ref (base + a0)), (1, .int a1)]) dX9_boiler_1 rfl (by decide) rfl ?_
  refine g_iconst C 0 dX9_boiler_2 rfl ?_
  refine g_istore_n C (lv' := [(3, .int 0), (2, .int 0), (0, .ref (base + a0)), (1, .int a1)]) dX9_boiler_3 rfl (by decide) rfl ?_
  refine g_sub (lv' := [(0, .ref (base + a0)), (1, .int a1), (2, .int 0), (3, .int 0)]) [2, 3, 1, 0] rfl ?_
  refine o_X9_boiler_L4 C hr ?_ _ a0 a1 0 0 h E
  · intro y1 y2 y3 h4 E
    refine g_iload_n C 1 dX9_boiler_28 rfl rfl ?_
    by_cases q5 : y2 = 0
    · rw [if_pos q5] at E
      refine g_tswIn C 0 76 q5 dX9_boiler_29 (by decide) (by decide) rfl (by decide) ?_
      refine g_aload_n C 0 dX9_boiler_76 rfl rfl ?_
      refine g_getR C dX9_boiler_77 fl_X9_7 rfl E (fun x6 E => ?_)
      refine g_bipush C 7 dX9_boiler_80 rfl ?_
      refine g_iald C dX9_boiler_82 E (fun x7 E => ?_)
      exact g_iret C dX9_boiler_83 hr E
    rw [if_neg q5] at E
    by_cases q8 : y2 = 1
    · rw [if_pos q8] at E
      refine g_tswIn C 1 84 q8 dX9_boiler_29 (by decide) (by decide) rfl (by decide) ?_
      refine g_aload_n C 0 dX9_boiler_84 rfl rfl ?_
      refine g_getR C dX9_boiler_85 fl_X9_7 rfl E (fun x9 E => ?_)
      refine g_iconst C 3 dX9_boiler_88 rfl ?_
      refine g_iload_n C 1 dX9_boiler_89 rfl rfl ?_
      refine g_iadd C dX9_boiler_90 ?_
      refine g_iconst C 1 dX9_boiler_91 rfl ?_
      refine g_isub C dX9_boiler_92 ?_
      refine g_iald C dX9_boiler_93 E (fun x10 E => ?_)
      exact g_iret C dX9_boiler_94 hr E
    rw [if_neg q8] at E
    by_cases q11 : y2 = 2
    · rw [if_pos q11] at E
      refine g_tswIn C 2 84 q11 dX9_boiler_29 (by decide) (by decide) rfl (by decide) ?_
      refine g_aload_n C 0 dX9_boiler_84 rfl rfl ?_
      refine g_getR C dX9_boiler_85 fl_X9_7 rfl E (fun x12 E => ?_)
      refine g_iconst C 3 dX9_boiler_88 rfl ?_
      refine g_iload_n C 1 dX9_boiler_89 rfl rfl ?_
      refine g_iadd C dX9_boiler_90 ?_
      refine g_iconst C 1 dX9_boiler_91 rfl ?_
      refine g_isub C dX9_boiler_92 ?_
      refine g_iald C dX9_boiler_93 E (fun x13 E => ?_)
      exact g_iret C dX9_boiler_94 hr E
    rw [if_neg q11] at E
    by_cases q14 : y2 = 3
    · rw [if_pos q14] at E
      refine g_tswIn C 3 84 q14 dX9_boiler_29 (by decide) (by decide) rfl (by decide) ?_
      refine g_aload_n C 0 dX9_boiler_84 rfl rfl ?_
      refine g_getR C dX9_boiler_85 fl_X9_7 rfl E (fun x15 E => ?_)
      refine g_iconst C 3 dX9_boiler_88 rfl ?_
      refine g_iload_n C 1 dX9_boiler_89 rfl rfl ?_
      refine g_iadd C dX9_boiler_90 ?_
      refine g_iconst C 1 dX9_boiler_91 rfl ?_
      refine g_isub C dX9_boiler_92 ?_
      refine g_iald C dX9_boiler_93 E (fun x16 E => ?_)
      exact g_iret C dX9_boiler_94 hr E
    rw [if_neg q14] at E
    by_cases q17 : y2 = 4
    · rw [if_pos q17] at E
      refine g_tswIn C 4 95 q17 dX9_boiler_29 (by decide) (by decide) rfl (by decide) ?_
      refine g_aload_n C 0 dX9_boiler_95 rfl rfl ?_
      refine g_getR C dX9_boiler_96 fl_X9_7 rfl E (fun x18 E => ?_)
      refine g_bipush C 13 dX9_boiler_99 rfl ?_
      refine g_iald C dX9_boiler_101 E (fun x19 E => ?_)
      exact g_iret C dX9_boiler_102 hr E
    rw [if_neg q17] at E
    by_cases q20 : y2 = 5
    · rw [if_pos q20] at E
      refine g_tswIn C 5 103 q20 dX9_boiler_29 (by decide) (by decide) rfl (by decide) ?_
      refine g_aload_n C 0 dX9_boiler_103 rfl rfl ?_
      refine g_getR C dX9_boiler_104 fl_X9_7 rfl E (fun x21 E => ?_)
      refine g_bipush C 14 dX9_boiler_107 rfl ?_
      refine g_iald C dX9_boiler_109 E (fun x22 E => ?_)
      exact g_iret C dX9_boiler_110 hr E
    rw [if_neg q20] at E
    by_cases q23 : y2 = 6
    · rw [if_pos q23] at E
      refine g_tswIn C 6 111 q23 dX9_boiler_29 (by decide) (by decide) rfl (by decide) ?_
      refine g_iload_n C 2 dX9_boiler_111 rfl rfl ?_
      exact g_iret C dX9_boiler_112 hr E
    rw [if_neg q23] at E
    by_cases q24 : y2 = 7
    · rw [if_pos q24] at E
      refine g_tswIn C 7 113 q24 dX9_boiler_29 (by decide) (by decide) rfl (by decide) ?_
      refine g_aload_n C 0 dX9_boiler_113 rfl rfl ?_
      refine g_getR C dX9_boiler_114 fl_X9_7 rfl E (fun x25 E => ?_)
      refine g_bipush C 6 dX9_boiler_117 rfl ?_
      refine g_iald C dX9_boiler_119 E (fun x26 E => ?_)
      exact g_iret C dX9_boiler_120 hr E
    rw [if_neg q24] at E
    refine g_tswDf C 121 dX9_boiler_29 (fun z z1 z2 zx => ?_) (by decide) ?_
    · rcases (show z = 0 ∨ z = 1 ∨ z = 2 ∨ z = 3 ∨ z = 4 ∨ z = 5 ∨ z = 6 ∨ z = 7 by omega) with rfl | rfl | rfl | rfl | rfl | rfl | rfl | rfl
      · exact absurd zx (lv_neT q5 (by decide))
      · exact absurd zx (lv_neT q8 (by decide))
      · exact absurd zx (lv_neT q11 (by decide))
      · exact absurd zx (lv_neT q14 (by decide))
      · exact absurd zx (lv_neT q17 (by decide))
      · exact absurd zx (lv_neT q20 (by decide))
      · exact absurd zx (lv_neT q23 (by decide))
      · exact absurd zx (lv_neT q24 (by decide))
    refine g_bipush C (-2) dX9_boiler_121 rfl ?_
    exact g_iret C dX9_boiler_123 hr E
abbrev rm_X9_heatNext : Room := { frames := 5, cells := 0, slots := 0, locals := 117 }
def s_X9_heatNext (a0 : Nat) (a1 : Int32) (h : Hp) : Rv Int32 :=
  inv h a0 9 (s_X9_isHouse a0 a1 h) fun x1 h =>
  if x1 = 0 then retI (-1) h
  else getR h a0 9 0 fun x2 =>
  ldI h x2 20 1 fun x3 =>
  if x3 = 0 then retI 0 h
  else getR h a0 9 0 fun x4 =>
  getR h a0 9 1 fun x5 =>
  bnd (s_X9_copy x4 0 x5 0 h) fun _ h =>
  inv h a0 9 (s_X9_fillStore a0 h) fun _ h =>
  inv h a0 9 (s_X9_heatNow a0 h) fun x6 h =>
  inv h a0 9 (s_X9_split a0 x6 h) fun x7 h =>
  getR h a0 9 1 fun x8 =>
  getR h a0 9 0 fun x9 =>
  bnd (s_X9_copy x8 0 x9 0 h) fun _ h =>
  getR h a0 9 9 fun x10 =>
  ldI h x10 20 a1 fun x11 =>
  retI x11 h
set_option maxRecDepth 100000 in
set_option maxHeartbeats 4000000 in
theorem o_X9_heatNext (l : Launch) (base : Nat) (D : va_G) (cA : Nat → ClassId) (a0 : Nat) (a1 : Int32) (h : Hp) (r : Int32) (h' : Hp) (E : s_X9_heatNext a0 a1 h = some (r, h')) : Met l yX9_heatNext (.code yX9_heatNext cX9_heatNext 2 (some .int) :: wsA) rm_X9_heatNext (PcG base D cA [.ref (base + a0), .int a1] h) (QcI base D cA r h') 0 0 (AA base) := by
  refine g_met [.ref (base + a0), .int a1] (by decide) (Nat.le_of_ble_eq_true rfl) (fun p e s m args below meth c C hr hn => ?_)
  refine g_lv (lv' := [(0, .ref (base + a0)), (1, .int a1)]) rfl ?_
  unfold s_X9_heatNext at E
  refine g_aload_n C 0 dX9_heatNext_0 rfl rfl ?_
  refine g_iload_n C 1 dX9_heatNext_1 rfl rfl ?_
  refine g_invI C (q := (RX9, TX9, 13)) [.int a1] dX9_heatNext_2 cl_X9_154 cv_X9_isHouse rfl (by decide) rfl rfl ⟨Nat.le_of_ble_eq_true rfl, Nat.le_of_ble_eq_true rfl⟩ (Nat.le_of_ble_eq_true rfl) ⟨Nat.le_of_ble_eq_true rfl, Nat.le_of_ble_eq_true rfl⟩ rfl (fun r' h' E => o_X9_isHouse l base D cA a0 a1 h r' h' E) E (fun x1 h2 E => ?_)
  refine g_if_ne C 10 dX9_heatNext_5 (by decide) E (fun E => ?_) (fun E => ?_)
  · refine g_aload_n C 0 dX9_heatNext_10 rfl rfl ?_
    refine g_getR C dX9_heatNext_11 fl_X9_7 rfl E (fun x3 E => ?_)
    refine g_iconst C 1 dX9_heatNext_14 rfl ?_
    refine g_iald C dX9_heatNext_15 E (fun x4 E => ?_)
    refine g_if_ne C 21 dX9_heatNext_16 (by decide) E (fun E => ?_) (fun E => ?_)
    · refine g_aload_n C 0 dX9_heatNext_21 rfl rfl ?_
      refine g_getR C dX9_heatNext_22 fl_X9_7 rfl E (fun x5 E => ?_)
      refine g_iconst C 0 dX9_heatNext_25 rfl ?_
      refine g_aload_n C 0 dX9_heatNext_26 rfl rfl ?_
      refine g_getR C dX9_heatNext_27 fl_X9_13 rfl E (fun x6 E => ?_)
      refine g_iconst C 0 dX9_heatNext_30 rfl ?_
      refine g_staU C [.ref (base + x5), .int 0, .ref (base + x6), .int 0] dX9_heatNext_31 cl_X9_41 cs_X9_copy rfl rfl ⟨Nat.le_of_ble_eq_true rfl, Nat.le_of_ble_eq_true rfl⟩ (Nat.le_of_ble_eq_true rfl) ⟨Nat.le_of_ble_eq_true rfl, Nat.le_of_ble_eq_true rfl⟩ rfl (fun r' h' E => o_X9_copy l base D cA x5 0 x6 0 h2 r' h' E) E (fun x7 h8 E => ?_)
      refine g_aload_n C 0 dX9_heatNext_34 rfl rfl ?_
      refine g_invU C (q := (RX9, TX9, 13)) [] dX9_heatNext_35 cl_X9_118 cv_X9_fillStore rfl (by decide) rfl rfl ⟨Nat.le_of_ble_eq_true rfl, Nat.le_of_ble_eq_true rfl⟩ (Nat.le_of_ble_eq_true rfl) ⟨Nat.le_of_ble_eq_true rfl, Nat.le_of_ble_eq_true rfl⟩ rfl (fun r' h' E => o_X9_fillStore l base D cA a0 h8 r' h' E) E (fun x9 h10 E => ?_)
      refine g_aload_n C 0 dX9_heatNext_38 rfl rfl ?_
      refine g_aload_n C 0 dX9_heatNext_39 rfl rfl ?_
      refine g_invI C (q := (RX9, TX9, 13)) [] dX9_heatNext_40 cl_X9_121 cv_X9_heatNow rfl (by decide) rfl rfl ⟨Nat.le_of_ble_eq_true rfl, Nat.le_of_ble_eq_true rfl⟩ (Nat.le_of_ble_eq_true rfl) ⟨Nat.le_of_ble_eq_true rfl, Nat.le_of_ble_eq_true rfl⟩ rfl (fun r' h' E => o_X9_heatNow l base D cA a0 h10 r' h' E) E (fun x11 h12 E => ?_)
      refine g_invI C (q := (RX9, TX9, 13)) [.int x11] dX9_heatNext_43 cl_X9_124 cv_X9_split rfl (by decide) rfl rfl ⟨Nat.le_of_ble_eq_true rfl, Nat.le_of_ble_eq_true rfl⟩ (Nat.le_of_ble_eq_true rfl) ⟨Nat.le_of_ble_eq_true rfl, Nat.le_of_ble_eq_true rfl⟩ rfl (fun r' h' E => o_X9_split l base D cA a0 x11 h12 r' h' E) E (fun x13 h14 E => ?_)
      refine g_pop C dX9_heatNext_46 rfl ?_
      refine g_aload_n C 0 dX9_heatNext_47 rfl rfl ?_
      refine g_getR C dX9_heatNext_48 fl_X9_13 rfl E (fun x15 E => ?_)
      refine g_iconst C 0 dX9_heatNext_51 rfl ?_
      refine g_aload_n C 0 dX9_heatNext_52 rfl rfl ?_
      refine g_getR C dX9_heatNext_53 fl_X9_7 rfl E (fun x16 E => ?_)
      refine g_iconst C 0 dX9_heatNext_56 rfl ?_
      refine g_staU C [.ref (base + x15), .int 0, .ref (base + x16), .int 0] dX9_heatNext_57 cl_X9_41 cs_X9_copy rfl rfl ⟨Nat.le_of_ble_eq_true rfl, Nat.le_of_ble_eq_true rfl⟩ (Nat.le_of_ble_eq_true rfl) ⟨Nat.le_of_ble_eq_true rfl, Nat.le_of_ble_eq_true rfl⟩ rfl (fun r' h' E => o_X9_copy l base D cA x15 0 x16 0 h14 r' h' E) E (fun x17 h18 E => ?_)
      refine g_aload_n C 0 dX9_heatNext_60 rfl rfl ?_
      refine g_getR C dX9_heatNext_61 fl_X9_28 rfl E (fun x19 E => ?_)
      refine g_iload_n C 1 dX9_heatNext_64 rfl rfl ?_
      refine g_iald C dX9_heatNext_65 E (fun x20 E => ?_)
      exact g_iret C dX9_heatNext_66 hr E
    · refine g_iconst C 0 dX9_heatNext_19 rfl ?_
      exact g_iret C dX9_heatNext_20 hr E
  · refine g_iconst C (-1) dX9_heatNext_8 rfl ?_
    exact g_iret C dX9_heatNext_9 hr E
abbrev rm_X9_lease : Room := { frames := 1, cells := 0, slots := 0, locals := 22 }
def s_X9_lease (a0 : Nat) (a1 : Int32) (a2 : Int32) (h : Hp) : Rv Int32 :=
  getR h a0 9 0 fun x1 =>
  ldI h x1 20 8 fun x2 =>
  bnd (s_X9_within a1 0 (x2 - 1) h) fun x3 h =>
  if x3 = 0 then retI (-1) h
  else bnd (s_X9_within a2 0 4 h) fun x4 h =>
  if x4 = 0 then retI (-2) h
  else inv h a0 9 (s_X9_leasePart a0 a1 a2 h) fun x5 h =>
  retI x5 h
set_option maxRecDepth 100000 in
set_option maxHeartbeats 4000000 in
theorem o_X9_lease (l : Launch) (base : Nat) (D : va_G) (cA : Nat → ClassId) (a0 : Nat) (a1 : Int32) (a2 : Int32) (h : Hp) (r : Int32) (h' : Hp) (E : s_X9_lease a0 a1 a2 h = some (r, h')) : Met l yX9_lease (.code yX9_lease cX9_lease 3 (some .int) :: wsA) rm_X9_lease (PcG base D cA [.ref (base + a0), .int a1, .int a2] h) (QcI base D cA r h') 0 0 (AA base) := by
  refine g_met [.ref (base + a0), .int a1, .int a2] (by decide) (Nat.le_of_ble_eq_true rfl) (fun p e s m args below meth c C hr hn => ?_)
  refine g_lv (lv' := [(0, .ref (base + a0)), (1, .int a1), (2, .int a2)]) rfl ?_
  unfold s_X9_lease at E
  refine g_iload_n C 1 dX9_lease_0 rfl rfl ?_
  refine g_iconst C 0 dX9_lease_1 rfl ?_
  refine g_aload_n C 0 dX9_lease_2 rfl rfl ?_
  refine g_getR C dX9_lease_3 fl_X9_7 rfl E (fun x1 E => ?_)
  refine g_bipush C 8 dX9_lease_6 rfl ?_
  refine g_iald C dX9_lease_8 E (fun x2 E => ?_)
  refine g_iconst C 1 dX9_lease_9 rfl ?_
  refine g_isub C dX9_lease_10 ?_
  refine g_staI C [.int a1, .int 0, .int (x2 - 1)] dX9_lease_11 cl_X9_45 cs_X9_within rfl rfl ⟨Nat.le_of_ble_eq_true rfl, Nat.le_of_ble_eq_true rfl⟩ (Nat.le_of_ble_eq_true rfl) ⟨Nat.le_of_ble_eq_true rfl, Nat.le_of_ble_eq_true rfl⟩ rfl (fun r' h' E => o_X9_within l base D cA a1 0 (x2 - 1) h r' h' E) E (fun x3 h4 E => ?_)
  refine g_if_ne C 21 dX9_lease_14 (by decide) E (fun E => ?_) (fun E => ?_)
  · refine g_iload_n C 2 dX9_lease_21 rfl rfl ?_
    refine g_iconst C 0 dX9_lease_22 rfl ?_
    refine g_iconst C 4 dX9_lease_23 rfl ?_
    refine g_staI C [.int a2, .int 0, .int 4] dX9_lease_24 cl_X9_45 cs_X9_within rfl rfl ⟨Nat.le_of_ble_eq_true rfl, Nat.le_of_ble_eq_true rfl⟩ (Nat.le_of_ble_eq_true rfl) ⟨Nat.le_of_ble_eq_true rfl, Nat.le_of_ble_eq_true rfl⟩ rfl (fun r' h' E => o_X9_within l base D cA a2 0 4 h4 r' h' E) E (fun x5 h6 E => ?_)
    refine g_if_eq C 39 dX9_lease_27 (by decide) E (fun E => ?_) (fun E => ?_)
    · refine g_bipush C (-2) dX9_lease_39 rfl ?_
      exact g_iret C dX9_lease_41 hr E
    · refine g_aload_n C 0 dX9_lease_30 rfl rfl ?_
      refine g_iload_n C 1 dX9_lease_31 rfl rfl ?_
      refine g_iload_n C 2 dX9_lease_32 rfl rfl ?_
      refine g_invI C (q := (RX9, TX9, 13)) [.int a1, .int a2] dX9_lease_33 cl_X9_53 cv_X9_leasePart rfl (by decide) rfl rfl ⟨Nat.le_of_ble_eq_true rfl, Nat.le_of_ble_eq_true rfl⟩ (Nat.le_of_ble_eq_true rfl) ⟨Nat.le_of_ble_eq_true rfl, Nat.le_of_ble_eq_true rfl⟩ rfl (fun r' h' E => o_X9_leasePart l base D cA a0 a1 a2 h6 r' h' E) E (fun x7 h8 E => ?_)
      refine g_goto C 41 dX9_lease_36 (by decide) ?_
      exact g_iret C dX9_lease_41 hr E
  · refine g_iconst C (-1) dX9_lease_17 rfl ?_
    refine g_goto C 41 dX9_lease_18 (by decide) ?_
    exact g_iret C dX9_lease_41 hr E
abbrev rm_X9_ask : Room := { frames := 3, cells := 0, slots := 0, locals := 67 }
def s_X9_ask (a0 : Nat) (a1 : Int32) (a2 : Int32) (h : Hp) : Rv Int32 :=
  inv h a0 9 (s_X9_isHouse a0 a1 h) fun x1 h =>
  if x1 = 0 then retI (-1) h
  else bnd (s_X9_within a2 1 20 h) fun x2 h =>
  if x2 = 0 then retI (-2) h
  else inv h a0 9 (s_X9_hasToLend a0 a1 a2 h) fun x3 h =>
  if x3 = 0 then retI (-4) h
  else inv h a0 9 (s_X9_askOf a0 a1 a2 h) fun x4 h =>
  retI x4 h
set_option maxRecDepth 100000 in
set_option maxHeartbeats 4000000 in
theorem o_X9_ask (l : Launch) (base : Nat) (D : va_G) (cA : Nat → ClassId) (a0 : Nat) (a1 : Int32) (a2 : Int32) (h : Hp) (r : Int32) (h' : Hp) (E : s_X9_ask a0 a1 a2 h = some (r, h')) : Met l yX9_ask (.code yX9_ask cX9_ask 3 (some .int) :: wsA) rm_X9_ask (PcG base D cA [.ref (base + a0), .int a1, .int a2] h) (QcI base D cA r h') 0 0 (AA base) := by
  refine g_met [.ref (base + a0), .int a1, .int a2] (by decide) (Nat.le_of_ble_eq_true rfl) (fun p e s m args below meth c C hr hn => ?_)
  refine g_lv (lv' := [(0, .ref (base + a0)), (1, .int a1), (2, .int a2)]) rfl ?_
  unfold s_X9_ask at E
  refine g_aload_n C 0 dX9_ask_0 rfl rfl ?_
  refine g_iload_n C 1 dX9_ask_1 rfl rfl ?_
  refine g_invI C (q := (RX9, TX9, 13)) [.int a1] dX9_ask_2 cl_X9_154 cv_X9_isHouse rfl (by decide) rfl rfl ⟨Nat.le_of_ble_eq_true rfl, Nat.le_of_ble_eq_true rfl⟩ (Nat.le_of_ble_eq_true rfl) ⟨Nat.le_of_ble_eq_true rfl, Nat.le_of_ble_eq_true rfl⟩ rfl (fun r' h' E => o_X9_isHouse l base D cA a0 a1 h r' h' E) E (fun x1 h2 E => ?_)
  refine g_if_ne C 10 dX9_ask_5 (by decide) E (fun E => ?_) (fun E => ?_)
  · refine g_iload_n C 2 dX9_ask_10 rfl rfl ?_
    refine g_iconst C 1 dX9_ask_11 rfl ?_
    refine g_bipush C 20 dX9_ask_12 rfl ?_
    refine g_staI C [.int a2, .int 1, .int 20] dX9_ask_14 cl_X9_45 cs_X9_within rfl rfl ⟨Nat.le_of_ble_eq_true rfl, Nat.le_of_ble_eq_true rfl⟩ (Nat.le_of_ble_eq_true rfl) ⟨Nat.le_of_ble_eq_true rfl, Nat.le_of_ble_eq_true rfl⟩ rfl (fun r' h' E => o_X9_within l base D cA a2 1 20 h2 r' h' E) E (fun x3 h4 E => ?_)
    refine g_if_ne C 25 dX9_ask_17 (by decide) E (fun E => ?_) (fun E => ?_)
    · refine g_aload_n C 0 dX9_ask_25 rfl rfl ?_
      refine g_iload_n C 1 dX9_ask_26 rfl rfl ?_
      refine g_iload_n C 2 dX9_ask_27 rfl rfl ?_
      refine g_invI C (q := (RX9, TX9, 13)) [.int a1, .int a2] dX9_ask_28 cl_X9_166 cv_X9_hasToLend rfl (by decide) rfl rfl ⟨Nat.le_of_ble_eq_true rfl, Nat.le_of_ble_eq_true rfl⟩ (Nat.le_of_ble_eq_true rfl) ⟨Nat.le_of_ble_eq_true rfl, Nat.le_of_ble_eq_true rfl⟩ rfl (fun r' h' E => o_X9_hasToLend l base D cA a0 a1 a2 h4 r' h' E) E (fun x5 h6 E => ?_)
      refine g_if_ne C 39 dX9_ask_31 (by decide) E (fun E => ?_) (fun E => ?_)
      · refine g_aload_n C 0 dX9_ask_39 rfl rfl ?_
        refine g_iload_n C 1 dX9_ask_40 rfl rfl ?_
        refine g_iload_n C 2 dX9_ask_41 rfl rfl ?_
        refine g_invI C (q := (RX9, TX9, 13)) [.int a1, .int a2] dX9_ask_42 cl_X9_169 cv_X9_askOf rfl (by decide) rfl rfl ⟨Nat.le_of_ble_eq_true rfl, Nat.le_of_ble_eq_true rfl⟩ (Nat.le_of_ble_eq_true rfl) ⟨Nat.le_of_ble_eq_true rfl, Nat.le_of_ble_eq_true rfl⟩ rfl (fun r' h' E => o_X9_askOf l base D cA a0 a1 a2 h6 r' h' E) E (fun x7 h8 E => ?_)
        exact g_iret C dX9_ask_45 hr E
      · refine g_bipush C (-4) dX9_ask_34 rfl ?_
        refine g_goto C 45 dX9_ask_36 (by decide) ?_
        exact g_iret C dX9_ask_45 hr E
    · refine g_bipush C (-2) dX9_ask_20 rfl ?_
      refine g_goto C 45 dX9_ask_22 (by decide) ?_
      exact g_iret C dX9_ask_45 hr E
  · refine g_iconst C (-1) dX9_ask_8 rfl ?_
    exact g_iret C dX9_ask_9 hr E
abbrev rm_X9_overIn : Room := { frames := 7, cells := 0, slots := 0, locals := 161 }
def s_X9_overIn_L48 (k74 : Nat → Int32 → Int32 → Hp → Rv Int32) : Nat → Nat → Int32 → Int32 → Hp → Rv Int32
  | 0, _, _, _, _ => none
  | n + 1, v0, v1, v3, h =>
    if 600 ≤ v3 then k74 v0 v1 v3 h
  else inv h v0 9 (s_X9_runs v0 v1 h) fun x5 h =>
  if x5 = 0 then k74 v0 v1 v3 h
  else inv h v0 9 (s_X9_minute v0 h) fun x6 h =>
  s_X9_overIn_L48 k74 n v0 v1 (v3 + 1) h
def s_X9_overIn_J74 (v0 : Nat) (v1 : Int32) (v3 : Int32) (h : Hp) : Rv Int32 :=
  inv h v0 9 (s_X9_part v0 v1 9 h) fun x7 h =>
  if x7 = 0 then getR h v0 9 1 fun x10 =>
  getR h v0 9 0 fun x11 =>
  bnd (s_X9_copy x10 0 x11 0 h) fun _ h =>
  retI v3 h
  else getR h v0 9 1 fun x8 =>
  getR h v0 9 0 fun x9 =>
  bnd (s_X9_copy x8 0 x9 0 h) fun _ h =>
  retI (-5) h
def s_X9_overIn_J26 (v0 : Nat) (v1 : Int32) (w0 : Int32) (h : Hp) : Rv Int32 :=
  if 0 ≤ w0 then getR h v0 9 0 fun x3 =>
  getR h v0 9 1 fun x4 =>
  bnd (s_X9_copy x3 0 x4 0 h) fun _ h =>
  s_X9_overIn_L48 (fun y0 y1 y2 h => s_X9_overIn_J74 y0 y1 y2 h) 100000 v0 v1 0 h
  else retI w0 h
def s_X9_overIn (a0 : Nat) (a1 : Int32) (h : Hp) : Rv Int32 :=
  inv h a0 9 (s_X9_isHouse a0 a1 h) fun x1 h =>
  if x1 = 0 then s_X9_overIn_J26 a0 a1 (-1) h
  else inv h a0 9 (s_X9_runs a0 a1 h) fun x2 h =>
  if x2 = 0 then s_X9_overIn_J26 a0 a1 (-4) h
  else s_X9_overIn_J26 a0 a1 0 h
set_option maxRecDepth 100000 in
set_option maxHeartbeats 4000000 in
theorem o_X9_overIn_L48 {l : Launch} {base : Nat} {D : va_G} {cA : Nat → ClassId} {p : Program} {e : Env} {s : State} {m : MethodId} {args : Array Value} {below : List Frame} {meth : Method} {c : Code} (C : GC base D cA p s m args meth c cX9_overIn 5 RX9) (hr : meth.sig.returnType = (some .int)) {X : Int32 × Hp} {k74 : Nat → Int32 → Int32 → Hp → Rv Int32} (K74 : ∀ (y0 : Nat) (y1 : Int32) (y2 : Int32) (h : Hp), k74 y0 y1 y2 h = some X → GW base D cA p l e rm_X9_overIn s m args below meth c (MQ below (QcI base D cA X.1 X.2) args s 0 0 (AA base)) 5 h 0 0 74 [(0, .ref (base + y0)), (1, .int y1), (3, .int y2)] []) : ∀ (n : Nat) (v0 : Nat) (v1 : Int32) (v3 : Int32) (h : Hp), s_X9_overIn_L48 k74 n v0 v1 v3 h = some X → GW base D cA p l e rm_X9_overIn s m args below meth c (MQ below (QcI base D cA X.1 X.2) args s 0 0 (AA base)) 5 h 0 0 48 [(0, .ref (base + v0)), (1, .int v1), (3, .int v3)] [] := by
  intro n
  induction n with
  | zero =>
    intro v0 v1 v3 h E
    rw [s_X9_overIn_L48] at E
    cases E
  | succ n ih =>
    intro v0 v1 v3 h E
    rw [s_X9_overIn_L48] at E
    refine g_iload_n C 2 dX9_overIn_48 rfl rfl ?_
    refine g_sipush C 600 dX9_overIn_49 rfl ?_
    refine g_icmp_ge C 74 dX9_overIn_52 (by decide) E (fun E => ?_) (fun E => ?_)
    · refine g_sub (lv' := [(0, .ref (base + v0)), (1, .int v1), (3, .int v3)]) [0, 1, 2] rfl ?_
      exact K74 v0 v1 v3 h E
    · refine g_aload_n C 0 dX9_overIn_55 rfl rfl ?_
      refine g_iload_n C 1 dX9_overIn_56 rfl rfl ?_
      refine g_invI C (q := (RX9, TX9, 13)) [.int v1] dX9_overIn_57 cl_X9_79 cv_X9_runs rfl (by decide) rfl rfl ⟨Nat.le_of_ble_eq_true rfl, Nat.le_of_ble_eq_true rfl⟩ (Nat.le_of_ble_eq_true rfl) ⟨Nat.le_of_ble_eq_true rfl, Nat.le_of_ble_eq_true rfl⟩ rfl (fun r' h' E => o_X9_runs l base D cA v0 v1 h r' h' E) E (fun x1 h2 E => ?_)
      refine g_if_eq C 74 dX9_overIn_60 (by decide) E (fun E => ?_) (fun E => ?_)
      · refine g_sub (lv' := [(0, .ref (base + v0)), (1, .int v1), (3, .int v3)]) [0, 1, 2] rfl ?_
        exact K74 v0 v1 v3 h2 E
      · refine g_aload_n C 0 dX9_overIn_63 rfl rfl ?_
        refine g_invI C (q := (RX9, TX9, 13)) [] dX9_overIn_64 cl_X9_142 cv_X9_minute rfl (by decide) rfl rfl ⟨Nat.le_of_ble_eq_true rfl, Nat.le_of_ble_eq_true rfl⟩ (Nat.le_of_ble_eq_true rfl) ⟨Nat.le_of_ble_eq_true rfl, Nat.le_of_ble_eq_true rfl⟩ rfl (fun r' h' E => o_X9_minute l base D cA v0 h2 r' h' E) E (fun x3 h4 E => ?_)
        refine g_pop C dX9_overIn_67 rfl ?_
        refine g_iinc C (lv' := [(3, .int (v3 + 1)), (0, .ref (base + v0)), (1, .int v1)]) 2 1 dX9_overIn_68 rfl rfl (by decide) rfl ?_
        refine g_goto C 48 dX9_overIn_71 (by decide) ?_
        refine g_sub (lv' := [(0, .ref (base + v0)), (1, .int v1), (3, .int (v3 + 1))]) [1, 2, 0] rfl ?_
        exact ih v0 v1 (v3 + 1) h4 E
set_option maxRecDepth 100000 in
set_option maxHeartbeats 4000000 in
theorem o_X9_overIn_J74 {l : Launch} {base : Nat} {D : va_G} {cA : Nat → ClassId} {p : Program} {e : Env} {s : State} {m : MethodId} {args : Array Value} {below : List Frame} {meth : Method} {c : Code} (C : GC base D cA p s m args meth c cX9_overIn 5 RX9) (hr : meth.sig.returnType = (some .int)) {X : Int32 × Hp} : ∀ (v0 : Nat) (v1 : Int32) (v3 : Int32) (h : Hp), s_X9_overIn_J74 v0 v1 v3 h = some X → GW base D cA p l e rm_X9_overIn s m args below meth c (MQ below (QcI base D cA X.1 X.2) args s 0 0 (AA base)) 5 h 0 0 74 [(0, .ref (base + v0)), (1, .int v1), (3, .int v3)] [] := by
  intro v0 v1 v3 h E
  unfold s_X9_overIn_J74 at E
  refine g_aload_n C 0 dX9_overIn_74 rfl rfl ?_
  refine g_iload_n C 1 dX9_overIn_75 rfl rfl ?_
  refine g_bipush C 9 dX9_overIn_76 rfl ?_
  refine g_invI C (q := (RX9, TX9, 13)) [.int v1, .int 9] dX9_overIn_78 cl_X9_49 cv_X9_part rfl (by decide) rfl rfl ⟨Nat.le_of_ble_eq_true rfl, Nat.le_of_ble_eq_true rfl⟩ (Nat.le_of_ble_eq_true rfl) ⟨Nat.le_of_ble_eq_true rfl, Nat.le_of_ble_eq_true rfl⟩ rfl (fun r' h' E => o_X9_part l base D cA v0 v1 9 h r' h' E) E (fun x1 h2 E => ?_)
  refine g_if_ne C 88 dX9_overIn_81 (by decide) E (fun E => ?_) (fun E => ?_)
  · refine g_bipush C (-5) dX9_overIn_88 rfl ?_
    refine g_istore C (lv' := [(4, .int (-5)), (0, .ref (base + v0)), (1, .int v1), (3, .int v3)]) dX9_overIn_90 (by decide) rfl ?_
    refine g_aload_n C 1 dX9_overIn_92 rfl rfl ?_
    refine g_getR C dX9_overIn_93 fl_X9_13 rfl E (fun x3 E => ?_)
    refine g_iconst C 0 dX9_overIn_96 rfl ?_
    refine g_aload_n C 1 dX9_overIn_97 rfl rfl ?_
    refine g_getR C dX9_overIn_98 fl_X9_7 rfl E (fun x4 E => ?_)
    refine g_iconst C 0 dX9_overIn_101 rfl ?_
    refine g_staU C [.ref (base + x3), .int 0, .ref (base + x4), .int 0] dX9_overIn_102 cl_X9_41 cs_X9_copy rfl rfl ⟨Nat.le_of_ble_eq_true rfl, Nat.le_of_ble_eq_true rfl⟩ (Nat.le_of_ble_eq_true rfl) ⟨Nat.le_of_ble_eq_true rfl, Nat.le_of_ble_eq_true rfl⟩ rfl (fun r' h' E => o_X9_copy l base D cA x3 0 x4 0 h2 r' h' E) E (fun x5 h6 E => ?_)
    refine g_iload C 0 dX9_overIn_105 rfl ?_
    exact g_iret C dX9_overIn_107 hr E
  · refine g_iload_n C 2 dX9_overIn_84 rfl rfl ?_
    refine g_goto C 90 dX9_overIn_85 (by decide) ?_
    refine g_istore C (lv' := [(4, .int v3), (0, .ref (base + v0)), (1, .int v1), (3, .int v3)]) dX9_overIn_90 (by decide) rfl ?_
    refine g_aload_n C 1 dX9_overIn_92 rfl rfl ?_
    refine g_getR C dX9_overIn_93 fl_X9_13 rfl E (fun x7 E => ?_)
    refine g_iconst C 0 dX9_overIn_96 rfl ?_
    refine g_aload_n C 1 dX9_overIn_97 rfl rfl ?_
    refine g_getR C dX9_overIn_98 fl_X9_7 rfl E (fun x8 E => ?_)
    refine g_iconst C 0 dX9_overIn_101 rfl ?_
    refine g_staU C [.ref (base + x7), .int 0, .ref (base + x8), .int 0] dX9_overIn_102 cl_X9_41 cs_X9_copy rfl rfl ⟨Nat.le_of_ble_eq_true rfl, Nat.le_of_ble_eq_true rfl⟩ (Nat.le_of_ble_eq_true rfl) ⟨Nat.le_of_ble_eq_true rfl, Nat.le_of_ble_eq_true rfl⟩ rfl (fun r' h' E => o_X9_copy l base D cA x7 0 x8 0 h2 r' h' E) E (fun x9 h10 E => ?_)
    refine g_iload C 0 dX9_overIn_105 rfl ?_
    exact g_iret C dX9_overIn_107 hr E
set_option maxRecDepth 100000 in
set_option maxHeartbeats 4000000 in
theorem o_X9_overIn_J26 {l : Launch} {base : Nat} {D : va_G} {cA : Nat → ClassId} {p : Program} {e : Env} {s : State} {m : MethodId} {args : Array Value} {below : List Frame} {meth : Method} {c : Code} (C : GC base D cA p s m args meth c cX9_overIn 5 RX9) (hr : meth.sig.returnType = (some .int)) {X : Int32 × Hp} : ∀ (v0 : Nat) (v1 : Int32) (w0 : Int32) (h : Hp), s_X9_overIn_J26 v0 v1 w0 h = some X → GW base D cA p l e rm_X9_overIn s m args below meth c (MQ below (QcI base D cA X.1 X.2) args s 0 0 (AA base)) 5 h 0 0 26 [(0, .ref (base + v0)), (1, .int v1)] [.int w0] := by
  intro v0 v1 w0 h E
  unfold s_X9_overIn_J26 at E
  refine g_istore_n C (lv' := [(2, .int w0), (0, .ref (base + v0)), (1, .int v1)]) dX9_overIn_26 rfl (by decide) rfl ?_
  refine g_iload_n C 0 dX9_overIn_27 rfl rfl ?_
  refine g_if_ge C 33 dX9_overIn_28 (by decide) E (fun E => ?_) (fun E => ?_)
  · refine g_aload_n C 1 dX9_overIn_33 rfl rfl ?_
    refine g_getR C dX9_overIn_34 fl_X9_7 rfl E (fun x1 E => ?_)
    refine g_iconst C 0 dX9_overIn_37 rfl ?_
    refine g_aload_n C 1 dX9_overIn_38 rfl rfl ?_
    refine g_getR C dX9_overIn_39 fl_X9_13 rfl E (fun x2 E => ?_)
    refine g_iconst C 0 dX9_overIn_42 rfl ?_
    refine g_staU C [.ref (base + x1), .int 0, .ref (base + x2), .int 0] dX9_overIn_43 cl_X9_41 cs_X9_copy rfl rfl ⟨Nat.le_of_ble_eq_true rfl, Nat.le_of_ble_eq_true rfl⟩ (Nat.le_of_ble_eq_true rfl) ⟨Nat.le_of_ble_eq_true rfl, Nat.le_of_ble_eq_true rfl⟩ rfl (fun r' h' E => o_X9_copy l base D cA x1 0 x2 0 h r' h' E) E (fun x3 h4 E => ?_)
    refine g_iconst C 0 dX9_overIn_46 rfl ?_
    refine g_istore_n C (lv' := [(3, .int 0), (2, .int w0), (0, .ref (base + v0)), (1, .int v1)]) dX9_overIn_47 rfl (by decide) rfl ?_
    refine g_sub (lv' := [(0, .ref (base + v0)), (1, .int v1), (3, .int 0)]) [2, 3, 0] rfl ?_
    refine o_X9_overIn_L48 C hr ?_ _ v0 v1 0 h4 E
    · intro y5 y6 y7 h8 E
      refine g_sub (lv' := [(0, .ref (base + y5)), (1, .int y6), (3, .int y7)]) [0, 1, 2] rfl ?_
      exact o_X9_overIn_J74 C hr y5 y6 y7 h8 E
  · refine g_iload_n C 0 dX9_overIn_31 rfl rfl ?_
    exact g_iret C dX9_overIn_32 hr E
set_option maxRecDepth 100000 in
set_option maxHeartbeats 4000000 in
theorem o_X9_overIn (l : Launch) (base : Nat) (D : va_G) (cA : Nat → ClassId) (a0 : Nat) (a1 : Int32) (h : Hp) (r : Int32) (h' : Hp) (E : s_X9_overIn a0 a1 h = some (r, h')) : Met l yX9_overIn (.code yX9_overIn cX9_overIn 5 (some .int) :: wsA) rm_X9_overIn (PcG base D cA [.ref (base + a0), .int a1] h) (QcI base D cA r h') 0 0 (AA base) := by
  refine g_met [.ref (base + a0), .int a1] (by decide) (Nat.le_of_ble_eq_true rfl) (fun p e s m args below meth c C hr hn => ?_)
  refine g_lv (lv' := [(0, .ref (base + a0)), (1, .int a1)]) rfl ?_
  unfold s_X9_overIn at E
  refine g_aload_n C 0 dX9_overIn_0 rfl rfl ?_
  refine g_iload_n C 1 dX9_overIn_1 rfl rfl ?_
  refine g_invI C (q := (RX9, TX9, 13)) [.int a1] dX9_overIn_2 cl_X9_154 cv_X9_isHouse rfl (by decide) rfl rfl ⟨Nat.le_of_ble_eq_true rfl, Nat.le_of_ble_eq_true rfl⟩ (Nat.le_of_ble_eq_true rfl) ⟨Nat.le_of_ble_eq_true rfl, Nat.le_of_ble_eq_true rfl⟩ rfl (fun r' h' E => o_X9_isHouse l base D cA a0 a1 h r' h' E) E (fun x1 h2 E => ?_)
  refine g_if_ne C 12 dX9_overIn_5 (by decide) E (fun E => ?_) (fun E => ?_)
  · refine g_aload_n C 0 dX9_overIn_12 rfl rfl ?_
    refine g_iload_n C 1 dX9_overIn_13 rfl rfl ?_
    refine g_invI C (q := (RX9, TX9, 13)) [.int a1] dX9_overIn_14 cl_X9_79 cv_X9_runs rfl (by decide) rfl rfl ⟨Nat.le_of_ble_eq_true rfl, Nat.le_of_ble_eq_true rfl⟩ (Nat.le_of_ble_eq_true rfl) ⟨Nat.le_of_ble_eq_true rfl, Nat.le_of_ble_eq_true rfl⟩ rfl (fun r' h' E => o_X9_runs l base D cA a0 a1 h2 r' h' E) E (fun x3 h4 E => ?_)
    refine g_if_ne C 25 dX9_overIn_17 (by decide) E (fun E => ?_) (fun E => ?_)
    · refine g_iconst C 0 dX9_overIn_25 rfl ?_
      refine g_sub (lv' := [(0, .ref (base + a0)), (1, .int a1)]) [0, 1] rfl ?_
      exact o_X9_overIn_J26 C hr a0 a1 0 h4 E
    · refine g_bipush C (-4) dX9_overIn_20 rfl ?_
      refine g_goto C 26 dX9_overIn_22 (by decide) ?_
      refine g_sub (lv' := [(0, .ref (base + a0)), (1, .int a1)]) [0, 1] rfl ?_
      exact o_X9_overIn_J26 C hr a0 a1 (-4) h4 E
  · refine g_iconst C (-1) dX9_overIn_8 rfl ?_
    refine g_goto C 26 dX9_overIn_9 (by decide) ?_
    refine g_sub (lv' := [(0, .ref (base + a0)), (1, .int a1)]) [0, 1] rfl ?_
    exact o_X9_overIn_J26 C hr a0 a1 (-1) h2 E
abbrev rm_X9_freeIn : Room := { frames := 7, cells := 0, slots := 0, locals := 161 }
def s_X9_freeIn_L25 (k54 : Nat → Int32 → Int32 → Hp → Rv Int32) : Nat → Nat → Int32 → Int32 → Hp → Rv Int32
  | 0, _, _, _, _ => none
  | n + 1, v0, v1, v2, h =>
    if 600 ≤ v2 then k54 v0 v1 v2 h
  else inv h v0 9 (s_X9_part v0 v1 13 h) fun x4 h =>
  if x4 = 2 then inv h v0 9 (s_X9_minute v0 h) fun x5 h =>
  s_X9_freeIn_L25 k54 n v0 v1 (v2 + 1) h
  else k54 v0 v1 v2 h
def s_X9_freeIn_J54 (v0 : Nat) (v1 : Int32) (v2 : Int32) (h : Hp) : Rv Int32 :=
  inv h v0 9 (s_X9_part v0 v1 13 h) fun x6 h =>
  if x6 = 2 then getR h v0 9 1 fun x9 =>
  getR h v0 9 0 fun x10 =>
  bnd (s_X9_copy x9 0 x10 0 h) fun _ h =>
  retI (-5) h
  else getR h v0 9 1 fun x7 =>
  getR h v0 9 0 fun x8 =>
  bnd (s_X9_copy x7 0 x8 0 h) fun _ h =>
  retI v2 h
def s_X9_freeIn (a0 : Nat) (a1 : Int32) (h : Hp) : Rv Int32 :=
  inv h a0 9 (s_X9_isHouse a0 a1 h) fun x1 h =>
  if x1 = 0 then retI (-1) h
  else getR h a0 9 0 fun x2 =>
  getR h a0 9 1 fun x3 =>
  bnd (s_X9_copy x2 0 x3 0 h) fun _ h =>
  s_X9_freeIn_L25 (fun y0 y1 y2 h => s_X9_freeIn_J54 y0 y1 y2 h) 100000 a0 a1 0 h
set_option maxRecDepth 100000 in
set_option maxHeartbeats 4000000 in
theorem o_X9_freeIn_L25 {l : Launch} {base : Nat} {D : va_G} {cA : Nat → ClassId} {p : Program} {e : Env} {s : State} {m : MethodId} {args : Array Value} {below : List Frame} {meth : Method} {c : Code} (C : GC base D cA p s m args meth c cX9_freeIn 4 RX9) (hr : meth.sig.returnType = (some .int)) {X : Int32 × Hp} {k54 : Nat → Int32 → Int32 → Hp → Rv Int32} (K54 : ∀ (y0 : Nat) (y1 : Int32) (y2 : Int32) (h : Hp), k54 y0 y1 y2 h = some X → GW base D cA p l e rm_X9_freeIn s m args below meth c (MQ below (QcI base D cA X.1 X.2) args s 0 0 (AA base)) 4 h 0 0 54 [(0, .ref (base + y0)), (1, .int y1), (2, .int y2)] []) : ∀ (n : Nat) (v0 : Nat) (v1 : Int32) (v2 : Int32) (h : Hp), s_X9_freeIn_L25 k54 n v0 v1 v2 h = some X → GW base D cA p l e rm_X9_freeIn s m args below meth c (MQ below (QcI base D cA X.1 X.2) args s 0 0 (AA base)) 4 h 0 0 25 [(0, .ref (base + v0)), (1, .int v1), (2, .int v2)] [] := by
  intro n
  induction n with
  | zero =>
    intro v0 v1 v2 h E
    rw [s_X9_freeIn_L25] at E
    cases E
  | succ n ih =>
    intro v0 v1 v2 h E
    rw [s_X9_freeIn_L25] at E
    refine g_iload_n C 2 dX9_freeIn_25 rfl rfl ?_
    refine g_sipush C 600 dX9_freeIn_26 rfl ?_
    refine g_icmp_ge C 54 dX9_freeIn_29 (by decide) E (fun E => ?_) (fun E => ?_)
    · refine g_sub (lv' := [(0, .ref (base + v0)), (1, .int v1), (2, .int v2)]) [0, 1, 2] rfl ?_
      exact K54 v0 v1 v2 h E
    · refine g_aload_n C 0 dX9_freeIn_32 rfl rfl ?_
      refine g_iload_n C 1 dX9_freeIn_33 rfl rfl ?_
      refine g_bipush C 13 dX9_freeIn_34 rfl ?_
      refine g_invI C (q := (RX9, TX9, 13)) [.int v1, .int 13] dX9_freeIn_36 cl_X9_49 cv_X9_part rfl (by decide) rfl rfl ⟨Nat.le_of_ble_eq_true rfl, Nat.le_of_ble_eq_true rfl⟩ (Nat.le_of_ble_eq_true rfl) ⟨Nat.le_of_ble_eq_true rfl, Nat.le_of_ble_eq_true rfl⟩ rfl (fun r' h' E => o_X9_part l base D cA v0 v1 13 h r' h' E) E (fun x1 h2 E => ?_)
      refine g_iconst C 2 dX9_freeIn_39 rfl ?_
      refine g_icmp_ne C 54 dX9_freeIn_40 (by decide) E (fun E => ?_) (fun E => ?_)
      · refine g_sub (lv' := [(0, .ref (base + v0)), (1, .int v1), (2, .int v2)]) [0, 1, 2] rfl ?_
        exact K54 v0 v1 v2 h2 E
      · refine g_aload_n C 0 dX9_freeIn_43 rfl rfl ?_
        refine g_invI C (q := (RX9, TX9, 13)) [] dX9_freeIn_44 cl_X9_142 cv_X9_minute rfl (by decide) rfl rfl ⟨Nat.le_of_ble_eq_true rfl, Nat.le_of_ble_eq_true rfl⟩ (Nat.le_of_ble_eq_true rfl) ⟨Nat.le_of_ble_eq_true rfl, Nat.le_of_ble_eq_true rfl⟩ rfl (fun r' h' E => o_X9_minute l base D cA v0 h2 r' h' E) E (fun x3 h4 E => ?_)
        refine g_pop C dX9_freeIn_47 rfl ?_
        refine g_iinc C (lv' := [(2, .int (v2 + 1)), (0, .ref (base + v0)), (1, .int v1)]) 2 1 dX9_freeIn_48 rfl rfl (by decide) rfl ?_
        refine g_goto C 25 dX9_freeIn_51 (by decide) ?_
        refine g_sub (lv' := [(0, .ref (base + v0)), (1, .int v1), (2, .int (v2 + 1))]) [1, 2, 0] rfl ?_
        exact ih v0 v1 (v2 + 1) h4 E
set_option maxRecDepth 100000 in
set_option maxHeartbeats 4000000 in
theorem o_X9_freeIn_J54 {l : Launch} {base : Nat} {D : va_G} {cA : Nat → ClassId} {p : Program} {e : Env} {s : State} {m : MethodId} {args : Array Value} {below : List Frame} {meth : Method} {c : Code} (C : GC base D cA p s m args meth c cX9_freeIn 4 RX9) (hr : meth.sig.returnType = (some .int)) {X : Int32 × Hp} : ∀ (v0 : Nat) (v1 : Int32) (v2 : Int32) (h : Hp), s_X9_freeIn_J54 v0 v1 v2 h = some X → GW base D cA p l e rm_X9_freeIn s m args below meth c (MQ below (QcI base D cA X.1 X.2) args s 0 0 (AA base)) 4 h 0 0 54 [(0, .ref (base + v0)), (1, .int v1), (2, .int v2)] [] := by
  intro v0 v1 v2 h E
  unfold s_X9_freeIn_J54 at E
  refine g_aload_n C 0 dX9_freeIn_54 rfl rfl ?_
  refine g_iload_n C 1 dX9_freeIn_55 rfl rfl ?_
  refine g_bipush C 13 dX9_freeIn_56 rfl ?_
  refine g_invI C (q := (RX9, TX9, 13)) [.int v1, .int 13] dX9_freeIn_58 cl_X9_49 cv_X9_part rfl (by decide) rfl rfl ⟨Nat.le_of_ble_eq_true rfl, Nat.le_of_ble_eq_true rfl⟩ (Nat.le_of_ble_eq_true rfl) ⟨Nat.le_of_ble_eq_true rfl, Nat.le_of_ble_eq_true rfl⟩ rfl (fun r' h' E => o_X9_part l base D cA v0 v1 13 h r' h' E) E (fun x1 h2 E => ?_)
  refine g_iconst C 2 dX9_freeIn_61 rfl ?_
  refine g_icmp_ne C 70 dX9_freeIn_62 (by decide) E (fun E => ?_) (fun E => ?_)
  · refine g_iload_n C 2 dX9_freeIn_70 rfl rfl ?_
    refine g_istore_n C (lv' := [(3, .int v2), (0, .ref (base + v0)), (1, .int v1), (2, .int v2)]) dX9_freeIn_71 rfl (by decide) rfl ?_
    refine g_aload_n C 1 dX9_freeIn_72 rfl rfl ?_
    refine g_getR C dX9_freeIn_73 fl_X9_13 rfl E (fun x3 E => ?_)
    refine g_iconst C 0 dX9_freeIn_76 rfl ?_
    refine g_aload_n C 1 dX9_freeIn_77 rfl rfl ?_
    refine g_getR C dX9_freeIn_78 fl_X9_7 rfl E (fun x4 E => ?_)
    refine g_iconst C 0 dX9_freeIn_81 rfl ?_
    refine g_staU C [.ref (base + x3), .int 0, .ref (base + x4), .int 0] dX9_freeIn_82 cl_X9_41 cs_X9_copy rfl rfl ⟨Nat.le_of_ble_eq_true rfl, Nat.le_of_ble_eq_true rfl⟩ (Nat.le_of_ble_eq_true rfl) ⟨Nat.le_of_ble_eq_true rfl, Nat.le_of_ble_eq_true rfl⟩ rfl (fun r' h' E => o_X9_copy l base D cA x3 0 x4 0 h2 r' h' E) E (fun x5 h6 E => ?_)
    refine g_iload_n C 0 dX9_freeIn_85 rfl rfl ?_
    exact g_iret C dX9_freeIn_86 hr E
  · refine g_bipush C (-5) dX9_freeIn_65 rfl ?_
    refine g_goto C 71 dX9_freeIn_67 (by decide) ?_
    refine g_istore_n C (lv' := [(3, .int (-5)), (0, .ref (base + v0)), (1, .int v1), (2, .int v2)]) dX9_freeIn_71 rfl (by decide) rfl ?_
    refine g_aload_n C 1 dX9_freeIn_72 rfl rfl ?_
    refine g_getR C dX9_freeIn_73 fl_X9_13 rfl E (fun x7 E => ?_)
    refine g_iconst C 0 dX9_freeIn_76 rfl ?_
    refine g_aload_n C 1 dX9_freeIn_77 rfl rfl ?_
    refine g_getR C dX9_freeIn_78 fl_X9_7 rfl E (fun x8 E => ?_)
    refine g_iconst C 0 dX9_freeIn_81 rfl ?_
    refine g_staU C [.ref (base + x7), .int 0, .ref (base + x8), .int 0] dX9_freeIn_82 cl_X9_41 cs_X9_copy rfl rfl ⟨Nat.le_of_ble_eq_true rfl, Nat.le_of_ble_eq_true rfl⟩ (Nat.le_of_ble_eq_true rfl) ⟨Nat.le_of_ble_eq_true rfl, Nat.le_of_ble_eq_true rfl⟩ rfl (fun r' h' E => o_X9_copy l base D cA x7 0 x8 0 h2 r' h' E) E (fun x9 h10 E => ?_)
    refine g_iload_n C 0 dX9_freeIn_85 rfl rfl ?_
    exact g_iret C dX9_freeIn_86 hr E
set_option maxRecDepth 100000 in
set_option maxHeartbeats 4000000 in
theorem o_X9_freeIn (l : Launch) (base : Nat) (D : va_G) (cA : Nat → ClassId) (a0 : Nat) (a1 : Int32) (h : Hp) (r : Int32) (h' : Hp) (E : s_X9_freeIn a0 a1 h = some (r, h')) : Met l yX9_freeIn (.code yX9_freeIn cX9_freeIn 4 (some .int) :: wsA) rm_X9_freeIn (PcG base D cA [.ref (base + a0), .int a1] h) (QcI base D cA r h') 0 0 (AA base) := by
  refine g_met [.ref (base + a0), .int a1] (by decide) (Nat.le_of_ble_eq_true rfl) (fun p e s m args below meth c C hr hn => ?_)
  refine g_lv (lv' := [(0, .ref (base + a0)), (1, .int a1)]) rfl ?_
  unfold s_X9_freeIn at E
  refine g_aload_n C 0 dX9_freeIn_0 rfl rfl ?_
  refine g_iload_n C 1 dX9_freeIn_1 rfl rfl ?_
  refine g_invI C (q := (RX9, TX9, 13)) [.int a1] dX9_freeIn_2 cl_X9_154 cv_X9_isHouse rfl (by decide) rfl rfl ⟨Nat.le_of_ble_eq_true rfl, Nat.le_of_ble_eq_true rfl⟩ (Nat.le_of_ble_eq_true rfl) ⟨Nat.le_of_ble_eq_true rfl, Nat.le_of_ble_eq_true rfl⟩ rfl (fun r' h' E => o_X9_isHouse l base D cA a0 a1 h r' h' E) E (fun x1 h2 E => ?_)
  refine g_if_ne C 10 dX9_freeIn_5 (by decide) E (fun E => ?_) (fun E => ?_)
  · refine g_aload_n C 0 dX9_freeIn_10 rfl rfl ?_
    refine g_getR C dX9_freeIn_11 fl_X9_7 rfl E (fun x3 E => ?_)
    refine g_iconst C 0 dX9_freeIn_14 rfl ?_
    refine g_aload_n C 0 dX9_freeIn_15 rfl rfl ?_
    refine g_getR C dX9_freeIn_16 fl_X9_13 rfl E (fun x4 E => ?_)
    refine g_iconst C 0 dX9_freeIn_19 rfl ?_
    refine g_staU C [.ref (base + x3), .int 0, .ref (base + x4), .int 0] dX9_freeIn_20 cl_X9_41 cs_X9_copy rfl rfl ⟨Nat.le_of_ble_eq_true rfl, Nat.le_of_ble_eq_true rfl⟩ (Nat.le_of_ble_eq_true rfl) ⟨Nat.le_of_ble_eq_true rfl, Nat.le_of_ble_eq_true rfl⟩ rfl (fun r' h' E => o_X9_copy l base D cA x3 0 x4 0 h2 r' h' E) E (fun x5 h6 E => ?_)
    refine g_iconst C 0 dX9_freeIn_23 rfl ?_
    refine g_istore_n C (lv' := [(2, .int 0), (0, .ref (base + a0)), (1, .int a1)]) dX9_freeIn_24 rfl (by decide) rfl ?_
    refine g_sub (lv' := [(0, .ref (base + a0)), (1, .int a1), (2, .int 0)]) [1, 2, 0] rfl ?_
    refine o_X9_freeIn_L25 C hr ?_ _ a0 a1 0 h6 E
    · intro y7 y8 y9 h10 E
      refine g_sub (lv' := [(0, .ref (base + y7)), (1, .int y8), (2, .int y9)]) [0, 1, 2] rfl ?_
      exact o_X9_freeIn_J54 C hr y7 y8 y9 h10 E
  · refine g_iconst C (-1) dX9_freeIn_8 rfl ?_
    exact g_iret C dX9_freeIn_9 hr E
abbrev rm_X9_doorsThat : Room := { frames := 1, cells := 0, slots := 0, locals := 22 }
def s_X9_doorsThat_L4 : Nat → Nat → Int32 → Int32 → Int32 → Hp → Rv Int32
  | 0, _, _, _, _, _ => none
  | n + 1, v0, v1, v2, v3, h =>
    getR h v0 9 0 fun x1 =>
  ldI h x1 20 2 fun x2 =>
  if x2 ≤ v3 then retI v2 h
  else inv h v0 9 (s_X9_part v0 v3 13 h) fun x3 h =>
  if x3 = v1 then s_X9_doorsThat_L4 n v0 v1 (v2 + 1) (v3 + 1) h
  else s_X9_doorsThat_L4 n v0 v1 (v2 + 0) (v3 + 1) h
def s_X9_doorsThat (a0 : Nat) (a1 : Int32) (h : Hp) : Rv Int32 :=
  s_X9_doorsThat_L4 100000 a0 a1 0 0 h
set_option maxRecDepth 100000 in
set_option maxHeartbeats 4000000 in
theorem o_X9_doorsThat_L4 {l : Launch} {base : Nat} {D : va_G} {cA : Nat → ClassId} {p : Program} {e : Env} {s : State} {m : MethodId} {args : Array Value} {below : List Frame} {meth : Method} {c : Code} (C : GC base D cA p s m args meth c cX9_doorsThat 4 RX9) (hr : meth.sig.returnType = (some .int)) {X : Int32 × Hp} : ∀ (n : Nat) (v0 : Nat) (v1 : Int32) (v2 : Int32) (v3 : Int32) (h : Hp), s_X9_doorsThat_L4 n v0 v1 v2 v3 h = some X → GW base D cA p l e rm_X9_doorsThat s m args below meth c (MQ below (QcI base D cA X.1 X.2) args s 0 0 (AA base)) 4 h 0 0 4 [(0, .ref (base + v0)), (1, .int v1), (2, .int v2), (3, .int v3)] [] := by
  intro n
  induction n with
  | zero =>
    intro v0 v1 v2 v3 h E
    rw [s_X9_doorsThat_L4] at E
    cases E
  | succ n ih =>
    intro v0 v1 v2 v3 h E
    rw [s_X9_doorsThat_L4] at E
    refine g_iload_n C 3 dX9_doorsThat_4 rfl rfl ?_
    refine g_aload_n C 0 dX9_doorsThat_5 rfl rfl ?_
    refine g_getR C dX9_doorsThat_6 fl_X9_7 rfl E (fun x1 E => ?_)
    refine g_iconst C 2 dX9_doorsThat_9 rfl ?_
    refine g_iald C dX9_doorsThat_10 E (fun x2 E => ?_)
    refine g_icmp_ge C 39 dX9_doorsThat_11 (by decide) E (fun E => ?_) (fun E => ?_)
    · refine g_iload_n C 2 dX9_doorsThat_39 rfl rfl ?_
      exact g_iret C dX9_doorsThat_40 hr E
    · refine g_iload_n C 2 dX9_doorsThat_14 rfl rfl ?_
      refine g_aload_n C 0 dX9_doorsThat_15 rfl rfl ?_
      refine g_iload_n C 3 dX9_doorsThat_16 rfl rfl ?_
      refine g_bipush C 13 dX9_doorsThat_17 rfl ?_
      refine g_invI C (q := (RX9, TX9, 13)) [.int v3, .int 13] dX9_doorsThat_19 cl_X9_49 cv_X9_part rfl (by decide) rfl rfl ⟨Nat.le_of_ble_eq_true rfl, Nat.le_of_ble_eq_true rfl⟩ (Nat.le_of_ble_eq_true rfl) ⟨Nat.le_of_ble_eq_true rfl, Nat.le_of_ble_eq_true rfl⟩ rfl (fun r' h' E => o_X9_part l base D cA v0 v3 13 h r' h' E) E (fun x3 h4 E => ?_)
      refine g_iload_n C 1 dX9_doorsThat_22 rfl rfl ?_
      refine g_icmp_ne C 30 dX9_doorsThat_23 (by decide) E (fun E => ?_) (fun E => ?_)
      · refine g_iconst C 0 dX9_doorsThat_30 rfl ?_
        refine g_iadd C dX9_doorsThat_31 ?_
        refine g_istore_n C (lv' := [(2, .int (v2 + 0)), (0, .ref (base + v0)), (1, .int v1), (3, .int v3)]) dX9_doorsThat_32 rfl (by decide) rfl ?_
        refine g_iinc C (lv' := [(3, .int (v3 + 1)), (2, .int (v2 + 0)), (0, .ref (base + v0)), (1, .int v1)]) 3 1 dX9_doorsThat_33 rfl rfl (by decide) rfl ?_
        refine g_goto C 4 dX9_doorsThat_36 (by decide) ?_
        refine g_sub (lv' := [(0, .ref (base + v0)), (1, .int v1), (2, .int (v2 + 0)), (3, .int (v3 + 1))]) [2, 3, 1, 0] rfl ?_
        exact ih v0 v1 (v2 + 0) (v3 + 1) h4 E
      · refine g_iconst C 1 dX9_doorsThat_26 rfl ?_
        refine g_goto C 31 dX9_doorsThat_27 (by decide) ?_
        refine g_iadd C dX9_doorsThat_31 ?_
        refine g_istore_n C (lv' := [(2, .int (v2 + 1)), (0, .ref (base + v0)), (1, .int v1), (3, .int v3)]) dX9_doorsThat_32 rfl (by decide) rfl ?_
        refine g_iinc C (lv' := [(3, .int (v3 + 1)), (2, .int (v2 + 1)), (0, .ref (base + v0)), (1, .int v1)]) 3 1 dX9_doorsThat_33 rfl rfl (by decide) rfl ?_
        refine g_goto C 4 dX9_doorsThat_36 (by decide) ?_
        refine g_sub (lv' := [(0, .ref (base + v0)), (1, .int v1), (2, .int (v2 + 1)), (3, .int (v3 + 1))]) [2, 3, 1, 0] rfl ?_
        exact ih v0 v1 (v2 + 1) (v3 + 1) h4 E
set_option maxRecDepth 100000 in
set_option maxHeartbeats 4000000 in
theorem o_X9_doorsThat (l : Launch) (base : Nat) (D : va_G) (cA : Nat → ClassId) (a0 : Nat) (a1 : Int32) (h : Hp) (r : Int32) (h' : Hp) (E : s_X9_doorsThat a0 a1 h = some (r, h')) : Met l yX9_doorsThat (.code yX9_doorsThat cX9_doorsThat 4 (some .int) :: wsA) rm_X9_doorsThat (PcG base D cA [.ref (base + a0), .int a1] h) (QcI base D cA r h') 0 0 (AA base) := by
  refine g_met [.ref (base + a0), .int a1] (by decide) (Nat.le_of_ble_eq_true rfl) (fun p e s m args below meth c C hr hn => ?_)
  refine g_lv (lv' := [(0, .ref (base + a0)), (1, .int a1)]) rfl ?_
  unfold s_X9_doorsThat at E
  refine g_iconst C 0 dX9_doorsThat_0 rfl ?_
  refine g_istore_n C (lv' := [(2, .int 0), (0, .ref (base + a0)), (1, .int a1)]) dX9_doorsThat_1 rfl (by decide) rfl ?_
  refine g_iconst C 0 dX9_doorsThat_2 rfl ?_
  refine g_istore_n C (lv' := [(3, .int 0), (2, .int 0), (0, .ref (base + a0)), (1, .int a1)]) dX9_doorsThat_3 rfl (by decide) rfl ?_
  refine g_sub (lv' := [(0, .ref (base + a0)), (1, .int a1), (2, .int 0), (3, .int 0)]) [2, 3, 1, 0] rfl ?_
  exact o_X9_doorsThat_L4 C hr _ a0 a1 0 0 h E
