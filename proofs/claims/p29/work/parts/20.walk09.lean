abbrev rm_X10_program : Room := { frames := 5, cells := 3, slots := 131, locals := 108 }
def s_X10_program_J211 (k17 : Nat → Int32 → Int32 → Nat → Nat → Int32 → Int32 → Hp → Rv Int32) (v0 : Nat) (v1 : Int32) (v2 : Int32) (v3 : Nat) (v4 : Nat) (v5 : Int32) (v6 : Int32) (v9 : Int32) (v10 : Int32) (h : Hp) : Rv Int32 :=
  ldI h v3 20 ((16 * v1) + 5) fun x6 =>
  if x6 = 1 then k17 v0 v1 v2 v3 v4 v5 (v6 + 1) h
  else stI h v4 20 ((8 * v1) + v6) ((1000 * v10) + v9) fun h =>
  k17 v0 v1 v2 v3 v4 v5 (v6 + 1) h
def s_X10_program_J187 (k17 : Nat → Int32 → Int32 → Nat → Nat → Int32 → Int32 → Hp → Rv Int32) (v0 : Nat) (v1 : Int32) (v2 : Int32) (v3 : Nat) (v4 : Nat) (v5 : Int32) (v6 : Int32) (v9 : Int32) (v10 : Int32) (h : Hp) : Rv Int32 :=
  if v10 ≤ 0 then s_X10_program_J211 (fun y0 y1 y2 y3 y4 y5 y6 h => k17 y0 y1 y2 y3 y4 y5 y6 h) v0 v1 v2 v3 v4 v5 v6 v9 v10 h
  else remI v10 10 fun x7 =>
  inv h v0 8 (s_X8_type v0 (((48 + x7).toUInt32 % 65536).toInt32) h) fun x8 h =>
  if 1 ≤ x8 then s_X10_program_J211 (fun y0 y1 y2 y3 y4 y5 y6 h => k17 y0 y1 y2 y3 y4 y5 y6 h) v0 v1 v2 v3 v4 v5 v6 v9 v10 h
  else retZ 0 h
def s_X10_program_J152 (k17 : Nat → Int32 → Int32 → Nat → Nat → Int32 → Int32 → Hp → Rv Int32) (v0 : Nat) (v1 : Int32) (v2 : Int32) (v3 : Nat) (v4 : Nat) (v5 : Int32) (v6 : Int32) (v9 : Int32) (v10 : Int32) (h : Hp) : Rv Int32 :=
  inv h v0 8 (s_X8_type v0 ((v9.toUInt32 % 65536).toInt32) h) fun x5 h =>
  if x5 < 1 then retZ 0 h
  else if v10 < 10 then s_X10_program_J187 (fun y0 y1 y2 y3 y4 y5 y6 h => k17 y0 y1 y2 y3 y4 y5 y6 h) v0 v1 v2 v3 v4 v5 v6 v9 v10 h
  else divI v10 10 fun x9 =>
  inv h v0 8 (s_X8_type v0 (((48 + x9).toUInt32 % 65536).toInt32) h) fun x10 h =>
  if x10 < 1 then retZ 0 h
  else s_X10_program_J187 (fun y0 y1 y2 y3 y4 y5 y6 h => k17 y0 y1 y2 y3 y4 y5 y6 h) v0 v1 v2 v3 v4 v5 v6 v9 v10 h
def s_X10_program_J135 (k17 : Nat → Int32 → Int32 → Nat → Nat → Int32 → Int32 → Hp → Rv Int32) (v0 : Nat) (v1 : Int32) (v2 : Int32) (v3 : Nat) (v4 : Nat) (v5 : Int32) (v6 : Int32) (v9 : Int32) (w0 : Int32) (h : Hp) : Rv Int32 :=
  if v6 ≤ 0 then s_X10_program_J152 (fun y0 y1 y2 y3 y4 y5 y6 h => k17 y0 y1 y2 y3 y4 y5 y6 h) v0 v1 v2 v3 v4 v5 v6 v9 w0 h
  else inv h v0 8 (s_X8_type v0 59 h) fun x11 h =>
  if x11 < 1 then retZ 0 h
  else s_X10_program_J152 (fun y0 y1 y2 y3 y4 y5 y6 h => k17 y0 y1 y2 y3 y4 y5 y6 h) v0 v1 v2 v3 v4 v5 v6 v9 w0 h
def s_X10_program_J89 (k17 : Nat → Int32 → Int32 → Nat → Nat → Int32 → Int32 → Hp → Rv Int32) (v0 : Nat) (v1 : Int32) (v2 : Int32) (v3 : Nat) (v4 : Nat) (v5 : Int32) (v6 : Int32) (v7 : Int32) (w0 : Int32) (h : Hp) : Rv Int32 :=
  if w0 = 100 then s_X10_program_J135 (fun y0 y1 y2 y3 y4 y5 y6 h => k17 y0 y1 y2 y3 y4 y5 y6 h) v0 v1 v2 v3 v4 v5 v6 w0 0 h
  else if w0 = 104 then bnd (s_X10_low (shrI v7 2) 60 h) fun x12 h =>
  s_X10_program_J135 (fun y0 y1 y2 y3 y4 y5 y6 h => k17 y0 y1 y2 y3 y4 y5 y6 h) v0 v1 v2 v3 v4 v5 v6 w0 (16 + x12) h
  else bnd (s_X10_low (shrI v7 2) 20 h) fun x4 h =>
  s_X10_program_J135 (fun y0 y1 y2 y3 y4 y5 y6 h => k17 y0 y1 y2 y3 y4 y5 y6 h) v0 v1 v2 v3 v4 v5 v6 w0 (1 + x4) h
def s_X10_program_L17 (k248 : Nat → Int32 → Nat → Int32 → Hp → Rv Int32) : Nat → Nat → Int32 → Int32 → Nat → Nat → Int32 → Int32 → Hp → Rv Int32
  | 0, _, _, _, _, _, _, _, _ => none
  | n + 1, v0, v1, v2, v3, v4, v5, v6, h =>
    if v5 ≤ v6 then k248 v0 v1 v3 v5 h
  else bnd (s_X10_low (shrI v2 (2 + (5 * v6))) 6 h) fun x3 h =>
  if 2 ≤ x3 then if x3 = 2 then s_X10_program_J89 (fun y0 y1 y2 y3 y4 y5 y6 h => s_X10_program_L17 k248 n y0 y1 y2 y3 y4 y5 y6 h) v0 v1 v2 v3 v4 v5 v6 (shrI v2 (2 + (5 * v6))) 104 h
  else if x3 = 3 then s_X10_program_J89 (fun y0 y1 y2 y3 y4 y5 y6 h => s_X10_program_L17 k248 n y0 y1 y2 y3 y4 y5 y6 h) v0 v1 v2 v3 v4 v5 v6 (shrI v2 (2 + (5 * v6))) 119 h
  else if x3 = 4 then s_X10_program_J89 (fun y0 y1 y2 y3 y4 y5 y6 h => s_X10_program_L17 k248 n y0 y1 y2 y3 y4 y5 y6 h) v0 v1 v2 v3 v4 v5 v6 (shrI v2 (2 + (5 * v6))) 100 h
  else s_X10_program_J89 (fun y0 y1 y2 y3 y4 y5 y6 h => s_X10_program_L17 k248 n y0 y1 y2 y3 y4 y5 y6 h) v0 v1 v2 v3 v4 v5 v6 (shrI v2 (2 + (5 * v6))) 115 h
  else s_X10_program_J89 (fun y0 y1 y2 y3 y4 y5 y6 h => s_X10_program_L17 k248 n y0 y1 y2 y3 y4 y5 y6 h) v0 v1 v2 v3 v4 v5 v6 (shrI v2 (2 + (5 * v6))) 102 h
def s_X10_program (a0 : Nat) (a1 : Int32) (a2 : Int32) (a3 : Nat) (a4 : Nat) (h : Hp) : Rv Int32 :=
  bnd (s_X10_low a2 4 h) fun x1 h =>
  inv h a0 8 (s_X8_clearText a0 h) fun x2 h =>
  s_X10_program_L17 (fun y0 y1 y2 y3 h => ldI h y2 20 ((16 * y1) + 5) fun x13 =>
  if x13 = 1 then inv h y0 8 (s_X8_readProgram y0 y1 h) fun x15 h =>
  if x15 = (-4) then retZ 1 h
  else retZ 0 h
  else stI h y2 20 ((16 * y1) + 11) y3 fun h =>
  inv h y0 8 (s_X8_readProgram y0 y1 h) fun x14 h =>
  if x14 = y3 then retZ 1 h
  else retZ 0 h) 100000 a0 a1 a2 a3 a4 (1 + x1) 0 h
set_option maxRecDepth 100000 in
set_option maxHeartbeats 4000000 in
theorem o_X10_program_J211 {l : Launch} {base : Nat} {D : va_G} {cA : Nat → ClassId} {p : Program} {e : Env} {s : State} {m : MethodId} {args : Array Value} {below : List Frame} {meth : Method} {c : Code} (C : GC base D cA p s m args meth c cX10_program 11 RX10) (hr : meth.sig.returnType = (some .boolean)) {X : Int32 × Hp} {k17 : Nat → Int32 → Int32 → Nat → Nat → Int32 → Int32 → Hp → Rv Int32} (K17 : ∀ (y0 : Nat) (y1 : Int32) (y2 : Int32) (y3 : Nat) (y4 : Nat) (y5 : Int32) (y6 : Int32) (h : Hp), k17 y0 y1 y2 y3 y4 y5 y6 h = some X → GW base D cA p l e rm_X10_program s m args below meth c (MQ below (QcI base D cA X.1 X.2) args s 3 131 (AA base)) 11 h 0 0 17 [(0, .ref (base + y0)), (1, .int y1), (2, .int y2), (3, .ref (base + y3)), (4, .ref (base + y4)), (5, .int y5), (6, .int y6)] []) : ∀ (v0 : Nat) (v1 : Int32) (v2 : Int32) (v3 : Nat) (v4 : Nat) (v5 : Int32) (v6 : Int32) (v9 : Int32) (v10 : Int32) (h : Hp), s_X10_program_J211 k17 v0 v1 v2 v3 v4 v5 v6 v9 v10 h = some X → GW base D cA p l e rm_X10_program s m args below meth c (MQ below (QcI base D cA X.1 X.2) args s 3 131 (AA base)) 11 h 0 0 211 [(0, .ref (base + v0)), (1, .int v1), (2, .int v2), (3, .ref (base + v3)), (4, .ref (base + v4)), (5, .int v5), (6, .int v6), (9, .int v9), (10, .int v10)] [] := by
  intro v0 v1 v2 v3 v4 v5 v6 v9 v10 h E
  unfold s_X10_program_J211 at E
  refine g_aload_n C 3 dX10_program_211 rfl rfl ?_
  refine g_bipush C 16 dX10_program_212 rfl ?_
  refine g_iload_n C 1 dX10_program_214 rfl rfl ?_
  refine g_imul C dX10_program_215 ?_
  refine g_iconst C 5 dX10_program_216 rfl ?_
  refine g_iadd C dX10_program_217 ?_
  refine g_iald C dX10_program_218 E (fun x1 E => ?_)
  refine g_iconst C 1 dX10_program_219 rfl ?_
  refine g_icmp_eq C 242 dX10_program_220 (by decide) E (fun E => ?_) (fun E => ?_)
  · refine g_iinc C (lv' := [(6, .int (v6 + 1)), (0, .ref (base + v0)), (1, .int v1), (2, .int v2), (3, .ref (base + v3)), (4, .ref (base + v4)), (5, .int v5), (9, .int v9), (10, .int v10)]) 6 1 dX10_program_242 rfl rfl (by decide) rfl ?_
    refine g_goto C 17 dX10_program_245 (by decide) ?_
    refine g_sub (lv' := [(0, .ref (base + v0)), (1, .int v1), (2, .int v2), (3, .ref (base + v3)), (4, .ref (base + v4)), (5, .int v5), (6, .int (v6 + 1))]) [1, 2, 3, 4, 5, 6, 0] rfl ?_
    exact K17 v0 v1 v2 v3 v4 v5 (v6 + 1) h E
  · refine g_aload C 4 dX10_program_223 rfl ?_
    refine g_bipush C 8 dX10_program_225 rfl ?_
    refine g_iload_n C 1 dX10_program_227 rfl rfl ?_
    refine g_imul C dX10_program_228 ?_
    refine g_iload C 6 dX10_program_229 rfl ?_
    refine g_iadd C dX10_program_231 ?_
    refine g_sipush C 1000 dX10_program_232 rfl ?_
    refine g_iload C 8 dX10_program_235 rfl ?_
    refine g_imul C dX10_program_237 ?_
    refine g_iload C 7 dX10_program_238 rfl ?_
    refine g_iadd C dX10_program_240 ?_
    refine g_iast C dX10_program_241 E (fun h2 E => ?_)
    refine g_iinc C (lv' := [(6, .int (v6 + 1)), (0, .ref (base + v0)), (1, .int v1), (2, .int v2), (3, .ref (base + v3)), (4, .ref (base + v4)), (5, .int v5), (9, .int v9), (10, .int v10)]) 6 1 dX10_program_242 rfl rfl (by decide) rfl ?_
    refine g_goto C 17 dX10_program_245 (by decide) ?_
    refine g_sub (lv' := [(0, .ref (base + v0)), (1, .int v1), (2, .int v2), (3, .ref (base + v3)), (4, .ref (base + v4)), (5, .int v5), (6, .int (v6 + 1))]) [1, 2, 3, 4, 5, 6, 0] rfl ?_
    exact K17 v0 v1 v2 v3 v4 v5 (v6 + 1) h2 E
set_option maxRecDepth 100000 in
set_option maxHeartbeats 4000000 in
theorem o_X10_program_J187 {l : Launch} {base : Nat} {D : va_G} {cA : Nat → ClassId} {p : Program} {e : Env} {s : State} {m : MethodId} {args : Array Value} {below : List Frame} {meth : Method} {c : Code} (C : GC base D cA p s m args meth c cX10_program 11 RX10) (hr : meth.sig.returnType = (some .boolean)) {X : Int32 × Hp} {k17 : Nat → Int32 → Int32 → Nat → Nat → Int32 → Int32 → Hp → Rv Int32} (K17 : ∀ (y0 : Nat) (y1 : Int32) (y2 : Int32) (y3 : Nat) (y4 : Nat) (y5 : Int32) (y6 : Int32) (h : Hp), k17 y0 y1 y2 y3 y4 y5 y6 h = some X → GW base D cA p l e rm_X10_program s m args below meth c (MQ below (QcI base D cA X.1 X.2) args s 3 131 (AA base)) 11 h 0 0 17 [(0, .ref (base + y0)), (1, .int y1), (2, .int y2), (3, .ref (base + y3)), (4, .ref (base + y4)), (5, .int y5), (6, .int y6)] []) : ∀ (v0 : Nat) (v1 : Int32) (v2 : Int32) (v3 : Nat) (v4 : Nat) (v5 : Int32) (v6 : Int32) (v9 : Int32) (v10 : Int32) (h : Hp), s_X10_program_J187 k17 v0 v1 v2 v3 v4 v5 v6 v9 v10 h = some X → GW base D cA p l e rm_X10_program s m args below meth c (MQ below (QcI base D cA X.1 X.2) args s 3 131 (AA base)) 11 h 0 0 187 [(0, .ref (base + v0)), (1, .int v1), (2, .int v2), (3, .ref (base + v3)), (4, .ref (base + v4)), (5, .int v5), (6, .int v6), (9, .int v9), (10, .int v10)] [] := by
  intro v0 v1 v2 v3 v4 v5 v6 v9 v10 h E
  unfold s_X10_program_J187 at E
  refine g_iload C 8 dX10_program_187 rfl ?_
  refine g_if_le C 211 dX10_program_189 (by decide) E (fun E => ?_) (fun E => ?_)
  · refine g_sub (lv' := [(0, .ref (base + v0)), (1, .int v1), (2, .int v2), (3, .ref (base + v3)), (4, .ref (base + v4)), (5, .int v5), (6, .int v6), (9, .int v9), (10, .int v10)]) [0, 1, 2, 3, 4, 5, 6, 7, 8] rfl ?_
    refine o_X10_program_J211 C hr ?_ v0 v1 v2 v3 v4 v5 v6 v9 v10 h E
    · intro y1 y2 y3 y4 y5 y6 y7 h8 E
      refine g_sub (lv' := [(0, .ref (base + y1)), (1, .int y2), (2, .int y3), (3, .ref (base + y4)), (4, .ref (base + y5)), (5, .int y6), (6, .int y7)]) [0, 1, 2, 3, 4, 5, 6] rfl ?_
      exact K17 y1 y2 y3 y4 y5 y6 y7 h8 E
  · refine g_aload_n C 0 dX10_program_192 rfl rfl ?_
    refine g_bipush C 48 dX10_program_193 rfl ?_
    refine g_iload C 8 dX10_program_195 rfl ?_
    refine g_bipush C 10 dX10_program_197 rfl ?_
    refine g_irem C dX10_program_199 E (fun x9 E => ?_)
    refine g_iadd C dX10_program_200 ?_
    refine g_i2c C dX10_program_201 ?_
    refine g_invI C (q := (RX8, TX8, 7)) [.int (((48 + x9).toUInt32 % 65536).toInt32)] dX10_program_202 cl_X10_71 cv_X8_type rfl (by decide) rfl rfl ⟨Nat.le_of_ble_eq_true rfl, Nat.le_of_ble_eq_true rfl⟩ (Nat.le_of_ble_eq_true rfl) ⟨Nat.le_of_ble_eq_true rfl, Nat.le_of_ble_eq_true rfl⟩ rfl (fun r' h' E => o_X8_type l base D cA v0 (((48 + x9).toUInt32 % 65536).toInt32) h r' h' E) E (fun x10 h11 E => ?_)
    refine g_iconst C 1 dX10_program_205 rfl ?_
    refine g_icmp_ge C 211 dX10_program_206 (by decide) E (fun E => ?_) (fun E => ?_)
    · refine g_sub (lv' := [(0, .ref (base + v0)), (1, .int v1), (2, .int v2), (3, .ref (base + v3)), (4, .ref (base + v4)), (5, .int v5), (6, .int v6), (9, .int v9), (10, .int v10)]) [0, 1, 2, 3, 4, 5, 6, 7, 8] rfl ?_
      refine o_X10_program_J211 C hr ?_ v0 v1 v2 v3 v4 v5 v6 v9 v10 h11 E
      · intro y12 y13 y14 y15 y16 y17 y18 h19 E
        refine g_sub (lv' := [(0, .ref (base + y12)), (1, .int y13), (2, .int y14), (3, .ref (base + y15)), (4, .ref (base + y16)), (5, .int y17), (6, .int y18)]) [0, 1, 2, 3, 4, 5, 6] rfl ?_
        exact K17 y12 y13 y14 y15 y16 y17 y18 h19 E
    · refine g_iconst C 0 dX10_program_209 rfl ?_
      refine g_widen 3 131 (by decide) (by decide) ?_
      exact g_zret C dX10_program_210 hr E
set_option maxRecDepth 100000 in
set_option maxHeartbeats 4000000 in
theorem o_X10_program_J152 {l : Launch} {base : Nat} {D : va_G} {cA : Nat → ClassId} {p : Program} {e : Env} {s : State} {m : MethodId} {args : Array Value} {below : List Frame} {meth : Method} {c : Code} (C : GC base D cA p s m args meth c cX10_program 11 RX10) (hr : meth.sig.returnType = (some .boolean)) {X : Int32 × Hp} {k17 : Nat → Int32 → Int32 → Nat → Nat → Int32 → Int32 → Hp → Rv Int32} (K17 : ∀ (y0 : Nat) (y1 : Int32) (y2 : Int32) (y3 : Nat) (y4 : Nat) (y5 : Int32) (y6 : Int32) (h : Hp), k17 y0 y1 y2 y3 y4 y5 y6 h = some X → GW base D cA p l e rm_X10_program s m args below meth c (MQ below (QcI base D cA X.1 X.2) args s 3 131 (AA base)) 11 h 0 0 17 [(0, .ref (base + y0)), (1, .int y1), (2, .int y2), (3, .ref (base + y3)), (4, .ref (base + y4)), (5, .int y5), (6, .int y6)] []) : ∀ (v0 : Nat) (v1 : Int32) (v2 : Int32) (v3 : Nat) (v4 : Nat) (v5 : Int32) (v6 : Int32) (v9 : Int32) (v10 : Int32) (h : Hp), s_X10_program_J152 k17 v0 v1 v2 v3 v4 v5 v6 v9 v10 h = some X → GW base D cA p l e rm_X10_program s m args below meth c (MQ below (QcI base D cA X.1 X.2) args s 3 131 (AA base)) 11 h 0 0 152 [(0, .ref (base + v0)), (1, .int v1), (2, .int v2), (3, .ref (base + v3)), (4, .ref (base + v4)), (5, .int v5), (6, .int v6), (9, .int v9), (10, .int v10)] [] := by
  intro v0 v1 v2 v3 v4 v5 v6 v9 v10 h E
  unfold s_X10_program_J152 at E
  refine g_aload_n C 0 dX10_program_152 rfl rfl ?_
  refine g_iload C 7 dX10_program_153 rfl ?_
  refine g_i2c C dX10_program_155 ?_
  refine g_invI C (q := (RX8, TX8, 7)) [.int ((v9.toUInt32 % 65536).toInt32)] dX10_program_156 cl_X10_71 cv_X8_type rfl (by decide) rfl rfl ⟨Nat.le_of_ble_eq_true rfl, Nat.le_of_ble_eq_true rfl⟩ (Nat.le_of_ble_eq_true rfl) ⟨Nat.le_of_ble_eq_true rfl, Nat.le_of_ble_eq_true rfl⟩ rfl (fun r' h' E => o_X8_type l base D cA v0 ((v9.toUInt32 % 65536).toInt32) h r' h' E) E (fun x1 h2 E => ?_)
  refine g_iconst C 1 dX10_program_159 rfl ?_
  refine g_icmp_lt C 209 dX10_program_160 (by decide) E (fun E => ?_) (fun E => ?_)
  · refine g_iconst C 0 dX10_program_209 rfl ?_
    refine g_widen 3 131 (by decide) (by decide) ?_
    exact g_zret C dX10_program_210 hr E
  · refine g_iload C 8 dX10_program_163 rfl ?_
    refine g_bipush C 10 dX10_program_165 rfl ?_
    refine g_icmp_lt C 187 dX10_program_167 (by decide) E (fun E => ?_) (fun E => ?_)
    · refine g_sub (lv' := [(0, .ref (base + v0)), (1, .int v1), (2, .int v2), (3, .ref (base + v3)), (4, .ref (base + v4)), (5, .int v5), (6, .int v6), (9, .int v9), (10, .int v10)]) [0, 1, 2, 3, 4, 5, 6, 7, 8] rfl ?_
      refine o_X10_program_J187 C hr ?_ v0 v1 v2 v3 v4 v5 v6 v9 v10 h2 E
      · intro y3 y4 y5 y6 y7 y8 y9 h10 E
        refine g_sub (lv' := [(0, .ref (base + y3)), (1, .int y4), (2, .int y5), (3, .ref (base + y6)), (4, .ref (base + y7)), (5, .int y8), (6, .int y9)]) [0, 1, 2, 3, 4, 5, 6] rfl ?_
        exact K17 y3 y4 y5 y6 y7 y8 y9 h10 E
    · refine g_aload_n C 0 dX10_program_170 rfl rfl ?_
      refine g_bipush C 48 dX10_program_171 rfl ?_
      refine g_iload C 8 dX10_program_173 rfl ?_
      refine g_bipush C 10 dX10_program_175 rfl ?_
      refine g_idiv C dX10_program_177 E (fun x11 E => ?_)
      refine g_iadd C dX10_program_178 ?_
      refine g_i2c C dX10_program_179 ?_
      refine g_invI C (q := (RX8, TX8, 7)) [.int (((48 + x11).toUInt32 % 65536).toInt32)] dX10_program_180 cl_X10_71 cv_X8_type rfl (by decide) rfl rfl ⟨Nat.le_of_ble_eq_true rfl, Nat.le_of_ble_eq_true rfl⟩ (Nat.le_of_ble_eq_true rfl) ⟨Nat.le_of_ble_eq_true rfl, Nat.le_of_ble_eq_true rfl⟩ rfl (fun r' h' E => o_X8_type l base D cA v0 (((48 + x11).toUInt32 % 65536).toInt32) h2 r' h' E) E (fun x12 h13 E => ?_)
      refine g_iconst C 1 dX10_program_183 rfl ?_
      refine g_icmp_lt C 209 dX10_program_184 (by decide) E (fun E => ?_) (fun E => ?_)
      · refine g_iconst C 0 dX10_program_209 rfl ?_
        refine g_widen 3 131 (by decide) (by decide) ?_
        exact g_zret C dX10_program_210 hr E
      · refine g_sub (lv' := [(0, .ref (base + v0)), (1, .int v1), (2, .int v2), (3, .ref (base + v3)), (4, .ref (base + v4)), (5, .int v5), (6, .int v6), (9, .int v9), (10, .int v10)]) [0, 1, 2, 3, 4, 5, 6, 7, 8] rfl ?_
        refine o_X10_program_J187 C hr ?_ v0 v1 v2 v3 v4 v5 v6 v9 v10 h13 E
        · intro y14 y15 y16 y17 y18 y19 y20 h21 E
          refine g_sub (lv' := [(0, .ref (base + y14)), (1, .int y15), (2, .int y16), (3, .ref (base + y17)), (4, .ref (base + y18)), (5, .int y19), (6, .int y20)]) [0, 1, 2, 3, 4, 5, 6] rfl ?_
          exact K17 y14 y15 y16 y17 y18 y19 y20 h21 E
set_option maxRecDepth 100000 in
set_option maxHeartbeats 4000000 in
theorem o_X10_program_J135 {l : Launch} {base : Nat} {D : va_G} {cA : Nat → ClassId} {p : Program} {e : Env} {s : State} {m : MethodId} {args : Array Value} {below : List Frame} {meth : Method} {c : Code} (C : GC base D cA p s m args meth c cX10_program 11 RX10) (hr : meth.sig.returnType = (some .boolean)) {X : Int32 × Hp} {k17 : Nat → Int32 → Int32 → Nat → Nat → Int32 → Int32 → Hp → Rv Int32} (K17 : ∀ (y0 : Nat) (y1 : Int32) (y2 : Int32) (y3 : Nat) (y4 : Nat) (y5 : Int32) (y6 : Int32) (h : Hp), k17 y0 y1 y2 y3 y4 y5 y6 h = some X → GW base D cA p l e rm_X10_program s m args below meth c (MQ below (QcI base D cA X.1 X.2) args s 3 131 (AA base)) 11 h 0 0 17 [(0, .ref (base + y0)), (1, .int y1), (2, .int y2), (3, .ref (base + y3)), (4, .ref (base + y4)), (5, .int y5), (6, .int y6)] []) : ∀ (v0 : Nat) (v1 : Int32) (v2 : Int32) (v3 : Nat) (v4 : Nat) (v5 : Int32) (v6 : Int32) (v9 : Int32) (w0 : Int32) (h : Hp), s_X10_program_J135 k17 v0 v1 v2 v3 v4 v5 v6 v9 w0 h = some X → GW base D cA p l e rm_X10_program s m args below meth c (MQ below (QcI base D cA X.1 X.2) args s 3 131 (AA base)) 11 h 0 0 135 [(0, .ref (base + v0)), (1, .int v1), (2, .int v2), (3, .ref (base + v3)), (4, .ref (base + v4)), (5, .int v5), (6, .int v6), (9, .int v9)] [.int w0] := by
  intro v0 v1 v2 v3 v4 v5 v6 v9 w0 h E
  unfold s_X10_program_J135 at E
  refine g_istore C (lv' := [(10, .int w0), (0, .ref (base + v0)), (1, .int v1), (2, .int v2), (3, .ref (base + v3)), (4, .ref (base + v4)), (5, .int v5), (6, .int v6), (9, .int v9)]) dX10_program_135 (by decide) rfl ?_
  refine g_iload C 7 dX10_program_137 rfl ?_
  refine g_if_le C 152 dX10_program_139 (by decide) E (fun E => ?_) (fun E => ?_)
  · refine g_sub (lv' := [(0, .ref (base + v0)), (1, .int v1), (2, .int v2), (3, .ref (base + v3)), (4, .ref (base + v4)), (5, .int v5), (6, .int v6), (9, .int v9), (10, .int w0)]) [1, 2, 3, 4, 5, 6, 7, 8, 0] rfl ?_
    refine o_X10_program_J152 C hr ?_ v0 v1 v2 v3 v4 v5 v6 v9 w0 h E
    · intro y1 y2 y3 y4 y5 y6 y7 h8 E
      refine g_sub (lv' := [(0, .ref (base + y1)), (1, .int y2), (2, .int y3), (3, .ref (base + y4)), (4, .ref (base + y5)), (5, .int y6), (6, .int y7)]) [0, 1, 2, 3, 4, 5, 6] rfl ?_
      exact K17 y1 y2 y3 y4 y5 y6 y7 h8 E
  · refine g_aload_n C 1 dX10_program_142 rfl rfl ?_
    refine g_bipush C 59 dX10_program_143 rfl ?_
    refine g_invI C (q := (RX8, TX8, 7)) [.int 59] dX10_program_145 cl_X10_71 cv_X8_type rfl (by decide) rfl rfl ⟨Nat.le_of_ble_eq_true rfl, Nat.le_of_ble_eq_true rfl⟩ (Nat.le_of_ble_eq_true rfl) ⟨Nat.le_of_ble_eq_true rfl, Nat.le_of_ble_eq_true rfl⟩ rfl (fun r' h' E => o_X8_type l base D cA v0 59 h r' h' E) E (fun x9 h10 E => ?_)
    refine g_iconst C 1 dX10_program_148 rfl ?_
    refine g_icmp_lt C 209 dX10_program_149 (by decide) E (fun E => ?_) (fun E => ?_)
    · refine g_iconst C 0 dX10_program_209 rfl ?_
      refine g_widen 3 131 (by decide) (by decide) ?_
      exact g_zret C dX10_program_210 hr E
    · refine g_sub (lv' := [(0, .ref (base + v0)), (1, .int v1), (2, .int v2), (3, .ref (base + v3)), (4, .ref (base + v4)), (5, .int v5), (6, .int v6), (9, .int v9), (10, .int w0)]) [1, 2, 3, 4, 5, 6, 7, 8, 0] rfl ?_
      refine o_X10_program_J152 C hr ?_ v0 v1 v2 v3 v4 v5 v6 v9 w0 h10 E
      · intro y11 y12 y13 y14 y15 y16 y17 h18 E
        refine g_sub (lv' := [(0, .ref (base + y11)), (1, .int y12), (2, .int y13), (3, .ref (base + y14)), (4, .ref (base + y15)), (5, .int y16), (6, .int y17)]) [0, 1, 2, 3, 4, 5, 6] rfl ?_
        exact K17 y11 y12 y13 y14 y15 y16 y17 h18 E
set_option maxRecDepth 100000 in
set_option maxHeartbeats 4000000 in
theorem o_X10_program_J89 {l : Launch} {base : Nat} {D : va_G} {cA : Nat → ClassId} {p : Program} {e : Env} {s : State} {m : MethodId} {args : Array Value} {below : List Frame} {meth : Method} {c : Code} (C : GC base D cA p s m args meth c cX10_program 11 RX10) (hr : meth.sig.returnType = (some .boolean)) {X : Int32 × Hp} {k17 : Nat → Int32 → Int32 → Nat → Nat → Int32 → Int32 → Hp → Rv Int32} (K17 : ∀ (y0 : Nat) (y1 : Int32) (y2 : Int32) (y3 : Nat) (y4 : Nat) (y5 : Int32) (y6 : Int32) (h : Hp), k17 y0 y1 y2 y3 y4 y5 y6 h = some X → GW base D cA p l e rm_X10_program s m args below meth c (MQ below (QcI base D cA X.1 X.2) args s 3 131 (AA base)) 11 h 0 0 17 [(0, .ref (base + y0)), (1, .int y1), (2, .int y2), (3, .ref (base + y3)), (4, .ref (base + y4)), (5, .int y5), (6, .int y6)] []) : ∀ (v0 : Nat) (v1 : Int32) (v2 : Int32) (v3 : Nat) (v4 : Nat) (v5 : Int32) (v6 : Int32) (v7 : Int32) (w0 : Int32) (h : Hp), s_X10_program_J89 k17 v0 v1 v2 v3 v4 v5 v6 v7 w0 h = some X → GW base D cA p l e rm_X10_program s m args below meth c (MQ below (QcI base D cA X.1 X.2) args s 3 131 (AA base)) 11 h 0 0 89 [(0, .ref (base + v0)), (1, .int v1), (2, .int v2), (3, .ref (base + v3)), (4, .ref (base + v4)), (5, .int v5), (6, .int v6), (7, .int v7)] [.int w0] := by
  intro v0 v1 v2 v3 v4 v5 v6 v7 w0 h E
  unfold s_X10_program_J89 at E
  refine g_istore C (lv' := [(9, .int w0), (0, .ref (base + v0)), (1, .int v1), (2, .int v2), (3, .ref (base + v3)), (4, .ref (base + v4)), (5, .int v5), (6, .int v6), (7, .int v7)]) dX10_program_89 (by decide) rfl ?_
  refine g_iload C 0 dX10_program_91 rfl ?_
  refine g_bipush C 100 dX10_program_93 rfl ?_
  refine g_icmp_ne C 102 dX10_program_95 (by decide) E (fun E => ?_) (fun E => ?_)
  · refine g_iload C 0 dX10_program_102 rfl ?_
    refine g_bipush C 104 dX10_program_104 rfl ?_
    refine g_icmp_ne C 124 dX10_program_106 (by decide) E (fun E => ?_) (fun E => ?_)
    · refine g_iconst C 1 dX10_program_124 rfl ?_
      refine g_iload C 8 dX10_program_125 rfl ?_
      refine g_iconst C 2 dX10_program_127 rfl ?_
      refine g_ishr C dX10_program_128 ?_
      refine g_bipush C 20 dX10_program_129 rfl ?_
      refine g_staI C [.int (shrI v7 2), .int 20] dX10_program_131 cl_X10_57 cs_X10_low rfl rfl ⟨Nat.le_of_ble_eq_true rfl, Nat.le_of_ble_eq_true rfl⟩ (Nat.le_of_ble_eq_true rfl) ⟨Nat.le_of_ble_eq_true rfl, Nat.le_of_ble_eq_true rfl⟩ rfl (fun r' h' E => o_X10_low l base D cA (shrI v7 2) 20 h r' h' E) E (fun x1 h2 E => ?_)
      refine g_iadd C dX10_program_134 ?_
      refine g_sub (lv' := [(0, .ref (base + v0)), (1, .int v1), (2, .int v2), (3, .ref (base + v3)), (4, .ref (base + v4)), (5, .int v5), (6, .int v6), (9, .int w0)]) [1, 2, 3, 4, 5, 6, 7, 0] rfl ?_
      refine o_X10_program_J135 C hr ?_ v0 v1 v2 v3 v4 v5 v6 w0 (1 + x1) h2 E
      · intro y3 y4 y5 y6 y7 y8 y9 h10 E
        refine g_sub (lv' := [(0, .ref (base + y3)), (1, .int y4), (2, .int y5), (3, .ref (base + y6)), (4, .ref (base + y7)), (5, .int y8), (6, .int y9)]) [0, 1, 2, 3, 4, 5, 6] rfl ?_
        exact K17 y3 y4 y5 y6 y7 y8 y9 h10 E
    · refine g_bipush C 16 dX10_program_109 rfl ?_
      refine g_iload C 8 dX10_program_111 rfl ?_
      refine g_iconst C 2 dX10_program_113 rfl ?_
      refine g_ishr C dX10_program_114 ?_
      refine g_bipush C 60 dX10_program_115 rfl ?_
      refine g_staI C [.int (shrI v7 2), .int 60] dX10_program_117 cl_X10_57 cs_X10_low rfl rfl ⟨Nat.le_of_ble_eq_true rfl, Nat.le_of_ble_eq_true rfl⟩ (Nat.le_of_ble_eq_true rfl) ⟨Nat.le_of_ble_eq_true rfl, Nat.le_of_ble_eq_true rfl⟩ rfl (fun r' h' E => o_X10_low l base D cA (shrI v7 2) 60 h r' h' E) E (fun x11 h12 E => ?_)
      refine g_iadd C dX10_program_120 ?_
      refine g_goto C 135 dX10_program_121 (by decide) ?_
      refine g_sub (lv' := [(0, .ref (base + v0)), (1, .int v1), (2, .int v2), (3, .ref (base + v3)), (4, .ref (base + v4)), (5, .int v5), (6, .int v6), (9, .int w0)]) [1, 2, 3, 4, 5, 6, 7, 0] rfl ?_
      refine o_X10_program_J135 C hr ?_ v0 v1 v2 v3 v4 v5 v6 w0 (16 + x11) h12 E
      · intro y13 y14 y15 y16 y17 y18 y19 h20 E
        refine g_sub (lv' := [(0, .ref (base + y13)), (1, .int y14), (2, .int y15), (3, .ref (base + y16)), (4, .ref (base + y17)), (5, .int y18), (6, .int y19)]) [0, 1, 2, 3, 4, 5, 6] rfl ?_
        exact K17 y13 y14 y15 y16 y17 y18 y19 h20 E
  · refine g_iconst C 0 dX10_program_98 rfl ?_
    refine g_goto C 135 dX10_program_99 (by decide) ?_
    refine g_sub (lv' := [(0, .ref (base + v0)), (1, .int v1), (2, .int v2), (3, .ref (base + v3)), (4, .ref (base + v4)), (5, .int v5), (6, .int v6), (9, .int w0)]) [1, 2, 3, 4, 5, 6, 7, 0] rfl ?_
    refine o_X10_program_J135 C hr ?_ v0 v1 v2 v3 v4 v5 v6 w0 0 h E
    · intro y21 y22 y23 y24 y25 y26 y27 h28 E
      refine g_sub (lv' := [(0, .ref (base + y21)), (1, .int y22), (2, .int y23), (3, .ref (base + y24)), (4, .ref (base + y25)), (5, .int y26), (6, .int y27)]) [0, 1, 2, 3, 4, 5, 6] rfl ?_
      exact K17 y21 y22 y23 y24 y25 y26 y27 h28 E
set_option maxRecDepth 100000 in
set_option maxHeartbeats 4000000 in
theorem o_X10_program_L17 {l : Launch} {base : Nat} {D : va_G} {cA : Nat → ClassId} {p : Program} {e : Env} {s : State} {m : MethodId} {args : Array Value} {below : List Frame} {meth : Method} {c : Code} (C : GC base D cA p s m args meth c cX10_program 11 RX10) (hr : meth.sig.returnType = (some .boolean)) {X : Int32 × Hp} {k248 : Nat → Int32 → Nat → Int32 → Hp → Rv Int32} (K248 : ∀ (y0 : Nat) (y1 : Int32) (y2 : Nat) (y3 : Int32) (h : Hp), k248 y0 y1 y2 y3 h = some X → GW base D cA p l e rm_X10_program s m args below meth c (MQ below (QcI base D cA X.1 X.2) args s 3 131 (AA base)) 11 h 0 0 248 [(0, .ref (base + y0)), (1, .int y1), (3, .ref (base + y2)), (5, .int y3)] []) : ∀ (n : Nat) (v0 : Nat) (v1 : Int32) (v2 : Int32) (v3 : Nat) (v4 : Nat) (v5 : Int32) (v6 : Int32) (h : Hp), s_X10_program_L17 k248 n v0 v1 v2 v3 v4 v5 v6 h = some X → GW base D cA p l e rm_X10_program s m args below meth c (MQ below (QcI base D cA X.1 X.2) args s 3 131 (AA base)) 11 h 0 0 17 [(0, .ref (base + v0)), (1, .int v1), (2, .int v2), (3, .ref (base + v3)), (4, .ref (base + v4)), (5, .int v5), (6, .int v6)] [] := by
  intro n
  induction n with
  | zero =>
    intro v0 v1 v2 v3 v4 v5 v6 h E
    rw [s_X10_program_L17] at E
    cases E
  | succ n ih =>
    intro v0 v1 v2 v3 v4 v5 v6 h E
    rw [s_X10_program_L17] at E
    refine g_iload C 6 dX10_program_17 rfl ?_
    refine g_iload C 5 dX10_program_19 rfl ?_
    refine g_icmp_ge C 248 dX10_program_21 (by decide) E (fun E => ?_) (fun E => ?_)
    · refine g_sub (lv' := [(0, .ref (base + v0)), (1, .int v1), (3, .ref (base + v3)), (5, .int v5)]) [0, 1, 3, 5] rfl ?_
      exact K248 v0 v1 v3 v5 h E
    · refine g_iload_n C 2 dX10_program_24 rfl rfl ?_
      refine g_iconst C 2 dX10_program_25 rfl ?_
      refine g_iconst C 5 dX10_program_26 rfl ?_
      refine g_iload C 6 dX10_program_27 rfl ?_
      refine g_imul C dX10_program_29 ?_
      refine g_iadd C dX10_program_30 ?_
      refine g_ishr C dX10_program_31 ?_
      refine g_istore C (lv' := [(7, .int (shrI v2 (2 + (5 * v6)))), (0, .ref (base + v0)), (1, .int v1), (2, .int v2), (3, .ref (base + v3)), (4, .ref (base + v4)), (5, .int v5), (6, .int v6)]) dX10_program_32 (by decide) rfl ?_
      refine g_iload C 0 dX10_program_34 rfl ?_
      refine g_bipush C 6 dX10_program_36 rfl ?_
      refine g_staI C [.int (shrI v2 (2 + (5 * v6))), .int 6] dX10_program_38 cl_X10_57 cs_X10_low rfl rfl ⟨Nat.le_of_ble_eq_true rfl, Nat.le_of_ble_eq_true rfl⟩ (Nat.le_of_ble_eq_true rfl) ⟨Nat.le_of_ble_eq_true rfl, Nat.le_of_ble_eq_true rfl⟩ rfl (fun r' h' E => o_X10_low l base D cA (shrI v2 (2 + (5 * v6))) 6 h r' h' E) E (fun x1 h2 E => ?_)
      refine g_istore C (lv' := [(8, .int x1), (7, .int (shrI v2 (2 + (5 * v6)))), (0, .ref (base + v0)), (1, .int v1), (2, .int v2), (3, .ref (base + v3)), (4, .ref (base + v4)), (5, .int v5), (6, .int v6)]) dX10_program_41 (by decide) rfl ?_
      refine g_iload C 0 dX10_program_43 rfl ?_
      refine g_iconst C 2 dX10_program_45 rfl ?_
      refine g_icmp_ge C 54 dX10_program_46 (by decide) E (fun E => ?_) (fun E => ?_)
      · refine g_iload C 0 dX10_program_54 rfl ?_
        refine g_iconst C 2 dX10_program_56 rfl ?_
        refine g_icmp_ne C 65 dX10_program_57 (by decide) E (fun E => ?_) (fun E => ?_)
        · refine g_iload C 0 dX10_program_65 rfl ?_
          refine g_iconst C 3 dX10_program_67 rfl ?_
          refine g_icmp_ne C 76 dX10_program_68 (by decide) E (fun E => ?_) (fun E => ?_)
          · refine g_iload C 0 dX10_program_76 rfl ?_
            refine g_iconst C 4 dX10_program_78 rfl ?_
            refine g_icmp_ne C 87 dX10_program_79 (by decide) E (fun E => ?_) (fun E => ?_)
            · refine g_bipush C 115 dX10_program_87 rfl ?_
              refine g_sub (lv' := [(0, .ref (base + v0)), (1, .int v1), (2, .int v2), (3, .ref (base + v3)), (4, .ref (base + v4)), (5, .int v5), (6, .int v6), (7, .int (shrI v2 (2 + (5 * v6))))]) [2, 3, 4, 5, 6, 7, 8, 1] rfl ?_
              refine o_X10_program_J89 C hr ?_ v0 v1 v2 v3 v4 v5 v6 (shrI v2 (2 + (5 * v6))) 115 h2 E
              · intro y3 y4 y5 y6 y7 y8 y9 h10 E
                refine g_sub (lv' := [(0, .ref (base + y3)), (1, .int y4), (2, .int y5), (3, .ref (base + y6)), (4, .ref (base + y7)), (5, .int y8), (6, .int y9)]) [0, 1, 2, 3, 4, 5, 6] rfl ?_
                exact ih y3 y4 y5 y6 y7 y8 y9 h10 E
            · refine g_bipush C 100 dX10_program_82 rfl ?_
              refine g_goto C 89 dX10_program_84 (by decide) ?_
              refine g_sub (lv' := [(0, .ref (base + v0)), (1, .int v1), (2, .int v2), (3, .ref (base + v3)), (4, .ref (base + v4)), (5, .int v5), (6, .int v6), (7, .int (shrI v2 (2 + (5 * v6))))]) [2, 3, 4, 5, 6, 7, 8, 1] rfl ?_
              refine o_X10_program_J89 C hr ?_ v0 v1 v2 v3 v4 v5 v6 (shrI v2 (2 + (5 * v6))) 100 h2 E
              · intro y11 y12 y13 y14 y15 y16 y17 h18 E
                refine g_sub (lv' := [(0, .ref (base + y11)), (1, .int y12), (2, .int y13), (3, .ref (base + y14)), (4, .ref (base + y15)), (5, .int y16), (6, .int y17)]) [0, 1, 2, 3, 4, 5, 6] rfl ?_
                exact ih y11 y12 y13 y14 y15 y16 y17 h18 E
          · refine g_bipush C 119 dX10_program_71 rfl ?_
            refine g_goto C 89 dX10_program_73 (by decide) ?_
            refine g_sub (lv' := [(0, .ref (base + v0)), (1, .int v1), (2, .int v2), (3, .ref (base + v3)), (4, .ref (base + v4)), (5, .int v5), (6, .int v6), (7, .int (shrI v2 (2 + (5 * v6))))]) [2, 3, 4, 5, 6, 7, 8, 1] rfl ?_
            refine o_X10_program_J89 C hr ?_ v0 v1 v2 v3 v4 v5 v6 (shrI v2 (2 + (5 * v6))) 119 h2 E
            · intro y19 y20 y21 y22 y23 y24 y25 h26 E
              refine g_sub (lv' := [(0, .ref (base + y19)), (1, .int y20), (2, .int y21), (3, .ref (base + y22)), (4, .ref (base + y23)), (5, .int y24), (6, .int y25)]) [0, 1, 2, 3, 4, 5, 6] rfl ?_
              exact ih y19 y20 y21 y22 y23 y24 y25 h26 E
        · refine g_bipush C 104 dX10_program_60 rfl ?_
          refine g_goto C 89 dX10_program_62 (by decide) ?_
          refine g_sub (lv' := [(0, .ref (base + v0)), (1, .int v1), (2, .int v2), (3, .ref (base + v3)), (4, .ref (base + v4)), (5, .int v5), (6, .int v6), (7, .int (shrI v2 (2 + (5 * v6))))]) [2, 3, 4, 5, 6, 7, 8, 1] rfl ?_
          refine o_X10_program_J89 C hr ?_ v0 v1 v2 v3 v4 v5 v6 (shrI v2 (2 + (5 * v6))) 104 h2 E
          · intro y27 y28 y29 y30 y31 y32 y33 h34 E
            refine g_sub (lv' := [(0, .ref (base + y27)), (1, .int y28), (2, .int y29), (3, .ref (base + y30)), (4, .ref (base + y31)), (5, .int y32), (6, .int y33)]) [0, 1, 2, 3, 4, 5, 6] rfl ?_
            exact ih y27 y28 y29 y30 y31 y32 y33 h34 E
      · refine g_bipush C 102 dX10_program_49 rfl ?_
        refine g_goto C 89 dX10_program_51 (by decide) ?_
        refine g_sub (lv' := [(0, .ref (base + v0)), (1, .int v1), (2, .int v2), (3, .ref (base + v3)), (4, .ref (base + v4)), (5, .int v5), (6, .int v6), (7, .int (shrI v2 (2 + (5 * v6))))]) [2, 3, 4, 5, 6, 7, 8, 1] rfl ?_
        refine o_X10_program_J89 C hr ?_ v0 v1 v2 v3 v4 v5 v6 (shrI v2 (2 + (5 * v6))) 102 h2 E
        · intro y35 y36 y37 y38 y39 y40 y41 h42 E
          refine g_sub (lv' := [(0, .ref (base + y35)), (1, .int y36), (2, .int y37), (3, .ref (base + y38)), (4, .ref (base + y39)), (5, .int y40), (6, .int y41)]) [0, 1, 2, 3, 4, 5, 6] rfl ?_
          exact ih y35 y36 y37 y38 y39 y40 y41 h42 E
set_option maxRecDepth 100000 in
set_option maxHeartbeats 4000000 in
theorem o_X10_program (l : Launch) (base : Nat) (D : va_G) (cA : Nat → ClassId) (a0 : Nat) (a1 : Int32) (a2 : Int32) (a3 : Nat) (a4 : Nat) (h : Hp) (r : Int32) (h' : Hp) (E : s_X10_program a0 a1 a2 a3 a4 h = some (r, h')) : Met l yX10_program (.code yX10_program cX10_program 11 (some .boolean) :: wsA) rm_X10_program (PcG base D cA [.ref (base + a0), .int a1, .int a2, .ref (base + a3), .ref (base + a4)] h) (QcI base D cA r h') 3 131 (AA base) := by
  refine g_met [.ref (base + a0), .int a1, .int a2, .ref (base + a3), .ref (base + a4)] (by decide) (Nat.le_of_ble_eq_true rfl) (fun p e s m args below meth c C hr hn => ?_)
  refine g_lv (lv' := [(0, .ref (base + a0)), (1, .int a1), (2, .int a2), (3, .ref (base + a3)), (4, .ref (base + a4))]) rfl ?_
  unfold s_X10_program at E
  refine g_iconst C 1 dX10_program_0 rfl ?_
  refine g_iload_n C 2 dX10_program_1 rfl rfl ?_
  refine g_iconst C 4 dX10_program_2 rfl ?_
  refine g_staI C [.int a2, .int 4] dX10_program_3 cl_X10_57 cs_X10_low rfl rfl ⟨Nat.le_of_ble_eq_true rfl, Nat.le_of_ble_eq_true rfl⟩ (Nat.le_of_ble_eq_true rfl) ⟨Nat.le_of_ble_eq_true rfl, Nat.le_of_ble_eq_true rfl⟩ rfl (fun r' h' E => o_X10_low l base D cA a2 4 h r' h' E) E (fun x1 h2 E => ?_)
  refine g_iadd C dX10_program_6 ?_
  refine g_istore C (lv' := [(5, .int (1 + x1)), (0, .ref (base + a0)), (1, .int a1), (2, .int a2), (3, .ref (base + a3)), (4, .ref (base + a4))]) dX10_program_7 (by decide) rfl ?_
  refine g_aload_n C 1 dX10_program_9 rfl rfl ?_
  refine g_invI C (q := (RX8, TX8, 7)) [] dX10_program_10 cl_X10_67 cv_X8_clearText rfl (by decide) rfl rfl ⟨Nat.le_of_ble_eq_true rfl, Nat.le_of_ble_eq_true rfl⟩ (Nat.le_of_ble_eq_true rfl) ⟨Nat.le_of_ble_eq_true rfl, Nat.le_of_ble_eq_true rfl⟩ rfl (fun r' h' E => o_X8_clearText l base D cA a0 h2 r' h' E) E (fun x3 h4 E => ?_)
  refine g_pop C dX10_program_13 rfl ?_
  refine g_iconst C 0 dX10_program_14 rfl ?_
  refine g_istore C (lv' := [(6, .int 0), (5, .int (1 + x1)), (0, .ref (base + a0)), (1, .int a1), (2, .int a2), (3, .ref (base + a3)), (4, .ref (base + a4))]) dX10_program_15 (by decide) rfl ?_
  refine g_sub (lv' := [(0, .ref (base + a0)), (1, .int a1), (2, .int a2), (3, .ref (base + a3)), (4, .ref (base + a4)), (5, .int (1 + x1)), (6, .int 0)]) [2, 3, 4, 5, 6, 1, 0] rfl ?_
  refine o_X10_program_L17 C hr ?_ _ a0 a1 a2 a3 a4 (1 + x1) 0 h4 E
  · intro y5 y6 y7 y8 h9 E
    refine g_aload_n C 2 dX10_program_248 rfl rfl ?_
    refine g_bipush C 16 dX10_program_249 rfl ?_
    refine g_iload_n C 1 dX10_program_251 rfl rfl ?_
    refine g_imul C dX10_program_252 ?_
    refine g_iconst C 5 dX10_program_253 rfl ?_
    refine g_iadd C dX10_program_254 ?_
    refine g_iald C dX10_program_255 E (fun x10 E => ?_)
    refine g_iconst C 1 dX10_program_256 rfl ?_
    refine g_icmp_ne C 276 dX10_program_257 (by decide) E (fun E => ?_) (fun E => ?_)
    · refine g_aload_n C 2 dX10_program_276 rfl rfl ?_
      refine g_bipush C 16 dX10_program_277 rfl ?_
      refine g_iload_n C 1 dX10_program_279 rfl rfl ?_
      refine g_imul C dX10_program_280 ?_
      refine g_bipush C 11 dX10_program_281 rfl ?_
      refine g_iadd C dX10_program_283 ?_
      refine g_iload C 3 dX10_program_284 rfl ?_
      refine g_iast C dX10_program_286 E (fun h11 E => ?_)
      refine g_aload_n C 0 dX10_program_287 rfl rfl ?_
      refine g_iload_n C 1 dX10_program_288 rfl rfl ?_
      refine g_invI C (q := (RX8, TX8, 7)) [.int y6] dX10_program_289 cl_X10_75 cv_X8_readProgram rfl (by decide) rfl rfl ⟨Nat.le_of_ble_eq_true rfl, Nat.le_of_ble_eq_true rfl⟩ (Nat.le_of_ble_eq_true rfl) ⟨Nat.le_of_ble_eq_true rfl, Nat.le_of_ble_eq_true rfl⟩ rfl (fun r' h' E => o_X8_readProgram l base D cA y5 y6 h11 r' h' E) E (fun x12 h13 E => ?_)
      refine g_iload C 3 dX10_program_292 rfl ?_
      refine g_icmp_ne C 301 dX10_program_294 (by decide) E (fun E => ?_) (fun E => ?_)
      · refine g_iconst C 0 dX10_program_301 rfl ?_
        exact g_zret C dX10_program_302 hr E
      · refine g_iconst C 1 dX10_program_297 rfl ?_
        refine g_goto C 302 dX10_program_298 (by decide) ?_
        exact g_zret C dX10_program_302 hr E
    · refine g_aload_n C 0 dX10_program_260 rfl rfl ?_
      refine g_iload_n C 1 dX10_program_261 rfl rfl ?_
      refine g_invI C (q := (RX8, TX8, 7)) [.int y6] dX10_program_262 cl_X10_75 cv_X8_readProgram rfl (by decide) rfl rfl ⟨Nat.le_of_ble_eq_true rfl, Nat.le_of_ble_eq_true rfl⟩ (Nat.le_of_ble_eq_true rfl) ⟨Nat.le_of_ble_eq_true rfl, Nat.le_of_ble_eq_true rfl⟩ rfl (fun r' h' E => o_X8_readProgram l base D cA y5 y6 h9 r' h' E) E (fun x14 h15 E => ?_)
      refine g_bipush C (-4) dX10_program_265 rfl ?_
      refine g_icmp_ne C 274 dX10_program_267 (by decide) E (fun E => ?_) (fun E => ?_)
      · refine g_iconst C 0 dX10_program_274 rfl ?_
        exact g_zret C dX10_program_275 hr E
      · refine g_iconst C 1 dX10_program_270 rfl ?_
        refine g_goto C 275 dX10_program_271 (by decide) ?_
        exact g_zret C dX10_program_275 hr E
