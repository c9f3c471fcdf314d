abbrev rm_X10_same : Room := { frames := 5, cells := 0, slots := 0, locals := 107 }
def s_X10_same_J305 (k6 : Nat → Nat → Nat → Nat → Nat → Int32 → Int32 → Hp → Rv Int32) (v0 : Nat) (v1 : Nat) (v2 : Nat) (v3 : Nat) (v4 : Nat) (v5 : Int32) (v6 : Int32) (v7 : Int32) (w0 : Int32) (w1 : Int32) (h : Hp) : Rv Int32 :=
  if w0 = w1 then inv h v0 8 (s_X8_washer v0 v6 8 h) fun x31 h =>
  ldI h v2 20 (v7 + 13) fun x32 =>
  if x31 = x32 then k6 v0 v1 v2 v3 v4 v5 (v6 + 1) h
  else retZ 0 h
  else retZ 0 h
def s_X10_same_J208 (k6 : Nat → Nat → Nat → Nat → Nat → Int32 → Int32 → Hp → Rv Int32) (v0 : Nat) (v1 : Nat) (v2 : Nat) (v3 : Nat) (v4 : Nat) (v5 : Int32) (v6 : Int32) (v7 : Int32) (v8 : Int32) (w0 : Int32) (w1 : Int32) (h : Hp) : Rv Int32 :=
  if w0 = w1 then inv h v0 8 (s_X8_washer v0 v6 2 h) fun x21 h =>
  ldI h v2 20 (v7 + 7) fun x22 =>
  if x21 = x22 then inv h v0 8 (s_X8_washer v0 v6 3 h) fun x23 h =>
  bnd (s_X10_temperature v6 v2 h) fun x24 h =>
  if x23 = x24 then inv h v0 8 (s_X8_washer v0 v6 4 h) fun x25 h =>
  ldI h v2 20 (v7 + 8) fun x26 =>
  if x25 = x26 then inv h v0 8 (s_X8_washer v0 v6 5 h) fun x27 h =>
  ldI h v2 20 (v7 + 9) fun x28 =>
  if x27 = x28 then inv h v0 8 (s_X8_washer v0 v6 6 h) fun x29 h =>
  if v8 = 0 then ldI h v2 20 (v7 + 10) fun x30 =>
  s_X10_same_J305 (fun y0 y1 y2 y3 y4 y5 y6 h => k6 y0 y1 y2 y3 y4 y5 y6 h) v0 v1 v2 v3 v4 v5 v6 v7 x29 x30 h
  else s_X10_same_J305 (fun y0 y1 y2 y3 y4 y5 y6 h => k6 y0 y1 y2 y3 y4 y5 y6 h) v0 v1 v2 v3 v4 v5 v6 v7 x29 (-5) h
  else retZ 0 h
  else retZ 0 h
  else retZ 0 h
  else retZ 0 h
  else retZ 0 h
def s_X10_same_J166 (k6 : Nat → Nat → Nat → Nat → Nat → Int32 → Int32 → Hp → Rv Int32) (v0 : Nat) (v1 : Nat) (v2 : Nat) (v3 : Nat) (v4 : Nat) (v5 : Int32) (v6 : Int32) (v7 : Int32) (w0 : Int32) (h : Hp) : Rv Int32 :=
  inv h v0 8 (s_X8_washer v0 v6 0 h) fun x17 h =>
  ldI h v2 20 (v7 + 5) fun x18 =>
  if x17 = x18 then inv h v0 8 (s_X8_washer v0 v6 1 h) fun x19 h =>
  if w0 = 0 then ldI h v2 20 (v7 + 6) fun x20 =>
  s_X10_same_J208 (fun y0 y1 y2 y3 y4 y5 y6 h => k6 y0 y1 y2 y3 y4 y5 y6 h) v0 v1 v2 v3 v4 v5 v6 v7 w0 x19 x20 h
  else s_X10_same_J208 (fun y0 y1 y2 y3 y4 y5 y6 h => k6 y0 y1 y2 y3 y4 y5 y6 h) v0 v1 v2 v3 v4 v5 v6 v7 w0 x19 (-5) h
  else retZ 0 h
def s_X10_same_L6 (k334 : Nat → Nat → Nat → Int32 → Hp → Rv Int32) : Nat → Nat → Nat → Nat → Nat → Nat → Int32 → Int32 → Hp → Rv Int32
  | 0, _, _, _, _, _, _, _, _ => none
  | n + 1, v0, v1, v2, v3, v4, v5, v6, h =>
    if 3 ≤ v6 then k334 v0 v1 v4 v5 h
  else bnd (s_X10_want v6 v2 v3 h) fun x1 h =>
  inv h v0 8 (s_X8_house v0 v6 0 h) fun x2 h =>
  bnd (s_X10_shares v6 v1 v2 v4 h) fun x3 h =>
  if x2 = x3 then inv h v0 8 (s_X8_house v0 v6 2 h) fun x4 h =>
  ldI h v2 20 ((16 * v6) + 1) fun x5 =>
  if x4 = x5 then inv h v0 8 (s_X8_house v0 v6 3 h) fun x6 h =>
  ldI h v2 20 ((16 * v6) + 2) fun x7 =>
  if x6 = x7 then inv h v0 8 (s_X8_house v0 v6 4 h) fun x8 h =>
  ldI h v2 20 ((16 * v6) + 3) fun x9 =>
  if x8 = x9 then inv h v0 8 (s_X8_house v0 v6 5 h) fun x10 h =>
  ldI h v2 20 ((16 * v6) + 4) fun x11 =>
  if x10 = x11 then inv h v0 8 (s_X8_house v0 v6 8 h) fun x12 h =>
  ldI h v2 20 ((16 * v6) + 14) fun x13 =>
  if x12 = x13 then inv h v0 8 (s_X8_house v0 v6 9 h) fun x14 h =>
  ldI h v2 20 ((16 * v6) + 15) fun x15 =>
  if x14 = x15 then ldI h v2 20 ((16 * v6) + 5) fun x16 =>
  if x16 = 0 then s_X10_same_J166 (fun y0 y1 y2 y3 y4 y5 y6 h => s_X10_same_L6 k334 n y0 y1 y2 y3 y4 y5 y6 h) v0 v1 v2 v3 v4 (v5 + x1) v6 (16 * v6) 1 h
  else s_X10_same_J166 (fun y0 y1 y2 y3 y4 y5 y6 h => s_X10_same_L6 k334 n y0 y1 y2 y3 y4 y5 y6 h) v0 v1 v2 v3 v4 (v5 + x1) v6 (16 * v6) 0 h
  else retZ 0 h
  else retZ 0 h
  else retZ 0 h
  else retZ 0 h
  else retZ 0 h
  else retZ 0 h
  else retZ 0 h
def s_X10_same_L349 (k384 : Nat → Nat → Nat → Int32 → Int32 → Hp → Rv Int32) : Nat → Nat → Nat → Nat → Int32 → Int32 → Int32 → Hp → Rv Int32
  | 0, _, _, _, _, _, _, _ => none
  | n + 1, v0, v1, v4, v5, v6, v7, h =>
    if 5 ≤ v7 then k384 v0 v1 v4 v5 v6 h
  else inv h v0 8 (s_X8_lease v0 v6 v7 h) fun x34 h =>
  ldI h v4 20 ((5 * v6) + v7) fun x35 =>
  if x34 = x35 then s_X10_same_L349 k384 n v0 v1 v4 v5 v6 (v7 + 1) h
  else retZ 0 h
def s_X10_same_L337 (k390 : Nat → Nat → Int32 → Hp → Rv Int32) : Nat → Nat → Nat → Nat → Int32 → Int32 → Hp → Rv Int32
  | 0, _, _, _, _, _, _ => none
  | n + 1, v0, v1, v4, v5, v6, h =>
    ldI h v1 20 7 fun x33 =>
  if x33 ≤ v6 then k390 v0 v1 v5 h
  else s_X10_same_L349 (fun y0 y1 y2 y3 y4 h => s_X10_same_L337 k390 n y0 y1 y2 y3 (y4 + 1) h) 100000 v0 v1 v4 v5 v6 0 h
def s_X10_same (a0 : Nat) (a1 : Nat) (a2 : Nat) (a3 : Nat) (a4 : Nat) (h : Hp) : Rv Int32 :=
  s_X10_same_L6 (fun y0 y1 y2 y3 h => s_X10_same_L337 (fun y0 y1 y2 h => inv h y0 8 (s_X8_boiler y0 0 h) fun x36 h =>
  ldI h y1 20 6 fun x37 =>
  if x36 = x37 then inv h y0 8 (s_X8_boiler y0 4 h) fun x38 h =>
  ldI h y1 20 11 fun x39 =>
  if x38 = x39 then inv h y0 8 (s_X8_boiler y0 5 h) fun x40 h =>
  ldI h y1 20 12 fun x41 =>
  if x40 = x41 then inv h y0 8 (s_X8_boiler y0 6 h) fun x42 h =>
  if x42 = y2 then inv h y0 8 (s_X8_count y0 0 h) fun x43 h =>
  ldI h y1 20 0 fun x44 =>
  if x43 = x44 then inv h y0 8 (s_X8_count y0 7 h) fun x45 h =>
  ldI h y1 20 7 fun x46 =>
  if x45 = x46 then inv h y0 8 (s_X8_count y0 8 h) fun x47 h =>
  ldI h y1 20 8 fun x48 =>
  if x47 = x48 then inv h y0 8 (s_X8_count y0 9 h) fun x49 h =>
  ldI h y1 20 9 fun x50 =>
  if x49 = x50 then inv h y0 8 (s_X8_count y0 10 h) fun x51 h =>
  ldI h y1 20 10 fun x52 =>
  if x51 = x52 then ldI h y1 20 7 fun x53 =>
  inv h y0 8 (s_X8_lease y0 x53 0 h) fun x54 h =>
  if x54 = (-1) then retZ 1 h
  else retZ 0 h
  else retZ 0 h
  else retZ 0 h
  else retZ 0 h
  else retZ 0 h
  else retZ 0 h
  else retZ 0 h
  else retZ 0 h
  else retZ 0 h
  else retZ 0 h) 100000 y0 y1 y2 y3 0 h) 100000 a0 a1 a2 a3 a4 0 0 h
set_option maxRecDepth 100000 in
set_option maxHeartbeats 4000000 in
theorem o_X10_same_J305 {l : Launch} {base : Nat} {D : va_G} {cA : Nat → ClassId} {p : Program} {e : Env} {s : State} {m : MethodId} {args : Array Value} {below : List Frame} {meth : Method} {c : Code} (C : GC base D cA p s m args meth c cX10_same 9 RX10) (hr : meth.sig.returnType = (some .boolean)) {X : Int32 × Hp} {k6 : Nat → Nat → Nat → Nat → Nat → Int32 → Int32 → Hp → Rv Int32} (K6 : ∀ (y0 : Nat) (y1 : Nat) (y2 : Nat) (y3 : Nat) (y4 : Nat) (y5 : Int32) (y6 : Int32) (h : Hp), k6 y0 y1 y2 y3 y4 y5 y6 h = some X → GW base D cA p l e rm_X10_same s m args below meth c (MQ below (QcI base D cA X.1 X.2) args s 0 0 (AA base)) 9 h 0 0 6 [(0, .ref (base + y0)), (1, .ref (base + y1)), (2, .ref (base + y2)), (3, .ref (base + y3)), (4, .ref (base + y4)), (5, .int y5), (6, .int y6)] []) : ∀ (v0 : Nat) (v1 : Nat) (v2 : Nat) (v3 : Nat) (v4 : Nat) (v5 : Int32) (v6 : Int32) (v7 : Int32) (w0 : Int32) (w1 : Int32) (h : Hp), s_X10_same_J305 k6 v0 v1 v2 v3 v4 v5 v6 v7 w0 w1 h = some X → GW base D cA p l e rm_X10_same s m args below meth c (MQ below (QcI base D cA X.1 X.2) args s 0 0 (AA base)) 9 h 0 0 305 [(0, .ref (base + v0)), (1, .ref (base + v1)), (2, .ref (base + v2)), (3, .ref (base + v3)), (4, .ref (base + v4)), (5, .int v5), (6, .int v6), (7, .int v7)] [.int w1, .int w0] := by
  intro v0 v1 v2 v3 v4 v5 v6 v7 w0 w1 h E
  unfold s_X10_same_J305 at E
  refine g_icmp_ne C 326 dX10_same_305 (by decide) E (fun E => ?_) (fun E => ?_)
  · refine g_iconst C 0 dX10_same_326 rfl ?_
    exact g_zret C dX10_same_327 hr E
  · refine g_aload_n C 0 dX10_same_308 rfl rfl ?_
    refine g_iload C 6 dX10_same_309 rfl ?_
    refine g_bipush C 8 dX10_same_311 rfl ?_
    refine g_invI C (q := (RX8, TX8, 7)) [.int v6, .int 8] dX10_same_313 cl_X10_44 cv_X8_washer rfl (by decide) rfl rfl ⟨Nat.le_of_ble_eq_true rfl, Nat.le_of_ble_eq_true rfl⟩ (Nat.le_of_ble_eq_true rfl) ⟨Nat.le_of_ble_eq_true rfl, Nat.le_of_ble_eq_true rfl⟩ rfl (fun r' h' E => o_X8_washer l base D cA v0 v6 8 h r' h' E) E (fun x1 h2 E => ?_)
    refine g_aload_n C 2 dX10_same_316 rfl rfl ?_
    refine g_iload C 7 dX10_same_317 rfl ?_
    refine g_bipush C 13 dX10_same_319 rfl ?_
    refine g_iadd C dX10_same_321 ?_
    refine g_iald C dX10_same_322 E (fun x3 E => ?_)
    refine g_icmp_eq C 328 dX10_same_323 (by decide) E (fun E => ?_) (fun E => ?_)
    · refine g_iinc C (lv' := [(6, .int (v6 + 1)), (0, .ref (base + v0)), (1, .ref (base + v1)), (2, .ref (base + v2)), (3, .ref (base + v3)), (4, .ref (base + v4)), (5, .int v5), (7, .int v7)]) 6 1 dX10_same_328 rfl rfl (by decide) rfl ?_
      refine g_goto C 6 dX10_same_331 (by decide) ?_
      refine g_sub (lv' := [(0, .ref (base + v0)), (1, .ref (base + v1)), (2, .ref (base + v2)), (3, .ref (base + v3)), (4, .ref (base + v4)), (5, .int v5), (6, .int (v6 + 1))]) [1, 2, 3, 4, 5, 6, 0] rfl ?_
      exact K6 v0 v1 v2 v3 v4 v5 (v6 + 1) h2 E
    · refine g_iconst C 0 dX10_same_326 rfl ?_
      exact g_zret C dX10_same_327 hr E
set_option maxRecDepth 100000 in
set_option maxHeartbeats 4000000 in
theorem o_X10_same_J208 {l : Launch} {base : Nat} {D : va_G} {cA : Nat → ClassId} {p : Program} {e : Env} {s : State} {m : MethodId} {args : Array Value} {below : List Frame} {meth : Method} {c : Code} (C : GC base D cA p s m args meth c cX10_same 9 RX10) (hr : meth.sig.returnType = (some .boolean)) {X : Int32 × Hp} {k6 : Nat → Nat → Nat → Nat → Nat → Int32 → Int32 → Hp → Rv Int32} (K6 : ∀ (y0 : Nat) (y1 : Nat) (y2 : Nat) (y3 : Nat) (y4 : Nat) (y5 : Int32) (y6 : Int32) (h : Hp), k6 y0 y1 y2 y3 y4 y5 y6 h = some X → GW base D cA p l e rm_X10_same s m args below meth c (MQ below (QcI base D cA X.1 X.2) args s 0 0 (AA base)) 9 h 0 0 6 [(0, .ref (base + y0)), (1, .ref (base + y1)), (2, .ref (base + y2)), (3, .ref (base + y3)), (4, .ref (base + y4)), (5, .int y5), (6, .int y6)] []) : ∀ (v0 : Nat) (v1 : Nat) (v2 : Nat) (v3 : Nat) (v4 : Nat) (v5 : Int32) (v6 : Int32) (v7 : Int32) (v8 : Int32) (w0 : Int32) (w1 : Int32) (h : Hp), s_X10_same_J208 k6 v0 v1 v2 v3 v4 v5 v6 v7 v8 w0 w1 h = some X → GW base D cA p l e rm_X10_same s m args below meth c (MQ below (QcI base D cA X.1 X.2) args s 0 0 (AA base)) 9 h 0 0 208 [(0, .ref (base + v0)), (1, .ref (base + v1)), (2, .ref (base + v2)), (3, .ref (base + v3)), (4, .ref (base + v4)), (5, .int v5), (6, .int v6), (7, .int v7), (8, .int v8)] [.int w1, .int w0] := by
  intro v0 v1 v2 v3 v4 v5 v6 v7 v8 w0 w1 h E
  unfold s_X10_same_J208 at E
  refine g_icmp_ne C 278 dX10_same_208 (by decide) E (fun E => ?_) (fun E => ?_)
  · refine g_iconst C 0 dX10_same_278 rfl ?_
    exact g_zret C dX10_same_279 hr E
  · refine g_aload_n C 0 dX10_same_211 rfl rfl ?_
    refine g_iload C 6 dX10_same_212 rfl ?_
    refine g_iconst C 2 dX10_same_214 rfl ?_
    refine g_invI C (q := (RX8, TX8, 7)) [.int v6, .int 2] dX10_same_215 cl_X10_44 cv_X8_washer rfl (by decide) rfl rfl ⟨Nat.le_of_ble_eq_true rfl, Nat.le_of_ble_eq_true rfl⟩ (Nat.le_of_ble_eq_true rfl) ⟨Nat.le_of_ble_eq_true rfl, Nat.le_of_ble_eq_true rfl⟩ rfl (fun r' h' E => o_X8_washer l base D cA v0 v6 2 h r' h' E) E (fun x1 h2 E => ?_)
    refine g_aload_n C 2 dX10_same_218 rfl rfl ?_
    refine g_iload C 7 dX10_same_219 rfl ?_
    refine g_bipush C 7 dX10_same_221 rfl ?_
    refine g_iadd C dX10_same_223 ?_
    refine g_iald C dX10_same_224 E (fun x3 E => ?_)
    refine g_icmp_ne C 278 dX10_same_225 (by decide) E (fun E => ?_) (fun E => ?_)
    · refine g_iconst C 0 dX10_same_278 rfl ?_
      exact g_zret C dX10_same_279 hr E
    · refine g_aload_n C 0 dX10_same_228 rfl rfl ?_
      refine g_iload C 6 dX10_same_229 rfl ?_
      refine g_iconst C 3 dX10_same_231 rfl ?_
      refine g_invI C (q := (RX8, TX8, 7)) [.int v6, .int 3] dX10_same_232 cl_X10_44 cv_X8_washer rfl (by decide) rfl rfl ⟨Nat.le_of_ble_eq_true rfl, Nat.le_of_ble_eq_true rfl⟩ (Nat.le_of_ble_eq_true rfl) ⟨Nat.le_of_ble_eq_true rfl, Nat.le_of_ble_eq_true rfl⟩ rfl (fun r' h' E => o_X8_washer l base D cA v0 v6 3 h2 r' h' E) E (fun x4 h5 E => ?_)
      refine g_iload C 6 dX10_same_235 rfl ?_
      refine g_aload_n C 2 dX10_same_237 rfl rfl ?_
      refine g_staI C [.int v6, .ref (base + v2)] dX10_same_238 cl_X10_26 cs_X10_temperature rfl rfl ⟨Nat.le_of_ble_eq_true rfl, Nat.le_of_ble_eq_true rfl⟩ (Nat.le_of_ble_eq_true rfl) ⟨Nat.le_of_ble_eq_true rfl, Nat.le_of_ble_eq_true rfl⟩ rfl (fun r' h' E => o_X10_temperature l base D cA v6 v2 h5 r' h' E) E (fun x6 h7 E => ?_)
      refine g_icmp_ne C 278 dX10_same_241 (by decide) E (fun E => ?_) (fun E => ?_)
      · refine g_iconst C 0 dX10_same_278 rfl ?_
        exact g_zret C dX10_same_279 hr E
      · refine g_aload_n C 0 dX10_same_244 rfl rfl ?_
        refine g_iload C 6 dX10_same_245 rfl ?_
        refine g_iconst C 4 dX10_same_247 rfl ?_
        refine g_invI C (q := (RX8, TX8, 7)) [.int v6, .int 4] dX10_same_248 cl_X10_44 cv_X8_washer rfl (by decide) rfl rfl ⟨Nat.le_of_ble_eq_true rfl, Nat.le_of_ble_eq_true rfl⟩ (Nat.le_of_ble_eq_true rfl) ⟨Nat.le_of_ble_eq_true rfl, Nat.le_of_ble_eq_true rfl⟩ rfl (fun r' h' E => o_X8_washer l base D cA v0 v6 4 h7 r' h' E) E (fun x8 h9 E => ?_)
        refine g_aload_n C 2 dX10_same_251 rfl rfl ?_
        refine g_iload C 7 dX10_same_252 rfl ?_
        refine g_bipush C 8 dX10_same_254 rfl ?_
        refine g_iadd C dX10_same_256 ?_
        refine g_iald C dX10_same_257 E (fun x10 E => ?_)
        refine g_icmp_ne C 278 dX10_same_258 (by decide) E (fun E => ?_) (fun E => ?_)
        · refine g_iconst C 0 dX10_same_278 rfl ?_
          exact g_zret C dX10_same_279 hr E
        · refine g_aload_n C 0 dX10_same_261 rfl rfl ?_
          refine g_iload C 6 dX10_same_262 rfl ?_
          refine g_iconst C 5 dX10_same_264 rfl ?_
          refine g_invI C (q := (RX8, TX8, 7)) [.int v6, .int 5] dX10_same_265 cl_X10_44 cv_X8_washer rfl (by decide) rfl rfl ⟨Nat.le_of_ble_eq_true rfl, Nat.le_of_ble_eq_true rfl⟩ (Nat.le_of_ble_eq_true rfl) ⟨Nat.le_of_ble_eq_true rfl, Nat.le_of_ble_eq_true rfl⟩ rfl (fun r' h' E => o_X8_washer l base D cA v0 v6 5 h9 r' h' E) E (fun x11 h12 E => ?_)
          refine g_aload_n C 2 dX10_same_268 rfl rfl ?_
          refine g_iload C 7 dX10_same_269 rfl ?_
          refine g_bipush C 9 dX10_same_271 rfl ?_
          refine g_iadd C dX10_same_273 ?_
          refine g_iald C dX10_same_274 E (fun x13 E => ?_)
          refine g_icmp_eq C 280 dX10_same_275 (by decide) E (fun E => ?_) (fun E => ?_)
          · refine g_aload_n C 0 dX10_same_280 rfl rfl ?_
            refine g_iload C 6 dX10_same_281 rfl ?_
            refine g_bipush C 6 dX10_same_283 rfl ?_
            refine g_invI C (q := (RX8, TX8, 7)) [.int v6, .int 6] dX10_same_285 cl_X10_44 cv_X8_washer rfl (by decide) rfl rfl ⟨Nat.le_of_ble_eq_true rfl, Nat.le_of_ble_eq_true rfl⟩ (Nat.le_of_ble_eq_true rfl) ⟨Nat.le_of_ble_eq_true rfl, Nat.le_of_ble_eq_true rfl⟩ rfl (fun r' h' E => o_X8_washer l base D cA v0 v6 6 h12 r' h' E) E (fun x14 h15 E => ?_)
            refine g_iload C 8 dX10_same_288 rfl ?_
            refine g_if_eq C 298 dX10_same_290 (by decide) E (fun E => ?_) (fun E => ?_)
            · refine g_aload_n C 2 dX10_same_298 rfl rfl ?_
              refine g_iload C 7 dX10_same_299 rfl ?_
              refine g_bipush C 10 dX10_same_301 rfl ?_
              refine g_iadd C dX10_same_303 ?_
              refine g_iald C dX10_same_304 E (fun x16 E => ?_)
              refine g_sub (lv' := [(0, .ref (base + v0)), (1, .ref (base + v1)), (2, .ref (base + v2)), (3, .ref (base + v3)), (4, .ref (base + v4)), (5, .int v5), (6, .int v6), (7, .int v7)]) [0, 1, 2, 3, 4, 5, 6, 7] rfl ?_
              refine o_X10_same_J305 C hr ?_ v0 v1 v2 v3 v4 v5 v6 v7 x14 x16 h15 E
              · intro y17 y18 y19 y20 y21 y22 y23 h24 E
                refine g_sub (lv' := [(0, .ref (base + y17)), (1, .ref (base + y18)), (2, .ref (base + y19)), (3, .ref (base + y20)), (4, .ref (base + y21)), (5, .int y22), (6, .int y23)]) [0, 1, 2, 3, 4, 5, 6] rfl ?_
                exact K6 y17 y18 y19 y20 y21 y22 y23 h24 E
            · refine g_bipush C (-5) dX10_same_293 rfl ?_
              refine g_goto C 305 dX10_same_295 (by decide) ?_
              refine g_sub (lv' := [(0, .ref (base + v0)), (1, .ref (base + v1)), (2, .ref (base + v2)), (3, .ref (base + v3)), (4, .ref (base + v4)), (5, .int v5), (6, .int v6), (7, .int v7)]) [0, 1, 2, 3, 4, 5, 6, 7] rfl ?_
              refine o_X10_same_J305 C hr ?_ v0 v1 v2 v3 v4 v5 v6 v7 x14 (-5) h15 E
              · intro y25 y26 y27 y28 y29 y30 y31 h32 E
                refine g_sub (lv' := [(0, .ref (base + y25)), (1, .ref (base + y26)), (2, .ref (base + y27)), (3, .ref (base + y28)), (4, .ref (base + y29)), (5, .int y30), (6, .int y31)]) [0, 1, 2, 3, 4, 5, 6] rfl ?_
                exact K6 y25 y26 y27 y28 y29 y30 y31 h32 E
          · refine g_iconst C 0 dX10_same_278 rfl ?_
            exact g_zret C dX10_same_279 hr E
set_option maxRecDepth 100000 in
set_option maxHeartbeats 4000000 in
theorem o_X10_same_J166 {l : Launch} {base : Nat} {D : va_G} {cA : Nat → ClassId} {p : Program} {e : Env} {s : State} {m : MethodId} {args : Array Value} {below : List Frame} {meth : Method} {c : Code} (C : GC base D cA p s m args meth c cX10_same 9 RX10) (hr : meth.sig.returnType = (some .boolean)) {X : Int32 × Hp} {k6 : Nat → Nat → Nat → Nat → Nat → Int32 → Int32 → Hp → Rv Int32} (K6 : ∀ (y0 : Nat) (y1 : Nat) (y2 : Nat) (y3 : Nat) (y4 : Nat) (y5 : Int32) (y6 : Int32) (h : Hp), k6 y0 y1 y2 y3 y4 y5 y6 h = some X → GW base D cA p l e rm_X10_same s m args below meth c (MQ below (QcI base D cA X.1 X.2) args s 0 0 (AA base)) 9 h 0 0 6 [(0, .ref (base + y0)), (1, .ref (base + y1)), (2, .ref (base + y2)), (3, .ref (base + y3)), (4, .ref (base + y4)), (5, .int y5), (6, .int y6)] []) : ∀ (v0 : Nat) (v1 : Nat) (v2 : Nat) (v3 : Nat) (v4 : Nat) (v5 : Int32) (v6 : Int32) (v7 : Int32) (w0 : Int32) (h : Hp), s_X10_same_J166 k6 v0 v1 v2 v3 v4 v5 v6 v7 w0 h = some X → GW base D cA p l e rm_X10_same s m args below meth c (MQ below (QcI base D cA X.1 X.2) args s 0 0 (AA base)) 9 h 0 0 166 [(0, .ref (base + v0)), (1, .ref (base + v1)), (2, .ref (base + v2)), (3, .ref (base + v3)), (4, .ref (base + v4)), (5, .int v5), (6, .int v6), (7, .int v7)] [.int w0] := by
  intro v0 v1 v2 v3 v4 v5 v6 v7 w0 h E
  unfold s_X10_same_J166 at E
  refine g_istore C (lv' := [(8, .int w0), (0, .ref (base + v0)), (1, .ref (base + v1)), (2, .ref (base + v2)), (3, .ref (base + v3)), (4, .ref (base + v4)), (5, .int v5), (6, .int v6), (7, .int v7)]) dX10_same_166 (by decide) rfl ?_
  refine g_aload_n C 1 dX10_same_168 rfl rfl ?_
  refine g_iload C 7 dX10_same_169 rfl ?_
  refine g_iconst C 0 dX10_same_171 rfl ?_
  refine g_invI C (q := (RX8, TX8, 7)) [.int v6, .int 0] dX10_same_172 cl_X10_44 cv_X8_washer rfl (by decide) rfl rfl ⟨Nat.le_of_ble_eq_true rfl, Nat.le_of_ble_eq_true rfl⟩ (Nat.le_of_ble_eq_true rfl) ⟨Nat.le_of_ble_eq_true rfl, Nat.le_of_ble_eq_true rfl⟩ rfl (fun r' h' E => o_X8_washer l base D cA v0 v6 0 h r' h' E) E (fun x1 h2 E => ?_)
  refine g_aload_n C 3 dX10_same_175 rfl rfl ?_
  refine g_iload C 8 dX10_same_176 rfl ?_
  refine g_iconst C 5 dX10_same_178 rfl ?_
  refine g_iadd C dX10_same_179 ?_
  refine g_iald C dX10_same_180 E (fun x3 E => ?_)
  refine g_icmp_ne C 278 dX10_same_181 (by decide) E (fun E => ?_) (fun E => ?_)
  · refine g_iconst C 0 dX10_same_278 rfl ?_
    exact g_zret C dX10_same_279 hr E
  · refine g_aload_n C 1 dX10_same_184 rfl rfl ?_
    refine g_iload C 7 dX10_same_185 rfl ?_
    refine g_iconst C 1 dX10_same_187 rfl ?_
    refine g_invI C (q := (RX8, TX8, 7)) [.int v6, .int 1] dX10_same_188 cl_X10_44 cv_X8_washer rfl (by decide) rfl rfl ⟨Nat.le_of_ble_eq_true rfl, Nat.le_of_ble_eq_true rfl⟩ (Nat.le_of_ble_eq_true rfl) ⟨Nat.le_of_ble_eq_true rfl, Nat.le_of_ble_eq_true rfl⟩ rfl (fun r' h' E => o_X8_washer l base D cA v0 v6 1 h2 r' h' E) E (fun x4 h5 E => ?_)
    refine g_iload C 0 dX10_same_191 rfl ?_
    refine g_if_eq C 201 dX10_same_193 (by decide) E (fun E => ?_) (fun E => ?_)
    · refine g_aload_n C 3 dX10_same_201 rfl rfl ?_
      refine g_iload C 8 dX10_same_202 rfl ?_
      refine g_bipush C 6 dX10_same_204 rfl ?_
      refine g_iadd C dX10_same_206 ?_
      refine g_iald C dX10_same_207 E (fun x6 E => ?_)
      refine g_sub (lv' := [(0, .ref (base + v0)), (1, .ref (base + v1)), (2, .ref (base + v2)), (3, .ref (base + v3)), (4, .ref (base + v4)), (5, .int v5), (6, .int v6), (7, .int v7), (8, .int w0)]) [1, 2, 3, 4, 5, 6, 7, 8, 0] rfl ?_
      refine o_X10_same_J208 C hr ?_ v0 v1 v2 v3 v4 v5 v6 v7 w0 x4 x6 h5 E
      · intro y7 y8 y9 y10 y11 y12 y13 h14 E
        refine g_sub (lv' := [(0, .ref (base + y7)), (1, .ref (base + y8)), (2, .ref (base + y9)), (3, .ref (base + y10)), (4, .ref (base + y11)), (5, .int y12), (6, .int y13)]) [0, 1, 2, 3, 4, 5, 6] rfl ?_
        exact K6 y7 y8 y9 y10 y11 y12 y13 h14 E
    · refine g_bipush C (-5) dX10_same_196 rfl ?_
      refine g_goto C 208 dX10_same_198 (by decide) ?_
      refine g_sub (lv' := [(0, .ref (base + v0)), (1, .ref (base + v1)), (2, .ref (base + v2)), (3, .ref (base + v3)), (4, .ref (base + v4)), (5, .int v5), (6, .int v6), (7, .int v7), (8, .int w0)]) [1, 2, 3, 4, 5, 6, 7, 8, 0] rfl ?_
      refine o_X10_same_J208 C hr ?_ v0 v1 v2 v3 v4 v5 v6 v7 w0 x4 (-5) h5 E
      · intro y15 y16 y17 y18 y19 y20 y21 h22 E
        refine g_sub (lv' := [(0, .ref (base + y15)), (1, .ref (base + y16)), (2, .ref (base + y17)), (3, .ref (base + y18)), (4, .ref (base + y19)), (5, .int y20), (6, .int y21)]) [0, 1, 2, 3, 4, 5, 6] rfl ?_
        exact K6 y15 y16 y17 y18 y19 y20 y21 h22 E
set_option maxRecDepth 100000 in
set_option maxHeartbeats 4000000 in
theorem o_X10_same_L6 {l : Launch} {base : Nat} {D : va_G} {cA : Nat → ClassId} {p : Program} {e : Env} {s : State} {m : MethodId} {args : Array Value} {below : List Frame} {meth : Method} {c : Code} (C : GC base D cA p s m args meth c cX10_same 9 RX10) (hr : meth.sig.returnType = (some .boolean)) {X : Int32 × Hp} {k334 : Nat → Nat → Nat → Int32 → Hp → Rv Int32} (K334 : ∀ (y0 : Nat) (y1 : Nat) (y2 : Nat) (y3 : Int32) (h : Hp), k334 y0 y1 y2 y3 h = some X → GW base D cA p l e rm_X10_same s m args below meth c (MQ below (QcI base D cA X.1 X.2) args s 0 0 (AA base)) 9 h 0 0 334 [(0, .ref (base + y0)), (1, .ref (base + y1)), (4, .ref (base + y2)), (5, .int y3)] []) : ∀ (n : Nat) (v0 : Nat) (v1 : Nat) (v2 : Nat) (v3 : Nat) (v4 : Nat) (v5 : Int32) (v6 : Int32) (h : Hp), s_X10_same_L6 k334 n v0 v1 v2 v3 v4 v5 v6 h = some X → GW base D cA p l e rm_X10_same s m args below meth c (MQ below (QcI base D cA X.1 X.2) args s 0 0 (AA base)) 9 h 0 0 6 [(0, .ref (base + v0)), (1, .ref (base + v1)), (2, .ref (base + v2)), (3, .ref (base + v3)), (4, .ref (base + v4)), (5, .int v5), (6, .int v6)] [] := by
  intro n
  induction n with
  | zero =>
    intro v0 v1 v2 v3 v4 v5 v6 h E
    rw [s_X10_same_L6] at E
    cases E
  | succ n ih =>
    intro v0 v1 v2 v3 v4 v5 v6 h E
    rw [s_X10_same_L6] at E
    refine g_iload C 6 dX10_same_6 rfl ?_
    refine g_iconst C 3 dX10_same_8 rfl ?_
    refine g_icmp_ge C 334 dX10_same_9 (by decide) E (fun E => ?_) (fun E => ?_)
    · refine g_sub (lv' := [(0, .ref (base + v0)), (1, .ref (base + v1)), (4, .ref (base + v4)), (5, .int v5)]) [0, 1, 4, 5] rfl ?_
      exact K334 v0 v1 v4 v5 h E
    · refine g_bipush C 16 dX10_same_12 rfl ?_
      refine g_iload C 6 dX10_same_14 rfl ?_
      refine g_imul C dX10_same_16 ?_
      refine g_istore C (lv' := [(7, .int (16 * v6)), (0, .ref (base + v0)), (1, .ref (base + v1)), (2, .ref (base + v2)), (3, .ref (base + v3)), (4, .ref (base + v4)), (5, .int v5), (6, .int v6)]) dX10_same_17 (by decide) rfl ?_
      refine g_iload C 6 dX10_same_19 rfl ?_
      refine g_iload C 7 dX10_same_21 rfl ?_
      refine g_aload_n C 3 dX10_same_23 rfl rfl ?_
      refine g_aload_n C 4 dX10_same_24 rfl rfl ?_
      refine g_staI C [.int v6, .ref (base + v2), .ref (base + v3)] dX10_same_25 cl_X10_19 cs_X10_want rfl rfl ⟨Nat.le_of_ble_eq_true rfl, Nat.le_of_ble_eq_true rfl⟩ (Nat.le_of_ble_eq_true rfl) ⟨Nat.le_of_ble_eq_true rfl, Nat.le_of_ble_eq_true rfl⟩ rfl (fun r' h' E => o_X10_want l base D cA v6 v2 v3 h r' h' E) E (fun x1 h2 E => ?_)
      refine g_iadd C dX10_same_28 ?_
      refine g_istore C (lv' := [(5, .int (v5 + x1)), (7, .int (16 * v6)), (0, .ref (base + v0)), (1, .ref (base + v1)), (2, .ref (base + v2)), (3, .ref (base + v3)), (4, .ref (base + v4)), (6, .int v6)]) dX10_same_29 (by decide) rfl ?_
      refine g_aload_n C 2 dX10_same_31 rfl rfl ?_
      refine g_iload C 7 dX10_same_32 rfl ?_
      refine g_iconst C 0 dX10_same_34 rfl ?_
      refine g_invI C (q := (RX8, TX8, 7)) [.int v6, .int 0] dX10_same_35 cl_X10_38 cv_X8_house rfl (by decide) rfl rfl ⟨Nat.le_of_ble_eq_true rfl, Nat.le_of_ble_eq_true rfl⟩ (Nat.le_of_ble_eq_true rfl) ⟨Nat.le_of_ble_eq_true rfl, Nat.le_of_ble_eq_true rfl⟩ rfl (fun r' h' E => o_X8_house l base D cA v0 v6 0 h2 r' h' E) E (fun x3 h4 E => ?_)
      refine g_iload C 7 dX10_same_38 rfl ?_
      refine g_aload_n C 3 dX10_same_40 rfl rfl ?_
      refine g_aload_n C 4 dX10_same_41 rfl rfl ?_
      refine g_aload C 6 dX10_same_42 rfl ?_
      refine g_staI C [.int v6, .ref (base + v1), .ref (base + v2), .ref (base + v4)] dX10_same_44 cl_X10_22 cs_X10_shares rfl rfl ⟨Nat.le_of_ble_eq_true rfl, Nat.le_of_ble_eq_true rfl⟩ (Nat.le_of_ble_eq_true rfl) ⟨Nat.le_of_ble_eq_true rfl, Nat.le_of_ble_eq_true rfl⟩ rfl (fun r' h' E => o_X10_shares l base D cA v6 v1 v2 v4 h4 r' h' E) E (fun x5 h6 E => ?_)
      refine g_icmp_ne C 150 dX10_same_47 (by decide) E (fun E => ?_) (fun E => ?_)
      · refine g_iconst C 0 dX10_same_150 rfl ?_
        exact g_zret C dX10_same_151 hr E
      · refine g_aload_n C 2 dX10_same_50 rfl rfl ?_
        refine g_iload C 7 dX10_same_51 rfl ?_
        refine g_iconst C 2 dX10_same_53 rfl ?_
        refine g_invI C (q := (RX8, TX8, 7)) [.int v6, .int 2] dX10_same_54 cl_X10_38 cv_X8_house rfl (by decide) rfl rfl ⟨Nat.le_of_ble_eq_true rfl, Nat.le_of_ble_eq_true rfl⟩ (Nat.le_of_ble_eq_true rfl) ⟨Nat.le_of_ble_eq_true rfl, Nat.le_of_ble_eq_true rfl⟩ rfl (fun r' h' E => o_X8_house l base D cA v0 v6 2 h6 r' h' E) E (fun x7 h8 E => ?_)
        refine g_aload_n C 4 dX10_same_57 rfl rfl ?_
        refine g_iload C 1 dX10_same_58 rfl ?_
        refine g_iconst C 1 dX10_same_60 rfl ?_
        refine g_iadd C dX10_same_61 ?_
        refine g_iald C dX10_same_62 E (fun x9 E => ?_)
        refine g_icmp_ne C 150 dX10_same_63 (by decide) E (fun E => ?_) (fun E => ?_)
        · refine g_iconst C 0 dX10_same_150 rfl ?_
          exact g_zret C dX10_same_151 hr E
        · refine g_aload_n C 2 dX10_same_66 rfl rfl ?_
          refine g_iload C 7 dX10_same_67 rfl ?_
          refine g_iconst C 3 dX10_same_69 rfl ?_
          refine g_invI C (q := (RX8, TX8, 7)) [.int v6, .int 3] dX10_same_70 cl_X10_38 cv_X8_house rfl (by decide) rfl rfl ⟨Nat.le_of_ble_eq_true rfl, Nat.le_of_ble_eq_true rfl⟩ (Nat.le_of_ble_eq_true rfl) ⟨Nat.le_of_ble_eq_true rfl, Nat.le_of_ble_eq_true rfl⟩ rfl (fun r' h' E => o_X8_house l base D cA v0 v6 3 h8 r' h' E) E (fun x10 h11 E => ?_)
          refine g_aload_n C 4 dX10_same_73 rfl rfl ?_
          refine g_iload C 1 dX10_same_74 rfl ?_
          refine g_iconst C 2 dX10_same_76 rfl ?_
          refine g_iadd C dX10_same_77 ?_
          refine g_iald C dX10_same_78 E (fun x12 E => ?_)
          refine g_icmp_ne C 150 dX10_same_79 (by decide) E (fun E => ?_) (fun E => ?_)
          · refine g_iconst C 0 dX10_same_150 rfl ?_
            exact g_zret C dX10_same_151 hr E
          · refine g_aload_n C 2 dX10_same_82 rfl rfl ?_
            refine g_iload C 7 dX10_same_83 rfl ?_
            refine g_iconst C 4 dX10_same_85 rfl ?_
            refine g_invI C (q := (RX8, TX8, 7)) [.int v6, .int 4] dX10_same_86 cl_X10_38 cv_X8_house rfl (by decide) rfl rfl ⟨Nat.le_of_ble_eq_true rfl, Nat.le_of_ble_eq_true rfl⟩ (Nat.le_of_ble_eq_true rfl) ⟨Nat.le_of_ble_eq_true rfl, Nat.le_of_ble_eq_true rfl⟩ rfl (fun r' h' E => o_X8_house l base D cA v0 v6 4 h11 r' h' E) E (fun x13 h14 E => ?_)
            refine g_aload_n C 4 dX10_same_89 rfl rfl ?_
            refine g_iload C 1 dX10_same_90 rfl ?_
            refine g_iconst C 3 dX10_same_92 rfl ?_
            refine g_iadd C dX10_same_93 ?_
            refine g_iald C dX10_same_94 E (fun x15 E => ?_)
            refine g_icmp_ne C 150 dX10_same_95 (by decide) E (fun E => ?_) (fun E => ?_)
            · refine g_iconst C 0 dX10_same_150 rfl ?_
              exact g_zret C dX10_same_151 hr E
            · refine g_aload_n C 2 dX10_same_98 rfl rfl ?_
              refine g_iload C 7 dX10_same_99 rfl ?_
              refine g_iconst C 5 dX10_same_101 rfl ?_
              refine g_invI C (q := (RX8, TX8, 7)) [.int v6, .int 5] dX10_same_102 cl_X10_38 cv_X8_house rfl (by decide) rfl rfl ⟨Nat.le_of_ble_eq_true rfl, Nat.le_of_ble_eq_true rfl⟩ (Nat.le_of_ble_eq_true rfl) ⟨Nat.le_of_ble_eq_true rfl, Nat.le_of_ble_eq_true rfl⟩ rfl (fun r' h' E => o_X8_house l base D cA v0 v6 5 h14 r' h' E) E (fun x16 h17 E => ?_)
              refine g_aload_n C 4 dX10_same_105 rfl rfl ?_
              refine g_iload C 1 dX10_same_106 rfl ?_
              refine g_iconst C 4 dX10_same_108 rfl ?_
              refine g_iadd C dX10_same_109 ?_
              refine g_iald C dX10_same_110 E (fun x18 E => ?_)
              refine g_icmp_ne C 150 dX10_same_111 (by decide) E (fun E => ?_) (fun E => ?_)
              · refine g_iconst C 0 dX10_same_150 rfl ?_
                exact g_zret C dX10_same_151 hr E
              · refine g_aload_n C 2 dX10_same_114 rfl rfl ?_
                refine g_iload C 7 dX10_same_115 rfl ?_
                refine g_bipush C 8 dX10_same_117 rfl ?_
                refine g_invI C (q := (RX8, TX8, 7)) [.int v6, .int 8] dX10_same_119 cl_X10_38 cv_X8_house rfl (by decide) rfl rfl ⟨Nat.le_of_ble_eq_true rfl, Nat.le_of_ble_eq_true rfl⟩ (Nat.le_of_ble_eq_true rfl) ⟨Nat.le_of_ble_eq_true rfl, Nat.le_of_ble_eq_true rfl⟩ rfl (fun r' h' E => o_X8_house l base D cA v0 v6 8 h17 r' h' E) E (fun x19 h20 E => ?_)
                refine g_aload_n C 4 dX10_same_122 rfl rfl ?_
                refine g_iload C 1 dX10_same_123 rfl ?_
                refine g_bipush C 14 dX10_same_125 rfl ?_
                refine g_iadd C dX10_same_127 ?_
                refine g_iald C dX10_same_128 E (fun x21 E => ?_)
                refine g_icmp_ne C 150 dX10_same_129 (by decide) E (fun E => ?_) (fun E => ?_)
                · refine g_iconst C 0 dX10_same_150 rfl ?_
                  exact g_zret C dX10_same_151 hr E
                · refine g_aload_n C 2 dX10_same_132 rfl rfl ?_
                  refine g_iload C 7 dX10_same_133 rfl ?_
                  refine g_bipush C 9 dX10_same_135 rfl ?_
                  refine g_invI C (q := (RX8, TX8, 7)) [.int v6, .int 9] dX10_same_137 cl_X10_38 cv_X8_house rfl (by decide) rfl rfl ⟨Nat.le_of_ble_eq_true rfl, Nat.le_of_ble_eq_true rfl⟩ (Nat.le_of_ble_eq_true rfl) ⟨Nat.le_of_ble_eq_true rfl, Nat.le_of_ble_eq_true rfl⟩ rfl (fun r' h' E => o_X8_house l base D cA v0 v6 9 h20 r' h' E) E (fun x22 h23 E => ?_)
                  refine g_aload_n C 4 dX10_same_140 rfl rfl ?_
                  refine g_iload C 1 dX10_same_141 rfl ?_
                  refine g_bipush C 15 dX10_same_143 rfl ?_
                  refine g_iadd C dX10_same_145 ?_
                  refine g_iald C dX10_same_146 E (fun x24 E => ?_)
                  refine g_icmp_eq C 152 dX10_same_147 (by decide) E (fun E => ?_) (fun E => ?_)
                  · refine g_aload_n C 4 dX10_same_152 rfl rfl ?_
                    refine g_iload C 1 dX10_same_153 rfl ?_
                    refine g_iconst C 5 dX10_same_155 rfl ?_
                    refine g_iadd C dX10_same_156 ?_
                    refine g_iald C dX10_same_157 E (fun x25 E => ?_)
                    refine g_if_ne C 165 dX10_same_158 (by decide) E (fun E => ?_) (fun E => ?_)
                    · refine g_iconst C 0 dX10_same_165 rfl ?_
                      refine g_sub (lv' := [(0, .ref (base + v0)), (1, .ref (base + v1)), (2, .ref (base + v2)), (3, .ref (base + v3)), (4, .ref (base + v4)), (5, .int (v5 + x1)), (6, .int v6), (7, .int (16 * v6))]) [2, 3, 4, 5, 6, 0, 7, 1] rfl ?_
                      refine o_X10_same_J166 C hr ?_ v0 v1 v2 v3 v4 (v5 + x1) v6 (16 * v6) 0 h23 E
                      · intro y26 y27 y28 y29 y30 y31 y32 h33 E
                        refine g_sub (lv' := [(0, .ref (base + y26)), (1, .ref (base + y27)), (2, .ref (base + y28)), (3, .ref (base + y29)), (4, .ref (base + y30)), (5, .int y31), (6, .int y32)]) [0, 1, 2, 3, 4, 5, 6] rfl ?_
                        exact ih y26 y27 y28 y29 y30 y31 y32 h33 E
                    · refine g_iconst C 1 dX10_same_161 rfl ?_
                      refine g_goto C 166 dX10_same_162 (by decide) ?_
                      refine g_sub (lv' := [(0, .ref (base + v0)), (1, .ref (base + v1)), (2, .ref (base + v2)), (3, .ref (base + v3)), (4, .ref (base + v4)), (5, .int (v5 + x1)), (6, .int v6), (7, .int (16 * v6))]) [2, 3, 4, 5, 6, 0, 7, 1] rfl ?_
                      refine o_X10_same_J166 C hr ?_ v0 v1 v2 v3 v4 (v5 + x1) v6 (16 * v6) 1 h23 E
                      · intro y34 y35 y36 y37 y38 y39 y40 h41 E
                        refine g_sub (lv' := [(0, .ref (base + y34)), (1, .ref (base + y35)), (2, .ref (base + y36)), (3, .ref (base + y37)), (4, .ref (base + y38)), (5, .int y39), (6, .int y40)]) [0, 1, 2, 3, 4, 5, 6] rfl ?_
                        exact ih y34 y35 y36 y37 y38 y39 y40 h41 E
                  · refine g_iconst C 0 dX10_same_150 rfl ?_
                    exact g_zret C dX10_same_151 hr E
set_option maxRecDepth 100000 in
set_option maxHeartbeats 4000000 in
theorem o_X10_same_L349 {l : Launch} {base : Nat} {D : va_G} {cA : Nat → ClassId} {p : Program} {e : Env} {s : State} {m : MethodId} {args : Array Value} {below : List Frame} {meth : Method} {c : Code} (C : GC base D cA p s m args meth c cX10_same 9 RX10) (hr : meth.sig.returnType = (some .boolean)) {X : Int32 × Hp} {k384 : Nat → Nat → Nat → Int32 → Int32 → Hp → Rv Int32} (K384 : ∀ (y0 : Nat) (y1 : Nat) (y2 : Nat) (y3 : Int32) (y4 : Int32) (h : Hp), k384 y0 y1 y2 y3 y4 h = some X → GW base D cA p l e rm_X10_same s m args below meth c (MQ below (QcI base D cA X.1 X.2) args s 0 0 (AA base)) 9 h 0 0 384 [(0, .ref (base + y0)), (1, .ref (base + y1)), (4, .ref (base + y2)), (5, .int y3), (6, .int y4)] []) : ∀ (n : Nat) (v0 : Nat) (v1 : Nat) (v4 : Nat) (v5 : Int32) (v6 : Int32) (v7 : Int32) (h : Hp), s_X10_same_L349 k384 n v0 v1 v4 v5 v6 v7 h = some X → GW base D cA p l e rm_X10_same s m args below meth c (MQ below (QcI base D cA X.1 X.2) args s 0 0 (AA base)) 9 h 0 0 349 [(0, .ref (base + v0)), (1, .ref (base + v1)), (4, .ref (base + v4)), (5, .int v5), (6, .int v6), (7, .int v7)] [] := by
  intro n
  induction n with
  | zero =>
    intro v0 v1 v4 v5 v6 v7 h E
    rw [s_X10_same_L349] at E
    cases E
  | succ n ih =>
    intro v0 v1 v4 v5 v6 v7 h E
    rw [s_X10_same_L349] at E
    refine g_iload C 5 dX10_same_349 rfl ?_
    refine g_iconst C 5 dX10_same_351 rfl ?_
    refine g_icmp_ge C 384 dX10_same_352 (by decide) E (fun E => ?_) (fun E => ?_)
    · refine g_sub (lv' := [(0, .ref (base + v0)), (1, .ref (base + v1)), (4, .ref (base + v4)), (5, .int v5), (6, .int v6)]) [0, 1, 2, 3, 4] rfl ?_
      exact K384 v0 v1 v4 v5 v6 h E
    · refine g_aload_n C 0 dX10_same_355 rfl rfl ?_
      refine g_iload C 4 dX10_same_356 rfl ?_
      refine g_iload C 5 dX10_same_358 rfl ?_
      refine g_invI C (q := (RX8, TX8, 7)) [.int v6, .int v7] dX10_same_360 cl_X10_47 cv_X8_lease rfl (by decide) rfl rfl ⟨Nat.le_of_ble_eq_true rfl, Nat.le_of_ble_eq_true rfl⟩ (Nat.le_of_ble_eq_true rfl) ⟨Nat.le_of_ble_eq_true rfl, Nat.le_of_ble_eq_true rfl⟩ rfl (fun r' h' E => o_X8_lease l base D cA v0 v6 v7 h r' h' E) E (fun x1 h2 E => ?_)
      refine g_aload C 2 dX10_same_363 rfl ?_
      refine g_iconst C 5 dX10_same_365 rfl ?_
      refine g_iload C 4 dX10_same_366 rfl ?_
      refine g_imul C dX10_same_368 ?_
      refine g_iload C 5 dX10_same_369 rfl ?_
      refine g_iadd C dX10_same_371 ?_
      refine g_iald C dX10_same_372 E (fun x3 E => ?_)
      refine g_icmp_eq C 378 dX10_same_373 (by decide) E (fun E => ?_) (fun E => ?_)
      · refine g_iinc C (lv' := [(7, .int (v7 + 1)), (0, .ref (base + v0)), (1, .ref (base + v1)), (4, .ref (base + v4)), (5, .int v5), (6, .int v6)]) 5 1 dX10_same_378 rfl rfl (by decide) rfl ?_
        refine g_goto C 349 dX10_same_381 (by decide) ?_
        refine g_sub (lv' := [(0, .ref (base + v0)), (1, .ref (base + v1)), (4, .ref (base + v4)), (5, .int v5), (6, .int v6), (7, .int (v7 + 1))]) [1, 2, 3, 4, 5, 0] rfl ?_
        exact ih v0 v1 v4 v5 v6 (v7 + 1) h2 E
      · refine g_iconst C 0 dX10_same_376 rfl ?_
        exact g_zret C dX10_same_377 hr E
set_option maxRecDepth 100000 in
set_option maxHeartbeats 4000000 in
theorem o_X10_same_L337 {l : Launch} {base : Nat} {D : va_G} {cA : Nat → ClassId} {p : Program} {e : Env} {s : State} {m : MethodId} {args : Array Value} {below : List Frame} {meth : Method} {c : Code} (C : GC base D cA p s m args meth c cX10_same 9 RX10) (hr : meth.sig.returnType = (some .boolean)) {X : Int32 × Hp} {k390 : Nat → Nat → Int32 → Hp → Rv Int32} (K390 : ∀ (y0 : Nat) (y1 : Nat) (y2 : Int32) (h : Hp), k390 y0 y1 y2 h = some X → GW base D cA p l e rm_X10_same s m args below meth c (MQ below (QcI base D cA X.1 X.2) args s 0 0 (AA base)) 9 h 0 0 390 [(0, .ref (base + y0)), (1, .ref (base + y1)), (5, .int y2)] []) : ∀ (n : Nat) (v0 : Nat) (v1 : Nat) (v4 : Nat) (v5 : Int32) (v6 : Int32) (h : Hp), s_X10_same_L337 k390 n v0 v1 v4 v5 v6 h = some X → GW base D cA p l e rm_X10_same s m args below meth c (MQ below (QcI base D cA X.1 X.2) args s 0 0 (AA base)) 9 h 0 0 337 [(0, .ref (base + v0)), (1, .ref (base + v1)), (4, .ref (base + v4)), (5, .int v5), (6, .int v6)] [] := by
  intro n
  induction n with
  | zero =>
    intro v0 v1 v4 v5 v6 h E
    rw [s_X10_same_L337] at E
    cases E
  | succ n ih =>
    intro v0 v1 v4 v5 v6 h E
    rw [s_X10_same_L337] at E
    refine g_iload C 4 dX10_same_337 rfl ?_
    refine g_aload_n C 1 dX10_same_339 rfl rfl ?_
    refine g_bipush C 7 dX10_same_340 rfl ?_
    refine g_iald C dX10_same_342 E (fun x1 E => ?_)
    refine g_icmp_ge C 390 dX10_same_343 (by decide) E (fun E => ?_) (fun E => ?_)
    · refine g_sub (lv' := [(0, .ref (base + v0)), (1, .ref (base + v1)), (5, .int v5)]) [0, 1, 3] rfl ?_
      exact K390 v0 v1 v5 h E
    · refine g_iconst C 0 dX10_same_346 rfl ?_
      refine g_istore C (lv' := [(7, .int 0), (0, .ref (base + v0)), (1, .ref (base + v1)), (4, .ref (base + v4)), (5, .int v5), (6, .int v6)]) dX10_same_347 (by decide) rfl ?_
      refine g_sub (lv' := [(0, .ref (base + v0)), (1, .ref (base + v1)), (4, .ref (base + v4)), (5, .int v5), (6, .int v6), (7, .int 0)]) [1, 2, 3, 4, 5, 0] rfl ?_
      refine o_X10_same_L349 C hr ?_ _ v0 v1 v4 v5 v6 0 h E
      · intro y2 y3 y4 y5 y6 h7 E
        refine g_iinc C (lv' := [(6, .int (y6 + 1)), (0, .ref (base + y2)), (1, .ref (base + y3)), (4, .ref (base + y4)), (5, .int y5)]) 4 1 dX10_same_384 rfl rfl (by decide) rfl ?_
        refine g_goto C 337 dX10_same_387 (by decide) ?_
        refine g_sub (lv' := [(0, .ref (base + y2)), (1, .ref (base + y3)), (4, .ref (base + y4)), (5, .int y5), (6, .int (y6 + 1))]) [1, 2, 3, 4, 0] rfl ?_
        exact ih y2 y3 y4 y5 (y6 + 1) h7 E
set_option maxRecDepth 100000 in
set_option maxHeartbeats 4000000 in
theorem o_X10_same (l : Launch) (base : Nat) (D : va_G) (cA : Nat → ClassId) (a0 : Nat) (a1 : Nat) (a2 : Nat) (a3 : Nat) (a4 : Nat) (h : Hp) (r : Int32) (h' : Hp) (E : s_X10_same a0 a1 a2 a3 a4 h = some (r, h')) : Met l yX10_same (.code yX10_same cX10_same 9 (some .boolean) :: wsA) rm_X10_same (PcG base D cA [.ref (base + a0), .ref (base + a1), .ref (base + a2), .ref (base + a3), .ref (base + a4)] h) (QcI base D cA r h') 0 0 (AA base) := by
  refine g_met [.ref (base + a0), .ref (base + a1), .ref (base + a2), .ref (base + a3), .ref (base + a4)] (by decide) (Nat.le_of_ble_eq_true rfl) (fun p e s m args below meth c C hr hn => ?_)
  refine g_lv (lv' := [(0, .ref (base + a0)), (1, .ref (base + a1)), (2, .ref (base + a2)), (3, .ref (base + a3)), (4, .ref (base + a4))]) rfl ?_
  unfold s_X10_same at E
  refine g_iconst C 0 dX10_same_0 rfl ?_
  refine g_istore C (lv' := [(5, .int 0), (0, .ref (base + a0)), (1, .ref (base + a1)), (2, .ref (base + a2)), (3, .ref (base + a3)), (4, .ref (base + a4))]) dX10_same_1 (by decide) rfl ?_
  refine g_iconst C 0 dX10_same_3 rfl ?_
  refine g_istore C (lv' := [(6, .int 0), (5, .int 0), (0, .ref (base + a0)), (1, .ref (base + a1)), (2, .ref (base + a2)), (3, .ref (base + a3)), (4, .ref (base + a4))]) dX10_same_4 (by decide) rfl ?_
  refine g_sub (lv' := [(0, .ref (base + a0)), (1, .ref (base + a1)), (2, .ref (base + a2)), (3, .ref (base + a3)), (4, .ref (base + a4)), (5, .int 0), (6, .int 0)]) [2, 3, 4, 5, 6, 1, 0] rfl ?_
  refine o_X10_same_L6 C hr ?_ _ a0 a1 a2 a3 a4 0 0 h E
  · intro y1 y2 y3 y4 h5 E
    refine g_iconst C 0 dX10_same_334 rfl ?_
    refine g_istore C (lv' := [(6, .int 0), (0, .ref (base + y1)), (1, .ref (base + y2)), (4, .ref (base + y3)), (5, .int y4)]) dX10_same_335 (by decide) rfl ?_
    refine g_sub (lv' := [(0, .ref (base + y1)), (1, .ref (base + y2)), (4, .ref (base + y3)), (5, .int y4), (6, .int 0)]) [1, 2, 3, 4, 0] rfl ?_
    refine o_X10_same_L337 C hr ?_ _ y1 y2 y3 y4 0 h5 E
    · intro y6 y7 y8 h9 E
      refine g_aload_n C 0 dX10_same_390 rfl rfl ?_
      refine g_iconst C 0 dX10_same_391 rfl ?_
      refine g_invI C (q := (RX8, TX8, 7)) [.int 0] dX10_same_392 cl_X10_50 cv_X8_boiler rfl (by decide) rfl rfl ⟨Nat.le_of_ble_eq_true rfl, Nat.le_of_ble_eq_true rfl⟩ (Nat.le_of_ble_eq_true rfl) ⟨Nat.le_of_ble_eq_true rfl, Nat.le_of_ble_eq_true rfl⟩ rfl (fun r' h' E => o_X8_boiler l base D cA y6 0 h9 r' h' E) E (fun x10 h11 E => ?_)
      refine g_aload_n C 1 dX10_same_395 rfl rfl ?_
      refine g_bipush C 6 dX10_same_396 rfl ?_
      refine g_iald C dX10_same_398 E (fun x12 E => ?_)
      refine g_icmp_ne C 517 dX10_same_399 (by decide) E (fun E => ?_) (fun E => ?_)
      · refine g_iconst C 0 dX10_same_517 rfl ?_
        exact g_zret C dX10_same_518 hr E
      · refine g_aload_n C 0 dX10_same_402 rfl rfl ?_
        refine g_iconst C 4 dX10_same_403 rfl ?_
        refine g_invI C (q := (RX8, TX8, 7)) [.int 4] dX10_same_404 cl_X10_50 cv_X8_boiler rfl (by decide) rfl rfl ⟨Nat.le_of_ble_eq_true rfl, Nat.le_of_ble_eq_true rfl⟩ (Nat.le_of_ble_eq_true rfl) ⟨Nat.le_of_ble_eq_true rfl, Nat.le_of_ble_eq_true rfl⟩ rfl (fun r' h' E => o_X8_boiler l base D cA y6 4 h11 r' h' E) E (fun x13 h14 E => ?_)
        refine g_aload_n C 1 dX10_same_407 rfl rfl ?_
        refine g_bipush C 11 dX10_same_408 rfl ?_
        refine g_iald C dX10_same_410 E (fun x15 E => ?_)
        refine g_icmp_ne C 517 dX10_same_411 (by decide) E (fun E => ?_) (fun E => ?_)
        · refine g_iconst C 0 dX10_same_517 rfl ?_
          exact g_zret C dX10_same_518 hr E
        · refine g_aload_n C 0 dX10_same_414 rfl rfl ?_
          refine g_iconst C 5 dX10_same_415 rfl ?_
          refine g_invI C (q := (RX8, TX8, 7)) [.int 5] dX10_same_416 cl_X10_50 cv_X8_boiler rfl (by decide) rfl rfl ⟨Nat.le_of_ble_eq_true rfl, Nat.le_of_ble_eq_true rfl⟩ (Nat.le_of_ble_eq_true rfl) ⟨Nat.le_of_ble_eq_true rfl, Nat.le_of_ble_eq_true rfl⟩ rfl (fun r' h' E => o_X8_boiler l base D cA y6 5 h14 r' h' E) E (fun x16 h17 E => ?_)
          refine g_aload_n C 1 dX10_same_419 rfl rfl ?_
          refine g_bipush C 12 dX10_same_420 rfl ?_
          refine g_iald C dX10_same_422 E (fun x18 E => ?_)
          refine g_icmp_ne C 517 dX10_same_423 (by decide) E (fun E => ?_) (fun E => ?_)
          · refine g_iconst C 0 dX10_same_517 rfl ?_
            exact g_zret C dX10_same_518 hr E
          · refine g_aload_n C 0 dX10_same_426 rfl rfl ?_
            refine g_bipush C 6 dX10_same_427 rfl ?_
            refine g_invI C (q := (RX8, TX8, 7)) [.int 6] dX10_same_429 cl_X10_50 cv_X8_boiler rfl (by decide) rfl rfl ⟨Nat.le_of_ble_eq_true rfl, Nat.le_of_ble_eq_true rfl⟩ (Nat.le_of_ble_eq_true rfl) ⟨Nat.le_of_ble_eq_true rfl, Nat.le_of_ble_eq_true rfl⟩ rfl (fun r' h' E => o_X8_boiler l base D cA y6 6 h17 r' h' E) E (fun x19 h20 E => ?_)
            refine g_iload C 2 dX10_same_432 rfl ?_
            refine g_icmp_ne C 517 dX10_same_434 (by decide) E (fun E => ?_) (fun E => ?_)
            · refine g_iconst C 0 dX10_same_517 rfl ?_
              exact g_zret C dX10_same_518 hr E
            · refine g_aload_n C 0 dX10_same_437 rfl rfl ?_
              refine g_iconst C 0 dX10_same_438 rfl ?_
              refine g_invI C (q := (RX8, TX8, 7)) [.int 0] dX10_same_439 cl_X10_54 cv_X8_count rfl (by decide) rfl rfl ⟨Nat.le_of_ble_eq_true rfl, Nat.le_of_ble_eq_true rfl⟩ (Nat.le_of_ble_eq_true rfl) ⟨Nat.le_of_ble_eq_true rfl, Nat.le_of_ble_eq_true rfl⟩ rfl (fun r' h' E => o_X8_count l base D cA y6 0 h20 r' h' E) E (fun x21 h22 E => ?_)
              refine g_aload_n C 1 dX10_same_442 rfl rfl ?_
              refine g_iconst C 0 dX10_same_443 rfl ?_
              refine g_iald C dX10_same_444 E (fun x23 E => ?_)
              refine g_icmp_ne C 517 dX10_same_445 (by decide) E (fun E => ?_) (fun E => ?_)
              · refine g_iconst C 0 dX10_same_517 rfl ?_
                exact g_zret C dX10_same_518 hr E
              · refine g_aload_n C 0 dX10_same_448 rfl rfl ?_
                refine g_bipush C 7 dX10_same_449 rfl ?_
                refine g_invI C (q := (RX8, TX8, 7)) [.int 7] dX10_same_451 cl_X10_54 cv_X8_count rfl (by decide) rfl rfl ⟨Nat.le_of_ble_eq_true rfl, Nat.le_of_ble_eq_true rfl⟩ (Nat.le_of_ble_eq_true rfl) ⟨Nat.le_of_ble_eq_true rfl, Nat.le_of_ble_eq_true rfl⟩ rfl (fun r' h' E => o_X8_count l base D cA y6 7 h22 r' h' E) E (fun x24 h25 E => ?_)
                refine g_aload_n C 1 dX10_same_454 rfl rfl ?_
                refine g_bipush C 7 dX10_same_455 rfl ?_
                refine g_iald C dX10_same_457 E (fun x26 E => ?_)
                refine g_icmp_ne C 517 dX10_same_458 (by decide) E (fun E => ?_) (fun E => ?_)
                · refine g_iconst C 0 dX10_same_517 rfl ?_
                  exact g_zret C dX10_same_518 hr E
                · refine g_aload_n C 0 dX10_same_461 rfl rfl ?_
                  refine g_bipush C 8 dX10_same_462 rfl ?_
                  refine g_invI C (q := (RX8, TX8, 7)) [.int 8] dX10_same_464 cl_X10_54 cv_X8_count rfl (by decide) rfl rfl ⟨Nat.le_of_ble_eq_true rfl, Nat.le_of_ble_eq_true rfl⟩ (Nat.le_of_ble_eq_true rfl) ⟨Nat.le_of_ble_eq_true rfl, Nat.le_of_ble_eq_true rfl⟩ rfl (fun r' h' E => o_X8_count l base D cA y6 8 h25 r' h' E) E (fun x27 h28 E => ?_)
                  refine g_aload_n C 1 dX10_same_467 rfl rfl ?_
                  refine g_bipush C 8 dX10_same_468 rfl ?_
                  refine g_iald C dX10_same_470 E (fun x29 E => ?_)
                  refine g_icmp_ne C 517 dX10_same_471 (by decide) E (fun E => ?_) (fun E => ?_)
                  · refine g_iconst C 0 dX10_same_517 rfl ?_
                    exact g_zret C dX10_same_518 hr E
                  · refine g_aload_n C 0 dX10_same_474 rfl rfl ?_
                    refine g_bipush C 9 dX10_same_475 rfl ?_
                    refine g_invI C (q := (RX8, TX8, 7)) [.int 9] dX10_same_477 cl_X10_54 cv_X8_count rfl (by decide) rfl rfl ⟨Nat.le_of_ble_eq_true rfl, Nat.le_of_ble_eq_true rfl⟩ (Nat.le_of_ble_eq_true rfl) ⟨Nat.le_of_ble_eq_true rfl, Nat.le_of_ble_eq_true rfl⟩ rfl (fun r' h' E => o_X8_count l base D cA y6 9 h28 r' h' E) E (fun x30 h31 E => ?_)
                    refine g_aload_n C 1 dX10_same_480 rfl rfl ?_
                    refine g_bipush C 9 dX10_same_481 rfl ?_
                    refine g_iald C dX10_same_483 E (fun x32 E => ?_)
                    refine g_icmp_ne C 517 dX10_same_484 (by decide) E (fun E => ?_) (fun E => ?_)
                    · refine g_iconst C 0 dX10_same_517 rfl ?_
                      exact g_zret C dX10_same_518 hr E
                    · refine g_aload_n C 0 dX10_same_487 rfl rfl ?_
                      refine g_bipush C 10 dX10_same_488 rfl ?_
                      refine g_invI C (q := (RX8, TX8, 7)) [.int 10] dX10_same_490 cl_X10_54 cv_X8_count rfl (by decide) rfl rfl ⟨Nat.le_of_ble_eq_true rfl, Nat.le_of_ble_eq_true rfl⟩ (Nat.le_of_ble_eq_true rfl) ⟨Nat.le_of_ble_eq_true rfl, Nat.le_of_ble_eq_true rfl⟩ rfl (fun r' h' E => o_X8_count l base D cA y6 10 h31 r' h' E) E (fun x33 h34 E => ?_)
                      refine g_aload_n C 1 dX10_same_493 rfl rfl ?_
                      refine g_bipush C 10 dX10_same_494 rfl ?_
                      refine g_iald C dX10_same_496 E (fun x35 E => ?_)
                      refine g_icmp_ne C 517 dX10_same_497 (by decide) E (fun E => ?_) (fun E => ?_)
                      · refine g_iconst C 0 dX10_same_517 rfl ?_
                        exact g_zret C dX10_same_518 hr E
                      · refine g_aload_n C 0 dX10_same_500 rfl rfl ?_
                        refine g_aload_n C 1 dX10_same_501 rfl rfl ?_
                        refine g_bipush C 7 dX10_same_502 rfl ?_
                        refine g_iald C dX10_same_504 E (fun x36 E => ?_)
                        refine g_iconst C 0 dX10_same_505 rfl ?_
                        refine g_invI C (q := (RX8, TX8, 7)) [.int x36, .int 0] dX10_same_506 cl_X10_47 cv_X8_lease rfl (by decide) rfl rfl ⟨Nat.le_of_ble_eq_true rfl, Nat.le_of_ble_eq_true rfl⟩ (Nat.le_of_ble_eq_true rfl) ⟨Nat.le_of_ble_eq_true rfl, Nat.le_of_ble_eq_true rfl⟩ rfl (fun r' h' E => o_X8_lease l base D cA y6 x36 0 h34 r' h' E) E (fun x37 h38 E => ?_)
                        refine g_iconst C (-1) dX10_same_509 rfl ?_
                        refine g_icmp_ne C 517 dX10_same_510 (by decide) E (fun E => ?_) (fun E => ?_)
                        · refine g_iconst C 0 dX10_same_517 rfl ?_
                          exact g_zret C dX10_same_518 hr E
                        · refine g_iconst C 1 dX10_same_513 rfl ?_
                          refine g_goto C 518 dX10_same_514 (by decide) ?_
                          exact g_zret C dX10_same_518 hr E
abbrev rm_X10_haggled : Room := { frames := 5, cells := 0, slots := 0, locals := 112 }
def s_X10_haggled_J114 (v10 : Int32) (h : Hp) : Rv Int32 :=
  if v10 = (-4) then retZ 1 h
  else retZ 0 h
def s_X10_haggled_J252 (v2 : Nat) (v3 : Nat) (v4 : Nat) (v5 : Int32) (v6 : Int32) (v7 : Int32) (v8 : Int32) (v9 : Int32) (v10 : Int32) (v11 : Int32) (v13 : Int32) (w0 : Nat) (w1 : Int32) (w2 : Int32) (w3 : Int32) (h : Hp) : Rv Int32 :=
  stI h w0 20 w1 (w2 + w3) fun h =>
  if v11 ≤ v8 then ldI h v2 20 7 fun x15 =>
  stI h v2 20 7 (x15 + 1) fun h =>
  stI h v4 20 (5 * x15) v6 fun h =>
  stI h v4 20 ((5 * x15) + 1) v5 fun h =>
  stI h v4 20 ((5 * x15) + 2) v7 fun h =>
  stI h v4 20 ((5 * x15) + 3) v9 fun h =>
  stI h v4 20 ((5 * x15) + 4) v13 fun h =>
  ldI h v2 20 8 fun x16 =>
  stI h v2 20 8 (x16 + 1) fun h =>
  ldI h v3 20 ((16 * v5) + 2) fun x17 =>
  stI h v3 20 ((16 * v5) + 2) (x17 - v13) fun h =>
  ldI h v3 20 ((16 * v5) + 14) fun x18 =>
  stI h v3 20 ((16 * v5) + 14) (x18 + v13) fun h =>
  ldI h v3 20 ((16 * v6) + 2) fun x19 =>
  stI h v3 20 ((16 * v6) + 2) (x19 + v13) fun h =>
  ldI h v3 20 ((16 * v6) + 15) fun x20 =>
  stI h v3 20 ((16 * v6) + 15) (x20 + v13) fun h =>
  if v10 = v13 then retZ 1 h
  else retZ 0 h
  else ldI h v2 20 9 fun x21 =>
  stI h v2 20 9 (x21 + 1) fun h =>
  if v10 = 0 then retZ 1 h
  else retZ 0 h
def s_X10_haggled_J246 (v2 : Nat) (v3 : Nat) (v4 : Nat) (v5 : Int32) (v6 : Int32) (v7 : Int32) (v8 : Int32) (v9 : Int32) (v10 : Int32) (v11 : Int32) (v13 : Int32) (w0 : Nat) (w1 : Int32) (w2 : Int32) (h : Hp) : Rv Int32 :=
  s_X10_haggled_J252 v2 v3 v4 v5 v6 v7 v8 v9 v10 v11 v13 w0 w1 w2 0 h
def s_X10_haggled_J201 (v2 : Nat) (v3 : Nat) (v4 : Nat) (v5 : Int32) (v6 : Int32) (v7 : Int32) (v8 : Int32) (v9 : Int32) (v10 : Int32) (v11 : Int32) (v12 : Int32) (w0 : Int32) (h : Hp) : Rv Int32 :=
  ldI h v3 20 ((16 * v6) + 1) fun x13 =>
  ldI h v3 20 ((16 * v6) + 1) fun x14 =>
  if (x14 + v12) < 1 then s_X10_haggled_J246 v2 v3 v4 v5 v6 v7 v8 v9 v10 v11 w0 v3 ((16 * v6) + 1) x13 h
  else ldI h v3 20 ((16 * v6) + 1) fun x22 =>
  if (x22 + v12) ≤ 50 then s_X10_haggled_J252 v2 v3 v4 v5 v6 v7 v8 v9 v10 v11 w0 v3 ((16 * v6) + 1) x13 v12 h
  else s_X10_haggled_J246 v2 v3 v4 v5 v6 v7 v8 v9 v10 v11 w0 v3 ((16 * v6) + 1) x13 h
def s_X10_haggled_J181 (v2 : Nat) (v3 : Nat) (v4 : Nat) (v5 : Int32) (v6 : Int32) (v7 : Int32) (v8 : Int32) (v9 : Int32) (v10 : Int32) (v11 : Int32) (w0 : Int32) (h : Hp) : Rv Int32 :=
  if v8 < v11 then s_X10_haggled_J201 v2 v3 v4 v5 v6 v7 v8 v9 v10 v11 w0 0 h
  else divI (v8 + v11) 2 fun x23 =>
  s_X10_haggled_J201 v2 v3 v4 v5 v6 v7 v8 v9 v10 v11 w0 x23 h
def s_X10_haggled_J176 (v2 : Nat) (v3 : Nat) (v4 : Nat) (v5 : Int32) (v6 : Int32) (v7 : Int32) (v8 : Int32) (v9 : Int32) (v10 : Int32) (v11 : Int32) (h : Hp) : Rv Int32 :=
  s_X10_haggled_J181 v2 v3 v4 v5 v6 v7 v8 v9 v10 v11 1 h
def s_X10_haggled_J157 (v2 : Nat) (v3 : Nat) (v4 : Nat) (v5 : Int32) (v6 : Int32) (v7 : Int32) (v8 : Int32) (v9 : Int32) (v10 : Int32) (w0 : Int32) (w1 : Int32) (h : Hp) : Rv Int32 :=
  if (w0 * w1) ≤ v8 then s_X10_haggled_J176 v2 v3 v4 v5 v6 v7 v8 v9 v10 (w0 * w1) h
  else if (w0 * w1) ≤ (2 * v8) then s_X10_haggled_J181 v2 v3 v4 v5 v6 v7 v8 v9 v10 (w0 * w1) (-1) h
  else s_X10_haggled_J176 v2 v3 v4 v5 v6 v7 v8 v9 v10 (w0 * w1) h
def s_X10_haggled (a0 : Nat) (a1 : Int32) (a2 : Nat) (a3 : Nat) (a4 : Nat) (h : Hp) : Rv Int32 :=
  bnd (s_X10_low a1 3 h) fun x1 h =>
  bnd (s_X10_low (shrI a1 2) 2 h) fun x2 h =>
  remI ((x1 + 1) + x2) 3 fun x3 =>
  bnd (s_X10_low (shrI a1 3) 5 h) fun x4 h =>
  bnd (s_X10_low (shrI a1 6) 100 h) fun x5 h =>
  bnd (s_X10_low (shrI a1 13) 12 h) fun x6 h =>
  ldI h a2 20 7 fun x7 =>
  if x7 = 4 then retZ 1 h
  else inv h a0 8 (s_X8_haggle a0 x1 x3 (1 + x4) (1 + x5) (1 + x6) h) fun x8 h =>
  bnd (s_X10_unlent x3 a2 a3 a4 h) fun x9 h =>
  if x9 < (1 + x4) then s_X10_haggled_J114 x8 h
  else ldI h a3 20 ((16 * x1) + 2) fun x10 =>
  if (1 + x5) ≤ x10 then ldI h a3 20 ((16 * x3) + 1) fun x11 =>
  ldI h a3 20 ((16 * x3) + 5) fun x12 =>
  if x12 = 1 then s_X10_haggled_J157 a2 a3 a4 x1 x3 (1 + x4) (1 + x5) (1 + x6) x8 ((1 + x4) * x11) 2 h
  else s_X10_haggled_J157 a2 a3 a4 x1 x3 (1 + x4) (1 + x5) (1 + x6) x8 ((1 + x4) * x11) 1 h
  else s_X10_haggled_J114 x8 h
set_option maxRecDepth 100000 in
set_option maxHeartbeats 4000000 in
theorem o_X10_haggled_J114 {l : Launch} {base : Nat} {D : va_G} {cA : Nat → ClassId} {p : Program} {e : Env} {s : State} {m : MethodId} {args : Array Value} {below : List Frame} {meth : Method} {c : Code} (C : GC base D cA p s m args meth c cX10_haggled 15 RX10) (hr : meth.sig.returnType = (some .boolean)) {X : Int32 × Hp} : ∀ (v10 : Int32) (h : Hp), s_X10_haggled_J114 v10 h = some X → GW base D cA p l e rm_X10_haggled s m args below meth c (MQ below (QcI base D cA X.1 X.2) args s 0 0 (AA base)) 15 h 0 0 114 [(10, .int v10)] [] := by
  intro v10 h E
  unfold s_X10_haggled_J114 at E
  refine g_iload C 0 dX10_haggled_114 rfl ?_
  refine g_bipush C (-4) dX10_haggled_116 rfl ?_
  refine g_icmp_ne C 125 dX10_haggled_118 (by decide) E (fun E => ?_) (fun E => ?_)
  · refine g_iconst C 0 dX10_haggled_125 rfl ?_
    exact g_zret C dX10_haggled_126 hr E
  · refine g_iconst C 1 dX10_haggled_121 rfl ?_
    refine g_goto C 126 dX10_haggled_122 (by decide) ?_
    exact g_zret C dX10_haggled_126 hr E
set_option maxRecDepth 100000 in
set_option maxHeartbeats 4000000 in
theorem o_X10_haggled_J252 {l : Launch} {base : Nat} {D : va_G} {cA : Nat → ClassId} {p : Program} {e : Env} {s : State} {m : MethodId} {args : Array Value} {below : List Frame} {meth : Method} {c : Code} (C : GC base D cA p s m args meth c cX10_haggled 15 RX10) (hr : meth.sig.returnType = (some .boolean)) {X : Int32 × Hp} : ∀ (v2 : Nat) (v3 : Nat) (v4 : Nat) (v5 : Int32) (v6 : Int32) (v7 : Int32) (v8 : Int32) (v9 : Int32) (v10 : Int32) (v11 : Int32) (v13 : Int32) (w0 : Nat) (w1 : Int32) (w2 : Int32) (w3 : Int32) (h : Hp), s_X10_haggled_J252 v2 v3 v4 v5 v6 v7 v8 v9 v10 v11 v13 w0 w1 w2 w3 h = some X → GW base D cA p l e rm_X10_haggled s m args below meth c (MQ below (QcI base D cA X.1 X.2) args s 0 0 (AA base)) 15 h 0 0 252 [(2, .ref (base + v2)), (3, .ref (base + v3)), (4, .ref (base + v4)), (5, .int v5), (6, .int v6), (7, .int v7), (8, .int v8), (9, .int v9), (10, .int v10), (11, .int v11), (13, .int v13)] [.int w3, .int w2, .int w1, .ref (base + w0)] := by
  intro v2 v3 v4 v5 v6 v7 v8 v9 v10 v11 v13 w0 w1 w2 w3 h E
  unfold s_X10_haggled_J252 at E
  refine g_iadd C dX10_haggled_252 ?_
  refine g_iast C dX10_haggled_253 E (fun h1 E => ?_)
  refine g_iload C 6 dX10_haggled_254 rfl ?_
  refine g_iload C 9 dX10_haggled_256 rfl ?_
  refine g_icmp_ge C 280 dX10_haggled_258 (by decide) E (fun E => ?_) (fun E => ?_)
  · refine g_iconst C 5 dX10_haggled_280 rfl ?_
    refine g_aload_n C 0 dX10_haggled_281 rfl rfl ?_
    refine g_bipush C 7 dX10_haggled_282 rfl ?_
    refine g_dup2 C dX10_haggled_284 rfl rfl ?_
    refine g_iald C dX10_haggled_285 E (fun x2 E => ?_)
    refine g_dup_x2 C dX10_haggled_286 rfl rfl rfl ?_
    refine g_iconst C 1 dX10_haggled_287 rfl ?_
    refine g_iadd C dX10_haggled_288 ?_
    refine g_iast C dX10_haggled_289 E (fun h3 E => ?_)
    refine g_imul C dX10_haggled_290 ?_
    refine g_istore C (lv' := [(14, .int (5 * x2)), (2, .ref (base + v2)), (3, .ref (base + v3)), (4, .ref (base + v4)), (5, .int v5), (6, .int v6), (7, .int v7), (8, .int v8), (9, .int v9), (10, .int v10), (11, .int v11), (13, .int v13)]) dX10_haggled_291 (by decide) rfl ?_
    refine g_aload C 3 dX10_haggled_293 rfl ?_
    refine g_iload C 0 dX10_haggled_295 rfl ?_
    refine g_iload C 5 dX10_haggled_297 rfl ?_
    refine g_iast C dX10_haggled_299 E (fun h4 E => ?_)
    refine g_aload C 3 dX10_haggled_300 rfl ?_
    refine g_iload C 0 dX10_haggled_302 rfl ?_
    refine g_iconst C 1 dX10_haggled_304 rfl ?_
    refine g_iadd C dX10_haggled_305 ?_
    refine g_iload C 4 dX10_haggled_306 rfl ?_
    refine g_iast C dX10_haggled_308 E (fun h5 E => ?_)
    refine g_aload C 3 dX10_haggled_309 rfl ?_
    refine g_iload C 0 dX10_haggled_311 rfl ?_
    refine g_iconst C 2 dX10_haggled_313 rfl ?_
    refine g_iadd C dX10_haggled_314 ?_
    refine g_iload C 6 dX10_haggled_315 rfl ?_
    refine g_iast C dX10_haggled_317 E (fun h6 E => ?_)
    refine g_aload C 3 dX10_haggled_318 rfl ?_
    refine g_iload C 0 dX10_haggled_320 rfl ?_
    refine g_iconst C 3 dX10_haggled_322 rfl ?_
    refine g_iadd C dX10_haggled_323 ?_
    refine g_iload C 8 dX10_haggled_324 rfl ?_
    refine g_iast C dX10_haggled_326 E (fun h7 E => ?_)
    refine g_aload C 3 dX10_haggled_327 rfl ?_
    refine g_iload C 0 dX10_haggled_329 rfl ?_
    refine g_iconst C 4 dX10_haggled_331 rfl ?_
    refine g_iadd C dX10_haggled_332 ?_
    refine g_iload C 11 dX10_haggled_333 rfl ?_
    refine g_iast C dX10_haggled_335 E (fun h8 E => ?_)
    refine g_aload_n C 1 dX10_haggled_336 rfl rfl ?_
    refine g_bipush C 8 dX10_haggled_337 rfl ?_
    refine g_dup2 C dX10_haggled_339 rfl rfl ?_
    refine g_iald C dX10_haggled_340 E (fun x9 E => ?_)
    refine g_iconst C 1 dX10_haggled_341 rfl ?_
    refine g_iadd C dX10_haggled_342 ?_
    refine g_iast C dX10_haggled_343 E (fun h10 E => ?_)
    refine g_aload_n C 2 dX10_haggled_344 rfl rfl ?_
    refine g_bipush C 16 dX10_haggled_345 rfl ?_
    refine g_iload C 4 dX10_haggled_347 rfl ?_
    refine g_imul C dX10_haggled_349 ?_
    refine g_iconst C 2 dX10_haggled_350 rfl ?_
    refine g_iadd C dX10_haggled_351 ?_
    refine g_dup2 C dX10_haggled_352 rfl rfl ?_
    refine g_iald C dX10_haggled_353 E (fun x11 E => ?_)
    refine g_iload C 11 dX10_haggled_354 rfl ?_
    refine g_isub C dX10_haggled_356 ?_
    refine g_iast C dX10_haggled_357 E (fun h12 E => ?_)
    refine g_aload_n C 2 dX10_haggled_358 rfl rfl ?_
    refine g_bipush C 16 dX10_haggled_359 rfl ?_
    refine g_iload C 4 dX10_haggled_361 rfl ?_
    refine g_imul C dX10_haggled_363 ?_
    refine g_bipush C 14 dX10_haggled_364 rfl ?_
    refine g_iadd C dX10_haggled_366 ?_
    refine g_dup2 C dX10_haggled_367 rfl rfl ?_
    refine g_iald C dX10_haggled_368 E (fun x13 E => ?_)
    refine g_iload C 11 dX10_haggled_369 rfl ?_
    refine g_iadd C dX10_haggled_371 ?_
    refine g_iast C dX10_haggled_372 E (fun h14 E => ?_)
    refine g_aload_n C 2 dX10_haggled_373 rfl rfl ?_
    refine g_bipush C 16 dX10_haggled_374 rfl ?_
    refine g_iload C 5 dX10_haggled_376 rfl ?_
    refine g_imul C dX10_haggled_378 ?_
    refine g_iconst C 2 dX10_haggled_379 rfl ?_
    refine g_iadd C dX10_haggled_380 ?_
    refine g_dup2 C dX10_haggled_381 rfl rfl ?_
    refine g_iald C dX10_haggled_382 E (fun x15 E => ?_)
    refine g_iload C 11 dX10_haggled_383 rfl ?_
    refine g_iadd C dX10_haggled_385 ?_
    refine g_iast C dX10_haggled_386 E (fun h16 E => ?_)
    refine g_aload_n C 2 dX10_haggled_387 rfl rfl ?_
    refine g_bipush C 16 dX10_haggled_388 rfl ?_
    refine g_iload C 5 dX10_haggled_390 rfl ?_
    refine g_imul C dX10_haggled_392 ?_
    refine g_bipush C 15 dX10_haggled_393 rfl ?_
    refine g_iadd C dX10_haggled_395 ?_
    refine g_dup2 C dX10_haggled_396 rfl rfl ?_
    refine g_iald C dX10_haggled_397 E (fun x17 E => ?_)
    refine g_iload C 11 dX10_haggled_398 rfl ?_
    refine g_iadd C dX10_haggled_400 ?_
    refine g_iast C dX10_haggled_401 E (fun h18 E => ?_)
    refine g_iload C 9 dX10_haggled_402 rfl ?_
    refine g_iload C 11 dX10_haggled_404 rfl ?_
    refine g_icmp_ne C 413 dX10_haggled_406 (by decide) E (fun E => ?_) (fun E => ?_)
    · refine g_iconst C 0 dX10_haggled_413 rfl ?_
      exact g_zret C dX10_haggled_414 hr E
    · refine g_iconst C 1 dX10_haggled_409 rfl ?_
      refine g_goto C 414 dX10_haggled_410 (by decide) ?_
      exact g_zret C dX10_haggled_414 hr E
  · refine g_aload_n C 0 dX10_haggled_261 rfl rfl ?_
    refine g_bipush C 9 dX10_haggled_262 rfl ?_
    refine g_dup2 C dX10_haggled_264 rfl rfl ?_
    refine g_iald C dX10_haggled_265 E (fun x19 E => ?_)
    refine g_iconst C 1 dX10_haggled_266 rfl ?_
    refine g_iadd C dX10_haggled_267 ?_
    refine g_iast C dX10_haggled_268 E (fun h20 E => ?_)
    refine g_iload C 8 dX10_haggled_269 rfl ?_
    refine g_if_ne C 278 dX10_haggled_271 (by decide) E (fun E => ?_) (fun E => ?_)
    · refine g_iconst C 0 dX10_haggled_278 rfl ?_
      exact g_zret C dX10_haggled_279 hr E
    · refine g_iconst C 1 dX10_haggled_274 rfl ?_
      refine g_goto C 279 dX10_haggled_275 (by decide) ?_
      exact g_zret C dX10_haggled_279 hr E
set_option maxRecDepth 100000 in
set_option maxHeartbeats 4000000 in
theorem o_X10_haggled_J246 {l : Launch} {base : Nat} {D : va_G} {cA : Nat → ClassId} {p : Program} {e : Env} {s : State} {m : MethodId} {args : Array Value} {below : List Frame} {meth : Method} {c : Code} (C : GC base D cA p s m args meth c cX10_haggled 15 RX10) (hr : meth.sig.returnType = (some .boolean)) {X : Int32 × Hp} : ∀ (v2 : Nat) (v3 : Nat) (v4 : Nat) (v5 : Int32) (v6 : Int32) (v7 : Int32) (v8 : Int32) (v9 : Int32) (v10 : Int32) (v11 : Int32) (v13 : Int32) (w0 : Nat) (w1 : Int32) (w2 : Int32) (h : Hp), s_X10_haggled_J246 v2 v3 v4 v5 v6 v7 v8 v9 v10 v11 v13 w0 w1 w2 h = some X → GW base D cA p l e rm_X10_haggled s m args below meth c (MQ below (QcI base D cA X.1 X.2) args s 0 0 (AA base)) 15 h 0 0 246 [(2, .ref (base + v2)), (3, .ref (base + v3)), (4, .ref (base + v4)), (5, .int v5), (6, .int v6), (7, .int v7), (8, .int v8), (9, .int v9), (10, .int v10), (11, .int v11), (13, .int v13)] [.int w2, .int w1, .ref (base + w0)] := by
  intro v2 v3 v4 v5 v6 v7 v8 v9 v10 v11 v13 w0 w1 w2 h E
  unfold s_X10_haggled_J246 at E
  refine g_iconst C 0 dX10_haggled_246 rfl ?_
  refine g_goto C 252 dX10_haggled_247 (by decide) ?_
  refine g_sub (lv' := [(2, .ref (base + v2)), (3, .ref (base + v3)), (4, .ref (base + v4)), (5, .int v5), (6, .int v6), (7, .int v7), (8, .int v8), (9, .int v9), (10, .int v10), (11, .int v11), (13, .int v13)]) [0, 1, 2, 3, 4, 5, 6, 7, 8, 9, 10] rfl ?_
  exact o_X10_haggled_J252 C hr v2 v3 v4 v5 v6 v7 v8 v9 v10 v11 v13 w0 w1 w2 0 h E
set_option maxRecDepth 100000 in
set_option maxHeartbeats 4000000 in
theorem o_X10_haggled_J201 {l : Launch} {base : Nat} {D : va_G} {cA : Nat → ClassId} {p : Program} {e : Env} {s : State} {m : MethodId} {args : Array Value} {below : List Frame} {meth : Method} {c : Code} (C : GC base D cA p s m args meth c cX10_haggled 15 RX10) (hr : meth.sig.returnType = (some .boolean)) {X : Int32 × Hp} : ∀ (v2 : Nat) (v3 : Nat) (v4 : Nat) (v5 : Int32) (v6 : Int32) (v7 : Int32) (v8 : Int32) (v9 : Int32) (v10 : Int32) (v11 : Int32) (v12 : Int32) (w0 : Int32) (h : Hp), s_X10_haggled_J201 v2 v3 v4 v5 v6 v7 v8 v9 v10 v11 v12 w0 h = some X → GW base D cA p l e rm_X10_haggled s m args below meth c (MQ below (QcI base D cA X.1 X.2) args s 0 0 (AA base)) 15 h 0 0 201 [(2, .ref (base + v2)), (3, .ref (base + v3)), (4, .ref (base + v4)), (5, .int v5), (6, .int v6), (7, .int v7), (8, .int v8), (9, .int v9), (10, .int v10), (11, .int v11), (12, .int v12)] [.int w0] := by
  intro v2 v3 v4 v5 v6 v7 v8 v9 v10 v11 v12 w0 h E
  unfold s_X10_haggled_J201 at E
  refine g_istore C (lv' := [(13, .int w0), (2, .ref (base + v2)), (3, .ref (base + v3)), (4, .ref (base + v4)), (5, .int v5), (6, .int v6), (7, .int v7), (8, .int v8), (9, .int v9), (10, .int v10), (11, .int v11), (12, .int v12)]) dX10_haggled_201 (by decide) rfl ?_
  refine g_aload_n C 2 dX10_haggled_203 rfl rfl ?_
  refine g_bipush C 16 dX10_haggled_204 rfl ?_
  refine g_iload C 5 dX10_haggled_206 rfl ?_
  refine g_imul C dX10_haggled_208 ?_
  refine g_iconst C 1 dX10_haggled_209 rfl ?_
  refine g_iadd C dX10_haggled_210 ?_
  refine g_dup2 C dX10_haggled_211 rfl rfl ?_
  refine g_iald C dX10_haggled_212 E (fun x1 E => ?_)
  refine g_aload_n C 2 dX10_haggled_213 rfl rfl ?_
  refine g_bipush C 16 dX10_haggled_214 rfl ?_
  refine g_iload C 5 dX10_haggled_216 rfl ?_
  refine g_imul C dX10_haggled_218 ?_
  refine g_iconst C 1 dX10_haggled_219 rfl ?_
  refine g_iadd C dX10_haggled_220 ?_
  refine g_iald C dX10_haggled_221 E (fun x2 E => ?_)
  refine g_iload C 11 dX10_haggled_222 rfl ?_
  refine g_iadd C dX10_haggled_224 ?_
  refine g_iconst C 1 dX10_haggled_225 rfl ?_
  refine g_icmp_lt C 246 dX10_haggled_226 (by decide) E (fun E => ?_) (fun E => ?_)
  · refine g_sub (lv' := [(2, .ref (base + v2)), (3, .ref (base + v3)), (4, .ref (base + v4)), (5, .int v5), (6, .int v6), (7, .int v7), (8, .int v8), (9, .int v9), (10, .int v10), (11, .int v11), (13, .int w0)]) [1, 2, 3, 4, 5, 6, 7, 8, 9, 10, 0] rfl ?_
    exact o_X10_haggled_J246 C hr v2 v3 v4 v5 v6 v7 v8 v9 v10 v11 w0 v3 ((16 * v6) + 1) x1 h E
  · refine g_aload_n C 2 dX10_haggled_229 rfl rfl ?_
    refine g_bipush C 16 dX10_haggled_230 rfl ?_
    refine g_iload C 5 dX10_haggled_232 rfl ?_
    refine g_imul C dX10_haggled_234 ?_
    refine g_iconst C 1 dX10_haggled_235 rfl ?_
    refine g_iadd C dX10_haggled_236 ?_
    refine g_iald C dX10_haggled_237 E (fun x3 E => ?_)
    refine g_iload C 11 dX10_haggled_238 rfl ?_
    refine g_iadd C dX10_haggled_240 ?_
    refine g_bipush C 50 dX10_haggled_241 rfl ?_
    refine g_icmp_le C 250 dX10_haggled_243 (by decide) E (fun E => ?_) (fun E => ?_)
    · refine g_iload C 11 dX10_haggled_250 rfl ?_
      refine g_sub (lv' := [(2, .ref (base + v2)), (3, .ref (base + v3)), (4, .ref (base + v4)), (5, .int v5), (6, .int v6), (7, .int v7), (8, .int v8), (9, .int v9), (10, .int v10), (11, .int v11), (13, .int w0)]) [1, 2, 3, 4, 5, 6, 7, 8, 9, 10, 0] rfl ?_
      exact o_X10_haggled_J252 C hr v2 v3 v4 v5 v6 v7 v8 v9 v10 v11 w0 v3 ((16 * v6) + 1) x1 v12 h E
    · refine g_sub (lv' := [(2, .ref (base + v2)), (3, .ref (base + v3)), (4, .ref (base + v4)), (5, .int v5), (6, .int v6), (7, .int v7), (8, .int v8), (9, .int v9), (10, .int v10), (11, .int v11), (13, .int w0)]) [1, 2, 3, 4, 5, 6, 7, 8, 9, 10, 0] rfl ?_
      exact o_X10_haggled_J246 C hr v2 v3 v4 v5 v6 v7 v8 v9 v10 v11 w0 v3 ((16 * v6) + 1) x1 h E
set_option maxRecDepth 100000 in
set_option maxHeartbeats 4000000 in
theorem o_X10_haggled_J181 {l : Launch} {base : Nat} {D : va_G} {cA : Nat → ClassId} {p : Program} {e : Env} {s : State} {m : MethodId} {args : Array Value} {below : List Frame} {meth : Method} {c : Code} (C : GC base D cA p s m args meth c cX10_haggled 15 RX10) (hr : meth.sig.returnType = (some .boolean)) {X : Int32 × Hp} : ∀ (v2 : Nat) (v3 : Nat) (v4 : Nat) (v5 : Int32) (v6 : Int32) (v7 : Int32) (v8 : Int32) (v9 : Int32) (v10 : Int32) (v11 : Int32) (w0 : Int32) (h : Hp), s_X10_haggled_J181 v2 v3 v4 v5 v6 v7 v8 v9 v10 v11 w0 h = some X → GW base D cA p l e rm_X10_haggled s m args below meth c (MQ below (QcI base D cA X.1 X.2) args s 0 0 (AA base)) 15 h 0 0 181 [(2, .ref (base + v2)), (3, .ref (base + v3)), (4, .ref (base + v4)), (5, .int v5), (6, .int v6), (7, .int v7), (8, .int v8), (9, .int v9), (10, .int v10), (11, .int v11)] [.int w0] := by
  intro v2 v3 v4 v5 v6 v7 v8 v9 v10 v11 w0 h E
  unfold s_X10_haggled_J181 at E
  refine g_istore C (lv' := [(12, .int w0), (2, .ref (base + v2)), (3, .ref (base + v3)), (4, .ref (base + v4)), (5, .int v5), (6, .int v6), (7, .int v7), (8, .int v8), (9, .int v9), (10, .int v10), (11, .int v11)]) dX10_haggled_181 (by decide) rfl ?_
  refine g_iload C 7 dX10_haggled_183 rfl ?_
  refine g_iload C 10 dX10_haggled_185 rfl ?_
  refine g_icmp_lt C 200 dX10_haggled_187 (by decide) E (fun E => ?_) (fun E => ?_)
  · refine g_iconst C 0 dX10_haggled_200 rfl ?_
    refine g_sub (lv' := [(2, .ref (base + v2)), (3, .ref (base + v3)), (4, .ref (base + v4)), (5, .int v5), (6, .int v6), (7, .int v7), (8, .int v8), (9, .int v9), (10, .int v10), (11, .int v11), (12, .int w0)]) [1, 2, 3, 4, 5, 6, 7, 8, 9, 10, 0] rfl ?_
    exact o_X10_haggled_J201 C hr v2 v3 v4 v5 v6 v7 v8 v9 v10 v11 w0 0 h E
  · refine g_iload C 7 dX10_haggled_190 rfl ?_
    refine g_iload C 10 dX10_haggled_192 rfl ?_
    refine g_iadd C dX10_haggled_194 ?_
    refine g_iconst C 2 dX10_haggled_195 rfl ?_
    refine g_idiv C dX10_haggled_196 E (fun x1 E => ?_)
    refine g_goto C 201 dX10_haggled_197 (by decide) ?_
    refine g_sub (lv' := [(2, .ref (base + v2)), (3, .ref (base + v3)), (4, .ref (base + v4)), (5, .int v5), (6, .int v6), (7, .int v7), (8, .int v8), (9, .int v9), (10, .int v10), (11, .int v11), (12, .int w0)]) [1, 2, 3, 4, 5, 6, 7, 8, 9, 10, 0] rfl ?_
    exact o_X10_haggled_J201 C hr v2 v3 v4 v5 v6 v7 v8 v9 v10 v11 w0 x1 h E
set_option maxRecDepth 100000 in
set_option maxHeartbeats 4000000 in
theorem o_X10_haggled_J176 {l : Launch} {base : Nat} {D : va_G} {cA : Nat → ClassId} {p : Program} {e : Env} {s : State} {m : MethodId} {args : Array Value} {below : List Frame} {meth : Method} {c : Code} (C : GC base D cA p s m args meth c cX10_haggled 15 RX10) (hr : meth.sig.returnType = (some .boolean)) {X : Int32 × Hp} : ∀ (v2 : Nat) (v3 : Nat) (v4 : Nat) (v5 : Int32) (v6 : Int32) (v7 : Int32) (v8 : Int32) (v9 : Int32) (v10 : Int32) (v11 : Int32) (h : Hp), s_X10_haggled_J176 v2 v3 v4 v5 v6 v7 v8 v9 v10 v11 h = some X → GW base D cA p l e rm_X10_haggled s m args below meth c (MQ below (QcI base D cA X.1 X.2) args s 0 0 (AA base)) 15 h 0 0 176 [(2, .ref (base + v2)), (3, .ref (base + v3)), (4, .ref (base + v4)), (5, .int v5), (6, .int v6), (7, .int v7), (8, .int v8), (9, .int v9), (10, .int v10), (11, .int v11)] [] := by
  intro v2 v3 v4 v5 v6 v7 v8 v9 v10 v11 h E
  unfold s_X10_haggled_J176 at E
  refine g_iconst C 1 dX10_haggled_176 rfl ?_
  refine g_goto C 181 dX10_haggled_177 (by decide) ?_
  refine g_sub (lv' := [(2, .ref (base + v2)), (3, .ref (base + v3)), (4, .ref (base + v4)), (5, .int v5), (6, .int v6), (7, .int v7), (8, .int v8), (9, .int v9), (10, .int v10), (11, .int v11)]) [0, 1, 2, 3, 4, 5, 6, 7, 8, 9] rfl ?_
  exact o_X10_haggled_J181 C hr v2 v3 v4 v5 v6 v7 v8 v9 v10 v11 1 h E
set_option maxRecDepth 100000 in
set_option maxHeartbeats 4000000 in
theorem o_X10_haggled_J157 {l : Launch} {base : Nat} {D : va_G} {cA : Nat → ClassId} {p : Program} {e : Env} {s : State} {m : MethodId} {args : Array Value} {below : List Frame} {meth : Method} {c : Code} (C : GC base D cA p s m args meth c cX10_haggled 15 RX10) (hr : meth.sig.returnType = (some .boolean)) {X : Int32 × Hp} : ∀ (v2 : Nat) (v3 : Nat) (v4 : Nat) (v5 : Int32) (v6 : Int32) (v7 : Int32) (v8 : Int32) (v9 : Int32) (v10 : Int32) (w0 : Int32) (w1 : Int32) (h : Hp), s_X10_haggled_J157 v2 v3 v4 v5 v6 v7 v8 v9 v10 w0 w1 h = some X → GW base D cA p l e rm_X10_haggled s m args below meth c (MQ below (QcI base D cA X.1 X.2) args s 0 0 (AA base)) 15 h 0 0 157 [(2, .ref (base + v2)), (3, .ref (base + v3)), (4, .ref (base + v4)), (5, .int v5), (6, .int v6), (7, .int v7), (8, .int v8), (9, .int v9), (10, .int v10)] [.int w1, .int w0] := by
  intro v2 v3 v4 v5 v6 v7 v8 v9 v10 w0 w1 h E
  unfold s_X10_haggled_J157 at E
  refine g_imul C dX10_haggled_157 ?_
  refine g_istore C (lv' := [(11, .int (w0 * w1)), (2, .ref (base + v2)), (3, .ref (base + v3)), (4, .ref (base + v4)), (5, .int v5), (6, .int v6), (7, .int v7), (8, .int v8), (9, .int v9), (10, .int v10)]) dX10_haggled_158 (by decide) rfl ?_
  refine g_iload C 7 dX10_haggled_160 rfl ?_
  refine g_iload C 0 dX10_haggled_162 rfl ?_
  refine g_icmp_ge C 176 dX10_haggled_164 (by decide) E (fun E => ?_) (fun E => ?_)
  · refine g_sub (lv' := [(2, .ref (base + v2)), (3, .ref (base + v3)), (4, .ref (base + v4)), (5, .int v5), (6, .int v6), (7, .int v7), (8, .int v8), (9, .int v9), (10, .int v10), (11, .int (w0 * w1))]) [1, 2, 3, 4, 5, 6, 7, 8, 9, 0] rfl ?_
    exact o_X10_haggled_J176 C hr v2 v3 v4 v5 v6 v7 v8 v9 v10 (w0 * w1) h E
  · refine g_iconst C 2 dX10_haggled_167 rfl ?_
    refine g_iload C 7 dX10_haggled_168 rfl ?_
    refine g_imul C dX10_haggled_170 ?_
    refine g_iload C 0 dX10_haggled_171 rfl ?_
    refine g_icmp_ge C 180 dX10_haggled_173 (by decide) E (fun E => ?_) (fun E => ?_)
    · refine g_iconst C (-1) dX10_haggled_180 rfl ?_
      refine g_sub (lv' := [(2, .ref (base + v2)), (3, .ref (base + v3)), (4, .ref (base + v4)), (5, .int v5), (6, .int v6), (7, .int v7), (8, .int v8), (9, .int v9), (10, .int v10), (11, .int (w0 * w1))]) [1, 2, 3, 4, 5, 6, 7, 8, 9, 0] rfl ?_
      exact o_X10_haggled_J181 C hr v2 v3 v4 v5 v6 v7 v8 v9 v10 (w0 * w1) (-1) h E
    · refine g_sub (lv' := [(2, .ref (base + v2)), (3, .ref (base + v3)), (4, .ref (base + v4)), (5, .int v5), (6, .int v6), (7, .int v7), (8, .int v8), (9, .int v9), (10, .int v10), (11, .int (w0 * w1))]) [1, 2, 3, 4, 5, 6, 7, 8, 9, 0] rfl ?_
      exact o_X10_haggled_J176 C hr v2 v3 v4 v5 v6 v7 v8 v9 v10 (w0 * w1) h E
set_option maxRecDepth 100000 in
set_option maxHeartbeats 4000000 in
theorem o_X10_haggled (l : Launch) (base : Nat) (D : va_G) (cA : Nat → ClassId) (a0 : Nat) (a1 : Int32) (a2 : Nat) (a3 : Nat) (a4 : Nat) (h : Hp) (r : Int32) (h' : Hp) (E : s_X10_haggled a0 a1 a2 a3 a4 h = some (r, h')) : Met l yX10_haggled (.code yX10_haggled cX10_haggled 15 (some .boolean) :: wsA) rm_X10_haggled (PcG base D cA [.ref (base + a0), .int a1, .ref (base + a2), .ref (base + a3), .ref (base + a4)] h) (QcI base D cA r h') 0 0 (AA base) := by
  refine g_met [.ref (base + a0), .int a1, .ref (base + a2), .ref (base + a3), .ref (base + a4)] (by decide) (Nat.le_of_ble_eq_true rfl) (fun p e s m args below meth c C hr hn => ?_)
  refine g_lv (lv' := [(0, .ref (base + a0)), (1, .int a1), (2, .ref (base + a2)), (3, .ref (base + a3)), (4, .ref (base + a4))]) rfl ?_
  unfold s_X10_haggled at E
  refine g_iload_n C 1 dX10_haggled_0 rfl rfl ?_
  refine g_iconst C 3 dX10_haggled_1 rfl ?_
  refine g_staI C [.int a1, .int 3] dX10_haggled_2 cl_X10_57 cs_X10_low rfl rfl ⟨Nat.le_of_ble_eq_true rfl, Nat.le_of_ble_eq_true rfl⟩ (Nat.le_of_ble_eq_true rfl) ⟨Nat.le_of_ble_eq_true rfl, Nat.le_of_ble_eq_true rfl⟩ rfl (fun r' h' E => o_X10_low l base D cA a1 3 h r' h' E) E (fun x1 h2 E => ?_)
  refine g_istore C (lv' := [(5, .int x1), (0, .ref (base + a0)), (1, .int a1), (2, .ref (base + a2)), (3, .ref (base + a3)), (4, .ref (base + a4))]) dX10_haggled_5 (by decide) rfl ?_
  refine g_iload C 0 dX10_haggled_7 rfl ?_
  refine g_iconst C 1 dX10_haggled_9 rfl ?_
  refine g_iadd C dX10_haggled_10 ?_
  refine g_iload_n C 2 dX10_haggled_11 rfl rfl ?_
  refine g_iconst C 2 dX10_haggled_12 rfl ?_
  refine g_ishr C dX10_haggled_13 ?_
  refine g_iconst C 2 dX10_haggled_14 rfl ?_
  refine g_staI C [.int (shrI a1 2), .int 2] dX10_haggled_15 cl_X10_57 cs_X10_low rfl rfl ⟨Nat.le_of_ble_eq_true rfl, Nat.le_of_ble_eq_true rfl⟩ (Nat.le_of_ble_eq_true rfl) ⟨Nat.le_of_ble_eq_true rfl, Nat.le_of_ble_eq_true rfl⟩ rfl (fun r' h' E => o_X10_low l base D cA (shrI a1 2) 2 h2 r' h' E) E (fun x3 h4 E => ?_)
  refine g_iadd C dX10_haggled_18 ?_
  refine g_iconst C 3 dX10_haggled_19 rfl ?_
  refine g_irem C dX10_haggled_20 E (fun x5 E => ?_)
  refine g_istore C (lv' := [(6, .int x5), (5, .int x1), (0, .ref (base + a0)), (1, .int a1), (2, .ref (base + a2)), (3, .ref (base + a3)), (4, .ref (base + a4))]) dX10_haggled_21 (by decide) rfl ?_
  refine g_iconst C 1 dX10_haggled_23 rfl ?_
  refine g_iload_n C 3 dX10_haggled_24 rfl rfl ?_
  refine g_iconst C 3 dX10_haggled_25 rfl ?_
  refine g_ishr C dX10_haggled_26 ?_
  refine g_iconst C 5 dX10_haggled_27 rfl ?_
  refine g_staI C [.int (shrI a1 3), .int 5] dX10_haggled_28 cl_X10_57 cs_X10_low rfl rfl ⟨Nat.le_of_ble_eq_true rfl, Nat.le_of_ble_eq_true rfl⟩ (Nat.le_of_ble_eq_true rfl) ⟨Nat.le_of_ble_eq_true rfl, Nat.le_of_ble_eq_true rfl⟩ rfl (fun r' h' E => o_X10_low l base D cA (shrI a1 3) 5 h4 r' h' E) E (fun x6 h7 E => ?_)
  refine g_iadd C dX10_haggled_31 ?_
  refine g_istore C (lv' := [(7, .int (1 + x6)), (6, .int x5), (5, .int x1), (0, .ref (base + a0)), (1, .int a1), (2, .ref (base + a2)), (3, .ref (base + a3)), (4, .ref (base + a4))]) dX10_haggled_32 (by decide) rfl ?_
  refine g_iconst C 1 dX10_haggled_34 rfl ?_
  refine g_iload_n C 4 dX10_haggled_35 rfl rfl ?_
  refine g_bipush C 6 dX10_haggled_36 rfl ?_
  refine g_ishr C dX10_haggled_38 ?_
  refine g_bipush C 100 dX10_haggled_39 rfl ?_
  refine g_staI C [.int (shrI a1 6), .int 100] dX10_haggled_41 cl_X10_57 cs_X10_low rfl rfl ⟨Nat.le_of_ble_eq_true rfl, Nat.le_of_ble_eq_true rfl⟩ (Nat.le_of_ble_eq_true rfl) ⟨Nat.le_of_ble_eq_true rfl, Nat.le_of_ble_eq_true rfl⟩ rfl (fun r' h' E => o_X10_low l base D cA (shrI a1 6) 100 h7 r' h' E) E (fun x8 h9 E => ?_)
  refine g_iadd C dX10_haggled_44 ?_
  refine g_istore C (lv' := [(8, .int (1 + x8)), (7, .int (1 + x6)), (6, .int x5), (5, .int x1), (0, .ref (base + a0)), (1, .int a1), (2, .ref (base + a2)), (3, .ref (base + a3)), (4, .ref (base + a4))]) dX10_haggled_45 (by decide) rfl ?_
  refine g_iconst C 1 dX10_haggled_47 rfl ?_
  refine g_iload_n C 5 dX10_haggled_48 rfl rfl ?_
  refine g_bipush C 13 dX10_haggled_49 rfl ?_
  refine g_ishr C dX10_haggled_51 ?_
  refine g_bipush C 12 dX10_haggled_52 rfl ?_
  refine g_staI C [.int (shrI a1 13), .int 12] dX10_haggled_54 cl_X10_57 cs_X10_low rfl rfl ⟨Nat.le_of_ble_eq_true rfl, Nat.le_of_ble_eq_true rfl⟩ (Nat.le_of_ble_eq_true rfl) ⟨Nat.le_of_ble_eq_true rfl, Nat.le_of_ble_eq_true rfl⟩ rfl (fun r' h' E => o_X10_low l base D cA (shrI a1 13) 12 h9 r' h' E) E (fun x10 h11 E => ?_)
  refine g_iadd C dX10_haggled_57 ?_
  refine g_istore C (lv' := [(9, .int (1 + x10)), (8, .int (1 + x8)), (7, .int (1 + x6)), (6, .int x5), (5, .int x1), (0, .ref (base + a0)), (1, .int a1), (2, .ref (base + a2)), (3, .ref (base + a3)), (4, .ref (base + a4))]) dX10_haggled_58 (by decide) rfl ?_
  refine g_aload_n C 7 dX10_haggled_60 rfl rfl ?_
  refine g_bipush C 7 dX10_haggled_61 rfl ?_
  refine g_iald C dX10_haggled_63 E (fun x12 E => ?_)
  refine g_iconst C 4 dX10_haggled_64 rfl ?_
  refine g_icmp_ne C 70 dX10_haggled_65 (by decide) E (fun E => ?_) (fun E => ?_)
  · refine g_aload_n C 5 dX10_haggled_70 rfl rfl ?_
    refine g_iload C 4 dX10_haggled_71 rfl ?_
    refine g_iload C 3 dX10_haggled_73 rfl ?_
    refine g_iload C 2 dX10_haggled_75 rfl ?_
    refine g_iload C 1 dX10_haggled_77 rfl ?_
    refine g_iload C 0 dX10_haggled_79 rfl ?_
    refine g_invI C (q := (RX8, TX8, 7)) [.int x1, .int x5, .int (1 + x6), .int (1 + x8), .int (1 + x10)] dX10_haggled_81 cl_X10_60 cv_X8_haggle rfl (by decide) rfl rfl ⟨Nat.le_of_ble_eq_true rfl, Nat.le_of_ble_eq_true rfl⟩ (Nat.le_of_ble_eq_true rfl) ⟨Nat.le_of_ble_eq_true rfl, Nat.le_of_ble_eq_true rfl⟩ rfl (fun r' h' E => o_X8_haggle l base D cA a0 x1 x5 (1 + x6) (1 + x8) (1 + x10) h11 r' h' E) E (fun x13 h14 E => ?_)
    refine g_istore C (lv' := [(10, .int x13), (9, .int (1 + x10)), (8, .int (1 + x8)), (7, .int (1 + x6)), (6, .int x5), (5, .int x1), (0, .ref (base + a0)), (1, .int a1), (2, .ref (base + a2)), (3, .ref (base + a3)), (4, .ref (base + a4))]) dX10_haggled_84 (by decide) rfl ?_
    refine g_iload C 4 dX10_haggled_86 rfl ?_
    refine g_aload_n C 8 dX10_haggled_88 rfl rfl ?_
    refine g_aload_n C 9 dX10_haggled_89 rfl rfl ?_
    refine g_aload C 10 dX10_haggled_90 rfl ?_
    refine g_staI C [.int x5, .ref (base + a2), .ref (base + a3), .ref (base + a4)] dX10_haggled_92 cl_X10_64 cs_X10_unlent rfl rfl ⟨Nat.le_of_ble_eq_true rfl, Nat.le_of_ble_eq_true rfl⟩ (Nat.le_of_ble_eq_true rfl) ⟨Nat.le_of_ble_eq_true rfl, Nat.le_of_ble_eq_true rfl⟩ rfl (fun r' h' E => o_X10_unlent l base D cA x5 a2 a3 a4 h14 r' h' E) E (fun x15 h16 E => ?_)
    refine g_iload C 3 dX10_haggled_95 rfl ?_
    refine g_icmp_lt C 114 dX10_haggled_97 (by decide) E (fun E => ?_) (fun E => ?_)
    · refine g_sub (lv' := [(10, .int x13)]) [0] rfl ?_
      exact o_X10_haggled_J114 C hr x13 h16 E
    · refine g_aload_n C 9 dX10_haggled_100 rfl rfl ?_
      refine g_bipush C 16 dX10_haggled_101 rfl ?_
      refine g_iload C 5 dX10_haggled_103 rfl ?_
      refine g_imul C dX10_haggled_105 ?_
      refine g_iconst C 2 dX10_haggled_106 rfl ?_
      refine g_iadd C dX10_haggled_107 ?_
      refine g_iald C dX10_haggled_108 E (fun x17 E => ?_)
      refine g_iload C 2 dX10_haggled_109 rfl ?_
      refine g_icmp_ge C 127 dX10_haggled_111 (by decide) E (fun E => ?_) (fun E => ?_)
      · refine g_iload C 3 dX10_haggled_127 rfl ?_
        refine g_aload_n C 9 dX10_haggled_129 rfl rfl ?_
        refine g_bipush C 16 dX10_haggled_130 rfl ?_
        refine g_iload C 4 dX10_haggled_132 rfl ?_
        refine g_imul C dX10_haggled_134 ?_
        refine g_iconst C 1 dX10_haggled_135 rfl ?_
        refine g_iadd C dX10_haggled_136 ?_
        refine g_iald C dX10_haggled_137 E (fun x18 E => ?_)
        refine g_imul C dX10_haggled_138 ?_
        refine g_aload_n C 9 dX10_haggled_139 rfl rfl ?_
        refine g_bipush C 16 dX10_haggled_140 rfl ?_
        refine g_iload C 4 dX10_haggled_142 rfl ?_
        refine g_imul C dX10_haggled_144 ?_
        refine g_iconst C 5 dX10_haggled_145 rfl ?_
        refine g_iadd C dX10_haggled_146 ?_
        refine g_iald C dX10_haggled_147 E (fun x19 E => ?_)
        refine g_iconst C 1 dX10_haggled_148 rfl ?_
        refine g_icmp_ne C 156 dX10_haggled_149 (by decide) E (fun E => ?_) (fun E => ?_)
        · refine g_iconst C 1 dX10_haggled_156 rfl ?_
          refine g_sub (lv' := [(2, .ref (base + a2)), (3, .ref (base + a3)), (4, .ref (base + a4)), (5, .int x1), (6, .int x5), (7, .int (1 + x6)), (8, .int (1 + x8)), (9, .int (1 + x10)), (10, .int x13)]) [8, 9, 10, 5, 4, 3, 2, 1, 0] rfl ?_
          exact o_X10_haggled_J157 C hr a2 a3 a4 x1 x5 (1 + x6) (1 + x8) (1 + x10) x13 ((1 + x6) * x18) 1 h16 E
        · refine g_iconst C 2 dX10_haggled_152 rfl ?_
          refine g_goto C 157 dX10_haggled_153 (by decide) ?_
          refine g_sub (lv' := [(2, .ref (base + a2)), (3, .ref (base + a3)), (4, .ref (base + a4)), (5, .int x1), (6, .int x5), (7, .int (1 + x6)), (8, .int (1 + x8)), (9, .int (1 + x10)), (10, .int x13)]) [8, 9, 10, 5, 4, 3, 2, 1, 0] rfl ?_
          exact o_X10_haggled_J157 C hr a2 a3 a4 x1 x5 (1 + x6) (1 + x8) (1 + x10) x13 ((1 + x6) * x18) 2 h16 E
      · refine g_sub (lv' := [(10, .int x13)]) [0] rfl ?_
        exact o_X10_haggled_J114 C hr x13 h16 E
  · refine g_iconst C 1 dX10_haggled_68 rfl ?_
    exact g_zret C dX10_haggled_69 hr E
