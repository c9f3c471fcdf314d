abbrev rm_X10_works : Room := { frames := 1, cells := 0, slots := 0, locals := 22 }
def s_X10_works_J345 (v2 : Nat) (v4 : Int32) (v7 : Int32) (h : Hp) : Rv Unit :=
  if v7 = 0 then retU h
  else stI h v2 20 (v4 + 10) 0 fun h =>
  stI h v2 20 (v4 + 12) 0 fun h =>
  ldI h v2 20 (v4 + 6) fun x5 =>
  stI h v2 20 (v4 + 6) (x5 + 1) fun h =>
  ldI h v2 20 (v4 + 6) fun x6 =>
  ldI h v2 20 (v4 + 11) fun x7 =>
  if x6 = x7 then stI h v2 20 (v4 + 5) 0 fun h =>
  ldI h v2 20 (v4 + 4) fun x8 =>
  stI h v2 20 (v4 + 4) (x8 + 1) fun h =>
  retU h
  else retU h
def s_X10_works_J343 (v2 : Nat) (v4 : Int32) (w0 : Int32) (h : Hp) : Rv Unit :=
  s_X10_works_J345 v2 v4 w0 h
def s_X10_works_J326 (v2 : Nat) (v4 : Int32) (v6 : Int32) (h : Hp) : Rv Unit :=
  ldI h v2 20 (v4 + 10) fun x4 =>
  if x4 = v6 then s_X10_works_J343 v2 v4 1 h
  else s_X10_works_J343 v2 v4 0 h
def s_X10_works_J312 (v2 : Nat) (v4 : Int32) (v5 : Int32) (v6 : Int32) (v7 : Int32) (h : Hp) : Rv Unit :=
  if v5 = 119 then s_X10_works_J326 v2 v4 v6 h
  else if v5 = 115 then s_X10_works_J326 v2 v4 v6 h
  else s_X10_works_J345 v2 v4 v7 h
def s_X10_works_J310 (v2 : Nat) (v4 : Int32) (v5 : Int32) (v6 : Int32) (w0 : Int32) (h : Hp) : Rv Unit :=
  s_X10_works_J312 v2 v4 v5 v6 w0 h
def s_X10_works_J294 (v2 : Nat) (v4 : Int32) (v5 : Int32) (v6 : Int32) (w0 : Nat) (w1 : Int32) (w2 : Int32) (h : Hp) : Rv Unit :=
  stI h w0 20 w1 w2 fun h =>
  ldI h v2 20 (v4 + 7) fun x13 =>
  if x13 = 0 then s_X10_works_J310 v2 v4 v5 v6 1 h
  else s_X10_works_J310 v2 v4 v5 v6 0 h
def s_X10_works_J260 (v2 : Nat) (v4 : Int32) (v5 : Int32) (v6 : Int32) (v8 : Int32) (w0 : Nat) (w1 : Int32) (w2 : Int32) (h : Hp) : Rv Unit :=
  stI h w0 20 w1 w2 fun h =>
  if v8 = 0 then s_X10_works_J294 v2 v4 v5 v6 v2 (v4 + 8) 0 h
  else ldI h v2 20 (v4 + 8) fun x10 =>
  ldI h v2 20 (v4 + 7) fun x11 =>
  divI (x10 * x11) v8 fun x12 =>
  s_X10_works_J294 v2 v4 v5 v6 v2 (v4 + 8) x12 h
def s_X10_works_J222 (v2 : Nat) (v4 : Int32) (v5 : Int32) (v6 : Int32) (v7 : Int32) (h : Hp) : Rv Unit :=
  if v5 = 100 then ldI h v2 20 (v4 + 7) fun x9 =>
  if x9 ≤ 12 then s_X10_works_J260 v2 v4 v5 v6 x9 v2 (v4 + 7) 0 h
  else s_X10_works_J260 v2 v4 v5 v6 x9 v2 (v4 + 7) (x9 - 12) h
  else s_X10_works_J312 v2 v4 v5 v6 v7 h
def s_X10_works_J220 (v2 : Nat) (v4 : Int32) (v5 : Int32) (v6 : Int32) (w0 : Int32) (h : Hp) : Rv Unit :=
  s_X10_works_J222 v2 v4 v5 v6 w0 h
def s_X10_works_J187 (v0 : Int32) (v1 : Int32) (v2 : Nat) (v4 : Int32) (v5 : Int32) (v6 : Int32) (v7 : Int32) (h : Hp) : Rv Unit :=
  if v5 = 104 then ldI h v2 20 (v4 + 8) fun x14 =>
  stI h v2 20 (v4 + 8) (x14 + v1) fun h =>
  bnd (s_X10_temperature v0 v2 h) fun x15 h =>
  if x15 < v6 then s_X10_works_J220 v2 v4 v5 v6 0 h
  else s_X10_works_J220 v2 v4 v5 v6 1 h
  else s_X10_works_J222 v2 v4 v5 v6 v7 h
def s_X10_works_J185 (v0 : Int32) (v1 : Int32) (v2 : Nat) (v4 : Int32) (v5 : Int32) (v6 : Int32) (w0 : Int32) (h : Hp) : Rv Unit :=
  s_X10_works_J187 v0 v1 v2 v4 v5 v6 w0 h
def s_X10_works_J115 (v0 : Int32) (v1 : Int32) (v2 : Nat) (v4 : Int32) (v5 : Int32) (v6 : Int32) (w0 : Int32) (h : Hp) : Rv Unit :=
  ldI h v2 20 (v4 + 12) fun x17 =>
  stI h v2 20 (v4 + 12) (x17 + w0) fun h =>
  ldI h v2 20 (v4 + 13) fun x18 =>
  stI h v2 20 (v4 + 13) (x18 + w0) fun h =>
  ldI h v2 20 (v4 + 7) fun x19 =>
  stI h v2 20 (v4 + 7) (x19 + w0) fun h =>
  ldI h v2 20 (v4 + 8) fun x20 =>
  stI h v2 20 (v4 + 8) (x20 + (60 * w0)) fun h =>
  ldI h v2 20 (v4 + 12) fun x21 =>
  if x21 = v6 then s_X10_works_J185 v0 v1 v2 v4 v5 v6 1 h
  else s_X10_works_J185 v0 v1 v2 v4 v5 v6 0 h
def s_X10_works_J67 (v0 : Int32) (v1 : Int32) (v2 : Nat) (v4 : Int32) (v5 : Int32) (v6 : Int32) (v7 : Int32) (h : Hp) : Rv Unit :=
  ldI h v2 20 (v4 + 10) fun x3 =>
  stI h v2 20 (v4 + 10) (x3 + 1) fun h =>
  if v5 = 102 then ldI h v2 20 (v4 + 12) fun x16 =>
  if 6 ≤ (v6 - x16) then s_X10_works_J115 v0 v1 v2 v4 v5 v6 6 h
  else ldI h v2 20 (v4 + 12) fun x22 =>
  s_X10_works_J115 v0 v1 v2 v4 v5 v6 (v6 - x22) h
  else s_X10_works_J187 v0 v1 v2 v4 v5 v6 v7 h
def s_X10_works_J42 (v0 : Int32) (v1 : Int32) (v2 : Nat) (v4 : Int32) (v5 : Int32) (v6 : Int32) (v7 : Int32) (h : Hp) : Rv Unit :=
  if v5 = 115 then ldI h v2 20 (v4 + 7) fun x23 =>
  if x23 ≤ 0 then s_X10_works_J67 v0 v1 v2 v4 v5 v6 v7 h
  else stI h v2 20 (v4 + 5) 2 fun h =>
  retU h
  else s_X10_works_J67 v0 v1 v2 v4 v5 v6 v7 h
def s_X10_works (a0 : Int32) (a1 : Int32) (a2 : Nat) (a3 : Nat) (h : Hp) : Rv Unit :=
  bnd (s_X10_letter a0 a2 a3 h) fun x1 h =>
  bnd (s_X10_number a0 a2 a3 h) fun x2 h =>
  if x1 = 104 then ldI h a2 20 ((16 * a0) + 7) fun x24 =>
  if x24 = 0 then stI h a2 20 ((16 * a0) + 5) 2 fun h =>
  retU h
  else s_X10_works_J42 a0 a1 a2 (16 * a0) x1 x2 0 h
  else s_X10_works_J42 a0 a1 a2 (16 * a0) x1 x2 0 h
set_option maxRecDepth 100000 in
set_option maxHeartbeats 4000000 in
theorem o_X10_works_J345 {l : Launch} {base : Nat} {D : va_G} {cA : Nat → ClassId} {p : Program} {e : Env} {s : State} {m : MethodId} {args : Array Value} {below : List Frame} {meth : Method} {c : Code} (C : GC base D cA p s m args meth c cX10_works 9 RX10) (hr : meth.sig.returnType = none) {X : Unit × Hp} : ∀ (v2 : Nat) (v4 : Int32) (v7 : Int32) (h : Hp), s_X10_works_J345 v2 v4 v7 h = some X → GW base D cA p l e rm_X10_works s m args below meth c (MQ below (QcU base D cA X.2) args s 0 0 (AA base)) 9 h 0 0 345 [(2, .ref (base + v2)), (4, .int v4), (7, .int v7)] [] := by
  intro v2 v4 v7 h E
  unfold s_X10_works_J345 at E
  refine g_iload C 2 dX10_works_345 rfl ?_
  refine g_if_ne C 351 dX10_works_347 (by decide) E (fun E => ?_) (fun E => ?_)
  · refine g_aload_n C 0 dX10_works_351 rfl rfl ?_
    refine g_iload C 1 dX10_works_352 rfl ?_
    refine g_bipush C 10 dX10_works_354 rfl ?_
    refine g_iadd C dX10_works_356 ?_
    refine g_iconst C 0 dX10_works_357 rfl ?_
    refine g_iast C dX10_works_358 E (fun h1 E => ?_)
    refine g_aload_n C 0 dX10_works_359 rfl rfl ?_
    refine g_iload C 1 dX10_works_360 rfl ?_
    refine g_bipush C 12 dX10_works_362 rfl ?_
    refine g_iadd C dX10_works_364 ?_
    refine g_iconst C 0 dX10_works_365 rfl ?_
    refine g_iast C dX10_works_366 E (fun h2 E => ?_)
    refine g_aload_n C 0 dX10_works_367 rfl rfl ?_
    refine g_iload C 1 dX10_works_368 rfl ?_
    refine g_bipush C 6 dX10_works_370 rfl ?_
    refine g_iadd C dX10_works_372 ?_
    refine g_dup2 C dX10_works_373 rfl rfl ?_
    refine g_iald C dX10_works_374 E (fun x3 E => ?_)
    refine g_iconst C 1 dX10_works_375 rfl ?_
    refine g_iadd C dX10_works_376 ?_
    refine g_iast C dX10_works_377 E (fun h4 E => ?_)
    refine g_aload_n C 0 dX10_works_378 rfl rfl ?_
    refine g_iload C 1 dX10_works_379 rfl ?_
    refine g_bipush C 6 dX10_works_381 rfl ?_
    refine g_iadd C dX10_works_383 ?_
    refine g_iald C dX10_works_384 E (fun x5 E => ?_)
    refine g_aload_n C 0 dX10_works_385 rfl rfl ?_
    refine g_iload C 1 dX10_works_386 rfl ?_
    refine g_bipush C 11 dX10_works_388 rfl ?_
    refine g_iadd C dX10_works_390 ?_
    refine g_iald C dX10_works_391 E (fun x6 E => ?_)
    refine g_icmp_ne C 412 dX10_works_392 (by decide) E (fun E => ?_) (fun E => ?_)
    · exact g_vret C dX10_works_412 hr E
    · refine g_aload_n C 0 dX10_works_395 rfl rfl ?_
      refine g_iload C 1 dX10_works_396 rfl ?_
      refine g_iconst C 5 dX10_works_398 rfl ?_
      refine g_iadd C dX10_works_399 ?_
      refine g_iconst C 0 dX10_works_400 rfl ?_
      refine g_iast C dX10_works_401 E (fun h7 E => ?_)
      refine g_aload_n C 0 dX10_works_402 rfl rfl ?_
      refine g_iload C 1 dX10_works_403 rfl ?_
      refine g_iconst C 4 dX10_works_405 rfl ?_
      refine g_iadd C dX10_works_406 ?_
      refine g_dup2 C dX10_works_407 rfl rfl ?_
      refine g_iald C dX10_works_408 E (fun x8 E => ?_)
      refine g_iconst C 1 dX10_works_409 rfl ?_
      refine g_iadd C dX10_works_410 ?_
      refine g_iast C dX10_works_411 E (fun h9 E => ?_)
      exact g_vret C dX10_works_412 hr E
  · exact g_vret C dX10_works_350 hr E
set_option maxRecDepth 100000 in
set_option maxHeartbeats 4000000 in
theorem o_X10_works_J343 {l : Launch} {base : Nat} {D : va_G} {cA : Nat → ClassId} {p : Program} {e : Env} {s : State} {m : MethodId} {args : Array Value} {below : List Frame} {meth : Method} {c : Code} (C : GC base D cA p s m args meth c cX10_works 9 RX10) (hr : meth.sig.returnType = none) {X : Unit × Hp} : ∀ (v2 : Nat) (v4 : Int32) (w0 : Int32) (h : Hp), s_X10_works_J343 v2 v4 w0 h = some X → GW base D cA p l e rm_X10_works s m args below meth c (MQ below (QcU base D cA X.2) args s 0 0 (AA base)) 9 h 0 0 343 [(2, .ref (base + v2)), (4, .int v4)] [.int w0] := by
  intro v2 v4 w0 h E
  unfold s_X10_works_J343 at E
  refine g_istore C (lv' := [(7, .int w0), (2, .ref (base + v2)), (4, .int v4)]) dX10_works_343 (by decide) rfl ?_
  refine g_sub (lv' := [(2, .ref (base + v2)), (4, .int v4), (7, .int w0)]) [1, 2, 0] rfl ?_
  exact o_X10_works_J345 C hr v2 v4 w0 h E
set_option maxRecDepth 100000 in
set_option maxHeartbeats 4000000 in
theorem o_X10_works_J326 {l : Launch} {base : Nat} {D : va_G} {cA : Nat → ClassId} {p : Program} {e : Env} {s : State} {m : MethodId} {args : Array Value} {below : List Frame} {meth : Method} {c : Code} (C : GC base D cA p s m args meth c cX10_works 9 RX10) (hr : meth.sig.returnType = none) {X : Unit × Hp} : ∀ (v2 : Nat) (v4 : Int32) (v6 : Int32) (h : Hp), s_X10_works_J326 v2 v4 v6 h = some X → GW base D cA p l e rm_X10_works s m args below meth c (MQ below (QcU base D cA X.2) args s 0 0 (AA base)) 9 h 0 0 326 [(2, .ref (base + v2)), (4, .int v4), (6, .int v6)] [] := by
  intro v2 v4 v6 h E
  unfold s_X10_works_J326 at E
  refine g_aload_n C 0 dX10_works_326 rfl rfl ?_
  refine g_iload C 1 dX10_works_327 rfl ?_
  refine g_bipush C 10 dX10_works_329 rfl ?_
  refine g_iadd C dX10_works_331 ?_
  refine g_iald C dX10_works_332 E (fun x1 E => ?_)
  refine g_iload C 2 dX10_works_333 rfl ?_
  refine g_icmp_ne C 342 dX10_works_335 (by decide) E (fun E => ?_) (fun E => ?_)
  · refine g_iconst C 0 dX10_works_342 rfl ?_
    refine g_sub (lv' := [(2, .ref (base + v2)), (4, .int v4)]) [0, 1] rfl ?_
    exact o_X10_works_J343 C hr v2 v4 0 h E
  · refine g_iconst C 1 dX10_works_338 rfl ?_
    refine g_goto C 343 dX10_works_339 (by decide) ?_
    refine g_sub (lv' := [(2, .ref (base + v2)), (4, .int v4)]) [0, 1] rfl ?_
    exact o_X10_works_J343 C hr v2 v4 1 h E
set_option maxRecDepth 100000 in
set_option maxHeartbeats 4000000 in
theorem o_X10_works_J312 {l : Launch} {base : Nat} {D : va_G} {cA : Nat → ClassId} {p : Program} {e : Env} {s : State} {m : MethodId} {args : Array Value} {below : List Frame} {meth : Method} {c : Code} (C : GC base D cA p s m args meth c cX10_works 9 RX10) (hr : meth.sig.returnType = none) {X : Unit × Hp} : ∀ (v2 : Nat) (v4 : Int32) (v5 : Int32) (v6 : Int32) (v7 : Int32) (h : Hp), s_X10_works_J312 v2 v4 v5 v6 v7 h = some X → GW base D cA p l e rm_X10_works s m args below meth c (MQ below (QcU base D cA X.2) args s 0 0 (AA base)) 9 h 0 0 312 [(2, .ref (base + v2)), (4, .int v4), (5, .int v5), (6, .int v6), (7, .int v7)] [] := by
  intro v2 v4 v5 v6 v7 h E
  unfold s_X10_works_J312 at E
  refine g_iload C 2 dX10_works_312 rfl ?_
  refine g_bipush C 119 dX10_works_314 rfl ?_
  refine g_icmp_eq C 326 dX10_works_316 (by decide) E (fun E => ?_) (fun E => ?_)
  · refine g_sub (lv' := [(2, .ref (base + v2)), (4, .int v4), (6, .int v6)]) [0, 1, 3] rfl ?_
    exact o_X10_works_J326 C hr v2 v4 v6 h E
  · refine g_iload C 2 dX10_works_319 rfl ?_
    refine g_bipush C 115 dX10_works_321 rfl ?_
    refine g_icmp_ne C 345 dX10_works_323 (by decide) E (fun E => ?_) (fun E => ?_)
    · refine g_sub (lv' := [(2, .ref (base + v2)), (4, .int v4), (7, .int v7)]) [0, 1, 4] rfl ?_
      exact o_X10_works_J345 C hr v2 v4 v7 h E
    · refine g_sub (lv' := [(2, .ref (base + v2)), (4, .int v4), (6, .int v6)]) [0, 1, 3] rfl ?_
      exact o_X10_works_J326 C hr v2 v4 v6 h E
set_option maxRecDepth 100000 in
set_option maxHeartbeats 4000000 in
theorem o_X10_works_J310 {l : Launch} {base : Nat} {D : va_G} {cA : Nat → ClassId} {p : Program} {e : Env} {s : State} {m : MethodId} {args : Array Value} {below : List Frame} {meth : Method} {c : Code} (C : GC base D cA p s m args meth c cX10_works 9 RX10) (hr : meth.sig.returnType = none) {X : Unit × Hp} : ∀ (v2 : Nat) (v4 : Int32) (v5 : Int32) (v6 : Int32) (w0 : Int32) (h : Hp), s_X10_works_J310 v2 v4 v5 v6 w0 h = some X → GW base D cA p l e rm_X10_works s m args below meth c (MQ below (QcU base D cA X.2) args s 0 0 (AA base)) 9 h 0 0 310 [(2, .ref (base + v2)), (4, .int v4), (5, .int v5), (6, .int v6)] [.int w0] := by
  intro v2 v4 v5 v6 w0 h E
  unfold s_X10_works_J310 at E
  refine g_istore C (lv' := [(7, .int w0), (2, .ref (base + v2)), (4, .int v4), (5, .int v5), (6, .int v6)]) dX10_works_310 (by decide) rfl ?_
  refine g_sub (lv' := [(2, .ref (base + v2)), (4, .int v4), (5, .int v5), (6, .int v6), (7, .int w0)]) [1, 2, 3, 4, 0] rfl ?_
  exact o_X10_works_J312 C hr v2 v4 v5 v6 w0 h E
set_option maxRecDepth 100000 in
set_option maxHeartbeats 4000000 in
theorem o_X10_works_J294 {l : Launch} {base : Nat} {D : va_G} {cA : Nat → ClassId} {p : Program} {e : Env} {s : State} {m : MethodId} {args : Array Value} {below : List Frame} {meth : Method} {c : Code} (C : GC base D cA p s m args meth c cX10_works 9 RX10) (hr : meth.sig.returnType = none) {X : Unit × Hp} : ∀ (v2 : Nat) (v4 : Int32) (v5 : Int32) (v6 : Int32) (w0 : Nat) (w1 : Int32) (w2 : Int32) (h : Hp), s_X10_works_J294 v2 v4 v5 v6 w0 w1 w2 h = some X → GW base D cA p l e rm_X10_works s m args below meth c (MQ below (QcU base D cA X.2) args s 0 0 (AA base)) 9 h 0 0 294 [(2, .ref (base + v2)), (4, .int v4), (5, .int v5), (6, .int v6)] [.int w2, .int w1, .ref (base + w0)] := by
  intro v2 v4 v5 v6 w0 w1 w2 h E
  unfold s_X10_works_J294 at E
  refine g_iast C dX10_works_294 E (fun h1 E => ?_)
  refine g_aload_n C 0 dX10_works_295 rfl rfl ?_
  refine g_iload C 1 dX10_works_296 rfl ?_
  refine g_bipush C 7 dX10_works_298 rfl ?_
  refine g_iadd C dX10_works_300 ?_
  refine g_iald C dX10_works_301 E (fun x2 E => ?_)
  refine g_if_ne C 309 dX10_works_302 (by decide) E (fun E => ?_) (fun E => ?_)
  · refine g_iconst C 0 dX10_works_309 rfl ?_
    refine g_sub (lv' := [(2, .ref (base + v2)), (4, .int v4), (5, .int v5), (6, .int v6)]) [0, 1, 2, 3] rfl ?_
    exact o_X10_works_J310 C hr v2 v4 v5 v6 0 h1 E
  · refine g_iconst C 1 dX10_works_305 rfl ?_
    refine g_goto C 310 dX10_works_306 (by decide) ?_
    refine g_sub (lv' := [(2, .ref (base + v2)), (4, .int v4), (5, .int v5), (6, .int v6)]) [0, 1, 2, 3] rfl ?_
    exact o_X10_works_J310 C hr v2 v4 v5 v6 1 h1 E
set_option maxRecDepth 100000 in
set_option maxHeartbeats 4000000 in
theorem o_X10_works_J260 {l : Launch} {base : Nat} {D : va_G} {cA : Nat → ClassId} {p : Program} {e : Env} {s : State} {m : MethodId} {args : Array Value} {below : List Frame} {meth : Method} {c : Code} (C : GC base D cA p s m args meth c cX10_works 9 RX10) (hr : meth.sig.returnType = none) {X : Unit × Hp} : ∀ (v2 : Nat) (v4 : Int32) (v5 : Int32) (v6 : Int32) (v8 : Int32) (w0 : Nat) (w1 : Int32) (w2 : Int32) (h : Hp), s_X10_works_J260 v2 v4 v5 v6 v8 w0 w1 w2 h = some X → GW base D cA p l e rm_X10_works s m args below meth c (MQ below (QcU base D cA X.2) args s 0 0 (AA base)) 9 h 0 0 260 [(2, .ref (base + v2)), (4, .int v4), (5, .int v5), (6, .int v6), (8, .int v8)] [.int w2, .int w1, .ref (base + w0)] := by
  intro v2 v4 v5 v6 v8 w0 w1 w2 h E
  unfold s_X10_works_J260 at E
  refine g_iast C dX10_works_260 E (fun h1 E => ?_)
  refine g_aload_n C 0 dX10_works_261 rfl rfl ?_
  refine g_iload C 1 dX10_works_262 rfl ?_
  refine g_bipush C 8 dX10_works_264 rfl ?_
  refine g_iadd C dX10_works_266 ?_
  refine g_iload C 4 dX10_works_267 rfl ?_
  refine g_if_ne C 276 dX10_works_269 (by decide) E (fun E => ?_) (fun E => ?_)
  · refine g_aload_n C 0 dX10_works_276 rfl rfl ?_
    refine g_iload C 1 dX10_works_277 rfl ?_
    refine g_bipush C 8 dX10_works_279 rfl ?_
    refine g_iadd C dX10_works_281 ?_
    refine g_iald C dX10_works_282 E (fun x2 E => ?_)
    refine g_aload_n C 0 dX10_works_283 rfl rfl ?_
    refine g_iload C 1 dX10_works_284 rfl ?_
    refine g_bipush C 7 dX10_works_286 rfl ?_
    refine g_iadd C dX10_works_288 ?_
    refine g_iald C dX10_works_289 E (fun x3 E => ?_)
    refine g_imul C dX10_works_290 ?_
    refine g_iload C 4 dX10_works_291 rfl ?_
    refine g_idiv C dX10_works_293 E (fun x4 E => ?_)
    refine g_sub (lv' := [(2, .ref (base + v2)), (4, .int v4), (5, .int v5), (6, .int v6)]) [0, 1, 2, 3] rfl ?_
    exact o_X10_works_J294 C hr v2 v4 v5 v6 v2 (v4 + 8) x4 h1 E
  · refine g_iconst C 0 dX10_works_272 rfl ?_
    refine g_goto C 294 dX10_works_273 (by decide) ?_
    refine g_sub (lv' := [(2, .ref (base + v2)), (4, .int v4), (5, .int v5), (6, .int v6)]) [0, 1, 2, 3] rfl ?_
    exact o_X10_works_J294 C hr v2 v4 v5 v6 v2 (v4 + 8) 0 h1 E
set_option maxRecDepth 100000 in
set_option maxHeartbeats 4000000 in
theorem o_X10_works_J222 {l : Launch} {base : Nat} {D : va_G} {cA : Nat → ClassId} {p : Program} {e : Env} {s : State} {m : MethodId} {args : Array Value} {below : List Frame} {meth : Method} {c : Code} (C : GC base D cA p s m args meth c cX10_works 9 RX10) (hr : meth.sig.returnType = none) {X : Unit × Hp} : ∀ (v2 : Nat) (v4 : Int32) (v5 : Int32) (v6 : Int32) (v7 : Int32) (h : Hp), s_X10_works_J222 v2 v4 v5 v6 v7 h = some X → GW base D cA p l e rm_X10_works s m args below meth c (MQ below (QcU base D cA X.2) args s 0 0 (AA base)) 9 h 0 0 222 [(2, .ref (base + v2)), (4, .int v4), (5, .int v5), (6, .int v6), (7, .int v7)] [] := by
  intro v2 v4 v5 v6 v7 h E
  unfold s_X10_works_J222 at E
  refine g_iload C 2 dX10_works_222 rfl ?_
  refine g_bipush C 100 dX10_works_224 rfl ?_
  refine g_icmp_ne C 312 dX10_works_226 (by decide) E (fun E => ?_) (fun E => ?_)
  · refine g_sub (lv' := [(2, .ref (base + v2)), (4, .int v4), (5, .int v5), (6, .int v6), (7, .int v7)]) [0, 1, 2, 3, 4] rfl ?_
    exact o_X10_works_J312 C hr v2 v4 v5 v6 v7 h E
  · refine g_aload_n C 0 dX10_works_229 rfl rfl ?_
    refine g_iload C 1 dX10_works_230 rfl ?_
    refine g_bipush C 7 dX10_works_232 rfl ?_
    refine g_iadd C dX10_works_234 ?_
    refine g_iald C dX10_works_235 E (fun x1 E => ?_)
    refine g_istore C (lv' := [(8, .int x1), (2, .ref (base + v2)), (4, .int v4), (5, .int v5), (6, .int v6), (7, .int v7)]) dX10_works_236 (by decide) rfl ?_
    refine g_aload_n C 1 dX10_works_238 rfl rfl ?_
    refine g_iload C 2 dX10_works_239 rfl ?_
    refine g_bipush C 7 dX10_works_241 rfl ?_
    refine g_iadd C dX10_works_243 ?_
    refine g_iload C 0 dX10_works_244 rfl ?_
    refine g_bipush C 12 dX10_works_246 rfl ?_
    refine g_icmp_le C 259 dX10_works_248 (by decide) E (fun E => ?_) (fun E => ?_)
    · refine g_iconst C 0 dX10_works_259 rfl ?_
      refine g_sub (lv' := [(2, .ref (base + v2)), (4, .int v4), (5, .int v5), (6, .int v6), (8, .int x1)]) [1, 2, 3, 4, 0] rfl ?_
      exact o_X10_works_J260 C hr v2 v4 v5 v6 x1 v2 (v4 + 7) 0 h E
    · refine g_iload C 0 dX10_works_251 rfl ?_
      refine g_bipush C 12 dX10_works_253 rfl ?_
      refine g_isub C dX10_works_255 ?_
      refine g_goto C 260 dX10_works_256 (by decide) ?_
      refine g_sub (lv' := [(2, .ref (base + v2)), (4, .int v4), (5, .int v5), (6, .int v6), (8, .int x1)]) [1, 2, 3, 4, 0] rfl ?_
      exact o_X10_works_J260 C hr v2 v4 v5 v6 x1 v2 (v4 + 7) (x1 - 12) h E
set_option maxRecDepth 100000 in
set_option maxHeartbeats 4000000 in
theorem o_X10_works_J220 {l : Launch} {base : Nat} {D : va_G} {cA : Nat → ClassId} {p : Program} {e : Env} {s : State} {m : MethodId} {args : Array Value} {below : List Frame} {meth : Method} {c : Code} (C : GC base D cA p s m args meth c cX10_works 9 RX10) (hr : meth.sig.returnType = none) {X : Unit × Hp} : ∀ (v2 : Nat) (v4 : Int32) (v5 : Int32) (v6 : Int32) (w0 : Int32) (h : Hp), s_X10_works_J220 v2 v4 v5 v6 w0 h = some X → GW base D cA p l e rm_X10_works s m args below meth c (MQ below (QcU base D cA X.2) args s 0 0 (AA base)) 9 h 0 0 220 [(2, .ref (base + v2)), (4, .int v4), (5, .int v5), (6, .int v6)] [.int w0] := by
  intro v2 v4 v5 v6 w0 h E
  unfold s_X10_works_J220 at E
  refine g_istore C (lv' := [(7, .int w0), (2, .ref (base + v2)), (4, .int v4), (5, .int v5), (6, .int v6)]) dX10_works_220 (by decide) rfl ?_
  refine g_sub (lv' := [(2, .ref (base + v2)), (4, .int v4), (5, .int v5), (6, .int v6), (7, .int w0)]) [1, 2, 3, 4, 0] rfl ?_
  exact o_X10_works_J222 C hr v2 v4 v5 v6 w0 h E
set_option maxRecDepth 100000 in
set_option maxHeartbeats 4000000 in
theorem o_X10_works_J187 {l : Launch} {base : Nat} {D : va_G} {cA : Nat → ClassId} {p : Program} {e : Env} {s : State} {m : MethodId} {args : Array Value} {below : List Frame} {meth : Method} {c : Code} (C : GC base D cA p s m args meth c cX10_works 9 RX10) (hr : meth.sig.returnType = none) {X : Unit × Hp} : ∀ (v0 : Int32) (v1 : Int32) (v2 : Nat) (v4 : Int32) (v5 : Int32) (v6 : Int32) (v7 : Int32) (h : Hp), s_X10_works_J187 v0 v1 v2 v4 v5 v6 v7 h = some X → GW base D cA p l e rm_X10_works s m args below meth c (MQ below (QcU base D cA X.2) args s 0 0 (AA base)) 9 h 0 0 187 [(0, .int v0), (1, .int v1), (2, .ref (base + v2)), (4, .int v4), (5, .int v5), (6, .int v6), (7, .int v7)] [] := by
  intro v0 v1 v2 v4 v5 v6 v7 h E
  unfold s_X10_works_J187 at E
  refine g_iload C 4 dX10_works_187 rfl ?_
  refine g_bipush C 104 dX10_works_189 rfl ?_
  refine g_icmp_ne C 222 dX10_works_191 (by decide) E (fun E => ?_) (fun E => ?_)
  · refine g_sub (lv' := [(2, .ref (base + v2)), (4, .int v4), (5, .int v5), (6, .int v6), (7, .int v7)]) [2, 3, 4, 5, 6] rfl ?_
    exact o_X10_works_J222 C hr v2 v4 v5 v6 v7 h E
  · refine g_aload_n C 2 dX10_works_194 rfl rfl ?_
    refine g_iload C 3 dX10_works_195 rfl ?_
    refine g_bipush C 8 dX10_works_197 rfl ?_
    refine g_iadd C dX10_works_199 ?_
    refine g_dup2 C dX10_works_200 rfl rfl ?_
    refine g_iald C dX10_works_201 E (fun x1 E => ?_)
    refine g_iload_n C 1 dX10_works_202 rfl rfl ?_
    refine g_iadd C dX10_works_203 ?_
    refine g_iast C dX10_works_204 E (fun h2 E => ?_)
    refine g_iload_n C 0 dX10_works_205 rfl rfl ?_
    refine g_aload_n C 2 dX10_works_206 rfl rfl ?_
    refine g_staI C [.int v0, .ref (base + v2)] dX10_works_207 cl_X10_26 cs_X10_temperature rfl rfl ⟨Nat.le_of_ble_eq_true rfl, Nat.le_of_ble_eq_true rfl⟩ (Nat.le_of_ble_eq_true rfl) ⟨Nat.le_of_ble_eq_true rfl, Nat.le_of_ble_eq_true rfl⟩ rfl (fun r' h' E => o_X10_temperature l base D cA v0 v2 h2 r' h' E) E (fun x3 h4 E => ?_)
    refine g_iload C 5 dX10_works_210 rfl ?_
    refine g_icmp_lt C 219 dX10_works_212 (by decide) E (fun E => ?_) (fun E => ?_)
    · refine g_iconst C 0 dX10_works_219 rfl ?_
      refine g_sub (lv' := [(2, .ref (base + v2)), (4, .int v4), (5, .int v5), (6, .int v6)]) [2, 3, 4, 5] rfl ?_
      exact o_X10_works_J220 C hr v2 v4 v5 v6 0 h4 E
    · refine g_iconst C 1 dX10_works_215 rfl ?_
      refine g_goto C 220 dX10_works_216 (by decide) ?_
      refine g_sub (lv' := [(2, .ref (base + v2)), (4, .int v4), (5, .int v5), (6, .int v6)]) [2, 3, 4, 5] rfl ?_
      exact o_X10_works_J220 C hr v2 v4 v5 v6 1 h4 E
set_option maxRecDepth 100000 in
set_option maxHeartbeats 4000000 in
theorem o_X10_works_J185 {l : Launch} {base : Nat} {D : va_G} {cA : Nat → ClassId} {p : Program} {e : Env} {s : State} {m : MethodId} {args : Array Value} {below : List Frame} {meth : Method} {c : Code} (C : GC base D cA p s m args meth c cX10_works 9 RX10) (hr : meth.sig.returnType = none) {X : Unit × Hp} : ∀ (v0 : Int32) (v1 : Int32) (v2 : Nat) (v4 : Int32) (v5 : Int32) (v6 : Int32) (w0 : Int32) (h : Hp), s_X10_works_J185 v0 v1 v2 v4 v5 v6 w0 h = some X → GW base D cA p l e rm_X10_works s m args below meth c (MQ below (QcU base D cA X.2) args s 0 0 (AA base)) 9 h 0 0 185 [(0, .int v0), (1, .int v1), (2, .ref (base + v2)), (4, .int v4), (5, .int v5), (6, .int v6)] [.int w0] := by
  intro v0 v1 v2 v4 v5 v6 w0 h E
  unfold s_X10_works_J185 at E
  refine g_istore C (lv' := [(7, .int w0), (0, .int v0), (1, .int v1), (2, .ref (base + v2)), (4, .int v4), (5, .int v5), (6, .int v6)]) dX10_works_185 (by decide) rfl ?_
  refine g_sub (lv' := [(0, .int v0), (1, .int v1), (2, .ref (base + v2)), (4, .int v4), (5, .int v5), (6, .int v6), (7, .int w0)]) [1, 2, 3, 4, 5, 6, 0] rfl ?_
  exact o_X10_works_J187 C hr v0 v1 v2 v4 v5 v6 w0 h E
set_option maxRecDepth 100000 in
set_option maxHeartbeats 4000000 in
theorem o_X10_works_J115 {l : Launch} {base : Nat} {D : va_G} {cA : Nat → ClassId} {p : Program} {e : Env} {s : State} {m : MethodId} {args : Array Value} {below : List Frame} {meth : Method} {c : Code} (C : GC base D cA p s m args meth c cX10_works 9 RX10) (hr : meth.sig.returnType = none) {X : Unit × Hp} : ∀ (v0 : Int32) (v1 : Int32) (v2 : Nat) (v4 : Int32) (v5 : Int32) (v6 : Int32) (w0 : Int32) (h : Hp), s_X10_works_J115 v0 v1 v2 v4 v5 v6 w0 h = some X → GW base D cA p l e rm_X10_works s m args below meth c (MQ below (QcU base D cA X.2) args s 0 0 (AA base)) 9 h 0 0 115 [(0, .int v0), (1, .int v1), (2, .ref (base + v2)), (4, .int v4), (5, .int v5), (6, .int v6)] [.int w0] := by
  intro v0 v1 v2 v4 v5 v6 w0 h E
  unfold s_X10_works_J115 at E
  refine g_istore C (lv' := [(8, .int w0), (0, .int v0), (1, .int v1), (2, .ref (base + v2)), (4, .int v4), (5, .int v5), (6, .int v6)]) dX10_works_115 (by decide) rfl ?_
  refine g_aload_n C 3 dX10_works_117 rfl rfl ?_
  refine g_iload C 4 dX10_works_118 rfl ?_
  refine g_bipush C 12 dX10_works_120 rfl ?_
  refine g_iadd C dX10_works_122 ?_
  refine g_dup2 C dX10_works_123 rfl rfl ?_
  refine g_iald C dX10_works_124 E (fun x1 E => ?_)
  refine g_iload C 0 dX10_works_125 rfl ?_
  refine g_iadd C dX10_works_127 ?_
  refine g_iast C dX10_works_128 E (fun h2 E => ?_)
  refine g_aload_n C 3 dX10_works_129 rfl rfl ?_
  refine g_iload C 4 dX10_works_130 rfl ?_
  refine g_bipush C 13 dX10_works_132 rfl ?_
  refine g_iadd C dX10_works_134 ?_
  refine g_dup2 C dX10_works_135 rfl rfl ?_
  refine g_iald C dX10_works_136 E (fun x3 E => ?_)
  refine g_iload C 0 dX10_works_137 rfl ?_
  refine g_iadd C dX10_works_139 ?_
  refine g_iast C dX10_works_140 E (fun h4 E => ?_)
  refine g_aload_n C 3 dX10_works_141 rfl rfl ?_
  refine g_iload C 4 dX10_works_142 rfl ?_
  refine g_bipush C 7 dX10_works_144 rfl ?_
  refine g_iadd C dX10_works_146 ?_
  refine g_dup2 C dX10_works_147 rfl rfl ?_
  refine g_iald C dX10_works_148 E (fun x5 E => ?_)
  refine g_iload C 0 dX10_works_149 rfl ?_
  refine g_iadd C dX10_works_151 ?_
  refine g_iast C dX10_works_152 E (fun h6 E => ?_)
  refine g_aload_n C 3 dX10_works_153 rfl rfl ?_
  refine g_iload C 4 dX10_works_154 rfl ?_
  refine g_bipush C 8 dX10_works_156 rfl ?_
  refine g_iadd C dX10_works_158 ?_
  refine g_dup2 C dX10_works_159 rfl rfl ?_
  refine g_iald C dX10_works_160 E (fun x7 E => ?_)
  refine g_bipush C 60 dX10_works_161 rfl ?_
  refine g_iload C 0 dX10_works_163 rfl ?_
  refine g_imul C dX10_works_165 ?_
  refine g_iadd C dX10_works_166 ?_
  refine g_iast C dX10_works_167 E (fun h8 E => ?_)
  refine g_aload_n C 3 dX10_works_168 rfl rfl ?_
  refine g_iload C 4 dX10_works_169 rfl ?_
  refine g_bipush C 12 dX10_works_171 rfl ?_
  refine g_iadd C dX10_works_173 ?_
  refine g_iald C dX10_works_174 E (fun x9 E => ?_)
  refine g_iload C 6 dX10_works_175 rfl ?_
  refine g_icmp_ne C 184 dX10_works_177 (by decide) E (fun E => ?_) (fun E => ?_)
  · refine g_iconst C 0 dX10_works_184 rfl ?_
    refine g_sub (lv' := [(0, .int v0), (1, .int v1), (2, .ref (base + v2)), (4, .int v4), (5, .int v5), (6, .int v6)]) [1, 2, 3, 4, 5, 6] rfl ?_
    exact o_X10_works_J185 C hr v0 v1 v2 v4 v5 v6 0 h8 E
  · refine g_iconst C 1 dX10_works_180 rfl ?_
    refine g_goto C 185 dX10_works_181 (by decide) ?_
    refine g_sub (lv' := [(0, .int v0), (1, .int v1), (2, .ref (base + v2)), (4, .int v4), (5, .int v5), (6, .int v6)]) [1, 2, 3, 4, 5, 6] rfl ?_
    exact o_X10_works_J185 C hr v0 v1 v2 v4 v5 v6 1 h8 E
set_option maxRecDepth 100000 in
set_option maxHeartbeats 4000000 in
theorem o_X10_works_J67 {l : Launch} {base : Nat} {D : va_G} {cA : Nat → ClassId} {p : Program} {e : Env} {s : State} {m : MethodId} {args : Array Value} {below : List Frame} {meth : Method} {c : Code} (C : GC base D cA p s m args meth c cX10_works 9 RX10) (hr : meth.sig.returnType = none) {X : Unit × Hp} : ∀ (v0 : Int32) (v1 : Int32) (v2 : Nat) (v4 : Int32) (v5 : Int32) (v6 : Int32) (v7 : Int32) (h : Hp), s_X10_works_J67 v0 v1 v2 v4 v5 v6 v7 h = some X → GW base D cA p l e rm_X10_works s m args below meth c (MQ below (QcU base D cA X.2) args s 0 0 (AA base)) 9 h 0 0 67 [(0, .int v0), (1, .int v1), (2, .ref (base + v2)), (4, .int v4), (5, .int v5), (6, .int v6), (7, .int v7)] [] := by
  intro v0 v1 v2 v4 v5 v6 v7 h E
  unfold s_X10_works_J67 at E
  refine g_aload_n C 2 dX10_works_67 rfl rfl ?_
  refine g_iload C 3 dX10_works_68 rfl ?_
  refine g_bipush C 10 dX10_works_70 rfl ?_
  refine g_iadd C dX10_works_72 ?_
  refine g_dup2 C dX10_works_73 rfl rfl ?_
  refine g_iald C dX10_works_74 E (fun x1 E => ?_)
  refine g_iconst C 1 dX10_works_75 rfl ?_
  refine g_iadd C dX10_works_76 ?_
  refine g_iast C dX10_works_77 E (fun h2 E => ?_)
  refine g_iload C 4 dX10_works_78 rfl ?_
  refine g_bipush C 102 dX10_works_80 rfl ?_
  refine g_icmp_ne C 187 dX10_works_82 (by decide) E (fun E => ?_) (fun E => ?_)
  · refine g_sub (lv' := [(0, .int v0), (1, .int v1), (2, .ref (base + v2)), (4, .int v4), (5, .int v5), (6, .int v6), (7, .int v7)]) [0, 1, 2, 3, 4, 5, 6] rfl ?_
    exact o_X10_works_J187 C hr v0 v1 v2 v4 v5 v6 v7 h2 E
  · refine g_iload C 5 dX10_works_85 rfl ?_
    refine g_aload_n C 2 dX10_works_87 rfl rfl ?_
    refine g_iload C 3 dX10_works_88 rfl ?_
    refine g_bipush C 12 dX10_works_90 rfl ?_
    refine g_iadd C dX10_works_92 ?_
    refine g_iald C dX10_works_93 E (fun x3 E => ?_)
    refine g_isub C dX10_works_94 ?_
    refine g_bipush C 6 dX10_works_95 rfl ?_
    refine g_icmp_ge C 113 dX10_works_97 (by decide) E (fun E => ?_) (fun E => ?_)
    · refine g_bipush C 6 dX10_works_113 rfl ?_
      refine g_sub (lv' := [(0, .int v0), (1, .int v1), (2, .ref (base + v2)), (4, .int v4), (5, .int v5), (6, .int v6)]) [0, 1, 2, 3, 4, 5] rfl ?_
      exact o_X10_works_J115 C hr v0 v1 v2 v4 v5 v6 6 h2 E
    · refine g_iload C 5 dX10_works_100 rfl ?_
      refine g_aload_n C 2 dX10_works_102 rfl rfl ?_
      refine g_iload C 3 dX10_works_103 rfl ?_
      refine g_bipush C 12 dX10_works_105 rfl ?_
      refine g_iadd C dX10_works_107 ?_
      refine g_iald C dX10_works_108 E (fun x4 E => ?_)
      refine g_isub C dX10_works_109 ?_
      refine g_goto C 115 dX10_works_110 (by decide) ?_
      refine g_sub (lv' := [(0, .int v0), (1, .int v1), (2, .ref (base + v2)), (4, .int v4), (5, .int v5), (6, .int v6)]) [0, 1, 2, 3, 4, 5] rfl ?_
      exact o_X10_works_J115 C hr v0 v1 v2 v4 v5 v6 (v6 - x4) h2 E
set_option maxRecDepth 100000 in
set_option maxHeartbeats 4000000 in
theorem o_X10_works_J42 {l : Launch} {base : Nat} {D : va_G} {cA : Nat → ClassId} {p : Program} {e : Env} {s : State} {m : MethodId} {args : Array Value} {below : List Frame} {meth : Method} {c : Code} (C : GC base D cA p s m args meth c cX10_works 9 RX10) (hr : meth.sig.returnType = none) {X : Unit × Hp} : ∀ (v0 : Int32) (v1 : Int32) (v2 : Nat) (v4 : Int32) (v5 : Int32) (v6 : Int32) (v7 : Int32) (h : Hp), s_X10_works_J42 v0 v1 v2 v4 v5 v6 v7 h = some X → GW base D cA p l e rm_X10_works s m args below meth c (MQ below (QcU base D cA X.2) args s 0 0 (AA base)) 9 h 0 0 42 [(0, .int v0), (1, .int v1), (2, .ref (base + v2)), (4, .int v4), (5, .int v5), (6, .int v6), (7, .int v7)] [] := by
  intro v0 v1 v2 v4 v5 v6 v7 h E
  unfold s_X10_works_J42 at E
  refine g_iload C 4 dX10_works_42 rfl ?_
  refine g_bipush C 115 dX10_works_44 rfl ?_
  refine g_icmp_ne C 67 dX10_works_46 (by decide) E (fun E => ?_) (fun E => ?_)
  · refine g_sub (lv' := [(0, .int v0), (1, .int v1), (2, .ref (base + v2)), (4, .int v4), (5, .int v5), (6, .int v6), (7, .int v7)]) [0, 1, 2, 3, 4, 5, 6] rfl ?_
    exact o_X10_works_J67 C hr v0 v1 v2 v4 v5 v6 v7 h E
  · refine g_aload_n C 2 dX10_works_49 rfl rfl ?_
    refine g_iload C 3 dX10_works_50 rfl ?_
    refine g_bipush C 7 dX10_works_52 rfl ?_
    refine g_iadd C dX10_works_54 ?_
    refine g_iald C dX10_works_55 E (fun x1 E => ?_)
    refine g_if_le C 67 dX10_works_56 (by decide) E (fun E => ?_) (fun E => ?_)
    · refine g_sub (lv' := [(0, .int v0), (1, .int v1), (2, .ref (base + v2)), (4, .int v4), (5, .int v5), (6, .int v6), (7, .int v7)]) [0, 1, 2, 3, 4, 5, 6] rfl ?_
      exact o_X10_works_J67 C hr v0 v1 v2 v4 v5 v6 v7 h E
    · refine g_aload_n C 2 dX10_works_59 rfl rfl ?_
      refine g_iload C 3 dX10_works_60 rfl ?_
      refine g_iconst C 5 dX10_works_62 rfl ?_
      refine g_iadd C dX10_works_63 ?_
      refine g_iconst C 2 dX10_works_64 rfl ?_
      refine g_iast C dX10_works_65 E (fun h2 E => ?_)
      exact g_vret C dX10_works_66 hr E
set_option maxRecDepth 100000 in
set_option maxHeartbeats 4000000 in
theorem o_X10_works (l : Launch) (base : Nat) (D : va_G) (cA : Nat → ClassId) (a0 : Int32) (a1 : Int32) (a2 : Nat) (a3 : Nat) (h : Hp) (r : Unit) (h' : Hp) (E : s_X10_works a0 a1 a2 a3 h = some (r, h')) : Met l yX10_works (.code yX10_works cX10_works 9 none :: wsA) rm_X10_works (PcG base D cA [.int a0, .int a1, .ref (base + a2), .ref (base + a3)] h) (QcU base D cA h') 0 0 (AA base) := by
  refine g_met [.int a0, .int a1, .ref (base + a2), .ref (base + a3)] (by decide) (Nat.le_of_ble_eq_true rfl) (fun p e s m args below meth c C hr hn => ?_)
  refine g_lv (lv' := [(0, .int a0), (1, .int a1), (2, .ref (base + a2)), (3, .ref (base + a3))]) rfl ?_
  unfold s_X10_works at E
  refine g_bipush C 16 dX10_works_0 rfl ?_
  refine g_iload_n C 0 dX10_works_2 rfl rfl ?_
  refine g_imul C dX10_works_3 ?_
  refine g_istore C (lv' := [(4, .int (16 * a0)), (0, .int a0), (1, .int a1), (2, .ref (base + a2)), (3, .ref (base + a3))]) dX10_works_4 (by decide) rfl ?_
  refine g_iload_n C 1 dX10_works_6 rfl rfl ?_
  refine g_aload_n C 3 dX10_works_7 rfl rfl ?_
  refine g_aload_n C 4 dX10_works_8 rfl rfl ?_
  refine g_staI C [.int a0, .ref (base + a2), .ref (base + a3)] dX10_works_9 cl_X10_10 cs_X10_letter rfl rfl ⟨Nat.le_of_ble_eq_true rfl, Nat.le_of_ble_eq_true rfl⟩ (Nat.le_of_ble_eq_true rfl) ⟨Nat.le_of_ble_eq_true rfl, Nat.le_of_ble_eq_true rfl⟩ rfl (fun r' h' E => o_X10_letter l base D cA a0 a2 a3 h r' h' E) E (fun x1 h2 E => ?_)
  refine g_istore C (lv' := [(5, .int x1), (4, .int (16 * a0)), (0, .int a0), (1, .int a1), (2, .ref (base + a2)), (3, .ref (base + a3))]) dX10_works_12 (by decide) rfl ?_
  refine g_iload_n C 2 dX10_works_14 rfl rfl ?_
  refine g_aload_n C 4 dX10_works_15 rfl rfl ?_
  refine g_aload_n C 5 dX10_works_16 rfl rfl ?_
  refine g_staI C [.int a0, .ref (base + a2), .ref (base + a3)] dX10_works_17 cl_X10_16 cs_X10_number rfl rfl ⟨Nat.le_of_ble_eq_true rfl, Nat.le_of_ble_eq_true rfl⟩ (Nat.le_of_ble_eq_true rfl) ⟨Nat.le_of_ble_eq_true rfl, Nat.le_of_ble_eq_true rfl⟩ rfl (fun r' h' E => o_X10_number l base D cA a0 a2 a3 h2 r' h' E) E (fun x3 h4 E => ?_)
  refine g_istore C (lv' := [(6, .int x3), (5, .int x1), (4, .int (16 * a0)), (0, .int a0), (1, .int a1), (2, .ref (base + a2)), (3, .ref (base + a3))]) dX10_works_20 (by decide) rfl ?_
  refine g_iconst C 0 dX10_works_22 rfl ?_
  refine g_istore C (lv' := [(7, .int 0), (6, .int x3), (5, .int x1), (4, .int (16 * a0)), (0, .int a0), (1, .int a1), (2, .ref (base + a2)), (3, .ref (base + a3))]) dX10_works_23 (by decide) rfl ?_
  refine g_iload C 2 dX10_works_25 rfl ?_
  refine g_bipush C 104 dX10_works_27 rfl ?_
  refine g_icmp_ne C 42 dX10_works_29 (by decide) E (fun E => ?_) (fun E => ?_)
  · refine g_sub (lv' := [(0, .int a0), (1, .int a1), (2, .ref (base + a2)), (4, .int (16 * a0)), (5, .int x1), (6, .int x3), (7, .int 0)]) [4, 5, 6, 3, 2, 1, 0] rfl ?_
    exact o_X10_works_J42 C hr a0 a1 a2 (16 * a0) x1 x3 0 h4 E
  · refine g_aload_n C 6 dX10_works_32 rfl rfl ?_
    refine g_iload C 3 dX10_works_33 rfl ?_
    refine g_bipush C 7 dX10_works_35 rfl ?_
    refine g_iadd C dX10_works_37 ?_
    refine g_iald C dX10_works_38 E (fun x5 E => ?_)
    refine g_if_eq C 59 dX10_works_39 (by decide) E (fun E => ?_) (fun E => ?_)
    · refine g_aload_n C 6 dX10_works_59 rfl rfl ?_
      refine g_iload C 3 dX10_works_60 rfl ?_
      refine g_iconst C 5 dX10_works_62 rfl ?_
      refine g_iadd C dX10_works_63 ?_
      refine g_iconst C 2 dX10_works_64 rfl ?_
      refine g_iast C dX10_works_65 E (fun h6 E => ?_)
      exact g_vret C dX10_works_66 hr E
    · refine g_sub (lv' := [(0, .int a0), (1, .int a1), (2, .ref (base + a2)), (4, .int (16 * a0)), (5, .int x1), (6, .int x3), (7, .int 0)]) [4, 5, 6, 3, 2, 1, 0] rfl ?_
      exact o_X10_works_J42 C hr a0 a1 a2 (16 * a0) x1 x3 0 h4 E
abbrev rm_X10_minute : Room := { frames := 3, cells := 1, slots := 3, locals := 77 }
def s_X10_minute_J258 (k192 : Nat → Nat → Nat → Int32 → Int32 → Hp → Rv Int32) (v0 : Nat) (v1 : Nat) (v3 : Nat) (v5 : Int32) (v6 : Int32) (w0 : Nat) (w1 : Int32) (w2 : Int32) (w3 : Int32) (h : Hp) : Rv Int32 :=
  stI h w0 20 w1 (w2 - w3) fun h =>
  ldI h v0 20 1 fun x5 =>
  if x5 = 1 then ldI h v1 20 ((16 * v6) + 9) fun x6 =>
  if x6 = 2 then ldI h v1 20 ((16 * v6) + 5) fun x7 =>
  if x7 = 1 then k192 v0 v1 v3 v5 (v6 + 1) h
  else bnd (s_X10_temperature v6 v1 h) fun x8 h =>
  ldI h v0 20 5 fun x9 =>
  if x9 < x8 then k192 v0 v1 v3 v5 (v6 + 1) h
  else stI h v1 20 ((16 * v6) + 9) 1 fun h =>
  k192 v0 v1 v3 v5 (v6 + 1) h
  else k192 v0 v1 v3 v5 (v6 + 1) h
  else k192 v0 v1 v3 v5 (v6 + 1) h
def s_X10_minute_J257 (k192 : Nat → Nat → Nat → Int32 → Int32 → Hp → Rv Int32) (v0 : Nat) (v1 : Nat) (v3 : Nat) (v5 : Int32) (v6 : Int32) (w0 : Nat) (w1 : Int32) (w2 : Int32) (h : Hp) : Rv Int32 :=
  s_X10_minute_J258 (fun y0 y1 y2 y3 y4 h => k192 y0 y1 y2 y3 y4 h) v0 v1 v3 v5 v6 w0 w1 w2 0 h
def s_X10_minute_L192 (k323 : Nat → Nat → Int32 → Hp → Rv Int32) : Nat → Nat → Nat → Nat → Int32 → Int32 → Hp → Rv Int32
  | 0, _, _, _, _, _, _ => none
  | n + 1, v0, v1, v3, v5, v6, h =>
    if 3 ≤ v6 then k323 v0 v3 v5 h
  else bnd (s_X10_temperature v6 v1 h) fun x3 h =>
  ldI h v1 20 ((16 * v6) + 8) fun x4 =>
  if (x3 - 15) ≤ 0 then s_X10_minute_J257 (fun y0 y1 y2 y3 y4 h => s_X10_minute_L192 k323 n y0 y1 y2 y3 y4 h) v0 v1 v3 v5 v6 v1 ((16 * v6) + 8) x4 h
  else ldI h v1 20 ((16 * v6) + 7) fun x10 =>
  if x10 ≤ 0 then s_X10_minute_J257 (fun y0 y1 y2 y3 y4 h => s_X10_minute_L192 k323 n y0 y1 y2 y3 y4 h) v0 v1 v3 v5 v6 v1 ((16 * v6) + 8) x4 h
  else ldI h v1 20 ((16 * v6) + 7) fun x11 =>
  divI ((x3 - 15) * x11) 30 fun x12 =>
  s_X10_minute_J258 (fun y0 y1 y2 y3 y4 h => s_X10_minute_L192 k323 n y0 y1 y2 y3 y4 h) v0 v1 v3 v5 v6 v1 ((16 * v6) + 8) x4 x12 h
def s_X10_minute_L353 (k394 : Nat → Nat → Int32 → Int32 → Int32 → Hp → Rv Int32) : Nat → Nat → Nat → Int32 → Int32 → Int32 → Int32 → Hp → Rv Int32
  | 0, _, _, _, _, _, _, _ => none
  | n + 1, v0, v3, v5, v6, v7, v8, h =>
    if 5 ≤ v8 then k394 v0 v3 v5 v6 v7 h
  else ldI h v3 20 ((5 * v7) + 3) fun x16 =>
  if x16 ≤ 0 then k394 v0 v3 v5 v6 v7 h
  else ldI h v3 20 ((5 * v7) + v8) fun x17 =>
  stI h v3 20 ((5 * v6) + v8) x17 fun h =>
  s_X10_minute_L353 k394 n v0 v3 v5 v6 v7 (v8 + 1) h
def s_X10_minute_J394 (k329 : Nat → Nat → Int32 → Int32 → Int32 → Hp → Rv Int32) (v0 : Nat) (v3 : Nat) (v5 : Int32) (v6 : Int32) (v7 : Int32) (h : Hp) : Rv Int32 :=
  ldI h v3 20 ((5 * v7) + 3) fun x18 =>
  if x18 ≤ 0 then k329 v0 v3 v5 (v6 + 0) (v7 + 1) h
  else k329 v0 v3 v5 (v6 + 1) (v7 + 1) h
def s_X10_minute_L329 : Nat → Nat → Nat → Int32 → Int32 → Int32 → Hp → Rv Int32
  | 0, _, _, _, _, _, _ => none
  | n + 1, v0, v3, v5, v6, v7, h =>
    ldI h v0 20 7 fun x13 =>
  if x13 ≤ v7 then stI h v0 20 7 v6 fun h =>
  ldI h v0 20 0 fun x14 =>
  stI h v0 20 0 (x14 + 1) fun h =>
  retI v5 h
  else ldI h v3 20 ((5 * v7) + 3) fun x15 =>
  stI h v3 20 ((5 * v7) + 3) (x15 - 1) fun h =>
  s_X10_minute_L353 (fun y0 y1 y2 y3 y4 h => s_X10_minute_J394 (fun y0 y1 y2 y3 y4 h => s_X10_minute_L329 n y0 y1 y2 y3 y4 h) y0 y1 y2 y3 y4 h) 100000 v0 v3 v5 v6 v7 0 h
def s_X10_minute_L124 (k178 : Nat → Nat → Nat → Int32 → Hp → Rv Int32) : Nat → Nat → Nat → Nat → Nat → Nat → Int32 → Int32 → Hp → Rv Int32
  | 0, _, _, _, _, _, _, _, _ => none
  | n + 1, v0, v1, v2, v3, v4, v5, v7, h =>
    if 3 ≤ v7 then k178 v0 v1 v3 v5 h
  else ldI h v1 20 ((16 * v7) + 3) fun x33 =>
  ldI h v4 20 v7 fun x34 =>
  stI h v1 20 ((16 * v7) + 3) (x33 + x34) fun h =>
  ldI h v1 20 ((16 * v7) + 5) fun x35 =>
  if x35 = 1 then ldI h v4 20 v7 fun x36 =>
  bnd (s_X10_works v7 x36 v1 v2 h) fun _ h =>
  s_X10_minute_L124 k178 n v0 v1 v2 v3 v4 v5 (v7 + 1) h
  else s_X10_minute_L124 k178 n v0 v1 v2 v3 v4 v5 (v7 + 1) h
def s_X10_minute_J78 (v0 : Nat) (v1 : Nat) (v2 : Nat) (v3 : Nat) (v4 : Nat) (w0 : Int32) (h : Hp) : Rv Int32 :=
  bnd (s_X10_split w0 v0 v1 v2 v3 v4 h) fun _ h =>
  ldI h v4 20 0 fun x28 =>
  ldI h v4 20 1 fun x29 =>
  ldI h v4 20 2 fun x30 =>
  ldI h v0 20 6 fun x31 =>
  stI h v0 20 6 (x31 - ((x28 + x29) + x30)) fun h =>
  ldI h v0 20 12 fun x32 =>
  stI h v0 20 12 (x32 + ((x28 + x29) + x30)) fun h =>
  s_X10_minute_L124 (fun y0 y1 y2 y3 h => s_X10_minute_L192 (fun y0 y1 y2 h => s_X10_minute_L329 100000 y0 y1 y2 0 0 h) 100000 y0 y1 y2 y3 0 h) 100000 v0 v1 v2 v3 v4 ((x28 + x29) + x30) 0 h
def s_X10_minute_J38 (v0 : Nat) (v1 : Nat) (v2 : Nat) (v3 : Nat) (v4 : Nat) (w0 : Int32) (h : Hp) : Rv Int32 :=
  ldI h v0 20 6 fun x23 =>
  stI h v0 20 6 (x23 + w0) fun h =>
  ldI h v0 20 11 fun x24 =>
  stI h v0 20 11 (x24 + w0) fun h =>
  ldI h v0 20 4 fun x25 =>
  ldI h v0 20 6 fun x26 =>
  if x26 ≤ x25 then ldI h v0 20 6 fun x27 =>
  s_X10_minute_J78 v0 v1 v2 v3 v4 x27 h
  else ldI h v0 20 4 fun x37 =>
  s_X10_minute_J78 v0 v1 v2 v3 v4 x37 h
def s_X10_minute (a0 : Nat) (a1 : Nat) (a2 : Nat) (a3 : Nat) (a4 : Nat) (h : Hp) : Rv Int32 :=
  ldI h a0 20 1 fun x1 =>
  if x1 = 1 then ldI h a0 20 6 fun x19 =>
  ldI h a0 20 3 fun x20 =>
  ldI h a0 20 2 fun x21 =>
  if (x19 + x20) ≤ x21 then ldI h a0 20 3 fun x22 =>
  s_X10_minute_J38 a0 a1 a2 a3 a4 x22 h
  else ldI h a0 20 2 fun x38 =>
  ldI h a0 20 6 fun x39 =>
  s_X10_minute_J38 a0 a1 a2 a3 a4 (x38 - x39) h
  else ldI h a0 20 10 fun x2 =>
  stI h a0 20 10 (x2 + 1) fun h =>
  s_X10_minute_L192 (fun y0 y1 y2 h => s_X10_minute_L329 100000 y0 y1 y2 0 0 h) 100000 a0 a1 a3 0 0 h
set_option maxRecDepth 100000 in
set_option maxHeartbeats 4000000 in
theorem o_X10_minute_J258 {l : Launch} {base : Nat} {D : va_G} {cA : Nat → ClassId} {p : Program} {e : Env} {s : State} {m : MethodId} {args : Array Value} {below : List Frame} {meth : Method} {c : Code} (C : GC base D cA p s m args meth c cX10_minute 9 RX10) (hr : meth.sig.returnType = (some .int)) {X : Int32 × Hp} {k192 : Nat → Nat → Nat → Int32 → Int32 → Hp → Rv Int32} (K192 : ∀ (y0 : Nat) (y1 : Nat) (y2 : Nat) (y3 : Int32) (y4 : Int32) (h : Hp), k192 y0 y1 y2 y3 y4 h = some X → GW base D cA p l e rm_X10_minute s m args below meth c (MQ below (QcI base D cA X.1 X.2) args s 1 3 (AA base)) 9 h 1 3 192 [(0, .ref (base + y0)), (1, .ref (base + y1)), (3, .ref (base + y2)), (5, .int y3), (6, .int y4)] []) : ∀ (v0 : Nat) (v1 : Nat) (v3 : Nat) (v5 : Int32) (v6 : Int32) (w0 : Nat) (w1 : Int32) (w2 : Int32) (w3 : Int32) (h : Hp), s_X10_minute_J258 k192 v0 v1 v3 v5 v6 w0 w1 w2 w3 h = some X → GW base D cA p l e rm_X10_minute s m args below meth c (MQ below (QcI base D cA X.1 X.2) args s 1 3 (AA base)) 9 h 1 3 258 [(0, .ref (base + v0)), (1, .ref (base + v1)), (3, .ref (base + v3)), (5, .int v5), (6, .int v6)] [.int w3, .int w2, .int w1, .ref (base + w0)] := by
  intro v0 v1 v3 v5 v6 w0 w1 w2 w3 h E
  unfold s_X10_minute_J258 at E
  refine g_isub C dX10_minute_258 ?_
  refine g_iast C dX10_minute_259 E (fun h1 E => ?_)
  refine g_aload_n C 0 dX10_minute_260 rfl rfl ?_
  refine g_iconst C 1 dX10_minute_261 rfl ?_
  refine g_iald C dX10_minute_262 E (fun x2 E => ?_)
  refine g_iconst C 1 dX10_minute_263 rfl ?_
  refine g_icmp_ne C 317 dX10_minute_264 (by decide) E (fun E => ?_) (fun E => ?_)
  · refine g_iinc C (lv' := [(6, .int (v6 + 1)), (0, .ref (base + v0)), (1, .ref (base + v1)), (3, .ref (base + v3)), (5, .int v5)]) 4 1 dX10_minute_317 rfl rfl (by decide) rfl ?_
    refine g_goto C 192 dX10_minute_320 (by decide) ?_
    refine g_sub (lv' := [(0, .ref (base + v0)), (1, .ref (base + v1)), (3, .ref (base + v3)), (5, .int v5), (6, .int (v6 + 1))]) [1, 2, 3, 4, 0] rfl ?_
    exact K192 v0 v1 v3 v5 (v6 + 1) h1 E
  · refine g_aload_n C 1 dX10_minute_267 rfl rfl ?_
    refine g_bipush C 16 dX10_minute_268 rfl ?_
    refine g_iload C 4 dX10_minute_270 rfl ?_
    refine g_imul C dX10_minute_272 ?_
    refine g_bipush C 9 dX10_minute_273 rfl ?_
    refine g_iadd C dX10_minute_275 ?_
    refine g_iald C dX10_minute_276 E (fun x3 E => ?_)
    refine g_iconst C 2 dX10_minute_277 rfl ?_
    refine g_icmp_ne C 317 dX10_minute_278 (by decide) E (fun E => ?_) (fun E => ?_)
    · refine g_iinc C (lv' := [(6, .int (v6 + 1)), (0, .ref (base + v0)), (1, .ref (base + v1)), (3, .ref (base + v3)), (5, .int v5)]) 4 1 dX10_minute_317 rfl rfl (by decide) rfl ?_
      refine g_goto C 192 dX10_minute_320 (by decide) ?_
      refine g_sub (lv' := [(0, .ref (base + v0)), (1, .ref (base + v1)), (3, .ref (base + v3)), (5, .int v5), (6, .int (v6 + 1))]) [1, 2, 3, 4, 0] rfl ?_
      exact K192 v0 v1 v3 v5 (v6 + 1) h1 E
    · refine g_aload_n C 1 dX10_minute_281 rfl rfl ?_
      refine g_bipush C 16 dX10_minute_282 rfl ?_
      refine g_iload C 4 dX10_minute_284 rfl ?_
      refine g_imul C dX10_minute_286 ?_
      refine g_iconst C 5 dX10_minute_287 rfl ?_
      refine g_iadd C dX10_minute_288 ?_
      refine g_iald C dX10_minute_289 E (fun x4 E => ?_)
      refine g_iconst C 1 dX10_minute_290 rfl ?_
      refine g_icmp_eq C 317 dX10_minute_291 (by decide) E (fun E => ?_) (fun E => ?_)
      · refine g_iinc C (lv' := [(6, .int (v6 + 1)), (0, .ref (base + v0)), (1, .ref (base + v1)), (3, .ref (base + v3)), (5, .int v5)]) 4 1 dX10_minute_317 rfl rfl (by decide) rfl ?_
        refine g_goto C 192 dX10_minute_320 (by decide) ?_
        refine g_sub (lv' := [(0, .ref (base + v0)), (1, .ref (base + v1)), (3, .ref (base + v3)), (5, .int v5), (6, .int (v6 + 1))]) [1, 2, 3, 4, 0] rfl ?_
        exact K192 v0 v1 v3 v5 (v6 + 1) h1 E
      · refine g_iload C 4 dX10_minute_294 rfl ?_
        refine g_aload_n C 1 dX10_minute_296 rfl rfl ?_
        refine g_staI C [.int v6, .ref (base + v1)] dX10_minute_297 cl_X10_26 cs_X10_temperature rfl rfl ⟨Nat.le_of_ble_eq_true rfl, Nat.le_of_ble_eq_true rfl⟩ (Nat.le_of_ble_eq_true rfl) ⟨Nat.le_of_ble_eq_true rfl, Nat.le_of_ble_eq_true rfl⟩ rfl (fun r' h' E => o_X10_temperature l base D cA v6 v1 h1 r' h' E) E (fun x5 h6 E => ?_)
        refine g_aload_n C 0 dX10_minute_300 rfl rfl ?_
        refine g_iconst C 5 dX10_minute_301 rfl ?_
        refine g_iald C dX10_minute_302 E (fun x7 E => ?_)
        refine g_icmp_gt C 317 dX10_minute_303 (by decide) E (fun E => ?_) (fun E => ?_)
        · refine g_iinc C (lv' := [(6, .int (v6 + 1)), (0, .ref (base + v0)), (1, .ref (base + v1)), (3, .ref (base + v3)), (5, .int v5)]) 4 1 dX10_minute_317 rfl rfl (by decide) rfl ?_
          refine g_goto C 192 dX10_minute_320 (by decide) ?_
          refine g_sub (lv' := [(0, .ref (base + v0)), (1, .ref (base + v1)), (3, .ref (base + v3)), (5, .int v5), (6, .int (v6 + 1))]) [1, 2, 3, 4, 0] rfl ?_
          exact K192 v0 v1 v3 v5 (v6 + 1) h6 E
        · refine g_aload_n C 1 dX10_minute_306 rfl rfl ?_
          refine g_bipush C 16 dX10_minute_307 rfl ?_
          refine g_iload C 4 dX10_minute_309 rfl ?_
          refine g_imul C dX10_minute_311 ?_
          refine g_bipush C 9 dX10_minute_312 rfl ?_
          refine g_iadd C dX10_minute_314 ?_
          refine g_iconst C 1 dX10_minute_315 rfl ?_
          refine g_iast C dX10_minute_316 E (fun h8 E => ?_)
          refine g_iinc C (lv' := [(6, .int (v6 + 1)), (0, .ref (base + v0)), (1, .ref (base + v1)), (3, .ref (base + v3)), (5, .int v5)]) 4 1 dX10_minute_317 rfl rfl (by decide) rfl ?_
          refine g_goto C 192 dX10_minute_320 (by decide) ?_
          refine g_sub (lv' := [(0, .ref (base + v0)), (1, .ref (base + v1)), (3, .ref (base + v3)), (5, .int v5), (6, .int (v6 + 1))]) [1, 2, 3, 4, 0] rfl ?_
          exact K192 v0 v1 v3 v5 (v6 + 1) h8 E
set_option maxRecDepth 100000 in
set_option maxHeartbeats 4000000 in
theorem o_X10_minute_J257 {l : Launch} {base : Nat} {D : va_G} {cA : Nat → ClassId} {p : Program} {e : Env} {s : State} {m : MethodId} {args : Array Value} {below : List Frame} {meth : Method} {c : Code} (C : GC base D cA p s m args meth c cX10_minute 9 RX10) (hr : meth.sig.returnType = (some .int)) {X : Int32 × Hp} {k192 : Nat → Nat → Nat → Int32 → Int32 → Hp → Rv Int32} (K192 : ∀ (y0 : Nat) (y1 : Nat) (y2 : Nat) (y3 : Int32) (y4 : Int32) (h : Hp), k192 y0 y1 y2 y3 y4 h = some X → GW base D cA p l e rm_X10_minute s m args below meth c (MQ below (QcI base D cA X.1 X.2) args s 1 3 (AA base)) 9 h 1 3 192 [(0, .ref (base + y0)), (1, .ref (base + y1)), (3, .ref (base + y2)), (5, .int y3), (6, .int y4)] []) : ∀ (v0 : Nat) (v1 : Nat) (v3 : Nat) (v5 : Int32) (v6 : Int32) (w0 : Nat) (w1 : Int32) (w2 : Int32) (h : Hp), s_X10_minute_J257 k192 v0 v1 v3 v5 v6 w0 w1 w2 h = some X → GW base D cA p l e rm_X10_minute s m args below meth c (MQ below (QcI base D cA X.1 X.2) args s 1 3 (AA base)) 9 h 1 3 257 [(0, .ref (base + v0)), (1, .ref (base + v1)), (3, .ref (base + v3)), (5, .int v5), (6, .int v6)] [.int w2, .int w1, .ref (base + w0)] := by
  intro v0 v1 v3 v5 v6 w0 w1 w2 h E
  unfold s_X10_minute_J257 at E
  refine g_iconst C 0 dX10_minute_257 rfl ?_
  refine g_sub (lv' := [(0, .ref (base + v0)), (1, .ref (base + v1)), (3, .ref (base + v3)), (5, .int v5), (6, .int v6)]) [0, 1, 2, 3, 4] rfl ?_
  refine o_X10_minute_J258 C hr ?_ v0 v1 v3 v5 v6 w0 w1 w2 0 h E
  · intro y1 y2 y3 y4 y5 h6 E
    refine g_sub (lv' := [(0, .ref (base + y1)), (1, .ref (base + y2)), (3, .ref (base + y3)), (5, .int y4), (6, .int y5)]) [0, 1, 2, 3, 4] rfl ?_
    exact K192 y1 y2 y3 y4 y5 h6 E
set_option maxRecDepth 100000 in
set_option maxHeartbeats 4000000 in
theorem o_X10_minute_L192 {l : Launch} {base : Nat} {D : va_G} {cA : Nat → ClassId} {p : Program} {e : Env} {s : State} {m : MethodId} {args : Array Value} {below : List Frame} {meth : Method} {c : Code} (C : GC base D cA p s m args meth c cX10_minute 9 RX10) (hr : meth.sig.returnType = (some .int)) {X : Int32 × Hp} {k323 : Nat → Nat → Int32 → Hp → Rv Int32} (K323 : ∀ (y0 : Nat) (y1 : Nat) (y2 : Int32) (h : Hp), k323 y0 y1 y2 h = some X → GW base D cA p l e rm_X10_minute s m args below meth c (MQ below (QcI base D cA X.1 X.2) args s 1 3 (AA base)) 9 h 1 3 323 [(0, .ref (base + y0)), (3, .ref (base + y1)), (5, .int y2)] []) : ∀ (n : Nat) (v0 : Nat) (v1 : Nat) (v3 : Nat) (v5 : Int32) (v6 : Int32) (h : Hp), s_X10_minute_L192 k323 n v0 v1 v3 v5 v6 h = some X → GW base D cA p l e rm_X10_minute s m args below meth c (MQ below (QcI base D cA X.1 X.2) args s 1 3 (AA base)) 9 h 1 3 192 [(0, .ref (base + v0)), (1, .ref (base + v1)), (3, .ref (base + v3)), (5, .int v5), (6, .int v6)] [] := by
  intro n
  induction n with
  | zero =>
    intro v0 v1 v3 v5 v6 h E
    rw [s_X10_minute_L192] at E
    cases E
  | succ n ih =>
    intro v0 v1 v3 v5 v6 h E
    rw [s_X10_minute_L192] at E
    refine g_iload C 4 dX10_minute_192 rfl ?_
    refine g_iconst C 3 dX10_minute_194 rfl ?_
    refine g_icmp_ge C 323 dX10_minute_195 (by decide) E (fun E => ?_) (fun E => ?_)
    · refine g_sub (lv' := [(0, .ref (base + v0)), (3, .ref (base + v3)), (5, .int v5)]) [0, 2, 3] rfl ?_
      exact K323 v0 v3 v5 h E
    · refine g_iload C 4 dX10_minute_198 rfl ?_
      refine g_aload_n C 1 dX10_minute_200 rfl rfl ?_
      refine g_staI C [.int v6, .ref (base + v1)] dX10_minute_201 cl_X10_26 cs_X10_temperature rfl rfl ⟨Nat.le_of_ble_eq_true rfl, Nat.le_of_ble_eq_true rfl⟩ (Nat.le_of_ble_eq_true rfl) ⟨Nat.le_of_ble_eq_true rfl, Nat.le_of_ble_eq_true rfl⟩ rfl (fun r' h' E => o_X10_temperature l base D cA v6 v1 h r' h' E) E (fun x1 h2 E => ?_)
      refine g_bipush C 15 dX10_minute_204 rfl ?_
      refine g_isub C dX10_minute_206 ?_
      refine g_istore C (lv' := [(7, .int (x1 - 15)), (0, .ref (base + v0)), (1, .ref (base + v1)), (3, .ref (base + v3)), (5, .int v5), (6, .int v6)]) dX10_minute_207 (by decide) rfl ?_
      refine g_aload_n C 2 dX10_minute_209 rfl rfl ?_
      refine g_bipush C 16 dX10_minute_210 rfl ?_
      refine g_iload C 5 dX10_minute_212 rfl ?_
      refine g_imul C dX10_minute_214 ?_
      refine g_bipush C 8 dX10_minute_215 rfl ?_
      refine g_iadd C dX10_minute_217 ?_
      refine g_dup2 C dX10_minute_218 rfl rfl ?_
      refine g_iald C dX10_minute_219 E (fun x3 E => ?_)
      refine g_iload C 0 dX10_minute_220 rfl ?_
      refine g_if_le C 257 dX10_minute_222 (by decide) E (fun E => ?_) (fun E => ?_)
      · refine g_sub (lv' := [(0, .ref (base + v0)), (1, .ref (base + v1)), (3, .ref (base + v3)), (5, .int v5), (6, .int v6)]) [1, 2, 3, 4, 5] rfl ?_
        refine o_X10_minute_J257 C hr ?_ v0 v1 v3 v5 v6 v1 ((16 * v6) + 8) x3 h2 E
        · intro y4 y5 y6 y7 y8 h9 E
          refine g_sub (lv' := [(0, .ref (base + y4)), (1, .ref (base + y5)), (3, .ref (base + y6)), (5, .int y7), (6, .int y8)]) [0, 1, 2, 3, 4] rfl ?_
          exact ih y4 y5 y6 y7 y8 h9 E
      · refine g_aload_n C 2 dX10_minute_225 rfl rfl ?_
        refine g_bipush C 16 dX10_minute_226 rfl ?_
        refine g_iload C 5 dX10_minute_228 rfl ?_
        refine g_imul C dX10_minute_230 ?_
        refine g_bipush C 7 dX10_minute_231 rfl ?_
        refine g_iadd C dX10_minute_233 ?_
        refine g_iald C dX10_minute_234 E (fun x10 E => ?_)
        refine g_if_le C 257 dX10_minute_235 (by decide) E (fun E => ?_) (fun E => ?_)
        · refine g_sub (lv' := [(0, .ref (base + v0)), (1, .ref (base + v1)), (3, .ref (base + v3)), (5, .int v5), (6, .int v6)]) [1, 2, 3, 4, 5] rfl ?_
          refine o_X10_minute_J257 C hr ?_ v0 v1 v3 v5 v6 v1 ((16 * v6) + 8) x3 h2 E
          · intro y11 y12 y13 y14 y15 h16 E
            refine g_sub (lv' := [(0, .ref (base + y11)), (1, .ref (base + y12)), (3, .ref (base + y13)), (5, .int y14), (6, .int y15)]) [0, 1, 2, 3, 4] rfl ?_
            exact ih y11 y12 y13 y14 y15 h16 E
        · refine g_iload C 0 dX10_minute_238 rfl ?_
          refine g_aload_n C 2 dX10_minute_240 rfl rfl ?_
          refine g_bipush C 16 dX10_minute_241 rfl ?_
          refine g_iload C 5 dX10_minute_243 rfl ?_
          refine g_imul C dX10_minute_245 ?_
          refine g_bipush C 7 dX10_minute_246 rfl ?_
          refine g_iadd C dX10_minute_248 ?_
          refine g_iald C dX10_minute_249 E (fun x17 E => ?_)
          refine g_imul C dX10_minute_250 ?_
          refine g_bipush C 30 dX10_minute_251 rfl ?_
          refine g_idiv C dX10_minute_253 E (fun x18 E => ?_)
          refine g_goto C 258 dX10_minute_254 (by decide) ?_
          refine g_sub (lv' := [(0, .ref (base + v0)), (1, .ref (base + v1)), (3, .ref (base + v3)), (5, .int v5), (6, .int v6)]) [1, 2, 3, 4, 5] rfl ?_
          refine o_X10_minute_J258 C hr ?_ v0 v1 v3 v5 v6 v1 ((16 * v6) + 8) x3 x18 h2 E
          · intro y19 y20 y21 y22 y23 h24 E
            refine g_sub (lv' := [(0, .ref (base + y19)), (1, .ref (base + y20)), (3, .ref (base + y21)), (5, .int y22), (6, .int y23)]) [0, 1, 2, 3, 4] rfl ?_
            exact ih y19 y20 y21 y22 y23 h24 E
set_option maxRecDepth 100000 in
set_option maxHeartbeats 4000000 in
theorem o_X10_minute_L353 {l : Launch} {base : Nat} {D : va_G} {cA : Nat → ClassId} {p : Program} {e : Env} {s : State} {m : MethodId} {args : Array Value} {below : List Frame} {meth : Method} {c : Code} (C : GC base D cA p s m args meth c cX10_minute 9 RX10) (hr : meth.sig.returnType = (some .int)) {X : Int32 × Hp} {k394 : Nat → Nat → Int32 → Int32 → Int32 → Hp → Rv Int32} (K394 : ∀ (y0 : Nat) (y1 : Nat) (y2 : Int32) (y3 : Int32) (y4 : Int32) (h : Hp), k394 y0 y1 y2 y3 y4 h = some X → GW base D cA p l e rm_X10_minute s m args below meth c (MQ below (QcI base D cA X.1 X.2) args s 1 3 (AA base)) 9 h 1 3 394 [(0, .ref (base + y0)), (3, .ref (base + y1)), (5, .int y2), (6, .int y3), (7, .int y4)] []) : ∀ (n : Nat) (v0 : Nat) (v3 : Nat) (v5 : Int32) (v6 : Int32) (v7 : Int32) (v8 : Int32) (h : Hp), s_X10_minute_L353 k394 n v0 v3 v5 v6 v7 v8 h = some X → GW base D cA p l e rm_X10_minute s m args below meth c (MQ below (QcI base D cA X.1 X.2) args s 1 3 (AA base)) 9 h 1 3 353 [(0, .ref (base + v0)), (3, .ref (base + v3)), (5, .int v5), (6, .int v6), (7, .int v7), (8, .int v8)] [] := by
  intro n
  induction n with
  | zero =>
    intro v0 v3 v5 v6 v7 v8 h E
    rw [s_X10_minute_L353] at E
    cases E
  | succ n ih =>
    intro v0 v3 v5 v6 v7 v8 h E
    rw [s_X10_minute_L353] at E
    refine g_iload C 5 dX10_minute_353 rfl ?_
    refine g_iconst C 5 dX10_minute_355 rfl ?_
    refine g_icmp_ge C 394 dX10_minute_356 (by decide) E (fun E => ?_) (fun E => ?_)
    · refine g_sub (lv' := [(0, .ref (base + v0)), (3, .ref (base + v3)), (5, .int v5), (6, .int v6), (7, .int v7)]) [0, 1, 2, 3, 4] rfl ?_
      exact K394 v0 v3 v5 v6 v7 h E
    · refine g_aload_n C 1 dX10_minute_359 rfl rfl ?_
      refine g_iconst C 5 dX10_minute_360 rfl ?_
      refine g_iload C 4 dX10_minute_361 rfl ?_
      refine g_imul C dX10_minute_363 ?_
      refine g_iconst C 3 dX10_minute_364 rfl ?_
      refine g_iadd C dX10_minute_365 ?_
      refine g_iald C dX10_minute_366 E (fun x1 E => ?_)
      refine g_if_le C 394 dX10_minute_367 (by decide) E (fun E => ?_) (fun E => ?_)
      · refine g_sub (lv' := [(0, .ref (base + v0)), (3, .ref (base + v3)), (5, .int v5), (6, .int v6), (7, .int v7)]) [0, 1, 2, 3, 4] rfl ?_
        exact K394 v0 v3 v5 v6 v7 h E
      · refine g_aload_n C 1 dX10_minute_370 rfl rfl ?_
        refine g_iconst C 5 dX10_minute_371 rfl ?_
        refine g_iload C 3 dX10_minute_372 rfl ?_
        refine g_imul C dX10_minute_374 ?_
        refine g_iload C 5 dX10_minute_375 rfl ?_
        refine g_iadd C dX10_minute_377 ?_
        refine g_aload_n C 1 dX10_minute_378 rfl rfl ?_
        refine g_iconst C 5 dX10_minute_379 rfl ?_
        refine g_iload C 4 dX10_minute_380 rfl ?_
        refine g_imul C dX10_minute_382 ?_
        refine g_iload C 5 dX10_minute_383 rfl ?_
        refine g_iadd C dX10_minute_385 ?_
        refine g_iald C dX10_minute_386 E (fun x2 E => ?_)
        refine g_iast C dX10_minute_387 E (fun h3 E => ?_)
        refine g_iinc C (lv' := [(8, .int (v8 + 1)), (0, .ref (base + v0)), (3, .ref (base + v3)), (5, .int v5), (6, .int v6), (7, .int v7)]) 5 1 dX10_minute_388 rfl rfl (by decide) rfl ?_
        refine g_goto C 353 dX10_minute_391 (by decide) ?_
        refine g_sub (lv' := [(0, .ref (base + v0)), (3, .ref (base + v3)), (5, .int v5), (6, .int v6), (7, .int v7), (8, .int (v8 + 1))]) [1, 2, 3, 4, 5, 0] rfl ?_
        exact ih v0 v3 v5 v6 v7 (v8 + 1) h3 E
set_option maxRecDepth 100000 in
set_option maxHeartbeats 4000000 in
theorem o_X10_minute_J394 {l : Launch} {base : Nat} {D : va_G} {cA : Nat → ClassId} {p : Program} {e : Env} {s : State} {m : MethodId} {args : Array Value} {below : List Frame} {meth : Method} {c : Code} (C : GC base D cA p s m args meth c cX10_minute 9 RX10) (hr : meth.sig.returnType = (some .int)) {X : Int32 × Hp} {k329 : Nat → Nat → Int32 → Int32 → Int32 → Hp → Rv Int32} (K329 : ∀ (y0 : Nat) (y1 : Nat) (y2 : Int32) (y3 : Int32) (y4 : Int32) (h : Hp), k329 y0 y1 y2 y3 y4 h = some X → GW base D cA p l e rm_X10_minute s m args below meth c (MQ below (QcI base D cA X.1 X.2) args s 1 3 (AA base)) 9 h 1 3 329 [(0, .ref (base + y0)), (3, .ref (base + y1)), (5, .int y2), (6, .int y3), (7, .int y4)] []) : ∀ (v0 : Nat) (v3 : Nat) (v5 : Int32) (v6 : Int32) (v7 : Int32) (h : Hp), s_X10_minute_J394 k329 v0 v3 v5 v6 v7 h = some X → GW base D cA p l e rm_X10_minute s m args below meth c (MQ below (QcI base D cA X.1 X.2) args s 1 3 (AA base)) 9 h 1 3 394 [(0, .ref (base + v0)), (3, .ref (base + v3)), (5, .int v5), (6, .int v6), (7, .int v7)] [] := by
  intro v0 v3 v5 v6 v7 h E
  unfold s_X10_minute_J394 at E
  refine g_iload C 3 dX10_minute_394 rfl ?_
  refine g_aload_n C 1 dX10_minute_396 rfl rfl ?_
  refine g_iconst C 5 dX10_minute_397 rfl ?_
  refine g_iload C 4 dX10_minute_398 rfl ?_
  refine g_imul C dX10_minute_400 ?_
  refine g_iconst C 3 dX10_minute_401 rfl ?_
  refine g_iadd C dX10_minute_402 ?_
  refine g_iald C dX10_minute_403 E (fun x1 E => ?_)
  refine g_if_le C 411 dX10_minute_404 (by decide) E (fun E => ?_) (fun E => ?_)
  · refine g_iconst C 0 dX10_minute_411 rfl ?_
    refine g_iadd C dX10_minute_412 ?_
    refine g_istore C (lv' := [(6, .int (v6 + 0)), (0, .ref (base + v0)), (3, .ref (base + v3)), (5, .int v5), (7, .int v7)]) dX10_minute_413 (by decide) rfl ?_
    refine g_iinc C (lv' := [(7, .int (v7 + 1)), (6, .int (v6 + 0)), (0, .ref (base + v0)), (3, .ref (base + v3)), (5, .int v5)]) 4 1 dX10_minute_415 rfl rfl (by decide) rfl ?_
    refine g_goto C 329 dX10_minute_418 (by decide) ?_
    refine g_sub (lv' := [(0, .ref (base + v0)), (3, .ref (base + v3)), (5, .int v5), (6, .int (v6 + 0)), (7, .int (v7 + 1))]) [2, 3, 4, 1, 0] rfl ?_
    exact K329 v0 v3 v5 (v6 + 0) (v7 + 1) h E
  · refine g_iconst C 1 dX10_minute_407 rfl ?_
    refine g_goto C 412 dX10_minute_408 (by decide) ?_
    refine g_iadd C dX10_minute_412 ?_
    refine g_istore C (lv' := [(6, .int (v6 + 1)), (0, .ref (base + v0)), (3, .ref (base + v3)), (5, .int v5), (7, .int v7)]) dX10_minute_413 (by decide) rfl ?_
    refine g_iinc C (lv' := [(7, .int (v7 + 1)), (6, .int (v6 + 1)), (0, .ref (base + v0)), (3, .ref (base + v3)), (5, .int v5)]) 4 1 dX10_minute_415 rfl rfl (by decide) rfl ?_
    refine g_goto C 329 dX10_minute_418 (by decide) ?_
    refine g_sub (lv' := [(0, .ref (base + v0)), (3, .ref (base + v3)), (5, .int v5), (6, .int (v6 + 1)), (7, .int (v7 + 1))]) [2, 3, 4, 1, 0] rfl ?_
    exact K329 v0 v3 v5 (v6 + 1) (v7 + 1) h E
set_option maxRecDepth 100000 in
set_option maxHeartbeats 4000000 in
theorem o_X10_minute_L329 {l : Launch} {base : Nat} {D : va_G} {cA : Nat → ClassId} {p : Program} {e : Env} {s : State} {m : MethodId} {args : Array Value} {below : List Frame} {meth : Method} {c : Code} (C : GC base D cA p s m args meth c cX10_minute 9 RX10) (hr : meth.sig.returnType = (some .int)) {X : Int32 × Hp} : ∀ (n : Nat) (v0 : Nat) (v3 : Nat) (v5 : Int32) (v6 : Int32) (v7 : Int32) (h : Hp), s_X10_minute_L329 n v0 v3 v5 v6 v7 h = some X → GW base D cA p l e rm_X10_minute s m args below meth c (MQ below (QcI base D cA X.1 X.2) args s 1 3 (AA base)) 9 h 1 3 329 [(0, .ref (base + v0)), (3, .ref (base + v3)), (5, .int v5), (6, .int v6), (7, .int v7)] [] := by
  intro n
  induction n with
  | zero =>
    intro v0 v3 v5 v6 v7 h E
    rw [s_X10_minute_L329] at E
    cases E
  | succ n ih =>
    intro v0 v3 v5 v6 v7 h E
    rw [s_X10_minute_L329] at E
    refine g_iload C 4 dX10_minute_329 rfl ?_
    refine g_aload_n C 0 dX10_minute_331 rfl rfl ?_
    refine g_bipush C 7 dX10_minute_332 rfl ?_
    refine g_iald C dX10_minute_334 E (fun x1 E => ?_)
    refine g_icmp_ge C 421 dX10_minute_335 (by decide) E (fun E => ?_) (fun E => ?_)
    · refine g_aload_n C 0 dX10_minute_421 rfl rfl ?_
      refine g_bipush C 7 dX10_minute_422 rfl ?_
      refine g_iload C 3 dX10_minute_424 rfl ?_
      refine g_iast C dX10_minute_426 E (fun h2 E => ?_)
      refine g_aload_n C 0 dX10_minute_427 rfl rfl ?_
      refine g_iconst C 0 dX10_minute_428 rfl ?_
      refine g_dup2 C dX10_minute_429 rfl rfl ?_
      refine g_iald C dX10_minute_430 E (fun x3 E => ?_)
      refine g_iconst C 1 dX10_minute_431 rfl ?_
      refine g_iadd C dX10_minute_432 ?_
      refine g_iast C dX10_minute_433 E (fun h4 E => ?_)
      refine g_iload C 2 dX10_minute_434 rfl ?_
      exact g_iret C dX10_minute_436 hr E
    · refine g_aload_n C 1 dX10_minute_338 rfl rfl ?_
      refine g_iconst C 5 dX10_minute_339 rfl ?_
      refine g_iload C 4 dX10_minute_340 rfl ?_
      refine g_imul C dX10_minute_342 ?_
      refine g_iconst C 3 dX10_minute_343 rfl ?_
      refine g_iadd C dX10_minute_344 ?_
      refine g_dup2 C dX10_minute_345 rfl rfl ?_
      refine g_iald C dX10_minute_346 E (fun x5 E => ?_)
      refine g_iconst C 1 dX10_minute_347 rfl ?_
      refine g_isub C dX10_minute_348 ?_
      refine g_iast C dX10_minute_349 E (fun h6 E => ?_)
      refine g_iconst C 0 dX10_minute_350 rfl ?_
      refine g_istore C (lv' := [(8, .int 0), (0, .ref (base + v0)), (3, .ref (base + v3)), (5, .int v5), (6, .int v6), (7, .int v7)]) dX10_minute_351 (by decide) rfl ?_
      refine g_sub (lv' := [(0, .ref (base + v0)), (3, .ref (base + v3)), (5, .int v5), (6, .int v6), (7, .int v7), (8, .int 0)]) [1, 2, 3, 4, 5, 0] rfl ?_
      refine o_X10_minute_L353 C hr ?_ _ v0 v3 v5 v6 v7 0 h6 E
      · intro y7 y8 y9 y10 y11 h12 E
        refine g_sub (lv' := [(0, .ref (base + y7)), (3, .ref (base + y8)), (5, .int y9), (6, .int y10), (7, .int y11)]) [0, 1, 2, 3, 4] rfl ?_
        refine o_X10_minute_J394 C hr ?_ y7 y8 y9 y10 y11 h12 E
        · intro y13 y14 y15 y16 y17 h18 E
          refine g_sub (lv' := [(0, .ref (base + y13)), (3, .ref (base + y14)), (5, .int y15), (6, .int y16), (7, .int y17)]) [0, 1, 2, 3, 4] rfl ?_
          exact ih y13 y14 y15 y16 y17 h18 E
set_option maxRecDepth 100000 in
set_option maxHeartbeats 4000000 in
theorem o_X10_minute_L124 {l : Launch} {base : Nat} {D : va_G} {cA : Nat → ClassId} {p : Program} {e : Env} {s : State} {m : MethodId} {args : Array Value} {below : List Frame} {meth : Method} {c : Code} (C : GC base D cA p s m args meth c cX10_minute 9 RX10) (hr : meth.sig.returnType = (some .int)) {X : Int32 × Hp} {k178 : Nat → Nat → Nat → Int32 → Hp → Rv Int32} (K178 : ∀ (y0 : Nat) (y1 : Nat) (y2 : Nat) (y3 : Int32) (h : Hp), k178 y0 y1 y2 y3 h = some X → GW base D cA p l e rm_X10_minute s m args below meth c (MQ below (QcI base D cA X.1 X.2) args s 1 3 (AA base)) 9 h 1 3 178 [(0, .ref (base + y0)), (1, .ref (base + y1)), (3, .ref (base + y2)), (5, .int y3)] []) : ∀ (n : Nat) (v0 : Nat) (v1 : Nat) (v2 : Nat) (v3 : Nat) (v4 : Nat) (v5 : Int32) (v7 : Int32) (h : Hp), s_X10_minute_L124 k178 n v0 v1 v2 v3 v4 v5 v7 h = some X → GW base D cA p l e rm_X10_minute s m args below meth c (MQ below (QcI base D cA X.1 X.2) args s 1 3 (AA base)) 9 h 1 3 124 [(0, .ref (base + v0)), (1, .ref (base + v1)), (2, .ref (base + v2)), (3, .ref (base + v3)), (4, .ref (base + v4)), (5, .int v5), (7, .int v7)] [] := by
  intro n
  induction n with
  | zero =>
    intro v0 v1 v2 v3 v4 v5 v7 h E
    rw [s_X10_minute_L124] at E
    cases E
  | succ n ih =>
    intro v0 v1 v2 v3 v4 v5 v7 h E
    rw [s_X10_minute_L124] at E
    refine g_iload C 6 dX10_minute_124 rfl ?_
    refine g_iconst C 3 dX10_minute_126 rfl ?_
    refine g_icmp_ge C 178 dX10_minute_127 (by decide) E (fun E => ?_) (fun E => ?_)
    · refine g_sub (lv' := [(0, .ref (base + v0)), (1, .ref (base + v1)), (3, .ref (base + v3)), (5, .int v5)]) [0, 1, 3, 5] rfl ?_
      exact K178 v0 v1 v3 v5 h E
    · refine g_aload_n C 1 dX10_minute_130 rfl rfl ?_
      refine g_bipush C 16 dX10_minute_131 rfl ?_
      refine g_iload C 6 dX10_minute_133 rfl ?_
      refine g_imul C dX10_minute_135 ?_
      refine g_iconst C 3 dX10_minute_136 rfl ?_
      refine g_iadd C dX10_minute_137 ?_
      refine g_dup2 C dX10_minute_138 rfl rfl ?_
      refine g_iald C dX10_minute_139 E (fun x1 E => ?_)
      refine g_aload C 4 dX10_minute_140 rfl ?_
      refine g_iload C 6 dX10_minute_142 rfl ?_
      refine g_iald C dX10_minute_144 E (fun x2 E => ?_)
      refine g_iadd C dX10_minute_145 ?_
      refine g_iast C dX10_minute_146 E (fun h3 E => ?_)
      refine g_aload_n C 1 dX10_minute_147 rfl rfl ?_
      refine g_bipush C 16 dX10_minute_148 rfl ?_
      refine g_iload C 6 dX10_minute_150 rfl ?_
      refine g_imul C dX10_minute_152 ?_
      refine g_iconst C 5 dX10_minute_153 rfl ?_
      refine g_iadd C dX10_minute_154 ?_
      refine g_iald C dX10_minute_155 E (fun x4 E => ?_)
      refine g_iconst C 1 dX10_minute_156 rfl ?_
      refine g_icmp_ne C 172 dX10_minute_157 (by decide) E (fun E => ?_) (fun E => ?_)
      · refine g_iinc C (lv' := [(7, .int (v7 + 1)), (0, .ref (base + v0)), (1, .ref (base + v1)), (2, .ref (base + v2)), (3, .ref (base + v3)), (4, .ref (base + v4)), (5, .int v5)]) 6 1 dX10_minute_172 rfl rfl (by decide) rfl ?_
        refine g_goto C 124 dX10_minute_175 (by decide) ?_
        refine g_sub (lv' := [(0, .ref (base + v0)), (1, .ref (base + v1)), (2, .ref (base + v2)), (3, .ref (base + v3)), (4, .ref (base + v4)), (5, .int v5), (7, .int (v7 + 1))]) [1, 2, 3, 4, 5, 6, 0] rfl ?_
        exact ih v0 v1 v2 v3 v4 v5 (v7 + 1) h3 E
      · refine g_iload C 6 dX10_minute_160 rfl ?_
        refine g_aload C 4 dX10_minute_162 rfl ?_
        refine g_iload C 6 dX10_minute_164 rfl ?_
        refine g_iald C dX10_minute_166 E (fun x5 E => ?_)
        refine g_aload_n C 1 dX10_minute_167 rfl rfl ?_
        refine g_aload_n C 2 dX10_minute_168 rfl rfl ?_
        refine g_staU C [.int v7, .int x5, .ref (base + v1), .ref (base + v2)] dX10_minute_169 cl_X10_34 cs_X10_works rfl rfl ⟨Nat.le_of_ble_eq_true rfl, Nat.le_of_ble_eq_true rfl⟩ (Nat.le_of_ble_eq_true rfl) ⟨Nat.le_of_ble_eq_true rfl, Nat.le_of_ble_eq_true rfl⟩ rfl (fun r' h' E => o_X10_works l base D cA v7 x5 v1 v2 h3 r' h' E) E (fun x6 h7 E => ?_)
        refine g_iinc C (lv' := [(7, .int (v7 + 1)), (0, .ref (base + v0)), (1, .ref (base + v1)), (2, .ref (base + v2)), (3, .ref (base + v3)), (4, .ref (base + v4)), (5, .int v5)]) 6 1 dX10_minute_172 rfl rfl (by decide) rfl ?_
        refine g_goto C 124 dX10_minute_175 (by decide) ?_
        refine g_sub (lv' := [(0, .ref (base + v0)), (1, .ref (base + v1)), (2, .ref (base + v2)), (3, .ref (base + v3)), (4, .ref (base + v4)), (5, .int v5), (7, .int (v7 + 1))]) [1, 2, 3, 4, 5, 6, 0] rfl ?_
        exact ih v0 v1 v2 v3 v4 v5 (v7 + 1) h7 E
set_option maxRecDepth 100000 in
set_option maxHeartbeats 4000000 in
theorem o_X10_minute_J78 {l : Launch} {base : Nat} {D : va_G} {cA : Nat → ClassId} {p : Program} {e : Env} {s : State} {m : MethodId} {args : Array Value} {below : List Frame} {meth : Method} {c : Code} (C : GC base D cA p s m args meth c cX10_minute 9 RX10) (hr : meth.sig.returnType = (some .int)) {X : Int32 × Hp} : ∀ (v0 : Nat) (v1 : Nat) (v2 : Nat) (v3 : Nat) (v4 : Nat) (w0 : Int32) (h : Hp), s_X10_minute_J78 v0 v1 v2 v3 v4 w0 h = some X → GW base D cA p l e rm_X10_minute s m args below meth c (MQ below (QcI base D cA X.1 X.2) args s 1 3 (AA base)) 9 h 0 0 78 [(0, .ref (base + v0)), (1, .ref (base + v1)), (2, .ref (base + v2)), (3, .ref (base + v3)), (4, .ref (base + v4))] [.int w0] := by
  intro v0 v1 v2 v3 v4 w0 h E
  unfold s_X10_minute_J78 at E
  refine g_aload_n C 0 dX10_minute_78 rfl rfl ?_
  refine g_aload_n C 1 dX10_minute_79 rfl rfl ?_
  refine g_aload_n C 2 dX10_minute_80 rfl rfl ?_
  refine g_aload_n C 3 dX10_minute_81 rfl rfl ?_
  refine g_aload C 4 dX10_minute_82 rfl ?_
  refine g_staU C [.int w0, .ref (base + v0), .ref (base + v1), .ref (base + v2), .ref (base + v3), .ref (base + v4)] dX10_minute_84 cl_X10_30 cs_X10_split rfl rfl ⟨Nat.le_of_ble_eq_true rfl, Nat.le_of_ble_eq_true rfl⟩ (Nat.le_of_ble_eq_true rfl) ⟨Nat.le_of_ble_eq_true rfl, Nat.le_of_ble_eq_true rfl⟩ rfl (fun r' h' E => o_X10_split l base D cA w0 v0 v1 v2 v3 v4 h r' h' E) E (fun x1 h2 E => ?_)
  refine g_aload C 4 dX10_minute_87 rfl ?_
  refine g_iconst C 0 dX10_minute_89 rfl ?_
  refine g_iald C dX10_minute_90 E (fun x3 E => ?_)
  refine g_aload C 4 dX10_minute_91 rfl ?_
  refine g_iconst C 1 dX10_minute_93 rfl ?_
  refine g_iald C dX10_minute_94 E (fun x4 E => ?_)
  refine g_iadd C dX10_minute_95 ?_
  refine g_aload C 4 dX10_minute_96 rfl ?_
  refine g_iconst C 2 dX10_minute_98 rfl ?_
  refine g_iald C dX10_minute_99 E (fun x5 E => ?_)
  refine g_iadd C dX10_minute_100 ?_
  refine g_istore C (lv' := [(5, .int ((x3 + x4) + x5)), (0, .ref (base + v0)), (1, .ref (base + v1)), (2, .ref (base + v2)), (3, .ref (base + v3)), (4, .ref (base + v4))]) dX10_minute_101 (by decide) rfl ?_
  refine g_aload_n C 1 dX10_minute_103 rfl rfl ?_
  refine g_bipush C 6 dX10_minute_104 rfl ?_
  refine g_dup2 C dX10_minute_106 rfl rfl ?_
  refine g_iald C dX10_minute_107 E (fun x6 E => ?_)
  refine g_iload C 0 dX10_minute_108 rfl ?_
  refine g_isub C dX10_minute_110 ?_
  refine g_iast C dX10_minute_111 E (fun h7 E => ?_)
  refine g_aload_n C 1 dX10_minute_112 rfl rfl ?_
  refine g_bipush C 12 dX10_minute_113 rfl ?_
  refine g_dup2 C dX10_minute_115 rfl rfl ?_
  refine g_iald C dX10_minute_116 E (fun x8 E => ?_)
  refine g_iload C 0 dX10_minute_117 rfl ?_
  refine g_iadd C dX10_minute_119 ?_
  refine g_iast C dX10_minute_120 E (fun h9 E => ?_)
  refine g_iconst C 0 dX10_minute_121 rfl ?_
  refine g_istore C (lv' := [(7, .int 0), (5, .int ((x3 + x4) + x5)), (0, .ref (base + v0)), (1, .ref (base + v1)), (2, .ref (base + v2)), (3, .ref (base + v3)), (4, .ref (base + v4))]) dX10_minute_122 (by decide) rfl ?_
  refine g_sub (lv' := [(0, .ref (base + v0)), (1, .ref (base + v1)), (2, .ref (base + v2)), (3, .ref (base + v3)), (4, .ref (base + v4)), (5, .int ((x3 + x4) + x5)), (7, .int 0)]) [2, 3, 4, 5, 6, 1, 0] rfl ?_
  refine o_X10_minute_L124 C hr ?_ _ v0 v1 v2 v3 v4 ((x3 + x4) + x5) 0 h9 E
  · intro y10 y11 y12 y13 h14 E
    refine g_goto C 189 dX10_minute_178 (by decide) ?_
    refine g_iconst C 0 dX10_minute_189 rfl ?_
    refine g_istore C (lv' := [(6, .int 0), (0, .ref (base + y10)), (1, .ref (base + y11)), (3, .ref (base + y12)), (5, .int y13)]) dX10_minute_190 (by decide) rfl ?_
    refine g_sub (lv' := [(0, .ref (base + y10)), (1, .ref (base + y11)), (3, .ref (base + y12)), (5, .int y13), (6, .int 0)]) [1, 2, 3, 4, 0] rfl ?_
    refine o_X10_minute_L192 C hr ?_ _ y10 y11 y12 y13 0 h14 E
    · intro y15 y16 y17 h18 E
      refine g_iconst C 0 dX10_minute_323 rfl ?_
      refine g_istore C (lv' := [(6, .int 0), (0, .ref (base + y15)), (3, .ref (base + y16)), (5, .int y17)]) dX10_minute_324 (by decide) rfl ?_
      refine g_iconst C 0 dX10_minute_326 rfl ?_
      refine g_istore C (lv' := [(7, .int 0), (6, .int 0), (0, .ref (base + y15)), (3, .ref (base + y16)), (5, .int y17)]) dX10_minute_327 (by decide) rfl ?_
      refine g_sub (lv' := [(0, .ref (base + y15)), (3, .ref (base + y16)), (5, .int y17), (6, .int 0), (7, .int 0)]) [2, 3, 4, 1, 0] rfl ?_
      exact o_X10_minute_L329 C hr _ y15 y16 y17 0 0 h18 E
set_option maxRecDepth 100000 in
set_option maxHeartbeats 4000000 in
theorem o_X10_minute_J38 {l : Launch} {base : Nat} {D : va_G} {cA : Nat → ClassId} {p : Program} {e : Env} {s : State} {m : MethodId} {args : Array Value} {below : List Frame} {meth : Method} {c : Code} (C : GC base D cA p s m args meth c cX10_minute 9 RX10) (hr : meth.sig.returnType = (some .int)) {X : Int32 × Hp} : ∀ (v0 : Nat) (v1 : Nat) (v2 : Nat) (v3 : Nat) (v4 : Nat) (w0 : Int32) (h : Hp), s_X10_minute_J38 v0 v1 v2 v3 v4 w0 h = some X → GW base D cA p l e rm_X10_minute s m args below meth c (MQ below (QcI base D cA X.1 X.2) args s 1 3 (AA base)) 9 h 0 0 38 [(0, .ref (base + v0)), (1, .ref (base + v1)), (2, .ref (base + v2)), (3, .ref (base + v3)), (4, .ref (base + v4))] [.int w0] := by
  intro v0 v1 v2 v3 v4 w0 h E
  unfold s_X10_minute_J38 at E
  refine g_istore C (lv' := [(6, .int w0), (0, .ref (base + v0)), (1, .ref (base + v1)), (2, .ref (base + v2)), (3, .ref (base + v3)), (4, .ref (base + v4))]) dX10_minute_38 (by decide) rfl ?_
  refine g_aload_n C 1 dX10_minute_40 rfl rfl ?_
  refine g_bipush C 6 dX10_minute_41 rfl ?_
  refine g_dup2 C dX10_minute_43 rfl rfl ?_
  refine g_iald C dX10_minute_44 E (fun x1 E => ?_)
  refine g_iload C 0 dX10_minute_45 rfl ?_
  refine g_iadd C dX10_minute_47 ?_
  refine g_iast C dX10_minute_48 E (fun h2 E => ?_)
  refine g_aload_n C 1 dX10_minute_49 rfl rfl ?_
  refine g_bipush C 11 dX10_minute_50 rfl ?_
  refine g_dup2 C dX10_minute_52 rfl rfl ?_
  refine g_iald C dX10_minute_53 E (fun x3 E => ?_)
  refine g_iload C 0 dX10_minute_54 rfl ?_
  refine g_iadd C dX10_minute_56 ?_
  refine g_iast C dX10_minute_57 E (fun h4 E => ?_)
  refine g_aload_n C 1 dX10_minute_58 rfl rfl ?_
  refine g_iconst C 4 dX10_minute_59 rfl ?_
  refine g_iald C dX10_minute_60 E (fun x5 E => ?_)
  refine g_aload_n C 1 dX10_minute_61 rfl rfl ?_
  refine g_bipush C 6 dX10_minute_62 rfl ?_
  refine g_iald C dX10_minute_64 E (fun x6 E => ?_)
  refine g_icmp_ge C 74 dX10_minute_65 (by decide) E (fun E => ?_) (fun E => ?_)
  · refine g_aload_n C 1 dX10_minute_74 rfl rfl ?_
    refine g_bipush C 6 dX10_minute_75 rfl ?_
    refine g_iald C dX10_minute_77 E (fun x7 E => ?_)
    refine g_sub (lv' := [(0, .ref (base + v0)), (1, .ref (base + v1)), (2, .ref (base + v2)), (3, .ref (base + v3)), (4, .ref (base + v4))]) [1, 2, 3, 4, 5] rfl ?_
    exact o_X10_minute_J78 C hr v0 v1 v2 v3 v4 x7 h4 E
  · refine g_aload_n C 1 dX10_minute_68 rfl rfl ?_
    refine g_iconst C 4 dX10_minute_69 rfl ?_
    refine g_iald C dX10_minute_70 E (fun x8 E => ?_)
    refine g_goto C 78 dX10_minute_71 (by decide) ?_
    refine g_sub (lv' := [(0, .ref (base + v0)), (1, .ref (base + v1)), (2, .ref (base + v2)), (3, .ref (base + v3)), (4, .ref (base + v4))]) [1, 2, 3, 4, 5] rfl ?_
    exact o_X10_minute_J78 C hr v0 v1 v2 v3 v4 x8 h4 E
set_option maxRecDepth 100000 in
set_option maxHeartbeats 4000000 in
theorem o_X10_minute (l : Launch) (base : Nat) (D : va_G) (cA : Nat → ClassId) (a0 : Nat) (a1 : Nat) (a2 : Nat) (a3 : Nat) (a4 : Nat) (h : Hp) (r : Int32) (h' : Hp) (E : s_X10_minute a0 a1 a2 a3 a4 h = some (r, h')) : Met l yX10_minute (.code yX10_minute cX10_minute 9 (some .int) :: wsA) rm_X10_minute (PcG base D cA [.ref (base + a0), .ref (base + a1), .ref (base + a2), .ref (base + a3), .ref (base + a4)] h) (QcI base D cA r h') 1 3 (AA base) := by
  refine g_met [.ref (base + a0), .ref (base + a1), .ref (base + a2), .ref (base + a3), .ref (base + a4)] (by decide) (Nat.le_of_ble_eq_true rfl) (fun p e s m args below meth c C hr hn => ?_)
  refine g_lv (lv' := [(0, .ref (base + a0)), (1, .ref (base + a1)), (2, .ref (base + a2)), (3, .ref (base + a3)), (4, .ref (base + a4))]) rfl ?_
  unfold s_X10_minute at E
  refine g_iconst C 0 dX10_minute_0 rfl ?_
  refine g_istore C (lv' := [(5, .int 0), (0, .ref (base + a0)), (1, .ref (base + a1)), (2, .ref (base + a2)), (3, .ref (base + a3)), (4, .ref (base + a4))]) dX10_minute_1 (by decide) rfl ?_
  refine g_aload_n C 1 dX10_minute_3 rfl rfl ?_
  refine g_iconst C 1 dX10_minute_4 rfl ?_
  refine g_iald C dX10_minute_5 E (fun x1 E => ?_)
  refine g_iconst C 1 dX10_minute_6 rfl ?_
  refine g_icmp_ne C 181 dX10_minute_7 (by decide) E (fun E => ?_) (fun E => ?_)
  · refine g_aload_n C 1 dX10_minute_181 rfl rfl ?_
    refine g_bipush C 10 dX10_minute_182 rfl ?_
    refine g_dup2 C dX10_minute_184 rfl rfl ?_
    refine g_iald C dX10_minute_185 E (fun x2 E => ?_)
    refine g_iconst C 1 dX10_minute_186 rfl ?_
    refine g_iadd C dX10_minute_187 ?_
    refine g_iast C dX10_minute_188 E (fun h3 E => ?_)
    refine g_iconst C 0 dX10_minute_189 rfl ?_
    refine g_istore C (lv' := [(6, .int 0), (5, .int 0), (0, .ref (base + a0)), (1, .ref (base + a1)), (2, .ref (base + a2)), (3, .ref (base + a3)), (4, .ref (base + a4))]) dX10_minute_190 (by decide) rfl ?_
    refine g_sub (lv' := [(0, .ref (base + a0)), (1, .ref (base + a1)), (3, .ref (base + a3)), (5, .int 0), (6, .int 0)]) [2, 3, 5, 1, 0] rfl ?_
    refine g_widen (1) (3) (by decide) (by decide) ?_
    refine o_X10_minute_L192 C hr ?_ _ a0 a1 a3 0 0 h3 E
    · intro y4 y5 y6 h7 E
      refine g_iconst C 0 dX10_minute_323 rfl ?_
      refine g_istore C (lv' := [(6, .int 0), (0, .ref (base + y4)), (3, .ref (base + y5)), (5, .int y6)]) dX10_minute_324 (by decide) rfl ?_
      refine g_iconst C 0 dX10_minute_326 rfl ?_
      refine g_istore C (lv' := [(7, .int 0), (6, .int 0), (0, .ref (base + y4)), (3, .ref (base + y5)), (5, .int y6)]) dX10_minute_327 (by decide) rfl ?_
      refine g_sub (lv' := [(0, .ref (base + y4)), (3, .ref (base + y5)), (5, .int y6), (6, .int 0), (7, .int 0)]) [2, 3, 4, 1, 0] rfl ?_
      exact o_X10_minute_L329 C hr _ y4 y5 y6 0 0 h7 E
  · refine g_aload_n C 1 dX10_minute_10 rfl rfl ?_
    refine g_bipush C 6 dX10_minute_11 rfl ?_
    refine g_iald C dX10_minute_13 E (fun x8 E => ?_)
    refine g_aload_n C 1 dX10_minute_14 rfl rfl ?_
    refine g_iconst C 3 dX10_minute_15 rfl ?_
    refine g_iald C dX10_minute_16 E (fun x9 E => ?_)
    refine g_iadd C dX10_minute_17 ?_
    refine g_aload_n C 1 dX10_minute_18 rfl rfl ?_
    refine g_iconst C 2 dX10_minute_19 rfl ?_
    refine g_iald C dX10_minute_20 E (fun x10 E => ?_)
    refine g_icmp_le C 35 dX10_minute_21 (by decide) E (fun E => ?_) (fun E => ?_)
    · refine g_aload_n C 1 dX10_minute_35 rfl rfl ?_
      refine g_iconst C 3 dX10_minute_36 rfl ?_
      refine g_iald C dX10_minute_37 E (fun x11 E => ?_)
      refine g_sub (lv' := [(0, .ref (base + a0)), (1, .ref (base + a1)), (2, .ref (base + a2)), (3, .ref (base + a3)), (4, .ref (base + a4))]) [1, 2, 3, 4, 5] rfl ?_
      exact o_X10_minute_J38 C hr a0 a1 a2 a3 a4 x11 h E
    · refine g_aload_n C 1 dX10_minute_24 rfl rfl ?_
      refine g_iconst C 2 dX10_minute_25 rfl ?_
      refine g_iald C dX10_minute_26 E (fun x12 E => ?_)
      refine g_aload_n C 1 dX10_minute_27 rfl rfl ?_
      refine g_bipush C 6 dX10_minute_28 rfl ?_
      refine g_iald C dX10_minute_30 E (fun x13 E => ?_)
      refine g_isub C dX10_minute_31 ?_
      refine g_goto C 38 dX10_minute_32 (by decide) ?_
      refine g_sub (lv' := [(0, .ref (base + a0)), (1, .ref (base + a1)), (2, .ref (base + a2)), (3, .ref (base + a3)), (4, .ref (base + a4))]) [1, 2, 3, 4, 5] rfl ?_
      exact o_X10_minute_J38 C hr a0 a1 a2 a3 a4 (x12 - x13) h E
