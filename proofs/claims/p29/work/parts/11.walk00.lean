abbrev rm_X0_init : Room := { frames := 1, cells := 3, slots := 24, locals := 12 }
def s_X0_init (a0 : Nat) (h : Hp) : Rv Unit :=
  newA h 20 8 8 fun x1 h =>
  putR h a0 0 0 x1 fun h =>
  newA h 20 8 8 fun x2 h =>
  putR h a0 0 1 x2 fun h =>
  newA h 20 8 8 fun x3 h =>
  putR h a0 0 2 x3 fun h =>
  retU h
set_option maxRecDepth 100000 in
set_option maxHeartbeats 4000000 in
theorem o_X0_init (l : Launch) (base : Nat) (D : va_G) (cA : Nat → ClassId) (a0 : Nat) (h : Hp) (r : Unit) (h' : Hp) (E : s_X0_init a0 h = some (r, h')) : Met l yX0_init (.code yX0_init cX0_init 1 none :: wsA) rm_X0_init (PcG base D cA [.ref (base + a0)] h) (QcU base D cA h') 3 24 (AA base) := by
  refine g_met [.ref (base + a0)] (by decide) (Nat.le_of_ble_eq_true rfl) (fun p e s m args below meth c C hr hn => ?_)
  refine g_lv (lv' := [(0, .ref (base + a0))]) rfl ?_
  unfold s_X0_init at E
  refine g_aload_n C 0 dX0_init_0 rfl rfl ?_
  refine g_obj C dX0_init_1 (in_wsA 234 (by decide +kernel) rfl) (ob_w2) (ob_w3) (Nat.le_of_ble_eq_true rfl) (Nat.le_of_ble_eq_true rfl) ?_
  refine g_aload_n C 0 dX0_init_4 rfl rfl ?_
  refine g_bipush C 8 dX0_init_5 rfl ?_
  refine g_newa C (ty := .int) (cap := 8) 0 (by decide) (by decide) rfl rfl (fun _ _ => rfl) rfl (in_wsA 57 (by decide +kernel) rfl) (by decide) (Nat.le_of_ble_eq_true rfl) (Nat.le_of_ble_eq_true rfl) dX0_init_7 E (fun x1 h2 E => ?_)
  refine g_putR C true dX0_init_9 fl_X0_9 ⟨rfl, rfl⟩ fp_X0_0_0 (fun _ => hn) rfl E (fun h3 E => ?_)
  refine g_aload_n C 0 dX0_init_12 rfl rfl ?_
  refine g_bipush C 8 dX0_init_13 rfl ?_
  refine g_newa C (ty := .int) (cap := 8) 0 (by decide) (by decide) rfl rfl (fun _ _ => rfl) rfl (in_wsA 57 (by decide +kernel) rfl) (by decide) (Nat.le_of_ble_eq_true rfl) (Nat.le_of_ble_eq_true rfl) dX0_init_15 E (fun x4 h5 E => ?_)
  refine g_putR C true dX0_init_17 fl_X0_15 ⟨rfl, rfl⟩ fp_X0_0_1 (fun _ => hn) rfl E (fun h6 E => ?_)
  refine g_aload_n C 0 dX0_init_20 rfl rfl ?_
  refine g_bipush C 8 dX0_init_21 rfl ?_
  refine g_newa C (ty := .int) (cap := 8) 0 (by decide) (by decide) rfl rfl (fun _ _ => rfl) rfl (in_wsA 57 (by decide +kernel) rfl) (by decide) (Nat.le_of_ble_eq_true rfl) (Nat.le_of_ble_eq_true rfl) dX0_init_23 E (fun x7 h8 E => ?_)
  refine g_putR C true dX0_init_25 fl_X0_18 ⟨rfl, rfl⟩ fp_X0_0_2 (fun _ => hn) rfl E (fun h9 E => ?_)
  exact g_vret C dX0_init_28 hr E
abbrev rm_X0_isWanting : Room := { frames := 0, cells := 0, slots := 0, locals := 0 }
def s_X0_isWanting (a0 : Nat) (a1 : Int32) (h : Hp) : Rv Int32 :=
  getR h a0 0 2 fun x1 =>
  ldI h x1 20 a1 fun x2 =>
  getR h a0 0 0 fun x3 =>
  ldI h x3 20 a1 fun x4 =>
  if x4 ≤ x2 then retZ 0 h
  else retZ 1 h
set_option maxRecDepth 100000 in
set_option maxHeartbeats 4000000 in
theorem o_X0_isWanting (l : Launch) (base : Nat) (D : va_G) (cA : Nat → ClassId) (a0 : Nat) (a1 : Int32) (h : Hp) (r : Int32) (h' : Hp) (E : s_X0_isWanting a0 a1 h = some (r, h')) : Met l yX0_isWanting (.code yX0_isWanting cX0_isWanting 2 (some .boolean) :: wsA) rm_X0_isWanting (PcG base D cA [.ref (base + a0), .int a1] h) (QcI base D cA r h') 0 0 (AA base) := by
  refine g_met [.ref (base + a0), .int a1] (by decide) (Nat.le_of_ble_eq_true rfl) (fun p e s m args below meth c C hr hn => ?_)
  refine g_lv (lv' := [(0, .ref (base + a0)), (1, .int a1)]) rfl ?_
  unfold s_X0_isWanting at E
  refine g_aload_n C 0 dX0_isWanting_0 rfl rfl ?_
  refine g_getR C dX0_isWanting_1 fl_X0_18 rfl E (fun x1 E => ?_)
  refine g_iload_n C 1 dX0_isWanting_4 rfl rfl ?_
  refine g_iald C dX0_isWanting_5 E (fun x2 E => ?_)
  refine g_aload_n C 0 dX0_isWanting_6 rfl rfl ?_
  refine g_getR C dX0_isWanting_7 fl_X0_9 rfl E (fun x3 E => ?_)
  refine g_iload_n C 1 dX0_isWanting_10 rfl rfl ?_
  refine g_iald C dX0_isWanting_11 E (fun x4 E => ?_)
  refine g_icmp_ge C 19 dX0_isWanting_12 (by decide) E (fun E => ?_) (fun E => ?_)
  · refine g_iconst C 0 dX0_isWanting_19 rfl ?_
    exact g_zret C dX0_isWanting_20 hr E
  · refine g_iconst C 1 dX0_isWanting_15 rfl ?_
    refine g_goto C 20 dX0_isWanting_16 (by decide) ?_
    exact g_zret C dX0_isWanting_20 hr E
abbrev rm_X0_lowestWanting : Room := { frames := 1, cells := 0, slots := 0, locals := 21 }
def s_X0_lowestWanting_L2 : Nat → Nat → Int32 → Hp → Rv Int32
  | 0, _, _, _ => none
  | n + 1, v0, v1, h =>
    if 8 ≤ v1 then retI (-5) h
  else inv h v0 0 (s_X0_isWanting v0 v1 h) fun x1 h =>
  if x1 = 0 then s_X0_lowestWanting_L2 n v0 (v1 + 1) h
  else retI v1 h
def s_X0_lowestWanting (a0 : Nat) (h : Hp) : Rv Int32 :=
  s_X0_lowestWanting_L2 100000 a0 0 h
set_option maxRecDepth 100000 in
set_option maxHeartbeats 4000000 in
theorem o_X0_lowestWanting_L2 {l : Launch} {base : Nat} {D : va_G} {cA : Nat → ClassId} {p : Program} {e : Env} {s : State} {m : MethodId} {args : Array Value} {below : List Frame} {meth : Method} {c : Code} (C : GC base D cA p s m args meth c cX0_lowestWanting 2 RX0) (hr : meth.sig.returnType = (some .int)) {X : Int32 × Hp} : ∀ (n : Nat) (v0 : Nat) (v1 : Int32) (h : Hp), s_X0_lowestWanting_L2 n v0 v1 h = some X → GW base D cA p l e rm_X0_lowestWanting s m args below meth c (MQ below (QcI base D cA X.1 X.2) args s 0 0 (AA base)) 2 h 0 0 2 [(0, .ref (base + v0)), (1, .int v1)] [] := by
  intro n
  induction n with
  | zero =>
    intro v0 v1 h E
    rw [s_X0_lowestWanting_L2] at E
    cases E
  | succ n ih =>
    intro v0 v1 h E
    rw [s_X0_lowestWanting_L2] at E
    refine g_iload_n C 1 dX0_lowestWanting_2 rfl rfl ?_
    refine g_bipush C 8 dX0_lowestWanting_3 rfl ?_
    refine g_icmp_ge C 24 dX0_lowestWanting_5 (by decide) E (fun E => ?_) (fun E => ?_)
    · refine g_bipush C (-5) dX0_lowestWanting_24 rfl ?_
      exact g_iret C dX0_lowestWanting_26 hr E
    · refine g_aload_n C 0 dX0_lowestWanting_8 rfl rfl ?_
      refine g_iload_n C 1 dX0_lowestWanting_9 rfl rfl ?_
      refine g_invI C (q := (RX0, TX0, 3)) [.int v1] dX0_lowestWanting_10 cl_X0_36 cv_X0_isWanting rfl (by decide) rfl rfl ⟨Nat.le_of_ble_eq_true rfl, Nat.le_of_ble_eq_true rfl⟩ (Nat.le_of_ble_eq_true rfl) ⟨Nat.le_of_ble_eq_true rfl, Nat.le_of_ble_eq_true rfl⟩ rfl (fun r' h' E => o_X0_isWanting l base D cA v0 v1 h r' h' E) E (fun x1 h2 E => ?_)
      refine g_if_eq C 18 dX0_lowestWanting_13 (by decide) E (fun E => ?_) (fun E => ?_)
      · refine g_iinc C (lv' := [(1, .int (v1 + 1)), (0, .ref (base + v0))]) 1 1 dX0_lowestWanting_18 rfl rfl (by decide) rfl ?_
        refine g_goto C 2 dX0_lowestWanting_21 (by decide) ?_
        refine g_sub (lv' := [(0, .ref (base + v0)), (1, .int (v1 + 1))]) [1, 0] rfl ?_
        exact ih v0 (v1 + 1) h2 E
      · refine g_iload_n C 1 dX0_lowestWanting_16 rfl rfl ?_
        exact g_iret C dX0_lowestWanting_17 hr E
set_option maxRecDepth 100000 in
set_option maxHeartbeats 4000000 in
theorem o_X0_lowestWanting (l : Launch) (base : Nat) (D : va_G) (cA : Nat → ClassId) (a0 : Nat) (h : Hp) (r : Int32) (h' : Hp) (E : s_X0_lowestWanting a0 h = some (r, h')) : Met l yX0_lowestWanting (.code yX0_lowestWanting cX0_lowestWanting 2 (some .int) :: wsA) rm_X0_lowestWanting (PcG base D cA [.ref (base + a0)] h) (QcI base D cA r h') 0 0 (AA base) := by
  refine g_met [.ref (base + a0)] (by decide) (Nat.le_of_ble_eq_true rfl) (fun p e s m args below meth c C hr hn => ?_)
  refine g_lv (lv' := [(0, .ref (base + a0))]) rfl ?_
  unfold s_X0_lowestWanting at E
  refine g_iconst C 0 dX0_lowestWanting_0 rfl ?_
  refine g_istore_n C (lv' := [(1, .int 0), (0, .ref (base + a0))]) dX0_lowestWanting_1 rfl (by decide) rfl ?_
  refine g_sub (lv' := [(0, .ref (base + a0)), (1, .int 0)]) [1, 0] rfl ?_
  exact o_X0_lowestWanting_L2 C hr _ a0 0 h E
abbrev rm_X0_sharesOfWanting : Room := { frames := 1, cells := 0, slots := 0, locals := 21 }
def s_X0_sharesOfWanting_L4 : Nat → Nat → Int32 → Int32 → Hp → Rv Int32
  | 0, _, _, _, _ => none
  | n + 1, v0, v1, v2, h =>
    if 8 ≤ v2 then retI v1 h
  else inv h v0 0 (s_X0_isWanting v0 v2 h) fun x1 h =>
  if x1 = 0 then s_X0_sharesOfWanting_L4 n v0 (v1 + 0) (v2 + 1) h
  else getR h v0 0 1 fun x2 =>
  ldI h x2 20 v2 fun x3 =>
  s_X0_sharesOfWanting_L4 n v0 (v1 + x3) (v2 + 1) h
def s_X0_sharesOfWanting (a0 : Nat) (h : Hp) : Rv Int32 :=
  s_X0_sharesOfWanting_L4 100000 a0 0 0 h
set_option maxRecDepth 100000 in
set_option maxHeartbeats 4000000 in
theorem o_X0_sharesOfWanting_L4 {l : Launch} {base : Nat} {D : va_G} {cA : Nat → ClassId} {p : Program} {e : Env} {s : State} {m : MethodId} {args : Array Value} {below : List Frame} {meth : Method} {c : Code} (C : GC base D cA p s m args meth c cX0_sharesOfWanting 3 RX0) (hr : meth.sig.returnType = (some .int)) {X : Int32 × Hp} : ∀ (n : Nat) (v0 : Nat) (v1 : Int32) (v2 : Int32) (h : Hp), s_X0_sharesOfWanting_L4 n v0 v1 v2 h = some X → GW base D cA p l e rm_X0_sharesOfWanting s m args below meth c (MQ below (QcI base D cA X.1 X.2) args s 0 0 (AA base)) 3 h 0 0 4 [(0, .ref (base + v0)), (1, .int v1), (2, .int v2)] [] := by
  intro n
  induction n with
  | zero =>
    intro v0 v1 v2 h E
    rw [s_X0_sharesOfWanting_L4] at E
    cases E
  | succ n ih =>
    intro v0 v1 v2 h E
    rw [s_X0_sharesOfWanting_L4] at E
    refine g_iload_n C 2 dX0_sharesOfWanting_4 rfl rfl ?_
    refine g_bipush C 8 dX0_sharesOfWanting_5 rfl ?_
    refine g_icmp_ge C 37 dX0_sharesOfWanting_7 (by decide) E (fun E => ?_) (fun E => ?_)
    · refine g_iload_n C 1 dX0_sharesOfWanting_37 rfl rfl ?_
      exact g_iret C dX0_sharesOfWanting_38 hr E
    · refine g_iload_n C 1 dX0_sharesOfWanting_10 rfl rfl ?_
      refine g_aload_n C 0 dX0_sharesOfWanting_11 rfl rfl ?_
      refine g_iload_n C 2 dX0_sharesOfWanting_12 rfl rfl ?_
      refine g_invI C (q := (RX0, TX0, 3)) [.int v2] dX0_sharesOfWanting_13 cl_X0_36 cv_X0_isWanting rfl (by decide) rfl rfl ⟨Nat.le_of_ble_eq_true rfl, Nat.le_of_ble_eq_true rfl⟩ (Nat.le_of_ble_eq_true rfl) ⟨Nat.le_of_ble_eq_true rfl, Nat.le_of_ble_eq_true rfl⟩ rfl (fun r' h' E => o_X0_isWanting l base D cA v0 v2 h r' h' E) E (fun x1 h2 E => ?_)
      refine g_if_eq C 28 dX0_sharesOfWanting_16 (by decide) E (fun E => ?_) (fun E => ?_)
      · refine g_iconst C 0 dX0_sharesOfWanting_28 rfl ?_
        refine g_iadd C dX0_sharesOfWanting_29 ?_
        refine g_istore_n C (lv' := [(1, .int (v1 + 0)), (0, .ref (base + v0)), (2, .int v2)]) dX0_sharesOfWanting_30 rfl (by decide) rfl ?_
        refine g_iinc C (lv' := [(2, .int (v2 + 1)), (1, .int (v1 + 0)), (0, .ref (base + v0))]) 2 1 dX0_sharesOfWanting_31 rfl rfl (by decide) rfl ?_
        refine g_goto C 4 dX0_sharesOfWanting_34 (by decide) ?_
        refine g_sub (lv' := [(0, .ref (base + v0)), (1, .int (v1 + 0)), (2, .int (v2 + 1))]) [2, 1, 0] rfl ?_
        exact ih v0 (v1 + 0) (v2 + 1) h2 E
      · refine g_aload_n C 0 dX0_sharesOfWanting_19 rfl rfl ?_
        refine g_getR C dX0_sharesOfWanting_20 fl_X0_15 rfl E (fun x3 E => ?_)
        refine g_iload_n C 2 dX0_sharesOfWanting_23 rfl rfl ?_
        refine g_iald C dX0_sharesOfWanting_24 E (fun x4 E => ?_)
        refine g_goto C 29 dX0_sharesOfWanting_25 (by decide) ?_
        refine g_iadd C dX0_sharesOfWanting_29 ?_
        refine g_istore_n C (lv' := [(1, .int (v1 + x4)), (0, .ref (base + v0)), (2, .int v2)]) dX0_sharesOfWanting_30 rfl (by decide) rfl ?_
        refine g_iinc C (lv' := [(2, .int (v2 + 1)), (1, .int (v1 + x4)), (0, .ref (base + v0))]) 2 1 dX0_sharesOfWanting_31 rfl rfl (by decide) rfl ?_
        refine g_goto C 4 dX0_sharesOfWanting_34 (by decide) ?_
        refine g_sub (lv' := [(0, .ref (base + v0)), (1, .int (v1 + x4)), (2, .int (v2 + 1))]) [2, 1, 0] rfl ?_
        exact ih v0 (v1 + x4) (v2 + 1) h2 E
set_option maxRecDepth 100000 in
set_option maxHeartbeats 4000000 in
theorem o_X0_sharesOfWanting (l : Launch) (base : Nat) (D : va_G) (cA : Nat → ClassId) (a0 : Nat) (h : Hp) (r : Int32) (h' : Hp) (E : s_X0_sharesOfWanting a0 h = some (r, h')) : Met l yX0_sharesOfWanting (.code yX0_sharesOfWanting cX0_sharesOfWanting 3 (some .int) :: wsA) rm_X0_sharesOfWanting (PcG base D cA [.ref (base + a0)] h) (QcI base D cA r h') 0 0 (AA base) := by
  refine g_met [.ref (base + a0)] (by decide) (Nat.le_of_ble_eq_true rfl) (fun p e s m args below meth c C hr hn => ?_)
  refine g_lv (lv' := [(0, .ref (base + a0))]) rfl ?_
  unfold s_X0_sharesOfWanting at E
  refine g_iconst C 0 dX0_sharesOfWanting_0 rfl ?_
  refine g_istore_n C (lv' := [(1, .int 0), (0, .ref (base + a0))]) dX0_sharesOfWanting_1 rfl (by decide) rfl ?_
  refine g_iconst C 0 dX0_sharesOfWanting_2 rfl ?_
  refine g_istore_n C (lv' := [(2, .int 0), (1, .int 0), (0, .ref (base + a0))]) dX0_sharesOfWanting_3 rfl (by decide) rfl ?_
  refine g_sub (lv' := [(0, .ref (base + a0)), (1, .int 0), (2, .int 0)]) [2, 1, 0] rfl ?_
  exact o_X0_sharesOfWanting_L4 C hr _ a0 0 0 h E
abbrev rm_X0_giveParts : Room := { frames := 1, cells := 0, slots := 0, locals := 13 }
def s_X0_giveParts_L5 : Nat → Nat → Int32 → Int32 → Int32 → Int32 → Hp → Rv Int32
  | 0, _, _, _, _, _, _ => none
  | n + 1, v0, v1, v2, v3, v4, h =>
    if v2 ≤ 0 then retI v3 h
  else if 8 ≤ v4 then retI v3 h
  else getR h v0 0 1 fun x1 =>
  ldI h x1 20 v4 fun x2 =>
  divI (v1 * x2) v2 fun x3 =>
  getR h v0 0 0 fun x4 =>
  ldI h x4 20 v4 fun x5 =>
  getR h v0 0 2 fun x6 =>
  ldI h x6 20 v4 fun x7 =>
  getR h v0 0 2 fun x8 =>
  ldI h x8 20 v4 fun x9 =>
  stI h x8 20 v4 (x9 + (if (x5 - x7) < x3 then (x5 - x7) else x3)) fun h =>
  s_X0_giveParts_L5 n v0 v1 v2 (v3 + (if (x5 - x7) < x3 then (x5 - x7) else x3)) (v4 + 1) h
def s_X0_giveParts (a0 : Nat) (a1 : Int32) (a2 : Int32) (h : Hp) : Rv Int32 :=
  s_X0_giveParts_L5 100000 a0 a1 a2 0 0 h
set_option maxRecDepth 100000 in
set_option maxHeartbeats 4000000 in
theorem o_X0_giveParts_L5 {l : Launch} {base : Nat} {D : va_G} {cA : Nat → ClassId} {p : Program} {e : Env} {s : State} {m : MethodId} {args : Array Value} {below : List Frame} {meth : Method} {c : Code} (C : GC base D cA p s m args meth c cX0_giveParts 6 RX0) (hr : meth.sig.returnType = (some .int)) {X : Int32 × Hp} : ∀ (n : Nat) (v0 : Nat) (v1 : Int32) (v2 : Int32) (v3 : Int32) (v4 : Int32) (h : Hp), s_X0_giveParts_L5 n v0 v1 v2 v3 v4 h = some X → GW base D cA p l e rm_X0_giveParts s m args below meth c (MQ below (QcI base D cA X.1 X.2) args s 0 0 (AA base)) 6 h 0 0 5 [(0, .ref (base + v0)), (1, .int v1), (2, .int v2), (3, .int v3), (4, .int v4)] [] := by
  intro n
  induction n with
  | zero =>
    intro v0 v1 v2 v3 v4 h E
    rw [s_X0_giveParts_L5] at E
    cases E
  | succ n ih =>
    intro v0 v1 v2 v3 v4 h E
    rw [s_X0_giveParts_L5] at E
    refine g_iload_n C 2 dX0_giveParts_5 rfl rfl ?_
    refine g_if_le C 70 dX0_giveParts_6 (by decide) E (fun E => ?_) (fun E => ?_)
    · refine g_iload_n C 3 dX0_giveParts_70 rfl rfl ?_
      exact g_iret C dX0_giveParts_71 hr E
    · refine g_iload C 4 dX0_giveParts_9 rfl ?_
      refine g_bipush C 8 dX0_giveParts_11 rfl ?_
      refine g_icmp_ge C 70 dX0_giveParts_13 (by decide) E (fun E => ?_) (fun E => ?_)
      · refine g_iload_n C 3 dX0_giveParts_70 rfl rfl ?_
        exact g_iret C dX0_giveParts_71 hr E
      · refine g_iload_n C 1 dX0_giveParts_16 rfl rfl ?_
        refine g_aload_n C 0 dX0_giveParts_17 rfl rfl ?_
        refine g_getR C dX0_giveParts_18 fl_X0_15 rfl E (fun x1 E => ?_)
        refine g_iload C 4 dX0_giveParts_21 rfl ?_
        refine g_iald C dX0_giveParts_23 E (fun x2 E => ?_)
        refine g_imul C dX0_giveParts_24 ?_
        refine g_iload_n C 2 dX0_giveParts_25 rfl rfl ?_
        refine g_idiv C dX0_giveParts_26 E (fun x3 E => ?_)
        refine g_aload_n C 0 dX0_giveParts_27 rfl rfl ?_
        refine g_getR C dX0_giveParts_28 fl_X0_9 rfl E (fun x4 E => ?_)
        refine g_iload C 4 dX0_giveParts_31 rfl ?_
        refine g_iald C dX0_giveParts_33 E (fun x5 E => ?_)
        refine g_aload_n C 0 dX0_giveParts_34 rfl rfl ?_
        refine g_getR C dX0_giveParts_35 fl_X0_18 rfl E (fun x6 E => ?_)
        refine g_iload C 4 dX0_giveParts_38 rfl ?_
        refine g_iald C dX0_giveParts_40 E (fun x7 E => ?_)
        refine g_isub C dX0_giveParts_41 ?_
        refine g_mmin C dX0_giveParts_42 (in_wsA 435 (by decide +kernel) rfl) (in_wsA 413 (by decide +kernel) rfl) (in_wsA 11 (by decide +kernel) rfl) (in_wsA 414 (by decide +kernel) rfl) (Nat.le_of_ble_eq_true rfl) (Nat.le_of_ble_eq_true rfl) (Nat.le_of_ble_eq_true rfl) (Nat.le_of_ble_eq_true rfl) ?_
        refine g_istore C (lv' := [(5, .int (if (x5 - x7) < x3 then (x5 - x7) else x3)), (0, .ref (base + v0)), (1, .int v1), (2, .int v2), (3, .int v3), (4, .int v4)]) dX0_giveParts_45 (by decide) rfl ?_
        refine g_aload_n C 1 dX0_giveParts_47 rfl rfl ?_
        refine g_getR C dX0_giveParts_48 fl_X0_18 rfl E (fun x8 E => ?_)
        refine g_iload C 5 dX0_giveParts_51 rfl ?_
        refine g_dup2 C dX0_giveParts_53 rfl rfl ?_
        refine g_iald C dX0_giveParts_54 E (fun x9 E => ?_)
        refine g_iload C 0 dX0_giveParts_55 rfl ?_
        refine g_iadd C dX0_giveParts_57 ?_
        refine g_iast C dX0_giveParts_58 E (fun h10 E => ?_)
        refine g_iload_n C 4 dX0_giveParts_59 rfl rfl ?_
        refine g_iload C 0 dX0_giveParts_60 rfl ?_
        refine g_iadd C dX0_giveParts_62 ?_
        refine g_istore_n C (lv' := [(3, .int (v3 + (if (x5 - x7) < x3 then (x5 - x7) else x3))), (5, .int (if (x5 - x7) < x3 then (x5 - x7) else x3)), (0, .ref (base + v0)), (1, .int v1), (2, .int v2), (4, .int v4)]) dX0_giveParts_63 rfl (by decide) rfl ?_
        refine g_iinc C (lv' := [(4, .int (v4 + 1)), (3, .int (v3 + (if (x5 - x7) < x3 then (x5 - x7) else x3))), (5, .int (if (x5 - x7) < x3 then (x5 - x7) else x3)), (0, .ref (base + v0)), (1, .int v1), (2, .int v2)]) 5 1 dX0_giveParts_64 rfl rfl (by decide) rfl ?_
        refine g_goto C 5 dX0_giveParts_67 (by decide) ?_
        refine g_sub (lv' := [(0, .ref (base + v0)), (1, .int v1), (2, .int v2), (3, .int (v3 + (if (x5 - x7) < x3 then (x5 - x7) else x3))), (4, .int (v4 + 1))]) [3, 4, 5, 1, 0] rfl ?_
        exact ih v0 v1 v2 (v3 + (if (x5 - x7) < x3 then (x5 - x7) else x3)) (v4 + 1) h10 E
set_option maxRecDepth 100000 in
set_option maxHeartbeats 4000000 in
theorem o_X0_giveParts (l : Launch) (base : Nat) (D : va_G) (cA : Nat → ClassId) (a0 : Nat) (a1 : Int32) (a2 : Int32) (h : Hp) (r : Int32) (h' : Hp) (E : s_X0_giveParts a0 a1 a2 h = some (r, h')) : Met l yX0_giveParts (.code yX0_giveParts cX0_giveParts 6 (some .int) :: wsA) rm_X0_giveParts (PcG base D cA [.ref (base + a0), .int a1, .int a2] h) (QcI base D cA r h') 0 0 (AA base) := by
  refine g_met [.ref (base + a0), .int a1, .int a2] (by decide) (Nat.le_of_ble_eq_true rfl) (fun p e s m args below meth c C hr hn => ?_)
  refine g_lv (lv' := [(0, .ref (base + a0)), (1, .int a1), (2, .int a2)]) rfl ?_
  unfold s_X0_giveParts at E
  refine g_iconst C 0 dX0_giveParts_0 rfl ?_
  refine g_istore_n C (lv' := [(3, .int 0), (0, .ref (base + a0)), (1, .int a1), (2, .int a2)]) dX0_giveParts_1 rfl (by decide) rfl ?_
  refine g_iconst C 0 dX0_giveParts_2 rfl ?_
  refine g_istore C (lv' := [(4, .int 0), (3, .int 0), (0, .ref (base + a0)), (1, .int a1), (2, .int a2)]) dX0_giveParts_3 (by decide) rfl ?_
  refine g_sub (lv' := [(0, .ref (base + a0)), (1, .int a1), (2, .int a2), (3, .int 0), (4, .int 0)]) [2, 3, 4, 1, 0] rfl ?_
  exact o_X0_giveParts_L5 C hr _ a0 a1 a2 0 0 h E
abbrev rm_X0_giveLowest : Room := { frames := 1, cells := 0, slots := 0, locals := 13 }
def s_X0_giveLowest (a0 : Nat) (a1 : Int32) (a2 : Int32) (a3 : Int32) (h : Hp) : Rv Int32 :=
  if a3 ≤ 0 then getR h a0 0 0 fun x1 =>
  ldI h x1 20 a1 fun x2 =>
  getR h a0 0 2 fun x3 =>
  ldI h x3 20 a1 fun x4 =>
  getR h a0 0 2 fun x5 =>
  ldI h x5 20 a1 fun x6 =>
  stI h x5 20 a1 (x6 + (if (x2 - x4) < a2 then (x2 - x4) else a2)) fun h =>
  retI (if (x2 - x4) < a2 then (x2 - x4) else a2) h
  else getR h a0 0 2 fun x7 =>
  ldI h x7 20 a1 fun x8 =>
  stI h x7 20 a1 (x8 + 1) fun h =>
  retI 1 h
set_option maxRecDepth 100000 in
set_option maxHeartbeats 4000000 in
theorem o_X0_giveLowest (l : Launch) (base : Nat) (D : va_G) (cA : Nat → ClassId) (a0 : Nat) (a1 : Int32) (a2 : Int32) (a3 : Int32) (h : Hp) (r : Int32) (h' : Hp) (E : s_X0_giveLowest a0 a1 a2 a3 h = some (r, h')) : Met l yX0_giveLowest (.code yX0_giveLowest cX0_giveLowest 5 (some .int) :: wsA) rm_X0_giveLowest (PcG base D cA [.ref (base + a0), .int a1, .int a2, .int a3] h) (QcI base D cA r h') 0 0 (AA base) := by
  refine g_met [.ref (base + a0), .int a1, .int a2, .int a3] (by decide) (Nat.le_of_ble_eq_true rfl) (fun p e s m args below meth c C hr hn => ?_)
  refine g_lv (lv' := [(0, .ref (base + a0)), (1, .int a1), (2, .int a2), (3, .int a3)]) rfl ?_
  unfold s_X0_giveLowest at E
  refine g_iload_n C 3 dX0_giveLowest_0 rfl rfl ?_
  refine g_if_le C 8 dX0_giveLowest_1 (by decide) E (fun E => ?_) (fun E => ?_)
  · refine g_iload_n C 2 dX0_giveLowest_8 rfl rfl ?_
    refine g_aload_n C 0 dX0_giveLowest_9 rfl rfl ?_
    refine g_getR C dX0_giveLowest_10 fl_X0_9 rfl E (fun x1 E => ?_)
    refine g_iload_n C 1 dX0_giveLowest_13 rfl rfl ?_
    refine g_iald C dX0_giveLowest_14 E (fun x2 E => ?_)
    refine g_aload_n C 0 dX0_giveLowest_15 rfl rfl ?_
    refine g_getR C dX0_giveLowest_16 fl_X0_18 rfl E (fun x3 E => ?_)
    refine g_iload_n C 1 dX0_giveLowest_19 rfl rfl ?_
    refine g_iald C dX0_giveLowest_20 E (fun x4 E => ?_)
    refine g_isub C dX0_giveLowest_21 ?_
    refine g_mmin C dX0_giveLowest_22 (in_wsA 435 (by decide +kernel) rfl) (in_wsA 413 (by decide +kernel) rfl) (in_wsA 11 (by decide +kernel) rfl) (in_wsA 414 (by decide +kernel) rfl) (Nat.le_of_ble_eq_true rfl) (Nat.le_of_ble_eq_true rfl) (Nat.le_of_ble_eq_true rfl) (Nat.le_of_ble_eq_true rfl) ?_
    refine g_istore C (lv' := [(4, .int (if (x2 - x4) < a2 then (x2 - x4) else a2)), (0, .ref (base + a0)), (1, .int a1), (2, .int a2), (3, .int a3)]) dX0_giveLowest_25 (by decide) rfl ?_
    refine g_aload_n C 1 dX0_giveLowest_27 rfl rfl ?_
    refine g_getR C dX0_giveLowest_28 fl_X0_18 rfl E (fun x5 E => ?_)
    refine g_iload_n C 2 dX0_giveLowest_31 rfl rfl ?_
    refine g_dup2 C dX0_giveLowest_32 rfl rfl ?_
    refine g_iald C dX0_giveLowest_33 E (fun x6 E => ?_)
    refine g_iload C 0 dX0_giveLowest_34 rfl ?_
    refine g_iadd C dX0_giveLowest_36 ?_
    refine g_iast C dX0_giveLowest_37 E (fun h7 E => ?_)
    refine g_iload C 0 dX0_giveLowest_38 rfl ?_
    exact g_iret C dX0_giveLowest_40 hr E
  · refine g_iconst C 1 dX0_giveLowest_4 rfl ?_
    refine g_goto C 25 dX0_giveLowest_5 (by decide) ?_
    refine g_istore C (lv' := [(4, .int 1), (0, .ref (base + a0)), (1, .int a1), (2, .int a2), (3, .int a3)]) dX0_giveLowest_25 (by decide) rfl ?_
    refine g_aload_n C 1 dX0_giveLowest_27 rfl rfl ?_
    refine g_getR C dX0_giveLowest_28 fl_X0_18 rfl E (fun x8 E => ?_)
    refine g_iload_n C 2 dX0_giveLowest_31 rfl rfl ?_
    refine g_dup2 C dX0_giveLowest_32 rfl rfl ?_
    refine g_iald C dX0_giveLowest_33 E (fun x9 E => ?_)
    refine g_iload C 0 dX0_giveLowest_34 rfl ?_
    refine g_iadd C dX0_giveLowest_36 ?_
    refine g_iast C dX0_giveLowest_37 E (fun h10 E => ?_)
    refine g_iload C 0 dX0_giveLowest_38 rfl ?_
    exact g_iret C dX0_giveLowest_40 hr E
abbrev rm_X0_divide : Room := { frames := 2, cells := 0, slots := 0, locals := 43 }
def s_X0_divide_L2 (k21 : Nat → Int32 → Hp → Rv Unit) : Nat → Nat → Int32 → Int32 → Hp → Rv Unit
  | 0, _, _, _, _ => none
  | n + 1, v0, v1, v2, h =>
    if 8 ≤ v2 then k21 v0 v1 h
  else getR h v0 0 2 fun x1 =>
  stI h x1 20 v2 0 fun h =>
  s_X0_divide_L2 k21 n v0 v1 (v2 + 1) h
def s_X0_divide_L31 : Nat → Nat → Int32 → Int32 → Int32 → Hp → Rv Unit
  | 0, _, _, _, _, _ => none
  | n + 1, v0, v2, v3, v4, h =>
    if 2000 ≤ v4 then retU h
  else if v2 ≤ 0 then retU h
  else if v3 = (-5) then retU h
  else inv h v0 0 (s_X0_sharesOfWanting v0 h) fun x3 h =>
  inv h v0 0 (s_X0_giveParts v0 v2 x3 h) fun x4 h =>
  if x4 ≤ 0 then inv h v0 0 (s_X0_giveLowest v0 v3 v2 x3 h) fun x5 h =>
  inv h v0 0 (s_X0_lowestWanting v0 h) fun x6 h =>
  s_X0_divide_L31 n v0 (v2 - x5) x6 (v4 + 1) h
  else inv h v0 0 (s_X0_lowestWanting v0 h) fun x7 h =>
  s_X0_divide_L31 n v0 (v2 - x4) x7 (v4 + 1) h
def s_X0_divide (a0 : Nat) (a1 : Int32) (h : Hp) : Rv Unit :=
  s_X0_divide_L2 (fun y0 y1 h => inv h y0 0 (s_X0_lowestWanting y0 h) fun x2 h =>
  s_X0_divide_L31 100000 y0 y1 x2 0 h) 100000 a0 a1 0 h
set_option maxRecDepth 100000 in
set_option maxHeartbeats 4000000 in
theorem o_X0_divide_L2 {l : Launch} {base : Nat} {D : va_G} {cA : Nat → ClassId} {p : Program} {e : Env} {s : State} {m : MethodId} {args : Array Value} {below : List Frame} {meth : Method} {c : Code} (C : GC base D cA p s m args meth c cX0_divide 7 RX0) (hr : meth.sig.returnType = none) {X : Unit × Hp} {k21 : Nat → Int32 → Hp → Rv Unit} (K21 : ∀ (y0 : Nat) (y1 : Int32) (h : Hp), k21 y0 y1 h = some X → GW base D cA p l e rm_X0_divide s m args below meth c (MQ below (QcU base D cA X.2) args s 0 0 (AA base)) 7 h 0 0 21 [(0, .ref (base + y0)), (1, .int y1)] []) : ∀ (n : Nat) (v0 : Nat) (v1 : Int32) (v2 : Int32) (h : Hp), s_X0_divide_L2 k21 n v0 v1 v2 h = some X → GW base D cA p l e rm_X0_divide s m args below meth c (MQ below (QcU base D cA X.2) args s 0 0 (AA base)) 7 h 0 0 2 [(0, .ref (base + v0)), (1, .int v1), (2, .int v2)] [] := by
  intro n
  induction n with
  | zero =>
    intro v0 v1 v2 h E
    rw [s_X0_divide_L2] at E
    cases E
  | succ n ih =>
    intro v0 v1 v2 h E
    rw [s_X0_divide_L2] at E
    refine g_iload_n C 2 dX0_divide_2 rfl rfl ?_
    refine g_bipush C 8 dX0_divide_3 rfl ?_
    refine g_icmp_ge C 21 dX0_divide_5 (by decide) E (fun E => ?_) (fun E => ?_)
    · refine g_sub (lv' := [(0, .ref (base + v0)), (1, .int v1)]) [0, 1] rfl ?_
      exact K21 v0 v1 h E
    · refine g_aload_n C 0 dX0_divide_8 rfl rfl ?_
      refine g_getR C dX0_divide_9 fl_X0_18 rfl E (fun x1 E => ?_)
      refine g_iload_n C 2 dX0_divide_12 rfl rfl ?_
      refine g_iconst C 0 dX0_divide_13 rfl ?_
      refine g_iast C dX0_divide_14 E (fun h2 E => ?_)
      refine g_iinc C (lv' := [(2, .int (v2 + 1)), (0, .ref (base + v0)), (1, .int v1)]) 2 1 dX0_divide_15 rfl rfl (by decide) rfl ?_
      refine g_goto C 2 dX0_divide_18 (by decide) ?_
      refine g_sub (lv' := [(0, .ref (base + v0)), (1, .int v1), (2, .int (v2 + 1))]) [1, 2, 0] rfl ?_
      exact ih v0 v1 (v2 + 1) h2 E
set_option maxRecDepth 100000 in
set_option maxHeartbeats 4000000 in
theorem o_X0_divide_L31 {l : Launch} {base : Nat} {D : va_G} {cA : Nat → ClassId} {p : Program} {e : Env} {s : State} {m : MethodId} {args : Array Value} {below : List Frame} {meth : Method} {c : Code} (C : GC base D cA p s m args meth c cX0_divide 7 RX0) (hr : meth.sig.returnType = none) {X : Unit × Hp} : ∀ (n : Nat) (v0 : Nat) (v2 : Int32) (v3 : Int32) (v4 : Int32) (h : Hp), s_X0_divide_L31 n v0 v2 v3 v4 h = some X → GW base D cA p l e rm_X0_divide s m args below meth c (MQ below (QcU base D cA X.2) args s 0 0 (AA base)) 7 h 0 0 31 [(0, .ref (base + v0)), (2, .int v2), (3, .int v3), (4, .int v4)] [] := by
  intro n
  induction n with
  | zero =>
    intro v0 v2 v3 v4 h E
    rw [s_X0_divide_L31] at E
    cases E
  | succ n ih =>
    intro v0 v2 v3 v4 h E
    rw [s_X0_divide_L31] at E
    refine g_iload C 3 dX0_divide_31 rfl ?_
    refine g_sipush C 2000 dX0_divide_33 rfl ?_
    refine g_icmp_ge C 96 dX0_divide_36 (by decide) E (fun E => ?_) (fun E => ?_)
    · exact g_vret C dX0_divide_96 hr E
    · refine g_iload_n C 1 dX0_divide_39 rfl rfl ?_
      refine g_if_le C 96 dX0_divide_40 (by decide) E (fun E => ?_) (fun E => ?_)
      · exact g_vret C dX0_divide_96 hr E
      · refine g_iload_n C 2 dX0_divide_43 rfl rfl ?_
        refine g_bipush C (-5) dX0_divide_44 rfl ?_
        refine g_icmp_eq C 96 dX0_divide_46 (by decide) E (fun E => ?_) (fun E => ?_)
        · exact g_vret C dX0_divide_96 hr E
        · refine g_aload_n C 0 dX0_divide_49 rfl rfl ?_
          refine g_invI C (q := (RX0, TX0, 3)) [] dX0_divide_50 cl_X0_25 cv_X0_sharesOfWanting rfl (by decide) rfl rfl ⟨Nat.le_of_ble_eq_true rfl, Nat.le_of_ble_eq_true rfl⟩ (Nat.le_of_ble_eq_true rfl) ⟨Nat.le_of_ble_eq_true rfl, Nat.le_of_ble_eq_true rfl⟩ rfl (fun r' h' E => o_X0_sharesOfWanting l base D cA v0 h r' h' E) E (fun x1 h2 E => ?_)
          refine g_istore C (lv' := [(5, .int x1), (0, .ref (base + v0)), (2, .int v2), (3, .int v3), (4, .int v4)]) dX0_divide_53 (by decide) rfl ?_
          refine g_aload_n C 1 dX0_divide_55 rfl rfl ?_
          refine g_iload_n C 2 dX0_divide_56 rfl rfl ?_
          refine g_iload C 0 dX0_divide_57 rfl ?_
          refine g_invI C (q := (RX0, TX0, 3)) [.int v2, .int x1] dX0_divide_59 cl_X0_28 cv_X0_giveParts rfl (by decide) rfl rfl ⟨Nat.le_of_ble_eq_true rfl, Nat.le_of_ble_eq_true rfl⟩ (Nat.le_of_ble_eq_true rfl) ⟨Nat.le_of_ble_eq_true rfl, Nat.le_of_ble_eq_true rfl⟩ rfl (fun r' h' E => o_X0_giveParts l base D cA v0 v2 x1 h2 r' h' E) E (fun x3 h4 E => ?_)
          refine g_istore C (lv' := [(6, .int x3), (5, .int x1), (0, .ref (base + v0)), (2, .int v2), (3, .int v3), (4, .int v4)]) dX0_divide_62 (by decide) rfl ?_
          refine g_iload_n C 3 dX0_divide_64 rfl rfl ?_
          refine g_iload C 0 dX0_divide_65 rfl ?_
          refine g_if_le C 75 dX0_divide_67 (by decide) E (fun E => ?_) (fun E => ?_)
          · refine g_aload_n C 2 dX0_divide_75 rfl rfl ?_
            refine g_iload_n C 4 dX0_divide_76 rfl rfl ?_
            refine g_iload_n C 3 dX0_divide_77 rfl rfl ?_
            refine g_iload C 1 dX0_divide_78 rfl ?_
            refine g_invI C (q := (RX0, TX0, 3)) [.int v3, .int v2, .int x1] dX0_divide_80 cl_X0_32 cv_X0_giveLowest rfl (by decide) rfl rfl ⟨Nat.le_of_ble_eq_true rfl, Nat.le_of_ble_eq_true rfl⟩ (Nat.le_of_ble_eq_true rfl) ⟨Nat.le_of_ble_eq_true rfl, Nat.le_of_ble_eq_true rfl⟩ rfl (fun r' h' E => o_X0_giveLowest l base D cA v0 v3 v2 x1 h4 r' h' E) E (fun x5 h6 E => ?_)
            refine g_isub C dX0_divide_83 ?_
            refine g_istore_n C (lv' := [(2, .int (v2 - x5)), (6, .int x3), (5, .int x1), (0, .ref (base + v0)), (3, .int v3), (4, .int v4)]) dX0_divide_84 rfl (by decide) rfl ?_
            refine g_aload_n C 3 dX0_divide_85 rfl rfl ?_
            refine g_invI C (q := (RX0, TX0, 3)) [] dX0_divide_86 cl_X0_21 cv_X0_lowestWanting rfl (by decide) rfl rfl ⟨Nat.le_of_ble_eq_true rfl, Nat.le_of_ble_eq_true rfl⟩ (Nat.le_of_ble_eq_true rfl) ⟨Nat.le_of_ble_eq_true rfl, Nat.le_of_ble_eq_true rfl⟩ rfl (fun r' h' E => o_X0_lowestWanting l base D cA v0 h6 r' h' E) E (fun x7 h8 E => ?_)
            refine g_istore_n C (lv' := [(3, .int x7), (2, .int (v2 - x5)), (6, .int x3), (5, .int x1), (0, .ref (base + v0)), (4, .int v4)]) dX0_divide_89 rfl (by decide) rfl ?_
            refine g_iinc C (lv' := [(4, .int (v4 + 1)), (3, .int x7), (2, .int (v2 - x5)), (6, .int x3), (5, .int x1), (0, .ref (base + v0))]) 5 1 dX0_divide_90 rfl rfl (by decide) rfl ?_
            refine g_goto C 31 dX0_divide_93 (by decide) ?_
            refine g_sub (lv' := [(0, .ref (base + v0)), (2, .int (v2 - x5)), (3, .int x7), (4, .int (v4 + 1))]) [5, 2, 1, 0] rfl ?_
            exact ih v0 (v2 - x5) x7 (v4 + 1) h8 E
          · refine g_iload C 0 dX0_divide_70 rfl ?_
            refine g_goto C 83 dX0_divide_72 (by decide) ?_
            refine g_isub C dX0_divide_83 ?_
            refine g_istore_n C (lv' := [(2, .int (v2 - x3)), (6, .int x3), (5, .int x1), (0, .ref (base + v0)), (3, .int v3), (4, .int v4)]) dX0_divide_84 rfl (by decide) rfl ?_
            refine g_aload_n C 3 dX0_divide_85 rfl rfl ?_
            refine g_invI C (q := (RX0, TX0, 3)) [] dX0_divide_86 cl_X0_21 cv_X0_lowestWanting rfl (by decide) rfl rfl ⟨Nat.le_of_ble_eq_true rfl, Nat.le_of_ble_eq_true rfl⟩ (Nat.le_of_ble_eq_true rfl) ⟨Nat.le_of_ble_eq_true rfl, Nat.le_of_ble_eq_true rfl⟩ rfl (fun r' h' E => o_X0_lowestWanting l base D cA v0 h4 r' h' E) E (fun x9 h10 E => ?_)
            refine g_istore_n C (lv' := [(3, .int x9), (2, .int (v2 - x3)), (6, .int x3), (5, .int x1), (0, .ref (base + v0)), (4, .int v4)]) dX0_divide_89 rfl (by decide) rfl ?_
            refine g_iinc C (lv' := [(4, .int (v4 + 1)), (3, .int x9), (2, .int (v2 - x3)), (6, .int x3), (5, .int x1), (0, .ref (base + v0))]) 5 1 dX0_divide_90 rfl rfl (by decide) rfl ?_
            refine g_goto C 31 dX0_divide_93 (by decide) ?_
            refine g_sub (lv' := [(0, .ref (base + v0)), (2, .int (v2 - x3)), (3, .int x9), (4, .int (v4 + 1))]) [5, 2, 1, 0] rfl ?_
            exact ih v0 (v2 - x3) x9 (v4 + 1) h10 E
set_option maxRecDepth 100000 in
set_option maxHeartbeats 4000000 in
theorem o_X0_divide (l : Launch) (base : Nat) (D : va_G) (cA : Nat → ClassId) (a0 : Nat) (a1 : Int32) (h : Hp) (r : Unit) (h' : Hp) (E : s_X0_divide a0 a1 h = some (r, h')) : Met l yX0_divide (.code yX0_divide cX0_divide 7 none :: wsA) rm_X0_divide (PcG base D cA [.ref (base + a0), .int a1] h) (QcU base D cA h') 0 0 (AA base) := by
  refine g_met [.ref (base + a0), .int a1] (by decide) (Nat.le_of_ble_eq_true rfl) (fun p e s m args below meth c C hr hn => ?_)
  refine g_lv (lv' := [(0, .ref (base + a0)), (1, .int a1)]) rfl ?_
  unfold s_X0_divide at E
  refine g_iconst C 0 dX0_divide_0 rfl ?_
  refine g_istore_n C (lv' := [(2, .int 0), (0, .ref (base + a0)), (1, .int a1)]) dX0_divide_1 rfl (by decide) rfl ?_
  refine g_sub (lv' := [(0, .ref (base + a0)), (1, .int a1), (2, .int 0)]) [1, 2, 0] rfl ?_
  refine o_X0_divide_L2 C hr ?_ _ a0 a1 0 h E
  · intro y1 y2 h3 E
    refine g_iload_n C 1 dX0_divide_21 rfl rfl ?_
    refine g_istore_n C (lv' := [(2, .int y2), (0, .ref (base + y1)), (1, .int y2)]) dX0_divide_22 rfl (by decide) rfl ?_
    refine g_aload_n C 1 dX0_divide_23 rfl rfl ?_
    refine g_invI C (q := (RX0, TX0, 3)) [] dX0_divide_24 cl_X0_21 cv_X0_lowestWanting rfl (by decide) rfl rfl ⟨Nat.le_of_ble_eq_true rfl, Nat.le_of_ble_eq_true rfl⟩ (Nat.le_of_ble_eq_true rfl) ⟨Nat.le_of_ble_eq_true rfl, Nat.le_of_ble_eq_true rfl⟩ rfl (fun r' h' E => o_X0_lowestWanting l base D cA y1 h3 r' h' E) E (fun x4 h5 E => ?_)
    refine g_istore_n C (lv' := [(3, .int x4), (2, .int y2), (0, .ref (base + y1)), (1, .int y2)]) dX0_divide_27 rfl (by decide) rfl ?_
    refine g_iconst C 0 dX0_divide_28 rfl ?_
    refine g_istore C (lv' := [(4, .int 0), (3, .int x4), (2, .int y2), (0, .ref (base + y1)), (1, .int y2)]) dX0_divide_29 (by decide) rfl ?_
    refine g_sub (lv' := [(0, .ref (base + y1)), (2, .int y2), (3, .int x4), (4, .int 0)]) [3, 2, 1, 0] rfl ?_
    exact o_X0_divide_L31 C hr _ y1 y2 x4 0 h5 E
abbrev rm_X4_init : Room := { frames := 1, cells := 2, slots := 128, locals := 14 }
def s_X4_init (a0 : Nat) (a1 : Int32) (h : Hp) : Rv Unit :=
  putI h a0 4 0 (if 0 < a1 then a1 else 0) fun h =>
  getI h a0 4 0 fun x1 =>
  newA h 21 x1 64 fun x2 h =>
  putR h a0 4 1 x2 fun h =>
  getI h a0 4 0 fun x3 =>
  newA h 20 x3 64 fun x4 h =>
  putR h a0 4 2 x4 fun h =>
  retU h
set_option maxRecDepth 100000 in
set_option maxHeartbeats 4000000 in
theorem o_X4_init (l : Launch) (base : Nat) (D : va_G) (cA : Nat → ClassId) (a0 : Nat) (a1 : Int32) (h : Hp) (r : Unit) (h' : Hp) (E : s_X4_init a0 a1 h = some (r, h')) : Met l yX4_init (.code yX4_init cX4_init 2 none :: wsA) rm_X4_init (PcG base D cA [.ref (base + a0), .int a1] h) (QcU base D cA h') 2 128 (AA base) := by
  refine g_met [.ref (base + a0), .int a1] (by decide) (Nat.le_of_ble_eq_true rfl) (fun p e s m args below meth c C hr hn => ?_)
  refine g_lv (lv' := [(0, .ref (base + a0)), (1, .int a1)]) rfl ?_
  unfold s_X4_init at E
  refine g_aload_n C 0 dX4_init_0 rfl rfl ?_
  refine g_obj C dX4_init_1 (in_wsA 41 (by decide +kernel) rfl) (ob_w2) (ob_w3) (Nat.le_of_ble_eq_true rfl) (Nat.le_of_ble_eq_true rfl) ?_
  refine g_aload_n C 0 dX4_init_4 rfl rfl ?_
  refine g_iconst C 0 dX4_init_5 rfl ?_
  refine g_iload_n C 1 dX4_init_6 rfl rfl ?_
  refine g_mmax C dX4_init_7 (in_wsA 42 (by decide +kernel) rfl) (in_wsA 43 (by decide +kernel) rfl) (in_wsA 11 (by decide +kernel) rfl) (in_wsA 44 (by decide +kernel) rfl) (Nat.le_of_ble_eq_true rfl) (Nat.le_of_ble_eq_true rfl) (Nat.le_of_ble_eq_true rfl) (Nat.le_of_ble_eq_true rfl) ?_
  refine g_putI C true dX4_init_10 fl_X4_15 fp_X4_4_0 (fun _ => hn) rfl E (fun h1 E => ?_)
  refine g_aload_n C 0 dX4_init_13 rfl rfl ?_
  refine g_aload_n C 0 dX4_init_14 rfl rfl ?_
  refine g_getI C dX4_init_15 fl_X4_15 (by decide) (by decide) E (fun x2 E => ?_)
  refine g_newa C (ty := .char) (cap := 64) 1 (by decide) (by decide) rfl rfl (fun _ _ => rfl) rfl (in_wsA 58 (by decide +kernel) rfl) (by decide) (Nat.le_of_ble_eq_true rfl) (Nat.le_of_ble_eq_true rfl) dX4_init_18 E (fun x3 h4 E => ?_)
  refine g_putR C true dX4_init_20 fl_X4_21 ⟨rfl, rfl⟩ fp_X4_4_1 (fun _ => hn) rfl E (fun h5 E => ?_)
  refine g_aload_n C 0 dX4_init_23 rfl rfl ?_
  refine g_aload_n C 0 dX4_init_24 rfl rfl ?_
  refine g_getI C dX4_init_25 fl_X4_15 (by decide) (by decide) E (fun x6 E => ?_)
  refine g_newa C (ty := .int) (cap := 64) 0 (by decide) (by decide) rfl rfl (fun _ _ => rfl) rfl (in_wsA 57 (by decide +kernel) rfl) (by decide) (Nat.le_of_ble_eq_true rfl) (Nat.le_of_ble_eq_true rfl) dX4_init_28 E (fun x7 h8 E => ?_)
  refine g_putR C true dX4_init_30 fl_X4_25 ⟨rfl, rfl⟩ fp_X4_4_2 (fun _ => hn) rfl E (fun h9 E => ?_)
  exact g_vret C dX4_init_33 hr E
abbrev rm_X7_init : Room := { frames := 1, cells := 0, slots := 0, locals := 12 }
def s_X7_init (a0 : Nat) (a1 : Nat) (h : Hp) : Rv Unit :=
  putI h a0 7 1 0 fun h =>
  putI h a0 7 2 1 fun h =>
  putI h a0 7 3 0 fun h =>
  putI h a0 7 4 0 fun h =>
  putI h a0 7 5 0 fun h =>
  putL h a0 7 6 0 fun h =>
  putI h a0 7 7 0 fun h =>
  putR h a0 7 0 a1 fun h =>
  retU h
set_option maxRecDepth 100000 in
set_option maxHeartbeats 4000000 in
theorem o_X7_init (l : Launch) (base : Nat) (D : va_G) (cA : Nat → ClassId) (a0 : Nat) (a1 : Nat) (h : Hp) (r : Unit) (h' : Hp) (E : s_X7_init a0 a1 h = some (r, h')) : Met l yX7_init (.code yX7_init cX7_init 2 none :: wsA) rm_X7_init (PcG base D cA [.ref (base + a0), .ref (base + a1)] h) (QcU base D cA h') 0 0 (AA base) := by
  refine g_met [.ref (base + a0), .ref (base + a1)] (by decide) (Nat.le_of_ble_eq_true rfl) (fun p e s m args below meth c C hr hn => ?_)
  refine g_lv (lv' := [(0, .ref (base + a0)), (1, .ref (base + a1))]) rfl ?_
  unfold s_X7_init at E
  refine g_aload_n C 0 dX7_init_0 rfl rfl ?_
  refine g_obj C dX7_init_1 (in_wsA 69 (by decide +kernel) rfl) (ob_w2) (ob_w3) (Nat.le_of_ble_eq_true rfl) (Nat.le_of_ble_eq_true rfl) ?_
  refine g_aload_n C 0 dX7_init_4 rfl rfl ?_
  refine g_iconst C 0 dX7_init_5 rfl ?_
  refine g_putI C false dX7_init_6 fl_X7_9 fp_X7_7_1 (fun q => Bool.noConfusion q) rfl E (fun h1 E => ?_)
  refine g_aload_n C 0 dX7_init_9 rfl rfl ?_
  refine g_iconst C 1 dX7_init_10 rfl ?_
  refine g_putI C false dX7_init_11 fl_X7_15 fp_X7_7_2 (fun q => Bool.noConfusion q) rfl E (fun h2 E => ?_)
  refine g_aload_n C 0 dX7_init_14 rfl rfl ?_
  refine g_iconst C 0 dX7_init_15 rfl ?_
  refine g_putI C false dX7_init_16 fl_X7_18 fp_X7_7_3 (fun q => Bool.noConfusion q) rfl E (fun h3 E => ?_)
  refine g_aload_n C 0 dX7_init_19 rfl rfl ?_
  refine g_iconst C 0 dX7_init_20 rfl ?_
  refine g_putI C false dX7_init_21 fl_X7_21 fp_X7_7_4 (fun q => Bool.noConfusion q) rfl E (fun h4 E => ?_)
  refine g_aload_n C 0 dX7_init_24 rfl rfl ?_
  refine g_iconst C 0 dX7_init_25 rfl ?_
  refine g_putI C false dX7_init_26 fl_X7_24 fp_X7_7_5 (fun q => Bool.noConfusion q) rfl E (fun h5 E => ?_)
  refine g_aload_n C 0 dX7_init_29 rfl rfl ?_
  refine g_lconst C 0 dX7_init_30 rfl ?_
  refine g_putL C false dX7_init_31 fl_X7_27 fp_X7_7_6 (fun q => Bool.noConfusion q) rfl E (fun h6 E => ?_)
  refine g_aload_n C 0 dX7_init_34 rfl rfl ?_
  refine g_iconst C 0 dX7_init_35 rfl ?_
  refine g_putI C false dX7_init_36 fl_X7_31 fp_X7_7_7 (fun q => Bool.noConfusion q) rfl E (fun h7 E => ?_)
  refine g_aload_n C 0 dX7_init_39 rfl rfl ?_
  refine g_aload_n C 1 dX7_init_40 rfl rfl ?_
  refine g_putR C false dX7_init_41 fl_X7_34 ⟨rfl, rfl⟩ fp_X7_7_0 (fun q => Bool.noConfusion q) rfl E (fun h8 E => ?_)
  exact g_vret C dX7_init_44 hr E
abbrev rm_X2_init : Room := { frames := 2, cells := 1, slots := 8, locals := 33 }
def s_X2_init (a0 : Nat) (a1 : Nat) (h : Hp) : Rv Unit :=
  putI h a0 2 1 0 fun h =>
  putI h a0 2 2 0 fun h =>
  putI h a0 2 3 0 fun h =>
  putI h a0 2 4 0 fun h =>
  putI h a0 2 5 0 fun h =>
  putI h a0 2 6 0 fun h =>
  putI h a0 2 7 0 fun h =>
  putI h a0 2 8 0 fun h =>
  putI h a0 2 9 0 fun h =>
  newO h 7 fun x1 h =>
  bnd (s_X7_init x1 a1 h) fun _ h =>
  putR h a0 2 0 x1 fun h =>
  retU h
set_option maxRecDepth 100000 in
set_option maxHeartbeats 4000000 in
theorem o_X2_init (l : Launch) (base : Nat) (D : va_G) (cA : Nat → ClassId) (a0 : Nat) (a1 : Nat) (h : Hp) (r : Unit) (h' : Hp) (E : s_X2_init a0 a1 h = some (r, h')) : Met l yX2_init (.code yX2_init cX2_init 2 none :: wsA) rm_X2_init (PcG base D cA [.ref (base + a0), .ref (base + a1)] h) (QcU base D cA h') 1 8 (AA base) := by
  refine g_met [.ref (base + a0), .ref (base + a1)] (by decide) (Nat.le_of_ble_eq_true rfl) (fun p e s m args below meth c C hr hn => ?_)
  refine g_lv (lv' := [(0, .ref (base + a0)), (1, .ref (base + a1))]) rfl ?_
  unfold s_X2_init at E
  refine g_aload_n C 0 dX2_init_0 rfl rfl ?_
  refine g_obj C dX2_init_1 (in_wsA 63 (by decide +kernel) rfl) (ob_w2) (ob_w3) (Nat.le_of_ble_eq_true rfl) (Nat.le_of_ble_eq_true rfl) ?_
  refine g_aload_n C 0 dX2_init_4 rfl rfl ?_
  refine g_iconst C 0 dX2_init_5 rfl ?_
  refine g_putI C false dX2_init_6 fl_X2_9 fp_X2_2_1 (fun q => Bool.noConfusion q) rfl E (fun h1 E => ?_)
  refine g_aload_n C 0 dX2_init_9 rfl rfl ?_
  refine g_iconst C 0 dX2_init_10 rfl ?_
  refine g_putI C false dX2_init_11 fl_X2_15 fp_X2_2_2 (fun q => Bool.noConfusion q) rfl E (fun h2 E => ?_)
  refine g_aload_n C 0 dX2_init_14 rfl rfl ?_
  refine g_iconst C 0 dX2_init_15 rfl ?_
  refine g_putI C false dX2_init_16 fl_X2_18 fp_X2_2_3 (fun q => Bool.noConfusion q) rfl E (fun h3 E => ?_)
  refine g_aload_n C 0 dX2_init_19 rfl rfl ?_
  refine g_iconst C 0 dX2_init_20 rfl ?_
  refine g_putI C false dX2_init_21 fl_X2_21 fp_X2_2_4 (fun q => Bool.noConfusion q) rfl E (fun h4 E => ?_)
  refine g_aload_n C 0 dX2_init_24 rfl rfl ?_
  refine g_iconst C 0 dX2_init_25 rfl ?_
  refine g_putI C false dX2_init_26 fl_X2_24 fp_X2_2_5 (fun q => Bool.noConfusion q) rfl E (fun h5 E => ?_)
  refine g_aload_n C 0 dX2_init_29 rfl rfl ?_
  refine g_iconst C 0 dX2_init_30 rfl ?_
  refine g_putI C false dX2_init_31 fl_X2_27 fp_X2_2_6 (fun q => Bool.noConfusion q) rfl E (fun h6 E => ?_)
  refine g_aload_n C 0 dX2_init_34 rfl rfl ?_
  refine g_iconst C 0 dX2_init_35 rfl ?_
  refine g_putI C false dX2_init_36 fl_X2_30 fp_X2_2_7 (fun q => Bool.noConfusion q) rfl E (fun h7 E => ?_)
  refine g_aload_n C 0 dX2_init_39 rfl rfl ?_
  refine g_iconst C 0 dX2_init_40 rfl ?_
  refine g_putI C false dX2_init_41 fl_X2_33 fp_X2_2_8 (fun q => Bool.noConfusion q) rfl E (fun h8 E => ?_)
  refine g_aload_n C 0 dX2_init_44 rfl rfl ?_
  refine g_iconst C 0 dX2_init_45 rfl ?_
  refine g_putI C false dX2_init_46 fl_X2_36 fp_X2_2_9 (fun q => Bool.noConfusion q) rfl E (fun h9 E => ?_)
  refine g_aload_n C 0 dX2_init_49 rfl rfl ?_
  refine g_new C tyX7 tyX7_ok rfl (by decide) rfl inX7 (in_wsA 64 (by decide +kernel) rfl) (in_wsA 65 (by decide +kernel) rfl) (in_wsA 13 (by decide +kernel) rfl) (df_X7 base) (Nat.le_of_ble_eq_true rfl) (Nat.le_of_ble_eq_true rfl) dX2_init_50 E (fun x10 h11 E => ?_)
  refine g_dup C dX2_init_53 rfl ?_
  refine g_aload_n C 1 dX2_init_54 rfl rfl ?_
  refine g_ini C [.ref (base + a1)] dX2_init_55 cl_X2_41 ci_X7_init rfl rfl ⟨Nat.le_of_ble_eq_true rfl, Nat.le_of_ble_eq_true rfl⟩ (Nat.le_of_ble_eq_true rfl) ⟨Nat.le_of_ble_eq_true rfl, Nat.le_of_ble_eq_true rfl⟩ rfl (fun r' h' E => o_X7_init l base D cA x10 a1 h11 r' h' E) E (fun x12 h13 E => ?_)
  refine g_putR C true dX2_init_58 fl_X2_44 ⟨rfl, rfl⟩ fp_X2_2_0 (fun _ => hn) rfl E (fun h14 E => ?_)
  exact g_vret C dX2_init_61 hr E
abbrev rm_X3_init : Room := { frames := 1, cells := 0, slots := 0, locals := 12 }
def s_X3_init (a0 : Nat) (h : Hp) : Rv Unit :=
  putI h a0 3 0 0 fun h =>
  putI h a0 3 1 0 fun h =>
  putI h a0 3 2 0 fun h =>
  putI h a0 3 3 0 fun h =>
  putI h a0 3 4 0 fun h =>
  retU h
set_option maxRecDepth 100000 in
set_option maxHeartbeats 4000000 in
theorem o_X3_init (l : Launch) (base : Nat) (D : va_G) (cA : Nat → ClassId) (a0 : Nat) (h : Hp) (r : Unit) (h' : Hp) (E : s_X3_init a0 h = some (r, h')) : Met l yX3_init (.code yX3_init cX3_init 1 none :: wsA) rm_X3_init (PcG base D cA [.ref (base + a0)] h) (QcU base D cA h') 0 0 (AA base) := by
  refine g_met [.ref (base + a0)] (by decide) (Nat.le_of_ble_eq_true rfl) (fun p e s m args below meth c C hr hn => ?_)
  refine g_lv (lv' := [(0, .ref (base + a0))]) rfl ?_
  unfold s_X3_init at E
  refine g_aload_n C 0 dX3_init_0 rfl rfl ?_
  refine g_obj C dX3_init_1 (in_wsA 147 (by decide +kernel) rfl) (ob_w2) (ob_w3) (Nat.le_of_ble_eq_true rfl) (Nat.le_of_ble_eq_true rfl) ?_
  refine g_aload_n C 0 dX3_init_4 rfl rfl ?_
  refine g_iconst C 0 dX3_init_5 rfl ?_
  refine g_putI C false dX3_init_6 fl_X3_9 fp_X3_3_0 (fun q => Bool.noConfusion q) rfl E (fun h1 E => ?_)
  refine g_aload_n C 0 dX3_init_9 rfl rfl ?_
  refine g_iconst C 0 dX3_init_10 rfl ?_
  refine g_putI C false dX3_init_11 fl_X3_15 fp_X3_3_1 (fun q => Bool.noConfusion q) rfl E (fun h2 E => ?_)
  refine g_aload_n C 0 dX3_init_14 rfl rfl ?_
  refine g_iconst C 0 dX3_init_15 rfl ?_
  refine g_putI C false dX3_init_16 fl_X3_18 fp_X3_3_2 (fun q => Bool.noConfusion q) rfl E (fun h3 E => ?_)
  refine g_aload_n C 0 dX3_init_19 rfl rfl ?_
  refine g_iconst C 0 dX3_init_20 rfl ?_
  refine g_putI C false dX3_init_21 fl_X3_21 fp_X3_3_3 (fun q => Bool.noConfusion q) rfl E (fun h4 E => ?_)
  refine g_aload_n C 0 dX3_init_24 rfl rfl ?_
  refine g_iconst C 0 dX3_init_25 rfl ?_
  refine g_putI C false dX3_init_26 fl_X3_24 fp_X3_3_4 (fun q => Bool.noConfusion q) rfl E (fun h5 E => ?_)
  exact g_vret C dX3_init_29 hr E
abbrev rm_X6_init : Room := { frames := 3, cells := 35, slots := 370, locals := 54 }
def s_X6_init_L105 (k131 : Nat → Hp → Rv Unit) : Nat → Nat → Nat → Int32 → Hp → Rv Unit
  | 0, _, _, _, _ => none
  | n + 1, v0, v1, v2, h =>
    if 8 ≤ v2 then k131 v0 h
  else getR h v0 6 1 fun x5 =>
  newO h 2 fun x6 h =>
  bnd (s_X2_init x6 v1 h) fun _ h =>
  stR h x5 22 2 v2 x6 fun h =>
  s_X6_init_L105 k131 n v0 v1 (v2 + 1) h
def s_X6_init_L133 : Nat → Nat → Int32 → Hp → Rv Unit
  | 0, _, _, _ => none
  | n + 1, v0, v2, h =>
    if 10 ≤ v2 then retU h
  else getR h v0 6 2 fun x7 =>
  newO h 3 fun x8 h =>
  bnd (s_X3_init x8 h) fun _ h =>
  stR h x7 23 3 v2 x8 fun h =>
  s_X6_init_L133 n v0 (v2 + 1) h
def s_X6_init (a0 : Nat) (h : Hp) : Rv Unit :=
  newA h 20 4 4 fun x1 h =>
  stI h x1 20 0 20000 fun h =>
  stI h x1 20 1 200 fun h =>
  stI h x1 20 2 300 fun h =>
  stI h x1 20 3 40 fun h =>
  putR h a0 6 0 x1 fun h =>
  newA h 22 8 8 fun x2 h =>
  putR h a0 6 1 x2 fun h =>
  newA h 23 10 10 fun x3 h =>
  putR h a0 6 2 x3 fun h =>
  putI h a0 6 3 0 fun h =>
  putI h a0 6 4 0 fun h =>
  putI h a0 6 5 0 fun h =>
  putI h a0 6 6 0 fun h =>
  putZ h a0 6 7 1 fun h =>
  putI h a0 6 8 10000 fun h =>
  putI h a0 6 9 0 fun h =>
  putI h a0 6 10 0 fun h =>
  newO h 4 fun x4 h =>
  bnd (s_X4_init x4 0 h) fun _ h =>
  s_X6_init_L105 (fun y0 h => s_X6_init_L133 11 y0 0 h) 9 a0 x4 0 h
set_option maxRecDepth 100000 in
set_option maxHeartbeats 4000000 in
theorem o_X6_init_L105 {l : Launch} {base : Nat} {D : va_G} {cA : Nat → ClassId} {p : Program} {e : Env} {s : State} {m : MethodId} {args : Array Value} {below : List Frame} {meth : Method} {c : Code} (C : GC base D cA p s m args meth c cX6_init 3 RX6) (hr : meth.sig.returnType = none) (hn : meth.name = "<init>") {X : Unit × Hp} {k131 : Nat → Hp → Rv Unit} (K131 : ∀ (y0 : Nat) (h : Hp), k131 y0 h = some X → GW base D cA p l e rm_X6_init s m args below meth c (MQ below (QcU base D cA X.2) args s 35 370 (AA base)) 3 h 24 315 131 [(0, .ref (base + y0))] []) : ∀ (n : Nat) (cl sl : Nat) (hcl : cl + n * 2 ≤ 24) (hsl : sl + n * 18 ≤ 315) (v0 : Nat) (v1 : Nat) (v2 : Int32) (h : Hp), s_X6_init_L105 k131 n v0 v1 v2 h = some X → GW base D cA p l e rm_X6_init s m args below meth c (MQ below (QcU base D cA X.2) args s 35 370 (AA base)) 3 h cl sl 105 [(0, .ref (base + v0)), (1, .ref (base + v1)), (2, .int v2)] [] := by
  intro n
  induction n with
  | zero =>
    intro cl sl hcl hsl v0 v1 v2 h E
    rw [s_X6_init_L105] at E
    cases E
  | succ n ih =>
    intro cl sl hcl hsl v0 v1 v2 h E
    rw [s_X6_init_L105] at E
    refine g_iload_n C 2 dX6_init_105 rfl rfl ?_
    refine g_bipush C 8 dX6_init_106 rfl ?_
    refine g_icmp_ge C 131 dX6_init_108 (by decide) E (fun E => ?_) (fun E => ?_)
    · refine g_sub (lv' := [(0, .ref (base + v0))]) [0] rfl ?_
      refine g_widen (24) (315) (by omega) (by omega) ?_
      exact K131 v0 h E
    · refine g_aload_n C 0 dX6_init_111 rfl rfl ?_
      refine g_getR C dX6_init_112 fl_X6_17 rfl E (fun x1 E => ?_)
      refine g_iload_n C 2 dX6_init_115 rfl rfl ?_
      refine g_new C tyX2 tyX2_ok rfl (by decide) rfl inX2 (in_wsA 32 (by decide +kernel) rfl) (in_wsA 59 (by decide +kernel) rfl) (in_wsA 12 (by decide +kernel) rfl) (df_X2 base) ((show cl + 1 ≤ 35 by omega)) ((show sl + 10 ≤ 370 by omega)) dX6_init_116 E (fun x2 h3 E => ?_)
      refine g_dup C dX6_init_119 rfl ?_
      refine g_aload_n C 1 dX6_init_120 rfl rfl ?_
      refine g_ini C [.ref (base + v1)] dX6_init_121 cl_X6_58 ci_X2_init rfl rfl ⟨Nat.le_of_ble_eq_true rfl, Nat.le_of_ble_eq_true rfl⟩ (Nat.le_of_ble_eq_true rfl) ⟨(show (cl + 1) + 1 ≤ 35 by omega), (show (sl + 10) + 8 ≤ 370 by omega)⟩ rfl (fun r' h' E => o_X2_init l base D cA x2 v1 h3 r' h' E) E (fun x4 h5 E => ?_)
      refine g_aast C (r := (RX2, TX2, 10)) 2 (by decide) (by decide) (by decide) rfl rfl dX6_init_124 E (fun h6 E => ?_)
      refine g_iinc C (lv' := [(2, .int (v2 + 1)), (0, .ref (base + v0)), (1, .ref (base + v1))]) 2 1 dX6_init_125 rfl rfl (by decide) rfl ?_
      refine g_goto C 105 dX6_init_128 (by decide) ?_
      refine g_sub (lv' := [(0, .ref (base + v0)), (1, .ref (base + v1)), (2, .int (v2 + 1))]) [1, 2, 0] rfl ?_
      exact ih ((cl + 1) + 1) ((sl + 10) + 8) (by omega) (by omega) v0 v1 (v2 + 1) h6 E
set_option maxRecDepth 100000 in
set_option maxHeartbeats 4000000 in
theorem o_X6_init_L133 {l : Launch} {base : Nat} {D : va_G} {cA : Nat → ClassId} {p : Program} {e : Env} {s : State} {m : MethodId} {args : Array Value} {below : List Frame} {meth : Method} {c : Code} (C : GC base D cA p s m args meth c cX6_init 3 RX6) (hr : meth.sig.returnType = none) (hn : meth.name = "<init>") {X : Unit × Hp} : ∀ (n : Nat) (cl sl : Nat) (hcl : cl + n * 1 ≤ 35) (hsl : sl + n * 5 ≤ 370) (v0 : Nat) (v2 : Int32) (h : Hp), s_X6_init_L133 n v0 v2 h = some X → GW base D cA p l e rm_X6_init s m args below meth c (MQ below (QcU base D cA X.2) args s 35 370 (AA base)) 3 h cl sl 133 [(0, .ref (base + v0)), (2, .int v2)] [] := by
  intro n
  induction n with
  | zero =>
    intro cl sl hcl hsl v0 v2 h E
    rw [s_X6_init_L133] at E
    cases E
  | succ n ih =>
    intro cl sl hcl hsl v0 v2 h E
    rw [s_X6_init_L133] at E
    refine g_iload_n C 1 dX6_init_133 rfl rfl ?_
    refine g_bipush C 10 dX6_init_134 rfl ?_
    refine g_icmp_ge C 158 dX6_init_136 (by decide) E (fun E => ?_) (fun E => ?_)
    · refine g_widen 35 370 (by omega) (by omega) ?_
      exact g_vret C dX6_init_158 hr E
    · refine g_aload_n C 0 dX6_init_139 rfl rfl ?_
      refine g_getR C dX6_init_140 fl_X6_23 rfl E (fun x1 E => ?_)
      refine g_iload_n C 1 dX6_init_143 rfl rfl ?_
      refine g_new C tyX3 tyX3_ok rfl (by decide) rfl inX3 (in_wsA 34 (by decide +kernel) rfl) (in_wsA 143 (by decide +kernel) rfl) (in_wsA 14 (by decide +kernel) rfl) (df_X3 base) ((show cl + 1 ≤ 35 by omega)) ((show sl + 5 ≤ 370 by omega)) dX6_init_144 E (fun x2 h3 E => ?_)
      refine g_dup C dX6_init_147 rfl ?_
      refine g_nin C [] dX6_init_148 C.2.2.2.2.2.2.2.2.2.2.1 cn_X3_init ci_X3_init rfl rfl ⟨Nat.le_of_ble_eq_true rfl, Nat.le_of_ble_eq_true rfl⟩ (Nat.le_of_ble_eq_true rfl) ⟨(show (cl + 1) + 0 ≤ 35 by omega), (show (sl + 5) + 0 ≤ 370 by omega)⟩ rfl (fun r' h' E => o_X3_init l base D cA x2 h3 r' h' E) E (fun x4 h5 E => ?_)
      refine g_aast C (r := (RX3, TX3, 5)) 3 (by decide) (by decide) (by decide) rfl rfl dX6_init_151 E (fun h6 E => ?_)
      refine g_iinc C (lv' := [(2, .int (v2 + 1)), (0, .ref (base + v0))]) 1 1 dX6_init_152 rfl rfl (by decide) rfl ?_
      refine g_goto C 133 dX6_init_155 (by decide) ?_
      refine g_sub (lv' := [(0, .ref (base + v0)), (2, .int (v2 + 1))]) [1, 0] rfl ?_
      exact ih (cl + 1) (sl + 5) (by omega) (by omega) v0 (v2 + 1) h6 E
set_option maxRecDepth 100000 in
set_option maxHeartbeats 4000000 in
theorem o_X6_init (l : Launch) (base : Nat) (D : va_G) (cA : Nat → ClassId) (a0 : Nat) (h : Hp) (r : Unit) (h' : Hp) (E : s_X6_init a0 h = some (r, h')) : Met l yX6_init (.code yX6_init cX6_init 3 none :: wsA) rm_X6_init (PcG base D cA [.ref (base + a0)] h) (QcU base D cA h') 35 370 (AA base) := by
  refine g_met [.ref (base + a0)] (by decide) (Nat.le_of_ble_eq_true rfl) (fun p e s m args below meth c C hr hn => ?_)
  refine g_lv (lv' := [(0, .ref (base + a0))]) rfl ?_
  unfold s_X6_init at E
  refine g_aload_n C 0 dX6_init_0 rfl rfl ?_
  refine g_obj C dX6_init_1 (in_wsA 31 (by decide +kernel) rfl) (ob_w2) (ob_w3) (Nat.le_of_ble_eq_true rfl) (Nat.le_of_ble_eq_true rfl) ?_
  refine g_aload_n C 0 dX6_init_4 rfl rfl ?_
  refine g_iconst C 4 dX6_init_5 rfl ?_
  refine g_newa C (ty := .int) (cap := 4) 0 (by decide) (by decide) rfl rfl (fun _ _ => rfl) rfl (in_wsA 57 (by decide +kernel) rfl) (by decide) (Nat.le_of_ble_eq_true rfl) (Nat.le_of_ble_eq_true rfl) dX6_init_6 E (fun x1 h2 E => ?_)
  refine g_dup C dX6_init_8 rfl ?_
  refine g_iconst C 0 dX6_init_9 rfl ?_
  refine g_sipush C 20000 dX6_init_10 rfl ?_
  refine g_iast C dX6_init_13 E (fun h3 E => ?_)
  refine g_dup C dX6_init_14 rfl ?_
  refine g_iconst C 1 dX6_init_15 rfl ?_
  refine g_sipush C 200 dX6_init_16 rfl ?_
  refine g_iast C dX6_init_19 E (fun h4 E => ?_)
  refine g_dup C dX6_init_20 rfl ?_
  refine g_iconst C 2 dX6_init_21 rfl ?_
  refine g_sipush C 300 dX6_init_22 rfl ?_
  refine g_iast C dX6_init_25 E (fun h5 E => ?_)
  refine g_dup C dX6_init_26 rfl ?_
  refine g_iconst C 3 dX6_init_27 rfl ?_
  refine g_bipush C 40 dX6_init_28 rfl ?_
  refine g_iast C dX6_init_30 E (fun h6 E => ?_)
  refine g_putR C true dX6_init_31 fl_X6_9 ⟨rfl, rfl⟩ fp_X6_6_0 (fun _ => hn) rfl E (fun h7 E => ?_)
  refine g_aload_n C 0 dX6_init_34 rfl rfl ?_
  refine g_bipush C 8 dX6_init_35 rfl ?_
  refine g_anew C (cap := 8) 2 (by decide) rfl (in_wsA 32 (by decide +kernel) rfl) (C.2.2.2.2.2.2.2.2.2.2.2.2.2.1) (by decide) (Nat.le_of_ble_eq_true rfl) (Nat.le_of_ble_eq_true rfl) dX6_init_37 E (fun x8 h9 E => ?_)
  refine g_putR C true dX6_init_40 fl_X6_17 ⟨rfl, rfl⟩ fp_X6_6_1 (fun _ => hn) rfl E (fun h10 E => ?_)
  refine g_aload_n C 0 dX6_init_43 rfl rfl ?_
  refine g_bipush C 10 dX6_init_44 rfl ?_
  refine g_anew C (cap := 10) 3 (by decide) rfl (in_wsA 34 (by decide +kernel) rfl) (C.2.2.2.2.2.2.2.2.2.2.2.2.2.2.1) (by decide) (Nat.le_of_ble_eq_true rfl) (Nat.le_of_ble_eq_true rfl) dX6_init_46 E (fun x11 h12 E => ?_)
  refine g_putR C true dX6_init_49 fl_X6_23 ⟨rfl, rfl⟩ fp_X6_6_2 (fun _ => hn) rfl E (fun h13 E => ?_)
  refine g_aload_n C 0 dX6_init_52 rfl rfl ?_
  refine g_iconst C 0 dX6_init_53 rfl ?_
  refine g_putI C false dX6_init_54 fl_X6_27 fp_X6_6_3 (fun q => Bool.noConfusion q) rfl E (fun h14 E => ?_)
  refine g_aload_n C 0 dX6_init_57 rfl rfl ?_
  refine g_iconst C 0 dX6_init_58 rfl ?_
  refine g_putI C false dX6_init_59 fl_X6_31 fp_X6_6_4 (fun q => Bool.noConfusion q) rfl E (fun h15 E => ?_)
  refine g_aload_n C 0 dX6_init_62 rfl rfl ?_
  refine g_iconst C 0 dX6_init_63 rfl ?_
  refine g_putI C false dX6_init_64 fl_X6_34 fp_X6_6_5 (fun q => Bool.noConfusion q) rfl E (fun h16 E => ?_)
  refine g_aload_n C 0 dX6_init_67 rfl rfl ?_
  refine g_iconst C 0 dX6_init_68 rfl ?_
  refine g_putI C false dX6_init_69 fl_X6_37 fp_X6_6_6 (fun q => Bool.noConfusion q) rfl E (fun h17 E => ?_)
  refine g_aload_n C 0 dX6_init_72 rfl rfl ?_
  refine g_iconst C 1 dX6_init_73 rfl ?_
  refine g_putZ C false dX6_init_74 fl_X6_40 fp_X6_6_7 (fun q => Bool.noConfusion q) rfl E (fun h18 E => ?_)
  refine g_aload_n C 0 dX6_init_77 rfl rfl ?_
  refine g_sipush C 10000 dX6_init_78 rfl ?_
  refine g_putI C false dX6_init_81 fl_X6_44 fp_X6_6_8 (fun q => Bool.noConfusion q) rfl E (fun h19 E => ?_)
  refine g_aload_n C 0 dX6_init_84 rfl rfl ?_
  refine g_iconst C 0 dX6_init_85 rfl ?_
  refine g_putI C false dX6_init_86 fl_X6_47 fp_X6_6_9 (fun q => Bool.noConfusion q) rfl E (fun h20 E => ?_)
  refine g_aload_n C 0 dX6_init_89 rfl rfl ?_
  refine g_iconst C 0 dX6_init_90 rfl ?_
  refine g_putI C false dX6_init_91 fl_X6_50 fp_X6_6_10 (fun q => Bool.noConfusion q) rfl E (fun h21 E => ?_)
  refine g_new C tyX4 tyX4_ok rfl (by decide) rfl inX4 (in_wsA 36 (by decide +kernel) rfl) (in_wsA 37 (by decide +kernel) rfl) (in_wsA 10 (by decide +kernel) rfl) (df_X4 base) (Nat.le_of_ble_eq_true rfl) (Nat.le_of_ble_eq_true rfl) dX6_init_94 E (fun x22 h23 E => ?_)
  refine g_dup C dX6_init_97 rfl ?_
  refine g_iconst C 0 dX6_init_98 rfl ?_
  refine g_ini C [.int 0] dX6_init_99 cl_X6_55 ci_X4_init rfl rfl ⟨Nat.le_of_ble_eq_true rfl, Nat.le_of_ble_eq_true rfl⟩ (Nat.le_of_ble_eq_true rfl) ⟨Nat.le_of_ble_eq_true rfl, Nat.le_of_ble_eq_true rfl⟩ rfl (fun r' h' E => o_X4_init l base D cA x22 0 h23 r' h' E) E (fun x24 h25 E => ?_)
  refine g_astore_n C (lv' := [(1, .ref (base + x22)), (0, .ref (base + a0))]) dX6_init_102 rfl (by decide) rfl ?_
  refine g_iconst C 0 dX6_init_103 rfl ?_
  refine g_istore_n C (lv' := [(2, .int 0), (1, .ref (base + x22)), (0, .ref (base + a0))]) dX6_init_104 rfl (by decide) rfl ?_
  refine g_sub (lv' := [(0, .ref (base + a0)), (1, .ref (base + x22)), (2, .int 0)]) [2, 1, 0] rfl ?_
  refine o_X6_init_L105 C hr hn ?_ _ _ _ (by decide) (by decide) a0 x22 0 h25 E
  · intro y26 h27 E
    refine g_iconst C 0 dX6_init_131 rfl ?_
    refine g_istore_n C (lv' := [(2, .int 0), (0, .ref (base + y26))]) dX6_init_132 rfl (by decide) rfl ?_
    refine g_sub (lv' := [(0, .ref (base + y26)), (2, .int 0)]) [1, 0] rfl ?_
    exact o_X6_init_L133 C hr hn _ _ _ (by decide) (by decide) y26 0 h27 E
abbrev rm_X1_init : Room := { frames := 4, cells := 181, slots := 1909, locals := 76 }
def s_X1_init_L19 : Nat → Nat → Int32 → Hp → Rv Unit
  | 0, _, _, _ => none
  | n + 1, v0, v1, h =>
    if 4 ≤ v1 then retU h
  else getR h v0 1 0 fun x2 =>
  newO h 6 fun x3 h =>
  bnd (s_X6_init x3 h) fun _ h =>
  stR h x2 24 6 v1 x3 fun h =>
  s_X1_init_L19 n v0 (v1 + 1) h
def s_X1_init (a0 : Nat) (h : Hp) : Rv Unit :=
  newA h 24 4 4 fun x1 h =>
  putR h a0 1 0 x1 fun h =>
  putI h a0 1 1 0 fun h =>
  s_X1_init_L19 5 a0 0 h
set_option maxRecDepth 100000 in
set_option maxHeartbeats 4000000 in
theorem o_X1_init_L19 {l : Launch} {base : Nat} {D : va_G} {cA : Nat → ClassId} {p : Program} {e : Env} {s : State} {m : MethodId} {args : Array Value} {below : List Frame} {meth : Method} {c : Code} (C : GC base D cA p s m args meth c cX1_init 2 RX1) (hr : meth.sig.returnType = none) (hn : meth.name = "<init>") {X : Unit × Hp} : ∀ (n : Nat) (cl sl : Nat) (hcl : cl + n * 36 ≤ 181) (hsl : sl + n * 381 ≤ 1909) (v0 : Nat) (v1 : Int32) (h : Hp), s_X1_init_L19 n v0 v1 h = some X → GW base D cA p l e rm_X1_init s m args below meth c (MQ below (QcU base D cA X.2) args s 181 1909 (AA base)) 2 h cl sl 19 [(0, .ref (base + v0)), (1, .int v1)] [] := by
  intro n
  induction n with
  | zero =>
    intro cl sl hcl hsl v0 v1 h E
    rw [s_X1_init_L19] at E
    cases E
  | succ n ih =>
    intro cl sl hcl hsl v0 v1 h E
    rw [s_X1_init_L19] at E
    refine g_iload_n C 1 dX1_init_19 rfl rfl ?_
    refine g_iconst C 4 dX1_init_20 rfl ?_
    refine g_icmp_ge C 43 dX1_init_21 (by decide) E (fun E => ?_) (fun E => ?_)
    · refine g_widen 181 1909 (by omega) (by omega) ?_
      exact g_vret C dX1_init_43 hr E
    · refine g_aload_n C 0 dX1_init_24 rfl rfl ?_
      refine g_getR C dX1_init_25 fl_X1_11 rfl E (fun x1 E => ?_)
      refine g_iload_n C 1 dX1_init_28 rfl rfl ?_
      refine g_new C tyX6 tyX6_ok rfl (by decide) rfl inX6 (in_wsA 218 (by decide +kernel) rfl) (in_wsA 27 (by decide +kernel) rfl) (in_wsA 9 (by decide +kernel) rfl) (df_X6 base) ((show cl + 1 ≤ 181 by omega)) ((show sl + 11 ≤ 1909 by omega)) dX1_init_29 E (fun x2 h3 E => ?_)
      refine g_dup C dX1_init_32 rfl ?_
      refine g_ini C [] dX1_init_33 cl_X1_21 ci_X6_init rfl rfl ⟨Nat.le_of_ble_eq_true rfl, Nat.le_of_ble_eq_true rfl⟩ (Nat.le_of_ble_eq_true rfl) ⟨(show (cl + 1) + 35 ≤ 181 by omega), (show (sl + 11) + 370 ≤ 1909 by omega)⟩ rfl (fun r' h' E => o_X6_init l base D cA x2 h3 r' h' E) E (fun x4 h5 E => ?_)
      refine g_aast C (r := (RX6, TX6, 11)) 4 (by decide) (by decide) (by decide) rfl rfl dX1_init_36 E (fun h6 E => ?_)
      refine g_iinc C (lv' := [(1, .int (v1 + 1)), (0, .ref (base + v0))]) 1 1 dX1_init_37 rfl rfl (by decide) rfl ?_
      refine g_goto C 19 dX1_init_40 (by decide) ?_
      refine g_sub (lv' := [(0, .ref (base + v0)), (1, .int (v1 + 1))]) [1, 0] rfl ?_
      exact ih ((cl + 1) + 35) ((sl + 11) + 370) (by omega) (by omega) v0 (v1 + 1) h6 E
set_option maxRecDepth 100000 in
set_option maxHeartbeats 4000000 in
theorem o_X1_init (l : Launch) (base : Nat) (D : va_G) (cA : Nat → ClassId) (a0 : Nat) (h : Hp) (r : Unit) (h' : Hp) (E : s_X1_init a0 h = some (r, h')) : Met l yX1_init (.code yX1_init cX1_init 2 none :: wsA) rm_X1_init (PcG base D cA [.ref (base + a0)] h) (QcU base D cA h') 181 1909 (AA base) := by
  refine g_met [.ref (base + a0)] (by decide) (Nat.le_of_ble_eq_true rfl) (fun p e s m args below meth c C hr hn => ?_)
  refine g_lv (lv' := [(0, .ref (base + a0))]) rfl ?_
  unfold s_X1_init at E
  refine g_aload_n C 0 dX1_init_0 rfl rfl ?_
  refine g_obj C dX1_init_1 (in_wsA 217 (by decide +kernel) rfl) (ob_w2) (ob_w3) (Nat.le_of_ble_eq_true rfl) (Nat.le_of_ble_eq_true rfl) ?_
  refine g_aload_n C 0 dX1_init_4 rfl rfl ?_
  refine g_iconst C 4 dX1_init_5 rfl ?_
  refine g_anew C (cap := 4) 4 (by decide) rfl (in_wsA 218 (by decide +kernel) rfl) (C.2.2.2.2.2.2.2.2.2.2.2.2.2.2.2.1) (by decide) (Nat.le_of_ble_eq_true rfl) (Nat.le_of_ble_eq_true rfl) dX1_init_6 E (fun x1 h2 E => ?_)
  refine g_putR C true dX1_init_9 fl_X1_11 ⟨rfl, rfl⟩ fp_X1_1_0 (fun _ => hn) rfl E (fun h3 E => ?_)
  refine g_aload_n C 0 dX1_init_12 rfl rfl ?_
  refine g_iconst C 0 dX1_init_13 rfl ?_
  refine g_putI C false dX1_init_14 fl_X1_17 fp_X1_1_1 (fun q => Bool.noConfusion q) rfl E (fun h4 E => ?_)
  refine g_iconst C 0 dX1_init_17 rfl ?_
  refine g_istore_n C (lv' := [(1, .int 0), (0, .ref (base + a0))]) dX1_init_18 rfl (by decide) rfl ?_
  refine g_sub (lv' := [(0, .ref (base + a0)), (1, .int 0)]) [1, 0] rfl ?_
  exact o_X1_init_L19 C hr hn _ _ _ (by decide) (by decide) a0 0 h4 E
abbrev rm_X1_dropOldest : Room := { frames := 0, cells := 0, slots := 0, locals := 0 }
def s_X1_dropOldest_L9 : Nat → Nat → Nat → Int32 → Hp → Rv Unit
  | 0, _, _, _, _ => none
  | n + 1, v0, v1, v2, h =>
    if 4 ≤ v2 then getR h v0 1 0 fun x3 =>
  stR h x3 24 6 3 v1 fun h =>
  getI h v0 1 1 fun x4 =>
  putI h v0 1 1 (x4 - 1) fun h =>
  retU h
  else getR h v0 1 0 fun x5 =>
  getR h v0 1 0 fun x6 =>
  ldR h x6 24 v2 fun x7 =>
  stR h x5 24 6 (v2 - 1) x7 fun h =>
  s_X1_dropOldest_L9 n v0 v1 (v2 + 1) h
def s_X1_dropOldest (a0 : Nat) (h : Hp) : Rv Unit :=
  getR h a0 1 0 fun x1 =>
  ldR h x1 24 0 fun x2 =>
  s_X1_dropOldest_L9 100000 a0 x2 1 h
set_option maxRecDepth 100000 in
set_option maxHeartbeats 4000000 in
theorem o_X1_dropOldest_L9 {l : Launch} {base : Nat} {D : va_G} {cA : Nat → ClassId} {p : Program} {e : Env} {s : State} {m : MethodId} {args : Array Value} {below : List Frame} {meth : Method} {c : Code} (C : GC base D cA p s m args meth c cX1_dropOldest 3 RX1) (hr : meth.sig.returnType = none) {X : Unit × Hp} : ∀ (n : Nat) (v0 : Nat) (v1 : Nat) (v2 : Int32) (h : Hp), s_X1_dropOldest_L9 n v0 v1 v2 h = some X → GW base D cA p l e rm_X1_dropOldest s m args below meth c (MQ below (QcU base D cA X.2) args s 0 0 (AA base)) 3 h 0 0 9 [(0, .ref (base + v0)), (1, .ref (base + v1)), (2, .int v2)] [] := by
  intro n
  induction n with
  | zero =>
    intro v0 v1 v2 h E
    rw [s_X1_dropOldest_L9] at E
    cases E
  | succ n ih =>
    intro v0 v1 v2 h E
    rw [s_X1_dropOldest_L9] at E
    refine g_iload_n C 2 dX1_dropOldest_9 rfl rfl ?_
    refine g_iconst C 4 dX1_dropOldest_10 rfl ?_
    refine g_icmp_ge C 34 dX1_dropOldest_11 (by decide) E (fun E => ?_) (fun E => ?_)
    · refine g_aload_n C 0 dX1_dropOldest_34 rfl rfl ?_
      refine g_getR C dX1_dropOldest_35 fl_X1_11 rfl E (fun x1 E => ?_)
      refine g_iconst C 3 dX1_dropOldest_38 rfl ?_
      refine g_aload_n C 1 dX1_dropOldest_39 rfl rfl ?_
      refine g_aast C (r := (RX6, TX6, 11)) 4 (by decide) (by decide) (by decide) rfl rfl dX1_dropOldest_40 E (fun h2 E => ?_)
      refine g_aload_n C 0 dX1_dropOldest_41 rfl rfl ?_
      refine g_dup C dX1_dropOldest_42 rfl ?_
      refine g_getI C dX1_dropOldest_43 fl_X1_17 (by decide) (by decide) E (fun x3 E => ?_)
      refine g_iconst C 1 dX1_dropOldest_46 rfl ?_
      refine g_isub C dX1_dropOldest_47 ?_
      refine g_putI C false dX1_dropOldest_48 fl_X1_17 fp_X1_1_1 (fun q => Bool.noConfusion q) rfl E (fun h4 E => ?_)
      exact g_vret C dX1_dropOldest_51 hr E
    · refine g_aload_n C 0 dX1_dropOldest_14 rfl rfl ?_
      refine g_getR C dX1_dropOldest_15 fl_X1_11 rfl E (fun x5 E => ?_)
      refine g_iload_n C 2 dX1_dropOldest_18 rfl rfl ?_
      refine g_iconst C 1 dX1_dropOldest_19 rfl ?_
      refine g_isub C dX1_dropOldest_20 ?_
      refine g_aload_n C 0 dX1_dropOldest_21 rfl rfl ?_
      refine g_getR C dX1_dropOldest_22 fl_X1_11 rfl E (fun x6 E => ?_)
      refine g_iload_n C 2 dX1_dropOldest_25 rfl rfl ?_
      refine g_aald C 4 (by decide) (by decide) rfl dX1_dropOldest_26 E (fun x7 E => ?_)
      refine g_aast C (r := (RX6, TX6, 11)) 4 (by decide) (by decide) (by decide) rfl rfl dX1_dropOldest_27 E (fun h8 E => ?_)
      refine g_iinc C (lv' := [(2, .int (v2 + 1)), (0, .ref (base + v0)), (1, .ref (base + v1))]) 2 1 dX1_dropOldest_28 rfl rfl (by decide) rfl ?_
      refine g_goto C 9 dX1_dropOldest_31 (by decide) ?_
      refine g_sub (lv' := [(0, .ref (base + v0)), (1, .ref (base + v1)), (2, .int (v2 + 1))]) [1, 2, 0] rfl ?_
      exact ih v0 v1 (v2 + 1) h8 E
set_option maxRecDepth 100000 in
set_option maxHeartbeats 4000000 in
theorem o_X1_dropOldest (l : Launch) (base : Nat) (D : va_G) (cA : Nat → ClassId) (a0 : Nat) (h : Hp) (r : Unit) (h' : Hp) (E : s_X1_dropOldest a0 h = some (r, h')) : Met l yX1_dropOldest (.code yX1_dropOldest cX1_dropOldest 3 none :: wsA) rm_X1_dropOldest (PcG base D cA [.ref (base + a0)] h) (QcU base D cA h') 0 0 (AA base) := by
  refine g_met [.ref (base + a0)] (by decide) (Nat.le_of_ble_eq_true rfl) (fun p e s m args below meth c C hr hn => ?_)
  refine g_lv (lv' := [(0, .ref (base + a0))]) rfl ?_
  unfold s_X1_dropOldest at E
  refine g_aload_n C 0 dX1_dropOldest_0 rfl rfl ?_
  refine g_getR C dX1_dropOldest_1 fl_X1_11 rfl E (fun x1 E => ?_)
  refine g_iconst C 0 dX1_dropOldest_4 rfl ?_
  refine g_aald C 4 (by decide) (by decide) rfl dX1_dropOldest_5 E (fun x2 E => ?_)
  refine g_astore_n C (lv' := [(1, .ref (base + x2)), (0, .ref (base + a0))]) dX1_dropOldest_6 rfl (by decide) rfl ?_
  refine g_iconst C 1 dX1_dropOldest_7 rfl ?_
  refine g_istore_n C (lv' := [(2, .int 1), (1, .ref (base + x2)), (0, .ref (base + a0))]) dX1_dropOldest_8 rfl (by decide) rfl ?_
  refine g_sub (lv' := [(0, .ref (base + a0)), (1, .ref (base + x2)), (2, .int 1)]) [2, 1, 0] rfl ?_
  exact o_X1_dropOldest_L9 C hr _ a0 x2 1 h E
abbrev rm_X7_copyFrom : Room := { frames := 0, cells := 0, slots := 0, locals := 0 }
def s_X7_copyFrom (a0 : Nat) (a1 : Nat) (h : Hp) : Rv Unit :=
  getR h a1 7 0 fun x1 =>
  putR h a0 7 0 x1 fun h =>
  getI h a1 7 1 fun x2 =>
  putI h a0 7 1 x2 fun h =>
  getI h a1 7 2 fun x3 =>
  putI h a0 7 2 x3 fun h =>
  getI h a1 7 3 fun x4 =>
  putI h a0 7 3 x4 fun h =>
  getI h a1 7 4 fun x5 =>
  putI h a0 7 4 x5 fun h =>
  getI h a1 7 5 fun x6 =>
  putI h a0 7 5 x6 fun h =>
  getL h a1 7 6 fun x7 =>
  putL h a0 7 6 x7 fun h =>
  getI h a1 7 7 fun x8 =>
  putI h a0 7 7 x8 fun h =>
  retU h
set_option maxRecDepth 100000 in
set_option maxHeartbeats 4000000 in
theorem o_X7_copyFrom (l : Launch) (base : Nat) (D : va_G) (cA : Nat → ClassId) (a0 : Nat) (a1 : Nat) (h : Hp) (r : Unit) (h' : Hp) (E : s_X7_copyFrom a0 a1 h = some (r, h')) : Met l yX7_copyFrom (.code yX7_copyFrom cX7_copyFrom 2 none :: wsA) rm_X7_copyFrom (PcG base D cA [.ref (base + a0), .ref (base + a1)] h) (QcU base D cA h') 0 0 (AA base) := by
  refine g_met [.ref (base + a0), .ref (base + a1)] (by decide) (Nat.le_of_ble_eq_true rfl) (fun p e s m args below meth c C hr hn => ?_)
  refine g_lv (lv' := [(0, .ref (base + a0)), (1, .ref (base + a1))]) rfl ?_
  unfold s_X7_copyFrom at E
  refine g_aload_n C 0 dX7_copyFrom_0 rfl rfl ?_
  refine g_aload_n C 1 dX7_copyFrom_1 rfl rfl ?_
  refine g_getR C dX7_copyFrom_2 fl_X7_34 rfl E (fun x1 E => ?_)
  refine g_putR C false dX7_copyFrom_5 fl_X7_34 ⟨rfl, rfl⟩ fp_X7_7_0 (fun q => Bool.noConfusion q) rfl E (fun h2 E => ?_)
  refine g_aload_n C 0 dX7_copyFrom_8 rfl rfl ?_
  refine g_aload_n C 1 dX7_copyFrom_9 rfl rfl ?_
  refine g_getI C dX7_copyFrom_10 fl_X7_9 (by decide) (by decide) E (fun x3 E => ?_)
  refine g_putI C false dX7_copyFrom_13 fl_X7_9 fp_X7_7_1 (fun q => Bool.noConfusion q) rfl E (fun h4 E => ?_)
  refine g_aload_n C 0 dX7_copyFrom_16 rfl rfl ?_
  refine g_aload_n C 1 dX7_copyFrom_17 rfl rfl ?_
  refine g_getI C dX7_copyFrom_18 fl_X7_15 (by decide) (by decide) E (fun x5 E => ?_)
  refine g_putI C false dX7_copyFrom_21 fl_X7_15 fp_X7_7_2 (fun q => Bool.noConfusion q) rfl E (fun h6 E => ?_)
  refine g_aload_n C 0 dX7_copyFrom_24 rfl rfl ?_
  refine g_aload_n C 1 dX7_copyFrom_25 rfl rfl ?_
  refine g_getI C dX7_copyFrom_26 fl_X7_18 (by decide) (by decide) E (fun x7 E => ?_)
  refine g_putI C false dX7_copyFrom_29 fl_X7_18 fp_X7_7_3 (fun q => Bool.noConfusion q) rfl E (fun h8 E => ?_)
  refine g_aload_n C 0 dX7_copyFrom_32 rfl rfl ?_
  refine g_aload_n C 1 dX7_copyFrom_33 rfl rfl ?_
  refine g_getI C dX7_copyFrom_34 fl_X7_21 (by decide) (by decide) E (fun x9 E => ?_)
  refine g_putI C false dX7_copyFrom_37 fl_X7_21 fp_X7_7_4 (fun q => Bool.noConfusion q) rfl E (fun h10 E => ?_)
  refine g_aload_n C 0 dX7_copyFrom_40 rfl rfl ?_
  refine g_aload_n C 1 dX7_copyFrom_41 rfl rfl ?_
  refine g_getI C dX7_copyFrom_42 fl_X7_24 (by decide) (by decide) E (fun x11 E => ?_)
  refine g_putI C false dX7_copyFrom_45 fl_X7_24 fp_X7_7_5 (fun q => Bool.noConfusion q) rfl E (fun h12 E => ?_)
  refine g_aload_n C 0 dX7_copyFrom_48 rfl rfl ?_
  refine g_aload_n C 1 dX7_copyFrom_49 rfl rfl ?_
  refine g_getL C dX7_copyFrom_50 fl_X7_27 rfl E (fun x13 E => ?_)
  refine g_putL C false dX7_copyFrom_53 fl_X7_27 fp_X7_7_6 (fun q => Bool.noConfusion q) rfl E (fun h14 E => ?_)
  refine g_aload_n C 0 dX7_copyFrom_56 rfl rfl ?_
  refine g_aload_n C 1 dX7_copyFrom_57 rfl rfl ?_
  refine g_getI C dX7_copyFrom_58 fl_X7_31 (by decide) (by decide) E (fun x15 E => ?_)
  refine g_putI C false dX7_copyFrom_61 fl_X7_31 fp_X7_7_7 (fun q => Bool.noConfusion q) rfl E (fun h16 E => ?_)
  exact g_vret C dX7_copyFrom_64 hr E
abbrev rm_X2_copyFrom : Room := { frames := 1, cells := 0, slots := 0, locals := 21 }
def s_X2_copyFrom (a0 : Nat) (a1 : Nat) (h : Hp) : Rv Unit :=
  getR h a0 2 0 fun x1 =>
  getR h a1 2 0 fun x2 =>
  inv h x1 7 (s_X7_copyFrom x1 x2 h) fun _ h =>
  getI h a1 2 1 fun x3 =>
  putI h a0 2 1 x3 fun h =>
  getI h a1 2 2 fun x4 =>
  putI h a0 2 2 x4 fun h =>
  getI h a1 2 3 fun x5 =>
  putI h a0 2 3 x5 fun h =>
  getI h a1 2 4 fun x6 =>
  putI h a0 2 4 x6 fun h =>
  getI h a1 2 5 fun x7 =>
  putI h a0 2 5 x7 fun h =>
  getI h a1 2 6 fun x8 =>
  putI h a0 2 6 x8 fun h =>
  getI h a1 2 7 fun x9 =>
  putI h a0 2 7 x9 fun h =>
  getI h a1 2 8 fun x10 =>
  putI h a0 2 8 x10 fun h =>
  getI h a1 2 9 fun x11 =>
  putI h a0 2 9 x11 fun h =>
  retU h
set_option maxRecDepth 100000 in
set_option maxHeartbeats 4000000 in
theorem o_X2_copyFrom (l : Launch) (base : Nat) (D : va_G) (cA : Nat → ClassId) (a0 : Nat) (a1 : Nat) (h : Hp) (r : Unit) (h' : Hp) (E : s_X2_copyFrom a0 a1 h = some (r, h')) : Met l yX2_copyFrom (.code yX2_copyFrom cX2_copyFrom 2 none :: wsA) rm_X2_copyFrom (PcG base D cA [.ref (base + a0), .ref (base + a1)] h) (QcU base D cA h') 0 0 (AA base) := by
  refine g_met [.ref (base + a0), .ref (base + a1)] (by decide) (Nat.le_of_ble_eq_true rfl) (fun p e s m args below meth c C hr hn => ?_)
  refine g_lv (lv' := [(0, .ref (base + a0)), (1, .ref (base + a1))]) rfl ?_
  unfold s_X2_copyFrom at E
  refine g_aload_n C 0 dX2_copyFrom_0 rfl rfl ?_
  refine g_getR C dX2_copyFrom_1 fl_X2_44 rfl E (fun x1 E => ?_)
  refine g_aload_n C 1 dX2_copyFrom_4 rfl rfl ?_
  refine g_getR C dX2_copyFrom_5 fl_X2_44 rfl E (fun x2 E => ?_)
  refine g_invU C (q := (RX7, TX7, 8)) [.ref (base + x2)] dX2_copyFrom_8 cl_X2_48 cv_X7_copyFrom rfl (by decide) rfl rfl ⟨Nat.le_of_ble_eq_true rfl, Nat.le_of_ble_eq_true rfl⟩ (Nat.le_of_ble_eq_true rfl) ⟨Nat.le_of_ble_eq_true rfl, Nat.le_of_ble_eq_true rfl⟩ rfl (fun r' h' E => o_X7_copyFrom l base D cA x1 x2 h r' h' E) E (fun x3 h4 E => ?_)
  refine g_aload_n C 0 dX2_copyFrom_11 rfl rfl ?_
  refine g_aload_n C 1 dX2_copyFrom_12 rfl rfl ?_
  refine g_getI C dX2_copyFrom_13 fl_X2_9 (by decide) (by decide) E (fun x5 E => ?_)
  refine g_putI C false dX2_copyFrom_16 fl_X2_9 fp_X2_2_1 (fun q => Bool.noConfusion q) rfl E (fun h6 E => ?_)
  refine g_aload_n C 0 dX2_copyFrom_19 rfl rfl ?_
  refine g_aload_n C 1 dX2_copyFrom_20 rfl rfl ?_
  refine g_getI C dX2_copyFrom_21 fl_X2_15 (by decide) (by decide) E (fun x7 E => ?_)
  refine g_putI C false dX2_copyFrom_24 fl_X2_15 fp_X2_2_2 (fun q => Bool.noConfusion q) rfl E (fun h8 E => ?_)
  refine g_aload_n C 0 dX2_copyFrom_27 rfl rfl ?_
  refine g_aload_n C 1 dX2_copyFrom_28 rfl rfl ?_
  refine g_getI C dX2_copyFrom_29 fl_X2_18 (by decide) (by decide) E (fun x9 E => ?_)
  refine g_putI C false dX2_copyFrom_32 fl_X2_18 fp_X2_2_3 (fun q => Bool.noConfusion q) rfl E (fun h10 E => ?_)
  refine g_aload_n C 0 dX2_copyFrom_35 rfl rfl ?_
  refine g_aload_n C 1 dX2_copyFrom_36 rfl rfl ?_
  refine g_getI C dX2_copyFrom_37 fl_X2_21 (by decide) (by decide) E (fun x11 E => ?_)
  refine g_putI C false dX2_copyFrom_40 fl_X2_21 fp_X2_2_4 (fun q => Bool.noConfusion q) rfl E (fun h12 E => ?_)
  refine g_aload_n C 0 dX2_copyFrom_43 rfl rfl ?_
  refine g_aload_n C 1 dX2_copyFrom_44 rfl rfl ?_
  refine g_getI C dX2_copyFrom_45 fl_X2_24 (by decide) (by decide) E (fun x13 E => ?_)
  refine g_putI C false dX2_copyFrom_48 fl_X2_24 fp_X2_2_5 (fun q => Bool.noConfusion q) rfl E (fun h14 E => ?_)
  refine g_aload_n C 0 dX2_copyFrom_51 rfl rfl ?_
  refine g_aload_n C 1 dX2_copyFrom_52 rfl rfl ?_
  refine g_getI C dX2_copyFrom_53 fl_X2_27 (by decide) (by decide) E (fun x15 E => ?_)
  refine g_putI C false dX2_copyFrom_56 fl_X2_27 fp_X2_2_6 (fun q => Bool.noConfusion q) rfl E (fun h16 E => ?_)
  refine g_aload_n C 0 dX2_copyFrom_59 rfl rfl ?_
  refine g_aload_n C 1 dX2_copyFrom_60 rfl rfl ?_
  refine g_getI C dX2_copyFrom_61 fl_X2_30 (by decide) (by decide) E (fun x17 E => ?_)
  refine g_putI C false dX2_copyFrom_64 fl_X2_30 fp_X2_2_7 (fun q => Bool.noConfusion q) rfl E (fun h18 E => ?_)
  refine g_aload_n C 0 dX2_copyFrom_67 rfl rfl ?_
  refine g_aload_n C 1 dX2_copyFrom_68 rfl rfl ?_
  refine g_getI C dX2_copyFrom_69 fl_X2_33 (by decide) (by decide) E (fun x19 E => ?_)
  refine g_putI C false dX2_copyFrom_72 fl_X2_33 fp_X2_2_8 (fun q => Bool.noConfusion q) rfl E (fun h20 E => ?_)
  refine g_aload_n C 0 dX2_copyFrom_75 rfl rfl ?_
  refine g_aload_n C 1 dX2_copyFrom_76 rfl rfl ?_
  refine g_getI C dX2_copyFrom_77 fl_X2_36 (by decide) (by decide) E (fun x21 E => ?_)
  refine g_putI C false dX2_copyFrom_80 fl_X2_36 fp_X2_2_9 (fun q => Bool.noConfusion q) rfl E (fun h22 E => ?_)
  exact g_vret C dX2_copyFrom_83 hr E
abbrev rm_X3_copyFrom : Room := { frames := 0, cells := 0, slots := 0, locals := 0 }
def s_X3_copyFrom (a0 : Nat) (a1 : Nat) (h : Hp) : Rv Unit :=
  getI h a1 3 0 fun x1 =>
  putI h a0 3 0 x1 fun h =>
  getI h a1 3 1 fun x2 =>
  putI h a0 3 1 x2 fun h =>
  getI h a1 3 2 fun x3 =>
  putI h a0 3 2 x3 fun h =>
  getI h a1 3 3 fun x4 =>
  putI h a0 3 3 x4 fun h =>
  getI h a1 3 4 fun x5 =>
  putI h a0 3 4 x5 fun h =>
  retU h
set_option maxRecDepth 100000 in
set_option maxHeartbeats 4000000 in
theorem o_X3_copyFrom (l : Launch) (base : Nat) (D : va_G) (cA : Nat → ClassId) (a0 : Nat) (a1 : Nat) (h : Hp) (r : Unit) (h' : Hp) (E : s_X3_copyFrom a0 a1 h = some (r, h')) : Met l yX3_copyFrom (.code yX3_copyFrom cX3_copyFrom 2 none :: wsA) rm_X3_copyFrom (PcG base D cA [.ref (base + a0), .ref (base + a1)] h) (QcU base D cA h') 0 0 (AA base) := by
  refine g_met [.ref (base + a0), .ref (base + a1)] (by decide) (Nat.le_of_ble_eq_true rfl) (fun p e s m args below meth c C hr hn => ?_)
  refine g_lv (lv' := [(0, .ref (base + a0)), (1, .ref (base + a1))]) rfl ?_
  unfold s_X3_copyFrom at E
  refine g_aload_n C 0 dX3_copyFrom_0 rfl rfl ?_
  refine g_aload_n C 1 dX3_copyFrom_1 rfl rfl ?_
  refine g_getI C dX3_copyFrom_2 fl_X3_9 (by decide) (by decide) E (fun x1 E => ?_)
  refine g_putI C false dX3_copyFrom_5 fl_X3_9 fp_X3_3_0 (fun q => Bool.noConfusion q) rfl E (fun h2 E => ?_)
  refine g_aload_n C 0 dX3_copyFrom_8 rfl rfl ?_
  refine g_aload_n C 1 dX3_copyFrom_9 rfl rfl ?_
  refine g_getI C dX3_copyFrom_10 fl_X3_15 (by decide) (by decide) E (fun x3 E => ?_)
  refine g_putI C false dX3_copyFrom_13 fl_X3_15 fp_X3_3_1 (fun q => Bool.noConfusion q) rfl E (fun h4 E => ?_)
  refine g_aload_n C 0 dX3_copyFrom_16 rfl rfl ?_
  refine g_aload_n C 1 dX3_copyFrom_17 rfl rfl ?_
  refine g_getI C dX3_copyFrom_18 fl_X3_18 (by decide) (by decide) E (fun x5 E => ?_)
  refine g_putI C false dX3_copyFrom_21 fl_X3_18 fp_X3_3_2 (fun q => Bool.noConfusion q) rfl E (fun h6 E => ?_)
  refine g_aload_n C 0 dX3_copyFrom_24 rfl rfl ?_
  refine g_aload_n C 1 dX3_copyFrom_25 rfl rfl ?_
  refine g_getI C dX3_copyFrom_26 fl_X3_21 (by decide) (by decide) E (fun x7 E => ?_)
  refine g_putI C false dX3_copyFrom_29 fl_X3_21 fp_X3_3_3 (fun q => Bool.noConfusion q) rfl E (fun h8 E => ?_)
  refine g_aload_n C 0 dX3_copyFrom_32 rfl rfl ?_
  refine g_aload_n C 1 dX3_copyFrom_33 rfl rfl ?_
  refine g_getI C dX3_copyFrom_34 fl_X3_24 (by decide) (by decide) E (fun x9 E => ?_)
  refine g_putI C false dX3_copyFrom_37 fl_X3_24 fp_X3_3_4 (fun q => Bool.noConfusion q) rfl E (fun h10 E => ?_)
  exact g_vret C dX3_copyFrom_40 hr E
