abbrev rm_X10_low : Room := { frames := 0, cells := 0, slots := 0, locals := 0 }
def s_X10_low (a0 : Int32) (a1 : Int32) (h : Hp) : Rv Int32 :=
  remI (a0 &&& 2147483647) a1 fun x1 =>
  retI x1 h
set_option maxRecDepth 100000 in
set_option maxHeartbeats 4000000 in
theorem o_X10_low (l : Launch) (base : Nat) (D : va_G) (cA : Nat → ClassId) (a0 : Int32) (a1 : Int32) (h : Hp) (r : Int32) (h' : Hp) (E : s_X10_low a0 a1 h = some (r, h')) : Met l yX10_low (.code yX10_low cX10_low 2 (some .int) :: wsA) rm_X10_low (PcG base D cA [.int a0, .int a1] h) (QcI base D cA r h') 0 0 (AA base) := by
  refine g_met [.int a0, .int a1] (by decide) (Nat.le_of_ble_eq_true rfl) (fun p e s m args below meth c C hr hn => ?_)
  refine g_lv (lv' := [(0, .int a0), (1, .int a1)]) rfl ?_
  unfold s_X10_low at E
  refine g_iload_n C 0 dX10_low_0 rfl rfl ?_
  refine g_ldc C 2147483647 dX10_low_1 (in_wsA 529 (by decide +kernel) rfl) ?_
  refine g_iand C dX10_low_3 ?_
  refine g_iload_n C 1 dX10_low_4 rfl rfl ?_
  refine g_irem C dX10_low_5 E (fun x1 E => ?_)
  exact g_iret C dX10_low_6 hr E
abbrev rm_X10_shares : Room := { frames := 0, cells := 0, slots := 0, locals := 0 }
def s_X10_shares_J46 (k11 : Int32 → Nat → Nat → Int32 → Int32 → Hp → Rv Int32) (v0 : Int32) (v1 : Nat) (v3 : Nat) (v5 : Int32) (w0 : Int32) (w1 : Int32) (h : Hp) : Rv Int32 :=
  ldI h v3 20 (5 * v5) fun x4 =>
  if x4 = v0 then ldI h v3 20 ((5 * v5) + 2) fun x5 =>
  k11 v0 v1 v3 (w0 + (w1 - x5)) (v5 + 1) h
  else k11 v0 v1 v3 (w0 + (w1 - 0)) (v5 + 1) h
def s_X10_shares_L11 : Nat → Int32 → Nat → Nat → Int32 → Int32 → Hp → Rv Int32
  | 0, _, _, _, _, _, _ => none
  | n + 1, v0, v1, v3, v4, v5, h =>
    ldI h v1 20 7 fun x2 =>
  if x2 ≤ v5 then retI v4 h
  else ldI h v3 20 ((5 * v5) + 1) fun x3 =>
  if x3 = v0 then ldI h v3 20 ((5 * v5) + 2) fun x6 =>
  s_X10_shares_J46 (fun y0 y1 y2 y3 y4 h => s_X10_shares_L11 n y0 y1 y2 y3 y4 h) v0 v1 v3 v5 v4 x6 h
  else s_X10_shares_J46 (fun y0 y1 y2 y3 y4 h => s_X10_shares_L11 n y0 y1 y2 y3 y4 h) v0 v1 v3 v5 v4 0 h
def s_X10_shares (a0 : Int32) (a1 : Nat) (a2 : Nat) (a3 : Nat) (h : Hp) : Rv Int32 :=
  ldI h a2 20 (16 * a0) fun x1 =>
  s_X10_shares_L11 100000 a0 a1 a3 x1 0 h
set_option maxRecDepth 100000 in
set_option maxHeartbeats 4000000 in
theorem o_X10_shares_J46 {l : Launch} {base : Nat} {D : va_G} {cA : Nat → ClassId} {p : Program} {e : Env} {s : State} {m : MethodId} {args : Array Value} {below : List Frame} {meth : Method} {c : Code} (C : GC base D cA p s m args meth c cX10_shares 6 RX10) (hr : meth.sig.returnType = (some .int)) {X : Int32 × Hp} {k11 : Int32 → Nat → Nat → Int32 → Int32 → Hp → Rv Int32} (K11 : ∀ (y0 : Int32) (y1 : Nat) (y2 : Nat) (y3 : Int32) (y4 : Int32) (h : Hp), k11 y0 y1 y2 y3 y4 h = some X → GW base D cA p l e rm_X10_shares s m args below meth c (MQ below (QcI base D cA X.1 X.2) args s 0 0 (AA base)) 6 h 0 0 11 [(0, .int y0), (1, .ref (base + y1)), (3, .ref (base + y2)), (4, .int y3), (5, .int y4)] []) : ∀ (v0 : Int32) (v1 : Nat) (v3 : Nat) (v5 : Int32) (w0 : Int32) (w1 : Int32) (h : Hp), s_X10_shares_J46 k11 v0 v1 v3 v5 w0 w1 h = some X → GW base D cA p l e rm_X10_shares s m args below meth c (MQ below (QcI base D cA X.1 X.2) args s 0 0 (AA base)) 6 h 0 0 46 [(0, .int v0), (1, .ref (base + v1)), (3, .ref (base + v3)), (5, .int v5)] [.int w1, .int w0] := by
  intro v0 v1 v3 v5 w0 w1 h E
  unfold s_X10_shares_J46 at E
  refine g_aload_n C 2 dX10_shares_46 rfl rfl ?_
  refine g_iconst C 5 dX10_shares_47 rfl ?_
  refine g_iload C 3 dX10_shares_48 rfl ?_
  refine g_imul C dX10_shares_50 ?_
  refine g_iald C dX10_shares_51 E (fun x1 E => ?_)
  refine g_iload_n C 0 dX10_shares_52 rfl rfl ?_
  refine g_icmp_ne C 67 dX10_shares_53 (by decide) E (fun E => ?_) (fun E => ?_)
  · refine g_iconst C 0 dX10_shares_67 rfl ?_
    refine g_isub C dX10_shares_68 ?_
    refine g_iadd C dX10_shares_69 ?_
    refine g_istore C (lv' := [(4, .int (w0 + (w1 - 0))), (0, .int v0), (1, .ref (base + v1)), (3, .ref (base + v3)), (5, .int v5)]) dX10_shares_70 (by decide) rfl ?_
    refine g_iinc C (lv' := [(5, .int (v5 + 1)), (4, .int (w0 + (w1 - 0))), (0, .int v0), (1, .ref (base + v1)), (3, .ref (base + v3))]) 4 1 dX10_shares_72 rfl rfl (by decide) rfl ?_
    refine g_goto C 11 dX10_shares_75 (by decide) ?_
    refine g_sub (lv' := [(0, .int v0), (1, .ref (base + v1)), (3, .ref (base + v3)), (4, .int (w0 + (w1 - 0))), (5, .int (v5 + 1))]) [2, 3, 4, 1, 0] rfl ?_
    exact K11 v0 v1 v3 (w0 + (w1 - 0)) (v5 + 1) h E
  · refine g_aload_n C 2 dX10_shares_56 rfl rfl ?_
    refine g_iconst C 5 dX10_shares_57 rfl ?_
    refine g_iload C 3 dX10_shares_58 rfl ?_
    refine g_imul C dX10_shares_60 ?_
    refine g_iconst C 2 dX10_shares_61 rfl ?_
    refine g_iadd C dX10_shares_62 ?_
    refine g_iald C dX10_shares_63 E (fun x2 E => ?_)
    refine g_goto C 68 dX10_shares_64 (by decide) ?_
    refine g_isub C dX10_shares_68 ?_
    refine g_iadd C dX10_shares_69 ?_
    refine g_istore C (lv' := [(4, .int (w0 + (w1 - x2))), (0, .int v0), (1, .ref (base + v1)), (3, .ref (base + v3)), (5, .int v5)]) dX10_shares_70 (by decide) rfl ?_
    refine g_iinc C (lv' := [(5, .int (v5 + 1)), (4, .int (w0 + (w1 - x2))), (0, .int v0), (1, .ref (base + v1)), (3, .ref (base + v3))]) 4 1 dX10_shares_72 rfl rfl (by decide) rfl ?_
    refine g_goto C 11 dX10_shares_75 (by decide) ?_
    refine g_sub (lv' := [(0, .int v0), (1, .ref (base + v1)), (3, .ref (base + v3)), (4, .int (w0 + (w1 - x2))), (5, .int (v5 + 1))]) [2, 3, 4, 1, 0] rfl ?_
    exact K11 v0 v1 v3 (w0 + (w1 - x2)) (v5 + 1) h E
set_option maxRecDepth 100000 in
set_option maxHeartbeats 4000000 in
theorem o_X10_shares_L11 {l : Launch} {base : Nat} {D : va_G} {cA : Nat → ClassId} {p : Program} {e : Env} {s : State} {m : MethodId} {args : Array Value} {below : List Frame} {meth : Method} {c : Code} (C : GC base D cA p s m args meth c cX10_shares 6 RX10) (hr : meth.sig.returnType = (some .int)) {X : Int32 × Hp} : ∀ (n : Nat) (v0 : Int32) (v1 : Nat) (v3 : Nat) (v4 : Int32) (v5 : Int32) (h : Hp), s_X10_shares_L11 n v0 v1 v3 v4 v5 h = some X → GW base D cA p l e rm_X10_shares s m args below meth c (MQ below (QcI base D cA X.1 X.2) args s 0 0 (AA base)) 6 h 0 0 11 [(0, .int v0), (1, .ref (base + v1)), (3, .ref (base + v3)), (4, .int v4), (5, .int v5)] [] := by
  intro n
  induction n with
  | zero =>
    intro v0 v1 v3 v4 v5 h E
    rw [s_X10_shares_L11] at E
    cases E
  | succ n ih =>
    intro v0 v1 v3 v4 v5 h E
    rw [s_X10_shares_L11] at E
    refine g_iload C 4 dX10_shares_11 rfl ?_
    refine g_aload_n C 1 dX10_shares_13 rfl rfl ?_
    refine g_bipush C 7 dX10_shares_14 rfl ?_
    refine g_iald C dX10_shares_16 E (fun x1 E => ?_)
    refine g_icmp_ge C 78 dX10_shares_17 (by decide) E (fun E => ?_) (fun E => ?_)
    · refine g_iload C 3 dX10_shares_78 rfl ?_
      exact g_iret C dX10_shares_80 hr E
    · refine g_iload C 3 dX10_shares_20 rfl ?_
      refine g_aload_n C 2 dX10_shares_22 rfl rfl ?_
      refine g_iconst C 5 dX10_shares_23 rfl ?_
      refine g_iload C 4 dX10_shares_24 rfl ?_
      refine g_imul C dX10_shares_26 ?_
      refine g_iconst C 1 dX10_shares_27 rfl ?_
      refine g_iadd C dX10_shares_28 ?_
      refine g_iald C dX10_shares_29 E (fun x2 E => ?_)
      refine g_iload_n C 0 dX10_shares_30 rfl rfl ?_
      refine g_icmp_ne C 45 dX10_shares_31 (by decide) E (fun E => ?_) (fun E => ?_)
      · refine g_iconst C 0 dX10_shares_45 rfl ?_
        refine g_sub (lv' := [(0, .int v0), (1, .ref (base + v1)), (3, .ref (base + v3)), (5, .int v5)]) [0, 1, 2, 4] rfl ?_
        refine o_X10_shares_J46 C hr ?_ v0 v1 v3 v5 v4 0 h E
        · intro y3 y4 y5 y6 y7 h8 E
          refine g_sub (lv' := [(0, .int y3), (1, .ref (base + y4)), (3, .ref (base + y5)), (4, .int y6), (5, .int y7)]) [0, 1, 2, 3, 4] rfl ?_
          exact ih y3 y4 y5 y6 y7 h8 E
      · refine g_aload_n C 2 dX10_shares_34 rfl rfl ?_
        refine g_iconst C 5 dX10_shares_35 rfl ?_
        refine g_iload C 4 dX10_shares_36 rfl ?_
        refine g_imul C dX10_shares_38 ?_
        refine g_iconst C 2 dX10_shares_39 rfl ?_
        refine g_iadd C dX10_shares_40 ?_
        refine g_iald C dX10_shares_41 E (fun x9 E => ?_)
        refine g_goto C 46 dX10_shares_42 (by decide) ?_
        refine g_sub (lv' := [(0, .int v0), (1, .ref (base + v1)), (3, .ref (base + v3)), (5, .int v5)]) [0, 1, 2, 4] rfl ?_
        refine o_X10_shares_J46 C hr ?_ v0 v1 v3 v5 v4 x9 h E
        · intro y10 y11 y12 y13 y14 h15 E
          refine g_sub (lv' := [(0, .int y10), (1, .ref (base + y11)), (3, .ref (base + y12)), (4, .int y13), (5, .int y14)]) [0, 1, 2, 3, 4] rfl ?_
          exact ih y10 y11 y12 y13 y14 h15 E
set_option maxRecDepth 100000 in
set_option maxHeartbeats 4000000 in
theorem o_X10_shares (l : Launch) (base : Nat) (D : va_G) (cA : Nat → ClassId) (a0 : Int32) (a1 : Nat) (a2 : Nat) (a3 : Nat) (h : Hp) (r : Int32) (h' : Hp) (E : s_X10_shares a0 a1 a2 a3 h = some (r, h')) : Met l yX10_shares (.code yX10_shares cX10_shares 6 (some .int) :: wsA) rm_X10_shares (PcG base D cA [.int a0, .ref (base + a1), .ref (base + a2), .ref (base + a3)] h) (QcI base D cA r h') 0 0 (AA base) := by
  refine g_met [.int a0, .ref (base + a1), .ref (base + a2), .ref (base + a3)] (by decide) (Nat.le_of_ble_eq_true rfl) (fun p e s m args below meth c C hr hn => ?_)
  refine g_lv (lv' := [(0, .int a0), (1, .ref (base + a1)), (2, .ref (base + a2)), (3, .ref (base + a3))]) rfl ?_
  unfold s_X10_shares at E
  refine g_aload_n C 2 dX10_shares_0 rfl rfl ?_
  refine g_bipush C 16 dX10_shares_1 rfl ?_
  refine g_iload_n C 0 dX10_shares_3 rfl rfl ?_
  refine g_imul C dX10_shares_4 ?_
  refine g_iald C dX10_shares_5 E (fun x1 E => ?_)
  refine g_istore C (lv' := [(4, .int x1), (0, .int a0), (1, .ref (base + a1)), (2, .ref (base + a2)), (3, .ref (base + a3))]) dX10_shares_6 (by decide) rfl ?_
  refine g_iconst C 0 dX10_shares_8 rfl ?_
  refine g_istore C (lv' := [(5, .int 0), (4, .int x1), (0, .int a0), (1, .ref (base + a1)), (2, .ref (base + a2)), (3, .ref (base + a3))]) dX10_shares_9 (by decide) rfl ?_
  refine g_sub (lv' := [(0, .int a0), (1, .ref (base + a1)), (3, .ref (base + a3)), (4, .int x1), (5, .int 0)]) [2, 3, 5, 1, 0] rfl ?_
  exact o_X10_shares_L11 C hr _ a0 a1 a3 x1 0 h E
abbrev rm_X10_unlent : Room := { frames := 0, cells := 0, slots := 0, locals := 0 }
def s_X10_unlent_L11 : Nat → Int32 → Nat → Nat → Int32 → Int32 → Hp → Rv Int32
  | 0, _, _, _, _, _, _ => none
  | n + 1, v0, v1, v3, v4, v5, h =>
    ldI h v1 20 7 fun x2 =>
  if x2 ≤ v5 then retI v4 h
  else ldI h v3 20 (5 * v5) fun x3 =>
  if x3 = v0 then ldI h v3 20 ((5 * v5) + 2) fun x4 =>
  s_X10_unlent_L11 n v0 v1 v3 (v4 - x4) (v5 + 1) h
  else s_X10_unlent_L11 n v0 v1 v3 (v4 - 0) (v5 + 1) h
def s_X10_unlent (a0 : Int32) (a1 : Nat) (a2 : Nat) (a3 : Nat) (h : Hp) : Rv Int32 :=
  ldI h a2 20 (16 * a0) fun x1 =>
  s_X10_unlent_L11 100000 a0 a1 a3 x1 0 h
set_option maxRecDepth 100000 in
set_option maxHeartbeats 4000000 in
theorem o_X10_unlent_L11 {l : Launch} {base : Nat} {D : va_G} {cA : Nat → ClassId} {p : Program} {e : Env} {s : State} {m : MethodId} {args : Array Value} {below : List Frame} {meth : Method} {c : Code} (C : GC base D cA p s m args meth c cX10_unlent 6 RX10) (hr : meth.sig.returnType = (some .int)) {X : Int32 × Hp} : ∀ (n : Nat) (v0 : Int32) (v1 : Nat) (v3 : Nat) (v4 : Int32) (v5 : Int32) (h : Hp), s_X10_unlent_L11 n v0 v1 v3 v4 v5 h = some X → GW base D cA p l e rm_X10_unlent s m args below meth c (MQ below (QcI base D cA X.1 X.2) args s 0 0 (AA base)) 6 h 0 0 11 [(0, .int v0), (1, .ref (base + v1)), (3, .ref (base + v3)), (4, .int v4), (5, .int v5)] [] := by
  intro n
  induction n with
  | zero =>
    intro v0 v1 v3 v4 v5 h E
    rw [s_X10_unlent_L11] at E
    cases E
  | succ n ih =>
    intro v0 v1 v3 v4 v5 h E
    rw [s_X10_unlent_L11] at E
    refine g_iload C 4 dX10_unlent_11 rfl ?_
    refine g_aload_n C 1 dX10_unlent_13 rfl rfl ?_
    refine g_bipush C 7 dX10_unlent_14 rfl ?_
    refine g_iald C dX10_unlent_16 E (fun x1 E => ?_)
    refine g_icmp_ge C 53 dX10_unlent_17 (by decide) E (fun E => ?_) (fun E => ?_)
    · refine g_iload C 3 dX10_unlent_53 rfl ?_
      exact g_iret C dX10_unlent_55 hr E
    · refine g_iload C 3 dX10_unlent_20 rfl ?_
      refine g_aload_n C 2 dX10_unlent_22 rfl rfl ?_
      refine g_iconst C 5 dX10_unlent_23 rfl ?_
      refine g_iload C 4 dX10_unlent_24 rfl ?_
      refine g_imul C dX10_unlent_26 ?_
      refine g_iald C dX10_unlent_27 E (fun x2 E => ?_)
      refine g_iload_n C 0 dX10_unlent_28 rfl rfl ?_
      refine g_icmp_ne C 43 dX10_unlent_29 (by decide) E (fun E => ?_) (fun E => ?_)
      · refine g_iconst C 0 dX10_unlent_43 rfl ?_
        refine g_isub C dX10_unlent_44 ?_
        refine g_istore C (lv' := [(4, .int (v4 - 0)), (0, .int v0), (1, .ref (base + v1)), (3, .ref (base + v3)), (5, .int v5)]) dX10_unlent_45 (by decide) rfl ?_
        refine g_iinc C (lv' := [(5, .int (v5 + 1)), (4, .int (v4 - 0)), (0, .int v0), (1, .ref (base + v1)), (3, .ref (base + v3))]) 4 1 dX10_unlent_47 rfl rfl (by decide) rfl ?_
        refine g_goto C 11 dX10_unlent_50 (by decide) ?_
        refine g_sub (lv' := [(0, .int v0), (1, .ref (base + v1)), (3, .ref (base + v3)), (4, .int (v4 - 0)), (5, .int (v5 + 1))]) [2, 3, 4, 1, 0] rfl ?_
        exact ih v0 v1 v3 (v4 - 0) (v5 + 1) h E
      · refine g_aload_n C 2 dX10_unlent_32 rfl rfl ?_
        refine g_iconst C 5 dX10_unlent_33 rfl ?_
        refine g_iload C 4 dX10_unlent_34 rfl ?_
        refine g_imul C dX10_unlent_36 ?_
        refine g_iconst C 2 dX10_unlent_37 rfl ?_
        refine g_iadd C dX10_unlent_38 ?_
        refine g_iald C dX10_unlent_39 E (fun x3 E => ?_)
        refine g_goto C 44 dX10_unlent_40 (by decide) ?_
        refine g_isub C dX10_unlent_44 ?_
        refine g_istore C (lv' := [(4, .int (v4 - x3)), (0, .int v0), (1, .ref (base + v1)), (3, .ref (base + v3)), (5, .int v5)]) dX10_unlent_45 (by decide) rfl ?_
        refine g_iinc C (lv' := [(5, .int (v5 + 1)), (4, .int (v4 - x3)), (0, .int v0), (1, .ref (base + v1)), (3, .ref (base + v3))]) 4 1 dX10_unlent_47 rfl rfl (by decide) rfl ?_
        refine g_goto C 11 dX10_unlent_50 (by decide) ?_
        refine g_sub (lv' := [(0, .int v0), (1, .ref (base + v1)), (3, .ref (base + v3)), (4, .int (v4 - x3)), (5, .int (v5 + 1))]) [2, 3, 4, 1, 0] rfl ?_
        exact ih v0 v1 v3 (v4 - x3) (v5 + 1) h E
set_option maxRecDepth 100000 in
set_option maxHeartbeats 4000000 in
theorem o_X10_unlent (l : Launch) (base : Nat) (D : va_G) (cA : Nat → ClassId) (a0 : Int32) (a1 : Nat) (a2 : Nat) (a3 : Nat) (h : Hp) (r : Int32) (h' : Hp) (E : s_X10_unlent a0 a1 a2 a3 h = some (r, h')) : Met l yX10_unlent (.code yX10_unlent cX10_unlent 6 (some .int) :: wsA) rm_X10_unlent (PcG base D cA [.int a0, .ref (base + a1), .ref (base + a2), .ref (base + a3)] h) (QcI base D cA r h') 0 0 (AA base) := by
  refine g_met [.int a0, .ref (base + a1), .ref (base + a2), .ref (base + a3)] (by decide) (Nat.le_of_ble_eq_true rfl) (fun p e s m args below meth c C hr hn => ?_)
  refine g_lv (lv' := [(0, .int a0), (1, .ref (base + a1)), (2, .ref (base + a2)), (3, .ref (base + a3))]) rfl ?_
  unfold s_X10_unlent at E
  refine g_aload_n C 2 dX10_unlent_0 rfl rfl ?_
  refine g_bipush C 16 dX10_unlent_1 rfl ?_
  refine g_iload_n C 0 dX10_unlent_3 rfl rfl ?_
  refine g_imul C dX10_unlent_4 ?_
  refine g_iald C dX10_unlent_5 E (fun x1 E => ?_)
  refine g_istore C (lv' := [(4, .int x1), (0, .int a0), (1, .ref (base + a1)), (2, .ref (base + a2)), (3, .ref (base + a3))]) dX10_unlent_6 (by decide) rfl ?_
  refine g_iconst C 0 dX10_unlent_8 rfl ?_
  refine g_istore C (lv' := [(5, .int 0), (4, .int x1), (0, .int a0), (1, .ref (base + a1)), (2, .ref (base + a2)), (3, .ref (base + a3))]) dX10_unlent_9 (by decide) rfl ?_
  refine g_sub (lv' := [(0, .int a0), (1, .ref (base + a1)), (3, .ref (base + a3)), (4, .int x1), (5, .int 0)]) [2, 3, 5, 1, 0] rfl ?_
  exact o_X10_unlent_L11 C hr _ a0 a1 a3 x1 0 h E
abbrev rm_X10_temperature : Room := { frames := 0, cells := 0, slots := 0, locals := 0 }
def s_X10_temperature (a0 : Int32) (a1 : Nat) (h : Hp) : Rv Int32 :=
  ldI h a1 20 ((16 * a0) + 7) fun x1 =>
  if x1 = 0 then retI 15 h
  else ldI h a1 20 ((16 * a0) + 8) fun x2 =>
  ldI h a1 20 ((16 * a0) + 7) fun x3 =>
  divI x2 (4 * x3) fun x4 =>
  retI x4 h
set_option maxRecDepth 100000 in
set_option maxHeartbeats 4000000 in
theorem o_X10_temperature (l : Launch) (base : Nat) (D : va_G) (cA : Nat → ClassId) (a0 : Int32) (a1 : Nat) (h : Hp) (r : Int32) (h' : Hp) (E : s_X10_temperature a0 a1 h = some (r, h')) : Met l yX10_temperature (.code yX10_temperature cX10_temperature 2 (some .int) :: wsA) rm_X10_temperature (PcG base D cA [.int a0, .ref (base + a1)] h) (QcI base D cA r h') 0 0 (AA base) := by
  refine g_met [.int a0, .ref (base + a1)] (by decide) (Nat.le_of_ble_eq_true rfl) (fun p e s m args below meth c C hr hn => ?_)
  refine g_lv (lv' := [(0, .int a0), (1, .ref (base + a1))]) rfl ?_
  unfold s_X10_temperature at E
  refine g_aload_n C 1 dX10_temperature_0 rfl rfl ?_
  refine g_bipush C 16 dX10_temperature_1 rfl ?_
  refine g_iload_n C 0 dX10_temperature_3 rfl rfl ?_
  refine g_imul C dX10_temperature_4 ?_
  refine g_bipush C 7 dX10_temperature_5 rfl ?_
  refine g_iadd C dX10_temperature_7 ?_
  refine g_iald C dX10_temperature_8 E (fun x1 E => ?_)
  refine g_if_ne C 17 dX10_temperature_9 (by decide) E (fun E => ?_) (fun E => ?_)
  · refine g_aload_n C 1 dX10_temperature_17 rfl rfl ?_
    refine g_bipush C 16 dX10_temperature_18 rfl ?_
    refine g_iload_n C 0 dX10_temperature_20 rfl rfl ?_
    refine g_imul C dX10_temperature_21 ?_
    refine g_bipush C 8 dX10_temperature_22 rfl ?_
    refine g_iadd C dX10_temperature_24 ?_
    refine g_iald C dX10_temperature_25 E (fun x2 E => ?_)
    refine g_iconst C 4 dX10_temperature_26 rfl ?_
    refine g_aload_n C 1 dX10_temperature_27 rfl rfl ?_
    refine g_bipush C 16 dX10_temperature_28 rfl ?_
    refine g_iload_n C 0 dX10_temperature_30 rfl rfl ?_
    refine g_imul C dX10_temperature_31 ?_
    refine g_bipush C 7 dX10_temperature_32 rfl ?_
    refine g_iadd C dX10_temperature_34 ?_
    refine g_iald C dX10_temperature_35 E (fun x3 E => ?_)
    refine g_imul C dX10_temperature_36 ?_
    refine g_idiv C dX10_temperature_37 E (fun x4 E => ?_)
    exact g_iret C dX10_temperature_38 hr E
  · refine g_bipush C 15 dX10_temperature_12 rfl ?_
    refine g_goto C 38 dX10_temperature_14 (by decide) ?_
    exact g_iret C dX10_temperature_38 hr E
abbrev rm_X10_letter : Room := { frames := 0, cells := 0, slots := 0, locals := 0 }
def s_X10_letter (a0 : Int32) (a1 : Nat) (a2 : Nat) (h : Hp) : Rv Int32 :=
  ldI h a1 20 ((16 * a0) + 6) fun x1 =>
  ldI h a2 20 ((8 * a0) + x1) fun x2 =>
  remI x2 1000 fun x3 =>
  retI x3 h
set_option maxRecDepth 100000 in
set_option maxHeartbeats 4000000 in
theorem o_X10_letter (l : Launch) (base : Nat) (D : va_G) (cA : Nat → ClassId) (a0 : Int32) (a1 : Nat) (a2 : Nat) (h : Hp) (r : Int32) (h' : Hp) (E : s_X10_letter a0 a1 a2 h = some (r, h')) : Met l yX10_letter (.code yX10_letter cX10_letter 3 (some .int) :: wsA) rm_X10_letter (PcG base D cA [.int a0, .ref (base + a1), .ref (base + a2)] h) (QcI base D cA r h') 0 0 (AA base) := by
  refine g_met [.int a0, .ref (base + a1), .ref (base + a2)] (by decide) (Nat.le_of_ble_eq_true rfl) (fun p e s m args below meth c C hr hn => ?_)
  refine g_lv (lv' := [(0, .int a0), (1, .ref (base + a1)), (2, .ref (base + a2))]) rfl ?_
  unfold s_X10_letter at E
  refine g_aload_n C 2 dX10_letter_0 rfl rfl ?_
  refine g_bipush C 8 dX10_letter_1 rfl ?_
  refine g_iload_n C 0 dX10_letter_3 rfl rfl ?_
  refine g_imul C dX10_letter_4 ?_
  refine g_aload_n C 1 dX10_letter_5 rfl rfl ?_
  refine g_bipush C 16 dX10_letter_6 rfl ?_
  refine g_iload_n C 0 dX10_letter_8 rfl rfl ?_
  refine g_imul C dX10_letter_9 ?_
  refine g_bipush C 6 dX10_letter_10 rfl ?_
  refine g_iadd C dX10_letter_12 ?_
  refine g_iald C dX10_letter_13 E (fun x1 E => ?_)
  refine g_iadd C dX10_letter_14 ?_
  refine g_iald C dX10_letter_15 E (fun x2 E => ?_)
  refine g_sipush C 1000 dX10_letter_16 rfl ?_
  refine g_irem C dX10_letter_19 E (fun x3 E => ?_)
  exact g_iret C dX10_letter_20 hr E
abbrev rm_X10_number : Room := { frames := 0, cells := 0, slots := 0, locals := 0 }
def s_X10_number (a0 : Int32) (a1 : Nat) (a2 : Nat) (h : Hp) : Rv Int32 :=
  ldI h a1 20 ((16 * a0) + 6) fun x1 =>
  ldI h a2 20 ((8 * a0) + x1) fun x2 =>
  divI x2 1000 fun x3 =>
  retI x3 h
set_option maxRecDepth 100000 in
set_option maxHeartbeats 4000000 in
theorem o_X10_number (l : Launch) (base : Nat) (D : va_G) (cA : Nat → ClassId) (a0 : Int32) (a1 : Nat) (a2 : Nat) (h : Hp) (r : Int32) (h' : Hp) (E : s_X10_number a0 a1 a2 h = some (r, h')) : Met l yX10_number (.code yX10_number cX10_number 3 (some .int) :: wsA) rm_X10_number (PcG base D cA [.int a0, .ref (base + a1), .ref (base + a2)] h) (QcI base D cA r h') 0 0 (AA base) := by
  refine g_met [.int a0, .ref (base + a1), .ref (base + a2)] (by decide) (Nat.le_of_ble_eq_true rfl) (fun p e s m args below meth c C hr hn => ?_)
  refine g_lv (lv' := [(0, .int a0), (1, .ref (base + a1)), (2, .ref (base + a2))]) rfl ?_
  unfold s_X10_number at E
  refine g_aload_n C 2 dX10_number_0 rfl rfl ?_
  refine g_bipush C 8 dX10_number_1 rfl ?_
  refine g_iload_n C 0 dX10_number_3 rfl rfl ?_
  refine g_imul C dX10_number_4 ?_
  refine g_aload_n C 1 dX10_number_5 rfl rfl ?_
  refine g_bipush C 16 dX10_number_6 rfl ?_
  refine g_iload_n C 0 dX10_number_8 rfl rfl ?_
  refine g_imul C dX10_number_9 ?_
  refine g_bipush C 6 dX10_number_10 rfl ?_
  refine g_iadd C dX10_number_12 ?_
  refine g_iald C dX10_number_13 E (fun x1 E => ?_)
  refine g_iadd C dX10_number_14 ?_
  refine g_iald C dX10_number_15 E (fun x2 E => ?_)
  refine g_sipush C 1000 dX10_number_16 rfl ?_
  refine g_idiv C dX10_number_19 E (fun x3 E => ?_)
  exact g_iret C dX10_number_20 hr E
abbrev rm_X10_want : Room := { frames := 1, cells := 0, slots := 0, locals := 22 }
def s_X10_want (a0 : Int32) (a1 : Nat) (a2 : Nat) (h : Hp) : Rv Int32 :=
  ldI h a1 20 ((16 * a0) + 5) fun x1 =>
  if x1 = 1 then bnd (s_X10_letter a0 a1 a2 h) fun x2 h =>
  if x2 = 104 then ldI h a1 20 ((16 * a0) + 7) fun x3 =>
  bnd (s_X10_number a0 a1 a2 h) fun x4 h =>
  ldI h a1 20 ((16 * a0) + 8) fun x5 =>
  ldI h a1 20 ((16 * a0) + 7) fun x6 =>
  if x6 = 0 then retI 0 h
  else if 0 ≤ (((4 * x3) * x4) - x5) then if (((4 * x3) * x4) - x5) ≤ 250 then retI (((4 * x3) * x4) - x5) h
  else retI 250 h
  else retI 0 h
  else retI 0 h
  else retI 0 h
set_option maxRecDepth 100000 in
set_option maxHeartbeats 4000000 in
theorem o_X10_want (l : Launch) (base : Nat) (D : va_G) (cA : Nat → ClassId) (a0 : Int32) (a1 : Nat) (a2 : Nat) (h : Hp) (r : Int32) (h' : Hp) (E : s_X10_want a0 a1 a2 h = some (r, h')) : Met l yX10_want (.code yX10_want cX10_want 4 (some .int) :: wsA) rm_X10_want (PcG base D cA [.int a0, .ref (base + a1), .ref (base + a2)] h) (QcI base D cA r h') 0 0 (AA base) := by
  refine g_met [.int a0, .ref (base + a1), .ref (base + a2)] (by decide) (Nat.le_of_ble_eq_true rfl) (fun p e s m args below meth c C hr hn => ?_)
  refine g_lv (lv' := [(0, .int a0), (1, .ref (base + a1)), (2, .ref (base + a2))]) rfl ?_
  unfold s_X10_want at E
  refine g_aload_n C 1 dX10_want_0 rfl rfl ?_
  refine g_bipush C 16 dX10_want_1 rfl ?_
  refine g_iload_n C 0 dX10_want_3 rfl rfl ?_
  refine g_imul C dX10_want_4 ?_
  refine g_iconst C 5 dX10_want_5 rfl ?_
  refine g_iadd C dX10_want_6 ?_
  refine g_iald C dX10_want_7 E (fun x1 E => ?_)
  refine g_iconst C 1 dX10_want_8 rfl ?_
  refine g_icmp_ne C 23 dX10_want_9 (by decide) E (fun E => ?_) (fun E => ?_)
  · refine g_iconst C 0 dX10_want_23 rfl ?_
    exact g_iret C dX10_want_24 hr E
  · refine g_iload_n C 0 dX10_want_12 rfl rfl ?_
    refine g_aload_n C 1 dX10_want_13 rfl rfl ?_
    refine g_aload_n C 2 dX10_want_14 rfl rfl ?_
    refine g_staI C [.int a0, .ref (base + a1), .ref (base + a2)] dX10_want_15 cl_X10_10 cs_X10_letter rfl rfl ⟨Nat.le_of_ble_eq_true rfl, Nat.le_of_ble_eq_true rfl⟩ (Nat.le_of_ble_eq_true rfl) ⟨Nat.le_of_ble_eq_true rfl, Nat.le_of_ble_eq_true rfl⟩ rfl (fun r' h' E => o_X10_letter l base D cA a0 a1 a2 h r' h' E) E (fun x2 h3 E => ?_)
    refine g_bipush C 104 dX10_want_18 rfl ?_
    refine g_icmp_eq C 25 dX10_want_20 (by decide) E (fun E => ?_) (fun E => ?_)
    · refine g_iconst C 4 dX10_want_25 rfl ?_
      refine g_aload_n C 1 dX10_want_26 rfl rfl ?_
      refine g_bipush C 16 dX10_want_27 rfl ?_
      refine g_iload_n C 0 dX10_want_29 rfl rfl ?_
      refine g_imul C dX10_want_30 ?_
      refine g_bipush C 7 dX10_want_31 rfl ?_
      refine g_iadd C dX10_want_33 ?_
      refine g_iald C dX10_want_34 E (fun x4 E => ?_)
      refine g_imul C dX10_want_35 ?_
      refine g_iload_n C 0 dX10_want_36 rfl rfl ?_
      refine g_aload_n C 1 dX10_want_37 rfl rfl ?_
      refine g_aload_n C 2 dX10_want_38 rfl rfl ?_
      refine g_staI C [.int a0, .ref (base + a1), .ref (base + a2)] dX10_want_39 cl_X10_16 cs_X10_number rfl rfl ⟨Nat.le_of_ble_eq_true rfl, Nat.le_of_ble_eq_true rfl⟩ (Nat.le_of_ble_eq_true rfl) ⟨Nat.le_of_ble_eq_true rfl, Nat.le_of_ble_eq_true rfl⟩ rfl (fun r' h' E => o_X10_number l base D cA a0 a1 a2 h3 r' h' E) E (fun x5 h6 E => ?_)
      refine g_imul C dX10_want_42 ?_
      refine g_aload_n C 1 dX10_want_43 rfl rfl ?_
      refine g_bipush C 16 dX10_want_44 rfl ?_
      refine g_iload_n C 0 dX10_want_46 rfl rfl ?_
      refine g_imul C dX10_want_47 ?_
      refine g_bipush C 8 dX10_want_48 rfl ?_
      refine g_iadd C dX10_want_50 ?_
      refine g_iald C dX10_want_51 E (fun x7 E => ?_)
      refine g_isub C dX10_want_52 ?_
      refine g_istore_n C (lv' := [(3, .int (((4 * x4) * x5) - x7)), (0, .int a0), (1, .ref (base + a1)), (2, .ref (base + a2))]) dX10_want_53 rfl (by decide) rfl ?_
      refine g_aload_n C 2 dX10_want_54 rfl rfl ?_
      refine g_bipush C 16 dX10_want_55 rfl ?_
      refine g_iload_n C 1 dX10_want_57 rfl rfl ?_
      refine g_imul C dX10_want_58 ?_
      refine g_bipush C 7 dX10_want_59 rfl ?_
      refine g_iadd C dX10_want_61 ?_
      refine g_iald C dX10_want_62 E (fun x8 E => ?_)
      refine g_if_eq C 70 dX10_want_63 (by decide) E (fun E => ?_) (fun E => ?_)
      · refine g_iconst C 0 dX10_want_70 rfl ?_
        refine g_goto C 88 dX10_want_71 (by decide) ?_
        exact g_iret C dX10_want_88 hr E
      · refine g_iload_n C 0 dX10_want_66 rfl rfl ?_
        refine g_if_ge C 74 dX10_want_67 (by decide) E (fun E => ?_) (fun E => ?_)
        · refine g_iload_n C 0 dX10_want_74 rfl rfl ?_
          refine g_sipush C 250 dX10_want_75 rfl ?_
          refine g_icmp_le C 87 dX10_want_78 (by decide) E (fun E => ?_) (fun E => ?_)
          · refine g_iload_n C 0 dX10_want_87 rfl rfl ?_
            exact g_iret C dX10_want_88 hr E
          · refine g_sipush C 250 dX10_want_81 rfl ?_
            refine g_goto C 88 dX10_want_84 (by decide) ?_
            exact g_iret C dX10_want_88 hr E
        · refine g_iconst C 0 dX10_want_70 rfl ?_
          refine g_goto C 88 dX10_want_71 (by decide) ?_
          exact g_iret C dX10_want_88 hr E
    · refine g_iconst C 0 dX10_want_23 rfl ?_
      exact g_iret C dX10_want_24 hr E
abbrev rm_X10_split : Room := { frames := 2, cells := 1, slots := 3, locals := 45 }
def s_X10_split_L11 (k29 : Nat → Nat → Nat → Nat → Nat → Int32 → Nat → Hp → Rv Unit) : Nat → Nat → Nat → Nat → Nat → Nat → Int32 → Nat → Int32 → Hp → Rv Unit
  | 0, _, _, _, _, _, _, _, _, _ => none
  | n + 1, v1, v2, v3, v4, v5, v6, v7, v8, h =>
    if 3 ≤ v8 then k29 v1 v2 v3 v4 v5 v6 v7 h
  else stI h v5 20 v8 0 fun h =>
  s_X10_split_L11 k29 n v1 v2 v3 v4 v5 v6 v7 (v8 + 1) h
def s_X10_split_L54 (k101 : Nat → Nat → Nat → Nat → Nat → Int32 → Nat → Int32 → Int32 → Int32 → Hp → Rv Unit) : Nat → Nat → Nat → Nat → Nat → Nat → Int32 → Nat → Int32 → Int32 → Int32 → Int32 → Hp → Rv Unit
  | 0, _, _, _, _, _, _, _, _, _, _, _, _ => none
  | n + 1, v1, v2, v3, v4, v5, v6, v7, v8, v9, v10, v11, h =>
    if v11 < 0 then k101 v1 v2 v3 v4 v5 v6 v7 v8 v9 v10 h
  else ldI h v5 20 v11 fun x2 =>
  bnd (s_X10_want v11 v2 v3 h) fun x3 h =>
  if x2 = x3 then s_X10_split_L54 k101 n v1 v2 v3 v4 v5 v6 v7 v8 v9 v10 (v11 + (-1)) h
  else bnd (s_X10_shares v11 v1 v2 v4 h) fun x4 h =>
  s_X10_split_L54 k101 n v1 v2 v3 v4 v5 v6 v7 v8 (v9 + x4) v11 (v11 + (-1)) h
def s_X10_split_L114 (k222 : Nat → Nat → Nat → Nat → Nat → Int32 → Nat → Int32 → Int32 → Hp → Rv Unit) : Nat → Nat → Nat → Nat → Nat → Nat → Int32 → Nat → Int32 → Int32 → Int32 → Int32 → Int32 → Hp → Rv Unit
  | 0, _, _, _, _, _, _, _, _, _, _, _, _, _ => none
  | n + 1, v1, v2, v3, v4, v5, v6, v7, v8, v9, v10, v11, v12, h =>
    if 3 ≤ v12 then k222 v1 v2 v3 v4 v5 v6 v7 v8 v10 h
  else stI h v7 20 v12 0 fun h =>
  ldI h v5 20 v12 fun x5 =>
  bnd (s_X10_want v12 v2 v3 h) fun x6 h =>
  if x5 = x6 then s_X10_split_L114 k222 n v1 v2 v3 v4 v5 v6 v7 v8 v9 v10 v11 (v12 + 1) h
  else if v9 = 0 then s_X10_split_L114 k222 n v1 v2 v3 v4 v5 v6 v7 v8 v9 v10 v11 (v12 + 1) h
  else bnd (s_X10_shares v12 v1 v2 v4 h) fun x7 h =>
  divI (v11 * x7) v9 fun x8 =>
  stI h v7 20 v12 x8 fun h =>
  ldI h v7 20 v12 fun x9 =>
  bnd (s_X10_want v12 v2 v3 h) fun x10 h =>
  ldI h v5 20 v12 fun x11 =>
  if x9 ≤ (x10 - x11) then ldI h v7 20 v12 fun x12 =>
  stI h v7 20 v12 x12 fun h =>
  s_X10_split_L114 k222 n v1 v2 v3 v4 v5 v6 v7 v8 v9 v10 v11 (v12 + 1) h
  else bnd (s_X10_want v12 v2 v3 h) fun x13 h =>
  ldI h v5 20 v12 fun x14 =>
  stI h v7 20 v12 (x13 - x14) fun h =>
  s_X10_split_L114 k222 n v1 v2 v3 v4 v5 v6 v7 v8 v9 v10 v11 (v12 + 1) h
def s_X10_split_L248 (k283 : Nat → Nat → Nat → Nat → Nat → Int32 → Nat → Int32 → Hp → Rv Unit) : Nat → Nat → Nat → Nat → Nat → Nat → Int32 → Nat → Int32 → Int32 → Hp → Rv Unit
  | 0, _, _, _, _, _, _, _, _, _, _ => none
  | n + 1, v1, v2, v3, v4, v5, v6, v7, v8, v12, h =>
    if 3 ≤ v12 then k283 v1 v2 v3 v4 v5 v6 v7 v8 h
  else ldI h v5 20 v12 fun x18 =>
  ldI h v7 20 v12 fun x19 =>
  stI h v5 20 v12 (x18 + x19) fun h =>
  ldI h v7 20 v12 fun x20 =>
  s_X10_split_L248 k283 n v1 v2 v3 v4 v5 (v6 - x20) v7 v8 (v12 + 1) h
def s_X10_split_L32 : Nat → Nat → Nat → Nat → Nat → Nat → Int32 → Nat → Int32 → Hp → Rv Unit
  | 0, _, _, _, _, _, _, _, _, _ => none
  | n + 1, v1, v2, v3, v4, v5, v6, v7, v8, h =>
    if 2000 ≤ v8 then retU h
  else if v6 ≤ 0 then retU h
  else s_X10_split_L54 (fun y0 y1 y2 y3 y4 y5 y6 y7 y8 y9 h => if 0 ≤ y9 then s_X10_split_L114 (fun y0 y1 y2 y3 y4 y5 y6 y7 y8 h => ldI h y6 20 0 fun x15 =>
  ldI h y6 20 1 fun x16 =>
  ldI h y6 20 2 fun x17 =>
  if ((x15 + x16) + x17) = 0 then stI h y6 20 y8 1 fun h =>
  s_X10_split_L248 (fun y0 y1 y2 y3 y4 y5 y6 y7 h => s_X10_split_L32 n y0 y1 y2 y3 y4 y5 y6 (y7 + 1) h) 100000 y0 y1 y2 y3 y4 y5 y6 y7 0 h
  else s_X10_split_L248 (fun y0 y1 y2 y3 y4 y5 y6 y7 h => s_X10_split_L32 n y0 y1 y2 y3 y4 y5 y6 (y7 + 1) h) 100000 y0 y1 y2 y3 y4 y5 y6 y7 0 h) 100000 y0 y1 y2 y3 y4 y5 y6 y7 y8 y9 y5 0 h
  else retU h) 100000 v1 v2 v3 v4 v5 v6 v7 v8 0 (-1) 2 h
def s_X10_split (a0 : Int32) (a1 : Nat) (a2 : Nat) (a3 : Nat) (a4 : Nat) (a5 : Nat) (h : Hp) : Rv Unit :=
  newA h 20 3 3 fun x1 h =>
  s_X10_split_L11 (fun y0 y1 y2 y3 y4 y5 y6 h => s_X10_split_L32 100000 y0 y1 y2 y3 y4 y5 y6 0 h) 100000 a1 a2 a3 a4 a5 a0 x1 0 h
set_option maxRecDepth 100000 in
set_option maxHeartbeats 4000000 in
theorem o_X10_split_L11 {l : Launch} {base : Nat} {D : va_G} {cA : Nat → ClassId} {p : Program} {e : Env} {s : State} {m : MethodId} {args : Array Value} {below : List Frame} {meth : Method} {c : Code} (C : GC base D cA p s m args meth c cX10_split 13 RX10) (hr : meth.sig.returnType = none) {X : Unit × Hp} {k29 : Nat → Nat → Nat → Nat → Nat → Int32 → Nat → Hp → Rv Unit} (K29 : ∀ (y0 : Nat) (y1 : Nat) (y2 : Nat) (y3 : Nat) (y4 : Nat) (y5 : Int32) (y6 : Nat) (h : Hp), k29 y0 y1 y2 y3 y4 y5 y6 h = some X → GW base D cA p l e rm_X10_split s m args below meth c (MQ below (QcU base D cA X.2) args s 1 3 (AA base)) 13 h 1 3 29 [(1, .ref (base + y0)), (2, .ref (base + y1)), (3, .ref (base + y2)), (4, .ref (base + y3)), (5, .ref (base + y4)), (6, .int y5), (7, .ref (base + y6))] []) : ∀ (n : Nat) (v1 : Nat) (v2 : Nat) (v3 : Nat) (v4 : Nat) (v5 : Nat) (v6 : Int32) (v7 : Nat) (v8 : Int32) (h : Hp), s_X10_split_L11 k29 n v1 v2 v3 v4 v5 v6 v7 v8 h = some X → GW base D cA p l e rm_X10_split s m args below meth c (MQ below (QcU base D cA X.2) args s 1 3 (AA base)) 13 h 1 3 11 [(1, .ref (base + v1)), (2, .ref (base + v2)), (3, .ref (base + v3)), (4, .ref (base + v4)), (5, .ref (base + v5)), (6, .int v6), (7, .ref (base + v7)), (8, .int v8)] [] := by
  intro n
  induction n with
  | zero =>
    intro v1 v2 v3 v4 v5 v6 v7 v8 h E
    rw [s_X10_split_L11] at E
    cases E
  | succ n ih =>
    intro v1 v2 v3 v4 v5 v6 v7 v8 h E
    rw [s_X10_split_L11] at E
    refine g_iload C 7 dX10_split_11 rfl ?_
    refine g_iconst C 3 dX10_split_13 rfl ?_
    refine g_icmp_ge C 29 dX10_split_14 (by decide) E (fun E => ?_) (fun E => ?_)
    · refine g_sub (lv' := [(1, .ref (base + v1)), (2, .ref (base + v2)), (3, .ref (base + v3)), (4, .ref (base + v4)), (5, .ref (base + v5)), (6, .int v6), (7, .ref (base + v7))]) [0, 1, 2, 3, 4, 5, 6] rfl ?_
      exact K29 v1 v2 v3 v4 v5 v6 v7 h E
    · refine g_aload C 4 dX10_split_17 rfl ?_
      refine g_iload C 7 dX10_split_19 rfl ?_
      refine g_iconst C 0 dX10_split_21 rfl ?_
      refine g_iast C dX10_split_22 E (fun h1 E => ?_)
      refine g_iinc C (lv' := [(8, .int (v8 + 1)), (1, .ref (base + v1)), (2, .ref (base + v2)), (3, .ref (base + v3)), (4, .ref (base + v4)), (5, .ref (base + v5)), (6, .int v6), (7, .ref (base + v7))]) 7 1 dX10_split_23 rfl rfl (by decide) rfl ?_
      refine g_goto C 11 dX10_split_26 (by decide) ?_
      refine g_sub (lv' := [(1, .ref (base + v1)), (2, .ref (base + v2)), (3, .ref (base + v3)), (4, .ref (base + v4)), (5, .ref (base + v5)), (6, .int v6), (7, .ref (base + v7)), (8, .int (v8 + 1))]) [1, 2, 3, 4, 5, 6, 7, 0] rfl ?_
      exact ih v1 v2 v3 v4 v5 v6 v7 (v8 + 1) h1 E
set_option maxRecDepth 100000 in
set_option maxHeartbeats 4000000 in
theorem o_X10_split_L54 {l : Launch} {base : Nat} {D : va_G} {cA : Nat → ClassId} {p : Program} {e : Env} {s : State} {m : MethodId} {args : Array Value} {below : List Frame} {meth : Method} {c : Code} (C : GC base D cA p s m args meth c cX10_split 13 RX10) (hr : meth.sig.returnType = none) {X : Unit × Hp} {k101 : Nat → Nat → Nat → Nat → Nat → Int32 → Nat → Int32 → Int32 → Int32 → Hp → Rv Unit} (K101 : ∀ (y0 : Nat) (y1 : Nat) (y2 : Nat) (y3 : Nat) (y4 : Nat) (y5 : Int32) (y6 : Nat) (y7 : Int32) (y8 : Int32) (y9 : Int32) (h : Hp), k101 y0 y1 y2 y3 y4 y5 y6 y7 y8 y9 h = some X → GW base D cA p l e rm_X10_split s m args below meth c (MQ below (QcU base D cA X.2) args s 1 3 (AA base)) 13 h 1 3 101 [(1, .ref (base + y0)), (2, .ref (base + y1)), (3, .ref (base + y2)), (4, .ref (base + y3)), (5, .ref (base + y4)), (6, .int y5), (7, .ref (base + y6)), (8, .int y7), (9, .int y8), (10, .int y9)] []) : ∀ (n : Nat) (v1 : Nat) (v2 : Nat) (v3 : Nat) (v4 : Nat) (v5 : Nat) (v6 : Int32) (v7 : Nat) (v8 : Int32) (v9 : Int32) (v10 : Int32) (v11 : Int32) (h : Hp), s_X10_split_L54 k101 n v1 v2 v3 v4 v5 v6 v7 v8 v9 v10 v11 h = some X → GW base D cA p l e rm_X10_split s m args below meth c (MQ below (QcU base D cA X.2) args s 1 3 (AA base)) 13 h 1 3 54 [(1, .ref (base + v1)), (2, .ref (base + v2)), (3, .ref (base + v3)), (4, .ref (base + v4)), (5, .ref (base + v5)), (6, .int v6), (7, .ref (base + v7)), (8, .int v8), (9, .int v9), (10, .int v10), (11, .int v11)] [] := by
  intro n
  induction n with
  | zero =>
    intro v1 v2 v3 v4 v5 v6 v7 v8 v9 v10 v11 h E
    rw [s_X10_split_L54] at E
    cases E
  | succ n ih =>
    intro v1 v2 v3 v4 v5 v6 v7 v8 v9 v10 v11 h E
    rw [s_X10_split_L54] at E
    refine g_iload C 10 dX10_split_54 rfl ?_
    refine g_if_lt C 101 dX10_split_56 (by decide) E (fun E => ?_) (fun E => ?_)
    · refine g_sub (lv' := [(1, .ref (base + v1)), (2, .ref (base + v2)), (3, .ref (base + v3)), (4, .ref (base + v4)), (5, .ref (base + v5)), (6, .int v6), (7, .ref (base + v7)), (8, .int v8), (9, .int v9), (10, .int v10)]) [0, 1, 2, 3, 4, 5, 6, 7, 8, 9] rfl ?_
      exact K101 v1 v2 v3 v4 v5 v6 v7 v8 v9 v10 h E
    · refine g_aload C 4 dX10_split_59 rfl ?_
      refine g_iload C 10 dX10_split_61 rfl ?_
      refine g_iald C dX10_split_63 E (fun x1 E => ?_)
      refine g_iload C 10 dX10_split_64 rfl ?_
      refine g_aload_n C 1 dX10_split_66 rfl rfl ?_
      refine g_aload_n C 2 dX10_split_67 rfl rfl ?_
      refine g_staI C [.int v11, .ref (base + v2), .ref (base + v3)] dX10_split_68 cl_X10_19 cs_X10_want rfl rfl ⟨Nat.le_of_ble_eq_true rfl, Nat.le_of_ble_eq_true rfl⟩ (Nat.le_of_ble_eq_true rfl) ⟨Nat.le_of_ble_eq_true rfl, Nat.le_of_ble_eq_true rfl⟩ rfl (fun r' h' E => o_X10_want l base D cA v11 v2 v3 h r' h' E) E (fun x2 h3 E => ?_)
      refine g_icmp_ne C 77 dX10_split_71 (by decide) E (fun E => ?_) (fun E => ?_)
      · refine g_iload C 8 dX10_split_77 rfl ?_
        refine g_iload C 10 dX10_split_79 rfl ?_
        refine g_aload_n C 0 dX10_split_81 rfl rfl ?_
        refine g_aload_n C 1 dX10_split_82 rfl rfl ?_
        refine g_aload C 3 dX10_split_83 rfl ?_
        refine g_staI C [.int v11, .ref (base + v1), .ref (base + v2), .ref (base + v4)] dX10_split_85 cl_X10_22 cs_X10_shares rfl rfl ⟨Nat.le_of_ble_eq_true rfl, Nat.le_of_ble_eq_true rfl⟩ (Nat.le_of_ble_eq_true rfl) ⟨Nat.le_of_ble_eq_true rfl, Nat.le_of_ble_eq_true rfl⟩ rfl (fun r' h' E => o_X10_shares l base D cA v11 v1 v2 v4 h3 r' h' E) E (fun x4 h5 E => ?_)
        refine g_iadd C dX10_split_88 ?_
        refine g_istore C (lv' := [(9, .int (v9 + x4)), (1, .ref (base + v1)), (2, .ref (base + v2)), (3, .ref (base + v3)), (4, .ref (base + v4)), (5, .ref (base + v5)), (6, .int v6), (7, .ref (base + v7)), (8, .int v8), (10, .int v10), (11, .int v11)]) dX10_split_89 (by decide) rfl ?_
        refine g_iload C 10 dX10_split_91 rfl ?_
        refine g_istore C (lv' := [(10, .int v11), (9, .int (v9 + x4)), (1, .ref (base + v1)), (2, .ref (base + v2)), (3, .ref (base + v3)), (4, .ref (base + v4)), (5, .ref (base + v5)), (6, .int v6), (7, .ref (base + v7)), (8, .int v8), (11, .int v11)]) dX10_split_93 (by decide) rfl ?_
        refine g_iinc C (lv' := [(11, .int (v11 + (-1))), (10, .int v11), (9, .int (v9 + x4)), (1, .ref (base + v1)), (2, .ref (base + v2)), (3, .ref (base + v3)), (4, .ref (base + v4)), (5, .ref (base + v5)), (6, .int v6), (7, .ref (base + v7)), (8, .int v8)]) 10 (-1) dX10_split_95 rfl rfl (by decide) rfl ?_
        refine g_goto C 54 dX10_split_98 (by decide) ?_
        refine g_sub (lv' := [(1, .ref (base + v1)), (2, .ref (base + v2)), (3, .ref (base + v3)), (4, .ref (base + v4)), (5, .ref (base + v5)), (6, .int v6), (7, .ref (base + v7)), (8, .int v8), (9, .int (v9 + x4)), (10, .int v11), (11, .int (v11 + (-1)))]) [3, 4, 5, 6, 7, 8, 9, 10, 2, 1, 0] rfl ?_
        exact ih v1 v2 v3 v4 v5 v6 v7 v8 (v9 + x4) v11 (v11 + (-1)) h5 E
      · refine g_goto C 95 dX10_split_74 (by decide) ?_
        refine g_iinc C (lv' := [(11, .int (v11 + (-1))), (1, .ref (base + v1)), (2, .ref (base + v2)), (3, .ref (base + v3)), (4, .ref (base + v4)), (5, .ref (base + v5)), (6, .int v6), (7, .ref (base + v7)), (8, .int v8), (9, .int v9), (10, .int v10)]) 10 (-1) dX10_split_95 rfl rfl (by decide) rfl ?_
        refine g_goto C 54 dX10_split_98 (by decide) ?_
        refine g_sub (lv' := [(1, .ref (base + v1)), (2, .ref (base + v2)), (3, .ref (base + v3)), (4, .ref (base + v4)), (5, .ref (base + v5)), (6, .int v6), (7, .ref (base + v7)), (8, .int v8), (9, .int v9), (10, .int v10), (11, .int (v11 + (-1)))]) [1, 2, 3, 4, 5, 6, 7, 8, 9, 10, 0] rfl ?_
        exact ih v1 v2 v3 v4 v5 v6 v7 v8 v9 v10 (v11 + (-1)) h3 E
set_option maxRecDepth 100000 in
set_option maxHeartbeats 4000000 in
theorem o_X10_split_L114 {l : Launch} {base : Nat} {D : va_G} {cA : Nat → ClassId} {p : Program} {e : Env} {s : State} {m : MethodId} {args : Array Value} {below : List Frame} {meth : Method} {c : Code} (C : GC base D cA p s m args meth c cX10_split 13 RX10) (hr : meth.sig.returnType = none) {X : Unit × Hp} {k222 : Nat → Nat → Nat → Nat → Nat → Int32 → Nat → Int32 → Int32 → Hp → Rv Unit} (K222 : ∀ (y0 : Nat) (y1 : Nat) (y2 : Nat) (y3 : Nat) (y4 : Nat) (y5 : Int32) (y6 : Nat) (y7 : Int32) (y8 : Int32) (h : Hp), k222 y0 y1 y2 y3 y4 y5 y6 y7 y8 h = some X → GW base D cA p l e rm_X10_split s m args below meth c (MQ below (QcU base D cA X.2) args s 1 3 (AA base)) 13 h 1 3 222 [(1, .ref (base + y0)), (2, .ref (base + y1)), (3, .ref (base + y2)), (4, .ref (base + y3)), (5, .ref (base + y4)), (6, .int y5), (7, .ref (base + y6)), (8, .int y7), (10, .int y8)] []) : ∀ (n : Nat) (v1 : Nat) (v2 : Nat) (v3 : Nat) (v4 : Nat) (v5 : Nat) (v6 : Int32) (v7 : Nat) (v8 : Int32) (v9 : Int32) (v10 : Int32) (v11 : Int32) (v12 : Int32) (h : Hp), s_X10_split_L114 k222 n v1 v2 v3 v4 v5 v6 v7 v8 v9 v10 v11 v12 h = some X → GW base D cA p l e rm_X10_split s m args below meth c (MQ below (QcU base D cA X.2) args s 1 3 (AA base)) 13 h 1 3 114 [(1, .ref (base + v1)), (2, .ref (base + v2)), (3, .ref (base + v3)), (4, .ref (base + v4)), (5, .ref (base + v5)), (6, .int v6), (7, .ref (base + v7)), (8, .int v8), (9, .int v9), (10, .int v10), (11, .int v11), (12, .int v12)] [] := by
  intro n
  induction n with
  | zero =>
    intro v1 v2 v3 v4 v5 v6 v7 v8 v9 v10 v11 v12 h E
    rw [s_X10_split_L114] at E
    cases E
  | succ n ih =>
    intro v1 v2 v3 v4 v5 v6 v7 v8 v9 v10 v11 v12 h E
    rw [s_X10_split_L114] at E
    refine g_iload C 11 dX10_split_114 rfl ?_
    refine g_iconst C 3 dX10_split_116 rfl ?_
    refine g_icmp_ge C 222 dX10_split_117 (by decide) E (fun E => ?_) (fun E => ?_)
    · refine g_sub (lv' := [(1, .ref (base + v1)), (2, .ref (base + v2)), (3, .ref (base + v3)), (4, .ref (base + v4)), (5, .ref (base + v5)), (6, .int v6), (7, .ref (base + v7)), (8, .int v8), (10, .int v10)]) [0, 1, 2, 3, 4, 5, 6, 7, 9] rfl ?_
      exact K222 v1 v2 v3 v4 v5 v6 v7 v8 v10 h E
    · refine g_aload C 6 dX10_split_120 rfl ?_
      refine g_iload C 11 dX10_split_122 rfl ?_
      refine g_iconst C 0 dX10_split_124 rfl ?_
      refine g_iast C dX10_split_125 E (fun h1 E => ?_)
      refine g_aload C 4 dX10_split_126 rfl ?_
      refine g_iload C 11 dX10_split_128 rfl ?_
      refine g_iald C dX10_split_130 E (fun x2 E => ?_)
      refine g_iload C 11 dX10_split_131 rfl ?_
      refine g_aload_n C 1 dX10_split_133 rfl rfl ?_
      refine g_aload_n C 2 dX10_split_134 rfl rfl ?_
      refine g_staI C [.int v12, .ref (base + v2), .ref (base + v3)] dX10_split_135 cl_X10_19 cs_X10_want rfl rfl ⟨Nat.le_of_ble_eq_true rfl, Nat.le_of_ble_eq_true rfl⟩ (Nat.le_of_ble_eq_true rfl) ⟨Nat.le_of_ble_eq_true rfl, Nat.le_of_ble_eq_true rfl⟩ rfl (fun r' h' E => o_X10_want l base D cA v12 v2 v3 h1 r' h' E) E (fun x3 h4 E => ?_)
      refine g_icmp_eq C 216 dX10_split_138 (by decide) E (fun E => ?_) (fun E => ?_)
      · refine g_iinc C (lv' := [(12, .int (v12 + 1)), (1, .ref (base + v1)), (2, .ref (base + v2)), (3, .ref (base + v3)), (4, .ref (base + v4)), (5, .ref (base + v5)), (6, .int v6), (7, .ref (base + v7)), (8, .int v8), (9, .int v9), (10, .int v10), (11, .int v11)]) 11 1 dX10_split_216 rfl rfl (by decide) rfl ?_
        refine g_goto C 114 dX10_split_219 (by decide) ?_
        refine g_sub (lv' := [(1, .ref (base + v1)), (2, .ref (base + v2)), (3, .ref (base + v3)), (4, .ref (base + v4)), (5, .ref (base + v5)), (6, .int v6), (7, .ref (base + v7)), (8, .int v8), (9, .int v9), (10, .int v10), (11, .int v11), (12, .int (v12 + 1))]) [1, 2, 3, 4, 5, 6, 7, 8, 9, 10, 11, 0] rfl ?_
        exact ih v1 v2 v3 v4 v5 v6 v7 v8 v9 v10 v11 (v12 + 1) h4 E
      · refine g_iload C 8 dX10_split_141 rfl ?_
        refine g_if_ne C 149 dX10_split_143 (by decide) E (fun E => ?_) (fun E => ?_)
        · refine g_aload C 6 dX10_split_149 rfl ?_
          refine g_iload C 11 dX10_split_151 rfl ?_
          refine g_iload C 10 dX10_split_153 rfl ?_
          refine g_iload C 11 dX10_split_155 rfl ?_
          refine g_aload_n C 0 dX10_split_157 rfl rfl ?_
          refine g_aload_n C 1 dX10_split_158 rfl rfl ?_
          refine g_aload C 3 dX10_split_159 rfl ?_
          refine g_staI C [.int v12, .ref (base + v1), .ref (base + v2), .ref (base + v4)] dX10_split_161 cl_X10_22 cs_X10_shares rfl rfl ⟨Nat.le_of_ble_eq_true rfl, Nat.le_of_ble_eq_true rfl⟩ (Nat.le_of_ble_eq_true rfl) ⟨Nat.le_of_ble_eq_true rfl, Nat.le_of_ble_eq_true rfl⟩ rfl (fun r' h' E => o_X10_shares l base D cA v12 v1 v2 v4 h4 r' h' E) E (fun x5 h6 E => ?_)
          refine g_imul C dX10_split_164 ?_
          refine g_iload C 8 dX10_split_165 rfl ?_
          refine g_idiv C dX10_split_167 E (fun x7 E => ?_)
          refine g_iast C dX10_split_168 E (fun h8 E => ?_)
          refine g_aload C 6 dX10_split_169 rfl ?_
          refine g_iload C 11 dX10_split_171 rfl ?_
          refine g_aload C 6 dX10_split_173 rfl ?_
          refine g_iload C 11 dX10_split_175 rfl ?_
          refine g_iald C dX10_split_177 E (fun x9 E => ?_)
          refine g_iload C 11 dX10_split_178 rfl ?_
          refine g_aload_n C 1 dX10_split_180 rfl rfl ?_
          refine g_aload_n C 2 dX10_split_181 rfl rfl ?_
          refine g_staI C [.int v12, .ref (base + v2), .ref (base + v3)] dX10_split_182 cl_X10_19 cs_X10_want rfl rfl ⟨Nat.le_of_ble_eq_true rfl, Nat.le_of_ble_eq_true rfl⟩ (Nat.le_of_ble_eq_true rfl) ⟨Nat.le_of_ble_eq_true rfl, Nat.le_of_ble_eq_true rfl⟩ rfl (fun r' h' E => o_X10_want l base D cA v12 v2 v3 h8 r' h' E) E (fun x10 h11 E => ?_)
          refine g_aload C 4 dX10_split_185 rfl ?_
          refine g_iload C 11 dX10_split_187 rfl ?_
          refine g_iald C dX10_split_189 E (fun x12 E => ?_)
          refine g_isub C dX10_split_190 ?_
          refine g_icmp_le C 210 dX10_split_191 (by decide) E (fun E => ?_) (fun E => ?_)
          · refine g_aload C 6 dX10_split_210 rfl ?_
            refine g_iload C 11 dX10_split_212 rfl ?_
            refine g_iald C dX10_split_214 E (fun x13 E => ?_)
            refine g_iast C dX10_split_215 E (fun h14 E => ?_)
            refine g_iinc C (lv' := [(12, .int (v12 + 1)), (1, .ref (base + v1)), (2, .ref (base + v2)), (3, .ref (base + v3)), (4, .ref (base + v4)), (5, .ref (base + v5)), (6, .int v6), (7, .ref (base + v7)), (8, .int v8), (9, .int v9), (10, .int v10), (11, .int v11)]) 11 1 dX10_split_216 rfl rfl (by decide) rfl ?_
            refine g_goto C 114 dX10_split_219 (by decide) ?_
            refine g_sub (lv' := [(1, .ref (base + v1)), (2, .ref (base + v2)), (3, .ref (base + v3)), (4, .ref (base + v4)), (5, .ref (base + v5)), (6, .int v6), (7, .ref (base + v7)), (8, .int v8), (9, .int v9), (10, .int v10), (11, .int v11), (12, .int (v12 + 1))]) [1, 2, 3, 4, 5, 6, 7, 8, 9, 10, 11, 0] rfl ?_
            exact ih v1 v2 v3 v4 v5 v6 v7 v8 v9 v10 v11 (v12 + 1) h14 E
          · refine g_iload C 11 dX10_split_194 rfl ?_
            refine g_aload_n C 1 dX10_split_196 rfl rfl ?_
            refine g_aload_n C 2 dX10_split_197 rfl rfl ?_
            refine g_staI C [.int v12, .ref (base + v2), .ref (base + v3)] dX10_split_198 cl_X10_19 cs_X10_want rfl rfl ⟨Nat.le_of_ble_eq_true rfl, Nat.le_of_ble_eq_true rfl⟩ (Nat.le_of_ble_eq_true rfl) ⟨Nat.le_of_ble_eq_true rfl, Nat.le_of_ble_eq_true rfl⟩ rfl (fun r' h' E => o_X10_want l base D cA v12 v2 v3 h11 r' h' E) E (fun x15 h16 E => ?_)
            refine g_aload C 4 dX10_split_201 rfl ?_
            refine g_iload C 11 dX10_split_203 rfl ?_
            refine g_iald C dX10_split_205 E (fun x17 E => ?_)
            refine g_isub C dX10_split_206 ?_
            refine g_goto C 215 dX10_split_207 (by decide) ?_
            refine g_iast C dX10_split_215 E (fun h18 E => ?_)
            refine g_iinc C (lv' := [(12, .int (v12 + 1)), (1, .ref (base + v1)), (2, .ref (base + v2)), (3, .ref (base + v3)), (4, .ref (base + v4)), (5, .ref (base + v5)), (6, .int v6), (7, .ref (base + v7)), (8, .int v8), (9, .int v9), (10, .int v10), (11, .int v11)]) 11 1 dX10_split_216 rfl rfl (by decide) rfl ?_
            refine g_goto C 114 dX10_split_219 (by decide) ?_
            refine g_sub (lv' := [(1, .ref (base + v1)), (2, .ref (base + v2)), (3, .ref (base + v3)), (4, .ref (base + v4)), (5, .ref (base + v5)), (6, .int v6), (7, .ref (base + v7)), (8, .int v8), (9, .int v9), (10, .int v10), (11, .int v11), (12, .int (v12 + 1))]) [1, 2, 3, 4, 5, 6, 7, 8, 9, 10, 11, 0] rfl ?_
            exact ih v1 v2 v3 v4 v5 v6 v7 v8 v9 v10 v11 (v12 + 1) h18 E
        · refine g_goto C 216 dX10_split_146 (by decide) ?_
          refine g_iinc C (lv' := [(12, .int (v12 + 1)), (1, .ref (base + v1)), (2, .ref (base + v2)), (3, .ref (base + v3)), (4, .ref (base + v4)), (5, .ref (base + v5)), (6, .int v6), (7, .ref (base + v7)), (8, .int v8), (9, .int v9), (10, .int v10), (11, .int v11)]) 11 1 dX10_split_216 rfl rfl (by decide) rfl ?_
          refine g_goto C 114 dX10_split_219 (by decide) ?_
          refine g_sub (lv' := [(1, .ref (base + v1)), (2, .ref (base + v2)), (3, .ref (base + v3)), (4, .ref (base + v4)), (5, .ref (base + v5)), (6, .int v6), (7, .ref (base + v7)), (8, .int v8), (9, .int v9), (10, .int v10), (11, .int v11), (12, .int (v12 + 1))]) [1, 2, 3, 4, 5, 6, 7, 8, 9, 10, 11, 0] rfl ?_
          exact ih v1 v2 v3 v4 v5 v6 v7 v8 v9 v10 v11 (v12 + 1) h4 E
set_option maxRecDepth 100000 in
set_option maxHeartbeats 4000000 in
theorem o_X10_split_L248 {l : Launch} {base : Nat} {D : va_G} {cA : Nat → ClassId} {p : Program} {e : Env} {s : State} {m : MethodId} {args : Array Value} {below : List Frame} {meth : Method} {c : Code} (C : GC base D cA p s m args meth c cX10_split 13 RX10) (hr : meth.sig.returnType = none) {X : Unit × Hp} {k283 : Nat → Nat → Nat → Nat → Nat → Int32 → Nat → Int32 → Hp → Rv Unit} (K283 : ∀ (y0 : Nat) (y1 : Nat) (y2 : Nat) (y3 : Nat) (y4 : Nat) (y5 : Int32) (y6 : Nat) (y7 : Int32) (h : Hp), k283 y0 y1 y2 y3 y4 y5 y6 y7 h = some X → GW base D cA p l e rm_X10_split s m args below meth c (MQ below (QcU base D cA X.2) args s 1 3 (AA base)) 13 h 1 3 283 [(1, .ref (base + y0)), (2, .ref (base + y1)), (3, .ref (base + y2)), (4, .ref (base + y3)), (5, .ref (base + y4)), (6, .int y5), (7, .ref (base + y6)), (8, .int y7)] []) : ∀ (n : Nat) (v1 : Nat) (v2 : Nat) (v3 : Nat) (v4 : Nat) (v5 : Nat) (v6 : Int32) (v7 : Nat) (v8 : Int32) (v12 : Int32) (h : Hp), s_X10_split_L248 k283 n v1 v2 v3 v4 v5 v6 v7 v8 v12 h = some X → GW base D cA p l e rm_X10_split s m args below meth c (MQ below (QcU base D cA X.2) args s 1 3 (AA base)) 13 h 1 3 248 [(1, .ref (base + v1)), (2, .ref (base + v2)), (3, .ref (base + v3)), (4, .ref (base + v4)), (5, .ref (base + v5)), (6, .int v6), (7, .ref (base + v7)), (8, .int v8), (12, .int v12)] [] := by
  intro n
  induction n with
  | zero =>
    intro v1 v2 v3 v4 v5 v6 v7 v8 v12 h E
    rw [s_X10_split_L248] at E
    cases E
  | succ n ih =>
    intro v1 v2 v3 v4 v5 v6 v7 v8 v12 h E
    rw [s_X10_split_L248] at E
    refine g_iload C 8 dX10_split_248 rfl ?_
    refine g_iconst C 3 dX10_split_250 rfl ?_
    refine g_icmp_ge C 283 dX10_split_251 (by decide) E (fun E => ?_) (fun E => ?_)
    · refine g_sub (lv' := [(1, .ref (base + v1)), (2, .ref (base + v2)), (3, .ref (base + v3)), (4, .ref (base + v4)), (5, .ref (base + v5)), (6, .int v6), (7, .ref (base + v7)), (8, .int v8)]) [0, 1, 2, 3, 4, 5, 6, 7] rfl ?_
      exact K283 v1 v2 v3 v4 v5 v6 v7 v8 h E
    · refine g_aload C 4 dX10_split_254 rfl ?_
      refine g_iload C 8 dX10_split_256 rfl ?_
      refine g_dup2 C dX10_split_258 rfl rfl ?_
      refine g_iald C dX10_split_259 E (fun x1 E => ?_)
      refine g_aload C 6 dX10_split_260 rfl ?_
      refine g_iload C 8 dX10_split_262 rfl ?_
      refine g_iald C dX10_split_264 E (fun x2 E => ?_)
      refine g_iadd C dX10_split_265 ?_
      refine g_iast C dX10_split_266 E (fun h3 E => ?_)
      refine g_iload C 5 dX10_split_267 rfl ?_
      refine g_aload C 6 dX10_split_269 rfl ?_
      refine g_iload C 8 dX10_split_271 rfl ?_
      refine g_iald C dX10_split_273 E (fun x4 E => ?_)
      refine g_isub C dX10_split_274 ?_
      refine g_istore C (lv' := [(6, .int (v6 - x4)), (1, .ref (base + v1)), (2, .ref (base + v2)), (3, .ref (base + v3)), (4, .ref (base + v4)), (5, .ref (base + v5)), (7, .ref (base + v7)), (8, .int v8), (12, .int v12)]) dX10_split_275 (by decide) rfl ?_
      refine g_iinc C (lv' := [(12, .int (v12 + 1)), (6, .int (v6 - x4)), (1, .ref (base + v1)), (2, .ref (base + v2)), (3, .ref (base + v3)), (4, .ref (base + v4)), (5, .ref (base + v5)), (7, .ref (base + v7)), (8, .int v8)]) 8 1 dX10_split_277 rfl rfl (by decide) rfl ?_
      refine g_goto C 248 dX10_split_280 (by decide) ?_
      refine g_sub (lv' := [(1, .ref (base + v1)), (2, .ref (base + v2)), (3, .ref (base + v3)), (4, .ref (base + v4)), (5, .ref (base + v5)), (6, .int (v6 - x4)), (7, .ref (base + v7)), (8, .int v8), (12, .int (v12 + 1))]) [2, 3, 4, 5, 6, 1, 7, 8, 0] rfl ?_
      exact ih v1 v2 v3 v4 v5 (v6 - x4) v7 v8 (v12 + 1) h3 E
set_option maxRecDepth 100000 in
set_option maxHeartbeats 4000000 in
theorem o_X10_split_L32 {l : Launch} {base : Nat} {D : va_G} {cA : Nat → ClassId} {p : Program} {e : Env} {s : State} {m : MethodId} {args : Array Value} {below : List Frame} {meth : Method} {c : Code} (C : GC base D cA p s m args meth c cX10_split 13 RX10) (hr : meth.sig.returnType = none) {X : Unit × Hp} : ∀ (n : Nat) (v1 : Nat) (v2 : Nat) (v3 : Nat) (v4 : Nat) (v5 : Nat) (v6 : Int32) (v7 : Nat) (v8 : Int32) (h : Hp), s_X10_split_L32 n v1 v2 v3 v4 v5 v6 v7 v8 h = some X → GW base D cA p l e rm_X10_split s m args below meth c (MQ below (QcU base D cA X.2) args s 1 3 (AA base)) 13 h 1 3 32 [(1, .ref (base + v1)), (2, .ref (base + v2)), (3, .ref (base + v3)), (4, .ref (base + v4)), (5, .ref (base + v5)), (6, .int v6), (7, .ref (base + v7)), (8, .int v8)] [] := by
  intro n
  induction n with
  | zero =>
    intro v1 v2 v3 v4 v5 v6 v7 v8 h E
    rw [s_X10_split_L32] at E
    cases E
  | succ n ih =>
    intro v1 v2 v3 v4 v5 v6 v7 v8 h E
    rw [s_X10_split_L32] at E
    refine g_iload C 7 dX10_split_32 rfl ?_
    refine g_sipush C 2000 dX10_split_34 rfl ?_
    refine g_icmp_ge C 289 dX10_split_37 (by decide) E (fun E => ?_) (fun E => ?_)
    · exact g_vret C dX10_split_289 hr E
    · refine g_iload C 5 dX10_split_40 rfl ?_
      refine g_if_le C 289 dX10_split_42 (by decide) E (fun E => ?_) (fun E => ?_)
      · exact g_vret C dX10_split_289 hr E
      · refine g_iconst C 0 dX10_split_45 rfl ?_
        refine g_istore C (lv' := [(9, .int 0), (1, .ref (base + v1)), (2, .ref (base + v2)), (3, .ref (base + v3)), (4, .ref (base + v4)), (5, .ref (base + v5)), (6, .int v6), (7, .ref (base + v7)), (8, .int v8)]) dX10_split_46 (by decide) rfl ?_
        refine g_iconst C (-1) dX10_split_48 rfl ?_
        refine g_istore C (lv' := [(10, .int (-1)), (9, .int 0), (1, .ref (base + v1)), (2, .ref (base + v2)), (3, .ref (base + v3)), (4, .ref (base + v4)), (5, .ref (base + v5)), (6, .int v6), (7, .ref (base + v7)), (8, .int v8)]) dX10_split_49 (by decide) rfl ?_
        refine g_iconst C 2 dX10_split_51 rfl ?_
        refine g_istore C (lv' := [(11, .int 2), (10, .int (-1)), (9, .int 0), (1, .ref (base + v1)), (2, .ref (base + v2)), (3, .ref (base + v3)), (4, .ref (base + v4)), (5, .ref (base + v5)), (6, .int v6), (7, .ref (base + v7)), (8, .int v8)]) dX10_split_52 (by decide) rfl ?_
        refine g_sub (lv' := [(1, .ref (base + v1)), (2, .ref (base + v2)), (3, .ref (base + v3)), (4, .ref (base + v4)), (5, .ref (base + v5)), (6, .int v6), (7, .ref (base + v7)), (8, .int v8), (9, .int 0), (10, .int (-1)), (11, .int 2)]) [3, 4, 5, 6, 7, 8, 9, 10, 2, 1, 0] rfl ?_
        refine o_X10_split_L54 C hr ?_ _ v1 v2 v3 v4 v5 v6 v7 v8 0 (-1) 2 h E
        · intro y1 y2 y3 y4 y5 y6 y7 y8 y9 y10 h11 E
          refine g_iload C 9 dX10_split_101 rfl ?_
          refine g_if_ge C 107 dX10_split_103 (by decide) E (fun E => ?_) (fun E => ?_)
          · refine g_iload C 5 dX10_split_107 rfl ?_
            refine g_istore C (lv' := [(11, .int y6), (1, .ref (base + y1)), (2, .ref (base + y2)), (3, .ref (base + y3)), (4, .ref (base + y4)), (5, .ref (base + y5)), (6, .int y6), (7, .ref (base + y7)), (8, .int y8), (9, .int y9), (10, .int y10)]) dX10_split_109 (by decide) rfl ?_
            refine g_iconst C 0 dX10_split_111 rfl ?_
            refine g_istore C (lv' := [(12, .int 0), (11, .int y6), (1, .ref (base + y1)), (2, .ref (base + y2)), (3, .ref (base + y3)), (4, .ref (base + y4)), (5, .ref (base + y5)), (6, .int y6), (7, .ref (base + y7)), (8, .int y8), (9, .int y9), (10, .int y10)]) dX10_split_112 (by decide) rfl ?_
            refine g_sub (lv' := [(1, .ref (base + y1)), (2, .ref (base + y2)), (3, .ref (base + y3)), (4, .ref (base + y4)), (5, .ref (base + y5)), (6, .int y6), (7, .ref (base + y7)), (8, .int y8), (9, .int y9), (10, .int y10), (11, .int y6), (12, .int 0)]) [2, 3, 4, 5, 6, 7, 8, 9, 10, 11, 1, 0] rfl ?_
            refine o_X10_split_L114 C hr ?_ _ y1 y2 y3 y4 y5 y6 y7 y8 y9 y10 y6 0 h11 E
            · intro y12 y13 y14 y15 y16 y17 y18 y19 y20 h21 E
              refine g_aload C 6 dX10_split_222 rfl ?_
              refine g_iconst C 0 dX10_split_224 rfl ?_
              refine g_iald C dX10_split_225 E (fun x22 E => ?_)
              refine g_aload C 6 dX10_split_226 rfl ?_
              refine g_iconst C 1 dX10_split_228 rfl ?_
              refine g_iald C dX10_split_229 E (fun x23 E => ?_)
              refine g_iadd C dX10_split_230 ?_
              refine g_aload C 6 dX10_split_231 rfl ?_
              refine g_iconst C 2 dX10_split_233 rfl ?_
              refine g_iald C dX10_split_234 E (fun x24 E => ?_)
              refine g_iadd C dX10_split_235 ?_
              refine g_if_ne C 245 dX10_split_236 (by decide) E (fun E => ?_) (fun E => ?_)
              · refine g_iconst C 0 dX10_split_245 rfl ?_
                refine g_istore C (lv' := [(12, .int 0), (1, .ref (base + y12)), (2, .ref (base + y13)), (3, .ref (base + y14)), (4, .ref (base + y15)), (5, .ref (base + y16)), (6, .int y17), (7, .ref (base + y18)), (8, .int y19), (10, .int y20)]) dX10_split_246 (by decide) rfl ?_
                refine g_sub (lv' := [(1, .ref (base + y12)), (2, .ref (base + y13)), (3, .ref (base + y14)), (4, .ref (base + y15)), (5, .ref (base + y16)), (6, .int y17), (7, .ref (base + y18)), (8, .int y19), (12, .int 0)]) [1, 2, 3, 4, 5, 6, 7, 8, 0] rfl ?_
                refine o_X10_split_L248 C hr ?_ _ y12 y13 y14 y15 y16 y17 y18 y19 0 h21 E
                · intro y25 y26 y27 y28 y29 y30 y31 y32 h33 E
                  refine g_iinc C (lv' := [(8, .int (y32 + 1)), (1, .ref (base + y25)), (2, .ref (base + y26)), (3, .ref (base + y27)), (4, .ref (base + y28)), (5, .ref (base + y29)), (6, .int y30), (7, .ref (base + y31))]) 7 1 dX10_split_283 rfl rfl (by decide) rfl ?_
                  refine g_goto C 32 dX10_split_286 (by decide) ?_
                  refine g_sub (lv' := [(1, .ref (base + y25)), (2, .ref (base + y26)), (3, .ref (base + y27)), (4, .ref (base + y28)), (5, .ref (base + y29)), (6, .int y30), (7, .ref (base + y31)), (8, .int (y32 + 1))]) [1, 2, 3, 4, 5, 6, 7, 0] rfl ?_
                  exact ih y25 y26 y27 y28 y29 y30 y31 (y32 + 1) h33 E
              · refine g_aload C 6 dX10_split_239 rfl ?_
                refine g_iload C 8 dX10_split_241 rfl ?_
                refine g_iconst C 1 dX10_split_243 rfl ?_
                refine g_iast C dX10_split_244 E (fun h34 E => ?_)
                refine g_iconst C 0 dX10_split_245 rfl ?_
                refine g_istore C (lv' := [(12, .int 0), (1, .ref (base + y12)), (2, .ref (base + y13)), (3, .ref (base + y14)), (4, .ref (base + y15)), (5, .ref (base + y16)), (6, .int y17), (7, .ref (base + y18)), (8, .int y19), (10, .int y20)]) dX10_split_246 (by decide) rfl ?_
                refine g_sub (lv' := [(1, .ref (base + y12)), (2, .ref (base + y13)), (3, .ref (base + y14)), (4, .ref (base + y15)), (5, .ref (base + y16)), (6, .int y17), (7, .ref (base + y18)), (8, .int y19), (12, .int 0)]) [1, 2, 3, 4, 5, 6, 7, 8, 0] rfl ?_
                refine o_X10_split_L248 C hr ?_ _ y12 y13 y14 y15 y16 y17 y18 y19 0 h34 E
                · intro y35 y36 y37 y38 y39 y40 y41 y42 h43 E
                  refine g_iinc C (lv' := [(8, .int (y42 + 1)), (1, .ref (base + y35)), (2, .ref (base + y36)), (3, .ref (base + y37)), (4, .ref (base + y38)), (5, .ref (base + y39)), (6, .int y40), (7, .ref (base + y41))]) 7 1 dX10_split_283 rfl rfl (by decide) rfl ?_
                  refine g_goto C 32 dX10_split_286 (by decide) ?_
                  refine g_sub (lv' := [(1, .ref (base + y35)), (2, .ref (base + y36)), (3, .ref (base + y37)), (4, .ref (base + y38)), (5, .ref (base + y39)), (6, .int y40), (7, .ref (base + y41)), (8, .int (y42 + 1))]) [1, 2, 3, 4, 5, 6, 7, 0] rfl ?_
                  exact ih y35 y36 y37 y38 y39 y40 y41 (y42 + 1) h43 E
          · exact g_vret C dX10_split_106 hr E
set_option maxRecDepth 100000 in
set_option maxHeartbeats 4000000 in
theorem o_X10_split (l : Launch) (base : Nat) (D : va_G) (cA : Nat → ClassId) (a0 : Int32) (a1 : Nat) (a2 : Nat) (a3 : Nat) (a4 : Nat) (a5 : Nat) (h : Hp) (r : Unit) (h' : Hp) (E : s_X10_split a0 a1 a2 a3 a4 a5 h = some (r, h')) : Met l yX10_split (.code yX10_split cX10_split 13 none :: wsA) rm_X10_split (PcG base D cA [.int a0, .ref (base + a1), .ref (base + a2), .ref (base + a3), .ref (base + a4), .ref (base + a5)] h) (QcU base D cA h') 1 3 (AA base) := by
  refine g_met [.int a0, .ref (base + a1), .ref (base + a2), .ref (base + a3), .ref (base + a4), .ref (base + a5)] (by decide) (Nat.le_of_ble_eq_true rfl) (fun p e s m args below meth c C hr hn => ?_)
  refine g_lv (lv' := [(0, .int a0), (1, .ref (base + a1)), (2, .ref (base + a2)), (3, .ref (base + a3)), (4, .ref (base + a4)), (5, .ref (base + a5))]) rfl ?_
  unfold s_X10_split at E
  refine g_iload_n C 0 dX10_split_0 rfl rfl ?_
  refine g_istore C (lv' := [(6, .int a0), (0, .int a0), (1, .ref (base + a1)), (2, .ref (base + a2)), (3, .ref (base + a3)), (4, .ref (base + a4)), (5, .ref (base + a5))]) dX10_split_1 (by decide) rfl ?_
  refine g_iconst C 3 dX10_split_3 rfl ?_
  refine g_newa C (ty := .int) (cap := 3) 0 (by decide) (by decide) rfl rfl (fun _ _ => rfl) rfl (in_wsA 57 (by decide +kernel) rfl) (by decide) (Nat.le_of_ble_eq_true rfl) (Nat.le_of_ble_eq_true rfl) dX10_split_4 E (fun x1 h2 E => ?_)
  refine g_astore C (lv' := [(7, .ref (base + x1)), (6, .int a0), (0, .int a0), (1, .ref (base + a1)), (2, .ref (base + a2)), (3, .ref (base + a3)), (4, .ref (base + a4)), (5, .ref (base + a5))]) dX10_split_6 (by decide) rfl ?_
  refine g_iconst C 0 dX10_split_8 rfl ?_
  refine g_istore C (lv' := [(8, .int 0), (7, .ref (base + x1)), (6, .int a0), (0, .int a0), (1, .ref (base + a1)), (2, .ref (base + a2)), (3, .ref (base + a3)), (4, .ref (base + a4)), (5, .ref (base + a5))]) dX10_split_9 (by decide) rfl ?_
  refine g_sub (lv' := [(1, .ref (base + a1)), (2, .ref (base + a2)), (3, .ref (base + a3)), (4, .ref (base + a4)), (5, .ref (base + a5)), (6, .int a0), (7, .ref (base + x1)), (8, .int 0)]) [4, 5, 6, 7, 8, 2, 1, 0] rfl ?_
  refine o_X10_split_L11 C hr ?_ _ a1 a2 a3 a4 a5 a0 x1 0 h2 E
  · intro y3 y4 y5 y6 y7 y8 y9 h10 E
    refine g_iconst C 0 dX10_split_29 rfl ?_
    refine g_istore C (lv' := [(8, .int 0), (1, .ref (base + y3)), (2, .ref (base + y4)), (3, .ref (base + y5)), (4, .ref (base + y6)), (5, .ref (base + y7)), (6, .int y8), (7, .ref (base + y9))]) dX10_split_30 (by decide) rfl ?_
    refine g_sub (lv' := [(1, .ref (base + y3)), (2, .ref (base + y4)), (3, .ref (base + y5)), (4, .ref (base + y6)), (5, .ref (base + y7)), (6, .int y8), (7, .ref (base + y9)), (8, .int 0)]) [1, 2, 3, 4, 5, 6, 7, 0] rfl ?_
    exact o_X10_split_L32 C hr _ y3 y4 y5 y6 y7 y8 y9 0 h10 E
