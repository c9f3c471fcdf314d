def s_X10_law_L142 (L : Nat) (xs : Nat → Int32) (k287 : Nat → Nat → Nat → Nat → Nat → Nat → Nat → Hp → Rv Int32) : Nat → Nat → Nat → Nat → Nat → Nat → Nat → Int32 → Nat → Hp → Rv Int32
  | 0, _, _, _, _, _, _, _, _, _ => none
  | n + 1, v1, v2, v3, v4, v5, v6, v7, v100, h =>
    if 3 ≤ v7 then k287 v1 v2 v3 v4 v5 v6 v100 h
  else cellB L xs (1 + v7) fun x13 =>
  bnd (s_X10_low x13 20 h) fun x14 h =>
  stI h v3 20 (16 * v7) (1 + x14) fun h =>
  bnd (s_X10_low (shrI x13 5) 50 h) fun x15 h =>
  stI h v3 20 ((16 * v7) + 1) (1 + x15) fun h =>
  bnd (s_X10_low (shrI x13 11) 400 h) fun x16 h =>
  stI h v3 20 ((16 * v7) + 2) x16 fun h =>
  stI h v3 20 ((16 * v7) + 9) 1 fun h =>
  ldI h v3 20 (16 * v7) fun x17 =>
  ldI h v3 20 ((16 * v7) + 1) fun x18 =>
  ldI h v3 20 ((16 * v7) + 2) fun x19 =>
  inv h v1 8 (s_X8_addHouse v1 x17 x18 x19 h) fun x20 h =>
  if x20 = v7 then cellB L xs (4 + v7) fun x21 =>
  lim v100 <| bnd (s_X10_program v1 v7 x21 v3 v4 h) fun x22 h =>
  if x22 = 0 then retZ 0 h
  else s_X10_law_L142 L xs k287 n v1 v2 v3 v4 v5 v6 (v7 + 1) (v100 + 1) h
  else retZ 0 h
def s_X10_law_J970 (L : Nat) (xs : Nat → Int32) (k290 : Nat → Nat → Nat → Nat → Nat → Nat → Int32 → Nat → Hp → Rv Int32) (v1 : Nat) (v2 : Nat) (v3 : Nat) (v4 : Nat) (v5 : Nat) (v6 : Nat) (v7 : Int32) (v100 : Nat) (h : Hp) : Rv Int32 :=
  bnd (s_X10_same v1 v2 v3 v4 v5 h) fun x31 h =>
  if x31 = 0 then retZ 0 h
  else k290 v1 v2 v3 v4 v5 v6 (v7 + 1) v100 h
def s_X10_law_J939 (L : Nat) (xs : Nat → Int32) (k290 : Nat → Nat → Nat → Nat → Nat → Nat → Int32 → Nat → Hp → Rv Int32) (v1 : Nat) (v2 : Nat) (v3 : Nat) (v4 : Nat) (v5 : Nat) (v6 : Nat) (v7 : Int32) (v8 : Int32) (v10 : Int32) (v11 : Int32) (v100 : Nat) (w0 : Int32) (w1 : Int32) (h : Hp) : Rv Int32 :=
  if w0 = w1 then stI h v3 20 (v11 + 5) 0 fun h =>
  lim v100 <| bnd (s_X10_program v1 v10 (shrI v8 7) v3 v4 h) fun x30 h =>
  if x30 = 0 then retZ 0 h
  else s_X10_law_J970 L xs (fun y0 y1 y2 y3 y4 y5 y6 y7 h => k290 y0 y1 y2 y3 y4 y5 y6 y7 h) v1 v2 v3 v4 v5 v6 v7 (v100 + 1) h
  else retZ 0 h
def s_X10_law_J909 (L : Nat) (xs : Nat → Int32) (k290 : Nat → Nat → Nat → Nat → Nat → Nat → Int32 → Nat → Hp → Rv Int32) (v1 : Nat) (v2 : Nat) (v3 : Nat) (v4 : Nat) (v5 : Nat) (v6 : Nat) (v7 : Int32) (v100 : Nat) (h : Hp) : Rv Int32 :=
  s_X10_law_J970 L xs (fun y0 y1 y2 y3 y4 y5 y6 y7 h => k290 y0 y1 y2 y3 y4 y5 y6 y7 h) v1 v2 v3 v4 v5 v6 v7 v100 h
def s_X10_law_J866 (L : Nat) (xs : Nat → Int32) (k290 : Nat → Nat → Nat → Nat → Nat → Nat → Int32 → Nat → Hp → Rv Int32) (v1 : Nat) (v2 : Nat) (v3 : Nat) (v4 : Nat) (v5 : Nat) (v6 : Nat) (v7 : Int32) (v8 : Int32) (v10 : Int32) (v11 : Int32) (v100 : Nat) (w0 : Nat) (w1 : Int32) (w2 : Int32) (h : Hp) : Rv Int32 :=
  stI h w0 20 w1 w2 fun h =>
  bnd (s_X10_low (shrI v8 7) 2 h) fun x36 h =>
  if x36 = 0 then ldI h v3 20 (v11 + 9) fun x37 =>
  if x37 = 0 then inv h v1 8 (s_X8_closeDoor v1 v10 h) fun x38 h =>
  if x38 = 1 then stI h v3 20 (v11 + 9) 1 fun h =>
  s_X10_law_J909 L xs (fun y0 y1 y2 y3 y4 y5 y6 y7 h => k290 y0 y1 y2 y3 y4 y5 y6 y7 h) v1 v2 v3 v4 v5 v6 v7 v100 h
  else retZ 0 h
  else s_X10_law_J909 L xs (fun y0 y1 y2 y3 y4 y5 y6 y7 h => k290 y0 y1 y2 y3 y4 y5 y6 y7 h) v1 v2 v3 v4 v5 v6 v7 v100 h
  else s_X10_law_J909 L xs (fun y0 y1 y2 y3 y4 y5 y6 y7 h => k290 y0 y1 y2 y3 y4 y5 y6 y7 h) v1 v2 v3 v4 v5 v6 v7 v100 h
def s_X10_law_J839 (L : Nat) (xs : Nat → Int32) (k290 : Nat → Nat → Nat → Nat → Nat → Nat → Int32 → Nat → Hp → Rv Int32) (v1 : Nat) (v2 : Nat) (v3 : Nat) (v4 : Nat) (v5 : Nat) (v6 : Nat) (v7 : Int32) (v8 : Int32) (v10 : Int32) (v11 : Int32) (v12 : Int32) (v100 : Nat) (w0 : Int32) (w1 : Int32) (h : Hp) : Rv Int32 :=
  if w0 = w1 then if v12 = 0 then ldI h v3 20 (v11 + 9) fun x35 =>
  s_X10_law_J866 L xs (fun y0 y1 y2 y3 y4 y5 y6 y7 h => k290 y0 y1 y2 y3 y4 y5 y6 y7 h) v1 v2 v3 v4 v5 v6 v7 v8 v10 v11 v100 v3 (v11 + 9) x35 h
  else s_X10_law_J866 L xs (fun y0 y1 y2 y3 y4 y5 y6 y7 h => k290 y0 y1 y2 y3 y4 y5 y6 y7 h) v1 v2 v3 v4 v5 v6 v7 v8 v10 v11 v100 v3 (v11 + 9) 0 h
  else retZ 0 h
def s_X10_law_J799 (L : Nat) (xs : Nat → Int32) (k290 : Nat → Nat → Nat → Nat → Nat → Nat → Int32 → Nat → Hp → Rv Int32) (v1 : Nat) (v2 : Nat) (v3 : Nat) (v4 : Nat) (v5 : Nat) (v6 : Nat) (v7 : Int32) (v8 : Int32) (v10 : Int32) (v11 : Int32) (v100 : Nat) (w0 : Int32) (h : Hp) : Rv Int32 :=
  inv h v1 8 (s_X8_openDoor v1 v10 h) fun x33 h =>
  if w0 = 0 then ldI h v3 20 (v11 + 9) fun x34 =>
  if x34 = 2 then s_X10_law_J839 L xs (fun y0 y1 y2 y3 y4 y5 y6 y7 h => k290 y0 y1 y2 y3 y4 y5 y6 y7 h) v1 v2 v3 v4 v5 v6 v7 v8 v10 v11 w0 v100 x33 (-4) h
  else s_X10_law_J839 L xs (fun y0 y1 y2 y3 y4 y5 y6 y7 h => k290 y0 y1 y2 y3 y4 y5 y6 y7 h) v1 v2 v3 v4 v5 v6 v7 v8 v10 v11 w0 v100 x33 (-5) h
  else bnd (s_X10_temperature v10 v3 h) fun x39 h =>
  s_X10_law_J839 L xs (fun y0 y1 y2 y3 y4 y5 y6 y7 h => k290 y0 y1 y2 y3 y4 y5 y6 y7 h) v1 v2 v3 v4 v5 v6 v7 v8 v10 v11 w0 v100 x33 x39 h
def s_X10_law_L623 (L : Nat) (xs : Nat → Int32) (k658 : Nat → Nat → Nat → Nat → Nat → Nat → Int32 → Int32 → Int32 → Nat → Hp → Rv Int32) : Nat → Nat → Nat → Nat → Nat → Nat → Nat → Int32 → Int32 → Int32 → Int32 → Nat → Hp → Rv Int32
  | 0, _, _, _, _, _, _, _, _, _, _, _, _ => none
  | n + 1, v1, v2, v3, v4, v5, v6, v7, v12, v13, v14, v100, h =>
    if 3 ≤ v14 then k658 v1 v2 v3 v4 v5 v6 v7 v12 v13 v100 h
  else ldI h v3 20 ((16 * v14) + 5) fun x41 =>
  if x41 = 1 then s_X10_law_L623 L xs k658 n v1 v2 v3 v4 v5 v6 v7 v12 (v13 + 1) (v14 + 1) v100 h
  else s_X10_law_L623 L xs k658 n v1 v2 v3 v4 v5 v6 v7 v12 (v13 + 0) (v14 + 1) v100 h
def s_X10_law_L696 (L : Nat) (xs : Nat → Int32) (k756 : Nat → Nat → Nat → Nat → Nat → Nat → Int32 → Int32 → Nat → Hp → Rv Int32) : Nat → Nat → Nat → Nat → Nat → Nat → Nat → Int32 → Int32 → Int32 → Nat → Hp → Rv Int32
  | 0, _, _, _, _, _, _, _, _, _, _, _ => none
  | n + 1, v1, v2, v3, v4, v5, v6, v7, v12, v14, v100, h =>
    if 3 ≤ v14 then k756 v1 v2 v3 v4 v5 v6 v7 v12 v100 h
  else ldI h v2 20 1 fun x44 =>
  if x44 = 0 then if v12 = 0 then s_X10_law_L696 L xs k756 n v1 v2 v3 v4 v5 v6 v7 v12 (v14 + 1) v100 h
  else ldI h v3 20 ((16 * v14) + 5) fun x45 =>
  if x45 = 1 then bnd (s_X10_letter v14 v3 v4 h) fun x46 h =>
  if x46 = 115 then stI h v3 20 ((16 * v14) + 10) 0 fun h =>
  s_X10_law_L696 L xs k756 n v1 v2 v3 v4 v5 v6 v7 v12 (v14 + 1) v100 h
  else s_X10_law_L696 L xs k756 n v1 v2 v3 v4 v5 v6 v7 v12 (v14 + 1) v100 h
  else s_X10_law_L696 L xs k756 n v1 v2 v3 v4 v5 v6 v7 v12 (v14 + 1) v100 h
  else s_X10_law_L696 L xs k756 n v1 v2 v3 v4 v5 v6 v7 v12 (v14 + 1) v100 h
def s_X10_law_J768 (L : Nat) (xs : Nat → Int32) (k290 : Nat → Nat → Nat → Nat → Nat → Nat → Int32 → Nat → Hp → Rv Int32) (v1 : Nat) (v2 : Nat) (v3 : Nat) (v4 : Nat) (v5 : Nat) (v6 : Nat) (v7 : Int32) (v100 : Nat) (w0 : Nat) (w1 : Int32) (w2 : Int32) (h : Hp) : Rv Int32 :=
  stI h w0 20 w1 w2 fun h =>
  s_X10_law_J970 L xs (fun y0 y1 y2 y3 y4 y5 y6 y7 h => k290 y0 y1 y2 y3 y4 y5 y6 y7 h) v1 v2 v3 v4 v5 v6 v7 v100 h
def s_X10_law_J688 (L : Nat) (xs : Nat → Int32) (k290 : Nat → Nat → Nat → Nat → Nat → Nat → Int32 → Nat → Hp → Rv Int32) (v1 : Nat) (v2 : Nat) (v3 : Nat) (v4 : Nat) (v5 : Nat) (v6 : Nat) (v7 : Int32) (v12 : Int32) (v100 : Nat) (w0 : Int32) (w1 : Int32) (h : Hp) : Rv Int32 :=
  if w0 = w1 then s_X10_law_L696 L xs (fun y0 y1 y2 y3 y4 y5 y6 y7 y8 h => if y7 = 0 then s_X10_law_J768 L xs (fun y0 y1 y2 y3 y4 y5 y6 y7 h => k290 y0 y1 y2 y3 y4 y5 y6 y7 h) y0 y1 y2 y3 y4 y5 y6 y8 y1 1 0 h
  else s_X10_law_J768 L xs (fun y0 y1 y2 y3 y4 y5 y6 y7 h => k290 y0 y1 y2 y3 y4 y5 y6 y7 h) y0 y1 y2 y3 y4 y5 y6 y8 y1 1 1 h) 100000 v1 v2 v3 v4 v5 v6 v7 v12 0 v100 h
  else retZ 0 h
def s_X10_law_J676 (L : Nat) (xs : Nat → Int32) (k290 : Nat → Nat → Nat → Nat → Nat → Nat → Int32 → Nat → Hp → Rv Int32) (v1 : Nat) (v2 : Nat) (v3 : Nat) (v4 : Nat) (v5 : Nat) (v6 : Nat) (v7 : Int32) (v12 : Int32) (v13 : Int32) (v100 : Nat) (w0 : Int32) (w1 : Int32) (h : Hp) : Rv Int32 :=
  if w1 = v12 then s_X10_law_J688 L xs (fun y0 y1 y2 y3 y4 y5 y6 y7 h => k290 y0 y1 y2 y3 y4 y5 y6 y7 h) v1 v2 v3 v4 v5 v6 v7 v12 v100 w0 (-5) h
  else s_X10_law_J688 L xs (fun y0 y1 y2 y3 y4 y5 y6 y7 h => k290 y0 y1 y2 y3 y4 y5 y6 y7 h) v1 v2 v3 v4 v5 v6 v7 v12 v100 w0 v13 h
def s_X10_law_J542 (L : Nat) (xs : Nat → Int32) (k496 : Nat → Nat → Nat → Nat → Nat → Nat → Int32 → Int32 → Int32 → Int32 → Int32 → Int32 → Nat → Hp → Rv Int32) (v1 : Nat) (v2 : Nat) (v3 : Nat) (v4 : Nat) (v5 : Nat) (v6 : Nat) (v7 : Int32) (v10 : Int32) (v12 : Int32) (v13 : Int32) (v14 : Int32) (v15 : Int32) (v100 : Nat) (w0 : Int32) (w1 : Int32) (h : Hp) : Rv Int32 :=
  if w0 = w1 then k496 v1 v2 v3 v4 v5 v6 v7 v10 v12 v13 v14 (v15 + 1) v100 h
  else retZ 0 h
def s_X10_law_L496 (L : Nat) (xs : Nat → Int32) (k553 : Nat → Nat → Nat → Nat → Nat → Nat → Int32 → Int32 → Int32 → Nat → Hp → Rv Int32) : Nat → Nat → Nat → Nat → Nat → Nat → Nat → Int32 → Int32 → Int32 → Int32 → Int32 → Int32 → Nat → Hp → Rv Int32
  | 0, _, _, _, _, _, _, _, _, _, _, _, _, _, _ => none
  | n + 1, v1, v2, v3, v4, v5, v6, v7, v10, v12, v13, v14, v15, v100, h =>
    if v12 ≤ v15 then k553 v1 v2 v3 v4 v5 v6 v7 v12 v14 v100 h
  else lim v100 <| bnd (s_X10_minute v2 v3 v4 v5 v6 h) fun x52 h =>
  if v15 = 0 then ldI h v2 20 1 fun x53 =>
  if x53 = 1 then ldI h v6 20 v10 fun x54 =>
  s_X10_law_J542 L xs (fun y0 y1 y2 y3 y4 y5 y6 y7 y8 y9 y10 y11 y12 h => s_X10_law_L496 L xs k553 n y0 y1 y2 y3 y4 y5 y6 y7 y8 y9 y10 y11 y12 h) v1 v2 v3 v4 v5 v6 v7 v10 v12 v13 (v14 + x52) v15 (v100 + 1) v13 x54 h
  else s_X10_law_J542 L xs (fun y0 y1 y2 y3 y4 y5 y6 y7 y8 y9 y10 y11 y12 h => s_X10_law_L496 L xs k553 n y0 y1 y2 y3 y4 y5 y6 y7 y8 y9 y10 y11 y12 h) v1 v2 v3 v4 v5 v6 v7 v10 v12 v13 (v14 + x52) v15 (v100 + 1) v13 0 h
  else s_X10_law_L496 L xs k553 n v1 v2 v3 v4 v5 v6 v7 v10 v12 v13 (v14 + x52) (v15 + 1) (v100 + 1) h
def s_X10_law_L404 (L : Nat) (xs : Nat → Int32) (k460 : Nat → Nat → Nat → Nat → Nat → Nat → Int32 → Nat → Hp → Rv Int32) : Nat → Nat → Nat → Nat → Nat → Nat → Nat → Int32 → Int32 → Int32 → Int32 → Nat → Hp → Rv Int32
  | 0, _, _, _, _, _, _, _, _, _, _, _, _ => none
  | n + 1, v1, v2, v3, v4, v5, v6, v7, v11, v12, v13, v100, h =>
    if 1 ≤ v13 then k460 v1 v2 v3 v4 v5 v6 v7 v100 h
  else if v12 = 0 then k460 v1 v2 v3 v4 v5 v6 v7 v100 h
  else stI h v3 20 (v11 + 5) 1 fun h =>
  stI h v3 20 (v11 + 6) 0 fun h =>
  stI h v3 20 (v11 + 9) 2 fun h =>
  stI h v3 20 (v11 + 10) 0 fun h =>
  stI h v3 20 (v11 + 12) 0 fun h =>
  s_X10_law_L404 L xs k460 n v1 v2 v3 v4 v5 v6 v7 v11 v12 (v13 + 1) v100 h
def s_X10_law_J460 (L : Nat) (xs : Nat → Int32) (k290 : Nat → Nat → Nat → Nat → Nat → Nat → Int32 → Nat → Hp → Rv Int32) (v1 : Nat) (v2 : Nat) (v3 : Nat) (v4 : Nat) (v5 : Nat) (v6 : Nat) (v7 : Int32) (v100 : Nat) (h : Hp) : Rv Int32 :=
  s_X10_law_J970 L xs (fun y0 y1 y2 y3 y4 y5 y6 y7 h => k290 y0 y1 y2 y3 y4 y5 y6 y7 h) v1 v2 v3 v4 v5 v6 v7 v100 h
def s_X10_law_J396 (L : Nat) (xs : Nat → Int32) (k290 : Nat → Nat → Nat → Nat → Nat → Nat → Int32 → Nat → Hp → Rv Int32) (v1 : Nat) (v2 : Nat) (v3 : Nat) (v4 : Nat) (v5 : Nat) (v6 : Nat) (v7 : Int32) (v11 : Int32) (v12 : Int32) (v100 : Nat) (w0 : Int32) (w1 : Int32) (h : Hp) : Rv Int32 :=
  if w0 = w1 then s_X10_law_L404 L xs (fun y0 y1 y2 y3 y4 y5 y6 y7 h => s_X10_law_J460 L xs (fun y0 y1 y2 y3 y4 y5 y6 y7 h => k290 y0 y1 y2 y3 y4 y5 y6 y7 h) y0 y1 y2 y3 y4 y5 y6 y7 h) 100000 v1 v2 v3 v4 v5 v6 v7 v11 v12 0 v100 h
  else retZ 0 h
def s_X10_law_J371 (L : Nat) (xs : Nat → Int32) (k290 : Nat → Nat → Nat → Nat → Nat → Nat → Int32 → Nat → Hp → Rv Int32) (v1 : Nat) (v2 : Nat) (v3 : Nat) (v4 : Nat) (v5 : Nat) (v6 : Nat) (v7 : Int32) (v10 : Int32) (v11 : Int32) (v100 : Nat) (w0 : Int32) (h : Hp) : Rv Int32 :=
  inv h v1 8 (s_X8_start v1 v10 h) fun x57 h =>
  if w0 = 0 then s_X10_law_J396 L xs (fun y0 y1 y2 y3 y4 y5 y6 y7 h => k290 y0 y1 y2 y3 y4 y5 y6 y7 h) v1 v2 v3 v4 v5 v6 v7 v11 w0 v100 x57 (-4) h
  else ldI h v3 20 (v11 + 11) fun x58 =>
  s_X10_law_J396 L xs (fun y0 y1 y2 y3 y4 y5 y6 y7 h => k290 y0 y1 y2 y3 y4 y5 y6 y7 h) v1 v2 v3 v4 v5 v6 v7 v11 w0 v100 x57 x58 h
def s_X10_law_J370 (L : Nat) (xs : Nat → Int32) (k290 : Nat → Nat → Nat → Nat → Nat → Nat → Int32 → Nat → Hp → Rv Int32) (v1 : Nat) (v2 : Nat) (v3 : Nat) (v4 : Nat) (v5 : Nat) (v6 : Nat) (v7 : Int32) (v10 : Int32) (v11 : Int32) (v100 : Nat) (h : Hp) : Rv Int32 :=
  s_X10_law_J371 L xs (fun y0 y1 y2 y3 y4 y5 y6 y7 h => k290 y0 y1 y2 y3 y4 y5 y6 y7 h) v1 v2 v3 v4 v5 v6 v7 v10 v11 v100 0 h
def s_X10_law_L290 (L : Nat) (xs : Nat → Int32) : Nat → Nat → Nat → Nat → Nat → Nat → Nat → Int32 → Nat → Hp → Rv Int32
  | 0, _, _, _, _, _, _, _, _, _ => none
  | n + 1, v1, v2, v3, v4, v5, v6, v7, v100, h =>
    if 16 ≤ v7 then retZ 1 h
  else cellB L xs (7 + v7) fun x23 =>
  bnd (s_X10_low x23 8 h) fun x24 h =>
  bnd (s_X10_low (shrI x23 3) 3 h) fun x25 h =>
  if 2 ≤ x24 then if 5 ≤ x24 then if x24 = 5 then bnd (s_X10_haggled v1 (shrI x23 3) v2 v3 v5 h) fun x49 h =>
  if x49 = 0 then retZ 0 h
  else s_X10_law_J970 L xs (fun y0 y1 y2 y3 y4 y5 y6 y7 h => s_X10_law_L290 L xs n y0 y1 y2 y3 y4 y5 y6 y7 h) v1 v2 v3 v4 v5 v6 v7 v100 h
  else if x24 = 6 then bnd (s_X10_low (shrI x23 5) 3 h) fun x40 h =>
  if x40 ≤ 0 then s_X10_law_L623 L xs (fun y0 y1 y2 y3 y4 y5 y6 y7 y8 y9 h => inv h y0 8 (s_X8_power y0 y7 h) fun x42 h =>
  ldI h y1 20 1 fun x43 =>
  if x43 = 1 then s_X10_law_J676 L xs (fun y0 y1 y2 y3 y4 y5 y6 y7 h => s_X10_law_L290 L xs n y0 y1 y2 y3 y4 y5 y6 y7 h) y0 y1 y2 y3 y4 y5 y6 y7 y8 y9 x42 1 h
  else s_X10_law_J676 L xs (fun y0 y1 y2 y3 y4 y5 y6 y7 h => s_X10_law_L290 L xs n y0 y1 y2 y3 y4 y5 y6 y7 h) y0 y1 y2 y3 y4 y5 y6 y7 y8 y9 x42 0 h) 100000 v1 v2 v3 v4 v5 v6 v7 0 0 0 v100 h
  else s_X10_law_L623 L xs (fun y0 y1 y2 y3 y4 y5 y6 y7 y8 y9 h => inv h y0 8 (s_X8_power y0 y7 h) fun x47 h =>
  ldI h y1 20 1 fun x48 =>
  if x48 = 1 then s_X10_law_J676 L xs (fun y0 y1 y2 y3 y4 y5 y6 y7 h => s_X10_law_L290 L xs n y0 y1 y2 y3 y4 y5 y6 y7 h) y0 y1 y2 y3 y4 y5 y6 y7 y8 y9 x47 1 h
  else s_X10_law_J676 L xs (fun y0 y1 y2 y3 y4 y5 y6 y7 h => s_X10_law_L290 L xs n y0 y1 y2 y3 y4 y5 y6 y7 h) y0 y1 y2 y3 y4 y5 y6 y7 y8 y9 x47 0 h) 100000 v1 v2 v3 v4 v5 v6 v7 1 0 0 v100 h
  else bnd (s_X10_low (shrI x23 5) 2 h) fun x26 h =>
  if x26 = 0 then ldI h v3 20 ((16 * x25) + 9) fun x32 =>
  if x32 = 1 then s_X10_law_J799 L xs (fun y0 y1 y2 y3 y4 y5 y6 y7 h => s_X10_law_L290 L xs n y0 y1 y2 y3 y4 y5 y6 y7 h) v1 v2 v3 v4 v5 v6 v7 x23 x25 (16 * x25) v100 1 h
  else s_X10_law_J799 L xs (fun y0 y1 y2 y3 y4 y5 y6 y7 h => s_X10_law_L290 L xs n y0 y1 y2 y3 y4 y5 y6 y7 h) v1 v2 v3 v4 v5 v6 v7 x23 x25 (16 * x25) v100 0 h
  else inv h v1 8 (s_X8_stop v1 x25 h) fun x27 h =>
  ldI h v3 20 ((16 * x25) + 5) fun x28 =>
  if x28 = 0 then s_X10_law_J939 L xs (fun y0 y1 y2 y3 y4 y5 y6 y7 h => s_X10_law_L290 L xs n y0 y1 y2 y3 y4 y5 y6 y7 h) v1 v2 v3 v4 v5 v6 v7 x23 x25 (16 * x25) v100 x27 (-5) h
  else ldI h v3 20 ((16 * x25) + 6) fun x29 =>
  s_X10_law_J939 L xs (fun y0 y1 y2 y3 y4 y5 y6 y7 h => s_X10_law_L290 L xs n y0 y1 y2 y3 y4 y5 y6 y7 h) v1 v2 v3 v4 v5 v6 v7 x23 x25 (16 * x25) v100 x27 x29 h
  else bnd (s_X10_low (shrI x23 5) 9 h) fun x50 h =>
  inv h v1 8 (s_X8_heatNext v1 x25 h) fun x51 h =>
  s_X10_law_L496 L xs (fun y0 y1 y2 y3 y4 y5 y6 y7 y8 y9 h => inv h y0 8 (s_X8_pass y0 y7 h) fun x55 h =>
  if x55 = y8 then s_X10_law_J970 L xs (fun y0 y1 y2 y3 y4 y5 y6 y7 h => s_X10_law_L290 L xs n y0 y1 y2 y3 y4 y5 y6 y7 h) y0 y1 y2 y3 y4 y5 y6 y9 h
  else retZ 0 h) 100000 v1 v2 v3 v4 v5 v6 v7 x25 (1 + x50) x51 0 0 v100 h
  else ldI h v2 20 1 fun x56 =>
  if x56 = 1 then ldI h v3 20 ((16 * x25) + 5) fun x59 =>
  if x59 = 0 then ldI h v3 20 ((16 * x25) + 9) fun x60 =>
  if x60 = 0 then s_X10_law_J370 L xs (fun y0 y1 y2 y3 y4 y5 y6 y7 h => s_X10_law_L290 L xs n y0 y1 y2 y3 y4 y5 y6 y7 h) v1 v2 v3 v4 v5 v6 v7 x25 (16 * x25) v100 h
  else s_X10_law_J371 L xs (fun y0 y1 y2 y3 y4 y5 y6 y7 h => s_X10_law_L290 L xs n y0 y1 y2 y3 y4 y5 y6 y7 h) v1 v2 v3 v4 v5 v6 v7 x25 (16 * x25) v100 1 h
  else s_X10_law_J370 L xs (fun y0 y1 y2 y3 y4 y5 y6 y7 h => s_X10_law_L290 L xs n y0 y1 y2 y3 y4 y5 y6 y7 h) v1 v2 v3 v4 v5 v6 v7 x25 (16 * x25) v100 h
  else s_X10_law_J370 L xs (fun y0 y1 y2 y3 y4 y5 y6 y7 h => s_X10_law_L290 L xs n y0 y1 y2 y3 y4 y5 y6 y7 h) v1 v2 v3 v4 v5 v6 v7 x25 (16 * x25) v100 h
def s_X10_law_J114 (L : Nat) (xs : Nat → Int32) (v1 : Nat) (v2 : Nat) (v3 : Nat) (v4 : Nat) (v5 : Nat) (v6 : Nat) (v100 : Nat) (h : Hp) : Rv Int32 :=
  ldI h v2 20 4 fun x12 =>
  if x12 = 300 then s_X10_law_L142 L xs (fun y0 y1 y2 y3 y4 y5 y6 h => s_X10_law_L290 L xs 100000 y0 y1 y2 y3 y4 y5 0 y6 h) 100000 v1 v2 v3 v4 v5 v6 0 v100 h
  else ldI h v2 20 4 fun x61 =>
  inv h v1 8 (s_X8_set v1 2 x61 h) fun x62 h =>
  if x62 = 300 then s_X10_law_L142 L xs (fun y0 y1 y2 y3 y4 y5 y6 h => s_X10_law_L290 L xs 100000 y0 y1 y2 y3 y4 y5 0 y6 h) 100000 v1 v2 v3 v4 v5 v6 0 v100 h
  else retZ 0 h
def s_X10_law_J35 (L : Nat) (xs : Nat → Int32) (v1 : Nat) (v2 : Nat) (v3 : Nat) (v4 : Nat) (v5 : Nat) (v6 : Nat) (v100 : Nat) (h : Hp) : Rv Int32 :=
  stI h v2 20 1 1 fun h =>
  stI h v2 20 2 20000 fun h =>
  cellB L xs 0 fun x7 =>
  bnd (s_X10_low x7 300 h) fun x8 h =>
  stI h v2 20 3 x8 fun h =>
  cellB L xs 0 fun x9 =>
  bnd (s_X10_low (shrI x9 9) 500 h) fun x10 h =>
  stI h v2 20 4 (10 + x10) fun h =>
  stI h v2 20 5 40 fun h =>
  stI h v2 20 6 10000 fun h =>
  ldI h v2 20 3 fun x11 =>
  if x11 = 200 then s_X10_law_J114 L xs v1 v2 v3 v4 v5 v6 v100 h
  else ldI h v2 20 3 fun x63 =>
  inv h v1 8 (s_X8_set v1 1 x63 h) fun x64 h =>
  if x64 = 200 then s_X10_law_J114 L xs v1 v2 v3 v4 v5 v6 v100 h
  else retZ 0 h
def s_X10_law (L : Nat) (xs : Nat → Int32)  (h : Hp) : Rv Int32 :=
  newO h 8 fun x1 h =>
  bnd (s_X8_init x1 h) fun _ h =>
  newA h 20 16 16 fun x2 h =>
  newA h 20 48 48 fun x3 h =>
  newA h 20 32 32 fun x4 h =>
  newA h 20 20 20 fun x5 h =>
  newA h 20 4 4 fun x6 h =>
  s_X10_law_J35 L xs x1 x2 x3 x4 x5 x6 0 h
set_option maxRecDepth 100000 in
set_option maxHeartbeats 4000000 in
theorem o_X10_law_L142 {l : Launch} {base : Nat} {D : va_G} {cA : Nat → ClassId} {p : Program} {e : Env} {s : State} {m : MethodId} {args : Array Value} {below : List Frame} {meth : Method} {c : Code} (C : GC base D cA p s m args meth c cX10_law 16 RX10) (hr : meth.sig.returnType = (some .boolean))  {b L : Nat} {xs : Nat → Int32} (hX : va_X b L xs s s.heap) (hbl : b < s.heap.size) (hbA : ¬ AA base b) {Q : State → Prop} {X : Int32 × Hp} (hX1 : X.1 = 1) (KR : ∀ (h : Hp) (lv : List (Nat × Value)), GW base D cA p l e room_1 s m args below meth c Q 16 h 744374 6869126 992 lv [.int 1]) {k287 : Nat → Nat → Nat → Nat → Nat → Nat → Nat → Hp → Rv Int32} (K287 : ∀ (y0 : Nat) (y1 : Nat) (y2 : Nat) (y3 : Nat) (y4 : Nat) (y5 : Nat) (y6 : Nat) (h : Hp), k287 y0 y1 y2 y3 y4 y5 y6 h = some X → GW base D cA p l e room_1 s m args below meth c Q 16 h (302 + 3 * min y6 400) (3270 + 131 * min y6 400) 287 [(0, .ref b), (1, .ref (base + y0)), (2, .ref (base + y1)), (3, .ref (base + y2)), (4, .ref (base + y3)), (5, .ref (base + y4)), (6, .ref (base + y5))] []) : ∀ (n : Nat) (v1 : Nat) (v2 : Nat) (v3 : Nat) (v4 : Nat) (v5 : Nat) (v6 : Nat) (v7 : Int32) (v100 : Nat) (h : Hp), s_X10_law_L142 L xs k287 n v1 v2 v3 v4 v5 v6 v7 v100 h = some X → GW base D cA p l e room_1 s m args below meth c Q 16 h (302 + 3 * min v100 400) (3270 + 131 * min v100 400) 142 [(0, .ref b), (1, .ref (base + v1)), (2, .ref (base + v2)), (3, .ref (base + v3)), (4, .ref (base + v4)), (5, .ref (base + v5)), (6, .ref (base + v6)), (7, .int v7)] [] := by
  intro n
  induction n with
  | zero =>
    intro v1 v2 v3 v4 v5 v6 v7 v100 h E
    rw [s_X10_law_L142] at E
    cases E
  | succ n ih =>
    intro v1 v2 v3 v4 v5 v6 v7 v100 h E
    rw [s_X10_law_L142] at E
    refine g_iload C 7 dX10_law_142 rfl ?_
    refine g_iconst C 3 dX10_law_144 rfl ?_
    refine g_icmp_ge C 287 dX10_law_145 (by decide) E (fun E => ?_) (fun E => ?_)
    · refine g_sub (lv' := [(0, .ref b), (1, .ref (base + v1)), (2, .ref (base + v2)), (3, .ref (base + v3)), (4, .ref (base + v4)), (5, .ref (base + v5)), (6, .ref (base + v6))]) [0, 1, 2, 3, 4, 5, 6] rfl ?_
      exact K287 v1 v2 v3 v4 v5 v6 v100 h E
    · refine g_aload_n C 0 dX10_law_148 rfl rfl ?_
      refine g_iconst C 1 dX10_law_149 rfl ?_
      refine g_iload C 7 dX10_law_150 rfl ?_
      refine g_iadd C dX10_law_152 ?_
      refine g_cell C hX hbl hbA dX10_law_153 cl_X10_79 cs_X10_cell rfl ⟨Nat.le_of_ble_eq_true rfl, Nat.le_of_ble_eq_true rfl⟩ (Nat.le_of_ble_eq_true rfl) ((show 302 + 3 * min v100 400 + 0 ≤ 744374 by omega)) ((show 3270 + 131 * min v100 400 + 0 ≤ 6869126 by omega)) E (fun x1 E => ?_)
      refine g_istore C (lv' := [(8, .int x1), (0, .ref b), (1, .ref (base + v1)), (2, .ref (base + v2)), (3, .ref (base + v3)), (4, .ref (base + v4)), (5, .ref (base + v5)), (6, .ref (base + v6)), (7, .int v7)]) dX10_law_156 (by decide) rfl ?_
      refine g_aload_n C 4 dX10_law_158 rfl rfl ?_
      refine g_bipush C 16 dX10_law_159 rfl ?_
      refine g_iload C 8 dX10_law_161 rfl ?_
      refine g_imul C dX10_law_163 ?_
      refine g_iconst C 1 dX10_law_164 rfl ?_
      refine g_iload C 0 dX10_law_165 rfl ?_
      refine g_bipush C 20 dX10_law_167 rfl ?_
      refine g_staI C [.int x1, .int 20] dX10_law_169 cl_X10_57 cs_X10_low rfl rfl ⟨Nat.le_of_ble_eq_true rfl, Nat.le_of_ble_eq_true rfl⟩ (Nat.le_of_ble_eq_true rfl) ⟨(show 302 + 3 * min v100 400 + 0 ≤ 744374 by omega), (show 3270 + 131 * min v100 400 + 0 ≤ 6869126 by omega)⟩ rfl (fun r' h' E => o_X10_low l base D cA x1 20 h r' h' E) E (fun x2 h3 E => ?_)
      refine g_iadd C dX10_law_172 ?_
      refine g_iast C dX10_law_173 E (fun h4 E => ?_)
      refine g_aload_n C 4 dX10_law_174 rfl rfl ?_
      refine g_bipush C 16 dX10_law_175 rfl ?_
      refine g_iload C 8 dX10_law_177 rfl ?_
      refine g_imul C dX10_law_179 ?_
      refine g_iconst C 1 dX10_law_180 rfl ?_
      refine g_iadd C dX10_law_181 ?_
      refine g_iconst C 1 dX10_law_182 rfl ?_
      refine g_iload C 0 dX10_law_183 rfl ?_
      refine g_iconst C 5 dX10_law_185 rfl ?_
      refine g_ishr C dX10_law_186 ?_
      refine g_bipush C 50 dX10_law_187 rfl ?_
      refine g_staI C [.int (shrI x1 5), .int 50] dX10_law_189 cl_X10_57 cs_X10_low rfl rfl ⟨Nat.le_of_ble_eq_true rfl, Nat.le_of_ble_eq_true rfl⟩ (Nat.le_of_ble_eq_true rfl) ⟨(show 302 + 3 * min v100 400 + 0 ≤ 744374 by omega), (show 3270 + 131 * min v100 400 + 0 ≤ 6869126 by omega)⟩ rfl (fun r' h' E => o_X10_low l base D cA (shrI x1 5) 50 h4 r' h' E) E (fun x5 h6 E => ?_)
      refine g_iadd C dX10_law_192 ?_
      refine g_iast C dX10_law_193 E (fun h7 E => ?_)
      refine g_aload_n C 4 dX10_law_194 rfl rfl ?_
      refine g_bipush C 16 dX10_law_195 rfl ?_
      refine g_iload C 8 dX10_law_197 rfl ?_
      refine g_imul C dX10_law_199 ?_
      refine g_iconst C 2 dX10_law_200 rfl ?_
      refine g_iadd C dX10_law_201 ?_
      refine g_iload C 0 dX10_law_202 rfl ?_
      refine g_bipush C 11 dX10_law_204 rfl ?_
      refine g_ishr C dX10_law_206 ?_
      refine g_sipush C 400 dX10_law_207 rfl ?_
      refine g_staI C [.int (shrI x1 11), .int 400] dX10_law_210 cl_X10_57 cs_X10_low rfl rfl ⟨Nat.le_of_ble_eq_true rfl, Nat.le_of_ble_eq_true rfl⟩ (Nat.le_of_ble_eq_true rfl) ⟨(show 302 + 3 * min v100 400 + 0 ≤ 744374 by omega), (show 3270 + 131 * min v100 400 + 0 ≤ 6869126 by omega)⟩ rfl (fun r' h' E => o_X10_low l base D cA (shrI x1 11) 400 h7 r' h' E) E (fun x8 h9 E => ?_)
      refine g_iast C dX10_law_213 E (fun h10 E => ?_)
      refine g_aload_n C 4 dX10_law_214 rfl rfl ?_
      refine g_bipush C 16 dX10_law_215 rfl ?_
      refine g_iload C 8 dX10_law_217 rfl ?_
      refine g_imul C dX10_law_219 ?_
      refine g_bipush C 9 dX10_law_220 rfl ?_
      refine g_iadd C dX10_law_222 ?_
      refine g_iconst C 1 dX10_law_223 rfl ?_
      refine g_iast C dX10_law_224 E (fun h11 E => ?_)
      refine g_aload_n C 2 dX10_law_225 rfl rfl ?_
      refine g_aload_n C 4 dX10_law_226 rfl rfl ?_
      refine g_bipush C 16 dX10_law_227 rfl ?_
      refine g_iload C 8 dX10_law_229 rfl ?_
      refine g_imul C dX10_law_231 ?_
      refine g_iald C dX10_law_232 E (fun x12 E => ?_)
      refine g_aload_n C 4 dX10_law_233 rfl rfl ?_
      refine g_bipush C 16 dX10_law_234 rfl ?_
      refine g_iload C 8 dX10_law_236 rfl ?_
      refine g_imul C dX10_law_238 ?_
      refine g_iconst C 1 dX10_law_239 rfl ?_
      refine g_iadd C dX10_law_240 ?_
      refine g_iald C dX10_law_241 E (fun x13 E => ?_)
      refine g_aload_n C 4 dX10_law_242 rfl rfl ?_
      refine g_bipush C 16 dX10_law_243 rfl ?_
      refine g_iload C 8 dX10_law_245 rfl ?_
      refine g_imul C dX10_law_247 ?_
      refine g_iconst C 2 dX10_law_248 rfl ?_
      refine g_iadd C dX10_law_249 ?_
      refine g_iald C dX10_law_250 E (fun x14 E => ?_)
      refine g_invI C (q := (RX8, TX8, 7)) [.int x12, .int x13, .int x14] dX10_law_251 cl_X10_86 cv_X8_addHouse rfl (by decide) rfl rfl ⟨Nat.le_of_ble_eq_true rfl, Nat.le_of_ble_eq_true rfl⟩ (Nat.le_of_ble_eq_true rfl) ⟨(show 302 + 3 * min v100 400 + 0 ≤ 744374 by omega), (show 3270 + 131 * min v100 400 + 0 ≤ 6869126 by omega)⟩ rfl (fun r' h' E => o_X8_addHouse l base D cA v1 x12 x13 x14 h11 r' h' E) E (fun x15 h16 E => ?_)
      refine g_iload C 8 dX10_law_254 rfl ?_
      refine g_icmp_ne C 279 dX10_law_256 (by decide) E (fun E => ?_) (fun E => ?_)
      · refine g_iconst C 0 dX10_law_279 rfl ?_
        exact absurd E (ret0_no hX1)
      · refine g_aload_n C 2 dX10_law_259 rfl rfl ?_
        refine g_iload C 8 dX10_law_260 rfl ?_
        refine g_aload_n C 1 dX10_law_262 rfl rfl ?_
        refine g_iconst C 4 dX10_law_263 rfl ?_
        refine g_iload C 8 dX10_law_264 rfl ?_
        refine g_iadd C dX10_law_266 ?_
        refine g_cell C hX hbl hbA dX10_law_267 cl_X10_79 cs_X10_cell rfl ⟨Nat.le_of_ble_eq_true rfl, Nat.le_of_ble_eq_true rfl⟩ (Nat.le_of_ble_eq_true rfl) ((show 302 + 3 * min v100 400 + 0 ≤ 744374 by omega)) ((show 3270 + 131 * min v100 400 + 0 ≤ 6869126 by omega)) E (fun x17 E => ?_)
        refine g_aload_n C 4 dX10_law_270 rfl rfl ?_
        refine g_aload C 5 dX10_law_271 rfl ?_
        obtain ⟨hg18, E⟩ := lim_some E
        refine g_staI C [.ref (base + v1), .int v7, .int x17, .ref (base + v3), .ref (base + v4)] dX10_law_273 cl_X10_90 cs_X10_program rfl rfl ⟨Nat.le_of_ble_eq_true rfl, Nat.le_of_ble_eq_true rfl⟩ (Nat.le_of_ble_eq_true rfl) ⟨(show 302 + 3 * min v100 400 + 3 ≤ 744374 by omega), (show 3270 + 131 * min v100 400 + 131 ≤ 6869126 by omega)⟩ rfl (fun r' h' E => o_X10_program l base D cA v1 v7 x17 v3 v4 h16 r' h' E) E (fun x19 h20 E => ?_)
        refine g_widen (302 + 3 * min (v100 + 1) 400) (3270 + 131 * min (v100 + 1) 400) (show 302 + 3 * min v100 400 + 3 ≤ 302 + 3 * min (v100 + 1) 400 by omega) (show 3270 + 131 * min v100 400 + 131 ≤ 3270 + 131 * min (v100 + 1) 400 by omega) ?_
        refine g_if_ne C 281 dX10_law_276 (by decide) E (fun E => ?_) (fun E => ?_)
        · refine g_iinc C (lv' := [(7, .int (v7 + 1)), (8, .int x1), (0, .ref b), (1, .ref (base + v1)), (2, .ref (base + v2)), (3, .ref (base + v3)), (4, .ref (base + v4)), (5, .ref (base + v5)), (6, .ref (base + v6))]) 8 1 dX10_law_281 rfl rfl (by decide) rfl ?_
          refine g_goto C 142 dX10_law_284 (by decide) ?_
          refine g_sub (lv' := [(0, .ref b), (1, .ref (base + v1)), (2, .ref (base + v2)), (3, .ref (base + v3)), (4, .ref (base + v4)), (5, .ref (base + v5)), (6, .ref (base + v6)), (7, .int (v7 + 1))]) [2, 3, 4, 5, 6, 7, 8, 0] rfl ?_
          exact ih v1 v2 v3 v4 v5 v6 (v7 + 1) (v100 + 1) h20 E
        · refine g_iconst C 0 dX10_law_279 rfl ?_
          exact absurd E (ret0_no hX1)
set_option maxRecDepth 100000 in
set_option maxHeartbeats 4000000 in
theorem o_X10_law_J970 {l : Launch} {base : Nat} {D : va_G} {cA : Nat → ClassId} {p : Program} {e : Env} {s : State} {m : MethodId} {args : Array Value} {below : List Frame} {meth : Method} {c : Code} (C : GC base D cA p s m args meth c cX10_law 16 RX10) (hr : meth.sig.returnType = (some .boolean))  {b L : Nat} {xs : Nat → Int32} (hX : va_X b L xs s s.heap) (hbl : b < s.heap.size) (hbA : ¬ AA base b) {Q : State → Prop} {X : Int32 × Hp} (hX1 : X.1 = 1) (KR : ∀ (h : Hp) (lv : List (Nat × Value)), GW base D cA p l e room_1 s m args below meth c Q 16 h 744374 6869126 992 lv [.int 1]) {k290 : Nat → Nat → Nat → Nat → Nat → Nat → Int32 → Nat → Hp → Rv Int32} (K290 : ∀ (y0 : Nat) (y1 : Nat) (y2 : Nat) (y3 : Nat) (y4 : Nat) (y5 : Nat) (y6 : Int32) (y7 : Nat) (h : Hp), k290 y0 y1 y2 y3 y4 y5 y6 y7 h = some X → GW base D cA p l e room_1 s m args below meth c Q 16 h (302 + 3 * min y7 400) (3270 + 131 * min y7 400) 290 [(0, .ref b), (1, .ref (base + y0)), (2, .ref (base + y1)), (3, .ref (base + y2)), (4, .ref (base + y3)), (5, .ref (base + y4)), (6, .ref (base + y5)), (7, .int y6)] []) : ∀ (v1 : Nat) (v2 : Nat) (v3 : Nat) (v4 : Nat) (v5 : Nat) (v6 : Nat) (v7 : Int32) (v100 : Nat) (h : Hp), s_X10_law_J970 L xs k290 v1 v2 v3 v4 v5 v6 v7 v100 h = some X → GW base D cA p l e room_1 s m args below meth c Q 16 h (302 + 3 * min v100 400) (3270 + 131 * min v100 400) 970 [(0, .ref b), (1, .ref (base + v1)), (2, .ref (base + v2)), (3, .ref (base + v3)), (4, .ref (base + v4)), (5, .ref (base + v5)), (6, .ref (base + v6)), (7, .int v7)] [] := by
  intro v1 v2 v3 v4 v5 v6 v7 v100 h E
  unfold s_X10_law_J970 at E
  refine g_aload_n C 1 dX10_law_970 rfl rfl ?_
  refine g_aload_n C 2 dX10_law_971 rfl rfl ?_
  refine g_aload_n C 3 dX10_law_972 rfl rfl ?_
  refine g_aload C 4 dX10_law_973 rfl ?_
  refine g_aload C 5 dX10_law_975 rfl ?_
  refine g_staI C [.ref (base + v1), .ref (base + v2), .ref (base + v3), .ref (base + v4), .ref (base + v5)] dX10_law_977 cl_X10_124 cs_X10_same rfl rfl ⟨Nat.le_of_ble_eq_true rfl, Nat.le_of_ble_eq_true rfl⟩ (Nat.le_of_ble_eq_true rfl) ⟨(show 302 + 3 * min v100 400 + 0 ≤ 744374 by omega), (show 3270 + 131 * min v100 400 + 0 ≤ 6869126 by omega)⟩ rfl (fun r' h' E => o_X10_same l base D cA v1 v2 v3 v4 v5 h r' h' E) E (fun x1 h2 E => ?_)
  refine g_if_ne C 985 dX10_law_980 (by decide) E (fun E => ?_) (fun E => ?_)
  · refine g_iinc C (lv' := [(7, .int (v7 + 1)), (0, .ref b), (1, .ref (base + v1)), (2, .ref (base + v2)), (3, .ref (base + v3)), (4, .ref (base + v4)), (5, .ref (base + v5)), (6, .ref (base + v6))]) 7 1 dX10_law_985 rfl rfl (by decide) rfl ?_
    refine g_goto C 290 dX10_law_988 (by decide) ?_
    refine g_sub (lv' := [(0, .ref b), (1, .ref (base + v1)), (2, .ref (base + v2)), (3, .ref (base + v3)), (4, .ref (base + v4)), (5, .ref (base + v5)), (6, .ref (base + v6)), (7, .int (v7 + 1))]) [1, 2, 3, 4, 5, 6, 7, 0] rfl ?_
    exact K290 v1 v2 v3 v4 v5 v6 (v7 + 1) v100 h2 E
  · refine g_iconst C 0 dX10_law_983 rfl ?_
    exact absurd E (ret0_no hX1)
set_option maxRecDepth 100000 in
set_option maxHeartbeats 4000000 in
theorem o_X10_law_J939 {l : Launch} {base : Nat} {D : va_G} {cA : Nat → ClassId} {p : Program} {e : Env} {s : State} {m : MethodId} {args : Array Value} {below : List Frame} {meth : Method} {c : Code} (C : GC base D cA p s m args meth c cX10_law 16 RX10) (hr : meth.sig.returnType = (some .boolean))  {b L : Nat} {xs : Nat → Int32} (hX : va_X b L xs s s.heap) (hbl : b < s.heap.size) (hbA : ¬ AA base b) {Q : State → Prop} {X : Int32 × Hp} (hX1 : X.1 = 1) (KR : ∀ (h : Hp) (lv : List (Nat × Value)), GW base D cA p l e room_1 s m args below meth c Q 16 h 744374 6869126 992 lv [.int 1]) {k290 : Nat → Nat → Nat → Nat → Nat → Nat → Int32 → Nat → Hp → Rv Int32} (K290 : ∀ (y0 : Nat) (y1 : Nat) (y2 : Nat) (y3 : Nat) (y4 : Nat) (y5 : Nat) (y6 : Int32) (y7 : Nat) (h : Hp), k290 y0 y1 y2 y3 y4 y5 y6 y7 h = some X → GW base D cA p l e room_1 s m args below meth c Q 16 h (302 + 3 * min y7 400) (3270 + 131 * min y7 400) 290 [(0, .ref b), (1, .ref (base + y0)), (2, .ref (base + y1)), (3, .ref (base + y2)), (4, .ref (base + y3)), (5, .ref (base + y4)), (6, .ref (base + y5)), (7, .int y6)] []) : ∀ (v1 : Nat) (v2 : Nat) (v3 : Nat) (v4 : Nat) (v5 : Nat) (v6 : Nat) (v7 : Int32) (v8 : Int32) (v10 : Int32) (v11 : Int32) (v100 : Nat) (w0 : Int32) (w1 : Int32) (h : Hp), s_X10_law_J939 L xs k290 v1 v2 v3 v4 v5 v6 v7 v8 v10 v11 v100 w0 w1 h = some X → GW base D cA p l e room_1 s m args below meth c Q 16 h (302 + 3 * min v100 400) (3270 + 131 * min v100 400) 939 [(0, .ref b), (1, .ref (base + v1)), (2, .ref (base + v2)), (3, .ref (base + v3)), (4, .ref (base + v4)), (5, .ref (base + v5)), (6, .ref (base + v6)), (7, .int v7), (8, .int v8), (10, .int v10), (11, .int v11)] [.int w1, .int w0] := by
  intro v1 v2 v3 v4 v5 v6 v7 v8 v10 v11 v100 w0 w1 h E
  unfold s_X10_law_J939 at E
  refine g_icmp_eq C 944 dX10_law_939 (by decide) E (fun E => ?_) (fun E => ?_)
  · refine g_aload_n C 3 dX10_law_944 rfl rfl ?_
    refine g_iload C 10 dX10_law_945 rfl ?_
    refine g_iconst C 5 dX10_law_947 rfl ?_
    refine g_iadd C dX10_law_948 ?_
    refine g_iconst C 0 dX10_law_949 rfl ?_
    refine g_iast C dX10_law_950 E (fun h1 E => ?_)
    refine g_aload_n C 1 dX10_law_951 rfl rfl ?_
    refine g_iload C 9 dX10_law_952 rfl ?_
    refine g_iload C 8 dX10_law_954 rfl ?_
    refine g_bipush C 7 dX10_law_956 rfl ?_
    refine g_ishr C dX10_law_958 ?_
    refine g_aload_n C 3 dX10_law_959 rfl rfl ?_
    refine g_aload C 4 dX10_law_960 rfl ?_
    obtain ⟨hg2, E⟩ := lim_some E
    refine g_staI C [.ref (base + v1), .int v10, .int (shrI v8 7), .ref (base + v3), .ref (base + v4)] dX10_law_962 cl_X10_90 cs_X10_program rfl rfl ⟨Nat.le_of_ble_eq_true rfl, Nat.le_of_ble_eq_true rfl⟩ (Nat.le_of_ble_eq_true rfl) ⟨(show 302 + 3 * min v100 400 + 3 ≤ 744374 by omega), (show 3270 + 131 * min v100 400 + 131 ≤ 6869126 by omega)⟩ rfl (fun r' h' E => o_X10_program l base D cA v1 v10 (shrI v8 7) v3 v4 h1 r' h' E) E (fun x3 h4 E => ?_)
    refine g_widen (302 + 3 * min (v100 + 1) 400) (3270 + 131 * min (v100 + 1) 400) (show 302 + 3 * min v100 400 + 3 ≤ 302 + 3 * min (v100 + 1) 400 by omega) (show 3270 + 131 * min v100 400 + 131 ≤ 3270 + 131 * min (v100 + 1) 400 by omega) ?_
    refine g_if_ne C 970 dX10_law_965 (by decide) E (fun E => ?_) (fun E => ?_)
    · refine g_sub (lv' := [(0, .ref b), (1, .ref (base + v1)), (2, .ref (base + v2)), (3, .ref (base + v3)), (4, .ref (base + v4)), (5, .ref (base + v5)), (6, .ref (base + v6)), (7, .int v7)]) [0, 1, 2, 3, 4, 5, 6, 7] rfl ?_
      refine o_X10_law_J970 C hr hX hbl hbA hX1 KR ?_ v1 v2 v3 v4 v5 v6 v7 (v100 + 1) h4 E
      · intro y5 y6 y7 y8 y9 y10 y11 y12 h13 E
        refine g_sub (lv' := [(0, .ref b), (1, .ref (base + y5)), (2, .ref (base + y6)), (3, .ref (base + y7)), (4, .ref (base + y8)), (5, .ref (base + y9)), (6, .ref (base + y10)), (7, .int y11)]) [0, 1, 2, 3, 4, 5, 6, 7] rfl ?_
        exact K290 y5 y6 y7 y8 y9 y10 y11 y12 h13 E
    · refine g_iconst C 0 dX10_law_968 rfl ?_
      exact absurd E (ret0_no hX1)
  · refine g_iconst C 0 dX10_law_942 rfl ?_
    exact absurd E (ret0_no hX1)
set_option maxRecDepth 100000 in
set_option maxHeartbeats 4000000 in
theorem o_X10_law_J909 {l : Launch} {base : Nat} {D : va_G} {cA : Nat → ClassId} {p : Program} {e : Env} {s : State} {m : MethodId} {args : Array Value} {below : List Frame} {meth : Method} {c : Code} (C : GC base D cA p s m args meth c cX10_law 16 RX10) (hr : meth.sig.returnType = (some .boolean))  {b L : Nat} {xs : Nat → Int32} (hX : va_X b L xs s s.heap) (hbl : b < s.heap.size) (hbA : ¬ AA base b) {Q : State → Prop} {X : Int32 × Hp} (hX1 : X.1 = 1) (KR : ∀ (h : Hp) (lv : List (Nat × Value)), GW base D cA p l e room_1 s m args below meth c Q 16 h 744374 6869126 992 lv [.int 1]) {k290 : Nat → Nat → Nat → Nat → Nat → Nat → Int32 → Nat → Hp → Rv Int32} (K290 : ∀ (y0 : Nat) (y1 : Nat) (y2 : Nat) (y3 : Nat) (y4 : Nat) (y5 : Nat) (y6 : Int32) (y7 : Nat) (h : Hp), k290 y0 y1 y2 y3 y4 y5 y6 y7 h = some X → GW base D cA p l e room_1 s m args below meth c Q 16 h (302 + 3 * min y7 400) (3270 + 131 * min y7 400) 290 [(0, .ref b), (1, .ref (base + y0)), (2, .ref (base + y1)), (3, .ref (base + y2)), (4, .ref (base + y3)), (5, .ref (base + y4)), (6, .ref (base + y5)), (7, .int y6)] []) : ∀ (v1 : Nat) (v2 : Nat) (v3 : Nat) (v4 : Nat) (v5 : Nat) (v6 : Nat) (v7 : Int32) (v100 : Nat) (h : Hp), s_X10_law_J909 L xs k290 v1 v2 v3 v4 v5 v6 v7 v100 h = some X → GW base D cA p l e room_1 s m args below meth c Q 16 h (302 + 3 * min v100 400) (3270 + 131 * min v100 400) 909 [(0, .ref b), (1, .ref (base + v1)), (2, .ref (base + v2)), (3, .ref (base + v3)), (4, .ref (base + v4)), (5, .ref (base + v5)), (6, .ref (base + v6)), (7, .int v7)] [] := by
  intro v1 v2 v3 v4 v5 v6 v7 v100 h E
  unfold s_X10_law_J909 at E
  refine g_goto C 970 dX10_law_909 (by decide) ?_
  refine g_sub (lv' := [(0, .ref b), (1, .ref (base + v1)), (2, .ref (base + v2)), (3, .ref (base + v3)), (4, .ref (base + v4)), (5, .ref (base + v5)), (6, .ref (base + v6)), (7, .int v7)]) [0, 1, 2, 3, 4, 5, 6, 7] rfl ?_
  refine o_X10_law_J970 C hr hX hbl hbA hX1 KR ?_ v1 v2 v3 v4 v5 v6 v7 v100 h E
  · intro y1 y2 y3 y4 y5 y6 y7 y8 h9 E
    refine g_sub (lv' := [(0, .ref b), (1, .ref (base + y1)), (2, .ref (base + y2)), (3, .ref (base + y3)), (4, .ref (base + y4)), (5, .ref (base + y5)), (6, .ref (base + y6)), (7, .int y7)]) [0, 1, 2, 3, 4, 5, 6, 7] rfl ?_
    exact K290 y1 y2 y3 y4 y5 y6 y7 y8 h9 E
set_option maxRecDepth 100000 in
set_option maxHeartbeats 4000000 in
theorem o_X10_law_J866 {l : Launch} {base : Nat} {D : va_G} {cA : Nat → ClassId} {p : Program} {e : Env} {s : State} {m : MethodId} {args : Array Value} {below : List Frame} {meth : Method} {c : Code} (C : GC base D cA p s m args meth c cX10_law 16 RX10) (hr : meth.sig.returnType = (some .boolean))  {b L : Nat} {xs : Nat → Int32} (hX : va_X b L xs s s.heap) (hbl : b < s.heap.size) (hbA : ¬ AA base b) {Q : State → Prop} {X : Int32 × Hp} (hX1 : X.1 = 1) (KR : ∀ (h : Hp) (lv : List (Nat × Value)), GW base D cA p l e room_1 s m args below meth c Q 16 h 744374 6869126 992 lv [.int 1]) {k290 : Nat → Nat → Nat → Nat → Nat → Nat → Int32 → Nat → Hp → Rv Int32} (K290 : ∀ (y0 : Nat) (y1 : Nat) (y2 : Nat) (y3 : Nat) (y4 : Nat) (y5 : Nat) (y6 : Int32) (y7 : Nat) (h : Hp), k290 y0 y1 y2 y3 y4 y5 y6 y7 h = some X → GW base D cA p l e room_1 s m args below meth c Q 16 h (302 + 3 * min y7 400) (3270 + 131 * min y7 400) 290 [(0, .ref b), (1, .ref (base + y0)), (2, .ref (base + y1)), (3, .ref (base + y2)), (4, .ref (base + y3)), (5, .ref (base + y4)), (6, .ref (base + y5)), (7, .int y6)] []) : ∀ (v1 : Nat) (v2 : Nat) (v3 : Nat) (v4 : Nat) (v5 : Nat) (v6 : Nat) (v7 : Int32) (v8 : Int32) (v10 : Int32) (v11 : Int32) (v100 : Nat) (w0 : Nat) (w1 : Int32) (w2 : Int32) (h : Hp), s_X10_law_J866 L xs k290 v1 v2 v3 v4 v5 v6 v7 v8 v10 v11 v100 w0 w1 w2 h = some X → GW base D cA p l e room_1 s m args below meth c Q 16 h (302 + 3 * min v100 400) (3270 + 131 * min v100 400) 866 [(0, .ref b), (1, .ref (base + v1)), (2, .ref (base + v2)), (3, .ref (base + v3)), (4, .ref (base + v4)), (5, .ref (base + v5)), (6, .ref (base + v6)), (7, .int v7), (8, .int v8), (10, .int v10), (11, .int v11)] [.int w2, .int w1, .ref (base + w0)] := by
  intro v1 v2 v3 v4 v5 v6 v7 v8 v10 v11 v100 w0 w1 w2 h E
  unfold s_X10_law_J866 at E
  refine g_iast C dX10_law_866 E (fun h1 E => ?_)
  refine g_iload C 8 dX10_law_867 rfl ?_
  refine g_bipush C 7 dX10_law_869 rfl ?_
  refine g_ishr C dX10_law_871 ?_
  refine g_iconst C 2 dX10_law_872 rfl ?_
  refine g_staI C [.int (shrI v8 7), .int 2] dX10_law_873 cl_X10_57 cs_X10_low rfl rfl ⟨Nat.le_of_ble_eq_true rfl, Nat.le_of_ble_eq_true rfl⟩ (Nat.le_of_ble_eq_true rfl) ⟨(show 302 + 3 * min v100 400 + 0 ≤ 744374 by omega), (show 3270 + 131 * min v100 400 + 0 ≤ 6869126 by omega)⟩ rfl (fun r' h' E => o_X10_low l base D cA (shrI v8 7) 2 h1 r' h' E) E (fun x2 h3 E => ?_)
  refine g_if_ne C 909 dX10_law_876 (by decide) E (fun E => ?_) (fun E => ?_)
  · refine g_sub (lv' := [(0, .ref b), (1, .ref (base + v1)), (2, .ref (base + v2)), (3, .ref (base + v3)), (4, .ref (base + v4)), (5, .ref (base + v5)), (6, .ref (base + v6)), (7, .int v7)]) [0, 1, 2, 3, 4, 5, 6, 7] rfl ?_
    refine o_X10_law_J909 C hr hX hbl hbA hX1 KR ?_ v1 v2 v3 v4 v5 v6 v7 v100 h3 E
    · intro y4 y5 y6 y7 y8 y9 y10 y11 h12 E
      refine g_sub (lv' := [(0, .ref b), (1, .ref (base + y4)), (2, .ref (base + y5)), (3, .ref (base + y6)), (4, .ref (base + y7)), (5, .ref (base + y8)), (6, .ref (base + y9)), (7, .int y10)]) [0, 1, 2, 3, 4, 5, 6, 7] rfl ?_
      exact K290 y4 y5 y6 y7 y8 y9 y10 y11 h12 E
  · refine g_aload_n C 3 dX10_law_879 rfl rfl ?_
    refine g_iload C 10 dX10_law_880 rfl ?_
    refine g_bipush C 9 dX10_law_882 rfl ?_
    refine g_iadd C dX10_law_884 ?_
    refine g_iald C dX10_law_885 E (fun x13 E => ?_)
    refine g_if_ne C 909 dX10_law_886 (by decide) E (fun E => ?_) (fun E => ?_)
    · refine g_sub (lv' := [(0, .ref b), (1, .ref (base + v1)), (2, .ref (base + v2)), (3, .ref (base + v3)), (4, .ref (base + v4)), (5, .ref (base + v5)), (6, .ref (base + v6)), (7, .int v7)]) [0, 1, 2, 3, 4, 5, 6, 7] rfl ?_
      refine o_X10_law_J909 C hr hX hbl hbA hX1 KR ?_ v1 v2 v3 v4 v5 v6 v7 v100 h3 E
      · intro y14 y15 y16 y17 y18 y19 y20 y21 h22 E
        refine g_sub (lv' := [(0, .ref b), (1, .ref (base + y14)), (2, .ref (base + y15)), (3, .ref (base + y16)), (4, .ref (base + y17)), (5, .ref (base + y18)), (6, .ref (base + y19)), (7, .int y20)]) [0, 1, 2, 3, 4, 5, 6, 7] rfl ?_
        exact K290 y14 y15 y16 y17 y18 y19 y20 y21 h22 E
    · refine g_aload_n C 1 dX10_law_889 rfl rfl ?_
      refine g_iload C 9 dX10_law_890 rfl ?_
      refine g_invI C (q := (RX8, TX8, 7)) [.int v10] dX10_law_892 cl_X10_118 cv_X8_closeDoor rfl (by decide) rfl rfl ⟨Nat.le_of_ble_eq_true rfl, Nat.le_of_ble_eq_true rfl⟩ (Nat.le_of_ble_eq_true rfl) ⟨(show 302 + 3 * min v100 400 + 0 ≤ 744374 by omega), (show 3270 + 131 * min v100 400 + 0 ≤ 6869126 by omega)⟩ rfl (fun r' h' E => o_X8_closeDoor l base D cA v1 v10 h3 r' h' E) E (fun x23 h24 E => ?_)
      refine g_iconst C 1 dX10_law_895 rfl ?_
      refine g_icmp_eq C 901 dX10_law_896 (by decide) E (fun E => ?_) (fun E => ?_)
      · refine g_aload_n C 3 dX10_law_901 rfl rfl ?_
        refine g_iload C 10 dX10_law_902 rfl ?_
        refine g_bipush C 9 dX10_law_904 rfl ?_
        refine g_iadd C dX10_law_906 ?_
        refine g_iconst C 1 dX10_law_907 rfl ?_
        refine g_iast C dX10_law_908 E (fun h25 E => ?_)
        refine g_sub (lv' := [(0, .ref b), (1, .ref (base + v1)), (2, .ref (base + v2)), (3, .ref (base + v3)), (4, .ref (base + v4)), (5, .ref (base + v5)), (6, .ref (base + v6)), (7, .int v7)]) [0, 1, 2, 3, 4, 5, 6, 7] rfl ?_
        refine o_X10_law_J909 C hr hX hbl hbA hX1 KR ?_ v1 v2 v3 v4 v5 v6 v7 v100 h25 E
        · intro y26 y27 y28 y29 y30 y31 y32 y33 h34 E
          refine g_sub (lv' := [(0, .ref b), (1, .ref (base + y26)), (2, .ref (base + y27)), (3, .ref (base + y28)), (4, .ref (base + y29)), (5, .ref (base + y30)), (6, .ref (base + y31)), (7, .int y32)]) [0, 1, 2, 3, 4, 5, 6, 7] rfl ?_
          exact K290 y26 y27 y28 y29 y30 y31 y32 y33 h34 E
      · refine g_iconst C 0 dX10_law_899 rfl ?_
        exact absurd E (ret0_no hX1)
set_option maxRecDepth 100000 in
set_option maxHeartbeats 4000000 in
theorem o_X10_law_J839 {l : Launch} {base : Nat} {D : va_G} {cA : Nat → ClassId} {p : Program} {e : Env} {s : State} {m : MethodId} {args : Array Value} {below : List Frame} {meth : Method} {c : Code} (C : GC base D cA p s m args meth c cX10_law 16 RX10) (hr : meth.sig.returnType = (some .boolean))  {b L : Nat} {xs : Nat → Int32} (hX : va_X b L xs s s.heap) (hbl : b < s.heap.size) (hbA : ¬ AA base b) {Q : State → Prop} {X : Int32 × Hp} (hX1 : X.1 = 1) (KR : ∀ (h : Hp) (lv : List (Nat × Value)), GW base D cA p l e room_1 s m args below meth c Q 16 h 744374 6869126 992 lv [.int 1]) {k290 : Nat → Nat → Nat → Nat → Nat → Nat → Int32 → Nat → Hp → Rv Int32} (K290 : ∀ (y0 : Nat) (y1 : Nat) (y2 : Nat) (y3 : Nat) (y4 : Nat) (y5 : Nat) (y6 : Int32) (y7 : Nat) (h : Hp), k290 y0 y1 y2 y3 y4 y5 y6 y7 h = some X → GW base D cA p l e room_1 s m args below meth c Q 16 h (302 + 3 * min y7 400) (3270 + 131 * min y7 400) 290 [(0, .ref b), (1, .ref (base + y0)), (2, .ref (base + y1)), (3, .ref (base + y2)), (4, .ref (base + y3)), (5, .ref (base + y4)), (6, .ref (base + y5)), (7, .int y6)] []) : ∀ (v1 : Nat) (v2 : Nat) (v3 : Nat) (v4 : Nat) (v5 : Nat) (v6 : Nat) (v7 : Int32) (v8 : Int32) (v10 : Int32) (v11 : Int32) (v12 : Int32) (v100 : Nat) (w0 : Int32) (w1 : Int32) (h : Hp), s_X10_law_J839 L xs k290 v1 v2 v3 v4 v5 v6 v7 v8 v10 v11 v12 v100 w0 w1 h = some X → GW base D cA p l e room_1 s m args below meth c Q 16 h (302 + 3 * min v100 400) (3270 + 131 * min v100 400) 839 [(0, .ref b), (1, .ref (base + v1)), (2, .ref (base + v2)), (3, .ref (base + v3)), (4, .ref (base + v4)), (5, .ref (base + v5)), (6, .ref (base + v6)), (7, .int v7), (8, .int v8), (10, .int v10), (11, .int v11), (12, .int v12)] [.int w1, .int w0] := by
  intro v1 v2 v3 v4 v5 v6 v7 v8 v10 v11 v12 v100 w0 w1 h E
  unfold s_X10_law_J839 at E
  refine g_icmp_eq C 844 dX10_law_839 (by decide) E (fun E => ?_) (fun E => ?_)
  · refine g_aload_n C 3 dX10_law_844 rfl rfl ?_
    refine g_iload C 10 dX10_law_845 rfl ?_
    refine g_bipush C 9 dX10_law_847 rfl ?_
    refine g_iadd C dX10_law_849 ?_
    refine g_iload C 11 dX10_law_850 rfl ?_
    refine g_if_eq C 859 dX10_law_852 (by decide) E (fun E => ?_) (fun E => ?_)
    · refine g_aload_n C 3 dX10_law_859 rfl rfl ?_
      refine g_iload C 10 dX10_law_860 rfl ?_
      refine g_bipush C 9 dX10_law_862 rfl ?_
      refine g_iadd C dX10_law_864 ?_
      refine g_iald C dX10_law_865 E (fun x1 E => ?_)
      refine g_sub (lv' := [(0, .ref b), (1, .ref (base + v1)), (2, .ref (base + v2)), (3, .ref (base + v3)), (4, .ref (base + v4)), (5, .ref (base + v5)), (6, .ref (base + v6)), (7, .int v7), (8, .int v8), (10, .int v10), (11, .int v11)]) [0, 1, 2, 3, 4, 5, 6, 7, 8, 9, 10] rfl ?_
      refine o_X10_law_J866 C hr hX hbl hbA hX1 KR ?_ v1 v2 v3 v4 v5 v6 v7 v8 v10 v11 v100 v3 (v11 + 9) x1 h E
      · intro y2 y3 y4 y5 y6 y7 y8 y9 h10 E
        refine g_sub (lv' := [(0, .ref b), (1, .ref (base + y2)), (2, .ref (base + y3)), (3, .ref (base + y4)), (4, .ref (base + y5)), (5, .ref (base + y6)), (6, .ref (base + y7)), (7, .int y8)]) [0, 1, 2, 3, 4, 5, 6, 7] rfl ?_
        exact K290 y2 y3 y4 y5 y6 y7 y8 y9 h10 E
    · refine g_iconst C 0 dX10_law_855 rfl ?_
      refine g_goto C 866 dX10_law_856 (by decide) ?_
      refine g_sub (lv' := [(0, .ref b), (1, .ref (base + v1)), (2, .ref (base + v2)), (3, .ref (base + v3)), (4, .ref (base + v4)), (5, .ref (base + v5)), (6, .ref (base + v6)), (7, .int v7), (8, .int v8), (10, .int v10), (11, .int v11)]) [0, 1, 2, 3, 4, 5, 6, 7, 8, 9, 10] rfl ?_
      refine o_X10_law_J866 C hr hX hbl hbA hX1 KR ?_ v1 v2 v3 v4 v5 v6 v7 v8 v10 v11 v100 v3 (v11 + 9) 0 h E
      · intro y11 y12 y13 y14 y15 y16 y17 y18 h19 E
        refine g_sub (lv' := [(0, .ref b), (1, .ref (base + y11)), (2, .ref (base + y12)), (3, .ref (base + y13)), (4, .ref (base + y14)), (5, .ref (base + y15)), (6, .ref (base + y16)), (7, .int y17)]) [0, 1, 2, 3, 4, 5, 6, 7] rfl ?_
        exact K290 y11 y12 y13 y14 y15 y16 y17 y18 h19 E
  · refine g_iconst C 0 dX10_law_842 rfl ?_
    exact absurd E (ret0_no hX1)
set_option maxRecDepth 100000 in
set_option maxHeartbeats 4000000 in
theorem o_X10_law_J799 {l : Launch} {base : Nat} {D : va_G} {cA : Nat → ClassId} {p : Program} {e : Env} {s : State} {m : MethodId} {args : Array Value} {below : List Frame} {meth : Method} {c : Code} (C : GC base D cA p s m args meth c cX10_law 16 RX10) (hr : meth.sig.returnType = (some .boolean))  {b L : Nat} {xs : Nat → Int32} (hX : va_X b L xs s s.heap) (hbl : b < s.heap.size) (hbA : ¬ AA base b) {Q : State → Prop} {X : Int32 × Hp} (hX1 : X.1 = 1) (KR : ∀ (h : Hp) (lv : List (Nat × Value)), GW base D cA p l e room_1 s m args below meth c Q 16 h 744374 6869126 992 lv [.int 1]) {k290 : Nat → Nat → Nat → Nat → Nat → Nat → Int32 → Nat → Hp → Rv Int32} (K290 : ∀ (y0 : Nat) (y1 : Nat) (y2 : Nat) (y3 : Nat) (y4 : Nat) (y5 : Nat) (y6 : Int32) (y7 : Nat) (h : Hp), k290 y0 y1 y2 y3 y4 y5 y6 y7 h = some X → GW base D cA p l e room_1 s m args below meth c Q 16 h (302 + 3 * min y7 400) (3270 + 131 * min y7 400) 290 [(0, .ref b), (1, .ref (base + y0)), (2, .ref (base + y1)), (3, .ref (base + y2)), (4, .ref (base + y3)), (5, .ref (base + y4)), (6, .ref (base + y5)), (7, .int y6)] []) : ∀ (v1 : Nat) (v2 : Nat) (v3 : Nat) (v4 : Nat) (v5 : Nat) (v6 : Nat) (v7 : Int32) (v8 : Int32) (v10 : Int32) (v11 : Int32) (v100 : Nat) (w0 : Int32) (h : Hp), s_X10_law_J799 L xs k290 v1 v2 v3 v4 v5 v6 v7 v8 v10 v11 v100 w0 h = some X → GW base D cA p l e room_1 s m args below meth c Q 16 h (302 + 3 * min v100 400) (3270 + 131 * min v100 400) 799 [(0, .ref b), (1, .ref (base + v1)), (2, .ref (base + v2)), (3, .ref (base + v3)), (4, .ref (base + v4)), (5, .ref (base + v5)), (6, .ref (base + v6)), (7, .int v7), (8, .int v8), (10, .int v10), (11, .int v11)] [.int w0] := by
  intro v1 v2 v3 v4 v5 v6 v7 v8 v10 v11 v100 w0 h E
  unfold s_X10_law_J799 at E
  refine g_istore C (lv' := [(12, .int w0), (0, .ref b), (1, .ref (base + v1)), (2, .ref (base + v2)), (3, .ref (base + v3)), (4, .ref (base + v4)), (5, .ref (base + v5)), (6, .ref (base + v6)), (7, .int v7), (8, .int v8), (10, .int v10), (11, .int v11)]) dX10_law_799 (by decide) rfl ?_
  refine g_aload_n C 2 dX10_law_801 rfl rfl ?_
  refine g_iload C 10 dX10_law_802 rfl ?_
  refine g_invI C (q := (RX8, TX8, 7)) [.int v10] dX10_law_804 cl_X10_115 cv_X8_openDoor rfl (by decide) rfl rfl ⟨Nat.le_of_ble_eq_true rfl, Nat.le_of_ble_eq_true rfl⟩ (Nat.le_of_ble_eq_true rfl) ⟨(show 302 + 3 * min v100 400 + 0 ≤ 744374 by omega), (show 3270 + 131 * min v100 400 + 0 ≤ 6869126 by omega)⟩ rfl (fun r' h' E => o_X8_openDoor l base D cA v1 v10 h r' h' E) E (fun x1 h2 E => ?_)
  refine g_iload C 0 dX10_law_807 rfl ?_
  refine g_if_eq C 821 dX10_law_809 (by decide) E (fun E => ?_) (fun E => ?_)
  · refine g_aload_n C 4 dX10_law_821 rfl rfl ?_
    refine g_iload C 11 dX10_law_822 rfl ?_
    refine g_bipush C 9 dX10_law_824 rfl ?_
    refine g_iadd C dX10_law_826 ?_
    refine g_iald C dX10_law_827 E (fun x3 E => ?_)
    refine g_iconst C 2 dX10_law_828 rfl ?_
    refine g_icmp_ne C 837 dX10_law_829 (by decide) E (fun E => ?_) (fun E => ?_)
    · refine g_bipush C (-5) dX10_law_837 rfl ?_
      refine g_sub (lv' := [(0, .ref b), (1, .ref (base + v1)), (2, .ref (base + v2)), (3, .ref (base + v3)), (4, .ref (base + v4)), (5, .ref (base + v5)), (6, .ref (base + v6)), (7, .int v7), (8, .int v8), (10, .int v10), (11, .int v11), (12, .int w0)]) [1, 2, 3, 4, 5, 6, 7, 8, 9, 10, 11, 0] rfl ?_
      refine o_X10_law_J839 C hr hX hbl hbA hX1 KR ?_ v1 v2 v3 v4 v5 v6 v7 v8 v10 v11 w0 v100 x1 (-5) h2 E
      · intro y4 y5 y6 y7 y8 y9 y10 y11 h12 E
        refine g_sub (lv' := [(0, .ref b), (1, .ref (base + y4)), (2, .ref (base + y5)), (3, .ref (base + y6)), (4, .ref (base + y7)), (5, .ref (base + y8)), (6, .ref (base + y9)), (7, .int y10)]) [0, 1, 2, 3, 4, 5, 6, 7] rfl ?_
        exact K290 y4 y5 y6 y7 y8 y9 y10 y11 h12 E
    · refine g_bipush C (-4) dX10_law_832 rfl ?_
      refine g_goto C 839 dX10_law_834 (by decide) ?_
      refine g_sub (lv' := [(0, .ref b), (1, .ref (base + v1)), (2, .ref (base + v2)), (3, .ref (base + v3)), (4, .ref (base + v4)), (5, .ref (base + v5)), (6, .ref (base + v6)), (7, .int v7), (8, .int v8), (10, .int v10), (11, .int v11), (12, .int w0)]) [1, 2, 3, 4, 5, 6, 7, 8, 9, 10, 11, 0] rfl ?_
      refine o_X10_law_J839 C hr hX hbl hbA hX1 KR ?_ v1 v2 v3 v4 v5 v6 v7 v8 v10 v11 w0 v100 x1 (-4) h2 E
      · intro y13 y14 y15 y16 y17 y18 y19 y20 h21 E
        refine g_sub (lv' := [(0, .ref b), (1, .ref (base + y13)), (2, .ref (base + y14)), (3, .ref (base + y15)), (4, .ref (base + y16)), (5, .ref (base + y17)), (6, .ref (base + y18)), (7, .int y19)]) [0, 1, 2, 3, 4, 5, 6, 7] rfl ?_
        exact K290 y13 y14 y15 y16 y17 y18 y19 y20 h21 E
  · refine g_iload C 10 dX10_law_812 rfl ?_
    refine g_aload_n C 4 dX10_law_814 rfl rfl ?_
    refine g_staI C [.int v10, .ref (base + v3)] dX10_law_815 cl_X10_26 cs_X10_temperature rfl rfl ⟨Nat.le_of_ble_eq_true rfl, Nat.le_of_ble_eq_true rfl⟩ (Nat.le_of_ble_eq_true rfl) ⟨(show 302 + 3 * min v100 400 + 0 ≤ 744374 by omega), (show 3270 + 131 * min v100 400 + 0 ≤ 6869126 by omega)⟩ rfl (fun r' h' E => o_X10_temperature l base D cA v10 v3 h2 r' h' E) E (fun x22 h23 E => ?_)
    refine g_goto C 839 dX10_law_818 (by decide) ?_
    refine g_sub (lv' := [(0, .ref b), (1, .ref (base + v1)), (2, .ref (base + v2)), (3, .ref (base + v3)), (4, .ref (base + v4)), (5, .ref (base + v5)), (6, .ref (base + v6)), (7, .int v7), (8, .int v8), (10, .int v10), (11, .int v11), (12, .int w0)]) [1, 2, 3, 4, 5, 6, 7, 8, 9, 10, 11, 0] rfl ?_
    refine o_X10_law_J839 C hr hX hbl hbA hX1 KR ?_ v1 v2 v3 v4 v5 v6 v7 v8 v10 v11 w0 v100 x1 x22 h23 E
    · intro y24 y25 y26 y27 y28 y29 y30 y31 h32 E
      refine g_sub (lv' := [(0, .ref b), (1, .ref (base + y24)), (2, .ref (base + y25)), (3, .ref (base + y26)), (4, .ref (base + y27)), (5, .ref (base + y28)), (6, .ref (base + y29)), (7, .int y30)]) [0, 1, 2, 3, 4, 5, 6, 7] rfl ?_
      exact K290 y24 y25 y26 y27 y28 y29 y30 y31 h32 E
set_option maxRecDepth 100000 in
set_option maxHeartbeats 4000000 in
theorem o_X10_law_L623 {l : Launch} {base : Nat} {D : va_G} {cA : Nat → ClassId} {p : Program} {e : Env} {s : State} {m : MethodId} {args : Array Value} {below : List Frame} {meth : Method} {c : Code} (C : GC base D cA p s m args meth c cX10_law 16 RX10) (hr : meth.sig.returnType = (some .boolean))  {b L : Nat} {xs : Nat → Int32} (hX : va_X b L xs s s.heap) (hbl : b < s.heap.size) (hbA : ¬ AA base b) {Q : State → Prop} {X : Int32 × Hp} (hX1 : X.1 = 1) (KR : ∀ (h : Hp) (lv : List (Nat × Value)), GW base D cA p l e room_1 s m args below meth c Q 16 h 744374 6869126 992 lv [.int 1]) {k658 : Nat → Nat → Nat → Nat → Nat → Nat → Int32 → Int32 → Int32 → Nat → Hp → Rv Int32} (K658 : ∀ (y0 : Nat) (y1 : Nat) (y2 : Nat) (y3 : Nat) (y4 : Nat) (y5 : Nat) (y6 : Int32) (y7 : Int32) (y8 : Int32) (y9 : Nat) (h : Hp), k658 y0 y1 y2 y3 y4 y5 y6 y7 y8 y9 h = some X → GW base D cA p l e room_1 s m args below meth c Q 16 h (302 + 3 * min y9 400) (3270 + 131 * min y9 400) 658 [(0, .ref b), (1, .ref (base + y0)), (2, .ref (base + y1)), (3, .ref (base + y2)), (4, .ref (base + y3)), (5, .ref (base + y4)), (6, .ref (base + y5)), (7, .int y6), (12, .int y7), (13, .int y8)] []) : ∀ (n : Nat) (v1 : Nat) (v2 : Nat) (v3 : Nat) (v4 : Nat) (v5 : Nat) (v6 : Nat) (v7 : Int32) (v12 : Int32) (v13 : Int32) (v14 : Int32) (v100 : Nat) (h : Hp), s_X10_law_L623 L xs k658 n v1 v2 v3 v4 v5 v6 v7 v12 v13 v14 v100 h = some X → GW base D cA p l e room_1 s m args below meth c Q 16 h (302 + 3 * min v100 400) (3270 + 131 * min v100 400) 623 [(0, .ref b), (1, .ref (base + v1)), (2, .ref (base + v2)), (3, .ref (base + v3)), (4, .ref (base + v4)), (5, .ref (base + v5)), (6, .ref (base + v6)), (7, .int v7), (12, .int v12), (13, .int v13), (14, .int v14)] [] := by
  intro n
  induction n with
  | zero =>
    intro v1 v2 v3 v4 v5 v6 v7 v12 v13 v14 v100 h E
    rw [s_X10_law_L623] at E
    cases E
  | succ n ih =>
    intro v1 v2 v3 v4 v5 v6 v7 v12 v13 v14 v100 h E
    rw [s_X10_law_L623] at E
    refine g_iload C 10 dX10_law_623 rfl ?_
    refine g_iconst C 3 dX10_law_625 rfl ?_
    refine g_icmp_ge C 658 dX10_law_626 (by decide) E (fun E => ?_) (fun E => ?_)
    · refine g_sub (lv' := [(0, .ref b), (1, .ref (base + v1)), (2, .ref (base + v2)), (3, .ref (base + v3)), (4, .ref (base + v4)), (5, .ref (base + v5)), (6, .ref (base + v6)), (7, .int v7), (12, .int v12), (13, .int v13)]) [0, 1, 2, 3, 4, 5, 6, 7, 8, 9] rfl ?_
      exact K658 v1 v2 v3 v4 v5 v6 v7 v12 v13 v100 h E
    · refine g_iload C 9 dX10_law_629 rfl ?_
      refine g_aload_n C 3 dX10_law_631 rfl rfl ?_
      refine g_bipush C 16 dX10_law_632 rfl ?_
      refine g_iload C 10 dX10_law_634 rfl ?_
      refine g_imul C dX10_law_636 ?_
      refine g_iconst C 5 dX10_law_637 rfl ?_
      refine g_iadd C dX10_law_638 ?_
      refine g_iald C dX10_law_639 E (fun x1 E => ?_)
      refine g_iconst C 1 dX10_law_640 rfl ?_
      refine g_icmp_ne C 648 dX10_law_641 (by decide) E (fun E => ?_) (fun E => ?_)
      · refine g_iconst C 0 dX10_law_648 rfl ?_
        refine g_iadd C dX10_law_649 ?_
        refine g_istore C (lv' := [(13, .int (v13 + 0)), (0, .ref b), (1, .ref (base + v1)), (2, .ref (base + v2)), (3, .ref (base + v3)), (4, .ref (base + v4)), (5, .ref (base + v5)), (6, .ref (base + v6)), (7, .int v7), (12, .int v12), (14, .int v14)]) dX10_law_650 (by decide) rfl ?_
        refine g_iinc C (lv' := [(14, .int (v14 + 1)), (13, .int (v13 + 0)), (0, .ref b), (1, .ref (base + v1)), (2, .ref (base + v2)), (3, .ref (base + v3)), (4, .ref (base + v4)), (5, .ref (base + v5)), (6, .ref (base + v6)), (7, .int v7), (12, .int v12)]) 10 1 dX10_law_652 rfl rfl (by decide) rfl ?_
        refine g_goto C 623 dX10_law_655 (by decide) ?_
        refine g_sub (lv' := [(0, .ref b), (1, .ref (base + v1)), (2, .ref (base + v2)), (3, .ref (base + v3)), (4, .ref (base + v4)), (5, .ref (base + v5)), (6, .ref (base + v6)), (7, .int v7), (12, .int v12), (13, .int (v13 + 0)), (14, .int (v14 + 1))]) [2, 3, 4, 5, 6, 7, 8, 9, 10, 1, 0] rfl ?_
        exact ih v1 v2 v3 v4 v5 v6 v7 v12 (v13 + 0) (v14 + 1) v100 h E
      · refine g_iconst C 1 dX10_law_644 rfl ?_
        refine g_goto C 649 dX10_law_645 (by decide) ?_
        refine g_iadd C dX10_law_649 ?_
        refine g_istore C (lv' := [(13, .int (v13 + 1)), (0, .ref b), (1, .ref (base + v1)), (2, .ref (base + v2)), (3, .ref (base + v3)), (4, .ref (base + v4)), (5, .ref (base + v5)), (6, .ref (base + v6)), (7, .int v7), (12, .int v12), (14, .int v14)]) dX10_law_650 (by decide) rfl ?_
        refine g_iinc C (lv' := [(14, .int (v14 + 1)), (13, .int (v13 + 1)), (0, .ref b), (1, .ref (base + v1)), (2, .ref (base + v2)), (3, .ref (base + v3)), (4, .ref (base + v4)), (5, .ref (base + v5)), (6, .ref (base + v6)), (7, .int v7), (12, .int v12)]) 10 1 dX10_law_652 rfl rfl (by decide) rfl ?_
        refine g_goto C 623 dX10_law_655 (by decide) ?_
        refine g_sub (lv' := [(0, .ref b), (1, .ref (base + v1)), (2, .ref (base + v2)), (3, .ref (base + v3)), (4, .ref (base + v4)), (5, .ref (base + v5)), (6, .ref (base + v6)), (7, .int v7), (12, .int v12), (13, .int (v13 + 1)), (14, .int (v14 + 1))]) [2, 3, 4, 5, 6, 7, 8, 9, 10, 1, 0] rfl ?_
        exact ih v1 v2 v3 v4 v5 v6 v7 v12 (v13 + 1) (v14 + 1) v100 h E
set_option maxRecDepth 100000 in
set_option maxHeartbeats 4000000 in
theorem o_X10_law_L696 {l : Launch} {base : Nat} {D : va_G} {cA : Nat → ClassId} {p : Program} {e : Env} {s : State} {m : MethodId} {args : Array Value} {below : List Frame} {meth : Method} {c : Code} (C : GC base D cA p s m args meth c cX10_law 16 RX10) (hr : meth.sig.returnType = (some .boolean))  {b L : Nat} {xs : Nat → Int32} (hX : va_X b L xs s s.heap) (hbl : b < s.heap.size) (hbA : ¬ AA base b) {Q : State → Prop} {X : Int32 × Hp} (hX1 : X.1 = 1) (KR : ∀ (h : Hp) (lv : List (Nat × Value)), GW base D cA p l e room_1 s m args below meth c Q 16 h 744374 6869126 992 lv [.int 1]) {k756 : Nat → Nat → Nat → Nat → Nat → Nat → Int32 → Int32 → Nat → Hp → Rv Int32} (K756 : ∀ (y0 : Nat) (y1 : Nat) (y2 : Nat) (y3 : Nat) (y4 : Nat) (y5 : Nat) (y6 : Int32) (y7 : Int32) (y8 : Nat) (h : Hp), k756 y0 y1 y2 y3 y4 y5 y6 y7 y8 h = some X → GW base D cA p l e room_1 s m args below meth c Q 16 h (302 + 3 * min y8 400) (3270 + 131 * min y8 400) 756 [(0, .ref b), (1, .ref (base + y0)), (2, .ref (base + y1)), (3, .ref (base + y2)), (4, .ref (base + y3)), (5, .ref (base + y4)), (6, .ref (base + y5)), (7, .int y6), (12, .int y7)] []) : ∀ (n : Nat) (v1 : Nat) (v2 : Nat) (v3 : Nat) (v4 : Nat) (v5 : Nat) (v6 : Nat) (v7 : Int32) (v12 : Int32) (v14 : Int32) (v100 : Nat) (h : Hp), s_X10_law_L696 L xs k756 n v1 v2 v3 v4 v5 v6 v7 v12 v14 v100 h = some X → GW base D cA p l e room_1 s m args below meth c Q 16 h (302 + 3 * min v100 400) (3270 + 131 * min v100 400) 696 [(0, .ref b), (1, .ref (base + v1)), (2, .ref (base + v2)), (3, .ref (base + v3)), (4, .ref (base + v4)), (5, .ref (base + v5)), (6, .ref (base + v6)), (7, .int v7), (12, .int v12), (14, .int v14)] [] := by
  intro n
  induction n with
  | zero =>
    intro v1 v2 v3 v4 v5 v6 v7 v12 v14 v100 h E
    rw [s_X10_law_L696] at E
    cases E
  | succ n ih =>
    intro v1 v2 v3 v4 v5 v6 v7 v12 v14 v100 h E
    rw [s_X10_law_L696] at E
    refine g_iload C 9 dX10_law_696 rfl ?_
    refine g_iconst C 3 dX10_law_698 rfl ?_
    refine g_icmp_ge C 756 dX10_law_699 (by decide) E (fun E => ?_) (fun E => ?_)
    · refine g_sub (lv' := [(0, .ref b), (1, .ref (base + v1)), (2, .ref (base + v2)), (3, .ref (base + v3)), (4, .ref (base + v4)), (5, .ref (base + v5)), (6, .ref (base + v6)), (7, .int v7), (12, .int v12)]) [0, 1, 2, 3, 4, 5, 6, 7, 8] rfl ?_
      exact K756 v1 v2 v3 v4 v5 v6 v7 v12 v100 h E
    · refine g_aload_n C 2 dX10_law_702 rfl rfl ?_
      refine g_iconst C 1 dX10_law_703 rfl ?_
      refine g_iald C dX10_law_704 E (fun x1 E => ?_)
      refine g_if_ne C 750 dX10_law_705 (by decide) E (fun E => ?_) (fun E => ?_)
      · refine g_iinc C (lv' := [(14, .int (v14 + 1)), (0, .ref b), (1, .ref (base + v1)), (2, .ref (base + v2)), (3, .ref (base + v3)), (4, .ref (base + v4)), (5, .ref (base + v5)), (6, .ref (base + v6)), (7, .int v7), (12, .int v12)]) 9 1 dX10_law_750 rfl rfl (by decide) rfl ?_
        refine g_goto C 696 dX10_law_753 (by decide) ?_
        refine g_sub (lv' := [(0, .ref b), (1, .ref (base + v1)), (2, .ref (base + v2)), (3, .ref (base + v3)), (4, .ref (base + v4)), (5, .ref (base + v5)), (6, .ref (base + v6)), (7, .int v7), (12, .int v12), (14, .int (v14 + 1))]) [1, 2, 3, 4, 5, 6, 7, 8, 9, 0] rfl ?_
        exact ih v1 v2 v3 v4 v5 v6 v7 v12 (v14 + 1) v100 h E
      · refine g_iload C 8 dX10_law_708 rfl ?_
        refine g_if_eq C 750 dX10_law_710 (by decide) E (fun E => ?_) (fun E => ?_)
        · refine g_iinc C (lv' := [(14, .int (v14 + 1)), (0, .ref b), (1, .ref (base + v1)), (2, .ref (base + v2)), (3, .ref (base + v3)), (4, .ref (base + v4)), (5, .ref (base + v5)), (6, .ref (base + v6)), (7, .int v7), (12, .int v12)]) 9 1 dX10_law_750 rfl rfl (by decide) rfl ?_
          refine g_goto C 696 dX10_law_753 (by decide) ?_
          refine g_sub (lv' := [(0, .ref b), (1, .ref (base + v1)), (2, .ref (base + v2)), (3, .ref (base + v3)), (4, .ref (base + v4)), (5, .ref (base + v5)), (6, .ref (base + v6)), (7, .int v7), (12, .int v12), (14, .int (v14 + 1))]) [1, 2, 3, 4, 5, 6, 7, 8, 9, 0] rfl ?_
          exact ih v1 v2 v3 v4 v5 v6 v7 v12 (v14 + 1) v100 h E
        · refine g_aload_n C 3 dX10_law_713 rfl rfl ?_
          refine g_bipush C 16 dX10_law_714 rfl ?_
          refine g_iload C 9 dX10_law_716 rfl ?_
          refine g_imul C dX10_law_718 ?_
          refine g_iconst C 5 dX10_law_719 rfl ?_
          refine g_iadd C dX10_law_720 ?_
          refine g_iald C dX10_law_721 E (fun x2 E => ?_)
          refine g_iconst C 1 dX10_law_722 rfl ?_
          refine g_icmp_ne C 750 dX10_law_723 (by decide) E (fun E => ?_) (fun E => ?_)
          · refine g_iinc C (lv' := [(14, .int (v14 + 1)), (0, .ref b), (1, .ref (base + v1)), (2, .ref (base + v2)), (3, .ref (base + v3)), (4, .ref (base + v4)), (5, .ref (base + v5)), (6, .ref (base + v6)), (7, .int v7), (12, .int v12)]) 9 1 dX10_law_750 rfl rfl (by decide) rfl ?_
            refine g_goto C 696 dX10_law_753 (by decide) ?_
            refine g_sub (lv' := [(0, .ref b), (1, .ref (base + v1)), (2, .ref (base + v2)), (3, .ref (base + v3)), (4, .ref (base + v4)), (5, .ref (base + v5)), (6, .ref (base + v6)), (7, .int v7), (12, .int v12), (14, .int (v14 + 1))]) [1, 2, 3, 4, 5, 6, 7, 8, 9, 0] rfl ?_
            exact ih v1 v2 v3 v4 v5 v6 v7 v12 (v14 + 1) v100 h E
          · refine g_iload C 9 dX10_law_726 rfl ?_
            refine g_aload_n C 3 dX10_law_728 rfl rfl ?_
            refine g_aload C 4 dX10_law_729 rfl ?_
            refine g_staI C [.int v14, .ref (base + v3), .ref (base + v4)] dX10_law_731 cl_X10_10 cs_X10_letter rfl rfl ⟨Nat.le_of_ble_eq_true rfl, Nat.le_of_ble_eq_true rfl⟩ (Nat.le_of_ble_eq_true rfl) ⟨(show 302 + 3 * min v100 400 + 0 ≤ 744374 by omega), (show 3270 + 131 * min v100 400 + 0 ≤ 6869126 by omega)⟩ rfl (fun r' h' E => o_X10_letter l base D cA v14 v3 v4 h r' h' E) E (fun x3 h4 E => ?_)
            refine g_bipush C 115 dX10_law_734 rfl ?_
            refine g_icmp_ne C 750 dX10_law_736 (by decide) E (fun E => ?_) (fun E => ?_)
            · refine g_iinc C (lv' := [(14, .int (v14 + 1)), (0, .ref b), (1, .ref (base + v1)), (2, .ref (base + v2)), (3, .ref (base + v3)), (4, .ref (base + v4)), (5, .ref (base + v5)), (6, .ref (base + v6)), (7, .int v7), (12, .int v12)]) 9 1 dX10_law_750 rfl rfl (by decide) rfl ?_
              refine g_goto C 696 dX10_law_753 (by decide) ?_
              refine g_sub (lv' := [(0, .ref b), (1, .ref (base + v1)), (2, .ref (base + v2)), (3, .ref (base + v3)), (4, .ref (base + v4)), (5, .ref (base + v5)), (6, .ref (base + v6)), (7, .int v7), (12, .int v12), (14, .int (v14 + 1))]) [1, 2, 3, 4, 5, 6, 7, 8, 9, 0] rfl ?_
              exact ih v1 v2 v3 v4 v5 v6 v7 v12 (v14 + 1) v100 h4 E
            · refine g_aload_n C 3 dX10_law_739 rfl rfl ?_
              refine g_bipush C 16 dX10_law_740 rfl ?_
              refine g_iload C 9 dX10_law_742 rfl ?_
              refine g_imul C dX10_law_744 ?_
              refine g_bipush C 10 dX10_law_745 rfl ?_
              refine g_iadd C dX10_law_747 ?_
              refine g_iconst C 0 dX10_law_748 rfl ?_
              refine g_iast C dX10_law_749 E (fun h5 E => ?_)
              refine g_iinc C (lv' := [(14, .int (v14 + 1)), (0, .ref b), (1, .ref (base + v1)), (2, .ref (base + v2)), (3, .ref (base + v3)), (4, .ref (base + v4)), (5, .ref (base + v5)), (6, .ref (base + v6)), (7, .int v7), (12, .int v12)]) 9 1 dX10_law_750 rfl rfl (by decide) rfl ?_
              refine g_goto C 696 dX10_law_753 (by decide) ?_
              refine g_sub (lv' := [(0, .ref b), (1, .ref (base + v1)), (2, .ref (base + v2)), (3, .ref (base + v3)), (4, .ref (base + v4)), (5, .ref (base + v5)), (6, .ref (base + v6)), (7, .int v7), (12, .int v12), (14, .int (v14 + 1))]) [1, 2, 3, 4, 5, 6, 7, 8, 9, 0] rfl ?_
              exact ih v1 v2 v3 v4 v5 v6 v7 v12 (v14 + 1) v100 h5 E
set_option maxRecDepth 100000 in
set_option maxHeartbeats 4000000 in
theorem o_X10_law_J768 {l : Launch} {base : Nat} {D : va_G} {cA : Nat → ClassId} {p : Program} {e : Env} {s : State} {m : MethodId} {args : Array Value} {below : List Frame} {meth : Method} {c : Code} (C : GC base D cA p s m args meth c cX10_law 16 RX10) (hr : meth.sig.returnType = (some .boolean))  {b L : Nat} {xs : Nat → Int32} (hX : va_X b L xs s s.heap) (hbl : b < s.heap.size) (hbA : ¬ AA base b) {Q : State → Prop} {X : Int32 × Hp} (hX1 : X.1 = 1) (KR : ∀ (h : Hp) (lv : List (Nat × Value)), GW base D cA p l e room_1 s m args below meth c Q 16 h 744374 6869126 992 lv [.int 1]) {k290 : Nat → Nat → Nat → Nat → Nat → Nat → Int32 → Nat → Hp → Rv Int32} (K290 : ∀ (y0 : Nat) (y1 : Nat) (y2 : Nat) (y3 : Nat) (y4 : Nat) (y5 : Nat) (y6 : Int32) (y7 : Nat) (h : Hp), k290 y0 y1 y2 y3 y4 y5 y6 y7 h = some X → GW base D cA p l e room_1 s m args below meth c Q 16 h (302 + 3 * min y7 400) (3270 + 131 * min y7 400) 290 [(0, .ref b), (1, .ref (base + y0)), (2, .ref (base + y1)), (3, .ref (base + y2)), (4, .ref (base + y3)), (5, .ref (base + y4)), (6, .ref (base + y5)), (7, .int y6)] []) : ∀ (v1 : Nat) (v2 : Nat) (v3 : Nat) (v4 : Nat) (v5 : Nat) (v6 : Nat) (v7 : Int32) (v100 : Nat) (w0 : Nat) (w1 : Int32) (w2 : Int32) (h : Hp), s_X10_law_J768 L xs k290 v1 v2 v3 v4 v5 v6 v7 v100 w0 w1 w2 h = some X → GW base D cA p l e room_1 s m args below meth c Q 16 h (302 + 3 * min v100 400) (3270 + 131 * min v100 400) 768 [(0, .ref b), (1, .ref (base + v1)), (2, .ref (base + v2)), (3, .ref (base + v3)), (4, .ref (base + v4)), (5, .ref (base + v5)), (6, .ref (base + v6)), (7, .int v7)] [.int w2, .int w1, .ref (base + w0)] := by
  intro v1 v2 v3 v4 v5 v6 v7 v100 w0 w1 w2 h E
  unfold s_X10_law_J768 at E
  refine g_iast C dX10_law_768 E (fun h1 E => ?_)
  refine g_goto C 970 dX10_law_769 (by decide) ?_
  refine g_sub (lv' := [(0, .ref b), (1, .ref (base + v1)), (2, .ref (base + v2)), (3, .ref (base + v3)), (4, .ref (base + v4)), (5, .ref (base + v5)), (6, .ref (base + v6)), (7, .int v7)]) [0, 1, 2, 3, 4, 5, 6, 7] rfl ?_
  refine o_X10_law_J970 C hr hX hbl hbA hX1 KR ?_ v1 v2 v3 v4 v5 v6 v7 v100 h1 E
  · intro y2 y3 y4 y5 y6 y7 y8 y9 h10 E
    refine g_sub (lv' := [(0, .ref b), (1, .ref (base + y2)), (2, .ref (base + y3)), (3, .ref (base + y4)), (4, .ref (base + y5)), (5, .ref (base + y6)), (6, .ref (base + y7)), (7, .int y8)]) [0, 1, 2, 3, 4, 5, 6, 7] rfl ?_
    exact K290 y2 y3 y4 y5 y6 y7 y8 y9 h10 E
set_option maxRecDepth 100000 in
set_option maxHeartbeats 4000000 in
theorem o_X10_law_J688 {l : Launch} {base : Nat} {D : va_G} {cA : Nat → ClassId} {p : Program} {e : Env} {s : State} {m : MethodId} {args : Array Value} {below : List Frame} {meth : Method} {c : Code} (C : GC base D cA p s m args meth c cX10_law 16 RX10) (hr : meth.sig.returnType = (some .boolean))  {b L : Nat} {xs : Nat → Int32} (hX : va_X b L xs s s.heap) (hbl : b < s.heap.size) (hbA : ¬ AA base b) {Q : State → Prop} {X : Int32 × Hp} (hX1 : X.1 = 1) (KR : ∀ (h : Hp) (lv : List (Nat × Value)), GW base D cA p l e room_1 s m args below meth c Q 16 h 744374 6869126 992 lv [.int 1]) {k290 : Nat → Nat → Nat → Nat → Nat → Nat → Int32 → Nat → Hp → Rv Int32} (K290 : ∀ (y0 : Nat) (y1 : Nat) (y2 : Nat) (y3 : Nat) (y4 : Nat) (y5 : Nat) (y6 : Int32) (y7 : Nat) (h : Hp), k290 y0 y1 y2 y3 y4 y5 y6 y7 h = some X → GW base D cA p l e room_1 s m args below meth c Q 16 h (302 + 3 * min y7 400) (3270 + 131 * min y7 400) 290 [(0, .ref b), (1, .ref (base + y0)), (2, .ref (base + y1)), (3, .ref (base + y2)), (4, .ref (base + y3)), (5, .ref (base + y4)), (6, .ref (base + y5)), (7, .int y6)] []) : ∀ (v1 : Nat) (v2 : Nat) (v3 : Nat) (v4 : Nat) (v5 : Nat) (v6 : Nat) (v7 : Int32) (v12 : Int32) (v100 : Nat) (w0 : Int32) (w1 : Int32) (h : Hp), s_X10_law_J688 L xs k290 v1 v2 v3 v4 v5 v6 v7 v12 v100 w0 w1 h = some X → GW base D cA p l e room_1 s m args below meth c Q 16 h (302 + 3 * min v100 400) (3270 + 131 * min v100 400) 688 [(0, .ref b), (1, .ref (base + v1)), (2, .ref (base + v2)), (3, .ref (base + v3)), (4, .ref (base + v4)), (5, .ref (base + v5)), (6, .ref (base + v6)), (7, .int v7), (12, .int v12)] [.int w1, .int w0] := by
  intro v1 v2 v3 v4 v5 v6 v7 v12 v100 w0 w1 h E
  unfold s_X10_law_J688 at E
  refine g_icmp_eq C 693 dX10_law_688 (by decide) E (fun E => ?_) (fun E => ?_)
  · refine g_iconst C 0 dX10_law_693 rfl ?_
    refine g_istore C (lv' := [(14, .int 0), (0, .ref b), (1, .ref (base + v1)), (2, .ref (base + v2)), (3, .ref (base + v3)), (4, .ref (base + v4)), (5, .ref (base + v5)), (6, .ref (base + v6)), (7, .int v7), (12, .int v12)]) dX10_law_694 (by decide) rfl ?_
    refine g_sub (lv' := [(0, .ref b), (1, .ref (base + v1)), (2, .ref (base + v2)), (3, .ref (base + v3)), (4, .ref (base + v4)), (5, .ref (base + v5)), (6, .ref (base + v6)), (7, .int v7), (12, .int v12), (14, .int 0)]) [1, 2, 3, 4, 5, 6, 7, 8, 9, 0] rfl ?_
    refine o_X10_law_L696 C hr hX hbl hbA hX1 KR ?_ _ v1 v2 v3 v4 v5 v6 v7 v12 0 v100 h E
    · intro y1 y2 y3 y4 y5 y6 y7 y8 y9 h10 E
      refine g_aload_n C 2 dX10_law_756 rfl rfl ?_
      refine g_iconst C 1 dX10_law_757 rfl ?_
      refine g_iload C 8 dX10_law_758 rfl ?_
      refine g_if_eq C 767 dX10_law_760 (by decide) E (fun E => ?_) (fun E => ?_)
      · refine g_iconst C 0 dX10_law_767 rfl ?_
        refine g_sub (lv' := [(0, .ref b), (1, .ref (base + y1)), (2, .ref (base + y2)), (3, .ref (base + y3)), (4, .ref (base + y4)), (5, .ref (base + y5)), (6, .ref (base + y6)), (7, .int y7)]) [0, 1, 2, 3, 4, 5, 6, 7] rfl ?_
        refine o_X10_law_J768 C hr hX hbl hbA hX1 KR ?_ y1 y2 y3 y4 y5 y6 y7 y9 y2 1 0 h10 E
        · intro y11 y12 y13 y14 y15 y16 y17 y18 h19 E
          refine g_sub (lv' := [(0, .ref b), (1, .ref (base + y11)), (2, .ref (base + y12)), (3, .ref (base + y13)), (4, .ref (base + y14)), (5, .ref (base + y15)), (6, .ref (base + y16)), (7, .int y17)]) [0, 1, 2, 3, 4, 5, 6, 7] rfl ?_
          exact K290 y11 y12 y13 y14 y15 y16 y17 y18 h19 E
      · refine g_iconst C 1 dX10_law_763 rfl ?_
        refine g_goto C 768 dX10_law_764 (by decide) ?_
        refine g_sub (lv' := [(0, .ref b), (1, .ref (base + y1)), (2, .ref (base + y2)), (3, .ref (base + y3)), (4, .ref (base + y4)), (5, .ref (base + y5)), (6, .ref (base + y6)), (7, .int y7)]) [0, 1, 2, 3, 4, 5, 6, 7] rfl ?_
        refine o_X10_law_J768 C hr hX hbl hbA hX1 KR ?_ y1 y2 y3 y4 y5 y6 y7 y9 y2 1 1 h10 E
        · intro y20 y21 y22 y23 y24 y25 y26 y27 h28 E
          refine g_sub (lv' := [(0, .ref b), (1, .ref (base + y20)), (2, .ref (base + y21)), (3, .ref (base + y22)), (4, .ref (base + y23)), (5, .ref (base + y24)), (6, .ref (base + y25)), (7, .int y26)]) [0, 1, 2, 3, 4, 5, 6, 7] rfl ?_
          exact K290 y20 y21 y22 y23 y24 y25 y26 y27 h28 E
  · refine g_iconst C 0 dX10_law_691 rfl ?_
    exact absurd E (ret0_no hX1)
set_option maxRecDepth 100000 in
set_option maxHeartbeats 4000000 in
theorem o_X10_law_J676 {l : Launch} {base : Nat} {D : va_G} {cA : Nat → ClassId} {p : Program} {e : Env} {s : State} {m : MethodId} {args : Array Value} {below : List Frame} {meth : Method} {c : Code} (C : GC base D cA p s m args meth c cX10_law 16 RX10) (hr : meth.sig.returnType = (some .boolean))  {b L : Nat} {xs : Nat → Int32} (hX : va_X b L xs s s.heap) (hbl : b < s.heap.size) (hbA : ¬ AA base b) {Q : State → Prop} {X : Int32 × Hp} (hX1 : X.1 = 1) (KR : ∀ (h : Hp) (lv : List (Nat × Value)), GW base D cA p l e room_1 s m args below meth c Q 16 h 744374 6869126 992 lv [.int 1]) {k290 : Nat → Nat → Nat → Nat → Nat → Nat → Int32 → Nat → Hp → Rv Int32} (K290 : ∀ (y0 : Nat) (y1 : Nat) (y2 : Nat) (y3 : Nat) (y4 : Nat) (y5 : Nat) (y6 : Int32) (y7 : Nat) (h : Hp), k290 y0 y1 y2 y3 y4 y5 y6 y7 h = some X → GW base D cA p l e room_1 s m args below meth c Q 16 h (302 + 3 * min y7 400) (3270 + 131 * min y7 400) 290 [(0, .ref b), (1, .ref (base + y0)), (2, .ref (base + y1)), (3, .ref (base + y2)), (4, .ref (base + y3)), (5, .ref (base + y4)), (6, .ref (base + y5)), (7, .int y6)] []) : ∀ (v1 : Nat) (v2 : Nat) (v3 : Nat) (v4 : Nat) (v5 : Nat) (v6 : Nat) (v7 : Int32) (v12 : Int32) (v13 : Int32) (v100 : Nat) (w0 : Int32) (w1 : Int32) (h : Hp), s_X10_law_J676 L xs k290 v1 v2 v3 v4 v5 v6 v7 v12 v13 v100 w0 w1 h = some X → GW base D cA p l e room_1 s m args below meth c Q 16 h (302 + 3 * min v100 400) (3270 + 131 * min v100 400) 676 [(0, .ref b), (1, .ref (base + v1)), (2, .ref (base + v2)), (3, .ref (base + v3)), (4, .ref (base + v4)), (5, .ref (base + v5)), (6, .ref (base + v6)), (7, .int v7), (12, .int v12), (13, .int v13)] [.int w1, .int w0] := by
  intro v1 v2 v3 v4 v5 v6 v7 v12 v13 v100 w0 w1 h E
  unfold s_X10_law_J676 at E
  refine g_iload C 8 dX10_law_676 rfl ?_
  refine g_icmp_ne C 686 dX10_law_678 (by decide) E (fun E => ?_) (fun E => ?_)
  · refine g_iload C 9 dX10_law_686 rfl ?_
    refine g_sub (lv' := [(0, .ref b), (1, .ref (base + v1)), (2, .ref (base + v2)), (3, .ref (base + v3)), (4, .ref (base + v4)), (5, .ref (base + v5)), (6, .ref (base + v6)), (7, .int v7), (12, .int v12)]) [0, 1, 2, 3, 4, 5, 6, 7, 8] rfl ?_
    refine o_X10_law_J688 C hr hX hbl hbA hX1 KR ?_ v1 v2 v3 v4 v5 v6 v7 v12 v100 w0 v13 h E
    · intro y1 y2 y3 y4 y5 y6 y7 y8 h9 E
      refine g_sub (lv' := [(0, .ref b), (1, .ref (base + y1)), (2, .ref (base + y2)), (3, .ref (base + y3)), (4, .ref (base + y4)), (5, .ref (base + y5)), (6, .ref (base + y6)), (7, .int y7)]) [0, 1, 2, 3, 4, 5, 6, 7] rfl ?_
      exact K290 y1 y2 y3 y4 y5 y6 y7 y8 h9 E
  · refine g_bipush C (-5) dX10_law_681 rfl ?_
    refine g_goto C 688 dX10_law_683 (by decide) ?_
    refine g_sub (lv' := [(0, .ref b), (1, .ref (base + v1)), (2, .ref (base + v2)), (3, .ref (base + v3)), (4, .ref (base + v4)), (5, .ref (base + v5)), (6, .ref (base + v6)), (7, .int v7), (12, .int v12)]) [0, 1, 2, 3, 4, 5, 6, 7, 8] rfl ?_
    refine o_X10_law_J688 C hr hX hbl hbA hX1 KR ?_ v1 v2 v3 v4 v5 v6 v7 v12 v100 w0 (-5) h E
    · intro y10 y11 y12 y13 y14 y15 y16 y17 h18 E
      refine g_sub (lv' := [(0, .ref b), (1, .ref (base + y10)), (2, .ref (base + y11)), (3, .ref (base + y12)), (4, .ref (base + y13)), (5, .ref (base + y14)), (6, .ref (base + y15)), (7, .int y16)]) [0, 1, 2, 3, 4, 5, 6, 7] rfl ?_
      exact K290 y10 y11 y12 y13 y14 y15 y16 y17 h18 E
set_option maxRecDepth 100000 in
set_option maxHeartbeats 4000000 in
theorem o_X10_law_J542 {l : Launch} {base : Nat} {D : va_G} {cA : Nat → ClassId} {p : Program} {e : Env} {s : State} {m : MethodId} {args : Array Value} {below : List Frame} {meth : Method} {c : Code} (C : GC base D cA p s m args meth c cX10_law 16 RX10) (hr : meth.sig.returnType = (some .boolean))  {b L : Nat} {xs : Nat → Int32} (hX : va_X b L xs s s.heap) (hbl : b < s.heap.size) (hbA : ¬ AA base b) {Q : State → Prop} {X : Int32 × Hp} (hX1 : X.1 = 1) (KR : ∀ (h : Hp) (lv : List (Nat × Value)), GW base D cA p l e room_1 s m args below meth c Q 16 h 744374 6869126 992 lv [.int 1]) {k496 : Nat → Nat → Nat → Nat → Nat → Nat → Int32 → Int32 → Int32 → Int32 → Int32 → Int32 → Nat → Hp → Rv Int32} (K496 : ∀ (y0 : Nat) (y1 : Nat) (y2 : Nat) (y3 : Nat) (y4 : Nat) (y5 : Nat) (y6 : Int32) (y7 : Int32) (y8 : Int32) (y9 : Int32) (y10 : Int32) (y11 : Int32) (y12 : Nat) (h : Hp), k496 y0 y1 y2 y3 y4 y5 y6 y7 y8 y9 y10 y11 y12 h = some X → GW base D cA p l e room_1 s m args below meth c Q 16 h (302 + 3 * min y12 400) (3270 + 131 * min y12 400) 496 [(0, .ref b), (1, .ref (base + y0)), (2, .ref (base + y1)), (3, .ref (base + y2)), (4, .ref (base + y3)), (5, .ref (base + y4)), (6, .ref (base + y5)), (7, .int y6), (10, .int y7), (12, .int y8), (13, .int y9), (14, .int y10), (15, .int y11)] []) : ∀ (v1 : Nat) (v2 : Nat) (v3 : Nat) (v4 : Nat) (v5 : Nat) (v6 : Nat) (v7 : Int32) (v10 : Int32) (v12 : Int32) (v13 : Int32) (v14 : Int32) (v15 : Int32) (v100 : Nat) (w0 : Int32) (w1 : Int32) (h : Hp), s_X10_law_J542 L xs k496 v1 v2 v3 v4 v5 v6 v7 v10 v12 v13 v14 v15 v100 w0 w1 h = some X → GW base D cA p l e room_1 s m args below meth c Q 16 h (302 + 3 * min v100 400) (3270 + 131 * min v100 400) 542 [(0, .ref b), (1, .ref (base + v1)), (2, .ref (base + v2)), (3, .ref (base + v3)), (4, .ref (base + v4)), (5, .ref (base + v5)), (6, .ref (base + v6)), (7, .int v7), (10, .int v10), (12, .int v12), (13, .int v13), (14, .int v14), (15, .int v15)] [.int w1, .int w0] := by
  intro v1 v2 v3 v4 v5 v6 v7 v10 v12 v13 v14 v15 v100 w0 w1 h E
  unfold s_X10_law_J542 at E
  refine g_icmp_eq C 547 dX10_law_542 (by decide) E (fun E => ?_) (fun E => ?_)
  · refine g_iinc C (lv' := [(15, .int (v15 + 1)), (0, .ref b), (1, .ref (base + v1)), (2, .ref (base + v2)), (3, .ref (base + v3)), (4, .ref (base + v4)), (5, .ref (base + v5)), (6, .ref (base + v6)), (7, .int v7), (10, .int v10), (12, .int v12), (13, .int v13), (14, .int v14)]) 12 1 dX10_law_547 rfl rfl (by decide) rfl ?_
    refine g_goto C 496 dX10_law_550 (by decide) ?_
    refine g_sub (lv' := [(0, .ref b), (1, .ref (base + v1)), (2, .ref (base + v2)), (3, .ref (base + v3)), (4, .ref (base + v4)), (5, .ref (base + v5)), (6, .ref (base + v6)), (7, .int v7), (10, .int v10), (12, .int v12), (13, .int v13), (14, .int v14), (15, .int (v15 + 1))]) [1, 2, 3, 4, 5, 6, 7, 8, 9, 10, 11, 12, 0] rfl ?_
    exact K496 v1 v2 v3 v4 v5 v6 v7 v10 v12 v13 v14 (v15 + 1) v100 h E
  · refine g_iconst C 0 dX10_law_545 rfl ?_
    exact absurd E (ret0_no hX1)
set_option maxRecDepth 100000 in
set_option maxHeartbeats 4000000 in
theorem o_X10_law_L496 {l : Launch} {base : Nat} {D : va_G} {cA : Nat → ClassId} {p : Program} {e : Env} {s : State} {m : MethodId} {args : Array Value} {below : List Frame} {meth : Method} {c : Code} (C : GC base D cA p s m args meth c cX10_law 16 RX10) (hr : meth.sig.returnType = (some .boolean))  {b L : Nat} {xs : Nat → Int32} (hX : va_X b L xs s s.heap) (hbl : b < s.heap.size) (hbA : ¬ AA base b) {Q : State → Prop} {X : Int32 × Hp} (hX1 : X.1 = 1) (KR : ∀ (h : Hp) (lv : List (Nat × Value)), GW base D cA p l e room_1 s m args below meth c Q 16 h 744374 6869126 992 lv [.int 1]) {k553 : Nat → Nat → Nat → Nat → Nat → Nat → Int32 → Int32 → Int32 → Nat → Hp → Rv Int32} (K553 : ∀ (y0 : Nat) (y1 : Nat) (y2 : Nat) (y3 : Nat) (y4 : Nat) (y5 : Nat) (y6 : Int32) (y7 : Int32) (y8 : Int32) (y9 : Nat) (h : Hp), k553 y0 y1 y2 y3 y4 y5 y6 y7 y8 y9 h = some X → GW base D cA p l e room_1 s m args below meth c Q 16 h (302 + 3 * min y9 400) (3270 + 131 * min y9 400) 553 [(0, .ref b), (1, .ref (base + y0)), (2, .ref (base + y1)), (3, .ref (base + y2)), (4, .ref (base + y3)), (5, .ref (base + y4)), (6, .ref (base + y5)), (7, .int y6), (12, .int y7), (14, .int y8)] []) : ∀ (n : Nat) (v1 : Nat) (v2 : Nat) (v3 : Nat) (v4 : Nat) (v5 : Nat) (v6 : Nat) (v7 : Int32) (v10 : Int32) (v12 : Int32) (v13 : Int32) (v14 : Int32) (v15 : Int32) (v100 : Nat) (h : Hp), s_X10_law_L496 L xs k553 n v1 v2 v3 v4 v5 v6 v7 v10 v12 v13 v14 v15 v100 h = some X → GW base D cA p l e room_1 s m args below meth c Q 16 h (302 + 3 * min v100 400) (3270 + 131 * min v100 400) 496 [(0, .ref b), (1, .ref (base + v1)), (2, .ref (base + v2)), (3, .ref (base + v3)), (4, .ref (base + v4)), (5, .ref (base + v5)), (6, .ref (base + v6)), (7, .int v7), (10, .int v10), (12, .int v12), (13, .int v13), (14, .int v14), (15, .int v15)] [] := by
  intro n
  induction n with
  | zero =>
    intro v1 v2 v3 v4 v5 v6 v7 v10 v12 v13 v14 v15 v100 h E
    rw [s_X10_law_L496] at E
    cases E
  | succ n ih =>
    intro v1 v2 v3 v4 v5 v6 v7 v10 v12 v13 v14 v15 v100 h E
    rw [s_X10_law_L496] at E
    refine g_iload C 12 dX10_law_496 rfl ?_
    refine g_iload C 9 dX10_law_498 rfl ?_
    refine g_icmp_ge C 553 dX10_law_500 (by decide) E (fun E => ?_) (fun E => ?_)
    · refine g_sub (lv' := [(0, .ref b), (1, .ref (base + v1)), (2, .ref (base + v2)), (3, .ref (base + v3)), (4, .ref (base + v4)), (5, .ref (base + v5)), (6, .ref (base + v6)), (7, .int v7), (12, .int v12), (14, .int v14)]) [0, 1, 2, 3, 4, 5, 6, 7, 9, 11] rfl ?_
      exact K553 v1 v2 v3 v4 v5 v6 v7 v12 v14 v100 h E
    · refine g_iload C 11 dX10_law_503 rfl ?_
      refine g_aload_n C 2 dX10_law_505 rfl rfl ?_
      refine g_aload_n C 3 dX10_law_506 rfl rfl ?_
      refine g_aload C 4 dX10_law_507 rfl ?_
      refine g_aload C 5 dX10_law_509 rfl ?_
      refine g_aload C 6 dX10_law_511 rfl ?_
      obtain ⟨hg1, E⟩ := lim_some E
      refine g_staI C [.ref (base + v2), .ref (base + v3), .ref (base + v4), .ref (base + v5), .ref (base + v6)] dX10_law_513 cl_X10_100 cs_X10_minute rfl rfl ⟨Nat.le_of_ble_eq_true rfl, Nat.le_of_ble_eq_true rfl⟩ (Nat.le_of_ble_eq_true rfl) ⟨(show 302 + 3 * min v100 400 + 1 ≤ 744374 by omega), (show 3270 + 131 * min v100 400 + 3 ≤ 6869126 by omega)⟩ rfl (fun r' h' E => o_X10_minute l base D cA v2 v3 v4 v5 v6 h r' h' E) E (fun x2 h3 E => ?_)
      refine g_widen (302 + 3 * min (v100 + 1) 400) (3270 + 131 * min (v100 + 1) 400) (show 302 + 3 * min v100 400 + 1 ≤ 302 + 3 * min (v100 + 1) 400 by omega) (show 3270 + 131 * min v100 400 + 3 ≤ 3270 + 131 * min (v100 + 1) 400 by omega) ?_
      refine g_iadd C dX10_law_516 ?_
      refine g_istore C (lv' := [(14, .int (v14 + x2)), (0, .ref b), (1, .ref (base + v1)), (2, .ref (base + v2)), (3, .ref (base + v3)), (4, .ref (base + v4)), (5, .ref (base + v5)), (6, .ref (base + v6)), (7, .int v7), (10, .int v10), (12, .int v12), (13, .int v13), (15, .int v15)]) dX10_law_517 (by decide) rfl ?_
      refine g_iload C 12 dX10_law_519 rfl ?_
      refine g_if_ne C 547 dX10_law_521 (by decide) E (fun E => ?_) (fun E => ?_)
      · refine g_iinc C (lv' := [(15, .int (v15 + 1)), (14, .int (v14 + x2)), (0, .ref b), (1, .ref (base + v1)), (2, .ref (base + v2)), (3, .ref (base + v3)), (4, .ref (base + v4)), (5, .ref (base + v5)), (6, .ref (base + v6)), (7, .int v7), (10, .int v10), (12, .int v12), (13, .int v13)]) 12 1 dX10_law_547 rfl rfl (by decide) rfl ?_
        refine g_goto C 496 dX10_law_550 (by decide) ?_
        refine g_sub (lv' := [(0, .ref b), (1, .ref (base + v1)), (2, .ref (base + v2)), (3, .ref (base + v3)), (4, .ref (base + v4)), (5, .ref (base + v5)), (6, .ref (base + v6)), (7, .int v7), (10, .int v10), (12, .int v12), (13, .int v13), (14, .int (v14 + x2)), (15, .int (v15 + 1))]) [2, 3, 4, 5, 6, 7, 8, 9, 10, 11, 12, 1, 0] rfl ?_
        exact ih v1 v2 v3 v4 v5 v6 v7 v10 v12 v13 (v14 + x2) (v15 + 1) (v100 + 1) h3 E
      · refine g_iload C 11 dX10_law_524 rfl ?_
        refine g_aload_n C 3 dX10_law_526 rfl rfl ?_
        refine g_iconst C 1 dX10_law_527 rfl ?_
        refine g_iald C dX10_law_528 E (fun x4 E => ?_)
        refine g_iconst C 1 dX10_law_529 rfl ?_
        refine g_icmp_ne C 541 dX10_law_530 (by decide) E (fun E => ?_) (fun E => ?_)
        · refine g_iconst C 0 dX10_law_541 rfl ?_
          refine g_sub (lv' := [(0, .ref b), (1, .ref (base + v1)), (2, .ref (base + v2)), (3, .ref (base + v3)), (4, .ref (base + v4)), (5, .ref (base + v5)), (6, .ref (base + v6)), (7, .int v7), (10, .int v10), (12, .int v12), (13, .int v13), (14, .int (v14 + x2)), (15, .int v15)]) [1, 2, 3, 4, 5, 6, 7, 8, 9, 10, 11, 0, 12] rfl ?_
          refine o_X10_law_J542 C hr hX hbl hbA hX1 KR ?_ v1 v2 v3 v4 v5 v6 v7 v10 v12 v13 (v14 + x2) v15 (v100 + 1) v13 0 h3 E
          · intro y5 y6 y7 y8 y9 y10 y11 y12 y13 y14 y15 y16 y17 h18 E
            refine g_sub (lv' := [(0, .ref b), (1, .ref (base + y5)), (2, .ref (base + y6)), (3, .ref (base + y7)), (4, .ref (base + y8)), (5, .ref (base + y9)), (6, .ref (base + y10)), (7, .int y11), (10, .int y12), (12, .int y13), (13, .int y14), (14, .int y15), (15, .int y16)]) [0, 1, 2, 3, 4, 5, 6, 7, 8, 9, 10, 11, 12] rfl ?_
            exact ih y5 y6 y7 y8 y9 y10 y11 y12 y13 y14 y15 y16 y17 h18 E
        · refine g_aload C 7 dX10_law_533 rfl ?_
          refine g_iload C 9 dX10_law_535 rfl ?_
          refine g_iald C dX10_law_537 E (fun x19 E => ?_)
          refine g_goto C 542 dX10_law_538 (by decide) ?_
          refine g_sub (lv' := [(0, .ref b), (1, .ref (base + v1)), (2, .ref (base + v2)), (3, .ref (base + v3)), (4, .ref (base + v4)), (5, .ref (base + v5)), (6, .ref (base + v6)), (7, .int v7), (10, .int v10), (12, .int v12), (13, .int v13), (14, .int (v14 + x2)), (15, .int v15)]) [1, 2, 3, 4, 5, 6, 7, 8, 9, 10, 11, 0, 12] rfl ?_
          refine o_X10_law_J542 C hr hX hbl hbA hX1 KR ?_ v1 v2 v3 v4 v5 v6 v7 v10 v12 v13 (v14 + x2) v15 (v100 + 1) v13 x19 h3 E
          · intro y20 y21 y22 y23 y24 y25 y26 y27 y28 y29 y30 y31 y32 h33 E
            refine g_sub (lv' := [(0, .ref b), (1, .ref (base + y20)), (2, .ref (base + y21)), (3, .ref (base + y22)), (4, .ref (base + y23)), (5, .ref (base + y24)), (6, .ref (base + y25)), (7, .int y26), (10, .int y27), (12, .int y28), (13, .int y29), (14, .int y30), (15, .int y31)]) [0, 1, 2, 3, 4, 5, 6, 7, 8, 9, 10, 11, 12] rfl ?_
            exact ih y20 y21 y22 y23 y24 y25 y26 y27 y28 y29 y30 y31 y32 h33 E
set_option maxRecDepth 100000 in
set_option maxHeartbeats 4000000 in
theorem o_X10_law_L404 {l : Launch} {base : Nat} {D : va_G} {cA : Nat → ClassId} {p : Program} {e : Env} {s : State} {m : MethodId} {args : Array Value} {below : List Frame} {meth : Method} {c : Code} (C : GC base D cA p s m args meth c cX10_law 16 RX10) (hr : meth.sig.returnType = (some .boolean))  {b L : Nat} {xs : Nat → Int32} (hX : va_X b L xs s s.heap) (hbl : b < s.heap.size) (hbA : ¬ AA base b) {Q : State → Prop} {X : Int32 × Hp} (hX1 : X.1 = 1) (KR : ∀ (h : Hp) (lv : List (Nat × Value)), GW base D cA p l e room_1 s m args below meth c Q 16 h 744374 6869126 992 lv [.int 1]) {k460 : Nat → Nat → Nat → Nat → Nat → Nat → Int32 → Nat → Hp → Rv Int32} (K460 : ∀ (y0 : Nat) (y1 : Nat) (y2 : Nat) (y3 : Nat) (y4 : Nat) (y5 : Nat) (y6 : Int32) (y7 : Nat) (h : Hp), k460 y0 y1 y2 y3 y4 y5 y6 y7 h = some X → GW base D cA p l e room_1 s m args below meth c Q 16 h (302 + 3 * min y7 400) (3270 + 131 * min y7 400) 460 [(0, .ref b), (1, .ref (base + y0)), (2, .ref (base + y1)), (3, .ref (base + y2)), (4, .ref (base + y3)), (5, .ref (base + y4)), (6, .ref (base + y5)), (7, .int y6)] []) : ∀ (n : Nat) (v1 : Nat) (v2 : Nat) (v3 : Nat) (v4 : Nat) (v5 : Nat) (v6 : Nat) (v7 : Int32) (v11 : Int32) (v12 : Int32) (v13 : Int32) (v100 : Nat) (h : Hp), s_X10_law_L404 L xs k460 n v1 v2 v3 v4 v5 v6 v7 v11 v12 v13 v100 h = some X → GW base D cA p l e room_1 s m args below meth c Q 16 h (302 + 3 * min v100 400) (3270 + 131 * min v100 400) 404 [(0, .ref b), (1, .ref (base + v1)), (2, .ref (base + v2)), (3, .ref (base + v3)), (4, .ref (base + v4)), (5, .ref (base + v5)), (6, .ref (base + v6)), (7, .int v7), (11, .int v11), (12, .int v12), (13, .int v13)] [] := by
  intro n
  induction n with
  | zero =>
    intro v1 v2 v3 v4 v5 v6 v7 v11 v12 v13 v100 h E
    rw [s_X10_law_L404] at E
    cases E
  | succ n ih =>
    intro v1 v2 v3 v4 v5 v6 v7 v11 v12 v13 v100 h E
    rw [s_X10_law_L404] at E
    refine g_iload C 10 dX10_law_404 rfl ?_
    refine g_iconst C 1 dX10_law_406 rfl ?_
    refine g_icmp_ge C 460 dX10_law_407 (by decide) E (fun E => ?_) (fun E => ?_)
    · refine g_sub (lv' := [(0, .ref b), (1, .ref (base + v1)), (2, .ref (base + v2)), (3, .ref (base + v3)), (4, .ref (base + v4)), (5, .ref (base + v5)), (6, .ref (base + v6)), (7, .int v7)]) [0, 1, 2, 3, 4, 5, 6, 7] rfl ?_
      exact K460 v1 v2 v3 v4 v5 v6 v7 v100 h E
    · refine g_iload C 9 dX10_law_410 rfl ?_
      refine g_if_eq C 460 dX10_law_412 (by decide) E (fun E => ?_) (fun E => ?_)
      · refine g_sub (lv' := [(0, .ref b), (1, .ref (base + v1)), (2, .ref (base + v2)), (3, .ref (base + v3)), (4, .ref (base + v4)), (5, .ref (base + v5)), (6, .ref (base + v6)), (7, .int v7)]) [0, 1, 2, 3, 4, 5, 6, 7] rfl ?_
        exact K460 v1 v2 v3 v4 v5 v6 v7 v100 h E
      · refine g_aload_n C 3 dX10_law_415 rfl rfl ?_
        refine g_iload C 8 dX10_law_416 rfl ?_
        refine g_iconst C 5 dX10_law_418 rfl ?_
        refine g_iadd C dX10_law_419 ?_
        refine g_iconst C 1 dX10_law_420 rfl ?_
        refine g_iast C dX10_law_421 E (fun h1 E => ?_)
        refine g_aload_n C 3 dX10_law_422 rfl rfl ?_
        refine g_iload C 8 dX10_law_423 rfl ?_
        refine g_bipush C 6 dX10_law_425 rfl ?_
        refine g_iadd C dX10_law_427 ?_
        refine g_iconst C 0 dX10_law_428 rfl ?_
        refine g_iast C dX10_law_429 E (fun h2 E => ?_)
        refine g_aload_n C 3 dX10_law_430 rfl rfl ?_
        refine g_iload C 8 dX10_law_431 rfl ?_
        refine g_bipush C 9 dX10_law_433 rfl ?_
        refine g_iadd C dX10_law_435 ?_
        refine g_iconst C 2 dX10_law_436 rfl ?_
        refine g_iast C dX10_law_437 E (fun h3 E => ?_)
        refine g_aload_n C 3 dX10_law_438 rfl rfl ?_
        refine g_iload C 8 dX10_law_439 rfl ?_
        refine g_bipush C 10 dX10_law_441 rfl ?_
        refine g_iadd C dX10_law_443 ?_
        refine g_iconst C 0 dX10_law_444 rfl ?_
        refine g_iast C dX10_law_445 E (fun h4 E => ?_)
        refine g_aload_n C 3 dX10_law_446 rfl rfl ?_
        refine g_iload C 8 dX10_law_447 rfl ?_
        refine g_bipush C 12 dX10_law_449 rfl ?_
        refine g_iadd C dX10_law_451 ?_
        refine g_iconst C 0 dX10_law_452 rfl ?_
        refine g_iast C dX10_law_453 E (fun h5 E => ?_)
        refine g_iinc C (lv' := [(13, .int (v13 + 1)), (0, .ref b), (1, .ref (base + v1)), (2, .ref (base + v2)), (3, .ref (base + v3)), (4, .ref (base + v4)), (5, .ref (base + v5)), (6, .ref (base + v6)), (7, .int v7), (11, .int v11), (12, .int v12)]) 10 1 dX10_law_454 rfl rfl (by decide) rfl ?_
        refine g_goto C 404 dX10_law_457 (by decide) ?_
        refine g_sub (lv' := [(0, .ref b), (1, .ref (base + v1)), (2, .ref (base + v2)), (3, .ref (base + v3)), (4, .ref (base + v4)), (5, .ref (base + v5)), (6, .ref (base + v6)), (7, .int v7), (11, .int v11), (12, .int v12), (13, .int (v13 + 1))]) [1, 2, 3, 4, 5, 6, 7, 8, 9, 10, 0] rfl ?_
        exact ih v1 v2 v3 v4 v5 v6 v7 v11 v12 (v13 + 1) v100 h5 E
set_option maxRecDepth 100000 in
set_option maxHeartbeats 4000000 in
theorem o_X10_law_J460 {l : Launch} {base : Nat} {D : va_G} {cA : Nat → ClassId} {p : Program} {e : Env} {s : State} {m : MethodId} {args : Array Value} {below : List Frame} {meth : Method} {c : Code} (C : GC base D cA p s m args meth c cX10_law 16 RX10) (hr : meth.sig.returnType = (some .boolean))  {b L : Nat} {xs : Nat → Int32} (hX : va_X b L xs s s.heap) (hbl : b < s.heap.size) (hbA : ¬ AA base b) {Q : State → Prop} {X : Int32 × Hp} (hX1 : X.1 = 1) (KR : ∀ (h : Hp) (lv : List (Nat × Value)), GW base D cA p l e room_1 s m args below meth c Q 16 h 744374 6869126 992 lv [.int 1]) {k290 : Nat → Nat → Nat → Nat → Nat → Nat → Int32 → Nat → Hp → Rv Int32} (K290 : ∀ (y0 : Nat) (y1 : Nat) (y2 : Nat) (y3 : Nat) (y4 : Nat) (y5 : Nat) (y6 : Int32) (y7 : Nat) (h : Hp), k290 y0 y1 y2 y3 y4 y5 y6 y7 h = some X → GW base D cA p l e room_1 s m args below meth c Q 16 h (302 + 3 * min y7 400) (3270 + 131 * min y7 400) 290 [(0, .ref b), (1, .ref (base + y0)), (2, .ref (base + y1)), (3, .ref (base + y2)), (4, .ref (base + y3)), (5, .ref (base + y4)), (6, .ref (base + y5)), (7, .int y6)] []) : ∀ (v1 : Nat) (v2 : Nat) (v3 : Nat) (v4 : Nat) (v5 : Nat) (v6 : Nat) (v7 : Int32) (v100 : Nat) (h : Hp), s_X10_law_J460 L xs k290 v1 v2 v3 v4 v5 v6 v7 v100 h = some X → GW base D cA p l e room_1 s m args below meth c Q 16 h (302 + 3 * min v100 400) (3270 + 131 * min v100 400) 460 [(0, .ref b), (1, .ref (base + v1)), (2, .ref (base + v2)), (3, .ref (base + v3)), (4, .ref (base + v4)), (5, .ref (base + v5)), (6, .ref (base + v6)), (7, .int v7)] [] := by
  intro v1 v2 v3 v4 v5 v6 v7 v100 h E
  unfold s_X10_law_J460 at E
  refine g_goto C 970 dX10_law_460 (by decide) ?_
  refine g_sub (lv' := [(0, .ref b), (1, .ref (base + v1)), (2, .ref (base + v2)), (3, .ref (base + v3)), (4, .ref (base + v4)), (5, .ref (base + v5)), (6, .ref (base + v6)), (7, .int v7)]) [0, 1, 2, 3, 4, 5, 6, 7] rfl ?_
  refine o_X10_law_J970 C hr hX hbl hbA hX1 KR ?_ v1 v2 v3 v4 v5 v6 v7 v100 h E
  · intro y1 y2 y3 y4 y5 y6 y7 y8 h9 E
    refine g_sub (lv' := [(0, .ref b), (1, .ref (base + y1)), (2, .ref (base + y2)), (3, .ref (base + y3)), (4, .ref (base + y4)), (5, .ref (base + y5)), (6, .ref (base + y6)), (7, .int y7)]) [0, 1, 2, 3, 4, 5, 6, 7] rfl ?_
    exact K290 y1 y2 y3 y4 y5 y6 y7 y8 h9 E
set_option maxRecDepth 100000 in
set_option maxHeartbeats 4000000 in
theorem o_X10_law_J396 {l : Launch} {base : Nat} {D : va_G} {cA : Nat → ClassId} {p : Program} {e : Env} {s : State} {m : MethodId} {args : Array Value} {below : List Frame} {meth : Method} {c : Code} (C : GC base D cA p s m args meth c cX10_law 16 RX10) (hr : meth.sig.returnType = (some .boolean))  {b L : Nat} {xs : Nat → Int32} (hX : va_X b L xs s s.heap) (hbl : b < s.heap.size) (hbA : ¬ AA base b) {Q : State → Prop} {X : Int32 × Hp} (hX1 : X.1 = 1) (KR : ∀ (h : Hp) (lv : List (Nat × Value)), GW base D cA p l e room_1 s m args below meth c Q 16 h 744374 6869126 992 lv [.int 1]) {k290 : Nat → Nat → Nat → Nat → Nat → Nat → Int32 → Nat → Hp → Rv Int32} (K290 : ∀ (y0 : Nat) (y1 : Nat) (y2 : Nat) (y3 : Nat) (y4 : Nat) (y5 : Nat) (y6 : Int32) (y7 : Nat) (h : Hp), k290 y0 y1 y2 y3 y4 y5 y6 y7 h = some X → GW base D cA p l e room_1 s m args below meth c Q 16 h (302 + 3 * min y7 400) (3270 + 131 * min y7 400) 290 [(0, .ref b), (1, .ref (base + y0)), (2, .ref (base + y1)), (3, .ref (base + y2)), (4, .ref (base + y3)), (5, .ref (base + y4)), (6, .ref (base + y5)), (7, .int y6)] []) : ∀ (v1 : Nat) (v2 : Nat) (v3 : Nat) (v4 : Nat) (v5 : Nat) (v6 : Nat) (v7 : Int32) (v11 : Int32) (v12 : Int32) (v100 : Nat) (w0 : Int32) (w1 : Int32) (h : Hp), s_X10_law_J396 L xs k290 v1 v2 v3 v4 v5 v6 v7 v11 v12 v100 w0 w1 h = some X → GW base D cA p l e room_1 s m args below meth c Q 16 h (302 + 3 * min v100 400) (3270 + 131 * min v100 400) 396 [(0, .ref b), (1, .ref (base + v1)), (2, .ref (base + v2)), (3, .ref (base + v3)), (4, .ref (base + v4)), (5, .ref (base + v5)), (6, .ref (base + v6)), (7, .int v7), (11, .int v11), (12, .int v12)] [.int w1, .int w0] := by
  intro v1 v2 v3 v4 v5 v6 v7 v11 v12 v100 w0 w1 h E
  unfold s_X10_law_J396 at E
  refine g_icmp_eq C 401 dX10_law_396 (by decide) E (fun E => ?_) (fun E => ?_)
  · refine g_iconst C 0 dX10_law_401 rfl ?_
    refine g_istore C (lv' := [(13, .int 0), (0, .ref b), (1, .ref (base + v1)), (2, .ref (base + v2)), (3, .ref (base + v3)), (4, .ref (base + v4)), (5, .ref (base + v5)), (6, .ref (base + v6)), (7, .int v7), (11, .int v11), (12, .int v12)]) dX10_law_402 (by decide) rfl ?_
    refine g_sub (lv' := [(0, .ref b), (1, .ref (base + v1)), (2, .ref (base + v2)), (3, .ref (base + v3)), (4, .ref (base + v4)), (5, .ref (base + v5)), (6, .ref (base + v6)), (7, .int v7), (11, .int v11), (12, .int v12), (13, .int 0)]) [1, 2, 3, 4, 5, 6, 7, 8, 9, 10, 0] rfl ?_
    refine o_X10_law_L404 C hr hX hbl hbA hX1 KR ?_ _ v1 v2 v3 v4 v5 v6 v7 v11 v12 0 v100 h E
    · intro y1 y2 y3 y4 y5 y6 y7 y8 h9 E
      refine g_sub (lv' := [(0, .ref b), (1, .ref (base + y1)), (2, .ref (base + y2)), (3, .ref (base + y3)), (4, .ref (base + y4)), (5, .ref (base + y5)), (6, .ref (base + y6)), (7, .int y7)]) [0, 1, 2, 3, 4, 5, 6, 7] rfl ?_
      refine o_X10_law_J460 C hr hX hbl hbA hX1 KR ?_ y1 y2 y3 y4 y5 y6 y7 y8 h9 E
      · intro y10 y11 y12 y13 y14 y15 y16 y17 h18 E
        refine g_sub (lv' := [(0, .ref b), (1, .ref (base + y10)), (2, .ref (base + y11)), (3, .ref (base + y12)), (4, .ref (base + y13)), (5, .ref (base + y14)), (6, .ref (base + y15)), (7, .int y16)]) [0, 1, 2, 3, 4, 5, 6, 7] rfl ?_
        exact K290 y10 y11 y12 y13 y14 y15 y16 y17 h18 E
  · refine g_iconst C 0 dX10_law_399 rfl ?_
    exact absurd E (ret0_no hX1)
set_option maxRecDepth 100000 in
set_option maxHeartbeats 4000000 in
theorem o_X10_law_J371 {l : Launch} {base : Nat} {D : va_G} {cA : Nat → ClassId} {p : Program} {e : Env} {s : State} {m : MethodId} {args : Array Value} {below : List Frame} {meth : Method} {c : Code} (C : GC base D cA p s m args meth c cX10_law 16 RX10) (hr : meth.sig.returnType = (some .boolean))  {b L : Nat} {xs : Nat → Int32} (hX : va_X b L xs s s.heap) (hbl : b < s.heap.size) (hbA : ¬ AA base b) {Q : State → Prop} {X : Int32 × Hp} (hX1 : X.1 = 1) (KR : ∀ (h : Hp) (lv : List (Nat × Value)), GW base D cA p l e room_1 s m args below meth c Q 16 h 744374 6869126 992 lv [.int 1]) {k290 : Nat → Nat → Nat → Nat → Nat → Nat → Int32 → Nat → Hp → Rv Int32} (K290 : ∀ (y0 : Nat) (y1 : Nat) (y2 : Nat) (y3 : Nat) (y4 : Nat) (y5 : Nat) (y6 : Int32) (y7 : Nat) (h : Hp), k290 y0 y1 y2 y3 y4 y5 y6 y7 h = some X → GW base D cA p l e room_1 s m args below meth c Q 16 h (302 + 3 * min y7 400) (3270 + 131 * min y7 400) 290 [(0, .ref b), (1, .ref (base + y0)), (2, .ref (base + y1)), (3, .ref (base + y2)), (4, .ref (base + y3)), (5, .ref (base + y4)), (6, .ref (base + y5)), (7, .int y6)] []) : ∀ (v1 : Nat) (v2 : Nat) (v3 : Nat) (v4 : Nat) (v5 : Nat) (v6 : Nat) (v7 : Int32) (v10 : Int32) (v11 : Int32) (v100 : Nat) (w0 : Int32) (h : Hp), s_X10_law_J371 L xs k290 v1 v2 v3 v4 v5 v6 v7 v10 v11 v100 w0 h = some X → GW base D cA p l e room_1 s m args below meth c Q 16 h (302 + 3 * min v100 400) (3270 + 131 * min v100 400) 371 [(0, .ref b), (1, .ref (base + v1)), (2, .ref (base + v2)), (3, .ref (base + v3)), (4, .ref (base + v4)), (5, .ref (base + v5)), (6, .ref (base + v6)), (7, .int v7), (10, .int v10), (11, .int v11)] [.int w0] := by
  intro v1 v2 v3 v4 v5 v6 v7 v10 v11 v100 w0 h E
  unfold s_X10_law_J371 at E
  refine g_istore C (lv' := [(12, .int w0), (0, .ref b), (1, .ref (base + v1)), (2, .ref (base + v2)), (3, .ref (base + v3)), (4, .ref (base + v4)), (5, .ref (base + v5)), (6, .ref (base + v6)), (7, .int v7), (10, .int v10), (11, .int v11)]) dX10_law_371 (by decide) rfl ?_
  refine g_aload_n C 2 dX10_law_373 rfl rfl ?_
  refine g_iload C 9 dX10_law_374 rfl ?_
  refine g_invI C (q := (RX8, TX8, 7)) [.int v10] dX10_law_376 cl_X10_94 cv_X8_start rfl (by decide) rfl rfl ⟨Nat.le_of_ble_eq_true rfl, Nat.le_of_ble_eq_true rfl⟩ (Nat.le_of_ble_eq_true rfl) ⟨(show 302 + 3 * min v100 400 + 0 ≤ 744374 by omega), (show 3270 + 131 * min v100 400 + 0 ≤ 6869126 by omega)⟩ rfl (fun r' h' E => o_X8_start l base D cA v1 v10 h r' h' E) E (fun x1 h2 E => ?_)
  refine g_iload C 0 dX10_law_379 rfl ?_
  refine g_if_eq C 394 dX10_law_381 (by decide) E (fun E => ?_) (fun E => ?_)
  · refine g_bipush C (-4) dX10_law_394 rfl ?_
    refine g_sub (lv' := [(0, .ref b), (1, .ref (base + v1)), (2, .ref (base + v2)), (3, .ref (base + v3)), (4, .ref (base + v4)), (5, .ref (base + v5)), (6, .ref (base + v6)), (7, .int v7), (11, .int v11), (12, .int w0)]) [1, 2, 3, 4, 5, 6, 7, 8, 10, 0] rfl ?_
    refine o_X10_law_J396 C hr hX hbl hbA hX1 KR ?_ v1 v2 v3 v4 v5 v6 v7 v11 w0 v100 x1 (-4) h2 E
    · intro y3 y4 y5 y6 y7 y8 y9 y10 h11 E
      refine g_sub (lv' := [(0, .ref b), (1, .ref (base + y3)), (2, .ref (base + y4)), (3, .ref (base + y5)), (4, .ref (base + y6)), (5, .ref (base + y7)), (6, .ref (base + y8)), (7, .int y9)]) [0, 1, 2, 3, 4, 5, 6, 7] rfl ?_
      exact K290 y3 y4 y5 y6 y7 y8 y9 y10 h11 E
  · refine g_aload_n C 4 dX10_law_384 rfl rfl ?_
    refine g_iload C 10 dX10_law_385 rfl ?_
    refine g_bipush C 11 dX10_law_387 rfl ?_
    refine g_iadd C dX10_law_389 ?_
    refine g_iald C dX10_law_390 E (fun x12 E => ?_)
    refine g_goto C 396 dX10_law_391 (by decide) ?_
    refine g_sub (lv' := [(0, .ref b), (1, .ref (base + v1)), (2, .ref (base + v2)), (3, .ref (base + v3)), (4, .ref (base + v4)), (5, .ref (base + v5)), (6, .ref (base + v6)), (7, .int v7), (11, .int v11), (12, .int w0)]) [1, 2, 3, 4, 5, 6, 7, 8, 10, 0] rfl ?_
    refine o_X10_law_J396 C hr hX hbl hbA hX1 KR ?_ v1 v2 v3 v4 v5 v6 v7 v11 w0 v100 x1 x12 h2 E
    · intro y13 y14 y15 y16 y17 y18 y19 y20 h21 E
      refine g_sub (lv' := [(0, .ref b), (1, .ref (base + y13)), (2, .ref (base + y14)), (3, .ref (base + y15)), (4, .ref (base + y16)), (5, .ref (base + y17)), (6, .ref (base + y18)), (7, .int y19)]) [0, 1, 2, 3, 4, 5, 6, 7] rfl ?_
      exact K290 y13 y14 y15 y16 y17 y18 y19 y20 h21 E
set_option maxRecDepth 100000 in
set_option maxHeartbeats 4000000 in
theorem o_X10_law_J370 {l : Launch} {base : Nat} {D : va_G} {cA : Nat → ClassId} {p : Program} {e : Env} {s : State} {m : MethodId} {args : Array Value} {below : List Frame} {meth : Method} {c : Code} (C : GC base D cA p s m args meth c cX10_law 16 RX10) (hr : meth.sig.returnType = (some .boolean))  {b L : Nat} {xs : Nat → Int32} (hX : va_X b L xs s s.heap) (hbl : b < s.heap.size) (hbA : ¬ AA base b) {Q : State → Prop} {X : Int32 × Hp} (hX1 : X.1 = 1) (KR : ∀ (h : Hp) (lv : List (Nat × Value)), GW base D cA p l e room_1 s m args below meth c Q 16 h 744374 6869126 992 lv [.int 1]) {k290 : Nat → Nat → Nat → Nat → Nat → Nat → Int32 → Nat → Hp → Rv Int32} (K290 : ∀ (y0 : Nat) (y1 : Nat) (y2 : Nat) (y3 : Nat) (y4 : Nat) (y5 : Nat) (y6 : Int32) (y7 : Nat) (h : Hp), k290 y0 y1 y2 y3 y4 y5 y6 y7 h = some X → GW base D cA p l e room_1 s m args below meth c Q 16 h (302 + 3 * min y7 400) (3270 + 131 * min y7 400) 290 [(0, .ref b), (1, .ref (base + y0)), (2, .ref (base + y1)), (3, .ref (base + y2)), (4, .ref (base + y3)), (5, .ref (base + y4)), (6, .ref (base + y5)), (7, .int y6)] []) : ∀ (v1 : Nat) (v2 : Nat) (v3 : Nat) (v4 : Nat) (v5 : Nat) (v6 : Nat) (v7 : Int32) (v10 : Int32) (v11 : Int32) (v100 : Nat) (h : Hp), s_X10_law_J370 L xs k290 v1 v2 v3 v4 v5 v6 v7 v10 v11 v100 h = some X → GW base D cA p l e room_1 s m args below meth c Q 16 h (302 + 3 * min v100 400) (3270 + 131 * min v100 400) 370 [(0, .ref b), (1, .ref (base + v1)), (2, .ref (base + v2)), (3, .ref (base + v3)), (4, .ref (base + v4)), (5, .ref (base + v5)), (6, .ref (base + v6)), (7, .int v7), (10, .int v10), (11, .int v11)] [] := by
  intro v1 v2 v3 v4 v5 v6 v7 v10 v11 v100 h E
  unfold s_X10_law_J370 at E
  refine g_iconst C 0 dX10_law_370 rfl ?_
  refine g_sub (lv' := [(0, .ref b), (1, .ref (base + v1)), (2, .ref (base + v2)), (3, .ref (base + v3)), (4, .ref (base + v4)), (5, .ref (base + v5)), (6, .ref (base + v6)), (7, .int v7), (10, .int v10), (11, .int v11)]) [0, 1, 2, 3, 4, 5, 6, 7, 8, 9] rfl ?_
  refine o_X10_law_J371 C hr hX hbl hbA hX1 KR ?_ v1 v2 v3 v4 v5 v6 v7 v10 v11 v100 0 h E
  · intro y1 y2 y3 y4 y5 y6 y7 y8 h9 E
    refine g_sub (lv' := [(0, .ref b), (1, .ref (base + y1)), (2, .ref (base + y2)), (3, .ref (base + y3)), (4, .ref (base + y4)), (5, .ref (base + y5)), (6, .ref (base + y6)), (7, .int y7)]) [0, 1, 2, 3, 4, 5, 6, 7] rfl ?_
    exact K290 y1 y2 y3 y4 y5 y6 y7 y8 h9 E
set_option maxRecDepth 100000 in
set_option maxHeartbeats 4000000 in
theorem o_X10_law_L290 {l : Launch} {base : Nat} {D : va_G} {cA : Nat → ClassId} {p : Program} {e : Env} {s : State} {m : MethodId} {args : Array Value} {below : List Frame} {meth : Method} {c : Code} (C : GC base D cA p s m args meth c cX10_law 16 RX10) (hr : meth.sig.returnType = (some .boolean))  {b L : Nat} {xs : Nat → Int32} (hX : va_X b L xs s s.heap) (hbl : b < s.heap.size) (hbA : ¬ AA base b) {Q : State → Prop} {X : Int32 × Hp} (hX1 : X.1 = 1) (KR : ∀ (h : Hp) (lv : List (Nat × Value)), GW base D cA p l e room_1 s m args below meth c Q 16 h 744374 6869126 992 lv [.int 1]) : ∀ (n : Nat) (v1 : Nat) (v2 : Nat) (v3 : Nat) (v4 : Nat) (v5 : Nat) (v6 : Nat) (v7 : Int32) (v100 : Nat) (h : Hp), s_X10_law_L290 L xs n v1 v2 v3 v4 v5 v6 v7 v100 h = some X → GW base D cA p l e room_1 s m args below meth c Q 16 h (302 + 3 * min v100 400) (3270 + 131 * min v100 400) 290 [(0, .ref b), (1, .ref (base + v1)), (2, .ref (base + v2)), (3, .ref (base + v3)), (4, .ref (base + v4)), (5, .ref (base + v5)), (6, .ref (base + v6)), (7, .int v7)] [] := by
  intro n
  induction n with
  | zero =>
    intro v1 v2 v3 v4 v5 v6 v7 v100 h E
    rw [s_X10_law_L290] at E
    cases E
  | succ n ih =>
    intro v1 v2 v3 v4 v5 v6 v7 v100 h E
    rw [s_X10_law_L290] at E
    refine g_iload C 7 dX10_law_290 rfl ?_
    refine g_bipush C 16 dX10_law_292 rfl ?_
    refine g_icmp_ge C 991 dX10_law_294 (by decide) E (fun E => ?_) (fun E => ?_)
    · refine g_iconst C 1 dX10_law_991 rfl ?_
      exact g_widen 744374 6869126 (by omega) (by omega) (KR h _)
    · refine g_aload_n C 0 dX10_law_297 rfl rfl ?_
      refine g_bipush C 7 dX10_law_298 rfl ?_
      refine g_iload C 7 dX10_law_300 rfl ?_
      refine g_iadd C dX10_law_302 ?_
      refine g_cell C hX hbl hbA dX10_law_303 cl_X10_79 cs_X10_cell rfl ⟨Nat.le_of_ble_eq_true rfl, Nat.le_of_ble_eq_true rfl⟩ (Nat.le_of_ble_eq_true rfl) ((show 302 + 3 * min v100 400 + 0 ≤ 744374 by omega)) ((show 3270 + 131 * min v100 400 + 0 ≤ 6869126 by omega)) E (fun x1 E => ?_)
      refine g_istore C (lv' := [(8, .int x1), (0, .ref b), (1, .ref (base + v1)), (2, .ref (base + v2)), (3, .ref (base + v3)), (4, .ref (base + v4)), (5, .ref (base + v5)), (6, .ref (base + v6)), (7, .int v7)]) dX10_law_306 (by decide) rfl ?_
      refine g_iload C 0 dX10_law_308 rfl ?_
      refine g_bipush C 8 dX10_law_310 rfl ?_
      refine g_staI C [.int x1, .int 8] dX10_law_312 cl_X10_57 cs_X10_low rfl rfl ⟨Nat.le_of_ble_eq_true rfl, Nat.le_of_ble_eq_true rfl⟩ (Nat.le_of_ble_eq_true rfl) ⟨(show 302 + 3 * min v100 400 + 0 ≤ 744374 by omega), (show 3270 + 131 * min v100 400 + 0 ≤ 6869126 by omega)⟩ rfl (fun r' h' E => o_X10_low l base D cA x1 8 h r' h' E) E (fun x2 h3 E => ?_)
      refine g_istore C (lv' := [(9, .int x2), (8, .int x1), (0, .ref b), (1, .ref (base + v1)), (2, .ref (base + v2)), (3, .ref (base + v3)), (4, .ref (base + v4)), (5, .ref (base + v5)), (6, .ref (base + v6)), (7, .int v7)]) dX10_law_315 (by decide) rfl ?_
      refine g_iload C 1 dX10_law_317 rfl ?_
      refine g_iconst C 3 dX10_law_319 rfl ?_
      refine g_ishr C dX10_law_320 ?_
      refine g_iconst C 3 dX10_law_321 rfl ?_
      refine g_staI C [.int (shrI x1 3), .int 3] dX10_law_322 cl_X10_57 cs_X10_low rfl rfl ⟨Nat.le_of_ble_eq_true rfl, Nat.le_of_ble_eq_true rfl⟩ (Nat.le_of_ble_eq_true rfl) ⟨(show 302 + 3 * min v100 400 + 0 ≤ 744374 by omega), (show 3270 + 131 * min v100 400 + 0 ≤ 6869126 by omega)⟩ rfl (fun r' h' E => o_X10_low l base D cA (shrI x1 3) 3 h3 r' h' E) E (fun x4 h5 E => ?_)
      refine g_istore C (lv' := [(10, .int x4), (9, .int x2), (8, .int x1), (0, .ref b), (1, .ref (base + v1)), (2, .ref (base + v2)), (3, .ref (base + v3)), (4, .ref (base + v4)), (5, .ref (base + v5)), (6, .ref (base + v6)), (7, .int v7)]) dX10_law_325 (by decide) rfl ?_
      refine g_bipush C 16 dX10_law_327 rfl ?_
      refine g_iload C 0 dX10_law_329 rfl ?_
      refine g_imul C dX10_law_331 ?_
      refine g_istore C (lv' := [(11, .int (16 * x4)), (10, .int x4), (9, .int x2), (8, .int x1), (0, .ref b), (1, .ref (base + v1)), (2, .ref (base + v2)), (3, .ref (base + v3)), (4, .ref (base + v4)), (5, .ref (base + v5)), (6, .ref (base + v6)), (7, .int v7)]) dX10_law_332 (by decide) rfl ?_
      refine g_iload C 2 dX10_law_334 rfl ?_
      refine g_iconst C 2 dX10_law_336 rfl ?_
      refine g_icmp_ge C 463 dX10_law_337 (by decide) E (fun E => ?_) (fun E => ?_)
      · refine g_iload C 2 dX10_law_463 rfl ?_
        refine g_iconst C 5 dX10_law_465 rfl ?_
        refine g_icmp_ge C 569 dX10_law_466 (by decide) E (fun E => ?_) (fun E => ?_)
        · refine g_iload C 2 dX10_law_569 rfl ?_
          refine g_iconst C 5 dX10_law_571 rfl ?_
          refine g_icmp_ne C 592 dX10_law_572 (by decide) E (fun E => ?_) (fun E => ?_)
          · refine g_iload C 2 dX10_law_592 rfl ?_
            refine g_bipush C 6 dX10_law_594 rfl ?_
            refine g_icmp_ne C 772 dX10_law_596 (by decide) E (fun E => ?_) (fun E => ?_)
            · refine g_iload C 3 dX10_law_772 rfl ?_
              refine g_iconst C 5 dX10_law_774 rfl ?_
              refine g_ishr C dX10_law_775 ?_
              refine g_iconst C 2 dX10_law_776 rfl ?_
              refine g_staI C [.int (shrI x1 5), .int 2] dX10_law_777 cl_X10_57 cs_X10_low rfl rfl ⟨Nat.le_of_ble_eq_true rfl, Nat.le_of_ble_eq_true rfl⟩ (Nat.le_of_ble_eq_true rfl) ⟨(show 302 + 3 * min v100 400 + 0 ≤ 744374 by omega), (show 3270 + 131 * min v100 400 + 0 ≤ 6869126 by omega)⟩ rfl (fun r' h' E => o_X10_low l base D cA (shrI x1 5) 2 h5 r' h' E) E (fun x6 h7 E => ?_)
              refine g_if_ne C 912 dX10_law_780 (by decide) E (fun E => ?_) (fun E => ?_)
              · refine g_aload_n C 5 dX10_law_912 rfl rfl ?_
                refine g_iload C 1 dX10_law_913 rfl ?_
                refine g_invI C (q := (RX8, TX8, 7)) [.int x4] dX10_law_915 cl_X10_121 cv_X8_stop rfl (by decide) rfl rfl ⟨Nat.le_of_ble_eq_true rfl, Nat.le_of_ble_eq_true rfl⟩ (Nat.le_of_ble_eq_true rfl) ⟨(show 302 + 3 * min v100 400 + 0 ≤ 744374 by omega), (show 3270 + 131 * min v100 400 + 0 ≤ 6869126 by omega)⟩ rfl (fun r' h' E => o_X8_stop l base D cA v1 x4 h7 r' h' E) E (fun x8 h9 E => ?_)
                refine g_aload_n C 7 dX10_law_918 rfl rfl ?_
                refine g_iload C 0 dX10_law_919 rfl ?_
                refine g_iconst C 5 dX10_law_921 rfl ?_
                refine g_iadd C dX10_law_922 ?_
                refine g_iald C dX10_law_923 E (fun x10 E => ?_)
                refine g_if_ne C 932 dX10_law_924 (by decide) E (fun E => ?_) (fun E => ?_)
                · refine g_aload_n C 7 dX10_law_932 rfl rfl ?_
                  refine g_iload C 0 dX10_law_933 rfl ?_
                  refine g_bipush C 6 dX10_law_935 rfl ?_
                  refine g_iadd C dX10_law_937 ?_
                  refine g_iald C dX10_law_938 E (fun x11 E => ?_)
                  refine g_sub (lv' := [(0, .ref b), (1, .ref (base + v1)), (2, .ref (base + v2)), (3, .ref (base + v3)), (4, .ref (base + v4)), (5, .ref (base + v5)), (6, .ref (base + v6)), (7, .int v7), (8, .int x1), (10, .int x4), (11, .int (16 * x4))]) [4, 5, 6, 7, 8, 9, 10, 11, 3, 1, 0] rfl ?_
                  refine o_X10_law_J939 C hr hX hbl hbA hX1 KR ?_ v1 v2 v3 v4 v5 v6 v7 x1 x4 (16 * x4) v100 x8 x11 h9 E
                  · intro y12 y13 y14 y15 y16 y17 y18 y19 h20 E
                    refine g_sub (lv' := [(0, .ref b), (1, .ref (base + y12)), (2, .ref (base + y13)), (3, .ref (base + y14)), (4, .ref (base + y15)), (5, .ref (base + y16)), (6, .ref (base + y17)), (7, .int y18)]) [0, 1, 2, 3, 4, 5, 6, 7] rfl ?_
                    exact ih y12 y13 y14 y15 y16 y17 y18 y19 h20 E
                · refine g_bipush C (-5) dX10_law_927 rfl ?_
                  refine g_goto C 939 dX10_law_929 (by decide) ?_
                  refine g_sub (lv' := [(0, .ref b), (1, .ref (base + v1)), (2, .ref (base + v2)), (3, .ref (base + v3)), (4, .ref (base + v4)), (5, .ref (base + v5)), (6, .ref (base + v6)), (7, .int v7), (8, .int x1), (10, .int x4), (11, .int (16 * x4))]) [4, 5, 6, 7, 8, 9, 10, 11, 3, 1, 0] rfl ?_
                  refine o_X10_law_J939 C hr hX hbl hbA hX1 KR ?_ v1 v2 v3 v4 v5 v6 v7 x1 x4 (16 * x4) v100 x8 (-5) h9 E
                  · intro y21 y22 y23 y24 y25 y26 y27 y28 h29 E
                    refine g_sub (lv' := [(0, .ref b), (1, .ref (base + y21)), (2, .ref (base + y22)), (3, .ref (base + y23)), (4, .ref (base + y24)), (5, .ref (base + y25)), (6, .ref (base + y26)), (7, .int y27)]) [0, 1, 2, 3, 4, 5, 6, 7] rfl ?_
                    exact ih y21 y22 y23 y24 y25 y26 y27 y28 h29 E
              · refine g_aload_n C 7 dX10_law_783 rfl rfl ?_
                refine g_iload C 0 dX10_law_784 rfl ?_
                refine g_bipush C 9 dX10_law_786 rfl ?_
                refine g_iadd C dX10_law_788 ?_
                refine g_iald C dX10_law_789 E (fun x30 E => ?_)
                refine g_iconst C 1 dX10_law_790 rfl ?_
                refine g_icmp_ne C 798 dX10_law_791 (by decide) E (fun E => ?_) (fun E => ?_)
                · refine g_iconst C 0 dX10_law_798 rfl ?_
                  refine g_sub (lv' := [(0, .ref b), (1, .ref (base + v1)), (2, .ref (base + v2)), (3, .ref (base + v3)), (4, .ref (base + v4)), (5, .ref (base + v5)), (6, .ref (base + v6)), (7, .int v7), (8, .int x1), (10, .int x4), (11, .int (16 * x4))]) [4, 5, 6, 7, 8, 9, 10, 11, 3, 1, 0] rfl ?_
                  refine o_X10_law_J799 C hr hX hbl hbA hX1 KR ?_ v1 v2 v3 v4 v5 v6 v7 x1 x4 (16 * x4) v100 0 h7 E
                  · intro y31 y32 y33 y34 y35 y36 y37 y38 h39 E
                    refine g_sub (lv' := [(0, .ref b), (1, .ref (base + y31)), (2, .ref (base + y32)), (3, .ref (base + y33)), (4, .ref (base + y34)), (5, .ref (base + y35)), (6, .ref (base + y36)), (7, .int y37)]) [0, 1, 2, 3, 4, 5, 6, 7] rfl ?_
                    exact ih y31 y32 y33 y34 y35 y36 y37 y38 h39 E
                · refine g_iconst C 1 dX10_law_794 rfl ?_
                  refine g_goto C 799 dX10_law_795 (by decide) ?_
                  refine g_sub (lv' := [(0, .ref b), (1, .ref (base + v1)), (2, .ref (base + v2)), (3, .ref (base + v3)), (4, .ref (base + v4)), (5, .ref (base + v5)), (6, .ref (base + v6)), (7, .int v7), (8, .int x1), (10, .int x4), (11, .int (16 * x4))]) [4, 5, 6, 7, 8, 9, 10, 11, 3, 1, 0] rfl ?_
                  refine o_X10_law_J799 C hr hX hbl hbA hX1 KR ?_ v1 v2 v3 v4 v5 v6 v7 x1 x4 (16 * x4) v100 1 h7 E
                  · intro y40 y41 y42 y43 y44 y45 y46 y47 h48 E
                    refine g_sub (lv' := [(0, .ref b), (1, .ref (base + y40)), (2, .ref (base + y41)), (3, .ref (base + y42)), (4, .ref (base + y43)), (5, .ref (base + y44)), (6, .ref (base + y45)), (7, .int y46)]) [0, 1, 2, 3, 4, 5, 6, 7] rfl ?_
                    exact ih y40 y41 y42 y43 y44 y45 y46 y47 h48 E
            · refine g_iload C 3 dX10_law_599 rfl ?_
              refine g_iconst C 5 dX10_law_601 rfl ?_
              refine g_ishr C dX10_law_602 ?_
              refine g_iconst C 3 dX10_law_603 rfl ?_
              refine g_staI C [.int (shrI x1 5), .int 3] dX10_law_604 cl_X10_57 cs_X10_low rfl rfl ⟨Nat.le_of_ble_eq_true rfl, Nat.le_of_ble_eq_true rfl⟩ (Nat.le_of_ble_eq_true rfl) ⟨(show 302 + 3 * min v100 400 + 0 ≤ 744374 by omega), (show 3270 + 131 * min v100 400 + 0 ≤ 6869126 by omega)⟩ rfl (fun r' h' E => o_X10_low l base D cA (shrI x1 5) 3 h5 r' h' E) E (fun x49 h50 E => ?_)
              refine g_if_le C 614 dX10_law_607 (by decide) E (fun E => ?_) (fun E => ?_)
              · refine g_iconst C 0 dX10_law_614 rfl ?_
                refine g_istore C (lv' := [(12, .int 0), (11, .int (16 * x4)), (10, .int x4), (9, .int x2), (8, .int x1), (0, .ref b), (1, .ref (base + v1)), (2, .ref (base + v2)), (3, .ref (base + v3)), (4, .ref (base + v4)), (5, .ref (base + v5)), (6, .ref (base + v6)), (7, .int v7)]) dX10_law_615 (by decide) rfl ?_
                refine g_iconst C 0 dX10_law_617 rfl ?_
                refine g_istore C (lv' := [(13, .int 0), (12, .int 0), (11, .int (16 * x4)), (10, .int x4), (9, .int x2), (8, .int x1), (0, .ref b), (1, .ref (base + v1)), (2, .ref (base + v2)), (3, .ref (base + v3)), (4, .ref (base + v4)), (5, .ref (base + v5)), (6, .ref (base + v6)), (7, .int v7)]) dX10_law_618 (by decide) rfl ?_
                refine g_iconst C 0 dX10_law_620 rfl ?_
                refine g_istore C (lv' := [(14, .int 0), (13, .int 0), (12, .int 0), (11, .int (16 * x4)), (10, .int x4), (9, .int x2), (8, .int x1), (0, .ref b), (1, .ref (base + v1)), (2, .ref (base + v2)), (3, .ref (base + v3)), (4, .ref (base + v4)), (5, .ref (base + v5)), (6, .ref (base + v6)), (7, .int v7)]) dX10_law_621 (by decide) rfl ?_
                refine g_sub (lv' := [(0, .ref b), (1, .ref (base + v1)), (2, .ref (base + v2)), (3, .ref (base + v3)), (4, .ref (base + v4)), (5, .ref (base + v5)), (6, .ref (base + v6)), (7, .int v7), (12, .int 0), (13, .int 0), (14, .int 0)]) [7, 8, 9, 10, 11, 12, 13, 14, 2, 1, 0] rfl ?_
                refine o_X10_law_L623 C hr hX hbl hbA hX1 KR ?_ _ v1 v2 v3 v4 v5 v6 v7 0 0 0 v100 h50 E
                · intro y51 y52 y53 y54 y55 y56 y57 y58 y59 y60 h61 E
                  refine g_aload_n C 1 dX10_law_658 rfl rfl ?_
                  refine g_iload C 8 dX10_law_659 rfl ?_
                  refine g_invI C (q := (RX8, TX8, 7)) [.int y58] dX10_law_661 cl_X10_111 cv_X8_power rfl (by decide) rfl rfl ⟨Nat.le_of_ble_eq_true rfl, Nat.le_of_ble_eq_true rfl⟩ (Nat.le_of_ble_eq_true rfl) ⟨(show 302 + 3 * min y60 400 + 0 ≤ 744374 by omega), (show 3270 + 131 * min y60 400 + 0 ≤ 6869126 by omega)⟩ rfl (fun r' h' E => o_X8_power l base D cA y51 y58 h61 r' h' E) E (fun x62 h63 E => ?_)
                  refine g_aload_n C 2 dX10_law_664 rfl rfl ?_
                  refine g_iconst C 1 dX10_law_665 rfl ?_
                  refine g_iald C dX10_law_666 E (fun x64 E => ?_)
                  refine g_iconst C 1 dX10_law_667 rfl ?_
                  refine g_icmp_ne C 675 dX10_law_668 (by decide) E (fun E => ?_) (fun E => ?_)
                  · refine g_iconst C 0 dX10_law_675 rfl ?_
                    refine g_sub (lv' := [(0, .ref b), (1, .ref (base + y51)), (2, .ref (base + y52)), (3, .ref (base + y53)), (4, .ref (base + y54)), (5, .ref (base + y55)), (6, .ref (base + y56)), (7, .int y57), (12, .int y58), (13, .int y59)]) [0, 1, 2, 3, 4, 5, 6, 7, 8, 9] rfl ?_
                    refine o_X10_law_J676 C hr hX hbl hbA hX1 KR ?_ y51 y52 y53 y54 y55 y56 y57 y58 y59 y60 x62 0 h63 E
                    · intro y65 y66 y67 y68 y69 y70 y71 y72 h73 E
                      refine g_sub (lv' := [(0, .ref b), (1, .ref (base + y65)), (2, .ref (base + y66)), (3, .ref (base + y67)), (4, .ref (base + y68)), (5, .ref (base + y69)), (6, .ref (base + y70)), (7, .int y71)]) [0, 1, 2, 3, 4, 5, 6, 7] rfl ?_
                      exact ih y65 y66 y67 y68 y69 y70 y71 y72 h73 E
                  · refine g_iconst C 1 dX10_law_671 rfl ?_
                    refine g_goto C 676 dX10_law_672 (by decide) ?_
                    refine g_sub (lv' := [(0, .ref b), (1, .ref (base + y51)), (2, .ref (base + y52)), (3, .ref (base + y53)), (4, .ref (base + y54)), (5, .ref (base + y55)), (6, .ref (base + y56)), (7, .int y57), (12, .int y58), (13, .int y59)]) [0, 1, 2, 3, 4, 5, 6, 7, 8, 9] rfl ?_
                    refine o_X10_law_J676 C hr hX hbl hbA hX1 KR ?_ y51 y52 y53 y54 y55 y56 y57 y58 y59 y60 x62 1 h63 E
                    · intro y74 y75 y76 y77 y78 y79 y80 y81 h82 E
                      refine g_sub (lv' := [(0, .ref b), (1, .ref (base + y74)), (2, .ref (base + y75)), (3, .ref (base + y76)), (4, .ref (base + y77)), (5, .ref (base + y78)), (6, .ref (base + y79)), (7, .int y80)]) [0, 1, 2, 3, 4, 5, 6, 7] rfl ?_
                      exact ih y74 y75 y76 y77 y78 y79 y80 y81 h82 E
              · refine g_iconst C 1 dX10_law_610 rfl ?_
                refine g_goto C 615 dX10_law_611 (by decide) ?_
                refine g_istore C (lv' := [(12, .int 1), (11, .int (16 * x4)), (10, .int x4), (9, .int x2), (8, .int x1), (0, .ref b), (1, .ref (base + v1)), (2, .ref (base + v2)), (3, .ref (base + v3)), (4, .ref (base + v4)), (5, .ref (base + v5)), (6, .ref (base + v6)), (7, .int v7)]) dX10_law_615 (by decide) rfl ?_
                refine g_iconst C 0 dX10_law_617 rfl ?_
                refine g_istore C (lv' := [(13, .int 0), (12, .int 1), (11, .int (16 * x4)), (10, .int x4), (9, .int x2), (8, .int x1), (0, .ref b), (1, .ref (base + v1)), (2, .ref (base + v2)), (3, .ref (base + v3)), (4, .ref (base + v4)), (5, .ref (base + v5)), (6, .ref (base + v6)), (7, .int v7)]) dX10_law_618 (by decide) rfl ?_
                refine g_iconst C 0 dX10_law_620 rfl ?_
                refine g_istore C (lv' := [(14, .int 0), (13, .int 0), (12, .int 1), (11, .int (16 * x4)), (10, .int x4), (9, .int x2), (8, .int x1), (0, .ref b), (1, .ref (base + v1)), (2, .ref (base + v2)), (3, .ref (base + v3)), (4, .ref (base + v4)), (5, .ref (base + v5)), (6, .ref (base + v6)), (7, .int v7)]) dX10_law_621 (by decide) rfl ?_
                refine g_sub (lv' := [(0, .ref b), (1, .ref (base + v1)), (2, .ref (base + v2)), (3, .ref (base + v3)), (4, .ref (base + v4)), (5, .ref (base + v5)), (6, .ref (base + v6)), (7, .int v7), (12, .int 1), (13, .int 0), (14, .int 0)]) [7, 8, 9, 10, 11, 12, 13, 14, 2, 1, 0] rfl ?_
                refine o_X10_law_L623 C hr hX hbl hbA hX1 KR ?_ _ v1 v2 v3 v4 v5 v6 v7 1 0 0 v100 h50 E
                · intro y83 y84 y85 y86 y87 y88 y89 y90 y91 y92 h93 E
                  refine g_aload_n C 1 dX10_law_658 rfl rfl ?_
                  refine g_iload C 8 dX10_law_659 rfl ?_
                  refine g_invI C (q := (RX8, TX8, 7)) [.int y90] dX10_law_661 cl_X10_111 cv_X8_power rfl (by decide) rfl rfl ⟨Nat.le_of_ble_eq_true rfl, Nat.le_of_ble_eq_true rfl⟩ (Nat.le_of_ble_eq_true rfl) ⟨(show 302 + 3 * min y92 400 + 0 ≤ 744374 by omega), (show 3270 + 131 * min y92 400 + 0 ≤ 6869126 by omega)⟩ rfl (fun r' h' E => o_X8_power l base D cA y83 y90 h93 r' h' E) E (fun x94 h95 E => ?_)
                  refine g_aload_n C 2 dX10_law_664 rfl rfl ?_
                  refine g_iconst C 1 dX10_law_665 rfl ?_
                  refine g_iald C dX10_law_666 E (fun x96 E => ?_)
                  refine g_iconst C 1 dX10_law_667 rfl ?_
                  refine g_icmp_ne C 675 dX10_law_668 (by decide) E (fun E => ?_) (fun E => ?_)
                  · refine g_iconst C 0 dX10_law_675 rfl ?_
                    refine g_sub (lv' := [(0, .ref b), (1, .ref (base + y83)), (2, .ref (base + y84)), (3, .ref (base + y85)), (4, .ref (base + y86)), (5, .ref (base + y87)), (6, .ref (base + y88)), (7, .int y89), (12, .int y90), (13, .int y91)]) [0, 1, 2, 3, 4, 5, 6, 7, 8, 9] rfl ?_
                    refine o_X10_law_J676 C hr hX hbl hbA hX1 KR ?_ y83 y84 y85 y86 y87 y88 y89 y90 y91 y92 x94 0 h95 E
                    · intro y97 y98 y99 y100 y101 y102 y103 y104 h105 E
                      refine g_sub (lv' := [(0, .ref b), (1, .ref (base + y97)), (2, .ref (base + y98)), (3, .ref (base + y99)), (4, .ref (base + y100)), (5, .ref (base + y101)), (6, .ref (base + y102)), (7, .int y103)]) [0, 1, 2, 3, 4, 5, 6, 7] rfl ?_
                      exact ih y97 y98 y99 y100 y101 y102 y103 y104 h105 E
                  · refine g_iconst C 1 dX10_law_671 rfl ?_
                    refine g_goto C 676 dX10_law_672 (by decide) ?_
                    refine g_sub (lv' := [(0, .ref b), (1, .ref (base + y83)), (2, .ref (base + y84)), (3, .ref (base + y85)), (4, .ref (base + y86)), (5, .ref (base + y87)), (6, .ref (base + y88)), (7, .int y89), (12, .int y90), (13, .int y91)]) [0, 1, 2, 3, 4, 5, 6, 7, 8, 9] rfl ?_
                    refine o_X10_law_J676 C hr hX hbl hbA hX1 KR ?_ y83 y84 y85 y86 y87 y88 y89 y90 y91 y92 x94 1 h95 E
                    · intro y106 y107 y108 y109 y110 y111 y112 y113 h114 E
                      refine g_sub (lv' := [(0, .ref b), (1, .ref (base + y106)), (2, .ref (base + y107)), (3, .ref (base + y108)), (4, .ref (base + y109)), (5, .ref (base + y110)), (6, .ref (base + y111)), (7, .int y112)]) [0, 1, 2, 3, 4, 5, 6, 7] rfl ?_
                      exact ih y106 y107 y108 y109 y110 y111 y112 y113 h114 E
          · refine g_aload_n C 5 dX10_law_575 rfl rfl ?_
            refine g_iload C 3 dX10_law_576 rfl ?_
            refine g_iconst C 3 dX10_law_578 rfl ?_
            refine g_ishr C dX10_law_579 ?_
            refine g_aload_n C 6 dX10_law_580 rfl rfl ?_
            refine g_aload_n C 7 dX10_law_581 rfl rfl ?_
            refine g_aload C 9 dX10_law_582 rfl ?_
            refine g_staI C [.ref (base + v1), .int (shrI x1 3), .ref (base + v2), .ref (base + v3), .ref (base + v5)] dX10_law_584 cl_X10_107 cs_X10_haggled rfl rfl ⟨Nat.le_of_ble_eq_true rfl, Nat.le_of_ble_eq_true rfl⟩ (Nat.le_of_ble_eq_true rfl) ⟨(show 302 + 3 * min v100 400 + 0 ≤ 744374 by omega), (show 3270 + 131 * min v100 400 + 0 ≤ 6869126 by omega)⟩ rfl (fun r' h' E => o_X10_haggled l base D cA v1 (shrI x1 3) v2 v3 v5 h5 r' h' E) E (fun x115 h116 E => ?_)
            refine g_if_ne C 970 dX10_law_587 (by decide) E (fun E => ?_) (fun E => ?_)
            · refine g_sub (lv' := [(0, .ref b), (1, .ref (base + v1)), (2, .ref (base + v2)), (3, .ref (base + v3)), (4, .ref (base + v4)), (5, .ref (base + v5)), (6, .ref (base + v6)), (7, .int v7)]) [4, 5, 6, 7, 8, 9, 10, 11] rfl ?_
              refine o_X10_law_J970 C hr hX hbl hbA hX1 KR ?_ v1 v2 v3 v4 v5 v6 v7 v100 h116 E
              · intro y117 y118 y119 y120 y121 y122 y123 y124 h125 E
                refine g_sub (lv' := [(0, .ref b), (1, .ref (base + y117)), (2, .ref (base + y118)), (3, .ref (base + y119)), (4, .ref (base + y120)), (5, .ref (base + y121)), (6, .ref (base + y122)), (7, .int y123)]) [0, 1, 2, 3, 4, 5, 6, 7] rfl ?_
                exact ih y117 y118 y119 y120 y121 y122 y123 y124 h125 E
            · refine g_iconst C 0 dX10_law_590 rfl ?_
              exact absurd E (ret0_no hX1)
        · refine g_iconst C 1 dX10_law_469 rfl ?_
          refine g_iload C 3 dX10_law_470 rfl ?_
          refine g_iconst C 5 dX10_law_472 rfl ?_
          refine g_ishr C dX10_law_473 ?_
          refine g_bipush C 9 dX10_law_474 rfl ?_
          refine g_staI C [.int (shrI x1 5), .int 9] dX10_law_476 cl_X10_57 cs_X10_low rfl rfl ⟨Nat.le_of_ble_eq_true rfl, Nat.le_of_ble_eq_true rfl⟩ (Nat.le_of_ble_eq_true rfl) ⟨(show 302 + 3 * min v100 400 + 0 ≤ 744374 by omega), (show 3270 + 131 * min v100 400 + 0 ≤ 6869126 by omega)⟩ rfl (fun r' h' E => o_X10_low l base D cA (shrI x1 5) 9 h5 r' h' E) E (fun x126 h127 E => ?_)
          refine g_iadd C dX10_law_479 ?_
          refine g_istore C (lv' := [(12, .int (1 + x126)), (11, .int (16 * x4)), (10, .int x4), (9, .int x2), (8, .int x1), (0, .ref b), (1, .ref (base + v1)), (2, .ref (base + v2)), (3, .ref (base + v3)), (4, .ref (base + v4)), (5, .ref (base + v5)), (6, .ref (base + v6)), (7, .int v7)]) dX10_law_480 (by decide) rfl ?_
          refine g_aload_n C 6 dX10_law_482 rfl rfl ?_
          refine g_iload C 2 dX10_law_483 rfl ?_
          refine g_invI C (q := (RX8, TX8, 7)) [.int x4] dX10_law_485 cl_X10_97 cv_X8_heatNext rfl (by decide) rfl rfl ⟨Nat.le_of_ble_eq_true rfl, Nat.le_of_ble_eq_true rfl⟩ (Nat.le_of_ble_eq_true rfl) ⟨(show 302 + 3 * min v100 400 + 0 ≤ 744374 by omega), (show 3270 + 131 * min v100 400 + 0 ≤ 6869126 by omega)⟩ rfl (fun r' h' E => o_X8_heatNext l base D cA v1 x4 h127 r' h' E) E (fun x128 h129 E => ?_)
          refine g_istore C (lv' := [(13, .int x128), (12, .int (1 + x126)), (11, .int (16 * x4)), (10, .int x4), (9, .int x2), (8, .int x1), (0, .ref b), (1, .ref (base + v1)), (2, .ref (base + v2)), (3, .ref (base + v3)), (4, .ref (base + v4)), (5, .ref (base + v5)), (6, .ref (base + v6)), (7, .int v7)]) dX10_law_488 (by decide) rfl ?_
          refine g_iconst C 0 dX10_law_490 rfl ?_
          refine g_istore C (lv' := [(14, .int 0), (13, .int x128), (12, .int (1 + x126)), (11, .int (16 * x4)), (10, .int x4), (9, .int x2), (8, .int x1), (0, .ref b), (1, .ref (base + v1)), (2, .ref (base + v2)), (3, .ref (base + v3)), (4, .ref (base + v4)), (5, .ref (base + v5)), (6, .ref (base + v6)), (7, .int v7)]) dX10_law_491 (by decide) rfl ?_
          refine g_iconst C 0 dX10_law_493 rfl ?_
          refine g_istore C (lv' := [(15, .int 0), (14, .int 0), (13, .int x128), (12, .int (1 + x126)), (11, .int (16 * x4)), (10, .int x4), (9, .int x2), (8, .int x1), (0, .ref b), (1, .ref (base + v1)), (2, .ref (base + v2)), (3, .ref (base + v3)), (4, .ref (base + v4)), (5, .ref (base + v5)), (6, .ref (base + v6)), (7, .int v7)]) dX10_law_494 (by decide) rfl ?_
          refine g_sub (lv' := [(0, .ref b), (1, .ref (base + v1)), (2, .ref (base + v2)), (3, .ref (base + v3)), (4, .ref (base + v4)), (5, .ref (base + v5)), (6, .ref (base + v6)), (7, .int v7), (10, .int x4), (12, .int (1 + x126)), (13, .int x128), (14, .int 0), (15, .int 0)]) [8, 9, 10, 11, 12, 13, 14, 15, 5, 3, 2, 1, 0] rfl ?_
          refine o_X10_law_L496 C hr hX hbl hbA hX1 KR ?_ _ v1 v2 v3 v4 v5 v6 v7 x4 (1 + x126) x128 0 0 v100 h129 E
          · intro y130 y131 y132 y133 y134 y135 y136 y137 y138 y139 h140 E
            refine g_aload_n C 1 dX10_law_553 rfl rfl ?_
            refine g_iload C 8 dX10_law_554 rfl ?_
            refine g_invI C (q := (RX8, TX8, 7)) [.int y137] dX10_law_556 cl_X10_104 cv_X8_pass rfl (by decide) rfl rfl ⟨Nat.le_of_ble_eq_true rfl, Nat.le_of_ble_eq_true rfl⟩ (Nat.le_of_ble_eq_true rfl) ⟨(show 302 + 3 * min y139 400 + 0 ≤ 744374 by omega), (show 3270 + 131 * min y139 400 + 0 ≤ 6869126 by omega)⟩ rfl (fun r' h' E => o_X8_pass l base D cA y130 y137 h140 r' h' E) E (fun x141 h142 E => ?_)
            refine g_iload C 9 dX10_law_559 rfl ?_
            refine g_icmp_eq C 566 dX10_law_561 (by decide) E (fun E => ?_) (fun E => ?_)
            · refine g_goto C 970 dX10_law_566 (by decide) ?_
              refine g_sub (lv' := [(0, .ref b), (1, .ref (base + y130)), (2, .ref (base + y131)), (3, .ref (base + y132)), (4, .ref (base + y133)), (5, .ref (base + y134)), (6, .ref (base + y135)), (7, .int y136)]) [0, 1, 2, 3, 4, 5, 6, 7] rfl ?_
              refine o_X10_law_J970 C hr hX hbl hbA hX1 KR ?_ y130 y131 y132 y133 y134 y135 y136 y139 h142 E
              · intro y143 y144 y145 y146 y147 y148 y149 y150 h151 E
                refine g_sub (lv' := [(0, .ref b), (1, .ref (base + y143)), (2, .ref (base + y144)), (3, .ref (base + y145)), (4, .ref (base + y146)), (5, .ref (base + y147)), (6, .ref (base + y148)), (7, .int y149)]) [0, 1, 2, 3, 4, 5, 6, 7] rfl ?_
                exact ih y143 y144 y145 y146 y147 y148 y149 y150 h151 E
            · refine g_iconst C 0 dX10_law_564 rfl ?_
              exact absurd E (ret0_no hX1)
      · refine g_aload_n C 6 dX10_law_340 rfl rfl ?_
        refine g_iconst C 1 dX10_law_341 rfl ?_
        refine g_iald C dX10_law_342 E (fun x152 E => ?_)
        refine g_iconst C 1 dX10_law_343 rfl ?_
        refine g_icmp_ne C 370 dX10_law_344 (by decide) E (fun E => ?_) (fun E => ?_)
        · refine g_sub (lv' := [(0, .ref b), (1, .ref (base + v1)), (2, .ref (base + v2)), (3, .ref (base + v3)), (4, .ref (base + v4)), (5, .ref (base + v5)), (6, .ref (base + v6)), (7, .int v7), (10, .int x4), (11, .int (16 * x4))]) [4, 5, 6, 7, 8, 9, 10, 11, 1, 0] rfl ?_
          refine o_X10_law_J370 C hr hX hbl hbA hX1 KR ?_ v1 v2 v3 v4 v5 v6 v7 x4 (16 * x4) v100 h5 E
          · intro y153 y154 y155 y156 y157 y158 y159 y160 h161 E
            refine g_sub (lv' := [(0, .ref b), (1, .ref (base + y153)), (2, .ref (base + y154)), (3, .ref (base + y155)), (4, .ref (base + y156)), (5, .ref (base + y157)), (6, .ref (base + y158)), (7, .int y159)]) [0, 1, 2, 3, 4, 5, 6, 7] rfl ?_
            exact ih y153 y154 y155 y156 y157 y158 y159 y160 h161 E
        · refine g_aload_n C 7 dX10_law_347 rfl rfl ?_
          refine g_iload C 0 dX10_law_348 rfl ?_
          refine g_iconst C 5 dX10_law_350 rfl ?_
          refine g_iadd C dX10_law_351 ?_
          refine g_iald C dX10_law_352 E (fun x162 E => ?_)
          refine g_if_ne C 370 dX10_law_353 (by decide) E (fun E => ?_) (fun E => ?_)
          · refine g_sub (lv' := [(0, .ref b), (1, .ref (base + v1)), (2, .ref (base + v2)), (3, .ref (base + v3)), (4, .ref (base + v4)), (5, .ref (base + v5)), (6, .ref (base + v6)), (7, .int v7), (10, .int x4), (11, .int (16 * x4))]) [4, 5, 6, 7, 8, 9, 10, 11, 1, 0] rfl ?_
            refine o_X10_law_J370 C hr hX hbl hbA hX1 KR ?_ v1 v2 v3 v4 v5 v6 v7 x4 (16 * x4) v100 h5 E
            · intro y163 y164 y165 y166 y167 y168 y169 y170 h171 E
              refine g_sub (lv' := [(0, .ref b), (1, .ref (base + y163)), (2, .ref (base + y164)), (3, .ref (base + y165)), (4, .ref (base + y166)), (5, .ref (base + y167)), (6, .ref (base + y168)), (7, .int y169)]) [0, 1, 2, 3, 4, 5, 6, 7] rfl ?_
              exact ih y163 y164 y165 y166 y167 y168 y169 y170 h171 E
          · refine g_aload_n C 7 dX10_law_356 rfl rfl ?_
            refine g_iload C 0 dX10_law_357 rfl ?_
            refine g_bipush C 9 dX10_law_359 rfl ?_
            refine g_iadd C dX10_law_361 ?_
            refine g_iald C dX10_law_362 E (fun x172 E => ?_)
            refine g_if_eq C 370 dX10_law_363 (by decide) E (fun E => ?_) (fun E => ?_)
            · refine g_sub (lv' := [(0, .ref b), (1, .ref (base + v1)), (2, .ref (base + v2)), (3, .ref (base + v3)), (4, .ref (base + v4)), (5, .ref (base + v5)), (6, .ref (base + v6)), (7, .int v7), (10, .int x4), (11, .int (16 * x4))]) [4, 5, 6, 7, 8, 9, 10, 11, 1, 0] rfl ?_
              refine o_X10_law_J370 C hr hX hbl hbA hX1 KR ?_ v1 v2 v3 v4 v5 v6 v7 x4 (16 * x4) v100 h5 E
              · intro y173 y174 y175 y176 y177 y178 y179 y180 h181 E
                refine g_sub (lv' := [(0, .ref b), (1, .ref (base + y173)), (2, .ref (base + y174)), (3, .ref (base + y175)), (4, .ref (base + y176)), (5, .ref (base + y177)), (6, .ref (base + y178)), (7, .int y179)]) [0, 1, 2, 3, 4, 5, 6, 7] rfl ?_
                exact ih y173 y174 y175 y176 y177 y178 y179 y180 h181 E
            · refine g_iconst C 1 dX10_law_366 rfl ?_
              refine g_goto C 371 dX10_law_367 (by decide) ?_
              refine g_sub (lv' := [(0, .ref b), (1, .ref (base + v1)), (2, .ref (base + v2)), (3, .ref (base + v3)), (4, .ref (base + v4)), (5, .ref (base + v5)), (6, .ref (base + v6)), (7, .int v7), (10, .int x4), (11, .int (16 * x4))]) [4, 5, 6, 7, 8, 9, 10, 11, 1, 0] rfl ?_
              refine o_X10_law_J371 C hr hX hbl hbA hX1 KR ?_ v1 v2 v3 v4 v5 v6 v7 x4 (16 * x4) v100 1 h5 E
              · intro y182 y183 y184 y185 y186 y187 y188 y189 h190 E
                refine g_sub (lv' := [(0, .ref b), (1, .ref (base + y182)), (2, .ref (base + y183)), (3, .ref (base + y184)), (4, .ref (base + y185)), (5, .ref (base + y186)), (6, .ref (base + y187)), (7, .int y188)]) [0, 1, 2, 3, 4, 5, 6, 7] rfl ?_
                exact ih y182 y183 y184 y185 y186 y187 y188 y189 h190 E
set_option maxRecDepth 100000 in
set_option maxHeartbeats 4000000 in
theorem o_X10_law_J114 {l : Launch} {base : Nat} {D : va_G} {cA : Nat → ClassId} {p : Program} {e : Env} {s : State} {m : MethodId} {args : Array Value} {below : List Frame} {meth : Method} {c : Code} (C : GC base D cA p s m args meth c cX10_law 16 RX10) (hr : meth.sig.returnType = (some .boolean))  {b L : Nat} {xs : Nat → Int32} (hX : va_X b L xs s s.heap) (hbl : b < s.heap.size) (hbA : ¬ AA base b) {Q : State → Prop} {X : Int32 × Hp} (hX1 : X.1 = 1) (KR : ∀ (h : Hp) (lv : List (Nat × Value)), GW base D cA p l e room_1 s m args below meth c Q 16 h 744374 6869126 992 lv [.int 1]) : ∀ (v1 : Nat) (v2 : Nat) (v3 : Nat) (v4 : Nat) (v5 : Nat) (v6 : Nat) (v100 : Nat) (h : Hp), s_X10_law_J114 L xs v1 v2 v3 v4 v5 v6 v100 h = some X → GW base D cA p l e room_1 s m args below meth c Q 16 h (302 + 3 * min v100 400) (3270 + 131 * min v100 400) 114 [(0, .ref b), (1, .ref (base + v1)), (2, .ref (base + v2)), (3, .ref (base + v3)), (4, .ref (base + v4)), (5, .ref (base + v5)), (6, .ref (base + v6))] [] := by
  intro v1 v2 v3 v4 v5 v6 v100 h E
  unfold s_X10_law_J114 at E
  refine g_aload_n C 2 dX10_law_114 rfl rfl ?_
  refine g_iconst C 4 dX10_law_115 rfl ?_
  refine g_iald C dX10_law_116 E (fun x1 E => ?_)
  refine g_sipush C 300 dX10_law_117 rfl ?_
  refine g_icmp_eq C 139 dX10_law_120 (by decide) E (fun E => ?_) (fun E => ?_)
  · refine g_iconst C 0 dX10_law_139 rfl ?_
    refine g_istore C (lv' := [(7, .int 0), (0, .ref b), (1, .ref (base + v1)), (2, .ref (base + v2)), (3, .ref (base + v3)), (4, .ref (base + v4)), (5, .ref (base + v5)), (6, .ref (base + v6))]) dX10_law_140 (by decide) rfl ?_
    refine g_sub (lv' := [(0, .ref b), (1, .ref (base + v1)), (2, .ref (base + v2)), (3, .ref (base + v3)), (4, .ref (base + v4)), (5, .ref (base + v5)), (6, .ref (base + v6)), (7, .int 0)]) [1, 2, 3, 4, 5, 6, 7, 0] rfl ?_
    refine o_X10_law_L142 C hr hX hbl hbA hX1 KR ?_ _ v1 v2 v3 v4 v5 v6 0 v100 h E
    · intro y2 y3 y4 y5 y6 y7 y8 h9 E
      refine g_iconst C 0 dX10_law_287 rfl ?_
      refine g_istore C (lv' := [(7, .int 0), (0, .ref b), (1, .ref (base + y2)), (2, .ref (base + y3)), (3, .ref (base + y4)), (4, .ref (base + y5)), (5, .ref (base + y6)), (6, .ref (base + y7))]) dX10_law_288 (by decide) rfl ?_
      refine g_sub (lv' := [(0, .ref b), (1, .ref (base + y2)), (2, .ref (base + y3)), (3, .ref (base + y4)), (4, .ref (base + y5)), (5, .ref (base + y6)), (6, .ref (base + y7)), (7, .int 0)]) [1, 2, 3, 4, 5, 6, 7, 0] rfl ?_
      exact o_X10_law_L290 C hr hX hbl hbA hX1 KR _ y2 y3 y4 y5 y6 y7 0 y8 h9 E
  · refine g_aload_n C 1 dX10_law_123 rfl rfl ?_
    refine g_iconst C 2 dX10_law_124 rfl ?_
    refine g_aload_n C 2 dX10_law_125 rfl rfl ?_
    refine g_iconst C 4 dX10_law_126 rfl ?_
    refine g_iald C dX10_law_127 E (fun x10 E => ?_)
    refine g_invI C (q := (RX8, TX8, 7)) [.int 2, .int x10] dX10_law_128 cl_X10_83 cv_X8_set rfl (by decide) rfl rfl ⟨Nat.le_of_ble_eq_true rfl, Nat.le_of_ble_eq_true rfl⟩ (Nat.le_of_ble_eq_true rfl) ⟨(show 302 + 3 * min v100 400 + 0 ≤ 744374 by omega), (show 3270 + 131 * min v100 400 + 0 ≤ 6869126 by omega)⟩ rfl (fun r' h' E => o_X8_set l base D cA v1 2 x10 h r' h' E) E (fun x11 h12 E => ?_)
    refine g_sipush C 300 dX10_law_131 rfl ?_
    refine g_icmp_eq C 139 dX10_law_134 (by decide) E (fun E => ?_) (fun E => ?_)
    · refine g_iconst C 0 dX10_law_139 rfl ?_
      refine g_istore C (lv' := [(7, .int 0), (0, .ref b), (1, .ref (base + v1)), (2, .ref (base + v2)), (3, .ref (base + v3)), (4, .ref (base + v4)), (5, .ref (base + v5)), (6, .ref (base + v6))]) dX10_law_140 (by decide) rfl ?_
      refine g_sub (lv' := [(0, .ref b), (1, .ref (base + v1)), (2, .ref (base + v2)), (3, .ref (base + v3)), (4, .ref (base + v4)), (5, .ref (base + v5)), (6, .ref (base + v6)), (7, .int 0)]) [1, 2, 3, 4, 5, 6, 7, 0] rfl ?_
      refine o_X10_law_L142 C hr hX hbl hbA hX1 KR ?_ _ v1 v2 v3 v4 v5 v6 0 v100 h12 E
      · intro y13 y14 y15 y16 y17 y18 y19 h20 E
        refine g_iconst C 0 dX10_law_287 rfl ?_
        refine g_istore C (lv' := [(7, .int 0), (0, .ref b), (1, .ref (base + y13)), (2, .ref (base + y14)), (3, .ref (base + y15)), (4, .ref (base + y16)), (5, .ref (base + y17)), (6, .ref (base + y18))]) dX10_law_288 (by decide) rfl ?_
        refine g_sub (lv' := [(0, .ref b), (1, .ref (base + y13)), (2, .ref (base + y14)), (3, .ref (base + y15)), (4, .ref (base + y16)), (5, .ref (base + y17)), (6, .ref (base + y18)), (7, .int 0)]) [1, 2, 3, 4, 5, 6, 7, 0] rfl ?_
        exact o_X10_law_L290 C hr hX hbl hbA hX1 KR _ y13 y14 y15 y16 y17 y18 0 y19 h20 E
    · refine g_iconst C 0 dX10_law_137 rfl ?_
      exact absurd E (ret0_no hX1)
set_option maxRecDepth 100000 in
set_option maxHeartbeats 4000000 in
theorem o_X10_law_J35 {l : Launch} {base : Nat} {D : va_G} {cA : Nat → ClassId} {p : Program} {e : Env} {s : State} {m : MethodId} {args : Array Value} {below : List Frame} {meth : Method} {c : Code} (C : GC base D cA p s m args meth c cX10_law 16 RX10) (hr : meth.sig.returnType = (some .boolean))  {b L : Nat} {xs : Nat → Int32} (hX : va_X b L xs s s.heap) (hbl : b < s.heap.size) (hbA : ¬ AA base b) {Q : State → Prop} {X : Int32 × Hp} (hX1 : X.1 = 1) (KR : ∀ (h : Hp) (lv : List (Nat × Value)), GW base D cA p l e room_1 s m args below meth c Q 16 h 744374 6869126 992 lv [.int 1]) : ∀ (v1 : Nat) (v2 : Nat) (v3 : Nat) (v4 : Nat) (v5 : Nat) (v6 : Nat) (v100 : Nat) (h : Hp), s_X10_law_J35 L xs v1 v2 v3 v4 v5 v6 v100 h = some X → GW base D cA p l e room_1 s m args below meth c Q 16 h (302 + 3 * min v100 400) (3270 + 131 * min v100 400) 35 [(0, .ref b), (1, .ref (base + v1)), (2, .ref (base + v2)), (3, .ref (base + v3)), (4, .ref (base + v4)), (5, .ref (base + v5)), (6, .ref (base + v6))] [] := by
  intro v1 v2 v3 v4 v5 v6 v100 h E
  unfold s_X10_law_J35 at E
  refine g_aload_n C 2 dX10_law_35 rfl rfl ?_
  refine g_iconst C 1 dX10_law_36 rfl ?_
  refine g_iconst C 1 dX10_law_37 rfl ?_
  refine g_iast C dX10_law_38 E (fun h1 E => ?_)
  refine g_aload_n C 2 dX10_law_39 rfl rfl ?_
  refine g_iconst C 2 dX10_law_40 rfl ?_
  refine g_sipush C 20000 dX10_law_41 rfl ?_
  refine g_iast C dX10_law_44 E (fun h2 E => ?_)
  refine g_aload_n C 2 dX10_law_45 rfl rfl ?_
  refine g_iconst C 3 dX10_law_46 rfl ?_
  refine g_aload_n C 0 dX10_law_47 rfl rfl ?_
  refine g_iconst C 0 dX10_law_48 rfl ?_
  refine g_cell C hX hbl hbA dX10_law_49 cl_X10_79 cs_X10_cell rfl ⟨Nat.le_of_ble_eq_true rfl, Nat.le_of_ble_eq_true rfl⟩ (Nat.le_of_ble_eq_true rfl) ((show 302 + 3 * min v100 400 + 0 ≤ 744374 by omega)) ((show 3270 + 131 * min v100 400 + 0 ≤ 6869126 by omega)) E (fun x3 E => ?_)
  refine g_sipush C 300 dX10_law_52 rfl ?_
  refine g_staI C [.int x3, .int 300] dX10_law_55 cl_X10_57 cs_X10_low rfl rfl ⟨Nat.le_of_ble_eq_true rfl, Nat.le_of_ble_eq_true rfl⟩ (Nat.le_of_ble_eq_true rfl) ⟨(show 302 + 3 * min v100 400 + 0 ≤ 744374 by omega), (show 3270 + 131 * min v100 400 + 0 ≤ 6869126 by omega)⟩ rfl (fun r' h' E => o_X10_low l base D cA x3 300 h2 r' h' E) E (fun x4 h5 E => ?_)
  refine g_iast C dX10_law_58 E (fun h6 E => ?_)
  refine g_aload_n C 2 dX10_law_59 rfl rfl ?_
  refine g_iconst C 4 dX10_law_60 rfl ?_
  refine g_bipush C 10 dX10_law_61 rfl ?_
  refine g_aload_n C 0 dX10_law_63 rfl rfl ?_
  refine g_iconst C 0 dX10_law_64 rfl ?_
  refine g_cell C hX hbl hbA dX10_law_65 cl_X10_79 cs_X10_cell rfl ⟨Nat.le_of_ble_eq_true rfl, Nat.le_of_ble_eq_true rfl⟩ (Nat.le_of_ble_eq_true rfl) ((show 302 + 3 * min v100 400 + 0 ≤ 744374 by omega)) ((show 3270 + 131 * min v100 400 + 0 ≤ 6869126 by omega)) E (fun x7 E => ?_)
  refine g_bipush C 9 dX10_law_68 rfl ?_
  refine g_ishr C dX10_law_70 ?_
  refine g_sipush C 500 dX10_law_71 rfl ?_
  refine g_staI C [.int (shrI x7 9), .int 500] dX10_law_74 cl_X10_57 cs_X10_low rfl rfl ⟨Nat.le_of_ble_eq_true rfl, Nat.le_of_ble_eq_true rfl⟩ (Nat.le_of_ble_eq_true rfl) ⟨(show 302 + 3 * min v100 400 + 0 ≤ 744374 by omega), (show 3270 + 131 * min v100 400 + 0 ≤ 6869126 by omega)⟩ rfl (fun r' h' E => o_X10_low l base D cA (shrI x7 9) 500 h6 r' h' E) E (fun x8 h9 E => ?_)
  refine g_iadd C dX10_law_77 ?_
  refine g_iast C dX10_law_78 E (fun h10 E => ?_)
  refine g_aload_n C 2 dX10_law_79 rfl rfl ?_
  refine g_iconst C 5 dX10_law_80 rfl ?_
  refine g_bipush C 40 dX10_law_81 rfl ?_
  refine g_iast C dX10_law_83 E (fun h11 E => ?_)
  refine g_aload_n C 2 dX10_law_84 rfl rfl ?_
  refine g_bipush C 6 dX10_law_85 rfl ?_
  refine g_sipush C 10000 dX10_law_87 rfl ?_
  refine g_iast C dX10_law_90 E (fun h12 E => ?_)
  refine g_aload_n C 2 dX10_law_91 rfl rfl ?_
  refine g_iconst C 3 dX10_law_92 rfl ?_
  refine g_iald C dX10_law_93 E (fun x13 E => ?_)
  refine g_sipush C 200 dX10_law_94 rfl ?_
  refine g_icmp_eq C 114 dX10_law_97 (by decide) E (fun E => ?_) (fun E => ?_)
  · refine g_sub (lv' := [(0, .ref b), (1, .ref (base + v1)), (2, .ref (base + v2)), (3, .ref (base + v3)), (4, .ref (base + v4)), (5, .ref (base + v5)), (6, .ref (base + v6))]) [0, 1, 2, 3, 4, 5, 6] rfl ?_
    exact o_X10_law_J114 C hr hX hbl hbA hX1 KR v1 v2 v3 v4 v5 v6 v100 h12 E
  · refine g_aload_n C 1 dX10_law_100 rfl rfl ?_
    refine g_iconst C 1 dX10_law_101 rfl ?_
    refine g_aload_n C 2 dX10_law_102 rfl rfl ?_
    refine g_iconst C 3 dX10_law_103 rfl ?_
    refine g_iald C dX10_law_104 E (fun x14 E => ?_)
    refine g_invI C (q := (RX8, TX8, 7)) [.int 1, .int x14] dX10_law_105 cl_X10_83 cv_X8_set rfl (by decide) rfl rfl ⟨Nat.le_of_ble_eq_true rfl, Nat.le_of_ble_eq_true rfl⟩ (Nat.le_of_ble_eq_true rfl) ⟨(show 302 + 3 * min v100 400 + 0 ≤ 744374 by omega), (show 3270 + 131 * min v100 400 + 0 ≤ 6869126 by omega)⟩ rfl (fun r' h' E => o_X8_set l base D cA v1 1 x14 h12 r' h' E) E (fun x15 h16 E => ?_)
    refine g_sipush C 200 dX10_law_108 rfl ?_
    refine g_icmp_ne C 137 dX10_law_111 (by decide) E (fun E => ?_) (fun E => ?_)
    · refine g_iconst C 0 dX10_law_137 rfl ?_
      exact absurd E (ret0_no hX1)
    · refine g_sub (lv' := [(0, .ref b), (1, .ref (base + v1)), (2, .ref (base + v2)), (3, .ref (base + v3)), (4, .ref (base + v4)), (5, .ref (base + v5)), (6, .ref (base + v6))]) [0, 1, 2, 3, 4, 5, 6] rfl ?_
      exact o_X10_law_J114 C hr hX hbl hbA hX1 KR v1 v2 v3 v4 v5 v6 v100 h16 E
