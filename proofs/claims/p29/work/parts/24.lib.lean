/-! lookups in an updated heap; small numbers -/
theorem hT_sI (h : Hp) (a k : Nat) (v : Int32) : hT (sI h a k v) = hT h := rfl
theorem hT_sL (h : Hp) (a k : Nat) (v : Int64) : hT (sL h a k v) = hT h := rfl
theorem hT_sR (h : Hp) (a k : Nat) (v : Nat) : hT (sR h a k v) = hT h := rfl
theorem hN_sI (h : Hp) (a k : Nat) (v : Int32) : hN (sI h a k v) = hN h := rfl
theorem hN_sL (h : Hp) (a k : Nat) (v : Int64) : hN (sL h a k v) = hN h := rfl
theorem hN_sR (h : Hp) (a k : Nat) (v : Nat) : hN (sR h a k v) = hN h := rfl
theorem hR_sI (h : Hp) (a k : Nat) (v : Int32) : hR (sI h a k v) = hR h := rfl
theorem hR_sL (h : Hp) (a k : Nat) (v : Int64) : hR (sL h a k v) = hR h := rfl
theorem hI_sL (h : Hp) (a k : Nat) (v : Int64) : hI (sL h a k v) = hI h := rfl
theorem hI_sR (h : Hp) (a k : Nat) (v : Nat) : hI (sR h a k v) = hI h := rfl
theorem hL_sI (h : Hp) (a k : Nat) (v : Int32) : hL (sI h a k v) = hL h := rfl
theorem hL_sR (h : Hp) (a k : Nat) (v : Nat) : hL (sR h a k v) = hL h := rfl
theorem hI_sI (h : Hp) (a k : Nat) (v : Int32) (b j : Nat) : hI (sI h a k v) b j = if b = a ∧ j = k then v else hI h b j := rfl
theorem hL_sL (h : Hp) (a k : Nat) (v : Int64) (b j : Nat) : hL (sL h a k v) b j = if b = a ∧ j = k then v else hL h b j := rfl
theorem hR_sR (h : Hp) (a k : Nat) (v : Nat) (b j : Nat) : hR (sR h a k v) b j = if b = a ∧ j = k then v else hR h b j := rfl
theorem hI_sIn (h : Hp) (a k : Nat) (v : Int32) (b : Nat) (hb : b ≠ a) : hI (sI h a k v) b = hI h b := up2_ne _ _ _ hb
theorem hL_sLn (h : Hp) (a k : Nat) (v : Int64) (b : Nat) (hb : b ≠ a) : hL (sL h a k v) b = hL h b := up2_ne _ _ _ hb
theorem hR_sRn (h : Hp) (a k : Nat) (v : Nat) (b : Nat) (hb : b ≠ a) : hR (sR h a k v) b = hR h b := up2_ne _ _ _ hb
theorem cl_0 : (0 : Int32).toNatClampNeg = 0 := by decide
theorem cl_1 : (1 : Int32).toNatClampNeg = 1 := by decide
theorem cl_2 : (2 : Int32).toNatClampNeg = 2 := by decide
theorem cl_3 : (3 : Int32).toNatClampNeg = 3 := by decide
theorem cl_4 : (4 : Int32).toNatClampNeg = 4 := by decide
theorem cl_5 : (5 : Int32).toNatClampNeg = 5 := by decide
theorem cl_6 : (6 : Int32).toNatClampNeg = 6 := by decide
theorem cl_7 : (7 : Int32).toNatClampNeg = 7 := by decide
theorem cl_8 : (8 : Int32).toNatClampNeg = 8 := by decide
theorem cl_9 : (9 : Int32).toNatClampNeg = 9 := by decide
theorem cl_10 : (10 : Int32).toNatClampNeg = 10 := by decide
theorem cl_11 : (11 : Int32).toNatClampNeg = 11 := by decide
theorem cl_12 : (12 : Int32).toNatClampNeg = 12 := by decide
theorem cl_13 : (13 : Int32).toNatClampNeg = 13 := by decide
theorem cl_14 : (14 : Int32).toNatClampNeg = 14 := by decide
theorem cl_15 : (15 : Int32).toNatClampNeg = 15 := by decide
theorem cl_16 : (16 : Int32).toNatClampNeg = 16 := by decide
theorem cl_17 : (17 : Int32).toNatClampNeg = 17 := by decide
theorem cl_18 : (18 : Int32).toNatClampNeg = 18 := by decide
theorem cl_19 : (19 : Int32).toNatClampNeg = 19 := by decide
theorem cl_20 : (20 : Int32).toNatClampNeg = 20 := by decide
theorem cl_21 : (21 : Int32).toNatClampNeg = 21 := by decide
theorem cl_22 : (22 : Int32).toNatClampNeg = 22 := by decide
theorem cl_23 : (23 : Int32).toNatClampNeg = 23 := by decide
theorem cl_24 : (24 : Int32).toNatClampNeg = 24 := by decide
theorem cl_25 : (25 : Int32).toNatClampNeg = 25 := by decide
theorem cl_26 : (26 : Int32).toNatClampNeg = 26 := by decide
theorem cl_27 : (27 : Int32).toNatClampNeg = 27 := by decide
theorem cl_28 : (28 : Int32).toNatClampNeg = 28 := by decide
theorem cl_29 : (29 : Int32).toNatClampNeg = 29 := by decide
theorem cl_30 : (30 : Int32).toNatClampNeg = 30 := by decide
theorem cl_31 : (31 : Int32).toNatClampNeg = 31 := by decide
theorem cl_32 : (32 : Int32).toNatClampNeg = 32 := by decide
theorem cl_33 : (33 : Int32).toNatClampNeg = 33 := by decide
theorem cl_34 : (34 : Int32).toNatClampNeg = 34 := by decide
theorem cl_35 : (35 : Int32).toNatClampNeg = 35 := by decide
theorem cl_36 : (36 : Int32).toNatClampNeg = 36 := by decide
theorem cl_37 : (37 : Int32).toNatClampNeg = 37 := by decide
theorem cl_38 : (38 : Int32).toNatClampNeg = 38 := by decide
theorem cl_39 : (39 : Int32).toNatClampNeg = 39 := by decide
theorem cl_40 : (40 : Int32).toNatClampNeg = 40 := by decide
theorem cl_41 : (41 : Int32).toNatClampNeg = 41 := by decide
theorem cl_42 : (42 : Int32).toNatClampNeg = 42 := by decide
theorem cl_43 : (43 : Int32).toNatClampNeg = 43 := by decide
theorem cl_44 : (44 : Int32).toNatClampNeg = 44 := by decide
theorem cl_45 : (45 : Int32).toNatClampNeg = 45 := by decide
theorem cl_46 : (46 : Int32).toNatClampNeg = 46 := by decide
theorem cl_47 : (47 : Int32).toNatClampNeg = 47 := by decide
theorem cl_48 : (48 : Int32).toNatClampNeg = 48 := by decide
theorem cl_49 : (49 : Int32).toNatClampNeg = 49 := by decide
theorem cl_50 : (50 : Int32).toNatClampNeg = 50 := by decide
theorem cl_51 : (51 : Int32).toNatClampNeg = 51 := by decide
theorem cl_52 : (52 : Int32).toNatClampNeg = 52 := by decide
theorem cl_53 : (53 : Int32).toNatClampNeg = 53 := by decide
theorem cl_54 : (54 : Int32).toNatClampNeg = 54 := by decide
theorem cl_55 : (55 : Int32).toNatClampNeg = 55 := by decide
theorem cl_56 : (56 : Int32).toNatClampNeg = 56 := by decide
theorem cl_57 : (57 : Int32).toNatClampNeg = 57 := by decide
theorem cl_58 : (58 : Int32).toNatClampNeg = 58 := by decide
theorem cl_59 : (59 : Int32).toNatClampNeg = 59 := by decide
theorem cl_60 : (60 : Int32).toNatClampNeg = 60 := by decide
theorem cl_61 : (61 : Int32).toNatClampNeg = 61 := by decide
theorem cl_62 : (62 : Int32).toNatClampNeg = 62 := by decide
theorem cl_63 : (63 : Int32).toNatClampNeg = 63 := by decide
theorem nI_lit (k : Nat) : (OfNat.ofNat k : Int32) = nI k := rfl
theorem nI_mul (a b : Nat) : nI a * nI b = nI (a * b) := by
  unfold nI
  exact (Int32.ofNat_mul a b).symm
theorem nI_sub {a b : Nat} (h : b ≤ a) : nI a - nI b = nI (a - b) := by
  have e : nI (a - b) + nI b = nI a := by rw [nI_add, Nat.sub_add_cancel h]
  rw [← e, Int32.add_sub_cancel]
theorem nI_div {a b : Nat} (ha : a < 2 ^ 31) (hb : b < 2 ^ 31) (h0 : b ≠ 0) : nI a / nI b = nI (a / b) := by
  have hab : a / b < 2 ^ 31 := Nat.lt_of_le_of_lt (Nat.div_le_self a b) ha
  apply Int32.toInt_inj.mp
  rw [Int32.toInt_div_of_ne_right]
  · rw [nI_toInt ha, nI_toInt hb, nI_toInt hab]
    rfl
  · intro q
    have := congrArg Int32.toInt q
    rw [nI_toInt hb] at this
    have h2 : (-1 : Int32).toInt = -1 := by decide
    rw [h2] at this
    omega
theorem lN_div {a b : Nat} (ha : a < 2 ^ 63) (hb : b < 2 ^ 63) (h0 : b ≠ 0) : lN a / lN b = lN (a / b) := by
  have tI : ∀ {n : Nat}, n < 2 ^ 63 → (lN n).toInt = (n : Int) := fun {n} hn => lg_ofNat_toInt (by omega)
  have hab : a / b < 2 ^ 63 := Nat.lt_of_le_of_lt (Nat.div_le_self a b) ha
  apply Int64.toInt_inj.mp
  rw [Int64.toInt_div_of_ne_right]
  · rw [tI ha, tI hb, tI hab]
    rfl
  · intro q
    have := congrArg Int64.toInt q
    rw [tI hb] at this
    have h2 : (-1 : Int64).toInt = -1 := by decide
    rw [h2] at this
    omega
theorem nI_0' (n : Nat) (h : n < 2 ^ 31) : nI n = 0 ↔ n = 0 := by
  rw [show (0 : Int32) = nI 0 from rfl]
  exact nI_eq h (by omega)
theorem fuel_succ {n k : Nat} (h : k < n) : ∃ m, n = m + 1 ∧ k ≤ m := ⟨n - 1, by omega, by omega⟩
