/-! addHouse: the call -/
theorem c_settle {h : Hp} {w : Row} {n nl : Nat} (S : Sh h) (R : SR h 2 w n nl) (h8 : n < 8) (a b c : Int32) :
    ∃ h', s_X6_settle 2 a b c h = some (nI n, h') ∧ Fr (fun x => x = 2 ∨ x = 2 + 7 + 2 * n) h h' ∧ hR h' = hR h ∧ SR h' 2 (addF w n a b c) (n + 1) nl := by
  have st2 : isSt 2 := Or.inl rfl
  have e3 : hI h 2 3 = nI n := by rw [R.2.1.1, R.1.1]
  have hA : hT h (2 + 7 + 2 * n) = (2, 0) := S.tH st2 h8
  have F : Fr (fun x => x = 2 ∨ x = 2 + 7 + 2 * n) h (sI (sI (sI (sI h (2 + 7 + 2 * n) 1 a) (2 + 7 + 2 * n) 2 b) (2 + 7 + 2 * n) 3 c) 2 3 (nI (n + 1))) := ((((Fr.rfl' (P := fun x => x = 2 ∨ x = 2 + 7 + 2 * n)).sI _ 1 _ (Or.inr rfl)).sI _ 2 _ (Or.inr rfl)).sI _ 3 _ (Or.inr rfl)).sI 2 3 _ (Or.inl rfl)
  have hN0 : 245 ≤ hN h := S.2.2.2.2.2.2.2.2
  have hPm : ∀ x, (fun x => x = 2 ∨ x = 2 + 7 + 2 * n) x → Mut x := fun x hx => by
    rcases hx with q | q
    · rw [q]; exact ST.mut st2 ST.T
    · rw [q]; exact Mut_H st2 h8
  refine ⟨sI (sI (sI (sI h (2 + 7 + 2 * n) 1 a) (2 + 7 + 2 * n) 2 b) (2 + 7 + 2 * n) 3 c) 2 3 (nI (n + 1)), ?_, F, rfl, ?_⟩
  · unfold s_X6_settle
    rw [show (fun x1 => getI h 2 6 3 fun x2 => ldR h x1 22 x2 fun x3 => putI h x3 2 1 a fun h => putI h x3 2 2 b fun h => putI h x3 2 3 c fun h => getI h 2 6 3 fun x4 => putI h 2 6 3 (x4 + 1) fun h => getI h 2 6 3 fun x5 => retI (x5 - 1) h) = (fun x1 => ldR h x1 22 (nI n) fun x3 => putI h x3 2 1 a fun h => putI h x3 2 2 b fun h => putI h x3 2 3 c fun h => getI h 2 6 3 fun x4 => putI h 2 6 3 (x4 + 1) fun h => getI h 2 6 3 fun x5 => retI (x5 - 1) h) from by
      funext x1
      rw [get6 S, e3], c_house S st2 h8]
    simp only [putI, getI, hT_sI, hA, S.t0 st2, if_true, retI, hI_sI, show ((2 : Nat) = 2 + 7 + 2 * n) = False from eq_false (by omega), false_and, if_false, e3, and_self, nI_1]
    rw [show (1 : Int32) = nI 1 from rfl, nI_sub (by omega), Nat.add_sub_cancel]
  · obtain ⟨⟨q1, q2, q3, q4⟩, p1, p2, p3, p4, p5⟩ := R
    have lo : ∀ j, j < 15 → j ≠ 2 → addF w n a b c j = w j := fun j h1 h2 => addF_off _ _ _ _ _ h2 (by omega)
    have hi' : ∀ j, 351 ≤ j → addF w n a b c j = w j := fun j h1 => addF_off _ _ _ _ _ (by omega) (by omega)
    have ptn : ∀ k, k < 42 → addF w n a b c (15 + 42 * n + k) = if k = 13 then 1 else if k = 2 then c else if k = 1 then b else if k = 0 then a else 0 := fun k hk => pt_addF w n a b c k hk
    have pn : ∀ k, k < 42 → 3 ≤ k → k ≠ 13 → addF w n a b c (15 + 42 * n + k) = 0 := fun k hk h3 h13 => by
      rw [ptn _ hk, if_neg h13, if_neg (by omega), if_neg (by omega), if_neg (by omega)]
    refine ⟨⟨addF_2 _ _ _ _ _, by omega, by rw [lo 8 (by omega) (by omega)]; exact q3, q4⟩, ?_, fun k hk => ?_, fun i hi => ?_, fun i i1 i2 => ?_, fun j hj k hk => ?_⟩
    · rw [addF_2, lo 8 (by omega) (by omega), lo 0 (by omega) (by omega), lo 11 (by omega) (by omega), lo 1 (by omega) (by omega), lo 7 (by omega) (by omega), lo 13 (by omega) (by omega), lo 14 (by omega) (by omega)]
      obtain ⟨z1, z2, z3, z4, z5, z6, z7, z8⟩ := p1
      have f : ∀ k, k ≠ 3 → hI (sI (sI (sI (sI h (2 + 7 + 2 * n) 1 a) (2 + 7 + 2 * n) 2 b) (2 + 7 + 2 * n) 3 c) 2 3 (nI (n + 1))) 2 k = hI h 2 k := fun k hk => by
        rw [hI_sI, if_neg (fun z => hk z.2), hI_sI, if_neg (fun z => by omega), hI_sI, if_neg (fun z => by omega), hI_sI, if_neg (fun z => by omega)]
      refine ⟨by rw [hI_sI, if_pos ⟨rfl, rfl⟩], ?_⟩
      rw [f 4 (by omega), f 5 (by omega), f 6 (by omega), f 7 (by omega), f 8 (by omega), f 9 (by omega), f 10 (by omega)]
      exact ⟨z2, z3, z4, z5, z6, z7, z8⟩
    · rw [(F.2.2 (2 + 1) (by omega)).1, lo _ (by omega) (by omega)]
      exact p2 k hk
    · by_cases q : i = n
      · subst q
        obtain ⟨⟨y4, y5, y6, y7, y8, y9⟩, ⟨g1, g5, g6, g2, g7⟩, r1, r2, r3⟩ := p4 i (by omega) (by omega)
        have fA : ∀ k, 4 ≤ k → hI (sI (sI (sI (sI h (2 + 7 + 2 * i) 1 a) (2 + 7 + 2 * i) 2 b) (2 + 7 + 2 * i) 3 c) 2 3 (nI (i + 1))) (2 + 7 + 2 * i) k = hI h (2 + 7 + 2 * i) k := fun k hk => by
          rw [hI_sI, if_neg (fun z => by omega), hI_sI, if_neg (fun z => by omega), hI_sI, if_neg (fun z => by omega), hI_sI, if_neg (fun z => by omega)]
        have fW := F.2.2 (2 + 8 + 2 * i) (by omega)
        have e0 := ptn 0 (by omega)
        rw [Nat.add_zero] at e0
        refine ⟨⟨?_, ?_, ?_, ?_, ?_, ?_, ?_, ?_, ?_⟩, ⟨?_, fun z => ?_, ?_, ?_, ?_, ?_⟩, ?_⟩
        · rw [e0]; simp [hI_sI]
        · rw [ptn 1 (by omega)]; simp [hI_sI]
        · rw [ptn 2 (by omega)]; simp [hI_sI]; omega
        · rw [fA 4 (by omega), y4, pn 3 (by omega) (by omega) (by omega)]
        · rw [fA 5 (by omega), y5, pn 4 (by omega) (by omega) (by omega)]
        · rw [fA 6 (by omega), y6, pn 5 (by omega) (by omega) (by omega)]
        · rw [fA 7 (by omega), y7, pn 6 (by omega) (by omega) (by omega)]
        · rw [fA 8 (by omega), y8, pn 7 (by omega) (by omega) (by omega)]
        · rw [fA 9 (by omega), y9, pn 8 (by omega) (by omega) (by omega)]
        · rw [fW.1, g1, pn 9 (by omega) (by omega) (by omega)]
        · rw [pn 9 (by omega) (by omega) (by omega)] at z
          exact absurd rfl z
        · rw [fW.1, g5, pn 11 (by omega) (by omega) (by omega)]
        · rw [fW.2.1, g6, pn 12 (by omega) (by omega) (by omega)]
          rfl
        · rw [fW.1, g2, ptn 13 (by omega)]
          rfl
        · rw [fW.1, g7, pn 17 (by omega) (by omega) (by omega)]
        · rw [fW.2.2]
          exact ⟨r1, r2, 0, by omega, pn 15 (by omega) (by omega) (by omega), r3.ch F.ch hPm r1 r2, fun k hk => by omega⟩
      · exact (p3 i (by omega)).ch F.ch hPm (by omega) (by omega) (by omega) (by omega) (fun k hk => addF_off _ _ _ _ _ (by omega) (by omega))
    · exact (p4 i (by omega) i2).ch F.ch hPm (by omega) (by omega) (by omega) (by omega)
    · rw [(F.2.2 (2 + 23 + j) (by omega)).1, hi' _ (by omega)]
      exact p5 j hj k hk
