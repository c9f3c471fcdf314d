/-! the start -/
def sts : List Nat := [2, 35, 68, 103, 136, 169, 202]
theorem isSt.mem {T : Nat} (t : isSt T) : T ∈ sts := by
  unfold isSt at t
  unfold sts
  simp only [List.mem_cons, List.not_mem_nil, or_false]
  omega
theorem chk_get {f : Hp → Bool} {h : Hp} (e : initRun = some h) (c : chk f = true) : f h = true := by
  unfold chk at c
  rw [e] at c
  exact c
theorem init_a : chk (fun h => sts.all fun T => (List.range 33).all fun d => decide (hT h (T + d) = stTag d)) = true := by decide +kernel
theorem init_b : chk (fun h => sts.all fun T => decide (hR h T 0 = T + 1 ∧ hR h T 1 = T + 2 ∧ hR h T 2 = T + 3) && ((List.range 8).all fun i => decide (hR h (T + 2) i = T + 7 + 2 * i ∧ hR h (T + 7 + 2 * i) 0 = T + 8 + 2 * i)) && ((List.range 10).all fun j => decide (hR h (T + 3) j = T + 23 + j))) = true := by decide +kernel
theorem init_c : chk (fun h => decide ((hT h 1 = (8, 0) ∧ hR h 1 0 = 2 ∧ hR h 1 1 = 35 ∧ hR h 1 2 = 68 ∧ hR h 1 3 = 101 ∧ hR h 1 4 = 235 ∧ hR h 1 5 = 239) ∧
  (hT h 101 = (1, 0) ∧ hR h 101 0 = 102 ∧ hT h 102 = (24, 4)) ∧
  (hT h 235 = (0, 0) ∧ hR h 235 0 = 236 ∧ hR h 235 1 = 237 ∧ hR h 235 2 = 238 ∧ hT h 236 = (20, 8) ∧ hT h 237 = (20, 8) ∧ hT h 238 = (20, 8)) ∧
  (hT h 239 = (5, 0) ∧ hR h 239 0 = 240 ∧ hT h 240 = (21, 60)))) = true := by decide +kernel
theorem init_d : chk (fun h => decide ((hT h 241 = (20, 16) ∧ hT h 242 = (20, 48) ∧ hT h 243 = (20, 32) ∧ hT h 244 = (20, 20) ∧ hT h 245 = (20, 4)) ∧ hN h = 245)) = true := by decide +kernel
theorem init_e : chk (fun h => decide (hR h 102 0 = 103 ∧ hR h 102 1 = 136 ∧ hR h 102 2 = 169 ∧ hR h 102 3 = 202 ∧ hI h 101 1 = 0 ∧ hI h 1 6 = 0)) = true := by decide +kernel
theorem init_f : chk (fun h => decide (hI h 2 3 = 0 ∧ hI h 2 4 = 0 ∧ hI h 2 5 = 0 ∧ hI h 2 6 = 0 ∧ hI h 2 7 = 1 ∧ hI h 2 8 = 10000 ∧ hI h 2 9 = 0 ∧ hI h 2 10 = 0 ∧ hI h 3 0 = 20000 ∧ hI h 3 1 = 200 ∧ hI h 3 2 = 300 ∧ hI h 3 3 = 40)) = true := by decide +kernel
theorem init_g : chk (fun h => ((List.range 16).all fun k => decide (hI h 241 k = 0)) && ((List.range 48).all fun k => decide (hI h 242 k = 0))) = true := by decide +kernel
theorem init_h : chk (fun h => (List.range 8).all fun i => decide ((hI h (2 + 7 + 2 * i) 4 = 0 ∧ hI h (2 + 7 + 2 * i) 5 = 0 ∧ hI h (2 + 7 + 2 * i) 6 = 0 ∧ hI h (2 + 7 + 2 * i) 7 = 0 ∧ hI h (2 + 7 + 2 * i) 8 = 0 ∧ hI h (2 + 7 + 2 * i) 9 = 0) ∧
  (hI h (2 + 8 + 2 * i) 1 = 0 ∧ hI h (2 + 8 + 2 * i) 5 = 0 ∧ hL h (2 + 8 + 2 * i) 6 = 0 ∧ hI h (2 + 8 + 2 * i) 2 = 1 ∧ hI h (2 + 8 + 2 * i) 7 = 0) ∧ hR h (2 + 8 + 2 * i) 0 = 6)) = true := by decide +kernel
theorem init_i : chk (fun h => decide (hT h 6 = (4, 0) ∧ hR h 6 1 = 7 ∧ hR h 6 2 = 8 ∧ hI h 6 0 = 0 ∧ hT h 7 = (21, 0) ∧ hT h 8 = (20, 0))) = true := by decide +kernel
theorem init_ok : ∃ h, initRun = some h := by
  have : chk (fun _ => true) = true := by decide +kernel
  unfold chk at this
  cases e : initRun with
  | none =>
    rw [e] at this
    exact absurd this (by decide)
  | some h => exact ⟨h, rfl⟩
/-- the same heap, with nothing behind the end of the row of heat -/
def clp (h : Hp) : Hp := (fun a k => if a = 238 ∧ 8 ≤ k then 0 else hI h a k, hL h, hR h, hT h, hN h)
theorem clp_I {h : Hp} {a k : Nat} (q : ¬ (a = 238 ∧ 8 ≤ k)) : hI (clp h) a k = hI h a k := if_neg q
theorem clp_In {h : Hp} {a : Nat} (q1 : a ≠ 238) : hI (clp h) a = hI h a := by
  funext k
  exact if_neg (fun z => by omega)
/-- the street at the start -/
def wST : Row := fun j => if j = 1 then 1 else if j = 3 then 20000 else if j = 4 then 200 else if j = 5 then 300 else if j = 6 then 40 else if j = 7 then 10000 else 0
theorem start_ok {L : Nat} {xs : Nat → Int32} (hL : L < 2 ^ 31) {h : Hp} (e : initRun = some h) : ∃ H', s_X10_law_J35 L xs 1 241 242 243 244 245 0 (clp h) = some (1, H') := by
  have a : ∀ T, isSt T → ∀ d, d < 33 → hT h (T + d) = stTag d := fun T t d hd => of_decide_eq_true (List.all_eq_true.mp (List.all_eq_true.mp (chk_get e init_a) T t.mem) d (List.mem_range.mpr hd))
  have b : ∀ T, isSt T → hR h T 0 = T + 1 ∧ hR h T 1 = T + 2 ∧ hR h T 2 = T + 3 ∧ (∀ i, i < 8 → hR h (T + 2) i = T + 7 + 2 * i ∧ hR h (T + 7 + 2 * i) 0 = T + 8 + 2 * i) ∧ ∀ j, j < 10 → hR h (T + 3) j = T + 23 + j := fun T t => by
    have b0 := List.all_eq_true.mp (chk_get e init_b) T t.mem
    rw [Bool.and_eq_true, Bool.and_eq_true] at b0
    obtain ⟨⟨b1, b2⟩, b3⟩ := b0
    obtain ⟨z1, z2, z3⟩ := of_decide_eq_true b1
    exact ⟨z1, z2, z3, fun i hi => of_decide_eq_true (List.all_eq_true.mp b2 i (List.mem_range.mpr hi)), fun j hj => of_decide_eq_true (List.all_eq_true.mp b3 j (List.mem_range.mpr hj))⟩
  obtain ⟨c1, c2, c3, c4⟩ := of_decide_eq_true (chk_get e init_c)
  obtain ⟨⟨d1, d2, d4, d5, d6⟩, d3⟩ := of_decide_eq_true (chk_get e init_d)
  obtain ⟨x0, x1, x2, x3, y1, y2⟩ := of_decide_eq_true (chk_get e init_e)
  obtain ⟨f3, f4, f5, f6, f7, f8, f9, f10, k0, k1, k2, k3⟩ := of_decide_eq_true (chk_get e init_f)
  have lw := chk_get e init_g
  rw [Bool.and_eq_true] at lw
  have lq : ∀ k, k < 16 → hI h 241 k = 0 := fun k hk => of_decide_eq_true (List.all_eq_true.mp lw.1 k (List.mem_range.mpr hk))
  have lo : ∀ k, k < 48 → hI h 242 k = 0 := fun k hk => of_decide_eq_true (List.all_eq_true.mp lw.2 k (List.mem_range.mpr hk))
  have hs := fun i (hi : i < 8) => of_decide_eq_true (List.all_eq_true.mp (chk_get e init_h) i (List.mem_range.mpr hi))
  have pr := of_decide_eq_true (chk_get e init_i)
  have S : Sh (clp h) := ⟨a, b, c1, c2, c3, c4, d1, ⟨d2, d4, d5, d6⟩, Nat.le_of_eq d3.symm⟩
  have hn : hN (clp h) = 245 := d3
  have g : ∀ a, a < 230 → hI (clp h) a = hI h a := fun a ha => clp_In (by omega)
  have R : SRe (clp h) 2 (wST, 0, 0) := by
    refine ⟨⟨rfl, Nat.zero_le _, rfl, Nat.zero_le _⟩, ?_, fun k hk => ?_, fun i hi => absurd hi (Nat.not_lt_zero i), fun i _ hi => ?_, fun j hj => absurd hj (Nat.not_lt_zero j)⟩
    · rw [g 2 (by omega), f3, f4, f5, f6, f7, f8, f9, f10]
      exact ⟨rfl, rfl, rfl, rfl, rfl, rfl, rfl, rfl⟩
    · rw [g 3 (by omega)]
      rcases (show k = 0 ∨ k = 1 ∨ k = 2 ∨ k = 3 by omega) with rfl | rfl | rfl | rfl
      · exact k0
      · exact k1
      · exact k2
      · exact k3
    · obtain ⟨p1, p2, p3⟩ := hs i hi
      have p3' : hR (clp h) (2 + 8 + 2 * i) 0 = 6 := p3
      unfold NH
      rw [g _ (by omega), g _ (by omega), p3']
      obtain ⟨q1, q2, q3, q4, q5, q6⟩ := pr
      exact ⟨p1, p2, Or.inr ⟨2, Or.inl rfl, rfl⟩, by rw [hn]; omega, q1, q2, q3, by rw [g 6 (by omega)]; exact q4, q5, q6, by omega⟩
  have C : CST (clp h) (wST, 0, 0) := by
    refine ⟨0, fun _ => (wST, 0, 0), 0, (wST, 0, 0), S, R, ⟨by omega, ?_, fun k hk => ?_, fun k j hk hj => ?_, fun k hk => absurd hk (Nat.not_lt_zero k)⟩, ⟨?_, fun z => absurd rfl z⟩, fun i hi => if_pos ⟨rfl, hi⟩⟩
    · rw [g 101 (by omega)]; exact y1
    · show isH (hR h 102 k)
      unfold isH
      rcases (show k = 0 ∨ k = 1 ∨ k = 2 ∨ k = 3 by omega) with rfl | rfl | rfl | rfl
      · exact Or.inl x0
      · exact Or.inr (Or.inl x1)
      · exact Or.inr (Or.inr (Or.inl x2))
      · exact Or.inr (Or.inr (Or.inr x3))
    · show hR h 102 k = hR h 102 j → k = j
      rcases (show k = 0 ∨ k = 1 ∨ k = 2 ∨ k = 3 by omega) with rfl | rfl | rfl | rfl <;> rcases (show j = 0 ∨ j = 1 ∨ j = 2 ∨ j = 3 by omega) with rfl | rfl | rfl | rfl <;> intro y <;> omega
    · rw [g 1 (by omega)]; exact y2
  have W : WF wST 0 0 0 := ⟨⟨Nat.zero_le _, Nat.zero_le _, rfl, rfl⟩, Or.inr rfl, ⟨⟨20000, rfl, by omega⟩, ⟨200, rfl, by omega⟩, ⟨300, rfl, by omega⟩, ⟨10000, rfl, by omega⟩⟩, ⟨fun j hj => absurd hj (Nat.not_lt_zero j), fun i hi => absurd hi (Nat.not_lt_zero i)⟩, fun i hi => absurd hi (Nat.not_lt_zero i), rfl, rfl, rfl, fun j hj => absurd hj (Nat.not_lt_zero j)⟩
  have es := sV_self (clp h)
  have C' : CST (sV (clp h) (hI (clp h) 241) (hI (clp h) 242) (hI (clp h) 243) (hI (clp h) 244) (hI (clp h) 245)) (wST, 0, 0) := by rw [es]; exact C
  have K := t_setup (L := L) (xs := xs) hL C' W (fun k hk => by rw [clp_In (by omega)]; exact lq k hk) (fun i c hi hc => by
    show hI (clp h) 242 (16 * i + c) = 0
    rw [clp_In (by omega)]
    exact lo _ (by omega)) rfl rfl rfl rfl rfl rfl rfl rfl rfl rfl rfl rfl rfl
  rw [es] at K
  exact K
theorem arrV_cong {cI : ClassId} {N : Nat} {f g : Nat → Value} (h : ∀ j, j < N → f j = g j) : arrV cI N f = arrV cI N g := by
  unfold arrV
  have : (fun j : Fin N => f j.val) = (fun j : Fin N => g j.val) := funext fun j => h j.val j.isLt
  rw [this]
theorem Rp_clp {base : Nat} {D : va_G} {cA : Nat → ClassId} {h : Hp} {H : Heap} (t1 : hT h 238 = (20, 8)) (R : Rp base D cA h H) : Rp base D cA (clp h) H := by
  refine ⟨R.1, fun k q hk => ?_, R.2.2⟩
  have hk' := hk
  rw [wld_at] at hk
  by_cases hl : k < hN (clp h)
  · rw [if_pos hl] at hk
    cases hk
    have o := R.2.1 k (base + 1 + k, hE base cA h (k + 1)) (by rw [wld_at, if_pos (show k < hN h from hl)])
    by_cases q : k + 1 = 238
    · have tk : hT h (k + 1) = (20, 8) := by
        rw [q]
        exact t1
      have e1 : hE base cA h (k + 1) = .inl (cA 20, 8, .inl (hI h (k + 1))) := by
        rw [hE_int (c := 20) (by rw [tk]) (by omega) (by omega), tk]
      have e2 : hE base cA (clp h) (k + 1) = .inl (cA 20, 8, .inl (hI (clp h) (k + 1))) := by
        have tk' : hT (clp h) (k + 1) = (20, 8) := tk
        rw [hE_int (c := 20) (by rw [tk']) (by omega) (by omega), tk']
      rw [e1] at o
      rw [e2]
      have o' : H[base + 1 + k]? = some (vp_cell (cA 20) (8, .inl (hI h (k + 1)))) := o
      show H[base + 1 + k]? = some (vp_cell (cA 20) (8, .inl (hI (clp h) (k + 1))))
      rw [o', vp_cell_i, vp_cell_i]
      rw [arrV_cong (f := fun j => .int (hI h (k + 1) j)) (g := fun j => .int (hI (clp h) (k + 1) j)) (fun j hj => by rw [clp_I (fun z => by omega)])]
    · have e : hE base cA (clp h) (k + 1) = hE base cA h (k + 1) := by
        have : hI (clp h) (k + 1) = hI h (k + 1) := clp_In (by omega)
        unfold hE
        rw [this]
        rfl
      rw [e]
      exact o
  · rw [if_neg hl] at hk
    cases hk
