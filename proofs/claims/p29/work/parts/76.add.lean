/-! addHouse: the row -/
def zerF (w : Row) (n k : Nat) : Row := fun j => if 15 + 42 * n ≤ j ∧ j < 15 + 42 * n + k then 0 else w j
theorem zerF_step (w : Row) (n k : Nat) : sp (zerF w n k) n k 0 = zerF w n (k + 1) := by
  funext j
  unfold sp upd zerF
  by_cases q : j = 15 + 42 * n + k
  · rw [if_pos q, if_pos (by omega)]
  · rw [if_neg q]
    by_cases y : 15 + 42 * n ≤ j ∧ j < 15 + 42 * n + k
    · rw [if_pos y, if_pos (by omega)]
    · rw [if_neg y, if_neg (by omega)]
/-- the row with one house more -/
def addF (w : Row) (n : Nat) (a b c : Int32) : Row := upd (sp (sp (sp (sp (zerF w n 42) n 0 a) n 1 b) n 2 c) n 13 1) 2 (nI (n + 1))
theorem pt_zerF (w : Row) (n k : Nat) (hk : k < 42) : pt (zerF w n 42) n k = 0 := if_pos (by omega)
theorem pt_addF (w : Row) (n : Nat) (a b c : Int32) (k : Nat) (hk : k < 42) : pt (addF w n a b c) n k = if k = 13 then 1 else if k = 2 then c else if k = 1 then b else if k = 0 then a else 0 := by
  unfold addF
  rw [pt_upd _ _ _ _ _ (by omega), pt_sp, pt_sp, pt_sp, pt_sp, pt_zerF _ _ _ hk]
theorem addF_off (w : Row) (n : Nat) (a b c : Int32) {j : Nat} (h2 : j ≠ 2) (hj : j < 15 + 42 * n ∨ 15 + 42 * n + 42 ≤ j) : addF w n a b c j = w j := by
  unfold addF
  rw [upd_ne _ _ h2, sp_off _ _ _ _ _ (by omega) hj, sp_off _ _ _ _ _ (by omega) hj, sp_off _ _ _ _ _ (by omega) hj, sp_off _ _ _ _ _ (by omega) hj]
  exact if_neg (by omega)
theorem addF_2 (w : Row) (n : Nat) (a b c : Int32) : addF w n a b c 2 = nI (n + 1) := upd_eq _ _ _
theorem sumL_last (f : Nat → Int32) : ∀ (d k : Nat) (x : Int32), sumL f (d + 1) k x = sumL f d k x + f (k + d)
  | 0, _, _ => rfl
  | d + 1, k, x => by
    show sumL f (d + 1) (k + 1) (x + f k) = sumL f d (k + 1) (x + f k) + f (k + (d + 1))
    rw [sumL_last f d (k + 1) (x + f k), show k + 1 + d = k + (d + 1) by omega]
theorem sumP_add {w : Row} {n k : Nat} {a b c : Int32} (h8 : n < 8) (h4 : 4 ≤ k) (hk : k < 7) : sumP (addF w n a b c) k (n + 1) = sumP w k n := by
  have e : pt (addF w n a b c) n k = 0 := by
    rw [pt_addF _ _ _ _ _ _ (by omega), if_neg (by omega), if_neg (by omega), if_neg (by omega), if_neg (by omega)]
  have l : sumP (addF w n a b c) k (n + 1) = sumP (addF w n a b c) k n + pt (addF w n a b c) n k := by
    have := sumL_last (fun i => pt (addF w n a b c) i k) n 0 0
    rw [Nat.zero_add] at this
    exact this
  rw [l, e, Int32.add_zero]
  exact sumP_congr (fun i hi => addF_off _ _ _ _ _ (by omega) (by omega))
theorem WF.add {w : Row} {n nl t : Nat} (h8 : n < 8) {sa : Nat} (ha : sa ≤ 20) (b c : Int32) (F : WF w n nl t) : WF (addF w n (nI sa) b c) (n + 1) nl t := by
  obtain ⟨⟨-, h10, e2, e8⟩, hp, B, L, H, s4, s5, s6, N⟩ := F
  have lo : ∀ j, j < 15 → j ≠ 2 → addF w n (nI sa) b c j = w j := fun j h1 h2 => addF_off _ _ _ _ _ h2 (by omega)
  have hi' : ∀ j, 351 ≤ j → addF w n (nI sa) b c j = w j := fun j h1 => addF_off _ _ _ _ _ (by omega) (by omega)
  have pp : ∀ i, i < n → ∀ k, k < 42 → pt (addF w n (nI sa) b c) i k = pt w i k := fun i hi k hk => addF_off _ _ _ _ _ (by omega) (by omega)
  have pn : ∀ k, k < 42 → 3 ≤ k → k ≠ 13 → pt (addF w n (nI sa) b c) n k = 0 := fun k hk h3 h13 => by
    rw [pt_addF _ _ _ _ _ _ hk, if_neg h13, if_neg (by omega), if_neg (by omega), if_neg (by omega)]
  have p0 : pt (addF w n (nI sa) b c) n 0 = nI sa := by
    rw [pt_addF _ _ _ _ _ _ (by omega)]
    rfl
  have lz : lentN w nl (nI n) = 0 := by
    unfold lentN
    refine sumNN_zero nl 0 (fun j _ hj => ?_)
    obtain ⟨x, x1, x2⟩ := N j (by omega) 0 (by omega)
    unfold lndN
    rw [x1, if_neg (fun z => by have := (nI_eq (by omega) (by omega)).mp z; omega)]
  have ll : ∀ x, lentN (addF w n (nI sa) b c) nl x = lentN w nl x := fun x => lentN_congr (fun j _ k _ => hi' _ (by omega))
  refine ⟨⟨by omega, h10, addF_2 _ _ _ _ _, by rw [lo 8 (by omega) (by omega)]; exact e8⟩, by rw [lo 1 (by omega) (by omega)]; exact hp, ?_, ⟨fun j hj => by rw [hi' _ (by omega)]; exact L.1 j hj, fun i hi => ?_⟩, fun i hi => ?_, ?_, ?_, ?_, fun j hj k hk => ?_⟩
  · unfold WB
    rw [lo 3 (by omega) (by omega), lo 4 (by omega) (by omega), lo 5 (by omega) (by omega), lo 7 (by omega) (by omega)]
    exact B
  · rw [ll]
    by_cases q : i = n
    · subst q
      exact ⟨sa, p0, ha, by rw [lz]; omega⟩
    · rw [pp i (by omega) 0 (by omega)]
      exact L.2 i (by omega)
  · by_cases q : i = n
    · subst q
      refine ⟨⟨sa, p0, ha⟩, Or.inl (pn 9 (by omega) (by omega) (by omega)), ⟨0, 0, pn 11 (by omega) (by omega) (by omega), pn 12 (by omega) (by omega) (by omega), by omega, by omega, fun _ => rfl⟩, 0, pn 15 (by omega) (by omega) (by omega), by omega, fun k hk => by omega, fun z => ?_⟩
      rw [pn 9 (by omega) (by omega) (by omega)] at z
      exact absurd z (by decide)
    · exact (H i (by omega)).congr (pp i (by omega))
  · rw [lo 12 (by omega) (by omega), s4, sumP_add h8 (by omega) (by omega)]
  · rw [lo 9 (by omega) (by omega), s5, sumP_add h8 (by omega) (by omega)]
  · rw [lo 10 (by omega) (by omega), s6, sumP_add h8 (by omega) (by omega)]
  · rw [hi' _ (by omega)]
    obtain ⟨x, x1, x2⟩ := N j hj k hk
    exact ⟨x, x1, by omega⟩
