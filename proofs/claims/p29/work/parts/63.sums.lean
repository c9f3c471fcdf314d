/-! the shares of all houses are what they own -/
theorem sumL_zero : ∀ (d k : Nat) (x : Int32) (f : Nat → Int32), (∀ j, k ≤ j → j < k + d → f j = 0) → sumL f d k x = x
  | 0, _, _, _, _ => rfl
  | d + 1, k, x, f, h => by
    unfold sumL
    rw [h k (Nat.le_refl k) (by omega), Int32.add_zero]
    exact sumL_zero d (k + 1) x f (fun j h1 h2 => h j (by omega) (by omega))
theorem sumL_plus {f g : Nat → Int32} : ∀ (d k : Nat) (x y : Int32), sumL (fun j => f j + g j) d k (x + y) = sumL f d k x + sumL g d k y
  | 0, _, _, _ => rfl
  | d + 1, k, x, y => by
    unfold sumL
    rw [show x + y + (f k + g k) = (x + f k) + (y + g k) by ac_rfl]
    exact sumL_plus d (k + 1) _ _
/-- exactly one house is the one of a lease -/
theorem sum_pick {n a : Nat} (ha : a < n) (hn : n ≤ 8) (s : Int32) : sumL (fun i => if nI a = nI i then s else 0) n 0 0 = s := by
  rw [sumL_congr (g := fun i => if i = a then s else 0) n 0 0 (fun j _ h2 => by
    by_cases q : j = a
    · rw [q, if_pos rfl, if_pos rfl]
    · rw [if_neg q, if_neg (fun z => q ((nI_eq (by omega) (by omega)).mp z).symm)])]
  have h := sumL_one (f := fun _ => (0 : Int32)) (g := fun i => if i = a then s else 0) (i := a) (v := s) (by
    show (if a = a then s else 0) = 0 + s
    rw [if_pos rfl, Int32.zero_add]) (fun j hj => if_neg hj) n 0 0 (by omega) (by omega)
  rw [h, sumL_zero n 0 0 (fun _ => 0) (fun _ _ _ => rfl), Int32.zero_add]
theorem sum_swap {n : Nat} (F : Nat → Nat → Int32) : ∀ (d k : Nat), sumL (fun i => sumL (F i) d k 0) n 0 0 = sumL (fun l => sumL (fun i => F i l) n 0 0) d k 0
  | 0, _ => sumL_zero n 0 0 _ (fun _ _ _ => rfl)
  | d + 1, k => by
    have e : ∀ i, sumL (F i) (d + 1) k 0 = sumL (F i) d (k + 1) 0 + F i k := fun i => sumL_add d (k + 1) 0 (F i k)
    have e2 : sumL (fun l => sumL (fun i => F i l) n 0 0) (d + 1) k 0 = sumL (fun l => sumL (fun i => F i l) n 0 0) d (k + 1) 0 + sumL (fun i => F i k) n 0 0 := sumL_add d (k + 1) 0 _
    rw [e2, ← sum_swap F d (k + 1)]
    have e3 := sumL_plus (f := fun i => sumL (F i) d (k + 1) 0) (g := fun i => F i k) n 0 0 0
    rw [Int32.add_zero] at e3
    rw [← e3]
    exact sumL_congr n 0 0 (fun j _ _ => e j)
theorem shares_sum {w : Row} {n nl : Nat} (hn : n ≤ 8) (N : WN w n nl) : sumL (fun i => sharesF w nl i) n 0 0 = sumP w 0 n := by
  have hB : sumL (fun i => sumL (bor w (nI i)) nl 0 0) n 0 0 = sumL (fun l => w (351 + 5 * l + 2)) nl 0 0 := by
    rw [sum_swap (fun i => bor w (nI i))]
    refine sumL_congr nl 0 0 (fun l _ h2 => ?_)
    obtain ⟨a, ea, ha⟩ := N l (by omega) 1 (by omega)
    unfold bor
    rw [ea]
    exact sum_pick ha hn _
  have hL : sumL (fun i => sumL (lnd w (nI i)) nl 0 0) n 0 0 = sumL (fun l => w (351 + 5 * l + 2)) nl 0 0 := by
    rw [sum_swap (fun i => lnd w (nI i))]
    refine sumL_congr nl 0 0 (fun l _ h2 => ?_)
    obtain ⟨a, ea, ha⟩ := N l (by omega) 0 (by omega)
    unfold lnd
    rw [ea]
    exact sum_pick ha hn _
  have e1 := sumL_plus (f := fun i => sharesF w nl i) (g := fun i => sumL (lnd w (nI i)) nl 0 0) n 0 0 0
  have e2 := sumL_plus (f := fun i => pt w i 0) (g := fun i => sumL (bor w (nI i)) nl 0 0) n 0 0 0
  rw [Int32.add_zero] at e1 e2
  rw [hL] at e1
  rw [hB] at e2
  have e3 : sumL (fun j => sharesF w nl j + sumL (lnd w (nI j)) nl 0 0) n 0 0 = sumL (fun j => pt w j 0 + sumL (bor w (nI j)) nl 0 0) n 0 0 := by
    refine sumL_congr n 0 0 (fun j _ _ => ?_)
    have es : sharesF w nl j = sumL (bor w (nI j)) nl 0 0 + (pt w j 0 - lentF w nl (nI j)) := by
      unfold sharesF
      have := sumL_add (f := bor w (nI j)) nl 0 0 (pt w j 0 - lentF w nl (nI j))
      rw [Int32.zero_add] at this
      exact this
    rw [es]
    unfold lentF
    rw [Int32.add_assoc, Int32.sub_add_cancel, Int32.add_comm]
  rw [e1, e2] at e3
  have := congrArg (fun x => x - sumL (fun l => w (351 + 5 * l + 2)) nl 0 0) e3
  simp only [Int32.add_sub_cancel] at this
  exact this
