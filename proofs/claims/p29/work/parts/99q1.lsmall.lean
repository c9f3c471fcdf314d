/-! the law's small methods -/
/-- a house's row and programs in the law against the row w -/
def PRL (p w : Row) (i : Nat) : Prop := ∃ np, np ≤ 4 ∧ pt w i 15 = nI np ∧ ∀ k, k < np → p (8 * i + k) = 1000 * pt w i (30 + k) + pt w i (18 + k)
def HLw (o w : Row) (i : Nat) : Prop := ho o i 5 = pt w i 9 ∧ ho o i 7 = pt w i 11 ∧ ho o i 8 = pt w i 12 ∧ ho o i 9 = pt w i 13 ∧ ho o i 11 = pt w i 15 ∧ ho o i 13 = pt w i 17 ∧ (pt w i 9 ≠ 0 → ho o i 6 = pt w i 10 ∧ ho o i 10 = pt w i 14) ∧ (pt w i 9 = 1 → ho o i 12 = pt w i 16)
def HLc (o w : Row) (i : Nat) : Prop := ho o i 0 = pt w i 0 ∧ ho o i 1 = pt w i 1 ∧ ho o i 2 = pt w i 2 ∧ ho o i 3 = pt w i 3 ∧ ho o i 4 = pt w i 4 ∧ ho o i 14 = pt w i 7 ∧ ho o i 15 = pt w i 8
def LL (l w : Row) (nl : Nat) : Prop := ∀ j, j < nl → ∀ k, k < 5 → l (5 * j + k) = w (351 + 5 * j + k)
theorem l_tmp {h : Hp} (T : LT5 h) (q o p l g : Row) {i wt wm : Nat} (hi : i < 3) (h7 : ho o i 7 = nI wt) (h8 : ho o i 8 = nI wm) (b1 : wt < 2 ^ 20) (b2 : wm < 2 ^ 28) : s_X10_temperature (nI i) 242 (sV h q o p l g) = some (nI (tmpN wt wm), sV h q o p l g) := by
  unfold s_X10_temperature tmpN
  simp only [vo_7 T _ _ _ _ _ hi, vo_8 T _ _ _ _ _ hi, h7, h8]
  by_cases z : wt = 0
  · rw [if_pos (by rw [z]; rfl), if_pos z]
    rfl
  · have z2 : ¬ nI wt = 0 := fun y => z ((nI_0' wt (by omega)).mp y)
    have z4 : ¬ (4 * nI wt = 0) := fun y => by
      rw [show (4 : Int32) = nI 4 from rfl, nI_mul] at y
      have := (nI_0' (4 * wt) (by omega)).mp y
      omega
    rw [if_neg z2, if_neg z]
    unfold divI
    rw [if_neg z4, show (4 : Int32) * nI wt = nI (4 * wt) from by rw [show (4 : Int32) = nI 4 from rfl, nI_mul], nI_div (by omega) (by omega) (by omega)]
    rfl
/-- the letter and the number of a washer's phase -/
theorem l_let {h : Hp} (T : LT5 h) (q o p l g : Row) {i ph m k : Nat} (hi : i < 3) (h6 : ho o i 6 = nI ph) (hp : ph < 4) (e : p (8 * i + ph) = nI (1000 * m + k)) (hk : k < 1000) (hm : m ≤ 99) : s_X10_letter (nI i) 242 243 (sV h q o p l g) = some (nI k, sV h q o p l g) ∧ s_X10_number (nI i) 242 243 (sV h q o p l g) = some (nI m, sV h q o p l g) := by
  constructor
  · unfold s_X10_letter
    simp only [vo_6 T _ _ _ _ _ hi, h6, vp_c T _ _ _ _ _ hi (show ph < 8 by omega), e]
    rw [show (1000 : Int32) = nI 1000 from rfl, remI_n (by omega) (by omega) (by omega)]
    have : (1000 * m + k) % 1000 = k := by omega
    rw [this]
    rfl
  · unfold s_X10_number
    simp only [vo_6 T _ _ _ _ _ hi, h6, vp_c T _ _ _ _ _ hi (show ph < 8 by omega), e]
    unfold divI
    rw [if_neg (by decide), show (1000 : Int32) = nI 1000 from rfl, nI_div (by omega) (by omega) (by omega)]
    have : (1000 * m + k) / 1000 = m := by omega
    rw [this]
    rfl
/-- a running washer: its phase, its letter, its number -/
theorem run_is {o p w : Row} {i t : Nat} (H : WH w i t) (A : HLw o w i) (P : PRL p w i) (h9 : pt w i 9 = 1) : ∃ ph np m k, ph < np ∧ np ≤ 4 ∧ pt w i 15 = nI np ∧ pt w i 10 = nI ph ∧ ho o i 6 = nI ph ∧ phN w i = ph ∧ pt w i (18 + ph) = nI k ∧ pt w i (30 + ph) = nI m ∧ m ≤ 99 ∧ (k = 100 ∨ k = 102 ∨ k = 104 ∨ k = 115 ∨ k = 119) ∧ p (8 * i + ph) = nI (1000 * m + k) := by
  obtain ⟨-, -, -, np, n3, n4, n5, n6⟩ := H
  obtain ⟨ph, p1, p2, -⟩ := n6 h9
  obtain ⟨np', q1, q2, q3⟩ := P
  have en : np' = np := (nI_eq (by omega) (by omega)).mp (q2.symm.trans n3)
  subst en
  obtain ⟨kk, x, hx, hx2, -⟩ := n5 ph p1
  obtain ⟨k, hk, hkk⟩ : ∃ k, pt w i (18 + ph) = nI k ∧ (k = 100 ∨ k = 102 ∨ k = 104 ∨ k = 115 ∨ k = 119) := by
    rcases kk with y | y | y | y | y
    · exact ⟨100, y, by omega⟩
    · exact ⟨102, y, by omega⟩
    · exact ⟨104, y, by omega⟩
    · exact ⟨115, y, by omega⟩
    · exact ⟨119, y, by omega⟩
  refine ⟨ph, np', x, k, p1, q1, n3, p2, ?_, ?_, hk, hx, hx2, hkk, ?_⟩
  · rw [(A.2.2.2.2.2.2.1 (by rw [h9]; decide)).1, p2]
  · unfold phN
    rw [p2, nI_clamp (by omega)]
    omega
  · rw [q3 ph p1, hk, hx, show (1000 : Int32) = nI 1000 from rfl, nI_mul, nI_add]
theorem l_want {h : Hp} (T : LT5 h) (q o p l g : Row) {w : Row} {i t : Nat} (hi : i < 3) (H : WH w i t) (ht : t ≤ 40000) (A : HLw o w i) (P : PRL p w i) : s_X10_want (nI i) 242 243 (sV h q o p l g) = some (nI (wanN w i), sV h q o p l g) := by
  unfold s_X10_want wanN
  simp only [vo_5 T _ _ _ _ _ hi, A.1]
  by_cases h9 : pt w i 9 = 1
  · obtain ⟨ph, np, m, k, a1, a2, a3, a4, a5, a6, a7, a8, a9, a10, a11⟩ := run_is H A P h9
    obtain ⟨-, -, ⟨wt, wm, hw, hm, bw, bm, hz⟩, -⟩ := H
    obtain ⟨r1, r2⟩ := l_let T q o p l g hi a5 (by omega) a11 (by omega) a9
    have e1 : wtN w i = wt := by unfold wtN; rw [hw, nI_clamp (by omega)]
    have e2 : wmN w i = wm := by unfold wmN; rw [hm, nI_clamp (by omega)]
    rw [if_pos h9, r1, a6, a7, a8, e1, e2, nI_clamp (by omega)]
    simp only [bnd]
    have hb : 4 * wt * m < 2 ^ 31 := by
      have : 4 * wt * m ≤ 4 * wt * 99 := Nat.mul_le_mul_left _ a9
      omega
    by_cases q4 : k = 104
    · rw [if_pos (by rw [q4]; rfl), if_pos ⟨h9, by rw [q4]; rfl⟩]
      simp only [vo_7 T _ _ _ _ _ hi, vo_8 T _ _ _ _ _ hi, A.2.1, A.2.2.1, r2, bnd, hw, hm]
      by_cases z : wt = 0
      · rw [if_pos (by rw [z]; rfl)]
        unfold wantN
        rw [z, show min 250 (4 * 0 * m - wm) = 0 from by omega]
        rfl
      · rw [if_neg (fun y => z ((nI_0' wt (by omega)).mp y))]
        have key := want_I (wt := wt) (m := m) (wm := wm) hb (by omega)
        unfold retI
        rw [← key]
        by_cases y1 : 0 ≤ 4 * nI wt * nI m - nI wm
        · rw [if_pos y1]
          by_cases y2 : 4 * nI wt * nI m - nI wm ≤ 250
          · rw [if_pos y2]
            simp [y1, y2]
          · rw [if_neg y2]
            simp [y1, y2]
        · rw [if_neg y1]
          simp [y1]
    · have n1 : ¬ nI k = 104 := fun y => q4 ((nI_eq (b := 104) (by omega) (by omega)).mp y)
      rw [if_neg n1, if_neg (fun z => n1 z.2)]
      rfl
  · rw [if_neg h9, if_neg (fun z => h9 z.1)]
    rfl
theorem sumL_minus {f g : Nat → Int32} : ∀ (d k : Nat) (x y : Int32), sumL (fun j => f j - g j) d k (x - y) = sumL f d k x - sumL g d k y
  | 0, _, _, _ => rfl
  | d + 1, k, x, y => by
    unfold sumL
    rw [show x - y + (f k - g k) = (x + f k) - (y + g k) by rw [Int32.sub_eq_add_neg, Int32.sub_eq_add_neg, Int32.sub_eq_add_neg, Int32.neg_add, Int32.sub_eq_add_neg]; ac_rfl]
    exact sumL_minus d (k + 1) _ _
theorem sumL_ext {f g : Nat → Int32} : ∀ (d k : Nat) (x : Int32), (∀ j, k ≤ j → j < k + d → f j = g j) → sumL f d k x = sumL g d k x := fun d k x h => sumL_congr d k x h
theorem l_sharesL {h : Hp} (T : LT5 h) {q o p l g w : Row} {nl : Nat} (h4 : nl ≤ 4) (hq : q 7 = nI nl) (A : LL l w nl) (x : Int32) : ∀ (d k f : Nat) (y : Int32), k + d = nl → d < f → s_X10_shares_L11 f x 241 244 y (nI k) (sV h q o p l g) = some (sumL (fun j => bor w x j - lnd w x j) d k y, sV h q o p l g)
  | 0, k, f, y, hk, hf => by
    obtain ⟨m, rfl, -⟩ := fuel_succ hf
    rw [s_X10_shares_L11]
    simp only [vq_7 T, hq, nI_leE (show nl < 2 ^ 31 by omega) (show k < 2 ^ 31 by omega), show nl ≤ k by omega, if_true]
    rfl
  | d + 1, k, f, y, hk, hf => by
    obtain ⟨m, rfl, hm⟩ := fuel_succ hf
    have k4 : k < 4 := by omega
    have kn : k < nl := by omega
    rw [s_X10_shares_L11]
    unfold s_X10_shares_J46
    simp only [vq_7 T, hq, nI_leE (show nl < 2 ^ 31 by omega) (show k < 2 ^ 31 by omega), show ¬ (nl ≤ k) by omega, if_false, vl_0 T _ _ _ _ _ k4, vl_1 T _ _ _ _ _ k4, vl_2 T _ _ _ _ _ k4, A k kn 0 (by omega), A k kn 1 (by omega), A k kn 2 (by omega), nI_1]
    have fin : ∀ z, z = y + (bor w x k - lnd w x k) → s_X10_shares_L11 m x 241 244 z (nI (k + 1)) (sV h q o p l g) = some (sumL (fun j => bor w x j - lnd w x j) (d + 1) k y, sV h q o p l g) := fun z hz => by
      rw [l_sharesL T h4 hq A x d (k + 1) m z (by omega) (by omega), hz]
      rfl
    by_cases z1 : w (351 + 5 * k + 1) = x
    · rw [if_pos z1]
      by_cases z2 : w (351 + 5 * k + 0) = x
      · rw [if_pos z2]
        exact fin _ (by unfold bor lnd; rw [if_pos z1, if_pos z2])
      · rw [if_neg z2]
        exact fin _ (by unfold bor lnd; rw [if_pos z1, if_neg z2])
    · rw [if_neg z1]
      by_cases z2 : w (351 + 5 * k + 0) = x
      · rw [if_pos z2]
        exact fin _ (by unfold bor lnd; rw [if_neg z1, if_pos z2])
      · rw [if_neg z2]
        exact fin _ (by unfold bor lnd; rw [if_neg z1, if_neg z2])
theorem sumL_y {f : Nat → Int32} (d k : Nat) (x y : Int32) : sumL f d k (x - y) = sumL f d k x - y := by
  have := sumL_minus (f := f) (g := fun _ => 0) d k x y
  rw [sumL_zero d k y (fun _ => 0) (fun _ _ _ => rfl)] at this
  rw [← this]
  exact sumL_congr d k _ (fun j _ _ => by rw [Int32.sub_zero])
theorem l_shares {h : Hp} (T : LT5 h) {q o p l g w : Row} {nl i : Nat} (hi : i < 3) (h4 : nl ≤ 4) (hq : q 7 = nI nl) (A : LL l w nl) (h0 : ho o i 0 = pt w i 0) : s_X10_shares (nI i) 241 242 244 (sV h q o p l g) = some (sharesF w nl i, sV h q o p l g) := by
  unfold s_X10_shares
  rw [vo_0 T _ _ _ _ _ hi, h0, show (0 : Int32) = nI 0 from rfl, l_sharesL T h4 hq A (nI i) nl 0 100000 _ (by omega) (by omega)]
  have := sumL_minus (f := bor w (nI i)) (g := lnd w (nI i)) nl 0 (pt w i 0) 0
  rw [Int32.sub_zero] at this
  unfold sharesF lentF
  rw [this, sumL_y]
theorem l_unlentL {h : Hp} (T : LT5 h) {q o p l g w : Row} {nl : Nat} (h4 : nl ≤ 4) (hq : q 7 = nI nl) (A : LL l w nl) (x : Int32) : ∀ (d k f : Nat) (y : Int32), k + d = nl → d < f → s_X10_unlent_L11 f x 241 244 y (nI k) (sV h q o p l g) = some (sumL (fun j => 0 - lnd w x j) d k y, sV h q o p l g)
  | 0, k, f, y, hk, hf => by
    obtain ⟨m, rfl, -⟩ := fuel_succ hf
    rw [s_X10_unlent_L11]
    simp only [vq_7 T, hq, nI_leE (show nl < 2 ^ 31 by omega) (show k < 2 ^ 31 by omega), show nl ≤ k by omega, if_true]
    rfl
  | d + 1, k, f, y, hk, hf => by
    obtain ⟨m, rfl, hm⟩ := fuel_succ hf
    have k4 : k < 4 := by omega
    have kn : k < nl := by omega
    rw [s_X10_unlent_L11]
    simp only [vq_7 T, hq, nI_leE (show nl < 2 ^ 31 by omega) (show k < 2 ^ 31 by omega), show ¬ (nl ≤ k) by omega, if_false, vl_0 T _ _ _ _ _ k4, vl_2 T _ _ _ _ _ k4, A k kn 0 (by omega), A k kn 2 (by omega), nI_1]
    have fin : ∀ z, z = y + (0 - lnd w x k) → s_X10_unlent_L11 m x 241 244 z (nI (k + 1)) (sV h q o p l g) = some (sumL (fun j => 0 - lnd w x j) (d + 1) k y, sV h q o p l g) := fun z hz => by
      rw [l_unlentL T h4 hq A x d (k + 1) m z (by omega) (by omega), hz]
      rfl
    by_cases z2 : w (351 + 5 * k + 0) = x
    · rw [if_pos z2]
      exact fin _ (by unfold lnd; rw [if_pos z2, Int32.zero_sub, Int32.sub_eq_add_neg])
    · rw [if_neg z2]
      exact fin _ (by unfold lnd; rw [if_neg z2, Int32.sub_zero, Int32.sub_zero, Int32.add_zero])
theorem l_unlent {h : Hp} (T : LT5 h) {q o p l g w : Row} {nl i : Nat} (hi : i < 3) (h4 : nl ≤ 4) (hq : q 7 = nI nl) (A : LL l w nl) (h0 : ho o i 0 = pt w i 0) : s_X10_unlent (nI i) 241 242 244 (sV h q o p l g) = some (pt w i 0 - lentF w nl (nI i), sV h q o p l g) := by
  unfold s_X10_unlent
  rw [vo_0 T _ _ _ _ _ hi, h0, show (0 : Int32) = nI 0 from rfl, l_unlentL T h4 hq A (nI i) nl 0 100000 _ (by omega) (by omega)]
  have := sumL_minus (f := fun _ => 0) (g := lnd w (nI i)) nl 0 (pt w i 0) 0
  rw [Int32.sub_zero, sumL_zero nl 0 _ (fun _ => 0) (fun _ _ _ => rfl)] at this
  unfold lentF
  rw [this]
