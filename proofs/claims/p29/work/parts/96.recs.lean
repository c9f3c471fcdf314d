/-! what recording leaves alone -/
theorem c_recRJ {h : Hp} {e : Ent} {c : Nat} (S : Sh h) (R : SRe h 2 e) (hp : e.1 1 = 0 ∨ e.1 1 = 1) (h4 : c < 4) (c1 : hI h 101 1 = nI c) (hc : isH (hR h 102 c)) :
    ∃ h', s_X1_record_J12 101 2 h = some ((), h') ∧ ∀ x, 246 ≤ x → hR h' x = hR h x := by
  have hne : hR h 102 c ≠ 2 := by unfold isH at hc; omega
  have st2 : isSt 2 := Or.inl rfl
  obtain ⟨h1, a1, a2, a3, a4, a5⟩ := c_copyFrom S hc.st st2 hne R hp
  have far : ∀ x, (x < 103 ∨ 235 ≤ x) → ¬ ST (hR h 102 c) x := fun x hx z => by have := z.1; have := z.2.1; unfold isH at hc; omega
  refine ⟨sI h1 101 1 (nI (c + 1)), ?_, fun x hx => (a2.2.2 x (far x (by omega))).2.2⟩
  unfold s_X1_record_J12
  have i101 : hI h1 101 1 = nI c := by rw [(a2.2.2 101 (far 101 (by omega))).1]; exact c1
  have e0 : hR h 102 c ≠ 0 := by unfold isH at hc; omega
  simp only [getI, getL, getR, putI, putZ, putL, putR, ldI, ldR, stI, stR, divI, divL, bnd, inv, retI, retZ, retC, retR, retU, hT_sI, hT_sL, hT_sR, hR_sI, hR_sL, hN_sI, hN_sL, hN_sR, hI_sL, hI_sR, hL_sI, hL_sR, ↓reduceIte, true_and, and_true, and_self, ne_eq, not_false_eq_true, not_true_eq_false, reduceCtorEq, if_true, if_false, S.2.2.2.1.1, S.2.2.2.1.2.1, S.2.2.2.1.2.2, c1, nI_ge0 (show c < 2 ^ 31 by omega), nI_clamp (show c < 2 ^ 31 by omega), h4, e0, show ((102 : Nat) = 0) = False from eq_false (by decide), S.t0 hc.st, a1, a4.2.2.2.1.1, i101, nI_1]
theorem c_recR {h : Hp} {e v : Ent} {c : Nat} {u : Nat → Ent} {sn : Int32} (C : CS h e c u sn v) (hp : e.1 1 = 0 ∨ e.1 1 = 1) : ∃ h', s_X1_record 101 2 h = some ((), h') ∧ ∀ x, 246 ≤ x → hR h' x = hR h x := by
  obtain ⟨S, R, ⟨c4, c1, p1, p2, U⟩, -⟩ := C
  unfold s_X1_record
  by_cases q : c = 4
  · subst q
    have hd := c_drop S p1
    have F : Fr (fun x => x = 101 ∨ x = 102) h (sI (sR (sR (sR (sR h 102 0 (hR h 102 1)) 102 1 (hR h 102 2)) 102 2 (hR h 102 3)) 102 3 (hR h 102 0)) 101 1 (nI 3)) := (((((Fr.rfl' (P := fun x => x = 101 ∨ x = 102)).sR 102 0 _ (Or.inr rfl)).sR 102 1 _ (Or.inr rfl)).sR 102 2 _ (Or.inr rfl)).sR 102 3 _ (Or.inr rfl)).sI 101 1 _ (Or.inl rfl)
    have mp : ∀ x, (x = 101 ∨ x = 102) → Mut x := fun x hx => by
      rcases hx with q | q
      · rw [q]; exact mut_101
      · rw [q]; exact mut_102
    have st2 : isSt 2 := Or.inl rfl
    obtain ⟨h', b1, b2⟩ := c_recRJ (h := sI (sR (sR (sR (sR h 102 0 (hR h 102 1)) 102 1 (hR h 102 2)) 102 2 (hR h 102 3)) 102 3 (hR h 102 0)) 101 1 (nI 3)) (e := e) (c := 3) (S.wr F.1 (Nat.le_of_eq F.2.1.symm) (fun x hx h2 => by
      show hR (sR (sR (sR (sR h 102 0 (hR h 102 1)) 102 1 (hR h 102 2)) 102 2 (hR h 102 3)) 102 3 (hR h 102 0)) x = _
      rw [hR_sRn _ _ _ _ _ h2, hR_sRn _ _ _ _ _ h2, hR_sRn _ _ _ _ _ h2, hR_sRn _ _ _ _ _ h2])) (R.fr F S mp st2 (fun x hx => by omega)) hp (by omega) (by rw [hI_sI, if_pos ⟨rfl, rfl⟩]) (by
      show isH (hR (sR (sR (sR (sR h 102 0 (hR h 102 1)) 102 1 (hR h 102 2)) 102 2 (hR h 102 3)) 102 3 (hR h 102 0)) 102 3)
      rw [hR_sR, if_pos ⟨rfl, rfl⟩]
      exact p1 0 (by omega))
    refine ⟨h', ?_, fun x hx => (b2 x hx).trans (F.2.2 x (by omega)).2.2⟩
    simp only [getI, S.2.2.2.1.1, c1, if_true, show (nI 4 = 4) = True from eq_true rfl, inv, hd, bnd, show nI 4 - 1 = nI 3 from by decide]
    exact b1
  · obtain ⟨h', b1, b2⟩ := c_recRJ S R hp (show c < 4 by omega) c1 (p1 c (by omega))
    refine ⟨h', ?_, b2⟩
    simp only [getI, S.2.2.2.1.1, c1, if_true, nI_4 c c4, q, if_false]
    exact b1
/-! numbers in their ranges -/
def gdF (k v : Int32) : Bool := if k = 102 then v ≤ 60 else if k = 104 then 16 ≤ v ∧ v ≤ 95 else if k = 115 then v ≤ 30 else true
theorem b01 (b : Bool) (h : Hp) : retZ (if b then 1 else 0) h = some (if b then 1 else 0, h) := by cases b <;> rfl
theorem c_isGood {k v : Int32} (pv : PV k v) (h : Hp) : s_X4_isGoodNumber k v h = some (if gdF k v then 1 else 0, h) := by
  unfold s_X4_isGoodNumber gdF
  simp only [win8, bnd]
  rcases pv with ⟨rfl, rfl⟩ | ⟨hk, x, rfl, x1, x2⟩
  · rfl
  · have l1 : (1 : Int32) ≤ nI x := by rw [show (1 : Int32) = nI 1 from rfl, nI_leE (by omega) (by omega)]; exact x1
    have l99 : nI x ≤ 99 := by rw [show (99 : Int32) = nI 99 from rfl, nI_leE (by omega) (by omega)]; exact x2
    rcases isK_is hk with rfl | rfl | rfl | rfl
    · rw [if_pos rfl, if_pos rfl]
      by_cases z : nI x ≤ 60
      · rw [if_pos ⟨l1, z⟩, if_pos (by simpa using z)]; rfl
      · rw [if_neg (fun y => z y.2), if_neg (by simpa using z)]; rfl
    · rw [if_neg (show ¬ ((104 : Int32) = 102) by decide), if_pos (show (104 : Int32) = 104 from rfl), if_neg (show ¬ ((104 : Int32) = 102) by decide), if_pos (show (104 : Int32) = 104 from rfl)]
      by_cases z : 16 ≤ nI x ∧ nI x ≤ 95
      · rw [if_pos z, if_pos (by simpa using z)]; rfl
      · rw [if_neg z, if_neg (by simpa using z)]; rfl
    · rw [if_neg (by decide), if_neg (by decide), if_neg (by decide), if_pos rfl, if_pos ⟨l1, l99⟩]; rfl
    · rw [if_neg (show ¬ ((115 : Int32) = 102) by decide), if_neg (show ¬ ((115 : Int32) = 104) by decide), if_pos (show (115 : Int32) = 115 from rfl), if_neg (show ¬ ((115 : Int32) = 102) by decide), if_neg (show ¬ ((115 : Int32) = 104) by decide), if_pos (show (115 : Int32) = 115 from rfl)]
      by_cases z : nI x ≤ 30
      · rw [if_pos ⟨l1, z⟩, if_pos (by simpa using z)]; rfl
      · rw [if_neg (fun y => z y.2), if_neg (by simpa using z)]; rfl
def gLF (L : List (Int32 × Int32)) : Nat → Nat → Bool
  | 0, _ => true
  | d + 1, k => if gdF (L.getD k (0, 0)).1 (L.getD k (0, 0)).2 then gLF L d (k + 1) else false
theorem c_goodL {h : Hp} {P : Nat} {L : List (Int32 × Int32)} (O : PO h P L.length) (A : AtL (hI h (P + 1)) (hI h (P + 2)) 0 L) (V : ∀ j, j < L.length → PV (L.getD j (0, 0)).1 (L.getD j (0, 0)).2) : ∀ (d k n : Nat), k + d = L.length → d < n → s_X4_hasGoodNumbers_L2 n P (nI k) h = some (if gLF L d k then 1 else 0, h)
  | 0, k, n, hk, hn => by
    obtain ⟨m, rfl, -⟩ := fuel_succ hn
    obtain ⟨e1, e2, e3, e4, e5, e6, e7⟩ := O
    rw [s_X4_hasGoodNumbers_L2]
    simp only [getI, e1, if_true, e4]
    rw [if_pos (by rw [nI_leE (by omega) (by omega)]; omega)]
    rfl
  | d + 1, k, n, hk, hn => by
    obtain ⟨m, rfl, hm⟩ := fuel_succ hn
    have O' := O
    obtain ⟨e1, e2, e3, e4, e5, e6, e7⟩ := O
    have hk' : k < L.length := by omega
    have a := A k hk'
    rw [Nat.zero_add] at a
    rw [s_X4_hasGoodNumbers_L2]
    simp only [getI, e1, if_true, e4]
    rw [if_neg (by rw [nI_leE (by omega) (by omega)]; omega)]
    simp only [getR, ldI, e1, e2, e3, e5, e6, true_and, nI_ge0 (show k < 2 ^ 31 by omega), nI_clamp (show k < 2 ^ 31 by omega), hk', show ¬ (P + 1 = 0) by omega, show ¬ (P + 2 = 0) by omega, ne_eq, not_false_eq_true, if_true, a.1, a.2, c_isGood (V k hk'), bnd, nI_1]
    unfold gLF
    cases gdF (L.getD k (0, 0)).1 (L.getD k (0, 0)).2 with
    | true => exact c_goodL O' A V d (k + 1) m (by omega) (by omega)
    | false => rfl
