/-! haggle: a deal, the street -/
theorem c_lend {h : Hp} {nl : Nat} (S : Sh h) (e4 : hI h 2 4 = nI nl) (hl : nl < 10) (i o : Nat) (s m c : Int32) :
    s_X6_lend 2 (nI i) (nI o) s m c h = some ((), sI (sI (sI (sI (sI (sI h (2 + 23 + nl) 0 (nI o)) (2 + 23 + nl) 1 (nI i)) (2 + 23 + nl) 2 s) (2 + 23 + nl) 3 m) (2 + 23 + nl) 4 c) 2 4 (nI (nl + 1))) := by
  have st2 : isSt 2 := Or.inl rfl
  have tL := S.tL st2 hl
  have t0 : hT h 2 = (6, 0) := S.t0 st2
  have ne : (2 = 2 + 23 + nl) = False := eq_false (by omega)
  unfold s_X6_lend
  simp only [getR, getI, ldR, putI, retU, hT_sI, hI_sI, t0, S.r2 st2, S.t3 st2, e4, S.rL st2 hl, tL, nI_ge0 (show nl < 2 ^ 31 by omega), nI_clamp (show nl < 2 ^ 31 by omega), hl, true_and, ne, false_and, if_false, if_true, show ¬ (2 + 3 = 0) by decide, show ¬ (2 + 23 + nl = 0) by omega, ne_eq, not_false_eq_true, nI_1]
theorem c_deal {h : Hp} {w : Row} {n nl i o : Nat} (S : Sh h) (R : SR h 2 w n nl) (hi : i < n) (ho : o < n) (hio : i ≠ o) (hl : nl < 10) (s m c : Int32) :
    ∃ h1 h2, s_X6_pay 2 (nI i) (nI o) c h = some ((), h1) ∧ Sh h1 ∧ s_X6_lend 2 (nI i) (nI o) s m c h1 = some ((), h2) ∧ Fr (HgC nl i o) h h2 ∧ hR h2 = hR h ∧ SR h2 2 (dealF w nl i o s m c) n (nl + 1) := by
  have st2 : isSt 2 := Or.inl rfl
  have n8 := R.n8
  have hi8 : i < 8 := by omega
  have ho8 : o < 8 := by omega
  obtain ⟨h1, hh1⟩ : ∃ h1, h1 = sI (sI (sI (sI (sI (sI h (2 + 7 + 2 * i) 3 (pt w i 2 + -c)) (2 + 7 + 2 * i) 8 (pt w i 7 + c)) (2 + 7 + 2 * i) 6 (pt w i 5 + 1)) (2 + 7 + 2 * o) 3 (pt w o 2 + c)) (2 + 7 + 2 * o) 9 (pt w o 8 + c)) (2 + 7 + 2 * o) 2 (prcF (pt w o 1 + 1)) := ⟨_, rfl⟩
  have cp := c_pay S R hi ho hio c
  rw [← hh1] at cp
  have kA : HgC nl i o (2 + 7 + 2 * i) := Or.inr (Or.inl rfl)
  have kB : HgC nl i o (2 + 7 + 2 * o) := Or.inr (Or.inr (Or.inl rfl))
  have kL : HgC nl i o (2 + 23 + nl) := Or.inr (Or.inr (Or.inr rfl))
  have F1 : Fr (HgC nl i o) h h1 := by
    rw [hh1]
    exact ((((((Fr.rfl' (P := HgC nl i o)).sI _ 3 _ kA).sI _ 8 _ kA).sI _ 6 _ kA).sI _ 3 _ kB).sI _ 9 _ kB).sI _ 2 _ kB
  have r1 : hR h1 = hR h := by rw [hh1]; rfl
  have S1 : Sh h1 := S.of r1 F1.1 (Nat.le_of_eq F1.2.1.symm)
  have e4 : hI h1 2 4 = nI nl := by
    rw [hh1, hI_sIn _ _ _ _ _ (by omega), hI_sIn _ _ _ _ _ (by omega), hI_sIn _ _ _ _ _ (by omega), hI_sIn _ _ _ _ _ (by omega), hI_sIn _ _ _ _ _ (by omega), hI_sIn _ _ _ _ _ (by omega), R.2.1.2.1]
    exact R.1.2.2.1
  have F2 : Fr (HgC nl i o) h (sI (sI (sI (sI (sI (sI h1 (2 + 23 + nl) 0 (nI o)) (2 + 23 + nl) 1 (nI i)) (2 + 23 + nl) 2 s) (2 + 23 + nl) 3 m) (2 + 23 + nl) 4 c) 2 4 (nI (nl + 1))) := (((((F1.sI _ 0 _ kL).sI _ 1 _ kL).sI _ 2 _ kL).sI _ 3 _ kL).sI _ 4 _ kL).sI 2 4 _ (Or.inl rfl)
  have fo : ∀ x, x ≠ 2 → x ≠ 2 + 23 + nl → hI (sI (sI (sI (sI (sI (sI h1 (2 + 23 + nl) 0 (nI o)) (2 + 23 + nl) 1 (nI i)) (2 + 23 + nl) 2 s) (2 + 23 + nl) 3 m) (2 + 23 + nl) 4 c) 2 4 (nI (nl + 1))) x = hI h1 x := fun x x1 x2 => by
    rw [hI_sIn _ _ _ _ _ x1, hI_sIn _ _ _ _ _ x2, hI_sIn _ _ _ _ _ x2, hI_sIn _ _ _ _ _ x2, hI_sIn _ _ _ _ _ x2, hI_sIn _ _ _ _ _ x2]
  have f1 : ∀ x, x ≠ 2 + 7 + 2 * i → x ≠ 2 + 7 + 2 * o → hI h1 x = hI h x := fun x x1 x2 => by
    rw [hh1, hI_sIn _ _ _ _ _ x2, hI_sIn _ _ _ _ _ x2, hI_sIn _ _ _ _ _ x2, hI_sIn _ _ _ _ _ x1, hI_sIn _ _ _ _ _ x1, hI_sIn _ _ _ _ _ x1]
  refine ⟨h1, _, cp, S1, c_lend S1 e4 hl i o s m c, F2, r1, ?_⟩
  refine SR.hag S R hi ho hl F2.ch (fun j j1 j2 j3 _ => dealF_s w nl i o s m c j1 j2 j3) (dealF_8 _ _ _ _ _ _ _) (by omega) (fun k hk => ?_) ?_ (fun j hj k k1 k2 => dealF_same w nl s m c hio (by omega) k2 (by omega) (by omega) (by omega) (by omega) (by omega)) (fun j hj k hk => ?_) (fun j hj k hk => ?_)
  · rw [hI_sI, if_neg (fun z => hk z.2), hI_sIn _ _ _ _ _ (by omega), hI_sIn _ _ _ _ _ (by omega), hI_sIn _ _ _ _ _ (by omega), hI_sIn _ _ _ _ _ (by omega), hI_sIn _ _ _ _ _ (by omega), f1 2 (by omega) (by omega)]
  · rw [hI_sI, if_pos ⟨rfl, rfl⟩]
  · rw [fo _ (by omega) (by omega), dealF_pt w nl s m c hio (by omega) (by omega), hh1, hI_sI, hI_sI, hI_sI, hI_sI, hI_sI, hI_sI]
    have cc := (R.hr hj).cc k hk
    have ne : ¬ (2 + 7 + 2 * o = 2 + 7 + 2 * i) := by omega
    by_cases q : j = o
    · subst q
      rw [if_pos rfl]
      by_cases y1 : k = 1
      · subst y1
        rw [if_pos ⟨rfl, rfl⟩, if_pos rfl]
      · rw [if_neg (fun z => by omega), if_neg y1]
        by_cases y8 : k = 8
        · subst y8
          rw [if_pos ⟨rfl, rfl⟩, if_pos rfl]
        · rw [if_neg (fun z => by omega), if_neg y8]
          by_cases y2 : k = 2
          · subst y2
            rw [if_pos ⟨rfl, rfl⟩, if_pos rfl]
          · rw [if_neg (fun z => by omega), if_neg y2, if_neg (fun z => ne z.1), if_neg (fun z => ne z.1), if_neg (fun z => ne z.1)]
            exact cc
    · rw [if_neg q, if_neg (fun z => by omega), if_neg (fun z => by omega), if_neg (fun z => by omega)]
      by_cases x : j = i
      · subst x
        rw [if_pos rfl]
        by_cases y1 : k = 5
        · subst y1
          rw [if_pos ⟨rfl, rfl⟩, if_pos rfl]
        · rw [if_neg (fun z => by omega), if_neg y1]
          by_cases y8 : k = 7
          · subst y8
            rw [if_pos ⟨rfl, rfl⟩, if_pos rfl]
          · rw [if_neg (fun z => by omega), if_neg y8]
            by_cases y2 : k = 2
            · subst y2
              rw [if_pos ⟨rfl, rfl⟩, if_pos rfl]
            · rw [if_neg (fun z => by omega), if_neg y2]
              exact cc
      · rw [if_neg x, if_neg (fun z => by omega), if_neg (fun z => by omega), if_neg (fun z => by omega)]
        exact cc
  · rw [dealF_hi _ _ hi8 ho8 _ _ _ (by omega)]
    by_cases q : j = nl
    · subst q
      rw [lsU_at _ _ _ _ _ _ _ hk, hI_sIn _ _ _ _ _ (by omega)]
      rcases (show k = 0 ∨ k = 1 ∨ k = 2 ∨ k = 3 ∨ k = 4 by omega) with rfl | rfl | rfl | rfl | rfl
      · rw [hI_sI, if_neg (by omega), hI_sI, if_neg (by omega), hI_sI, if_neg (by omega), hI_sI, if_neg (by omega), hI_sI, if_pos ⟨rfl, rfl⟩]; rfl
      · rw [hI_sI, if_neg (by omega), hI_sI, if_neg (by omega), hI_sI, if_neg (by omega), hI_sI, if_pos ⟨rfl, rfl⟩]; rfl
      · rw [hI_sI, if_neg (by omega), hI_sI, if_neg (by omega), hI_sI, if_pos ⟨rfl, rfl⟩]; rfl
      · rw [hI_sI, if_neg (by omega), hI_sI, if_pos ⟨rfl, rfl⟩]; rfl
      · rw [hI_sI, if_pos ⟨rfl, rfl⟩]; rfl
    · rw [lsU_off _ _ _ _ _ _ _ (by omega), fo _ (by omega) (by omega), f1 _ (by omega) (by omega)]
      exact R.2.2.2.2.2 j (by omega) k hk
