/-! the law's haggling, whole -/
def clipV (pr : Nat) (v : Int32) : Int32 := if nI pr + v < 1 then 0 else if nI pr + v ≤ 50 then v else 0
def byV (b A : Int32) : Int32 := if A ≤ b ∨ 2 * b < A then 1 else -1
def coV (b A : Int32) : Int32 := if b < A then 0 else (b + A) / 2
theorem byV_is (b A : Int32) : byV b A = 1 ∨ byV b A = -1 := by
  unfold byV
  split
  · exact Or.inl rfl
  · exact Or.inr rfl
theorem haggled_by {v7 v8 v9 v10 v11 : Int32} {i ot x : Nat} {h : Hp} (T : LT5 h) {q o p l g : Row} (ho3 : ot < 3) (hx : ho o ot 1 = nI x) (co by_ : Int32) : s_X10_haggled_J201 241 242 244 (nI i) (nI ot) v7 v8 v9 v10 v11 by_ co (sV h q o p l g) = s_X10_haggled_J252 241 242 244 (nI i) (nI ot) v7 v8 v9 v10 v11 co 242 (16 * nI ot + 1) (ho o ot 1) (clipV x by_) (sV h q o p l g) := by
  unfold s_X10_haggled_J201 s_X10_haggled_J246 clipV
  simp only [vo_1 T _ _ _ _ _ ho3, hx]
  by_cases z : nI x + by_ < 1
  · rw [if_pos z, if_pos z]
  · rw [if_neg z, if_neg z]
    by_cases y : nI x + by_ ≤ 50
    · rw [if_pos y, if_pos y]
    · rw [if_neg y, if_neg y]
theorem haggled_co {n b m v10 A : Int32} {i ot x : Nat} {h : Hp} (T : LT5 h) {q o p l g : Row} (ho3 : ot < 3) (hx : ho o ot 1 = nI x) (by_ : Int32) : s_X10_haggled_J181 241 242 244 (nI i) (nI ot) n b m v10 A by_ (sV h q o p l g) = s_X10_haggled_J252 241 242 244 (nI i) (nI ot) n b m v10 A (coV b A) 242 (16 * nI ot + 1) (ho o ot 1) (clipV x by_) (sV h q o p l g) := by
  unfold s_X10_haggled_J181 coV
  by_cases z : b < A
  · rw [if_pos z, if_pos z]
    exact haggled_by T ho3 hx 0 by_
  · rw [if_neg z, if_neg z, divI_2]
    exact haggled_by T ho3 hx _ by_
theorem haggled_ask {n b m v10 A v f : Int32} {i ot x : Nat} {h : Hp} (T : LT5 h) {q o p l g : Row} (ho3 : ot < 3) (hx : ho o ot 1 = nI x) (hf : v * f = A) : s_X10_haggled_J157 241 242 244 (nI i) (nI ot) n b m v10 v f (sV h q o p l g) = s_X10_haggled_J252 241 242 244 (nI i) (nI ot) n b m v10 A (coV b A) 242 (16 * nI ot + 1) (ho o ot 1) (clipV x (byV b A)) (sV h q o p l g) := by
  unfold s_X10_haggled_J157 s_X10_haggled_J176
  rw [hf]
  unfold byV
  by_cases z1 : A ≤ b
  · rw [if_pos z1, haggled_co T ho3 hx, if_pos (Or.inl z1)]
  · rw [if_neg z1]
    by_cases z2 : 2 * b < A
    · rw [if_neg (Int32.not_le.mpr z2), haggled_co T ho3 hx, if_pos (Or.inr z2)]
    · rw [if_pos (Int32.not_lt.mp z2), haggled_co T ho3 hx, if_neg (fun y => y.elim z1 z2)]
/-- the rows behind a refusal -/
theorem refuse_rel {q o p l w : Row} {nl i ot pr : Nat} (R : LRel q o p l w nl) (B : PB w) (hi : i < 3) (ho3 : ot < 3) (hio : i ≠ ot) (hpr : pt w ot 1 = nI pr) {V : Int32} (pe : ∃ y, prcF (nI pr + V) = nI y ∧ 1 ≤ y ∧ y ≤ 50) :
    LRel (upd q 9 (q 9 + 1)) (so o ot 1 (prcF (nI pr + V))) p l (refF w i ot V) nl ∧ PB (refF w i ot V) := by
  obtain ⟨hq, hA, hl, hn⟩ := R
  obtain ⟨py, pe1, pe2, pe3⟩ := pe
  have fp := fun j k hk => refF_pt w V hio (j := j) (k := k) hk
  refine ⟨⟨?_, fun j hj => ?_, ?_, hn⟩, ?_⟩
  · obtain ⟨q0, q1, q2, q3, q4, q5, q6, q7, q8, q9, q10, q11, q12⟩ := hq
    unfold LQ
    rw [refF_10, refF_lo _ _ _ _ (j := 0) (by omega) (by omega), refF_lo _ _ _ _ (j := 1) (by omega) (by omega), refF_lo _ _ _ _ (j := 3) (by omega) (by omega), refF_lo _ _ _ _ (j := 4) (by omega) (by omega), refF_lo _ _ _ _ (j := 5) (by omega) (by omega), refF_lo _ _ _ _ (j := 6) (by omega) (by omega), refF_lo _ _ _ _ (j := 7) (by omega) (by omega), refF_lo _ _ _ _ (j := 8) (by omega) (by omega), refF_lo _ _ _ _ (j := 9) (by omega) (by omega), refF_lo _ _ _ _ (j := 11) (by omega) (by omega), refF_lo _ _ _ _ (j := 13) (by omega) (by omega), refF_lo _ _ _ _ (j := 14) (by omega) (by omega)]
    unfold upd
    simp only [Nat.reduceEqDiff, if_false, if_true]
    exact ⟨q0, q1, q2, q3, q4, q5, q6, q7, q8, by rw [q9], q10, q11, q12⟩
  · refine HA.acc ?_ (fun c h1 h2 => ?_) (fun k h1 h2 => ?_) (hA j hj)
    · have hh := (hA j hj).1
      unfold HLc at hh ⊢
      rw [fp j 0 (by omega), fp j 1 (by omega), fp j 2 (by omega), fp j 3 (by omega), fp j 4 (by omega), fp j 7 (by omega), fp j 8 (by omega)]
      by_cases e : j = ot
      · subst e
        simp only [ho_so, Nat.reduceEqDiff, if_false, if_true, and_true, and_false, true_and, hpr]
        exact ⟨hh.1, hh.2.2⟩
      · have ne : ∀ c, c < 16 → ho (so o ot 1 (prcF (nI pr + V))) j c = ho o j c := fun c hc => ho_so_ne _ _ (Ne.symm e) (by omega) hc
        rw [ne 0 (by omega), ne 1 (by omega), ne 2 (by omega), ne 3 (by omega), ne 4 (by omega), ne 14 (by omega), ne 15 (by omega)]
        simp only [e, false_and, if_false, Nat.reduceEqDiff, and_false]
        exact hh
    · by_cases e : j = ot
      · subst e
        rw [ho_so, if_neg (by omega)]
      · exact ho_so_ne _ _ (Ne.symm e) (by omega) (by omega)
    · rw [fp j k h2, if_neg (fun y => by omega), if_neg (fun y => by omega)]
  · exact hl.hi (fun j hj => refF_hi w (by omega) (by omega) V hj)
  · intro j hj
    refine ⟨⟨by rw [fp j 15 (by omega), if_neg (fun y => by omega), if_neg (fun y => by omega)]; exact (B j hj).1.1, by unfold DV; rw [fp j 13 (by omega), if_neg (fun y => by omega), if_neg (fun y => by omega)]; exact (B j hj).1.2⟩, ?_⟩
    rw [fp j 1 (by omega)]
    by_cases e : j = ot
    · rw [if_pos ⟨e, rfl⟩, hpr]
      exact ⟨py, pe1, pe2, pe3⟩
    · rw [if_neg (fun y => e y.1), if_neg (fun y => by omega)]
      exact (B j hj).2
/-- the rows behind a deal -/
theorem deal_rel {q o p l w : Row} {nl i ot pr : Nat} (R : LRel q o p l w nl) (B : PB w) (hi : i < 3) (ho3 : ot < 3) (hio : i ≠ ot) (hn4 : nl < 4) (hpr : pt w ot 1 = nI pr) {n m co : Int32} (pe : ∃ y, prcF (nI pr + 1) = nI y ∧ 1 ≤ y ∧ y ≤ 50) :
    LRel (upd (upd q 7 (nI (nl + 1))) 8 (q 8 + 1)) (so (so (so (so (so o ot 1 (prcF (nI pr + 1))) i 2 (ho o i 2 - co)) i 14 (ho o i 14 + co)) ot 2 (ho o ot 2 + co)) ot 15 (ho o ot 15 + co)) p (upd (upd (upd (upd (upd l (5 * nl + 0) (nI ot)) (5 * nl + 1) (nI i)) (5 * nl + 2) n) (5 * nl + 3) m) (5 * nl + 4) co) (dealF w nl i ot n m co) (nl + 1) ∧ PB (dealF w nl i ot n m co) := by
  obtain ⟨hq, hA, hl, hn⟩ := R
  obtain ⟨py, pe1, pe2, pe3⟩ := pe
  have fp := fun j k (hj : j < 3) hk => dealF_pt w nl n m co hio (j := j) (k := k) (by omega) hk
  refine ⟨⟨?_, fun j hj => ?_, ?_, by omega⟩, ?_⟩
  · obtain ⟨q0, q1, q2, q3, q4, q5, q6, q7, q8, q9, q10, q11, q12⟩ := hq
    have dl := fun j (h1 : j < 15) h8 h9 => dealF_s w nl i ot n m co (j := j) h1 h8 h9
    unfold LQ
    rw [dealF_8, dealF_9, dl 0 (by omega) (by omega) (by omega), dl 1 (by omega) (by omega) (by omega), dl 3 (by omega) (by omega) (by omega), dl 4 (by omega) (by omega) (by omega), dl 5 (by omega) (by omega) (by omega), dl 6 (by omega) (by omega) (by omega), dl 7 (by omega) (by omega) (by omega), dl 10 (by omega) (by omega) (by omega), dl 11 (by omega) (by omega) (by omega), dl 13 (by omega) (by omega) (by omega), dl 14 (by omega) (by omega) (by omega)]
    unfold upd
    simp only [Nat.reduceEqDiff, if_false, if_true]
    exact ⟨q0, q1, q2, q3, q4, q5, q6, trivial, by rw [q8], q9, q10, q11, q12⟩
  · refine HA.acc ?_ (fun c h1 h2 => ?_) (fun k h1 h2 => ?_) (hA j hj)
    · have hh := (hA j hj).1
      unfold HLc at hh ⊢
      rw [fp j 0 hj (by omega), fp j 1 hj (by omega), fp j 2 hj (by omega), fp j 3 hj (by omega), fp j 4 hj (by omega), fp j 7 hj (by omega), fp j 8 hj (by omega)]
      by_cases e : j = ot
      · subst e
        have g : ∀ d, d < 16 → ho (so (so (so (so (so o j 1 (prcF (nI pr + 1))) i 2 (ho o i 2 - co)) i 14 (ho o i 14 + co)) j 2 (ho o j 2 + co)) j 15 (ho o j 15 + co)) j d = if d = 15 then ho o j 15 + co else if d = 2 then ho o j 2 + co else if d = 1 then prcF (nI pr + 1) else ho o j d := fun d hd => by
          rw [ho_so, ho_so, ho_so_ne _ _ hio (by omega) hd, ho_so_ne _ _ hio (by omega) hd, ho_so]
        rw [g 0 (by omega), g 1 (by omega), g 2 (by omega), g 3 (by omega), g 4 (by omega), g 14 (by omega), g 15 (by omega)]
        simp only [Nat.reduceEqDiff, if_false, if_true, hpr]
        exact ⟨hh.1, trivial, by rw [hh.2.2.1], hh.2.2.2.1, hh.2.2.2.2.1, hh.2.2.2.2.2.1, by rw [hh.2.2.2.2.2.2]⟩
      · by_cases e2 : j = i
        · subst e2
          have g : ∀ d, d < 16 → ho (so (so (so (so (so o ot 1 (prcF (nI pr + 1))) j 2 (ho o j 2 - co)) j 14 (ho o j 14 + co)) ot 2 (ho o ot 2 + co)) ot 15 (ho o ot 15 + co)) j d = if d = 14 then ho o j 14 + co else if d = 2 then ho o j 2 - co else ho o j d := fun d hd => by
            rw [ho_so_ne _ _ (Ne.symm hio) (by omega) hd, ho_so_ne _ _ (Ne.symm hio) (by omega) hd, ho_so, ho_so, ho_so_ne _ _ (Ne.symm hio) (by omega) hd]
          rw [g 0 (by omega), g 1 (by omega), g 2 (by omega), g 3 (by omega), g 4 (by omega), g 14 (by omega), g 15 (by omega)]
          simp only [e, if_false, Nat.reduceEqDiff, if_true]
          exact ⟨hh.1, hh.2.1, by rw [hh.2.2.1, Int32.sub_eq_add_neg], hh.2.2.2.1, hh.2.2.2.2.1, by rw [hh.2.2.2.2.2.1], hh.2.2.2.2.2.2⟩
        · have ne : ∀ d, d < 16 → ho (so (so (so (so (so o ot 1 (prcF (nI pr + 1))) i 2 (ho o i 2 - co)) i 14 (ho o i 14 + co)) ot 2 (ho o ot 2 + co)) ot 15 (ho o ot 15 + co)) j d = ho o j d := fun d hd => by
            rw [ho_so_ne _ _ (Ne.symm e) (by omega) hd, ho_so_ne _ _ (Ne.symm e) (by omega) hd, ho_so_ne _ _ (Ne.symm e2) (by omega) hd, ho_so_ne _ _ (Ne.symm e2) (by omega) hd, ho_so_ne _ _ (Ne.symm e) (by omega) hd]
          rw [ne 0 (by omega), ne 1 (by omega), ne 2 (by omega), ne 3 (by omega), ne 4 (by omega), ne 14 (by omega), ne 15 (by omega)]
          simp only [e, e2, if_false]
          exact hh
    · by_cases e : j = ot
      · subst e
        rw [ho_so, if_neg (by omega), ho_so, if_neg (by omega), ho_so_ne _ _ hio (by omega) (by omega), ho_so_ne _ _ hio (by omega) (by omega), ho_so, if_neg (by omega)]
      · by_cases e2 : j = i
        · subst e2
          rw [ho_so_ne _ _ (Ne.symm hio) (by omega) (by omega), ho_so_ne _ _ (Ne.symm hio) (by omega) (by omega), ho_so, if_neg (by omega), ho_so, if_neg (by omega), ho_so_ne _ _ (Ne.symm hio) (by omega) (by omega)]
        · rw [ho_so_ne _ _ (Ne.symm e) (by omega) (by omega), ho_so_ne _ _ (Ne.symm e) (by omega) (by omega), ho_so_ne _ _ (Ne.symm e2) (by omega) (by omega), ho_so_ne _ _ (Ne.symm e2) (by omega) (by omega), ho_so_ne _ _ (Ne.symm e) (by omega) (by omega)]
    · exact dealF_same w nl _ _ co hio (by omega) h2 (by omega) (by omega) (by omega) (by omega) (by omega)
  · intro j hj k hk
    rw [dealF_hi w nl (by omega) (by omega) _ _ _ (by omega)]
    by_cases e : j = nl
    · subst e
      rw [lsU_at _ _ _ _ _ _ _ hk]
      rcases (show k = 0 ∨ k = 1 ∨ k = 2 ∨ k = 3 ∨ k = 4 by omega) with y | y | y | y | y <;> subst y
      · rw [upd_ne _ _ (by omega), upd_ne _ _ (by omega), upd_ne _ _ (by omega), upd_ne _ _ (by omega), upd_eq]; rfl
      · rw [upd_ne _ _ (by omega), upd_ne _ _ (by omega), upd_ne _ _ (by omega), upd_eq]; rfl
      · rw [upd_ne _ _ (by omega), upd_ne _ _ (by omega), upd_eq]; rfl
      · rw [upd_ne _ _ (by omega), upd_eq]; rfl
      · rw [upd_eq]; rfl
    · rw [lsU_off _ _ _ _ _ _ _ (by omega), upd_ne _ _ (by omega), upd_ne _ _ (by omega), upd_ne _ _ (by omega), upd_ne _ _ (by omega), upd_ne _ _ (by omega)]
      exact hl j (by omega) k hk
  · intro j hj
    refine ⟨⟨by rw [dealF_same w nl _ _ co hio (by omega) (by omega) (by omega) (by omega) (by omega) (by omega) (by omega)]; exact (B j hj).1.1, by unfold DV; rw [dealF_same w nl _ _ co hio (by omega) (by omega) (by omega) (by omega) (by omega) (by omega) (by omega)]; exact (B j hj).1.2⟩, ?_⟩
    rw [fp j 1 hj (by omega)]
    by_cases e : j = ot
    · rw [if_pos e, if_pos rfl, hpr]
      exact ⟨py, pe1, pe2, pe3⟩
    · rw [if_neg e]
      by_cases e2 : j = i
      · rw [if_pos e2, if_neg (by omega), if_neg (by omega), if_neg (by omega)]
        exact (B j hj).2
      · rw [if_neg e2]
        exact (B j hj).2
