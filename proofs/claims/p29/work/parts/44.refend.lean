/-! the reference's minute against the row of a minute -/
theorem wanN_upd (w : Row) {j : Nat} (hj : j < 15) (v : Int32) (i : Nat) : wanN (upd w j v) i = wanN w i := by
  unfold wanN phN wtN wmN
  simp only [pt_upd _ _ _ _ _ hj]
theorem lentN_upd (w : Row) {j : Nat} (hj : j < 15) (v : Int32) (nl : Nat) (x : Int32) : lentN (upd w j v) nl x = lentN w nl x := by
  unfold lentN
  have : lndN (upd w j v) x = lndN w x := funext fun l => by
    unfold lndN
    rw [upd_ne _ _ (by omega), upd_ne _ _ (by omega)]
  rw [this]
theorem shN_upd (w : Row) {j : Nat} (hj : j < 15) (v : Int32) (nl i : Nat) : shN (upd w j v) nl i = shN w nl i := by
  unfold shN
  have : borN (upd w j v) (nI i) = borN w (nI i) := funext fun l => by
    unfold borN
    rw [upd_ne _ _ (by omega), upd_ne _ _ (by omega)]
  rw [this, lentN_upd w hj, pt_upd _ _ _ _ _ hj]
theorem wanA_upd (w : Row) {j : Nat} (hj : j < 15) (v : Int32) (n : Nat) : wanA (upd w j v) n = wanA w n := funext fun i => by
  unfold wanA
  rw [wanN_upd w hj]
theorem shA_upd (w : Row) {j : Nat} (hj : j < 15) (v : Int32) (n nl : Nat) : shA (upd w j v) n nl = shA w n nl := funext fun i => by
  unfold shA
  rw [shN_upd w hj]
theorem WL.lo {w : Row} {n nl j : Nat} {v : Int32} (hj : j < 15) (q : WL w n nl) : WL (upd w j v) n nl := by
  refine ⟨fun l hl => ?_, fun i hi => ?_⟩
  · rw [upd_ne _ _ (by omega)]
    exact q.1 l hl
  · rw [pt_upd _ _ _ _ _ hj, lentN_upd w hj]
    exact q.2 i hi
theorem aftR_off {w : Row} {n nl : Nat} (h : w 1 = 0) : aftR w n nl = upd (itF coolF 0 n w) 11 (w 11 + 1) := by
  unfold aftR midR
  rw [if_pos h, rest_off (by rw [upd_ne _ _ (by omega)]; exact h), itF_upd (fun w i v => coolF_upd (show 11 < 15 by omega) w i v)]
theorem aftR_on {w : Row} {n nl : Nat} (h : w 1 ≠ 0) : aftR w n nl = itF unlockF 0 n (itF coolF 0 n (midR w n nl)) := by
  unfold aftR
  refine rest_on ?_
  rw [midR_lo w n nl 1 (by omega) (by omega) (by omega) (by omega) (by omega) (by omega)]
  exact h
/-- houses after a whole minute -/
theorem minR_WH {w : Row} {n nl t : Nat} (h8 : n ≤ 8) (ht : t ≤ 39000) (HM : ∀ i, i < n → WH (midR w n nl) i (t + 1)) (hp : w 1 = 0 ∨ w 1 = 1) : ∀ i, i < n → WH (minR w n nl) i (t + 1) := by
  intro i hi
  have e : midR w n nl 1 = w 1 := midR_lo w n nl 1 (by omega) (by omega) (by omega) (by omega) (by omega) (by omega)
  have h1 : WH (aftR w n nl) i (t + 1) := by
    unfold aftR
    rcases hp with q | q
    · rw [rest_off (by rw [e]; exact q)]
      exact WH.coolAll (by omega) n 0 _ (by omega) HM i hi
    · rw [rest_on (by rw [e, q]; decide)]
      exact WH.unlockAll n 0 _ (by omega) (WH.coolAll (by omega) n 0 _ (by omega) HM) i hi
  unfold minR
  exact WH.lo (by omega) (WH.lo (by omega) (h1.congr (fun k hk => lsF_lo _ _ _ _ _ (by omega))))
