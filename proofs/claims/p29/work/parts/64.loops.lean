/-! counting loops -/
def isF (w : Row) (k : Nat) (x : Int32) (i : Nat) : Int32 := if pt w i k = x then 1 else 0
theorem c_washersInL {h : Hp} {e : Ent} (S : Sh h) (R : SRe h 2 e) (x : Int32) : ∀ (d k f : Nat) (v : Int32), k + d = e.2.1 → d < f → s_X6_washersIn_L4 f 2 x v (nI k) h = some (sumL (isF e.1 9 x) d k v, h)
  | 0, k, f, v, hk, hf => by
    obtain ⟨m, rfl, -⟩ := fuel_succ hf
    have n8 : e.2.1 ≤ 8 := R.1.2.1
    have e3 : hI h 2 3 = nI e.2.1 := by rw [R.2.1.1, R.1.1]
    rw [s_X6_washersIn_L4]
    simp only [get6 S, e3, nI_leE (show e.2.1 < 2 ^ 31 by omega) (show k < 2 ^ 31 by omega), show e.2.1 ≤ k by omega, if_true]
    rfl
  | d + 1, k, f, v, hk, hf => by
    obtain ⟨m, rfl, hm⟩ := fuel_succ hf
    have n8 : e.2.1 ≤ 8 := R.1.2.1
    have hk8 : k < 8 := by omega
    have e3 : hI h 2 3 = nI e.2.1 := by rw [R.2.1.1, R.1.1]
    have b1 : hI h (2 + 8 + 2 * k) 1 = pt e.1 k 9 := (R.hr (show k < e.2.1 by omega)).w.1.1
    rw [s_X6_washersIn_L4]
    simp only [get6 S, e3, nI_leE (show e.2.1 < 2 ^ 31 by omega) (show k < 2 ^ 31 by omega), show ¬ (e.2.1 ≤ k) by omega, if_false, inv6 S, c_washerOf S (show isSt 2 from Or.inl rfl) hk8, bnd, getW S hk8, b1, nI_1]
    show _ = some (sumL (isF e.1 9 x) d (k + 1) (v + isF e.1 9 x k), h)
    unfold isF
    by_cases q : pt e.1 k 9 = x
    · rw [if_pos q, if_pos q]
      exact c_washersInL S R x d (k + 1) m _ (by omega) (by omega)
    · rw [if_neg q, if_neg q]
      exact c_washersInL S R x d (k + 1) m _ (by omega) (by omega)
theorem c_doorsInL {h : Hp} {e : Ent} (S : Sh h) (R : SRe h 2 e) (x : Int32) : ∀ (d k f : Nat) (v : Int32), k + d = e.2.1 → d < f → s_X6_doorsIn_L4 f 2 x v (nI k) h = some (sumL (isF e.1 13 x) d k v, h)
  | 0, k, f, v, hk, hf => by
    obtain ⟨m, rfl, -⟩ := fuel_succ hf
    have n8 : e.2.1 ≤ 8 := R.1.2.1
    have e3 : hI h 2 3 = nI e.2.1 := by rw [R.2.1.1, R.1.1]
    rw [s_X6_doorsIn_L4]
    simp only [get6 S, e3, nI_leE (show e.2.1 < 2 ^ 31 by omega) (show k < 2 ^ 31 by omega), show e.2.1 ≤ k by omega, if_true]
    rfl
  | d + 1, k, f, v, hk, hf => by
    obtain ⟨m, rfl, hm⟩ := fuel_succ hf
    have n8 : e.2.1 ≤ 8 := R.1.2.1
    have hk8 : k < 8 := by omega
    have e3 : hI h 2 3 = nI e.2.1 := by rw [R.2.1.1, R.1.1]
    have b1 : hI h (2 + 8 + 2 * k) 2 = pt e.1 k 13 := (R.hr (show k < e.2.1 by omega)).w.1.2.2.2.2.1
    rw [s_X6_doorsIn_L4]
    simp only [get6 S, e3, nI_leE (show e.2.1 < 2 ^ 31 by omega) (show k < 2 ^ 31 by omega), show ¬ (e.2.1 ≤ k) by omega, if_false, inv6 S, c_washerOf S (show isSt 2 from Or.inl rfl) hk8, bnd, getW S hk8, b1, nI_1]
    show _ = some (sumL (isF e.1 13 x) d (k + 1) (v + isF e.1 13 x k), h)
    unfold isF
    by_cases q : pt e.1 k 13 = x
    · rw [if_pos q, if_pos q]
      exact c_doorsInL S R x d (k + 1) m _ (by omega) (by omega)
    · rw [if_neg q, if_neg q]
      exact c_doorsInL S R x d (k + 1) m _ (by omega) (by omega)
