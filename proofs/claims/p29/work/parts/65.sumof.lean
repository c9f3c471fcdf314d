/-! sums over the houses -/
theorem c_tellH {h : Hp} {e : Ent} (S : Sh h) (R : SRe h 2 e) {i : Nat} (hi : i < e.2.1) {k : Nat} (hk : k < 9) : s_X2_tell (2 + 7 + 2 * i) (nI (k + 1)) h = some (pt e.1 i k, h) := by
  have n8 : e.2.1 ≤ 8 := R.1.2.1
  have hi8 : i < 8 := by omega
  obtain ⟨v1, v2, v3, v4, v5, v6, v7, v8, v9⟩ := (R.hr hi).c
  unfold s_X2_tell
  simp only [S.getH hi8, v1, v2, v3, v4, v5, v6, v7, v8, v9, retI]
  rcases (show k = 0 ∨ k = 1 ∨ k = 2 ∨ k = 3 ∨ k = 4 ∨ k = 5 ∨ k = 6 ∨ k = 7 ∨ k = 8 by omega) with rfl | rfl | rfl | rfl | rfl | rfl | rfl | rfl | rfl <;> rfl
theorem c_sumOfL {h : Hp} {e : Ent} (S : Sh h) (R : SRe h 2 e) {p : Nat} (hp : p < 9) : ∀ (d k f : Nat) (v : Int32), k + d = e.2.1 → d < f → s_X6_sumOf_L4 f 2 (nI (p + 1)) v (nI k) h = some (sumL (fun i => pt e.1 i p) d k v, h)
  | 0, k, f, v, hk, hf => by
    obtain ⟨m, rfl, -⟩ := fuel_succ hf
    have n8 : e.2.1 ≤ 8 := R.1.2.1
    have e3 : hI h 2 3 = nI e.2.1 := by rw [R.2.1.1, R.1.1]
    rw [s_X6_sumOf_L4]
    simp only [get6 S, e3, nI_leE (show e.2.1 < 2 ^ 31 by omega) (show k < 2 ^ 31 by omega), show e.2.1 ≤ k by omega, if_true]
    rfl
  | d + 1, k, f, v, hk, hf => by
    obtain ⟨m, rfl, hm⟩ := fuel_succ hf
    have n8 : e.2.1 ≤ 8 := R.1.2.1
    have hk8 : k < 8 := by omega
    have e3 : hI h 2 3 = nI e.2.1 := by rw [R.2.1.1, R.1.1]
    rw [s_X6_sumOf_L4]
    simp only [get6 S, e3, nI_leE (show e.2.1 < 2 ^ 31 by omega) (show k < 2 ^ 31 by omega), show ¬ (e.2.1 ≤ k) by omega, if_false, c_house S (show isSt 2 from Or.inl rfl) hk8, inv, S.tH (show isSt 2 from Or.inl rfl) hk8, if_true, c_tellH S R (show k < e.2.1 by omega) hp, bnd, nI_1]
    exact c_sumOfL S R hp d (k + 1) m _ (by omega) (by omega)
