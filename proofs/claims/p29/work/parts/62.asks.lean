/-! what a house asks -/
def askF (w : Row) (i : Nat) (x : Int32) : Int32 := if pt w i 9 = 1 then 2 * (x * pt w i 1) else x * pt w i 1
theorem c_askOf {h : Hp} {e : Ent} (S : Sh h) (R : SRe h 2 e) {i : Nat} (hi : i < e.2.1) (hi8 : i < 8) (x : Int32) : s_X6_askOf 2 (nI i) x h = some (askF e.1 i x, h) := by
  have st2 : isSt 2 := Or.inl rfl
  obtain ⟨v1, v2, v3, v4, v5, v6, v7, v8, v9⟩ := (R.hr hi).c
  have b1 : hI h (2 + 8 + 2 * i) 1 = pt e.1 i 9 := (R.hr hi).w.1.1
  unfold s_X6_askOf askF
  simp only [c_house S st2 hi8, S.getH hi8, inv6 S, c_washerOf S st2 hi8, bnd, getW S hi8, v2, b1, retI]
  split <;> rfl
