/-! openDoor, bail -/
theorem putWL {h : Hp} (S : Sh h) {i : Nat} (hi : i < 8) {α : Type} (k : Nat) (v : Int64) (f : Hp → Option α) : putL h (2 + 8 + 2 * i) 7 k v f = f (sL h (2 + 8 + 2 * i) k v) := by
  simp only [putL, S.tW (show isSt 2 from Or.inl rfl) hi, if_true]
theorem c_tmp {g : Hp} {i t : Nat} {w : Row} (S : Sh g) (hi : i < 8) (H : WH w i t) (ht : t ≤ 40000) (R : WR g (2 + 8 + 2 * i) w i) : s_X7_temperature (2 + 8 + 2 * i) g = some (nI (tmpN (wtN w i) (wmN w i)), g) := by
  obtain ⟨wt, wm, hq⟩ := H.hw ht
  obtain ⟨n1, n2⟩ := hq.n
  obtain ⟨q1, q2, q3, q4⟩ := hq
  rw [n1, n2]
  exact c_temperature (S.tW (Or.inl rfl) hi) (R.1.2.2.1.trans q1) (by rw [R.1.2.2.2.1, q2, nI_l (by omega)]) (by omega) (by omega)
theorem WR.empty {g : Hp} {i : Nat} {w : Row} (hi8 : i < 8) (R : WR g (2 + 8 + 2 * i) w i) : Fr (fun x => x = 2 + 8 + 2 * i) g (sL (sI g (2 + 8 + 2 * i) 5 0) (2 + 8 + 2 * i) 6 0) ∧ WR (sL (sI g (2 + 8 + 2 * i) 5 0) (2 + 8 + 2 * i) 6 0) (2 + 8 + 2 * i) (sp (sp w i 11 0) i 12 0) i := by
  obtain ⟨⟨a1, a2, a3, a4, a5, a6⟩, a7⟩ := R
  have F : Fr (fun x => x = 2 + 8 + 2 * i) g (sL (sI g (2 + 8 + 2 * i) 5 0) (2 + 8 + 2 * i) 6 0) := ((Fr.rfl' (P := fun x => x = 2 + 8 + 2 * i)).sI _ 5 _ rfl).sL _ 6 _ rfl
  have f : ∀ k, k ≠ 11 → k ≠ 12 → pt (sp (sp w i 11 0) i 12 0) i k = pt w i k := fun k hk h2 => by rw [pt_sp, if_neg h2, pt_sp, if_neg hk]
  refine ⟨F, ⟨?_, fun z => ?_, ?_, ?_, ?_, ?_⟩, ?_⟩
  · rw [f 9 (by omega) (by omega), ← a1]; simp [hI_sI, hI_sL]
  · rw [f 9 (by omega) (by omega)] at z
    rw [f 10 (by omega) (by omega), f 14 (by omega) (by omega), ← (a2 z).1, ← (a2 z).2]
    simp [hI_sI, hI_sL]
  · rw [pt_sp, if_neg (by omega), pt_sp, if_pos rfl]; simp [hI_sI, hI_sL]
  · rw [pt_sp, if_pos rfl, hL_sL, if_pos ⟨rfl, rfl⟩]; rfl
  · rw [f 13 (by omega) (by omega), ← a5]; simp [hI_sI, hI_sL]
  · rw [f 17 (by omega) (by omega), ← a6]; simp [hI_sI, hI_sL]
  · exact a7.ch F.ch (fun x hx => by rw [hx]; exact Mut_W (Or.inl rfl) hi8) (fun k k1 k2 _ _ => (upd_ne _ _ (by omega)).trans (upd_ne _ _ (by omega)))
