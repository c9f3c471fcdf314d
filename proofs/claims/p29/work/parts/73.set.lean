/-! set -/
theorem SR.set {h : Hp} {w : Row} {n nl k : Nat} {v : Int32} (S : Sh h) (R : SR h 2 w n nl) (hk : k < 4) : Ch (fun x => x = 3) h (sI h 3 k v) ∧ SR (sI h 3 k v) 2 (upd w (3 + k) v) n nl := by
  have hN0 : 245 ≤ hN h := S.2.2.2.2.2.2.2.2
  have st2 : isSt 2 := Or.inl rfl
  have c1 : Ch (fun x => x = 3) h (sI h 3 k v) := (Ch.rfl' (P := fun x => x = 3)).sI 3 k _ rfl
  have hPm : ∀ x, (fun x => x = 3) x → Mut x := fun x hx => by
    have : x = 3 := hx
    exact ⟨by omega, fun T t => by unfold isSt at t; omega⟩
  obtain ⟨⟨q1, q2, q3, q4⟩, p1, p2, p3, p4, p5⟩ := R
  have hw : ∀ j, j ≠ 3 + k → upd w (3 + k) v j = w j := fun j hj => upd_ne _ _ hj
  refine ⟨c1, ⟨by rw [hw 2 (by omega)]; exact q1, q2, by rw [hw 8 (by omega)]; exact q3, q4⟩, ?_, fun j hj => ?_, fun i hi => ?_, fun i i1 i2 => ?_, fun j hj q hq => ?_⟩
  · rw [hw 2 (by omega), hw 8 (by omega), hw 0 (by omega), hw 11 (by omega), hw 1 (by omega), hw 7 (by omega), hw 13 (by omega), hw 14 (by omega), hI_sIn _ _ _ _ _ (by omega)]
    exact p1
  · show hI (sI h 3 k v) 3 j = _
    rw [hI_sI]
    by_cases q : j = k
    · rw [if_pos ⟨rfl, q⟩, q, upd_eq]
    · rw [if_neg (fun z => q z.2), hw _ (by omega)]
      exact p2 j hj
  · exact (p3 i hi).ch c1 hPm (by omega) (by omega) (by omega) (by omega) (fun q _ => hw _ (by omega))
  · exact (p4 i i1 i2).ch c1 hPm (by omega) (by omega) (by omega) (by omega)
  · rw [hI_sIn _ _ _ _ _ (by omega), hw _ (by omega)]
    exact p5 j hj q hq
theorem WF.set {w : Row} {n nl t k : Nat} {v : Int32} (hk : k < 4) (B' : WB (upd w (3 + k) v)) (F : WF w n nl t) : WF (upd w (3 + k) v) n nl t := by
  obtain ⟨⟨h8, h10, e2, e8⟩, hp, B, L, H, s4, s5, s6, N⟩ := F
  have hw : ∀ j, j ≠ 3 + k → upd w (3 + k) v j = w j := fun j hj => upd_ne _ _ hj
  refine ⟨⟨h8, h10, by rw [hw 2 (by omega)]; exact e2, by rw [hw 8 (by omega)]; exact e8⟩, by rw [hw 1 (by omega)]; exact hp, B', L.lo (by omega), fun i hi => (H i hi).lo (by omega), ?_, ?_, ?_, fun j hj k hk => by rw [hw _ (by omega)]; exact N j hj k hk⟩
  · rw [hw 12 (by omega), s4]
    exact (sumP_congr (fun j _ => pt_upd _ _ _ _ _ (by omega))).symm
  · rw [hw 9 (by omega), s5]
    exact (sumP_congr (fun j _ => pt_upd _ _ _ _ _ (by omega))).symm
  · rw [hw 10 (by omega), s6]
    exact (sumP_congr (fun j _ => pt_upd _ _ _ _ _ (by omega))).symm
