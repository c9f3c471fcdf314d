/-! the records of the reference -/
theorem r_copyL {h : Hp} {A B la lb x y : Nat} (ta : hT h A = (20, la)) (tb : hT h B = (20, lb)) (hA : A ≠ 0) (hB : B ≠ 0) (hab : A ≠ B) (hx : x + 401 ≤ la) (hy : y + 401 ≤ lb) (hl : la < 2 ^ 20) (hl2 : lb < 2 ^ 20) : ∀ (d k f : Nat) (h1 : Hp), k + d = 401 → d < f → Fr (fun x => x = B) h h1 → hR h1 = hR h → hL h1 = hL h → (∀ j, j < k → hI h1 B (y + j) = hI h A (x + j)) → (∀ j, (j < y ∨ y + 401 ≤ j) → hI h1 B j = hI h B j) →
    ∃ h', s_X9_copy_L3 f A (nI x) B (nI y) (nI k) h1 = some ((), h') ∧ Fr (fun x => x = B) h h' ∧ hR h' = hR h ∧ (∀ j, j < 401 → hI h' B (y + j) = hI h A (x + j)) ∧ (∀ j, (j < y ∨ y + 401 ≤ j) → hI h' B j = hI h B j) ∧ hL h' = hL h
  | 0, k, f, h1, hk, hf, F, hr, hv, H, H2 => by
    obtain ⟨m, rfl, -⟩ := fuel_succ hf
    refine ⟨h1, ?_, F, hr, fun j hj => H j (by omega), H2, hv⟩
    rw [s_X9_copy_L3, show (401 : Int32) = nI 401 from rfl]
    simp only [nI_leE (show 401 < 2 ^ 31 by omega) (show k < 2 ^ 31 by omega), show 401 ≤ k by omega, if_true]
    rfl
  | d + 1, k, f, h1, hk, hf, F, hr, hv, H, H2 => by
    obtain ⟨m, rfl, hm⟩ := fuel_succ hf
    have ea : hI h1 A = hI h A := (F.2.2 A hab).1
    obtain ⟨h', c1, c2, c3, c4, c5, c6⟩ := r_copyL ta tb hA hB hab hx hy hl hl2 d (k + 1) m (sI h1 B (y + k) (hI h A (x + k))) (by omega) (by omega) (F.sI B (y + k) _ rfl) hr hv (fun j hj => by
      rw [hI_sI]
      by_cases q : j = k
      · rw [if_pos ⟨rfl, by omega⟩, q]
      · rw [if_neg (fun z => q (by omega))]
        exact H j (by omega)) (fun j hj => by
      rw [hI_sI, if_neg (fun z => by omega)]
      exact H2 j hj)
    refine ⟨h', ?_, c2, c3, c4, c5, c6⟩
    rw [s_X9_copy_L3, show (401 : Int32) = nI 401 from rfl]
    simp only [nI_leE (show 401 < 2 ^ 31 by omega) (show k < 2 ^ 31 by omega), show ¬ (401 ≤ k) by omega, if_false, ldI, stI, F.1, ta, tb, nI_add, nI_ge0 (show x + k < 2 ^ 31 by omega), nI_clamp (show x + k < 2 ^ 31 by omega), nI_ge0 (show y + k < 2 ^ 31 by omega), nI_clamp (show y + k < 2 ^ 31 by omega), show x + k < la by omega, show y + k < lb by omega, hA, hB, ea, true_and, and_self, ne_eq, not_false_eq_true, if_true, nI_1]
    exact c1
theorem r_copy {h : Hp} {A B la lb x y : Nat} (ta : hT h A = (20, la)) (tb : hT h B = (20, lb)) (hA : A ≠ 0) (hB : B ≠ 0) (hab : A ≠ B) (hx : x + 401 ≤ la) (hy : y + 401 ≤ lb) (hl : la < 2 ^ 20) (hl2 : lb < 2 ^ 20) :
    ∃ h', s_X9_copy A (nI x) B (nI y) h = some ((), h') ∧ Fr (fun x => x = B) h h' ∧ hR h' = hR h ∧ (∀ j, j < 401 → hI h' B (y + j) = hI h A (x + j)) ∧ (∀ j, (j < y ∨ y + 401 ≤ j) → hI h' B j = hI h B j) ∧ hL h' = hL h :=
  r_copyL ta tb hA hB hab hx hy hl hl2 401 0 100000 h (by omega) (by omega) Fr.rfl' rfl rfl (fun j hj => by omega) (fun _ _ => rfl)
theorem Sh.m4 {h : Hp} (S : Sh h) : hR h 241 4 = 245 := S.2.2.2.2.2.2.1.2.2.2.2.1
theorem Sh.m45 {h : Hp} (S : Sh h) : hT h 245 = (20, 1604) := S.2.2.2.2.2.2.2.1.2.2.2.1
theorem Sh.m1' {h : Hp} (S : Sh h) : hR h 241 1 = 243 := S.2.2.2.2.2.2.1.2.2.1
theorem Sh.m2' {h : Hp} (S : Sh h) : hR h 241 2 = 244 := S.2.2.2.2.2.2.1.2.2.2.1
theorem Sh.m43 {h : Hp} (S : Sh h) : hT h 243 = (20, 401) := S.2.2.2.2.2.2.2.1.2.1
theorem Sh.m44 {h : Hp} (S : Sh h) : hT h 244 = (20, 401) := S.2.2.2.2.2.2.2.1.2.2.1
/-- the reference's state -/
def RS (h : Hp) (w : Row) (c : Nat) (u : Nat → Ent) (sn : Int32) (v : Ent) : Prop :=
  hI h 242 = w ∧ (c ≤ 4 ∧ hI h 241 5 = nI c ∧ ∀ k, k < c → ∀ j, j < 401 → hI h 245 (401 * k + j) = (u k).1 j) ∧ (hI h 241 3 = sn ∧ (sn ≠ 0 → ∀ j, j < 401 → hI h 244 j = v.1 j)) ∧ ∀ i, 8 ≤ i → hI h 248 i = 0
theorem r_shift {h : Hp} (S : Sh h) {k49 : Nat → Hp → Rv Unit} {c : Nat} (hc : hI h 241 5 = nI (c + 1)) (h3 : c < 2 ^ 20) : ∀ (d k f : Nat) (h1 : Hp), k + d = 1203 → d < f → Fr (fun x => x = 245) h h1 → hR h1 = hR h → (∀ j, j < k → hI h1 245 j = hI h 245 (j + 401)) → (∀ j, k ≤ j → hI h1 245 j = hI h 245 j) →
    ∃ h', s_X9_record_L10 k49 f 241 (nI k) h1 = k49 241 (sI h' 241 5 (nI c)) ∧ Fr (fun x => x = 245) h h' ∧ hR h' = hR h ∧ ∀ j, j < 1203 → hI h' 245 j = hI h 245 (j + 401)
  | 0, k, f, h1, hk, hf, F, hr, H, H2 => by
    obtain ⟨m, rfl, -⟩ := fuel_succ hf
    have S1 : Sh h1 := S.of hr F.1 (Nat.le_of_eq F.2.1.symm)
    refine ⟨h1, ?_, F, hr, fun j hj => H j (by omega)⟩
    rw [s_X9_record_L10, show (1203 : Int32) = nI 1203 from rfl]
    have e5 : hI h1 241 5 = nI (c + 1) := by rw [(F.2.2 241 (by omega)).1]; exact hc
    have ec : nI (c + 1) - 1 = nI c := by
      rw [show (1 : Int32) = nI 1 from rfl, nI_sub (by omega)]
      rfl
    simp only [nI_leE (show 1203 < 2 ^ 31 by omega) (show k < 2 ^ 31 by omega), show 1203 ≤ k by omega, if_true, getI, putI, S1.m0, e5, ec]
  | d + 1, k, f, h1, hk, hf, F, hr, H, H2 => by
    obtain ⟨m, rfl, hm⟩ := fuel_succ hf
    have S1 : Sh h1 := S.of hr F.1 (Nat.le_of_eq F.2.1.symm)
    have e1 : hI h1 245 (k + 401) = hI h 245 (k + 401) := H2 _ (by omega)
    obtain ⟨h', c1, c2, c3, c4⟩ := r_shift S (k49 := k49) hc h3 d (k + 1) m (sI h1 245 k (hI h 245 (k + 401))) (by omega) (by omega) (F.sI 245 k _ rfl) hr (fun j hj => by
      rw [hI_sI]
      by_cases q : j = k
      · rw [if_pos ⟨rfl, q⟩, q]
      · rw [if_neg (fun z => q z.2)]
        exact H j (by omega)) (fun j hj => by
      rw [hI_sI, if_neg (fun z => by omega)]
      exact H2 j (by omega))
    refine ⟨h', ?_, c2, c3, c4⟩
    rw [s_X9_record_L10, show (1203 : Int32) = nI 1203 from rfl, show (401 : Int32) = nI 401 from rfl]
    simp only [nI_leE (show 1203 < 2 ^ 31 by omega) (show k < 2 ^ 31 by omega), show ¬ (1203 ≤ k) by omega, if_false, getR, ldI, stI, S1.m0, S1.m4, S1.m45, nI_add, nI_ge0 (show k + 401 < 2 ^ 31 by omega), nI_clamp (show k + 401 < 2 ^ 31 by omega), nI_ge0 (show k < 2 ^ 31 by omega), nI_clamp (show k < 2 ^ 31 by omega), show k + 401 < 1604 by omega, show k < 1604 by omega, show ((245 : Nat) = 0) = False from eq_false (by decide), e1, true_and, and_self, ne_eq, not_false_eq_true, if_true, nI_1]
    exact c1
theorem r_recordJ {h : Hp} {w : Row} {c : Nat} {u : Nat → Ent} {sn : Int32} {v e : Ent} (S : Sh h) (C : RS h w c u sn v) (h4 : c < 4) (he : e.1 = w) :
    ∃ h', s_X9_record_J49 241 h = some ((), h') ∧ Fr (fun x => x = 241 ∨ x = 245) h h' ∧ hR h' = hR h ∧ RS h' w (c + 1) (fun k => if k = c then e else u k) sn v ∧ hI h' 241 7 = hI h 241 7 := by
  obtain ⟨r1, ⟨r2, r3, r4⟩, ⟨r5, r6⟩, r7⟩ := C
  obtain ⟨h1, a1, a2, a3, a4, a5, -⟩ := r_copy (h := h) (A := 242) (B := 245) (x := 0) (y := c * 401) S.m2 S.m45 (by decide) (by decide) (by decide) (by omega) (by omega) (by omega) (by omega)
  have S1 : Sh h1 := S.of a3 a2.1 (Nat.le_of_eq a2.2.1.symm)
  have F2 : Fr (fun x => x = 241 ∨ x = 245) h (sI h1 241 5 (nI (c + 1))) := (a2.mono (fun x hx => Or.inr hx)).sI 241 5 _ (Or.inl rfl)
  refine ⟨sI h1 241 5 (nI (c + 1)), ?_, F2, a3, ⟨?_, ⟨by omega, ?_, fun k hk j hj => ?_⟩, ⟨?_, fun q j hj => ?_⟩, fun i hi => ?_⟩, by rw [hI_sI, if_neg (fun z => by omega), (a2.2.2 241 (by omega)).1]⟩
  · unfold s_X9_record_J49
    have e5 : hI h1 241 5 = nI c := by rw [(a2.2.2 241 (by omega)).1]; exact r3
    have em : nI c * 401 = nI (c * 401) := nI_mul c 401
    simp only [getR, getI, putI, bnd, retU, S.m0, S.m1, S.m4, r3, em, show (0 : Int32) = nI 0 from rfl, a1, S1.m0, e5, nI_1, true_and, show ((242 : Nat) = 0) = False from eq_false (by decide), show ((245 : Nat) = 0) = False from eq_false (by decide), ne_eq, not_false_eq_true, if_true]
  · rw [(F2.2.2 242 (by omega)).1]; exact r1
  · rw [hI_sI, if_pos ⟨rfl, rfl⟩]
  · rw [hI_sIn _ _ _ _ _ (by omega)]
    by_cases q : k = c
    · show hI h1 245 (401 * k + j) = (if k = c then e else u k).1 j
      rw [if_pos q, q, Nat.mul_comm, a4 j hj, Nat.zero_add, r1, he]
    · show hI h1 245 (401 * k + j) = (if k = c then e else u k).1 j
      rw [if_neg q, a5 _ (by omega)]
      exact r4 k (by omega) j hj
  · rw [hI_sI, if_neg (fun z => by omega), (a2.2.2 241 (by omega)).1]
    exact r5
  · rw [(F2.2.2 244 (by omega)).1]
    exact r6 q j hj
  · rw [(F2.2.2 248 (by omega)).1]
    exact r7 i hi
theorem r_record {h : Hp} {w : Row} {c : Nat} {u : Nat → Ent} {sn : Int32} {v e : Ent} (S : Sh h) (C : RS h w c u sn v) (he : e.1 = w) :
    ∃ h', s_X9_record 241 h = some ((), h') ∧ Fr (fun x => x = 241 ∨ x = 245) h h' ∧ hR h' = hR h ∧ RS h' w (recC c) (recU c u e) sn v ∧ hI h' 241 7 = hI h 241 7 := by
  unfold s_X9_record recC recU
  have C' := C
  obtain ⟨r1, ⟨r2, r3, r4⟩, ⟨r5, r6⟩, r7⟩ := C
  by_cases q : c = 4
  · subst q
    obtain ⟨h1, a1, a2, a3, a4⟩ := r_shift S (k49 := fun y0 h => s_X9_record_J49 y0 h) (c := 3) r3 (by omega) 1203 0 100000 h (by omega) (by omega) Fr.rfl' rfl (fun j hj => by omega) (fun _ _ => rfl)
    have S1 : Sh (sI h1 241 5 (nI 3)) := (S.of (h' := h1) a3 a2.1 (Nat.le_of_eq a2.2.1.symm))
    have F1 : Fr (fun x => x = 241 ∨ x = 245) h (sI h1 241 5 (nI 3)) := (a2.mono (fun x hx => Or.inr hx)).sI 241 5 _ (Or.inl rfl)
    have C1 : RS (sI h1 241 5 (nI 3)) w 3 (fun k => u (k + 1)) sn v := by
      refine ⟨by rw [(F1.2.2 242 (by omega)).1]; exact r1, ⟨by omega, by rw [hI_sI, if_pos ⟨rfl, rfl⟩], fun k hk j hj => ?_⟩, ⟨?_, fun q j hj => ?_⟩, fun i hi => ?_⟩
      · rw [hI_sIn _ _ _ _ _ (by omega), a4 _ (by omega), show 401 * k + j + 401 = 401 * (k + 1) + j by omega]
        exact r4 (k + 1) (by omega) j hj
      · rw [hI_sI, if_neg (fun z => by omega), (a2.2.2 241 (by omega)).1]
        exact r5
      · rw [(F1.2.2 244 (by omega)).1]
        exact r6 q j hj
      · rw [(F1.2.2 248 (by omega)).1]
        exact r7 i hi
    obtain ⟨h', b1, b2, b3, b4, b5⟩ := r_recordJ S1 C1 (by omega) he
    refine ⟨h', ?_, F1.trans b2, b3.trans a3, ?_, b5.trans (by rw [hI_sI, if_neg (fun z => by omega), (a2.2.2 241 (by omega)).1])⟩
    · simp only [getI, S.m0, r3, if_true, show (nI 4 = 4) = True from eq_true rfl]
      exact a1.trans b1
    · rw [if_pos rfl, if_pos rfl]
      obtain ⟨d1, ⟨d2, d3, d4⟩, d5⟩ := b4
      refine ⟨d1, ⟨d2, d3, fun k hk j hj => ?_⟩, d5⟩
      have this : hI h' 245 (401 * k + j) = (if k = 3 then e else u (k + 1)).1 j := d4 k hk j hj
      show hI h' 245 (401 * k + j) = (if k < 3 then u (k + 1) else e).1 j
      by_cases q : k = 3
      · rw [if_pos q] at this
        rw [if_neg (by omega)]
        exact this
      · rw [if_neg q] at this
        rw [if_pos (by omega)]
        exact this
  · obtain ⟨h', b1, b2, b3, b4, b5⟩ := r_recordJ S C' (by omega) he
    refine ⟨h', ?_, b2, b3, ?_, b5⟩
    · simp only [getI, S.m0, r3, if_true, nI_4 c r2, q, if_false]
      exact b1
    · rw [if_neg q, if_neg q]
      exact b4
