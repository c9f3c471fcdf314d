/-! type, clearText -/
def TC (x : Nat) : Prop := 239 ≤ x ∧ x ≤ 250
theorem TC.mut {x : Nat} (q : TC x) : Mut x := ⟨by unfold TC at q; omega, fun T t => by unfold isSt at t; unfold TC at q; omega⟩
theorem CS.tc {h h' : Hp} {e v : Ent} {c : Nat} {u : Nat → Ent} {sn : Int32} (a : Ch TC h h') (S' : Sh h') (C : CS h e c u sn v) : CS h' e c u sn v := by
  obtain ⟨S, R, ⟨c4, c1, p1, p2, U⟩, ⟨s1, s2⟩, z⟩ := C
  have hN0 := S.2.2.2.2.2.2.2.2
  have f : ∀ x, x < 239 → hI h' x = hI h x ∧ hL h' x = hL h x ∧ hR h' x = hR h x := fun x hx => a.2.2 x (by omega) (fun q => by have := q.1; omega)
  have m : ∀ T, isSt T → ∀ e, SRe h T e → SRe h' T e := fun T t e q => SR.ch a (fun x hx => hx.mut) t hN0 (fun x hx => by have := hx.1; unfold isSt at t; omega) q
  refine ⟨S', m 2 (Or.inl rfl) e R, ⟨c4, by rw [(f 101 (by omega)).1]; exact c1, by rw [(f 102 (by omega)).2.2]; exact p1, by rw [(f 102 (by omega)).2.2]; exact p2, fun k hk => by rw [(f 102 (by omega)).2.2]; exact m _ (p1 k (by omega)).st _ (U k hk)⟩, ⟨by rw [(f 1 (by omega)).1]; exact s1, fun q => m 68 (by unfold isSt; omega) _ (s2 q)⟩, fun i hi => by rw [(f 238 (by omega)).1]; exact z i hi⟩
theorem RS.f241 {h : Hp} {w : Row} {v : Ent} {c : Nat} {u : Nat → Ent} {sn : Int32} {k : Nat} (y : Int32) (h5 : k ≠ 5) (h3 : k ≠ 3) (C : RS h w c u sn v) : RS (sI h 241 k y) w c u sn v := by
  obtain ⟨r1, ⟨r2, r3, r4⟩, ⟨r5, r6⟩, r7⟩ := C
  refine ⟨by rw [hI_sIn _ _ _ _ _ (by omega)]; exact r1, ⟨r2, by rw [hI_sI, if_neg (fun z => h5 z.2.symm)]; exact r3, fun k hk j hj => by rw [hI_sIn _ _ _ _ _ (by omega)]; exact r4 k hk j hj⟩, ⟨by rw [hI_sI, if_neg (fun z => h3 z.2.symm)]; exact r5, fun q j hj => by rw [hI_sIn _ _ _ _ _ (by omega)]; exact r6 q j hj⟩, fun i hi => by rw [hI_sIn _ _ _ _ _ (by omega)]; exact r7 i hi⟩
theorem RS.oth {h : Hp} {w : Row} {v : Ent} {c : Nat} {u : Nat → Ent} {sn : Int32} {x k : Nat} (y : Int32) (hx : x ≠ 241 ∧ x ≠ 242 ∧ x ≠ 244 ∧ x ≠ 245 ∧ x ≠ 248) (C : RS h w c u sn v) : RS (sI h x k y) w c u sn v := by
  obtain ⟨r1, ⟨r2, r3, r4⟩, ⟨r5, r6⟩, r7⟩ := C
  refine ⟨by rw [hI_sIn _ _ _ _ _ (by omega)]; exact r1, ⟨r2, by rw [hI_sIn _ _ _ _ _ (by omega)]; exact r3, fun k hk j hj => by rw [hI_sIn _ _ _ _ _ (by omega)]; exact r4 k hk j hj⟩, ⟨by rw [hI_sIn _ _ _ _ _ (by omega)]; exact r5, fun q j hj => by rw [hI_sIn _ _ _ _ _ (by omega)]; exact r6 q j hj⟩, fun i hi => by rw [hI_sIn _ _ _ _ _ (by omega)]; exact r7 i hi⟩
theorem T_x5 {h : Hp} (S : Sh h) {α : Type} (f : Nat → Option α) : getR h 1 8 5 f = f 239 := by
  simp only [getR, S.2.2.1.1, S.2.2.1.2.2.2.2.2.2, true_and, show ((239 : Nat) = 0) = False from eq_false (by decide), ne_eq, not_false_eq_true, if_true]
theorem T_u0 {h : Hp} (S : Sh h) {α : Type} (f : Nat → Option α) : getR h 239 5 0 f = f 240 := by
  simp only [getR, S.2.2.2.2.2.1.1, S.2.2.2.2.2.1.2.1, true_and, show ((240 : Nat) = 0) = False from eq_false (by decide), ne_eq, not_false_eq_true, if_true]
theorem T_u1 {h : Hp} (S : Sh h) {α : Type} (f : Int32 → Option α) : getI h 239 5 1 f = f (hI h 239 1) := by
  simp only [getI, S.2.2.2.2.2.1.1, if_true]
theorem T_up1 {h : Hp} (S : Sh h) {α : Type} (v : Int32) (f : Hp → Option α) : putI h 239 5 1 v f = f (sI h 239 1 v) := by
  simp only [putI, S.2.2.2.2.2.1.1, if_true]
theorem T_ui {h : Hp} (S : Sh h) {α β : Type} (x : Rv α) (f : α → Hp → Rv β) : inv h 239 5 x f = bnd x f := by
  simp only [inv, S.2.2.2.2.2.1.1, if_true]
theorem T_ul {h : Hp} (S : Sh h) {α : Type} {k : Nat} (hk : k < 60) (f : Int32 → Option α) : ldI h 240 21 (nI k) f = f (hI h 240 k) := by
  simp only [ldI, S.2.2.2.2.2.1.2.2, nI_ge0 (show k < 2 ^ 31 by omega), nI_clamp (show k < 2 ^ 31 by omega), hk, true_and, if_true]
theorem T_us {h : Hp} (S : Sh h) {α : Type} {k : Nat} (hk : k < 60) (v : Int32) (f : Hp → Option α) : stI h 240 21 (nI k) v f = f (sI h 240 k v) := by
  simp only [stI, S.2.2.2.2.2.1.2.2, nI_ge0 (show k < 2 ^ 31 by omega), nI_clamp (show k < 2 ^ 31 by omega), hk, true_and, if_true]
theorem T_v6 {h : Hp} (S : Sh h) {α : Type} (f : Nat → Option α) : getR h 241 9 6 f = f 246 := by
  simp only [getR, S.m0, S.2.2.2.2.2.2.1.2.2.2.2.2.1, true_and, show ((246 : Nat) = 0) = False from eq_false (by decide), ne_eq, not_false_eq_true, if_true]
theorem T_vg {h : Hp} (S : Sh h) {α : Type} (k : Nat) (f : Int32 → Option α) : getI h 241 9 k f = f (hI h 241 k) := by
  simp only [getI, S.m0, if_true]
theorem T_vp {h : Hp} (S : Sh h) {α : Type} (k : Nat) (v : Int32) (f : Hp → Option α) : putI h 241 9 k v f = f (sI h 241 k v) := by
  simp only [putI, S.m0, if_true]
theorem T_vl {h : Hp} (S : Sh h) {α : Type} {k : Nat} (hk : k < 60) (f : Int32 → Option α) : ldI h 246 20 (nI k) f = f (hI h 246 k) := by
  simp only [ldI, S.2.2.2.2.2.2.2.1.2.2.2.2.1, nI_ge0 (show k < 2 ^ 31 by omega), nI_clamp (show k < 2 ^ 31 by omega), hk, true_and, if_true]
theorem T_vs {h : Hp} (S : Sh h) {α : Type} {k : Nat} (hk : k < 60) (v : Int32) (f : Hp → Option α) : stI h 246 20 (nI k) v f = f (sI h 246 k v) := by
  simp only [stI, S.2.2.2.2.2.2.2.1.2.2.2.2.1, nI_ge0 (show k < 2 ^ 31 by omega), nI_clamp (show k < 2 ^ 31 by omega), hk, true_and, if_true]
theorem p_type (t : Nat) (a1 : Int32) (ha : vp_nar .char a1 = a1) : Pair (s_X8_type 1 a1) (s_X9_type 241 a1) t := by
  intro h R
  have R' := R
  obtain ⟨e, c, u, sn, v, C, Q, W, X⟩ := R
  have S := C.1
  obtain ⟨m, m60, x1, x2, x3⟩ := X
  by_cases q : m < 60
  · have S1 : Sh (sI h 240 m a1) := S.sI _ _ _
    have S2 : Sh (sI (sI h 240 m a1) 239 1 (nI (m + 1))) := S1.sI _ _ _
    have S3 : Sh (sI (sI (sI h 240 m a1) 239 1 (nI (m + 1))) 246 m a1) := S2.sI _ _ _
    have S4 : Sh (sI (sI (sI (sI h 240 m a1) 239 1 (nI (m + 1))) 246 m a1) 241 7 (nI (m + 1))) := S3.sI _ _ _
    have F : Ch TC h (sI (sI (sI (sI h 240 m a1) 239 1 (nI (m + 1))) 246 m a1) 241 7 (nI (m + 1))) := ((((Ch.rfl' (P := TC)).sI _ _ _ ⟨by omega, by omega⟩).sI _ _ _ ⟨by omega, by omega⟩).sI _ _ _ ⟨by omega, by omega⟩).sI _ _ _ ⟨by omega, by omega⟩
    refine ⟨nI (m + 1), sI (sI h 240 m a1) 239 1 (nI (m + 1)), sI (sI (sI (sI h 240 m a1) 239 1 (nI (m + 1))) 246 m a1) 241 7 (nI (m + 1)), ?_, ?_, ⟨e, c, u, sn, v, C.tc F S4, ?_, ?_, ⟨m + 1, by omega, ?_, ?_, fun k hk => ?_⟩⟩, S2⟩
    · unfold s_X8_type s_X5_append
      simp only [T_x5 S, T_ui S, T_u1 S, x1, if_pos (show nI m < 60 by rw [show (60 : Int32) = nI 60 from rfl, nI_ltE (by omega) (by omega)]; exact q), T_u0 S, T_us S q, ha]
      rw [T_u1 S1, hI_sIn _ _ _ _ _ (by omega), x1, T_up1 S1, nI_1]
      simp only [retZ, bnd, show ((1 : Int32) = 0) = False from eq_false (by decide), if_false, or_true, if_true]
      rw [T_x5 S2, T_u1 S2, hI_sI, if_pos ⟨rfl, rfl⟩]
      rfl
    · unfold s_X9_type
      have y1 : hI (sI (sI h 240 m a1) 239 1 (nI (m + 1))) 241 7 = nI m := by rw [hI_sIn _ _ _ _ _ (by omega), hI_sIn _ _ _ _ _ (by omega)]; exact x2
      have y2 : hI (sI (sI (sI h 240 m a1) 239 1 (nI (m + 1))) 246 m a1) 241 7 = nI m := by rw [hI_sIn _ _ _ _ _ (by omega)]; exact y1
      rw [T_vg S2, y1, if_neg (by rw [show (60 : Int32) = nI 60 from rfl, nI_eqE (by omega) (by omega)]; omega), T_v6 S2, T_vg S2, y1, T_vs S2 q, T_vg S3, y2, T_vp S3, nI_1, T_vg S4, hI_sI, if_pos ⟨rfl, rfl⟩]
      rfl
    · exact (((Q.oth _ (by omega)).oth _ (by omega)).oth _ (by omega)).f241 _ (by omega) (by omega)
    · exact ⟨W.1.up (by omega), fun k hk => (W.2.1 k hk).up (by omega), W.2.2.1, fun z => (W.2.2.2 z).up (by omega)⟩
    · rw [hI_sIn _ _ _ _ _ (by omega), hI_sIn _ _ _ _ _ (by omega), hI_sI, if_pos ⟨rfl, rfl⟩]
    · rw [hI_sI, if_pos ⟨rfl, rfl⟩]
    · rw [hI_sIn _ _ _ _ _ (show 240 ≠ 241 by omega), hI_sIn _ _ _ _ _ (show 240 ≠ 246 by omega), hI_sIn _ _ _ _ _ (show 240 ≠ 239 by omega), hI_sIn _ _ _ _ _ (show 246 ≠ 241 by omega), hI_sI, hI_sI, hI_sIn _ _ _ _ _ (show 246 ≠ 239 by omega), hI_sIn _ _ _ _ _ (show 246 ≠ 240 by omega)]
      by_cases y : k = m
      · rw [if_pos ⟨rfl, y⟩, if_pos ⟨rfl, y⟩]
        exact ⟨rfl, ha⟩
      · rw [if_neg (fun z => y z.2), if_neg (fun z => y z.2)]
        exact x3 k (by omega)
  · obtain rfl : m = 60 := by omega
    refine Pair.same (x := fun h => _) (m := fun h => _) R' (-3) ?_ ?_
    · unfold s_X8_type s_X5_append
      simp only [T_x5 S, T_ui S, T_u1 S, x1]
      rfl
    · unfold s_X9_type
      simp only [T_vg S, x2]
      rfl
theorem p_clearText (t : Nat) : Pair (s_X8_clearText 1) (s_X9_clearText 241) t := by
  intro h R
  obtain ⟨e, c, u, sn, v, C, Q, W, X⟩ := R
  have S := C.1
  obtain ⟨m, m60, x1, x2, x3⟩ := X
  have S1 : Sh (sI h 239 1 0) := S.sI _ _ _
  have S2 : Sh (sI (sI h 239 1 0) 241 7 0) := S1.sI _ _ _
  have F : Ch TC h (sI (sI h 239 1 0) 241 7 0) := ((Ch.rfl' (P := TC)).sI _ _ _ ⟨by omega, by omega⟩).sI _ _ _ ⟨by omega, by omega⟩
  refine ⟨nI m, sI h 239 1 0, sI (sI h 239 1 0) 241 7 0, ?_, ?_, ⟨e, c, u, sn, v, C.tc F S2, ?_, ?_, ⟨0, by omega, ?_, ?_, fun k hk => by omega⟩⟩, S1⟩
  · unfold s_X8_clearText
    simp only [T_x5 S, T_u1 S, x1, T_up1 S, retI]
  · unfold s_X9_clearText
    rw [T_vg S1, hI_sIn _ _ _ _ _ (by omega), x2, T_vp S1]
    rfl
  · exact (Q.oth _ (by omega)).f241 _ (by omega) (by omega)
  · exact ⟨W.1.up (by omega), fun k hk => (W.2.1 k hk).up (by omega), W.2.2.1, fun z => (W.2.2.2 z).up (by omega)⟩
  · rw [hI_sIn _ _ _ _ _ (by omega), hI_sI, if_pos ⟨rfl, rfl⟩]
    rfl
  · rw [hI_sI, if_pos ⟨rfl, rfl⟩]
    rfl
