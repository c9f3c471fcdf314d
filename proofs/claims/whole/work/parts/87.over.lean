/-! overIn, freeIn: the minutes -/
theorem CS.trial {h h' : Hp} {e v : Ent} {c : Nat} {u : Nat → Ent} {sn : Int32} (a : Ch (PMP 35) h h') (S' : Sh h') (z' : ∀ i, 8 ≤ i → hI h' 238 i = 0) (C : CS h e c u sn v) : CS h' e c u sn v := by
  obtain ⟨S, R, ⟨c4, c1, p1, p2, U⟩, ⟨s1, s2⟩, z⟩ := C
  have hN0 := S.2.2.2.2.2.2.2.2
  have st35 : isSt 35 := by unfold isSt; omega
  have far : ∀ x, (68 ≤ x ∧ x < 236) ∨ x < 35 → ¬ PMP 35 x := fun x hx q => by
    rcases q with q | q
    · have := q.1; have := q.2.1; omega
    · unfold SPP at q; omega
  have mp : ∀ x, PMP 35 x → Mut x := fun x q => by
    rcases q with q | q
    · exact ST.mut st35 q
    · exact q.mut
  have f : ∀ x, (68 ≤ x ∧ x < 236) ∨ x < 35 → hI h' x = hI h x ∧ hL h' x = hL h x ∧ hR h' x = hR h x := fun x hx => a.2.2 x (by omega) (far x hx)
  have m : ∀ T, isSt T → T ≠ 35 → ∀ e, SRe h T e → SRe h' T e := fun T t ht e q => SR.ch a mp t hN0 (fun x hx y => far x (by unfold isSt at t; omega) hx) q
  refine ⟨S', m 2 (Or.inl rfl) (by omega) e R, ⟨c4, by rw [(f 101 (by omega)).1]; exact c1, by rw [(f 102 (by omega)).2.2]; exact p1, by rw [(f 102 (by omega)).2.2]; exact p2, fun k hk => by rw [(f 102 (by omega)).2.2]; exact m _ (p1 k (by omega)).st (by have := p1 k (by omega); unfold isH at this; omega) _ (U k hk)⟩, ⟨by rw [(f 1 (by omega)).1]; exact s1, fun q => m 68 (by unfold isSt; omega) (by omega) _ (s2 q)⟩, z'⟩
/-- minutes as long as a place of a house's row holds a value -/
def runI (F i : Nat) (V : Int32) : Nat → Nat → Ent → Nat × Ent
  | 0, k, e => (k, e)
  | d + 1, k, e => if pt e.1 i F = V then runI F i V d (k + 1) (minE e) else (k, e)
def RMW (F i : Nat) (V : Int32) : Nat → Ent → Nat → Prop
  | 0, _, _ => True
  | d + 1, e, t => pt e.1 i F = V → MW e t ∧ RMW F i V d (minE e) (t + 1)
theorem runI_n (F i : Nat) (V : Int32) : ∀ (d k : Nat) (e : Ent), (runI F i V d k e).2.2.1 = e.2.1
  | 0, _, _ => rfl
  | d + 1, k, e => by
    unfold runI
    split
    · exact runI_n F i V d (k + 1) (minE e)
    · rfl
theorem runI_le (F i : Nat) (V : Int32) : ∀ (d k : Nat) (e : Ent), (runI F i V d k e).1 ≤ k + d
  | 0, _, _ => Nat.le_refl _
  | d + 1, k, e => by
    unfold runI
    split
    · have := runI_le F i V d (k + 1) (minE e)
      omega
    · exact Nat.le_add_right _ _
theorem T_x1 {h : Hp} (S : Sh h) {α : Type} (f : Nat → Option α) : getR h 1 8 1 f = f 35 := by
  simp only [getR, S.2.2.1.1, S.2.2.1.2.2.1, true_and, show ((35 : Nat) = 0) = False from eq_false (by decide), ne_eq, not_false_eq_true, if_true]
theorem T_i35 {h : Hp} (S : Sh h) {α β : Type} (x : Rv α) (f : α → Hp → Rv β) : inv h 35 6 x f = bnd x f := by
  simp only [inv, S.t0 (show isSt 35 by unfold isSt; omega), if_true]
theorem T_w35 {h : Hp} (S : Sh h) {i : Nat} (hi : i < 8) {α : Type} (k : Nat) (f : Int32 → Option α) : getI h (35 + 8 + 2 * i) 7 k f = f (hI h (35 + 8 + 2 * i) k) := by
  simp only [getI, S.tW (show isSt 35 by unfold isSt; omega) hi, if_true]
theorem c_overL {i : Nat} (hi : i < 8) (kf : Nat → Int32 → Hp → Rv Int32) : ∀ (d k f t : Nat) (h : Hp) (e : Ent), k + d = 600 → d < f → t + d ≤ 39000 → i < e.2.1 → Sh h → SRe h 35 e → WFe e t → (∀ i, 8 ≤ i → hI h 238 i = 0) →
    ∃ h', s_X8_overIn_L53 kf f 1 (35 + 8 + 2 * i) (nI k) h = kf (35 + 8 + 2 * i) (nI (runI 9 i 1 d k e).1) h' ∧ Ch (PMP 35) h h' ∧ Sh h' ∧ SRe h' 35 (runI 9 i 1 d k e).2 ∧ (∀ i, 8 ≤ i → hI h' 238 i = 0) ∧ RMW 9 i 1 d e t
  | 0, k, f, t, h, e, hk, hf, ht, hin, S, R, F, z => by
    obtain ⟨m, rfl, -⟩ := fuel_succ hf
    refine ⟨h, ?_, Ch.rfl', S, R, z, trivial⟩
    rw [s_X8_overIn_L53, if_pos (by rw [show (600 : Int32) = nI 600 from rfl, nI_leE (by omega) (by omega)]; omega)]
    rfl
  | d + 1, k, f, t, h, e, hk, hf, ht, hin, S, R, F, z => by
    obtain ⟨m, rfl, hm⟩ := fuel_succ hf
    have st35 : isSt 35 := by unfold isSt; omega
    have b1 : hI h (35 + 8 + 2 * i) 1 = pt e.1 i 9 := (R.hr hin).w.1.1
    have key' : (s_X8_overIn_L53 kf (m + 1) 1 (35 + 8 + 2 * i) (nI k) h) = (if pt e.1 i 9 = 1 then (bnd (s_X6_passMinute 35 235 h) fun _ h => s_X8_overIn_L53 kf m 1 (35 + 8 + 2 * i) (nI (k + 1)) h) else kf (35 + 8 + 2 * i) (nI k) h) := by
      rw [s_X8_overIn_L53, if_neg (by rw [show (600 : Int32) = nI 600 from rfl, nI_leE (by omega) (by omega)]; omega), T_w35 S hi, b1, T_x1 S, T_x4 S, T_i35 S, nI_1]
    rw [key']
    unfold runI RMW
    by_cases q : pt e.1 i 9 = 1
    · obtain ⟨h1, a1, a2, a3, a4, a5, a6⟩ := c_min1 st35 (show t ≤ 39000 by omega) S R F z
      obtain ⟨h', b1, b2, b3, b4, b5, b6⟩ := c_overL hi kf d (k + 1) m (t + 1) h1 (minE e) (by omega) (by omega) (by omega) hin a3 a4 (F.min (by omega) a6) a5
      rw [if_pos q, if_pos q, a1]
      exact ⟨h', b1, a2.trans b2, b3, b4, b5, fun _ => ⟨a6, b6⟩⟩
    · rw [if_neg q, if_neg q]
      exact ⟨h, rfl, Ch.rfl', S, R, z, fun y => absurd y q⟩
theorem c_freeL {i : Nat} (hi : i < 8) (kf : Nat → Int32 → Hp → Rv Int32) : ∀ (d k f t : Nat) (h : Hp) (e : Ent), k + d = 600 → d < f → t + d ≤ 39000 → i < e.2.1 → Sh h → SRe h 35 e → WFe e t → (∀ i, 8 ≤ i → hI h 238 i = 0) →
    ∃ h', s_X8_freeIn_L35 kf f 1 (35 + 8 + 2 * i) (nI k) h = kf (35 + 8 + 2 * i) (nI (runI 13 i 2 d k e).1) h' ∧ Ch (PMP 35) h h' ∧ Sh h' ∧ SRe h' 35 (runI 13 i 2 d k e).2 ∧ (∀ i, 8 ≤ i → hI h' 238 i = 0) ∧ RMW 13 i 2 d e t
  | 0, k, f, t, h, e, hk, hf, ht, hin, S, R, F, z => by
    obtain ⟨m, rfl, -⟩ := fuel_succ hf
    refine ⟨h, ?_, Ch.rfl', S, R, z, trivial⟩
    rw [s_X8_freeIn_L35, if_pos (by rw [show (600 : Int32) = nI 600 from rfl, nI_leE (by omega) (by omega)]; omega)]
    rfl
  | d + 1, k, f, t, h, e, hk, hf, ht, hin, S, R, F, z => by
    obtain ⟨m, rfl, hm⟩ := fuel_succ hf
    have st35 : isSt 35 := by unfold isSt; omega
    have b1 : hI h (35 + 8 + 2 * i) 2 = pt e.1 i 13 := (R.hr hin).w.1.2.2.2.2.1
    have key' : (s_X8_freeIn_L35 kf (m + 1) 1 (35 + 8 + 2 * i) (nI k) h) = (if pt e.1 i 13 = 2 then (bnd (s_X6_passMinute 35 235 h) fun _ h => s_X8_freeIn_L35 kf m 1 (35 + 8 + 2 * i) (nI (k + 1)) h) else kf (35 + 8 + 2 * i) (nI k) h) := by
      rw [s_X8_freeIn_L35, if_neg (by rw [show (600 : Int32) = nI 600 from rfl, nI_leE (by omega) (by omega)]; omega), T_w35 S hi, b1, T_x1 S, T_x4 S, T_i35 S, nI_1]
    rw [key']
    unfold runI RMW
    by_cases q : pt e.1 i 13 = 2
    · obtain ⟨h1, a1, a2, a3, a4, a5, a6⟩ := c_min1 st35 (show t ≤ 39000 by omega) S R F z
      obtain ⟨h', b1, b2, b3, b4, b5, b6⟩ := c_freeL hi kf d (k + 1) m (t + 1) h1 (minE e) (by omega) (by omega) (by omega) hin a3 a4 (F.min (by omega) a6) a5
      rw [if_pos q, if_pos q, a1]
      exact ⟨h', b1, a2.trans b2, b3, b4, b5, fun _ => ⟨a6, b6⟩⟩
    · rw [if_neg q, if_neg q]
      exact ⟨h, rfl, Ch.rfl', S, R, z, fun y => absurd y q⟩
theorem r_overL {h : Hp} (S : Sh h) {i : Nat} (hi : i < 8) (kf : Nat → Int32 → Int32 → Hp → Rv Int32) : ∀ (d k f t : Nat) (a b : Row) (e : Ent), k + d = 600 → d < f → t + d ≤ 39000 → WFe e t → RMW 9 i 1 d e t → (∀ i, 8 ≤ i → b i = 0) →
    ∃ a' b', s_X9_overIn_L48 kf f 241 (nI i) (nI k) (sQ h e.1 a b) = kf 241 (nI i) (nI (runI 9 i 1 d k e).1) (sQ h (runI 9 i 1 d k e).2.1 a' b') ∧ ∀ i, 8 ≤ i → b' i = 0
  | 0, k, f, t, a, b, e, hk, hf, ht, F, M, z => by
    obtain ⟨m, rfl, -⟩ := fuel_succ hf
    refine ⟨a, b, ?_, z⟩
    rw [s_X9_overIn_L48, if_pos (by rw [show (600 : Int32) = nI 600 from rfl, nI_leE (by omega) (by omega)]; omega)]
    rfl
  | d + 1, k, f, t, a, b, e, hk, hf, ht, F, M, z => by
    obtain ⟨m, rfl, hm⟩ := fuel_succ hf
    unfold RMW at M
    rw [s_X9_overIn_L48, if_neg (by rw [show (600 : Int32) = nI 600 from rfl, nI_leE (by omega) (by omega)]; omega)]
    unfold runI
    simp only [q_inv S, r_runs S hi, bnd, nI_1]
    by_cases q : pt e.1 i 9 = 1
    · obtain ⟨a1, b1, c1, c2⟩ := r_min1 S (show t ≤ 39000 by omega) F (M q).1 a b z
      obtain ⟨a', b', d1, d2⟩ := r_overL S hi kf d (k + 1) m (t + 1) a1 b1 (minE e) (by omega) (by omega) (by omega) (F.min (by omega) (M q).1) (M q).2 c2
      simp only [if_pos q, if_neg (show ¬ ((1 : Int32) = 0) by decide), c1]
      exact ⟨a', b', d1, d2⟩
    · simp only [if_neg q, if_true]
      exact ⟨a, b, rfl, z⟩
theorem r_freeL {h : Hp} (S : Sh h) {i : Nat} (hi : i < 8) (kf : Nat → Int32 → Int32 → Hp → Rv Int32) : ∀ (d k f t : Nat) (a b : Row) (e : Ent), k + d = 600 → d < f → t + d ≤ 39000 → WFe e t → RMW 13 i 2 d e t → (∀ i, 8 ≤ i → b i = 0) →
    ∃ a' b', s_X9_freeIn_L25 kf f 241 (nI i) (nI k) (sQ h e.1 a b) = kf 241 (nI i) (nI (runI 13 i 2 d k e).1) (sQ h (runI 13 i 2 d k e).2.1 a' b') ∧ ∀ i, 8 ≤ i → b' i = 0
  | 0, k, f, t, a, b, e, hk, hf, ht, F, M, z => by
    obtain ⟨m, rfl, -⟩ := fuel_succ hf
    refine ⟨a, b, ?_, z⟩
    rw [s_X9_freeIn_L25, if_pos (by rw [show (600 : Int32) = nI 600 from rfl, nI_leE (by omega) (by omega)]; omega)]
    rfl
  | d + 1, k, f, t, a, b, e, hk, hf, ht, F, M, z => by
    obtain ⟨m, rfl, hm⟩ := fuel_succ hf
    unfold RMW at M
    rw [s_X9_freeIn_L25, if_neg (by rw [show (600 : Int32) = nI 600 from rfl, nI_leE (by omega) (by omega)]; omega)]
    unfold runI
    simp only [q_inv S, rp_13 S hi, bnd, nI_1]
    by_cases q : pt e.1 i 13 = 2
    · obtain ⟨a1, b1, c1, c2⟩ := r_min1 S (show t ≤ 39000 by omega) F (M q).1 a b z
      obtain ⟨a', b', d1, d2⟩ := r_freeL S hi kf d (k + 1) m (t + 1) a1 b1 (minE e) (by omega) (by omega) (by omega) (F.min (by omega) (M q).1) (M q).2 c2
      simp only [if_pos q, c1]
      exact ⟨a', b', d1, d2⟩
    · simp only [if_neg q]
      exact ⟨a, b, rfl, z⟩
