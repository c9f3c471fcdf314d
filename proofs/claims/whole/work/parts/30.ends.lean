/-! a washer's minute in the class, against the reference's row -/
def WH (w : Row) (i t : Nat) : Prop :=
  (∃ ow, pt w i 0 = nI ow ∧ ow ≤ 20) ∧ (pt w i 9 = 0 ∨ pt w i 9 = 1 ∨ pt w i 9 = 2) ∧
  (∃ wt wm, pt w i 11 = nI wt ∧ pt w i 12 = nI wm ∧ wt ≤ 6 * t ∧ wm ≤ 360 * t ∧ (wt = 0 → wm = 0)) ∧
  ∃ np, pt w i 15 = nI np ∧ np ≤ 12 ∧ (∀ k, k < np → kOK (pt w i (18 + k)) (pt w i (30 + k))) ∧
    (pt w i 9 = 1 → ∃ ph, ph < np ∧ pt w i 10 = nI ph ∧ (pt w i (18 + ph) = 102 → ∃ g m, pt w i 14 = nI g ∧ pt w i 16 = nI (6 * g) ∧ pt w i (30 + ph) = nI m ∧ 6 * g < m ∧ m ≤ 99))
theorem pt_upd (w : Row) (i k j : Nat) (v : Int32) (hj : j < 15) : pt (upd w j v) i k = pt w i k := by
  unfold pt upd
  rw [if_neg (by omega)]
theorem KN.of {h : Hp} {W i ph np : Nat} {w : Row} (e : hT h W = (7, 0)) (P : PR h (hR h W 0) w (15 + 42 * i)) (h3 : hI h W 3 = nI ph) (hn : pt w i 15 = nI np) (h12 : np ≤ 12) (hp : ph < np) (hk : kOK (pt w i (18 + ph)) (pt w i (30 + ph))) : KN h W (pt w i (18 + ph)) (pt w i (30 + ph)) := by
  obtain ⟨p1, p2, np', q1, q2, q3, q4⟩ := P
  have en : np' = np := (nI_eq (by omega) (by omega)).mp (q2.symm.trans hn)
  subst en
  obtain ⟨e1, e2⟩ := q4 ph hp
  refine ⟨e, q3.1, ?_, ?_, ?_⟩
  · rcases p1 with z | ⟨T, z, z2⟩
    · omega
    · omega
  · rw [h3, c_kindOf q3 hp (by rw [e1]; exact hk.nar), e1]
    rfl
  · rw [h3, c_numberOf q3 hp, e2]
    rfl
/-- the part of HR that speaks of the washer -/
def WR (h : Hp) (W : Nat) (w : Row) (i : Nat) : Prop :=
  (hI h W 1 = pt w i 9 ∧ (pt w i 9 ≠ 0 → hI h W 3 = pt w i 10 ∧ hI h W 4 = pt w i 14) ∧ hI h W 5 = pt w i 11 ∧ hL h W 6 = (pt w i 12).toInt64 ∧ hI h W 2 = pt w i 13 ∧ hI h W 7 = pt w i 17) ∧ PR h (hR h W 0) w (15 + 42 * i)
theorem HR.w {h : Hp} {A W i : Nat} {w : Row} (q : HR h A W w (15 + 42 * i)) : WR h W w i := q.2
theorem Mut_W {T i : Nat} (t : isSt T) (hi : i < 8) : Mut (T + 8 + 2 * i) := by
  refine ⟨by have := t.pos; omega, fun T' t' => ?_⟩
  unfold isSt at t t'
  omega
theorem Mut_H {T i : Nat} (t : isSt T) (hi : i < 8) : Mut (T + 7 + 2 * i) := by
  refine ⟨by have := t.pos; omega, fun T' t' => ?_⟩
  unfold isSt at t t'
  omega
theorem ge_neg {x y : Int32} : (¬ x < y) = (y ≤ x) := propext Int32.not_lt
/-- the phase is over: the next one, or the end -/
theorem c_end {h : Hp} {W i np ph : Nat} {w : Row} (e : hT h W = (7, 0)) (hM : Mut W) (hW : W ≤ hN h) (R : WR h W w i) (h1 : pt w i 9 = 1) (hn : pt w i 15 = nI np) (h12 : np ≤ 12) (hp : pt w i 10 = nI ph) (hpn : ph < np) :
    ∃ r h', (getI h W 7 3 fun x4 => putI h W 7 3 (x4 + 1) fun h => putI h W 7 4 0 fun h => getI h W 7 3 fun x5 => getR h W 7 0 fun x6 => getI h x6 4 0 fun x7 => if x7 ≤ x5 then putI h W 7 1 0 fun h => retZ 1 h else retZ 0 h) = some (r, h') ∧
      Ch (fun x => x = W) h h' ∧ hR h' = hR h ∧ hT h' = hT h ∧ WR h' W (endF w i) i ∧ ((r = 0 ∧ pt (endF w i) i 4 = pt w i 4) ∨ (r = 1 ∧ pt (endF w i) i 4 = pt w i 4 + 1)) := by
  obtain ⟨⟨a1, a2, a3, a4, a5, a6⟩, a7⟩ := R
  have b := a2 (by rw [h1]; decide)
  obtain ⟨p1, p2, np', q1, q2, q3, q4⟩ := id a7
  have en : np' = np := (nI_eq (by omega) (by omega)).mp (q2.symm.trans hn)
  subst en
  have nW := p1.not hM
  have hcmp : (pt w i 15 ≤ pt w i 10 + 1) = (np' ≤ ph + 1) := by
    rw [hn, hp, nI_1, nI_leE (by omega) (by omega)]
  have hp0 : hR h W 0 ≠ 0 := by
    rcases p1 with z | ⟨T, z, z2⟩ <;> omega
  have hz1 : hI h (hR h W 0) 0 = nI np' := q3.2.2.2.1
  have hph : hI h W 3 = nI ph := by rw [b.1, hp]
  simp only [getI, getL, getR, putI, putZ, putL, putR, ldI, ldR, stI, stR, divI, divL, bnd, inv, retI, retZ, retC, retR, retU, hT_sI, hT_sL, hT_sR, hR_sI, hR_sL, hN_sI, hN_sL, hN_sR, hI_sL, hI_sR, hL_sI, hL_sR, ↓reduceIte, true_and, and_true, and_self, ne_eq, not_false_eq_true, not_true_eq_false, reduceCtorEq, if_true, if_false, e, q3.1, hp0, hI_sI, Ne.symm nW.1, nW.1, hz1, hph, nI_1, nI_leE (show np' < 2 ^ 31 by omega) (show ph + 1 < 2 ^ 31 by omega), false_and, show ((3 : Nat) = 4) = False from eq_false (by decide), and_false]
  unfold endF
  simp only [hcmp]
  have ch2 : Ch (fun x => x = W) h (sI (sI h W 3 (nI (ph + 1))) W 4 0) := (Ch.rfl'.sI W 3 _ rfl).sI W 4 _ rfl
  by_cases q : np' ≤ ph + 1
  · simp only [if_pos q]
    refine ⟨1, sI (sI (sI h W 3 (nI (ph + 1))) W 4 0) W 1 0, by simp, ch2.sI W 1 _ rfl, rfl, rfl, ?_, Or.inr ⟨rfl, ?_⟩⟩
    · refine ⟨?_, PR.ch (w := w) (ch2.sI W 1 _ rfl) (fun x hx => by rw [hx]; exact hM) a7 (fun k k1 k2 k3 k4 => ?_)⟩
      · simp only [pt_upd _ _ _ _ _ (show 12 < 15 by omega), pt_sp, hI_sI, hL_sI, a3, a4, a5, a6]
        simp
      · show pt (upd (sp (sp w i 9 0) i 4 (pt w i 4 + 1)) 12 (w 12 + 1)) i k = pt w i k
        simp only [pt_upd _ _ _ _ _ (show 12 < 15 by omega), pt_sp, show ¬ k = 4 by omega, show ¬ k = 9 by omega, if_false]
    · simp only [pt_upd _ _ _ _ _ (show 12 < 15 by omega), pt_sp, if_true]
  · simp only [if_neg q]
    refine ⟨0, sI (sI h W 3 (nI (ph + 1))) W 4 0, by simp, ch2, rfl, rfl, ?_, Or.inl ⟨rfl, ?_⟩⟩
    · refine ⟨?_, PR.ch (w := w) ch2 (fun x hx => by rw [hx]; exact hM) a7 (fun k k1 k2 k3 k4 => ?_)⟩
      · simp only [pt_sp, hI_sI, hL_sI, a1, a3, a4, a5, a6, hp, nI_1]
        simp
      · show pt (sp (sp (sp w i 10 (pt w i 10 + 1)) i 14 0) i 16 0) i k = pt w i k
        simp only [pt_sp, show ¬ k = 10 by omega, show ¬ k = 14 by omega, show ¬ k = 16 by omega, if_false]
    · simp only [pt_sp, show ¬ (4 : Nat) = 10 by omega, show ¬ (4 : Nat) = 14 by omega, show ¬ (4 : Nat) = 16 by omega, if_false]
