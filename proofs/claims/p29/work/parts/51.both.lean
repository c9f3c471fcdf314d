/-! both sides of one heap -/
theorem SR.ext {h : Hp} {T n nl : Nat} {w w' : Row} (hw : ∀ j, j < 401 → w' j = w j) (R : SR h T w n nl) : SR h T w' n nl := by
  obtain ⟨⟨q1, q2, q3, q4⟩, p1, p2, p3, p4, p5⟩ := R
  refine ⟨⟨by rw [hw 2 (by omega)]; exact q1, q2, by rw [hw 8 (by omega)]; exact q3, q4⟩, ?_, fun k hk => by rw [hw _ (by omega)]; exact p2 k hk, fun i hi => ?_, p4, fun j hj k hk => by rw [hw _ (by omega)]; exact p5 j hj k hk⟩
  · rw [hw 2 (by omega), hw 8 (by omega), hw 0 (by omega), hw 11 (by omega), hw 1 (by omega), hw 7 (by omega), hw 13 (by omega), hw 14 (by omega)]
    exact p1
  · have e : ∀ k, k < 42 → w' (15 + 42 * i + k) = w (15 + 42 * i + k) := fun k hk => hw _ (by omega)
    have e0 := e 0 (by omega)
    rw [Nat.add_zero] at e0
    obtain ⟨g1, g2, g3, g4, np, g5, g6, g7, g8⟩ := p3 i hi
    unfold HR
    rw [e0, e 1 (by omega), e 2 (by omega), e 3 (by omega), e 4 (by omega), e 5 (by omega), e 6 (by omega), e 7 (by omega), e 8 (by omega), e 9 (by omega), e 10 (by omega), e 11 (by omega), e 12 (by omega), e 13 (by omega), e 14 (by omega), e 17 (by omega)]
    refine ⟨g1, g2, g3, g4, np, g5, by rw [e 15 (by omega)]; exact g6, g7, fun k hk => ?_⟩
    rw [Nat.add_assoc _ 18 k, Nat.add_assoc _ 30 k, e (18 + k) (by omega), e (30 + k) (by omega), ← Nat.add_assoc, ← Nat.add_assoc]
    exact g8 k hk
theorem WF.ext {w w' : Row} {n nl t : Nat} (hw : ∀ j, j < 401 → w' j = w j) (F : WF w n nl t) : WF w' n nl t := by
  obtain ⟨⟨h8, h10, e2, e8⟩, hp, B, L, H, s4, s5, s6, N⟩ := F
  have pp : ∀ i, i < n → ∀ k, k < 42 → pt w' i k = pt w i k := fun i hi k hk => hw _ (by omega)
  refine ⟨⟨h8, h10, by rw [hw 2 (by omega)]; exact e2, by rw [hw 8 (by omega)]; exact e8⟩, by rw [hw 1 (by omega)]; exact hp, ?_, ⟨fun j hj => by rw [hw _ (by omega)]; exact L.1 j hj, fun i hi => ?_⟩, fun i hi => (H i hi).congr (pp i hi), ?_, ?_, ?_, fun j hj k hk => by rw [hw _ (by omega)]; exact N j hj k hk⟩
  · unfold WB
    rw [hw 3 (by omega), hw 4 (by omega), hw 5 (by omega), hw 7 (by omega)]
    exact B
  · rw [pp i hi 0 (by omega), lentN_congr (w := w) (w' := w') (fun j hj k hk => hw _ (by omega))]
    exact L.2 i hi
  · rw [hw 12 (by omega), s4]
    exact (sumP_congr (fun i hi => pp i hi 4 (by omega))).symm
  · rw [hw 9 (by omega), s5]
    exact (sumP_congr (fun i hi => pp i hi 5 (by omega))).symm
  · rw [hw 10 (by omega), s6]
    exact (sumP_congr (fun i hi => pp i hi 6 (by omega))).symm
def WFe (e : Ent) (t : Nat) : Prop := WF e.1 e.2.1 e.2.2 t
/-- cells of the reference, cells of HaggleWash -/
def RC (x : Nat) : Prop := 241 ≤ x ∧ x ≤ 245
theorem RC.mut {x : Nat} (q : RC x) : Mut x := ⟨by unfold RC at q; omega, fun T t => by unfold isSt at t; unfold RC at q; omega⟩
theorem CS.fr {h h' : Hp} {e v : Ent} {c : Nat} {u : Nat → Ent} {sn : Int32} (a : Ch RC h h') (S' : Sh h') (C : CS h e c u sn v) : CS h' e c u sn v := by
  obtain ⟨S, R, ⟨c4, c1, p1, p2, U⟩, ⟨s1, s2⟩, z⟩ := C
  have hN0 := S.2.2.2.2.2.2.2.2
  have f : ∀ x, x < 241 → hI h' x = hI h x ∧ hL h' x = hL h x ∧ hR h' x = hR h x := fun x hx => a.2.2 x (by omega) (fun q => by have := q.1; omega)
  have m : ∀ T, isSt T → ∀ e, SRe h T e → SRe h' T e := fun T t e q => SR.ch a (fun x hx => hx.mut) t hN0 (fun x hx => by have := hx.1; unfold isSt at t; omega) q
  refine ⟨S', m 2 (Or.inl rfl) e R, ⟨c4, by rw [(f 101 (by omega)).1]; exact c1, by rw [(f 102 (by omega)).2.2]; exact p1, by rw [(f 102 (by omega)).2.2]; exact p2, fun k hk => by rw [(f 102 (by omega)).2.2]; exact m _ (p1 k (by omega)).st _ (U k hk)⟩, ⟨by rw [(f 1 (by omega)).1]; exact s1, fun q => m 68 (by unfold isSt; omega) _ (s2 q)⟩, fun i hi => by rw [(f 238 (by omega)).1]; exact z i hi⟩
/-- what a call may change in the street and the split, and in cells that were not there -/
def SC (x : Nat) : Prop := ST 2 x ∨ SPP x
theorem SC.mut {x : Nat} (q : SC x) : Mut x := by
  rcases q with q | q
  · exact ST.mut (Or.inl rfl) q
  · exact q.mut
theorem CS.step {h h' : Hp} {e e' v : Ent} {c : Nat} {u : Nat → Ent} {sn : Int32} (a : Ch SC h h') (S' : Sh h') (R' : SRe h' 2 e') (z' : ∀ i, 8 ≤ i → hI h' 238 i = 0) (C : CS h e c u sn v) : CS h' e' c u sn v := by
  obtain ⟨S, R, ⟨c4, c1, p1, p2, U⟩, ⟨s1, s2⟩, z⟩ := C
  have hN0 := S.2.2.2.2.2.2.2.2
  have far : ∀ x, (35 ≤ x ∧ x < 236) ∨ x < 2 → ¬ SC x := fun x hx q => by
    rcases q with q | q
    · have := q.1; have := q.2.1; omega
    · unfold SPP at q; omega
  have f : ∀ x, (35 ≤ x ∧ x < 236) ∨ x < 2 → hI h' x = hI h x ∧ hL h' x = hL h x ∧ hR h' x = hR h x := fun x hx => a.2.2 x (by omega) (far x hx)
  have m : ∀ T, isSt T → T ≠ 2 → ∀ e, SRe h T e → SRe h' T e := fun T t ht e q => SR.ch a (fun x hx => hx.mut) t hN0 (fun x hx y => far x (by unfold isSt at t; omega) hx) q
  refine ⟨S', R', ⟨c4, by rw [(f 101 (by omega)).1]; exact c1, by rw [(f 102 (by omega)).2.2]; exact p1, by rw [(f 102 (by omega)).2.2]; exact p2, fun k hk => by rw [(f 102 (by omega)).2.2]; exact m _ (p1 k (by omega)).st (by have := p1 k (by omega); unfold isH at this; omega) _ (U k hk)⟩, ⟨by rw [(f 1 (by omega)).1]; exact s1, fun q => m 68 (by unfold isSt; omega) (by omega) _ (s2 q)⟩, z'⟩
/-- the text that is typed: m characters, as C has them -/
def TXT (h : Hp) (m : Nat) (C : Row) : Prop := m ≤ 60 ∧ hI h 239 1 = nI m ∧ ∀ k, k < m → hI h 240 k = C k ∧ vp_nar .char (C k) = C k
theorem TXT.fr {h h' : Hp} {m : Nat} {C : Row} (a : ∀ x, (x = 239 ∨ x = 240) → hI h' x = hI h x) (t : TXT h m C) : TXT h' m C := by
  unfold TXT at *
  rw [a 239 (by omega), a 240 (by omega)]
  exact t
theorem recU_WF {c t : Nat} {u : Nat → Ent} {e : Ent} (h4 : c ≤ 4) (hu : ∀ k, k < c → WFe (u k) t) (he : WFe e t) : ∀ k, k < recC c → WFe (recU c u e k) t := by
  intro k hk
  unfold recC at hk
  unfold recU
  by_cases q : c = 4
  · rw [if_pos q] at hk ⊢
    show WFe (if k < 3 then u (k + 1) else e) t
    split
    · exact hu _ (by omega)
    · exact he
  · rw [if_neg q] at hk ⊢
    show WFe (if k = c then e else u k) t
    split
    · exact he
    · exact hu _ (by omega)
theorem WFe.up {e : Ent} {t t' : Nat} (h : t ≤ t') (F : WFe e t) : WFe e t' := F.mono h
