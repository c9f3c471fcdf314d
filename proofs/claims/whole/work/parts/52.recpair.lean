/-! a call that records and then works -/
theorem hN_sQ' (h : Hp) (w a b : Row) : hN (sQ h w a b) = hN h := rfl
theorem sQ_fr (h : Hp) (w a b : Row) : Fr RC h (sQ h w a b) := ⟨rfl, rfl, fun x hx => ⟨hI_sQn _ _ _ _ _ (fun q => hx (by rw [q]; exact ⟨by omega, by omega⟩)) (fun q => hx (by rw [q]; exact ⟨by omega, by omega⟩)) (fun q => hx (by rw [q]; exact ⟨by omega, by omega⟩)), rfl, rfl⟩⟩
theorem rec_pair {h : Hp} {t : Nat} {e v : Ent} {c : Nat} {u : Nat → Ent} {sn : Int32} (C : CS h e c u sn v) (Q : RS h e.1 c u sn v) (W : WFe e t ∧ (∀ k, k < c → WFe (u k) t) ∧ (sn = 0 ∨ sn = 1) ∧ (sn ≠ 0 → WFe v t)) (X : TX h) (r : Int32) (e' : Ent) {Z : Prop} {bc br : Hp → Rv Int32}
    (hc : ∀ g, CS g e (recC c) (recU c u e) sn v → ∃ g', bc g = some (r, g') ∧ Ch SC g g' ∧ Sh g' ∧ SRe g' 2 e' ∧ (∀ i, 8 ≤ i → hI g' 238 i = 0) ∧ Z)
    (hr : Z → ∀ g, Sh g → RS g e.1 (recC c) (recU c u e) sn v → ∃ a' b', br g = some (r, sQ g e'.1 a' b') ∧ ∀ i, 8 ≤ i → b' i = 0)
    (hw : Z → WFe e' (t + 60)) :
    ∃ h1 h2, (inv h 101 1 (s_X1_record 101 2 h) fun _ g => bc g) = some (r, h1) ∧ (inv h1 241 9 (s_X9_record 241 h1) fun _ g => br g) = some (r, h2) ∧ REL h2 (t + 60) ∧ Sh h1 ∧ RS h1 e.1 c u sn v := by
  obtain ⟨W1, W2, W3, W4⟩ := W
  have S := C.1
  have c4 := C.2.2.1.1
  obtain ⟨g, a1, a2, a3, a4, a5⟩ := c_record C W1.2.1
  obtain ⟨h1, b1, b2, b4, b5, b6, z⟩ := hc g a5
  have Sg := a5.1
  have hN0 : 250 ≤ hN g := Sg.2.2.2.2.2.2.2.2
  have sc : ∀ x, 239 ≤ x → x ≤ 250 → ¬ SC x := fun x h1 h2 q => by
    rcases q with q | q
    · have := q.2.1; omega
    · unfold SPP at q; omega
  have f1 : ∀ x, 239 ≤ x → x ≤ 250 → hI h1 x = hI h x := fun x x1 x2 => ((b2.2.2 x (by omega) (sc x x1 x2)).1).trans (a4 x (by omega))
  have C1 : CS h1 e' (recC c) (recU c u e) sn v := a5.step b2 b4 b5 b6
  have Q1 : RS h1 e.1 c u sn v := Q.fr (fun x hx => f1 x (by have := hx.1; omega) hx.2)
  obtain ⟨g2, d1, d2, d3, d4, k5⟩ := r_record (e := e) b4 Q1 rfl
  have S2 : Sh g2 := b4.of d3 d2.1 (Nat.le_of_eq d2.2.1.symm)
  obtain ⟨a', b', e1, e2⟩ := hr z g2 S2 d4
  have F2 : Fr RC h1 g2 := d2.mono (fun x hx => by unfold RC; omega)
  have F3 : Fr RC h1 (sQ g2 e'.1 a' b') := F2.trans (sQ_fr g2 _ _ _)
  have X1 : TX h1 := X.fr (fun x hx => f1 x (by omega) (by omega)) (by rw [f1 241 (by omega) (by omega)])
  refine ⟨h1, sQ g2 e'.1 a' b', ?_, ?_, ⟨e', recC c, recU c u e, sn, v, C1.fr F3.ch S2, d4.q e2, ⟨hw z, fun k hk => recU_WF c4 (fun k hk => (W2 k hk).up (by omega)) (W1.up (by omega)) k hk, W3, fun q => (W4 q).up (by omega)⟩, ?_⟩, b4, Q1⟩
  · simp only [inv, S.2.2.2.1.1, if_true, a1, bnd]
    exact b1
  · simp only [inv, b4.m0, if_true, d1, bnd]
    exact e1
  · obtain ⟨m, x1, x2, x3, x4⟩ := X1
    refine ⟨m, x1, ?_, ?_, fun k hk => ?_⟩
    · rw [(F3.2.2 239 (fun q => by have := q.1; omega)).1]; exact x2
    · rw [hI_sQn _ _ _ _ 241 (by omega) (by omega) (by omega), k5]; exact x3
    · rw [(F3.2.2 240 (fun q => by have := q.1; omega)).1, hI_sQn _ _ _ _ 246 (by omega) (by omega) (by omega), (d2.2.2 246 (by omega)).1]
      exact x4 k hk
