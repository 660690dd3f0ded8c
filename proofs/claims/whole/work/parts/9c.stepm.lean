/-! the calls that change something (printed by wip/whole/gen_step.py) -/
section SM
variable {d : Nat} {c e : Nat} {I : Nat → Nat → Int32} {L : Nat → Nat → Int64}
theorem opLay_ok {s : Nat} {ld : Nat → Int32} {x : Int32} (h : s < 54) : (opLay s ld x).2.1 < 54 := by
  unfold opLay
  split
  next q =>
    obtain ⟨t, ht, rfl⟩ := (jin_iff (by decide)).mp q
    show (nI t).toNatClampNeg < 54
    rw [jcl' (by omega)]
    exact ht
  next => exact h
theorem zq_move {x : Int32} {y : Int32} (hd : 100 ≤ d) (h : Rel c e I L) : zStp zI d 96 175 [.int x, .int y] I L c e := by
  obtain ⟨n, m, v, pe, D, k, a, ch, s, ld, im, sh, ro, b, bk, tr, lw, kt, ta, P, C, M⟩ := h
  obtain ⟨P1, P2, P3, P4, P5, P6, P7⟩ := id P
  obtain ⟨C1, C2, C3, C4, C5, C6, C7, C8, C9, C10⟩ := id C
  obtain ⟨I1, E1, N1, F1⟩ := c_move (d := d) (c := c) (e := e) (L := L) (x := x) (y := y) C1
  have G1 : ∀ q j, ¬ (7 ≤ q ∧ q ≤ 13) → I1 q j = I q j := fun q j hq => congrFun (F1 q (by omega)) j
  have M := relM_f (I' := I1) (L' := L) M (fun q j hq => G1 q j (by omega)) (fun _ _ _ => rfl)
  obtain ⟨M1, M2, M3, M4, M5, M6, M7, M8, M9, M10⟩ := id M
  obtain ⟨I2, E2, R1, F2⟩ := m_move (d := d) (c := c) (e := e) (L := L) (x := x) (y := y) M1
  have G2 : ∀ q j, ¬ (q = 58 ∧ j = 0 ∨ 59 ≤ q ∧ q ≤ 63) → I2 q j = I1 q j := fun q j hq => F2 q j (by omega) (by omega)
  exact ⟨_, I1, L, I2, L, c, e, ⟨_, rfl⟩, E1, E2, ⟨(opMove n v x y).2.1, m, (opMove n v x y).2.2, pe, D, k, a, ch, s, ld, im, sh, ro, b, bk, tr, lw, kt, ta, ⟨P1, chOk_g P2 opMove_g, P3, P4, P5, P6, P7⟩, relC_f (I := I1) (L := L) P7 ⟨N1, peC_F C2 (fun q j hq => G1 q j (by omega)), chC_F C3 (fun q j hq => G1 q j (by omega)), deC_F C4 (fun q j hq => G1 q j (by omega)), imC_F C5 (fun q j hq => G1 q j (by omega)), shC_F C6 (fun q j hq => G1 q j (by omega)) (fun _ _ _ => rfl), boC_F C7 (fun q j hq => G1 q j (by omega)), trC_F C8 (fun q j hq => G1 q j (by omega)), lwC_F P7 C9 (fun q j hq => G1 q j (by omega)), taC_F C10 (fun q j hq => G1 q j (by omega))⟩ (fun q j hq => G2 q j (by omega)) (fun _ _ _ => rfl), ⟨R1, peM_F M2 (fun q j hq => G2 q j (by omega)), chM_F M3 (fun q j hq => G2 q j (by omega)), deM_F M4 (fun q j hq => G2 q j (by omega)), imM_F M5 (fun q j hq => G2 q j (by omega)), shM_F M6 (fun q j hq => G2 q j (by omega)) (fun _ _ _ => rfl), boM_F M7 (fun q j hq => G2 q j (by omega)), trM_F M8 (fun q j hq => G2 q j (by omega)), lwM_F M9 (fun q j hq => G2 q j (by omega)), taM_F M10 (fun q j hq => G2 q j (by omega))⟩⟩, fun q j hq => G1 q j (by omega), fun q j hq => (G2 q j (by omega)).trans (G1 q j (by omega))⟩
theorem zq_moves {x : Int32} {y : Int32} {z : Int32} (hd : 100 ≤ d) (h : Rel c e I L) : zStp zI d 97 176 [.int x, .int y, .int z] I L c e := by
  obtain ⟨n, m, v, pe, D, k, a, ch, s, ld, im, sh, ro, b, bk, tr, lw, kt, ta, P, C, M⟩ := h
  obtain ⟨P1, P2, P3, P4, P5, P6, P7⟩ := id P
  obtain ⟨C1, C2, C3, C4, C5, C6, C7, C8, C9, C10⟩ := id C
  obtain ⟨I1, E1, N1, F1⟩ := c_moves (d := d) (c := c) (e := e) (L := L) (x := x) (y := y) (z := z) C1 C6 P5
  have G1 : ∀ q j, ¬ (7 ≤ q ∧ q ≤ 13) → I1 q j = I q j := fun q j hq => congrFun (F1 q (by omega)) j
  have M := relM_f (I' := I1) (L' := L) M (fun q j hq => G1 q j (by omega)) (fun _ _ _ => rfl)
  obtain ⟨M1, M2, M3, M4, M5, M6, M7, M8, M9, M10⟩ := id M
  obtain ⟨I2, E2, R1, F2⟩ := m_moves (d := d) (c := c) (e := e) (L := L) (x := x) (y := y) (z := z) M1 M6 P5
  have G2 : ∀ q j, ¬ (q = 58 ∧ j = 0 ∨ 59 ≤ q ∧ q ≤ 63) → I2 q j = I1 q j := fun q j hq => F2 q j (by omega) (by omega)
  exact ⟨_, I1, L, I2, L, c, e, ⟨_, rfl⟩, E1, E2, ⟨(opMoves n v sh ro x y z).2.1, m, (opMoves n v sh ro x y z).2.2, pe, D, k, a, ch, s, ld, im, sh, ro, b, bk, tr, lw, kt, ta, ⟨P1, chOk_g P2 opMoves_g, P3, P4, P5, P6, P7⟩, relC_f (I := I1) (L := L) P7 ⟨N1, peC_F C2 (fun q j hq => G1 q j (by omega)), chC_F C3 (fun q j hq => G1 q j (by omega)), deC_F C4 (fun q j hq => G1 q j (by omega)), imC_F C5 (fun q j hq => G1 q j (by omega)), shC_F C6 (fun q j hq => G1 q j (by omega)) (fun _ _ _ => rfl), boC_F C7 (fun q j hq => G1 q j (by omega)), trC_F C8 (fun q j hq => G1 q j (by omega)), lwC_F P7 C9 (fun q j hq => G1 q j (by omega)), taC_F C10 (fun q j hq => G1 q j (by omega))⟩ (fun q j hq => G2 q j (by omega)) (fun _ _ _ => rfl), ⟨R1, peM_F M2 (fun q j hq => G2 q j (by omega)), chM_F M3 (fun q j hq => G2 q j (by omega)), deM_F M4 (fun q j hq => G2 q j (by omega)), imM_F M5 (fun q j hq => G2 q j (by omega)), shM_F M6 (fun q j hq => G2 q j (by omega)) (fun _ _ _ => rfl), boM_F M7 (fun q j hq => G2 q j (by omega)), trM_F M8 (fun q j hq => G2 q j (by omega)), lwM_F M9 (fun q j hq => G2 q j (by omega)), taM_F M10 (fun q j hq => G2 q j (by omega))⟩⟩, fun q j hq => G1 q j (by omega), fun q j hq => (G2 q j (by omega)).trans (G1 q j (by omega))⟩
theorem zq_person {x : Int32} {y : Int32} (hd : 100 ≤ d) (h : Rel c e I L) : zStp zI d 98 177 [.int x, .int y] I L c e := by
  obtain ⟨n, m, v, pe, D, k, a, ch, s, ld, im, sh, ro, b, bk, tr, lw, kt, ta, P, C, M⟩ := h
  obtain ⟨P1, P2, P3, P4, P5, P6, P7⟩ := id P
  obtain ⟨C1, C2, C3, C4, C5, C6, C7, C8, C9, C10⟩ := id C
  obtain ⟨I1, E1, N1, F1⟩ := c_person (d := d) (c := c) (e := e) (L := L) (x := x) (y := y) P1 C2
  have G1 : ∀ q j, ¬ (q = 14 ∧ j = 4 ∨ q = 15 ∨ q = 17) → I1 q j = I q j := fun q j hq => F1 q j (by omega) (by omega) (by omega)
  have M := relM_f (I' := I1) (L' := L) M (fun q j hq => G1 q j (by omega)) (fun _ _ _ => rfl)
  obtain ⟨M1, M2, M3, M4, M5, M6, M7, M8, M9, M10⟩ := id M
  obtain ⟨I2, E2, R1, F2⟩ := m_person (d := d) (c := c) (e := e) (L := L) (x := x) (y := y) P1 M2
  have G2 : ∀ q j, ¬ (q = 58 ∧ j = 6 ∨ 64 ≤ q ∧ q ≤ 67) → I2 q j = I1 q j := fun q j hq => F2 q j (by omega) (by omega)
  exact ⟨_, I1, L, I2, L, c, e, ⟨_, rfl⟩, E1, E2, ⟨n, (opPerson m pe x y).2.1, v, (opPerson m pe x y).2.2, D, k, a, ch, s, ld, im, sh, ro, b, bk, tr, lw, kt, ta, ⟨opPerson_ok P1, chOk_m P2 opPerson_g, P3, imOk_m P4 opPerson_g, P5, P6, P7⟩, relC_f (I := I1) (L := L) P7 ⟨kitC_F C1 (fun q j hq => G1 q j (by omega)), N1, chC_F C3 (fun q j hq => G1 q j (by omega)), deC_F C4 (fun q j hq => G1 q j (by omega)), imC_F C5 (fun q j hq => G1 q j (by omega)), shC_F C6 (fun q j hq => G1 q j (by omega)) (fun _ _ _ => rfl), boC_F C7 (fun q j hq => G1 q j (by omega)), trC_F C8 (fun q j hq => G1 q j (by omega)), lwC_F P7 C9 (fun q j hq => G1 q j (by omega)), taC_F C10 (fun q j hq => G1 q j (by omega))⟩ (fun q j hq => G2 q j (by omega)) (fun _ _ _ => rfl), ⟨kitM_F M1 (fun q j hq => G2 q j (by omega)), R1, chM_F M3 (fun q j hq => G2 q j (by omega)), deM_F M4 (fun q j hq => G2 q j (by omega)), imM_F M5 (fun q j hq => G2 q j (by omega)), shM_F M6 (fun q j hq => G2 q j (by omega)) (fun _ _ _ => rfl), boM_F M7 (fun q j hq => G2 q j (by omega)), trM_F M8 (fun q j hq => G2 q j (by omega)), lwM_F M9 (fun q j hq => G2 q j (by omega)), taM_F M10 (fun q j hq => G2 q j (by omega))⟩⟩, fun q j hq => G1 q j (by omega), fun q j hq => (G2 q j (by omega)).trans (G1 q j (by omega))⟩
theorem zq_mend {x : Int32} {y : Int32} {z : Int32} (hd : 100 ≤ d) (h : Rel c e I L) : zStp zI d 99 182 [.int x, .int y, .int z] I L c e := by
  obtain ⟨n, m, v, pe, D, k, a, ch, s, ld, im, sh, ro, b, bk, tr, lw, kt, ta, P, C, M⟩ := h
  obtain ⟨P1, P2, P3, P4, P5, P6, P7⟩ := id P
  obtain ⟨C1, C2, C3, C4, C5, C6, C7, C8, C9, C10⟩ := id C
  obtain ⟨I1, E1, N1, N2, N3, F1⟩ := c_mend (d := d) (c := c) (e := e) (L := L) (x := x) (y := y) (z := z) C1 P1 C2 P2 C3
  have G1 : ∀ q j, ¬ (q = 32 ∧ (j = 4 ∨ j = 5) ∨ 10 ≤ q ∧ q ≤ 13 ∨ 15 ≤ q ∧ q ≤ 17 ∨ 33 ≤ q ∧ q ≤ 36) → I1 q j = I q j := fun q j hq => F1 q j (by omega) (by omega)
  have M := relM_f (I' := I1) (L' := L) M (fun q j hq => G1 q j (by omega)) (fun _ _ _ => rfl)
  obtain ⟨M1, M2, M3, M4, M5, M6, M7, M8, M9, M10⟩ := id M
  obtain ⟨I2, E2, R1, R2, R3, F2⟩ := m_mend (d := d) (c := c) (e := e) (L := L) (x := x) (y := y) (z := z) M1 P1 M2 P2 M3
  have G2 : ∀ q j, ¬ (q = 58 ∧ (j = 36 ∨ j = 37) ∨ 61 ≤ q ∧ q ≤ 66 ∨ q = 82) → I2 q j = I1 q j := fun q j hq => F2 q j (by omega) (by omega) (by omega)
  obtain ⟨O1, O2⟩ := opMend_ok (x := x) (y := y) (z := z) (kitC_nv C1).1 (kitC_nv C1).2 P1 P2
  exact ⟨_, I1, L, I2, L, c, e, ⟨_, rfl⟩, E1, E2, ⟨n, m, (opMend n m v pe k a ch x y z).2.1, (opMend n m v pe k a ch x y z).2.2.1, D, (opMend n m v pe k a ch x y z).2.2.2.1, (opMend n m v pe k a ch x y z).2.2.2.2.1, (opMend n m v pe k a ch x y z).2.2.2.2.2, s, ld, im, sh, ro, b, bk, tr, lw, kt, ta, ⟨O1, O2, P3, P4, P5, P6, P7⟩, relC_f (I := I1) (L := L) P7 ⟨N1, N2, N3, deC_F C4 (fun q j hq => G1 q j (by omega)), imC_F C5 (fun q j hq => G1 q j (by omega)), shC_F C6 (fun q j hq => G1 q j (by omega)) (fun _ _ _ => rfl), boC_F C7 (fun q j hq => G1 q j (by omega)), trC_F C8 (fun q j hq => G1 q j (by omega)), lwC_F P7 C9 (fun q j hq => G1 q j (by omega)), taC_F C10 (fun q j hq => G1 q j (by omega))⟩ (fun q j hq => G2 q j (by omega)) (fun _ _ _ => rfl), ⟨R1, R2, R3, deM_F M4 (fun q j hq => G2 q j (by omega)), imM_F M5 (fun q j hq => G2 q j (by omega)), shM_F M6 (fun q j hq => G2 q j (by omega)) (fun _ _ _ => rfl), boM_F M7 (fun q j hq => G2 q j (by omega)), trM_F M8 (fun q j hq => G2 q j (by omega)), lwM_F M9 (fun q j hq => G2 q j (by omega)), taM_F M10 (fun q j hq => G2 q j (by omega))⟩⟩, fun q j hq => G1 q j (by omega), fun q j hq => (G2 q j (by omega)).trans (G1 q j (by omega))⟩
theorem zq_feed {x : Int32} (hd : 100 ≤ d) (h : Rel c e I L) : zStp zI d 101 186 [.int x] I L c e := by
  obtain ⟨n, m, v, pe, D, k, a, ch, s, ld, im, sh, ro, b, bk, tr, lw, kt, ta, P, C, M⟩ := h
  obtain ⟨P1, P2, P3, P4, P5, P6, P7⟩ := id P
  obtain ⟨C1, C2, C3, C4, C5, C6, C7, C8, C9, C10⟩ := id C
  obtain ⟨I1, E1, N1, F1⟩ := c_feed (d := d) (c := c) (e := e) (L := L) (x := x) C10
  have G1 : ∀ q j, ¬ (q = 1 ∧ j = 9 ∨ q = 2) → I1 q j = I q j := fun q j hq => F1 q j (by omega) (by omega)
  have M := relM_f (I' := I1) (L' := L) M (fun q j hq => G1 q j (by omega)) (fun _ _ _ => rfl)
  obtain ⟨M1, M2, M3, M4, M5, M6, M7, M8, M9, M10⟩ := id M
  obtain ⟨I2, E2, R1, F2⟩ := m_feed (d := d) (c := c) (e := e) (L := L) (x := x) M10
  have G2 : ∀ q j, ¬ (q = 58 ∧ j = 12 ∨ q = 68) → I2 q j = I1 q j := fun q j hq => F2 q j (by omega) (by omega)
  exact ⟨_, I1, L, I2, L, c, e, ⟨_, rfl⟩, E1, E2, ⟨n, m, v, pe, D, k, a, ch, s, ld, im, sh, ro, b, bk, tr, lw, (opFeed kt ta x).2.1, (opFeed kt ta x).2.2, ⟨P1, P2, P3, P4, P5, P6, P7⟩, relC_f (I := I1) (L := L) P7 ⟨kitC_F C1 (fun q j hq => G1 q j (by omega)), peC_F C2 (fun q j hq => G1 q j (by omega)), chC_F C3 (fun q j hq => G1 q j (by omega)), deC_F C4 (fun q j hq => G1 q j (by omega)), imC_F C5 (fun q j hq => G1 q j (by omega)), shC_F C6 (fun q j hq => G1 q j (by omega)) (fun _ _ _ => rfl), boC_F C7 (fun q j hq => G1 q j (by omega)), trC_F C8 (fun q j hq => G1 q j (by omega)), lwC_F P7 C9 (fun q j hq => G1 q j (by omega)), N1⟩ (fun q j hq => G2 q j (by omega)) (fun _ _ _ => rfl), ⟨kitM_F M1 (fun q j hq => G2 q j (by omega)), peM_F M2 (fun q j hq => G2 q j (by omega)), chM_F M3 (fun q j hq => G2 q j (by omega)), deM_F M4 (fun q j hq => G2 q j (by omega)), imM_F M5 (fun q j hq => G2 q j (by omega)), shM_F M6 (fun q j hq => G2 q j (by omega)) (fun _ _ _ => rfl), boM_F M7 (fun q j hq => G2 q j (by omega)), trM_F M8 (fun q j hq => G2 q j (by omega)), lwM_F M9 (fun q j hq => G2 q j (by omega)), R1⟩⟩, fun q j hq => G1 q j (by omega), fun q j hq => (G2 q j (by omega)).trans (G1 q j (by omega))⟩
theorem zq_law (hd : 100 ≤ d) (h : Rel c e I L) : zStp zI d 102 199 [] I L c e := by
  obtain ⟨n, m, v, pe, D, k, a, ch, s, ld, im, sh, ro, b, bk, tr, lw, kt, ta, P, C, M⟩ := h
  obtain ⟨P1, P2, P3, P4, P5, P6, P7⟩ := id P
  obtain ⟨C1, C2, C3, C4, C5, C6, C7, C8, C9, C10⟩ := id C
  obtain ⟨I1, c1, e1, E1, P7n, N1, N2, F1⟩ := c_law (d := d) (c := c) (e := e) (L := L) P7 (Nat.le_trans (by decide) hd) C10 C9
  have G1 : ∀ q j, ¬ (q = 1 ∧ 5 ≤ j ∨ q = 5 ∨ q = 6) → I1 q j = I q j := fun q j hq => F1 q j (by omega) (by omega) (by omega)
  have M := relM_f (I' := I1) (L' := L) M (fun q j hq => G1 q j (by omega)) (fun _ _ _ => rfl)
  obtain ⟨M1, M2, M3, M4, M5, M6, M7, M8, M9, M10⟩ := id M
  obtain ⟨I2, E2, R1, R2, F2⟩ := m_law (d := d) (c := c1) (e := e1) (L := L) (Nat.le_trans (by decide) hd) M10 M9
  have G2 : ∀ q j, ¬ (q = 58 ∧ 12 ≤ j ∧ j ≤ 23 ∨ 69 ≤ q ∧ q ≤ 76) → I2 q j = I1 q j := fun q j hq => F2 q j (by omega) (by omega)
  exact ⟨_, I1, L, I2, L, c1, e1, ⟨_, rfl⟩, E1, E2, ⟨n, m, v, pe, D, k, a, ch, s, ld, im, sh, ro, b, bk, tr, (opLaw kt ta lw).2, 0, ta, ⟨P1, P2, P3, P4, P5, opLaw_ok C10.1 P6, P7n⟩, relC_f (I := I1) (L := L) P7n ⟨kitC_F C1 (fun q j hq => G1 q j (by omega)), peC_F C2 (fun q j hq => G1 q j (by omega)), chC_F C3 (fun q j hq => G1 q j (by omega)), deC_F C4 (fun q j hq => G1 q j (by omega)), imC_F C5 (fun q j hq => G1 q j (by omega)), shC_F C6 (fun q j hq => G1 q j (by omega)) (fun _ _ _ => rfl), boC_F C7 (fun q j hq => G1 q j (by omega)), trC_F C8 (fun q j hq => G1 q j (by omega)), N1, N2⟩ (fun q j hq => G2 q j (by omega)) (fun _ _ _ => rfl), ⟨kitM_F M1 (fun q j hq => G2 q j (by omega)), peM_F M2 (fun q j hq => G2 q j (by omega)), chM_F M3 (fun q j hq => G2 q j (by omega)), deM_F M4 (fun q j hq => G2 q j (by omega)), imM_F M5 (fun q j hq => G2 q j (by omega)), shM_F M6 (fun q j hq => G2 q j (by omega)) (fun _ _ _ => rfl), boM_F M7 (fun q j hq => G2 q j (by omega)), trM_F M8 (fun q j hq => G2 q j (by omega)), R1, R2⟩⟩, fun q j hq => G1 q j (by omega), fun q j hq => (G2 q j (by omega)).trans (G1 q j (by omega))⟩
theorem zq_make {x : Int32} {y : Int32} (hd : 100 ≤ d) (h : Rel c e I L) : zStp zI d 124 240 [.int x, .int y] I L c e := by
  obtain ⟨n, m, v, pe, D, k, a, ch, s, ld, im, sh, ro, b, bk, tr, lw, kt, ta, P, C, M⟩ := h
  obtain ⟨P1, P2, P3, P4, P5, P6, P7⟩ := id P
  obtain ⟨C1, C2, C3, C4, C5, C6, C7, C8, C9, C10⟩ := id C
  obtain ⟨I1, E1, N1, N2, F1⟩ := c_make (d := d) (c := c) (e := e) (L := L) (x := x) (y := y) P7 P6 C9 C1 C2 P1 C4 P3
  have G1 : ∀ q j, ¬ (q = 1 ∧ j = 8 ∨ q = 3 ∨ q = 4 ∨ q = 16 ∨ q = 18 ∨ q = 37 ∧ j = 1 ∨ q = 38) → I1 q j = I q j := fun q j hq => F1 q j (by omega) (by omega) (by omega) (by omega) (by omega) (by omega) (by omega) 
  have M := relM_f (I' := I1) (L' := L) M (fun q j hq => G1 q j (by omega)) (fun _ _ _ => rfl)
  obtain ⟨M1, M2, M3, M4, M5, M6, M7, M8, M9, M10⟩ := id M
  obtain ⟨I2, E2, R1, R2, F2⟩ := m_make (d := d) (c := c) (e := e) (L := L) (x := x) (y := y) P6 M9 M1 M2 P1 M4 P3
  have G2 : ∀ q j, ¬ (q = 65 ∨ q = 67 ∨ q = 77 ∨ q = 78 ∨ q = 58 ∧ j = 11) → I2 q j = I1 q j := fun q j hq => F2 q j (by omega) (by omega) (by omega) (by omega) (by omega) 
  obtain ⟨O1, O2⟩ := opMake_ok (x := x) (y := y) (lw := lw) (le := ld) (kitC_nv C1).2 (kitC_nv C1).1 P1 P3
  exact ⟨_, I1, L, I2, L, c, e, ⟨_, rfl⟩, E1, E2, ⟨n, m, v, (opMake n v m pe D lw s ld x y).2.1, (opMake n v m pe D lw s ld x y).2.2.1, k, a, ch, (opMake n v m pe D lw s ld x y).2.2.2.1, (opMake n v m pe D lw s ld x y).2.2.2.2, im, sh, ro, b, bk, tr, lw, kt, ta, ⟨O1, P2, O2, P4, P5, P6, P7⟩, relC_f (I := I1) (L := L) P7 ⟨kitC_F C1 (fun q j hq => G1 q j (by omega)), N1, chC_F C3 (fun q j hq => G1 q j (by omega)), N2, imC_F C5 (fun q j hq => G1 q j (by omega)), shC_F C6 (fun q j hq => G1 q j (by omega)) (fun _ _ _ => rfl), boC_F C7 (fun q j hq => G1 q j (by omega)), trC_F C8 (fun q j hq => G1 q j (by omega)), lwC_F P7 C9 (fun q j hq => G1 q j (by omega)), taC_F C10 (fun q j hq => G1 q j (by omega))⟩ (fun q j hq => G2 q j (by omega)) (fun _ _ _ => rfl), ⟨kitM_F M1 (fun q j hq => G2 q j (by omega)), R1, chM_F M3 (fun q j hq => G2 q j (by omega)), R2, imM_F M5 (fun q j hq => G2 q j (by omega)), shM_F M6 (fun q j hq => G2 q j (by omega)) (fun _ _ _ => rfl), boM_F M7 (fun q j hq => G2 q j (by omega)), trM_F M8 (fun q j hq => G2 q j (by omega)), lwM_F M9 (fun q j hq => G2 q j (by omega)), taM_F M10 (fun q j hq => G2 q j (by omega))⟩⟩, fun q j hq => G1 q j (by omega), fun q j hq => (G2 q j (by omega)).trans (G1 q j (by omega))⟩
theorem zq_lay {x : Int32} (hd : 100 ≤ d) (h : Rel c e I L) : zStp zI d 125 241 [.int x] I L c e := by
  obtain ⟨n, m, v, pe, D, k, a, ch, s, ld, im, sh, ro, b, bk, tr, lw, kt, ta, P, C, M⟩ := h
  obtain ⟨P1, P2, P3, P4, P5, P6, P7⟩ := id P
  obtain ⟨C1, C2, C3, C4, C5, C6, C7, C8, C9, C10⟩ := id C
  obtain ⟨I1, E1, N1, F1⟩ := c_lay (d := d) (c := c) (e := e) (L := L) (x := x) C4
  have G1 : ∀ q j, ¬ (q = 37 ∧ j = 1 ∨ q = 38) → I1 q j = I q j := fun q j hq => F1 q j (by omega) (by omega) 
  have M := relM_f (I' := I1) (L' := L) M (fun q j hq => G1 q j (by omega)) (fun _ _ _ => rfl)
  obtain ⟨M1, M2, M3, M4, M5, M6, M7, M8, M9, M10⟩ := id M
  obtain ⟨I2, E2, R1, F2⟩ := m_lay (d := d) (c := c) (e := e) (L := L) (x := x) M4
  have G2 : ∀ q j, ¬ (q = 58 ∧ j = 11 ∨ q = 78) → I2 q j = I1 q j := fun q j hq => F2 q j (by omega) (by omega) 
  exact ⟨_, I1, L, I2, L, c, e, ⟨_, rfl⟩, E1, E2, ⟨n, m, v, pe, D, k, a, ch, (opLay s ld x).2.1, (opLay s ld x).2.2, im, sh, ro, b, bk, tr, lw, kt, ta, ⟨P1, P2, opLay_ok P3, P4, P5, P6, P7⟩, relC_f (I := I1) (L := L) P7 ⟨kitC_F C1 (fun q j hq => G1 q j (by omega)), peC_F C2 (fun q j hq => G1 q j (by omega)), chC_F C3 (fun q j hq => G1 q j (by omega)), N1, imC_F C5 (fun q j hq => G1 q j (by omega)), shC_F C6 (fun q j hq => G1 q j (by omega)) (fun _ _ _ => rfl), boC_F C7 (fun q j hq => G1 q j (by omega)), trC_F C8 (fun q j hq => G1 q j (by omega)), lwC_F P7 C9 (fun q j hq => G1 q j (by omega)), taC_F C10 (fun q j hq => G1 q j (by omega))⟩ (fun q j hq => G2 q j (by omega)) (fun _ _ _ => rfl), ⟨kitM_F M1 (fun q j hq => G2 q j (by omega)), peM_F M2 (fun q j hq => G2 q j (by omega)), chM_F M3 (fun q j hq => G2 q j (by omega)), R1, imM_F M5 (fun q j hq => G2 q j (by omega)), shM_F M6 (fun q j hq => G2 q j (by omega)) (fun _ _ _ => rfl), boM_F M7 (fun q j hq => G2 q j (by omega)), trM_F M8 (fun q j hq => G2 q j (by omega)), lwM_F M9 (fun q j hq => G2 q j (by omega)), taM_F M10 (fun q j hq => G2 q j (by omega))⟩⟩, fun q j hq => G1 q j (by omega), fun q j hq => (G2 q j (by omega)).trans (G1 q j (by omega))⟩
theorem zq_image (hd : 100 ≤ d) (h : Rel c e I L) : zStp zI d 127 243 [] I L c e := by
  obtain ⟨n, m, v, pe, D, k, a, ch, s, ld, im, sh, ro, b, bk, tr, lw, kt, ta, P, C, M⟩ := h
  obtain ⟨P1, P2, P3, P4, P5, P6, P7⟩ := id P
  obtain ⟨C1, C2, C3, C4, C5, C6, C7, C8, C9, C10⟩ := id C
  obtain ⟨I1, E1, N1, F1⟩ := c_image (d := d) (c := c) (e := e) (L := L) C2 C4
  have G1 : ∀ q j, ¬ (q = 37 ∧ (j = 5 ∨ j = 6) ∨ 39 ≤ q ∧ q ≤ 41) → I1 q j = I q j := fun q j hq => F1 q j (by omega) (by omega) 
  have M := relM_f (I' := I1) (L' := L) M (fun q j hq => G1 q j (by omega)) (fun _ _ _ => rfl)
  obtain ⟨M1, M2, M3, M4, M5, M6, M7, M8, M9, M10⟩ := id M
  obtain ⟨I2, E2, R1, F2⟩ := m_image (d := d) (c := c) (e := e) (L := L) M2 M4
  have G2 : ∀ q j, ¬ (q = 58 ∧ (j = 30 ∨ j = 31 ∨ j = 32) ∨ 79 ≤ q ∧ q ≤ 81) → I2 q j = I1 q j := fun q j hq => F2 q j (by omega) (by omega) 
  exact ⟨_, I1, L, I2, L, c, e, ⟨_, rfl⟩, E1, E2, ⟨n, m, v, pe, D, k, a, ch, s, ld, (opImage m pe D s ld).2, sh, ro, b, bk, tr, lw, kt, ta, ⟨P1, P2, P3, opImage_ok P1 P3, P5, P6, P7⟩, relC_f (I := I1) (L := L) P7 ⟨kitC_F C1 (fun q j hq => G1 q j (by omega)), peC_F C2 (fun q j hq => G1 q j (by omega)), chC_F C3 (fun q j hq => G1 q j (by omega)), deC_F C4 (fun q j hq => G1 q j (by omega)), N1, shC_F C6 (fun q j hq => G1 q j (by omega)) (fun _ _ _ => rfl), boC_F C7 (fun q j hq => G1 q j (by omega)), trC_F C8 (fun q j hq => G1 q j (by omega)), lwC_F P7 C9 (fun q j hq => G1 q j (by omega)), taC_F C10 (fun q j hq => G1 q j (by omega))⟩ (fun q j hq => G2 q j (by omega)) (fun _ _ _ => rfl), ⟨kitM_F M1 (fun q j hq => G2 q j (by omega)), peM_F M2 (fun q j hq => G2 q j (by omega)), chM_F M3 (fun q j hq => G2 q j (by omega)), deM_F M4 (fun q j hq => G2 q j (by omega)), R1, shM_F M6 (fun q j hq => G2 q j (by omega)) (fun _ _ _ => rfl), boM_F M7 (fun q j hq => G2 q j (by omega)), trM_F M8 (fun q j hq => G2 q j (by omega)), lwM_F M9 (fun q j hq => G2 q j (by omega)), taM_F M10 (fun q j hq => G2 q j (by omega))⟩⟩, fun q j hq => G1 q j (by omega), fun q j hq => (G2 q j (by omega)).trans (G1 q j (by omega))⟩
theorem zq_back (hd : 100 ≤ d) (h : Rel c e I L) : zStp zI d 128 244 [] I L c e := by
  obtain ⟨n, m, v, pe, D, k, a, ch, s, ld, im, sh, ro, b, bk, tr, lw, kt, ta, P, C, M⟩ := h
  obtain ⟨P1, P2, P3, P4, P5, P6, P7⟩ := id P
  obtain ⟨C1, C2, C3, C4, C5, C6, C7, C8, C9, C10⟩ := id C
  obtain ⟨I1, E1, N1, N2, F1⟩ := c_back (d := d) (c := c) (e := e) (L := L) C2 C4 C5
  have G1 : ∀ q j, ¬ (q = 37 ∧ j = 1 ∨ q = 16 ∨ q = 18 ∨ q = 38) → I1 q j = I q j := fun q j hq => F1 q j (by omega) (by omega) (by omega) (by omega) 
  have M := relM_f (I' := I1) (L' := L) M (fun q j hq => G1 q j (by omega)) (fun _ _ _ => rfl)
  obtain ⟨M1, M2, M3, M4, M5, M6, M7, M8, M9, M10⟩ := id M
  obtain ⟨I2, E2, R1, R2, F2⟩ := m_back (d := d) (c := c) (e := e) (L := L) P1.1 M2 M4 M5 P4
  have G2 : ∀ q j, ¬ (q = 58 ∧ j = 11 ∨ q = 65 ∨ q = 67 ∨ q = 78) → I2 q j = I1 q j := fun q j hq => F2 q j (by omega) (by omega) (by omega) (by omega) 
  obtain ⟨O1, O2⟩ := opBack_ok (ld := ld) P1 P3 P4
  exact ⟨_, I1, L, I2, L, c, e, ⟨_, rfl⟩, E1, E2, ⟨n, m, v, (opBack pe D s ld im).2.1, (opBack pe D s ld im).2.2.1, k, a, ch, (opBack pe D s ld im).2.2.2.1, (opBack pe D s ld im).2.2.2.2, im, sh, ro, b, bk, tr, lw, kt, ta, ⟨O1, P2, O2, P4, P5, P6, P7⟩, relC_f (I := I1) (L := L) P7 ⟨kitC_F C1 (fun q j hq => G1 q j (by omega)), N1, chC_F C3 (fun q j hq => G1 q j (by omega)), N2, imC_F C5 (fun q j hq => G1 q j (by omega)), shC_F C6 (fun q j hq => G1 q j (by omega)) (fun _ _ _ => rfl), boC_F C7 (fun q j hq => G1 q j (by omega)), trC_F C8 (fun q j hq => G1 q j (by omega)), lwC_F P7 C9 (fun q j hq => G1 q j (by omega)), taC_F C10 (fun q j hq => G1 q j (by omega))⟩ (fun q j hq => G2 q j (by omega)) (fun _ _ _ => rfl), ⟨kitM_F M1 (fun q j hq => G2 q j (by omega)), R1, chM_F M3 (fun q j hq => G2 q j (by omega)), R2, imM_F M5 (fun q j hq => G2 q j (by omega)), shM_F M6 (fun q j hq => G2 q j (by omega)) (fun _ _ _ => rfl), boM_F M7 (fun q j hq => G2 q j (by omega)), trM_F M8 (fun q j hq => G2 q j (by omega)), lwM_F M9 (fun q j hq => G2 q j (by omega)), taM_F M10 (fun q j hq => G2 q j (by omega))⟩⟩, fun q j hq => G1 q j (by omega), fun q j hq => (G2 q j (by omega)).trans (G1 q j (by omega))⟩
theorem zq_undo (hd : 100 ≤ d) (h : Rel c e I L) : zStp zI d 129 184 [] I L c e := by
  obtain ⟨n, m, v, pe, D, k, a, ch, s, ld, im, sh, ro, b, bk, tr, lw, kt, ta, P, C, M⟩ := h
  obtain ⟨P1, P2, P3, P4, P5, P6, P7⟩ := id P
  obtain ⟨C1, C2, C3, C4, C5, C6, C7, C8, C9, C10⟩ := id C
  obtain ⟨I1, E1, N1, N2, N3, F1⟩ := c_undo (d := d) (c := c) (e := e) (L := L) C1 P1 C2 P2 C3
  have G1 : ∀ q j, ¬ (q = 32 ∧ j = 4 ∨ 10 ≤ q ∧ q ≤ 13 ∨ 15 ≤ q ∧ q ≤ 17) → I1 q j = I q j := fun q j hq => F1 q j (by omega) (by omega) 
  have M := relM_f (I' := I1) (L' := L) M (fun q j hq => G1 q j (by omega)) (fun _ _ _ => rfl)
  obtain ⟨M1, M2, M3, M4, M5, M6, M7, M8, M9, M10⟩ := id M
  obtain ⟨I2, E2, R1, R2, R3, F2⟩ := m_undo (d := d) (c := c) (e := e) (L := L) M1 P1 M2 P2 M3
  have G2 : ∀ q j, ¬ (q = 58 ∧ j = 37 ∨ 61 ≤ q ∧ q ≤ 66) → I2 q j = I1 q j := fun q j hq => F2 q j (by omega) (by omega) 
  obtain ⟨O1, O2⟩ := opUndo_ok P1 P2
  exact ⟨_, I1, L, I2, L, c, e, ⟨_, rfl⟩, E1, E2, ⟨n, m, (opUndo v pe k ch).2.1, (opUndo v pe k ch).2.2.1, D, (opUndo v pe k ch).2.2.2, a, ch, s, ld, im, sh, ro, b, bk, tr, lw, kt, ta, ⟨O1, O2, P3, P4, P5, P6, P7⟩, relC_f (I := I1) (L := L) P7 ⟨N1, N2, N3, deC_F C4 (fun q j hq => G1 q j (by omega)), imC_F C5 (fun q j hq => G1 q j (by omega)), shC_F C6 (fun q j hq => G1 q j (by omega)) (fun _ _ _ => rfl), boC_F C7 (fun q j hq => G1 q j (by omega)), trC_F C8 (fun q j hq => G1 q j (by omega)), lwC_F P7 C9 (fun q j hq => G1 q j (by omega)), taC_F C10 (fun q j hq => G1 q j (by omega))⟩ (fun q j hq => G2 q j (by omega)) (fun _ _ _ => rfl), ⟨R1, R2, R3, deM_F M4 (fun q j hq => G2 q j (by omega)), imM_F M5 (fun q j hq => G2 q j (by omega)), shM_F M6 (fun q j hq => G2 q j (by omega)) (fun _ _ _ => rfl), boM_F M7 (fun q j hq => G2 q j (by omega)), trM_F M8 (fun q j hq => G2 q j (by omega)), lwM_F M9 (fun q j hq => G2 q j (by omega)), taM_F M10 (fun q j hq => G2 q j (by omega))⟩⟩, fun q j hq => G1 q j (by omega), fun q j hq => (G2 q j (by omega)).trans (G1 q j (by omega))⟩
theorem zq_redo (hd : 100 ≤ d) (h : Rel c e I L) : zStp zI d 130 185 [] I L c e := by
  obtain ⟨n, m, v, pe, D, k, a, ch, s, ld, im, sh, ro, b, bk, tr, lw, kt, ta, P, C, M⟩ := h
  obtain ⟨P1, P2, P3, P4, P5, P6, P7⟩ := id P
  obtain ⟨C1, C2, C3, C4, C5, C6, C7, C8, C9, C10⟩ := id C
  obtain ⟨I1, E1, N1, N2, N3, F1⟩ := c_redo (d := d) (c := c) (e := e) (L := L) C1 P1 C2 P2 C3
  have G1 : ∀ q j, ¬ (q = 32 ∧ j = 4 ∨ 10 ≤ q ∧ q ≤ 13 ∨ 15 ≤ q ∧ q ≤ 17) → I1 q j = I q j := fun q j hq => F1 q j (by omega) (by omega) 
  have M := relM_f (I' := I1) (L' := L) M (fun q j hq => G1 q j (by omega)) (fun _ _ _ => rfl)
  obtain ⟨M1, M2, M3, M4, M5, M6, M7, M8, M9, M10⟩ := id M
  obtain ⟨I2, E2, R1, R2, R3, F2⟩ := m_redo (d := d) (c := c) (e := e) (L := L) M1 P1 M2 P2 M3
  have G2 : ∀ q j, ¬ (q = 58 ∧ j = 37 ∨ 61 ≤ q ∧ q ≤ 66) → I2 q j = I1 q j := fun q j hq => F2 q j (by omega) (by omega) 
  obtain ⟨O1, O2⟩ := opRedo_ok P1 P2
  exact ⟨_, I1, L, I2, L, c, e, ⟨_, rfl⟩, E1, E2, ⟨n, m, (opRedo v pe k a ch).2.1, (opRedo v pe k a ch).2.2.1, D, (opRedo v pe k a ch).2.2.2, a, ch, s, ld, im, sh, ro, b, bk, tr, lw, kt, ta, ⟨O1, O2, P3, P4, P5, P6, P7⟩, relC_f (I := I1) (L := L) P7 ⟨N1, N2, N3, deC_F C4 (fun q j hq => G1 q j (by omega)), imC_F C5 (fun q j hq => G1 q j (by omega)), shC_F C6 (fun q j hq => G1 q j (by omega)) (fun _ _ _ => rfl), boC_F C7 (fun q j hq => G1 q j (by omega)), trC_F C8 (fun q j hq => G1 q j (by omega)), lwC_F P7 C9 (fun q j hq => G1 q j (by omega)), taC_F C10 (fun q j hq => G1 q j (by omega))⟩ (fun q j hq => G2 q j (by omega)) (fun _ _ _ => rfl), ⟨R1, R2, R3, deM_F M4 (fun q j hq => G2 q j (by omega)), imM_F M5 (fun q j hq => G2 q j (by omega)), shM_F M6 (fun q j hq => G2 q j (by omega)) (fun _ _ _ => rfl), boM_F M7 (fun q j hq => G2 q j (by omega)), trM_F M8 (fun q j hq => G2 q j (by omega)), lwM_F M9 (fun q j hq => G2 q j (by omega)), taM_F M10 (fun q j hq => G2 q j (by omega))⟩⟩, fun q j hq => G1 q j (by omega), fun q j hq => (G2 q j (by omega)).trans (G1 q j (by omega))⟩
theorem zq_body {x : Int32} (hd : 100 ≤ d) (h : Rel c e I L) : zStp zI d 131 251 [.int x] I L c e := by
  obtain ⟨n, m, v, pe, D, k, a, ch, s, ld, im, sh, ro, b, bk, tr, lw, kt, ta, P, C, M⟩ := h
  obtain ⟨P1, P2, P3, P4, P5, P6, P7⟩ := id P
  obtain ⟨C1, C2, C3, C4, C5, C6, C7, C8, C9, C10⟩ := id C
  obtain ⟨I1, E1, N1, F1⟩ := c_body (d := d) (c := c) (e := e) (L := L) (x := x) P5.1 C7
  have G1 : ∀ q j, ¬ (q = 29 ∧ j = 3 ∨ q = 30) → I1 q j = I q j := fun q j hq => F1 q j (by omega) (by omega) 
  have M := relM_f (I' := I1) (L' := L) M (fun q j hq => G1 q j (by omega)) (fun _ _ _ => rfl)
  obtain ⟨M1, M2, M3, M4, M5, M6, M7, M8, M9, M10⟩ := id M
  obtain ⟨I2, E2, R1, F2⟩ := m_body (d := d) (c := c) (e := e) (L := L) (x := x) P5.1 M7
  have G2 : ∀ q j, ¬ (q = 58 ∧ j = 39 ∨ q = 83) → I2 q j = I1 q j := fun q j hq => F2 q j (by omega) (by omega) 
  exact ⟨_, I1, L, I2, L, c, e, ⟨_, rfl⟩, E1, E2, ⟨n, m, v, pe, D, k, a, ch, s, ld, im, sh, ro, (opBody b bk x).2.1, (opBody b bk x).2.2, tr, lw, kt, ta, ⟨P1, P2, P3, P4, opBody_ok P5, P6, P7⟩, relC_f (I := I1) (L := L) P7 ⟨kitC_F C1 (fun q j hq => G1 q j (by omega)), peC_F C2 (fun q j hq => G1 q j (by omega)), chC_F C3 (fun q j hq => G1 q j (by omega)), deC_F C4 (fun q j hq => G1 q j (by omega)), imC_F C5 (fun q j hq => G1 q j (by omega)), shC_F C6 (fun q j hq => G1 q j (by omega)) (fun _ _ _ => rfl), N1, trC_F C8 (fun q j hq => G1 q j (by omega)), lwC_F P7 C9 (fun q j hq => G1 q j (by omega)), taC_F C10 (fun q j hq => G1 q j (by omega))⟩ (fun q j hq => G2 q j (by omega)) (fun _ _ _ => rfl), ⟨kitM_F M1 (fun q j hq => G2 q j (by omega)), peM_F M2 (fun q j hq => G2 q j (by omega)), chM_F M3 (fun q j hq => G2 q j (by omega)), deM_F M4 (fun q j hq => G2 q j (by omega)), imM_F M5 (fun q j hq => G2 q j (by omega)), shM_F M6 (fun q j hq => G2 q j (by omega)) (fun _ _ _ => rfl), R1, trM_F M8 (fun q j hq => G2 q j (by omega)), lwM_F M9 (fun q j hq => G2 q j (by omega)), taM_F M10 (fun q j hq => G2 q j (by omega))⟩⟩, fun q j hq => G1 q j (by omega), fun q j hq => (G2 q j (by omega)).trans (G1 q j (by omega))⟩
theorem zq_act {x : Int32} {y : Int32} {z : Int32} (hd : 100 ≤ d) (h : Rel c e I L) : zStp zI d 132 252 [.int x, .int y, .int z] I L c e := by
  obtain ⟨n, m, v, pe, D, k, a, ch, s, ld, im, sh, ro, b, bk, tr, lw, kt, ta, P, C, M⟩ := h
  obtain ⟨P1, P2, P3, P4, P5, P6, P7⟩ := id P
  obtain ⟨C1, C2, C3, C4, C5, C6, C7, C8, C9, C10⟩ := id C
  obtain ⟨I1, E1, N1, F1⟩ := c_act (d := d) (c := c) (e := e) (L := L) (x := x) (y := y) (z := z) hd P5.1 C7
  have G1 : ∀ q j, ¬ (q = 29 ∧ j = 2 ∨ q = 29 ∧ j = 4 ∨ q = 31) → I1 q j = I q j := fun q j hq => F1 q j (by omega) (by omega) (by omega) 
  have M := relM_f (I' := I1) (L' := L) M (fun q j hq => G1 q j (by omega)) (fun _ _ _ => rfl)
  obtain ⟨M1, M2, M3, M4, M5, M6, M7, M8, M9, M10⟩ := id M
  obtain ⟨I2, E2, R1, F2⟩ := m_act (d := d) (c := c) (e := e) (L := L) (x := x) (y := y) (z := z) hd P5.1 M7
  have G2 : ∀ q j, ¬ (q = 58 ∧ j = 41 ∨ q = 84) → I2 q j = I1 q j := fun q j hq => F2 q j (by omega) (by omega) 
  exact ⟨_, I1, L, I2, L, c, e, ⟨_, rfl⟩, E1, E2, ⟨n, m, v, pe, D, k, a, ch, s, ld, im, sh, ro, b, bk, (opAct b bk x y z).2, lw, kt, ta, ⟨P1, P2, P3, P4, P5, P6, P7⟩, relC_f (I := I1) (L := L) P7 ⟨kitC_F C1 (fun q j hq => G1 q j (by omega)), peC_F C2 (fun q j hq => G1 q j (by omega)), chC_F C3 (fun q j hq => G1 q j (by omega)), deC_F C4 (fun q j hq => G1 q j (by omega)), imC_F C5 (fun q j hq => G1 q j (by omega)), shC_F C6 (fun q j hq => G1 q j (by omega)) (fun _ _ _ => rfl), boC_F C7 (fun q j hq => G1 q j (by omega)), N1, lwC_F P7 C9 (fun q j hq => G1 q j (by omega)), taC_F C10 (fun q j hq => G1 q j (by omega))⟩ (fun q j hq => G2 q j (by omega)) (fun _ _ _ => rfl), ⟨kitM_F M1 (fun q j hq => G2 q j (by omega)), peM_F M2 (fun q j hq => G2 q j (by omega)), chM_F M3 (fun q j hq => G2 q j (by omega)), deM_F M4 (fun q j hq => G2 q j (by omega)), imM_F M5 (fun q j hq => G2 q j (by omega)), shM_F M6 (fun q j hq => G2 q j (by omega)) (fun _ _ _ => rfl), boM_F M7 (fun q j hq => G2 q j (by omega)), R1, lwM_F M9 (fun q j hq => G2 q j (by omega)), taM_F M10 (fun q j hq => G2 q j (by omega))⟩⟩, fun q j hq => G1 q j (by omega), fun q j hq => (G2 q j (by omega)).trans (G1 q j (by omega))⟩
theorem zq_keep {x : Int32} {y : Int32} (hd : 100 ≤ d) (h : Rel c e I L) : zStp zI d 134 254 [.int x, .int y] I L c e := by
  obtain ⟨n, m, v, pe, D, k, a, ch, s, ld, im, sh, ro, b, bk, tr, lw, kt, ta, P, C, M⟩ := h
  obtain ⟨P1, P2, P3, P4, P5, P6, P7⟩ := id P
  obtain ⟨C1, C2, C3, C4, C5, C6, C7, C8, C9, C10⟩ := id C
  obtain ⟨I1, L1, E1, N1, F1, K1⟩ := c_keep (d := d) (c := c) (e := e) (L := L) (x := x) (y := y) C7.1 P5 C6
  have G1 : ∀ q j, ¬ (27 ≤ q ∧ q ≤ 28) → I1 q j = I q j := fun q j hq => F1 q j (by omega) (by omega) 
  have M := relM_f (I' := I1) (L' := L1) M (fun q j hq => G1 q j (by omega)) (fun q j hq => K1 q j (by omega))
  obtain ⟨M1, M2, M3, M4, M5, M6, M7, M8, M9, M10⟩ := id M
  obtain ⟨I2, E2, R1, F2⟩ := m_keep (d := d) (c := c) (e := e) (L := L1) (x := x) (y := y) M7.1 P5 M6
  have G2 : ∀ q j, ¬ (85 ≤ q ∧ q ≤ 86) → I2 q j = I1 q j := fun q j hq => F2 q j (by omega) (by omega) 
  exact ⟨_, I1, L1, I2, L1, c, e, ⟨_, rfl⟩, E1, E2, ⟨n, m, v, pe, D, k, a, ch, s, ld, im, (opKeep b sh x y).2, ro, b, bk, tr, lw, kt, ta, ⟨P1, P2, P3, P4, opKeep_ok P5, P6, P7⟩, relC_f (I := I1) (L := L1) P7 ⟨kitC_F C1 (fun q j hq => G1 q j (by omega)), peC_F C2 (fun q j hq => G1 q j (by omega)), chC_F C3 (fun q j hq => G1 q j (by omega)), deC_F C4 (fun q j hq => G1 q j (by omega)), imC_F C5 (fun q j hq => G1 q j (by omega)), N1, boC_F C7 (fun q j hq => G1 q j (by omega)), trC_F C8 (fun q j hq => G1 q j (by omega)), lwC_F P7 C9 (fun q j hq => G1 q j (by omega)), taC_F C10 (fun q j hq => G1 q j (by omega))⟩ (fun q j hq => G2 q j (by omega)) (fun _ _ _ => rfl), ⟨kitM_F M1 (fun q j hq => G2 q j (by omega)), peM_F M2 (fun q j hq => G2 q j (by omega)), chM_F M3 (fun q j hq => G2 q j (by omega)), deM_F M4 (fun q j hq => G2 q j (by omega)), imM_F M5 (fun q j hq => G2 q j (by omega)), R1, boM_F M7 (fun q j hq => G2 q j (by omega)), trM_F M8 (fun q j hq => G2 q j (by omega)), lwM_F M9 (fun q j hq => G2 q j (by omega)), taM_F M10 (fun q j hq => G2 q j (by omega))⟩⟩, fun q j hq => G1 q j (by omega), fun q j hq => (G2 q j (by omega)).trans (G1 q j (by omega))⟩
theorem zq_row {x : Int32} {y : Int32} {z : Int32} (hd : 100 ≤ d) (h : Rel c e I L) : zStp zI d 135 255 [.int x, .int y, .int z] I L c e := by
  obtain ⟨n, m, v, pe, D, k, a, ch, s, ld, im, sh, ro, b, bk, tr, lw, kt, ta, P, C, M⟩ := h
  obtain ⟨P1, P2, P3, P4, P5, P6, P7⟩ := id P
  obtain ⟨C1, C2, C3, C4, C5, C6, C7, C8, C9, C10⟩ := id C
  obtain ⟨I1, L1, E1, N1, F1, K1⟩ := c_row (d := d) (c := c) (e := e) (L := L) (x := x) (y := y) (z := z) C6
  have G1 : ∀ q j, ¬ (27 ≤ q ∧ q ≤ 28) → I1 q j = I q j := fun q j hq => F1 q j (by omega) (by omega) 
  have M := relM_f (I' := I1) (L' := L1) M (fun q j hq => G1 q j (by omega)) (fun q j hq => K1 q j (by omega))
  obtain ⟨M1, M2, M3, M4, M5, M6, M7, M8, M9, M10⟩ := id M
  obtain ⟨I2, L2, E2, R1, F2, K2⟩ := m_row (d := d) (c := c) (e := e) (L := L1) (x := x) (y := y) (z := z) M6
  have G2 : ∀ q j, ¬ (85 ≤ q ∧ q ≤ 86) → I2 q j = I1 q j := fun q j hq => F2 q j (by omega) (by omega) 
  exact ⟨_, I1, L1, I2, L2, c, e, ⟨_, rfl⟩, E1, E2, ⟨n, m, v, pe, D, k, a, ch, s, ld, im, (opRow sh ro x y z).2.1, (opRow sh ro x y z).2.2, b, bk, tr, lw, kt, ta, ⟨P1, P2, P3, P4, opRow_ok P5, P6, P7⟩, relC_f (I := I1) (L := L1) P7 ⟨kitC_F C1 (fun q j hq => G1 q j (by omega)), peC_F C2 (fun q j hq => G1 q j (by omega)), chC_F C3 (fun q j hq => G1 q j (by omega)), deC_F C4 (fun q j hq => G1 q j (by omega)), imC_F C5 (fun q j hq => G1 q j (by omega)), N1, boC_F C7 (fun q j hq => G1 q j (by omega)), trC_F C8 (fun q j hq => G1 q j (by omega)), lwC_F P7 C9 (fun q j hq => G1 q j (by omega)), taC_F C10 (fun q j hq => G1 q j (by omega))⟩ (fun q j hq => G2 q j (by omega)) (fun q j hq => K2 q j (by omega)), ⟨kitM_F M1 (fun q j hq => G2 q j (by omega)), peM_F M2 (fun q j hq => G2 q j (by omega)), chM_F M3 (fun q j hq => G2 q j (by omega)), deM_F M4 (fun q j hq => G2 q j (by omega)), imM_F M5 (fun q j hq => G2 q j (by omega)), R1, boM_F M7 (fun q j hq => G2 q j (by omega)), trM_F M8 (fun q j hq => G2 q j (by omega)), lwM_F M9 (fun q j hq => G2 q j (by omega)), taM_F M10 (fun q j hq => G2 q j (by omega))⟩⟩, fun q j hq => G1 q j (by omega), fun q j hq => (G2 q j (by omega)).trans (G1 q j (by omega))⟩
theorem zq_put {x : Int32} {y : Int32} {w : Int64} (hd : 100 ≤ d) (h : Rel c e I L) : zStp zI d 136 258 [.int x, .int y, .long w] I L c e := by
  obtain ⟨n, m, v, pe, D, k, a, ch, s, ld, im, sh, ro, b, bk, tr, lw, kt, ta, P, C, M⟩ := h
  obtain ⟨P1, P2, P3, P4, P5, P6, P7⟩ := id P
  obtain ⟨C1, C2, C3, C4, C5, C6, C7, C8, C9, C10⟩ := id C
  obtain ⟨L1, E1, N1, K1⟩ := c_put (d := d) (c := c) (e := e) (I := I) (L := L) (x := x) (y := y) (w := w) C6 P5
  have M := relM_f (I' := I) (L' := L1) M (fun _ _ _ => rfl) (fun q j hq => K1 q j (by omega))
  obtain ⟨M1, M2, M3, M4, M5, M6, M7, M8, M9, M10⟩ := id M
  obtain ⟨L2, E2, R1, K2⟩ := m_put (d := d) (c := c) (e := e) (I := I) (L := L1) (x := x) (y := y) (w := w) M6 P5
  exact ⟨_, I, L1, I, L2, c, e, ⟨_, rfl⟩, E1, E2, ⟨n, m, v, pe, D, k, a, ch, s, ld, im, sh, (opPut sh ro x y w).2, b, bk, tr, lw, kt, ta, ⟨P1, P2, P3, P4, P5, P6, P7⟩, relC_f (I := I) (L := L1) P7 ⟨kitC_F C1 (fun _ _ _ => rfl), peC_F C2 (fun _ _ _ => rfl), chC_F C3 (fun _ _ _ => rfl), deC_F C4 (fun _ _ _ => rfl), imC_F C5 (fun _ _ _ => rfl), N1, boC_F C7 (fun _ _ _ => rfl), trC_F C8 (fun _ _ _ => rfl), lwC_F P7 C9 (fun _ _ _ => rfl), taC_F C10 (fun _ _ _ => rfl)⟩ (fun _ _ _ => rfl) (fun q j hq => K2 q j (by omega)), ⟨kitM_F M1 (fun _ _ _ => rfl), peM_F M2 (fun _ _ _ => rfl), chM_F M3 (fun _ _ _ => rfl), deM_F M4 (fun _ _ _ => rfl), imM_F M5 (fun _ _ _ => rfl), R1, boM_F M7 (fun _ _ _ => rfl), trM_F M8 (fun _ _ _ => rfl), lwM_F M9 (fun _ _ _ => rfl), taM_F M10 (fun _ _ _ => rfl)⟩⟩, fun _ _ _ => rfl, fun _ _ _ => rfl⟩
theorem zq_shift {x : Int32} {u : Int32} {y : Int32} {w : Int32} {z : Int32} (hd : 100 ≤ d) (h : Rel c e I L) : zStp zI d 138 260 [.int x, .int u, .int y, .int w, .int z] I L c e := by
  obtain ⟨n, m, v, pe, D, k, a, ch, s, ld, im, sh, ro, b, bk, tr, lw, kt, ta, P, C, M⟩ := h
  obtain ⟨P1, P2, P3, P4, P5, P6, P7⟩ := id P
  obtain ⟨C1, C2, C3, C4, C5, C6, C7, C8, C9, C10⟩ := id C
  obtain ⟨L1, E1, N1, K1⟩ := c_shift (d := d) (c := c) (e := e) (I := I) (L := L) (x := x) (u := u) (y := y) (w := w) (z := z) C6 P5
  have M := relM_f (I' := I) (L' := L1) M (fun _ _ _ => rfl) (fun q j hq => K1 q j (by omega))
  obtain ⟨M1, M2, M3, M4, M5, M6, M7, M8, M9, M10⟩ := id M
  obtain ⟨L2, E2, R1, K2⟩ := m_shift (d := d) (c := c) (e := e) (I := I) (L := L1) (x := x) (u := u) (y := y) (w := w) (z := z) M6 P5
  exact ⟨_, I, L1, I, L2, c, e, ⟨_, rfl⟩, E1, E2, ⟨n, m, v, pe, D, k, a, ch, s, ld, im, sh, (opShift sh ro x u y w z).2, b, bk, tr, lw, kt, ta, ⟨P1, P2, P3, P4, P5, P6, P7⟩, relC_f (I := I) (L := L1) P7 ⟨kitC_F C1 (fun _ _ _ => rfl), peC_F C2 (fun _ _ _ => rfl), chC_F C3 (fun _ _ _ => rfl), deC_F C4 (fun _ _ _ => rfl), imC_F C5 (fun _ _ _ => rfl), N1, boC_F C7 (fun _ _ _ => rfl), trC_F C8 (fun _ _ _ => rfl), lwC_F P7 C9 (fun _ _ _ => rfl), taC_F C10 (fun _ _ _ => rfl)⟩ (fun _ _ _ => rfl) (fun q j hq => K2 q j (by omega)), ⟨kitM_F M1 (fun _ _ _ => rfl), peM_F M2 (fun _ _ _ => rfl), chM_F M3 (fun _ _ _ => rfl), deM_F M4 (fun _ _ _ => rfl), imM_F M5 (fun _ _ _ => rfl), R1, boM_F M7 (fun _ _ _ => rfl), trM_F M8 (fun _ _ _ => rfl), lwM_F M9 (fun _ _ _ => rfl), taM_F M10 (fun _ _ _ => rfl)⟩⟩, fun _ _ _ => rfl, fun _ _ _ => rfl⟩
end SM
