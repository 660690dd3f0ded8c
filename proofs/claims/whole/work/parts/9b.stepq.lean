/-! the calls that change nothing (printed by wip/whole/gen_step.py) -/
section SQ
variable {d : Nat} {c e : Nat} {I : Nat → Nat → Int32} {L : Nat → Nat → Int64}
theorem zq_of {x : Int32} {y : Int32} (hd : 100 ≤ d) (h : Rel c e I L) : zStp zI d 100 183 [.int x, .int y] I L c e := by
  obtain ⟨n, m, v, pe, D, k, a, ch, s, ld, im, sh, ro, b, bk, tr, lw, kt, ta, P, C, M⟩ := h
  obtain ⟨P1, P2, P3, P4, P5, P6, P7⟩ := id P
  obtain ⟨C1, C2, C3, C4, C5, C6, C7, C8, C9, C10⟩ := id C
  obtain ⟨M1, M2, M3, M4, M5, M6, M7, M8, M9, M10⟩ := id M
  exact ⟨_, I, L, I, L, c, e, ⟨_, rfl⟩, c_of C1 P1.1 C2 C4, m_of M1 P1.1 M2 M4, ⟨n, m, v, pe, D, k, a, ch, s, ld, im, sh, ro, b, bk, tr, lw, kt, ta, P, C, M⟩, fun _ _ _ => rfl, fun _ _ _ => rfl⟩
theorem zq_leads {x : Int32} {y : Int32} (hd : 100 ≤ d) (h : Rel c e I L) : zStp zI d 103 206 [.int x, .int y] I L c e := by
  obtain ⟨n, m, v, pe, D, k, a, ch, s, ld, im, sh, ro, b, bk, tr, lw, kt, ta, P, C, M⟩ := h
  obtain ⟨P1, P2, P3, P4, P5, P6, P7⟩ := id P
  obtain ⟨C1, C2, C3, C4, C5, C6, C7, C8, C9, C10⟩ := id C
  obtain ⟨M1, M2, M3, M4, M5, M6, M7, M8, M9, M10⟩ := id M
  exact ⟨_, I, L, I, L, c, e, ⟨_, rfl⟩, c_leads C1, m_leads M1, ⟨n, m, v, pe, D, k, a, ch, s, ld, im, sh, ro, b, bk, tr, lw, kt, ta, P, C, M⟩, fun _ _ _ => rfl, fun _ _ _ => rfl⟩
theorem zq_takes {x : Int32} {y : Int32} {z : Int32} (hd : 100 ≤ d) (h : Rel c e I L) : zStp zI d 104 207 [.int x, .int y, .int z] I L c e := by
  obtain ⟨n, m, v, pe, D, k, a, ch, s, ld, im, sh, ro, b, bk, tr, lw, kt, ta, P, C, M⟩ := h
  obtain ⟨P1, P2, P3, P4, P5, P6, P7⟩ := id P
  obtain ⟨C1, C2, C3, C4, C5, C6, C7, C8, C9, C10⟩ := id C
  obtain ⟨I1, E1, F1⟩ := c_takes (d := d) (c := c) (e := e) (L := L) (x := x) (y := y) (z := z) P7 P6 C9 C1 C2 P1
  have G1 : ∀ q j, ¬ (q = 1 ∧ j = 8 ∨ q = 3 ∨ q = 4) → I1 q j = I q j := fun q j hq => F1 q j (by omega) (by omega) (by omega)
  have C' := relC_q (I' := I1) (L' := L) P7 C (fun q j hq => G1 q j (by omega)) (fun _ _ _ => rfl)
  have M := relM_f (I' := I1) (L' := L) M (fun q j hq => G1 q j (by omega)) (fun _ _ _ => rfl)
  obtain ⟨M1, M2, M3, M4, M5, M6, M7, M8, M9, M10⟩ := id M
  obtain ⟨I2, E2, F2⟩ := m_takes (d := d) (c := c) (e := e) (L := L) (x := x) (y := y) (z := z) P6 M9 M1 M2 P1
  have G2 : ∀ q j, ¬ (q = 77) → I2 q j = I1 q j := fun q j hq => F2 q j (by omega)
  exact ⟨_, I1, L, I2, L, c, e, ⟨_, rfl⟩, E1, E2, ⟨n, m, v, pe, D, k, a, ch, s, ld, im, sh, ro, b, bk, tr, lw, kt, ta, P, relC_f P7 C' (fun q j hq => G2 q j (by omega)) (fun _ _ _ => rfl), relM_q M (fun q j hq => G2 q j (by omega)) (fun _ _ _ => rfl)⟩, fun q j hq => G1 q j (by omega), fun q j hq => (G2 q j (by omega)).trans (G1 q j (by omega))⟩
theorem zq_way {x : Int32} {y : Int32} {z : Int32} (hd : 100 ≤ d) (h : Rel c e I L) : zStp zI d 105 213 [.int x, .int y, .int z] I L c e := by
  obtain ⟨n, m, v, pe, D, k, a, ch, s, ld, im, sh, ro, b, bk, tr, lw, kt, ta, P, C, M⟩ := h
  obtain ⟨P1, P2, P3, P4, P5, P6, P7⟩ := id P
  obtain ⟨C1, C2, C3, C4, C5, C6, C7, C8, C9, C10⟩ := id C
  obtain ⟨I1, E1, F1⟩ := c_way (d := d) (c := c) (e := e) (L := L) (x := x) (y := y) (z := z) P7 P6 C9 C1 C2 P1
  have G1 : ∀ q j, ¬ (q = 1 ∧ j = 8 ∨ q = 3 ∨ q = 4 ∨ q = 42 ∧ j = 12 ∨ 43 ≤ q ∧ q ≤ 51) → I1 q j = I q j := fun q j hq => F1 q j (by omega) (by omega) (by omega) (by omega) (by omega)
  have C' := relC_q (I' := I1) (L' := L) P7 C (fun q j hq => G1 q j (by omega)) (fun _ _ _ => rfl)
  have M := relM_f (I' := I1) (L' := L) M (fun q j hq => G1 q j (by omega)) (fun _ _ _ => rfl)
  obtain ⟨M1, M2, M3, M4, M5, M6, M7, M8, M9, M10⟩ := id M
  obtain ⟨I2, E2, F2⟩ := m_way (d := d) (c := c) (e := e) (L := L) (x := x) (y := y) (z := z) P6 M9 M1 M2 P1
  have G2 : ∀ q j, ¬ (q = 77 ∨ 88 ≤ q ∧ q ≤ 90) → I2 q j = I1 q j := fun q j hq => F2 q j (by omega) (by omega)
  exact ⟨_, I1, L, I2, L, c, e, ⟨_, rfl⟩, E1, E2, ⟨n, m, v, pe, D, k, a, ch, s, ld, im, sh, ro, b, bk, tr, lw, kt, ta, P, relC_f P7 C' (fun q j hq => G2 q j (by omega)) (fun _ _ _ => rfl), relM_q M (fun q j hq => G2 q j (by omega)) (fun _ _ _ => rfl)⟩, fun q j hq => G1 q j (by omega), fun q j hq => (G2 q j (by omega)).trans (G1 q j (by omega))⟩
theorem zq_next {x : Int32} {y : Int32} (hd : 100 ≤ d) (h : Rel c e I L) : zStp zI d 106 214 [.int x, .int y] I L c e := by
  obtain ⟨n, m, v, pe, D, k, a, ch, s, ld, im, sh, ro, b, bk, tr, lw, kt, ta, P, C, M⟩ := h
  obtain ⟨P1, P2, P3, P4, P5, P6, P7⟩ := id P
  obtain ⟨C1, C2, C3, C4, C5, C6, C7, C8, C9, C10⟩ := id C
  obtain ⟨I1, E1, F1⟩ := c_next (d := d) (c := c) (e := e) (L := L) (x := x) (y := y) P7 P6 C9 C1 C2 P1
  have G1 : ∀ q j, ¬ (q = 1 ∧ j = 8 ∨ q = 3 ∨ q = 4 ∨ q = 42 ∧ j = 12 ∨ 43 ≤ q ∧ q ≤ 51) → I1 q j = I q j := fun q j hq => F1 q j (by omega) (by omega) (by omega) (by omega) (by omega)
  have C' := relC_q (I' := I1) (L' := L) P7 C (fun q j hq => G1 q j (by omega)) (fun _ _ _ => rfl)
  have M := relM_f (I' := I1) (L' := L) M (fun q j hq => G1 q j (by omega)) (fun _ _ _ => rfl)
  obtain ⟨M1, M2, M3, M4, M5, M6, M7, M8, M9, M10⟩ := id M
  obtain ⟨I2, E2, F2⟩ := m_next (d := d) (c := c) (e := e) (L := L) (x := x) (y := y) P6 M9 M1 M2 P1
  have G2 : ∀ q j, ¬ (q = 77 ∨ 88 ≤ q ∧ q ≤ 90) → I2 q j = I1 q j := fun q j hq => F2 q j (by omega) (by omega)
  exact ⟨_, I1, L, I2, L, c, e, ⟨_, rfl⟩, E1, E2, ⟨n, m, v, pe, D, k, a, ch, s, ld, im, sh, ro, b, bk, tr, lw, kt, ta, P, relC_f P7 C' (fun q j hq => G2 q j (by omega)) (fun _ _ _ => rfl), relM_q M (fun q j hq => G2 q j (by omega)) (fun _ _ _ => rfl)⟩, fun q j hq => G1 q j (by omega), fun q j hq => (G2 q j (by omega)).trans (G1 q j (by omega))⟩
theorem zq_reach {x : Int32} {y : Int32} (hd : 100 ≤ d) (h : Rel c e I L) : zStp zI d 107 216 [.int x, .int y] I L c e := by
  obtain ⟨n, m, v, pe, D, k, a, ch, s, ld, im, sh, ro, b, bk, tr, lw, kt, ta, P, C, M⟩ := h
  obtain ⟨P1, P2, P3, P4, P5, P6, P7⟩ := id P
  obtain ⟨C1, C2, C3, C4, C5, C6, C7, C8, C9, C10⟩ := id C
  obtain ⟨I1, E1, F1⟩ := c_reach (d := d) (c := c) (e := e) (L := L) (x := x) (y := y) P7 P6 C9 C1 C2 P1
  have G1 : ∀ q j, ¬ (q = 1 ∧ j = 8 ∨ q = 3 ∨ q = 4 ∨ q = 42 ∧ j = 12 ∨ 43 ≤ q ∧ q ≤ 51) → I1 q j = I q j := fun q j hq => F1 q j (by omega) (by omega) (by omega) (by omega) (by omega)
  have C' := relC_q (I' := I1) (L' := L) P7 C (fun q j hq => G1 q j (by omega)) (fun _ _ _ => rfl)
  have M := relM_f (I' := I1) (L' := L) M (fun q j hq => G1 q j (by omega)) (fun _ _ _ => rfl)
  obtain ⟨M1, M2, M3, M4, M5, M6, M7, M8, M9, M10⟩ := id M
  obtain ⟨I2, E2, F2⟩ := m_reach (d := d) (c := c) (e := e) (L := L) (x := x) (y := y) P6 M9 M1 M2 P1
  have G2 : ∀ q j, ¬ (q = 77 ∨ 88 ≤ q ∧ q ≤ 90) → I2 q j = I1 q j := fun q j hq => F2 q j (by omega) (by omega)
  exact ⟨_, I1, L, I2, L, c, e, ⟨_, rfl⟩, E1, E2, ⟨n, m, v, pe, D, k, a, ch, s, ld, im, sh, ro, b, bk, tr, lw, kt, ta, P, relC_f P7 C' (fun q j hq => G2 q j (by omega)) (fun _ _ _ => rfl), relM_q M (fun q j hq => G2 q j (by omega)) (fun _ _ _ => rfl)⟩, fun q j hq => G1 q j (by omega), fun q j hq => (G2 q j (by omega)).trans (G1 q j (by omega))⟩
theorem zq_worst {x : Int32} {y : Int32} (hd : 100 ≤ d) (h : Rel c e I L) : zStp zI d 108 218 [.int x, .int y] I L c e := by
  obtain ⟨n, m, v, pe, D, k, a, ch, s, ld, im, sh, ro, b, bk, tr, lw, kt, ta, P, C, M⟩ := h
  obtain ⟨P1, P2, P3, P4, P5, P6, P7⟩ := id P
  obtain ⟨C1, C2, C3, C4, C5, C6, C7, C8, C9, C10⟩ := id C
  obtain ⟨I1, E1, F1⟩ := c_worst (d := d) (c := c) (e := e) (L := L) (x := x) (y := y) P7 P6 C9 C1 C2 P1
  have G1 : ∀ q j, ¬ (q = 1 ∧ j = 8 ∨ q = 3 ∨ q = 4 ∨ q = 42 ∧ j = 12 ∨ 43 ≤ q ∧ q ≤ 51) → I1 q j = I q j := fun q j hq => F1 q j (by omega) (by omega) (by omega) (by omega) (by omega)
  have C' := relC_q (I' := I1) (L' := L) P7 C (fun q j hq => G1 q j (by omega)) (fun _ _ _ => rfl)
  have M := relM_f (I' := I1) (L' := L) M (fun q j hq => G1 q j (by omega)) (fun _ _ _ => rfl)
  obtain ⟨M1, M2, M3, M4, M5, M6, M7, M8, M9, M10⟩ := id M
  obtain ⟨I2, E2, F2⟩ := m_worst (d := d) (c := c) (e := e) (L := L) (x := x) (y := y) P6 M9 M1 M2 P1
  have G2 : ∀ q j, ¬ (q = 77 ∨ 88 ≤ q ∧ q ≤ 90) → I2 q j = I1 q j := fun q j hq => F2 q j (by omega) (by omega)
  exact ⟨_, I1, L, I2, L, c, e, ⟨_, rfl⟩, E1, E2, ⟨n, m, v, pe, D, k, a, ch, s, ld, im, sh, ro, b, bk, tr, lw, kt, ta, P, relC_f P7 C' (fun q j hq => G2 q j (by omega)) (fun _ _ _ => rfl), relM_q M (fun q j hq => G2 q j (by omega)) (fun _ _ _ => rfl)⟩, fun q j hq => G1 q j (by omega), fun q j hq => (G2 q j (by omega)).trans (G1 q j (by omega))⟩
theorem zq_ways {x : Int32} {y : Int32} (hd : 100 ≤ d) (h : Rel c e I L) : zStp zI d 109 219 [.int x, .int y] I L c e := by
  obtain ⟨n, m, v, pe, D, k, a, ch, s, ld, im, sh, ro, b, bk, tr, lw, kt, ta, P, C, M⟩ := h
  obtain ⟨P1, P2, P3, P4, P5, P6, P7⟩ := id P
  obtain ⟨C1, C2, C3, C4, C5, C6, C7, C8, C9, C10⟩ := id C
  obtain ⟨I1, E1, F1⟩ := c_ways (d := d) (c := c) (e := e) (L := L) (x := x) (y := y) P7 P6 C9 C1 C2 P1
  have G1 : ∀ q j, ¬ (q = 1 ∧ j = 8 ∨ q = 3 ∨ q = 4 ∨ q = 42 ∧ j = 12 ∨ 43 ≤ q ∧ q ≤ 51) → I1 q j = I q j := fun q j hq => F1 q j (by omega) (by omega) (by omega) (by omega) (by omega)
  have C' := relC_q (I' := I1) (L' := L) P7 C (fun q j hq => G1 q j (by omega)) (fun _ _ _ => rfl)
  have M := relM_f (I' := I1) (L' := L) M (fun q j hq => G1 q j (by omega)) (fun _ _ _ => rfl)
  obtain ⟨M1, M2, M3, M4, M5, M6, M7, M8, M9, M10⟩ := id M
  obtain ⟨I2, E2, F2⟩ := m_ways (d := d) (c := c) (e := e) (L := L) (x := x) (y := y) P6 M9 M1 M2 P1
  have G2 : ∀ q j, ¬ (q = 77 ∨ 88 ≤ q ∧ q ≤ 90) → I2 q j = I1 q j := fun q j hq => F2 q j (by omega) (by omega)
  exact ⟨_, I1, L, I2, L, c, e, ⟨_, rfl⟩, E1, E2, ⟨n, m, v, pe, D, k, a, ch, s, ld, im, sh, ro, b, bk, tr, lw, kt, ta, P, relC_f P7 C' (fun q j hq => G2 q j (by omega)) (fun _ _ _ => rfl), relM_q M (fun q j hq => G2 q j (by omega)) (fun _ _ _ => rfl)⟩, fun q j hq => G1 q j (by omega), fun q j hq => (G2 q j (by omega)).trans (G1 q j (by omega))⟩
theorem zq_backFrom {x : Int32} (hd : 100 ≤ d) (h : Rel c e I L) : zStp zI d 110 220 [.int x] I L c e := by
  obtain ⟨n, m, v, pe, D, k, a, ch, s, ld, im, sh, ro, b, bk, tr, lw, kt, ta, P, C, M⟩ := h
  obtain ⟨P1, P2, P3, P4, P5, P6, P7⟩ := id P
  obtain ⟨C1, C2, C3, C4, C5, C6, C7, C8, C9, C10⟩ := id C
  obtain ⟨I1, E1, F1⟩ := c_backFrom (d := d) (c := c) (e := e) (L := L) (x := x) P7 P6 C9 C1 C2 P1
  have G1 : ∀ q j, ¬ (q = 1 ∧ j = 8 ∨ q = 3 ∨ q = 4 ∨ q = 42 ∧ j = 12 ∨ 43 ≤ q ∧ q ≤ 51) → I1 q j = I q j := fun q j hq => F1 q j (by omega) (by omega) (by omega) (by omega) (by omega)
  have C' := relC_q (I' := I1) (L' := L) P7 C (fun q j hq => G1 q j (by omega)) (fun _ _ _ => rfl)
  have M := relM_f (I' := I1) (L' := L) M (fun q j hq => G1 q j (by omega)) (fun _ _ _ => rfl)
  obtain ⟨M1, M2, M3, M4, M5, M6, M7, M8, M9, M10⟩ := id M
  obtain ⟨I2, E2, F2⟩ := m_backFrom (d := d) (c := c) (e := e) (L := L) (x := x) P6 M9 M1 M2 P1
  have G2 : ∀ q j, ¬ (q = 77 ∨ 88 ≤ q ∧ q ≤ 90) → I2 q j = I1 q j := fun q j hq => F2 q j (by omega) (by omega)
  exact ⟨_, I1, L, I2, L, c, e, ⟨_, rfl⟩, E1, E2, ⟨n, m, v, pe, D, k, a, ch, s, ld, im, sh, ro, b, bk, tr, lw, kt, ta, P, relC_f P7 C' (fun q j hq => G2 q j (by omega)) (fun _ _ _ => rfl), relM_q M (fun q j hq => G2 q j (by omega)) (fun _ _ _ => rfl)⟩, fun q j hq => G1 q j (by omega), fun q j hq => (G2 q j (by omega)).trans (G1 q j (by omega))⟩
theorem zq_needed {x : Int32} (hd : 100 ≤ d) (h : Rel c e I L) : zStp zI d 111 221 [.int x] I L c e := by
  obtain ⟨n, m, v, pe, D, k, a, ch, s, ld, im, sh, ro, b, bk, tr, lw, kt, ta, P, C, M⟩ := h
  obtain ⟨P1, P2, P3, P4, P5, P6, P7⟩ := id P
  obtain ⟨C1, C2, C3, C4, C5, C6, C7, C8, C9, C10⟩ := id C
  obtain ⟨I1, E1, F1⟩ := c_needed (d := d) (c := c) (e := e) (L := L) (x := x) P7 P6 C9 C1 C2 P1
  have G1 : ∀ q j, ¬ (q = 1 ∧ j = 8 ∨ q = 3 ∨ q = 4 ∨ q = 42 ∧ j = 12 ∨ 43 ≤ q ∧ q ≤ 51) → I1 q j = I q j := fun q j hq => F1 q j (by omega) (by omega) (by omega) (by omega) (by omega)
  have C' := relC_q (I' := I1) (L' := L) P7 C (fun q j hq => G1 q j (by omega)) (fun _ _ _ => rfl)
  have M := relM_f (I' := I1) (L' := L) M (fun q j hq => G1 q j (by omega)) (fun _ _ _ => rfl)
  obtain ⟨M1, M2, M3, M4, M5, M6, M7, M8, M9, M10⟩ := id M
  obtain ⟨I2, E2, F2⟩ := m_needed (d := d) (c := c) (e := e) (L := L) (x := x) P6 M9 M1 M2 P1
  have G2 : ∀ q j, ¬ (q = 77 ∨ 88 ≤ q ∧ q ≤ 90) → I2 q j = I1 q j := fun q j hq => F2 q j (by omega) (by omega)
  exact ⟨_, I1, L, I2, L, c, e, ⟨_, rfl⟩, E1, E2, ⟨n, m, v, pe, D, k, a, ch, s, ld, im, sh, ro, b, bk, tr, lw, kt, ta, P, relC_f P7 C' (fun q j hq => G2 q j (by omega)) (fun _ _ _ => rfl), relM_q M (fun q j hq => G2 q j (by omega)) (fun _ _ _ => rfl)⟩, fun q j hq => G1 q j (by omega), fun q j hq => (G2 q j (by omega)).trans (G1 q j (by omega))⟩
theorem zq_oneWay {x : Int32} (hd : 100 ≤ d) (h : Rel c e I L) : zStp zI d 112 222 [.int x] I L c e := by
  obtain ⟨n, m, v, pe, D, k, a, ch, s, ld, im, sh, ro, b, bk, tr, lw, kt, ta, P, C, M⟩ := h
  obtain ⟨P1, P2, P3, P4, P5, P6, P7⟩ := id P
  obtain ⟨C1, C2, C3, C4, C5, C6, C7, C8, C9, C10⟩ := id C
  obtain ⟨I1, E1, F1⟩ := c_oneWay (d := d) (c := c) (e := e) (L := L) (x := x) P7 P6 C9 C1 C2 P1
  have G1 : ∀ q j, ¬ (q = 1 ∧ j = 8 ∨ q = 3 ∨ q = 4 ∨ q = 42 ∧ j = 12 ∨ 43 ≤ q ∧ q ≤ 51) → I1 q j = I q j := fun q j hq => F1 q j (by omega) (by omega) (by omega) (by omega) (by omega)
  have C' := relC_q (I' := I1) (L' := L) P7 C (fun q j hq => G1 q j (by omega)) (fun _ _ _ => rfl)
  have M := relM_f (I' := I1) (L' := L) M (fun q j hq => G1 q j (by omega)) (fun _ _ _ => rfl)
  obtain ⟨M1, M2, M3, M4, M5, M6, M7, M8, M9, M10⟩ := id M
  obtain ⟨I2, E2, F2⟩ := m_oneWay (d := d) (c := c) (e := e) (L := L) (x := x) P6 M9 M1 M2 P1
  have G2 : ∀ q j, ¬ (q = 77 ∨ 88 ≤ q ∧ q ≤ 90) → I2 q j = I1 q j := fun q j hq => F2 q j (by omega) (by omega)
  exact ⟨_, I1, L, I2, L, c, e, ⟨_, rfl⟩, E1, E2, ⟨n, m, v, pe, D, k, a, ch, s, ld, im, sh, ro, b, bk, tr, lw, kt, ta, P, relC_f P7 C' (fun q j hq => G2 q j (by omega)) (fun _ _ _ => rfl), relM_q M (fun q j hq => G2 q j (by omega)) (fun _ _ _ => rfl)⟩, fun q j hq => G1 q j (by omega), fun q j hq => (G2 q j (by omega)).trans (G1 q j (by omega))⟩
theorem zq_learn {x : Int32} {y : Int32} (hd : 100 ≤ d) (h : Rel c e I L) : zStp zI d 113 225 [.int x, .int y] I L c e := by
  obtain ⟨n, m, v, pe, D, k, a, ch, s, ld, im, sh, ro, b, bk, tr, lw, kt, ta, P, C, M⟩ := h
  obtain ⟨P1, P2, P3, P4, P5, P6, P7⟩ := id P
  obtain ⟨C1, C2, C3, C4, C5, C6, C7, C8, C9, C10⟩ := id C
  obtain ⟨I1, E1, F1⟩ := c_learn (d := d) (c := c) (e := e) (L := L) (x := x) (y := y) C1 C2 P1 C6 P5
  have G1 : ∀ q j, ¬ (q = 53) → I1 q j = I q j := fun q j hq => F1 q j (by omega)
  have C' := relC_q (I' := I1) (L' := L) P7 C (fun q j hq => G1 q j (by omega)) (fun _ _ _ => rfl)
  have M := relM_f (I' := I1) (L' := L) M (fun q j hq => G1 q j (by omega)) (fun _ _ _ => rfl)
  obtain ⟨M1, M2, M3, M4, M5, M6, M7, M8, M9, M10⟩ := id M
  exact ⟨_, I1, L, I1, L, c, e, ⟨_, rfl⟩, E1, m_learn M1 M2 P1 M6 P5, ⟨n, m, v, pe, D, k, a, ch, s, ld, im, sh, ro, b, bk, tr, lw, kt, ta, P, C', M⟩, fun q j hq => G1 q j (by omega), fun q j hq => G1 q j (by omega)⟩
theorem zq_show {x : Int32} {y : Int32} {z : Int32} (hd : 100 ≤ d) (h : Rel c e I L) : zStp zI d 114 226 [.int x, .int y, .int z] I L c e := by
  obtain ⟨n, m, v, pe, D, k, a, ch, s, ld, im, sh, ro, b, bk, tr, lw, kt, ta, P, C, M⟩ := h
  obtain ⟨P1, P2, P3, P4, P5, P6, P7⟩ := id P
  obtain ⟨C1, C2, C3, C4, C5, C6, C7, C8, C9, C10⟩ := id C
  obtain ⟨I1, E1, F1⟩ := c_show (d := d) (c := c) (e := e) (L := L) (x := x) (y := y) (z := z) P7 P6 C9 C1 C2 P1
  have G1 : ∀ q j, ¬ (q = 1 ∧ j = 8 ∨ q = 3 ∨ q = 4 ∨ q = 42 ∧ j = 12 ∨ 43 ≤ q ∧ q ≤ 51) → I1 q j = I q j := fun q j hq => F1 q j (by omega) (by omega) (by omega) (by omega) (by omega)
  have C' := relC_q (I' := I1) (L' := L) P7 C (fun q j hq => G1 q j (by omega)) (fun _ _ _ => rfl)
  have M := relM_f (I' := I1) (L' := L) M (fun q j hq => G1 q j (by omega)) (fun _ _ _ => rfl)
  obtain ⟨M1, M2, M3, M4, M5, M6, M7, M8, M9, M10⟩ := id M
  obtain ⟨I2, E2, F2⟩ := m_show (d := d) (c := c) (e := e) (L := L) (x := x) (y := y) (z := z) P6 M9 M1 M2 P1
  have G2 : ∀ q j, ¬ (q = 77 ∨ 88 ≤ q ∧ q ≤ 90) → I2 q j = I1 q j := fun q j hq => F2 q j (by omega) (by omega)
  exact ⟨_, I1, L, I2, L, c, e, ⟨_, rfl⟩, E1, E2, ⟨n, m, v, pe, D, k, a, ch, s, ld, im, sh, ro, b, bk, tr, lw, kt, ta, P, relC_f P7 C' (fun q j hq => G2 q j (by omega)) (fun _ _ _ => rfl), relM_q M (fun q j hq => G2 q j (by omega)) (fun _ _ _ => rfl)⟩, fun q j hq => G1 q j (by omega), fun q j hq => (G2 q j (by omega)).trans (G1 q j (by omega))⟩
theorem zq_opens {x : Int32} {y : Int32} {z : Int32} (hd : 100 ≤ d) (h : Rel c e I L) : zStp zI d 115 229 [.int x, .int y, .int z] I L c e := by
  obtain ⟨n, m, v, pe, D, k, a, ch, s, ld, im, sh, ro, b, bk, tr, lw, kt, ta, P, C, M⟩ := h
  obtain ⟨P1, P2, P3, P4, P5, P6, P7⟩ := id P
  obtain ⟨C1, C2, C3, C4, C5, C6, C7, C8, C9, C10⟩ := id C
  obtain ⟨I1, E1, F1⟩ := c_opens (d := d) (c := c) (e := e) (L := L) (x := x) (y := y) (z := z) P7 P6 C9 C1 C2 P1 C6 P5
  have G1 : ∀ q j, ¬ (q = 1 ∧ j = 8 ∨ q = 3 ∨ q = 4 ∨ q = 42 ∧ j = 12 ∨ 43 ≤ q ∧ q ≤ 56) → I1 q j = I q j := fun q j hq => F1 q j (by omega) (by omega) (by omega) (by omega) (by omega)
  have C' := relC_q (I' := I1) (L' := L) P7 C (fun q j hq => G1 q j (by omega)) (fun _ _ _ => rfl)
  have M := relM_f (I' := I1) (L' := L) M (fun q j hq => G1 q j (by omega)) (fun _ _ _ => rfl)
  obtain ⟨M1, M2, M3, M4, M5, M6, M7, M8, M9, M10⟩ := id M
  obtain ⟨I2, E2, F2⟩ := m_opens (d := d) (c := c) (e := e) (L := L) (x := x) (y := y) (z := z) P6 M9 M1 M2 P1 M6 P5
  have G2 : ∀ q j, ¬ (q = 58 ∧ j = 49 ∨ q = 77 ∨ 88 ≤ q ∧ q ≤ 92) → I2 q j = I1 q j := fun q j hq => F2 q j (by omega) (by omega) (by omega)
  exact ⟨_, I1, L, I2, L, c, e, ⟨_, rfl⟩, E1, E2, ⟨n, m, v, pe, D, k, a, ch, s, ld, im, sh, ro, b, bk, tr, lw, kt, ta, P, relC_f P7 C' (fun q j hq => G2 q j (by omega)) (fun _ _ _ => rfl), relM_q M (fun q j hq => G2 q j (by omega)) (fun _ _ _ => rfl)⟩, fun q j hq => G1 q j (by omega), fun q j hq => (G2 q j (by omega)).trans (G1 q j (by omega))⟩
theorem zq_best {x : Int32} {y : Int32} {z : Int32} (hd : 100 ≤ d) (h : Rel c e I L) : zStp zI d 116 230 [.int x, .int y, .int z] I L c e := by
  obtain ⟨n, m, v, pe, D, k, a, ch, s, ld, im, sh, ro, b, bk, tr, lw, kt, ta, P, C, M⟩ := h
  obtain ⟨P1, P2, P3, P4, P5, P6, P7⟩ := id P
  obtain ⟨C1, C2, C3, C4, C5, C6, C7, C8, C9, C10⟩ := id C
  obtain ⟨I1, E1, F1⟩ := c_best (d := d) (c := c) (e := e) (L := L) (x := x) (y := y) (z := z) P7 P6 C9 C1 C2 P1 C6 P5
  have G1 : ∀ q j, ¬ (q = 1 ∧ j = 8 ∨ q = 3 ∨ q = 4 ∨ q = 42 ∧ j = 12 ∨ 43 ≤ q ∧ q ≤ 56) → I1 q j = I q j := fun q j hq => F1 q j (by omega) (by omega) (by omega) (by omega) (by omega)
  have C' := relC_q (I' := I1) (L' := L) P7 C (fun q j hq => G1 q j (by omega)) (fun _ _ _ => rfl)
  have M := relM_f (I' := I1) (L' := L) M (fun q j hq => G1 q j (by omega)) (fun _ _ _ => rfl)
  obtain ⟨M1, M2, M3, M4, M5, M6, M7, M8, M9, M10⟩ := id M
  obtain ⟨I2, E2, F2⟩ := m_best (d := d) (c := c) (e := e) (L := L) (x := x) (y := y) (z := z) P6 M9 M1 M2 P1 M6 P5
  have G2 : ∀ q j, ¬ (q = 58 ∧ j = 49 ∨ q = 77 ∨ 88 ≤ q ∧ q ≤ 92) → I2 q j = I1 q j := fun q j hq => F2 q j (by omega) (by omega) (by omega)
  exact ⟨_, I1, L, I2, L, c, e, ⟨_, rfl⟩, E1, E2, ⟨n, m, v, pe, D, k, a, ch, s, ld, im, sh, ro, b, bk, tr, lw, kt, ta, P, relC_f P7 C' (fun q j hq => G2 q j (by omega)) (fun _ _ _ => rfl), relM_q M (fun q j hq => G2 q j (by omega)) (fun _ _ _ => rfl)⟩, fun q j hq => G1 q j (by omega), fun q j hq => (G2 q j (by omega)).trans (G1 q j (by omega))⟩
theorem zq_tide {x : Int32} {y : Int32} {z : Int32} (hd : 100 ≤ d) (h : Rel c e I L) : zStp zI d 117 231 [.int x, .int y, .int z] I L c e := by
  obtain ⟨n, m, v, pe, D, k, a, ch, s, ld, im, sh, ro, b, bk, tr, lw, kt, ta, P, C, M⟩ := h
  obtain ⟨P1, P2, P3, P4, P5, P6, P7⟩ := id P
  obtain ⟨C1, C2, C3, C4, C5, C6, C7, C8, C9, C10⟩ := id C
  obtain ⟨I1, E1, F1⟩ := c_tide (d := d) (c := c) (e := e) (L := L) (x := x) (y := y) (z := z) P7 P6 C9 C1 C2 P1 C6 P5
  have G1 : ∀ q j, ¬ (q = 1 ∧ j = 8 ∨ q = 3 ∨ q = 4 ∨ q = 42 ∧ j = 12 ∨ 43 ≤ q ∧ q ≤ 56) → I1 q j = I q j := fun q j hq => F1 q j (by omega) (by omega) (by omega) (by omega) (by omega)
  have C' := relC_q (I' := I1) (L' := L) P7 C (fun q j hq => G1 q j (by omega)) (fun _ _ _ => rfl)
  have M := relM_f (I' := I1) (L' := L) M (fun q j hq => G1 q j (by omega)) (fun _ _ _ => rfl)
  obtain ⟨M1, M2, M3, M4, M5, M6, M7, M8, M9, M10⟩ := id M
  obtain ⟨I2, E2, F2⟩ := m_tide (d := d) (c := c) (e := e) (L := L) (x := x) (y := y) (z := z) P6 M9 M1 M2 P1 M6 P5
  have G2 : ∀ q j, ¬ (q = 58 ∧ j = 49 ∨ q = 77 ∨ 88 ≤ q ∧ q ≤ 92) → I2 q j = I1 q j := fun q j hq => F2 q j (by omega) (by omega) (by omega)
  exact ⟨_, I1, L, I2, L, c, e, ⟨_, rfl⟩, E1, E2, ⟨n, m, v, pe, D, k, a, ch, s, ld, im, sh, ro, b, bk, tr, lw, kt, ta, P, relC_f P7 C' (fun q j hq => G2 q j (by omega)) (fun _ _ _ => rfl), relM_q M (fun q j hq => G2 q j (by omega)) (fun _ _ _ => rfl)⟩, fun q j hq => G1 q j (by omega), fun q j hq => (G2 q j (by omega)).trans (G1 q j (by omega))⟩
theorem zq_two {x : Int32} {y : Int32} (hd : 100 ≤ d) (h : Rel c e I L) : zStp zI d 118 232 [.int x, .int y] I L c e := by
  obtain ⟨n, m, v, pe, D, k, a, ch, s, ld, im, sh, ro, b, bk, tr, lw, kt, ta, P, C, M⟩ := h
  obtain ⟨P1, P2, P3, P4, P5, P6, P7⟩ := id P
  obtain ⟨C1, C2, C3, C4, C5, C6, C7, C8, C9, C10⟩ := id C
  obtain ⟨I1, E1, F1⟩ := c_two (d := d) (c := c) (e := e) (L := L) (x := x) (y := y) P7 P6 C9 C1 C2 P1 C6 P5
  have G1 : ∀ q j, ¬ (q = 1 ∧ j = 8 ∨ q = 3 ∨ q = 4 ∨ q = 42 ∧ j = 12 ∨ 43 ≤ q ∧ q ≤ 56) → I1 q j = I q j := fun q j hq => F1 q j (by omega) (by omega) (by omega) (by omega) (by omega)
  have C' := relC_q (I' := I1) (L' := L) P7 C (fun q j hq => G1 q j (by omega)) (fun _ _ _ => rfl)
  have M := relM_f (I' := I1) (L' := L) M (fun q j hq => G1 q j (by omega)) (fun _ _ _ => rfl)
  obtain ⟨M1, M2, M3, M4, M5, M6, M7, M8, M9, M10⟩ := id M
  obtain ⟨I2, E2, F2⟩ := m_two (d := d) (c := c) (e := e) (L := L) (x := x) (y := y) P6 M9 M1 M2 P1 M6 P5
  have G2 : ∀ q j, ¬ (q = 58 ∧ j = 49 ∨ q = 77 ∨ 88 ≤ q ∧ q ≤ 92) → I2 q j = I1 q j := fun q j hq => F2 q j (by omega) (by omega) (by omega)
  exact ⟨_, I1, L, I2, L, c, e, ⟨_, rfl⟩, E1, E2, ⟨n, m, v, pe, D, k, a, ch, s, ld, im, sh, ro, b, bk, tr, lw, kt, ta, P, relC_f P7 C' (fun q j hq => G2 q j (by omega)) (fun _ _ _ => rfl), relM_q M (fun q j hq => G2 q j (by omega)) (fun _ _ _ => rfl)⟩, fun q j hq => G1 q j (by omega), fun q j hq => (G2 q j (by omega)).trans (G1 q j (by omega))⟩
theorem zq_judge {x : Int32} {y : Int32} (hd : 100 ≤ d) (h : Rel c e I L) : zStp zI d 119 234 [.int x, .int y] I L c e := by
  obtain ⟨n, m, v, pe, D, k, a, ch, s, ld, im, sh, ro, b, bk, tr, lw, kt, ta, P, C, M⟩ := h
  obtain ⟨P1, P2, P3, P4, P5, P6, P7⟩ := id P
  obtain ⟨C1, C2, C3, C4, C5, C6, C7, C8, C9, C10⟩ := id C
  obtain ⟨I1, E1, F1⟩ := c_judge (d := d) (c := c) (e := e) (L := L) (x := x) (y := y) C1 C6 P5
  have G1 : ∀ q j, ¬ (q = 57 ∧ j = 2) → I1 q j = I q j := fun q j hq => F1 q j (by omega)
  have C' := relC_q (I' := I1) (L' := L) P7 C (fun q j hq => G1 q j (by omega)) (fun _ _ _ => rfl)
  have M := relM_f (I' := I1) (L' := L) M (fun q j hq => G1 q j (by omega)) (fun _ _ _ => rfl)
  obtain ⟨M1, M2, M3, M4, M5, M6, M7, M8, M9, M10⟩ := id M
  obtain ⟨I2, E2, F2⟩ := m_judge (d := d) (c := c) (e := e) (L := L) (x := x) (y := y) M1 M6 P5
  have G2 : ∀ q j, ¬ (q = 58 ∧ j = 52) → I2 q j = I1 q j := fun q j hq => F2 q j (by omega)
  exact ⟨_, I1, L, I2, L, c, e, ⟨_, rfl⟩, E1, E2, ⟨n, m, v, pe, D, k, a, ch, s, ld, im, sh, ro, b, bk, tr, lw, kt, ta, P, relC_f P7 C' (fun q j hq => G2 q j (by omega)) (fun _ _ _ => rfl), relM_q M (fun q j hq => G2 q j (by omega)) (fun _ _ _ => rfl)⟩, fun q j hq => G1 q j (by omega), fun q j hq => (G2 q j (by omega)).trans (G1 q j (by omega))⟩
theorem zq_ends {x : Int32} {y : Int32} (hd : 100 ≤ d) (h : Rel c e I L) : zStp zI d 120 235 [.int x, .int y] I L c e := by
  obtain ⟨n, m, v, pe, D, k, a, ch, s, ld, im, sh, ro, b, bk, tr, lw, kt, ta, P, C, M⟩ := h
  obtain ⟨P1, P2, P3, P4, P5, P6, P7⟩ := id P
  obtain ⟨C1, C2, C3, C4, C5, C6, C7, C8, C9, C10⟩ := id C
  obtain ⟨I1, E1, F1⟩ := c_ends (d := d) (c := c) (e := e) (L := L) (x := x) (y := y) C1 C6 P5
  have G1 : ∀ q j, ¬ (q = 57 ∧ j = 2) → I1 q j = I q j := fun q j hq => F1 q j (by omega)
  have C' := relC_q (I' := I1) (L' := L) P7 C (fun q j hq => G1 q j (by omega)) (fun _ _ _ => rfl)
  have M := relM_f (I' := I1) (L' := L) M (fun q j hq => G1 q j (by omega)) (fun _ _ _ => rfl)
  obtain ⟨M1, M2, M3, M4, M5, M6, M7, M8, M9, M10⟩ := id M
  obtain ⟨I2, E2, F2⟩ := m_ends (d := d) (c := c) (e := e) (L := L) (x := x) (y := y) M1 M6 P5
  have G2 : ∀ q j, ¬ (q = 58 ∧ j = 52) → I2 q j = I1 q j := fun q j hq => F2 q j (by omega)
  exact ⟨_, I1, L, I2, L, c, e, ⟨_, rfl⟩, E1, E2, ⟨n, m, v, pe, D, k, a, ch, s, ld, im, sh, ro, b, bk, tr, lw, kt, ta, P, relC_f P7 C' (fun q j hq => G2 q j (by omega)) (fun _ _ _ => rfl), relM_q M (fun q j hq => G2 q j (by omega)) (fun _ _ _ => rfl)⟩, fun q j hq => G1 q j (by omega), fun q j hq => (G2 q j (by omega)).trans (G1 q j (by omega))⟩
theorem zq_who {x : Int32} {y : Int32} (hd : 100 ≤ d) (h : Rel c e I L) : zStp zI d 121 236 [.int x, .int y] I L c e := by
  obtain ⟨n, m, v, pe, D, k, a, ch, s, ld, im, sh, ro, b, bk, tr, lw, kt, ta, P, C, M⟩ := h
  obtain ⟨P1, P2, P3, P4, P5, P6, P7⟩ := id P
  obtain ⟨C1, C2, C3, C4, C5, C6, C7, C8, C9, C10⟩ := id C
  obtain ⟨I1, E1, F1⟩ := c_who (d := d) (c := c) (e := e) (L := L) (x := x) (y := y) P7 P6 C9 C1 C2 P1 C6 P5
  have G1 : ∀ q j, ¬ (q = 1 ∧ j = 8 ∨ q = 3 ∨ q = 4) → I1 q j = I q j := fun q j hq => F1 q j (by omega) (by omega) (by omega)
  have C' := relC_q (I' := I1) (L' := L) P7 C (fun q j hq => G1 q j (by omega)) (fun _ _ _ => rfl)
  have M := relM_f (I' := I1) (L' := L) M (fun q j hq => G1 q j (by omega)) (fun _ _ _ => rfl)
  obtain ⟨M1, M2, M3, M4, M5, M6, M7, M8, M9, M10⟩ := id M
  obtain ⟨I2, E2, F2⟩ := m_who (d := d) (c := c) (e := e) (L := L) (x := x) (y := y) P6 M9 M1 M2 P1 M6 P5
  have G2 : ∀ q j, ¬ (q = 77 ∨ q = 58 ∧ j = 52) → I2 q j = I1 q j := fun q j hq => F2 q j (by omega) (by omega)
  exact ⟨_, I1, L, I2, L, c, e, ⟨_, rfl⟩, E1, E2, ⟨n, m, v, pe, D, k, a, ch, s, ld, im, sh, ro, b, bk, tr, lw, kt, ta, P, relC_f P7 C' (fun q j hq => G2 q j (by omega)) (fun _ _ _ => rfl), relM_q M (fun q j hq => G2 q j (by omega)) (fun _ _ _ => rfl)⟩, fun q j hq => G1 q j (by omega), fun q j hq => (G2 q j (by omega)).trans (G1 q j (by omega))⟩
theorem zq_begun {x : Int32} {y : Int32} {z : Int32} (hd : 100 ≤ d) (h : Rel c e I L) : zStp zI d 122 237 [.int x, .int y, .int z] I L c e := by
  obtain ⟨n, m, v, pe, D, k, a, ch, s, ld, im, sh, ro, b, bk, tr, lw, kt, ta, P, C, M⟩ := h
  obtain ⟨P1, P2, P3, P4, P5, P6, P7⟩ := id P
  obtain ⟨C1, C2, C3, C4, C5, C6, C7, C8, C9, C10⟩ := id C
  obtain ⟨I1, E1, F1⟩ := c_begun (d := d) (c := c) (e := e) (L := L) (x := x) (y := y) (z := z) C1 C6 P5
  have G1 : ∀ q j, ¬ (q = 57 ∧ j = 2) → I1 q j = I q j := fun q j hq => F1 q j (by omega)
  have C' := relC_q (I' := I1) (L' := L) P7 C (fun q j hq => G1 q j (by omega)) (fun _ _ _ => rfl)
  have M := relM_f (I' := I1) (L' := L) M (fun q j hq => G1 q j (by omega)) (fun _ _ _ => rfl)
  obtain ⟨M1, M2, M3, M4, M5, M6, M7, M8, M9, M10⟩ := id M
  obtain ⟨I2, E2, F2⟩ := m_begun (d := d) (c := c) (e := e) (L := L) (x := x) (y := y) (z := z) M1 M6 P5
  have G2 : ∀ q j, ¬ (q = 58 ∧ j = 52) → I2 q j = I1 q j := fun q j hq => F2 q j (by omega)
  exact ⟨_, I1, L, I2, L, c, e, ⟨_, rfl⟩, E1, E2, ⟨n, m, v, pe, D, k, a, ch, s, ld, im, sh, ro, b, bk, tr, lw, kt, ta, P, relC_f P7 C' (fun q j hq => G2 q j (by omega)) (fun _ _ _ => rfl), relM_q M (fun q j hq => G2 q j (by omega)) (fun _ _ _ => rfl)⟩, fun q j hq => G1 q j (by omega), fun q j hq => (G2 q j (by omega)).trans (G1 q j (by omega))⟩
theorem zq_drawn {x : Int32} {y : Int32} {z : Int32} {u : Int32} (hd : 100 ≤ d) (h : Rel c e I L) : zStp zI d 123 238 [.int x, .int y, .int z, .int u] I L c e := by
  obtain ⟨n, m, v, pe, D, k, a, ch, s, ld, im, sh, ro, b, bk, tr, lw, kt, ta, P, C, M⟩ := h
  obtain ⟨P1, P2, P3, P4, P5, P6, P7⟩ := id P
  obtain ⟨C1, C2, C3, C4, C5, C6, C7, C8, C9, C10⟩ := id C
  obtain ⟨I1, E1, F1⟩ := c_drawn (d := d) (c := c) (e := e) (L := L) (x := x) (y := y) (z := z) (u := u) C1
  have G1 : ∀ q j, ¬ (q = 57) → I1 q j = I q j := fun q j hq => F1 q j (by omega)
  have C' := relC_q (I' := I1) (L' := L) P7 C (fun q j hq => G1 q j (by omega)) (fun _ _ _ => rfl)
  have M := relM_f (I' := I1) (L' := L) M (fun q j hq => G1 q j (by omega)) (fun _ _ _ => rfl)
  obtain ⟨M1, M2, M3, M4, M5, M6, M7, M8, M9, M10⟩ := id M
  exact ⟨_, I1, L, I1, L, c, e, ⟨_, rfl⟩, E1, m_drawn M1, ⟨n, m, v, pe, D, k, a, ch, s, ld, im, sh, ro, b, bk, tr, lw, kt, ta, P, C', M⟩, fun q j hq => G1 q j (by omega), fun q j hq => G1 q j (by omega)⟩
theorem zq_led {x : Int32} (hd : 100 ≤ d) (h : Rel c e I L) : zStp zI d 126 242 [.int x] I L c e := by
  obtain ⟨n, m, v, pe, D, k, a, ch, s, ld, im, sh, ro, b, bk, tr, lw, kt, ta, P, C, M⟩ := h
  obtain ⟨P1, P2, P3, P4, P5, P6, P7⟩ := id P
  obtain ⟨C1, C2, C3, C4, C5, C6, C7, C8, C9, C10⟩ := id C
  obtain ⟨M1, M2, M3, M4, M5, M6, M7, M8, M9, M10⟩ := id M
  exact ⟨_, I, L, I, L, c, e, ⟨_, rfl⟩, c_led C4, m_led M4, ⟨n, m, v, pe, D, k, a, ch, s, ld, im, sh, ro, b, bk, tr, lw, kt, ta, P, C, M⟩, fun _ _ _ => rfl, fun _ _ _ => rfl⟩
theorem zq_trace {x : Int32} (hd : 100 ≤ d) (h : Rel c e I L) : zStp zI d 133 253 [.int x] I L c e := by
  obtain ⟨n, m, v, pe, D, k, a, ch, s, ld, im, sh, ro, b, bk, tr, lw, kt, ta, P, C, M⟩ := h
  obtain ⟨P1, P2, P3, P4, P5, P6, P7⟩ := id P
  obtain ⟨C1, C2, C3, C4, C5, C6, C7, C8, C9, C10⟩ := id C
  obtain ⟨M1, M2, M3, M4, M5, M6, M7, M8, M9, M10⟩ := id M
  exact ⟨_, I, L, I, L, c, e, ⟨_, rfl⟩, c_trace C8, m_trace M8, ⟨n, m, v, pe, D, k, a, ch, s, ld, im, sh, ro, b, bk, tr, lw, kt, ta, P, C, M⟩, fun _ _ _ => rfl, fun _ _ _ => rfl⟩
theorem zq_elem {x : Int32} {y : Int32} (hd : 100 ≤ d) (h : Rel c e I L) : zStp zL d 137 259 [.int x, .int y] I L c e := by
  obtain ⟨n, m, v, pe, D, k, a, ch, s, ld, im, sh, ro, b, bk, tr, lw, kt, ta, P, C, M⟩ := h
  obtain ⟨P1, P2, P3, P4, P5, P6, P7⟩ := id P
  obtain ⟨C1, C2, C3, C4, C5, C6, C7, C8, C9, C10⟩ := id C
  obtain ⟨M1, M2, M3, M4, M5, M6, M7, M8, M9, M10⟩ := id M
  exact ⟨_, I, L, I, L, c, e, ⟨_, rfl⟩, c_elem C6 P5, m_elem M6 P5, ⟨n, m, v, pe, D, k, a, ch, s, ld, im, sh, ro, b, bk, tr, lw, kt, ta, P, C, M⟩, fun _ _ _ => rfl, fun _ _ _ => rfl⟩
theorem zq_taken {x : Int32} {y : Int32} (hd : 100 ≤ d) (h : Rel c e I L) : zStp zI d 139 261 [.int x, .int y] I L c e := by
  obtain ⟨n, m, v, pe, D, k, a, ch, s, ld, im, sh, ro, b, bk, tr, lw, kt, ta, P, C, M⟩ := h
  obtain ⟨P1, P2, P3, P4, P5, P6, P7⟩ := id P
  obtain ⟨C1, C2, C3, C4, C5, C6, C7, C8, C9, C10⟩ := id C
  obtain ⟨M1, M2, M3, M4, M5, M6, M7, M8, M9, M10⟩ := id M
  exact ⟨_, I, L, I, L, c, e, ⟨_, rfl⟩, c_taken C6 P5 C7, m_taken M6 P5 M7, ⟨n, m, v, pe, D, k, a, ch, s, ld, im, sh, ro, b, bk, tr, lw, kt, ta, P, C, M⟩, fun _ _ _ => rfl, fun _ _ _ => rfl⟩
theorem zq_count {x : Int32} (hd : 100 ≤ d) (h : Rel c e I L) : zStp zI d 140 262 [.int x] I L c e := by
  obtain ⟨n, m, v, pe, D, k, a, ch, s, ld, im, sh, ro, b, bk, tr, lw, kt, ta, P, C, M⟩ := h
  obtain ⟨C1, C2, C3, C4, C5, C6, C7, C8, C9, C10⟩ := id C
  obtain ⟨M1, M2, M3, M4, M5, M6, M7, M8, M9, M10⟩ := id M
  have E1 := c_count (d := d) (x := x) (I := I) (L := L) (c := c) (e := e)
  have E2 := m_count (d := d) (x := x) (I := I) (L := L) (c := c) (e := e)
  rw [C1.1.2.1, C2.1, C10.2.1, C3.1, C7.1, C8.1] at E1
  rw [M1.2.1, M2.1, M10.2.1, M3.1, M7.1, M8.1] at E2
  exact ⟨_, I, L, I, L, c, e, ⟨_, rfl⟩, E1, E2, ⟨n, m, v, pe, D, k, a, ch, s, ld, im, sh, ro, b, bk, tr, lw, kt, ta, P, C, M⟩, fun _ _ _ => rfl, fun _ _ _ => rfl⟩
end SQ
