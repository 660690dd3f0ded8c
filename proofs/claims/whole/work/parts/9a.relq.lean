/-! one call on both sides: the frames of the parts -/
section RQ
variable {n m : Nat} {v : Nat → aMv} {pe : Nat → aPe} {D : Nat → Int32} {k a : Nat} {ch : Nat → aCh} {s : Nat} {ld : Nat → Int32} {im : Option aIm} {sh : Nat → aSh} {ro : Nat → Nat → Int64} {b : Nat} {bk : Nat → Nat} {tr : List Nat} {lw : List aLn} {kt : Nat} {ta : Nat → Int32} {c e : Nat} {I I' : Nat → Nat → Int32} {L L' : Nat → Nat → Int64}
theorem kitC_F (h : kitC n v I) (f : ∀ q j, 7 ≤ q ∧ q ≤ 13 → I' q j = I q j) : kitC n v I' := kitC_fr h (fun q j a1 a2 => f q j ⟨a1, a2⟩)
theorem peC_F (h : peC m pe D I) (f : ∀ q j, 14 ≤ q ∧ q ≤ 18 → I' q j = I q j) : peC m pe D I' := peC_fr h (fun q j a1 a2 => f q j ⟨a1, a2⟩)
theorem chC_F (h : chC k a ch I) (f : ∀ q j, 32 ≤ q ∧ q ≤ 36 → I' q j = I q j) : chC k a ch I' := chC_fr h (fun q j a1 a2 => f q j ⟨a1, a2⟩)
theorem deC_F (h : deC s ld I) (f : ∀ q j, q = 37 ∧ j = 1 ∨ q = 38 → I' q j = I q j) : deC s ld I' := ⟨(f 37 1 (by omega)).trans h.1, fun j hj => (f 38 j (by omega)).trans (h.2 j hj)⟩
theorem imC_F (h : imC im I) (f : ∀ q j, q = 37 ∧ (j = 5 ∨ j = 6) ∨ 39 ≤ q ∧ q ≤ 41 → I' q j = I q j) : imC im I' := by
  cases im with
  | none => exact (f 37 6 (by omega)).trans h
  | some u =>
    obtain ⟨h1, h2, h4, h5, h6⟩ := h
    exact ⟨(f 37 6 (by omega)).trans h1, (f 37 5 (by omega)).trans h2, fun j hj => (f 39 j (by omega)).trans (h4 j hj), fun j hj => (f 40 j (by omega)).trans (h5 j hj), fun j hj => (f 41 j (by omega)).trans (h6 j hj)⟩
theorem shC_F (h : shC sh ro I L) (f : ∀ q j, 27 ≤ q ∧ q ≤ 28 → I' q j = I q j) (g : ∀ q j, 21 ≤ q ∧ q ≤ 26 → L' q j = L q j) : shC sh ro I' L' := by
  intro i hi
  obtain ⟨h1, h2, h3⟩ := h i hi
  exact ⟨(f 28 i (by omega)).trans h1, fun q => (f 27 i (by omega)).trans (h2 q), fun q j hj => (g (21 + i) j (by omega)).trans (h3 q j hj)⟩
theorem boC_F (h : boC b bk I) (f : ∀ q j, q = 29 ∧ j = 3 ∨ q = 30 → I' q j = I q j) : boC b bk I' := ⟨(f 29 3 (by omega)).trans h.1, fun i hi => ⟨(h.2 i hi).1, (f 30 i (by omega)).trans (h.2 i hi).2⟩⟩
theorem trC_F (h : trC tr I) (f : ∀ q j, q = 29 ∧ j = 4 ∨ q = 31 → I' q j = I q j) : trC tr I' := ⟨(f 29 4 (by omega)).trans h.1, h.2.1, fun i h1 h2 => (f 31 i (by omega)).trans (h.2.2 i h1 h2)⟩
theorem lwC_F (hce : ceOk c e) (h : lwC lw c I) (f : ∀ q j, q = 1 ∧ j = 5 ∨ 5 ≤ q ∧ q ≤ 6 → I' q j = I q j) : lwC lw c I' := lwC_fr h (fun q j hq => f q j (by
  rcases hce with r | r
  · omega
  · omega))
theorem taC_F (h : taC kt ta I) (f : ∀ q j, q = 1 ∧ j = 9 ∨ q = 2 → I' q j = I q j) : taC kt ta I' := ⟨h.1, (f 1 9 (by omega)).trans h.2.1, fun i hi => (f 2 i (by omega)).trans (h.2.2 i hi)⟩
theorem kitM_F (h : kitM n v I) (f : ∀ q j, q = 58 ∧ j = 0 ∨ 59 ≤ q ∧ q ≤ 63 → I' q j = I q j) : kitM n v I' := kitM_fr h (f 58 0 (by omega)) (fun q j a1 a2 => f q j (Or.inr ⟨a1, a2⟩))
theorem peM_F (h : peM m pe D I) (f : ∀ q j, q = 58 ∧ j = 6 ∨ 64 ≤ q ∧ q ≤ 67 → I' q j = I q j) : peM m pe D I' := peM_fr h (f 58 6 (by omega)) (fun q j a1 a2 => f q j (Or.inr ⟨a1, a2⟩))
theorem chM_F (h : chM k a ch I) (f : ∀ q j, q = 58 ∧ (j = 36 ∨ j = 37) ∨ q = 82 → I' q j = I q j) : chM k a ch I' := chM_fr h (f 58 36 (by omega)) (f 58 37 (by omega)) (fun j => f 82 j (by omega))
theorem deM_F (h : deM s ld I) (f : ∀ q j, q = 58 ∧ j = 11 ∨ q = 78 → I' q j = I q j) : deM s ld I' := ⟨(f 58 11 (by omega)).trans h.1, fun j hj => (f 78 j (by omega)).trans (h.2 j hj)⟩
theorem imM_F (h : imM im I) (f : ∀ q j, q = 58 ∧ 30 ≤ j ∧ j ≤ 32 ∨ 79 ≤ q ∧ q ≤ 81 → I' q j = I q j) : imM im I' := by
  cases im with
  | none => exact (f 58 30 (by omega)).trans h
  | some u =>
    obtain ⟨h1, h2, h3, h4, h5, h6⟩ := h
    exact ⟨(f 58 30 (by omega)).trans h1, (f 58 31 (by omega)).trans h2, (f 58 32 (by omega)).trans h3, fun j hj => (f 81 j (by omega)).trans (h4 j hj), fun j hj => (f 79 j (by omega)).trans (h5 j hj), fun j hj => (f 80 j (by omega)).trans (h6 j hj)⟩
theorem shM_F (h : shM sh ro I L) (f : ∀ q j, 85 ≤ q ∧ q ≤ 86 → I' q j = I q j) (g : ∀ q j, q = 87 → L' q j = L q j) : shM sh ro I' L' := by
  intro i hi
  obtain ⟨h1, h2⟩ := h i hi
  exact ⟨(f 85 i (by omega)).trans h1, fun q => ⟨(f 86 i (by omega)).trans (h2 q).1, fun j hj => (g 87 _ rfl).trans ((h2 q).2 j hj)⟩⟩
theorem boM_F (h : boM b bk I) (f : ∀ q j, q = 58 ∧ j = 39 ∨ q = 83 → I' q j = I q j) : boM b bk I' := ⟨(f 58 39 (by omega)).trans h.1, fun i hi => ⟨(h.2 i hi).1, (f 83 i (by omega)).trans (h.2 i hi).2⟩⟩
theorem trM_F (h : trM tr I) (f : ∀ q j, q = 58 ∧ j = 41 ∨ q = 84 → I' q j = I q j) : trM tr I' := ⟨(f 58 41 (by omega)).trans h.1, h.2.1, fun i h1 h2 => (f 84 i (by omega)).trans (h.2.2 i h1 h2)⟩
theorem lwM_F (h : lwM lw I) (f : ∀ q j, q = 58 ∧ 14 ≤ j ∧ j ≤ 15 ∨ 69 ≤ q ∧ q ≤ 72 → I' q j = I q j) : lwM lw I' := lwM_fr h (fun q j hq => f q j (by omega))
theorem taM_F (h : taM kt ta I) (f : ∀ q j, q = 58 ∧ j = 12 ∨ q = 68 → I' q j = I q j) : taM kt ta I' := ⟨h.1, (f 58 12 (by omega)).trans h.2.1, fun i hi => (f 68 i (by omega)).trans (h.2.2 i hi)⟩
/-- scratch places of the class are in no part -/
theorem relC_q (hce : ceOk c e) (h : RelC n m v pe D k a ch s ld im sh ro b bk tr lw kt ta c I L) (f : ∀ q j, ¬ (q = 1 ∧ j ≠ 5 ∧ j ≠ 9 ∨ q = 3 ∨ q = 4 ∨ 42 ≤ q) → I' q j = I q j) (g : ∀ q j, 21 ≤ q ∧ q ≤ 26 → L' q j = L q j) : RelC n m v pe D k a ch s ld im sh ro b bk tr lw kt ta c I' L' := by
  obtain ⟨h1, h2, h3, h4, h5, h6, h7, h8, h9, h10⟩ := h
  exact ⟨kitC_F h1 (fun q j r => f q j (by omega)), peC_F h2 (fun q j r => f q j (by omega)), chC_F h3 (fun q j r => f q j (by omega)), deC_F h4 (fun q j r => f q j (by omega)), imC_F h5 (fun q j r => f q j (by omega)), shC_F h6 (fun q j r => f q j (by omega)) g, boC_F h7 (fun q j r => f q j (by omega)), trC_F h8 (fun q j r => f q j (by omega)), lwC_F hce h9 (fun q j r => f q j (by omega)), taC_F h10 (fun q j r => f q j (by omega))⟩
/-- scratch places of the reference are in no part -/
theorem relM_q (h : RelM n m v pe D k a ch s ld im sh ro b bk tr lw kt ta I L) (f : ∀ q j, ¬ (q = 58 ∧ (j = 49 ∨ j = 52) ∨ q = 77 ∨ 88 ≤ q) → I' q j = I q j) (g : ∀ q j, q = 87 → L' q j = L q j) : RelM n m v pe D k a ch s ld im sh ro b bk tr lw kt ta I' L' := by
  obtain ⟨h1, h2, h3, h4, h5, h6, h7, h8, h9, h10⟩ := h
  exact ⟨kitM_F h1 (fun q j r => f q j (by omega)), peM_F h2 (fun q j r => f q j (by omega)), chM_F h3 (fun q j r => f q j (by omega)), deM_F h4 (fun q j r => f q j (by omega)), imM_F h5 (fun q j r => f q j (by omega)), shM_F h6 (fun q j r => f q j (by omega)) g, boM_F h7 (fun q j r => f q j (by omega)), trM_F h8 (fun q j r => f q j (by omega)), lwM_F h9 (fun q j r => f q j (by omega)), taM_F h10 (fun q j r => f q j (by omega))⟩
theorem kitC_nv (h : kitC n v I) : n ≤ 12 ∧ ∀ i, i < n → mvOk (v i) := ⟨h.1.1, fun i hi => (h.1.2.2 i hi).1⟩
end RQ
/-- some numbers, and both hold them -/
def Rel (c e : Nat) (I : Nat → Nat → Int32) (L : Nat → Nat → Int64) : Prop := ∃ (n m : Nat) (v : Nat → aMv) (pe : Nat → aPe) (D : Nat → Int32) (k a : Nat) (ch : Nat → aCh) (s : Nat) (ld : Nat → Int32) (im : Option aIm) (sh : Nat → aSh) (ro : Nat → Nat → Int64) (b : Nat) (bk : Nat → Nat) (tr : List Nat) (lw : List aLn) (kt : Nat) (ta : Nat → Int32), RelP n m v pe D k a ch s im sh b lw c e ∧ RelC n m v pe D k a ch s ld im sh ro b bk tr lw kt ta c I L ∧ RelM n m v pe D k a ch s ld im sh ro b bk tr lw kt ta I L
theorem rel_0 {I : Nat → Nat → Int32} {L : Nat → Nat → Int64} : Rel 5 6 (in0 I) (inL L) := ⟨_, _, _, _, _, _, _, _, _, _, _, _, _, _, _, _, _, _, _, relP_0, relC_0, relM_0⟩
/-- both answer alike (an answer that is w of a number), and both hold the same again; the script stays -/
def zStp (w : Value → Prop) (d kc km : Nat) (as : List Value) (I : Nat → Nat → Int32) (L : Nat → Nat → Int64) (c e : Nat) : Prop := ∃ (r : Value) (I1 : Nat → Nat → Int32) (L1 : Nat → Nat → Int64) (I2 : Nat → Nat → Int32) (L2 : Nat → Nat → Int64) (c' e' : Nat), w r ∧ jev d kc (.ref 0 :: as) (jmk I L c e) = some (some r, jmk I1 L1 c' e') ∧ jev d km (.ref 58 :: as) (jmk I1 L1 c' e') = some (some r, jmk I2 L2 c' e') ∧ Rel c' e' I2 L2 ∧ (∀ q j, 92 < q → I1 q j = I q j) ∧ ∀ q j, 92 < q → I2 q j = I q j
def zI (v : Value) : Prop := ∃ x, v = .int x
def zL (v : Value) : Prop := ∃ x, v = .long x
