/-! what one does leaves the other's alone -/
section RLF
variable {n m : Nat} {v : Nat → aMv} {pe : Nat → aPe} {D : Nat → Int32} {k a : Nat} {ch : Nat → aCh} {s : Nat} {ld : Nat → Int32} {im : Option aIm} {sh : Nat → aSh} {ro : Nat → Nat → Int64} {b : Nat} {bk : Nat → Nat} {tr : List Nat} {lw : List aLn} {kt : Nat} {ta : Nat → Int32} {c e : Nat} {I I' : Nat → Nat → Int32} {L L' : Nat → Nat → Int64}
theorem deM_f (h : deM s ld I) (f : ∀ q j, 58 ≤ q → I' q j = I q j) : deM s ld I' := ⟨by rw [f 58 11 (by decide)]; exact h.1, fun j hj => by rw [f 78 j (by decide)]; exact h.2 j hj⟩
theorem deC_f (h : deC s ld I) (f : ∀ q j, q < 58 → I' q j = I q j) : deC s ld I' := ⟨by rw [f 37 1 (by decide)]; exact h.1, fun j hj => by rw [f 38 j (by decide)]; exact h.2 j hj⟩
theorem imM_f (h : imM im I) (f : ∀ q j, 58 ≤ q → I' q j = I q j) : imM im I' := by
  cases im with
  | none => exact (f 58 30 (by decide)).trans h
  | some u =>
    obtain ⟨h1, h2, h3, h4, h5, h6⟩ := h
    exact ⟨(f 58 30 (by decide)).trans h1, (f 58 31 (by decide)).trans h2, (f 58 32 (by decide)).trans h3, fun j hj => (f 81 j (by decide)).trans (h4 j hj), fun j hj => (f 79 j (by decide)).trans (h5 j hj), fun j hj => (f 80 j (by decide)).trans (h6 j hj)⟩
theorem imC_f (h : imC im I) (f : ∀ q j, q < 58 → I' q j = I q j) : imC im I' := by
  cases im with
  | none => exact (f 37 6 (by decide)).trans h
  | some u =>
    obtain ⟨h1, h2, h4, h5, h6⟩ := h
    exact ⟨(f 37 6 (by decide)).trans h1, (f 37 5 (by decide)).trans h2, fun j hj => (f 39 j (by decide)).trans (h4 j hj), fun j hj => (f 40 j (by decide)).trans (h5 j hj), fun j hj => (f 41 j (by decide)).trans (h6 j hj)⟩
theorem shM_f (h : shM sh ro I L) (f : ∀ q j, 58 ≤ q → I' q j = I q j) (g : ∀ q j, 58 ≤ q → L' q j = L q j) : shM sh ro I' L' := by
  intro i hi
  obtain ⟨h1, h2⟩ := h i hi
  exact ⟨(f 85 i (by decide)).trans h1, fun q => ⟨(f 86 i (by decide)).trans (h2 q).1, fun j hj => (g 87 _ (by decide)).trans ((h2 q).2 j hj)⟩⟩
theorem shC_f (h : shC sh ro I L) (f : ∀ q j, q < 58 → I' q j = I q j) (g : ∀ q j, q < 58 → L' q j = L q j) : shC sh ro I' L' := by
  intro i hi
  obtain ⟨h1, h2, h3⟩ := h i hi
  exact ⟨(f 28 i (by decide)).trans h1, fun q => (f 27 i (by decide)).trans (h2 q), fun q j hj => (g (21 + i) j (by omega)).trans (h3 q j hj)⟩
theorem boM_f (h : boM b bk I) (f : ∀ q j, 58 ≤ q → I' q j = I q j) : boM b bk I' := ⟨(f 58 39 (by decide)).trans h.1, fun i hi => ⟨(h.2 i hi).1, (f 83 i (by decide)).trans (h.2 i hi).2⟩⟩
theorem boC_f (h : boC b bk I) (f : ∀ q j, q < 58 → I' q j = I q j) : boC b bk I' := ⟨(f 29 3 (by decide)).trans h.1, fun i hi => ⟨(h.2 i hi).1, (f 30 i (by decide)).trans (h.2 i hi).2⟩⟩
theorem trM_f (h : trM tr I) (f : ∀ q j, 58 ≤ q → I' q j = I q j) : trM tr I' := ⟨(f 58 41 (by decide)).trans h.1, h.2.1, fun i h1 h2 => (f 84 i (by decide)).trans (h.2.2 i h1 h2)⟩
theorem trC_f (h : trC tr I) (f : ∀ q j, q < 58 → I' q j = I q j) : trC tr I' := ⟨(f 29 4 (by decide)).trans h.1, h.2.1, fun i h1 h2 => (f 31 i (by decide)).trans (h.2.2 i h1 h2)⟩
theorem taM_f (h : taM kt ta I) (f : ∀ q j, 58 ≤ q → I' q j = I q j) : taM kt ta I' := ⟨h.1, (f 58 12 (by decide)).trans h.2.1, fun i hi => (f 68 i (by decide)).trans (h.2.2 i hi)⟩
theorem taC_f (h : taC kt ta I) (f : ∀ q j, q < 58 → I' q j = I q j) : taC kt ta I' := ⟨h.1, (f 1 9 (by decide)).trans h.2.1, fun i hi => (f 2 i (by decide)).trans (h.2.2 i hi)⟩
theorem relM_f (h : RelM n m v pe D k a ch s ld im sh ro b bk tr lw kt ta I L) (f : ∀ q j, 58 ≤ q → I' q j = I q j) (g : ∀ q j, 58 ≤ q → L' q j = L q j) : RelM n m v pe D k a ch s ld im sh ro b bk tr lw kt ta I' L' := by
  obtain ⟨h1, h2, h3, h4, h5, h6, h7, h8, h9, h10⟩ := h
  exact ⟨kitM_fr h1 (f 58 0 (by decide)) (fun q j a1 a2 => f q j (by omega)), peM_fr h2 (f 58 6 (by decide)) (fun q j a1 a2 => f q j (by omega)), chM_fr h3 (f 58 36 (by decide)) (f 58 37 (by decide)) (fun j => f 82 j (by decide)), deM_f h4 f, imM_f h5 f, shM_f h6 f g, boM_f h7 f, trM_f h8 f, lwM_fr h9 (fun q j a => f q j (by omega)), taM_f h10 f⟩
theorem relC_f (hce : ceOk c e) (h : RelC n m v pe D k a ch s ld im sh ro b bk tr lw kt ta c I L) (f : ∀ q j, q < 58 → I' q j = I q j) (g : ∀ q j, q < 58 → L' q j = L q j) : RelC n m v pe D k a ch s ld im sh ro b bk tr lw kt ta c I' L' := by
  have hcc := ce_lt hce
  obtain ⟨h1, h2, h3, h4, h5, h6, h7, h8, h9, h10⟩ := h
  exact ⟨kitC_fr h1 (fun q j a1 a2 => f q j (by omega)), peC_fr h2 (fun q j a1 a2 => f q j (by omega)), chC_fr h3 (fun q j a1 a2 => f q j (by omega)), deC_f h4 f, imC_f h5 f, shC_f h6 f g, boC_f h7 f, trC_f h8 f, lwC_fr h9 (fun q j a => f q j (by omega)), taC_f h10 f⟩
end RLF
