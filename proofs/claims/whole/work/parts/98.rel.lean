/-! both hold the same -/
def RelP (n m : Nat) (v : Nat → aMv) (pe : Nat → aPe) (D : Nat → Int32) (k a : Nat) (ch : Nat → aCh) (s : Nat) (im : Option aIm) (sh : Nat → aSh) (b : Nat) (lw : List aLn) (c e : Nat) : Prop := peOk m pe D ∧ chOk n m v k a ch ∧ s < 54 ∧ imOk m im ∧ shOk b sh ∧ lwOk lw ∧ ceOk c e
def RelC (n m : Nat) (v : Nat → aMv) (pe : Nat → aPe) (D : Nat → Int32) (k a : Nat) (ch : Nat → aCh) (s : Nat) (ld : Nat → Int32) (im : Option aIm) (sh : Nat → aSh) (ro : Nat → Nat → Int64) (b : Nat) (bk : Nat → Nat) (tr : List Nat) (lw : List aLn) (kt : Nat) (ta : Nat → Int32) (c : Nat) (I : Nat → Nat → Int32) (L : Nat → Nat → Int64) : Prop := kitC n v I ∧ peC m pe D I ∧ chC k a ch I ∧ deC s ld I ∧ imC im I ∧ shC sh ro I L ∧ boC b bk I ∧ trC tr I ∧ lwC lw c I ∧ taC kt ta I
def RelM (n m : Nat) (v : Nat → aMv) (pe : Nat → aPe) (D : Nat → Int32) (k a : Nat) (ch : Nat → aCh) (s : Nat) (ld : Nat → Int32) (im : Option aIm) (sh : Nat → aSh) (ro : Nat → Nat → Int64) (b : Nat) (bk : Nat → Nat) (tr : List Nat) (lw : List aLn) (kt : Nat) (ta : Nat → Int32) (I : Nat → Nat → Int32) (L : Nat → Nat → Int64) : Prop := kitM n v I ∧ peM m pe D I ∧ chM k a ch I ∧ deM s ld I ∧ imM im I ∧ shM sh ro I L ∧ boM b bk I ∧ trM tr I ∧ lwM lw I ∧ taM kt ta I
section REL
variable {I : Nat → Nat → Int32} {L : Nat → Nat → Int64}
theorem relP_0 : RelP 0 0 (fun _ => (0, 0, 0, 0, 0)) (fun _ => (0, 0, 0)) (fun _ => 0) 0 0 (fun _ => (0, 0, 0, 0)) 0 none (fun _ => (0, 0)) 0 [] 5 6 := by
  refine ⟨⟨by decide, fun i hi => absurd hi (Nat.not_lt_zero i), fun _ _ => rfl, fun _ _ => rfl⟩, ⟨Nat.le_refl _, by decide, fun i hi => absurd hi (Nat.not_lt_zero i)⟩, by decide, trivial, ⟨by decide, fun i hi => ⟨(show (0 : Nat) ≤ 6 by decide), fun h => absurd (show (0 : Nat) = 1 from h) (by decide), fun h => absurd (show 2 ≤ 0 from h) (by decide)⟩⟩, ⟨by decide, fun x hx => (by cases hx)⟩, Or.inl ⟨rfl, rfl⟩⟩
theorem z1 {q j : Nat} (h : q ∈ in1 ∧ q ≠ 28) : in0 I q j = 0 := in0_z (Or.inl h.1) (fun k => h.2 k.1) (fun k => by
  have : ∀ q, q ∈ in1 → q ≠ 85 := by decide
  exact this q h.1 k.1)
theorem z2 {q j : Nat} (h : q ∈ in2) : in0 I q j = 0 := in0_z (Or.inr (Or.inl h)) (fun k => by
  have : ∀ q, q ∈ in2 → q ≠ 28 := by decide
  exact this q h k.1) (fun k => by
  have : ∀ q, q ∈ in2 → q ≠ 85 := by decide
  exact this q h k.1)
theorem z3 {q j : Nat} (h : q ∈ in3 ∧ q ≠ 85) : in0 I q j = 0 := in0_z (Or.inr (Or.inr h.1)) (fun k => by
  have : ∀ q, q ∈ in3 → q ≠ 28 := by decide
  exact this q h.1 k.1) (fun k => h.2 k.1)
theorem relC_0 : RelC 0 0 (fun _ => (0, 0, 0, 0, 0)) (fun _ => (0, 0, 0)) (fun _ => 0) 0 0 (fun _ => (0, 0, 0, 0)) 0 (fun _ => 0) none (fun _ => (0, 0)) (fun _ _ => 0) 0 (fun _ => 0) [] [] 0 (fun _ => 0) 5 (in0 I) (inL L) := by
  refine ⟨⟨⟨by decide, z1 (by decide), fun i hi => absurd hi (Nat.not_lt_zero i)⟩, fun i hi => absurd hi (Nat.not_lt_zero i)⟩, ⟨z1 (by decide), fun i hi => absurd hi (Nat.not_lt_zero i), fun i _ => z1 (by decide), fun j _ => z1 (by decide)⟩, ⟨z2 (by decide), z2 (by decide), fun i hi => absurd hi (Nat.not_lt_zero i)⟩, ⟨z2 (by decide), fun j _ => z2 (by decide)⟩, z2 (by decide), fun i hi => ⟨in0_28 hi, fun h => absurd (show 1 ≤ 0 from h) (by decide), fun h => absurd (show 2 ≤ 0 from h) (by decide)⟩, ⟨z2 (by decide), fun i hi => absurd hi (Nat.not_lt_zero i)⟩, ⟨z2 (by decide), by decide, fun i _ hi => absurd hi (Nat.not_lt_zero i)⟩, ⟨z1 (by decide), trivial⟩, ⟨by decide, z1 (by decide), fun i hi => absurd hi (Nat.not_lt_zero i)⟩⟩
theorem relM_0 : RelM 0 0 (fun _ => (0, 0, 0, 0, 0)) (fun _ => (0, 0, 0)) (fun _ => 0) 0 0 (fun _ => (0, 0, 0, 0)) 0 (fun _ => 0) none (fun _ => (0, 0)) (fun _ _ => 0) 0 (fun _ => 0) [] [] 0 (fun _ => 0) (in0 I) (inL L) := by
  refine ⟨⟨by decide, z3 (by decide), fun i hi => absurd hi (Nat.not_lt_zero i)⟩, ⟨z3 (by decide), fun i hi => absurd hi (Nat.not_lt_zero i), fun i _ => z3 (by decide), fun j _ => z3 (by decide)⟩, ⟨z3 (by decide), z3 (by decide), fun i hi => absurd hi (Nat.not_lt_zero i)⟩, ⟨z3 (by decide), fun j _ => z3 (by decide)⟩, z3 (by decide), fun i hi => ⟨in0_85 hi, fun h => absurd (show 2 ≤ 0 from h) (by decide)⟩, ⟨z3 (by decide), fun i hi => absurd hi (Nat.not_lt_zero i)⟩, ⟨z3 (by decide), by decide, fun i _ hi => absurd hi (Nat.not_lt_zero i)⟩, ?_, ⟨by decide, z3 (by decide), fun i hi => absurd hi (Nat.not_lt_zero i)⟩⟩
  unfold lwM
  rw [if_pos rfl]
  exact z3 (by decide)
end REL
