/-! numbers -/
theorem jI_lit (n : Nat) : (OfNat.ofNat n : Int32) = nI (OfNat.ofNat n) := rfl
theorem jt_1 : decide (¬ (1 : Int32) = 0) = true := rfl
theorem jt_2 : decide ((1 : Int32) = 0) = false := rfl
theorem jt_3 : decide (¬ (0 : Int32) = 0) = false := rfl
theorem jt_4 : decide ((0 : Int32) = 0) = true := rfl
theorem jlt_iff {x y : Int32} : x < y ↔ x.toInt < y.toInt := Int32.lt_iff_toInt_lt
theorem jle_iff {x y : Int32} : x ≤ y ↔ x.toInt ≤ y.toInt := Int32.le_iff_toInt_le
theorem jeq_iff {x y : Int32} : x = y ↔ x.toInt = y.toInt := Int32.toInt_inj.symm
theorem j01 {p : Prop} [Decidable p] : ((if p then (1 : Int32) else 0) = 0) ↔ ¬ p := by
  by_cases h : p
  · rw [if_pos h]; simp [h]
  · rw [if_neg h]; simp [h]
theorem j01n {p : Prop} [Decidable p] : ¬ ((if p then (1 : Int32) else 0) = 0) ↔ p := by
  rw [j01]; exact Decidable.not_not
theorem j01b {p : Prop} [Decidable p] : ((if p then (1 : Int32) else 0) &&& 1) = (if p then (1 : Int32) else 0) := by
  by_cases h : p
  · rw [if_pos h]; rfl
  · rw [if_neg h]; rfl
/-- an index that is in its row is a number -/
theorem jin_iff {x : Int32} {n : Nat} (hn : n < 2 ^ 31) : jin x n ↔ ∃ j : Nat, j < n ∧ x = nI j := by
  constructor
  · intro h
    exact vp_in_of (vp_in_iff.mpr h) hn
  · rintro ⟨j, h, rfl⟩
    have e := nI_toInt (show j < 2 ^ 31 by omega)
    exact ⟨by omega, by omega⟩
theorem jin_nI {j n : Nat} (h : j < n) (hn : n < 2 ^ 31) : jin (nI j) n := (jin_iff hn).mpr ⟨j, h, rfl⟩
theorem ju_get {α : Type} (f : Nat → Nat → α) (p i : Nat) (x : α) (q j : Nat) : ju f p i x q j = if q = p ∧ j = i then x else f q j := rfl
theorem jz_get {α : Type} (z : α) (f : Nat → Nat → α) (p q j : Nat) : jz z f p q j = if q = p then z else f q j := rfl
theorem jcp_get {α : Type} (f : Nat → Nat → α) (p q sp dp n a j : Nat) : jcp f p q sp dp n a j = if a = q ∧ dp ≤ j ∧ j < dp + n then f p (sp + (j - dp)) else f a j := rfl
