/-! numbers -/
theorem jI_lit (n : Nat) : (OfNat.ofNat n : Int32) = nI n := rfl
theorem jlt_iff {x y : Int32} : x < y ↔ x.toInt < y.toInt := Int32.lt_iff_toInt_lt
theorem jle_iff {x y : Int32} : x ≤ y ↔ x.toInt ≤ y.toInt := Int32.le_iff_toInt_le
theorem jeq_iff {x y : Int32} : x = y ↔ x.toInt = y.toInt := Int32.toInt_inj.symm
theorem j01 {p : Prop} [Decidable p] : ((if p then (1 : Int32) else 0) = 0) ↔ ¬ p := by
  by_cases h : p
  · rw [if_pos h]; simp [h]
  · rw [if_neg h]; simp [h]
theorem j01n {p : Prop} [Decidable p] : ¬ ((if p then (1 : Int32) else 0) = 0) ↔ p := by
  rw [j01]; exact Decidable.not_not
theorem j01b {p : Prop} [Decidable p] : ((if p then (1 : Int32) else 0) &&& 1) = (if p then (1 : Int32) else 0) := by
  by_cases h : p
  · rw [if_pos h]; rfl
  · rw [if_neg h]; rfl
/-- an index that is in its row is a number -/
theorem jin_iff {x : Int32} {n : Nat} (hn : n < 2 ^ 31) : jin x n ↔ ∃ j : Nat, j < n ∧ x = nI j := by
  constructor
  · intro h
    exact vp_in_of (vp_in_iff.mpr h) hn
  · rintro ⟨j, h, rfl⟩
    have e := nI_toInt (show j < 2 ^ 31 by omega)
    exact ⟨by omega, by omega⟩
theorem jin_nI {j n : Nat} (h : j < n) (hn : n < 2 ^ 31) : jin (nI j) n := (jin_iff hn).mpr ⟨j, h, rfl⟩
theorem ju_get {α : Type} (f : Nat → Nat → α) (p i : Nat) (x : α) (q j : Nat) : ju f p i x q j = if q = p ∧ j = i then x else f q j := rfl
theorem jz_get {α : Type} (z : α) (f : Nat → Nat → α) (p q j : Nat) : jz z f p q j = if q = p then z else f q j := rfl
theorem jcp_get {α : Type} (f : Nat → Nat → α) (p q sp dp n a j : Nat) : jcp f p q sp dp n a j = if a = q ∧ dp ≤ j ∧ j < dp + n then f p (sp + (j - dp)) else f a j := rfl
/-! the small questions, answered -/
theorem q_57 {d : Nat} {x : Int32} {I : Nat → Nat → Int32} {L : Nat → Nat → Int64} {c e : Nat} : jev d 57 [.ref 7, .int x] (jmk I L c e) = some (some (.int (if 0 ≤ x ∧ x < I 7 6 then 1 else 0)), jmk I L c e) := by
  rw [jb_57_0]
  simp only [Bool.cond_decide]
  repeat' split
  all_goals simp_all [jlt_iff, jle_iff]
  all_goals omega
theorem q_141 {d : Nat} {x : Int32} {I : Nat → Nat → Int32} {L : Nat → Nat → Int64} {c e : Nat} : jev d 141 [.int x] (jmk I L c e) = some (some (.int (if jin x 54 then 1 else 0)), jmk I L c e) := by
  rw [jb_141_0]
  simp only [Bool.cond_decide]
  repeat' split
  all_goals simp_all [jlt_iff, jle_iff]
  all_goals omega
