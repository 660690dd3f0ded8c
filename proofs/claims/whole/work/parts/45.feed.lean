/-! feed: the tape -/
def taC (k : Nat) (ta : Nat → Int32) (I : Nat → Nat → Int32) : Prop := k ≤ 120 ∧ I 1 9 = nI k ∧ ∀ i, i < k → I 2 i = ta i
def taM (k : Nat) (ta : Nat → Int32) (I : Nat → Nat → Int32) : Prop := k ≤ 120 ∧ I 58 12 = nI k ∧ ∀ i, i < k → I 68 i = ta i
def opFeed (k : Nat) (ta : Nat → Int32) (x : Int32) : Int32 × Nat × (Nat → Int32) := if 0 ≤ x.toInt ∧ x.toInt ≤ 255 then (if k = 120 then (-3, k, ta) else (nI (k + 1), k + 1, fun i => if i = k then x else ta i)) else (-1, k, ta)
section FED
variable {d : Nat} {I : Nat → Nat → Int32} {L : Nat → Nat → Int64} {c e : Nat} {x : Int32} {k : Nat} {ta : Nat → Int32}
theorem c_feed (h : taC k ta I) : ∃ I', jev d 101 [.ref 0, .int x] (jmk I L c e) = some (some (.int (opFeed k ta x).1), jmk I' L c e) ∧ taC (opFeed k ta x).2.1 (opFeed k ta x).2.2 I' ∧ ∀ q j, ¬ (q = 1 ∧ j = 9) → q ≠ 2 → I' q j = I q j := by
  obtain ⟨h1, h2, h3⟩ := id h
  unfold opFeed
  rw [jb_101_0]
  simp only [Bool.cond_decide]
  simp only [show x < 0 ↔ x.toInt < 0 from jlt_iff, show x ≤ 255 ↔ x.toInt ≤ 255 from jle_iff]
  by_cases hx : 0 ≤ x.toInt ∧ x.toInt ≤ 255
  · rw [if_neg (by omega), if_pos hx.2, if_pos hx, jb_35_0, h2]
    by_cases hk : k = 120
    · subst hk
      rw [if_pos rfl]
      exact ⟨I, jb_101_23 .., h, fun _ _ _ _ => rfl⟩
    · rw [if_neg hk, show decide (nI k < 120) = true from decide_eq_true (show nI k < nI 120 from nI_lt (by omega) (by decide)), cond_true, jdI (by omega), cond_true, jcl' (by omega), nI_1]
      refine ⟨_, jb_101_23 .., ⟨by show k + 1 ≤ 120; omega, rfl, fun i hi => ?_⟩, fun q j a1 a2 => ?_⟩
      · have hi : i < k + 1 := hi
        simp only [ju_get]
        by_cases q : i = k
        · simp [q]
        · simpa [q] using h3 i (by omega)
      · simp only [ju_get]
        rw [if_neg a1, if_neg (fun h => a2 h.1)]
  · have hno : (if x.toInt < 0 then jat d 101 23 [.ref 0, .int x] [.int (-1)] (jmk I L c e) else if x.toInt ≤ 255 then (jev d 35 [.ref 1, .int x] (jmk I L c e)).bind fun r => jat d 101 23 [.ref 0, .int x] (jps r.1 []) r.2 else jat d 101 23 [.ref 0, .int x] [.int (-1)] (jmk I L c e)) = some (some (.int (-1)), jmk I L c e) := by
      by_cases h0 : x.toInt < 0
      · rw [if_pos h0, jb_101_23]
      · rw [if_neg h0, if_neg (by omega), jb_101_23]
    rw [if_neg hx]
    exact ⟨I, hno, h, fun _ _ _ _ => rfl⟩
theorem m_feed (h : taM k ta I) : ∃ I', jev d 186 [.ref 58, .int x] (jmk I L c e) = some (some (.int (opFeed k ta x).1), jmk I' L c e) ∧ taM (opFeed k ta x).2.1 (opFeed k ta x).2.2 I' ∧ ∀ q j, ¬ (q = 58 ∧ j = 12) → q ≠ 68 → I' q j = I q j := by
  obtain ⟨h1, h2, h3⟩ := id h
  unfold opFeed
  rw [jb_186_0, q_163]
  simp only [Option.bind_some, jps]
  rw [jb_186_8, h2]
  simp only [Bool.cond_decide, j01, Int32.reduceToInt]
  by_cases hx : 0 ≤ x.toInt ∧ x.toInt ≤ 255
  · have hxx : ¬¬ (0 ≤ x.toInt ∧ x.toInt ≤ 255) := fun q => q hx
    rw [if_pos hxx, if_pos hx]
    by_cases hk : k = 120
    · subst hk
      rw [if_pos rfl]
      exact ⟨I, rfl, h, fun _ _ _ _ => rfl⟩
    · have e1 : ¬ nI k = 120 := by
        rw [jI_lit, nI_eq (by omega) (by decide)]
        exact hk
      rw [if_neg hk, if_pos e1, if_pos (jin_nI (by omega) (by decide)), jcl' (by omega), nI_1]
      refine ⟨_, rfl, ⟨by show k + 1 ≤ 120; omega, rfl, fun i hi => ?_⟩, fun q j a1 a2 => ?_⟩
      · have hi : i < k + 1 := hi
        simp only [ju_get]
        by_cases q : i = k
        · simp [q]
        · simpa [q] using h3 i (by omega)
      · simp only [ju_get]
        rw [if_neg (fun h => a2 h.1), if_neg a1]
  · rw [if_neg (fun q => q hx), if_neg hx]
    exact ⟨I, rfl, h, fun _ _ _ _ => rfl⟩
end FED
