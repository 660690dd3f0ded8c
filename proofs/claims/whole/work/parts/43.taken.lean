/-! taken, the reference's -/
def undM (t : Nat) : Nat → Nat → Bool
  | 0, k => decide (k = t)
  | f + 1, k => decide (k = t) || (decide (k ≠ 0) && undM t f (par k))
/-- the chain upwards ends within f steps -/
def parE : Nat → Nat → Bool
  | 0, k => decide (k = 0)
  | f + 1, k => decide (k = 0) || (decide (k < 8) && parE f (par k))
section TKM
variable {d : Nat} {I : Nat → Nat → Int32} {L : Nat → Nat → Int64} {c e : Nat} {x y z : Int32} {b i : Nat} {sh : Nat → aSh} {ro : Nat → Nat → Int64} {bk : Nat → Nat}
theorem parE_4 : ∀ k, k < 8 → parE 4 k = true := by decide
theorem undM_8 : ∀ k, k < 8 → ∀ t, t < 8 → undM t 4 k = und t 8 k := by decide
theorem par_8 : ∀ k, k < 8 → 0 < k → par k < 8 := by decide
theorem q_261e {k t : Nat} (hk : k < 8) (ht : t < 8) : jat d 261 82 [.ref 58, .int x, .int (nI t), .int z, .int (nI k)] [] (jmk I L c e) = some (some (.int (if k = t then z else -12)), jmk I L c e) := by
  rw [jb_261_82]
  by_cases h : k = t
  · rw [if_pos h, h, decide_eq_false (fun q => q rfl), cond_false]
  · rw [if_neg h, decide_eq_true (by rw [nI_eq (by omega) (by omega)]; exact h), cond_true]
theorem q_261l {t : Nat} (ht : t < 8) : ∀ f k : Nat, k < 8 → parE f k = true → jat d 261 61 [.ref 58, .int x, .int (nI t), .int z, .int (nI k)] [] (jmk I L c e) = some (some (.int (if undM t f k = true then z else -12)), jmk I L c e) := by
  have h0 : ∀ k, decide (nI k ≤ 0) = decide (nI k ≤ nI 0) := fun _ => rfl
  intro f
  induction f with
  | zero =>
    intro k hk hf
    have hk0 : k = 0 := by simpa [parE] using hf
    subst hk0
    rw [jb_261_61, h0, q_261e hk ht, show decide (nI 0 ≤ nI 0) = true from rfl, cond_true]
    simp only [undM, decide_eq_true_eq]
    cases decide (nI 0 = nI t) <;> rfl
  | succ f ih =>
    intro k hk hf
    rw [jb_261_61, h0, q_261e hk ht]
    by_cases h : k = t
    · rw [h, decide_eq_true (show nI t = nI t from rfl), cond_true, if_pos rfl]
      simp [undM]
    · rw [decide_eq_false (by rw [nI_eq (by omega) (by omega)]; exact h), cond_false]
      by_cases hk0 : k = 0
      · subst hk0
        rw [show decide (nI 0 ≤ nI 0) = true from rfl, cond_true, if_neg h]
        simp [undM, h]
      · rw [decide_eq_false (by rw [nI_leI (by omega) (by omega)]; omega), cond_false, q_245 hk (by omega)]
        simp only [Option.bind_some, jps]
        have hp : parE f (par k) = true := by
          simp only [parE, Bool.or_eq_true, decide_eq_true_eq, Bool.and_eq_true] at hf
          exact hf.elim (fun q => absurd q hk0) (fun q => q.2)
        rw [jb_261_77, ih (par k) (par_8 k hk (by omega)) hp]
        simp [undM, h, hk0]
theorem m_taken (hs : shM sh ro I L) (ho : shOk b sh) (hb : boM b bk I) : jev d 261 [.ref 58, .int x, .int y] (jmk I L c e) = some (some (.int (opTaken sh bk x y)), jmk I L c e) := by
  unfold opTaken
  rw [jb_261_0, q_169]
  simp only [Option.bind_some, jps]
  rw [jb_261_4, q_163]
  simp only [Option.bind_some, jps, Bool.cond_decide, j01]
  rw [jb_261_14]
  simp only [Bool.cond_decide, j01, Int32.reduceToInt]
  by_cases hx : jin x 6
  · rw [if_neg (fun q => q hx)]
    by_cases hy : jin y 8
    · have hyy : ¬¬ (0 ≤ y.toInt ∧ y.toInt ≤ 7) := fun q => q (by omega)
      have hand : jin x 6 ∧ jin y 8 := ⟨hx, hy⟩
      rw [if_pos hyy, if_pos hand, if_pos hx]
      obtain ⟨i, hi, rfl⟩ := (jin_iff (by omega)).mp hx
      obtain ⟨t, ht, rfl⟩ := (jin_iff (by omega)).mp hy
      obtain ⟨g1, g2⟩ := hs i hi
      obtain ⟨k1, k2, k3⟩ := ho.2 i hi
      have k0 := ho.1
      obtain ⟨s1, s2⟩ := soM_0 k1 (fun h => by have := k2 h; omega)
      rw [jcl' (by omega), jcl' (by omega), g1]
      simp only [s1]
      by_cases h0 : (sh i).1 = 0
      · rw [if_neg (fun q => q h0), if_pos h0]
      · rw [if_pos h0, if_neg h0, q_256 hs ho hi]
        simp only [Option.bind_some, jps]
        rw [jb_261_37]
        simp only [Bool.cond_decide, j01]
        by_cases h1 : (sh i).1 = 1
        · have a2 : ¬ 2 ≤ (sh i).1 := by omega
          obtain ⟨hk, h83⟩ := hb.2 _ (k2 h1)
          have hv := k2 h1
          have e1 : soM (sh i) = nI (10 + (sh i).2) := by
            unfold soM
            rw [if_neg h0, if_pos h1]
          have e2 : nI (10 + (sh i).2) - 10 = nI (sh i).2 := by
            rw [jI_lit, nI_sub (by omega) (by omega)]
            congr 1
            omega
          rw [if_pos a2, if_pos hx, jcl' (by omega), g1, e1, e2, if_pos (jin_nI (by omega) (by omega)), jcl' (by omega), h83, q_261l ht 4 _ hk (parE_4 _ hk), undM_8 _ hk t ht]
          congr 3
          by_cases hu : und t 8 (bk (sh i).2) = true
          · rw [if_pos hu, if_pos ⟨h1, hu⟩]
          · rw [if_neg hu, if_neg (fun q => hu q.2)]
        · have a2 : ¬¬ 2 ≤ (sh i).1 := fun q => q (by omega)
          have a3 : ¬ ((sh i).1 = 1 ∧ und t 8 (bk (sh i).2) = true) := fun q => h1 q.1
          rw [if_neg a2, if_neg a3]
    · have hno : ¬ (jin x 6 ∧ jin y 8) := fun q => hy q.2
      have hyy : ¬¬¬ (0 ≤ y.toInt ∧ y.toInt ≤ 7) := fun q => q (fun q => hy (by omega))
      rw [if_neg hyy, if_neg hno]
  · have hno : ¬ (jin x 6 ∧ jin y 8) := fun q => hx q.1
    rw [if_pos hx, if_neg hno]
end TKM
