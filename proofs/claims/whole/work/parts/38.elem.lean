/-! shelves: keep, element, put -/
/-- why a place of a shelf is refused; 0: it is not -/
def opRef (sh : Nat → aSh) (x y : Int32) : Int32 := if jin x 6 then (if (sh x.toNatClampNeg).1 = 0 then -11 else if (sh x.toNatClampNeg).1 = 1 then -12 else if jin y (sh x.toNatClampNeg).2 then 0 else -13) else -1
def opElem (sh : Nat → aSh) (ro : Nat → Nat → Int64) (x y : Int32) : Int64 := if opRef sh x y = 0 then ro x.toNatClampNeg y.toNatClampNeg else -9223372036854775808
/-- what a row of a sort keeps of a number -/
def cutV (t : Nat) (w : Int64) : Int64 := if t = 0 then w.toInt32.toInt8.toInt32.toInt64 else if t = 1 then w.toInt32.toInt16.toInt32.toInt64 else if t = 2 then w.toInt32.toInt64 else if t = 3 then w else if lg_cmp w 0 = 0 then 0 else 1
section ELM
variable {d : Nat} {I : Nat → Nat → Int32} {L : Nat → Nat → Int64} {c e : Nat} {x y z : Int32} {b i : Nat} {sh : Nat → aSh} {ro : Nat → Nat → Int64} {w : Int64}
theorem soC_0 {u : aSh} (h : u.1 ≤ 6) : soC u = -2 ↔ u.1 = 0 := by
  have : ∀ t, t < 7 → (soC (t, 0) = -2 ↔ t = 0) := by decide
  exact this u.1 (by omega)
theorem soC_1 {u : aSh} (h : u.1 ≤ 6) : soC u = -1 ↔ u.1 = 1 := by
  have : ∀ t, t < 7 → (soC (t, 0) = -1 ↔ t = 1) := by decide
  exact this u.1 (by omega)
theorem q_73 (hs : shC sh ro I L) (ho : shOk b sh) : jev d 73 [.ref 19, .int x, .int y] (jmk I L c e) = some (some (.int (opRef sh x y)), jmk I L c e) := by
  unfold opRef
  rw [jb_73_0, q_68]
  simp only [Option.bind_some, jps]
  rw [jb_73_5, q_69]
  simp only [Option.bind_some, jps, Bool.cond_decide, j01]
  by_cases hx : jin x 6
  · have hxx : ¬¬ jin x 6 := fun q => q hx
    rw [if_pos hxx, if_pos hx, jb_73_15, q_70]
    obtain ⟨i, hi, rfl⟩ := (jin_iff (by omega)).mp hx
    obtain ⟨g1, g2, g3⟩ := hs i hi
    obtain ⟨k1, k2, k3⟩ := ho.2 i hi
    simp only [Option.bind_some, jps, Bool.cond_decide, j01]
    rw [jcl' (by omega), g1]
    simp only [soC_0 k1, soC_1 k1]
    by_cases h0 : (sh i).1 = 0
    · have a1 : ¬¬ (jin (nI i) 6 ∧ (sh i).1 = 0) := fun q => q ⟨hx, h0⟩
      rw [if_neg a1, if_pos h0]
    · have a1 : ¬ (jin (nI i) 6 ∧ (sh i).1 = 0) := fun q => h0 q.2
      rw [if_pos a1, if_neg h0, jb_73_26]
      simp only [Bool.cond_decide, j01]
      by_cases h1 : (sh i).1 = 1
      · have a1 : ¬¬ (jin (nI i) 6 ∧ (sh i).1 = 1) := fun q => q ⟨hx, h1⟩
        rw [if_neg a1, if_pos h1]
      · have a1 : ¬ (jin (nI i) 6 ∧ (sh i).1 = 1) := fun q => h1 q.2
        rw [if_pos a1, if_neg h1, if_pos hx, jcl' (by omega), g2 (by omega)]
        simp only [jlt_iff, jle_iff, Int32.reduceToInt]
        rw [nI_toInt (by omega)]
        by_cases hy : jin y (sh i).2
        · rw [if_pos hy, if_neg (by omega), if_neg (by omega)]
        · rw [if_neg hy]
          repeat' split
          all_goals first | rfl | (exfalso; omega)
  · rw [if_neg (fun q => q hx), if_neg hx]
theorem ref_0 (h : opRef sh x y = 0) : ∃ i, i < 6 ∧ x = nI i ∧ 2 ≤ (sh i).1 ∧ jin y (sh i).2 := by
  unfold opRef at h
  by_cases hx : jin x 6
  · obtain ⟨i, hi, rfl⟩ := (jin_iff (by omega)).mp hx
    rw [if_pos hx, jcl' (by omega)] at h
    refine ⟨i, hi, rfl, ?_⟩
    by_cases h0 : (sh i).1 = 0
    · rw [if_pos h0] at h
      exact absurd h (by decide)
    · rw [if_neg h0] at h
      by_cases h1 : (sh i).1 = 1
      · rw [if_pos h1] at h
        exact absurd h (by decide)
      · rw [if_neg h1] at h
        by_cases hy : jin y (sh i).2
        · exact ⟨by omega, hy⟩
        · rw [if_neg hy] at h
          exact absurd h (by decide)
  · rw [if_neg hx] at h
    exact absurd h (by decide)
theorem q_77 (hs : shC sh ro I L) (ho : shOk b sh) : jev d 77 [.ref 19, .int x, .int y] (jmk I L c e) = some (some (.long (if opRef sh x y = 0 then ro x.toNatClampNeg y.toNatClampNeg else 0)), jmk I L c e) := by
  rw [jb_77_0, q_73 hs ho]
  simp only [Option.bind_some, jps]
  rw [jb_77_6]
  by_cases h : opRef sh x y = 0
  · rw [if_pos h, h, jt_3, cond_false]
    obtain ⟨i, hi, rfl, h2, h3⟩ := ref_0 h
    obtain ⟨g1, g2, g3⟩ := hs i hi
    obtain ⟨k1, k2, k3⟩ := ho.2 i hi
    have k4 := k3 h2
    obtain ⟨j, hj, rfl⟩ := (jin_iff (by omega)).mp h3
    rw [jdI hi, cond_true, jdI (by omega), jcl' (by omega), jcl' (by omega), u32 hi, decide_eq_true hi, g3 h2 j (by omega)]
    rfl
  · rw [if_neg h, decide_eq_true h, cond_true]
theorem c_elem (hs : shC sh ro I L) (ho : shOk b sh) : jev d 137 [.ref 0, .int x, .int y] (jmk I L c e) = some (some (.long (opElem sh ro x y)), jmk I L c e) := by
  unfold opElem
  rw [jb_137_0, q_73 hs ho]
  simp only [Option.bind_some, jps]
  rw [jb_137_9, q_77 hs ho]
  by_cases h : opRef sh x y = 0
  · rw [if_pos h, h, jt_4, cond_true, if_pos rfl]
    exact jb_137_27 ..
  · rw [if_neg h, decide_eq_false h, cond_false, if_neg h]
    exact jb_137_27 ..
theorem q_79 {t : Nat} (ht : t ≤ 4) : jev d 79 [.int (nI t), .long w] (jmk I L c e) = some (some (.long (cutV t w)), jmk I L c e) := by
  rw [jb_79_0, jb_79_1]
  have : t = 0 ∨ t = 1 ∨ t = 2 ∨ t = 3 ∨ t = 4 := by omega
  rcases this with rfl | rfl | rfl | rfl | rfl
  · exact jb_79_32 ..
  · exact jb_79_37 ..
  · exact jb_79_42 ..
  · exact jb_79_46 ..
  · show jat d 79 48 _ _ _ = _
    rw [jb_79_48]
    simp only [Bool.cond_decide]
    show _ = some (some (Value.long (if lg_cmp w 0 = 0 then 0 else 1)), _)
    split <;> rfl
theorem q_257 {t : Nat} (ht : t ≤ 4) : jev d 257 [.int (nI t), .long w] (jmk I L c e) = some (some (.long (cutV t w)), jmk I L c e) := by
  rw [jb_257_0, jb_257_1]
  have : t = 0 ∨ t = 1 ∨ t = 2 ∨ t = 3 ∨ t = 4 := by omega
  rcases this with rfl | rfl | rfl | rfl | rfl
  · exact jb_257_32 ..
  · exact jb_257_37 ..
  · exact jb_257_42 ..
  · exact jb_257_46 ..
  · show jat d 257 48 _ _ _ = _
    rw [jb_257_48]
    simp only [Bool.cond_decide]
    show _ = some (some (Value.long (if lg_cmp w 0 = 0 then 0 else 1)), _)
    split <;> rfl
end ELM
