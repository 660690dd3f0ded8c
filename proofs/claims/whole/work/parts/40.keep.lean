/-! keep: a body on a shelf -/
section KEP
variable {d : Nat} {I : Nat → Nat → Int32} {L : Nat → Nat → Int64} {c e : Nat} {x y z : Int32} {b i : Nat} {sh : Nat → aSh} {ro : Nat → Nat → Int64} {w : Int64}
theorem opKeep_ok (ho : shOk b sh) : shOk b (opKeep b sh x y).2 := by
  unfold opKeep
  obtain ⟨o1, o2⟩ := id ho
  split
  · rename_i h
    refine ⟨o1, fun k hk => ?_⟩
    simp only [shU]
    by_cases q : k = x.toNatClampNeg
    · rw [if_pos q]
      by_cases h0 : 0 ≤ y.toInt
      · rw [if_pos h0]
        exact ⟨show (1 : Nat) ≤ 6 by decide, fun _ => by have h2 := h.2; show y.toInt.toNat < b; omega, fun h => absurd (show 2 ≤ 1 from h) (by decide)⟩
      · rw [if_neg h0]
        exact ⟨show (0 : Nat) ≤ 6 by decide, fun h => absurd (show 0 = 1 from h) (by decide), fun h => absurd (show 2 ≤ 0 from h) (by decide)⟩
    · rw [if_neg q]
      exact o2 k hk
  · exact ho
theorem opRow_ok (ho : shOk b sh) : shOk b (opRow sh ro x y z).2.1 := by
  unfold opRow
  obtain ⟨o1, o2⟩ := id ho
  split
  · rename_i h
    split
    · refine ⟨o1, fun k hk => ?_⟩
      simp only [shU]
      by_cases q : k = x.toNatClampNeg
      · rw [if_pos q]
        refine ⟨?_, fun h => ?_, fun _ => ?_⟩
        · show y.toInt.toNat + 2 ≤ 6
          omega
        · have h : y.toInt.toNat + 2 = 1 := h
          omega
        · show z.toInt.toNat ≤ 60
          omega
      · rw [if_neg q]
        exact o2 k hk
    · exact ho
  · exact ho
theorem c_keep (hb : I 29 3 = nI b) (ho : shOk b sh) (hs : shC sh ro I L) : ∃ I' L', jev d 134 [.ref 0, .int x, .int y] (jmk I L c e) = some (some (.int (opKeep b sh x y).1), jmk I' L' c e) ∧ shC (opKeep b sh x y).2 ro I' L' ∧ (∀ q j, q ≠ 27 → q ≠ 28 → I' q j = I q j) ∧ ∀ q j, (q < 21 ∨ 26 < q) → L' q j = L q j := by
  have hb8 := ho.1
  unfold opKeep
  have hold : ∀ (i : Nat), i < 6 → ∀ s2 : Int32, ∀ u : aSh, u.1 ≤ 1 → s2 = soC u → (u.1 = 1 → y = nI u.2) → ∃ I' L', jat d 134 44 [.ref 0, .int (nI i), .int y] [.int s2, .int (nI i), .ref 19] (jmk I L c e) = some (some (.int 1), jmk I' L' c e) ∧ shC (shU sh i u) ro I' L' ∧ (∀ q j, q ≠ 27 → q ≠ 28 → I' q j = I q j) ∧ ∀ q j, (q < 21 ∨ 26 < q) → L' q j = L q j := by
    intro i hi s2 u hu hs2 hu1
    rw [jb_134_44, q_76 hi]
    refine ⟨_, _, jb_134_48 .., fun k hk => ?_, fun q j h1 h2 => ?_, fun q j h1 => ?_⟩
    · obtain ⟨g1, g2, g3⟩ := hs k hk
      by_cases hki : k = i
      · subst hki
        simp only [shU, if_true]
        refine ⟨?_, fun h => ?_, fun h => by omega⟩
        · rw [← hs2]
          simp [ju_get]
        · have := hu1 (by omega)
          simp [ju_get, this]
      · simp only [shU, if_neg hki]
        refine ⟨?_, fun h => ?_, fun h j hj => ?_⟩
        · simpa [ju_get, hki] using g1
        · simpa [ju_get, hki] using g2 h
        · have := g3 h j hj
          simpa [clL, hki] using this
    · simp [ju_get, h1, h2]
    · unfold clL
      rw [if_neg (by omega)]
  rw [jb_134_0, q_68]
  simp only [Option.bind_some, jps]
  rw [jb_134_8, q_13, hb]
  simp only [Option.bind_some, jps, Bool.cond_decide, j01]
  rw [jb_134_24, jb_134_29]
  simp only [Bool.cond_decide, j01]
  simp only [show (y = -1) ↔ y.toInt = -1 from jeq_iff, jle_iff, Int32.reduceToInt]
  rw [nI_toInt (by omega)]
  by_cases hx : jin x 6
  · obtain ⟨i, hi, rfl⟩ := (jin_iff (by omega)).mp hx
    rw [if_neg (fun q => q hx), jcl' (by omega)]
    by_cases h1 : y.toInt = -1
    · have hand : jin (nI i) 6 ∧ (y.toInt = -1 ∨ jin y b) := ⟨hx, Or.inl h1⟩
      have h0 : ¬ 0 ≤ y.toInt := by omega
      rw [if_pos h1, if_neg h0, if_pos hand, if_neg h0]
      exact hold i hi (-2) (0, 0) (by decide) rfl (fun h => absurd h (by decide))
    · rw [if_neg h1]
      by_cases hy : jin y b
      · have hand : jin (nI i) 6 ∧ (y.toInt = -1 ∨ jin y b) := ⟨hx, Or.inr hy⟩
        have h0 : 0 ≤ y.toInt := by omega
        have hyy : ¬¬ jin y b := fun q => q hy
        rw [if_pos hyy, if_pos h0, if_pos hand, if_pos h0]
        exact hold i hi (-1) (1, y.toInt.toNat) (show (1 : Nat) ≤ 1 by decide) rfl (fun _ => jnat h0)
      · have hno : ¬ (jin (nI i) 6 ∧ (y.toInt = -1 ∨ jin y b)) := fun q => q.2.elim h1 hy
        have hyy : ¬¬¬ jin y b := fun q => q hy
        rw [if_neg hyy, if_neg hno]
        exact ⟨I, L, rfl, hs, fun _ _ _ _ => rfl, fun _ _ _ => rfl⟩
  · have hno : ¬ (jin x 6 ∧ (y.toInt = -1 ∨ jin y b)) := fun q => hx q.1
    rw [if_pos hx, if_neg hno]
    exact ⟨I, L, rfl, hs, fun _ _ _ _ => rfl, fun _ _ _ => rfl⟩
theorem m_keep (hb : I 58 39 = nI b) (ho : shOk b sh) (hs : shM sh ro I L) : ∃ I', jev d 254 [.ref 58, .int x, .int y] (jmk I L c e) = some (some (.int (opKeep b sh x y).1), jmk I' L c e) ∧ shM (opKeep b sh x y).2 ro I' L ∧ ∀ q j, q ≠ 85 → q ≠ 86 → I' q j = I q j := by
  have hb8 := ho.1
  have h1 : (1 : Int32).toInt = 1 := rfl
  have hm1 : (-1 : Int32).toInt = -1 := rfl
  have hsub : (nI b - 1).toInt = (b : Int) - 1 := by
    rw [Int32.toInt_sub, h1, nI_toInt (by omega), Int.bmod_eq_of_le (by omega) (by omega)]
  unfold opKeep
  have hold : ∀ (i : Nat), i < 6 → ∀ s2 : Int32, ∀ u : aSh, u.1 ≤ 1 → s2 = soM u → ∃ I', jat d 254 40 [.ref 58, .int (nI i), .int y] [.int s2, .int (nI i), .ref 85] (jmk I L c e) = some (some (.int 1), jmk I' L c e) ∧ shM (shU sh i u) ro I' L ∧ ∀ q j, q ≠ 85 → q ≠ 86 → I' q j = I q j := by
    intro i hi s2 u hu hs2
    rw [jb_254_40, jdI hi, cond_true, cond_true, jcl' (by omega)]
    refine ⟨_, rfl, fun k hk => ?_, fun q j h1 h2 => ?_⟩
    · obtain ⟨g1, g2⟩ := hs k hk
      by_cases hki : k = i
      · subst hki
        simp only [shU, if_true]
        refine ⟨?_, fun h => by omega⟩
        rw [← hs2]
        simp [ju_get]
      · simp only [shU, if_neg hki]
        refine ⟨?_, fun h => ⟨?_, (g2 h).2⟩⟩
        · simpa [ju_get, hki] using g1
        · simpa [ju_get, hki] using (g2 h).1
    · simp [ju_get, h1, h2]
  rw [jb_254_0, q_169]
  simp only [Option.bind_some, jps]
  rw [jb_254_4, q_163, hb, hsub, hm1]
  simp only [Option.bind_some, jps, Bool.cond_decide, j01]
  rw [jb_254_18]
  simp only [Bool.cond_decide, j01]
  simp only [jle_iff, Int32.reduceToInt]
  by_cases hx : jin x 6
  · obtain ⟨i, hi, rfl⟩ := (jin_iff (by omega)).mp hx
    rw [if_neg (fun q => q hx), jcl' (by omega)]
    by_cases hy : -1 ≤ y.toInt ∧ y.toInt ≤ (b : Int) - 1
    · have hand : jin (nI i) 6 ∧ (y.toInt = -1 ∨ jin y b) := ⟨hx, by omega⟩
      have hyy : ¬¬ (-1 ≤ y.toInt ∧ y.toInt ≤ (b : Int) - 1) := fun q => q hy
      rw [if_pos hyy, if_pos hand]
      by_cases h0 : 0 ≤ y.toInt
      · rw [if_pos h0, if_pos h0]
        refine hold i hi (10 + y) (1, y.toInt.toNat) (show (1 : Nat) ≤ 1 by decide) ?_
        show 10 + y = nI (10 + y.toInt.toNat)
        rw [← nI_add, ← jnat h0]
        rfl
      · rw [if_neg h0, if_neg h0]
        exact hold i hi (-1) (0, 0) (by decide) rfl
    · have hno : ¬ (jin (nI i) 6 ∧ (y.toInt = -1 ∨ jin y b)) := fun q => hy (by have := q.2; omega)
      have hyy : ¬¬¬ (-1 ≤ y.toInt ∧ y.toInt ≤ (b : Int) - 1) := fun q => q hy
      rw [if_neg hyy, if_neg hno]
      exact ⟨I, rfl, hs, fun _ _ _ _ => rfl⟩
  · have hno : ¬ (jin x 6 ∧ (y.toInt = -1 ∨ jin y b)) := fun q => hx q.1
    rw [if_pos hx, if_neg hno]
    exact ⟨I, rfl, hs, fun _ _ _ _ => rfl⟩
end KEP
