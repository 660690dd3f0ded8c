/-! taken: what kind the body on a shelf is, if it is under a kind -/
def boC (b : Nat) (bk : Nat → Nat) (I : Nat → Nat → Int32) : Prop := I 29 3 = nI b ∧ ∀ i, i < b → bk i < 8 ∧ I 30 i = nI (bk i)
def boM (b : Nat) (bk : Nat → Nat) (I : Nat → Nat → Int32) : Prop := I 58 39 = nI b ∧ ∀ i, i < b → bk i < 8 ∧ I 83 i = nI (bk i)
def opTaken (sh : Nat → aSh) (bk : Nat → Nat) (x y : Int32) : Int32 := if jin x 6 ∧ jin y 8 then (if (sh x.toNatClampNeg).1 = 0 then -11 else if (sh x.toNatClampNeg).1 = 1 ∧ und y.toNatClampNeg 8 (bk (sh x.toNatClampNeg).2) = true then nI (bk (sh x.toNatClampNeg).2) else -12) else -1
section TKN
variable {d : Nat} {I : Nat → Nat → Int32} {L : Nat → Nat → Int64} {c e : Nat} {x y z : Int32} {b i : Nat} {sh : Nat → aSh} {ro : Nat → Nat → Int64} {bk : Nat → Nat}
theorem q_14 {b i : Nat} (hb : b ≤ 50) (h : boC b bk I) (hi : i < b) : jev d 14 [.ref 29, .int (nI i)] (jmk I L c e) = some (some (.int (nI (bk i))), jmk I L c e) := by
  obtain ⟨h1, h2⟩ := h
  rw [jb_14_0, q_13, h1, nI_toInt (by omega), nI_toInt (by omega), if_pos (by omega)]
  simp only [Option.bind_some, jps]
  rw [jb_14_5, jt_2, cond_false, jdI (by omega), cond_true, jcl' (by omega), (h2 i hi).2]
theorem c_taken (hs : shC sh ro I L) (ho : shOk b sh) (hb : boC b bk I) : jev d 139 [.ref 0, .int x, .int y] (jmk I L c e) = some (some (.int (opTaken sh bk x y)), jmk I L c e) := by
  unfold opTaken
  rw [jb_139_0, q_68]
  simp only [Option.bind_some, jps]
  rw [jb_139_8, q_11]
  simp only [Option.bind_some, jps, Bool.cond_decide, j01]
  rw [jb_139_15, q_69]
  simp only [Option.bind_some, jps, Bool.cond_decide, j01]
  by_cases hx : jin x 6
  · rw [if_neg (fun q => q hx)]
    by_cases hy : jin y 8
    · have hyy : ¬¬ jin y 8 := fun q => q hy
      have hand : jin x 6 ∧ jin y 8 := ⟨hx, hy⟩
      rw [if_pos hyy, if_pos hand, jb_139_28, q_70]
      obtain ⟨i, hi, rfl⟩ := (jin_iff (by omega)).mp hx
      obtain ⟨t, ht, rfl⟩ := (jin_iff (by omega)).mp hy
      obtain ⟨g1, g2, g3⟩ := hs i hi
      obtain ⟨k1, k2, k3⟩ := ho.2 i hi
      have k0 := ho.1
      simp only [Option.bind_some, jps, Bool.cond_decide, j01]
      rw [jcl' (by omega), jcl' (by omega), g1]
      simp only [soC_0 k1, soC_1 k1]
      by_cases h0 : (sh i).1 = 0
      · have a1 : ¬¬ (jin (nI i) 6 ∧ (sh i).1 = 0) := fun q => q ⟨hx, h0⟩
        rw [if_neg a1, if_pos h0]
      · have a1 : ¬ (jin (nI i) 6 ∧ (sh i).1 = 0) := fun q => h0 q.2
        rw [if_pos a1, if_neg h0, jb_139_42]
        simp only [Bool.cond_decide, j01]
        by_cases h1 : (sh i).1 = 1
        · have a2 : ¬¬ (jin (nI i) 6 ∧ (sh i).1 = 1) := fun q => q ⟨hx, h1⟩
          have hk := (hb.2 _ (k2 h1)).1
          rw [if_neg a2, if_pos hx, jcl' (by omega), g2 (by omega), q_14 k0 hb (k2 h1)]
          simp only [Option.bind_some, jps]
          have e1 : nI (bk (sh i).2) = nK (bk (sh i).2) := by
            unfold nK
            rw [if_pos hk]
          rw [jb_139_61, jb_139_65, e1, q_12 (by omega) ht]
          simp only [Option.bind_some, jps]
          rw [jb_139_71]
          simp only [Bool.cond_decide, j01]
          by_cases hu : und t 8 (bk (sh i).2) = true
          · rw [if_neg (fun q => q hu), if_pos ⟨h1, hu⟩]
          · rw [if_pos hu, if_neg (fun q => hu q.2)]
        · have a2 : ¬ (jin (nI i) 6 ∧ (sh i).1 = 1) := fun q => h1 q.2
          have a3 : ¬ ((sh i).1 = 1 ∧ und t 8 (bk (sh i).2) = true) := fun q => h1 q.1
          rw [if_pos a2, jb_139_65, show (-1 : Int32) = nK 8 from rfl, q_12 (by omega) ht, und_8 ht, if_neg a3]
          simp only [Option.bind_some, jps]
          rw [jb_139_71]
          rfl
    · have hno : ¬ (jin x 6 ∧ jin y 8) := fun q => hy q.2
      have hyy : ¬¬¬ jin y 8 := fun q => q hy
      rw [if_neg hyy, if_neg hno]
  · have hno : ¬ (jin x 6 ∧ jin y 8) := fun q => hx q.1
    rw [if_pos hx, if_neg hno]
end TKN
