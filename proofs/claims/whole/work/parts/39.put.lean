/-! shelves: put (class); element, put (reference); keep -/
def roU (ro : Nat → Nat → Int64) (i j : Nat) (w : Int64) : Nat → Nat → Int64 := fun a k => if a = i ∧ k = j then w else ro a k
def opPut (sh : Nat → aSh) (ro : Nat → Nat → Int64) (x y : Int32) (w : Int64) : Int32 × (Nat → Nat → Int64) := if opRef sh x y = 0 then (1, roU ro x.toNatClampNeg y.toNatClampNeg (cutV ((sh x.toNatClampNeg).1 - 2) w)) else (opRef sh x y, ro)
section PUT
variable {d : Nat} {I : Nat → Nat → Int32} {L : Nat → Nat → Int64} {c e : Nat} {x y z : Int32} {b i : Nat} {sh : Nat → aSh} {ro : Nat → Nat → Int64} {w : Int64}
theorem soC_2 {u : aSh} (h : 2 ≤ u.1) : soC u = nI (u.1 - 2) := by
  unfold soC
  rw [if_neg (by omega), if_neg (by omega)]
theorem soM_2 {u : aSh} (h : 2 ≤ u.1) : soM u = nI (u.1 - 2) := by
  unfold soM
  rw [if_neg (by omega), if_neg (by omega)]
theorem soM_0 {u : aSh} (h : u.1 ≤ 6) (h2 : u.1 = 1 → u.2 < 50) : (soM u = -1 ↔ u.1 = 0) ∧ ((0 ≤ (soM u).toInt ∧ (soM u).toInt ≤ 4) ↔ 2 ≤ u.1) := by
  unfold soM
  by_cases h0 : u.1 = 0
  · rw [if_pos h0, h0]
    decide
  · rw [if_neg h0]
    by_cases h1 : u.1 = 1
    · rw [if_pos h1, h1]
      have h3 := h2 h1
      have e := nI_toInt (show 10 + u.2 < 2 ^ 31 by omega)
      refine ⟨⟨fun h => ?_, fun h => absurd h (by decide)⟩, ⟨fun h => by omega, fun h => absurd h (by decide)⟩⟩
      rw [jeq_iff, e] at h
      have : (-1 : Int32).toInt = -1 := rfl
      omega
    · rw [if_neg h1]
      have e := nI_toInt (show u.1 - 2 < 2 ^ 31 by omega)
      refine ⟨⟨fun h => ?_, fun h => absurd h h0⟩, ⟨fun _ => by omega, fun _ => by omega⟩⟩
      rw [jeq_iff, e] at h
      have : (-1 : Int32).toInt = -1 := rfl
      omega
theorem c_put (hs : shC sh ro I L) (ho : shOk b sh) : ∃ L', jev d 136 [.ref 0, .int x, .int y, .long w] (jmk I L c e) = some (some (.int (opPut sh ro x y w).1), jmk I L' c e) ∧ shC sh (opPut sh ro x y w).2 I L' ∧ ∀ q j, (q < 21 ∨ 26 < q) → L' q j = L q j := by
  unfold opPut
  rw [jb_136_0, q_73 hs ho]
  simp only [Option.bind_some, jps]
  rw [jb_136_9]
  by_cases h : opRef sh x y = 0
  · rw [if_pos h, decide_eq_true h, cond_true, jb_78_0, q_73 hs ho, h]
    simp only [Option.bind_some, jps]
    rw [jb_78_6, jt_3, cond_false]
    obtain ⟨i, hi, rfl, h2, h3⟩ := ref_0 h
    obtain ⟨g1, g2, g3⟩ := hs i hi
    obtain ⟨k1, k2, k3⟩ := ho.2 i hi
    have k4 := k3 h2
    obtain ⟨j, hj, rfl⟩ := (jin_iff (by omega)).mp h3
    rw [jdI hi, cond_true, cond_true, jcl' (by omega), jcl' (by omega), g1, soC_2 h2, q_79 (by omega)]
    simp only [Option.bind_some, jps]
    rw [jb_78_26, jdI (by omega), jcl' (by omega), u32 hi, decide_eq_true hi]
    refine ⟨ju L (21 + i) j (cutV ((sh i).1 - 2) w), ?_, fun k hk => ?_, fun q t hq => ?_⟩
    · show (some (none, _)).bind _ = _
      simp only [Option.bind_some, jps]
      rw [jb_136_29]
    · obtain ⟨f1, f2, f3⟩ := hs k hk
      refine ⟨f1, f2, fun h t ht => ?_⟩
      have f4 := f3 h t ht
      unfold ju roU
      by_cases hkt : k = i ∧ t = j
      · obtain ⟨rfl, rfl⟩ := hkt
        rw [if_pos ⟨rfl, rfl⟩, if_pos ⟨rfl, rfl⟩]
      · rw [if_neg (fun h => hkt ⟨by omega, h.2⟩), if_neg hkt]
        exact f4
    · rw [ju_get, if_neg (by omega)]
  · rw [if_neg h, decide_eq_false h, cond_false]
    exact ⟨L, rfl, hs, fun _ _ _ => rfl⟩
theorem q_256 (hs : shM sh ro I L) (ho : shOk b sh) (hi : i < 6) : jev d 256 [.ref 58, .int (nI i)] (jmk I L c e) = some (some (.int (if 2 ≤ (sh i).1 then 1 else 0)), jmk I L c e) := by
  obtain ⟨k1, k2, k3⟩ := ho.2 i hi
  have k0 := ho.1
  rw [jb_256_0, jdI hi, cond_true, jcl' (by omega), (hs i hi).1, q_163]
  simp only [Option.bind_some, jps]
  rw [jb_256_11, j01b, decide_eq_true rfl, cond_true]
  congr 4
  apply jif
  exact (soM_0 k1 (fun h => by have := k2 h; omega)).2
theorem q_wid {l : Nat} (hl : l ≤ 60) : jev d 163 [.int y, .int 0, .int (nI l - 1)] (jmk I L c e) = some (some (.int (if jin y l then 1 else 0)), jmk I L c e) := by
  rw [q_163]
  congr 4
  apply jif
  have h1 : (1 : Int32).toInt = 1 := rfl
  have h0 : (0 : Int32).toInt = 0 := rfl
  have hsub : (nI l - 1).toInt = (l : Int) - 1 := by
    rw [Int32.toInt_sub, h1, nI_toInt (by omega), Int.bmod_eq_of_le (by omega) (by omega)]
  rw [hsub, h0]
  omega
theorem m_elem (hs : shM sh ro I L) (ho : shOk b sh) : jev d 259 [.ref 58, .int x, .int y] (jmk I L c e) = some (some (.long (opElem sh ro x y)), jmk I L c e) := by
  unfold opElem
  rw [jb_259_0, q_169]
  simp only [Option.bind_some, jps]
  rw [jb_259_4]
  simp only [Bool.cond_decide, j01]
  by_cases hx : jin x 6
  · obtain ⟨i, hi, rfl⟩ := (jin_iff (by omega)).mp hx
    rw [if_neg (fun q => q hx), q_256 hs ho hi]
    simp only [Option.bind_some, jps]
    rw [jb_259_12]
    simp only [Bool.cond_decide, j01]
    obtain ⟨g1, g2⟩ := hs i hi
    obtain ⟨k1, k2, k3⟩ := ho.2 i hi
    unfold opRef
    rw [if_pos hx, jcl' (by omega)]
    by_cases h2 : 2 ≤ (sh i).1
    · have k4 := k3 h2
      obtain ⟨g3, g4⟩ := g2 h2
      rw [if_neg (fun q => q h2), if_pos hx, if_neg (show ¬ (sh i).1 = 0 by omega), if_neg (show ¬ (sh i).1 = 1 by omega), g3, q_wid k4]
      simp only [Option.bind_some, jps]
      rw [jb_259_28]
      simp only [Bool.cond_decide, j01]
      by_cases hy : jin y (sh i).2
      · obtain ⟨j, hj, rfl⟩ := (jin_iff (by omega)).mp hy
        have e1 : 60 * nI i + nI j = nI (60 * i + j) := by rw [jI_lit, pk_mul, nI_add]
        rw [if_neg (fun q => q hy), if_pos hy, if_pos rfl, e1, if_pos (jin_nI (by omega) (by omega)), jcl' (by omega), jcl' (by omega), g4 j (by omega)]
      · rw [if_pos hy, if_neg hy, if_neg (by decide)]
    · rw [if_pos h2]
      by_cases h0 : (sh i).1 = 0
      · rw [if_pos h0, if_neg (by rw [if_pos hx]; decide)]
      · rw [if_neg h0, if_pos (show (sh i).1 = 1 by omega), if_neg (by rw [if_pos hx]; decide)]
  · unfold opRef
    rw [if_pos hx, if_neg hx, if_neg (by decide)]
theorem m_put (hs : shM sh ro I L) (ho : shOk b sh) : ∃ L', jev d 258 [.ref 58, .int x, .int y, .long w] (jmk I L c e) = some (some (.int (opPut sh ro x y w).1), jmk I L' c e) ∧ shM sh (opPut sh ro x y w).2 I L' ∧ ∀ q j, q ≠ 87 → L' q j = L q j := by
  unfold opPut
  rw [jb_258_0, q_169]
  simp only [Option.bind_some, jps]
  rw [jb_258_4]
  simp only [Bool.cond_decide, j01]
  by_cases hx : jin x 6
  · obtain ⟨i, hi, rfl⟩ := (jin_iff (by omega)).mp hx
    have hxx : ¬¬ jin (nI i) 6 := fun q => q hx
    obtain ⟨g1, g2⟩ := hs i hi
    obtain ⟨k1, k2, k3⟩ := ho.2 i hi
    have k0 := ho.1
    obtain ⟨s1, s2⟩ := soM_0 k1 (fun h => by have := k2 h; omega)
    rw [if_pos hxx, if_pos hx, jcl' (by omega), g1]
    unfold opRef
    rw [if_pos hx, jcl' (by omega)]
    by_cases h0 : (sh i).1 = 0
    · have a1 : ¬¬ soM (sh i) = -1 := fun q => q (s1.mpr h0)
      rw [if_neg a1, if_pos h0, if_neg (by decide)]
      exact ⟨L, rfl, hs, fun _ _ _ => rfl⟩
    · have a1 : ¬ soM (sh i) = -1 := fun q => h0 (s1.mp q)
      rw [if_pos a1, if_neg h0, q_256 hs ho hi]
      simp only [Option.bind_some, jps]
      rw [jb_258_27]
      simp only [Bool.cond_decide, j01]
      by_cases h1 : (sh i).1 = 1
      · have a2 : ¬¬¬ 2 ≤ (sh i).1 := fun q => q (by omega)
        rw [if_neg a2, if_pos h1, if_neg (by decide)]
        exact ⟨L, rfl, hs, fun _ _ _ => rfl⟩
      · have h2 : 2 ≤ (sh i).1 := by omega
        have a2 : ¬¬ 2 ≤ (sh i).1 := fun q => q h2
        have k4 := k3 h2
        obtain ⟨g3, g4⟩ := g2 h2
        rw [if_pos a2, if_neg h1, if_pos hx, jcl' (by omega), g3, q_wid k4]
        simp only [Option.bind_some, jps]
        rw [jb_258_46]
        simp only [Bool.cond_decide, j01]
        by_cases hy : jin y (sh i).2
        · have a3 : ¬¬ jin y (sh i).2 := fun q => q hy
          rw [if_pos a3, if_pos hy, if_pos rfl, if_pos hx, jcl' (by omega), g1, soM_2 h2, q_257 (by omega)]
          obtain ⟨j, hj, rfl⟩ := (jin_iff (by omega)).mp hy
          have e1 : 60 * nI i + nI j = nI (60 * i + j) := by rw [jI_lit, pk_mul, nI_add]
          simp only [Option.bind_some, jps]
          rw [e1, jb_258_72, jdI (by omega), cond_true, jcl' (by omega), jcl' (by omega)]
          refine ⟨_, rfl, fun k hk => ?_, fun q t hq => ?_⟩
          · obtain ⟨f1, f2⟩ := hs k hk
            refine ⟨f1, fun h => ⟨(f2 h).1, fun t ht => ?_⟩⟩
            have f4 := (f2 h).2 t ht
            unfold ju roU
            by_cases hkt : k = i ∧ t = j
            · obtain ⟨rfl, rfl⟩ := hkt
              rw [if_pos ⟨rfl, rfl⟩, if_pos ⟨rfl, rfl⟩]
            · rw [if_neg (fun h => hkt (by omega)), if_neg hkt]
              exact f4
          · rw [ju_get, if_neg (fun h => hq h.1)]
        · have a3 : ¬¬¬ jin y (sh i).2 := fun q => q hy
          rw [if_neg a3, if_neg hy, if_neg (by decide)]
          exact ⟨L, rfl, hs, fun _ _ _ => rfl⟩
  · unfold opRef
    rw [if_neg (fun q => q hx), if_neg hx, if_neg (by decide)]
    exact ⟨L, rfl, hs, fun _ _ _ => rfl⟩
end PUT
