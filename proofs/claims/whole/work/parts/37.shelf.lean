/-! shelves: keep, row -/
/-- a shelf: 0 bare, 1 a body, 2 + sort a row; and which body, or how long -/
abbrev aSh : Type := Nat × Nat
def soC (u : aSh) : Int32 := if u.1 = 0 then -2 else if u.1 = 1 then -1 else nI (u.1 - 2)
def soM (u : aSh) : Int32 := if u.1 = 0 then -1 else if u.1 = 1 then nI (10 + u.2) else nI (u.1 - 2)
def shC (sh : Nat → aSh) (ro : Nat → Nat → Int64) (I : Nat → Nat → Int32) (L : Nat → Nat → Int64) : Prop := ∀ i, i < 6 → I 28 i = soC (sh i) ∧ (1 ≤ (sh i).1 → I 27 i = nI (sh i).2) ∧ (2 ≤ (sh i).1 → ∀ j, j < 60 → L (21 + i) j = ro i j)
def shM (sh : Nat → aSh) (ro : Nat → Nat → Int64) (I : Nat → Nat → Int32) (L : Nat → Nat → Int64) : Prop := ∀ i, i < 6 → I 85 i = soM (sh i) ∧ (2 ≤ (sh i).1 → I 86 i = nI (sh i).2 ∧ ∀ j, j < 60 → L 87 (60 * i + j) = ro i j)
def shOk (b : Nat) (sh : Nat → aSh) : Prop := b ≤ 50 ∧ ∀ i, i < 6 → (sh i).1 ≤ 6 ∧ ((sh i).1 = 1 → (sh i).2 < b) ∧ (2 ≤ (sh i).1 → (sh i).2 ≤ 60)
def shU {α : Type} (sh : Nat → α) (i : Nat) (u : α) : Nat → α := fun k => if k = i then u else sh k
def opRow (sh : Nat → aSh) (ro : Nat → Nat → Int64) (x y z : Int32) : Int32 × (Nat → aSh) × (Nat → Nat → Int64) := if jin x 6 ∧ 0 ≤ y.toInt ∧ y.toInt ≤ 4 ∧ z.toInt ≤ 60 then (if 0 ≤ z.toInt then (1, shU sh x.toNatClampNeg (y.toInt.toNat + 2, z.toInt.toNat), shU ro x.toNatClampNeg (fun _ => 0)) else (-14, sh, ro)) else (-1, sh, ro)
def opKeep (b : Nat) (sh : Nat → aSh) (x y : Int32) : Int32 × (Nat → aSh) := if jin x 6 ∧ (y.toInt = -1 ∨ jin y b) then (1, shU sh x.toNatClampNeg (if 0 ≤ y.toInt then (1, y.toInt.toNat) else (0, 0))) else (-1, sh)
/-- one row of the long ones bare as far as k, from j0 -/
def clL (L : Nat → Nat → Int64) (q j0 k : Nat) : Nat → Nat → Int64 := fun p j => if p = q ∧ j0 ≤ j ∧ j < j0 + k then 0 else L p j
section SHF
variable {d : Nat} {I : Nat → Nat → Int32} {L : Nat → Nat → Int64} {c e : Nat} {x y z : Int32} {b i : Nat} {sh : Nat → aSh} {ro : Nat → Nat → Int64}
theorem cl_0 {q j0 : Nat} : clL L q j0 0 = L := by
  funext a j
  unfold clL
  rw [if_neg (by omega)]
theorem cl_1 {q j0 t : Nat} : ju (clL L q j0 t) q (j0 + t) 0 = clL L q j0 (t + 1) := by
  funext a j
  unfold ju clL
  by_cases hq : a = q
  · subst hq
    by_cases hj : j = j0 + t
    · have h1 : a = a ∧ j = j0 + t := ⟨rfl, hj⟩
      have h2 : a = a ∧ j0 ≤ j ∧ j < j0 + (t + 1) := ⟨rfl, by omega, by omega⟩
      rw [if_pos h1, if_pos h2]
    · have h1 : ¬ (a = a ∧ j = j0 + t) := fun k => hj k.2
      rw [if_neg h1]
      by_cases hr : j0 ≤ j ∧ j < j0 + t
      · have h2 : a = a ∧ j0 ≤ j ∧ j < j0 + t := ⟨rfl, hr⟩
        have h3 : a = a ∧ j0 ≤ j ∧ j < j0 + (t + 1) := ⟨rfl, by omega, by omega⟩
        rw [if_pos h2, if_pos h3]
      · have h2 : ¬ (a = a ∧ j0 ≤ j ∧ j < j0 + t) := fun k => hr k.2
        have h3 : ¬ (a = a ∧ j0 ≤ j ∧ j < j0 + (t + 1)) := fun k => hr ⟨k.2.1, by omega⟩
        rw [if_neg h2, if_neg h3]
  · rw [if_neg (fun k => hq k.1), if_neg (fun k => hq k.1), if_neg (fun k => hq k.1)]
theorem u32 {i : Nat} (h : i < 6) : (UInt32.ofNat i).toNat = i := by
  have : i = 0 ∨ i = 1 ∨ i = 2 ∨ i = 3 ∨ i = 4 ∨ i = 5 := by omega
  rcases this with rfl | rfl | rfl | rfl | rfl | rfl <;> rfl
theorem soC_row {w : Nat} (h : 0 ≤ y.toInt) : soC (y.toInt.toNat + 2, w) = y := by
  show (if y.toInt.toNat + 2 = 0 then -2 else if y.toInt.toNat + 2 = 1 then -1 else nI (y.toInt.toNat + 2 - 2)) = y
  rw [if_neg (by omega), if_neg (by omega), Nat.add_sub_cancel]
  exact (jnat h).symm
theorem soM_row {w : Nat} (h : 0 ≤ y.toInt) : soM (y.toInt.toNat + 2, w) = y := by
  show (if y.toInt.toNat + 2 = 0 then -1 else if y.toInt.toNat + 2 = 1 then nI (10 + w) else nI (y.toInt.toNat + 2 - 2)) = y
  rw [if_neg (by omega), if_neg (by omega), Nat.add_sub_cancel]
  exact (jnat h).symm
theorem q_76 (hi : i < 6) : jev d 76 [.ref 19, .int (nI i), .int x, .int y] (jmk I L c e) = some (none, jmk (ju (ju I 28 i x) 27 i y) (clL L (21 + i) 0 60) c e) := by
  rw [jb_76_0, q_68, if_pos (jin_nI hi (by decide))]
  simp only [Option.bind_some, jps]
  rw [jb_76_5, jt_1, cond_true, jdI hi, cond_true, cond_true, jcl' (by omega)]
  have key : jat d 76 26 [.ref 19, .int (nI i), .int x, .int y, .int (nI 0)] [] (jmk (ju (ju I 28 i x) 27 i y) (clL L (21 + i) 0 0) c e) = jat d 76 26 [.ref 19, .int (nI i), .int x, .int y, .int (nI 60)] [] (jmk (ju (ju I 28 i x) 27 i y) (clL L (21 + i) 0 60) c e) := jloop (N := 60) (fun t => jat d 76 26 [.ref 19, .int (nI i), .int x, .int y, .int (nI t)] [] (jmk (ju (ju I 28 i x) 27 i y) (clL L (21 + i) 0 t) c e)) (fun t ht => by
    show jat d 76 26 [.ref 19, .int (nI i), .int x, .int y, .int (nI t)] [] (jmk (ju (ju I 28 i x) 27 i y) (clL L (21 + i) 0 t) c e) = jat d 76 26 [.ref 19, .int (nI i), .int x, .int y, .int (nI (t + 1))] [] (jmk (ju (ju I 28 i x) 27 i y) (clL L (21 + i) 0 (t + 1)) c e)
    have e1 := cl_1 (L := L) (q := 21 + i) (j0 := 0) (t := t)
    rw [Nat.zero_add] at e1
    rw [jb_76_26, decide_eq_false (by rw [jI_lit, nI_leI (by omega) (by omega)]; omega), cond_false, jdI hi, cond_true, jdI ht, jcl' (by omega), jcl' (by omega), u32 hi, decide_eq_true hi, nI_1, e1]
    rfl)
  rw [cl_0] at key
  rw [show (0 : Int32) = nI 0 from rfl, key, jb_76_26]
  rfl
theorem c_row (hs : shC sh ro I L) : ∃ I' L', jev d 135 [.ref 0, .int x, .int y, .int z] (jmk I L c e) = some (some (.int (opRow sh ro x y z).1), jmk I' L' c e) ∧ shC (opRow sh ro x y z).2.1 (opRow sh ro x y z).2.2 I' L' ∧ (∀ q j, q ≠ 27 → q ≠ 28 → I' q j = I q j) ∧ ∀ q j, (q < 21 ∨ 26 < q) → L' q j = L q j := by
  unfold opRow
  rw [jb_135_0, q_68]
  simp only [Option.bind_some, jps]
  rw [jb_135_8]
  simp only [Bool.cond_decide, j01]
  simp only [jlt_iff, jle_iff, Int32.reduceToInt]
  by_cases hx : jin x 6
  · rw [if_neg (fun q => q hx)]
    by_cases hy : 0 ≤ y.toInt ∧ y.toInt ≤ 4
    · rw [if_neg (by omega), if_neg (by omega)]
      by_cases h60 : z.toInt ≤ 60
      · have hall : jin x 6 ∧ 0 ≤ y.toInt ∧ y.toInt ≤ 4 ∧ z.toInt ≤ 60 := ⟨hx, hy.1, hy.2, h60⟩
        rw [if_pos h60, if_pos hall]
        by_cases hz : 0 ≤ z.toInt
        · rw [if_pos hz, if_pos hz]
          obtain ⟨i, hi, rfl⟩ := (jin_iff (by omega)).mp hx
          rw [q_76 hi, jcl' (by omega)]
          refine ⟨ju (ju I 28 i y) 27 i z, clL L (21 + i) 0 60, jb_135_45 .., fun k hk => ?_, fun q j h1 h2 => ?_, fun q j h1 => ?_⟩
          · obtain ⟨g1, g2, g3⟩ := hs k hk
            by_cases hki : k = i
            · subst hki
              simp only [shU, if_true]
              refine ⟨?_, fun _ => ?_, fun _ j hj => ?_⟩
              · rw [soC_row hy.1]
                simp [ju_get]
              · simpa [ju_get] using jnat hz
              · simp [clL, hj]
            · simp only [shU, if_neg hki]
              refine ⟨?_, fun h => ?_, fun h j hj => ?_⟩
              · simpa [ju_get, hki] using g1
              · simpa [ju_get, hki] using g2 h
              · have := g3 h j hj
                simpa [clL, hki] using this
          · simp [ju_get, h1, h2]
          · unfold clL
            rw [if_neg (by omega)]
        · rw [if_neg hz, if_neg hz]
          exact ⟨I, L, rfl, hs, fun _ _ _ _ => rfl, fun _ _ _ => rfl⟩
      · rw [if_neg h60, if_neg (fun q => h60 q.2.2.2)]
        exact ⟨I, L, rfl, hs, fun _ _ _ _ => rfl, fun _ _ _ => rfl⟩
    · have hno : ¬ (jin x 6 ∧ 0 ≤ y.toInt ∧ y.toInt ≤ 4 ∧ z.toInt ≤ 60) := fun q => hy ⟨q.2.1, q.2.2.1⟩
      rw [if_neg hno]
      refine ⟨I, L, ?_, hs, fun _ _ _ _ => rfl, fun _ _ _ => rfl⟩
      by_cases h0 : y.toInt < 0
      · rw [if_pos h0]
      · rw [if_neg h0, if_pos (by omega)]
  · rw [if_pos hx, if_neg (fun q => hx q.1)]
    exact ⟨I, L, rfl, hs, fun _ _ _ _ => rfl, fun _ _ _ => rfl⟩
theorem m_row (hs : shM sh ro I L) : ∃ I' L', jev d 255 [.ref 58, .int x, .int y, .int z] (jmk I L c e) = some (some (.int (opRow sh ro x y z).1), jmk I' L' c e) ∧ shM (opRow sh ro x y z).2.1 (opRow sh ro x y z).2.2 I' L' ∧ (∀ q j, q ≠ 85 → q ≠ 86 → I' q j = I q j) ∧ ∀ q j, q ≠ 87 → L' q j = L q j := by
  unfold opRow
  rw [jb_255_0, q_169]
  simp only [Option.bind_some, jps]
  rw [jb_255_4, q_163]
  simp only [Option.bind_some, jps, Bool.cond_decide, j01]
  rw [jb_255_13]
  simp only [Bool.cond_decide, j01]
  simp only [jle_iff, Int32.reduceToInt]
  by_cases hx : jin x 6
  · rw [if_neg (fun q => q hx)]
    by_cases hy : 0 ≤ y.toInt ∧ y.toInt ≤ 4
    · rw [if_neg (fun q => q hy)]
      by_cases h60 : z.toInt ≤ 60
      · have hall : jin x 6 ∧ 0 ≤ y.toInt ∧ y.toInt ≤ 4 ∧ z.toInt ≤ 60 := ⟨hx, hy.1, hy.2, h60⟩
        rw [if_pos h60, if_pos hall]
        by_cases hz : 0 ≤ z.toInt
        · rw [if_pos hz, if_pos hz]
          obtain ⟨i, hi, rfl⟩ := (jin_iff (by omega)).mp hx
          rw [if_pos hx, if_pos hx, jcl' (by omega)]
          have key : jat d 255 48 [.ref 58, .int (nI i), .int y, .int z, .int (nI 0)] [] (jmk (ju (ju I 85 i y) 86 i z) (clL L 87 (60 * i) 0) c e) = jat d 255 48 [.ref 58, .int (nI i), .int y, .int z, .int (nI 60)] [] (jmk (ju (ju I 85 i y) 86 i z) (clL L 87 (60 * i) 60) c e) := jloop (N := 60) (fun t => jat d 255 48 [.ref 58, .int (nI i), .int y, .int z, .int (nI t)] [] (jmk (ju (ju I 85 i y) 86 i z) (clL L 87 (60 * i) t) c e)) (fun t ht => by
            show jat d 255 48 [.ref 58, .int (nI i), .int y, .int z, .int (nI t)] [] (jmk (ju (ju I 85 i y) 86 i z) (clL L 87 (60 * i) t) c e) = jat d 255 48 [.ref 58, .int (nI i), .int y, .int z, .int (nI (t + 1))] [] (jmk (ju (ju I 85 i y) 86 i z) (clL L 87 (60 * i) (t + 1)) c e)
            have e1 : 60 * nI i + nI t = nI (60 * i + t) := by rw [jI_lit, pk_mul, nI_add]
            rw [jb_255_48, decide_eq_false (by rw [jI_lit, nI_leI (by omega) (by omega)]; omega), cond_false, e1, jdI (by omega), cond_true, jcl' (by omega), nI_1, cl_1])
          rw [cl_0] at key
          refine ⟨ju (ju I 85 i y) 86 i z, clL L 87 (60 * i) 60, ?_, fun k hk => ?_, fun q j h1 h2 => ?_, fun q j h1 => ?_⟩
          · show jat d 255 48 [.ref 58, .int (nI i), .int y, .int z, .int (nI 0)] [] _ = _
            rw [key, jb_255_48]
            rfl
          · obtain ⟨g1, g2⟩ := hs k hk
            by_cases hki : k = i
            · subst hki
              simp only [shU, if_true]
              refine ⟨?_, fun _ => ⟨?_, fun j hj => ?_⟩⟩
              · rw [soM_row hy.1]
                simp [ju_get]
              · simpa [ju_get] using jnat hz
              · unfold clL
                rw [if_pos ⟨rfl, by omega, by omega⟩]
            · simp only [shU, if_neg hki]
              refine ⟨?_, fun h => ⟨?_, fun j hj => ?_⟩⟩
              · simpa [ju_get, hki] using g1
              · simpa [ju_get, hki] using (g2 h).1
              · have := (g2 h).2 j hj
                unfold clL
                rw [if_neg (by omega)]
                exact this
          · simp [ju_get, h1, h2]
          · unfold clL
            rw [if_neg (fun k => h1 k.1)]
        · rw [if_neg hz, if_neg hz]
          exact ⟨I, L, rfl, hs, fun _ _ _ _ => rfl, fun _ _ _ => rfl⟩
      · rw [if_neg h60, if_neg (fun q => h60 q.2.2.2)]
        exact ⟨I, L, rfl, hs, fun _ _ _ _ => rfl, fun _ _ _ => rfl⟩
    · have hno : ¬ (jin x 6 ∧ 0 ≤ y.toInt ∧ y.toInt ≤ 4 ∧ z.toInt ≤ 60) := fun q => hy ⟨q.2.1, q.2.2.1⟩
      rw [if_pos hy, if_neg hno]
      exact ⟨I, L, rfl, hs, fun _ _ _ _ => rfl, fun _ _ _ => rfl⟩
  · rw [if_pos hx, if_neg (fun q => hx q.1)]
    exact ⟨I, L, rfl, hs, fun _ _ _ _ => rfl, fun _ _ _ => rfl⟩
end SHF
