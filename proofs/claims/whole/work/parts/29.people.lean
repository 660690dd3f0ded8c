/-! people: deft, knows, learns; how often -/
def peOk (m : Nat) (pe : Nat → Nat × Nat × Nat) (D : Nat → Int32) : Prop := m ≤ 6 ∧ (∀ i, i < m → (pe i).1 ≤ 9 ∧ (pe i).2.1 < 4096 ∧ 1 ≤ (pe i).2.2 ∧ (pe i).2.2 ≤ 9) ∧ (∀ i, m ≤ i → (pe i).2.1 = 0) ∧ ∀ j, 12 * m ≤ j → D j = 0
def peC (m : Nat) (pe : Nat → Nat × Nat × Nat) (D : Nat → Int32) (I : Nat → Nat → Int32) : Prop := I 14 4 = nI m ∧ (∀ i, i < m → I 15 i = nI (pe i).1 ∧ I 17 i = nI (pe i).2.2) ∧ (∀ i, i < 6 → I 16 i = nI (pe i).2.1) ∧ ∀ j, j < 72 → I 18 j = D j
def peM (m : Nat) (pe : Nat → Nat × Nat × Nat) (D : Nat → Int32) (I : Nat → Nat → Int32) : Prop := I 58 6 = nI m ∧ (∀ i, i < m → I 64 i = nI (pe i).1 ∧ I 66 i = nI (pe i).2.2) ∧ (∀ i, i < 6 → I 65 i = nI (pe i).2.1) ∧ ∀ j, j < 72 → I 67 j = D j
def pup (pe : Nat → Nat × Nat × Nat) (m : Nat) (x : Nat × Nat × Nat) : Nat → Nat × Nat × Nat := fun i => if i = m then x else pe i
/-- person, by its arguments -/
def opPerson (m : Nat) (pe : Nat → Nat × Nat × Nat) (x y : Int32) : Int32 × Nat × (Nat → Nat × Nat × Nat) := if 0 ≤ x.toInt ∧ x.toInt ≤ 9 ∧ 1 ≤ y.toInt ∧ y.toInt ≤ 9 then (if m = 6 then (-3, m, pe) else (nI m, m + 1, pup pe m (x.toInt.toNat, 0, y.toInt.toNat))) else (-1, m, pe)
section PPL
variable {d : Nat} {I : Nat → Nat → Int32} {L : Nat → Nat → Int64} {c e : Nat} {x y z u w : Int32} {n m : Nat} {v : Nat → aMv} {pe : Nat → Nat × Nat × Nat} {D : Nat → Int32}
theorem opPerson_ok (h : peOk m pe D) : peOk (opPerson m pe x y).2.1 (opPerson m pe x y).2.2 D := by
  unfold opPerson
  obtain ⟨h1, h2, h3, h4⟩ := id h
  split
  · split
    · exact h
    · rename_i hx hm
      refine ⟨by show m + 1 ≤ 6; omega, fun i hi => ?_, fun i hi => ?_, fun j hj => h4 j (by have hj : 12 * (m + 1) ≤ j := hj; omega)⟩
      · have hi : i < m + 1 := hi
        simp only [pup]
        by_cases q : i = m
        · rw [if_pos q]; simp only; omega
        · rw [if_neg q]; exact h2 i (by omega)
      · have hi : m + 1 ≤ i := hi
        simp only [pup]
        rw [if_neg (by omega)]
        exact h3 i (by omega)
  · exact h
/-- does the number fit (class) -/
abbrev fitI (n : Nat) (v : Nat → aMv) (x y z : Int32) : Prop := if y.toInt = 0 then jin x n ∧ 0 ≤ z.toInt ∧ z.toInt ≤ 3 ∧ ((v x.toNatClampNeg).1 = 3 → z.toInt ≠ 2) else if y.toInt = 1 then 0 ≤ z.toInt ∧ z.toInt ≤ 3 else if y.toInt = 4 then 0 ≤ z.toInt ∧ z.toInt < 4096 else if y.toInt = 5 then 1 ≤ z.toInt ∧ z.toInt ≤ 9 else 0 ≤ z.toInt ∧ z.toInt ≤ 9
theorem q_159_3 : jev d 159 [.ref 0, .int x, .int 3, .int z] (jmk I L c e) = some (some (.int (if 0 ≤ z.toInt ∧ z.toInt ≤ 9 then 1 else 0)), jmk I L c e) := by
  rw [jb_159_0, jb_159_1]
  show jat d 159 122 _ _ _ = _
  rw [jb_159_122]
  simp only [Bool.cond_decide]
  simp only [jlt_iff, jle_iff, jeq_iff, Int32.reduceToInt]
  repeat' split
  all_goals first | rfl | (exfalso; omega)
theorem q_159_2 : jev d 159 [.ref 0, .int x, .int 2, .int z] (jmk I L c e) = some (some (.int (if 0 ≤ z.toInt ∧ z.toInt ≤ 9 then 1 else 0)), jmk I L c e) := by
  rw [jb_159_0, jb_159_1]
  show jat d 159 122 _ _ _ = _
  rw [jb_159_122]
  simp only [Bool.cond_decide]
  simp only [jlt_iff, jle_iff, jeq_iff, Int32.reduceToInt]
  repeat' split
  all_goals first | rfl | (exfalso; omega)
theorem q_159_5 : jev d 159 [.ref 0, .int x, .int 5, .int z] (jmk I L c e) = some (some (.int (if 1 ≤ z.toInt ∧ z.toInt ≤ 9 then 1 else 0)), jmk I L c e) := by
  rw [jb_159_0, jb_159_1]
  show jat d 159 105 _ _ _ = _
  rw [jb_159_105]
  simp only [Bool.cond_decide]
  simp only [jlt_iff, jle_iff, jeq_iff, Int32.reduceToInt]
  repeat' split
  all_goals first | rfl | (exfalso; omega)
theorem q_159_4 : jev d 159 [.ref 0, .int x, .int 4, .int z] (jmk I L c e) = some (some (.int (if 0 ≤ z.toInt ∧ z.toInt < 4096 then 1 else 0)), jmk I L c e) := by
  rw [jb_159_0, jb_159_1]
  show jat d 159 88 _ _ _ = _
  rw [jb_159_88]
  simp only [Bool.cond_decide]
  simp only [jlt_iff, jle_iff, jeq_iff, Int32.reduceToInt]
  repeat' split
  all_goals first | rfl | (exfalso; omega)
theorem q_159_1 : jev d 159 [.ref 0, .int x, .int 1, .int z] (jmk I L c e) = some (some (.int (if 0 ≤ z.toInt ∧ z.toInt ≤ 3 then 1 else 0)), jmk I L c e) := by
  rw [jb_159_0, jb_159_1]
  show jat d 159 73 _ _ _ = _
  rw [jb_159_73]
  simp only [Bool.cond_decide]
  simp only [jlt_iff, jle_iff, jeq_iff, Int32.reduceToInt]
  repeat' split
  all_goals first | rfl | (exfalso; omega)
theorem q_159_0 (h : kitC0 n v I) : jev d 159 [.ref 0, .int x, .int 0, .int z] (jmk I L c e) = some (some (.int (if jin x n ∧ 0 ≤ z.toInt ∧ z.toInt ≤ 3 ∧ ((v x.toNatClampNeg).1 = 3 → z.toInt ≠ 2) then 1 else 0)), jmk I L c e) := by
  rw [jb_159_0, jb_159_1]
  show jat d 159 40 _ _ _ = _
  rw [jb_159_40, q_57j h.1 h.2.1]
  simp only [Option.bind_some, jps]
  rw [jb_159_48]
  simp only [Bool.cond_decide, j01]
  by_cases hx : jin x n
  · rw [if_neg (fun q => q hx)]
    have hn := h.1
    obtain ⟨i, hi, rfl⟩ := (jin_iff (by omega)).mp hx
    rw [if_pos (jin_nI (by omega) (by omega)), jcl' (by omega)]
    obtain ⟨hok, h8, -⟩ := h.2.2 i hi
    have hw := hok.1
    rw [h8, q_148]
    simp only [Option.bind_some, jps]
    rw [jb_159_64]
    simp only [Bool.cond_decide, j01]
    have e3 : (nI (v i).1).toInt = 3 ↔ (v i).1 = 3 := by rw [nI_toInt (by omega)]; omega
    unfold frI
    simp only [ne_eq, e3]
    repeat' split
    all_goals first | rfl | (exfalso; omega)
  · rw [if_pos hx, if_neg (fun q => hx q.1)]
theorem q_64 (hm : m < 6) (h : I 14 4 = nI m) : jev d 64 [.ref 14, .int x, .int y] (jmk I L c e) = some (some (.int (nI m)), jmk (ju (ju (ju I 15 m x) 17 m y) 14 4 (nI (m + 1))) L c e) := by
  rw [jb_64_0, h]
  have e1 : nI m + 1 - 1 = nI m := by
    rw [← Int32.toInt_inj, Int32.toInt_sub, nI_1, nI_toInt (by omega), nI_toInt (by omega)]
    show Int.bmod (((m + 1 : Nat) : Int) - 1) _ = _
    rw [Int.bmod_eq_of_le (by omega) (by omega)]
    omega
  rw [e1, decide_eq_true (show nI m < 6 from nI_lt hm (by decide)), jdI hm, jcl' (by omega), nI_1]
  rfl
theorem c_person (hok : peOk m pe D) (h : peC m pe D I) : ∃ I', jev d 98 [.ref 0, .int x, .int y] (jmk I L c e) = some (some (.int (opPerson m pe x y).1), jmk I' L c e) ∧ peC (opPerson m pe x y).2.1 (opPerson m pe x y).2.2 D I' ∧ ∀ q j, ¬ (q = 14 ∧ j = 4) → q ≠ 15 → q ≠ 17 → I' q j = I q j := by
  obtain ⟨o1, o2, o3, o4⟩ := hok
  obtain ⟨h1, h2, h3, h4⟩ := id h
  unfold opPerson
  rw [jb_98_0, q_159_3]
  simp only [Option.bind_some, jps]
  rw [jb_98_7, q_159_5]
  simp only [Option.bind_some, jps, Bool.cond_decide, j01]
  rw [jb_98_17]
  simp only [Bool.cond_decide, j01]
  by_cases hx : 0 ≤ x.toInt ∧ x.toInt ≤ 9
  · rw [if_neg (fun q => q hx)]
    by_cases hy : 1 ≤ y.toInt ∧ y.toInt ≤ 9
    · rw [if_pos (fun q => q hy), if_pos ⟨hx.1, hx.2, hy.1, hy.2⟩]
      by_cases h6 : m = 6
      · rw [if_pos h6]
        refine ⟨I, ?_, h, fun _ _ _ _ _ => rfl⟩
        rw [jb_64_0, h1, h6]
        exact jb_98_31 ..
      · rw [if_neg h6]
        have hm : m < 6 := by omega
        refine ⟨ju (ju (ju I 15 m x) 17 m y) 14 4 (nI (m + 1)), ?_, ⟨rfl, fun i hi => ?_, fun i hi => ?_, fun j hj => ?_⟩, fun q j a1 a2 a3 => ?_⟩
        · rw [q_64 hm h1]
          exact jb_98_31 ..
        · have hi : i < m + 1 := hi
          simp only [ju_get, pup]
          by_cases q : i = m
          · subst q
            simp
            exact ⟨jnat (by omega), jnat (by omega)⟩
          · simpa [q] using h2 i (by omega)
        · simp only [ju_get, pup]
          by_cases q : i = m
          · subst q
            simpa [o3 i (Nat.le_refl i)] using h3 i hi
          · simpa [q] using h3 i hi
        · simpa [ju_get] using h4 j hj
        · simp only [ju_get]
          rw [if_neg a1]
          simp [a2, a3]
    · rw [if_neg (fun q => q hy), if_neg (fun q => hy ⟨q.2.2.1, q.2.2.2⟩)]
      exact ⟨I, rfl, h, fun _ _ _ _ _ => rfl⟩
  · rw [if_pos hx, if_neg (fun q => hx ⟨q.1, q.2.1⟩)]
    exact ⟨I, rfl, h, fun _ _ _ _ _ => rfl⟩
/-- a new row of the reference's, bare as far as k -/
def peI (I : Nat → Nat → Int32) (m k : Nat) : Nat → Nat → Int32 := fun q j => if q = 67 ∧ 12 * m ≤ j ∧ j < 12 * m + k then 0 else I q j
theorem m_person (hok : peOk m pe D) (h : peM m pe D I) : ∃ I', jev d 177 [.ref 58, .int x, .int y] (jmk I L c e) = some (some (.int (opPerson m pe x y).1), jmk I' L c e) ∧ peM (opPerson m pe x y).2.1 (opPerson m pe x y).2.2 D I' ∧ ∀ q j, ¬ (q = 58 ∧ j = 6) → (q < 64 ∨ 67 < q) → I' q j = I q j := by
  obtain ⟨o1, o2, o3, o4⟩ := hok
  obtain ⟨h1, h2, h3, h4⟩ := id h
  unfold opPerson
  rw [jb_177_0, q_163]
  simp only [Option.bind_some, jps]
  rw [jb_177_7, q_163]
  simp only [Option.bind_some, jps, Bool.cond_decide, j01]
  rw [jb_177_17]
  simp only [Bool.cond_decide, j01, Int32.reduceToInt]
  by_cases hx : 0 ≤ x.toInt ∧ x.toInt ≤ 9
  · rw [if_neg (fun q => q hx)]
    by_cases hy : 1 ≤ y.toInt ∧ y.toInt ≤ 9
    · have hyy : ¬¬(1 ≤ y.toInt ∧ y.toInt ≤ 9) := fun q => q hy
      have hxy : 0 ≤ x.toInt ∧ x.toInt ≤ 9 ∧ 1 ≤ y.toInt ∧ y.toInt ≤ 9 := ⟨hx.1, hx.2, hy.1, hy.2⟩
      rw [if_pos hyy, if_pos hxy]
      by_cases h6 : m = 6
      · rw [if_pos h6, h1, h6]
        refine ⟨I, ?_, by rw [h6] at h; exact h, fun _ _ _ _ => rfl⟩
        rfl
      · rw [if_neg h6]
        have hm : m < 6 := by omega
        have e6 : ¬ (nI m = 6) := by rw [jI_lit, nI_eq (by omega) (by decide)]; exact h6
        rw [h1, if_pos e6, if_pos (jin_nI hm (by decide)), if_pos (jin_nI hm (by decide)), if_pos (jin_nI hm (by decide)), jcl' (by omega)]
        have key : jat d 177 66 [.ref 58, .int x, .int y, .int (nI 0)] [] (jmk (peI (ju (ju (ju I 64 m x) 66 m y) 65 m 0) m 0) L c e) = jat d 177 66 [.ref 58, .int x, .int y, .int (nI 12)] [] (jmk (peI (ju (ju (ju I 64 m x) 66 m y) 65 m 0) m 12) L c e) := jloop (N := 12) (fun k => jat d 177 66 [.ref 58, .int x, .int y, .int (nI k)] [] (jmk (peI (ju (ju (ju I 64 m x) 66 m y) 65 m 0) m k) L c e)) (fun k hk => by
          have e1 : peI (ju (ju (ju I 64 m x) 66 m y) 65 m 0) m k 58 6 = nI m := h1
          show jat d 177 66 [.ref 58, .int x, .int y, .int (nI k)] [] (jmk (peI (ju (ju (ju I 64 m x) 66 m y) 65 m 0) m k) L c e) = jat d 177 66 [.ref 58, .int x, .int y, .int (nI (k + 1))] [] (jmk (peI (ju (ju (ju I 64 m x) 66 m y) 65 m 0) m (k + 1)) L c e)
          rw [jb_177_66, e1]
          rw [decide_eq_false (by rw [jI_lit, nI_leI (by omega) (by omega)]; omega), cond_false]
          have e2 : 12 * nI m + nI k = nI (12 * m + k) := by rw [jI_lit, pk_mul, nI_add]
          rw [e2, jdI (by omega), cond_true, jcl' (by omega), nI_1]
          congr 2
          funext q j
          unfold ju peI
          by_cases hq : q = 67
          · subst hq
            by_cases hj : j = 12 * m + k
            · subst hj
              rw [if_pos ⟨rfl, rfl⟩, if_pos ⟨rfl, by omega, by omega⟩]
            · rw [if_neg (fun q => hj q.2)]
              by_cases hr : 12 * m ≤ j ∧ j < 12 * m + k
              · rw [if_pos ⟨rfl, hr⟩, if_pos ⟨rfl, by omega⟩]
              · rw [if_neg (fun q => hr q.2), if_neg (fun q => hr ⟨q.2.1, by omega⟩)]
          · rw [if_neg (fun h => hq h.1), if_neg (fun h => hq h.1), if_neg (fun h => hq h.1)])
        have e0 : peI (ju (ju (ju I 64 m x) 66 m y) 65 m 0) m 0 = ju (ju (ju I 64 m x) 66 m y) 65 m 0 := by
          funext q j
          unfold peI
          rw [if_neg (by omega)]
        rw [e0] at key
        refine ⟨ju (peI (ju (ju (ju I 64 m x) 66 m y) 65 m 0) m 12) 58 6 (nI (m + 1)), ?_, ⟨rfl, fun i hi => ?_, fun i hi => ?_, fun j hj => ?_⟩, fun q j a1 a2 => ?_⟩
        · show jat d 177 66 [.ref 58, .int x, .int y, .int (nI 0)] [] (jmk (ju (ju (ju I 64 m x) 66 m y) 65 m 0) L c e) = _
          rw [key, jb_177_66]
          have e1 : peI (ju (ju (ju I 64 m x) 66 m y) 65 m 0) m 12 58 6 = nI m := h1
          rw [e1, nI_1]
          rfl
        · have hi : i < m + 1 := hi
          simp only [ju_get, pup, peI]
          by_cases q : i = m
          · subst q
            simp
            exact ⟨jnat (by omega), jnat (by omega)⟩
          · simpa [q] using h2 i (by omega)
        · simp only [ju_get, pup, peI]
          by_cases q : i = m
          · subst q
            simp
            rfl
          · simpa [q] using h3 i hi
        · simp only [ju_get, peI]
          rw [if_neg (by omega)]
          by_cases q : 12 * m ≤ j ∧ j < 12 * m + 12
          · rw [if_pos ⟨trivial, q⟩, o4 j q.1]
          · rw [if_neg (fun k => q k.2)]
            simpa using h4 j hj
        · simp only [ju_get, peI]
          rw [if_neg a1, if_neg (by omega)]
          simp [show q ≠ 64 by omega, show q ≠ 65 by omega, show q ≠ 66 by omega]
    · rw [if_neg (fun q => q hy), if_neg (fun q => hy ⟨q.2.2.1, q.2.2.2⟩)]
      exact ⟨I, rfl, h, fun _ _ _ _ => rfl⟩
  · rw [if_pos hx, if_neg (fun q => hx ⟨q.1, q.2.1⟩)]
    exact ⟨I, rfl, h, fun _ _ _ _ => rfl⟩
end PPL
