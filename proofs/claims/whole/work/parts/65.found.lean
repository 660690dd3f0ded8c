/-! found: judge, ends -/
def barI (u : aSh) : Int32 := if u.1 = 0 then -11 else if u.1 = 2 then 0 else -12
def fdI (sh : Nat → aSh) (x y : Int32) : Int32 := if jin x 6 ∧ jin y 54 then barI (sh x.toNatClampNeg) else -1
/-- which move of a row isn't made, where the chair is then -/
def wlk (n : Nat) (v : Nat → aMv) (r : Nat → Int64) : Nat → Nat → Nat → Option Nat × Nat
  | 0, _, s => (none, s)
  | f + 1, i, s => if jin (r i).toInt32 n then (match ld (v (r i).toInt32.toNatClampNeg) s with
    | some t => wlk n v r f (i + 1) t
    | none => (some i, s)) else (some i, s)
def wlkS (n : Nat) (v : Nat → aMv) (sh : Nat → aSh) (ro : Nat → Nat → Int64) (i s : Nat) : Option Nat × Nat := wlk n v (ro i) (sh i).2 0 s
def opJudge (n : Nat) (v : Nat → aMv) (sh : Nat → aSh) (ro : Nat → Nat → Int64) (x y : Int32) : Int32 := if fdI sh x y = 0 then oI (wlkS n v sh ro x.toNatClampNeg y.toNatClampNeg).1 else fdI sh x y
def opEnds (n : Nat) (v : Nat → aMv) (sh : Nat → aSh) (ro : Nat → Nat → Int64) (x y : Int32) : Int32 := if fdI sh x y = 0 then nI (wlkS n v sh ro x.toNatClampNeg y.toNatClampNeg).2 else fdI sh x y
section FND
variable {d : Nat} {I I' : Nat → Nat → Int32} {L : Nat → Nat → Int64} {c e : Nat} {x y z : Int32} {b n m w s i k o t : Nat} {v : Nat → aMv} {sh : Nat → aSh} {ro : Nat → Nat → Int64}
theorem bar_0 {u : aSh} : (barI u = 0 ↔ u.1 = 2) ∧ (decide (0 ≤ barI u) = decide (barI u = 0)) := by
  unfold barI
  by_cases h0 : u.1 = 0
  · rw [if_pos h0, h0]
    decide
  · rw [if_neg h0]
    by_cases h2 : u.1 = 2
    · rw [if_pos h2, h2]
      decide
    · rw [if_neg h2]
      exact ⟨⟨fun q => absurd q (by decide), fun q => absurd q h2⟩, by decide⟩
theorem fd_0 (h : fdI sh x y = 0) : ∃ i s, i < 6 ∧ s < 54 ∧ x = nI i ∧ y = nI s ∧ (sh i).1 = 2 := by
  unfold fdI at h
  by_cases hxy : jin x 6 ∧ jin y 54
  · obtain ⟨i, hi, rfl⟩ := (jin_iff (by omega)).mp hxy.1
    obtain ⟨s, hs, rfl⟩ := (jin_iff (by omega)).mp hxy.2
    rw [if_pos hxy, jcl' (by omega)] at h
    exact ⟨i, s, hi, hs, rfl, rfl, bar_0.1.mp h⟩
  · rw [if_neg hxy] at h
    exact absurd h (by decide)
theorem q_72 (hs : shC sh ro I L) (ho : shOk b sh) (hi : i < 6) : jev d 72 [.ref 19, .int (nI i)] (jmk I L c e) = some (some (.int (barI (sh i))), jmk I L c e) := by
  obtain ⟨g1, g2, g3⟩ := hs i hi
  obtain ⟨k1, k2, k3⟩ := ho.2 i hi
  have hj : jin (nI i) 6 := jin_nI hi (by decide)
  have a0 : (jin (nI i) 6 ∧ (sh i).1 = 0) ↔ (sh i).1 = 0 := ⟨fun q => q.2, fun q => ⟨hj, q⟩⟩
  have a2 : (jin (nI i) 6 ∧ (sh i).1 = 2) ↔ (sh i).1 = 2 := ⟨fun q => q.2, fun q => ⟨hj, q⟩⟩
  have c1 : (nI i).toNatClampNeg = i := jcl' (by omega)
  rw [jb_72_0, q_69]
  simp only [Option.bind_some, jps]
  rw [jb_72_5, q_71]
  simp only [Option.bind_some, jps]
  rw [jb_72_16]
  simp only [Bool.cond_decide, j01, Decidable.not_not, c1, g1, soC_0 k1, soC_b k1, a0, a2]
  unfold barI
  by_cases h0 : (sh i).1 = 0
  · rw [if_pos h0, if_neg (fun q => q h0)]
  · rw [if_neg h0, if_pos h0]
    by_cases h2 : (sh i).1 = 2
    · rw [if_pos h2, if_neg (fun q => q h2)]
    · rw [if_neg h2, if_pos h2]
theorem q_223 (hs : shM sh ro I L) (ho : shOk b sh) (hi : i < 6) : jev d 223 [.ref 58, .int (nI i)] (jmk I L c e) = some (some (.int (barI (sh i))), jmk I L c e) := by
  obtain ⟨g1, g2⟩ := hs i hi
  obtain ⟨k1, k2, k3⟩ := ho.2 i hi
  have k0 := ho.1
  have z1 := (soM_0 k1 (fun h => by have := k2 h; omega)).1
  have z2 := soM_b k1 (fun h => by have := k2 h; omega)
  rw [jb_223_0, jdI hi, cond_true, cond_true, jcl' (by omega), g1]
  simp only [Bool.cond_decide, z1, z2]
  unfold barI
  by_cases h0 : (sh i).1 = 0
  · rw [if_pos h0, if_neg (fun q => q h0)]
  · rw [if_neg h0, if_pos h0]
    by_cases h2 : (sh i).1 = 2
    · rw [if_pos h2, if_pos h2]
    · rw [if_neg h2, if_neg h2]
theorem q_156 (hs : shC sh ro I L) (ho : shOk b sh) : jev d 156 [.ref 0, .int x, .int y] (jmk I L c e) = some (some (.int (fdI sh x y)), jmk I L c e) := by
  unfold fdI
  simp only [jb_156_0, q_68, Option.bind_some, jps, jb_156_8, q_141, jb_156_15, Bool.cond_decide, j01]
  by_cases hx : jin x 6
  · rw [if_neg (fun q => q hx)]
    by_cases hy : jin y 54
    · have hxy : jin x 6 ∧ jin y 54 := ⟨hx, hy⟩
      have hyy : ¬¬ jin y 54 := fun q => q hy
      rw [if_neg hyy, if_pos hxy]
      obtain ⟨i, hi, rfl⟩ := (jin_iff (by omega)).mp hx
      rw [q_72 hs ho hi, jcl' (by omega)]
      simp only [Option.bind_some, jps]
      rw [jb_156_26]
    · have hno : ¬ (jin x 6 ∧ jin y 54) := fun q => hy q.2
      rw [if_pos hy, if_neg hno]
  · have hno : ¬ (jin x 6 ∧ jin y 54) := fun q => hx q.1
    rw [if_pos hx, if_neg hno]
theorem q_31l (hk : kitC n v I) (hs : shC sh ro I L) (ho : shOk b sh) (hi : i < 6) (h2 : (sh i).1 = 2) {y0 : Int32} : ∀ (f j s : Nat) (v4 : Value) (I : Nat → Nat → Int32), kitC n v I → shC sh ro I L → j + f = (sh i).2 → s < 54 → I 57 2 = nI s → ∃ I', jat d 31 21 [.ref 57, .int (nI i), .int y0, .int (nI j), v4] [] (jmk I L c e) = some (some (.int (oI (wlk n v (ro i) f j s).1)), jmk I' L c e) ∧ I' 57 2 = nI (wlk n v (ro i) f j s).2 ∧ (wlk n v (ro i) f j s).2 < 54 ∧ ∀ q t, ¬ (q = 57 ∧ t = 2) → I' q t = I q t := by
  have hl := (ho.2 i hi).2.2 (by omega)
  intro f
  induction f with
  | zero =>
    intro j s v4 I hk hs hj hs54 h57
    obtain ⟨g1, g2, g3⟩ := hs i hi
    refine ⟨I, ?_, h57, hs54, fun _ _ _ => rfl⟩
    rw [jb_31_21, jdI hi, cond_true, jcl' (by omega), g2 (by omega), decide_eq_true (by rw [nI_leI (by omega) (by omega)]; omega), cond_true]
    rfl
  | succ f ih =>
    intro j s v4 I hk hs hj hs54 h57
    obtain ⟨g1, g2, g3⟩ := hs i hi
    have hn := hk.1.1
    rw [jb_31_21, jdI hi, cond_true, jcl' (by omega), g2 (by omega), decide_eq_false (by rw [nI_leI (by omega) (by omega)]; omega), cond_false, q_77r hs ho hi (by omega) (show j < (sh i).2 by omega)]
    simp only [Option.bind_some, jps]
    rw [jb_31_47, h57, q_60 hk]
    simp only [Option.bind_some, jps]
    rw [jb_31_55]
    unfold wlk
    have hs' : jin (nI s) 54 := jin_nI hs54 (by decide)
    by_cases hw : jin (ro i j).toInt32 n
    · have hand : jin (ro i j).toInt32 n ∧ jin (nI s) 54 := ⟨hw, hs'⟩
      rw [if_pos hand, if_pos hw, jcl' (show s < 2 ^ 31 by omega)]
      obtain ⟨w, hw', e1⟩ := (jin_iff (by omega)).mp hw
      rw [e1, jcl' (show w < 2 ^ 31 by omega)]
      cases hld : ld (v w) s with
      | none => exact ⟨I, rfl, h57, hs54, fun _ _ _ => rfl⟩
      | some t =>
        have ht := ld_lt (hk.1.2.2 w hw').1 hs54 hld
        have hk2 : kitC n v (ju I 57 2 (nI t)) := kitC_fr hk (fun q j a1 a2 => by rw [ju_get, if_neg (by omega)])
        have hs2 : shC sh ro (ju I 57 2 (nI t)) L := by
          intro a ha
          rw [ju_get, if_neg (by omega), ju_get, if_neg (by omega)]
          exact hs a ha
        obtain ⟨I', r1, r2, r3, r4⟩ := ih (j + 1) t (.int (nI t)) (ju I 57 2 (nI t)) hk2 hs2 (by omega) ht ju_s
        refine ⟨I', ?_, r2, r3, fun q u a1 => (r4 q u a1).trans (by rw [ju_get, if_neg a1])⟩
        have n0 : (0 : Int32) ≤ nI t := by
          rw [jle_iff, nI_toInt (by omega)]
          simp only [Int32.reduceToInt]
          omega
        rw [show oI (some t) = nI t from rfl, decide_eq_true n0, cond_true, nI_1]
        exact r1
    · have hno : ¬ (jin (ro i j).toInt32 n ∧ jin (nI s) 54) := fun q => hw q.1
      rw [if_neg hno, if_neg hw]
      exact ⟨I, rfl, h57, hs54, fun _ _ _ => rfl⟩
theorem q_31 (hk : kitC n v I) (hs : shC sh ro I L) (ho : shOk b sh) (hi : i < 6) (h2 : (sh i).1 = 2) (hs54 : s < 54) : ∃ I', jev d 31 [.ref 57, .int (nI i), .int (nI s)] (jmk I L c e) = some (some (.int (oI (wlkS n v sh ro i s).1)), jmk I' L c e) ∧ I' 57 2 = nI (wlkS n v sh ro i s).2 ∧ (wlkS n v sh ro i s).2 < 54 ∧ ∀ q t, ¬ (q = 57 ∧ t = 2) → I' q t = I q t := by
  have hk2 : kitC n v (ju I 57 2 (nI s)) := kitC_fr hk (fun q j a1 a2 => by rw [ju_get, if_neg (by omega)])
  have hs2 : shC sh ro (ju I 57 2 (nI s)) L := by
    intro a ha
    rw [ju_get, if_neg (by omega), ju_get, if_neg (by omega)]
    exact hs a ha
  obtain ⟨I', r1, r2, r3, r4⟩ := q_31l (d := d) (c := c) (e := e) hk hs ho hi h2 (y0 := nI s) (sh i).2 0 s .null (ju I 57 2 (nI s)) hk2 hs2 (by omega) hs54 ju_s
  refine ⟨I', ?_, r2, r3, fun q u a1 => (r4 q u a1).trans (by rw [ju_get, if_neg a1])⟩
  rw [jb_31_0, q_68, if_pos (jin_nI hi (by decide))]
  simp only [Option.bind_some, jps]
  rw [jb_31_13, jt_1, cond_true]
  exact r1
theorem c_judge (hk : kitC n v I) (hs : shC sh ro I L) (ho : shOk b sh) : ∃ I', jev d 119 [.ref 0, .int x, .int y] (jmk I L c e) = some (some (.int (opJudge n v sh ro x y)), jmk I' L c e) ∧ ∀ q t, ¬ (q = 57 ∧ t = 2) → I' q t = I q t := by
  unfold opJudge
  rw [jb_119_0, q_156 hs ho]
  simp only [Option.bind_some, jps]
  rw [jb_119_6]
  by_cases h : fdI sh x y = 0
  · obtain ⟨i, s, hi, hs54, rfl, rfl, h2⟩ := fd_0 h
    obtain ⟨I', r1, r2, r3, r4⟩ := q_31 (d := d) (c := c) (e := e) hk hs ho hi h2 hs54
    rw [h, if_pos rfl, jt_4, cond_true, r1, jcl' (by omega), jcl' (by omega)]
    simp only [Option.bind_some, jps]
    rw [jb_119_24]
    exact ⟨I', rfl, r4⟩
  · rw [decide_eq_false h, cond_false, if_neg h, jb_119_24]
    exact ⟨I, rfl, fun _ _ _ => rfl⟩
theorem c_ends (hk : kitC n v I) (hs : shC sh ro I L) (ho : shOk b sh) : ∃ I', jev d 120 [.ref 0, .int x, .int y] (jmk I L c e) = some (some (.int (opEnds n v sh ro x y)), jmk I' L c e) ∧ ∀ q t, ¬ (q = 57 ∧ t = 2) → I' q t = I q t := by
  unfold opEnds
  rw [jb_120_0, q_156 hs ho]
  simp only [Option.bind_some, jps]
  rw [jb_120_6]
  by_cases h : fdI sh x y = 0
  · obtain ⟨i, s, hi, hs54, rfl, rfl, h2⟩ := fd_0 h
    obtain ⟨I', r1, r2, r3, r4⟩ := q_31 (d := d) (c := c) (e := e) hk hs ho hi h2 hs54
    rw [h, if_pos rfl, jt_4, cond_true, r1, jcl' (by omega), jcl' (by omega)]
    simp only [Option.bind_some, jps]
    rw [jb_120_22, r2]
    exact ⟨I', rfl, r4⟩
  · rw [decide_eq_false h, cond_false, if_neg h]
    exact ⟨I, rfl, fun _ _ _ => rfl⟩
/-- an element of a row, the reference -/
theorem q_224 (hs : shM sh ro I L) (ho : shOk b sh) (hi : i < 6) (h2 : 2 ≤ (sh i).1) {j : Nat} (hj : j < 60) : jev d 224 [.ref 58, .int (nI i), .int (nI j)] (jmk I L c e) = some (some (.int (ro i j).toInt32), jmk I L c e) := by
  have e1 : 60 * nI i + nI j = nI (60 * i + j) := by rw [jI_lit, pk_mul, nI_add]
  rw [jb_224_0, e1, jdI (by omega), cond_true, jcl' (by omega), ((hs i hi).2 h2).2 j hj]
theorem q_233l (ho : shOk b sh) (hi : i < 6) (h2 : (sh i).1 = 2) {y0 : Int32} : ∀ (f j s : Nat) (v4 : Value) (I : Nat → Nat → Int32), kitM n v I → shM sh ro I L → j + f = (sh i).2 → s < 54 → I 58 52 = nI s → ∃ I', jat d 233 7 [.ref 58, .int (nI i), .int y0, .int (nI j), v4] [] (jmk I L c e) = some (some (.int (oI (wlk n v (ro i) f j s).1)), jmk I' L c e) ∧ I' 58 52 = nI (wlk n v (ro i) f j s).2 ∧ ∀ q t, ¬ (q = 58 ∧ t = 52) → I' q t = I q t := by
  have hl := (ho.2 i hi).2.2 (by omega)
  intro f
  induction f with
  | zero =>
    intro j s v4 I hk hs hj hs54 h57
    obtain ⟨g1, g2⟩ := hs i hi
    refine ⟨I, ?_, h57, fun _ _ _ => rfl⟩
    rw [jb_233_7, jdI hi, cond_true, jcl' (by omega), (g2 (by omega)).1, decide_eq_true (by rw [nI_leI (by omega) (by omega)]; omega), cond_true]
    rfl
  | succ f ih =>
    intro j s v4 I hk hs hj hs54 h57
    obtain ⟨g1, g2⟩ := hs i hi
    have hn := hk.1
    rw [jb_233_7, jdI hi, cond_true, jcl' (by omega), (g2 (by omega)).1, decide_eq_false (by rw [nI_leI (by omega) (by omega)]; omega), cond_false, q_224 hs ho hi (by omega) (show j < 60 by omega)]
    simp only [Option.bind_some, jps]
    rw [jb_233_23, q_164 hk]
    simp only [Option.bind_some, jps]
    rw [jb_233_31]
    unfold wlk
    by_cases hw : jin (ro i j).toInt32 n
    · rw [if_pos hw, if_pos hw, jt_2, cond_false]
      obtain ⟨w, hw', e1⟩ := (jin_iff (by omega)).mp hw
      have hmk := (hk.2.2 w hw').1
      obtain ⟨a1, a2, a3, a4, a5, a6, a7⟩ := id hmk
      have ht := (mto_all (v w).1 (by omega) (v w).2.1 (by omega) s hs54).1
      rw [e1, jcl' (show w < 2 ^ 31 by omega), h57, q_204 hk hw' hs54]
      simp only [Option.bind_some, jps]
      rw [jb_233_44]
      unfold ld
      by_cases hm : may (v w) s
      · have hk2 : ∀ u, kitM n v (ju I 58 52 u) := fun u => kitM_fr hk (by rw [ju_get, if_neg (by omega)]) (fun q j a1 a2 => by rw [ju_get, if_neg (by omega)])
        have hs2 : ∀ u, shM sh ro (ju I 58 52 u) L := by
          intro u a ha
          rw [ju_get, if_neg (by omega), ju_get, if_neg (by omega)]
          exact hs a ha
        rw [if_pos hm, if_pos hm, jt_1, cond_true, h57, q_205 hk hw' hs54]
        simp only [Option.bind_some, jps]
        obtain ⟨I', r1, r2, r4⟩ := ih (j + 1) _ (.int (nI w)) _ (hk2 _) (hs2 _) (by omega) ht ju_s
        refine ⟨I', ?_, r2, fun q u a1 => (r4 q u a1).trans (by rw [ju_get, if_neg a1])⟩
        rw [jb_233_60, nI_1]
        exact r1
      · rw [if_neg hm, if_neg hm]
        exact ⟨I, rfl, h57, fun _ _ _ => rfl⟩
    · rw [if_neg hw, if_neg hw]
      exact ⟨I, rfl, h57, fun _ _ _ => rfl⟩
theorem q_233 (hk : kitM n v I) (hs : shM sh ro I L) (ho : shOk b sh) (hi : i < 6) (h2 : (sh i).1 = 2) (hs54 : s < 54) : ∃ I', jev d 233 [.ref 58, .int (nI i), .int (nI s)] (jmk I L c e) = some (some (.int (oI (wlkS n v sh ro i s).1)), jmk I' L c e) ∧ I' 58 52 = nI (wlkS n v sh ro i s).2 ∧ ∀ q t, ¬ (q = 58 ∧ t = 52) → I' q t = I q t := by
  have hk2 : kitM n v (ju I 58 52 (nI s)) := kitM_fr hk (by rw [ju_get, if_neg (by omega)]) (fun q j a1 a2 => by rw [ju_get, if_neg (by omega)])
  have hs2 : shM sh ro (ju I 58 52 (nI s)) L := by
    intro a ha
    rw [ju_get, if_neg (by omega), ju_get, if_neg (by omega)]
    exact hs a ha
  obtain ⟨I', r1, r2, r4⟩ := q_233l (d := d) (c := c) (e := e) ho hi h2 (y0 := nI s) (sh i).2 0 s .null (ju I 58 52 (nI s)) hk2 hs2 (by omega) hs54 ju_s
  refine ⟨I', ?_, r2, fun q u a1 => (r4 q u a1).trans (by rw [ju_get, if_neg a1])⟩
  rw [jb_233_0]
  exact r1
theorem m_judge (hk : kitM n v I) (hs : shM sh ro I L) (ho : shOk b sh) : ∃ I', jev d 234 [.ref 58, .int x, .int y] (jmk I L c e) = some (some (.int (opJudge n v sh ro x y)), jmk I' L c e) ∧ ∀ q t, ¬ (q = 58 ∧ t = 52) → I' q t = I q t := by
  unfold opJudge fdI
  rw [jb_234_0, q_169]
  simp only [Option.bind_some, jps]
  rw [jb_234_4, q_167]
  simp only [Option.bind_some, jps]
  rw [jb_234_11]
  simp only [Bool.cond_decide, j01, Decidable.not_not]
  by_cases hx : jin x 6
  · rw [if_neg (fun q => q hx)]
    by_cases hy : jin y 54
    · have hxy : jin x 6 ∧ jin y 54 := ⟨hx, hy⟩
      rw [if_pos hy, if_pos hxy]
      obtain ⟨i, hi, rfl⟩ := (jin_iff (by omega)).mp hx
      obtain ⟨s, hs54, rfl⟩ := (jin_iff (by omega)).mp hy
      rw [q_223 hs ho hi, jcl' (by omega), jcl' (by omega)]
      simp only [Option.bind_some, jps]
      rw [jb_234_21, bar_0.2]
      by_cases h : barI (sh i) = 0
      · obtain ⟨I', r1, r2, r4⟩ := q_233 (d := d) (c := c) (e := e) hk hs ho hi (bar_0.1.mp h) hs54
        rw [decide_eq_true h, cond_true, if_pos h, r1]
        simp only [Option.bind_some, jps]
        rw [jb_234_36]
        exact ⟨I', rfl, r4⟩
      · rw [decide_eq_false h, cond_false, if_neg h, jb_234_36]
        exact ⟨I, rfl, fun _ _ _ => rfl⟩
    · have hno : ¬ (jin x 6 ∧ jin y 54) := fun q => hy q.2
      rw [if_neg hy, if_neg hno, if_neg (by decide)]
      exact ⟨I, rfl, fun _ _ _ => rfl⟩
  · have hno : ¬ (jin x 6 ∧ jin y 54) := fun q => hx q.1
    rw [if_pos hx, if_neg hno, if_neg (by decide)]
    exact ⟨I, rfl, fun _ _ _ => rfl⟩
theorem m_ends (hk : kitM n v I) (hs : shM sh ro I L) (ho : shOk b sh) : ∃ I', jev d 235 [.ref 58, .int x, .int y] (jmk I L c e) = some (some (.int (opEnds n v sh ro x y)), jmk I' L c e) ∧ ∀ q t, ¬ (q = 58 ∧ t = 52) → I' q t = I q t := by
  unfold opEnds fdI
  rw [jb_235_0, q_169]
  simp only [Option.bind_some, jps]
  rw [jb_235_4, q_167]
  simp only [Option.bind_some, jps]
  rw [jb_235_11]
  simp only [Bool.cond_decide, j01, Decidable.not_not]
  by_cases hx : jin x 6
  · rw [if_neg (fun q => q hx)]
    by_cases hy : jin y 54
    · have hxy : jin x 6 ∧ jin y 54 := ⟨hx, hy⟩
      rw [if_pos hy, if_pos hxy]
      obtain ⟨i, hi, rfl⟩ := (jin_iff (by omega)).mp hx
      obtain ⟨s, hs54, rfl⟩ := (jin_iff (by omega)).mp hy
      rw [q_223 hs ho hi, jcl' (by omega), jcl' (by omega)]
      simp only [Option.bind_some, jps]
      rw [jb_235_21, bar_0.2]
      by_cases h : barI (sh i) = 0
      · obtain ⟨I', r1, r2, r4⟩ := q_233 (d := d) (c := c) (e := e) hk hs ho hi (bar_0.1.mp h) hs54
        rw [decide_eq_true h, cond_true, if_pos h, r1]
        simp only [Option.bind_some, jps]
        rw [jb_235_34, r2]
        exact ⟨I', rfl, r4⟩
      · rw [decide_eq_false h, cond_false, if_neg h]
        exact ⟨I, rfl, fun _ _ _ => rfl⟩
    · have hno : ¬ (jin x 6 ∧ jin y 54) := fun q => hy q.2
      rw [if_neg hy, if_neg hno, if_neg (by decide)]
      exact ⟨I, rfl, fun _ _ _ => rfl⟩
  · have hno : ¬ (jin x 6 ∧ jin y 54) := fun q => hx q.1
    rw [if_pos hx, if_neg hno, if_neg (by decide)]
    exact ⟨I, rfl, fun _ _ _ => rfl⟩
end FND
