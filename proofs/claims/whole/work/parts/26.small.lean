/-! small questions of the class and of the reference, answered in closed form -/
theorem jtl (n : Nat) (h : (OfNat.ofNat n : Nat) < 2 ^ 31) : (OfNat.ofNat n : Int32).toInt = ((OfNat.ofNat n : Nat) : Int) := nI_toInt h
theorem jtm1 : (-1 : Int32).toInt = -1 := rfl
theorem jtm2 : (-2 : Int32).toInt = -2 := rfl
theorem jtm3 : (-3 : Int32).toInt = -3 := rfl
/-- a move as it must be told -/
abbrev mvI (a b c d e : Int32) : Prop := 0 ≤ a.toInt ∧ a.toInt ≤ 3 ∧ 1 ≤ b.toInt ∧ b.toInt ≤ 2 ∧ 0 ≤ c.toInt ∧ c.toInt ≤ 3 ∧ (a.toInt = 3 → c.toInt ≠ 2) ∧ 0 ≤ d.toInt ∧ d.toInt ≤ 3 ∧ 0 ≤ e.toInt ∧ e.toInt ≤ 9
abbrev srI (a b c : Int32) : Prop := 0 ≤ a.toInt ∧ a.toInt ≤ 3 ∧ 1 ≤ b.toInt ∧ b.toInt ≤ 2 ∧ 0 ≤ c.toInt ∧ c.toInt ≤ 3 ∧ (a.toInt = 3 → c.toInt ≠ 2)
abbrev frI (a c : Int32) : Prop := 0 ≤ c.toInt ∧ (c.toInt = 3 ∨ c.toInt < 2 ∨ a.toInt ≠ 3 ∧ c.toInt = 2)
section SML
variable {d : Nat} {I : Nat → Nat → Int32} {L : Nat → Nat → Int64} {c e : Nat} {x y z u v : Int32}
theorem q_141 : jev d 141 [.int x] (jmk I L c e) = some (some (.int (if jin x 54 then 1 else 0)), jmk I L c e) := by
  simp only [jb_141_0, Bool.cond_decide]
  simp only [jlt_iff, jle_iff, jeq_iff, Int32.reduceToInt]
  repeat' split
  all_goals first | rfl | (exfalso; omega)
theorem q_142 : jev d 142 [.int x] (jmk I L c e) = some (some (.int (if jin x 56 then 1 else 0)), jmk I L c e) := by
  simp only [jb_142_0, Bool.cond_decide]
  simp only [jlt_iff, jle_iff, jeq_iff, Int32.reduceToInt]
  repeat' split
  all_goals first | rfl | (exfalso; omega)
theorem q_148 : jev d 148 [.int x, .int y] (jmk I L c e) = some (some (.int (if frI x y then 1 else 0)), jmk I L c e) := by
  simp only [jb_148_0, jb_148_15, Bool.cond_decide]
  simp only [jlt_iff, jle_iff, jeq_iff, Int32.reduceToInt]
  repeat' split
  all_goals first | rfl | (exfalso; omega)
theorem q_149 : jev d 149 [.int x, .int y, .int z, .int u, .int v] (jmk I L c e) = some (some (.int (if mvI x y z u v then 1 else 0)), jmk I L c e) := by
  simp only [jb_149_0, jb_149_24, q_148, Option.bind_some, jps, Bool.cond_decide, j01]
  simp only [jlt_iff, jle_iff, jeq_iff, Int32.reduceToInt]
  repeat' split
  all_goals first | rfl | (exfalso; omega)
theorem q_63 : jev d 63 [.ref 14, .int x] (jmk I L c e) = some (some (.int (if 0 ≤ x.toInt ∧ x.toInt < (I 14 4).toInt then 1 else 0)), jmk I L c e) := by
  simp only [jb_63_0, Bool.cond_decide]
  simp only [jlt_iff, jle_iff, jeq_iff, Int32.reduceToInt]
  repeat' split
  all_goals first | rfl | (exfalso; omega)
theorem q_57i : jev d 57 [.ref 7, .int x] (jmk I L c e) = some (some (.int (if 0 ≤ x.toInt ∧ x.toInt < (I 7 6).toInt then 1 else 0)), jmk I L c e) := by
  simp only [jb_57_0, Bool.cond_decide]
  simp only [jlt_iff, jle_iff, jeq_iff, Int32.reduceToInt]
  repeat' split
  all_goals first | rfl | (exfalso; omega)
theorem q_13 : jev d 13 [.ref 29, .int x] (jmk I L c e) = some (some (.int (if 0 ≤ x.toInt ∧ x.toInt < (I 29 3).toInt then 1 else 0)), jmk I L c e) := by
  simp only [jb_13_0, Bool.cond_decide]
  simp only [jlt_iff, jle_iff, jeq_iff, Int32.reduceToInt]
  repeat' split
  all_goals first | rfl | (exfalso; omega)
theorem q_11 : jev d 11 [.int x] (jmk I L c e) = some (some (.int (if jin x 8 then 1 else 0)), jmk I L c e) := by
  simp only [jb_11_0, Bool.cond_decide]
  simp only [jlt_iff, jle_iff, jeq_iff, Int32.reduceToInt]
  repeat' split
  all_goals first | rfl | (exfalso; omega)
theorem q_68 : jev d 68 [.ref 19, .int x] (jmk I L c e) = some (some (.int (if jin x 6 then 1 else 0)), jmk I L c e) := by
  simp only [jb_68_0, Bool.cond_decide]
  simp only [jlt_iff, jle_iff, jeq_iff, Int32.reduceToInt]
  repeat' split
  all_goals first | rfl | (exfalso; omega)
theorem q_69 : jev d 69 [.ref 19, .int x] (jmk I L c e) = some (some (.int (if jin x 6 ∧ I 28 x.toNatClampNeg = -2 then 1 else 0)), jmk I L c e) := by
  simp only [jb_69_0, jb_69_5, q_68, Option.bind_some, jps, Bool.cond_decide, j01]
  simp only [jlt_iff, jle_iff, jeq_iff, Int32.reduceToInt]
  repeat' split
  all_goals first | rfl | (exfalso; omega)
theorem q_70 : jev d 70 [.ref 19, .int x] (jmk I L c e) = some (some (.int (if jin x 6 ∧ I 28 x.toNatClampNeg = -1 then 1 else 0)), jmk I L c e) := by
  simp only [jb_70_0, jb_70_5, q_68, Option.bind_some, jps, Bool.cond_decide, j01]
  simp only [jlt_iff, jle_iff, jeq_iff, Int32.reduceToInt]
  repeat' split
  all_goals first | rfl | (exfalso; omega)
theorem q_71 : jev d 71 [.ref 19, .int x] (jmk I L c e) = some (some (.int (if jin x 6 ∧ I 28 x.toNatClampNeg = 0 then 1 else 0)), jmk I L c e) := by
  simp only [jb_71_0, jb_71_5, q_68, Option.bind_some, jps, Bool.cond_decide, j01]
  simp only [jlt_iff, jle_iff, jeq_iff, Int32.reduceToInt]
  repeat' split
  all_goals first | rfl | (exfalso; omega)
theorem q_163 : jev d 163 [.int x, .int y, .int z] (jmk I L c e) = some (some (.int (if y.toInt ≤ x.toInt ∧ x.toInt ≤ z.toInt then 1 else 0)), jmk I L c e) := by
  simp only [jb_163_0, Bool.cond_decide]
  simp only [jlt_iff, jle_iff, jeq_iff, Int32.reduceToInt]
  repeat' split
  all_goals first | rfl | (exfalso; omega)
theorem q_167 : jev d 167 [.int x] (jmk I L c e) = some (some (.int (if jin x 54 then 1 else 0)), jmk I L c e) := by
  simp only [jb_167_0, jb_167_7, q_163, Option.bind_some, jps, Bool.cond_decide, j01, j01b, ite_true]
  simp only [jlt_iff, jle_iff, jeq_iff, Int32.reduceToInt, decide_true, cond_true]
  repeat' split
  all_goals first | rfl | (exfalso; omega)
theorem q_169 : jev d 169 [.int x] (jmk I L c e) = some (some (.int (if jin x 6 then 1 else 0)), jmk I L c e) := by
  simp only [jb_169_0, jb_169_6, q_163, Option.bind_some, jps, Bool.cond_decide, j01, j01b, ite_true]
  simp only [jlt_iff, jle_iff, jeq_iff, Int32.reduceToInt]
  repeat' split
  all_goals first | rfl | (exfalso; omega)
theorem q_173 : jev d 173 [.int x, .int y, .int z] (jmk I L c e) = some (some (.int (if srI x y z then 1 else 0)), jmk I L c e) := by
  simp only [jb_173_0, jb_173_6, jb_173_15, jb_173_24, q_163, Option.bind_some, jps, Bool.cond_decide, j01, j01b, ite_true]
  simp only [jlt_iff, jle_iff, jeq_iff, Int32.reduceToInt]
  repeat' split
  all_goals first | rfl | (exfalso; omega)
theorem q_170 : jev d 170 [.int x] (jmk I L c e) = some (some (.int (if x.toInt < 18 then 1 else 0)), jmk I L c e) := by
  simp only [jb_170_0, Bool.cond_decide]
  simp only [jlt_iff, jle_iff, jeq_iff, Int32.reduceToInt]
  repeat' split
  all_goals first | rfl | (exfalso; omega)
end SML
