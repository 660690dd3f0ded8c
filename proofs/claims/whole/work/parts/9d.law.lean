/-! the law's calls (printed by wip/whole/gen_law.py) -/
section LC
variable {d : Nat} {c e : Nat} {x3 : Int32} {I : Nat → Nat → Int32} {L : Nat → Nat → Int64}
/-- from pc the law comes to 1724, and both hold the same -/
def Gon (d : Nat) (x3 : Int32) (I : Nat → Nat → Int32) (y : Option jX) : Prop := ∃ (I' : Nat → Nat → Int32) (L' : Nat → Nat → Int64) (c' e' : Nat), y = jat d 266 1724 [.ref 1000, .ref 0, .ref 58, .int x3] [] (jmk I' L' c' e') ∧ Rel c' e' I' L' ∧ ∀ q j, 92 < q → I' q j = I q j
/-- the script has five more -/
def Fiv (x3 : Int32) (I : Nat → Nat → Int32) : Prop := decide (jin (x3 + 1) (I 1001 0).toNatClampNeg) = true ∧ decide (jin (x3 + 2) (I 1001 0).toNatClampNeg) = true ∧ decide (jin (x3 + 3) (I 1001 0).toNatClampNeg) = true ∧ decide (jin (x3 + 4) (I 1001 0).toNatClampNeg) = true ∧ decide (jin (x3 + 5) (I 1001 0).toNatClampNeg) = true
theorem lcmp_r (t : Int64) : lg_cmp t t = 0 := by
  unfold lg_cmp
  rw [if_neg (Int64.lt_irrefl), if_pos rfl]
theorem lb_move (hd : 100 ≤ d) (h : Rel c e I L) (F : Fiv x3 I) : Gon d x3 I (jat d 266 228 [.ref 1000, .ref 0, .ref 58, .int x3] [] (jmk I L c e)) := by
  obtain ⟨H1, H2, H3, H4, H5⟩ := F
  obtain ⟨r, I1, L1, I2, L2, c1, e1, ⟨x, rfl⟩, E1, E2, R, F1, F2⟩ := zq_move (x := (I 1000 (x3 + 1).toNatClampNeg)) (y := (I 1000 (x3 + 2).toNatClampNeg)) hd h
  have S0 : I1 1000 = I 1000 := funext fun j => F1 1000 j (by decide)
  have S1 : I1 1001 0 = I 1001 0 := F1 1001 0 (by decide)
  refine ⟨I2, L2, c1, e1, ?_, R, F2⟩
  rw [jb_266_228, H1, cond_true, H2, cond_true, E1]
  simp only [Option.bind_some, jps]
  rw [jb_266_242, S0, S1, H1, cond_true, H2, cond_true, E2]
  simp only [Option.bind_some, jps]
  rw [jb_266_256, decide_eq_true (rfl : x = x), cond_true]
theorem lb_moves (hd : 100 ≤ d) (h : Rel c e I L) (F : Fiv x3 I) : Gon d x3 I (jat d 266 261 [.ref 1000, .ref 0, .ref 58, .int x3] [] (jmk I L c e)) := by
  obtain ⟨H1, H2, H3, H4, H5⟩ := F
  obtain ⟨r, I1, L1, I2, L2, c1, e1, ⟨x, rfl⟩, E1, E2, R, F1, F2⟩ := zq_moves (x := (I 1000 (x3 + 1).toNatClampNeg)) (y := (I 1000 (x3 + 2).toNatClampNeg)) (z := (I 1000 (x3 + 3).toNatClampNeg)) hd h
  have S0 : I1 1000 = I 1000 := funext fun j => F1 1000 j (by decide)
  have S1 : I1 1001 0 = I 1001 0 := F1 1001 0 (by decide)
  refine ⟨I2, L2, c1, e1, ?_, R, F2⟩
  rw [jb_266_261, H1, cond_true, H2, cond_true, H3, cond_true, E1]
  simp only [Option.bind_some, jps]
  rw [jb_266_280, S0, S1, H1, cond_true, H2, cond_true, H3, cond_true, E2]
  simp only [Option.bind_some, jps]
  rw [jb_266_299, decide_eq_true (rfl : x = x), cond_true]
theorem lb_person (hd : 100 ≤ d) (h : Rel c e I L) (F : Fiv x3 I) : Gon d x3 I (jat d 266 304 [.ref 1000, .ref 0, .ref 58, .int x3] [] (jmk I L c e)) := by
  obtain ⟨H1, H2, H3, H4, H5⟩ := F
  obtain ⟨r, I1, L1, I2, L2, c1, e1, ⟨x, rfl⟩, E1, E2, R, F1, F2⟩ := zq_person (x := (I 1000 (x3 + 1).toNatClampNeg)) (y := (I 1000 (x3 + 2).toNatClampNeg)) hd h
  have S0 : I1 1000 = I 1000 := funext fun j => F1 1000 j (by decide)
  have S1 : I1 1001 0 = I 1001 0 := F1 1001 0 (by decide)
  refine ⟨I2, L2, c1, e1, ?_, R, F2⟩
  rw [jb_266_304, H1, cond_true, H2, cond_true, E1]
  simp only [Option.bind_some, jps]
  rw [jb_266_318, S0, S1, H1, cond_true, H2, cond_true, E2]
  simp only [Option.bind_some, jps]
  rw [jb_266_332, decide_eq_true (rfl : x = x), cond_true]
theorem lb_mend (hd : 100 ≤ d) (h : Rel c e I L) (F : Fiv x3 I) : Gon d x3 I (jat d 266 337 [.ref 1000, .ref 0, .ref 58, .int x3] [] (jmk I L c e)) := by
  obtain ⟨H1, H2, H3, H4, H5⟩ := F
  obtain ⟨r, I1, L1, I2, L2, c1, e1, ⟨x, rfl⟩, E1, E2, R, F1, F2⟩ := zq_mend (x := (I 1000 (x3 + 1).toNatClampNeg)) (y := (I 1000 (x3 + 2).toNatClampNeg)) (z := (I 1000 (x3 + 3).toNatClampNeg)) hd h
  have S0 : I1 1000 = I 1000 := funext fun j => F1 1000 j (by decide)
  have S1 : I1 1001 0 = I 1001 0 := F1 1001 0 (by decide)
  refine ⟨I2, L2, c1, e1, ?_, R, F2⟩
  rw [jb_266_337, H1, cond_true, H2, cond_true, H3, cond_true, E1]
  simp only [Option.bind_some, jps]
  rw [jb_266_356, S0, S1, H1, cond_true, H2, cond_true, H3, cond_true, E2]
  simp only [Option.bind_some, jps]
  rw [jb_266_375, decide_eq_true (rfl : x = x), cond_true]
theorem lb_of (hd : 100 ≤ d) (h : Rel c e I L) (F : Fiv x3 I) : Gon d x3 I (jat d 266 380 [.ref 1000, .ref 0, .ref 58, .int x3] [] (jmk I L c e)) := by
  obtain ⟨H1, H2, H3, H4, H5⟩ := F
  obtain ⟨r, I1, L1, I2, L2, c1, e1, ⟨x, rfl⟩, E1, E2, R, F1, F2⟩ := zq_of (x := (I 1000 (x3 + 1).toNatClampNeg)) (y := (I 1000 (x3 + 2).toNatClampNeg)) hd h
  have S0 : I1 1000 = I 1000 := funext fun j => F1 1000 j (by decide)
  have S1 : I1 1001 0 = I 1001 0 := F1 1001 0 (by decide)
  refine ⟨I2, L2, c1, e1, ?_, R, F2⟩
  rw [jb_266_380, H1, cond_true, H2, cond_true, E1]
  simp only [Option.bind_some, jps]
  rw [jb_266_394, S0, S1, H1, cond_true, H2, cond_true, E2]
  simp only [Option.bind_some, jps]
  rw [jb_266_408, decide_eq_true (rfl : x = x), cond_true]
theorem lb_feed (hd : 100 ≤ d) (h : Rel c e I L) (F : Fiv x3 I) : Gon d x3 I (jat d 266 413 [.ref 1000, .ref 0, .ref 58, .int x3] [] (jmk I L c e)) := by
  obtain ⟨H1, H2, H3, H4, H5⟩ := F
  obtain ⟨r, I1, L1, I2, L2, c1, e1, ⟨x, rfl⟩, E1, E2, R, F1, F2⟩ := zq_feed (x := (I 1000 (x3 + 1).toNatClampNeg)) hd h
  have S0 : I1 1000 = I 1000 := funext fun j => F1 1000 j (by decide)
  have S1 : I1 1001 0 = I 1001 0 := F1 1001 0 (by decide)
  refine ⟨I2, L2, c1, e1, ?_, R, F2⟩
  rw [jb_266_413, H1, cond_true, E1]
  simp only [Option.bind_some, jps]
  rw [jb_266_422, S0, S1, H1, cond_true, E2]
  simp only [Option.bind_some, jps]
  rw [jb_266_431, decide_eq_true (rfl : x = x), cond_true]
theorem lb_law (hd : 100 ≤ d) (h : Rel c e I L) (F : Fiv x3 I) : Gon d x3 I (jat d 266 436 [.ref 1000, .ref 0, .ref 58, .int x3] [] (jmk I L c e)) := by
  obtain ⟨r, I1, L1, I2, L2, c1, e1, ⟨x, rfl⟩, E1, E2, R, F1, F2⟩ := zq_law hd h
  refine ⟨I2, L2, c1, e1, ?_, R, F2⟩
  rw [jb_266_436, E1]
  simp only [Option.bind_some, jps]
  rw [jb_266_440, E2]
  simp only [Option.bind_some, jps]
  rw [jb_266_444, decide_eq_true (rfl : x = x), cond_true]
theorem lb_leads (hd : 100 ≤ d) (h : Rel c e I L) (F : Fiv x3 I) : Gon d x3 I (jat d 266 449 [.ref 1000, .ref 0, .ref 58, .int x3] [] (jmk I L c e)) := by
  obtain ⟨H1, H2, H3, H4, H5⟩ := F
  obtain ⟨r, I1, L1, I2, L2, c1, e1, ⟨x, rfl⟩, E1, E2, R, F1, F2⟩ := zq_leads (x := (I 1000 (x3 + 1).toNatClampNeg)) (y := (I 1000 (x3 + 2).toNatClampNeg)) hd h
  have S0 : I1 1000 = I 1000 := funext fun j => F1 1000 j (by decide)
  have S1 : I1 1001 0 = I 1001 0 := F1 1001 0 (by decide)
  refine ⟨I2, L2, c1, e1, ?_, R, F2⟩
  rw [jb_266_449, H1, cond_true, H2, cond_true, E1]
  simp only [Option.bind_some, jps]
  rw [jb_266_463, S0, S1, H1, cond_true, H2, cond_true, E2]
  simp only [Option.bind_some, jps]
  rw [jb_266_477, decide_eq_true (rfl : x = x), cond_true]
theorem lb_takes (hd : 100 ≤ d) (h : Rel c e I L) (F : Fiv x3 I) : Gon d x3 I (jat d 266 482 [.ref 1000, .ref 0, .ref 58, .int x3] [] (jmk I L c e)) := by
  obtain ⟨H1, H2, H3, H4, H5⟩ := F
  obtain ⟨r, I1, L1, I2, L2, c1, e1, ⟨x, rfl⟩, E1, E2, R, F1, F2⟩ := zq_takes (x := (I 1000 (x3 + 1).toNatClampNeg)) (y := (I 1000 (x3 + 2).toNatClampNeg)) (z := (I 1000 (x3 + 3).toNatClampNeg)) hd h
  have S0 : I1 1000 = I 1000 := funext fun j => F1 1000 j (by decide)
  have S1 : I1 1001 0 = I 1001 0 := F1 1001 0 (by decide)
  refine ⟨I2, L2, c1, e1, ?_, R, F2⟩
  rw [jb_266_482, H1, cond_true, H2, cond_true, H3, cond_true, E1]
  simp only [Option.bind_some, jps]
  rw [jb_266_501, S0, S1, H1, cond_true, H2, cond_true, H3, cond_true, E2]
  simp only [Option.bind_some, jps]
  rw [jb_266_520, decide_eq_true (rfl : x = x), cond_true]
theorem lb_way (hd : 100 ≤ d) (h : Rel c e I L) (F : Fiv x3 I) : Gon d x3 I (jat d 266 525 [.ref 1000, .ref 0, .ref 58, .int x3] [] (jmk I L c e)) := by
  obtain ⟨H1, H2, H3, H4, H5⟩ := F
  obtain ⟨r, I1, L1, I2, L2, c1, e1, ⟨x, rfl⟩, E1, E2, R, F1, F2⟩ := zq_way (x := (I 1000 (x3 + 1).toNatClampNeg)) (y := (I 1000 (x3 + 2).toNatClampNeg)) (z := (I 1000 (x3 + 3).toNatClampNeg)) hd h
  have S0 : I1 1000 = I 1000 := funext fun j => F1 1000 j (by decide)
  have S1 : I1 1001 0 = I 1001 0 := F1 1001 0 (by decide)
  refine ⟨I2, L2, c1, e1, ?_, R, F2⟩
  rw [jb_266_525, H1, cond_true, H2, cond_true, H3, cond_true, E1]
  simp only [Option.bind_some, jps]
  rw [jb_266_544, S0, S1, H1, cond_true, H2, cond_true, H3, cond_true, E2]
  simp only [Option.bind_some, jps]
  rw [jb_266_563, decide_eq_true (rfl : x = x), cond_true]
theorem lb_next (hd : 100 ≤ d) (h : Rel c e I L) (F : Fiv x3 I) : Gon d x3 I (jat d 266 568 [.ref 1000, .ref 0, .ref 58, .int x3] [] (jmk I L c e)) := by
  obtain ⟨H1, H2, H3, H4, H5⟩ := F
  obtain ⟨r, I1, L1, I2, L2, c1, e1, ⟨x, rfl⟩, E1, E2, R, F1, F2⟩ := zq_next (x := (I 1000 (x3 + 1).toNatClampNeg)) (y := (I 1000 (x3 + 2).toNatClampNeg)) hd h
  have S0 : I1 1000 = I 1000 := funext fun j => F1 1000 j (by decide)
  have S1 : I1 1001 0 = I 1001 0 := F1 1001 0 (by decide)
  refine ⟨I2, L2, c1, e1, ?_, R, F2⟩
  rw [jb_266_568, H1, cond_true, H2, cond_true, E1]
  simp only [Option.bind_some, jps]
  rw [jb_266_582, S0, S1, H1, cond_true, H2, cond_true, E2]
  simp only [Option.bind_some, jps]
  rw [jb_266_596, decide_eq_true (rfl : x = x), cond_true]
theorem lb_reach (hd : 100 ≤ d) (h : Rel c e I L) (F : Fiv x3 I) : Gon d x3 I (jat d 266 601 [.ref 1000, .ref 0, .ref 58, .int x3] [] (jmk I L c e)) := by
  obtain ⟨H1, H2, H3, H4, H5⟩ := F
  obtain ⟨r, I1, L1, I2, L2, c1, e1, ⟨x, rfl⟩, E1, E2, R, F1, F2⟩ := zq_reach (x := (I 1000 (x3 + 1).toNatClampNeg)) (y := (I 1000 (x3 + 2).toNatClampNeg)) hd h
  have S0 : I1 1000 = I 1000 := funext fun j => F1 1000 j (by decide)
  have S1 : I1 1001 0 = I 1001 0 := F1 1001 0 (by decide)
  refine ⟨I2, L2, c1, e1, ?_, R, F2⟩
  rw [jb_266_601, H1, cond_true, H2, cond_true, E1]
  simp only [Option.bind_some, jps]
  rw [jb_266_615, S0, S1, H1, cond_true, H2, cond_true, E2]
  simp only [Option.bind_some, jps]
  rw [jb_266_629, decide_eq_true (rfl : x = x), cond_true]
theorem lb_worst (hd : 100 ≤ d) (h : Rel c e I L) (F : Fiv x3 I) : Gon d x3 I (jat d 266 634 [.ref 1000, .ref 0, .ref 58, .int x3] [] (jmk I L c e)) := by
  obtain ⟨H1, H2, H3, H4, H5⟩ := F
  obtain ⟨r, I1, L1, I2, L2, c1, e1, ⟨x, rfl⟩, E1, E2, R, F1, F2⟩ := zq_worst (x := (I 1000 (x3 + 1).toNatClampNeg)) (y := (I 1000 (x3 + 2).toNatClampNeg)) hd h
  have S0 : I1 1000 = I 1000 := funext fun j => F1 1000 j (by decide)
  have S1 : I1 1001 0 = I 1001 0 := F1 1001 0 (by decide)
  refine ⟨I2, L2, c1, e1, ?_, R, F2⟩
  rw [jb_266_634, H1, cond_true, H2, cond_true, E1]
  simp only [Option.bind_some, jps]
  rw [jb_266_648, S0, S1, H1, cond_true, H2, cond_true, E2]
  simp only [Option.bind_some, jps]
  rw [jb_266_662, decide_eq_true (rfl : x = x), cond_true]
theorem lb_ways (hd : 100 ≤ d) (h : Rel c e I L) (F : Fiv x3 I) : Gon d x3 I (jat d 266 667 [.ref 1000, .ref 0, .ref 58, .int x3] [] (jmk I L c e)) := by
  obtain ⟨H1, H2, H3, H4, H5⟩ := F
  obtain ⟨r, I1, L1, I2, L2, c1, e1, ⟨x, rfl⟩, E1, E2, R, F1, F2⟩ := zq_ways (x := (I 1000 (x3 + 1).toNatClampNeg)) (y := (I 1000 (x3 + 2).toNatClampNeg)) hd h
  have S0 : I1 1000 = I 1000 := funext fun j => F1 1000 j (by decide)
  have S1 : I1 1001 0 = I 1001 0 := F1 1001 0 (by decide)
  refine ⟨I2, L2, c1, e1, ?_, R, F2⟩
  rw [jb_266_667, H1, cond_true, H2, cond_true, E1]
  simp only [Option.bind_some, jps]
  rw [jb_266_681, S0, S1, H1, cond_true, H2, cond_true, E2]
  simp only [Option.bind_some, jps]
  rw [jb_266_695, decide_eq_true (rfl : x = x), cond_true]
theorem lb_backFrom (hd : 100 ≤ d) (h : Rel c e I L) (F : Fiv x3 I) : Gon d x3 I (jat d 266 700 [.ref 1000, .ref 0, .ref 58, .int x3] [] (jmk I L c e)) := by
  obtain ⟨H1, H2, H3, H4, H5⟩ := F
  obtain ⟨r, I1, L1, I2, L2, c1, e1, ⟨x, rfl⟩, E1, E2, R, F1, F2⟩ := zq_backFrom (x := (I 1000 (x3 + 1).toNatClampNeg)) hd h
  have S0 : I1 1000 = I 1000 := funext fun j => F1 1000 j (by decide)
  have S1 : I1 1001 0 = I 1001 0 := F1 1001 0 (by decide)
  refine ⟨I2, L2, c1, e1, ?_, R, F2⟩
  rw [jb_266_700, H1, cond_true, E1]
  simp only [Option.bind_some, jps]
  rw [jb_266_709, S0, S1, H1, cond_true, E2]
  simp only [Option.bind_some, jps]
  rw [jb_266_718, decide_eq_true (rfl : x = x), cond_true]
theorem lb_needed (hd : 100 ≤ d) (h : Rel c e I L) (F : Fiv x3 I) : Gon d x3 I (jat d 266 723 [.ref 1000, .ref 0, .ref 58, .int x3] [] (jmk I L c e)) := by
  obtain ⟨H1, H2, H3, H4, H5⟩ := F
  obtain ⟨r, I1, L1, I2, L2, c1, e1, ⟨x, rfl⟩, E1, E2, R, F1, F2⟩ := zq_needed (x := (I 1000 (x3 + 1).toNatClampNeg)) hd h
  have S0 : I1 1000 = I 1000 := funext fun j => F1 1000 j (by decide)
  have S1 : I1 1001 0 = I 1001 0 := F1 1001 0 (by decide)
  refine ⟨I2, L2, c1, e1, ?_, R, F2⟩
  rw [jb_266_723, H1, cond_true, E1]
  simp only [Option.bind_some, jps]
  rw [jb_266_732, S0, S1, H1, cond_true, E2]
  simp only [Option.bind_some, jps]
  rw [jb_266_741, decide_eq_true (rfl : x = x), cond_true]
theorem lb_oneWay (hd : 100 ≤ d) (h : Rel c e I L) (F : Fiv x3 I) : Gon d x3 I (jat d 266 746 [.ref 1000, .ref 0, .ref 58, .int x3] [] (jmk I L c e)) := by
  obtain ⟨H1, H2, H3, H4, H5⟩ := F
  obtain ⟨r, I1, L1, I2, L2, c1, e1, ⟨x, rfl⟩, E1, E2, R, F1, F2⟩ := zq_oneWay (x := (I 1000 (x3 + 1).toNatClampNeg)) hd h
  have S0 : I1 1000 = I 1000 := funext fun j => F1 1000 j (by decide)
  have S1 : I1 1001 0 = I 1001 0 := F1 1001 0 (by decide)
  refine ⟨I2, L2, c1, e1, ?_, R, F2⟩
  rw [jb_266_746, H1, cond_true, E1]
  simp only [Option.bind_some, jps]
  rw [jb_266_755, S0, S1, H1, cond_true, E2]
  simp only [Option.bind_some, jps]
  rw [jb_266_764, decide_eq_true (rfl : x = x), cond_true]
theorem lb_learn (hd : 100 ≤ d) (h : Rel c e I L) (F : Fiv x3 I) : Gon d x3 I (jat d 266 769 [.ref 1000, .ref 0, .ref 58, .int x3] [] (jmk I L c e)) := by
  obtain ⟨H1, H2, H3, H4, H5⟩ := F
  obtain ⟨r, I1, L1, I2, L2, c1, e1, ⟨x, rfl⟩, E1, E2, R, F1, F2⟩ := zq_learn (x := (I 1000 (x3 + 1).toNatClampNeg)) (y := (I 1000 (x3 + 2).toNatClampNeg)) hd h
  have S0 : I1 1000 = I 1000 := funext fun j => F1 1000 j (by decide)
  have S1 : I1 1001 0 = I 1001 0 := F1 1001 0 (by decide)
  refine ⟨I2, L2, c1, e1, ?_, R, F2⟩
  rw [jb_266_769, H1, cond_true, H2, cond_true, E1]
  simp only [Option.bind_some, jps]
  rw [jb_266_783, S0, S1, H1, cond_true, H2, cond_true, E2]
  simp only [Option.bind_some, jps]
  rw [jb_266_797, decide_eq_true (rfl : x = x), cond_true]
theorem lb_show (hd : 100 ≤ d) (h : Rel c e I L) (F : Fiv x3 I) : Gon d x3 I (jat d 266 802 [.ref 1000, .ref 0, .ref 58, .int x3] [] (jmk I L c e)) := by
  obtain ⟨H1, H2, H3, H4, H5⟩ := F
  obtain ⟨r, I1, L1, I2, L2, c1, e1, ⟨x, rfl⟩, E1, E2, R, F1, F2⟩ := zq_show (x := (I 1000 (x3 + 1).toNatClampNeg)) (y := (I 1000 (x3 + 2).toNatClampNeg)) (z := (I 1000 (x3 + 3).toNatClampNeg)) hd h
  have S0 : I1 1000 = I 1000 := funext fun j => F1 1000 j (by decide)
  have S1 : I1 1001 0 = I 1001 0 := F1 1001 0 (by decide)
  refine ⟨I2, L2, c1, e1, ?_, R, F2⟩
  rw [jb_266_802, H1, cond_true, H2, cond_true, H3, cond_true, E1]
  simp only [Option.bind_some, jps]
  rw [jb_266_821, S0, S1, H1, cond_true, H2, cond_true, H3, cond_true, E2]
  simp only [Option.bind_some, jps]
  rw [jb_266_840, decide_eq_true (rfl : x = x), cond_true]
theorem lb_opens (hd : 100 ≤ d) (h : Rel c e I L) (F : Fiv x3 I) : Gon d x3 I (jat d 266 845 [.ref 1000, .ref 0, .ref 58, .int x3] [] (jmk I L c e)) := by
  obtain ⟨H1, H2, H3, H4, H5⟩ := F
  obtain ⟨r, I1, L1, I2, L2, c1, e1, ⟨x, rfl⟩, E1, E2, R, F1, F2⟩ := zq_opens (x := (I 1000 (x3 + 1).toNatClampNeg)) (y := (I 1000 (x3 + 2).toNatClampNeg)) (z := (I 1000 (x3 + 3).toNatClampNeg)) hd h
  have S0 : I1 1000 = I 1000 := funext fun j => F1 1000 j (by decide)
  have S1 : I1 1001 0 = I 1001 0 := F1 1001 0 (by decide)
  refine ⟨I2, L2, c1, e1, ?_, R, F2⟩
  rw [jb_266_845, H1, cond_true, H2, cond_true, H3, cond_true, E1]
  simp only [Option.bind_some, jps]
  rw [jb_266_864, S0, S1, H1, cond_true, H2, cond_true, H3, cond_true, E2]
  simp only [Option.bind_some, jps]
  rw [jb_266_883, decide_eq_true (rfl : x = x), cond_true]
theorem lb_best (hd : 100 ≤ d) (h : Rel c e I L) (F : Fiv x3 I) : Gon d x3 I (jat d 266 888 [.ref 1000, .ref 0, .ref 58, .int x3] [] (jmk I L c e)) := by
  obtain ⟨H1, H2, H3, H4, H5⟩ := F
  obtain ⟨r, I1, L1, I2, L2, c1, e1, ⟨x, rfl⟩, E1, E2, R, F1, F2⟩ := zq_best (x := (I 1000 (x3 + 1).toNatClampNeg)) (y := (I 1000 (x3 + 2).toNatClampNeg)) (z := (I 1000 (x3 + 3).toNatClampNeg)) hd h
  have S0 : I1 1000 = I 1000 := funext fun j => F1 1000 j (by decide)
  have S1 : I1 1001 0 = I 1001 0 := F1 1001 0 (by decide)
  refine ⟨I2, L2, c1, e1, ?_, R, F2⟩
  rw [jb_266_888, H1, cond_true, H2, cond_true, H3, cond_true, E1]
  simp only [Option.bind_some, jps]
  rw [jb_266_907, S0, S1, H1, cond_true, H2, cond_true, H3, cond_true, E2]
  simp only [Option.bind_some, jps]
  rw [jb_266_926, decide_eq_true (rfl : x = x), cond_true]
theorem lb_tide (hd : 100 ≤ d) (h : Rel c e I L) (F : Fiv x3 I) : Gon d x3 I (jat d 266 931 [.ref 1000, .ref 0, .ref 58, .int x3] [] (jmk I L c e)) := by
  obtain ⟨H1, H2, H3, H4, H5⟩ := F
  obtain ⟨r, I1, L1, I2, L2, c1, e1, ⟨x, rfl⟩, E1, E2, R, F1, F2⟩ := zq_tide (x := (I 1000 (x3 + 1).toNatClampNeg)) (y := (I 1000 (x3 + 2).toNatClampNeg)) (z := (I 1000 (x3 + 3).toNatClampNeg)) hd h
  have S0 : I1 1000 = I 1000 := funext fun j => F1 1000 j (by decide)
  have S1 : I1 1001 0 = I 1001 0 := F1 1001 0 (by decide)
  refine ⟨I2, L2, c1, e1, ?_, R, F2⟩
  rw [jb_266_931, H1, cond_true, H2, cond_true, H3, cond_true, E1]
  simp only [Option.bind_some, jps]
  rw [jb_266_950, S0, S1, H1, cond_true, H2, cond_true, H3, cond_true, E2]
  simp only [Option.bind_some, jps]
  rw [jb_266_969, decide_eq_true (rfl : x = x), cond_true]
theorem lb_two (hd : 100 ≤ d) (h : Rel c e I L) (F : Fiv x3 I) : Gon d x3 I (jat d 266 974 [.ref 1000, .ref 0, .ref 58, .int x3] [] (jmk I L c e)) := by
  obtain ⟨H1, H2, H3, H4, H5⟩ := F
  obtain ⟨r, I1, L1, I2, L2, c1, e1, ⟨x, rfl⟩, E1, E2, R, F1, F2⟩ := zq_two (x := (I 1000 (x3 + 1).toNatClampNeg)) (y := (I 1000 (x3 + 2).toNatClampNeg)) hd h
  have S0 : I1 1000 = I 1000 := funext fun j => F1 1000 j (by decide)
  have S1 : I1 1001 0 = I 1001 0 := F1 1001 0 (by decide)
  refine ⟨I2, L2, c1, e1, ?_, R, F2⟩
  rw [jb_266_974, H1, cond_true, H2, cond_true, E1]
  simp only [Option.bind_some, jps]
  rw [jb_266_988, S0, S1, H1, cond_true, H2, cond_true, E2]
  simp only [Option.bind_some, jps]
  rw [jb_266_1002, decide_eq_true (rfl : x = x), cond_true]
theorem lb_judge (hd : 100 ≤ d) (h : Rel c e I L) (F : Fiv x3 I) : Gon d x3 I (jat d 266 1007 [.ref 1000, .ref 0, .ref 58, .int x3] [] (jmk I L c e)) := by
  obtain ⟨H1, H2, H3, H4, H5⟩ := F
  obtain ⟨r, I1, L1, I2, L2, c1, e1, ⟨x, rfl⟩, E1, E2, R, F1, F2⟩ := zq_judge (x := (I 1000 (x3 + 1).toNatClampNeg)) (y := (I 1000 (x3 + 2).toNatClampNeg)) hd h
  have S0 : I1 1000 = I 1000 := funext fun j => F1 1000 j (by decide)
  have S1 : I1 1001 0 = I 1001 0 := F1 1001 0 (by decide)
  refine ⟨I2, L2, c1, e1, ?_, R, F2⟩
  rw [jb_266_1007, H1, cond_true, H2, cond_true, E1]
  simp only [Option.bind_some, jps]
  rw [jb_266_1021, S0, S1, H1, cond_true, H2, cond_true, E2]
  simp only [Option.bind_some, jps]
  rw [jb_266_1035, decide_eq_true (rfl : x = x), cond_true]
theorem lb_ends (hd : 100 ≤ d) (h : Rel c e I L) (F : Fiv x3 I) : Gon d x3 I (jat d 266 1040 [.ref 1000, .ref 0, .ref 58, .int x3] [] (jmk I L c e)) := by
  obtain ⟨H1, H2, H3, H4, H5⟩ := F
  obtain ⟨r, I1, L1, I2, L2, c1, e1, ⟨x, rfl⟩, E1, E2, R, F1, F2⟩ := zq_ends (x := (I 1000 (x3 + 1).toNatClampNeg)) (y := (I 1000 (x3 + 2).toNatClampNeg)) hd h
  have S0 : I1 1000 = I 1000 := funext fun j => F1 1000 j (by decide)
  have S1 : I1 1001 0 = I 1001 0 := F1 1001 0 (by decide)
  refine ⟨I2, L2, c1, e1, ?_, R, F2⟩
  rw [jb_266_1040, H1, cond_true, H2, cond_true, E1]
  simp only [Option.bind_some, jps]
  rw [jb_266_1054, S0, S1, H1, cond_true, H2, cond_true, E2]
  simp only [Option.bind_some, jps]
  rw [jb_266_1068, decide_eq_true (rfl : x = x), cond_true]
theorem lb_who (hd : 100 ≤ d) (h : Rel c e I L) (F : Fiv x3 I) : Gon d x3 I (jat d 266 1073 [.ref 1000, .ref 0, .ref 58, .int x3] [] (jmk I L c e)) := by
  obtain ⟨H1, H2, H3, H4, H5⟩ := F
  obtain ⟨r, I1, L1, I2, L2, c1, e1, ⟨x, rfl⟩, E1, E2, R, F1, F2⟩ := zq_who (x := (I 1000 (x3 + 1).toNatClampNeg)) (y := (I 1000 (x3 + 2).toNatClampNeg)) hd h
  have S0 : I1 1000 = I 1000 := funext fun j => F1 1000 j (by decide)
  have S1 : I1 1001 0 = I 1001 0 := F1 1001 0 (by decide)
  refine ⟨I2, L2, c1, e1, ?_, R, F2⟩
  rw [jb_266_1073, H1, cond_true, H2, cond_true, E1]
  simp only [Option.bind_some, jps]
  rw [jb_266_1087, S0, S1, H1, cond_true, H2, cond_true, E2]
  simp only [Option.bind_some, jps]
  rw [jb_266_1101, decide_eq_true (rfl : x = x), cond_true]
theorem lb_begun (hd : 100 ≤ d) (h : Rel c e I L) (F : Fiv x3 I) : Gon d x3 I (jat d 266 1106 [.ref 1000, .ref 0, .ref 58, .int x3] [] (jmk I L c e)) := by
  obtain ⟨H1, H2, H3, H4, H5⟩ := F
  obtain ⟨r, I1, L1, I2, L2, c1, e1, ⟨x, rfl⟩, E1, E2, R, F1, F2⟩ := zq_begun (x := (I 1000 (x3 + 1).toNatClampNeg)) (y := (I 1000 (x3 + 2).toNatClampNeg)) (z := (I 1000 (x3 + 3).toNatClampNeg)) hd h
  have S0 : I1 1000 = I 1000 := funext fun j => F1 1000 j (by decide)
  have S1 : I1 1001 0 = I 1001 0 := F1 1001 0 (by decide)
  refine ⟨I2, L2, c1, e1, ?_, R, F2⟩
  rw [jb_266_1106, H1, cond_true, H2, cond_true, H3, cond_true, E1]
  simp only [Option.bind_some, jps]
  rw [jb_266_1125, S0, S1, H1, cond_true, H2, cond_true, H3, cond_true, E2]
  simp only [Option.bind_some, jps]
  rw [jb_266_1144, decide_eq_true (rfl : x = x), cond_true]
theorem lb_drawn (hd : 100 ≤ d) (h : Rel c e I L) (F : Fiv x3 I) : Gon d x3 I (jat d 266 1149 [.ref 1000, .ref 0, .ref 58, .int x3] [] (jmk I L c e)) := by
  obtain ⟨H1, H2, H3, H4, H5⟩ := F
  obtain ⟨r, I1, L1, I2, L2, c1, e1, ⟨x, rfl⟩, E1, E2, R, F1, F2⟩ := zq_drawn (x := (I 1000 (x3 + 1).toNatClampNeg)) (y := (I 1000 (x3 + 2).toNatClampNeg)) (z := (I 1000 (x3 + 3).toNatClampNeg)) (u := (I 1000 (x3 + 4).toNatClampNeg)) hd h
  have S0 : I1 1000 = I 1000 := funext fun j => F1 1000 j (by decide)
  have S1 : I1 1001 0 = I 1001 0 := F1 1001 0 (by decide)
  refine ⟨I2, L2, c1, e1, ?_, R, F2⟩
  rw [jb_266_1149, H1, cond_true, H2, cond_true, H3, cond_true, H4, cond_true, E1]
  simp only [Option.bind_some, jps]
  rw [jb_266_1173, S0, S1, H1, cond_true, H2, cond_true, H3, cond_true, H4, cond_true, E2]
  simp only [Option.bind_some, jps]
  rw [jb_266_1197, decide_eq_true (rfl : x = x), cond_true]
theorem lb_make (hd : 100 ≤ d) (h : Rel c e I L) (F : Fiv x3 I) : Gon d x3 I (jat d 266 1202 [.ref 1000, .ref 0, .ref 58, .int x3] [] (jmk I L c e)) := by
  obtain ⟨H1, H2, H3, H4, H5⟩ := F
  obtain ⟨r, I1, L1, I2, L2, c1, e1, ⟨x, rfl⟩, E1, E2, R, F1, F2⟩ := zq_make (x := (I 1000 (x3 + 1).toNatClampNeg)) (y := (I 1000 (x3 + 2).toNatClampNeg)) hd h
  have S0 : I1 1000 = I 1000 := funext fun j => F1 1000 j (by decide)
  have S1 : I1 1001 0 = I 1001 0 := F1 1001 0 (by decide)
  refine ⟨I2, L2, c1, e1, ?_, R, F2⟩
  rw [jb_266_1202, H1, cond_true, H2, cond_true, E1]
  simp only [Option.bind_some, jps]
  rw [jb_266_1216, S0, S1, H1, cond_true, H2, cond_true, E2]
  simp only [Option.bind_some, jps]
  rw [jb_266_1230, decide_eq_true (rfl : x = x), cond_true]
theorem lb_lay (hd : 100 ≤ d) (h : Rel c e I L) (F : Fiv x3 I) : Gon d x3 I (jat d 266 1235 [.ref 1000, .ref 0, .ref 58, .int x3] [] (jmk I L c e)) := by
  obtain ⟨H1, H2, H3, H4, H5⟩ := F
  obtain ⟨r, I1, L1, I2, L2, c1, e1, ⟨x, rfl⟩, E1, E2, R, F1, F2⟩ := zq_lay (x := (I 1000 (x3 + 1).toNatClampNeg)) hd h
  have S0 : I1 1000 = I 1000 := funext fun j => F1 1000 j (by decide)
  have S1 : I1 1001 0 = I 1001 0 := F1 1001 0 (by decide)
  refine ⟨I2, L2, c1, e1, ?_, R, F2⟩
  rw [jb_266_1235, H1, cond_true, E1]
  simp only [Option.bind_some, jps]
  rw [jb_266_1244, S0, S1, H1, cond_true, E2]
  simp only [Option.bind_some, jps]
  rw [jb_266_1253, decide_eq_true (rfl : x = x), cond_true]
theorem lb_led (hd : 100 ≤ d) (h : Rel c e I L) (F : Fiv x3 I) : Gon d x3 I (jat d 266 1258 [.ref 1000, .ref 0, .ref 58, .int x3] [] (jmk I L c e)) := by
  obtain ⟨H1, H2, H3, H4, H5⟩ := F
  obtain ⟨r, I1, L1, I2, L2, c1, e1, ⟨x, rfl⟩, E1, E2, R, F1, F2⟩ := zq_led (x := (I 1000 (x3 + 1).toNatClampNeg)) hd h
  have S0 : I1 1000 = I 1000 := funext fun j => F1 1000 j (by decide)
  have S1 : I1 1001 0 = I 1001 0 := F1 1001 0 (by decide)
  refine ⟨I2, L2, c1, e1, ?_, R, F2⟩
  rw [jb_266_1258, H1, cond_true, E1]
  simp only [Option.bind_some, jps]
  rw [jb_266_1267, S0, S1, H1, cond_true, E2]
  simp only [Option.bind_some, jps]
  rw [jb_266_1276, decide_eq_true (rfl : x = x), cond_true]
theorem lb_image (hd : 100 ≤ d) (h : Rel c e I L) (F : Fiv x3 I) : Gon d x3 I (jat d 266 1281 [.ref 1000, .ref 0, .ref 58, .int x3] [] (jmk I L c e)) := by
  obtain ⟨r, I1, L1, I2, L2, c1, e1, ⟨x, rfl⟩, E1, E2, R, F1, F2⟩ := zq_image hd h
  refine ⟨I2, L2, c1, e1, ?_, R, F2⟩
  rw [jb_266_1281, E1]
  simp only [Option.bind_some, jps]
  rw [jb_266_1285, E2]
  simp only [Option.bind_some, jps]
  rw [jb_266_1289, decide_eq_true (rfl : x = x), cond_true]
theorem lb_back (hd : 100 ≤ d) (h : Rel c e I L) (F : Fiv x3 I) : Gon d x3 I (jat d 266 1294 [.ref 1000, .ref 0, .ref 58, .int x3] [] (jmk I L c e)) := by
  obtain ⟨r, I1, L1, I2, L2, c1, e1, ⟨x, rfl⟩, E1, E2, R, F1, F2⟩ := zq_back hd h
  refine ⟨I2, L2, c1, e1, ?_, R, F2⟩
  rw [jb_266_1294, E1]
  simp only [Option.bind_some, jps]
  rw [jb_266_1298, E2]
  simp only [Option.bind_some, jps]
  rw [jb_266_1302, decide_eq_true (rfl : x = x), cond_true]
theorem lb_undo (hd : 100 ≤ d) (h : Rel c e I L) (F : Fiv x3 I) : Gon d x3 I (jat d 266 1307 [.ref 1000, .ref 0, .ref 58, .int x3] [] (jmk I L c e)) := by
  obtain ⟨r, I1, L1, I2, L2, c1, e1, ⟨x, rfl⟩, E1, E2, R, F1, F2⟩ := zq_undo hd h
  refine ⟨I2, L2, c1, e1, ?_, R, F2⟩
  rw [jb_266_1307, E1]
  simp only [Option.bind_some, jps]
  rw [jb_266_1311, E2]
  simp only [Option.bind_some, jps]
  rw [jb_266_1315, decide_eq_true (rfl : x = x), cond_true]
theorem lb_redo (hd : 100 ≤ d) (h : Rel c e I L) (F : Fiv x3 I) : Gon d x3 I (jat d 266 1320 [.ref 1000, .ref 0, .ref 58, .int x3] [] (jmk I L c e)) := by
  obtain ⟨r, I1, L1, I2, L2, c1, e1, ⟨x, rfl⟩, E1, E2, R, F1, F2⟩ := zq_redo hd h
  refine ⟨I2, L2, c1, e1, ?_, R, F2⟩
  rw [jb_266_1320, E1]
  simp only [Option.bind_some, jps]
  rw [jb_266_1324, E2]
  simp only [Option.bind_some, jps]
  rw [jb_266_1328, decide_eq_true (rfl : x = x), cond_true]
theorem lb_body (hd : 100 ≤ d) (h : Rel c e I L) (F : Fiv x3 I) : Gon d x3 I (jat d 266 1333 [.ref 1000, .ref 0, .ref 58, .int x3] [] (jmk I L c e)) := by
  obtain ⟨H1, H2, H3, H4, H5⟩ := F
  obtain ⟨r, I1, L1, I2, L2, c1, e1, ⟨x, rfl⟩, E1, E2, R, F1, F2⟩ := zq_body (x := (I 1000 (x3 + 1).toNatClampNeg)) hd h
  have S0 : I1 1000 = I 1000 := funext fun j => F1 1000 j (by decide)
  have S1 : I1 1001 0 = I 1001 0 := F1 1001 0 (by decide)
  refine ⟨I2, L2, c1, e1, ?_, R, F2⟩
  rw [jb_266_1333, H1, cond_true, E1]
  simp only [Option.bind_some, jps]
  rw [jb_266_1342, S0, S1, H1, cond_true, E2]
  simp only [Option.bind_some, jps]
  rw [jb_266_1351, decide_eq_true (rfl : x = x), cond_true]
theorem lb_act (hd : 100 ≤ d) (h : Rel c e I L) (F : Fiv x3 I) : Gon d x3 I (jat d 266 1356 [.ref 1000, .ref 0, .ref 58, .int x3] [] (jmk I L c e)) := by
  obtain ⟨H1, H2, H3, H4, H5⟩ := F
  obtain ⟨r, I1, L1, I2, L2, c1, e1, ⟨x, rfl⟩, E1, E2, R, F1, F2⟩ := zq_act (x := (I 1000 (x3 + 1).toNatClampNeg)) (y := (I 1000 (x3 + 2).toNatClampNeg)) (z := (I 1000 (x3 + 3).toNatClampNeg)) hd h
  have S0 : I1 1000 = I 1000 := funext fun j => F1 1000 j (by decide)
  have S1 : I1 1001 0 = I 1001 0 := F1 1001 0 (by decide)
  refine ⟨I2, L2, c1, e1, ?_, R, F2⟩
  rw [jb_266_1356, H1, cond_true, H2, cond_true, H3, cond_true, E1]
  simp only [Option.bind_some, jps]
  rw [jb_266_1375, S0, S1, H1, cond_true, H2, cond_true, H3, cond_true, E2]
  simp only [Option.bind_some, jps]
  rw [jb_266_1394, decide_eq_true (rfl : x = x), cond_true]
theorem lb_trace (hd : 100 ≤ d) (h : Rel c e I L) (F : Fiv x3 I) : Gon d x3 I (jat d 266 1399 [.ref 1000, .ref 0, .ref 58, .int x3] [] (jmk I L c e)) := by
  obtain ⟨H1, H2, H3, H4, H5⟩ := F
  obtain ⟨r, I1, L1, I2, L2, c1, e1, ⟨x, rfl⟩, E1, E2, R, F1, F2⟩ := zq_trace (x := (I 1000 (x3 + 1).toNatClampNeg)) hd h
  have S0 : I1 1000 = I 1000 := funext fun j => F1 1000 j (by decide)
  have S1 : I1 1001 0 = I 1001 0 := F1 1001 0 (by decide)
  refine ⟨I2, L2, c1, e1, ?_, R, F2⟩
  rw [jb_266_1399, H1, cond_true, E1]
  simp only [Option.bind_some, jps]
  rw [jb_266_1408, S0, S1, H1, cond_true, E2]
  simp only [Option.bind_some, jps]
  rw [jb_266_1417, decide_eq_true (rfl : x = x), cond_true]
theorem lb_keep (hd : 100 ≤ d) (h : Rel c e I L) (F : Fiv x3 I) : Gon d x3 I (jat d 266 1422 [.ref 1000, .ref 0, .ref 58, .int x3] [] (jmk I L c e)) := by
  obtain ⟨H1, H2, H3, H4, H5⟩ := F
  obtain ⟨r, I1, L1, I2, L2, c1, e1, ⟨x, rfl⟩, E1, E2, R, F1, F2⟩ := zq_keep (x := (I 1000 (x3 + 1).toNatClampNeg)) (y := (I 1000 (x3 + 2).toNatClampNeg)) hd h
  have S0 : I1 1000 = I 1000 := funext fun j => F1 1000 j (by decide)
  have S1 : I1 1001 0 = I 1001 0 := F1 1001 0 (by decide)
  refine ⟨I2, L2, c1, e1, ?_, R, F2⟩
  rw [jb_266_1422, H1, cond_true, H2, cond_true, E1]
  simp only [Option.bind_some, jps]
  rw [jb_266_1436, S0, S1, H1, cond_true, H2, cond_true, E2]
  simp only [Option.bind_some, jps]
  rw [jb_266_1450, decide_eq_true (rfl : x = x), cond_true]
theorem lb_row (hd : 100 ≤ d) (h : Rel c e I L) (F : Fiv x3 I) : Gon d x3 I (jat d 266 1455 [.ref 1000, .ref 0, .ref 58, .int x3] [] (jmk I L c e)) := by
  obtain ⟨H1, H2, H3, H4, H5⟩ := F
  obtain ⟨r, I1, L1, I2, L2, c1, e1, ⟨x, rfl⟩, E1, E2, R, F1, F2⟩ := zq_row (x := (I 1000 (x3 + 1).toNatClampNeg)) (y := (I 1000 (x3 + 2).toNatClampNeg)) (z := (I 1000 (x3 + 3).toNatClampNeg)) hd h
  have S0 : I1 1000 = I 1000 := funext fun j => F1 1000 j (by decide)
  have S1 : I1 1001 0 = I 1001 0 := F1 1001 0 (by decide)
  refine ⟨I2, L2, c1, e1, ?_, R, F2⟩
  rw [jb_266_1455, H1, cond_true, H2, cond_true, H3, cond_true, E1]
  simp only [Option.bind_some, jps]
  rw [jb_266_1474, S0, S1, H1, cond_true, H2, cond_true, H3, cond_true, E2]
  simp only [Option.bind_some, jps]
  rw [jb_266_1493, decide_eq_true (rfl : x = x), cond_true]
theorem lb_put (hd : 100 ≤ d) (h : Rel c e I L) (F : Fiv x3 I) : Gon d x3 I (jat d 266 1498 [.ref 1000, .ref 0, .ref 58, .int x3] [] (jmk I L c e)) := by
  obtain ⟨H1, H2, H3, H4, H5⟩ := F
  obtain ⟨r, I1, L1, I2, L2, c1, e1, ⟨x, rfl⟩, E1, E2, R, F1, F2⟩ := zq_put (x := (I 1000 (x3 + 1).toNatClampNeg)) (y := (I 1000 (x3 + 2).toNatClampNeg)) (w := ((((I 1000 (x3 + 3).toNatClampNeg).toInt64) <<< ((32 : Int32).toInt64 &&& 63)) ||| (((I 1000 (x3 + 4).toNatClampNeg).toInt64) &&& 4294967295))) hd h
  have S0 : I1 1000 = I 1000 := funext fun j => F1 1000 j (by decide)
  have S1 : I1 1001 0 = I 1001 0 := F1 1001 0 (by decide)
  refine ⟨I2, L2, c1, e1, ?_, R, F2⟩
  rw [jb_266_1498, H1, cond_true, H2, cond_true, H3, cond_true, H4, cond_true, E1]
  simp only [Option.bind_some, jps]
  rw [jb_266_1532, S0, S1, H1, cond_true, H2, cond_true, H3, cond_true, H4, cond_true, E2]
  simp only [Option.bind_some, jps]
  rw [jb_266_1566, decide_eq_true (rfl : x = x), cond_true]
theorem lb_elem (hd : 100 ≤ d) (h : Rel c e I L) (F : Fiv x3 I) : Gon d x3 I (jat d 266 1571 [.ref 1000, .ref 0, .ref 58, .int x3] [] (jmk I L c e)) := by
  obtain ⟨H1, H2, H3, H4, H5⟩ := F
  obtain ⟨r, I1, L1, I2, L2, c1, e1, ⟨x, rfl⟩, E1, E2, R, F1, F2⟩ := zq_elem (x := (I 1000 (x3 + 1).toNatClampNeg)) (y := (I 1000 (x3 + 2).toNatClampNeg)) hd h
  have S0 : I1 1000 = I 1000 := funext fun j => F1 1000 j (by decide)
  have S1 : I1 1001 0 = I 1001 0 := F1 1001 0 (by decide)
  refine ⟨I2, L2, c1, e1, ?_, R, F2⟩
  rw [jb_266_1571, H1, cond_true, H2, cond_true, E1]
  simp only [Option.bind_some, jps]
  rw [jb_266_1585, S0, S1, H1, cond_true, H2, cond_true, E2]
  simp only [Option.bind_some, jps]
  rw [jb_266_1599, lcmp_r, decide_eq_true (rfl : (0 : Int32) = 0), cond_true]
theorem lb_shift (hd : 100 ≤ d) (h : Rel c e I L) (F : Fiv x3 I) : Gon d x3 I (jat d 266 1605 [.ref 1000, .ref 0, .ref 58, .int x3] [] (jmk I L c e)) := by
  obtain ⟨H1, H2, H3, H4, H5⟩ := F
  obtain ⟨r, I1, L1, I2, L2, c1, e1, ⟨x, rfl⟩, E1, E2, R, F1, F2⟩ := zq_shift (x := (I 1000 (x3 + 1).toNatClampNeg)) (u := (I 1000 (x3 + 2).toNatClampNeg)) (y := (I 1000 (x3 + 3).toNatClampNeg)) (w := (I 1000 (x3 + 4).toNatClampNeg)) (z := (I 1000 (x3 + 5).toNatClampNeg)) hd h
  have S0 : I1 1000 = I 1000 := funext fun j => F1 1000 j (by decide)
  have S1 : I1 1001 0 = I 1001 0 := F1 1001 0 (by decide)
  refine ⟨I2, L2, c1, e1, ?_, R, F2⟩
  rw [jb_266_1605, H1, cond_true, H2, cond_true, H3, cond_true, H4, cond_true, H5, cond_true, E1]
  simp only [Option.bind_some, jps]
  rw [jb_266_1634, S0, S1, H1, cond_true, H2, cond_true, H3, cond_true, H4, cond_true, H5, cond_true, E2]
  simp only [Option.bind_some, jps]
  rw [jb_266_1663, decide_eq_true (rfl : x = x), cond_true]
theorem lb_taken (hd : 100 ≤ d) (h : Rel c e I L) (F : Fiv x3 I) : Gon d x3 I (jat d 266 1668 [.ref 1000, .ref 0, .ref 58, .int x3] [] (jmk I L c e)) := by
  obtain ⟨H1, H2, H3, H4, H5⟩ := F
  obtain ⟨r, I1, L1, I2, L2, c1, e1, ⟨x, rfl⟩, E1, E2, R, F1, F2⟩ := zq_taken (x := (I 1000 (x3 + 1).toNatClampNeg)) (y := (I 1000 (x3 + 2).toNatClampNeg)) hd h
  have S0 : I1 1000 = I 1000 := funext fun j => F1 1000 j (by decide)
  have S1 : I1 1001 0 = I 1001 0 := F1 1001 0 (by decide)
  refine ⟨I2, L2, c1, e1, ?_, R, F2⟩
  rw [jb_266_1668, H1, cond_true, H2, cond_true, E1]
  simp only [Option.bind_some, jps]
  rw [jb_266_1682, S0, S1, H1, cond_true, H2, cond_true, E2]
  simp only [Option.bind_some, jps]
  rw [jb_266_1696, decide_eq_true (rfl : x = x), cond_true]
theorem lb_count (hd : 100 ≤ d) (h : Rel c e I L) (F : Fiv x3 I) : Gon d x3 I (jat d 266 1701 [.ref 1000, .ref 0, .ref 58, .int x3] [] (jmk I L c e)) := by
  obtain ⟨H1, H2, H3, H4, H5⟩ := F
  obtain ⟨r, I1, L1, I2, L2, c1, e1, ⟨x, rfl⟩, E1, E2, R, F1, F2⟩ := zq_count (x := (I 1000 (x3 + 1).toNatClampNeg)) hd h
  have S0 : I1 1000 = I 1000 := funext fun j => F1 1000 j (by decide)
  have S1 : I1 1001 0 = I 1001 0 := F1 1001 0 (by decide)
  refine ⟨I2, L2, c1, e1, ?_, R, F2⟩
  rw [jb_266_1701, H1, cond_true, E1]
  simp only [Option.bind_some, jps]
  rw [jb_266_1710, S0, S1, H1, cond_true, E2]
  simp only [Option.bind_some, jps]
  rw [jb_266_1719, decide_eq_true (rfl : x = x), cond_true]
theorem jswF_all {α : Type} {F : Nat → α} {P : α → Prop} {x : Int32} {a : Nat} (h0 : P (F a)) : ∀ (sw : List (Int32 × Nat)), (∀ q, q ∈ sw → P (F q.2)) → P (jswF F x sw a) := by
  intro sw
  induction sw with
  | nil => intro _; exact h0
  | cons q r ih =>
    intro h
    show P (bif decide (x = q.1) then F q.2 else jswF F x r a)
    by_cases e : x = q.1
    · rw [decide_eq_true e]
      exact h q List.mem_cons_self
    · rw [decide_eq_false e]
      exact ih (fun q' h' => h q' (List.mem_cons_of_mem _ h'))
theorem lsw {s0 : Int32} (hd : 100 ≤ d) (h : Rel c e I L) (F : Fiv x3 I) : Gon d x3 I (jat d 266 33 [.ref 1000, .ref 0, .ref 58, .int x3] [.int s0] (jmk I L c e)) := by
  rw [jb_266_33]
  refine jswF_all (P := Gon d x3 I) ⟨I, L, c, e, rfl, h, fun _ _ _ => rfl⟩ _ ?_
  refine List.forall_mem_cons.mpr ⟨lb_move hd h F, List.forall_mem_cons.mpr ⟨lb_moves hd h F, List.forall_mem_cons.mpr ⟨lb_person hd h F, List.forall_mem_cons.mpr ⟨lb_mend hd h F, List.forall_mem_cons.mpr ⟨lb_of hd h F, List.forall_mem_cons.mpr ⟨lb_feed hd h F, List.forall_mem_cons.mpr ⟨lb_law hd h F, List.forall_mem_cons.mpr ⟨lb_leads hd h F, List.forall_mem_cons.mpr ⟨lb_takes hd h F, List.forall_mem_cons.mpr ⟨lb_way hd h F, List.forall_mem_cons.mpr ⟨lb_next hd h F, List.forall_mem_cons.mpr ⟨lb_reach hd h F, List.forall_mem_cons.mpr ⟨lb_worst hd h F, List.forall_mem_cons.mpr ⟨lb_ways hd h F, List.forall_mem_cons.mpr ⟨lb_backFrom hd h F, List.forall_mem_cons.mpr ⟨lb_needed hd h F, List.forall_mem_cons.mpr ⟨lb_oneWay hd h F, List.forall_mem_cons.mpr ⟨lb_learn hd h F, List.forall_mem_cons.mpr ⟨lb_show hd h F, List.forall_mem_cons.mpr ⟨lb_opens hd h F, List.forall_mem_cons.mpr ⟨lb_best hd h F, List.forall_mem_cons.mpr ⟨lb_tide hd h F, List.forall_mem_cons.mpr ⟨lb_two hd h F, List.forall_mem_cons.mpr ⟨lb_judge hd h F, List.forall_mem_cons.mpr ⟨lb_ends hd h F, List.forall_mem_cons.mpr ⟨lb_who hd h F, List.forall_mem_cons.mpr ⟨lb_begun hd h F, List.forall_mem_cons.mpr ⟨lb_drawn hd h F, List.forall_mem_cons.mpr ⟨lb_make hd h F, List.forall_mem_cons.mpr ⟨lb_lay hd h F, List.forall_mem_cons.mpr ⟨lb_led hd h F, List.forall_mem_cons.mpr ⟨lb_image hd h F, List.forall_mem_cons.mpr ⟨lb_back hd h F, List.forall_mem_cons.mpr ⟨lb_undo hd h F, List.forall_mem_cons.mpr ⟨lb_redo hd h F, List.forall_mem_cons.mpr ⟨lb_body hd h F, List.forall_mem_cons.mpr ⟨lb_act hd h F, List.forall_mem_cons.mpr ⟨lb_trace hd h F, List.forall_mem_cons.mpr ⟨lb_keep hd h F, List.forall_mem_cons.mpr ⟨lb_row hd h F, List.forall_mem_cons.mpr ⟨lb_put hd h F, List.forall_mem_cons.mpr ⟨lb_elem hd h F, List.forall_mem_cons.mpr ⟨lb_shift hd h F, List.forall_mem_cons.mpr ⟨lb_taken hd h F, List.forall_mem_cons.mpr ⟨lb_count hd h F, fun _ h => absurd h List.not_mem_nil⟩⟩⟩⟩⟩⟩⟩⟩⟩⟩⟩⟩⟩⟩⟩⟩⟩⟩⟩⟩⟩⟩⟩⟩⟩⟩⟩⟩⟩⟩⟩⟩⟩⟩⟩⟩⟩⟩⟩⟩⟩⟩⟩⟩⟩
end LC
