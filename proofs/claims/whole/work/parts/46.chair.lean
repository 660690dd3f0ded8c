/-! what is shut, what is a chair -/
abbrev isChr (s : Nat) : Prop := pt 0 s = 2 ∧ pt 1 s = 0 ∧ pt 3 s = 0
section CHR
variable {d : Nat} {I : Nat → Nat → Int32} {L : Nat → Nat → Int64} {c e : Nat} {s : Nat}
theorem pt_lt : ∀ s, s < 54 → pt 0 s < 3 ∧ pt 1 s < 3 ∧ pt 2 s < 3 ∧ pt 3 s < 2 := by decide
theorem q_145 (hs : s < 54) : jev d 145 [.int (nI s)] (jmk I L c e) = some (some (.int (if pt 0 s = 0 then 1 else 0)), jmk I L c e) := by
  have h := pt_lt s hs
  rw [jb_145_0, show (0 : Int32) = nI 0 from rfl, q_143 (by omega) hs]
  simp only [Option.bind_some, jps]
  rw [jb_145_5, show (0 : Int32) = nI 0 from rfl]
  simp only [Bool.cond_decide]
  simp (disch := omega) only [nI_eq]
  by_cases q : pt 0 s = 0
  · rw [if_neg (fun k => k q), if_pos q]
  · rw [if_pos q, if_neg q]
end CHR
