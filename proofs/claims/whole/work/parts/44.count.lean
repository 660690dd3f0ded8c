/-! count -/
def opCount (x : Int32) (a b u v w z : Int32) : Int32 := if x = 0 then a else if x = 1 then b else if x = 2 then u else if x = 3 then v else if x = 4 then w else if x = 5 then z else -1
section CNT
variable {d : Nat} {I : Nat → Nat → Int32} {L : Nat → Nat → Int64} {c e : Nat} {x : Int32}
theorem c_count : jev d 140 [.ref 0, .int x] (jmk I L c e) = some (some (.int (opCount x (I 7 6) (I 14 4) (I 1 9) (I 32 4) (I 29 3) (I 29 4))), jmk I L c e) := by
  rw [jb_140_0, jb_140_1]
  unfold opCount
  simp only [jswF, Bool.cond_decide, jb_140_40, jb_140_48, jb_140_56, jb_140_64, jb_140_72, jb_140_80, jb_140_88]
  repeat' split
  all_goals rfl
theorem m_count : jev d 262 [.ref 58, .int x] (jmk I L c e) = some (some (.int (opCount x (I 58 0) (I 58 6) (I 58 12) (I 58 37) (I 58 39) (I 58 41))), jmk I L c e) := by
  rw [jb_262_0, jb_262_1]
  unfold opCount
  simp only [jswF, Bool.cond_decide, jb_262_40, jb_262_45, jb_262_50, jb_262_55, jb_262_60, jb_262_65, jb_262_70]
  repeat' split
  all_goals rfl
end CNT
