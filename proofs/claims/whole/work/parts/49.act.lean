/-! acts, the reference; the op act -/
section ACM
variable {I : Nat → Nat → Int32} {L : Nat → Nat → Int64} {c e : Nat} {x y z : Int32} {b bn : Nat} {bk : Nat → Nat} {l : List Nat}
theorem q_246 {d n r : Nat} (hy : y = nI n) (h : acM bn bk (r + 1) I) : jev d 246 [.ref 58, .int y] (jmk I L c e) = some (none, jmk (adM I n) L c e) := by
  obtain ⟨h2, c0, h4, h5⟩ := h
  rw [jb_246_0]
  unfold adM
  rw [hy]
  simp only [Bool.cond_decide]
  by_cases q : (24 : Int32) ≤ I 58 41
  · rw [if_pos q, if_pos q, jb_246_19]
  · have q2 : jin (I 58 41) 24 := by
      rw [h4] at q ⊢
      rw [jle_iff, nI_toInt (by omega)] at q
      simp only [Int32.reduceToInt] at q
      exact jin_nI (by omega) (by decide)
    rw [if_neg q, if_pos q2, if_neg q, jb_246_19]
    rfl
abbrev ihM (o b bn : Nat) (bk : Nat → Nat) (L : Nat → Nat → Int64) (c e f : Nat) : Prop := ∀ (a k d : Nat) (x : Int32) (I : Nat → Nat → Int32), a < 4 → k < 8 → aD o f a k = true → 5 * f ≤ d → acM bn bk (aT o f a k).length I → jev d (247 + a) [.ref 58, .int (nI b), .int (nI k), .int x] (jmk I L c e) = some (some (.int (aV o (nI b) f a k x)), jmk ((aT o f a k).foldl adM I) L c e)
theorem q_M_1 {o f d : Nat} (hb : b < bn) (hbn : bn ≤ 50) (ho : bk b = o) (ho8 : o < 8) (ih : ihM o b bn bk L c e f) (hd : 5 * f ≤ d) (h : acM bn bk (0 + 1) I) : jev (d + 1) 247 [.ref 58, .int (nI b), .int 0, .int x] (jmk I L c e) = some (some (.int (x + nI b)), jmk ((([] : List Nat)).foldl adM (adM I 1)) L c e) := by
  have g := acM_ad (n := 1) h
  rw [jb_247_0, jb_247_1]
  show jat (d + 1) 247 36 _ _ _ = _
  rw [jb_247_36, q_246 (n := 1) (y := 1) rfl h]
  simp only [Option.bind_some, jps]
  rw [jb_247_41]
  rfl
theorem q_M_20 {o f d : Nat} (hb : b < bn) (hbn : bn ≤ 50) (ho : bk b = o) (ho8 : o < 8) (ih : ihM o b bn bk L c e f) (hd : 5 * f ≤ d) (h0 : aD o f 0 0 = true) (h : acM bn bk ((aT o f 0 0).length + 1) I) : jev (d + 1) 247 [.ref 58, .int (nI b), .int 1, .int x] (jmk I L c e) = some (some (.int ((aV o (nI b) f 0 0 x) + 3)), jmk ((aT o f 0 0).foldl adM (adM I 20)) L c e) := by
  have g := acM_ad (n := 20) h
  rw [jb_247_0, jb_247_1]
  show jat (d + 1) 247 45 _ _ _ = _
  rw [jb_247_45, q_246 (n := 20) (y := 20) rfl h]
  simp only [Option.bind_some, jps]
  rw [jb_247_51]
  have i0 : jev (d) 247 [.ref 58, .int (nI b), .int (0), .int x] (jmk (adM I 20) L c e) = some (some (.int (aV o (nI b) f 0 0 x)), jmk ((aT o f 0 0).foldl adM (adM I 20)) L c e) := ih 0 0 (d) x _ (by decide) (by decide) h0 (by omega) (acM_le g (by omega))
  rw [show jcl (d + 1) 247 247 = jev d 247 from rfl, i0]
  simp only [Option.bind_some, jps]
  rw [jb_247_58]
theorem q_M_70 {o f d : Nat} (hb : b < bn) (hbn : bn ≤ 50) (ho : bk b = o) (ho8 : o < 8) (ih : ihM o b bn bk L c e f) (hd : 5 * f ≤ d) (h0 : aD o f 0 0 = true) (h : acM bn bk ((aT o f 0 0).length + 1) I) : jev (d + 1) 247 [.ref 58, .int (nI b), .int 6, .int x] (jmk I L c e) = some (some (.int ((aV o (nI b) f 0 0 x) * 2)), jmk ((aT o f 0 0).foldl adM (adM I 70)) L c e) := by
  have g := acM_ad (n := 70) h
  rw [jb_247_0, jb_247_1]
  show jat (d + 1) 247 61 _ _ _ = _
  rw [jb_247_61, q_246 (n := 70) (y := 70) rfl h]
  simp only [Option.bind_some, jps]
  rw [jb_247_67]
  have i0 : jev (d) 247 [.ref 58, .int (nI b), .int (0), .int x] (jmk (adM I 70) L c e) = some (some (.int (aV o (nI b) f 0 0 x)), jmk ((aT o f 0 0).foldl adM (adM I 70)) L c e) := ih 0 0 (d) x _ (by decide) (by decide) h0 (by omega) (acM_le g (by omega))
  rw [show jcl (d + 1) 247 247 = jev d 247 from rfl, i0]
  simp only [Option.bind_some, jps]
  rw [jb_247_74]
theorem q_M_10 {o f d : Nat} (hb : b < bn) (hbn : bn ≤ 50) (ho : bk b = o) (ho8 : o < 8) (ih : ihM o b bn bk L c e f) (hd : 5 * f ≤ d) (h0 : aD o f 0 o = true) (h : acM bn bk ((aT o f 0 o).length + 1) I) : jev (d + 1) 248 [.ref 58, .int (nI b), .int 0, .int x] (jmk I L c e) = some (some (.int ((aV o (nI b) f 0 o x) * 2)), jmk ((aT o f 0 o).foldl adM (adM I 10)) L c e) := by
  have g := acM_ad (n := 10) h
  rw [jb_248_0, jb_248_1]
  show jat (d + 1) 248 48 _ _ _ = _
  rw [jb_248_48, q_246 (n := 10) (y := 10) rfl h]
  simp only [Option.bind_some, jps]
  rw [jb_248_54]
  have k0 : (adM I 10) 83 b = nI o := by rw [(g.1.2 b hb).2, ho]
  rw [jdI (show b < 50 by omega), cond_true, jcl' (by omega), k0]
  have i0 : jev (d + 1) 247 [.ref 58, .int (nI b), .int (nI o), .int x] (jmk (adM I 10) L c e) = some (some (.int (aV o (nI b) f 0 o x)), jmk ((aT o f 0 o).foldl adM (adM I 10)) L c e) := ih 0 o (d + 1) x _ (by decide) ho8 h0 (by omega) (acM_le g (by omega))
  rw [i0]
  simp only [Option.bind_some, jps]
  rw [jb_248_66]
theorem q_M_30 {o f d : Nat} (hb : b < bn) (hbn : bn ≤ 50) (ho : bk b = o) (ho8 : o < 8) (ih : ihM o b bn bk L c e f) (hd : 5 * f ≤ d) (h0 : aD o f 1 0 = true) (h : acM bn bk ((aT o f 1 0).length + 1) I) : jev (d + 1) 248 [.ref 58, .int (nI b), .int 2, .int x] (jmk I L c e) = some (some (.int (-(aV o (nI b) f 1 0 x))), jmk ((aT o f 1 0).foldl adM (adM I 30)) L c e) := by
  have g := acM_ad (n := 30) h
  rw [jb_248_0, jb_248_1]
  show jat (d + 1) 248 69 _ _ _ = _
  rw [jb_248_69, q_246 (n := 30) (y := 30) rfl h]
  simp only [Option.bind_some, jps]
  rw [jb_248_75]
  have i0 : jev (d) 248 [.ref 58, .int (nI b), .int (0), .int x] (jmk (adM I 30) L c e) = some (some (.int (aV o (nI b) f 1 0 x)), jmk ((aT o f 1 0).foldl adM (adM I 30)) L c e) := ih 1 0 (d) x _ (by decide) (by decide) h0 (by omega) (acM_le g (by omega))
  rw [show jcl (d + 1) 248 248 = jev d 248 from rfl, i0]
  simp only [Option.bind_some, jps]
  rw [jb_248_82]
theorem q_M_41 {o f d : Nat} (hb : b < bn) (hbn : bn ≤ 50) (ho : bk b = o) (ho8 : o < 8) (ih : ihM o b bn bk L c e f) (hd : 5 * f ≤ d) (h0 : aD o f 1 2 = true) (h : acM bn bk ((aT o f 1 2).length + 1) I) : jev (d + 1) 248 [.ref 58, .int (nI b), .int 3, .int x] (jmk I L c e) = some (some (.int ((aV o (nI b) f 1 2 (x + 1)))), jmk ((aT o f 1 2).foldl adM (adM I 41)) L c e) := by
  have g := acM_ad (n := 41) h
  rw [jb_248_0, jb_248_1]
  show jat (d + 1) 248 84 _ _ _ = _
  rw [jb_248_84, q_246 (n := 41) (y := 41) rfl h]
  simp only [Option.bind_some, jps]
  rw [jb_248_90]
  have i0 : jev (d) 248 [.ref 58, .int (nI b), .int (2), .int (x + 1)] (jmk (adM I 41) L c e) = some (some (.int (aV o (nI b) f 1 2 (x + 1))), jmk ((aT o f 1 2).foldl adM (adM I 41)) L c e) := ih 1 2 (d) (x + 1) _ (by decide) (by decide) h0 (by omega) (acM_le g (by omega))
  rw [show jcl (d + 1) 248 248 = jev d 248 from rfl, i0]
  simp only [Option.bind_some, jps]
  rw [jb_248_99]
theorem q_M_80 {o f d : Nat} (hb : b < bn) (hbn : bn ≤ 50) (ho : bk b = o) (ho8 : o < 8) (ih : ihM o b bn bk L c e f) (hd : 5 * f ≤ d) (h0 : aD o f 1 4 = true) (h1 : aD o f 2 o = true) (h : acM bn bk ((aT o f 1 4).length + (aT o f 2 o).length + 1) I) : jev (d + 1) 248 [.ref 58, .int (nI b), .int 7, .int x] (jmk I L c e) = some (some (.int ((aV o (nI b) f 1 4 x) + (aV o (nI b) f 2 o 2))), jmk ((aT o f 1 4 ++ aT o f 2 o).foldl adM (adM I 80)) L c e) := by
  have g := acM_ad (n := 80) h
  rw [jb_248_0, jb_248_1]
  show jat (d + 1) 248 100 _ _ _ = _
  rw [jb_248_100, q_246 (n := 80) (y := 80) rfl h]
  simp only [Option.bind_some, jps]
  rw [jb_248_106]
  have i0 : jev (d) 248 [.ref 58, .int (nI b), .int (4), .int x] (jmk (adM I 80) L c e) = some (some (.int (aV o (nI b) f 1 4 x)), jmk ((aT o f 1 4).foldl adM (adM I 80)) L c e) := ih 1 4 (d) x _ (by decide) (by decide) h0 (by omega) (acM_le g (by omega))
  rw [show jcl (d + 1) 248 248 = jev d 248 from rfl, i0]
  simp only [Option.bind_some, jps]
  rw [jb_248_113]
  have g2 : acM bn bk ((aT o f 2 o).length) ((aT o f 1 4).foldl adM (adM I 80)) := acM_fo _ (acM_le g (by omega))
  have k1 : ((aT o f 1 4).foldl adM (adM I 80)) 83 b = nI o := by rw [(g2.1.2 b hb).2, ho]
  rw [jdI (show b < 50 by omega), cond_true, jcl' (by omega), k1]
  have i1 : jev (d + 1) 249 [.ref 58, .int (nI b), .int (nI o), .int 2] (jmk ((aT o f 1 4).foldl adM (adM I 80)) L c e) = some (some (.int (aV o (nI b) f 2 o 2)), jmk ((aT o f 2 o).foldl adM ((aT o f 1 4).foldl adM (adM I 80))) L c e) := ih 2 o (d + 1) 2 _ (by decide) ho8 h1 (by omega) (acM_le g2 (by omega))
  rw [i1]
  simp only [Option.bind_some, jps]
  rw [jb_248_129, List.foldl_append]
theorem q_M_11 {o f d : Nat} (hb : b < bn) (hbn : bn ≤ 50) (ho : bk b = o) (ho8 : o < 8) (ih : ihM o b bn bk L c e f) (hd : 5 * f ≤ d) (h : acM bn bk (0 + 1) I) : jev (d + 1) 249 [.ref 58, .int (nI b), .int 0, .int x] (jmk I L c e) = some (some (.int (x ^^^ nI b)), jmk ((([] : List Nat)).foldl adM (adM I 11)) L c e) := by
  have g := acM_ad (n := 11) h
  rw [jb_249_0, jb_249_1]
  show jat (d + 1) 249 36 _ _ _ = _
  rw [jb_249_36, q_246 (n := 11) (y := 11) rfl h]
  simp only [Option.bind_some, jps]
  rw [jb_249_42]
  rfl
theorem q_M_40 {o f d : Nat} (hb : b < bn) (hbn : bn ≤ 50) (ho : bk b = o) (ho8 : o < 8) (ih : ihM o b bn bk L c e f) (hd : 5 * f ≤ d) (h0 : aD o f 2 2 = true) (h : acM bn bk ((aT o f 2 2).length + 1) I) : jev (d + 1) 249 [.ref 58, .int (nI b), .int 3, .int x] (jmk I L c e) = some (some (.int ((aV o (nI b) f 2 2 x) * 3)), jmk ((aT o f 2 2).foldl adM (adM I 40)) L c e) := by
  have g := acM_ad (n := 40) h
  rw [jb_249_0, jb_249_1]
  show jat (d + 1) 249 46 _ _ _ = _
  rw [jb_249_46, q_246 (n := 40) (y := 40) rfl h]
  simp only [Option.bind_some, jps]
  rw [jb_249_52]
  have i0 : jev (d) 249 [.ref 58, .int (nI b), .int (2), .int x] (jmk (adM I 40) L c e) = some (some (.int (aV o (nI b) f 2 2 x)), jmk ((aT o f 2 2).foldl adM (adM I 40)) L c e) := ih 2 2 (d) x _ (by decide) (by decide) h0 (by omega) (acM_le g (by omega))
  rw [show jcl (d + 1) 249 249 = jev d 249 from rfl, i0]
  simp only [Option.bind_some, jps]
  rw [jb_249_59]
theorem q_M_50 {o f d : Nat} (hb : b < bn) (hbn : bn ≤ 50) (ho : bk b = o) (ho8 : o < 8) (ih : ihM o b bn bk L c e f) (hd : 5 * f ≤ d) (h0 : aD o f 2 1 = true) (h1 : aD o f 0 o = true) (h : acM bn bk ((aT o f 2 1).length + (aT o f 0 o).length + 1) I) : jev (d + 1) 249 [.ref 58, .int (nI b), .int 4, .int x] (jmk I L c e) = some (some (.int ((aV o (nI b) f 2 1 x) - (aV o (nI b) f 0 o 2))), jmk ((aT o f 2 1 ++ aT o f 0 o).foldl adM (adM I 50)) L c e) := by
  have g := acM_ad (n := 50) h
  rw [jb_249_0, jb_249_1]
  show jat (d + 1) 249 62 _ _ _ = _
  rw [jb_249_62, q_246 (n := 50) (y := 50) rfl h]
  simp only [Option.bind_some, jps]
  rw [jb_249_68]
  have i0 : jev (d) 249 [.ref 58, .int (nI b), .int (1), .int x] (jmk (adM I 50) L c e) = some (some (.int (aV o (nI b) f 2 1 x)), jmk ((aT o f 2 1).foldl adM (adM I 50)) L c e) := ih 2 1 (d) x _ (by decide) (by decide) h0 (by omega) (acM_le g (by omega))
  rw [show jcl (d + 1) 249 249 = jev d 249 from rfl, i0]
  simp only [Option.bind_some, jps]
  rw [jb_249_75]
  have g2 : acM bn bk ((aT o f 0 o).length) ((aT o f 2 1).foldl adM (adM I 50)) := acM_fo _ (acM_le g (by omega))
  have k1 : ((aT o f 2 1).foldl adM (adM I 50)) 83 b = nI o := by rw [(g2.1.2 b hb).2, ho]
  rw [jdI (show b < 50 by omega), cond_true, jcl' (by omega), k1]
  have i1 : jev (d + 1) 247 [.ref 58, .int (nI b), .int (nI o), .int 2] (jmk ((aT o f 2 1).foldl adM (adM I 50)) L c e) = some (some (.int (aV o (nI b) f 0 o 2)), jmk ((aT o f 0 o).foldl adM ((aT o f 2 1).foldl adM (adM I 50))) L c e) := ih 0 o (d + 1) 2 _ (by decide) ho8 h1 (by omega) (acM_le g2 (by omega))
  rw [i1]
  simp only [Option.bind_some, jps]
  rw [jb_249_91, List.foldl_append]
theorem q_M_2 {o f d : Nat} (hb : b < bn) (hbn : bn ≤ 50) (ho : bk b = o) (ho8 : o < 8) (ih : ihM o b bn bk L c e f) (hd : 5 * f ≤ d) (h0 : aD o f 1 o = true) (h1 : aD o f 2 o = true) (h : acM bn bk ((aT o f 1 o).length + (aT o f 2 o).length + 1) I) : jev (d + 1) 250 [.ref 58, .int (nI b), .int 0, .int x] (jmk I L c e) = some (some (.int ((aV o (nI b) f 1 o x) - (aV o (nI b) f 2 o 1))), jmk ((aT o f 1 o ++ aT o f 2 o).foldl adM (adM I 2)) L c e) := by
  have g := acM_ad (n := 2) h
  rw [jb_250_0, jb_250_1]
  show jat (d + 1) 250 36 _ _ _ = _
  rw [jb_250_36, q_246 (n := 2) (y := 2) rfl h]
  simp only [Option.bind_some, jps]
  rw [jb_250_41]
  have k0 : (adM I 2) 83 b = nI o := by rw [(g.1.2 b hb).2, ho]
  rw [jdI (show b < 50 by omega), cond_true, jcl' (by omega), k0]
  have i0 : jev (d + 1) 248 [.ref 58, .int (nI b), .int (nI o), .int x] (jmk (adM I 2) L c e) = some (some (.int (aV o (nI b) f 1 o x)), jmk ((aT o f 1 o).foldl adM (adM I 2)) L c e) := ih 1 o (d + 1) x _ (by decide) ho8 h0 (by omega) (acM_le g (by omega))
  rw [i0]
  simp only [Option.bind_some, jps]
  rw [jb_250_53]
  have g2 : acM bn bk ((aT o f 2 o).length) ((aT o f 1 o).foldl adM (adM I 2)) := acM_fo _ (acM_le g (by omega))
  have k1 : ((aT o f 1 o).foldl adM (adM I 2)) 83 b = nI o := by rw [(g2.1.2 b hb).2, ho]
  rw [jdI (show b < 50 by omega), cond_true, jcl' (by omega), k1]
  have i1 : jev (d + 1) 249 [.ref 58, .int (nI b), .int (nI o), .int 1] (jmk ((aT o f 1 o).foldl adM (adM I 2)) L c e) = some (some (.int (aV o (nI b) f 2 o 1)), jmk ((aT o f 2 o).foldl adM ((aT o f 1 o).foldl adM (adM I 2))) L c e) := ih 2 o (d + 1) 1 _ (by decide) ho8 h1 (by omega) (acM_le g2 (by omega))
  rw [i1]
  simp only [Option.bind_some, jps]
  rw [jb_250_69, List.foldl_append]
theorem q_M_60 {o f d : Nat} (hb : b < bn) (hbn : bn ≤ 50) (ho : bk b = o) (ho8 : o < 8) (ih : ihM o b bn bk L c e f) (hd : 5 * f ≤ d) (h0 : aD o f 3 3 = true) (h : acM bn bk ((aT o f 3 3).length + 1) I) : jev (d + 1) 250 [.ref 58, .int (nI b), .int 5, .int x] (jmk I L c e) = some (some (.int ((aV o (nI b) f 3 3 x) ^^^ 5)), jmk ((aT o f 3 3).foldl adM (adM I 60)) L c e) := by
  have g := acM_ad (n := 60) h
  rw [jb_250_0, jb_250_1]
  show jat (d + 1) 250 71 _ _ _ = _
  rw [jb_250_71, q_246 (n := 60) (y := 60) rfl h]
  simp only [Option.bind_some, jps]
  rw [jb_250_77]
  have i0 : jev (d) 250 [.ref 58, .int (nI b), .int (3), .int x] (jmk (adM I 60) L c e) = some (some (.int (aV o (nI b) f 3 3 x)), jmk ((aT o f 3 3).foldl adM (adM I 60)) L c e) := ih 3 3 (d) x _ (by decide) (by decide) h0 (by omega) (acM_le g (by omega))
  rw [show jcl (d + 1) 250 250 = jev d 250 from rfl, i0]
  simp only [Option.bind_some, jps]
  rw [jb_250_84]
theorem q_M_81 {o f d : Nat} (hb : b < bn) (hbn : bn ≤ 50) (ho : bk b = o) (ho8 : o < 8) (ih : ihM o b bn bk L c e f) (hd : 5 * f ≤ d) (h0 : aD o f 3 4 = true) (h : acM bn bk ((aT o f 3 4).length + 1) I) : jev (d + 1) 250 [.ref 58, .int (nI b), .int 7, .int x] (jmk I L c e) = some (some (.int ((aV o (nI b) f 3 4 x) - 1)), jmk ((aT o f 3 4).foldl adM (adM I 81)) L c e) := by
  have g := acM_ad (n := 81) h
  rw [jb_250_0, jb_250_1]
  show jat (d + 1) 250 87 _ _ _ = _
  rw [jb_250_87, q_246 (n := 81) (y := 81) rfl h]
  simp only [Option.bind_some, jps]
  rw [jb_250_93]
  have i0 : jev (d) 250 [.ref 58, .int (nI b), .int (4), .int x] (jmk (adM I 81) L c e) = some (some (.int (aV o (nI b) f 3 4 x)), jmk ((aT o f 3 4).foldl adM (adM I 81)) L c e) := ih 3 4 (d) x _ (by decide) (by decide) h0 (by omega) (acM_le g (by omega))
  rw [show jcl (d + 1) 250 250 = jev d 250 from rfl, i0]
  simp only [Option.bind_some, jps]
  rw [jb_250_100]
theorem q_U_0 {d k : Nat} {v : Int32} {I2 : Nat → Nat → Int32} (hk : k < 8) (h0 : jOWN (4 * k + 0) = 0) (h : jev d 247 [.ref 58, .int y, .int (nI (par k)), .int x] (jmk I L c e) = some (some (.int v), jmk I2 L c e)) : jev (d + 1) 247 [.ref 58, .int y, .int (nI k), .int x] (jmk I L c e) = some (some (.int v), jmk I2 L c e) := by
  have hk0 : 0 < k := by
    rcases Nat.eq_zero_or_pos k with rfl | q
    · exact absurd h0 (by decide)
    · exact q
  rw [jb_247_0, jb_247_1]
  have hs : k = 2 ∨ k = 3 ∨ k = 4 ∨ k = 5 ∨ k = 7 := by
    have : ∀ k, k < 8 → jOWN (4 * k + 0) = 0 → k = 2 ∨ k = 3 ∨ k = 4 ∨ k = 5 ∨ k = 7 := by decide
    exact this k hk h0
  have hj : jat (d + 1) 247 77 [.ref 58, .int y, .int (nI k), .int x] [] (jmk I L c e) = some (some (.int v), jmk I2 L c e) := by
    rw [jb_247_77, q_245 hk hk0]
    simp only [Option.bind_some, jps]
    rw [jb_247_83, show jcl (d + 1) 247 247 = jev d 247 from rfl, h]
    simp only [Option.bind_some, jps]
    rw [jb_247_87]
  rcases hs with rfl | rfl | rfl | rfl | rfl
  all_goals exact hj
theorem q_U_1 {d k : Nat} {v : Int32} {I2 : Nat → Nat → Int32} (hk : k < 8) (h0 : jOWN (4 * k + 1) = 0) (h : jev d 248 [.ref 58, .int y, .int (nI (par k)), .int x] (jmk I L c e) = some (some (.int v), jmk I2 L c e)) : jev (d + 1) 248 [.ref 58, .int y, .int (nI k), .int x] (jmk I L c e) = some (some (.int v), jmk I2 L c e) := by
  have hk0 : 0 < k := by
    rcases Nat.eq_zero_or_pos k with rfl | q
    · exact absurd h0 (by decide)
    · exact q
  rw [jb_248_0, jb_248_1]
  have hs : k = 1 ∨ k = 4 ∨ k = 5 ∨ k = 6 := by
    have : ∀ k, k < 8 → jOWN (4 * k + 1) = 0 → k = 1 ∨ k = 4 ∨ k = 5 ∨ k = 6 := by decide
    exact this k hk h0
  have hj : jat (d + 1) 248 131 [.ref 58, .int y, .int (nI k), .int x, .null] [] (jmk I L c e) = some (some (.int v), jmk I2 L c e) := by
    rw [jb_248_131, q_245 hk hk0]
    simp only [Option.bind_some, jps]
    rw [jb_248_137, show jcl (d + 1) 248 248 = jev d 248 from rfl, h]
    simp only [Option.bind_some, jps]
    rw [jb_248_141]
  rcases hs with rfl | rfl | rfl | rfl
  all_goals exact hj
theorem q_U_2 {d k : Nat} {v : Int32} {I2 : Nat → Nat → Int32} (hk : k < 8) (h0 : jOWN (4 * k + 2) = 0) (h : jev d 249 [.ref 58, .int y, .int (nI (par k)), .int x] (jmk I L c e) = some (some (.int v), jmk I2 L c e)) : jev (d + 1) 249 [.ref 58, .int y, .int (nI k), .int x] (jmk I L c e) = some (some (.int v), jmk I2 L c e) := by
  have hk0 : 0 < k := by
    rcases Nat.eq_zero_or_pos k with rfl | q
    · exact absurd h0 (by decide)
    · exact q
  rw [jb_249_0, jb_249_1]
  have hs : k = 1 ∨ k = 2 ∨ k = 5 ∨ k = 6 ∨ k = 7 := by
    have : ∀ k, k < 8 → jOWN (4 * k + 2) = 0 → k = 1 ∨ k = 2 ∨ k = 5 ∨ k = 6 ∨ k = 7 := by decide
    exact this k hk h0
  have hj : jat (d + 1) 249 93 [.ref 58, .int y, .int (nI k), .int x, .null] [] (jmk I L c e) = some (some (.int v), jmk I2 L c e) := by
    rw [jb_249_93, q_245 hk hk0]
    simp only [Option.bind_some, jps]
    rw [jb_249_99, show jcl (d + 1) 249 249 = jev d 249 from rfl, h]
    simp only [Option.bind_some, jps]
    rw [jb_249_103]
  rcases hs with rfl | rfl | rfl | rfl | rfl
  all_goals exact hj
theorem q_U_3 {d k : Nat} {v : Int32} {I2 : Nat → Nat → Int32} (hk : k < 8) (h0 : jOWN (4 * k + 3) = 0) (h : jev d 250 [.ref 58, .int y, .int (nI (par k)), .int x] (jmk I L c e) = some (some (.int v), jmk I2 L c e)) : jev (d + 1) 250 [.ref 58, .int y, .int (nI k), .int x] (jmk I L c e) = some (some (.int v), jmk I2 L c e) := by
  have hk0 : 0 < k := by
    rcases Nat.eq_zero_or_pos k with rfl | q
    · exact absurd h0 (by decide)
    · exact q
  rw [jb_250_0, jb_250_1]
  have hs : k = 1 ∨ k = 2 ∨ k = 3 ∨ k = 4 ∨ k = 6 := by
    have : ∀ k, k < 8 → jOWN (4 * k + 3) = 0 → k = 1 ∨ k = 2 ∨ k = 3 ∨ k = 4 ∨ k = 6 := by decide
    exact this k hk h0
  have hj : jat (d + 1) 250 103 [.ref 58, .int y, .int (nI k), .int x, .null] [] (jmk I L c e) = some (some (.int v), jmk I2 L c e) := by
    rw [jb_250_103, q_245 hk hk0]
    simp only [Option.bind_some, jps]
    rw [jb_250_109, show jcl (d + 1) 250 250 = jev d 250 from rfl, h]
    simp only [Option.bind_some, jps]
    rw [jb_250_113]
  rcases hs with rfl | rfl | rfl | rfl | rfl
  all_goals exact hj
theorem q_Ul {a : Nat} (ha : a < 4) {v : Int32} {I2 : Nat → Nat → Int32} : ∀ j k d : Nat, k < 8 → (∀ d', d ≤ d' → jev d' (247 + a) [.ref 58, .int y, .int (nI (owF a j k)), .int x] (jmk I L c e) = some (some (.int v), jmk I2 L c e)) → jev (d + j) (247 + a) [.ref 58, .int y, .int (nI k), .int x] (jmk I L c e) = some (some (.int v), jmk I2 L c e) := by
  intro j
  induction j with
  | zero => intro k d hk h; exact h d (Nat.le_refl d)
  | succ j ih =>
    intro k d hk h
    unfold owF at h
    by_cases h0 : jOWN (4 * k + a) = 0
    · rw [if_pos h0] at h
      have hk0 := ((ow_all a ha k hk).2.2.2.1 h0).1
      have i1 := ih (par k) d (par_8 k hk hk0) h
      have : a = 0 ∨ a = 1 ∨ a = 2 ∨ a = 3 := by omega
      rcases this with rfl | rfl | rfl | rfl
      · exact q_U_0 hk h0 i1
      · exact q_U_1 hk h0 i1
      · exact q_U_2 hk h0 i1
      · exact q_U_3 hk h0 i1
    · rw [if_neg h0] at h
      exact h (d + (j + 1)) (by omega)
theorem q_M {o : Nat} (hb : b < bn) (hbn : bn ≤ 50) (ho : bk b = o) (ho8 : o < 8) : ∀ f, ihM o b bn bk L c e f := by
  intro f
  induction f with
  | zero => intro a k d x I _ _ h; cases h
  | succ f ih =>
    intro a k d x I ha hk hD hd h
    obtain ⟨d, rfl⟩ : ∃ d2, d = d2 + 4 := ⟨d - 4, by omega⟩
    obtain ⟨o1, o2, o3, o4, o5⟩ := ow_all a ha k hk
    apply q_Ul ha 4 k d hk
    intro d' hd'
    obtain ⟨d', rfl⟩ : ∃ d2, d' = d2 + 1 := ⟨d' - 1, by omega⟩
    show jev (d' + 1) (247 + a) [.ref 58, .int (nI b), .int (nI (ow a k)), .int x] (jmk I L c e) = _
    have hcase : 4 * ow a k + a ∈ [0, 4, 24, 1, 9, 13, 29, 2, 14, 18, 3, 23, 31] := by
      have : ∀ a, a < 4 → ∀ p, p < 8 → jOWN (4 * p + a) ≠ 0 → 4 * p + a ∈ [0, 4, 24, 1, 9, 13, 29, 2, 14, 18, 3, 23, 31] := by decide
      exact this a ha _ o1 o2
    simp only [List.mem_cons, List.not_mem_nil, or_false] at hcase
    rcases hcase with hm | hm | hm | hm | hm | hm | hm | hm | hm | hm | hm | hm | hm
    · obtain ⟨rfl, hp⟩ : a = 0 ∧ ow a k = 0 := by omega
      simp only [aD, aT, aV, hp] at hD h ⊢
      have h2 : acM bn bk (0 + 1) I := acM_le h (by simp)
      exact q_M_1 hb hbn ho ho8 ih (by omega) h2
    · obtain ⟨rfl, hp⟩ : a = 0 ∧ ow a k = 1 := by omega
      simp only [aD, aT, aV, hp] at hD h ⊢
      have h2 : acM bn bk ((aT o f 0 0).length + 1) I := acM_le h (by simp)
      exact q_M_20 hb hbn ho ho8 ih (by omega) hD h2
    · obtain ⟨rfl, hp⟩ : a = 0 ∧ ow a k = 6 := by omega
      simp only [aD, aT, aV, hp] at hD h ⊢
      have h2 : acM bn bk ((aT o f 0 0).length + 1) I := acM_le h (by simp)
      exact q_M_70 hb hbn ho ho8 ih (by omega) hD h2
    · obtain ⟨rfl, hp⟩ : a = 1 ∧ ow a k = 0 := by omega
      simp only [aD, aT, aV, hp] at hD h ⊢
      have h2 : acM bn bk ((aT o f 0 o).length + 1) I := acM_le h (by simp)
      exact q_M_10 hb hbn ho ho8 ih (by omega) hD h2
    · obtain ⟨rfl, hp⟩ : a = 1 ∧ ow a k = 2 := by omega
      simp only [aD, aT, aV, hp] at hD h ⊢
      have h2 : acM bn bk ((aT o f 1 0).length + 1) I := acM_le h (by simp)
      exact q_M_30 hb hbn ho ho8 ih (by omega) hD h2
    · obtain ⟨rfl, hp⟩ : a = 1 ∧ ow a k = 3 := by omega
      simp only [aD, aT, aV, hp] at hD h ⊢
      have h2 : acM bn bk ((aT o f 1 2).length + 1) I := acM_le h (by simp)
      exact q_M_41 hb hbn ho ho8 ih (by omega) hD h2
    · obtain ⟨rfl, hp⟩ : a = 1 ∧ ow a k = 7 := by omega
      simp only [aD, aT, aV, hp, Bool.and_eq_true] at hD h ⊢
      have h2 : acM bn bk ((aT o f 1 4).length + (aT o f 2 o).length + 1) I := acM_le h (by simp <;> omega)
      exact q_M_80 hb hbn ho ho8 ih (by omega) hD.1 hD.2 h2
    · obtain ⟨rfl, hp⟩ : a = 2 ∧ ow a k = 0 := by omega
      simp only [aD, aT, aV, hp] at hD h ⊢
      have h2 : acM bn bk (0 + 1) I := acM_le h (by simp)
      exact q_M_11 hb hbn ho ho8 ih (by omega) h2
    · obtain ⟨rfl, hp⟩ : a = 2 ∧ ow a k = 3 := by omega
      simp only [aD, aT, aV, hp] at hD h ⊢
      have h2 : acM bn bk ((aT o f 2 2).length + 1) I := acM_le h (by simp)
      exact q_M_40 hb hbn ho ho8 ih (by omega) hD h2
    · obtain ⟨rfl, hp⟩ : a = 2 ∧ ow a k = 4 := by omega
      simp only [aD, aT, aV, hp, Bool.and_eq_true] at hD h ⊢
      have h2 : acM bn bk ((aT o f 2 1).length + (aT o f 0 o).length + 1) I := acM_le h (by simp <;> omega)
      exact q_M_50 hb hbn ho ho8 ih (by omega) hD.1 hD.2 h2
    · obtain ⟨rfl, hp⟩ : a = 3 ∧ ow a k = 0 := by omega
      simp only [aD, aT, aV, hp, Bool.and_eq_true] at hD h ⊢
      have h2 : acM bn bk ((aT o f 1 o).length + (aT o f 2 o).length + 1) I := acM_le h (by simp <;> omega)
      exact q_M_2 hb hbn ho ho8 ih (by omega) hD.1 hD.2 h2
    · obtain ⟨rfl, hp⟩ : a = 3 ∧ ow a k = 5 := by omega
      simp only [aD, aT, aV, hp] at hD h ⊢
      have h2 : acM bn bk ((aT o f 3 3).length + 1) I := acM_le h (by simp)
      exact q_M_60 hb hbn ho ho8 ih (by omega) hD h2
    · obtain ⟨rfl, hp⟩ : a = 3 ∧ ow a k = 7 := by omega
      simp only [aD, aT, aV, hp] at hD h ⊢
      have h2 : acM bn bk ((aT o f 3 4).length + 1) I := acM_le h (by simp)
      exact q_M_81 hb hbn ho ho8 ih (by omega) hD h2
end ACM
/-- act: the answer, the trace -/
def opAct (b : Nat) (bk : Nat → Nat) (x y z : Int32) : Int32 × List Nat := if jin x b ∧ jin y 4 then (aV (bk x.toNatClampNeg) x 18 y.toNatClampNeg (bk x.toNatClampNeg) z, aT (bk x.toNatClampNeg) 18 y.toNatClampNeg (bk x.toNatClampNeg)) else (0, [])
section ACO
variable {d : Nat} {I : Nat → Nat → Int32} {L : Nat → Nat → Int64} {c e : Nat} {x y z : Int32} {b : Nat} {bk : Nat → Nat} {l : List Nat}
theorem c_act (hd : 100 ≤ d) (hb : b ≤ 50) (h : boC b bk I) : ∃ I', jev d 132 [.ref 0, .int x, .int y, .int z] (jmk I L c e) = some (some (.int (opAct b bk x y z).1), jmk I' L c e) ∧ trC (opAct b bk x y z).2 I' ∧ ∀ q j, ¬ (q = 29 ∧ j = 2) → ¬ (q = 29 ∧ j = 4) → q ≠ 31 → I' q j = I q j := by
  unfold opAct
  rw [jb_132_0, jb_17_0, q_13]
  simp only [Option.bind_some, jps]
  rw [jb_17_10, show ju I 29 4 0 29 3 = I 29 3 from rfl, h.1, nI_toInt (by omega)]
  simp only [Bool.cond_decide, j01, jlt_iff, Int32.reduceToInt]
  by_cases hx : jin x b
  · have hx2 : ¬¬ (0 ≤ x.toInt ∧ x.toInt < (b : Int)) := fun q => q hx
    rw [if_neg hx2]
    by_cases hy : jin y 4
    · have hand : jin x b ∧ jin y 4 := ⟨hx, hy⟩
      have h50 : jin x 50 := by omega
      rw [if_neg (by omega), if_pos (by omega), if_pos hand, if_pos h50]
      obtain ⟨i, hi, rfl⟩ := (jin_iff (by omega)).mp hx
      obtain ⟨a, ha, rfl⟩ := (jin_iff (by omega)).mp hy
      have c1 : (nI i).toNatClampNeg = i := jcl' (by omega)
      have c2 : (nI a).toNatClampNeg = a := jcl' (by omega)
      have ho8 := (h.2 i hi).1
      obtain ⟨p1, p2⟩ := aD_all (bk i) ho8 a ha
      have hk : ju I 29 4 0 30 i = nI (bk i) := (h.2 i hi).2
      rw [c1, c2, hk]
      have g : acC i b bk (aT (bk i) 18 a (bk i)).length (ju (ju I 29 4 0) 29 2 (nI i)) := ⟨rfl, ⟨h.1, fun j hj => h.2 j hj⟩, 0, rfl, by omega⟩
      have i1 : jev d 18 [.ref 29, .int (nI (bk i)), .int (nI a), .int z, .int 0] (jmk (ju (ju I 29 4 0) 29 2 (nI i)) L c e) = _ := q_18 (L := L) (c := c) (e := e) hi hb rfl ho8 18 a (bk i) d 0 z _ ha ho8 p1 (by omega) (by omega) g
      rw [i1]
      simp only [Option.bind_some, jps]
      rw [jb_17_42]
      simp only [Option.bind_some, jps]
      have t0 : trC [] (ju (ju I 29 4 0) 29 2 (nI i)) := ⟨rfl, by decide, fun k _ hk => absurd hk (by simp)⟩
      have t1 := trC_fo (aT (bk i) 18 a (bk i)) t0 (by simp; omega)
      rw [List.nil_append] at t1
      refine ⟨_, jb_132_10 .., t1, fun q j a1 a2 a3 => ?_⟩
      rw [foC_at a2 a3, ju_get, if_neg a1, ju_get, if_neg a2]
    · have hno : ¬ (jin x b ∧ jin y 4) := fun q => hy q.2
      rw [if_neg hno]
      refine ⟨ju I 29 4 0, ?_, ⟨rfl, by decide, fun k _ hk => absurd hk (by simp)⟩, fun q j a1 a2 a3 => by rw [ju_get, if_neg a2]⟩
      by_cases h0 : y.toInt < 0
      · rw [if_pos h0]
        exact jb_132_10 ..
      · rw [if_neg h0, if_neg (by omega)]
        exact jb_132_10 ..
  · have hno : ¬ (jin x b ∧ jin y 4) := fun q => hx q.1
    have hx2 : ¬ (0 ≤ x.toInt ∧ x.toInt < (b : Int)) := fun q => hx q
    rw [if_pos hx2, if_neg hno]
    exact ⟨ju I 29 4 0, jb_132_10 .., ⟨rfl, by decide, fun k _ hk => absurd hk (by simp)⟩, fun q j a1 a2 a3 => by rw [ju_get, if_neg a2]⟩
theorem m_act (hd : 100 ≤ d) (hb : b ≤ 50) (h : boM b bk I) : ∃ I', jev d 252 [.ref 58, .int x, .int y, .int z] (jmk I L c e) = some (some (.int (opAct b bk x y z).1), jmk I' L c e) ∧ trM (opAct b bk x y z).2 I' ∧ ∀ q j, ¬ (q = 58 ∧ j = 41) → q ≠ 84 → I' q j = I q j := by
  unfold opAct
  rw [jb_252_0, h.1, q_wid (by omega)]
  simp only [Option.bind_some, jps]
  rw [jb_252_16, q_163]
  simp only [Option.bind_some, jps, Bool.cond_decide, j01]
  rw [jb_252_25]
  simp only [Bool.cond_decide, j01, Int32.reduceToInt]
  by_cases hx : jin x b
  · have hx2 : ¬¬ jin x b := fun q => q hx
    rw [if_neg hx2]
    by_cases hy : jin y 4
    · have hy2 : ¬¬ (0 ≤ y.toInt ∧ y.toInt ≤ 3) := fun q => q (by omega)
      have hand : jin x b ∧ jin y 4 := ⟨hx, hy⟩
      have h50 : jin x 50 := by omega
      rw [if_pos hy2, if_pos hand, if_pos h50]
      obtain ⟨i, hi, rfl⟩ := (jin_iff (by omega)).mp hx
      obtain ⟨a, ha, rfl⟩ := (jin_iff (by omega)).mp hy
      have c1 : (nI i).toNatClampNeg = i := jcl' (by omega)
      have c2 : (nI a).toNatClampNeg = a := jcl' (by omega)
      have ho8 := (h.2 i hi).1
      obtain ⟨p1, p2⟩ := aD_all (bk i) ho8 a ha
      have hk : ju I 58 41 0 83 i = nI (bk i) := (h.2 i hi).2
      rw [c1, c2, hk]
      have g : acM b bk (aT (bk i) 18 a (bk i)).length (ju I 58 41 0) := ⟨⟨h.1, fun j hj => h.2 j hj⟩, 0, rfl, by omega⟩
      have i1 := q_M (L := L) (c := c) (e := e) hi hb rfl ho8 18 a (bk i) d z _ ha ho8 p1 (by omega) g
      have t0 : trM [] (ju I 58 41 0) := ⟨rfl, by decide, fun k _ hk => absurd hk (by simp)⟩
      have t1 := trM_fo (aT (bk i) 18 a (bk i)) t0 (by simp; omega)
      rw [List.nil_append] at t1
      refine ⟨_, ?_, t1, fun q j a2 a3 => ?_⟩
      · have : a = 0 ∨ a = 1 ∨ a = 2 ∨ a = 3 := by omega
        rcases this with rfl | rfl | rfl | rfl
        · rw [if_neg (by decide), show jev d 247 [.ref 58, .int (nI i), .int (nI (bk i)), .int z] _ = _ from i1]
          simp only [Option.bind_some, jps]
          rw [jb_252_50, jb_252_93]
        · rw [if_pos (by decide), if_neg (by decide), show jev d 248 [.ref 58, .int (nI i), .int (nI (bk i)), .int z] _ = _ from i1]
          simp only [Option.bind_some, jps]
          rw [jb_252_66, jb_252_93]
        · rw [if_pos (by decide), if_pos (by decide), if_neg (by decide), show jev d 249 [.ref 58, .int (nI i), .int (nI (bk i)), .int z] _ = _ from i1]
          simp only [Option.bind_some, jps]
          rw [jb_252_82, jb_252_93]
        · rw [if_pos (by decide), if_pos (by decide), if_pos (by decide), show jev d 250 [.ref 58, .int (nI i), .int (nI (bk i)), .int z] _ = _ from i1]
          simp only [Option.bind_some, jps]
          rw [jb_252_93]
      · rw [foM_at a2 a3, ju_get, if_neg a2]
    · have hno : ¬ (jin x b ∧ jin y 4) := fun q => hy q.2
      have hy2 : ¬¬¬ (0 ≤ y.toInt ∧ y.toInt ≤ 3) := fun q => q (fun q => hy (by omega))
      rw [if_neg hy2, if_neg hno]
      exact ⟨ju I 58 41 0, rfl, ⟨rfl, by decide, fun k _ hk => absurd hk (by simp)⟩, fun q j a2 a3 => by rw [ju_get, if_neg a2]⟩
  · have hno : ¬ (jin x b ∧ jin y 4) := fun q => hx q.1
    rw [if_pos hx, if_neg hno]
    exact ⟨ju I 58 41 0, rfl, ⟨rfl, by decide, fun k _ hk => absurd hk (by simp)⟩, fun q j a2 a3 => by rw [ju_get, if_neg a2]⟩
end ACO
