/-! the numbers of moves and of people: what they are, what fits, what changes -/
abbrev aPe : Type := Nat × Nat × Nat
def nu (v : Nat → aMv) (pe : Nat → aPe) (x y : Nat) : Nat := if y = 0 then (v x).2.2.1 else if y = 1 then (v x).2.2.2.1 else if y = 2 then (v x).2.2.2.2 else if y = 3 then (pe x).1 else if y = 4 then (pe x).2.1 else (pe x).2.2
def mset (v : Nat → aMv) (x y z : Nat) : Nat → aMv := fun i => if i = x then (if y = 0 then ((v i).1, (v i).2.1, z, (v i).2.2.2.1, (v i).2.2.2.2) else if y = 1 then ((v i).1, (v i).2.1, (v i).2.2.1, z, (v i).2.2.2.2) else if y = 2 then ((v i).1, (v i).2.1, (v i).2.2.1, (v i).2.2.2.1, z) else v i) else v i
def pset (pe : Nat → aPe) (x y z : Nat) : Nat → aPe := fun i => if i = x then (if y = 3 then (z, (pe i).2.1, (pe i).2.2) else if y = 4 then ((pe i).1, z, (pe i).2.2) else if y = 5 then ((pe i).1, (pe i).2.1, z) else pe i) else pe i
/-- such a number there is -/
abbrev isN (n m x y : Nat) : Prop := (y < 3 ∧ x < n) ∨ (3 ≤ y ∧ y < 6 ∧ x < m)
abbrev fitN (v : Nat → aMv) (x y z : Nat) : Prop := (y = 0 → z ≤ 3 ∧ ((v x).1 = 3 → z ≠ 2)) ∧ (y = 1 → z ≤ 3) ∧ (y = 2 → z ≤ 9) ∧ (y = 3 → z ≤ 9) ∧ (y = 4 → z < 4096) ∧ (y = 5 → 1 ≤ z ∧ z ≤ 9)
abbrev fitZ (v : Nat → aMv) (x y : Nat) (z : Int32) : Prop := 0 ≤ z.toInt ∧ fitN v x y z.toInt.toNat
abbrev cmI (n m : Nat) (x y : Int32) : Prop := (0 ≤ y.toInt ∧ y.toInt ≤ 2 ∧ jin x n) ∨ (3 ≤ y.toInt ∧ y.toInt ≤ 5 ∧ jin x m)
section NMB
variable {d : Nat} {I : Nat → Nat → Int32} {L : Nat → Nat → Int64} {c e : Nat} {x y z u w : Int32} {n m : Nat} {v : Nat → aMv} {pe : Nat → aPe} {D : Nat → Int32}
theorem cm_of (hn : n ≤ 12) (hm : m ≤ 6) (h : cmI n m x y) : ∃ x' y' : Nat, x = nI x' ∧ y = nI y' ∧ isN n m x' y' := by
  rcases h with ⟨h1, h2, h3⟩ | ⟨h1, h2, h3⟩
  · obtain ⟨i, hi, rfl⟩ := (jin_iff (by omega)).mp h3
    exact ⟨i, y.toInt.toNat, rfl, jnat h1, Or.inl ⟨by omega, hi⟩⟩
  · obtain ⟨i, hi, rfl⟩ := (jin_iff (by omega)).mp h3
    exact ⟨i, y.toInt.toNat, rfl, jnat (by omega), Or.inr ⟨by omega, by omega, hi⟩⟩
theorem cm_nI (hn : n ≤ 12) (hm : m ≤ 6) {i j : Nat} (h : isN n m i j) : cmI n m (nI i) (nI j) := by
  have e : (nI j).toInt = j := nI_toInt (by omega)
  rcases h with ⟨h1, h2⟩ | ⟨h1, h2, h3⟩
  · exact Or.inl ⟨by omega, by omega, jin_nI h2 (by omega)⟩
  · exact Or.inr ⟨by omega, by omega, jin_nI h3 (by omega)⟩
theorem q_63j (hm : m ≤ 6) (h : I 14 4 = nI m) : jev d 63 [.ref 14, .int x] (jmk I L c e) = some (some (.int (if jin x m then 1 else 0)), jmk I L c e) := by
  rw [q_63, h]
  congr 4
  apply jif
  rw [nI_toInt (by omega)]
theorem q_158 (hn : n ≤ 12) (hm : m ≤ 6) (h1 : I 7 6 = nI n) (h2 : I 14 4 = nI m) : jev d 158 [.ref 0, .int x, .int y] (jmk I L c e) = some (some (.int (if cmI n m x y then 1 else 0)), jmk I L c e) := by
  simp only [jb_158_0, jb_158_17, jb_158_18, jb_158_36, q_57j hn h1, q_63j hm h2, Option.bind_some, jps, Bool.cond_decide, j01, j01b, ite_true]
  simp only [jlt_iff, jle_iff, jeq_iff, Int32.reduceToInt]
  unfold cmI
  repeat' split
  all_goals first | rfl | (exfalso; omega)
theorem q_165 (hm : m ≤ 6) (h : I 58 6 = nI m) : jev d 165 [.ref 58, .int x] (jmk I L c e) = some (some (.int (if jin x m then 1 else 0)), jmk I L c e) := by
  rw [jb_165_0, q_163, h]
  simp only [Option.bind_some, jps]
  rw [jb_165_11, j01b, decide_eq_true rfl, cond_true]
  congr 4
  apply jif
  have h1 : (1 : Int32).toInt = 1 := rfl
  have h0 : (0 : Int32).toInt = 0 := rfl
  have hsub : (nI m - 1).toInt = (m : Int) - 1 := by
    rw [Int32.toInt_sub, h1, nI_toInt (by omega), Int.bmod_eq_of_le (by omega) (by omega)]
  rw [hsub, h0]
  show (0 ≤ x.toInt ∧ x.toInt ≤ (m : Int) - 1) ↔ (0 ≤ x.toInt ∧ x.toInt < (m : Int))
  omega
theorem q_178 (hm : m ≤ 6) (h1 : kitM n v I) (h2 : I 58 6 = nI m) : jev d 178 [.ref 58, .int x, .int y] (jmk I L c e) = some (some (.int (if cmI n m x y then 1 else 0)), jmk I L c e) := by
  simp only [jb_178_0, jb_178_6, jb_178_14, jb_178_23, jb_178_31, jb_178_39, q_163, q_164 h1, q_165 hm h2, Option.bind_some, jps, Bool.cond_decide, j01, j01b, ite_true, Int32.reduceToInt, show ((0 : Int32) &&& 1) = 0 from rfl, show ((1 : Int32) &&& 1) = 1 from rfl, decide_true]
  unfold cmI
  repeat' split
  all_goals first | rfl | (exfalso; omega)
theorem q_159 (h : kitC0 n v I) (hm : m ≤ 6) {i j : Nat} (hN : isN n m i j) : jev d 159 [.ref 0, .int (nI i), .int (nI j), .int z] (jmk I L c e) = some (some (.int (if fitZ v i j z then 1 else 0)), jmk I L c e) := by
  have hn := h.1
  have hj : j = 0 ∨ j = 1 ∨ j = 2 ∨ j = 3 ∨ j = 4 ∨ j = 5 := by omega
  unfold fitZ fitN
  rcases hj with rfl | rfl | rfl | rfl | rfl | rfl
  · rw [show nI 0 = 0 from rfl, q_159_0 h, jcl' (by omega)]
    have hi : i < n := by omega
    have := jin_nI hi (by omega)
    congr 4
    apply jif
    omega
  · rw [show nI 1 = 1 from rfl, q_159_1]
    congr 4
    apply jif
    omega
  · rw [show nI 2 = 2 from rfl, q_159_2]
    congr 4
    apply jif
    omega
  · rw [show nI 3 = 3 from rfl, q_159_3]
    congr 4
    apply jif
    omega
  · rw [show nI 4 = 4 from rfl, q_159_4]
    congr 4
    apply jif
    omega
  · rw [show nI 5 = 5 from rfl, q_159_5]
    congr 4
    apply jif
    omega
theorem q_179 (h : kitM n v I) (hm : m ≤ 6) {i j : Nat} (hN : isN n m i j) : jev d 179 [.ref 58, .int (nI i), .int (nI j), .int z] (jmk I L c e) = some (some (.int (if fitZ v i j z then 1 else 0)), jmk I L c e) := by
  have hn := h.1
  have hj : j = 0 ∨ j = 1 ∨ j = 2 ∨ j = 3 ∨ j = 4 ∨ j = 5 := by omega
  rw [jb_179_0, jb_179_1]
  rcases hj with rfl | rfl | rfl | rfl | rfl | rfl
  · have hi : i < n := by omega
    obtain ⟨hok, h59, h60, -⟩ := h.2.2 i hi
    have k1 := hok.1
    have k2 := hok.2.1
    have k3 := hok.2.2.1
    show jat d 179 40 _ _ _ = _
    rw [jb_179_40, jdI (by omega), jcl' (by omega), h59, h60, q_173]
    simp only [cond_true, Option.bind_some, jps]
    rw [jb_179_56, j01b, decide_eq_true rfl, cond_true]
    congr 4
    apply jif
    unfold srI
    rw [nI_toInt (by omega), nI_toInt (by omega)]
    unfold fitZ fitN
    omega
  · show jat d 179 57 _ _ _ = _
    rw [jb_179_57, q_163]
    simp only [cond_true, Option.bind_some, jps]
    rw [jb_179_63, j01b, decide_eq_true rfl, cond_true]
    simp only [Int32.reduceToInt]
    congr 4
    apply jif
    unfold fitZ fitN
    omega
  · show jat d 179 81 _ _ _ = _
    rw [jb_179_81, q_163]
    simp only [cond_true, Option.bind_some, jps]
    rw [jb_179_88, j01b, decide_eq_true rfl, cond_true]
    simp only [Int32.reduceToInt]
    congr 4
    apply jif
    unfold fitZ fitN
    omega
  · show jat d 179 81 _ _ _ = _
    rw [jb_179_81, q_163]
    simp only [cond_true, Option.bind_some, jps]
    rw [jb_179_88, j01b, decide_eq_true rfl, cond_true]
    simp only [Int32.reduceToInt]
    congr 4
    apply jif
    unfold fitZ fitN
    omega
  · show jat d 179 64 _ _ _ = _
    rw [jb_179_64, q_163]
    simp only [cond_true, Option.bind_some, jps]
    rw [jb_179_72, j01b, decide_eq_true rfl, cond_true]
    simp only [Int32.reduceToInt]
    congr 4
    apply jif
    unfold fitZ fitN
    omega
  · show jat d 179 73 _ _ _ = _
    rw [jb_179_73, q_163]
    simp only [cond_true, Option.bind_some, jps]
    rw [jb_179_80, j01b, decide_eq_true rfl, cond_true]
    simp only [Int32.reduceToInt]
    congr 4
    apply jif
    unfold fitZ fitN
    omega
theorem q_160 (h : kitC0 n v I) (hm : m ≤ 6) (h2 : peC m pe D I) {i j : Nat} (hN : isN n m i j) : jev d 160 [.ref 0, .int (nI i), .int (nI j)] (jmk I L c e) = some (some (.int (nI (nu v pe i j))), jmk I L c e) := by
  have hn := h.1
  rw [jb_160_0, q_158 hn hm h.2.1 h2.1, if_pos (cm_nI hn hm hN)]
  simp only [Option.bind_some, jps]
  rw [jb_160_6, jt_1, cond_true, jb_160_12]
  have hj : j = 0 ∨ j = 1 ∨ j = 2 ∨ j = 3 ∨ j = 4 ∨ j = 5 := by omega
  obtain ⟨-, p2, p3, -⟩ := h2
  rcases hj with rfl | rfl | rfl | rfl | rfl | rfl
  · have hi : i < n := by omega
    obtain ⟨-, k8, k9, k10, k11, k12⟩ := h.2.2 i hi
    show jat d 160 48 _ _ _ = _
    rw [jb_160_48, jdI (by omega), jcl' (by omega), k10]
    rfl
  · have hi : i < n := by omega
    obtain ⟨-, k8, k9, k10, k11, k12⟩ := h.2.2 i hi
    show jat d 160 58 _ _ _ = _
    rw [jb_160_58, jdI (by omega), jcl' (by omega), k11]
    rfl
  · have hi : i < n := by omega
    obtain ⟨-, k8, k9, k10, k11, k12⟩ := h.2.2 i hi
    show jat d 160 68 _ _ _ = _
    rw [jb_160_68, jdI (by omega), jcl' (by omega), k12]
    rfl
  · show jat d 160 78 _ _ _ = _
    rw [jb_160_78, jdI (by omega), jcl' (by omega), (p2 i (by omega)).1]
    rfl
  · show jat d 160 88 _ _ _ = _
    rw [jb_160_88, jdI (by omega), jcl' (by omega), p3 i (by omega)]
    rfl
  · show jat d 160 98 _ _ _ = _
    rw [jb_160_98, jdI (by omega), jcl' (by omega), (p2 i (by omega)).2]
    rfl
theorem q_180 (h : kitM n v I) (hm : m ≤ 6) (h2 : peM m pe D I) {i j : Nat} (hN : isN n m i j) : jev d 180 [.ref 58, .int (nI i), .int (nI j)] (jmk I L c e) = some (some (.int (nI (nu v pe i j))), jmk I L c e) := by
  have hn := h.1
  rw [jb_180_0, jb_180_1]
  have hj : j = 0 ∨ j = 1 ∨ j = 2 ∨ j = 3 ∨ j = 4 ∨ j = 5 := by omega
  obtain ⟨-, p2, p3, -⟩ := h2
  rcases hj with rfl | rfl | rfl | rfl | rfl | rfl
  · have hi : i < n := by omega
    obtain ⟨-, k8, k9, k10, k11, k12⟩ := h.2.2 i hi
    show jat d 180 36 _ _ _ = _
    rw [jb_180_36, jdI (by omega), jcl' (by omega), k10]
    rfl
  · have hi : i < n := by omega
    obtain ⟨-, k8, k9, k10, k11, k12⟩ := h.2.2 i hi
    show jat d 180 43 _ _ _ = _
    rw [jb_180_43, jdI (by omega), jcl' (by omega), k11]
    rfl
  · have hi : i < n := by omega
    obtain ⟨-, k8, k9, k10, k11, k12⟩ := h.2.2 i hi
    show jat d 180 50 _ _ _ = _
    rw [jb_180_50, jdI (by omega), jcl' (by omega), k12]
    rfl
  · show jat d 180 57 _ _ _ = _
    rw [jb_180_57, jdI (by omega), jcl' (by omega), (p2 i (by omega)).1]
    rfl
  · show jat d 180 64 _ _ _ = _
    rw [jb_180_64, jdI (by omega), jcl' (by omega), p3 i (by omega)]
    rfl
  · show jat d 180 71 _ _ _ = _
    rw [jb_180_71, jdI (by omega), jcl' (by omega), (p2 i (by omega)).2]
    rfl
end NMB
