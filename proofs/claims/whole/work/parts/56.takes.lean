/-! takes -/
def oneI : Option Nat → Int32
  | none => -1
  | some o => nI o
def oneOk (m : Nat) : Option Nat → Prop
  | none => True
  | some o => o < m
/-- seconds, if one knows it or not -/
def secK (lw : List aLn) (v : Nat → aMv) (pe : Nat → aPe) (one : Option Nat) (w s k : Nat) : Nat := match one with
  | none => 1
  | some o => secN lw (pe o).1 (v w).2.2.2.2 (s / 18) (s / 2 % 3) k w
/-- which moves one knows -/
def knO (pe : Nat → aPe) : Option Nat → Nat
  | none => 0
  | some o => (pe o).2.1
def secO (lw : List aLn) (v : Nat → aMv) (pe : Nat → aPe) (one : Option Nat) (w s : Nat) : Nat := secK lw v pe one w s (knO pe one / 2 ^ w % 2)
def opTakes (n : Nat) (v : Nat → aMv) (m : Nat) (pe : Nat → aPe) (lw : List aLn) (x y z : Int32) : Int32 := if (x.toInt = -1 ∨ jin x m) ∧ jin y n ∧ jin z 54 then nI (secO lw v pe (if x.toInt = -1 then none else some x.toNatClampNeg) y.toNatClampNeg z.toNatClampNeg) else -1
section TKS
variable {d : Nat} {I I' : Nat → Nat → Int32} {L : Nat → Nat → Int64} {c e : Nat} {x y z : Int32} {lw : List aLn} {n m w s k : Nat} {v : Nat → aMv} {pe : Nat → aPe} {D : Nat → Int32} {one : Option Nat}
theorem secK_le (hk1 : k ≤ 1) (hm : mvOk (v w)) : secK lw v pe one w s k ≤ 99 := by
  cases one with
  | none => exact (by decide : 1 ≤ 99)
  | some o => exact (secN_I (lw := lw) (p := (pe o).1) (f := s / 18) (n := s / 2 % 3) (m := w) hm.2.2.2.2.2.2 hk1).2
theorem q_63o (hm : m ≤ 6) (h : I 14 4 = nI m) (ho : oneOk m one) : jev d 63 [.ref 14, .int (oneI one)] (jmk I L c e) = some (some (.int (if one = none then 0 else 1)), jmk I L c e) := by
  rw [q_63j hm h]
  cases one with
  | none => rfl
  | some o =>
    have ho : o < m := ho
    rw [if_pos (show jin (oneI (some o)) m from jin_nI ho (by omega))]
    rfl
theorem q_82 (hce : ceOk c e) (hlo : lwOk lw) (hl : lwC lw c I) (hk : kitC n v I) (hp : peC m pe D I) (hpo : peOk m pe D) (ho : oneOk m one) (hw : w < n) (hs : s < 54) (hk1 : k ≤ 1) : ∃ I', jev d 82 [.ref 42, .int (oneI one), .int (nI w), .int (nI s), .int (nI k)] (jmk I L c e) = some (some (.int (nI (secK lw v pe one w s k))), jmk I' L c e) ∧ ∀ q j, ¬ (q = 1 ∧ j = 8) → q ≠ 3 → q ≠ 4 → I' q j = I q j := by
  obtain ⟨p1, p2, p3, p4⟩ := hp
  obtain ⟨o1, o2, o3, o4⟩ := hpo
  have hn := hk.1.1
  rw [jb_82_0, q_63o o1 p1 ho]
  simp only [Option.bind_some, jps]
  rw [jb_82_8]
  cases one with
  | none => exact ⟨I, rfl, fun _ _ _ _ _ => rfl⟩
  | some o =>
    have ho : o < m := ho
    obtain ⟨r1, r2, r3, r4⟩ := o2 o ho
    obtain ⟨u1, u2⟩ := p2 o ho
    obtain ⟨w1, -, -, -, -, w2⟩ := hk.1.2.2 w hw
    have w9 : (v w).2.2.2.2 ≤ 9 := w1.2.2.2.2.2.2
    obtain ⟨s1, s2⟩ := secN_I (lw := lw) (p := (pe o).1) (h := (v w).2.2.2.2) (f := s / 18) (n := s / 2 % 3) (k := k) (m := w) w9 hk1
    rw [if_neg (by simp), jt_2, cond_false, q_57j hn hk.1.2.1, if_pos (jin_nI hw (by omega))]
    simp only [Option.bind_some, jps]
    have g1 : decide (jin (oneI (some o)) 6) = true := jdI (by omega)
    have g2 : decide (jin (nI w) 12) = true := jdI (by omega)
    have k1 : (oneI (some o)).toNatClampNeg = o := jcl' (by omega)
    rw [jb_82_19, jt_1, cond_true, g1, g2, cond_true, cond_true, k1, jcl' (by omega), u1, w2, q_143p 0 (by decide) hs]
    simp only [Option.bind_some, jps]
    rw [jb_82_51, q_143p 2 (by decide) hs]
    simp only [Option.bind_some, jps]
    obtain ⟨I', f1, f2⟩ := q_37 (d := d) (L := L) hce hlo hl r1 w9 hk1 (f := s / 18) (n := s / 2 % 3) (m := w)
    refine ⟨I', ?_, f2⟩
    rw [jb_82_56, show pt 0 s = s / 18 from rfl, show pt 2 s = s / 2 % 3 from rfl, f1]
    simp only [Option.bind_some, jps]
    rw [jb_82_62, s1]
    rfl
theorem q_65 (hp : peC m pe D I) (hpo : peOk m pe D) (ho : oneOk m one) : jev d 65 [.ref 14, .int (oneI one)] (jmk I L c e) = some (some (.int (nI (knO pe one))), jmk I L c e) := by
  obtain ⟨p1, p2, p3, p4⟩ := hp
  have hm := hpo.1
  rw [jb_65_0, q_63o hm p1 ho]
  simp only [Option.bind_some, jps]
  rw [jb_65_5]
  cases one with
  | none => rfl
  | some o =>
    have ho : o < m := ho
    have g1 : decide (jin (oneI (some o)) 6) = true := jdI (by omega)
    have k1 : (oneI (some o)).toNatClampNeg = o := jcl' (by omega)
    rw [if_neg (by simp), jt_2, cond_false, g1, cond_true, k1, p3 o (by omega)]
    rfl
theorem knO_lt (hpo : peOk m pe D) (ho : oneOk m one) : knO pe one < 4096 := by
  cases one with
  | none => exact (by decide : 0 < 4096)
  | some o => exact (hpo.2.1 o ho).2.1
theorem q_81 (hce : ceOk c e) (hlo : lwOk lw) (hl : lwC lw c I) (hk : kitC n v I) (hp : peC m pe D I) (hpo : peOk m pe D) (ho : oneOk m one) (hw : w < n) (hs : s < 54) : ∃ I', jev d 81 [.ref 42, .int (oneI one), .int (nI w), .int (nI s)] (jmk I L c e) = some (some (.int (nI (secO lw v pe one w s))), jmk I' L c e) ∧ ∀ q j, ¬ (q = 1 ∧ j = 8) → q ≠ 3 → q ≠ 4 → I' q j = I q j := by
  have hn := hk.1.1
  have hb := knO_lt hpo ho
  obtain ⟨I', f1, f2⟩ := q_82 (d := d) (L := L) hce hlo hl hk hp hpo ho hw hs (k := knO pe one / 2 ^ w % 2) (by omega)
  refine ⟨I', ?_, f2⟩
  rw [jb_81_0, q_65 hp hpo ho]
  simp only [Option.bind_some, jps]
  rw [jb_81_12, bit_nI (by omega) (by omega), f1]
  simp only [Option.bind_some, jps]
  rw [jb_81_19]
  rfl
theorem one_of (hm : m ≤ 6) (h : x.toInt = -1 ∨ jin x m) : oneOk m (if x.toInt = -1 then none else some x.toNatClampNeg) ∧ x = oneI (if x.toInt = -1 then none else some x.toNatClampNeg) := by
  by_cases q : x.toInt = -1
  · rw [if_pos q]
    exact ⟨trivial, Int32.toInt_inj.mp q⟩
  · rw [if_neg q]
    obtain ⟨o, ho, rfl⟩ := (jin_iff (by omega)).mp (h.resolve_left q)
    rw [jcl' (by omega)]
    exact ⟨ho, rfl⟩
theorem q_150 (hm : m ≤ 6) (h : I 14 4 = nI m) : jev d 150 [.ref 0, .int x] (jmk I L c e) = some (some (.int (if x.toInt = -1 ∨ jin x m then 1 else 0)), jmk I L c e) := by
  rw [jb_150_0, q_63j hm h]
  simp only [Option.bind_some, jps, Bool.cond_decide, jb_150_13, j01]
  simp only [show x = -1 ↔ x.toInt = -1 from jeq_iff]
  by_cases h1 : x.toInt = -1
  · rw [if_pos h1, if_pos (Or.inl h1)]
  · rw [if_neg h1]
    by_cases h2 : jin x m
    · rw [if_neg (fun q => q h2), if_pos (Or.inr h2)]
    · rw [if_pos h2, if_neg (fun q => q.elim h1 h2)]
theorem q_166 (hm : m ≤ 6) (h : I 58 6 = nI m) : jev d 166 [.ref 58, .int x] (jmk I L c e) = some (some (.int (if x.toInt = -1 ∨ jin x m then 1 else 0)), jmk I L c e) := by
  rw [jb_166_0, h, q_163]
  simp only [Option.bind_some, jps]
  rw [jb_166_11, j01b, decide_eq_true rfl, cond_true]
  congr 4
  apply jif
  have h1 : (1 : Int32).toInt = 1 := rfl
  have hsub : (nI m - 1).toInt = (m : Int) - 1 := by
    rw [Int32.toInt_sub, h1, nI_toInt (by omega), Int.bmod_eq_of_le (by omega) (by omega)]
  rw [hsub, jtm1]
  show (-1 ≤ x.toInt ∧ x.toInt ≤ (m : Int) - 1) ↔ (x.toInt = -1 ∨ (0 ≤ x.toInt ∧ x.toInt < (m : Int)))
  omega
theorem c_takes (hce : ceOk c e) (hlo : lwOk lw) (hl : lwC lw c I) (hk : kitC n v I) (hp : peC m pe D I) (hpo : peOk m pe D) : ∃ I', jev d 104 [.ref 0, .int x, .int y, .int z] (jmk I L c e) = some (some (.int (opTakes n v m pe lw x y z)), jmk I' L c e) ∧ ∀ q j, ¬ (q = 1 ∧ j = 8) → q ≠ 3 → q ≠ 4 → I' q j = I q j := by
  have hn := hk.1.1
  have hm := hpo.1
  unfold opTakes
  simp only [jb_104_0, q_150 hm hp.1, Option.bind_some, jps, jb_104_5, q_57j hn hk.1.2.1, jb_104_16, q_141, jb_104_23, Bool.cond_decide, j01]
  by_cases hx : x.toInt = -1 ∨ jin x m
  · have hx2 : ¬¬ (x.toInt = -1 ∨ jin x m) := fun q => q hx
    rw [if_neg hx2]
    by_cases hy : jin y n
    · have hy2 : ¬¬ jin y n := fun q => q hy
      rw [if_neg hy2]
      by_cases hz : jin z 54
      · have hz2 : ¬¬ jin z 54 := fun q => q hz
        have hxyz : (x.toInt = -1 ∨ jin x m) ∧ jin y n ∧ jin z 54 := ⟨hx, hy, hz⟩
        rw [if_neg hz2, if_pos hxyz]
        obtain ⟨o1, o2⟩ := one_of hm hx
        obtain ⟨w, hw, rfl⟩ := (jin_iff (by omega)).mp hy
        obtain ⟨s, hs, rfl⟩ := (jin_iff (by omega)).mp hz
        obtain ⟨I', f1, f2⟩ := q_81 (d := d) (L := L) hce hlo hl hk hp hpo o1 hw hs
        rw [← o2] at f1
        refine ⟨I', ?_, f2⟩
        rw [f1]
        simp only [Option.bind_some, jps]
        rw [jb_104_36, jcl' (by omega), jcl' (by omega)]
      · have hno : ¬ ((x.toInt = -1 ∨ jin x m) ∧ jin y n ∧ jin z 54) := fun q => hz q.2.2
        rw [if_pos hz, if_neg hno]
        exact ⟨I, rfl, fun _ _ _ _ _ => rfl⟩
    · have hno : ¬ ((x.toInt = -1 ∨ jin x m) ∧ jin y n ∧ jin z 54) := fun q => hy q.2.1
      rw [if_pos hy, if_neg hno]
      exact ⟨I, rfl, fun _ _ _ _ _ => rfl⟩
  · have hno : ¬ ((x.toInt = -1 ∨ jin x m) ∧ jin y n ∧ jin z 54) := fun q => hx q.1
    rw [if_pos hx, if_neg hno]
    exact ⟨I, rfl, fun _ _ _ _ _ => rfl⟩
/-- seconds, the reference: of one or of nobody -/
theorem q_202o (hlo : lwOk lw) (hl : lwM lw I) (hk : kitM n v I) (hp : peM m pe D I) (hpo : peOk m pe D) (ho : oneOk m one) (hw : w < n) (hs : s < 54) : ∃ I', jev d 202 [.ref 58, .int (oneI one), .int (nI w), .int (nI s)] (jmk I L c e) = some (some (.int (nI (secO lw v pe one w s))), jmk I' L c e) ∧ ∀ q j, q ≠ 77 → I' q j = I q j := by
  cases one with
  | none =>
    refine ⟨I, ?_, fun _ _ _ => rfl⟩
    rw [jb_202_0]
    rfl
  | some o => exact q_202 hlo hl hk hp hpo ho hw hs
theorem m_takes (hlo : lwOk lw) (hl : lwM lw I) (hk : kitM n v I) (hp : peM m pe D I) (hpo : peOk m pe D) : ∃ I', jev d 207 [.ref 58, .int x, .int y, .int z] (jmk I L c e) = some (some (.int (opTakes n v m pe lw x y z)), jmk I' L c e) ∧ ∀ q j, q ≠ 77 → I' q j = I q j := by
  have hn := hk.1
  have hm := hpo.1
  unfold opTakes
  simp only [jb_207_0, q_166 hm hp.1, Option.bind_some, jps, jb_207_5, q_164 hk, jb_207_13, q_167, jb_207_20, Bool.cond_decide, j01]
  by_cases hx : x.toInt = -1 ∨ jin x m
  · have hx2 : ¬¬ (x.toInt = -1 ∨ jin x m) := fun q => q hx
    rw [if_neg hx2]
    by_cases hy : jin y n
    · have hy2 : ¬¬ jin y n := fun q => q hy
      rw [if_neg hy2]
      by_cases hz : jin z 54
      · have hz2 : ¬¬ jin z 54 := fun q => q hz
        have hxyz : (x.toInt = -1 ∨ jin x m) ∧ jin y n ∧ jin z 54 := ⟨hx, hy, hz⟩
        rw [if_neg hz2, if_pos hxyz]
        obtain ⟨o1, o2⟩ := one_of hm hx
        obtain ⟨w, hw, rfl⟩ := (jin_iff (by omega)).mp hy
        obtain ⟨s, hs, rfl⟩ := (jin_iff (by omega)).mp hz
        obtain ⟨I', f1, f2⟩ := q_202o (d := d) (L := L) (c := c) (e := e) hlo hl hk hp hpo o1 hw hs
        rw [← o2] at f1
        refine ⟨I', ?_, f2⟩
        rw [f1]
        simp only [Option.bind_some, jps]
        rw [jb_207_30, jcl' (by omega), jcl' (by omega)]
      · have hno : ¬ ((x.toInt = -1 ∨ jin x m) ∧ jin y n ∧ jin z 54) := fun q => hz q.2.2
        rw [if_pos hz, if_neg hno]
        exact ⟨I, rfl, fun _ _ _ => rfl⟩
    · have hno : ¬ ((x.toInt = -1 ∨ jin x m) ∧ jin y n ∧ jin z 54) := fun q => hy q.2.1
      rw [if_pos hy, if_neg hno]
      exact ⟨I, rfl, fun _ _ _ => rfl⟩
  · have hno : ¬ ((x.toInt = -1 ∨ jin x m) ∧ jin y n ∧ jin z 54) := fun q => hx q.1
    rw [if_pos hx, if_neg hno]
    exact ⟨I, rfl, fun _ _ _ => rfl⟩
end TKS
