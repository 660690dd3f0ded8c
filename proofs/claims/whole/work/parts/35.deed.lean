/-! of; chairs in deed: lay, led, image, back -/
def deC (s : Nat) (ld : Nat → Int32) (I : Nat → Nat → Int32) : Prop := I 37 1 = nI s ∧ ∀ j, j < 4 → I 38 j = ld j
def deM (s : Nat) (ld : Nat → Int32) (I : Nat → Nat → Int32) : Prop := I 58 11 = nI s ∧ ∀ j, j < 4 → I 78 j = ld j
abbrev aIm : Type := Nat × Nat × (Nat → Int32) × (Nat → Nat) × (Nat → Int32)
/-- the image: of how many people, the state, led, knows, how often -/
def imC : Option aIm → (Nat → Nat → Int32) → Prop
  | none, I => I 37 6 = 0
  | some u, I => I 37 6 = 1 ∧ I 37 5 = nI u.2.1 ∧ (∀ j, j < 4 → I 39 j = u.2.2.1 j) ∧ (∀ j, j < 6 → I 40 j = nI (u.2.2.2.1 j)) ∧ ∀ j, j < 72 → I 41 j = u.2.2.2.2 j
def imM : Option aIm → (Nat → Nat → Int32) → Prop
  | none, I => I 58 30 = 0
  | some u, I => I 58 30 = 1 ∧ I 58 31 = nI u.2.1 ∧ I 58 32 = nI u.1 ∧ (∀ j, j < 4 → I 81 j = u.2.2.1 j) ∧ (∀ j, j < 6 → I 79 j = nI (u.2.2.2.1 j)) ∧ ∀ j, j < 72 → I 80 j = u.2.2.2.2 j
def imOk (m : Nat) : Option aIm → Prop
  | none => True
  | some u => u.1 ≤ m ∧ u.2.1 < 54 ∧ (∀ i, u.2.2.2.1 i < 4096) ∧ (∀ i, u.1 ≤ i → u.2.2.2.1 i = 0) ∧ ∀ j, 12 * u.1 ≤ j → u.2.2.2.2 j = 0
def opOf (n m : Nat) (v : Nat → aMv) (pe : Nat → aPe) (s : Nat) (x y : Int32) : Int32 := if y.toInt = 8 then (if x.toInt = 0 then nI s else -1) else if y.toInt = 6 then (if jin x n then nI (v x.toNatClampNeg).1 else -1) else if y.toInt = 7 then (if jin x n then nI (v x.toNatClampNeg).2.1 else -1) else if cmI n m x y then nI (nu v pe x.toNatClampNeg y.toNatClampNeg) else -1
def opLay (s : Nat) (ld : Nat → Int32) (x : Int32) : Int32 × Nat × (Nat → Int32) := if jin x 54 then (nI s, x.toNatClampNeg, fun j => if j = 3 then ld 3 + 1 else ld j) else (-1, s, ld)
def opLed (ld : Nat → Int32) (x : Int32) : Int32 := if jin x 4 then ld x.toNatClampNeg else -1
def opImage (m : Nat) (pe : Nat → aPe) (D : Nat → Int32) (s : Nat) (ld : Nat → Int32) : Int32 × Option aIm := (ld 0, some (m, s, ld, fun i => (pe i).2.1, D))
def opBack (pe : Nat → aPe) (D : Nat → Int32) (s : Nat) (ld : Nat → Int32) : Option aIm → Int32 × (Nat → aPe) × (Nat → Int32) × Nat × (Nat → Int32)
  | none => (-5, pe, D, s, ld)
  | some u => (u.2.2.1 0, fun i => ((pe i).1, u.2.2.2.1 i, (pe i).2.2), u.2.2.2.2, u.2.1, u.2.2.1)
section DED
variable {d : Nat} {I : Nat → Nat → Int32} {L : Nat → Nat → Int64} {c e : Nat} {x y z : Int32} {n m k a s : Nat} {v : Nat → aMv} {pe : Nat → aPe} {D : Nat → Int32} {ld : Nat → Int32} {im : Option aIm}
theorem c_of (hk : kitC n v I) (hm : m ≤ 6) (hp : peC m pe D I) (hd : deC s ld I) : jev d 100 [.ref 0, .int x, .int y] (jmk I L c e) = some (some (.int (opOf n m v pe s x y)), jmk I L c e) := by
  have hn := hk.1.1
  unfold opOf
  rw [jb_100_0]
  simp only [Bool.cond_decide]
  simp only [jeq_iff, Int32.reduceToInt]
  by_cases h8 : y.toInt = 8
  · rw [if_neg (fun q => q h8), if_pos h8, hd.1]
    by_cases h0 : x.toInt = 0
    · rw [if_neg (fun q => q h0), if_pos h0]
    · rw [if_pos h0, if_neg h0]
  · rw [if_pos h8, if_neg h8]
    by_cases h6 : y.toInt = 6
    · rw [if_neg (fun q => q h6), if_pos h6, q_57j hn hk.1.2.1]
      simp only [Option.bind_some, jps]
      rw [jb_100_36]
      simp only [Bool.cond_decide, j01]
      by_cases hx : jin x n
      · obtain ⟨i, hi, rfl⟩ := (jin_iff (by omega)).mp hx
        rw [if_neg (fun q => q hx), if_pos hx, if_pos (jin_nI (by omega) (by omega)), jcl' (by omega), (hk.1.2.2 i hi).2.1]
      · rw [if_pos hx, if_neg hx]
    · rw [if_pos h6, if_neg h6]
      by_cases h7 : y.toInt = 7
      · rw [if_neg (fun q => q h7), if_pos h7, q_57j hn hk.1.2.1]
        simp only [Option.bind_some, jps]
        rw [jb_100_67]
        simp only [Bool.cond_decide, j01]
        by_cases hx : jin x n
        · obtain ⟨i, hi, rfl⟩ := (jin_iff (by omega)).mp hx
          rw [if_neg (fun q => q hx), if_pos hx, if_pos (jin_nI (by omega) (by omega)), jcl' (by omega), (hk.1.2.2 i hi).2.2.1]
        · rw [if_pos hx, if_neg hx]
      · rw [if_pos h7, if_neg h7, q_158 hn hm hk.1.2.1 hp.1]
        simp only [Option.bind_some, jps]
        rw [jb_100_90]
        simp only [Bool.cond_decide, j01]
        by_cases hcm : cmI n m x y
        · rw [if_neg (fun q => q hcm), if_pos hcm]
          obtain ⟨i, j, rfl, rfl, hN⟩ := cm_of hn hm hcm
          rw [q_160 hk.1 hm hp hN, jcl' (by omega), jcl' (by omega)]
          simp only [Option.bind_some, jps]
          rw [jb_100_99]
        · rw [if_pos hcm, if_neg hcm]
theorem m_of (hk : kitM n v I) (hm : m ≤ 6) (hp : peM m pe D I) (hd : deM s ld I) : jev d 183 [.ref 58, .int x, .int y] (jmk I L c e) = some (some (.int (opOf n m v pe s x y)), jmk I L c e) := by
  have hn := hk.1
  unfold opOf
  rw [jb_183_0, q_163]
  simp only [Option.bind_some, jps]
  rw [jb_183_8]
  simp only [Bool.cond_decide, j01]
  simp only [jeq_iff, Int32.reduceToInt]
  by_cases h67 : 6 ≤ y.toInt ∧ y.toInt ≤ 7
  · rw [if_neg (fun q => q h67), q_164 hk]
    simp only [Option.bind_some, jps]
    rw [jb_183_16]
    simp only [Bool.cond_decide, j01]
    simp only [jeq_iff, Int32.reduceToInt]
    by_cases hx : jin x n
    · obtain ⟨i, hi, rfl⟩ := (jin_iff (by omega)).mp hx
      rw [if_neg (fun q => q hx), if_pos hx, if_pos (jin_nI (by omega) (by omega)), if_pos (jin_nI (by omega) (by omega)), jcl' (by omega), (hk.2.2 i hi).2.1, (hk.2.2 i hi).2.2.1, if_neg (show ¬ y.toInt = 8 by omega)]
      by_cases h6 : y.toInt = 6
      · rw [if_neg (fun q => q h6), if_pos h6]
      · rw [if_pos h6, if_neg h6, if_pos (by omega), if_pos hx]
    · rw [if_pos hx, if_neg hx, if_neg hx]
      repeat' split
      all_goals first | rfl | (exfalso; omega)
  · rw [if_pos h67, if_neg (show ¬ y.toInt = 6 by omega), if_neg (show ¬ y.toInt = 7 by omega)]
    by_cases h8 : y.toInt = 8
    · rw [if_neg (fun q => q h8), if_pos h8, hd.1]
      by_cases h0 : x.toInt = 0
      · rw [if_neg (fun q => q h0), if_pos h0]
      · rw [if_pos h0, if_neg h0]
    · rw [if_pos h8, if_neg h8, q_178 hm hk hp.1]
      simp only [Option.bind_some, jps]
      rw [jb_183_70]
      simp only [Bool.cond_decide, j01]
      by_cases hcm : cmI n m x y
      · rw [if_neg (fun q => q hcm), if_pos hcm]
        obtain ⟨i, j, rfl, rfl, hN⟩ := cm_of hn hm hcm
        rw [q_180 hk hm hp hN, jcl' (by omega), jcl' (by omega)]
        simp only [Option.bind_some, jps]
        rw [jb_183_79]
      · rw [if_pos hcm, if_neg hcm]
theorem c_lay (hd : deC s ld I) : ∃ I', jev d 125 [.ref 0, .int x] (jmk I L c e) = some (some (.int (opLay s ld x).1), jmk I' L c e) ∧ deC (opLay s ld x).2.1 (opLay s ld x).2.2 I' ∧ ∀ q j, ¬ (q = 37 ∧ j = 1) → q ≠ 38 → I' q j = I q j := by
  unfold opLay
  rw [jb_125_0, q_141]
  simp only [Option.bind_some, jps]
  rw [jb_125_4]
  simp only [Bool.cond_decide, j01]
  by_cases hx : jin x 54
  · obtain ⟨t, ht, rfl⟩ := (jin_iff (by omega)).mp hx
    rw [if_neg (fun q => q hx), if_pos hx, jb_27_0, hd.1, jcl' (by omega)]
    refine ⟨_, jb_125_15 .., ⟨rfl, fun j hj => ?_⟩, fun q j h1 h2 => ?_⟩
    · simp only [ju_get]
      by_cases h3 : j = 3
      · subst h3
        rw [if_pos rfl, if_pos ⟨trivial, rfl⟩]
        show I 38 3 + 1 = _
        rw [hd.2 3 (by omega)]
      · rw [if_neg h3, if_neg (fun q => h3 q.2), if_neg (by omega)]
        exact hd.2 j hj
    · simp only [ju_get]
      rw [if_neg (fun q => h2 q.1), if_neg h1]
  · rw [if_pos hx, if_neg hx]
    exact ⟨I, rfl, hd, fun _ _ _ _ => rfl⟩
theorem m_lay (hd : deM s ld I) : ∃ I', jev d 241 [.ref 58, .int x] (jmk I L c e) = some (some (.int (opLay s ld x).1), jmk I' L c e) ∧ deM (opLay s ld x).2.1 (opLay s ld x).2.2 I' ∧ ∀ q j, ¬ (q = 58 ∧ j = 11) → q ≠ 78 → I' q j = I q j := by
  unfold opLay
  rw [jb_241_0, q_167]
  simp only [Option.bind_some, jps]
  rw [jb_241_4]
  simp only [Bool.cond_decide, j01]
  by_cases hx : jin x 54
  · obtain ⟨t, ht, rfl⟩ := (jin_iff (by omega)).mp hx
    have hxx : ¬¬ jin (nI t) 54 := fun q => q hx
    rw [if_pos hxx, if_pos hx, hd.1, jcl' (by omega)]
    refine ⟨_, rfl, ⟨rfl, fun j hj => ?_⟩, fun q j h1 h2 => ?_⟩
    · simp only [ju_get]
      by_cases h3 : j = 3
      · subst h3
        rw [if_pos rfl, if_pos ⟨trivial, rfl⟩]
        show I 78 3 + 1 = _
        rw [hd.2 3 (by omega)]
      · rw [if_neg h3, if_neg (fun q => h3 q.2), if_neg (by omega)]
        exact hd.2 j hj
    · simp only [ju_get]
      rw [if_neg (fun q => h2 q.1), if_neg h1]
  · rw [if_neg (fun q => q hx), if_neg hx]
    exact ⟨I, rfl, hd, fun _ _ _ _ => rfl⟩
theorem c_led (hd : deC s ld I) : jev d 126 [.ref 0, .int x] (jmk I L c e) = some (some (.int (opLed ld x)), jmk I L c e) := by
  unfold opLed
  rw [jb_126_0]
  simp only [Bool.cond_decide]
  simp only [jlt_iff, jle_iff, Int32.reduceToInt]
  by_cases hx : jin x 4
  · rw [if_neg (by omega), if_pos (by omega), if_pos hx, if_pos hx]
    obtain ⟨t, ht, rfl⟩ := (jin_iff (by omega)).mp hx
    rw [jcl' (by omega), hd.2 t ht]
  · rw [if_neg hx]
    repeat' split
    all_goals first | rfl | (exfalso; omega)
theorem m_led (hd : deM s ld I) : jev d 242 [.ref 58, .int x] (jmk I L c e) = some (some (.int (opLed ld x)), jmk I L c e) := by
  unfold opLed
  rw [jb_242_0, q_163]
  simp only [Option.bind_some, jps]
  rw [jb_242_6]
  simp only [Bool.cond_decide, j01, Int32.reduceToInt]
  by_cases hx : jin x 4
  · rw [if_neg (by omega), if_pos hx, if_pos hx]
    obtain ⟨t, ht, rfl⟩ := (jin_iff (by omega)).mp hx
    rw [jcl' (by omega), hd.2 t ht]
  · rw [if_neg hx]
    repeat' split
    all_goals first | rfl | (exfalso; omega)
end DED
