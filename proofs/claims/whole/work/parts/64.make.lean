/-! make: a move in deed -/
def peU (pe : Nat → aPe) (D : Nat → Int32) (o w : Nat) : Nat → aPe := if D (12 * o + w) + 1 < nI (pe o).2.2 then pe else fun i => if i = o then ((pe o).1, (pe o).2.1 ||| 2 ^ w, (pe o).2.2) else pe i
def dnU (D : Nat → Int32) (a : Nat) : Nat → Int32 := fun j => if j = a then D a + 1 else D j
def leU (le : Nat → Int32) (s t k : Nat) : Nat → Int32 := fun j => if j = 0 then le 0 + 1 else if j = 1 then le 1 + nI k else if j = 2 then le 2 + (if isChr t ∧ ¬ isChr s then 1 else 0) else le j
abbrev aMk : Type := Int32 × (Nat → aPe) × (Nat → Int32) × Nat × (Nat → Int32)
def opMake (n : Nat) (v : Nat → aMv) (m : Nat) (pe : Nat → aPe) (D : Nat → Int32) (lw : List aLn) (s : Nat) (le : Nat → Int32) (x y : Int32) : aMk := if jin x m ∧ jin y n then (match ld (v y.toNatClampNeg) s with
  | some t => if 0 < secO lw v pe (some x.toNatClampNeg) y.toNatClampNeg s then (nI t, peU pe D x.toNatClampNeg y.toNatClampNeg, dnU D (12 * x.toNatClampNeg + y.toNatClampNeg), t, leU le s t (secO lw v pe (some x.toNatClampNeg) y.toNatClampNeg s)) else (-2, pe, D, s, le)
  | none => (-2, pe, D, s, le)) else (-1, pe, D, s, le)
section MAK
variable {d : Nat} {I I' : Nat → Nat → Int32} {L : Nat → Nat → Int64} {c e : Nat} {x y z : Int32} {lw : List aLn} {n m w s k o t : Nat} {v : Nat → aMv} {pe : Nat → aPe} {D : Nat → Int32} {le : Nat → Int32}
theorem ju_s {α : Type} {f : Nat → Nat → α} {p i : Nat} {x : α} : ju f p i x p i = x := by rw [ju_get, if_pos ⟨rfl, rfl⟩]
theorem lwM_fr (hl : lwM lw I) (hf : ∀ q j, (q = 58 ∧ (j = 14 ∨ j = 15) ∨ 69 ≤ q ∧ q ≤ 72) → I' q j = I q j) : lwM lw I' := by
  unfold lwM at hl ⊢
  by_cases h0 : lw = []
  · rw [if_pos h0] at hl ⊢
    rw [hf 58 14 (Or.inl ⟨rfl, Or.inl rfl⟩)]
    exact hl
  · rw [if_neg h0] at hl ⊢
    rw [hf 58 14 (Or.inl ⟨rfl, Or.inl rfl⟩), hf 58 15 (Or.inl ⟨rfl, Or.inr rfl⟩)]
    exact ⟨hl.1, hl.2.1, lnM_fr lw 0 0 (fun q j a1 a2 => hf q j (Or.inr ⟨a1, a2⟩)) hl.2.2⟩
theorem lwC_fr (hl : lwC lw c I) (hf : ∀ q j, (q = 1 ∧ j = 5 ∨ q = c) → I' q j = I q j) : lwC lw c I' := ⟨(hf 1 5 (Or.inl ⟨rfl, rfl⟩)).trans hl.1, cdAt_fr (fun j _ _ => hf c j (Or.inr rfl)) hl.2⟩
theorem q_146 (hs : s < 54) : jev d 146 [.int (nI s)] (jmk I L c e) = some (some (.int (if isChr s then 1 else 0)), jmk I L c e) := by
  have h := pt_lt s hs
  rw [jb_146_0, q_143p 0 (by decide) hs]
  simp only [Option.bind_some, jps]
  rw [jb_146_5, q_143p 1 (by decide) hs]
  simp only [Option.bind_some, jps]
  rw [jb_146_14, q_143p 3 (by decide) hs]
  simp only [Option.bind_some, jps]
  rw [jb_146_22]
  have e1 : nI (pt 0 s) = 2 ↔ pt 0 s = 2 := nI_eq (b := 2) (by omega) (by decide)
  have e2 : nI (pt 1 s) = 0 ↔ pt 1 s = 0 := nI_eq (b := 0) (by omega) (by decide)
  have e3 : nI (pt 3 s) = 0 ↔ pt 3 s = 0 := nI_eq (b := 0) (by omega) (by decide)
  simp only [Bool.cond_decide, e1, e2, e3]
  repeat' split
  all_goals first | rfl | (exfalso; omega)
theorem q_171 (hs : s < 54) : jev d 171 [.int (nI s)] (jmk I L c e) = some (some (.int (if isChr s then 1 else 0)), jmk I L c e) := by
  have key : ∀ s, s < 54 → ((nI s < 36) ↔ s < 36) ∧ (((42 : Int32) ≤ nI s) ↔ 42 ≤ s) ∧ ((nI s - nI s / 2 * 2 = 0) ↔ s % 2 = 0) ∧ (isChr s ↔ 36 ≤ s ∧ s < 42 ∧ s % 2 = 0) := by decide +kernel
  obtain ⟨e1, e2, e3, e4⟩ := key s hs
  rw [jb_171_0]
  simp only [Bool.cond_decide, e1, e2, e3, e4]
  repeat' split
  all_goals first | rfl | (exfalso; omega)
theorem or_bit {a : Nat} (hw : w < 12) : nI a ||| ((1 : Int32) <<< (nI w &&& 31)) = nI (a ||| 2 ^ w) := by
  have h : ∀ w, w < 12 → ((1 : Int32) <<< (nI w &&& 31)) = nI (2 ^ w) := by decide
  rw [h w hw, fa_or]
theorem peU_ok (h : peOk m pe D) (ho : o < m) (hw : w < 12) : peOk m (peU pe D o w) (dnU D (12 * o + w)) := by
  obtain ⟨h1, h2, h3, h4⟩ := h
  unfold peU dnU
  refine ⟨h1, fun i hi => ?_, fun i hi => ?_, fun j hj => ?_⟩
  · split
    · exact h2 i hi
    · dsimp only
      by_cases q : i = o
      · subst q
        rw [if_pos rfl]
        obtain ⟨a1, a2, a3, a4⟩ := h2 i hi
        have : 2 ^ w < 2 ^ 12 := Nat.pow_lt_pow_right (by decide) hw
        exact ⟨a1, Nat.or_lt_two_pow (n := 12) a2 this, a3, a4⟩
      · rw [if_neg q]
        exact h2 i hi
  · split
    · exact h3 i hi
    · dsimp only
      rw [if_neg (by omega)]
      exact h3 i hi
  · dsimp only
    rw [if_neg (by omega)]
    exact h4 j hj
theorem q_66 (hp : peC m pe D I) (hpo : peOk m pe D) (ho : o < m) (hw : w < 12) : ∃ I', jev d 66 [.ref 14, .int (nI o), .int (nI w)] (jmk I L c e) = some (none, jmk I' L c e) ∧ peC m (peU pe D o w) (dnU D (12 * o + w)) I' ∧ ∀ q j, q ≠ 16 → q ≠ 18 → I' q j = I q j := by
  obtain ⟨h1, h2, h3, h4⟩ := hp
  have hm := hpo.1
  have e1 : nI o * 12 + nI w = nI (12 * o + w) := by rw [jI_lit, pk_mul, nI_add, Nat.mul_comm]
  have g1 : decide (jin (nI (12 * o + w)) 72) = true := jdI (by omega)
  have g2 : decide (jin (nI o) 6) = true := jdI (by omega)
  have c1 : (nI (12 * o + w)).toNatClampNeg = 12 * o + w := jcl' (by omega)
  have c2 : (nI o).toNatClampNeg = o := jcl' (by omega)
  have b0 : ¬ nI w < 0 := by
    rw [jlt_iff, nI_toInt (by omega)]
    simp only [Int32.reduceToInt]
    omega
  have b1 : nI w < 12 := nI_lt hw (by decide)
  rw [jb_66_0, q_63j hm h1, if_pos (jin_nI ho (by omega))]
  simp only [Option.bind_some, jps]
  rw [jb_66_5, jt_2, cond_false, decide_eq_false b0, cond_false, decide_eq_true b1, cond_true, e1, g1, g2]
  simp only [cond_true, Bool.cond_decide]
  rw [c1, c2, ju_s, h4 (12 * o + w) (by omega), (h2 o ho).2, h3 o (by omega), or_bit hw]
  unfold peU
  by_cases hl : D (12 * o + w) + 1 < nI (pe o).2.2
  · rw [if_pos hl, if_pos hl]
    refine ⟨_, rfl, ⟨h1, h2, h3, fun j hj => ?_⟩, fun q j a1 a2 => by rw [ju_get, if_neg (fun h => a2 h.1)]⟩
    unfold dnU
    by_cases q : j = 12 * o + w
    · rw [if_pos q, q, ju_s]
    · rw [if_neg q, ju_get, if_neg (fun h => q h.2)]
      exact h4 j hj
  · rw [if_neg hl, if_neg hl]
    refine ⟨_, rfl, ⟨h1, fun i hi => ?_, fun i hi => ?_, fun j hj => ?_⟩, fun q j a1 a2 => by rw [ju_get, if_neg (fun h => a1 h.1), ju_get, if_neg (fun h => a2 h.1)]⟩
    · show I 15 i = _ ∧ I 17 i = _
      dsimp only
      by_cases q : i = o
      · subst q
        rw [if_pos rfl]
        exact h2 i hi
      · rw [if_neg q]
        exact h2 i hi
    · dsimp only
      by_cases q : i = o
      · subst q
        rw [if_pos rfl, ju_s]
      · rw [if_neg q, ju_get, if_neg (fun h => q h.2), ju_get, if_neg (by omega)]
        exact h3 i hi
    · unfold dnU
      rw [ju_get, if_neg (by omega)]
      by_cases q : j = 12 * o + w
      · rw [if_pos q, q, ju_s]
      · rw [if_neg q, ju_get, if_neg (fun h => q h.2)]
        exact h4 j hj
theorem q_26 (hd : deC s le I) (hs : s < 54) (ht : t < 54) : ∃ I', jev d 26 [.ref 37, .int (nI t), .int (nI k)] (jmk I L c e) = some (none, jmk I' L c e) ∧ deC t (leU le s t k) I' ∧ ∀ q j, ¬ (q = 37 ∧ j = 1) → q ≠ 38 → I' q j = I q j := by
  obtain ⟨h1, h2⟩ := hd
  rw [jb_26_0, show decide (jin 0 4) = true from rfl, show decide (jin 1 4) = true from rfl, show decide (jin 2 4) = true from rfl, q_146 ht]
  simp only [cond_true, Option.bind_some, jps]
  rw [show (0 : Int32).toNatClampNeg = 0 from rfl, show (1 : Int32).toNatClampNeg = 1 from rfl, show (2 : Int32).toNatClampNeg = 2 from rfl]
  have r1 : ju I 38 0 (I 38 0 + 1) 38 1 = le 1 := h2 1 (by decide)
  have r2 : ju (ju I 38 0 (I 38 0 + 1)) 38 1 (le 1 + nI k) 38 2 = le 2 := h2 2 (by decide)
  rw [r1, r2, h2 0 (by decide)]
  have fin : ∀ a : Int32, jat d 26 49 [.ref 37, .int (nI t), .int (nI k)] [.int a, .int (le 2), .int 2, .ref 38] (jmk (ju (ju I 38 0 (le 0 + 1)) 38 1 (le 1 + nI k)) L c e) = some (none, jmk (ju (ju (ju (ju I 38 0 (le 0 + 1)) 38 1 (le 1 + nI k)) 38 2 (le 2 + a)) 37 1 (nI t)) L c e) := by
    intro a
    rw [jb_26_49]
    rfl
  have key : jat d 26 31 [.ref 37, .int (nI t), .int (nI k)] [.int (if isChr t then 1 else 0), .int (le 2), .int 2, .ref 38] (jmk (ju (ju I 38 0 (le 0 + 1)) 38 1 (le 1 + nI k)) L c e) = some (none, jmk (ju (ju (ju (ju I 38 0 (le 0 + 1)) 38 1 (le 1 + nI k)) 38 2 (le 2 + (if isChr t ∧ ¬ isChr s then 1 else 0))) 37 1 (nI t)) L c e) := by
    rw [jb_26_31, show ju (ju I 38 0 (le 0 + 1)) 38 1 (le 1 + nI k) 37 1 = nI s from h1, q_146 hs]
    simp only [Option.bind_some, jps]
    rw [jb_26_41, jb_26_48, fin, fin]
    simp only [Bool.cond_decide, j01]
    by_cases ct : isChr t
    · have ctt : ¬¬ isChr t := fun q => q ct
      rw [if_neg ctt]
      by_cases cs : isChr s
      · have css : ¬¬ isChr s := fun q => q cs
        have hno : ¬ (isChr t ∧ ¬ isChr s) := fun q => q.2 cs
        rw [if_pos css, if_neg hno]
      · have css : ¬¬¬ isChr s := fun q => q cs
        have hyes : isChr t ∧ ¬ isChr s := ⟨ct, cs⟩
        rw [if_neg css, if_pos hyes]
    · have hno : ¬ (isChr t ∧ ¬ isChr s) := fun q => ct q.1
      rw [if_pos ct, if_neg hno]
  rw [key]
  refine ⟨_, rfl, ⟨by rw [ju_s], fun j hj => ?_⟩, fun q j a1 a2 => ?_⟩
  · have : j = 0 ∨ j = 1 ∨ j = 2 ∨ j = 3 := by omega
    rcases this with rfl | rfl | rfl | rfl
    · rfl
    · rfl
    · rfl
    · exact h2 3 (by decide)
  · rw [ju_get, if_neg a1, ju_get, if_neg (fun h => a2 h.1), ju_get, if_neg (fun h => a2 h.1), ju_get, if_neg (fun h => a2 h.1)]
theorem opMake_ok (hk : ∀ i, i < n → mvOk (v i)) (hn : n ≤ 12) (hpo : peOk m pe D) (hs : s < 54) : peOk m (opMake n v m pe D lw s le x y).2.1 (opMake n v m pe D lw s le x y).2.2.1 ∧ (opMake n v m pe D lw s le x y).2.2.2.1 < 54 := by
  have hm := hpo.1
  unfold opMake
  by_cases hxy : jin x m ∧ jin y n
  · rw [if_pos hxy]
    obtain ⟨o, ho, rfl⟩ := (jin_iff (by omega)).mp hxy.1
    obtain ⟨w, hw, rfl⟩ := (jin_iff (by omega)).mp hxy.2
    rw [jcl' (by omega), jcl' (by omega)]
    cases hl : ld (v w) s with
    | none => exact ⟨hpo, hs⟩
    | some t =>
      have ht := ld_lt (hk w hw) hs hl
      by_cases h0 : 0 < secO lw v pe (some o) w s
      · simp only [if_pos h0]
        exact ⟨peU_ok hpo ho (by omega), ht⟩
      · simp only [if_neg h0]
        exact ⟨hpo, hs⟩
  · rw [if_neg hxy]
    exact ⟨hpo, hs⟩
theorem c_make (hce : ceOk c e) (hlo : lwOk lw) (hl : lwC lw c I) (hk : kitC n v I) (hp : peC m pe D I) (hpo : peOk m pe D) (hde : deC s le I) (hs : s < 54) : ∃ I', jev d 124 [.ref 0, .int x, .int y] (jmk I L c e) = some (some (.int (opMake n v m pe D lw s le x y).1), jmk I' L c e) ∧ peC m (opMake n v m pe D lw s le x y).2.1 (opMake n v m pe D lw s le x y).2.2.1 I' ∧ deC (opMake n v m pe D lw s le x y).2.2.2.1 (opMake n v m pe D lw s le x y).2.2.2.2 I' ∧ ∀ q j, ¬ (q = 1 ∧ j = 8) → q ≠ 3 → q ≠ 4 → q ≠ 16 → q ≠ 18 → ¬ (q = 37 ∧ j = 1) → q ≠ 38 → I' q j = I q j := by
  have hn := hk.1.1
  have hm := hpo.1
  unfold opMake
  rw [jb_124_0, q_63j hm hp.1]
  simp only [Option.bind_some, jps]
  rw [jb_124_8, q_57j hn hk.1.2.1]
  simp only [Option.bind_some, jps, Bool.cond_decide, j01]
  by_cases hx : jin x m
  · have hx2 : ¬¬ jin x m := fun q => q hx
    rw [if_neg hx2, jb_124_19]
    simp only [Bool.cond_decide, j01]
    by_cases hy : jin y n
    · have hy2 : ¬¬ jin y n := fun q => q hy
      have hxy : jin x m ∧ jin y n := ⟨hx, hy⟩
      rw [if_pos hy2, if_pos hxy]
      obtain ⟨o, ho, rfl⟩ := (jin_iff (by omega)).mp hx
      obtain ⟨w, hw, rfl⟩ := (jin_iff (by omega)).mp hy
      have c1 : (nI o).toNatClampNeg = o := jcl' (by omega)
      have c2 : (nI w).toNatClampNeg = w := jcl' (by omega)
      have c3 : (nI s).toNatClampNeg = s := jcl' (by omega)
      have hand : jin (nI w) n ∧ jin (nI s) 54 := ⟨hy, jin_nI hs (by decide)⟩
      rw [hde.1, q_60 hk, if_pos hand, c1, c2, c3]
      simp only [Option.bind_some, jps]
      obtain ⟨I1, f1, f2⟩ := q_81 (d := d) (L := L) hce hlo hl hk hp hpo (one := some o) ho hw hs
      rw [jb_124_39, hde.1, show jev d 81 [.ref 42, .int (nI o), .int (nI w), .int (nI s)] (jmk I L c e) = _ from f1]
      simp only [Option.bind_some, jps]
      rw [jb_124_56]
      have hp1 : peC m pe D I1 := peC_fr hp (fun q j a1 a2 => f2 q j (by omega) (by omega) (by omega))
      have hd1 : deC s le I1 := ⟨(f2 37 1 (by omega) (by omega) (by omega)).trans hde.1, fun j hj => (f2 38 j (by omega) (by omega) (by omega)).trans (hde.2 j hj)⟩
      cases hld : ld (v w) s with
      | none => exact ⟨I1, rfl, hp1, hd1, fun q j a1 a2 a3 a4 a5 a6 a7 => f2 q j a1 a2 a3⟩
      | some t =>
        have ht := ld_lt (hk.1.2.2 w hw).1 hs hld
        have hsec := secK_le (lw := lw) (pe := pe) (one := some o) (s := s) (k := knO pe (some o) / 2 ^ w % 2) (by omega) (hk.1.2.2 w hw).1
        have hsec : secO lw v pe (some o) w s ≤ 99 := hsec
        have n0 : ¬ nI t < 0 := by
          rw [jlt_iff, nI_toInt (by omega)]
          simp only [Int32.reduceToInt]
          omega
        have p0 : (0 : Int32) < nI (secO lw v pe (some o) w s) ↔ 0 < secO lw v pe (some o) w s := by
          rw [jlt_iff, nI_toInt (by omega)]
          simp only [Int32.reduceToInt]
          omega
        rw [show oI (some t) = nI t from rfl, decide_eq_false n0, cond_false]
        simp only [Bool.cond_decide, p0]
        by_cases h0 : 0 < secO lw v pe (some o) w s
        · obtain ⟨I2, g1, g2, g3⟩ := q_66 (d := d) (L := L) (c := c) (e := e) hp1 hpo ho (show w < 12 by omega)
          have hd2 : deC s le I2 := ⟨(g3 37 1 (by decide) (by decide)).trans hd1.1, fun j hj => (g3 38 j (by decide) (by decide)).trans (hd1.2 j hj)⟩
          obtain ⟨I3, r1, r2, r3⟩ := q_26 (d := d) (L := L) (c := c) (e := e) (k := secO lw v pe (some o) w s) hd2 hs ht
          rw [if_pos h0, if_pos h0, g1]
          simp only [Option.bind_some, jps]
          rw [jb_124_79, r1]
          simp only [Option.bind_some, jps]
          rw [jb_124_89]
          exact ⟨I3, rfl, peC_fr g2 (fun q j a1 a2 => r3 q j (by omega) (by omega)), r2, fun q j a1 a2 a3 a4 a5 a6 a7 => (r3 q j a6 a7).trans ((g3 q j a4 a5).trans (f2 q j a1 a2 a3))⟩
        · rw [if_neg h0, if_neg h0]
          exact ⟨I1, rfl, hp1, hd1, fun q j a1 a2 a3 a4 a5 a6 a7 => f2 q j a1 a2 a3⟩
    · have hno : ¬ (jin x m ∧ jin y n) := fun q => hy q.2
      have hy2 : ¬¬¬ jin y n := fun q => q hy
      rw [if_neg hy2, if_neg hno]
      exact ⟨I, rfl, hp, hde, fun _ _ _ _ _ _ _ _ _ => rfl⟩
  · have hno : ¬ (jin x m ∧ jin y n) := fun q => hx q.1
    rw [if_pos hx, if_neg hno]
    exact ⟨I, rfl, hp, hde, fun _ _ _ _ _ _ _ _ _ => rfl⟩
theorem m_make (hlo : lwOk lw) (hl : lwM lw I) (hk : kitM n v I) (hp : peM m pe D I) (hpo : peOk m pe D) (hde : deM s le I) (hs : s < 54) : ∃ I', jev d 240 [.ref 58, .int x, .int y] (jmk I L c e) = some (some (.int (opMake n v m pe D lw s le x y).1), jmk I' L c e) ∧ peM m (opMake n v m pe D lw s le x y).2.1 (opMake n v m pe D lw s le x y).2.2.1 I' ∧ deM (opMake n v m pe D lw s le x y).2.2.2.1 (opMake n v m pe D lw s le x y).2.2.2.2 I' ∧ ∀ q j, q ≠ 65 → q ≠ 67 → q ≠ 77 → q ≠ 78 → ¬ (q = 58 ∧ j = 11) → I' q j = I q j := by
  have hn := hk.1
  have hm := hpo.1
  unfold opMake
  rw [jb_240_0, q_165 hm hp.1]
  simp only [Option.bind_some, jps]
  rw [jb_240_5, q_164 hk]
  simp only [Option.bind_some, jps, Bool.cond_decide, j01]
  by_cases hx : jin x m
  · have hx2 : ¬¬ jin x m := fun q => q hx
    rw [if_neg hx2, jb_240_13]
    simp only [Bool.cond_decide, j01]
    by_cases hy : jin y n
    · have hy2 : ¬¬ jin y n := fun q => q hy
      have hxy : jin x m ∧ jin y n := ⟨hx, hy⟩
      rw [if_pos hy2, if_pos hxy]
      obtain ⟨o, ho, rfl⟩ := (jin_iff (by omega)).mp hx
      obtain ⟨w, hw, rfl⟩ := (jin_iff (by omega)).mp hy
      have c1 : (nI o).toNatClampNeg = o := jcl' (by omega)
      have c2 : (nI w).toNatClampNeg = w := jcl' (by omega)
      rw [hde.1, q_204 hk hw hs, c1, c2]
      simp only [Option.bind_some, jps]
      rw [jb_240_27]
      unfold ld
      by_cases hmy : may (v w) s
      · obtain ⟨I1, f1, f2⟩ := q_202o (d := d) (L := L) (c := c) (e := e) hlo hl hk hp hpo (one := some o) ho hw hs
        have hmk := (hk.2.2 w hw).1
        obtain ⟨a1, a2, a3, a4, a5, a6, a7⟩ := id hmk
        have ht := (mto_all (v w).1 (by omega) (v w).2.1 (by omega) s hs).1
        have hsec := secK_le (lw := lw) (pe := pe) (one := some o) (s := s) (k := knO pe (some o) / 2 ^ w % 2) (by omega) hmk
        have hsec : secO lw v pe (some o) w s ≤ 99 := hsec
        have z0 : nI (secO lw v pe (some o) w s) = 0 ↔ ¬ 0 < secO lw v pe (some o) w s := by
          rw [show (0 : Int32) = nI 0 from rfl, nI_eq (by omega) (by decide)]
          omega
        rw [if_pos hmy, if_pos hmy, jt_2, cond_false, hde.1, show jev d 202 [.ref 58, .int (nI o), .int (nI w), .int (nI s)] (jmk I L c e) = _ from f1]
        simp only [Option.bind_some, jps]
        rw [jb_240_40]
        have hp1 : peM m pe D I1 := peM_fr hp (f2 58 6 (by decide)) (fun q j b1 b2 => f2 q j (by omega))
        have hk1 : kitM n v I1 := kitM_fr hk (f2 58 0 (by decide)) (fun q j b1 b2 => f2 q j (by omega))
        have hd1 : deM s le I1 := ⟨(f2 58 11 (by decide)).trans hde.1, fun j hj => (f2 78 j (by decide)).trans (hde.2 j hj)⟩
        have hl1 : lwM lw I1 := lwM_fr hl (fun q j h => f2 q j (by omega))
        simp only [Bool.cond_decide, z0]
        by_cases h0 : 0 < secO lw v pe (some o) w s
        · have h00 : ¬¬ 0 < secO lw v pe (some o) w s := fun q => q h0
          rw [if_pos h00, if_pos h0, if_pos (show jin 0 4 by decide), if_pos (show jin 0 4 by decide), if_pos (show jin 1 4 by decide), show (0 : Int32).toNatClampNeg = 0 from rfl, show (1 : Int32).toNatClampNeg = 1 from rfl]
          have hf2 : ∀ q j, q ≠ 78 → ju I1 78 0 (I1 78 0 + 1) q j = I1 q j := fun q j h => by rw [ju_get, if_neg (fun k => h k.1)]
          have hp2 : peM m pe D (ju I1 78 0 (I1 78 0 + 1)) := peM_fr hp1 (hf2 58 6 (by decide)) (fun q j b1 b2 => hf2 q j (by omega))
          have hk2 : kitM n v (ju I1 78 0 (I1 78 0 + 1)) := kitM_fr hk1 (hf2 58 0 (by decide)) (fun q j b1 b2 => hf2 q j (by omega))
          have hl2 : lwM lw (ju I1 78 0 (I1 78 0 + 1)) := lwM_fr hl1 (fun q j h => hf2 q j (by omega))
          obtain ⟨I2, g1, g2⟩ := q_202o (d := d) (L := L) (c := c) (e := e) hlo hl2 hk2 hp2 hpo (one := some o) ho hw hs
          have e11 : I1 58 11 = nI s := hd1.1
          have e781 : ju I1 78 0 (I1 78 0 + 1) 78 1 = le 1 := hd1.2 1 (by decide)
          rw [e11, e781, show jev d 202 [.ref 58, .int (nI o), .int (nI w), .int (nI s)] (jmk (ju I1 78 0 (I1 78 0 + 1)) L c e) = _ from g1]
          simp only [Option.bind_some, jps]
          have g2f : ∀ q j, q ≠ 77 → q ≠ 78 → I2 q j = I1 q j := fun q j b1 b2 => (g2 q j b1).trans (hf2 q j b2)
          have k3 : kitM n v (ju I2 78 1 (le 1 + nI (secO lw v pe (some o) w s))) := kitM_fr hk1 (by rw [ju_get, if_neg (by omega)]; exact g2f 58 0 (by decide) (by decide)) (fun q j b1 b2 => by rw [ju_get, if_neg (by omega)]; exact g2f q j (by omega) (by omega))
          have e11b : ju I2 78 1 (le 1 + nI (secO lw v pe (some o) w s)) 58 11 = nI s := (g2f 58 11 (by decide) (by decide)).trans e11
          have e11c : I2 58 11 = nI s := (g2f 58 11 (by decide) (by decide)).trans e11
          rw [jb_240_73, show decide (jin 1 4) = true from rfl, cond_true, show (1 : Int32).toNatClampNeg = 1 from rfl, e11c, q_205 k3 hw hs]
          simp only [Option.bind_some, jps]
          generalize hT : mto (v w).1 (v w).2.1 s = T at *
          rw [jb_240_84, q_171 ht]
          simp only [Option.bind_some, jps]
          rw [jb_240_89, e11b, q_171 hs]
          simp only [Option.bind_some, jps]
          rw [jb_240_99]
          -- what is told behind it
          have led2 : ∃ I3, (bif decide ((if isChr T then (1 : Int32) else 0) = 0) then jat d 240 112 [.ref 58, .int (nI o), .int (nI w), .int (nI T)] [] (jmk (ju I2 78 1 (le 1 + nI (secO lw v pe (some o) w s))) L c e) else bif decide (¬ (if isChr s then (1 : Int32) else 0) = 0) then jat d 240 112 [.ref 58, .int (nI o), .int (nI w), .int (nI T)] [] (jmk (ju I2 78 1 (le 1 + nI (secO lw v pe (some o) w s))) L c e) else bif decide (jin 2 4) then bif decide (jin 2 4) then jat d 240 112 [.ref 58, .int (nI o), .int (nI w), .int (nI T)] [] (jmk (ju (ju I2 78 1 (le 1 + nI (secO lw v pe (some o) w s))) 78 (2 : Int32).toNatClampNeg (ju I2 78 1 (le 1 + nI (secO lw v pe (some o) w s)) 78 (2 : Int32).toNatClampNeg + 1)) L c e) else none else none) = jat d 240 112 [.ref 58, .int (nI o), .int (nI w), .int (nI T)] [] (jmk I3 L c e) ∧ (∀ j, j < 4 → I3 78 j = leU le s T (secO lw v pe (some o) w s) j) ∧ ∀ q j, q ≠ 77 → q ≠ 78 → I3 q j = I1 q j := by
            have u0 : I2 78 0 = le 0 + 1 := (g2 78 0 (by decide)).trans (by rw [ju_s, hd1.2 0 (by decide)])
            have u2 : I2 78 2 = le 2 := (g2 78 2 (by decide)).trans (hd1.2 2 (by decide))
            have u3 : I2 78 3 = le 3 := (g2 78 3 (by decide)).trans (hd1.2 3 (by decide))
            have fr1 : ∀ q j, q ≠ 77 → q ≠ 78 → ju I2 78 1 (le 1 + nI (secO lw v pe (some o) w s)) q j = I1 q j := fun q j b1 b2 => by rw [ju_get, if_neg (fun k => b2 k.1)]; exact g2f q j b1 b2
            have noadd : ∀ hno : ¬ (isChr T ∧ ¬ isChr s), ∀ j, j < 4 → ju I2 78 1 (le 1 + nI (secO lw v pe (some o) w s)) 78 j = leU le s T (secO lw v pe (some o) w s) j := by
              intro hno j hj
              have : j = 0 ∨ j = 1 ∨ j = 2 ∨ j = 3 := by omega
              rcases this with rfl | rfl | rfl | rfl
              · exact u0
              · rfl
              · show I2 78 2 = le 2 + (if isChr T ∧ ¬ isChr s then 1 else 0)
                rw [if_neg hno, u2]
                exact (Int32.add_zero _).symm
              · exact u3
            simp only [Bool.cond_decide, j01]
            by_cases ct : isChr T
            · have ctt : ¬¬ isChr T := fun q => q ct
              rw [if_neg ctt]
              by_cases cs : isChr s
              · have css : ¬¬ isChr s := fun q => q cs
                rw [if_pos css]
                exact ⟨_, rfl, noadd (fun q => q.2 cs), fr1⟩
              · have css : ¬¬¬ isChr s := fun q => q cs
                rw [if_neg css, if_pos (show jin 2 4 by decide), if_pos (show jin 2 4 by decide), show (2 : Int32).toNatClampNeg = 2 from rfl]
                refine ⟨_, rfl, fun j hj => ?_, fun q j b1 b2 => by rw [ju_get, if_neg (fun k => b2 k.1)]; exact fr1 q j b1 b2⟩
                have : j = 0 ∨ j = 1 ∨ j = 2 ∨ j = 3 := by omega
                rcases this with rfl | rfl | rfl | rfl
                · exact u0
                · rfl
                · show I2 78 2 + 1 = le 2 + (if isChr T ∧ ¬ isChr s then 1 else 0)
                  have hyes : isChr T ∧ ¬ isChr s := ⟨ct, cs⟩
                  rw [if_pos hyes, u2]
                · exact u3
            · rw [if_pos ct]
              exact ⟨_, rfl, noadd (fun q => ct q.1), fr1⟩
          obtain ⟨I3, w1, w2, w3⟩ := led2
          rw [w1]
          obtain ⟨p1, p2, p3, p4⟩ := peM_fr hp1 (w3 58 6 (by decide) (by decide)) (fun q j b1 b2 => w3 q j (by omega) (by omega))
          have e1 : 12 * nI o + nI w = nI (12 * o + w) := by rw [jI_lit, pk_mul, nI_add]
          have j1 : decide (jin (nI (12 * o + w)) 72) = true := jdI (by omega)
          have j2 : decide (jin (nI o) 6) = true := jdI (by omega)
          have d1 : (nI (12 * o + w)).toNatClampNeg = 12 * o + w := jcl' (by omega)
          rw [jb_240_112, e1, j1, j2]
          simp only [cond_true, Bool.cond_decide]
          rw [d1, c1, ju_s, p4 (12 * o + w) (by omega), (p2 o ho).2, p3 o (by omega), or_bit (by omega)]
          unfold peU
          by_cases hln : D (12 * o + w) + 1 < nI (pe o).2.2
          · rw [if_pos hln, if_pos hln]
            refine ⟨_, rfl, ⟨p1, p2, p3, fun j hj => ?_⟩, ⟨rfl, fun j hj => w2 j hj⟩, fun q j b1 b2 b3 b4 b5 => ?_⟩
            · show _ = dnU D (12 * o + w) j
              unfold dnU
              by_cases q : j = 12 * o + w
              · rw [if_pos q, q, ju_s]
              · rw [if_neg q, ju_get, if_neg (fun h => q h.2)]
                exact p4 j hj
            · rw [ju_get, if_neg (fun h => b2 h.1), ju_get, if_neg b5]
              exact (w3 q j b3 b4).trans (f2 q j b3)
          · rw [if_neg hln, if_neg hln]
            refine ⟨_, rfl, ⟨p1, fun i hi => ?_, fun i hi => ?_, fun j hj => ?_⟩, ⟨rfl, fun j hj => w2 j hj⟩, fun q j b1 b2 b3 b4 b5 => ?_⟩
            · show I3 64 i = nI (if i = o then ((pe o).1, (pe o).2.1 ||| 2 ^ w, (pe o).2.2) else pe i).1 ∧ I3 66 i = nI (if i = o then ((pe o).1, (pe o).2.1 ||| 2 ^ w, (pe o).2.2) else pe i).2.2
              by_cases q : i = o
              · subst q
                rw [if_pos rfl]
                exact p2 i hi
              · rw [if_neg q]
                exact p2 i hi
            · show _ = nI (if i = o then ((pe o).1, (pe o).2.1 ||| 2 ^ w, (pe o).2.2) else pe i).2.1
              by_cases q : i = o
              · subst q
                rw [if_pos rfl, ju_s]
              · rw [if_neg q, ju_get, if_neg (fun h => q h.2), ju_get, if_neg (by omega), ju_get, if_neg (by omega)]
                exact p3 i hi
            · show _ = dnU D (12 * o + w) j
              unfold dnU
              rw [ju_get, if_neg (by omega)]
              by_cases q : j = 12 * o + w
              · rw [if_pos q, q, ju_s]
              · rw [if_neg q, ju_get, if_neg (fun h => q h.2)]
                exact p4 j hj
            · rw [ju_get, if_neg (fun h => b1 h.1), ju_get, if_neg (fun h => b2 h.1), ju_get, if_neg b5]
              exact (w3 q j b3 b4).trans (f2 q j b3)
        · have h00 : ¬¬¬ 0 < secO lw v pe (some o) w s := fun q => q h0
          rw [if_neg h00, if_neg h0]
          exact ⟨I1, rfl, hp1, hd1, fun q j b1 b2 b3 b4 b5 => f2 q j b3⟩
      · rw [if_neg hmy, if_neg hmy, jt_4, cond_true]
        exact ⟨I, rfl, hp, hde, fun _ _ _ _ _ _ _ => rfl⟩
    · have hno : ¬ (jin x m ∧ jin y n) := fun q => hy q.2
      have hy2 : ¬¬¬ jin y n := fun q => q hy
      rw [if_neg hy2, if_neg hno]
      exact ⟨I, rfl, hp, hde, fun _ _ _ _ _ _ _ => rfl⟩
  · have hno : ¬ (jin x m ∧ jin y n) := fun q => hx q.1
    rw [if_pos hx, if_neg hno]
    exact ⟨I, rfl, hp, hde, fun _ _ _ _ _ _ _ => rfl⟩
end MAK
