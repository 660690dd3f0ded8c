/-! from: one and a state; way, both sides -/
abbrev psOk (m : Nat) (x : Int32) : Prop := 0 ≤ x.toInt ∧ ((x / 100 - 1).toInt = -1 ∨ jin (x / 100 - 1) m) ∧ jin (x - x / 100 * 100) 54
def psO (x : Int32) : Option Nat := if (x / 100 - 1).toInt = -1 then none else some (x / 100 - 1).toNatClampNeg
def psS (x : Int32) : Nat := (x - x / 100 * 100).toNatClampNeg
abbrev frG (I I' : Nat → Nat → Int32) : Prop := ∀ q j, ¬ (q = 1 ∧ j = 8) → q ≠ 3 → q ≠ 4 → ¬ (q = 42 ∧ j = 12) → (q < 43 ∨ 51 < q) → I' q j = I q j
abbrev frM (I I' : Nat → Nat → Int32) : Prop := ∀ q j, q ≠ 77 → (q < 88 ∨ 90 < q) → I' q j = I q j
/-- how far from s, by one -/
noncomputable def opWay (n : Nat) (v : Nat → aMv) (m : Nat) (pe : Nat → aPe) (lw : List aLn) (x y z : Int32) : Int32 := if psOk m x ∧ jin y 56 ∧ 0 ≤ z.toInt ∧ z.toInt ≤ 1 then fJ (dS n (decide (z = 1)) none (gS lw v pe (psO x) (knO pe (psO x))) (tS v) y.toNatClampNeg (psS x)) else -1
section WAY
variable {d : Nat} {I I' : Nat → Nat → Int32} {L : Nat → Nat → Int64} {c e : Nat} {x y z : Int32} {lw : List aLn} {n m w s k B st : Nat} {v : Nat → aMv} {pe : Nat → aPe} {D : Nat → Int32} {one : Option Nat} {far far0 : Nat → Nat} {bs sh : Bool} {g t : Nat → Nat → Nat}
theorem ps_of (hm : m ≤ 6) (h : psOk m x) : oneOk m (psO x) ∧ x / 100 - 1 = oneI (psO x) ∧ psS x < 54 ∧ x - x / 100 * 100 = nI (psS x) := by
  obtain ⟨h1, h2, h3⟩ := h
  obtain ⟨o1, o2⟩ := one_of hm h2
  obtain ⟨s, hs, h4⟩ := (jin_iff (by decide)).mp h3
  refine ⟨o1, o2, ?_, ?_⟩
  · unfold psS
    rw [h4, jcl' (by omega)]
    exact hs
  · unfold psS
    rw [h4, jcl' (by omega)]
theorem z_lt0 : (x < 0) ↔ ¬ 0 ≤ x.toInt := by
  rw [jlt_iff]
  show x.toInt < 0 ↔ _
  omega
theorem q_151 (hm : m ≤ 6) (h : I 14 4 = nI m) : jev d 151 [.ref 0, .int x] (jmk I L c e) = some (some (.int (if psOk m x then 1 else 0)), jmk I L c e) := by
  simp only [jb_151_0, jb_152_0, jb_153_0, Option.bind_some, jps, jb_151_9, q_150 hm h, jb_151_12, jb_151_19, q_141, jb_151_22, Bool.cond_decide, j01, z_lt0]
  by_cases h1 : 0 ≤ x.toInt
  · rw [if_neg (fun q => q h1)]
    by_cases h2 : (x / 100 - 1).toInt = -1 ∨ jin (x / 100 - 1) m
    · have h22 : ¬¬ ((x / 100 - 1).toInt = -1 ∨ jin (x / 100 - 1) m) := fun q => q h2
      rw [if_neg h22]
      by_cases h3 : jin (x - x / 100 * 100) 54
      · have h33 : ¬¬ jin (x - x / 100 * 100) 54 := fun q => q h3
        rw [if_neg h33, if_pos ⟨h1, h2, h3⟩]
      · rw [if_pos h3, if_neg (fun q => h3 q.2.2)]
    · rw [if_pos h2, if_neg (fun q => h2 q.2.1)]
  · rw [if_pos h1, if_neg (fun q => h1 q.1)]
theorem q_168 (hm : m ≤ 6) (h : I 58 6 = nI m) : jev d 168 [.ref 58, .int x] (jmk I L c e) = some (some (.int (if psOk m x then 1 else 0)), jmk I L c e) := by
  simp only [jb_168_0, Option.bind_some, jps, q_166 hm h, jb_168_14, q_167, jb_168_24, Bool.cond_decide, j01, z_lt0]
  by_cases h1 : 0 ≤ x.toInt
  · rw [if_neg (fun q => q h1)]
    by_cases h2 : (x / 100 - 1).toInt = -1 ∨ jin (x / 100 - 1) m
    · have h22 : ¬¬ ((x / 100 - 1).toInt = -1 ∨ jin (x / 100 - 1) m) := fun q => q h2
      rw [if_neg h22]
      by_cases h3 : jin (x - x / 100 * 100) 54
      · have h33 : ¬¬ jin (x - x / 100 * 100) 54 := fun q => q h3
        rw [if_neg h33, if_pos ⟨h1, h2, h3⟩]
      · rw [if_pos h3, if_neg (fun q => h3 q.2.2)]
    · rw [if_pos h2, if_neg (fun q => h2 q.2.1)]
  · rw [if_pos h1, if_neg (fun q => h1 q.1)]
theorem frG_49 (h : frG I I') : frG I (fC49 I' far) := fun q j a1 a2 a3 a4 a5 => by
  unfold fC49
  rw [if_neg (by omega)]
  exact h q j a1 a2 a3 a4 a5
theorem frM_88 (h : frS I I') : frM I (f88 I' far) := fun q j a1 a2 => by
  unfold f88
  rw [if_neg (by omega)]
  exact h q j a1 (by omega)
theorem frG_t {I2 : Nat → Nat → Int32} (h : frG I I') (h2 : frG I' I2) : frG I I2 := fun q j a1 a2 a3 a4 a5 => (h2 q j a1 a2 a3 a4 a5).trans (h q j a1 a2 a3 a4 a5)
theorem frM_t {I2 : Nat → Nat → Int32} (h : frM I I') (h2 : frM I' I2) : frM I I2 := fun q j a1 a2 => (h2 q j a1 a2).trans (h q j a1 a2)
theorem kitM_M (h : kitM n v I) (f : frM I I') : kitM n v I' := kitM_fr h (f 58 0 (by decide) (by decide)) (fun q j a1 a2 => f q j (by omega) (by omega))
theorem peM_M (h : peM m pe D I) (f : frM I I') : peM m pe D I' := peM_fr h (f 58 6 (by decide) (by decide)) (fun q j a1 a2 => f q j (by omega) (by omega))
theorem lwM_M (h : lwM lw I) (f : frM I I') : lwM lw I' := lwM_fr h (fun q j a => f q j (by omega) (by omega))
theorem kitC_G (h : kitC n v I) (f : frG I I') : kitC n v I' := kitC_fr h (fun q j a1 a2 => f q j (by omega) (by omega) (by omega) (by omega) (by omega))
theorem peC_G (h : peC m pe D I) (f : frG I I') : peC m pe D I' := peC_fr h (fun q j a1 a2 => f q j (by omega) (by omega) (by omega) (by omega) (by omega))
theorem lwC_G (hce : ceOk c e) (h : lwC lw c I) (f : frG I I') : lwC lw c I' := lwC_fr h (fun q j a => by
  have hcc := ce_lt hce
  rcases a with ⟨rfl, rfl⟩ | rfl
  · exact f 1 5 (by decide) (by decide) (by decide) (by decide) (by decide)
  · exact f q j (by omega) (by omega) (by omega) (by omega) (by omega))
theorem fC49_at {u : Nat} (hu : u < 54) : fC49 I far 49 u = nI (far u) := by
  unfold fC49
  rw [if_pos ⟨rfl, hu⟩]
theorem fC49_2 : fC49 (fC49 I far) far0 = fC49 I far0 := by
  funext q j
  unfold fC49
  by_cases h : q = 49 ∧ j < 54
  · rw [if_pos h, if_pos h]
  · rw [if_neg h, if_neg h, if_neg h]
theorem q_87 (hs : s < 54) : jev d 87 [.ref 42, .int (nI s)] (jmk (fC49 I far) L c e) = some (some (.int (nI (far s))), jmk (fC49 I far) L c e) := by
  rw [jb_87_0, q_141, if_pos (jin_nI hs (by decide))]
  simp only [Option.bind_some, jps]
  rw [jb_87_4, jt_2, cond_false, jdI hs, cond_true, jcl' (by omega), fC49_at hs]
theorem q_83g (hce : ceOk c e) (hlo : lwOk lw) (hl : lwC lw c I) (hk : kitC n v I) (hp : peC m pe D I) (hpo : peOk m pe D) (ho : oneOk m one) : ∃ I', jev d 83 [.ref 42, .int (oneI one)] (jmk I L c e) = some (none, jmk I' L c e) ∧ tiM (gS lw v pe one (knO pe one)) (tS v) (tlW (gS lw v pe one (knO pe one)) n) I' ∧ frG I I' := by
  obtain ⟨I', f1, f2, f3, f4⟩ := q_83 (d := d) (L := L) hce hlo hl hk hp hpo ho
  exact ⟨I', f1, f2, fun q j a1 a2 a3 a4 a5 => f4 q j a1 a2 a3 a4 (by omega)⟩
theorem wo_n : ∀ o : Nat, (none : Option Nat) = some o → o < 12 := fun o h => by cases h
theorem z_01 (h : 0 ≤ z.toInt ∧ z.toInt ≤ 1) : z = if decide (z = 1) = true then 1 else 0 := by
  by_cases q : z = 1
  · rw [decide_eq_true q, if_pos rfl]
    exact q
  · rw [decide_eq_false q, if_neg (by decide)]
    apply Int32.toInt_inj.mp
    have : ¬ z.toInt = 1 := fun k => q (Int32.toInt_inj.mp k)
    show z.toInt = 0
    omega
theorem fJ_cond {a : Nat} (h : a ≤ 1000000) {M : Value × jH} : (bif decide (1000000 ≤ nI a) then (some (some (Value.int (-2)), M.2) : Option (Option Value × jH)) else some (some (Value.int (nI a)), M.2)) = some (some (Value.int (fJ a)), M.2) := by
  unfold fJ
  by_cases q : a < 1000000
  · rw [if_pos q, decide_eq_false (show ¬ (1000000 : Int32) ≤ nI a by show ¬ nI 1000000 ≤ nI a; rw [nI_leI (by decide) (by omega)]; omega), cond_false]
  · rw [if_neg q, decide_eq_true (show (1000000 : Int32) ≤ nI a by show nI 1000000 ≤ nI a; rw [nI_leI (by decide) (by omega)]; omega), cond_true]
theorem z_lt0' : (z < 0) ↔ ¬ 0 ≤ z.toInt := z_lt0
theorem z_le1 : (z ≤ 1) ↔ z.toInt ≤ 1 := jle_iff
theorem dS_le {to : Nat} {wo : Option Nat} (hg : ∀ w s, w < n → s < 54 → 0 < g w s → t w s < 54 ∧ g w s ≤ 99) (hs : s < 54) : dS n bs wo g t to s ≤ 1000000 := (dst_le (cS_ok hg) hs).1
theorem c_way (hce : ceOk c e) (hlo : lwOk lw) (hl : lwC lw c I) (hk : kitC n v I) (hp : peC m pe D I) (hpo : peOk m pe D) : ∃ I', jev d 105 [.ref 0, .int x, .int y, .int z] (jmk I L c e) = some (some (.int (opWay n v m pe lw x y z)), jmk I' L c e) ∧ frG I I' := by
  have hn := hk.1.1
  have hm := hpo.1
  have hm' : ∀ i, i < n → mvOk (v i) := fun i hi => (hk.1.2.2 i hi).1
  unfold opWay
  rw [jb_105_0, q_151 hm hp.1]
  simp only [Option.bind_some, jps, jb_105_5, q_142, jb_105_12, Bool.cond_decide, j01, z_lt0', z_le1]
  by_cases hx : psOk m x
  · have hx2 : ¬¬ psOk m x := fun q => q hx
    rw [if_neg hx2]
    by_cases hy : jin y 56
    · have hy2 : ¬¬ jin y 56 := fun q => q hy
      rw [if_neg hy2]
      by_cases hz : 0 ≤ z.toInt
      · have hz2 : ¬¬ 0 ≤ z.toInt := fun q => q hz
        rw [if_neg hz2]
        by_cases hz1 : z.toInt ≤ 1
        · have hall : psOk m x ∧ jin y 56 ∧ 0 ≤ z.toInt ∧ z.toInt ≤ 1 := ⟨hx, hy, hz, hz1⟩
          rw [if_pos hz1, if_pos hall]
          obtain ⟨o1, o2, o3, o4⟩ := ps_of hm hx
          obtain ⟨to, hto, rfl⟩ := (jin_iff (by decide)).mp hy
          have hg := gS_ok (lw := lw) (pe := pe) (one := psO x) (kn := knO pe (psO x)) hm'
          obtain ⟨I1, f1, f2, f3⟩ := q_83g (d := d) (L := L) hce hlo hl hk hp hpo o1
          have r1 := q_86d (d := d) (L := L) (c := c) (e := e) (bs := decide (z = 1)) (wo := none) hn hto wo_n hg f2
          refine ⟨fC49 I1 (dS n (decide (z = 1)) none (gS lw v pe (psO x) (knO pe (psO x))) (tS v) to), ?_, frG_49 f3⟩
          rw [jb_152_0]
          simp only [Option.bind_some, jps]
          rw [jb_105_34, o2, f1]
          simp only [Option.bind_some, jps]
          have e37 : jat d 105 37 [.ref 0, .int x, .int (nI to), .int z, .null] [] (jmk I1 L c e) = jat d 105 52 [.ref 0, .int x, .int (nI to), .int z, .null] [.int (if decide (z = 1) = true then 1 else 0), .int (nI to), .ref 42] (jmk I1 L c e) := by
            rw [jb_105_37]
            by_cases q : z = 1
            · rw [decide_eq_true q, decide_eq_false (fun k => k q), cond_false, if_pos rfl]
            · rw [decide_eq_false q, decide_eq_true q, cond_true, if_neg (by decide)]
          rw [e37, jb_105_52, show jev d 86 [.ref 42, .int (nI to), .int (if decide (z = 1) = true then 1 else 0), .int (-1)] (jmk I1 L c e) = _ from r1]
          simp only [Option.bind_some, jps]
          rw [jb_105_56, jb_153_0]
          simp only [Option.bind_some, jps]
          rw [jb_105_64, o4, q_87 o3]
          simp only [Option.bind_some, jps]
          rw [jb_105_67, jcl' (by omega)]
          exact fJ_cond (dS_le hg o3) (M := (.null, jmk (fC49 I1 (dS n (decide (z = 1)) none (gS lw v pe (psO x) (knO pe (psO x))) (tS v) to)) L c e))
        · rw [if_neg hz1, if_neg (fun q => hz1 q.2.2.2)]
          exact ⟨I, rfl, fun _ _ _ _ _ _ _ => rfl⟩
      · rw [if_pos hz, if_neg (fun q => hz q.2.2.1)]
        exact ⟨I, rfl, fun _ _ _ _ _ _ _ => rfl⟩
    · rw [if_pos hy, if_neg (fun q => hy q.2.1)]
      exact ⟨I, rfl, fun _ _ _ _ _ _ _ => rfl⟩
  · rw [if_pos hx, if_neg (fun q => hx q.1)]
    exact ⟨I, rfl, fun _ _ _ _ _ _ _ => rfl⟩
/-- with nothing closed the reference's weights are the class's -/
theorem cG_0 : cG bs 0 true g t = cS bs none g := by
  funext w s
  unfold cG
  rw [if_neg]
  intro q
  rcases q with q | q
  · rw [Nat.zero_div] at q
    cases q
  · cases q.1
theorem bit_w : ∀ a, a < 12 → ∀ w, w < 12 → (2 ^ a / 2 ^ w % 2 = 1 ↔ a = w) := by decide +kernel
theorem cG_bit {a : Nat} (ha : a < 12) (hw : w < 12) : cG bs (2 ^ a) true g t w s = cS bs (some a) g w s := by
  unfold cG cS
  have h1 := bit_w a ha w hw
  by_cases q : a = w
  · subst q
    rw [if_pos (Or.inl (h1.mpr rfl)), if_neg (fun k => k.2 rfl)]
  · rw [if_neg (fun k => k.elim (fun j => q (h1.mp j)) (fun j => by cases j.1))]
    by_cases h : 0 < g w s
    · have e1 : 0 < g w s ∧ (none : Option Nat) ≠ some w := ⟨h, fun k => by cases k⟩
      have e2 : 0 < g w s ∧ some a ≠ some w := ⟨h, fun k => q (Option.some.inj k)⟩
      rw [if_pos e1, if_pos e2]
    · rw [if_neg (fun k => h k.1), if_neg (fun k => h k.1)]
/-- the least of the reference is how far the class says -/
theorem mn_dG {to : Nat} (hg : ∀ w s, w < n → s < 54 → 0 < g w s → tS v w s < 54 ∧ g w s ≤ 99) (hs : s < 54) : mnF (aimB to) (dG n 0 v bs true g s) 54 = dS n bs none g (tS v) to s := by
  have h := mn_dst (b := aimB to) (cG_ok (bs := bs) (B := 0) (sh := true) hg) hs
  rw [cG_0] at h
  unfold dG
  rw [cG_0]
  exact h
theorem dG_b (hg : ∀ w s, w < n → s < 54 → 0 < g w s → tS v w s < 54 ∧ g w s ≤ 99) (hs : s < 54) : ∀ u, u < 54 → dG n B v bs sh g s u < 1000000 → dG n B v bs sh g s u ≤ 5247 := fun u _ h => ((dst_le (cG_ok hg) hs).2.1 h).1
theorem m_way (hlo : lwOk lw) (hl : lwM lw I) (hk : kitM n v I) (hp : peM m pe D I) (hpo : peOk m pe D) : ∃ I', jev d 213 [.ref 58, .int x, .int y, .int z] (jmk I L c e) = some (some (.int (opWay n v m pe lw x y z)), jmk I' L c e) ∧ frM I I' := by
  have hn := hk.1
  have hm := hpo.1
  have hm' : ∀ i, i < n → mvOk (v i) := fun i hi => (hk.2.2 i hi).1
  have h55 : (0 ≤ y.toInt ∧ y.toInt ≤ (55 : Int32).toInt) ↔ jin y 56 := by
    show (0 ≤ y.toInt ∧ y.toInt ≤ 55) ↔ (0 ≤ y.toInt ∧ y.toInt < (56 : Int))
    omega
  unfold opWay
  rw [jb_213_0, q_168 hm hp.1]
  simp only [Option.bind_some, jps, jb_213_5, q_163, jb_213_15, jb_213_24, Bool.cond_decide, j01, show (0 : Int32).toInt = 0 from rfl, h55, show (1 : Int32).toInt = 1 from rfl]
  by_cases hx : psOk m x
  · have hx2 : ¬¬ psOk m x := fun q => q hx
    rw [if_neg hx2]
    by_cases hy : jin y 56
    · have hy2 : ¬¬ jin y 56 := fun q => q hy
      rw [if_neg hy2]
      by_cases hz : 0 ≤ z.toInt ∧ z.toInt ≤ 1
      · have hz2 : ¬¬ (0 ≤ z.toInt ∧ z.toInt ≤ 1) := fun q => q hz
        have hall : psOk m x ∧ jin y 56 ∧ 0 ≤ z.toInt ∧ z.toInt ≤ 1 := ⟨hx, hy, hz⟩
        rw [if_pos hz2, if_pos hall]
        obtain ⟨o1, o2, o3, o4⟩ := ps_of hm hx
        obtain ⟨to, hto, rfl⟩ := (jin_iff (by decide)).mp hy
        have hg := gS_ok (lw := lw) (pe := pe) (one := psO x) (kn := knO pe (psO x)) hm'
        obtain ⟨I1, f1, f2⟩ := q_211 (d := d) (L := L) (c := c) (e := e) (bs := decide (z = 1)) hlo hl hk hp hpo o1 o3
        rw [← z_01 hz, ← o2, ← o4] at f1
        refine ⟨f88 I1 (dG n 0 v (decide (z = 1)) true (gS lw v pe (psO x) (knO pe (psO x))) (psS x)), ?_, frM_88 f2⟩
        rw [f1]
        simp only [Option.bind_some, jps]
        rw [jb_213_44, q_212 hto (dG_b hg o3)]
        simp only [Option.bind_some, jps]
        rw [jb_213_49, mn_dG hg o3, jcl' (by omega)]
      · rw [if_neg (fun q => q hz), if_neg (fun q => hz q.2.2)]
        exact ⟨I, rfl, fun _ _ _ _ => rfl⟩
    · rw [if_pos hy, if_neg (fun q => hy q.2.1)]
      exact ⟨I, rfl, fun _ _ _ _ => rfl⟩
  · rw [if_pos hx, if_neg (fun q => hx q.1)]
    exact ⟨I, rfl, fun _ _ _ _ => rfl⟩
end WAY
