/-! worst, needed, oneWay -/
def fhN (far : Nat → Nat) (k : Nat) : Option Nat → Option Nat
  | none => if far k < 1000000 then some k else none
  | some u => if far k < 1000000 ∧ far u < far k then some k else some u
def fhF (far : Nat → Nat) : Nat → Option Nat
  | 0 => none
  | k + 1 => fhN far k (fhF far k)
theorem fh_s {far : Nat → Nat} {k : Nat} : fhF far (k + 1) = fhN far k (fhF far k) := rfl
def fhI (far : Nat → Nat) : Option Nat → Int32
  | none => -1
  | some u => nI (far u)
def fhJ (far : Nat → Nat) : Option Nat → Int32
  | none => -2
  | some u => nI (far u)
def lsN (cn : Nat → Nat) (k : Nat) : Option Nat → Option Nat
  | none => some k
  | some w => if cn k < cn w then some k else some w
def lsF (cn : Nat → Nat) : Nat → Option Nat
  | 0 => none
  | k + 1 => lsN cn k (lsF cn k)
theorem ls_s {cn : Nat → Nat} {k : Nat} : lsF cn (k + 1) = lsN cn k (lsF cn k) := rfl
def lsI (cn : Nat → Nat) : Option Nat → Int32
  | none => 55
  | some u => nI (cn u)
def onI (x : Int32) : Option Nat := if x.toInt = -1 then none else some x.toNatClampNeg
def rcB (far : Nat → Nat) (u : Nat) : Bool := decide (far u < 1000000)
noncomputable def opWorst (n : Nat) (v : Nat → aMv) (m : Nat) (pe : Nat → aPe) (lw : List aLn) (x y : Int32) : Int32 := if (x.toInt = -1 ∨ jin x m) ∧ 0 ≤ y.toInt ∧ y.toInt ≤ 2 then (if y = 2 then nI (54 - ctF (rcB (dS n false none (gS lw v pe (onI x) (knO pe (onI x))) (tS v) 54)) 54) else if y = 0 then oI (fhF (dS n false none (gS lw v pe (onI x) (knO pe (onI x))) (tS v) 54) 54) else fhJ (dS n false none (gS lw v pe (onI x) (knO pe (onI x))) (tS v) 54) (fhF (dS n false none (gS lw v pe (onI x) (knO pe (onI x))) (tS v) 54) 54)) else -1
/-- the moves without which s comes to no chair -/
noncomputable def ndB (n : Nat) (g t : Nat → Nat → Nat) (s w : Nat) : Bool := decide (¬ dS n false (some w) g t 54 s < 1000000)
noncomputable def opNeeded (n : Nat) (v : Nat → aMv) (m : Nat) (pe : Nat → aPe) (lw : List aLn) (x : Int32) : Int32 := if psOk m x then (if dS n false none (gS lw v pe (psO x) (knO pe (psO x))) (tS v) 54 (psS x) < 1000000 then nI (bitsF (ndB n (gS lw v pe (psO x) (knO pe (psO x))) (tS v) (psS x)) n) else -2) else -1
noncomputable def cnW (n : Nat) (g t : Nat → Nat → Nat) (w : Nat) : Nat := ctF (rcB (dS n false (some w) g t 54)) 54
noncomputable def opOneWay (n : Nat) (v : Nat → aMv) (pe : Nat → aPe) (lw : List aLn) (x : Int32) : Int32 := if 0 ≤ x.toInt ∧ x.toInt ≤ 1 then (if x = 0 then oI (lsF (cnW n (gS lw v pe none (knO pe none)) (tS v)) n) else fhJ (cnW n (gS lw v pe none (knO pe none)) (tS v)) (lsF (cnW n (gS lw v pe none (knO pe none)) (tS v)) n)) else -1
section WRG
variable {far cn : Nat → Nat} {k : Nat} {b : Nat → Bool}
theorem ct_le : ∀ k, ctF b k ≤ k := by
  intro k
  induction k with
  | zero => exact Nat.le_refl _
  | succ k ih =>
    unfold ctF
    split <;> omega
theorem fh_lt : ∀ k u, fhF far k = some u → u < k ∧ far u < 1000000 := by
  intro k
  induction k with
  | zero => intro u h; cases h
  | succ k ih =>
    intro u h
    rw [fh_s] at h
    cases hb : fhF far k with
    | none =>
      rw [hb] at h
      unfold fhN at h
      dsimp only at h
      by_cases q : far k < 1000000
      · rw [if_pos q] at h
        cases h
        exact ⟨Nat.lt_succ_self _, q⟩
      · rw [if_neg q] at h
        cases h
    | some w =>
      rw [hb] at h
      unfold fhN at h
      dsimp only at h
      obtain ⟨i1, i2⟩ := ih w hb
      by_cases q : far k < 1000000 ∧ far w < far k
      · rw [if_pos q] at h
        cases h
        exact ⟨Nat.lt_succ_self _, q.1⟩
      · rw [if_neg q] at h
        cases h
        exact ⟨by omega, i2⟩
theorem fh_none : ∀ k, fhF far k = none → ∀ u, u < k → ¬ far u < 1000000 := by
  intro k
  induction k with
  | zero => intro h u hu; exact absurd hu (Nat.not_lt_zero u)
  | succ k ih =>
    intro h u hu
    rw [fh_s] at h
    cases hb : fhF far k with
    | none =>
      rw [hb] at h
      unfold fhN at h
      dsimp only at h
      by_cases q : far k < 1000000
      · rw [if_pos q] at h
        cases h
      · by_cases e : u = k
        · rw [e]
          exact q
        · exact ih hb u (by omega)
    | some w =>
      rw [hb] at h
      unfold fhN at h
      dsimp only at h
      split at h <;> cases h
theorem ls_lt : ∀ k u, lsF cn k = some u → u < k := by
  intro k
  induction k with
  | zero => intro u h; cases h
  | succ k ih =>
    intro u h
    rw [ls_s] at h
    cases hb : lsF cn k with
    | none =>
      rw [hb] at h
      cases h
      exact Nat.lt_succ_self _
    | some w =>
      rw [hb] at h
      unfold lsN at h
      dsimp only at h
      have i1 := ih w hb
      by_cases q : cn k < cn w
      · rw [if_pos q] at h
        cases h
        exact Nat.lt_succ_self _
      · rw [if_neg q] at h
        cases h
        omega
end WRG
section WRS
variable {d : Nat} {I I' : Nat → Nat → Int32} {L : Nat → Nat → Int64} {c e : Nat} {x y z : Int32} {lw : List aLn} {n m w s k B st : Nat} {v : Nat → aMv} {pe : Nat → aPe} {D : Nat → Int32} {one : Option Nat} {far far0 : Nat → Nat} {bs sh : Bool} {g t : Nat → Nat → Nat} {tl : List (Nat × Nat)}
theorem q_89 (hf : ∀ u, u < 54 → far u ≤ 1000000) : jev d 89 [.ref 42] (jmk (fC49 I far) L c e) = some (some (.int (nI (ctF (rcB far) 54))), jmk (fC49 I far) L c e) := by
  have key : jat d 89 4 [.ref 42, .int (nI (ctF (rcB far) 0)), .int (nI 0)] [] (jmk (fC49 I far) L c e) = jat d 89 4 [.ref 42, .int (nI (ctF (rcB far) 54)), .int (nI 54)] [] (jmk (fC49 I far) L c e) := jloop (N := 54) (fun k => jat d 89 4 [.ref 42, .int (nI (ctF (rcB far) k)), .int (nI k)] [] (jmk (fC49 I far) L c e)) (fun k hk => by
    show jat d 89 4 [.ref 42, .int (nI (ctF (rcB far) k)), .int (nI k)] [] (jmk (fC49 I far) L c e) = jat d 89 4 [.ref 42, .int (nI (ctF (rcB far) k + if rcB far k = true then 1 else 0)), .int (nI (k + 1))] [] (jmk (fC49 I far) L c e)
    have := hf k hk
    rw [jb_89_4, decide_eq_false (show ¬ (54 : Int32) ≤ nI k by show ¬ nI 54 ≤ nI k; rw [nI_leI (by omega) (by omega)]; omega), cond_false, jdI hk, cond_true, jcl' (by omega), fC49_at hk, nI_1, nI_1]
    unfold rcB
    simp only [Bool.cond_decide, decide_eq_true_eq]
    by_cases q : far k < 1000000
    · rw [if_neg (show ¬ (1000000 : Int32) ≤ nI (far k) by show ¬ nI 1000000 ≤ nI (far k); rw [nI_leI (by decide) (by omega)]; omega), if_pos q]
    · rw [if_pos (show (1000000 : Int32) ≤ nI (far k) by show nI 1000000 ≤ nI (far k); rw [nI_leI (by decide) (by omega)]; omega), if_neg q, Int32.add_zero]
      rfl)
  rw [jb_89_0, show jat d 89 4 [.ref 42, .int 0, .int 0] [] (jmk (fC49 I far) L c e) = _ from key, jb_89_4]
  rfl
theorem q_90 (hf : ∀ u, u < 54 → far u ≤ 1000000) : jev d 90 [.ref 42] (jmk (fC49 I far) L c e) = some (some (.int (oI (fhF far 54))), jmk (fC49 I far) L c e) := by
  have key : jat d 90 7 [.ref 42, .int (oI (fhF far 0)), .int (fhI far (fhF far 0)), .int (nI 0)] [] (jmk (fC49 I far) L c e) = jat d 90 7 [.ref 42, .int (oI (fhF far 54)), .int (fhI far (fhF far 54)), .int (nI 54)] [] (jmk (fC49 I far) L c e) := jloop (N := 54) (fun k => jat d 90 7 [.ref 42, .int (oI (fhF far k)), .int (fhI far (fhF far k)), .int (nI k)] [] (jmk (fC49 I far) L c e)) (fun k hk => by
    show jat d 90 7 [.ref 42, .int (oI (fhF far k)), .int (fhI far (fhF far k)), .int (nI k)] [] (jmk (fC49 I far) L c e) = jat d 90 7 [.ref 42, .int (oI (fhF far (k + 1))), .int (fhI far (fhF far (k + 1))), .int (nI (k + 1))] [] (jmk (fC49 I far) L c e)
    have hk6 := hf k hk
    have hlt := fh_lt (far := far) k
    rw [jb_90_7, decide_eq_false (show ¬ (54 : Int32) ≤ nI k by show ¬ nI 54 ≤ nI k; rw [nI_leI (by omega) (by omega)]; omega), cond_false, jdI hk, cond_true, cond_true, cond_true, jcl' (by omega), fC49_at hk, nI_1]
    rw [fh_s]
    unfold fhN
    simp only [Bool.cond_decide]
    cases hb : fhF far k with
    | none =>
      dsimp only
      by_cases q : far k < 1000000
      · have h2 : ¬ nI (far k) ≤ fhI far none := by
          show ¬ nI (far k) ≤ -1
          rw [jle_iff, nI_toInt (by omega)]
          have : (-1 : Int32).toInt = -1 := by decide
          omega
        rw [if_neg (show ¬ (1000000 : Int32) ≤ nI (far k) by show ¬ nI 1000000 ≤ nI (far k); rw [nI_leI (by decide) (by omega)]; omega), if_pos q, if_neg h2]
        rfl
      · rw [if_pos (show (1000000 : Int32) ≤ nI (far k) by show nI 1000000 ≤ nI (far k); rw [nI_leI (by decide) (by omega)]; omega), if_neg q]
    | some u =>
      dsimp only
      obtain ⟨i1, i2⟩ := hlt u hb
      have h2 : nI (far k) ≤ fhI far (some u) ↔ far k ≤ far u := by
        show nI (far k) ≤ nI (far u) ↔ _
        exact nI_leI (by omega) (by omega)
      simp only [h2]
      by_cases q : far k < 1000000
      · rw [if_neg (show ¬ (1000000 : Int32) ≤ nI (far k) by show ¬ nI 1000000 ≤ nI (far k); rw [nI_leI (by decide) (by omega)]; omega)]
        by_cases r : far k ≤ far u
        · rw [if_pos r, if_neg (fun j => by omega)]
        · rw [if_neg r, if_pos ⟨q, by omega⟩]
          rfl
      · rw [if_pos (show (1000000 : Int32) ≤ nI (far k) by show nI 1000000 ≤ nI (far k); rw [nI_leI (by decide) (by omega)]; omega), if_neg (fun j => q j.1)])
  rw [jb_90_0, show jat d 90 7 [.ref 42, .int (-2), .int (-1), .int 0] [] (jmk (fC49 I far) L c e) = _ from key, jb_90_7]
  rfl
theorem on_of (hm : m ≤ 6) (h : x.toInt = -1 ∨ jin x m) : oneOk m (onI x) ∧ x = oneI (onI x) := one_of hm h
theorem chr_36 : aimB 54 36 = true := by decide
theorem dS_36 {wo : Option Nat} (hg : ∀ w s, w < n → s < 54 → 0 < g w s → t w s < 54 ∧ g w s ≤ 99) : dS n bs wo g t 54 36 = 0 := (dst_0 (cS_ok hg) (by decide)).mpr chr_36
theorem fh_36 {wo : Option Nat} (hg : ∀ w s, w < n → s < 54 → 0 < g w s → t w s < 54 ∧ g w s ≤ 99) : ∃ u, fhF (dS n bs wo g t 54) 54 = some u ∧ u < 54 ∧ dS n bs wo g t 54 u < 1000000 := by
  cases hb : fhF (dS n bs wo g t 54) 54 with
  | none =>
    have := fh_none 54 hb 36 (by decide)
    rw [dS_36 hg] at this
    exact absurd (show (0 : Nat) < 1000000 by decide) this
  | some u => exact ⟨u, rfl, fh_lt 54 u hb⟩
theorem c_worst (hce : ceOk c e) (hlo : lwOk lw) (hl : lwC lw c I) (hk : kitC n v I) (hp : peC m pe D I) (hpo : peOk m pe D) : ∃ I', jev d 108 [.ref 0, .int x, .int y] (jmk I L c e) = some (some (.int (opWorst n v m pe lw x y)), jmk I' L c e) ∧ frG I I' := by
  have hn := hk.1.1
  have hm := hpo.1
  have hm' : ∀ i, i < n → mvOk (v i) := fun i hi => (hk.1.2.2 i hi).1
  have h2i : y ≤ 2 ↔ y.toInt ≤ 2 := jle_iff
  unfold opWorst
  rw [jb_108_0, q_150 hm hp.1]
  simp only [Option.bind_some, jps, jb_108_5, Bool.cond_decide, j01, show (y < 0) ↔ ¬ 0 ≤ y.toInt from z_lt0, h2i]
  by_cases hx : x.toInt = -1 ∨ jin x m
  · have hx2 : ¬¬ (x.toInt = -1 ∨ jin x m) := fun q => q hx
    rw [if_neg hx2]
    by_cases hz : 0 ≤ y.toInt
    · have hz2 : ¬¬ 0 ≤ y.toInt := fun q => q hz
      rw [if_neg hz2]
      by_cases hz1 : y.toInt ≤ 2
      · have hall : (x.toInt = -1 ∨ jin x m) ∧ 0 ≤ y.toInt ∧ y.toInt ≤ 2 := ⟨hx, hz, hz1⟩
        rw [if_pos hz1, if_pos hall]
        obtain ⟨o1, o2⟩ := on_of hm hx
        have hg := gS_ok (lw := lw) (pe := pe) (one := onI x) (kn := knO pe (onI x)) hm'
        obtain ⟨I1, f1, f2, f3⟩ := q_83g (d := d) (L := L) hce hlo hl hk hp hpo o1
        have r1 := q_86d (d := d) (L := L) (c := c) (e := e) (bs := false) (wo := none) (to := 54) hn (by decide) wo_n hg f2
        have hdl : ∀ u, u < 54 → dS n false none (gS lw v pe (onI x) (knO pe (onI x))) (tS v) 54 u ≤ 1000000 := fun u hu => dS_le hg hu
        rw [← o2] at f1
        refine ⟨fC49 I1 (dS n false none (gS lw v pe (onI x) (knO pe (onI x))) (tS v) 54), ?_, frG_49 f3⟩
        rw [f1]
        simp only [Option.bind_some, jps]
        rw [jb_108_27, show jev d 86 [.ref 42, .int 54, .int 0, .int (-1)] (jmk I1 L c e) = _ from r1]
        simp only [Option.bind_some, jps]
        rw [jb_108_38, q_90 hdl, q_89 hdl]
        simp only [Option.bind_some, jps, Bool.cond_decide, jb_108_52, jb_108_61, jb_108_82]
        by_cases hy2 : y = 2
        · have := ct_le (b := rcB (dS n false none (gS lw v pe (onI x) (knO pe (onI x))) (tS v) 54)) 54
          rw [if_neg (fun q => q hy2), if_pos hy2, show (54 : Int32) = nI 54 from rfl, nI_sub this (by decide)]
        · rw [if_pos hy2, if_neg hy2]
          obtain ⟨u, u1, u2, u3⟩ := fh_36 (bs := false) (wo := none) hg
          rw [u1]
          have hu0 : ¬ oI (some u) < 0 := by
            show ¬ nI u < 0
            rw [jlt_iff, nI_toInt (by omega)]
            show ¬ (u : Int) < 0
            omega
          rw [if_neg hu0]
          by_cases hy0 : y = 0
          · rw [if_neg (fun q => q hy0), if_pos hy0]
          · rw [if_pos hy0, if_neg hy0, show oI (some u) = nI u from rfl, q_87 u2]
            simp only [Option.bind_some, jps, jb_108_82]
            rfl
      · rw [if_neg hz1, if_neg (fun q => hz1 q.2.2)]
        exact ⟨I, rfl, fun _ _ _ _ _ _ _ => rfl⟩
    · rw [if_pos hz, if_neg (fun q => hz q.2.1)]
      exact ⟨I, rfl, fun _ _ _ _ _ _ _ => rfl⟩
  · rw [if_pos hx, if_neg (fun q => hx q.1)]
    exact ⟨I, rfl, fun _ _ _ _ _ _ _ => rfl⟩
/-- the reference, from all states to a chair -/
theorem q_217o (hlo : lwOk lw) (hl : lwM lw I) (hk : kitM n v I) (hp : peM m pe D I) (hpo : peOk m pe D) (ho : oneOk m one) {wo : Option Nat} (hwo : ∀ o, wo = some o → o < 12) : ∃ I', jev d 217 [.ref 58, .int (oneI one), .int (match wo with | none => 0 | some w => (1 : Int32) <<< (nI w &&& 31))] (jmk I L c e) = some (none, jmk (f88 I' (dS n false wo (gS lw v pe one (knO pe one)) (tS v) 54)) L c e) ∧ frS I I' := by
  have hn := hk.1
  cases wo with
  | none =>
    obtain ⟨I', f1, f2⟩ := q_217 (d := d) (L := L) (c := c) (e := e) (B := 0) hlo hl hk hp hpo ho (by decide)
    rw [cG_0] at f1
    exact ⟨I', f1, f2⟩
  | some w =>
    have hw := hwo w rfl
    have hB : ∀ w, w < 12 → (1 : Int32) <<< (nI w &&& 31) = nI (2 ^ w) ∧ 2 ^ w < 4096 := by decide +kernel
    obtain ⟨b1, b2⟩ := hB w hw
    obtain ⟨I', f1, f2⟩ := q_217 (d := d) (L := L) (c := c) (e := e) (B := 2 ^ w) hlo hl hk hp hpo ho b2
    refine ⟨I', ?_, f2⟩
    dsimp only
    rw [b1, f1]
    have : (fun u => dst n (cG false (2 ^ w) true (gS lw v pe one (knO pe one)) (tS v)) (tS v) (aimP 54) u) = dS n false (some w) (gS lw v pe one (knO pe one)) (tS v) 54 := by
      funext u
      exact dst_congr (fun w' s' h' => cG_bit hw (by omega))
    rw [this]
theorem m_worst (hlo : lwOk lw) (hl : lwM lw I) (hk : kitM n v I) (hp : peM m pe D I) (hpo : peOk m pe D) : ∃ I', jev d 218 [.ref 58, .int x, .int y] (jmk I L c e) = some (some (.int (opWorst n v m pe lw x y)), jmk I' L c e) ∧ frM I I' := by
  have hn := hk.1
  have hm := hpo.1
  have hm' : ∀ i, i < n → mvOk (v i) := fun i hi => (hk.2.2 i hi).1
  unfold opWorst
  rw [jb_218_0, q_166 hm hp.1]
  simp only [Option.bind_some, jps, jb_218_5, q_163, jb_218_14, Bool.cond_decide, j01, show (0 : Int32).toInt = 0 from rfl, show (2 : Int32).toInt = 2 from rfl]
  by_cases hx : x.toInt = -1 ∨ jin x m
  · have hx2 : ¬¬ (x.toInt = -1 ∨ jin x m) := fun q => q hx
    rw [if_neg hx2]
    by_cases hz : 0 ≤ y.toInt ∧ y.toInt ≤ 2
    · have hz2 : ¬¬ (0 ≤ y.toInt ∧ y.toInt ≤ 2) := fun q => q hz
      have hall : (x.toInt = -1 ∨ jin x m) ∧ 0 ≤ y.toInt ∧ y.toInt ≤ 2 := ⟨hx, hz⟩
      rw [if_pos hz2, if_pos hall]
      obtain ⟨o1, o2⟩ := on_of hm hx
      have hg := gS_ok (lw := lw) (pe := pe) (one := onI x) (kn := knO pe (onI x)) hm'
      obtain ⟨I1, f1, f2⟩ := q_217o (d := d) (L := L) (c := c) (e := e) (wo := none) hlo hl hk hp hpo o1 wo_n
      rw [← o2] at f1
      have hdl : ∀ u, u < 54 → dS n false none (gS lw v pe (onI x) (knO pe (onI x))) (tS v) 54 u < 1000000 → dS n false none (gS lw v pe (onI x) (knO pe (onI x))) (tS v) 54 u ≤ 5247 := fun u hu h => ((dst_le (cS_ok hg) hu).2.1 h).1
      refine ⟨f88 I1 (dS n false none (gS lw v pe (onI x) (knO pe (onI x))) (tS v) 54), ?_, frM_88 f2⟩
      rw [show jev d 217 [.ref 58, .int x, .int 0] (jmk I L c e) = _ from f1]
      simp only [Option.bind_some, jps]
      rw [jb_218_25]
      obtain ⟨w0, w1, w2, w3⟩ := fh_36 (bs := false) (wo := none) hg
      generalize dS n false none (gS lw v pe (onI x) (knO pe (onI x))) (tS v) 54 = far at hdl w1 w3 ⊢
      have key : jat d 218 31 [.ref 58, .int x, .int y, .int (oI (fhF far 0)), .int (nI 0)] [] (jmk (f88 I1 far) L c e) = jat d 218 31 [.ref 58, .int x, .int y, .int (oI (fhF far 54)), .int (nI 54)] [] (jmk (f88 I1 far) L c e) := jloop (N := 54) (fun k => jat d 218 31 [.ref 58, .int x, .int y, .int (oI (fhF far k)), .int (nI k)] [] (jmk (f88 I1 far) L c e)) (fun k hk => by
        show jat d 218 31 [.ref 58, .int x, .int y, .int (oI (fhF far k)), .int (nI k)] [] (jmk (f88 I1 far) L c e) = jat d 218 31 [.ref 58, .int x, .int y, .int (oI (fhF far (k + 1))), .int (nI (k + 1))] [] (jmk (f88 I1 far) L c e)
        have hlt := fh_lt (far := far) k
        rw [jb_218_31, decide_eq_false (show ¬ (54 : Int32) ≤ nI k by show ¬ nI 54 ≤ nI k; rw [nI_leI (by omega) (by omega)]; omega), cond_false, jdI hk, cond_true, cond_true, jcl' (by omega), f88_at hk, nI_1]
        rw [fh_s]
        unfold fhN
        simp only [Bool.cond_decide, fJ_no]
        cases hb : fhF far k with
        | none =>
          dsimp only
          by_cases q : far k < 1000000
          · rw [if_neg (fun j => j q), if_pos (show oI none = -2 from rfl), if_pos q]
            rfl
          · rw [if_pos q, if_neg q]
        | some u =>
          dsimp only
          obtain ⟨i1, i2⟩ := hlt u hb
          have hu2 : ¬ oI (some u) = -2 := by
            have : ∀ a, a < 54 → ¬ nI a = -2 := by decide
            exact this u (by omega)
          rw [if_neg hu2]
          by_cases q : far k < 1000000
          · have b1 := hdl k hk q
            have b2 := hdl u (by omega) i2
            have h2 : fJ (far k) ≤ fJ (far u) ↔ far k ≤ far u := by
              rw [fJ_yes q, fJ_yes i2]
              exact nI_leI (by omega) (by omega)
            have hju : jin (nI u) 54 := jin_nI (by omega) (by decide)
            rw [if_neg (fun j => j q), show oI (some u) = nI u from rfl, if_pos hju, jcl' (show u < 2 ^ 31 by omega), f88_at (show u < 54 by omega)]
            simp only [h2]
            by_cases r : far k ≤ far u
            · rw [if_pos r, if_neg (fun j => by omega)]
              rfl
            · rw [if_neg r, if_pos ⟨q, by omega⟩]
              rfl
          · rw [if_pos q, if_neg (fun j => q j.1)])
      rw [show jat d 218 31 [.ref 58, .int x, .int y, .int (-2), .int 0] [] (jmk (f88 I1 far) L c e) = _ from key, jb_218_31, show decide ((54 : Int32) ≤ nI 54) = true from rfl, cond_true, q_215]
      simp only [Option.bind_some, jps, Bool.cond_decide, jb_218_109]
      by_cases hy2 : y = 2
      · have := ct_le (b := rcB far) 54
        have hn0 : ¬ y = 0 := by rw [hy2]; decide
        have hn1 : ¬ y = 1 := by rw [hy2]; decide
        rw [if_pos hn0, if_pos hn1, if_pos hy2, show (54 : Int32) = nI 54 from rfl]
        show some (some (Value.int (nI 54 - nI (ctF (rcB far) 54))), _) = _
        rw [nI_sub this (by decide)]
      · rw [if_neg hy2]
        by_cases hy0 : y = 0
        · rw [if_neg (fun q => q hy0), if_pos hy0]
        · have hy1 : y = 1 := by
            apply Int32.toInt_inj.mp
            have h0 : ¬ y.toInt = 0 := fun k => hy0 (Int32.toInt_inj.mp k)
            have h2 : ¬ y.toInt = 2 := fun k => hy2 (Int32.toInt_inj.mp k)
            show y.toInt = 1
            omega
          rw [if_pos hy0, if_neg hy0, if_neg (fun q => q hy1)]
          rw [w1, show oI (some w0) = nI w0 from rfl, if_pos (jin_nI w2 (by decide)), jcl' (by omega), f88_at w2, fJ_yes w3]
          rfl
    · rw [if_neg (fun q => q hz), if_neg (fun q => hz q.2)]
      exact ⟨I, rfl, fun _ _ _ _ => rfl⟩
  · rw [if_pos hx, if_neg (fun q => hx q.1)]
    exact ⟨I, rfl, fun _ _ _ _ => rfl⟩
end WRS
