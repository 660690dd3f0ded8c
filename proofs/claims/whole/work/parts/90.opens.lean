/-! opens, tide -/
def t0F (tm : Nat → Nat) (j : Nat) : Nat := if tm j < 1000000 then tm j else 0
def opnB (tm : Nat → Nat) (Y j : Nat) : Bool := decide (tm j < 1000000) && decide (smF (t0F tm) (j + 1) ≤ Y)
def lfB (tm : Nat → Nat) (j : Nat) : Bool := !decide (tm j < 1000000)
def tdF (tm : Nat → Nat) (X : Nat) : Nat → Nat → Nat → Int32
  | 0, _, _ => -2
  | f + 1, j, S => if tm j < 1000000 then (if S + tm j ≤ (j + 1) * X then tdF tm X f (j + 1) (S + tm j) else nI j) else nI j
def seatC (K : Nat) (tm : Nat → Nat) (I : Nat → Nat → Int32) : Prop := I 54 4 = nI K ∧ K ≤ 60 ∧ (∀ j, j < K → I 55 j = tC (tm j)) ∧ ∀ j, j < K → tm j < 1000000 → tm j ≤ 5247
def seatM (K : Nat) (tm : Nat → Nat) (I : Nat → Nat → Int32) : Prop := I 58 49 = nI K ∧ K ≤ 60 ∧ (∀ j, j < K → I 92 j = fJ (tm j)) ∧ ∀ j, j < K → tm j < 1000000 → tm j ≤ 5247
noncomputable abbrev tmS (n : Nat) (v : Nat → aMv) (pe : Nat → aPe) (lw : List aLn) (ro : Nat → Nat → Int64) (i o : Nat) : Nat → Nat := tmF n v (gS lw v pe (some o) (knO pe (some o))) (ro i)
noncomputable def opnI (tm : Nat → Nat) (K : Nat) (z : Int32) : Int32 := if z = -2 then nI (ctF (lfB tm) K) else if z = -1 then nI (smF (t0F tm) K) else nI (ctF (opnB tm z.toInt.toNat) K)
noncomputable def opOpens (n : Nat) (v : Nat → aMv) (m : Nat) (pe : Nat → aPe) (lw : List aLn) (sh : Nat → aSh) (ro : Nat → Nat → Int64) (x y z : Int32) : Int32 := if (jin x 6 ∧ jin y m) ∧ -2 ≤ z.toInt ∧ z.toInt ≤ 9999 then (if barI (sh x.toNatClampNeg) = 0 then opnI (tmS n v pe lw ro x.toNatClampNeg y.toNatClampNeg) (kS (ro x.toNatClampNeg) (sh x.toNatClampNeg).2 0) z else barI (sh x.toNatClampNeg)) else -1
noncomputable def opTide (n : Nat) (v : Nat → aMv) (m : Nat) (pe : Nat → aPe) (lw : List aLn) (sh : Nat → aSh) (ro : Nat → Nat → Int64) (x y z : Int32) : Int32 := if (jin x 6 ∧ jin y m) ∧ 1 ≤ z.toInt ∧ z.toInt ≤ 999 then (if barI (sh x.toNatClampNeg) = 0 then tdF (tmS n v pe lw ro x.toNatClampNeg y.toNatClampNeg) z.toInt.toNat (kS (ro x.toNatClampNeg) (sh x.toNatClampNeg).2 0) 0 0 else barI (sh x.toNatClampNeg)) else -1
abbrev frA (I I' : Nat → Nat → Int32) : Prop := ∀ q j, ¬ (q = 1 ∧ j = 8) → q ≠ 3 → q ≠ 4 → ¬ (q = 42 ∧ j = 12) → (q < 43 ∨ 56 < q) → I' q j = I q j
section OPN
variable {d : Nat} {I I' : Nat → Nat → Int32} {L : Nat → Nat → Int64} {c e : Nat} {x y z : Int32} {lw : List aLn} {n m w s k b i o K X Y : Nat} {v : Nat → aMv} {pe : Nat → aPe} {D : Nat → Int32} {sh : Nat → aSh} {ro : Nat → Nat → Int64} {tm : Nat → Nat}
theorem tC_0 {a : Nat} (h : a < 1000000 → a ≤ 5247) : (if 0 < tC a then tC a else 0) = nI (if a < 1000000 then a else 0) := by
  unfold tC
  by_cases q : a < 1000000
  · have := h q
    rw [if_pos q, if_pos q]
    by_cases r : 0 < a
    · rw [if_pos (show (0 : Int32) < nI a by show nI 0 < nI a; rw [jlt_iff, nI_toInt (by omega), nI_toInt (by omega)]; omega)]
    · have : a = 0 := by omega
      rw [this]
      rfl
  · rw [if_neg q, if_neg q]
    rfl
theorem tC_m {a : Nat} (h : a < 1000000 → a ≤ 5247) : tC a = -1 ↔ ¬ a < 1000000 := by
  unfold tC
  by_cases q : a < 1000000
  · rw [if_pos q]
    refine ⟨fun r => ?_, fun r => absurd q r⟩
    have := congrArg Int32.toInt r
    rw [nI_toInt (by omega)] at this
    have h2 : (-1 : Int32).toInt = -1 := by decide
    omega
  · rw [if_neg q]
    exact ⟨fun _ => q, fun _ => rfl⟩
theorem t0_le (h : ∀ j, j < K → tm j < 1000000 → tm j ≤ 5247) (hK : K ≤ 60) : ∀ k, k ≤ K → smF (t0F tm) k ≤ 5247 * k := by
  intro k hk
  refine smF_le k (fun i hi => ?_)
  unfold t0F
  split
  · exact h i (by omega) (by assumption)
  · exact Nat.zero_le _
theorem q_4 (hs : seatC K tm I) : jev d 4 [.ref 54] (jmk I L c e) = some (some (.int (nI (ctF (lfB tm) K))), jmk I L c e) := by
  obtain ⟨h1, h2, h3, h4⟩ := hs
  have key : jat d 4 4 [.ref 54, .int (nI (ctF (lfB tm) 0)), .int (nI 0)] [] (jmk I L c e) = jat d 4 4 [.ref 54, .int (nI (ctF (lfB tm) K)), .int (nI K)] [] (jmk I L c e) := jloop (N := K) (fun k => jat d 4 4 [.ref 54, .int (nI (ctF (lfB tm) k)), .int (nI k)] [] (jmk I L c e)) (fun k hk => by
    show jat d 4 4 [.ref 54, .int (nI (ctF (lfB tm) k)), .int (nI k)] [] (jmk I L c e) = jat d 4 4 [.ref 54, .int (nI (ctF (lfB tm) k + if lfB tm k = true then 1 else 0)), .int (nI (k + 1))] [] (jmk I L c e)
    have hb : lfB tm k = true ↔ ¬ tm k < 1000000 := by
      unfold lfB
      rw [Bool.not_eq_true', decide_eq_false_iff_not]
    rw [jb_4_4, h1, decide_eq_false (by rw [nI_leI (by omega) (by omega)]; omega), cond_false, jdI (show k < 60 by omega), cond_true, jcl' (by omega), h3 k hk, nI_1, nI_1, Int32.add_zero]
    simp only [Bool.cond_decide, tC_m (h4 k hk)]
    by_cases q : tm k < 1000000
    · rw [if_pos (fun j => j q), if_neg (fun j => hb.mp j q)]
      rfl
    · rw [if_neg (fun j => j q), if_pos (hb.mpr q)])
  rw [jb_4_0, show jat d 4 4 [.ref 54, .int 0, .int 0] [] (jmk I L c e) = _ from key, jb_4_4, h1, decide_eq_true (by rw [nI_leI (by omega) (by omega)]; exact Nat.le_refl _), cond_true]
theorem q_5 (hs : seatC K tm I) : jev d 5 [.ref 54] (jmk I L c e) = some (some (.int (nI (smF (t0F tm) K))), jmk I L c e) := by
  obtain ⟨h1, h2, h3, h4⟩ := hs
  have key : jat d 5 4 [.ref 54, .int (nI (smF (t0F tm) 0)), .int (nI 0)] [] (jmk I L c e) = jat d 5 4 [.ref 54, .int (nI (smF (t0F tm) K)), .int (nI K)] [] (jmk I L c e) := jloop (N := K) (fun k => jat d 5 4 [.ref 54, .int (nI (smF (t0F tm) k)), .int (nI k)] [] (jmk I L c e)) (fun k hk => by
    show jat d 5 4 [.ref 54, .int (nI (smF (t0F tm) k)), .int (nI k)] [] (jmk I L c e) = jat d 5 4 [.ref 54, .int (nI (smF (t0F tm) k + t0F tm k)), .int (nI (k + 1))] [] (jmk I L c e)
    rw [jb_5_4, h1, decide_eq_false (by rw [nI_leI (by omega) (by omega)]; omega), cond_false, jdI (show k < 60 by omega), cond_true, jcl' (by omega), h3 k hk, nI_1, tC_0 (h4 k hk), nI_add]
    rfl)
  rw [jb_5_0, show jat d 5 4 [.ref 54, .int 0, .int 0] [] (jmk I L c e) = _ from key, jb_5_4, h1, decide_eq_true (by rw [nI_leI (by omega) (by omega)]; exact Nat.le_refl _), cond_true]
theorem q_6 (hs : seatC K tm I) (hY : Y ≤ 9999) : jev d 6 [.ref 54, .int (nI Y)] (jmk I L c e) = some (some (.int (nI (ctF (opnB tm Y) K))), jmk I L c e) := by
  obtain ⟨h1, h2, h3, h4⟩ := hs
  have ht0 := t0_le h4 h2
  have key : jat d 6 7 [.ref 54, .int (nI Y), .int (nI (ctF (opnB tm Y) 0)), .int (nI (smF (t0F tm) 0)), .int (nI 0)] [] (jmk I L c e) = jat d 6 7 [.ref 54, .int (nI Y), .int (nI (ctF (opnB tm Y) K)), .int (nI (smF (t0F tm) K)), .int (nI K)] [] (jmk I L c e) := jloop (N := K) (fun k => jat d 6 7 [.ref 54, .int (nI Y), .int (nI (ctF (opnB tm Y) k)), .int (nI (smF (t0F tm) k)), .int (nI k)] [] (jmk I L c e)) (fun k hk => by
    show jat d 6 7 [.ref 54, .int (nI Y), .int (nI (ctF (opnB tm Y) k)), .int (nI (smF (t0F tm) k)), .int (nI k)] [] (jmk I L c e) = jat d 6 7 [.ref 54, .int (nI Y), .int (nI (ctF (opnB tm Y) k + if opnB tm Y k = true then 1 else 0)), .int (nI (smF (t0F tm) k + t0F tm k)), .int (nI (k + 1))] [] (jmk I L c e)
    have hb : opnB tm Y k = true ↔ tm k < 1000000 ∧ smF (t0F tm) k + t0F tm k ≤ Y := by
      unfold opnB
      rw [Bool.and_eq_true, decide_eq_true_eq, decide_eq_true_eq]
      exact Iff.rfl
    have hle := ht0 (k + 1) (by omega)
    have hle : smF (t0F tm) k + t0F tm k ≤ 5247 * (k + 1) := hle
    have e0 : nI (smF (t0F tm) k) + nI (if tm k < 1000000 then tm k else 0) = nI (smF (t0F tm) k + t0F tm k) := nI_add ..
    have hlt : nI Y < nI (smF (t0F tm) k + t0F tm k) ↔ ¬ smF (t0F tm) k + t0F tm k ≤ Y := by
      rw [jlt_iff, nI_toInt (by omega), nI_toInt (by omega)]
      omega
    rw [jb_6_7, h1, decide_eq_false (by rw [nI_leI (by omega) (by omega)]; omega), cond_false, jdI (show k < 60 by omega), cond_true, cond_true, jcl' (by omega), h3 k hk, nI_1, nI_1, tC_0 (h4 k hk), e0, jb_6_51, Int32.add_zero, nI_1]
    simp only [Bool.cond_decide, tC_m (h4 k hk), hlt]
    by_cases q : tm k < 1000000
    · rw [if_neg (fun j => j q)]
      by_cases r : smF (t0F tm) k + t0F tm k ≤ Y
      · rw [if_neg (fun j => j r), if_pos (hb.mpr ⟨q, r⟩)]
      · rw [if_pos r, if_neg (fun j => r (hb.mp j).2)]
        rfl
    · rw [if_pos q, if_neg (fun j => q (hb.mp j).1)]
      rfl)
  rw [jb_6_0, show jat d 6 7 [.ref 54, .int (nI Y), .int 0, .int 0, .int 0] [] (jmk I L c e) = _ from key, jb_6_7, h1, decide_eq_true (by rw [nI_leI (by omega) (by omega)]; exact Nat.le_refl _), cond_true]
theorem q_8 (hs : seatC K tm I) (hX : X ≤ 999) : jev d 8 [.ref 54, .int (nI X)] (jmk I L c e) = some (some (.int (tdF tm X K 0 0)), jmk I L c e) := by
  obtain ⟨h1, h2, h3, h4⟩ := hs
  have key : ∀ f j S, j + f = K → S ≤ 5247 * j → jat d 8 4 [.ref 54, .int (nI X), .int (nI S), .int (nI j)] [] (jmk I L c e) = some (some (.int (tdF tm X f j S)), jmk I L c e) := by
    intro f
    induction f with
    | zero =>
      intro j S hj hS
      rw [jb_8_4, h1, decide_eq_true (by rw [nI_leI (by omega) (by omega)]; omega), cond_true]
      rfl
    | succ f ih =>
      intro j S hj hS
      have hjK : j < K := by omega
      have h4j := h4 j hjK
      have hjX : (j + 1) * X ≤ 60 * 999 := Nat.mul_le_mul (by omega) hX
      rw [jb_8_4, h1, decide_eq_false (by rw [nI_leI (by omega) (by omega)]; omega), cond_false, jdI (show j < 60 by omega), cond_true, cond_true, jcl' (by omega), h3 j hjK, nI_1, tC_0 h4j, nI_add, pk_mul]
      have e : tdF tm X (f + 1) j S = if tm j < 1000000 then (if S + tm j ≤ (j + 1) * X then tdF tm X f (j + 1) (S + tm j) else nI j) else nI j := rfl
      rw [e]
      simp only [Bool.cond_decide, tC_m h4j]
      by_cases q : tm j < 1000000
      · have := h4j q
        rw [if_neg (fun k => k q), if_pos q, if_pos q, ih (j + 1) (S + tm j) (by omega) (by omega)]
        have hle : nI (S + tm j) ≤ nI ((j + 1) * X) ↔ S + tm j ≤ (j + 1) * X := nI_leI (by omega) (by omega)
        simp only [hle]
        split <;> rfl
      · rw [if_pos q, if_neg q]
  rw [jb_8_0]
  exact key K 0 0 (by omega) (by omega)
/-- weave and look -/
theorem q_wl (hce : ceOk c e) (hlo : lwOk lw) (hl : lwC lw c I) (hk : kitC n v I) (hp : peC m pe D I) (hpo : peOk m pe D) (hs : shC sh ro I L) (ho : shOk b sh) (hi : i < 6) (h2 : (sh i).1 = 2) (hom : o < m) : ∃ I1 I2, jev d 83 [.ref 42, .int (nI o)] (jmk I L c e) = some (none, jmk I1 L c e) ∧ jev d 1 [.ref 54, .int (nI i)] (jmk I1 L c e) = some (none, jmk I2 L c e) ∧ seatC (kS (ro i) (sh i).2 0) (tmS n v pe lw ro i o) I2 ∧ frA I I2 ∧ ∀ j, I2 56 j = I 56 j := by
  have hn := hk.1.1
  have hm' : ∀ i, i < n → mvOk (v i) := fun i hi => (hk.1.2.2 i hi).1
  have hg := gS_ok (lw := lw) (pe := pe) (one := some o) (kn := knO pe (some o)) hm'
  obtain ⟨I1, f1, f2, f3⟩ := q_83g (d := d) (L := L) (one := some o) hce hlo hl hk hp hpo hom
  have hs1 : shC sh ro I1 L := fun a ha => by
    rw [f3 28 a (by omega) (by omega) (by omega) (by omega) (by omega), f3 27 a (by omega) (by omega) (by omega) (by omega) (by omega)]
    exact hs a ha
  obtain ⟨I2, s1, s2, s3, s4⟩ := q_1 (d := d) (L := L) (c := c) (e := e) hn hg f2 hs1 ho hi h2
  obtain ⟨k1, k2⟩ := kS_ok (r := ro i) (sh i).2 0
  have hlen := (ho.2 i hi).2.2 (by omega)
  refine ⟨I1, I2, f1, s1, ⟨s2, by omega, s3, fun j hj hlt => ?_⟩, fun q j a1 a2 a3 a4 a5 => (s4 q j (by omega) (by omega) (by omega)).trans (f3 q j a1 a2 a3 a4 (by omega)), fun j => (s4 56 j (by omega) (by omega) (by omega)).trans (f3 56 j (by omega) (by omega) (by omega) (by omega) (by omega))⟩
  have hje := k2 j hj
  rw [Nat.zero_add] at hje
  exact ((dst_le (cS_ok hg) (eS_ok hje).1).2.1 hlt).1
theorem c_opens (hce : ceOk c e) (hlo : lwOk lw) (hl : lwC lw c I) (hk : kitC n v I) (hp : peC m pe D I) (hpo : peOk m pe D) (hs : shC sh ro I L) (ho : shOk b sh) : ∃ I', jev d 115 [.ref 0, .int x, .int y, .int z] (jmk I L c e) = some (some (.int (opOpens n v m pe lw sh ro x y z)), jmk I' L c e) ∧ frA I I' := by
  have hm := hpo.1
  have e1 : z < (-2) ↔ ¬ -2 ≤ z.toInt := by
    rw [jlt_iff, show (-2 : Int32).toInt = -2 by decide]
    omega
  have e2 : z ≤ 9999 ↔ z.toInt ≤ 9999 := jle_iff
  unfold opOpens
  rw [jb_115_0, q_155 hm hp.1 hs ho]
  simp only [Option.bind_some, jps, Bool.cond_decide, e1, e2, jb_115_23]
  have hno : ¬ ((jin x 6 ∧ jin y m) ∧ -2 ≤ z.toInt ∧ z.toInt ≤ 9999) → ∃ I', (some (some (Value.int (-1)), jmk I L c e) : Option (Option Value × jH)) = some (some (.int (if (jin x 6 ∧ jin y m) ∧ -2 ≤ z.toInt ∧ z.toInt ≤ 9999 then (if barI (sh x.toNatClampNeg) = 0 then opnI (tmS n v pe lw ro x.toNatClampNeg y.toNatClampNeg) (kS (ro x.toNatClampNeg) (sh x.toNatClampNeg).2 0) z else barI (sh x.toNatClampNeg)) else -1)), jmk I' L c e) ∧ frA I I' := by
    intro h
    rw [if_neg h]
    exact ⟨I, rfl, fun _ _ _ _ _ _ _ => rfl⟩
  have hm1 : ¬ (-1 : Int32) = 0 := by decide
  by_cases h1 : -2 ≤ z.toInt
  · rw [if_neg (fun q => q h1)]
    by_cases h2 : z.toInt ≤ 9999
    · rw [if_pos h2]
      by_cases h : jin x 6 ∧ jin y m
      · have hall : (jin x 6 ∧ jin y m) ∧ -2 ≤ z.toInt ∧ z.toInt ≤ 9999 := ⟨h, h1, h2⟩
        rw [if_pos h, if_pos hall]
        obtain ⟨i, hi, rfl⟩ := (jin_iff (by decide)).mp h.1
        obtain ⟨o, hom, rfl⟩ := (jin_iff (by omega)).mp h.2
        rw [jcl' (show i < 2 ^ 31 by omega), jcl' (show o < 2 ^ 31 by omega)]
        by_cases h0 : barI (sh i) = 0
        · rw [if_pos h0, if_pos h0]
          obtain ⟨I1, I2, g1, g2, g3, g4, g5⟩ := q_wl (d := d) (L := L) hce hlo hl hk hp hpo hs ho hi (bar_0.1.mp h0) hom
          refine ⟨I2, ?_, g4⟩
          rw [g1]
          simp only [Option.bind_some, jps]
          rw [jb_115_41, g2]
          simp only [Option.bind_some, jps]
          rw [jb_115_49, q_4 g3, q_5 g3]
          simp only [Option.bind_some, jps, Bool.cond_decide, jb_115_62, jb_115_75, jb_115_86]
          unfold opnI
          by_cases z2 : z = -2
          · rw [if_neg (fun q => q z2), if_pos z2]
          · rw [if_pos z2, if_neg z2]
            by_cases z1 : z = -1
            · rw [if_neg (fun q => q z1), if_pos z1]
            · have n1 : ¬ z.toInt = -2 := fun q => z2 (Int32.toInt_inj.mp (q.trans (by decide)))
              have n2 : ¬ z.toInt = -1 := fun q => z1 (Int32.toInt_inj.mp (q.trans (by decide)))
              have hz : z = nI z.toInt.toNat := by
                apply Int32.toInt_inj.mp
                rw [nI_toInt (by omega)]
                omega
              rw [if_pos z1, if_neg z1, show jev d 6 [.ref 54, .int z] (jmk I2 L c e) = jev d 6 [.ref 54, .int (nI z.toInt.toNat)] (jmk I2 L c e) by rw [← hz], q_6 g3 (by omega)]
              simp only [Option.bind_some, jps, jb_115_86]
        · rw [if_neg h0, if_neg h0]
          exact ⟨I, rfl, fun _ _ _ _ _ _ _ => rfl⟩
      · rw [if_neg h, if_neg hm1]
        exact hno (fun q => h q.1)
    · rw [if_neg h2, if_neg hm1]
      exact hno (fun q => h2 q.2.2)
  · rw [if_pos h1, if_neg hm1]
    exact hno (fun q => h1 q.2.1)
theorem c_tide (hce : ceOk c e) (hlo : lwOk lw) (hl : lwC lw c I) (hk : kitC n v I) (hp : peC m pe D I) (hpo : peOk m pe D) (hs : shC sh ro I L) (ho : shOk b sh) : ∃ I', jev d 117 [.ref 0, .int x, .int y, .int z] (jmk I L c e) = some (some (.int (opTide n v m pe lw sh ro x y z)), jmk I' L c e) ∧ frA I I' := by
  have hm := hpo.1
  have e1 : z < 1 ↔ ¬ 1 ≤ z.toInt := by
    rw [jlt_iff, show (1 : Int32).toInt = 1 by decide]
    omega
  have e2 : z ≤ 999 ↔ z.toInt ≤ 999 := jle_iff
  unfold opTide
  rw [jb_117_0, q_155 hm hp.1 hs ho]
  simp only [Option.bind_some, jps, Bool.cond_decide, e1, e2, jb_117_22]
  have hm1 : ¬ (-1 : Int32) = 0 := by decide
  by_cases h1 : 1 ≤ z.toInt
  · rw [if_neg (fun q => q h1)]
    by_cases h2 : z.toInt ≤ 999
    · rw [if_pos h2]
      by_cases h : jin x 6 ∧ jin y m
      · have hall : (jin x 6 ∧ jin y m) ∧ 1 ≤ z.toInt ∧ z.toInt ≤ 999 := ⟨h, h1, h2⟩
        rw [if_pos h, if_pos hall]
        obtain ⟨i, hi, rfl⟩ := (jin_iff (by decide)).mp h.1
        obtain ⟨o, hom, rfl⟩ := (jin_iff (by omega)).mp h.2
        rw [jcl' (show i < 2 ^ 31 by omega), jcl' (show o < 2 ^ 31 by omega)]
        by_cases h0 : barI (sh i) = 0
        · rw [if_pos h0, if_pos h0]
          obtain ⟨I1, I2, g1, g2, g3, g4, g5⟩ := q_wl (d := d) (L := L) hce hlo hl hk hp hpo hs ho hi (bar_0.1.mp h0) hom
          refine ⟨I2, ?_, g4⟩
          have hz : z = nI z.toInt.toNat := by
            apply Int32.toInt_inj.mp
            rw [nI_toInt (by omega)]
            omega
          rw [g1]
          simp only [Option.bind_some, jps]
          rw [jb_117_40, g2]
          simp only [Option.bind_some, jps]
          rw [jb_117_48, show jev d 8 [.ref 54, .int z] (jmk I2 L c e) = jev d 8 [.ref 54, .int (nI z.toInt.toNat)] (jmk I2 L c e) by rw [← hz], q_8 g3 (by omega)]
          simp only [Option.bind_some, jps, jb_117_56]
        · rw [if_neg h0, if_neg h0]
          exact ⟨I, rfl, fun _ _ _ _ _ _ _ => rfl⟩
      · rw [if_neg h, if_neg hm1, if_neg (fun q => h q.1)]
        exact ⟨I, rfl, fun _ _ _ _ _ _ _ => rfl⟩
    · rw [if_neg h2, if_neg hm1, if_neg (fun q => h2 q.2.2)]
      exact ⟨I, rfl, fun _ _ _ _ _ _ _ => rfl⟩
  · rw [if_pos h1, if_neg hm1, if_neg (fun q => h1 q.2.1)]
    exact ⟨I, rfl, fun _ _ _ _ _ _ _ => rfl⟩
/-- the reference reads -/
theorem q_rd (hlo : lwOk lw) (hl : lwM lw I) (hk : kitM n v I) (hp : peM m pe D I) (hpo : peOk m pe D) (hs : shM sh ro I L) (ho : shOk b sh) (hi : i < 6) (h2 : (sh i).1 = 2) (hom : o < m) : ∃ I', jev d 227 [.ref 58, .int (nI i), .int (nI o)] (jmk I L c e) = some (none, jmk I' L c e) ∧ seatM (kS (ro i) (sh i).2 0) (tmS n v pe lw ro i o) I' ∧ (∀ j, j < kS (ro i) (sh i).2 0 → I' 91 j = nI (eS (ro i) j) ∧ eS (ro i) j < 54) ∧ frQ I I' := by
  have hm' : ∀ i, i < n → mvOk (v i) := fun i hi => (hk.2.2 i hi).1
  have hg := gS_ok (lw := lw) (pe := pe) (one := some o) (kn := knO pe (some o)) hm'
  obtain ⟨I', s1, s2, s3, s4⟩ := q_227 (d := d) (L := L) (c := c) (e := e) (one := some o) hlo hl hk hp hpo hs ho hi h2 hom
  obtain ⟨k1, k2⟩ := kS_ok (r := ro i) (sh i).2 0
  have hlen := (ho.2 i hi).2.2 (by omega)
  have hel : ∀ j, j < kS (ro i) (sh i).2 0 → eS (ro i) j < 54 := fun j hj => by
    have hje := k2 j hj
    rw [Nat.zero_add] at hje
    exact (eS_ok hje).1
  exact ⟨I', s1, ⟨s2, by omega, fun j hj => (s3 j hj).2, fun j hj hlt => ((dst_le (cS_ok hg) (hel j hj)).2.1 hlt).1⟩, fun j hj => ⟨(s3 j hj).1, hel j hj⟩, s4⟩
theorem m_tide (hlo : lwOk lw) (hl : lwM lw I) (hk : kitM n v I) (hp : peM m pe D I) (hpo : peOk m pe D) (hs : shM sh ro I L) (ho : shOk b sh) : ∃ I', jev d 231 [.ref 58, .int x, .int y, .int z] (jmk I L c e) = some (some (.int (opTide n v m pe lw sh ro x y z)), jmk I' L c e) ∧ frQ I I' := by
  have hm := hpo.1
  unfold opTide
  simp only [jb_231_0, q_169, Option.bind_some, jps, jb_231_4, q_165 hm hp.1, jb_231_12, q_163, jb_231_23, Bool.cond_decide, j01, show (1 : Int32).toInt = 1 from rfl, show (999 : Int32).toInt = 999 from rfl]
  by_cases hx : jin x 6
  · rw [if_neg (fun q => q hx)]
    by_cases hy : jin y m
    · rw [if_neg (fun q => q hy)]
      by_cases hz : 1 ≤ z.toInt ∧ z.toInt ≤ 999
      · have hz2 : ¬¬ (1 ≤ z.toInt ∧ z.toInt ≤ 999) := fun q => q hz
        have hall : (jin x 6 ∧ jin y m) ∧ 1 ≤ z.toInt ∧ z.toInt ≤ 999 := ⟨⟨hx, hy⟩, hz⟩
        rw [if_pos hz2, if_pos hall]
        obtain ⟨i, hi, rfl⟩ := (jin_iff (by decide)).mp hx
        obtain ⟨o, hom, rfl⟩ := (jin_iff (by omega)).mp hy
        rw [q_223 hs ho hi, jcl' (show i < 2 ^ 31 by omega), jcl' (show o < 2 ^ 31 by omega)]
        simp only [Option.bind_some, jps]
        rw [jb_231_33, bar_0.2]
        by_cases h0 : barI (sh i) = 0
        · rw [decide_eq_true h0, cond_true, if_pos h0]
          obtain ⟨I1, g1, g2, g3, g4⟩ := q_rd (d := d) (L := L) (c := c) (e := e) hlo hl hk hp hpo hs ho hi (bar_0.1.mp h0) hom
          refine ⟨I1, ?_, g4⟩
          rw [g1]
          simp only [Option.bind_some, jps]
          rw [jb_231_49]
          obtain ⟨t1, t2, t3, t4⟩ := g2
          have hz : z = nI z.toInt.toNat := by
            apply Int32.toInt_inj.mp
            rw [nI_toInt (by omega)]
            omega
          have hX : z.toInt.toNat ≤ 999 := by omega
          generalize z.toInt.toNat = X at hz hX ⊢
          subst hz
          generalize tmS n v pe lw ro i o = tm at t3 t4 ⊢
          generalize kS (ro i) (sh i).2 0 = K at t1 t2 t3 t4 ⊢
          have key : ∀ f j S, j + f = K → S ≤ 5247 * j → jat d 231 55 [.ref 58, .int (nI i), .int (nI o), .int (nI X), .int (barI (sh i)), .int (nI S), .int (nI j)] [] (jmk I1 L c e) = some (some (.int (tdF tm X f j S)), jmk I1 L c e) := by
            intro f
            induction f with
            | zero =>
              intro j S hj hS
              rw [jb_231_55, t1, decide_eq_true (by rw [nI_leI (by omega) (by omega)]; omega), cond_true]
              rfl
            | succ f ih =>
              intro j S hj hS
              have hjK : j < K := by omega
              have h4j := t4 j hjK
              have hjX : (j + 1) * X ≤ 60 * 999 := Nat.mul_le_mul (by omega) hX
              rw [jb_231_55, t1, decide_eq_false (by rw [nI_leI (by omega) (by omega)]; omega), cond_false, jdI (show j < 60 by omega), cond_true, cond_true, jcl' (by omega), t3 j hjK, nI_1, pk_mul]
              have e : tdF tm X (f + 1) j S = if tm j < 1000000 then (if S + tm j ≤ (j + 1) * X then tdF tm X f (j + 1) (S + tm j) else nI j) else nI j := rfl
              rw [e]
              simp only [Bool.cond_decide, fJ_no]
              by_cases q : tm j < 1000000
              · have := h4j q
                have qq : ¬¬ tm j < 1000000 := fun k => k q
                rw [if_pos qq, if_pos q, fJ_yes q, nI_add, ih (j + 1) (S + tm j) (by omega) (by omega)]
                have hle : nI (S + tm j) ≤ nI ((j + 1) * X) ↔ S + tm j ≤ (j + 1) * X := nI_leI (by omega) (by omega)
                simp only [hle]
                split <;> rfl
              · rw [if_neg (fun k => k q), if_neg q]
          exact key K 0 0 (by omega) (by omega)
        · rw [decide_eq_false h0, cond_false, if_neg h0]
          exact ⟨I, rfl, fun _ _ _ _ _ => rfl⟩
      · rw [if_neg (fun q => q hz), if_neg (fun q => hz q.2)]
        exact ⟨I, rfl, fun _ _ _ _ _ => rfl⟩
    · rw [if_pos hy, if_neg (fun q => hy q.1.2)]
      exact ⟨I, rfl, fun _ _ _ _ _ => rfl⟩
  · rw [if_pos hx, if_neg (fun q => hx q.1.1)]
    exact ⟨I, rfl, fun _ _ _ _ _ => rfl⟩
end OPN
