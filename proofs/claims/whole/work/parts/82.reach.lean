/-! reach, backFrom -/
def rhB (wet : Nat → Bool) (ch : Bool) (u : Nat) : Bool := wet u && (!ch || decide (isChr u))
noncomputable def opReach (n : Nat) (v : Nat → aMv) (m : Nat) (pe : Nat → aPe) (lw : List aLn) (x y : Int32) : Int32 := if psOk m x ∧ 0 ≤ y.toInt ∧ y.toInt ≤ 2 then nI (ctF (rhB (wetF n v (decide (y = 2)) (gS lw v pe (psO x) (knO pe (psO x))) (psS x)) (decide (y = 1))) 54) else -1
/-- whoever it is wet at comes back -/
def acB (wet : Nat → Bool) (far : Nat → Nat) : Nat → Nat → Bool
  | 0, _ => true
  | f + 1, k => (!wet k || decide (far k < 1000000)) && acB wet far f (k + 1)
noncomputable def opBackFrom (n : Nat) (v : Nat → aMv) (m : Nat) (pe : Nat → aPe) (lw : List aLn) (x : Int32) : Int32 := if psOk m x then (if acB (wetF n v false (gS lw v pe (psO x) (knO pe (psO x))) (psS x)) (dS n false none (gS lw v pe (psO x) (knO pe (psO x))) (tS v) (psS x)) 54 0 = true then 1 else 0) else -1
/-- states as a long number -/
def bl (b : Nat → Bool) : Nat → Int64
  | 0 => 0
  | k + 1 => if b k = true then bl b k ||| ((1 : Int64) <<< ((nI k).toInt64 &&& 63)) else bl b k
section RCH
variable {d : Nat} {I I' : Nat → Nat → Int32} {L : Nat → Nat → Int64} {c e : Nat} {x y z : Int32} {lw : List aLn} {n m w s k B st : Nat} {v : Nat → aMv} {pe : Nat → aPe} {D : Nat → Int32} {one : Option Nat} {far far0 : Nat → Nat} {bs sh un : Bool} {g t : Nat → Nat → Nat} {tl : List (Nat × Nat)} {wet wet0 b : Nat → Bool} {y1 : Int32}
theorem bl_s : bl b (k + 1) = if b k = true then bl b k ||| ((1 : Int64) <<< ((nI k).toInt64 &&& 63)) else bl b k := rfl
theorem lb_1 : ∀ k, k < 54 → ∀ u, u < 54 → ((1 : Int64) <<< ((nI k).toInt64 &&& 63)).toBitVec.getLsbD u = decide (u = k) := by decide +kernel
theorem lb_get (y : Int64) : ∀ u, u < 54 → (y >>> ((nI u).toInt64 &&& 63)) &&& 1 = if y.toBitVec.getLsbD u = true then 1 else 0 := by
  have h1 : ∀ u, u < 54 → (((nI u).toInt64 &&& 63).toBitVec.smod 64) = BitVec.ofNat 64 u := by decide +kernel
  intro u hu
  apply Int64.toBitVec_inj.mp
  rw [Int64.toBitVec_and, Int64.toBitVec_shiftRight, h1 u hu]
  apply BitVec.eq_of_getLsbD_eq
  intro i hi
  rw [BitVec.getLsbD_and, BitVec.sshiftRight_eq', BitVec.getLsbD_sshiftRight]
  have hu2 : (BitVec.ofNat 64 u).toNat = u := by
    rw [BitVec.toNat_ofNat]
    omega
  have h0 : ∀ i, i < 64 → ((1 : Int64).toBitVec.getLsbD i = decide (i = 0)) ∧ (0 : Int64).toBitVec.getLsbD i = false := by decide +kernel
  rw [hu2, (h0 i hi).1]
  by_cases q : i = 0
  · subst q
    rw [if_pos (show u + 0 < 64 by omega), Nat.add_zero]
    cases hy : y.toBitVec.getLsbD u with
    | true => rfl
    | false => rfl
  · rw [decide_eq_false q, Bool.and_false]
    symm
    split
    · rw [(h0 i hi).1, decide_eq_false q]
    · exact (h0 i hi).2
theorem bl_get : ∀ k, k ≤ 54 → ∀ u, u < 54 → (bl b k).toBitVec.getLsbD u = (decide (u < k) && b u) := by
  intro k
  induction k with
  | zero =>
    intro _ u hu
    rw [decide_eq_false (Nat.not_lt_zero u), Bool.false_and]
    show (0 : Int64).toBitVec.getLsbD u = false
    exact BitVec.getLsbD_zero
  | succ k ih =>
    intro hk u hu
    rw [bl_s]
    have hi := ih (by omega) u hu
    by_cases q : b k = true
    · rw [if_pos q, Int64.toBitVec_or, BitVec.getLsbD_or, hi, lb_1 k (by omega) u hu]
      by_cases e : u = k
      · subst e
        rw [q, decide_eq_true rfl, decide_eq_true (Nat.lt_succ_self u), Bool.or_true]
        rfl
      · rw [decide_eq_false e, Bool.or_false]
        by_cases l : u < k
        · rw [decide_eq_true l, decide_eq_true (show u < k + 1 by omega)]
        · rw [decide_eq_false l, decide_eq_false (show ¬ u < k + 1 by omega)]
    · rw [if_neg q, hi]
      by_cases e : u = k
      · subst e
        rw [Bool.not_eq_true] at q
        rw [q, Bool.and_false, Bool.and_false]
      · by_cases l : u < k
        · rw [decide_eq_true l, decide_eq_true (show u < k + 1 by omega)]
        · rw [decide_eq_false l, decide_eq_false (show ¬ u < k + 1 by omega)]
theorem ac_s {f : Nat} : acB wet far (f + 1) k = ((!wet k || decide (far k < 1000000)) && acB wet far f (k + 1)) := rfl
theorem ac_iff : ∀ f k, acB wet far f k = true ↔ ∀ u, k ≤ u → u < k + f → wet u = true → far u < 1000000 := by
  intro f
  induction f with
  | zero => intro k; exact ⟨fun _ u h1 h2 => by omega, fun _ => rfl⟩
  | succ f ih =>
    intro k
    unfold acB
    rw [Bool.and_eq_true, ih, Bool.or_eq_true, Bool.not_eq_true', decide_eq_true_eq]
    constructor
    · rintro ⟨h1, h2⟩ u hu hl hw
      by_cases q : u = k
      · subst q
        rcases h1 with h1 | h1
        · rw [hw] at h1
          cases h1
        · exact h1
      · exact h2 u (by omega) (by omega) hw
    · intro h
      refine ⟨?_, fun u hu hl hw => h u (by omega) (by omega) hw⟩
      cases hw : wet k with
      | false => exact Or.inl rfl
      | true => exact Or.inr (h k (Nat.le_refl k) (by omega) hw)
theorem frG_51 (h : frG I I') : frG I (fB51 I' wet) := fun q j a1 a2 a3 a4 a5 => by
  unfold fB51
  rw [if_neg (by omega)]
  exact h q j a1 a2 a3 a4 a5
theorem q_93 {ch : Bool} : jev d 93 [.ref 42, .int (if ch = true then 1 else 0)] (jmk (fB51 I wet) L c e) = some (some (.int (nI (ctF (rhB wet ch) 54))), jmk (fB51 I wet) L c e) := by
  have key : jat d 93 4 [.ref 42, .int (if ch = true then 1 else 0), .int (nI (ctF (rhB wet ch) 0)), .int (nI 0)] [] (jmk (fB51 I wet) L c e) = jat d 93 4 [.ref 42, .int (if ch = true then 1 else 0), .int (nI (ctF (rhB wet ch) 54)), .int (nI 54)] [] (jmk (fB51 I wet) L c e) := jloop (N := 54) (fun k => jat d 93 4 [.ref 42, .int (if ch = true then 1 else 0), .int (nI (ctF (rhB wet ch) k)), .int (nI k)] [] (jmk (fB51 I wet) L c e)) (fun k hk => by
    show jat d 93 4 [.ref 42, .int (if ch = true then 1 else 0), .int (nI (ctF (rhB wet ch) k)), .int (nI k)] [] (jmk (fB51 I wet) L c e) = jat d 93 4 [.ref 42, .int (if ch = true then 1 else 0), .int (nI (ctF (rhB wet ch) k + if rhB wet ch k = true then 1 else 0)), .int (nI (k + 1))] [] (jmk (fB51 I wet) L c e)
    have hr : rhB wet ch k = true ↔ wet k = true ∧ (ch = true → isChr k) := by
      unfold rhB
      rw [Bool.and_eq_true, Bool.or_eq_true, Bool.not_eq_true', decide_eq_true_eq]
      cases ch <;> simp
    rw [jb_93_4, decide_eq_false (show ¬ (54 : Int32) ≤ nI k by show ¬ nI 54 ≤ nI k; rw [nI_leI (by omega) (by omega)]; omega), cond_false, jdI hk, cond_true, jcl' (by omega), fB51_at hk, q_146 hk]
    simp only [Option.bind_some, jps, Bool.cond_decide, j01, jb_93_28, jb_93_31, jb_93_35, Int32.add_zero, nI_1]
    by_cases h1 : wet k = true
    · rw [if_neg (fun q => q h1)]
      by_cases h2 : ch = true
      · rw [if_neg (fun q => q h2)]
        by_cases h3 : isChr k
        · rw [if_neg (fun q => q h3), if_pos (hr.mpr ⟨h1, fun _ => h3⟩)]
        · rw [if_pos h3, if_neg (fun q => h3 ((hr.mp q).2 h2))]
          rfl
      · rw [if_pos h2, if_pos (hr.mpr ⟨h1, fun q => absurd q h2⟩)]
    · rw [if_pos h1, if_neg (fun q => h1 (hr.mp q).1)]
      rfl)
  rw [jb_93_0, show jat d 93 4 [.ref 42, .int (if ch = true then 1 else 0), .int 0, .int 0] [] (jmk (fB51 I wet) L c e) = _ from key, jb_93_4]
  rfl
theorem c_reach (hce : ceOk c e) (hlo : lwOk lw) (hl : lwC lw c I) (hk : kitC n v I) (hp : peC m pe D I) (hpo : peOk m pe D) : ∃ I', jev d 107 [.ref 0, .int x, .int y] (jmk I L c e) = some (some (.int (opReach n v m pe lw x y)), jmk I' L c e) ∧ frG I I' := by
  have hn := hk.1.1
  have hm := hpo.1
  have hm' : ∀ i, i < n → mvOk (v i) := fun i hi => (hk.1.2.2 i hi).1
  unfold opReach
  rw [jb_107_0, q_151 hm hp.1]
  simp only [Option.bind_some, jps, jb_107_5, Bool.cond_decide, j01, show (y < 0) ↔ ¬ 0 ≤ y.toInt from z_lt0, show y ≤ 2 ↔ y.toInt ≤ 2 from jle_iff]
  by_cases hx : psOk m x
  · have hx2 : ¬¬ psOk m x := fun q => q hx
    rw [if_neg hx2]
    by_cases hz : 0 ≤ y.toInt
    · rw [if_neg (fun q => q hz)]
      by_cases hz1 : y.toInt ≤ 2
      · rw [if_pos hz1, if_pos ⟨hx, hz, hz1⟩]
        obtain ⟨o1, o2, o3, o4⟩ := ps_of hm hx
        have hg := gS_ok (lw := lw) (pe := pe) (one := psO x) (kn := knO pe (psO x)) hm'
        obtain ⟨I1, f1, f2, f3⟩ := q_83g (d := d) (L := L) hce hlo hl hk hp hpo o1
        have r1 := q_92 (d := d) (L := L) (c := c) (e := e) (un := decide (y = 2)) hn o3 hg f2
        refine ⟨fB51 I1 (wetF n v (decide (y = 2)) (gS lw v pe (psO x) (knO pe (psO x))) (psS x)), ?_, frG_51 f3⟩
        have e38 : jat d 107 38 [.ref 0, .int x, .int y] [.int (nI (psS x)), .ref 42] (jmk I1 L c e) = jat d 107 48 [.ref 0, .int x, .int y] [.int (if decide (y = 2) = true then 1 else 0), .int (nI (psS x)), .ref 42] (jmk I1 L c e) := by
          rw [jb_107_38]
          by_cases q : y = 2
          · rw [decide_eq_true q, decide_eq_false (fun k => k q), cond_false, if_pos rfl]
          · rw [decide_eq_false q, decide_eq_true q, cond_true, if_neg (by decide)]
        have e51 : ∀ J, jat d 107 51 [.ref 0, .int x, .int y] [] (jmk J L c e) = jat d 107 65 [.ref 0, .int x, .int y] [.int (if decide (y = 1) = true then 1 else 0), .ref 42] (jmk J L c e) := by
          intro J
          rw [jb_107_51]
          by_cases q : y = 1
          · rw [decide_eq_true q, decide_eq_false (fun k => k q), cond_false, if_pos rfl]
          · rw [decide_eq_false q, decide_eq_true q, cond_true, if_neg (by decide)]
        rw [jb_152_0]
        simp only [Option.bind_some, jps]
        rw [jb_107_27, o2, f1]
        simp only [Option.bind_some, jps]
        rw [jb_107_30, jb_153_0]
        simp only [Option.bind_some, jps]
        rw [o4, e38, jb_107_48, r1]
        simp only [Option.bind_some, jps]
        rw [e51, jb_107_65, q_93]
        simp only [Option.bind_some, jps]
        rw [jb_107_68]
      · rw [if_neg hz1, if_neg (fun q => hz1 q.2.2)]
        exact ⟨I, rfl, fun _ _ _ _ _ _ _ => rfl⟩
    · rw [if_pos hz, if_neg (fun q => hz q.2.1)]
      exact ⟨I, rfl, fun _ _ _ _ _ _ _ => rfl⟩
  · rw [if_pos hx, if_neg (fun q => hx q.1)]
    exact ⟨I, rfl, fun _ _ _ _ _ _ _ => rfl⟩
theorem ct_congr {b' : Nat → Bool} : ∀ k, (∀ u, u < k → b u = b' u) → ctF b k = ctF b' k := by
  intro k
  induction k with
  | zero => intro _; rfl
  | succ k ih =>
    intro h
    unfold ctF
    rw [ih (fun u hu => h u (by omega)), h k (Nat.lt_succ_self k)]
theorem ct_zero : ∀ k, (∀ u, u < k → b u = false) → ctF b k = 0 := by
  intro k
  induction k with
  | zero => intro _; rfl
  | succ k ih =>
    intro h
    unfold ctF
    rw [ih (fun u hu => h u (by omega)), h k (Nat.lt_succ_self k)]
    rfl
theorem m_reach (hlo : lwOk lw) (hl : lwM lw I) (hk : kitM n v I) (hp : peM m pe D I) (hpo : peOk m pe D) : ∃ I', jev d 216 [.ref 58, .int x, .int y] (jmk I L c e) = some (some (.int (opReach n v m pe lw x y)), jmk I' L c e) ∧ frM I I' := by
  have hn := hk.1
  have hm := hpo.1
  have hm' : ∀ i, i < n → mvOk (v i) := fun i hi => (hk.2.2 i hi).1
  unfold opReach
  rw [jb_216_0, q_168 hm hp.1]
  simp only [Option.bind_some, jps, jb_216_5, q_163, jb_216_14, Bool.cond_decide, j01, show (0 : Int32).toInt = 0 from rfl, show (2 : Int32).toInt = 2 from rfl]
  by_cases hx : psOk m x
  · have hx2 : ¬¬ psOk m x := fun q => q hx
    rw [if_neg hx2]
    by_cases hz : 0 ≤ y.toInt ∧ y.toInt ≤ 2
    · have hz2 : ¬¬ (0 ≤ y.toInt ∧ y.toInt ≤ 2) := fun q => q hz
      have hall : psOk m x ∧ 0 ≤ y.toInt ∧ y.toInt ≤ 2 := ⟨hx, hz⟩
      rw [if_pos hz2, if_pos hall]
      obtain ⟨o1, o2, o3, o4⟩ := ps_of hm hx
      have h18 : (nI (psS x)).toInt < 18 ↔ psS x < 18 := by
        rw [nI_toInt (by omega)]
        omega
      rw [o4, q_170]
      simp only [Option.bind_some, jps, jb_216_31, Bool.cond_decide, j01, h18]
      have hrest : ¬ (y = 2 ∧ psS x < 18) → ∃ I', jat d 216 36 [.ref 58, .int x, .int y, .null, .null] [] (jmk I L c e) = some (some (.int (nI (ctF (rhB (wetF n v (decide (y = 2)) (gS lw v pe (psO x) (knO pe (psO x))) (psS x)) (decide (y = 1))) 54))), jmk I' L c e) ∧ frM I I' := by
        intro hno
        obtain ⟨I1, f1, f2⟩ := q_210 (d := d) (L := L) (c := c) (e := e) (bs := false) (sh := !decide (y = 2)) (B := 0) hlo hl hk hp hpo o1 (by decide) o3
        refine ⟨f88 I1 (dG n 0 v false (!decide (y = 2)) (gS lw v pe (psO x) (knO pe (psO x))) (psS x)), ?_, frM_88 f2⟩
        have e36 : jat d 216 36 [.ref 58, .int x, .int y, .null, .null] [] (jmk I L c e) = jat d 216 59 [.ref 58, .int x, .int y, .null, .null] [.int (if (!decide (y = 2)) = true then 1 else 0), .int 0, .int 0, .int (nI (psS x)), .int (oneI (psO x)), .ref 58] (jmk I L c e) := by
          rw [jb_216_36, o4, o2]
          by_cases q : y = 2
          · rw [decide_eq_true q, cond_true]
            rfl
          · rw [decide_eq_false q, cond_false]
            rfl
        have hw : ∀ u, wetF n v (decide (y = 2)) (gS lw v pe (psO x) (knO pe (psO x))) (psS x) u = decide (dG n 0 v false (!decide (y = 2)) (gS lw v pe (psO x) (knO pe (psO x))) (psS x) u < 1000000) := by
          intro u
          unfold wetF
          by_cases q : y = 2
          · rw [decide_eq_true q, decide_eq_false (fun k => hno ⟨q, k⟩)]
            rfl
          · rw [decide_eq_false q]
            rfl
        rw [e36, jb_216_59, show jev d 210 [.ref 58, .int (oneI (psO x)), .int (nI (psS x)), .int 0, .int 0, .int (if (!decide (y = 2)) = true then 1 else 0)] (jmk I L c e) = _ from f1]
        simp only [Option.bind_some, jps]
        rw [jb_216_62]
        have hwe : wetF n v (decide (y = 2)) (gS lw v pe (psO x) (knO pe (psO x))) (psS x) = fun u => decide (dG n 0 v false (!decide (y = 2)) (gS lw v pe (psO x) (knO pe (psO x))) (psS x) u < 1000000) := funext hw
        rw [hwe]
        generalize dG n 0 v false (!decide (y = 2)) (gS lw v pe (psO x) (knO pe (psO x))) (psS x) = far
        have key : jat d 216 67 [.ref 58, .int x, .int y, .int (nI (ctF (rhB (rcB far) true) 0)), .int (nI 0)] [] (jmk (f88 I1 far) L c e) = jat d 216 67 [.ref 58, .int x, .int y, .int (nI (ctF (rhB (rcB far) true) 54)), .int (nI 54)] [] (jmk (f88 I1 far) L c e) := jloop (N := 54) (fun k => jat d 216 67 [.ref 58, .int x, .int y, .int (nI (ctF (rhB (rcB far) true) k)), .int (nI k)] [] (jmk (f88 I1 far) L c e)) (fun k hk => by
          show jat d 216 67 [.ref 58, .int x, .int y, .int (nI (ctF (rhB (rcB far) true) k)), .int (nI k)] [] (jmk (f88 I1 far) L c e) = jat d 216 67 [.ref 58, .int x, .int y, .int (nI (ctF (rhB (rcB far) true) k + if rhB (rcB far) true k = true then 1 else 0)), .int (nI (k + 1))] [] (jmk (f88 I1 far) L c e)
          have hr : rhB (rcB far) true k = true ↔ far k < 1000000 ∧ isChr k := by
            unfold rhB rcB
            rw [Bool.and_eq_true, Bool.or_eq_true, Bool.not_eq_true', decide_eq_true_eq, decide_eq_true_eq]
            simp
          rw [jb_216_67, decide_eq_false (show ¬ (54 : Int32) ≤ nI k by show ¬ nI 54 ≤ nI k; rw [nI_leI (by omega) (by omega)]; omega), cond_false, q_171 hk]
          simp only [Option.bind_some, jps]
          rw [jb_216_79, jdI hk, cond_true, jcl' (by omega), f88_at hk, nI_1, nI_1]
          simp only [Bool.cond_decide, j01, fJ_no]
          by_cases h3 : isChr k
          · rw [if_neg (fun q => q h3)]
            by_cases h1 : far k < 1000000
            · rw [if_neg (fun q => q h1), if_pos (hr.mpr ⟨h1, h3⟩)]
            · rw [if_pos h1, if_neg (fun q => h1 (hr.mp q).1)]
              rfl
          · rw [if_pos h3, if_neg (fun q => h3 (hr.mp q).2)]
            rfl)
        rw [show jat d 216 67 [.ref 58, .int x, .int y, .int 0, .int 0] [] (jmk (f88 I1 far) L c e) = _ from key, jb_216_67, show decide ((54 : Int32) ≤ nI 54) = true from rfl, cond_true, q_215]
        simp only [Option.bind_some, jps, Bool.cond_decide, jb_216_116]
        by_cases q : y = 1
        · rw [if_neg (fun j => j q), decide_eq_true q]
          rfl
        · rw [if_pos q, decide_eq_false q]
          rw [ct_congr (b := fun u => decide (far u < 1000000)) (b' := rhB (fun u => decide (far u < 1000000)) false) 54 (fun u _ => by unfold rhB; simp)]
      by_cases h2 : y = 2
      · rw [if_neg (fun q => q h2)]
        by_cases h3 : psS x < 18
        · have h33 : ¬¬ psS x < 18 := fun q => q h3
          rw [if_neg h33]
          refine ⟨I, ?_, fun _ _ _ _ => rfl⟩
          rw [ct_zero 54 (fun u _ => by
            unfold rhB wetF
            rw [decide_eq_true h2, decide_eq_true h3]
            rfl)]
          rfl
        · rw [if_pos h3]
          exact hrest (fun q => h3 q.2)
      · rw [if_pos h2]
        exact hrest (fun q => h2 q.1)
    · rw [if_neg (fun q => q hz), if_neg (fun q => hz q.2)]
      exact ⟨I, rfl, fun _ _ _ _ => rfl⟩
  · rw [if_pos hx, if_neg (fun q => hx q.1)]
    exact ⟨I, rfl, fun _ _ _ _ => rfl⟩
theorem fC_51 : fC49 (fB51 I wet) far = fB51 (fC49 I far) wet := by
  funext q j
  unfold fC49 fB51
  dsimp only
  by_cases h : q = 49 ∧ j < 54
  · have h2 : ¬ (q = 51 ∧ j < 54) := fun k => by omega
    rw [if_pos h, if_neg h2, if_pos h]
  · rw [if_neg h, if_neg h]
theorem q_94 (hf : ∀ u, u < 54 → far u ≤ 1000000) : jev d 94 [.ref 42] (jmk (fC49 (fB51 I wet) far) L c e) = some (some (.int (if acB wet far 54 0 = true then 1 else 0)), jmk (fC49 (fB51 I wet) far) L c e) := by
  have key : ∀ f k, k + f = 54 → jat d 94 2 [.ref 42, .int (nI k)] [] (jmk (fC49 (fB51 I wet) far) L c e) = some (some (.int (if acB wet far f k = true then 1 else 0)), jmk (fC49 (fB51 I wet) far) L c e) := by
    intro f
    induction f with
    | zero =>
      intro k hk
      have hk : k = 54 := hk
      subst hk
      rw [jb_94_2]
      rfl
    | succ f ih =>
      intro k hk
      have hk54 : k < 54 := by omega
      have e51 : fC49 (fB51 I wet) far 51 k = if wet k = true then 1 else 0 := by
        rw [fC_51]
        exact fB51_at hk54
      rw [jb_94_2, decide_eq_false (show ¬ (54 : Int32) ≤ nI k by show ¬ nI 54 ≤ nI k; rw [nI_leI (by omega) (by omega)]; omega), cond_false, jdI hk54, cond_true, cond_true, jcl' (by omega), e51, fC49_at hk54, nI_1, ih (k + 1) (by omega)]
      simp only [Bool.cond_decide, j01, mil _ (hf k hk54)]
      rw [ac_s]
      cases hw : wet k with
      | false =>
        rw [if_pos (by decide)]
        rfl
      | true =>
        rw [if_neg (by decide)]
        by_cases q : far k < 1000000
        · rw [if_pos q, decide_eq_true q]
          rfl
        · rw [if_neg q, decide_eq_false q]
          rfl
  rw [jb_94_0]
  exact key 54 0 rfl
theorem c_backFrom (hce : ceOk c e) (hlo : lwOk lw) (hl : lwC lw c I) (hk : kitC n v I) (hp : peC m pe D I) (hpo : peOk m pe D) : ∃ I', jev d 110 [.ref 0, .int x] (jmk I L c e) = some (some (.int (opBackFrom n v m pe lw x)), jmk I' L c e) ∧ frG I I' := by
  have hn := hk.1.1
  have hm := hpo.1
  have hm' : ∀ i, i < n → mvOk (v i) := fun i hi => (hk.1.2.2 i hi).1
  unfold opBackFrom
  rw [jb_110_0, q_151 hm hp.1]
  simp only [Option.bind_some, jps, jb_110_5, Bool.cond_decide, j01]
  by_cases hx : psOk m x
  · have hx2 : ¬¬ psOk m x := fun q => q hx
    rw [if_pos hx2, if_pos hx]
    obtain ⟨o1, o2, o3, o4⟩ := ps_of hm hx
    have hg := gS_ok (lw := lw) (pe := pe) (one := psO x) (kn := knO pe (psO x)) hm'
    obtain ⟨I1, f1, f2, f3⟩ := q_83g (d := d) (L := L) hce hlo hl hk hp hpo o1
    have r1 := q_92 (d := d) (L := L) (c := c) (e := e) (un := false) hn o3 hg f2
    have r2 := q_86d (d := d) (L := L) (c := c) (e := e) (bs := false) (wo := none) (to := psS x) hn (by omega) wo_n hg (tiM_51 (wet := wetF n v false (gS lw v pe (psO x) (knO pe (psO x))) (psS x)) f2)
    have hd : ∀ u, u < 54 → dS n false none (gS lw v pe (psO x) (knO pe (psO x))) (tS v) (psS x) u ≤ 1000000 := fun u hu => dS_le hg hu
    refine ⟨fC49 (fB51 I1 (wetF n v false (gS lw v pe (psO x) (knO pe (psO x))) (psS x))) (dS n false none (gS lw v pe (psO x) (knO pe (psO x))) (tS v) (psS x)), ?_, frG_49 (frG_51 f3)⟩
    rw [jb_153_0]
    simp only [Option.bind_some, jps]
    rw [jb_110_14, jb_152_0]
    simp only [Option.bind_some, jps]
    rw [jb_110_23, o2, f1]
    simp only [Option.bind_some, jps]
    rw [jb_110_26, o4, show jev d 92 [.ref 42, .int (nI (psS x)), .int 0] (jmk I1 L c e) = _ from r1]
    simp only [Option.bind_some, jps]
    have r3 : jev d 86 [.ref 42, .int (nI (psS x)), .int 0, .int (-1)] (jmk (fB51 I1 (wetF n v false (gS lw v pe (psO x) (knO pe (psO x))) (psS x))) L c e) = some (none, jmk (fC49 (fB51 I1 (wetF n v false (gS lw v pe (psO x) (knO pe (psO x))) (psS x))) (dS n false none (gS lw v pe (psO x) (knO pe (psO x))) (tS v) (psS x))) L c e) := r2
    rw [jb_110_35, r3]
    simp only [Option.bind_some, jps]
    rw [jb_110_45, q_94 hd]
    simp only [Option.bind_some, jps]
    rw [jb_110_52]
    simp only [Bool.cond_decide, j01]
    by_cases q : acB (wetF n v false (gS lw v pe (psO x) (knO pe (psO x))) (psS x)) (dS n false none (gS lw v pe (psO x) (knO pe (psO x))) (tS v) (psS x)) 54 0 = true
    · rw [if_neg (fun j => j q), if_pos q]
    · rw [if_pos q, if_neg q]
  · rw [if_neg (fun q => q hx), if_neg hx]
    exact ⟨I, rfl, fun _ _ _ _ _ _ _ => rfl⟩
theorem q_220b (hlo : lwOk lw) (hpo : peOk m pe D) (ho : oneOk m one) (hs : s < 54) {far : Nat → Nat} : ∀ (f k : Nat) (I : Nat → Nat → Int32), k + f = 54 → lwM lw I → kitM n v I → peM m pe D I → ∃ I', jat d 220 72 [.ref 58, .int x, .int (oneI one), .int (nI s), .long (bl (rcB far) 54), .null, .int (nI k)] [] (jmk I L c e) = some (some (.int (if acB (rcB far) (dS n false none (gS lw v pe one (knO pe one)) (tS v) s) f k = true then 1 else 0)), jmk I' L c e) ∧ frM I I' := by
  intro f
  induction f with
  | zero =>
    intro k I hk _ _ _
    have hk : k = 54 := hk
    subst hk
    refine ⟨I, ?_, fun _ _ _ _ => rfl⟩
    rw [jb_220_72]
    rfl
  | succ f ih =>
    intro k I hk hl hki hp
    have hk54 : k < 54 := by omega
    have hm' : ∀ i, i < n → mvOk (v i) := fun i hi => (hki.2.2 i hi).1
    have hg := gS_ok (lw := lw) (pe := pe) (one := one) (kn := knO pe one) hm'
    obtain ⟨I1, f1, f2⟩ := q_211 (d := d) (L := L) (c := c) (e := e) (bs := false) hlo hl hki hp hpo ho hk54
    have fr1 : frM I (f88 I1 (dG n 0 v false true (gS lw v pe one (knO pe one)) k)) := frM_88 f2
    have hds : dG n 0 v false true (gS lw v pe one (knO pe one)) k s = dS n false none (gS lw v pe one (knO pe one)) (tS v) s k := by
      unfold dG dS
      rw [cG_0]
      have : (fun x => x = s) = aimP s := by
        funext x
        show (x = s) = (aimB s x = true)
        unfold aimB
        rw [if_neg (by omega), if_neg (by omega), decide_eq_true_eq]
      rw [this]
    rw [jb_220_72, decide_eq_false (show ¬ (54 : Int32) ≤ nI k by show ¬ nI 54 ≤ nI k; rw [nI_leI (by omega) (by omega)]; omega), cond_false, lb_get _ k hk54, bl_get 54 (Nat.le_refl _) k hk54, decide_eq_true hk54, Bool.true_and, nI_1, show jev d 211 [.ref 58, .int (oneI one), .int (nI k), .int 0] (jmk I L c e) = _ from f1]
    simp only [Option.bind_some, jps]
    have hlg : (¬ lg_cmp (if rcB far k = true then (1 : Int64) else 0) 0 = 0) ↔ rcB far k = true := by
      by_cases q : rcB far k = true
      · rw [if_pos q]
        exact ⟨fun _ => q, fun _ => by decide⟩
      · rw [if_neg q]
        exact ⟨fun j => absurd (show lg_cmp (0 : Int64) 0 = 0 by decide) j, fun j => absurd j q⟩
    simp only [Bool.cond_decide, hlg]
    by_cases hw : rcB far k = true
    rotate_left
    · obtain ⟨I2, r1, r2⟩ := ih (k + 1) I (by omega) hl hki hp
      refine ⟨I2, ?_, r2⟩
      rw [Bool.not_eq_true] at hw
      rw [ac_s, hw, if_neg (by decide)]
      exact r1
    · rw [if_pos hw, ac_s, hw]
      obtain ⟨I2, r1, r2⟩ := ih (k + 1) _ (by omega) (lwM_M hl fr1) (kitM_M hki fr1) (peM_M hp fr1)
      by_cases q : dS n false none (gS lw v pe one (knO pe one)) (tS v) s k < 1000000
      · refine ⟨I2, ?_, frM_t fr1 r2⟩
        rw [jb_220_102, jdI hs, cond_true, jcl' (by omega), f88_at hs, hds, nI_1]
        simp only [Bool.cond_decide, fJ_no]
        have qq : ¬¬ dS n false none (gS lw v pe one (knO pe one)) (tS v) s k < 1000000 := fun j => j q
        rw [if_pos qq, decide_eq_true q]
        exact r1
      · refine ⟨_, ?_, fr1⟩
        rw [jb_220_102, jdI hs, cond_true, jcl' (by omega), f88_at hs, hds, nI_1]
        simp only [Bool.cond_decide, fJ_no]
        rw [if_neg (fun j => j q), decide_eq_false q]
        rfl
theorem m_backFrom (hlo : lwOk lw) (hl : lwM lw I) (hk : kitM n v I) (hp : peM m pe D I) (hpo : peOk m pe D) : ∃ I', jev d 220 [.ref 58, .int x] (jmk I L c e) = some (some (.int (opBackFrom n v m pe lw x)), jmk I' L c e) ∧ frM I I' := by
  have hn := hk.1
  have hm := hpo.1
  unfold opBackFrom
  rw [jb_220_0, q_168 hm hp.1]
  simp only [Option.bind_some, jps, jb_220_5, Bool.cond_decide, j01]
  by_cases hx : psOk m x
  · have hx2 : ¬¬ psOk m x := fun q => q hx
    rw [if_pos hx2, if_pos hx]
    obtain ⟨o1, o2, o3, o4⟩ := ps_of hm hx
    obtain ⟨I1, f1, f2⟩ := q_211 (d := d) (L := L) (c := c) (e := e) (bs := false) hlo hl hk hp hpo o1 o3
    have fr1 : frM I (f88 I1 (dG n 0 v false true (gS lw v pe (psO x) (knO pe (psO x))) (psS x))) := frM_88 f2
    obtain ⟨I2, r1, r2⟩ := q_220b (d := d) (L := L) (c := c) (e := e) (x := x) (far := dG n 0 v false true (gS lw v pe (psO x) (knO pe (psO x))) (psS x)) hlo hpo o1 o3 54 0 _ rfl (lwM_M hl fr1) (kitM_M hk fr1) (peM_M hp fr1)
    refine ⟨I2, ?_, frM_t fr1 r2⟩
    have hwe : wetF n v false (gS lw v pe (psO x) (knO pe (psO x))) (psS x) = rcB (dG n 0 v false true (gS lw v pe (psO x) (knO pe (psO x))) (psS x)) := by
      funext u
      rfl
    rw [o2, o4, show jev d 211 [.ref 58, .int (oneI (psO x)), .int (nI (psS x)), .int 0] (jmk I L c e) = _ from f1, hwe]
    simp only [Option.bind_some, jps]
    rw [jb_220_32]
    generalize dG n 0 v false true (gS lw v pe (psO x) (knO pe (psO x))) (psS x) = far at r1 ⊢
    have key : jat d 220 35 [.ref 58, .int x, .int (oneI (psO x)), .int (nI (psS x)), .long (bl (rcB far) 0), .null, .int (nI 0)] [] (jmk (f88 I1 far) L c e) = jat d 220 35 [.ref 58, .int x, .int (oneI (psO x)), .int (nI (psS x)), .long (bl (rcB far) 54), .null, .int (nI 54)] [] (jmk (f88 I1 far) L c e) := jloop (N := 54) (fun k => jat d 220 35 [.ref 58, .int x, .int (oneI (psO x)), .int (nI (psS x)), .long (bl (rcB far) k), .null, .int (nI k)] [] (jmk (f88 I1 far) L c e)) (fun k hk => by
      show jat d 220 35 [.ref 58, .int x, .int (oneI (psO x)), .int (nI (psS x)), .long (bl (rcB far) k), .null, .int (nI k)] [] (jmk (f88 I1 far) L c e) = jat d 220 35 [.ref 58, .int x, .int (oneI (psO x)), .int (nI (psS x)), .long (bl (rcB far) (k + 1)), .null, .int (nI (k + 1))] [] (jmk (f88 I1 far) L c e)
      have hr : rcB far k = true ↔ far k < 1000000 := decide_eq_true_iff
      rw [jb_220_35, decide_eq_false (show ¬ (54 : Int32) ≤ nI k by show ¬ nI 54 ≤ nI k; rw [nI_leI (by omega) (by omega)]; omega), cond_false, jdI hk, cond_true, jcl' (by omega), f88_at hk, nI_1, bl_s]
      simp only [Bool.cond_decide, fJ_no]
      by_cases q : far k < 1000000
      · rw [if_neg (fun j => j q), if_pos (hr.mpr q)]
      · rw [if_pos q, if_neg (fun j => q (hr.mp j))])
    rw [show jat d 220 35 [.ref 58, .int x, .int (oneI (psO x)), .int (nI (psS x)), .long 0, .null, .int 0] [] (jmk (f88 I1 far) L c e) = _ from key, jb_220_35, show decide ((54 : Int32) ≤ nI 54) = true from rfl, cond_true]
    exact r1
  · rw [if_neg (fun q => q hx), if_neg hx]
    exact ⟨I, rfl, fun _ _ _ _ => rfl⟩
end RCH
