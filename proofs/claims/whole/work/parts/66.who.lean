/-! who -/
def canF (lw : List aLn) (n : Nat) (v : Nat → aMv) (pe : Nat → aPe) (r : Nat → Int64) (o : Nat) : Nat → Nat → Nat → Bool
  | 0, _, _ => true
  | f + 1, i, s => if jin (r i).toInt32 n then (match ld (v (r i).toInt32.toNatClampNeg) s with
    | some t => decide (0 < secO lw v pe (some o) (r i).toInt32.toNatClampNeg s) && canF lw n v pe r o f (i + 1) t
    | none => false) else false
def bitsF (g : Nat → Bool) : Nat → Nat
  | 0 => 0
  | k + 1 => if g k = true then bitsF g k ||| 2 ^ k else bitsF g k
def opWho (lw : List aLn) (n : Nat) (v : Nat → aMv) (m : Nat) (pe : Nat → aPe) (sh : Nat → aSh) (ro : Nat → Nat → Int64) (x y : Int32) : Int32 := if fdI sh x y = 0 then nI (bitsF (fun o => canF lw n v pe (ro x.toNatClampNeg) o (sh x.toNatClampNeg).2 0 y.toNatClampNeg) m) else fdI sh x y
section WHO
variable {d : Nat} {I I' : Nat → Nat → Int32} {L : Nat → Nat → Int64} {c e : Nat} {x y z : Int32} {lw : List aLn} {b n m w s i k o t : Nat} {v : Nat → aMv} {pe : Nat → aPe} {D : Nat → Int32} {sh : Nat → aSh} {ro : Nat → Nat → Int64}
theorem can_wlk {r : Nat → Int64} : ∀ f j s : Nat, (wlk n v r f j s).1 ≠ none → canF lw n v pe r o f j s = false := by
  intro f
  induction f with
  | zero => intro j s h; exact absurd rfl h
  | succ f ih =>
    intro j s h
    unfold wlk at h
    unfold canF
    by_cases hw : jin (r j).toInt32 n
    · rw [if_pos hw] at h ⊢
      cases hld : ld (v (r j).toInt32.toNatClampNeg) s with
      | none => rfl
      | some t =>
        rw [hld] at h
        have := ih (j + 1) t h
        show (decide _ && canF lw n v pe r o f (j + 1) t) = false
        rw [this, Bool.and_false]
    · rw [if_neg hw]
theorem wlk_lt {r : Nat → Int64} : ∀ f j s a : Nat, (wlk n v r f j s).1 = some a → a < j + f := by
  intro f
  induction f with
  | zero => intro j s a h; cases h
  | succ f ih =>
    intro j s a h
    unfold wlk at h
    by_cases hw : jin (r j).toInt32 n
    · rw [if_pos hw] at h
      cases hld : ld (v (r j).toInt32.toNatClampNeg) s with
      | none =>
        rw [hld] at h
        cases h
        omega
      | some t =>
        rw [hld] at h
        have := ih (j + 1) t a h
        omega
    · rw [if_neg hw] at h
      cases h
      omega
theorem bits_s {g : Nat → Bool} {k : Nat} : bitsF g (k + 1) = if g k = true then bitsF g k ||| 2 ^ k else bitsF g k := rfl
theorem bits_0 {g : Nat → Bool} (h : ∀ o, g o = false) : ∀ k, bitsF g k = 0 := by
  intro k
  induction k with
  | zero => rfl
  | succ k ih =>
    unfold bitsF
    rw [h k, if_neg (by simp), ih]
theorem or_bit6 {a : Nat} (hw : w < 12) : nI a ||| ((1 : Int32) <<< (nI w &&& 31)) = nI (a ||| 2 ^ w) := or_bit hw
theorem q_157l (hce : ceOk c e) (hlo : lwOk lw) (hpo : peOk m pe D) (ho : shOk b sh) (hi : i < 6) (h2 : (sh i).1 = 2) (hom : o < m) {y0 : Int32} : ∀ (f j s : Nat) (v6 v7 : Value) (I : Nat → Nat → Int32), lwC lw c I → kitC n v I → peC m pe D I → shC sh ro I L → j + f = (sh i).2 → s < 54 → ∃ I', jat d 157 6 [.ref 0, .int (nI o), .int (nI i), .int y0, .int (nI s), .int (nI j), v6, v7] [] (jmk I L c e) = some (some (.int (if canF lw n v pe (ro i) o f j s = true then 1 else 0)), jmk I' L c e) ∧ ∀ q t, ¬ (q = 1 ∧ t = 8) → q ≠ 3 → q ≠ 4 → I' q t = I q t := by
  have hl60 := (ho.2 i hi).2.2 (by omega)
  have hcc := ce_lt hce
  intro f
  induction f with
  | zero =>
    intro j s v6 v7 I hl hk hp hs hj hs54
    obtain ⟨g1, g2, g3⟩ := hs i hi
    refine ⟨I, ?_, fun _ _ _ _ _ => rfl⟩
    rw [jb_157_6, jdI hi, cond_true, jcl' (by omega), g2 (by omega), decide_eq_true (by rw [nI_leI (by omega) (by omega)]; omega), cond_true]
    rfl
  | succ f ih =>
    intro j s v6 v7 I hl hk hp hs hj hs54
    obtain ⟨g1, g2, g3⟩ := hs i hi
    have hn := hk.1.1
    rw [jb_157_6, jdI hi, cond_true, jcl' (by omega), g2 (by omega), decide_eq_false (by rw [nI_leI (by omega) (by omega)]; omega), cond_false, q_77r hs ho hi (by omega) (show j < (sh i).2 by omega)]
    simp only [Option.bind_some, jps]
    rw [jb_157_30, q_60 hk]
    simp only [Option.bind_some, jps]
    rw [jb_157_44]
    unfold canF
    have hs' : jin (nI s) 54 := jin_nI hs54 (by decide)
    by_cases hw : jin (ro i j).toInt32 n
    · have hand : jin (ro i j).toInt32 n ∧ jin (nI s) 54 := ⟨hw, hs'⟩
      rw [if_pos hand, if_pos hw, jcl' (show s < 2 ^ 31 by omega)]
      obtain ⟨w, hw', e1⟩ := (jin_iff (by omega)).mp hw
      rw [e1, jcl' (show w < 2 ^ 31 by omega)]
      cases hld : ld (v w) s with
      | none => exact ⟨I, rfl, fun _ _ _ _ _ => rfl⟩
      | some t =>
        have hmk := (hk.1.2.2 w hw').1
        have ht := ld_lt hmk hs54 hld
        have n0 : ¬ nI t < 0 := by
          rw [jlt_iff, nI_toInt (by omega)]
          simp only [Int32.reduceToInt]
          omega
        obtain ⟨I1, f1, f2⟩ := q_81 (d := d) (L := L) hce hlo hl hk hp hpo (one := some o) hom hw' hs54
        have hsec : secO lw v pe (some o) w s ≤ 99 := secK_le (lw := lw) (pe := pe) (one := some o) (s := s) (k := knO pe (some o) / 2 ^ w % 2) (by omega) hmk
        have p0 : (0 : Int32) < nI (secO lw v pe (some o) w s) ↔ 0 < secO lw v pe (some o) w s := by
          rw [jlt_iff, nI_toInt (by omega)]
          simp only [Int32.reduceToInt]
          omega
        rw [show oI (some t) = nI t from rfl, decide_eq_false n0, cond_false, show jev d 81 [.ref 42, .int (nI o), .int (nI w), .int (nI s)] (jmk I L c e) = _ from f1]
        simp only [Option.bind_some, jps]
        rw [jb_157_63]
        simp only [Bool.cond_decide, p0]
        by_cases h0 : 0 < secO lw v pe (some o) w s
        · have hs1 : shC sh ro I1 L := by
            intro a ha
            rw [f2 28 a (by omega) (by omega) (by omega), f2 27 a (by omega) (by omega) (by omega)]
            exact hs a ha
          obtain ⟨I2, r1, r2⟩ := ih (j + 1) t (.int (nI w)) (.int (nI t)) I1 (lwC_fr hl (fun q j h => f2 q j (by omega) (by omega) (by omega))) (kitC_fr hk (fun q j a1 a2 => f2 q j (by omega) (by omega) (by omega))) (peC_fr hp (fun q j a1 a2 => f2 q j (by omega) (by omega) (by omega))) hs1 (by omega) ht
          refine ⟨I2, ?_, fun q u a1 a2 a3 => (r2 q u a1 a2 a3).trans (f2 q u a1 a2 a3)⟩
          rw [if_pos h0, nI_1, r1]
          simp only [h0, decide_true, Bool.true_and]
        · rw [if_neg h0, decide_eq_false h0]
          exact ⟨I1, rfl, f2⟩
    · have hno : ¬ (jin (ro i j).toInt32 n ∧ jin (nI s) 54) := fun q => hw q.1
      rw [if_neg hno, if_neg hw]
      exact ⟨I, rfl, fun _ _ _ _ _ => rfl⟩
theorem q_121l (hce : ceOk c e) (hlo : lwOk lw) (hpo : peOk m pe D) (ho : shOk b sh) (hi : i < 6) (h2 : (sh i).1 = 2) (hs54 : s < 54) {y3 : Int32} : ∀ (f j : Nat) (I : Nat → Nat → Int32), lwC lw c I → kitC n v I → peC m pe D I → shC sh ro I L → j + f = m → ∃ I', jat d 121 19 [.ref 0, .int (nI i), .int (nI s), .int y3, .int (nI (bitsF (fun o => canF lw n v pe (ro i) o (sh i).2 0 s) j)), .int (nI j)] [] (jmk I L c e) = some (some (.int (nI (bitsF (fun o => canF lw n v pe (ro i) o (sh i).2 0 s) m))), jmk I' L c e) ∧ ∀ q t, ¬ (q = 1 ∧ t = 8) → q ≠ 3 → q ≠ 4 → I' q t = I q t := by
  have hm := hpo.1
  have hcc := ce_lt hce
  intro f
  induction f with
  | zero =>
    intro j I hl hk hp hs hj
    have hj : j = m := hj
    subst hj
    refine ⟨I, ?_, fun _ _ _ _ _ => rfl⟩
    rw [jb_121_19, hp.1, decide_eq_true (by rw [nI_leI (by omega) (by omega)]; omega), cond_true]
  | succ f ih =>
    intro j I hl hk hp hs hj
    obtain ⟨I1, f1, f2⟩ := q_157l (d := d) (L := L) hce hlo hpo ho hi h2 (show j < m by omega) (y0 := nI s) (sh i).2 0 s .null .null I hl hk hp hs (by omega) hs54
    have hs1 : shC sh ro I1 L := by
      intro a ha
      rw [f2 28 a (by omega) (by omega) (by omega), f2 27 a (by omega) (by omega) (by omega)]
      exact hs a ha
    obtain ⟨I2, r1, r2⟩ := ih (j + 1) I1 (lwC_fr hl (fun q j h => f2 q j (by omega) (by omega) (by omega))) (kitC_fr hk (fun q j a1 a2 => f2 q j (by omega) (by omega) (by omega))) (peC_fr hp (fun q j a1 a2 => f2 q j (by omega) (by omega) (by omega))) hs1 (by omega)
    refine ⟨I2, ?_, fun q u a1 a2 a3 => (r2 q u a1 a2 a3).trans (f2 q u a1 a2 a3)⟩
    rw [jb_121_19, hp.1, decide_eq_false (by rw [nI_leI (by omega) (by omega)]; omega), cond_false, jb_157_0, show jat d 157 6 [.ref 0, .int (nI j), .int (nI i), .int (nI s), .int (nI s), .int 0, .null, .null] [] (jmk I L c e) = _ from f1]
    simp only [Option.bind_some, jps]
    rw [jb_121_39, nI_1, or_bit (by omega)]
    rw [bits_s] at r1
    by_cases hb : canF lw n v pe (ro i) j (sh i).2 0 s = true
    · rw [if_pos hb] at r1
      rw [if_pos hb, jt_2, cond_false]
      exact r1
    · rw [if_neg hb] at r1
      rw [if_neg hb, jt_4, cond_true]
      exact r1
theorem c_who (hce : ceOk c e) (hlo : lwOk lw) (hl : lwC lw c I) (hk : kitC n v I) (hp : peC m pe D I) (hpo : peOk m pe D) (hs : shC sh ro I L) (ho : shOk b sh) : ∃ I', jev d 121 [.ref 0, .int x, .int y] (jmk I L c e) = some (some (.int (opWho lw n v m pe sh ro x y)), jmk I' L c e) ∧ ∀ q t, ¬ (q = 1 ∧ t = 8) → q ≠ 3 → q ≠ 4 → I' q t = I q t := by
  unfold opWho
  rw [jb_121_0, q_156 hs ho]
  simp only [Option.bind_some, jps]
  rw [jb_121_6]
  by_cases h : fdI sh x y = 0
  · obtain ⟨i, s, hi, hs54, rfl, rfl, h2⟩ := fd_0 h
    obtain ⟨I', r1, r2⟩ := q_121l (d := d) (L := L) hce hlo hpo ho hi h2 hs54 (y3 := 0) m 0 I hl hk hp hs (by omega)
    rw [h, if_pos rfl, jt_4, cond_true, jcl' (by omega), jcl' (by omega)]
    exact ⟨I', r1, r2⟩
  · rw [decide_eq_false h, cond_false, if_neg h]
    exact ⟨I, rfl, fun _ _ _ _ _ => rfl⟩
theorem q_236l (hlo : lwOk lw) (hpo : peOk m pe D) (ho : shOk b sh) (hi : i < 6) (h2 : (sh i).1 = 2) (hom : o < m) {y0 y3 : Int32} {a : Nat} : ∀ (f j s : Nat) (fl : Bool) (I : Nat → Nat → Int32), lwM lw I → kitM n v I → peM m pe D I → shM sh ro I L → j + f = (sh i).2 → s < 54 → (wlk n v (ro i) f j s).1 = none → ∃ I' v6 v7 v8, jat d 236 65 [.ref 58, .int (nI i), .int y0, .int y3, .int (nI a), .int (nI o), .int (if fl = true then 1 else 0), .int (nI s), .int (nI j)] [] (jmk I L c e) = jat d 236 47 [.ref 58, .int (nI i), .int y0, .int y3, .int (nI (if (fl && canF lw n v pe (ro i) o f j s) = true then a ||| 2 ^ o else a)), .int (nI (o + 1)), v6, v7, v8] [] (jmk I' L c e) ∧ ∀ q t, q ≠ 77 → I' q t = I q t := by
  have hl60 := (ho.2 i hi).2.2 (by omega)
  have hm := hpo.1
  intro f
  induction f with
  | zero =>
    intro j s fl I hl hk hp hs hj hs54 hwl
    obtain ⟨g1, g2⟩ := hs i hi
    refine ⟨I, .int (if fl = true then 1 else 0), .int (nI s), .int (nI j), ?_, fun _ _ _ => rfl⟩
    rw [jb_236_65, jdI hi, cond_true, jcl' (by omega), (g2 (by omega)).1, decide_eq_true (by rw [nI_leI (by omega) (by omega)]; omega), cond_true, nI_1, or_bit (by omega)]
    cases fl <;> rfl
  | succ f ih =>
    intro j s fl I hl hk hp hs hj hs54 hwl
    obtain ⟨g1, g2⟩ := hs i hi
    have hn := hk.1
    unfold wlk at hwl
    unfold canF
    by_cases hw : jin (ro i j).toInt32 n
    · rw [if_pos hw] at hwl ⊢
      obtain ⟨w, hw', e1⟩ := (jin_iff (by omega)).mp hw
      rw [e1, jcl' (show w < 2 ^ 31 by omega)] at hwl ⊢
      cases hld : ld (v w) s with
      | none =>
        rw [hld] at hwl
        cases hwl
      | some t =>
        rw [hld] at hwl
        have hwl : (wlk n v (ro i) f (j + 1) t).1 = none := hwl
        have hmk := (hk.2.2 w hw').1
        have ht := ld_lt hmk hs54 hld
        have hto : mto (v w).1 (v w).2.1 s = t := by
          unfold ld at hld
          split at hld
          · exact Option.some.inj hld
          · cases hld
        obtain ⟨I1, f1, f2⟩ := q_202o (d := d) (L := L) (c := c) (e := e) hlo hl hk hp hpo (one := some o) hom hw' hs54
        have hsec : secO lw v pe (some o) w s ≤ 99 := secK_le (lw := lw) (pe := pe) (one := some o) (s := s) (k := knO pe (some o) / 2 ^ w % 2) (by omega) hmk
        have z0 : nI (secO lw v pe (some o) w s) = 0 ↔ ¬ 0 < secO lw v pe (some o) w s := by
          rw [show (0 : Int32) = nI 0 from rfl, nI_eq (by omega) (by decide)]
          omega
        have hk1 : kitM n v I1 := kitM_fr hk (f2 58 0 (by decide)) (fun q j b1 b2 => f2 q j (by omega))
        have hs1 : shM sh ro I1 L := by
          intro a ha
          rw [f2 85 a (by omega), f2 86 a (by omega)]
          exact hs a ha
        have hl1 : lwM lw I1 := lwM_fr hl (fun q j h => f2 q j (by omega))
        have hp1 : peM m pe D I1 := peM_fr hp (f2 58 6 (by decide)) (fun q j b1 b2 => f2 q j (by omega))
        obtain ⟨I2, v6, v7, v8, r1, r2⟩ := ih (j + 1) t (fl && decide (0 < secO lw v pe (some o) w s)) I1 hl1 hk1 hp1 hs1 (by omega) ht hwl
        refine ⟨I2, v6, v7, v8, ?_, fun q u a1 => (r2 q u a1).trans (f2 q u a1)⟩
        rw [jb_236_65, jdI hi, cond_true, jcl' (by omega), (g2 (by omega)).1, decide_eq_false (by rw [nI_leI (by omega) (by omega)]; omega), cond_false, q_224 hs ho hi (by omega) (show j < 60 by omega), e1]
        simp only [Option.bind_some, jps]
        rw [jb_236_86, show jev d 202 [.ref 58, .int (nI o), .int (nI w), .int (nI s)] (jmk I L c e) = _ from f1]
        simp only [Option.bind_some, jps]
        rw [jb_236_91]
        have hflag : (bif decide (¬ nI (secO lw v pe (some o) w s) = 0) then jat d 236 97 [.ref 58, .int (nI i), .int y0, .int y3, .int (nI a), .int (nI o), .int (if fl = true then 1 else 0), .int (nI s), .int (nI j)] [] (jmk I1 L c e) else jat d 236 97 [.ref 58, .int (nI i), .int y0, .int y3, .int (nI a), .int (nI o), .int 0, .int (nI s), .int (nI j)] [] (jmk I1 L c e)) = jat d 236 97 [.ref 58, .int (nI i), .int y0, .int y3, .int (nI a), .int (nI o), .int (if (fl && decide (0 < secO lw v pe (some o) w s)) = true then 1 else 0), .int (nI s), .int (nI j)] [] (jmk I1 L c e) := by
          simp only [Bool.cond_decide, z0, Decidable.not_not]
          by_cases h0 : 0 < secO lw v pe (some o) w s
          · rw [if_pos h0, decide_eq_true h0, Bool.and_true]
          · rw [if_neg h0, decide_eq_false h0, Bool.and_false]
            rfl
        rw [hflag, jb_236_97, q_224 hs1 ho hi (by omega) (show j < 60 by omega), e1]
        simp only [Option.bind_some, jps]
        rw [jb_236_105, q_205 hk1 hw' hs54, hto]
        simp only [Option.bind_some, jps]
        rw [jb_236_110, nI_1, r1, Bool.and_assoc]
    · rw [if_neg hw] at hwl
      cases hwl
theorem q_236o (hlo : lwOk lw) (hpo : peOk m pe D) (ho : shOk b sh) (hi : i < 6) (h2 : (sh i).1 = 2) (hs54 : s < 54) (hwl : (wlkS n v sh ro i s).1 = none) {y3 : Int32} : ∀ (f j : Nat) (I : Nat → Nat → Int32) (v6 v7 v8 : Value), lwM lw I → kitM n v I → peM m pe D I → shM sh ro I L → j + f = m → ∃ I', jat d 236 47 [.ref 58, .int (nI i), .int (nI s), .int y3, .int (nI (bitsF (fun o => canF lw n v pe (ro i) o (sh i).2 0 s) j)), .int (nI j), v6, v7, v8] [] (jmk I L c e) = some (some (.int (nI (bitsF (fun o => canF lw n v pe (ro i) o (sh i).2 0 s) m))), jmk I' L c e) ∧ ∀ q t, q ≠ 77 → I' q t = I q t := by
  have hm := hpo.1
  intro f
  induction f with
  | zero =>
    intro j I v6 v7 v8 hl hk hp hs hj
    have hj : j = m := hj
    subst hj
    refine ⟨I, ?_, fun _ _ _ => rfl⟩
    rw [jb_236_47, hp.1, decide_eq_true (by rw [nI_leI (by omega) (by omega)]; omega), cond_true]
  | succ f ih =>
    intro j I v6 v7 v8 hl hk hp hs hj
    obtain ⟨I1, u6, u7, u8, f1, f2⟩ := q_236l (d := d) (L := L) (c := c) (e := e) hlo hpo ho hi h2 (show j < m by omega) (y0 := nI s) (y3 := y3) (a := bitsF (fun o => canF lw n v pe (ro i) o (sh i).2 0 s) j) (sh i).2 0 s true I hl hk hp hs (by omega) hs54 hwl
    have hk1 : kitM n v I1 := kitM_fr hk (f2 58 0 (by decide)) (fun q j b1 b2 => f2 q j (by omega))
    have hs1 : shM sh ro I1 L := by
      intro a ha
      rw [f2 85 a (by omega), f2 86 a (by omega)]
      exact hs a ha
    have hl1 : lwM lw I1 := lwM_fr hl (fun q j h => f2 q j (by omega))
    have hp1 : peM m pe D I1 := peM_fr hp (f2 58 6 (by decide)) (fun q j b1 b2 => f2 q j (by omega))
    obtain ⟨I2, r1, r2⟩ := ih (j + 1) I1 u6 u7 u8 hl1 hk1 hp1 hs1 (by omega)
    refine ⟨I2, ?_, fun q u a1 => (r2 q u a1).trans (f2 q u a1)⟩
    rw [jb_236_47, hp.1, decide_eq_false (by rw [nI_leI (by omega) (by omega)]; omega), cond_false]
    rw [show jat d 236 65 [.ref 58, .int (nI i), .int (nI s), .int y3, .int (nI (bitsF (fun o => canF lw n v pe (ro i) o (sh i).2 0 s) j)), .int (nI j), .int 1, .int (nI s), .int 0] [] (jmk I L c e) = _ from f1, Bool.true_and]
    rw [bits_s] at r1
    exact r1
theorem m_who (hlo : lwOk lw) (hl : lwM lw I) (hk : kitM n v I) (hp : peM m pe D I) (hpo : peOk m pe D) (hs : shM sh ro I L) (ho : shOk b sh) : ∃ I', jev d 236 [.ref 58, .int x, .int y] (jmk I L c e) = some (some (.int (opWho lw n v m pe sh ro x y)), jmk I' L c e) ∧ ∀ q t, q ≠ 77 → ¬ (q = 58 ∧ t = 52) → I' q t = I q t := by
  unfold opWho fdI
  rw [jb_236_0, q_169]
  simp only [Option.bind_some, jps]
  rw [jb_236_4, q_167]
  simp only [Option.bind_some, jps]
  rw [jb_236_11]
  simp only [Bool.cond_decide, j01, Decidable.not_not]
  by_cases hx : jin x 6
  · rw [if_neg (fun q => q hx)]
    by_cases hy : jin y 54
    · have hxy : jin x 6 ∧ jin y 54 := ⟨hx, hy⟩
      rw [if_pos hy, if_pos hxy]
      obtain ⟨i, hi, rfl⟩ := (jin_iff (by omega)).mp hx
      obtain ⟨s, hs54, rfl⟩ := (jin_iff (by omega)).mp hy
      rw [q_223 hs ho hi, jcl' (by omega), jcl' (by omega)]
      simp only [Option.bind_some, jps]
      rw [jb_236_21, bar_0.2]
      by_cases h : barI (sh i) = 0
      · have h2 := bar_0.1.mp h
        obtain ⟨I1, r1, r2, r4⟩ := q_233 (d := d) (c := c) (e := e) hk hs ho hi h2 hs54
        rw [decide_eq_true h, cond_true, if_pos h, r1]
        simp only [Option.bind_some, jps]
        rw [jb_236_34]
        by_cases hwl : (wlkS n v sh ro i s).1 = none
        · have hk1 : kitM n v I1 := kitM_fr hk (r4 58 0 (by omega)) (fun q j b1 b2 => r4 q j (by omega))
          have hs1 : shM sh ro I1 L := by
            intro a ha
            rw [r4 85 a (by omega), r4 86 a (by omega)]
            exact hs a ha
          have hl1 : lwM lw I1 := lwM_fr hl (fun q j h => r4 q j (by omega))
          have hp1 : peM m pe D I1 := peM_fr hp (r4 58 6 (by omega)) (fun q j b1 b2 => r4 q j (by omega))
          obtain ⟨I2, u1, u2⟩ := q_236o (d := d) (L := L) (c := c) (e := e) hlo hpo ho hi h2 hs54 hwl (y3 := barI (sh i)) m 0 I1 .null .null .null hl1 hk1 hp1 hs1 (by omega)
          rw [hwl]
          exact ⟨I2, u1, fun q t a1 a2 => (u2 q t a1).trans (r4 q t a2)⟩
        · have hlt : ∀ a, (wlkS n v sh ro i s).1 = some a → a < 60 := by
            intro a ha
            have := wlk_lt _ _ _ _ ha
            have := (ho.2 i hi).2.2 (by omega)
            omega
          have hne : ¬ oI (wlkS n v sh ro i s).1 = -2 := by
            cases hw : (wlkS n v sh ro i s).1 with
            | none => exact absurd hw hwl
            | some a =>
              have := hlt a hw
              have : ∀ a, a < 60 → ¬ nI a = -2 := by decide
              exact this a (hlt a hw)
          rw [decide_eq_false hne, cond_false, bits_0 (fun o => can_wlk _ _ _ hwl)]
          exact ⟨I1, rfl, fun q t a1 a2 => r4 q t a2⟩
      · rw [decide_eq_false h, cond_false, if_neg h]
        exact ⟨I, rfl, fun _ _ _ _ => rfl⟩
    · have hno : ¬ (jin x 6 ∧ jin y 54) := fun q => hy q.2
      rw [if_neg hy, if_neg hno, if_neg (by decide)]
      exact ⟨I, rfl, fun _ _ _ _ => rfl⟩
  · have hno : ¬ (jin x 6 ∧ jin y 54) := fun q => hx q.1
    rw [if_pos hx, if_neg hno, if_neg (by decide)]
    exact ⟨I, rfl, fun _ _ _ _ => rfl⟩
end WHO
