/-! the reference reads a text: an operand -/
section RDP
variable {d : Nat} {I I' : Nat → Nat → Int32} {L : Nat → Nat → Int64} {c e : Nat} {x y z : Int32} {k p r lev t f : Nat} {ta : Nat → Int32} {s : Int32} {sub : Nat → aRd} {o : List Nat}
theorem q_192l (hk : k ≤ 120) : ∀ (f j p v : Nat) (I : Nat → Nat → Int32), j + f = 4 → p ≤ k → v < 10 ^ j → stM k ta r p o I → ∃ I' x2, jat d 192 11 [.ref 58, .int (nI v), .int (nI j)] [] (jmk I L c e) = jat d 192 57 [.ref 58, .int (nI (rdN k ta f p v).1), .int x2] [] (jmk I' L c e) ∧ stM k ta r (rdN k ta f p v).2 o I' ∧ frP I I' := by
  intro f
  induction f with
  | zero =>
    intro j p v I hj hp hv hst
    refine ⟨I, nI j, ?_, hst, fun _ _ _ _ => rfl⟩
    rw [jb_192_11, decide_eq_true (show (4 : Int32) ≤ nI j by show nI 4 ≤ nI j; rw [nI_leI (by omega) (by omega)]; omega), cond_true]
    rfl
  | succ f ih =>
    intro j p v I hj hp hv hst
    rw [jb_192_11, decide_eq_false (show ¬ (4 : Int32) ≤ nI j by show ¬ nI 4 ≤ nI j; rw [nI_leI (by omega) (by omega)]; omega), cond_false, q_190 hst.1 hst.2.1 (by omega)]
    simp only [Option.bind_some, jps]
    rw [jb_192_20]
    unfold rdN
    by_cases h : dgt (sg k ta p)
    · have hlt := dgt_lt h
      obtain ⟨a, a1, a2, a3, a4⟩ := dgN h
      have hv4 : v < 10000 := Nat.lt_of_lt_of_le hv (Nat.pow_le_pow_right (by decide) (show j ≤ 4 by omega))
      have e1 : 10 * nI v + nI a - 48 = nI (10 * v + a - 48) := by
        rw [jI_lit, jI_lit, pk_mul, nI_add, nI_sub (by omega) (by omega)]
      have e2 : I 68 p = nI a := by
        rw [hst.1.2.2 p hlt, ← a3]
        unfold sg
        rw [if_pos hlt]
      have hv2 : 10 * v + a - 48 < 10 ^ (j + 1) := by
        rw [Nat.pow_succ]
        omega
      obtain ⟨I2, x2, r1, r2, r3⟩ := ih (j + 1) (p + 1) (10 * v + a - 48) _ (by omega) hlt hv2 (sm_next hst)
      rw [if_pos h, jt_2, cond_false, if_pos h, hst.2.1, jdI (by omega), cond_true, jcl' (by omega), e2, e1, a4, nI_1]
      rw [hst.2.1] at r1 r3
      exact ⟨I2, x2, r1, r2, fun q j a1 a2 => (r3 q j a1 a2).trans (ju20 (by decide) a1)⟩
    · rw [if_neg h, jt_4, cond_true, if_neg h]
      exact ⟨I, nI j, rfl, hst, fun _ _ _ _ => rfl⟩
theorem q_192f {b : Bool} {x1 : Int32} : jat d 192 214 [.ref 58, .int x1, .int (if b = true then 1 else 0)] [] (jmk I L c e) = some (some (.int (if b = true then 1 else 0)), jmk (ju I 58 21 (I 58 21 - 1)) L c e) := by
  rw [jb_192_214, jb_192_225, b01, cond_true]
/-- what is open is closed again -/
theorem sm_close {x : aRd} (hr : r < 6) (h : rsM k ta r o x I) : rsM k ta (r + 1) o x (ju I 58 21 (I 58 21 - 1)) := by
  unfold rsM at h ⊢
  by_cases hb : x.1 = true
  · rw [if_pos hb] at h ⊢
    refine sm_open h ?_
    rw [h.2.2.1]
    exact (nI_sub (j := 1) (by omega) (by omega)).trans (congrArg nI (by omega))
  · rw [if_neg hb] at h ⊢
    exact ⟨tM_ju (by decide) h.1, h.2⟩
theorem fr_close (h : frP I I') : frP I (ju I' 58 21 (I' 58 21 - 1)) := fun q j a1 a2 => (ju20 (by decide) a1).trans (h q j a1 a2)
theorem q_192 (hk : k ≤ 120) : ∀ r d : Nat, r ≤ 6 → 6 * r ≤ d → isM k ta L c e r (rdO k ta r) (fun M => jev d 192 [.ref 58] M) := by
  have num : ∀ (r d p : Nat) (o : List Nat) (I : Nat → Nat → Int32), p ≤ k → o.length ≤ p → stM k ta r p o I → dgt (sg k ta p) → ∃ I', jev d 192 [.ref 58] (jmk I L c e) = some (some (.int 1), jmk I' L c e) ∧ stM k ta r (rdN k ta 4 p 0).2 (o ++ [18 + (rdN k ta 4 p 0).1]) I' ∧ frP I I' := by
    intro r d p o I hp ho hst h
    obtain ⟨I1, x2, f1, f2, f3⟩ := q_192l (d := d) (L := L) (c := c) (e := e) hk 4 0 p 0 I (by omega) hp (by decide) hst
    obtain ⟨a1, a2, a3, a4⟩ := rdN_ok (k := k) (ta := ta) 4 p 0 hp
    obtain ⟨I2, w1, w2, w3⟩ := q_189 (d := d) (L := L) (c := c) (e := e) (t := 18 + (rdN k ta 4 p 0).1) (x := 18 + nI (rdN k ta 4 p 0).1) f2 (by omega) (by rw [jI_lit, nI_add])
    refine ⟨I2, ?_, w2, fun q j b1 b2 => (w3 q j b1 b2).trans (f3 q j b1 b2)⟩
    rw [jb_192_0, q_190 hst.1 hst.2.1 (by omega), if_pos h]
    simp only [Option.bind_some, jps]
    rw [jb_192_4, jt_2, cond_false, show jat d 192 11 [.ref 58, .int 0, .int 0] [] (jmk I L c e) = _ from f1, jb_192_57, w1]
    simp only [Option.bind_some, jps]
    rw [jb_192_65]
    rfl
  have hd : ∀ (r d p : Nat) (o : List Nat) (I : Nat → Nat → Int32), p ≤ k → stM k ta r p o I → ¬ dgt (sg k ta p) → jev d 192 [.ref 58] (jmk I L c e) = jat d 192 73 [.ref 58, .null, .null] [.int (match nmO (sg k ta p) with | some t => nI t | none => -1)] (jmk I L c e) := by
    intro r d p o I hp hst h
    rw [jb_192_0, q_190 hst.1 hst.2.1 (by omega), if_neg h]
    simp only [Option.bind_some, jps]
    rw [jb_192_4, jt_4, cond_true, q_187 hst.1 hst.2.1 (by omega)]
    simp only [Option.bind_some, jps]
    rw [jb_192_70, q_191]
    rfl
  have nam : ∀ (r d p t : Nat) (o : List Nat) (I : Nat → Nat → Int32), p ≤ k → o.length ≤ p → stM k ta r p o I → ¬ dgt (sg k ta p) → nmO (sg k ta p) = some t → ∃ I', jev d 192 [.ref 58] (jmk I L c e) = some (some (.int 1), jmk I' L c e) ∧ stM k ta r (p + 1) (o ++ [t]) I' ∧ frP I I' := by
    intro r d p t o I hp ho hst h hn
    obtain ⟨n1, n2⟩ := nmO_lt hn
    obtain ⟨I2, w1, w2, w3⟩ := q_189 (d := d) (L := L) (c := c) (e := e) (t := t) (x := nI t) (sm_next hst) (by omega) rfl
    refine ⟨I2, ?_, w2, fun q j b1 b2 => (w3 q j b1 b2).trans (ju20 (by decide) b1)⟩
    rw [hd r d p o I hp hst h, hn, jb_192_73, decide_eq_false (show ¬ nI t < 0 by rw [jlt_iff, nI_toInt (by omega)]; simp only [Int32.reduceToInt]; omega), cond_false, w1]
    simp only [Option.bind_some, jps]
    rw [jb_192_93]
    rfl
  intro r
  induction r with
  | zero =>
    intro d hr hdd p o I hp ho hst
    show ∃ I', jev d 192 [.ref 58] (jmk I L c e) = _ ∧ _
    unfold rdO
    by_cases hdg : dgt (sg k ta p)
    · rw [if_pos hdg]
      exact num 0 d p o I hp ho hst hdg
    · rw [if_neg hdg]
      cases hn : nmO (sg k ta p) with
      | some t => exact nam 0 d p t o I hp ho hst hdg hn
      | none =>
        refine ⟨I, ?_, sm_wk hst, fun _ _ _ _ => rfl⟩
        rw [hd 0 d p o I hp hst hdg, hn, jb_192_73, show decide ((-1 : Int32) < 0) = true from rfl, cond_true, hst.2.2.1]
        rfl
  | succ r ih =>
    intro d hr hdd p o I hp ho hst
    obtain ⟨d, rfl⟩ : ∃ d1, d = d1 + 6 := ⟨d - 6, by omega⟩
    show ∃ I', jev (d + 6) 192 [.ref 58] (jmk I L c e) = _ ∧ _
    unfold rdO
    by_cases hdg : dgt (sg k ta p)
    · rw [if_pos hdg]
      exact num (r + 1) (d + 6) p o I hp ho hst hdg
    · rw [if_neg hdg]
      cases hn : nmO (sg k ta p) with
      | some t => exact nam (r + 1) (d + 6) p t o I hp ho hst hdg hn
      | none =>
        have okO : ∀ p, p ≤ k → exOk k p (rdO k ta r p) := rdO_ok r
        have iu := ih (d + 5) (by omega) (by omega)
        have iE : isM k ta L c e r (rdE k ta (rdO k ta r)) (fun M => jev (d + 5) 197 [.ref 58] M) := q_197E hk okO (ih d (by omega) (by omega))
        have e21 : decide (¬ I 58 21 = 6) = true := by
          rw [hst.2.2.1]
          refine decide_eq_true ?_
          rw [jI_lit, nI_eq (by omega) (by decide)]
          omega
        have hop : stM k ta r p o (ju I 58 21 (I 58 21 + 1)) := by
          refine sm_open hst ?_
          rw [hst.2.2.1, nI_1]
          exact congrArg nI (by omega)
        have f0 : frP I (ju I 58 21 (I 58 21 + 1)) := fun q j a1 a2 => ju20 (by decide) a1
        rw [hd (r + 1) (d + 6) p o I hp hst hdg, hn, jb_192_73, show decide ((-1 : Int32) < 0) = true from rfl, cond_true, e21, cond_true, q_188 hop.1 hop.2.1 (by omega)]
        show ∃ I', _ = some (some (Value.int (if (if sg k ta p = 33 then un1 16 (rdO k ta r (p + 1)) else if sg k ta p = 45 then un1 17 (rdO k ta r (p + 1)) else if sg k ta p = 40 then cl1 k ta (rdE k ta (rdO k ta r) (p + 1)) else (false, p, [])).1 = true then 1 else 0)), jmk I' L c e) ∧ rsM k ta (r + 1) o (if sg k ta p = 33 then un1 16 (rdO k ta r (p + 1)) else if sg k ta p = 45 then un1 17 (rdO k ta r (p + 1)) else if sg k ta p = 40 then cl1 k ta (rdE k ta (rdO k ta r) (p + 1)) else (false, p, [])) I' ∧ _
        by_cases h1 : sg k ta p = 33
        · have hlt := sg_lt (k := k) (ta := ta) (p := p) (by rw [h1]; decide)
          obtain ⟨I1, f1, f2, f3⟩ := iu (p + 1) o _ hlt (by omega) (sm_next hop)
          dsimp only at f1
          obtain ⟨z1, z2, z3⟩ := okO (p + 1) hlt
          have ff : frP I I1 := fun q j a1 a2 => (f3 q j a1 a2).trans ((ju20 (by decide) a1).trans (f0 q j a1 a2))
          rw [if_pos h1, if_pos h1]
          simp only [Option.bind_some, jps]
          rw [jb_192_121, jt_2, cond_false, show jcl (d + 6) 192 192 = jev (d + 5) 192 from rfl, f1]
          simp only [Option.bind_some, jps]
          rw [jb_192_128]
          unfold un1
          by_cases hb : (rdO k ta r (p + 1)).1 = true
          · obtain ⟨g1, g2, g3, g4, g5⟩ := z3 hb
            unfold rsM at f2
            rw [if_pos hb] at f2
            obtain ⟨I2, w1, w2, w3⟩ := q_189 (d := d + 6) (L := L) (c := c) (e := e) (t := 16) (x := 16) f2 (by simp; omega) rfl
            rw [if_pos hb, if_pos hb, jt_2, cond_false, w1]
            simp only [Option.bind_some, jps]
            rw [jb_192_137, jt_2, cond_false, jb_192_145]
            refine ⟨_, q_192f (b := true), sm_close (by omega) (x := (true, _, _)) ?_, fr_close (fun q j a1 a2 => (w3 q j a1 a2).trans (ff q j a1 a2))⟩
            show stM k ta r _ (o ++ ((rdO k ta r (p + 1)).2.2 ++ [16])) I2
            rw [← List.append_assoc]
            exact w2
          · unfold rsM at f2
            rw [if_neg hb] at f2
            rw [if_neg hb, if_neg hb, jt_4, cond_true, jb_192_144, jb_192_145]
            exact ⟨_, q_192f (b := false), sm_close (by omega) (x := (false, _, _)) f2, fr_close ff⟩
        · rw [if_neg h1, if_neg h1]
          simp only [Option.bind_some, jps]
          rw [jb_192_121, jt_4, cond_true, q_188 hop.1 hop.2.1 (by omega)]
          by_cases h2 : sg k ta p = 45
          · have hlt := sg_lt (k := k) (ta := ta) (p := p) (by rw [h2]; decide)
            obtain ⟨I1, f1, f2, f3⟩ := iu (p + 1) o _ hlt (by omega) (sm_next hop)
            dsimp only at f1
            obtain ⟨z1, z2, z3⟩ := okO (p + 1) hlt
            have ff : frP I I1 := fun q j a1 a2 => (f3 q j a1 a2).trans ((ju20 (by decide) a1).trans (f0 q j a1 a2))
            rw [if_pos h2, if_pos h2]
            simp only [Option.bind_some, jps]
            rw [jb_192_155, jt_2, cond_false, show jcl (d + 6) 192 192 = jev (d + 5) 192 from rfl, f1]
            simp only [Option.bind_some, jps]
            rw [jb_192_162]
            unfold un1
            by_cases hb : (rdO k ta r (p + 1)).1 = true
            · obtain ⟨g1, g2, g3, g4, g5⟩ := z3 hb
              unfold rsM at f2
              rw [if_pos hb] at f2
              obtain ⟨I2, w1, w2, w3⟩ := q_189 (d := d + 6) (L := L) (c := c) (e := e) (t := 17) (x := 17) f2 (by simp; omega) rfl
              rw [if_pos hb, if_pos hb, jt_2, cond_false, w1]
              simp only [Option.bind_some, jps]
              rw [jb_192_171, jt_2, cond_false, jb_192_179]
              refine ⟨_, q_192f (b := true), sm_close (by omega) (x := (true, _, _)) ?_, fr_close (fun q j a1 a2 => (w3 q j a1 a2).trans (ff q j a1 a2))⟩
              show stM k ta r _ (o ++ ((rdO k ta r (p + 1)).2.2 ++ [17])) I2
              rw [← List.append_assoc]
              exact w2
            · unfold rsM at f2
              rw [if_neg hb] at f2
              rw [if_neg hb, if_neg hb, jt_4, cond_true, jb_192_178, jb_192_179]
              exact ⟨_, q_192f (b := false), sm_close (by omega) (x := (false, _, _)) f2, fr_close ff⟩
          · rw [if_neg h2, if_neg h2]
            simp only [Option.bind_some, jps]
            rw [jb_192_155, jt_4, cond_true, q_188 hop.1 hop.2.1 (by omega)]
            by_cases h3 : sg k ta p = 40
            · have hlt := sg_lt (k := k) (ta := ta) (p := p) (by rw [h3]; decide)
              obtain ⟨I1, f1, f2, f3⟩ := iE (p + 1) o _ hlt (by omega) (sm_next hop)
              dsimp only at f1
              obtain ⟨z1, z2, z3⟩ := rdE_ok (ta := ta) okO (p := p + 1) hlt
              have ff : frP I I1 := fun q j a1 a2 => (f3 q j a1 a2).trans ((ju20 (by decide) a1).trans (f0 q j a1 a2))
              rw [if_pos h3, if_pos h3]
              simp only [Option.bind_some, jps]
              rw [jb_192_189, jt_2, cond_false, show jcl (d + 6) 192 197 = jev (d + 5) 197 from rfl, f1]
              simp only [Option.bind_some, jps]
              rw [jb_192_196]
              unfold cl1
              by_cases hb : (rdE k ta (rdO k ta r) (p + 1)).1 = true
              · unfold rsM at f2
                rw [if_pos hb] at f2
                rw [if_pos hb, if_pos hb, jt_2, cond_false, q_188 f2.1 f2.2.1 (by omega)]
                by_cases h41 : sg k ta (rdE k ta (rdO k ta r) (p + 1)).2.1 = 41
                · rw [if_pos h41, if_pos h41]
                  simp only [Option.bind_some, jps]
                  rw [jb_192_205, jt_2, cond_false, jb_192_213]
                  exact ⟨_, q_192f (b := true), sm_close (by omega) (x := (true, _, _)) (sm_next f2), fr_close (fun q j a1 a2 => (ju20 (by decide) a1).trans (ff q j a1 a2))⟩
                · rw [if_neg h41, if_neg h41]
                  simp only [Option.bind_some, jps]
                  rw [jb_192_205, jt_4, cond_true, jb_192_212, jb_192_213]
                  exact ⟨_, q_192f (b := false), sm_close (by omega) (x := (false, _, _)) (sm_wk f2), fr_close ff⟩
              · unfold rsM at f2
                rw [if_neg hb] at f2
                rw [if_neg hb, if_neg hb, jt_4, cond_true, jb_192_212, jb_192_213]
                exact ⟨_, q_192f (b := false), sm_close (by omega) (x := (false, _, _)) f2, fr_close ff⟩
            · rw [if_neg h3, if_neg h3]
              simp only [Option.bind_some, jps]
              rw [jb_192_189, jt_4, cond_true, jb_192_212, jb_192_213]
              exact ⟨_, q_192f (b := false), sm_close (by omega) (x := (false, _, _)) (sm_wk hop), fr_close f0⟩
end RDP
