/-! bestFirst, the reference -/
section BSM
variable {d : Nat} {I I' : Nat → Nat → Int32} {L : Nat → Nat → Int64} {c e : Nat} {x y z : Int32} {lw : List aLn} {n m w s k b i o K X Y : Nat} {v : Nat → aMv} {pe : Nat → aPe} {D : Nat → Int32} {sh : Nat → aSh} {ro : Nat → Nat → Int64} {R : Nat → Nat} {y1 y2 y4 : Int32}
theorem q_230i (hs : seatM K R I) {x5 x6 : Int32} : jat d 230 70 [.ref 58, .int y1, .int y2, .int (nI Y), .int y4, .int x5, .int x6, .int 1, .int (oI (mnX R 0)), .int (nI 0)] [] (jmk I L c e) = jat d 230 70 [.ref 58, .int y1, .int y2, .int (nI Y), .int y4, .int x5, .int x6, .int 1, .int (oI (mnX R K)), .int (nI K)] [] (jmk I L c e) := by
  obtain ⟨s1, s2, s3, s4⟩ := hs
  refine jloop (N := K) (fun k => jat d 230 70 [.ref 58, .int y1, .int y2, .int (nI Y), .int y4, .int x5, .int x6, .int 1, .int (oI (mnX R k)), .int (nI k)] [] (jmk I L c e)) (fun k hk => ?_)
  show jat d 230 70 [.ref 58, .int y1, .int y2, .int (nI Y), .int y4, .int x5, .int x6, .int 1, .int (oI (mnX R k)), .int (nI k)] [] (jmk I L c e) = jat d 230 70 [.ref 58, .int y1, .int y2, .int (nI Y), .int y4, .int x5, .int x6, .int 1, .int (oI (mnX R (k + 1))), .int (nI (k + 1))] [] (jmk I L c e)
  have hmx := (mx_ok (R := R) k).1
  rw [jb_230_70, s1, decide_eq_false (by rw [nI_leI (by omega) (by omega)]; omega), cond_false, jdI (show k < 60 by omega), cond_true, cond_true, jcl' (by omega), s3 k hk, nI_1, mx_s]
  simp only [Bool.cond_decide, fJ_no]
  cases hb : mnX R k with
  | none =>
    have e1 : mnN R k none = if R k < 1000000 then some k else none := rfl
    rw [e1]
    by_cases q : R k < 1000000
    · rw [if_neg (fun j => j q), if_pos (show oI none = -2 from rfl), if_pos q]
      rfl
    · rw [if_pos q, if_neg q]
  | some u =>
    obtain ⟨u1, u2, u3⟩ := hmx u hb
    have e1 : mnN R k (some u) = if R k < 1000000 ∧ R k < R u then some k else some u := rfl
    have hu2 : ¬ oI (some u) = -2 := by
      have : ∀ a, a < 60 → ¬ nI a = -2 := by decide
      exact this u (by omega)
    have b2 := s4 u (by omega) u2
    rw [e1, if_neg hu2]
    by_cases q : R k < 1000000
    · have b1 := s4 k hk q
      have h2 : fJ (R u) ≤ fJ (R k) ↔ R u ≤ R k := by
        rw [fJ_yes q, fJ_yes u2]
        exact nI_leI (by omega) (by omega)
      rw [if_neg (fun j => j q), show oI (some u) = nI u from rfl, if_pos (jin_nI (show u < 60 by omega) (by decide)), jcl' (show u < 2 ^ 31 by omega), s3 u (by omega)]
      simp only [h2]
      by_cases r : R u ≤ R k
      · rw [if_pos r, if_neg (fun j => by omega)]
        rfl
      · rw [if_neg r, if_pos ⟨q, by omega⟩]
        rfl
    · rw [if_pos q, if_neg (fun j => q j.1)]
theorem seatM_up {a : Nat} (hs : seatM K R I) (ha : a < K) : seatM K (upF R a 1000000) (ju I 92 a (-2)) := by
  obtain ⟨s1, s2, s3, s4⟩ := hs
  refine ⟨by rw [ju_get, if_neg (by omega)]; exact s1, s2, fun j hj => ?_, fun j hj => ?_⟩
  · rw [ju_get]
    unfold upF
    by_cases q : j = a
    · rw [if_pos ⟨rfl, q⟩, if_pos q]
      rfl
    · rw [if_neg (fun w => q w.2), if_neg q]
      exact s3 j hj
  · unfold upF
    by_cases q : j = a
    · rw [if_pos q]
      exact fun h => absurd h (Nat.lt_irrefl _)
    · rw [if_neg q]
      exact s4 j hj
theorem q_230o (hY : Y ≤ 9999) : ∀ (f S C : Nat) (R : Nat → Nat) (I : Nat → Nat → Int32) (v8 v9 : Value), ctF (rcB R) K < f → seatM K R I → S ≤ 9999 → ∃ I', jat d 230 58 [.ref 58, .int y1, .int y2, .int (nI Y), .int y4, .int (nI S), .int (nI C), .int 1, v8, v9] [] (jmk I L c e) = some (some (.int (nI (C + gdF K Y f R S))), jmk I' L c e) ∧ ∀ q j, q ≠ 92 → I' q j = I q j := by
  intro f
  induction f with
  | zero => intro S C R I v8 v9 h; exact absurd h (Nat.not_lt_zero _)
  | succ f ih =>
    intro S C R I v8 v9 hct hs hS
    obtain ⟨s1, s2, s3, s4⟩ := id hs
    have r1 := q_230i (d := d) (L := L) (c := c) (e := e) (y1 := y1) (y2 := y2) (y4 := y4) (Y := Y) (x5 := nI S) (x6 := nI C) hs
    rw [jb_230_58, jt_2, cond_false, show jat d 230 70 [.ref 58, .int y1, .int y2, .int (nI Y), .int y4, .int (nI S), .int (nI C), .int 1, .int (-2), .int 0] [] (jmk I L c e) = _ from r1, jb_230_70, s1, decide_eq_true (by rw [nI_leI (by omega) (by omega)]; exact Nat.le_refl _), cond_true]
    have eg : gdF K Y (f + 1) R S = match mnX R K with
      | none => 0
      | some m => if S + R m ≤ Y then gdF K Y f (upF R m 1000000) (S + R m) + 1 else 0 := rfl
    rw [eg]
    have hend : ∀ (x8 x9 : Int32), jat d 230 150 [.ref 58, .int y1, .int y2, .int (nI Y), .int y4, .int (nI S), .int (nI C), .int 1, .int x8, .int x9] [] (jmk I L c e) = some (some (.int (nI C)), jmk I L c e) := by
      intro x8 x9
      rw [jb_230_150, jb_230_151, jt_3, cond_false, jb_230_58]
      rfl
    cases hb : mnX R K with
    | none =>
      refine ⟨I, ?_, fun _ _ _ => rfl⟩
      rw [show decide (oI none = -2) = true from rfl, cond_true, hend]
      rfl
    | some u =>
      obtain ⟨u1, u2, u3⟩ := (mx_ok K).1 u hb
      have b2 := s4 u u1 u2
      have hu2 : ¬ oI (some u) = -2 := by
        have : ∀ a, a < 60 → ¬ nI a = -2 := by decide
        exact this u (by omega)
      have hju : jin (nI u) 60 := jin_nI (show u < 60 by omega) (by decide)
      have hlt : nI Y < nI (S + R u) ↔ ¬ S + R u ≤ Y := by
        rw [jlt_iff, nI_toInt (by omega), nI_toInt (by omega)]
        omega
      rw [decide_eq_false hu2, cond_false, show oI (some u) = nI u from rfl, hend, jb_230_151, jt_1, cond_true, decide_eq_true hju, cond_true, cond_true, cond_true, jcl' (show u < 2 ^ 31 by omega), s3 u u1, fJ_yes u2, nI_add, nI_1]
      simp only [Bool.cond_decide, hlt]
      by_cases q : S + R u ≤ Y
      · rw [if_neg (fun j => j q), if_pos q]
        have hc2 : ctF (rcB (upF R u 1000000)) K < ctF (rcB R) K := by
          refine (ct_mono K (fun i hi h => ?_)).2 ⟨u, u1, decide_eq_true u2, ?_⟩
          · unfold rcB upF at h
            by_cases e : i = u
            · rw [if_pos e] at h
              exact absurd (of_decide_eq_true h) (Nat.lt_irrefl _)
            · rw [if_neg e] at h
              exact h
          · unfold rcB upF
            rw [if_pos rfl]
            exact fun h => absurd (of_decide_eq_true h) (Nat.lt_irrefl _)
        obtain ⟨I2, w1, w2⟩ := ih (S + R u) (C + 1) (upF R u 1000000) (ju I 92 u (-2)) (.int (nI u)) (.int (nI K)) (by omega) (seatM_up hs u1) (by omega)
        refine ⟨I2, ?_, fun q j a1 => (w2 q j a1).trans (by rw [ju_get, if_neg (fun w => a1 w.1)])⟩
        rw [w1, show C + 1 + gdF K Y f (upF R u 1000000) (S + R u) = C + (gdF K Y f (upF R u 1000000) (S + R u) + 1) by omega]
      · rw [if_pos q, if_neg q]
        exact ⟨I, rfl, fun _ _ _ => rfl⟩
theorem m_best (hlo : lwOk lw) (hl : lwM lw I) (hk : kitM n v I) (hp : peM m pe D I) (hpo : peOk m pe D) (hs : shM sh ro I L) (ho : shOk b sh) : ∃ I', jev d 230 [.ref 58, .int x, .int y, .int z] (jmk I L c e) = some (some (.int (opBest n v m pe lw sh ro x y z)), jmk I' L c e) ∧ frQ I I' := by
  have hm := hpo.1
  unfold opBest
  simp only [jb_230_0, q_169, Option.bind_some, jps, jb_230_4, q_165 hm hp.1, jb_230_12, q_163, jb_230_23, Bool.cond_decide, j01, show (0 : Int32).toInt = 0 from rfl, show (9999 : Int32).toInt = 9999 from rfl]
  by_cases hx : jin x 6
  · rw [if_neg (fun q => q hx)]
    by_cases hy : jin y m
    · rw [if_neg (fun q => q hy)]
      by_cases hz : 0 ≤ z.toInt ∧ z.toInt ≤ 9999
      · have hz2 : ¬¬ (0 ≤ z.toInt ∧ z.toInt ≤ 9999) := fun q => q hz
        have hall : (jin x 6 ∧ jin y m) ∧ 0 ≤ z.toInt ∧ z.toInt ≤ 9999 := ⟨⟨hx, hy⟩, hz⟩
        rw [if_pos hz2, if_pos hall]
        obtain ⟨i, hi, rfl⟩ := (jin_iff (by decide)).mp hx
        obtain ⟨o, hom, rfl⟩ := (jin_iff (by omega)).mp hy
        rw [q_223 hs ho hi, jcl' (show i < 2 ^ 31 by omega), jcl' (show o < 2 ^ 31 by omega)]
        simp only [Option.bind_some, jps]
        rw [jb_230_33, bar_0.2]
        by_cases h0 : barI (sh i) = 0
        · rw [decide_eq_true h0, cond_true, if_pos h0]
          obtain ⟨I1, g1, g2, g3, g4⟩ := q_rd (d := d) (L := L) (c := c) (e := e) hlo hl hk hp hpo hs ho hi (bar_0.1.mp h0) hom
          have hz' : z = nI z.toInt.toNat := by
            apply Int32.toInt_inj.mp
            rw [nI_toInt (by omega)]
            omega
          have hct := ct_le (b := rcB (tmS n v pe lw ro i o)) (kS (ro i) (sh i).2 0)
          obtain ⟨I2, r1, r2⟩ := q_230o (d := d) (L := L) (c := c) (e := e) (y1 := nI i) (y2 := nI o) (y4 := barI (sh i)) (Y := z.toInt.toNat) (by omega) (kS (ro i) (sh i).2 0 + 1) 0 0 (tmS n v pe lw ro i o) I1 .null .null (by omega) g2 (by omega)
          refine ⟨I2, ?_, fun q j a1 a2 a3 => (r2 q j (by omega)).trans (g4 q j a1 a2 a3)⟩
          rw [g1]
          simp only [Option.bind_some, jps]
          rw [← hz', Nat.zero_add] at r1
          rw [jb_230_49]
          exact r1
        · rw [decide_eq_false h0, cond_false, if_neg h0]
          exact ⟨I, rfl, fun _ _ _ _ _ => rfl⟩
      · rw [if_neg (fun q => q hz), if_neg (fun q => hz q.2)]
        exact ⟨I, rfl, fun _ _ _ _ _ => rfl⟩
    · rw [if_pos hy, if_neg (fun q => hy q.1.2)]
      exact ⟨I, rfl, fun _ _ _ _ _ => rfl⟩
  · rw [if_pos hx, if_neg (fun q => hx q.1.1)]
    exact ⟨I, rfl, fun _ _ _ _ _ => rfl⟩
end BSM
