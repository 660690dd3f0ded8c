/-! opens of the reference; two -/
def twF (a b : Nat → Nat) : Nat → Nat × Nat
  | 0 => (0, 0)
  | k + 1 => if (twF a b k).2 < (twF a b k).1 then ((twF a b k).1, (twF a b k).2 + b k) else ((twF a b k).1 + a k, (twF a b k).2)
noncomputable def opTwo (n : Nat) (v : Nat → aMv) (m : Nat) (pe : Nat → aPe) (lw : List aLn) (sh : Nat → aSh) (ro : Nat → Nat → Int64) (x y : Int32) : Int32 := if jin x 6 ∧ jin (y / 10) m ∧ jin (y - y / 10 * 10) m ∧ ¬ y / 10 = y - y / 10 * 10 then (if barI (sh x.toNatClampNeg) = 0 then nI (smF (t0F (tmS n v pe lw ro x.toNatClampNeg (y / 10).toNatClampNeg)) (kS (ro x.toNatClampNeg) (sh x.toNatClampNeg).2 0) - max (twF (t0F (tmS n v pe lw ro x.toNatClampNeg (y / 10).toNatClampNeg)) (t0F (tmS n v pe lw ro x.toNatClampNeg (y - y / 10 * 10).toNatClampNeg)) (kS (ro x.toNatClampNeg) (sh x.toNatClampNeg).2 0)).1 (twF (t0F (tmS n v pe lw ro x.toNatClampNeg (y / 10).toNatClampNeg)) (t0F (tmS n v pe lw ro x.toNatClampNeg (y - y / 10 * 10).toNatClampNeg)) (kS (ro x.toNatClampNeg) (sh x.toNatClampNeg).2 0)).2) else barI (sh x.toNatClampNeg)) else -1
section TWO
variable {d : Nat} {I I' : Nat → Nat → Int32} {L : Nat → Nat → Int64} {c e : Nat} {x y z : Int32} {lw : List aLn} {n m w s k b i o K X Y : Nat} {v : Nat → aMv} {pe : Nat → aPe} {D : Nat → Int32} {sh : Nat → aSh} {ro : Nat → Nat → Int64} {tm tm2 : Nat → Nat}
theorem fJ_0 {a : Nat} (h : a < 1000000 → a ≤ 5247) : (if 0 < fJ a then fJ a else 0) = nI (if a < 1000000 then a else 0) := by
  unfold fJ
  by_cases q : a < 1000000
  · have := h q
    rw [if_pos q, if_pos q]
    by_cases r : 0 < a
    · rw [if_pos (show (0 : Int32) < nI a by show nI 0 < nI a; rw [jlt_iff, nI_toInt (by omega), nI_toInt (by omega)]; omega)]
    · have : a = 0 := by omega
      rw [this]
      rfl
  · rw [if_neg q, if_neg q]
    rfl
theorem m_opens (hlo : lwOk lw) (hl : lwM lw I) (hk : kitM n v I) (hp : peM m pe D I) (hpo : peOk m pe D) (hs : shM sh ro I L) (ho : shOk b sh) : ∃ I', jev d 229 [.ref 58, .int x, .int y, .int z] (jmk I L c e) = some (some (.int (opOpens n v m pe lw sh ro x y z)), jmk I' L c e) ∧ frQ I I' := by
  have hm := hpo.1
  unfold opOpens
  simp only [jb_229_0, q_169, Option.bind_some, jps, jb_229_4, q_165 hm hp.1, jb_229_12, q_163, jb_229_24, Bool.cond_decide, j01, show (-2 : Int32).toInt = -2 by decide, show (9999 : Int32).toInt = 9999 from rfl]
  by_cases hx : jin x 6
  · rw [if_neg (fun q => q hx)]
    by_cases hy : jin y m
    · rw [if_neg (fun q => q hy)]
      by_cases hz : -2 ≤ z.toInt ∧ z.toInt ≤ 9999
      · have hz2 : ¬¬ (-2 ≤ z.toInt ∧ z.toInt ≤ 9999) := fun q => q hz
        have hall : (jin x 6 ∧ jin y m) ∧ -2 ≤ z.toInt ∧ z.toInt ≤ 9999 := ⟨⟨hx, hy⟩, hz⟩
        rw [if_pos hz2, if_pos hall]
        obtain ⟨i, hi, rfl⟩ := (jin_iff (by decide)).mp hx
        obtain ⟨o, hom, rfl⟩ := (jin_iff (by omega)).mp hy
        rw [q_223 hs ho hi, jcl' (show i < 2 ^ 31 by omega), jcl' (show o < 2 ^ 31 by omega)]
        simp only [Option.bind_some, jps]
        rw [jb_229_34, bar_0.2]
        by_cases h0 : barI (sh i) = 0
        · rw [decide_eq_true h0, cond_true, if_pos h0]
          obtain ⟨I1, g1, g2, g3, g4⟩ := q_rd (d := d) (L := L) (c := c) (e := e) hlo hl hk hp hpo hs ho hi (bar_0.1.mp h0) hom
          refine ⟨I1, ?_, g4⟩
          rw [g1]
          simp only [Option.bind_some, jps]
          rw [jb_229_50]
          obtain ⟨t1, t2, t3, t4⟩ := g2
          generalize tmS n v pe lw ro i o = tm at t3 t4 ⊢
          generalize kS (ro i) (sh i).2 0 = K at t1 t2 t3 t4 ⊢
          have ht0 := t0_le t4 t2
          have hcl := ct_le (b := lfB tm) 
          have key : ∀ f j (C : Int32), j + f = K → (0 ≤ z.toInt → C = nI (ctF (opnB tm z.toInt.toNat) j)) → jat d 229 62 [.ref 58, .int (nI i), .int (nI o), .int z, .int (barI (sh i)), .int (nI (smF (t0F tm) j)), .int C, .int (nI (ctF (lfB tm) j)), .int (nI j)] [] (jmk I1 L c e) = some (some (.int (opnI tm K z)), jmk I1 L c e) := by
            intro f
            induction f with
            | zero =>
              intro j C hj hC
              have hj : j = K := hj
              subst hj
              rw [jb_229_62, t1, decide_eq_true (by rw [nI_leI (by omega) (by omega)]; omega), cond_true]
              simp only [Bool.cond_decide]
              unfold opnI
              by_cases z1 : z = -1
              · have z2 : ¬ z = -2 := by rw [z1]; decide
                rw [if_neg (fun q => q z1), if_neg z2, if_pos z1]
              · rw [if_pos z1]
                by_cases z2 : z = -2
                · rw [if_neg (fun q => q z2), if_pos z2]
                · have n1 : ¬ z.toInt = -2 := fun q => z2 (Int32.toInt_inj.mp (q.trans (by decide)))
                  have n2 : ¬ z.toInt = -1 := fun q => z1 (Int32.toInt_inj.mp (q.trans (by decide)))
                  rw [if_pos z2, if_neg z2, if_neg z1, hC (by omega)]
            | succ f ih =>
              intro j C hj hC
              have hjK : j < K := by omega
              have h4j := t4 j hjK
              have hle := ht0 (j + 1) (by omega)
              have hle : smF (t0F tm) j + t0F tm j ≤ 5247 * (j + 1) := hle
              have hs1 : smF (t0F tm) (j + 1) = smF (t0F tm) j + t0F tm j := rfl
              have hc1 : ctF (lfB tm) (j + 1) = ctF (lfB tm) j + if lfB tm j = true then 1 else 0 := rfl
              have hc2 : ctF (opnB tm z.toInt.toNat) (j + 1) = ctF (opnB tm z.toInt.toNat) j + if opnB tm z.toInt.toNat j = true then 1 else 0 := rfl
              have hb : lfB tm j = true ↔ ¬ tm j < 1000000 := by
                unfold lfB
                rw [Bool.not_eq_true', decide_eq_false_iff_not]
              have hb2 : opnB tm z.toInt.toNat j = true ↔ tm j < 1000000 ∧ smF (t0F tm) j + t0F tm j ≤ z.toInt.toNat := by
                unfold opnB
                rw [Bool.and_eq_true, decide_eq_true_eq, decide_eq_true_eq]
                exact Iff.rfl
              rw [jb_229_62, t1, decide_eq_false (by rw [nI_leI (by omega) (by omega)]; omega), cond_false, jdI (show j < 60 by omega), cond_true, cond_true, jcl' (by omega), t3 j hjK, nI_1, nI_1]
              simp only [Bool.cond_decide, fJ_no]
              by_cases q : tm j < 1000000
              · have qq : ¬¬ tm j < 1000000 := fun k => k q
                have et : t0F tm j = tm j := if_pos q
                have hlt : z < nI (smF (t0F tm) j) + fJ (tm j) ↔ ¬ smF (t0F tm) j + t0F tm j ≤ z.toInt := by
                  rw [fJ_yes q, nI_add, jlt_iff, nI_toInt (by omega), et]
                  omega
                rw [if_pos qq]
                simp only [hlt]
                rw [fJ_yes q, nI_add]
                rw [show nI (smF (t0F tm) j + tm j) = nI (smF (t0F tm) (j + 1)) by rw [hs1, et], show nI (ctF (lfB tm) j) = nI (ctF (lfB tm) (j + 1)) by rw [hc1, if_neg (fun k => hb.mp k q), Nat.add_zero]]
                by_cases r : (smF (t0F tm) j + t0F tm j : Int) ≤ z.toInt
                · rw [if_neg (fun k => k r)]
                  refine ih (j + 1) _ (by omega) (fun hz0 => ?_)
                  rw [hC hz0, hc2, if_pos (hb2.mpr ⟨q, by omega⟩), nI_1]
                · rw [if_pos r]
                  refine ih (j + 1) _ (by omega) (fun hz0 => ?_)
                  rw [hC hz0, hc2, if_neg (fun k => r (by have := (hb2.mp k).2; omega)), Nat.add_zero]
              · have et : t0F tm j = 0 := if_neg q
                rw [if_neg (fun k => k q)]
                rw [show nI (smF (t0F tm) j) = nI (smF (t0F tm) (j + 1)) by rw [hs1, et, Nat.add_zero], show nI (ctF (lfB tm) j + 1) = nI (ctF (lfB tm) (j + 1)) by rw [hc1, if_pos (hb.mpr q)]]
                refine ih (j + 1) _ (by omega) (fun hz0 => ?_)
                rw [hC hz0, hc2, if_neg (fun k => q (hb2.mp k).1), Nat.add_zero]
          exact key K 0 0 (by omega) (fun _ => rfl)
        · rw [decide_eq_false h0, cond_false, if_neg h0]
          exact ⟨I, rfl, fun _ _ _ _ _ => rfl⟩
      · rw [if_neg (fun q => q hz), if_neg (fun q => hz q.2)]
        exact ⟨I, rfl, fun _ _ _ _ _ => rfl⟩
    · rw [if_pos hy, if_neg (fun q => hy q.1.2)]
      exact ⟨I, rfl, fun _ _ _ _ _ => rfl⟩
  · rw [if_pos hx, if_neg (fun q => hx q.1.1)]
    exact ⟨I, rfl, fun _ _ _ _ _ => rfl⟩
theorem tw_s {a b : Nat → Nat} : twF a b (k + 1) = if (twF a b k).2 < (twF a b k).1 then ((twF a b k).1, (twF a b k).2 + b k) else ((twF a b k).1 + a k, (twF a b k).2) := rfl
theorem tw_le {a b : Nat → Nat} {N : Nat} (h : ∀ j, j < N → a j ≤ 5247 ∧ b j ≤ 5247) : ∀ k, k ≤ N → (twF a b k).1 ≤ 5247 * k ∧ (twF a b k).2 ≤ 5247 * k := by
  intro k
  induction k with
  | zero => intro _; exact ⟨Nat.le_refl _, Nat.le_refl _⟩
  | succ k ih =>
    intro hk
    have h1 := ih (by omega)
    have h2 := h k (by omega)
    rw [tw_s]
    split
    · dsimp only
      omega
    · dsimp only
      omega
theorem t0_5 (h : ∀ j, j < K → tm j < 1000000 → tm j ≤ 5247) : ∀ j, j < K → t0F tm j ≤ 5247 := by
  intro j hj
  unfold t0F
  split
  · exact h j hj (by assumption)
  · exact Nat.zero_le _
theorem mx_I {a b : Nat} (ha : a < 2 ^ 30) (hb : b < 2 ^ 30) : (if nI a < nI b then nI b else nI a) = nI (max a b) := by
  have h : nI a < nI b ↔ a < b := by
    rw [jlt_iff, nI_toInt (by omega), nI_toInt (by omega)]
    omega
  simp only [h]
  by_cases q : a < b
  · rw [if_pos q, Nat.max_eq_right (by omega)]
  · rw [if_neg q, Nat.max_eq_left (by omega)]
theorem ps_I {a b : Nat} (ha : a < 2 ^ 30) (hb : b < 2 ^ 30) : (if 0 < nI a - nI b then nI a - nI b else 0) = nI (a - b) := by
  by_cases q : b ≤ a
  · rw [nI_sub q (by omega)]
    by_cases r : 0 < a - b
    · rw [if_pos (show (0 : Int32) < nI (a - b) by show nI 0 < nI (a - b); rw [jlt_iff, nI_toInt (by omega), nI_toInt (by omega)]; omega)]
    · rw [show a - b = 0 by omega]
      rfl
  · have : ¬ (0 : Int32) < nI a - nI b := by
      rw [jlt_iff, Int32.toInt_sub, nI_toInt (by omega), nI_toInt (by omega), Int.bmod_eq_of_le (by omega) (by omega)]
      show ¬ (0 : Int) < _
      omega
    rw [if_neg this, show a - b = 0 by omega]
    rfl
theorem q_9 (hs : seatC K tm I) (h6 : ∀ j, j < K → I 56 j = tC (tm2 j)) (h46 : ∀ j, j < K → tm2 j < 1000000 → tm2 j ≤ 5247) : jev d 9 [.ref 54] (jmk I L c e) = some (some (.int (nI (max (twF (t0F tm) (t0F tm2) K).1 (twF (t0F tm) (t0F tm2) K).2))), jmk I L c e) := by
  obtain ⟨h1, h2, h3, h4⟩ := hs
  have hle := tw_le (a := t0F tm) (b := t0F tm2) (N := K) (fun j hj => ⟨t0_5 h4 j hj, t0_5 h46 j hj⟩)
  have key : jat d 9 6 [.ref 54, .int (nI (twF (t0F tm) (t0F tm2) 0).1), .int (nI (twF (t0F tm) (t0F tm2) 0).2), .int (nI 0)] [] (jmk I L c e) = jat d 9 6 [.ref 54, .int (nI (twF (t0F tm) (t0F tm2) K).1), .int (nI (twF (t0F tm) (t0F tm2) K).2), .int (nI K)] [] (jmk I L c e) := jloop (N := K) (fun k => jat d 9 6 [.ref 54, .int (nI (twF (t0F tm) (t0F tm2) k).1), .int (nI (twF (t0F tm) (t0F tm2) k).2), .int (nI k)] [] (jmk I L c e)) (fun k hk => by
    show jat d 9 6 [.ref 54, .int (nI (twF (t0F tm) (t0F tm2) k).1), .int (nI (twF (t0F tm) (t0F tm2) k).2), .int (nI k)] [] (jmk I L c e) = jat d 9 6 [.ref 54, .int (nI (twF (t0F tm) (t0F tm2) (k + 1)).1), .int (nI (twF (t0F tm) (t0F tm2) (k + 1)).2), .int (nI (k + 1))] [] (jmk I L c e)
    have hle1 := hle k (by omega)
    have hlt : nI (twF (t0F tm) (t0F tm2) k).2 < nI (twF (t0F tm) (t0F tm2) k).1 ↔ (twF (t0F tm) (t0F tm2) k).2 < (twF (t0F tm) (t0F tm2) k).1 := by
      rw [jlt_iff, nI_toInt (by omega), nI_toInt (by omega)]
      omega
    have e1 : nI (twF (t0F tm) (t0F tm2) k).1 + nI (if tm k < 1000000 then tm k else 0) = nI ((twF (t0F tm) (t0F tm2) k).1 + t0F tm k) := nI_add ..
    have e2 : nI (twF (t0F tm) (t0F tm2) k).2 + nI (if tm2 k < 1000000 then tm2 k else 0) = nI ((twF (t0F tm) (t0F tm2) k).2 + t0F tm2 k) := nI_add ..
    rw [jb_9_6, h1, decide_eq_false (by rw [nI_leI (by omega) (by omega)]; omega), cond_false, jdI (show k < 60 by omega), cond_true, cond_true, jcl' (by omega), h3 k hk, h6 k hk, nI_1, tC_0 (h4 k hk), tC_0 (h46 k hk), e1, e2, tw_s]
    simp only [Bool.cond_decide, hlt]
    by_cases q : (twF (t0F tm) (t0F tm2) k).2 < (twF (t0F tm) (t0F tm2) k).1
    · rw [if_pos q, if_pos q]
    · rw [if_neg q, if_neg q])
  have hleK := hle K (Nat.le_refl _)
  rw [jb_9_0, show jat d 9 6 [.ref 54, .int 0, .int 0, .int 0] [] (jmk I L c e) = _ from key, jb_9_6, h1, decide_eq_true (by rw [nI_leI (by omega) (by omega)]; exact Nat.le_refl _), cond_true, mx_I (by omega) (by omega)]
theorem q_3 (h1 : I 54 4 = nI K) (h2 : K ≤ 60) : jev d 3 [.ref 54] (jmk I L c e) = some (none, jmk (jcp I 55 56 0 0 K) L c e) := by
  have h0 : (0 : Int32).toInt = 0 := rfl
  have hc : (0 : Int32).toNatClampNeg = 0 := rfl
  rw [jb_3_0, h1, decide_eq_true (by rw [h0, nI_toInt (by omega)]; omega), cond_true, hc, jcl' (by omega)]
theorem c_two (hce : ceOk c e) (hlo : lwOk lw) (hl : lwC lw c I) (hk : kitC n v I) (hp : peC m pe D I) (hpo : peOk m pe D) (hs : shC sh ro I L) (ho : shOk b sh) : ∃ I', jev d 118 [.ref 0, .int x, .int y] (jmk I L c e) = some (some (.int (opTwo n v m pe lw sh ro x y)), jmk I' L c e) ∧ frA I I' := by
  have hm := hpo.1
  have hcc := ce_lt hce
  unfold opTwo
  rw [jb_118_0, q_63j hm hp.1]
  simp only [Option.bind_some, jps, Bool.cond_decide, jb_118_26, j01, q_155 hm hp.1 hs ho, jb_118_39]
  have hm1 : ¬ (-1 : Int32) = 0 := by decide
  by_cases hq : y / 10 = y - y / 10 * 10
  · rw [if_pos hq, if_neg hm1, if_neg (fun q => q.2.2.2 hq)]
    exact ⟨I, rfl, fun _ _ _ _ _ _ _ => rfl⟩
  · rw [if_neg hq]
    by_cases hy : jin (y - y / 10 * 10) m
    · have hyy : ¬¬ jin (y - y / 10 * 10) m := fun q => q hy
      rw [if_pos hyy]
      by_cases h : jin x 6 ∧ jin (y / 10) m
      · have hall : jin x 6 ∧ jin (y / 10) m ∧ jin (y - y / 10 * 10) m ∧ ¬ y / 10 = y - y / 10 * 10 := ⟨h.1, h.2, hy, hq⟩
        rw [if_pos h, if_pos hall]
        obtain ⟨i, hi, rfl⟩ := (jin_iff (by decide)).mp h.1
        obtain ⟨o, hom, h10⟩ := (jin_iff (by omega)).mp h.2
        obtain ⟨p, hpm, h11⟩ := (jin_iff (by omega)).mp hy
        rw [h11, h10, jcl' (show i < 2 ^ 31 by omega), jcl' (show o < 2 ^ 31 by omega), jcl' (show p < 2 ^ 31 by omega)]
        by_cases h0 : barI (sh i) = 0
        · have h2 := bar_0.1.mp h0
          rw [if_pos h0, if_pos h0]
          obtain ⟨I1, I2, g1, g2, g3, g4, g5⟩ := q_wl (d := d) (L := L) hce hlo hl hk hp hpo hs ho hi h2 hpm
          have fr2 : frA I (jcp I2 55 56 0 0 (kS (ro i) (sh i).2 0)) := fun q j a1 a2 a3 a4 a5 => by
            rw [jcp_get, if_neg (by omega)]
            exact g4 q j a1 a2 a3 a4 a5
          have hl2 : lwC lw c (jcp I2 55 56 0 0 (kS (ro i) (sh i).2 0)) := lwC_fr hl (fun q j a => by
            rcases a with ⟨rfl, rfl⟩ | rfl
            · exact fr2 1 5 (by decide) (by decide) (by decide) (by decide) (by decide)
            · exact fr2 q j (by omega) (by omega) (by omega) (by omega) (by omega))
          have hk2 : kitC n v (jcp I2 55 56 0 0 (kS (ro i) (sh i).2 0)) := kitC_fr hk (fun q j a1 a2 => fr2 q j (by omega) (by omega) (by omega) (by omega) (by omega))
          have hp2 : peC m pe D (jcp I2 55 56 0 0 (kS (ro i) (sh i).2 0)) := peC_fr hp (fun q j a1 a2 => fr2 q j (by omega) (by omega) (by omega) (by omega) (by omega))
          have hs2 : shC sh ro (jcp I2 55 56 0 0 (kS (ro i) (sh i).2 0)) L := fun a ha => by
            rw [fr2 28 a (by omega) (by omega) (by omega) (by omega) (by omega), fr2 27 a (by omega) (by omega) (by omega) (by omega) (by omega)]
            exact hs a ha
          obtain ⟨I3, I4, w1, w2, w3, w4, w5⟩ := q_wl (d := d) (L := L) hce hlo hl2 hk2 hp2 hpo hs2 ho hi h2 hom
          refine ⟨I4, ?_, fun q j a1 a2 a3 a4 a5 => (w4 q j a1 a2 a3 a4 a5).trans (fr2 q j a1 a2 a3 a4 a5)⟩
          have h56 : ∀ j, j < kS (ro i) (sh i).2 0 → I4 56 j = tC (tmS n v pe lw ro i p j) := fun j hj => by
            rw [w5 j, jcp_get, if_pos ⟨rfl, Nat.zero_le _, by omega⟩, Nat.sub_zero, Nat.zero_add]
            exact g3.2.2.1 j hj
          have hle := tw_le (a := t0F (tmS n v pe lw ro i o)) (b := t0F (tmS n v pe lw ro i p)) (N := kS (ro i) (sh i).2 0) (fun j hj => ⟨t0_5 w3.2.2.2 j hj, t0_5 g3.2.2.2 j hj⟩) _ (Nat.le_refl _)
          have ht0 := t0_le w3.2.2.2 w3.2.1 _ (Nat.le_refl _)
          have hK := w3.2.1
          rw [g1]
          simp only [Option.bind_some, jps]
          rw [jb_118_58, g2]
          simp only [Option.bind_some, jps]
          rw [jb_118_66, q_3 g3.1 g3.2.1]
          simp only [Option.bind_some, jps]
          rw [jb_118_73, w1]
          simp only [Option.bind_some, jps]
          rw [jb_118_81, w2]
          simp only [Option.bind_some, jps]
          rw [jb_118_89, q_5 w3]
          simp only [Option.bind_some, jps]
          rw [jb_118_97, q_9 w3 h56 g3.2.2.2]
          simp only [Option.bind_some, jps]
          rw [jb_118_104, ps_I (by omega) (by omega)]
        · rw [if_neg h0, if_neg h0]
          exact ⟨I, rfl, fun _ _ _ _ _ _ _ => rfl⟩
      · rw [if_neg h, if_neg hm1, if_neg (fun q => h ⟨q.1, q.2.1⟩)]
        exact ⟨I, rfl, fun _ _ _ _ _ _ _ => rfl⟩
    · rw [if_neg (fun q => q hy), if_neg hm1, if_neg (fun q => hy q.2.2.1)]
      exact ⟨I, rfl, fun _ _ _ _ _ _ _ => rfl⟩
theorem neg_10 (h : y.toInt < 0) (h1 : jin (y / 10) m) : ¬ jin (y - y / 10 * 10) m := by
  have h2 := Int32.toInt_div y 10
  have hlt := Int32.le_toInt y
  obtain ⟨k, hk⟩ : ∃ k : Nat, y.toInt = -(k : Int) := ⟨y.toInt.natAbs, by omega⟩
  have h3 : y.toInt.tdiv 10 = -((k / 10 : Nat) : Int) := by
    rw [hk, Int.neg_tdiv]
    rfl
  rw [show (10 : Int32).toInt = 10 from rfl, h3, Int.bmod_eq_of_le (by omega) (by omega)] at h2
  have h4 : 0 ≤ (y / 10).toInt := h1.1
  have h5 : y / 10 = 0 := Int32.toInt_inj.mp (show (y / 10).toInt = 0 by omega)
  rw [h5, Int32.zero_mul, Int32.sub_zero]
  intro q
  have := q.1
  omega
theorem m_two (hlo : lwOk lw) (hl : lwM lw I) (hk : kitM n v I) (hp : peM m pe D I) (hpo : peOk m pe D) (hs : shM sh ro I L) (ho : shOk b sh) : ∃ I', jev d 232 [.ref 58, .int x, .int y] (jmk I L c e) = some (some (.int (opTwo n v m pe lw sh ro x y)), jmk I' L c e) ∧ frQ I I' := by
  have hm := hpo.1
  unfold opTwo
  simp only [jb_232_0, q_169, Option.bind_some, jps, jb_232_4, q_165 hm hp.1, jb_232_19, jb_232_30, Bool.cond_decide, j01, show (y < 0) ↔ ¬ 0 ≤ y.toInt from z_lt0]
  by_cases hx : jin x 6
  · rw [if_neg (fun q => q hx)]
    by_cases hy0 : 0 ≤ y.toInt
    · rw [if_neg (fun q => q hy0)]
      by_cases hy1 : jin (y / 10) m
      · rw [if_neg (fun q => q hy1)]
        by_cases hy2 : jin (y - y / 10 * 10) m
        · rw [if_neg (fun q => q hy2)]
          by_cases hq : y / 10 = y - y / 10 * 10
          · rw [if_neg (fun q => q hq), if_neg (fun q => q.2.2.2 hq)]
            exact ⟨I, rfl, fun _ _ _ _ _ => rfl⟩
          · have hall : jin x 6 ∧ jin (y / 10) m ∧ jin (y - y / 10 * 10) m ∧ ¬ y / 10 = y - y / 10 * 10 := ⟨hx, hy1, hy2, hq⟩
            rw [if_pos hq, if_pos hall]
            obtain ⟨i, hi, rfl⟩ := (jin_iff (by decide)).mp hx
            obtain ⟨o, hom, h10⟩ := (jin_iff (by omega)).mp hy1
            obtain ⟨p, hpm, h11⟩ := (jin_iff (by omega)).mp hy2
            rw [q_223 hs ho hi, jcl' (show i < 2 ^ 31 by omega)]
            simp only [Option.bind_some, jps]
            rw [jb_232_51, bar_0.2]
            by_cases h0 : barI (sh i) = 0
            · rw [decide_eq_true h0, cond_true, if_pos h0]
              obtain ⟨I1, g1, g2, g3, g4⟩ := q_rd (d := d) (L := L) (c := c) (e := e) hlo hl hk hp hpo hs ho hi (bar_0.1.mp h0) hom
              have hm' : ∀ i, i < n → mvOk (v i) := fun i hi => (hk.2.2 i hi).1
              have hg := gS_ok (lw := lw) (pe := pe) (one := some p) (kn := knO pe (some p)) hm'
              have hb2 : ∀ j, j < kS (ro i) (sh i).2 0 → tmS n v pe lw ro i p j < 1000000 → tmS n v pe lw ro i p j ≤ 5247 := fun j hj hlt => ((dst_le (cS_ok hg) (g3 j hj).2).2.1 hlt).1
              have hle := tw_le (a := t0F (tmS n v pe lw ro i o)) (b := t0F (tmS n v pe lw ro i p)) (N := kS (ro i) (sh i).2 0) (fun j hj => ⟨t0_5 g2.2.2.2 j hj, t0_5 hb2 j hj⟩)
              have ht0 := t0_le g2.2.2.2 g2.2.1
              have key : ∀ f j (I : Nat → Nat → Int32) (v8 : Value), j + f = kS (ro i) (sh i).2 0 → frM I1 I → ∃ I', jat d 232 79 [.ref 58, .int (nI i), .int y, .int (barI (sh i)), .int (nI (smF (t0F (tmS n v pe lw ro i o)) j)), .int (nI (twF (t0F (tmS n v pe lw ro i o)) (t0F (tmS n v pe lw ro i p)) j).1), .int (nI (twF (t0F (tmS n v pe lw ro i o)) (t0F (tmS n v pe lw ro i p)) j).2), .int (nI j), v8] [] (jmk I L c e) = some (some (.int (nI (smF (t0F (tmS n v pe lw ro i o)) (kS (ro i) (sh i).2 0) - max (twF (t0F (tmS n v pe lw ro i o)) (t0F (tmS n v pe lw ro i p)) (kS (ro i) (sh i).2 0)).1 (twF (t0F (tmS n v pe lw ro i o)) (t0F (tmS n v pe lw ro i p)) (kS (ro i) (sh i).2 0)).2))), jmk I' L c e) ∧ frM I1 I' := by
                intro f
                induction f with
                | zero =>
                  intro j I v8 hj hfr
                  have hj : j = kS (ro i) (sh i).2 0 := hj
                  have h1 := hle j (by omega)
                  have h2 := ht0 j (by omega)
                  have hK := g2.2.1
                  refine ⟨I, ?_, hfr⟩
                  rw [jb_232_79, hfr 58 49 (by decide) (by decide), g2.1, decide_eq_true (by rw [nI_leI (by omega) (by omega)]; omega), cond_true, mx_I (by omega) (by omega), ps_I (by omega) (by omega), ← hj]
                | succ f ih =>
                  intro j I v8 hj hfr
                  have hK := g2.2.1
                  have hjK : j < kS (ro i) (sh i).2 0 := by omega
                  have h1 := hle j (by omega)
                  have h4j := g2.2.2.2 j hjK
                  obtain ⟨e1, e2⟩ := g3 j hjK
                  have a91 : I 91 j = nI (eS (ro i) j) := (hfr 91 j (by decide) (by decide)).trans e1
                  have a92 : I 92 j = fJ (tmS n v pe lw ro i o j) := (hfr 92 j (by decide) (by decide)).trans (g2.2.2.1 j hjK)
                  have hlt : nI (twF (t0F (tmS n v pe lw ro i o)) (t0F (tmS n v pe lw ro i p)) j).2 < nI (twF (t0F (tmS n v pe lw ro i o)) (t0F (tmS n v pe lw ro i p)) j).1 ↔ (twF (t0F (tmS n v pe lw ro i o)) (t0F (tmS n v pe lw ro i p)) j).2 < (twF (t0F (tmS n v pe lw ro i o)) (t0F (tmS n v pe lw ro i p)) j).1 := by
                    rw [jlt_iff, nI_toInt (by omega), nI_toInt (by omega)]
                    omega
                  have es : nI (smF (t0F (tmS n v pe lw ro i o)) j) + nI (if tmS n v pe lw ro i o j < 1000000 then tmS n v pe lw ro i o j else 0) = nI (smF (t0F (tmS n v pe lw ro i o)) (j + 1)) := nI_add ..
                  have ea : nI (twF (t0F (tmS n v pe lw ro i o)) (t0F (tmS n v pe lw ro i p)) j).1 + nI (if tmS n v pe lw ro i o j < 1000000 then tmS n v pe lw ro i o j else 0) = nI ((twF (t0F (tmS n v pe lw ro i o)) (t0F (tmS n v pe lw ro i p)) j).1 + t0F (tmS n v pe lw ro i o) j) := nI_add ..
                  rw [jb_232_79, hfr 58 49 (by decide) (by decide), g2.1, decide_eq_false (by rw [nI_leI (by omega) (by omega)]; omega), cond_false, jdI (show j < 60 by omega), cond_true, cond_true, jcl' (show j < 2 ^ 31 by omega), a91, a92, fJ_0 h4j, es, ea, nI_1, h11]
                  simp only [Bool.cond_decide, hlt]
                  by_cases q : (twF (t0F (tmS n v pe lw ro i o)) (t0F (tmS n v pe lw ro i p)) j).2 < (twF (t0F (tmS n v pe lw ro i o)) (t0F (tmS n v pe lw ro i p)) j).1
                  · rw [if_pos q]
                    obtain ⟨I2, f1, f2⟩ := q_228 (d := d) (L := L) (c := c) (e := e) (one := some p) hlo (lwM_M (lwM_R hl g4) hfr) (kitM_M (kitM_R hk g4) hfr) (peM_M (peM_R hp g4) hfr) hpo hpm e2
                    have f1 : jev d 228 [.ref 58, .int (nI p), .int (nI (eS (ro i) j))] (jmk I L c e) = some (some (.int (fJ (tmS n v pe lw ro i p j))), jmk I2 L c e) := f1
                    have eb : nI (twF (t0F (tmS n v pe lw ro i o)) (t0F (tmS n v pe lw ro i p)) j).2 + nI (if tmS n v pe lw ro i p j < 1000000 then tmS n v pe lw ro i p j else 0) = nI ((twF (t0F (tmS n v pe lw ro i o)) (t0F (tmS n v pe lw ro i p)) j).2 + t0F (tmS n v pe lw ro i p) j) := nI_add ..
                    have := ih (j + 1) I2 (.int (nI (if tmS n v pe lw ro i o j < 1000000 then tmS n v pe lw ro i o j else 0))) (by omega) (frM_t hfr f2)
                    rw [tw_s, if_pos q] at this
                    rw [f1]
                    simp only [Option.bind_some, jps]
                    rw [jb_232_143, fJ_0 (hb2 j hjK), eb, nI_1]
                    exact this
                  · rw [if_neg q]
                    have := ih (j + 1) I (.int (nI (if tmS n v pe lw ro i o j < 1000000 then tmS n v pe lw ro i o j else 0))) (by omega) hfr
                    rw [tw_s, if_neg q] at this
                    exact this
              obtain ⟨I2, r1, r2⟩ := key (kS (ro i) (sh i).2 0) 0 I1 .null (by omega) (fun _ _ _ _ => rfl)
              refine ⟨I2, ?_, fun q j a1 a2 a3 => (r2 q j a1 (by omega)).trans (g4 q j a1 a2 a3)⟩
              rw [h11, h10, jcl' (show o < 2 ^ 31 by omega), jcl' (show p < 2 ^ 31 by omega), g1]
              simp only [Option.bind_some, jps]
              rw [jb_232_67]
              exact r1
            · rw [decide_eq_false h0, cond_false, if_neg h0]
              exact ⟨I, rfl, fun _ _ _ _ _ => rfl⟩
        · rw [if_pos hy2, if_neg (fun q => hy2 q.2.2.1)]
          exact ⟨I, rfl, fun _ _ _ _ _ => rfl⟩
      · rw [if_pos hy1, if_neg (fun q => hy1 q.2.1)]
        exact ⟨I, rfl, fun _ _ _ _ _ => rfl⟩
    · rw [if_pos hy0, if_neg (fun q => neg_10 (by omega) q.2.1 q.2.2.1)]
      exact ⟨I, rfl, fun _ _ _ _ _ => rfl⟩
  · rw [if_pos hx, if_neg (fun q => hx q.1)]
    exact ⟨I, rfl, fun _ _ _ _ _ => rfl⟩
end TWO
