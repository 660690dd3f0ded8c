/-! mend, of, undo, redo -/
theorem kitC_fr {n : Nat} {v : Nat → aMv} {I I' : Nat → Nat → Int32} (h : kitC n v I) (f : ∀ q j, 7 ≤ q → q ≤ 13 → I' q j = I q j) : kitC n v I' := by
  refine ⟨⟨h.1.1, by rw [f 7 6 (by omega) (by omega)]; exact h.1.2.1, fun i hi => ?_⟩, fun i hi s hs => by rw [f 13 _ (by omega) (by omega)]; exact h.2 i hi s hs⟩
  rw [f 8 i (by omega) (by omega), f 9 i (by omega) (by omega), f 10 i (by omega) (by omega), f 11 i (by omega) (by omega), f 12 i (by omega) (by omega)]
  exact h.1.2.2 i hi
theorem kitM_fr {n : Nat} {v : Nat → aMv} {I I' : Nat → Nat → Int32} (h : kitM n v I) (f0 : I' 58 0 = I 58 0) (f : ∀ q j, 59 ≤ q → q ≤ 63 → I' q j = I q j) : kitM n v I' := by
  refine ⟨h.1, by rw [f0]; exact h.2.1, fun i hi => ?_⟩
  rw [f 59 i (by omega) (by omega), f 60 i (by omega) (by omega), f 61 i (by omega) (by omega), f 62 i (by omega) (by omega), f 63 i (by omega) (by omega)]
  exact h.2.2 i hi
theorem peC_fr {m : Nat} {pe : Nat → aPe} {D : Nat → Int32} {I I' : Nat → Nat → Int32} (h : peC m pe D I) (f : ∀ q j, 14 ≤ q → q ≤ 18 → I' q j = I q j) : peC m pe D I' := by
  refine ⟨by rw [f 14 4 (by omega) (by omega)]; exact h.1, fun i hi => ?_, fun i hi => by rw [f 16 _ (by omega) (by omega)]; exact h.2.2.1 i hi, fun i hi => by rw [f 18 _ (by omega) (by omega)]; exact h.2.2.2 i hi⟩
  rw [f 15 i (by omega) (by omega), f 17 i (by omega) (by omega)]
  exact h.2.1 i hi
theorem peM_fr {m : Nat} {pe : Nat → aPe} {D : Nat → Int32} {I I' : Nat → Nat → Int32} (h : peM m pe D I) (f0 : I' 58 6 = I 58 6) (f : ∀ q j, 64 ≤ q → q ≤ 67 → I' q j = I q j) : peM m pe D I' := by
  refine ⟨by rw [f0]; exact h.1, fun i hi => ?_, fun i hi => by rw [f 65 _ (by omega) (by omega)]; exact h.2.2.1 i hi, fun i hi => by rw [f 67 _ (by omega) (by omega)]; exact h.2.2.2 i hi⟩
  rw [f 64 i (by omega) (by omega), f 66 i (by omega) (by omega)]
  exact h.2.1 i hi
theorem chC_fr {k a : Nat} {ch : Nat → aCh} {I I' : Nat → Nat → Int32} (h : chC k a ch I) (f : ∀ q j, 32 ≤ q → q ≤ 36 → I' q j = I q j) : chC k a ch I' := by
  refine ⟨by rw [f 32 4 (by omega) (by omega)]; exact h.1, by rw [f 32 5 (by omega) (by omega)]; exact h.2.1, fun i hi => ?_⟩
  rw [f 33 i (by omega) (by omega), f 34 i (by omega) (by omega), f 35 i (by omega) (by omega), f 36 i (by omega) (by omega)]
  exact h.2.2 i hi
theorem chM_fr {k a : Nat} {ch : Nat → aCh} {I I' : Nat → Nat → Int32} (h : chM k a ch I) (f0 : I' 58 36 = I 58 36) (f1 : I' 58 37 = I 58 37) (f : ∀ j, I' 82 j = I 82 j) : chM k a ch I' := by
  refine ⟨by rw [f1]; exact h.1, by rw [f0]; exact h.2.1, fun i hi => ?_⟩
  rw [f, f, f, f]
  exact h.2.2 i hi
abbrev aRes : Type := Int32 × (Nat → aMv) × (Nat → aPe) × Nat × Nat × (Nat → aCh)
def opMend (n m : Nat) (v : Nat → aMv) (pe : Nat → aPe) (k a : Nat) (ch : Nat → aCh) (x y z : Int32) : aRes :=
  if cmI n m x y ∧ fitZ v x.toNatClampNeg y.toNatClampNeg z then
    if nu v pe x.toNatClampNeg y.toNatClampNeg = z.toInt.toNat then (z, v, pe, k, a, ch)
    else (nI (nu v pe x.toNatClampNeg y.toNatClampNeg), mset v x.toNatClampNeg y.toNatClampNeg z.toInt.toNat, pset pe x.toNatClampNeg y.toNatClampNeg z.toInt.toNat, chN k, chN k, chAdd k ch (x.toNatClampNeg, y.toNatClampNeg, nu v pe x.toNatClampNeg y.toNatClampNeg, z.toInt.toNat))
  else (-1, v, pe, k, a, ch)
section MND
variable {d : Nat} {I : Nat → Nat → Int32} {L : Nat → Nat → Int64} {c e : Nat} {x y z : Int32} {n m k a : Nat} {v : Nat → aMv} {pe : Nat → aPe} {D : Nat → Int32} {ch : Nat → aCh}
theorem ju_out {i j q t : Nat} {b : Int32} (hj : j < 6) (hq : q < 61 ∨ 66 < q) : ju I (61 + j) i b q t = I q t := by
  rw [ju_get, if_neg (by omega)]
theorem nu_fit (hn : ∀ i, i < n → mvOk (v i)) (hp : peOk m pe D) {i j : Nat} (hN : isN n m i j) : fitN v i j (nu v pe i j) ∧ nu v pe i j < 2 ^ 31 := by
  have hj : j = 0 ∨ j = 1 ∨ j = 2 ∨ j = 3 ∨ j = 4 ∨ j = 5 := by omega
  unfold fitN
  rcases hj with rfl | rfl | rfl | rfl | rfl | rfl
  · have := hn i (by omega)
    unfold mvOk at this
    simp only [nu, if_true]
    omega
  · have := hn i (by omega)
    unfold mvOk at this
    simp only [nu, if_true, if_neg (show ¬ (1 = 0) by omega)]
    omega
  · have := hn i (by omega)
    unfold mvOk at this
    simp only [nu, if_true, if_neg (show ¬ (2 = 0) by omega), if_neg (show ¬ (2 = 1) by omega)]
    omega
  · have := hp.2.1 i (by omega)
    show _ ∧ (pe i).1 < _
    have e : nu v pe i 3 = (pe i).1 := rfl
    rw [e]
    omega
  · have := hp.2.1 i (by omega)
    have e : nu v pe i 4 = (pe i).2.1 := rfl
    rw [e]
    omega
  · have := hp.2.1 i (by omega)
    have e : nu v pe i 5 = (pe i).2.2 := rfl
    rw [e]
    omega
theorem c_mend (hk : kitC n v I) (ho : peOk m pe D) (hp : peC m pe D I) (hh : chOk n m v k a ch) (hc : chC k a ch I) : ∃ I', jev d 99 [.ref 0, .int x, .int y, .int z] (jmk I L c e) = some (some (.int (opMend n m v pe k a ch x y z).1), jmk I' L c e) ∧ kitC n (opMend n m v pe k a ch x y z).2.1 I' ∧ peC m (opMend n m v pe k a ch x y z).2.2.1 D I' ∧ chC (opMend n m v pe k a ch x y z).2.2.2.1 (opMend n m v pe k a ch x y z).2.2.2.2.1 (opMend n m v pe k a ch x y z).2.2.2.2.2 I' ∧ ∀ q j, ¬ (q = 32 ∧ (j = 4 ∨ j = 5)) → (q < 10 ∨ q = 14 ∨ 18 ≤ q ∧ q ≤ 32 ∨ 36 < q) → I' q j = I q j := by
  have hn := hk.1.1
  have hm := ho.1
  unfold opMend
  rw [jb_99_0, q_158 hn hm hk.1.2.1 hp.1]
  simp only [Option.bind_some, jps]
  rw [jb_99_6]
  simp only [Bool.cond_decide, j01]
  by_cases hcm : cmI n m x y
  · obtain ⟨i, j, rfl, rfl, hN⟩ := cm_of hn hm hcm
    rw [if_neg (fun q => q hcm), q_159 hk.1 hm hN]
    simp only [Option.bind_some, jps]
    rw [jb_99_16, jcl' (by omega), jcl' (by omega)]
    simp only [Bool.cond_decide, j01]
    by_cases hf : fitZ v i j z
    · have hff : ¬¬ fitZ v i j z := fun q => q hf
      have hand : cmI n m (nI i) (nI j) ∧ fitZ v i j z := ⟨hcm, hf⟩
      obtain ⟨t, rfl⟩ : ∃ t : Nat, z = nI t := ⟨_, jnat hf.1⟩
      obtain ⟨w, hw⟩ : ∃ w : Nat, w = (nI t).toInt.toNat := ⟨_, rfl⟩
      have hwz : nI t = nI w := by rw [hw]; exact jnat hf.1
      have hfw : fitN v i j w := by rw [hw]; exact hf.2
      have hw31 : w < 2 ^ 31 := by have := (nI t).toInt_lt; omega
      obtain ⟨-, nl⟩ := nu_fit (v := v) (pe := pe) (fun i hi => (hk.1.2.2 i hi).1) ho hN
      rw [if_pos hff, if_pos hand, q_160 hk.1 hm hp hN, ← hw, hwz]
      clear hff hand hf hcm
      simp only [Option.bind_some, jps]
      rw [jb_99_27]
      by_cases hq : nu v pe i j = w
      · rw [if_pos hq, hq, decide_eq_true rfl, cond_true]
        exact ⟨I, jb_99_54 .., hk, hp, hc, fun _ _ _ _ => rfl⟩
      · rw [if_neg hq, decide_eq_false (by rw [nI_eq nl hw31]; exact hq), cond_false]
        obtain ⟨I1, s1, s2, s3, s4⟩ := c_set (d := d) (L := L) (c := c) (e := e) hk hm hp hN hfw
        clear hfw
        rw [s1]
        simp only [Option.bind_some, jps]
        rw [jb_99_42]
        have hc1 : chC k a ch I1 := chC_fr hc (fun q j h1 h2 => by rw [s4 q (by omega)])
        obtain ⟨I2, r1, r2, r3⟩ := c_came (d := d) (L := L) (c := c) (e := e) hh hc1 (x := (i, j, nu v pe i j, w))
        rw [r1]
        refine ⟨I2, ?_, kitC_fr s2 (fun q j h1 h2 => r3 q j (by omega) (by omega)), peC_fr s3 (fun q j h1 h2 => r3 q j (by omega) (by omega)), r2, fun q j h1 h2 => ?_⟩
        · exact jb_99_54 ..
        · rw [r3 q j h1 (by omega), s4 q (by omega)]
    · rw [if_neg (fun q => q hf), if_neg (fun q => hf q.2)]
      exact ⟨I, rfl, hk, hp, hc, fun _ _ _ _ => rfl⟩
  · rw [if_pos hcm, if_neg (fun q => hcm q.1)]
    exact ⟨I, rfl, hk, hp, hc, fun _ _ _ _ => rfl⟩
theorem m_mend (hk : kitM n v I) (ho : peOk m pe D) (hp : peM m pe D I) (hh : chOk n m v k a ch) (hc : chM k a ch I) : ∃ I', jev d 182 [.ref 58, .int x, .int y, .int z] (jmk I L c e) = some (some (.int (opMend n m v pe k a ch x y z).1), jmk I' L c e) ∧ kitM n (opMend n m v pe k a ch x y z).2.1 I' ∧ peM m (opMend n m v pe k a ch x y z).2.2.1 D I' ∧ chM (opMend n m v pe k a ch x y z).2.2.2.1 (opMend n m v pe k a ch x y z).2.2.2.2.1 (opMend n m v pe k a ch x y z).2.2.2.2.2 I' ∧ ∀ q j, ¬ (q = 58 ∧ (j = 36 ∨ j = 37)) → (q < 61 ∨ 66 < q) → q ≠ 82 → I' q j = I q j := by
  have hn := hk.1
  have hm := ho.1
  unfold opMend
  rw [jb_182_0, q_178 hm hk hp.1]
  simp only [Option.bind_some, jps]
  rw [jb_182_6]
  simp only [Bool.cond_decide, j01]
  by_cases hcm : cmI n m x y
  · obtain ⟨i, j, rfl, rfl, hN⟩ := cm_of hn hm hcm
    have hj6 : j < 6 := by omega
    rw [if_neg (fun q => q hcm), q_179 hk hm hN]
    simp only [Option.bind_some, jps]
    rw [jb_182_16, jcl' (by omega), jcl' (by omega)]
    simp only [Bool.cond_decide, j01]
    by_cases hf : fitZ v i j z
    · have hff : ¬¬ fitZ v i j z := fun q => q hf
      have hand : cmI n m (nI i) (nI j) ∧ fitZ v i j z := ⟨hcm, hf⟩
      obtain ⟨t, rfl⟩ : ∃ t : Nat, z = nI t := ⟨_, jnat hf.1⟩
      obtain ⟨w, hw⟩ : ∃ w : Nat, w = (nI t).toInt.toNat := ⟨_, rfl⟩
      have hwz : nI t = nI w := by rw [hw]; exact jnat hf.1
      have hfw : fitN v i j w := by rw [hw]; exact hf.2
      have hw31 : w < 2 ^ 31 := by have := (nI t).toInt_lt; omega
      obtain ⟨-, nl⟩ := nu_fit (v := v) (pe := pe) (fun i hi => (hk.2.2 i hi).1) ho hN
      rw [if_pos hff, if_pos hand, q_180 hk hm hp hN, ← hw, hwz]
      clear hff hand hf hcm
      simp only [Option.bind_some, jps]
      rw [jb_182_27]
      by_cases hq : nu v pe i j = w
      · rw [if_pos hq, hq, decide_eq_false (fun q => q rfl), cond_false]
        exact ⟨I, rfl, hk, hp, hc, fun _ _ _ _ _ => rfl⟩
      · rw [if_neg hq, decide_eq_true (by rw [nI_eq nl hw31]; exact hq), cond_true]
        obtain ⟨s1, s2, s3⟩ := m_set (d := d) (L := L) (c := c) (e := e) hk hm hp hN hfw
        clear hfw
        rw [s1]
        simp only [Option.bind_some, jps]
        have s4 : ∀ q k, (q < 61 ∨ 66 < q) → ju I (61 + j) i (nI w) q k = I q k := by
          intro q k hq
          exact ju_out hj6 hq
        have hc1 : chM k a ch (ju I (61 + j) i (nI w)) := chM_fr hc (s4 _ _ (by omega)) (s4 _ _ (by omega)) (fun k => s4 _ _ (by omega))
        obtain ⟨I2, r1, r2, r3⟩ := m_came (d := d) (L := L) (c := c) (e := e) hh hc1 (x := (i, j, nu v pe i j, w))
        refine ⟨I2, r1, kitM_fr s2 (r3 _ _ (by omega) (by omega)) (fun q j h1 h2 => r3 q j (by omega) (by omega)), peM_fr s3 (r3 _ _ (by omega) (by omega)) (fun q j h1 h2 => r3 q j (by omega) (by omega)), r2, fun q j h1 h2 h3 => ?_⟩
        rw [r3 q j h1 h3, s4 q j h2]
    · rw [if_neg (fun q => q hf), if_neg (fun q => hf q.2)]
      exact ⟨I, rfl, hk, hp, hc, fun _ _ _ _ _ => rfl⟩
  · rw [if_pos hcm, if_neg (fun q => hcm q.1)]
    exact ⟨I, rfl, hk, hp, hc, fun _ _ _ _ _ => rfl⟩
end MND
