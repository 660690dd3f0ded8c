/-! undo, redo, of -/
def opUndo (v : Nat → aMv) (pe : Nat → aPe) (k : Nat) (ch : Nat → aCh) : Int32 × (Nat → aMv) × (Nat → aPe) × Nat :=
  if k = 0 then (-5, v, pe, k) else (nI (k - 1), mset v (ch (k - 1)).1 (ch (k - 1)).2.1 (ch (k - 1)).2.2.1, pset pe (ch (k - 1)).1 (ch (k - 1)).2.1 (ch (k - 1)).2.2.1, k - 1)
def opRedo (v : Nat → aMv) (pe : Nat → aPe) (k a : Nat) (ch : Nat → aCh) : Int32 × (Nat → aMv) × (Nat → aPe) × Nat :=
  if k = a then (-5, v, pe, k) else (nI (a - (k + 1)), mset v (ch k).1 (ch k).2.1 (ch k).2.2.2, pset pe (ch k).1 (ch k).2.1 (ch k).2.2.2, k + 1)
section UND
variable {d : Nat} {I : Nat → Nat → Int32} {L : Nat → Nat → Int64} {c e : Nat} {x y z : Int32} {n m k a : Nat} {v : Nat → aMv} {pe : Nat → aPe} {D : Nat → Int32} {ch : Nat → aCh}
theorem nI_sub {i j : Nat} (h : j ≤ i) (hi : i < 2 ^ 31) : nI i - nI j = nI (i - j) := by
  rw [← Int32.toInt_inj, Int32.toInt_sub, nI_toInt (by omega), nI_toInt (by omega), nI_toInt (by omega), Int.bmod_eq_of_le (by omega) (by omega)]
  omega
theorem c_undo (hk : kitC n v I) (ho : peOk m pe D) (hp : peC m pe D I) (hh : chOk n m v k a ch) (hc : chC k a ch I) : ∃ I', jev d 129 [.ref 0] (jmk I L c e) = some (some (.int (opUndo v pe k ch).1), jmk I' L c e) ∧ kitC n (opUndo v pe k ch).2.1 I' ∧ peC m (opUndo v pe k ch).2.2.1 D I' ∧ chC (opUndo v pe k ch).2.2.2 a ch I' ∧ ∀ q j, ¬ (q = 32 ∧ j = 4) → (q < 10 ∨ q = 14 ∨ 17 < q) → I' q j = I q j := by
  obtain ⟨a1, a2, a3⟩ := id hh
  obtain ⟨b1, b2, b3⟩ := id hc
  unfold opUndo
  rw [jb_129_0, jb_22_0, b1]
  by_cases h0 : k = 0
  · subst h0
    rw [if_pos rfl]
    exact ⟨I, jb_129_7 .., hk, hp, hc, fun _ _ _ _ => rfl⟩
  · obtain ⟨t, rfl⟩ : ∃ t, k = t + 1 := ⟨k - 1, by omega⟩
    rw [if_neg h0, show decide ((0 : Int32) < nI (t + 1)) = true from decide_eq_true (show nI 0 < nI (t + 1) from nI_lt (by omega) (by omega)), cond_true]
    simp only [Option.bind_some, jps, Nat.add_sub_cancel]
    rw [show nI (t + 1) - 1 = nI t from nI_sub (i := t + 1) (j := 1) (by omega) (by omega), jb_129_7, jt_1, cond_true]
    have e4 : ju I 32 4 (nI t) 32 4 = nI t := rfl
    obtain ⟨c1, c2, c3, c4⟩ := b3 t (by omega)
    have e33 : ju I 32 4 (nI t) 33 t = nI (ch t).1 := c1
    have e34 : ju I 32 4 (nI t) 34 t = nI (ch t).2.1 := c2
    have e35 : ju I 32 4 (nI t) 35 t = nI (ch t).2.2.1 := c3
    rw [e4, jdI (by omega), cond_true, cond_true, cond_true, jcl' (by omega), e33, e34, e35]
    have f0 : ∀ q j, ¬ (q = 32 ∧ j = 4) → ju I 32 4 (nI t) q j = I q j := fun q j h => by rw [ju_get, if_neg h]
    have hk1 : kitC n v (ju I 32 4 (nI t)) := kitC_fr hk (fun q j h1 h2 => f0 q j (fun h => by omega))
    have hp1 : peC m pe D (ju I 32 4 (nI t)) := peC_fr hp (fun q j h1 h2 => f0 q j (fun h => by omega))
    obtain ⟨g1, g2, g3⟩ := a3 t (by omega)
    obtain ⟨I1, s1, s2, s3, s4⟩ := c_set (d := d) (L := L) (c := c) (e := e) hk1 ho.1 hp1 g1 g2
    clear g1 g2 g3
    rw [s1]
    have s4' : ∀ q j, 17 < q → I1 q j = ju I 32 4 (nI t) q j := fun q j h => by rw [s4 q (Or.inr (Or.inl h))]
    refine ⟨I1, ?_, s2, s3, ⟨by rw [s4' 32 4 (by decide)]; rfl, by rw [s4' 32 5 (by decide)]; exact b2, fun i hi => ?_⟩, fun q j h1 h2 => ?_⟩
    · simp only [Option.bind_some, jps]
      rw [jb_129_52, s4' 32 4 (by decide)]
      rfl
    · rw [s4' 33 i (by decide), s4' 34 i (by decide), s4' 35 i (by decide), s4' 36 i (by decide)]
      exact b3 i hi
    · rw [s4 q (by omega)]
      exact f0 q j h1
theorem c_redo (hk : kitC n v I) (ho : peOk m pe D) (hp : peC m pe D I) (hh : chOk n m v k a ch) (hc : chC k a ch I) : ∃ I', jev d 130 [.ref 0] (jmk I L c e) = some (some (.int (opRedo v pe k a ch).1), jmk I' L c e) ∧ kitC n (opRedo v pe k a ch).2.1 I' ∧ peC m (opRedo v pe k a ch).2.2.1 D I' ∧ chC (opRedo v pe k a ch).2.2.2 a ch I' ∧ ∀ q j, ¬ (q = 32 ∧ j = 4) → (q < 10 ∨ q = 14 ∨ 17 < q) → I' q j = I q j := by
  obtain ⟨a1, a2, a3⟩ := id hh
  obtain ⟨b1, b2, b3⟩ := id hc
  unfold opRedo
  rw [jb_130_0, jb_23_0, b1, b2]
  by_cases h0 : k = a
  · subst h0
    rw [if_pos rfl, decide_eq_false (by rw [nI_ltI (by omega) (by omega)]; omega), cond_false]
    exact ⟨I, jb_130_7 .., hk, hp, hc, fun _ _ _ _ => rfl⟩
  · have hka : k < a := by omega
    rw [if_neg h0, decide_eq_true (nI_lt hka (by omega)), cond_true]
    simp only [Option.bind_some, jps]
    rw [nI_1, jb_130_7, jt_1, cond_true]
    have e4 : ju I 32 4 (nI (k + 1)) 32 4 = nI (k + 1) := rfl
    obtain ⟨c1, c2, c3, c4⟩ := b3 k (by omega)
    have e33 : ju I 32 4 (nI (k + 1)) 33 k = nI (ch k).1 := c1
    have e34 : ju I 32 4 (nI (k + 1)) 34 k = nI (ch k).2.1 := c2
    have e36 : ju I 32 4 (nI (k + 1)) 36 k = nI (ch k).2.2.2 := c4
    have e5 : nI (k + 1) - 1 = nI k := nI_sub (i := k + 1) (j := 1) (by omega) (by omega)
    rw [e4, e5, jdI (by omega), cond_true, cond_true, cond_true, jcl' (by omega), e33, e34, e36]
    have f0 : ∀ q j, ¬ (q = 32 ∧ j = 4) → ju I 32 4 (nI (k + 1)) q j = I q j := fun q j h => by rw [ju_get, if_neg h]
    have hk1 : kitC n v (ju I 32 4 (nI (k + 1))) := kitC_fr hk (fun q j h1 h2 => f0 q j (fun h => by omega))
    have hp1 : peC m pe D (ju I 32 4 (nI (k + 1))) := peC_fr hp (fun q j h1 h2 => f0 q j (fun h => by omega))
    obtain ⟨g1, g2, g3⟩ := a3 k (by omega)
    obtain ⟨I1, s1, s2, s3, s4⟩ := c_set (d := d) (L := L) (c := c) (e := e) hk1 ho.1 hp1 g1 g3
    clear g1 g2 g3
    rw [s1]
    have s4' : ∀ q j, 17 < q → I1 q j = ju I 32 4 (nI (k + 1)) q j := fun q j h => by rw [s4 q (Or.inr (Or.inl h))]
    have e6 : I1 32 5 = nI a := by rw [s4' 32 5 (by decide)]; exact b2
    have e7 : I1 32 4 = nI (k + 1) := by rw [s4' 32 4 (by decide)]; rfl
    refine ⟨I1, ?_, s2, s3, ⟨e7, e6, fun i hi => ?_⟩, fun q j h1 h2 => ?_⟩
    · simp only [Option.bind_some, jps]
      rw [jb_130_54, e6, e7, nI_sub (by omega) (by omega)]
    · rw [s4' 33 i (by decide), s4' 34 i (by decide), s4' 35 i (by decide), s4' 36 i (by decide)]
      exact b3 i hi
    · rw [s4 q (by omega)]
      exact f0 q j h1
theorem m_undo (hk : kitM n v I) (ho : peOk m pe D) (hp : peM m pe D I) (hh : chOk n m v k a ch) (hc : chM k a ch I) : ∃ I', jev d 184 [.ref 58] (jmk I L c e) = some (some (.int (opUndo v pe k ch).1), jmk I' L c e) ∧ kitM n (opUndo v pe k ch).2.1 I' ∧ peM m (opUndo v pe k ch).2.2.1 D I' ∧ chM (opUndo v pe k ch).2.2.2 a ch I' ∧ ∀ q j, ¬ (q = 58 ∧ j = 37) → (q < 61 ∨ 66 < q) → I' q j = I q j := by
  obtain ⟨a1, a2, a3⟩ := id hh
  obtain ⟨b1, b2, b3⟩ := id hc
  unfold opUndo
  rw [jb_184_0, b1]
  by_cases h0 : k = 0
  · subst h0
    rw [if_pos rfl]
    exact ⟨I, rfl, hk, hp, hc, fun _ _ _ _ => rfl⟩
  · obtain ⟨t, rfl⟩ : ∃ t, k = t + 1 := ⟨k - 1, by omega⟩
    have e5 : nI (t + 1) - 1 = nI t := nI_sub (i := t + 1) (j := 1) (by omega) (by omega)
    have e0 : 4 * nI t = nI (4 * t) := by rw [jI_lit, pk_mul]
    have e1 : nI (4 * t) + 1 = nI (4 * t + 1) := nI_1 _
    have e2 : nI (4 * t) + 2 = nI (4 * t + 2) := by rw [jI_lit, nI_add]
    obtain ⟨c1, c2, c3, c4⟩ := b3 t (by omega)
    rw [if_neg h0, decide_eq_true (by rw [jI_lit, nI_eq (by omega) (by decide)]; omega), cond_true, e5, e0, e1, e2, jdI (by omega), jdI (by omega), jdI (by omega), jcl' (by omega), jcl' (by omega), jcl' (by omega), c1, c2, c3]
    simp only [cond_true, Nat.add_sub_cancel]
    have hj6 : (ch t).2.1 < 6 := by
      have g := (a3 t (by omega)).1
      clear a3 hh
      omega
    have f0 : ∀ q j, ¬ (q = 58 ∧ j = 37) → ju I 58 37 (nI t) q j = I q j := fun q j h => by rw [ju_get, if_neg h]
    have hk1 : kitM n v (ju I 58 37 (nI t)) := kitM_fr hk rfl (fun q j h1 h2 => f0 q j (fun h => by omega))
    have hp1 : peM m pe D (ju I 58 37 (nI t)) := peM_fr hp rfl (fun q j h1 h2 => f0 q j (fun h => by omega))
    obtain ⟨g1, g2, g3⟩ := a3 t (by omega)
    obtain ⟨s1, s2, s3⟩ := m_set (d := d) (L := L) (c := c) (e := e) hk1 ho.1 hp1 g1 g2
    clear g1 g2 g3
    rw [s1]
    refine ⟨_, ?_, s2, s3, ⟨?_, ?_, fun i hi => ?_⟩, fun q j h1 h2 => ?_⟩
    · simp only [Option.bind_some, jps]
      rw [jb_184_61, ju_out hj6 (by omega)]
      rfl
    · rw [ju_out hj6 (by omega)]; rfl
    · rw [ju_out hj6 (by omega)]; exact b2
    · rw [ju_out hj6 (by omega), ju_out hj6 (by omega), ju_out hj6 (by omega), ju_out hj6 (by omega)]
      exact b3 i hi
    · rw [ju_out hj6 h2]
      exact f0 q j h1
theorem m_redo (hk : kitM n v I) (ho : peOk m pe D) (hp : peM m pe D I) (hh : chOk n m v k a ch) (hc : chM k a ch I) : ∃ I', jev d 185 [.ref 58] (jmk I L c e) = some (some (.int (opRedo v pe k a ch).1), jmk I' L c e) ∧ kitM n (opRedo v pe k a ch).2.1 I' ∧ peM m (opRedo v pe k a ch).2.2.1 D I' ∧ chM (opRedo v pe k a ch).2.2.2 a ch I' ∧ ∀ q j, ¬ (q = 58 ∧ j = 37) → (q < 61 ∨ 66 < q) → I' q j = I q j := by
  obtain ⟨a1, a2, a3⟩ := id hh
  obtain ⟨b1, b2, b3⟩ := id hc
  unfold opRedo
  rw [jb_185_0, b1, b2]
  by_cases h0 : k = a
  · subst h0
    rw [if_pos rfl, decide_eq_false (fun q => q rfl), cond_false]
    exact ⟨I, rfl, hk, hp, hc, fun _ _ _ _ => rfl⟩
  · have e0 : 4 * nI k = nI (4 * k) := by rw [jI_lit, pk_mul]
    have e1 : nI (4 * k) + 1 = nI (4 * k + 1) := nI_1 _
    have e3 : nI (4 * k) + 3 = nI (4 * k + 3) := by rw [jI_lit, nI_add]
    obtain ⟨c1, c2, c3, c4⟩ := b3 k (by omega)
    rw [if_neg h0, decide_eq_true (by rw [nI_eq (by omega) (by omega)]; omega), cond_true, e0, e1, e3, jdI (by omega), jdI (by omega), jdI (by omega), jcl' (by omega), jcl' (by omega), jcl' (by omega), c1, c2, c4]
    simp only [cond_true]
    have hj6 : (ch k).2.1 < 6 := by
      have g := (a3 k (by omega)).1
      clear a3 hh
      omega
    obtain ⟨g1, g2, g3⟩ := a3 k (by omega)
    obtain ⟨s1, s2, s3⟩ := m_set (d := d) (L := L) (c := c) (e := e) hk ho.1 hp g1 g3
    clear g1 g2 g3
    rw [s1]
    have r37 : ju I (61 + (ch k).2.1) (ch k).1 (nI (ch k).2.2.2) 58 37 = nI k := by rw [ju_out hj6 (by omega)]; exact b1
    have r36 : ju I (61 + (ch k).2.1) (ch k).1 (nI (ch k).2.2.2) 58 36 = nI a := by rw [ju_out hj6 (by omega)]; exact b2
    have f0 : ∀ q j, ¬ (q = 58 ∧ j = 37) → ju (ju I (61 + (ch k).2.1) (ch k).1 (nI (ch k).2.2.2)) 58 37 (nI (k + 1)) q j = ju I (61 + (ch k).2.1) (ch k).1 (nI (ch k).2.2.2) q j := fun q j h => by rw [ju_get, if_neg h]
    refine ⟨_, ?_, kitM_fr s2 (f0 _ _ (by omega)) (fun q j h1 h2 => f0 q j (fun h => by omega)), peM_fr s3 (f0 _ _ (by omega)) (fun q j h1 h2 => f0 q j (fun h => by omega)), ⟨rfl, ?_, fun i hi => ?_⟩, fun q j h1 h2 => ?_⟩
    · simp only [Option.bind_some, jps]
      rw [jb_185_55, r37, r36, nI_1, nI_sub (by omega) (by omega)]
    · rw [f0 _ _ (by omega)]; exact r36
    · rw [f0 _ _ (by omega), f0 _ _ (by omega), f0 _ _ (by omega), f0 _ _ (by omega), ju_out hj6 (by omega), ju_out hj6 (by omega), ju_out hj6 (by omega), ju_out hj6 (by omega)]
      exact b3 i hi
    · rw [f0 q j h1, ju_out hj6 h2]
end UND
