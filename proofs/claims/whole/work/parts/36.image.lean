/-! an image, and back to it -/
section IMG
variable {d : Nat} {I : Nat → Nat → Int32} {L : Nat → Nat → Int64} {c e : Nat} {x y z : Int32} {n m k a s : Nat} {v : Nat → aMv} {pe : Nat → aPe} {D : Nat → Int32} {ld : Nat → Int32} {im : Option aIm}
theorem q_28 : jev d 28 [.ref 37, .ref 14] (jmk I L c e) = some (some (.int (I 38 0)), jmk (jcp (jcp (jcp (ju (ju I 37 6 1) 37 5 (I 37 1)) 38 39 0 0 4) 16 40 0 0 6) 18 41 0 0 72) L c e) := by
  rw [jb_28_0]
  rfl
theorem q_29 (h : I 37 6 = 1) : jev d 29 [.ref 37, .ref 14] (jmk I L c e) = some (some (.int (I 39 0)), jmk (jcp (jcp (jcp (ju I 37 1 (I 37 5)) 39 38 0 0 4) 40 16 0 0 6) 41 18 0 0 72) L c e) := by
  rw [jb_29_0, h]
  rfl
theorem opImage_ok (ho : peOk m pe D) (hs : s < 54) : imOk m (opImage m pe D s ld).2 := by
  obtain ⟨o1, o2, o3, o4⟩ := ho
  refine ⟨Nat.le_refl _, hs, fun i => ?_, fun i hi => o3 i hi, fun j hj => o4 j hj⟩
  by_cases h : i < m
  · exact (o2 i h).2.1
  · show (pe i).2.1 < 4096
    rw [o3 i (by omega)]
    decide
theorem opBack_ok (ho : peOk m pe D) (hs : s < 54) (hi : imOk m im) : peOk m (opBack pe D s ld im).2.1 (opBack pe D s ld im).2.2.1 ∧ (opBack pe D s ld im).2.2.2.1 < 54 := by
  cases im with
  | none => exact ⟨ho, hs⟩
  | some u =>
    obtain ⟨o1, o2, o3, o4⟩ := ho
    obtain ⟨i1, i2, i3, i4, i5⟩ := hi
    exact ⟨⟨o1, fun i hi => ⟨(o2 i hi).1, i3 i, (o2 i hi).2.2⟩, fun i hi => i4 i (by omega), fun j hj => i5 j (by omega)⟩, i2⟩
theorem c_image (hp : peC m pe D I) (hd : deC s ld I) : ∃ I', jev d 127 [.ref 0] (jmk I L c e) = some (some (.int (opImage m pe D s ld).1), jmk I' L c e) ∧ imC (opImage m pe D s ld).2 I' ∧ ∀ q j, ¬ (q = 37 ∧ (j = 5 ∨ j = 6)) → (q < 39 ∨ 41 < q) → I' q j = I q j := by
  rw [jb_127_0, q_28]
  refine ⟨jcp (jcp (jcp (ju (ju I 37 6 1) 37 5 (I 37 1)) 38 39 0 0 4) 16 40 0 0 6) 18 41 0 0 72, ?_, ⟨rfl, hd.1, fun j hj => ?_, fun j hj => ?_, fun j hj => ?_⟩, fun q j h1 h2 => ?_⟩
  · simp only [Option.bind_some, jps]
    rw [jb_127_11, hd.2 0 (by decide)]
    rfl
  · have := hd.2 j hj
    simpa [jcp_get, ju_get, hj] using this
  · have := hp.2.2.1 j hj
    simpa [jcp_get, ju_get, hj] using this
  · have := hp.2.2.2 j hj
    simpa [jcp_get, ju_get, hj] using this
  · simp only [jcp_get, ju_get]
    rw [if_neg (by omega), if_neg (by omega), if_neg (by omega), if_neg (by omega), if_neg (by omega)]
theorem c_back (hp : peC m pe D I) (hd : deC s ld I) (hi : imC im I) : ∃ I', jev d 128 [.ref 0] (jmk I L c e) = some (some (.int (opBack pe D s ld im).1), jmk I' L c e) ∧ peC m (opBack pe D s ld im).2.1 (opBack pe D s ld im).2.2.1 I' ∧ deC (opBack pe D s ld im).2.2.2.1 (opBack pe D s ld im).2.2.2.2 I' ∧ ∀ q j, ¬ (q = 37 ∧ j = 1) → q ≠ 16 → q ≠ 18 → q ≠ 38 → I' q j = I q j := by
  rw [jb_128_0]
  cases im with
  | none =>
    have hi : I 37 6 = 0 := hi
    rw [jb_29_0, hi]
    exact ⟨I, jb_128_11 .., hp, hd, fun _ _ _ _ _ _ => rfl⟩
  | some u =>
    obtain ⟨i1, i2, i3, i4, i5⟩ := hi
    rw [q_29 i1]
    refine ⟨jcp (jcp (jcp (ju I 37 1 (I 37 5)) 39 38 0 0 4) 40 16 0 0 6) 41 18 0 0 72, ?_, ⟨?_, fun j hj => ?_, fun j hj => ?_, fun j hj => ?_⟩, ⟨?_, fun j hj => ?_⟩, fun q j h1 h2 h3 h4 => ?_⟩
    · simp only [Option.bind_some, jps]
      rw [jb_128_11, i3 0 (by decide)]
      rfl
    · have := hp.1
      simpa [jcp_get, ju_get] using this
    · have := hp.2.1 j hj
      simpa [jcp_get, ju_get, opBack] using this
    · have := i4 j hj
      simpa [jcp_get, ju_get, hj, opBack] using this
    · have := i5 j hj
      simpa [jcp_get, ju_get, hj, opBack] using this
    · simpa [jcp_get, ju_get, opBack] using i2
    · have := i3 j hj
      simpa [jcp_get, ju_get, hj, opBack] using this
    · simp only [jcp_get, ju_get]
      rw [if_neg (by omega), if_neg (by omega), if_neg (by omega), if_neg (by omega)]
/-- one row taken over as far as k -/
def cpI (I : Nat → Nat → Int32) (p q k : Nat) : Nat → Nat → Int32 := fun a j => if a = q ∧ j < k then I p j else I a j
theorem cp_0 {p q : Nat} : cpI I p q 0 = I := by
  funext a j
  unfold cpI
  rw [if_neg (by omega)]
theorem cp_1 {p q t : Nat} (h : p ≠ q) : ju (cpI I p q t) q t (cpI I p q t p t) = cpI I p q (t + 1) := by
  funext a j
  unfold ju cpI
  by_cases hq : a = q
  · subst hq
    by_cases hj : j = t
    · subst hj
      rw [if_pos ⟨rfl, rfl⟩, if_neg (by omega), if_pos ⟨rfl, by omega⟩]
    · rw [if_neg (fun k => hj k.2)]
      by_cases hr : j < t
      · rw [if_pos ⟨rfl, hr⟩, if_pos ⟨rfl, by omega⟩]
      · rw [if_neg (fun k => hr k.2), if_neg (fun k => hr (by omega))]
  · rw [if_neg (fun k => hq k.1), if_neg (fun k => hq k.1), if_neg (fun k => hq k.1)]
theorem q_243a : jat d 243 23 [.ref 58, .int 0] [] (jmk I L c e) = jat d 243 49 [.ref 58, .int 0] [] (jmk (cpI I 65 79 6) L c e) := by
  have key : jat d 243 23 [.ref 58, .int (nI 0)] [] (jmk (cpI I 65 79 0) L c e) = jat d 243 23 [.ref 58, .int (nI 6)] [] (jmk (cpI I 65 79 6) L c e) := jloop (N := 6) (fun t => jat d 243 23 [.ref 58, .int (nI t)] [] (jmk (cpI I 65 79 t) L c e)) (fun t ht => by
    show jat d 243 23 [.ref 58, .int (nI t)] [] (jmk (cpI I 65 79 t) L c e) = jat d 243 23 [.ref 58, .int (nI (t + 1))] [] (jmk (cpI I 65 79 (t + 1)) L c e)
    rw [jb_243_23, decide_eq_false (by rw [jI_lit, nI_leI (by omega) (by omega)]; omega), cond_false, jdI (by omega), cond_true, cond_true, jcl' (by omega), nI_1, cp_1 (by decide)])
  rw [cp_0] at key
  rw [show (0 : Int32) = nI 0 from rfl, key, jb_243_23]
  rfl
theorem q_243b : jat d 243 49 [.ref 58, .int 0] [] (jmk I L c e) = jat d 243 75 [.ref 58, .int 0] [] (jmk (cpI I 67 80 72) L c e) := by
  have key : jat d 243 49 [.ref 58, .int (nI 0)] [] (jmk (cpI I 67 80 0) L c e) = jat d 243 49 [.ref 58, .int (nI 72)] [] (jmk (cpI I 67 80 72) L c e) := jloop (N := 72) (fun t => jat d 243 49 [.ref 58, .int (nI t)] [] (jmk (cpI I 67 80 t) L c e)) (fun t ht => by
    show jat d 243 49 [.ref 58, .int (nI t)] [] (jmk (cpI I 67 80 t) L c e) = jat d 243 49 [.ref 58, .int (nI (t + 1))] [] (jmk (cpI I 67 80 (t + 1)) L c e)
    rw [jb_243_49, decide_eq_false (by rw [jI_lit, nI_leI (by omega) (by omega)]; omega), cond_false, jdI (by omega), cond_true, cond_true, jcl' (by omega), nI_1, cp_1 (by decide)])
  rw [cp_0] at key
  rw [show (0 : Int32) = nI 0 from rfl, key, jb_243_49]
  rfl
theorem q_243c : jat d 243 75 [.ref 58, .int 0] [] (jmk I L c e) = some (some (.int (I 78 0)), jmk (cpI I 78 81 4) L c e) := by
  have key : jat d 243 75 [.ref 58, .int (nI 0)] [] (jmk (cpI I 78 81 0) L c e) = jat d 243 75 [.ref 58, .int (nI 4)] [] (jmk (cpI I 78 81 4) L c e) := jloop (N := 4) (fun t => jat d 243 75 [.ref 58, .int (nI t)] [] (jmk (cpI I 78 81 t) L c e)) (fun t ht => by
    show jat d 243 75 [.ref 58, .int (nI t)] [] (jmk (cpI I 78 81 t) L c e) = jat d 243 75 [.ref 58, .int (nI (t + 1))] [] (jmk (cpI I 78 81 (t + 1)) L c e)
    rw [jb_243_75, decide_eq_false (by rw [jI_lit, nI_leI (by omega) (by omega)]; omega), cond_false, jdI (by omega), cond_true, cond_true, jcl' (by omega), nI_1, cp_1 (by decide)])
  rw [cp_0] at key
  rw [show (0 : Int32) = nI 0 from rfl, key, jb_243_75]
  rfl
theorem m_image (hp : peM m pe D I) (hd : deM s ld I) : ∃ I', jev d 243 [.ref 58] (jmk I L c e) = some (some (.int (opImage m pe D s ld).1), jmk I' L c e) ∧ imM (opImage m pe D s ld).2 I' ∧ ∀ q j, ¬ (q = 58 ∧ (j = 30 ∨ j = 31 ∨ j = 32)) → (q < 79 ∨ 81 < q) → I' q j = I q j := by
  rw [jb_243_0, q_243a, q_243b, q_243c]
  refine ⟨cpI (cpI (cpI (ju (ju (ju I 58 30 1) 58 31 (I 58 11)) 58 32 (I 58 6)) 65 79 6) 67 80 72) 78 81 4, ?_, ⟨rfl, hd.1, hp.1, fun j hj => ?_, fun j hj => ?_, fun j hj => ?_⟩, fun q j h1 h2 => ?_⟩
  · show some (some (Value.int (I 78 0)), _) = _
    rw [hd.2 0 (by decide)]
    rfl
  · have := hd.2 j hj
    simpa [cpI, ju_get, hj] using this
  · have := hp.2.2.1 j hj
    simpa [cpI, ju_get, hj] using this
  · have := hp.2.2.2 j hj
    simpa [cpI, ju_get, hj] using this
  · simp only [cpI, ju_get]
    rw [if_neg (by omega), if_neg (by omega), if_neg (by omega), if_neg (by omega), if_neg (by omega), if_neg (by omega)]
/-- one row taken back as far as k; from b on it is bare -/
def bkI (I : Nat → Nat → Int32) (p q b k : Nat) : Nat → Nat → Int32 := fun a j => if a = q ∧ j < k then (if j < b then I p j else 0) else I a j
theorem bk_0 {p q b : Nat} : bkI I p q b 0 = I := by
  funext a j
  unfold bkI
  rw [if_neg (by omega)]
theorem bk_1 {p q b t : Nat} {w : Int32} (hw : w = if t < b then I p t else 0) : ju (bkI I p q b t) q t w = bkI I p q b (t + 1) := by
  funext a j
  unfold ju bkI
  by_cases hq : a = q
  · subst hq
    by_cases hj : j = t
    · subst hj
      rw [if_pos ⟨rfl, rfl⟩, if_pos ⟨rfl, by omega⟩, hw]
    · rw [if_neg (fun k => hj k.2)]
      by_cases hr : j < t
      · have h1 : a = a ∧ j < t := ⟨rfl, hr⟩
        have h2 : a = a ∧ j < t + 1 := ⟨rfl, by omega⟩
        rw [if_pos h1, if_pos h2]
      · rw [if_neg (fun k => hr k.2), if_neg (fun k => hr (by omega))]
  · rw [if_neg (fun k => hq k.1), if_neg (fun k => hq k.1), if_neg (fun k => hq k.1)]
theorem bk_p {p q b t j : Nat} (h : p ≠ q) : bkI I p q b t p j = I p j := by
  unfold bkI
  rw [if_neg (fun k => h k.1)]
theorem q_244a (hm : m ≤ 6) (h : I 58 32 = nI m) : jat d 244 20 [.ref 58, .int 0] [] (jmk I L c e) = jat d 244 58 [.ref 58, .int 0] [] (jmk (bkI I 79 65 m 6) L c e) := by
  have key : jat d 244 20 [.ref 58, .int (nI 0)] [] (jmk (bkI I 79 65 m 0) L c e) = jat d 244 20 [.ref 58, .int (nI 6)] [] (jmk (bkI I 79 65 m 6) L c e) := jloop (N := 6) (fun t => jat d 244 20 [.ref 58, .int (nI t)] [] (jmk (bkI I 79 65 m t) L c e)) (fun t ht => by
    show jat d 244 20 [.ref 58, .int (nI t)] [] (jmk (bkI I 79 65 m t) L c e) = jat d 244 20 [.ref 58, .int (nI (t + 1))] [] (jmk (bkI I 79 65 m (t + 1)) L c e)
    have e1 : bkI I 79 65 m t 58 32 = nI m := h
    rw [jb_244_20, decide_eq_false (by rw [jI_lit, nI_leI (by omega) (by omega)]; omega), cond_false, e1, jdI (by omega), cond_true, cond_true, cond_true, jcl' (by omega), nI_1, bk_p (by decide)]
    by_cases hb : t < m
    · rw [decide_eq_false (by rw [nI_leI (by omega) (by omega)]; omega), cond_false, bk_1 (by rw [if_pos hb])]
    · rw [decide_eq_true (by rw [nI_leI (by omega) (by omega)]; omega), cond_true, bk_1 (by rw [if_neg hb])])
  rw [bk_0] at key
  rw [show (0 : Int32) = nI 0 from rfl, key, jb_244_20]
  rfl
theorem q_244b (hm : m ≤ 6) (h : I 58 32 = nI m) : jat d 244 58 [.ref 58, .int 0] [] (jmk I L c e) = jat d 244 99 [.ref 58, .int 0] [] (jmk (bkI I 80 67 (12 * m) 72) L c e) := by
  have key : jat d 244 58 [.ref 58, .int (nI 0)] [] (jmk (bkI I 80 67 (12 * m) 0) L c e) = jat d 244 58 [.ref 58, .int (nI 72)] [] (jmk (bkI I 80 67 (12 * m) 72) L c e) := jloop (N := 72) (fun t => jat d 244 58 [.ref 58, .int (nI t)] [] (jmk (bkI I 80 67 (12 * m) t) L c e)) (fun t ht => by
    show jat d 244 58 [.ref 58, .int (nI t)] [] (jmk (bkI I 80 67 (12 * m) t) L c e) = jat d 244 58 [.ref 58, .int (nI (t + 1))] [] (jmk (bkI I 80 67 (12 * m) (t + 1)) L c e)
    have e1 : bkI I 80 67 (12 * m) t 58 32 = nI m := h
    have e2 : 12 * nI m = nI (12 * m) := by rw [jI_lit, pk_mul]
    rw [jb_244_58, decide_eq_false (by rw [jI_lit, nI_leI (by omega) (by omega)]; omega), cond_false, e1, e2, jdI (by omega), cond_true, cond_true, cond_true, jcl' (by omega), nI_1, bk_p (by decide)]
    by_cases hb : t < 12 * m
    · rw [decide_eq_false (by rw [nI_leI (by omega) (by omega)]; omega), cond_false, bk_1 (by rw [if_pos hb])]
    · rw [decide_eq_true (by rw [nI_leI (by omega) (by omega)]; omega), cond_true, bk_1 (by rw [if_neg hb])])
  rw [bk_0] at key
  rw [show (0 : Int32) = nI 0 from rfl, key, jb_244_58]
  rfl
theorem q_244c : jat d 244 99 [.ref 58, .int 0] [] (jmk I L c e) = some (some (.int (I 81 0)), jmk (cpI I 81 78 4) L c e) := by
  have key : jat d 244 99 [.ref 58, .int (nI 0)] [] (jmk (cpI I 81 78 0) L c e) = jat d 244 99 [.ref 58, .int (nI 4)] [] (jmk (cpI I 81 78 4) L c e) := jloop (N := 4) (fun t => jat d 244 99 [.ref 58, .int (nI t)] [] (jmk (cpI I 81 78 t) L c e)) (fun t ht => by
    show jat d 244 99 [.ref 58, .int (nI t)] [] (jmk (cpI I 81 78 t) L c e) = jat d 244 99 [.ref 58, .int (nI (t + 1))] [] (jmk (cpI I 81 78 (t + 1)) L c e)
    rw [jb_244_99, decide_eq_false (by rw [jI_lit, nI_leI (by omega) (by omega)]; omega), cond_false, jdI (by omega), cond_true, cond_true, jcl' (by omega), nI_1, cp_1 (by decide)])
  rw [cp_0] at key
  rw [show (0 : Int32) = nI 0 from rfl, key, jb_244_99]
  rfl
theorem m_back (hm : m ≤ 6) (hp : peM m pe D I) (hd : deM s ld I) (hi : imM im I) (ho : imOk m im) : ∃ I', jev d 244 [.ref 58] (jmk I L c e) = some (some (.int (opBack pe D s ld im).1), jmk I' L c e) ∧ peM m (opBack pe D s ld im).2.1 (opBack pe D s ld im).2.2.1 I' ∧ deM (opBack pe D s ld im).2.2.2.1 (opBack pe D s ld im).2.2.2.2 I' ∧ ∀ q j, ¬ (q = 58 ∧ j = 11) → q ≠ 65 → q ≠ 67 → q ≠ 78 → I' q j = I q j := by
  rw [jb_244_0]
  cases im with
  | none =>
    have hi : I 58 30 = 0 := hi
    rw [hi]
    exact ⟨I, rfl, hp, hd, fun _ _ _ _ _ _ => rfl⟩
  | some u =>
    obtain ⟨i1, i2, i3, i4, i5, i6⟩ := hi
    obtain ⟨o1, o2, o3, o4, o5⟩ := ho
    have e1 : ju I 58 11 (I 58 31) 58 32 = nI u.1 := i3
    have e2 : bkI (ju I 58 11 (I 58 31)) 79 65 u.1 6 58 32 = nI u.1 := i3
    rw [i1, show decide (¬ (1 : Int32) = 0) = true from rfl, cond_true, q_244a (by omega) e1, q_244b (by omega) e2, q_244c]
    refine ⟨cpI (bkI (bkI (ju I 58 11 (I 58 31)) 79 65 u.1 6) 80 67 (12 * u.1) 72) 81 78 4, ?_, ⟨hp.1, fun j hj => ?_, fun j hj => ?_, fun j hj => ?_⟩, ⟨i2, fun j hj => ?_⟩, fun q j h1 h2 h3 h4 => ?_⟩
    · show some (some (Value.int (I 81 0)), _) = _
      rw [i4 0 (by decide)]
      rfl
    · have := hp.2.1 j hj
      simpa [cpI, bkI, ju_get, opBack] using this
    · have := i5 j hj
      have h0 := o4 j
      by_cases hb : j < u.1
      · simpa [cpI, bkI, ju_get, hj, hb, opBack] using this
      · simp [cpI, bkI, ju_get, hj, hb, opBack, h0 (by omega)]
        rfl
    · have := i6 j hj
      have h0 := o5 j
      by_cases hb : j < 12 * u.1
      · simpa [cpI, bkI, ju_get, hj, hb, opBack] using this
      · simp [cpI, bkI, ju_get, hj, hb, opBack, h0 (by omega)]
    · have := i4 j hj
      simpa [cpI, bkI, ju_get, hj, opBack] using this
    · simp only [cpI, bkI, ju_get]
      rw [if_neg (by omega), if_neg (by omega), if_neg (by omega), if_neg (by omega)]
end IMG
