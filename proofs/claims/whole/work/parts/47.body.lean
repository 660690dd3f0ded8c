/-! body, trace -/
def opBody (b : Nat) (bk : Nat → Nat) (x : Int32) : Int32 × Nat × (Nat → Nat) := if jin x 8 then (if b = 50 then (-3, b, bk) else (nI b, b + 1, fun i => if i = b then x.toNatClampNeg else bk i)) else (-1, b, bk)
/-- the trace -/
def trC (l : List Nat) (I : Nat → Nat → Int32) : Prop := I 29 4 = nI l.length ∧ l.length < 1000 ∧ ∀ i, i < 24 → i < l.length → I 31 i = nI (l.getD i 0)
def trM (l : List Nat) (I : Nat → Nat → Int32) : Prop := I 58 41 = nI l.length ∧ l.length < 1000 ∧ ∀ i, i < 24 → i < l.length → I 84 i = nI (l.getD i 0)
def opTrace (l : List Nat) (x : Int32) : Int32 := if jin x (min 24 l.length) then nI (l.getD x.toNatClampNeg 0) else -1
section BDY
variable {d : Nat} {I : Nat → Nat → Int32} {L : Nat → Nat → Int64} {c e : Nat} {x y z : Int32} {b : Nat} {bk : Nat → Nat} {l : List Nat}
theorem opBody_ok {sh : Nat → aSh} (h : shOk b sh) : shOk (opBody b bk x).2.1 sh := by
  obtain ⟨o1, o2⟩ := id h
  unfold opBody
  split
  · split
    · exact h
    · refine ⟨by show b + 1 ≤ 50; omega, fun i hi => ?_⟩
      obtain ⟨k1, k2, k3⟩ := o2 i hi
      exact ⟨k1, fun q => by have := k2 q; show (sh i).2 < b + 1; omega, k3⟩
  · exact h
theorem c_body (hb : b ≤ 50) (h : boC b bk I) : ∃ I', jev d 131 [.ref 0, .int x] (jmk I L c e) = some (some (.int (opBody b bk x).1), jmk I' L c e) ∧ boC (opBody b bk x).2.1 (opBody b bk x).2.2 I' ∧ ∀ q j, ¬ (q = 29 ∧ j = 3) → q ≠ 30 → I' q j = I q j := by
  obtain ⟨h1, h2⟩ := id h
  unfold opBody
  rw [jb_131_0, q_11]
  simp only [Option.bind_some, jps]
  rw [jb_131_4]
  simp only [Bool.cond_decide, j01]
  by_cases hx : jin x 8
  · rw [if_neg (fun q => q hx), if_pos hx]
    obtain ⟨k, hk, rfl⟩ := (jin_iff (by omega)).mp hx
    rw [jb_15_0, h1]
    by_cases h50 : b = 50
    · subst h50
      rw [if_pos rfl]
      exact ⟨I, jb_131_15 .., h, fun _ _ _ _ => rfl⟩
    · have hlt : b < 50 := by omega
      have c1 : (nI b).toNatClampNeg = b := jcl' (by omega)
      have c2 : (nI k).toNatClampNeg = k := jcl' (by omega)
      have e1 : nI b + 1 - 1 = nI b := by rw [nI_1]; exact nI_sub (j := 1) (by omega) (by omega)
      rw [if_neg h50, decide_eq_true (show nI b < 50 from nI_lt hlt (by decide)), jdI hlt, c1, c2, e1]
      simp only [cond_true]
      refine ⟨_, jb_131_15 .., ⟨nI_1 _, fun i hi => ?_⟩, fun q j a1 a2 => ?_⟩
      · have hi : i < b + 1 := hi
        simp only [ju_get]
        by_cases q : i = b
        · subst q
          simp
          omega
        · simpa [q] using h2 i (by omega)
      · simp only [ju_get]
        rw [if_neg a1, if_neg (fun h => a2 h.1)]
  · rw [if_pos hx, if_neg hx]
    exact ⟨I, rfl, h, fun _ _ _ _ => rfl⟩
theorem m_body (hb : b ≤ 50) (h : boM b bk I) : ∃ I', jev d 251 [.ref 58, .int x] (jmk I L c e) = some (some (.int (opBody b bk x).1), jmk I' L c e) ∧ boM (opBody b bk x).2.1 (opBody b bk x).2.2 I' ∧ ∀ q j, ¬ (q = 58 ∧ j = 39) → q ≠ 83 → I' q j = I q j := by
  obtain ⟨h1, h2⟩ := id h
  unfold opBody
  rw [jb_251_0, q_163]
  simp only [Option.bind_some, jps]
  rw [jb_251_7, h1]
  simp only [Bool.cond_decide, j01, Int32.reduceToInt]
  by_cases hx : jin x 8
  · have hx2 : ¬¬ (0 ≤ x.toInt ∧ x.toInt ≤ 7) := fun q => q (by omega)
    rw [if_pos hx2, if_pos hx]
    obtain ⟨k, hk, rfl⟩ := (jin_iff (by omega)).mp hx
    by_cases h50 : b = 50
    · subst h50
      rw [if_pos rfl]
      exact ⟨I, rfl, h, fun _ _ _ _ => rfl⟩
    · have hlt : b < 50 := by omega
      have c1 : (nI b).toNatClampNeg = b := jcl' (by omega)
      have c2 : (nI k).toNatClampNeg = k := jcl' (by omega)
      have e1 : ¬ nI b = 50 := by
        rw [jI_lit, nI_eq (by omega) (by decide)]
        exact h50
      rw [if_neg h50, if_pos e1, if_pos (jin_nI hlt (by decide)), c1, c2]
      refine ⟨_, rfl, ⟨nI_1 _, fun i hi => ?_⟩, fun q j a1 a2 => ?_⟩
      · have hi : i < b + 1 := hi
        simp only [ju_get]
        by_cases q : i = b
        · subst q
          simp
          omega
        · simpa [q] using h2 i (by omega)
      · simp only [ju_get]
        rw [if_neg a1, if_neg (fun h => a2 h.1)]
  · have hx2 : ¬¬¬ (0 ≤ x.toInt ∧ x.toInt ≤ 7) := fun q => q (fun q => hx (by omega))
    rw [if_neg hx2, if_neg hx]
    exact ⟨I, rfl, h, fun _ _ _ _ => rfl⟩
theorem c_trace (h : trC l I) : jev d 133 [.ref 0, .int x] (jmk I L c e) = some (some (.int (opTrace l x)), jmk I L c e) := by
  obtain ⟨h1, h2, h3⟩ := h
  unfold opTrace
  rw [jb_133_0, jb_16_0, h1]
  simp only [Bool.cond_decide, jlt_iff, jle_iff, Int32.reduceToInt]
  rw [nI_toInt (by omega)]
  by_cases hx : jin x (min 24 l.length)
  · rw [if_pos hx]
    obtain ⟨k, hk, rfl⟩ := (jin_iff (by omega)).mp hx
    have e := nI_toInt (show k < 2 ^ 31 by omega)
    have a1 : jin (nI k) 24 := jin_nI (by omega) (by decide)
    rw [if_neg (by omega), if_neg (by omega), if_neg (by omega), if_pos a1, jcl' (by omega), h3 k (by omega) (by omega)]
    exact jb_133_8 ..
  · rw [if_neg hx]
    have : x.toInt < 0 ∨ (l.length : Int) ≤ x.toInt ∨ 24 ≤ x.toInt := by omega
    repeat' split
    all_goals first | exact jb_133_8 .. | (exfalso; omega)
theorem m_trace (h : trM l I) : jev d 253 [.ref 58, .int x] (jmk I L c e) = some (some (.int (opTrace l x)), jmk I L c e) := by
  obtain ⟨h1, h2, h3⟩ := h
  unfold opTrace
  have e0 : (if nI l.length < 24 then nI l.length else 24) = nI (min 24 l.length) := by
    have h24 : (nI l.length < 24) ↔ (l.length < 24) := by
      rw [jlt_iff, nI_toInt (by omega)]
      simp only [Int32.reduceToInt]
      omega
    simp only [h24]
    split
    · rw [Nat.min_eq_right (by omega)]
    · rw [Nat.min_eq_left (by omega)]
      rfl
  rw [jb_253_0, h1, e0, q_wid (by omega)]
  simp only [Option.bind_some, jps]
  rw [jb_253_16]
  simp only [Bool.cond_decide, j01]
  by_cases hx : jin x (min 24 l.length)
  · rw [if_pos hx, if_neg (fun q => q hx)]
    obtain ⟨k, hk, rfl⟩ := (jin_iff (by omega)).mp hx
    have a1 : jin (nI k) 24 := jin_nI (by omega) (by decide)
    rw [if_pos a1, jcl' (by omega), h3 k (by omega) (by omega)]
  · rw [if_neg hx, if_pos hx]
end BDY
