/-! leads: where a move leads -/
section LDS
variable {d : Nat} {I : Nat → Nat → Int32} {L : Nat → Nat → Int64} {c e : Nat} {x y z u w : Int32} {n : Nat} {v : Nat → aMv}
theorem jif {α : Type} {p q : Prop} [Decidable p] [Decidable q] {a b : α} (h : p ↔ q) : (if p then a else b) = if q then a else b := by
  by_cases hp : p
  · rw [if_pos hp, if_pos (h.mp hp)]
  · rw [if_neg hp, if_neg (fun k => hp (h.mpr k))]
theorem jin_n {n m : Nat} (hn : n ≤ m) (hm : m < 2 ^ 31) : (0 ≤ x.toInt ∧ x.toInt < (nI n).toInt) ↔ ∃ j : Nat, j < n ∧ x = nI j := by
  rw [← jin_iff (x := x) (n := n) (by omega), nI_toInt (by omega)]
theorem q_143p {s : Nat} (w : Nat) (hw : w ≤ 3) (hs : s < 54) : jev d 143 [.int (OfNat.ofNat w), .int (nI s)] (jmk I L c e) = some (some (.int (nI (pt w s))), jmk I L c e) := q_143 hw hs
theorem q_203 {w s : Nat} (hw : w ≤ 3) (hs : s < 54) : jev d 203 [.int (nI w), .int (nI s)] (jmk I L c e) = some (some (.int (nI (pt w s))), jmk I L c e) := by
  have h18 : nI s / 18 = nI (s / 18) := pk_div (by omega) (by decide) (by decide)
  have h6 : nI s / 6 = nI (s / 6) := pk_div (by omega) (by decide) (by decide)
  have h2 : nI s / 2 = nI (s / 2) := pk_div (by omega) (by decide) (by decide)
  rw [jb_203_0, jb_203_1]
  have hw : w = 0 ∨ w = 1 ∨ w = 2 ∨ w = 3 := by omega
  rcases hw with rfl | rfl | rfl | rfl
  · show jat d 203 28 _ _ _ = _
    rw [jb_203_28, h18]
    rfl
  · show jat d 203 33 _ _ _ = _
    rw [jb_203_33, h6, show nI (s / 6) - nI (s / 6) / 3 * 3 = nI (s / 6 % 3) from pk_rem (by omega) (by decide) (by decide)]
    rfl
  · show jat d 203 40 _ _ _ = _
    rw [jb_203_40, h2, show nI (s / 2) - nI (s / 2) / 3 * 3 = nI (s / 2 % 3) from pk_rem (by omega) (by decide) (by decide)]
    rfl
  · show jat d 203 46 _ _ _ = _
    rw [jb_203_46, show nI s - nI s / 2 * 2 = nI (s % 2) from pk_rem (by omega) (by decide) (by decide)]
    rfl
theorem q_204 (h : kitM n v I) {i s : Nat} (hi : i < n) (hs : s < 54) : jev d 204 [.ref 58, .int (nI i), .int (nI s)] (jmk I L c e) = some (some (.int (if may (v i) s then 1 else 0)), jmk I L c e) := by
  obtain ⟨hn, -, hv⟩ := h
  obtain ⟨hok, h59, h60, h61, h62, h63⟩ := hv i hi
  obtain ⟨k1, k2, k3, k4, k5, k6, k7⟩ := id hok
  have hg : decide (jin (nI i) 12) = true := jdI (by omega)
  have hc : (nI i).toNatClampNeg = i := jcl' (by omega)
  obtain ⟨m1, m2, m3⟩ := mto_all (v i).1 (by omega) (v i).2.1 (by omega) s hs
  have h18 : nI s / nI 18 = nI (s / 18) := pk_div (by omega) (by decide) (by decide)
  have q29 : jat d 204 29 [.ref 58, .int (nI i), .int (nI s)] [] (jmk I L c e) = some (some (.int (if (v i).2.2.2.1 = 3 ∨ (v i).2.2.2.1 = s / 18 then 1 else 0)), jmk I L c e) := by
    rw [jb_204_29]
    simp only [hg, cond_true, hc, h62, Bool.cond_decide, jI_lit, h18]
    simp (disch := omega) only [nI_eq]
    repeat' split
    all_goals first | rfl | (exfalso; omega)
  rw [jb_204_0]
  simp only [hg, cond_true, hc, h59, h61, Bool.cond_decide, jI_lit, q_203 k1 hs, Option.bind_some, jps, jb_204_26, q29]
  simp (disch := omega) only [nI_eq]
  unfold may
  by_cases ha : (v i).2.2.1 = 3
  · rw [if_pos ha]
    congr 4
    exact jif ⟨fun q => ⟨Or.inl ha, q⟩, fun q => q.2⟩
  · rw [if_neg ha]
    by_cases hp : (v i).2.2.1 = pt (v i).1 s
    · rw [if_neg (fun q => q hp)]
      congr 4
      exact jif ⟨fun q => ⟨Or.inr hp, q⟩, fun q => q.2⟩
    · rw [if_pos hp, if_neg (fun q => q.1.elim ha hp)]
theorem q_205 (h : kitM n v I) {i s : Nat} (hi : i < n) (hs : s < 54) : jev d 205 [.ref 58, .int (nI i), .int (nI s)] (jmk I L c e) = some (some (.int (nI (mto (v i).1 (v i).2.1 s))), jmk I L c e) := by
  obtain ⟨hn, -, hv⟩ := h
  obtain ⟨hok, h59, h60, h61, h62, h63⟩ := hv i hi
  obtain ⟨k1, k2, k3, k4, k5, k6, k7⟩ := id hok
  have hg : decide (jin (nI i) 12) = true := jdI (by omega)
  have hc : (nI i).toNatClampNeg = i := jcl' (by omega)
  obtain ⟨m1, m2, m3⟩ := mto_all (v i).1 (by omega) (v i).2.1 (by omega) s hs
  have hm : ∀ y, y = (if (v i).1 = 3 then 2 else 3) → jat d 205 33 [.ref 58, .int (nI i), .int (nI s), .int (nI (v i).1), .int (nI (pt (v i).1 s)), .null] [.int (nI y), .int (nI (pt (v i).1 s + (v i).2.1))] (jmk I L c e) = some (some (.int (nI (mto (v i).1 (v i).2.1 s))), jmk I L c e) := by
    intro y hy
    have hy2 : y = 2 ∨ y = 3 := by split at hy <;> omega
    have hr : nI (pt (v i).1 s + (v i).2.1) - nI (pt (v i).1 s + (v i).2.1) / nI y * nI y = nI ((pt (v i).1 s + (v i).2.1) % y) := pk_rem (by omega) (by omega) (by omega)
    rw [jb_205_33, hr, m3, ← hy]
    simp only [Bool.cond_decide]
    simp only [jI_lit]
    simp (disch := omega) only [nI_eq]
    have hw : (v i).1 = 0 ∨ (v i).1 = 1 ∨ (v i).1 = 2 ∨ (v i).1 = 3 := by omega
    rw [if_pos (by omega)]
    rcases hw with hw | hw | hw | hw <;> rw [hw] <;> rfl
  rw [jb_205_0]
  simp only [hg, cond_true, hc, h59, q_203 k1 hs, Option.bind_some, jps]
  rw [jb_205_12]
  simp only [hg, cond_true, hc, h60, Bool.cond_decide]
  simp only [jI_lit]
  simp (disch := omega) only [nI_eq, nI_add]
  split
  · exact hm 3 (by rename_i h; rw [if_neg h])
  · exact hm 2 (by rename_i h; rw [if_pos (by omega)])
/-- leads, by its arguments -/
def opLeads (n : Nat) (v : Nat → aMv) (x y : Int32) : Int32 := if jin x n ∧ jin y 54 then oI (ld (v x.toNatClampNeg) y.toNatClampNeg) else -1
theorem q_57j (hn : n ≤ 12) (h : I 7 6 = nI n) : jev d 57 [.ref 7, .int x] (jmk I L c e) = some (some (.int (if jin x n then 1 else 0)), jmk I L c e) := by
  rw [q_57i, h]
  congr 4
  apply jif
  rw [nI_toInt (by omega)]
theorem q_60 (h : kitC n v I) : jev d 60 [.ref 7, .int x, .int y] (jmk I L c e) = some (some (.int (if jin x n ∧ jin y 54 then oI (ld (v x.toNatClampNeg) y.toNatClampNeg) else -2)), jmk I L c e) := by
  obtain ⟨⟨hn, hs, hv⟩, hch⟩ := h
  rw [jb_60_0, q_57j hn hs]
  simp only [Option.bind_some, jps]
  rw [jb_60_5]
  simp only [Bool.cond_decide, j01, q_141, Option.bind_some, jps, jb_60_12]
  by_cases hx : jin x n
  · rw [if_neg (fun q => q hx)]
    by_cases hy : jin y 54
    · rw [if_neg (fun q => q hy), if_pos (And.intro hx hy)]
      obtain ⟨i, hi, rfl⟩ := (jin_iff (by omega)).mp hx
      obtain ⟨s, hs', rfl⟩ := (jin_iff (by omega)).mp hy
      have e1 : nI i * 54 + nI s = nI (54 * i + s) := by rw [jI_lit, pk_mul, nI_add, Nat.mul_comm]
      rw [e1, if_pos (jin_nI (by omega) (by omega)), jcl' (by omega), jcl' (by omega), jcl' (by omega), hch i hi s hs']
    · rw [if_pos hy, if_neg (fun q => hy q.2)]
  · rw [if_pos hx, if_neg (fun q => hx q.1)]
theorem c_leads (h : kitC n v I) : jev d 103 [.ref 0, .int x, .int y] (jmk I L c e) = some (some (.int (opLeads n v x y)), jmk I L c e) := by
  rw [jb_103_0, q_57j h.1.1 h.1.2.1]
  simp only [Option.bind_some, jps]
  rw [jb_103_8]
  simp only [Bool.cond_decide, j01, q_141, Option.bind_some, jps, jb_103_15, q_60 h, jb_103_27]
  unfold opLeads
  by_cases hx : jin x n
  · rw [if_neg (fun q => q hx)]
    by_cases hy : jin y 54
    · rw [if_neg (fun q => q hy), if_pos (And.intro hx hy), if_pos (And.intro hx hy)]
    · rw [if_pos hy, if_neg (fun q => hy q.2)]
  · rw [if_pos hx, if_neg (fun q => hx q.1)]
theorem q_164 (h : kitM n v I) : jev d 164 [.ref 58, .int x] (jmk I L c e) = some (some (.int (if jin x n then 1 else 0)), jmk I L c e) := by
  obtain ⟨hn, hs, hv⟩ := h
  rw [jb_164_0, q_163, hs]
  simp only [Option.bind_some, jps]
  rw [jb_164_11, j01b, decide_eq_true rfl, cond_true]
  congr 4
  apply jif
  have h1 : (1 : Int32).toInt = 1 := rfl
  have h0 : (0 : Int32).toInt = 0 := rfl
  have hsub : (nI n - 1).toInt = (n : Int) - 1 := by
    rw [Int32.toInt_sub, h1, nI_toInt (by omega), Int.bmod_eq_of_le (by omega) (by omega)]
  rw [hsub, h0]
  show (0 ≤ x.toInt ∧ x.toInt ≤ (n : Int) - 1) ↔ (0 ≤ x.toInt ∧ x.toInt < (n : Int))
  omega
theorem m_leads (h : kitM n v I) : jev d 206 [.ref 58, .int x, .int y] (jmk I L c e) = some (some (.int (opLeads n v x y)), jmk I L c e) := by
  rw [jb_206_0, q_164 h]
  simp only [Option.bind_some, jps]
  rw [jb_206_5]
  simp only [Bool.cond_decide, j01, j01n, q_167, Option.bind_some, jps, jb_206_12]
  unfold opLeads
  by_cases hx : jin x n
  · rw [if_neg (fun q => q hx)]
    by_cases hy : jin y 54
    · rw [if_pos (fun q => q hy), if_pos (And.intro hx hy)]
      obtain ⟨i, hi, rfl⟩ := (jin_iff (by have := h.1; omega)).mp hx
      obtain ⟨s, hs', rfl⟩ := (jin_iff (by omega)).mp hy
      have hi12 : i < 12 := by have := h.1; omega
      rw [q_204 h hi hs', jcl' (by omega), jcl' (by omega)]
      simp only [Option.bind_some, jps, jb_206_23, Bool.cond_decide, j01, q_205 h hi hs', jb_206_32]
      unfold ld
      by_cases hm : may (v i) s
      · rw [if_neg (fun q => q hm), if_pos hm]
        rfl
      · rw [if_pos hm, if_neg hm]
        rfl
    · rw [if_neg (fun q => q hy), if_neg (fun q => hy q.2)]
  · rw [if_pos hx, if_neg (fun q => hx q.1)]
end LDS
