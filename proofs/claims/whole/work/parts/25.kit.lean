/-! the moves: states and moves as numbers -/
def pt (w s : Nat) : Nat := if w = 0 then s / 18 else if w = 1 then s / 6 % 3 else if w = 2 then s / 2 % 3 else s % 2
def wt (w : Nat) : Nat := if w = 0 then 18 else if w = 1 then 6 else if w = 2 then 2 else 1
/-- a move: what, by, from, needs, hard -/
abbrev aMv : Type := Nat × Nat × Nat × Nat × Nat
def mvOk (v : aMv) : Prop := v.1 ≤ 3 ∧ 1 ≤ v.2.1 ∧ v.2.1 ≤ 2 ∧ v.2.2.1 ≤ 3 ∧ (v.1 = 3 → v.2.2.1 ≠ 2) ∧ v.2.2.2.1 ≤ 3 ∧ v.2.2.2.2 ≤ 9
abbrev may (v : aMv) (s : Nat) : Prop := (v.2.2.1 = 3 ∨ v.2.2.1 = pt v.1 s) ∧ (v.2.2.2.1 = 3 ∨ v.2.2.2.1 = s / 18)
/-- where a move leads -/
def mto (w b s : Nat) : Nat := s + (pt w s + b) % (if w = 3 then 2 else 3) * wt w - pt w s * wt w
def ld (v : aMv) (s : Nat) : Option Nat := if may v s then some (mto v.1 v.2.1 s) else none
def oI : Option Nat → Int32
  | some t => nI t
  | none => -2
theorem mto_all : ∀ w, w < 4 → ∀ b, b < 3 → ∀ s, s < 54 → mto w b s < 54 ∧ pt w s < 3 ∧ nI (mto w b s) = nI s + (nI ((pt w s + b) % (if w = 3 then 2 else 3)) - nI (pt w s)) * nI (wt w) := by decide +kernel
theorem ld_lt {v : aMv} {s t : Nat} (hv : mvOk v) (hs : s < 54) (h : ld v s = some t) : t < 54 := by
  unfold ld at h
  split at h
  · cases h
    exact (mto_all v.1 (by have := hv.1; omega) v.2.1 (by have := hv.2.2.1; omega) s hs).1
  · cases h
theorem jdI {a n : Nat} (h : a < n) (hn : n < 2 ^ 31 := by decide) : decide (jin (nI a) n) = true := decide_eq_true (jin_nI h hn)
theorem jcl' {a : Nat} (h : a < 2 ^ 31) : (nI a).toNatClampNeg = a := nI_clamp h
section KIT
variable {d : Nat} {I : Nat → Nat → Int32} {L : Nat → Nat → Int64} {c e : Nat}
theorem q_143 {w s : Nat} (hw : w ≤ 3) (hs : s < 54) : jev d 143 [.int (nI w), .int (nI s)] (jmk I L c e) = some (some (.int (nI (pt w s))), jmk I L c e) := by
  have h18 : nI s / 18 = nI (s / 18) := pk_div (by omega) (by decide) (by decide)
  have h6 : nI s / 6 = nI (s / 6) := pk_div (by omega) (by decide) (by decide)
  have h2 : nI s / 2 = nI (s / 2) := pk_div (by omega) (by decide) (by decide)
  rw [jb_143_0, jb_143_1]
  have hw : w = 0 ∨ w = 1 ∨ w = 2 ∨ w = 3 := by omega
  rcases hw with rfl | rfl | rfl | rfl
  · show jat d 143 28 _ _ _ = _
    rw [jb_143_28, h18]
    rfl
  · show jat d 143 33 _ _ _ = _
    rw [jb_143_33, h6, show nI (s / 6) - nI (s / 6) / 3 * 3 = nI (s / 6 % 3) from pk_rem (by omega) (by decide) (by decide)]
    rfl
  · show jat d 143 40 _ _ _ = _
    rw [jb_143_40, h2, show nI (s / 2) - nI (s / 2) / 3 * 3 = nI (s / 2 % 3) from pk_rem (by omega) (by decide) (by decide)]
    rfl
  · show jat d 143 46 _ _ _ = _
    rw [jb_143_46, show nI s - nI s / 2 * 2 = nI (s % 2) from pk_rem (by omega) (by decide) (by decide)]
    rfl
theorem q_144 {w : Nat} (hw : w ≤ 3) : jev d 144 [.int (nI w)] (jmk I L c e) = some (some (.int (nI (wt w))), jmk I L c e) := by
  rw [jb_144_0, jb_144_1]
  have hw : w = 0 ∨ w = 1 ∨ w = 2 ∨ w = 3 := by omega
  rcases hw with rfl | rfl | rfl | rfl
  · exact jb_144_28 ..
  · exact jb_144_31 ..
  · exact jb_144_34 ..
  · exact jb_144_36 ..
/-- the class's moves are these, apart from the chart -/
def kitC0 (n : Nat) (v : Nat → aMv) (I : Nat → Nat → Int32) : Prop := n ≤ 12 ∧ I 7 6 = nI n ∧ ∀ i, i < n → mvOk (v i) ∧ I 8 i = nI (v i).1 ∧ I 9 i = nI (v i).2.1 ∧ I 10 i = nI (v i).2.2.1 ∧ I 11 i = nI (v i).2.2.2.1 ∧ I 12 i = nI (v i).2.2.2.2
def kitC (n : Nat) (v : Nat → aMv) (I : Nat → Nat → Int32) : Prop := kitC0 n v I ∧ ∀ i, i < n → ∀ s, s < 54 → I 13 (54 * i + s) = oI (ld (v i) s)
theorem q_61 {n : Nat} {v : Nat → aMv} (h : kitC0 n v I) {i s : Nat} (hi : i < n) (hs : s < 54) : jev d 61 [.ref 7, .int (nI i), .int (nI s)] (jmk I L c e) = some (some (.int (oI (ld (v i) s))), jmk I L c e) := by
  obtain ⟨hn, -, hv⟩ := h
  obtain ⟨hok, h8, h9, h10, h11, h12⟩ := hv i hi
  obtain ⟨k1, k2, k3, k4, k5, k6, k7⟩ := id hok
  have hg : decide (jin (nI i) 12) = true := jdI (by omega)
  have hc : (nI i).toNatClampNeg = i := jcl' (by omega)
  obtain ⟨m1, m2, m3⟩ := mto_all (v i).1 (by omega) (v i).2.1 (by omega) s hs
  have e0 : pt 0 s = s / 18 := rfl
  rw [jb_61_0, hg, cond_true, hc, h8, q_143 k1 hs]
  simp only [Option.bind_some, jps]
  rw [jb_61_10]
  simp only [hg, cond_true, hc, h10, Bool.cond_decide, jI_lit]
  have q31 : jat d 61 31 [.ref 7, .int (nI i), .int (nI s), .int (nI (pt (v i).1 s)), .null, .null] [] (jmk I L c e) = if (v i).2.2.2.1 = 3 ∨ (v i).2.2.2.1 = s / 18 then jat d 61 60 [.ref 7, .int (nI i), .int (nI s), .int (nI (pt (v i).1 s)), .null, .null] [.int 1] (jmk I L c e) else jat d 61 60 [.ref 7, .int (nI i), .int (nI s), .int (nI (pt (v i).1 s)), .null, .null] [.int 0] (jmk I L c e) := by
    rw [jb_61_31]
    simp only [hg, cond_true, hc, h11, Bool.cond_decide, jI_lit, q_143 (w := 0) (by omega) hs, Option.bind_some, jps, jb_61_55, jb_61_52, jb_61_59, e0]
    simp (disch := omega) only [nI_eq]
    repeat' split
    all_goals first | rfl | omega
  have q60 : jat d 61 60 [.ref 7, .int (nI i), .int (nI s), .int (nI (pt (v i).1 s)), .null, .null] [.int 1] (jmk I L c e) = some (some (.int (nI (mto (v i).1 (v i).2.1 s))), jmk I L c e) := by
    rw [jb_61_60, jt_1]
    simp only [hg, cond_true, hc, h8, h9, Bool.cond_decide, jI_lit]
    simp (disch := omega) only [nI_eq, nI_add]
    have hm : ∀ y, y = (if (v i).1 = 3 then 2 else 3) → jat d 61 93 [.ref 7, .int (nI i), .int (nI s), .int (nI (pt (v i).1 s)), .int (nI 1), .null] [.int (nI y), .int (nI (pt (v i).1 s + (v i).2.1))] (jmk I L c e) = some (some (.int (nI (mto (v i).1 (v i).2.1 s))), jmk I L c e) := by
      intro y hy
      have hy2 : y = 2 ∨ y = 3 := by split at hy <;> omega
      have hr : nI (pt (v i).1 s + (v i).2.1) - nI (pt (v i).1 s + (v i).2.1) / nI y * nI y = nI ((pt (v i).1 s + (v i).2.1) % y) := pk_rem (by omega) (by omega) (by omega)
      rw [jb_61_93, hg, hc, h8, hr, q_144 k1]
      have hy0 : ¬ nI y = 0 := by
        rw [show (0 : Int32) = nI 0 from rfl, nI_eq (by omega) (by omega)]
        omega
      rw [decide_eq_true hy0]
      simp only [cond_true, Option.bind_some, jps]
      rw [jb_61_110, m3, ← hy]
    split
    · exact hm 3 (by rename_i h; rw [if_neg h])
    · exact hm 2 (by rename_i h; rw [if_pos (by omega)])
  have q600 : jat d 61 60 [.ref 7, .int (nI i), .int (nI s), .int (nI (pt (v i).1 s)), .null, .null] [.int 0] (jmk I L c e) = some (some (.int (-2)), jmk I L c e) := by
    rw [jb_61_60]
    rfl
  rw [q31, jb_61_59, q600, q60]
  unfold ld oI
  simp (disch := omega) only [nI_eq]
  by_cases ha : (v i).2.2.1 = 3
  · rw [if_pos ha]
    by_cases hb : (v i).2.2.2.1 = 3 ∨ (v i).2.2.2.1 = s / 18
    · rw [if_pos hb, if_pos ⟨Or.inl ha, hb⟩]
    · rw [if_neg hb, if_neg (fun q => hb q.2)]
  · rw [if_neg ha]
    by_cases hp : (v i).2.2.1 = pt (v i).1 s
    · rw [if_neg (fun q => q hp)]
      by_cases hb : (v i).2.2.2.1 = 3 ∨ (v i).2.2.2.1 = s / 18
      · rw [if_pos hb, if_pos ⟨Or.inr hp, hb⟩]
      · rw [if_neg hb, if_neg (fun q => hb q.2)]
    · rw [if_pos hp, if_neg (fun q => q.1.elim ha hp)]
theorem jloop {α : Type} {N : Nat} (F : Nat → α) (h : ∀ i, i < N → F i = F (i + 1)) : F 0 = F N := by
  have : ∀ k, k ≤ N → F 0 = F k := by
    intro k
    induction k with
    | zero => intro _; rfl
    | succ k ih => intro hk; exact (ih (by omega)).trans (h k (by omega))
  exact this N (Nat.le_refl N)
/-- the chart of one move, drawn as far as state k -/
def chI (I : Nat → Nat → Int32) (i : Nat) (v : aMv) (k : Nat) : Nat → Nat → Int32 := fun q j => if q = 13 ∧ 54 * i ≤ j ∧ j < 54 * i + k then oI (ld v (j - 54 * i)) else I q j
theorem q_57 {x : Int32} : jev d 57 [.ref 7, .int x] (jmk I L c e) = some (some (.int (if 0 ≤ x ∧ x < I 7 6 then 1 else 0)), jmk I L c e) := by
  rw [jb_57_0]
  simp only [Bool.cond_decide]
  repeat' split
  all_goals simp_all [jlt_iff, jle_iff]
  all_goals omega
theorem q_57n {n i : Nat} (hn : n ≤ 12) (h : I 7 6 = nI n) (hi : i < n) : jev d 57 [.ref 7, .int (nI i)] (jmk I L c e) = some (some (.int 1), jmk I L c e) := by
  rw [q_57, if_pos]
  rw [h]
  exact ⟨nI_pos' (by omega), nI_lt hi (by omega)⟩
theorem q_59 {n : Nat} {v : Nat → aMv} (h : kitC0 n v I) {i : Nat} (hi : i < n) : jev d 59 [.ref 7, .int (nI i)] (jmk I L c e) = some (none, jmk (chI I i (v i) 54) L c e) := by
  have hn := h.1
  rw [jb_59_0, q_57n hn h.2.1 hi]
  simp only [Option.bind_some, jps]
  rw [jb_59_5, decide_eq_true (by decide), cond_true]
  have key : jat d 59 11 [.ref 7, .int (nI i), .int (nI 0)] [] (jmk (chI I i (v i) 0) L c e) = jat d 59 11 [.ref 7, .int (nI i), .int (nI 54)] [] (jmk (chI I i (v i) 54) L c e) := jloop (N := 54) (fun k => jat d 59 11 [.ref 7, .int (nI i), .int (nI k)] [] (jmk (chI I i (v i) k) L c e)) (fun k hk => by
    have h' : kitC0 n v (chI I i (v i) k) := by
      refine ⟨hn, h.2.1, fun j hj => ?_⟩
      obtain ⟨g0, g1, g2, g3, g4, g5⟩ := h.2.2 j hj
      exact ⟨g0, g1, g2, g3, g4, g5⟩
    show jat d 59 11 [.ref 7, .int (nI i), .int (nI k)] [] (jmk (chI I i (v i) k) L c e) = jat d 59 11 [.ref 7, .int (nI i), .int (nI (k + 1))] [] (jmk (chI I i (v i) (k + 1)) L c e)
    rw [jb_59_11, q_61 h' hi hk]
    rw [decide_eq_false (by rw [jI_lit, nI_leI (by omega) (by omega)]; omega), cond_false]
    simp only [Option.bind_some, jps]
    have e1 : nI i * 54 + nI k = nI (54 * i + k) := by rw [jI_lit, pk_mul, nI_add, Nat.mul_comm]
    rw [jb_59_33, e1, jdI (by omega), cond_true, jcl' (by omega), nI_1]
    congr 2
    funext q j
    unfold ju chI
    by_cases hq : q = 13
    · subst hq
      by_cases hj : j = 54 * i + k
      · subst hj
        rw [if_pos ⟨rfl, rfl⟩, if_pos ⟨rfl, by omega, by omega⟩]
        congr 2
        omega
      · rw [if_neg (fun q => hj q.2)]
        by_cases hr : 54 * i ≤ j ∧ j < 54 * i + k
        · rw [if_pos ⟨rfl, hr⟩, if_pos ⟨rfl, by omega⟩]
        · rw [if_neg (fun q => hr q.2), if_neg (fun q => hr ⟨q.2.1, by omega⟩)]
    · rw [if_neg (fun h => hq h.1), if_neg (fun h => hq h.1), if_neg (fun h => hq h.1)])
  have e0 : chI I i (v i) 0 = I := by
    funext q j
    unfold chI
    rw [if_neg (by omega)]
  rw [e0] at key
  show jat d 59 11 [.ref 7, .int (nI i), .int (nI 0)] [] (jmk I L c e) = _
  rw [key]
  rw [jb_59_11]
  rfl
end KIT
