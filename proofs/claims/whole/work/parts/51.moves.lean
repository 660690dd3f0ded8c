/-! moves from a row -/
/-- the five from place p on -/
abbrev rowV (r : Nat → Int64) (p : Nat) : aMv := mvN (r p).toInt32 (r (p + 1)).toInt32 (r (p + 2)).toInt32 (r (p + 3)).toInt32 (r (p + 4)).toInt32
abbrev rowI (r : Nat → Int64) (p : Nat) : Prop := mvI (r p).toInt32 (r (p + 1)).toInt32 (r (p + 2)).toInt32 (r (p + 3)).toInt32 (r (p + 4)).toInt32
abbrev rowC (l : Nat) (r : Nat → Int64) (i : Int32) (t n : Nat) : Prop := 0 ≤ i.toInt ∧ i.toInt + 5 * t + 5 ≤ (l : Int) ∧ n < 12 ∧ rowI r (i.toInt.toNat + 5 * t)
def rowMv (l : Nat) (r : Nat → Int64) (i : Int32) : Nat → Nat → Nat → (Nat → aMv) → Nat × Nat × (Nat → aMv)
  | 0, t, n, v => (t, n, v)
  | f + 1, t, n, v => if rowC l r i t n then rowMv l r i f (t + 1) (n + 1) (vup v n (rowV r (i.toInt.toNat + 5 * t))) else (t, n, v)
def opMoves (n : Nat) (v : Nat → aMv) (sh : Nat → aSh) (ro : Nat → Nat → Int64) (x i k : Int32) : Int32 × Nat × (Nat → aMv) := if jin x 6 ∧ 1 ≤ k.toInt ∧ k.toInt ≤ 12 then (if (sh x.toNatClampNeg).1 = 0 then (0, n, v) else if (sh x.toNatClampNeg).1 = 2 then (nI (rowMv (sh x.toNatClampNeg).2 (ro x.toNatClampNeg) i k.toInt.toNat 0 n v).1, (rowMv (sh x.toNatClampNeg).2 (ro x.toNatClampNeg) i k.toInt.toNat 0 n v).2) else (-12, n, v)) else (-1, n, v)
section MVS
variable {d : Nat} {I : Nat → Nat → Int32} {L : Nat → Nat → Int64} {c e : Nat} {x y z u w : Int32} {b n : Nat} {v : Nat → aMv} {sh : Nat → aSh} {ro : Nat → Nat → Int64}
theorem soC_b {u : aSh} (h : u.1 ≤ 6) : soC u = 0 ↔ u.1 = 2 := by
  have : ∀ t, t < 7 → (soC (t, 0) = 0 ↔ t = 2) := by decide
  exact this u.1 (by omega)
theorem soM_b {u : aSh} (h : u.1 ≤ 6) (h2 : u.1 = 1 → u.2 < 50) : soM u = 0 ↔ u.1 = 2 := by
  by_cases h1 : u.1 = 1
  · have h3 := h2 h1
    unfold soM
    rw [h1, if_neg (by decide), if_pos rfl, show (0 : Int32) = nI 0 from rfl, nI_eq (by omega) (by omega)]
    omega
  · have : ∀ t, t < 7 → t ≠ 1 → (soM (t, 0) = 0 ↔ t = 2) := by decide
    have h4 := this u.1 (by omega) h1
    unfold soM at h4 ⊢
    rw [if_neg h1] at h4 ⊢
    exact h4
theorem opRef_row {s p : Nat} (hs : s < 6) (h2 : 2 ≤ (sh s).1) (hp : p < (sh s).2) (hl : (sh s).2 ≤ 60) : opRef sh (nI s) (nI p) = 0 := by
  unfold opRef
  rw [if_pos (jin_nI hs (by decide)), jcl' (by omega), if_neg (by omega), if_neg (by omega), if_pos (jin_nI hp (by omega))]
/-- reading a row's element -/
theorem q_77r (hs : shC sh ro I L) (ho : shOk b sh) {s p : Nat} (h6 : s < 6) (h2 : 2 ≤ (sh s).1) (hp : p < (sh s).2) : jev d 77 [.ref 19, .int (nI s), .int (nI p)] (jmk I L c e) = some (some (.long (ro s p)), jmk I L c e) := by
  have hl := (ho.2 s h6).2.2 h2
  rw [q_77 hs ho, if_pos (opRef_row h6 h2 hp hl), jcl' (by omega), jcl' (by omega)]
/-- one move comes from a row, or none -/
theorem q_154 (hk : kitC n v I) (hs : shC sh ro I L) (ho : shOk b sh) {s : Nat} (h6 : s < 6) (h2 : (sh s).1 = 2) : (0 ≤ x.toInt ∧ x.toInt + 5 ≤ ((sh s).2 : Int) ∧ n < 12 ∧ rowI (ro s) x.toInt.toNat → ∃ I', jev d 154 [.ref 0, .int (nI s), .int x] (jmk I L c e) = some (some (.int 1), jmk I' L c e) ∧ kitC (n + 1) (vup v n (rowV (ro s) x.toInt.toNat)) I' ∧ ∀ q, (q < 7 ∨ 13 < q) → I' q = I q) ∧ (¬ (0 ≤ x.toInt ∧ x.toInt + 5 ≤ ((sh s).2 : Int) ∧ n < 12 ∧ rowI (ro s) x.toInt.toNat) → jev d 154 [.ref 0, .int (nI s), .int x] (jmk I L c e) = some (some (.int 0), jmk I L c e)) := by
  obtain ⟨g1, g2, g3⟩ := hs s h6
  have hl := (ho.2 s h6).2.2 (by omega)
  have hn := hk.1.1
  have e0 : (nI (sh s).2 - 5).toInt = ((sh s).2 : Int) - 5 := by
    have h5 : (5 : Int32).toInt = 5 := rfl
    rw [Int32.toInt_sub, h5, nI_toInt (by omega), Int.bmod_eq_of_le (by omega) (by omega)]
  rw [jb_154_0, jdI h6, cond_true, jcl' (by omega), g2 (by omega)]
  simp only [Bool.cond_decide, jlt_iff, jle_iff, Int32.reduceToInt]
  rw [e0]
  by_cases h0 : x.toInt < 0
  · rw [if_pos h0]
    exact ⟨fun q => absurd q.1 (by omega), fun _ => rfl⟩
  · rw [if_neg h0]
    by_cases h5 : x.toInt ≤ ((sh s).2 : Int) - 5
    · rw [if_pos h5]
      obtain ⟨p, hp, rfl⟩ := jn_le (l := 60) (x := x) (by omega) (by omega)
      have ep := nI_toInt (show p < 2 ^ 31 by omega)
      rw [ep] at h5 h0 ⊢
      rw [q_77r hs ho h6 (by omega) (show p < (sh s).2 by omega)]
      simp only [Option.bind_some, jps]
      have e1 : nI p + 1 = nI (p + 1) := nI_1 _
      have e2 : nI p + 2 = nI (p + 2) := by rw [jI_lit, nI_add]
      have e3 : nI p + 3 = nI (p + 3) := by rw [jI_lit, nI_add]
      have e4 : nI p + 4 = nI (p + 4) := by rw [jI_lit, nI_add]
      rw [jb_154_30, e1, q_77r hs ho h6 (by omega) (show p + 1 < (sh s).2 by omega)]
      simp only [Option.bind_some, jps]
      rw [jb_154_43, e2, q_77r hs ho h6 (by omega) (show p + 2 < (sh s).2 by omega)]
      simp only [Option.bind_some, jps]
      rw [jb_154_57, e3, q_77r hs ho h6 (by omega) (show p + 3 < (sh s).2 by omega)]
      simp only [Option.bind_some, jps]
      rw [jb_154_71, e4, q_77r hs ho h6 (by omega) (show p + 4 < (sh s).2 by omega)]
      simp only [Option.bind_some, jps]
      rw [jb_154_85, q_149]
      simp only [Option.bind_some, jps]
      rw [jb_154_100]
      simp only [Bool.cond_decide, j01, Int.toNat_natCast]
      by_cases hm : rowI (ro s) p
      · have hmm : ¬¬ rowI (ro s) p := fun q => q hm
        obtain ⟨I', f1, f2, f3⟩ := q_58 (d := d) (L := L) (c := c) (e := e) hk hm
        rw [if_neg hmm, f1]
        simp only [Option.bind_some, jps]
        rw [jb_154_119]
        unfold newMv at f2 ⊢
        by_cases h12 : n = 12
        · refine ⟨fun q => absurd q.2.2.1 (by omega), fun _ => ?_⟩
          subst h12
          have f4 : I' = I := by
            have f5 : some (some (Value.int (newMv 12 v (mvN (ro s p).toInt32 (ro s (p + 1)).toInt32 (ro s (p + 2)).toInt32 (ro s (p + 3)).toInt32 (ro s (p + 4)).toInt32)).1), jmk I L c e) = some (some (Value.int (newMv 12 v (mvN (ro s p).toInt32 (ro s (p + 1)).toInt32 (ro s (p + 2)).toInt32 (ro s (p + 3)).toInt32 (ro s (p + 4)).toInt32)).1), jmk I' L c e) := by
              rw [← f1]
              unfold newMv
              rw [if_pos rfl, jb_58_0, hk.1.2.1]
              rfl
            have f6 := congrArg (fun o : Option jX => match o with | some r => r.2.1 | none => I) f5
            exact f6.symm
          rw [f4, if_pos rfl]
          rfl
        · rw [if_neg h12]
          rw [if_neg h12] at f2
          refine ⟨fun _ => ⟨I', ?_, f2, f3⟩, fun q => absurd ⟨by omega, by omega, by omega, hm⟩ q⟩
          have : ¬ nI n < 0 := by
            rw [jlt_iff, nI_toInt (by omega)]
            simp only [Int32.reduceToInt]
            omega
          rw [decide_eq_false this, cond_false]
      · rw [if_pos hm]
        exact ⟨fun q => absurd q.2.2.2 hm, fun _ => rfl⟩
    · rw [if_neg h5]
      exact ⟨fun q => absurd q.2.1 (by omega), fun _ => rfl⟩
theorem q_97l (ho : shOk b sh) {s k : Nat} (h6 : s < 6) (h2 : (sh s).1 = 2) (hk12 : k ≤ 12) : ∀ f t n : Nat, ∀ v : Nat → aMv, ∀ I : Nat → Nat → Int32, t + f = k → (t = 0 ∨ (0 ≤ x.toInt ∧ x.toInt ≤ 60)) → kitC n v I → shC sh ro I L → ∃ I', jat d 97 54 [.ref 0, .int (nI s), .int x, .int (nI k), .int (nI t)] [] (jmk I L c e) = some (some (.int (nI (rowMv (sh s).2 (ro s) x f t n v).1)), jmk I' L c e) ∧ kitC (rowMv (sh s).2 (ro s) x f t n v).2.1 (rowMv (sh s).2 (ro s) x f t n v).2.2 I' ∧ ∀ q, (q < 7 ∨ 13 < q) → I' q = I q := by
  intro f
  induction f with
  | zero =>
    intro t n v I ht _ hk _
    refine ⟨I, ?_, hk, fun _ _ => rfl⟩
    rw [jb_97_54, decide_eq_true (by rw [nI_leI (by omega) (by omega)]; omega), cond_true]
    rfl
  | succ f ih =>
    intro t n v I ht hx hk hs
    have hl := (ho.2 s h6).2.2 (by omega)
    have e1 : (x + 5 * nI t).toInt = x.toInt + 5 * t := by
      have h5 : 5 * nI t = nI (5 * t) := by rw [jI_lit, pk_mul]
      rw [h5]
      rcases hx with rfl | hx
      · have : x + nI (5 * 0) = x := Int32.add_zero x
        rw [this]
        simp
      · rw [Int32.toInt_add, nI_toInt (by omega), Int.bmod_eq_of_le (by omega) (by omega)]
        omega
    have e2 : 0 ≤ x.toInt → (x.toInt + 5 * (t : Int)).toNat = x.toInt.toNat + 5 * t := by omega
    rw [jb_97_54, decide_eq_false (by rw [nI_leI (by omega) (by omega)]; omega), cond_false]
    obtain ⟨a1, a2⟩ := q_154 (d := d) (c := c) (e := e) (x := x + 5 * nI t) hk hs ho h6 h2
    rw [e1] at a1 a2
    unfold rowMv
    by_cases hc : rowC (sh s).2 (ro s) x t n
    · obtain ⟨b1, b2, b3, b4⟩ := id hc
      rw [if_pos hc]
      rw [e2 b1] at a1
      obtain ⟨I', f1, f2, f3⟩ := a1 ⟨by omega, by omega, b3, b4⟩
      rw [f1]
      simp only [Option.bind_some, jps]
      rw [jb_97_71, jt_2, cond_false, nI_1]
      have hs' : shC sh ro I' L := by
        intro i hi
        rw [f3 27 (by omega), f3 28 (by omega)]
        exact hs i hi
      obtain ⟨I2, r1, r2, r3⟩ := ih (t + 1) (n + 1) _ I' (by omega) (Or.inr (by omega)) f2 hs'
      exact ⟨I2, r1, r2, fun q hq => (r3 q hq).trans (f3 q hq)⟩
    · rw [if_neg hc]
      refine ⟨I, ?_, hk, fun _ _ => rfl⟩
      rw [a2 (fun q => hc (by
        rcases hx with rfl | hx
        · have q1 : 0 ≤ x.toInt := by omega
          rw [e2 q1] at q
          exact ⟨q1, q.2.1, q.2.2⟩
        · rw [e2 hx.1] at q
          exact ⟨hx.1, q.2.1, q.2.2⟩))]
      simp only [Option.bind_some, jps]
      rw [jb_97_71]
      rfl
theorem c_moves (hk : kitC n v I) (hs : shC sh ro I L) (ho : shOk b sh) : ∃ I', jev d 97 [.ref 0, .int x, .int y, .int z] (jmk I L c e) = some (some (.int (opMoves n v sh ro x y z).1), jmk I' L c e) ∧ kitC (opMoves n v sh ro x y z).2.1 (opMoves n v sh ro x y z).2.2 I' ∧ ∀ q, (q < 7 ∨ 13 < q) → I' q = I q := by
  unfold opMoves
  simp only [jb_97_0, q_68, Option.bind_some, jps, jb_97_8, q_69, jb_97_32, q_71, jb_97_45, Bool.cond_decide, j01]
  simp only [show z < 1 ↔ z.toInt < 1 from jlt_iff, show z ≤ 12 ↔ z.toInt ≤ 12 from jle_iff]
  by_cases hx : jin x 6
  · rw [if_neg (fun q => q hx)]
    by_cases hz : 1 ≤ z.toInt ∧ z.toInt ≤ 12
    · have hxz : jin x 6 ∧ 1 ≤ z.toInt ∧ z.toInt ≤ 12 := ⟨hx, hz⟩
      rw [if_neg (by omega), if_pos hz.2, if_pos hxz]
      obtain ⟨s, h6, rfl⟩ := (jin_iff (by omega)).mp hx
      obtain ⟨g1, g2, g3⟩ := hs s h6
      obtain ⟨k1, k2, k3⟩ := ho.2 s h6
      have c1 : (nI s).toNatClampNeg = s := jcl' (by omega)
      have a0 : (jin (nI s) 6 ∧ (sh s).1 = 0) ↔ (sh s).1 = 0 := ⟨fun q => q.2, fun q => ⟨hx, q⟩⟩
      have a2 : (jin (nI s) 6 ∧ (sh s).1 = 2) ↔ (sh s).1 = 2 := ⟨fun q => q.2, fun q => ⟨hx, q⟩⟩
      simp only [c1, g1, soC_0 k1, soC_b k1, a0, a2]
      by_cases h0 : (sh s).1 = 0
      · rw [if_neg (fun q => q h0), if_pos h0]
        exact ⟨I, rfl, hk, fun _ _ => rfl⟩
      · rw [if_pos h0, if_neg h0]
        by_cases h2 : (sh s).1 = 2
        · have h22 : ¬¬ (sh s).1 = 2 := fun q => q h2
          obtain ⟨k, hk12, rfl⟩ := jn_le (l := 12) (x := z) (by omega) (by omega)
          rw [if_pos h22, if_pos h2, nI_toInt (by omega), Int.toNat_natCast]
          exact q_97l ho h6 h2 hk12 k 0 n v I (by omega) (Or.inl rfl) hk hs
        · have h22 : ¬¬¬ (sh s).1 = 2 := fun q => q h2
          rw [if_neg h22, if_neg h2]
          exact ⟨I, rfl, hk, fun _ _ => rfl⟩
    · have hno : ¬ (jin x 6 ∧ 1 ≤ z.toInt ∧ z.toInt ≤ 12) := fun q => hz q.2
      rw [if_neg hno]
      refine ⟨I, ?_, hk, fun _ _ => rfl⟩
      by_cases h1 : z.toInt < 1
      · rw [if_pos h1]
      · rw [if_neg h1, if_neg (by omega)]
  · have hno : ¬ (jin x 6 ∧ 1 ≤ z.toInt ∧ z.toInt ≤ 12) := fun q => hx q.1
    rw [if_pos hx, if_neg hno]
    exact ⟨I, rfl, hk, fun _ _ => rfl⟩
theorem l64m {t : Nat} (ht : t < 100) : (x.toInt64 + 5 * (nI t).toInt64).toInt = x.toInt + 5 * t ∧ (x.toInt64 + 5 * (nI t).toInt64 + 5).toInt = x.toInt + 5 * t + 5 := by
  have h1 := x.toInt_lt
  have h2 := x.le_toInt
  have h5 : (5 : Int64).toInt = 5 := rfl
  have h3 : (5 * (nI t).toInt64).toInt = 5 * t := by
    rw [Int64.toInt_mul, h5, Int32.toInt_toInt64, nI_toInt (by omega), Int.bmod_eq_of_le (by omega) (by omega)]
  have h4 : (x.toInt64 + 5 * (nI t).toInt64).toInt = x.toInt + 5 * t := by
    rw [Int64.toInt_add, h3, Int32.toInt_toInt64, Int.bmod_eq_of_le (by omega) (by omega)]
  exact ⟨h4, by rw [Int64.toInt_add, h4, h5, Int.bmod_eq_of_le (by omega) (by omega)]⟩
theorem q_176l (ho : shOk b sh) {s k : Nat} (h6 : s < 6) (h2 : (sh s).1 = 2) (hk12 : k ≤ 12) : ∀ f t n : Nat, ∀ v : Nat → aMv, ∀ I : Nat → Nat → Int32, ∀ v6 v8 : Value, t + f = k → (t = 0 ∨ 0 ≤ x.toInt) → kitM n v I → shM sh ro I L → ∃ I', jat d 176 49 [.ref 58, .int (nI s), .int x, .int (nI k), .int (nI t), .int (nI t), v6, .null, v8] [] (jmk I L c e) = some (some (.int (nI (rowMv (sh s).2 (ro s) x f t n v).1)), jmk I' L c e) ∧ kitM (rowMv (sh s).2 (ro s) x f t n v).2.1 (rowMv (sh s).2 (ro s) x f t n v).2.2 I' ∧ ∀ q j, ¬ (q = 58 ∧ j = 0) → (q < 59 ∨ 63 < q) → I' q j = I q j := by
  intro f
  induction f with
  | zero =>
    intro t n v I v6 v8 ht _ hk _
    refine ⟨I, ?_, hk, fun _ _ _ _ => rfl⟩
    rw [jb_176_49, decide_eq_true (by rw [nI_leI (by omega) (by omega)]; omega), cond_true]
    rfl
  | succ f ih =>
    intro t n v I v6 v8 ht hx hk hs
    obtain ⟨g1, g2⟩ := hs s h6
    have hl := (ho.2 s h6).2.2 (by omega)
    obtain ⟨l1, l2⟩ := g2 (by omega)
    have hn := hk.1
    obtain ⟨m1, m2⟩ := l64m (x := x) (show t < 100 by omega)
    rw [jb_176_49, decide_eq_false (by rw [nI_leI (by omega) (by omega)]; omega), cond_false, jdI h6, cond_true, jcl' (by omega), l1, hk.2.1]
    simp only [Bool.cond_decide]
    have x1 : lg_cmp (x.toInt64 + 5 * (nI t).toInt64) 0 < 0 ↔ x.toInt + 5 * t < 0 := by
      rw [lg_cmp_lt, Int64.lt_iff_toInt_lt, m1]
      rfl
    have x2 : 0 < lg_cmp (x.toInt64 + 5 * (nI t).toInt64 + 5) (nI (sh s).2).toInt64 ↔ ((sh s).2 : Int) < x.toInt + 5 * t + 5 := by
      rw [lg_cmp_gt, Int64.lt_iff_toInt_lt, m2, Int32.toInt_toInt64, nI_toInt (by omega)]
    have x3 : nI n = 12 ↔ n = 12 := by rw [jI_lit, nI_eq (by omega) (by decide)]
    simp only [x1, x2, x3]
    unfold rowMv
    have stop : ∀ hc : ¬ rowC (sh s).2 (ro s) x t n, ∃ I', some (some (Value.int (nI t)), jmk I L c e) = some (some (.int (nI (if rowC (sh s).2 (ro s) x t n then rowMv (sh s).2 (ro s) x f (t + 1) (n + 1) (vup v n (rowV (ro s) (x.toInt.toNat + 5 * t))) else (t, n, v)).1)), jmk I' L c e) ∧ kitM (if rowC (sh s).2 (ro s) x t n then rowMv (sh s).2 (ro s) x f (t + 1) (n + 1) (vup v n (rowV (ro s) (x.toInt.toNat + 5 * t))) else (t, n, v)).2.1 (if rowC (sh s).2 (ro s) x t n then rowMv (sh s).2 (ro s) x f (t + 1) (n + 1) (vup v n (rowV (ro s) (x.toInt.toNat + 5 * t))) else (t, n, v)).2.2 I' ∧ ∀ q j, ¬ (q = 58 ∧ j = 0) → (q < 59 ∨ 63 < q) → I' q j = I q j := by
      intro hc
      rw [if_neg hc]
      exact ⟨I, rfl, hk, fun _ _ _ _ => rfl⟩
    by_cases a1 : x.toInt + 5 * t < 0
    · rw [if_pos a1]
      exact stop (fun q => by have := q.1; omega)
    · rw [if_neg a1]
      by_cases a2 : ((sh s).2 : Int) < x.toInt + 5 * t + 5
      · rw [if_pos a2]
        exact stop (fun q => by have := q.2.1; omega)
      · rw [if_neg a2]
        by_cases a3 : n = 12
        · rw [if_neg (fun q => q a3)]
          exact stop (fun q => by have := q.2.2.1; omega)
        · rw [if_pos a3]
          have hx0 : 0 ≤ x.toInt := by omega
          obtain ⟨p, hp⟩ : ∃ p, p = x.toInt.toNat + 5 * t := ⟨_, rfl⟩
          have hpl : p + 5 ≤ (sh s).2 := by omega
          have e32 : (x.toInt64 + 5 * (nI t).toInt64).toInt32 = nI p := by
            apply Int32.toInt_inj.mp
            rw [Int64.toInt_toInt32, m1, nI_toInt (by omega), Int.bmod_eq_of_le (by omega) (by omega)]
            omega
          have e60 : 60 * nI s + nI p = nI (60 * s + p) := by rw [jI_lit, pk_mul, nI_add]
          have e1 : nI (60 * s + p) + 1 = nI (60 * s + p + 1) := nI_1 _
          have e2 : nI (60 * s + p) + 2 = nI (60 * s + p + 2) := by rw [jI_lit, nI_add]
          have e3 : nI (60 * s + p) + 3 = nI (60 * s + p + 3) := by rw [jI_lit, nI_add]
          have e4 : nI (60 * s + p) + 4 = nI (60 * s + p + 4) := by rw [jI_lit, nI_add]
          have j0 : jin (nI (60 * s + p)) 360 := jin_nI (by omega) (by decide)
          have j1 : jin (nI (60 * s + p + 1)) 360 := jin_nI (by omega) (by decide)
          have j2 : jin (nI (60 * s + p + 2)) 360 := jin_nI (by omega) (by decide)
          have j3 : jin (nI (60 * s + p + 3)) 360 := jin_nI (by omega) (by decide)
          have j4 : jin (nI (60 * s + p + 4)) 360 := jin_nI (by omega) (by decide)
          have c0 : (nI (60 * s + p)).toNatClampNeg = 60 * s + p := jcl' (by omega)
          have c1 : (nI (60 * s + p + 1)).toNatClampNeg = 60 * s + p + 1 := jcl' (by omega)
          have c2 : (nI (60 * s + p + 2)).toNatClampNeg = 60 * s + p + 2 := jcl' (by omega)
          have c3 : (nI (60 * s + p + 3)).toNatClampNeg = 60 * s + p + 3 := jcl' (by omega)
          have c4 : (nI (60 * s + p + 4)).toNatClampNeg = 60 * s + p + 4 := jcl' (by omega)
          have r0 : L 87 (60 * s + p) = ro s p := l2 p (by omega)
          have r1 : L 87 (60 * s + p + 1) = ro s (p + 1) := by rw [Nat.add_assoc]; exact l2 _ (by omega)
          have r2 : L 87 (60 * s + p + 2) = ro s (p + 2) := by rw [Nat.add_assoc]; exact l2 _ (by omega)
          have r3 : L 87 (60 * s + p + 3) = ro s (p + 3) := by rw [Nat.add_assoc]; exact l2 _ (by omega)
          have r4 : L 87 (60 * s + p + 4) = ro s (p + 4) := by rw [Nat.add_assoc]; exact l2 _ (by omega)
          rw [e32, e60, e1, e2, if_pos j0, if_pos j1, if_pos j2, c0, c1, c2, r0, r1, r2, q_173]
          simp only [Option.bind_some, jps]
          rw [jb_176_144]
          simp only [Bool.cond_decide, j01]
          by_cases s1 : srI (ro s p).toInt32 (ro s (p + 1)).toInt32 (ro s (p + 2)).toInt32
          · have s11 : ¬¬ srI (ro s p).toInt32 (ro s (p + 1)).toInt32 (ro s (p + 2)).toInt32 := fun q => q s1
            rw [if_neg s11, e3, if_pos j3, c3, r3, q_163]
            simp only [Option.bind_some, jps]
            rw [jb_176_162]
            simp only [Bool.cond_decide, j01, Int32.reduceToInt]
            by_cases s2 : 0 ≤ (ro s (p + 3)).toInt32.toInt ∧ (ro s (p + 3)).toInt32.toInt ≤ 3
            · have s22 : ¬¬ (0 ≤ (ro s (p + 3)).toInt32.toInt ∧ (ro s (p + 3)).toInt32.toInt ≤ 3) := fun q => q s2
              rw [if_neg s22, e4, if_pos j4, c4, r4, q_163]
              simp only [Option.bind_some, jps]
              rw [jb_176_181]
              simp only [Bool.cond_decide, j01, Int32.reduceToInt]
              by_cases s3 : 0 ≤ (ro s (p + 4)).toInt32.toInt ∧ (ro s (p + 4)).toInt32.toInt ≤ 9
              · have s33 : ¬¬ (0 ≤ (ro s (p + 4)).toInt32.toInt ∧ (ro s (p + 4)).toInt32.toInt ≤ 9) := fun q => q s3
                have hr : rowI (ro s) p := by
                  obtain ⟨u1, u2, u3, u4, u5, u6, u7⟩ := s1
                  exact ⟨u1, u2, u3, u4, u5, u6, u7, s2.1, s2.2, s3.1, s3.2⟩
                have hc : rowC (sh s).2 (ro s) x t n := ⟨hx0, by omega, by omega, by rw [← hp]; exact hr⟩
                obtain ⟨I', f1, f2, f3⟩ := q_174 (d := d) (L := L) (c := c) (e := e) hk (by omega) hr
                rw [if_pos s33, e1, e2, e3, e4, if_pos j0, if_pos j1, if_pos j2, if_pos j3, if_pos j4, c0, c1, c2, c3, c4, r0, r1, r2, r3, r4, f1]
                simp only [Option.bind_some, jps]
                have hs' : shM sh ro I' L := by
                  intro i hi
                  rw [f3 85 _ (by omega) (by omega), f3 86 _ (by omega) (by omega)]
                  exact hs i hi
                obtain ⟨I2, b1, b2, b3⟩ := ih (t + 1) (n + 1) _ I' (.long (x.toInt64 + 5 * (nI t).toInt64)) (.int (nI (60 * s + p))) (by omega) (Or.inr hx0) f2 hs'
                rw [if_pos hc, ← hp]
                refine ⟨I2, ?_, b2, fun q j h1 h2 => (b3 q j h1 h2).trans (f3 q j h1 h2)⟩
                rw [jb_176_239, nI_1]
                exact b1
              · have s33 : ¬¬¬ (0 ≤ (ro s (p + 4)).toInt32.toInt ∧ (ro s (p + 4)).toInt32.toInt ≤ 9) := fun q => q s3
                rw [if_neg s33]
                exact stop (fun q => by
                  have q4 := q.2.2.2
                  rw [← hp] at q4
                  obtain ⟨-, -, -, -, -, -, -, -, -, u1, u2⟩ := q4
                  exact s3 ⟨u1, u2⟩)
            · rw [if_pos s2]
              exact stop (fun q => by
                have q4 := q.2.2.2
                rw [← hp] at q4
                obtain ⟨-, -, -, -, -, -, -, u1, u2, -, -⟩ := q4
                exact s2 ⟨u1, u2⟩)
          · rw [if_pos s1]
            exact stop (fun q => by
              have q4 := q.2.2.2
              rw [← hp] at q4
              obtain ⟨u1, u2, u3, u4, u5, u6, u7, -, -, -, -⟩ := q4
              exact s1 ⟨u1, u2, u3, u4, u5, u6, u7⟩)
theorem m_moves (hk : kitM n v I) (hs : shM sh ro I L) (ho : shOk b sh) : ∃ I', jev d 176 [.ref 58, .int x, .int y, .int z] (jmk I L c e) = some (some (.int (opMoves n v sh ro x y z).1), jmk I' L c e) ∧ kitM (opMoves n v sh ro x y z).2.1 (opMoves n v sh ro x y z).2.2 I' ∧ ∀ q j, ¬ (q = 58 ∧ j = 0) → (q < 59 ∨ 63 < q) → I' q j = I q j := by
  unfold opMoves
  simp only [jb_176_0, q_169, Option.bind_some, jps, jb_176_4, q_163, jb_176_14, Bool.cond_decide, j01, Int32.reduceToInt]
  by_cases hx : jin x 6
  · rw [if_neg (fun q => q hx)]
    by_cases hz : 1 ≤ z.toInt ∧ z.toInt ≤ 12
    · have hxz : jin x 6 ∧ 1 ≤ z.toInt ∧ z.toInt ≤ 12 := ⟨hx, hz⟩
      have hzz : ¬¬ (1 ≤ z.toInt ∧ z.toInt ≤ 12) := fun q => q hz
      rw [if_pos hzz, if_pos hxz, if_pos hx]
      obtain ⟨s, h6, rfl⟩ := (jin_iff (by omega)).mp hx
      obtain ⟨g1, g2⟩ := hs s h6
      obtain ⟨k1, k2, k3⟩ := ho.2 s h6
      have k0 := ho.1
      have c1 : (nI s).toNatClampNeg = s := jcl' (by omega)
      have z1 := (soM_0 k1 (fun h => by have := k2 h; omega)).1
      have z2 := soM_b k1 (fun h => by have := k2 h; omega)
      simp only [c1, g1, z1, z2]
      by_cases h0 : (sh s).1 = 0
      · rw [if_neg (fun q => q h0), if_pos h0]
        exact ⟨I, rfl, hk, fun _ _ _ _ => rfl⟩
      · rw [if_pos h0, if_neg h0, if_pos hx]
        by_cases h2 : (sh s).1 = 2
        · obtain ⟨k, hk12, rfl⟩ := jn_le (l := 12) (x := z) (by omega) (by omega)
          rw [if_pos h2, if_pos h2, nI_toInt (by omega), Int.toNat_natCast]
          exact q_176l ho h6 h2 hk12 k 0 n v I _ _ (by omega) (Or.inl rfl) hk hs
        · rw [if_neg h2, if_neg h2]
          exact ⟨I, rfl, hk, fun _ _ _ _ => rfl⟩
    · have hno : ¬ (jin x 6 ∧ 1 ≤ z.toInt ∧ z.toInt ≤ 12) := fun q => hz q.2
      have hzz : ¬¬¬ (1 ≤ z.toInt ∧ z.toInt ≤ 12) := fun q => q hz
      rw [if_neg hzz, if_neg hno]
      exact ⟨I, rfl, hk, fun _ _ _ _ => rfl⟩
  · have hno : ¬ (jin x 6 ∧ 1 ≤ z.toInt ∧ z.toInt ≤ 12) := fun q => hx q.1
    rw [if_pos hx, if_neg hno]
    exact ⟨I, rfl, hk, fun _ _ _ _ => rfl⟩
end MVS
