/-! shift -/
/-- row i's n from p on come to row o from q on -/
def roS (ro : Nat → Nat → Int64) (i o p q n : Nat) : Nat → Nat → Int64 := fun a j => if a = o ∧ q ≤ j ∧ j < q + n then ro i (p + (j - q)) else ro a j
abbrev spI (l : Nat) (x n : Int32) : Prop := 0 ≤ x.toInt ∧ 0 ≤ n.toInt ∧ x.toInt + n.toInt ≤ (l : Int)
def opShR (sh : Nat → aSh) (x i y j n : Int32) : Int32 := if jin x 6 ∧ jin y 6 then (if (sh x.toNatClampNeg).1 = 0 ∨ (sh y.toNatClampNeg).1 = 0 then -11 else if (sh x.toNatClampNeg).1 = 1 ∨ (sh y.toNatClampNeg).1 = 1 ∨ (sh x.toNatClampNeg).1 ≠ (sh y.toNatClampNeg).1 then -12 else if spI (sh x.toNatClampNeg).2 i n ∧ spI (sh y.toNatClampNeg).2 j n then 0 else -13) else -1
def opShift (sh : Nat → aSh) (ro : Nat → Nat → Int64) (x i y j n : Int32) : Int32 × (Nat → Nat → Int64) := if opShR sh x i y j n = 0 then (n, roS ro x.toNatClampNeg y.toNatClampNeg i.toNatClampNeg j.toNatClampNeg n.toNatClampNeg) else (opShR sh x i y j n, ro)
section SHI
variable {d : Nat} {I : Nat → Nat → Int32} {L : Nat → Nat → Int64} {c e : Nat} {x y z u w : Int32} {b : Nat} {sh : Nat → aSh} {ro : Nat → Nat → Int64}
theorem jn_le {l : Nat} (h0 : 0 ≤ x.toInt) (h1 : x.toInt ≤ (l : Int)) : ∃ p, p ≤ l ∧ x = nI p := ⟨x.toInt.toNat, by omega, jnat h0⟩
theorem l64 : (x.toInt64 + y.toInt64).toInt = x.toInt + y.toInt := by
  have h1 := x.toInt_lt
  have h2 := x.le_toInt
  have h3 := y.toInt_lt
  have h4 := y.le_toInt
  rw [Int64.toInt_add, Int32.toInt_toInt64, Int32.toInt_toInt64, Int.bmod_eq_of_le (by omega) (by omega)]
theorem q_75 {i l : Nat} (hi : i < 6) (hl : l ≤ 60) (h : I 27 i = nI l) : jev d 75 [.ref 19, .int (nI i), .int u, .int w] (jmk I L c e) = some (some (.int (if spI l u w then 1 else 0)), jmk I L c e) := by
  rw [jb_75_0, jdI hi, cond_true, jcl' (by omega), h, cond_true]
  simp only [Bool.cond_decide, jlt_iff, Int32.reduceToInt]
  rw [nI_toInt (by omega)]
  by_cases h1 : u.toInt < 0
  · rw [if_pos h1, if_neg (by omega)]
  · rw [if_neg h1]
    by_cases h2 : w.toInt < 0
    · rw [if_pos h2, if_neg (by omega)]
    · rw [if_neg h2]
      by_cases h3 : (l : Int) < w.toInt
      · rw [if_pos h3, if_neg (by omega)]
      · have e1 : (nI l - w).toInt = (l : Int) - w.toInt := by
          rw [Int32.toInt_sub, nI_toInt (by omega), Int.bmod_eq_of_le (by omega) (by omega)]
        rw [if_neg h3, e1]
        by_cases h4 : (l : Int) - w.toInt < u.toInt
        · rw [if_pos h4, if_neg (by omega)]
        · rw [if_neg h4, if_pos (by omega)]
theorem q_74 (hs : shC sh ro I L) (ho : shOk b sh) : jev d 74 [.ref 19, .int x, .int u, .int y, .int w, .int z] (jmk I L c e) = some (some (.int (opShR sh x u y w z)), jmk I L c e) := by
  unfold opShR
  simp only [jb_74_0, q_68, Option.bind_some, jps, jb_74_5, jb_74_13, q_69, jb_74_23, jb_74_31, q_70, jb_74_42, jb_74_50, Bool.cond_decide, j01, Decidable.not_not]
  by_cases hx : jin x 6
  · rw [if_neg (fun q => q hx)]
    by_cases hy : jin y 6
    · have hxy : jin x 6 ∧ jin y 6 := ⟨hx, hy⟩
      rw [if_pos hy, if_pos hxy]
      obtain ⟨i, hi, rfl⟩ := (jin_iff (by omega)).mp hx
      obtain ⟨o, ho', rfl⟩ := (jin_iff (by omega)).mp hy
      obtain ⟨g1, g2, g3⟩ := hs i hi
      obtain ⟨k1, k2, k3⟩ := ho.2 i hi
      obtain ⟨g1', g2', g3'⟩ := hs o ho'
      obtain ⟨k1', k2', k3'⟩ := ho.2 o ho'
      have c1 : (nI i).toNatClampNeg = i := jcl' (by omega)
      have c2 : (nI o).toNatClampNeg = o := jcl' (by omega)
      have a0 : (jin (nI i) 6 ∧ (sh i).1 = 0) ↔ (sh i).1 = 0 := ⟨fun q => q.2, fun q => ⟨hx, q⟩⟩
      have a1 : (jin (nI i) 6 ∧ (sh i).1 = 1) ↔ (sh i).1 = 1 := ⟨fun q => q.2, fun q => ⟨hx, q⟩⟩
      have b0 : (jin (nI o) 6 ∧ (sh o).1 = 0) ↔ (sh o).1 = 0 := ⟨fun q => q.2, fun q => ⟨hy, q⟩⟩
      have b1 : (jin (nI o) 6 ∧ (sh o).1 = 1) ↔ (sh o).1 = 1 := ⟨fun q => q.2, fun q => ⟨hy, q⟩⟩
      simp only [c1, c2, g1, g1', soC_0 k1, soC_0 k1', soC_1 k1, soC_1 k1', a0, a1, b0, b1]
      by_cases h0 : (sh i).1 = 0
      · rw [if_pos h0, if_pos (Or.inl h0)]
      · rw [if_neg h0]
        by_cases h0' : (sh o).1 = 0
        · rw [if_neg (fun q => q h0'), if_pos (Or.inr h0')]
        · have n0 : ¬ ((sh i).1 = 0 ∨ (sh o).1 = 0) := by omega
          rw [if_pos h0', if_neg n0]
          by_cases h1 : (sh i).1 = 1
          · rw [if_pos h1, if_pos (Or.inl h1)]
          · rw [if_neg h1]
            by_cases h1' : (sh o).1 = 1
            · rw [if_pos h1', if_pos (Or.inr (Or.inl h1'))]
            · have e1 : soC (sh i) = soC (sh o) ↔ (sh i).1 = (sh o).1 := by
                have : ∀ s, s < 7 → ∀ t, t < 7 → (soC (s, 0) = soC (t, 0) ↔ s = t) := by decide
                exact this (sh i).1 (by omega) (sh o).1 (by omega)
              have l1 := k3 (by omega)
              have l2 := k3' (by omega)
              rw [if_neg h1', if_pos hx, if_pos hy]
              simp only [e1]
              by_cases hne : (sh i).1 = (sh o).1
              · have n1 : ¬ ((sh i).1 = 1 ∨ (sh o).1 = 1 ∨ (sh i).1 ≠ (sh o).1) := by omega
                rw [if_pos hne, if_neg n1, q_75 hi l1 (g2 (by omega))]
                simp only [Option.bind_some, jps]
                rw [jb_74_79, q_75 ho' l2 (g2' (by omega))]
                simp only [Option.bind_some, jps, Bool.cond_decide, j01]
                rw [jb_74_91]
                simp only [Bool.cond_decide, j01]
                clear g1 g2 g3 k1 k2 k3 g1' g2' g3' k1' k2' k3' hs ho
                by_cases s1 : spI (sh i).2 u z
                · have s11 : ¬¬ spI (sh i).2 u z := fun q => q s1
                  rw [if_neg s11]
                  by_cases s2 : spI (sh o).2 w z
                  · have s22 : ¬¬ spI (sh o).2 w z := fun q => q s2
                    have s12 : spI (sh i).2 u z ∧ spI (sh o).2 w z := ⟨s1, s2⟩
                    rw [if_neg s22, if_pos s12]
                  · have s12 : ¬ (spI (sh i).2 u z ∧ spI (sh o).2 w z) := fun q => s2 q.2
                    rw [if_pos s2, if_neg s12]
                · have s12 : ¬ (spI (sh i).2 u z ∧ spI (sh o).2 w z) := fun q => s1 q.1
                  rw [if_pos s1, if_neg s12]
              · have n1 : (sh i).1 = 1 ∨ (sh o).1 = 1 ∨ (sh i).1 ≠ (sh o).1 := Or.inr (Or.inr hne)
                rw [if_neg hne, if_pos n1]
    · have hno : ¬ (jin x 6 ∧ jin y 6) := fun q => hy q.2
      rw [if_neg hy, if_neg hno]
  · have hno : ¬ (jin x 6 ∧ jin y 6) := fun q => hx q.1
    rw [if_pos hx, if_neg hno]
theorem shr_0 (h : opShR sh x u y w z = 0) : ∃ i o, i < 6 ∧ o < 6 ∧ x = nI i ∧ y = nI o ∧ 2 ≤ (sh i).1 ∧ 2 ≤ (sh o).1 ∧ (sh i).1 = (sh o).1 ∧ spI (sh i).2 u z ∧ spI (sh o).2 w z := by
  unfold opShR at h
  by_cases hxy : jin x 6 ∧ jin y 6
  · obtain ⟨i, hi, rfl⟩ := (jin_iff (by omega)).mp hxy.1
    obtain ⟨o, ho, rfl⟩ := (jin_iff (by omega)).mp hxy.2
    rw [if_pos hxy, jcl' (by omega), jcl' (by omega)] at h
    by_cases n0 : (sh i).1 = 0 ∨ (sh o).1 = 0
    · rw [if_pos n0] at h
      exact absurd h (by decide)
    · rw [if_neg n0] at h
      by_cases n1 : (sh i).1 = 1 ∨ (sh o).1 = 1 ∨ (sh i).1 ≠ (sh o).1
      · rw [if_pos n1] at h
        exact absurd h (by decide)
      · rw [if_neg n1] at h
        by_cases s : spI (sh i).2 u z ∧ spI (sh o).2 w z
        · exact ⟨i, o, hi, ho, rfl, rfl, by omega, by omega, by omega, s.1, s.2⟩
        · rw [if_neg s] at h
          exact absurd h (by decide)
  · rw [if_neg hxy] at h
    exact absurd h (by decide)
theorem c_shift (hs : shC sh ro I L) (ho : shOk b sh) : ∃ L', jev d 138 [.ref 0, .int x, .int u, .int y, .int w, .int z] (jmk I L c e) = some (some (.int (opShift sh ro x u y w z).1), jmk I L' c e) ∧ shC sh (opShift sh ro x u y w z).2 I L' ∧ ∀ q j, (q < 21 ∨ 26 < q) → L' q j = L q j := by
  unfold opShift
  rw [jb_138_0, q_74 hs ho]
  simp only [Option.bind_some, jps]
  rw [jb_138_14]
  simp only [Bool.cond_decide]
  by_cases h : opShR sh x u y w z = 0
  · rw [if_pos h, if_pos h]
    obtain ⟨i, o, hi, ho', rfl, rfl, t1, t2, t3, s1, s2⟩ := shr_0 h
    have l1 := (ho.2 i hi).2.2 t1
    have l2 := (ho.2 o ho').2.2 t2
    have c1 : (nI i).toNatClampNeg = i := jcl' (by omega)
    have c2 : (nI o).toNatClampNeg = o := jcl' (by omega)
    have a0 : 0 ≤ u.toInt ∧ 0 ≤ w.toInt ∧ 0 ≤ z.toInt ∧ u.toInt + z.toInt ≤ 60 ∧ w.toInt + z.toInt ≤ 60 := by omega
    rw [c1, c2, u32 hi, u32 ho', if_pos (jin_nI hi (by decide)), if_pos (jin_nI ho' (by decide)), decide_eq_true a0, decide_eq_true hi, decide_eq_true ho']
    obtain ⟨p, hp, rfl⟩ := jn_le (l := 60) s1.1 (by omega)
    obtain ⟨q, hq, rfl⟩ := jn_le (l := 60) s2.1 (by omega)
    obtain ⟨n, hn, rfl⟩ := jn_le (l := 60) s1.2.1 (by omega)
    have c3 : (nI p).toNatClampNeg = p := jcl' (by omega)
    have c4 : (nI q).toNatClampNeg = q := jcl' (by omega)
    have c5 : (nI n).toNatClampNeg = n := jcl' (by omega)
    have f3 := nI_toInt (show p < 2 ^ 31 by omega)
    have f4 := nI_toInt (show q < 2 ^ 31 by omega)
    have f5 := nI_toInt (show n < 2 ^ 31 by omega)
    refine ⟨_, rfl, fun a ha => ?_, fun q j hq => ?_⟩
    · obtain ⟨g1, g2, g3⟩ := hs a ha
      obtain ⟨-, -, g6⟩ := hs i hi
      refine ⟨g1, g2, fun h2 j hj => ?_⟩
      rw [c3, c4, c5]
      have v1 := g3 h2 j hj
      by_cases hc : a = o ∧ q ≤ j ∧ j < q + n
      · have hc2 : 21 + a = 21 + o ∧ q ≤ j ∧ j < q + n := ⟨by omega, hc.2⟩
        rw [jcp_get, if_pos hc2]
        show _ = roS ro i o p q n a j
        unfold roS
        rw [if_pos hc]
        exact g6 t1 _ (by omega)
      · have hc2 : ¬ (21 + a = 21 + o ∧ q ≤ j ∧ j < q + n) := fun k => hc ⟨by omega, k.2⟩
        rw [jcp_get, if_neg hc2]
        show _ = roS ro i o p q n a j
        unfold roS
        rw [if_neg hc]
        exact v1
    · rw [jcp_get, if_neg (by omega)]
  · rw [if_neg h, if_neg h]
    exact ⟨L, rfl, hs, fun _ _ _ => rfl⟩
theorem jcp_self {s t n j : Nat} (h : t ≤ s ∨ s + n ≤ t ∨ t + n ≤ s) {k : Nat} (hk : k < n) : jcp L 87 87 s t k 87 (s + k) = L 87 (s + k) := by
  rw [jcp_get, if_neg (by omega)]
theorem jcp_1 {s t k : Nat} : ju (jcp L 87 87 s t k) 87 (t + k) (L 87 (s + k)) = jcp L 87 87 s t (k + 1) := by
  funext a j
  rw [ju_get, jcp_get, jcp_get]
  by_cases ha : a = 87
  · by_cases hj : j = t + k
    · have h1 : a = 87 ∧ j = t + k := ⟨ha, hj⟩
      have h2 : a = 87 ∧ t ≤ j ∧ j < t + (k + 1) := ⟨ha, by omega, by omega⟩
      rw [if_pos h1, if_pos h2, hj, Nat.add_sub_cancel_left]
    · have h1 : ¬ (a = 87 ∧ j = t + k) := fun q => hj q.2
      rw [if_neg h1]
      by_cases hr : t ≤ j ∧ j < t + k
      · have h2 : a = 87 ∧ t ≤ j ∧ j < t + k := ⟨ha, hr⟩
        have h3 : a = 87 ∧ t ≤ j ∧ j < t + (k + 1) := ⟨ha, by omega, by omega⟩
        rw [if_pos h2, if_pos h3]
      · have h2 : ¬ (a = 87 ∧ t ≤ j ∧ j < t + k) := fun q => hr q.2
        have h3 : ¬ (a = 87 ∧ t ≤ j ∧ j < t + (k + 1)) := fun q => hr ⟨q.2.1, by omega⟩
        rw [if_neg h2, if_neg h3]
  · rw [if_neg (fun q => ha q.1), if_neg (fun q => ha q.1), if_neg (fun q => ha q.1)]
theorem jcp_d {s t k r : Nat} (hst : s ≤ t) : ju (jcp L 87 87 (s + (k + 1)) (t + (k + 1)) r) 87 (t + k) (jcp L 87 87 (s + (k + 1)) (t + (k + 1)) r 87 (s + k)) = jcp L 87 87 (s + k) (t + k) (r + 1) := by
  funext a j
  rw [ju_get, jcp_get, jcp_get, jcp_get]
  have h0 : ¬ (87 = 87 ∧ t + (k + 1) ≤ s + k ∧ s + k < t + (k + 1) + r) := by omega
  rw [if_neg h0]
  by_cases ha : a = 87
  · by_cases hj : j = t + k
    · have h1 : a = 87 ∧ j = t + k := ⟨ha, hj⟩
      have h2 : a = 87 ∧ t + k ≤ j ∧ j < t + k + (r + 1) := ⟨ha, by omega, by omega⟩
      rw [if_pos h1, if_pos h2, hj, Nat.sub_self]
      rfl
    · have h1 : ¬ (a = 87 ∧ j = t + k) := fun q => hj q.2
      rw [if_neg h1]
      by_cases hr : t + (k + 1) ≤ j ∧ j < t + (k + 1) + r
      · have h2 : a = 87 ∧ t + (k + 1) ≤ j ∧ j < t + (k + 1) + r := ⟨ha, hr⟩
        have h3 : a = 87 ∧ t + k ≤ j ∧ j < t + k + (r + 1) := ⟨ha, by omega, by omega⟩
        rw [if_pos h2, if_pos h3]
        congr 1
        omega
      · have h2 : ¬ (a = 87 ∧ t + (k + 1) ≤ j ∧ j < t + (k + 1) + r) := fun q => hr q.2
        have h3 : ¬ (a = 87 ∧ t + k ≤ j ∧ j < t + k + (r + 1)) := fun q => hr ⟨by omega, by omega⟩
        rw [if_neg h2, if_neg h3]
  · rw [if_neg (fun q => ha q.1), if_neg (fun q => ha q.1), if_neg (fun q => ha q.1)]
theorem jcp_0 {s t : Nat} : jcp L 87 87 s t 0 = L := by
  funext a j
  rw [jcp_get, if_neg (by omega)]
theorem q_260u {i o p q n : Nat} (hi : i < 6) (ho : o < 6) (hp : p + n ≤ 60) (hq : q + n ≤ 60) (h : i ≠ o ∨ q ≤ p) : jat d 260 188 [.ref 58, .int (nI i), .int (nI p), .int (nI o), .int (nI q), .int (nI n), .int 0] [] (jmk I L c e) = some (some (.int (nI n)), jmk I (jcp L 87 87 (60 * i + p) (60 * o + q) n) c e) := by
  have key := jloop (N := n) (fun k => jat d 260 188 [.ref 58, .int (nI i), .int (nI p), .int (nI o), .int (nI q), .int (nI n), .int (nI k)] [] (jmk I (jcp L 87 87 (60 * i + p) (60 * o + q) k) c e)) (fun k hk => by
    show jat d 260 188 [.ref 58, .int (nI i), .int (nI p), .int (nI o), .int (nI q), .int (nI n), .int (nI k)] [] (jmk I (jcp L 87 87 (60 * i + p) (60 * o + q) k) c e) = jat d 260 188 [.ref 58, .int (nI i), .int (nI p), .int (nI o), .int (nI q), .int (nI n), .int (nI (k + 1))] [] (jmk I (jcp L 87 87 (60 * i + p) (60 * o + q) (k + 1)) c e)
    have e1 : 60 * nI i + nI p + nI k = nI (60 * i + p + k) := by rw [jI_lit, pk_mul, nI_add, nI_add]
    have e2 : 60 * nI o + nI q + nI k = nI (60 * o + q + k) := by rw [jI_lit, pk_mul, nI_add, nI_add]
    rw [jb_260_188, decide_eq_false (by rw [nI_leI (by omega) (by omega)]; omega), cond_false, e1, e2, jdI (by omega), jdI (by omega), cond_true, cond_true, jcl' (by omega), jcl' (by omega), nI_1, jcp_self (n := n) (j := 0) (by omega) hk, jcp_1])
  simp only [jcp_0] at key
  rw [show (0 : Int32) = nI 0 from rfl, key, jb_260_188, decide_eq_true (by rw [nI_leI (by omega) (by omega)]; omega), cond_true]
theorem q_260d {i p q n : Nat} (hi : i < 6) (hp : p + n ≤ 60) (hq : q + n ≤ 60) (h : p ≤ q) : ∀ k r, k + r = n → jat d 260 142 [.ref 58, .int (nI i), .int (nI p), .int (nI i), .int (nI q), .int (nI n), .int (nI k - 1)] [] (jmk I (jcp L 87 87 (60 * i + p + k) (60 * i + q + k) r) c e) = some (some (.int (nI n)), jmk I (jcp L 87 87 (60 * i + p) (60 * i + q) n) c e) := by
  intro k
  induction k with
  | zero =>
    intro r hr
    have hr : r = n := by omega
    subst hr
    rw [jb_260_142, show decide (nI 0 - 1 < 0) = true from rfl, cond_true]
    rfl
  | succ k ih =>
    intro r hr
    have e0 : nI (k + 1) - 1 = nI k := nI_sub (j := 1) (by omega) (by omega)
    have e1 : 60 * nI i + nI p + nI k = nI (60 * i + p + k) := by rw [jI_lit, pk_mul, nI_add, nI_add]
    have e2 : 60 * nI i + nI q + nI k = nI (60 * i + q + k) := by rw [jI_lit, pk_mul, nI_add, nI_add]
    have e3 : ¬ nI k < 0 := by
      rw [jlt_iff, nI_toInt (by omega)]
      simp only [Int32.reduceToInt]
      omega
    rw [e0, jb_260_142, decide_eq_false e3, cond_false, e1, e2, jdI (by omega), jdI (by omega), cond_true, cond_true, jcl' (by omega), jcl' (by omega), ← Int32.sub_eq_add_neg, jcp_d (by omega)]
    exact ih (r + 1) (by omega)
theorem m_shift (hs : shM sh ro I L) (ho : shOk b sh) : ∃ L', jev d 260 [.ref 58, .int x, .int u, .int y, .int w, .int z] (jmk I L c e) = some (some (.int (opShift sh ro x u y w z).1), jmk I L' c e) ∧ shM sh (opShift sh ro x u y w z).2 I L' ∧ ∀ q j, q ≠ 87 → L' q j = L q j := by
  unfold opShift opShR
  simp only [jb_260_0, q_169, Option.bind_some, jps, jb_260_4, jb_260_11, Bool.cond_decide, j01]
  by_cases hx : jin x 6
  · rw [if_neg (fun q => q hx)]
    by_cases hy : jin y 6
    · have hyy : ¬¬ jin y 6 := fun q => q hy
      have hxy : jin x 6 ∧ jin y 6 := ⟨hx, hy⟩
      rw [if_pos hyy, if_pos hxy, if_pos hx, if_pos hy]
      obtain ⟨i, hi, rfl⟩ := (jin_iff (by omega)).mp hx
      obtain ⟨o, ho', rfl⟩ := (jin_iff (by omega)).mp hy
      obtain ⟨g1, g2⟩ := hs i hi
      obtain ⟨k1, k2, k3⟩ := ho.2 i hi
      obtain ⟨g1', g2'⟩ := hs o ho'
      obtain ⟨k1', k2', k3'⟩ := ho.2 o ho'
      have k0 := ho.1
      have c1 : (nI i).toNatClampNeg = i := jcl' (by omega)
      have c2 : (nI o).toNatClampNeg = o := jcl' (by omega)
      have z1 := (soM_0 k1 (fun h => by have := k2 h; omega)).1
      have z2 := (soM_0 k1' (fun h => by have := k2' h; omega)).1
      have hsame : ∀ a : Int32, a ≠ 0 → ∃ L', some (some (Value.int a), jmk I L c e) = some (some (.int (if a = 0 then (z, roS ro i o u.toNatClampNeg w.toNatClampNeg z.toNatClampNeg) else (a, ro)).1), jmk I L' c e) ∧ shM sh (if a = 0 then (z, roS ro i o u.toNatClampNeg w.toNatClampNeg z.toNatClampNeg) else (a, ro)).2 I L' ∧ ∀ q j, q ≠ 87 → L' q j = L q j := by
        intro a ha
        rw [if_neg ha]
        exact ⟨L, rfl, hs, fun _ _ _ => rfl⟩
      simp only [c1, c2, g1, g1', z1, z2]
      by_cases h0 : (sh i).1 = 0
      · rw [if_pos h0, if_pos (Or.inl h0)]
        exact hsame _ (by decide)
      · by_cases h0' : (sh o).1 = 0
        · rw [if_neg h0, if_neg (fun q => q h0'), if_pos (Or.inr h0')]
          exact hsame _ (by decide)
        · have n0 : ¬ ((sh i).1 = 0 ∨ (sh o).1 = 0) := by omega
          rw [if_neg h0, if_pos h0', if_neg n0, q_256 hs ho hi]
          simp only [Option.bind_some, jps]
          rw [jb_260_44, q_256 hs ho ho']
          simp only [Option.bind_some, jps, Bool.cond_decide, j01]
          rw [jb_260_52]
          simp only [Bool.cond_decide, j01, c1, c2, g1, g1']
          by_cases h1 : (sh i).1 = 1
          · rw [if_pos (show ¬ 2 ≤ (sh i).1 by omega), if_pos (Or.inl h1)]
            exact hsame _ (by decide)
          · rw [if_neg (show ¬¬ 2 ≤ (sh i).1 by omega)]
            by_cases h1' : (sh o).1 = 1
            · rw [if_pos (show ¬ 2 ≤ (sh o).1 by omega), if_pos (Or.inr (Or.inl h1'))]
              exact hsame _ (by decide)
            · rw [if_neg (show ¬¬ 2 ≤ (sh o).1 by omega), if_pos hx, if_pos hy]
              have m1 : soM (sh i) = nI ((sh i).1 - 2) := soM_2 (by omega)
              have m2 : soM (sh o) = nI ((sh o).1 - 2) := soM_2 (by omega)
              have e1 : nI ((sh i).1 - 2) = nI ((sh o).1 - 2) ↔ (sh i).1 = (sh o).1 := by
                rw [nI_eq (by omega) (by omega)]
                omega
              simp only [m1, m2, e1]
              by_cases hne : (sh i).1 = (sh o).1
              · have n1 : ¬ ((sh i).1 = 1 ∨ (sh o).1 = 1 ∨ (sh i).1 ≠ (sh o).1) := by omega
                have l1 := k3 (by omega)
                have l2 := k3' (by omega)
                have a1 := (g2 (by omega)).1
                have a2 := (g2' (by omega)).1
                rw [if_pos hne, if_neg n1]
                have x1 : 0 < lg_cmp (u.toInt64 + z.toInt64) (I 86 i).toInt64 ↔ ((sh i).2 : Int) < u.toInt + z.toInt := by
                  rw [lg_cmp_gt, Int64.lt_iff_toInt_lt, l64, Int32.toInt_toInt64, a1, nI_toInt (by omega)]
                have x2 : lg_cmp (w.toInt64 + z.toInt64) (I 86 o).toInt64 ≤ 0 ↔ w.toInt + z.toInt ≤ ((sh o).2 : Int) := by
                  rw [lg_cmp_le, Int64.le_iff_toInt_le, l64, Int32.toInt_toInt64, a2, nI_toInt (by omega)]
                simp only [x1, x2, jlt_iff, Int32.reduceToInt]
                clear x1 x2 z1 z2 m1 m2 e1 k1 k2 k3 k1' k2' k3' n1
                by_cases hsp : spI (sh i).2 u z ∧ spI (sh o).2 w z
                · obtain ⟨s1, s2⟩ := id hsp
                  rw [if_pos hsp, if_pos rfl, if_neg (show ¬ z.toInt < 0 by omega), if_neg (show ¬ u.toInt < 0 by omega), if_neg (show ¬ w.toInt < 0 by omega), if_pos hx, if_neg (show ¬ ((sh i).2 : Int) < u.toInt + z.toInt by omega), if_pos hy, if_pos (show w.toInt + z.toInt ≤ ((sh o).2 : Int) by omega)]
                  obtain ⟨p, hp, rfl⟩ := jn_le (l := 60) s1.1 (by omega)
                  obtain ⟨q, hq, rfl⟩ := jn_le (l := 60) s2.1 (by omega)
                  obtain ⟨n, hn, rfl⟩ := jn_le (l := 60) s1.2.1 (by omega)
                  have c3 : (nI p).toNatClampNeg = p := jcl' (by omega)
                  have c4 : (nI q).toNatClampNeg = q := jcl' (by omega)
                  have c5 : (nI n).toNatClampNeg = n := jcl' (by omega)
                  have f3 := nI_toInt (show p < 2 ^ 31 by omega)
                  have f4 := nI_toInt (show q < 2 ^ 31 by omega)
                  have f5 := nI_toInt (show n < 2 ^ 31 by omega)
                  have e2 : (nI i = nI o) ↔ i = o := nI_eq (by omega) (by omega)
                  have e3 : (nI q ≤ nI p) ↔ q ≤ p := nI_leI (by omega) (by omega)
                  simp only [e2, e3]
                  refine ⟨jcp L 87 87 (60 * i + p) (60 * o + q) n, ?_, fun a ha => ?_, fun q j hq => ?_⟩
                  · by_cases hio : i = o
                    · subst hio
                      rw [if_neg (fun q => q rfl)]
                      by_cases hqp : q ≤ p
                      · rw [if_pos hqp]
                        exact q_260u hi hi (by omega) (by omega) (Or.inr hqp)
                      · rw [if_neg hqp]
                        have := q_260d (I := I) (L := L) (c := c) (e := e) (d := d) hi (show p + n ≤ 60 by omega) (show q + n ≤ 60 by omega) (by omega) n 0 (by omega)
                        rw [jcp_0] at this
                        exact this
                    · rw [if_pos hio]
                      exact q_260u hi ho' (by omega) (by omega) (Or.inl hio)
                  · obtain ⟨b1, b2⟩ := hs a ha
                    refine ⟨b1, fun h2 => ⟨(b2 h2).1, fun j hj => ?_⟩⟩
                    have v1 := (b2 h2).2 j hj
                    show _ = roS ro i o (nI p).toNatClampNeg (nI q).toNatClampNeg (nI n).toNatClampNeg a j
                    rw [c3, c4, c5]
                    unfold roS
                    by_cases hc : a = o ∧ q ≤ j ∧ j < q + n
                    · have hc2 : 87 = 87 ∧ 60 * o + q ≤ 60 * a + j ∧ 60 * a + j < 60 * o + q + n := ⟨rfl, by omega, by omega⟩
                      rw [jcp_get, if_pos hc2, if_pos hc]
                      have := (g2 (by omega)).2 (p + (j - q)) (by omega)
                      rw [← this]
                      congr 1
                      omega
                    · have hc2 : ¬ (87 = 87 ∧ 60 * o + q ≤ 60 * a + j ∧ 60 * a + j < 60 * o + q + n) := fun k => hc ⟨by omega, by omega, by omega⟩
                      rw [jcp_get, if_neg hc2, if_neg hc]
                      exact v1
                  · rw [jcp_get, if_neg (fun k => hq k.1)]
                · rw [if_neg hsp]
                  have : ∀ {α : Type} {a b : α} {p : Prop} [Decidable p], (if p then a else a) = a := by
                    intro α a b p _
                    split <;> rfl
                  have hh : ∀ {β : Type} (r s t : β), (if z.toInt < 0 then r else if u.toInt < 0 then r else if w.toInt < 0 then r else if jin (nI i) 6 then (if ((sh i).2 : Int) < u.toInt + z.toInt then r else if jin (nI o) 6 then (if w.toInt + z.toInt ≤ ((sh o).2 : Int) then s else r) else t) else t) = r := by
                    intro β r s t
                    repeat' split
                    all_goals first | rfl | (exfalso; omega)
                  rw [hh]
                  exact hsame _ (by decide)
              · have n1 : (sh i).1 = 1 ∨ (sh o).1 = 1 ∨ (sh i).1 ≠ (sh o).1 := Or.inr (Or.inr hne)
                rw [if_neg hne, if_pos n1]
                exact hsame _ (by decide)
    · have hno : ¬ (jin x 6 ∧ jin y 6) := fun q => hy q.2
      have hyy : ¬¬¬ jin y 6 := fun q => q hy
      rw [if_neg hyy, if_neg hno, if_neg (by decide)]
      exact ⟨L, rfl, hs, fun _ _ _ => rfl⟩
  · have hno : ¬ (jin x 6 ∧ jin y 6) := fun q => hx q.1
    rw [if_pos hx, if_neg hno, if_neg (by decide)]
    exact ⟨L, rfl, hs, fun _ _ _ => rfl⟩
end SHI
