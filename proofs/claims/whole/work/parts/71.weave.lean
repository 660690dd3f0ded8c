/-! the class weighs and ties -/
/-- seconds of a move from a state, by one who knows kn; 0: it isn't made -/
def gS (lw : List aLn) (v : Nat → aMv) (pe : Nat → aPe) (one : Option Nat) (kn w s : Nat) : Nat := if may (v w) s then secK lw v pe one w s (kn / 2 ^ w % 2) else 0
def tS (v : Nat → aMv) (w s : Nat) : Nat := mto (v w).1 (v w).2.1 s
def tlR (g : Nat → Nat → Nat) (w : Nat) : Nat → List (Nat × Nat)
  | 0 => []
  | k + 1 => tlR g w k ++ if 0 < g w k then [(w, k)] else []
def tlW (g : Nat → Nat → Nat) : Nat → List (Nat × Nat)
  | 0 => []
  | w + 1 => tlW g w ++ tlR g w 54
/-- nine states stand for all -/
def wS (i : Nat) : Nat := i % 9 / 3 * 18 + i % 3 * 2
def wgM (lw : List aLn) (v : Nat → aMv) (pe : Nat → aPe) (one : Option Nat) (k : Nat) (I : Nat → Nat → Int32) : Prop := ∀ i, i < k → I 43 i = nI (secK lw v pe one (i / 9) (wS i) 0) ∧ I 44 i = nI (secK lw v pe one (i / 9) (wS i) 1)
def tiM (g t : Nat → Nat → Nat) (l : List (Nat × Nat)) (I : Nat → Nat → Int32) : Prop := I 42 12 = nI l.length ∧ ∀ i x, l[i]? = some x → I 45 i = nI x.2 ∧ I 46 i = nI (t x.1 x.2) ∧ I 47 i = nI x.1 ∧ I 48 i = nI (g x.1 x.2)
section WEV
variable {d : Nat} {I I' : Nat → Nat → Int32} {L : Nat → Nat → Int64} {c e : Nat} {x y z : Int32} {lw : List aLn} {n m w s k kn : Nat} {v : Nat → aMv} {pe : Nat → aPe} {D : Nat → Int32} {one : Option Nat} {g t : Nat → Nat → Nat}
theorem tlR_len : ∀ k, (tlR g w k).length ≤ k := by
  intro k
  induction k with
  | zero => exact Nat.le_refl _
  | succ k ih =>
    unfold tlR
    rw [List.length_append]
    have : (if 0 < g w k then [(w, k)] else []).length ≤ 1 := by split <;> simp
    omega
theorem tlW_len : ∀ w, (tlW g w).length ≤ 54 * w := by
  intro w
  induction w with
  | zero => exact Nat.le_refl _
  | succ w ih =>
    unfold tlW
    rw [List.length_append]
    have := tlR_len (g := g) (w := w) 54
    omega
theorem tlR_in : ∀ k x, x ∈ tlR g w k ↔ x.1 = w ∧ x.2 < k ∧ 0 < g w x.2 := by
  intro k
  induction k with
  | zero => intro x; simp [tlR]
  | succ k ih =>
    intro x
    unfold tlR
    rw [List.mem_append, ih]
    obtain ⟨a, b⟩ := x
    by_cases q : 0 < g w k
    · rw [if_pos q]
      simp only [List.mem_singleton, Prod.mk.injEq]
      constructor
      · rintro (⟨h1, h2, h3⟩ | ⟨h1, h2⟩)
        · exact ⟨h1, by omega, h3⟩
        · subst h2
          exact ⟨h1, by omega, q⟩
      · rintro ⟨h1, h2, h3⟩
        by_cases hb : b = k
        · exact Or.inr ⟨h1, hb⟩
        · exact Or.inl ⟨h1, by omega, h3⟩
    · rw [if_neg q]
      simp only [List.not_mem_nil, or_false]
      constructor
      · rintro ⟨h1, h2, h3⟩
        exact ⟨h1, by omega, h3⟩
      · rintro ⟨h1, h2, h3⟩
        refine ⟨h1, ?_, h3⟩
        by_cases hb : b = k
        · subst hb; exact absurd h3 q
        · omega
theorem tlW_in : ∀ w x, x ∈ tlW g w ↔ x.1 < w ∧ x.2 < 54 ∧ 0 < g x.1 x.2 := by
  intro w
  induction w with
  | zero => intro x; simp [tlW]
  | succ w ih =>
    intro x
    unfold tlW
    rw [List.mem_append, ih, tlR_in]
    obtain ⟨a, b⟩ := x
    dsimp only
    constructor
    · rintro (⟨h1, h2, h3⟩ | ⟨h1, h2, h3⟩)
      · exact ⟨by omega, h2, h3⟩
      · subst h1
        exact ⟨by omega, h2, h3⟩
    · rintro ⟨h1, h2, h3⟩
      by_cases hb : a = w
      · subst hb
        exact Or.inr ⟨rfl, h2, h3⟩
      · exact Or.inl ⟨by omega, h2, h3⟩
theorem wS_I (i : Nat) (hi : i < 108) : (nI i - nI i / 9 * 9) / 3 * 18 + (nI i - nI i / 3 * 3) * 2 = nI (wS i) ∧ nI i / 9 = nI (i / 9) ∧ wS i < 54 := by
  have : ∀ i, i < 108 → (nI i - nI i / 9 * 9) / 3 * 18 + (nI i - nI i / 3 * 3) * 2 = nI (wS i) ∧ nI i / 9 = nI (i / 9) ∧ wS i < 54 := by decide +kernel
  exact this i hi
theorem secK_st {s' k : Nat} (h1 : s / 18 = s' / 18) (h2 : s / 2 % 3 = s' / 2 % 3) : secK lw v pe one w s k = secK lw v pe one w s' k := by
  unfold secK
  cases one with
  | none => rfl
  | some o =>
    show secN lw (pe o).1 (v w).2.2.2.2 (s / 18) (s / 2 % 3) k w = secN lw (pe o).1 (v w).2.2.2.2 (s' / 18) (s' / 2 % 3) k w
    rw [h1, h2]
theorem q_84l (hce : ceOk c e) (hlo : lwOk lw) (hpo : peOk m pe D) (ho : oneOk m one) : ∀ (f i : Nat) (v3 : Value) (I : Nat → Nat → Int32), i + f = 9 * n → lwC lw c I → kitC n v I → peC m pe D I → wgM lw v pe one i I → ∃ I', jat d 84 2 [.ref 42, .int (oneI one), .int (nI i), v3] [] (jmk I L c e) = some (none, jmk I' L c e) ∧ wgM lw v pe one (9 * n) I' ∧ ∀ q j, ¬ (q = 1 ∧ j = 8) → q ≠ 3 → q ≠ 4 → q ≠ 43 → q ≠ 44 → I' q j = I q j := by
  have hcc := ce_lt hce
  intro f
  induction f with
  | zero =>
    intro i v3 I hi hl hk hp hw
    have hn := hk.1.1
    have hi : i = 9 * n := hi
    subst hi
    refine ⟨I, ?_, hw, fun _ _ _ _ _ _ _ => rfl⟩
    have e1 : nI n * 9 = nI (9 * n) := by rw [jI_lit, pk_mul, Nat.mul_comm]
    rw [jb_84_2, hk.1.2.1, e1, decide_eq_true (by rw [nI_leI (by omega) (by omega)]; exact Nat.le_refl _), cond_true]
  | succ f ih =>
    intro i v3 I hi hl hk hp hw
    have hn := hk.1.1
    have e1 : nI n * 9 = nI (9 * n) := by rw [jI_lit, pk_mul, Nat.mul_comm]
    obtain ⟨e2, e3, e4⟩ := wS_I i (by omega)
    have hw9 : i / 9 < n := by omega
    have fr1 : ∀ {I1 : Nat → Nat → Int32}, (∀ q j, ¬ (q = 1 ∧ j = 8) → q ≠ 3 → q ≠ 4 → q ≠ 43 → q ≠ 44 → I1 q j = I q j) → lwC lw c I1 ∧ kitC n v I1 ∧ peC m pe D I1 := fun h => ⟨lwC_fr hl (fun q j h2 => h q j (by omega) (by omega) (by omega) (by omega) (by omega)), kitC_fr hk (fun q j a1 a2 => h q j (by omega) (by omega) (by omega) (by omega) (by omega)), peC_fr hp (fun q j a1 a2 => h q j (by omega) (by omega) (by omega) (by omega) (by omega))⟩
    obtain ⟨I1, f1, f2⟩ := q_82 (d := d) (L := L) hce hlo hl hk hp hpo ho hw9 e4 (k := 0) (by decide)
    have g1 : ∀ q j, ¬ (q = 1 ∧ j = 8) → q ≠ 3 → q ≠ 4 → q ≠ 43 → q ≠ 44 → ju I1 43 i (nI (secK lw v pe one (i / 9) (wS i) 0)) q j = I q j := fun q j a1 a2 a3 a4 a5 => by rw [ju_get, if_neg (fun h => a4 h.1)]; exact f2 q j a1 a2 a3
    obtain ⟨l1, k1, p1⟩ := fr1 g1
    obtain ⟨I2, r1, r2⟩ := q_82 (d := d) (L := L) hce hlo l1 k1 p1 hpo ho hw9 e4 (k := 1) (by decide)
    have g2 : ∀ q j, ¬ (q = 1 ∧ j = 8) → q ≠ 3 → q ≠ 4 → q ≠ 43 → q ≠ 44 → ju I2 44 i (nI (secK lw v pe one (i / 9) (wS i) 1)) q j = I q j := fun q j a1 a2 a3 a4 a5 => by rw [ju_get, if_neg (fun h => a5 h.1)]; exact (r2 q j a1 a2 a3).trans (g1 q j a1 a2 a3 a4 a5)
    obtain ⟨l2, k2, p2⟩ := fr1 g2
    have hw2 : wgM lw v pe one (i + 1) (ju I2 44 i (nI (secK lw v pe one (i / 9) (wS i) 1))) := by
      intro j hj
      by_cases q : j = i
      · subst q
        refine ⟨?_, ju_s⟩
        rw [ju_get, if_neg (by omega), r2 43 j (by omega) (by omega) (by omega), ju_s]
      · have h1 := hw j (by omega)
        refine ⟨?_, ?_⟩
        · rw [ju_get, if_neg (by omega), r2 43 j (by omega) (by omega) (by omega), ju_get, if_neg (by omega), f2 43 j (by omega) (by omega) (by omega)]
          exact h1.1
        · rw [ju_get, if_neg (by omega), r2 44 j (by omega) (by omega) (by omega), ju_get, if_neg (by omega), f2 44 j (by omega) (by omega) (by omega)]
          exact h1.2
    obtain ⟨I3, u1, u2, u3⟩ := ih (i + 1) (.int (nI (wS i))) _ (by omega) l2 k2 p2 hw2
    refine ⟨I3, ?_, u2, fun q j a1 a2 a3 a4 a5 => (u3 q j a1 a2 a3 a4 a5).trans (g2 q j a1 a2 a3 a4 a5)⟩
    have f1 : jev d 82 [.ref 42, .int (oneI one), .int (nI (i / 9)), .int (nI (wS i)), .int 0] (jmk I L c e) = _ := f1
    have r1 : jev d 82 [.ref 42, .int (oneI one), .int (nI (i / 9)), .int (nI (wS i)), .int 1] (jmk (ju I1 43 i (nI (secK lw v pe one (i / 9) (wS i) 0))) L c e) = _ := r1
    rw [jb_84_2, hk.1.2.1, e1, decide_eq_false (by rw [nI_leI (by omega) (by omega)]; omega), cond_false, e2, e3, f1]
    simp only [Option.bind_some, jps]
    rw [jb_84_48, jdI (by omega), cond_true, jcl' (by omega), e3, r1]
    simp only [Option.bind_some, jps]
    rw [jb_84_65, jdI (by omega), cond_true, jcl' (by omega), nI_1, u1]
theorem q_84 (hce : ceOk c e) (hlo : lwOk lw) (hl : lwC lw c I) (hk : kitC n v I) (hp : peC m pe D I) (hpo : peOk m pe D) (ho : oneOk m one) : ∃ I', jev d 84 [.ref 42, .int (oneI one)] (jmk I L c e) = some (none, jmk I' L c e) ∧ wgM lw v pe one (9 * n) I' ∧ ∀ q j, ¬ (q = 1 ∧ j = 8) → q ≠ 3 → q ≠ 4 → q ≠ 43 → q ≠ 44 → I' q j = I q j := by
  rw [jb_84_0]
  exact q_84l hce hlo hpo ho (9 * n) 0 .null I (by omega) hl hk hp (fun i hi => absurd hi (Nat.not_lt_zero i))
/-- one more tie -/
theorem tiM_add {l : List (Nat × Nat)} {a b : Nat} (h : tiM g t l I) : tiM g t (l ++ [(a, b)]) (ju (ju (ju (ju (ju I 45 l.length (nI b)) 46 l.length (nI (t a b))) 47 l.length (nI a)) 48 l.length (nI (g a b))) 42 12 (nI l.length + 1)) := by
  obtain ⟨h1, h2⟩ := h
  refine ⟨?_, fun i x hx => ?_⟩
  · rw [ju_s, nI_1, List.length_append]
    rfl
  · have hi : i < l.length + 1 := by
      have := List.getElem?_eq_some_iff.mp hx
      obtain ⟨h3, -⟩ := this
      simpa using h3
    by_cases q : i = l.length
    · subst q
      rw [List.getElem?_append_right (Nat.le_refl _), Nat.sub_self] at hx
      cases hx
      refine ⟨?_, ?_, ?_, ?_⟩
      · rw [ju_get, if_neg (by omega), ju_get, if_neg (by omega), ju_get, if_neg (by omega), ju_get, if_neg (by omega), ju_s]
      · rw [ju_get, if_neg (by omega), ju_get, if_neg (by omega), ju_get, if_neg (by omega), ju_s]
      · rw [ju_get, if_neg (by omega), ju_get, if_neg (by omega), ju_s]
      · rw [ju_get, if_neg (by omega), ju_s]
    · rw [List.getElem?_append_left (by omega)] at hx
      obtain ⟨a1, a2, a3, a4⟩ := h2 i x hx
      refine ⟨?_, ?_, ?_, ?_⟩
      · rw [ju_get, if_neg (by omega), ju_get, if_neg (by omega), ju_get, if_neg (by omega), ju_get, if_neg (by omega), ju_get, if_neg (by omega)]; exact a1
      · rw [ju_get, if_neg (by omega), ju_get, if_neg (by omega), ju_get, if_neg (by omega), ju_get, if_neg (by omega), ju_get, if_neg (by omega)]; exact a2
      · rw [ju_get, if_neg (by omega), ju_get, if_neg (by omega), ju_get, if_neg (by omega), ju_get, if_neg (by omega), ju_get, if_neg (by omega)]; exact a3
      · rw [ju_get, if_neg (by omega), ju_get, if_neg (by omega), ju_get, if_neg (by omega), ju_get, if_neg (by omega), ju_get, if_neg (by omega)]; exact a4
abbrev frT (I I' : Nat → Nat → Int32) : Prop := ∀ q j, ¬ (q = 42 ∧ j = 12) → (q < 45 ∨ 48 < q) → I' q j = I q j
/-- the ties of one move -/
theorem q_85r (hkn : kn < 4096) (hw : w < n) {l0 : List (Nat × Nat)} (hl0 : l0.length ≤ 54 * w) : ∀ (f s : Nat) (v5 v6 v7 : Value) (I : Nat → Nat → Int32), s + f = 54 → kitC n v I → wgM lw v pe one (9 * n) I → tiM (gS lw v pe one kn) (tS v) (l0 ++ tlR (gS lw v pe one kn) w s) I → ∃ I' u5 u6 u7, jat d 85 36 [.ref 42, .int (nI kn), .int (nI w), .int (nI (kn / 2 ^ w % 2)), .int (nI s), v5, v6, v7] [] (jmk I L c e) = jat d 85 7 [.ref 42, .int (nI kn), .int (nI (w + 1)), .int (nI (kn / 2 ^ w % 2)), .int (nI 54), u5, u6, u7] [] (jmk I' L c e) ∧ tiM (gS lw v pe one kn) (tS v) (l0 ++ tlR (gS lw v pe one kn) w 54) I' ∧ frT I I' := by
  intro f
  induction f with
  | zero =>
    intro s v5 v6 v7 I hs hk hg ht
    have hs : s = 54 := hs
    subst hs
    refine ⟨I, v5, v6, v7, ?_, ht, fun _ _ _ _ => rfl⟩
    rw [jb_85_36, show decide ((54 : Int32) ≤ nI 54) = true from rfl, cond_true, nI_1]
  | succ f ih =>
    intro s v5 v6 v7 I hs hk hg ht
    have hn := hk.1.1
    have hs54 : s < 54 := by omega
    have hmk := (hk.1.2.2 w hw).1
    obtain ⟨a1, a2, a3⟩ := aft (d := d) (L := L) (c := c) (e := e) hk hw hs54
    have hidx : 9 * w + 3 * (s / 18) + s / 2 % 3 < 9 * n := by omega
    obtain ⟨w1, w2⟩ := hg (9 * w + 3 * (s / 18) + s / 2 % 3) hidx
    have hdw : (9 * w + 3 * (s / 18) + s / 2 % 3) / 9 = w := by omega
    have hst : ∀ k, secK lw v pe one w (wS (9 * w + 3 * (s / 18) + s / 2 % 3)) k = secK lw v pe one w s k := by
      intro k
      apply secK_st
      · unfold wS; omega
      · unfold wS; omega
    rw [hdw, hst] at w1
    rw [hdw, hst] at w2
    have e9 : nI w * 9 + nI (s / 18) * 3 + nI (s / 2 % 3) = nI (9 * w + 3 * (s / 18) + s / 2 % 3) := by
      rw [jI_lit, jI_lit, pk_mul, pk_mul, nI_add, nI_add]
      congr 1
      omega
    rw [jb_85_36, decide_eq_false (show ¬ (54 : Int32) ≤ nI s by show ¬ nI 54 ≤ nI s; rw [nI_leI (by omega) (by omega)]; omega), cond_false, q_143p 0 (by decide) hs54]
    simp only [Option.bind_some, jps]
    rw [jb_85_53, q_143p 2 (by decide) hs54]
    simp only [Option.bind_some, jps]
    rw [jb_85_62, show pt 0 s = s / 18 from rfl, show pt 2 s = s / 2 % 3 from rfl, e9, a1]
    simp only [Option.bind_some, jps]
    have hbit : kn / 2 ^ w % 2 = 0 ∨ kn / 2 ^ w % 2 = 1 := by omega
    have hj : decide (jin (nI (9 * w + 3 * (s / 18) + s / 2 % 3)) 108) = true := jdI (by omega)
    have hcl : (nI (9 * w + 3 * (s / 18) + s / 2 % 3)).toNatClampNeg = 9 * w + 3 * (s / 18) + s / 2 % 3 := jcl' (by omega)
    have h98 : jat d 85 75 [.ref 42, .int (nI kn), .int (nI w), .int (nI (kn / 2 ^ w % 2)), .int (nI s), .int (nI (9 * w + 3 * (s / 18) + s / 2 % 3)), v6, v7] [.int (oI (ld (v w) s))] (jmk I L c e) = jat d 85 98 [.ref 42, .int (nI kn), .int (nI w), .int (nI (kn / 2 ^ w % 2)), .int (nI s), .int (nI (9 * w + 3 * (s / 18) + s / 2 % 3)), .int (oI (ld (v w) s)), v7] [.int (nI (secK lw v pe one w s (kn / 2 ^ w % 2)))] (jmk I L c e) := by
      rw [jb_85_75, hj, hcl]
      rcases hbit with h | h
      · rw [h, show decide (nI 0 = 0) = true from rfl, cond_true, cond_true, w1]
      · rw [h, show decide (nI 1 = 0) = false from rfl, cond_false, cond_true, w2]
    rw [h98, jb_85_98, a2]
    have hsec := secK_le (lw := lw) (pe := pe) (one := one) (s := s) (k := kn / 2 ^ w % 2) (by omega) hmk
    have hnext : tlR (gS lw v pe one kn) w (s + 1) = tlR (gS lw v pe one kn) w s ++ if 0 < gS lw v pe one kn w s then [(w, s)] else [] := rfl
    have hlen := tlR_len (g := gS lw v pe one kn) (w := w) s
    by_cases hm : may (v w) s
    · have hmm : ¬¬ may (v w) s := fun q => q hm
      have hgs : gS lw v pe one kn w s = secK lw v pe one w s (kn / 2 ^ w % 2) := by
        unfold gS
        rw [if_pos hm]
      rw [decide_eq_false hmm, cond_false, a3 hm]
      by_cases h0 : 0 < secK lw v pe one w s (kn / 2 ^ w % 2)
      · have n0 : ¬ nI (secK lw v pe one w s (kn / 2 ^ w % 2)) ≤ 0 := by
          rw [jle_iff, nI_toInt (by omega)]
          simp only [Int32.reduceToInt]
          omega
        have hl : (l0 ++ tlR (gS lw v pe one kn) w s).length < 648 := by
          rw [List.length_append]
          omega
        rw [decide_eq_false n0, cond_false, ht.1, decide_eq_false (show ¬ (648 : Int32) ≤ nI (l0 ++ tlR (gS lw v pe one kn) w s).length by show ¬ nI 648 ≤ nI _; rw [nI_leI (by omega) (by omega)]; omega), cond_false, jdI hl, jcl' (by omega)]
        simp only [cond_true]
        have ht2 := tiM_add (a := w) (b := s) ht
        rw [← hgs]
        have e1 : l0 ++ tlR (gS lw v pe one kn) w s ++ [(w, s)] = l0 ++ tlR (gS lw v pe one kn) w (s + 1) := by
          rw [hnext, hgs, if_pos h0, List.append_assoc]
        rw [e1] at ht2
        have hfr : frT I (ju (ju (ju (ju (ju I 45 (l0 ++ tlR (gS lw v pe one kn) w s).length (nI s)) 46 (l0 ++ tlR (gS lw v pe one kn) w s).length (nI (tS v w s))) 47 (l0 ++ tlR (gS lw v pe one kn) w s).length (nI w)) 48 (l0 ++ tlR (gS lw v pe one kn) w s).length (nI (gS lw v pe one kn w s))) 42 12 (nI (l0 ++ tlR (gS lw v pe one kn) w s).length + 1)) := by
          intro q j b1 b2
          rw [ju_get, if_neg b1, ju_get, if_neg (by omega), ju_get, if_neg (by omega), ju_get, if_neg (by omega), ju_get, if_neg (by omega)]
        obtain ⟨I', u5, u6, u7, r1, r2, r3⟩ := ih (s + 1) (.int (nI (9 * w + 3 * (s / 18) + s / 2 % 3))) (.int (nI (mto (v w).1 (v w).2.1 s))) (.int (nI (gS lw v pe one kn w s))) _ (by omega) (kitC_fr hk (fun q j b1 b2 => hfr q j (by omega) (by omega))) (fun i hi => by rw [hfr 43 i (by omega) (by omega), hfr 44 i (by omega) (by omega)]; exact hg i hi) ht2
        refine ⟨I', u5, u6, u7, ?_, r2, fun q j b1 b2 => (r3 q j b1 b2).trans (hfr q j b1 b2)⟩
        rw [nI_1 s]
        exact r1
      · have n0 : nI (secK lw v pe one w s (kn / 2 ^ w % 2)) ≤ 0 := by
          rw [jle_iff, nI_toInt (by omega)]
          simp only [Int32.reduceToInt]
          omega
        have e1 : l0 ++ tlR (gS lw v pe one kn) w (s + 1) = l0 ++ tlR (gS lw v pe one kn) w s := by
          rw [hnext, hgs, if_neg h0, List.append_nil]
        rw [decide_eq_true n0, cond_true, nI_1]
        exact ih (s + 1) _ _ _ I (by omega) hk hg (by rw [e1]; exact ht)
    · have hgs : gS lw v pe one kn w s = 0 := by
        unfold gS
        rw [if_neg hm]
      have e1 : l0 ++ tlR (gS lw v pe one kn) w (s + 1) = l0 ++ tlR (gS lw v pe one kn) w s := by
        rw [hnext, hgs, if_neg (Nat.lt_irrefl 0), List.append_nil]
      rw [decide_eq_true hm, cond_true, nI_1]
      exact ih (s + 1) _ _ _ I (by omega) hk hg (by rw [e1]; exact ht)
theorem q_85 (hkn : kn < 4096) (hk : kitC n v I) (hg : wgM lw v pe one (9 * n) I) : ∃ I', jev d 85 [.ref 42, .int (nI kn)] (jmk I L c e) = some (none, jmk I' L c e) ∧ tiM (gS lw v pe one kn) (tS v) (tlW (gS lw v pe one kn) n) I' ∧ frT I I' := by
  have hn := hk.1.1
  have key : ∀ (f w : Nat) (v3 v4 v5 v6 v7 : Value) (I : Nat → Nat → Int32), w + f = n → kitC n v I → wgM lw v pe one (9 * n) I → tiM (gS lw v pe one kn) (tS v) (tlW (gS lw v pe one kn) w) I → ∃ I', jat d 85 7 [.ref 42, .int (nI kn), .int (nI w), v3, v4, v5, v6, v7] [] (jmk I L c e) = some (none, jmk I' L c e) ∧ tiM (gS lw v pe one kn) (tS v) (tlW (gS lw v pe one kn) n) I' ∧ frT I I' := by
    intro f
    induction f with
    | zero =>
      intro w v3 v4 v5 v6 v7 I hw hk hg ht
      have hw : w = n := hw
      subst hw
      refine ⟨I, ?_, ht, fun _ _ _ _ => rfl⟩
      rw [jb_85_7, hk.1.2.1, decide_eq_true (by rw [nI_leI (by omega) (by omega)]; exact Nat.le_refl _), cond_true]
    | succ f ih =>
      intro w v3 v4 v5 v6 v7 I hw hk hg ht
      obtain ⟨I1, u5, u6, u7, f1, f2, f3⟩ := q_85r (d := d) (L := L) (c := c) (e := e) (kn := kn) hkn (show w < n by omega) (tlW_len (g := gS lw v pe one kn) w) 54 0 v5 v6 v7 I (by omega) hk hg (by show tiM _ _ (tlW (gS lw v pe one kn) w ++ []) I; rw [List.append_nil]; exact ht)
      obtain ⟨I2, r1, r2, r3⟩ := ih (w + 1) (.int (nI (kn / 2 ^ w % 2))) (.int (nI 54)) u5 u6 u7 I1 (by omega) (kitC_fr hk (fun q j b1 b2 => f3 q j (by omega) (by omega))) (fun i hi => by rw [f3 43 i (by omega) (by omega), f3 44 i (by omega) (by omega)]; exact hg i hi) f2
      refine ⟨I2, ?_, r2, fun q j b1 b2 => (r3 q j b1 b2).trans (f3 q j b1 b2)⟩
      rw [jb_85_7, hk.1.2.1, decide_eq_false (by rw [nI_leI (by omega) (by omega)]; omega), cond_false, bit_nI (by omega) (by omega)]
      have hbit : kn / 2 ^ w % 2 = 0 ∨ kn / 2 ^ w % 2 = 1 := by omega
      have hb : (bif decide (¬ nI (kn / 2 ^ w % 2) = 1) then jat d 85 36 [.ref 42, .int (nI kn), .int (nI w), .int 0, .int 0, v5, v6, v7] [] (jmk I L c e) else jat d 85 36 [.ref 42, .int (nI kn), .int (nI w), .int 1, .int 0, v5, v6, v7] [] (jmk I L c e)) = jat d 85 36 [.ref 42, .int (nI kn), .int (nI w), .int (nI (kn / 2 ^ w % 2)), .int (nI 0), v5, v6, v7] [] (jmk I L c e) := by
        rcases hbit with h | h <;> rw [h] <;> rfl
      rw [hb, f1, r1]
  have hfr : frT I (ju I 42 12 0) := fun q j b1 b2 => by rw [ju_get, if_neg b1]
  obtain ⟨I', r1, r2, r3⟩ := key n 0 .null .null .null .null .null (ju I 42 12 0) (by omega) (kitC_fr hk (fun q j b1 b2 => hfr q j (by omega) (by omega))) (fun i hi => by rw [hfr 43 i (by omega) (by omega), hfr 44 i (by omega) (by omega)]; exact hg i hi) ⟨ju_s, fun i x hx => by cases hx⟩
  refine ⟨I', ?_, r2, fun q j b1 b2 => (r3 q j b1 b2).trans (hfr q j b1 b2)⟩
  rw [jb_85_0]
  exact r1
abbrev frW (I I' : Nat → Nat → Int32) : Prop := ∀ q j, ¬ (q = 1 ∧ j = 8) → q ≠ 3 → q ≠ 4 → ¬ (q = 42 ∧ j = 12) → (q < 43 ∨ 48 < q) → I' q j = I q j
/-- weave: all ties of one -/
theorem q_83 (hce : ceOk c e) (hlo : lwOk lw) (hl : lwC lw c I) (hk : kitC n v I) (hp : peC m pe D I) (hpo : peOk m pe D) (ho : oneOk m one) : ∃ I', jev d 83 [.ref 42, .int (oneI one)] (jmk I L c e) = some (none, jmk I' L c e) ∧ tiM (gS lw v pe one (knO pe one)) (tS v) (tlW (gS lw v pe one (knO pe one)) n) I' ∧ wgM lw v pe one (9 * n) I' ∧ frW I I' := by
  have hcc := ce_lt hce
  obtain ⟨I1, f1, f2, f3⟩ := q_84 (d := d) (L := L) hce hlo hl hk hp hpo ho
  have hk1 : kitC n v I1 := kitC_fr hk (fun q j a1 a2 => f3 q j (by omega) (by omega) (by omega) (by omega) (by omega))
  have hp1 : peC m pe D I1 := peC_fr hp (fun q j a1 a2 => f3 q j (by omega) (by omega) (by omega) (by omega) (by omega))
  obtain ⟨I2, r1, r2, r3⟩ := q_85 (d := d) (L := L) (c := c) (e := e) (lw := lw) (pe := pe) (one := one) (knO_lt hpo ho) hk1 f2
  refine ⟨I2, ?_, r2, fun i hi => ?_, fun q j a1 a2 a3 a4 a5 => (r3 q j a4 (by omega)).trans (f3 q j a1 a2 a3 (by omega) (by omega))⟩
  · rw [jb_83_0, f1]
    simp only [Option.bind_some, jps]
    rw [jb_83_5, q_65 hp1 hpo ho]
    simp only [Option.bind_some, jps]
    rw [jb_83_14, r1]
    simp only [Option.bind_some, jps]
    rw [jb_83_17]
  · rw [r3 43 i (by omega) (by omega), r3 44 i (by omega) (by omega)]
    exact f2 i hi
theorem gS_ok (hm : ∀ i, i < n → mvOk (v i)) : ∀ w s, w < n → s < 54 → 0 < gS lw v pe one kn w s → tS v w s < 54 ∧ gS lw v pe one kn w s ≤ 99 := by
  intro w s hw hs h
  have hk := hm w hw
  obtain ⟨a1, a2, a3, a4, a5, a6, a7⟩ := id hk
  refine ⟨(mto_all (v w).1 (by omega) (v w).2.1 (by omega) s hs).1, ?_⟩
  unfold gS
  split
  · exact secK_le (by omega) hk
  · exact Nat.zero_le _
end WEV
