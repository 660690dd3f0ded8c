/-! begun -/
def bgG (g : Nat → Bool) : Nat → Nat → Int32 → Nat × Int32
  | 0, a, l => (a, l)
  | u + 1, a, l => if g u = true then bgG g u (a + 1) (nI u) else bgG g u a l
def bgB (n : Nat) (v : Nat → aMv) (sh : Nat → aSh) (ro : Nat → Nat → Int64) (i t s : Nat) : Bool := decide ((wlkS n v sh ro i s).1 = none) && decide ((wlkS n v sh ro i s).2 = t)
def opBegun (n : Nat) (v : Nat → aMv) (sh : Nat → aSh) (ro : Nat → Nat → Int64) (x y z : Int32) : Int32 := if 0 ≤ z.toInt ∧ z.toInt ≤ 1 then (if fdI sh x y = 0 then (if z = 0 then nI (bgG (bgB n v sh ro x.toNatClampNeg y.toNatClampNeg) 54 0 (-2)).1 else (bgG (bgB n v sh ro x.toNatClampNeg y.toNatClampNeg) 54 0 (-2)).2) else fdI sh x y) else -1
section BGN
variable {d : Nat} {I I' : Nat → Nat → Int32} {L : Nat → Nat → Int64} {c e : Nat} {x y z : Int32} {b n m w s i k o t : Nat} {v : Nat → aMv} {sh : Nat → aSh} {ro : Nat → Nat → Int64}
theorem dwn (u : Nat) (hu : u < 54) : nI (u + 1) - 1 = nI u ∧ ¬ nI u < 0 ∧ nI u + -1 = nI u - 1 := by
  have : ∀ u, u < 54 → nI (u + 1) - 1 = nI u ∧ ¬ nI u < 0 ∧ nI u + -1 = nI u - 1 := by decide
  exact this u hu
theorem oI_0 {o : Option Nat} (h : ∀ a, o = some a → a < 60) : decide (0 ≤ oI o) = decide (o ≠ none) ∧ decide (¬ oI o = -2) = decide (o ≠ none) := by
  cases o with
  | none => decide
  | some a =>
    have h1 := h a rfl
    have : ∀ a, a < 60 → decide (0 ≤ nI a) = true ∧ decide (¬ nI a = -2) = true := by decide
    obtain ⟨a1, a2⟩ := this a h1
    have e : decide ((some a : Option Nat) ≠ none) = true := by simp
    rw [e]
    exact ⟨a1, a2⟩
theorem wlk_54 {r : Nat → Int64} (hk : ∀ i, i < n → mvOk (v i)) (hn : n ≤ 12) : ∀ f j s : Nat, s < 54 → (wlk n v r f j s).2 < 54 := by
  intro f
  induction f with
  | zero => intro j s h; exact h
  | succ f ih =>
    intro j s h
    unfold wlk
    by_cases hw : jin (r j).toInt32 n
    · rw [if_pos hw]
      obtain ⟨w, hw', e1⟩ := (jin_iff (by omega)).mp hw
      rw [e1, jcl' (show w < 2 ^ 31 by omega)]
      cases hld : ld (v w) s with
      | none => exact h
      | some t => exact ih (j + 1) t (ld_lt (hk w hw') h hld)
    · rw [if_neg hw]
      exact h
theorem q_122l (hk : kitC n v I) (hs : shC sh ro I L) (ho : shOk b sh) (hi : i < 6) (h2 : (sh i).1 = 2) (ht : t < 54) {x4 : Int32} : ∀ (u a : Nat) (l : Int32) (I : Nat → Nat → Int32), u ≤ 54 → kitC n v I → shC sh ro I L → ∃ I', jat d 122 40 [.ref 0, .int (nI i), .int (nI t), .int z, .int x4, .int (nI a), .int l, .int (nI u - 1)] [] (jmk I L c e) = some (some (.int (if z = 0 then nI (bgG (bgB n v sh ro i t) u a l).1 else (bgG (bgB n v sh ro i t) u a l).2)), jmk I' L c e) ∧ ∀ q t, ¬ (q = 57 ∧ t = 2) → I' q t = I q t := by
  intro u
  induction u with
  | zero =>
    intro a l I _ _ _
    refine ⟨I, ?_, fun _ _ _ => rfl⟩
    rw [jb_122_40, show decide (nI 0 - 1 < 0) = true from rfl, cond_true]
    simp only [Bool.cond_decide]
    by_cases hz : z = 0
    · rw [if_pos hz, if_neg (fun q => q hz)]
      rfl
    · rw [if_neg hz, if_pos hz]
      rfl
  | succ u ih =>
    intro a l I hu hk hs
    obtain ⟨e1, e2, e3⟩ := dwn u (by omega)
    obtain ⟨I1, r1, r2, r3, r4⟩ := q_31 (d := d) (c := c) (e := e) hk hs ho hi h2 (show u < 54 by omega)
    have hk1 : kitC n v I1 := kitC_fr hk (fun q j a1 a2 => r4 q j (by omega))
    have hs1 : shC sh ro I1 L := by
      intro a ha
      rw [r4 28 a (by omega), r4 27 a (by omega)]
      exact hs a ha
    have hlt := (oI_0 (o := (wlkS n v sh ro i u).1) (fun a ha => by
      have := wlk_lt _ _ _ _ ha
      have := (ho.2 i hi).2.2 (by omega)
      omega)).1
    have ec : nI (wlkS n v sh ro i u).2 = nI t ↔ (wlkS n v sh ro i u).2 = t := nI_eq (by omega) (by omega)
    have hfr : ∀ {I' : Nat → Nat → Int32}, (∀ q t, ¬ (q = 57 ∧ t = 2) → I' q t = I1 q t) → ∀ q t, ¬ (q = 57 ∧ t = 2) → I' q t = I q t := fun f q t h => (f q t h).trans (r4 q t h)
    rw [e1, jb_122_40, decide_eq_false e2, cond_false, r1]
    simp only [Option.bind_some, jps]
    rw [jb_122_55, hlt, e3, nI_1, r2]
    unfold bgG bgB
    simp only [Bool.cond_decide, ec, Bool.and_eq_true, decide_eq_true_eq]
    by_cases h1 : (wlkS n v sh ro i u).1 = none
    · rw [if_neg (fun q => q h1)]
      by_cases h3 : (wlkS n v sh ro i u).2 = t
      · obtain ⟨I', f1, f2⟩ := ih (a + 1) (nI u) I1 (by omega) hk1 hs1
        have hand : (wlkS n v sh ro i u).1 = none ∧ (wlkS n v sh ro i u).2 = t := ⟨h1, h3⟩
        rw [if_neg (fun q => q h3), if_pos hand]
        exact ⟨I', f1, hfr f2⟩
      · obtain ⟨I', f1, f2⟩ := ih a l I1 (by omega) hk1 hs1
        have hno : ¬ ((wlkS n v sh ro i u).1 = none ∧ (wlkS n v sh ro i u).2 = t) := fun q => h3 q.2
        rw [if_pos h3, if_neg hno]
        exact ⟨I', f1, hfr f2⟩
    · obtain ⟨I', f1, f2⟩ := ih a l I1 (by omega) hk1 hs1
      have hno : ¬ ((wlkS n v sh ro i u).1 = none ∧ (wlkS n v sh ro i u).2 = t) := fun q => h1 q.1
      rw [if_pos h1, if_neg hno]
      exact ⟨I', f1, hfr f2⟩
theorem c_begun (hk : kitC n v I) (hs : shC sh ro I L) (ho : shOk b sh) : ∃ I', jev d 122 [.ref 0, .int x, .int y, .int z] (jmk I L c e) = some (some (.int (opBegun n v sh ro x y z)), jmk I' L c e) ∧ ∀ q t, ¬ (q = 57 ∧ t = 2) → I' q t = I q t := by
  unfold opBegun
  rw [jb_122_0, q_156 hs ho]
  simp only [Option.bind_some, jps, Bool.cond_decide, show z < 0 ↔ z.toInt < 0 from jlt_iff, show z ≤ 1 ↔ z.toInt ≤ 1 from jle_iff]
  have h19 : ∀ w : Int32, ¬ w = 0 → jat d 122 19 [.ref 0, .int x, .int y, .int z, .null, .null, .null, .null] [.int w] (jmk I L c e) = some (some (.int w), jmk I L c e) := by
    intro w hw
    rw [jb_122_19, decide_eq_false hw, cond_false]
  by_cases hz : 0 ≤ z.toInt ∧ z.toInt ≤ 1
  · rw [if_neg (by omega), if_pos hz.2, if_pos hz]
    by_cases h : fdI sh x y = 0
    · obtain ⟨i, t, hi, ht, rfl, rfl, h2⟩ := fd_0 h
      obtain ⟨I', r1, r2⟩ := q_122l (z := z) (d := d) (c := c) (e := e) hk hs ho hi h2 ht (x4 := 0) 54 0 (-2) I (by decide) hk hs
      rw [if_pos h, h, jb_122_19, jt_4, cond_true, jcl' (by omega), jcl' (by omega)]
      exact ⟨I', r1, r2⟩
    · rw [if_neg h, h19 _ h]
      exact ⟨I, rfl, fun _ _ _ => rfl⟩
  · rw [if_neg hz, h19 _ (by decide)]
    refine ⟨I, ?_, fun _ _ _ => rfl⟩
    by_cases h0 : z.toInt < 0
    · rw [if_pos h0]
    · rw [if_neg h0, if_neg (by omega)]
theorem q_237l (ho : shOk b sh) (hi : i < 6) (h2 : (sh i).1 = 2) (ht : t < 54) {x4 : Int32} : ∀ (u a : Nat) (l : Int32) (I : Nat → Nat → Int32), u ≤ 54 → kitM n v I → shM sh ro I L → ∃ I', jat d 237 51 [.ref 58, .int (nI i), .int (nI t), .int z, .int x4, .int (nI a), .int l, .int (nI u - 1)] [] (jmk I L c e) = some (some (.int (if z = 0 then nI (bgG (bgB n v sh ro i t) u a l).1 else (bgG (bgB n v sh ro i t) u a l).2)), jmk I' L c e) ∧ ∀ q t, ¬ (q = 58 ∧ t = 52) → I' q t = I q t := by
  intro u
  induction u with
  | zero =>
    intro a l I _ _ _
    refine ⟨I, ?_, fun _ _ _ => rfl⟩
    rw [jb_237_51, show decide (nI 0 - 1 < 0) = true from rfl, cond_true]
    simp only [Bool.cond_decide]
    by_cases hz : z = 0
    · rw [if_pos hz, if_neg (fun q => q hz)]
      rfl
    · rw [if_neg hz, if_pos hz]
      rfl
  | succ u ih =>
    intro a l I hu hk hs
    obtain ⟨e1, e2, e3⟩ := dwn u (by omega)
    obtain ⟨I1, r1, r2, r4⟩ := q_233 (d := d) (c := c) (e := e) hk hs ho hi h2 (show u < 54 by omega)
    have hk1 : kitM n v I1 := kitM_fr hk (r4 58 0 (by omega)) (fun q j a1 a2 => r4 q j (by omega))
    have hs1 : shM sh ro I1 L := by
      intro a ha
      rw [r4 85 a (by omega), r4 86 a (by omega)]
      exact hs a ha
    have hlt := (oI_0 (o := (wlkS n v sh ro i u).1) (fun a ha => by
      have := wlk_lt _ _ _ _ ha
      have := (ho.2 i hi).2.2 (by omega)
      omega)).2
    have h54 : (wlkS n v sh ro i u).2 < 54 := wlk_54 (fun i hi => (hk.2.2 i hi).1) hk.1 _ _ _ (by omega)
    have ec : nI (wlkS n v sh ro i u).2 = nI t ↔ (wlkS n v sh ro i u).2 = t := nI_eq (by omega) (by omega)
    have hfr : ∀ {I' : Nat → Nat → Int32}, (∀ q t, ¬ (q = 58 ∧ t = 52) → I' q t = I1 q t) → ∀ q t, ¬ (q = 58 ∧ t = 52) → I' q t = I q t := fun f q t h => (f q t h).trans (r4 q t h)
    rw [e1, jb_237_51, decide_eq_false e2, cond_false, r1]
    simp only [Option.bind_some, jps]
    rw [jb_237_63, hlt, e3, nI_1, r2]
    unfold bgG bgB
    simp only [Bool.cond_decide, ec, Bool.and_eq_true, decide_eq_true_eq]
    by_cases h1 : (wlkS n v sh ro i u).1 = none
    · rw [if_neg (fun q => q h1)]
      by_cases h3 : (wlkS n v sh ro i u).2 = t
      · obtain ⟨I', f1, f2⟩ := ih (a + 1) (nI u) I1 (by omega) hk1 hs1
        have hand : (wlkS n v sh ro i u).1 = none ∧ (wlkS n v sh ro i u).2 = t := ⟨h1, h3⟩
        rw [if_pos h3, if_pos hand]
        exact ⟨I', f1, hfr f2⟩
      · obtain ⟨I', f1, f2⟩ := ih a l I1 (by omega) hk1 hs1
        have hno : ¬ ((wlkS n v sh ro i u).1 = none ∧ (wlkS n v sh ro i u).2 = t) := fun q => h3 q.2
        rw [if_neg h3, if_neg hno]
        exact ⟨I', f1, hfr f2⟩
    · obtain ⟨I', f1, f2⟩ := ih a l I1 (by omega) hk1 hs1
      have hno : ¬ ((wlkS n v sh ro i u).1 = none ∧ (wlkS n v sh ro i u).2 = t) := fun q => h1 q.1
      rw [if_pos h1, if_neg hno]
      exact ⟨I', f1, hfr f2⟩
theorem m_begun (hk : kitM n v I) (hs : shM sh ro I L) (ho : shOk b sh) : ∃ I', jev d 237 [.ref 58, .int x, .int y, .int z] (jmk I L c e) = some (some (.int (opBegun n v sh ro x y z)), jmk I' L c e) ∧ ∀ q t, ¬ (q = 58 ∧ t = 52) → I' q t = I q t := by
  unfold opBegun fdI
  rw [jb_237_0, q_169]
  simp only [Option.bind_some, jps]
  rw [jb_237_4, q_167]
  simp only [Option.bind_some, jps]
  rw [jb_237_11, q_163]
  simp only [Option.bind_some, jps]
  rw [jb_237_20]
  simp only [Bool.cond_decide, j01, Decidable.not_not, Int32.reduceToInt]
  have stay : ∀ w u : Int32, w = u → ∃ I', some (some (Value.int w), jmk I L c e) = some (some (.int u), jmk I' L c e) ∧ ∀ q t, ¬ (q = 58 ∧ t = 52) → I' q t = I q t := fun w u h => ⟨I, by rw [h], fun _ _ _ => rfl⟩
  by_cases hx : jin x 6
  · rw [if_neg (fun q => q hx)]
    by_cases hy : jin y 54
    · have hxy : jin x 6 ∧ jin y 54 := ⟨hx, hy⟩
      have hyy : ¬¬ jin y 54 := fun q => q hy
      rw [if_neg hyy, if_pos hxy]
      by_cases hz : 0 ≤ z.toInt ∧ z.toInt ≤ 1
      · rw [if_pos hz, if_pos hz]
        obtain ⟨i, hi, rfl⟩ := (jin_iff (by omega)).mp hx
        obtain ⟨t, ht, rfl⟩ := (jin_iff (by omega)).mp hy
        rw [q_223 hs ho hi, jcl' (by omega), jcl' (by omega)]
        simp only [Option.bind_some, jps]
        rw [jb_237_30, bar_0.2]
        by_cases h : barI (sh i) = 0
        · obtain ⟨I', r1, r2⟩ := q_237l (z := z) (L := L) (d := d) (c := c) (e := e) ho hi (bar_0.1.mp h) ht (x4 := barI (sh i)) 54 0 (-2) I (by decide) hk hs
          rw [decide_eq_true h, cond_true, if_pos h]
          exact ⟨I', r1, r2⟩
        · rw [decide_eq_false h, cond_false, if_neg h]
          exact stay _ _ rfl
      · rw [if_neg hz, if_neg hz]
        exact stay _ _ rfl
    · have hno : ¬ (jin x 6 ∧ jin y 54) := fun q => hy q.2
      rw [if_pos hy, if_neg hno, if_neg (show ¬ (-1 : Int32) = 0 by decide)]
      exact stay _ _ (by split <;> rfl)
  · have hno : ¬ (jin x 6 ∧ jin y 54) := fun q => hx q.1
    rw [if_pos hx, if_neg hno, if_neg (show ¬ (-1 : Int32) = 0 by decide)]
    exact stay _ _ (by split <;> rfl)
end BGN
