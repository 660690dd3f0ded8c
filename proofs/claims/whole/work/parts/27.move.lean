/-! move: one more move comes -/
theorem jnat {x : Int32} (h : 0 ≤ x.toInt) : x = nI x.toInt.toNat := by
  apply Int32.toInt_inj.mp
  rw [nI_toInt (by have := x.toInt_lt; omega)]
  omega
/-- the reference's moves -/
def kitM (n : Nat) (v : Nat → aMv) (I : Nat → Nat → Int32) : Prop := n ≤ 12 ∧ I 58 0 = nI n ∧ ∀ i, i < n → mvOk (v i) ∧ I 59 i = nI (v i).1 ∧ I 60 i = nI (v i).2.1 ∧ I 61 i = nI (v i).2.2.1 ∧ I 62 i = nI (v i).2.2.2.1 ∧ I 63 i = nI (v i).2.2.2.2
def mvN (a b c d e : Int32) : aMv := (a.toInt.toNat, b.toInt.toNat, c.toInt.toNat, d.toInt.toNat, e.toInt.toNat)
theorem mvN_ok {a b c d e : Int32} (h : mvI a b c d e) : mvOk (mvN a b c d e) ∧ a = nI (mvN a b c d e).1 ∧ b = nI (mvN a b c d e).2.1 ∧ c = nI (mvN a b c d e).2.2.1 ∧ d = nI (mvN a b c d e).2.2.2.1 ∧ e = nI (mvN a b c d e).2.2.2.2 := by
  obtain ⟨h1, h2, h3, h4, h5, h6, h7, h8, h9, h10, h11⟩ := h
  refine ⟨⟨?_, ?_, ?_, ?_, ?_, ?_, ?_⟩, jnat h1, jnat (by omega), jnat h5, jnat h8, jnat h10⟩ <;> simp only [mvN] <;> omega
def vup (v : Nat → aMv) (n : Nat) (x : aMv) : Nat → aMv := fun i => if i = n then x else v i
/-- what a new move answers, how many there are then, which -/
def newMv (n : Nat) (v : Nat → aMv) (x : aMv) : Int32 × Nat × (Nat → aMv) := if n = 12 then (-3, n, v) else (nI n, n + 1, vup v n x)
section MVE
variable {d : Nat} {I : Nat → Nat → Int32} {L : Nat → Nat → Int64} {c e : Nat} {x y z u w : Int32} {n : Nat} {v : Nat → aMv}
theorem q_58 (h : kitC n v I) (hm : mvI x y z u w) : ∃ I', jev d 58 [.ref 7, .int x, .int y, .int z, .int u, .int w] (jmk I L c e) = some (some (.int (newMv n v (mvN x y z u w)).1), jmk I' L c e) ∧ kitC (newMv n v (mvN x y z u w)).2.1 (newMv n v (mvN x y z u w)).2.2 I' ∧ ∀ q, (q < 7 ∨ 13 < q) → I' q = I q := by
  obtain ⟨hok, e1, e2, e3, e4, e5⟩ := mvN_ok hm
  obtain ⟨⟨hn, hs, hv⟩, hch⟩ := h
  unfold newMv
  by_cases h12 : n = 12
  · subst h12
    refine ⟨I, ?_, by rw [if_pos rfl]; exact ⟨⟨hn, hs, hv⟩, hch⟩, fun _ _ => rfl⟩
    rw [if_pos rfl, jb_58_0, hs]
    rfl
  · rw [if_neg h12]
    have hlt : n < 12 := by omega
    have hk0 : kitC0 (n + 1) (vup v n (mvN x y z u w)) (ju (ju (ju (ju (ju (ju I 7 6 (nI n + 1)) 8 n x) 9 n y) 10 n z) 11 n u) 12 n w) := by
      refine ⟨by omega, by rw [nI_1]; rfl, fun i hi => ?_⟩
      by_cases hin : i = n
      · subst hin
        simp only [vup, if_true, ju_get]
        exact ⟨hok, by simpa using e1, by simpa using e2, by simpa using e3, by simpa using e4, by simpa using e5⟩
      · have hi' : i < n := by omega
        have hvi := hv i hi'
        simp only [vup, if_neg hin, ju_get]
        simpa [hin] using hvi
    refine ⟨chI (ju (ju (ju (ju (ju (ju I 7 6 (nI n + 1)) 8 n x) 9 n y) 10 n z) 11 n u) 12 n w) n (mvN x y z u w) 54, ?_, ⟨⟨hk0.1, hk0.2.1, hk0.2.2⟩, ?_⟩, ?_⟩
    · rw [jb_58_0, hs, decide_eq_true (show nI n < 12 from nI_lt hlt (by decide)), jdI hlt, jcl' (by omega)]
      simp only [cond_true]
      rw [nI_1]
      rw [nI_1] at hk0
      have := q_59 (d := d) (L := L) (c := c) (e := e) hk0 (i := n) (by omega)
      simp only [vup, if_true] at this
      rw [this]
      simp only [Option.bind_some, jps, jb_58_76]
    · intro i hi s hs54
      have hi : i < n + 1 := hi
      unfold chI
      by_cases hin : i = n
      · subst hin
        rw [if_pos ⟨rfl, by omega, by omega⟩]
        simp [vup]
      · rw [if_neg (by omega)]
        simp only [vup, if_neg hin, ju_get]
        simpa using hch i (by omega) s hs54
    · intro q hq
      funext j
      unfold chI
      rw [if_neg (by omega)]
      simp only [ju_get]
      simp [show q ≠ 7 by omega, show q ≠ 8 by omega, show q ≠ 9 by omega, show q ≠ 10 by omega, show q ≠ 11 by omega, show q ≠ 12 by omega]
theorem q_174 (h : kitM n v I) (hlt : n < 12) (hm : mvI x y z u w) : ∃ I', jev d 174 [.ref 58, .int x, .int y, .int z, .int u, .int w] (jmk I L c e) = some (some (.int (nI n)), jmk I' L c e) ∧ kitM (n + 1) (vup v n (mvN x y z u w)) I' ∧ ∀ q j, ¬ (q = 58 ∧ j = 0) → (q < 59 ∨ 63 < q) → I' q j = I q j := by
  obtain ⟨hok, e1, e2, e3, e4, e5⟩ := mvN_ok hm
  obtain ⟨hn, hs, hv⟩ := h
  refine ⟨ju (ju (ju (ju (ju (ju I 59 n x) 60 n y) 61 n z) 62 n u) 63 n w) 58 0 (nI n + 1), ?_, ⟨by omega, by rw [nI_1]; rfl, fun i hi => ?_⟩, ?_⟩
  · rw [jb_174_0, hs, jdI hlt, jcl' (by omega)]
    rfl
  · by_cases hin : i = n
    · subst hin
      simp only [vup, if_true, ju_get]
      exact ⟨hok, by simpa using e1, by simpa using e2, by simpa using e3, by simpa using e4, by simpa using e5⟩
    · have hvi := hv i (by omega)
      simp only [vup, if_neg hin, ju_get]
      simpa [hin] using hvi
  · intro q j h1 h2
    simp only [ju_get]
    rw [if_neg h1]
    simp [show q ≠ 59 by omega, show q ≠ 60 by omega, show q ≠ 61 by omega, show q ≠ 62 by omega, show q ≠ 63 by omega]
/-- move, by its arguments -/
def opMove (n : Nat) (v : Nat → aMv) (x y : Int32) : Int32 × Nat × (Nat → aMv) := if 0 ≤ x.toInt ∧ srI (x / 10) (x - x / 10 * 10) y then newMv n v (mvN (x / 10) (x - x / 10 * 10) y 3 1) else (-1, n, v)
theorem sr_mv {a b c : Int32} : mvI a b c 3 1 ↔ srI a b c := by
  have h3 : (3 : Int32).toInt = 3 := rfl
  have h1 : (1 : Int32).toInt = 1 := rfl
  constructor
  · intro h; omega
  · intro h; omega
theorem c_move (h : kitC n v I) : ∃ I', jev d 96 [.ref 0, .int x, .int y] (jmk I L c e) = some (some (.int (opMove n v x y).1), jmk I' L c e) ∧ kitC (opMove n v x y).2.1 (opMove n v x y).2.2 I' ∧ ∀ q, (q < 7 ∨ 13 < q) → I' q = I q := by
  unfold opMove
  by_cases h0 : x < 0
  · refine ⟨I, ?_, by rw [if_neg (by rw [jlt_iff] at h0; simp only [Int32.reduceToInt] at h0; omega)]; exact h, fun _ _ => rfl⟩
    rw [if_neg (by rw [jlt_iff] at h0; simp only [Int32.reduceToInt] at h0; omega), jb_96_0, decide_eq_true h0]
    rfl
  · have h0' : 0 ≤ x.toInt := by rw [jlt_iff] at h0; simp only [Int32.reduceToInt] at h0; omega
    by_cases hm : srI (x / 10) (x - x / 10 * 10) y
    · rw [if_pos ⟨h0', hm⟩]
      obtain ⟨I', g1, g2, g3⟩ := q_58 (d := d) (L := L) (c := c) (e := e) h (sr_mv.mpr hm)
      refine ⟨I', ?_, g2, g3⟩
      rw [jb_96_0, decide_eq_false h0, q_149, if_pos (sr_mv.mpr hm)]
      simp only [cond_false, Option.bind_some, jps]
      rw [jb_96_24, jt_1, g1]
      simp only [cond_true, Option.bind_some, jps, jb_96_42]
    · rw [if_neg (fun q => hm q.2)]
      refine ⟨I, ?_, h, fun _ _ => rfl⟩
      rw [jb_96_0, decide_eq_false h0, q_149, if_neg (fun q => hm (sr_mv.mp q))]
      simp only [cond_false, Option.bind_some, jps]
      rw [jb_96_24, jt_3]
      rfl
theorem m_move (h : kitM n v I) : ∃ I', jev d 175 [.ref 58, .int x, .int y] (jmk I L c e) = some (some (.int (opMove n v x y).1), jmk I' L c e) ∧ kitM (opMove n v x y).2.1 (opMove n v x y).2.2 I' ∧ ∀ q j, ¬ (q = 58 ∧ j = 0) → (q < 59 ∨ 63 < q) → I' q j = I q j := by
  unfold opMove
  by_cases h0 : x < 0
  · have hneg : ¬ (0 ≤ x.toInt ∧ srI (x / 10) (x - x / 10 * 10) y) := by rw [jlt_iff] at h0; simp only [Int32.reduceToInt] at h0; omega
    rw [if_neg hneg]
    refine ⟨I, ?_, h, fun _ _ _ _ => rfl⟩
    rw [jb_175_0, decide_eq_true h0]
    rfl
  · have h0' : 0 ≤ x.toInt := by rw [jlt_iff] at h0; simp only [Int32.reduceToInt] at h0; omega
    rw [jb_175_0, decide_eq_false h0, q_173]
    simp only [cond_false, Option.bind_some, jps]
    by_cases hm : srI (x / 10) (x - x / 10 * 10) y
    · rw [if_pos hm, if_pos ⟨h0', hm⟩, jb_175_16, jt_1, h.2.1]
      simp only [cond_true]
      unfold newMv
      by_cases h12 : n = 12
      · rw [if_pos h12, h12]
        refine ⟨I, ?_, by rw [h12] at h; exact h, fun _ _ _ _ => rfl⟩
        rw [show decide (¬ nI 12 = 12) = false from rfl]
        exact jb_175_50 ..
      · rw [if_neg h12]
        have hlt : n < 12 := by have := h.1; omega
        obtain ⟨I', g1, g2, g3⟩ := q_174 (d := d) (L := L) (c := c) (e := e) h hlt (sr_mv.mpr hm)
        refine ⟨I', ?_, g2, g3⟩
        rw [decide_eq_true (by rw [jI_lit, nI_eq (by omega) (by decide)]; exact h12), g1]
        simp only [cond_true, Option.bind_some, jps, jb_175_50]
    · rw [if_neg hm, if_neg (fun q => hm q.2)]
      exact ⟨I, by rw [jb_175_16, jt_3]; rfl, h, fun _ _ _ _ => rfl⟩
end MVE
