/-! seconds: the class -/
def envS (p h f n k m : Nat) : Nat → Int32 := fun i => nI (if i = 0 then p else if i = 1 then h else if i = 2 then f else if i = 3 then n else if i = 4 then k else m)
def clp (x : Int32) : Int32 := if 0 < (if x < 99 then x else 99) then (if x < 99 then x else 99) else 0
/-- how many seconds: deft p, hard h, fold f, notch n, knows k, move m -/
def secI (lw : List aLn) (p h f n k m : Nat) : Int32 := if lw = [] then nI (max 1 ((1 + h) * (2 - k) - p / 3)) else clp (secL (envS p h f n k m) lw)
def secN (lw : List aLn) (p h f n k m : Nat) : Nat := (secI lw p h f n k m).toInt.toNat
section SEC
variable {d : Nat} {I I' : Nat → Nat → Int32} {L : Nat → Nat → Int64} {c e : Nat} {x y z : Int32} {lw : List aLn} {p h f n k m : Nat}
theorem clp_le (x : Int32) : 0 ≤ (clp x).toInt ∧ (clp x).toInt ≤ 99 := by
  unfold clp
  have h1 : x < 99 ↔ x.toInt < 99 := jlt_iff
  have h2 : 0 < x ↔ 0 < x.toInt := jlt_iff
  by_cases q : x < 99
  · rw [if_pos q]
    by_cases r : 0 < x
    · have q1 := h1.mp q
      have r1 := h2.mp r
      rw [if_pos r]; omega
    · rw [if_neg r]; decide
  · rw [if_neg q]; decide
theorem secI_le (hh : h ≤ 9) (hk : k ≤ 1) : 0 ≤ (secI lw p h f n k m).toInt ∧ (secI lw p h f n k m).toInt ≤ 99 := by
  unfold secI
  split
  · have h1 : (1 + h) * (2 - k) ≤ 20 := Nat.le_trans (Nat.mul_le_mul (show 1 + h ≤ 10 by omega) (show 2 - k ≤ 2 by omega)) (by decide)
    have h2 : max 1 ((1 + h) * (2 - k) - p / 3) ≤ 20 := by omega
    rw [nI_toInt (by omega)]
    omega
  · exact clp_le _
theorem secN_I (hh : h ≤ 9) (hk : k ≤ 1) : secI lw p h f n k m = nI (secN lw p h f n k m) ∧ secN lw p h f n k m ≤ 99 := by
  obtain ⟨h1, h2⟩ := secI_le (lw := lw) (p := p) (f := f) (n := n) (m := m) hh hk
  exact ⟨jnat h1, by unfold secN; omega⟩
theorem fC_0 : (fC lw).length = 0 ↔ lw = [] := by
  cases lw with
  | nil => exact ⟨fun _ => rfl, fun _ => rfl⟩
  | cons x r =>
    obtain ⟨a, b⟩ := x
    rw [fC_len]
    constructor
    · intro h; omega
    · intro h; cases h
theorem mxI {a b : Nat} (ha : a < 2 ^ 30) (hb : b < 2 ^ 30) : (if 1 < nI a - nI b then nI a - nI b else 1) = nI (max 1 (a - b)) := by
  have e1 : (nI a - nI b).toInt = (a : Int) - b := by
    rw [Int32.toInt_sub, nI_toInt (by omega), nI_toInt (by omega), Int.bmod_eq_of_le (by omega) (by omega)]
  have h1 : (1 : Int32) < nI a - nI b ↔ 1 < (nI a - nI b).toInt := jlt_iff
  by_cases q : (1 : Int32) < nI a - nI b
  · have q1 := h1.mp q
    rw [if_pos q, nI_sub (by omega) (by omega), Nat.max_eq_right (by omega)]
  · have q1 : ¬ 1 < (nI a - nI b).toInt := fun z => q (h1.mpr z)
    rw [if_neg q, Nat.max_eq_left (by omega)]
    rfl
/-- without a text -/
theorem sec_0 (hp : p ≤ 9) (hh : h ≤ 9) (hk : k ≤ 1) : (if 1 < ((1 + nI h) * (2 - nI k)) - (nI p / 3) then ((1 + nI h) * (2 - nI k)) - (nI p / 3) else 1) = nI (max 1 ((1 + h) * (2 - k) - p / 3)) := by
  have e1 : nI p / 3 = nI (p / 3) := pk_div (by omega) (by decide) (by decide)
  have e2 : (2 : Int32) - nI k = nI (2 - k) := nI_sub (i := 2) (by omega) (by decide)
  have e3 : (1 : Int32) + nI h = nI (1 + h) := by rw [jI_lit, nI_add]
  have h1 : (1 + h) * (2 - k) ≤ 20 := Nat.le_trans (Nat.mul_le_mul (show 1 + h ≤ 10 by omega) (show 2 - k ≤ 2 by omega)) (by decide)
  rw [e1, e2, e3, pk_mul, mxI (by omega) (by omega)]
theorem envS_at : (fun i => nI (if i = 0 then p else if i = 1 then h else if i = 2 then f else if i = 3 then n else if i = 4 then k else m)) = envS p h f n k m := rfl
theorem q_37 (hce : ceOk c e) (ho : lwOk lw) (hl : lwC lw c I) (hp : p ≤ 9) (hh : h ≤ 9) (hk : k ≤ 1) : ∃ I', jev d 37 [.ref 1, .int (nI p), .int (nI h), .int (nI f), .int (nI n), .int (nI k), .int (nI m)] (jmk I L c e) = some (some (.int (secI lw p h f n k m)), jmk I' L c e) ∧ ∀ q j, ¬ (q = 1 ∧ j = 8) → q ≠ 3 → q ≠ 4 → I' q j = I q j := by
  obtain ⟨l1, l2⟩ := hl
  obtain ⟨o1, o2⟩ := ho
  have hcc := ce_lt hce
  unfold secI
  rw [jb_37_0, l1]
  by_cases h0 : lw = []
  · have e0 := fC_0.mpr h0
    rw [if_pos h0, e0, show decide (¬ nI 0 = 0) = false from rfl, cond_false, sec_0 hp hh hk]
    exact ⟨I, rfl, fun _ _ _ _ _ => rfl⟩
  · have e0 : ¬ nI (fC lw).length = 0 := by
      rw [show (0 : Int32) = nI 0 from rfl, nI_eq (by omega) (by omega)]
      exact fun q => h0 (fC_0.mp q)
    rw [if_neg h0, decide_eq_true e0, cond_true]
    rw [show decide (jin 0 6) = true from rfl, show decide (jin 1 6) = true from rfl, show decide (jin 2 6) = true from rfl, show decide (jin 3 6) = true from rfl, show decide (jin 4 6) = true from rfl, show decide (jin 5 6) = true from rfl]
    simp only [cond_true]
    rw [show (0 : Int32).toNatClampNeg = 0 from rfl, show (1 : Int32).toNatClampNeg = 1 from rfl, show (2 : Int32).toNatClampNeg = 2 from rfl, show (3 : Int32).toNatClampNeg = 3 from rfl, show (4 : Int32).toNatClampNeg = 4 from rfl, show (5 : Int32).toNatClampNeg = 5 from rfl]
    have hI1 : ∀ q j, q ≠ 4 → ju (ju (ju (ju (ju (ju I 4 0 (nI p)) 4 1 (nI h)) 4 2 (nI f)) 4 3 (nI n)) 4 4 (nI k)) 4 5 (nI m) q j = I q j := by
      intro q j hq
      simp [ju_get, hq]
    have hn : ∀ i, i < 6 → ju (ju (ju (ju (ju (ju I 4 0 (nI p)) 4 1 (nI h)) 4 2 (nI f)) 4 3 (nI n)) 4 4 (nI k)) 4 5 (nI m) 4 i = envS p h f n k m i := by
      intro i hi
      have : i = 0 ∨ i = 1 ∨ i = 2 ∨ i = 3 ∨ i = 4 ∨ i = 5 := by omega
      rcases this with rfl | rfl | rfl | rfl | rfl | rfl <;> rfl
    generalize ju (ju (ju (ju (ju (ju I 4 0 (nI p)) 4 1 (nI h)) 4 2 (nI f)) 4 3 (nI n)) 4 4 (nI k)) 4 5 (nI m) = I1 at hI1 hn
    obtain ⟨I2, f1, f2⟩ := q_47w (d := d) (L := L) hce o1 lw 0 (ju I1 1 8 0) .null o2 (cdAt_fr (fun j _ _ => by rw [ju_get, if_neg (by omega)]; exact hI1 c j (by omega)) l2) (by omega) ((hI1 1 5 (by decide)).trans l1) rfl hn
    refine ⟨I2, ?_, fun q j h1 h2 h3 => (f2 q j h1 h2).trans (by rw [ju_get, if_neg h1]; exact hI1 q j h3)⟩
    rw [jb_47_0 hce]
    rw [show jat d 47 9 [.ref 1, .int 0, .int 0, .null] [] (jmk (ju I1 1 8 0) L c e) = _ from f1]
    simp only [Option.bind_some, jps]
    rw [jb_37_76]
    rfl
end SEC
