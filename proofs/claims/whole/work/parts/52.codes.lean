/-! the law as told: codes, what they come to; the class's step -/
abbrev aLn : Type := List Nat × List Nat
/-- a code as the class writes it -/
def cT (k : Nat) : Int32 := if k < 18 then ([-300, -301, -302, -303, -304, -305, -124, -38, -60, -61, -62, -43, -45, -42, -47, -37, -4, -3] : List Int32).getD k 0 else nI (k - 18)
def both (k : Nat) (x y : Int32) : Int32 := if k = 6 then (if ¬ x = 0 then 1 else if y = 0 then 0 else 1) else if k = 7 then (if x = 0 then 0 else if y = 0 then 0 else 1) else if k = 8 then (if y ≤ x then 0 else 1) else if k = 9 then (if ¬ x = y then 0 else 1) else if k = 10 then (if x ≤ y then 0 else 1) else if k = 11 then x + y else if k = 12 then x - y else if k = 13 then x * y else if k = 14 then (if ¬ y = 0 then x / y else 0) else (if ¬ y = 0 then x - x / y * y else 0)
def dpt (k t : Nat) : Option Nat := if t < 6 ∨ 18 ≤ t then some (k + 1) else if t < 16 then (if 2 ≤ k then some (k - 1) else none) else (if 1 ≤ k then some k else none)
def wfF : List Nat → Nat → Option Nat
  | [], k => some k
  | t :: l, k => (dpt k t).bind (wfF l)
def evS (env : Nat → Int32) (s : List Int32) (t : Nat) : List Int32 := if t < 6 then env t :: s else if 18 ≤ t then nI (t - 18) :: s else if t < 16 then (match s with | y :: x :: r => both t x y :: r | _ => s) else (match s with | a :: r => (if t = 17 then -a else if ¬ a = 0 then 0 else 1) :: r | _ => s)
def evL (env : Nat → Int32) (l : List Nat) (s : List Int32) : List Int32 := l.foldl (evS env) s
def tp : List Int32 → Int32
  | [] => 0
  | a :: _ => a
def secL (env : Nat → Int32) : List aLn → Int32
  | [] => 0
  | (a, b) :: r => if a ≠ [] ∧ tp (evL env a []) = 0 then secL env r else tp (evL env b [])
def fC : List aLn → List Int32
  | [] => []
  | (a, b) :: r => (if a = [] then [] else a.map cT ++ [-2]) ++ (b.map cT ++ (-1 :: fC r))
/-- the stack in a row -/
def stR (p : Nat) (I : Nat → Nat → Int32) : List Int32 → Prop
  | [] => True
  | a :: s => I p s.length = a ∧ stR p I s
def cdAt (p : Nat) (I : Nat → Nat → Int32) : Nat → List Int32 → Prop
  | _, [] => True
  | i, a :: l => I p i = a ∧ cdAt p I (i + 1) l
def lnOk (x : aLn) : Prop := (x.1 = [] ∨ wfF x.1 0 = some 1) ∧ wfF x.2 0 = some 1 ∧ (∀ t, t ∈ x.1 → t < 10018) ∧ ∀ t, t ∈ x.2 → t < 10018
def lwOk (lw : List aLn) : Prop := (fC lw).length ≤ 121 ∧ ∀ x, x ∈ lw → lnOk x
def ceOk (c e : Nat) : Prop := (c = 5 ∧ e = 6) ∨ (c = 6 ∧ e = 5)
def lwC (lw : List aLn) (c : Nat) (I : Nat → Nat → Int32) : Prop := I 1 5 = nI (fC lw).length ∧ cdAt c I 0 (fC lw)
section CDE
variable {d : Nat} {I I' : Nat → Nat → Int32} {L : Nat → Nat → Int64} {c e : Nat} {x y z : Int32} {env : Nat → Int32} {p i k k' t : Nat} {s : List Int32}
theorem stR_fr : ∀ {s : List Int32}, (∀ j, j < s.length → I' p j = I p j) → stR p I s → stR p I' s := by
  intro s
  induction s with
  | nil => intro _ _; trivial
  | cons a s ih =>
    intro h hs
    exact ⟨(h s.length (Nat.lt_succ_self _)).trans hs.1, ih (fun j hj => h j (Nat.lt_succ_of_lt hj)) hs.2⟩
theorem cdAt_fr : ∀ {l : List Int32} {i : Nat}, (∀ j, i ≤ j → j < i + l.length → I' p j = I p j) → cdAt p I i l → cdAt p I' i l := by
  intro l
  induction l with
  | nil => intro i _ _; trivial
  | cons a l ih =>
    intro i h hs
    rw [List.length_cons] at h
    exact ⟨(h i (Nat.le_refl _) (by omega)).trans hs.1, ih (fun j h1 h2 => h j (by omega) (by omega)) hs.2⟩
theorem cdAt_app : ∀ {l l2 : List Int32} {i : Nat}, cdAt p I i (l ++ l2) ↔ cdAt p I i l ∧ cdAt p I (i + l.length) l2 := by
  intro l
  induction l with
  | nil => intro l2 i; simp [cdAt]
  | cons a l ih =>
    intro l2 i
    rw [List.cons_append, List.length_cons]
    show (I p i = a ∧ cdAt p I (i + 1) (l ++ l2)) ↔ (I p i = a ∧ cdAt p I (i + 1) l) ∧ cdAt p I (i + (l.length + 1)) l2
    rw [ih, show i + (l.length + 1) = i + 1 + l.length by omega]
    exact and_assoc.symm
theorem q_50 (h : I 1 8 = nI k) (hk : k < 120) : jev d 50 [.ref 1, .int x] (jmk I L c e) = some (none, jmk (ju (ju I 3 k x) 1 8 (nI (k + 1))) L c e) := by
  rw [jb_50_0, h, decide_eq_false (show ¬ Int32.ofNat 120 ≤ nI k by show ¬ nI 120 ≤ nI k; rw [nI_leI (by omega) (by omega)]; omega), cond_false, jdI hk, cond_true, jcl' (by omega), nI_1]
theorem q_51 (h : I 1 8 = nI (k + 1)) (hk : k < 120) : jev d 51 [.ref 1] (jmk I L c e) = some (some (.int (I 3 k)), jmk (ju I 1 8 (nI k)) L c e) := by
  have e1 : nI (k + 1) - 1 = nI k := nI_sub (j := 1) (by omega) (by omega)
  rw [jb_51_0, h, decide_eq_true (show (0 : Int32) < nI (k + 1) from nI_lt (a := 0) (by omega) (by omega)), cond_true, e1, jdI hk, cond_true, jcl' (by omega)]
theorem q_49 (h6 : 6 ≤ t) (h16 : t < 16) : jev d 49 [.int (-(cT t)), .int x, .int y] (jmk I L c e) = some (some (.int (both t x y)), jmk I L c e) := by
  have : t = 6 ∨ t = 7 ∨ t = 8 ∨ t = 9 ∨ t = 10 ∨ t = 11 ∨ t = 12 ∨ t = 13 ∨ t = 14 ∨ t = 15 := by omega
  rw [jb_49_0, jb_49_1]
  rcases this with rfl | rfl | rfl | rfl | rfl | rfl | rfl | rfl | rfl | rfl
  · show jat d 49 84 _ _ _ = _
    rw [jb_49_84]
    simp only [Bool.cond_decide, both, if_pos]
    repeat' split
    all_goals rfl
  · show jat d 49 98 _ _ _ = _
    rw [jb_49_98]
    simp only [Bool.cond_decide]
    show _ = some (some (Value.int (if x = 0 then 0 else if y = 0 then 0 else 1)), _)
    repeat' split
    all_goals rfl
  · show jat d 49 112 _ _ _ = _
    rw [jb_49_112]
    simp only [Bool.cond_decide]
    show _ = some (some (Value.int (if y ≤ x then 0 else 1)), _)
    split <;> rfl
  · show jat d 49 123 _ _ _ = _
    rw [jb_49_123]
    simp only [Bool.cond_decide]
    show _ = some (some (Value.int (if ¬ x = y then 0 else 1)), _)
    split <;> rfl
  · show jat d 49 134 _ _ _ = _
    rw [jb_49_134]
    simp only [Bool.cond_decide]
    show _ = some (some (Value.int (if x ≤ y then 0 else 1)), _)
    split <;> rfl
  · exact jb_49_145 ..
  · exact jb_49_149 ..
  · exact jb_49_153 ..
  · show jat d 49 157 _ _ _ = _
    rw [jb_49_157]
    simp only [Bool.cond_decide]
    show _ = some (some (Value.int (if ¬ y = 0 then x / y else 0)), _)
    split <;> rfl
  · show jat d 49 169 _ _ _ = _
    rw [jb_49_169]
    simp only [Bool.cond_decide]
    show _ = some (some (Value.int (if ¬ y = 0 then x - x / y * y else 0)), _)
    split <;> rfl
theorem q_200 (h6 : 6 ≤ t) (h16 : t < 16) : jev d 200 [.int (nI t), .int x, .int y] (jmk I L c e) = some (some (.int (both t x y)), jmk I L c e) := by
  have : t = 6 ∨ t = 7 ∨ t = 8 ∨ t = 9 ∨ t = 10 ∨ t = 11 ∨ t = 12 ∨ t = 13 ∨ t = 14 ∨ t = 15 := by omega
  rw [jb_200_0, jb_200_1]
  rcases this with rfl | rfl | rfl | rfl | rfl | rfl | rfl | rfl | rfl | rfl
  · show jat d 200 52 _ _ _ = _
    rw [jb_200_52]
    simp only [Bool.cond_decide]
    show _ = some (some (Value.int (if ¬ x = 0 then 1 else if y = 0 then 0 else 1)), _)
    repeat' split
    all_goals rfl
  · show jat d 200 66 _ _ _ = _
    rw [jb_200_66]
    simp only [Bool.cond_decide]
    show _ = some (some (Value.int (if x = 0 then 0 else if y = 0 then 0 else 1)), _)
    repeat' split
    all_goals rfl
  · show jat d 200 80 _ _ _ = _
    rw [jb_200_80]
    simp only [Bool.cond_decide]
    show _ = some (some (Value.int (if y ≤ x then 0 else 1)), _)
    split <;> rfl
  · show jat d 200 91 _ _ _ = _
    rw [jb_200_91]
    simp only [Bool.cond_decide]
    show _ = some (some (Value.int (if ¬ x = y then 0 else 1)), _)
    split <;> rfl
  · show jat d 200 102 _ _ _ = _
    rw [jb_200_102]
    simp only [Bool.cond_decide]
    show _ = some (some (Value.int (if x ≤ y then 0 else 1)), _)
    split <;> rfl
  · exact jb_200_113 ..
  · exact jb_200_117 ..
  · exact jb_200_121 ..
  · show jat d 200 125 _ _ _ = _
    rw [jb_200_125]
    simp only [Bool.cond_decide]
    show _ = some (some (Value.int (if ¬ y = 0 then x / y else 0)), _)
    split <;> rfl
  · show jat d 200 137 _ _ _ = _
    rw [jb_200_137]
    simp only [Bool.cond_decide]
    show _ = some (some (Value.int (if ¬ y = 0 then x - x / y * y else 0)), _)
    split <;> rfl
theorem cT_all : (∀ t, t < 6 → cT t < 0 ∧ ¬ (-300 : Int32) < cT t ∧ (-300 : Int32) - cT t = nI t) ∧ (∀ t, t < 16 → 6 ≤ t → cT t < 0 ∧ (-300 : Int32) < cT t ∧ ¬ cT t = -3 ∧ ¬ cT t = -4) ∧ ∀ t, t < 18 → ¬ cT t = -1 ∧ ¬ cT t = -2 := by decide
theorem cT_num (h : 18 ≤ t) (h2 : t < 10018) : cT t = nI (t - 18) ∧ ¬ cT t < 0 ∧ ¬ cT t = -1 ∧ ¬ cT t = -2 := by
  have e1 : cT t = nI (t - 18) := by
    unfold cT
    rw [if_neg (by omega)]
  have e2 := nI_toInt (show t - 18 < 2 ^ 31 by omega)
  refine ⟨e1, ?_, ?_, ?_⟩
  · rw [e1, jlt_iff, e2]
    simp only [Int32.reduceToInt]
    omega
  · rw [e1, jeq_iff, e2]
    simp only [Int32.reduceToInt]
    omega
  · rw [e1, jeq_iff, e2]
    simp only [Int32.reduceToInt]
    omega
theorem cT_not (h2 : t < 10018) : ¬ cT t = -1 ∧ ¬ cT t = -2 := by
  by_cases h : t < 18
  · exact cT_all.2.2 t h
  · exact (cT_num (by omega) h2).2.2
theorem stR_push (hs : stR 3 I s) (hl : s.length = k) {w : Int32} : stR 3 (ju (ju I 3 k x) 1 8 w) (x :: s) := by
  subst hl
  refine ⟨by simp [ju_get], stR_fr (fun j hj => ?_) hs⟩
  rw [ju_get, if_neg (by omega), ju_get, if_neg (by omega)]
theorem ju_st {u w : Int32} {q j : Nat} (h1 : ¬ (q = 1 ∧ j = 8)) (h3 : q ≠ 3) : ju (ju I 3 k u) 1 8 w q j = I q j := by
  rw [ju_get, if_neg h1, ju_get, if_neg (fun h => h3 h.1)]
theorem q_48 (hcc : t < 10018) (hd : dpt k t = some k') (hl : s.length = k) (hk : k < 120) (hs : stR 3 I s) (ht : I 1 8 = nI k) (hn : ∀ i, i < 6 → I 4 i = env i) : ∃ I', jev d 48 [.ref 1, .int (cT t)] (jmk I L c e) = some (none, jmk I' L c e) ∧ (evS env s t).length = k' ∧ stR 3 I' (evS env s t) ∧ I' 1 8 = nI k' ∧ ∀ q j, ¬ (q = 1 ∧ j = 8) → q ≠ 3 → I' q j = I q j := by
  unfold dpt at hd
  unfold evS
  rw [jb_48_0]
  by_cases h6 : t < 6
  · obtain ⟨a1, a2, a3⟩ := cT_all.1 t h6
    rw [if_pos (Or.inl h6)] at hd
    cases hd
    rw [if_pos h6, decide_eq_true a1, cond_true, jb_48_12, decide_eq_false a2, cond_false, jb_48_19, a3, jb_48_24, jb_48_25, jb_48_31, jb_48_32, decide_eq_false (show ¬ Int32.ofNat 6 ≤ nI t by show ¬ nI 6 ≤ nI t; rw [nI_leI (by omega) (by omega)]; omega), cond_false, jb_48_35, jdI h6, cond_true, jcl' (by omega), hn t h6, jb_48_45, q_50 ht hk]
    refine ⟨_, ?_, by simp [hl], stR_push hs hl, rfl, fun q j h1 h3 => ju_st h1 h3⟩
    simp only [Option.bind_some, jps]
    rw [jb_48_48, jb_48_113] <;> rfl
  · rw [if_neg h6]
    by_cases h18 : 18 ≤ t
    · obtain ⟨a1, a2, -⟩ := cT_num h18 hcc
      rw [if_pos (Or.inr h18)] at hd
      cases hd
      rw [if_pos h18, decide_eq_false a2, cond_false, q_50 ht hk, a1]
      refine ⟨_, ?_, by simp [hl], stR_push hs hl, rfl, fun q j h1 h3 => ju_st h1 h3⟩
      simp only [Option.bind_some, jps]
      rw [jb_48_9, jb_48_113] <;> rfl
    · rw [if_neg h18]
      rw [if_neg (by omega)] at hd
      by_cases h16 : t < 16
      · obtain ⟨a1, a2, a3, a4⟩ := cT_all.2.1 t h16 (by omega)
        rw [if_pos h16] at hd ⊢
        by_cases h2 : 2 ≤ k
        · rw [if_pos h2] at hd
          cases hd
          match s, hl, hs with
          | [], hl, _ => exact absurd hl (by simp; omega)
          | [_], hl, _ => exact absurd hl (by simp; omega)
          | b :: a :: r, hl, hs =>
            obtain ⟨b1, b2, b3⟩ := hs
            simp only [List.length_cons] at hl b1
            obtain ⟨j, rfl⟩ : ∃ j, k = j + 2 := ⟨k - 2, by omega⟩
            have hr : r.length = j := by omega
            rw [hr] at b1 b2
            rw [decide_eq_true a1, cond_true, jb_48_12, decide_eq_true a2, cond_true, jb_48_51, decide_eq_true a3, cond_true, decide_eq_true a4, cond_true, q_51 (k := j + 1) ht (by omega), b1]
            simp only [Option.bind_some, jps]
            have e2 : ju I 1 8 (nI (j + 1)) 3 j = a := b2
            rw [jb_48_98, q_51 (k := j) rfl (by omega), e2]
            simp only [Option.bind_some, jps]
            rw [jb_48_106, q_49 (by omega) h16]
            simp only [Option.bind_some, jps]
            rw [jb_48_110, q_50 (k := j) rfl (by omega)]
            refine ⟨ju (ju (ju (ju I 1 8 (nI (j + 1))) 1 8 (nI j)) 3 j (both t a b)) 1 8 (nI (j + 1)), ?_, by simp [hr], stR_push (stR_fr (fun i hi => ?_) b3) hr, rfl, fun q j h1 h3 => ?_⟩
            · simp only [Option.bind_some, jps]
              rw [jb_48_113] <;> rfl
            · rw [ju_get, if_neg (by omega), ju_get, if_neg (by omega)]
            · rw [ju_st h1 h3, ju_get, if_neg h1, ju_get, if_neg h1]
        · rw [if_neg h2] at hd
          cases hd
      · rw [if_neg h16] at hd ⊢
        by_cases h1 : 1 ≤ k
        · rw [if_pos h1] at hd
          cases hd
          match s, hl, hs with
          | [], hl, _ => exact absurd hl (by simp; omega)
          | a :: r, hl, hs =>
            obtain ⟨b1, b3⟩ := hs
            simp only [List.length_cons] at hl
            obtain ⟨j, rfl⟩ : ∃ j, k = j + 1 := ⟨k - 1, by omega⟩
            have hr : r.length = j := by omega
            rw [hr] at b1
            have h1617 : t = 16 ∨ t = 17 := by omega
            rcases h1617 with rfl | rfl
            · rw [show decide (cT 16 < 0) = true from rfl, cond_true, jb_48_12, show decide ((-300 : Int32) < cT 16) = true from rfl, cond_true, jb_48_51, show decide (¬ cT 16 = -3) = true from rfl, cond_true, show decide (¬ cT 16 = -4) = false from rfl, cond_false, q_51 (k := j) ht (by omega), b1]
              simp only [Option.bind_some, jps]
              rw [jb_48_80]
              have hpush : ∀ w : Int32, jat d 48 88 [.ref 1, .int (cT 16), .null] [.int w, .ref 1] (jmk (ju I 1 8 (nI j)) L c e) = some (none, jmk (ju (ju (ju I 1 8 (nI j)) 3 j w) 1 8 (nI (j + 1))) L c e) := by
                intro w
                rw [jb_48_88, q_50 (k := j) rfl (by omega)]
                simp only [Option.bind_some, jps]
                rw [jb_48_91, jb_48_113] <;> rfl
              rw [hpush, hpush]
              refine ⟨ju (ju (ju I 1 8 (nI j)) 3 j (if 16 = 17 then -a else if ¬ a = 0 then 0 else 1)) 1 8 (nI (j + 1)), ?_, by simp [hr], stR_push (stR_fr (fun i hi => ?_) b3) hr, rfl, fun q j h1 h3 => ?_⟩
              · simp only [Bool.cond_decide]
                rw [if_neg (show ¬ 16 = 17 by decide)]
                split <;> rfl
              · rw [ju_get, if_neg (by omega)]
              · rw [ju_st h1 h3, ju_get, if_neg h1]
            · rw [show decide (cT 17 < 0) = true from rfl, cond_true, jb_48_12, show decide ((-300 : Int32) < cT 17) = true from rfl, cond_true, jb_48_51, show decide (¬ cT 17 = -3) = false from rfl, cond_false, q_51 (k := j) ht (by omega), b1]
              simp only [Option.bind_some, jps]
              rw [jb_48_62, q_50 (k := j) rfl (by omega)]
              refine ⟨ju (ju (ju I 1 8 (nI j)) 3 j (-a)) 1 8 (nI (j + 1)), ?_, by simp [hr], stR_push (stR_fr (fun i hi => ?_) b3) hr, rfl, fun q j h1 h3 => ?_⟩
              · simp only [Option.bind_some, jps]
                rw [jb_48_66, jb_48_113] <;> rfl
              · rw [ju_get, if_neg (by omega)]
              · rw [ju_st h1 h3, ju_get, if_neg h1]
        · rw [if_neg h1] at hd
          cases hd
end CDE
