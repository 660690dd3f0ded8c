/-! the text of a law, read -/
def sg (k : Nat) (ta : Nat → Int32) (p : Nat) : Int32 := if p < k then ta p else -1
abbrev dgt (s : Int32) : Prop := 48 ≤ s.toInt ∧ s.toInt ≤ 57
def nmO (s : Int32) : Option Nat := if s = 100 then some 0 else if s = 104 then some 1 else if s = 102 then some 2 else if s = 110 then some 3 else if s = 107 then some 4 else if s = 109 then some 5 else none
def opTok (lev : Nat) (s : Int32) : Option Nat := if lev = 0 then (if s = 124 then some 6 else none) else if lev = 1 then (if s = 38 then some 7 else none) else if lev = 2 then (if s = 60 then some 8 else if s = 61 then some 9 else if s = 62 then some 10 else none) else if lev = 3 then (if s = 43 then some 11 else if s = 45 then some 12 else none) else if lev = 4 then (if s = 42 then some 13 else if s = 47 then some 14 else if s = 37 then some 15 else none) else none
/-- read or not, how far, which codes -/
abbrev aRd : Type := Bool × Nat × List Nat
def rdN (k : Nat) (ta : Nat → Int32) : Nat → Nat → Nat → Nat × Nat
  | 0, p, v => (v, p)
  | f + 1, p, v => if dgt (sg k ta p) then rdN k ta f (p + 1) (10 * v + (sg k ta p).toInt.toNat - 48) else (v, p)
def chn (k : Nat) (ta : Nat → Int32) (lev : Nat) (sub : Nat → aRd) : Nat → Nat → List Nat → aRd
  | 0, p, o => (true, p, o)
  | f + 1, p, o => match opTok lev (sg k ta p) with
    | none => (true, p, o)
    | some t => if (sub (p + 1)).1 = true then chn k ta lev sub f (sub (p + 1)).2.1 (o ++ (sub (p + 1)).2.2 ++ [t]) else (false, (sub (p + 1)).2.1, [])
def rdL (k : Nat) (ta : Nat → Int32) (lev : Nat) (sub : Nat → aRd) (p : Nat) : aRd := if (sub p).1 = true then chn k ta lev sub (if lev = 2 then 1 else 120) (sub p).2.1 (sub p).2.2 else (false, (sub p).2.1, [])
def rdE (k : Nat) (ta : Nat → Int32) (sub : Nat → aRd) : Nat → aRd := rdL k ta 0 (rdL k ta 1 (rdL k ta 2 (rdL k ta 3 (rdL k ta 4 sub))))
def un1 (t : Nat) (x : aRd) : aRd := if x.1 = true then (true, x.2.1, x.2.2 ++ [t]) else (false, x.2.1, [])
def cl1 (k : Nat) (ta : Nat → Int32) (x : aRd) : aRd := if x.1 = true then (if sg k ta x.2.1 = 41 then (true, x.2.1 + 1, x.2.2) else (false, x.2.1, [])) else (false, x.2.1, [])
def rdO (k : Nat) (ta : Nat → Int32) : Nat → Nat → aRd
  | 0, p => if dgt (sg k ta p) then (true, (rdN k ta 4 p 0).2, [18 + (rdN k ta 4 p 0).1]) else match nmO (sg k ta p) with
    | some t => (true, p + 1, [t])
    | none => (false, p, [])
  | r + 1, p => if dgt (sg k ta p) then (true, (rdN k ta 4 p 0).2, [18 + (rdN k ta 4 p 0).1]) else match nmO (sg k ta p) with
    | some t => (true, p + 1, [t])
    | none => if sg k ta p = 33 then un1 16 (rdO k ta r (p + 1)) else if sg k ta p = 45 then un1 17 (rdO k ta r (p + 1)) else if sg k ta p = 40 then cl1 k ta (rdE k ta (rdO k ta r) (p + 1)) else (false, p, [])
def rdLn (k : Nat) (ta : Nat → Int32) (p : Nat) : Bool × Nat × aLn := if (rdE k ta (rdO k ta 6) p).1 = true then (if sg k ta (rdE k ta (rdO k ta 6) p).2.1 = 63 then (if (rdE k ta (rdO k ta 6) ((rdE k ta (rdO k ta 6) p).2.1 + 1)).1 = true then (true, (rdE k ta (rdO k ta 6) ((rdE k ta (rdO k ta 6) p).2.1 + 1)).2.1, ((rdE k ta (rdO k ta 6) p).2.2, (rdE k ta (rdO k ta 6) ((rdE k ta (rdO k ta 6) p).2.1 + 1)).2.2)) else (false, (rdE k ta (rdO k ta 6) ((rdE k ta (rdO k ta 6) p).2.1 + 1)).2.1, ([], []))) else (true, (rdE k ta (rdO k ta 6) p).2.1, ([], (rdE k ta (rdO k ta 6) p).2.2))) else (false, (rdE k ta (rdO k ta 6) p).2.1, ([], []))
def rdT (k : Nat) (ta : Nat → Int32) : Nat → Bool → Nat → List aLn → Bool × Nat × List aLn
  | 0, b, p, l => (b, p, l)
  | f + 1, b, p, l => if b = true ∧ sg k ta p = 59 then rdT k ta f (rdLn k ta (p + 1)).1 (rdLn k ta (p + 1)).2.1 (l ++ [(rdLn k ta (p + 1)).2.2]) else (b, p, l)
def rdAll (k : Nat) (ta : Nat → Int32) : Bool × Nat × List aLn := rdT k ta 120 (rdLn k ta 0).1 (rdLn k ta 0).2.1 [(rdLn k ta 0).2.2]
def opLaw (k : Nat) (ta : Nat → Int32) (lw : List aLn) : Int32 × List aLn := if (rdAll k ta).1 = true ∧ (rdAll k ta).2.1 = k then (1, (rdAll k ta).2.2) else (-100 - nI (rdAll k ta).2.1, lw)
/-- what is read is an expression -/
def exOk (k p : Nat) (x : aRd) : Prop := x.2.1 ≤ k ∧ p ≤ x.2.1 ∧ (x.1 = true → p < x.2.1 ∧ x.2.2.length ≤ x.2.1 - p ∧ 1 ≤ x.2.2.length ∧ (∀ t, t ∈ x.2.2 → t < 10018) ∧ ∀ j, wfF x.2.2 j = some (j + 1))
section PRS
variable {k p r lev t f : Nat} {ta : Nat → Int32} {s : Int32} {sub : Nat → aRd}
theorem sg_lt (h : sg k ta p ≠ -1) : p < k := by
  unfold sg at h
  by_cases q : p < k
  · exact q
  · rw [if_neg q] at h
    exact absurd rfl h
theorem dgt_lt (h : dgt (sg k ta p)) : p < k := sg_lt (fun q => by rw [q] at h; exact absurd h.1 (by decide))
theorem opTok_lt (h : opTok lev (sg k ta p) = some t) : p < k := sg_lt (fun q => by
  rw [q] at h
  unfold opTok at h
  repeat' split at h
  all_goals first | (rename_i q1; exact absurd q1 (by decide)) | cases h)
theorem nmO_lt (h : nmO (sg k ta p) = some t) : p < k ∧ t < 6 := by
  constructor
  · exact sg_lt (fun q => by
      rw [q, show nmO (-1) = none from rfl] at h
      cases h)
  · unfold nmO at h
    repeat' split at h
    all_goals first | (cases h; decide) | cases h
theorem opTok_in (h : opTok lev s = some t) : 6 ≤ t ∧ t < 16 ∧ -s = cT t := by
  unfold opTok at h
  repeat' split at h
  all_goals first | (cases h; subst s; exact ⟨by decide, by decide, by decide⟩) | cases h
theorem wf_app : ∀ (l l2 : List Nat) (j : Nat), wfF (l ++ l2) j = (wfF l j).bind (wfF l2) := by
  intro l
  induction l with
  | nil => intro l2 j; rfl
  | cons t l ih =>
    intro l2 j
    show (dpt j t).bind (wfF (l ++ l2)) = ((dpt j t).bind (wfF l)).bind (wfF l2)
    cases dpt j t with
    | none => rfl
    | some a => exact ih l2 a
theorem wf_bin (h6 : 6 ≤ t) (h16 : t < 16) (j : Nat) : wfF [t] (j + 1 + 1) = some (j + 1) := by
  show (dpt (j + 1 + 1) t).bind (wfF []) = _
  unfold dpt
  rw [if_neg (by omega), if_pos h16, if_pos (by omega)]
  rfl
theorem wf_un (h6 : 16 ≤ t) (h16 : t < 18) (j : Nat) : wfF [t] (j + 1) = some (j + 1) := by
  show (dpt (j + 1) t).bind (wfF []) = _
  unfold dpt
  rw [if_neg (by omega), if_neg (by omega), if_pos (by omega)]
  rfl
theorem wf_one (h6 : t < 6 ∨ 18 ≤ t) (j : Nat) : wfF [t] j = some (j + 1) := by
  show (dpt j t).bind (wfF []) = _
  unfold dpt
  rw [if_pos h6]
  rfl
theorem rdN_ok : ∀ f p v : Nat, p ≤ k → (rdN k ta f p v).2 ≤ k ∧ p ≤ (rdN k ta f p v).2 ∧ (dgt (sg k ta p) → 1 ≤ f → p < (rdN k ta f p v).2) ∧ (rdN k ta f p v).1 + 1 ≤ (v + 1) * 10 ^ f := by
  intro f
  induction f with
  | zero =>
    intro p v hp
    refine ⟨hp, Nat.le_refl _, fun _ h => absurd h (by decide), ?_⟩
    show v + 1 ≤ (v + 1) * 10 ^ 0
    omega
  | succ f ih =>
    intro p v hp
    unfold rdN
    by_cases h : dgt (sg k ta p)
    · rw [if_pos h]
      have hlt := dgt_lt h
      obtain ⟨a1, a2, a3, a4⟩ := ih (p + 1) (10 * v + (sg k ta p).toInt.toNat - 48) hlt
      refine ⟨a1, by omega, fun _ _ => by omega, Nat.le_trans a4 ?_⟩
      rw [Nat.pow_succ, Nat.mul_comm (10 ^ f) 10, ← Nat.mul_assoc]
      exact Nat.mul_le_mul_right _ (by omega)
    · rw [if_neg h]
      refine ⟨hp, Nat.le_refl _, fun q => absurd q h, ?_⟩
      have hp : ∀ f, 1 ≤ 10 ^ f := fun f => by
        induction f with
        | zero => decide
        | succ f ih => rw [Nat.pow_succ]; omega
      exact Nat.le_mul_of_pos_right _ (hp (f + 1))
theorem chn_ok (hs : ∀ p, p ≤ k → exOk k p (sub p)) {p0 : Nat} : ∀ f p (o : List Nat), p ≤ k → p0 < p → o.length ≤ p - p0 → 1 ≤ o.length → (∀ t, t ∈ o → t < 10018) → (∀ j, wfF o j = some (j + 1)) → exOk k p0 (chn k ta lev sub f p o) := by
  intro f
  induction f with
  | zero =>
    intro p o h1 h2 h3 h4 h5 h6
    exact ⟨h1, Nat.le_of_lt h2, fun _ => ⟨h2, h3, h4, h5, h6⟩⟩
  | succ f ih =>
    intro p o h1 h2 h3 h4 h5 h6
    unfold chn
    cases ho : opTok lev (sg k ta p) with
    | none => exact ⟨h1, Nat.le_of_lt h2, fun _ => ⟨h2, h3, h4, h5, h6⟩⟩
    | some t =>
      have hlt := opTok_lt ho
      obtain ⟨t1, t2, t3⟩ := opTok_in ho
      obtain ⟨a1, a2, a3⟩ := hs (p + 1) hlt
      show exOk k p0 (if (sub (p + 1)).1 = true then chn k ta lev sub f (sub (p + 1)).2.1 (o ++ (sub (p + 1)).2.2 ++ [t]) else (false, (sub (p + 1)).2.1, []))
      by_cases hb : (sub (p + 1)).1 = true
      · rw [if_pos hb]
        obtain ⟨b1, b2, b3, b4, b5⟩ := a3 hb
        refine ih _ _ a1 (by omega) ?_ ?_ ?_ ?_
        · simp only [List.length_append, List.length_cons, List.length_nil]
          omega
        · simp only [List.length_append, List.length_cons, List.length_nil]
          omega
        · intro u hu
          simp only [List.mem_append, List.mem_singleton] at hu
          rcases hu with (hu | hu) | hu
          · exact h5 u hu
          · exact b4 u hu
          · omega
        · intro j
          rw [wf_app, wf_app, h6, Option.bind_some, b5, Option.bind_some, wf_bin t1 t2]
      · rw [if_neg hb]
        exact ⟨a1, by show p0 ≤ (sub (p + 1)).2.1; omega, fun q => absurd q (by simp)⟩
theorem rdL_ok (hs : ∀ p, p ≤ k → exOk k p (sub p)) (hp : p ≤ k) : exOk k p (rdL k ta lev sub p) := by
  unfold rdL
  obtain ⟨a1, a2, a3⟩ := hs p hp
  by_cases hb : (sub p).1 = true
  · rw [if_pos hb]
    obtain ⟨b1, b2, b3, b4, b5⟩ := a3 hb
    exact chn_ok hs _ _ _ a1 b1 b2 b3 b4 b5
  · rw [if_neg hb]
    exact ⟨a1, a2, fun q => absurd q (by simp)⟩
theorem rdE_ok (hs : ∀ p, p ≤ k → exOk k p (sub p)) (hp : p ≤ k) : exOk k p (rdE k ta sub p) := rdL_ok (fun _ h => rdL_ok (fun _ h => rdL_ok (fun _ h => rdL_ok (fun _ h => rdL_ok hs h) h) h) h) hp
theorem rdO_num (h : dgt (sg k ta p)) : exOk k p (true, (rdN k ta 4 p 0).2, [18 + (rdN k ta 4 p 0).1]) := by
  have hlt := dgt_lt h
  obtain ⟨a1, a2, a3, a4⟩ := rdN_ok (k := k) (ta := ta) 4 p 0 (by omega)
  have a3 := a3 h (by decide)
  refine ⟨a1, a2, fun _ => ⟨a3, ?_, Nat.le_refl _, fun t ht => ?_, fun j => wf_one (Or.inr (by omega)) j⟩⟩
  · show 1 ≤ (rdN k ta 4 p 0).2 - p
    omega
  · have ht := List.mem_singleton.mp ht
    omega
theorem rdO_nam (h : nmO (sg k ta p) = some t) : exOk k p (true, p + 1, [t]) := by
  obtain ⟨h1, h2⟩ := nmO_lt h
  refine ⟨h1, Nat.le_succ p, fun _ => ⟨Nat.lt_succ_self p, ?_, Nat.le_refl _, fun u hu => ?_, fun j => wf_one (Or.inl h2) j⟩⟩
  · show 1 ≤ p + 1 - p
    omega
  · have hu := List.mem_singleton.mp hu
    omega
theorem un1_ok {x : aRd} (h16 : 16 ≤ t) (h18 : t < 18) (hp : p < k) (h : exOk k (p + 1) x) : exOk k p (un1 t x) := by
  obtain ⟨a1, a2, a3⟩ := h
  unfold un1
  by_cases hb : x.1 = true
  · rw [if_pos hb]
    obtain ⟨b1, b2, b3, b4, b5⟩ := a3 hb
    refine ⟨a1, by show p ≤ x.2.1; omega, fun _ => ⟨by show p < x.2.1; omega, ?_, ?_, fun u hu => ?_, fun j => ?_⟩⟩
    · show (x.2.2 ++ [t]).length ≤ x.2.1 - p
      simp only [List.length_append, List.length_cons, List.length_nil]
      omega
    · show 1 ≤ (x.2.2 ++ [t]).length
      simp only [List.length_append, List.length_cons, List.length_nil]
      omega
    · rcases List.mem_append.mp hu with hu | hu
      · exact b4 u hu
      · have := List.mem_singleton.mp hu
        omega
    · show wfF (x.2.2 ++ [t]) j = some (j + 1)
      rw [wf_app, b5, Option.bind_some, wf_un h16 h18]
  · rw [if_neg hb]
    exact ⟨a1, by show p ≤ x.2.1; omega, fun q => absurd q (by simp)⟩
theorem cl1_ok {x : aRd} (hp : p < k) (h : exOk k (p + 1) x) : exOk k p (cl1 k ta x) := by
  obtain ⟨a1, a2, a3⟩ := h
  unfold cl1
  by_cases hb : x.1 = true
  · rw [if_pos hb]
    obtain ⟨b1, b2, b3, b4, b5⟩ := a3 hb
    by_cases h41 : sg k ta x.2.1 = 41
    · have hlt := sg_lt (k := k) (ta := ta) (p := x.2.1) (by rw [h41]; decide)
      rw [if_pos h41]
      exact ⟨hlt, by show p ≤ x.2.1 + 1; omega, fun _ => ⟨by show p < x.2.1 + 1; omega, by show x.2.2.length ≤ x.2.1 + 1 - p; omega, b3, b4, b5⟩⟩
    · rw [if_neg h41]
      exact ⟨a1, by show p ≤ x.2.1; omega, fun q => absurd q (by simp)⟩
  · rw [if_neg hb]
    exact ⟨a1, by show p ≤ x.2.1; omega, fun q => absurd q (by simp)⟩
theorem rdO_ok : ∀ r p, p ≤ k → exOk k p (rdO k ta r p) := by
  intro r
  induction r with
  | zero =>
    intro p hp
    unfold rdO
    by_cases hd : dgt (sg k ta p)
    · rw [if_pos hd]
      exact rdO_num hd
    · rw [if_neg hd]
      cases hn : nmO (sg k ta p) with
      | some t => exact rdO_nam hn
      | none => exact ⟨hp, Nat.le_refl p, fun q => absurd q (by simp)⟩
  | succ r ih =>
    intro p hp
    unfold rdO
    by_cases hd : dgt (sg k ta p)
    · rw [if_pos hd]
      exact rdO_num hd
    · rw [if_neg hd]
      cases hn : nmO (sg k ta p) with
      | some t => exact rdO_nam hn
      | none =>
        show exOk k p (if sg k ta p = 33 then un1 16 (rdO k ta r (p + 1)) else if sg k ta p = 45 then un1 17 (rdO k ta r (p + 1)) else if sg k ta p = 40 then cl1 k ta (rdE k ta (rdO k ta r) (p + 1)) else (false, p, []))
        by_cases h1 : sg k ta p = 33
        · have hlt := sg_lt (k := k) (ta := ta) (p := p) (by rw [h1]; decide)
          rw [if_pos h1]
          exact un1_ok (by decide) (by decide) hlt (ih _ hlt)
        · rw [if_neg h1]
          by_cases h2 : sg k ta p = 45
          · have hlt := sg_lt (k := k) (ta := ta) (p := p) (by rw [h2]; decide)
            rw [if_pos h2]
            exact un1_ok (by decide) (by decide) hlt (ih _ hlt)
          · rw [if_neg h2]
            by_cases h3 : sg k ta p = 40
            · have hlt := sg_lt (k := k) (ta := ta) (p := p) (by rw [h3]; decide)
              rw [if_pos h3]
              exact cl1_ok hlt (rdE_ok ih hlt)
            · rw [if_neg h3]
              exact ⟨hp, Nat.le_refl p, fun q => absurd q (by simp)⟩
end PRS
