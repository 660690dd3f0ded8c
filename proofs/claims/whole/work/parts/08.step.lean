/-! one step of the abstract machine is one step of the machine -/
theorem jand {a b : Bool} (h : (a && b) = true) : a = true ∧ b = true := by simpa using h
def jsz (p : Nat) : Nat := match jK p with
  | (4, c) => jNF c
  | (_, n) => n
def jcs (n : Nat) : Nat := ((List.range n).map jsz).sum
theorem jcs_succ (n : Nat) : jcs (n + 1) = jcs n + jsz n := by simp [jcs, List.range_succ, List.sum_append]
theorem jcs_mono {a b : Nat} (h : a ≤ b) : jcs a ≤ jcs b := by
  induction h with
  | refl => exact Nat.le_refl _
  | step _ ih => rw [jcs_succ]; omega
/-- what holds all along a method's run -/
def jCx (p : Program) (R : Room) (s : State) (mi : MethodId) (args : Array Value) (meth : Method) (c : Code) (G : jG) (k : Nat) : Prop :=
  p.tables.exec = Jvm.exec ∧ c.code = jB k ∧ c.maxLocals = jL k ∧ s.vm.findClass (jY k).cls = some mi.cls ∧ (∀ w ∈ jTB, w.before args s = true) ∧ meth.name = (jY k).name ∧ jSt G s ∧ 1 ≤ R.frames ∧ 40 ≤ R.locals
theorem jsw_tab {x : Int32} {lo : Int} {pc : Nat} {a : Nat} : ∀ (sw : List (Int32 × Nat)) (offs : List Int) (j0 : Nat), sw.length = offs.length → (∀ j, j < offs.length → ∃ o y, offs[j]? = some o ∧ sw[j]? = some (Int32.ofInt (lo + (j0 + j : Nat)), y) ∧ (pc : Int) + o = (y : Int)) → (-2147483648 ≤ lo) → lo + (j0 + offs.length : Nat) ≤ 2147483648 →
    (∀ j : Nat, x.toInt = lo + (j0 + j : Nat) → j < offs.length → ∃ o, offs[j]? = some o ∧ (pc : Int) + o = (jsw x sw a : Int)) ∧ ((x.toInt < lo + (j0 : Nat) ∨ lo + (j0 + offs.length : Nat) ≤ x.toInt) → jsw x sw a = a) := by
  intro sw
  induction sw with
  | nil =>
    intro offs j0 hl _ _ _
    have : offs = [] := List.length_eq_zero_iff.mp hl.symm
    subst this
    exact ⟨fun j _ h => absurd h (Nat.not_lt_zero _), fun _ => rfl⟩
  | cons q sw ih =>
    intro offs j0 hl h hlo hhi
    cases offs with
    | nil => cases hl
    | cons o offs =>
      obtain ⟨o', y, e1, e2, e3⟩ := h 0 (Nat.zero_lt_succ _)
      cases e1
      have e2 : q = (Int32.ofInt (lo + (j0 + 0 : Nat)), y) := Option.some.inj e2
      subst e2
      have hto : (Int32.ofInt (lo + (j0 + 0 : Nat))).toInt = lo + (j0 : Nat) := by
        rw [Int32.toInt_ofInt_of_le] <;> simp at hhi ⊢ <;> omega
      have hx : x = Int32.ofInt (lo + (j0 + 0 : Nat)) ↔ x.toInt = lo + (j0 : Nat) := by
        rw [← hto]
        exact Int32.toInt_inj.symm
      obtain ⟨i1, i2⟩ := ih offs (j0 + 1) (Nat.succ.inj hl) (fun j hj => by
        obtain ⟨o, y, g1, g2, g3⟩ := h (j + 1) (Nat.succ_lt_succ hj)
        exact ⟨o, y, g1, by rw [show (j0 + 1 + j : Nat) = j0 + (j + 1) by omega]; exact g2, g3⟩) hlo (by simp at hhi ⊢; omega)
      constructor
      · intro j hj hjl
        cases j with
        | zero =>
          refine ⟨o, rfl, ?_⟩
          rw [e3]
          have : x = Int32.ofInt (lo + (j0 + 0 : Nat)) := hx.mpr (by simpa using hj)
          show _ = ((bif decide (x = Int32.ofInt (lo + (j0 + 0 : Nat))) then y else jsw x sw a : Nat) : Int)
          rw [decide_eq_true this]
          rfl
        | succ j =>
          have hne : ¬ x = Int32.ofInt (lo + (j0 + 0 : Nat)) := fun q => by
            have := hx.mp q
            simp at hj
            omega
          obtain ⟨o2, g1, g2⟩ := i1 j (by simp at hj ⊢; omega) (Nat.lt_of_succ_lt_succ hjl)
          refine ⟨o2, g1, ?_⟩
          rw [g2]
          show _ = ((bif decide (x = Int32.ofInt (lo + (j0 + 0 : Nat))) then y else jsw x sw a : Nat) : Int)
          rw [decide_eq_false hne]
          rfl
      · intro hout
        have hne : ¬ x = Int32.ofInt (lo + (j0 + 0 : Nat)) := fun q => by
          have := hx.mp q
          simp at hout
          omega
        show (bif decide (x = Int32.ofInt (lo + (j0 + 0 : Nat))) then y else jsw x sw a) = a
        rw [decide_eq_false hne]
        refine i2 ?_
        simp at hout ⊢
        omega
theorem jsw_look {x : Int32} {d : Int} {pc a : Nat} (hd : (pc : Int) + d = (a : Int)) : ∀ (sw : List (Int32 × Nat)), (pc : Int) + Op.lookupswitch.offset (sw.map (fun q => (q.1.toInt, (q.2 : Int) - pc))) d x.toInt = (jsw x sw a : Int) := by
  intro sw
  induction sw with
  | nil => exact hd
  | cons q sw ih =>
    by_cases e : x = q.1
    · have : jsw x (q :: sw) a = q.2 := by
        show (bif decide (x = q.1) then q.2 else jsw x sw a) = q.2
        rw [decide_eq_true e]; rfl
      rw [this]
      simp only [List.map_cons, Op.lookupswitch.offset, e]
      simp
      omega
    · have : jsw x (q :: sw) a = jsw x sw a := by
        show (bif decide (x = q.1) then q.2 else jsw x sw a) = _
        rw [decide_eq_false e]; rfl
      rw [this, ← ih]
      have hne : ¬ q.1.toInt = x.toInt := fun h => e (Int32.toInt_inj.mp h.symm)
      simp only [List.map_cons, Op.lookupswitch.offset]
      simp [hne]
