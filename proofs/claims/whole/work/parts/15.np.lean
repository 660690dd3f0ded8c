/-! places are only made, never taken away -/
theorem jfp_np {m m' : jH} {p a b q : Nat} {v : Value} {g : Bool} (h : jfp m p a b q v = some (g, m')) : m'.2.2.2.2.1 = m.2.2.2.2.1 := by
  unfold jfp at h
  simp only [Bool.cond_eq_ite] at h
  repeat' split at h
  all_goals first | cases h; rfl | cases h
theorem jstp_some {k pc : Nat} {ls st : List Value} {m : jH} {G : Nat → List Value → List Value → jH → Option jX} {CL : Nat → List Value → jH → Option jX} {r : jX} (h : jstp k pc ls st m G CL = some r) :
    (∃ g p1 p2 ls' st' m', jact k pc ls st m = some (.inl (g, p1, p2, ls', st', m')) ∧ ((g = true ∧ G p1 ls' st' m' = some r) ∨ (g = false ∧ ∃ q, p2 = some q ∧ G q ls' st' m' = some r))) ∨
    (∃ k' as m' pc' ls' st' z, jact k pc ls st m = some (.inr (.inl (k', as, m', pc', ls', st'))) ∧ CL k' as m' = some z ∧ G pc' ls' (jps z.1 st') z.2 = some r) ∨
    jact k pc ls st m = some (.inr (.inr r)) := by
  unfold jstp at h
  cases hA : jact k pc ls st m with
  | none => rw [hA] at h; cases h
  | some x =>
    rw [hA] at h
    rcases x with ⟨g, p1, p2, l1, s1, m1⟩ | ⟨k1, a1, m1, p1, l1, s1⟩ | y
    · refine Or.inl ⟨g, p1, p2, l1, s1, m1, rfl, ?_⟩
      cases g with
      | true => exact Or.inl ⟨rfl, h⟩
      | false =>
        cases p2 with
        | none => cases h
        | some q => exact Or.inr ⟨rfl, q, rfl, h⟩
    · refine Or.inr (Or.inl ⟨k1, a1, m1, p1, l1, s1, ?_⟩)
      cases hc : CL k1 a1 m1 with
      | none => simp [hc] at h
      | some z =>
        simp only [hc, Option.bind_some] at h
        exact ⟨z, rfl, rfl, h⟩
    · cases h
      exact Or.inr (Or.inr rfl)
set_option maxHeartbeats 4000000 in
theorem jact_np {k pc : Nat} {ls st ls' st' : List Value} {m m' : jH} {g : Bool} {p1 : Nat} {p2 : Option Nat} (h : jact k pc ls st m = some (.inl (g, p1, p2, ls', st', m'))) : m.2.2.2.2.1 ≤ m'.2.2.2.2.1 := by
  unfold jact at h
  split at h
  next => cases h
  next i n a b t q kd w z sw hI =>
    cases i
    all_goals dsimp only at h
    all_goals try simp only [jg, jgg, jcall, Bool.cond_eq_ite] at h
    all_goals repeat' split at h
    all_goals first
      | (cases h; done)
      | (cases h; exact Nat.le_refl _)
      | (cases h; exact Nat.le_succ _)
      | (cases h; rename_i hh; exact Nat.le_of_eq (jfp_np hh).symm)
      | (cases h; rename_i hh; have := Nat.eq_of_beq_eq_true hh; show _ ≤ 27; omega)
