/-! shorter and shorter ways: rounds over a list of ties -/
abbrev aFB : Type := (Nat → Nat) × Bool
def rlF (c t : Nat → Nat → Nat) (fb : aFB) (x : Nat × Nat) : aFB := if 0 < c x.1 x.2 ∧ fb.1 (t x.1 x.2) + c x.1 x.2 < fb.1 x.2 then (upF fb.1 x.2 (fb.1 (t x.1 x.2) + c x.1 x.2), true) else fb
def rdF (c t : Nat → Nat → Nat) (tl : List (Nat × Nat)) (far : Nat → Nat) : aFB := tl.foldl (rlF c t) (far, false)
def bfF (c t : Nat → Nat → Nat) (tl : List (Nat × Nat)) : Nat → aFB → Nat → Nat
  | 0, fb => fb.1
  | f + 1, fb => if fb.2 = true then bfF c t tl f (rdF c t tl fb.1) else fb.1
def sdB (n : Nat) (c t : Nat → Nat → Nat) (A : Nat → Prop) (far : Nat → Nat) : Prop := ∀ s, s < 54 → far s ≤ 1000000 ∧ (far s < 1000000 → ∃ a, A a ∧ DD n c t (far s) s a)
def cmB (n : Nat) (c t : Nat → Nat → Nat) (A : Nat → Prop) (far : Nat → Nat) (k : Nat) : Prop := ∀ s, s < 54 → ∀ j W a, j ≤ k → A a → wk n c t j W s a → far s ≤ W
def tlOk (n : Nat) (c : Nat → Nat → Nat) (tl : List (Nat × Nat)) : Prop := (∀ x, x ∈ tl → x.1 < n ∧ x.2 < 54) ∧ ∀ w s, w < n → s < 54 → 0 < c w s → (w, s) ∈ tl
section RLX
variable {n : Nat} {c t : Nat → Nat → Nat} {A : Nat → Prop} {far : Nat → Nat} {tl : List (Nat × Nat)}
theorem rlF_le {fb : aFB} {x : Nat × Nat} : ∀ s, (rlF c t fb x).1 s ≤ fb.1 s := by
  intro s
  unfold rlF
  split
  · rename_i h
    show upF fb.1 x.2 (fb.1 (t x.1 x.2) + c x.1 x.2) s ≤ fb.1 s
    unfold upF
    split
    · rename_i q
      rw [q]
      omega
    · exact Nat.le_refl _
  · exact Nat.le_refl _
theorem fo_le : ∀ (l : List (Nat × Nat)) (fb : aFB) (s : Nat), (l.foldl (rlF c t) fb).1 s ≤ fb.1 s := by
  intro l
  induction l with
  | nil => intro fb s; exact Nat.le_refl _
  | cons x l ih => intro fb s; exact Nat.le_trans (ih _ s) (rlF_le s)
theorem rlF_sd (hg : gOk n c t) {fb : aFB} {x : Nat × Nat} (hx : x.1 < n ∧ x.2 < 54) (h : sdB n c t A fb.1) : sdB n c t A (rlF c t fb x).1 := by
  unfold rlF
  split
  · rename_i q
    obtain ⟨g1, g2⟩ := hg x.1 x.2 hx.1 hx.2 q.1
    obtain ⟨a1, a2⟩ := h (t x.1 x.2) g1
    obtain ⟨b1, b2⟩ := h x.2 hx.2
    intro s hs
    show upF fb.1 x.2 (fb.1 (t x.1 x.2) + c x.1 x.2) s ≤ 1000000 ∧ (upF fb.1 x.2 (fb.1 (t x.1 x.2) + c x.1 x.2) s < 1000000 → ∃ a, A a ∧ DD n c t (upF fb.1 x.2 (fb.1 (t x.1 x.2) + c x.1 x.2) s) s a)
    unfold upF
    by_cases e : s = x.2
    · rw [if_pos e]
      refine ⟨by omega, fun hl => ?_⟩
      obtain ⟨a, ha, k, hk⟩ := a2 (by omega)
      refine ⟨a, ha, k + 1, ?_⟩
      rw [e]
      exact ⟨x.1, fb.1 (t x.1 x.2), hx.1, q.1, by omega, hk⟩
    · rw [if_neg e]
      exact h s hs
  · exact h
theorem fo_sd (hg : gOk n c t) : ∀ (l : List (Nat × Nat)) (fb : aFB), (∀ x, x ∈ l → x.1 < n ∧ x.2 < 54) → sdB n c t A fb.1 → sdB n c t A (l.foldl (rlF c t) fb).1 := by
  intro l
  induction l with
  | nil => intro fb _ h; exact h
  | cons x l ih => intro fb hl h; exact ih _ (fun y hy => hl y (List.mem_cons_of_mem _ hy)) (rlF_sd hg (hl x (List.mem_cons_self ..)) h)
/-- what lies in the list has been looked at -/
theorem fo_in {w s V : Nat} (h0 : 0 < c w s) : ∀ (l : List (Nat × Nat)) (fb : aFB), (w, s) ∈ l → fb.1 (t w s) ≤ V → (l.foldl (rlF c t) fb).1 s ≤ V + c w s := by
  intro l
  induction l with
  | nil => intro fb h _; exact absurd h (by simp)
  | cons x l ih =>
    intro fb h hV
    rw [List.foldl_cons]
    rcases List.mem_cons.mp h with h | h
    · subst h
      refine Nat.le_trans (fo_le l _ s) ?_
      unfold rlF
      by_cases q : 0 < c w s ∧ fb.1 (t w s) + c w s < fb.1 s
      · rw [if_pos q]
        show upF fb.1 s (fb.1 (t w s) + c w s) s ≤ V + c w s
        unfold upF
        rw [if_pos rfl]
        omega
      · rw [if_neg q]
        omega
    · exact ih _ h (Nat.le_trans (rlF_le _) hV)
theorem fo_flag : ∀ (l : List (Nat × Nat)) (fb : aFB), (l.foldl (rlF c t) fb).2 = false → l.foldl (rlF c t) fb = fb := by
  intro l
  induction l with
  | nil => intro fb _; rfl
  | cons x l ih =>
    intro fb h
    rw [List.foldl_cons] at h ⊢
    have h1 := ih _ h
    rw [h1] at h ⊢
    unfold rlF at h ⊢
    split at h
    · cases h
    · rename_i q
      rw [if_neg q]
theorem rd_cm (hg : gOk n c t) (ht : tlOk n c tl) {k : Nat} (h : cmB n c t A far k) : cmB n c t A (rdF c t tl far).1 (k + 1) := by
  intro s hs j W a hj ha hw
  unfold rdF
  cases j with
  | zero =>
    exact Nat.le_trans (fo_le tl (far, false) s) (h s hs 0 W a (Nat.zero_le k) ha hw)
  | succ j =>
    obtain ⟨w, W', a1, a2, a3, a4⟩ := hw
    obtain ⟨g1, g2⟩ := hg w s a1 hs a2
    have := fo_in (t := t) a2 tl (far, false) (ht.2 w s a1 hs a2) (h (t w s) g1 j W' a (by omega) ha a4)
    omega
theorem rd_stop (hg : gOk n c t) (ht : tlOk n c tl) (h0 : cmB n c t A far 0) (h : (rdF c t tl far).2 = false) : ∀ k, cmB n c t A far k := by
  have h1 : (rdF c t tl far).1 = far := by
    unfold rdF at h ⊢
    rw [fo_flag tl _ h]
  intro k
  induction k with
  | zero => exact h0
  | succ k ih =>
    have := rd_cm hg ht ih
    rw [h1] at this
    exact this
theorem bf_cm (hg : gOk n c t) (ht : tlOk n c tl) : ∀ (f : Nat) (fb : aFB) (k : Nat), cmB n c t A fb.1 k → (fb.2 = false → ∀ j, cmB n c t A fb.1 j) → cmB n c t A (bfF c t tl f fb) (k + f) := by
  intro f
  induction f with
  | zero => intro fb k h _; exact h
  | succ f ih =>
    intro fb k h hb
    unfold bfF
    by_cases q : fb.2 = true
    · rw [if_pos q]
      have h1 := rd_cm hg ht h
      have h0 : cmB n c t A fb.1 0 := fun s hs j W a hj => h s hs j W a (by omega)
      have := ih (rdF c t tl fb.1) (k + 1) h1 (fun hf => by
        have h2 := rd_stop hg ht h0 hf
        have h3 : (rdF c t tl fb.1).1 = fb.1 := by
          unfold rdF at hf ⊢
          rw [fo_flag tl _ hf]
        rw [h3]
        exact h2)
      rw [show k + (f + 1) = k + 1 + f by omega]
      exact this
    · rw [if_neg q]
      exact hb (by simpa using q) _
theorem bf_sd (hg : gOk n c t) (ht : tlOk n c tl) : ∀ (f : Nat) (fb : aFB), sdB n c t A fb.1 → sdB n c t A (bfF c t tl f fb) := by
  intro f
  induction f with
  | zero => intro fb h; exact h
  | succ f ih =>
    intro fb h
    unfold bfF
    split
    · exact ih _ (fo_sd hg tl _ ht.1 h)
    · exact h
/-- how far each is at first -/
noncomputable def far0 (A : Nat → Prop) : Nat → Nat := fun s => @ite _ (A s) (Classical.propDecidable _) 0 1000000
theorem far0_ok : sdB n c t A (far0 A) ∧ cmB n c t A (far0 A) 0 := by
  constructor
  · intro s hs
    unfold far0
    split
    · rename_i h
      exact ⟨by decide, fun _ => ⟨s, h, 0, rfl, rfl⟩⟩
    · exact ⟨Nat.le_refl _, fun h => absurd h (by decide)⟩
  · intro s hs j W a hj ha hw
    have hj : j = 0 := by omega
    subst hj
    obtain ⟨rfl, rfl⟩ := hw
    unfold far0
    split
    · exact Nat.le_refl _
    · rename_i h
      exact absurd ha h
theorem bf_dst (hg : gOk n c t) (ht : tlOk n c tl) {far : Nat → Nat} (h1 : sdB n c t A far) (h2 : cmB n c t A far 0) {s : Nat} (hs : s < 54) : bfF c t tl 54 (far, true) s = dst n c t A s := by
  have hsd := bf_sd hg ht 54 (far, true) h1
  have hcm := bf_cm hg ht 54 (far, true) 0 h2 (fun q => by cases q)
  exact far_dst hg hs (hsd s hs).1 (hsd s hs).2 (fun k W a hk ha hw => hcm s hs k W a (by omega) ha hw)
end RLX
