/-! ways, as walks: of n moves; c what one counts from a state (0: none), t where it leads -/
def upF (f : Nat → Nat) (j x : Nat) : Nat → Nat := fun i => if i = j then x else f i
def wk (n : Nat) (c t : Nat → Nat → Nat) : Nat → Nat → Nat → Nat → Prop
  | 0, W, s, u => s = u ∧ W = 0
  | k + 1, W, s, u => ∃ w W', w < n ∧ 0 < c w s ∧ W = c w s + W' ∧ wk n c t k W' (t w s) u
abbrev DD (n : Nat) (c t : Nat → Nat → Nat) (W s u : Nat) : Prop := ∃ k, wk n c t k W s u
def gOk (n : Nat) (c t : Nat → Nat → Nat) : Prop := ∀ w s, w < n → s < 54 → 0 < c w s → t w s < 54 ∧ c w s ≤ 99
def isMin (P : Nat → Prop) : Option Nat → Prop
  | none => ∀ W, ¬ P W
  | some d => P d ∧ ∀ W, P W → d ≤ W
theorem least_ex (P : Nat → Prop) : ∀ W, P W → ∃ d, P d ∧ ∀ W, P W → d ≤ W := by
  intro W
  induction W using Nat.strongRecOn with
  | ind W ih =>
    intro h
    by_cases q : ∃ W', W' < W ∧ P W'
    · obtain ⟨W', h1, h2⟩ := q
      exact ih W' h1 h2
    · exact ⟨W, h, fun V hV => Nat.le_of_not_lt (fun hl => q ⟨V, hl, hV⟩)⟩
theorem isMin_ex (P : Nat → Prop) : ∃ o, isMin P o := by
  by_cases h : ∃ W, P W
  · obtain ⟨W, hW⟩ := h
    obtain ⟨d, hd⟩ := least_ex P W hW
    exact ⟨some d, hd⟩
  · exact ⟨none, fun W hW => h ⟨W, hW⟩⟩
noncomputable def minO (P : Nat → Prop) : Option Nat := Classical.choose (isMin_ex P)
theorem minO_spec (P : Nat → Prop) : isMin P (minO P) := Classical.choose_spec (isMin_ex P)
theorem minO_eq {P : Nat → Prop} {o : Option Nat} (h : isMin P o) : minO P = o := by
  have h2 := minO_spec P
  cases hm : minO P with
  | none =>
    rw [hm] at h2
    cases o with
    | none => rfl
    | some d => exact absurd h.1 (h2 d)
  | some d =>
    rw [hm] at h2
    cases o with
    | none => exact absurd h2.1 (h d)
    | some d' => rw [Nat.le_antisymm (h2.2 d' h.1) (h.2 d h2.1)]
/-- how far a state is from those of A; a million: it can't come there -/
noncomputable def dst (n : Nat) (c t : Nat → Nat → Nat) (A : Nat → Prop) (s : Nat) : Nat := (minO (fun W => ∃ a, A a ∧ DD n c t W s a)).getD 1000000
def smF (g : Nat → Nat) : Nat → Nat
  | 0 => 0
  | k + 1 => smF g k + g k
def cntB (far : Nat → Nat) : Nat := smF (fun u => if far u < 1000000 then 1 else 0) 54
def rI (far : Nat → Nat) : Prop := ∀ u, u < 54 → far u ≤ 1000000 ∧ (far u < 1000000 → far u + 99 ≤ 99 * cntB far)
section GRF
variable {n : Nat} {c t : Nat → Nat → Nat} {A : Nat → Prop} {far : Nat → Nat}
theorem wk_app : ∀ {i j W1 W2 s x u : Nat}, wk n c t i W1 s x → wk n c t j W2 x u → wk n c t (i + j) (W1 + W2) s u := by
  intro i
  induction i with
  | zero =>
    intro j W1 W2 s x u h1 h2
    obtain ⟨rfl, rfl⟩ := h1
    rw [Nat.zero_add, Nat.zero_add]
    exact h2
  | succ i ih =>
    intro j W1 W2 s x u h1 h2
    obtain ⟨w, W', a1, a2, a3, a4⟩ := h1
    rw [show i + 1 + j = i + j + 1 by omega]
    exact ⟨w, W' + W2, a1, a2, by omega, ih a4 h2⟩
theorem wk_one {w s : Nat} (h1 : w < n) (h2 : 0 < c w s) : wk n c t 1 (c w s) s (t w s) := ⟨w, 0, h1, h2, rfl, rfl, rfl⟩
theorem wk_snoc {k W s u w : Nat} (h : wk n c t k W s u) (h1 : w < n) (h2 : 0 < c w u) : wk n c t (k + 1) (W + c w u) s (t w u) := wk_app h (wk_one h1 h2)
theorem wk_lt (hg : gOk n c t) : ∀ {k W s u : Nat}, s < 54 → wk n c t k W s u → u < 54 ∧ W ≤ 99 * k ∧ k ≤ W := by
  intro k
  induction k with
  | zero =>
    intro W s u hs h
    obtain ⟨rfl, rfl⟩ := h
    exact ⟨hs, Nat.le_refl _, Nat.le_refl _⟩
  | succ k ih =>
    intro W s u hs h
    obtain ⟨w, W', a1, a2, a3, a4⟩ := h
    obtain ⟨g1, g2⟩ := hg w s a1 hs a2
    obtain ⟨b1, b2, b3⟩ := ih g1 a4
    exact ⟨b1, by omega, by omega⟩
/-- the states of a walk, one behind the other -/
theorem wk_seq : ∀ {k W s u : Nat}, wk n c t k W s u → ∃ p e : Nat → Nat, p 0 = s ∧ p k = u ∧ smF e k = W ∧ ∀ i, i < k → wk n c t 1 (e i) (p i) (p (i + 1)) := by
  intro k
  induction k with
  | zero =>
    intro W s u h
    obtain ⟨rfl, rfl⟩ := h
    exact ⟨fun _ => s, fun _ => 0, rfl, rfl, rfl, fun i hi => absurd hi (Nat.not_lt_zero i)⟩
  | succ k ih =>
    intro W s u h
    obtain ⟨w, W', a1, a2, a3, a4⟩ := h
    obtain ⟨p, e, p0, pk, pe, ps⟩ := ih a4
    have hsum : ∀ j, smF (fun i => match i with | 0 => c w s | i + 1 => e i) (j + 1) = c w s + smF e j := by
      intro j
      induction j with
      | zero => show 0 + c w s = c w s + 0; omega
      | succ j ihj =>
        show smF (fun i => match i with | 0 => c w s | i + 1 => e i) (j + 1) + e j = c w s + (smF e j + e j)
        rw [ihj]
        omega
    refine ⟨fun i => match i with | 0 => s | i + 1 => p i, fun i => match i with | 0 => c w s | i + 1 => e i, rfl, pk, by rw [hsum, pe, a3], fun i hi => ?_⟩
    cases i with
    | zero =>
      show wk n c t 1 (c w s) s (p 0)
      rw [p0]
      exact wk_one a1 a2
    | succ i => exact ps i (by omega)
theorem seq_wk {p e : Nat → Nat} {k : Nat} (h : ∀ i, i < k → wk n c t 1 (e i) (p i) (p (i + 1))) : ∀ i m, i + m ≤ k → wk n c t m (smF e (i + m) - smF e i) (p i) (p (i + m)) ∧ smF e i ≤ smF e (i + m) := by
  intro i m
  induction m with
  | zero => intro _; exact ⟨⟨rfl, Nat.sub_self _⟩, Nat.le_refl _⟩
  | succ m ih =>
    intro hm
    obtain ⟨h1, h2⟩ := ih (by omega)
    have h3 := wk_app h1 (h (i + m) (by omega))
    have e1 : smF e (i + (m + 1)) = smF e (i + m) + e (i + m) := rfl
    refine ⟨?_, by omega⟩
    rw [show smF e (i + (m + 1)) - smF e i = smF e (i + m) - smF e i + e (i + m) by omega]
    exact h3
/-- of more numbers than there are places, two are alike -/
theorem pigeon : ∀ N (f : Nat → Nat), (∀ i, i ≤ N → f i < N) → ∃ i j, i < j ∧ j ≤ N ∧ f i = f j := by
  intro N
  induction N with
  | zero => intro f h; exact absurd (h 0 (Nat.le_refl 0)) (Nat.not_lt_zero _)
  | succ N ih =>
    intro f h
    by_cases q : ∃ i, i ≤ N ∧ f i = f (N + 1)
    · obtain ⟨i, h1, h2⟩ := q
      exact ⟨i, N + 1, by omega, Nat.le_refl _, h2⟩
    · have hx := h (N + 1) (Nat.le_refl _)
      have hne : ∀ i, i ≤ N → f i ≠ f (N + 1) := fun i hi hq => q ⟨i, hi, hq⟩
      obtain ⟨i, j, h1, h2, h3⟩ := ih (fun i => if f (N + 1) < f i then f i - 1 else f i) (fun i hi => by
        have a1 := h i (by omega)
        have a2 := hne i hi
        split <;> omega)
      refine ⟨i, j, h1, by omega, ?_⟩
      have a1 := hne i (by omega)
      have a2 := hne j (by omega)
      split at h3 <;> split at h3 <;> omega
theorem wk_short (hg : gOk n c t) : ∀ k, ∀ {W s u : Nat}, s < 54 → wk n c t k W s u → ∃ k' W', k' < 54 ∧ W' ≤ W ∧ wk n c t k' W' s u := by
  intro k
  induction k using Nat.strongRecOn with
  | ind k ih =>
    intro W s u hs h
    by_cases hk : k < 54
    · exact ⟨k, W, hk, Nat.le_refl _, h⟩
    · obtain ⟨p, e, p0, pk, pe, ps⟩ := wk_seq h
      obtain ⟨i, j, h1, h2, h3⟩ := pigeon 54 p (fun i hi => by
        have := (seq_wk ps 0 i (by omega)).1
        rw [Nat.zero_add, p0] at this
        exact (wk_lt hg hs this).1)
      obtain ⟨w1, m1⟩ := seq_wk ps 0 i (by omega)
      obtain ⟨-, m2⟩ := seq_wk ps i (j - i) (by omega)
      obtain ⟨w3, m3⟩ := seq_wk ps j (k - j) (by omega)
      rw [Nat.zero_add, p0] at w1
      rw [Nat.zero_add] at m1
      rw [show i + (j - i) = j by omega] at m2
      rw [show j + (k - j) = k by omega, pk, pe, ← h3] at w3
      rw [show j + (k - j) = k by omega, pe] at m3
      have w4 := wk_app w1 w3
      obtain ⟨k', W', b1, b2, b3⟩ := ih (i + (k - j)) (by omega) hs w4
      have e0 : smF e 0 = 0 := rfl
      exact ⟨k', W', b1, by omega, b3⟩
/-- what is a way's weight, and no more than a short way's, is how far it is -/
theorem far_dst (hg : gOk n c t) {s x : Nat} (hs : s < 54) (hx : x ≤ 1000000) (h1 : x < 1000000 → ∃ a, A a ∧ DD n c t x s a) (h2 : ∀ k W a, k < 54 → A a → wk n c t k W s a → x ≤ W) : x = dst n c t A s := by
  unfold dst
  have hm := minO_spec (fun W => ∃ a, A a ∧ DD n c t W s a)
  cases ho : minO (fun W => ∃ a, A a ∧ DD n c t W s a) with
  | none =>
    rw [ho] at hm
    show x = 1000000
    by_cases hl : x < 1000000
    · exact absurd (h1 hl) (hm x)
    · omega
  | some d =>
    rw [ho] at hm
    obtain ⟨⟨a, ha, k, hk⟩, hmin⟩ := hm
    obtain ⟨k', W', b1, b2, b3⟩ := wk_short hg k hs hk
    have b4 := h2 k' W' a b1 ha b3
    have b5 := (wk_lt hg hs b3).2.1
    show x = d
    have := hmin x (h1 (by omega))
    omega
theorem dst_le {s : Nat} (hg : gOk n c t) (hs : s < 54) : dst n c t A s ≤ 1000000 ∧ (dst n c t A s < 1000000 → dst n c t A s ≤ 5247 ∧ ∃ a, A a ∧ DD n c t (dst n c t A s) s a) ∧ ∀ W a, A a → DD n c t W s a → dst n c t A s ≤ W ∧ dst n c t A s < 1000000 := by
  unfold dst
  have hm := minO_spec (fun W => ∃ a, A a ∧ DD n c t W s a)
  cases ho : minO (fun W => ∃ a, A a ∧ DD n c t W s a) with
  | none =>
    rw [ho] at hm
    exact ⟨Nat.le_refl _, fun h => absurd h (by decide), fun W a ha hD => absurd ⟨a, ha, hD⟩ (hm W)⟩
  | some d =>
    rw [ho] at hm
    obtain ⟨⟨a, ha, k, hk⟩, hmin⟩ := hm
    obtain ⟨k', W', b1, b2, b3⟩ := wk_short hg k hs hk
    have b5 := (wk_lt hg hs b3).2.1
    have b6 := hmin W' ⟨a, ha, k', b3⟩
    have b7 : d ≤ 5247 := by omega
    exact ⟨by show d ≤ 1000000; omega, fun _ => ⟨b7, a, ha, k, hk⟩, fun W a ha hD => ⟨hmin W ⟨a, ha, hD⟩, by show d < 1000000; omega⟩⟩
theorem smF_up {g : Nat → Nat} {j x : Nat} : ∀ N, j < N → smF (upF g j x) N + g j = smF g N + x := by
  have hout : ∀ N, N ≤ j → smF (upF g j x) N = smF g N := by
    intro N
    induction N with
    | zero => intro _; rfl
    | succ N ih =>
      intro h
      show smF (upF g j x) N + upF g j x N = smF g N + g N
      rw [ih (by omega)]
      unfold upF
      rw [if_neg (by omega)]
  intro N
  induction N with
  | zero => intro h; exact absurd h (Nat.not_lt_zero j)
  | succ N ih =>
    intro h
    show smF (upF g j x) N + upF g j x N + g j = smF g N + g N + x
    by_cases q : j = N
    · subst q
      rw [hout j (Nat.le_refl j)]
      unfold upF
      rw [if_pos rfl]
      omega
    · have := ih (by omega)
      have e1 : upF g j x N = g N := by
        unfold upF
        rw [if_neg (fun h => q h.symm)]
      rw [e1]
      omega
theorem smF_le {g : Nat → Nat} {b : Nat} : ∀ N, (∀ i, i < N → g i ≤ b) → smF g N ≤ b * N := by
  intro N
  induction N with
  | zero => intro _; exact Nat.zero_le _
  | succ N ih =>
    intro h
    have h1 := ih (fun i hi => h i (by omega))
    have h2 := h N (by omega)
    show smF g N + g N ≤ b * (N + 1)
    rw [Nat.mul_succ]
    omega
theorem cntB_le (far : Nat → Nat) : cntB far ≤ 54 := by
  have := smF_le (g := fun u => if far u < 1000000 then 1 else 0) (b := 1) 54 (fun i _ => by split <;> omega)
  unfold cntB
  omega
theorem rI_lt (h : rI far) {u : Nat} (hu : u < 54) (hl : far u < 1000000) : far u ≤ 5247 := by
  have h1 := (h u hu).2 hl
  have h2 := cntB_le far
  omega
/-- a shorter way to y by x -/
theorem rI_up (h : rI far) {x y k : Nat} (hx : x < 54) (hy : y < 54) (hl : far x < 1000000) (hk : k ≤ 99) (hlt : far x + k < far y) : rI (upF far y (far x + k)) ∧ smF (upF far y (far x + k)) 54 < smF far 54 := by
  have h1 := (h x hx).2 hl
  have h5 := rI_lt h hx hl
  have hs := smF_up (g := far) (j := y) (x := far x + k) 54 hy
  refine ⟨fun u hu => ?_, by omega⟩
  have hc := smF_up (g := fun u => if far u < 1000000 then 1 else 0) (j := y) (x := 1) 54 hy
  have hcnt : cntB (upF far y (far x + k)) = smF (upF (fun u => if far u < 1000000 then 1 else 0) y 1) 54 := by
    unfold cntB
    congr 1
    funext u
    unfold upF
    by_cases q : u = y
    · rw [if_pos q, if_pos q, if_pos (by omega)]
    · rw [if_neg q, if_neg q]
  have hcb : cntB far = smF (fun u => if far u < 1000000 then 1 else 0) 54 := rfl
  by_cases q : u = y
  · have e1 : upF far y (far x + k) u = far x + k := by
      unfold upF
      rw [if_pos q]
    rw [e1, hcnt]
    by_cases hyb : far y < 1000000
    · have := (h y hy).2 hyb
      rw [if_pos hyb] at hc
      exact ⟨by omega, fun _ => by omega⟩
    · rw [if_neg hyb] at hc
      exact ⟨by omega, fun _ => by omega⟩
  · have e1 : upF far y (far x + k) u = far u := by
      unfold upF
      rw [if_neg q]
    obtain ⟨a1, a2⟩ := h u hu
    rw [e1, hcnt]
    refine ⟨a1, fun hl => ?_⟩
    have := a2 hl
    split at hc <;> omega
end GRF
