/-! walks counted -/
def hN (n : Nat) (c t : Nat → Nat → Nat) (u v : Nat) : Nat := smF (fun w => if 0 < c w u ∧ t w u = v then 1 else 0) n
def pW (n : Nat) (c t : Nat → Nat → Nat) : Nat → Nat → Nat → Nat
  | 0, s, u => if s = u then 1 else 0
  | k + 1, s, u => smF (fun x => hN n c t s x * pW n c t k x u) 54
def cp (a : Nat) : Nat := min a 9999
section CNT
variable {n : Nat} {c t g : Nat → Nat → Nat} {f h : Nat → Nat} {s u v a b k : Nat}
theorem sm_s {N : Nat} : smF f (N + 1) = smF f N + f N := rfl
theorem sm_congr : ∀ N, (∀ i, i < N → f i = h i) → smF f N = smF h N := by
  intro N
  induction N with
  | zero => intro _; rfl
  | succ N ih =>
    intro q
    rw [sm_s, sm_s, ih (fun i hi => q i (by omega)), q N (Nat.lt_succ_self N)]
theorem sm_zero : ∀ N, (∀ i, i < N → f i = 0) → smF f N = 0 := by
  intro N
  induction N with
  | zero => intro _; rfl
  | succ N ih =>
    intro q
    rw [sm_s, ih (fun i hi => q i (by omega)), q N (Nat.lt_succ_self N)]
theorem sm_add : ∀ N, smF (fun i => f i + h i) N = smF f N + smF h N := by
  intro N
  induction N with
  | zero => rfl
  | succ N ih =>
    rw [sm_s, sm_s, sm_s, ih]
    omega
theorem sm_mul : ∀ N, smF (fun i => a * f i) N = a * smF f N := by
  intro N
  induction N with
  | zero => rfl
  | succ N ih =>
    rw [sm_s, sm_s, ih, Nat.mul_add]
theorem sm_mulr : ∀ N, smF (fun i => f i * a) N = smF f N * a := by
  intro N
  induction N with
  | zero => exact (Nat.zero_mul a).symm
  | succ N ih =>
    rw [sm_s, sm_s, ih, Nat.add_mul]
theorem sm_swap {F : Nat → Nat → Nat} {M : Nat} : ∀ N, smF (fun i => smF (fun j => F i j) M) N = smF (fun j => smF (fun i => F i j) N) M := by
  intro N
  induction N with
  | zero => exact (sm_zero M (fun i _ => rfl)).symm
  | succ N ih =>
    rw [sm_s, ih]
    exact (sm_add (f := fun j => smF (fun i => F i j) N) (h := fun j => F N j) M).symm
theorem sm_delta : ∀ N, smF (fun i => if a = i then f i else 0) N = if a < N then f a else 0 := by
  intro N
  induction N with
  | zero => rw [if_neg (Nat.not_lt_zero a)]; rfl
  | succ N ih =>
    rw [sm_s, ih]
    by_cases q : a = N
    · have h1 : ¬ a < N := by omega
      have h2 : a < N + 1 := by omega
      rw [if_pos q, if_neg h1, if_pos h2, q, Nat.zero_add]
    · rw [if_neg q]
      by_cases r : a < N
      · have h2 : a < N + 1 := by omega
        rw [if_pos r, if_pos h2, Nat.add_zero]
      · have h2 : ¬ a < N + 1 := by omega
        rw [if_neg r, if_neg h2]
theorem sm_pos : ∀ N, 0 < smF f N → ∃ i, i < N ∧ 0 < f i := by
  intro N
  induction N with
  | zero => intro q; exact absurd q (Nat.lt_irrefl 0)
  | succ N ih =>
    intro q
    rw [sm_s] at q
    by_cases r : 0 < f N
    · exact ⟨N, Nat.lt_succ_self N, r⟩
    · obtain ⟨i, h1, h2⟩ := ih (by omega)
      exact ⟨i, by omega, h2⟩
theorem pw_front {F : Nat → Nat} (ht : ∀ w, w < n → 0 < c w s → t w s < 54) : smF (fun x => hN n c t s x * F x) 54 = smF (fun w => if 0 < c w s then F (t w s) else 0) n := by
  have h1 : smF (fun x => hN n c t s x * F x) 54 = smF (fun x => smF (fun w => if 0 < c w s ∧ t w s = x then F x else 0) n) 54 := by
    refine sm_congr 54 (fun x _ => ?_)
    unfold hN
    rw [← sm_mulr]
    refine sm_congr n (fun w _ => ?_)
    split
    · rw [Nat.one_mul]
    · rw [Nat.zero_mul]
  rw [h1, sm_swap]
  refine sm_congr n (fun w hw => ?_)
  by_cases q : 0 < c w s
  · rw [if_pos q]
    have h2 := sm_delta (f := F) (a := t w s) 54
    rw [if_pos (ht w hw q)] at h2
    rw [← h2]
    refine sm_congr 54 (fun x _ => ?_)
    exact jif ⟨fun k => k.2, fun k => ⟨q, k⟩⟩
  · rw [if_neg q]
    exact sm_zero 54 (fun x _ => if_neg (fun k => q k.1))
theorem pw_s : pW n c t (k + 1) s u = smF (fun x => hN n c t s x * pW n c t k x u) 54 := rfl
theorem pw_back (hv : v < 54) : ∀ k s, s < 54 → pW n c t (k + 1) s v = smF (fun x => pW n c t k s x * hN n c t x v) 54 := by
  intro k
  induction k with
  | zero =>
    intro s hs
    have h1 := sm_delta (f := fun x => hN n c t s x) (a := v) 54
    have h2 := sm_delta (f := fun x => hN n c t x v) (a := s) 54
    rw [if_pos hv] at h1
    rw [if_pos hs] at h2
    rw [pw_s]
    refine Eq.trans (Eq.trans (sm_congr 54 (fun x _ => ?_)) h1) (Eq.trans h2.symm (sm_congr 54 (fun x _ => ?_)))
    · show hN n c t s x * (if x = v then 1 else 0) = if v = x then hN n c t s x else 0
      by_cases q : x = v
      · rw [if_pos q, if_pos q.symm, Nat.mul_one]
      · rw [if_neg q, if_neg (fun k => q k.symm), Nat.mul_zero]
    · show (if s = x then hN n c t x v else 0) = (if s = x then 1 else 0) * hN n c t x v
      split
      · rw [Nat.one_mul]
      · rw [Nat.zero_mul]
  | succ k ih =>
    intro s hs
    rw [pw_s]
    have h1 : smF (fun x => hN n c t s x * pW n c t (k + 1) x v) 54 = smF (fun x => smF (fun y => hN n c t s x * pW n c t k x y * hN n c t y v) 54) 54 := by
      refine sm_congr 54 (fun x hx => ?_)
      rw [ih x hx, ← sm_mul]
      exact sm_congr 54 (fun y _ => (Nat.mul_assoc _ _ _).symm)
    rw [h1, sm_swap]
    refine sm_congr 54 (fun y _ => ?_)
    rw [sm_mulr, ← pw_s]
theorem hN_pos (q : 0 < hN n c t u v) : ∃ w, w < n ∧ 0 < c w u ∧ t w u = v := by
  obtain ⟨w, h1, h2⟩ := sm_pos n q
  by_cases r : 0 < c w u ∧ t w u = v
  · exact ⟨w, h1, r⟩
  · rw [if_neg r] at h2
    exact absurd h2 (Nat.lt_irrefl 0)
/-- each move counts one -/
def unitC (n : Nat) (c : Nat → Nat → Nat) : Prop := ∀ w s, w < n → 0 < c w s → c w s = 1
theorem pw_wk (hc : unitC n c) : ∀ k s, 0 < pW n c t k s u → wk n c t k k s u := by
  intro k
  induction k with
  | zero =>
    intro s q
    by_cases r : s = u
    · exact ⟨r, rfl⟩
    · have : pW n c t 0 s u = 0 := if_neg r
      omega
  | succ k ih =>
    intro s q
    rw [pw_s] at q
    obtain ⟨x, h1, h2⟩ := sm_pos 54 q
    have h3 : 0 < hN n c t s x := Nat.pos_of_ne_zero (fun r => by rw [r, Nat.zero_mul] at h2; exact absurd h2 (Nat.lt_irrefl 0))
    have h4 : 0 < pW n c t k x u := Nat.pos_of_ne_zero (fun r => by rw [r, Nat.mul_zero] at h2; exact absurd h2 (Nat.lt_irrefl 0))
    obtain ⟨w, w1, w2, w3⟩ := hN_pos h3
    refine ⟨w, k, w1, w2, ?_, ?_⟩
    · rw [hc w s w1 w2]
      omega
    · rw [w3]
      exact ih x h4
theorem wk_unit (hc : unitC n c) : ∀ {k W s u : Nat}, wk n c t k W s u → W = k := by
  intro k
  induction k with
  | zero => intro W s u q; exact q.2
  | succ k ih =>
    intro W s u q
    obtain ⟨w, W', a1, a2, a3, a4⟩ := q
    have := ih a4
    have := hc w s a1 a2
    omega
theorem dst_53 {A : Nat → Prop} (hc : unitC n c) (hg : gOk n c t) (hs : s < 54) (hl : dst n c t A s < 1000000) : dst n c t A s ≤ 53 := by
  obtain ⟨h1, h2, h3⟩ := dst_le (A := A) hg hs
  obtain ⟨e1, x, hx, k, hk⟩ := h2 hl
  obtain ⟨k', W', b1, b2, b3⟩ := wk_short hg k hs hk
  have := wk_unit hc b3
  have := (h3 W' x hx ⟨k', b3⟩).1
  omega
theorem cls_sum (hc : unitC n c) (hg : gOk n c t) (hu : u < 54) (hj : dst n c t (fun x => x = b) u = k + 1) (hl : k + 1 < 1000000) : smF (fun w => if 0 < c w u then (if dst n c t (fun x => x = b) (t w u) + 1 = k + 1 then pW n c t k (t w u) b else 0) else 0) n = pW n c t (k + 1) u b := by
  rw [pw_s, pw_front (fun w hw q => (hg w u hw hu q).1)]
  refine sm_congr n (fun w hw => ?_)
  by_cases q : 0 < c w u
  · rw [if_pos q, if_pos q]
    by_cases r : dst n c t (fun x => x = b) (t w u) + 1 = k + 1
    · rw [if_pos r]
    · rw [if_neg r]
      symm
      apply Nat.eq_zero_of_not_pos
      intro p
      have h1 := pw_wk hc k _ p
      obtain ⟨g1, g2⟩ := hg w u hw hu q
      obtain ⟨d1, d2⟩ := (dst_le (A := fun x => x = b) hg g1).2.2 k b rfl ⟨k, h1⟩
      have h2 := (dst_up (A := fun x => x = b) hg hu hw q d2).1
      have := hc w u hw q
      omega
  · rw [if_neg q, if_neg q]
theorem ref_sum (hc : unitC n c) (hg : gOk n c t) (ha : a < 54) (hv : v < 54) (hj : dst n c t (fun x => x = v) a = k + 1) (hl : k + 1 < 1000000) : smF (fun u => if dst n c t (fun x => x = u) a = k then pW n c t k a u * hN n c t u v else 0) 54 = pW n c t (k + 1) a v := by
  rw [pw_back hv k a ha]
  refine sm_congr 54 (fun u hu => ?_)
  by_cases r : dst n c t (fun x => x = u) a = k
  · rw [if_pos r]
  · rw [if_neg r]
    symm
    apply Nat.eq_zero_of_not_pos
    intro p
    have h3 : 0 < hN n c t u v := Nat.pos_of_ne_zero (fun r => by rw [r, Nat.mul_zero] at p; exact absurd p (Nat.lt_irrefl 0))
    have h4 : 0 < pW n c t k a u := Nat.pos_of_ne_zero (fun r => by rw [r, Nat.zero_mul] at p; exact absurd p (Nat.lt_irrefl 0))
    have h1 := pw_wk hc k _ h4
    obtain ⟨w, w1, w2, w3⟩ := hN_pos h3
    obtain ⟨d1, d2, d3⟩ := dst_le (A := fun x => x = u) hg ha
    obtain ⟨e1, e2⟩ := d3 k u rfl ⟨k, h1⟩
    obtain ⟨e3, x, rfl, k2, hk2⟩ := d2 e2
    have h5 := wk_snoc hk2 w1 w2
    rw [w3] at h5
    have h6 := ((dst_le (A := fun x => x = v) hg ha).2.2 _ v rfl ⟨_, h5⟩).1
    have := hc w x w1 w2
    omega
theorem cp_add : cp (cp a + cp b) = cp (a + b) := by
  unfold cp
  omega
theorem cp_le : cp a ≤ 9999 := by
  unfold cp
  omega
theorem tl_sumR {F : Nat × Nat → Nat} {w : Nat} (hF : ∀ s, s ≠ u → F (w, s) = 0) : ∀ k, ((tlR g w k).map F).sum = if u < k ∧ 0 < g w u then F (w, u) else 0 := by
  intro k
  induction k with
  | zero => rw [if_neg (fun q => Nat.not_lt_zero u q.1)]; rfl
  | succ k ih =>
    unfold tlR
    rw [List.map_append, List.sum_append, ih]
    by_cases e : u = k
    · subst e
      rw [if_neg (fun q => Nat.lt_irrefl u q.1)]
      by_cases q : 0 < g w u
      · rw [if_pos q, if_pos ⟨Nat.lt_succ_self u, q⟩]
        simp
      · rw [if_neg q, if_neg (fun r => q r.2)]
        rfl
    · have h0 : ((if 0 < g w k then [(w, k)] else []).map F).sum = 0 := by
        split
        · simp [hF k (fun r => e r.symm)]
        · rfl
      rw [h0, Nat.add_zero]
      exact jif ⟨fun q => ⟨by omega, q.2⟩, fun q => ⟨by omega, q.2⟩⟩
theorem tl_sum {F : Nat × Nat → Nat} (hu : u < 54) (hF : ∀ w s, s ≠ u → F (w, s) = 0) : ∀ k, ((tlW g k).map F).sum = smF (fun w => if 0 < g w u then F (w, u) else 0) k := by
  intro k
  induction k with
  | zero => rfl
  | succ k ih =>
    unfold tlW
    rw [List.map_append, List.sum_append, ih, tl_sumR (hF k), sm_s]
    congr 1
    exact jif ⟨fun q => q.2, fun q => ⟨hu, q⟩⟩
end CNT
/-- a row of 54 -/
def fP (p : Nat) (I : Nat → Nat → Int32) (f : Nat → Int32) : Nat → Nat → Int32 := fun q j => if q = p ∧ j < 54 then f j else I q j
def fPk (p : Nat) (I : Nat → Nat → Int32) (f : Nat → Int32) (k : Nat) : Nat → Nat → Int32 := fun q j => if q = p ∧ j < k then f j else I q j
section FPS
variable {p s k : Nat} {I : Nat → Nat → Int32} {f : Nat → Int32}
theorem fP_at {u : Nat} (hu : u < 54) : fP p I f p u = f u := if_pos ⟨rfl, hu⟩
theorem fP_ne {q u : Nat} (h : q ≠ p) : fP p I f q u = I q u := if_neg (fun k => h k.1)
theorem fP_up {x : Int32} (hs : s < 54) : ju (fP p I f) p s x = fP p I (fun i => if i = s then x else f i) := by
  funext q j
  unfold ju fP
  by_cases hq : q = p
  · subst hq
    by_cases hj : j = s
    · subst hj
      simp [hs]
    · simp [hj]
  · simp [hq]
theorem fPk_1 {x : Int32} (hx : x = f k) : ju (fPk p I f k) p k x = fPk p I f (k + 1) := by
  funext q j
  unfold ju fPk
  by_cases hq : q = p
  · subst hq
    by_cases hj : j = k
    · subst hj
      simp [hx]
    · by_cases hl : j < k
      · have : j < k + 1 := by omega
        simp [hj, hl, this]
      · have : ¬ j < k + 1 := by omega
        simp [hj, hl, this]
  · simp [hq]
theorem fPk_0 : fPk p I f 0 = I := by
  funext q j
  unfold fPk
  rw [if_neg (by omega)]
theorem fPk_54 : fPk p I f 54 = fP p I f := rfl
theorem fP_congr {f' : Nat → Int32} (h : ∀ u, u < 54 → f u = f' u) : fP p I f = fP p I f' := by
  funext q j
  unfold fP
  by_cases hq : q = p ∧ j < 54
  · rw [if_pos hq, if_pos hq, h j hq.2]
  · rw [if_neg hq, if_neg hq]
theorem fP_2 {f' : Nat → Int32} : fP p (fP p I f) f' = fP p I f' := by
  funext q j
  unfold fP
  by_cases hq : q = p ∧ j < 54
  · rw [if_pos hq, if_pos hq]
  · rw [if_neg hq, if_neg hq, if_neg hq]
end FPS
