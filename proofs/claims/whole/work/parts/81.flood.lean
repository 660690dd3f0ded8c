/-! flood: what is wet -/
def fB51 (I : Nat → Nat → Int32) (wet : Nat → Bool) : Nat → Nat → Int32 := fun q j => if q = 51 ∧ j < 54 then (if wet j = true then 1 else 0) else I q j
def f51k (I : Nat → Nat → Int32) (wet : Nat → Bool) (k : Nat) : Nat → Nat → Int32 := fun q j => if q = 51 ∧ j < k then (if wet j = true then 1 else 0) else I q j
def upB (f : Nat → Bool) (j : Nat) : Nat → Bool := fun i => if i = j then true else f i
def stW (un : Bool) (st u : Nat) : Bool := decide (u = st) && !(un && decide (st < 18))
noncomputable def wetF (n : Nat) (v : Nat → aMv) (un : Bool) (g : Nat → Nat → Nat) (st u : Nat) : Bool := !(un && decide (st < 18)) && decide (dG n 0 v false (!un) g st u < 1000000)
/-- a round of ties -/
def flI (c t : Nat → Nat → Nat) (R : Nat → Prop) (wet0 wet : Nat → Bool) (b : Bool) (l1 : List (Nat × Nat)) : Prop := (∀ u, wet0 u = true → wet u = true) ∧ (∀ u, u < 54 → wet u = true → R u) ∧ ctF wet0 54 ≤ ctF wet 54 ∧ (b = true → ctF wet0 54 < ctF wet 54) ∧ (b = false → wet = wet0 ∧ ∀ x, x ∈ l1 → wet x.2 = true → 0 < c x.1 x.2 → wet (t x.1 x.2) = true)
section FLG
variable {n : Nat} {c t g : Nat → Nat → Nat} {wet wet0 : Nat → Bool} {R : Nat → Prop}
theorem ct_up {j : Nat} (h : wet j = false) : ∀ k, ctF (upB wet j) k = ctF wet k + if j < k then 1 else 0 := by
  intro k
  induction k with
  | zero => rfl
  | succ k ih =>
    show ctF (upB wet j) k + (if upB wet j k = true then 1 else 0) = ctF wet k + (if wet k = true then 1 else 0) + if j < k + 1 then 1 else 0
    rw [ih]
    unfold upB
    by_cases q : k = j
    · subst q
      rw [if_pos rfl, h, if_neg (Nat.lt_irrefl k), if_pos (Nat.lt_succ_self k)]
      simp
    · rw [if_neg q]
      by_cases r : j < k
      · have r2 : j < k + 1 := by omega
        rw [if_pos r, if_pos r2]
        omega
      · have r2 : ¬ j < k + 1 := by omega
        rw [if_neg r, if_neg r2]
        omega
theorem ct_full : ∀ k, ctF wet k = k → ∀ u, u < k → wet u = true := by
  intro k
  induction k with
  | zero => intro _ u hu; exact absurd hu (Nat.not_lt_zero u)
  | succ k ih =>
    intro h u hu
    have h : ctF wet k + (if wet k = true then 1 else 0) = k + 1 := h
    have h2 := ct_le (b := wet) k
    by_cases q : wet k = true
    · rw [if_pos q] at h
      by_cases e : u = k
      · rw [e]
        exact q
      · exact ih (by omega) u (by omega)
    · rw [if_neg q] at h
      omega
theorem fl_0 (hR : ∀ u, u < 54 → wet u = true → R u) : flI c t R wet wet false [] := ⟨fun _ h => h, hR, Nat.le_refl _, fun h => (by cases h), fun _ => ⟨rfl, fun x hx => by cases hx⟩⟩
theorem fl_no {b : Bool} {l1 : List (Nat × Nat)} {p : Nat × Nat} (h : flI c t R wet0 wet b l1) (hp : wet p.2 = true → 0 < c p.1 p.2 → wet (t p.1 p.2) = true) : flI c t R wet0 wet b (l1 ++ [p]) := by
  obtain ⟨h1, h2, h3, h4, h5⟩ := h
  refine ⟨h1, h2, h3, h4, fun hb => ?_⟩
  obtain ⟨e1, e2⟩ := h5 hb
  refine ⟨e1, fun x hx => ?_⟩
  rw [List.mem_append, List.mem_singleton] at hx
  rcases hx with hx | rfl
  · exact e2 x hx
  · exact hp
theorem fl_up {b : Bool} {l1 : List (Nat × Nat)} {p : Nat × Nat} (h : flI c t R wet0 wet b l1) (ht : t p.1 p.2 < 54) (hw : wet (t p.1 p.2) = false) (hR : R (t p.1 p.2)) : flI c t R wet0 (upB wet (t p.1 p.2)) true (l1 ++ [p]) := by
  obtain ⟨h1, h2, h3, h4, h5⟩ := h
  have hc := ct_up hw 54
  rw [if_pos ht] at hc
  refine ⟨fun u hu => ?_, fun u hu hw2 => ?_, by omega, fun _ => by omega, fun hb => by cases hb⟩
  · unfold upB
    split
    · rfl
    · exact h1 u hu
  · unfold upB at hw2
    by_cases q : u = t p.1 p.2
    · rw [q]
      exact hR
    · rw [if_neg q] at hw2
      exact h2 u hu hw2
end FLG
section FLD
variable {d : Nat} {I I' : Nat → Nat → Int32} {L : Nat → Nat → Int64} {c e : Nat} {x y z : Int32} {lw : List aLn} {n m w s k B st : Nat} {v : Nat → aMv} {pe : Nat → aPe} {D : Nat → Int32} {one : Option Nat} {far far0 : Nat → Nat} {bs sh un : Bool} {g t : Nat → Nat → Nat} {tl : List (Nat × Nat)} {wet wet0 : Nat → Bool} {y1 : Int32}
theorem f51_1 {x : Int32} (hk : k < 54) (hx : x = if wet k = true then 1 else 0) : ju (f51k I wet k) 51 k x = f51k I wet (k + 1) := by
  funext q j
  unfold ju f51k
  by_cases hq : q = 51
  · subst hq
    by_cases hj : j = k
    · subst hj
      simp [hx]
    · by_cases hl : j < k
      · have : j < k + 1 := by omega
        simp [hj, hl, this]
      · have : ¬ j < k + 1 := by omega
        simp [hj, hl, this]
  · simp [hq]
theorem fB51_up (hs : s < 54) : ju (fB51 I wet) 51 s (1 &&& 1) = fB51 I (upB wet s) := by
  funext q j
  unfold ju fB51 upB
  by_cases hq : q = 51
  · subst hq
    by_cases hj : j = s
    · subst hj
      simp [hs]
    · simp [hj]
  · simp [hq]
theorem fB51_at {u : Nat} (hu : u < 54) : fB51 I wet 51 u = if wet u = true then 1 else 0 := by
  unfold fB51
  rw [if_pos ⟨rfl, hu⟩]
theorem tiM_51 (h : tiM g t tl I) : tiM g t tl (fB51 I wet) := by
  obtain ⟨h1, h2⟩ := h
  exact ⟨h1, fun i x hx => h2 i x hx⟩
theorem cG_un (hgs : 0 < g w s) : 0 < cG false 0 (!un) g t w s ↔ ¬ (un = true ∧ t w s < 18) := by
  unfold cG cS
  have e1 : 0 < g w s ∧ (none : Option Nat) ≠ some w := ⟨hgs, fun k => by cases k⟩
  cases un with
  | false =>
    rw [if_neg, if_pos e1]
    · exact ⟨fun _ q => (by cases q.1), fun _ => Nat.zero_lt_one⟩
    · intro q
      rcases q with q | q
      · rw [Nat.zero_div] at q
        cases q
      · cases q.1
  | true =>
    by_cases h : t w s < 18
    · rw [if_pos (Or.inr ⟨rfl, h⟩)]
      exact ⟨fun q => absurd q (Nat.lt_irrefl 0), fun q => absurd ⟨rfl, h⟩ q⟩
    · rw [if_neg, if_pos e1]
      · exact ⟨fun _ q => h q.2, fun _ => Nat.zero_lt_one⟩
      · intro q
        rcases q with q | q
        · rw [Nat.zero_div] at q
          cases q
        · exact h q.2
theorem pt0_18 : pt 0 s = 0 ↔ s < 18 := by
  show s / 18 = 0 ↔ s < 18
  omega
theorem q_92t (hti : tiM g t tl I) (hl : tl.length ≤ 648) (hin : ∀ x, x ∈ tl → x.1 < 12 ∧ x.2 < 54 ∧ 0 < g x.1 x.2 ∧ t x.1 x.2 < 54 ∧ g x.1 x.2 ≤ 99) {R : Nat → Prop} (hR : ∀ x, x ∈ tl → R x.2 → 0 < cG false 0 (!un) g t x.1 x.2 → R (t x.1 x.2)) {j : Nat} : ∀ (l2 l1 : List (Nat × Nat)) (wet : Nat → Bool) (b : Bool), tl = l1 ++ l2 → flI (cG false 0 (!un) g t) t R wet0 wet b l1 → ∃ wet' b', jat d 92 62 [.ref 42, .int y1, .int (if un = true then 1 else 0), .int (if b = true then 1 else 0), .int (nI j), .int (nI l1.length)] [] (jmk (fB51 I wet) L c e) = jat d 92 46 [.ref 42, .int y1, .int (if un = true then 1 else 0), .int (if b' = true then 1 else 0), .int (nI (j + 1)), .int (nI tl.length)] [] (jmk (fB51 I wet') L c e) ∧ flI (cG false 0 (!un) g t) t R wet0 wet' b' tl := by
  intro l2
  induction l2 with
  | nil =>
    intro l1 wet b h hi
    rw [List.append_nil] at h
    subst h
    refine ⟨wet, b, ?_, hi⟩
    rw [jb_92_62, (tiM_51 hti).1, decide_eq_true (by rw [nI_leI (by omega) (by omega)]; exact Nat.le_refl _), cond_true, nI_1]
  | cons p l2 ih =>
    intro l1 wet b h hi
    have hlen : l1.length < tl.length := by
      rw [h]
      simp
    have hget : tl[l1.length]? = some p := by
      rw [h, List.getElem?_append_right (Nat.le_refl _), Nat.sub_self]
      rfl
    have hmem : p ∈ tl := by rw [h]; simp
    obtain ⟨b1, b2, b3, b4⟩ := (tiM_51 (wet := wet) hti).2 _ _ hget
    obtain ⟨a1, a2, a3, a4, a5⟩ := hin p hmem
    have hnext : tl = (l1 ++ [p]) ++ l2 := by rw [h]; simp
    have hjn : decide (jin (nI l1.length) 648) = true := jdI (by omega)
    have hcl : (nI l1.length).toNatClampNeg = l1.length := jcl' (by omega)
    have hcu := cG_un (un := un) (t := t) a3
    have hgo : ∀ wet' b2, flI (cG false 0 (!un) g t) t R wet0 wet' b2 (l1 ++ [p]) → ∃ wet2 b', jat d 92 62 [.ref 42, .int y1, .int (if un = true then 1 else 0), .int (if b2 = true then 1 else 0), .int (nI j), .int (nI (l1.length + 1))] [] (jmk (fB51 I wet') L c e) = jat d 92 46 [.ref 42, .int y1, .int (if un = true then 1 else 0), .int (if b' = true then 1 else 0), .int (nI (j + 1)), .int (nI tl.length)] [] (jmk (fB51 I wet2) L c e) ∧ flI (cG false 0 (!un) g t) t R wet0 wet2 b' tl := by
      intro wet' b2 hi2
      have := ih (l1 ++ [p]) wet' b2 hnext hi2
      rw [List.length_append] at this
      exact this
    rw [jb_92_62, (tiM_51 hti).1, decide_eq_false (by rw [nI_leI (by omega) (by omega)]; omega), cond_false, hjn, hcl, b1, b2, jdI a2, jdI a4, cond_true, cond_true, cond_true, cond_true, cond_true, jcl' (show p.2 < 2 ^ 31 by omega), jcl' (show t p.1 p.2 < 2 ^ 31 by omega), fB51_at a2, fB51_at a4, nI_1, q_145 a4]
    simp only [Option.bind_some, jps, Bool.cond_decide, j01, jb_92_115, hcl, pt0_18, nI_1]
    have h118 : jat d 92 118 [.ref 42, .int y1, .int (if un = true then 1 else 0), .int (if b = true then 1 else 0), .int (nI j), .int (nI l1.length)] [] (jmk (fB51 I wet) L c e) = jat d 92 62 [.ref 42, .int y1, .int (if un = true then 1 else 0), .int (if true = true then 1 else 0), .int (nI j), .int (nI (l1.length + 1))] [] (jmk (fB51 I (upB wet (t p.1 p.2))) L c e) := by
      rw [jb_92_118, hjn, hcl, b2, jdI a4, cond_true, cond_true, jcl' (show t p.1 p.2 < 2 ^ 31 by omega), fB51_up a4, nI_1]
      rfl
    by_cases h1 : wet p.2 = true
    · rw [if_neg (fun q => q h1)]
      by_cases h2 : wet (t p.1 p.2) = true
      · rw [if_pos (fun q => q h2)]
        exact hgo wet b (fl_no hi (fun _ _ => h2))
      · have h22 : ¬¬¬ wet (t p.1 p.2) = true := fun q => q h2
        rw [if_neg h22]
        have hyes : 0 < cG false 0 (!un) g t p.1 p.2 → ∃ wet2 b', jat d 92 118 [.ref 42, .int y1, .int (if un = true then 1 else 0), .int (if b = true then 1 else 0), .int (nI j), .int (nI l1.length)] [] (jmk (fB51 I wet) L c e) = jat d 92 46 [.ref 42, .int y1, .int (if un = true then 1 else 0), .int (if b' = true then 1 else 0), .int (nI (j + 1)), .int (nI tl.length)] [] (jmk (fB51 I wet2) L c e) ∧ flI (cG false 0 (!un) g t) t R wet0 wet2 b' tl := by
          intro hc
          rw [h118]
          refine hgo _ true (fl_up hi a4 ?_ (hR p hmem (hi.2.1 _ a2 h1) hc))
          cases hw : wet (t p.1 p.2) with
          | true => exact absurd hw h2
          | false => rfl
        by_cases h3 : un = true
        · rw [if_neg (fun q => q h3)]
          by_cases h4 : t p.1 p.2 < 18
          · have h44 : ¬¬ t p.1 p.2 < 18 := fun q => q h4
            rw [if_pos h44]
            exact hgo wet b (fl_no hi (fun _ hc => absurd ⟨h3, h4⟩ (hcu.mp hc)))
          · rw [if_neg (fun q => q h4)]
            exact hyes (hcu.mpr (fun q => h4 q.2))
        · rw [if_pos h3]
          exact hyes (hcu.mpr (fun q => h3 q.1))
    · rw [if_pos h1]
      exact hgo wet b (fl_no hi (fun hw _ => absurd hw h1))
theorem q_92r (hti : tiM g t tl I) (hl : tl.length ≤ 648) (hin : ∀ x, x ∈ tl → x.1 < 12 ∧ x.2 < 54 ∧ 0 < g x.1 x.2 ∧ t x.1 x.2 < 54 ∧ g x.1 x.2 ≤ 99) {R : Nat → Prop} (hR : ∀ x, x ∈ tl → R x.2 → 0 < cG false 0 (!un) g t x.1 x.2 → R (t x.1 x.2)) : ∀ (f j : Nat) (wet : Nat → Bool) (b : Bool) (v5 : Value), j + f = 54 → (∀ u, u < 54 → wet u = true → R u) → (b = true → j ≤ ctF wet 54) → (b = false → ∀ x, x ∈ tl → wet x.2 = true → 0 < cG false 0 (!un) g t x.1 x.2 → wet (t x.1 x.2) = true) → ∃ wet', jat d 92 46 [.ref 42, .int y1, .int (if un = true then 1 else 0), .int (if b = true then 1 else 0), .int (nI j), v5] [] (jmk (fB51 I wet) L c e) = some (none, jmk (fB51 I wet') L c e) ∧ (∀ u, wet u = true → wet' u = true) ∧ (∀ u, u < 54 → wet' u = true → R u) ∧ ∀ x, x ∈ tl → wet' x.2 = true → 0 < cG false 0 (!un) g t x.1 x.2 → wet' (t x.1 x.2) = true := by
  intro f
  induction f with
  | zero =>
    intro j wet b v5 hj h1 h2 h3
    have hj : j = 54 := hj
    subst hj
    refine ⟨wet, ?_, fun _ h => h, h1, fun x hx hw hc => ?_⟩
    · rw [jb_92_46]
      rfl
    · cases b with
      | true =>
        have h4 := ct_le (b := wet) 54
        have h5 := h2 rfl
        exact ct_full 54 (by omega) _ (hin x hx).2.2.2.1
      | false => exact h3 rfl x hx hw hc
  | succ f ih =>
    intro j wet b v5 hj h1 h2 h3
    rw [jb_92_46, decide_eq_false (show ¬ (54 : Int32) ≤ nI j by show ¬ nI 54 ≤ nI j; rw [nI_leI (by omega) (by omega)]; omega), cond_false]
    cases b with
    | false => exact ⟨wet, rfl, fun _ h => h, h1, h3 rfl⟩
    | true =>
      obtain ⟨wet1, b1, r1, r2⟩ := q_92t (d := d) (L := L) (c := c) (e := e) (y1 := y1) (j := j) hti hl hin hR tl [] wet false rfl (fl_0 h1)
      obtain ⟨i1, i2, i3, i4, i5⟩ := r2
      have := h2 rfl
      obtain ⟨wet2, s1, s2, s3, s4⟩ := ih (j + 1) wet1 b1 (.int (nI tl.length)) (by omega) i2 (fun hb => by have := i4 hb; omega) (fun hb => (i5 hb).2)
      refine ⟨wet2, ?_, fun u hu => s2 u (i1 u hu), s3, s4⟩
      rw [if_pos rfl, jt_2, cond_false, show jat d 92 62 [.ref 42, .int y1, .int (if un = true then 1 else 0), .int 0, .int (nI j), .int 0] [] (jmk (fB51 I wet) L c e) = _ from r1]
      exact s1
theorem q_92 (hn : n ≤ 12) (hst : st < 54) (hg : ∀ w s, w < n → s < 54 → 0 < g w s → tS v w s < 54 ∧ g w s ≤ 99) (hti : tiM g (tS v) (tlW g n) I) : jev d 92 [.ref 42, .int (nI st), .int (if un = true then 1 else 0)] (jmk I L c e) = some (none, jmk (fB51 I (wetF n v un g st)) L c e) := by
  have key : jat d 92 2 [.ref 42, .int (nI st), .int (if un = true then 1 else 0), .int (nI 0), .null, .null] [] (jmk (f51k I (stW un st) 0) L c e) = jat d 92 2 [.ref 42, .int (nI st), .int (if un = true then 1 else 0), .int (nI 54), .null, .null] [] (jmk (f51k I (stW un st) 54) L c e) := jloop (N := 54) (fun k => jat d 92 2 [.ref 42, .int (nI st), .int (if un = true then 1 else 0), .int (nI k), .null, .null] [] (jmk (f51k I (stW un st) k) L c e)) (fun k hk => by
    show jat d 92 2 [.ref 42, .int (nI st), .int (if un = true then 1 else 0), .int (nI k), .null, .null] [] (jmk (f51k I (stW un st) k) L c e) = jat d 92 2 [.ref 42, .int (nI st), .int (if un = true then 1 else 0), .int (nI (k + 1)), .null, .null] [] (jmk (f51k I (stW un st) (k + 1)) L c e)
    have e1 : nI k = nI st ↔ k = st := nI_eq (by omega) (by omega)
    rw [jb_92_2, decide_eq_false (show ¬ (54 : Int32) ≤ nI k by show ¬ nI 54 ≤ nI k; rw [nI_leI (by omega) (by omega)]; omega), cond_false, q_145 hk, jdI hk, cond_true, jcl' (by omega)]
    simp only [Option.bind_some, jps, Bool.cond_decide, j01, jb_92_26, jb_92_29, e1, pt0_18]
    have hj : jin (nI k) 54 := jin_nI hk (by decide)
    have hw : stW un st k = true ↔ k = st ∧ ¬ (un = true ∧ st < 18) := by
      unfold stW
      rw [Bool.and_eq_true, decide_eq_true_eq, Bool.not_eq_true', Bool.and_eq_false_iff, decide_eq_false_iff_not]
      cases un <;> simp
    by_cases h1 : k = st
    · rw [if_neg (fun q => q h1)]
      by_cases h2 : un = true
      · rw [if_neg (fun q => q h2)]
        by_cases h3 : k < 18
        · have h33 : ¬¬ k < 18 := fun q => q h3
          rw [if_pos h33, if_pos hj, jcl' (by omega), nI_1, f51_1 (wet := stW un st) hk]
          rw [if_neg (fun q => (hw.mp q).2 ⟨h2, by omega⟩)]
          rfl
        · rw [if_neg (fun q => q h3), if_pos hj, jcl' (by omega), nI_1, f51_1 (wet := stW un st) hk]
          rw [if_pos (hw.mpr ⟨h1, fun q => by omega⟩)]
          rfl
      · rw [if_pos h2, if_pos hj, jcl' (by omega), nI_1, f51_1 (wet := stW un st) hk]
        rw [if_pos (hw.mpr ⟨h1, fun q => h2 q.1⟩)]
        rfl
    · rw [if_pos h1, nI_1, f51_1 (wet := stW un st) hk]
      rw [if_neg (fun q => h1 (hw.mp q).1)]
      rfl)
  have e0 : f51k I (stW un st) 0 = I := by
    funext q j
    unfold f51k
    rw [if_neg (by omega)]
  have e54 : f51k I (stW un st) 54 = fB51 I (stW un st) := rfl
  rw [e0, e54] at key
  have hw : ∀ k, stW un st k = true ↔ k = st ∧ ¬ (un = true ∧ st < 18) := by
    intro k
    unfold stW
    rw [Bool.and_eq_true, decide_eq_true_eq, Bool.not_eq_true', Bool.and_eq_false_iff, decide_eq_false_iff_not]
    cases un <;> simp
  have hl := tlW_len (g := g) n
  have hin : ∀ x, x ∈ tlW g n → x.1 < 12 ∧ x.2 < 54 ∧ 0 < g x.1 x.2 ∧ tS v x.1 x.2 < 54 ∧ g x.1 x.2 ≤ 99 := fun x hx => by
    obtain ⟨a1, a2, a3⟩ := (tlW_in n x).mp hx
    obtain ⟨a4, a5⟩ := hg x.1 x.2 a1 a2 a3
    exact ⟨by omega, a2, a3, a4, a5⟩
  obtain ⟨wet', r1, r2, r3, r4⟩ := q_92r (d := d) (L := L) (c := c) (e := e) (y1 := nI st) (un := un) (R := fun u => ¬ (un = true ∧ st < 18) ∧ ∃ W, DD n (cG false 0 (!un) g (tS v)) (tS v) W st u) hti (by omega) hin (fun x hx hr hc => by
    obtain ⟨a1, a2, a3⟩ := (tlW_in n x).mp hx
    obtain ⟨h1, W, k, h2⟩ := hr
    exact ⟨h1, _, _, wk_snoc h2 a1 hc⟩) 54 0 (stW un st) true .null (by omega) (fun u hu h => by
      obtain ⟨h1, h2⟩ := (hw u).mp h
      exact ⟨h2, 0, 0, h1.symm, rfl⟩) (fun _ => Nat.zero_le _) (fun hb => by cases hb)
  have hfin : fB51 I wet' = fB51 I (wetF n v un g st) := by
    funext q j
    unfold fB51
    by_cases hq : q = 51 ∧ j < 54
    · rw [if_pos hq, if_pos hq]
      apply jif
      have hgc := cG_ok (v := v) (bs := false) (B := 0) (sh := !un) hg
      obtain ⟨d1, d2, d3⟩ := dst_le (A := fun x => x = j) hgc hst
      have hwf : wetF n v un g st j = true ↔ ¬ (un = true ∧ st < 18) ∧ dG n 0 v false (!un) g st j < 1000000 := by
        unfold wetF
        rw [Bool.and_eq_true, decide_eq_true_eq, Bool.not_eq_true', Bool.and_eq_false_iff, decide_eq_false_iff_not]
        cases un <;> simp
      rw [hwf]
      constructor
      · intro h
        obtain ⟨h1, W, h2⟩ := r3 j hq.2 h
        exact ⟨h1, (d3 W j rfl h2).2⟩
      · rintro ⟨h1, h2⟩
        obtain ⟨e1, a, ha, k, hk⟩ := d2 h2
        have ha : a = j := ha
        subst ha
        have hall : ∀ k W s, s < 54 → wet' s = true → wk n (cG false 0 (!un) g (tS v)) (tS v) k W s a → wet' a = true := by
          intro k
          induction k with
          | zero =>
            intro W s hs hs2 h
            rw [← h.1]
            exact hs2
          | succ k ih =>
            intro W s hs hs2 h
            obtain ⟨w, W', a1, a2, a3, a4⟩ := h
            have g1 := hgc w s a1 hs a2
            have hgp : 0 < g w s := by
              unfold cG cS at a2
              split at a2
              · exact absurd a2 (Nat.lt_irrefl 0)
              · rename_i hno
                by_cases q : 0 < g w s ∧ (none : Option Nat) ≠ some w
                · exact q.1
                · rw [if_neg q] at a2
                  exact absurd a2 (Nat.lt_irrefl 0)
            exact ih W' _ g1.1 (r4 (w, s) ((tlW_in n (w, s)).mpr ⟨a1, hs, hgp⟩) hs2 a2) a4
        exact hall k _ st hst (r2 st ((hw st).mpr ⟨rfl, h1⟩)) hk
    · rw [if_neg hq, if_neg hq]
  rw [jb_92_0, show jat d 92 2 [.ref 42, .int (nI st), .int (if un = true then 1 else 0), .int 0, .null, .null] [] (jmk I L c e) = _ from key, jb_92_2, show decide ((54 : Int32) ≤ nI 54) = true from rfl, cond_true, ← hfin]
  exact r1
end FLD
