/-! the class measures -/
/-- the states one wants to come to: 54 a chair, 55 a shut one -/
def aimB (to s : Nat) : Bool := if to = 54 then decide (isChr s) else if to = 55 then decide (s < 18) else decide (s = to)
abbrev aimP (to : Nat) : Nat → Prop := fun s => aimB to s = true
def cS (bs : Bool) (wo : Option Nat) (g : Nat → Nat → Nat) (w s : Nat) : Nat := if 0 < g w s ∧ wo ≠ some w then (if bs = true then g w s else 1) else 0
def fC49 (I : Nat → Nat → Int32) (far : Nat → Nat) : Nat → Nat → Int32 := fun q j => if q = 49 ∧ j < 54 then nI (far j) else I q j
def f49k (I : Nat → Nat → Int32) (far : Nat → Nat) (k : Nat) : Nat → Nat → Int32 := fun q j => if q = 49 ∧ j < k then nI (far j) else I q j
section MSR
variable {d : Nat} {I I' : Nat → Nat → Int32} {L : Nat → Nat → Int64} {c e : Nat} {x y z : Int32} {n m w s k : Nat} {g t : Nat → Nat → Nat} {far : Nat → Nat} {tl : List (Nat × Nat)}
theorem q_147 {to : Nat} (hs : s < 54) (ht : to < 56) : jev d 147 [.int (nI s), .int (nI to)] (jmk I L c e) = some (some (.int (if aimB to s = true then 1 else 0)), jmk I L c e) := by
  have e1 : nI to = 54 ↔ to = 54 := nI_eq (b := 54) (by omega) (by decide)
  have e2 : nI to = 55 ↔ to = 55 := nI_eq (b := 55) (by omega) (by decide)
  have e3 : nI s = nI to ↔ s = to := nI_eq (by omega) (by omega)
  rw [jb_147_0, q_145 hs, q_146 hs]
  simp only [Option.bind_some, jps, Bool.cond_decide, e1, e2, e3, jb_147_10, jb_147_21, jb_147_34, j01b, decide_true, if_true]
  unfold aimB
  by_cases h1 : to = 54
  · rw [if_neg (fun q => q h1), if_pos h1]
    simp only [decide_eq_true_eq, cond_true]
  · rw [if_pos h1, if_neg h1]
    by_cases h2 : to = 55
    · rw [if_neg (fun q => q h2), if_pos h2]
      have : pt 0 s = 0 ↔ s < 18 := by
        show s / 18 = 0 ↔ s < 18
        omega
      simp only [decide_eq_true_eq, this, cond_true]
    · rw [if_pos h2, if_neg h2]
      by_cases h3 : s = to
      · rw [if_neg (fun q => q h3), decide_eq_true h3]
        rfl
      · rw [if_pos h3, decide_eq_false h3]
        rfl
theorem q_172 {to : Nat} (hs : s < 54) (ht : to < 56) : jev d 172 [.int (nI s), .int (nI to)] (jmk I L c e) = some (some (.int (if aimB to s = true then 1 else 0)), jmk I L c e) := by
  have e1 : nI to = 54 ↔ to = 54 := nI_eq (b := 54) (by omega) (by decide)
  have e2 : nI to = 55 ↔ to = 55 := nI_eq (b := 55) (by omega) (by decide)
  have e3 : nI s = nI to ↔ s = to := nI_eq (by omega) (by omega)
  rw [jb_172_0, q_170, q_171 hs]
  simp only [Option.bind_some, jps, Bool.cond_decide, e1, e2, e3, jb_172_10, jb_172_23, jb_172_36, j01b, decide_true, if_true]
  unfold aimB
  by_cases h1 : to = 54
  · rw [if_neg (fun q => q h1), if_pos h1]
    simp only [decide_eq_true_eq, cond_true]
  · rw [if_pos h1, if_neg h1]
    by_cases h2 : to = 55
    · rw [if_neg (fun q => q h2), if_pos h2]
      have : (nI s).toInt < 18 ↔ s < 18 := by
        rw [nI_toInt (by omega)]
        omega
      simp only [decide_eq_true_eq, this, cond_true]
    · rw [if_pos h2, if_neg h2]
      by_cases h3 : s = to
      · rw [if_neg (fun q => q h3), decide_eq_true h3]
        rfl
      · rw [if_pos h3, decide_eq_false h3]
        rfl
theorem far0_at {b : Nat → Bool} : far0 (fun s => b s = true) s = if b s = true then 0 else 1000000 := by
  unfold far0
  by_cases h : b s = true
  · rw [if_pos h, if_pos h]
  · rw [if_neg h, if_neg h]
theorem f49_1 {x : Int32} (hk : k < 54) (hx : x = nI (far k)) : ju (f49k I far k) 49 k x = f49k I far (k + 1) := by
  funext q j
  unfold ju f49k
  by_cases hq : q = 49
  · subst hq
    by_cases hj : j = k
    · subst hj
      simp [hx]
    · by_cases hl : j < k
      · have : j < k + 1 := by omega
        simp [hj, hl, this]
      · have : ¬ j < k + 1 := by omega
        simp [hj, hl, this]
  · simp [hq]
theorem fC49_up (hs : s < 54) {x : Nat} : ju (fC49 I far) 49 s (nI x) = fC49 I (upF far s x) := by
  funext q j
  unfold ju fC49 upF
  by_cases hq : q = 49
  · subst hq
    by_cases hj : j = s
    · subst hj
      simp [hs]
    · simp [hj]
  · simp [hq]
theorem tiM_49 (h : tiM g t tl I) : tiM g t tl (fC49 I far) := by
  obtain ⟨h1, h2⟩ := h
  exact ⟨h1, fun i x hx => h2 i x hx⟩
/-- one round -/
theorem q_86t {to : Nat} {bs : Bool} {wo : Option Nat} (hwo : ∀ o, wo = some o → o < 12) (hti : tiM g t tl I) (hl : tl.length ≤ 648) (hin : ∀ x, x ∈ tl → x.1 < 12 ∧ x.2 < 54 ∧ 0 < g x.1 x.2 ∧ t x.1 x.2 < 54 ∧ g x.1 x.2 ≤ 99) {j : Nat} : ∀ (l2 l1 : List (Nat × Nat)) (fb : aFB) (v7 : Value), tl = l1 ++ l2 → (∀ s, s < 54 → fb.1 s ≤ 1000000) → ∃ u7, jat d 86 62 [.ref 42, .int (nI to), .int (if bs = true then 1 else 0), .int (oneI wo), .int (if fb.2 = true then 1 else 0), .int (nI j), .int (nI l1.length), v7] [] (jmk (fC49 I fb.1) L c e) = jat d 86 44 [.ref 42, .int (nI to), .int (if bs = true then 1 else 0), .int (oneI wo), .int (if (l2.foldl (rlF (cS bs wo g) t) fb).2 = true then 1 else 0), .int (nI (j + 1)), .int (nI tl.length), u7] [] (jmk (fC49 I (l2.foldl (rlF (cS bs wo g) t) fb).1) L c e) := by
  intro l2
  induction l2 with
  | nil =>
    intro l1 fb v7 h hb
    rw [List.append_nil] at h
    subst h
    refine ⟨v7, ?_⟩
    rw [jb_86_62, (tiM_49 hti).1, decide_eq_true (by rw [nI_leI (by omega) (by omega)]; exact Nat.le_refl _), cond_true, nI_1]
    rfl
  | cons p l2 ih =>
    intro l1 fb v7 h hb
    have hlen : l1.length < tl.length := by
      rw [h]
      simp
    have hget : tl[l1.length]? = some p := by
      rw [h, List.getElem?_append_right (Nat.le_refl _), Nat.sub_self]
      rfl
    obtain ⟨b1, b2, b3, b4⟩ := (tiM_49 (far := fb.1) hti).2 _ _ hget
    obtain ⟨a1, a2, a3, a4, a5⟩ := hin p (by rw [h]; simp)
    have hnext : tl = (l1 ++ [p]) ++ l2 := by rw [h]; simp
    have hjn : decide (jin (nI l1.length) 648) = true := jdI (by omega)
    have hcl : (nI l1.length).toNatClampNeg = l1.length := jcl' (by omega)
    have r49 : ∀ u, u < 54 → fC49 I fb.1 49 u = nI (fb.1 u) := by
      intro u hu
      unfold fC49
      rw [if_pos ⟨rfl, hu⟩]
    have ht6 := hb _ a4
    have hs6 := hb _ a2
    rw [jb_86_62, (tiM_49 hti).1, decide_eq_false (by rw [nI_leI (by omega) (by omega)]; omega), cond_false, hjn, cond_true, hcl, b2, jdI a4, cond_true, jcl' (show t p.1 p.2 < 2 ^ 31 by omega), r49 _ a4, b4]
    -- what the tie counts
    have h98 : (bif decide ((if bs = true then (1 : Int32) else 0) = 0) then jat d 86 98 [.ref 42, .int (nI to), .int (if bs = true then 1 else 0), .int (oneI wo), .int (if fb.2 = true then 1 else 0), .int (nI j), .int (nI l1.length), v7] [.int 1, .int (nI (fb.1 (t p.1 p.2)))] (jmk (fC49 I fb.1) L c e) else bif true then jat d 86 98 [.ref 42, .int (nI to), .int (if bs = true then 1 else 0), .int (oneI wo), .int (if fb.2 = true then 1 else 0), .int (nI j), .int (nI l1.length), v7] [.int (nI (g p.1 p.2)), .int (nI (fb.1 (t p.1 p.2)))] (jmk (fC49 I fb.1) L c e) else none) = jat d 86 98 [.ref 42, .int (nI to), .int (if bs = true then 1 else 0), .int (oneI wo), .int (if fb.2 = true then 1 else 0), .int (nI j), .int (nI l1.length), v7] [.int (nI (if bs = true then g p.1 p.2 else 1)), .int (nI (fb.1 (t p.1 p.2)))] (jmk (fC49 I fb.1) L c e) := by
      cases bs <;> rfl
    rw [h98, jb_86_98, hjn, hcl, b1, jdI a2, jcl' (show p.2 < 2 ^ 31 by omega), r49 _ a2, b3, nI_add]
    simp only [cond_true]
    have hk99 : (if bs = true then g p.1 p.2 else 1) ≤ 99 := by split <;> omega
    have hk0 : 0 < (if bs = true then g p.1 p.2 else 1) := by split <;> omega
    have hcs : cS bs wo g p.1 p.2 = if wo ≠ some p.1 then (if bs = true then g p.1 p.2 else 1) else 0 := by
      unfold cS
      by_cases hw : wo ≠ some p.1
      · rw [if_pos ⟨a3, hw⟩, if_pos hw]
      · rw [if_neg (fun q => hw q.2), if_neg hw]
    have hweq : nI p.1 = oneI wo ↔ wo = some p.1 := by
      cases wo with
      | none =>
        have : ∀ a, a < 12 → ¬ nI a = -1 := by decide
        exact ⟨fun q => absurd q (this p.1 a1), fun q => by cases q⟩
      | some o =>
        show nI p.1 = nI o ↔ some o = some p.1
        constructor
        · intro q
          have ho := hwo o rfl
          rw [nI_eq (by omega) (by omega)] at q
          rw [q]
        · intro q
          cases q
          rfl
    rw [List.foldl_cons]
    have hstep : ∀ b : aFB, (∀ s, s < 54 → b.1 s ≤ 1000000) → ∀ u7, ∃ u8, jat d 86 62 [.ref 42, .int (nI to), .int (if bs = true then 1 else 0), .int (oneI wo), .int (if b.2 = true then 1 else 0), .int (nI j), .int (nI (l1.length + 1)), u7] [] (jmk (fC49 I b.1) L c e) = jat d 86 44 [.ref 42, .int (nI to), .int (if bs = true then 1 else 0), .int (oneI wo), .int (if (l2.foldl (rlF (cS bs wo g) t) b).2 = true then 1 else 0), .int (nI (j + 1)), .int (nI tl.length), u8] [] (jmk (fC49 I (l2.foldl (rlF (cS bs wo g) t) b).1) L c e) := by
      intro b hb2 u7
      have := ih (l1 ++ [p]) b u7 hnext hb2
      rw [List.length_append] at this
      exact this
    by_cases hle : fb.1 p.2 ≤ fb.1 (t p.1 p.2) + (if bs = true then g p.1 p.2 else 1)
    · have hno : ¬ (0 < cS bs wo g p.1 p.2 ∧ fb.1 (t p.1 p.2) + cS bs wo g p.1 p.2 < fb.1 p.2) := by
        rw [hcs]
        intro q
        by_cases hw : wo ≠ some p.1
        · rw [if_pos hw] at q
          omega
        · rw [if_neg hw] at q
          omega
      rw [decide_eq_true (by rw [nI_leI (by omega) (by omega)]; exact hle), cond_true, nI_1]
      have e1 : rlF (cS bs wo g) t fb p = fb := by
        unfold rlF
        rw [if_neg hno]
      rw [e1]
      exact hstep fb hb _
    · rw [decide_eq_false (by rw [nI_leI (by omega) (by omega)]; exact hle), cond_false]
      by_cases hw : wo = some p.1
      · have hno : ¬ (0 < cS bs wo g p.1 p.2 ∧ fb.1 (t p.1 p.2) + cS bs wo g p.1 p.2 < fb.1 p.2) := by
          rw [hcs, if_neg (fun q => q hw)]
          intro q
          omega
        rw [decide_eq_true (hweq.mpr hw), cond_true, nI_1]
        have e1 : rlF (cS bs wo g) t fb p = fb := by
          unfold rlF
          rw [if_neg hno]
        rw [e1]
        exact hstep fb hb _
      · have hyes : 0 < cS bs wo g p.1 p.2 ∧ fb.1 (t p.1 p.2) + cS bs wo g p.1 p.2 < fb.1 p.2 := by
          rw [hcs, if_pos hw]
          exact ⟨hk0, by omega⟩
        rw [decide_eq_false (fun q => hw (hweq.mp q)), cond_false, nI_1, fC49_up a2]
        have e1 : rlF (cS bs wo g) t fb p = (upF fb.1 p.2 (fb.1 (t p.1 p.2) + (if bs = true then g p.1 p.2 else 1)), true) := by
          unfold rlF
          rw [if_pos hyes, hcs, if_pos hw]
        rw [e1]
        refine hstep (upF fb.1 p.2 (fb.1 (t p.1 p.2) + (if bs = true then g p.1 p.2 else 1)), true) (fun s hs => ?_) _
        show upF fb.1 p.2 (fb.1 (t p.1 p.2) + (if bs = true then g p.1 p.2 else 1)) s ≤ 1000000
        unfold upF
        by_cases q : s = p.2
        · rw [if_pos q]
          omega
        · rw [if_neg q]
          exact hb s hs
theorem rd_le {c0 t0 : Nat → Nat → Nat} {N : Nat} (h : ∀ s, s < 54 → far s ≤ N) : ∀ s, s < 54 → (rdF c0 t0 tl far).1 s ≤ N := fun s hs => Nat.le_trans (fo_le tl (far, false) s) (h s hs)
theorem q_86r {to : Nat} {bs : Bool} {wo : Option Nat} (hwo : ∀ o, wo = some o → o < 12) (hti : tiM g t tl I) (hl : tl.length ≤ 648) (hin : ∀ x, x ∈ tl → x.1 < 12 ∧ x.2 < 54 ∧ 0 < g x.1 x.2 ∧ t x.1 x.2 < 54 ∧ g x.1 x.2 ≤ 99) : ∀ (f j : Nat) (fb : aFB) (v6 v7 : Value), j + f = 54 → (∀ s, s < 54 → fb.1 s ≤ 1000000) → jat d 86 44 [.ref 42, .int (nI to), .int (if bs = true then 1 else 0), .int (oneI wo), .int (if fb.2 = true then 1 else 0), .int (nI j), v6, v7] [] (jmk (fC49 I fb.1) L c e) = some (none, jmk (fC49 I (bfF (cS bs wo g) t tl f fb)) L c e) := by
  intro f
  induction f with
  | zero =>
    intro j fb v6 v7 hj hb
    have hj : j = 54 := hj
    subst hj
    rw [jb_86_44, show decide ((54 : Int32) ≤ nI 54) = true from rfl, cond_true]
    rfl
  | succ f ih =>
    intro j fb v6 v7 hj hb
    rw [jb_86_44, decide_eq_false (show ¬ (54 : Int32) ≤ nI j by show ¬ nI 54 ≤ nI j; rw [nI_leI (by omega) (by omega)]; omega), cond_false]
    unfold bfF
    by_cases hf : fb.2 = true
    · rw [if_pos hf, if_pos hf, jt_2, cond_false]
      obtain ⟨u7, r1⟩ := q_86t (d := d) (L := L) (c := c) (e := e) (to := to) (bs := bs) (wo := wo) (j := j) hwo hti hl hin tl [] (fb.1, false) v7 rfl hb
      rw [show jat d 86 62 [.ref 42, .int (nI to), .int (if bs = true then 1 else 0), .int (oneI wo), .int 0, .int (nI j), .int 0, v7] [] (jmk (fC49 I fb.1) L c e) = _ from r1]
      exact ih (j + 1) (rdF (cS bs wo g) t tl fb.1) _ u7 (by omega) (rd_le hb)
    · rw [if_neg hf, if_neg hf, jt_4, cond_true]
theorem q_86 {to : Nat} {bs : Bool} {wo : Option Nat} (hto : to < 56) (hwo : ∀ o, wo = some o → o < 12) (hti : tiM g t tl I) (hl : tl.length ≤ 648) (hin : ∀ x, x ∈ tl → x.1 < 12 ∧ x.2 < 54 ∧ 0 < g x.1 x.2 ∧ t x.1 x.2 < 54 ∧ g x.1 x.2 ≤ 99) : jev d 86 [.ref 42, .int (nI to), .int (if bs = true then 1 else 0), .int (oneI wo)] (jmk I L c e) = some (none, jmk (fC49 I (bfF (cS bs wo g) t tl 54 (far0 (aimP to), true))) L c e) := by
  have key : jat d 86 3 [.ref 42, .int (nI to), .int (if bs = true then 1 else 0), .int (oneI wo), .int (nI 0), .null, .null, .null] [] (jmk (f49k I (far0 (aimP to)) 0) L c e) = jat d 86 3 [.ref 42, .int (nI to), .int (if bs = true then 1 else 0), .int (oneI wo), .int (nI 54), .null, .null, .null] [] (jmk (f49k I (far0 (aimP to)) 54) L c e) := jloop (N := 54) (fun k => jat d 86 3 [.ref 42, .int (nI to), .int (if bs = true then 1 else 0), .int (oneI wo), .int (nI k), .null, .null, .null] [] (jmk (f49k I (far0 (aimP to)) k) L c e)) (fun k hk => by
    show jat d 86 3 [.ref 42, .int (nI to), .int (if bs = true then 1 else 0), .int (oneI wo), .int (nI k), .null, .null, .null] [] (jmk (f49k I (far0 (aimP to)) k) L c e) = jat d 86 3 [.ref 42, .int (nI to), .int (if bs = true then 1 else 0), .int (oneI wo), .int (nI (k + 1)), .null, .null, .null] [] (jmk (f49k I (far0 (aimP to)) (k + 1)) L c e)
    rw [jb_86_3, decide_eq_false (show ¬ (54 : Int32) ≤ nI k by show ¬ nI 54 ≤ nI k; rw [nI_leI (by omega) (by omega)]; omega), cond_false, q_147 hk hto]
    simp only [Option.bind_some, jps]
    rw [jb_86_22, jdI hk, cond_true, cond_true, jcl' (by omega), nI_1]
    have hf := far0_at (b := aimB to) (s := k)
    by_cases hb : aimB to k = true
    · rw [if_pos hb] at hf
      rw [if_pos hb, jt_2, cond_false, f49_1 hk (by rw [hf]; rfl)]
    · rw [if_neg hb] at hf
      rw [if_neg hb, jt_4, cond_true, f49_1 hk (by rw [hf]; rfl)])
  have e0 : f49k I (far0 (aimP to)) 0 = I := by
    funext q j
    unfold f49k
    rw [if_neg (by omega)]
  rw [e0] at key
  have hb0 : ∀ s, s < 54 → far0 (aimP to) s ≤ 1000000 := by
    intro s hs
    rw [far0_at (b := aimB to)]
    split <;> omega
  rw [jb_86_0, show jat d 86 3 [.ref 42, .int (nI to), .int (if bs = true then 1 else 0), .int (oneI wo), .int 0, .null, .null, .null] [] (jmk I L c e) = _ from key, jb_86_3, show decide ((54 : Int32) ≤ nI 54) = true from rfl, cond_true]
  exact q_86r hwo hti hl hin 54 0 (far0 (aimP to), true) .null .null rfl hb0
end MSR
/-- how far by moves or seconds, without a move -/
noncomputable abbrev dS (n : Nat) (bs : Bool) (wo : Option Nat) (g t : Nat → Nat → Nat) (to s : Nat) : Nat := dst n (cS bs wo g) t (aimP to) s
section MSD
variable {d : Nat} {I I' : Nat → Nat → Int32} {L : Nat → Nat → Int64} {c e : Nat} {n m w s k : Nat} {g t : Nat → Nat → Nat}
theorem cS_ok {bs : Bool} {wo : Option Nat} (hg : ∀ w s, w < n → s < 54 → 0 < g w s → t w s < 54 ∧ g w s ≤ 99) : gOk n (cS bs wo g) t := by
  intro w s hw hs h
  unfold cS at h ⊢
  by_cases q : 0 < g w s ∧ wo ≠ some w
  · obtain ⟨a1, a2⟩ := hg w s hw hs q.1
    rw [if_pos q]
    refine ⟨a1, ?_⟩
    split <;> omega
  · rw [if_neg q] at h
    exact absurd h (Nat.lt_irrefl 0)
theorem tl_ok {bs : Bool} {wo : Option Nat} : tlOk n (cS bs wo g) (tlW g n) := by
  refine ⟨fun x hx => ?_, fun w s hw hs h => ?_⟩
  · obtain ⟨a1, a2, a3⟩ := (tlW_in n x).mp hx
    exact ⟨a1, a2⟩
  · rw [tlW_in]
    unfold cS at h
    by_cases q : 0 < g w s ∧ wo ≠ some w
    · exact ⟨hw, hs, q.1⟩
    · rw [if_neg q] at h
      exact absurd h (Nat.lt_irrefl 0)
/-- measure: how far each is -/
theorem q_86d {to : Nat} {bs : Bool} {wo : Option Nat} (hn : n ≤ 12) (hto : to < 56) (hwo : ∀ o, wo = some o → o < 12) (hg : ∀ w s, w < n → s < 54 → 0 < g w s → t w s < 54 ∧ g w s ≤ 99) (hti : tiM g t (tlW g n) I) : jev d 86 [.ref 42, .int (nI to), .int (if bs = true then 1 else 0), .int (oneI wo)] (jmk I L c e) = some (none, jmk (fC49 I (dS n bs wo g t to)) L c e) := by
  have hl := tlW_len (g := g) n
  rw [q_86 hto hwo hti (by omega) (fun x hx => by
    obtain ⟨a1, a2, a3⟩ := (tlW_in n x).mp hx
    obtain ⟨a4, a5⟩ := hg x.1 x.2 a1 a2 a3
    exact ⟨by omega, a2, a3, a4, a5⟩)]
  have hf : fC49 I (bfF (cS bs wo g) t (tlW g n) 54 (far0 (aimP to), true)) = fC49 I (dS n bs wo g t to) := by
    obtain ⟨h1, h2⟩ := far0_ok (n := n) (c := cS bs wo g) (t := t) (A := aimP to)
    funext q j
    unfold fC49
    by_cases hq : q = 49 ∧ j < 54
    · rw [if_pos hq, if_pos hq, bf_dst (cS_ok hg) tl_ok h1 h2 hq.2]
    · rw [if_neg hq, if_neg hq]
  rw [hf]
end MSD
