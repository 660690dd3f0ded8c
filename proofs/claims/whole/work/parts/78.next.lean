/-! next: the first move of a nearest way -/
def fstW (b : Nat → Bool) : Nat → Option Nat
  | 0 => none
  | k + 1 => match fstW b k with
    | some w => some w
    | none => if b k = true then some k else none
def bsW (c t : Nat → Nat → Nat) (far : Nat → Nat) (s : Nat) : Nat → Option (Nat × Nat)
  | 0 => none
  | k + 1 => if 0 < c k s ∧ far (t k s) < 1000000 ∧ (∀ p, bsW c t far s k = some p → c k s + far (t k s) < p.2) then some (k, c k s + far (t k s)) else bsW c t far s k
def nxB (g t : Nat → Nat → Nat) (far : Nat → Nat) (s w : Nat) : Bool := decide (0 < g w s) && decide (far (t w s) + g w s = far s)
def nxF (n : Nat) (g t : Nat → Nat → Nat) (far : Nat → Nat) (s : Nat) : Option Nat := if far s = 0 ∨ ¬ far s < 1000000 then none else fstW (nxB g t far s) n
noncomputable def opNext (n : Nat) (v : Nat → aMv) (m : Nat) (pe : Nat → aPe) (lw : List aLn) (x y : Int32) : Int32 := if psOk m x ∧ jin y 56 then oI (nxF n (gS lw v pe (psO x) (knO pe (psO x))) (tS v) (dS n true none (gS lw v pe (psO x) (knO pe (psO x))) (tS v) y.toNatClampNeg) (psS x)) else -1
section NXG
variable {n : Nat} {c t g : Nat → Nat → Nat} {A : Nat → Prop} {far : Nat → Nat} {b : Nat → Bool} {s : Nat}
theorem fst_some : ∀ k w, fstW b k = some w ↔ w < k ∧ b w = true ∧ ∀ w', w' < w → ¬ b w' = true := by
  intro k
  induction k with
  | zero =>
    intro w
    exact ⟨fun h => (by cases h), fun h => absurd h.1 (Nat.not_lt_zero w)⟩
  | succ k ih =>
    intro w
    unfold fstW
    cases hf : fstW b k with
    | some w0 =>
      dsimp only
      have h0 := (ih w0).mp hf
      constructor
      · intro h
        cases h
        exact ⟨by omega, h0.2⟩
      · rintro ⟨h1, h2, h3⟩
        have : w = w0 := by
          rcases Nat.lt_trichotomy w w0 with q | q | q
          · exact absurd h2 (h0.2.2 w q)
          · exact q
          · exact absurd h0.2.1 (h3 w0 q)
        rw [this]
    | none =>
      dsimp only
      have hno : ∀ w, w < k → ¬ b w = true := by
        intro w
        induction w using Nat.strongRecOn with
        | _ w ihw =>
          intro hw hb
          have := (ih w).mpr ⟨hw, hb, fun w' h => ihw w' h (by omega)⟩
          rw [hf] at this
          cases this
      by_cases hb : b k = true
      · rw [if_pos hb]
        constructor
        · intro h
          cases h
          exact ⟨Nat.lt_succ_self _, hb, hno⟩
        · rintro ⟨h1, h2, h3⟩
          by_cases q : w = k
          · rw [q]
          · exact absurd h2 (hno w (by omega))
      · rw [if_neg hb]
        constructor
        · intro h
          cases h
        · rintro ⟨h1, h2, h3⟩
          by_cases q : w = k
          · exact absurd (q ▸ h2) hb
          · exact absurd h2 (hno w (by omega))
theorem fst_none {k : Nat} (h : ∀ w, w < k → ¬ b w = true) : fstW b k = none := by
  cases hf : fstW b k with
  | none => rfl
  | some w =>
    have := (fst_some k w).mp hf
    exact absurd this.2.1 (h w this.1)
/-- the first tie from s that serves -/
theorem fd_row {w : Nat} : ∀ k, (tlR g w k).find? (fun x => decide (x.2 = s) && decide (far (t x.1 x.2) + g x.1 x.2 = far s)) = if s < k ∧ nxB g t far s w = true then some (w, s) else none := by
  intro k
  induction k with
  | zero => rw [if_neg (fun q => Nat.not_lt_zero s q.1)]; rfl
  | succ k ih =>
    unfold tlR
    rw [List.find?_append, ih]
    by_cases h1 : s < k ∧ nxB g t far s w = true
    · have h2 : s < k + 1 ∧ nxB g t far s w = true := ⟨by omega, h1.2⟩
      rw [if_pos h1, if_pos h2]
      rfl
    · rw [if_neg h1]
      by_cases h2 : s < k + 1 ∧ nxB g t far s w = true
      · have hs : s = k := by
          by_cases q : s < k
          · exact absurd ⟨q, h2.2⟩ h1
          · omega
        subst hs
        have h3 := h2.2
        unfold nxB at h3
        rw [Bool.and_eq_true, decide_eq_true_eq, decide_eq_true_eq] at h3
        rw [if_pos h2, if_pos h3.1, List.find?_cons_of_pos]
        · rfl
        · dsimp only
          rw [decide_eq_true rfl, decide_eq_true h3.2]
          rfl
      · rw [if_neg h2]
        by_cases h3 : 0 < g w k
        · rw [if_pos h3, List.find?_cons_of_neg]
          · rfl
          · dsimp only
            intro q
            rw [Bool.and_eq_true, decide_eq_true_eq, decide_eq_true_eq] at q
            obtain ⟨q1, q2⟩ := q
            subst q1
            refine h2 ⟨Nat.lt_succ_self _, ?_⟩
            unfold nxB
            rw [decide_eq_true h3, decide_eq_true q2]
            rfl
        · rw [if_neg h3]
          rfl
theorem fd_all (hs : s < 54) : ∀ k, (tlW g k).find? (fun x => decide (x.2 = s) && decide (far (t x.1 x.2) + g x.1 x.2 = far s)) = (fstW (nxB g t far s) k).map (fun w => (w, s)) := by
  intro k
  induction k with
  | zero => rfl
  | succ k ih =>
    unfold tlW fstW
    rw [List.find?_append, ih, fd_row]
    cases hf : fstW (nxB g t far s) k with
    | some w => rfl
    | none =>
      dsimp only
      by_cases hb : nxB g t far s k = true
      · rw [if_pos hb, if_pos ⟨hs, hb⟩]
        rfl
      · rw [if_neg hb, if_neg (fun q => hb q.2)]
        rfl
theorem dst_0 (hg : gOk n c t) (hs : s < 54) : dst n c t A s = 0 ↔ A s := by
  obtain ⟨h1, h2, h3⟩ := dst_le (A := A) hg hs
  constructor
  · intro h
    obtain ⟨e1, a, ha, k, hk⟩ := h2 (by omega)
    have := wk_lt hg hs hk
    have hk0 : k = 0 := by omega
    subst hk0
    obtain ⟨rfl, _⟩ := hk
    exact ha
  · intro h
    have := (h3 0 s h ⟨0, rfl, rfl⟩).1
    omega
theorem dst_up (hg : gOk n c t) (hs : s < 54) {w : Nat} (hw : w < n) (hc : 0 < c w s) (hl : dst n c t A (t w s) < 1000000) : dst n c t A s ≤ c w s + dst n c t A (t w s) ∧ dst n c t A s < 1000000 := by
  obtain ⟨g1, g2⟩ := hg w s hw hs hc
  obtain ⟨h1, h2, h3⟩ := dst_le (A := A) hg g1
  obtain ⟨e1, a, ha, k, hk⟩ := h2 hl
  exact (dst_le (A := A) hg hs).2.2 _ a ha ⟨k + 1, w, _, hw, hc, rfl, hk⟩
theorem dst_dn (hg : gOk n c t) (hs : s < 54) (hA : ¬ A s) (hl : dst n c t A s < 1000000) : ∃ w, w < n ∧ 0 < c w s ∧ dst n c t A (t w s) < 1000000 ∧ c w s + dst n c t A (t w s) = dst n c t A s := by
  obtain ⟨h1, h2, h3⟩ := dst_le (A := A) hg hs
  obtain ⟨e1, a, ha, k, hk⟩ := h2 hl
  cases k with
  | zero =>
    obtain ⟨rfl, _⟩ := hk
    exact absurd ha hA
  | succ k =>
    obtain ⟨w, W', a1, a2, a3, a4⟩ := hk
    obtain ⟨g1, g2⟩ := hg w s a1 hs a2
    obtain ⟨b1, b2⟩ := (dst_le (A := A) hg g1).2.2 W' a ha ⟨k, a4⟩
    have := (dst_up (A := A) hg hs a1 a2 b2).1
    exact ⟨w, a1, a2, b2, by omega⟩
theorem bs_ok : ∀ k, (∀ p, bsW c t far s k = some p → p.1 < k ∧ 0 < c p.1 s ∧ far (t p.1 s) < 1000000 ∧ p.2 = c p.1 s + far (t p.1 s) ∧ (∀ w, w < k → 0 < c w s → far (t w s) < 1000000 → p.2 ≤ c w s + far (t w s)) ∧ ∀ w, w < p.1 → 0 < c w s → far (t w s) < 1000000 → p.2 < c w s + far (t w s)) ∧ (bsW c t far s k = none → ∀ w, w < k → 0 < c w s → ¬ far (t w s) < 1000000) := by
  intro k
  induction k with
  | zero => exact ⟨fun p h => (by cases h), fun _ w h => absurd h (Nat.not_lt_zero w)⟩
  | succ k ih =>
    obtain ⟨i1, i2⟩ := ih
    unfold bsW
    by_cases q : 0 < c k s ∧ far (t k s) < 1000000 ∧ (∀ p, bsW c t far s k = some p → c k s + far (t k s) < p.2)
    · rw [if_pos q]
      obtain ⟨q1, q2, q3⟩ := q
      refine ⟨fun p h => ?_, fun h => (by cases h)⟩
      cases h
      have hall : ∀ w, w < k → 0 < c w s → far (t w s) < 1000000 → c k s + far (t k s) < c w s + far (t w s) := by
        intro w hw h1 h2
        cases hb : bsW c t far s k with
        | none => exact absurd h2 (i2 hb w hw h1)
        | some p =>
          have := (i1 p hb).2.2.2.2.1 w hw h1 h2
          have := q3 p hb
          omega
      refine ⟨Nat.lt_succ_self _, q1, q2, rfl, fun w hw h1 h2 => ?_, hall⟩
      by_cases hwk : w = k
      · subst hwk
        exact Nat.le_refl _
      · exact Nat.le_of_lt (hall w (by omega) h1 h2)
    · rw [if_neg q]
      refine ⟨fun p h => ?_, fun h w hw h1 h2 => ?_⟩
      · obtain ⟨j1, j2, j3, j4, j5, j6⟩ := i1 p h
        refine ⟨by omega, j2, j3, j4, fun w hw h1 h2 => ?_, j6⟩
        by_cases hwk : w = k
        · subst hwk
          rcases Nat.lt_or_ge (c w s + far (t w s)) p.2 with r | r
          · refine absurd ⟨h1, h2, fun p' hp' => ?_⟩ q
            rw [h] at hp'
            cases hp'
            exact r
          · exact r
        · exact j5 w (by omega) h1 h2
      · by_cases hwk : w = k
        · subst hwk
          exact q ⟨h1, h2, fun p' hp' => by rw [h] at hp'; cases hp'⟩
        · exact i2 h w (by omega) h1 h2
theorem bs_nx (hg : gOk n g t) (hs : s < 54) (hA : ¬ A s) : (bsW g t (dst n g t A) s n).map (fun p => p.1) = nxF n g t (dst n g t A) s := by
  obtain ⟨b1, b2⟩ := bs_ok (c := g) (t := t) (far := dst n g t A) (s := s) n
  have h0 : ¬ dst n g t A s = 0 := fun q => hA ((dst_0 hg hs).mp q)
  unfold nxF
  by_cases hl : dst n g t A s < 1000000
  · rw [if_neg (fun q => q.elim h0 (fun k => k hl))]
    obtain ⟨w, a1, a2, a3, a4⟩ := dst_dn hg hs hA hl
    cases hb : bsW g t (dst n g t A) s n with
    | none => exact absurd a3 (b2 hb w a1 a2)
    | some p =>
      obtain ⟨c1, c2, c3, c4, c5, c6⟩ := b1 p hb
      have h2 := c5 w a1 a2 a3
      have h3 := (dst_up (A := A) hg hs c1 c2 c3).1
      symm
      refine (fst_some n p.1).mpr ⟨c1, ?_, fun w' hw' q => ?_⟩
      · unfold nxB
        rw [decide_eq_true c2, decide_eq_true (by omega)]
        rfl
      · unfold nxB at q
        rw [Bool.and_eq_true, decide_eq_true_eq, decide_eq_true_eq] at q
        have := c6 w' hw' q.1 (by omega)
        omega
  · rw [if_pos (Or.inr hl)]
    cases hb : bsW g t (dst n g t A) s n with
    | none => rfl
    | some p =>
      obtain ⟨c1, c2, c3, c4, c5, c6⟩ := b1 p hb
      exact absurd (dst_up (A := A) hg hs c1 c2 c3).2 hl
theorem cS_t : cS true none g = g := by
  funext w s
  unfold cS
  by_cases h : 0 < g w s
  · have e1 : 0 < g w s ∧ (none : Option Nat) ≠ some w := ⟨h, fun k => by cases k⟩
    rw [if_pos e1, if_pos rfl]
  · rw [if_neg (fun k => h k.1)]
    omega
end NXG
section NXT
variable {d : Nat} {I I' : Nat → Nat → Int32} {L : Nat → Nat → Int64} {c e : Nat} {x y z : Int32} {lw : List aLn} {n m w s k B st : Nat} {v : Nat → aMv} {pe : Nat → aPe} {D : Nat → Int32} {one : Option Nat} {far far0 : Nat → Nat} {bs sh : Bool} {g t : Nat → Nat → Nat} {tl : List (Nat × Nat)}
theorem q_88l (hti : tiM g t tl I) (hl : tl.length ≤ 648) (hin : ∀ x, x ∈ tl → x.1 < 12 ∧ x.2 < 54 ∧ 0 < g x.1 x.2 ∧ t x.1 x.2 < 54 ∧ g x.1 x.2 ≤ 99) (hf : ∀ u, u < 54 → far u ≤ 1000000) (hs : s < 54) : ∀ (l2 l1 : List (Nat × Nat)), tl = l1 ++ l2 → jat d 88 21 [.ref 42, .int (nI s), .int (nI (far s)), .int (nI l1.length)] [] (jmk (fC49 I far) L c e) = some (some (.int (oI ((l2.find? (fun x => decide (x.2 = s) && decide (far (t x.1 x.2) + g x.1 x.2 = far s))).map (fun p => p.1)))), jmk (fC49 I far) L c e) := by
  intro l2
  induction l2 with
  | nil =>
    intro l1 h
    rw [List.append_nil] at h
    subst h
    rw [jb_88_21, (tiM_49 hti).1, decide_eq_true (by rw [nI_leI (by omega) (by omega)]; exact Nat.le_refl _), cond_true]
    rfl
  | cons p l2 ih =>
    intro l1 h
    have hlen : l1.length < tl.length := by
      rw [h]
      simp
    have hget : tl[l1.length]? = some p := by
      rw [h, List.getElem?_append_right (Nat.le_refl _), Nat.sub_self]
      rfl
    obtain ⟨b1, b2, b3, b4⟩ := (tiM_49 (far := far) hti).2 _ _ hget
    obtain ⟨a1, a2, a3, a4, a5⟩ := hin p (by rw [h]; simp)
    have hnext : tl = (l1 ++ [p]) ++ l2 := by rw [h]; simp
    have hjn : decide (jin (nI l1.length) 648) = true := jdI (by omega)
    have hcl : (nI l1.length).toNatClampNeg = l1.length := jcl' (by omega)
    have ht6 := hf _ a4
    have hs6 := hf s hs
    have hst := ih (l1 ++ [p]) hnext
    rw [List.length_append] at hst
    have e1 : nI p.2 = nI s ↔ p.2 = s := nI_eq (by omega) (by omega)
    rw [jb_88_21, (tiM_49 hti).1, decide_eq_false (by rw [nI_leI (by omega) (by omega)]; omega), cond_false, hjn, cond_true, cond_true, cond_true, cond_true, hcl, b1, b2, b4, b3, jdI a4, cond_true, jcl' (show t p.1 p.2 < 2 ^ 31 by omega), fC49_at a4, nI_add, nI_1]
    have e2 : nI (far (t p.1 p.2) + g p.1 p.2) = nI (far s) ↔ far (t p.1 p.2) + g p.1 p.2 = far s := nI_eq (by omega) (by omega)
    simp only [Bool.cond_decide, e1, e2]
    by_cases h1 : p.2 = s
    · rw [if_neg (fun q => q h1)]
      by_cases h2 : far (t p.1 p.2) + g p.1 p.2 = far s
      · rw [if_neg (fun q => q h2), List.find?_cons_of_pos]
        · rfl
        · rw [decide_eq_true h1, decide_eq_true h2]
          rfl
      · rw [if_pos h2, List.find?_cons_of_neg]
        · exact hst
        · rw [decide_eq_false h2, Bool.and_false]
          exact Bool.false_ne_true
    · rw [if_pos h1, List.find?_cons_of_neg]
      · exact hst
      · rw [decide_eq_false h1, Bool.false_and]
        exact Bool.false_ne_true
theorem q_88 (hn : n ≤ 12) (hg : ∀ w s, w < n → s < 54 → 0 < g w s → t w s < 54 ∧ g w s ≤ 99) (hti : tiM g t (tlW g n) I) (hf : ∀ u, u < 54 → far u ≤ 1000000) (hs : s < 54) : jev d 88 [.ref 42, .int (nI s)] (jmk (fC49 I far) L c e) = some (some (.int (oI (nxF n g t far s))), jmk (fC49 I far) L c e) := by
  have hl := tlW_len (g := g) n
  have hs6 := hf s hs
  have e0 : nI (far s) = 0 ↔ far s = 0 := nI_eq (b := 0) (by omega) (by decide)
  have e1 : nI (far s) < 1000000 ↔ far s < 1000000 := by
    show nI (far s) < nI 1000000 ↔ _
    rw [jlt_iff, nI_toInt (by omega), nI_toInt (by decide)]
    omega
  rw [jb_88_0, q_87 hs]
  simp only [Option.bind_some, jps]
  rw [jb_88_5]
  simp only [Bool.cond_decide, e0, e1]
  unfold nxF
  by_cases h0 : far s = 0
  · rw [if_pos h0, if_pos (Or.inl h0)]
    rfl
  · rw [if_neg h0]
    by_cases h1 : far s < 1000000
    · rw [if_pos h1, if_neg (fun q => q.elim h0 (fun k => k h1))]
      have := q_88l (d := d) (L := L) (c := c) (e := e) hti (by omega) (fun x hx => by
        obtain ⟨a1, a2, a3⟩ := (tlW_in n x).mp hx
        obtain ⟨a4, a5⟩ := hg x.1 x.2 a1 a2 a3
        exact ⟨by omega, a2, a3, a4, a5⟩) hf hs (tlW g n) [] rfl
      rw [fd_all hs, Option.map_map] at this
      refine Eq.trans this ?_
      cases fstW (nxB g t far s) n <;> rfl
    · rw [if_neg h1, if_pos (Or.inr h1)]
      rfl
theorem c_next (hce : ceOk c e) (hlo : lwOk lw) (hl : lwC lw c I) (hk : kitC n v I) (hp : peC m pe D I) (hpo : peOk m pe D) : ∃ I', jev d 106 [.ref 0, .int x, .int y] (jmk I L c e) = some (some (.int (opNext n v m pe lw x y)), jmk I' L c e) ∧ frG I I' := by
  have hn := hk.1.1
  have hm := hpo.1
  have hm' : ∀ i, i < n → mvOk (v i) := fun i hi => (hk.1.2.2 i hi).1
  unfold opNext
  rw [jb_106_0, q_151 hm hp.1]
  simp only [Option.bind_some, jps, jb_106_5, q_142, jb_106_12, Bool.cond_decide, j01]
  by_cases hx : psOk m x
  · have hx2 : ¬¬ psOk m x := fun q => q hx
    rw [if_neg hx2]
    by_cases hy : jin y 56
    · have hy2 : ¬¬ jin y 56 := fun q => q hy
      have hall : psOk m x ∧ jin y 56 := ⟨hx, hy⟩
      rw [if_pos hy2, if_pos hall]
      obtain ⟨o1, o2, o3, o4⟩ := ps_of hm hx
      obtain ⟨to, hto, rfl⟩ := (jin_iff (by decide)).mp hy
      have hg := gS_ok (lw := lw) (pe := pe) (one := psO x) (kn := knO pe (psO x)) hm'
      obtain ⟨I1, f1, f2, f3⟩ := q_83g (d := d) (L := L) hce hlo hl hk hp hpo o1
      have r1 := q_86d (d := d) (L := L) (c := c) (e := e) (bs := true) (wo := none) hn hto wo_n hg f2
      refine ⟨fC49 I1 (dS n true none (gS lw v pe (psO x) (knO pe (psO x))) (tS v) to), ?_, frG_49 f3⟩
      rw [jb_152_0]
      simp only [Option.bind_some, jps]
      rw [jb_106_25, o2, f1]
      simp only [Option.bind_some, jps]
      rw [jb_106_28, show jev d 86 [.ref 42, .int (nI to), .int 1, .int (-1)] (jmk I1 L c e) = _ from r1]
      simp only [Option.bind_some, jps]
      rw [jb_106_38, jb_153_0]
      simp only [Option.bind_some, jps]
      rw [jb_106_46, o4, q_88 hn hg f2 (fun u hu => dS_le hg hu) o3]
      simp only [Option.bind_some, jps]
      rw [jb_106_49, jcl' (by omega)]
    · rw [if_neg (fun q => q hy), if_neg (fun q => hy q.2)]
      exact ⟨I, rfl, fun _ _ _ _ _ _ _ => rfl⟩
  · rw [if_pos hx, if_neg (fun q => hx q.1)]
    exact ⟨I, rfl, fun _ _ _ _ _ _ _ => rfl⟩
def bsI : Option (Nat × Nat) → Int32
  | none => 0
  | some p => nI p.2
/-- the reference tries each move -/
theorem q_214l (hlo : lwOk lw) (hpo : peOk m pe D) (ho : oneOk m one) (hs : s < 54) {to : Nat} (hto : to < 56) {x1 : Int32} : ∀ (f k : Nat) (I : Nat → Nat → Int32) (v8 v9 : Value), lwM lw I → kitM n v I → peM m pe D I → k + f = n → ∃ I', jat d 214 55 [.ref 58, .int x1, .int (nI to), .int (oneI one), .int (nI s), .int (oI ((bsW (gS lw v pe one (knO pe one)) (tS v) (dS n true none (gS lw v pe one (knO pe one)) (tS v) to) s k).map (fun p => p.1))), .int (bsI (bsW (gS lw v pe one (knO pe one)) (tS v) (dS n true none (gS lw v pe one (knO pe one)) (tS v) to) s k)), .int (nI k), v8, v9] [] (jmk I L c e) = some (some (.int (oI ((bsW (gS lw v pe one (knO pe one)) (tS v) (dS n true none (gS lw v pe one (knO pe one)) (tS v) to) s n).map (fun p => p.1)))), jmk I' L c e) ∧ frM I I' := by
  intro f
  induction f with
  | zero =>
    intro k I v8 v9 hl hk hp hkf
    have hkf : k = n := hkf
    have hn := hk.1
    subst hkf
    refine ⟨I, ?_, fun _ _ _ _ => rfl⟩
    rw [jb_214_55, hk.2.1, decide_eq_true (by rw [nI_leI (by omega) (by omega)]; exact Nat.le_refl _), cond_true]
  | succ f ih =>
    intro k I v8 v9 hl hk hp hkf
    have hn := hk.1
    have hkn : k < n := by omega
    have hm' : ∀ i, i < n → mvOk (v i) := fun i hi => (hk.2.2 i hi).1
    have hg := gS_ok (lw := lw) (pe := pe) (one := one) (kn := knO pe one) hm'
    obtain ⟨I1, f1, f2⟩ := q_208 (d := d) (L := L) (c := c) (e := e) (bs := true) hlo hl hk hp hpo ho hkn hs
    rw [cS_t] at f1
    have fr1 : frM I I1 := fun q j a1 a2 => f2 q j a1
    have hgk : gS lw v pe one (knO pe one) k s ≤ 99 := by
      have := (cG_le (v := v) (bs := true) (B := 0) (sh := true) hg hkn hs).2
      rw [cS_t] at this
      exact this
    have hz : nI (gS lw v pe one (knO pe one) k s) = 0 ↔ gS lw v pe one (knO pe one) k s = 0 := nI_eq (b := 0) (by omega) (by decide)
    rw [jb_214_55, hk.2.1, decide_eq_false (by rw [nI_leI (by omega) (by omega)]; omega), cond_false, show jev d 208 [.ref 58, .int (oneI one), .int (nI k), .int (nI s), .int 1] (jmk I L c e) = _ from f1]
    simp only [Option.bind_some, jps]
    rw [jb_214_74, nI_1]
    simp only [Bool.cond_decide, hz]
    rw [show bsW (gS lw v pe one (knO pe one)) (tS v) (dS n true none (gS lw v pe one (knO pe one)) (tS v) to) s n = bsW (gS lw v pe one (knO pe one)) (tS v) (dS n true none (gS lw v pe one (knO pe one)) (tS v) to) s n from rfl]
    have hbs : bsW (gS lw v pe one (knO pe one)) (tS v) (dS n true none (gS lw v pe one (knO pe one)) (tS v) to) s (k + 1) = if 0 < gS lw v pe one (knO pe one) k s ∧ dS n true none (gS lw v pe one (knO pe one)) (tS v) to (tS v k s) < 1000000 ∧ (∀ p, bsW (gS lw v pe one (knO pe one)) (tS v) (dS n true none (gS lw v pe one (knO pe one)) (tS v) to) s k = some p → gS lw v pe one (knO pe one) k s + dS n true none (gS lw v pe one (knO pe one)) (tS v) to (tS v k s) < p.2) then some (k, gS lw v pe one (knO pe one) k s + dS n true none (gS lw v pe one (knO pe one)) (tS v) to (tS v k s)) else bsW (gS lw v pe one (knO pe one)) (tS v) (dS n true none (gS lw v pe one (knO pe one)) (tS v) to) s k := rfl
    by_cases h0 : gS lw v pe one (knO pe one) k s = 0
    · rw [if_neg (fun q => q h0)]
      obtain ⟨I2, r1, r2⟩ := ih (k + 1) I1 (.int (nI (gS lw v pe one (knO pe one) k s))) v9 (lwM_M hl fr1) (kitM_M hk fr1) (peM_M hp fr1) (by omega)
      rw [hbs, if_neg (fun q => absurd q.1 (by omega))] at r1
      exact ⟨I2, r1, frM_t fr1 r2⟩
    · rw [if_pos h0]
      have hk1 := kitM_M hk fr1
      have ht := tS_lt hm' hkn hs
      obtain ⟨I3, g1, g2⟩ := q_211 (d := d) (L := L) (c := c) (e := e) (bs := true) hlo (lwM_M hl fr1) hk1 (peM_M hp fr1) hpo ho ht
      have fr3 : frM I1 (f88 I3 (dG n 0 v true true (gS lw v pe one (knO pe one)) (tS v k s))) := frM_88 g2
      have fr4 := frM_t fr1 fr3
      rw [q_205 hk1 hkn hs]
      simp only [Option.bind_some, jps]
      rw [jb_214_94, show mto (v k).1 (v k).2.1 s = tS v k s from rfl, show jev d 211 [.ref 58, .int (oneI one), .int (nI (tS v k s)), .int 1] (jmk I1 L c e) = _ from g1]
      simp only [Option.bind_some, jps]
      rw [jb_214_98, q_212 hto (dG_b hg ht), mn_dG hg ht]
      simp only [Option.bind_some, jps]
      rw [jb_214_103, nI_1]
      simp only [Bool.cond_decide, fJ_no]
      have hnx : ∀ v8 v9, ∃ I', jat d 214 55 [.ref 58, .int x1, .int (nI to), .int (oneI one), .int (nI s), .int (oI ((bsW (gS lw v pe one (knO pe one)) (tS v) (dS n true none (gS lw v pe one (knO pe one)) (tS v) to) s (k + 1)).map (fun p => p.1))), .int (bsI (bsW (gS lw v pe one (knO pe one)) (tS v) (dS n true none (gS lw v pe one (knO pe one)) (tS v) to) s (k + 1))), .int (nI (k + 1)), v8, v9] [] (jmk (f88 I3 (dG n 0 v true true (gS lw v pe one (knO pe one)) (tS v k s))) L c e) = some (some (.int (oI ((bsW (gS lw v pe one (knO pe one)) (tS v) (dS n true none (gS lw v pe one (knO pe one)) (tS v) to) s n).map (fun p => p.1)))), jmk I' L c e) ∧ frM I I' := by
        intro v8 v9
        obtain ⟨I2, r1, r2⟩ := ih (k + 1) _ v8 v9 (lwM_M hl fr4) (kitM_M hk fr4) (peM_M hp fr4) (by omega)
        exact ⟨I2, r1, frM_t fr4 r2⟩
      have hbo := bs_ok (c := gS lw v pe one (knO pe one)) (t := tS v) (far := dS n true none (gS lw v pe one (knO pe one)) (tS v) to) (s := s) k
      by_cases hf : dS n true none (gS lw v pe one (knO pe one)) (tS v) to (tS v k s) < 1000000
      · rw [if_neg (fun q => q hf)]
        have hfb : dS n true none (gS lw v pe one (knO pe one)) (tS v) to (tS v k s) ≤ 5247 := ((dst_le (cS_ok hg) ht).2.1 hf).1
        cases hb : bsW (gS lw v pe one (knO pe one)) (tS v) (dS n true none (gS lw v pe one (knO pe one)) (tS v) to) s k with
        | none =>
          have hyes : bsW (gS lw v pe one (knO pe one)) (tS v) (dS n true none (gS lw v pe one (knO pe one)) (tS v) to) s (k + 1) = some (k, gS lw v pe one (knO pe one) k s + dS n true none (gS lw v pe one (knO pe one)) (tS v) to (tS v k s)) := by
            rw [hbs, if_pos ⟨by omega, hf, fun p hp => by rw [hb] at hp; cases hp⟩]
          rw [hyes] at hnx
          rw [if_pos (show oI (Option.map (fun p : Nat × Nat => p.1) none) = -2 from rfl), jb_214_132, fJ_yes hf, nI_add, nI_1]
          exact hnx _ _
        | some p =>
          obtain ⟨c1, c2, c3, c4, c5, c6⟩ := hbo.1 p hb
          have hp1 : ¬ oI ((some p).map (fun p : Nat × Nat => p.1)) = -2 := by
            have : ∀ a, a < 12 → ¬ nI a = -2 := by decide
            exact this p.1 (by omega)
          rw [if_neg hp1]
          have htp := tS_lt hm' (show p.1 < n by omega) hs
          have hp2 : p.2 ≤ 5346 := by
            have h1 := (cG_le (v := v) (bs := true) (B := 0) (sh := true) hg (show p.1 < n by omega) hs).2
            rw [cS_t] at h1
            have h2 : dS n true none (gS lw v pe one (knO pe one)) (tS v) to (tS v p.1 s) ≤ 5247 := ((dst_le (cS_ok hg) htp).2.1 c3).1
            omega
          have hlt : nI (gS lw v pe one (knO pe one) k s) + fJ (dS n true none (gS lw v pe one (knO pe one)) (tS v) to (tS v k s)) < bsI (some p) ↔ gS lw v pe one (knO pe one) k s + dS n true none (gS lw v pe one (knO pe one)) (tS v) to (tS v k s) < p.2 := by
            show nI _ + _ < nI p.2 ↔ _
            rw [fJ_yes hf, nI_add, jlt_iff, nI_toInt (by omega), nI_toInt (by omega)]
            omega
          simp only [hlt]
          by_cases hlt2 : gS lw v pe one (knO pe one) k s + dS n true none (gS lw v pe one (knO pe one)) (tS v) to (tS v k s) < p.2
          · have hyes : bsW (gS lw v pe one (knO pe one)) (tS v) (dS n true none (gS lw v pe one (knO pe one)) (tS v) to) s (k + 1) = some (k, gS lw v pe one (knO pe one) k s + dS n true none (gS lw v pe one (knO pe one)) (tS v) to (tS v k s)) := by
              rw [hbs, if_pos ⟨by omega, hf, fun p' hp => by rw [hb] at hp; cases hp; exact hlt2⟩]
            rw [hyes] at hnx
            rw [if_pos hlt2, jb_214_132, fJ_yes hf, nI_add, nI_1]
            exact hnx _ _
          · have hno : bsW (gS lw v pe one (knO pe one)) (tS v) (dS n true none (gS lw v pe one (knO pe one)) (tS v) to) s (k + 1) = some p := by
              rw [hbs, if_neg (fun q => hlt2 (q.2.2 p hb)), hb]
            rw [hno] at hnx
            rw [if_neg hlt2]
            exact hnx _ _
      · rw [if_pos hf]
        rw [hbs, if_neg (fun q => hf q.2.1)] at hnx
        exact hnx _ _
theorem m_next (hlo : lwOk lw) (hl : lwM lw I) (hk : kitM n v I) (hp : peM m pe D I) (hpo : peOk m pe D) : ∃ I', jev d 214 [.ref 58, .int x, .int y] (jmk I L c e) = some (some (.int (opNext n v m pe lw x y)), jmk I' L c e) ∧ frM I I' := by
  have hn := hk.1
  have hm := hpo.1
  have hm' : ∀ i, i < n → mvOk (v i) := fun i hi => (hk.2.2 i hi).1
  have h55 : (0 ≤ y.toInt ∧ y.toInt ≤ (55 : Int32).toInt) ↔ jin y 56 := by
    show (0 ≤ y.toInt ∧ y.toInt ≤ 55) ↔ (0 ≤ y.toInt ∧ y.toInt < (56 : Int))
    omega
  unfold opNext
  rw [jb_214_0, q_168 hm hp.1]
  simp only [Option.bind_some, jps, jb_214_5, q_163, jb_214_15, Bool.cond_decide, j01, show (0 : Int32).toInt = 0 from rfl, h55]
  by_cases hx : psOk m x
  · have hx2 : ¬¬ psOk m x := fun q => q hx
    rw [if_neg hx2]
    by_cases hy : jin y 56
    · have hy2 : ¬¬ jin y 56 := fun q => q hy
      have hall : psOk m x ∧ jin y 56 := ⟨hx, hy⟩
      rw [if_pos hy2, if_pos hall]
      obtain ⟨o1, o2, o3, o4⟩ := ps_of hm hx
      obtain ⟨to, hto, rfl⟩ := (jin_iff (by decide)).mp hy
      have hg := gS_ok (lw := lw) (pe := pe) (one := psO x) (kn := knO pe (psO x)) hm'
      have hA : dS n true none (gS lw v pe (psO x) (knO pe (psO x))) (tS v) to (psS x) = 0 ↔ aimB to (psS x) = true := dst_0 (cS_ok hg) o3
      rw [o4, q_172 o3 hto]
      simp only [Option.bind_some, jps, jb_214_39, Bool.cond_decide, j01, jcl' (show to < 2 ^ 31 by omega)]
      by_cases ha : aimB to (psS x) = true
      · have ha2 : ¬¬ aimB to (psS x) = true := fun q => q ha
        rw [if_neg ha2]
        refine ⟨I, ?_, fun _ _ _ _ => rfl⟩
        unfold nxF
        rw [if_pos (Or.inl (hA.mpr ha))]
        rfl
      · rw [if_pos ha]
        obtain ⟨I1, f1, f2⟩ := q_214l (d := d) (L := L) (c := c) (e := e) (x1 := x) hlo hpo o1 o3 hto n 0 I .null .null hl hk hp (by omega)
        refine ⟨I1, ?_, f2⟩
        rw [o2, show jat d 214 55 [.ref 58, .int x, .int (nI to), .int (oneI (psO x)), .int (nI (psS x)), .int (-2), .int 0, .int 0, .null, .null] [] (jmk I L c e) = _ from f1]
        have hg2 : gOk n (gS lw v pe (psO x) (knO pe (psO x))) (tS v) := hg
        have hb := bs_nx (A := aimP to) hg2 o3 ha
        have he : dS n true none (gS lw v pe (psO x) (knO pe (psO x))) (tS v) to = dst n (gS lw v pe (psO x) (knO pe (psO x))) (tS v) (aimP to) := by
          unfold dS
          rw [cS_t]
        rw [he, hb]
    · rw [if_neg (fun q => q hy), if_neg (fun q => hy q.2)]
      exact ⟨I, rfl, fun _ _ _ _ => rfl⟩
  · rw [if_pos hx, if_neg (fun q => hx q.1)]
    exact ⟨I, rfl, fun _ _ _ _ => rfl⟩
end NXT
