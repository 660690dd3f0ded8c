/-! law, the class -/
def lnT (x : aLn) : List Int32 := (if x.1 = [] then [] else x.1.map cT ++ [-2]) ++ (x.2.map cT ++ [-1])
section LWC
variable {d : Nat} {I I' : Nat → Nat → Int32} {L : Nat → Nat → Int64} {c e : Nat} {x y z : Int32} {k p r lev t f : Nat} {ta : Nat → Int32} {s : Int32} {o : List Int32} {lw : List aLn}
theorem fC_1 (x : aLn) : fC [x] = lnT x := by
  obtain ⟨a, b⟩ := x
  rfl
theorem fC_app : ∀ l l2 : List aLn, fC (l ++ l2) = fC l ++ fC l2 := by
  intro l
  induction l with
  | nil => intro l2; rfl
  | cons x l ih =>
    obtain ⟨a, b⟩ := x
    intro l2
    show (if a = [] then [] else a.map cT ++ [-2]) ++ (b.map cT ++ (-1 :: fC (l ++ l2))) = ((if a = [] then [] else a.map cT ++ [-2]) ++ (b.map cT ++ (-1 :: fC l))) ++ fC l2
    rw [ih]
    simp
/-- a line that was read -/
def lnR (k p : Nat) (x : Bool × Nat × aLn) : Prop := x.2.1 ≤ k ∧ p ≤ x.2.1 ∧ (x.1 = true → p < x.2.1 ∧ (lnT x.2.2).length ≤ x.2.1 - p + 1 ∧ lnOk x.2.2)
theorem rdLn_ok (hp : p ≤ k) : lnR k p (rdLn k ta p) := by
  have okE : ∀ p, p ≤ k → exOk k p (rdE k ta (rdO k ta 6) p) := fun p hp => rdE_ok (rdO_ok 6) hp
  obtain ⟨a1, a2, a3⟩ := okE p hp
  unfold rdLn
  by_cases hb : (rdE k ta (rdO k ta 6) p).1 = true
  · obtain ⟨b1, b2, b3, b4, b5⟩ := a3 hb
    rw [if_pos hb]
    by_cases h63 : sg k ta (rdE k ta (rdO k ta 6) p).2.1 = 63
    · have hlt := sg_lt (k := k) (ta := ta) (p := (rdE k ta (rdO k ta 6) p).2.1) (by rw [h63]; decide)
      obtain ⟨c1, c2, c3⟩ := okE ((rdE k ta (rdO k ta 6) p).2.1 + 1) hlt
      rw [if_pos h63]
      by_cases hb2 : (rdE k ta (rdO k ta 6) ((rdE k ta (rdO k ta 6) p).2.1 + 1)).1 = true
      · obtain ⟨d1, d2, d3, d4, d5⟩ := c3 hb2
        rw [if_pos hb2]
        refine ⟨c1, ?_, fun _ => ⟨?_, ?_, Or.inr (b5 0), d5 0, b4, d4⟩⟩
        · show p ≤ (rdE k ta (rdO k ta 6) ((rdE k ta (rdO k ta 6) p).2.1 + 1)).2.1
          omega
        · show p < (rdE k ta (rdO k ta 6) ((rdE k ta (rdO k ta 6) p).2.1 + 1)).2.1
          omega
        · have hne : (rdE k ta (rdO k ta 6) p).2.2 ≠ [] := fun q => by rw [q] at b3; exact absurd b3 (by decide)
          show (lnT ((rdE k ta (rdO k ta 6) p).2.2, (rdE k ta (rdO k ta 6) ((rdE k ta (rdO k ta 6) p).2.1 + 1)).2.2)).length ≤ (rdE k ta (rdO k ta 6) ((rdE k ta (rdO k ta 6) p).2.1 + 1)).2.1 - p + 1
          unfold lnT
          rw [if_neg hne]
          simp only [List.length_append, List.length_map, List.length_cons, List.length_nil]
          omega
      · rw [if_neg hb2]
        refine ⟨c1, ?_, fun q => absurd q (by simp)⟩
        show p ≤ (rdE k ta (rdO k ta 6) ((rdE k ta (rdO k ta 6) p).2.1 + 1)).2.1
        omega
    · rw [if_neg h63]
      refine ⟨a1, a2, fun _ => ⟨b1, ?_, Or.inl rfl, b5 0, fun t ht => absurd ht (by simp), b4⟩⟩
      show (lnT ([], (rdE k ta (rdO k ta 6) p).2.2)).length ≤ (rdE k ta (rdO k ta 6) p).2.1 - p + 1
      unfold lnT
      simp only [if_true, List.length_append, List.length_map, List.length_cons, List.length_nil]
      omega
  · rw [if_neg hb]
    exact ⟨a1, a2, fun q => absurd q (by simp)⟩
def rlC (k : Nat) (ta : Nat → Int32) (e : Nat) (o : List Int32) (x : Bool × Nat × aLn) (I : Nat → Nat → Int32) : Prop := if x.1 = true then stC k ta e x.2.1 (o ++ lnT x.2.2) I else wkC k ta x.2.1 I
theorem q_39 (hce : ceOk c e) (hk : k ≤ 120) (hd : 60 ≤ d) (hp : p ≤ k) (ho : o.length ≤ p) (hst : stC k ta e p o I) : ∃ I', jev d 39 [.ref 1] (jmk I L c e) = some (some (.int (if (rdLn k ta p).1 = true then 1 else 0)), jmk I' L c e) ∧ rlC k ta e o (rdLn k ta p) I' ∧ ∀ q j, ¬ (q = 1 ∧ j = 6) → ¬ (q = 1 ∧ j = 7) → q ≠ e → I' q j = I q j := by
  obtain ⟨d, rfl⟩ : ∃ d1, d = d1 + 6 := ⟨d - 6, by omega⟩
  have okE : ∀ p, p ≤ k → exOk k p (rdE k ta (rdO k ta 6) p) := fun p hp => rdE_ok (rdO_ok 6) hp
  have isE : isC k ta L c e (rdE k ta (rdO k ta 6)) (fun M => jev (d + 6) 40 [.ref 1, .int 0, .int 0] M) := q_40E hce (rdO_ok 6) (q_41 hce hk 6 d (by decide) (by omega)) hk
  obtain ⟨I1, f1, f2, f3⟩ := isE p o I hp ho hst
  obtain ⟨a1, a2, a3⟩ := okE p hp
  have hfin : ∀ (I2 : Nat → Nat → Int32) (p' : Nat) (o' : List Int32), o'.length < 121 → stC k ta e p' o' I2 → ∃ I3, jat (d + 6) 39 47 [.ref 1] [] (jmk I2 L c e) = some (some (.int 1), jmk I3 L c e) ∧ stC k ta e p' (o' ++ [-1]) I3 ∧ ∀ q j, ¬ (q = 1 ∧ j = 6) → ¬ (q = 1 ∧ j = 7) → q ≠ e → I3 q j = I2 q j := by
    intro I2 p' o' ho' hst'
    obtain ⟨I3, w1, w2, w3⟩ := q_44s (d := d + 6) (L := L) (x := -1) hce hst' ho'
    refine ⟨I3, ?_, w2, w3⟩
    rw [jb_39_47, w1]
    simp only [Option.bind_some, jps]
    rw [jb_39_52]
  rw [jb_39_0, show jev (d + 6) 40 [.ref 1, .int 0, .int 0] (jmk I L c e) = _ from f1]
  simp only [Option.bind_some, jps]
  rw [jb_39_6]
  unfold rdLn
  by_cases hb : (rdE k ta (rdO k ta 6) p).1 = true
  · obtain ⟨b1, b2, b3, b4, b5⟩ := a3 hb
    unfold rsC at f2
    rw [if_pos hb] at f2
    rw [if_pos hb, if_pos hb, jt_1, cond_true, q_43 f2.1 f2.2.1 (by omega)]
    simp only [Option.bind_some, jps]
    rw [jb_39_15]
    by_cases h63 : sg k ta (rdE k ta (rdO k ta 6) p).2.1 = 63
    · have hlt := sg_lt (k := k) (ta := ta) (p := (rdE k ta (rdO k ta 6) p).2.1) (by rw [h63]; decide)
      obtain ⟨c1, c2, c3⟩ := okE ((rdE k ta (rdO k ta 6) p).2.1 + 1) hlt
      obtain ⟨I2, w1, w2, w3⟩ := q_44s (d := d + 6) (L := L) (x := -2) hce (st_next hce f2) (by simp; omega)
      obtain ⟨I3, g1, g2, g3⟩ := isE ((rdE k ta (rdO k ta 6) p).2.1 + 1) _ _ hlt (by simp; omega) w2
      have ff : ∀ q j, ¬ (q = 1 ∧ j = 6) → ¬ (q = 1 ∧ j = 7) → q ≠ e → I3 q j = I q j := fun q j u1 u2 u3 => (g3 q j u1 u2 u3).trans ((w3 q j u1 u2 u3).trans ((ju7 u2).trans (f3 q j u1 u2 u3)))
      rw [if_pos h63, h63, show decide (¬ (63 : Int32) = 63) = false from rfl, cond_false, w1]
      simp only [Option.bind_some, jps]
      rw [jb_39_36, show jev (d + 6) 40 [.ref 1, .int 0, .int 0] (jmk I2 L c e) = _ from g1]
      simp only [Option.bind_some, jps]
      rw [jb_39_42]
      by_cases hb2 : (rdE k ta (rdO k ta 6) ((rdE k ta (rdO k ta 6) p).2.1 + 1)).1 = true
      · obtain ⟨d1, d2, d3, d4, d5⟩ := c3 hb2
        unfold rsC at g2
        rw [if_pos hb2] at g2
        rw [if_pos hb2, if_pos hb2, jt_1, cond_true]
        obtain ⟨I4, r1, r2, r3⟩ := hfin I3 _ _ (by simp; omega) g2
        refine ⟨I4, r1, ?_, fun q j u1 u2 u3 => (r3 q j u1 u2 u3).trans (ff q j u1 u2 u3)⟩
        have hne : (rdE k ta (rdO k ta 6) p).2.2 ≠ [] := fun q => by rw [q] at b3; exact absurd b3 (by decide)
        show stC k ta e _ (o ++ lnT ((rdE k ta (rdO k ta 6) p).2.2, (rdE k ta (rdO k ta 6) ((rdE k ta (rdO k ta 6) p).2.1 + 1)).2.2)) I4
        unfold lnT
        rw [if_neg hne]
        simpa using r2
      · unfold rsC at g2
        rw [if_neg hb2] at g2
        rw [if_neg hb2, if_neg hb2]
        exact ⟨I3, rfl, g2, ff⟩
    · rw [if_neg h63, decide_eq_true h63, cond_true]
      obtain ⟨I4, r1, r2, r3⟩ := hfin I1 _ _ (by simp; omega) f2
      refine ⟨I4, r1, ?_, fun q j u1 u2 u3 => (r3 q j u1 u2 u3).trans (f3 q j u1 u2 u3)⟩
      show stC k ta e _ (o ++ lnT ([], (rdE k ta (rdO k ta 6) p).2.2)) I4
      unfold lnT
      rw [if_pos rfl]
      simpa using r2
  · unfold rsC at f2
    rw [if_neg hb] at f2
    rw [if_neg hb, if_neg hb]
    exact ⟨I1, rfl, f2, f3⟩
/-- the lines so far -/
def rtC (k : Nat) (ta : Nat → Int32) (e : Nat) (x : Bool × Nat × List aLn) (I : Nat → Nat → Int32) : Prop := if x.1 = true then stC k ta e x.2.1 (fC x.2.2) I else wkC k ta x.2.1 I
def rtOk (k : Nat) (x : Bool × Nat × List aLn) : Prop := x.2.1 ≤ k ∧ (x.1 = true → (fC x.2.2).length ≤ x.2.1 + 1 ∧ 2 * x.2.2.length ≤ x.2.1 + 1 ∧ ∀ l, l ∈ x.2.2 → lnOk l)
theorem rdT_ok : ∀ (f : Nat) (b : Bool) (p : Nat) (l : List aLn), rtOk k (b, p, l) → rtOk k (rdT k ta f b p l) := by
  intro f
  induction f with
  | zero => intro b p l h; exact h
  | succ f ih =>
    intro b p l h
    unfold rdT
    by_cases hc : b = true ∧ sg k ta p = 59
    · rw [if_pos hc]
      have hlt := sg_lt (k := k) (ta := ta) (p := p) (by rw [hc.2]; decide)
      obtain ⟨a1, a2, a3⟩ := rdLn_ok (ta := ta) (k := k) (p := p + 1) hlt
      obtain ⟨h1, h2⟩ := h
      obtain ⟨h2, h3, h4⟩ := h2 hc.1
      apply ih
      refine ⟨a1, fun hb => ?_⟩
      obtain ⟨b1, b2, b3⟩ := a3 hb
      refine ⟨?_, ?_, ?_⟩
      · have h2 : (fC l).length ≤ p + 1 := h2
        show (fC (l ++ [(rdLn k ta (p + 1)).2.2])).length ≤ (rdLn k ta (p + 1)).2.1 + 1
        rw [fC_app, fC_1, List.length_append]
        omega
      · have h3 : 2 * l.length ≤ p + 1 := h3
        show 2 * (l ++ [(rdLn k ta (p + 1)).2.2]).length ≤ (rdLn k ta (p + 1)).2.1 + 1
        rw [List.length_append, List.length_singleton]
        omega
      · intro u hu
        rcases List.mem_append.mp hu with hu | hu
        · exact h4 u hu
        · rw [List.mem_singleton.mp hu]
          exact b3
    · rw [if_neg hc]
      exact h
theorem rdAll_ok0 : rtOk k ((rdLn k ta 0).1, (rdLn k ta 0).2.1, [(rdLn k ta 0).2.2]) := by
  obtain ⟨a1, a2, a3⟩ := rdLn_ok (ta := ta) (k := k) (p := 0) (Nat.zero_le k)
  refine ⟨a1, fun hb => ?_⟩
  obtain ⟨b1, b2, b3⟩ := a3 hb
  refine ⟨?_, ?_, ?_⟩
  · show (fC [(rdLn k ta 0).2.2]).length ≤ (rdLn k ta 0).2.1 + 1
    rw [fC_1]
    omega
  · show 2 * 1 ≤ (rdLn k ta 0).2.1 + 1
    omega
  · intro u hu
    rw [List.mem_singleton.mp hu]
    exact b3
theorem rdAll_ok : rtOk k (rdAll k ta) := rdT_ok _ _ _ _ rdAll_ok0
theorem opLaw_ok (hk : k ≤ 120) (ho : lwOk lw) : lwOk (opLaw k ta lw).2 := by
  unfold opLaw
  split
  · rename_i h
    obtain ⟨h1, h2⟩ := rdAll_ok (k := k) (ta := ta)
    obtain ⟨h3, h4, h5⟩ := h2 h.1
    exact ⟨by show (fC (rdAll k ta).2.2).length ≤ 121; omega, h5⟩
  · exact ho
theorem q_38l (hce : ceOk c e) (hk : k ≤ 120) (hd : 60 ≤ d) : ∀ (f j : Nat) (b : Bool) (p : Nat) (l : List aLn) (I : Nat → Nat → Int32), j + f = 120 → rtOk k (b, p, l) → rtC k ta e (b, p, l) I → ∃ I' x2, jat d 38 7 [.ref 1, .int (if b = true then 1 else 0), .int (nI j)] [] (jmk I L c e) = jat d 38 47 [.ref 1, .int (if (rdT k ta f b p l).1 = true then 1 else 0), .int x2] [] (jmk I' L c e) ∧ rtC k ta e (rdT k ta f b p l) I' ∧ ∀ q j, ¬ (q = 1 ∧ j = 6) → ¬ (q = 1 ∧ j = 7) → q ≠ e → I' q j = I q j := by
  intro f
  induction f with
  | zero =>
    intro j b p l I hj ho hr
    refine ⟨I, nI j, ?_, hr, fun _ _ _ _ _ => rfl⟩
    rw [jb_38_7, decide_eq_true (show (120 : Int32) ≤ nI j by show nI 120 ≤ nI j; rw [nI_leI (by omega) (by omega)]; omega), cond_true]
    rfl
  | succ f ih =>
    intro j b p l I hj ho hr
    rw [jb_38_7, decide_eq_false (show ¬ (120 : Int32) ≤ nI j by show ¬ nI 120 ≤ nI j; rw [nI_leI (by omega) (by omega)]; omega), cond_false]
    unfold rdT
    cases b with
    | false =>
      rw [if_neg (by simp)]
      exact ⟨I, nI j, rfl, hr, fun _ _ _ _ _ => rfl⟩
    | true =>
      have hst : stC k ta e p (fC l) I := hr
      have hp : p ≤ k := ho.1
      obtain ⟨h2, h3, h4⟩ := ho.2 rfl
      rw [if_pos rfl, jt_2, cond_false, q_43 hst.1 hst.2.1 (by omega)]
      simp only [Option.bind_some, jps]
      rw [jb_38_21]
      by_cases h59 : sg k ta p = 59
      · have hlt := sg_lt (k := k) (ta := ta) (p := p) (by rw [h59]; decide)
        have h2 : (fC l).length ≤ p + 1 := h2
        obtain ⟨I1, f1, f2, f3⟩ := q_39 (p := p + 1) (d := d) (L := L) hce hk hd hlt h2 (st_next hce hst)
        rw [h59, show decide (¬ (59 : Int32) = 59) = false from rfl, cond_false, f1]
        simp only [Option.bind_some, jps]
        rw [jb_38_40, nI_1, if_pos (show True ∧ True from ⟨trivial, trivial⟩)]
        have hr2 : rtC k ta e ((rdLn k ta (p + 1)).1, (rdLn k ta (p + 1)).2.1, l ++ [(rdLn k ta (p + 1)).2.2]) I1 := by
          unfold rtC
          unfold rlC at f2
          by_cases hb : (rdLn k ta (p + 1)).1 = true
          · rw [if_pos hb] at f2 ⊢
            show stC k ta e (rdLn k ta (p + 1)).2.1 (fC (l ++ [(rdLn k ta (p + 1)).2.2])) I1
            rw [fC_app, fC_1]
            exact f2
          · rw [if_neg hb] at f2 ⊢
            exact f2
        have ho2 : rtOk k ((rdLn k ta (p + 1)).1, (rdLn k ta (p + 1)).2.1, l ++ [(rdLn k ta (p + 1)).2.2]) := by
          have := rdT_ok (k := k) (ta := ta) 1 true p l ho
          unfold rdT at this
          rw [if_pos ⟨rfl, h59⟩] at this
          exact this
        obtain ⟨I2, x2, r1, r2, r3⟩ := ih (j + 1) _ _ _ I1 (by omega) ho2 hr2
        exact ⟨I2, x2, r1, r2, fun q j u1 u2 u3 => (r3 q j u1 u2 u3).trans ((f3 q j u1 u2 u3).trans (ju7 u2))⟩
      · have hno : ¬ (True ∧ sg k ta p = 59) := fun q => h59 q.2
        rw [decide_eq_true h59, cond_true, if_neg hno]
        exact ⟨I, nI j, rfl, hr, fun _ _ _ _ _ => rfl⟩
theorem jb_36_0 (hce : ceOk c e) : jev d 36 [.ref 1] (jmk I L c e) = (jev d 38 [.ref 1] (jmk (ju (ju I 1 7 0) 1 6 0) L c e)).bind fun r => jat d 36 14 [.ref 1, .null, .null] (jps r.1 []) r.2 := by
  rcases hce with ⟨rfl, rfl⟩ | ⟨rfl, rfl⟩
  · exact jb_36_0a ..
  · exact jb_36_0b ..
theorem jb_36_14 (hce : ceOk c e) : jat d 36 14 [.ref 1, .null, .null] [.int s] (jmk I L c e) = bif decide (¬ s = 0) then some (some (.int 1), (jmk (ju (ju I 1 9 0) 1 5 (I 1 6)) L e c)) else some (some (.int ((-100) - (I 1 7))), (jmk (ju I 1 9 0) L c e)) := by
  rcases hce with ⟨rfl, rfl⟩ | ⟨rfl, rfl⟩
  · exact jb_36_14a ..
  · exact jb_36_14b ..
theorem c_law (hce : ceOk c e) (hd : 60 ≤ d) (ht : taC k ta I) (hl : lwC lw c I) : ∃ I' c' e', jev d 102 [.ref 0] (jmk I L c e) = some (some (.int (opLaw k ta lw).1), jmk I' L c' e') ∧ ceOk c' e' ∧ lwC (opLaw k ta lw).2 c' I' ∧ taC 0 ta I' ∧ ∀ q j, ¬ (q = 1 ∧ 5 ≤ j) → q ≠ 5 → q ≠ 6 → I' q j = I q j := by
  have hcc := ce_lt hce
  have hee := ce_e hce
  have hne : c ≠ e := by
    rcases hce with ⟨rfl, rfl⟩ | ⟨rfl, rfl⟩ <;> decide
  have hk := ht.1
  have hst : stC k ta e 0 [] (ju (ju I 1 7 0) 1 6 0) := ⟨⟨ht.1, ht.2.1, ht.2.2⟩, rfl, rfl, trivial⟩
  obtain ⟨I1, f1, f2, f3⟩ := q_39 (d := d) (L := L) hce hk hd (Nat.zero_le k) (Nat.zero_le _) hst
  have hr1 : rtC k ta e ((rdLn k ta 0).1, (rdLn k ta 0).2.1, [(rdLn k ta 0).2.2]) I1 := by
    unfold rtC
    unfold rlC at f2
    by_cases hb : (rdLn k ta 0).1 = true
    · rw [if_pos hb] at f2 ⊢
      show stC k ta e (rdLn k ta 0).2.1 (fC [(rdLn k ta 0).2.2]) I1
      rw [fC_1]
      exact f2
    · rw [if_neg hb] at f2 ⊢
      exact f2
  have ho1 : rtOk k ((rdLn k ta 0).1, (rdLn k ta 0).2.1, [(rdLn k ta 0).2.2]) := rdAll_ok0
  obtain ⟨I2, x2, g1, g2, g3⟩ := q_38l (d := d) (L := L) hce hk hd 120 0 _ _ _ I1 rfl ho1 hr1
  have ff : ∀ q j, ¬ (q = 1 ∧ j = 6) → ¬ (q = 1 ∧ j = 7) → q ≠ e → I2 q j = I q j := fun q j u1 u2 u3 => (g3 q j u1 u2 u3).trans ((f3 q j u1 u2 u3).trans (by rw [ju_get, if_neg u1, ju_get, if_neg u2]))
  obtain ⟨z1, z2⟩ := rdAll_ok (k := k) (ta := ta)
  have h38 : jev d 38 [.ref 1] (jmk (ju (ju I 1 7 0) 1 6 0) L c e) = some (some (.int (if (rdAll k ta).1 = true ∧ (rdAll k ta).2.1 = k then 1 else 0)), jmk I2 L c e) := by
    rw [jb_38_0, f1]
    simp only [Option.bind_some, jps]
    rw [jb_38_4, show jat d 38 7 [.ref 1, .int (if (rdLn k ta 0).1 = true then 1 else 0), .int 0] [] (jmk I1 L c e) = _ from g1]
    show jat d 38 47 [.ref 1, .int (if (rdAll k ta).1 = true then 1 else 0), .int x2] [] (jmk I2 L c e) = _
    rw [jb_38_47]
    by_cases hb : (rdAll k ta).1 = true
    · have g2 : rtC k ta e (rdAll k ta) I2 := g2
      unfold rtC at g2
      rw [if_pos hb] at g2
      rw [if_pos hb, jt_2, cond_false, g2.2.1, g2.1.2.1]
      by_cases hpk : (rdAll k ta).2.1 = k
      · rw [if_pos ⟨hb, hpk⟩, hpk, decide_eq_false (fun q => q rfl), cond_false]
      · rw [if_neg (fun q => hpk q.2), decide_eq_true (by rw [nI_eq (by omega) (by omega)]; exact hpk), cond_true]
    · rw [if_neg hb, if_neg (fun q => hb q.1)]
      rfl
  have g2 : rtC k ta e (rdAll k ta) I2 := g2
  have ht2 : taC k ta I2 := by
    unfold rtC at g2
    by_cases hb : (rdAll k ta).1 = true
    · rw [if_pos hb] at g2; exact g2.1
    · rw [if_neg hb] at g2; exact g2.1
  have hp2 : I2 1 7 = nI (rdAll k ta).2.1 := by
    unfold rtC at g2
    by_cases hb : (rdAll k ta).1 = true
    · rw [if_pos hb] at g2; exact g2.2.1
    · rw [if_neg hb] at g2; exact g2.2.1
  unfold opLaw
  by_cases hso : (rdAll k ta).1 = true ∧ (rdAll k ta).2.1 = k
  · unfold rtC at g2
    rw [if_pos hso.1] at g2
    obtain ⟨s1, s2, s3, s4⟩ := g2
    rw [if_pos hso]
    refine ⟨ju (ju I2 1 9 0) 1 5 (I2 1 6), e, c, ?_, ?_, ⟨?_, ?_⟩, ⟨by decide, rfl, fun i hi => absurd hi (Nat.not_lt_zero i)⟩, fun q j u1 u2 u3 => ?_⟩
    · rw [jb_102_0, jb_36_0 hce, h38, if_pos hso]
      simp only [Option.bind_some, jps]
      rw [jb_36_14 hce, jt_1, cond_true]
      simp only [Option.bind_some, jps]
      rw [jb_102_7]
    · rcases hce with ⟨rfl, rfl⟩ | ⟨rfl, rfl⟩
      · exact Or.inr ⟨rfl, rfl⟩
      · exact Or.inl ⟨rfl, rfl⟩
    · show I2 1 6 = _
      exact s3
    · refine cdAt_fr (fun j _ _ => ?_) s4
      rw [ju_get, if_neg (by omega), ju_get, if_neg (by omega)]
    · rw [ju_get, if_neg (by omega), ju_get, if_neg (by omega)]
      exact ff q j (by omega) (by omega) (by omega)
  · rw [if_neg hso]
    refine ⟨ju I2 1 9 0, c, e, ?_, hce, ⟨?_, ?_⟩, ⟨by decide, rfl, fun i hi => absurd hi (Nat.not_lt_zero i)⟩, fun q j u1 u2 u3 => ?_⟩
    · rw [jb_102_0, jb_36_0 hce, h38, if_neg hso]
      simp only [Option.bind_some, jps]
      rw [jb_36_14 hce, jt_3, cond_false, hp2]
      simp only [Option.bind_some, jps]
      rw [jb_102_7]
    · rw [ju_get, if_neg (by omega), ff 1 5 (by omega) (by omega) (by omega)]
      exact hl.1
    · refine cdAt_fr (fun j _ _ => ?_) hl.2
      rw [ju_get, if_neg (by omega)]
      exact ff c j (by omega) (by omega) hne
    · rw [ju_get, if_neg (by omega)]
      exact ff q j (by omega) (by omega) (by omega)
end LWC
