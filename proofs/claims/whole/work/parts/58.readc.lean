/-! the class reads a text: its small methods, a level -/
def stC (k : Nat) (ta : Nat → Int32) (e p : Nat) (o : List Int32) (I : Nat → Nat → Int32) : Prop := taC k ta I ∧ I 1 7 = nI p ∧ I 1 6 = nI o.length ∧ cdAt e I 0 o
def wkC (k : Nat) (ta : Nat → Int32) (p : Nat) (I : Nat → Nat → Int32) : Prop := taC k ta I ∧ I 1 7 = nI p ∧ ∃ s, s ≤ 121 ∧ I 1 6 = nI s
def rsC (k : Nat) (ta : Nat → Int32) (e : Nat) (o : List Int32) (x : aRd) (I : Nat → Nat → Int32) : Prop := if x.1 = true then stC k ta e x.2.1 (o ++ x.2.2.map cT) I else wkC k ta x.2.1 I
def isC (k : Nat) (ta : Nat → Int32) (L : Nat → Nat → Int64) (c e : Nat) (sub : Nat → aRd) (R : jH → Option jX) : Prop := ∀ (p : Nat) (o : List Int32) (I : Nat → Nat → Int32), p ≤ k → o.length ≤ p → stC k ta e p o I → ∃ I', R (jmk I L c e) = some (some (.int (if (sub p).1 = true then 1 else 0)), jmk I' L c e) ∧ rsC k ta e o (sub p) I' ∧ ∀ q j, ¬ (q = 1 ∧ j = 6) → ¬ (q = 1 ∧ j = 7) → q ≠ e → I' q j = I q j
def lvI (s : Int32) : Int32 := if s = 37 then 4 else if s = 38 then 1 else if s = 42 then 4 else if s = 43 then 3 else if s = 45 then 3 else if s = 47 then 4 else if s = 60 then 2 else if s = 61 then 2 else if s = 62 then 2 else if s = 124 then 0 else -1
section RDC
variable {d : Nat} {I I' : Nat → Nat → Int32} {L : Nat → Nat → Int64} {c e : Nat} {x y z : Int32} {k p r lev t f : Nat} {ta : Nat → Int32} {s : Int32} {sub : Nat → aRd} {o : List Int32}
theorem jb_44_0 (hce : ceOk c e) : jev d 44 [.ref 1, .int x] (jmk I L c e) = bif decide ((Int32.ofNat 121) ≤ (I 1 6)) then some (none, (jmk I L c e)) else bif decide (jin (I 1 6) 121) then some (none, (jmk (ju (ju I e (I 1 6).toNatClampNeg x) 1 6 ((I 1 6) + 1)) L c e)) else none := by
  rcases hce with ⟨rfl, rfl⟩ | ⟨rfl, rfl⟩
  · exact jb_44_0a ..
  · exact jb_44_0b ..
theorem ce_e (hce : ceOk c e) : e = 5 ∨ e = 6 := by
  rcases hce with ⟨-, h⟩ | ⟨-, h⟩
  · exact Or.inr h
  · exact Or.inl h
theorem q_44 (hce : ceOk c e) {s : Nat} (h : I 1 6 = nI s) (hs : s < 121) : jev d 44 [.ref 1, .int x] (jmk I L c e) = some (none, jmk (ju (ju I e s x) 1 6 (nI (s + 1))) L c e) := by
  rw [jb_44_0 hce, h, decide_eq_false (show ¬ Int32.ofNat 121 ≤ nI s by show ¬ nI 121 ≤ nI s; rw [nI_leI (by omega) (by omega)]; omega), cond_false, jdI hs, cond_true, jcl' (by omega), nI_1]
theorem taC_fr (hce : ceOk c e) (h : taC k ta I) (hf : ∀ q j, ¬ (q = 1 ∧ j = 6) → ¬ (q = 1 ∧ j = 7) → q ≠ e → I' q j = I q j) : taC k ta I' := by
  have he := ce_e hce
  obtain ⟨h1, h2, h3⟩ := h
  exact ⟨h1, (hf 1 9 (by omega) (by omega) (by omega)).trans h2, fun i hi => (hf 2 i (by omega) (by omega) (by omega)).trans (h3 i hi)⟩
/-- a code that is written into nothing that counts -/
theorem q_44w (hce : ceOk c e) (h : wkC k ta p I) : ∃ I', jev d 44 [.ref 1, .int x] (jmk I L c e) = some (none, jmk I' L c e) ∧ wkC k ta p I' ∧ ∀ q j, ¬ (q = 1 ∧ j = 6) → ¬ (q = 1 ∧ j = 7) → q ≠ e → I' q j = I q j := by
  have he := ce_e hce
  obtain ⟨h1, h2, s, h3, h4⟩ := id h
  by_cases hs : s = 121
  · refine ⟨I, ?_, h, fun _ _ _ _ _ => rfl⟩
    rw [jb_44_0 hce, h4, hs]
    rfl
  · have hf : ∀ q j, ¬ (q = 1 ∧ j = 6) → ¬ (q = 1 ∧ j = 7) → q ≠ e → ju (ju I e s x) 1 6 (nI (s + 1)) q j = I q j := by
      intro q j a1 a2 a3
      rw [ju_get, if_neg a1, ju_get, if_neg (fun k => a3 k.1)]
    refine ⟨_, q_44 hce h4 (by omega), ⟨taC_fr hce h1 hf, ?_, s + 1, by omega, rfl⟩, hf⟩
    rw [ju_get, if_neg (by omega), ju_get, if_neg (by omega)]
    exact h2
theorem q_44s (hce : ceOk c e) (h : stC k ta e p o I) (ho : o.length < 121) : ∃ I', jev d 44 [.ref 1, .int x] (jmk I L c e) = some (none, jmk I' L c e) ∧ stC k ta e p (o ++ [x]) I' ∧ ∀ q j, ¬ (q = 1 ∧ j = 6) → ¬ (q = 1 ∧ j = 7) → q ≠ e → I' q j = I q j := by
  have he := ce_e hce
  obtain ⟨h1, h2, h3, h4⟩ := id h
  have hf : ∀ q j, ¬ (q = 1 ∧ j = 6) → ¬ (q = 1 ∧ j = 7) → q ≠ e → ju (ju I e o.length x) 1 6 (nI (o.length + 1)) q j = I q j := by
    intro q j a1 a2 a3
    rw [ju_get, if_neg a1, ju_get, if_neg (fun k => a3 k.1)]
  refine ⟨_, q_44 hce h3 ho, ⟨taC_fr hce h1 hf, ?_, ?_, ?_⟩, hf⟩
  · rw [ju_get, if_neg (by omega), ju_get, if_neg (by omega)]
    exact h2
  · rw [List.length_append]
    rfl
  · rw [cdAt_app]
    refine ⟨cdAt_fr (fun j _ hj => ?_) h4, ?_, trivial⟩
    · rw [ju_get, if_neg (by omega), ju_get, if_neg (by omega)]
    · rw [Nat.zero_add, ju_get, if_neg (by omega), ju_get, if_pos ⟨rfl, rfl⟩]
theorem st_wk (h : stC k ta e p o I) (ho : o.length ≤ 121) : wkC k ta p I := ⟨h.1, h.2.1, o.length, ho, h.2.2.1⟩
theorem q_43 (h : taC k ta I) (hp : I 1 7 = nI p) (hpk : p < 1000) : jev d 43 [.ref 1] (jmk I L c e) = some (some (.int (sg k ta p)), jmk I L c e) := by
  obtain ⟨h1, h2, h3⟩ := h
  unfold sg
  rw [jb_43_0, hp, h2, decide_eq_false (show ¬ nI p < 0 by rw [jlt_iff, nI_toInt (by omega)]; simp only [Int32.reduceToInt]; omega), cond_false]
  by_cases q : p < k
  · rw [if_pos q, decide_eq_false (by rw [nI_leI (by omega) (by omega)]; omega), cond_false, jdI (by omega), cond_true, jcl' (by omega), h3 p q]
  · rw [if_neg q, decide_eq_true (by rw [nI_leI (by omega) (by omega)]; omega), cond_true]
theorem q_46 : jev d 46 [.int s] (jmk I L c e) = some (some (.int (lvI s)), jmk I L c e) := by
  rw [jb_46_0, jb_46_1]
  unfold lvI
  simp only [jswF, Bool.cond_decide, jb_46_92, jb_46_94, jb_46_96, jb_46_98, jb_46_100, jb_46_102]
  repeat' split
  all_goals rfl
theorem lv_op (hl : lev < 5) : (lvI s = nI lev ∧ ∃ t, opTok lev s = some t) ∨ (¬ lvI s = nI lev ∧ opTok lev s = none) := by
  have h5 : lev = 0 ∨ lev = 1 ∨ lev = 2 ∨ lev = 3 ∨ lev = 4 := by omega
  have key : ∀ a : Int32, a ∈ ([37, 38, 42, 43, 45, 47, 60, 61, 62, 124] : List Int32) → ∀ lev, lev < 5 → (lvI a = nI lev ∧ (opTok lev a).isSome = true) ∨ (¬ lvI a = nI lev ∧ opTok lev a = none) := by decide
  by_cases hm : s ∈ ([37, 38, 42, 43, 45, 47, 60, 61, 62, 124] : List Int32)
  · rcases key s hm lev hl with ⟨h1, h2⟩ | h
    · exact Or.inl ⟨h1, Option.isSome_iff_exists.mp h2⟩
    · exact Or.inr h
  · simp only [List.mem_cons, List.not_mem_nil, or_false, not_or] at hm
    obtain ⟨m1, m2, m3, m4, m5, m6, m7, m8, m9, m10⟩ := hm
    refine Or.inr ⟨?_, ?_⟩
    · unfold lvI
      rw [if_neg m1, if_neg m2, if_neg m3, if_neg m4, if_neg m5, if_neg m6, if_neg m7, if_neg m8, if_neg m9, if_neg m10]
      rcases h5 with rfl | rfl | rfl | rfl | rfl <;> decide
    · unfold opTok
      rw [if_neg m1, if_neg m2, if_neg m3, if_neg m4, if_neg m5, if_neg m6, if_neg m7, if_neg m8, if_neg m9, if_neg m10]
      simp
theorem q_45 : jev d 45 [.int s] (jmk I L c e) = some (some (.int (match nmO s with | some t => nI t | none => -1)), jmk I L c e) := by
  rw [jb_45_0, jb_45_1]
  simp only [jswF, Bool.cond_decide, jb_45_60, jb_45_62, jb_45_64, jb_45_66, jb_45_68, jb_45_70, jb_45_72]
  by_cases h0 : s = 100
  · subst h0; rfl
  · by_cases h1 : s = 104
    · subst h1; rfl
    · by_cases h2 : s = 102
      · subst h2; rfl
      · by_cases h3 : s = 110
        · subst h3; rfl
        · by_cases h4 : s = 107
          · subst h4; rfl
          · by_cases h5 : s = 109
            · subst h5; rfl
            · have : nmO s = none := by
                unfold nmO
                rw [if_neg h0, if_neg h1, if_neg h2, if_neg h3, if_neg h4, if_neg h5]
              rw [this, if_neg h0, if_neg h1, if_neg h2, if_neg h3, if_neg h4, if_neg h5]
              simp
/-- the place goes on by one -/
theorem st_next (hce : ceOk c e) (h : stC k ta e p o I) : stC k ta e (p + 1) o (ju I 1 7 (I 1 7 + 1)) := by
  have he := ce_e hce
  obtain ⟨⟨h1, h2, h3⟩, h4, h5, h6⟩ := h
  refine ⟨⟨h1, ?_, fun i hi => ?_⟩, ?_, ?_, cdAt_fr (fun j _ _ => ?_) h6⟩
  · rw [ju_get, if_neg (by omega)]; exact h2
  · rw [ju_get, if_neg (by omega)]; exact h3 i hi
  · rw [ju_get, if_pos ⟨rfl, rfl⟩, h4, nI_1]
  · rw [ju_get, if_neg (by omega)]; exact h5
  · rw [ju_get, if_neg (by omega)]
theorem ju7 {q j : Nat} {w : Int32} (h : ¬ (q = 1 ∧ j = 7)) : ju I 1 7 w q j = I q j := by
  rw [ju_get, if_neg h]
theorem b01 (b : Bool) : decide ((if b = true then (1 : Int32) else 0) &&& 1 = if b = true then (1 : Int32) else 0) = true := by
  cases b <;> rfl
/-- one level: those of the next one, parted by its signs -/
theorem q_40c (hce : ceOk c e) (hl : lev < 5) {dep : Nat} (hs : ∀ p, p ≤ k → exOk k p (sub p)) (hsub : isC k ta L c e sub (fun M => jcl d 40 40 [.ref 1, .int (nI (lev + 1)), .int (nI dep)] M)) (hk : k ≤ 120) {most : Nat} (hmost : most ≤ 120) {o : List Int32} : ∀ (f j p : Nat) (o2 : List Nat) (I : Nat → Nat → Int32) (v6 : Value), j + f = most → p ≤ k → o.length + o2.length ≤ p → stC k ta e p (o ++ o2.map cT) I → ∃ I', jat d 40 36 [.ref 1, .int (nI lev), .int (nI dep), .int 1, .int (nI most), .int (nI j), v6] [] (jmk I L c e) = some (some (.int (if (chn k ta lev sub f p o2).1 = true then 1 else 0)), jmk I' L c e) ∧ rsC k ta e o (chn k ta lev sub f p o2) I' ∧ ∀ q j, ¬ (q = 1 ∧ j = 6) → ¬ (q = 1 ∧ j = 7) → q ≠ e → I' q j = I q j := by
  intro f
  induction f with
  | zero =>
    intro j p o2 I v6 hj hp hlen hst
    refine ⟨I, ?_, hst, fun _ _ _ _ _ => rfl⟩
    rw [jb_40_36, decide_eq_true (by rw [nI_leI (by omega) (by omega)]; omega), cond_true, jb_40_97]
    rfl
  | succ f ih =>
    intro j p o2 I v6 hj hp hlen hst
    rw [jb_40_36, decide_eq_false (by rw [nI_leI (by omega) (by omega)]; omega), cond_false, jt_2, cond_false, q_43 hst.1 hst.2.1 (by omega)]
    simp only [Option.bind_some, jps]
    rw [jb_40_51, q_46]
    simp only [Option.bind_some, jps]
    rw [jb_40_54]
    unfold chn
    rcases lv_op (s := sg k ta p) hl with ⟨h1, t, h2⟩ | ⟨h1, h2⟩
    · obtain ⟨t6, t16, tc⟩ := opTok_in h2
      have hlt := opTok_lt h2
      rw [h1, decide_eq_false (fun q => q rfl), cond_false, q_43 hst.1 hst.2.1 (by omega), h2]
      simp only [Option.bind_some, jps]
      rw [jb_40_62]
      have hst2 := st_next hce hst
      have hlen2 : (o ++ o2.map cT).length = o.length + o2.length := by simp
      obtain ⟨I1, f1, f2, f3⟩ := hsub (p + 1) _ _ hlt (by omega) hst2
      dsimp only at f1
      rw [show nI lev + 1 = nI (lev + 1) from nI_1 _, f1]
      simp only [Option.bind_some, jps]
      rw [jb_40_82, tc]
      have ff : ∀ q j, ¬ (q = 1 ∧ j = 6) → ¬ (q = 1 ∧ j = 7) → q ≠ e → I1 q j = I q j := fun q j a1 a2 a3 => (f3 q j a1 a2 a3).trans (ju7 a2)
      obtain ⟨e1, e2, e3⟩ := hs (p + 1) hlt
      show ∃ I', _ = some (some (Value.int (if (if (sub (p + 1)).1 = true then chn k ta lev sub f (sub (p + 1)).2.1 (o2 ++ (sub (p + 1)).2.2 ++ [t]) else (false, (sub (p + 1)).2.1, [])).1 = true then 1 else 0)), jmk I' L c e) ∧ rsC k ta e o (if (sub (p + 1)).1 = true then chn k ta lev sub f (sub (p + 1)).2.1 (o2 ++ (sub (p + 1)).2.2 ++ [t]) else (false, (sub (p + 1)).2.1, [])) I' ∧ _
      by_cases hb : (sub (p + 1)).1 = true
      · obtain ⟨g1, g2, g3, g4, g5⟩ := e3 hb
        rw [if_pos hb, if_pos hb]
        unfold rsC at f2
        rw [if_pos hb] at f2
        have hl3 : (o ++ o2.map cT ++ (sub (p + 1)).2.2.map cT).length = o.length + o2.length + (sub (p + 1)).2.2.length := by simp; omega
        obtain ⟨I2, w1, w2, w3⟩ := q_44s (d := d) (L := L) (x := cT t) hce f2 (by omega)
        rw [w1]
        simp only [Option.bind_some, jps]
        rw [jb_40_90, nI_1]
        have eq1 : o ++ o2.map cT ++ (sub (p + 1)).2.2.map cT ++ [cT t] = o ++ (o2 ++ (sub (p + 1)).2.2 ++ [t]).map cT := by simp
        rw [eq1] at w2
        obtain ⟨I3, r1, r2, r3⟩ := ih (j + 1) _ (o2 ++ (sub (p + 1)).2.2 ++ [t]) I2 (.int (sg k ta p)) (by omega) e1 (by simp; omega) w2
        exact ⟨I3, r1, r2, fun q j a1 a2 a3 => (r3 q j a1 a2 a3).trans ((w3 q j a1 a2 a3).trans (ff q j a1 a2 a3))⟩
      · rw [if_neg hb, if_neg hb]
        unfold rsC at f2
        rw [if_neg hb] at f2
        obtain ⟨I2, w1, w2, w3⟩ := q_44w (d := d) (L := L) (x := cT t) hce f2
        rw [w1]
        simp only [Option.bind_some, jps]
        rw [jb_40_90, nI_1]
        refine ⟨I2, ?_, w2, fun q j a1 a2 a3 => (w3 q j a1 a2 a3).trans (ff q j a1 a2 a3)⟩
        rw [jb_40_36, jt_4, cond_true, jb_40_97]
        cases decide (nI most ≤ nI (j + 1)) <;> rfl
    · rw [decide_eq_true h1, cond_true, h2, jb_40_97]
      exact ⟨I, rfl, hst, fun _ _ _ _ _ => rfl⟩
theorem q_40 (hce : ceOk c e) (hl : lev < 5) {dep : Nat} (hs : ∀ p, p ≤ k → exOk k p (sub p)) (hsub : isC k ta L c e sub (fun M => jcl d 40 40 [.ref 1, .int (nI (lev + 1)), .int (nI dep)] M)) (hk : k ≤ 120) : isC k ta L c e (rdL k ta lev sub) (fun M => jev d 40 [.ref 1, .int (nI lev), .int (nI dep)] M) := by
  intro p o I hp ho hst
  obtain ⟨I1, f1, f2, f3⟩ := hsub p o I hp ho hst
  dsimp only at f1
  obtain ⟨e1, e2, e3⟩ := hs p hp
  show ∃ I', jev d 40 [.ref 1, .int (nI lev), .int (nI dep)] (jmk I L c e) = _ ∧ _
  rw [jb_40_0, decide_eq_true (show nI lev < 5 from nI_lt hl (by decide)), cond_true, nI_1, f1]
  simp only [Option.bind_some, jps]
  rw [jb_40_19]
  unfold rdL
  have hmost : (bif decide (¬ nI lev = 2) then jat d 40 36 [.ref 1, .int (nI lev), .int (nI dep), .int (if (sub p).1 = true then 1 else 0), .int 120, .int 0, .null] [] (jmk I1 L c e) else jat d 40 36 [.ref 1, .int (nI lev), .int (nI dep), .int (if (sub p).1 = true then 1 else 0), .int 1, .int 0, .null] [] (jmk I1 L c e)) = jat d 40 36 [.ref 1, .int (nI lev), .int (nI dep), .int (if (sub p).1 = true then 1 else 0), .int (nI (if lev = 2 then 1 else 120)), .int (nI 0), .null] [] (jmk I1 L c e) := by
    by_cases h2 : lev = 2
    · subst h2; rfl
    · rw [if_neg h2, decide_eq_true (by rw [jI_lit, nI_eq (by omega) (by decide)]; exact h2)]
      rfl
  rw [hmost]
  by_cases hb : (sub p).1 = true
  · obtain ⟨g1, g2, g3, g4, g5⟩ := e3 hb
    rw [if_pos hb, if_pos hb]
    unfold rsC at f2
    rw [if_pos hb] at f2
    obtain ⟨I2, r1, r2, r3⟩ := q_40c hce hl hs hsub hk (most := if lev = 2 then 1 else 120) (by split <;> decide) (o := o) (if lev = 2 then 1 else 120) 0 (sub p).2.1 (sub p).2.2 I1 .null (by omega) e1 (by omega) f2
    exact ⟨I2, r1, r2, fun q j a1 a2 a3 => (r3 q j a1 a2 a3).trans (f3 q j a1 a2 a3)⟩
  · rw [if_neg hb, if_neg hb]
    unfold rsC at f2
    rw [if_neg hb] at f2
    refine ⟨I1, ?_, f2, f3⟩
    rw [jb_40_36, jt_4, cond_true, jb_40_97]
    cases decide (nI (if lev = 2 then 1 else 120) ≤ nI 0) <;> rfl
end RDC
