/-! the reference reads a text: its small methods, its levels -/
def stM (k : Nat) (ta : Nat → Int32) (r p : Nat) (o : List Nat) (I : Nat → Nat → Int32) : Prop := taM k ta I ∧ I 58 20 = nI p ∧ I 58 21 = nI (6 - r) ∧ I 58 22 = nI o.length ∧ cdAt 76 I 0 (o.map nI)
def wkM (k : Nat) (ta : Nat → Int32) (p : Nat) (I : Nat → Nat → Int32) : Prop := taM k ta I ∧ I 58 20 = nI p
def rsM (k : Nat) (ta : Nat → Int32) (r : Nat) (o : List Nat) (x : aRd) (I : Nat → Nat → Int32) : Prop := if x.1 = true then stM k ta r x.2.1 (o ++ x.2.2) I else wkM k ta x.2.1 I
abbrev frP (I I' : Nat → Nat → Int32) : Prop := ∀ q j, ¬ (q = 58 ∧ 20 ≤ j ∧ j ≤ 22) → q ≠ 76 → I' q j = I q j
def isM (k : Nat) (ta : Nat → Int32) (L : Nat → Nat → Int64) (c e r : Nat) (sub : Nat → aRd) (R : jH → Option jX) : Prop := ∀ (p : Nat) (o : List Nat) (I : Nat → Nat → Int32), p ≤ k → o.length ≤ p → stM k ta r p o I → ∃ I', R (jmk I L c e) = some (some (.int (if (sub p).1 = true then 1 else 0)), jmk I' L c e) ∧ rsM k ta r o (sub p) I' ∧ frP I I'
def opI (lev : Nat) (s : Int32) : Int32 := match opTok lev s with
  | some t => nI t
  | none => -1
section RDM
variable {d : Nat} {I I' : Nat → Nat → Int32} {L : Nat → Nat → Int64} {c e : Nat} {x y z : Int32} {k p r lev t f : Nat} {ta : Nat → Int32} {s : Int32} {sub : Nat → aRd} {o : List Nat}
theorem q_187 (h : taM k ta I) (hp : I 58 20 = nI p) (hpk : p < 1000) : jev d 187 [.ref 58] (jmk I L c e) = some (some (.int (sg k ta p)), jmk I L c e) := by
  obtain ⟨h1, h2, h3⟩ := h
  unfold sg
  rw [jb_187_0, hp, h2]
  by_cases q : p < k
  · rw [if_pos q, decide_eq_false (by rw [nI_leI (by omega) (by omega)]; omega), cond_false, jdI (by omega), cond_true, jcl' (by omega), h3 p q]
  · rw [if_neg q, decide_eq_true (by rw [nI_leI (by omega) (by omega)]; omega), cond_true]
theorem ju20 {q j i : Nat} {w : Int32} (hi : 20 ≤ i ∧ i ≤ 22) (h : ¬ (q = 58 ∧ 20 ≤ j ∧ j ≤ 22)) : ju I 58 i w q j = I q j := by
  rw [ju_get, if_neg (by omega)]
theorem tM_ju {i : Nat} {w : Int32} (hi : 20 ≤ i ∧ i ≤ 22) (h : taM k ta I) : taM k ta (ju I 58 i w) := by
  obtain ⟨h1, h2, h3⟩ := h
  refine ⟨h1, ?_, fun j hj => ?_⟩
  · rw [ju_get, if_neg (by omega)]; exact h2
  · rw [ju_get, if_neg (by omega)]; exact h3 j hj
theorem sm_next (h : stM k ta r p o I) : stM k ta r (p + 1) o (ju I 58 20 (I 58 20 + 1)) := by
  obtain ⟨h1, h2, h3, h4, h5⟩ := h
  refine ⟨tM_ju (by decide) h1, ?_, h3, h4, cdAt_fr (fun j _ _ => ?_) h5⟩
  · rw [ju_get, if_pos ⟨rfl, rfl⟩, h2, nI_1]
  · rw [ju_get, if_neg (by omega)]
theorem sm_open {r' : Nat} {w : Int32} (h : stM k ta r p o I) (hw : w = nI (6 - r')) : stM k ta r' p o (ju I 58 21 w) := by
  obtain ⟨h1, h2, h3, h4, h5⟩ := h
  refine ⟨tM_ju (by decide) h1, h2, ?_, h4, cdAt_fr (fun j _ _ => ?_) h5⟩
  · rw [ju_get, if_pos ⟨rfl, rfl⟩, hw]
  · rw [ju_get, if_neg (by omega)]
theorem sm_wk (h : stM k ta r p o I) : wkM k ta p I := ⟨h.1, h.2.1⟩
theorem q_188 (h : taM k ta I) (hp : I 58 20 = nI p) (hpk : p < 1000) : jev d 188 [.ref 58, .int x] (jmk I L c e) = if sg k ta p = x then some (some (.int 1), jmk (ju I 58 20 (I 58 20 + 1)) L c e) else some (some (.int 0), jmk I L c e) := by
  rw [jb_188_0, q_187 h hp hpk]
  simp only [Option.bind_some, jps]
  rw [jb_188_4]
  simp only [Bool.cond_decide]
theorem q_189 (h : stM k ta r p o I) (ho : o.length < 200) (hx : x = nI t) : ∃ I', jev d 189 [.ref 58, .int x] (jmk I L c e) = some (some (.int 1), jmk I' L c e) ∧ stM k ta r p (o ++ [t]) I' ∧ frP I I' := by
  obtain ⟨h1, h2, h3, h4, h5⟩ := h
  have hf : frP I (ju (ju I 58 22 (nI o.length + 1)) 76 o.length x) := by
    intro q j a1 a2
    rw [ju_get, if_neg (fun k => a2 k.1), ju_get, if_neg (by omega)]
  refine ⟨ju (ju I 58 22 (nI o.length + 1)) 76 o.length x, ?_, ⟨?_, h2, h3, ?_, ?_⟩, hf⟩
  · rw [jb_189_0, h4, jdI ho, cond_true, jcl' (by omega)]
  · obtain ⟨g1, g2, g3⟩ := h1
    exact ⟨g1, (hf 58 12 (by omega) (by omega)).trans g2, fun i hi => (hf 68 i (by omega) (by omega)).trans (g3 i hi)⟩
  · rw [List.length_append]
    exact nI_1 _
  · rw [List.map_append, cdAt_app]
    refine ⟨cdAt_fr (fun j _ hj => ?_) h5, ?_, trivial⟩
    · rw [List.length_map] at hj
      rw [ju_get, if_neg (by omega), ju_get, if_neg (by omega)]
    · rw [List.length_map, Nat.zero_add, ju_get, if_pos ⟨rfl, rfl⟩, hx]
theorem q_190 (h : taM k ta I) (hp : I 58 20 = nI p) (hpk : p < 1000) : jev d 190 [.ref 58] (jmk I L c e) = some (some (.int (if dgt (sg k ta p) then 1 else 0)), jmk I L c e) := by
  rw [jb_190_0, q_187 h hp hpk]
  simp only [Option.bind_some, jps]
  rw [jb_190_4, q_187 h hp hpk]
  simp only [Option.bind_some, jps, Bool.cond_decide]
  rw [jb_190_13]
  simp only [Bool.cond_decide, show (sg k ta p < 48) ↔ (sg k ta p).toInt < 48 from jlt_iff, show (57 < sg k ta p) ↔ 57 < (sg k ta p).toInt from jlt_iff]
  repeat' split
  all_goals first | rfl | (exfalso; omega)
theorem q_191 : jev d 191 [.int s] (jmk I L c e) = some (some (.int (match nmO s with | some t => nI t | none => -1)), jmk I L c e) := by
  rw [jb_191_0, jb_191_1]
  simp only [jswF, Bool.cond_decide, jb_191_60, jb_191_62, jb_191_64, jb_191_66, jb_191_68, jb_191_70, jb_191_72]
  by_cases h0 : s = 100
  · subst h0; rfl
  · by_cases h1 : s = 104
    · subst h1; rfl
    · by_cases h2 : s = 102
      · subst h2; rfl
      · by_cases h3 : s = 110
        · subst h3; rfl
        · by_cases h4 : s = 107
          · subst h4; rfl
          · by_cases h5 : s = 109
            · subst h5; rfl
            · have : nmO s = none := by
                unfold nmO
                rw [if_neg h0, if_neg h1, if_neg h2, if_neg h3, if_neg h4, if_neg h5]
              rw [this, if_neg h0, if_neg h1, if_neg h2, if_neg h3, if_neg h4, if_neg h5]
              simp
theorem opI_some (h : opTok lev s = some t) : opI lev s = nI t ∧ decide (0 ≤ opI lev s) = true := by
  obtain ⟨h1, h2, -⟩ := opTok_in h
  have e1 : opI lev s = nI t := by
    unfold opI
    rw [h]
  refine ⟨e1, decide_eq_true ?_⟩
  rw [e1, jle_iff, nI_toInt (by omega)]
  simp only [Int32.reduceToInt]
  omega
theorem opI_none (h : opTok lev s = none) : decide (0 ≤ opI lev s) = false := by
  unfold opI
  rw [h]
  rfl
theorem opTok_end (h : k ≤ p) : opTok lev (sg k ta p) = none := by
  cases ho : opTok lev (sg k ta p) with
  | none => rfl
  | some t => exact absurd (opTok_lt ho) (by omega)
theorem q_193_s {v1 : Value} (h : taM k ta I) (hp : I 58 20 = nI p) (hpk : p < 1000) : jat d 193 9 [.ref 58, v1] [] (jmk I L c e) = jat d 193 52 [.ref 58, v1] [.int (opI 4 (sg k ta p))] (jmk I L c e) := by
  rw [jb_193_9, q_187 h hp hpk]
  simp only [Option.bind_some, jps]
  rw [jb_193_13]
  by_cases h0 : sg k ta p = 42
  · rw [h0]
    rfl
  · rw [decide_eq_true h0, cond_true]
    rw [q_187 h hp hpk]
    simp only [Option.bind_some, jps]
    rw [jb_193_27]
    by_cases h1 : sg k ta p = 47
    · rw [h1]
      rfl
    · rw [decide_eq_true h1, cond_true]
      rw [q_187 h hp hpk]
      simp only [Option.bind_some, jps]
      rw [jb_193_41]
      by_cases h2 : sg k ta p = 37
      · rw [h2]
        rfl
      · rw [decide_eq_true h2, cond_true]
        have : opI 4 (sg k ta p) = -1 := by
          unfold opI opTok
          simp [h0, h1, h2]
        rw [this]
theorem q_194_s {v1 : Value} (h : taM k ta I) (hp : I 58 20 = nI p) (hpk : p < 1000) : jat d 194 9 [.ref 58, v1] [] (jmk I L c e) = jat d 194 38 [.ref 58, v1] [.int (opI 3 (sg k ta p))] (jmk I L c e) := by
  rw [jb_194_9, q_187 h hp hpk]
  simp only [Option.bind_some, jps]
  rw [jb_194_13]
  by_cases h0 : sg k ta p = 43
  · rw [h0]
    rfl
  · rw [decide_eq_true h0, cond_true]
    rw [q_187 h hp hpk]
    simp only [Option.bind_some, jps]
    rw [jb_194_27]
    by_cases h1 : sg k ta p = 45
    · rw [h1]
      rfl
    · rw [decide_eq_true h1, cond_true]
      have : opI 3 (sg k ta p) = -1 := by
        unfold opI opTok
        simp [h0, h1]
      rw [this]
theorem q_195_s (h : taM k ta I) (hp : I 58 20 = nI p) (hpk : p < 1000) : (jev d 187 [.ref 58] (jmk I L c e)).bind (fun r => jat d 195 13 [.ref 58, .null] (jps r.1 []) r.2) = jat d 195 52 [.ref 58, .null] [.int (opI 2 (sg k ta p))] (jmk I L c e) := by
  rw [q_187 h hp hpk]
  simp only [Option.bind_some, jps]
  rw [jb_195_13]
  by_cases h0 : sg k ta p = 60
  · rw [h0]
    rfl
  · rw [decide_eq_true h0, cond_true]
    rw [q_187 h hp hpk]
    simp only [Option.bind_some, jps]
    rw [jb_195_27]
    by_cases h1 : sg k ta p = 61
    · rw [h1]
      rfl
    · rw [decide_eq_true h1, cond_true]
      rw [q_187 h hp hpk]
      simp only [Option.bind_some, jps]
      rw [jb_195_41]
      by_cases h2 : sg k ta p = 62
      · rw [h2]
        rfl
      · rw [decide_eq_true h2, cond_true]
        have : opI 2 (sg k ta p) = -1 := by
          unfold opI opTok
          simp [h0, h1, h2]
        rw [this]
theorem q_193_c (hk : k ≤ 120) (hs : ∀ p, p ≤ k → exOk k p (sub p)) (hsub : isM k ta L c e r sub (fun M => jcl d 193 192 [.ref 58] M)) {o : List Nat} : ∀ (f p : Nat) (o2 : List Nat) (I : Nat → Nat → Int32) (v1 : Value), k ≤ p + f → p ≤ k → o.length + o2.length ≤ p → stM k ta r p (o ++ o2) I → ∃ I', jat d 193 9 [.ref 58, v1] [] (jmk I L c e) = some (some (.int (if (chn k ta 4 sub f p o2).1 = true then 1 else 0)), jmk I' L c e) ∧ rsM k ta r o (chn k ta 4 sub f p o2) I' ∧ frP I I' := by
  intro f
  induction f with
  | zero =>
    intro p o2 I v1 hf hp ho hst
    refine ⟨I, ?_, hst, fun _ _ _ _ => rfl⟩
    rw [q_193_s hst.1 hst.2.1 (by omega), jb_193_52, opI_none (opTok_end (by omega)), cond_false]
    rfl
  | succ f ih =>
    intro p o2 I v1 hf hp ho hst
    rw [q_193_s hst.1 hst.2.1 (by omega), jb_193_52]
    unfold chn
    cases hop : opTok 4 (sg k ta p) with
    | none =>
      rw [opI_none hop, cond_false]
      exact ⟨I, rfl, hst, fun _ _ _ _ => rfl⟩
    | some t =>
      obtain ⟨t1, t2⟩ := opI_some hop
      have hlt := opTok_lt hop
      obtain ⟨t6, t16, -⟩ := opTok_in hop
      obtain ⟨I1, f1, f2, f3⟩ := hsub (p + 1) (o ++ o2) _ hlt (by simp; omega) (sm_next hst)
      dsimp only at f1
      obtain ⟨e1, e2, e3⟩ := hs (p + 1) hlt
      have ff : frP I I1 := fun q j a1 a2 => (f3 q j a1 a2).trans (ju20 (by decide) a1)
      rw [t2, cond_true, f1]
      simp only [Option.bind_some, jps]
      rw [jb_193_73, t1]
      show ∃ I', _ = some (some (Value.int (if (if (sub (p + 1)).1 = true then chn k ta 4 sub f (sub (p + 1)).2.1 (o2 ++ (sub (p + 1)).2.2 ++ [t]) else (false, (sub (p + 1)).2.1, [])).1 = true then 1 else 0)), jmk I' L c e) ∧ rsM k ta r o (if (sub (p + 1)).1 = true then chn k ta 4 sub f (sub (p + 1)).2.1 (o2 ++ (sub (p + 1)).2.2 ++ [t]) else (false, (sub (p + 1)).2.1, [])) I' ∧ _
      by_cases hb : (sub (p + 1)).1 = true
      · obtain ⟨g1, g2, g3, g4, g5⟩ := e3 hb
        unfold rsM at f2
        rw [if_pos hb] at f2
        obtain ⟨I2, w1, w2, w3⟩ := q_189 (d := d) (L := L) (c := c) (e := e) (t := t) (x := nI t) f2 (by simp; omega) rfl
        rw [if_pos hb, if_pos hb, jt_1, cond_true, w1]
        simp only [Option.bind_some, jps]
        rw [jb_193_83]
        have eq1 : o ++ o2 ++ (sub (p + 1)).2.2 ++ [t] = o ++ (o2 ++ (sub (p + 1)).2.2 ++ [t]) := by simp
        rw [eq1] at w2
        obtain ⟨I3, r1, r2, r3⟩ := ih _ (o2 ++ (sub (p + 1)).2.2 ++ [t]) I2 (.int (nI t)) (by omega) e1 (by simp; omega) w2
        exact ⟨I3, r1, r2, fun q j a1 a2 => (r3 q j a1 a2).trans ((w3 q j a1 a2).trans (ff q j a1 a2))⟩
      · unfold rsM at f2
        rw [if_neg hb] at f2
        rw [if_neg hb, if_neg hb, jt_3, cond_false]
        exact ⟨I1, rfl, f2, ff⟩
theorem q_193 (hk : k ≤ 120) (hs : ∀ p, p ≤ k → exOk k p (sub p)) (hsub : isM k ta L c e r sub (fun M => jcl d 193 192 [.ref 58] M)) : isM k ta L c e r (rdL k ta 4 sub) (fun M => jev d 193 [.ref 58] M) := by
  intro p o I hp ho hst
  obtain ⟨I1, f1, f2, f3⟩ := hsub p o I hp ho hst
  dsimp only at f1
  obtain ⟨e1, e2, e3⟩ := hs p hp
  show ∃ I', jev d 193 [.ref 58] (jmk I L c e) = _ ∧ _
  rw [jb_193_0, f1]
  simp only [Option.bind_some, jps]
  rw [jb_193_4]
  unfold rdL
  by_cases hb : (sub p).1 = true
  · obtain ⟨g1, g2, g3, g4, g5⟩ := e3 hb
    unfold rsM at f2
    rw [if_pos hb] at f2
    rw [if_pos hb, if_pos hb, jt_1, cond_true, if_neg (show ¬ 4 = 2 by decide)]
    obtain ⟨I2, r1, r2, r3⟩ := q_193_c hk hs hsub (o := o) 120 (sub p).2.1 (sub p).2.2 I1 .null (by omega) e1 (by omega) f2
    exact ⟨I2, r1, r2, fun q j a1 a2 => (r3 q j a1 a2).trans (f3 q j a1 a2)⟩
  · unfold rsM at f2
    rw [if_neg hb] at f2
    rw [if_neg hb, if_neg hb, jt_3, cond_false]
    exact ⟨I1, rfl, f2, f3⟩
theorem q_194_c (hk : k ≤ 120) (hs : ∀ p, p ≤ k → exOk k p (sub p)) (hsub : isM k ta L c e r sub (fun M => jcl d 194 193 [.ref 58] M)) {o : List Nat} : ∀ (f p : Nat) (o2 : List Nat) (I : Nat → Nat → Int32) (v1 : Value), k ≤ p + f → p ≤ k → o.length + o2.length ≤ p → stM k ta r p (o ++ o2) I → ∃ I', jat d 194 9 [.ref 58, v1] [] (jmk I L c e) = some (some (.int (if (chn k ta 3 sub f p o2).1 = true then 1 else 0)), jmk I' L c e) ∧ rsM k ta r o (chn k ta 3 sub f p o2) I' ∧ frP I I' := by
  intro f
  induction f with
  | zero =>
    intro p o2 I v1 hf hp ho hst
    refine ⟨I, ?_, hst, fun _ _ _ _ => rfl⟩
    rw [q_194_s hst.1 hst.2.1 (by omega), jb_194_38, opI_none (opTok_end (by omega)), cond_false]
    rfl
  | succ f ih =>
    intro p o2 I v1 hf hp ho hst
    rw [q_194_s hst.1 hst.2.1 (by omega), jb_194_38]
    unfold chn
    cases hop : opTok 3 (sg k ta p) with
    | none =>
      rw [opI_none hop, cond_false]
      exact ⟨I, rfl, hst, fun _ _ _ _ => rfl⟩
    | some t =>
      obtain ⟨t1, t2⟩ := opI_some hop
      have hlt := opTok_lt hop
      obtain ⟨t6, t16, -⟩ := opTok_in hop
      obtain ⟨I1, f1, f2, f3⟩ := hsub (p + 1) (o ++ o2) _ hlt (by simp; omega) (sm_next hst)
      dsimp only at f1
      obtain ⟨e1, e2, e3⟩ := hs (p + 1) hlt
      have ff : frP I I1 := fun q j a1 a2 => (f3 q j a1 a2).trans (ju20 (by decide) a1)
      rw [t2, cond_true, f1]
      simp only [Option.bind_some, jps]
      rw [jb_194_59, t1]
      show ∃ I', _ = some (some (Value.int (if (if (sub (p + 1)).1 = true then chn k ta 3 sub f (sub (p + 1)).2.1 (o2 ++ (sub (p + 1)).2.2 ++ [t]) else (false, (sub (p + 1)).2.1, [])).1 = true then 1 else 0)), jmk I' L c e) ∧ rsM k ta r o (if (sub (p + 1)).1 = true then chn k ta 3 sub f (sub (p + 1)).2.1 (o2 ++ (sub (p + 1)).2.2 ++ [t]) else (false, (sub (p + 1)).2.1, [])) I' ∧ _
      by_cases hb : (sub (p + 1)).1 = true
      · obtain ⟨g1, g2, g3, g4, g5⟩ := e3 hb
        unfold rsM at f2
        rw [if_pos hb] at f2
        obtain ⟨I2, w1, w2, w3⟩ := q_189 (d := d) (L := L) (c := c) (e := e) (t := t) (x := nI t) f2 (by simp; omega) rfl
        rw [if_pos hb, if_pos hb, jt_1, cond_true, w1]
        simp only [Option.bind_some, jps]
        rw [jb_194_69]
        have eq1 : o ++ o2 ++ (sub (p + 1)).2.2 ++ [t] = o ++ (o2 ++ (sub (p + 1)).2.2 ++ [t]) := by simp
        rw [eq1] at w2
        obtain ⟨I3, r1, r2, r3⟩ := ih _ (o2 ++ (sub (p + 1)).2.2 ++ [t]) I2 (.int (nI t)) (by omega) e1 (by simp; omega) w2
        exact ⟨I3, r1, r2, fun q j a1 a2 => (r3 q j a1 a2).trans ((w3 q j a1 a2).trans (ff q j a1 a2))⟩
      · unfold rsM at f2
        rw [if_neg hb] at f2
        rw [if_neg hb, if_neg hb, jt_3, cond_false]
        exact ⟨I1, rfl, f2, ff⟩
theorem q_194 (hk : k ≤ 120) (hs : ∀ p, p ≤ k → exOk k p (sub p)) (hsub : isM k ta L c e r sub (fun M => jcl d 194 193 [.ref 58] M)) : isM k ta L c e r (rdL k ta 3 sub) (fun M => jev d 194 [.ref 58] M) := by
  intro p o I hp ho hst
  obtain ⟨I1, f1, f2, f3⟩ := hsub p o I hp ho hst
  dsimp only at f1
  obtain ⟨e1, e2, e3⟩ := hs p hp
  show ∃ I', jev d 194 [.ref 58] (jmk I L c e) = _ ∧ _
  rw [jb_194_0, f1]
  simp only [Option.bind_some, jps]
  rw [jb_194_4]
  unfold rdL
  by_cases hb : (sub p).1 = true
  · obtain ⟨g1, g2, g3, g4, g5⟩ := e3 hb
    unfold rsM at f2
    rw [if_pos hb] at f2
    rw [if_pos hb, if_pos hb, jt_1, cond_true, if_neg (show ¬ 3 = 2 by decide)]
    obtain ⟨I2, r1, r2, r3⟩ := q_194_c hk hs hsub (o := o) 120 (sub p).2.1 (sub p).2.2 I1 .null (by omega) e1 (by omega) f2
    exact ⟨I2, r1, r2, fun q j a1 a2 => (r3 q j a1 a2).trans (f3 q j a1 a2)⟩
  · unfold rsM at f2
    rw [if_neg hb] at f2
    rw [if_neg hb, if_neg hb, jt_3, cond_false]
    exact ⟨I1, rfl, f2, f3⟩
theorem q_195 (hk : k ≤ 120) (hs : ∀ p, p ≤ k → exOk k p (sub p)) (hsub : isM k ta L c e r sub (fun M => jcl d 195 194 [.ref 58] M)) : isM k ta L c e r (rdL k ta 2 sub) (fun M => jev d 195 [.ref 58] M) := by
  intro p o I hp ho hst
  obtain ⟨I1, f1, f2, f3⟩ := hsub p o I hp ho hst
  dsimp only at f1
  obtain ⟨e1, e2, e3⟩ := hs p hp
  show ∃ I', jev d 195 [.ref 58] (jmk I L c e) = _ ∧ _
  rw [jb_195_0, f1]
  simp only [Option.bind_some, jps]
  rw [jb_195_4]
  unfold rdL
  by_cases hb : (sub p).1 = true
  · obtain ⟨g1, g2, g3, g4, g5⟩ := e3 hb
    unfold rsM at f2
    rw [if_pos hb] at f2
    rw [if_pos hb, if_pos hb, jt_1, cond_true, if_pos rfl]
    have hsg := q_195_s (d := d) (L := L) (c := c) (e := e) f2.1 f2.2.1 (show (sub p).2.1 < 1000 by omega)
    rw [hsg, jb_195_52]
    unfold chn
    cases hop : opTok 2 (sg k ta (sub p).2.1) with
    | none =>
      rw [opI_none hop, cond_false]
      exact ⟨I1, rfl, f2, f3⟩
    | some t =>
      obtain ⟨t1, t2⟩ := opI_some hop
      have hlt := opTok_lt hop
      obtain ⟨t6, t16, -⟩ := opTok_in hop
      obtain ⟨I2, r1, r2, r3⟩ := hsub ((sub p).2.1 + 1) (o ++ (sub p).2.2) _ hlt (by simp; omega) (sm_next f2)
      dsimp only at r1
      obtain ⟨u1, u2, u3⟩ := hs ((sub p).2.1 + 1) hlt
      have ff : frP I I2 := fun q j a1 a2 => (r3 q j a1 a2).trans ((ju20 (by decide) a1).trans (f3 q j a1 a2))
      rw [t2, cond_true, r1]
      simp only [Option.bind_some, jps]
      rw [jb_195_73, t1]
      by_cases hb2 : (sub ((sub p).2.1 + 1)).1 = true
      · obtain ⟨y1, y2, y3, y4, y5⟩ := u3 hb2
        unfold rsM at r2
        rw [if_pos hb2] at r2
        obtain ⟨I3, w1, w2, w3⟩ := q_189 (d := d) (L := L) (c := c) (e := e) (t := t) (x := nI t) r2 (by simp; omega) rfl
        rw [if_pos hb2, if_pos hb2, jt_2, cond_false, w1]
        simp only [Option.bind_some, jps]
        rw [jb_195_81]
        have eq1 : o ++ (sub p).2.2 ++ (sub ((sub p).2.1 + 1)).2.2 ++ [t] = o ++ ((sub p).2.2 ++ (sub ((sub p).2.1 + 1)).2.2 ++ [t]) := by simp
        rw [eq1] at w2
        exact ⟨I3, rfl, w2, fun q j a1 a2 => (w3 q j a1 a2).trans (ff q j a1 a2)⟩
      · unfold rsM at r2
        rw [if_neg hb2] at r2
        rw [if_neg hb2, if_neg hb2, jt_4, cond_true]
        exact ⟨I2, rfl, r2, ff⟩
  · unfold rsM at f2
    rw [if_neg hb] at f2
    rw [if_neg hb, if_neg hb, jt_3, cond_false]
    exact ⟨I1, rfl, f2, f3⟩
theorem q_196_c (hk : k ≤ 120) (hs : ∀ p, p ≤ k → exOk k p (sub p)) (hsub : isM k ta L c e r sub (fun M => jcl d 196 195 [.ref 58] M)) {o : List Nat} : ∀ (f p : Nat) (o2 : List Nat) (I : Nat → Nat → Int32), k ≤ p + f → p ≤ k → o.length + o2.length ≤ p → stM k ta r p (o ++ o2) I → ∃ I', jat d 196 9 [.ref 58] [] (jmk I L c e) = some (some (.int (if (chn k ta 1 sub f p o2).1 = true then 1 else 0)), jmk I' L c e) ∧ rsM k ta r o (chn k ta 1 sub f p o2) I' ∧ frP I I' := by
  intro f
  induction f with
  | zero =>
    intro p o2 I hf hp ho hst
    refine ⟨I, ?_, hst, fun _ _ _ _ => rfl⟩
    have hno : ¬ sg k ta p = 38 := fun q => absurd (sg_lt (k := k) (ta := ta) (p := p) (by rw [q]; decide)) (by omega)
    rw [jb_196_9, q_188 hst.1 hst.2.1 (by omega), if_neg hno]
    simp only [Option.bind_some, jps]
    rw [jb_196_15]
    rfl
  | succ f ih =>
    intro p o2 I hf hp ho hst
    rw [jb_196_9, q_188 hst.1 hst.2.1 (by omega)]
    unfold chn
    by_cases hch : sg k ta p = 38
    · have hop : opTok 1 (sg k ta p) = some 7 := by rw [hch]; rfl
      have hlt := opTok_lt hop
      rw [if_pos hch, hop]
      simp only [Option.bind_some, jps]
      rw [jb_196_15, jt_2, cond_false]
      obtain ⟨I1, f1, f2, f3⟩ := hsub (p + 1) (o ++ o2) _ hlt (by simp; omega) (sm_next hst)
      dsimp only at f1
      obtain ⟨e1, e2, e3⟩ := hs (p + 1) hlt
      have ff : frP I I1 := fun q j a1 a2 => (f3 q j a1 a2).trans (ju20 (by decide) a1)
      rw [f1]
      simp only [Option.bind_some, jps]
      rw [jb_196_22]
      show ∃ I', _ = some (some (Value.int (if (if (sub (p + 1)).1 = true then chn k ta 1 sub f (sub (p + 1)).2.1 (o2 ++ (sub (p + 1)).2.2 ++ [7]) else (false, (sub (p + 1)).2.1, [])).1 = true then 1 else 0)), jmk I' L c e) ∧ rsM k ta r o (if (sub (p + 1)).1 = true then chn k ta 1 sub f (sub (p + 1)).2.1 (o2 ++ (sub (p + 1)).2.2 ++ [7]) else (false, (sub (p + 1)).2.1, [])) I' ∧ _
      by_cases hb : (sub (p + 1)).1 = true
      · obtain ⟨g1, g2, g3, g4, g5⟩ := e3 hb
        unfold rsM at f2
        rw [if_pos hb] at f2
        obtain ⟨I2, w1, w2, w3⟩ := q_189 (d := d) (L := L) (c := c) (e := e) (t := 7) (x := 7) f2 (by simp; omega) rfl
        rw [if_pos hb, if_pos hb, jt_1, cond_true, w1]
        simp only [Option.bind_some, jps]
        rw [jb_196_33]
        have eq1 : o ++ o2 ++ (sub (p + 1)).2.2 ++ [7] = o ++ (o2 ++ (sub (p + 1)).2.2 ++ [7]) := by simp
        rw [eq1] at w2
        obtain ⟨I3, r1, r2, r3⟩ := ih _ (o2 ++ (sub (p + 1)).2.2 ++ [7]) I2 (by omega) e1 (by simp; omega) w2
        exact ⟨I3, r1, r2, fun q j a1 a2 => (r3 q j a1 a2).trans ((w3 q j a1 a2).trans (ff q j a1 a2))⟩
      · unfold rsM at f2
        rw [if_neg hb] at f2
        rw [if_neg hb, if_neg hb, jt_3, cond_false]
        exact ⟨I1, rfl, f2, ff⟩
    · have hop : opTok 1 (sg k ta p) = none := by
        unfold opTok
        simp [hch]
      rw [if_neg hch, hop]
      simp only [Option.bind_some, jps]
      rw [jb_196_15]
      exact ⟨I, rfl, hst, fun _ _ _ _ => rfl⟩
theorem q_196 (hk : k ≤ 120) (hs : ∀ p, p ≤ k → exOk k p (sub p)) (hsub : isM k ta L c e r sub (fun M => jcl d 196 195 [.ref 58] M)) : isM k ta L c e r (rdL k ta 1 sub) (fun M => jev d 196 [.ref 58] M) := by
  intro p o I hp ho hst
  obtain ⟨I1, f1, f2, f3⟩ := hsub p o I hp ho hst
  dsimp only at f1
  obtain ⟨e1, e2, e3⟩ := hs p hp
  show ∃ I', jev d 196 [.ref 58] (jmk I L c e) = _ ∧ _
  rw [jb_196_0, f1]
  simp only [Option.bind_some, jps]
  rw [jb_196_4]
  unfold rdL
  by_cases hb : (sub p).1 = true
  · obtain ⟨g1, g2, g3, g4, g5⟩ := e3 hb
    unfold rsM at f2
    rw [if_pos hb] at f2
    rw [if_pos hb, if_pos hb, jt_1, cond_true, if_neg (show ¬ 1 = 2 by decide)]
    obtain ⟨I2, r1, r2, r3⟩ := q_196_c hk hs hsub (o := o) 120 (sub p).2.1 (sub p).2.2 I1 (by omega) e1 (by omega) f2
    exact ⟨I2, r1, r2, fun q j a1 a2 => (r3 q j a1 a2).trans (f3 q j a1 a2)⟩
  · unfold rsM at f2
    rw [if_neg hb] at f2
    rw [if_neg hb, if_neg hb, jt_3, cond_false]
    exact ⟨I1, rfl, f2, f3⟩
theorem q_197_c (hk : k ≤ 120) (hs : ∀ p, p ≤ k → exOk k p (sub p)) (hsub : isM k ta L c e r sub (fun M => jcl d 197 196 [.ref 58] M)) {o : List Nat} : ∀ (f p : Nat) (o2 : List Nat) (I : Nat → Nat → Int32), k ≤ p + f → p ≤ k → o.length + o2.length ≤ p → stM k ta r p (o ++ o2) I → ∃ I', jat d 197 9 [.ref 58] [] (jmk I L c e) = some (some (.int (if (chn k ta 0 sub f p o2).1 = true then 1 else 0)), jmk I' L c e) ∧ rsM k ta r o (chn k ta 0 sub f p o2) I' ∧ frP I I' := by
  intro f
  induction f with
  | zero =>
    intro p o2 I hf hp ho hst
    refine ⟨I, ?_, hst, fun _ _ _ _ => rfl⟩
    have hno : ¬ sg k ta p = 124 := fun q => absurd (sg_lt (k := k) (ta := ta) (p := p) (by rw [q]; decide)) (by omega)
    rw [jb_197_9, q_188 hst.1 hst.2.1 (by omega), if_neg hno]
    simp only [Option.bind_some, jps]
    rw [jb_197_15]
    rfl
  | succ f ih =>
    intro p o2 I hf hp ho hst
    rw [jb_197_9, q_188 hst.1 hst.2.1 (by omega)]
    unfold chn
    by_cases hch : sg k ta p = 124
    · have hop : opTok 0 (sg k ta p) = some 6 := by rw [hch]; rfl
      have hlt := opTok_lt hop
      rw [if_pos hch, hop]
      simp only [Option.bind_some, jps]
      rw [jb_197_15, jt_2, cond_false]
      obtain ⟨I1, f1, f2, f3⟩ := hsub (p + 1) (o ++ o2) _ hlt (by simp; omega) (sm_next hst)
      dsimp only at f1
      obtain ⟨e1, e2, e3⟩ := hs (p + 1) hlt
      have ff : frP I I1 := fun q j a1 a2 => (f3 q j a1 a2).trans (ju20 (by decide) a1)
      rw [f1]
      simp only [Option.bind_some, jps]
      rw [jb_197_22]
      show ∃ I', _ = some (some (Value.int (if (if (sub (p + 1)).1 = true then chn k ta 0 sub f (sub (p + 1)).2.1 (o2 ++ (sub (p + 1)).2.2 ++ [6]) else (false, (sub (p + 1)).2.1, [])).1 = true then 1 else 0)), jmk I' L c e) ∧ rsM k ta r o (if (sub (p + 1)).1 = true then chn k ta 0 sub f (sub (p + 1)).2.1 (o2 ++ (sub (p + 1)).2.2 ++ [6]) else (false, (sub (p + 1)).2.1, [])) I' ∧ _
      by_cases hb : (sub (p + 1)).1 = true
      · obtain ⟨g1, g2, g3, g4, g5⟩ := e3 hb
        unfold rsM at f2
        rw [if_pos hb] at f2
        obtain ⟨I2, w1, w2, w3⟩ := q_189 (d := d) (L := L) (c := c) (e := e) (t := 6) (x := 6) f2 (by simp; omega) rfl
        rw [if_pos hb, if_pos hb, jt_1, cond_true, w1]
        simp only [Option.bind_some, jps]
        rw [jb_197_33]
        have eq1 : o ++ o2 ++ (sub (p + 1)).2.2 ++ [6] = o ++ (o2 ++ (sub (p + 1)).2.2 ++ [6]) := by simp
        rw [eq1] at w2
        obtain ⟨I3, r1, r2, r3⟩ := ih _ (o2 ++ (sub (p + 1)).2.2 ++ [6]) I2 (by omega) e1 (by simp; omega) w2
        exact ⟨I3, r1, r2, fun q j a1 a2 => (r3 q j a1 a2).trans ((w3 q j a1 a2).trans (ff q j a1 a2))⟩
      · unfold rsM at f2
        rw [if_neg hb] at f2
        rw [if_neg hb, if_neg hb, jt_3, cond_false]
        exact ⟨I1, rfl, f2, ff⟩
    · have hop : opTok 0 (sg k ta p) = none := by
        unfold opTok
        simp [hch]
      rw [if_neg hch, hop]
      simp only [Option.bind_some, jps]
      rw [jb_197_15]
      exact ⟨I, rfl, hst, fun _ _ _ _ => rfl⟩
theorem q_197 (hk : k ≤ 120) (hs : ∀ p, p ≤ k → exOk k p (sub p)) (hsub : isM k ta L c e r sub (fun M => jcl d 197 196 [.ref 58] M)) : isM k ta L c e r (rdL k ta 0 sub) (fun M => jev d 197 [.ref 58] M) := by
  intro p o I hp ho hst
  obtain ⟨I1, f1, f2, f3⟩ := hsub p o I hp ho hst
  dsimp only at f1
  obtain ⟨e1, e2, e3⟩ := hs p hp
  show ∃ I', jev d 197 [.ref 58] (jmk I L c e) = _ ∧ _
  rw [jb_197_0, f1]
  simp only [Option.bind_some, jps]
  rw [jb_197_4]
  unfold rdL
  by_cases hb : (sub p).1 = true
  · obtain ⟨g1, g2, g3, g4, g5⟩ := e3 hb
    unfold rsM at f2
    rw [if_pos hb] at f2
    rw [if_pos hb, if_pos hb, jt_1, cond_true, if_neg (show ¬ 0 = 2 by decide)]
    obtain ⟨I2, r1, r2, r3⟩ := q_197_c hk hs hsub (o := o) 120 (sub p).2.1 (sub p).2.2 I1 (by omega) e1 (by omega) f2
    exact ⟨I2, r1, r2, fun q j a1 a2 => (r3 q j a1 a2).trans (f3 q j a1 a2)⟩
  · unfold rsM at f2
    rw [if_neg hb] at f2
    rw [if_neg hb, if_neg hb, jt_3, cond_false]
    exact ⟨I1, rfl, f2, f3⟩
/-- an expression, given its operands -/
theorem q_197E (hk : k ≤ 120) (hs : ∀ p, p ≤ k → exOk k p (sub p)) (hsub : isM k ta L c e r sub (fun M => jev d 192 [.ref 58] M)) : isM k ta L c e r (rdE k ta sub) (fun M => jev (d + 5) 197 [.ref 58] M) := by
  have l4 := q_193 (d := d + 1) hk hs hsub
  have s4 : ∀ p, p ≤ k → exOk k p (rdL k ta 4 sub p) := fun p hp => rdL_ok hs hp
  have l3 := q_194 (d := d + 2) hk s4 l4
  have s3 : ∀ p, p ≤ k → exOk k p (rdL k ta 3 (rdL k ta 4 sub) p) := fun p hp => rdL_ok s4 hp
  have l2 := q_195 (d := d + 3) hk s3 l3
  have s2 : ∀ p, p ≤ k → exOk k p (rdL k ta 2 (rdL k ta 3 (rdL k ta 4 sub)) p) := fun p hp => rdL_ok s3 hp
  have l1 := q_196 (d := d + 4) hk s2 l2
  have s1 : ∀ p, p ≤ k → exOk k p (rdL k ta 1 (rdL k ta 2 (rdL k ta 3 (rdL k ta 4 sub))) p) := fun p hp => rdL_ok s2 hp
  exact q_197 (d := d + 5) hk s1 l1
end RDM
