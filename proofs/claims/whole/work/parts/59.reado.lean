/-! the class reads a text: an operand, an expression -/
section RDO
variable {d : Nat} {I I' : Nat → Nat → Int32} {L : Nat → Nat → Int64} {c e : Nat} {x y z : Int32} {k p r lev t f : Nat} {ta : Nat → Int32} {s : Int32} {sub : Nat → aRd} {o : List Int32}
theorem dgN (h : dgt s) : ∃ a, 48 ≤ a ∧ a ≤ 57 ∧ s = nI a ∧ s.toInt.toNat = a := ⟨s.toInt.toNat, by have := h.1; omega, by have := h.2; omega, jnat (by have := h.1; omega), rfl⟩
theorem q_42l (hce : ceOk c e) (hk : k ≤ 120) : ∀ (f j p v : Nat) (I : Nat → Nat → Int32), j + f = 4 → p ≤ k → v < 10 ^ j → stC k ta e p o I → ∃ I' x2, jat d 42 4 [.ref 1, .int (nI v), .int (nI j)] [] (jmk I L c e) = jat d 42 56 [.ref 1, .int (nI (rdN k ta f p v).1), .int x2] [] (jmk I' L c e) ∧ stC k ta e (rdN k ta f p v).2 o I' ∧ ∀ q j, ¬ (q = 1 ∧ j = 7) → I' q j = I q j := by
  intro f
  induction f with
  | zero =>
    intro j p v I hj hp hv hst
    refine ⟨I, nI j, ?_, hst, fun _ _ _ => rfl⟩
    rw [jb_42_4, decide_eq_true (show (4 : Int32) ≤ nI j by show nI 4 ≤ nI j; rw [nI_leI (by omega) (by omega)]; omega), cond_true]
    rfl
  | succ f ih =>
    intro j p v I hj hp hv hst
    rw [jb_42_4, decide_eq_false (show ¬ (4 : Int32) ≤ nI j by show ¬ nI 4 ≤ nI j; rw [nI_leI (by omega) (by omega)]; omega), cond_false, q_43 hst.1 hst.2.1 (by omega)]
    simp only [Option.bind_some, jps]
    rw [jb_42_13, q_43 hst.1 hst.2.1 (by omega)]
    simp only [Option.bind_some, jps]
    rw [jb_42_22, q_43 hst.1 hst.2.1 (by omega)]
    simp only [Option.bind_some, jps, Bool.cond_decide]
    simp only [show (sg k ta p < 48) ↔ (sg k ta p).toInt < 48 from jlt_iff, show (57 < sg k ta p) ↔ 57 < (sg k ta p).toInt from jlt_iff]
    unfold rdN
    by_cases h : dgt (sg k ta p)
    · have hlt := dgt_lt h
      obtain ⟨a, a1, a2, a3, a4⟩ := dgN h
      have hv4 : v < 10000 := Nat.lt_of_lt_of_le hv (Nat.pow_le_pow_right (by decide) (show j ≤ 4 by omega))
      have e1 : nI v * 10 + nI a - 48 = nI (10 * v + a - 48) := by
        rw [jI_lit, jI_lit, pk_mul, nI_add, nI_sub (by omega) (by omega), Nat.mul_comm]
      rw [if_neg (by omega), if_neg (by omega), if_pos h, jb_42_35, a4, a3, e1, nI_1]
      have hv2 : 10 * v + a - 48 < 10 ^ (j + 1) := by
        rw [Nat.pow_succ]
        omega
      obtain ⟨I2, x2, r1, r2, r3⟩ := ih (j + 1) (p + 1) (10 * v + a - 48) _ (by omega) hlt hv2 (st_next hce hst)
      exact ⟨I2, x2, r1, r2, fun q j a1 => (r3 q j a1).trans (ju7 a1)⟩
    · rw [if_neg h]
      refine ⟨I, nI j, ?_, hst, fun _ _ _ => rfl⟩
      by_cases h1 : (sg k ta p).toInt < 48
      · rw [if_pos h1]
      · rw [if_neg h1, if_pos (by omega)]
theorem q_42 (hce : ceOk c e) (hk : k ≤ 120) (hp : p ≤ k) (ho : o.length ≤ p) (hst : stC k ta e p o I) : ∃ I', jev d 42 [.ref 1] (jmk I L c e) = some (none, jmk I' L c e) ∧ stC k ta e (rdN k ta 4 p 0).2 (o ++ [cT (18 + (rdN k ta 4 p 0).1)]) I' ∧ ∀ q j, ¬ (q = 1 ∧ j = 6) → ¬ (q = 1 ∧ j = 7) → q ≠ e → I' q j = I q j := by
  obtain ⟨I1, x2, f1, f2, f3⟩ := q_42l (d := d) (L := L) (c := c) hce hk 4 0 p 0 I (by omega) hp (by decide) hst
  obtain ⟨a1, a2, a3, a4⟩ := rdN_ok (k := k) (ta := ta) 4 p 0 hp
  have e1 : cT (18 + (rdN k ta 4 p 0).1) = nI (rdN k ta 4 p 0).1 := by
    rw [(cT_num (by omega) (by omega)).1]
    congr 1
    omega
  obtain ⟨I2, g1, g2, g3⟩ := q_44s (d := d) (L := L) (x := nI (rdN k ta 4 p 0).1) hce f2 (by omega)
  refine ⟨I2, ?_, by rw [e1]; exact g2, fun q j b1 b2 b3 => (g3 q j b1 b2 b3).trans (f3 q j b2)⟩
  rw [jb_42_0]
  rw [show jat d 42 4 [.ref 1, .int 0, .int 0] [] (jmk I L c e) = _ from f1, jb_42_56, g1]
  simp only [Option.bind_some, jps]
  rw [jb_42_61]
/-- an operand, apart from what is open -/
theorem q_41n (hce : ceOk c e) (hk : k ≤ 120) (hp : p ≤ k) (ho : o.length ≤ p) (hst : stC k ta e p o I) {w : Int32} (h : dgt (sg k ta p)) : ∃ I', jev d 41 [.ref 1, .int w] (jmk I L c e) = some (some (.int 1), jmk I' L c e) ∧ stC k ta e (rdN k ta 4 p 0).2 (o ++ [18 + (rdN k ta 4 p 0).1].map cT) I' ∧ ∀ q j, ¬ (q = 1 ∧ j = 6) → ¬ (q = 1 ∧ j = 7) → q ≠ e → I' q j = I q j := by
  obtain ⟨I2, g1, g2, g3⟩ := q_42 (d := d) (L := L) hce hk hp ho hst
  refine ⟨I2, ?_, g2, g3⟩
  rw [jb_41_0, q_43 hst.1 hst.2.1 (by omega)]
  simp only [Option.bind_some, jps]
  rw [jb_41_4]
  simp only [Bool.cond_decide]
  simp only [show (sg k ta p < 48) ↔ (sg k ta p).toInt < 48 from jlt_iff, show (57 < sg k ta p) ↔ 57 < (sg k ta p).toInt from jlt_iff]
  have h1 := h.1
  have h2 := h.2
  rw [if_neg (by omega), if_neg (by omega), g1]
  simp only [Option.bind_some, jps]
  rw [jb_41_21]
theorem q_41h (hst : stC k ta e p o I) (hk : k ≤ 120) (hp : p ≤ k) {w : Int32} (h : ¬ dgt (sg k ta p)) : jev d 41 [.ref 1, .int w] (jmk I L c e) = jat d 41 27 [.ref 1, .int w, .int (sg k ta p), .null, .null] [.int (match nmO (sg k ta p) with | some t => nI t | none => -1)] (jmk I L c e) := by
  rw [jb_41_0, q_43 hst.1 hst.2.1 (by omega)]
  simp only [Option.bind_some, jps]
  have h23 : jat d 41 23 [.ref 1, .int w, .int (sg k ta p), .null, .null] [] (jmk I L c e) = jat d 41 27 [.ref 1, .int w, .int (sg k ta p), .null, .null] [.int (match nmO (sg k ta p) with | some t => nI t | none => -1)] (jmk I L c e) := by
    rw [jb_41_23, q_45]
    rfl
  rw [jb_41_4]
  simp only [Bool.cond_decide]
  simp only [show (sg k ta p < 48) ↔ (sg k ta p).toInt < 48 from jlt_iff, show (57 < sg k ta p) ↔ 57 < (sg k ta p).toInt from jlt_iff, h23]
  by_cases h1 : (sg k ta p).toInt < 48
  · rw [if_pos h1]
  · rw [if_neg h1, if_pos (by omega)]
theorem q_41m (hce : ceOk c e) (hk : k ≤ 120) (hp : p ≤ k) (ho : o.length ≤ p) (hst : stC k ta e p o I) {w : Int32} (h : ¬ dgt (sg k ta p)) (hn : nmO (sg k ta p) = some t) : ∃ I', jev d 41 [.ref 1, .int w] (jmk I L c e) = some (some (.int 1), jmk I' L c e) ∧ stC k ta e (p + 1) (o ++ [t].map cT) I' ∧ ∀ q j, ¬ (q = 1 ∧ j = 6) → ¬ (q = 1 ∧ j = 7) → q ≠ e → I' q j = I q j := by
  obtain ⟨n1, n2⟩ := nmO_lt hn
  obtain ⟨-, -, c3⟩ := cT_all.1 t n2
  have e1 : (-300 : Int32) - nI t = cT t := by
    have : ∀ t, t < 6 → (-300 : Int32) - nI t = cT t := by decide
    exact this t n2
  obtain ⟨I2, g1, g2, g3⟩ := q_44s (d := d) (L := L) (x := cT t) hce (st_next hce hst) (by omega)
  refine ⟨I2, ?_, g2, fun q j b1 b2 b3 => (g3 q j b1 b2 b3).trans (ju7 b2)⟩
  rw [q_41h hst hk hp h, hn, jb_41_27, decide_eq_false (show ¬ nI t < 0 by rw [jlt_iff, nI_toInt (by omega)]; simp only [Int32.reduceToInt]; omega), cond_false, e1, g1]
  simp only [Option.bind_some, jps]
  rw [jb_41_51]
theorem q_40_5 {dep : Nat} (hsub : isC k ta L c e sub (fun M => jcl d 40 41 [.ref 1, .int (nI dep)] M)) : isC k ta L c e sub (fun M => jev d 40 [.ref 1, .int (nI 5), .int (nI dep)] M) := by
  intro p o I hp ho hst
  obtain ⟨I1, f1, f2, f3⟩ := hsub p o I hp ho hst
  dsimp only at f1
  refine ⟨I1, ?_, f2, f3⟩
  show jev d 40 [.ref 1, .int (nI 5), .int (nI dep)] (jmk I L c e) = _
  rw [jb_40_0, show decide (nI 5 < 5) = false from rfl, cond_false, f1]
  simp only [Option.bind_some, jps]
  rw [jb_40_10, b01, cond_true]
theorem q_40E (hce : ceOk c e) {dep : Nat} (hs : ∀ p, p ≤ k → exOk k p (sub p)) (hsub : isC k ta L c e sub (fun M => jev d 41 [.ref 1, .int (nI dep)] M)) (hk : k ≤ 120) : isC k ta L c e (rdE k ta sub) (fun M => jev (d + 6) 40 [.ref 1, .int (nI 0), .int (nI dep)] M) := by
  have l5 : isC k ta L c e sub (fun M => jev (d + 1) 40 [.ref 1, .int (nI 5), .int (nI dep)] M) := q_40_5 hsub
  have l4 := q_40 (d := d + 2) (lev := 4) hce (by decide) hs l5 hk
  have s4 : ∀ p, p ≤ k → exOk k p (rdL k ta 4 sub p) := fun p hp => rdL_ok hs hp
  have l3 := q_40 (d := d + 3) (lev := 3) hce (by decide) s4 l4 hk
  have s3 : ∀ p, p ≤ k → exOk k p (rdL k ta 3 (rdL k ta 4 sub) p) := fun p hp => rdL_ok s4 hp
  have l2 := q_40 (d := d + 4) (lev := 2) hce (by decide) s3 l3 hk
  have s2 : ∀ p, p ≤ k → exOk k p (rdL k ta 2 (rdL k ta 3 (rdL k ta 4 sub)) p) := fun p hp => rdL_ok s3 hp
  have l1 := q_40 (d := d + 5) (lev := 1) hce (by decide) s2 l2 hk
  have s1 : ∀ p, p ≤ k → exOk k p (rdL k ta 1 (rdL k ta 2 (rdL k ta 3 (rdL k ta 4 sub))) p) := fun p hp => rdL_ok s2 hp
  exact q_40 (d := d + 6) (lev := 0) hce (by decide) s1 l1 hk
theorem q_41u (hce : ceOk c e) (hk : k ≤ 120) (hp : p < k) {w : Int32} {dep : Nat} (hw : (w = 33 ∧ t = 16) ∨ (w = 45 ∧ t = 17)) (hdep : dep < 6) (hs : ∀ p, p ≤ k → exOk k p (sub p)) (hsub : isC k ta L c e sub (fun M => jcl d 41 41 [.ref 1, .int (nI (dep + 1))] M)) (ho : o.length ≤ p) (hst : stC k ta e p o I) : ∃ I', jat d 41 71 [.ref 1, .int (nI dep), .int w, .int (-1), .null] [] (jmk I L c e) = some (some (.int (if (un1 t (sub (p + 1))).1 = true then 1 else 0)), jmk I' L c e) ∧ rsC k ta e o (un1 t (sub (p + 1))) I' ∧ ∀ q j, ¬ (q = 1 ∧ j = 6) → ¬ (q = 1 ∧ j = 7) → q ≠ e → I' q j = I q j := by
  obtain ⟨I1, f1, f2, f3⟩ := hsub (p + 1) o _ hp (by omega) (st_next hce hst)
  dsimp only at f1
  obtain ⟨e1, e2, e3⟩ := hs (p + 1) hp
  have ff : ∀ q j, ¬ (q = 1 ∧ j = 6) → ¬ (q = 1 ∧ j = 7) → q ≠ e → I1 q j = I q j := fun q j a1 a2 a3 => (f3 q j a1 a2 a3).trans (ju7 a2)
  have hw40 : ¬ w = 40 := by rcases hw with ⟨rfl, -⟩ | ⟨rfl, -⟩ <;> decide
  rw [jb_41_71, decide_eq_true (show nI dep < 6 from nI_lt hdep (by decide)), cond_true, decide_eq_true hw40, cond_true, nI_1, f1]
  simp only [Option.bind_some, jps]
  have h167 : ∀ b : Int32, jat d 41 151 [.ref 1, .int (nI dep), .int w, .int (-1), .null] [.int b] (jmk I1 L c e) = jat d 41 167 [.ref 1, .int (nI dep), .int w, .int (-1), .int b] [.int (cT t), .ref 1] (jmk I1 L c e) := by
    intro b
    rw [jb_41_151]
    rcases hw with ⟨rfl, rfl⟩ | ⟨rfl, rfl⟩ <;> rfl
  rw [h167, jb_41_167]
  unfold un1
  by_cases hb : (sub (p + 1)).1 = true
  · obtain ⟨g1, g2, g3, g4, g5⟩ := e3 hb
    rw [if_pos hb, if_pos hb]
    unfold rsC at f2
    rw [if_pos hb] at f2
    obtain ⟨I2, w1, w2, w3⟩ := q_44s (d := d) (L := L) (x := cT t) hce f2 (by simp; omega)
    rw [w1]
    simp only [Option.bind_some, jps]
    rw [jb_41_170, jb_41_172]
    refine ⟨I2, rfl, ?_, fun q j a1 a2 a3 => (w3 q j a1 a2 a3).trans (ff q j a1 a2 a3)⟩
    show stC k ta e (sub (p + 1)).2.1 (o ++ ((sub (p + 1)).2.2 ++ [t]).map cT) I2
    have eq1 : o ++ (sub (p + 1)).2.2.map cT ++ [cT t] = o ++ ((sub (p + 1)).2.2 ++ [t]).map cT := by simp
    rw [← eq1]
    exact w2
  · rw [if_neg hb, if_neg hb]
    unfold rsC at f2
    rw [if_neg hb] at f2
    obtain ⟨I2, w1, w2, w3⟩ := q_44w (d := d) (L := L) (x := cT t) hce f2
    rw [w1]
    simp only [Option.bind_some, jps]
    rw [jb_41_170, jb_41_172]
    exact ⟨I2, rfl, w2, fun q j a1 a2 a3 => (w3 q j a1 a2 a3).trans (ff q j a1 a2 a3)⟩
theorem q_41b (hce : ceOk c e) (hk : k ≤ 120) (hp : p < k) {dep : Nat} (hdep : dep < 6) (hs : ∀ p, p ≤ k → exOk k p (sub p)) (hsub : isC k ta L c e sub (fun M => jcl d 41 40 [.ref 1, .int 0, .int (nI (dep + 1))] M)) (ho : o.length ≤ p) (hst : stC k ta e p o I) : ∃ I', jat d 41 71 [.ref 1, .int (nI dep), .int 40, .int (-1), .null] [] (jmk I L c e) = some (some (.int (if (cl1 k ta (sub (p + 1))).1 = true then 1 else 0)), jmk I' L c e) ∧ rsC k ta e o (cl1 k ta (sub (p + 1))) I' ∧ ∀ q j, ¬ (q = 1 ∧ j = 6) → ¬ (q = 1 ∧ j = 7) → q ≠ e → I' q j = I q j := by
  obtain ⟨I1, f1, f2, f3⟩ := hsub (p + 1) o _ hp (by omega) (st_next hce hst)
  dsimp only at f1
  obtain ⟨e1, e2, e3⟩ := hs (p + 1) hp
  have ff : ∀ q j, ¬ (q = 1 ∧ j = 6) → ¬ (q = 1 ∧ j = 7) → q ≠ e → I1 q j = I q j := fun q j a1 a2 a3 => (f3 q j a1 a2 a3).trans (ju7 a2)
  rw [jb_41_71, decide_eq_true (show nI dep < 6 from nI_lt hdep (by decide)), cond_true, show decide (¬ (40 : Int32) = 40) = false from rfl, cond_false, nI_1, f1]
  simp only [Option.bind_some, jps]
  rw [jb_41_103]
  have h119 : ∀ I2 : Nat → Nat → Int32, jat d 41 119 [.ref 1, .int (nI dep), .int 40, .int (-1), .null] [] (jmk I2 L c e) = some (some (.int 0), jmk (ju I2 1 7 (I2 1 7 + 0)) L c e) := by
    intro I2
    rw [jb_41_119, jb_41_120, jt_4, cond_true, jb_41_143]
    rfl
  have fadd : ∀ {I2 : Nat → Nat → Int32} {p' : Nat}, wkC k ta p' I2 → wkC k ta p' (ju I2 1 7 (I2 1 7 + 0)) := by
    intro I2 p' ⟨⟨h1, h2, h3⟩, h4, h5⟩
    refine ⟨⟨h1, h2, h3⟩, ?_, h5⟩
    rw [ju_get, if_pos ⟨rfl, rfl⟩, h4]
    exact Int32.add_zero _
  unfold cl1
  by_cases hb : (sub (p + 1)).1 = true
  · obtain ⟨g1, g2, g3, g4, g5⟩ := e3 hb
    rw [if_pos hb, if_pos hb]
    unfold rsC at f2
    rw [if_pos hb] at f2
    rw [jt_2, cond_false, q_43 f2.1 f2.2.1 (by omega)]
    simp only [Option.bind_some, jps]
    rw [jb_41_110]
    by_cases h41 : sg k ta (sub (p + 1)).2.1 = 41
    · rw [h41, if_pos rfl, show decide (¬ (41 : Int32) = 41) = false from rfl, cond_false, jb_41_120, jt_2, cond_false, jb_41_143]
      exact ⟨_, rfl, st_next hce f2, fun q j a1 a2 a3 => (ju7 a2).trans (ff q j a1 a2 a3)⟩
    · rw [if_neg h41, decide_eq_true h41, cond_true, h119]
      exact ⟨_, rfl, fadd (st_wk f2 (by simp; omega)), fun q j a1 a2 a3 => (ju7 a2).trans (ff q j a1 a2 a3)⟩
  · rw [if_neg hb, if_neg hb, jt_4, cond_true, h119]
    unfold rsC at f2
    rw [if_neg hb] at f2
    exact ⟨_, rfl, fadd f2, fun q j a1 a2 a3 => (ju7 a2).trans (ff q j a1 a2 a3)⟩
theorem q_41 (hce : ceOk c e) (hk : k ≤ 120) : ∀ r d : Nat, r ≤ 6 → 7 * r ≤ d → isC k ta L c e (rdO k ta r) (fun M => jev d 41 [.ref 1, .int (nI (6 - r))] M) := by
  intro r
  induction r with
  | zero =>
    intro d hr hd p o I hp ho hst
    show ∃ I', jev d 41 [.ref 1, .int (nI (6 - 0))] (jmk I L c e) = _ ∧ _
    unfold rdO
    by_cases hdg : dgt (sg k ta p)
    · rw [if_pos hdg]
      exact q_41n hce hk hp ho hst hdg
    · rw [if_neg hdg]
      cases hn : nmO (sg k ta p) with
      | some t => exact q_41m hce hk hp ho hst hdg hn
      | none =>
        refine ⟨I, ?_, st_wk hst (by omega), fun _ _ _ _ _ => rfl⟩
        have h71 : jat d 41 71 [.ref 1, .int (nI (6 - 0)), .int (sg k ta p), .int (-1), .null] [] (jmk I L c e) = some (some (.int 0), jmk I L c e) := by
          rw [jb_41_71]
          rfl
        rw [q_41h hst hk hp hdg, hn, jb_41_27, show decide ((-1 : Int32) < 0) = true from rfl, cond_true, h71]
        show _ = some (some (Value.int 0), jmk I L c e)
        simp only [Bool.cond_decide]
        repeat' split
        all_goals rfl
  | succ r ih =>
    intro d hr hd p o I hp ho hst
    obtain ⟨d, rfl⟩ : ∃ d1, d = d1 + 7 := ⟨d - 7, by omega⟩
    show ∃ I', jev (d + 7) 41 [.ref 1, .int (nI (6 - (r + 1)))] (jmk I L c e) = _ ∧ _
    unfold rdO
    by_cases hdg : dgt (sg k ta p)
    · rw [if_pos hdg]
      exact q_41n hce hk hp ho hst hdg
    · rw [if_neg hdg]
      cases hn : nmO (sg k ta p) with
      | some t => exact q_41m hce hk hp ho hst hdg hn
      | none =>
        rw [q_41h hst hk hp hdg, hn, jb_41_27, show decide ((-1 : Int32) < 0) = true from rfl, cond_true]
        have hdep : 6 - (r + 1) + 1 = 6 - r := by omega
        show ∃ I', _ = some (some (Value.int (if (if sg k ta p = 33 then un1 16 (rdO k ta r (p + 1)) else if sg k ta p = 45 then un1 17 (rdO k ta r (p + 1)) else if sg k ta p = 40 then cl1 k ta (rdE k ta (rdO k ta r) (p + 1)) else (false, p, [])).1 = true then 1 else 0)), jmk I' L c e) ∧ rsC k ta e o (if sg k ta p = 33 then un1 16 (rdO k ta r (p + 1)) else if sg k ta p = 45 then un1 17 (rdO k ta r (p + 1)) else if sg k ta p = 40 then cl1 k ta (rdE k ta (rdO k ta r) (p + 1)) else (false, p, [])) I' ∧ _
        have iu := ih (d + 6) (by omega) (by omega)
        have ie := ih d (by omega) (by omega)
        have okO : ∀ p, p ≤ k → exOk k p (rdO k ta r p) := rdO_ok r
        by_cases h1 : sg k ta p = 33
        · have hlt := sg_lt (k := k) (ta := ta) (p := p) (by rw [h1]; decide)
          rw [if_pos h1, h1, show decide ((33 : Int32) = 40) = false from rfl, cond_false, show decide ((33 : Int32) = 33) = true from rfl, cond_true]
          exact q_41u (t := 16) hce hk hlt (Or.inl ⟨rfl, rfl⟩) (by omega) okO (by rw [hdep]; exact iu) ho hst
        · rw [if_neg h1]
          by_cases h2 : sg k ta p = 45
          · have hlt := sg_lt (k := k) (ta := ta) (p := p) (by rw [h2]; decide)
            rw [if_pos h2, h2, show decide ((45 : Int32) = 40) = false from rfl, cond_false, show decide ((45 : Int32) = 33) = false from rfl, cond_false, show decide (¬ (45 : Int32) = 45) = false from rfl, cond_false]
            exact q_41u (t := 17) hce hk hlt (Or.inr ⟨rfl, rfl⟩) (by omega) okO (by rw [hdep]; exact iu) ho hst
          · rw [if_neg h2]
            by_cases h3 : sg k ta p = 40
            · have hlt := sg_lt (k := k) (ta := ta) (p := p) (by rw [h3]; decide)
              rw [if_pos h3, h3, show decide ((40 : Int32) = 40) = true from rfl, cond_true]
              exact q_41b hce hk hlt (by omega) (fun p hp => rdE_ok okO hp) (by rw [hdep]; exact q_40E hce okO ie hk) ho hst
            · rw [if_neg h3, decide_eq_false h3, cond_false, decide_eq_false h1, cond_false, decide_eq_true h2, cond_true]
              exact ⟨I, rfl, st_wk hst (by omega), fun _ _ _ _ _ => rfl⟩
end RDO
