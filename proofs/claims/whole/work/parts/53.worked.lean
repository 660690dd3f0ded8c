/-! the class works the law out -/
section WRK
variable {d : Nat} {I I' : Nat → Nat → Int32} {L : Nat → Nat → Int64} {c e : Nat} {x y z : Int32} {env : Nat → Int32} {p i k k' t : Nat} {s : List Int32}
theorem jb_47_0 (hce : ceOk c e) : jev d 47 [.ref 1] (jmk I L c e) = jat d 47 9 [.ref 1, .int 0, .int 0, .null] [] (jmk (ju I 1 8 0) L c e) := by
  rcases hce with ⟨rfl, rfl⟩ | ⟨rfl, rfl⟩
  · exact jb_47_0a ..
  · exact jb_47_0b ..
theorem jb_47_9 (hce : ceOk c e) {x1 x2 : Int32} {v3 : Value} : jat d 47 9 [.ref 1, .int x1, .int x2, v3] [] (jmk I L c e) = bif decide ((I 1 5) ≤ x2) then some (some (.int 0), (jmk I L c e)) else bif decide (jin x2 121) then bif decide (x1 = 0) then bif decide (¬ (I c x2.toNatClampNeg) = (-1)) then bif decide (¬ (I c x2.toNatClampNeg) = (-2)) then (jev d 48 [.ref 1, .int (I c x2.toNatClampNeg)] (jmk I L c e)).bind fun r => jat d 47 79 [.ref 1, .int x1, .int x2, .int (I c x2.toNatClampNeg)] (jps r.1 []) r.2 else (jev d 51 [.ref 1] (jmk I L c e)).bind fun r => jat d 47 62 [.ref 1, .int x1, .int x2, .int (I c x2.toNatClampNeg)] (jps r.1 []) r.2 else (jev d 51 [.ref 1] (jmk I L c e)).bind fun r => jat d 47 51 [.ref 1, .int x1, .int x2, .int (I c x2.toNatClampNeg)] (jps r.1 []) r.2 else bif decide ((I c x2.toNatClampNeg) = (-1)) then jat d 47 79 [.ref 1, .int 0, .int x2, .int (I c x2.toNatClampNeg)] [] (jmk I L c e) else jat d 47 79 [.ref 1, .int 1, .int x2, .int (I c x2.toNatClampNeg)] [] (jmk I L c e) else none := by
  rcases hce with ⟨rfl, rfl⟩ | ⟨rfl, rfl⟩
  · exact jb_47_9a ..
  · exact jb_47_9b ..
theorem jb_47_51 (hce : ceOk c e) {x1 x2 x3 s0 : Int32} : jat d 47 51 [.ref 1, .int x1, .int x2, .int x3] [.int s0] (jmk I L c e) = some (some (.int s0), (jmk I L c e)) := by
  rcases hce with ⟨rfl, rfl⟩ | ⟨rfl, rfl⟩
  · exact jb_47_51a ..
  · exact jb_47_51b ..
theorem jb_47_62 (hce : ceOk c e) {x1 x2 x3 s0 : Int32} : jat d 47 62 [.ref 1, .int x1, .int x2, .int x3] [.int s0] (jmk I L c e) = bif decide (¬ s0 = 0) then jat d 47 79 [.ref 1, .int 0, .int x2, .int x3] [] (jmk I L c e) else jat d 47 79 [.ref 1, .int 1, .int x2, .int x3] [] (jmk I L c e) := by
  rcases hce with ⟨rfl, rfl⟩ | ⟨rfl, rfl⟩
  · exact jb_47_62a ..
  · exact jb_47_62b ..
theorem jb_47_79 (hce : ceOk c e) {x1 x2 x3 : Int32} : jat d 47 79 [.ref 1, .int x1, .int x2, .int x3] [] (jmk I L c e) = jat d 47 9 [.ref 1, .int x1, .int (x2 + 1), .int x3] [] (jmk I L c e) := by
  rcases hce with ⟨rfl, rfl⟩ | ⟨rfl, rfl⟩
  · exact jb_47_79a ..
  · exact jb_47_79b ..
theorem ce_lt (hce : ceOk c e) : c = 5 ∨ c = 6 := by
  rcases hce with ⟨h, -⟩ | ⟨h, -⟩
  · exact Or.inl h
  · exact Or.inr h
/-- a run of codes -/
theorem q_47s (hce : ceOk c e) {m : Nat} (hm : m ≤ 121) : ∀ (l : List Nat) (i k : Nat) (s : List Int32) (I : Nat → Nat → Int32) (v3 : Value), wfF l k = some k' → (∀ t, t ∈ l → t < 10018) → cdAt c I i (l.map cT) → s.length = k → stR 3 I s → I 1 8 = nI k → I 1 5 = nI m → (∀ i, i < 6 → I 4 i = env i) → k + l.length ≤ 120 → i + l.length < m → ∃ I' v3', jat d 47 9 [.ref 1, .int 0, .int (nI i), v3] [] (jmk I L c e) = jat d 47 9 [.ref 1, .int 0, .int (nI (i + l.length)), v3'] [] (jmk I' L c e) ∧ (evL env l s).length = k' ∧ stR 3 I' (evL env l s) ∧ I' 1 8 = nI k' ∧ ∀ q j, ¬ (q = 1 ∧ j = 8) → q ≠ 3 → I' q j = I q j := by
  intro l
  induction l with
  | nil =>
    intro i k s I v3 hw _ _ hl hs ht _ _ _ _
    cases hw
    exact ⟨I, v3, rfl, hl, hs, ht, fun _ _ _ _ => rfl⟩
  | cons t l ih =>
    intro i k s I v3 hw h10 hc hl hs ht h5 hn hk hi
    rw [List.length_cons] at hk hi
    obtain ⟨hc1, hc2⟩ := hc
    have ht10 := h10 t (List.mem_cons_self ..)
    obtain ⟨n1, n2⟩ := cT_not ht10
    have hw : (dpt k t).bind (wfF l) = some k' := hw
    cases hd : dpt k t with
    | none => rw [hd] at hw; cases hw
    | some k1 =>
      rw [hd] at hw
      have hw : wfF l k1 = some k' := hw
      have hk1 : k1 ≤ k + 1 := by
        unfold dpt at hd
        split at hd
        · cases hd; exact Nat.le_refl _
        · split at hd
          · split at hd
            · cases hd; omega
            · cases hd
          · split at hd
            · cases hd; omega
            · cases hd
      obtain ⟨I1, f1, f2, f3, f4, f5⟩ := q_48 (d := d) (L := L) (c := c) (e := e) ht10 hd hl (by omega) hs ht hn
      have hcc := ce_lt hce
      obtain ⟨I2, v2, g1, g2, g3, g4, g5⟩ := ih (i + 1) k1 _ I1 (.int (cT t)) hw (fun u hu => h10 u (List.mem_cons_of_mem _ hu)) (cdAt_fr (fun j _ _ => f5 c j (by omega) (by omega)) hc2) f2 f3 f4 ((f5 1 5 (by omega) (by omega)).trans h5) (fun j hj => (f5 4 j (by omega) (by omega)).trans (hn j hj)) (by omega) (by omega)
      refine ⟨I2, v2, ?_, g2, g3, g4, fun q j h1 h2 => (g5 q j h1 h2).trans (f5 q j h1 h2)⟩
      rw [jb_47_9 hce, h5, decide_eq_false (by rw [nI_leI (by omega) (by omega)]; omega), cond_false, jdI (by omega), cond_true, jcl' (by omega), hc1, jt_4, cond_true, decide_eq_true n1, cond_true, decide_eq_true n2, cond_true, f1]
      simp only [Option.bind_some, jps]
      rw [jb_47_79 hce, nI_1, g1, List.length_cons, show i + (l.length + 1) = i + 1 + l.length by omega]
/-- codes passed over -/
theorem q_47p (hce : ceOk c e) {m : Nat} (hm : m ≤ 121) (h5 : I 1 5 = nI m) : ∀ (l : List Nat) (i : Nat) (v3 : Value), (∀ t, t ∈ l → t < 10018) → cdAt c I i (l.map cT) → i + l.length < m → ∃ v3', jat d 47 9 [.ref 1, .int 1, .int (nI i), v3] [] (jmk I L c e) = jat d 47 9 [.ref 1, .int 1, .int (nI (i + l.length)), v3'] [] (jmk I L c e) := by
  intro l
  induction l with
  | nil => intro i v3 _ _ _; exact ⟨v3, rfl⟩
  | cons t l ih =>
    intro i v3 h10 hc hi
    rw [List.length_cons] at hi
    obtain ⟨hc1, hc2⟩ := hc
    obtain ⟨n1, n2⟩ := cT_not (h10 t (List.mem_cons_self ..))
    obtain ⟨v2, g1⟩ := ih (i + 1) (.int (cT t)) (fun u hu => h10 u (List.mem_cons_of_mem _ hu)) hc2 (by omega)
    refine ⟨v2, ?_⟩
    rw [jb_47_9 hce, h5, decide_eq_false (by rw [nI_leI (by omega) (by omega)]; omega), cond_false, jdI (by omega), cond_true, jcl' (by omega), hc1, jt_2, cond_false, decide_eq_false n1, cond_false, jb_47_79 hce, nI_1, g1, List.length_cons, show i + (l.length + 1) = i + 1 + l.length by omega]
theorem fC_len {a b : List Nat} {r : List aLn} : (fC ((a, b) :: r)).length = (if a = [] then 0 else a.length + 1) + b.length + 1 + (fC r).length := by
  show ((if a = [] then [] else a.map cT ++ [-2]) ++ (b.map cT ++ (-1 :: fC r))).length = _
  by_cases h : a = []
  · simp [h]; omega
  · simp [h]; omega
theorem q_47w (hce : ceOk c e) {m : Nat} (hm : m ≤ 121) : ∀ (lw : List aLn) (i : Nat) (I : Nat → Nat → Int32) (v3 : Value), (∀ x, x ∈ lw → lnOk x) → cdAt c I i (fC lw) → i + (fC lw).length = m → I 1 5 = nI m → I 1 8 = nI 0 → (∀ i, i < 6 → I 4 i = env i) → ∃ I', jat d 47 9 [.ref 1, .int 0, .int (nI i), v3] [] (jmk I L c e) = some (some (.int (secL env lw)), jmk I' L c e) ∧ ∀ q j, ¬ (q = 1 ∧ j = 8) → q ≠ 3 → I' q j = I q j := by
  intro lw
  induction lw with
  | nil =>
    intro i I v3 _ _ hi h5 _ _
    have hi : i = m := hi
    subst hi
    refine ⟨I, ?_, fun _ _ _ _ => rfl⟩
    rw [jb_47_9 hce, h5, decide_eq_true (by rw [nI_leI (by omega) (by omega)]; exact Nat.le_refl i), cond_true]
    rfl
  | cons x r ih =>
    obtain ⟨a, b⟩ := x
    intro i I v3 hok hc hi h5 h8 hn
    have hcc := ce_lt hce
    obtain ⟨o1, o2, o3, o4⟩ := hok (a, b) (List.mem_cons_self ..)
    have hokr : ∀ x, x ∈ r → lnOk x := fun x hx => hok x (List.mem_cons_of_mem _ hx)
    rw [fC_len] at hi
    have hsay : ∀ (i : Nat) (I1 : Nat → Nat → Int32) (v : Value), cdAt c I1 i (b.map cT ++ (-1 :: fC r)) → i + b.length + 1 + (fC r).length = m → I1 1 5 = nI m → I1 1 8 = nI 0 → (∀ i, i < 6 → I1 4 i = env i) → ∃ I', jat d 47 9 [.ref 1, .int 0, .int (nI i), v] [] (jmk I1 L c e) = some (some (.int (tp (evL env b []))), jmk I' L c e) ∧ ∀ q j, ¬ (q = 1 ∧ j = 8) → q ≠ 3 → I' q j = I1 q j := by
      intro i I1 v hc hi h5 h8 hn
      obtain ⟨hc1, hc2⟩ := cdAt_app.mp hc
      rw [List.length_map] at hc2
      obtain ⟨I2, v2, g1, g2, g3, g4, g5⟩ := q_47s (d := d) (L := L) hce hm b i 0 [] I1 v o2 o4 hc1 rfl trivial h8 h5 hn (by omega) (by omega)
      have hc3 : I2 c (i + b.length) = -1 := (g5 c _ (by omega) (by omega)).trans hc2.1
      have h52 : I2 1 5 = nI m := (g5 1 5 (by omega) (by omega)).trans h5
      refine ⟨ju I2 1 8 (nI 0), ?_, fun q j h1 h2 => by rw [ju_get, if_neg h1]; exact g5 q j h1 h2⟩
      rw [g1, jb_47_9 hce, h52, decide_eq_false (by rw [nI_leI (by omega) (by omega)]; omega), cond_false, jdI (by omega), cond_true, jcl' (by omega), hc3, jt_4, cond_true, show decide (¬ (-1 : Int32) = -1) = false from rfl, cond_false, q_51 (k := 0) g4 (by omega)]
      simp only [Option.bind_some, jps]
      rw [jb_47_51 hce]
      obtain ⟨w, hw⟩ := List.length_eq_one_iff.mp g2
      rw [hw] at g3 ⊢
      rw [show I2 3 0 = w from g3.1]
      rfl
    unfold fC at hc
    by_cases ha : a = []
    · rw [if_pos ha] at hc hi
      obtain ⟨I', f1, f2⟩ := hsay i I v3 hc (by omega) h5 h8 hn
      refine ⟨I', ?_, f2⟩
      rw [f1]
      unfold secL
      rw [if_neg (fun q => q.1 ha)]
    · rw [if_neg ha] at hc hi
      obtain ⟨hc1, hc2⟩ := cdAt_app.mp hc
      obtain ⟨hc1, hc3⟩ := cdAt_app.mp hc1
      rw [List.length_append, List.length_map] at hc2
      rw [List.length_map] at hc3
      obtain ⟨I2, v2, g1, g2, g3, g4, g5⟩ := q_47s (d := d) (L := L) hce hm a i 0 [] I v3 (o1.resolve_left ha) o3 hc1 rfl trivial h8 h5 hn (by omega) (by omega)
      have hc4 : I2 c (i + a.length) = -2 := (g5 c _ (by omega) (by omega)).trans hc3.1
      have h52 : I2 1 5 = nI m := (g5 1 5 (by omega) (by omega)).trans h5
      obtain ⟨w, hw1⟩ := List.length_eq_one_iff.mp g2
      rw [hw1] at g3
      have hw2 : I2 3 0 = w := g3.1
      have hc2' : cdAt c (ju I2 1 8 (nI 0)) (i + a.length + 1) (b.map cT ++ (-1 :: fC r)) := by
        refine cdAt_fr (fun j _ _ => ?_) hc2
        rw [ju_get, if_neg (by omega)]
        exact g5 c j (by omega) (by omega)
      have h53 : ju I2 1 8 (nI 0) 1 5 = nI m := h52
      have hn3 : ∀ i, i < 6 → ju I2 1 8 (nI 0) 4 i = env i := fun i hi => ((g5 4 i (by omega) (by omega))).trans (hn i hi)
      have hstep : jat d 47 9 [.ref 1, .int 0, .int (nI i), v3] [] (jmk I L c e) = if w = 0 then jat d 47 9 [.ref 1, .int 1, .int (nI (i + a.length + 1)), .int (-2)] [] (jmk (ju I2 1 8 (nI 0)) L c e) else jat d 47 9 [.ref 1, .int 0, .int (nI (i + a.length + 1)), .int (-2)] [] (jmk (ju I2 1 8 (nI 0)) L c e) := by
        rw [g1, jb_47_9 hce, h52, decide_eq_false (by rw [nI_leI (by omega) (by omega)]; omega), cond_false, jdI (by omega), cond_true, jcl' (by omega), hc4, jt_4, cond_true, show decide (¬ (-2 : Int32) = -1) = true from rfl, cond_true, show decide (¬ (-2 : Int32) = -2) = false from rfl, cond_false, q_51 (k := 0) g4 (by omega), hw2]
        simp only [Option.bind_some, jps]
        rw [jb_47_62 hce, jb_47_79 hce, jb_47_79 hce, nI_1]
        by_cases h0 : w = 0
        · rw [if_pos h0, h0]
          rfl
        · rw [if_neg h0, decide_eq_true h0]
          rfl
      have hfr : ∀ {I' : Nat → Nat → Int32}, (∀ q j, ¬ (q = 1 ∧ j = 8) → q ≠ 3 → I' q j = ju I2 1 8 (nI 0) q j) → ∀ q j, ¬ (q = 1 ∧ j = 8) → q ≠ 3 → I' q j = I q j := by
        intro I' f q j h1 h2
        rw [f q j h1 h2, ju_get, if_neg h1]
        exact g5 q j h1 h2
      rw [hstep]
      unfold secL
      by_cases h0 : w = 0
      · have hand : a ≠ [] ∧ tp (evL env a []) = 0 := ⟨ha, by rw [hw1]; exact h0⟩
        rw [if_pos h0, if_pos hand]
        obtain ⟨hb1, hb2⟩ := cdAt_app.mp hc2'
        rw [List.length_map] at hb2
        obtain ⟨v4, p1⟩ := q_47p (d := d) (L := L) hce hm h53 b (i + a.length + 1) (.int (-2)) o4 hb1 (by omega)
        obtain ⟨I', f1, f2⟩ := ih (i + a.length + 1 + b.length + 1) (ju I2 1 8 (nI 0)) (.int (-1)) hokr hb2.2 (by omega) h53 rfl hn3
        refine ⟨I', ?_, hfr f2⟩
        rw [p1, jb_47_9 hce, h53, decide_eq_false (by rw [nI_leI (by omega) (by omega)]; omega), cond_false, jdI (by omega), cond_true, jcl' (by omega), hb2.1, jt_2, cond_false, show decide ((-1 : Int32) = -1) = true from rfl, cond_true, jb_47_79 hce, nI_1, f1]
      · have hand : ¬ (a ≠ [] ∧ tp (evL env a []) = 0) := fun q => h0 (by have := q.2; rw [hw1] at this; exact this)
        rw [if_neg h0, if_neg hand]
        obtain ⟨I', f1, f2⟩ := hsay (i + a.length + 1) (ju I2 1 8 (nI 0)) (.int (-2)) hc2' (by omega) h53 rfl hn3
        exact ⟨I', f1, hfr f2⟩
end WRK
