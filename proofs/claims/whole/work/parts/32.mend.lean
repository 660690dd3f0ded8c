/-! changes: mend, undo, redo; of -/
abbrev aCh : Type := Nat × Nat × Nat × Nat
def chC (k a : Nat) (ch : Nat → aCh) (I : Nat → Nat → Int32) : Prop := I 32 4 = nI k ∧ I 32 5 = nI a ∧ ∀ i, i < a → I 33 i = nI (ch i).1 ∧ I 34 i = nI (ch i).2.1 ∧ I 35 i = nI (ch i).2.2.1 ∧ I 36 i = nI (ch i).2.2.2
def chM (k a : Nat) (ch : Nat → aCh) (I : Nat → Nat → Int32) : Prop := I 58 37 = nI k ∧ I 58 36 = nI a ∧ ∀ i, i < a → I 82 (4 * i) = nI (ch i).1 ∧ I 82 (4 * i + 1) = nI (ch i).2.1 ∧ I 82 (4 * i + 2) = nI (ch i).2.2.1 ∧ I 82 (4 * i + 3) = nI (ch i).2.2.2
def chOk (n m : Nat) (v : Nat → aMv) (k a : Nat) (ch : Nat → aCh) : Prop := k ≤ a ∧ a ≤ 40 ∧ ∀ i, i < a → isN n m (ch i).1 (ch i).2.1 ∧ fitN v (ch i).1 (ch i).2.1 (ch i).2.2.1 ∧ fitN v (ch i).1 (ch i).2.1 (ch i).2.2.2
def chAdd (k : Nat) (ch : Nat → aCh) (x : aCh) : Nat → aCh := if k < 40 then (fun i => if i = k then x else ch i) else (fun i => if i = 39 then x else ch (i + 1))
def chN (k : Nat) : Nat := if k < 40 then k + 1 else 40
section CHG
variable {d : Nat} {I : Nat → Nat → Int32} {L : Nat → Nat → Int64} {c e : Nat} {n m i j z k a o : Nat} {v : Nat → aMv} {pe : Nat → aPe} {D : Nat → Int32} {ch : Nat → aCh}
theorem chAdd_ok (h : chOk n m v k a ch) {x : aCh} (h1 : isN n m x.1 x.2.1) (h2 : fitN v x.1 x.2.1 x.2.2.1) (h3 : fitN v x.1 x.2.1 x.2.2.2) : chOk n m v (chN k) (chN k) (chAdd k ch x) := by
  obtain ⟨a1, a2, a3⟩ := h
  refine ⟨Nat.le_refl _, by unfold chN; split <;> omega, fun i hi => ?_⟩
  unfold chN at hi
  unfold chAdd
  by_cases hk : k < 40
  · rw [if_pos hk] at hi ⊢
    show isN n m (if i = k then x else ch i).1 (if i = k then x else ch i).2.1 ∧ fitN v (if i = k then x else ch i).1 (if i = k then x else ch i).2.1 (if i = k then x else ch i).2.2.1 ∧ fitN v (if i = k then x else ch i).1 (if i = k then x else ch i).2.1 (if i = k then x else ch i).2.2.2
    by_cases q : i = k
    · rw [if_pos q]; exact ⟨h1, h2, h3⟩
    · rw [if_neg q]; exact a3 i (by omega)
  · rw [if_neg hk] at hi ⊢
    show isN n m (if i = 39 then x else ch (i + 1)).1 (if i = 39 then x else ch (i + 1)).2.1 ∧ fitN v (if i = 39 then x else ch (i + 1)).1 (if i = 39 then x else ch (i + 1)).2.1 (if i = 39 then x else ch (i + 1)).2.2.1 ∧ fitN v (if i = 39 then x else ch (i + 1)).1 (if i = 39 then x else ch (i + 1)).2.1 (if i = 39 then x else ch (i + 1)).2.2.2
    by_cases q : i = 39
    · rw [if_pos q]; exact ⟨h1, h2, h3⟩
    · rw [if_neg q]; exact a3 (i + 1) (by omega)
theorem ch_mset (h : chOk n m v k a ch) : chOk n m (mset v i j z) k a ch := by
  obtain ⟨a1, a2, a3⟩ := h
  have e1 : ∀ x, (mset v i j z x).1 = (v x).1 := by
    intro x
    unfold mset
    repeat' split
    all_goals rfl
  refine ⟨a1, a2, fun x hx => ?_⟩
  unfold fitN
  rw [e1]
  exact a3 x hx
theorem q_24 : jev d 24 [.ref 32] (jmk I L c e) = some (none, jmk (ju (jcp (jcp (jcp (jcp I 33 33 1 0 39) 34 34 1 0 39) 35 35 1 0 39) 36 36 1 0 39) 32 4 39) L c e) := by
  rw [jb_24_0]
  rfl
theorem q_21a (hk : k < 40) (h1 : I 32 4 = nI k) {x y z w : Int32} : jat d 21 13 [.ref 32, .int x, .int y, .int z, .int w] [] (jmk I L c e) = some (none, jmk (ju (ju (ju (ju (ju (ju I 33 k x) 34 k y) 35 k z) 36 k w) 32 4 (nI (k + 1))) 32 5 (nI (k + 1))) L c e) := by
  rw [jb_21_13, h1, jdI hk, jcl' (by omega), nI_1]
  rfl
theorem c_came (h : chOk n m v k a ch) (hc : chC k a ch I) {x : aCh} : ∃ I', jev d 21 [.ref 32, .int (nI x.1), .int (nI x.2.1), .int (nI x.2.2.1), .int (nI x.2.2.2)] (jmk I L c e) = some (none, jmk I' L c e) ∧ chC (chN k) (chN k) (chAdd k ch x) I' ∧ ∀ q j, ¬ (q = 32 ∧ (j = 4 ∨ j = 5)) → (q < 33 ∨ 36 < q) → I' q j = I q j := by
  obtain ⟨a1, a2, a3⟩ := h
  obtain ⟨b1, b2, b3⟩ := hc
  unfold chN chAdd
  by_cases hk : k < 40
  · rw [if_pos hk, if_pos hk, jb_21_0, b1, decide_eq_true (show nI k < 40 from nI_lt hk (by decide)), cond_true, q_21a hk b1]
    refine ⟨_, rfl, ⟨rfl, rfl, fun i hi => ?_⟩, fun q j h1 h2 => ?_⟩
    · simp only [ju_get]
      by_cases q : i = k
      · subst q; simp
      · simpa [q] using b3 i (by omega)
    · simp only [ju_get]
      rw [if_neg (by omega), if_neg (by omega), if_neg (by omega), if_neg (by omega), if_neg (by omega), if_neg (by omega)]
  · have hk40 : k = 40 := by omega
    have ha40 : a = 40 := by omega
    subst hk40
    subst ha40
    have h39 : ∀ J : Nat → Nat → Int32, ju J 32 4 39 32 4 = nI 39 := fun _ => rfl
    rw [if_neg hk, if_neg hk, jb_21_0, b1, show decide (nI 40 < 40) = false from rfl, cond_false, q_24]
    simp only [Option.bind_some, jps]
    rw [q_21a (k := 39) (by omega) (h39 _)]
    refine ⟨_, rfl, ⟨rfl, rfl, fun i hi => ?_⟩, fun q j h1 h2 => ?_⟩
    · simp only [ju_get, jcp_get]
      by_cases q : i = 39
      · subst q; simp
      · have := b3 (i + 1) (by omega)
        have hlt : i < 39 := by omega
        simpa [q, hlt, Nat.add_comm] using this
    · simp only [ju_get, jcp_get]
      have r1 : q ≠ 33 := by omega
      have r2 : q ≠ 34 := by omega
      have r3 : q ≠ 35 := by omega
      have r4 : q ≠ 36 := by omega
      rw [if_neg (by omega), if_neg (by omega), if_neg (by omega), if_neg (by omega), if_neg (by omega), if_neg (by omega), if_neg (by omega)]
      simp [r1, r2, r3, r4]
/-- the reference's changes, shifted as far as k -/
def shI (I : Nat → Nat → Int32) (k : Nat) : Nat → Nat → Int32 := fun q j => if q = 82 ∧ j < k then I 82 (j + 4) else I q j
theorem q_182b (hk : k < 40) (h1 : I 58 37 = nI k) {x y z w : Int32} {u : Value} : jat d 182 97 [.ref 58, .int x, .int y, .int w, .int z, u] [] (jmk I L c e) = some (some (.int z), jmk (ju (ju (ju (ju (ju (ju I 82 (4 * k) x) 82 (4 * k + 1) y) 82 (4 * k + 2) z) 82 (4 * k + 3) w) 58 37 (nI (k + 1))) 58 36 (nI (k + 1))) L c e) := by
  have e0 : 4 * nI k = nI (4 * k) := by rw [jI_lit, pk_mul]
  have e1 : nI (4 * k) + 1 = nI (4 * k + 1) := nI_1 _
  have e2 : nI (4 * k) + 2 = nI (4 * k + 2) := by rw [jI_lit, nI_add]
  have e3 : nI (4 * k) + 3 = nI (4 * k + 3) := by rw [jI_lit, nI_add]
  rw [jb_182_97, h1, e0, e1, e2, e3, jdI (by omega), jdI (by omega), jdI (by omega), jdI (by omega), jcl' (by omega), jcl' (by omega), jcl' (by omega), jcl' (by omega), nI_1]
  rfl
theorem m_came (h : chOk n m v k a ch) (hc : chM k a ch I) {x : aCh} : ∃ I', jat d 182 45 [.ref 58, .int (nI x.1), .int (nI x.2.1), .int (nI x.2.2.2), .int (nI x.2.2.1), .null] [] (jmk I L c e) = some (some (.int (nI x.2.2.1)), jmk I' L c e) ∧ chM (chN k) (chN k) (chAdd k ch x) I' ∧ ∀ q j, ¬ (q = 58 ∧ (j = 36 ∨ j = 37)) → q ≠ 82 → I' q j = I q j := by
  obtain ⟨a1, a2, a3⟩ := h
  obtain ⟨b1, b2, b3⟩ := hc
  unfold chN chAdd
  by_cases hk : k < 40
  · rw [if_pos hk, if_pos hk, jb_182_45, b1, decide_eq_true (by rw [jI_lit, nI_eq (by omega) (by decide)]; omega), cond_true, q_182b hk b1]
    refine ⟨_, rfl, ⟨rfl, rfl, fun i hi => ?_⟩, fun q j h1 h2 => ?_⟩
    · simp only [ju_get]
      by_cases q : i = k
      · subst q
        simp [show 4 * i ≠ 4 * i + 1 by omega, show 4 * i ≠ 4 * i + 2 by omega, show 4 * i ≠ 4 * i + 3 by omega]
      · have := b3 i (by omega)
        simpa [q, show ¬ (4 * i = 4 * k + 1) by omega, show ¬ (4 * i = 4 * k + 2) by omega, show ¬ (4 * i = 4 * k + 3) by omega, show ¬ (4 * i + 1 = 4 * k) by omega, show ¬ (4 * i + 1 = 4 * k + 2) by omega, show ¬ (4 * i + 1 = 4 * k + 3) by omega, show ¬ (4 * i + 2 = 4 * k) by omega, show ¬ (4 * i + 2 = 4 * k + 1) by omega, show ¬ (4 * i + 2 = 4 * k + 3) by omega, show ¬ (4 * i + 3 = 4 * k) by omega, show ¬ (4 * i + 3 = 4 * k + 1) by omega, show ¬ (4 * i + 3 = 4 * k + 2) by omega, show ¬ (4 * i = 4 * k) by omega] using this
    · simp only [ju_get]
      rw [if_neg (by omega), if_neg (by omega), if_neg (by omega), if_neg (by omega), if_neg (by omega), if_neg (by omega)]
  · have hk40 : k = 40 := by omega
    have ha40 : a = 40 := by omega
    subst hk40
    subst ha40
    rw [if_neg hk, if_neg hk, jb_182_45, b1, show decide (¬ nI 40 = 40) = false from rfl, cond_false]
    have key : jat d 182 57 [.ref 58, .int (nI x.1), .int (nI x.2.1), .int (nI x.2.2.2), .int (nI x.2.2.1), .int (nI 0)] [] (jmk (shI I 0) L c e) = jat d 182 57 [.ref 58, .int (nI x.1), .int (nI x.2.1), .int (nI x.2.2.2), .int (nI x.2.2.1), .int (nI 156)] [] (jmk (shI I 156) L c e) := jloop (N := 156) (fun t => jat d 182 57 [.ref 58, .int (nI x.1), .int (nI x.2.1), .int (nI x.2.2.2), .int (nI x.2.2.1), .int (nI t)] [] (jmk (shI I t) L c e)) (fun t ht => by
      show jat d 182 57 [.ref 58, .int (nI x.1), .int (nI x.2.1), .int (nI x.2.2.2), .int (nI x.2.2.1), .int (nI t)] [] (jmk (shI I t) L c e) = jat d 182 57 [.ref 58, .int (nI x.1), .int (nI x.2.1), .int (nI x.2.2.2), .int (nI x.2.2.1), .int (nI (t + 1))] [] (jmk (shI I (t + 1)) L c e)
      have e4 : nI t + 4 = nI (t + 4) := by rw [jI_lit, nI_add]
      rw [jb_182_57, decide_eq_false (by rw [jI_lit, nI_leI (by omega) (by omega)]; omega), cond_false, e4, jdI (by omega), cond_true, jdI (by omega), cond_true, jcl' (by omega), jcl' (by omega), nI_1]
      congr 2
      funext q j
      unfold ju shI
      by_cases hq : q = 82
      · subst hq
        by_cases hj : j = t
        · subst hj
          rw [if_pos ⟨rfl, rfl⟩, if_neg (by omega), if_pos ⟨rfl, by omega⟩]
        · rw [if_neg (fun q => hj q.2)]
          by_cases hr : j < t
          · rw [if_pos ⟨rfl, hr⟩, if_pos ⟨rfl, by omega⟩]
          · rw [if_neg (fun q => hr q.2), if_neg (fun q => hr (by omega))]
      · rw [if_neg (fun h => hq h.1), if_neg (fun h => hq h.1), if_neg (fun h => hq h.1)])
    have e0 : shI I 0 = I := by
      funext q j
      unfold shI
      rw [if_neg (by omega)]
    rw [e0] at key
    have h39 : ju (shI I 156) 58 37 (shI I 156 58 37 - 1) 58 37 = nI 39 := by
      rw [ju_get, if_pos ⟨rfl, rfl⟩, show shI I 156 58 37 = nI 40 from b1]
      rfl
    have st : jat d 182 57 [.ref 58, .int (nI x.1), .int (nI x.2.1), .int (nI x.2.2.2), .int (nI x.2.2.1), .int (nI 156)] [] (jmk (shI I 156) L c e) = jat d 182 97 [.ref 58, .int (nI x.1), .int (nI x.2.1), .int (nI x.2.2.2), .int (nI x.2.2.1), .int (nI 156)] [] (jmk (ju (shI I 156) 58 37 (shI I 156 58 37 - 1)) L c e) := by
      rw [jb_182_57, show decide ((156 : Int32) ≤ nI 156) = true from rfl, cond_true]
    rw [q_182b (k := 39) (by omega) h39] at st
    refine ⟨_, (key.trans st), ⟨rfl, rfl, fun i hi => ?_⟩, fun q j h1 h2 => ?_⟩
    · simp only [ju_get, shI]
      by_cases q : i = 39
      · subst q; simp
      · have := b3 (i + 1) (by omega)
        rw [show 4 * (i + 1) = 4 * i + 4 by omega] at this
        have r : i < 39 := by omega
        simpa [q, show ¬ (4 * i = 156) by omega, show ¬ (4 * i = 157) by omega, show ¬ (4 * i = 158) by omega, show ¬ (4 * i = 159) by omega, show ¬ (4 * i + 1 = 156) by omega, show ¬ (4 * i + 1 = 157) by omega, show ¬ (4 * i + 1 = 158) by omega, show ¬ (4 * i + 1 = 159) by omega, show ¬ (4 * i + 2 = 156) by omega, show ¬ (4 * i + 2 = 157) by omega, show ¬ (4 * i + 2 = 158) by omega, show ¬ (4 * i + 2 = 159) by omega, show ¬ (4 * i + 3 = 156) by omega, show ¬ (4 * i + 3 = 157) by omega, show ¬ (4 * i + 3 = 158) by omega, show ¬ (4 * i + 3 = 159) by omega, show 4 * i < 156 by omega, show 4 * i + 1 < 156 by omega, show 4 * i + 2 < 156 by omega, show 4 * i + 3 < 156 by omega] using this
    · simp only [ju_get, shI]
      rw [if_neg (by omega), if_neg (by omega), if_neg (by omega), if_neg (by omega), if_neg (by omega), if_neg (by omega), if_neg (by omega), if_neg (by omega)]
end CHG
