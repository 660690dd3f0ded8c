/-! what the numbers that changed say stays true -/
def grw (n : Nat) (v : Nat → aMv) (n' : Nat) (v' : Nat → aMv) : Prop := n ≤ n' ∧ ∀ i, i < n → v' i = v i
section GRW
variable {n n' n2 m m' k a s b kt : Nat} {v v' v2 : Nat → aMv} {pe : Nat → aPe} {D : Nat → Int32} {ch : Nat → aCh} {im : Option aIm} {x y z : Int32} {sh : Nat → aSh} {ro : Nat → Nat → Int64}
theorem grw_r : grw n v n v := ⟨Nat.le_refl _, fun _ _ => rfl⟩
theorem grw_t (h : grw n v n' v') (h2 : grw n' v' n2 v2) : grw n v n2 v2 := ⟨Nat.le_trans h.1 h2.1, fun i hi => (h2.2 i (Nat.lt_of_lt_of_le hi h.1)).trans (h.2 i hi)⟩
theorem newMv_g {q : aMv} : grw n v (newMv n v q).2.1 (newMv n v q).2.2 := by
  unfold newMv
  split
  · exact grw_r
  · refine ⟨Nat.le_succ n, fun i hi => ?_⟩
    show vup v n q i = v i
    unfold vup
    rw [if_neg (by omega)]
theorem opMove_g : grw n v (opMove n v x y).2.1 (opMove n v x y).2.2 := by
  unfold opMove
  split
  · exact newMv_g
  · exact grw_r
theorem chOk_g (h : chOk n m v k a ch) (hg : grw n v n' v') : chOk n' m v' k a ch := by
  obtain ⟨h1, h2, h3⟩ := h
  obtain ⟨g1, g2⟩ := hg
  have hf : ∀ x y z, isN n m x y → fitN v x y z → fitN v' x y z := by
    intro x y z hN hf
    obtain ⟨f0, f1⟩ := hf
    refine ⟨fun hy => ?_, f1⟩
    rcases hN with hN | hN
    · rw [g2 x hN.2]
      exact f0 hy
    · omega
  refine ⟨h1, h2, fun i hi => ?_⟩
  obtain ⟨a1, a2, a3⟩ := h3 i hi
  refine ⟨?_, hf _ _ _ a1 a2, hf _ _ _ a1 a3⟩
  rcases a1 with q | q
  · exact Or.inl ⟨q.1, by omega⟩
  · exact Or.inr q
theorem chOk_m (h : chOk n m v k a ch) (hm : m ≤ m') : chOk n m' v k a ch := by
  obtain ⟨h1, h2, h3⟩ := h
  refine ⟨h1, h2, fun i hi => ?_⟩
  obtain ⟨a1, a2, a3⟩ := h3 i hi
  refine ⟨?_, a2, a3⟩
  rcases a1 with q | q
  · exact Or.inl q
  · exact Or.inr ⟨q.1, q.2.1, by omega⟩
theorem imOk_m (h : imOk m im) (hm : m ≤ m') : imOk m' im := by
  cases im with
  | none => trivial
  | some u => exact ⟨Nat.le_trans h.1 hm, h.2⟩
theorem opPerson_g : m ≤ (opPerson m pe x y).2.1 := by
  unfold opPerson
  split
  · split
    · exact Nat.le_refl _
    · exact Nat.le_succ m
  · exact Nat.le_refl _
theorem opUndo_ok (ho : peOk m pe D) (hc : chOk n m v k a ch) : peOk m (opUndo v pe k ch).2.2.1 D ∧ chOk n m (opUndo v pe k ch).2.1 (opUndo v pe k ch).2.2.2 a ch := by
  unfold opUndo
  by_cases q : k = 0
  · rw [if_pos q]
    exact ⟨ho, hc⟩
  · rw [if_neg q]
    obtain ⟨a1, a2, a3⟩ := id hc
    have e1 : k - 1 < a := by omega
    have e2 : k - 1 ≤ a := Nat.le_of_lt e1
    obtain ⟨b1, b2, b3⟩ := a3 (k - 1) e1
    obtain ⟨c1, c2, c3⟩ := ch_mset (i := (ch (k - 1)).1) (j := (ch (k - 1)).2.1) (z := (ch (k - 1)).2.2.1) hc
    exact ⟨pset_ok ho b1 b2, e2, c2, c3⟩
theorem opRedo_ok (ho : peOk m pe D) (hc : chOk n m v k a ch) : peOk m (opRedo v pe k a ch).2.2.1 D ∧ chOk n m (opRedo v pe k a ch).2.1 (opRedo v pe k a ch).2.2.2 a ch := by
  unfold opRedo
  by_cases q : k = a
  · rw [if_pos q]
    exact ⟨ho, hc⟩
  · rw [if_neg q]
    obtain ⟨a1, a2, a3⟩ := id hc
    have e1 : k < a := by omega
    obtain ⟨b1, b2, b3⟩ := a3 k e1
    obtain ⟨c1, c2, c3⟩ := ch_mset (i := (ch k).1) (j := (ch k).2.1) (z := (ch k).2.2.2) hc
    exact ⟨pset_ok ho b1 b3, e1, c2, c3⟩
theorem rowMv_g {l : Nat} {r : Nat → Int64} {i : Int32} : ∀ (f t n : Nat) (v : Nat → aMv), grw n v (rowMv l r i f t n v).2.1 (rowMv l r i f t n v).2.2 := by
  intro f
  induction f with
  | zero => intro t n v; exact grw_r
  | succ f ih =>
    intro t n v
    unfold rowMv
    split
    · refine grw_t ⟨Nat.le_succ n, fun i' hi => ?_⟩ (ih (t + 1) (n + 1) _)
      unfold vup
      rw [if_neg (Nat.ne_of_lt hi)]
    · exact grw_r
theorem opMoves_g : grw n v (opMoves n v sh ro x y z).2.1 (opMoves n v sh ro x y z).2.2 := by
  unfold opMoves
  split
  · split
    · exact grw_r
    · split
      · exact rowMv_g ..
      · exact grw_r
  · exact grw_r
end GRW
