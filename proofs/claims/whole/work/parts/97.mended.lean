/-! mend keeps what must hold -/
section MDO
variable {n m k a : Nat} {v : Nat → aMv} {pe : Nat → aPe} {D : Nat → Int32} {ch : Nat → aCh} {x y z : Int32}
theorem opMend_ok (hn12 : n ≤ 12) (hn : ∀ i, i < n → mvOk (v i)) (ho : peOk m pe D) (hc : chOk n m v k a ch) : peOk m (opMend n m v pe k a ch x y z).2.2.1 D ∧ chOk n m (opMend n m v pe k a ch x y z).2.1 (opMend n m v pe k a ch x y z).2.2.2.1 (opMend n m v pe k a ch x y z).2.2.2.2.1 (opMend n m v pe k a ch x y z).2.2.2.2.2 := by
  have hm := ho.1
  unfold opMend
  by_cases q : cmI n m x y ∧ fitZ v x.toNatClampNeg y.toNatClampNeg z
  · rw [if_pos q]
    obtain ⟨q1, q2⟩ := q
    obtain ⟨x', y', rfl, rfl, hN⟩ := cm_of hn12 hm q1
    have hx : (nI x').toNatClampNeg = x' := jcl' (by omega)
    have hy : (nI y').toNatClampNeg = y' := jcl' (by omega)
    rw [hx, hy] at q2 ⊢
    obtain ⟨f1, f2⟩ := nu_fit hn ho hN
    by_cases r : nu v pe x' y' = z.toInt.toNat
    · rw [if_pos r]
      exact ⟨ho, hc⟩
    · rw [if_neg r]
      exact ⟨pset_ok ho hN q2.2, ch_mset (chAdd_ok hc hN f1 q2.2)⟩
  · rw [if_neg q]
    exact ⟨ho, hc⟩
end MDO
