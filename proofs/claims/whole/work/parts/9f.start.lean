/-! what holds at the law's start -/
theorem jNs_start {s : State} {b : Nat} (hts : ∀ w ∈ lw_tbl, w.before #[Value.ref b] s = true) : ∀ w ∈ jNs, va_Nw w s := by
  have key : ∀ w ∈ jNs, w ∈ lw_tbl ∧ w.onTables = true := by
    unfold jNs
    refine List.forall_mem_cons.mpr ⟨⟨List.mem_of_getElem? (i := 100) (by decide +kernel), rfl⟩, List.forall_mem_cons.mpr ⟨⟨List.mem_of_getElem? (i := 139) (by decide +kernel), rfl⟩, List.forall_mem_cons.mpr ⟨⟨List.mem_of_getElem? (i := 177) (by decide +kernel), rfl⟩, List.forall_mem_cons.mpr ⟨⟨List.mem_of_getElem? (i := 232) (by decide +kernel), rfl⟩, List.forall_mem_cons.mpr ⟨⟨List.mem_of_getElem? (i := 256) (by decide +kernel), rfl⟩, List.forall_mem_cons.mpr ⟨⟨List.mem_of_getElem? (i := 287) (by decide +kernel), rfl⟩, List.forall_mem_cons.mpr ⟨⟨List.mem_of_getElem? (i := 491) (by decide +kernel), rfl⟩, List.forall_mem_cons.mpr ⟨⟨List.mem_of_getElem? (i := 494) (by decide +kernel), rfl⟩, List.forall_mem_cons.mpr ⟨⟨List.mem_of_getElem? (i := 641) (by decide +kernel), rfl⟩, List.forall_mem_cons.mpr ⟨⟨List.mem_of_getElem? (i := 665) (by decide +kernel), rfl⟩, List.forall_mem_cons.mpr ⟨⟨List.mem_of_getElem? (i := 729) (by decide +kernel), rfl⟩, List.forall_mem_cons.mpr ⟨⟨List.mem_of_getElem? (i := 744) (by decide +kernel), rfl⟩, List.forall_mem_cons.mpr ⟨⟨List.mem_of_getElem? (i := 763) (by decide +kernel), rfl⟩, List.forall_mem_cons.mpr ⟨⟨List.mem_of_getElem? (i := 768) (by decide +kernel), rfl⟩, List.forall_mem_cons.mpr ⟨⟨List.mem_of_getElem? (i := 867) (by decide +kernel), rfl⟩, List.forall_mem_cons.mpr ⟨⟨List.mem_of_getElem? (i := 952) (by decide +kernel), rfl⟩, List.forall_mem_cons.mpr ⟨⟨List.mem_of_getElem? (i := 970) (by decide +kernel), rfl⟩, fun _ h => absurd h List.not_mem_nil⟩⟩⟩⟩⟩⟩⟩⟩⟩⟩⟩⟩⟩⟩⟩⟩⟩
  exact fun w hw => va_Nw.of (key w hw).2 (hts w (key w hw).1)
theorem jOWN_in : ∀ j, j < 32 → (Jvm.Cond.eq (.elem (.static "OpensLikeThat$Bodies" "OWN" "[I") (.int (Int32.ofNat j))) (.int (jOWN j))) ∈ flatC (Jvm.Cond.and given_1 narrow_1) := by decide +kernel
theorem jABV_in : ∀ j, j < 8 → (Jvm.Cond.eq (.elem (.static "OpensLikeThat$Bodies" "ABOVE" "[I") (.int (Int32.ofNat j))) (.int (jABV j))) ∈ flatC (Jvm.Cond.and given_1 narrow_1) := by decide +kernel
theorem jSt_start {s : State} {b L : Nat} {xs : Nat → Int32} (hts : ∀ w ∈ lw_tbl, w.before #[Value.ref b] s = true) (hL : L ≤ 3072) (hX : va_X b L xs s s.heap) (hbl : b < s.heap.size) (hgv : (Jvm.Cond.and given_1 narrow_1).before #[Value.ref b] s = true) : ∃ (tO tA : Nat) (D : va_G) (cs : ClassId × ClassId × ClassId × ClassId), jSt (s.heap.size, b, tO, tA, L, xs, D, cs) s := by
  have hTB : ∀ w ∈ jTB, w.before #[Value.ref b] s = true := fun w hw => hts w (List.mem_filter.mp hw).1
  have hs := flat_of_before _ hgv
  have hA : ∀ a : Nat, a < s.heap.size → ¬ (fun q : Nat => s.heap.size ≤ q) a := fun a h => Nat.not_le.mpr h
  have hcl : ∀ a : Nat, ∃ q : ClassId × (Nat → Nat), a < 13 → u_Kn s (jC a).1 (jC a).2.1 (jNF a) q.1 q.2 := by
    intro a
    by_cases ha : a < 13
    · have h1 := List.all_eq_true.mp jPl_all a (List.mem_range.mpr ha)
      obtain ⟨cC, iS, hK⟩ := u_known hTB (jcw ha) (hTB _ (jwd_in (jand (jand (jand h1).2).2).1))
      exact ⟨(cC, iS), fun _ => hK⟩
    · exact ⟨(0, fun _ => 0), fun h => absurd h ha⟩
  obtain ⟨f, hf⟩ := Classical.axiomOfChoice hcl
  obtain ⟨cI, kI, mI, i1, i2, i3⟩ := Cond.arrayClass_spec (hTB _ jaw.1)
  obtain ⟨cJ, kJ, mJ, j1, j2, j3⟩ := Cond.arrayClass_spec (hTB _ jaw.2.1)
  obtain ⟨cZ, kZ, mZ, z1, z2, z3⟩ := Cond.arrayClass_spec (hTB _ jaw.2.2.1)
  have hAO : va_Nw (.arrayOver (.array .long)) s := by
    have h := hts (.arrayOver (.array .long)) (List.mem_of_getElem? (i := 213) (by decide +kernel))
    unfold Cond.before Cond.holds at h
    unfold va_Nw Cond.before Cond.holds
    simp only [Cond.value] at h ⊢
    exact h
  obtain ⟨mA, cA, kA, -, -, a3, a4, a5⟩ := jAO_spec hAO
  obtain ⟨tO, hO1, hO2⟩ := va_Tof (tm := .static "OpensLikeThat$Bodies" "OWN" "[I") (ty := .int) (N := 32) (f := fun j => .int (jOWN j)) (A := fun q : Nat => s.heap.size ≤ q) (by decide) (hs _ (by decide +kernel)) (va_eqt (hs (Jvm.Cond.eq (.length (.static "OpensLikeThat$Bodies" "OWN" "[I")) (.int 32)) (by decide +kernel))) (fun j hj => va_eqt (hs _ (jOWN_in j hj))) hA
  obtain ⟨tA, hA1, hA2⟩ := va_Tof (tm := .static "OpensLikeThat$Bodies" "ABOVE" "[I") (ty := .int) (N := 8) (f := fun j => .int (jABV j)) (A := fun q : Nat => s.heap.size ≤ q) (by decide) (hs _ (by decide +kernel)) (va_eqt (hs (Jvm.Cond.eq (.length (.static "OpensLikeThat$Bodies" "ABOVE" "[I")) (.int 8)) (by decide +kernel))) (fun j hj => va_eqt (hs _ (jABV_in j hj))) hA
  have hini : (Jvm.Cond.initialized "OpensLikeThat$Bodies").before #[Value.ref b] s = true := hts _ (List.mem_of_getElem? (i := 79) (by decide +kernel))
  refine ⟨tO, tA, (fun a => (f a).1, fun a => (f a).2), (cI, cJ, cZ, cA), ⟨fun c q hq => ?_, fun k q hq => ?_⟩, Nat.le_refl _, by show L < 2 ^ 31; omega, ?_, va_Zref (hts _ (List.mem_of_getElem? (i := 1045) (by decide +kernel))) hini hO1 hA, hO2, va_Zref (hts _ (List.mem_of_getElem? (i := 1047) (by decide +kernel))) hini hA1 hA, hA2, jNs_start hts, hAO⟩
  · have hc : c < 13 := (List.getElem?_eq_some_iff.mp hq).1
    have e := (jcf c hc).1
    rw [hq] at e
    cases e
    exact hf c hc
  · have hk : k < 4 := (List.getElem?_eq_some_iff.mp hq).1
    rcases (show k = 0 ∨ k = 1 ∨ k = 2 ∨ k = 3 by omega) with rfl | rfl | rfl | rfl
    · cases hq
      exact ⟨fun n z => ⟨fun k h => (by cases h), kI, i2, mI, i3⟩, i1⟩
    · cases hq
      exact ⟨fun n z => ⟨fun k h => (by cases h), kJ, j2, mJ, j3⟩, j1⟩
    · cases hq
      exact ⟨fun n z => ⟨fun k h => (by cases h), kZ, z2, mZ, z3⟩, z1⟩
    · cases hq
      exact ⟨fun n z => ⟨fun k h => (by cases h), kA, a3, mA, a4⟩, a5⟩
  · obtain ⟨scr, h1, h2, h3, h4, h5⟩ := hX
    exact ⟨scr, h1, h2, h3, Nat.le_of_eq h4.symm, by rw [h4], h5, hA b hbl⟩
theorem j266_ok : jOk (jM 266) := by
  rcases jck_all 266 (by decide) with q | q
  · exfalso
    have : (jM 266).1.cls ≠ "java/lang/Math" := by decide +kernel
    exact this q
  · exact q
theorem j266_rk : jFr 150 266 ≤ 2048 ∧ 40 * jFr 150 266 ≤ 84000 := by decide +kernel
theorem jcs_93 : jcs 93 ≤ jcs 0 + 7302250 := by decide +kernel
