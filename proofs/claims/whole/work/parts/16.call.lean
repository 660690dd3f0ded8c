/-! calls -/
section JCL
variable {p : Program} {l : Launch} {e : Env} {R : Room} {s : State} {mi : MethodId} {args : Array Value} {below : List Frame} {meth : Method} {c : Code} {H : Heap} {locs : List Loc} {cells slots : Nat} {Q : State → Prop} {G : jG}
variable {k pc : Nat} {ls st ls' st' : List Value} {m m' : jH} {g : Bool} {p1 : Nat} {p2 : Option Nat} {lsC : Array Slot}
theorem jcat (G : jG) (r : List Value) : ((r.map (jv G)).map fun v => v.category).sum ≤ 2 * r.length := by
  induction r with
  | nil => exact Nat.le_refl _
  | cons v r ih =>
    simp only [List.map_cons, List.sum_cons, List.length_cons]
    have : (jv G v).category ≤ 2 := by rcases lv_cat (jv G v) with h | h <;> omega
    omega
theorem jnn {x : Int32} (h : 0 ≤ x.toInt) : ¬ x < 0 := by
  rw [Int32.lt_iff_toInt_lt]
  simpa using h
theorem jcl_nat {x : Int32} (h : 0 ≤ x.toInt) : (x.toNatClampNeg : Int) = x.toInt := by
  show ((x.toInt.toNat : Nat) : Int) = _
  omega
set_option maxHeartbeats 2000000 in
theorem jcopy_i {o1 o2 n1 n2 x : Nat} {sp dp len : Int32} {r : List Value} (C : jCx p R s mi args meth c G k) (M : jMid G s H locs m) (hl : jLH G lsC (jL k) ls) (hlink : (.methodLink (jY k).cls x arraycopyName) ∈ jTB) (hdg : decode (jB k) pc = .ok (.invokestatic x, 3)) (h1 : jK o1 = (0, n1)) (h2 : jK o2 = (0, n2)) (ho1 : o1 < m.2.2.2.2.1) (ho2 : o2 < m.2.2.2.2.1) (hr : r.length * 2 ≤ 8) (hnp : m.2.2.2.2.1 = 93)
    (hg : 0 ≤ sp.toInt ∧ 0 ≤ dp.toInt ∧ 0 ≤ len.toInt ∧ sp.toInt + len.toInt ≤ n1 ∧ dp.toInt + len.toInt ≤ n2)
    (kk : ∀ (H1 : Heap) (locs1 : List Loc), jMid G s H1 locs1 (jcp m.1 o1 o2 sp.toNatClampNeg dp.toNatClampNeg len.toNatClampNeg, m.2) → W p l e R s mi args below meth c H1 locs1 cells slots Q (F0 mi (pc + 3) lsC (r.map (jv G)))) : W p l e R s mi args below meth c H locs cells slots Q (F0 mi pc lsC (.int len :: .int dp :: .ref (G.1 + o2) :: .int sp :: .ref (G.1 + o1) :: r.map (jv G))) := by
  obtain ⟨hx, hb, hml, hown, hts, hnm, hSt, hf1, hf2⟩ := C
  obtain ⟨g1, g2, g3, g4, g5⟩ := hg
  have e1 := jcl_nat g1
  have e2 := jcl_nat g2
  have e3 := jcl_nat g3
  have hca := jcat G r
  have hroom : ((r.map (jv G)).map fun v => v.category).sum + (nativeFrameWords "java/lang/System" "arraycopy" 5 + 11) ≤ R.locals := by
    rw [show nativeFrameWords "java/lang/System" "arraycopy" 5 = 7 by decide +kernel]
    omega
  refine va_copyi hx hb (hml.trans hl.1.symm) hown (hts _ hlink) (hts _ jaw.2.2.2.1) (hts _ jaw.2.2.2.2.1) (hts _ jaw.2.2.2.2.2.1) hSt.1 M.1.1 (jws_D G m) M.2 o1 o2 0 0 (jarr h1 ho1) (jarr h2 ho2) rfl rfl rfl (jnn g1) (jnn g2) (jnn g3) (by omega) (by omega) (fun i hi => rfl) hf1 hroom hdg fun H1 locs1 q1 q2 q3 => ?_
  refine kk H1 locs1 ⟨⟨?_, by show m.2.2.2.2.1 ≤ 93; omega, Or.inl hnp, ?_, ?_, M.1.2.2.2.2.2.1, M.1.2.2.2.2.2.2⟩, q3⟩
  · rw [← jws_set (G := G) (m := m) (m' := (jcp m.1 o1 o2 sp.toNatClampNeg dp.toNatClampNeg len.toNatClampNeg, m.2)) (p := o2) rfl (fun q hq hne => jce_ext (by funext j; exact if_neg (fun h => hne h.1)) rfl rfl rfl rfl)]
    have : jce G (jcp m.1 o1 o2 sp.toNatClampNeg dp.toNatClampNeg len.toNatClampNeg, m.2) o2 = .inl (G.2.2.2.2.2.2.2.1, n2, .inl (va_cpy (m.1 o1) (m.1 o2) sp.toNatClampNeg dp.toNatClampNeg len.toNatClampNeg)) := by
      unfold jce
      rw [h2]
      refine congrArg (fun f => (Sum.inl (G.2.2.2.2.2.2.2.1, n2, Sum.inl f) : va_E)) (funext fun j => ?_)
      show jcp m.1 o1 o2 _ _ _ o2 j = _
      unfold jcp va_cpy
      simp
    rw [this]
    exact q1
  · have hne : (1000 : Nat) ≠ o2 := by have := M.1.2.1; omega
    exact (show jcp m.1 o1 o2 _ _ _ 1000 = m.1 1000 from funext fun j => if_neg (fun h => hne h.1)).trans M.1.2.2.2.1
  · have hne : (1001 : Nat) ≠ o2 := by have := M.1.2.1; omega
    exact (show jcp m.1 o1 o2 _ _ _ 1001 0 = m.1 1001 0 from if_neg (fun h => hne h.1)).trans M.1.2.2.2.2.1
set_option maxHeartbeats 2000000 in
theorem jcopy_l {o1 o2 n1 n2 x : Nat} {sp dp len : Int32} {r : List Value} (C : jCx p R s mi args meth c G k) (M : jMid G s H locs m) (hl : jLH G lsC (jL k) ls) (hlink : (.methodLink (jY k).cls x arraycopyName) ∈ jTB) (hdg : decode (jB k) pc = .ok (.invokestatic x, 3)) (h1 : jK o1 = (1, n1)) (h2 : jK o2 = (1, n2)) (ho1 : o1 < m.2.2.2.2.1) (ho2 : o2 < m.2.2.2.2.1) (hr : r.length * 2 ≤ 8) (hnp : m.2.2.2.2.1 = 93)
    (hg : 0 ≤ sp.toInt ∧ 0 ≤ dp.toInt ∧ 0 ≤ len.toInt ∧ sp.toInt + len.toInt ≤ n1 ∧ dp.toInt + len.toInt ≤ n2)
    (kk : ∀ (H1 : Heap) (locs1 : List Loc), jMid G s H1 locs1 (m.1, jcp m.2.1 o1 o2 sp.toNatClampNeg dp.toNatClampNeg len.toNatClampNeg, m.2.2) → W p l e R s mi args below meth c H1 locs1 cells slots Q (F0 mi (pc + 3) lsC (r.map (jv G)))) : W p l e R s mi args below meth c H locs cells slots Q (F0 mi pc lsC (.int len :: .int dp :: .ref (G.1 + o2) :: .int sp :: .ref (G.1 + o1) :: r.map (jv G))) := by
  obtain ⟨hx, hb, hml, hown, hts, hnm, hSt, hf1, hf2⟩ := C
  obtain ⟨g1, g2, g3, g4, g5⟩ := hg
  have e1 := jcl_nat g1
  have e2 := jcl_nat g2
  have e3 := jcl_nat g3
  have hca := jcat G r
  have hroom : ((r.map (jv G)).map fun v => v.category).sum + (nativeFrameWords "java/lang/System" "arraycopy" 5 + 11) ≤ R.locals := by
    rw [show nativeFrameWords "java/lang/System" "arraycopy" 5 = 7 by decide +kernel]
    omega
  refine va_copyl hx hb (hml.trans hl.1.symm) hown (hts _ hlink) (hts _ jaw.2.2.2.1) (hts _ jaw.2.2.2.2.1) (hts _ jaw.2.2.2.2.2.1) hSt.1 M.1.1 (jws_D G m) M.2 o1 o2 1 1 (jarrL h1 ho1) (jarrL h2 ho2) rfl rfl rfl (jnn g1) (jnn g2) (jnn g3) (by omega) (by omega) (fun i hi => rfl) hf1 hroom hdg fun H1 locs1 q1 q2 q3 => ?_
  refine kk H1 locs1 ⟨⟨?_, by show m.2.2.2.2.1 ≤ 93; omega, Or.inl hnp, M.1.2.2.2.1, M.1.2.2.2.2.1, M.1.2.2.2.2.2.1, M.1.2.2.2.2.2.2⟩, q3⟩
  rw [← jws_set (G := G) (m := m) (m' := (m.1, jcp m.2.1 o1 o2 sp.toNatClampNeg dp.toNatClampNeg len.toNatClampNeg, m.2.2)) (p := o2) rfl (fun q hq hne => jce_ext rfl (by funext j; exact if_neg (fun h => hne h.1)) rfl rfl rfl)]
  have : jce G (m.1, jcp m.2.1 o1 o2 sp.toNatClampNeg dp.toNatClampNeg len.toNatClampNeg, m.2.2) o2 = .inl (G.2.2.2.2.2.2.2.2.1, n2, .inr (.inl (va_cpy (m.2.1 o1) (m.2.1 o2) sp.toNatClampNeg dp.toNatClampNeg len.toNatClampNeg))) := by
    unfold jce
    rw [h2]
    refine congrArg (fun f => (Sum.inl (G.2.2.2.2.2.2.2.2.1, n2, Sum.inr (Sum.inl f)) : va_E)) (funext fun j => ?_)
    show jcp m.2.1 o1 o2 _ _ _ o2 j = _
    unfold jcp va_cpy
    simp
  rw [this]
  exact q1
set_option maxHeartbeats 2000000 in
theorem js_invokestatic {x : Nat} {n a b t q kd : Nat} {w : Int32} {z : Int64} {sw : List (Int32 × Nat)} (C : jCx p R s mi args meth c G k) (M : jMid G s H locs m) (hl : jLH G lsC (jL k) ls) (hI : jI k pc = some (.invokestatic x, n, a, b, t, q, kd, w, z, sw)) (hdg : decode (jB k) pc = .ok (.invokestatic x, n)) (hj : jok2 (jY k).cls (jY k).name (jT k) pc (.invokestatic x, n, a, b, t, q, kd, w, z, sw) = true) (hact : jact k pc ls st m = some (.inl (g, p1, p2, ls', st', m')))
    (kt : g = true → jWs p l e R s mi args below meth c Q G k cells slots m p1 ls' st' m') (hg : g = true ∨ p2 ≠ none) (hr : ∀ cells', cells' + m.2.2.2.2.1 = cells + m'.2.2.2.2.1 → cells' ≤ R.cells) (hr2 : ∀ slots', slots' + jcs m.2.2.2.2.1 = slots + jcs m'.2.2.2.2.1 → slots' ≤ R.slots) : W p l e R s mi args below meth c H locs cells slots Q (F0 mi pc lsC (st.map (jv G))) := by
  have C0 := C
  obtain ⟨hx, hb, hml, hown, hts, hnm, hSt, hf1, hf2⟩ := C
  unfold jact at hact
  rw [hI] at hact
  dsimp only at hact
  obtain ⟨h1, h2⟩ := jand hj
  have hn := Nat.eq_of_beq_eq_true h1
  subst hn
  split at hact
  next =>
    split at hact
    next len dp o2 sp o1 r =>
      split at hact
      next n1 n2 hK1 hK2 =>
        cases hp : (Nat.blt o1 m.2.2.2.2.1 && (Nat.blt o2 m.2.2.2.2.1 && (Nat.ble (r.length * 2) 8 && Nat.beq m.2.2.2.2.1 93))) with
        | false => rw [hp] at hact; cases hact
        | true =>
          rw [hp] at hact
          simp only [cond_true] at hact
          obtain ⟨u1, u2⟩ := jand hp
          obtain ⟨u3, u4⟩ := jand u2
          obtain ⟨u5, d4⟩ := jand u4
          have d1 := Nat.blt_eq.mp u1
          have d2 := Nat.blt_eq.mp u3
          have d3 := Nat.le_of_ble_eq_true u5
          unfold jgg at hact
          cases hact
          have hg : decide (0 ≤ sp.toInt ∧ 0 ≤ dp.toInt ∧ 0 ≤ len.toInt ∧ sp.toInt + len.toInt ≤ n1 ∧ dp.toInt + len.toInt ≤ n2) = true := by
            rcases hg with h | h
            · exact h
            · exact absurd rfl h
          show W p l e R s mi args below meth c H locs cells slots Q (F0 mi pc lsC (.int len :: .int dp :: .ref (jad G o2) :: .int sp :: .ref (jad G o1) :: st'.map (jv G)))
          rw [jad_lt (Nat.lt_of_lt_of_le d1 M.1.2.1), jad_lt (Nat.lt_of_lt_of_le d2 M.1.2.1)]
          exact jcopy_i C0 M hl (jwd_in h2) hdg hK1 hK2 d1 d2 d3 (Nat.eq_of_beq_eq_true d4) (of_decide_eq_true hg) (fun H1 locs1 M1 => kt hg _ _ _ _ _ M1 hl rfl rfl)
      next => cases hact
    next len dp o2 sp o1 r =>
      cases hp : (Nat.blt 26 m.2.2.2.2.1 && (Nat.ble (r.length * 2) 8 && Nat.beq m.2.2.2.2.1 93)) with
      | false => rw [hp] at hact; cases hact
      | true =>
        rw [hp] at hact
        simp only [cond_true] at hact
        obtain ⟨d1, d3⟩ := jand hp
        obtain ⟨d3, d4⟩ := jand d3
        have d1 := Nat.blt_eq.mp d1
        have d3 := Nat.le_of_ble_eq_true d3
        unfold jgg at hact
        cases hact
        have hg : (decide (0 ≤ sp.toInt ∧ 0 ≤ dp.toInt ∧ 0 ≤ len.toInt ∧ sp.toInt + len.toInt ≤ 60 ∧ dp.toInt + len.toInt ≤ 60) && (decide (o1.toNat < 6) && decide (o2.toNat < 6))) = true := by
          rcases hg with h | h
          · exact h
          · exact absurd rfl h
        obtain ⟨g1, g2⟩ := jand hg
        obtain ⟨g2, g3⟩ := jand g2
        have g2 := of_decide_eq_true g2
        have g3 := of_decide_eq_true g3
        show W p l e R s mi args below meth c H locs cells slots Q (F0 mi pc lsC (.int len :: .int dp :: .ref (G.1 + 21 + o2.toNat) :: .int sp :: .ref (G.1 + 21 + o1.toNat) :: st'.map (jv G)))
        rw [Nat.add_assoc, Nat.add_assoc]
        exact jcopy_l C0 M hl (jwd_in h2) hdg (jK_row g2) (jK_row g3) (by omega) (by omega) d3 (Nat.eq_of_beq_eq_true d4) (of_decide_eq_true g1) (fun H1 locs1 M1 => kt hg _ _ _ _ _ M1 hl rfl rfl)
    next => cases hact
  next =>
    split at hact
    next y0 x0 r =>
      cases hp : Nat.ble (r.length * 2) 8 with
      | false => rw [hp] at hact; cases hact
      | true =>
        rw [hp] at hact
        simp only [cond_true] at hact
        have hp := Nat.le_of_ble_eq_true hp
        unfold jg at hact
        cases hact
        have hca := jcat G r
        obtain ⟨w1, w2⟩ := jand h2
        obtain ⟨w2, w3⟩ := jand w2
        obtain ⟨w3, w4⟩ := jand w3
        exact va_mmax hx hb (hml.trans hl.1.symm) hown (hts _ (jwd_in w1)) (hts _ (jwd_in w2)) (hts _ (jwd_in w4)) (hts _ (jwd_in w3)) hf1 (by omega) (hr _ rfl) (hr2 _ rfl) hdg (kt rfl _ _ _ _ _ M hl rfl rfl)
    next => cases hact
  next =>
    split at hact
    next y0 x0 r =>
      cases hp : Nat.ble (r.length * 2) 8 with
      | false => rw [hp] at hact; cases hact
      | true =>
        rw [hp] at hact
        simp only [cond_true] at hact
        have hp := Nat.le_of_ble_eq_true hp
        unfold jg at hact
        cases hact
        have hca := jcat G r
        obtain ⟨w1, w2⟩ := jand h2
        obtain ⟨w2, w3⟩ := jand w2
        obtain ⟨w3, w4⟩ := jand w3
        exact va_mmin hx hb (hml.trans hl.1.symm) hown (hts _ (jwd_in w1)) (hts _ (jwd_in w2)) (hts _ (jwd_in w4)) (hts _ (jwd_in w3)) hf1 (by omega) (hr _ rfl) (hr2 _ rfl) hdg (kt rfl _ _ _ _ _ M hl rfl rfl)
    next => cases hact
  next =>
    split at hact
    next =>
      unfold jcall at hact
      rw [Bool.cond_eq_ite] at hact
      split at hact <;> cases hact
    next => cases hact
set_option maxHeartbeats 2000000 in
theorem js_invokespecial {x : Nat} {n a b t q kd : Nat} {w : Int32} {z : Int64} {sw : List (Int32 × Nat)} (C : jCx p R s mi args meth c G k) (M : jMid G s H locs m) (hl : jLH G lsC (jL k) ls) (hI : jI k pc = some (.invokespecial x, n, a, b, t, q, kd, w, z, sw)) (hdg : decode (jB k) pc = .ok (.invokespecial x, n)) (hj : jok2 (jY k).cls (jY k).name (jT k) pc (.invokespecial x, n, a, b, t, q, kd, w, z, sw) = true) (hact : jact k pc ls st m = some (.inl (g, p1, p2, ls', st', m')))
    (kt : g = true → jWs p l e R s mi args below meth c Q G k cells slots m p1 ls' st' m') : W p l e R s mi args below meth c H locs cells slots Q (F0 mi pc lsC (st.map (jv G))) := by
  have C0 := C
  obtain ⟨hx, hb, hml, hown, hts, hnm, hSt, hf1, hf2⟩ := C
  unfold jact at hact
  rw [hI] at hact
  dsimp only at hact
  obtain ⟨h1, h2⟩ := jand hj
  have hn := Nat.eq_of_beq_eq_true h1
  subst hn
  split at hact
  next =>
    split at hact
    next o r =>
      cases hp : Nat.ble (r.length * 2) 8 with
      | false => rw [hp] at hact; cases hact
      | true =>
        rw [hp] at hact
        simp only [cond_true] at hact
        have hp := Nat.le_of_ble_eq_true hp
        unfold jg at hact
        cases hact
        have hca := jcat G st'
        exact W.objInit hx hb hown (hts _ (jwd_in h2)) (hts _ jaw.2.2.2.2.2.2.1) (hts _ jaw.2.2.2.2.2.2.2) rfl (hl.1.trans hml.symm) rfl hdg hf1 (by show 2 * 0 + _ + 12 ≤ _; omega) (kt rfl _ _ _ _ _ M hl rfl rfl)
    next => cases hact
  next =>
    split at hact
    next =>
      rw [Bool.cond_eq_ite] at hact
      split at hact
      · unfold jcall at hact
        rw [Bool.cond_eq_ite] at hact
        split at hact <;> cases hact
      · cases hact
    next => cases hact
/-- behind a call -/
theorem jcont {r : jX} {mc ms : Nat} {a : Array Value} {st0 rest : List Value} (hr : va_Run p l e R s mi args below meth c H locs cells slots mc ms (F0 mi pc lsC st0) rest (jQ G r a) (jAr G)) (hS : va_S (jAr G) s.heap H locs)
    (kk : ∀ (H1 : Heap) (locs1 : List Loc), jMid G s H1 locs1 r.2 → W p l e R s mi args below meth c H1 locs1 (cells + mc) (slots + ms) Q (F0 mi (pc + 3) lsC ((r.1.map (jv G)).toList ++ rest))) : W p l e R s mi args below meth c H locs cells slots Q (F0 mi pc lsC st0) := by
  intro T hT X
  obtain ⟨v, st₀, t, T', L, h0, X', hL, e1, e2, ⟨hv, hE, hz, hk⟩, st⟩ := hr T hT X
  cases hv
  rw [h0] at hz hk
  obtain ⟨t2, a1, b1⟩ := kk T'.heap (locs ++ L) ⟨by rw [e1]; exact hE, Nat.le_trans hS.1 (by rw [e1]; exact hz), fun q h1 h2 => by rw [e1, hk q (Nat.lt_of_lt_of_le h1 hS.1) h2]; exact hS.2.1 q h1 h2, fun q hq => by
      rcases List.mem_append.mp hq with h | h
      · exact hS.2.2 q h
      · exact hL q h⟩ T' rfl X'
  exact ⟨t2, st t2 a1, b1⟩
theorem jps_map (G : jG) (o : Option Value) (st : List Value) : (o.map (jv G)).toList ++ st.map (jv G) = (jps o st).map (jv G) := by
  cases o <;> rfl
theorem jgood {ws : List Jvm.Cond} (h : ∀ w ∈ ws, w ∈ jTB) : GoodIn jTB ws := fun w hw => ⟨h w hw, good_of_word (List.mem_filter.mp (h w hw)).2⟩
theorem jWd_of {U : State} (hSt : jSt G s) (M : jMid G s H locs m) (hU : U.heap = H) (hW : s.WarmedH U.vm) : jWd G m U := by
  subst hU
  exact ⟨jSt_moved hW M.2.1 M.2.2.1 hSt, M.1⟩
theorem jblind (av : List Value) : FrameBlind (va_Pc av (jWd G m)) := by
  intro a U g mk ⟨h1, h2⟩
  exact ⟨h1, jSt_moved (s := U) (U := U.calling g mk a) (State.WarmedH.refl U) (Nat.le_refl _) (fun _ _ _ => rfl) h2.1, h2.2⟩
end JCL
