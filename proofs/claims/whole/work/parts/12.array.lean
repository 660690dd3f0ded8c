/-! arrays, statics -/
theorem jK_rows_all : (List.range 93).all (fun p => match jK p with | (3, n) => Nat.beq p 20 && Nat.beq n 6 | _ => true) = true := by decide +kernel
theorem jK_rows {p n : Nat} (hp : p < 93) (h : jK p = (3, n)) : p = 20 ∧ n = 6 := by
  have := List.all_eq_true.mp jK_rows_all p (List.mem_range.mpr hp)
  rw [h] at this
  obtain ⟨h1, h2⟩ := jand this
  exact ⟨Nat.eq_of_beq_eq_true h1, Nat.eq_of_beq_eq_true h2⟩
theorem jK_row {u : Nat} (h : u < 6) : jK (21 + u) = (1, 60) := by
  match u, h with
  | 0, _ => rfl
  | 1, _ => rfl
  | 2, _ => rfl
  | 3, _ => rfl
  | 4, _ => rfl
  | 5, _ => rfl
theorem jK_sz_all : (List.range 93).all (fun p => Nat.ble (jK p).2 648) = true := by decide +kernel
theorem jK_sz {p : Nat} (hp : p < 93) : (jK p).2 ≤ 648 := Nat.le_of_ble_eq_true (List.all_eq_true.mp jK_sz_all p (List.mem_range.mpr hp))
theorem jK_sp {p k n : Nat} (h : jK p = (k, n)) : (k = 5 → p = 1000) ∧ (k = 6 → p = 1001) ∧ (k = 7 → p = 1002) := by
  rcases Nat.lt_or_ge p 93 with q | q
  · have := List.all_eq_true.mp jKp_all p (List.mem_range.mpr q)
    rw [h] at this
    have hk : k < 5 := by
      split at this
      next hh => cases hh; decide
      next hh => cases hh; have := Nat.blt_eq.mp this; omega
    exact ⟨fun e => by omega, fun e => by omega, fun e => by omega⟩
  · unfold jK at h
    have h1 : Nat.blt p 93 = false := by
      cases hb : Nat.blt p 93 with
      | false => rfl
      | true => exact absurd (Nat.blt_eq.mp hb) (by omega)
    rw [h1] at h
    simp only [cond_false] at h
    cases h0 : Nat.beq p 1000 with
    | true =>
      rw [h0] at h
      cases h
      exact ⟨fun _ => Nat.eq_of_beq_eq_true h0, fun e => by omega, fun e => by omega⟩
    | false =>
      rw [h0] at h
      simp only [cond_false] at h
      cases h2 : Nat.beq p 1001 with
      | true =>
        rw [h2] at h
        cases h
        exact ⟨fun e => by omega, fun _ => Nat.eq_of_beq_eq_true h2, fun e => by omega⟩
      | false =>
        rw [h2] at h
        simp only [cond_false] at h
        cases h3 : Nat.beq p 1002 with
        | true =>
          rw [h3] at h
          cases h
          exact ⟨fun e => by omega, fun e => by omega, fun _ => Nat.eq_of_beq_eq_true h3⟩
        | false =>
          rw [h3] at h
          cases h
          exact ⟨fun e => by omega, fun e => by omega, fun e => by omega⟩
section JAR
variable {p : Program} {l : Launch} {e : Env} {R : Room} {s : State} {mi : MethodId} {args : Array Value} {below : List Frame} {meth : Method} {c : Code} {H : Heap} {locs : List Loc} {cells slots : Nat} {Q : State → Prop} {G : jG}
variable {k pc : Nat} {ls st ls' st' : List Value} {m m' : jH} {g : Bool} {p1 : Nat} {p2 : Option Nat} {lsC : Array Slot}
set_option maxHeartbeats 2000000 in
theorem jst_i {o len : Nat} {i : Int32} {x : Int32} {rest : List Value} (C : jCx p R s mi args meth c G k) (M : jMid G s H locs m) (hK : jK o = (0, len)) (ho : o < m.2.2.2.2.1) (hin : vp_in i len) (hdg : decode (jB k) pc = .ok (.iastore, 1))
    (kk : ∀ (H1 : Heap) (locs1 : List Loc), jMid G s H1 locs1 (ju m.1 o i.toNatClampNeg x, m.2) → W p l e R s mi args below meth c H1 locs1 cells slots Q (F0 mi (pc + 1) lsC rest)) : W p l e R s mi args below meth c H locs cells slots Q (F0 mi pc lsC (.int x :: .int i :: .ref (G.1 + o) :: rest)) := by
  obtain ⟨hx, hb, hml, hown, hts, hnm, hSt, hf1, hf2⟩ := C
  have ho3 := Nat.lt_of_lt_of_le ho M.1.2.1
  have ha := jarr (G := G) hK ho
  refine W.iast hx hb (M.1.1 o _ ha) ((hSt.1.2 0 _ rfl).1 len (fun j => .int (m.1 o j))) (fun q => by cases q) (by show ¬ (i < 0 ∨ (arrV _ _ _).slots.size ≤ _); rw [arrV_size]; exact hin) rfl rfl hdg fun H1 e z oq => ?_
  refine kk H1 _ (jMid_put M z ?_ (M.2.put z oq (Nat.le_add_right _ _)) rfl (ju_at _ _ _ _ (by omega)) (ju_at _ _ _ _ (by omega)) M.1.2.2.2.2.2.1 M.1.2.2.2.2.2.2)
  rw [← jws_set (m := m) (m' := (ju m.1 o i.toNatClampNeg x, m.2)) (p := o) rfl (fun q hq hne => jce_ext (ju_at _ _ _ _ hne) rfl rfl rfl rfl)]
  refine M.1.1.set (jws_D G m) ha ?_ oq
  show va_at _ _ (G.1 + o, jce G _ o) H1
  unfold jce
  rw [hK]
  show H1[G.1 + o]? = some (vp_cell _ _)
  rw [e]
  rw [vp_cell_i, vp_cell_i, arrV_store]
  congr 2
  funext j
  by_cases hq : j = i.toNatClampNeg
  · subst hq
    simp [updV, ju]
  · simp [updV, ju, hq]

set_option maxHeartbeats 2000000 in
theorem jst_z {o len : Nat} {i : Int32} {x : Int32} {rest : List Value} (C : jCx p R s mi args meth c G k) (M : jMid G s H locs m) (hK : jK o = (2, len)) (ho : o < m.2.2.2.2.1) (hin : vp_in i len) (hdg : decode (jB k) pc = .ok (.bastore, 1))
    (kk : ∀ (H1 : Heap) (locs1 : List Loc), jMid G s H1 locs1 (ju m.1 o i.toNatClampNeg (x &&& 1), m.2) → W p l e R s mi args below meth c H1 locs1 cells slots Q (F0 mi (pc + 1) lsC rest)) : W p l e R s mi args below meth c H locs cells slots Q (F0 mi pc lsC (.int x :: .int i :: .ref (G.1 + o) :: rest)) := by
  obtain ⟨hx, hb, hml, hown, hts, hnm, hSt, hf1, hf2⟩ := C
  have ho3 := Nat.lt_of_lt_of_le ho M.1.2.1
  have ha := jarrZ (G := G) hK ho
  refine W.zast hx hb (M.1.1 o _ ha) ((hSt.1.2 2 _ rfl).1 len (fun j => .int (m.1 o j))) (fun q => by cases q) (by show ¬ (i < 0 ∨ (arrV _ _ _).slots.size ≤ _); rw [arrV_size]; exact hin) rfl rfl hdg fun H1 e z oq => ?_
  refine kk H1 _ (jMid_put M z ?_ (M.2.put z oq (Nat.le_add_right _ _)) rfl (ju_at _ _ _ _ (by omega)) (ju_at _ _ _ _ (by omega)) M.1.2.2.2.2.2.1 M.1.2.2.2.2.2.2)
  rw [← jws_set (m := m) (m' := (ju m.1 o i.toNatClampNeg (x &&& 1), m.2)) (p := o) rfl (fun q hq hne => jce_ext (ju_at _ _ _ _ hne) rfl rfl rfl rfl)]
  refine M.1.1.set (jws_D G m) ha ?_ oq
  show va_at _ _ (G.1 + o, jce G _ o) H1
  unfold jce
  rw [hK]
  show H1[G.1 + o]? = some (vp_cell _ _)
  rw [e]
  rw [vp_cell_i, vp_cell_i, arrV_store]
  congr 2
  funext j
  by_cases hq : j = i.toNatClampNeg
  · subst hq
    simp [updV, ju, narrow]
  · simp [updV, ju, hq]

set_option maxHeartbeats 2000000 in
theorem jst_l {o len : Nat} {i : Int32} {x : Int64} {rest : List Value} (C : jCx p R s mi args meth c G k) (M : jMid G s H locs m) (hK : jK o = (1, len)) (ho : o < m.2.2.2.2.1) (hin : vp_in i len) (hdg : decode (jB k) pc = .ok (.lastore, 1))
    (kk : ∀ (H1 : Heap) (locs1 : List Loc), jMid G s H1 locs1 (m.1, ju m.2.1 o i.toNatClampNeg x, m.2.2) → W p l e R s mi args below meth c H1 locs1 cells slots Q (F0 mi (pc + 1) lsC rest)) : W p l e R s mi args below meth c H locs cells slots Q (F0 mi pc lsC (.long x :: .int i :: .ref (G.1 + o) :: rest)) := by
  obtain ⟨hx, hb, hml, hown, hts, hnm, hSt, hf1, hf2⟩ := C
  have ho3 := Nat.lt_of_lt_of_le ho M.1.2.1
  have ha := jarrL (G := G) hK ho
  refine W.last hx hb (M.1.1 o _ ha) ((hSt.1.2 1 _ rfl).1 len (fun j => .long (m.2.1 o j))) (fun q => by cases q) (by show ¬ (i < 0 ∨ (arrV _ _ _).slots.size ≤ _); rw [arrV_size]; exact hin) rfl rfl hdg fun H1 e z oq => ?_
  refine kk H1 _ (jMid_put M z ?_ (M.2.put z oq (Nat.le_add_right _ _)) rfl rfl rfl M.1.2.2.2.2.2.1 M.1.2.2.2.2.2.2)
  rw [← jws_set (m := m) (m' := (m.1, ju m.2.1 o i.toNatClampNeg x, m.2.2)) (p := o) rfl (fun q hq hne => jce_ext rfl (ju_at _ _ _ _ hne) rfl rfl rfl)]
  refine M.1.1.set (jws_D G m) ha ?_ oq
  show va_at _ _ (G.1 + o, jce G _ o) H1
  unfold jce
  rw [hK]
  show H1[G.1 + o]? = some (vp_cell _ _)
  rw [e]
  rw [vp_cell_l, vp_cell_l, arrV_store]
  congr 2
  funext j
  by_cases hq : j = i.toNatClampNeg
  · subst hq
    simp [updV, ju]
  · simp [updV, ju, hq]
set_option maxHeartbeats 2000000 in
theorem js_getstatic {x : Nat} {n a b t q kd : Nat} {w : Int32} {z : Int64} {sw : List (Int32 × Nat)} (C : jCx p R s mi args meth c G k) (M : jMid G s H locs m) (hl : jLH G lsC (jL k) ls) (hI : jI k pc = some (.getstatic x, n, a, b, t, q, kd, w, z, sw)) (hdg : decode (jB k) pc = .ok (.getstatic x, n)) (hj : jok2 (jY k).cls (jY k).name (jT k) pc (.getstatic x, n, a, b, t, q, kd, w, z, sw) = true) (hact : jact k pc ls st m = some (.inl (g, p1, p2, ls', st', m')))
    (kt : g = true → jWs p l e R s mi args below meth c Q G k cells slots m p1 ls' st' m') (hg : g = true ∨ p2 ≠ none) (hr : ∀ cells', cells' + m.2.2.2.2.1 = cells + m'.2.2.2.2.1 → cells' ≤ R.cells) (hr2 : ∀ slots', slots' + jcs m.2.2.2.2.1 = slots + jcs m'.2.2.2.2.1 → slots' ≤ R.slots) : W p l e R s mi args below meth c H locs cells slots Q (F0 mi pc lsC (st.map (jv G))) := by
  have C0 := C
  obtain ⟨hx, hb, hml, hown, hts, hnm, hSt, hf1, hf2⟩ := C
  unfold jact at hact
  rw [hI] at hact
  dsimp only at hact
  obtain ⟨h1, h2⟩ := jand hj
  have hn := Nat.eq_of_beq_eq_true h1
  subst hn
  unfold jg at hact
  cases hact
  have h2 : (jwd t (.fieldLink (jY k).cls x "OpensLikeThat$Bodies" "OWN" "[I") && Nat.beq a 1001 || jwd t (.fieldLink (jY k).cls x "OpensLikeThat$Bodies" "ABOVE" "[I") && Nat.beq a 1002) = true := h2
  rw [Bool.or_eq_true] at h2
  rcases h2 with h2 | h2
  · obtain ⟨h3, h4⟩ := jand h2
    have h4 := Nat.eq_of_beq_eq_true h4
    subst h4
    exact va_gets hx hb hSt.2.2.2.2.1 M.2 hown (hts _ (jwd_in h3)) (fun x h => h) hdg (kt rfl _ _ _ _ _ M hl rfl rfl)
  · obtain ⟨h3, h4⟩ := jand h2
    have h4 := Nat.eq_of_beq_eq_true h4
    subst h4
    exact va_gets hx hb hSt.2.2.2.2.2.2.1 M.2 hown (hts _ (jwd_in h3)) (fun x h => h) hdg (kt rfl _ _ _ _ _ M hl rfl rfl)

set_option maxHeartbeats 2000000 in
theorem js_iaload  {n a b t q kd : Nat} {w : Int32} {z : Int64} {sw : List (Int32 × Nat)} (C : jCx p R s mi args meth c G k) (M : jMid G s H locs m) (hl : jLH G lsC (jL k) ls) (hI : jI k pc = some (.iaload, n, a, b, t, q, kd, w, z, sw)) (hdg : decode (jB k) pc = .ok (.iaload, n)) (hj : jok2 (jY k).cls (jY k).name (jT k) pc (.iaload, n, a, b, t, q, kd, w, z, sw) = true) (hact : jact k pc ls st m = some (.inl (g, p1, p2, ls', st', m')))
    (kt : g = true → jWs p l e R s mi args below meth c Q G k cells slots m p1 ls' st' m') (hg : g = true ∨ p2 ≠ none) (hr : ∀ cells', cells' + m.2.2.2.2.1 = cells + m'.2.2.2.2.1 → cells' ≤ R.cells) (hr2 : ∀ slots', slots' + jcs m.2.2.2.2.1 = slots + jcs m'.2.2.2.2.1 → slots' ≤ R.slots) : W p l e R s mi args below meth c H locs cells slots Q (F0 mi pc lsC (st.map (jv G))) := by
  have C0 := C
  obtain ⟨hx, hb, hml, hown, hts, hnm, hSt, hf1, hf2⟩ := C
  unfold jact at hact
  rw [hI] at hact
  dsimp only at hact
  have hn := Nat.eq_of_beq_eq_true hj
  subst hn
  split at hact
  next i o r =>
    split at hact
    next len hK =>
      cases hp : Nat.blt o m.2.2.2.2.1 with
      | false => rw [hp] at hact; cases hact
      | true =>
        rw [hp] at hact
        simp only [cond_true] at hact
        unfold jgg at hact
        cases hact
        have hg : decide (jin i len) = true := by
          rcases hg with h | h
          · exact h
          · exact absurd rfl h
        have ho := Nat.blt_eq.mp hp
        show W p l e R s mi args below meth c H locs cells slots Q (F0 mi pc lsC (.int i :: .ref (jad G o) :: r.map (jv G)))
        rw [jad_lt (Nat.lt_of_lt_of_le ho M.1.2.1)]
        exact va_iald hx hb hSt.1 M.1.1 o 0 (jarr hK ho) rfl (jin_of (of_decide_eq_true hg)) hdg (kt hg _ _ _ _ _ M hl rfl rfl)
    next y hK =>
        unfold jgg at hact
        cases hact
        have hg : decide (jin i (m.1 1001 0).toNatClampNeg) = true := by
          rcases hg with h | h
          · exact h
          · exact absurd rfl h
        have ho := (jK_sp hK).1 rfl
        subst ho
        have hlen : (m.1 1001 0).toNatClampNeg = G.2.2.2.2.1 := by rw [M.1.2.2.2.2.1]; exact nI_clamp hSt.2.2.1
        have hin := of_decide_eq_true hg
        rw [hlen] at hin
        exact va_ti hx hb hSt.2.2.2.1 M.2 (jin_of hin) (v := .int (m.1 1000 i.toNatClampNeg)) ((congrFun (congrArg (fun f j => Value.int (f j)) M.1.2.2.2.1) i.toNatClampNeg).symm) hdg (kt hg _ _ _ _ _ M hl rfl rfl)
    next y hK =>
        unfold jgg at hact
        cases hact
        have hg : decide (jin i 32) = true := by
          rcases hg with h | h
          · exact h
          · exact absurd rfl h
        have ho := (jK_sp hK).2.1 rfl
        subst ho
        have hin := of_decide_eq_true hg
        exact va_ti hx hb hSt.2.2.2.2.2.1 M.2 (jin_of hin) (v := .int (jOWN i.toNatClampNeg)) (rfl) hdg (kt hg _ _ _ _ _ M hl rfl rfl)
    next y hK =>
        unfold jgg at hact
        cases hact
        have hg : decide (jin i 8) = true := by
          rcases hg with h | h
          · exact h
          · exact absurd rfl h
        have ho := (jK_sp hK).2.2 rfl
        subst ho
        have hin := of_decide_eq_true hg
        exact va_ti hx hb hSt.2.2.2.2.2.2.2.1 M.2 (jin_of hin) (v := .int (jABV i.toNatClampNeg)) (rfl) hdg (kt hg _ _ _ _ _ M hl rfl rfl)
    next => cases hact
  next => cases hact

set_option maxHeartbeats 2000000 in
theorem js_baload  {n a b t q kd : Nat} {w : Int32} {z : Int64} {sw : List (Int32 × Nat)} (C : jCx p R s mi args meth c G k) (M : jMid G s H locs m) (hl : jLH G lsC (jL k) ls) (hI : jI k pc = some (.baload, n, a, b, t, q, kd, w, z, sw)) (hdg : decode (jB k) pc = .ok (.baload, n)) (hj : jok2 (jY k).cls (jY k).name (jT k) pc (.baload, n, a, b, t, q, kd, w, z, sw) = true) (hact : jact k pc ls st m = some (.inl (g, p1, p2, ls', st', m')))
    (kt : g = true → jWs p l e R s mi args below meth c Q G k cells slots m p1 ls' st' m') (hg : g = true ∨ p2 ≠ none) (hr : ∀ cells', cells' + m.2.2.2.2.1 = cells + m'.2.2.2.2.1 → cells' ≤ R.cells) (hr2 : ∀ slots', slots' + jcs m.2.2.2.2.1 = slots + jcs m'.2.2.2.2.1 → slots' ≤ R.slots) : W p l e R s mi args below meth c H locs cells slots Q (F0 mi pc lsC (st.map (jv G))) := by
  have C0 := C
  obtain ⟨hx, hb, hml, hown, hts, hnm, hSt, hf1, hf2⟩ := C
  unfold jact at hact
  rw [hI] at hact
  dsimp only at hact
  have hn := Nat.eq_of_beq_eq_true hj
  subst hn
  split at hact
  next i o r =>
    split at hact
    next len hK =>
      cases hp : Nat.blt o m.2.2.2.2.1 with
      | false => rw [hp] at hact; cases hact
      | true =>
        rw [hp] at hact
        simp only [cond_true] at hact
        unfold jgg at hact
        cases hact
        have hg : decide (jin i len) = true := by
          rcases hg with h | h
          · exact h
          · exact absurd rfl h
        have ho := Nat.blt_eq.mp hp
        show W p l e R s mi args below meth c H locs cells slots Q (F0 mi pc lsC (.int i :: .ref (jad G o) :: r.map (jv G)))
        rw [jad_lt (Nat.lt_of_lt_of_le ho M.1.2.1)]
        exact va_zald hx hb hSt.1 M.1.1 o 2 (jarrZ hK ho) rfl (jin_of (of_decide_eq_true hg)) hdg (kt hg _ _ _ _ _ M hl rfl rfl)
    next => cases hact
  next => cases hact

set_option maxHeartbeats 2000000 in
theorem js_laload  {n a b t q kd : Nat} {w : Int32} {z : Int64} {sw : List (Int32 × Nat)} (C : jCx p R s mi args meth c G k) (M : jMid G s H locs m) (hl : jLH G lsC (jL k) ls) (hI : jI k pc = some (.laload, n, a, b, t, q, kd, w, z, sw)) (hdg : decode (jB k) pc = .ok (.laload, n)) (hj : jok2 (jY k).cls (jY k).name (jT k) pc (.laload, n, a, b, t, q, kd, w, z, sw) = true) (hact : jact k pc ls st m = some (.inl (g, p1, p2, ls', st', m')))
    (kt : g = true → jWs p l e R s mi args below meth c Q G k cells slots m p1 ls' st' m') (hg : g = true ∨ p2 ≠ none) (hr : ∀ cells', cells' + m.2.2.2.2.1 = cells + m'.2.2.2.2.1 → cells' ≤ R.cells) (hr2 : ∀ slots', slots' + jcs m.2.2.2.2.1 = slots + jcs m'.2.2.2.2.1 → slots' ≤ R.slots) : W p l e R s mi args below meth c H locs cells slots Q (F0 mi pc lsC (st.map (jv G))) := by
  have C0 := C
  obtain ⟨hx, hb, hml, hown, hts, hnm, hSt, hf1, hf2⟩ := C
  unfold jact at hact
  rw [hI] at hact
  dsimp only at hact
  have hn := Nat.eq_of_beq_eq_true hj
  subst hn
  split at hact
  next i o r =>
    split at hact
    next len hK =>
      cases hp : Nat.blt o m.2.2.2.2.1 with
      | false => rw [hp] at hact; cases hact
      | true =>
        rw [hp] at hact
        simp only [cond_true] at hact
        unfold jgg at hact
        cases hact
        have hg : decide (jin i len) = true := by
          rcases hg with h | h
          · exact h
          · exact absurd rfl h
        have ho := Nat.blt_eq.mp hp
        show W p l e R s mi args below meth c H locs cells slots Q (F0 mi pc lsC (.int i :: .ref (jad G o) :: r.map (jv G)))
        rw [jad_lt (Nat.lt_of_lt_of_le ho M.1.2.1)]
        exact va_lald hx hb hSt.1 M.1.1 o 1 (jarrL hK ho) rfl (jin_of (of_decide_eq_true hg)) hdg (kt hg _ _ _ _ _ M hl rfl rfl)
    next => cases hact
  next i u r =>
    cases hp : Nat.blt 26 m.2.2.2.2.1 with
    | false => rw [hp] at hact; cases hact
    | true =>
      rw [hp] at hact
      simp only [cond_true] at hact
      unfold jgg at hact
      cases hact
      have hg : (decide (jin i 60) && decide (u.toNat < 6)) = true := by
        rcases hg with h | h
        · exact h
        · exact absurd rfl h
      obtain ⟨g1, g2⟩ := jand hg
      have g1 := of_decide_eq_true g1
      have g2 := of_decide_eq_true g2
      have ho : 21 + u.toNat < m.2.2.2.2.1 := by have := Nat.blt_eq.mp hp; omega
      show W p l e R s mi args below meth c H locs cells slots Q (F0 mi pc lsC (.int i :: .ref (G.1 + 21 + u.toNat) :: r.map (jv G)))
      rw [Nat.add_assoc]
      exact va_lald hx hb hSt.1 M.1.1 (21 + u.toNat) 1 (jarrL (jK_row g2) ho) rfl (jin_of g1) hdg (kt hg _ _ _ _ _ M hl rfl rfl)
  next => cases hact

set_option maxHeartbeats 2000000 in
theorem js_aaload  {n a b t q kd : Nat} {w : Int32} {z : Int64} {sw : List (Int32 × Nat)} (C : jCx p R s mi args meth c G k) (M : jMid G s H locs m) (hl : jLH G lsC (jL k) ls) (hI : jI k pc = some (.aaload, n, a, b, t, q, kd, w, z, sw)) (hdg : decode (jB k) pc = .ok (.aaload, n)) (hj : jok2 (jY k).cls (jY k).name (jT k) pc (.aaload, n, a, b, t, q, kd, w, z, sw) = true) (hact : jact k pc ls st m = some (.inl (g, p1, p2, ls', st', m')))
    (kt : g = true → jWs p l e R s mi args below meth c Q G k cells slots m p1 ls' st' m') (hg : g = true ∨ p2 ≠ none) (hr : ∀ cells', cells' + m.2.2.2.2.1 = cells + m'.2.2.2.2.1 → cells' ≤ R.cells) (hr2 : ∀ slots', slots' + jcs m.2.2.2.2.1 = slots + jcs m'.2.2.2.2.1 → slots' ≤ R.slots) : W p l e R s mi args below meth c H locs cells slots Q (F0 mi pc lsC (st.map (jv G))) := by
  have C0 := C
  obtain ⟨hx, hb, hml, hown, hts, hnm, hSt, hf1, hf2⟩ := C
  unfold jact at hact
  rw [hI] at hact
  dsimp only at hact
  have hn := Nat.eq_of_beq_eq_true hj
  subst hn
  split at hact
  next i o r =>
    split at hact
    next len hK =>
      cases hp : Nat.blt o m.2.2.2.2.1 with
      | false => rw [hp] at hact; cases hact
      | true =>
        rw [hp] at hact
        simp only [cond_true] at hact
        unfold jgg at hact
        cases hact
        have hg : decide (jin i len) = true := by
          rcases hg with h | h
          · exact h
          · exact absurd rfl h
        have ho := Nat.blt_eq.mp hp
        have hin := jin_of (of_decide_eq_true hg)
        obtain ⟨rfl, rfl⟩ := jK_rows (Nat.lt_of_lt_of_le ho M.1.2.1) hK
        have hlt : i.toNatClampNeg < 6 := Nat.not_le.mp fun q => hin (Or.inr q)
        have hu : (UInt32.ofNat i.toNatClampNeg).toNat = i.toNatClampNeg := UInt32.toNat_ofNat_of_lt' (by show _ < 4294967296; omega)
        have hK4 := (hSt.1.2 3 _ rfl).1
        refine W.aald (v := .ref (G.1 + 21 + i.toNatClampNeg)) (ty := .array .long) hx hb (M.1.1 20 _ (jarrR hK ho)) (hK4 6 (fun j => va_rf (if j < 6 then some (G.1 + 20 + 1 + j) else none))) rfl (fun q => by cases q) (by show ¬ (i < 0 ∨ (arrV _ _ _).slots.size ≤ _); rw [arrV_size]; exact hin) (by show (arrV _ _ (fun j => va_rf (if j < 6 then some (G.1 + 20 + 1 + j) else none))).slots[_]? = _; rw [arrV_read _ _ hlt, if_pos hlt]; rfl) rfl rfl hdg ?_
        have := kt hg _ _ _ _ _ M hl rfl rfl
        simp only [List.map_cons, jv, hu] at this
        exact this
    next => cases hact
  next => cases hact

set_option maxHeartbeats 2000000 in
theorem js_arraylength  {n a b t q kd : Nat} {w : Int32} {z : Int64} {sw : List (Int32 × Nat)} (C : jCx p R s mi args meth c G k) (M : jMid G s H locs m) (hl : jLH G lsC (jL k) ls) (hI : jI k pc = some (.arraylength, n, a, b, t, q, kd, w, z, sw)) (hdg : decode (jB k) pc = .ok (.arraylength, n)) (hj : jok2 (jY k).cls (jY k).name (jT k) pc (.arraylength, n, a, b, t, q, kd, w, z, sw) = true) (hact : jact k pc ls st m = some (.inl (g, p1, p2, ls', st', m')))
    (kt : g = true → jWs p l e R s mi args below meth c Q G k cells slots m p1 ls' st' m') (hg : g = true ∨ p2 ≠ none) (hr : ∀ cells', cells' + m.2.2.2.2.1 = cells + m'.2.2.2.2.1 → cells' ≤ R.cells) (hr2 : ∀ slots', slots' + jcs m.2.2.2.2.1 = slots + jcs m'.2.2.2.2.1 → slots' ≤ R.slots) : W p l e R s mi args below meth c H locs cells slots Q (F0 mi pc lsC (st.map (jv G))) := by
  have C0 := C
  obtain ⟨hx, hb, hml, hown, hts, hnm, hSt, hf1, hf2⟩ := C
  unfold jact at hact
  rw [hI] at hact
  dsimp only at hact
  have hn := Nat.eq_of_beq_eq_true hj
  subst hn
  split at hact
  next o r =>
    split at hact
    next len hK =>
      cases hp : Nat.blt o m.2.2.2.2.1 with
      | false => rw [hp] at hact; cases hact
      | true =>
        rw [hp] at hact
        simp only [cond_true] at hact
        unfold jg at hact
        cases hact
        have ho := Nat.blt_eq.mp hp
        show W p l e R s mi args below meth c H locs cells slots Q (F0 mi pc lsC (.ref (jad G o) :: r.map (jv G)))
        rw [jad_lt (Nat.lt_of_lt_of_le ho M.1.2.1)]
        exact va_alen hx hb hSt.1 M.1.1 o 0 (jarr hK ho) rfl rfl hdg (kt rfl _ _ _ _ _ M hl rfl rfl)
    next y hK =>
      unfold jg at hact
      cases hact
      have ho := (jK_sp hK).1 rfl
      subst ho
      exact va_tlen hx hb hSt.2.2.2.1 M.2 M.1.2.2.2.2.1.symm hdg (kt rfl _ _ _ _ _ M hl rfl rfl)
    next => cases hact
  next => cases hact

set_option maxHeartbeats 2000000 in
theorem js_iastore  {n a b t q kd : Nat} {w : Int32} {z : Int64} {sw : List (Int32 × Nat)} (C : jCx p R s mi args meth c G k) (M : jMid G s H locs m) (hl : jLH G lsC (jL k) ls) (hI : jI k pc = some (.iastore, n, a, b, t, q, kd, w, z, sw)) (hdg : decode (jB k) pc = .ok (.iastore, n)) (hj : jok2 (jY k).cls (jY k).name (jT k) pc (.iastore, n, a, b, t, q, kd, w, z, sw) = true) (hact : jact k pc ls st m = some (.inl (g, p1, p2, ls', st', m')))
    (kt : g = true → jWs p l e R s mi args below meth c Q G k cells slots m p1 ls' st' m') (hg : g = true ∨ p2 ≠ none) (hr : ∀ cells', cells' + m.2.2.2.2.1 = cells + m'.2.2.2.2.1 → cells' ≤ R.cells) (hr2 : ∀ slots', slots' + jcs m.2.2.2.2.1 = slots + jcs m'.2.2.2.2.1 → slots' ≤ R.slots) : W p l e R s mi args below meth c H locs cells slots Q (F0 mi pc lsC (st.map (jv G))) := by
  have C0 := C
  obtain ⟨hx, hb, hml, hown, hts, hnm, hSt, hf1, hf2⟩ := C
  unfold jact at hact
  rw [hI] at hact
  dsimp only at hact
  have hn := Nat.eq_of_beq_eq_true hj
  subst hn
  split at hact
  next x i o r =>
    split at hact
    next len hK =>
      cases hp : Nat.blt o m.2.2.2.2.1 with
      | false => rw [hp] at hact; cases hact
      | true =>
        rw [hp] at hact
        simp only [cond_true] at hact
        unfold jgg at hact
        cases hact
        have hg : decide (jin i len) = true := by
          rcases hg with h | h
          · exact h
          · exact absurd rfl h
        have ho := Nat.blt_eq.mp hp
        have hin := jin_of (of_decide_eq_true hg)
        show W p l e R s mi args below meth c H locs cells slots Q (F0 mi pc lsC (.int x :: .int i :: .ref (jad G o) :: st'.map (jv G)))
        rw [jad_lt (Nat.lt_of_lt_of_le ho M.1.2.1)]
        exact jst_i C0 M hK ho hin hdg (fun H1 locs1 M1 => kt hg _ _ _ _ _ M1 hl rfl rfl)
    next => cases hact
  next => cases hact

set_option maxHeartbeats 2000000 in
theorem js_bastore  {n a b t q kd : Nat} {w : Int32} {z : Int64} {sw : List (Int32 × Nat)} (C : jCx p R s mi args meth c G k) (M : jMid G s H locs m) (hl : jLH G lsC (jL k) ls) (hI : jI k pc = some (.bastore, n, a, b, t, q, kd, w, z, sw)) (hdg : decode (jB k) pc = .ok (.bastore, n)) (hj : jok2 (jY k).cls (jY k).name (jT k) pc (.bastore, n, a, b, t, q, kd, w, z, sw) = true) (hact : jact k pc ls st m = some (.inl (g, p1, p2, ls', st', m')))
    (kt : g = true → jWs p l e R s mi args below meth c Q G k cells slots m p1 ls' st' m') (hg : g = true ∨ p2 ≠ none) (hr : ∀ cells', cells' + m.2.2.2.2.1 = cells + m'.2.2.2.2.1 → cells' ≤ R.cells) (hr2 : ∀ slots', slots' + jcs m.2.2.2.2.1 = slots + jcs m'.2.2.2.2.1 → slots' ≤ R.slots) : W p l e R s mi args below meth c H locs cells slots Q (F0 mi pc lsC (st.map (jv G))) := by
  have C0 := C
  obtain ⟨hx, hb, hml, hown, hts, hnm, hSt, hf1, hf2⟩ := C
  unfold jact at hact
  rw [hI] at hact
  dsimp only at hact
  have hn := Nat.eq_of_beq_eq_true hj
  subst hn
  split at hact
  next x i o r =>
    split at hact
    next len hK =>
      cases hp : Nat.blt o m.2.2.2.2.1 with
      | false => rw [hp] at hact; cases hact
      | true =>
        rw [hp] at hact
        simp only [cond_true] at hact
        unfold jgg at hact
        cases hact
        have hg : decide (jin i len) = true := by
          rcases hg with h | h
          · exact h
          · exact absurd rfl h
        have ho := Nat.blt_eq.mp hp
        have hin := jin_of (of_decide_eq_true hg)
        show W p l e R s mi args below meth c H locs cells slots Q (F0 mi pc lsC (.int x :: .int i :: .ref (jad G o) :: st'.map (jv G)))
        rw [jad_lt (Nat.lt_of_lt_of_le ho M.1.2.1)]
        exact jst_z C0 M hK ho hin hdg (fun H1 locs1 M1 => kt hg _ _ _ _ _ M1 hl rfl rfl)
    next => cases hact
  next => cases hact

set_option maxHeartbeats 2000000 in
theorem js_lastore  {n a b t q kd : Nat} {w : Int32} {z : Int64} {sw : List (Int32 × Nat)} (C : jCx p R s mi args meth c G k) (M : jMid G s H locs m) (hl : jLH G lsC (jL k) ls) (hI : jI k pc = some (.lastore, n, a, b, t, q, kd, w, z, sw)) (hdg : decode (jB k) pc = .ok (.lastore, n)) (hj : jok2 (jY k).cls (jY k).name (jT k) pc (.lastore, n, a, b, t, q, kd, w, z, sw) = true) (hact : jact k pc ls st m = some (.inl (g, p1, p2, ls', st', m')))
    (kt : g = true → jWs p l e R s mi args below meth c Q G k cells slots m p1 ls' st' m') (hg : g = true ∨ p2 ≠ none) (hr : ∀ cells', cells' + m.2.2.2.2.1 = cells + m'.2.2.2.2.1 → cells' ≤ R.cells) (hr2 : ∀ slots', slots' + jcs m.2.2.2.2.1 = slots + jcs m'.2.2.2.2.1 → slots' ≤ R.slots) : W p l e R s mi args below meth c H locs cells slots Q (F0 mi pc lsC (st.map (jv G))) := by
  have C0 := C
  obtain ⟨hx, hb, hml, hown, hts, hnm, hSt, hf1, hf2⟩ := C
  unfold jact at hact
  rw [hI] at hact
  dsimp only at hact
  have hn := Nat.eq_of_beq_eq_true hj
  subst hn
  split at hact
  next x i o r =>
    split at hact
    next len hK =>
      cases hp : Nat.blt o m.2.2.2.2.1 with
      | false => rw [hp] at hact; cases hact
      | true =>
        rw [hp] at hact
        simp only [cond_true] at hact
        unfold jgg at hact
        cases hact
        have hg : decide (jin i len) = true := by
          rcases hg with h | h
          · exact h
          · exact absurd rfl h
        have ho := Nat.blt_eq.mp hp
        have hin := jin_of (of_decide_eq_true hg)
        show W p l e R s mi args below meth c H locs cells slots Q (F0 mi pc lsC (.long x :: .int i :: .ref (jad G o) :: st'.map (jv G)))
        rw [jad_lt (Nat.lt_of_lt_of_le ho M.1.2.1)]
        exact jst_l C0 M hK ho hin hdg (fun H1 locs1 M1 => kt hg _ _ _ _ _ M1 hl rfl rfl)
    next => cases hact
  next x i u r =>
    cases hp : Nat.blt 26 m.2.2.2.2.1 with
    | false => rw [hp] at hact; cases hact
    | true =>
      rw [hp] at hact
      simp only [cond_true] at hact
      unfold jgg at hact
      cases hact
      have hg : (decide (jin i 60) && decide (u.toNat < 6)) = true := by
        rcases hg with h | h
        · exact h
        · exact absurd rfl h
      obtain ⟨g1, g2⟩ := jand hg
      have g1 := of_decide_eq_true g1
      have g2 := of_decide_eq_true g2
      have ho : 21 + u.toNat < m.2.2.2.2.1 := by have := Nat.blt_eq.mp hp; omega
      show W p l e R s mi args below meth c H locs cells slots Q (F0 mi pc lsC (.long x :: .int i :: .ref (G.1 + 21 + u.toNat) :: st'.map (jv G)))
      rw [Nat.add_assoc]
      exact jst_l C0 M (jK_row g2) ho (jin_of g1) hdg (fun H1 locs1 M1 => kt hg _ _ _ _ _ M1 hl rfl rfl)
  next => cases hact

end JAR
