/-! what makes cells -/
theorem jws_push {G : jG} {m m' : jH} (hn : m'.2.2.2.2.1 = m.2.2.2.2.1 + 1) (h : ∀ q, q < m.2.2.2.2.1 → jce G m' q = jce G m q) : jws G m' = jws G m ++ [(G.1 + m.2.2.2.2.1, jce G m' m.2.2.2.2.1)] := by
  unfold jws
  rw [hn, List.range_succ, List.map_append]
  congr 1
  exact List.map_congr_left (fun q hq => by rw [h q (List.mem_range.mp hq)])
section JMK
variable {p : Program} {l : Launch} {e : Env} {R : Room} {s : State} {mi : MethodId} {args : Array Value} {below : List Frame} {meth : Method} {c : Code} {H : Heap} {locs : List Loc} {cells slots : Nat} {Q : State → Prop} {G : jG}
variable {k pc : Nat} {ls st ls' st' : List Value} {m m' : jH} {g : Bool} {p1 : Nat} {p2 : Option Nat} {lsC : Array Slot}
set_option maxHeartbeats 2000000 in
theorem js_new {x : Nat} {n a b t q kd : Nat} {w : Int32} {z : Int64} {sw : List (Int32 × Nat)} (C : jCx p R s mi args meth c G k) (M : jMid G s H locs m) (hl : jLH G lsC (jL k) ls) (hI : jI k pc = some (.new x, n, a, b, t, q, kd, w, z, sw)) (hdg : decode (jB k) pc = .ok (.new x, n)) (hj : jok2 (jY k).cls (jY k).name (jT k) pc (.new x, n, a, b, t, q, kd, w, z, sw) = true) (hact : jact k pc ls st m = some (.inl (g, p1, p2, ls', st', m')))
    (kt : g = true → jWs p l e R s mi args below meth c Q G k cells slots m p1 ls' st' m') (hg : g = true ∨ p2 ≠ none) (hr : ∀ cells', cells' + m.2.2.2.2.1 = cells + m'.2.2.2.2.1 → cells' ≤ R.cells) (hr2 : ∀ slots', slots' + jcs m.2.2.2.2.1 = slots + jcs m'.2.2.2.2.1 → slots' ≤ R.slots) : W p l e R s mi args below meth c H locs cells slots Q (F0 mi pc lsC (st.map (jv G))) := by
  have C0 := C
  obtain ⟨hx, hb, hml, hown, hts, hnm, hSt, hf1, hf2⟩ := C
  unfold jact at hact
  rw [hI] at hact
  dsimp only at hact
  obtain ⟨h1, h2⟩ := jand hj
  have hn := Nat.eq_of_beq_eq_true h1
  subst hn
  obtain ⟨h2, h3⟩ := jand h2
  have ha := Nat.blt_eq.mp h2
  split at hact
  next c' hK =>
    cases hp : (Nat.beq c' a && (Nat.blt c' 13 && jbk m c')) with
    | false => rw [hp] at hact; cases hact
    | true =>
      rw [hp] at hact
      simp only [cond_true] at hact
      unfold jg at hact
      cases hact
      obtain ⟨d1, d2⟩ := jand hp
      obtain ⟨-, d3⟩ := jand d2
      have d1 := Nat.eq_of_beq_eq_true d1
      subst d1
      have hnp : m.2.2.2.2.1 < 93 := jK_lt hK (by decide)
      have hsz : H.size = G.1 + m.2.2.2.2.1 := by
        rcases M.1.2.2.1 with h | h
        · omega
        · exact h
      have hsl : jsz m.2.2.2.2.1 = jNF c' := by unfold jsz; rw [hK]; rfl
      have hcl := (jcf c' ha).1
      have hKn := hSt.1.1 c' _ hcl
      show W p l e R s mi args below meth c H locs cells slots Q (F0 mi pc lsC (st.map (jv G)))
      refine W.newcK hx hb hown (hts _ (jwd_in h3)) (hts _ (jPl_at ha).2.2.1) (hts _ (jPl_at ha).2.2.2) rfl hdg (hr _ (by show cells + 1 + _ = cells + (_ + 1); omega)) (hr2 _ (by show slots + jNF c' + _ = slots + jcs (_ + 1); rw [jcs_succ, hsl]; omega)) hKn.2.1 hsz fun H1 kC hkC e1 z1 o1 => ?_
      have := kt rfl H1 locs lsC (cells + 1) (slots + jNF c') ⟨⟨?_, ?_, ?_, ?_, ?_, ?_, ?_⟩, ?_⟩ hl (by show cells + 1 + _ = cells + (_ + 1); omega) (by show slots + jNF c' + _ = slots + jcs (_ + 1); rw [jcs_succ, hsl]; omega)
      · simp only [List.map_cons, jv] at this
        rw [jad_lt hnp] at this
        exact this
      · rw [jws_push (G := G) (m := m) (m' := (jz 0 m.1 m.2.2.2.2.1, m.2.1, m.2.2.1, m.2.2.2.1, m.2.2.2.2.1 + 1, m.2.2.2.2.2)) rfl (fun q hq => jce_ext (jz_at _ _ _ (Nat.ne_of_lt hq)) rfl rfl rfl rfl)]
        refine (M.1.1.kept (fun i x hx => o1 x.1 (by rw [(jws_of hx).2]; have := (jws_of hx).1; show G.1 + i < _; omega))).app (fun i x hx => ?_)
        have hi0 : i = 0 := by have := (List.getElem?_eq_some_iff.mp hx).1; simp at this; exact this
        subst hi0
        cases hx
        unfold jce
        rw [hK]
        refine ⟨_, hcl, (u_born (jC c').2.2 hts (jcw ha) hKn hkC e1 (jcf c' ha).2.1).to (fun j hj => ?_)⟩
        show _ = vp_V ((List.range (jNF c')).map _) j
        unfold vp_V
        rw [List.getD_eq_getElem?_getD, List.getElem?_map, List.getElem?_range hj]
        show _ = jfl G _ m.2.2.2.2.1 c' j
        have hch := (jand (jand (jand (jchF_at ha hj)).2).2).2
        have hd := List.all_eq_true.mp d3 j (List.mem_range.mpr hj)
        unfold jfl
        split at hch
        next hF =>
          rw [of_decide_eq_true (jand hch).1, hF]
          show Value.int 0 = .int (jz 0 m.1 m.2.2.2.2.1 m.2.2.2.2.1 j)
          rw [show jz 0 m.1 m.2.2.2.2.1 m.2.2.2.2.1 j = 0 from if_pos rfl]
        next hF =>
          rw [of_decide_eq_true (jand hch).1, hF]
          show Value.int 0 = .int (jz 0 m.1 m.2.2.2.2.1 m.2.2.2.2.1 j)
          rw [show jz 0 m.1 m.2.2.2.2.1 m.2.2.2.2.1 j = 0 from if_pos rfl]
        next hF =>
          rw [hF] at hd
          rw [(jnar (jand hch).1 0).2.2, hF]
          show Value.null = if jO c' j < m.2.2.2.2.2 then _ else _
          rw [if_neg (Nat.not_lt.mpr (Nat.le_of_ble_eq_true hd))]
        next hF =>
          rw [hF] at hd
          rw [(jnar (jand hch).1 0).2.2, hF]
          show Value.null = if m.2.2.1 = 0 then _ else _
          rw [if_pos (Nat.eq_of_beq_eq_true hd)]
        next hF =>
          rw [hF] at hd
          rw [(jnar (jand hch).1 0).2.2, hF]
          show Value.null = if m.2.2.2.1 = 0 then _ else _
          rw [if_pos (Nat.eq_of_beq_eq_true hd)]
        next => cases hch
      · show m.2.2.2.2.1 + 1 ≤ 93
        omega
      · exact Or.inr (by rw [z1]; show _ = G.1 + (m.2.2.2.2.1 + 1); omega)
      · exact (jz_at _ _ _ (by omega)).trans M.1.2.2.2.1
      · show jz 0 m.1 m.2.2.2.2.1 1001 0 = _
        rw [jz_at _ _ _ (by omega)]
        exact M.1.2.2.2.2.1
      · exact M.1.2.2.2.2.2.1
      · exact M.1.2.2.2.2.2.2
      · exact ⟨Nat.le_trans M.2.1 (by omega), fun x h1 h2 => (o1 x (Nat.lt_of_lt_of_le h1 (by have := M.2.1; omega))).trans (M.2.2.1 x h1 h2), M.2.2.2⟩
  next => cases hact

set_option maxHeartbeats 2000000 in
theorem js_newarray {ty : ArrayType} {n a b t q kd : Nat} {w : Int32} {z : Int64} {sw : List (Int32 × Nat)} (C : jCx p R s mi args meth c G k) (M : jMid G s H locs m) (hl : jLH G lsC (jL k) ls) (hI : jI k pc = some (.newarray ty, n, a, b, t, q, kd, w, z, sw)) (hdg : decode (jB k) pc = .ok (.newarray ty, n)) (hj : jok2 (jY k).cls (jY k).name (jT k) pc (.newarray ty, n, a, b, t, q, kd, w, z, sw) = true) (hact : jact k pc ls st m = some (.inl (g, p1, p2, ls', st', m')))
    (kt : g = true → jWs p l e R s mi args below meth c Q G k cells slots m p1 ls' st' m') (hg : g = true ∨ p2 ≠ none) (hr : ∀ cells', cells' + m.2.2.2.2.1 = cells + m'.2.2.2.2.1 → cells' ≤ R.cells) (hr2 : ∀ slots', slots' + jcs m.2.2.2.2.1 = slots + jcs m'.2.2.2.2.1 → slots' ≤ R.slots) : W p l e R s mi args below meth c H locs cells slots Q (F0 mi pc lsC (st.map (jv G))) := by
  have C0 := C
  obtain ⟨hx, hb, hml, hown, hts, hnm, hSt, hf1, hf2⟩ := C
  unfold jact at hact
  rw [hI] at hact
  dsimp only at hact
  have hn := Nat.eq_of_beq_eq_true hj
  subst hn
  split at hact
  next x r =>
    split at hact
    next len hK =>
      unfold jgg at hact
      cases hact
      have hg : decide (x = Int32.ofNat len) = true := by
        rcases hg with h | h
        · exact h
        · exact absurd rfl h
      have hx0 := of_decide_eq_true hg
      have hnp : m.2.2.2.2.1 < 93 := jK_lt hK (by decide)
      have hlen : len ≤ 648 := by have := jK_sz hnp; rw [hK] at this; exact this
      have hcl : x.toNatClampNeg = len := by rw [hx0]; exact nI_clamp (by omega)
      have hsz : H.size = G.1 + m.2.2.2.2.1 := by
        rcases M.1.2.2.1 with h | h
        · omega
        · exact h
      have hsl : jsz m.2.2.2.2.1 = len := by unfold jsz; rw [hK]; rfl
      show W p l e R s mi args below meth c H locs cells slots Q (F0 mi pc lsC (.int x :: r.map (jv G)))
      refine va_newaK (atype := .int) hx hb (hts _ jaw.1) rfl hdg rfl (by rw [hx0]; exact nI_pos (by omega)) hcl (by show len * _ ≤ _; simp [newarray.typeOf, componentBytes]; omega) (hr _ (by show cells + 1 + _ = cells + (_ + 1); omega)) (hr2 _ (by show slots + len + _ = slots + jcs (_ + 1); rw [jcs_succ, hsl]; omega)) hsz fun H1 cA e1 z1 o1 hAr hNm => ?_
      have hcA := (hSt.1.2 0 _ rfl).2
      have hcA2 : some cA = some _ := hNm.symm.trans hcA
      cases hcA2
      have := kt hg H1 locs lsC (cells + 1) (slots + len) ⟨⟨?_, ?_, ?_, ?_, ?_, ?_, ?_⟩, ?_⟩ hl (by show cells + 1 + _ = cells + (_ + 1); omega) (by show slots + len + _ = slots + jcs (_ + 1); rw [jcs_succ, hsl]; omega)
      · simp only [List.map_cons, jv] at this
        rw [jad_lt hnp] at this
        exact this
      · rw [jws_push (G := G) (m := m) (m' := (jz 0 m.1 m.2.2.2.2.1, m.2.1, m.2.2.1, m.2.2.2.1, m.2.2.2.2.1 + 1, m.2.2.2.2.2)) rfl (fun q hq => jce_ext (jz_at _ _ _ (Nat.ne_of_lt hq)) rfl rfl rfl rfl)]
        refine (M.1.1.kept (fun i x hx => o1 x.1 (by rw [(jws_of hx).2]; have := (jws_of hx).1; show G.1 + i < _; omega))).app (fun i x hx => ?_)
        have hi0 : i = 0 := by have := (List.getElem?_eq_some_iff.mp hx).1; simp at this; exact this
        subst hi0
        cases hx
        unfold jce
        rw [hK]
        show H1[G.1 + m.2.2.2.2.1]? = some (vp_cell _ _)
        rw [e1, vp_cell_i]
        refine congrArg (fun f => some (arrV _ len f)) (funext fun j => ?_)
        show _ = Value.int (jz 0 m.1 m.2.2.2.2.1 m.2.2.2.2.1 j)
        rw [show jz 0 m.1 m.2.2.2.2.1 m.2.2.2.2.1 j = 0 from if_pos rfl]
        rfl
      · show m.2.2.2.2.1 + 1 ≤ 93
        omega
      · exact Or.inr (by rw [z1]; show _ = G.1 + (m.2.2.2.2.1 + 1); omega)
      · exact (jz_at _ _ _ (by omega)).trans M.1.2.2.2.1
      · show jz 0 m.1 m.2.2.2.2.1 1001 0 = _
        rw [jz_at _ _ _ (by omega)]
        exact M.1.2.2.2.2.1
      · exact M.1.2.2.2.2.2.1
      · exact M.1.2.2.2.2.2.2
      · exact ⟨Nat.le_trans M.2.1 (by omega), fun x h1 h2 => (o1 x (Nat.lt_of_lt_of_le h1 (by have := M.2.1; omega))).trans (M.2.2.1 x h1 h2), M.2.2.2⟩
    next len hK =>
      unfold jgg at hact
      cases hact
      have hg : decide (x = Int32.ofNat len) = true := by
        rcases hg with h | h
        · exact h
        · exact absurd rfl h
      have hx0 := of_decide_eq_true hg
      have hnp : m.2.2.2.2.1 < 93 := jK_lt hK (by decide)
      have hlen : len ≤ 648 := by have := jK_sz hnp; rw [hK] at this; exact this
      have hcl : x.toNatClampNeg = len := by rw [hx0]; exact nI_clamp (by omega)
      have hsz : H.size = G.1 + m.2.2.2.2.1 := by
        rcases M.1.2.2.1 with h | h
        · omega
        · exact h
      have hsl : jsz m.2.2.2.2.1 = len := by unfold jsz; rw [hK]; rfl
      show W p l e R s mi args below meth c H locs cells slots Q (F0 mi pc lsC (.int x :: r.map (jv G)))
      refine va_newaK (atype := .long) hx hb (hts _ jaw.2.1) rfl hdg rfl (by rw [hx0]; exact nI_pos (by omega)) hcl (by show len * _ ≤ _; simp [newarray.typeOf, componentBytes]; omega) (hr _ (by show cells + 1 + _ = cells + (_ + 1); omega)) (hr2 _ (by show slots + len + _ = slots + jcs (_ + 1); rw [jcs_succ, hsl]; omega)) hsz fun H1 cA e1 z1 o1 hAr hNm => ?_
      have hcA := (hSt.1.2 1 _ rfl).2
      have hcA2 : some cA = some _ := hNm.symm.trans hcA
      cases hcA2
      have := kt hg H1 locs lsC (cells + 1) (slots + len) ⟨⟨?_, ?_, ?_, ?_, ?_, ?_, ?_⟩, ?_⟩ hl (by show cells + 1 + _ = cells + (_ + 1); omega) (by show slots + len + _ = slots + jcs (_ + 1); rw [jcs_succ, hsl]; omega)
      · simp only [List.map_cons, jv] at this
        rw [jad_lt hnp] at this
        exact this
      · rw [jws_push (G := G) (m := m) (m' := (m.1, jz 0 m.2.1 m.2.2.2.2.1, m.2.2.1, m.2.2.2.1, m.2.2.2.2.1 + 1, m.2.2.2.2.2)) rfl (fun q hq => jce_ext rfl (jz_at _ _ _ (Nat.ne_of_lt hq)) rfl rfl rfl)]
        refine (M.1.1.kept (fun i x hx => o1 x.1 (by rw [(jws_of hx).2]; have := (jws_of hx).1; show G.1 + i < _; omega))).app (fun i x hx => ?_)
        have hi0 : i = 0 := by have := (List.getElem?_eq_some_iff.mp hx).1; simp at this; exact this
        subst hi0
        cases hx
        unfold jce
        rw [hK]
        show H1[G.1 + m.2.2.2.2.1]? = some (vp_cell _ _)
        rw [e1, vp_cell_l]
        refine congrArg (fun f => some (arrV _ len f)) (funext fun j => ?_)
        show _ = Value.long (jz 0 m.2.1 m.2.2.2.2.1 m.2.2.2.2.1 j)
        rw [show jz 0 m.2.1 m.2.2.2.2.1 m.2.2.2.2.1 j = 0 from if_pos rfl]
        rfl
      · show m.2.2.2.2.1 + 1 ≤ 93
        omega
      · exact Or.inr (by rw [z1]; show _ = G.1 + (m.2.2.2.2.1 + 1); omega)
      · exact M.1.2.2.2.1
      · exact M.1.2.2.2.2.1
      · exact M.1.2.2.2.2.2.1
      · exact M.1.2.2.2.2.2.2
      · exact ⟨Nat.le_trans M.2.1 (by omega), fun x h1 h2 => (o1 x (Nat.lt_of_lt_of_le h1 (by have := M.2.1; omega))).trans (M.2.2.1 x h1 h2), M.2.2.2⟩
    next len hK =>
      unfold jgg at hact
      cases hact
      have hg : decide (x = Int32.ofNat len) = true := by
        rcases hg with h | h
        · exact h
        · exact absurd rfl h
      have hx0 := of_decide_eq_true hg
      have hnp : m.2.2.2.2.1 < 93 := jK_lt hK (by decide)
      have hlen : len ≤ 648 := by have := jK_sz hnp; rw [hK] at this; exact this
      have hcl : x.toNatClampNeg = len := by rw [hx0]; exact nI_clamp (by omega)
      have hsz : H.size = G.1 + m.2.2.2.2.1 := by
        rcases M.1.2.2.1 with h | h
        · omega
        · exact h
      have hsl : jsz m.2.2.2.2.1 = len := by unfold jsz; rw [hK]; rfl
      show W p l e R s mi args below meth c H locs cells slots Q (F0 mi pc lsC (.int x :: r.map (jv G)))
      refine va_newaK (atype := .boolean) hx hb (hts _ jaw.2.2.1) rfl hdg rfl (by rw [hx0]; exact nI_pos (by omega)) hcl (by show len * _ ≤ _; simp [newarray.typeOf, componentBytes]; omega) (hr _ (by show cells + 1 + _ = cells + (_ + 1); omega)) (hr2 _ (by show slots + len + _ = slots + jcs (_ + 1); rw [jcs_succ, hsl]; omega)) hsz fun H1 cA e1 z1 o1 hAr hNm => ?_
      have hcA := (hSt.1.2 2 _ rfl).2
      have hcA2 : some cA = some _ := hNm.symm.trans hcA
      cases hcA2
      have := kt hg H1 locs lsC (cells + 1) (slots + len) ⟨⟨?_, ?_, ?_, ?_, ?_, ?_, ?_⟩, ?_⟩ hl (by show cells + 1 + _ = cells + (_ + 1); omega) (by show slots + len + _ = slots + jcs (_ + 1); rw [jcs_succ, hsl]; omega)
      · simp only [List.map_cons, jv] at this
        rw [jad_lt hnp] at this
        exact this
      · rw [jws_push (G := G) (m := m) (m' := (jz 0 m.1 m.2.2.2.2.1, m.2.1, m.2.2.1, m.2.2.2.1, m.2.2.2.2.1 + 1, m.2.2.2.2.2)) rfl (fun q hq => jce_ext (jz_at _ _ _ (Nat.ne_of_lt hq)) rfl rfl rfl rfl)]
        refine (M.1.1.kept (fun i x hx => o1 x.1 (by rw [(jws_of hx).2]; have := (jws_of hx).1; show G.1 + i < _; omega))).app (fun i x hx => ?_)
        have hi0 : i = 0 := by have := (List.getElem?_eq_some_iff.mp hx).1; simp at this; exact this
        subst hi0
        cases hx
        unfold jce
        rw [hK]
        show H1[G.1 + m.2.2.2.2.1]? = some (vp_cell _ _)
        rw [e1, vp_cell_i]
        refine congrArg (fun f => some (arrV _ len f)) (funext fun j => ?_)
        show _ = Value.int (jz 0 m.1 m.2.2.2.2.1 m.2.2.2.2.1 j)
        rw [show jz 0 m.1 m.2.2.2.2.1 m.2.2.2.2.1 j = 0 from if_pos rfl]
        rfl
      · show m.2.2.2.2.1 + 1 ≤ 93
        omega
      · exact Or.inr (by rw [z1]; show _ = G.1 + (m.2.2.2.2.1 + 1); omega)
      · exact (jz_at _ _ _ (by omega)).trans M.1.2.2.2.1
      · show jz 0 m.1 m.2.2.2.2.1 1001 0 = _
        rw [jz_at _ _ _ (by omega)]
        exact M.1.2.2.2.2.1
      · exact M.1.2.2.2.2.2.1
      · exact M.1.2.2.2.2.2.2
      · exact ⟨Nat.le_trans M.2.1 (by omega), fun x h1 h2 => (o1 x (Nat.lt_of_lt_of_le h1 (by have := M.2.1; omega))).trans (M.2.2.1 x h1 h2), M.2.2.2⟩
    next => cases hact
  next => cases hact

end JMK
