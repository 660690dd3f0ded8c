/-! fields: reading and writing them -/
theorem jfv_jfl {G : jG} {m : jH} {p a b : Nat} {v : Value} (ha : a < 13) (hb : b < jNF a) (hc : m.2.2.1 < 93) (hd : m.2.2.2.1 < 93) (h : jfv m p a b = some v) : jfl G m p a b = jv G v := by
  have hch := (jand (jand (jand (jchF_at ha hb)).2).2).1
  unfold jfv at h
  unfold jfl
  split at h
  next h0 => rw [h0]; cases h; rfl
  next h0 => rw [h0]; cases h; rfl
  next h0 =>
    rw [h0]
    cases hq : Nat.blt (jO a b) m.2.2.2.2.2 with
    | false => rw [hq] at h; cases h
    | true =>
      rw [hq] at h
      cases h
      show (if _ then _ else _) = Value.ref (jad G (jR a b))
      rw [if_pos (Nat.blt_eq.mp hq), jad_lt (Nat.blt_eq.mp hch)]
  next h0 =>
    rw [h0]
    cases hq : Nat.beq m.2.2.1 0 with
    | true => rw [hq] at h; cases h
    | false =>
      rw [hq] at h
      cases h
      show (if _ then _ else _) = Value.ref (jad G m.2.2.1)
      rw [if_neg (Nat.ne_of_beq_eq_false hq), jad_lt hc]
  next h0 =>
    rw [h0]
    cases hq : Nat.beq m.2.2.2.1 0 with
    | true => rw [hq] at h; cases h
    | false =>
      rw [hq] at h
      cases h
      show (if _ then _ else _) = Value.ref (jad G m.2.2.2.1)
      rw [if_neg (Nat.ne_of_beq_eq_false hq), jad_lt hd]
  next => cases h
theorem jset_obj {G : jG} {m m' : jH} {p a b : Nat} {v : Value} (hn : m'.2.2.2.2.1 = m.2.2.2.2.1) (hp : jis m p a = true) (h1 : jfl G m' p a b = v) (h2 : ∀ j, j < jNF a → j ≠ b → jfl G m' p a j = jfl G m p a j) (h3 : ∀ q, q < m.2.2.2.2.1 → q ≠ p → jce G m' q = jce G m q) : (jws G m).set p (G.1 + p, .inr (a, ((List.range (jNF a)).map (jfl G m p a)).set b v)) = jws G m' := by
  rw [← jws_set (p := p) hn h3]
  congr 2
  unfold jce
  obtain ⟨rfl, g2, g3⟩ := jis_of hp
  rw [(jPl_at g3).1]
  refine congrArg (fun x => (Sum.inr (a, x) : va_E)) ?_
  apply List.ext_getElem?
  intro i
  rw [List.getElem?_set]
  by_cases hi : i < jNF a
  · rw [List.getElem?_map, List.getElem?_map, List.getElem?_range hi]
    by_cases e : b = i
    · subst e
      simp [hi, h1]
    · rw [if_neg e]
      show some _ = some _
      rw [h2 i hi (fun q => e q.symm)]
  · rw [List.getElem?_eq_none (by simp; omega), List.getElem?_eq_none (by simp; omega)]
    split <;> simp
    omega
theorem jbit {x : Int32} (h : x &&& 1 = x) : x = 0 ∨ x = 1 := by
  obtain ⟨j, hj, e⟩ := pk_andE x (m := 1) 1 (by decide)
  rw [h] at e
  match j, hj with
  | 0, _ => exact Or.inl e
  | 1, _ => exact Or.inr e
theorem jK4 {q kk c' : Nat} (hq : q < 93) (hkq : jK q = (kk, c')) (hn1 : kk = 0 → False) (hn2 : kk = 1 → False) (hn3 : kk = 2 → False) (hn4 : kk = 3 → False) : kk = 4 := by
  have := List.all_eq_true.mp jKp_all q (List.mem_range.mpr hq)
  rw [hkq] at this
  split at this
  next hh => cases hh; rfl
  next hh =>
    cases hh
    have := Nat.blt_eq.mp this
    exfalso
    match kk, this with
    | 0, _ => exact hn1 rfl
    | 1, _ => exact hn2 rfl
    | 2, _ => exact hn3 rfl
    | 3, _ => exact hn4 rfl
section JPF
variable {p : Program} {l : Launch} {e : Env} {R : Room} {s : State} {mi : MethodId} {args : Array Value} {below : List Frame} {meth : Method} {c : Code} {H : Heap} {locs : List Loc} {cells slots : Nat} {Q : State → Prop} {G : jG}
variable {k pc : Nat} {ls st ls' st' : List Value} {m m' : jH} {g : Bool} {p1 : Nat} {p2 : Option Nat} {lsC : Array Slot}
set_option maxHeartbeats 1000000 in
theorem jput_core {x : Nat} {a b o : Nat} {v : Value} {rest : List Value} (C : jCx p R s mi args meth c G k) (M : jMid G s H locs m) (hp : jis m o a = true) (hb' : b < jNF a) (hlink : (.fieldLink (jY k).cls x (jC a).1 ((jC a).2.1 b).2.1 ((jC a).2.1 b).2.2.1) ∈ jTB) (hn : narrow ((jC a).2.2 b) v = v) (hfit : fits ((jC a).2.2 b) v = true) (hfin : ((jC a).2.1 b).2.2.2 = false ∨ ((jC a).2.1 b).2.2.2 = true ∧ (jY k).name = "<init>" ∧ (jY k).cls = (jC a).1)
    (hdg : decode (jB k) pc = .ok (.putfield x, 3)) (kk : ∀ (H1 : Heap) (locs1 : List Loc), H1.size = H.size → va_P G.2.2.2.2.2.2.1 vwCl ((jws G m).set o (G.1 + o, .inr (a, ((List.range (jNF a)).map (jfl G m o a)).set b v))) H1 → va_S (jAr G) s.heap H1 locs1 → W p l e R s mi args below meth c H1 locs1 cells slots Q (F0 mi (pc + 3) lsC rest)) : W p l e R s mi args below meth c H locs cells slots Q (F0 mi pc lsC (v :: .ref (G.1 + o) :: rest)) := by
  obtain ⟨hx, hb, hml, hown, hts, hnm, hSt, hf1, hf2⟩ := C
  obtain ⟨ho, ho2, ha⟩ := jis_of hp
  obtain ⟨hcl, hty, hnmz⟩ := jcf a ha
  have hin := jcw ha
  have hK := hSt.1
  have hP := M.1.1
  have hD := jws_D G m
  have he := jobj (G := G) hp
  have hap := va_apart (own := (jY k).cls) hts hin (jC a).2.2 hty hnmz hK hcl
  obtain ⟨r, h1, cell, q1, q2, q3, q4⟩ := hP o _ he
  have hr : r = ((jC a).1, (jC a).2.1, jNF a) := Option.some.inj (h1.symm.trans hcl)
  subst hr
  obtain ⟨hS, hfc, kC, hkC, hkind⟩ := hK.1 a _ hcl
  obtain ⟨cf, kf, fi, f, hi, hsl⟩ := hS b hb'
  have hlay := hts _ (hin _ (u_in_lay hb'))
  have hdecl : ((jC a).2.1 b).1 = (jC a).1 := of_decide_eq_true (jand (jand (jchF_at ha hb')).2).1
  have hst := (u_facts hfc hkC (u_lays hts hin hb') hi).1
  have hlen : b < ((List.range (jNF a)).map (jfl G m o a)).length := by simpa using hb'
  have hi' := hi
  rw [hdecl] at hi'
  have fin : ∀ H' : Heap, H'[G.1 + o]? = some (cell.setSlot f.slot v) → H'.size = H.size → (∀ q, q ≠ G.1 + o → H'[q]? = H[q]?) → va_P G.2.2.2.2.2.2.1 vwCl ((jws G m).set o (G.1 + o, .inr (a, ((List.range (jNF a)).map (jfl G m o a)).set b v))) H' := by
    intro H' e1 e2 e3
    rw [hsl] at e1
    exact hP.set hD he ⟨_, hcl, t_OB.to (V := updV (vp_V ((List.range (jNF a)).map (jfl G m o a))) b v) ⟨_, e1, q2, q3, t_set q4 hap hb' v⟩ (fun j _ => vp_updV_set hlen v j)⟩ e3
  rcases hfin with hfin | ⟨hfin, hin2, hcls⟩
  · unfold u_lay at hlay
    rw [if_neg (by rw [hfin]; decide)] at hlay
    have h6 := u_store hfc hkC hkind hlay hi (hty b hb') hn hfit
    refine W.putK hx hb (f := f) ⟨hown, hts _ hlink, ⟨_, _, _, hi'⟩, hst⟩ (by rw [q2]; exact h6) q1 q3 (by rw [hsl]; exact k2_hasslot (q4 b hb')) rfl rfl hdg fun H' e1 e2 e3 => ?_
    exact kk H' _ e2 (fin H' e1 e2 e3) (M.2.put e2 e3 (Nat.le_add_right _ _))
  · unfold u_lay at hlay
    rw [if_pos hfin] at hlay
    have hcf : mi.cls = cf := by
      obtain ⟨_, _, c', _, _, _, -, -, hf', -, -, -, hown2, -⟩ := Cond.laysFinal_spec hlay
      have e1 : c' = cf := by have := hi.symm.trans hf'; simp at this; exact this.1.symm
      rw [hdecl, ← hcls] at hown2
      rw [← e1]; exact Option.some.inj (hown.symm.trans hown2)
    have h6 := u_fits hfc hkC hkind (Or.inr hlay) hi (hty b hb') hn hfit
    refine W.putFinK hx hb hown (hts _ hlink) hi' hst hcf (hnm.trans hin2) (by rw [q2]; exact h6) q1 q3 (by rw [hsl]; exact k2_hasslot (q4 b hb')) rfl rfl hdg fun H' e1 e2 e3 => ?_
    exact kk H' _ e2 (fin H' e1 e2 e3) (M.2.put e2 e3 (Nat.le_add_right _ _))
set_option maxHeartbeats 1000000 in
theorem js_getfield {x : Nat} {n a b t q kd : Nat} {w : Int32} {z : Int64} {sw : List (Int32 × Nat)} (C : jCx p R s mi args meth c G k) (M : jMid G s H locs m) (hl : jLH G lsC (jL k) ls) (hI : jI k pc = some (.getfield x, n, a, b, t, q, kd, w, z, sw)) (hdg : decode (jB k) pc = .ok (.getfield x, n)) (hj : jok2 (jY k).cls (jY k).name (jT k) pc (.getfield x, n, a, b, t, q, kd, w, z, sw) = true) (hact : jact k pc ls st m = some (.inl (g, p1, p2, ls', st', m')))
    (kt : g = true → jWs p l e R s mi args below meth c Q G k cells slots m p1 ls' st' m') : W p l e R s mi args below meth c H locs cells slots Q (F0 mi pc lsC (st.map (jv G))) := by
  obtain ⟨hx, hb, hml, hown, hts, hnm, hSt, hf1, hf2⟩ := C
  obtain ⟨h1, h2⟩ := jand hj
  have hn := Nat.eq_of_beq_eq_true h1
  subst hn
  obtain ⟨h2, h3⟩ := jand h2
  obtain ⟨h3, h4⟩ := jand h3
  have ha := Nat.blt_eq.mp h2
  have hb' := Nat.blt_eq.mp h3
  unfold jact at hact
  rw [hI] at hact
  dsimp only at hact
  split at hact
  next o r =>
    cases hp : jis m o a with
    | false => rw [hp] at hact; cases hact
    | true =>
      rw [hp] at hact
      simp only [cond_true] at hact
      split at hact
      next v hv =>
        unfold jg at hact
        cases hact
        obtain ⟨ho, ho2, -⟩ := jis_of hp
        have hdecl : ((jC a).2.1 b).1 = (jC a).1 := of_decide_eq_true (jand (jand (jchF_at ha hb')).2).1
        show W p l e R s mi args below meth c H locs cells slots Q (F0 mi pc lsC (.ref (jad G o) :: r.map (jv G)))
        rw [jad_lt (Nat.lt_of_lt_of_le ho2 M.1.2.1)]
        exact va_get hx hb hts (jcw ha) hown hSt.1 M.1.1 o (jobj hp) (jcf a ha).1 b hb' (hts _ (jwd_in h4)) (fun x h => by rw [← hdecl]; exact h) (v := jv G v) (by rw [List.getElem?_map, List.getElem?_range hb']; exact congrArg some (jfv_jfl ha hb' M.1.2.2.2.2.2.1 M.1.2.2.2.2.2.2 hv)) hdg (kt rfl _ _ _ _ _ M hl rfl rfl)
      next => cases hact
  next => cases hact
theorem jMid_put {H1 : Heap} {locs1 : List Loc} (M : jMid G s H locs m) (hz : H1.size = H.size) (hP : va_P G.2.2.2.2.2.2.1 vwCl (jws G m') H1) (hS : va_S (jAr G) s.heap H1 locs1) (hn : m'.2.2.2.2.1 = m.2.2.2.2.1) (h1 : m'.1 1000 = m.1 1000) (h2 : m'.1 1001 = m.1 1001) (h3 : m'.2.2.1 < 93) (h4 : m'.2.2.2.1 < 93) : jMid G s H1 locs1 m' :=
  ⟨⟨hP, by rw [hn]; exact M.1.2.1, by rw [hn, hz]; exact M.1.2.2.1, h1.trans M.1.2.2.2.1, by rw [h2]; exact M.1.2.2.2.2.1, h3, h4⟩, hS⟩
set_option maxHeartbeats 2000000 in
theorem js_putfield {x : Nat} {n a b t q kd : Nat} {w : Int32} {z : Int64} {sw : List (Int32 × Nat)} (C : jCx p R s mi args meth c G k) (M : jMid G s H locs m) (hl : jLH G lsC (jL k) ls) (hI : jI k pc = some (.putfield x, n, a, b, t, q, kd, w, z, sw)) (hdg : decode (jB k) pc = .ok (.putfield x, n)) (hj : jok2 (jY k).cls (jY k).name (jT k) pc (.putfield x, n, a, b, t, q, kd, w, z, sw) = true) (hact : jact k pc ls st m = some (.inl (g, p1, p2, ls', st', m')))
    (kt : g = true → jWs p l e R s mi args below meth c Q G k cells slots m p1 ls' st' m') (hg : g = true ∨ p2 ≠ none) : W p l e R s mi args below meth c H locs cells slots Q (F0 mi pc lsC (st.map (jv G))) := by
  have C0 := C
  obtain ⟨hx, hb, hml, hown, hts, hnm, hSt, hf1, hf2⟩ := C
  obtain ⟨h1, h2⟩ := jand hj
  have hn := Nat.eq_of_beq_eq_true h1
  subst hn
  obtain ⟨h2, h3⟩ := jand h2
  obtain ⟨h3, h4⟩ := jand h3
  obtain ⟨h4, h5⟩ := jand h4
  have ha := Nat.blt_eq.mp h2
  have hb' := Nat.blt_eq.mp h3
  unfold jact at hact
  rw [hI] at hact
  dsimp only at hact
  split at hact
  next v o r =>
    cases hp : jis m o a with
    | false => rw [hp] at hact; cases hact
    | true =>
      rw [hp] at hact
      simp only [cond_true] at hact
      split at hact
      next g' m'' hv =>
        unfold jgg at hact
        cases hact
        have hg : g = true := by
          rcases hg with h | h
          · exact h
          · exact absurd rfl h
        obtain ⟨ho, ho2, -⟩ := jis_of hp
        have ho3 := Nat.lt_of_lt_of_le ho2 M.1.2.1
        have hch := jchF_at ha hb'
        obtain ⟨-, hch⟩ := jand hch
        obtain ⟨-, hch⟩ := jand hch
        obtain ⟨hR, hch⟩ := jand hch
        show W p l e R s mi args below meth c H locs cells slots Q (F0 mi pc lsC (jv G v :: .ref (jad G o) :: st'.map (jv G)))
        rw [jad_lt ho3]
        have oth : ∀ q, q < m.2.2.2.2.1 → q ≠ o → ∀ c', jK q = (4, c') → c' ≠ a := fun q hq hne c' hk e => by
          have := (jKp_at (Nat.lt_of_lt_of_le hq M.1.2.1) hk).2
          rw [e, ← ho] at this
          exact hne this.symm
        unfold jfp at hv
        split at hv
        next x0 hF =>
          cases hv
          rw [hF] at hch
          obtain ⟨c1, c2⟩ := jand hch
          have c1 := of_decide_eq_true c1
          have c2 := of_decide_eq_true c2
          refine jput_core C0 M hp hb' (jwd_in h4) (v := .int x0) (by rw [c1]; rfl) (by rw [c1]; rfl) (Or.inl c2) hdg (fun H1 locs1 e1 e2 e3 => ?_)
          refine kt rfl _ _ _ _ _ ?_ hl rfl rfl
          refine jMid_put M e1 ?_ e3 rfl (ju_at _ _ _ _ (by omega)) (ju_at _ _ _ _ (by omega)) M.1.2.2.2.2.2.1 M.1.2.2.2.2.2.2
          rw [jset_obj (G := G) (m := m) (b := b) (v := .int x0) (m' := (ju m.1 o b x0, m.2)) rfl hp ?_ (fun j hj hne => ?_) (fun q hq hne => jce_ext (ju_at _ _ _ _ hne) rfl rfl rfl rfl)] at e2
          · exact e2
          · unfold jfl
            rw [hF]
            show Value.int (ju m.1 o b x0 o b) = _
            unfold ju
            rw [if_pos ⟨rfl, rfl⟩]
          · unfold jfl
            have : ju m.1 o b x0 o j = m.1 o j := if_neg (fun e => hne e.2)
            rw [show (ju m.1 o b x0, m.2).1 o j = m.1 o j from this]
        next x0 hF =>
          cases hv
          rw [hF] at hch
          obtain ⟨c1, c2⟩ := jand hch
          have c1 := of_decide_eq_true c1
          have c2 := of_decide_eq_true c2
          have hx0 := of_decide_eq_true hg
          refine jput_core C0 M hp hb' (jwd_in h4) (v := .int x0) (by rw [c1]; show Value.int (x0 &&& 1) = _; rw [hx0]) (by rw [c1]; rcases jbit hx0 with h | h <;> rw [h] <;> decide +kernel) (Or.inl c2) hdg (fun H1 locs1 e1 e2 e3 => ?_)
          refine kt hg _ _ _ _ _ ?_ hl rfl rfl
          refine jMid_put M e1 ?_ e3 rfl (ju_at _ _ _ _ (by omega)) (ju_at _ _ _ _ (by omega)) M.1.2.2.2.2.2.1 M.1.2.2.2.2.2.2
          rw [jset_obj (G := G) (m := m) (b := b) (v := .int x0) (m' := (ju m.1 o b x0, m.2)) rfl hp ?_ (fun j hj hne => ?_) (fun q hq hne => jce_ext (ju_at _ _ _ _ hne) rfl rfl rfl rfl)] at e2
          · exact e2
          · unfold jfl
            rw [hF]
            show Value.int (ju m.1 o b x0 o b) = _
            unfold ju
            rw [if_pos ⟨rfl, rfl⟩]
          · unfold jfl
            have : ju m.1 o b x0 o j = m.1 o j := if_neg (fun e => hne e.2)
            rw [show (ju m.1 o b x0, m.2).1 o j = m.1 o j from this]
        next r0 hF =>
          cases hc : (Nat.beq r0 (jR a b) && (Nat.beq (jO a b) m.2.2.2.2.2 && (Nat.beq q 1 && Nat.blt r0 m.2.2.2.2.1))) with
          | false => rw [hc] at hv; cases hv
          | true =>
            rw [hc] at hv
            cases hv
            obtain ⟨d1, d2⟩ := jand hc
            obtain ⟨d2, d3⟩ := jand d2
            obtain ⟨d3, d4⟩ := jand d3
            have d1 := Nat.eq_of_beq_eq_true d1
            have d2 := Nat.eq_of_beq_eq_true d2
            rw [hF] at hch
            obtain ⟨c1, c2⟩ := jand hch
            obtain ⟨c2, c3⟩ := jand c2
            have c2 := of_decide_eq_true c2
            have c3 := of_decide_eq_true c3
            have hr0 : r0 < 93 := by rw [d1]; exact Nat.blt_eq.mp hR
            have hq1 : (jY k).name = "<init>" ∧ (jY k).cls = (jC a).1 := by
              have h5' : (!(Nat.beq q 1) || (decide ((jY k).name = "<init>") && decide ((jY k).cls = (jC a).1))) = true := h5
              rw [d3] at h5'
              simpa using h5'
            show W p l e R s mi args below meth c H locs cells slots Q (F0 mi pc lsC (.ref (jad G r0) :: .ref (G.1 + o) :: st'.map (jv G)))
            obtain ⟨n1, n2, -⟩ := jnar c1 (jad G r0)
            refine jput_core C0 M hp hb' (jwd_in h4) n1 n2 (Or.inr ⟨c2, hq1⟩) hdg (fun H1 locs1 e1 e2 e3 => ?_)
            refine kt rfl _ _ _ _ _ ?_ hl rfl rfl
            refine jMid_put M e1 ?_ e3 rfl rfl rfl M.1.2.2.2.2.2.1 M.1.2.2.2.2.2.2
            have key : ∀ c' j, c' < 13 → j < jNF c' → (c', j) ≠ (a, b) → ∀ q', jfl G (m.1, m.2.1, m.2.2.1, m.2.2.2.1, m.2.2.2.2.1, m.2.2.2.2.2 + 1) q' c' j = jfl G m q' c' j := by
              intro c' j hc' hj' hne q'
              unfold jfl
              split
              next => rfl
              next => rfl
              next hF' =>
                have hch' := (jand (jand (jand (jchF_at hc' hj')).2).2).2
                rw [hF'] at hch'
                have c3' := of_decide_eq_true (jand (jand hch').2).2
                have hno : jO c' j ≠ m.2.2.2.2.2 := fun e => hne (by rw [← c3', e, ← d2, c3])
                by_cases hlt : jO c' j < m.2.2.2.2.2
                · rw [if_pos hlt, if_pos (by show jO c' j < m.2.2.2.2.2 + 1; omega)]
                · rw [if_neg hlt, if_neg (by show ¬ jO c' j < m.2.2.2.2.2 + 1; omega)]
              next => rfl
              next => rfl
            rw [jset_obj (G := G) (m := m) (b := b) (v := .ref (jad G r0)) (m' := (m.1, m.2.1, m.2.2.1, m.2.2.2.1, m.2.2.2.2.1, m.2.2.2.2.2 + 1)) rfl hp ?_ (fun j hj hne => key a j ha hj (fun e => hne (Prod.mk.inj e).2) o) (fun q' hq' hne => ?_)] at e2
            · exact e2
            · unfold jfl
              rw [hF]
              show (if jO a b < m.2.2.2.2.2 + 1 then Value.ref (G.1 + jR a b) else .null) = _
              rw [if_pos (by omega), jad_lt hr0, d1]
            · unfold jce
              split
              next => rfl
              next => rfl
              next => rfl
              next => rfl
              next kk c' hn1 hn2 hn3 hn4 hkq =>
                refine congrArg (fun x => (Sum.inr (c', x) : va_E)) ?_
                refine List.map_congr_left (fun j hj => ?_)
                have hk4 : kk = 4 := jK4 (Nat.lt_of_lt_of_le hq' M.1.2.1) hkq hn1 hn2 hn3 hn4
                subst hk4
                obtain ⟨k1, k2⟩ := jKp_at (Nat.lt_of_lt_of_le hq' M.1.2.1) hkq
                exact key c' j k1 (List.mem_range.mp hj) (fun e => oth q' hq' hne c' hkq (Prod.mk.inj e).1) q'
        next r0 hF =>
          split at hv
          next len hK0 =>
            cases hc : (Nat.blt r0 m.2.2.2.2.1 && Nat.blt 0 r0) with
            | false => rw [hc] at hv; cases hv
            | true =>
              rw [hc] at hv
              cases hv
              obtain ⟨d1, d2⟩ := jand hc
              have d1 := Nat.blt_eq.mp d1
              have d2 := Nat.blt_eq.mp d2
              rw [hF] at hch
              obtain ⟨c1, c2⟩ := jand hch
              obtain ⟨c2, c3⟩ := jand c2
              have c2 := of_decide_eq_true c2
              have c3 := of_decide_eq_true c3
              have hr0 : r0 < 93 := Nat.lt_of_lt_of_le d1 M.1.2.1
              show W p l e R s mi args below meth c H locs cells slots Q (F0 mi pc lsC (.ref (jad G r0) :: .ref (G.1 + o) :: st'.map (jv G)))
              obtain ⟨n1, n2, -⟩ := jnar c1 (jad G r0)
              refine jput_core C0 M hp hb' (jwd_in h4) n1 n2 (Or.inl c2) hdg (fun H1 locs1 e1 e2 e3 => ?_)
              refine kt rfl _ _ _ _ _ ?_ hl rfl rfl
              refine jMid_put M e1 ?_ e3 rfl rfl rfl hr0 M.1.2.2.2.2.2.2
              have key : ∀ c' j, c' < 13 → j < jNF c' → (c', j) ≠ (a, b) → ∀ q', jfl G (m.1, m.2.1, r0, m.2.2.2) q' c' j = jfl G m q' c' j := by
                intro c' j hc' hj' hne q'
                unfold jfl
                split
                next => rfl
                next => rfl
                next => rfl
                next hF' =>
                  first
                  | rfl
                  | have hch' := (jand (jand (jand (jchF_at hc' hj')).2).2).2
                    rw [hF'] at hch'
                    have c3' := of_decide_eq_true (jand (jand hch').2).2
                    exact absurd (by rw [c3'.1, c3'.2, c3.1, c3.2] : (c', j) = (a, b)) hne
                next hF1 hF2 hF3 hF4 =>
                  have hch' := (jand (jand (jand (jchF_at hc' hj')).2).2).2
                  split at hch'
                  next hh => exact absurd hh hF1
                  next hh => exact absurd hh hF2
                  next hh => exact absurd hh hF3
                  next hh => exact absurd hh hF4
                  next hh =>
                    have c3' := of_decide_eq_true (jand (jand hch').2).2
                    first | rfl | exact absurd (by rw [c3'.1, c3'.2, c3.1, c3.2] : (c', j) = (a, b)) hne
                  next => cases hch'
              rw [jset_obj (G := G) (m := m) (b := b) (v := .ref (jad G r0)) (m' := (m.1, m.2.1, r0, m.2.2.2)) rfl hp ?_ (fun j hj hne => key a j ha hj (fun e => hne (Prod.mk.inj e).2) o) (fun q' hq' hne => ?_)] at e2
              · exact e2
              · unfold jfl
                rw [hF]
                show (if r0 = 0 then Value.null else .ref (G.1 + r0)) = _
                rw [if_neg (Nat.ne_of_gt d2), jad_lt hr0]
              · unfold jce
                split
                next => rfl
                next => rfl
                next => rfl
                next => rfl
                next kk c' hn1 hn2 hn3 hn4 hkq =>
                  refine congrArg (fun x => (Sum.inr (c', x) : va_E)) ?_
                  refine List.map_congr_left (fun j hj => ?_)
                  have hk4 : kk = 4 := jK4 (Nat.lt_of_lt_of_le hq' M.1.2.1) hkq hn1 hn2 hn3 hn4
                  subst hk4
                  obtain ⟨k1, k2⟩ := jKp_at (Nat.lt_of_lt_of_le hq' M.1.2.1) hkq
                  exact key c' j k1 (List.mem_range.mp hj) (fun e => oth q' hq' hne c' hkq (Prod.mk.inj e).1) q'
          next => cases hv
        next r0 hF =>
          split at hv
          next len hK0 =>
            cases hc : (Nat.blt r0 m.2.2.2.2.1 && Nat.blt 0 r0) with
            | false => rw [hc] at hv; cases hv
            | true =>
              rw [hc] at hv
              cases hv
              obtain ⟨d1, d2⟩ := jand hc
              have d1 := Nat.blt_eq.mp d1
              have d2 := Nat.blt_eq.mp d2
              rw [hF] at hch
              obtain ⟨c1, c2⟩ := jand hch
              obtain ⟨c2, c3⟩ := jand c2
              have c2 := of_decide_eq_true c2
              have c3 := of_decide_eq_true c3
              have hr0 : r0 < 93 := Nat.lt_of_lt_of_le d1 M.1.2.1
              show W p l e R s mi args below meth c H locs cells slots Q (F0 mi pc lsC (.ref (jad G r0) :: .ref (G.1 + o) :: st'.map (jv G)))
              obtain ⟨n1, n2, -⟩ := jnar c1 (jad G r0)
              refine jput_core C0 M hp hb' (jwd_in h4) n1 n2 (Or.inl c2) hdg (fun H1 locs1 e1 e2 e3 => ?_)
              refine kt rfl _ _ _ _ _ ?_ hl rfl rfl
              refine jMid_put M e1 ?_ e3 rfl rfl rfl M.1.2.2.2.2.2.1 hr0
              have key : ∀ c' j, c' < 13 → j < jNF c' → (c', j) ≠ (a, b) → ∀ q', jfl G (m.1, m.2.1, m.2.2.1, r0, m.2.2.2.2) q' c' j = jfl G m q' c' j := by
                intro c' j hc' hj' hne q'
                unfold jfl
                split
                next => rfl
                next => rfl
                next => rfl
                next hF' =>
                  first
                  | rfl
                  | have hch' := (jand (jand (jand (jchF_at hc' hj')).2).2).2
                    rw [hF'] at hch'
                    have c3' := of_decide_eq_true (jand (jand hch').2).2
                    exact absurd (by rw [c3'.1, c3'.2, c3.1, c3.2] : (c', j) = (a, b)) hne
                next hF1 hF2 hF3 hF4 =>
                  have hch' := (jand (jand (jand (jchF_at hc' hj')).2).2).2
                  split at hch'
                  next hh => exact absurd hh hF1
                  next hh => exact absurd hh hF2
                  next hh => exact absurd hh hF3
                  next hh => exact absurd hh hF4
                  next hh =>
                    have c3' := of_decide_eq_true (jand (jand hch').2).2
                    first | rfl | exact absurd (by rw [c3'.1, c3'.2, c3.1, c3.2] : (c', j) = (a, b)) hne
                  next => cases hch'
              rw [jset_obj (G := G) (m := m) (b := b) (v := .ref (jad G r0)) (m' := (m.1, m.2.1, m.2.2.1, r0, m.2.2.2.2)) rfl hp ?_ (fun j hj hne => key a j ha hj (fun e => hne (Prod.mk.inj e).2) o) (fun q' hq' hne => ?_)] at e2
              · exact e2
              · unfold jfl
                rw [hF]
                show (if r0 = 0 then Value.null else .ref (G.1 + r0)) = _
                rw [if_neg (Nat.ne_of_gt d2), jad_lt hr0]
              · unfold jce
                split
                next => rfl
                next => rfl
                next => rfl
                next => rfl
                next kk c' hn1 hn2 hn3 hn4 hkq =>
                  refine congrArg (fun x => (Sum.inr (c', x) : va_E)) ?_
                  refine List.map_congr_left (fun j hj => ?_)
                  have hk4 : kk = 4 := jK4 (Nat.lt_of_lt_of_le hq' M.1.2.1) hkq hn1 hn2 hn3 hn4
                  subst hk4
                  obtain ⟨k1, k2⟩ := jKp_at (Nat.lt_of_lt_of_le hq' M.1.2.1) hkq
                  exact key c' j k1 (List.mem_range.mp hj) (fun e => oth q' hq' hne c' hkq (Prod.mk.inj e).1) q'
          next => cases hv
        next => cases hv
      next => cases hact
  next => cases hact
end JPF
