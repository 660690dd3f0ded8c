/-! rows of rows; the JDK's own -/
theorem jouter (c : ClassId) (N h0 : Nat) : ∀ i : Nat, Jvm.Free.Multi.outerC c N h0 i = arrV c N (fun j => va_rf (if j < i then some (h0 + 1 + j) else none))
  | 0 => by
    show ({ cls := c, slots := Array.replicate N .null, vm := .none } : Cell) = _
    rw [arrV_new]
    refine congrArg (arrV c N) (funext fun j => ?_)
    simp [va_rf]
  | i + 1 => by
    show (Jvm.Free.Multi.outerC c N h0 i).setSlot i (.ref (h0 + 1 + i)) = _
    rw [jouter c N h0 i, arrV_store]
    refine congrArg (arrV c N) (funext fun j => ?_)
    by_cases e : j = i
    · subst e
      simp [updV, va_rf]
    · by_cases h : j < i
      · simp [updV, e, h, Nat.lt_succ_of_lt h]
      · simp [updV, e, h, show ¬ j < i + 1 by omega]
section JML
variable {p : Program} {l : Launch} {e : Env} {R : Room} {s : State} {mi : MethodId} {args : Array Value} {below : List Frame} {meth : Method} {c : Code} {H : Heap} {locs : List Loc} {cells slots : Nat} {Q : State → Prop} {G : jG}
variable {k pc : Nat} {ls st ls' st' : List Value} {m m' : jH} {g : Bool} {p1 : Nat} {p2 : Option Nat} {lsC : Array Slot}
set_option maxHeartbeats 2000000 in
theorem js_multianewarray {x y : Nat} {n a b t q kd : Nat} {w : Int32} {z : Int64} {sw : List (Int32 × Nat)} (C : jCx p R s mi args meth c G k) (M : jMid G s H locs m) (hl : jLH G lsC (jL k) ls) (hI : jI k pc = some (.multianewarray x y, n, a, b, t, q, kd, w, z, sw)) (hdg : decode (jB k) pc = .ok (.multianewarray x y, n)) (hj : jok2 (jY k).cls (jY k).name (jT k) pc (.multianewarray x y, n, a, b, t, q, kd, w, z, sw) = true) (hact : jact k pc ls st m = some (.inl (g, p1, p2, ls', st', m')))
    (kt : g = true → jWs p l e R s mi args below meth c Q G k cells slots m p1 ls' st' m') (hg : g = true ∨ p2 ≠ none) (hr : ∀ cells', cells' + m.2.2.2.2.1 = cells + m'.2.2.2.2.1 → cells' ≤ R.cells) (hr2 : ∀ slots', slots' + jcs m.2.2.2.2.1 = slots + jcs m'.2.2.2.2.1 → slots' ≤ R.slots) : W p l e R s mi args below meth c H locs cells slots Q (F0 mi pc lsC (st.map (jv G))) := by
  have C0 := C
  obtain ⟨hx, hb, hml, hown, hts, hnm, hSt, hf1, hf2⟩ := C
  unfold jact at hact
  rw [hI] at hact
  dsimp only at hact
  obtain ⟨h1, h2⟩ := jand hj
  have hn := Nat.eq_of_beq_eq_true h1
  subst hn
  obtain ⟨h2, h3⟩ := jand h2
  have h2 := Nat.eq_of_beq_eq_true h2
  subst h2
  split at hact
  next kk nn r =>
    cases hp : Nat.beq m.2.2.2.2.1 20 with
    | false => rw [hp] at hact; cases hact
    | true =>
      rw [hp] at hact
      simp only [cond_true] at hact
      unfold jgg at hact
      cases hact
      have hg : (decide (kk = 60) && decide (nn = 6)) = true := by
        rcases hg with h | h
        · exact h
        · exact absurd rfl h
      obtain ⟨g1, g2⟩ := jand hg
      have g1 := of_decide_eq_true g1
      have g2 := of_decide_eq_true g2
      subst g1
      subst g2
      have hnp := Nat.eq_of_beq_eq_true hp
      have hsz : H.size = G.1 + 20 := by
        rcases M.1.2.2.1 with h | h
        · omega
        · rw [hnp] at h; exact h
      have hcs : jcs 27 = jcs 20 + (6 + 6 * 60) := by decide +kernel
      show W p l e R s mi args below meth c H locs cells slots Q (F0 mi pc lsC (.int 60 :: .int 6 :: r.map (jv G)))
      intro T hT Xs
      obtain ⟨vm₁, cA, comp, -, fA, fC, hO, -, X', step⟩ := Xs.multianewarray2F (ty := .long) hx hown (hts _ (jwd_in h3)) hSt.2.2.2.2.2.2.2.2.2 (hts _ jaw.2.1) (g := F0 mi pc lsC (.int 60 :: .int 6 :: r.map (jv G))) rfl (by rw [hb]; exact hdg) rfl (by decide) (by decide) (by decide) (by decide) (by decide) (by decide) (by decide) (hr _ (by show cells + (1 + 6) + _ = cells + 27; rw [hnp])) (hr2 _ (by show slots + (6 + 6 * 60) + _ = slots + jcs 27; rw [hnp, hcs]; omega))
      have hcR : some cA = some _ := fA.symm.trans (hSt.1.2 3 _ rfl).2
      cases hcR
      have hcL : some comp = some _ := fC.symm.trans (hSt.1.2 1 _ rfl).2
      cases hcL
      have hTh : (T.setVm vm₁).heap = H := hT
      obtain ⟨f1, f2, -, -⟩ := Jvm.Free.Multi.fill_facts (T.setVm vm₁) G.2.2.2.2.2.2.2.2.2.2 G.2.2.2.2.2.2.2.2.1 6 60 (defaultValue .long) 6
      have hold : ∀ x : Nat, x < H.size → (Jvm.Free.Multi.fill (T.setVm vm₁) G.2.2.2.2.2.2.2.2.2.2 G.2.2.2.2.2.2.2.2.1 6 60 (defaultValue .long) 6).heap[x]? = H[x]? := fun x hx => by
        have := Jvm.Free.Multi.fill_old (T.setVm vm₁) G.2.2.2.2.2.2.2.2.2.2 G.2.2.2.2.2.2.2.2.1 6 60 (defaultValue .long) (a := x) (by rw [hTh]; exact hx) 6
        rw [hTh] at this
        exact this
      have hrow : ∀ j : Nat, j < 6 → (Jvm.Free.Multi.fill (T.setVm vm₁) G.2.2.2.2.2.2.2.2.2.2 G.2.2.2.2.2.2.2.2.1 6 60 (defaultValue .long) 6).heap[H.size + 1 + j]? = some (Jvm.Free.Multi.innerC G.2.2.2.2.2.2.2.2.1 60 (defaultValue .long)) := fun j hj => by
        have := Jvm.Free.Multi.fill_inner (T.setVm vm₁) G.2.2.2.2.2.2.2.2.2.2 G.2.2.2.2.2.2.2.2.1 6 60 (defaultValue .long) 6 j hj
        rw [hTh] at this
        exact this
      rw [hTh] at f1 f2
      have hout : Jvm.Free.Multi.outerC G.2.2.2.2.2.2.2.2.2.2 6 H.size 6 = vp_cell G.2.2.2.2.2.2.2.2.2.2 (6, .inr (.inr (.inr (.inr (fun i => if i < 6 then some (H.size + 1 + i) else none))))) := by
        rw [vp_cell_q]
        exact jouter _ 6 H.size 6
      rw [hout] at f2
      have hin : Jvm.Free.Multi.innerC G.2.2.2.2.2.2.2.2.1 60 (defaultValue .long) = vp_cell G.2.2.2.2.2.2.2.2.1 (60, .inr (.inl (fun _ => 0))) := by
        rw [vp_cell_l]
        show ({ cls := _, slots := Array.replicate 60 (.long 0), vm := .none } : Cell) = _
        rw [arrV_new]
      generalize hF : (Jvm.Free.Multi.fill (T.setVm vm₁) G.2.2.2.2.2.2.2.2.2.2 G.2.2.2.2.2.2.2.2.1 6 60 (defaultValue .long) 6) = F at f1 f2 hold hrow
      have hcut : ∀ q, q < 20 → jce G (m.1, (fun q j => if 21 ≤ q ∧ q < 27 then 0 else m.2.1 q j), m.2.2.1, m.2.2.2.1, 27, m.2.2.2.2.2) q = jce G m q := fun q hq => jce_ext rfl (by funext j; exact if_neg (by omega)) rfl rfl rfl
      have := kt hg F.heap locs lsC (cells + 1 + 6) (slots + 6 + 6 * 60) ⟨⟨?_, ?_, ?_, ?_, ?_, ?_, ?_⟩, ?_⟩ hl (by show _ = cells + 27; rw [hnp]) (by show _ = slots + jcs 27; rw [hnp, hcs]; omega)
      · obtain ⟨t2, a1, b1⟩ := this F rfl (by rw [← hF]; exact X')
        refine ⟨t2, ?_, b1⟩
        refine step t2 ?_
        have e20 : T.heap.size = jad G 20 := by rw [hT, hsz, jad_lt (by decide)]
        have a2 : Steps p.tables e below (F.setTop { method := mi, pc := pc + 4, locals := lsC, stack := .ref T.heap.size :: r.map (jv G), locked := none }) t2 := by
          rw [e20]; exact a1
        rw [← hF] at a2
        exact a2
      · intro i q hi
        obtain ⟨g1, rfl⟩ := jws_of hi
        have g1 : i < 27 := g1
        rcases Nat.lt_or_ge i 20 with h | h
        · rw [hcut i h]
          exact (M.1.1 i _ (jws_get (by omega))).kept (hold (G.1 + i) (by omega))
        · rcases Nat.lt_or_ge i 21 with h' | h'
          · have : i = 20 := by omega
            subst this
            show F.heap[G.1 + 20]? = some (vp_cell _ _)
            rw [← hsz, f2, hsz]
          · obtain ⟨u, rfl⟩ : ∃ u, i = 21 + u := ⟨i - 21, by omega⟩
            have hu : u < 6 := by omega
            unfold jce
            rw [jK_row hu]
            show F.heap[G.1 + (21 + u)]? = some (vp_cell _ _)
            rw [show G.1 + (21 + u) = H.size + 1 + u by omega, hrow u hu, hin]
            refine congrArg (fun f => some (vp_cell _ (60, .inr (.inl f)))) (funext fun j => ?_)
            exact (if_pos (by omega)).symm
      · show 27 ≤ 93
        decide
      · exact Or.inr (by rw [f1]; show _ = G.1 + 27; omega)
      · exact M.1.2.2.2.1
      · exact M.1.2.2.2.2.1
      · exact M.1.2.2.2.2.2.1
      · exact M.1.2.2.2.2.2.2
      · exact ⟨Nat.le_trans M.2.1 (by omega), fun x h1 h2 => (hold x (Nat.lt_of_lt_of_le h1 M.2.1)).trans (M.2.2.1 x h1 h2), M.2.2.2⟩
  next => cases hact

end JML
