/-! runs -/
theorem jcall_m {k pc k' pc' : Nat} {ls st as ls' st' : List Value} {m m' : jH} (hact : jact k pc ls st m = some (.inr (.inl (k', as, m', pc', ls', st')))) : m' = m := by
  unfold jact at hact
  split at hact
  next => cases hact
  next i n a b t q kd w z sw hI =>
    cases i
    all_goals dsimp only at hact
    all_goals try simp only [jg, jgg, jcall, Bool.cond_eq_ite] at hact
    all_goals repeat' split at hact
    all_goals first | (cases hact; done) | (cases hact; rfl)
theorem jcall_k {k pc k' pc' : Nat} {ls st as ls' st' : List Value} {m m' : jH} {E : jE} (hI : jI k pc = some E) (hj : jok2 (jY k).cls (jY k).name (jT k) pc E = true) (hact : jact k pc ls st m = some (.inr (.inl (k', as, m', pc', ls', st')))) : k' < 264 := by
  obtain ⟨i, n, a, b, t, q, kd, w, z, sw⟩ := E
  unfold jact at hact
  rw [hI] at hact
  dsimp only at hact
  cases i
  all_goals dsimp only at hact
  case invokevirtual x =>
    have hk := (jand (jand (jand (jand (jand (jand (jand (jand hj).2).2).2).2).2).2).2).2
    simp only [jcall, Bool.cond_eq_ite] at hact
    repeat' split at hact
    all_goals first | (cases hact; done) | (cases hact; exact Nat.blt_eq.mp hk)
  case invokestatic x =>
    have h2 := (jand hj).2
    split at hact
    next => simp only [jgg, Bool.cond_eq_ite] at hact; repeat' split at hact
            all_goals cases hact
    next => simp only [jg, Bool.cond_eq_ite] at hact; repeat' split at hact
            all_goals cases hact
    next => simp only [jg, Bool.cond_eq_ite] at hact; repeat' split at hact
            all_goals cases hact
    next hk3 hk4 hk5 =>
      simp only [jcall, Bool.cond_eq_ite] at hact
      repeat' split at hact
      all_goals first
        | (cases hact; done)
        | skip
      cases hact
      split at h2
      next => exact Nat.blt_eq.mp (jand (jand (jand h2).2).2).2
      next => exact Nat.blt_eq.mp (jand (jand (jand h2).2).2).2
      next => exact absurd rfl hk3
      next => exact absurd rfl hk4
      next => exact absurd rfl hk5
      next => cases h2
  case invokespecial x =>
    have h2 := (jand hj).2
    split at hact
    next => simp only [jg, Bool.cond_eq_ite] at hact; repeat' split at hact
            all_goals cases hact
    next hk2 =>
      simp only [jcall, Bool.cond_eq_ite] at hact
      repeat' split at hact
      all_goals first
        | (cases hact; done)
        | skip
      cases hact
      split at h2
      next => exact Nat.blt_eq.mp (jand (jand (jand (jand h2).2).2).2).2
      next => exact Nat.blt_eq.mp (jand (jand (jand (jand h2).2).2).2).2
      next => exact absurd rfl hk2
      next => cases h2
  all_goals exfalso
  all_goals try simp only [jg, jgg, jcall, Bool.cond_eq_ite] at hact
  all_goals repeat' split at hact
  all_goals cases hact
theorem jrn_np : ∀ (n d k pc : Nat) (ls st : List Value) (m : jH) (r : jX), jrn n d k pc ls st m = some r → m.2.2.2.2.1 ≤ r.2.2.2.2.2.1 := by
  intro n
  induction n with
  | zero => intro d k pc ls st m r h; cases h
  | succ n ih =>
    intro d k pc ls st m r h
    unfold jrn at h
    rcases jstp_some h with ⟨g, p1, p2, ls', st', m', hact, hh⟩ | ⟨k', as, m', pc', ls', st', z, hact, hc, hh⟩ | hact
    · have h1 := jact_np hact
      rcases hh with ⟨-, hh⟩ | ⟨-, q, -, hh⟩ <;> exact Nat.le_trans h1 (ih _ _ _ _ _ _ _ hh)
    · have hm : m' = m := jcall_m hact
      subst hm
      refine Nat.le_trans ?_ (ih _ _ _ _ _ _ _ hh)
      unfold jcr at hc
      split at hc
      · exact ih _ _ _ _ _ _ _ hc
      · cases d with
        | zero => cases hc
        | succ d => exact ih _ _ _ _ _ _ _ hc
    · have hm : r.2 = m := by
        unfold jact at hact
        split at hact
        next => cases hact
        next i n a b t q kd w z sw hI =>
          cases i
          all_goals dsimp only at hact
          all_goals try simp only [jg, jgg, jcall, Bool.cond_eq_ite] at hact
          all_goals repeat' split at hact
          all_goals first | (cases hact; done) | (cases hact; rfl)
      rw [hm]
      exact Nat.le_refl _
/-- a run of n steps at most is the machine's -/
def jSnd (G : jG) (l : Launch) (n : Nat) : Prop := ∀ (d k pc : Nat) (ls st : List Value) (m : jH) (r : jX), jrn n d k pc ls st m = some r → jOk (jM k) →
  ∀ {p : Program} {e : Env} {R : Room} {s : State} {mi : MethodId} {args : Array Value} {below : List Frame} {meth : Method} {c : Code} {H : Heap} {locs : List Loc} {cells slots : Nat} {Q : State → Prop} {lsC : Array Slot},
    jCx p R s mi args meth c G k → jMid G s H locs m → jLH G lsC (jL k) ls → jFr d k ≤ R.frames → 40 * jFr d k ≤ R.locals →
    (∀ cells', cells' + m.2.2.2.2.1 = cells + r.2.2.2.2.2.1 → cells' ≤ R.cells) → (∀ slots', slots' + jcs m.2.2.2.2.1 = slots + jcs r.2.2.2.2.2.1 → slots' ≤ R.slots) →
    (∀ (H' : Heap) (locs' : List Loc) (lsC' : Array Slot) (pc' cells' slots' : Nat), jRt k pc' r → jMid G s H' locs' r.2 → cells' + m.2.2.2.2.1 = cells + r.2.2.2.2.2.1 → slots' + jcs m.2.2.2.2.1 = slots + jcs r.2.2.2.2.2.1 → W p l e R s mi args below meth c H' locs' cells' slots' Q (F0 mi pc' lsC' ((r.1.map (jv G)).toList))) →
    W p l e R s mi args below meth c H locs cells slots Q (F0 mi pc lsC (st.map (jv G)))
set_option maxHeartbeats 4000000 in
theorem jmet_of {G : jG} {l : Launch} {n d k : Nat} {as : List Value} {m : jH} {r : jX} (ih : jSnd G l n) (h : jrn n d k 0 (jent k as) [] m = some r) (hk : k < 264) (hlen : (jen as).length ≤ jL k) : jMc l G k as m r (jFr d k) (r.2.2.2.2.2.1 - m.2.2.2.2.1) (jcs r.2.2.2.2.2.1 - jcs m.2.2.2.2.1) := by
  obtain ⟨f1, f2, f3, f4, f5⟩ := jM_facts hk
  have hnp := jrn_np _ _ _ _ _ _ _ _ h
  have hcs := jcs_mono hnp
  unfold jMc
  refine Met.ofW (cc := jB k) (maxL := jL k) (ret := jT k) f5 rfl ?_
  intro p e s mi args below meth c s₁ B hml hv
  obtain ⟨rfl, hSt, hE⟩ := hv
  have hts := atoms_spec (ws := Jvm.Cond.code (jY k) (jB k) (jL k) (jT k) :: jTB) B.pre
  have hlocks := B.notSynchronized
  have hr := B.returns
  have hx := B.exec
  have hb := B.bytes
  rw [lg_entry_eq]
  have hF1 : 1 ≤ jFr d k := by unfold jFr; omega
  refine ih d k 0 (jent k as) [] m r h (jM_ok hk) (lsC := _) ⟨hx, hb, hml, findClass_of_methodNamed B.named, fun w hw => hts w (List.mem_cons_of_mem _ hw), (name_of_methodNamed B.named B.method).1, hSt, hF1, by show 40 ≤ 40 * jFr d k; omega⟩ ⟨hE, va_S.rf⟩ (jLH_entry G hlen) (Nat.le_refl _) (Nat.le_refl _) (fun cells' hc => by show cells' ≤ r.2.2.2.2.2.1 - m.2.2.2.2.1; omega) (fun slots' hc => by show slots' ≤ jcs r.2.2.2.2.2.1 - jcs m.2.2.2.2.1; omega) ?_
  intro H' locs' lsC' pc' cells' slots' hrt M1 hc1 hc2
  have e1 : r.2.2.2.2.2.1 - m.2.2.2.2.1 = cells' := by omega
  have e2 : jcs r.2.2.2.2.2.1 - jcs m.2.2.2.2.1 = slots' := by omega
  rw [e1, e2]
  have hq : ∀ t : State, t.heap = H' → jQ G r (as.map (jv G)).toArray s (.returned (r.1.map (jv G))) t := fun t ht => ⟨rfl, by rw [ht]; exact M1.1, M1.2.F ht⟩
  rcases hrt with ⟨hd, x, hx1, hx2⟩ | ⟨hd, x, hx1, hx2⟩ | ⟨hd, hx1, hx2⟩
  · rw [hx1] at hq ⊢
    rcases hx2 with hT | ⟨hT, hbit⟩
    · exact W.iret hx hb (hr.trans hT) (fun t ht _ => hq t ht) M1.2.2.2 hd hlocks
    · exact W.zret hx hb (hr.trans hT) (by show Value.int (x &&& 1) = _; rw [hbit]) (fun t ht _ => hq t ht) M1.2.2.2 hd hlocks
  · rw [hx1] at hq ⊢
    exact W.lret hx hb (hr.trans hx2) (fun t ht _ => hq t ht) M1.2.2.2 hd hlocks
  · rw [hx1] at hq ⊢
    exact W.vret hx hb (hr.trans hx2) (fun t ht _ => hq t ht) M1.2.2.2 hd hlocks
set_option maxHeartbeats 4000000 in
theorem jsound (G : jG) (l : Launch) : ∀ n, jSnd G l n := by
  intro n
  induction n with
  | zero => intro d k pc ls st m r h; cases h
  | succ n ih =>
    intro d k pc ls st m r h hok p e R s mi args below meth c H locs cells slots Q lsC C M hl hfr hlo hc1 hc2 hend
    unfold jrn at h
    have hI : ∃ E, jI k pc = some E := by
      cases hq : jI k pc with
      | none => unfold jstp jact at h; rw [hq] at h; cases h
      | some E => exact ⟨E, rfl⟩
    obtain ⟨E, hI⟩ := hI
    obtain ⟨hdg, hj⟩ := hok.2 pc E hI
    rcases jstp_some h with ⟨g, p1, p2, ls', st', m', hact, hh⟩ | ⟨k', as, m1, pc', ls', st', z, hact, hcl, hh⟩ | hact
    · have hnp := jact_np hact
      have goon : ∀ q, jrn n d k q ls' st' m' = some r → jWs p l e R s mi args below meth c Q G k cells slots m q ls' st' m' := by
        intro q hq H' locs' lsC' cells' slots' M' hl' hc hs
        have hnp2 := jrn_np _ _ _ _ _ _ _ _ hq
        have hs1 := jcs_mono hnp
        have hs2 := jcs_mono hnp2
        exact ih d k q ls' st' m' r hq hok C M' hl' hfr hlo (fun c1 h1 => hc1 c1 (by omega)) (fun s1 h1 => hc2 s1 (by omega)) (fun H2 locs2 lsC2 pc2 c2 s2 hrt M2 h1 h2 => hend H2 locs2 lsC2 pc2 c2 s2 hrt M2 (by omega) (by omega))
      have hnp3 : m'.2.2.2.2.1 ≤ r.2.2.2.2.2.1 := by
        rcases hh with ⟨-, hh⟩ | ⟨-, q, -, hh⟩ <;> exact jrn_np _ _ _ _ _ _ _ _ hh
      have hs3 := jcs_mono hnp3
      have hs4 := jcs_mono hnp
      refine jgo C M hl hI hdg hj hact (fun hg => ?_) (fun hg q hq => ?_) ?_ (fun c1 h1 => ?_) (fun s1 h1 => ?_)
      · rcases hh with ⟨-, hh⟩ | ⟨hg', q, -, hh⟩
        · exact goon _ hh
        · rw [hg] at hg'; cases hg'
      · rcases hh with ⟨hg', hh⟩ | ⟨-, q', hq', hh⟩
        · rw [hg] at hg'; cases hg'
        · rw [hq] at hq'
          cases hq'
          exact goon _ hh
      · rcases hh with ⟨hg', hh⟩ | ⟨-, q', hq', hh⟩
        · exact Or.inl hg'
        · exact Or.inr (by rw [hq']; exact fun h => by cases h)
      · have := hc1 (c1 + (r.2.2.2.2.2.1 - m'.2.2.2.2.1)) (by omega)
        omega
      · have := hc2 (s1 + (jcs r.2.2.2.2.2.1 - jcs m'.2.2.2.2.1)) (by omega)
        omega
    · have hm : m1 = m := jcall_m hact
      subst hm
      have hcall : ∃ d', jrn n d' k' 0 (jent k' as) [] m1 = some z ∧ (k' < 264 → jFr d' k' + 1 ≤ jFr d k) := by
        unfold jcr at hcl
        split at hcl
        next hlt => exact ⟨d, hcl, fun _ => by unfold jFr; omega⟩
        next hge =>
          cases d with
          | zero => cases hcl
          | succ d => exact ⟨d, hcl, fun hk => by have := (jM_facts hk).2.2.2.1; unfold jFr; omega⟩
      obtain ⟨d', hz, hrank⟩ := hcall
      have hk : k' < 264 := jcall_k hI hj hact
      have hnp1 := jrn_np _ _ _ _ _ _ _ _ hz
      have hnp2 := jrn_np _ _ _ _ _ _ _ _ hh
      have hs1 := jcs_mono hnp1
      have hs2 := jcs_mono hnp2
      refine js_call (r := z) (fr := jFr d' k') (mc := z.2.2.2.2.2.1 - m1.2.2.2.2.1) (ms := jcs z.2.2.2.2.2.1 - jcs m1.2.2.2.2.1) C M hl hI hdg hj hact (Nat.le_trans (hrank hk) hfr) (Nat.le_trans (Nat.mul_le_mul_left 40 (hrank hk)) hlo) ?_ ?_ (fun hk hlen => jmet_of ih hz hk hlen) ?_
      · have := hc1 (cells + (r.2.2.2.2.2.1 - m1.2.2.2.2.1)) (by omega)
        omega
      · have := hc2 (slots + (jcs r.2.2.2.2.2.1 - jcs m1.2.2.2.2.1)) (by omega)
        omega
      · intro _ hls H1 locs1 M1
        subst hls
        exact ih d k pc' ls' (jps z.1 st') z.2 r hh hok C M1 hl hfr hlo (fun c1 h1 => hc1 c1 (by omega)) (fun s1 h1 => hc2 s1 (by omega)) (fun H2 locs2 lsC2 pc2 c2 s2 hrt M2 h1 h2 => hend H2 locs2 lsC2 pc2 c2 s2 hrt M2 (by omega) (by omega))
    · obtain ⟨rfl, hrt, hst⟩ := jret_of (G := G) hI hdg hj hact
      rw [hst]
      exact hend H locs lsC pc cells slots hrt M rfl rfl
