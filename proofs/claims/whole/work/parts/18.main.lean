/-! the main theorem: a run of the abstract machine is a run of the machine -/
def jFr (d k : Nat) : Nat := 11 * d + jrk k + 1
/-- the instruction here returns r -/
def jRt (k pc : Nat) (r : jX) : Prop :=
  (decode (jB k) pc = .ok (.ireturn, 1) ∧ ∃ x, r.1 = some (.int x) ∧ (jT k = some .int ∨ jT k = some .boolean ∧ x &&& 1 = x)) ∨
  (decode (jB k) pc = .ok (.lreturn, 1) ∧ ∃ x, r.1 = some (.long x) ∧ jT k = some .long) ∨
  (decode (jB k) pc = .ok (.return_, 1) ∧ r.1 = none ∧ jT k = none)
section JMN
variable {p : Program} {l : Launch} {e : Env} {R : Room} {s : State} {mi : MethodId} {args : Array Value} {below : List Frame} {meth : Method} {c : Code} {H : Heap} {locs : List Loc} {cells slots : Nat} {Q : State → Prop} {G : jG}
variable {k pc : Nat} {ls st ls' st' : List Value} {m m' : jH} {g : Bool} {p1 : Nat} {p2 : Option Nat} {lsC : Array Slot}
theorem jret_of {E : jE} {r : jX} (hI : jI k pc = some E) (hdg : decode (jB k) pc = .ok (E.1, E.2.1)) (hj : jok2 (jY k).cls (jY k).name (jT k) pc E = true) (hact : jact k pc ls st m = some (.inr (.inr r))) : r.2 = m ∧ jRt k pc r ∧ st.map (jv G) = (r.1.map (jv G)).toList := by
  obtain ⟨i, n, a, b, t, q, kd, w, z, sw⟩ := E
  unfold jact at hact
  rw [hI] at hact
  dsimp only at hact
  cases i
  all_goals dsimp only at hact
  case ireturn =>
    have hn := Nat.eq_of_beq_eq_true hj
    subst hn
    split at hact
    next x =>
      split at hact
      next hT => cases hact; exact ⟨rfl, Or.inl ⟨hdg, x, rfl, Or.inl hT⟩, rfl⟩
      next hT =>
        rw [Bool.cond_eq_ite] at hact
        split at hact
        next hx => cases hact; exact ⟨rfl, Or.inl ⟨hdg, x, rfl, Or.inr ⟨hT, of_decide_eq_true hx⟩⟩, rfl⟩
        next => cases hact
      next => cases hact
    next => cases hact
  case lreturn =>
    obtain ⟨h1, h2⟩ := jand hj
    have hn := Nat.eq_of_beq_eq_true h1
    subst hn
    split at hact
    next x => cases hact; exact ⟨rfl, Or.inr (Or.inl ⟨hdg, x, rfl, of_decide_eq_true h2⟩), rfl⟩
    next => cases hact
  case return_ =>
    obtain ⟨h1, h2⟩ := jand hj
    have hn := Nat.eq_of_beq_eq_true h1
    subst hn
    split at hact
    next => cases hact; exact ⟨rfl, Or.inr (Or.inr ⟨hdg, rfl, of_decide_eq_true h2⟩), rfl⟩
    next => cases hact
  all_goals exfalso
  all_goals try simp only [jg, jgg, jcall, Bool.cond_eq_ite] at hact
  all_goals repeat' split at hact
  all_goals cases hact
/-- what a call needs: the method called by contract -/
def jMc (l : Launch) (G : jG) (k' : Nat) (as : List Value) (m1 : jH) (r : jX) (fr mc ms : Nat) : Prop :=
  Met l (jY k') (Jvm.Cond.code (jY k') (jB k') (jL k') (jT k') :: jTB) { frames := fr, cells := mc, slots := ms, locals := 40 * fr } (va_Pc (as.map (jv G)) (jWd G m1)) (jQ G r) mc ms (jAr G)
theorem jM_ok {k' : Nat} (h : k' < 264) : jOk (jM k') := by
  rcases jck_all k' (by omega) with q | q
  · exfalso
    have : ∀ j, j < 264 → (jM j).1.cls ≠ "java/lang/Math" := by decide +kernel
    exact this k' h q
  · exact q
theorem jM_facts {k' : Nat} (h : k' < 264) : (Jvm.Cond.code (jY k') (jB k') (jL k') (jT k')) ∈ jTB ∧ (Jvm.Cond.initialized (jY k').cls) ∈ jTB ∧ jL k' ≤ 14 ∧ jrk k' ≤ 10 ∧ plainName (jY k').cls = true := by
  have hm := (jM_ok h).1
  unfold jckM at hm
  obtain ⟨h1, h2⟩ := jand hm
  obtain ⟨h2, h3⟩ := jand h2
  obtain ⟨h3, h4⟩ := jand h3
  obtain ⟨h4, h5⟩ := jand h4
  refine ⟨?_, jwd_in h2, Nat.le_of_ble_eq_true h3, Nat.le_of_ble_eq_true h4, h5⟩
  rw [Bool.or_eq_true] at h1
  rcases h1 with q | q
  · exfalso
    have : ∀ j, j < 264 → (jM j).1.cls ≠ "OpensLikeThatLaw" := by decide +kernel
    exact this k' h (of_decide_eq_true q)
  · exact jwd_in q
set_option maxHeartbeats 4000000 in
theorem js_call {E : jE} {k' pc' fr mc ms : Nat} {as : List Value} {m1 : jH} {r : jX} (C : jCx p R s mi args meth c G k) (M : jMid G s H locs m) (hl : jLH G lsC (jL k) ls) (hI : jI k pc = some E) (hdg : decode (jB k) pc = .ok (E.1, E.2.1)) (hj : jok2 (jY k).cls (jY k).name (jT k) pc E = true) (hact : jact k pc ls st m = some (.inr (.inl (k', as, m1, pc', ls', st'))))
    (hfr : fr + 1 ≤ R.frames) (hlo : 40 * (fr + 1) ≤ R.locals) (hc1 : cells + mc ≤ R.cells) (hc2 : slots + ms ≤ R.slots)
    (hM : k' < 264 → (jen as).length ≤ jL k' → jMc l G k' as m1 r fr mc ms)
    (kk : m1 = m → ls' = ls → ∀ (H1 : Heap) (locs1 : List Loc), jMid G s H1 locs1 r.2 → W p l e R s mi args below meth c H1 locs1 (cells + mc) (slots + ms) Q (F0 mi pc' lsC ((jps r.1 st').map (jv G)))) : W p l e R s mi args below meth c H locs cells slots Q (F0 mi pc lsC (st.map (jv G))) := by
  obtain ⟨hx, hb, hml, hown, hts, hnm, hSt, hf1, hf2⟩ := C
  obtain ⟨i, n, a, b, t, q, kd, w, z, sw⟩ := E
  unfold jact at hact
  rw [hI] at hact
  dsimp only at hact
  have hroom : ∀ rest : List Value, rest.length * 2 ≤ 8 → 2 * (F0 mi pc lsC (st.map (jv G))).monitorRoom + ((rest.map (jv G)).map fun v => v.category).sum ≤ 8 := fun rest h => by
    have := jcat G rest
    exact lv_room (by omega)
  have popped : ∀ {n : Nat} {as rest : List Value}, jpop n st = some (as, rest) → as.length = n ∧ st = as.reverse ++ rest := by
    intro n as rest h
    unfold jpop at h
    rw [Bool.cond_eq_ite] at h
    split at h
    next hle =>
      cases h
      have := Nat.le_of_ble_eq_true hle
      exact ⟨by simp; omega, by simp⟩
    next => cases h
  cases i
  all_goals dsimp only at hact
  case invokevirtual x =>
    obtain ⟨h1, h2⟩ := jand hj
    have hn := Nat.eq_of_beq_eq_true h1
    subst hn
    obtain ⟨h2, h3⟩ := jand h2
    obtain ⟨h3, h4⟩ := jand h3
    obtain ⟨h4, h5⟩ := jand h4
    obtain ⟨h5, h6⟩ := jand h5
    obtain ⟨h6, h7⟩ := jand h6
    obtain ⟨h7, h8⟩ := jand h7
    obtain ⟨h8, h9⟩ := jand h8
    have h5 := of_decide_eq_true h5
    have hq := Nat.blt_eq.mp h6
    have hk := Nat.blt_eq.mp h9
    obtain ⟨hplain, hpar⟩ := jand h4
    obtain ⟨hp1, hp2⟩ := jand hplain
    obtain ⟨f1, f2, f3, f4, f5⟩ := jM_facts hk
    split at hact
    next as0 o rest hpop =>
      rw [Bool.cond_eq_ite] at hact
      split at hact
      next hcond =>
        obtain ⟨hp, -⟩ := jand hcond
        unfold jcall at hact
        rw [Bool.cond_eq_ite] at hact
        split at hact
        next hcall =>
          obtain ⟨e1, e2⟩ := jand hcall
          cases hact
          obtain ⟨hlen, hst⟩ := popped hpop
          obtain ⟨-, ho, -⟩ := jis_of hp
          have ho3 := Nat.lt_of_lt_of_le ho M.1.2.1
          have hmet := hM hk (Nat.le_of_ble_eq_true e1)
          have hsub : (Value.ref o :: as0).map (jv G) = .ref (G.1 + o) :: as0.map (jv G) := by
            rw [List.map_cons]
            show Value.ref (jad G o) :: _ = _
            rw [jad_lt ho3]
          unfold jMc at hmet
          rw [hsub] at hmet
          refine jcont (r := r) (va_runV (As := as0.map (jv G)) (rest := st'.map (jv G)) (C := (jC q).1) ⟨hx, hb, hml, hown, hts⟩ hmet (cwV b hts (jgood ?_) rfl rfl rfl ⟨h5, of_decide_eq_true hp1, of_decide_eq_true hp2, of_decide_eq_true hpar⟩ ⟨hfr, by show 8 + (_ + 11) + 40 * fr ≤ _; omega⟩) ⟨jblind _, va_recv hSt.1 M.1.1 (jcf q hq).1 (jobj hp), fun U hU hW => ⟨rfl, jWd_of hSt M hU hW⟩⟩ rfl (by simp [hlen]) hl.1 (by rw [hst]; simp [jv, jad_lt ho3]) (hroom _ (Nat.le_of_ble_eq_true e2)) hdg ⟨hc1, hc2⟩) M.2 (fun H1 locs1 M1 => ?_)
          · intro w hw
            rcases List.mem_append.mp hw with hw | hw
            · simp only [List.mem_cons, List.not_mem_nil, or_false] at hw
              rcases hw with rfl | rfl | rfl | rfl
              · exact jwd_in h3
              · exact jwd_in h7
              · rw [← h5]; exact jwd_in h8
              · rw [← h5]; exact f2
            · rcases List.mem_cons.mp hw with rfl | hw
              · exact f1
              · exact hw
          · rw [jps_map]
            exact kk rfl rfl H1 locs1 M1
        next => cases hact
      next => cases hact
    next => cases hact
  case invokestatic x =>
    obtain ⟨h1, h2⟩ := jand hj
    have hn := Nat.eq_of_beq_eq_true h1
    subst hn
    split at hact
    next => split at hact
            · split at hact
              · rw [Bool.cond_eq_ite] at hact
                split at hact <;> cases hact
              · cases hact
            · rw [Bool.cond_eq_ite] at hact
              split at hact <;> cases hact
            · cases hact
    next => split at hact
            · rw [Bool.cond_eq_ite] at hact
              split at hact <;> cases hact
            · cases hact
    next => split at hact
            · rw [Bool.cond_eq_ite] at hact
              split at hact <;> cases hact
            · cases hact
    next hk3 hk4 hk5 =>
      split at hact
      next as0 rest hpop =>
        unfold jcall at hact
        rw [Bool.cond_eq_ite] at hact
        split at hact
        next hcall =>
          obtain ⟨e1, e2⟩ := jand hcall
          cases hact
          obtain ⟨hlen, hst⟩ := popped hpop
          split at h2
          next =>
            obtain ⟨h3, h4⟩ := jand h2
            obtain ⟨h4, h5⟩ := jand h4
            obtain ⟨h5, h6⟩ := jand h5
            have hk := Nat.blt_eq.mp h6
            obtain ⟨hplain, hpar⟩ := jand h4
            obtain ⟨hp1, hp2⟩ := jand hplain
            obtain ⟨f1, f2, f3, f4, f5⟩ := jM_facts hk
            have hmet := hM hk (Nat.le_of_ble_eq_true e1)
            unfold jMc at hmet
            refine jcont (r := r) (va_runS (As := as.map (jv G)) (rest := st'.map (jv G)) ⟨hx, hb, hml, hown, hts⟩ hmet (va_cwS b hts (jgood ?_) rfl rfl rfl ⟨of_decide_eq_true hp1, of_decide_eq_true hp2, of_decide_eq_true hpar⟩ ⟨hfr, by show 8 + (_ + 11) + 40 * fr ≤ _; omega⟩) ⟨jblind _, fun U hU hW => ⟨rfl, jWd_of hSt M hU hW⟩⟩ rfl (by simp [hlen]) hl.1 (by rw [hst]; simp) (hroom _ (Nat.le_of_ble_eq_true e2)) hdg ⟨hc1, hc2⟩) M.2 (fun H1 locs1 M1 => ?_)
            · intro w hw
              rcases List.mem_append.mp hw with hw | hw
              · simp only [List.mem_cons, List.not_mem_nil, or_false] at hw
                rcases hw with rfl | rfl | rfl
                · exact jwd_in h3
                · exact jwd_in h5
                · exact f2
              · rcases List.mem_cons.mp hw with rfl | hw
                · exact f1
                · exact hw
            · rw [jps_map]
              exact kk rfl rfl H1 locs1 M1
          next =>
            obtain ⟨h3, h4⟩ := jand h2
            obtain ⟨h4, h5⟩ := jand h4
            obtain ⟨h5, h6⟩ := jand h5
            have hk := Nat.blt_eq.mp h6
            obtain ⟨hplain, hpar⟩ := jand h4
            obtain ⟨hp1, hp2⟩ := jand hplain
            obtain ⟨f1, f2, f3, f4, f5⟩ := jM_facts hk
            have hmet := hM hk (Nat.le_of_ble_eq_true e1)
            unfold jMc at hmet
            have hnest := hSt.2.2.2.2.2.2.2.2.1 _ (List.mem_of_getElem? (of_decide_eq_true h3))
            refine jcont (r := r) (va_runSN (As := as.map (jv G)) (rest := st'.map (jv G)) ⟨hx, hb, hml, hown, hts⟩ hmet ⟨va_cnB b hts (jgood ?_) rfl rfl rfl hnest (hts _ f2) ⟨of_decide_eq_true hp1, of_decide_eq_true hp2, of_decide_eq_true hpar⟩ ⟨hfr, by show 8 + (_ + 11) + 40 * fr ≤ _; omega⟩, hts _ (jwd_in h5), trivial⟩ ⟨jblind _, fun U hU hW => ⟨rfl, jWd_of hSt M hU hW⟩⟩ rfl (by simp [hlen]) hl.1 (by rw [hst]; simp) (hroom _ (Nat.le_of_ble_eq_true e2)) hdg ⟨hc1, hc2⟩) M.2 (fun H1 locs1 M1 => ?_)
            · intro w hw
              rcases List.mem_cons.mp hw with rfl | hw
              · exact f1
              · exact hw
            · rw [jps_map]
              exact kk rfl rfl H1 locs1 M1
          next => exact absurd rfl hk3
          next => exact absurd rfl hk4
          next => exact absurd rfl hk5
          next => cases h2
        next => cases hact
      next => cases hact
  case invokespecial x =>
    obtain ⟨h1, h2⟩ := jand hj
    have hn := Nat.eq_of_beq_eq_true h1
    subst hn
    split at hact
    next => split at hact
            · rw [Bool.cond_eq_ite] at hact
              split at hact <;> cases hact
            · cases hact
    next hk2 =>
      split at hact
      next as0 o rest hpop =>
        rw [Bool.cond_eq_ite] at hact
        split at hact
        next hp =>
          unfold jcall at hact
          rw [Bool.cond_eq_ite] at hact
          split at hact
          next hcall =>
            obtain ⟨e1, e2⟩ := jand hcall
            cases hact
            obtain ⟨hlen, hst⟩ := popped hpop
            obtain ⟨-, ho, -⟩ := jis_of hp
            have ho3 := Nat.lt_of_lt_of_le ho M.1.2.1
            have hsub : (Value.ref o :: as0).map (jv G) = .ref (G.1 + o) :: as0.map (jv G) := by
              rw [List.map_cons]
              show Value.ref (jad G o) :: _ = _
              rw [jad_lt ho3]
            split at h2
            next =>
              obtain ⟨h3, h4⟩ := jand h2
              obtain ⟨h4, h5⟩ := jand h4
              obtain ⟨h5, h6⟩ := jand h5
              obtain ⟨h6, h7⟩ := jand h6
              have hk := Nat.blt_eq.mp h7
              obtain ⟨hini, hret⟩ := of_decide_eq_true h5
              obtain ⟨hplain, hpar⟩ := jand h4
              obtain ⟨hp1, hp2⟩ := jand hplain
              obtain ⟨f1, f2, f3, f4, f5⟩ := jM_facts hk
              have hmet := hM hk (Nat.le_of_ble_eq_true e1)
              unfold jMc at hmet
              rw [hsub, show jT k' = none from hret] at hmet
              rw [show jT k' = none from hret] at f1
              refine jcont (r := r) (va_runI (As := as0.map (jv G)) (rest := st'.map (jv G)) ⟨hx, hb, hml, hown, hts⟩ hmet (cwI b hts (jgood ?_) rfl rfl rfl (hts _ f2) (hts _ (jwd_in h3)) (hts _ (jwd_in h6)) hini ⟨of_decide_eq_true hp1, of_decide_eq_true hp2, of_decide_eq_true hpar⟩ ⟨hfr, by show 8 + (_ + 11) + 40 * fr ≤ _; omega⟩) ⟨jblind _, fun U hU hW => ⟨rfl, jWd_of hSt M hU hW⟩⟩ rfl (by simp [hlen]) hl.1 (by rw [hst]; simp [jv, jad_lt ho3]) (hroom _ (Nat.le_of_ble_eq_true e2)) hdg ⟨hc1, hc2⟩) M.2 (fun H1 locs1 M1 => ?_)
              · intro w hw
                rcases List.mem_cons.mp hw with rfl | hw
                · exact f1
                · exact hw
              · rw [jps_map]
                exact kk rfl rfl H1 locs1 M1
            next =>
              obtain ⟨h3, h4⟩ := jand h2
              obtain ⟨h4, h5⟩ := jand h4
              obtain ⟨h5, h6⟩ := jand h5
              obtain ⟨h6, h7⟩ := jand h6
              have hk := Nat.blt_eq.mp h7
              obtain ⟨hini, hret⟩ := of_decide_eq_true h5
              obtain ⟨hplain, hpar⟩ := jand h4
              obtain ⟨hp1, hp2⟩ := jand hplain
              obtain ⟨f1, f2, f3, f4, f5⟩ := jM_facts hk
              have hmet := hM hk (Nat.le_of_ble_eq_true e1)
              unfold jMc at hmet
              rw [hsub, show jT k' = none from hret] at hmet
              rw [show jT k' = none from hret] at f1
              have hnest := hSt.2.2.2.2.2.2.2.2.1 _ (List.mem_of_getElem? (of_decide_eq_true h3))
              refine jcont (r := r) (va_runIN (As := as0.map (jv G)) (rest := st'.map (jv G)) ⟨hx, hb, hml, hown, hts⟩ hmet ⟨va_cnB b hts (jgood ?_) rfl rfl rfl hnest (hts _ f2) ⟨of_decide_eq_true hp1, of_decide_eq_true hp2, of_decide_eq_true hpar⟩ ⟨hfr, by show 8 + (_ + 11) + 40 * fr ≤ _; omega⟩, hini, hts _ (jwd_in h6)⟩ ⟨jblind _, fun U hU hW => ⟨rfl, jWd_of hSt M hU hW⟩⟩ rfl (by simp [hlen]) hl.1 (by rw [hst]; simp [jv, jad_lt ho3]) (hroom _ (Nat.le_of_ble_eq_true e2)) hdg ⟨hc1, hc2⟩) M.2 (fun H1 locs1 M1 => ?_)
              · intro w hw
                rcases List.mem_cons.mp hw with rfl | hw
                · exact f1
                · exact hw
              · rw [jps_map]
                exact kk rfl rfl H1 locs1 M1
            next => exact absurd rfl hk2
            next => cases h2
          next => cases hact
        next => cases hact
      next => cases hact
  all_goals exfalso
  all_goals try simp only [jg, jgg, jcall, Bool.cond_eq_ite] at hact
  all_goals repeat' split at hact
  all_goals cases hact
end JMN
