/-! the reference goes, to the end -/
section GOF
variable {d : Nat} {I I' : Nat → Nat → Int32} {L : Nat → Nat → Int64} {c e : Nat} {x y z : Int32} {lw : List aLn} {n m w s k B st : Nat} {v : Nat → aMv} {pe : Nat → aPe} {D : Nat → Int32} {one : Option Nat} {far far0 : Nat → Nat} {bs sh : Bool} {g : Nat → Nat → Nat} {y1 y3 : Int32}
abbrev rvG (n B : Nat) (v : Nat → aMv) (bs sh : Bool) (g : Nat → Nat → Nat) (st : Nat) : (Nat → Nat) → (Nat → Nat) → Bool → Nat → Nat → Prop := rInv n (cG bs B sh g (tS v)) (fun s _ => s) (fun s m => tS v m s) (sdF n (cG bs B sh g (tS v)) (tS v) st)
theorem q_210w (hk : kitM n v I) (hg : ∀ w s, w < n → s < 54 → 0 < g w s → tS v w s < 54 ∧ g w s ≤ 99) (hsp : spM g bs n I) (hB : B < 4096) (hst : st < 54) (hs : s < 54) : ∀ (f m : Nat) (far : Nat → Nat) (b : Bool) (v9 v10 : Value), m + f = n → rvG n B v bs sh g st far0 far b s m → ∃ far' b' u9 u10, jat d 210 62 [.ref 58, .int y1, .int (nI st), .int y3, .int (nI B), .int (if sh = true then 1 else 0), .int (if b = true then 1 else 0), .int (nI s), .int (nI m), v9, v10] [] (jmk (f88 I far) L c e) = jat d 210 52 [.ref 58, .int y1, .int (nI st), .int y3, .int (nI B), .int (if sh = true then 1 else 0), .int (if b' = true then 1 else 0), .int (nI (s + 1)), .int (nI n), u9, u10] [] (jmk (f88 I far') L c e) ∧ rvG n B v bs sh g st far0 far' b' (s + 1) 0 := by
  have hn := hk.1
  have hm' : ∀ i, i < n → mvOk (v i) := fun i hi => (hk.2.2 i hi).1
  intro f
  induction f with
  | zero =>
    intro m far b v9 v10 hm hi
    have hm : m = n := hm
    subst hm
    refine ⟨far, b, v9, v10, ?_, rInv_next hi⟩
    rw [jb_210_62, (kitM_88 hk).2.1, decide_eq_true (by rw [nI_leI (by omega) (by omega)]; exact Nat.le_refl _), cond_true, nI_1]
  | succ f ih =>
    intro m far b v9 v10 hm hi
    have hmn : m < n := by omega
    obtain ⟨u9, u10, h1, h2⟩ := q_210m (d := d) (L := L) (c := c) (e := e) (st := st) (y1 := y1) (y3 := y3) (sh := sh) hk hg hsp hB hi.1 (b := b) hs hmn v9 v10
    have hstep := rInv_step (X := fun s _ => s) (Y := fun s m => tS v m s) hs (tS_lt hm' hmn hs) (cG_le hg hmn hs).1 (fun hsd hr => sdF_step hst hs hmn hsd hr) hi
    by_cases hr : rcF (cG bs B sh g (tS v)) (fun s _ => s) (fun s m => tS v m s) far s m
    · obtain ⟨far', b', w9, w10, r1, r2⟩ := ih (m + 1) _ true u9 u10 (by omega) (hstep.1 hr)
      exact ⟨far', b', w9, w10, (h1 hr).trans r1, r2⟩
    · obtain ⟨far', b', w9, w10, r1, r2⟩ := ih (m + 1) far b u9 u10 (by omega) (hstep.2 hr)
      exact ⟨far', b', w9, w10, (h2 hr).trans r1, r2⟩
theorem q_210v (hk : kitM n v I) (hg : ∀ w s, w < n → s < 54 → 0 < g w s → tS v w s < 54 ∧ g w s ≤ 99) (hsp : spM g bs n I) (hB : B < 4096) (hst : st < 54) : ∀ (f s : Nat) (far : Nat → Nat) (b : Bool) (v8 v9 v10 : Value), s + f = 54 → rvG n B v bs sh g st far0 far b s 0 → ∃ far' b' u8 u9 u10, jat d 210 52 [.ref 58, .int y1, .int (nI st), .int y3, .int (nI B), .int (if sh = true then 1 else 0), .int (if b = true then 1 else 0), .int (nI s), v8, v9, v10] [] (jmk (f88 I far) L c e) = jat d 210 41 [.ref 58, .int y1, .int (nI st), .int y3, .int (nI B), .int (if sh = true then 1 else 0), .int (if b' = true then 1 else 0), .int (nI 54), u8, u9, u10] [] (jmk (f88 I far') L c e) ∧ rvG n B v bs sh g st far0 far' b' 54 0 := by
  intro f
  induction f with
  | zero =>
    intro s far b v8 v9 v10 hs hi
    have hs : s = 54 := hs
    subst hs
    refine ⟨far, b, v8, v9, v10, ?_, hi⟩
    rw [jb_210_52, show decide ((54 : Int32) ≤ nI 54) = true from rfl, cond_true]
  | succ f ih =>
    intro s far b v8 v9 v10 hs hi
    obtain ⟨far', b', u9, u10, h1, h2⟩ := q_210w (d := d) (L := L) (c := c) (e := e) (y1 := y1) (y3 := y3) hk hg hsp hB hst (show s < 54 by omega) n 0 far b v9 v10 (by omega) hi
    obtain ⟨far2, b2, w8, w9, w10, r1, r2⟩ := ih (s + 1) far' b' (.int (nI n)) u9 u10 (by omega) h2
    refine ⟨far2, b2, w8, w9, w10, ?_, r2⟩
    rw [jb_210_52, decide_eq_false (show ¬ (54 : Int32) ≤ nI s by show ¬ nI 54 ≤ nI s; rw [nI_leI (by omega) (by omega)]; omega), cond_false]
    exact h1.trans r1
theorem q_210u (hk : kitM n v I) (hg : ∀ w s, w < n → s < 54 → 0 < g w s → tS v w s < 54 ∧ g w s ≤ 99) (hsp : spM g bs n I) (hB : B < 4096) (hst : st < 54) : ∀ (N : Nat) (far : Nat → Nat) (v7 v8 v9 v10 : Value), smF far 54 ≤ N → rI far → sdF n (cG bs B sh g (tS v)) (tS v) st far → ∃ far', jat d 210 41 [.ref 58, .int y1, .int (nI st), .int y3, .int (nI B), .int (if sh = true then 1 else 0), .int 1, v7, v8, v9, v10] [] (jmk (f88 I far) L c e) = some (none, jmk (f88 I far') L c e) ∧ ∀ u, u < 54 → far' u = dst n (cG bs B sh g (tS v)) (tS v) (fun x => x = u) st := by
  intro N
  induction N with
  | zero =>
    intro far v7 v8 v9 v10 hN hr hsd
    obtain ⟨far', b', u8, u9, u10, h1, h2⟩ := q_210v (d := d) (L := L) (c := c) (e := e) (y1 := y1) (y3 := y3) hk hg hsp hB hst 54 0 far false v8 v9 v10 (by omega) (rInv_0 hr hsd)
    obtain ⟨i1, i2, i3, i4, i5⟩ := h2
    cases b' with
    | true =>
      have := i4 rfl
      omega
    | false =>
      obtain ⟨g1, g2⟩ := i5 rfl
      refine ⟨far', ?_, fun u hu => goes_dst (cG_ok hg) hst i1 i2 (fun s' m' a1 a2 => by rw [g1]; exact g2 s' m' a1 a2 (by omega)) hu⟩
      rw [jb_210_41, jt_2, cond_false, show jat d 210 52 [.ref 58, .int y1, .int (nI st), .int y3, .int (nI B), .int (if sh = true then 1 else 0), .int 0, .int 0, v8, v9, v10] [] (jmk (f88 I far) L c e) = _ from h1, jb_210_41]
      rfl
  | succ N ih =>
    intro far v7 v8 v9 v10 hN hr hsd
    obtain ⟨far', b', u8, u9, u10, h1, h2⟩ := q_210v (d := d) (L := L) (c := c) (e := e) (y1 := y1) (y3 := y3) hk hg hsp hB hst 54 0 far false v8 v9 v10 (by omega) (rInv_0 hr hsd)
    obtain ⟨i1, i2, i3, i4, i5⟩ := h2
    cases b' with
    | true =>
      have := i4 rfl
      obtain ⟨far2, r1, r2⟩ := ih far' (.int (nI 54)) u8 u9 u10 (by omega) i1 i2
      refine ⟨far2, ?_, r2⟩
      rw [jb_210_41, jt_2, cond_false, show jat d 210 52 [.ref 58, .int y1, .int (nI st), .int y3, .int (nI B), .int (if sh = true then 1 else 0), .int 0, .int 0, v8, v9, v10] [] (jmk (f88 I far) L c e) = _ from h1]
      exact r1
    | false =>
      obtain ⟨g1, g2⟩ := i5 rfl
      refine ⟨far', ?_, fun u hu => goes_dst (cG_ok hg) hst i1 i2 (fun s' m' a1 a2 => by rw [g1]; exact g2 s' m' a1 a2 (by omega)) hu⟩
      rw [jb_210_41, jt_2, cond_false, show jat d 210 52 [.ref 58, .int y1, .int (nI st), .int y3, .int (nI B), .int (if sh = true then 1 else 0), .int 0, .int 0, v8, v9, v10] [] (jmk (f88 I far) L c e) = _ from h1, jb_210_41]
      rfl
theorem f88_congr {far' : Nat → Nat} (h : ∀ u, u < 54 → far u = far' u) : f88 I far = f88 I far' := by
  funext q j
  unfold f88
  by_cases hq : q = 88 ∧ j < 54
  · rw [if_pos hq, if_pos hq, h j hq.2]
  · rw [if_neg hq, if_neg hq]
/-- how far each is from a state -/
noncomputable def dG (n B : Nat) (v : Nat → aMv) (bs sh : Bool) (g : Nat → Nat → Nat) (st u : Nat) : Nat := dst n (cG bs B sh g (tS v)) (tS v) (fun x => x = u) st
theorem q_210 (hlo : lwOk lw) (hl : lwM lw I) (hk : kitM n v I) (hp : peM m pe D I) (hpo : peOk m pe D) (ho : oneOk m one) (hB : B < 4096) (hst : st < 54) : ∃ I', jev d 210 [.ref 58, .int (oneI one), .int (nI st), .int (if bs = true then 1 else 0), .int (nI B), .int (if sh = true then 1 else 0)] (jmk I L c e) = some (none, jmk (f88 I' (dG n B v bs sh (gS lw v pe one (knO pe one)) st)) L c e) ∧ frS I I' := by
  have hm' : ∀ i, i < n → mvOk (v i) := fun i hi => (hk.2.2 i hi).1
  have hg := gS_ok (lw := lw) (pe := pe) (one := one) (kn := knO pe one) hm'
  obtain ⟨I1, f1, f2, f3⟩ := q_209 (d := d) (L := L) (c := c) (e := e) (bs := bs) hlo hl hk hp hpo ho
  have hk1 : kitM n v I1 := kitM_fr hk (f3 58 0 (by decide) (by decide)) (fun q j a1 a2 => f3 q j (by omega) (by omega))
  have key : jat d 210 9 [.ref 58, .int (oneI one), .int (nI st), .int (if bs = true then 1 else 0), .int (nI B), .int (if sh = true then 1 else 0), .int (nI 0), .null, .null, .null, .null] [] (jmk (f88k I1 (fun _ => 1000000) 0) L c e) = jat d 210 9 [.ref 58, .int (oneI one), .int (nI st), .int (if bs = true then 1 else 0), .int (nI B), .int (if sh = true then 1 else 0), .int (nI 54), .null, .null, .null, .null] [] (jmk (f88k I1 (fun _ => 1000000) 54) L c e) := jloop (N := 54) (fun k => jat d 210 9 [.ref 58, .int (oneI one), .int (nI st), .int (if bs = true then 1 else 0), .int (nI B), .int (if sh = true then 1 else 0), .int (nI k), .null, .null, .null, .null] [] (jmk (f88k I1 (fun _ => 1000000) k) L c e)) (fun k hk => by
    show jat d 210 9 [.ref 58, .int (oneI one), .int (nI st), .int (if bs = true then 1 else 0), .int (nI B), .int (if sh = true then 1 else 0), .int (nI k), .null, .null, .null, .null] [] (jmk (f88k I1 (fun _ => 1000000) k) L c e) = jat d 210 9 [.ref 58, .int (oneI one), .int (nI st), .int (if bs = true then 1 else 0), .int (nI B), .int (if sh = true then 1 else 0), .int (nI (k + 1)), .null, .null, .null, .null] [] (jmk (f88k I1 (fun _ => 1000000) (k + 1)) L c e)
    rw [jb_210_9, decide_eq_false (show ¬ (54 : Int32) ≤ nI k by show ¬ nI 54 ≤ nI k; rw [nI_leI (by omega) (by omega)]; omega), cond_false, jdI hk, cond_true, jcl' (by omega), nI_1, f88_1 (far := fun _ => 1000000) (x := -2) hk rfl])
  have e0 : f88k I1 (fun _ => 1000000) 0 = I1 := by
    funext q j
    unfold f88k
    rw [if_neg (by omega)]
  rw [e0] at key
  have e54 : ju (f88k I1 (fun _ => 1000000) 54) 88 st 0 = f88 I1 (farO st) := by
    funext q j
    unfold ju f88k f88 farO
    by_cases hq : q = 88
    · subst hq
      by_cases hj : j = st
      · subst hj
        simp [hst]
        rfl
      · simp [hj]
    · simp [hq]
  obtain ⟨o1, o2⟩ := farO_ok (n := n) (c := cG bs B sh (gS lw v pe one (knO pe one)) (tS v)) (t := tS v) hst
  obtain ⟨far', r1, r2⟩ := q_210u (d := d) (L := L) (c := c) (e := e) (y1 := oneI one) (y3 := if bs = true then 1 else 0) (sh := sh) hk1 hg f2 hB hst (smF (farO st) 54) (farO st) .null .null .null .null (Nat.le_refl _) o1 o2
  refine ⟨I1, ?_, f3⟩
  rw [jb_210_0, f1]
  simp only [Option.bind_some, jps]
  rw [jb_210_6, show jat d 210 9 [.ref 58, .int (oneI one), .int (nI st), .int (if bs = true then 1 else 0), .int (nI B), .int (if sh = true then 1 else 0), .int 0, .null, .null, .null, .null] [] (jmk I1 L c e) = _ from key, jb_210_9, show decide ((54 : Int32) ≤ nI 54) = true from rfl, cond_true, jdI hst, cond_true, jcl' (by omega), e54, r1, f88_congr r2]
  rfl
theorem q_211 (hlo : lwOk lw) (hl : lwM lw I) (hk : kitM n v I) (hp : peM m pe D I) (hpo : peOk m pe D) (ho : oneOk m one) (hst : st < 54) : ∃ I', jev d 211 [.ref 58, .int (oneI one), .int (nI st), .int (if bs = true then 1 else 0)] (jmk I L c e) = some (none, jmk (f88 I' (dG n 0 v bs true (gS lw v pe one (knO pe one)) st)) L c e) ∧ frS I I' := by
  obtain ⟨I1, f1, f2⟩ := q_210 (d := d) (L := L) (c := c) (e := e) (bs := bs) (sh := true) (B := 0) hlo hl hk hp hpo ho (by decide) hst
  refine ⟨I1, ?_, f2⟩
  rw [jb_211_0, show jev d 210 [.ref 58, .int (oneI one), .int (nI st), .int (if bs = true then 1 else 0), .int 0, .int 1] (jmk I L c e) = _ from f1]
  simp only [Option.bind_some, jps]
  rw [jb_211_9]
end GOF
