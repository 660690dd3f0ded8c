/-! ways, the reference -/
section WYR
variable {d : Nat} {I I' : Nat → Nat → Int32} {L : Nat → Nat → Int64} {c e : Nat} {x y z : Int32} {lw : List aLn} {n m w s k B st a b : Nat} {v : Nat → aMv} {pe : Nat → aPe} {D : Nat → Int32} {one : Option Nat} {far far0 mn : Nat → Nat} {bs sh un : Bool} {g t : Nat → Nat → Nat} {tl : List (Nat × Nat)} {y1 y2 : Int32} {cc : Nat → Nat → Nat} {S S' : Nat → Nat} {j : Nat}
theorem rW_le (h : rW n cc t far a j S mn) {u : Nat} (hu : u < 54) : mn u ≤ 9999 := by
  rw [h u hu]
  split
  · exact cp_le
  · split
    · exact cp_le
    · exact Nat.zero_le _
theorem rW_congr (h : rW n cc t far a j S mn) (hs : ∀ u, u < 54 → far u = j + 1 → S u = S' u) : rW n cc t far a j S' mn := by
  intro u hu
  rw [h u hu]
  by_cases h1 : far u ≤ j
  · rw [if_pos h1, if_pos h1]
  · rw [if_neg h1, if_neg h1]
    by_cases h2 : far u = j + 1
    · rw [if_pos h2, if_pos h2, hs u hu h2]
    · rw [if_neg h2, if_neg h2]
theorem hM_s : hM cc t (m + 1) k s = hM cc t m k s + if 0 < cc m k ∧ t m k = s then 1 else 0 := rfl
/-- a move counted -/
theorem rW_up (h : rW n cc t far a j (fun u => S u + pW n cc t j a k * hM cc t m k u) mn) (hk : k < 54) (hfk : far k = j) (hc : 0 < cc m k) (ht : t m k < 54) (hft : far (t m k) = j + 1) : rW n cc t far a j (fun u => S u + pW n cc t j a k * hM cc t (m + 1) k u) (fun i => if i = t m k then cp (mn (t m k) + mn k) else mn i) := by
  have e1 := h _ ht
  have e2 := h k hk
  rw [if_neg (by omega), if_pos hft] at e1
  rw [if_pos (by omega), hfk] at e2
  intro u hu
  dsimp only
  by_cases q : u = t m k
  · subst q
    rw [if_pos rfl, if_neg (by omega), if_pos hft, e1, e2, cp_add, hM_s, if_pos ⟨hc, rfl⟩, Nat.mul_add, Nat.mul_one, Nat.add_assoc]
  · have hno : ¬ (0 < cc m k ∧ t m k = u) := fun r => q r.2.symm
    rw [if_neg q, h u hu, hM_s, if_neg hno]
    rfl
theorem rW_no (h : rW n cc t far a j (fun u => S u + pW n cc t j a k * hM cc t m k u) mn) (hno : ¬ (0 < cc m k ∧ far (t m k) = j + 1)) : rW n cc t far a j (fun u => S u + pW n cc t j a k * hM cc t (m + 1) k u) mn := by
  refine rW_congr h (fun u hu hf => ?_)
  rw [hM_s, if_neg (fun r => hno ⟨r.1, by rw [r.2]; exact hf⟩), Nat.add_zero]
theorem rS_s : rS n cc t far a j (k + 1) s = rS n cc t far a j k s + if far k = j then pW n cc t j a k * hN n cc t k s else 0 := rfl
theorem rW_next (hg : gOk n cc t) (hc : unitC n cc) (ha : a < 54) (hf : far = fun u => dst n cc t (fun x => x = u) a) (hj : j < 54) (h : rW n cc t far a j (rS n cc t far a j 54) mn) : ∀ u, u < 54 → mn u = if far u ≤ j + 1 then cp (pW n cc t (far u) a u) else 0 := by
  intro u hu
  rw [h u hu]
  by_cases h1 : far u ≤ j
  · rw [if_pos h1, if_pos (by omega)]
  · rw [if_neg h1]
    by_cases h2 : far u = j + 1
    · rw [if_pos h2, if_pos (by omega), h2]
      have := ref_sum (v := u) hc hg ha hu (by rw [← h2, hf]) (show j + 1 < 1000000 by omega)
      rw [← this]
      unfold rS
      rw [hf]
    · rw [if_neg h2, if_neg (by omega)]
theorem gS_n : 0 < gS lw v pe none k w s ↔ may (v w) s := by
  unfold gS
  by_cases q : may (v w) s
  · rw [if_pos q]
    exact ⟨fun _ => q, fun _ => Nat.zero_lt_one⟩
  · rw [if_neg q]
    exact ⟨fun r => absurd r (Nat.lt_irrefl 0), fun r => absurd r q⟩
theorem kitM_P (h : kitM n v I) {f : Nat → Int32} : kitM n v (fP 89 I f) := kitM_fr h (fP_ne (by decide)) (fun q j a1 a2 => fP_ne (by omega))
theorem fJ_eq {a b : Nat} (ha : a ≤ 1000000) (hb : b < 1000000) : fJ a = nI b ↔ a = b := by
  unfold fJ
  by_cases q : a < 1000000
  · rw [if_pos q]
    exact nI_eq (by omega) (by omega)
  · rw [if_neg q]
    constructor
    · intro h
      have := congrArg Int32.toInt h
      rw [nI_toInt (by omega)] at this
      have h2 : (-2 : Int32).toInt = -2 := by decide
      omega
    · intro h
      omega
/-- the moves of one state -/
theorem q_219w (hk : kitM n v I) (hfl : ∀ u, u < 54 → far u ≤ 1000000) (hj : j < 54) (hs : s < 54) (hfs : far s = j) (hc : ∀ w s, 0 < cc w s ↔ may (v w) s) : ∀ (f m : Nat) (mn : Nat → Nat) (v6 : Value), m + f = n → rW n cc (tS v) far a j (fun u => S u + pW n cc (tS v) j a s * hM cc (tS v) m s u) mn → ∃ (mn' : Nat → Nat) (u6 : Value), jat d 219 88 [.ref 58, .int y1, .int y2, .int (nI j), .int (nI s), .int (nI m), v6] [] (jmk (fP 89 (f88 I far) (fun u => nI (mn u))) L c e) = jat d 219 64 [.ref 58, .int y1, .int y2, .int (nI j), .int (nI (s + 1)), .int (nI n), u6] [] (jmk (fP 89 (f88 I far) (fun u => nI (mn' u))) L c e) ∧ rW n cc (tS v) far a j (fun u => S u + pW n cc (tS v) j a s * hN n cc (tS v) s u) mn' := by
  have hn := hk.1
  have hm' : ∀ i, i < n → mvOk (v i) := fun i hi => (hk.2.2 i hi).1
  intro f
  induction f with
  | zero =>
    intro m mn v6 hm hi
    have hm : m = n := hm
    subst hm
    refine ⟨mn, v6, ?_, hi⟩
    rw [jb_219_88, (kitM_P (kitM_88 hk)).2.1, decide_eq_true (by rw [nI_leI (by omega) (by omega)]; exact Nat.le_refl _), cond_true, nI_1]
  | succ f ih =>
    intro m mn v6 hm hi
    have hmn : m < n := by omega
    have ht := tS_lt hm' hmn hs
    have hk2 : kitM n v (fP 89 (f88 I far) (fun u => nI (mn u))) := kitM_P (kitM_88 hk)
    have r88 : ∀ u, u < 54 → fP 89 (f88 I far) (fun u => nI (mn u)) 88 u = fJ (far u) := fun u hu => (fP_ne (by decide)).trans (f88_at hu)
    have e1 : fJ (far (tS v m s)) = nI (j + 1) ↔ far (tS v m s) = j + 1 := fJ_eq (hfl _ ht) (by omega)
    have hjt : jin (nI (tS v m s)) 54 := jin_nI ht (by decide)
    have hjs : jin (nI s) 54 := jin_nI hs (by decide)
    rw [jb_219_88, hk2.2.1, decide_eq_false (by rw [nI_leI (by omega) (by omega)]; omega), cond_false, q_205 hk2 hmn hs]
    simp only [Option.bind_some, jps]
    rw [jb_219_105, q_204 hk2 hmn hs]
    simp only [Option.bind_some, jps]
    rw [jb_219_115, show mto (v m).1 (v m).2.1 s = tS v m s from rfl, jdI ht, jdI hs, cond_true, cond_true, cond_true, cond_true, jcl' (show tS v m s < 2 ^ 31 by omega), jcl' (show s < 2 ^ 31 by omega), r88 _ ht, nI_1, nI_1, fP_at ht, fP_at hs, cp_I (rW_le hi ht) (rW_le hi hs), fP_up ht]
    simp only [Bool.cond_decide, j01, e1]
    by_cases h1 : may (v m) s
    · rw [if_neg (fun q => q h1)]
      by_cases h2 : far (tS v m s) = j + 1
      · rw [if_neg (fun q => q h2)]
        obtain ⟨mn', u6, r1, r2⟩ := ih (m + 1) _ (.int (nI (tS v m s))) (by omega) (rW_up hi hs hfs ((hc m s).mpr h1) ht h2)
        refine ⟨mn', u6, ?_, r2⟩
        rw [← r1]
        congr 3
        funext u
        split
        · rfl
        · rfl
      · rw [if_pos h2]
        exact ih (m + 1) mn _ (by omega) (rW_no hi (fun q => h2 q.2))
    · rw [if_pos h1]
      exact ih (m + 1) mn _ (by omega) (rW_no hi (fun q => h1 ((hc m s).mp q.1)))
theorem q_219v (hk : kitM n v I) (hfl : ∀ u, u < 54 → far u ≤ 1000000) (hj : j < 54) (hc : ∀ w s, 0 < cc w s ↔ may (v w) s) : ∀ (f s : Nat) (mn : Nat → Nat) (v5 v6 : Value), s + f = 54 → rW n cc (tS v) far a j (rS n cc (tS v) far a j s) mn → ∃ (mn' : Nat → Nat) (u5 u6 : Value), jat d 219 64 [.ref 58, .int y1, .int y2, .int (nI j), .int (nI s), v5, v6] [] (jmk (fP 89 (f88 I far) (fun u => nI (mn u))) L c e) = jat d 219 55 [.ref 58, .int y1, .int y2, .int (nI (j + 1)), .int (nI 54), u5, u6] [] (jmk (fP 89 (f88 I far) (fun u => nI (mn' u))) L c e) ∧ rW n cc (tS v) far a j (rS n cc (tS v) far a j 54) mn' := by
  intro f
  induction f with
  | zero =>
    intro s mn v5 v6 hs hi
    have hs : s = 54 := hs
    subst hs
    refine ⟨mn, v5, v6, ?_, hi⟩
    rw [jb_219_64, show decide ((54 : Int32) ≤ nI 54) = true from rfl, cond_true, nI_1]
  | succ f ih =>
    intro s mn v5 v6 hs hi
    have hs54 : s < 54 := by omega
    have r88 : fP 89 (f88 I far) (fun u => nI (mn u)) 88 s = fJ (far s) := (fP_ne (by decide)).trans (f88_at hs54)
    have e1 : fJ (far s) = nI j ↔ far s = j := fJ_eq (hfl _ hs54) (by omega)
    rw [jb_219_64, decide_eq_false (show ¬ (54 : Int32) ≤ nI s by show ¬ nI 54 ≤ nI s; rw [nI_leI (by omega) (by omega)]; omega), cond_false, jdI hs54, cond_true, jcl' (by omega), r88, nI_1]
    simp only [Bool.cond_decide, e1]
    by_cases h1 : far s = j
    · rw [if_pos h1]
      obtain ⟨mn1, u6, r1, r2⟩ := q_219w (d := d) (L := L) (c := c) (e := e) (y1 := y1) (y2 := y2) (a := a) (cc := cc) (S := rS n cc (tS v) far a j s) hk hfl hj hs54 h1 hc n 0 mn v6 (by omega) (rW_congr hi (fun u _ _ => by show _ = _ + _ * 0; rw [Nat.mul_zero, Nat.add_zero]))
      obtain ⟨mn2, u5, u6', s1, s2⟩ := ih (s + 1) mn1 (.int (nI n)) u6 (by omega) (rW_congr r2 (fun u _ _ => by rw [rS_s, if_pos h1]))
      exact ⟨mn2, u5, u6', r1.trans s1, s2⟩
    · rw [if_neg h1]
      exact ih (s + 1) mn v5 v6 (by omega) (rW_congr hi (fun u _ _ => by rw [rS_s, if_neg h1, Nat.add_zero]))
theorem q_219u (hk : kitM n v I) (hg : gOk n cc (tS v)) (hun : unitC n cc) (hc : ∀ w s, 0 < cc w s ↔ may (v w) s) (ha : a < 54) (hb : b < 54) (hf : far = fun u => dst n cc (tS v) (fun x => x = u) a) : ∀ (f j : Nat) (mn : Nat → Nat) (v4 v5 v6 : Value), j + f = 54 → (∀ u, u < 54 → mn u = if far u ≤ j then cp (pW n cc (tS v) (far u) a u) else 0) → ∃ mn' : Nat → Nat, jat d 219 55 [.ref 58, .int y1, .int (nI b), .int (nI j), v4, v5, v6] [] (jmk (fP 89 (f88 I far) (fun u => nI (mn u))) L c e) = some (some (.int (nI (if far b < 1000000 then cp (pW n cc (tS v) (far b) a b) else 0))), jmk (fP 89 (f88 I far) (fun u => nI (mn' u))) L c e) := by
  have hfl : ∀ u, u < 54 → far u ≤ 1000000 := fun u hu => by rw [hf]; exact (dst_le hg ha).1
  intro f
  induction f with
  | zero =>
    intro j mn v4 v5 v6 hj hi
    have hj : j = 54 := hj
    subst hj
    refine ⟨mn, ?_⟩
    have h1 := hi b hb
    have h2 : far b < 1000000 → far b ≤ 53 := by
      rw [hf]
      exact fun q => dst_53 hun hg ha q
    rw [jb_219_55, show decide ((54 : Int32) ≤ nI 54) = true from rfl, cond_true, jdI hb, cond_true, jcl' (by omega), fP_at hb, h1]
    by_cases q : far b < 1000000
    · have := h2 q
      rw [if_pos q, if_pos (by omega)]
    · rw [if_neg q, if_neg (by omega)]
  | succ f ih =>
    intro j mn v4 v5 v6 hj hi
    obtain ⟨mn1, u5, u6, r1, r2⟩ := q_219v (d := d) (L := L) (c := c) (e := e) (y1 := y1) (y2 := nI b) (a := a) (j := j) (cc := cc) hk hfl (by omega) hc 54 0 mn v5 v6 rfl (fun u hu => by
      rw [hi u hu]
      by_cases h1 : far u ≤ j
      · rw [if_pos h1, if_pos h1]
      · rw [if_neg h1, if_neg h1]
        split <;> rfl)
    obtain ⟨mn2, s1⟩ := ih (j + 1) mn1 (.int (nI 54)) u5 u6 (by omega) (rW_next hg hun ha hf (by omega) r2)
    refine ⟨mn2, ?_⟩
    rw [jb_219_55, decide_eq_false (show ¬ (54 : Int32) ≤ nI j by show ¬ nI 54 ≤ nI j; rw [nI_leI (by omega) (by omega)]; omega), cond_false]
    exact Eq.trans r1 s1
theorem m_ways (hlo : lwOk lw) (hl : lwM lw I) (hk : kitM n v I) (hp : peM m pe D I) (hpo : peOk m pe D) : ∃ I', jev d 219 [.ref 58, .int x, .int y] (jmk I L c e) = some (some (.int (opWays n v pe lw x y)), jmk I' L c e) ∧ frM I I' := by
  have hn := hk.1
  have hm' : ∀ i, i < n → mvOk (v i) := fun i hi => (hk.2.2 i hi).1
  unfold opWays
  rw [jb_219_0, q_167]
  simp only [Option.bind_some, jps, jb_219_4, q_167, jb_219_11, Bool.cond_decide, j01]
  by_cases hx : jin x 54
  · have hx2 : ¬¬ jin x 54 := fun q => q hx
    rw [if_neg hx2]
    by_cases hy : jin y 54
    · have hy2 : ¬¬ jin y 54 := fun q => q hy
      have hall : jin x 54 ∧ jin y 54 := ⟨hx, hy⟩
      rw [if_pos hy2, if_pos hall]
      obtain ⟨a, ha, rfl⟩ := (jin_iff (by decide)).mp hx
      obtain ⟨b, hb, rfl⟩ := (jin_iff (by decide)).mp hy
      have hg := gS_ok (lw := lw) (pe := pe) (one := none) (kn := knO pe none) hm'
      obtain ⟨I1, f1, f2⟩ := q_211 (d := d) (L := L) (c := c) (e := e) (bs := false) (one := none) hlo hl hk hp hpo trivial ha
      have fr1 : frM I (f88 I1 (dG n 0 v false true (gS lw v pe none (knO pe none)) a)) := frM_88 f2
      have hk1 : kitM n v I1 := kitM_fr hk (f2 58 0 (by decide) (by decide)) (fun q j a1 a2 => f2 q j (by omega) (by omega))
      have hdg : dG n 0 v false true (gS lw v pe none (knO pe none)) a = fun u => dst n (cS false none (gS lw v pe none (knO pe none))) (tS v) (fun x => x = u) a := by
        funext u
        unfold dG
        rw [cG_0]
      have hc : ∀ w s, 0 < cS false none (gS lw v pe none (knO pe none)) w s ↔ may (v w) s := fun w s => cS_pos.trans gS_n
      rw [jcl' (show a < 2 ^ 31 by omega), jcl' (show b < 2 ^ 31 by omega), show jev d 211 [.ref 58, .int (-1), .int (nI a), .int 0] (jmk I L c e) = _ from f1]
      simp only [Option.bind_some, jps]
      rw [jb_219_23]
      unfold wyN
      rw [hdg]
      generalize hfar : (fun u => dst n (cS false none (gS lw v pe none (knO pe none))) (tS v) (fun x => x = u) a) = far
      have hfar0 : ∀ u, dst n (cS false none (gS lw v pe none (knO pe none))) (tS v) (fun x => x = u) a = far u := fun u => congrFun hfar u
      rw [hdg, hfar] at fr1
      have key : jat d 219 25 [.ref 58, .int (nI a), .int (nI b), .int (nI 0), .null, .null, .null] [] (jmk (fPk 89 (f88 I1 far) (fun u => nI (if u = a then 1 else 0)) 0) L c e) = jat d 219 25 [.ref 58, .int (nI a), .int (nI b), .int (nI 54), .null, .null, .null] [] (jmk (fPk 89 (f88 I1 far) (fun u => nI (if u = a then 1 else 0)) 54) L c e) := jloop (N := 54) (fun k => jat d 219 25 [.ref 58, .int (nI a), .int (nI b), .int (nI k), .null, .null, .null] [] (jmk (fPk 89 (f88 I1 far) (fun u => nI (if u = a then 1 else 0)) k) L c e)) (fun k hk => by
        show jat d 219 25 [.ref 58, .int (nI a), .int (nI b), .int (nI k), .null, .null, .null] [] (jmk (fPk 89 (f88 I1 far) (fun u => nI (if u = a then 1 else 0)) k) L c e) = jat d 219 25 [.ref 58, .int (nI a), .int (nI b), .int (nI (k + 1)), .null, .null, .null] [] (jmk (fPk 89 (f88 I1 far) (fun u => nI (if u = a then 1 else 0)) (k + 1)) L c e)
        have e1 : nI k = nI a ↔ k = a := nI_eq (by omega) (by omega)
        rw [jb_219_25, decide_eq_false (show ¬ (54 : Int32) ≤ nI k by show ¬ nI 54 ≤ nI k; rw [nI_leI (by omega) (by omega)]; omega), cond_false, jdI hk, cond_true, cond_true, jcl' (by omega), nI_1]
        simp only [Bool.cond_decide, e1]
        by_cases q : k = a
        · rw [if_neg (fun j => j q), fPk_1 (by rw [if_pos q]; rfl)]
        · rw [if_pos q, fPk_1 (by rw [if_neg q]; rfl)])
      rw [fPk_0, fPk_54] at key
      obtain ⟨mn', r1⟩ := q_219u (d := d) (L := L) (c := c) (e := e) (y1 := nI a) (I := I1) hk1 (cS_ok hg) unit_cS hc ha hb hfar.symm 54 0 (fun u => if u = a then 1 else 0) .null .null .null rfl (fun u hu => by
        have h0 : far u = 0 ↔ a = u := by
          rw [← hfar0 u]
          exact dst_0 (cS_ok hg) ha
        by_cases q : u = a
        · have hq := h0.mpr q.symm
          rw [if_pos q, hq, if_pos (by decide)]
          show 1 = cp (if a = u then 1 else 0)
          rw [if_pos q.symm]
          rfl
        · have hq : ¬ far u = 0 := fun j => q (h0.mp j).symm
          rw [if_neg q, if_neg (by omega)])
      refine ⟨fP 89 (f88 I1 far) (fun u => nI (mn' u)), ?_, fun q j a1 a2 => (fP_ne (by omega)).trans (fr1 q j a1 a2)⟩
      · rw [show jat d 219 25 [.ref 58, .int (nI a), .int (nI b), .int 0, .null, .null, .null] [] (jmk (f88 I1 far) L c e) = _ from key, jb_219_25, show decide ((54 : Int32) ≤ nI 54) = true from rfl, cond_true]
        exact r1
    · rw [if_neg (fun q => q hy), if_neg (fun q => hy q.2)]
      exact ⟨I, rfl, fun _ _ _ _ => rfl⟩
  · rw [if_pos hx, if_neg (fun q => hx q.1)]
    exact ⟨I, rfl, fun _ _ _ _ => rfl⟩
end WYR
