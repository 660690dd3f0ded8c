/-! ways: how many nearest ways -/
noncomputable def wyN (n : Nat) (v : Nat → aMv) (g : Nat → Nat → Nat) (a b : Nat) : Nat := if dG n 0 v false true g a b < 1000000 then cp (pW n (cS false none g) (tS v) (dG n 0 v false true g a b) a b) else 0
noncomputable def opWays (n : Nat) (v : Nat → aMv) (pe : Nat → aPe) (lw : List aLn) (x y : Int32) : Int32 := if jin x 54 ∧ jin y 54 then nI (wyN n v (gS lw v pe none (knO pe none)) x.toNatClampNeg y.toNatClampNeg) else -1
def fW (n : Nat) (c t : Nat → Nat → Nat) (far : Nat → Nat) (b u : Nat) (x : Nat × Nat) : Nat := if x.2 = u ∧ far (t x.1 x.2) + 1 = far u then pW n c t (far u - 1) (t x.1 x.2) b else 0
/-- many, the class: so many ways from u to b -/
def wI (n : Nat) (c t : Nat → Nat → Nat) (far : Nat → Nat) (b j : Nat) (l : List (Nat × Nat)) (mn : Nat → Nat) : Prop := ∀ u, u < 54 → mn u = if far u < j then cp (pW n c t (far u) u b) else if far u = j then cp ((l.map (fW n c t far b u)).sum) else 0
def hM (c t : Nat → Nat → Nat) (m u v : Nat) : Nat := smF (fun w => if 0 < c w u ∧ t w u = v then 1 else 0) m
/-- many, the reference: so many ways from a to u -/
def rS (n : Nat) (c t : Nat → Nat → Nat) (far : Nat → Nat) (a j k u : Nat) : Nat := smF (fun x => if far x = j then pW n c t j a x * hN n c t x u else 0) k
def rW (n : Nat) (c t : Nat → Nat → Nat) (far : Nat → Nat) (a j : Nat) (S : Nat → Nat) (mn : Nat → Nat) : Prop := ∀ u, u < 54 → mn u = if far u ≤ j then cp (pW n c t (far u) a u) else if far u = j + 1 then cp (S u) else 0
section WYS
variable {d : Nat} {I I' : Nat → Nat → Int32} {L : Nat → Nat → Int64} {c e : Nat} {x y z : Int32} {lw : List aLn} {n m w s k B st a b : Nat} {v : Nat → aMv} {pe : Nat → aPe} {D : Nat → Int32} {one : Option Nat} {far far0 mn : Nat → Nat} {bs sh un : Bool} {g t : Nat → Nat → Nat} {tl : List (Nat × Nat)} {y1 y2 : Int32} {q : Nat → Nat → Nat}
theorem unit_cS : unitC n (cS false none g) := by
  intro w s hw h
  unfold cS at h ⊢
  by_cases q : 0 < g w s ∧ (none : Option Nat) ≠ some w
  · rw [if_pos q]
    rfl
  · rw [if_neg q] at h
    exact absurd h (Nat.lt_irrefl 0)
theorem cS_pos : 0 < cS false none g w s ↔ 0 < g w s := by
  unfold cS
  by_cases q : 0 < g w s
  · have e1 : 0 < g w s ∧ (none : Option Nat) ≠ some w := ⟨q, fun k => by cases k⟩
    rw [if_pos e1]
    exact ⟨fun _ => q, fun _ => Nat.zero_lt_one⟩
  · rw [if_neg (fun k => q k.1)]
    exact ⟨fun k => absurd k (Nat.lt_irrefl 0), fun k => absurd k q⟩
theorem wI_le {j : Nat} {l : List (Nat × Nat)} {c : Nat → Nat → Nat} (h : wI n c t far b j l mn) {u : Nat} (hu : u < 54) : mn u ≤ 9999 := by
  rw [h u hu]
  split
  · exact cp_le
  · split
    · exact cp_le
    · exact Nat.zero_le _
theorem cp_I {a b : Nat} (ha : a ≤ 9999) (hb : b ≤ 9999) : (if nI a + nI b < 9999 then nI a + nI b else 9999) = nI (cp (a + b)) := by
  have h : nI a + nI b < 9999 ↔ a + b < 9999 := by
    show nI a + nI b < nI 9999 ↔ _
    rw [nI_add, jlt_iff, nI_toInt (by omega), nI_toInt (by omega)]
    omega
  simp only [h]
  unfold cp
  by_cases q : a + b < 9999
  · rw [if_pos q, nI_add, Nat.min_eq_left (by omega)]
  · rw [if_neg q, Nat.min_eq_right (by omega)]
    rfl
theorem wI_no {j : Nat} {l : List (Nat × Nat)} {p : Nat × Nat} {c : Nat → Nat → Nat} (h : wI n c t far b j l mn) (hp : ¬ (far p.2 = j ∧ far (t p.1 p.2) + 1 = j)) : wI n c t far b j (l ++ [p]) mn := by
  intro u hu
  rw [h u hu, List.map_append, List.sum_append]
  by_cases h1 : far u < j
  · rw [if_pos h1, if_pos h1]
  · rw [if_neg h1, if_neg h1]
    by_cases h2 : far u = j
    · have : fW n c t far b u p = 0 := by
        unfold fW
        rw [if_neg (fun q => hp ⟨by rw [q.1]; exact h2, by rw [q.2]; exact h2⟩)]
      rw [if_pos h2, if_pos h2]
      simp [this]
    · rw [if_neg h2, if_neg h2]
theorem wI_up {j : Nat} {l : List (Nat × Nat)} {p : Nat × Nat} {c : Nat → Nat → Nat} (h : wI n c t far b j l mn) (hp1 : far p.2 = j) (hp2 : far (t p.1 p.2) + 1 = j) (ha : p.2 < 54) (ht : t p.1 p.2 < 54) : wI n c t far b j (l ++ [p]) (fun i => if i = p.2 then cp (mn p.2 + mn (t p.1 p.2)) else mn i) := by
  have e1 := h p.2 ha
  have e2 := h _ ht
  rw [if_neg (by omega), if_pos hp1] at e1
  rw [if_pos (by omega)] at e2
  intro u hu
  dsimp only
  rw [List.map_append, List.sum_append]
  by_cases q : u = p.2
  · subst q
    have e3 : fW n c t far b p.2 p = pW n c t (far (t p.1 p.2)) (t p.1 p.2) b := by
      unfold fW
      rw [if_pos ⟨rfl, by omega⟩, show far p.2 - 1 = far (t p.1 p.2) by omega]
    rw [if_pos rfl, if_neg (by omega), if_pos hp1, e1, e2, cp_add]
    simp [e3]
  · have e3 : fW n c t far b u p = 0 := by
      unfold fW
      rw [if_neg (fun r => q r.1.symm)]
    rw [if_neg q, h u hu]
    simp [e3]
theorem wI_next {j : Nat} (hg : ∀ w s, w < n → s < 54 → 0 < g w s → t w s < 54 ∧ g w s ≤ 99) (hf : far = dst n (cS false none g) t (fun x => x = b)) (hj1 : 1 ≤ j) (hj2 : j < 1000000) (h : wI n (cS false none g) t far b j (tlW g n) mn) : wI n (cS false none g) t far b (j + 1) [] mn := by
  intro u hu
  rw [h u hu]
  by_cases h1 : far u < j
  · rw [if_pos h1, if_pos (by omega)]
  · rw [if_neg h1]
    by_cases h2 : far u = j
    · rw [if_pos h2, if_pos (by omega)]
      obtain ⟨k, rfl⟩ : ∃ k, j = k + 1 := ⟨j - 1, by omega⟩
      have hd : dst n (cS false none g) t (fun x => x = b) u = k + 1 := by rw [← hf]; exact h2
      have h3 := cls_sum (b := b) unit_cS (cS_ok hg) hu hd hj2
      rw [tl_sum hu (fun w s hs => by
        unfold fW
        rw [if_neg (fun r => hs r.1)]), h2, ← h3]
      congr 1
      refine sm_congr n (fun w hw => ?_)
      have hp := cS_pos (g := g) (w := w) (s := u)
      by_cases q : 0 < g w u
      · rw [if_pos q, if_pos (hp.mpr q)]
        unfold fW
        dsimp only
        rw [h2, ← hf]
        exact jif ⟨fun r => r.2, fun r => ⟨rfl, r⟩⟩
      · rw [if_neg q, if_neg (fun r => q (hp.mp r))]
    · rw [if_neg h2]
      rw [if_neg (by omega)]
      by_cases h3 : far u = j + 1
      · rw [if_pos h3]
        rfl
      · rw [if_neg h3]
theorem tiM_P (h : tiM g t tl I) {f : Nat → Int32} : tiM g t tl (fP 50 I f) := by
  obtain ⟨h1, h2⟩ := h
  exact ⟨h1, fun i x hx => h2 i x hx⟩
theorem q_91t (hti : tiM g t tl I) (hl : tl.length ≤ 648) (hin : ∀ x, x ∈ tl → x.1 < 12 ∧ x.2 < 54 ∧ 0 < g x.1 x.2 ∧ t x.1 x.2 < 54 ∧ g x.1 x.2 ≤ 99) (hf : ∀ u, u < 54 → far u ≤ 1000000) {j : Nat} (hj1 : 1 ≤ j) (hj2 : j < 1000000) {cc : Nat → Nat → Nat} : ∀ (l2 l1 : List (Nat × Nat)) (mn : Nat → Nat), tl = l1 ++ l2 → wI n cc t far b j l1 mn → ∃ mn' : Nat → Nat, jat d 91 63 [.ref 42, .int y1, .int y2, .int (nI j), .int (nI l1.length)] [] (jmk (fP 50 (fC49 I far) (fun u => nI (mn u))) L c e) = jat d 91 51 [.ref 42, .int y1, .int y2, .int (nI (j + 1)), .int (nI tl.length)] [] (jmk (fP 50 (fC49 I far) (fun u => nI (mn' u))) L c e) ∧ wI n cc t far b j tl mn' := by
  intro l2
  induction l2 with
  | nil =>
    intro l1 mn h hi
    rw [List.append_nil] at h
    subst h
    refine ⟨mn, ?_, hi⟩
    rw [jb_91_63, (tiM_P (tiM_49 hti)).1, decide_eq_true (by rw [nI_leI (by omega) (by omega)]; exact Nat.le_refl _), cond_true, nI_1]
  | cons p l2 ih =>
    intro l1 mn h hi
    have hlen : l1.length < tl.length := by
      rw [h]
      simp
    have hget : tl[l1.length]? = some p := by
      rw [h, List.getElem?_append_right (Nat.le_refl _), Nat.sub_self]
      rfl
    have hmem : p ∈ tl := by rw [h]; simp
    obtain ⟨b1, b2, b3, b4⟩ := (tiM_P (f := fun u => nI (mn u)) (tiM_49 (far := far) hti)).2 _ _ hget
    obtain ⟨a1, a2, a3, a4, a5⟩ := hin p hmem
    have hnext : tl = (l1 ++ [p]) ++ l2 := by rw [h]; simp
    have hjn : decide (jin (nI l1.length) 648) = true := jdI (by omega)
    have hcl : (nI l1.length).toNatClampNeg = l1.length := jcl' (by omega)
    have f2 := hf _ a2
    have f4 := hf _ a4
    have hgo : ∀ mn2, wI n cc t far b j (l1 ++ [p]) mn2 → ∃ mn' : Nat → Nat, jat d 91 63 [.ref 42, .int y1, .int y2, .int (nI j), .int (nI (l1.length + 1))] [] (jmk (fP 50 (fC49 I far) (fun u => nI (mn2 u))) L c e) = jat d 91 51 [.ref 42, .int y1, .int y2, .int (nI (j + 1)), .int (nI tl.length)] [] (jmk (fP 50 (fC49 I far) (fun u => nI (mn' u))) L c e) ∧ wI n cc t far b j tl mn' := by
      intro mn2 hi2
      have := ih (l1 ++ [p]) mn2 hnext hi2
      rw [List.length_append] at this
      exact this
    have e1 : nI (far p.2) = nI j ↔ far p.2 = j := nI_eq (by omega) (by omega)
    have e2 : nI (far (t p.1 p.2)) = nI (j - 1) ↔ far (t p.1 p.2) + 1 = j := by
      rw [nI_eq (by omega) (by omega)]
      omega
    have r49 : ∀ u, u < 54 → fP 50 (fC49 I far) (fun u => nI (mn u)) 49 u = nI (far u) := fun u hu => (fP_ne (by decide)).trans (fC49_at hu)
    have r50 : ∀ u, u < 54 → fP 50 (fC49 I far) (fun u => nI (mn u)) 50 u = nI (mn u) := fun u hu => fP_at hu
    rw [jb_91_63, (tiM_P (tiM_49 hti)).1, decide_eq_false (by rw [nI_leI (by omega) (by omega)]; omega), cond_false, hjn, hcl, b1, b2, jdI a2, jdI a4, cond_true, cond_true, cond_true, cond_true, cond_true, cond_true, cond_true, cond_true, cond_true, cond_true, jcl' (show p.2 < 2 ^ 31 by omega), jcl' (show t p.1 p.2 < 2 ^ 31 by omega), r49 _ a2, r49 _ a4, r50 _ a2, r50 _ a4, nI_1, show nI j - 1 = nI (j - 1) from nI_sub (j := 1) hj1 (by omega), cp_I (wI_le hi a2) (wI_le hi a4), fP_up a2]
    simp only [Bool.cond_decide, e1, e2]
    by_cases h1 : far p.2 = j
    · rw [if_neg (fun q => q h1)]
      by_cases h2 : far (t p.1 p.2) + 1 = j
      · rw [if_neg (fun q => q h2)]
        have hu := wI_up hi h1 h2 a2 a4
        obtain ⟨mn', r1, r2⟩ := hgo _ hu
        refine ⟨mn', ?_, r2⟩
        rw [← r1]
        congr 3
        funext u
        split
        · rfl
        · rfl
      · rw [if_pos h2]
        exact hgo mn (wI_no hi (fun q => h2 q.2))
    · rw [if_pos h1]
      exact hgo mn (wI_no hi (fun q => h1 q.1))
theorem q_91r (hn : n ≤ 12) (hg : ∀ w s, w < n → s < 54 → 0 < g w s → t w s < 54 ∧ g w s ≤ 99) (hti : tiM g t (tlW g n) I) (hf : far = dst n (cS false none g) t (fun x => x = b)) (ha : a < 54) (hfa : far a < 1000000) : ∀ (f j : Nat) (mn : Nat → Nat) (v4 : Value), j + f = far a + 1 → 1 ≤ j → wI n (cS false none g) t far b j [] mn → ∃ mn' : Nat → Nat, jat d 91 51 [.ref 42, .int (nI a), .int y2, .int (nI j), v4] [] (jmk (fP 50 (fC49 I far) (fun u => nI (mn u))) L c e) = some (some (.int (nI (cp (pW n (cS false none g) t (far a) a b)))), jmk (fP 50 (fC49 I far) (fun u => nI (mn' u))) L c e) := by
  have hfl : ∀ u, u < 54 → far u ≤ 1000000 := fun u hu => by rw [hf]; exact (dst_le (cS_ok hg) hu).1
  have h87 : ∀ mn : Nat → Nat, jev d 87 [.ref 42, .int (nI a)] (jmk (fP 50 (fC49 I far) (fun u => nI (mn u))) L c e) = some (some (.int (nI (far a))), jmk (fP 50 (fC49 I far) (fun u => nI (mn u))) L c e) := by
    intro mn
    rw [jb_87_0, q_141, if_pos (jin_nI ha (by decide))]
    simp only [Option.bind_some, jps]
    rw [jb_87_4, jt_2, cond_false, jdI ha, cond_true, jcl' (by omega), fP_ne (by decide), fC49_at ha]
  intro f
  induction f with
  | zero =>
    intro j mn v4 hj hj1 hi
    have hj : j = far a + 1 := hj
    refine ⟨mn, ?_⟩
    have := hi a ha
    rw [if_pos (by omega)] at this
    rw [jb_91_51, h87]
    simp only [Option.bind_some, jps]
    rw [jb_91_57, decide_eq_true (by rw [jlt_iff, nI_toInt (by omega), nI_toInt (by omega)]; omega), cond_true, jdI ha, cond_true, jcl' (by omega), fP_at ha, this]
  | succ f ih =>
    intro j mn v4 hj hj1 hi
    have hl := tlW_len (g := g) n
    obtain ⟨mn1, r1, r2⟩ := q_91t (d := d) (L := L) (c := c) (e := e) (y1 := nI a) (y2 := y2) (b := b) (n := n) (cc := cS false none g) hti (by omega) (fun x hx => by
      obtain ⟨a1, a2, a3⟩ := (tlW_in n x).mp hx
      obtain ⟨a4, a5⟩ := hg x.1 x.2 a1 a2 a3
      exact ⟨by omega, a2, a3, a4, a5⟩) hfl hj1 (show j < 1000000 by omega) (tlW g n) [] mn rfl hi
    obtain ⟨mn2, s1⟩ := ih (j + 1) mn1 (.int (nI (tlW g n).length)) (by omega) (by omega) (wI_next hg hf hj1 (by omega) r2)
    refine ⟨mn2, ?_⟩
    rw [jb_91_51, h87]
    simp only [Option.bind_some, jps]
    rw [jb_91_57, decide_eq_false (by rw [jlt_iff, nI_toInt (by omega), nI_toInt (by omega)]; omega), cond_false, show jat d 91 63 [.ref 42, .int (nI a), .int y2, .int (nI j), .int 0] [] (jmk (fP 50 (fC49 I far) (fun u => nI (mn u))) L c e) = _ from r1]
    exact s1
theorem q_91 (hn : n ≤ 12) (hg : ∀ w s, w < n → s < 54 → 0 < g w s → tS v w s < 54 ∧ g w s ≤ 99) (hti : tiM g (tS v) (tlW g n) I) (ha : a < 54) (hb : b < 54) : ∃ mn, jev d 91 [.ref 42, .int (nI a), .int (nI b)] (jmk (fC49 I (dS n false none g (tS v) b)) L c e) = some (some (.int (nI (wyN n v g a b))), jmk (fP 50 (fC49 I (dS n false none g (tS v) b)) mn) L c e) := by
  have hA : aimP b = fun x => x = b := by
    funext x
    show (aimB b x = true) = (x = b)
    unfold aimB
    rw [if_neg (by omega), if_neg (by omega), decide_eq_true_eq]
  have hdg : dG n 0 v false true g a b = dS n false none g (tS v) b a := by
    unfold dG dS
    rw [cG_0, hA]
  have hf : dS n false none g (tS v) b = dst n (cS false none g) (tS v) (fun x => x = b) := by
    funext u
    unfold dS
    rw [hA]
  have hfa := dS_le (bs := false) (wo := none) (to := b) hg ha
  unfold wyN
  rw [hdg, jb_91_0, q_87 ha]
  simp only [Option.bind_some, jps]
  rw [jb_91_5]
  have hm : (1000000 : Int32) ≤ nI (dS n false none g (tS v) b a) ↔ ¬ dS n false none g (tS v) b a < 1000000 := by
    show nI 1000000 ≤ nI _ ↔ _
    rw [nI_leI (by decide) (by omega)]
    omega
  simp only [Bool.cond_decide, hm]
  by_cases h1 : dS n false none g (tS v) b a < 1000000
  · rw [if_neg (fun q => q h1), if_pos h1, q_141, if_pos (jin_nI hb (by decide))]
    simp only [Option.bind_some, jps]
    rw [jb_91_14, jt_1, cond_true]
    generalize dS n false none g (tS v) b = far at hf h1 ⊢
    have key : jat d 91 21 [.ref 42, .int (nI a), .int (nI b), .int (nI 0), .null] [] (jmk (fPk 50 (fC49 I far) (fun u => nI (if u = b then 1 else 0)) 0) L c e) = jat d 91 21 [.ref 42, .int (nI a), .int (nI b), .int (nI 54), .null] [] (jmk (fPk 50 (fC49 I far) (fun u => nI (if u = b then 1 else 0)) 54) L c e) := jloop (N := 54) (fun k => jat d 91 21 [.ref 42, .int (nI a), .int (nI b), .int (nI k), .null] [] (jmk (fPk 50 (fC49 I far) (fun u => nI (if u = b then 1 else 0)) k) L c e)) (fun k hk => by
      show jat d 91 21 [.ref 42, .int (nI a), .int (nI b), .int (nI k), .null] [] (jmk (fPk 50 (fC49 I far) (fun u => nI (if u = b then 1 else 0)) k) L c e) = jat d 91 21 [.ref 42, .int (nI a), .int (nI b), .int (nI (k + 1)), .null] [] (jmk (fPk 50 (fC49 I far) (fun u => nI (if u = b then 1 else 0)) (k + 1)) L c e)
      have e1 : nI k = nI b ↔ k = b := nI_eq (by omega) (by omega)
      rw [jb_91_21, decide_eq_false (show ¬ (54 : Int32) ≤ nI k by show ¬ nI 54 ≤ nI k; rw [nI_leI (by omega) (by omega)]; omega), cond_false, jdI hk, cond_true, cond_true, jcl' (by omega), nI_1]
      simp only [Bool.cond_decide, e1]
      by_cases q : k = b
      · rw [if_neg (fun j => j q), fPk_1 (by rw [if_pos q]; rfl)]
      · rw [if_pos q, fPk_1 (by rw [if_neg q]; rfl)])
    rw [fPk_0, fPk_54] at key
    obtain ⟨mn', r1⟩ := q_91r (d := d) (L := L) (c := c) (e := e) (y2 := nI b) hn hg hti hf ha h1 (far a) 1 (fun u => if u = b then 1 else 0) .null (by omega) (Nat.le_refl 1) (fun u hu => by
      have h0 : far u = 0 ↔ u = b := by
        rw [hf]
        exact dst_0 (cS_ok hg) hu
      dsimp only
      by_cases q : u = b
      · have hq := h0.mpr q
        rw [if_pos q, hq, if_pos (by decide)]
        subst q
        show 1 = cp (if u = u then 1 else 0)
        rw [if_pos rfl]
        rfl
      · have hq : ¬ far u = 0 := fun j => q (h0.mp j)
        rw [if_neg q, if_neg (by omega)]
        split <;> rfl)
    refine ⟨fun u => nI (mn' u), ?_⟩
    rw [show jat d 91 21 [.ref 42, .int (nI a), .int (nI b), .int 0, .null] [] (jmk (fC49 I far) L c e) = _ from key, jb_91_21, show decide ((54 : Int32) ≤ nI 54) = true from rfl, cond_true]
    exact r1
  · rw [if_pos h1, if_neg h1]
    refine ⟨fun u => fC49 I (dS n false none g (tS v) b) 50 u, ?_⟩
    have : fP 50 (fC49 I (dS n false none g (tS v) b)) (fun u => fC49 I (dS n false none g (tS v) b) 50 u) = fC49 I (dS n false none g (tS v) b) := by
      funext q j
      unfold fP
      by_cases hq : q = 50 ∧ j < 54
      · rw [if_pos hq, hq.1]
      · rw [if_neg hq]
    rw [this]
    rfl
theorem c_ways (hce : ceOk c e) (hlo : lwOk lw) (hl : lwC lw c I) (hk : kitC n v I) (hp : peC m pe D I) (hpo : peOk m pe D) : ∃ I', jev d 109 [.ref 0, .int x, .int y] (jmk I L c e) = some (some (.int (opWays n v pe lw x y)), jmk I' L c e) ∧ frG I I' := by
  have hn := hk.1.1
  have hm' : ∀ i, i < n → mvOk (v i) := fun i hi => (hk.1.2.2 i hi).1
  unfold opWays
  rw [jb_109_0, q_141]
  simp only [Option.bind_some, jps, jb_109_4, q_141, jb_109_11, Bool.cond_decide, j01]
  by_cases hx : jin x 54
  · have hx2 : ¬¬ jin x 54 := fun q => q hx
    rw [if_neg hx2]
    by_cases hy : jin y 54
    · have hy2 : ¬¬ jin y 54 := fun q => q hy
      have hall : jin x 54 ∧ jin y 54 := ⟨hx, hy⟩
      rw [if_pos hy2, if_pos hall]
      obtain ⟨a, ha, rfl⟩ := (jin_iff (by decide)).mp hx
      obtain ⟨b, hb, rfl⟩ := (jin_iff (by decide)).mp hy
      have hg := gS_ok (lw := lw) (pe := pe) (one := none) (kn := knO pe none) hm'
      obtain ⟨I1, f1, f2, f3⟩ := q_83g (d := d) (L := L) (one := none) hce hlo hl hk hp hpo trivial
      have r1 := q_86d (d := d) (L := L) (c := c) (e := e) (bs := false) (wo := none) (to := b) hn (by omega) wo_n hg f2
      obtain ⟨mn, r2⟩ := q_91 (d := d) (L := L) (c := c) (e := e) hn hg f2 ha hb
      refine ⟨fP 50 (fC49 I1 (dS n false none (gS lw v pe none (knO pe none)) (tS v) b)) mn, ?_, fun q j a1 a2 a3 a4 a5 => (fP_ne (by omega)).trans (frG_49 (far := dS n false none (gS lw v pe none (knO pe none)) (tS v) b) f3 q j a1 a2 a3 a4 a5)⟩
      rw [show jev d 83 [.ref 42, .int (-1)] (jmk I L c e) = _ from f1]
      simp only [Option.bind_some, jps]
      rw [jb_109_24, show jev d 86 [.ref 42, .int (nI b), .int 0, .int (-1)] (jmk I1 L c e) = _ from r1]
      simp only [Option.bind_some, jps]
      rw [jb_109_34, r2]
      simp only [Option.bind_some, jps]
      rw [jb_109_43, jcl' (by omega), jcl' (by omega)]
    · rw [if_neg (fun q => q hy), if_neg (fun q => hy q.2)]
      exact ⟨I, rfl, fun _ _ _ _ _ _ _ => rfl⟩
  · rw [if_pos hx, if_neg (fun q => hx q.1)]
    exact ⟨I, rfl, fun _ _ _ _ _ _ _ => rfl⟩
end WYS
