/-! learn -/
def lrC (n : Nat) (r : Nat → Int64) : Nat → Nat → Nat → Nat
  | 0, _, _ => 0
  | f + 1, j, w => if jin (r j).toInt32 n then (if (r j).toInt32 = nI w then 1 else 0) + lrC n r f (j + 1) w else 0
def lrB (cnt : Nat → Nat) (le kn : Nat) : Nat → Nat
  | 0 => kn
  | k + 1 => if cnt k < le then lrB cnt le kn k else lrB cnt le kn k ||| 2 ^ k
def opLearn (n m : Nat) (pe : Nat → aPe) (sh : Nat → aSh) (ro : Nat → Nat → Int64) (x y : Int32) : Int32 := if jin x 6 ∧ jin y m then (if barI (sh x.toNatClampNeg) = 0 then nI (lrB (lrC n (ro x.toNatClampNeg) (sh x.toNatClampNeg).2 0) (pe y.toNatClampNeg).2.2 (pe y.toNatClampNeg).2.1 n) else barI (sh x.toNatClampNeg)) else -1
def f53 (I : Nat → Nat → Int32) (cn : Nat → Nat) : Nat → Nat → Int32 := fun q j => if q = 53 ∧ j < 12 then nI (cn j) else I q j
def f53k (I : Nat → Nat → Int32) (k : Nat) : Nat → Nat → Int32 := fun q j => if q = 53 ∧ j < k then 0 else I q j
section LRN
variable {d : Nat} {I I' : Nat → Nat → Int32} {L : Nat → Nat → Int64} {c e : Nat} {x y z : Int32} {n m w s k b i o : Nat} {v : Nat → aMv} {pe : Nat → aPe} {D : Nat → Int32} {sh : Nat → aSh} {ro : Nat → Nat → Int64} {cn cn' : Nat → Nat} {r : Nat → Int64}
theorem lr_s {f j : Nat} : lrC n r (f + 1) j w = if jin (r j).toInt32 n then (if (r j).toInt32 = nI w then 1 else 0) + lrC n r f (j + 1) w else 0 := rfl
theorem lr_le : ∀ f j, lrC n r f j w ≤ f := by
  intro f
  induction f with
  | zero => intro j; exact Nat.le_refl _
  | succ f ih =>
    intro j
    rw [lr_s]
    have := ih (j + 1)
    split
    · split <;> omega
    · omega
theorem f53_at (h : w < 12) : f53 I cn 53 w = nI (cn w) := if_pos ⟨rfl, h⟩
theorem f53_ne {q j : Nat} (h : q ≠ 53) : f53 I cn q j = I q j := if_neg (fun k => h k.1)
theorem f53_up (h : w < 12) : ju (f53 I cn) 53 w (nI (cn w + 1)) = f53 I (fun u => if u = w then cn w + 1 else cn u) := by
  funext q j
  unfold ju f53
  by_cases hq : q = 53
  · subst hq
    by_cases hj : j = w
    · subst hj
      simp [h]
    · simp [hj]
  · simp [hq]
theorem f53_congr (h : ∀ w, w < 12 → cn w = cn' w) : f53 I cn = f53 I cn' := by
  funext q j
  unfold f53
  by_cases hq : q = 53 ∧ j < 12
  · rw [if_pos hq, if_pos hq, h j hq.2]
  · rw [if_neg hq, if_neg hq]
theorem kitC_53 (h : kitC n v I) : kitC n v (f53 I cn) := kitC_fr h (fun q j a1 a2 => f53_ne (by omega))
theorem peC_53 (h : peC m pe D I) : peC m pe D (f53 I cn) := peC_fr h (fun q j a1 a2 => f53_ne (by omega))
theorem shC_53 (h : shC sh ro I L) : shC sh ro (f53 I cn) L := by
  intro a ha
  rw [f53_ne (by decide), f53_ne (by decide)]
  exact h a ha
theorem q_155 (hm : m ≤ 6) (h : I 14 4 = nI m) (hs : shC sh ro I L) (ho : shOk b sh) : jev d 155 [.ref 0, .int x, .int y] (jmk I L c e) = some (some (.int (if jin x 6 ∧ jin y m then barI (sh x.toNatClampNeg) else -1)), jmk I L c e) := by
  simp only [jb_155_0, q_68, Option.bind_some, jps, jb_155_8, q_63j hm h, jb_155_19, Bool.cond_decide, j01]
  by_cases hx : jin x 6
  · rw [if_neg (fun q => q hx)]
    by_cases hy : jin y m
    · have hxy : jin x 6 ∧ jin y m := ⟨hx, hy⟩
      have hyy : ¬¬ jin y m := fun q => q hy
      rw [if_neg hyy, if_pos hxy]
      obtain ⟨i, hi, rfl⟩ := (jin_iff (by omega)).mp hx
      rw [q_72 hs ho hi, jcl' (by omega)]
      simp only [Option.bind_some, jps]
      rw [jb_155_30]
    · have hno : ¬ (jin x 6 ∧ jin y m) := fun q => hy q.2
      rw [if_pos hy, if_neg hno]
  · have hno : ¬ (jin x 6 ∧ jin y m) := fun q => hx q.1
    rw [if_pos hx, if_neg hno]
theorem q_53l (hk : kitC n v I) (hs : shC sh ro I L) (ho : shOk b sh) (hi : i < 6) (h2 : (sh i).1 = 2) {y2 : Int32} : ∀ (f j : Nat) (cn : Nat → Nat) (v5 : Value), j + f = (sh i).2 → ∃ (x3 x4 : Int32) (u5 : Value), jat d 53 50 [.ref 52, .int (nI i), .int y2, .int 1, .int (nI j), v5] [] (jmk (f53 I cn) L c e) = jat d 53 112 [.ref 52, .int (nI i), .int y2, .int x3, .int x4, u5] [] (jmk (f53 I (fun w => cn w + lrC n (ro i) f j w)) L c e) := by
  have hl := (ho.2 i hi).2.2 (by omega)
  have hn := hk.1.1
  intro f
  induction f with
  | zero =>
    intro j cn v5 hj
    obtain ⟨g1, g2, g3⟩ := (shC_53 (cn := cn) hs) i hi
    refine ⟨1, nI j, v5, ?_⟩
    rw [jb_53_50, jdI hi, cond_true, jcl' (by omega), g2 (by omega), decide_eq_true (by rw [nI_leI (by omega) (by omega)]; omega), cond_true]
    rfl
  | succ f ih =>
    intro j cn v5 hj
    obtain ⟨g1, g2, g3⟩ := (shC_53 (cn := cn) hs) i hi
    rw [jb_53_50, jdI hi, cond_true, jcl' (by omega), g2 (by omega), decide_eq_false (by rw [nI_leI (by omega) (by omega)]; omega), cond_false, jt_2, cond_false, q_77r (shC_53 hs) ho hi (by omega) (show j < (sh i).2 by omega)]
    simp only [Option.bind_some, jps]
    rw [jb_53_78, q_57j hn (kitC_53 hk).1.2.1]
    simp only [Option.bind_some, jps]
    rw [jb_53_90]
    simp only [Bool.cond_decide, j01]
    by_cases hw : jin (ro i j).toInt32 n
    · rw [if_neg (fun q => q hw), if_pos hw]
      obtain ⟨w, hw', e1⟩ := (jin_iff (by omega)).mp hw
      have hj12 : jin (nI w) 12 := jin_nI (by omega) (by decide)
      obtain ⟨x3, x4, u5, r1⟩ := ih (j + 1) (fun u => if u = w then cn w + 1 else cn u) (.int (nI w)) (by omega)
      refine ⟨x3, x4, u5, ?_⟩
      rw [e1, if_pos hj12, if_pos hj12, jcl' (show w < 2 ^ 31 by omega), f53_at (by omega), nI_1, nI_1, f53_up (by omega), r1]
      congr 2
      refine f53_congr (fun u hu => ?_)
      have he : (ro i j).toInt32 = nI u ↔ u = w := by
        rw [e1, nI_eq (by omega) (by omega)]
        exact ⟨fun q => q.symm, fun q => q.symm⟩
      rw [lr_s, if_pos hw]
      by_cases q : u = w
      · rw [if_pos q, if_pos (he.mpr q), q]
        omega
      · rw [if_neg q, if_neg (fun k => q (he.mp k)), Nat.zero_add]
    · rw [if_pos hw, if_neg hw]
      refine ⟨0, nI (j + 1), .int (ro i j).toInt32, ?_⟩
      rw [nI_1, jb_53_50, jdI hi, cond_true, jcl' (by omega), g2 (by omega), jt_4, cond_true]
      have hc : f53 I (fun w => cn w + lrC n (ro i) (f + 1) j w) = f53 I cn := f53_congr (fun u hu => by rw [lr_s, if_neg hw, Nat.add_zero])
      rw [hc]
      cases hq : decide (nI (sh i).2 ≤ nI (j + 1)) <;> rfl
theorem q_53 (hk : kitC n v I) (hp : peC m pe D I) (hpo : peOk m pe D) (hs : shC sh ro I L) (ho : shOk b sh) (hi : i < 6) (h2 : (sh i).1 = 2) (hom : o < m) : jev d 53 [.ref 52, .int (nI i), .int (nI o)] (jmk I L c e) = some (some (.int (nI (lrB (lrC n (ro i) (sh i).2 0) (pe o).2.2 (pe o).2.1 n))), jmk (f53 I (lrC n (ro i) (sh i).2 0)) L c e) := by
  have hn := hk.1.1
  have hm := hpo.1
  have hl := (ho.2 i hi).2.2 (by omega)
  have key : jat d 53 26 [.ref 52, .int (nI i), .int (nI o), .int (nI 0), .null, .null] [] (jmk (f53k I 0) L c e) = jat d 53 26 [.ref 52, .int (nI i), .int (nI o), .int (nI 12), .null, .null] [] (jmk (f53k I 12) L c e) := jloop (N := 12) (fun k => jat d 53 26 [.ref 52, .int (nI i), .int (nI o), .int (nI k), .null, .null] [] (jmk (f53k I k) L c e)) (fun k hk => by
    show jat d 53 26 [.ref 52, .int (nI i), .int (nI o), .int (nI k), .null, .null] [] (jmk (f53k I k) L c e) = jat d 53 26 [.ref 52, .int (nI i), .int (nI o), .int (nI (k + 1)), .null, .null] [] (jmk (f53k I (k + 1)) L c e)
    have hf : ju (f53k I k) 53 k 0 = f53k I (k + 1) := by
      funext q j
      unfold ju f53k
      by_cases hq : q = 53
      · subst hq
        by_cases hj : j = k
        · subst hj
          simp
        · by_cases hl : j < k
          · have : j < k + 1 := by omega
            simp [hj, hl, this]
          · have : ¬ j < k + 1 := by omega
            simp [hj, hl, this]
      · simp [hq]
    rw [jb_53_26, decide_eq_false (show ¬ (12 : Int32) ≤ nI k by show ¬ nI 12 ≤ nI k; rw [nI_leI (by omega) (by omega)]; omega), cond_false, jdI hk, cond_true, jcl' (by omega), nI_1, hf])
  have e0 : f53k I 0 = I := by
    funext q j
    unfold f53k
    rw [if_neg (by omega)]
  have e12 : f53k I 12 = f53 I (fun _ => 0) := rfl
  rw [e0, e12] at key
  obtain ⟨x3, x4, u5, r1⟩ := q_53l (d := d) (L := L) (c := c) (e := e) (y2 := nI o) hk hs ho hi h2 (sh i).2 0 (fun _ => 0) .null (by omega)
  have hcn : (fun w => 0 + lrC n (ro i) (sh i).2 0 w) = lrC n (ro i) (sh i).2 0 := funext (fun w => Nat.zero_add _)
  rw [hcn] at r1
  rw [jb_53_0, q_68, if_pos (jin_nI hi (by decide))]
  simp only [Option.bind_some, jps]
  rw [jb_53_8, jt_2, cond_false, q_63j hm hp.1, if_pos (jin_nI hom (by omega))]
  simp only [Option.bind_some, jps]
  rw [jb_53_19, jt_1, cond_true, show jat d 53 26 [.ref 52, .int (nI i), .int (nI o), .int 0, .null, .null] [] (jmk I L c e) = _ from key, jb_53_26, show decide ((12 : Int32) ≤ nI 12) = true from rfl, cond_true, show jat d 53 50 [.ref 52, .int (nI i), .int (nI o), .int 1, .int 0, .null] [] (jmk (f53 I (fun _ => 0)) L c e) = _ from r1]
  have hp2 : peC m pe D (f53 I (lrC n (ro i) (sh i).2 0)) := peC_53 hp
  have hk2 : kitC n v (f53 I (lrC n (ro i) (sh i).2 0)) := kitC_53 hk
  obtain ⟨p1, p2⟩ := hp2.2.1 o hom
  have hle := (hpo.2.1 o hom).2.2.2
  have hjo : decide (jin (nI o) 6) = true := jdI (by omega)
  have hco : (nI o).toNatClampNeg = o := jcl' (by omega)
  rw [jb_53_112, hjo, cond_true, hco, hp2.2.2.1 o (by omega)]
  have key2 : jat d 53 126 [.ref 52, .int (nI i), .int (nI o), .int x3, .int (nI (lrB (lrC n (ro i) (sh i).2 0) (pe o).2.2 (pe o).2.1 0)), .int (nI 0)] [] (jmk (f53 I (lrC n (ro i) (sh i).2 0)) L c e) = jat d 53 126 [.ref 52, .int (nI i), .int (nI o), .int x3, .int (nI (lrB (lrC n (ro i) (sh i).2 0) (pe o).2.2 (pe o).2.1 n)), .int (nI n)] [] (jmk (f53 I (lrC n (ro i) (sh i).2 0)) L c e) := jloop (N := n) (fun k => jat d 53 126 [.ref 52, .int (nI i), .int (nI o), .int x3, .int (nI (lrB (lrC n (ro i) (sh i).2 0) (pe o).2.2 (pe o).2.1 k)), .int (nI k)] [] (jmk (f53 I (lrC n (ro i) (sh i).2 0)) L c e)) (fun k hkn => by
    show jat d 53 126 [.ref 52, .int (nI i), .int (nI o), .int x3, .int (nI (lrB (lrC n (ro i) (sh i).2 0) (pe o).2.2 (pe o).2.1 k)), .int (nI k)] [] (jmk (f53 I (lrC n (ro i) (sh i).2 0)) L c e) = jat d 53 126 [.ref 52, .int (nI i), .int (nI o), .int x3, .int (nI (if lrC n (ro i) (sh i).2 0 k < (pe o).2.2 then lrB (lrC n (ro i) (sh i).2 0) (pe o).2.2 (pe o).2.1 k else lrB (lrC n (ro i) (sh i).2 0) (pe o).2.2 (pe o).2.1 k ||| 2 ^ k)), .int (nI (k + 1))] [] (jmk (f53 I (lrC n (ro i) (sh i).2 0)) L c e)
    have hle2 := lr_le (n := n) (r := ro i) (w := k) (sh i).2 0
    have hlt : nI (lrC n (ro i) (sh i).2 0 k) < nI (pe o).2.2 ↔ lrC n (ro i) (sh i).2 0 k < (pe o).2.2 := by
      rw [jlt_iff, nI_toInt (by omega), nI_toInt (by omega)]
      omega
    rw [jb_53_126, hk2.1.2.1, decide_eq_false (by rw [nI_leI (by omega) (by omega)]; omega), cond_false, jdI (show k < 12 by omega), cond_true, hjo, cond_true, hco, jcl' (show k < 2 ^ 31 by omega), f53_at (by omega), p2, nI_1, or_bit6 (by omega), Int32.or_zero]
    simp only [Bool.cond_decide, hlt]
    by_cases q : lrC n (ro i) (sh i).2 0 k < (pe o).2.2
    · rw [if_pos q, if_pos q]
    · rw [if_neg q, if_neg q])
  rw [show jat d 53 126 [.ref 52, .int (nI i), .int (nI o), .int x3, .int (nI (pe o).2.1), .int 0] [] (jmk (f53 I (lrC n (ro i) (sh i).2 0)) L c e) = _ from key2, jb_53_126, hk2.1.2.1, decide_eq_true (by rw [nI_leI (by omega) (by omega)]; exact Nat.le_refl _), cond_true]
theorem c_learn (hk : kitC n v I) (hp : peC m pe D I) (hpo : peOk m pe D) (hs : shC sh ro I L) (ho : shOk b sh) : ∃ I', jev d 113 [.ref 0, .int x, .int y] (jmk I L c e) = some (some (.int (opLearn n m pe sh ro x y)), jmk I' L c e) ∧ ∀ q j, q ≠ 53 → I' q j = I q j := by
  have hm := hpo.1
  unfold opLearn
  rw [jb_113_0, q_155 hm hp.1 hs ho]
  simp only [Option.bind_some, jps]
  rw [jb_113_6]
  by_cases h : jin x 6 ∧ jin y m
  · rw [if_pos h, if_pos h]
    obtain ⟨i, hi, rfl⟩ := (jin_iff (by decide)).mp h.1
    obtain ⟨o, hom, rfl⟩ := (jin_iff (by omega)).mp h.2
    rw [jcl' (show i < 2 ^ 31 by omega), jcl' (show o < 2 ^ 31 by omega)]
    simp only [Bool.cond_decide]
    by_cases h0 : barI (sh i) = 0
    · rw [if_pos h0, if_pos h0, q_53 hk hp hpo hs ho hi (bar_0.1.mp h0) hom]
      simp only [Option.bind_some, jps]
      refine ⟨_, jb_113_24 .., fun q j a1 => f53_ne a1⟩
    · rw [if_neg h0, if_neg h0, jb_113_24]
      exact ⟨I, rfl, fun _ _ _ => rfl⟩
  · rw [if_neg h, if_neg h, show decide ((-1 : Int32) = 0) = false from rfl, cond_false, jb_113_24]
    exact ⟨I, rfl, fun _ _ _ => rfl⟩
theorem q_225l (hk : kitM n v I) (hs : shM sh ro I L) (ho : shOk b sh) (hi : i < 6) (h2 : (sh i).1 = 2) (hw : w < n) {y2 y3 y4 : Int32} : ∀ (f j a : Nat), j + f = (sh i).2 → ∃ x7 : Int32, jat d 225 55 [.ref 58, .int (nI i), .int y2, .int y3, .int y4, .int (nI w), .int (nI a), .int (nI j)] [] (jmk I L c e) = jat d 225 101 [.ref 58, .int (nI i), .int y2, .int y3, .int y4, .int (nI w), .int (nI (a + lrC n (ro i) f j w)), .int x7] [] (jmk I L c e) := by
  have hl := (ho.2 i hi).2.2 (by omega)
  have hn := hk.1
  obtain ⟨g1, g2⟩ := (hs i hi).2 (by omega)
  intro f
  induction f with
  | zero =>
    intro j a hj
    refine ⟨nI j, ?_⟩
    rw [jb_225_55, jdI hi, cond_true, jcl' (by omega), g1, decide_eq_true (by rw [nI_leI (by omega) (by omega)]; omega), cond_true]
    rfl
  | succ f ih =>
    intro j a hj
    rw [jb_225_55, jdI hi, cond_true, jcl' (by omega), g1, decide_eq_false (by rw [nI_leI (by omega) (by omega)]; omega), cond_false, q_224 hs ho hi (by omega) (by omega)]
    simp only [Option.bind_some, jps]
    rw [jb_225_74, q_164 hk]
    simp only [Option.bind_some, jps]
    rw [jb_225_77, q_224 hs ho hi (by omega) (by omega)]
    simp only [Option.bind_some, jps, Bool.cond_decide, j01]
    rw [lr_s]
    by_cases hw2 : jin (ro i j).toInt32 n
    · rw [if_neg (fun q => q hw2), if_pos hw2, jb_225_87, nI_1, nI_1]
      simp only [Bool.cond_decide]
      by_cases q : (ro i j).toInt32 = nI w
      · rw [if_neg (fun k => k q), if_pos q]
        obtain ⟨x7, r1⟩ := ih (j + 1) (a + 1) (by omega)
        refine ⟨x7, ?_⟩
        rw [r1, Nat.add_assoc]
      · rw [if_pos q, if_neg q, Nat.zero_add]
        exact ih (j + 1) a (by omega)
    · rw [if_pos hw2, if_neg hw2, Nat.add_zero]
      exact ⟨nI j, rfl⟩
theorem m_learn (hk : kitM n v I) (hp : peM m pe D I) (hpo : peOk m pe D) (hs : shM sh ro I L) (ho : shOk b sh) : jev d 225 [.ref 58, .int x, .int y] (jmk I L c e) = some (some (.int (opLearn n m pe sh ro x y)), jmk I L c e) := by
  have hm := hpo.1
  have hn := hk.1
  unfold opLearn
  simp only [jb_225_0, q_169, Option.bind_some, jps, jb_225_4, q_165 hm hp.1, jb_225_12, Bool.cond_decide, j01]
  by_cases hx : jin x 6
  · rw [if_neg (fun q => q hx)]
    by_cases hy : jin y m
    · have hxy : jin x 6 ∧ jin y m := ⟨hx, hy⟩
      have hyy : ¬¬ jin y m := fun q => q hy
      rw [if_pos hyy, if_pos hxy]
      obtain ⟨i, hi, rfl⟩ := (jin_iff (by decide)).mp hx
      obtain ⟨o, hom, rfl⟩ := (jin_iff (by omega)).mp hy
      rw [q_223 hs ho hi, jcl' (show i < 2 ^ 31 by omega), jcl' (show o < 2 ^ 31 by omega)]
      simp only [Option.bind_some, jps]
      have hjo : decide (jin (nI o) 6) = true := jdI (by omega)
      have hco : (nI o).toNatClampNeg = o := jcl' (by omega)
      rw [jb_225_22, bar_0.2, hjo, hco, cond_true, hp.2.2.1 o (by omega)]
      by_cases h0 : barI (sh i) = 0
      · have h2 := bar_0.1.mp h0
        have hl := (ho.2 i hi).2.2 (by omega)
        obtain ⟨p1, p2⟩ := hp.2.1 o hom
        have hle := (hpo.2.1 o hom).2.2.2
        rw [decide_eq_true h0, cond_true, if_pos h0]
        have key : ∀ f k (v6 v7 : Value), k + f = n → jat d 225 40 [.ref 58, .int (nI i), .int (nI o), .int (barI (sh i)), .int (nI (lrB (lrC n (ro i) (sh i).2 0) (pe o).2.2 (pe o).2.1 k)), .int (nI k), v6, v7] [] (jmk I L c e) = some (some (.int (nI (lrB (lrC n (ro i) (sh i).2 0) (pe o).2.2 (pe o).2.1 n))), jmk I L c e) := by
          intro f
          induction f with
          | zero =>
            intro k v6 v7 hkf
            have hkf : k = n := hkf
            subst hkf
            rw [jb_225_40, hk.2.1, decide_eq_true (by rw [nI_leI (by omega) (by omega)]; exact Nat.le_refl _), cond_true]
          | succ f ih =>
            intro k v6 v7 hkf
            have hkn : k < n := by omega
            have hle2 := lr_le (n := n) (r := ro i) (w := k) (sh i).2 0
            have hlt : nI (lrC n (ro i) (sh i).2 0 k) < nI (pe o).2.2 ↔ lrC n (ro i) (sh i).2 0 k < (pe o).2.2 := by
              rw [jlt_iff, nI_toInt (by omega), nI_toInt (by omega)]
              omega
            obtain ⟨x7, r1⟩ := q_225l (d := d) (c := c) (e := e) (y2 := nI o) (y3 := barI (sh i)) (y4 := nI (lrB (lrC n (ro i) (sh i).2 0) (pe o).2.2 (pe o).2.1 k)) hk hs ho hi h2 hkn (sh i).2 0 0 (by omega)
            rw [Nat.zero_add] at r1
            have r2 := ih (k + 1) (.int (nI (lrC n (ro i) (sh i).2 0 k))) (.int x7) (by omega)
            rw [show lrB (lrC n (ro i) (sh i).2 0) (pe o).2.2 (pe o).2.1 (k + 1) = if lrC n (ro i) (sh i).2 0 k < (pe o).2.2 then lrB (lrC n (ro i) (sh i).2 0) (pe o).2.2 (pe o).2.1 k else lrB (lrC n (ro i) (sh i).2 0) (pe o).2.2 (pe o).2.1 k ||| 2 ^ k from rfl] at r2
            rw [jb_225_40, hk.2.1, decide_eq_false (by rw [nI_leI (by omega) (by omega)]; omega), cond_false, show jat d 225 55 [.ref 58, .int (nI i), .int (nI o), .int (barI (sh i)), .int (nI (lrB (lrC n (ro i) (sh i).2 0) (pe o).2.2 (pe o).2.1 k)), .int (nI k), .int 0, .int 0] [] (jmk I L c e) = _ from r1, jb_225_101, hjo, cond_true, hco, p2, nI_1, or_bit6 (by omega)]
            simp only [Bool.cond_decide, hlt]
            by_cases q : lrC n (ro i) (sh i).2 0 k < (pe o).2.2
            · rw [if_pos q] at r2 ⊢
              exact r2
            · rw [if_neg q] at r2 ⊢
              exact r2
        exact key n 0 .null .null (by omega)
      · rw [decide_eq_false h0, cond_false, if_neg h0]
    · rw [if_neg (fun q => q hy), if_neg (fun q => hy q.2)]
  · rw [if_pos hx, if_neg (fun q => hx q.1)]
end LRN
