/-! acts: which bodies run, what comes of it -/
def owF (a : Nat) : Nat → Nat → Nat
  | 0, k => k
  | f + 1, k => if jOWN (4 * k + a) = 0 then owF a f (par k) else k
def ow (a k : Nat) : Nat := owF a 4 k
/-- what an act answers: own kind o, number bI -/
def aV (o : Nat) (bI : Int32) : Nat → Nat → Nat → Int32 → Int32
  | 0, _, _, _ => 0
  | f + 1, a, k, x => match a, ow a k with
    | 0, 0 => x + bI
    | 0, 1 => aV o bI f 0 0 x + 3
    | 0, 6 => aV o bI f 0 0 x * 2
    | 1, 0 => aV o bI f 0 o x * 2
    | 1, 2 => -(aV o bI f 1 0 x)
    | 1, 3 => aV o bI f 1 2 (x + 1)
    | 1, 7 => aV o bI f 1 4 x + aV o bI f 2 o 2
    | 2, 0 => x ^^^ bI
    | 2, 3 => aV o bI f 2 2 x * 3
    | 2, 4 => aV o bI f 2 1 x - aV o bI f 0 o 2
    | 3, 0 => aV o bI f 1 o x - aV o bI f 2 o 1
    | 3, 5 => aV o bI f 3 3 x ^^^ 5
    | 3, 7 => aV o bI f 3 4 x - 1
    | _, _ => 0
def aT (o : Nat) : Nat → Nat → Nat → List Nat
  | 0, _, _ => []
  | f + 1, a, k => match a, ow a k with
    | 0, 0 => [1]
    | 0, 1 => 20 :: aT o f 0 0
    | 0, 6 => 70 :: aT o f 0 0
    | 1, 0 => 10 :: aT o f 0 o
    | 1, 2 => 30 :: aT o f 1 0
    | 1, 3 => 41 :: aT o f 1 2
    | 1, 7 => 80 :: (aT o f 1 4 ++ aT o f 2 o)
    | 2, 0 => [11]
    | 2, 3 => 40 :: aT o f 2 2
    | 2, 4 => 50 :: (aT o f 2 1 ++ aT o f 0 o)
    | 3, 0 => 2 :: (aT o f 1 o ++ aT o f 2 o)
    | 3, 5 => 60 :: aT o f 3 3
    | 3, 7 => 81 :: aT o f 3 4
    | _, _ => []
/-- so many levels are enough -/
def aD (o : Nat) : Nat → Nat → Nat → Bool
  | 0, _, _ => false
  | f + 1, a, k => match a, ow a k with
    | 0, 0 => true
    | 0, 1 => aD o f 0 0
    | 0, 6 => aD o f 0 0
    | 1, 0 => aD o f 0 o
    | 1, 2 => aD o f 1 0
    | 1, 3 => aD o f 1 2
    | 1, 7 => aD o f 1 4 && aD o f 2 o
    | 2, 0 => true
    | 2, 3 => aD o f 2 2
    | 2, 4 => aD o f 2 1 && aD o f 0 o
    | 3, 0 => aD o f 1 o && aD o f 2 o
    | 3, 5 => aD o f 3 3
    | 3, 7 => aD o f 3 4
    | _, _ => false
theorem ow_all : ∀ a, a < 4 → ∀ k, k < 8 → ow a k < 8 ∧ jOWN (4 * ow a k + a) ≠ 0 ∧ ow a (ow a k) = ow a k ∧ (jOWN (4 * k + a) = 0 → 0 < k ∧ ow a (par k) = ow a k) ∧ (jOWN (4 * k + a) ≠ 0 → ow a k = k) := by decide
theorem aD_all : ∀ o, o < 8 → ∀ a, a < 4 → aD o 18 a o = true ∧ (aT o 18 a o).length < 1000 := by decide +kernel
/-- a body's number comes to the trace -/
def adC (I : Nat → Nat → Int32) (n : Nat) : Nat → Nat → Int32 := ju (if 24 ≤ I 29 4 then I else ju I 31 (I 29 4).toNatClampNeg (nI n)) 29 4 (I 29 4 + 1)
def adM (I : Nat → Nat → Int32) (n : Nat) : Nat → Nat → Int32 := ju (if 24 ≤ I 58 41 then I else ju I 84 (I 58 41).toNatClampNeg (nI n)) 58 41 (I 58 41 + 1)
def acC (b bn : Nat) (bk : Nat → Nat) (r : Nat) (I : Nat → Nat → Int32) : Prop := I 29 2 = nI b ∧ boC bn bk I ∧ ∃ c0, I 29 4 = nI c0 ∧ c0 + r < 2 ^ 31
def acM (bn : Nat) (bk : Nat → Nat) (r : Nat) (I : Nat → Nat → Int32) : Prop := boM bn bk I ∧ ∃ c0, I 58 41 = nI c0 ∧ c0 + r < 2 ^ 31
section ACT
variable {I : Nat → Nat → Int32} {L : Nat → Nat → Int64} {c e : Nat} {x y z : Int32} {b bn : Nat} {bk : Nat → Nat} {l : List Nat}
theorem adC_at {n q j : Nat} (h : ¬ (q = 29 ∧ j = 4)) (h2 : q ≠ 31) : adC I n q j = I q j := by
  unfold adC
  rw [ju_get, if_neg h]
  split
  · rfl
  · rw [ju_get, if_neg (fun k => h2 k.1)]
theorem adM_at {n q j : Nat} (h : ¬ (q = 58 ∧ j = 41)) (h2 : q ≠ 84) : adM I n q j = I q j := by
  unfold adM
  rw [ju_get, if_neg h]
  split
  · rfl
  · rw [ju_get, if_neg (fun k => h2 k.1)]
theorem foC_at {q j : Nat} (h : ¬ (q = 29 ∧ j = 4)) (h2 : q ≠ 31) (l : List Nat) : ∀ I, (l.foldl adC I) q j = I q j := by
  induction l with
  | nil => intro I; rfl
  | cons n l ih => intro I; rw [List.foldl_cons, ih, adC_at h h2]
theorem foM_at {q j : Nat} (h : ¬ (q = 58 ∧ j = 41)) (h2 : q ≠ 84) (l : List Nat) : ∀ I, (l.foldl adM I) q j = I q j := by
  induction l with
  | nil => intro I; rfl
  | cons n l ih => intro I; rw [List.foldl_cons, ih, adM_at h h2]
theorem acC_ad {r n : Nat} (h : acC b bn bk (r + 1) I) : acC b bn bk r (adC I n) := by
  obtain ⟨h1, ⟨h2, h3⟩, c0, h4, h5⟩ := h
  refine ⟨?_, ⟨?_, fun i hi => ?_⟩, c0 + 1, ?_, by omega⟩
  · rw [adC_at (by omega) (by omega), h1]
  · rw [adC_at (by omega) (by omega), h2]
  · rw [adC_at (by omega) (by omega)]
    exact h3 i hi
  · show I 29 4 + 1 = _
    rw [h4, nI_1]
theorem acM_ad {r n : Nat} (h : acM bn bk (r + 1) I) : acM bn bk r (adM I n) := by
  obtain ⟨⟨h2, h3⟩, c0, h4, h5⟩ := h
  refine ⟨⟨?_, fun i hi => ?_⟩, c0 + 1, ?_, by omega⟩
  · rw [adM_at (by omega) (by omega), h2]
  · rw [adM_at (by omega) (by omega)]
    exact h3 i hi
  · show I 58 41 + 1 = _
    rw [h4, nI_1]
theorem acC_fo (l : List Nat) : ∀ {I : Nat → Nat → Int32} {r : Nat}, acC b bn bk (l.length + r) I → acC b bn bk r (l.foldl adC I) := by
  induction l with
  | nil => intro I r h; simpa using h
  | cons n l ih =>
    intro I r h
    rw [List.foldl_cons]
    exact ih (acC_ad (by rw [List.length_cons] at h; rwa [show l.length + 1 + r = l.length + r + 1 by omega] at h))
theorem acM_fo (l : List Nat) : ∀ {I : Nat → Nat → Int32} {r : Nat}, acM bn bk (l.length + r) I → acM bn bk r (l.foldl adM I) := by
  induction l with
  | nil => intro I r h; simpa using h
  | cons n l ih =>
    intro I r h
    rw [List.foldl_cons]
    exact ih (acM_ad (by rw [List.length_cons] at h; rwa [show l.length + 1 + r = l.length + r + 1 by omega] at h))
theorem acC_le {r r' : Nat} (h : acC b bn bk r I) (hr : r' ≤ r) : acC b bn bk r' I := by
  obtain ⟨h1, h2, c0, h4, h5⟩ := h
  exact ⟨h1, h2, c0, h4, by omega⟩
theorem acM_le {r r' : Nat} (h : acM bn bk r I) (hr : r' ≤ r) : acM bn bk r' I := by
  obtain ⟨h2, c0, h4, h5⟩ := h
  exact ⟨h2, c0, h4, by omega⟩
theorem trC_ad {l0 : List Nat} (h : trC l0 I) (hl : l0.length < 999) {n : Nat} : trC (l0 ++ [n]) (adC I n) := by
  obtain ⟨h1, h2, h3⟩ := h
  refine ⟨?_, by simp; omega, fun i hi hl => ?_⟩
  · show I 29 4 + 1 = _
    rw [h1, nI_1, List.length_append]
    rfl
  · simp only [List.length_append, List.length_cons, List.length_nil] at hl
    have e24 : (24 : Int32) ≤ I 29 4 ↔ 24 ≤ l0.length := by
      rw [h1, jle_iff, nI_toInt (by omega)]
      simp only [Int32.reduceToInt]
      omega
    unfold adC
    rw [ju_get, if_neg (by omega)]
    simp only [e24]
    by_cases q : i = l0.length
    · subst q
      rw [if_neg (by omega), h1, jcl' (by omega), ju_get, if_pos ⟨rfl, rfl⟩]
      simp
    · have q2 : i < l0.length := by omega
      have e2 : (l0 ++ [n]).getD i 0 = l0.getD i 0 := by
        rw [List.getD_eq_getElem?_getD, List.getD_eq_getElem?_getD, List.getElem?_append_left q2]
      rw [e2, ← h3 i hi q2]
      split
      · rfl
      · rw [ju_get, if_neg (fun k => q (by have := k.2; rw [h1, jcl' (by omega)] at this; exact this))]
theorem trM_ad {l0 : List Nat} (h : trM l0 I) (hl : l0.length < 999) {n : Nat} : trM (l0 ++ [n]) (adM I n) := by
  obtain ⟨h1, h2, h3⟩ := h
  refine ⟨?_, by simp; omega, fun i hi hl => ?_⟩
  · show I 58 41 + 1 = _
    rw [h1, nI_1, List.length_append]
    rfl
  · simp only [List.length_append, List.length_cons, List.length_nil] at hl
    have e24 : (24 : Int32) ≤ I 58 41 ↔ 24 ≤ l0.length := by
      rw [h1, jle_iff, nI_toInt (by omega)]
      simp only [Int32.reduceToInt]
      omega
    unfold adM
    rw [ju_get, if_neg (by omega)]
    simp only [e24]
    by_cases q : i = l0.length
    · subst q
      rw [if_neg (by omega), h1, jcl' (by omega), ju_get, if_pos ⟨rfl, rfl⟩]
      simp
    · have q2 : i < l0.length := by omega
      have e2 : (l0 ++ [n]).getD i 0 = l0.getD i 0 := by
        rw [List.getD_eq_getElem?_getD, List.getD_eq_getElem?_getD, List.getElem?_append_left q2]
      rw [e2, ← h3 i hi q2]
      split
      · rfl
      · rw [ju_get, if_neg (fun k => q (by have := k.2; rw [h1, jcl' (by omega)] at this; exact this))]
theorem trC_fo (l : List Nat) : ∀ {l0 : List Nat} {I : Nat → Nat → Int32}, trC l0 I → l0.length + l.length < 1000 → trC (l0 ++ l) (l.foldl adC I) := by
  induction l with
  | nil => intro l0 I h _; simpa using h
  | cons n l ih =>
    intro l0 I h hl
    rw [List.length_cons] at hl
    have := ih (trC_ad h (by omega) (n := n)) (by simp; omega)
    rw [List.foldl_cons]
    simpa using this
theorem trM_fo (l : List Nat) : ∀ {l0 : List Nat} {I : Nat → Nat → Int32}, trM l0 I → l0.length + l.length < 1000 → trM (l0 ++ l) (l.foldl adM I) := by
  induction l with
  | nil => intro l0 I h _; simpa using h
  | cons n l ih =>
    intro l0 I h hl
    rw [List.length_cons] at hl
    have := ih (trM_ad h (by omega) (n := n)) (by simp; omega)
    rw [List.foldl_cons]
    simpa using this
theorem q_18e {d k dd : Nat} {y0 y1 y2 y3 : Int32} : jat d 18 48 [.ref 29, .int y0, .int y1, .int y2, .int (nI dd), .int (nI k), .int y3] [] (jmk I L c e) = jat d 18 48 [.ref 29, .int y0, .int y1, .int y2, .int (nI dd), .int (nI k), .int 0] [] (jmk I L c e) := by
  rw [jb_18_48, jb_18_48, q_11]
  simp only [Option.bind_some, jps]
  rw [jb_18_53, jb_18_53]
theorem q_18l {a : Nat} (ha : a < 4) {d dd : Nat} {y0 y2 : Int32} : ∀ f k j : Nat, k < 8 → j + f < 8 → jOWN (4 * owF a f k + a) ≠ 0 → jat d 18 6 [.ref 29, .int y0, .int (nI a), .int y2, .int (nI dd), .int (nI k), .int (nI j)] [] (jmk I L c e) = jat d 18 48 [.ref 29, .int y0, .int (nI a), .int y2, .int (nI dd), .int (nI (owF a f k)), .int 0] [] (jmk I L c e) := by
  intro f
  induction f with
  | zero =>
    intro k j hk hj h0
    have e1 : nI k * 4 + nI a = nI (4 * k + a) := by rw [jI_lit, pk_mul, nI_add, Nat.mul_comm]
    rw [jb_18_6, decide_eq_false (by rw [jI_lit, nI_leI (by omega) (by omega)]; omega), cond_false, q_11, if_pos (jin_nI hk (by decide))]
    simp only [Option.bind_some, jps]
    rw [jb_18_18, jt_2, cond_false, e1, jdI (by omega), cond_true, jcl' (by omega), decide_eq_true (show ¬ jOWN (4 * k + a) = 0 from h0), cond_true, q_18e]
    rfl
  | succ f ih =>
    intro k j hk hj h0
    have e1 : nI k * 4 + nI a = nI (4 * k + a) := by rw [jI_lit, pk_mul, nI_add, Nat.mul_comm]
    rw [jb_18_6, decide_eq_false (by rw [jI_lit, nI_leI (by omega) (by omega)]; omega), cond_false, q_11, if_pos (jin_nI hk (by decide))]
    simp only [Option.bind_some, jps]
    rw [jb_18_18, jt_2, cond_false, e1, jdI (by omega), cond_true, jcl' (by omega)]
    unfold owF at h0 ⊢
    by_cases h : jOWN (4 * k + a) = 0
    · have hk0 := (ow_all a ha k hk).2.2.2.1 h
      have hp := par_8 k hk hk0.1
      have hp2 := (par_ok k (by omega)).2 hk
      have e2 : jABV k = nI (par k) := by
        rw [hp2]
        unfold nK
        rw [if_pos hp]
      rw [if_pos h] at h0 ⊢
      rw [decide_eq_false (fun q => q h), cond_false, jdI hk, cond_true, jcl' (by omega), e2, nI_1]
      exact ih (par k) (j + 1) hp (by omega) h0
    · rw [if_neg h]
      rw [decide_eq_true h, cond_true, q_18e]
theorem q_18h {a k d dd : Nat} (ha : a < 4) (hk : k < 8) (hd : dd < 40) {r : Nat} (h : acC b bn bk (r + 1) I) : jev (d + 1) 18 [.ref 29, .int (nI k), .int (nI a), .int x, .int (nI dd)] (jmk I L c e) = (jev d 19 [.ref 29, .int (jOWN (4 * ow a k + a)), .int (jABV (ow a k)), .int x, .int (nI (dd + 1))] (jmk (adC I (jOWN (4 * ow a k + a)).toNatClampNeg) L c e)).bind fun r => jat (d + 1) 18 124 [.ref 29, .int (nI k), .int (nI a), .int x, .int (nI dd), .int (nI (ow a k)), .int (jOWN (4 * ow a k + a))] (jps r.1 []) r.2 := by
  obtain ⟨h1, h2, c0, h4, h5⟩ := h
  obtain ⟨o1, o2, o3, o4, o5⟩ := ow_all a ha k hk
  have e1 : nI (ow a k) * 4 + nI a = nI (4 * ow a k + a) := by rw [jI_lit, pk_mul, nI_add, Nat.mul_comm]
  have e2 : nI (jOWN (4 * ow a k + a)).toNatClampNeg = jOWN (4 * ow a k + a) := by
    have : ∀ i, i < 32 → nI (jOWN i).toNatClampNeg = jOWN i := by decide
    exact this _ (by omega)
  rw [jb_18_0]
  have hl := q_18l (I := I) (L := L) (c := c) (e := e) ha (d := d + 1) (dd := dd) (y0 := nI k) (y2 := x) 4 k 0 hk (by omega) o2
  rw [show (0 : Int32) = nI 0 from rfl, hl]
  show jat (d + 1) 18 48 [.ref 29, .int (nI k), .int (nI a), .int x, .int (nI dd), .int (nI (ow a k)), .int 0] [] (jmk I L c e) = _
  rw [jb_18_48, q_11, if_pos (jin_nI o1 (by decide))]
  simp only [Option.bind_some, jps]
  rw [jb_18_53, jt_2, cond_false, decide_eq_true (show nI dd < 40 from nI_lt hd (by decide)), cond_true, e1, jdI (by omega), cond_true, jcl' (by omega)]
  have e3 : ∀ I2 : Nat → Nat → Int32, ju I2 29 4 (I2 29 4 + 1) = ju I2 29 4 (I2 29 4 + 1) := fun _ => rfl
  unfold adC
  rw [e2]
  simp only [Bool.cond_decide]
  by_cases q : (24 : Int32) ≤ I 29 4
  · rw [if_pos q, if_pos q, jb_18_97, jdI o1, cond_true, jcl' (by omega), nI_1]
    rfl
  · have q2 : jin (I 29 4) 24 := by
      rw [h4] at q ⊢
      rw [jle_iff, nI_toInt (by omega)] at q
      simp only [Int32.reduceToInt] at q
      exact jin_nI (by omega) (by decide)
    rw [if_neg q, if_pos q2, if_neg q, jb_18_97, jdI o1, cond_true, jcl' (by omega), nI_1]
    rfl
abbrev ihC (o b bn : Nat) (bk : Nat → Nat) (L : Nat → Nat → Int64) (c e f : Nat) : Prop := ∀ (a k d dd : Nat) (x : Int32) (I : Nat → Nat → Int32), a < 4 → k < 8 → aD o f a k = true → dd + f ≤ 40 → 2 * f ≤ d → acC b bn bk (aT o f a k).length I → jev d 18 [.ref 29, .int (nI k), .int (nI a), .int x, .int (nI dd)] (jmk I L c e) = some (some (.int (aV o (nI b) f a k x)), jmk ((aT o f a k).foldl adC I) L c e)
theorem q_19_1 {o f d dd : Nat} (hb : b < bn) (hbn : bn ≤ 50) (ho : bk b = o) (ho8 : o < 8) (ih : ihC o b bn bk L c e f) (hd : dd + f ≤ 40) (hd2 : 2 * f ≤ d) (h : acC b bn bk (0) I) : jev (d + 1) 19 [.ref 29, .int 1, .int (jABV 0), .int x, .int (nI dd)] (jmk I L c e) = some (some (.int (x + nI b)), jmk ((([] : List Nat)).foldl adC I) L c e) := by
  have hk := q_14 (d := d + 1) (L := L) (c := c) (e := e) hbn h.2.1 hb
  rw [jb_19_0, h.1, hk, ho]
  simp only [Option.bind_some, jps]
  rw [jb_19_8, jb_19_11]
  show jat (d + 1) 19 124 _ _ _ = _
  rw [jb_19_124]
  rw [h.1]
  rfl
theorem q_19_20 {o f d dd : Nat} (hb : b < bn) (hbn : bn ≤ 50) (ho : bk b = o) (ho8 : o < 8) (ih : ihC o b bn bk L c e f) (hd : dd + f ≤ 40) (hd2 : 2 * f ≤ d) (h0 : aD o f 0 0 = true) (h : acC b bn bk ((aT o f 0 0).length) I) : jev (d + 1) 19 [.ref 29, .int 20, .int (jABV 1), .int x, .int (nI dd)] (jmk I L c e) = some (some (.int ((aV o (nI b) f 0 0 x) + 3)), jmk ((aT o f 0 0).foldl adC I) L c e) := by
  have hk := q_14 (d := d + 1) (L := L) (c := c) (e := e) hbn h.2.1 hb
  rw [jb_19_0, h.1, hk, ho]
  simp only [Option.bind_some, jps]
  rw [jb_19_8, jb_19_11]
  show jat (d + 1) 19 173 _ _ _ = _
  rw [jb_19_173]
  have i0 : jev d 18 [.ref 29, .int (jABV 1), .int 0, .int x, .int (nI dd)] (jmk I L c e) = some (some (.int (aV o (nI b) f 0 0 x)), jmk ((aT o f 0 0).foldl adC I) L c e) := ih 0 0 d dd x _ (by decide) (by decide) h0 hd hd2 (acC_le h (by omega))
  rw [show jcl (d + 1) 19 18 = jev d 18 from rfl, i0]
  simp only [Option.bind_some, jps]
  rw [jb_19_182]
theorem q_19_70 {o f d dd : Nat} (hb : b < bn) (hbn : bn ≤ 50) (ho : bk b = o) (ho8 : o < 8) (ih : ihC o b bn bk L c e f) (hd : dd + f ≤ 40) (hd2 : 2 * f ≤ d) (h0 : aD o f 0 0 = true) (h : acC b bn bk ((aT o f 0 0).length) I) : jev (d + 1) 19 [.ref 29, .int 70, .int (jABV 6), .int x, .int (nI dd)] (jmk I L c e) = some (some (.int ((aV o (nI b) f 0 0 x) * 2)), jmk ((aT o f 0 0).foldl adC I) L c e) := by
  have hk := q_14 (d := d + 1) (L := L) (c := c) (e := e) hbn h.2.1 hb
  rw [jb_19_0, h.1, hk, ho]
  simp only [Option.bind_some, jps]
  rw [jb_19_8, jb_19_11]
  show jat (d + 1) 19 253 _ _ _ = _
  rw [jb_19_253]
  have i0 : jev d 18 [.ref 29, .int (jABV 6), .int 0, .int x, .int (nI dd)] (jmk I L c e) = some (some (.int (aV o (nI b) f 0 0 x)), jmk ((aT o f 0 0).foldl adC I) L c e) := ih 0 0 d dd x _ (by decide) (by decide) h0 hd hd2 (acC_le h (by omega))
  rw [show jcl (d + 1) 19 18 = jev d 18 from rfl, i0]
  simp only [Option.bind_some, jps]
  rw [jb_19_262]
theorem q_19_10 {o f d dd : Nat} (hb : b < bn) (hbn : bn ≤ 50) (ho : bk b = o) (ho8 : o < 8) (ih : ihC o b bn bk L c e f) (hd : dd + f ≤ 40) (hd2 : 2 * f ≤ d) (h0 : aD o f 0 o = true) (h : acC b bn bk ((aT o f 0 o).length) I) : jev (d + 1) 19 [.ref 29, .int 10, .int (jABV 0), .int x, .int (nI dd)] (jmk I L c e) = some (some (.int ((aV o (nI b) f 0 o x) * 2)), jmk ((aT o f 0 o).foldl adC I) L c e) := by
  have hk := q_14 (d := d + 1) (L := L) (c := c) (e := e) hbn h.2.1 hb
  rw [jb_19_0, h.1, hk, ho]
  simp only [Option.bind_some, jps]
  rw [jb_19_8, jb_19_11]
  show jat (d + 1) 19 153 _ _ _ = _
  rw [jb_19_153]
  have i0 : jev d 18 [.ref 29, .int (nI o), .int 0, .int x, .int (nI dd)] (jmk I L c e) = some (some (.int (aV o (nI b) f 0 o x)), jmk ((aT o f 0 o).foldl adC I) L c e) := ih 0 o d dd x _ (by decide) ho8 h0 hd hd2 (acC_le h (by omega))
  rw [show jcl (d + 1) 19 18 = jev d 18 from rfl, i0]
  simp only [Option.bind_some, jps]
  rw [jb_19_163]
theorem q_19_30 {o f d dd : Nat} (hb : b < bn) (hbn : bn ≤ 50) (ho : bk b = o) (ho8 : o < 8) (ih : ihC o b bn bk L c e f) (hd : dd + f ≤ 40) (hd2 : 2 * f ≤ d) (h0 : aD o f 1 0 = true) (h : acC b bn bk ((aT o f 1 0).length) I) : jev (d + 1) 19 [.ref 29, .int 30, .int (jABV 2), .int x, .int (nI dd)] (jmk I L c e) = some (some (.int (-(aV o (nI b) f 1 0 x))), jmk ((aT o f 1 0).foldl adC I) L c e) := by
  have hk := q_14 (d := d + 1) (L := L) (c := c) (e := e) hbn h.2.1 hb
  rw [jb_19_0, h.1, hk, ho]
  simp only [Option.bind_some, jps]
  rw [jb_19_8, jb_19_11]
  show jat (d + 1) 19 185 _ _ _ = _
  rw [jb_19_185]
  have i0 : jev d 18 [.ref 29, .int (jABV 2), .int 1, .int x, .int (nI dd)] (jmk I L c e) = some (some (.int (aV o (nI b) f 1 0 x)), jmk ((aT o f 1 0).foldl adC I) L c e) := ih 1 0 d dd x _ (by decide) (by decide) h0 hd hd2 (acC_le h (by omega))
  rw [show jcl (d + 1) 19 18 = jev d 18 from rfl, i0]
  simp only [Option.bind_some, jps]
  rw [jb_19_194]
theorem q_19_41 {o f d dd : Nat} (hb : b < bn) (hbn : bn ≤ 50) (ho : bk b = o) (ho8 : o < 8) (ih : ihC o b bn bk L c e f) (hd : dd + f ≤ 40) (hd2 : 2 * f ≤ d) (h0 : aD o f 1 2 = true) (h : acC b bn bk ((aT o f 1 2).length) I) : jev (d + 1) 19 [.ref 29, .int 41, .int (jABV 3), .int x, .int (nI dd)] (jmk I L c e) = some (some (.int ((aV o (nI b) f 1 2 (x + 1)))), jmk ((aT o f 1 2).foldl adC I) L c e) := by
  have hk := q_14 (d := d + 1) (L := L) (c := c) (e := e) hbn h.2.1 hb
  rw [jb_19_0, h.1, hk, ho]
  simp only [Option.bind_some, jps]
  rw [jb_19_8, jb_19_11]
  show jat (d + 1) 19 208 _ _ _ = _
  rw [jb_19_208]
  have i0 : jev d 18 [.ref 29, .int (jABV 3), .int 1, .int (x + 1), .int (nI dd)] (jmk I L c e) = some (some (.int (aV o (nI b) f 1 2 (x + 1))), jmk ((aT o f 1 2).foldl adC I) L c e) := ih 1 2 d dd (x + 1) _ (by decide) (by decide) h0 hd hd2 (acC_le h (by omega))
  rw [show jcl (d + 1) 19 18 = jev d 18 from rfl, i0]
  simp only [Option.bind_some, jps]
  rw [jb_19_219]
theorem q_19_80 {o f d dd : Nat} (hb : b < bn) (hbn : bn ≤ 50) (ho : bk b = o) (ho8 : o < 8) (ih : ihC o b bn bk L c e f) (hd : dd + f ≤ 40) (hd2 : 2 * f ≤ d) (h0 : aD o f 1 4 = true) (h1 : aD o f 2 o = true) (h : acC b bn bk ((aT o f 1 4).length + (aT o f 2 o).length) I) : jev (d + 1) 19 [.ref 29, .int 80, .int (jABV 7), .int x, .int (nI dd)] (jmk I L c e) = some (some (.int ((aV o (nI b) f 1 4 x) + (aV o (nI b) f 2 o 2))), jmk ((aT o f 1 4 ++ aT o f 2 o).foldl adC I) L c e) := by
  have hk := q_14 (d := d + 1) (L := L) (c := c) (e := e) hbn h.2.1 hb
  rw [jb_19_0, h.1, hk, ho]
  simp only [Option.bind_some, jps]
  rw [jb_19_8, jb_19_11]
  show jat (d + 1) 19 265 _ _ _ = _
  rw [jb_19_265]
  have i0 : jev d 18 [.ref 29, .int (jABV 7), .int 1, .int x, .int (nI dd)] (jmk I L c e) = some (some (.int (aV o (nI b) f 1 4 x)), jmk ((aT o f 1 4).foldl adC I) L c e) := ih 1 4 d dd x _ (by decide) (by decide) h0 hd hd2 (acC_le h (by omega))
  rw [show jcl (d + 1) 19 18 = jev d 18 from rfl, i0]
  simp only [Option.bind_some, jps]
  have i1 : jev d 18 [.ref 29, .int (nI o), .int 2, .int 2, .int (nI dd)] (jmk ((aT o f 1 4).foldl adC I) L c e) = some (some (.int (aV o (nI b) f 2 o 2)), jmk ((aT o f 2 o).foldl adC ((aT o f 1 4).foldl adC I)) L c e) := ih 2 o d dd 2 _ (by decide) ho8 h1 hd hd2 (acC_fo _ (acC_le h (by omega)))
  rw [jb_19_274, show jcl (d + 1) 19 18 = jev d 18 from rfl, i1]
  simp only [Option.bind_some, jps]
  rw [jb_19_284, List.foldl_append]
theorem q_19_11 {o f d dd : Nat} (hb : b < bn) (hbn : bn ≤ 50) (ho : bk b = o) (ho8 : o < 8) (ih : ihC o b bn bk L c e f) (hd : dd + f ≤ 40) (hd2 : 2 * f ≤ d) (h : acC b bn bk (0) I) : jev (d + 1) 19 [.ref 29, .int 11, .int (jABV 0), .int x, .int (nI dd)] (jmk I L c e) = some (some (.int (x ^^^ nI b)), jmk ((([] : List Nat)).foldl adC I) L c e) := by
  have hk := q_14 (d := d + 1) (L := L) (c := c) (e := e) hbn h.2.1 hb
  rw [jb_19_0, h.1, hk, ho]
  simp only [Option.bind_some, jps]
  rw [jb_19_8, jb_19_11]
  show jat (d + 1) 19 166 _ _ _ = _
  rw [jb_19_166]
  rw [h.1]
  rfl
theorem q_19_40 {o f d dd : Nat} (hb : b < bn) (hbn : bn ≤ 50) (ho : bk b = o) (ho8 : o < 8) (ih : ihC o b bn bk L c e f) (hd : dd + f ≤ 40) (hd2 : 2 * f ≤ d) (h0 : aD o f 2 2 = true) (h : acC b bn bk ((aT o f 2 2).length) I) : jev (d + 1) 19 [.ref 29, .int 40, .int (jABV 3), .int x, .int (nI dd)] (jmk I L c e) = some (some (.int ((aV o (nI b) f 2 2 x) * 3)), jmk ((aT o f 2 2).foldl adC I) L c e) := by
  have hk := q_14 (d := d + 1) (L := L) (c := c) (e := e) hbn h.2.1 hb
  rw [jb_19_0, h.1, hk, ho]
  simp only [Option.bind_some, jps]
  rw [jb_19_8, jb_19_11]
  show jat (d + 1) 19 196 _ _ _ = _
  rw [jb_19_196]
  have i0 : jev d 18 [.ref 29, .int (jABV 3), .int 2, .int x, .int (nI dd)] (jmk I L c e) = some (some (.int (aV o (nI b) f 2 2 x)), jmk ((aT o f 2 2).foldl adC I) L c e) := ih 2 2 d dd x _ (by decide) (by decide) h0 hd hd2 (acC_le h (by omega))
  rw [show jcl (d + 1) 19 18 = jev d 18 from rfl, i0]
  simp only [Option.bind_some, jps]
  rw [jb_19_205]
theorem q_19_50 {o f d dd : Nat} (hb : b < bn) (hbn : bn ≤ 50) (ho : bk b = o) (ho8 : o < 8) (ih : ihC o b bn bk L c e f) (hd : dd + f ≤ 40) (hd2 : 2 * f ≤ d) (h0 : aD o f 2 1 = true) (h1 : aD o f 0 o = true) (h : acC b bn bk ((aT o f 2 1).length + (aT o f 0 o).length) I) : jev (d + 1) 19 [.ref 29, .int 50, .int (jABV 4), .int x, .int (nI dd)] (jmk I L c e) = some (some (.int ((aV o (nI b) f 2 1 x) - (aV o (nI b) f 0 o 2))), jmk ((aT o f 2 1 ++ aT o f 0 o).foldl adC I) L c e) := by
  have hk := q_14 (d := d + 1) (L := L) (c := c) (e := e) hbn h.2.1 hb
  rw [jb_19_0, h.1, hk, ho]
  simp only [Option.bind_some, jps]
  rw [jb_19_8, jb_19_11]
  show jat (d + 1) 19 220 _ _ _ = _
  rw [jb_19_220]
  have i0 : jev d 18 [.ref 29, .int (jABV 4), .int 2, .int x, .int (nI dd)] (jmk I L c e) = some (some (.int (aV o (nI b) f 2 1 x)), jmk ((aT o f 2 1).foldl adC I) L c e) := ih 2 1 d dd x _ (by decide) (by decide) h0 hd hd2 (acC_le h (by omega))
  rw [show jcl (d + 1) 19 18 = jev d 18 from rfl, i0]
  simp only [Option.bind_some, jps]
  have i1 : jev d 18 [.ref 29, .int (nI o), .int 0, .int 2, .int (nI dd)] (jmk ((aT o f 2 1).foldl adC I) L c e) = some (some (.int (aV o (nI b) f 0 o 2)), jmk ((aT o f 0 o).foldl adC ((aT o f 2 1).foldl adC I)) L c e) := ih 0 o d dd 2 _ (by decide) ho8 h1 hd hd2 (acC_fo _ (acC_le h (by omega)))
  rw [jb_19_229, show jcl (d + 1) 19 18 = jev d 18 from rfl, i1]
  simp only [Option.bind_some, jps]
  rw [jb_19_239, List.foldl_append]
theorem q_19_2 {o f d dd : Nat} (hb : b < bn) (hbn : bn ≤ 50) (ho : bk b = o) (ho8 : o < 8) (ih : ihC o b bn bk L c e f) (hd : dd + f ≤ 40) (hd2 : 2 * f ≤ d) (h0 : aD o f 1 o = true) (h1 : aD o f 2 o = true) (h : acC b bn bk ((aT o f 1 o).length + (aT o f 2 o).length) I) : jev (d + 1) 19 [.ref 29, .int 2, .int (jABV 0), .int x, .int (nI dd)] (jmk I L c e) = some (some (.int ((aV o (nI b) f 1 o x) - (aV o (nI b) f 2 o 1))), jmk ((aT o f 1 o ++ aT o f 2 o).foldl adC I) L c e) := by
  have hk := q_14 (d := d + 1) (L := L) (c := c) (e := e) hbn h.2.1 hb
  rw [jb_19_0, h.1, hk, ho]
  simp only [Option.bind_some, jps]
  rw [jb_19_8, jb_19_11]
  show jat (d + 1) 19 131 _ _ _ = _
  rw [jb_19_131]
  have i0 : jev d 18 [.ref 29, .int (nI o), .int 1, .int x, .int (nI dd)] (jmk I L c e) = some (some (.int (aV o (nI b) f 1 o x)), jmk ((aT o f 1 o).foldl adC I) L c e) := ih 1 o d dd x _ (by decide) ho8 h0 hd hd2 (acC_le h (by omega))
  rw [show jcl (d + 1) 19 18 = jev d 18 from rfl, i0]
  simp only [Option.bind_some, jps]
  have i1 : jev d 18 [.ref 29, .int (nI o), .int 2, .int 1, .int (nI dd)] (jmk ((aT o f 1 o).foldl adC I) L c e) = some (some (.int (aV o (nI b) f 2 o 1)), jmk ((aT o f 2 o).foldl adC ((aT o f 1 o).foldl adC I)) L c e) := ih 2 o d dd 1 _ (by decide) ho8 h1 hd hd2 (acC_fo _ (acC_le h (by omega)))
  rw [jb_19_141, show jcl (d + 1) 19 18 = jev d 18 from rfl, i1]
  simp only [Option.bind_some, jps]
  rw [jb_19_151, List.foldl_append]
theorem q_19_60 {o f d dd : Nat} (hb : b < bn) (hbn : bn ≤ 50) (ho : bk b = o) (ho8 : o < 8) (ih : ihC o b bn bk L c e f) (hd : dd + f ≤ 40) (hd2 : 2 * f ≤ d) (h0 : aD o f 3 3 = true) (h : acC b bn bk ((aT o f 3 3).length) I) : jev (d + 1) 19 [.ref 29, .int 60, .int (jABV 5), .int x, .int (nI dd)] (jmk I L c e) = some (some (.int ((aV o (nI b) f 3 3 x) ^^^ 5)), jmk ((aT o f 3 3).foldl adC I) L c e) := by
  have hk := q_14 (d := d + 1) (L := L) (c := c) (e := e) hbn h.2.1 hb
  rw [jb_19_0, h.1, hk, ho]
  simp only [Option.bind_some, jps]
  rw [jb_19_8, jb_19_11]
  show jat (d + 1) 19 241 _ _ _ = _
  rw [jb_19_241]
  have i0 : jev d 18 [.ref 29, .int (jABV 5), .int 3, .int x, .int (nI dd)] (jmk I L c e) = some (some (.int (aV o (nI b) f 3 3 x)), jmk ((aT o f 3 3).foldl adC I) L c e) := ih 3 3 d dd x _ (by decide) (by decide) h0 hd hd2 (acC_le h (by omega))
  rw [show jcl (d + 1) 19 18 = jev d 18 from rfl, i0]
  simp only [Option.bind_some, jps]
  rw [jb_19_250]
theorem q_19_81 {o f d dd : Nat} (hb : b < bn) (hbn : bn ≤ 50) (ho : bk b = o) (ho8 : o < 8) (ih : ihC o b bn bk L c e f) (hd : dd + f ≤ 40) (hd2 : 2 * f ≤ d) (h0 : aD o f 3 4 = true) (h : acC b bn bk ((aT o f 3 4).length) I) : jev (d + 1) 19 [.ref 29, .int 81, .int (jABV 7), .int x, .int (nI dd)] (jmk I L c e) = some (some (.int ((aV o (nI b) f 3 4 x) - 1)), jmk ((aT o f 3 4).foldl adC I) L c e) := by
  have hk := q_14 (d := d + 1) (L := L) (c := c) (e := e) hbn h.2.1 hb
  rw [jb_19_0, h.1, hk, ho]
  simp only [Option.bind_some, jps]
  rw [jb_19_8, jb_19_11]
  show jat (d + 1) 19 286 _ _ _ = _
  rw [jb_19_286]
  have i0 : jev d 18 [.ref 29, .int (jABV 7), .int 3, .int x, .int (nI dd)] (jmk I L c e) = some (some (.int (aV o (nI b) f 3 4 x)), jmk ((aT o f 3 4).foldl adC I) L c e) := ih 3 4 d dd x _ (by decide) (by decide) h0 hd hd2 (acC_le h (by omega))
  rw [show jcl (d + 1) 19 18 = jev d 18 from rfl, i0]
  simp only [Option.bind_some, jps]
  rw [jb_19_295]
theorem q_18 {o : Nat} (hb : b < bn) (hbn : bn ≤ 50) (ho : bk b = o) (ho8 : o < 8) : ∀ f, ihC o b bn bk L c e f := by
  intro f
  induction f with
  | zero => intro a k d dd x I _ _ h; cases h
  | succ f ih =>
    intro a k d dd x I ha hk hD hdd hd h
    obtain ⟨d, rfl⟩ : ∃ d2, d = d2 + 2 := ⟨d - 2, by omega⟩
    have hh := fun (r : Nat) (h : acC b bn bk (r + 1) I) => q_18h (L := L) (c := c) (e := e) (x := x) (d := d + 1) ha hk (show dd < 40 by omega) h
    obtain ⟨o1, o2, o3, o4, o5⟩ := ow_all a ha k hk
    have hcase : 4 * ow a k + a ∈ [0, 4, 24, 1, 9, 13, 29, 2, 14, 18, 3, 23, 31] := by
      have : ∀ a, a < 4 → ∀ p, p < 8 → jOWN (4 * p + a) ≠ 0 → 4 * p + a ∈ [0, 4, 24, 1, 9, 13, 29, 2, 14, 18, 3, 23, 31] := by decide
      exact this a ha _ o1 o2
    simp only [List.mem_cons, List.not_mem_nil, or_false] at hcase
    rcases hcase with hm | hm | hm | hm | hm | hm | hm | hm | hm | hm | hm | hm | hm
    · obtain ⟨rfl, hp⟩ : a = 0 ∧ ow a k = 0 := by omega
      simp only [aD, aT, aV, hp] at hD h ⊢
      rw [hp] at hh
      have h2 : acC b bn bk (0 + 1) I := acC_le h (by simp)
      rw [hh _ h2]
      have i1 := q_19_1 (x := x) (L := L) (c := c) (e := e) (d := d) (dd := dd + 1) hb hbn ho ho8 ih (by omega) (by omega) (acC_ad (n := 1) h2)
      rw [show jOWN (4 * 0 + 0) = 1 from rfl, show (1 : Int32).toNatClampNeg = 1 from rfl, i1]
      simp only [Option.bind_some, jps]
      rw [jb_18_124]
      rfl
    · obtain ⟨rfl, hp⟩ : a = 0 ∧ ow a k = 1 := by omega
      simp only [aD, aT, aV, hp] at hD h ⊢
      rw [hp] at hh
      have h2 : acC b bn bk ((aT o f 0 0).length + 1) I := acC_le h (by simp)
      rw [hh _ h2]
      have i1 := q_19_20 (x := x) (L := L) (c := c) (e := e) (d := d) (dd := dd + 1) hb hbn ho ho8 ih (by omega) (by omega) hD (acC_ad (n := 20) h2)
      rw [show jOWN (4 * 1 + 0) = 20 from rfl, show (20 : Int32).toNatClampNeg = 20 from rfl, i1]
      simp only [Option.bind_some, jps]
      rw [jb_18_124]
      rfl
    · obtain ⟨rfl, hp⟩ : a = 0 ∧ ow a k = 6 := by omega
      simp only [aD, aT, aV, hp] at hD h ⊢
      rw [hp] at hh
      have h2 : acC b bn bk ((aT o f 0 0).length + 1) I := acC_le h (by simp)
      rw [hh _ h2]
      have i1 := q_19_70 (x := x) (L := L) (c := c) (e := e) (d := d) (dd := dd + 1) hb hbn ho ho8 ih (by omega) (by omega) hD (acC_ad (n := 70) h2)
      rw [show jOWN (4 * 6 + 0) = 70 from rfl, show (70 : Int32).toNatClampNeg = 70 from rfl, i1]
      simp only [Option.bind_some, jps]
      rw [jb_18_124]
      rfl
    · obtain ⟨rfl, hp⟩ : a = 1 ∧ ow a k = 0 := by omega
      simp only [aD, aT, aV, hp] at hD h ⊢
      rw [hp] at hh
      have h2 : acC b bn bk ((aT o f 0 o).length + 1) I := acC_le h (by simp)
      rw [hh _ h2]
      have i1 := q_19_10 (x := x) (L := L) (c := c) (e := e) (d := d) (dd := dd + 1) hb hbn ho ho8 ih (by omega) (by omega) hD (acC_ad (n := 10) h2)
      rw [show jOWN (4 * 0 + 1) = 10 from rfl, show (10 : Int32).toNatClampNeg = 10 from rfl, i1]
      simp only [Option.bind_some, jps]
      rw [jb_18_124]
      rfl
    · obtain ⟨rfl, hp⟩ : a = 1 ∧ ow a k = 2 := by omega
      simp only [aD, aT, aV, hp] at hD h ⊢
      rw [hp] at hh
      have h2 : acC b bn bk ((aT o f 1 0).length + 1) I := acC_le h (by simp)
      rw [hh _ h2]
      have i1 := q_19_30 (x := x) (L := L) (c := c) (e := e) (d := d) (dd := dd + 1) hb hbn ho ho8 ih (by omega) (by omega) hD (acC_ad (n := 30) h2)
      rw [show jOWN (4 * 2 + 1) = 30 from rfl, show (30 : Int32).toNatClampNeg = 30 from rfl, i1]
      simp only [Option.bind_some, jps]
      rw [jb_18_124]
      rfl
    · obtain ⟨rfl, hp⟩ : a = 1 ∧ ow a k = 3 := by omega
      simp only [aD, aT, aV, hp] at hD h ⊢
      rw [hp] at hh
      have h2 : acC b bn bk ((aT o f 1 2).length + 1) I := acC_le h (by simp)
      rw [hh _ h2]
      have i1 := q_19_41 (x := x) (L := L) (c := c) (e := e) (d := d) (dd := dd + 1) hb hbn ho ho8 ih (by omega) (by omega) hD (acC_ad (n := 41) h2)
      rw [show jOWN (4 * 3 + 1) = 41 from rfl, show (41 : Int32).toNatClampNeg = 41 from rfl, i1]
      simp only [Option.bind_some, jps]
      rw [jb_18_124]
      rfl
    · obtain ⟨rfl, hp⟩ : a = 1 ∧ ow a k = 7 := by omega
      simp only [aD, aT, aV, hp, Bool.and_eq_true] at hD h ⊢
      rw [hp] at hh
      have h2 : acC b bn bk ((aT o f 1 4).length + (aT o f 2 o).length + 1) I := acC_le h (by simp <;> omega)
      rw [hh _ h2]
      have i1 := q_19_80 (x := x) (L := L) (c := c) (e := e) (d := d) (dd := dd + 1) hb hbn ho ho8 ih (by omega) (by omega) hD.1 hD.2 (acC_ad (n := 80) h2)
      rw [show jOWN (4 * 7 + 1) = 80 from rfl, show (80 : Int32).toNatClampNeg = 80 from rfl, i1]
      simp only [Option.bind_some, jps]
      rw [jb_18_124]
      rfl
    · obtain ⟨rfl, hp⟩ : a = 2 ∧ ow a k = 0 := by omega
      simp only [aD, aT, aV, hp] at hD h ⊢
      rw [hp] at hh
      have h2 : acC b bn bk (0 + 1) I := acC_le h (by simp)
      rw [hh _ h2]
      have i1 := q_19_11 (x := x) (L := L) (c := c) (e := e) (d := d) (dd := dd + 1) hb hbn ho ho8 ih (by omega) (by omega) (acC_ad (n := 11) h2)
      rw [show jOWN (4 * 0 + 2) = 11 from rfl, show (11 : Int32).toNatClampNeg = 11 from rfl, i1]
      simp only [Option.bind_some, jps]
      rw [jb_18_124]
      rfl
    · obtain ⟨rfl, hp⟩ : a = 2 ∧ ow a k = 3 := by omega
      simp only [aD, aT, aV, hp] at hD h ⊢
      rw [hp] at hh
      have h2 : acC b bn bk ((aT o f 2 2).length + 1) I := acC_le h (by simp)
      rw [hh _ h2]
      have i1 := q_19_40 (x := x) (L := L) (c := c) (e := e) (d := d) (dd := dd + 1) hb hbn ho ho8 ih (by omega) (by omega) hD (acC_ad (n := 40) h2)
      rw [show jOWN (4 * 3 + 2) = 40 from rfl, show (40 : Int32).toNatClampNeg = 40 from rfl, i1]
      simp only [Option.bind_some, jps]
      rw [jb_18_124]
      rfl
    · obtain ⟨rfl, hp⟩ : a = 2 ∧ ow a k = 4 := by omega
      simp only [aD, aT, aV, hp, Bool.and_eq_true] at hD h ⊢
      rw [hp] at hh
      have h2 : acC b bn bk ((aT o f 2 1).length + (aT o f 0 o).length + 1) I := acC_le h (by simp <;> omega)
      rw [hh _ h2]
      have i1 := q_19_50 (x := x) (L := L) (c := c) (e := e) (d := d) (dd := dd + 1) hb hbn ho ho8 ih (by omega) (by omega) hD.1 hD.2 (acC_ad (n := 50) h2)
      rw [show jOWN (4 * 4 + 2) = 50 from rfl, show (50 : Int32).toNatClampNeg = 50 from rfl, i1]
      simp only [Option.bind_some, jps]
      rw [jb_18_124]
      rfl
    · obtain ⟨rfl, hp⟩ : a = 3 ∧ ow a k = 0 := by omega
      simp only [aD, aT, aV, hp, Bool.and_eq_true] at hD h ⊢
      rw [hp] at hh
      have h2 : acC b bn bk ((aT o f 1 o).length + (aT o f 2 o).length + 1) I := acC_le h (by simp <;> omega)
      rw [hh _ h2]
      have i1 := q_19_2 (x := x) (L := L) (c := c) (e := e) (d := d) (dd := dd + 1) hb hbn ho ho8 ih (by omega) (by omega) hD.1 hD.2 (acC_ad (n := 2) h2)
      rw [show jOWN (4 * 0 + 3) = 2 from rfl, show (2 : Int32).toNatClampNeg = 2 from rfl, i1]
      simp only [Option.bind_some, jps]
      rw [jb_18_124]
      rfl
    · obtain ⟨rfl, hp⟩ : a = 3 ∧ ow a k = 5 := by omega
      simp only [aD, aT, aV, hp] at hD h ⊢
      rw [hp] at hh
      have h2 : acC b bn bk ((aT o f 3 3).length + 1) I := acC_le h (by simp)
      rw [hh _ h2]
      have i1 := q_19_60 (x := x) (L := L) (c := c) (e := e) (d := d) (dd := dd + 1) hb hbn ho ho8 ih (by omega) (by omega) hD (acC_ad (n := 60) h2)
      rw [show jOWN (4 * 5 + 3) = 60 from rfl, show (60 : Int32).toNatClampNeg = 60 from rfl, i1]
      simp only [Option.bind_some, jps]
      rw [jb_18_124]
      rfl
    · obtain ⟨rfl, hp⟩ : a = 3 ∧ ow a k = 7 := by omega
      simp only [aD, aT, aV, hp] at hD h ⊢
      rw [hp] at hh
      have h2 : acC b bn bk ((aT o f 3 4).length + 1) I := acC_le h (by simp)
      rw [hh _ h2]
      have i1 := q_19_81 (x := x) (L := L) (c := c) (e := e) (d := d) (dd := dd + 1) hb hbn ho ho8 ih (by omega) (by omega) hD (acC_ad (n := 81) h2)
      rw [show jOWN (4 * 7 + 3) = 81 from rfl, show (81 : Int32).toNatClampNeg = 81 from rfl, i1]
      simp only [Option.bind_some, jps]
      rw [jb_18_124]
      rfl
end ACT
