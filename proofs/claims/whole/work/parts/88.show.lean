/-! show: the fewest moves that make it soon -/
def shB (P : Nat → Bool) (kn c x : Nat) : Bool := decide (x &&& kn = 0) && decide (bcN x = c) && P (kn ||| x)
def shG (P : Nat → Bool) (kn N : Nat) : Nat → Nat → Option Nat
  | 0, _ => none
  | f + 1, c => match fstW (shB P kn c) N with
    | some x => some x
    | none => shG P kn N f (c + 1)
def bsN (P : Nat → Bool) (kn k : Nat) (o : Option Nat) : Option Nat := if bcN k ≤ 3 ∧ (∀ x, o = some x → bcN k < bcN x) ∧ P (kn ||| k) = true then some k else o
def bsR (P : Nat → Bool) (kn : Nat) : Nat → Option Nat
  | 0 => none
  | k + 1 => bsN P kn k (bsR P kn k)
def peK (pe : Nat → aPe) (o kx : Nat) : Nat → aPe := fun i => if i = o then ((pe o).1, kx, (pe o).2.2) else pe i
/-- soon by one who knows kx -/
noncomputable def snB (n : Nat) (v : Nat → aMv) (pe : Nat → aPe) (lw : List aLn) (one : Option Nat) (s Y kx : Nat) : Bool := decide (dS n true none (gS lw v pe one kx) (tS v) 54 s ≤ Y)
noncomputable def opShow (n : Nat) (v : Nat → aMv) (m : Nat) (pe : Nat → aPe) (lw : List aLn) (x y z : Int32) : Int32 := if psOk m x ∧ psO x ≠ none ∧ (0 ≤ y.toInt ∧ y.toInt ≤ 999) ∧ 0 ≤ z.toInt ∧ z.toInt ≤ 1 then (match shG (snB n v pe lw (psO x) (psS x) y.toInt.toNat) (knO pe (psO x)) (2 ^ n) 4 0 with
  | none => -2
  | some a => if z = 1 then nI a else nI (bcN a)) else -1
section SHG
variable {P : Nat → Bool} {kn N c k x y n : Nat} {b b' : Nat → Bool}
theorem ct_mono : ∀ k, (∀ i, i < k → b' i = true → b i = true) → ctF b' k ≤ ctF b k ∧ ((∃ i, i < k ∧ b i = true ∧ ¬ b' i = true) → ctF b' k < ctF b k) := by
  intro k
  induction k with
  | zero => intro _; exact ⟨Nat.le_refl _, fun ⟨i, hi, _⟩ => absurd hi (Nat.not_lt_zero i)⟩
  | succ k ih =>
    intro h
    obtain ⟨h1, h2⟩ := ih (fun i hi => h i (by omega))
    have h3 := h k (Nat.lt_succ_self k)
    show ctF b' k + (if b' k = true then 1 else 0) ≤ ctF b k + (if b k = true then 1 else 0) ∧ (_ → ctF b' k + (if b' k = true then 1 else 0) < ctF b k + (if b k = true then 1 else 0))
    by_cases q' : b' k = true
    · have q := h3 q'
      rw [if_pos q', if_pos q]
      refine ⟨by omega, fun ⟨i, hi, e1, e2⟩ => ?_⟩
      have : i < k := by
        by_cases r : i = k
        · exact absurd (r ▸ q') e2
        · omega
      have := h2 ⟨i, this, e1, e2⟩
      omega
    · rw [if_neg q']
      by_cases q : b k = true
      · rw [if_pos q]
        exact ⟨by omega, fun _ => by omega⟩
      · rw [if_neg q]
        refine ⟨by omega, fun ⟨i, hi, e1, e2⟩ => ?_⟩
        have : i < k := by
          by_cases r : i = k
          · exact absurd (r ▸ e1) q
          · omega
        have := h2 ⟨i, this, e1, e2⟩
        omega
theorem bc_less (hx : x < 4096) (h : ¬ x &&& kn = 0) : bcN (x ^^^ (x &&& kn)) < bcN x ∧ (x ^^^ (x &&& kn)) &&& kn = 0 ∧ kn ||| (x ^^^ (x &&& kn)) = kn ||| x := by
  refine ⟨?_, ?_, ?_⟩
  · unfold bcN
    refine (ct_mono 12 (fun i hi q => ?_)).2 ?_
    · rw [Nat.testBit_xor, Nat.testBit_and] at q
      cases hx : x.testBit i with
      | true => rfl
      | false =>
        rw [hx] at q
        exact absurd q (by simp)
    · have hex : ∃ i, (x &&& kn).testBit i = true := by
        apply Classical.byContradiction
        intro hno
        apply h
        apply Nat.eq_of_testBit_eq
        intro i
        rw [Nat.zero_testBit]
        cases hb : (x &&& kn).testBit i with
        | true => exact absurd ⟨i, hb⟩ hno
        | false => rfl
      obtain ⟨i, hi⟩ := hex
      have hi2 := hi
      rw [Nat.testBit_and, Bool.and_eq_true] at hi2
      refine ⟨i, ?_, hi2.1, ?_⟩
      · apply Classical.byContradiction
        intro hge
        have : x.testBit i = false := Nat.testBit_lt_two_pow (Nat.lt_of_lt_of_le hx (show 2 ^ 12 ≤ 2 ^ i from Nat.pow_le_pow_right (by decide) (by omega)))
        rw [this] at hi2
        exact absurd hi2.1 (by simp)
      · rw [Nat.testBit_xor, hi, hi2.1]
        simp
  · apply Nat.eq_of_testBit_eq
    intro i
    rw [Nat.testBit_and, Nat.testBit_xor, Nat.testBit_and, Nat.zero_testBit]
    cases x.testBit i <;> cases kn.testBit i <;> rfl
  · apply Nat.eq_of_testBit_eq
    intro i
    rw [Nat.testBit_or, Nat.testBit_or, Nat.testBit_xor, Nat.testBit_and]
    cases x.testBit i <;> cases kn.testBit i <;> rfl
theorem bsR_s : bsR P kn (k + 1) = bsN P kn k (bsR P kn k) := rfl
theorem bsR_ok : ∀ k, (∀ x, bsR P kn k = some x → x < k ∧ bcN x ≤ 3 ∧ P (kn ||| x) = true ∧ ∀ y, y < k → bcN y ≤ 3 → P (kn ||| y) = true → bcN x < bcN y ∨ bcN x = bcN y ∧ x ≤ y) ∧ (bsR P kn k = none → ∀ y, y < k → bcN y ≤ 3 → ¬ P (kn ||| y) = true) := by
  intro k
  induction k with
  | zero => exact ⟨fun x h => (by cases h), fun _ y h => absurd h (Nat.not_lt_zero y)⟩
  | succ k ih =>
    obtain ⟨i1, i2⟩ := ih
    rw [bsR_s]
    unfold bsN
    by_cases q : bcN k ≤ 3 ∧ (∀ x, bsR P kn k = some x → bcN k < bcN x) ∧ P (kn ||| k) = true
    · rw [if_pos q]
      obtain ⟨q1, q2, q3⟩ := q
      refine ⟨fun x h => ?_, fun h => (by cases h)⟩
      cases h
      refine ⟨Nat.lt_succ_self k, q1, q3, fun y hy h1 h2 => ?_⟩
      by_cases e : y = k
      · exact Or.inr ⟨by rw [e], by omega⟩
      · left
        cases hb : bsR P kn k with
        | none => exact absurd h2 (i2 hb y (by omega) h1)
        | some x =>
          have := q2 x hb
          rcases (i1 x hb).2.2.2 y (by omega) h1 h2 with r | r
          · omega
          · omega
    · rw [if_neg q]
      refine ⟨fun x h => ?_, fun h y hy h1 h2 => ?_⟩
      · obtain ⟨j1, j2, j3, j4⟩ := i1 x h
        refine ⟨by omega, j2, j3, fun y hy h1 h2 => ?_⟩
        by_cases e : y = k
        · subst e
          rcases Nat.lt_trichotomy (bcN x) (bcN y) with r | r | r
          · exact Or.inl r
          · exact Or.inr ⟨r, by omega⟩
          · exact absurd ⟨h1, fun x' hx' => (by rw [h] at hx'; cases hx'; exact r), h2⟩ q
        · exact j4 y (by omega) h1 h2
      · by_cases e : y = k
        · subst e
          exact q ⟨h1, fun x' hx' => (by rw [h] at hx'; cases hx'), h2⟩
        · exact i2 h y (by omega) h1 h2
theorem shB_t : shB P kn c x = true ↔ x &&& kn = 0 ∧ bcN x = c ∧ P (kn ||| x) = true := by
  unfold shB
  rw [Bool.and_eq_true, Bool.and_eq_true, decide_eq_true_eq, decide_eq_true_eq]
  exact ⟨fun h => ⟨h.1.1, h.1.2, h.2⟩, fun h => ⟨⟨h.1, h.2.1⟩, h.2.2⟩⟩
theorem fst_no {k w : Nat} (h : fstW b k = none) (hw : w < k) : ¬ b w = true := by
  induction w using Nat.strongRecOn with
  | _ w ih =>
    intro hb
    have := (fst_some k w).mpr ⟨hw, hb, fun w' h' => ih w' h' (by omega)⟩
    rw [h] at this
    cases this
theorem shG_ok : ∀ f c, (∀ x, shG P kn N f c = some x → x < N ∧ c ≤ bcN x ∧ bcN x < c + f ∧ x &&& kn = 0 ∧ P (kn ||| x) = true ∧ ∀ y, y < N → c ≤ bcN y → bcN y < c + f → y &&& kn = 0 → P (kn ||| y) = true → bcN x < bcN y ∨ bcN x = bcN y ∧ x ≤ y) ∧ (shG P kn N f c = none → ∀ y, y < N → c ≤ bcN y → bcN y < c + f → y &&& kn = 0 → ¬ P (kn ||| y) = true) := by
  intro f
  induction f with
  | zero => intro c; exact ⟨fun x h => (by cases h), fun _ y _ h1 h2 => by omega⟩
  | succ f ih =>
    intro c
    obtain ⟨i1, i2⟩ := ih (c + 1)
    have e : shG P kn N (f + 1) c = match fstW (shB P kn c) N with
      | some x => some x
      | none => shG P kn N f (c + 1) := rfl
    rw [e]
    cases hb : fstW (shB P kn c) N with
    | some a =>
      obtain ⟨a1, a2, a3⟩ := (fst_some N a).mp hb
      obtain ⟨b1, b2, b3⟩ := shB_t.mp a2
      refine ⟨fun x h => ?_, fun h => (by cases h)⟩
      cases h
      refine ⟨a1, by omega, by omega, b1, b3, fun y hy h1 h2 h3 h4 => ?_⟩
      by_cases r : bcN y = c
      · refine Or.inr ⟨by omega, ?_⟩
        rcases Nat.lt_or_ge y a with l | l
        · exact absurd (shB_t.mpr ⟨h3, r, h4⟩) (a3 y l)
        · exact l
      · exact Or.inl (by omega)
    | none =>
      have hno : ∀ y, y < N → ¬ shB P kn c y = true := fun y hy => fst_no hb hy
      refine ⟨fun x h => ?_, fun h y hy h1 h2 h3 h4 => ?_⟩
      · obtain ⟨j1, j2, j3, j4, j5, j6⟩ := i1 x h
        refine ⟨j1, by omega, by omega, j4, j5, fun y hy h1 h2 h3 h4 => ?_⟩
        by_cases r : bcN y = c
        · exact absurd (shB_t.mpr ⟨h3, r, h4⟩) (hno y hy)
        · exact j6 y hy (by omega) (by omega) h3 h4
      · by_cases r : bcN y = c
        · exact hno y hy (shB_t.mpr ⟨h3, r, h4⟩)
        · exact i2 h y hy (by omega) (by omega) h3 h4
/-- both find the same -/
theorem sh_bs (hN : N = 2 ^ n) (hn : n ≤ 12) : shG P kn N 4 0 = bsR P kn N := by
  obtain ⟨r1, r2⟩ := bsR_ok (P := P) (kn := kn) N
  obtain ⟨g1, g2⟩ := shG_ok (P := P) (kn := kn) (N := N) 4 0
  have hN2 : N ≤ 4096 := by
    rw [hN]
    exact Nat.pow_le_pow_right (n := 2) (by decide) hn
  have hless : ∀ y, y < N → ¬ y &&& kn = 0 → P (kn ||| y) = true → ∃ y', y' < N ∧ bcN y' < bcN y ∧ y' &&& kn = 0 ∧ P (kn ||| y') = true := by
    intro y hy h1 h2
    obtain ⟨b1, b2, b3⟩ := bc_less (x := y) (kn := kn) (by omega) h1
    refine ⟨_, ?_, b1, b2, by rw [b3]; exact h2⟩
    rw [hN] at hy ⊢
    exact Nat.xor_lt_two_pow hy (Nat.lt_of_le_of_lt Nat.and_le_left hy)
  cases hr : bsR P kn N with
  | none =>
    cases hg : shG P kn N 4 0 with
    | none => rfl
    | some x =>
      obtain ⟨j1, j2, j3, j4, j5, j6⟩ := g1 x hg
      exact absurd j5 (r2 hr x j1 (by omega))
  | some x =>
    obtain ⟨k1, k2, k3, k4⟩ := r1 x hr
    have hd : x &&& kn = 0 := by
      apply Classical.byContradiction
      intro h
      obtain ⟨y', y1, y2, y3, y4⟩ := hless x k1 h k3
      rcases k4 y' y1 (by omega) y4 with q | q <;> omega
    cases hg : shG P kn N 4 0 with
    | none => exact absurd k3 (g2 hg x k1 (by omega) (by omega) hd)
    | some a =>
      obtain ⟨j1, j2, j3, j4, j5, j6⟩ := g1 a hg
      have h1 := k4 a j1 (by omega) j5
      have h2 := j6 x k1 (by omega) (by omega) hd k3
      have : a = x := by
        rcases h1 with q | q <;> rcases h2 with r | r <;> omega
      rw [this]
end SHG
section SHW
variable {d : Nat} {I I' : Nat → Nat → Int32} {L : Nat → Nat → Int64} {c e : Nat} {x y z : Int32} {lw : List aLn} {n m w s k kn o Y : Nat} {v : Nat → aMv} {pe : Nat → aPe} {D : Nat → Int32} {one : Option Nat}
theorem tw_I : ∀ n, n ≤ 12 → (1 : Int32) <<< (nI n &&& 31) = nI (2 ^ n) ∧ 2 ^ n ≤ 4096 := by decide +kernel
theorem dS_I {to : Nat} {wo : Option Nat} {bs : Bool} {g t : Nat → Nat → Nat} : dS n bs wo g t to s = dS n bs wo g t to s := rfl
theorem q_55 (hkn : kn < 4096) (hk : kitC n v I) (hgw : wgM lw v pe one (9 * n) I) (hs : s < 54) (hY : Y < 1000) : ∃ I', jev d 55 [.ref 52, .int (nI kn), .int (nI s), .int (nI Y)] (jmk I L c e) = some (some (.int (if snB n v pe lw one s Y kn = true then 1 else 0)), jmk I' L c e) ∧ ∀ q j, ¬ (q = 42 ∧ j = 12) → (q < 45 ∨ 49 < q) → I' q j = I q j := by
  have hn := hk.1.1
  have hm' : ∀ i, i < n → mvOk (v i) := fun i hi => (hk.1.2.2 i hi).1
  have hg := gS_ok (lw := lw) (pe := pe) (one := one) (kn := kn) hm'
  obtain ⟨I1, f1, f2, f3⟩ := q_85 (d := d) (L := L) (c := c) (e := e) hkn hk hgw
  have r1 := q_86d (d := d) (L := L) (c := c) (e := e) (bs := true) (wo := none) (to := 54) hn (by decide) wo_n hg f2
  have hd := dS_le (bs := true) (wo := none) (to := 54) hg hs
  refine ⟨fC49 I1 (dS n true none (gS lw v pe one kn) (tS v) 54), ?_, fun q j a1 a2 => ?_⟩
  · rw [jb_55_0, f1]
    simp only [Option.bind_some, jps]
    rw [jb_55_8, show jev d 86 [.ref 42, .int 54, .int 1, .int (-1)] (jmk I1 L c e) = _ from r1]
    simp only [Option.bind_some, jps]
    rw [jb_55_19, q_87 hs]
    simp only [Option.bind_some, jps]
    rw [jb_55_27]
    have hlt : nI Y < nI (dS n true none (gS lw v pe one kn) (tS v) 54 s) ↔ ¬ dS n true none (gS lw v pe one kn) (tS v) 54 s ≤ Y := by
      rw [jlt_iff, nI_toInt (by omega), nI_toInt (by omega)]
      omega
    simp only [Bool.cond_decide, hlt]
    have hb : snB n v pe lw one s Y kn = true ↔ dS n true none (gS lw v pe one kn) (tS v) 54 s ≤ Y := decide_eq_true_iff
    by_cases q : dS n true none (gS lw v pe one kn) (tS v) 54 s ≤ Y
    · rw [if_neg (fun k => k q), if_pos (hb.mpr q)]
    · rw [if_pos q, if_neg (fun k => q (hb.mp k))]
  · unfold fC49
    rw [if_neg (by omega)]
    exact f3 q j a1 (by omega)
abbrev frX (I I' : Nat → Nat → Int32) : Prop := ∀ q j, ¬ (q = 42 ∧ j = 12) → (q < 45 ∨ 49 < q) → I' q j = I q j
theorem wgM_X (h : wgM lw v pe one k I) (f : frX I I') : wgM lw v pe one k I' := fun i hi => by
  rw [f 43 i (by omega) (by omega), f 44 i (by omega) (by omega)]
  exact h i hi
theorem kitC_X (h : kitC n v I) (f : frX I I') : kitC n v I' := kitC_fr h (fun q j a1 a2 => f q j (by omega) (by omega))
theorem q_54l (hkn : kn < 4096) (hs : s < 54) (hY : Y < 1000) (hn12 : n ≤ 12) {y1 : Int32} {cc : Nat} (hcc : cc < 4) : ∀ (f k : Nat) (I : Nat → Nat → Int32), k + f = 2 ^ n → kitC n v I → wgM lw v pe one (9 * n) I → (∀ y, y < k → ¬ shB (snB n v pe lw one s Y) kn cc y = true) → ∃ I', (jat d 54 30 [.ref 52, .int y1, .int (nI s), .int (nI Y), .int (nI kn), .int (nI cc), .int (nI k)] [] (jmk I L c e) = match fstW (shB (snB n v pe lw one s Y) kn cc) (2 ^ n) with
    | some a => some (some (.int (nI a)), jmk I' L c e)
    | none => jat d 54 21 [.ref 52, .int y1, .int (nI s), .int (nI Y), .int (nI kn), .int (nI (cc + 1)), .int (nI (2 ^ n))] [] (jmk I' L c e)) ∧ frX I I' := by
  obtain ⟨t1, t2⟩ := tw_I n hn12
  intro f
  induction f with
  | zero =>
    intro k I hkf hk hg hno
    have hkf : k = 2 ^ n := hkf
    subst hkf
    refine ⟨I, ?_, fun _ _ _ _ => rfl⟩
    rw [fst_none hno, jb_54_30, hk.1.2.1, t1, decide_eq_true (by rw [nI_leI (by omega) (by omega)]; exact Nat.le_refl _), cond_true, nI_1]
  | succ f ih =>
    intro k I hkf hk hg hno
    have hk12 : k < 4096 := by omega
    have hand : nI k &&& nI kn = 0 ↔ k &&& kn = 0 := by
      have := @Nat.and_le_left k kn
      rw [fa_and]
      exact nI_eq (b := 0) (by omega) (by decide)
    have hbc : bcN k ≤ 12 := ct_le 12
    have hbe : nI (bcN k) = nI cc ↔ bcN k = cc := nI_eq (by omega) (by omega)
    have hor : kn ||| k < 4096 := Nat.or_lt_two_pow (n := 12) hkn hk12
    rw [jb_54_30, hk.1.2.1, t1, decide_eq_false (by rw [nI_leI (by omega) (by omega)]; omega), cond_false, q_263 hk12, nI_1]
    simp only [Option.bind_some, jps, Bool.cond_decide, hand]
    have hgo : ¬ shB (snB n v pe lw one s Y) kn cc k = true → ∀ I2, frX I I2 → ∃ I', (jat d 54 30 [.ref 52, .int y1, .int (nI s), .int (nI Y), .int (nI kn), .int (nI cc), .int (nI (k + 1))] [] (jmk I2 L c e) = match fstW (shB (snB n v pe lw one s Y) kn cc) (2 ^ n) with
        | some a => some (some (.int (nI a)), jmk I' L c e)
        | none => jat d 54 21 [.ref 52, .int y1, .int (nI s), .int (nI Y), .int (nI kn), .int (nI (cc + 1)), .int (nI (2 ^ n))] [] (jmk I' L c e)) ∧ frX I I' := by
      intro hb I2 fr2
      obtain ⟨I', r1, r2⟩ := ih (k + 1) I2 (by omega) (kitC_X hk fr2) (wgM_X hg fr2) (fun y hy => by
        by_cases q : y = k
        · rw [q]
          exact hb
        · exact hno y (by omega))
      exact ⟨I', r1, fun q j a1 a2 => (r2 q j a1 a2).trans (fr2 q j a1 a2)⟩
    by_cases h1 : k &&& kn = 0
    · rw [if_neg (fun q => q h1), jb_54_57, nI_1]
      simp only [Bool.cond_decide, hbe]
      by_cases h2 : bcN k = cc
      · rw [if_neg (fun q => q h2)]
        obtain ⟨I1, f1, f2⟩ := q_55 (d := d) (L := L) (c := c) (e := e) hor hk hg hs hY
        rw [fa_or, f1]
        simp only [Option.bind_some, jps]
        rw [jb_54_73, nI_1]
        simp only [Bool.cond_decide, j01]
        by_cases h3 : snB n v pe lw one s Y (kn ||| k) = true
        · rw [if_neg (fun q => q h3)]
          refine ⟨I1, ?_, f2⟩
          rw [(fst_some (2 ^ n) k).mpr ⟨by omega, shB_t.mpr ⟨h1, h2, h3⟩, hno⟩]
        · rw [if_pos h3]
          exact hgo (fun q => h3 (shB_t.mp q).2.2) I1 f2
      · rw [if_pos h2]
        exact hgo (fun q => h2 (shB_t.mp q).2.1) I (fun _ _ _ _ => rfl)
    · rw [if_pos h1]
      exact hgo (fun q => h1 (shB_t.mp q).1) I (fun _ _ _ _ => rfl)
theorem q_54c (hkn : kn < 4096) (hs : s < 54) (hY : Y < 1000) (hn12 : n ≤ 12) {y1 : Int32} : ∀ (f cc : Nat) (I : Nat → Nat → Int32) (v6 : Value), cc + f = 4 → kitC n v I → wgM lw v pe one (9 * n) I → ∃ I', jat d 54 21 [.ref 52, .int y1, .int (nI s), .int (nI Y), .int (nI kn), .int (nI cc), v6] [] (jmk I L c e) = some (some (.int (oI (shG (snB n v pe lw one s Y) kn (2 ^ n) f cc))), jmk I' L c e) ∧ frX I I' := by
  intro f
  induction f with
  | zero =>
    intro cc I v6 hcf hk hg
    have hcf : cc = 4 := hcf
    subst hcf
    exact ⟨I, by rw [jb_54_21]; rfl, fun _ _ _ _ => rfl⟩
  | succ f ih =>
    intro cc I v6 hcf hk hg
    have hlt : ¬ (3 : Int32) < nI cc := by
      show ¬ nI 3 < nI cc
      rw [jlt_iff, nI_toInt (by omega), nI_toInt (by omega)]
      omega
    obtain ⟨I1, f1, f2⟩ := q_54l (d := d) (L := L) (c := c) (e := e) (y1 := y1) (cc := cc) hkn hs hY hn12 (by omega) (2 ^ n) 0 I (by omega) hk hg (fun y hy => absurd hy (Nat.not_lt_zero y))
    have eg : shG (snB n v pe lw one s Y) kn (2 ^ n) (f + 1) cc = match fstW (shB (snB n v pe lw one s Y) kn cc) (2 ^ n) with
      | some x => some x
      | none => shG (snB n v pe lw one s Y) kn (2 ^ n) f (cc + 1) := rfl
    rw [jb_54_21, decide_eq_false hlt, cond_false, show jat d 54 30 [.ref 52, .int y1, .int (nI s), .int (nI Y), .int (nI kn), .int (nI cc), .int 0] [] (jmk I L c e) = _ from f1, eg]
    cases hb : fstW (shB (snB n v pe lw one s Y) kn cc) (2 ^ n) with
    | some a => exact ⟨I1, rfl, f2⟩
    | none =>
      obtain ⟨I2, r1, r2⟩ := ih (cc + 1) I1 (.int (nI (2 ^ n))) (by omega) (kitC_X hk f2) (wgM_X hg f2)
      exact ⟨I2, r1, fun q j a1 a2 => (r2 q j a1 a2).trans (f2 q j a1 a2)⟩
theorem psO_n (h : 0 ≤ x.toInt) : (x / 100 - 1 = -1 ↔ psO x = none) ∧ (x < 100 ↔ psO x = none) := by
  have hx : x = nI x.toInt.toNat := by
    apply Int32.toInt_inj.mp
    have := Int32.toInt_lt x
    rw [nI_toInt (by omega)]
    omega
  have hlt := Int32.toInt_lt x
  have h1 : x / 100 - 1 = -1 ↔ psO x = none := by
    unfold psO
    by_cases q : (x / 100 - 1).toInt = -1
    · rw [if_pos q]
      exact ⟨fun _ => rfl, fun _ => Int32.toInt_inj.mp q⟩
    · rw [if_neg q]
      exact ⟨fun r => absurd (by rw [r]; rfl) q, fun r => by cases r⟩
  refine ⟨h1, ?_⟩
  rw [← h1]
  generalize hX : x.toInt.toNat = X at hx
  have hX2 : X < 2 ^ 31 := by omega
  subst hx
  rw [show nI X / 100 = nI (X / 100) from pk_div (by omega) (by decide) (by decide)]
  have e1 : nI X < 100 ↔ X < 100 := by
    show nI X < nI 100 ↔ _
    rw [jlt_iff, nI_toInt (by omega), nI_toInt (by omega)]
    omega
  rw [e1]
  by_cases q : X / 100 = 0
  · rw [q]
    exact ⟨fun _ => rfl, fun _ => by omega⟩
  · rw [show nI (X / 100) - 1 = nI (X / 100 - 1) from nI_sub (j := 1) (by omega) (by omega)]
    constructor
    · intro r
      omega
    · intro r
      have := congrArg Int32.toInt r
      rw [nI_toInt (by omega)] at this
      have h2 : (-1 : Int32).toInt = -1 := by decide
      omega
theorem c_show (hce : ceOk c e) (hlo : lwOk lw) (hl : lwC lw c I) (hk : kitC n v I) (hp : peC m pe D I) (hpo : peOk m pe D) : ∃ I', jev d 114 [.ref 0, .int x, .int y, .int z] (jmk I L c e) = some (some (.int (opShow n v m pe lw x y z)), jmk I' L c e) ∧ frG I I' := by
  have hn := hk.1.1
  have hm := hpo.1
  have hm' : ∀ i, i < n → mvOk (v i) := fun i hi => (hk.1.2.2 i hi).1
  have e999 : (999 : Int32) < y ↔ ¬ y.toInt ≤ 999 := by
    rw [jlt_iff]
    show (999 : Int) < y.toInt ↔ _
    omega
  unfold opShow
  rw [jb_114_0, q_151 hm hp.1]
  simp only [Option.bind_some, jps, jb_114_5, jb_152_0, jb_114_12, Bool.cond_decide, j01, show (y < 0) ↔ ¬ 0 ≤ y.toInt from z_lt0, show (z < 0) ↔ ¬ 0 ≤ z.toInt from z_lt0, e999, show z ≤ 1 ↔ z.toInt ≤ 1 from jle_iff]
  by_cases hx : psOk m x
  · obtain ⟨n1, n2⟩ := psO_n hx.1
    have hx2 : ¬¬ psOk m x := fun q => q hx
    rw [if_neg hx2]
    simp only [n1]
    by_cases ho : psO x = none
    · rw [if_pos ho, if_neg (fun q => q.2.1 ho)]
      exact ⟨I, rfl, fun _ _ _ _ _ _ _ => rfl⟩
    · rw [if_neg ho]
      by_cases hy0 : 0 ≤ y.toInt
      · rw [if_neg (fun q => q hy0)]
        by_cases hy9 : y.toInt ≤ 999
        · rw [if_neg (fun q => q hy9)]
          by_cases hz : 0 ≤ z.toInt
          · rw [if_neg (fun q => q hz)]
            by_cases hz1 : z.toInt ≤ 1
            · have hall : psOk m x ∧ psO x ≠ none ∧ (0 ≤ y.toInt ∧ y.toInt ≤ 999) ∧ 0 ≤ z.toInt ∧ z.toInt ≤ 1 := ⟨hx, ho, ⟨hy0, hy9⟩, hz, hz1⟩
              rw [if_pos hz1, if_pos hall]
              obtain ⟨o1, o2, o3, o4⟩ := ps_of hm hx
              have hy : y = nI y.toInt.toNat := by
                apply Int32.toInt_inj.mp
                rw [nI_toInt (by omega)]
                omega
              obtain ⟨I1, f1, f2, f3⟩ := q_84 (d := d) (L := L) hce hlo hl hk hp hpo o1
              have hk1 : kitC n v I1 := kitC_fr hk (fun q j a1 a2 => f3 q j (by omega) (by omega) (by omega) (by omega) (by omega))
              obtain ⟨I2, r1, r2⟩ := q_54c (d := d) (L := L) (c := c) (e := e) (lw := lw) (pe := pe) (one := psO x) (y1 := oneI (psO x)) (Y := y.toInt.toNat) (s := psS x) (kn := knO pe (psO x)) (knO_lt hpo o1) o3 (by omega) hn 4 0 I1 .null rfl hk1 f2
              refine ⟨I2, ?_, fun q j a1 a2 a3 a4 a5 => (r2 q j a4 (by omega)).trans (f3 q j a1 a2 a3 (by omega) (by omega))⟩
              rw [jb_114_46, jb_153_0]
              simp only [Option.bind_some, jps]
              rw [jb_114_50, o2, o4, jb_54_0, q_65 hp hpo o1]
              simp only [Option.bind_some, jps]
              rw [jb_54_8, f1]
              simp only [Option.bind_some, jps]
              have r3 : jat d 54 21 [.ref 52, .int (oneI (psO x)), .int (nI (psS x)), .int y, .int (nI (knO pe (psO x))), .int 0, .null] [] (jmk I1 L c e) = some (some (.int (oI (shG (snB n v pe lw (psO x) (psS x) y.toInt.toNat) (knO pe (psO x)) (2 ^ n) 4 0))), jmk I2 L c e) := by
                rw [← r1, ← hy]
                rfl
              rw [jb_54_18, r3]
              simp only [Option.bind_some, jps]
              rw [jb_114_54]
              have hg := (shG_ok (P := snB n v pe lw (psO x) (psS x) y.toInt.toNat) (kn := knO pe (psO x)) (N := 2 ^ n) 4 0).1
              cases hb : shG (snB n v pe lw (psO x) (psS x) y.toInt.toNat) (knO pe (psO x)) (2 ^ n) 4 0 with
              | none =>
                rw [show decide (oI none < 0) = true from rfl, cond_true, jb_114_76]
                rfl
              | some a =>
                have ha := (hg a hb).1
                have ha2 := (tw_I n hn).2
                have hu0 : ¬ oI (some a) < 0 := by
                  show ¬ nI a < 0
                  rw [jlt_iff, nI_toInt (by omega)]
                  show ¬ (a : Int) < 0
                  omega
                rw [decide_eq_false hu0, cond_false, show oI (some a) = nI a from rfl, q_263 (show a < 4096 by omega)]
                simp only [Option.bind_some, jps, Bool.cond_decide, jb_114_76]
                by_cases q : z = 1
                · rw [if_neg (fun k => k q), if_pos q]
                · rw [if_pos q, if_neg q]
            · rw [if_neg hz1, if_neg (fun q => hz1 q.2.2.2.2)]
              exact ⟨I, rfl, fun _ _ _ _ _ _ _ => rfl⟩
          · rw [if_pos hz, if_neg (fun q => hz q.2.2.2.1)]
            exact ⟨I, rfl, fun _ _ _ _ _ _ _ => rfl⟩
        · rw [if_pos hy9, if_neg (fun q => hy9 q.2.2.1.2)]
          exact ⟨I, rfl, fun _ _ _ _ _ _ _ => rfl⟩
      · rw [if_pos hy0, if_neg (fun q => hy0 q.2.2.1.1)]
        exact ⟨I, rfl, fun _ _ _ _ _ _ _ => rfl⟩
  · rw [if_pos hx, if_neg (fun q => hx q.1)]
    exact ⟨I, rfl, fun _ _ _ _ _ _ _ => rfl⟩
/-- the reference lends the one more moves for a while -/
theorem peK_ok (hpo : peOk m pe D) (ho : o < m) (hkn : kn < 4096) : peOk m (peK pe o kn) D := by
  obtain ⟨h1, h2, h3, h4⟩ := hpo
  unfold peK
  refine ⟨h1, fun i hi => ?_, fun i hi => ?_, h4⟩
  · dsimp only
    by_cases q : i = o
    · rw [if_pos q]
      obtain ⟨a1, a2, a3, a4⟩ := h2 o ho
      exact ⟨a1, hkn, a3, a4⟩
    · rw [if_neg q]
      exact h2 i hi
  · dsimp only
    rw [if_neg (by omega)]
    exact h3 i hi
theorem peK_M {kx : Nat} (h : peM m (peK pe o kx) D I) (ho6 : o < 6) : peM m (peK pe o kn) D (ju I 65 o (nI kn)) := by
  obtain ⟨h1, h2, h3, h4⟩ := h
  refine ⟨by rw [ju_get, if_neg (by omega)]; exact h1, fun i hi => ?_, fun i hi => ?_, fun j hj => by rw [ju_get, if_neg (by omega)]; exact h4 j hj⟩
  · obtain ⟨a1, a2⟩ := h2 i hi
    rw [ju_get, if_neg (by omega), ju_get, if_neg (by omega), a1, a2]
    unfold peK
    by_cases q : i = o
    · rw [if_pos q, if_pos q]
      exact ⟨rfl, rfl⟩
    · rw [if_neg q, if_neg q]
      exact ⟨rfl, rfl⟩
  · have a1 := h3 i hi
    rw [ju_get]
    unfold peK at a1 ⊢
    by_cases q : i = o
    · rw [if_pos ⟨rfl, q⟩, if_pos q]
    · rw [if_neg (fun k => q k.2), if_neg q]
      rw [if_neg q] at a1
      exact a1
theorem peK_id : peK pe o (pe o).2.1 = pe := by
  funext i
  unfold peK
  by_cases q : i = o
  · rw [if_pos q, q]
  · rw [if_neg q]
theorem gS_K {kx k : Nat} : gS lw v (peK pe o kx) (some o) k = gS lw v pe (some o) k := by
  funext w s
  unfold gS secK peK
  dsimp only
  rw [if_pos rfl]
abbrev frO (o : Nat) (I I' : Nat → Nat → Int32) : Prop := ∀ q j, ¬ (q = 65 ∧ j = o) → q ≠ 77 → (q < 88 ∨ 90 < q) → I' q j = I q j
theorem q_226l (hlo : lwOk lw) (hpo : peOk m pe D) (ho : o < m) (hs : s < 54) (hxs : x - x / 100 * 100 = nI s) (hY : Y < 1000) : ∀ (f k kx : Nat) (I : Nat → Nat → Int32) (v8 v9 : Value), k + f = 2 ^ n → lwM lw I → kitM n v I → peM m (peK pe o kx) D I → kx < 4096 → ∃ (I' : Nat → Nat → Int32) (kx' : Nat) (u8 u9 : Value), jat d 226 60 [.ref 58, .int x, .int (nI Y), .int z, .int (nI o), .int (nI (pe o).2.1), .int (oI (bsR (snB n v pe lw (some o) s Y) (pe o).2.1 k)), .int (nI k), v8, v9] [] (jmk I L c e) = jat d 226 60 [.ref 58, .int x, .int (nI Y), .int z, .int (nI o), .int (nI (pe o).2.1), .int (oI (bsR (snB n v pe lw (some o) s Y) (pe o).2.1 (2 ^ n))), .int (nI (2 ^ n)), u8, u9] [] (jmk I' L c e) ∧ lwM lw I' ∧ kitM n v I' ∧ peM m (peK pe o kx') D I' ∧ frO o I I' := by
  intro f
  induction f with
  | zero =>
    intro k kx I v8 v9 hkf hl hk hp hkx
    have hkf : k = 2 ^ n := hkf
    subst hkf
    exact ⟨I, kx, v8, v9, rfl, hl, hk, hp, fun _ _ _ _ _ => rfl⟩
  | succ f ih =>
    intro k kx I v8 v9 hkf hl hk hp hkx
    have hn := hk.1
    have hm6 := hpo.1
    have hm' : ∀ i, i < n → mvOk (v i) := fun i hi => (hk.2.2 i hi).1
    obtain ⟨t1, t2⟩ := tw_I n hn
    have hk12 : k < 4096 := by omega
    have hkn := (hpo.2.1 o ho).2.1
    have hbc : bcN k ≤ 12 := ct_le 12
    have h3 : (3 : Int32) < nI (bcN k) ↔ ¬ bcN k ≤ 3 := by
      show nI 3 < nI (bcN k) ↔ _
      rw [jlt_iff, nI_toInt (by omega), nI_toInt (by omega)]
      omega
    have hgo : ∀ (o2 : Option Nat), bsR (snB n v pe lw (some o) s Y) (pe o).2.1 (k + 1) = o2 → ∀ (I2 : Nat → Nat → Int32) (kx2 : Nat) (w8 w9 : Value), lwM lw I2 → kitM n v I2 → peM m (peK pe o kx2) D I2 → kx2 < 4096 → frO o I I2 → ∃ (I' : Nat → Nat → Int32) (kx' : Nat) (u8 u9 : Value), jat d 226 60 [.ref 58, .int x, .int (nI Y), .int z, .int (nI o), .int (nI (pe o).2.1), .int (oI o2), .int (nI (k + 1)), w8, w9] [] (jmk I2 L c e) = jat d 226 60 [.ref 58, .int x, .int (nI Y), .int z, .int (nI o), .int (nI (pe o).2.1), .int (oI (bsR (snB n v pe lw (some o) s Y) (pe o).2.1 (2 ^ n))), .int (nI (2 ^ n)), u8, u9] [] (jmk I' L c e) ∧ lwM lw I' ∧ kitM n v I' ∧ peM m (peK pe o kx') D I' ∧ frO o I I' := by
      intro o2 ho2 I2 kx2 w8 w9 g1 g2 g3 g4 g5
      subst ho2
      obtain ⟨I', kx', u8, u9, r1, r2, r3, r4, r5⟩ := ih (k + 1) kx2 I2 w8 w9 (by omega) g1 g2 g3 g4
      exact ⟨I', kx', u8, u9, r1, r2, r3, r4, fun q j a0 a1 a2 => (r5 q j a0 a1 a2).trans (g5 q j a0 a1 a2)⟩
    rw [jb_226_60, hk.2.1, t1, decide_eq_false (by rw [nI_leI (by omega) (by omega)]; omega), cond_false, q_263 hk12]
    simp only [Option.bind_some, jps]
    rw [jb_226_76, nI_1]
    simp only [Bool.cond_decide, h3]
    by_cases h33 : bcN k ≤ 3
    · rw [if_neg (fun q => q h33)]
      -- it's looked at
      have h104 : (∀ x', bsR (snB n v pe lw (some o) s Y) (pe o).2.1 k = some x' → bcN k < bcN x') → ∀ (w9 : Value), ∃ (I' : Nat → Nat → Int32) (kx' : Nat) (u8 u9 : Value), jat d 226 104 [.ref 58, .int x, .int (nI Y), .int z, .int (nI o), .int (nI (pe o).2.1), .int (oI (bsR (snB n v pe lw (some o) s Y) (pe o).2.1 k)), .int (nI k), .int (nI (bcN k)), w9] [] (jmk I L c e) = jat d 226 60 [.ref 58, .int x, .int (nI Y), .int z, .int (nI o), .int (nI (pe o).2.1), .int (oI (bsR (snB n v pe lw (some o) s Y) (pe o).2.1 (2 ^ n))), .int (nI (2 ^ n)), u8, u9] [] (jmk I' L c e) ∧ lwM lw I' ∧ kitM n v I' ∧ peM m (peK pe o kx') D I' ∧ frO o I I' := by
        intro hbest w9
        have hor : (pe o).2.1 ||| k < 4096 := Nat.or_lt_two_pow (n := 12) hkn hk12
        have hp1 := peK_M (kn := (pe o).2.1 ||| k) hp (show o < 6 by omega)
        have hpo1 := peK_ok hpo ho hor
        have hl1 : lwM lw (ju I 65 o (nI ((pe o).2.1 ||| k))) := lwM_fr hl (fun q j a => by rw [ju_get, if_neg (by omega)])
        have hk1 : kitM n v (ju I 65 o (nI ((pe o).2.1 ||| k))) := kitM_fr hk (by rw [ju_get, if_neg (by omega)]) (fun q j a1 a2 => by rw [ju_get, if_neg (by omega)])
        obtain ⟨I1, f1, f2⟩ := q_211 (d := d) (L := L) (c := c) (e := e) (bs := true) (one := some o) hlo hl1 hk1 hp1 hpo1 ho hs
        have hkk : knO (peK pe o ((pe o).2.1 ||| k)) (some o) = (pe o).2.1 ||| k := by
          show (peK pe o ((pe o).2.1 ||| k) o).2.1 = _
          unfold peK
          rw [if_pos rfl]
        rw [hkk, gS_K] at f1
        have hg := gS_ok (lw := lw) (pe := pe) (one := some o) (kn := (pe o).2.1 ||| k) hm'
        have fr1 : frM (ju I 65 o (nI ((pe o).2.1 ||| k))) (f88 I1 (dG n 0 v true true (gS lw v pe (some o) ((pe o).2.1 ||| k)) s)) := frM_88 f2
        have fr2 : frO o I (f88 I1 (dG n 0 v true true (gS lw v pe (some o) ((pe o).2.1 ||| k)) s)) := fun q j a0 a1 a2 => (fr1 q j a1 a2).trans (by rw [ju_get, if_neg a0])
        have hbs : bsR (snB n v pe lw (some o) s Y) (pe o).2.1 (k + 1) = if snB n v pe lw (some o) s Y ((pe o).2.1 ||| k) = true then some k else bsR (snB n v pe lw (some o) s Y) (pe o).2.1 k := by
          rw [bsR_s]
          unfold bsN
          exact jif ⟨fun q => q.2.2, fun q => ⟨h33, hbest, q⟩⟩
        have hsn : snB n v pe lw (some o) s Y ((pe o).2.1 ||| k) = true ↔ dS n true none (gS lw v pe (some o) ((pe o).2.1 ||| k)) (tS v) 54 s ≤ Y := decide_eq_true_iff
        rw [jb_226_104, jdI (show o < 6 by omega), cond_true, jcl' (show o < 2 ^ 31 by omega), fa_or, hxs, show jev d 211 [.ref 58, .int (nI o), .int (nI s), .int 1] (jmk (ju I 65 o (nI ((pe o).2.1 ||| k))) L c e) = _ from f1]
        simp only [Option.bind_some, jps]
        rw [jb_226_127, show (54 : Int32) = nI 54 from rfl, q_212 (by decide) (dG_b hg hs), mn_dG hg hs]
        simp only [Option.bind_some, jps]
        rw [jb_226_133, nI_1]
        simp only [Bool.cond_decide, fJ_no]
        have hres : ∀ o2, (if snB n v pe lw (some o) s Y ((pe o).2.1 ||| k) = true then some k else bsR (snB n v pe lw (some o) s Y) (pe o).2.1 k) = o2 → ∀ (w8 w9 : Value), ∃ (I' : Nat → Nat → Int32) (kx' : Nat) (u8 u9 : Value), jat d 226 60 [.ref 58, .int x, .int (nI Y), .int z, .int (nI o), .int (nI (pe o).2.1), .int (oI o2), .int (nI (k + 1)), w8, w9] [] (jmk (f88 I1 (dG n 0 v true true (gS lw v pe (some o) ((pe o).2.1 ||| k)) s)) L c e) = jat d 226 60 [.ref 58, .int x, .int (nI Y), .int z, .int (nI o), .int (nI (pe o).2.1), .int (oI (bsR (snB n v pe lw (some o) s Y) (pe o).2.1 (2 ^ n))), .int (nI (2 ^ n)), u8, u9] [] (jmk I' L c e) ∧ lwM lw I' ∧ kitM n v I' ∧ peM m (peK pe o kx') D I' ∧ frO o I I' := fun o2 ho2 w8 w9 => hgo o2 (hbs.trans ho2) _ _ w8 w9 (lwM_M hl1 fr1) (kitM_M hk1 fr1) (peM_M hp1 fr1) hor fr2
        by_cases hd : dS n true none (gS lw v pe (some o) ((pe o).2.1 ||| k)) (tS v) 54 s < 1000000
        · have hdb : dS n true none (gS lw v pe (some o) ((pe o).2.1 ||| k)) (tS v) 54 s ≤ 5247 := ((dst_le (cS_ok hg) hs).2.1 hd).1
          have hlt : nI Y < fJ (dS n true none (gS lw v pe (some o) ((pe o).2.1 ||| k)) (tS v) 54 s) ↔ ¬ dS n true none (gS lw v pe (some o) ((pe o).2.1 ||| k)) (tS v) 54 s ≤ Y := by
            rw [fJ_yes hd, jlt_iff, nI_toInt (by omega), nI_toInt (by omega)]
            omega
          rw [if_neg (fun q => q hd)]
          simp only [hlt]
          by_cases q : dS n true none (gS lw v pe (some o) ((pe o).2.1 ||| k)) (tS v) 54 s ≤ Y
          · rw [if_neg (fun j => j q)]
            exact hres _ (if_pos (hsn.mpr q)) _ _
          · rw [if_pos q]
            exact hres _ (if_neg (fun j => q (hsn.mp j))) _ _
        · rw [if_pos hd]
          exact hres _ (if_neg (fun j => by have := hsn.mp j; omega)) _ _
      have hb1 := (bsR_ok (P := snB n v pe lw (some o) s Y) (kn := (pe o).2.1) k).1
      cases hb : bsR (snB n v pe lw (some o) s Y) (pe o).2.1 k with
      | none =>
        rw [if_pos (show oI none = -2 from rfl)]
        rw [hb] at h104
        exact h104 (fun x' q => by cases q) v9
      | some a =>
        have ha := hb1 a hb
        have ha12 : a < 4096 := by omega
        have hu2 : ¬ oI (some a) = -2 := by
          show ¬ nI a = -2
          intro r
          have := congrArg Int32.toInt r
          rw [nI_toInt (by omega)] at this
          have h2 : (-2 : Int32).toInt = -2 := by decide
          omega
        have hbca : bcN a ≤ 12 := ct_le 12
        have hlt : nI (bcN k) < nI (bcN a) ↔ bcN k < bcN a := by
          rw [jlt_iff, nI_toInt (by omega), nI_toInt (by omega)]
          omega
        rw [if_neg hu2, show oI (some a) = nI a from rfl, q_263 ha12]
        simp only [Option.bind_some, jps]
        rw [jb_226_98, nI_1]
        simp only [Bool.cond_decide, hlt]
        rw [hb] at h104
        by_cases q : bcN k < bcN a
        · rw [if_pos q]
          exact h104 (fun x' r => by cases r; exact q) v9
        · rw [if_neg q]
          refine hgo (some a) ?_ I kx _ _ hl hk hp hkx (fun _ _ _ _ _ => rfl)
          rw [bsR_s, hb]
          unfold bsN
          rw [if_neg (fun r => q (r.2.1 a rfl))]
    · rw [if_pos h33]
      refine hgo (bsR (snB n v pe lw (some o) s Y) (pe o).2.1 k) ?_ I kx _ _ hl hk hp hkx (fun _ _ _ _ _ => rfl)
      rw [bsR_s]
      unfold bsN
      rw [if_neg (fun r => h33 r.1)]
theorem m_show (hlo : lwOk lw) (hl : lwM lw I) (hk : kitM n v I) (hp : peM m pe D I) (hpo : peOk m pe D) : ∃ I', jev d 226 [.ref 58, .int x, .int y, .int z] (jmk I L c e) = some (some (.int (opShow n v m pe lw x y z)), jmk I' L c e) ∧ frM I I' := by
  have hn := hk.1
  have hm := hpo.1
  unfold opShow
  rw [jb_226_0, q_168 hm hp.1]
  simp only [Option.bind_some, jps, jb_226_5, q_163, jb_226_22, jb_226_31, Bool.cond_decide, j01, show (0 : Int32).toInt = 0 from rfl, show (1 : Int32).toInt = 1 from rfl, show (999 : Int32).toInt = 999 from rfl]
  by_cases hx : psOk m x
  · obtain ⟨n1, n2⟩ := psO_n hx.1
    have hx2 : ¬¬ psOk m x := fun q => q hx
    rw [if_neg hx2]
    simp only [n2]
    by_cases ho : psO x = none
    · rw [if_pos ho, if_neg (fun q => q.2.1 ho)]
      exact ⟨I, rfl, fun _ _ _ _ => rfl⟩
    · rw [if_neg ho]
      by_cases hy : 0 ≤ y.toInt ∧ y.toInt ≤ 999
      · rw [if_neg (fun q => q hy)]
        by_cases hz : 0 ≤ z.toInt ∧ z.toInt ≤ 1
        · have hall : psOk m x ∧ psO x ≠ none ∧ (0 ≤ y.toInt ∧ y.toInt ≤ 999) ∧ 0 ≤ z.toInt ∧ z.toInt ≤ 1 := ⟨hx, ho, hy, hz⟩
          have hz2 : ¬¬ (0 ≤ z.toInt ∧ z.toInt ≤ 1) := fun q => q hz
          rw [if_pos hz2, if_pos hall]
          obtain ⟨o1, o2, o3, o4⟩ := ps_of hm hx
          cases hoo : psO x with
          | none => exact absurd hoo ho
          | some o =>
            rw [hoo] at o1 o2
            have o1 : o < m := o1
            have o2 : x / 100 - 1 = nI o := o2
            have hyI : y = nI y.toInt.toNat := by
              apply Int32.toInt_inj.mp
              rw [nI_toInt (by omega)]
              omega
            have h65 := hp.2.2.1 o (by omega)
            have hpK : peM m (peK pe o (pe o).2.1) D I := by
              rw [peK_id]
              exact hp
            obtain ⟨I1, kx, u8, u9, r1, r2, r3, r4, r5⟩ := q_226l (d := d) (L := L) (c := c) (e := e) (x := x) (z := z) (Y := y.toInt.toNat) hlo hpo o1 o3 o4 (by omega) (2 ^ n) 0 (pe o).2.1 I .null .null (by omega) hl hk hpK (hpo.2.1 o o1).2.1
            have hjo : jin (nI o) 6 := jin_nI (by omega) (by decide)
            obtain ⟨t1, t2⟩ := tw_I n hn
            refine ⟨ju I1 65 o (nI (pe o).2.1), ?_, fun q j a1 a2 => ?_⟩
            · rw [o2, if_pos hjo, jcl' (show o < 2 ^ 31 by omega), h65]
              rw [← hyI] at r1
              rw [show jat d 226 60 [.ref 58, .int x, .int y, .int z, .int (nI o), .int (nI (pe o).2.1), .int (-2), .int 0, .null, .null] [] (jmk I L c e) = _ from r1, jb_226_60, r3.2.1, t1, decide_eq_true (by rw [nI_leI (by omega) (by omega)]; exact Nat.le_refl _), cond_true, jdI (show o < 6 by omega), cond_true, jcl' (show o < 2 ^ 31 by omega), show knO pe (some o) = (pe o).2.1 from rfl, sh_bs (P := snB n v pe lw (some o) (psS x) y.toInt.toNat) (kn := (pe o).2.1) rfl hn]
              simp only [Bool.cond_decide, jb_226_189]
              have hb1 := (bsR_ok (P := snB n v pe lw (some o) (psS x) y.toInt.toNat) (kn := (pe o).2.1) (2 ^ n)).1
              cases hb : bsR (snB n v pe lw (some o) (psS x) y.toInt.toNat) (pe o).2.1 (2 ^ n) with
              | none =>
                rw [if_pos (show oI none = -2 from rfl)]
                rfl
              | some a =>
                have ha := hb1 a hb
                have hu2 : ¬ oI (some a) = -2 := by
                  show ¬ nI a = -2
                  intro r
                  have := congrArg Int32.toInt r
                  rw [nI_toInt (by omega)] at this
                  have h2 : (-2 : Int32).toInt = -2 := by decide
                  omega
                rw [if_neg hu2, show oI (some a) = nI a from rfl, q_263 (show a < 4096 by omega)]
                simp only [Option.bind_some, jps, jb_226_189]
                by_cases q : z = 1
                · rw [if_neg (fun k => k q), if_pos q]
                · rw [if_pos q, if_neg q]
            · rw [ju_get]
              by_cases q65 : q = 65 ∧ j = o
              · rw [if_pos q65, q65.1, q65.2, h65]
              · rw [if_neg q65]
                exact r5 q j q65 a1 a2
        · rw [if_neg (fun q => q hz), if_neg (fun q => hz q.2.2.2)]
          exact ⟨I, rfl, fun _ _ _ _ => rfl⟩
      · rw [if_pos hy, if_neg (fun q => hy q.2.2.1)]
        exact ⟨I, rfl, fun _ _ _ _ => rfl⟩
  · rw [if_pos hx, if_neg (fun q => hx q.1)]
    exact ⟨I, rfl, fun _ _ _ _ => rfl⟩
end SHW
