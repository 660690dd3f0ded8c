/-! drawn -/
def cnF (v : Nat → aMv) (s : Nat) : Nat → Nat → Nat
  | 0, _ => 0
  | f + 1, i => (if may (v i) s then 1 else 0) + cnF v s f (i + 1)
def pkF (v : Nat → aMv) (s : Nat) : Nat → Nat → Nat → Option Nat
  | 0, _, _ => none
  | f + 1, i, k => if may (v i) s then (if k = 0 then some i else pkF v s f (i + 1) (k - 1)) else pkF v s f (i + 1) k
def lotN (z : Int32) : Nat := z.toBitVec.toNat / 256
def drw (n : Nat) (v : Nat → aMv) (s a : Nat) : Nat := if cnF v s n 0 = 0 then s else match pkF v s n 0 (a % cnF v s n 0) with
  | some w => mto (v w).1 (v w).2.1 s
  | none => s
abbrev zNx (z : Int32) : Int32 := z * 1103515245 + 12345
def dwF (n : Nat) (v : Nat → aMv) : Nat → Int32 → Nat → Bool → Int32 × Nat × Bool
  | 0, z, s, b => (z, s, b)
  | k + 1, z, s, b => dwF n v k (zNx z) (drw n v s (lotN (zNx z))) (b || decide (isChr (drw n v s (lotN (zNx z)))))
def chF (n : Nat) (v : Nat → aMv) (m s0 : Nat) : Nat → Int32 → Nat → Nat → Nat × Nat
  | 0, _, a, w => (a, w)
  | k + 1, z, a, w => chF n v m s0 k (dwF n v m z s0 (decide (isChr s0))).1 (a + if isChr (dwF n v m z s0 (decide (isChr s0))).2.1 then 1 else 0) (w + if (dwF n v m z s0 (decide (isChr s0))).2.2 = true then 1 else 0)
def opDrawn (n : Nat) (v : Nat → aMv) (x y z u : Int32) : Int32 := if jin x 54 ∧ 1 ≤ (z / 100).toInt ∧ (z / 100).toInt ≤ 50 ∧ 1 ≤ (z - z / 100 * 100).toInt ∧ (z - z / 100 * 100).toInt ≤ 60 ∧ 0 ≤ u.toInt ∧ u.toInt ≤ 1 then (if u = 0 then nI (chF n v (z - z / 100 * 100).toInt.toNat x.toNatClampNeg (z / 100).toInt.toNat y 0 0).1 else nI (chF n v (z - z / 100 * 100).toInt.toNat x.toNatClampNeg (z / 100).toInt.toNat y 0 0).2) else -1
section DRW
variable {d : Nat} {I I' : Nat → Nat → Int32} {L : Nat → Nat → Int64} {c e : Nat} {x y z : Int32} {n m w s i k o t : Nat} {v : Nat → aMv}
theorem chF_s {k a w : Nat} : chF n v m s (k + 1) z a w = chF n v m s k (dwF n v m z s (decide (isChr s))).1 (a + if isChr (dwF n v m z s (decide (isChr s))).2.1 then 1 else 0) (w + if (dwF n v m z s (decide (isChr s))).2.2 = true then 1 else 0) := rfl
theorem lot_I : (z.toUInt32 >>> ((8 : Int32).toUInt32 &&& Int32.toUInt32 31)).toInt32 = nI (lotN z) := by
  apply Int32.toBitVec_inj.mp
  apply BitVec.eq_of_toNat_eq
  rw [pk_ushr z 8 8 (by decide)]
  show z.toBitVec.toNat / 256 = (BitVec.ofNat 32 (lotN z)).toNat
  have := z.toBitVec.isLt
  rw [BitVec.toNat_ofNat, Nat.mod_eq_of_lt]
  · rfl
  · unfold lotN
    omega
theorem lot_lt : lotN z < 2 ^ 24 := by
  have := z.toBitVec.isLt
  unfold lotN
  omega
theorem cn_le : ∀ f i : Nat, cnF v s f i ≤ f := by
  intro f
  induction f with
  | zero => intro i; exact Nat.le_refl _
  | succ f ih =>
    intro i
    have := ih (i + 1)
    unfold cnF
    split <;> omega
theorem pk_some : ∀ f i k : Nat, k < cnF v s f i → ∃ w, pkF v s f i k = some w ∧ w < i + f ∧ may (v w) s := by
  intro f
  induction f with
  | zero => intro i k h; exact absurd h (Nat.not_lt_zero k)
  | succ f ih =>
    intro i k h
    unfold cnF at h
    unfold pkF
    by_cases hm : may (v i) s
    · rw [if_pos hm] at h ⊢
      by_cases hk : k = 0
      · rw [if_pos hk]
        exact ⟨i, rfl, by omega, hm⟩
      · rw [if_neg hk]
        obtain ⟨w, w1, w2, w3⟩ := ih (i + 1) (k - 1) (by omega)
        exact ⟨w, w1, by omega, w3⟩
    · rw [if_neg hm] at h ⊢
      obtain ⟨w, w1, w2, w3⟩ := ih (i + 1) k (by omega)
      exact ⟨w, w1, by omega, w3⟩
theorem drw_lt (hk : ∀ i, i < n → mvOk (v i)) (hs : s < 54) {a : Nat} : drw n v s a < 54 := by
  unfold drw
  by_cases h0 : cnF v s n 0 = 0
  · rw [if_pos h0]
    exact hs
  · rw [if_neg h0]
    obtain ⟨w, w1, w2, w3⟩ := pk_some (v := v) (s := s) n 0 (a % cnF v s n 0) (Nat.mod_lt _ (by omega))
    rw [w1]
    have hm := hk w (by omega)
    obtain ⟨a1, a2, a3, a4, a5, a6, a7⟩ := hm
    exact (mto_all (v w).1 (by omega) (v w).2.1 (by omega) s hs).1
theorem aft (hk : kitC n v I) (hi : i < n) (hs : s < 54) : jev d 60 [.ref 7, .int (nI i), .int (nI s)] (jmk I L c e) = some (some (.int (oI (ld (v i) s))), jmk I L c e) ∧ decide (oI (ld (v i) s) < 0) = decide (¬ may (v i) s) ∧ (may (v i) s → oI (ld (v i) s) = nI (mto (v i).1 (v i).2.1 s)) := by
  have hn := hk.1.1
  have hand : jin (nI i) n ∧ jin (nI s) 54 := ⟨jin_nI hi (by omega), jin_nI hs (by decide)⟩
  refine ⟨?_, ?_, fun hm => ?_⟩
  · rw [q_60 hk, if_pos hand, jcl' (by omega), jcl' (by omega)]
  · obtain ⟨a1, a2, a3, a4, a5, a6, a7⟩ := (hk.1.2.2 i hi).1
    have ht := (mto_all (v i).1 (by omega) (v i).2.1 (by omega) s hs).1
    unfold ld
    by_cases hm : may (v i) s
    · have n0 : ¬ nI (mto (v i).1 (v i).2.1 s) < 0 := by
        rw [jlt_iff, nI_toInt (by omega)]
        simp only [Int32.reduceToInt]
        omega
      rw [if_pos hm, show oI (some (mto (v i).1 (v i).2.1 s)) = nI (mto (v i).1 (v i).2.1 s) from rfl, decide_eq_false n0, decide_eq_false (fun q => q hm)]
    · rw [if_neg hm, decide_eq_true hm]
      rfl
  · unfold ld
    rw [if_pos hm]
    rfl
theorem q_33a (hk : kitC n v I) (hs : s < 54) {y2 : Int32} : ∀ f i a : Nat, i + f = n → jat d 33 5 [.ref 57, .int (nI s), .int y2, .int (nI a), .int (nI i), .null, .null] [] (jmk I L c e) = jat d 33 5 [.ref 57, .int (nI s), .int y2, .int (nI (a + cnF v s f i)), .int (nI n), .null, .null] [] (jmk I L c e) := by
  have hn := hk.1.1
  intro f
  induction f with
  | zero =>
    intro i a hi
    have hi : i = n := hi
    subst hi
    rfl
  | succ f ih =>
    intro i a hi
    obtain ⟨g1, g2, g3⟩ := aft (d := d) (L := L) (c := c) (e := e) hk (show i < n by omega) hs
    rw [jb_33_5, hk.1.2.1, decide_eq_false (by rw [nI_leI (by omega) (by omega)]; omega), cond_false, g1]
    simp only [Option.bind_some, jps]
    rw [jb_33_28, g2, nI_1, nI_1]
    unfold cnF
    simp only [Bool.cond_decide]
    by_cases hm : may (v i) s
    · have hmm : ¬¬ may (v i) s := fun q => q hm
      rw [if_neg hmm, if_pos hm, ih (i + 1) (a + 1) (by omega), Nat.add_assoc]
    · rw [if_pos hm, if_neg hm, Int32.add_zero, ih (i + 1) a (by omega), Nat.zero_add]
theorem q_33b (hk : kitC n v I) (hs : s < 54) {y2 y3 : Int32} : ∀ (f i a w : Nat) (v6 : Value), i + f = n → a < 100 → pkF v s f i a = some w → jat d 33 58 [.ref 57, .int (nI s), .int y2, .int y3, .int (nI a), .int (nI i), v6] [] (jmk I L c e) = some (some (.int (nI (mto (v w).1 (v w).2.1 s))), jmk I L c e) := by
  have hn := hk.1.1
  intro f
  induction f with
  | zero => intro i a w v6 _ _ h; cases h
  | succ f ih =>
    intro i a w v6 hi ha h
    obtain ⟨g1, g2, g3⟩ := aft (d := d) (L := L) (c := c) (e := e) hk (show i < n by omega) hs
    rw [jb_33_58, hk.1.2.1, decide_eq_false (by rw [nI_leI (by omega) (by omega)]; omega), cond_false, g1]
    simp only [Option.bind_some, jps]
    rw [jb_33_80, g2]
    unfold pkF at h
    simp only [Bool.cond_decide]
    by_cases hm : may (v i) s
    · have hmm : ¬¬ may (v i) s := fun q => q hm
      rw [if_pos hm] at h
      rw [if_neg hmm]
      by_cases h0 : a = 0
      · rw [if_pos h0] at h
        cases h
        subst h0
        rw [if_neg (by decide), g3 hm]
      · rw [if_neg h0] at h
        have e0 : ¬ nI a = 0 := by
          rw [show (0 : Int32) = nI 0 from rfl, nI_eq (by omega) (by decide)]
          exact h0
        rw [if_pos e0, jb_33_95, g2, decide_eq_false hmm, cond_false, nI_1, show nI a - 1 = nI (a - 1) from nI_sub (j := 1) (by omega) (by omega), ih (i + 1) (a - 1) w _ (by omega) (by omega) h]
    · rw [if_neg hm] at h
      rw [if_pos hm, jb_33_95, g2, decide_eq_true hm, cond_true, nI_1, Int32.sub_zero, ih (i + 1) a w _ (by omega) ha h]
theorem q_33 (hk : kitC n v I) (hs : s < 54) {a : Nat} (ha : a < 2 ^ 31) : jev d 33 [.ref 57, .int (nI s), .int (nI a)] (jmk I L c e) = some (some (.int (nI (drw n v s a))), jmk I L c e) := by
  have hn := hk.1.1
  have hc := cn_le (v := v) (s := s) n 0
  have h1 := q_33a (d := d) (L := L) (c := c) (e := e) hk hs (y2 := nI a) n 0 0 (by omega)
  rw [Nat.zero_add] at h1
  rw [jb_33_0, show jat d 33 5 [.ref 57, .int (nI s), .int (nI a), .int 0, .int 0, .null, .null] [] (jmk I L c e) = _ from h1, jb_33_5, hk.1.2.1, decide_eq_true (by rw [nI_leI (by omega) (by omega)]; exact Nat.le_refl _), cond_true]
  unfold drw
  by_cases h0 : cnF v s n 0 = 0
  · rw [if_pos h0, h0]
    rfl
  · have e0 : ¬ nI (cnF v s n 0) = 0 := by
      rw [show (0 : Int32) = nI 0 from rfl, nI_eq (by omega) (by decide)]
      exact h0
    obtain ⟨w, w1, w2, w3⟩ := pk_some (v := v) (s := s) n 0 (a % cnF v s n 0) (Nat.mod_lt _ (by omega))
    have hmod : a % cnF v s n 0 < 100 := Nat.lt_of_lt_of_le (Nat.mod_lt _ (by omega)) (by omega)
    rw [if_neg h0, decide_eq_true e0, cond_true, cond_true, pk_rem ha (by omega) (by omega), w1]
    exact q_33b hk hs n 0 _ w .null (by omega) hmod w1
/-- one chair -/
theorem q_32s (hk : kitC n v I) {y1 y2 y3 : Int32} (hm : m < 2 ^ 31) {i0 : Int32} : ∀ (f j : Nat) (z : Int32) (s : Nat) (b : Bool), j + f = m → s < 54 → jat d 32 35 [.ref 57, .int y1, .int y2, .int y3, .int (nI m), .int z, .int i0, .int (nI s), .int (if b = true then 1 else 0), .int (nI j)] [] (jmk I L c e) = jat d 32 35 [.ref 57, .int y1, .int y2, .int y3, .int (nI m), .int (dwF n v f z s b).1, .int i0, .int (nI (dwF n v f z s b).2.1), .int (if (dwF n v f z s b).2.2 = true then 1 else 0), .int (nI m)] [] (jmk I L c e) ∧ (dwF n v f z s b).2.1 < 54 := by
  intro f
  induction f with
  | zero =>
    intro j z s b hj hs
    have hj : j = m := hj
    subst hj
    exact ⟨rfl, hs⟩
  | succ f ih =>
    intro j z s b hj hs
    have hlot := lot_lt (z := zNx z)
    have hd := drw_lt (fun i hi => (hk.1.2.2 i hi).1) hs (a := lotN (zNx z))
    obtain ⟨r1, r2⟩ := ih (j + 1) (zNx z) (drw n v s (lotN (zNx z))) (b || decide (isChr (drw n v s (lotN (zNx z))))) (by omega) hd
    refine ⟨?_, r2⟩
    rw [jb_32_35, decide_eq_false (by rw [nI_leI (by omega) (by omega)]; omega), cond_false, lot_I, q_33 (a := lotN (zNx z)) hk hs (by omega)]
    simp only [Option.bind_some, jps]
    rw [jb_32_64]
    have h79 : ∀ u : Int32, jat d 32 79 [.ref 57, .int y1, .int y2, .int y3, .int (nI m), .int (zNx z), .int i0, .int (nI (drw n v s (lotN (zNx z)))), .int u, .int (nI j)] [] (jmk I L c e) = jat d 32 35 [.ref 57, .int y1, .int y2, .int y3, .int (nI m), .int (zNx z), .int i0, .int (nI (drw n v s (lotN (zNx z)))), .int 1, .int (nI (j + 1))] [] (jmk I L c e) := by
      intro u
      rw [jb_32_79, nI_1]
    cases b with
    | true =>
      rw [if_pos rfl, jt_1, cond_true, h79]
      exact r1
    | false =>
      rw [if_neg (by simp), jt_3, cond_false, q_146 hd]
      simp only [Option.bind_some, jps]
      rw [jb_32_76, h79, nI_1]
      rw [Bool.false_or] at r1
      show _ = jat d 32 35 [.ref 57, .int y1, .int y2, .int y3, .int (nI m), .int (dwF n v f (zNx z) (drw n v s (lotN (zNx z))) (false || decide (isChr (drw n v s (lotN (zNx z)))))).1, .int i0, .int (nI (dwF n v f (zNx z) (drw n v s (lotN (zNx z))) (false || decide (isChr (drw n v s (lotN (zNx z)))))).2.1), .int (if (dwF n v f (zNx z) (drw n v s (lotN (zNx z))) (false || decide (isChr (drw n v s (lotN (zNx z)))))).2.2 = true then 1 else 0), .int (nI m)] [] (jmk I L c e)
      rw [Bool.false_or, ← r1]
      simp only [Bool.cond_decide, j01, decide_eq_true_eq]
      by_cases hc : isChr (drw n v s (lotN (zNx z)))
      · have hcc : ¬¬ isChr (drw n v s (lotN (zNx z))) := fun q => q hc
        rw [if_neg hcc, if_pos hc]
      · rw [if_pos hc, if_neg hc]
theorem q_32l (hm : m < 2 ^ 31) (hs : s < 54) {N : Nat} (hN : N < 2 ^ 31) {y2 : Int32} : ∀ (f j : Nat) (z : Int32) (a w : Nat) (v7 v8 v9 : Value) (I : Nat → Nat → Int32), kitC n v I → j + f = N → I 57 3 = nI a → I 57 4 = nI w → ∃ I', jat d 32 16 [.ref 57, .int (nI s), .int y2, .int (nI N), .int (nI m), .int z, .int (nI j), v7, v8, v9] [] (jmk I L c e) = some (none, jmk I' L c e) ∧ I' 57 3 = nI (chF n v m s f z a w).1 ∧ I' 57 4 = nI (chF n v m s f z a w).2 ∧ ∀ q t, q ≠ 57 → I' q t = I q t := by
  intro f
  induction f with
  | zero =>
    intro j z a w v7 v8 v9 I _ hj h3 h4
    have hj : j = N := hj
    subst hj
    refine ⟨I, ?_, h3, h4, fun _ _ _ => rfl⟩
    rw [jb_32_16, decide_eq_true (by rw [nI_leI (by omega) (by omega)]; exact Nat.le_refl _), cond_true]
  | succ f ih =>
    intro j z a w v7 v8 v9 I hk hj h3 h4
    obtain ⟨r1, r2⟩ := q_32s (d := d) (L := L) (c := c) (e := e) hk (y1 := nI s) (y2 := y2) (y3 := nI N) hm (i0 := nI j) m 0 z s (decide (isChr s)) (by omega) hs
    have hfr : ∀ (u x1 : Int32) q t, q ≠ 57 → ju (ju I 57 3 u) 57 4 x1 q t = I q t := by
      intro u x1 q t h
      rw [ju_get, if_neg (fun k => h k.1), ju_get, if_neg (fun k => h k.1)]
    have hk2 : ∀ u x1 : Int32, kitC n v (ju (ju I 57 3 u) 57 4 x1) := fun u x1 => kitC_fr hk (fun q j a1 a2 => hfr u x1 q j (by omega))
    have e3 : nI a + (if isChr (dwF n v m z s (decide (isChr s))).2.1 then (1 : Int32) else 0) = nI (a + if isChr (dwF n v m z s (decide (isChr s))).2.1 then 1 else 0) := by
      split
      · exact nI_1 _
      · exact Int32.add_zero _
    have e4 : nI w + (if (dwF n v m z s (decide (isChr s))).2.2 = true then (1 : Int32) else 0) = nI (w + if (dwF n v m z s (decide (isChr s))).2.2 = true then 1 else 0) := by
      split
      · exact nI_1 _
      · exact Int32.add_zero _
    obtain ⟨I', g1, g2, g3, g4⟩ := ih (j + 1) (dwF n v m z s (decide (isChr s))).1 _ _ (.int (nI (dwF n v m z s (decide (isChr s))).2.1)) (.int (if (dwF n v m z s (decide (isChr s))).2.2 = true then 1 else 0)) (.int (nI m)) _ (hk2 _ _) (by omega) (show ju (ju I 57 3 (nI (a + if isChr (dwF n v m z s (decide (isChr s))).2.1 then 1 else 0))) 57 4 (nI (w + if (dwF n v m z s (decide (isChr s))).2.2 = true then 1 else 0)) 57 3 = _ from rfl) ju_s
    refine ⟨I', ?_, g2, g3, fun q t h => (g4 q t h).trans (hfr _ _ q t h)⟩
    rw [jb_32_16, decide_eq_false (by rw [nI_leI (by omega) (by omega)]; omega), cond_false, q_146 hs]
    simp only [Option.bind_some, jps]
    rw [jb_32_30]
    have e0 : (if isChr s then (1 : Int32) else 0) = if decide (isChr s) = true then 1 else 0 := by
      simp only [decide_eq_true_eq]
    rw [e0, show jat d 32 35 [.ref 57, .int (nI s), .int y2, .int (nI N), .int (nI m), .int z, .int (nI j), .int (nI s), .int (if decide (isChr s) = true then 1 else 0), .int 0] [] (jmk I L c e) = _ from r1, jb_32_35, decide_eq_true (by rw [nI_leI (by omega) (by omega)]; exact Nat.le_refl _), cond_true, q_146 r2]
    simp only [Option.bind_some, jps]
    rw [jb_32_102, h3]
    have h110 : ∀ u : Int32, jat d 32 110 [.ref 57, .int (nI s), .int y2, .int (nI N), .int (nI m), .int (dwF n v m z s (decide (isChr s))).1, .int (nI j), .int (nI (dwF n v m z s (decide (isChr s))).2.1), .int (if (dwF n v m z s (decide (isChr s))).2.2 = true then 1 else 0), .int (nI m)] [.int u, .int (nI a), .ref 57] (jmk I L c e) = jat d 32 16 [.ref 57, .int (nI s), .int y2, .int (nI N), .int (nI m), .int (dwF n v m z s (decide (isChr s))).1, .int (nI (j + 1)), .int (nI (dwF n v m z s (decide (isChr s))).2.1), .int (if (dwF n v m z s (decide (isChr s))).2.2 = true then 1 else 0), .int (nI m)] [] (jmk (ju (ju I 57 3 (nI a + u)) 57 4 (nI (w + if (dwF n v m z s (decide (isChr s))).2.2 = true then 1 else 0))) L c e) := by
      intro u
      rw [jb_32_110, h4, nI_1, ← e4]
      by_cases hb : (dwF n v m z s (decide (isChr s))).2.2 = true
      · rw [if_pos hb]
        rfl
      · rw [if_neg hb]
        rfl
    rw [h110, h110]
    rw [← e3] at g1
    by_cases hc : isChr (dwF n v m z s (decide (isChr s))).2.1
    · rw [if_pos hc] at g1
      rw [if_pos hc]
      exact g1
    · rw [if_neg hc] at g1
      rw [if_neg hc]
      exact g1
theorem c_drawn {u : Int32} (hk : kitC n v I) : ∃ I', jev d 123 [.ref 0, .int x, .int y, .int z, .int u] (jmk I L c e) = some (some (.int (opDrawn n v x y z u)), jmk I' L c e) ∧ ∀ q t, q ≠ 57 → I' q t = I q t := by
  unfold opDrawn
  rw [jb_123_0, q_141]
  simp only [Option.bind_some, jps]
  rw [jb_123_16]
  simp only [Bool.cond_decide, j01]
  generalize hp : z / 100 = P
  generalize hq : z - P * 100 = Q
  have l1 : ∀ w : Int32, w < 1 ↔ w.toInt < 1 := fun w => jlt_iff
  have l2 : (50 : Int32) < P ↔ 50 < P.toInt := jlt_iff
  have l3 : (60 : Int32) < Q ↔ 60 < Q.toInt := jlt_iff
  have l4 : u < 0 ↔ u.toInt < 0 := jlt_iff
  have l5 : u ≤ 1 ↔ u.toInt ≤ 1 := jle_iff
  simp only [l1, l2, l3, l4, l5]
  by_cases hall : jin x 54 ∧ 1 ≤ P.toInt ∧ P.toInt ≤ 50 ∧ 1 ≤ Q.toInt ∧ Q.toInt ≤ 60 ∧ 0 ≤ u.toInt ∧ u.toInt ≤ 1
  · obtain ⟨a1, a2, a3, a4, a5, a6, a7⟩ := id hall
    rw [if_pos hall, if_neg (fun q => q a1), if_neg (by omega), if_neg (by omega), if_neg (by omega), if_neg (by omega), if_neg (by omega), if_pos a7]
    obtain ⟨s, hs, rfl⟩ := (jin_iff (by omega)).mp a1
    obtain ⟨N, hN, rfl⟩ := jn_le (l := 50) (x := P) (by omega) (by omega)
    obtain ⟨m, hm, rfl⟩ := jn_le (l := 60) (x := Q) (by omega) (by omega)
    have hk2 : kitC n v (ju (ju I 57 3 0) 57 4 0) := kitC_fr hk (fun q j b1 b2 => by rw [ju_get, if_neg (by omega), ju_get, if_neg (by omega)])
    obtain ⟨I', r1, r2, r3, r4⟩ := q_32l (d := d) (L := L) (c := c) (e := e) (show m < 2 ^ 31 by omega) hs (show N < 2 ^ 31 by omega) (y2 := y) N 0 y 0 0 .null .null .null _ hk2 (by omega) rfl rfl
    rw [jb_32_0, show jat d 32 16 [.ref 57, .int (nI s), .int y, .int (nI N), .int (nI m), .int y, .int 0, .null, .null, .null] [] (jmk (ju (ju I 57 3 0) 57 4 0) L c e) = _ from r1, nI_toInt (by omega), nI_toInt (by omega), Int.toNat_natCast, Int.toNat_natCast, jcl' (by omega)]
    simp only [Option.bind_some, jps]
    rw [jb_123_71, r2, r3]
    refine ⟨I', ?_, fun q t h => (r4 q t h).trans (by rw [ju_get, if_neg (fun k => h k.1), ju_get, if_neg (fun k => h k.1)])⟩
    simp only [Bool.cond_decide]
    by_cases hu : u = 0
    · rw [if_neg (fun q => q hu), if_pos hu]
    · rw [if_pos hu, if_neg hu]
  · rw [if_neg hall]
    refine ⟨I, ?_, fun _ _ _ => rfl⟩
    repeat' split
    all_goals first | rfl | (exfalso; omega)
theorem q_239l (hk : kitM n v I) (hs : s < 54) {y2 : Int32} : ∀ (f i a w : Nat), i + f = n → a < 100 → pkF v s f i a = some w → jat d 239 5 [.ref 58, .int (nI s), .int y2, .int (nI a), .int (nI i)] [] (jmk I L c e) = some (some (.int (nI w)), jmk I L c e) := by
  have hn := hk.1
  intro f
  induction f with
  | zero => intro i a w _ _ h; cases h
  | succ f ih =>
    intro i a w hi ha h
    rw [jb_239_5, hk.2.1, decide_eq_false (by rw [nI_leI (by omega) (by omega)]; omega), cond_false, q_204 hk (show i < n by omega) hs]
    simp only [Option.bind_some, jps]
    rw [jb_239_21]
    unfold pkF at h
    simp only [Bool.cond_decide, j01, Decidable.not_not]
    by_cases hm : may (v i) s
    · rw [if_pos hm] at h
      rw [if_pos hm]
      by_cases h0 : a = 0
      · rw [if_pos h0] at h
        cases h
        subst h0
        rw [if_neg (by decide)]
      · rw [if_neg h0] at h
        have e0 : ¬ nI a = 0 := by
          rw [show (0 : Int32) = nI 0 from rfl, nI_eq (by omega) (by decide)]
          exact h0
        rw [if_pos e0, nI_1, ← Int32.sub_eq_add_neg, show nI a - 1 = nI (a - 1) from nI_sub (j := 1) (by omega) (by omega), ih (i + 1) (a - 1) w (by omega) (by omega) h]
    · rw [if_neg hm] at h
      rw [if_neg hm, nI_1, ih (i + 1) a w (by omega) ha h]
theorem q_238a (hk : kitM n v I) (hs : s < 54) {y1 y2 y3 y4 y6 y7 y8 y10 y11 : Int32} : ∀ f i a : Nat, i + f = n → jat d 238 110 [.ref 58, .int y1, .int y2, .int y3, .int y4, .int z, .int y6, .int y7, .int y8, .int (nI s), .int y10, .int y11, .int (nI a), .int (nI i)] [] (jmk I L c e) = jat d 238 110 [.ref 58, .int y1, .int y2, .int y3, .int y4, .int z, .int y6, .int y7, .int y8, .int (nI s), .int y10, .int y11, .int (nI (a + cnF v s f i)), .int (nI n)] [] (jmk I L c e) := by
  have hn := hk.1
  intro f
  induction f with
  | zero =>
    intro i a hi
    have hi : i = n := hi
    subst hi
    rfl
  | succ f ih =>
    intro i a hi
    rw [jb_238_110, hk.2.1, decide_eq_false (by rw [nI_leI (by omega) (by omega)]; omega), cond_false, q_204 hk (show i < n by omega) hs]
    simp only [Option.bind_some, jps]
    rw [jb_238_127, nI_1, nI_1]
    unfold cnF
    simp only [Bool.cond_decide, j01]
    by_cases hm : may (v i) s
    · have hmm : ¬¬ may (v i) s := fun q => q hm
      rw [if_neg hmm, if_pos hm, ih (i + 1) (a + 1) (by omega), Nat.add_assoc]
    · rw [if_pos hm, if_neg hm, ih (i + 1) a (by omega), Nat.zero_add]
theorem q_238s (hk : kitM n v I) {y1 y2 y3 y4 y6 y7 y8 : Int32} (hm : m < 2 ^ 31) (h3 : y3 - y3 / 100 * 100 = nI m) : ∀ (f j : Nat) (z : Int32) (s : Nat) (b : Bool) (v12 v13 : Value), j + f = m → s < 54 → (isChr s → b = true) → ∃ u12 u13, jat d 238 83 [.ref 58, .int y1, .int y2, .int y3, .int y4, .int z, .int y6, .int y7, .int y8, .int (nI s), .int (if b = true then 1 else 0), .int (nI j), v12, v13] [] (jmk I L c e) = jat d 238 83 [.ref 58, .int y1, .int y2, .int y3, .int y4, .int (dwF n v f z s b).1, .int y6, .int y7, .int y8, .int (nI (dwF n v f z s b).2.1), .int (if (dwF n v f z s b).2.2 = true then 1 else 0), .int (nI m), u12, u13] [] (jmk I L c e) ∧ (dwF n v f z s b).2.1 < 54 := by
  intro f
  induction f with
  | zero =>
    intro j z s b v12 v13 hj hs _
    have hj : j = m := hj
    subst hj
    exact ⟨v12, v13, rfl, hs⟩
  | succ f ih =>
    intro j z s b v12 v13 hj hs hcb
    have hn := hk.1
    have hlot := lot_lt (z := zNx z)
    have hdl := drw_lt (fun i hi => (hk.2.2 i hi).1) hs (a := lotN (zNx z))
    have hc := cn_le (v := v) (s := s) n 0
    have h1 := q_238a (d := d) (L := L) (c := c) (e := e) (z := zNx z) (y1 := y1) (y2 := y2) (y3 := y3) (y4 := y4) (y6 := y6) (y7 := y7) (y8 := y8) (y10 := if b = true then 1 else 0) (y11 := nI j) hk hs n 0 0 (by omega)
    rw [Nat.zero_add] at h1
    have e12 : ∀ {P : Value → Value → Prop} (a1 a2 : Value), P a1 a2 → ∃ u12 u13, P u12 u13 := fun a1 a2 h => ⟨a1, a2, h⟩
    rw [jb_238_83, h3, decide_eq_false (by rw [nI_leI (by omega) (by omega)]; omega), cond_false, show jat d 238 110 [.ref 58, .int y1, .int y2, .int y3, .int y4, .int (zNx z), .int y6, .int y7, .int y8, .int (nI s), .int (if b = true then 1 else 0), .int (nI j), .int 0, .int 0] [] (jmk I L c e) = _ from h1, jb_238_110, hk.2.1, decide_eq_true (by rw [nI_leI (by omega) (by omega)]; exact Nat.le_refl _), cond_true]
    unfold dwF
    by_cases h0 : cnF v s n 0 = 0
    · have ed : drw n v s (lotN (zNx z)) = s := by
        unfold drw
        rw [if_pos h0]
      have eb : (b || decide (isChr s)) = b := by
        cases b with
        | true => rfl
        | false => rw [Bool.false_or, decide_eq_false (fun q => absurd (hcb q) (by simp))]
      rw [ed, eb]
      obtain ⟨u12, u13, r1, r2⟩ := ih (j + 1) (zNx z) s b (.int (nI 0)) (.int (nI n)) (by omega) hs hcb
      refine ⟨u12, u13, ?_, r2⟩
      rw [h0, show decide (¬ nI 0 = 0) = false from rfl, cond_false, nI_1, r1]
    · have e0 : ¬ nI (cnF v s n 0) = 0 := by
        rw [show (0 : Int32) = nI 0 from rfl, nI_eq (by omega) (by decide)]
        exact h0
      obtain ⟨w, w1, w2, w3⟩ := pk_some (v := v) (s := s) n 0 (lotN (zNx z) % cnF v s n 0) (Nat.mod_lt _ (by omega))
      have hmod : lotN (zNx z) % cnF v s n 0 < 100 := Nat.lt_of_lt_of_le (Nat.mod_lt _ (by omega)) (by omega)
      have ed : drw n v s (lotN (zNx z)) = mto (v w).1 (v w).2.1 s := by
        unfold drw
        rw [if_neg h0, w1]
      rw [ed] at hdl ⊢
      obtain ⟨u12, u13, r1, r2⟩ := ih (j + 1) (zNx z) (mto (v w).1 (v w).2.1 s) (b || decide (isChr (mto (v w).1 (v w).2.1 s))) (.int (nI (cnF v s n 0))) (.int (nI n)) (by omega) hdl (fun q => by rw [decide_eq_true q, Bool.or_true])
      refine ⟨u12, u13, ?_, r2⟩
      rw [decide_eq_true e0, cond_true, cond_true, lot_I, pk_rem (by omega) (by omega) (by omega), jb_239_0, show jat d 239 5 [.ref 58, .int (nI s), .int (nI (lotN (zNx z) % cnF v s n 0)), .int (nI (lotN (zNx z) % cnF v s n 0)), .int 0] [] (jmk I L c e) = _ from q_239l hk hs n 0 _ w (by omega) hmod w1]
      simp only [Option.bind_some, jps]
      rw [jb_238_162, q_205 hk (by omega) hs]
      simp only [Option.bind_some, jps]
      rw [jb_238_167, q_171 hdl]
      simp only [Option.bind_some, jps]
      rw [jb_238_174, nI_1, ← r1]
      simp only [Bool.cond_decide, j01]
      by_cases hch : isChr (mto (v w).1 (v w).2.1 s)
      · have hcc : ¬¬ isChr (mto (v w).1 (v w).2.1 s) := fun q => q hch
        rw [if_neg hcc]
        have eb : (b || decide (isChr (mto (v w).1 (v w).2.1 s))) = true := by rw [decide_eq_true hch, Bool.or_true]
        rw [eb]
        rfl
      · rw [if_pos hch]
        have eb : (b || decide (isChr (mto (v w).1 (v w).2.1 s))) = b := by rw [decide_eq_false hch, Bool.or_false]
        rw [eb]
theorem q_238l (hk : kitM n v I) (hm : m < 2 ^ 31) (hs : s < 54) {N : Nat} (hN : N < 2 ^ 31) {y2 y3 y4 : Int32} (h3 : y3 - y3 / 100 * 100 = nI m) (h5 : y3 / 100 = nI N) : ∀ (f j : Nat) (z : Int32) (a w : Nat) (v9 v10 v11 v12 v13 : Value), j + f = N → jat d 238 61 [.ref 58, .int (nI s), .int y2, .int y3, .int y4, .int z, .int (nI a), .int (nI w), .int (nI j), v9, v10, v11, v12, v13] [] (jmk I L c e) = some (some (.int (if y4 = 0 then nI (chF n v m s f z a w).1 else nI (chF n v m s f z a w).2)), jmk I L c e) := by
  intro f
  induction f with
  | zero =>
    intro j z a w v9 v10 v11 v12 v13 hj
    have hj : j = N := hj
    subst hj
    rw [jb_238_61, h5, decide_eq_true (by rw [nI_leI (by omega) (by omega)]; exact Nat.le_refl _), cond_true]
    simp only [Bool.cond_decide]
    by_cases hu : y4 = 0
    · rw [if_neg (fun q => q hu), if_pos hu]
      rfl
    · rw [if_pos hu, if_neg hu]
      rfl
  | succ f ih =>
    intro j z a w v9 v10 v11 v12 v13 hj
    obtain ⟨u12, u13, r1, r2⟩ := q_238s (d := d) (L := L) (c := c) (e := e) hk (y1 := nI s) (y2 := y2) (y4 := y4) (y6 := nI a) (y7 := nI w) (y8 := nI j) hm h3 m 0 z s (decide (isChr s)) v12 v13 (by omega) hs (fun q => decide_eq_true q)
    have e0 : (if isChr s then (1 : Int32) else 0) = if decide (isChr s) = true then 1 else 0 := by
      simp only [decide_eq_true_eq]
    rw [jb_238_61, h5, decide_eq_false (by rw [nI_leI (by omega) (by omega)]; omega), cond_false, q_171 hs]
    simp only [Option.bind_some, jps]
    rw [jb_238_78, e0, show jat d 238 83 [.ref 58, .int (nI s), .int y2, .int y3, .int y4, .int z, .int (nI a), .int (nI w), .int (nI j), .int (nI s), .int (if decide (isChr s) = true then 1 else 0), .int 0, v12, v13] [] (jmk I L c e) = _ from r1, jb_238_83, h3, decide_eq_true (by rw [nI_leI (by omega) (by omega)]; exact Nat.le_refl _), cond_true, q_171 r2]
    simp only [Option.bind_some, jps]
    rw [jb_238_191]
    have h197 : ∀ a' : Nat, jat d 238 197 [.ref 58, .int (nI s), .int y2, .int y3, .int y4, .int (dwF n v m z s (decide (isChr s))).1, .int (nI a'), .int (nI w), .int (nI j), .int (nI (dwF n v m z s (decide (isChr s))).2.1), .int (if (dwF n v m z s (decide (isChr s))).2.2 = true then 1 else 0), .int (nI m), u12, u13] [] (jmk I L c e) = some (some (.int (if y4 = 0 then nI (chF n v m s f (dwF n v m z s (decide (isChr s))).1 a' (w + if (dwF n v m z s (decide (isChr s))).2.2 = true then 1 else 0)).1 else nI (chF n v m s f (dwF n v m z s (decide (isChr s))).1 a' (w + if (dwF n v m z s (decide (isChr s))).2.2 = true then 1 else 0)).2)), jmk I L c e) := by
      intro a'
      rw [jb_238_197, nI_1, nI_1]
      by_cases hb : (dwF n v m z s (decide (isChr s))).2.2 = true
      · rw [if_pos hb, if_pos hb, jt_2, cond_false, ih (j + 1) _ a' (w + 1) _ _ _ _ _ (by omega)]
      · rw [if_neg hb, if_neg hb, jt_4, cond_true, ih (j + 1) _ a' w _ _ _ _ _ (by omega)]
        rfl
    rw [nI_1, h197, h197]
    simp only [Bool.cond_decide, j01]
    rw [chF_s]
    by_cases hc : isChr (dwF n v m z s (decide (isChr s))).2.1
    · rw [if_neg (fun q => q hc), if_pos hc]
    · rw [if_pos hc, if_neg hc]
      rfl
theorem m_drawn {u : Int32} (hk : kitM n v I) : jev d 238 [.ref 58, .int x, .int y, .int z, .int u] (jmk I L c e) = some (some (.int (opDrawn n v x y z u)), jmk I L c e) := by
  unfold opDrawn
  rw [jb_238_0, q_167]
  simp only [Option.bind_some, jps]
  rw [jb_238_4, q_163]
  simp only [Option.bind_some, jps]
  rw [jb_238_21, q_163]
  simp only [Option.bind_some, jps]
  rw [jb_238_34, q_163]
  simp only [Option.bind_some, jps]
  rw [jb_238_44]
  have hneg : z.toInt < 0 → (z / 100).toInt < 1 := by
    intro h
    have h2 := z.le_toInt
    have hz : z.toInt = -(-z.toInt) := by omega
    rw [Int32.toInt_div, hz, Int.neg_tdiv, show (100 : Int32).toInt = 100 from rfl, Int.tdiv_eq_ediv_of_nonneg (by omega), Int.bmod_eq_of_le (by omega) (by omega)]
    omega
  have l1 : z < 0 ↔ z.toInt < 0 := jlt_iff
  simp only [Bool.cond_decide, j01, Decidable.not_not, Int32.reduceToInt, l1]
  by_cases hall : jin x 54 ∧ 1 ≤ (z / 100).toInt ∧ (z / 100).toInt ≤ 50 ∧ 1 ≤ (z - z / 100 * 100).toInt ∧ (z - z / 100 * 100).toInt ≤ 60 ∧ 0 ≤ u.toInt ∧ u.toInt ≤ 1
  · obtain ⟨a1, a2, a3, a4, a5, a6, a7⟩ := id hall
    have b1 : 1 ≤ (z / 100).toInt ∧ (z / 100).toInt ≤ 50 := ⟨a2, a3⟩
    have b2 : 1 ≤ (z - z / 100 * 100).toInt ∧ (z - z / 100 * 100).toInt ≤ 60 := ⟨a4, a5⟩
    have b3 : 0 ≤ u.toInt ∧ u.toInt ≤ 1 := ⟨a6, a7⟩
    rw [if_pos hall, if_neg (fun q => q a1), if_neg (by omega), if_neg (fun q => q b1), if_neg (fun q => q b2), if_pos b3]
    obtain ⟨s, hs, rfl⟩ := (jin_iff (by omega)).mp a1
    obtain ⟨N, hN, hP⟩ := jn_le (l := 50) (x := z / 100) (by omega) (by omega)
    obtain ⟨m, hm, hQ⟩ := jn_le (l := 60) (x := z - z / 100 * 100) (by omega) (by omega)
    have := q_238l (d := d) (L := L) (c := c) (e := e) hk (show m < 2 ^ 31 by omega) hs (show N < 2 ^ 31 by omega) (y2 := y) (y3 := z) (y4 := u) hQ hP N 0 y 0 0 .null .null .null .null .null (by omega)
    rw [hQ, hP, nI_toInt (by omega), nI_toInt (by omega), Int.toNat_natCast, Int.toNat_natCast, jcl' (by omega)]
    exact this
  · rw [if_neg hall]
    repeat' split
    all_goals first | rfl | (exfalso; omega)
end DRW
