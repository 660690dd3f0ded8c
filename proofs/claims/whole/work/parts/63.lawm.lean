/-! law, the reference -/
def flL : List aLn → List Nat
  | [] => []
  | (a, b) :: r => a ++ (b ++ flL r)
/-- the lines as they are written -/
def lnN (I : Nat → Nat → Int32) : Nat → Nat → List aLn → Prop
  | _, _, [] => True
  | i, o, (a, b) :: r => I 73 i = nI o ∧ I 74 i = nI (o + a.length) ∧ I 75 i = nI (o + a.length + b.length) ∧ lnN I (i + 1) (o + a.length + b.length) r
def rtM (k : Nat) (ta : Nat → Int32) (x : Bool × Nat × List aLn) (I : Nat → Nat → Int32) : Prop := if x.1 = true then stM k ta 6 x.2.1 (flL x.2.2) I ∧ I 58 23 = nI x.2.2.length ∧ lnN I 0 0 x.2.2 else wkM k ta x.2.1 I
/-- what reading changes -/
abbrev frL (I I' : Nat → Nat → Int32) : Prop := ∀ q j, ¬ (q = 58 ∧ 20 ≤ j ∧ j ≤ 23) → (q < 73 ∨ 76 < q) → I' q j = I q j
section LWM
variable {d : Nat} {I I' : Nat → Nat → Int32} {L : Nat → Nat → Int64} {c e : Nat} {x y z : Int32} {k p r lev t f : Nat} {ta : Nat → Int32} {s : Int32} {o : List Nat} {lw : List aLn}
theorem flL_app : ∀ l l2 : List aLn, flL (l ++ l2) = flL l ++ flL l2 := by
  intro l
  induction l with
  | nil => intro l2; rfl
  | cons x l ih =>
    obtain ⟨a, b⟩ := x
    intro l2
    show a ++ (b ++ flL (l ++ l2)) = a ++ (b ++ flL l) ++ flL l2
    rw [ih]
    simp
theorem flL_len : ∀ l : List aLn, (flL l).length = szL l := by
  intro l
  induction l with
  | nil => rfl
  | cons x l ih =>
    obtain ⟨a, b⟩ := x
    show (a ++ (b ++ flL l)).length = a.length + b.length + szL l
    rw [List.length_append, List.length_append, ih, Nat.add_assoc]
theorem lnN_app : ∀ (l l2 : List aLn) (i o : Nat), lnN I i o (l ++ l2) ↔ lnN I i o l ∧ lnN I (i + l.length) (o + szL l) l2 := by
  intro l
  induction l with
  | nil => intro l2 i o; exact ⟨fun h => ⟨trivial, h⟩, fun h => h.2⟩
  | cons x l ih =>
    obtain ⟨a, b⟩ := x
    intro l2 i o
    show (I 73 i = nI o ∧ I 74 i = nI (o + a.length) ∧ I 75 i = nI (o + a.length + b.length) ∧ lnN I (i + 1) (o + a.length + b.length) (l ++ l2)) ↔ (I 73 i = nI o ∧ I 74 i = nI (o + a.length) ∧ I 75 i = nI (o + a.length + b.length) ∧ lnN I (i + 1) (o + a.length + b.length) l) ∧ lnN I (i + (l.length + 1)) (o + (a.length + b.length + szL l)) l2
    rw [ih, show i + (l.length + 1) = i + 1 + l.length by omega, show o + (a.length + b.length + szL l) = o + a.length + b.length + szL l by omega]
    constructor
    · rintro ⟨h1, h2, h3, h4, h5⟩; exact ⟨⟨h1, h2, h3, h4⟩, h5⟩
    · rintro ⟨⟨h1, h2, h3, h4⟩, h5⟩; exact ⟨h1, h2, h3, h4, h5⟩
theorem lnN_fr : ∀ (l : List aLn) (i o : Nat), (∀ q j, 73 ≤ q → q ≤ 75 → j < i + l.length → I' q j = I q j) → lnN I i o l → lnN I' i o l := by
  intro l
  induction l with
  | nil => intro i o _ _; trivial
  | cons x l ih =>
    obtain ⟨a, b⟩ := x
    intro i o hf h
    rw [List.length_cons] at hf
    obtain ⟨h1, h2, h3, h4⟩ := h
    exact ⟨(hf 73 i (by decide) (by decide) (by omega)).trans h1, (hf 74 i (by decide) (by decide) (by omega)).trans h2, (hf 75 i (by decide) (by decide) (by omega)).trans h3, ih _ _ (fun q j a1 a2 a3 => hf q j a1 a2 (by omega)) h4⟩
/-- a line, read by the reference -/
theorem q_198 (hk : k ≤ 120) (hd : 60 ≤ d) (hp : p ≤ k) (ho : o.length ≤ p) {i : Nat} (hi : i ≤ 60) (h23 : I 58 23 = nI i) (hst : stM k ta 6 p o I) : ∃ I', jev d 198 [.ref 58] (jmk I L c e) = some (some (.int (if (rdLn k ta p).1 = true then 1 else 0)), jmk I' L c e) ∧ (if (rdLn k ta p).1 = true then stM k ta 6 (rdLn k ta p).2.1 (o ++ ((rdLn k ta p).2.2.1 ++ (rdLn k ta p).2.2.2)) I' ∧ I' 58 23 = nI (i + 1) ∧ I' 73 i = nI o.length ∧ I' 74 i = nI (o.length + (rdLn k ta p).2.2.1.length) ∧ I' 75 i = nI (o.length + (rdLn k ta p).2.2.1.length + (rdLn k ta p).2.2.2.length) else wkM k ta (rdLn k ta p).2.1 I') ∧ frL I I' ∧ ∀ q j, 73 ≤ q → q ≤ 75 → j ≠ i → I' q j = I q j := by
  obtain ⟨d, rfl⟩ : ∃ d1, d = d1 + 5 := ⟨d - 5, by omega⟩
  have okE : ∀ p, p ≤ k → exOk k p (rdE k ta (rdO k ta 6) p) := fun p hp => rdE_ok (rdO_ok 6) hp
  have isE : isM k ta L c e 6 (rdE k ta (rdO k ta 6)) (fun M => jev (d + 5) 197 [.ref 58] M) := q_197E hk (rdO_ok 6) (q_192 hk 6 d (by decide) (by omega))
  have setM : ∀ {I : Nat → Nat → Int32} {p : Nat} {o : List Nat} (q : Nat) (w : Int32), 73 ≤ q → q ≤ 75 → stM k ta 6 p o I → stM k ta 6 p o (ju I q i w) := by
    intro I p o q w h1 h2 ⟨⟨a1, a2, a3⟩, b2, b3, b4, b5⟩
    refine ⟨⟨a1, ?_, fun j hj => ?_⟩, ?_, ?_, ?_, cdAt_fr (fun j _ _ => ?_) b5⟩
    · rw [ju_get, if_neg (by omega)]; exact a2
    · rw [ju_get, if_neg (by omega)]; exact a3 j hj
    · rw [ju_get, if_neg (by omega)]; exact b2
    · rw [ju_get, if_neg (by omega)]; exact b3
    · rw [ju_get, if_neg (by omega)]; exact b4
    · rw [ju_get, if_neg (by omega)]
  have hjn : decide (jin (nI i) 61) = true := jdI (by omega)
  have hcl : (nI i).toNatClampNeg = i := jcl' (by omega)
  -- the end of a line
  have hfin : ∀ (I2 : Nat → Nat → Int32) (p' : Nat) (o' : List Nat), I2 58 23 = nI i → stM k ta 6 p' o' I2 → jat (d + 5) 198 71 [.ref 58] [] (jmk I2 L c e) = some (some (.int 1), jmk (ju (ju I2 58 23 (nI (i + 1))) 75 i (nI o'.length)) L c e) ∧ stM k ta 6 p' o' (ju (ju I2 58 23 (nI (i + 1))) 75 i (nI o'.length)) := by
    intro I2 p' o' g23 gst
    constructor
    · rw [jb_198_71, g23, hjn, cond_true, hcl, nI_1, gst.2.2.2.1]
    · apply setM 75 _ (by decide) (by decide)
      obtain ⟨⟨a1, a2, a3⟩, b2, b3, b4, b5⟩ := gst
      refine ⟨⟨a1, ?_, fun j hj => ?_⟩, ?_, ?_, ?_, cdAt_fr (fun j _ _ => ?_) b5⟩
      · rw [ju_get, if_neg (by omega)]; exact a2
      · rw [ju_get, if_neg (by omega)]; exact a3 j hj
      · rw [ju_get, if_neg (by omega)]; exact b2
      · rw [ju_get, if_neg (by omega)]; exact b3
      · rw [ju_get, if_neg (by omega)]; exact b4
      · rw [ju_get, if_neg (by omega)]
  have st0 := setM 73 (nI o.length) (by decide) (by decide) hst
  obtain ⟨I1, f1, f2, f3⟩ := isE p o _ hp ho st0
  dsimp only at f1
  obtain ⟨a1, a2, a3⟩ := okE p hp
  have g23 : I1 58 23 = nI i := (f3 58 23 (by omega) (by omega)).trans h23
  have g73 : I1 73 i = nI o.length := (f3 73 i (by omega) (by omega)).trans (by rw [ju_get, if_pos ⟨rfl, rfl⟩])
  have ff : frL I I1 := fun q j b1 b2 => (f3 q j (by omega) (by omega)).trans (by rw [ju_get, if_neg (by omega)])
  have fn : ∀ q j, 73 ≤ q → q ≤ 75 → j ≠ i → I1 q j = I q j := fun q j b1 b2 b3 => (f3 q j (by omega) (by omega)).trans (by rw [ju_get, if_neg (fun h => b3 h.2)])
  rw [jb_198_0, h23, hjn, cond_true, hcl, hst.2.2.2.1, f1]
  simp only [Option.bind_some, jps]
  rw [jb_198_17]
  unfold rdLn
  by_cases hb : (rdE k ta (rdO k ta 6) p).1 = true
  · obtain ⟨b1, b2, b3, b4, b5⟩ := a3 hb
    unfold rsM at f2
    rw [if_pos hb] at f2
    have st1 := setM 74 (nI o.length) (by decide) (by decide) f2
    have ff1 : frL I (ju I1 74 i (nI o.length)) := fun q j b1 b2 => by rw [ju_get, if_neg (by omega)]; exact ff q j b1 b2
    have fn1 : ∀ q j, 73 ≤ q → q ≤ 75 → j ≠ i → ju I1 74 i (nI o.length) q j = I q j := fun q j b1 b2 b3 => by rw [ju_get, if_neg (fun h => b3 h.2)]; exact fn q j b1 b2 b3
    rw [if_pos hb, if_pos hb, jt_1, cond_true, g23, hjn, cond_true, cond_true, hcl, g73, q_188 st1.1 st1.2.1 (by omega)]
    by_cases h63 : sg k ta (rdE k ta (rdO k ta 6) p).2.1 = 63
    · have hlt := sg_lt (k := k) (ta := ta) (p := (rdE k ta (rdO k ta 6) p).2.1) (by rw [h63]; decide)
      obtain ⟨c1, c2, c3⟩ := okE ((rdE k ta (rdO k ta 6) p).2.1 + 1) hlt
      have st2 := setM 74 (nI (o ++ (rdE k ta (rdO k ta 6) p).2.2).length) (by decide) (by decide) (sm_next st1)
      obtain ⟨I2, r1, r2, r3⟩ := isE ((rdE k ta (rdO k ta 6) p).2.1 + 1) _ _ hlt (by simp; omega) st2
      dsimp only at r1
      have ff2 : frL I I2 := fun q j b1 b2 => (r3 q j (by omega) (by omega)).trans (by rw [ju_get, if_neg (by omega), ju_get, if_neg (by omega)]; exact ff1 q j b1 b2)
      have fn2 : ∀ q j, 73 ≤ q → q ≤ 75 → j ≠ i → I2 q j = I q j := fun q j b1 b2 b3 => (r3 q j (by omega) (by omega)).trans (by rw [ju_get, if_neg (fun h => b3 h.2), ju_get, if_neg (by omega)]; exact fn1 q j b1 b2 b3)
      have u23 : ju (ju I1 74 i (nI o.length)) 58 20 (ju I1 74 i (nI o.length) 58 20 + 1) 58 23 = nI i := g23
      have u22 : ju (ju I1 74 i (nI o.length)) 58 20 (ju I1 74 i (nI o.length) 58 20 + 1) 58 22 = nI (o ++ (rdE k ta (rdO k ta 6) p).2.2).length := f2.2.2.2.1
      rw [if_pos h63, if_pos h63]
      simp only [Option.bind_some, jps]
      rw [jb_198_46, jt_2, cond_false, u23, hjn, cond_true, hcl, u22, r1]
      simp only [Option.bind_some, jps]
      rw [jb_198_66]
      by_cases hb2 : (rdE k ta (rdO k ta 6) ((rdE k ta (rdO k ta 6) p).2.1 + 1)).1 = true
      · unfold rsM at r2
        rw [if_pos hb2] at r2
        have w23 : I2 58 23 = nI i := (r3 58 23 (by omega) (by omega)).trans (by rw [ju_get, if_neg (by omega)]; exact u23)
        obtain ⟨e1, e2⟩ := hfin I2 _ _ w23 r2
        rw [if_pos hb2, if_pos hb2, jt_1, cond_true]
        refine ⟨_, e1, ?_, fun q j b1 b2 => ?_, fun q j b1 b2 b3 => ?_⟩
        · rw [if_pos rfl]
          refine ⟨by rw [← List.append_assoc]; exact e2, ?_, ?_, ?_, ?_⟩
          · rw [ju_get, if_neg (by omega), ju_get, if_pos ⟨rfl, rfl⟩]
          · rw [ju_get, if_neg (by omega), ju_get, if_neg (by omega), r3 73 i (by omega) (by omega), ju_get, if_neg (by omega), ju_get, if_neg (by omega), ju_get, if_neg (by omega)]
            exact g73
          · rw [ju_get, if_neg (by omega), ju_get, if_neg (by omega), r3 74 i (by omega) (by omega), ju_get, if_pos ⟨rfl, rfl⟩, List.length_append]
          · rw [ju_get, if_pos ⟨rfl, rfl⟩, List.length_append, List.length_append]
        · rw [ju_get, if_neg (by omega), ju_get, if_neg (by omega)]
          exact ff2 q j b1 b2
        · rw [ju_get, if_neg (fun h => b3 h.2), ju_get, if_neg (by omega)]
          exact fn2 q j b1 b2 b3
      · unfold rsM at r2
        rw [if_neg hb2] at r2
        rw [if_neg hb2, if_neg hb2]
        exact ⟨I2, rfl, by rw [if_neg (by simp)]; exact r2, ff2, fn2⟩
    · obtain ⟨e1, e2⟩ := hfin (ju I1 74 i (nI o.length)) _ _ (by rw [ju_get, if_neg (by omega)]; exact g23) st1
      rw [if_neg h63, if_neg h63]
      simp only [Option.bind_some, jps]
      rw [jb_198_46, jt_4, cond_true]
      refine ⟨_, e1, ?_, fun q j b1 b2 => ?_, fun q j b1 b2 b3 => ?_⟩
      · rw [if_pos trivial]
        refine ⟨e2, ?_, ?_, ?_, ?_⟩
        · rw [ju_get, if_neg (by omega), ju_get, if_pos ⟨rfl, rfl⟩]
        · rw [ju_get, if_neg (by omega), ju_get, if_neg (by omega), ju_get, if_neg (by omega)]
          exact g73
        · rw [ju_get, if_neg (by omega), ju_get, if_neg (by omega), ju_get, if_pos ⟨rfl, rfl⟩]
          rfl
        · rw [ju_get, if_pos ⟨rfl, rfl⟩, List.length_append]
          rfl
      · rw [ju_get, if_neg (by omega), ju_get, if_neg (by omega)]
        exact ff1 q j b1 b2
      · rw [ju_get, if_neg (fun h => b3 h.2), ju_get, if_neg (by omega)]
        exact fn1 q j b1 b2 b3
  · unfold rsM at f2
    rw [if_neg hb] at f2
    rw [if_neg hb, if_neg hb, jt_3, cond_false]
    exact ⟨I1, rfl, by rw [if_neg (by simp)]; exact f2, ff, fn⟩
/-- a further line comes -/
theorem rt_line {l : List aLn} {b : Bool} {p' : Nat} (ho : rtOk k (b, p', l)) (hb : b = true) (hl : lnN I 0 0 l) (hf : ∀ q j, 73 ≤ q → q ≤ 75 → j ≠ l.length → I' q j = I q j) (h : if (rdLn k ta p).1 = true then stM k ta 6 (rdLn k ta p).2.1 (flL l ++ ((rdLn k ta p).2.2.1 ++ (rdLn k ta p).2.2.2)) I' ∧ I' 58 23 = nI (l.length + 1) ∧ I' 73 l.length = nI (flL l).length ∧ I' 74 l.length = nI ((flL l).length + (rdLn k ta p).2.2.1.length) ∧ I' 75 l.length = nI ((flL l).length + (rdLn k ta p).2.2.1.length + (rdLn k ta p).2.2.2.length) else wkM k ta (rdLn k ta p).2.1 I') : rtM k ta ((rdLn k ta p).1, (rdLn k ta p).2.1, l ++ [(rdLn k ta p).2.2]) I' := by
  unfold rtM
  by_cases hc : (rdLn k ta p).1 = true
  · rw [if_pos hc] at h ⊢
    obtain ⟨h1, h2, h3, h4, h5⟩ := h
    refine ⟨?_, ?_, ?_⟩
    · show stM k ta 6 (rdLn k ta p).2.1 (flL (l ++ [(rdLn k ta p).2.2])) I'
      rw [flL_app]
      show stM k ta 6 (rdLn k ta p).2.1 (flL l ++ ((rdLn k ta p).2.2.1 ++ ((rdLn k ta p).2.2.2 ++ []))) I'
      rw [List.append_nil]
      exact h1
    · show I' 58 23 = nI (l ++ [(rdLn k ta p).2.2]).length
      rw [List.length_append]
      exact h2
    · show lnN I' 0 0 (l ++ [(rdLn k ta p).2.2])
      rw [lnN_app]
      refine ⟨lnN_fr l 0 0 (fun q j a1 a2 a3 => hf q j a1 a2 (by omega)) hl, ?_⟩
      rw [Nat.zero_add, Nat.zero_add, ← flL_len]
      exact ⟨h3, h4, h5, trivial⟩
  · rw [if_neg hc] at h ⊢
    exact h
theorem fl_le {l : List aLn} (ho : rtOk k (true, p, l)) (hl : l ≠ []) : (flL l).length ≤ p := by
  obtain ⟨-, h2⟩ := ho
  obtain ⟨h3, h4, h5⟩ := h2 rfl
  have h3 : (fC l).length ≤ p + 1 := h3
  have := szL_fC l
  have := List.length_pos_iff.mpr hl
  rw [flL_len]
  omega
theorem q_199l (hk : k ≤ 120) (hd : 60 ≤ d) : ∀ (f : Nat) (b : Bool) (p : Nat) (l : List aLn) (I : Nat → Nat → Int32), l ≠ [] → k ≤ p + f → rtOk k (b, p, l) → rtM k ta (b, p, l) I → ∃ I', jat d 199 25 [.ref 58, .int (if b = true then 1 else 0), .null, .null] [] (jmk I L c e) = jat d 199 46 [.ref 58, .int (if (rdT k ta f b p l).1 = true then 1 else 0), .null, .null] [] (jmk I' L c e) ∧ rtM k ta (rdT k ta f b p l) I' ∧ frL I I' := by
  intro f
  induction f with
  | zero =>
    intro b p l I hl hf ho hr
    refine ⟨I, ?_, hr, fun _ _ _ _ => rfl⟩
    rw [jb_199_25]
    cases b with
    | false => rfl
    | true =>
      have hst := (show stM k ta 6 p (flL l) I ∧ I 58 23 = nI l.length ∧ lnN I 0 0 l from hr).1
      have hp : p ≤ k := ho.1
      have hno : ¬ sg k ta p = 59 := fun q => absurd (sg_lt (k := k) (ta := ta) (p := p) (by rw [q]; decide)) (by omega)
      rw [if_pos rfl, jt_2, cond_false, q_188 hst.1 hst.2.1 (by omega), if_neg hno]
      simp only [Option.bind_some, jps]
      rw [jb_199_35]
      rfl
  | succ f ih =>
    intro b p l I hl hf ho hr
    rw [jb_199_25]
    unfold rdT
    cases b with
    | false =>
      rw [if_neg (by simp)]
      exact ⟨I, rfl, hr, fun _ _ _ _ => rfl⟩
    | true =>
      obtain ⟨hst, h23, hln⟩ := show stM k ta 6 p (flL l) I ∧ I 58 23 = nI l.length ∧ lnN I 0 0 l from hr
      have hp : p ≤ k := ho.1
      obtain ⟨h2, h3, h4⟩ := ho.2 rfl
      have h3 : 2 * l.length ≤ p + 1 := h3
      rw [if_pos rfl, jt_2, cond_false, q_188 hst.1 hst.2.1 (by omega)]
      by_cases h59 : sg k ta p = 59
      · have hlt := sg_lt (k := k) (ta := ta) (p := p) (by rw [h59]; decide)
        have hfl := fl_le ho hl
        obtain ⟨I1, f1, f2, f3, f4⟩ := q_198 (p := p + 1) (o := flL l) (i := l.length) (I := ju I 58 20 (I 58 20 + 1)) (d := d) (L := L) (c := c) (e := e) hk hd hlt (by omega) (by omega) (by rw [ju_get, if_neg (by omega)]; exact h23) (sm_next hst)
        have hand : true = true ∧ sg k ta p = 59 := ⟨rfl, h59⟩
        rw [if_pos h59, if_pos hand]
        simp only [Option.bind_some, jps]
        rw [jb_199_35, jt_2, cond_false, f1]
        simp only [Option.bind_some, jps]
        rw [jb_199_42]
        have hr2 := rt_line (I := I) (I' := I1) ho rfl hln (fun q j a1 a2 a3 => (f4 q j a1 a2 a3).trans (by rw [ju_get, if_neg (by omega)])) f2
        have ho2 : rtOk k ((rdLn k ta (p + 1)).1, (rdLn k ta (p + 1)).2.1, l ++ [(rdLn k ta (p + 1)).2.2]) := by
          have := rdT_ok (k := k) (ta := ta) 1 true p l ho
          unfold rdT at this
          rw [if_pos hand] at this
          exact this
        have hlen := (rdLn_ok (k := k) (ta := ta) (p := p + 1) hlt).2.1
        obtain ⟨I2, r1, r2, r3⟩ := ih _ _ _ I1 (by simp) (by omega) ho2 hr2
        exact ⟨I2, r1, r2, fun q j a1 a2 => (r3 q j a1 a2).trans ((f3 q j a1 a2).trans (by rw [ju_get, if_neg (by omega)]))⟩
      · have hno : ¬ (true = true ∧ sg k ta p = 59) := fun q => h59 q.2
        rw [if_neg h59, if_neg hno]
        simp only [Option.bind_some, jps]
        rw [jb_199_35]
        exact ⟨I, rfl, hr, fun _ _ _ _ => rfl⟩
/-- three rows copied as far as t -/
def cp3 (I : Nat → Nat → Int32) (t : Nat) : Nat → Nat → Int32 := fun q j => if q = 69 ∧ j < t then I 73 j else if q = 70 ∧ j < t then I 74 j else if q = 71 ∧ j < t then I 75 j else I q j
theorem cp3_0 : cp3 I 0 = I := by
  funext q j
  unfold cp3
  rw [if_neg (by omega), if_neg (by omega), if_neg (by omega)]
theorem cp3_1 {t : Nat} : ju (ju (ju (cp3 I t) 69 t (cp3 I t 73 t)) 70 t (cp3 I t 74 t)) 71 t (cp3 I t 75 t) = cp3 I (t + 1) := by
  have h73 : cp3 I t 73 t = I 73 t := rfl
  have h74 : cp3 I t 74 t = I 74 t := rfl
  have h75 : cp3 I t 75 t = I 75 t := rfl
  rw [h73, h74, h75]
  funext q j
  unfold ju cp3
  by_cases h1 : q = 69
  · subst h1
    by_cases hj : j = t
    · subst hj; simp
    · by_cases hl : j < t
      · have : j < t + 1 := by omega
        simp [hj, hl, this]
      · have : ¬ j < t + 1 := by omega
        simp [hj, hl, this]
  · by_cases h2 : q = 70
    · subst h2
      by_cases hj : j = t
      · subst hj; simp
      · by_cases hl : j < t
        · have : j < t + 1 := by omega
          simp [hj, hl, this]
        · have : ¬ j < t + 1 := by omega
          simp [hj, hl, this]
    · by_cases h3 : q = 71
      · subst h3
        by_cases hj : j = t
        · subst hj; simp
        · by_cases hl : j < t
          · have : j < t + 1 := by omega
            simp [hj, hl, this]
          · have : ¬ j < t + 1 := by omega
            simp [hj, hl, this]
      · simp [h1, h2, h3]
theorem lnM_of : ∀ (l : List aLn) (i o : Nat) (I' : Nat → Nat → Int32), (∀ q j, 73 ≤ q → q ≤ 75 → j < i + l.length → I' (q - 4) j = I q j) → cdAt 72 I' o ((flL l).map nI) → lnN I i o l → lnM I' i o l := by
  intro l
  induction l with
  | nil => intro i o I' _ _ _; trivial
  | cons x l ih =>
    obtain ⟨a, b⟩ := x
    intro i o I' hf hc h
    rw [List.length_cons] at hf
    obtain ⟨h1, h2, h3, h4⟩ := h
    have hc : cdAt 72 I' o ((a ++ (b ++ flL l)).map nI) := hc
    rw [List.map_append, List.map_append, cdAt_app, cdAt_app, List.length_map, List.length_map] at hc
    exact ⟨(hf 73 i (by decide) (by decide) (by omega)).trans h1, (hf 74 i (by decide) (by decide) (by omega)).trans h2, (hf 75 i (by decide) (by decide) (by omega)).trans h3, hc.1, hc.2.1, ih _ _ _ (fun q j a1 a2 a3 => hf q j a1 a2 (by omega)) hc.2.2 h4⟩
theorem cdAt_cp {q : Nat} : ∀ (l : List Int32) (i : Nat) (I' : Nat → Nat → Int32), (∀ j, j < i + l.length → I' q j = I 76 j) → cdAt 76 I i l → cdAt q I' i l := by
  intro l
  induction l with
  | nil => intro i I' _ _; trivial
  | cons a l ih =>
    intro i I' hf h
    rw [List.length_cons] at hf
    exact ⟨(hf i (by omega)).trans h.1, ih _ _ (fun j hj => hf j (by omega)) h.2⟩
theorem rdT_ne : ∀ (f : Nat) (b : Bool) (p : Nat) (l : List aLn), l ≠ [] → (rdT k ta f b p l).2.2 ≠ [] := by
  intro f
  induction f with
  | zero => intro b p l h; exact h
  | succ f ih =>
    intro b p l h
    unfold rdT
    by_cases hc : b = true ∧ sg k ta p = 59
    · rw [if_pos hc]
      exact ih _ _ _ (by simp)
    · rw [if_neg hc]
      exact h
theorem m_law (hd : 60 ≤ d) (ht : taM k ta I) (hl : lwM lw I) : ∃ I', jev d 199 [.ref 58] (jmk I L c e) = some (some (.int (opLaw k ta lw).1), jmk I' L c e) ∧ lwM (opLaw k ta lw).2 I' ∧ taM 0 ta I' ∧ ∀ q j, ¬ (q = 58 ∧ 12 ≤ j ∧ j ≤ 23) → (q < 69 ∨ 76 < q) → I' q j = I q j := by
  have hk := ht.1
  have hst : stM k ta 6 0 [] (ju (ju (ju (ju I 58 20 0) 58 21 0) 58 22 0) 58 23 0) := ⟨⟨ht.1, ht.2.1, ht.2.2⟩, rfl, rfl, rfl, trivial⟩
  obtain ⟨I1, f1, f2, f3, f4⟩ := q_198 (i := 0) (d := d) (L := L) (c := c) (e := e) hk hd (Nat.zero_le k) (Nat.zero_le _) (by decide) rfl hst
  have hr1 : rtM k ta ((rdLn k ta 0).1, (rdLn k ta 0).2.1, [(rdLn k ta 0).2.2]) I1 := rt_line (l := []) (b := true) (p' := 0) (I := I) ⟨Nat.zero_le k, fun _ => ⟨by decide, by decide, fun u hu => absurd hu (by simp)⟩⟩ rfl trivial (fun q j a1 a2 a3 => (f4 q j a1 a2 a3).trans (by rw [ju_get, if_neg (by omega), ju_get, if_neg (by omega), ju_get, if_neg (by omega), ju_get, if_neg (by omega)])) f2
  obtain ⟨I2, g1, g2, g3⟩ := q_199l (d := d) (L := L) (c := c) (e := e) hk hd 120 _ _ _ I1 (by simp) (by omega) rdAll_ok0 hr1
  have ff : frL I I2 := fun q j u1 u2 => (g3 q j u1 u2).trans ((f3 q j u1 u2).trans (by rw [ju_get, if_neg (by omega), ju_get, if_neg (by omega), ju_get, if_neg (by omega), ju_get, if_neg (by omega)]))
  have g2 : rtM k ta (rdAll k ta) I2 := g2
  obtain ⟨z1, z2⟩ := rdAll_ok (k := k) (ta := ta)
  have ht2 : taM k ta I2 := by
    unfold rtM at g2
    by_cases hb : (rdAll k ta).1 = true
    · rw [if_pos hb] at g2; exact g2.1.1
    · rw [if_neg hb] at g2; exact g2.1
  have hp2 : I2 58 20 = nI (rdAll k ta).2.1 := by
    unfold rtM at g2
    by_cases hb : (rdAll k ta).1 = true
    · rw [if_pos hb] at g2; exact g2.1.2.1
    · rw [if_neg hb] at g2; exact g2.2
  have h46 : jev d 199 [.ref 58] (jmk I L c e) = jat d 199 66 [.ref 58, .int (if (rdAll k ta).1 = true then 1 else 0), .null, .null] [.int (if (rdAll k ta).1 = true ∧ (rdAll k ta).2.1 = k then 1 else 0)] (jmk I2 L c e) := by
    rw [jb_199_0, f1]
    simp only [Option.bind_some, jps]
    rw [jb_199_24, g1]
    show jat d 199 46 [.ref 58, .int (if (rdAll k ta).1 = true then 1 else 0), .null, .null] [] (jmk I2 L c e) = _
    rw [jb_199_46, hp2, ht2.2.1]
    by_cases hb : (rdAll k ta).1 = true
    · rw [if_pos hb, jt_2, cond_false]
      by_cases hpk : (rdAll k ta).2.1 = k
      · have hand : (rdAll k ta).1 = true ∧ (rdAll k ta).2.1 = k := ⟨hb, hpk⟩
        rw [if_pos hand, hpk, decide_eq_false (fun q => q rfl), cond_false]
      · have hno : ¬ ((rdAll k ta).1 = true ∧ (rdAll k ta).2.1 = k) := fun q => hpk q.2
        rw [if_neg hno, decide_eq_true (by rw [nI_eq (by omega) (by omega)]; exact hpk), cond_true, jb_199_65]
    · have hno : ¬ ((rdAll k ta).1 = true ∧ (rdAll k ta).2.1 = k) := fun q => hb q.1
      rw [if_neg hb, if_neg hno, jt_4, cond_true, jb_199_65]
  rw [h46]
  unfold opLaw
  by_cases hso : (rdAll k ta).1 = true ∧ (rdAll k ta).2.1 = k
  · unfold rtM at g2
    rw [if_pos hso.1] at g2
    obtain ⟨s1, s2, s3⟩ := g2
    obtain ⟨z3, z4, z5⟩ := z2 hso.1
    have hsz := szL_fC (rdAll k ta).2.2
    have hne : (rdAll k ta).2.2 ≠ [] := rdT_ne _ _ _ _ (by simp)
    have hlp := List.length_pos_iff.mpr hne
    rw [if_pos hso, if_pos hso, jb_199_66, jt_1, cond_true, s2]
    generalize (rdAll k ta).2.2 = lw' at *
    have hN : lw'.length ≤ 60 := by omega
    have hI3 : ∀ q j, q ≠ 58 → ju (ju (ju I2 58 12 0) 58 14 1) 58 15 (nI lw'.length) q j = I2 q j := by
      intro q j hq
      simp [ju_get, hq]
    have e15 : ju (ju (ju I2 58 12 0) 58 14 1) 58 15 (nI lw'.length) 58 15 = nI lw'.length := rfl
    have e14 : ju (ju (ju I2 58 12 0) 58 14 1) 58 15 (nI lw'.length) 58 14 = 1 := rfl
    have e12 : ju (ju (ju I2 58 12 0) 58 14 1) 58 15 (nI lw'.length) 58 12 = 0 := rfl
    have e22 : ju (ju (ju I2 58 12 0) 58 14 1) 58 15 (nI lw'.length) 58 22 = nI (flL lw').length := s1.2.2.2.1
    have eo : ∀ j, ¬ (12 ≤ j ∧ j ≤ 23) → ju (ju (ju I2 58 12 0) 58 14 1) 58 15 (nI lw'.length) 58 j = I2 58 j := by
      intro j hj
      rw [ju_get, if_neg (by omega), ju_get, if_neg (by omega), ju_get, if_neg (by omega)]
    generalize ju (ju (ju I2 58 12 0) 58 14 1) 58 15 (nI lw'.length) = I3 at hI3 e15 e14 e12 e22 eo
    have l1 := jloop (N := lw'.length) (fun t => jat d 199 99 [.ref 58, .int (if (rdAll k ta).1 = true then 1 else 0), .int 1, .int (nI t)] [] (jmk (cp3 I3 t) L c e)) (fun t ht => by
      show jat d 199 99 [.ref 58, .int (if (rdAll k ta).1 = true then 1 else 0), .int 1, .int (nI t)] [] (jmk (cp3 I3 t) L c e) = jat d 199 99 [.ref 58, .int (if (rdAll k ta).1 = true then 1 else 0), .int 1, .int (nI (t + 1))] [] (jmk (cp3 I3 (t + 1)) L c e)
      have e1 : cp3 I3 t 58 15 = nI lw'.length := e15
      have j60 : decide (jin (nI t) 60) = true := jdI (by omega)
      have j61 : decide (jin (nI t) 61) = true := jdI (by omega)
      rw [jb_199_99, e1, decide_eq_false (by rw [nI_leI (by omega) (by omega)]; omega), cond_false, j60, j61]
      simp only [cond_true]
      rw [jcl' (by omega), nI_1, cp3_1])
    have hso1 : (rdAll k ta).1 = true := hso.1
    simp only [cp3_0] at l1
    have hfl : (flL lw').length ≤ 120 := by
      rw [flL_len]
      omega
    have l2 := jloop (N := (flL lw').length) (fun t => jat d 199 151 [.ref 58, .int (if (rdAll k ta).1 = true then 1 else 0), .int 1, .int (nI t)] [] (jmk (cpI (cp3 I3 lw'.length) 76 72 t) L c e)) (fun t ht => by
      show jat d 199 151 [.ref 58, .int (if (rdAll k ta).1 = true then 1 else 0), .int 1, .int (nI t)] [] (jmk (cpI (cp3 I3 lw'.length) 76 72 t) L c e) = jat d 199 151 [.ref 58, .int (if (rdAll k ta).1 = true then 1 else 0), .int 1, .int (nI (t + 1))] [] (jmk (cpI (cp3 I3 lw'.length) 76 72 (t + 1)) L c e)
      have e1 : cpI (cp3 I3 lw'.length) 76 72 t 58 22 = nI (flL lw').length := e22
      have j60 : decide (jin (nI t) 200) = true := jdI (by omega)
      rw [jb_199_151, e1, decide_eq_false (by rw [nI_leI (by omega) (by omega)]; omega), cond_false, j60]
      simp only [cond_true]
      rw [jcl' (by omega), nI_1, cp_1 (by decide)])
    simp only [cp_0] at l2
    refine ⟨cpI (cp3 I3 lw'.length) 76 72 (flL lw').length, ?_, ?_, ⟨by decide, e12, fun i hi => absurd hi (Nat.not_lt_zero i)⟩, fun q j u1 u2 => ?_⟩
    · rw [show jat d 199 99 [.ref 58, .int (if (rdAll k ta).1 = true then 1 else 0), .int 1, .int 0] [] (jmk I3 L c e) = _ from l1, jb_199_99, show cp3 I3 lw'.length 58 15 = nI lw'.length from e15, decide_eq_true (by rw [nI_leI (by omega) (by omega)]; exact Nat.le_refl _), cond_true, show jat d 199 151 [.ref 58, .int (if (rdAll k ta).1 = true then 1 else 0), .int 1, .int 0] [] (jmk (cp3 I3 lw'.length) L c e) = _ from l2, jb_199_151, show cpI (cp3 I3 lw'.length) 76 72 (flL lw').length 58 22 = nI (flL lw').length from e22, decide_eq_true (by rw [nI_leI (by omega) (by omega)]; exact Nat.le_refl _), cond_true]
    · unfold lwM
      rw [if_neg hne]
      refine ⟨e14, e15, lnM_of lw' 0 0 _ (I := I3) (fun q j a1 a2 a3 => ?_) (cdAt_cp (I := I3) _ 0 _ (fun j hj => ?_) (cdAt_fr (fun j _ _ => hI3 76 j (by decide)) s1.2.2.2.2)) (lnN_fr lw' 0 0 (fun q j a1 a2 a3 => hI3 q j (by omega)) s3)⟩
      · have hq : q = 73 ∨ q = 74 ∨ q = 75 := by omega
        have hj : j < lw'.length := by omega
        rcases hq with rfl | rfl | rfl
        · show cp3 I3 lw'.length 69 j = _
          unfold cp3
          rw [if_pos ⟨rfl, hj⟩]
        · show cp3 I3 lw'.length 70 j = _
          unfold cp3
          rw [if_neg (by omega), if_pos ⟨rfl, hj⟩]
        · show cp3 I3 lw'.length 71 j = _
          unfold cp3
          rw [if_neg (by omega), if_neg (by omega), if_pos ⟨rfl, hj⟩]
      · rw [List.length_map] at hj
        unfold cpI
        rw [if_pos ⟨rfl, by omega⟩]
        rfl
    · have e1 : cpI (cp3 I3 lw'.length) 76 72 (flL lw').length q j = cp3 I3 lw'.length q j := by
        unfold cpI
        rw [if_neg (by omega)]
      have e2 : cp3 I3 lw'.length q j = I3 q j := by
        unfold cp3
        rw [if_neg (by omega), if_neg (by omega), if_neg (by omega)]
      rw [e1, e2]
      by_cases hq : q = 58
      · subst hq
        rw [eo j (by omega)]
        exact ff 58 j (by omega) (by omega)
      · rw [hI3 q j hq]
        exact ff q j (by omega) (by omega)
  · rw [if_neg hso, if_neg hso, jb_199_66, jt_3, cond_false, hp2]
    refine ⟨ju I2 58 12 0, rfl, ?_, ⟨by decide, rfl, fun i hi => absurd hi (Nat.not_lt_zero i)⟩, fun q j u1 u2 => ?_⟩
    · have e14 : ju I2 58 12 0 58 14 = I 58 14 := ff 58 14 (by omega) (by omega)
      have e15 : ju I2 58 12 0 58 15 = I 58 15 := ff 58 15 (by omega) (by omega)
      show lwM lw (ju I2 58 12 0)
      unfold lwM at hl ⊢
      rw [e14, e15]
      by_cases h0 : lw = []
      · rw [if_pos h0] at hl ⊢
        exact hl
      · rw [if_neg h0] at hl ⊢
        exact ⟨hl.1, hl.2.1, lnM_fr lw 0 0 (fun q j a1 a2 => by rw [ju_get, if_neg (by omega)]; exact ff q j (by omega) (by omega)) hl.2.2⟩
    · rw [ju_get, if_neg (by omega)]
      exact ff q j (by omega) (by omega)
end LWM
