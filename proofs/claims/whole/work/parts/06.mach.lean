/-! the abstract machine -/
def jY (k : Nat) : MethodName := (jM k).1
def jB (k : Nat) : ByteArray := (jM k).2.1
def jL (k : Nat) : Nat := (jM k).2.2.1
def jT (k : Nat) : Option FieldType := (jM k).2.2.2.1
def jrk (k : Nat) : Nat := (jM k).2.2.2.2.1
def jI (k pc : Nat) : Option jE := (jM k).2.2.2.2.2.1 pc
/-- what a field answers -/
def jfv (m : jH) (p a b : Nat) : Option Value :=
  match jF a b with
  | 0 => some (.int (m.1 p b))
  | 2 => some (.int (m.1 p b))
  | 1 => bif Nat.blt (jO a b) m.2.2.2.2.2 then some (.ref (jR a b)) else none
  | 3 => bif Nat.beq m.2.2.1 0 then none else some (.ref m.2.2.1)
  | 4 => bif Nat.beq m.2.2.2.1 0 then none else some (.ref m.2.2.2.1)
  | _ => none
/-- what a field becomes: a guard, the new store -/
def jfp (m : jH) (p a b q : Nat) (v : Value) : Option (Bool × jH) :=
  match jF a b, v with
  | 0, .int x => some (true, ju m.1 p b x, m.2)
  | 2, .int x => some (decide (x &&& 1 = x), ju m.1 p b x, m.2)
  | 1, .ref r => bif Nat.beq r (jR a b) && (Nat.beq (jO a b) m.2.2.2.2.2 && (Nat.beq q 1 && Nat.blt r m.2.2.2.2.1)) then some (true, m.1, m.2.1, m.2.2.1, m.2.2.2.1, m.2.2.2.2.1, m.2.2.2.2.2 + 1) else none
  | 3, .ref r => match jK r with
    | (0, _) => bif Nat.blt r m.2.2.2.2.1 && Nat.blt 0 r then some (true, m.1, m.2.1, r, m.2.2.2) else none
    | _ => none
  | 4, .ref r => match jK r with
    | (0, _) => bif Nat.blt r m.2.2.2.2.1 && Nat.blt 0 r then some (true, m.1, m.2.1, m.2.2.1, r, m.2.2.2.2) else none
    | _ => none
  | _, _ => none
/-- the object's place, and its class is this -/
def jis (m : jH) (p c : Nat) : Bool := Nat.beq p (jP c) && (Nat.blt p m.2.2.2.2.1 && Nat.blt c 13)
def jcall (k' : Nat) (args : List Value) (m : jH) (pc : Nat) (ls st : List Value) : Option jA :=
  bif Nat.ble (jen args).length (jL k') && Nat.ble (st.length * 2) 8 then some (.inr (.inl (k', args, m, pc, ls, st))) else none
/-- none of the class's references is set -/
def jbk (m : jH) (c : Nat) : Bool := (List.range (jNF c)).all (fun j => match jF c j with
  | 1 => Nat.ble m.2.2.2.2.2 (jO c j)
  | 3 => Nat.beq m.2.2.1 0
  | 4 => Nat.beq m.2.2.2.1 0
  | _ => true)
/-- what the instruction at pc does -/
def jact (k pc : Nat) (ls st : List Value) (m : jH) : Option jA :=
  match jI k pc with
  | none => none
  | some (i, n, a, b, _, q, kd, w, z, sw) =>
    match i with
    | .iconst _ | .bipush _ | .sipush _ | .ldc _ | .ldc_w _ => jg (pc + n) ls (.int w :: st) m
    | .lconst _ | .ldc2_w _ => jg (pc + n) ls (.long z :: st) m
    | .iload_n _ | .iload _ => match ls[a]? with
      | some (.int x) => jg (pc + n) ls (.int x :: st) m
      | _ => none
    | .lload_n _ | .lload _ => match ls[a]? with
      | some (.long x) => jg (pc + n) ls (.long x :: st) m
      | _ => none
    | .aload_n _ | .aload _ => match ls[a]? with
      | some (.ref x) => jg (pc + n) ls (.ref x :: st) m
      | _ => none
    | .istore_n _ | .istore _ => match st with
      | .int x :: r => match jst ls a (.int x) with
        | some ls' => jg (pc + n) ls' r m
        | none => none
      | _ => none
    | .astore_n _ | .astore _ => match st with
      | .ref x :: r => match jst ls a (.ref x) with
        | some ls' => jg (pc + n) ls' r m
        | none => none
      | _ => none
    | .lstore_n _ | .lstore _ => match st with
      | .long x :: r => match jstl ls a x with
        | some ls' => jg (pc + n) ls' r m
        | none => none
      | _ => none
    | .iinc _ _ => match ls[a]? with
      | some (.int x) => match jst ls a (.int (x + w)) with
        | some ls' => jg (pc + n) ls' st m
        | none => none
      | _ => none
    | .iadd => match st with | .int y :: .int x :: r => jg (pc + n) ls (.int (x + y) :: r) m | _ => none
    | .isub => match st with | .int y :: .int x :: r => jg (pc + n) ls (.int (x - y) :: r) m | _ => none
    | .imul => match st with | .int y :: .int x :: r => jg (pc + n) ls (.int (x * y) :: r) m | _ => none
    | .iand => match st with | .int y :: .int x :: r => jg (pc + n) ls (.int (x &&& y) :: r) m | _ => none
    | .ior => match st with | .int y :: .int x :: r => jg (pc + n) ls (.int (x ||| y) :: r) m | _ => none
    | .ixor => match st with | .int y :: .int x :: r => jg (pc + n) ls (.int (x ^^^ y) :: r) m | _ => none
    | .idiv => match st with | .int y :: .int x :: r => jgg (decide (¬ y = 0)) (pc + n) ls (.int (x / y) :: r) m | _ => none
    | .irem => match st with | .int y :: .int x :: r => jgg (decide (¬ y = 0)) (pc + n) ls (.int (x - x / y * y) :: r) m | _ => none
    | .ishl => match st with | .int y :: .int x :: r => jg (pc + n) ls (.int (x <<< (y &&& 31)) :: r) m | _ => none
    | .ishr => match st with | .int y :: .int x :: r => jg (pc + n) ls (.int (x >>> (y &&& 31)) :: r) m | _ => none
    | .iushr => match st with | .int y :: .int x :: r => jg (pc + n) ls (.int (x.toUInt32 >>> (y.toUInt32 &&& Int32.toUInt32 31)).toInt32 :: r) m | _ => none
    | .ineg => match st with | .int x :: r => jg (pc + n) ls (.int (-x) :: r) m | _ => none
    | .i2l => match st with | .int x :: r => jg (pc + n) ls (.long x.toInt64 :: r) m | _ => none
    | .l2i => match st with | .long x :: r => jg (pc + n) ls (.int x.toInt32 :: r) m | _ => none
    | .i2b => match st with | .int x :: r => jg (pc + n) ls (.int x.toInt8.toInt32 :: r) m | _ => none
    | .i2s => match st with | .int x :: r => jg (pc + n) ls (.int x.toInt16.toInt32 :: r) m | _ => none
    | .ladd => match st with | .long y :: .long x :: r => jg (pc + n) ls (.long (x + y) :: r) m | _ => none
    | .lmul => match st with | .long y :: .long x :: r => jg (pc + n) ls (.long (x * y) :: r) m | _ => none
    | .land => match st with | .long y :: .long x :: r => jg (pc + n) ls (.long (x &&& y) :: r) m | _ => none
    | .lor => match st with | .long y :: .long x :: r => jg (pc + n) ls (.long (x ||| y) :: r) m | _ => none
    | .lshl => match st with | .int y :: .long x :: r => jg (pc + n) ls (.long (x <<< (y.toInt64 &&& 63)) :: r) m | _ => none
    | .lshr => match st with | .int y :: .long x :: r => jg (pc + n) ls (.long (x >>> (y.toInt64 &&& 63)) :: r) m | _ => none
    | .lcmp => match st with | .long y :: .long x :: r => jg (pc + n) ls (.int (lg_cmp x y) :: r) m | _ => none
    | .dup => match st with
      | .int x :: r => jg (pc + n) ls (.int x :: .int x :: r) m
      | .ref x :: r => jg (pc + n) ls (.ref x :: .ref x :: r) m
      | _ => none
    | .dup2 => match st with
      | .int x :: .ref y :: r => jg (pc + n) ls (.int x :: .ref y :: .int x :: .ref y :: r) m
      | _ => none
    | .dup_x1 => match st with
      | .int x :: .ref y :: r => jg (pc + n) ls (.int x :: .ref y :: .int x :: r) m
      | _ => none
    | .pop => match st with
      | .int _ :: r => jg (pc + n) ls r m
      | .ref _ :: r => jg (pc + n) ls r m
      | _ => none
    | .goto _ => jg a ls st m
    | .ifCond c _ => match st with
      | .int x :: r => some (.inl (jcnd c x 0, a, some (pc + n), ls, r, m))
      | _ => none
    | .if_icmp c _ => match st with
      | .int y :: .int x :: r => some (.inl (jcnd c x y, a, some (pc + n), ls, r, m))
      | _ => none
    | .tableswitch _ _ _ _ | .lookupswitch _ _ => match st with
      | .int x :: r => jg (jsw x sw a) ls r m
      | _ => none
    | .getfield _ => match st with
      | .ref p :: r => bif jis m p a then (match jfv m p a b with
        | some v => jg (pc + n) ls (v :: r) m
        | none => none) else none
      | _ => none
    | .putfield _ => match st with
      | v :: .ref p :: r => bif jis m p a then (match jfp m p a b q v with
        | some (g, m') => jgg g (pc + n) ls r m'
        | none => none) else none
      | _ => none
    | .getstatic _ => jg (pc + n) ls (.ref a :: st) m
    | .iaload => match st with
      | .int i :: .ref p :: r => match jK p with
        | (0, len) => bif Nat.blt p m.2.2.2.2.1 then jgg (decide (jin i len)) (pc + n) ls (.int (m.1 p i.toNatClampNeg) :: r) m else none
        | (5, _) => jgg (decide (jin i (m.1 1001 0).toNatClampNeg)) (pc + n) ls (.int (m.1 1000 i.toNatClampNeg) :: r) m
        | (6, _) => jgg (decide (jin i 32)) (pc + n) ls (.int (jOWN i.toNatClampNeg) :: r) m
        | (7, _) => jgg (decide (jin i 8)) (pc + n) ls (.int (jABV i.toNatClampNeg) :: r) m
        | _ => none
      | _ => none
    | .baload => match st with
      | .int i :: .ref p :: r => match jK p with
        | (2, len) => bif Nat.blt p m.2.2.2.2.1 then jgg (decide (jin i len)) (pc + n) ls (.int (m.1 p i.toNatClampNeg) :: r) m else none
        | _ => none
      | _ => none
    | .laload => match st with
      | .int i :: .ref p :: r => match jK p with
        | (1, len) => bif Nat.blt p m.2.2.2.2.1 then jgg (decide (jin i len)) (pc + n) ls (.long (m.2.1 p i.toNatClampNeg) :: r) m else none
        | _ => none
      | .int i :: .float u :: r => bif Nat.blt 26 m.2.2.2.2.1 then jgg (decide (jin i 60) && decide (u.toNat < 6)) (pc + n) ls (.long (m.2.1 (21 + u.toNat) i.toNatClampNeg) :: r) m else none
      | _ => none
    | .aaload => match st with
      | .int i :: .ref p :: r => match jK p with
        | (3, len) => bif Nat.blt p m.2.2.2.2.1 then jgg (decide (jin i len)) (pc + n) ls (.float (UInt32.ofNat i.toNatClampNeg) :: r) m else none
        | _ => none
      | _ => none
    | .iastore => match st with
      | .int x :: .int i :: .ref p :: r => match jK p with
        | (0, len) => bif Nat.blt p m.2.2.2.2.1 then jgg (decide (jin i len)) (pc + n) ls r (ju m.1 p i.toNatClampNeg x, m.2) else none
        | _ => none
      | _ => none
    | .bastore => match st with
      | .int x :: .int i :: .ref p :: r => match jK p with
        | (2, len) => bif Nat.blt p m.2.2.2.2.1 then jgg (decide (jin i len)) (pc + n) ls r (ju m.1 p i.toNatClampNeg (x &&& 1), m.2) else none
        | _ => none
      | _ => none
    | .lastore => match st with
      | .long x :: .int i :: .ref p :: r => match jK p with
        | (1, len) => bif Nat.blt p m.2.2.2.2.1 then jgg (decide (jin i len)) (pc + n) ls r (m.1, ju m.2.1 p i.toNatClampNeg x, m.2.2) else none
        | _ => none
      | .long x :: .int i :: .float u :: r => bif Nat.blt 26 m.2.2.2.2.1 then jgg (decide (jin i 60) && decide (u.toNat < 6)) (pc + n) ls r (m.1, ju m.2.1 (21 + u.toNat) i.toNatClampNeg x, m.2.2) else none
      | _ => none
    | .arraylength => match st with
      | .ref p :: r => match jK p with
        | (0, len) => bif Nat.blt p m.2.2.2.2.1 then jg (pc + n) ls (.int (Int32.ofNat len) :: r) m else none
        | (5, _) => jg (pc + n) ls (.int (m.1 1001 0) :: r) m
        | _ => none
      | _ => none
    | .new _ => match jK m.2.2.2.2.1 with
      | (4, c) => bif Nat.beq c a && (Nat.blt c 13 && jbk m c) then jg (pc + n) ls (.ref m.2.2.2.2.1 :: st) (jz 0 m.1 m.2.2.2.2.1, m.2.1, m.2.2.1, m.2.2.2.1, m.2.2.2.2.1 + 1, m.2.2.2.2.2) else none
      | _ => none
    | .newarray ty => match st with
      | .int x :: r => match jK m.2.2.2.2.1, ty with
        | (0, len), .int => jgg (decide (x = Int32.ofNat len)) (pc + n) ls (.ref m.2.2.2.2.1 :: r) (jz 0 m.1 m.2.2.2.2.1, m.2.1, m.2.2.1, m.2.2.2.1, m.2.2.2.2.1 + 1, m.2.2.2.2.2)
        | (1, len), .long => jgg (decide (x = Int32.ofNat len)) (pc + n) ls (.ref m.2.2.2.2.1 :: r) (m.1, jz 0 m.2.1 m.2.2.2.2.1, m.2.2.1, m.2.2.2.1, m.2.2.2.2.1 + 1, m.2.2.2.2.2)
        | (2, len), .boolean => jgg (decide (x = Int32.ofNat len)) (pc + n) ls (.ref m.2.2.2.2.1 :: r) (jz 0 m.1 m.2.2.2.2.1, m.2.1, m.2.2.1, m.2.2.2.1, m.2.2.2.2.1 + 1, m.2.2.2.2.2)
        | _, _ => none
      | _ => none
    | .multianewarray _ _ => match st with
      | .int y :: .int x :: r => bif Nat.beq m.2.2.2.2.1 20 then jgg (decide (y = 60) && decide (x = 6)) (pc + n) ls (.ref 20 :: r) (m.1, (fun q j => if 21 ≤ q ∧ q < 27 then 0 else m.2.1 q j), m.2.2.1, m.2.2.2.1, 27, m.2.2.2.2.2) else none
      | _ => none
    | .invokevirtual _ => match jpop b st with
      | some (args, .ref p :: r) => bif jis m p q && Nat.beq kd 0 then jcall a (.ref p :: args) m (pc + n) ls r else none
      | _ => none
    | .invokestatic _ => match kd with
      | 3 => match st with
        | .int l :: .int dp :: .ref d :: .int sp :: .ref s :: r => match jK s, jK d with
          | (0, sl), (0, dl) => bif Nat.blt s m.2.2.2.2.1 && (Nat.blt d m.2.2.2.2.1 && (Nat.ble (r.length * 2) 8 && Nat.beq m.2.2.2.2.1 93)) then jgg (decide (0 ≤ sp.toInt ∧ 0 ≤ dp.toInt ∧ 0 ≤ l.toInt ∧ sp.toInt + l.toInt ≤ sl ∧ dp.toInt + l.toInt ≤ dl)) (pc + n) ls r (jcp m.1 s d sp.toNatClampNeg dp.toNatClampNeg l.toNatClampNeg, m.2) else none
          | _, _ => none
        | .int l :: .int dp :: .float d :: .int sp :: .float s :: r => bif Nat.blt 26 m.2.2.2.2.1 && (Nat.ble (r.length * 2) 8 && Nat.beq m.2.2.2.2.1 93) then jgg (decide (0 ≤ sp.toInt ∧ 0 ≤ dp.toInt ∧ 0 ≤ l.toInt ∧ sp.toInt + l.toInt ≤ 60 ∧ dp.toInt + l.toInt ≤ 60) && (decide (s.toNat < 6) && decide (d.toNat < 6))) (pc + n) ls r (m.1, jcp m.2.1 (21 + s.toNat) (21 + d.toNat) sp.toNatClampNeg dp.toNatClampNeg l.toNatClampNeg, m.2.2) else none
        | _ => none
      | 4 => match st with
        | .int y :: .int x :: r => bif Nat.ble (r.length * 2) 8 then jg (pc + n) ls (.int (if x < y then y else x) :: r) m else none
        | _ => none
      | 5 => match st with
        | .int y :: .int x :: r => bif Nat.ble (r.length * 2) 8 then jg (pc + n) ls (.int (if y < x then y else x) :: r) m else none
        | _ => none
      | _ => match jpop b st with
        | some (args, r) => jcall a args m (pc + n) ls r
        | _ => none
    | .invokespecial _ => match kd with
      | 2 => match st with
        | .ref _ :: r => bif Nat.ble (r.length * 2) 8 then jg (pc + n) ls r m else none
        | _ => none
      | _ => match jpop b st with
        | some (args, .ref p :: r) => bif jis m p q then jcall a (.ref p :: args) m (pc + n) ls r else none
        | _ => none
    | .ireturn => match st with
      | [.int x] => match jT k with
        | some .int => some (.inr (.inr (some (.int x), m)))
        | some .boolean => bif decide (x &&& 1 = x) then some (.inr (.inr (some (.int x), m))) else none
        | _ => none
      | _ => none
    | .lreturn => match st with
      | [.long x] => some (.inr (.inr (some (.long x), m)))
      | _ => none
    | .return_ => match st with
      | [] => some (.inr (.inr (none, m)))
      | _ => none
    | _ => none
def jstp (k pc : Nat) (ls st : List Value) (m : jH) (G : Nat → List Value → List Value → jH → Option jX) (CL : Nat → List Value → jH → Option jX) : Option jX :=
  match jact k pc ls st m with
  | none => none
  | some (.inl (g, p1, p2, ls', st', m')) => bif g then G p1 ls' st' m' else (match p2 with | none => none | some q => G q ls' st' m')
  | some (.inr (.inl (k', args, m', pc', ls', st'))) => (CL k' args m').bind fun r => G pc' ls' (jps r.1 st') r.2
  | some (.inr (.inr r)) => some r
def jent (k : Nat) (args : List Value) : List Value := jen args ++ List.replicate (jL k - (jen args).length) .null
/-- a call: of a lower rank at the same depth, else one deeper -/
def jcr (F : Nat → Nat → List Value → jH → Option jX) (d k k' : Nat) (args : List Value) (m : jH) : Option jX := if jrk k' < jrk k then F d k' args m else match d with
  | 0 => none
  | e + 1 => F e k' args m
def jrn : Nat → Nat → Nat → Nat → List Value → List Value → jH → Option jX
  | 0, _, _, _, _, _, _ => none
  | n + 1, d, k, pc, ls, st, m => jstp k pc ls st m (jrn n d k) (jcr (fun d k' args m' => jrn n d k' 0 (jent k' args) [] m') d k)
theorem jcr_mono {F F' : Nat → Nat → List Value → jH → Option jX} (h : ∀ d k args m r, F d k args m = some r → F' d k args m = some r) {d k k' : Nat} {args : List Value} {m : jH} {r : jX} (hr : jcr F d k k' args m = some r) : jcr F' d k k' args m = some r := by
  unfold jcr at hr ⊢
  split at hr
  next q => rw [if_pos q]; exact h _ _ _ _ _ hr
  next q =>
    rw [if_neg q]
    cases d with
    | zero => cases hr
    | succ d => exact h _ _ _ _ _ hr
theorem jstp_mono {k pc : Nat} {ls st : List Value} {m : jH} {G G' : Nat → List Value → List Value → jH → Option jX} {CL CL' : Nat → List Value → jH → Option jX} (hG : ∀ a b c d r, G a b c d = some r → G' a b c d = some r) (hC : ∀ a b c r, CL a b c = some r → CL' a b c = some r) {r : jX} (h : jstp k pc ls st m G CL = some r) : jstp k pc ls st m G' CL' = some r := by
  unfold jstp at h ⊢
  cases hA : jact k pc ls st m with
  | none => rw [hA] at h; cases h
  | some x =>
    rw [hA] at h
    rcases x with ⟨g, p1, p2, l1, s1, m1⟩ | ⟨k1, a1, m1, p1, l1, s1⟩ | y
    · cases g with
      | true => exact hG _ _ _ _ _ h
      | false =>
        cases p2 with
        | none => cases h
        | some q => exact hG _ _ _ _ _ h
    · cases hc : CL k1 a1 m1 with
      | none => simp [hc] at h
      | some z =>
        simp only [hc, Option.bind_some] at h
        simp only [hC _ _ _ _ hc, Option.bind_some]
        exact hG _ _ _ _ _ h
    · exact h
theorem jrn_succ : ∀ (n d k pc : Nat) (ls st : List Value) (m : jH) (r : jX), jrn n d k pc ls st m = some r → jrn (n + 1) d k pc ls st m = some r := by
  intro n
  induction n with
  | zero => intro d k pc ls st m r h; cases h
  | succ n ih =>
    intro d k pc ls st m r h
    unfold jrn at h ⊢
    exact jstp_mono (fun a b c e r h => ih _ _ _ _ _ _ _ h) (fun a b c r h => jcr_mono (fun d k args m r h => ih _ _ _ _ _ _ _ h) h) h
theorem jrn_le {n n' : Nat} (hn : n ≤ n') {d k pc : Nat} {ls st : List Value} {m : jH} {r : jX} (h : jrn n d k pc ls st m = some r) : jrn n' d k pc ls st m = some r := by
  induction hn with
  | refl => exact h
  | step _ ih => exact jrn_succ _ _ _ _ _ _ _ _ ih

/-- the machine's answer from a point on, however long it takes -/
noncomputable def jat (d k pc : Nat) (ls st : List Value) (m : jH) : Option jX := @dite _ (∃ n r, jrn n d k pc ls st m = some r) (Classical.propDecidable _) (fun h => jrn (Classical.choose h) d k pc ls st m) (fun _ => none)
theorem jat_iff {d k pc : Nat} {ls st : List Value} {m : jH} {r : jX} : jat d k pc ls st m = some r ↔ ∃ n, jrn n d k pc ls st m = some r := by
  unfold jat
  constructor
  · intro h
    by_cases hx : ∃ n r, jrn n d k pc ls st m = some r
    · rw [dif_pos hx] at h
      exact ⟨_, h⟩
    · rw [dif_neg hx] at h
      cases h
  · rintro ⟨n, h⟩
    have hx : ∃ n r, jrn n d k pc ls st m = some r := ⟨n, r, h⟩
    rw [dif_pos hx]
    obtain ⟨r', h'⟩ := Classical.choose_spec hx
    have h1 := jrn_le (Nat.le_max_left n (Classical.choose hx)) h
    have h2 := jrn_le (Nat.le_max_right n (Classical.choose hx)) h'
    rw [h'] 
    exact congrArg some (Option.some.inj (h2.symm.trans h1))
noncomputable def jev (d k : Nat) (args : List Value) (m : jH) : Option jX := jat d k 0 (jent k args) [] m
noncomputable def jcl (d k k' : Nat) (args : List Value) (m : jH) : Option jX := jcr jev d k k' args m
theorem jat_eq (d k pc : Nat) (ls st : List Value) (m : jH) : jat d k pc ls st m = jstp k pc ls st m (jat d k) (jcl d k) := by
  apply Option.ext
  intro r
  rw [jat_iff]
  constructor
  · rintro ⟨n, h⟩
    cases n with
    | zero => cases h
    | succ n => exact jstp_mono (fun a b c e r h => jat_iff.mpr ⟨n, h⟩) (fun a b c r h => jcr_mono (fun d k args m r h => jat_iff.mpr ⟨n, h⟩) h) h
  · intro h
    have hcl : ∀ a b c r, jcl d k a b c = some r → ∃ n, jcr (fun d k' args m' => jrn n d k' 0 (jent k' args) [] m') d k a b c = some r := by
      intro a b c r h
      unfold jcl jcr jev at h
      split at h
      next hr =>
        obtain ⟨n, h⟩ := jat_iff.mp h
        exact ⟨n, by unfold jcr; rw [if_pos hr]; exact h⟩
      next hr =>
        cases d with
        | zero => cases h
        | succ d =>
          obtain ⟨n, h⟩ := jat_iff.mp h
          exact ⟨n, by unfold jcr; rw [if_neg hr]; exact h⟩
    unfold jstp at h
    cases hA : jact k pc ls st m with
    | none => rw [hA] at h; cases h
    | some x =>
      rw [hA] at h
      rcases x with ⟨g, p1, p2, l1, s1, m1⟩ | ⟨k1, a1, m1, p1, l1, s1⟩ | y
      · cases g with
        | true =>
          obtain ⟨n, h⟩ := jat_iff.mp h
          exact ⟨n + 1, by unfold jrn jstp; rw [hA]; exact h⟩
        | false =>
          cases p2 with
          | none => cases h
          | some q =>
            obtain ⟨n, h⟩ := jat_iff.mp h
            exact ⟨n + 1, by unfold jrn jstp; rw [hA]; exact h⟩
      · cases hc : jcl d k k1 a1 m1 with
        | none => simp [hc] at h
        | some z =>
          simp only [hc, Option.bind_some] at h
          obtain ⟨n1, h1⟩ := hcl _ _ _ _ hc
          obtain ⟨n2, h2⟩ := jat_iff.mp h
          have h1' := jcr_mono (fun d k args m r h => jrn_le (Nat.le_max_left n1 n2) h) h1
          refine ⟨max n1 n2 + 1, ?_⟩
          unfold jrn jstp
          rw [hA]
          show Option.bind (jcr (fun d k' args m' => jrn (max n1 n2) d k' 0 (jent k' args) [] m') d k k1 a1 m1) _ = some r
          rw [h1']
          exact jrn_le (Nat.le_max_right n1 n2) h2
      · exact ⟨1, by unfold jrn jstp; rw [hA]; exact h⟩
/-- n steps, then G -/
def jit : Nat → Nat → Nat → List Value → List Value → jH → (Nat → List Value → List Value → jH → Option jX) → (Nat → List Value → jH → Option jX) → Option jX
  | 0, _, pc, ls, st, m, G, _ => G pc ls st m
  | n + 1, k, pc, ls, st, m, G, CL => jstp k pc ls st m (fun pc ls st m => jit n k pc ls st m G CL) CL
theorem jat_it (n : Nat) : ∀ {d k pc : Nat} {ls st : List Value} {m : jH}, jat d k pc ls st m = jit n k pc ls st m (jat d k) (jcl d k) := by
  induction n with
  | zero => intros; rfl
  | succ n ih =>
    intro d k pc ls st m
    rw [jat_eq]
    show _ = jstp k pc ls st m (fun pc ls st m => jit n k pc ls st m (jat d k) (jcl d k)) (jcl d k)
    congr 1
    funext pc ls st m
    exact ih
/-- the store as it is behind the constructors -/
abbrev jmk (I : Nat → Nat → Int32) (L : Nat → Nat → Int64) (c e : Nat) : jH := (I, L, c, e, 93, 94)
