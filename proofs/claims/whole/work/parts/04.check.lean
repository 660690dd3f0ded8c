/-! the tables are the program: checked by computing -/
/-- the tables' words that may be handed on -/
def jTB : List Jvm.Cond := lw_tbl.filter goodWord
def jwd (t : Nat) (w : Jvm.Cond) : Bool := decide (lw_tbl[t]? = some w) && goodWord w
theorem jwd_in {t : Nat} {w : Jvm.Cond} (h : jwd t w = true) : w ∈ jTB := by
  unfold jwd at h
  rw [Bool.and_eq_true, decide_eq_true_eq] at h
  exact List.mem_filter.mpr ⟨List.mem_of_getElem? h.1, h.2⟩
def jplain (y : MethodName) : Bool := decide (y.cls ≠ "java/lang/invoke/MethodHandle") && (decide (y.cls ≠ "java/lang/invoke/VarHandle"))
/-- what a call needs of the method called -/
def jokM (D : jMd) (n : Nat) : Bool := jplain D.1 && (decide ((parseMethodDescriptor D.1.desc).map (fun d => d.parameters.length) = some n))
def jok2 (own : String) (name : String) (ret : Option FieldType) (pc : Nat) (e : jE) : Bool :=
  match e with
  | (i, n, a, b, t, q, kd, w, z, sw) =>
    match i with
    | .iconst x => Nat.beq n 1 && decide (Int32.ofInt x = w)
    | .bipush x => Nat.beq n 2 && decide ((Int8.ofInt x).toInt32 = w)
    | .sipush x => Nat.beq n 3 && decide ((Int16.ofInt x).toInt32 = w)
    | .ldc x => Nat.beq n 2 && jwd t (.constant own x w)
    | .ldc_w x => Nat.beq n 3 && jwd t (.constant own x w)
    | .lconst x => Nat.beq n 1 && decide (Int64.ofNat (x : Nat) = z)
    | .ldc2_w x => Nat.beq n 3 && jwd t (.constantLong own x z)
    | .iload_n x => Nat.beq n 1 && Nat.beq x.val a
    | .lload_n x => Nat.beq n 1 && Nat.beq x.val a
    | .aload_n x => Nat.beq n 1 && Nat.beq x.val a
    | .istore_n x => Nat.beq n 1 && Nat.beq x.val a
    | .lstore_n x => Nat.beq n 1 && Nat.beq x.val a
    | .astore_n x => Nat.beq n 1 && Nat.beq x.val a
    | .iload x => Nat.beq n 2 && Nat.beq x a
    | .lload x => Nat.beq n 2 && Nat.beq x a
    | .aload x => Nat.beq n 2 && Nat.beq x a
    | .istore x => Nat.beq n 2 && Nat.beq x a
    | .lstore x => Nat.beq n 2 && Nat.beq x a
    | .astore x => Nat.beq n 2 && Nat.beq x a
    | .iinc x v => Nat.beq n 3 && (Nat.beq x a && decide (Int32.ofInt v = w))
    | .goto o => Nat.beq n 3 && decide ((pc : Int) + o = (a : Int))
    | .ifCond _ o => Nat.beq n 3 && decide ((pc : Int) + o = (a : Int))
    | .if_icmp _ o => Nat.beq n 3 && decide ((pc : Int) + o = (a : Int))
    | .tableswitch d lo hi offs => decide ((pc : Int) + d = (a : Int)) && (decide (hi - lo + 1 = (offs.size : Int)) && (decide (-2147483648 ≤ lo ∧ hi ≤ 2147483647) && (decide (sw.length = offs.size) && (List.range offs.size).all (fun j => match offs[j]?, sw[j]? with | some o, some (v, y) => decide (v = Int32.ofInt (lo + j)) && decide ((pc : Int) + o = (y : Int)) | _, _ => false))))
    | .lookupswitch d ps => decide ((pc : Int) + d = (a : Int)) && ((ps.toList.zip (ps.toList.drop 1)).all (fun (a, next) => a.1 < next.1) && decide (sw.map (fun q => (q.1.toInt, (q.2 : Int) - pc)) = ps.toList))
    | .getfield x => Nat.beq n 3 && (Nat.blt a 13 && (Nat.blt b (jNF a) && jwd t (.fieldLink own x (jC a).1 ((jC a).2.1 b).2.1 ((jC a).2.1 b).2.2.1)))
    | .putfield x => Nat.beq n 3 && (Nat.blt a 13 && (Nat.blt b (jNF a) && (jwd t (.fieldLink own x (jC a).1 ((jC a).2.1 b).2.1 ((jC a).2.1 b).2.2.1) && (!(Nat.beq q 1) || (decide (name = "<init>") && decide (own = (jC a).1))))))
    | .getstatic x => Nat.beq n 3 && (jwd t (.fieldLink own x "OpensLikeThat$Bodies" "OWN" "[I") && Nat.beq a 1001 || jwd t (.fieldLink own x "OpensLikeThat$Bodies" "ABOVE" "[I") && Nat.beq a 1002)
    | .new x => Nat.beq n 3 && (Nat.blt a 13 && (jwd t (.classLink own x (jC a).1)))
    | .newarray _ => Nat.beq n 2
    | .multianewarray x d => Nat.beq n 4 && (Nat.beq d 2 && jwd t (.classLink own x "[[J"))
    | .invokevirtual x => Nat.beq n 3 && (Nat.beq kd 0 && (jwd t (.methodLink own x (jM a).1) && (jokM (jM a) b && (decide ((jM a).1.cls = (jC q).1) && (Nat.blt q 13 && (jwd (jM a).2.2.2.2.2.2.2.2.2.1 (.instanceMethod (jM a).1) && (jwd (jM a).2.2.2.2.2.2.2.2.2.2.1 (.selects (jM a).1.cls (jM a).1 (jM a).1) && Nat.blt a 264)))))))
    | .invokestatic x => Nat.beq n 3 && (match kd with
      | 0 => jwd t (.methodLink own x (jM a).1) && (jokM (jM a) b && (jwd (jM a).2.2.2.2.2.2.2.2.2.1 (.static (jM a).1) && Nat.blt a 264))
      | 1 => decide (jNs[t]? = some (.methodLinkNest own x (jM a).1 "OpensLikeThat")) && (jokM (jM a) b && (jwd (jM a).2.2.2.2.2.2.2.2.2.1 (.static (jM a).1) && Nat.blt a 264))
      | 3 => jwd t (.methodLink own x arraycopyName)
      | 4 => jwd t (.methodLink own x Lib.Math.max.name) && (jwd (jM 264).2.2.2.2.2.2.2.2.2.1 (.static Lib.Math.max.name) && (jwd (jM 264).2.2.2.2.2.2.2.2.1 (.code Lib.Math.max.name Lib.Math.max.code 2 (some .int)) && jwd (jM 264).2.2.2.2.2.2.2.2.2.2.2 (.initialized "java/lang/Math")))
      | 5 => jwd t (.methodLink own x Lib.Math.min.name) && (jwd (jM 265).2.2.2.2.2.2.2.2.2.1 (.static Lib.Math.min.name) && (jwd (jM 265).2.2.2.2.2.2.2.2.1 (.code Lib.Math.min.name Lib.Math.min.code 2 (some .int)) && jwd (jM 265).2.2.2.2.2.2.2.2.2.2.2 (.initialized "java/lang/Math")))
      | _ => false)
    | .invokespecial x => Nat.beq n 3 && (match kd with
      | 0 => jwd t (.methodLink own x (jM a).1) && (jokM (jM a) b && (decide ((jM a).1.name = "<init>" ∧ (jM a).2.2.2.1 = none) && (jwd (jM a).2.2.2.2.2.2.2.2.2.1 (.instanceMethod (jM a).1) && Nat.blt a 264)))
      | 1 => decide (jNs[t]? = some (.methodLinkNest own x (jM a).1 "OpensLikeThat")) && (jokM (jM a) b && (decide ((jM a).1.name = "<init>" ∧ (jM a).2.2.2.1 = none) && (jwd (jM a).2.2.2.2.2.2.2.2.2.1 (.instanceMethod (jM a).1) && Nat.blt a 264)))
      | 2 => jwd t (.methodLink own x objectInit)
      | _ => false)
    | .ireturn => Nat.beq n 1
    | .lreturn => Nat.beq n 1 && decide (ret = some .long)
    | .return_ => Nat.beq n 1 && decide (ret = none)
    | .iadd | .isub | .imul | .iand | .ior | .ixor | .idiv | .irem | .ishl | .ishr | .iushr | .ineg | .i2l | .l2i | .i2b | .i2s | .ladd | .lmul | .land | .lor | .lshl | .lshr | .lcmp | .dup | .dup2 | .dup_x1 | .pop | .iaload | .baload | .laload | .aaload | .iastore | .bastore | .lastore | .arraylength => Nat.beq n 1
    | _ => false
/-- a method's row: its code word, its locals -/
def jckM (D : jMd) : Bool := (decide (D.1.cls = "OpensLikeThatLaw") || jwd D.2.2.2.2.2.2.2.2.1 (.code D.1 D.2.1 D.2.2.1 D.2.2.2.1)) && (jwd D.2.2.2.2.2.2.2.2.2.2.2 (.initialized D.1.cls) && (Nat.ble D.2.2.1 14 && (Nat.ble D.2.2.2.2.1 10 && plainName D.1.cls)))
/-- its n instructions' places from lo on -/
def jckC (D : jMd) (lo n : Nat) : Bool := (List.range n).all (fun j => match D.2.2.2.2.2.1 (lo + j) with
    | none => true
    | some e => decide (decode D.2.1 (lo + j) = .ok (e.1, e.2.1)) && jok2 D.1.cls D.1.name D.2.2.2.1 (lo + j) e)
theorem jckC_at {D : jMd} {lo n pc : Nat} {e : jE} (h : jckC D lo n = true) (h1 : lo ≤ pc) (h2 : pc < lo + n) (he : D.2.2.2.2.2.1 pc = some e) : decode D.2.1 pc = .ok (e.1, e.2.1) ∧ jok2 D.1.cls D.1.name D.2.2.2.1 pc e = true := by
  have := List.all_eq_true.mp h (pc - lo) (List.mem_range.mpr (by omega))
  have e1 : lo + (pc - lo) = pc := by omega
  rw [e1, he] at this
  simpa using this
theorem jckC_app {D : jMd} {lo n n' : Nat} (h : jckC D lo n = true) (h' : jckC D (lo + n) n' = true) : jckC D lo (n + n') = true := by
  refine List.all_eq_true.mpr fun j hj => ?_
  have hj := List.mem_range.mp hj
  by_cases hlt : j < n
  · exact List.all_eq_true.mp h j (List.mem_range.mpr hlt)
  · have := List.all_eq_true.mp h' (j - n) (List.mem_range.mpr (by omega))
    have e1 : lo + n + (j - n) = lo + j := by omega
    rw [e1] at this
    exact this
theorem jlt {pc N : Nat} {x : Option jE} {e : jE} (h : (bif Nat.blt pc N then x else none) = some e) : pc < N := by
  cases hb : Nat.blt pc N with
  | true => exact Nat.blt_eq.mp hb
  | false => rw [hb] at h; cases h
/-- a method's row is right -/
def jOk (D : jMd) : Prop := jckM D = true ∧ ∀ pc e, D.2.2.2.2.2.1 pc = some e → decode D.2.1 pc = .ok (e.1, e.2.1) ∧ jok2 D.1.cls D.1.name D.2.2.2.1 pc e = true
theorem jOk_of {D : jMd} {n : Nat} (h : jckM D = true) (hc : jckC D 0 n = true) (hl : ∀ pc e, D.2.2.2.2.2.1 pc = some e → pc < n) : jOk D := ⟨h, fun pc e he => jckC_at hc (Nat.zero_le _) (by have := hl pc e he; omega) he⟩
def jPP (D : jMd) : Prop := D.1.cls = "java/lang/Math" ∨ jOk D
theorem jcond {P : jMd → Prop} {b : Bool} {x y : jMd} (h1 : P x) (h2 : P y) : P (bif b then x else y) := by cases b <;> assumption
