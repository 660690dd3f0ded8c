/-! the abstract machine's types: an instruction resolved, a method's row -/
/-- instruction, its length, target (or local, class, method), slot (or how many arguments), place of its word, flag (or class), kind of call, its int, its long, a switch's rows -/
abbrev jE : Type := Instr × Nat × Nat × Nat × Nat × Nat × Nat × Int32 × Int64 × List (Int32 × Nat)
/-- name, bytes, locals, answer, rank, instructions, class, length, places of its words -/
abbrev jMd : Type := MethodName × ByteArray × Nat × Option FieldType × Nat × (Nat → Option jE) × Nat × Nat × Nat × Nat × Nat × Nat
/-- the abstract store: ints and longs by place and index; where the law's two rows lie; how many places are made; how many final references are set -/
abbrev jH : Type := (Nat → Nat → Int32) × (Nat → Nat → Int64) × Nat × Nat × Nat × Nat
/-- what an instruction does: goes on (if the guard holds; else elsewhere, or nowhere), calls, returns -/
abbrev jA : Type := (Bool × Nat × Option Nat × List Value × List Value × jH) ⊕ ((Nat × List Value × jH × Nat × List Value × List Value) ⊕ (Option Value × jH))
abbrev jX : Type := Option Value × jH
/-- the index is in its row -/
abbrev jin (i : Int32) (n : Nat) : Prop := 0 ≤ i.toInt ∧ i.toInt < (n : Int)
def ju {α : Type} (f : Nat → Nat → α) (p i : Nat) (x : α) : Nat → Nat → α := fun q j => if q = p ∧ j = i then x else f q j
def jz {α : Type} (z : α) (f : Nat → Nat → α) (p : Nat) : Nat → Nat → α := fun q j => if q = p then z else f q j
/-- place p's n elements from sp on come to place q from dp on -/
def jcp {α : Type} (f : Nat → Nat → α) (p q sp dp n : Nat) : Nat → Nat → α := fun a j => if a = q ∧ dp ≤ j ∧ j < dp + n then f p (sp + (j - dp)) else f a j
def jcnd : Jvm.ClassFile.Cond → Int32 → Int32 → Bool
  | .eq, x, y => decide (x = y)
  | .ne, x, y => decide (¬ x = y)
  | .lt, x, y => decide (x < y)
  | .ge, x, y => decide (y ≤ x)
  | .gt, x, y => decide (y < x)
  | .le, x, y => decide (x ≤ y)
def jsw (x : Int32) : List (Int32 × Nat) → Nat → Nat
  | [], a => a
  | q :: r, a => bif decide (x = q.1) then q.2 else jsw x r a
/-- arguments as locals: a long takes two -/
def jen : List Value → List Value
  | [] => []
  | .long x :: vs => .long x :: .null :: jen vs
  | .double x :: vs => .double x :: .null :: jen vs
  | v :: vs => v :: jen vs
def jpop (n : Nat) (st : List Value) : Option (List Value × List Value) := bif Nat.ble n st.length then some ((st.take n).reverse, st.drop n) else none
/-- a store into the locals: of one that isn't a long's second half -/
def jst (ls : List Value) (a : Nat) (v : Value) : Option (List Value) :=
  match (match a with | 0 => none | b + 1 => ls[b]?) with
  | some (.long _) => none
  | some (.double _) => none
  | _ => bif Nat.blt a ls.length then some (ls.set a v) else none
def jstl (ls : List Value) (a : Nat) (x : Int64) : Option (List Value) :=
  match (match a with | 0 => none | b + 1 => ls[b]?) with
  | some (.long _) => none
  | some (.double _) => none
  | _ => bif Nat.blt (a + 1) ls.length then some ((ls.set a (.long x)).set (a + 1) .null) else none
def jps : Option Value → List Value → List Value
  | some v, st => v :: st
  | none, st => st
def jOWN : Nat → Int32 := fun i => ([1, 10, 11, 2, 20, 0, 0, 0, 0, 30, 0, 0, 0, 41, 40, 0, 0, 0, 50, 0, 0, 0, 0, 60, 70, 0, 0, 0, 0, 80, 0, 81] : List Int32).getD i 0
def jABV : Nat → Int32 := fun i => ([-1, 0, 0, 2, 1, 3, 0, 4] : List Int32).getD i 0
/-- goes on at pc -/
def jg (pc : Nat) (ls st : List Value) (m : jH) : Option jA := some (.inl (true, pc, none, ls, st, m))
/-- goes on if g -/
def jgg (g : Bool) (pc : Nat) (ls st : List Value) (m : jH) : Option jA := some (.inl (g, pc, none, ls, st, m))
