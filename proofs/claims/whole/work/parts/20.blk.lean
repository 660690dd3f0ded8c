/-! blocks: n steps, but no further than the pcs of S -/
def jmem : List Nat → Nat → Bool
  | [], _ => false
  | a :: l, x => bif Nat.beq a x then true else jmem l x
def jir (S : List Nat) : Nat → Nat → Nat → List Value → List Value → jH → (Nat → List Value → List Value → jH → Option jX) → (Nat → List Value → jH → Option jX) → Option jX
  | 0, _, pc, ls, st, m, G, _ => G pc ls st m
  | n + 1, k, pc, ls, st, m, G, CL => jstp k pc ls st m (fun pc ls st m => bif jmem S pc then G pc ls st m else jir S n k pc ls st m G CL) CL
theorem jat_ir (S : List Nat) (n : Nat) : ∀ {d k pc : Nat} {ls st : List Value} {m : jH}, jat d k pc ls st m = jir S n k pc ls st m (jat d k) (jcl d k) := by
  induction n with
  | zero => intros; rfl
  | succ n ih =>
    intro d k pc ls st m
    rw [jat_eq]
    show _ = jstp k pc ls st m (fun pc ls st m => bif jmem S pc then jat d k pc ls st m else jir S n k pc ls st m (jat d k) (jcl d k)) (jcl d k)
    congr 1
    funext pc ls st m
    cases jmem S pc with
    | true => rfl
    | false => exact ih
def jswF {α : Type} (F : Nat → α) (x : Int32) : List (Int32 × Nat) → Nat → α
  | [], a => F a
  | q :: r, a => bif decide (x = q.1) then F q.2 else jswF F x r a
theorem jsw_dist {α : Type} (F : Nat → α) (x : Int32) (sw : List (Int32 × Nat)) (a : Nat) : F (jsw x sw a) = jswF F x sw a := by
  induction sw with
  | nil => rfl
  | cons q r ih =>
    show F (bif decide (x = q.1) then q.2 else jsw x r a) = bif decide (x = q.1) then F q.2 else jswF F x r a
    rw [← ih]
    cases decide (x = q.1) <;> rfl
theorem jretZ {d k pc n a b t q kd : Nat} {w : Int32} {z : Int64} {sw : List (Int32 × Nat)} {ls : List Value} {x : Int32} {m : jH} (hI : jI k pc = some (.ireturn, n, a, b, t, q, kd, w, z, sw)) (hT : jT k = some .boolean) : jat d k pc ls [.int x] m = bif decide (x &&& 1 = x) then some (some (.int x), m) else none := by
  rw [jat_eq]
  unfold jstp jact
  rw [hI]
  dsimp only
  rw [hT]
  cases decide (x &&& 1 = x) <;> rfl
