/-! the start: both made -/
def zs (l : List Nat) (I : Nat → Nat → Int32) : Nat → Nat → Int32 := l.foldl (fun J p => jz 0 J p) I
def gK (I : Nat → Nat → Int32) (p : Nat) (x : Int32) (k : Nat) : Nat → Nat → Int32 := fun q j => if q = p ∧ j < k then x else I q j
def in1 : List Nat := [0, 1, 2, 3, 4, 5, 6, 7, 8, 9, 10, 11, 12, 13, 14, 15, 16, 17, 18, 19, 27, 28]
def in2 : List Nat := [29, 30, 31, 32, 33, 34, 35, 36, 37, 38, 39, 40, 41, 42, 43, 44, 45, 46, 47, 48, 49, 50, 51, 52, 53, 54, 55, 56, 57]
def in3 : List Nat := [58, 59, 60, 61, 62, 63, 64, 65, 66, 67, 68, 69, 70, 71, 72, 73, 74, 75, 76, 77, 78, 79, 80, 81, 82, 83, 84, 85, 86, 88, 89, 90, 91, 92]
def in0 (I : Nat → Nat → Int32) : Nat → Nat → Int32 := gK (zs in3 (zs in2 (gK (zs in1 I) 28 (-2) 6))) 85 (-1) 6
def inL (L : Nat → Nat → Int64) : Nat → Nat → Int64 := jz 0 (fun q j => if 21 ≤ q ∧ q < 27 then 0 else L q j) 87
section STA
variable {d : Nat} {I : Nat → Nat → Int32} {L : Nat → Nat → Int64} {p k : Nat} {x : Int32}
theorem zs_get : ∀ (l : List Nat) (I : Nat → Nat → Int32) (q j : Nat), zs l I q j = if q ∈ l then 0 else I q j := by
  intro l
  induction l with
  | nil => intro I q j; rw [if_neg (by simp)]; rfl
  | cons p l ih =>
    intro I q j
    show zs l (jz 0 I p) q j = _
    rw [ih, jz_get]
    by_cases h : q ∈ l
    · rw [if_pos h, if_pos (List.mem_cons_of_mem _ h)]
    · rw [if_neg h]
      by_cases e : q = p
      · rw [if_pos e, if_pos (by rw [e]; exact List.mem_cons_self)]
      · rw [if_neg e, if_neg (fun m => by
          rcases List.mem_cons.mp m with r | r
          · exact e r
          · exact h r)]
theorem gK_1 : ju (gK I p x k) p k x = gK I p x (k + 1) := by
  funext q j
  unfold ju gK
  by_cases hq : q = p
  · subst hq
    by_cases hj : j = k
    · subst hj
      simp
    · by_cases hl : j < k
      · have : j < k + 1 := by omega
        simp [hj, hl, this]
      · have : ¬ j < k + 1 := by omega
        simp [hj, hl, this]
  · simp [hq]
theorem gK_0 : gK I p x 0 = I := by
  funext q j
  unfold gK
  rw [if_neg (by omega)]
theorem q_67m : jat d 67 34 [.ref 19, .int 0] [] (I, L, 5, 6, 29, 19) = some (none, (gK I 28 (-2) 6, L, 5, 6, 29, 19)) := by
  have key : jat d 67 34 [.ref 19, .int (nI 0)] [] (gK I 28 (-2) 0, L, 5, 6, 29, 19) = jat d 67 34 [.ref 19, .int (nI 6)] [] (gK I 28 (-2) 6, L, 5, 6, 29, 19) := jloop (N := 6) (fun k => jat d 67 34 [.ref 19, .int (nI k)] [] (gK I 28 (-2) k, L, 5, 6, 29, 19)) (fun k hk => by
    show jat d 67 34 [.ref 19, .int (nI k)] [] (gK I 28 (-2) k, L, 5, 6, 29, 19) = jat d 67 34 [.ref 19, .int (nI (k + 1))] [] (gK I 28 (-2) (k + 1), L, 5, 6, 29, 19)
    rw [jb_67_34, decide_eq_false (show ¬ (6 : Int32) ≤ nI k by show ¬ nI 6 ≤ nI k; rw [nI_leI (by omega) (by omega)]; omega), cond_false, jdI hk, cond_true, jcl' (by omega), nI_1, gK_1])
  rw [gK_0] at key
  rw [show jat d 67 34 [.ref 19, .int 0] [] (I, L, 5, 6, 29, 19) = _ from key, jb_67_34]
  rfl
theorem q_162m : jat d 162 282 [.ref 58, .int 0] [] (jmk I L 5 6) = some (none, jmk (gK I 85 (-1) 6) L 5 6) := by
  have key : jat d 162 282 [.ref 58, .int (nI 0)] [] (jmk (gK I 85 (-1) 0) L 5 6) = jat d 162 282 [.ref 58, .int (nI 6)] [] (jmk (gK I 85 (-1) 6) L 5 6) := jloop (N := 6) (fun k => jat d 162 282 [.ref 58, .int (nI k)] [] (jmk (gK I 85 (-1) k) L 5 6)) (fun k hk => by
    show jat d 162 282 [.ref 58, .int (nI k)] [] (jmk (gK I 85 (-1) k) L 5 6) = jat d 162 282 [.ref 58, .int (nI (k + 1))] [] (jmk (gK I 85 (-1) (k + 1)) L 5 6)
    rw [jb_162_282, decide_eq_false (show ¬ (6 : Int32) ≤ nI k by show ¬ nI 6 ≤ nI k; rw [nI_leI (by omega) (by omega)]; omega), cond_false, jdI hk, cond_true, jcl' (by omega), nI_1, gK_1])
  rw [gK_0] at key
  rw [show jat d 162 282 [.ref 58, .int 0] [] (jmk I L 5 6) = _ from key, jb_162_282]
  rfl
theorem q_95 : jev d 95 [.ref 0] (zs [0] I, L, 0, 0, 1, 0) = some (none, (zs in2 (gK (zs in1 I) 28 (-2) 6), (fun q j => if 21 ≤ q ∧ q < 27 then 0 else L q j), 5, 6, 58, 60)) := by
  rw [jb_95_0, jb_34_0]
  simp only [Option.bind_some, jps]
  rw [jb_95_12, jb_56_0]
  simp only [Option.bind_some, jps]
  rw [jb_95_23, jb_62_0]
  simp only [Option.bind_some, jps]
  rw [jb_95_34, jb_67_0, q_67m]
  simp only [Option.bind_some, jps]
  rw [jb_95_45, jb_10_0]
  simp only [Option.bind_some, jps]
  rw [jb_95_56, jb_20_0]
  simp only [Option.bind_some, jps]
  rw [jb_95_67, jb_25_0]
  simp only [Option.bind_some, jps]
  rw [jb_95_78, jb_80_0]
  simp only [Option.bind_some, jps]
  rw [jb_95_101, jb_52_0]
  simp only [Option.bind_some, jps]
  rw [jb_95_128, jb_0_0]
  simp only [Option.bind_some, jps]
  rw [jb_95_147, jb_30_0]
  simp only [Option.bind_some, jps]
  rw [jb_95_166]
  rfl
theorem law_0 : jev d 266 [.ref 1000] (I, L, 0, 0, 0, 0) = jat d 266 18 [.ref 1000, .ref 0, .ref 58, .int 0] [] (jmk (in0 I) (inL L) 5 6) := by
  rw [jb_266_0, show jev d 95 [.ref 0] (jz 0 I 0, L, 0, 0, 1, 0) = _ from q_95]
  simp only [Option.bind_some, jps]
  rw [jb_266_7, jb_162_0, q_162m]
  simp only [Option.bind_some, jps]
  rw [jb_266_15]
  rfl
/-- nothing is there at the start, but the shelves' marks -/
theorem in0_z {q j : Nat} (h : q ∈ in1 ∨ q ∈ in2 ∨ q ∈ in3) (h1 : ¬ (q = 28 ∧ j < 6)) (h2 : ¬ (q = 85 ∧ j < 6)) : in0 I q j = 0 := by
  unfold in0 gK
  rw [if_neg h2, zs_get]
  by_cases a : q ∈ in3
  · rw [if_pos a]
  · rw [if_neg a, zs_get]
    by_cases b : q ∈ in2
    · rw [if_pos b]
    · rw [if_neg b, if_neg h1, zs_get, if_pos (by rcases h with r | r | r; exact r; exact absurd r b; exact absurd r a)]
theorem in0_o {q j : Nat} (h : 92 < q) : in0 I q j = I q j := by
  have n1 : ∀ x, x ∈ in1 → x ≤ 92 := by decide
  have n2 : ∀ x, x ∈ in2 → x ≤ 92 := by decide
  have n3 : ∀ x, x ∈ in3 → x ≤ 92 := by decide
  unfold in0 gK
  rw [if_neg (by omega), zs_get, if_neg (fun a => by have := n3 q a; omega), zs_get, if_neg (fun a => by have := n2 q a; omega), if_neg (by omega), zs_get, if_neg (fun a => by have := n1 q a; omega)]
theorem in0_28 {j : Nat} (h : j < 6) : in0 I 28 j = -2 := by
  unfold in0 gK
  rw [if_neg (by omega), zs_get, if_neg (by decide), zs_get, if_neg (by decide), if_pos ⟨rfl, h⟩]
theorem in0_85 {j : Nat} (h : j < 6) : in0 I 85 j = -1 := by
  unfold in0 gK
  rw [if_pos ⟨rfl, h⟩]
end STA
