/-! the world that the abstract store stands for -/
/-- first address; the script's, OWN's, ABOVE's; the script's length, what it holds; the classes' numbers and slots; the arrays' classes -/
abbrev jG : Type := Nat × Nat × Nat × Nat × Nat × (Nat → Int32) × va_G × (ClassId × ClassId × ClassId × ClassId)
def jad (G : jG) (p : Nat) : Nat := if p = 1000 then G.2.1 else if p = 1001 then G.2.2.1 else if p = 1002 then G.2.2.2.1 else G.1 + p
def jv (G : jG) : Value → Value
  | .ref p => .ref (jad G p)
  | .float u => .ref (G.1 + 21 + u.toNat)
  | v => v
theorem jv_cat (G : jG) (v : Value) : (jv G v).category = v.category := by cases v <;> rfl
def jfl (G : jG) (m : jH) (p c j : Nat) : Value := match jF c j with
  | 0 => .int (m.1 p j)
  | 2 => .int (m.1 p j)
  | 1 => if jO c j < m.2.2.2.2.2 then .ref (G.1 + jR c j) else .null
  | 3 => if m.2.2.1 = 0 then .null else .ref (G.1 + m.2.2.1)
  | _ => if m.2.2.2.1 = 0 then .null else .ref (G.1 + m.2.2.2.1)
def jce (G : jG) (m : jH) (p : Nat) : va_E := match jK p with
  | (0, n) => .inl (G.2.2.2.2.2.2.2.1, n, .inl (m.1 p))
  | (1, n) => .inl (G.2.2.2.2.2.2.2.2.1, n, .inr (.inl (m.2.1 p)))
  | (2, n) => .inl (G.2.2.2.2.2.2.2.2.2.1, n, .inl (m.1 p))
  | (3, n) => .inl (G.2.2.2.2.2.2.2.2.2.2, n, .inr (.inr (.inr (.inr (fun i => if i < n then some (G.1 + p + 1 + i) else none)))))
  | (_, c) => .inr (c, (List.range (jNF c)).map (jfl G m p c))
def jws (G : jG) (m : jH) : va_W := (List.range m.2.2.2.2.1).map (fun p => (G.1 + p, jce G m p))
def jAr (G : jG) : Nat → Prop := fun q => G.1 ≤ q
def jtys (G : jG) : List (ClassId × FieldType) := [(G.2.2.2.2.2.2.2.1, .int), (G.2.2.2.2.2.2.2.2.1, .long), (G.2.2.2.2.2.2.2.2.2.1, .boolean), (G.2.2.2.2.2.2.2.2.2.2, .array .long)]
theorem jws_get {G : jG} {m : jH} {p : Nat} (h : p < m.2.2.2.2.1) : (jws G m)[p]? = some (G.1 + p, jce G m p) := by
  unfold jws
  rw [List.getElem?_map, List.getElem?_range h]
  rfl
theorem jws_of {G : jG} {m : jH} {k : Nat} {q : Nat × va_E} (h : (jws G m)[k]? = some q) : k < m.2.2.2.2.1 ∧ q = (G.1 + k, jce G m k) := by
  have hk : k < m.2.2.2.2.1 := by
    have := (List.getElem?_eq_some_iff.mp h).1
    simpa [jws] using this
  rw [jws_get hk] at h
  exact ⟨hk, (Option.some.inj h).symm⟩
theorem jws_D (G : jG) (m : jH) : va_D (jAr G) (jws G m) := by
  refine ⟨fun i j p q hi hj he => ?_, fun k q h => ?_⟩
  · rw [(jws_of hi).2, (jws_of hj).2] at he
    have : G.1 + i = G.1 + j := he
    omega
  · rw [(jws_of h).2]
    exact Nat.le_add_right _ _
theorem jws_set {G : jG} {m m' : jH} {p : Nat} (hn : m'.2.2.2.2.1 = m.2.2.2.2.1) (h : ∀ q, q < m.2.2.2.2.1 → q ≠ p → jce G m' q = jce G m q) : (jws G m).set p (G.1 + p, jce G m' p) = jws G m' := by
  apply List.ext_getElem?
  intro i
  by_cases hi : i < m.2.2.2.2.1
  · rw [jws_get (m := m') (by rw [hn]; exact hi), List.getElem?_set]
    by_cases e : p = i
    · subst e
      simp [jws, hi]
    · rw [if_neg e, jws_get hi, h i hi (fun q => e q.symm)]
  · rw [List.getElem?_eq_none (by simp [jws]; omega), List.getElem?_eq_none (by simp [jws]; omega)]
/-- what holds at a method's start, apart from the world -/
def jSt (G : jG) (U : State) : Prop := va_K G.2.2.2.2.2.2.1 vwCl (jtys G) U ∧ G.1 ≤ U.heap.size ∧ G.2.2.2.2.1 < 2 ^ 31 ∧
  va_T .int G.2.1 G.2.2.2.2.1 (fun j => .int (G.2.2.2.2.2.1 j)) (jAr G) U U.heap ∧
  va_Z "OpensLikeThat$Bodies" "OWN" "[I" (.ref G.2.2.1) (jAr G) U U.heap ∧ va_T .int G.2.2.1 32 (fun j => .int (jOWN j)) (jAr G) U U.heap ∧
  va_Z "OpensLikeThat$Bodies" "ABOVE" "[I" (.ref G.2.2.2.1) (jAr G) U U.heap ∧ va_T .int G.2.2.2.1 8 (fun j => .int (jABV j)) (jAr G) U U.heap ∧
  (∀ w ∈ jNs, va_Nw w U) ∧ va_Nw (.arrayOver (.array .long)) U
theorem jAO_spec {s : State} (h : va_Nw (.arrayOver (.array .long)) s) :
    ∃ comp c k, s.vm.findClass (FieldType.array .long).toString = some comp ∧ (s.vm.classes.findIdx? fun x => match x.kind with | .array component _ => component == comp | _ => false) = some c ∧ s.vm.classes[c]? = some k ∧ k.kind = .array comp (.array .long) ∧
      s.vm.findClass ("[" ++ (FieldType.array .long).toString) = some c := by
  unfold va_Nw Cond.before Cond.holds at h
  simp only [Cond.value, beq_iff_eq] at h
  cases hc : s.vm.findClass (FieldType.array .long).toString with
  | none => simp [hc] at h
  | some comp =>
    simp only [hc, Option.bind_some, Option.bind_eq_some_iff, Option.map_eq_some_iff] at h
    obtain ⟨c, hi, k, hk, hb⟩ := h
    obtain ⟨hlt, hp, -⟩ := Array.findIdx?_eq_some_iff_getElem.mp hi
    have hkk : s.vm.classes[c] = k := (Array.getElem?_eq_some_iff.mp hk).2
    rw [hkk] at hp
    cases hkind : k.kind with
    | array component ty =>
      rw [hkind] at hb hp
      simp at hb hp
      exact ⟨comp, c, k, rfl, hi, hk, by rw [hkind, hp, hb.1], hb.2⟩
    | _ => rw [hkind] at hb; simp at hb
theorem jAO_moved {u U : State} (hvm : u.vm.Alike U.vm) (h : va_Nw (.arrayOver (.array .long)) u) : va_Nw (.arrayOver (.array .long)) U := by
  obtain ⟨comp, c, k, h1, h2, h3, h4, h5⟩ := jAO_spec h
  obtain ⟨k', hk', he⟩ := hvm.2.2 _ _ h3
  have hi : (U.vm.classes.findIdx? fun (x : Class) => match x.kind with | .array component _ => component == comp | _ => false) = some c := by
    have e := va_idx_bare U.vm comp
    first | rw [hvm.bare_eq] at e | rw [← hvm.bare_eq] at e
    exact (e.symm.trans (va_idx_bare u.vm comp)).trans h2
  have hkind : k'.kind = .array comp (.array .long) := by rw [he]; exact h4
  have f1 : U.vm.findClass (FieldType.array .long).toString = some comp := by rw [hvm.findClass]; exact h1
  have f2 : U.vm.findClass ("[" ++ (FieldType.array .long).toString) = some c := by rw [hvm.findClass]; exact h5
  unfold va_Nw Cond.before Cond.holds
  simp only [Cond.value]
  rw [f1, Option.bind_some]
  refine (congrArg (fun o : Option Nat => (o.bind (fun c => (U.vm.classes[c]?).map fun (k : Class) => match k.kind with | .array _ ty => decide (ty = FieldType.array .long) && decide (U.vm.findClass ("[" ++ (FieldType.array .long).toString) = some c) | _ => false) == some true)) hi).trans ?_
  simp [hk', hkind, f2]
theorem jNs_moved {s U : State} (hW : s.WarmedH U.vm) : ∀ w ∈ jNs, va_Nw w s → va_Nw w U := by
  intro w hw h
  simp only [jNs, List.mem_cons, List.not_mem_nil, or_false] at hw
  rcases hw with rfl | rfl | rfl | rfl | rfl | rfl | rfl | rfl | rfl | rfl | rfl | rfl | rfl | rfl | rfl | rfl | rfl <;> exact va_Nw.warmM hW h
theorem jSt_moved {G : jG} {s U : State} (hW : s.WarmedH U.vm) (hz : s.heap.size ≤ U.heap.size) (hq : ∀ q : Nat, q < s.heap.size → ¬ jAr G q → U.heap[q]? = s.heap[q]?) (h : jSt G s) : jSt G U := by
  obtain ⟨h1, h2, h3, h4, h5, h6, h7, h8, h9, h10⟩ := h
  have ha := hW.alike
  exact ⟨h1.moved ha, Nat.le_trans h2 hz, h3, (h4.moved ha).kept hq, (h5.moved ha).kept hq, (h6.moved ha).kept hq, (h7.moved ha).kept hq, (h8.moved ha).kept hq, fun w hw => jNs_moved hW w hw (h9 w hw), jAO_moved ha h10⟩
/-- what holds of the world: the cells, how far they are made, the script -/
def jEn (G : jG) (m : jH) (H : Heap) : Prop := va_P G.2.2.2.2.2.2.1 vwCl (jws G m) H ∧ m.2.2.2.2.1 ≤ 93 ∧ (m.2.2.2.2.1 = 93 ∨ H.size = G.1 + m.2.2.2.2.1) ∧ m.1 1000 = G.2.2.2.2.2.1 ∧ m.1 1001 0 = Int32.ofNat G.2.2.2.2.1 ∧ m.2.2.1 < 93 ∧ m.2.2.2.1 < 93
def jMid (G : jG) (s : State) (H : Heap) (locs : List Loc) (m : jH) : Prop := jEn G m H ∧ va_S (jAr G) s.heap H locs
def jWd (G : jG) (m : jH) (U : State) : Prop := jSt G U ∧ jEn G m U.heap
def jQ (G : jG) (r : jX) : Array Value → State → Outcome → State → Prop := fun _ st oc t => oc = .returned (r.1.map (jv G)) ∧ jEn G r.2 t.heap ∧ va_F (jAr G) st t
/-- the locals -/
def jLH (G : jG) (lsC : Array Slot) (nL : Nat) (ls : List Value) : Prop := lsC.size = nL ∧ ls.length = nL ∧ lv_wf lsC ∧ ∀ (i : Nat) (v : Value), ls[i]? = some v → v ≠ .null → lsC[i]? = some (.val (jv G v))
def jas (G : jG) (ls : List Value) : List (Nat × Value) := (List.range ls.length).filterMap (fun i => match (ls[i]? : Option Value) with
  | some Value.null => none
  | some v => some (i, jv G v)
  | none => none)
theorem jas_mem {G : jG} {ls : List Value} {i : Nat} {v : Value} (h : ls[i]? = some v) (hv : v ≠ .null) : (i, jv G v) ∈ jas G ls := by
  refine List.mem_filterMap.mpr ⟨i, List.mem_range.mpr (List.getElem?_eq_some_iff.mp h).1, ?_⟩
  rw [h]
  cases v <;> first | rfl | exact absurd rfl hv
theorem jas_of {G : jG} {ls : List Value} {q : Nat × Value} (h : q ∈ jas G ls) : ∃ v, ls[q.1]? = some v ∧ v ≠ .null ∧ q.2 = jv G v := by
  obtain ⟨i, -, hi⟩ := List.mem_filterMap.mp h
  split at hi
  next => cases hi
  next v hn h2 =>
    cases hi
    exact ⟨_, h2, fun e => hn e, rfl⟩
  next => cases hi
theorem jLH.has {G : jG} {lsC : Array Slot} {nL : Nat} {ls : List Value} (h : jLH G lsC nL ls) : lv_has lsC nL (jas G ls) := by
  refine ⟨h.1, h.2.2.1, fun q hq => ?_⟩
  obtain ⟨v, h1, h2, h3⟩ := jas_of hq
  rw [h3]
  exact h.2.2.2 _ _ h1 h2
theorem jst_of {ls ls' : List Value} {a : Nat} {v : Value} (h : jst ls a v = some ls') : a < ls.length ∧ ls' = ls.set a v ∧ ∀ (j : Nat) (w : Value), j + 1 = a → ls[j]? = some w → w.category = 1 := by
  unfold jst at h
  split at h
  next => cases h
  next => cases h
  next hn1 hn2 =>
    cases hb : Nat.blt a ls.length with
    | false => rw [hb] at h; cases h
    | true =>
      rw [hb] at h
      refine ⟨Nat.blt_eq.mp hb, (Option.some.inj h).symm, fun j w hj hw => ?_⟩
      subst hj
      cases w <;> first | rfl | exact absurd hw (hn1 _) | exact absurd hw (hn2 _)
theorem jst_has {G : jG} {lsC' : Array Slot} {nL : Nat} {ls ls' : List Value} {a : Nat} {v : Value} (hlen : ls.length = nL) (h : jst ls a v = some ls') (hv : lv_has lsC' nL ((a, jv G v) :: (jas G ls).filter (fun q => !(q.1 == a) && !(q.1 + 1 == a && q.2.category == 2)))) : jLH G lsC' nL ls' := by
  obtain ⟨h1, rfl, h3⟩ := jst_of h
  refine ⟨hv.1, by rw [List.length_set]; exact hlen, hv.2.1, fun i w hi hw => ?_⟩
  rw [List.getElem?_set] at hi
  by_cases e : a = i
  · subst e
    rw [if_pos rfl, if_pos h1] at hi
    cases hi
    exact hv.2.2 _ List.mem_cons_self
  · rw [if_neg e] at hi
    refine hv.2.2 _ (List.mem_cons_of_mem _ (List.mem_filter.mpr ⟨jas_mem hi hw, ?_⟩))
    simp only [Bool.and_eq_true, Bool.not_eq_true', beq_eq_false_iff_ne, ne_eq, Bool.and_eq_false_iff, beq_iff_eq]
    refine ⟨fun q => e q.symm, ?_⟩
    by_cases e2 : i + 1 = a
    · right
      rw [jv_cat, h3 i w e2 hi]
      decide
    · exact Or.inl e2
theorem jstl_of {ls ls' : List Value} {a : Nat} {x : Int64} (h : jstl ls a x = some ls') : a + 1 < ls.length ∧ ls' = (ls.set a (.long x)).set (a + 1) .null ∧ ∀ (j : Nat) (w : Value), j + 1 = a → ls[j]? = some w → w.category = 1 := by
  unfold jstl at h
  split at h
  next => cases h
  next => cases h
  next hn1 hn2 =>
    cases hb : Nat.blt (a + 1) ls.length with
    | false => rw [hb] at h; cases h
    | true =>
      rw [hb] at h
      refine ⟨Nat.blt_eq.mp hb, (Option.some.inj h).symm, fun j w hj hw => ?_⟩
      subst hj
      cases w <;> first | rfl | exact absurd hw (hn1 _) | exact absurd hw (hn2 _)
theorem jstl_has {G : jG} {lsC' : Array Slot} {nL : Nat} {ls ls' : List Value} {a : Nat} {x : Int64} (hlen : ls.length = nL) (h : jstl ls a x = some ls') (hv : lv_has lsC' nL ((a, .long x) :: (jas G ls).filter (fun q => !(q.1 == a) && (!(q.1 == a + 1) && !(q.1 + 1 == a && q.2.category == 2))))) : jLH G lsC' nL ls' := by
  obtain ⟨h1, rfl, h3⟩ := jstl_of h
  refine ⟨hv.1, by rw [List.length_set, List.length_set]; exact hlen, hv.2.1, fun i w hi hw => ?_⟩
  rw [List.getElem?_set] at hi
  by_cases e1 : a + 1 = i
  · subst e1
    rw [if_pos rfl, if_pos (by rw [List.length_set]; exact h1)] at hi
    cases hi
    exact absurd rfl hw
  rw [if_neg e1, List.getElem?_set] at hi
  by_cases e : a = i
  · subst e
    rw [if_pos rfl, if_pos (by omega)] at hi
    cases hi
    exact hv.2.2 _ List.mem_cons_self
  · rw [if_neg e] at hi
    refine hv.2.2 _ (List.mem_cons_of_mem _ (List.mem_filter.mpr ⟨jas_mem hi hw, ?_⟩))
    simp only [Bool.and_eq_true, Bool.not_eq_true', beq_eq_false_iff_ne, ne_eq, Bool.and_eq_false_iff, beq_iff_eq]
    refine ⟨fun q => e q.symm, fun q => e1 q.symm, ?_⟩
    by_cases e2 : i + 1 = a
    · right
      rw [jv_cat, h3 i w e2 hi]
      decide
    · exact Or.inl e2
theorem jen_args (G : jG) : ∀ (vs : List Value) (o i : Nat) (v : Value), (jen vs)[i]? = some v → v ≠ .null → (o + i, jv G v) ∈ lv_args o (vs.map (jv G)) := by
  intro vs
  induction vs with
  | nil => intro o i v h; simp [jen] at h
  | cons w vs ih =>
    intro o i v h hv
    have key : ∀ (x : Value) (c : Nat), (jv G x).category = c → ∀ (l : List Value), (x :: l)[i]? = some v → (∀ j, l[j]? = some v → (o + 1 + j, jv G v) ∈ lv_args (if c = 2 then o + 2 else o + 1) (vs.map (jv G))) → (o + i, jv G v) ∈ lv_args o ((x :: vs).map (jv G)) := by
      intro x c hc l hl hj
      cases i with
      | zero =>
        cases hl
        exact List.mem_cons_self
      | succ i =>
        refine List.mem_cons_of_mem _ ?_
        have := hj i hl
        rw [hc, show o + (i + 1) = o + 1 + i by omega]
        exact this
    cases w with
    | long x =>
      refine key _ 2 rfl _ h (fun j hj => ?_)
      rw [if_pos rfl]
      cases j with
      | zero => cases hj; exact absurd rfl hv
      | succ j => have := ih (o + 2) j v hj hv; rwa [show o + 2 + j = o + 1 + (j + 1) by omega] at this
    | double x =>
      refine key _ 2 rfl _ h (fun j hj => ?_)
      rw [if_pos rfl]
      cases j with
      | zero => cases hj; exact absurd rfl hv
      | succ j => have := ih (o + 2) j v hj hv; rwa [show o + 2 + j = o + 1 + (j + 1) by omega] at this
    | int x => exact key _ 1 rfl _ h (fun j hj => ih (o + 1) j v hj hv)
    | float x => exact key _ 1 rfl _ h (fun j hj => ih (o + 1) j v hj hv)
    | null => exact key _ 1 rfl _ h (fun j hj => ih (o + 1) j v hj hv)
    | ref x => exact key _ 1 rfl _ h (fun j hj => ih (o + 1) j v hj hv)
    | retAddr x => exact key _ 1 rfl _ h (fun j hj => ih (o + 1) j v hj hv)
theorem jen_len (G : jG) : ∀ vs : List Value, (lg_sl (vs.map (jv G))).length = (jen vs).length := by
  intro vs
  induction vs with
  | nil => rfl
  | cons w vs ih =>
    have e : ∀ x l, lg_sl (x :: l) = (if x.category = 2 then [Slot.val x, .second] else [Slot.val x]) ++ lg_sl l := fun x l => by simp [lg_sl]
    rw [List.map_cons, e]
    cases w <;> simp [jv, jen, Value.category, ih] <;> omega
theorem jLH_entry (G : jG) {k : Nat} {vs : List Value} (h : (jen vs).length ≤ jL k) : jLH G ((lg_sl (vs.map (jv G)) ++ List.replicate (jL k - (lg_sl (vs.map (jv G))).length) Slot.unset).toArray) (jL k) (jent k vs) := by
  have h0 := lv_entry (vs.map (jv G)) (n := jL k) (by rw [jen_len]; exact h)
  refine ⟨h0.1, by simp [jent]; omega, h0.2.1, fun i v hi hv => ?_⟩
  unfold jent at hi
  by_cases hlt : i < (jen vs).length
  · rw [List.getElem?_append_left hlt] at hi
    have := jen_args G vs 0 i v hi hv
    rw [Nat.zero_add] at this
    exact h0.2.2 _ this
  · rw [List.getElem?_append_right (by omega)] at hi
    have := List.eq_of_mem_replicate (List.mem_of_getElem? hi)
    exact absurd this hv
