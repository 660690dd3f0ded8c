/-! one step that changes no cell -/
section JGO
variable {p : Program} {l : Launch} {e : Env} {R : Room} {s : State} {mi : MethodId} {args : Array Value} {below : List Frame} {meth : Method} {c : Code} {H : Heap} {locs : List Loc} {cells slots : Nat} {Q : State → Prop} {G : jG}
variable {k pc : Nat} {ls st ls' st' : List Value} {m m' : jH} {g : Bool} {p1 : Nat} {p2 : Option Nat} {lsC : Array Slot}
/-- from here the machine comes to Q: the heap, the locals, the cells made -/
def jWs (p : Program) (l : Launch) (e : Env) (R : Room) (s : State) (mi : MethodId) (args : Array Value) (below : List Frame) (meth : Method) (c : Code) (Q : State → Prop) (G : jG) (k : Nat) (cells slots : Nat) (m : jH) (pc : Nat) (ls st : List Value) (m' : jH) : Prop :=
  ∀ (H' : Heap) (locs' : List Loc) (lsC' : Array Slot) (cells' slots' : Nat), jMid G s H' locs' m' → jLH G lsC' (jL k) ls → cells' + m.2.2.2.2.1 = cells + m'.2.2.2.2.1 → slots' + jcs m.2.2.2.2.1 = slots + jcs m'.2.2.2.2.1 → W p l e R s mi args below meth c H' locs' cells' slots' Q (F0 mi pc lsC' (st.map (jv G)))
set_option maxHeartbeats 1000000 in
theorem js_iconst {x : Int} {n a b t q kd : Nat} {w : Int32} {z : Int64} {sw : List (Int32 × Nat)} (C : jCx p R s mi args meth c G k) (M : jMid G s H locs m) (hl : jLH G lsC (jL k) ls) (hI : jI k pc = some (.iconst x, n, a, b, t, q, kd, w, z, sw)) (hdg : decode (jB k) pc = .ok (.iconst x, n)) (hj : jok2 (jY k).cls (jY k).name (jT k) pc (.iconst x, n, a, b, t, q, kd, w, z, sw) = true) (hact : jact k pc ls st m = some (.inl (g, p1, p2, ls', st', m')))
    (kt : g = true → jWs p l e R s mi args below meth c Q G k cells slots m p1 ls' st' m') (kf : g = false → ∀ q, p2 = some q → jWs p l e R s mi args below meth c Q G k cells slots m q ls' st' m') (hg : g = true ∨ p2 ≠ none) : W p l e R s mi args below meth c H locs cells slots Q (F0 mi pc lsC (st.map (jv G))) := by
  obtain ⟨hx, hb, hml, hown, hts, hnm, hSt, hf1, hf2⟩ := C
  unfold jact at hact
  rw [hI] at hact
  dsimp only at hact
  obtain ⟨h1, h2⟩ := jand hj
  have hn := Nat.eq_of_beq_eq_true h1
  subst hn
  unfold jg at hact
  cases hact
  exact lv_iconst (v := w) hx hb hdg (of_decide_eq_true h2) (kt rfl _ _ _ _ _ M hl rfl rfl)

set_option maxHeartbeats 1000000 in
theorem js_bipush {x : Int} {n a b t q kd : Nat} {w : Int32} {z : Int64} {sw : List (Int32 × Nat)} (C : jCx p R s mi args meth c G k) (M : jMid G s H locs m) (hl : jLH G lsC (jL k) ls) (hI : jI k pc = some (.bipush x, n, a, b, t, q, kd, w, z, sw)) (hdg : decode (jB k) pc = .ok (.bipush x, n)) (hj : jok2 (jY k).cls (jY k).name (jT k) pc (.bipush x, n, a, b, t, q, kd, w, z, sw) = true) (hact : jact k pc ls st m = some (.inl (g, p1, p2, ls', st', m')))
    (kt : g = true → jWs p l e R s mi args below meth c Q G k cells slots m p1 ls' st' m') (kf : g = false → ∀ q, p2 = some q → jWs p l e R s mi args below meth c Q G k cells slots m q ls' st' m') (hg : g = true ∨ p2 ≠ none) : W p l e R s mi args below meth c H locs cells slots Q (F0 mi pc lsC (st.map (jv G))) := by
  obtain ⟨hx, hb, hml, hown, hts, hnm, hSt, hf1, hf2⟩ := C
  unfold jact at hact
  rw [hI] at hact
  dsimp only at hact
  obtain ⟨h1, h2⟩ := jand hj
  have hn := Nat.eq_of_beq_eq_true h1
  subst hn
  unfold jg at hact
  cases hact
  exact lv_bipush (v := w) hx hb hdg (of_decide_eq_true h2) (kt rfl _ _ _ _ _ M hl rfl rfl)

set_option maxHeartbeats 1000000 in
theorem js_sipush {x : Int} {n a b t q kd : Nat} {w : Int32} {z : Int64} {sw : List (Int32 × Nat)} (C : jCx p R s mi args meth c G k) (M : jMid G s H locs m) (hl : jLH G lsC (jL k) ls) (hI : jI k pc = some (.sipush x, n, a, b, t, q, kd, w, z, sw)) (hdg : decode (jB k) pc = .ok (.sipush x, n)) (hj : jok2 (jY k).cls (jY k).name (jT k) pc (.sipush x, n, a, b, t, q, kd, w, z, sw) = true) (hact : jact k pc ls st m = some (.inl (g, p1, p2, ls', st', m')))
    (kt : g = true → jWs p l e R s mi args below meth c Q G k cells slots m p1 ls' st' m') (kf : g = false → ∀ q, p2 = some q → jWs p l e R s mi args below meth c Q G k cells slots m q ls' st' m') (hg : g = true ∨ p2 ≠ none) : W p l e R s mi args below meth c H locs cells slots Q (F0 mi pc lsC (st.map (jv G))) := by
  obtain ⟨hx, hb, hml, hown, hts, hnm, hSt, hf1, hf2⟩ := C
  unfold jact at hact
  rw [hI] at hact
  dsimp only at hact
  obtain ⟨h1, h2⟩ := jand hj
  have hn := Nat.eq_of_beq_eq_true h1
  subst hn
  unfold jg at hact
  cases hact
  exact lv_sipush (v := w) hx hb hdg (of_decide_eq_true h2) (kt rfl _ _ _ _ _ M hl rfl rfl)

set_option maxHeartbeats 1000000 in
theorem js_ldc {x : Nat} {n a b t q kd : Nat} {w : Int32} {z : Int64} {sw : List (Int32 × Nat)} (C : jCx p R s mi args meth c G k) (M : jMid G s H locs m) (hl : jLH G lsC (jL k) ls) (hI : jI k pc = some (.ldc x, n, a, b, t, q, kd, w, z, sw)) (hdg : decode (jB k) pc = .ok (.ldc x, n)) (hj : jok2 (jY k).cls (jY k).name (jT k) pc (.ldc x, n, a, b, t, q, kd, w, z, sw) = true) (hact : jact k pc ls st m = some (.inl (g, p1, p2, ls', st', m')))
    (kt : g = true → jWs p l e R s mi args below meth c Q G k cells slots m p1 ls' st' m') (kf : g = false → ∀ q, p2 = some q → jWs p l e R s mi args below meth c Q G k cells slots m q ls' st' m') (hg : g = true ∨ p2 ≠ none) : W p l e R s mi args below meth c H locs cells slots Q (F0 mi pc lsC (st.map (jv G))) := by
  obtain ⟨hx, hb, hml, hown, hts, hnm, hSt, hf1, hf2⟩ := C
  unfold jact at hact
  rw [hI] at hact
  dsimp only at hact
  obtain ⟨h1, h2⟩ := jand hj
  have hn := Nat.eq_of_beq_eq_true h1
  subst hn
  unfold jg at hact
  cases hact
  exact lv_ldc hx hb hown (hts _ (jwd_in h2)) hdg (kt rfl _ _ _ _ _ M hl rfl rfl)

set_option maxHeartbeats 1000000 in
theorem js_ldc_w {x : Nat} {n a b t q kd : Nat} {w : Int32} {z : Int64} {sw : List (Int32 × Nat)} (C : jCx p R s mi args meth c G k) (M : jMid G s H locs m) (hl : jLH G lsC (jL k) ls) (hI : jI k pc = some (.ldc_w x, n, a, b, t, q, kd, w, z, sw)) (hdg : decode (jB k) pc = .ok (.ldc_w x, n)) (hj : jok2 (jY k).cls (jY k).name (jT k) pc (.ldc_w x, n, a, b, t, q, kd, w, z, sw) = true) (hact : jact k pc ls st m = some (.inl (g, p1, p2, ls', st', m')))
    (kt : g = true → jWs p l e R s mi args below meth c Q G k cells slots m p1 ls' st' m') (kf : g = false → ∀ q, p2 = some q → jWs p l e R s mi args below meth c Q G k cells slots m q ls' st' m') (hg : g = true ∨ p2 ≠ none) : W p l e R s mi args below meth c H locs cells slots Q (F0 mi pc lsC (st.map (jv G))) := by
  obtain ⟨hx, hb, hml, hown, hts, hnm, hSt, hf1, hf2⟩ := C
  unfold jact at hact
  rw [hI] at hact
  dsimp only at hact
  obtain ⟨h1, h2⟩ := jand hj
  have hn := Nat.eq_of_beq_eq_true h1
  subst hn
  unfold jg at hact
  cases hact
  exact lv_ldcw hx hb hown (hts _ (jwd_in h2)) hdg (kt rfl _ _ _ _ _ M hl rfl rfl)

set_option maxHeartbeats 1000000 in
theorem js_ldc2_w {x : Nat} {n a b t q kd : Nat} {w : Int32} {z : Int64} {sw : List (Int32 × Nat)} (C : jCx p R s mi args meth c G k) (M : jMid G s H locs m) (hl : jLH G lsC (jL k) ls) (hI : jI k pc = some (.ldc2_w x, n, a, b, t, q, kd, w, z, sw)) (hdg : decode (jB k) pc = .ok (.ldc2_w x, n)) (hj : jok2 (jY k).cls (jY k).name (jT k) pc (.ldc2_w x, n, a, b, t, q, kd, w, z, sw) = true) (hact : jact k pc ls st m = some (.inl (g, p1, p2, ls', st', m')))
    (kt : g = true → jWs p l e R s mi args below meth c Q G k cells slots m p1 ls' st' m') (kf : g = false → ∀ q, p2 = some q → jWs p l e R s mi args below meth c Q G k cells slots m q ls' st' m') (hg : g = true ∨ p2 ≠ none) : W p l e R s mi args below meth c H locs cells slots Q (F0 mi pc lsC (st.map (jv G))) := by
  obtain ⟨hx, hb, hml, hown, hts, hnm, hSt, hf1, hf2⟩ := C
  unfold jact at hact
  rw [hI] at hact
  dsimp only at hact
  obtain ⟨h1, h2⟩ := jand hj
  have hn := Nat.eq_of_beq_eq_true h1
  subst hn
  unfold jg at hact
  cases hact
  exact lv_ldc2 hx hb hown (hts _ (jwd_in h2)) hdg (kt rfl _ _ _ _ _ M hl rfl rfl)

set_option maxHeartbeats 1000000 in
theorem js_lconst {x : Fin 2} {n a b t q kd : Nat} {w : Int32} {z : Int64} {sw : List (Int32 × Nat)} (C : jCx p R s mi args meth c G k) (M : jMid G s H locs m) (hl : jLH G lsC (jL k) ls) (hI : jI k pc = some (.lconst x, n, a, b, t, q, kd, w, z, sw)) (hdg : decode (jB k) pc = .ok (.lconst x, n)) (hj : jok2 (jY k).cls (jY k).name (jT k) pc (.lconst x, n, a, b, t, q, kd, w, z, sw) = true) (hact : jact k pc ls st m = some (.inl (g, p1, p2, ls', st', m')))
    (kt : g = true → jWs p l e R s mi args below meth c Q G k cells slots m p1 ls' st' m') (kf : g = false → ∀ q, p2 = some q → jWs p l e R s mi args below meth c Q G k cells slots m q ls' st' m') (hg : g = true ∨ p2 ≠ none) : W p l e R s mi args below meth c H locs cells slots Q (F0 mi pc lsC (st.map (jv G))) := by
  obtain ⟨hx, hb, hml, hown, hts, hnm, hSt, hf1, hf2⟩ := C
  unfold jact at hact
  rw [hI] at hact
  dsimp only at hact
  obtain ⟨h1, h2⟩ := jand hj
  have hn := Nat.eq_of_beq_eq_true h1
  subst hn
  unfold jg at hact
  cases hact
  exact lv_lconst (v := z) hx hb hdg (of_decide_eq_true h2) (kt rfl _ _ _ _ _ M hl rfl rfl)

set_option maxHeartbeats 1000000 in
theorem js_iload_n {x : Fin 4} {n a b t q kd : Nat} {w : Int32} {z : Int64} {sw : List (Int32 × Nat)} (C : jCx p R s mi args meth c G k) (M : jMid G s H locs m) (hl : jLH G lsC (jL k) ls) (hI : jI k pc = some (.iload_n x, n, a, b, t, q, kd, w, z, sw)) (hdg : decode (jB k) pc = .ok (.iload_n x, n)) (hj : jok2 (jY k).cls (jY k).name (jT k) pc (.iload_n x, n, a, b, t, q, kd, w, z, sw) = true) (hact : jact k pc ls st m = some (.inl (g, p1, p2, ls', st', m')))
    (kt : g = true → jWs p l e R s mi args below meth c Q G k cells slots m p1 ls' st' m') (kf : g = false → ∀ q, p2 = some q → jWs p l e R s mi args below meth c Q G k cells slots m q ls' st' m') (hg : g = true ∨ p2 ≠ none) : W p l e R s mi args below meth c H locs cells slots Q (F0 mi pc lsC (st.map (jv G))) := by
  obtain ⟨hx, hb, hml, hown, hts, hnm, hSt, hf1, hf2⟩ := C
  unfold jact at hact
  rw [hI] at hact
  dsimp only at hact
  obtain ⟨h1, h2⟩ := jand hj
  have hn := Nat.eq_of_beq_eq_true h1
  subst hn
  split at hact
  next y hy =>
    unfold jg at hact
    cases hact
    exact lv_iload_n hx hb hdg (Nat.eq_of_beq_eq_true h2) (hl.2.2.2 _ _ hy (fun q => by cases q)) (kt rfl _ _ _ _ _ M hl rfl rfl)
  next => cases hact

set_option maxHeartbeats 1000000 in
theorem js_iload {x : Nat} {n a b t q kd : Nat} {w : Int32} {z : Int64} {sw : List (Int32 × Nat)} (C : jCx p R s mi args meth c G k) (M : jMid G s H locs m) (hl : jLH G lsC (jL k) ls) (hI : jI k pc = some (.iload x, n, a, b, t, q, kd, w, z, sw)) (hdg : decode (jB k) pc = .ok (.iload x, n)) (hj : jok2 (jY k).cls (jY k).name (jT k) pc (.iload x, n, a, b, t, q, kd, w, z, sw) = true) (hact : jact k pc ls st m = some (.inl (g, p1, p2, ls', st', m')))
    (kt : g = true → jWs p l e R s mi args below meth c Q G k cells slots m p1 ls' st' m') (kf : g = false → ∀ q, p2 = some q → jWs p l e R s mi args below meth c Q G k cells slots m q ls' st' m') (hg : g = true ∨ p2 ≠ none) : W p l e R s mi args below meth c H locs cells slots Q (F0 mi pc lsC (st.map (jv G))) := by
  obtain ⟨hx, hb, hml, hown, hts, hnm, hSt, hf1, hf2⟩ := C
  unfold jact at hact
  rw [hI] at hact
  dsimp only at hact
  obtain ⟨h1, h2⟩ := jand hj
  have hn := Nat.eq_of_beq_eq_true h1
  subst hn
  have h2 := Nat.eq_of_beq_eq_true h2
  subst h2
  split at hact
  next y hy =>
    unfold jg at hact
    cases hact
    exact lv_iload hx hb hdg (hl.2.2.2 _ _ hy (fun q => by cases q)) (kt rfl _ _ _ _ _ M hl rfl rfl)
  next => cases hact

set_option maxHeartbeats 1000000 in
theorem js_lload_n {x : Fin 4} {n a b t q kd : Nat} {w : Int32} {z : Int64} {sw : List (Int32 × Nat)} (C : jCx p R s mi args meth c G k) (M : jMid G s H locs m) (hl : jLH G lsC (jL k) ls) (hI : jI k pc = some (.lload_n x, n, a, b, t, q, kd, w, z, sw)) (hdg : decode (jB k) pc = .ok (.lload_n x, n)) (hj : jok2 (jY k).cls (jY k).name (jT k) pc (.lload_n x, n, a, b, t, q, kd, w, z, sw) = true) (hact : jact k pc ls st m = some (.inl (g, p1, p2, ls', st', m')))
    (kt : g = true → jWs p l e R s mi args below meth c Q G k cells slots m p1 ls' st' m') (kf : g = false → ∀ q, p2 = some q → jWs p l e R s mi args below meth c Q G k cells slots m q ls' st' m') (hg : g = true ∨ p2 ≠ none) : W p l e R s mi args below meth c H locs cells slots Q (F0 mi pc lsC (st.map (jv G))) := by
  obtain ⟨hx, hb, hml, hown, hts, hnm, hSt, hf1, hf2⟩ := C
  unfold jact at hact
  rw [hI] at hact
  dsimp only at hact
  obtain ⟨h1, h2⟩ := jand hj
  have hn := Nat.eq_of_beq_eq_true h1
  subst hn
  split at hact
  next y hy =>
    unfold jg at hact
    cases hact
    exact lv_lload_n hx hb hdg (Nat.eq_of_beq_eq_true h2) (hl.2.2.2 _ _ hy (fun q => by cases q)) (kt rfl _ _ _ _ _ M hl rfl rfl)
  next => cases hact

set_option maxHeartbeats 1000000 in
theorem js_lload {x : Nat} {n a b t q kd : Nat} {w : Int32} {z : Int64} {sw : List (Int32 × Nat)} (C : jCx p R s mi args meth c G k) (M : jMid G s H locs m) (hl : jLH G lsC (jL k) ls) (hI : jI k pc = some (.lload x, n, a, b, t, q, kd, w, z, sw)) (hdg : decode (jB k) pc = .ok (.lload x, n)) (hj : jok2 (jY k).cls (jY k).name (jT k) pc (.lload x, n, a, b, t, q, kd, w, z, sw) = true) (hact : jact k pc ls st m = some (.inl (g, p1, p2, ls', st', m')))
    (kt : g = true → jWs p l e R s mi args below meth c Q G k cells slots m p1 ls' st' m') (kf : g = false → ∀ q, p2 = some q → jWs p l e R s mi args below meth c Q G k cells slots m q ls' st' m') (hg : g = true ∨ p2 ≠ none) : W p l e R s mi args below meth c H locs cells slots Q (F0 mi pc lsC (st.map (jv G))) := by
  obtain ⟨hx, hb, hml, hown, hts, hnm, hSt, hf1, hf2⟩ := C
  unfold jact at hact
  rw [hI] at hact
  dsimp only at hact
  obtain ⟨h1, h2⟩ := jand hj
  have hn := Nat.eq_of_beq_eq_true h1
  subst hn
  have h2 := Nat.eq_of_beq_eq_true h2
  subst h2
  split at hact
  next y hy =>
    unfold jg at hact
    cases hact
    exact lv_lload hx hb hdg (hl.2.2.2 _ _ hy (fun q => by cases q)) (kt rfl _ _ _ _ _ M hl rfl rfl)
  next => cases hact

set_option maxHeartbeats 1000000 in
theorem js_aload_n {x : Fin 4} {n a b t q kd : Nat} {w : Int32} {z : Int64} {sw : List (Int32 × Nat)} (C : jCx p R s mi args meth c G k) (M : jMid G s H locs m) (hl : jLH G lsC (jL k) ls) (hI : jI k pc = some (.aload_n x, n, a, b, t, q, kd, w, z, sw)) (hdg : decode (jB k) pc = .ok (.aload_n x, n)) (hj : jok2 (jY k).cls (jY k).name (jT k) pc (.aload_n x, n, a, b, t, q, kd, w, z, sw) = true) (hact : jact k pc ls st m = some (.inl (g, p1, p2, ls', st', m')))
    (kt : g = true → jWs p l e R s mi args below meth c Q G k cells slots m p1 ls' st' m') (kf : g = false → ∀ q, p2 = some q → jWs p l e R s mi args below meth c Q G k cells slots m q ls' st' m') (hg : g = true ∨ p2 ≠ none) : W p l e R s mi args below meth c H locs cells slots Q (F0 mi pc lsC (st.map (jv G))) := by
  obtain ⟨hx, hb, hml, hown, hts, hnm, hSt, hf1, hf2⟩ := C
  unfold jact at hact
  rw [hI] at hact
  dsimp only at hact
  obtain ⟨h1, h2⟩ := jand hj
  have hn := Nat.eq_of_beq_eq_true h1
  subst hn
  split at hact
  next y hy =>
    unfold jg at hact
    cases hact
    exact lv_aload_n hx hb hdg (Nat.eq_of_beq_eq_true h2) (hl.2.2.2 _ _ hy (fun q => by cases q)) (kt rfl _ _ _ _ _ M hl rfl rfl)
  next => cases hact

set_option maxHeartbeats 1000000 in
theorem js_aload {x : Nat} {n a b t q kd : Nat} {w : Int32} {z : Int64} {sw : List (Int32 × Nat)} (C : jCx p R s mi args meth c G k) (M : jMid G s H locs m) (hl : jLH G lsC (jL k) ls) (hI : jI k pc = some (.aload x, n, a, b, t, q, kd, w, z, sw)) (hdg : decode (jB k) pc = .ok (.aload x, n)) (hj : jok2 (jY k).cls (jY k).name (jT k) pc (.aload x, n, a, b, t, q, kd, w, z, sw) = true) (hact : jact k pc ls st m = some (.inl (g, p1, p2, ls', st', m')))
    (kt : g = true → jWs p l e R s mi args below meth c Q G k cells slots m p1 ls' st' m') (kf : g = false → ∀ q, p2 = some q → jWs p l e R s mi args below meth c Q G k cells slots m q ls' st' m') (hg : g = true ∨ p2 ≠ none) : W p l e R s mi args below meth c H locs cells slots Q (F0 mi pc lsC (st.map (jv G))) := by
  obtain ⟨hx, hb, hml, hown, hts, hnm, hSt, hf1, hf2⟩ := C
  unfold jact at hact
  rw [hI] at hact
  dsimp only at hact
  obtain ⟨h1, h2⟩ := jand hj
  have hn := Nat.eq_of_beq_eq_true h1
  subst hn
  have h2 := Nat.eq_of_beq_eq_true h2
  subst h2
  split at hact
  next y hy =>
    unfold jg at hact
    cases hact
    exact lv_aload hx hb hdg (hl.2.2.2 _ _ hy (fun q => by cases q)) (kt rfl _ _ _ _ _ M hl rfl rfl)
  next => cases hact

set_option maxHeartbeats 1000000 in
theorem js_istore_n {x : Fin 4} {n a b t q kd : Nat} {w : Int32} {z : Int64} {sw : List (Int32 × Nat)} (C : jCx p R s mi args meth c G k) (M : jMid G s H locs m) (hl : jLH G lsC (jL k) ls) (hI : jI k pc = some (.istore_n x, n, a, b, t, q, kd, w, z, sw)) (hdg : decode (jB k) pc = .ok (.istore_n x, n)) (hj : jok2 (jY k).cls (jY k).name (jT k) pc (.istore_n x, n, a, b, t, q, kd, w, z, sw) = true) (hact : jact k pc ls st m = some (.inl (g, p1, p2, ls', st', m')))
    (kt : g = true → jWs p l e R s mi args below meth c Q G k cells slots m p1 ls' st' m') (kf : g = false → ∀ q, p2 = some q → jWs p l e R s mi args below meth c Q G k cells slots m q ls' st' m') (hg : g = true ∨ p2 ≠ none) : W p l e R s mi args below meth c H locs cells slots Q (F0 mi pc lsC (st.map (jv G))) := by
  obtain ⟨hx, hb, hml, hown, hts, hnm, hSt, hf1, hf2⟩ := C
  unfold jact at hact
  rw [hI] at hact
  dsimp only at hact
  obtain ⟨h1, h2⟩ := jand hj
  have hn := Nat.eq_of_beq_eq_true h1
  subst hn
  split at hact
  next y r =>
    split at hact
    next l2 hs =>
      unfold jg at hact
      cases hact
      exact lv_istore_n hx hb hdg (Nat.eq_of_beq_eq_true h2) hl.has (by rw [← hl.2.1]; exact (jst_of hs).1) rfl (fun ls2 h2 => kt rfl _ _ _ _ _ M (jst_has hl.2.1 hs h2) rfl rfl)
    next => cases hact
  next => cases hact

set_option maxHeartbeats 1000000 in
theorem js_istore {x : Nat} {n a b t q kd : Nat} {w : Int32} {z : Int64} {sw : List (Int32 × Nat)} (C : jCx p R s mi args meth c G k) (M : jMid G s H locs m) (hl : jLH G lsC (jL k) ls) (hI : jI k pc = some (.istore x, n, a, b, t, q, kd, w, z, sw)) (hdg : decode (jB k) pc = .ok (.istore x, n)) (hj : jok2 (jY k).cls (jY k).name (jT k) pc (.istore x, n, a, b, t, q, kd, w, z, sw) = true) (hact : jact k pc ls st m = some (.inl (g, p1, p2, ls', st', m')))
    (kt : g = true → jWs p l e R s mi args below meth c Q G k cells slots m p1 ls' st' m') (kf : g = false → ∀ q, p2 = some q → jWs p l e R s mi args below meth c Q G k cells slots m q ls' st' m') (hg : g = true ∨ p2 ≠ none) : W p l e R s mi args below meth c H locs cells slots Q (F0 mi pc lsC (st.map (jv G))) := by
  obtain ⟨hx, hb, hml, hown, hts, hnm, hSt, hf1, hf2⟩ := C
  unfold jact at hact
  rw [hI] at hact
  dsimp only at hact
  obtain ⟨h1, h2⟩ := jand hj
  have hn := Nat.eq_of_beq_eq_true h1
  subst hn
  have h2 := Nat.eq_of_beq_eq_true h2
  subst h2
  split at hact
  next y r =>
    split at hact
    next l2 hs =>
      unfold jg at hact
      cases hact
      exact lv_istore hx hb hdg hl.has (by rw [← hl.2.1]; exact (jst_of hs).1) rfl (fun ls2 h2 => kt rfl _ _ _ _ _ M (jst_has hl.2.1 hs h2) rfl rfl)
    next => cases hact
  next => cases hact

set_option maxHeartbeats 1000000 in
theorem js_astore_n {x : Fin 4} {n a b t q kd : Nat} {w : Int32} {z : Int64} {sw : List (Int32 × Nat)} (C : jCx p R s mi args meth c G k) (M : jMid G s H locs m) (hl : jLH G lsC (jL k) ls) (hI : jI k pc = some (.astore_n x, n, a, b, t, q, kd, w, z, sw)) (hdg : decode (jB k) pc = .ok (.astore_n x, n)) (hj : jok2 (jY k).cls (jY k).name (jT k) pc (.astore_n x, n, a, b, t, q, kd, w, z, sw) = true) (hact : jact k pc ls st m = some (.inl (g, p1, p2, ls', st', m')))
    (kt : g = true → jWs p l e R s mi args below meth c Q G k cells slots m p1 ls' st' m') (kf : g = false → ∀ q, p2 = some q → jWs p l e R s mi args below meth c Q G k cells slots m q ls' st' m') (hg : g = true ∨ p2 ≠ none) : W p l e R s mi args below meth c H locs cells slots Q (F0 mi pc lsC (st.map (jv G))) := by
  obtain ⟨hx, hb, hml, hown, hts, hnm, hSt, hf1, hf2⟩ := C
  unfold jact at hact
  rw [hI] at hact
  dsimp only at hact
  obtain ⟨h1, h2⟩ := jand hj
  have hn := Nat.eq_of_beq_eq_true h1
  subst hn
  split at hact
  next y r =>
    split at hact
    next l2 hs =>
      unfold jg at hact
      cases hact
      exact lv_astore_n hx hb hdg (Nat.eq_of_beq_eq_true h2) hl.has (by rw [← hl.2.1]; exact (jst_of hs).1) rfl (fun ls2 h2 => kt rfl _ _ _ _ _ M (jst_has hl.2.1 hs h2) rfl rfl)
    next => cases hact
  next => cases hact

set_option maxHeartbeats 1000000 in
theorem js_astore {x : Nat} {n a b t q kd : Nat} {w : Int32} {z : Int64} {sw : List (Int32 × Nat)} (C : jCx p R s mi args meth c G k) (M : jMid G s H locs m) (hl : jLH G lsC (jL k) ls) (hI : jI k pc = some (.astore x, n, a, b, t, q, kd, w, z, sw)) (hdg : decode (jB k) pc = .ok (.astore x, n)) (hj : jok2 (jY k).cls (jY k).name (jT k) pc (.astore x, n, a, b, t, q, kd, w, z, sw) = true) (hact : jact k pc ls st m = some (.inl (g, p1, p2, ls', st', m')))
    (kt : g = true → jWs p l e R s mi args below meth c Q G k cells slots m p1 ls' st' m') (kf : g = false → ∀ q, p2 = some q → jWs p l e R s mi args below meth c Q G k cells slots m q ls' st' m') (hg : g = true ∨ p2 ≠ none) : W p l e R s mi args below meth c H locs cells slots Q (F0 mi pc lsC (st.map (jv G))) := by
  obtain ⟨hx, hb, hml, hown, hts, hnm, hSt, hf1, hf2⟩ := C
  unfold jact at hact
  rw [hI] at hact
  dsimp only at hact
  obtain ⟨h1, h2⟩ := jand hj
  have hn := Nat.eq_of_beq_eq_true h1
  subst hn
  have h2 := Nat.eq_of_beq_eq_true h2
  subst h2
  split at hact
  next y r =>
    split at hact
    next l2 hs =>
      unfold jg at hact
      cases hact
      exact lv_astore hx hb hdg hl.has (by rw [← hl.2.1]; exact (jst_of hs).1) rfl (fun ls2 h2 => kt rfl _ _ _ _ _ M (jst_has hl.2.1 hs h2) rfl rfl)
    next => cases hact
  next => cases hact

set_option maxHeartbeats 1000000 in
theorem js_lstore_n {x : Fin 4} {n a b t q kd : Nat} {w : Int32} {z : Int64} {sw : List (Int32 × Nat)} (C : jCx p R s mi args meth c G k) (M : jMid G s H locs m) (hl : jLH G lsC (jL k) ls) (hI : jI k pc = some (.lstore_n x, n, a, b, t, q, kd, w, z, sw)) (hdg : decode (jB k) pc = .ok (.lstore_n x, n)) (hj : jok2 (jY k).cls (jY k).name (jT k) pc (.lstore_n x, n, a, b, t, q, kd, w, z, sw) = true) (hact : jact k pc ls st m = some (.inl (g, p1, p2, ls', st', m')))
    (kt : g = true → jWs p l e R s mi args below meth c Q G k cells slots m p1 ls' st' m') (kf : g = false → ∀ q, p2 = some q → jWs p l e R s mi args below meth c Q G k cells slots m q ls' st' m') (hg : g = true ∨ p2 ≠ none) : W p l e R s mi args below meth c H locs cells slots Q (F0 mi pc lsC (st.map (jv G))) := by
  obtain ⟨hx, hb, hml, hown, hts, hnm, hSt, hf1, hf2⟩ := C
  unfold jact at hact
  rw [hI] at hact
  dsimp only at hact
  obtain ⟨h1, h2⟩ := jand hj
  have hn := Nat.eq_of_beq_eq_true h1
  subst hn
  split at hact
  next y r =>
    split at hact
    next l2 hs =>
      unfold jg at hact
      cases hact
      exact lv_lstore_n hx hb hdg (Nat.eq_of_beq_eq_true h2) hl.has (by rw [← hl.2.1]; exact (jstl_of hs).1) rfl (fun ls2 h2 => kt rfl _ _ _ _ _ M (jstl_has hl.2.1 hs h2) rfl rfl)
    next => cases hact
  next => cases hact

set_option maxHeartbeats 1000000 in
theorem js_lstore {x : Nat} {n a b t q kd : Nat} {w : Int32} {z : Int64} {sw : List (Int32 × Nat)} (C : jCx p R s mi args meth c G k) (M : jMid G s H locs m) (hl : jLH G lsC (jL k) ls) (hI : jI k pc = some (.lstore x, n, a, b, t, q, kd, w, z, sw)) (hdg : decode (jB k) pc = .ok (.lstore x, n)) (hj : jok2 (jY k).cls (jY k).name (jT k) pc (.lstore x, n, a, b, t, q, kd, w, z, sw) = true) (hact : jact k pc ls st m = some (.inl (g, p1, p2, ls', st', m')))
    (kt : g = true → jWs p l e R s mi args below meth c Q G k cells slots m p1 ls' st' m') (kf : g = false → ∀ q, p2 = some q → jWs p l e R s mi args below meth c Q G k cells slots m q ls' st' m') (hg : g = true ∨ p2 ≠ none) : W p l e R s mi args below meth c H locs cells slots Q (F0 mi pc lsC (st.map (jv G))) := by
  obtain ⟨hx, hb, hml, hown, hts, hnm, hSt, hf1, hf2⟩ := C
  unfold jact at hact
  rw [hI] at hact
  dsimp only at hact
  obtain ⟨h1, h2⟩ := jand hj
  have hn := Nat.eq_of_beq_eq_true h1
  subst hn
  have h2 := Nat.eq_of_beq_eq_true h2
  subst h2
  split at hact
  next y r =>
    split at hact
    next l2 hs =>
      unfold jg at hact
      cases hact
      exact lv_lstore hx hb hdg hl.has (by rw [← hl.2.1]; exact (jstl_of hs).1) rfl (fun ls2 h2 => kt rfl _ _ _ _ _ M (jstl_has hl.2.1 hs h2) rfl rfl)
    next => cases hact
  next => cases hact

set_option maxHeartbeats 1000000 in
theorem js_iinc {x : Nat} {v : Int} {n a b t q kd : Nat} {w : Int32} {z : Int64} {sw : List (Int32 × Nat)} (C : jCx p R s mi args meth c G k) (M : jMid G s H locs m) (hl : jLH G lsC (jL k) ls) (hI : jI k pc = some (.iinc x v, n, a, b, t, q, kd, w, z, sw)) (hdg : decode (jB k) pc = .ok (.iinc x v, n)) (hj : jok2 (jY k).cls (jY k).name (jT k) pc (.iinc x v, n, a, b, t, q, kd, w, z, sw) = true) (hact : jact k pc ls st m = some (.inl (g, p1, p2, ls', st', m')))
    (kt : g = true → jWs p l e R s mi args below meth c Q G k cells slots m p1 ls' st' m') (kf : g = false → ∀ q, p2 = some q → jWs p l e R s mi args below meth c Q G k cells slots m q ls' st' m') (hg : g = true ∨ p2 ≠ none) : W p l e R s mi args below meth c H locs cells slots Q (F0 mi pc lsC (st.map (jv G))) := by
  obtain ⟨hx, hb, hml, hown, hts, hnm, hSt, hf1, hf2⟩ := C
  unfold jact at hact
  rw [hI] at hact
  dsimp only at hact
  obtain ⟨h1, h2⟩ := jand hj
  have hn := Nat.eq_of_beq_eq_true h1
  subst hn
  obtain ⟨h2, h3⟩ := jand h2
  have h2 := Nat.eq_of_beq_eq_true h2
  subst h2
  have h3 := of_decide_eq_true h3
  split at hact
  next y hy =>
    split at hact
    next l2 hs =>
      unfold jg at hact
      cases hact
      obtain ⟨i, hi⟩ := List.getElem?_of_mem (jas_mem (G := G) hy (fun q => by cases q))
      exact lv_iinc (k := i) (v := y + w) hx hb hdg hl.has hi (by rw [h3]) (by rw [← hl.2.1]; exact (jst_of hs).1) rfl (fun ls2 h2 => kt rfl _ _ _ _ _ M (jst_has hl.2.1 hs h2) rfl rfl)
    next => cases hact
  next => cases hact

set_option maxHeartbeats 1000000 in
theorem js_iadd  {n a b t q kd : Nat} {w : Int32} {z : Int64} {sw : List (Int32 × Nat)} (C : jCx p R s mi args meth c G k) (M : jMid G s H locs m) (hl : jLH G lsC (jL k) ls) (hI : jI k pc = some (.iadd, n, a, b, t, q, kd, w, z, sw)) (hdg : decode (jB k) pc = .ok (.iadd, n)) (hj : jok2 (jY k).cls (jY k).name (jT k) pc (.iadd, n, a, b, t, q, kd, w, z, sw) = true) (hact : jact k pc ls st m = some (.inl (g, p1, p2, ls', st', m')))
    (kt : g = true → jWs p l e R s mi args below meth c Q G k cells slots m p1 ls' st' m') (kf : g = false → ∀ q, p2 = some q → jWs p l e R s mi args below meth c Q G k cells slots m q ls' st' m') (hg : g = true ∨ p2 ≠ none) : W p l e R s mi args below meth c H locs cells slots Q (F0 mi pc lsC (st.map (jv G))) := by
  obtain ⟨hx, hb, hml, hown, hts, hnm, hSt, hf1, hf2⟩ := C
  unfold jact at hact
  rw [hI] at hact
  dsimp only at hact
  have hn := Nat.eq_of_beq_eq_true hj
  subst hn
  split at hact
  next =>
    unfold jg at hact
    cases hact
    exact lv_iadd hx hb hdg (kt rfl _ _ _ _ _ M hl rfl rfl)
  next => cases hact

set_option maxHeartbeats 1000000 in
theorem js_isub  {n a b t q kd : Nat} {w : Int32} {z : Int64} {sw : List (Int32 × Nat)} (C : jCx p R s mi args meth c G k) (M : jMid G s H locs m) (hl : jLH G lsC (jL k) ls) (hI : jI k pc = some (.isub, n, a, b, t, q, kd, w, z, sw)) (hdg : decode (jB k) pc = .ok (.isub, n)) (hj : jok2 (jY k).cls (jY k).name (jT k) pc (.isub, n, a, b, t, q, kd, w, z, sw) = true) (hact : jact k pc ls st m = some (.inl (g, p1, p2, ls', st', m')))
    (kt : g = true → jWs p l e R s mi args below meth c Q G k cells slots m p1 ls' st' m') (kf : g = false → ∀ q, p2 = some q → jWs p l e R s mi args below meth c Q G k cells slots m q ls' st' m') (hg : g = true ∨ p2 ≠ none) : W p l e R s mi args below meth c H locs cells slots Q (F0 mi pc lsC (st.map (jv G))) := by
  obtain ⟨hx, hb, hml, hown, hts, hnm, hSt, hf1, hf2⟩ := C
  unfold jact at hact
  rw [hI] at hact
  dsimp only at hact
  have hn := Nat.eq_of_beq_eq_true hj
  subst hn
  split at hact
  next =>
    unfold jg at hact
    cases hact
    exact lv_isub hx hb hdg (kt rfl _ _ _ _ _ M hl rfl rfl)
  next => cases hact

set_option maxHeartbeats 1000000 in
theorem js_imul  {n a b t q kd : Nat} {w : Int32} {z : Int64} {sw : List (Int32 × Nat)} (C : jCx p R s mi args meth c G k) (M : jMid G s H locs m) (hl : jLH G lsC (jL k) ls) (hI : jI k pc = some (.imul, n, a, b, t, q, kd, w, z, sw)) (hdg : decode (jB k) pc = .ok (.imul, n)) (hj : jok2 (jY k).cls (jY k).name (jT k) pc (.imul, n, a, b, t, q, kd, w, z, sw) = true) (hact : jact k pc ls st m = some (.inl (g, p1, p2, ls', st', m')))
    (kt : g = true → jWs p l e R s mi args below meth c Q G k cells slots m p1 ls' st' m') (kf : g = false → ∀ q, p2 = some q → jWs p l e R s mi args below meth c Q G k cells slots m q ls' st' m') (hg : g = true ∨ p2 ≠ none) : W p l e R s mi args below meth c H locs cells slots Q (F0 mi pc lsC (st.map (jv G))) := by
  obtain ⟨hx, hb, hml, hown, hts, hnm, hSt, hf1, hf2⟩ := C
  unfold jact at hact
  rw [hI] at hact
  dsimp only at hact
  have hn := Nat.eq_of_beq_eq_true hj
  subst hn
  split at hact
  next =>
    unfold jg at hact
    cases hact
    exact lv_imul hx hb hdg (kt rfl _ _ _ _ _ M hl rfl rfl)
  next => cases hact

set_option maxHeartbeats 1000000 in
theorem js_iand  {n a b t q kd : Nat} {w : Int32} {z : Int64} {sw : List (Int32 × Nat)} (C : jCx p R s mi args meth c G k) (M : jMid G s H locs m) (hl : jLH G lsC (jL k) ls) (hI : jI k pc = some (.iand, n, a, b, t, q, kd, w, z, sw)) (hdg : decode (jB k) pc = .ok (.iand, n)) (hj : jok2 (jY k).cls (jY k).name (jT k) pc (.iand, n, a, b, t, q, kd, w, z, sw) = true) (hact : jact k pc ls st m = some (.inl (g, p1, p2, ls', st', m')))
    (kt : g = true → jWs p l e R s mi args below meth c Q G k cells slots m p1 ls' st' m') (kf : g = false → ∀ q, p2 = some q → jWs p l e R s mi args below meth c Q G k cells slots m q ls' st' m') (hg : g = true ∨ p2 ≠ none) : W p l e R s mi args below meth c H locs cells slots Q (F0 mi pc lsC (st.map (jv G))) := by
  obtain ⟨hx, hb, hml, hown, hts, hnm, hSt, hf1, hf2⟩ := C
  unfold jact at hact
  rw [hI] at hact
  dsimp only at hact
  have hn := Nat.eq_of_beq_eq_true hj
  subst hn
  split at hact
  next =>
    unfold jg at hact
    cases hact
    exact lv_iand hx hb hdg (kt rfl _ _ _ _ _ M hl rfl rfl)
  next => cases hact

set_option maxHeartbeats 1000000 in
theorem js_ior  {n a b t q kd : Nat} {w : Int32} {z : Int64} {sw : List (Int32 × Nat)} (C : jCx p R s mi args meth c G k) (M : jMid G s H locs m) (hl : jLH G lsC (jL k) ls) (hI : jI k pc = some (.ior, n, a, b, t, q, kd, w, z, sw)) (hdg : decode (jB k) pc = .ok (.ior, n)) (hj : jok2 (jY k).cls (jY k).name (jT k) pc (.ior, n, a, b, t, q, kd, w, z, sw) = true) (hact : jact k pc ls st m = some (.inl (g, p1, p2, ls', st', m')))
    (kt : g = true → jWs p l e R s mi args below meth c Q G k cells slots m p1 ls' st' m') (kf : g = false → ∀ q, p2 = some q → jWs p l e R s mi args below meth c Q G k cells slots m q ls' st' m') (hg : g = true ∨ p2 ≠ none) : W p l e R s mi args below meth c H locs cells slots Q (F0 mi pc lsC (st.map (jv G))) := by
  obtain ⟨hx, hb, hml, hown, hts, hnm, hSt, hf1, hf2⟩ := C
  unfold jact at hact
  rw [hI] at hact
  dsimp only at hact
  have hn := Nat.eq_of_beq_eq_true hj
  subst hn
  split at hact
  next =>
    unfold jg at hact
    cases hact
    exact lv_ior hx hb hdg (kt rfl _ _ _ _ _ M hl rfl rfl)
  next => cases hact

set_option maxHeartbeats 1000000 in
theorem js_ixor  {n a b t q kd : Nat} {w : Int32} {z : Int64} {sw : List (Int32 × Nat)} (C : jCx p R s mi args meth c G k) (M : jMid G s H locs m) (hl : jLH G lsC (jL k) ls) (hI : jI k pc = some (.ixor, n, a, b, t, q, kd, w, z, sw)) (hdg : decode (jB k) pc = .ok (.ixor, n)) (hj : jok2 (jY k).cls (jY k).name (jT k) pc (.ixor, n, a, b, t, q, kd, w, z, sw) = true) (hact : jact k pc ls st m = some (.inl (g, p1, p2, ls', st', m')))
    (kt : g = true → jWs p l e R s mi args below meth c Q G k cells slots m p1 ls' st' m') (kf : g = false → ∀ q, p2 = some q → jWs p l e R s mi args below meth c Q G k cells slots m q ls' st' m') (hg : g = true ∨ p2 ≠ none) : W p l e R s mi args below meth c H locs cells slots Q (F0 mi pc lsC (st.map (jv G))) := by
  obtain ⟨hx, hb, hml, hown, hts, hnm, hSt, hf1, hf2⟩ := C
  unfold jact at hact
  rw [hI] at hact
  dsimp only at hact
  have hn := Nat.eq_of_beq_eq_true hj
  subst hn
  split at hact
  next =>
    unfold jg at hact
    cases hact
    exact lv_ixor hx hb hdg (kt rfl _ _ _ _ _ M hl rfl rfl)
  next => cases hact

set_option maxHeartbeats 1000000 in
theorem js_ishl  {n a b t q kd : Nat} {w : Int32} {z : Int64} {sw : List (Int32 × Nat)} (C : jCx p R s mi args meth c G k) (M : jMid G s H locs m) (hl : jLH G lsC (jL k) ls) (hI : jI k pc = some (.ishl, n, a, b, t, q, kd, w, z, sw)) (hdg : decode (jB k) pc = .ok (.ishl, n)) (hj : jok2 (jY k).cls (jY k).name (jT k) pc (.ishl, n, a, b, t, q, kd, w, z, sw) = true) (hact : jact k pc ls st m = some (.inl (g, p1, p2, ls', st', m')))
    (kt : g = true → jWs p l e R s mi args below meth c Q G k cells slots m p1 ls' st' m') (kf : g = false → ∀ q, p2 = some q → jWs p l e R s mi args below meth c Q G k cells slots m q ls' st' m') (hg : g = true ∨ p2 ≠ none) : W p l e R s mi args below meth c H locs cells slots Q (F0 mi pc lsC (st.map (jv G))) := by
  obtain ⟨hx, hb, hml, hown, hts, hnm, hSt, hf1, hf2⟩ := C
  unfold jact at hact
  rw [hI] at hact
  dsimp only at hact
  have hn := Nat.eq_of_beq_eq_true hj
  subst hn
  split at hact
  next =>
    unfold jg at hact
    cases hact
    exact lv_ishl hx hb hdg (kt rfl _ _ _ _ _ M hl rfl rfl)
  next => cases hact

set_option maxHeartbeats 1000000 in
theorem js_ishr  {n a b t q kd : Nat} {w : Int32} {z : Int64} {sw : List (Int32 × Nat)} (C : jCx p R s mi args meth c G k) (M : jMid G s H locs m) (hl : jLH G lsC (jL k) ls) (hI : jI k pc = some (.ishr, n, a, b, t, q, kd, w, z, sw)) (hdg : decode (jB k) pc = .ok (.ishr, n)) (hj : jok2 (jY k).cls (jY k).name (jT k) pc (.ishr, n, a, b, t, q, kd, w, z, sw) = true) (hact : jact k pc ls st m = some (.inl (g, p1, p2, ls', st', m')))
    (kt : g = true → jWs p l e R s mi args below meth c Q G k cells slots m p1 ls' st' m') (kf : g = false → ∀ q, p2 = some q → jWs p l e R s mi args below meth c Q G k cells slots m q ls' st' m') (hg : g = true ∨ p2 ≠ none) : W p l e R s mi args below meth c H locs cells slots Q (F0 mi pc lsC (st.map (jv G))) := by
  obtain ⟨hx, hb, hml, hown, hts, hnm, hSt, hf1, hf2⟩ := C
  unfold jact at hact
  rw [hI] at hact
  dsimp only at hact
  have hn := Nat.eq_of_beq_eq_true hj
  subst hn
  split at hact
  next =>
    unfold jg at hact
    cases hact
    exact lv_ishr hx hb hdg (kt rfl _ _ _ _ _ M hl rfl rfl)
  next => cases hact

set_option maxHeartbeats 1000000 in
theorem js_ineg  {n a b t q kd : Nat} {w : Int32} {z : Int64} {sw : List (Int32 × Nat)} (C : jCx p R s mi args meth c G k) (M : jMid G s H locs m) (hl : jLH G lsC (jL k) ls) (hI : jI k pc = some (.ineg, n, a, b, t, q, kd, w, z, sw)) (hdg : decode (jB k) pc = .ok (.ineg, n)) (hj : jok2 (jY k).cls (jY k).name (jT k) pc (.ineg, n, a, b, t, q, kd, w, z, sw) = true) (hact : jact k pc ls st m = some (.inl (g, p1, p2, ls', st', m')))
    (kt : g = true → jWs p l e R s mi args below meth c Q G k cells slots m p1 ls' st' m') (kf : g = false → ∀ q, p2 = some q → jWs p l e R s mi args below meth c Q G k cells slots m q ls' st' m') (hg : g = true ∨ p2 ≠ none) : W p l e R s mi args below meth c H locs cells slots Q (F0 mi pc lsC (st.map (jv G))) := by
  obtain ⟨hx, hb, hml, hown, hts, hnm, hSt, hf1, hf2⟩ := C
  unfold jact at hact
  rw [hI] at hact
  dsimp only at hact
  have hn := Nat.eq_of_beq_eq_true hj
  subst hn
  split at hact
  next =>
    unfold jg at hact
    cases hact
    exact lv_ineg hx hb hdg (kt rfl _ _ _ _ _ M hl rfl rfl)
  next => cases hact

set_option maxHeartbeats 1000000 in
theorem js_ladd  {n a b t q kd : Nat} {w : Int32} {z : Int64} {sw : List (Int32 × Nat)} (C : jCx p R s mi args meth c G k) (M : jMid G s H locs m) (hl : jLH G lsC (jL k) ls) (hI : jI k pc = some (.ladd, n, a, b, t, q, kd, w, z, sw)) (hdg : decode (jB k) pc = .ok (.ladd, n)) (hj : jok2 (jY k).cls (jY k).name (jT k) pc (.ladd, n, a, b, t, q, kd, w, z, sw) = true) (hact : jact k pc ls st m = some (.inl (g, p1, p2, ls', st', m')))
    (kt : g = true → jWs p l e R s mi args below meth c Q G k cells slots m p1 ls' st' m') (kf : g = false → ∀ q, p2 = some q → jWs p l e R s mi args below meth c Q G k cells slots m q ls' st' m') (hg : g = true ∨ p2 ≠ none) : W p l e R s mi args below meth c H locs cells slots Q (F0 mi pc lsC (st.map (jv G))) := by
  obtain ⟨hx, hb, hml, hown, hts, hnm, hSt, hf1, hf2⟩ := C
  unfold jact at hact
  rw [hI] at hact
  dsimp only at hact
  have hn := Nat.eq_of_beq_eq_true hj
  subst hn
  split at hact
  next =>
    unfold jg at hact
    cases hact
    exact lv_ladd hx hb hdg (kt rfl _ _ _ _ _ M hl rfl rfl)
  next => cases hact

set_option maxHeartbeats 1000000 in
theorem js_lmul  {n a b t q kd : Nat} {w : Int32} {z : Int64} {sw : List (Int32 × Nat)} (C : jCx p R s mi args meth c G k) (M : jMid G s H locs m) (hl : jLH G lsC (jL k) ls) (hI : jI k pc = some (.lmul, n, a, b, t, q, kd, w, z, sw)) (hdg : decode (jB k) pc = .ok (.lmul, n)) (hj : jok2 (jY k).cls (jY k).name (jT k) pc (.lmul, n, a, b, t, q, kd, w, z, sw) = true) (hact : jact k pc ls st m = some (.inl (g, p1, p2, ls', st', m')))
    (kt : g = true → jWs p l e R s mi args below meth c Q G k cells slots m p1 ls' st' m') (kf : g = false → ∀ q, p2 = some q → jWs p l e R s mi args below meth c Q G k cells slots m q ls' st' m') (hg : g = true ∨ p2 ≠ none) : W p l e R s mi args below meth c H locs cells slots Q (F0 mi pc lsC (st.map (jv G))) := by
  obtain ⟨hx, hb, hml, hown, hts, hnm, hSt, hf1, hf2⟩ := C
  unfold jact at hact
  rw [hI] at hact
  dsimp only at hact
  have hn := Nat.eq_of_beq_eq_true hj
  subst hn
  split at hact
  next =>
    unfold jg at hact
    cases hact
    exact lv_lmul hx hb hdg (kt rfl _ _ _ _ _ M hl rfl rfl)
  next => cases hact

set_option maxHeartbeats 1000000 in
theorem js_land  {n a b t q kd : Nat} {w : Int32} {z : Int64} {sw : List (Int32 × Nat)} (C : jCx p R s mi args meth c G k) (M : jMid G s H locs m) (hl : jLH G lsC (jL k) ls) (hI : jI k pc = some (.land, n, a, b, t, q, kd, w, z, sw)) (hdg : decode (jB k) pc = .ok (.land, n)) (hj : jok2 (jY k).cls (jY k).name (jT k) pc (.land, n, a, b, t, q, kd, w, z, sw) = true) (hact : jact k pc ls st m = some (.inl (g, p1, p2, ls', st', m')))
    (kt : g = true → jWs p l e R s mi args below meth c Q G k cells slots m p1 ls' st' m') (kf : g = false → ∀ q, p2 = some q → jWs p l e R s mi args below meth c Q G k cells slots m q ls' st' m') (hg : g = true ∨ p2 ≠ none) : W p l e R s mi args below meth c H locs cells slots Q (F0 mi pc lsC (st.map (jv G))) := by
  obtain ⟨hx, hb, hml, hown, hts, hnm, hSt, hf1, hf2⟩ := C
  unfold jact at hact
  rw [hI] at hact
  dsimp only at hact
  have hn := Nat.eq_of_beq_eq_true hj
  subst hn
  split at hact
  next =>
    unfold jg at hact
    cases hact
    exact lv_land hx hb hdg (kt rfl _ _ _ _ _ M hl rfl rfl)
  next => cases hact

set_option maxHeartbeats 1000000 in
theorem js_lor  {n a b t q kd : Nat} {w : Int32} {z : Int64} {sw : List (Int32 × Nat)} (C : jCx p R s mi args meth c G k) (M : jMid G s H locs m) (hl : jLH G lsC (jL k) ls) (hI : jI k pc = some (.lor, n, a, b, t, q, kd, w, z, sw)) (hdg : decode (jB k) pc = .ok (.lor, n)) (hj : jok2 (jY k).cls (jY k).name (jT k) pc (.lor, n, a, b, t, q, kd, w, z, sw) = true) (hact : jact k pc ls st m = some (.inl (g, p1, p2, ls', st', m')))
    (kt : g = true → jWs p l e R s mi args below meth c Q G k cells slots m p1 ls' st' m') (kf : g = false → ∀ q, p2 = some q → jWs p l e R s mi args below meth c Q G k cells slots m q ls' st' m') (hg : g = true ∨ p2 ≠ none) : W p l e R s mi args below meth c H locs cells slots Q (F0 mi pc lsC (st.map (jv G))) := by
  obtain ⟨hx, hb, hml, hown, hts, hnm, hSt, hf1, hf2⟩ := C
  unfold jact at hact
  rw [hI] at hact
  dsimp only at hact
  have hn := Nat.eq_of_beq_eq_true hj
  subst hn
  split at hact
  next =>
    unfold jg at hact
    cases hact
    exact lv_lor hx hb hdg (kt rfl _ _ _ _ _ M hl rfl rfl)
  next => cases hact

set_option maxHeartbeats 1000000 in
theorem js_iushr  {n a b t q kd : Nat} {w : Int32} {z : Int64} {sw : List (Int32 × Nat)} (C : jCx p R s mi args meth c G k) (M : jMid G s H locs m) (hl : jLH G lsC (jL k) ls) (hI : jI k pc = some (.iushr, n, a, b, t, q, kd, w, z, sw)) (hdg : decode (jB k) pc = .ok (.iushr, n)) (hj : jok2 (jY k).cls (jY k).name (jT k) pc (.iushr, n, a, b, t, q, kd, w, z, sw) = true) (hact : jact k pc ls st m = some (.inl (g, p1, p2, ls', st', m')))
    (kt : g = true → jWs p l e R s mi args below meth c Q G k cells slots m p1 ls' st' m') (kf : g = false → ∀ q, p2 = some q → jWs p l e R s mi args below meth c Q G k cells slots m q ls' st' m') (hg : g = true ∨ p2 ≠ none) : W p l e R s mi args below meth c H locs cells slots Q (F0 mi pc lsC (st.map (jv G))) := by
  obtain ⟨hx, hb, hml, hown, hts, hnm, hSt, hf1, hf2⟩ := C
  unfold jact at hact
  rw [hI] at hact
  dsimp only at hact
  have hn := Nat.eq_of_beq_eq_true hj
  subst hn
  split at hact
  next =>
    unfold jg at hact
    cases hact
    exact lv_iushr hx hb hdg rfl (kt rfl _ _ _ _ _ M hl rfl rfl)
  next => cases hact

set_option maxHeartbeats 1000000 in
theorem js_i2l  {n a b t q kd : Nat} {w : Int32} {z : Int64} {sw : List (Int32 × Nat)} (C : jCx p R s mi args meth c G k) (M : jMid G s H locs m) (hl : jLH G lsC (jL k) ls) (hI : jI k pc = some (.i2l, n, a, b, t, q, kd, w, z, sw)) (hdg : decode (jB k) pc = .ok (.i2l, n)) (hj : jok2 (jY k).cls (jY k).name (jT k) pc (.i2l, n, a, b, t, q, kd, w, z, sw) = true) (hact : jact k pc ls st m = some (.inl (g, p1, p2, ls', st', m')))
    (kt : g = true → jWs p l e R s mi args below meth c Q G k cells slots m p1 ls' st' m') (kf : g = false → ∀ q, p2 = some q → jWs p l e R s mi args below meth c Q G k cells slots m q ls' st' m') (hg : g = true ∨ p2 ≠ none) : W p l e R s mi args below meth c H locs cells slots Q (F0 mi pc lsC (st.map (jv G))) := by
  obtain ⟨hx, hb, hml, hown, hts, hnm, hSt, hf1, hf2⟩ := C
  unfold jact at hact
  rw [hI] at hact
  dsimp only at hact
  have hn := Nat.eq_of_beq_eq_true hj
  subst hn
  split at hact
  next =>
    unfold jg at hact
    cases hact
    exact lv_i2l hx hb hdg rfl (kt rfl _ _ _ _ _ M hl rfl rfl)
  next => cases hact

set_option maxHeartbeats 1000000 in
theorem js_l2i  {n a b t q kd : Nat} {w : Int32} {z : Int64} {sw : List (Int32 × Nat)} (C : jCx p R s mi args meth c G k) (M : jMid G s H locs m) (hl : jLH G lsC (jL k) ls) (hI : jI k pc = some (.l2i, n, a, b, t, q, kd, w, z, sw)) (hdg : decode (jB k) pc = .ok (.l2i, n)) (hj : jok2 (jY k).cls (jY k).name (jT k) pc (.l2i, n, a, b, t, q, kd, w, z, sw) = true) (hact : jact k pc ls st m = some (.inl (g, p1, p2, ls', st', m')))
    (kt : g = true → jWs p l e R s mi args below meth c Q G k cells slots m p1 ls' st' m') (kf : g = false → ∀ q, p2 = some q → jWs p l e R s mi args below meth c Q G k cells slots m q ls' st' m') (hg : g = true ∨ p2 ≠ none) : W p l e R s mi args below meth c H locs cells slots Q (F0 mi pc lsC (st.map (jv G))) := by
  obtain ⟨hx, hb, hml, hown, hts, hnm, hSt, hf1, hf2⟩ := C
  unfold jact at hact
  rw [hI] at hact
  dsimp only at hact
  have hn := Nat.eq_of_beq_eq_true hj
  subst hn
  split at hact
  next =>
    unfold jg at hact
    cases hact
    exact lv_l2i hx hb hdg rfl (kt rfl _ _ _ _ _ M hl rfl rfl)
  next => cases hact

set_option maxHeartbeats 1000000 in
theorem js_i2b  {n a b t q kd : Nat} {w : Int32} {z : Int64} {sw : List (Int32 × Nat)} (C : jCx p R s mi args meth c G k) (M : jMid G s H locs m) (hl : jLH G lsC (jL k) ls) (hI : jI k pc = some (.i2b, n, a, b, t, q, kd, w, z, sw)) (hdg : decode (jB k) pc = .ok (.i2b, n)) (hj : jok2 (jY k).cls (jY k).name (jT k) pc (.i2b, n, a, b, t, q, kd, w, z, sw) = true) (hact : jact k pc ls st m = some (.inl (g, p1, p2, ls', st', m')))
    (kt : g = true → jWs p l e R s mi args below meth c Q G k cells slots m p1 ls' st' m') (kf : g = false → ∀ q, p2 = some q → jWs p l e R s mi args below meth c Q G k cells slots m q ls' st' m') (hg : g = true ∨ p2 ≠ none) : W p l e R s mi args below meth c H locs cells slots Q (F0 mi pc lsC (st.map (jv G))) := by
  obtain ⟨hx, hb, hml, hown, hts, hnm, hSt, hf1, hf2⟩ := C
  unfold jact at hact
  rw [hI] at hact
  dsimp only at hact
  have hn := Nat.eq_of_beq_eq_true hj
  subst hn
  split at hact
  next =>
    unfold jg at hact
    cases hact
    exact lv_i2b hx hb hdg rfl (kt rfl _ _ _ _ _ M hl rfl rfl)
  next => cases hact

set_option maxHeartbeats 1000000 in
theorem js_lshl  {n a b t q kd : Nat} {w : Int32} {z : Int64} {sw : List (Int32 × Nat)} (C : jCx p R s mi args meth c G k) (M : jMid G s H locs m) (hl : jLH G lsC (jL k) ls) (hI : jI k pc = some (.lshl, n, a, b, t, q, kd, w, z, sw)) (hdg : decode (jB k) pc = .ok (.lshl, n)) (hj : jok2 (jY k).cls (jY k).name (jT k) pc (.lshl, n, a, b, t, q, kd, w, z, sw) = true) (hact : jact k pc ls st m = some (.inl (g, p1, p2, ls', st', m')))
    (kt : g = true → jWs p l e R s mi args below meth c Q G k cells slots m p1 ls' st' m') (kf : g = false → ∀ q, p2 = some q → jWs p l e R s mi args below meth c Q G k cells slots m q ls' st' m') (hg : g = true ∨ p2 ≠ none) : W p l e R s mi args below meth c H locs cells slots Q (F0 mi pc lsC (st.map (jv G))) := by
  obtain ⟨hx, hb, hml, hown, hts, hnm, hSt, hf1, hf2⟩ := C
  unfold jact at hact
  rw [hI] at hact
  dsimp only at hact
  have hn := Nat.eq_of_beq_eq_true hj
  subst hn
  split at hact
  next =>
    unfold jg at hact
    cases hact
    exact lv_lshl hx hb hdg rfl (kt rfl _ _ _ _ _ M hl rfl rfl)
  next => cases hact

set_option maxHeartbeats 1000000 in
theorem js_lshr  {n a b t q kd : Nat} {w : Int32} {z : Int64} {sw : List (Int32 × Nat)} (C : jCx p R s mi args meth c G k) (M : jMid G s H locs m) (hl : jLH G lsC (jL k) ls) (hI : jI k pc = some (.lshr, n, a, b, t, q, kd, w, z, sw)) (hdg : decode (jB k) pc = .ok (.lshr, n)) (hj : jok2 (jY k).cls (jY k).name (jT k) pc (.lshr, n, a, b, t, q, kd, w, z, sw) = true) (hact : jact k pc ls st m = some (.inl (g, p1, p2, ls', st', m')))
    (kt : g = true → jWs p l e R s mi args below meth c Q G k cells slots m p1 ls' st' m') (kf : g = false → ∀ q, p2 = some q → jWs p l e R s mi args below meth c Q G k cells slots m q ls' st' m') (hg : g = true ∨ p2 ≠ none) : W p l e R s mi args below meth c H locs cells slots Q (F0 mi pc lsC (st.map (jv G))) := by
  obtain ⟨hx, hb, hml, hown, hts, hnm, hSt, hf1, hf2⟩ := C
  unfold jact at hact
  rw [hI] at hact
  dsimp only at hact
  have hn := Nat.eq_of_beq_eq_true hj
  subst hn
  split at hact
  next =>
    unfold jg at hact
    cases hact
    exact lv_lshr hx hb hdg rfl (kt rfl _ _ _ _ _ M hl rfl rfl)
  next => cases hact

set_option maxHeartbeats 1000000 in
theorem js_i2s  {n a b t q kd : Nat} {w : Int32} {z : Int64} {sw : List (Int32 × Nat)} (C : jCx p R s mi args meth c G k) (M : jMid G s H locs m) (hl : jLH G lsC (jL k) ls) (hI : jI k pc = some (.i2s, n, a, b, t, q, kd, w, z, sw)) (hdg : decode (jB k) pc = .ok (.i2s, n)) (hj : jok2 (jY k).cls (jY k).name (jT k) pc (.i2s, n, a, b, t, q, kd, w, z, sw) = true) (hact : jact k pc ls st m = some (.inl (g, p1, p2, ls', st', m')))
    (kt : g = true → jWs p l e R s mi args below meth c Q G k cells slots m p1 ls' st' m') (kf : g = false → ∀ q, p2 = some q → jWs p l e R s mi args below meth c Q G k cells slots m q ls' st' m') (hg : g = true ∨ p2 ≠ none) : W p l e R s mi args below meth c H locs cells slots Q (F0 mi pc lsC (st.map (jv G))) := by
  obtain ⟨hx, hb, hml, hown, hts, hnm, hSt, hf1, hf2⟩ := C
  unfold jact at hact
  rw [hI] at hact
  dsimp only at hact
  have hn := Nat.eq_of_beq_eq_true hj
  subst hn
  split at hact
  next =>
    unfold jg at hact
    cases hact
    exact lv_i2s hx hb hdg rfl (kt rfl _ _ _ _ _ M hl rfl rfl)
  next => cases hact

set_option maxHeartbeats 1000000 in
theorem js_lcmp  {n a b t q kd : Nat} {w : Int32} {z : Int64} {sw : List (Int32 × Nat)} (C : jCx p R s mi args meth c G k) (M : jMid G s H locs m) (hl : jLH G lsC (jL k) ls) (hI : jI k pc = some (.lcmp, n, a, b, t, q, kd, w, z, sw)) (hdg : decode (jB k) pc = .ok (.lcmp, n)) (hj : jok2 (jY k).cls (jY k).name (jT k) pc (.lcmp, n, a, b, t, q, kd, w, z, sw) = true) (hact : jact k pc ls st m = some (.inl (g, p1, p2, ls', st', m')))
    (kt : g = true → jWs p l e R s mi args below meth c Q G k cells slots m p1 ls' st' m') (kf : g = false → ∀ q, p2 = some q → jWs p l e R s mi args below meth c Q G k cells slots m q ls' st' m') (hg : g = true ∨ p2 ≠ none) : W p l e R s mi args below meth c H locs cells slots Q (F0 mi pc lsC (st.map (jv G))) := by
  obtain ⟨hx, hb, hml, hown, hts, hnm, hSt, hf1, hf2⟩ := C
  unfold jact at hact
  rw [hI] at hact
  dsimp only at hact
  have hn := Nat.eq_of_beq_eq_true hj
  subst hn
  split at hact
  next =>
    unfold jg at hact
    cases hact
    exact W.lcmp hx hb hdg (kt rfl _ _ _ _ _ M hl rfl rfl)
  next => cases hact

set_option maxHeartbeats 1000000 in
theorem js_idiv  {n a b t q kd : Nat} {w : Int32} {z : Int64} {sw : List (Int32 × Nat)} (C : jCx p R s mi args meth c G k) (M : jMid G s H locs m) (hl : jLH G lsC (jL k) ls) (hI : jI k pc = some (.idiv, n, a, b, t, q, kd, w, z, sw)) (hdg : decode (jB k) pc = .ok (.idiv, n)) (hj : jok2 (jY k).cls (jY k).name (jT k) pc (.idiv, n, a, b, t, q, kd, w, z, sw) = true) (hact : jact k pc ls st m = some (.inl (g, p1, p2, ls', st', m')))
    (kt : g = true → jWs p l e R s mi args below meth c Q G k cells slots m p1 ls' st' m') (kf : g = false → ∀ q, p2 = some q → jWs p l e R s mi args below meth c Q G k cells slots m q ls' st' m') (hg : g = true ∨ p2 ≠ none) : W p l e R s mi args below meth c H locs cells slots Q (F0 mi pc lsC (st.map (jv G))) := by
  obtain ⟨hx, hb, hml, hown, hts, hnm, hSt, hf1, hf2⟩ := C
  unfold jact at hact
  rw [hI] at hact
  dsimp only at hact
  have hn := Nat.eq_of_beq_eq_true hj
  subst hn
  split at hact
  next y x r =>
    unfold jgg at hact
    cases hact
    have hy : ¬ y = 0 := by
      rcases hg with h | h
      · exact of_decide_eq_true h
      · exact absurd rfl h
    exact lv_idiv hx hb hdg hy (kt (decide_eq_true hy) _ _ _ _ _ M hl rfl rfl)
  next => cases hact

set_option maxHeartbeats 1000000 in
theorem js_irem  {n a b t q kd : Nat} {w : Int32} {z : Int64} {sw : List (Int32 × Nat)} (C : jCx p R s mi args meth c G k) (M : jMid G s H locs m) (hl : jLH G lsC (jL k) ls) (hI : jI k pc = some (.irem, n, a, b, t, q, kd, w, z, sw)) (hdg : decode (jB k) pc = .ok (.irem, n)) (hj : jok2 (jY k).cls (jY k).name (jT k) pc (.irem, n, a, b, t, q, kd, w, z, sw) = true) (hact : jact k pc ls st m = some (.inl (g, p1, p2, ls', st', m')))
    (kt : g = true → jWs p l e R s mi args below meth c Q G k cells slots m p1 ls' st' m') (kf : g = false → ∀ q, p2 = some q → jWs p l e R s mi args below meth c Q G k cells slots m q ls' st' m') (hg : g = true ∨ p2 ≠ none) : W p l e R s mi args below meth c H locs cells slots Q (F0 mi pc lsC (st.map (jv G))) := by
  obtain ⟨hx, hb, hml, hown, hts, hnm, hSt, hf1, hf2⟩ := C
  unfold jact at hact
  rw [hI] at hact
  dsimp only at hact
  have hn := Nat.eq_of_beq_eq_true hj
  subst hn
  split at hact
  next y x r =>
    unfold jgg at hact
    cases hact
    have hy : ¬ y = 0 := by
      rcases hg with h | h
      · exact of_decide_eq_true h
      · exact absurd rfl h
    exact lv_irem hx hb hdg hy (kt (decide_eq_true hy) _ _ _ _ _ M hl rfl rfl)
  next => cases hact

set_option maxHeartbeats 1000000 in
theorem js_dup  {n a b t q kd : Nat} {w : Int32} {z : Int64} {sw : List (Int32 × Nat)} (C : jCx p R s mi args meth c G k) (M : jMid G s H locs m) (hl : jLH G lsC (jL k) ls) (hI : jI k pc = some (.dup, n, a, b, t, q, kd, w, z, sw)) (hdg : decode (jB k) pc = .ok (.dup, n)) (hj : jok2 (jY k).cls (jY k).name (jT k) pc (.dup, n, a, b, t, q, kd, w, z, sw) = true) (hact : jact k pc ls st m = some (.inl (g, p1, p2, ls', st', m')))
    (kt : g = true → jWs p l e R s mi args below meth c Q G k cells slots m p1 ls' st' m') (kf : g = false → ∀ q, p2 = some q → jWs p l e R s mi args below meth c Q G k cells slots m q ls' st' m') (hg : g = true ∨ p2 ≠ none) : W p l e R s mi args below meth c H locs cells slots Q (F0 mi pc lsC (st.map (jv G))) := by
  obtain ⟨hx, hb, hml, hown, hts, hnm, hSt, hf1, hf2⟩ := C
  unfold jact at hact
  rw [hI] at hact
  dsimp only at hact
  have hn := Nat.eq_of_beq_eq_true hj
  subst hn
  split at hact
  next =>
    unfold jg at hact
    cases hact
    exact lv_dup hx hb hdg rfl (kt rfl _ _ _ _ _ M hl rfl rfl)
  next =>
    unfold jg at hact
    cases hact
    exact lv_dup hx hb hdg rfl (kt rfl _ _ _ _ _ M hl rfl rfl)
  next => cases hact

set_option maxHeartbeats 1000000 in
theorem js_pop  {n a b t q kd : Nat} {w : Int32} {z : Int64} {sw : List (Int32 × Nat)} (C : jCx p R s mi args meth c G k) (M : jMid G s H locs m) (hl : jLH G lsC (jL k) ls) (hI : jI k pc = some (.pop, n, a, b, t, q, kd, w, z, sw)) (hdg : decode (jB k) pc = .ok (.pop, n)) (hj : jok2 (jY k).cls (jY k).name (jT k) pc (.pop, n, a, b, t, q, kd, w, z, sw) = true) (hact : jact k pc ls st m = some (.inl (g, p1, p2, ls', st', m')))
    (kt : g = true → jWs p l e R s mi args below meth c Q G k cells slots m p1 ls' st' m') (kf : g = false → ∀ q, p2 = some q → jWs p l e R s mi args below meth c Q G k cells slots m q ls' st' m') (hg : g = true ∨ p2 ≠ none) : W p l e R s mi args below meth c H locs cells slots Q (F0 mi pc lsC (st.map (jv G))) := by
  obtain ⟨hx, hb, hml, hown, hts, hnm, hSt, hf1, hf2⟩ := C
  unfold jact at hact
  rw [hI] at hact
  dsimp only at hact
  have hn := Nat.eq_of_beq_eq_true hj
  subst hn
  split at hact
  next =>
    unfold jg at hact
    cases hact
    exact lv_pop hx hb hdg rfl (kt rfl _ _ _ _ _ M hl rfl rfl)
  next =>
    unfold jg at hact
    cases hact
    exact lv_pop hx hb hdg rfl (kt rfl _ _ _ _ _ M hl rfl rfl)
  next => cases hact

set_option maxHeartbeats 1000000 in
theorem js_dup2  {n a b t q kd : Nat} {w : Int32} {z : Int64} {sw : List (Int32 × Nat)} (C : jCx p R s mi args meth c G k) (M : jMid G s H locs m) (hl : jLH G lsC (jL k) ls) (hI : jI k pc = some (.dup2, n, a, b, t, q, kd, w, z, sw)) (hdg : decode (jB k) pc = .ok (.dup2, n)) (hj : jok2 (jY k).cls (jY k).name (jT k) pc (.dup2, n, a, b, t, q, kd, w, z, sw) = true) (hact : jact k pc ls st m = some (.inl (g, p1, p2, ls', st', m')))
    (kt : g = true → jWs p l e R s mi args below meth c Q G k cells slots m p1 ls' st' m') (kf : g = false → ∀ q, p2 = some q → jWs p l e R s mi args below meth c Q G k cells slots m q ls' st' m') (hg : g = true ∨ p2 ≠ none) : W p l e R s mi args below meth c H locs cells slots Q (F0 mi pc lsC (st.map (jv G))) := by
  obtain ⟨hx, hb, hml, hown, hts, hnm, hSt, hf1, hf2⟩ := C
  unfold jact at hact
  rw [hI] at hact
  dsimp only at hact
  have hn := Nat.eq_of_beq_eq_true hj
  subst hn
  split at hact
  next =>
    unfold jg at hact
    cases hact
    exact lv_dup2_11 hx hb hdg rfl rfl (kt rfl _ _ _ _ _ M hl rfl rfl)
  next => cases hact

set_option maxHeartbeats 1000000 in
theorem js_dup_x1  {n a b t q kd : Nat} {w : Int32} {z : Int64} {sw : List (Int32 × Nat)} (C : jCx p R s mi args meth c G k) (M : jMid G s H locs m) (hl : jLH G lsC (jL k) ls) (hI : jI k pc = some (.dup_x1, n, a, b, t, q, kd, w, z, sw)) (hdg : decode (jB k) pc = .ok (.dup_x1, n)) (hj : jok2 (jY k).cls (jY k).name (jT k) pc (.dup_x1, n, a, b, t, q, kd, w, z, sw) = true) (hact : jact k pc ls st m = some (.inl (g, p1, p2, ls', st', m')))
    (kt : g = true → jWs p l e R s mi args below meth c Q G k cells slots m p1 ls' st' m') (kf : g = false → ∀ q, p2 = some q → jWs p l e R s mi args below meth c Q G k cells slots m q ls' st' m') (hg : g = true ∨ p2 ≠ none) : W p l e R s mi args below meth c H locs cells slots Q (F0 mi pc lsC (st.map (jv G))) := by
  obtain ⟨hx, hb, hml, hown, hts, hnm, hSt, hf1, hf2⟩ := C
  unfold jact at hact
  rw [hI] at hact
  dsimp only at hact
  have hn := Nat.eq_of_beq_eq_true hj
  subst hn
  split at hact
  next =>
    unfold jg at hact
    cases hact
    exact lv_dup_x1 hx hb hdg rfl rfl (kt rfl _ _ _ _ _ M hl rfl rfl)
  next => cases hact

set_option maxHeartbeats 1000000 in
theorem js_goto {o : Int} {n a b t q kd : Nat} {w : Int32} {z : Int64} {sw : List (Int32 × Nat)} (C : jCx p R s mi args meth c G k) (M : jMid G s H locs m) (hl : jLH G lsC (jL k) ls) (hI : jI k pc = some (.goto o, n, a, b, t, q, kd, w, z, sw)) (hdg : decode (jB k) pc = .ok (.goto o, n)) (hj : jok2 (jY k).cls (jY k).name (jT k) pc (.goto o, n, a, b, t, q, kd, w, z, sw) = true) (hact : jact k pc ls st m = some (.inl (g, p1, p2, ls', st', m')))
    (kt : g = true → jWs p l e R s mi args below meth c Q G k cells slots m p1 ls' st' m') (kf : g = false → ∀ q, p2 = some q → jWs p l e R s mi args below meth c Q G k cells slots m q ls' st' m') (hg : g = true ∨ p2 ≠ none) : W p l e R s mi args below meth c H locs cells slots Q (F0 mi pc lsC (st.map (jv G))) := by
  obtain ⟨hx, hb, hml, hown, hts, hnm, hSt, hf1, hf2⟩ := C
  unfold jact at hact
  rw [hI] at hact
  dsimp only at hact
  obtain ⟨h1, h2⟩ := jand hj
  have hn := Nat.eq_of_beq_eq_true h1
  subst hn
  unfold jg at hact
  cases hact
  exact lv_goto hx hb hdg (of_decide_eq_true h2) (kt rfl _ _ _ _ _ M hl rfl rfl)

set_option maxHeartbeats 1000000 in
theorem js_ifCond {cd : Jvm.ClassFile.Cond} {o : Int} {n a b t q kd : Nat} {w : Int32} {z : Int64} {sw : List (Int32 × Nat)} (C : jCx p R s mi args meth c G k) (M : jMid G s H locs m) (hl : jLH G lsC (jL k) ls) (hI : jI k pc = some (.ifCond cd o, n, a, b, t, q, kd, w, z, sw)) (hdg : decode (jB k) pc = .ok (.ifCond cd o, n)) (hj : jok2 (jY k).cls (jY k).name (jT k) pc (.ifCond cd o, n, a, b, t, q, kd, w, z, sw) = true) (hact : jact k pc ls st m = some (.inl (g, p1, p2, ls', st', m')))
    (kt : g = true → jWs p l e R s mi args below meth c Q G k cells slots m p1 ls' st' m') (kf : g = false → ∀ q, p2 = some q → jWs p l e R s mi args below meth c Q G k cells slots m q ls' st' m') (hg : g = true ∨ p2 ≠ none) : W p l e R s mi args below meth c H locs cells slots Q (F0 mi pc lsC (st.map (jv G))) := by
  obtain ⟨hx, hb, hml, hown, hts, hnm, hSt, hf1, hf2⟩ := C
  unfold jact at hact
  rw [hI] at hact
  dsimp only at hact
  obtain ⟨h1, h2⟩ := jand hj
  have hn := Nat.eq_of_beq_eq_true h1
  subst hn
  have h2 := of_decide_eq_true h2
  split at hact
  next x r =>
    cases hact
    cases cd with
    | eq => exact lv_if_eq hx hb hdg h2 (fun q => kt (decide_eq_true q) _ _ _ _ _ M hl rfl rfl) (fun q => kf (decide_eq_false q) _ rfl _ _ _ _ _ M hl rfl rfl)
    | ne => exact lv_if_ne hx hb hdg h2 (fun q => kt (decide_eq_true q) _ _ _ _ _ M hl rfl rfl) (fun q => kf (decide_eq_false (fun h => h q)) _ rfl _ _ _ _ _ M hl rfl rfl)
    | lt => exact lv_if_lt hx hb hdg h2 (fun q => kt (decide_eq_true q) _ _ _ _ _ M hl rfl rfl) (fun q => kf (decide_eq_false q) _ rfl _ _ _ _ _ M hl rfl rfl)
    | ge => exact lv_if_ge hx hb hdg h2 (fun q => kt (decide_eq_true q) _ _ _ _ _ M hl rfl rfl) (fun q => kf (decide_eq_false q) _ rfl _ _ _ _ _ M hl rfl rfl)
    | gt => exact lv_if_gt hx hb hdg h2 (fun q => kt (decide_eq_true q) _ _ _ _ _ M hl rfl rfl) (fun q => kf (decide_eq_false q) _ rfl _ _ _ _ _ M hl rfl rfl)
    | le => exact lv_if_le hx hb hdg h2 (fun q => kt (decide_eq_true q) _ _ _ _ _ M hl rfl rfl) (fun q => kf (decide_eq_false q) _ rfl _ _ _ _ _ M hl rfl rfl)
  next => cases hact

set_option maxHeartbeats 1000000 in
theorem js_if_icmp {cd : Jvm.ClassFile.Cond} {o : Int} {n a b t q kd : Nat} {w : Int32} {z : Int64} {sw : List (Int32 × Nat)} (C : jCx p R s mi args meth c G k) (M : jMid G s H locs m) (hl : jLH G lsC (jL k) ls) (hI : jI k pc = some (.if_icmp cd o, n, a, b, t, q, kd, w, z, sw)) (hdg : decode (jB k) pc = .ok (.if_icmp cd o, n)) (hj : jok2 (jY k).cls (jY k).name (jT k) pc (.if_icmp cd o, n, a, b, t, q, kd, w, z, sw) = true) (hact : jact k pc ls st m = some (.inl (g, p1, p2, ls', st', m')))
    (kt : g = true → jWs p l e R s mi args below meth c Q G k cells slots m p1 ls' st' m') (kf : g = false → ∀ q, p2 = some q → jWs p l e R s mi args below meth c Q G k cells slots m q ls' st' m') (hg : g = true ∨ p2 ≠ none) : W p l e R s mi args below meth c H locs cells slots Q (F0 mi pc lsC (st.map (jv G))) := by
  obtain ⟨hx, hb, hml, hown, hts, hnm, hSt, hf1, hf2⟩ := C
  unfold jact at hact
  rw [hI] at hact
  dsimp only at hact
  obtain ⟨h1, h2⟩ := jand hj
  have hn := Nat.eq_of_beq_eq_true h1
  subst hn
  have h2 := of_decide_eq_true h2
  split at hact
  next y x r =>
    cases hact
    cases cd with
    | eq => exact lv_icmp_eq hx hb hdg h2 (fun q => kt (decide_eq_true q) _ _ _ _ _ M hl rfl rfl) (fun q => kf (decide_eq_false q) _ rfl _ _ _ _ _ M hl rfl rfl)
    | ne => exact lv_icmp_ne hx hb hdg h2 (fun q => kt (decide_eq_true q) _ _ _ _ _ M hl rfl rfl) (fun q => kf (decide_eq_false (fun h => h q)) _ rfl _ _ _ _ _ M hl rfl rfl)
    | lt => exact lv_icmp_lt hx hb hdg h2 (fun q => kt (decide_eq_true q) _ _ _ _ _ M hl rfl rfl) (fun q => kf (decide_eq_false q) _ rfl _ _ _ _ _ M hl rfl rfl)
    | ge => exact lv_icmp_ge hx hb hdg h2 (fun q => kt (decide_eq_true q) _ _ _ _ _ M hl rfl rfl) (fun q => kf (decide_eq_false q) _ rfl _ _ _ _ _ M hl rfl rfl)
    | gt => exact lv_icmp_gt hx hb hdg h2 (fun q => kt (decide_eq_true q) _ _ _ _ _ M hl rfl rfl) (fun q => kf (decide_eq_false q) _ rfl _ _ _ _ _ M hl rfl rfl)
    | le => exact lv_icmp_le hx hb hdg h2 (fun q => kt (decide_eq_true q) _ _ _ _ _ M hl rfl rfl) (fun q => kf (decide_eq_false q) _ rfl _ _ _ _ _ M hl rfl rfl)
  next => cases hact

set_option maxHeartbeats 1000000 in
theorem js_tableswitch {d lo hi : Int} {offs : Array Int} {n a b t q kd : Nat} {w : Int32} {z : Int64} {sw : List (Int32 × Nat)} (C : jCx p R s mi args meth c G k) (M : jMid G s H locs m) (hl : jLH G lsC (jL k) ls) (hI : jI k pc = some (.tableswitch d lo hi offs, n, a, b, t, q, kd, w, z, sw)) (hdg : decode (jB k) pc = .ok (.tableswitch d lo hi offs, n)) (hj : jok2 (jY k).cls (jY k).name (jT k) pc (.tableswitch d lo hi offs, n, a, b, t, q, kd, w, z, sw) = true) (hact : jact k pc ls st m = some (.inl (g, p1, p2, ls', st', m')))
    (kt : g = true → jWs p l e R s mi args below meth c Q G k cells slots m p1 ls' st' m') (kf : g = false → ∀ q, p2 = some q → jWs p l e R s mi args below meth c Q G k cells slots m q ls' st' m') (hg : g = true ∨ p2 ≠ none) : W p l e R s mi args below meth c H locs cells slots Q (F0 mi pc lsC (st.map (jv G))) := by
  obtain ⟨hx, hb, hml, hown, hts, hnm, hSt, hf1, hf2⟩ := C
  unfold jact at hact
  rw [hI] at hact
  dsimp only at hact
  obtain ⟨h1, h2⟩ := jand hj
  obtain ⟨h2, h3⟩ := jand h2
  obtain ⟨h3, h4⟩ := jand h3
  obtain ⟨h4, h5⟩ := jand h4
  have h1 := of_decide_eq_true h1
  have h2 := of_decide_eq_true h2
  have h3 := of_decide_eq_true h3
  have h4 := of_decide_eq_true h4
  split at hact
  next x r =>
    unfold jg at hact
    cases hact
    have hlen : offs.toList.length = offs.size := by simp
    obtain ⟨j1, j2⟩ := jsw_tab (x := x) (lo := lo) (pc := pc) (a := a) sw offs.toList 0 (by rw [h4]; simp) (fun j hj => by
      have := List.all_eq_true.mp h5 j (List.mem_range.mpr (by simpa using hj))
      split at this
      next o v y e1 e2 =>
        obtain ⟨g1, g2⟩ := jand this
        refine ⟨o, y, by simpa using e1, ?_, of_decide_eq_true g2⟩
        rw [e2, of_decide_eq_true g1, Nat.zero_add]
      next => cases this) h3.1 (by simp; omega)
    by_cases hlo : x.toInt < lo
    · refine lv_tableOut hx hb hdg (Or.inl hlo) h1 ?_
      have := kt rfl _ _ _ _ _ M hl rfl rfl
      rwa [j2 (Or.inl (by simpa using hlo))] at this
    by_cases hhi : hi < x.toInt
    · refine lv_tableOut hx hb hdg (Or.inr hhi) h1 ?_
      have := kt rfl _ _ _ _ _ M hl rfl rfl
      rwa [j2 (Or.inr (by simp; omega))] at this
    obtain ⟨o, g1, g2⟩ := j1 (x.toInt - lo).toNat (by simp; omega) (by simp; omega)
    exact lv_tableIn hx hb hdg hlo hhi (by simpa using g1) g2 (kt rfl _ _ _ _ _ M hl rfl rfl)
  next => cases hact

set_option maxHeartbeats 1000000 in
theorem js_lookupswitch {d : Int} {ps : Array (Int × Int)} {n a b t q kd : Nat} {w : Int32} {z : Int64} {sw : List (Int32 × Nat)} (C : jCx p R s mi args meth c G k) (M : jMid G s H locs m) (hl : jLH G lsC (jL k) ls) (hI : jI k pc = some (.lookupswitch d ps, n, a, b, t, q, kd, w, z, sw)) (hdg : decode (jB k) pc = .ok (.lookupswitch d ps, n)) (hj : jok2 (jY k).cls (jY k).name (jT k) pc (.lookupswitch d ps, n, a, b, t, q, kd, w, z, sw) = true) (hact : jact k pc ls st m = some (.inl (g, p1, p2, ls', st', m')))
    (kt : g = true → jWs p l e R s mi args below meth c Q G k cells slots m p1 ls' st' m') (kf : g = false → ∀ q, p2 = some q → jWs p l e R s mi args below meth c Q G k cells slots m q ls' st' m') (hg : g = true ∨ p2 ≠ none) : W p l e R s mi args below meth c H locs cells slots Q (F0 mi pc lsC (st.map (jv G))) := by
  obtain ⟨hx, hb, hml, hown, hts, hnm, hSt, hf1, hf2⟩ := C
  unfold jact at hact
  rw [hI] at hact
  dsimp only at hact
  obtain ⟨h1, h2⟩ := jand hj
  obtain ⟨h2, h3⟩ := jand h2
  have h1 := of_decide_eq_true h1
  have h3 := of_decide_eq_true h3
  split at hact
  next x r =>
    unfold jg at hact
    cases hact
    refine lv_lookup hx hb hdg h2 rfl ?_ (kt rfl _ _ _ _ _ M hl rfl rfl)
    rw [← h3]
    exact jsw_look h1 sw
  next => cases hact

end JGO
