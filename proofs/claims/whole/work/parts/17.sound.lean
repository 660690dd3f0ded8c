/-! what the abstract machine answers, the machine answers -/
section JSD
variable {p : Program} {l : Launch} {e : Env} {R : Room} {s : State} {mi : MethodId} {args : Array Value} {below : List Frame} {meth : Method} {c : Code} {H : Heap} {locs : List Loc} {cells slots : Nat} {Q : State → Prop} {G : jG}
variable {k pc : Nat} {ls st ls' st' : List Value} {m m' : jH} {g : Bool} {p1 : Nat} {p2 : Option Nat} {lsC : Array Slot}
set_option maxHeartbeats 4000000 in
theorem jgo {E : jE} (C : jCx p R s mi args meth c G k) (M : jMid G s H locs m) (hl : jLH G lsC (jL k) ls) (hI : jI k pc = some E) (hdg : decode (jB k) pc = .ok (E.1, E.2.1)) (hj : jok2 (jY k).cls (jY k).name (jT k) pc E = true) (hact : jact k pc ls st m = some (.inl (g, p1, p2, ls', st', m')))
    (kt : g = true → jWs p l e R s mi args below meth c Q G k cells slots m p1 ls' st' m') (kf : g = false → ∀ q, p2 = some q → jWs p l e R s mi args below meth c Q G k cells slots m q ls' st' m') (hg : g = true ∨ p2 ≠ none) (hr : ∀ cells', cells' + m.2.2.2.2.1 = cells + m'.2.2.2.2.1 → cells' ≤ R.cells) (hr2 : ∀ slots', slots' + jcs m.2.2.2.2.1 = slots + jcs m'.2.2.2.2.1 → slots' ≤ R.slots) : W p l e R s mi args below meth c H locs cells slots Q (F0 mi pc lsC (st.map (jv G))) := by
  obtain ⟨i, n, a, b, t, q, kd, w, z, sw⟩ := E
  cases i with
  | iconst x => exact js_iconst C M hl hI hdg hj hact kt kf hg
  | bipush x => exact js_bipush C M hl hI hdg hj hact kt kf hg
  | sipush x => exact js_sipush C M hl hI hdg hj hact kt kf hg
  | ldc x => exact js_ldc C M hl hI hdg hj hact kt kf hg
  | ldc_w x => exact js_ldc_w C M hl hI hdg hj hact kt kf hg
  | ldc2_w x => exact js_ldc2_w C M hl hI hdg hj hact kt kf hg
  | lconst x => exact js_lconst C M hl hI hdg hj hact kt kf hg
  | iload_n x => exact js_iload_n C M hl hI hdg hj hact kt kf hg
  | iload x => exact js_iload C M hl hI hdg hj hact kt kf hg
  | lload_n x => exact js_lload_n C M hl hI hdg hj hact kt kf hg
  | lload x => exact js_lload C M hl hI hdg hj hact kt kf hg
  | aload_n x => exact js_aload_n C M hl hI hdg hj hact kt kf hg
  | aload x => exact js_aload C M hl hI hdg hj hact kt kf hg
  | istore_n x => exact js_istore_n C M hl hI hdg hj hact kt kf hg
  | istore x => exact js_istore C M hl hI hdg hj hact kt kf hg
  | astore_n x => exact js_astore_n C M hl hI hdg hj hact kt kf hg
  | astore x => exact js_astore C M hl hI hdg hj hact kt kf hg
  | lstore_n x => exact js_lstore_n C M hl hI hdg hj hact kt kf hg
  | lstore x => exact js_lstore C M hl hI hdg hj hact kt kf hg
  | iinc x v => exact js_iinc C M hl hI hdg hj hact kt kf hg
  | iadd => exact js_iadd C M hl hI hdg hj hact kt kf hg
  | isub => exact js_isub C M hl hI hdg hj hact kt kf hg
  | imul => exact js_imul C M hl hI hdg hj hact kt kf hg
  | iand => exact js_iand C M hl hI hdg hj hact kt kf hg
  | ior => exact js_ior C M hl hI hdg hj hact kt kf hg
  | ixor => exact js_ixor C M hl hI hdg hj hact kt kf hg
  | ishl => exact js_ishl C M hl hI hdg hj hact kt kf hg
  | ishr => exact js_ishr C M hl hI hdg hj hact kt kf hg
  | iushr => exact js_iushr C M hl hI hdg hj hact kt kf hg
  | ineg => exact js_ineg C M hl hI hdg hj hact kt kf hg
  | ladd => exact js_ladd C M hl hI hdg hj hact kt kf hg
  | lmul => exact js_lmul C M hl hI hdg hj hact kt kf hg
  | land => exact js_land C M hl hI hdg hj hact kt kf hg
  | lor => exact js_lor C M hl hI hdg hj hact kt kf hg
  | lshl => exact js_lshl C M hl hI hdg hj hact kt kf hg
  | lshr => exact js_lshr C M hl hI hdg hj hact kt kf hg
  | lcmp => exact js_lcmp C M hl hI hdg hj hact kt kf hg
  | i2l => exact js_i2l C M hl hI hdg hj hact kt kf hg
  | l2i => exact js_l2i C M hl hI hdg hj hact kt kf hg
  | i2b => exact js_i2b C M hl hI hdg hj hact kt kf hg
  | i2s => exact js_i2s C M hl hI hdg hj hact kt kf hg
  | idiv => exact js_idiv C M hl hI hdg hj hact kt kf hg
  | irem => exact js_irem C M hl hI hdg hj hact kt kf hg
  | dup => exact js_dup C M hl hI hdg hj hact kt kf hg
  | pop => exact js_pop C M hl hI hdg hj hact kt kf hg
  | dup2 => exact js_dup2 C M hl hI hdg hj hact kt kf hg
  | dup_x1 => exact js_dup_x1 C M hl hI hdg hj hact kt kf hg
  | goto o => exact js_goto C M hl hI hdg hj hact kt kf hg
  | ifCond cd o => exact js_ifCond C M hl hI hdg hj hact kt kf hg
  | if_icmp cd o => exact js_if_icmp C M hl hI hdg hj hact kt kf hg
  | tableswitch d lo hi offs => exact js_tableswitch C M hl hI hdg hj hact kt kf hg
  | lookupswitch d ps => exact js_lookupswitch C M hl hI hdg hj hact kt kf hg
  | getfield x => exact js_getfield C M hl hI hdg hj hact kt
  | putfield x => exact js_putfield C M hl hI hdg hj hact kt hg
  | getstatic x => exact js_getstatic C M hl hI hdg hj hact kt hg hr hr2
  | iaload => exact js_iaload C M hl hI hdg hj hact kt hg hr hr2
  | baload => exact js_baload C M hl hI hdg hj hact kt hg hr hr2
  | laload => exact js_laload C M hl hI hdg hj hact kt hg hr hr2
  | aaload => exact js_aaload C M hl hI hdg hj hact kt hg hr hr2
  | arraylength => exact js_arraylength C M hl hI hdg hj hact kt hg hr hr2
  | iastore => exact js_iastore C M hl hI hdg hj hact kt hg hr hr2
  | bastore => exact js_bastore C M hl hI hdg hj hact kt hg hr hr2
  | lastore => exact js_lastore C M hl hI hdg hj hact kt hg hr hr2
  | new x => exact js_new C M hl hI hdg hj hact kt hg hr hr2
  | newarray ty => exact js_newarray C M hl hI hdg hj hact kt hg hr hr2
  | multianewarray x y => exact js_multianewarray C M hl hI hdg hj hact kt hg hr hr2
  | invokestatic x => exact js_invokestatic C M hl hI hdg hj hact kt hg hr hr2
  | invokespecial x => exact js_invokespecial C M hl hI hdg hj hact kt
  | invokevirtual x =>
    exfalso
    unfold jact at hact
    rw [hI] at hact
    dsimp only at hact
    split at hact
    · rw [Bool.cond_eq_ite] at hact
      split at hact
      · unfold jcall at hact
        rw [Bool.cond_eq_ite] at hact
        split at hact <;> cases hact
      · cases hact
    · cases hact
  | ireturn =>
    exfalso
    unfold jact at hact
    rw [hI] at hact
    dsimp only at hact
    simp only [Bool.cond_eq_ite] at hact
    repeat' split at hact
    all_goals cases hact
  | lreturn =>
    exfalso
    unfold jact at hact
    rw [hI] at hact
    dsimp only at hact
    split at hact <;> cases hact
  | return_ =>
    exfalso
    unfold jact at hact
    rw [hI] at hact
    dsimp only at hact
    split at hact <;> cases hact
  | _ => cases hj
end JSD
