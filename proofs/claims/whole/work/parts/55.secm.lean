/-! seconds: the reference -/
/-- the reference's lines -/
def lnM (I : Nat → Nat → Int32) : Nat → Nat → List aLn → Prop
  | _, _, [] => True
  | i, o, (a, b) :: r => I 69 i = nI o ∧ I 70 i = nI (o + a.length) ∧ I 71 i = nI (o + a.length + b.length) ∧ cdAt 72 I o (a.map nI) ∧ cdAt 72 I (o + a.length) (b.map nI) ∧ lnM I (i + 1) (o + a.length + b.length) r
def lwM (lw : List aLn) (I : Nat → Nat → Int32) : Prop := if lw = [] then I 58 14 = 0 else I 58 14 = 1 ∧ I 58 15 = nI lw.length ∧ lnM I 0 0 lw
/-- how many codes -/
def szL : List aLn → Nat
  | [] => 0
  | (a, b) :: r => a.length + b.length + szL r
section SEM
variable {d : Nat} {I I' : Nat → Nat → Int32} {L : Nat → Nat → Int64} {c e : Nat} {x y z : Int32} {env : Nat → Int32} {lw : List aLn} {p h f n k k' m o w t : Nat} {s : List Int32} {v : Nat → aMv} {pe : Nat → aPe} {D : Nat → Int32}
theorem stR_psh (hs : stR 77 I s) (hl : s.length = k) : stR 77 (ju I 77 k x) (x :: s) := by
  subst hl
  refine ⟨by simp [ju_get], stR_fr (fun j hj => ?_) hs⟩
  rw [ju_get, if_neg (by omega)]
/-- the names the reference reads -/
def nmM (env : Nat → Int32) (o w t : Nat) (I : Nat → Nat → Int32) : Prop := o < 6 ∧ w < 12 ∧ t < 54 ∧ I 64 o = env 0 ∧ I 63 w = env 1 ∧ env 2 = nI (t / 18) ∧ env 3 = nI (t / 2 % 3) ∧ ((I 65 o) >>> ((nI w) &&& 31)) &&& 1 = env 4 ∧ env 5 = nI w
theorem nmM_fr (hn : nmM env o w t I) (hf : ∀ q j, q ≠ 77 → I' q j = I q j) : nmM env o w t I' := by
  obtain ⟨h1, h2, h3, h4, h5, h6, h7, h8, h9⟩ := hn
  refine ⟨h1, h2, h3, ?_, ?_, h6, h7, ?_, h9⟩
  · rw [hf 64 o (by decide)]; exact h4
  · rw [hf 63 w (by decide)]; exact h5
  · rw [hf 65 o (by decide)]; exact h8
/-- one code -/
theorem q_201s {i : Nat} {x1 : Int32} {to : Nat} {v8 : Value} (hcc : t < 10018) {u : Nat} (hd : dpt k t = some k') (hl : s.length = k) (hk : k < 120) (hs : stR 77 I s) (hn : nmM env o w u I) (hc : I 72 i = nI t) (hi : i < to) (hto : to ≤ 200) : ∃ I' v8', jat d 201 6 [.ref 58, .int x1, .int (nI to), .int (nI o), .int (nI w), .int (nI u), .int (nI k), .int (nI i), v8] [] (jmk I L c e) = jat d 201 6 [.ref 58, .int x1, .int (nI to), .int (nI o), .int (nI w), .int (nI u), .int (nI k'), .int (nI (i + 1)), v8'] [] (jmk I' L c e) ∧ (evS env s t).length = k' ∧ stR 77 I' (evS env s t) ∧ ∀ q j, q ≠ 77 → I' q j = I q j := by
  unfold dpt at hd
  unfold evS
  obtain ⟨n1, n2, n3, n4, n5, n6, n7, n8, n9⟩ := hn
  have c18 : ((18 : Int32) ≤ nI t) ↔ 18 ≤ t := nI_leI (a := 18) (by decide) (by omega)
  have c5 : ((5 : Int32) < nI t) ↔ 5 < t := by
    rw [jlt_iff, nI_toInt (by omega)]
    simp only [Int32.reduceToInt]
    omega
  have cl18 : (nI t < (18 : Int32)) ↔ t < 18 := by
    rw [jlt_iff, nI_toInt (by omega)]
    simp only [Int32.reduceToInt]
    omega
  have hstore : ∀ (j : Nat) (a : Int32) (I1 : Nat → Nat → Int32) (x6 : Int32), j < 200 → jat d 201 139 [.ref 58, .int x1, .int (nI to), .int (nI o), .int (nI w), .int (nI u), .int x6, .int (nI i), .int (nI t)] [.int a, .int (nI j), .ref 77] (jmk I1 L c e) = jat d 201 6 [.ref 58, .int x1, .int (nI to), .int (nI o), .int (nI w), .int (nI u), .int x6, .int (nI (i + 1)), .int (nI t)] [] (jmk (ju I1 77 j a) L c e) := by
    intro j a I1 x6 hj
    rw [jb_201_139, jdI hj, cond_true, jcl' (by omega), nI_1]
  rw [jb_201_6, decide_eq_false (by rw [nI_leI (by omega) (by omega)]; omega), cond_false, jdI (by omega), cond_true, jcl' (by omega), hc]
  simp only [Bool.cond_decide, c18, c5]
  by_cases h6 : t < 6
  · rw [if_pos (Or.inl h6)] at hd
    cases hd
    rw [if_neg (by omega), if_neg (by omega), if_pos h6, jb_201_34]
    simp only [Bool.cond_decide, cl18]
    rw [if_pos (by omega), jb_201_58]
    have fin : jat d 201 139 [.ref 58, .int x1, .int (nI to), .int (nI o), .int (nI w), .int (nI u), .int (nI k + 1), .int (nI i), .int (nI t)] [.int (env t), .int (nI k), .ref 77] (jmk I L c e) = jat d 201 6 [.ref 58, .int x1, .int (nI to), .int (nI o), .int (nI w), .int (nI u), .int (nI (k + 1)), .int (nI (i + 1)), .int (nI t)] [] (jmk (ju I 77 k (env t)) L c e) := by
      rw [hstore k (env t) I _ (by omega), nI_1]
    refine ⟨_, .int (nI t), ?_, by simp [hl], stR_psh hs hl, fun q j hq => by rw [ju_get, if_neg (fun h => hq h.1)]⟩
    rw [← fin]
    have g1 : decide (jin (nI o) 6) = true := jdI n1
    have g2 : decide (jin (nI w) 12) = true := jdI n2
    have k1 : (nI o).toNatClampNeg = o := jcl' (by omega)
    have k2 : (nI w).toNatClampNeg = w := jcl' (by omega)
    have e18 : nI u / 18 = nI (u / 18) := pk_div (by omega) (by decide) (by decide)
    have e2 : nI u / 2 = nI (u / 2) := pk_div (by omega) (by decide) (by decide)
    have e3 : nI (u / 2) - nI (u / 2) / 3 * 3 = nI (u / 2 % 3) := pk_rem (by omega) (by decide) (by decide)
    rw [g1, g2, k1, k2, e18, e2, e3, n4, n5, ← n6, ← n7, n8]
    have : t = 0 ∨ t = 1 ∨ t = 2 ∨ t = 3 ∨ t = 4 ∨ t = 5 := by omega
    rcases this with rfl | rfl | rfl | rfl | rfl | rfl
    · rfl
    · rfl
    · rfl
    · rfl
    · rfl
    · rw [n9]; rfl
  · by_cases h18 : 18 ≤ t
    · rw [if_pos (Or.inr h18)] at hd
      cases hd
      rw [if_pos h18, if_neg h6, if_pos h18, jb_201_34]
      simp only [Bool.cond_decide, cl18]
      have e1 : nI t - 18 = nI (t - 18) := nI_sub (j := 18) h18 (by omega)
      rw [if_neg (by omega), jb_201_50, jb_201_55, e1, hstore k _ I _ (by omega), nI_1]
      exact ⟨_, .int (nI t), rfl, by simp [hl], stR_psh hs hl, fun q j hq => by rw [ju_get, if_neg (fun h => hq h.1)]⟩
    · rw [if_neg (by omega)] at hd
      rw [if_neg h18, if_pos (by omega), if_neg h6, if_neg h18, jb_201_143]
      have c16 : (nI t = (16 : Int32)) ↔ t = 16 := nI_eq (b := 16) (by omega) (by decide)
      have c17 : (nI t = (17 : Int32)) ↔ t = 17 := nI_eq (b := 17) (by omega) (by decide)
      simp only [Bool.cond_decide, c16, c17]
      by_cases h16 : t < 16
      · rw [if_pos h16] at hd ⊢
        by_cases h2 : 2 ≤ k
        · rw [if_pos h2] at hd
          cases hd
          match s, hl, hs with
          | [], hl, _ => exact absurd hl (by simp; omega)
          | [_], hl, _ => exact absurd hl (by simp; omega)
          | b :: a :: r, hl, hs =>
            obtain ⟨b1, b2, b3⟩ := hs
            simp only [List.length_cons] at hl b1
            obtain ⟨j, rfl⟩ : ∃ j, k = j + 2 := ⟨k - 2, by omega⟩
            have hr : r.length = j := by omega
            rw [hr] at b1 b2
            have e1 : nI (j + 2) + -1 = nI (j + 1) := by
              rw [← Int32.sub_eq_add_neg]
              exact nI_sub (j := 1) (by omega) (by omega)
            have e2 : nI (j + 1) - 1 = nI j := nI_sub (j := 1) (by omega) (by omega)
            rw [if_neg (by omega), if_pos (by omega), e1, e2, jb_201_217, jb_201_227, e2, jdI (by omega), jdI (by omega), cond_true, cond_true, jcl' (by omega), jcl' (by omega), b1, b2, q_200 (by omega) h16]
            simp only [Option.bind_some, jps]
            rw [jb_201_238, jdI (by omega), cond_true, jcl' (by omega), nI_1]
            refine ⟨_, .int (nI t), rfl, by simp [hr], stR_psh b3 hr, fun q j hq => by rw [ju_get, if_neg (fun h => hq h.1)]⟩
        · rw [if_neg h2] at hd
          cases hd
      · rw [if_neg h16] at hd ⊢
        by_cases h1 : 1 ≤ k
        · rw [if_pos h1] at hd
          cases hd
          match s, hl, hs with
          | [], hl, _ => exact absurd hl (by simp; omega)
          | a :: r, hl, hs =>
            obtain ⟨b1, b3⟩ := hs
            simp only [List.length_cons] at hl
            obtain ⟨j, rfl⟩ : ∃ j, k = j + 1 := ⟨k - 1, by omega⟩
            have hr : r.length = j := by omega
            rw [hr] at b1
            have e2 : nI (j + 1) - 1 = nI j := nI_sub (j := 1) (by omega) (by omega)
            have h157 : jat d 201 157 [.ref 58, .int x1, .int (nI to), .int (nI o), .int (nI w), .int (nI u), .int (nI (j + 1)), .int (nI i), .int (nI t)] [] (jmk I L c e) = jat d 201 6 [.ref 58, .int x1, .int (nI to), .int (nI o), .int (nI w), .int (nI u), .int (nI (j + 1)), .int (nI (i + 1)), .int (nI t)] [] (jmk (ju I 77 j (if t = 17 then -a else if ¬ a = 0 then 0 else 1)) L c e) := by
              rw [jb_201_157, jb_201_165, e2]
              simp only [Bool.cond_decide, c17]
              have g1 : decide (jin (nI j) 200) = true := jdI (by omega)
              rw [jb_201_193, jb_201_180, g1, jcl' (by omega), b1, nI_1]
              simp only [cond_true, Bool.cond_decide]
              by_cases h17 : t = 17
              · rw [if_neg (fun q => q h17), if_pos h17]
              · rw [if_pos h17, if_neg h17]
                by_cases h0 : a = 0
                · rw [if_neg (fun q => q h0), if_neg (fun q => q h0)]
                · rw [if_pos h0, if_pos h0]
            refine ⟨_, .int (nI t), ?_, by simp [hr], stR_psh b3 hr, fun q j hq => by rw [ju_get, if_neg (fun h => hq h.1)]⟩
            have h1617 : t = 16 ∨ t = 17 := by omega
            rcases h1617 with q | q
            · rw [if_pos q, h157]
            · rw [if_neg (by omega), if_neg (fun r => r q), h157]
        · rw [if_neg h1] at hd
          cases hd
theorem q_201l {x1 : Int32} {to u : Nat} (hto : to ≤ 200) : ∀ (l : List Nat) (i k : Nat) (s : List Int32) (I : Nat → Nat → Int32) (v8 : Value), wfF l k = some k' → (∀ t, t ∈ l → t < 10018) → cdAt 72 I i (l.map nI) → s.length = k → stR 77 I s → nmM env o w u I → k + l.length ≤ 120 → i + l.length = to → ∃ I' v8', jat d 201 6 [.ref 58, .int x1, .int (nI to), .int (nI o), .int (nI w), .int (nI u), .int (nI k), .int (nI i), v8] [] (jmk I L c e) = jat d 201 6 [.ref 58, .int x1, .int (nI to), .int (nI o), .int (nI w), .int (nI u), .int (nI k'), .int (nI to), v8'] [] (jmk I' L c e) ∧ (evL env l s).length = k' ∧ stR 77 I' (evL env l s) ∧ ∀ q j, q ≠ 77 → I' q j = I q j := by
  intro l
  induction l with
  | nil =>
    intro i k s I v8 hw _ _ hl hs _ _ hi
    cases hw
    have hi : i = to := hi
    subst hi
    exact ⟨I, v8, rfl, hl, hs, fun _ _ _ => rfl⟩
  | cons t l ih =>
    intro i k s I v8 hw h10 hc hl hs hn hk hi
    rw [List.length_cons] at hk hi
    obtain ⟨hc1, hc2⟩ := hc
    have ht10 := h10 t (List.mem_cons_self ..)
    have hw : (dpt k t).bind (wfF l) = some k' := hw
    cases hd : dpt k t with
    | none => rw [hd] at hw; cases hw
    | some k1 =>
      rw [hd] at hw
      have hw : wfF l k1 = some k' := hw
      have hk1 : k1 ≤ k + 1 := by
        unfold dpt at hd
        split at hd
        · cases hd; exact Nat.le_refl _
        · split at hd
          · split at hd
            · cases hd; omega
            · cases hd
          · split at hd
            · cases hd; omega
            · cases hd
      obtain ⟨I1, v1, f1, f2, f3, f4⟩ := q_201s (d := d) (L := L) (c := c) (e := e) (x1 := x1) (v8 := v8) ht10 hd hl (by omega) hs hn hc1 (show i < to by omega) hto
      obtain ⟨I2, v2, g1, g2, g3, g4⟩ := ih (i + 1) k1 _ I1 v1 hw (fun u hu => h10 u (List.mem_cons_of_mem _ hu)) (cdAt_fr (fun j _ _ => f4 72 j (by decide)) hc2) f2 f3 (nmM_fr hn f4) (by omega) (by omega)
      exact ⟨I2, v2, f1.trans g1, g2, g3, fun q j hq => (g4 q j hq).trans (f4 q j hq)⟩
theorem q_201 {i to u : Nat} {l : List Nat} (hw : wfF l 0 = some 1) (h10 : ∀ t, t ∈ l → t < 10018) (hc : cdAt 72 I i (l.map nI)) (hn : nmM env o w u I) (hl : l.length ≤ 120) (hi : i + l.length = to) (hto : to ≤ 200) : ∃ I', jev d 201 [.ref 58, .int (nI i), .int (nI to), .int (nI o), .int (nI w), .int (nI u)] (jmk I L c e) = some (some (.int (tp (evL env l []))), jmk I' L c e) ∧ ∀ q j, q ≠ 77 → I' q j = I q j := by
  obtain ⟨I2, v2, g1, g2, g3, g4⟩ := q_201l (d := d) (L := L) (c := c) (e := e) (x1 := nI i) hto l i 0 [] I .null hw h10 hc rfl trivial hn (by omega) hi
  refine ⟨I2, ?_, g4⟩
  rw [jb_201_0]
  show jat d 201 6 [.ref 58, .int (nI i), .int (nI to), .int (nI o), .int (nI w), .int (nI u), .int (nI 0), .int (nI i), .null] [] (jmk I L c e) = _
  rw [g1, jb_201_6, decide_eq_true (by rw [nI_leI (by omega) (by omega)]; exact Nat.le_refl _), cond_true]
  obtain ⟨a, ha⟩ := List.length_eq_one_iff.mp g2
  rw [ha] at g3 ⊢
  rw [show (0 : Int32).toNatClampNeg = 0 from rfl, show I2 77 0 = a from g3.1]
  rfl
theorem szL_fC : ∀ lw : List aLn, szL lw + lw.length ≤ (fC lw).length := by
  intro lw
  induction lw with
  | nil => exact Nat.le_refl _
  | cons x r ih =>
    obtain ⟨a, b⟩ := x
    rw [fC_len]
    show a.length + b.length + szL r + (r.length + 1) ≤ _
    by_cases h : a = []
    · rw [if_pos h, h]
      simp only [List.length_nil]
      omega
    · rw [if_neg h]
      omega
theorem wf_pos {l : List Nat} (h : wfF l 0 = some 1) : 1 ≤ l.length := by
  cases l with
  | nil => cases h
  | cons a l => exact Nat.succ_le_succ (Nat.zero_le _)
theorem lw_60 : ∀ lw : List aLn, (∀ x, x ∈ lw → lnOk x) → 2 * lw.length ≤ (fC lw).length := by
  intro lw
  induction lw with
  | nil => intro _; exact Nat.le_refl _
  | cons x r ih =>
    intro h
    have h1 := ih (fun x hx => h x (List.mem_cons_of_mem _ hx))
    have h2 := wf_pos (h x (List.mem_cons_self ..)).2.1
    obtain ⟨a, b⟩ := x
    rw [fC_len, List.length_cons]
    have h2 : 1 ≤ b.length := h2
    omega
theorem lnM_fr : ∀ (lw : List aLn) (i o : Nat), (∀ q j, 69 ≤ q → q ≤ 72 → I' q j = I q j) → lnM I i o lw → lnM I' i o lw := by
  intro lw
  induction lw with
  | nil => intro i o _ _; trivial
  | cons x r ih =>
    obtain ⟨a, b⟩ := x
    intro i o hf h
    obtain ⟨h1, h2, h3, h4, h5, h6⟩ := h
    exact ⟨(hf 69 i (by decide) (by decide)).trans h1, (hf 70 i (by decide) (by decide)).trans h2, (hf 71 i (by decide) (by decide)).trans h3, cdAt_fr (fun j _ _ => hf 72 j (by decide) (by decide)) h4, cdAt_fr (fun j _ _ => hf 72 j (by decide) (by decide)) h5, ih _ _ hf h6⟩
/-- the lines from the i-th on -/
theorem q_202l {u N : Nat} (hN : N ≤ 60) : ∀ (lw : List aLn) (i o' : Nat) (I : Nat → Nat → Int32), (∀ x, x ∈ lw → lnOk x) → i + lw.length = N → I 58 15 = nI N → lnM I i o' lw → o' + szL lw ≤ 120 → nmM env o w u I → ∃ I', jat d 202 51 [.ref 58, .int (nI o), .int (nI w), .int (nI u), .int (nI i)] [] (jmk I L c e) = some (some (.int (clp (secL env lw))), jmk I' L c e) ∧ ∀ q j, q ≠ 77 → I' q j = I q j := by
  intro lw
  induction lw with
  | nil =>
    intro i o' I _ hi h15 _ _ _
    have hi : i = N := hi
    subst hi
    refine ⟨I, ?_, fun _ _ _ => rfl⟩
    rw [jb_202_51, h15, decide_eq_true (by rw [nI_leI (by omega) (by omega)]; exact Nat.le_refl i), cond_true]
    rfl
  | cons x r ih =>
    obtain ⟨a, b⟩ := x
    intro i o' I hok hi h15 hl hsz hn
    rw [List.length_cons] at hi
    have hsz : o' + (a.length + b.length + szL r) ≤ 120 := hsz
    obtain ⟨l1, l2, l3, l4, l5, l6⟩ := hl
    obtain ⟨o1, o2, o3, o4⟩ := hok (a, b) (List.mem_cons_self ..)
    have hokr : ∀ x, x ∈ r → lnOk x := fun x hx => hok x (List.mem_cons_of_mem _ hx)
    have o1 : a = [] ∨ wfF a 0 = some 1 := o1
    have o2 : wfF b 0 = some 1 := o2
    have o3 : ∀ t, t ∈ a → t < 10018 := o3
    have o4 : ∀ t, t ∈ b → t < 10018 := o4
    have hb1 := wf_pos o2
    have hjn : decide (jin (nI i) 60) = true := jdI (by omega)
    have hcl : (nI i).toNatClampNeg = i := jcl' (by omega)
    have hsay : ∀ I1 : Nat → Nat → Int32, (∀ q j, q ≠ 77 → I1 q j = I q j) → ∃ I', jat d 202 104 [.ref 58, .int (nI o), .int (nI w), .int (nI u), .int (nI i)] [] (jmk I1 L c e) = some (some (.int (clp (tp (evL env b [])))), jmk I' L c e) ∧ ∀ q j, q ≠ 77 → I' q j = I q j := by
      intro I1 hf
      obtain ⟨I2, g1, g2⟩ := q_201 (d := d) (L := L) (c := c) (e := e) o2 o4 (cdAt_fr (I' := I1) (fun j _ _ => hf 72 j (by decide)) l5) (nmM_fr hn hf) (by omega) rfl (by omega)
      refine ⟨I2, ?_, fun q j hq => (g2 q j hq).trans (hf q j hq)⟩
      rw [jb_202_104, hjn, cond_true, cond_true, hcl, hf 70 i (by decide), hf 71 i (by decide), l2, l3, g1]
      simp only [Option.bind_some, jps]
      rw [jb_202_128]
      rfl
    rw [jb_202_51, h15, decide_eq_false (by rw [nI_leI (by omega) (by omega)]; omega), cond_false, hjn]
    simp only [cond_true]
    rw [hcl, l1, l2]
    unfold secL
    by_cases ha : a = []
    · have hno : ¬ (a ≠ [] ∧ tp (evL env a []) = 0) := fun q => q.1 ha
      rw [if_neg hno, decide_eq_true (by rw [nI_leI (by omega) (by omega), ha]; exact Nat.le_refl _), cond_true]
      exact hsay I (fun _ _ _ => rfl)
    · have hal := List.length_pos_iff.mpr ha
      rw [decide_eq_false (by rw [nI_leI (by omega) (by omega)]; omega), cond_false]
      obtain ⟨I1, g1, g2⟩ := q_201 (d := d) (L := L) (c := c) (e := e) (o1.resolve_left ha) o3 l4 hn (by omega) rfl (by omega)
      rw [g1]
      simp only [Option.bind_some, jps]
      rw [jb_202_98]
      by_cases h0 : tp (evL env a []) = 0
      · rw [if_pos ⟨ha, h0⟩, h0, jt_3, cond_false, nI_1]
        obtain ⟨I2, f1, f2⟩ := ih (i + 1) (o' + a.length + b.length) I1 hokr (by omega) ((g2 58 15 (by decide)).trans h15) (lnM_fr r _ _ (fun q j h1 h2 => g2 q j (by omega)) l6) (by omega) (nmM_fr hn g2)
        exact ⟨I2, f1, fun q j hq => (f2 q j hq).trans (g2 q j hq)⟩
      · rw [if_neg (fun q => h0 q.2), decide_eq_true h0, cond_true]
        exact hsay I1 g2
theorem fa_and (a b : Nat) : nI a &&& nI b = nI (a &&& b) := by
  apply Int32.toBitVec_inj.1
  show BitVec.ofNat 32 a &&& BitVec.ofNat 32 b = BitVec.ofNat 32 (a &&& b)
  apply BitVec.eq_of_getLsbD_eq
  intro i hi
  simp [hi]
theorem fa_or (a b : Nat) : nI a ||| nI b = nI (a ||| b) := by
  apply Int32.toBitVec_inj.1
  show BitVec.ofNat 32 a ||| BitVec.ofNat 32 b = BitVec.ofNat 32 (a ||| b)
  apply BitVec.eq_of_getLsbD_eq
  intro i hi
  simp [hi]
theorem and_1 (a : Nat) : nI a &&& 1 = nI (a % 2) := by
  rw [show (1 : Int32) = nI 1 from rfl, fa_and, Nat.and_one_is_mod]
theorem bit_nI {a i : Nat} (ha : a < 2 ^ 31) (hi : i < 12) : ((nI a) >>> ((nI i) &&& 31)) &&& 1 = nI (a / 2 ^ i % 2) := by
  have hs : ∀ i, i < 12 → (((nI i) &&& 31 : Int32).toBitVec.smod 32).toNat = i := by decide
  rw [pk_shrN ha _ i (hs i hi), and_1]
/-- how many seconds a move takes of one -/
abbrev sec (lw : List aLn) (v : Nat → aMv) (pe : Nat → aPe) (o w s : Nat) : Nat := secN lw (pe o).1 (v w).2.2.2.2 (s / 18) (s / 2 % 3) ((pe o).2.1 / 2 ^ w % 2) w
theorem q_202 (ho : lwOk lw) (hl : lwM lw I) (hk : kitM n v I) (hp : peM m pe D I) (hpo : peOk m pe D) (h1 : o < m) (h2 : w < n) (h3 : t < 54) : ∃ I', jev d 202 [.ref 58, .int (nI o), .int (nI w), .int (nI t)] (jmk I L c e) = some (some (.int (nI (sec lw v pe o w t))), jmk I' L c e) ∧ ∀ q j, q ≠ 77 → I' q j = I q j := by
  obtain ⟨o1, o2, o3, o4⟩ := hpo
  obtain ⟨p1, p2, p3, p4⟩ := hp
  obtain ⟨n1, n2, n3⟩ := hk
  obtain ⟨r1, r2, r3, r4⟩ := o2 o h1
  obtain ⟨u1, u2⟩ := p2 o h1
  have u3 := p3 o (by omega)
  obtain ⟨w1, -, -, -, -, w2⟩ := n3 w h2
  have w9 : (v w).2.2.2.2 ≤ 9 := w1.2.2.2.2.2.2
  have hb := bit_nI (a := (pe o).2.1) (i := w) (by omega) (by omega)
  have hbit : (pe o).2.1 / 2 ^ w % 2 ≤ 1 := by omega
  obtain ⟨s1, s2⟩ := secN_I (lw := lw) (p := (pe o).1) (h := (v w).2.2.2.2) (f := t / 18) (n := t / 2 % 3) (k := (pe o).2.1 / 2 ^ w % 2) (m := w) w9 hbit
  show ∃ I', jev d 202 [.ref 58, .int (nI o), .int (nI w), .int (nI t)] (jmk I L c e) = some (some (.int (nI (secN lw (pe o).1 (v w).2.2.2.2 (t / 18) (t / 2 % 3) ((pe o).2.1 / 2 ^ w % 2) w))), jmk I' L c e) ∧ _
  rw [← s1]
  have e0 : (0 : Int32) ≤ nI o := by
    rw [jle_iff, nI_toInt (by omega)]
    simp only [Int32.reduceToInt]
    omega
  rw [jb_202_0, decide_eq_true e0, cond_true]
  unfold lwM at hl
  unfold secI
  by_cases h0 : lw = []
  · rw [if_pos h0] at hl ⊢
    rw [hl, jt_3, cond_false, jdI (show w < 12 by omega), jdI (show o < 6 by omega)]
    simp only [cond_true]
    rw [jcl' (by omega), jcl' (by omega), u1, u3, w2, hb, sec_0 r1 w9 hbit]
    exact ⟨I, rfl, fun _ _ _ => rfl⟩
  · rw [if_neg h0] at hl ⊢
    obtain ⟨l1, l2, l3⟩ := hl
    have hs1 := szL_fC lw
    have hs2 := lw_60 lw ho.2
    have hs3 := ho.1
    have hs4 := List.length_pos_iff.mpr h0
    rw [l1, jt_1, cond_true]
    have hnm : nmM (envS (pe o).1 (v w).2.2.2.2 (t / 18) (t / 2 % 3) ((pe o).2.1 / 2 ^ w % 2) w) o w t I := by
      refine ⟨by omega, by omega, h3, u1, w2, rfl, rfl, ?_, rfl⟩
      rw [u3]
      exact hb
    exact q_202l (by omega) lw 0 0 I ho.2 (by omega) l2 l3 (by omega) hnm
end SEM
