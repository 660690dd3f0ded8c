/-! the reference goes -/
def sdF (n : Nat) (c t : Nat → Nat → Nat) (a : Nat) (far : Nat → Nat) : Prop := far a = 0 ∧ ∀ u, u < 54 → far u < 1000000 → DD n c t (far u) a u
section GOE
variable {n : Nat} {c t : Nat → Nat → Nat} {far far0 : Nat → Nat} {a : Nat}
theorem wk_end : ∀ {k W s u : Nat}, wk n c t k W s u → ∀ {w : Nat}, w < n → 0 < c w u → DD n c t (W + c w u) s (t w u) := fun h _ h1 h2 => ⟨_, wk_snoc h h1 h2⟩
theorem sdF_step (ha : a < 54) {s m : Nat} (hs : s < 54) (hm : m < n) (h : sdF n c t a far) (hr : rcF c (fun s _ => s) (fun s m => t m s) far s m) : sdF n c t a (upF far (t m s) (far s + c m s)) := by
  obtain ⟨h1, h2⟩ := h
  obtain ⟨r1, r2, r3⟩ := hr
  have r1 : far s < 1000000 := r1
  have r3 : far s + c m s < far (t m s) := r3
  constructor
  · unfold upF
    by_cases q : a = t m s
    · rw [← q] at r3
      omega
    · rw [if_neg q]
      exact h1
  · intro u hu hl
    unfold upF at hl ⊢
    by_cases q : u = t m s
    · rw [if_pos q, q]
      obtain ⟨k, hk⟩ := h2 s hs r1
      exact ⟨k + 1, wk_snoc hk hm r2⟩
    · rw [if_neg q] at hl ⊢
      exact h2 u hu hl
theorem goes_dst (hg : gOk n c t) (ha : a < 54) (h1 : rI far) (h2 : sdF n c t a far) (h3 : ∀ s' m', m' < n → s' < 54 → ¬ rcF c (fun s _ => s) (fun s m => t m s) far s' m') {u : Nat} (hu : u < 54) : far u = dst n c t (fun x => x = u) a := by
  have key : ∀ k W s x, s < 54 → wk n c t k W s x → far s < 1000000 → far x < 1000000 ∧ far x ≤ far s + W := by
    intro k
    induction k with
    | zero =>
      intro W s x hs hw hl
      obtain ⟨rfl, rfl⟩ := hw
      exact ⟨hl, Nat.le_refl _⟩
    | succ k ih =>
      intro W s x hs hw hl
      obtain ⟨w, W', a1, a2, a3, a4⟩ := hw
      obtain ⟨g1, g2⟩ := hg w s a1 hs a2
      have := h3 s w a1 hs
      have h5 := rI_lt h1 hs hl
      have hle : far (t w s) ≤ far s + c w s := by
        rcases Nat.lt_or_ge (far s + c w s) (far (t w s)) with q | q
        · exact absurd ⟨hl, a2, q⟩ this
        · exact q
      obtain ⟨b1, b2⟩ := ih W' (t w s) x g1 a4 (by omega)
      exact ⟨b1, by omega⟩
  obtain ⟨d1, d2, d3⟩ := dst_le (A := fun x => x = u) hg ha
  by_cases hl : far u < 1000000
  · obtain ⟨k, hk⟩ := h2.2 u hu hl
    obtain ⟨e1, e2⟩ := d3 _ u rfl ⟨k, hk⟩
    obtain ⟨e3, x, rfl, k2, hk2⟩ := d2 e2
    have := key k2 _ a x ha hk2 (by rw [h2.1]; decide)
    rw [h2.1] at this
    omega
  · have h4 := (h1 u hu).1
    by_cases hd : dst n c t (fun x => x = u) a < 1000000
    · obtain ⟨e3, x, rfl, k2, hk2⟩ := d2 hd
      have := key k2 _ a x ha hk2 (by rw [h2.1]; decide)
      exact absurd this.1 hl
    · omega
/-- how far each is at first: one there -/
def farO (a : Nat) : Nat → Nat := fun u => if u = a then 0 else 1000000
theorem farO_ok (ha : a < 54) : rI (farO a) ∧ sdF n c t a (farO a) := by
  have hc : cntB (farO a) = 1 := by
    have : ∀ a, a < 54 → cntB (farO a) = 1 := by decide +kernel
    exact this a ha
  refine ⟨fun u hu => ?_, ?_, fun u hu hl => ?_⟩
  · rw [hc]
    unfold farO
    split <;> omega
  · unfold farO
    rw [if_pos rfl]
  · unfold farO at hl ⊢
    by_cases q : u = a
    · rw [if_pos q, q]
      exact ⟨0, rfl, rfl⟩
    · rw [if_neg q] at hl
      exact absurd hl (by decide)
end GOE
section GOM
variable {d : Nat} {I I' : Nat → Nat → Int32} {L : Nat → Nat → Int64} {c e : Nat} {x y z : Int32} {lw : List aLn} {n m w s k B st : Nat} {v : Nat → aMv} {pe : Nat → aPe} {D : Nat → Int32} {one : Option Nat} {far far0 : Nat → Nat} {bs sh : Bool} {g : Nat → Nat → Nat} {y1 y3 : Int32}
theorem tS_lt (hm : ∀ i, i < n → mvOk (v i)) (hw : w < n) (hs : s < 54) : tS v w s < 54 := by
  obtain ⟨a1, a2, a3, a4, a5, a6, a7⟩ := hm w hw
  exact (mto_all (v w).1 (by omega) (v w).2.1 (by omega) s hs).1
theorem cG_le (hg : ∀ w s, w < n → s < 54 → 0 < g w s → tS v w s < 54 ∧ g w s ≤ 99) (hw : w < n) (hs : s < 54) : cG bs B sh g (tS v) w s ≤ 99 ∧ cS bs none g w s ≤ 99 := by
  have h1 : cS bs none g w s ≤ 99 := by
    by_cases h : 0 < cS bs none g w s
    · exact (cS_ok (bs := bs) (wo := none) hg w s hw hs h).2
    · omega
  refine ⟨?_, h1⟩
  unfold cG
  split
  · exact Nat.zero_le _
  · exact h1
theorem cG_ok (hg : ∀ w s, w < n → s < 54 → 0 < g w s → tS v w s < 54 ∧ g w s ≤ 99) : gOk n (cG bs B sh g (tS v)) (tS v) := by
  intro w s hw hs h
  unfold cG at h ⊢
  split at h
  · exact absurd h (Nat.lt_irrefl 0)
  · rename_i q
    rw [if_neg q]
    exact cS_ok (bs := bs) (wo := none) hg w s hw hs h
theorem kitM_88 (h : kitM n v I) : kitM n v (f88 I far) := kitM_fr h rfl (fun q j a1 a2 => by unfold f88; rw [if_neg (by omega)])
/-- one look -/
theorem q_210m (hk : kitM n v I) (hg : ∀ w s, w < n → s < 54 → 0 < g w s → tS v w s < 54 ∧ g w s ≤ 99) (hsp : spM g bs n I) (hB : B < 4096) (hr : rI far) {b : Bool} (hs : s < 54) (hm : m < n) (v9 v10 : Value) : ∃ u9 u10, (rcF (cG bs B sh g (tS v)) (fun s _ => s) (fun s m => tS v m s) far s m → jat d 210 62 [.ref 58, .int y1, .int (nI st), .int y3, .int (nI B), .int (if sh = true then 1 else 0), .int (if b = true then 1 else 0), .int (nI s), .int (nI m), v9, v10] [] (jmk (f88 I far) L c e) = jat d 210 62 [.ref 58, .int y1, .int (nI st), .int y3, .int (nI B), .int (if sh = true then 1 else 0), .int (if true = true then 1 else 0), .int (nI s), .int (nI (m + 1)), u9, u10] [] (jmk (f88 I (upF far (tS v m s) (far s + cG bs B sh g (tS v) m s))) L c e)) ∧ (¬ rcF (cG bs B sh g (tS v)) (fun s _ => s) (fun s m => tS v m s) far s m → jat d 210 62 [.ref 58, .int y1, .int (nI st), .int y3, .int (nI B), .int (if sh = true then 1 else 0), .int (if b = true then 1 else 0), .int (nI s), .int (nI m), v9, v10] [] (jmk (f88 I far) L c e) = jat d 210 62 [.ref 58, .int y1, .int (nI st), .int y3, .int (nI B), .int (if sh = true then 1 else 0), .int (if b = true then 1 else 0), .int (nI s), .int (nI (m + 1)), u9, u10] [] (jmk (f88 I far) L c e)) := by
  have hn := hk.1
  have hk2 : kitM n v (f88 I far) := kitM_88 hk
  have ht := tS_lt (fun i hi => (hk.2.2 i hi).1) hm hs
  obtain ⟨hc1, hc2⟩ := cG_le (bs := bs) (B := B) (sh := sh) hg hm hs
  have e1 : 54 * nI m + nI s = nI (54 * m + s) := by rw [jI_lit, pk_mul, nI_add]
  have hj : decide (jin (nI s) 54) = true := jdI hs
  have hcl : (nI s).toNatClampNeg = s := jcl' (by omega)
  have hst : f88 I far 90 (54 * m + s) = nI (cS bs none g m s) := hsp m s hm hs
  rw [jb_210_62, hk2.2.1, decide_eq_false (by rw [nI_leI (by omega) (by omega)]; omega), cond_false, hj, cond_true, hcl, f88_at hs, bit_nI (by omega) (by omega), nI_1]
  simp only [Bool.cond_decide, fJ_no]
  by_cases hfs : far s < 1000000
  · have hfl := rI_lt hr hs hfs
    have hfss : ¬¬ far s < 1000000 := fun q => q hfs
    rw [if_neg hfss]
    have hbit : nI (B / 2 ^ m % 2) = 1 ↔ B / 2 ^ m % 2 = 1 := nI_eq (b := 1) (by omega) (by decide)
    simp only [hbit]
    by_cases hb : B / 2 ^ m % 2 = 1
    · have hbb : ¬¬ B / 2 ^ m % 2 = 1 := fun q => q hb
      have hno : ¬ rcF (cG bs B sh g (tS v)) (fun s _ => s) (fun s m => tS v m s) far s m := by
        intro q
        have := q.2.1
        unfold cG at this
        rw [if_pos (Or.inl hb)] at this
        exact absurd this (Nat.lt_irrefl 0)
      rw [if_neg hbb]
      exact ⟨v9, v10, fun q => absurd q hno, fun _ => rfl⟩
    · rw [if_pos hb, e1, if_pos (jin_nI (show 54 * m + s < 648 by omega) (by decide)), jcl' (show 54 * m + s < 2 ^ 31 by omega), hst, q_205 hk2 hm hs]
      simp only [Option.bind_some, jps]
      rw [jb_210_120]
      show ∃ u9 u10, _
      have hz : nI (cS bs none g m s) = 0 ↔ cS bs none g m s = 0 := nI_eq (b := 0) (by omega) (by decide)
      simp only [Bool.cond_decide, hz, nI_1]
      have htT : mto (v m).1 (v m).2.1 s = tS v m s := rfl
      rw [htT]
      by_cases h0 : cS bs none g m s = 0
      · have hno : ¬ rcF (cG bs B sh g (tS v)) (fun s _ => s) (fun s m => tS v m s) far s m := by
          intro q
          have := q.2.1
          unfold cG at this
          split at this <;> omega
        rw [if_pos h0]
        exact ⟨_, _, fun q => absurd q hno, fun _ => rfl⟩
      · rw [if_neg h0]
        -- may one come there
        have h140 : ∀ hc : cG bs B sh g (tS v) m s = cS bs none g m s, ∃ u9 u10, (rcF (cG bs B sh g (tS v)) (fun s _ => s) (fun s m => tS v m s) far s m → jat d 210 140 [.ref 58, .int y1, .int (nI st), .int y3, .int (nI B), .int (if sh = true then 1 else 0), .int (if b = true then 1 else 0), .int (nI s), .int (nI m), .int (nI (cS bs none g m s)), .int (nI (tS v m s))] [] (jmk (f88 I far) L c e) = jat d 210 62 [.ref 58, .int y1, .int (nI st), .int y3, .int (nI B), .int (if sh = true then 1 else 0), .int (if true = true then 1 else 0), .int (nI s), .int (nI (m + 1)), u9, u10] [] (jmk (f88 I (upF far (tS v m s) (far s + cG bs B sh g (tS v) m s))) L c e)) ∧ (¬ rcF (cG bs B sh g (tS v)) (fun s _ => s) (fun s m => tS v m s) far s m → jat d 210 140 [.ref 58, .int y1, .int (nI st), .int y3, .int (nI B), .int (if sh = true then 1 else 0), .int (if b = true then 1 else 0), .int (nI s), .int (nI m), .int (nI (cS bs none g m s)), .int (nI (tS v m s))] [] (jmk (f88 I far) L c e) = jat d 210 62 [.ref 58, .int y1, .int (nI st), .int y3, .int (nI B), .int (if sh = true then 1 else 0), .int (if b = true then 1 else 0), .int (nI s), .int (nI (m + 1)), u9, u10] [] (jmk (f88 I far) L c e)) := by
          intro hc
          refine ⟨.int (nI (cS bs none g m s)), .int (nI (tS v m s)), ?_⟩
          have hjt : decide (jin (nI (tS v m s)) 54) = true := jdI ht
          have hct : (nI (tS v m s)).toNatClampNeg = tS v m s := jcl' (by omega)
          have h175 : jat d 210 175 [.ref 58, .int y1, .int (nI st), .int y3, .int (nI B), .int (if sh = true then 1 else 0), .int (if b = true then 1 else 0), .int (nI s), .int (nI m), .int (nI (cS bs none g m s)), .int (nI (tS v m s))] [] (jmk (f88 I far) L c e) = jat d 210 62 [.ref 58, .int y1, .int (nI st), .int y3, .int (nI B), .int (if sh = true then 1 else 0), .int (if true = true then 1 else 0), .int (nI s), .int (nI (m + 1)), .int (nI (cS bs none g m s)), .int (nI (tS v m s))] [] (jmk (f88 I (upF far (tS v m s) (far s + cG bs B sh g (tS v) m s))) L c e) := by
            rw [jb_210_175, hj, hjt, cond_true, cond_true, hcl, hct, f88_at hs, fJ_yes hfs, nI_add, f88_up ht (by omega), nI_1, hc]
            rfl
          rw [jb_210_140, hjt, cond_true, hct, f88_at ht, hj, cond_true, cond_true, hcl, f88_at hs, h175, nI_1]
          simp only [Bool.cond_decide, fJ_no]
          have hrc : rcF (cG bs B sh g (tS v)) (fun s _ => s) (fun s m => tS v m s) far s m ↔ far s + cS bs none g m s < far (tS v m s) := by
            constructor
            · intro q
              have := q.2.2
              rw [hc] at this
              exact this
            · intro q
              exact ⟨hfs, by rw [hc]; omega, by rw [hc]; exact q⟩
          by_cases hft : far (tS v m s) < 1000000
          · have hftt : ¬¬ far (tS v m s) < 1000000 := fun q => q hft
            have hlt : fJ (far s) + nI (cS bs none g m s) < fJ (far (tS v m s)) ↔ far s + cS bs none g m s < far (tS v m s) := by
              rw [fJ_yes hfs, fJ_yes hft, nI_add, jlt_iff, nI_toInt (by omega), nI_toInt (by omega)]
              omega
            simp only [hlt]
            rw [if_neg hftt]
            exact ⟨fun q => by rw [if_pos (hrc.mp q)], fun q => by rw [if_neg (fun h => q (hrc.mpr h))]⟩
          · rw [if_pos hft]
            have h6 := (hr (tS v m s) ht).1
            exact ⟨fun q => rfl, fun q => absurd (hrc.mpr (by omega)) q⟩
        cases sh with
        | true =>
          rw [if_pos rfl, if_pos (by decide)]
          refine h140 ?_
          unfold cG
          rw [if_neg (fun q => q.elim hb (fun r => by cases r.1))]
        | false =>
          rw [if_neg (by simp), q_170]
          simp only [Option.bind_some, jps]
          rw [jb_210_137, nI_1]
          have h18 : (nI (tS v m s)).toInt < 18 ↔ tS v m s < 18 := by
            rw [nI_toInt (by omega)]
            omega
          simp only [Bool.cond_decide, j01, Decidable.not_not, h18]
          by_cases ht18 : tS v m s < 18
          · have hno : ¬ rcF (cG bs B false g (tS v)) (fun s _ => s) (fun s m => tS v m s) far s m := by
              intro q
              have := q.2.1
              unfold cG at this
              rw [if_pos (Or.inr ⟨rfl, ht18⟩)] at this
              exact absurd this (Nat.lt_irrefl 0)
            rw [if_pos ht18]
            exact ⟨_, _, fun q => absurd q hno, fun _ => rfl⟩
          · rw [if_neg ht18]
            refine h140 ?_
            unfold cG
            rw [if_neg (fun q => q.elim hb (fun r => ht18 r.2))]
  · have hno : ¬ rcF (cG bs B sh g (tS v)) (fun s _ => s) (fun s m => tS v m s) far s m := fun q => hfs q.1
    rw [if_pos hfs]
    exact ⟨v9, v10, fun q => absurd q hno, fun _ => rfl⟩
end GOM
