/-! the reference: the least, from all states to a chair, how many -/
def mnF (b : Nat → Bool) (far : Nat → Nat) : Nat → Nat
  | 0 => 1000000
  | k + 1 => if b k = true ∧ far k < mnF b far k then far k else mnF b far k
def ctF (b : Nat → Bool) : Nat → Nat
  | 0 => 0
  | k + 1 => ctF b k + if b k = true then 1 else 0
def sdC (n : Nat) (c t : Nat → Nat → Nat) (b : Nat → Bool) (far : Nat → Nat) : Prop := (∀ u, u < 54 → b u = true → far u = 0) ∧ ∀ u, u < 54 → far u < 1000000 → ∃ a, b a = true ∧ DD n c t (far u) u a
section CHF
variable {n : Nat} {c c' t : Nat → Nat → Nat} {far far0 : Nat → Nat} {a : Nat} {b : Nat → Bool}
theorem wk_congr (h : ∀ w s, w < n → c w s = c' w s) : ∀ {k W s u : Nat}, wk n c t k W s u ↔ wk n c' t k W s u := by
  intro k
  induction k with
  | zero => intro W s u; exact Iff.rfl
  | succ k ih =>
    intro W s u
    constructor
    · rintro ⟨w, W', a1, a2, a3, a4⟩
      rw [h w s a1] at a2 a3
      exact ⟨w, W', a1, a2, a3, ih.mp a4⟩
    · rintro ⟨w, W', a1, a2, a3, a4⟩
      rw [← h w s a1] at a2 a3
      exact ⟨w, W', a1, a2, a3, ih.mpr a4⟩
theorem dst_congr {A : Nat → Prop} {s : Nat} (h : ∀ w s, w < n → c w s = c' w s) : dst n c t A s = dst n c' t A s := by
  unfold dst
  have : (fun W => ∃ a, A a ∧ DD n c t W s a) = fun W => ∃ a, A a ∧ DD n c' t W s a := by
    funext W
    apply propext
    constructor
    · rintro ⟨a, h1, k, h2⟩
      exact ⟨a, h1, k, (wk_congr h).mp h2⟩
    · rintro ⟨a, h1, k, h2⟩
      exact ⟨a, h1, k, (wk_congr h).mpr h2⟩
  rw [this]
theorem mn_ok : ∀ N, mnF b far N ≤ 1000000 ∧ (mnF b far N < 1000000 → ∃ u, u < N ∧ b u = true ∧ far u = mnF b far N) ∧ ∀ u, u < N → b u = true → mnF b far N ≤ far u ∨ mnF b far N ≤ 1000000 ∧ ¬ far u < 1000000 := by
  intro N
  induction N with
  | zero => exact ⟨Nat.le_refl _, fun h => absurd (show (1000000 : Nat) < 1000000 from h) (by decide), fun u h => absurd h (Nat.not_lt_zero u)⟩
  | succ N ih =>
    obtain ⟨h1, h2, h3⟩ := ih
    unfold mnF
    by_cases q : b N = true ∧ far N < mnF b far N
    · rw [if_pos q]
      refine ⟨by omega, fun _ => ⟨N, by omega, q.1, rfl⟩, fun u hu hb => ?_⟩
      by_cases e : u = N
      · subst e
        exact Or.inl (Nat.le_refl _)
      · rcases h3 u (by omega) hb with h | h
        · exact Or.inl (by omega)
        · exact Or.inr ⟨by omega, h.2⟩
    · rw [if_neg q]
      refine ⟨h1, fun h => ?_, fun u hu hb => ?_⟩
      · obtain ⟨u, a1, a2, a3⟩ := h2 h
        exact ⟨u, by omega, a2, a3⟩
      · by_cases e : u = N
        · subst e
          exact Or.inl (Nat.le_of_not_lt (fun h => q ⟨hb, h⟩))
        · exact h3 u (by omega) hb
/-- the least of how far those of b are is how far the nearest is -/
theorem mn_dst (hg : gOk n c t) (ha : a < 54) : mnF b (fun u => dst n c t (fun x => x = u) a) 54 = dst n c t (fun x => b x = true) a := by
  obtain ⟨m1, m2, m3⟩ := mn_ok (b := b) (far := fun u => dst n c t (fun x => x = u) a) 54
  obtain ⟨d1, d2, d3⟩ := dst_le (A := fun x => b x = true) hg ha
  by_cases hd : dst n c t (fun x => b x = true) a < 1000000
  · obtain ⟨e1, u, e2, k, e3⟩ := d2 hd
    have hu := (wk_lt hg ha e3).1
    obtain ⟨f1, f2, f3⟩ := dst_le (A := fun x => x = u) hg ha
    obtain ⟨g1, g2⟩ := f3 _ u rfl ⟨k, e3⟩
    have h1 := m3 u hu e2
    have h2 : mnF b (fun u => dst n c t (fun x => x = u) a) 54 ≤ dst n c t (fun x => b x = true) a := by
      rcases h1 with h | h
      · exact Nat.le_trans h g1
      · exact absurd g2 h.2
    obtain ⟨u', a1, a2, a3⟩ := m2 (by omega)
    have a3 : dst n c t (fun x => x = u') a = mnF b (fun u => dst n c t (fun x => x = u) a) 54 := a3
    obtain ⟨p1, p2, p3⟩ := dst_le (A := fun x => x = u') hg ha
    obtain ⟨q1, x, rfl, k2, q2⟩ := p2 (by omega)
    have := (d3 _ x a2 ⟨k2, q2⟩).1
    omega
  · by_cases hm : mnF b (fun u => dst n c t (fun x => x = u) a) 54 < 1000000
    · obtain ⟨u', a1, a2, a3⟩ := m2 hm
      have a3 : dst n c t (fun x => x = u') a = mnF b (fun u => dst n c t (fun x => x = u) a) 54 := a3
      obtain ⟨p1, p2, p3⟩ := dst_le (A := fun x => x = u') hg ha
      obtain ⟨q1, x, rfl, k2, q2⟩ := p2 (by omega)
      exact absurd (d3 _ x a2 ⟨k2, q2⟩).2 hd
    · omega
theorem sdC_step {s m : Nat} (hg : gOk n c t) (hs : s < 54) (ht : t m s < 54) (hm : m < n) (h : sdC n c t b far) (hr : rcF c (fun s m => t m s) (fun s _ => s) far s m) : sdC n c t b (upF far s (far (t m s) + c m s)) := by
  obtain ⟨h1, h2⟩ := h
  obtain ⟨r1, r2, r3⟩ := hr
  have r1 : far (t m s) < 1000000 := r1
  have r3 : far (t m s) + c m s < far s := r3
  constructor
  · intro u hu hb
    unfold upF
    by_cases q : u = s
    · subst q
      have := h1 u hu hb
      omega
    · rw [if_neg q]
      exact h1 u hu hb
  · intro u hu hl
    unfold upF at hl ⊢
    by_cases q : u = s
    · rw [if_pos q, q]
      obtain ⟨a, ha, k, hk⟩ := h2 _ ht r1
      exact ⟨a, ha, k + 1, m, far (t m s), hm, r2, by omega, hk⟩
    · rw [if_neg q] at hl ⊢
      exact h2 u hu hl
theorem chairs_dst (hg : gOk n c t) (h1 : rI far) (h2 : sdC n c t b far) (h3 : ∀ s' m', m' < n → s' < 54 → ¬ rcF c (fun s m => t m s) (fun s _ => s) far s' m') {u : Nat} (hu : u < 54) : far u = dst n c t (fun x => b x = true) u := by
  have key : ∀ k W s x, s < 54 → wk n c t k W s x → b x = true → far s < 1000000 ∧ far s ≤ W := by
    intro k
    induction k with
    | zero =>
      intro W s x hs hw hb
      obtain ⟨rfl, rfl⟩ := hw
      rw [h2.1 s hs hb]
      exact ⟨by decide, Nat.le_refl _⟩
    | succ k ih =>
      intro W s x hs hw hb
      obtain ⟨w, W', a1, a2, a3, a4⟩ := hw
      obtain ⟨g1, g2⟩ := hg w s a1 hs a2
      obtain ⟨b1, b2⟩ := ih W' (t w s) x g1 a4 hb
      have h5 := rI_lt h1 g1 b1
      have := h3 s w a1 hs
      have hle : far s ≤ far (t w s) + c w s := by
        rcases Nat.lt_or_ge (far (t w s) + c w s) (far s) with q | q
        · exact absurd ⟨b1, a2, q⟩ this
        · exact q
      exact ⟨by omega, by omega⟩
  exact far_dst hg hu (h1 u hu).1 (fun hl => h2.2 u hu hl) (fun k W x _ hx hw => (key k W u x hu hw hx).2)
end CHF
section CHM
variable {d : Nat} {I I' : Nat → Nat → Int32} {L : Nat → Nat → Int64} {c e : Nat} {x y z : Int32} {lw : List aLn} {n m w s k B st : Nat} {v : Nat → aMv} {pe : Nat → aPe} {D : Nat → Int32} {one : Option Nat} {far far0 : Nat → Nat} {bs sh : Bool} {g : Nat → Nat → Nat} {y1 y3 : Int32}
theorem q_212 {to : Nat} (hto : to < 56) (hb : ∀ u, u < 54 → far u < 1000000 → far u ≤ 5247) : jev d 212 [.ref 58, .int (nI to)] (jmk (f88 I far) L c e) = some (some (.int (fJ (mnF (aimB to) far 54))), jmk (f88 I far) L c e) := by
  have key : jat d 212 5 [.ref 58, .int (nI to), .int (fJ (mnF (aimB to) far 0)), .int (nI 0)] [] (jmk (f88 I far) L c e) = jat d 212 5 [.ref 58, .int (nI to), .int (fJ (mnF (aimB to) far 54)), .int (nI 54)] [] (jmk (f88 I far) L c e) := jloop (N := 54) (fun k => jat d 212 5 [.ref 58, .int (nI to), .int (fJ (mnF (aimB to) far k)), .int (nI k)] [] (jmk (f88 I far) L c e)) (fun k hk => by
    show jat d 212 5 [.ref 58, .int (nI to), .int (fJ (mnF (aimB to) far k)), .int (nI k)] [] (jmk (f88 I far) L c e) = jat d 212 5 [.ref 58, .int (nI to), .int (fJ (mnF (aimB to) far (k + 1))), .int (nI (k + 1))] [] (jmk (f88 I far) L c e)
    obtain ⟨m1, m2, m3⟩ := mn_ok (b := aimB to) (far := far) k
    rw [jb_212_5, decide_eq_false (show ¬ (54 : Int32) ≤ nI k by show ¬ nI 54 ≤ nI k; rw [nI_leI (by omega) (by omega)]; omega), cond_false, q_172 hk hto]
    simp only [Option.bind_some, jps]
    rw [jb_212_16, jb_212_46, jdI hk, cond_true, cond_true, cond_true, jcl' (by omega), f88_at hk, nI_1]
    simp only [Bool.cond_decide, j01, fJ_no]
    rw [show mnF (aimB to) far (k + 1) = if aimB to k = true ∧ far k < mnF (aimB to) far k then far k else mnF (aimB to) far k from rfl]
    by_cases ha : aimB to k = true
    · have haa : ¬¬ aimB to k = true := fun q => q ha
      rw [if_neg haa]
      by_cases hf : far k < 1000000
      · have hff : ¬¬ far k < 1000000 := fun q => q hf
        rw [if_neg hff]
        by_cases hm : mnF (aimB to) far k < 1000000
        · have hmm : ¬¬ mnF (aimB to) far k < 1000000 := fun q => q hm
          obtain ⟨u, u1, u2, u3⟩ := m2 hm
          have := hb u (by omega) (by omega)
          have := hb k hk hf
          have hle : fJ (mnF (aimB to) far k) ≤ fJ (far k) ↔ mnF (aimB to) far k ≤ far k := by
            rw [fJ_yes hm, fJ_yes hf, nI_leI (by omega) (by omega)]
          rw [if_neg hmm]
          simp only [hle]
          by_cases hl : mnF (aimB to) far k ≤ far k
          · rw [if_pos hl, if_neg (fun q => by omega)]
          · rw [if_neg hl, if_pos ⟨ha, by omega⟩]
        · rw [if_pos hm, if_pos ⟨ha, by omega⟩]
      · rw [if_pos hf, if_neg (fun q => by omega)]
    · rw [if_pos ha, if_neg (fun q => ha q.1)])
  rw [jb_212_0, show jat d 212 5 [.ref 58, .int (nI to), .int (-2), .int 0] [] (jmk (f88 I far) L c e) = _ from key, jb_212_5]
  rfl
theorem q_215 : jev d 215 [.ref 58] (jmk (f88 I far) L c e) = some (some (.int (nI (ctF (fun u => decide (far u < 1000000)) 54))), jmk (f88 I far) L c e) := by
  have key : jat d 215 4 [.ref 58, .int (nI (ctF (fun u => decide (far u < 1000000)) 0)), .int (nI 0)] [] (jmk (f88 I far) L c e) = jat d 215 4 [.ref 58, .int (nI (ctF (fun u => decide (far u < 1000000)) 54)), .int (nI 54)] [] (jmk (f88 I far) L c e) := jloop (N := 54) (fun k => jat d 215 4 [.ref 58, .int (nI (ctF (fun u => decide (far u < 1000000)) k)), .int (nI k)] [] (jmk (f88 I far) L c e)) (fun k hk => by
    show jat d 215 4 [.ref 58, .int (nI (ctF (fun u => decide (far u < 1000000)) k)), .int (nI k)] [] (jmk (f88 I far) L c e) = jat d 215 4 [.ref 58, .int (nI (ctF (fun u => decide (far u < 1000000)) k + if decide (far k < 1000000) = true then 1 else 0)), .int (nI (k + 1))] [] (jmk (f88 I far) L c e)
    rw [jb_215_4, decide_eq_false (show ¬ (54 : Int32) ≤ nI k by show ¬ nI 54 ≤ nI k; rw [nI_leI (by omega) (by omega)]; omega), cond_false, jdI hk, cond_true, jcl' (by omega), f88_at hk, nI_1, nI_1]
    simp only [Bool.cond_decide, fJ_no, decide_eq_true_eq]
    by_cases hf : far k < 1000000
    · rw [if_neg (fun q => q hf), if_pos hf]
    · rw [if_pos hf, if_neg hf]
      rfl)
  rw [jb_215_0, show jat d 215 4 [.ref 58, .int 0, .int 0] [] (jmk (f88 I far) L c e) = _ from key, jb_215_4]
  rfl
abbrev rvC (n B : Nat) (v : Nat → aMv) (g : Nat → Nat → Nat) : (Nat → Nat) → (Nat → Nat) → Bool → Nat → Nat → Prop := rInv n (cG false B true g (tS v)) (fun s m => tS v m s) (fun s _ => s) (sdC n (cG false B true g (tS v)) (tS v) (aimB 54))
theorem q_217w (hk : kitM n v I) (hg : ∀ w s, w < n → s < 54 → 0 < g w s → tS v w s < 54 ∧ g w s ≤ 99) (hsp : spM g false n I) (hB : B < 4096) (hs : s < 54) : ∀ (f m : Nat) (far : Nat → Nat) (b : Bool) (v6 : Value), m + f = n → rvC n B v g far0 far b s m → ∃ far' b' u6, jat d 217 60 [.ref 58, .int y1, .int (nI B), .int (if b = true then 1 else 0), .int (nI s), .int (nI m), v6] [] (jmk (f88 I far) L c e) = jat d 217 50 [.ref 58, .int y1, .int (nI B), .int (if b' = true then 1 else 0), .int (nI (s + 1)), .int (nI n), u6] [] (jmk (f88 I far') L c e) ∧ rvC n B v g far0 far' b' (s + 1) 0 := by
  have hn := hk.1
  have hm' : ∀ i, i < n → mvOk (v i) := fun i hi => (hk.2.2 i hi).1
  intro f
  induction f with
  | zero =>
    intro m far b v6 hm hi
    have hm : m = n := hm
    subst hm
    refine ⟨far, b, v6, ?_, rInv_next hi⟩
    rw [jb_217_60, (kitM_88 hk).2.1, decide_eq_true (by rw [nI_leI (by omega) (by omega)]; exact Nat.le_refl _), cond_true, nI_1]
  | succ f ih =>
    intro m far b v6 hm hi
    have hmn : m < n := by omega
    have hk2 : kitM n v (f88 I far) := kitM_88 hk
    have ht := tS_lt hm' hmn hs
    obtain ⟨hc1, hc2⟩ := cG_le (bs := false) (B := B) (sh := true) hg hmn hs
    have hstep := rInv_step (X := fun s m => tS v m s) (Y := fun s _ => s) ht hs hc1 (fun hsd hr => sdC_step (cG_ok hg) hs ht hmn hsd hr) hi
    have hr := hi.1
    have e1 : 54 * nI m + nI s = nI (54 * m + s) := by rw [jI_lit, pk_mul, nI_add]
    have hst : f88 I far 90 (54 * m + s) = nI (cS false none g m s) := hsp m s hmn hs
    have hbit : nI (B / 2 ^ m % 2) = 1 ↔ B / 2 ^ m % 2 = 1 := nI_eq (b := 1) (by omega) (by decide)
    have hz : nI (cS false none g m s) = 0 ↔ cS false none g m s = 0 := nI_eq (b := 0) (by omega) (by decide)
    have skip : ∀ u6, ¬ rcF (cG false B true g (tS v)) (fun s m => tS v m s) (fun s _ => s) far s m → ∃ far' b' w6, jat d 217 60 [.ref 58, .int y1, .int (nI B), .int (if b = true then 1 else 0), .int (nI s), .int (nI (m + 1)), u6] [] (jmk (f88 I far) L c e) = jat d 217 50 [.ref 58, .int y1, .int (nI B), .int (if b' = true then 1 else 0), .int (nI (s + 1)), .int (nI n), w6] [] (jmk (f88 I far') L c e) ∧ rvC n B v g far0 far' b' (s + 1) 0 := fun u6 hno => ih (m + 1) far b u6 (by omega) (hstep.2 hno)
    rw [jb_217_60, hk2.2.1, decide_eq_false (by rw [nI_leI (by omega) (by omega)]; omega), cond_false, bit_nI (by omega) (by omega), e1, jdI (show 54 * m + s < 648 by omega), cond_true, jcl' (show 54 * m + s < 2 ^ 31 by omega), hst, nI_1, q_205 hk2 hmn hs]
    simp only [Option.bind_some, jps, Bool.cond_decide, hbit, hz]
    by_cases hb : B / 2 ^ m % 2 = 1
    · rw [if_pos hb]
      refine skip v6 (fun q => ?_)
      have := q.2.1
      unfold cG at this
      rw [if_pos (Or.inl hb)] at this
      exact absurd this (Nat.lt_irrefl 0)
    · have hcc : cG false B true g (tS v) m s = cS false none g m s := by
        unfold cG
        rw [if_neg (fun q => q.elim hb (fun r => by cases r.1))]
      rw [if_neg hb]
      by_cases h0 : cS false none g m s = 0
      · rw [if_neg (fun q => q h0)]
        refine skip v6 (fun q => ?_)
        have := q.2.1
        omega
      · have h1 : cS false none g m s = 1 := by
          unfold cS at h0 ⊢
          by_cases q : 0 < g m s ∧ none ≠ some m
          · rw [if_pos q]
            rfl
          · rw [if_neg q] at h0
            exact absurd rfl h0
        rw [if_pos h0, jb_217_106, show mto (v m).1 (v m).2.1 s = tS v m s from rfl, jdI ht, jdI hs, jcl' (show tS v m s < 2 ^ 31 by omega), jcl' (show s < 2 ^ 31 by omega), f88_at ht, f88_at hs, nI_1]
        simp only [Bool.cond_decide, cond_true, fJ_no]
        by_cases hft : far (tS v m s) < 1000000
        · have hftt : ¬¬ far (tS v m s) < 1000000 := fun q => q hft
          have h5 := rI_lt hr ht hft
          have hgo : rcF (cG false B true g (tS v)) (fun s m => tS v m s) (fun s _ => s) far s m → ∃ far' b' w6, jat d 217 154 [.ref 58, .int y1, .int (nI B), .int (if b = true then 1 else 0), .int (nI s), .int (nI m), .int (nI (tS v m s))] [] (jmk (f88 I far) L c e) = jat d 217 50 [.ref 58, .int y1, .int (nI B), .int (if b' = true then 1 else 0), .int (nI (s + 1)), .int (nI n), w6] [] (jmk (f88 I far') L c e) ∧ rvC n B v g far0 far' b' (s + 1) 0 := by
            intro hyes
            obtain ⟨far', b', w6, r1, r2⟩ := ih (m + 1) _ true (.int (nI (tS v m s))) (by omega) (hstep.1 hyes)
            refine ⟨far', b', w6, ?_, r2⟩
            rw [jb_217_154, jdI ht, jdI hs, cond_true, cond_true, jcl' (show tS v m s < 2 ^ 31 by omega), jcl' (show s < 2 ^ 31 by omega), f88_at ht, fJ_yes hft, nI_1 (far (tS v m s)), f88_up hs (by omega), nI_1 m]
            rw [hcc, h1] at r1
            exact r1
          rw [if_neg hftt]
          by_cases hfs : far s < 1000000
          · have hfss : ¬¬ far s < 1000000 := fun q => q hfs
            have h6 := rI_lt hr hs hfs
            have hlt : fJ (far (tS v m s)) + 1 < fJ (far s) ↔ far (tS v m s) + 1 < far s := by
              rw [fJ_yes hft, fJ_yes hfs, nI_1, jlt_iff, nI_toInt (by omega), nI_toInt (by omega)]
              omega
            simp only [hlt]
            rw [if_neg hfss]
            by_cases hl : far (tS v m s) + 1 < far s
            · rw [if_pos hl]
              exact hgo ⟨hft, by omega, by show far (tS v m s) + cG false B true g (tS v) m s < far s; omega⟩
            · rw [if_neg hl]
              refine skip _ (fun q => ?_)
              have : far (tS v m s) + cG false B true g (tS v) m s < far s := q.2.2
              omega
          · have h7 := (hr s hs).1
            rw [if_pos hfs]
            exact hgo ⟨hft, by omega, by show far (tS v m s) + cG false B true g (tS v) m s < far s; omega⟩
        · rw [if_pos hft]
          exact skip _ (fun q => hft q.1)
theorem q_217v (hk : kitM n v I) (hg : ∀ w s, w < n → s < 54 → 0 < g w s → tS v w s < 54 ∧ g w s ≤ 99) (hsp : spM g false n I) (hB : B < 4096) : ∀ (f s : Nat) (far : Nat → Nat) (b : Bool) (v5 v6 : Value), s + f = 54 → rvC n B v g far0 far b s 0 → ∃ far' b' u5 u6, jat d 217 50 [.ref 58, .int y1, .int (nI B), .int (if b = true then 1 else 0), .int (nI s), v5, v6] [] (jmk (f88 I far) L c e) = jat d 217 41 [.ref 58, .int y1, .int (nI B), .int (if b' = true then 1 else 0), .int (nI 54), u5, u6] [] (jmk (f88 I far') L c e) ∧ rvC n B v g far0 far' b' 54 0 := by
  intro f
  induction f with
  | zero =>
    intro s far b v5 v6 hs hi
    have hs : s = 54 := hs
    subst hs
    refine ⟨far, b, v5, v6, ?_, hi⟩
    rw [jb_217_50, show decide ((54 : Int32) ≤ nI 54) = true from rfl, cond_true]
  | succ f ih =>
    intro s far b v5 v6 hs hi
    obtain ⟨far', b', u6, h1, h2⟩ := q_217w (d := d) (L := L) (c := c) (e := e) (y1 := y1) hk hg hsp hB (show s < 54 by omega) n 0 far b v6 (by omega) hi
    obtain ⟨far2, b2, w5, w6, r1, r2⟩ := ih (s + 1) far' b' (.int (nI n)) u6 (by omega) h2
    refine ⟨far2, b2, w5, w6, ?_, r2⟩
    rw [jb_217_50, decide_eq_false (show ¬ (54 : Int32) ≤ nI s by show ¬ nI 54 ≤ nI s; rw [nI_leI (by omega) (by omega)]; omega), cond_false]
    exact h1.trans r1
theorem q_217u (hk : kitM n v I) (hg : ∀ w s, w < n → s < 54 → 0 < g w s → tS v w s < 54 ∧ g w s ≤ 99) (hsp : spM g false n I) (hB : B < 4096) : ∀ (N : Nat) (far : Nat → Nat) (v4 v5 v6 : Value), smF far 54 ≤ N → rI far → sdC n (cG false B true g (tS v)) (tS v) (aimB 54) far → ∃ far', jat d 217 41 [.ref 58, .int y1, .int (nI B), .int 1, v4, v5, v6] [] (jmk (f88 I far) L c e) = some (none, jmk (f88 I far') L c e) ∧ ∀ u, u < 54 → far' u = dst n (cG false B true g (tS v)) (tS v) (aimP 54) u := by
  intro N
  induction N with
  | zero =>
    intro far v4 v5 v6 hN hr hsd
    obtain ⟨far', b', u5, u6, h1, h2⟩ := q_217v (d := d) (L := L) (c := c) (e := e) (y1 := y1) hk hg hsp hB 54 0 far false v5 v6 (by omega) (rInv_0 hr hsd)
    obtain ⟨i1, i2, i3, i4, i5⟩ := h2
    cases b' with
    | true =>
      have := i4 rfl
      omega
    | false =>
      obtain ⟨g1, g2⟩ := i5 rfl
      refine ⟨far', ?_, fun u hu => chairs_dst (cG_ok hg) i1 i2 (fun s' m' a1 a2 => by rw [g1]; exact g2 s' m' a1 a2 (by omega)) hu⟩
      rw [jb_217_41, jt_2, cond_false, show jat d 217 50 [.ref 58, .int y1, .int (nI B), .int 0, .int 0, v5, v6] [] (jmk (f88 I far) L c e) = _ from h1, jb_217_41]
      rfl
  | succ N ih =>
    intro far v4 v5 v6 hN hr hsd
    obtain ⟨far', b', u5, u6, h1, h2⟩ := q_217v (d := d) (L := L) (c := c) (e := e) (y1 := y1) hk hg hsp hB 54 0 far false v5 v6 (by omega) (rInv_0 hr hsd)
    obtain ⟨i1, i2, i3, i4, i5⟩ := h2
    cases b' with
    | true =>
      have := i4 rfl
      obtain ⟨far2, r1, r2⟩ := ih far' (.int (nI 54)) u5 u6 (by omega) i1 i2
      refine ⟨far2, ?_, r2⟩
      rw [jb_217_41, jt_2, cond_false, show jat d 217 50 [.ref 58, .int y1, .int (nI B), .int 0, .int 0, v5, v6] [] (jmk (f88 I far) L c e) = _ from h1]
      exact r1
    | false =>
      obtain ⟨g1, g2⟩ := i5 rfl
      refine ⟨far', ?_, fun u hu => chairs_dst (cG_ok hg) i1 i2 (fun s' m' a1 a2 => by rw [g1]; exact g2 s' m' a1 a2 (by omega)) hu⟩
      rw [jb_217_41, jt_2, cond_false, show jat d 217 50 [.ref 58, .int y1, .int (nI B), .int 0, .int 0, v5, v6] [] (jmk (f88 I far) L c e) = _ from h1, jb_217_41]
      rfl
theorem q_217 (hlo : lwOk lw) (hl : lwM lw I) (hk : kitM n v I) (hp : peM m pe D I) (hpo : peOk m pe D) (ho : oneOk m one) (hB : B < 4096) : ∃ I', jev d 217 [.ref 58, .int (oneI one), .int (nI B)] (jmk I L c e) = some (none, jmk (f88 I' (fun u => dst n (cG false B true (gS lw v pe one (knO pe one)) (tS v)) (tS v) (aimP 54) u)) L c e) ∧ frS I I' := by
  have hm' : ∀ i, i < n → mvOk (v i) := fun i hi => (hk.2.2 i hi).1
  have hg := gS_ok (lw := lw) (pe := pe) (one := one) (kn := knO pe one) hm'
  obtain ⟨I1, f1, f2, f3⟩ := q_209 (d := d) (L := L) (c := c) (e := e) (bs := false) hlo hl hk hp hpo ho
  have hk1 : kitM n v I1 := kitM_fr hk (f3 58 0 (by decide) (by decide)) (fun q j a1 a2 => f3 q j (by omega) (by omega))
  have key : jat d 217 8 [.ref 58, .int (oneI one), .int (nI B), .int (nI 0), .null, .null, .null] [] (jmk (f88k I1 (fun u => if aimB 54 u = true then 0 else 1000000) 0) L c e) = jat d 217 8 [.ref 58, .int (oneI one), .int (nI B), .int (nI 54), .null, .null, .null] [] (jmk (f88k I1 (fun u => if aimB 54 u = true then 0 else 1000000) 54) L c e) := jloop (N := 54) (fun k => jat d 217 8 [.ref 58, .int (oneI one), .int (nI B), .int (nI k), .null, .null, .null] [] (jmk (f88k I1 (fun u => if aimB 54 u = true then 0 else 1000000) k) L c e)) (fun k hk => by
    show jat d 217 8 [.ref 58, .int (oneI one), .int (nI B), .int (nI k), .null, .null, .null] [] (jmk (f88k I1 (fun u => if aimB 54 u = true then 0 else 1000000) k) L c e) = jat d 217 8 [.ref 58, .int (oneI one), .int (nI B), .int (nI (k + 1)), .null, .null, .null] [] (jmk (f88k I1 (fun u => if aimB 54 u = true then 0 else 1000000) (k + 1)) L c e)
    rw [jb_217_8, decide_eq_false (show ¬ (54 : Int32) ≤ nI k by show ¬ nI 54 ≤ nI k; rw [nI_leI (by omega) (by omega)]; omega), cond_false, q_171 hk]
    simp only [Option.bind_some, jps]
    rw [jb_217_23, jdI hk, cond_true, cond_true, jcl' (by omega), nI_1]
    have ha : aimB 54 k = true ↔ isChr k := by
      show decide (isChr k) = true ↔ isChr k
      exact decide_eq_true_iff
    by_cases hc : isChr k
    · rw [if_pos hc, jt_2, cond_false, f88_1 (far := fun u => if aimB 54 u = true then 0 else 1000000) (x := 0) hk (by rw [if_pos (ha.mpr hc)]; rfl)]
    · rw [if_neg hc, jt_4, cond_true, f88_1 (far := fun u => if aimB 54 u = true then 0 else 1000000) (x := -2) hk (by rw [if_neg (fun q => hc (ha.mp q))]; rfl)])
  have e0 : f88k I1 (fun u => if aimB 54 u = true then 0 else 1000000) 0 = I1 := by
    funext q j
    unfold f88k
    rw [if_neg (by omega)]
  rw [e0] at key
  have hcnt : cntB (fun u => if aimB 54 u = true then 0 else 1000000) = 3 := by decide +kernel
  have o1 : rI (fun u => if aimB 54 u = true then 0 else 1000000) := by
    intro u hu
    rw [hcnt]
    dsimp only
    split <;> omega
  have o2 : sdC n (cG false B true (gS lw v pe one (knO pe one)) (tS v)) (tS v) (aimB 54) (fun u => if aimB 54 u = true then 0 else 1000000) := by
    refine ⟨fun u hu hb => by dsimp only; rw [if_pos hb], fun u hu hl => ?_⟩
    dsimp only at hl ⊢
    by_cases q : aimB 54 u = true
    · rw [if_pos q]
      exact ⟨u, q, 0, rfl, rfl⟩
    · rw [if_neg q] at hl
      exact absurd hl (by decide)
  obtain ⟨far', r1, r2⟩ := q_217u (d := d) (L := L) (c := c) (e := e) (y1 := oneI one) hk1 hg f2 hB _ (fun u => if aimB 54 u = true then 0 else 1000000) .null .null .null (Nat.le_refl _) o1 o2
  refine ⟨I1, ?_, f3⟩
  rw [jb_217_0, show jev d 209 [.ref 58, .int (oneI one), .int 0] (jmk I L c e) = _ from f1]
  simp only [Option.bind_some, jps]
  rw [jb_217_6, show jat d 217 8 [.ref 58, .int (oneI one), .int (nI B), .int 0, .null, .null, .null] [] (jmk I1 L c e) = _ from key, jb_217_8, show decide ((54 : Int32) ≤ nI 54) = true from rfl, cond_true]
  have e54 : f88k I1 (fun u => if aimB 54 u = true then 0 else 1000000) 54 = f88 I1 (fun u => if aimB 54 u = true then 0 else 1000000) := rfl
  rw [e54, r1, f88_congr r2]
end CHM
