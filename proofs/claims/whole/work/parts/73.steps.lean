/-! the reference: what each step counts; sweeps -/
/-- what a step by a move counts, but some (bits B) and, if sh is false, into shut ones -/
def cG (bs : Bool) (B : Nat) (sh : Bool) (g t : Nat → Nat → Nat) (w s : Nat) : Nat := if B / 2 ^ w % 2 = 1 ∨ (sh = false ∧ t w s < 18) then 0 else cS bs none g w s
def spM (g : Nat → Nat → Nat) (bs : Bool) (n : Nat) (I : Nat → Nat → Int32) : Prop := ∀ w s, w < n → s < 54 → I 90 (54 * w + s) = nI (cS bs none g w s)
def fJ (x : Nat) : Int32 := if x < 1000000 then nI x else -2
def f88 (I : Nat → Nat → Int32) (far : Nat → Nat) : Nat → Nat → Int32 := fun q j => if q = 88 ∧ j < 54 then fJ (far j) else I q j
def f88k (I : Nat → Nat → Int32) (far : Nat → Nat) (k : Nat) : Nat → Nat → Int32 := fun q j => if q = 88 ∧ j < k then fJ (far j) else I q j
abbrev rcF (c : Nat → Nat → Nat) (X Y : Nat → Nat → Nat) (far : Nat → Nat) (s m : Nat) : Prop := far (X s m) < 1000000 ∧ 0 < c m s ∧ far (X s m) + c m s < far (Y s m)
/-- how a sweep goes on -/
def rInv (n : Nat) (c X Y : Nat → Nat → Nat) (SD : (Nat → Nat) → Prop) (far0 far : Nat → Nat) (b : Bool) (s m : Nat) : Prop := rI far ∧ SD far ∧ smF far 54 ≤ smF far0 54 ∧ (b = true → smF far 54 < smF far0 54) ∧ (b = false → far = far0 ∧ ∀ s' m', m' < n → s' < 54 → (s' < s ∨ s' = s ∧ m' < m) → ¬ rcF c X Y far0 s' m')
section STP
variable {d : Nat} {I I' : Nat → Nat → Int32} {L : Nat → Nat → Int64} {c e : Nat} {x y z : Int32} {lw : List aLn} {n m w s k : Nat} {v : Nat → aMv} {pe : Nat → aPe} {D : Nat → Int32} {one : Option Nat} {far far0 : Nat → Nat}
theorem cS_sec {bs : Bool} (h : may (v w) s) : cS bs none (gS lw v pe one (knO pe one)) w s = if 0 < secO lw v pe one w s then (if bs = true then secO lw v pe one w s else 1) else 0 := by
  have hg : gS lw v pe one (knO pe one) w s = secO lw v pe one w s := by
    unfold gS secO
    rw [if_pos h]
  unfold cS
  rw [hg]
  by_cases h0 : 0 < secO lw v pe one w s
  · rw [if_pos ⟨h0, by simp⟩, if_pos h0]
  · rw [if_neg (fun q => h0 q.1), if_neg h0]
theorem cS_0 {bs : Bool} (h : ¬ may (v w) s) : cS bs none (gS lw v pe one (knO pe one)) w s = 0 := by
  unfold cS gS
  rw [if_neg h, if_neg (fun q => absurd q.1 (Nat.lt_irrefl 0))]
theorem q_208 {bs : Bool} (hlo : lwOk lw) (hl : lwM lw I) (hk : kitM n v I) (hp : peM m pe D I) (hpo : peOk m pe D) (ho : oneOk m one) (hw : w < n) (hs : s < 54) : ∃ I', jev d 208 [.ref 58, .int (oneI one), .int (nI w), .int (nI s), .int (if bs = true then 1 else 0)] (jmk I L c e) = some (some (.int (nI (cS bs none (gS lw v pe one (knO pe one)) w s))), jmk I' L c e) ∧ ∀ q j, q ≠ 77 → I' q j = I q j := by
  rw [jb_208_0, q_204 hk hw hs]
  simp only [Option.bind_some, jps]
  rw [jb_208_6]
  by_cases hm : may (v w) s
  · obtain ⟨I1, f1, f2⟩ := q_202o (d := d) (L := L) (c := c) (e := e) hlo hl hk hp hpo ho hw hs
    have hmk := (hk.2.2 w hw).1
    have hsec : secO lw v pe one w s ≤ 99 := secK_le (lw := lw) (pe := pe) (one := one) (s := s) (k := knO pe one / 2 ^ w % 2) (by omega) hmk
    rw [if_pos hm, jt_1, cond_true, f1, cS_sec hm]
    simp only [Option.bind_some, jps]
    rw [jb_208_18]
    have n0 : nI (secO lw v pe one w s) ≤ 0 ↔ ¬ 0 < secO lw v pe one w s := by
      rw [jle_iff, nI_toInt (by omega)]
      simp only [Int32.reduceToInt]
      omega
    refine ⟨I1, ?_, f2⟩
    simp only [Bool.cond_decide, n0]
    cases bs with
    | true =>
      rw [if_pos rfl]
      by_cases h0 : 0 < secO lw v pe one w s
      · rw [if_pos h0]
        rfl
      · rw [if_neg h0, show secO lw v pe one w s = 0 by omega]
        rfl
    | false =>
      rw [if_neg (by simp)]
      by_cases h0 : 0 < secO lw v pe one w s
      · have h00 : ¬¬ 0 < secO lw v pe one w s := fun q => q h0
        rw [if_pos h0, if_neg h00]
        rfl
      · rw [if_neg h0, if_pos h0, show secO lw v pe one w s = 0 by omega]
  · rw [if_neg hm, cS_0 hm]
    exact ⟨I, rfl, fun _ _ _ => rfl⟩
abbrev frS (I I' : Nat → Nat → Int32) : Prop := ∀ q j, q ≠ 77 → q ≠ 90 → I' q j = I q j
theorem q_209 {bs : Bool} (hlo : lwOk lw) (hl : lwM lw I) (hk : kitM n v I) (hp : peM m pe D I) (hpo : peOk m pe D) (ho : oneOk m one) : ∃ I', jev d 209 [.ref 58, .int (oneI one), .int (if bs = true then 1 else 0)] (jmk I L c e) = some (none, jmk I' L c e) ∧ spM (gS lw v pe one (knO pe one)) bs n I' ∧ frS I I' := by
  have hn := hk.1
  have keep : ∀ {I1 : Nat → Nat → Int32}, frS I I1 → lwM lw I1 ∧ kitM n v I1 ∧ peM m pe D I1 := fun h => ⟨lwM_fr hl (fun q j h2 => h q j (by omega) (by omega)), kitM_fr hk (h 58 0 (by decide) (by decide)) (fun q j a1 a2 => h q j (by omega) (by omega)), peM_fr hp (h 58 6 (by decide) (by decide)) (fun q j a1 a2 => h q j (by omega) (by omega))⟩
  have inner : ∀ (w : Nat), w < n → ∀ (f s : Nat) (I1 : Nat → Nat → Int32), s + f = 54 → frS I I1 → (∀ w' s', (w' < w ∧ s' < 54 ∨ w' = w ∧ s' < s) → I1 90 (54 * w' + s') = nI (cS bs none (gS lw v pe one (knO pe one)) w' s')) → ∃ I2, jat d 209 13 [.ref 58, .int (oneI one), .int (if bs = true then 1 else 0), .int (nI w), .int (nI s)] [] (jmk I1 L c e) = jat d 209 2 [.ref 58, .int (oneI one), .int (if bs = true then 1 else 0), .int (nI (w + 1)), .int (nI 54)] [] (jmk I2 L c e) ∧ frS I I2 ∧ ∀ w' s', w' < w + 1 → s' < 54 → I2 90 (54 * w' + s') = nI (cS bs none (gS lw v pe one (knO pe one)) w' s') := by
    intro w hw f
    induction f with
    | zero =>
      intro s I1 hs hf hsp
      have hs : s = 54 := hs
      subst hs
      refine ⟨I1, ?_, hf, fun w' s' h1 h2 => hsp w' s' (by omega)⟩
      rw [jb_209_13, show decide ((54 : Int32) ≤ nI 54) = true from rfl, cond_true, nI_1]
    | succ f ih =>
      intro s I1 hs hf hsp
      obtain ⟨l1, k1, p1⟩ := keep hf
      obtain ⟨I2, f1, f2⟩ := q_208 (d := d) (L := L) (c := c) (e := e) (bs := bs) hlo l1 k1 p1 hpo ho hw (show s < 54 by omega)
      have e1 : 54 * nI w + nI s = nI (54 * w + s) := by rw [jI_lit, pk_mul, nI_add]
      have hf2 : frS I (ju I2 90 (54 * w + s) (nI (cS bs none (gS lw v pe one (knO pe one)) w s))) := fun q j a1 a2 => by rw [ju_get, if_neg (fun h => a2 h.1)]; exact (f2 q j a1).trans (hf q j a1 a2)
      obtain ⟨I3, r1, r2, r3⟩ := ih (s + 1) _ (by omega) hf2 (fun w' s' h => by
        by_cases q : w' = w ∧ s' = s
        · obtain ⟨rfl, rfl⟩ := q
          exact ju_s
        · rw [ju_get, if_neg (by omega), f2 90 _ (by decide)]
          exact hsp w' s' (by omega))
      refine ⟨I3, ?_, r2, r3⟩
      rw [jb_209_13, decide_eq_false (show ¬ (54 : Int32) ≤ nI s by show ¬ nI 54 ≤ nI s; rw [nI_leI (by omega) (by omega)]; omega), cond_false, e1, f1]
      simp only [Option.bind_some, jps]
      rw [jb_209_40, jdI (by omega), cond_true, jcl' (by omega), nI_1, r1]
  have outer : ∀ (f w : Nat) (v4 : Value) (I1 : Nat → Nat → Int32), w + f = n → frS I I1 → (∀ w' s', w' < w → s' < 54 → I1 90 (54 * w' + s') = nI (cS bs none (gS lw v pe one (knO pe one)) w' s')) → ∃ I2, jat d 209 2 [.ref 58, .int (oneI one), .int (if bs = true then 1 else 0), .int (nI w), v4] [] (jmk I1 L c e) = some (none, jmk I2 L c e) ∧ spM (gS lw v pe one (knO pe one)) bs n I2 ∧ frS I I2 := by
    intro f
    induction f with
    | zero =>
      intro w v4 I1 hw hf hsp
      have hw : w = n := hw
      subst hw
      refine ⟨I1, ?_, fun w' s' h1 h2 => hsp w' s' h1 h2, hf⟩
      rw [jb_209_2, (keep hf).2.1.2.1, decide_eq_true (by rw [nI_leI (by omega) (by omega)]; exact Nat.le_refl _), cond_true]
    | succ f ih =>
      intro w v4 I1 hw hf hsp
      obtain ⟨I2, r1, r2, r3⟩ := inner w (by omega) 54 0 I1 (by omega) hf (fun w' s' h => hsp w' s' (by omega) (by omega))
      obtain ⟨I3, u1, u2, u3⟩ := ih (w + 1) (.int (nI 54)) I2 (by omega) r2 r3
      refine ⟨I3, ?_, u2, u3⟩
      rw [jb_209_2, (keep hf).2.1.2.1, decide_eq_false (by rw [nI_leI (by omega) (by omega)]; omega), cond_false]
      rw [show jat d 209 13 [.ref 58, .int (oneI one), .int (if bs = true then 1 else 0), .int (nI w), .int 0] [] (jmk I1 L c e) = _ from r1, u1]
  obtain ⟨I2, r1, r2, r3⟩ := outer n 0 .null I (by omega) (fun _ _ _ _ => rfl) (fun w' s' h _ => absurd h (Nat.not_lt_zero _))
  exact ⟨I2, by rw [jb_209_0]; exact r1, r2, r3⟩
theorem f88_1 {x : Int32} (hk : k < 54) (hx : x = fJ (far k)) : ju (f88k I far k) 88 k x = f88k I far (k + 1) := by
  funext q j
  unfold ju f88k
  by_cases hq : q = 88
  · subst hq
    by_cases hj : j = k
    · subst hj
      simp [hx]
    · by_cases hl : j < k
      · have : j < k + 1 := by omega
        simp [hj, hl, this]
      · have : ¬ j < k + 1 := by omega
        simp [hj, hl, this]
  · simp [hq]
theorem f88_up (hs : s < 54) {x : Nat} (hx : x < 1000000) : ju (f88 I far) 88 s (nI x) = f88 I (upF far s x) := by
  funext q j
  unfold ju f88 upF
  by_cases hq : q = 88
  · subst hq
    by_cases hj : j = s
    · subst hj
      simp [hs]
      unfold fJ
      rw [if_pos hx]
    · simp [hj]
  · simp [hq]
theorem f88_at {u : Nat} (hu : u < 54) : f88 I far 88 u = fJ (far u) := by
  unfold f88
  rw [if_pos ⟨rfl, hu⟩]
theorem fJ_no {x : Nat} : fJ x = -2 ↔ ¬ x < 1000000 := by
  unfold fJ
  by_cases h : x < 1000000
  · rw [if_pos h]
    constructor
    · intro q
      have := congrArg Int32.toInt q
      rw [nI_toInt (by omega)] at this
      have h2 : (-2 : Int32).toInt = -2 := rfl
      omega
    · intro q; exact absurd h q
  · rw [if_neg h]
    exact ⟨fun _ => h, fun _ => rfl⟩
theorem fJ_yes {x : Nat} (h : x < 1000000) : fJ x = nI x := by
  unfold fJ
  rw [if_pos h]
variable {C X Y : Nat → Nat → Nat} {SD : (Nat → Nat) → Prop}
theorem rInv_step {b : Bool} (hX : X s m < 54) (hY : Y s m < 54) (hc : C m s ≤ 99) (hSD : SD far → rcF C X Y far s m → SD (upF far (Y s m) (far (X s m) + C m s))) (h : rInv n C X Y SD far0 far b s m) : (rcF C X Y far s m → rInv n C X Y SD far0 (upF far (Y s m) (far (X s m) + C m s)) true s (m + 1)) ∧ (¬ rcF C X Y far s m → rInv n C X Y SD far0 far b s (m + 1)) := by
  obtain ⟨h1, h2, h3, h4, h5⟩ := h
  constructor
  · intro hr
    obtain ⟨u1, u2⟩ := rI_up h1 hX hY hr.1 hc hr.2.2
    exact ⟨u1, hSD h2 hr, by omega, fun _ => by omega, fun q => (by cases q)⟩
  · intro hr
    refine ⟨h1, h2, h3, h4, fun hb => ?_⟩
    obtain ⟨g1, g2⟩ := h5 hb
    refine ⟨g1, fun s' m' a1 a2 a3 => ?_⟩
    by_cases q : s' = s ∧ m' = m
    · obtain ⟨rfl, rfl⟩ := q
      rw [← g1]
      exact hr
    · exact g2 s' m' a1 a2 (by omega)
theorem rInv_next {b : Bool} (h : rInv n C X Y SD far0 far b s n) : rInv n C X Y SD far0 far b (s + 1) 0 := by
  obtain ⟨h1, h2, h3, h4, h5⟩ := h
  exact ⟨h1, h2, h3, h4, fun hb => ⟨(h5 hb).1, fun s' m' a1 a2 a3 => (h5 hb).2 s' m' a1 a2 (by omega)⟩⟩
theorem rInv_0 (h1 : rI far) (h2 : SD far) : rInv n C X Y SD far far false 0 0 := ⟨h1, h2, Nat.le_refl _, fun q => (by cases q), fun _ => ⟨rfl, fun s' m' _ _ h => by omega⟩⟩
end STP
