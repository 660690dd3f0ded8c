/-! bestFirst -/
def mnN (R : Nat → Nat) (k : Nat) : Option Nat → Option Nat
  | none => if R k < 1000000 then some k else none
  | some u => if R k < 1000000 ∧ R k < R u then some k else some u
def mnX (R : Nat → Nat) : Nat → Option Nat
  | 0 => none
  | k + 1 => mnN R k (mnX R k)
def gdF (K Y : Nat) : Nat → (Nat → Nat) → Nat → Nat
  | 0, _, _ => 0
  | f + 1, R, S => match mnX R K with
    | none => 0
    | some m => if S + R m ≤ Y then gdF K Y f (upF R m 1000000) (S + R m) + 1 else 0
def ke (a : Nat) : Nat := if a < 1000000 then a + 1 else 0
def cV (R : Nat → Nat) (t j : Nat) : Bool := decide (R j = t)
noncomputable def opBest (n : Nat) (v : Nat → aMv) (m : Nat) (pe : Nat → aPe) (lw : List aLn) (sh : Nat → aSh) (ro : Nat → Nat → Int64) (x y z : Int32) : Int32 := if (jin x 6 ∧ jin y m) ∧ 0 ≤ z.toInt ∧ z.toInt ≤ 9999 then (if barI (sh x.toNatClampNeg) = 0 then nI (gdF (kS (ro x.toNatClampNeg) (sh x.toNatClampNeg).2 0) z.toInt.toNat (kS (ro x.toNatClampNeg) (sh x.toNatClampNeg).2 0 + 1) (tmS n v pe lw ro x.toNatClampNeg y.toNatClampNeg) 0) else barI (sh x.toNatClampNeg)) else -1
section BSG
variable {R a : Nat → Nat} {K Y t m k i S : Nat} {b : Nat → Bool}
theorem mx_s : mnX R (k + 1) = mnN R k (mnX R k) := rfl
theorem mx_ok : ∀ k, (∀ u, mnX R k = some u → u < k ∧ R u < 1000000 ∧ ∀ j, j < k → R j < 1000000 → R u ≤ R j) ∧ (mnX R k = none → ∀ j, j < k → ¬ R j < 1000000) := by
  intro k
  induction k with
  | zero => exact ⟨fun u h => (by cases h), fun _ j h => absurd h (Nat.not_lt_zero j)⟩
  | succ k ih =>
    obtain ⟨i1, i2⟩ := ih
    rw [mx_s]
    cases hb : mnX R k with
    | none =>
      have hno := i2 hb
      show (∀ u, (if R k < 1000000 then some k else none) = some u → _) ∧ ((if R k < 1000000 then some k else none) = none → _)
      by_cases q : R k < 1000000
      · rw [if_pos q]
        refine ⟨fun u h => ?_, fun h => (by cases h)⟩
        cases h
        refine ⟨Nat.lt_succ_self k, q, fun j hj hl => ?_⟩
        by_cases e : j = k
        · rw [e]
          exact Nat.le_refl _
        · exact absurd hl (hno j (by omega))
      · rw [if_neg q]
        refine ⟨fun u h => (by cases h), fun _ j hj => ?_⟩
        by_cases e : j = k
        · rw [e]
          exact q
        · exact hno j (by omega)
    | some u0 =>
      obtain ⟨j1, j2, j3⟩ := i1 u0 hb
      show (∀ u, (if R k < 1000000 ∧ R k < R u0 then some k else some u0) = some u → _) ∧ ((if R k < 1000000 ∧ R k < R u0 then some k else some u0) = none → _)
      by_cases q : R k < 1000000 ∧ R k < R u0
      · rw [if_pos q]
        refine ⟨fun u h => ?_, fun h => (by cases h)⟩
        cases h
        refine ⟨Nat.lt_succ_self k, q.1, fun j hj hl => ?_⟩
        by_cases e : j = k
        · rw [e]
          exact Nat.le_refl _
        · have := j3 j (by omega) hl
          omega
      · rw [if_neg q]
        refine ⟨fun u h => ?_, fun h => (by cases h)⟩
        cases h
        refine ⟨by omega, j2, fun j hj hl => ?_⟩
        by_cases e : j = k
        · subst e
          omega
        · exact j3 j (by omega) hl
theorem ct_s : ctF b (k + 1) = ctF b k + if b k = true then 1 else 0 := rfl
theorem cV_t {j : Nat} : cV R t j = true ↔ R j = t := decide_eq_true_iff
theorem ct_up2 {x : Nat} : ∀ N, ctF (cV (upF R m x) t) N + (if m < N ∧ R m = t then 1 else 0) = ctF (cV R t) N + if m < N ∧ x = t then 1 else 0 := by
  intro N
  induction N with
  | zero =>
    rw [if_neg (fun q => Nat.not_lt_zero m q.1), if_neg (fun q => Nat.not_lt_zero m q.1)]
    rfl
  | succ N ih =>
    rw [ct_s, ct_s]
    have e1 : (if cV (upF R m x) t N = true then 1 else 0) = if (if N = m then x else R N) = t then 1 else 0 := jif cV_t
    have e2 : (if cV R t N = true then 1 else 0) = if R N = t then 1 else 0 := jif cV_t
    rw [e1, e2]
    by_cases q : N = m
    · subst q
      have h1 : ¬ (N < N ∧ R N = t) := fun q => Nat.lt_irrefl N q.1
      have h2 : ¬ (N < N ∧ x = t) := fun q => Nat.lt_irrefl N q.1
      rw [if_neg h1, if_neg h2] at ih
      rw [if_pos rfl]
      have h3 : (N < N + 1 ∧ R N = t) ↔ R N = t := ⟨fun q => q.2, fun q => ⟨Nat.lt_succ_self N, q⟩⟩
      have h4 : (N < N + 1 ∧ x = t) ↔ x = t := ⟨fun q => q.2, fun q => ⟨Nat.lt_succ_self N, q⟩⟩
      simp only [h3, h4]
      omega
    · rw [if_neg q]
      have h3 : (m < N + 1 ∧ R m = t) ↔ (m < N ∧ R m = t) := ⟨fun q => ⟨by omega, q.2⟩, fun q => ⟨by omega, q.2⟩⟩
      have h4 : (m < N + 1 ∧ x = t) ↔ (m < N ∧ x = t) := ⟨fun q => ⟨by omega, q.2⟩, fun q => ⟨by omega, q.2⟩⟩
      simp only [h3, h4]
      omega
theorem ct_in : ∀ N, i ≤ N → (ctF b i ≤ ctF b N) ∧ (ctF b i < ctF b N → ∃ j, i ≤ j ∧ j < N ∧ b j = true) ∧ ((∀ j, i ≤ j → j < N → ¬ b j = true) → ctF b N = ctF b i) := by
  intro N
  induction N with
  | zero =>
    intro h
    have : i = 0 := by omega
    subst this
    exact ⟨Nat.le_refl _, fun h => absurd h (Nat.lt_irrefl _), fun _ => rfl⟩
  | succ N ih =>
    intro h
    by_cases q : i = N + 1
    · subst q
      exact ⟨Nat.le_refl _, fun h => absurd h (Nat.lt_irrefl _), fun _ => rfl⟩
    · obtain ⟨h1, h2, h3⟩ := ih (by omega)
      rw [ct_s]
      refine ⟨by omega, fun hl => ?_, fun hno => ?_⟩
      · by_cases r : b N = true
        · exact ⟨N, by omega, by omega, r⟩
        · rw [if_neg r] at hl
          obtain ⟨j, a1, a2, a3⟩ := h2 (by omega)
          exact ⟨j, a1, by omega, a3⟩
      · rw [if_neg (hno N (by omega) (by omega)), h3 (fun j a1 a2 => hno j a1 (by omega))]
        rfl
theorem sm_mono {f : Nat → Nat} : ∀ N, i ≤ N → smF f i ≤ smF f N := by
  intro N
  induction N with
  | zero => intro h; rw [show i = 0 by omega]; exact Nat.le_refl _
  | succ N ih =>
    intro h
    by_cases q : i = N + 1
    · rw [q]
      exact Nat.le_refl _
    · have := ih (by omega)
      rw [sm_s]
      omega
theorem opn_t {tm : Nat → Nat} {j : Nat} : opnB tm Y j = true ↔ tm j < 1000000 ∧ smF (t0F tm) (j + 1) ≤ Y := by
  unfold opnB
  rw [Bool.and_eq_true, decide_eq_true_eq, decide_eq_true_eq]
/-- the sorted row and the picking agree -/
theorem gd_ok (hsort : ∀ i j, i < j → j < K → ke (a i) ≤ ke (a j)) : ∀ (g i f : Nat) (R : Nat → Nat), i + g = K → g ≤ f → (∀ t, t < 1000000 → ctF (cV R t) K + ctF (cV a t) i = ctF (cV a t) K) → ctF (opnB a Y) i + gdF K Y f R (smF (t0F a) i) = ctF (opnB a Y) K := by
  intro g
  induction g with
  | zero =>
    intro i f R hi hf hc
    have hi : i = K := hi
    subst hi
    have h0 : gdF i Y f R (smF (t0F a) i) = 0 := by
      cases f with
      | zero => rfl
      | succ f =>
        have hn : mnX R i = none := by
          cases hb : mnX R i with
          | none => rfl
          | some u =>
            obtain ⟨u1, u2, u3⟩ := (mx_ok i).1 u hb
            have h1 := hc (R u) u2
            have h2 := ct_in (b := cV R (R u)) (i := u) i (by omega)
            have h3 := (ct_in (b := cV R (R u)) (i := u + 1) i (by omega)).1
            rw [ct_s, if_pos (cV_t.mpr rfl)] at h3
            omega
        show (match mnX R i with
          | none => 0
          | some m => if smF (t0F a) i + R m ≤ Y then gdF i Y f (upF R m 1000000) (smF (t0F a) i + R m) + 1 else 0) = 0
        rw [hn]
    rw [h0]
    rfl
  | succ g ih =>
    intro i f R hi hf hc
    have hiK : i < K := by omega
    by_cases q : a i < 1000000
    · -- the next one that comes
      have e0 : t0F a i = a i := if_pos q
      have h1 := hc (a i) q
      have h2 := (ct_in (b := cV a (a i)) (i := i + 1) K (by omega)).1
      rw [ct_s, if_pos (cV_t.mpr rfl)] at h2
      obtain ⟨j0, _, j2, j3⟩ := (ct_in (b := cV R (a i)) (i := 0) K (by omega)).2.1 (show 0 < _ by omega)
      have j3 := cV_t.mp j3
      cases f with
      | zero => omega
      | succ f =>
        cases hb : mnX R K with
        | none => exact absurd (show R j0 < 1000000 by omega) ((mx_ok K).2 hb j0 j2)
        | some u =>
          obtain ⟨u1, u2, u3⟩ := (mx_ok K).1 u hb
          have h4 := u3 j0 j2 (by omega)
          have h5 := hc (R u) u2
          have h6 := (ct_in (b := cV R (R u)) (i := u + 1) K (by omega)).1
          rw [ct_s, if_pos (cV_t.mpr rfl)] at h6
          obtain ⟨j5, j6, j7, j8⟩ := (ct_in (b := cV a (R u)) (i := i) K (by omega)).2.1 (by omega)
          have j8 := cV_t.mp j8
          have h7 : a i ≤ R u := by
            by_cases r : j5 = i
            · rw [← j8, r]
              exact Nat.le_refl _
            · have := hsort i j5 (by omega) j7
              unfold ke at this
              rw [if_pos q, if_pos (by omega)] at this
              omega
          have hu : R u = a i := by omega
          have eg : gdF K Y (f + 1) R (smF (t0F a) i) = if smF (t0F a) i + R u ≤ Y then gdF K Y f (upF R u 1000000) (smF (t0F a) i + R u) + 1 else 0 := by
            show (match mnX R K with
              | none => 0
              | some m => if smF (t0F a) i + R m ≤ Y then gdF K Y f (upF R m 1000000) (smF (t0F a) i + R m) + 1 else 0) = _
            rw [hb]
          have es : smF (t0F a) (i + 1) = smF (t0F a) i + a i := by
            rw [sm_s, e0]
          rw [eg, hu]
          by_cases r : smF (t0F a) i + a i ≤ Y
          · rw [if_pos r]
            have := ih (i + 1) f (upF R u 1000000) (by omega) (by omega) (fun t ht => by
              have k1 := ct_up2 (R := R) (m := u) (x := 1000000) (t := t) K
              have k2 := hc t ht
              have k3 : ¬ (u < K ∧ 1000000 = t) := fun w => by omega
              rw [if_neg k3] at k1
              rw [ct_s]
              have k4 : (if cV a t i = true then 1 else 0) = if u < K ∧ R u = t then 1 else 0 := jif ⟨fun w => ⟨u1, by rw [hu]; exact cV_t.mp w⟩, fun w => cV_t.mpr (by rw [← hu]; exact w.2)⟩
              rw [k4]
              omega)
            rw [ct_s, if_pos (opn_t.mpr ⟨q, by rw [es]; exact r⟩), es] at this
            omega
          · rw [if_neg r]
            refine ((ct_in (b := opnB a Y) (i := i) K (by omega)).2.2 (fun j j1 j2 w => r ?_)).symm
            have w := (opn_t.mp w).2
            have := sm_mono (f := t0F a) (i := i + 1) (j + 1) (by omega)
            omega
    · have e0 : t0F a i = 0 := if_neg q
      have := ih (i + 1) f R (by omega) (by omega) (fun t ht => by
        have k2 := hc t ht
        rw [ct_s, if_neg (fun w => q (by have := cV_t.mp w; omega))]
        omega)
      rw [ct_s, if_neg (fun w => q (opn_t.mp w).1), sm_s, e0] at this
      exact this
theorem gd_eq (hsort : ∀ i j, i < j → j < K → ke (a i) ≤ ke (a j)) (hc : ∀ t, ctF (cV R t) K = ctF (cV a t) K) : gdF K Y (K + 1) R 0 = ctF (opnB a Y) K := by
  have := gd_ok (Y := Y) hsort K 0 (K + 1) R (by omega) (by omega) (fun t _ => by rw [hc t]; rfl)
  have h0 : ctF (opnB a Y) 0 = 0 := rfl
  rw [h0, Nat.zero_add] at this
  exact this
end BSG
section BST
variable {d : Nat} {I I' : Nat → Nat → Int32} {L : Nat → Nat → Int64} {c e : Nat} {x y z : Int32} {lw : List aLn} {n m w s k b i o K X Y : Nat} {v : Nat → aMv} {pe : Nat → aPe} {D : Nat → Int32} {sh : Nat → aSh} {ro : Nat → Nat → Int64} {tm tm2 : Nat → Nat}
theorem tC_le {a b : Nat} (ha : a < 1000000 → a ≤ 5247) (hb : b < 1000000 → b ≤ 5247) : tC a ≤ tC b ↔ ke a ≤ ke b := by
  have h1 : (-1 : Int32).toInt = -1 := by decide
  unfold tC ke
  by_cases p : a < 1000000
  · have := ha p
    rw [if_pos p, if_pos p]
    by_cases q : b < 1000000
    · have := hb q
      rw [if_pos q, if_pos q, nI_leI (by omega) (by omega)]
      omega
    · rw [if_neg q, if_neg q, jle_iff, nI_toInt (by omega), h1]
      omega
  · rw [if_neg p, if_neg p]
    by_cases q : b < 1000000
    · have := hb q
      rw [if_pos q, if_pos q, jle_iff, nI_toInt (by omega), h1]
      omega
    · rw [if_neg q, if_neg q]
      exact ⟨fun _ => Nat.le_refl _, fun _ => by rw [jle_iff]; exact Int.le_refl _⟩
def swF (f : Nat → Nat) (q : Nat) : Nat → Nat := upF (upF f q (f (q - 1))) (q - 1) (f q)
theorem sw_ct {q t : Nat} (h1 : 1 ≤ q) (hq : q < K) : ctF (cV (swF tm q) t) K = ctF (cV tm t) K := by
  have a1 := ct_up2 (R := tm) (m := q) (x := tm (q - 1)) (t := t) K
  have a2 := ct_up2 (R := upF tm q (tm (q - 1))) (m := q - 1) (x := tm q) (t := t) K
  have e1 : upF tm q (tm (q - 1)) (q - 1) = tm (q - 1) := by
    unfold upF
    rw [if_neg (by omega)]
  rw [e1] at a2
  have e2 : (if q < K ∧ tm q = t then 1 else 0) = if q - 1 < K ∧ tm q = t then 1 else 0 := jif ⟨fun w => ⟨by omega, w.2⟩, fun w => ⟨by omega, w.2⟩⟩
  have e3 : (if q - 1 < K ∧ tm (q - 1) = t then 1 else 0) = if q < K ∧ tm (q - 1) = t then 1 else 0 := jif ⟨fun w => ⟨by omega, w.2⟩, fun w => ⟨by omega, w.2⟩⟩
  show ctF (cV (upF (upF tm q (tm (q - 1))) (q - 1) (tm q)) t) K = _
  omega
theorem sw_seat {q : Nat} (h1 : 1 ≤ q) (hq : q < K) (hs : seatC K tm I) : seatC K (swF tm q) (ju (ju I 55 q (tC (tm (q - 1)))) 55 (q - 1) (tC (tm q))) := by
  obtain ⟨s1, s2, s3, s4⟩ := hs
  refine ⟨by rw [ju_get, if_neg (by omega), ju_get, if_neg (by omega)]; exact s1, s2, fun j hj => ?_, fun j hj => ?_⟩
  · rw [ju_get, ju_get]
    unfold swF upF
    by_cases a1 : j = q - 1
    · rw [if_pos ⟨rfl, a1⟩, if_pos a1]
    · rw [if_neg (fun w => a1 w.2), if_neg a1]
      by_cases a2 : j = q
      · rw [if_pos ⟨rfl, a2⟩, if_pos a2]
      · rw [if_neg (fun w => a2 w.2), if_neg a2]
        exact s3 j hj
  · unfold swF upF
    by_cases a1 : j = q - 1
    · rw [if_pos a1]
      exact s4 q hq
    · rw [if_neg a1]
      by_cases a2 : j = q
      · rw [if_pos a2]
        exact s4 (q - 1) (by omega)
      · rw [if_neg a2]
        exact s4 j hj
abbrev fr55 (I I' : Nat → Nat → Int32) : Prop := ∀ q j, q ≠ 55 → I' q j = I q j
/-- one sinks to its place -/
theorem q_7i {p : Nat} (hp : p < K) : ∀ (q : Nat) (tm : Nat → Nat) (I : Nat → Nat → Int32) (v3 : Value), q ≤ p → seatC K tm I → (∀ i j, i < j → j ≤ p → i ≠ q → j ≠ q → ke (tm i) ≤ ke (tm j)) → (∀ j, q < j → j ≤ p → ke (tm q) ≤ ke (tm j)) → ∃ (tm' : Nat → Nat) (I' : Nat → Nat → Int32) (u2 u3 : Value), jat d 7 12 [.ref 54, .int (nI p), .int (nI q), v3] [] (jmk I L c e) = jat d 7 2 [.ref 54, .int (nI (p + 1)), u2, u3] [] (jmk I' L c e) ∧ seatC K tm' I' ∧ (∀ i j, i < j → j ≤ p → ke (tm' i) ≤ ke (tm' j)) ∧ (∀ t, ctF (cV tm' t) K = ctF (cV tm t) K) ∧ fr55 I I' := by
  intro q
  induction q with
  | zero =>
    intro tm I v3 hq hs h1 h2
    refine ⟨tm, I, .int (nI 0), v3, ?_, hs, fun i j hij hj => ?_, fun _ => rfl, fun _ _ _ => rfl⟩
    · rw [jb_7_12, show decide (nI 0 ≤ (0 : Int32)) = true from rfl, cond_true, nI_1]
    · by_cases e : i = 0
      · rw [e]
        exact h2 j (by omega) hj
      · exact h1 i j hij hj e (by omega)
  | succ q ih =>
    intro tm I v3 hq hs h1 h2
    obtain ⟨s1, s2, s3, s4⟩ := id hs
    have e1 : nI (q + 1) - 1 = nI q := (nI_sub (j := 1) (by omega) (by omega)).trans (by rw [Nat.add_sub_cancel])
    have h0 : ¬ nI (q + 1) ≤ (0 : Int32) := by
      show ¬ nI (q + 1) ≤ nI 0
      rw [nI_leI (by omega) (by omega)]
      omega
    have e2 : nI (q + 1) + -1 = nI q := by
      rw [← Int32.sub_eq_add_neg]
      exact e1
    have hle := tC_le (s4 q (by omega)) (s4 (q + 1) (by omega))
    rw [jb_7_12, decide_eq_false h0, cond_false, e1, jdI (show q < 60 by omega), jdI (show q + 1 < 60 by omega), jcl' (show q < 2 ^ 31 by omega), jcl' (show q + 1 < 2 ^ 31 by omega), s3 q (by omega), s3 (q + 1) (by omega), nI_1, e2]
    simp only [cond_true, Bool.cond_decide, hle]
    by_cases r : ke (tm q) ≤ ke (tm (q + 1))
    · rw [if_pos r]
      refine ⟨tm, I, .int (nI (q + 1)), v3, rfl, hs, fun i j hij hj => ?_, fun _ => rfl, fun _ _ _ => rfl⟩
      by_cases a1 : i = q + 1
      · rw [a1]
        exact h2 j (by omega) hj
      · by_cases a2 : j = q + 1
        · rw [a2]
          by_cases a3 : i = q
          · rw [a3]
            exact r
          · exact Nat.le_trans (h1 i q (by omega) (by omega) a1 (by omega)) r
        · exact h1 i j hij hj a1 a2
    · rw [if_neg r]
      have hsw := sw_seat (q := q + 1) (by omega) (by omega) hs
      have w0 : swF tm (q + 1) q = tm (q + 1) := by
        unfold swF upF
        rw [if_pos (by omega)]
      have w1 : swF tm (q + 1) (q + 1) = tm q := by
        unfold swF upF
        rw [if_neg (by omega), if_pos rfl]
        rfl
      have w2 : ∀ j, j ≠ q → j ≠ q + 1 → swF tm (q + 1) j = tm j := fun j a1 a2 => by
        unfold swF upF
        rw [if_neg (by omega), if_neg a2]
      obtain ⟨tm', I', u2, u3, r1, r2, r3, r4, r5⟩ := ih (swF tm (q + 1)) (ju (ju I 55 (q + 1) (tC (tm q))) 55 q (tC (tm (q + 1)))) (.int (tC (tm (q + 1)))) (by omega) hsw (fun i j hij hj a1 a2 => by
        by_cases b1 : i = q + 1
        · rw [b1, w1, w2 j a2 (by omega)]
          exact h1 q j (by omega) hj (by omega) (by omega)
        · rw [w2 i a1 b1]
          by_cases b2 : j = q + 1
          · rw [b2, w1]
            exact h1 i q (by omega) (by omega) b1 (by omega)
          · rw [w2 j a2 b2]
            exact h1 i j hij hj b1 b2) (fun j a1 a2 => by
        rw [w0]
        by_cases b2 : j = q + 1
        · rw [b2, w1]
          omega
        · rw [w2 j (by omega) b2]
          exact h2 j (by omega) a2)
      exact ⟨tm', I', u2, u3, r1, r2, r3, fun t => (r4 t).trans (sw_ct (by omega) (by omega)), fun q' j a1 => (r5 q' j a1).trans (by rw [ju_get, if_neg (fun w => a1 w.1), ju_get, if_neg (fun w => a1 w.1)])⟩
theorem q_7o : ∀ (f p : Nat) (tm : Nat → Nat) (I : Nat → Nat → Int32) (v2 v3 : Value), (p + f = K ∨ f = 0 ∧ K ≤ p) → 1 ≤ p → p ≤ 61 → seatC K tm I → (∀ i j, i < j → j < p → j < K → ke (tm i) ≤ ke (tm j)) → ∃ (tm' : Nat → Nat) (I' : Nat → Nat → Int32), jat d 7 2 [.ref 54, .int (nI p), v2, v3] [] (jmk I L c e) = some (none, jmk I' L c e) ∧ seatC K tm' I' ∧ (∀ i j, i < j → j < K → ke (tm' i) ≤ ke (tm' j)) ∧ (∀ t, ctF (cV tm' t) K = ctF (cV tm t) K) ∧ fr55 I I' := by
  intro f
  induction f with
  | zero =>
    intro p tm I v2 v3 hpf hp1 hp6 hs hso
    have hpK : K ≤ p := by omega
    refine ⟨tm, I, ?_, hs, fun i j hij hj => hso i j hij (by omega) hj, fun _ => rfl, fun _ _ _ => rfl⟩
    rw [jb_7_2, hs.1, decide_eq_true (by rw [nI_leI (by have := hs.2.1; omega) (by omega)]; exact hpK), cond_true]
  | succ f ih =>
    intro p tm I v2 v3 hpf hp1 hp6 hs hso
    have hpK : p < K := by omega
    have hK := hs.2.1
    obtain ⟨tm1, I1, u2, u3, r1, r2, r3, r4, r5⟩ := q_7i (d := d) (L := L) (c := c) (e := e) hpK p tm I v3 (Nat.le_refl p) hs (fun i j hij hj a1 a2 => hso i j hij (by omega) (by omega)) (fun j a1 a2 => by omega)
    obtain ⟨tm2, I2, s1, s2, s3, s4, s5⟩ := ih (p + 1) tm1 I1 u2 u3 (by omega) (by omega) (by omega) r2 (fun i j hij hj _ => r3 i j hij (by omega))
    refine ⟨tm2, I2, ?_, s2, s3, fun t => (s4 t).trans (r4 t), fun q j a1 => (s5 q j a1).trans (r5 q j a1)⟩
    rw [jb_7_2, hs.1, decide_eq_false (by rw [nI_leI (by omega) (by omega)]; omega), cond_false]
    exact r1.trans s1
theorem q_7 (hs : seatC K tm I) : ∃ (tm' : Nat → Nat) (I' : Nat → Nat → Int32), jev d 7 [.ref 54] (jmk I L c e) = some (none, jmk I' L c e) ∧ seatC K tm' I' ∧ (∀ i j, i < j → j < K → ke (tm' i) ≤ ke (tm' j)) ∧ (∀ t, ctF (cV tm' t) K = ctF (cV tm t) K) ∧ fr55 I I' := by
  have hK := hs.2.1
  obtain ⟨tm', I', r1, r2⟩ := q_7o (d := d) (L := L) (c := c) (e := e) (K := K) (K - 1) 1 tm I .null .null (by omega) (by omega) (by omega) hs (fun i j hij hj _ => by omega)
  refine ⟨tm', I', ?_, r2⟩
  rw [jb_7_0]
  exact r1
theorem c_best (hce : ceOk c e) (hlo : lwOk lw) (hl : lwC lw c I) (hk : kitC n v I) (hp : peC m pe D I) (hpo : peOk m pe D) (hs : shC sh ro I L) (ho : shOk b sh) : ∃ I', jev d 116 [.ref 0, .int x, .int y, .int z] (jmk I L c e) = some (some (.int (opBest n v m pe lw sh ro x y z)), jmk I' L c e) ∧ frA I I' := by
  have hm := hpo.1
  have e2 : z ≤ 9999 ↔ z.toInt ≤ 9999 := jle_iff
  unfold opBest
  rw [jb_116_0, q_155 hm hp.1 hs ho]
  simp only [Option.bind_some, jps, Bool.cond_decide, show (z < 0) ↔ ¬ 0 ≤ z.toInt from z_lt0, e2, jb_116_21]
  have hm1 : ¬ (-1 : Int32) = 0 := by decide
  by_cases h1 : 0 ≤ z.toInt
  · rw [if_neg (fun q => q h1)]
    by_cases h2 : z.toInt ≤ 9999
    · rw [if_pos h2]
      by_cases h : jin x 6 ∧ jin y m
      · have hall : (jin x 6 ∧ jin y m) ∧ 0 ≤ z.toInt ∧ z.toInt ≤ 9999 := ⟨h, h1, h2⟩
        rw [if_pos h, if_pos hall]
        obtain ⟨i, hi, rfl⟩ := (jin_iff (by decide)).mp h.1
        obtain ⟨o, hom, rfl⟩ := (jin_iff (by omega)).mp h.2
        rw [jcl' (show i < 2 ^ 31 by omega), jcl' (show o < 2 ^ 31 by omega)]
        by_cases h0 : barI (sh i) = 0
        · rw [if_pos h0, if_pos h0]
          obtain ⟨I1, I2, g1, g2, g3, g4, g5⟩ := q_wl (d := d) (L := L) hce hlo hl hk hp hpo hs ho hi (bar_0.1.mp h0) hom
          obtain ⟨tm', I3, w1, w2, w3, w4, w5⟩ := q_7 (d := d) (L := L) (c := c) (e := e) g3
          refine ⟨I3, ?_, fun q j a1 a2 a3 a4 a5 => (w5 q j (by omega)).trans (g4 q j a1 a2 a3 a4 a5)⟩
          have hz : z = nI z.toInt.toNat := by
            apply Int32.toInt_inj.mp
            rw [nI_toInt (by omega)]
            omega
          rw [g1]
          simp only [Option.bind_some, jps]
          rw [jb_116_39, g2]
          simp only [Option.bind_some, jps]
          rw [jb_116_47, w1]
          simp only [Option.bind_some, jps]
          rw [jb_116_54, show jev d 6 [.ref 54, .int z] (jmk I3 L c e) = jev d 6 [.ref 54, .int (nI z.toInt.toNat)] (jmk I3 L c e) by rw [← hz], q_6 w2 (by omega)]
          simp only [Option.bind_some, jps, jb_116_62]
          rw [gd_eq w3 (fun t => (w4 t).symm)]
        · rw [if_neg h0, if_neg h0]
          exact ⟨I, rfl, fun _ _ _ _ _ _ _ => rfl⟩
      · rw [if_neg h, if_neg hm1, if_neg (fun q => h q.1)]
        exact ⟨I, rfl, fun _ _ _ _ _ _ _ => rfl⟩
    · rw [if_neg h2, if_neg hm1, if_neg (fun q => h2 q.2.2)]
      exact ⟨I, rfl, fun _ _ _ _ _ _ _ => rfl⟩
  · rw [if_pos h1, if_neg hm1, if_neg (fun q => h1 q.2.1)]
    exact ⟨I, rfl, fun _ _ _ _ _ _ _ => rfl⟩
end BST
