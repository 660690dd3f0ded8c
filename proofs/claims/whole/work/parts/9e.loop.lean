/-! the law's loop, and the law from its start -/
section LL
variable {d : Nat} {c e len : Nat} {I : Nat → Nat → Int32} {L : Nat → Nat → Int64}
theorem len_lt {a : Nat} (hl : len ≤ 3072) (ha : a ≤ 4000) : (nI len - 6 < nI a) ↔ len < a + 6 := by
  by_cases h : 6 ≤ len
  · rw [show nI len - 6 = nI (len - 6) from nI_sub (j := 6) h (by omega), nI_ltI (by omega) (by omega)]
    omega
  · have hs : len = 0 ∨ len = 1 ∨ len = 2 ∨ len = 3 ∨ len = 4 ∨ len = 5 := by omega
    have h0 : nI len - 6 < 0 := by
      rcases hs with r | r | r | r | r | r <;> (subst r; decide +kernel)
    have h1 : nI len - 6 < nI a := by
      have h2 : (0 : Int32) ≤ nI a := nI_pos' (by omega)
      rw [jlt_iff] at h0 ⊢
      rw [jle_iff] at h2
      omega
    exact ⟨fun _ => by omega, fun _ => h1⟩
theorem fiv_of {t : Nat} (hl : len ≤ 3072) (hI : I 1001 0 = nI len) (h : t + 6 ≤ len) : Fiv (nI t) I := by
  have key : ∀ i : Nat, i < 6 → decide (jin (nI t + nI i) (I 1001 0).toNatClampNeg) = true := fun i hi => by
    rw [hI, jcl' (by omega), nI_add]
    exact jdI (by omega) (by omega)
  exact ⟨key 1 (by decide), key 2 (by decide), key 3 (by decide), key 4 (by decide), key 5 (by decide)⟩
theorem law_loop (hd : 100 ≤ d) (hl : len ≤ 3072) : ∀ (f t c e : Nat) (I : Nat → Nat → Int32) (L : Nat → Nat → Int64), Rel c e I L → I 1001 0 = nI len → 6 * t ≤ len + 6 → len < 6 * (t + f) + 6 → ∃ (I' : Nat → Nat → Int32) (L' : Nat → Nat → Int64) (c' e' : Nat), jat d 266 18 [.ref 1000, .ref 0, .ref 58, .int (nI (6 * t))] [] (jmk I L c e) = some (some (.int 1), jmk I' L' c' e') := by
  intro f
  induction f with
  | zero =>
    intro t c e I L h hI h1 h2
    refine ⟨I, L, c, e, ?_⟩
    have h2 : len < 6 * t + 6 := h2
    rw [jb_266_18, hI, decide_eq_true ((len_lt hl (by omega)).mpr h2), cond_true]
  | succ f ih =>
    intro t c e I L h hI h1 h2
    by_cases h3 : len < 6 * t + 6
    · refine ⟨I, L, c, e, ?_⟩
      rw [jb_266_18, hI, decide_eq_true ((len_lt hl (by omega)).mpr h3), cond_true]
    · obtain ⟨I1, L1, c1, e1, E, R, F⟩ := lsw (s0 := (I 1000 (nI (6 * t)).toNatClampNeg) &&& 63) hd h (fiv_of hl hI (t := 6 * t) (by omega))
      have hI1 : I1 1001 0 = nI len := (F 1001 0 (by decide)).trans hI
      have hin : decide (jin (nI (6 * t)) (I 1001 0).toNatClampNeg) = true := by
        rw [hI, jcl' (by omega)]
        exact jdI (by omega) (by omega)
      obtain ⟨I', L', c', e', E'⟩ := ih (t + 1) c1 e1 I1 L1 R hI1 (by omega) (by omega)
      refine ⟨I', L', c', e', ?_⟩
      rw [jb_266_18, hin, cond_true, hI, decide_eq_false (fun q => h3 ((len_lt hl (by omega)).mp q)), cond_false, E, jb_266_1724, show nI (6 * t) + 6 = nI (6 * (t + 1)) from nI_add (6 * t) 6]
      exact E'
theorem law_all (hd : 100 ≤ d) (hl : len ≤ 3072) (hI : I 1001 0 = nI len) : ∃ (I' : Nat → Nat → Int32) (L' : Nat → Nat → Int64) (c' e' : Nat), jev d 266 [.ref 1000] (I, L, 0, 0, 0, 0) = some (some (.int 1), jmk I' L' c' e') := by
  rw [law_0]
  exact law_loop hd hl len 0 5 6 (in0 I) (inL L) rel_0 ((in0_o (by decide)).trans hI) (by omega) (by omega)
end LL
