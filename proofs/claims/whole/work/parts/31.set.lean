/-! a number becomes another -/
section SET
variable {d : Nat} {I : Nat → Nat → Int32} {L : Nat → Nat → Int64} {c e : Nat} {n m i j z : Nat} {v : Nat → aMv} {pe : Nat → aPe} {D : Nat → Int32}
theorem kit_ch {v : Nat → aMv} (h : kitC0 n v I) (hch : ∀ k, k < n → k ≠ i → ∀ s, s < 54 → I 13 (54 * k + s) = oI (ld (v k) s)) : kitC n v (chI I i (v i) 54) := by
  refine ⟨⟨h.1, h.2.1, fun k hk => ?_⟩, fun k hk s hs => ?_⟩
  · obtain ⟨g0, g1, g2, g3, g4, g5⟩ := h.2.2 k hk
    exact ⟨g0, g1, g2, g3, g4, g5⟩
  · unfold chI
    by_cases q : k = i
    · subst q
      rw [if_pos ⟨rfl, by omega, by omega⟩]
      simp
    · rw [if_neg (by omega)]
      exact hch k hk q s hs
theorem pset_lt (h : j < 3) : pset pe i j z = pe := by
  funext k
  simp [pset, show j ≠ 3 by omega, show j ≠ 4 by omega, show j ≠ 5 by omega]
theorem mset_ge (h : 3 ≤ j) : mset v i j z = v := by
  funext k
  simp [mset, show j ≠ 0 by omega, show j ≠ 1 by omega, show j ≠ 2 by omega]
theorem mset_ne {k : Nat} (h : k ≠ i) : mset v i j z k = v k := by
  simp [mset, h]
theorem mset_ok {k : Nat} (hv : mvOk (v k)) (hf : fitN v i j z) : mvOk (mset v i j z k) := by
  unfold mvOk at hv
  unfold fitN at hf
  unfold mset
  by_cases q : k = i
  · subst q
    rw [if_pos rfl]
    repeat' split
    all_goals (unfold mvOk; (try simp only); omega)
  · rw [if_neg q]
    exact hv
theorem pset_ok (h : peOk m pe D) (hN : isN n m i j) (hf : fitN v i j z) : peOk m (pset pe i j z) D := by
  by_cases hj : j < 3
  · rw [pset_lt hj]; exact h
  · obtain ⟨h1, h2, h3, h4⟩ := h
    unfold fitN at hf
    refine ⟨h1, fun k hk => ?_, fun k hk => ?_, h4⟩
    · have h2 := h2 k hk
      unfold pset
      by_cases q : k = i
      · rw [if_pos q]
        repeat' split
        all_goals ((try simp only); omega)
      · rw [if_neg q]
        exact h2
    · unfold pset
      rw [if_neg (by omega)]
      exact h3 k hk
theorem q_161b (hj : 1 < j) (hj6 : j < 6) {a : Int32} : jat d 161 119 [.ref 0, .int (nI i), .int (nI j), .int a] [] (jmk I L c e) = some (none, jmk I L c e) := by
  rw [jb_161_119, decide_eq_true (by rw [jI_lit]; exact nI_lt hj (by omega)), cond_true, jb_161_132]
theorem c_set (hk : kitC n v I) (hm : m ≤ 6) (hp : peC m pe D I) (hN : isN n m i j) (hf : fitN v i j z) : ∃ I', jev d 161 [.ref 0, .int (nI i), .int (nI j), .int (nI z)] (jmk I L c e) = some (none, jmk I' L c e) ∧ kitC n (mset v i j z) I' ∧ peC m (pset pe i j z) D I' ∧ ∀ q, (q < 10 ∨ 17 < q ∨ q = 14) → I' q = I q := by
  have hn := hk.1.1
  obtain ⟨p1, p2, p3, p4⟩ := id hp
  have st : jev d 161 [.ref 0, .int (nI i), .int (nI j), .int (nI z)] (jmk I L c e) = jat d 161 11 [.ref 0, .int (nI i), .int (nI j), .int (nI z)] [.int (nI j)] (jmk I L c e) := by
    rw [jb_161_0, q_158 hn hm hk.1.2.1 hp.1, if_pos (cm_nI hn hm hN)]
    simp only [Option.bind_some, jps]
    rw [jb_161_6, jt_1, cond_true]
  rw [st, jb_161_11]
  have hj : j = 0 ∨ j = 1 ∨ j = 2 ∨ j = 3 ∨ j = 4 ∨ j = 5 := by omega
  have mv : ∀ I1 : Nat → Nat → Int32, j < 3 → i < n → (∀ q k, ¬ (q = 10 + j ∧ k = i) → I1 q k = I q k) → I1 (10 + j) i = nI z → kitC0 n (mset v i j z) I1 := by
    intro I1 hj3 hi hI h1
    refine ⟨hn, by rw [hI 7 6 (by omega)]; exact hk.1.2.1, fun k hk' => ?_⟩
    obtain ⟨g0, g1, g2, g3, g4, g5⟩ := hk.1.2.2 k hk'
    refine ⟨mset_ok g0 hf, ?_⟩
    by_cases q : k = i
    · subst q
      unfold mset
      rw [if_pos rfl, hI 8 k (by omega), hI 9 k (by omega)]
      have hj : j = 0 ∨ j = 1 ∨ j = 2 := by omega
      rcases hj with rfl | rfl | rfl
      · rw [if_pos rfl, hI 11 k (by omega), hI 12 k (by omega)]
        exact ⟨g1, g2, h1, g4, g5⟩
      · rw [if_neg (by omega), if_pos rfl, hI 10 k (by omega), hI 12 k (by omega)]
        exact ⟨g1, g2, g3, h1, g5⟩
      · rw [if_neg (by omega), if_neg (by omega), if_pos rfl, hI 10 k (by omega), hI 11 k (by omega)]
        exact ⟨g1, g2, g3, g4, h1⟩
    · rw [mset_ne q, hI 8 k (by omega), hI 9 k (by omega), hI 10 k (by omega), hI 11 k (by omega), hI 12 k (by omega)]
      exact ⟨g1, g2, g3, g4, g5⟩
  have ch : ∀ I1 : Nat → Nat → Int32, j < 2 → i < n → (∀ q k, ¬ (q = 10 + j ∧ k = i) → I1 q k = I q k) → I1 (10 + j) i = nI z → jat d 161 119 [.ref 0, .int (nI i), .int (nI j), .int (nI z)] [] (jmk I1 L c e) = some (none, jmk (chI I1 i (mset v i j z i) 54) L c e) ∧ kitC n (mset v i j z) (chI I1 i (mset v i j z i) 54) ∧ peC m (pset pe i j z) D (chI I1 i (mset v i j z i) 54) ∧ ∀ q, (q < 10 ∨ 17 < q ∨ q = 14) → chI I1 i (mset v i j z i) 54 q = I q := by
    intro I1 hj2 hi hI h1
    have h0 := mv I1 (by omega) hi hI h1
    refine ⟨?_, kit_ch h0 (fun k hk' q s hs => ?_), ?_, fun q hq => ?_⟩
    · rw [jb_161_119, decide_eq_false (by rw [jI_lit, nI_ltI (by omega) (by omega)]; omega), cond_false, q_59 h0 hi]
      simp only [Option.bind_some, jps]
      rw [jb_161_132]
    · rw [hI 13 _ (by omega), mset_ne q]
      exact hk.2 k hk' s hs
    · rw [pset_lt (by omega)]
      refine ⟨?_, fun k hk' => ?_, fun k hk' => ?_, fun k hk' => ?_⟩
      · show chI I1 i _ 54 14 4 = _
        unfold chI
        rw [if_neg (by omega), hI 14 4 (by omega)]; exact p1
      · unfold chI
        rw [if_neg (by omega), if_neg (by omega), hI 15 k (by omega), hI 17 k (by omega)]; exact p2 k hk'
      · unfold chI
        rw [if_neg (by omega), hI 16 k (by omega)]; exact p3 k hk'
      · unfold chI
        rw [if_neg (by omega), hI 18 k (by omega)]; exact p4 k hk'
    · funext k
      unfold chI
      rw [if_neg (by omega), hI q k (by omega)]
  have pl : ∀ I1 : Nat → Nat → Int32, 3 ≤ j → j < 6 → i < m → (∀ q k, ¬ (q = 12 + j ∧ k = i) → I1 q k = I q k) → I1 (12 + j) i = nI z → kitC n (mset v i j z) I1 ∧ peC m (pset pe i j z) D I1 ∧ ∀ q, (q < 10 ∨ 17 < q ∨ q = 14) → I1 q = I q := by
    intro I1 hj3 hj6 hi hI h1
    refine ⟨?_, ?_, fun q hq => by funext k; exact hI q k (by omega)⟩
    · rw [mset_ge hj3]
      refine ⟨⟨hn, by rw [hI 7 6 (by omega)]; exact hk.1.2.1, fun k hk' => ?_⟩, fun k hk' s hs => by rw [hI 13 _ (by omega)]; exact hk.2 k hk' s hs⟩
      rw [hI 8 k (by omega), hI 9 k (by omega), hI 10 k (by omega), hI 11 k (by omega), hI 12 k (by omega)]
      exact hk.1.2.2 k hk'
    · have hj : j = 3 ∨ j = 4 ∨ j = 5 := by omega
      refine ⟨by rw [hI 14 4 (by omega)]; exact p1, fun k hk' => ?_, fun k hk' => ?_, fun k hk' => by rw [hI 18 k (by omega)]; exact p4 k hk'⟩
      · by_cases q : k = i
        · subst q
          unfold pset
          rw [if_pos rfl]
          rcases hj with rfl | rfl | rfl
          · rw [if_pos rfl, hI 17 k (by omega)]
            exact ⟨h1, (p2 k hk').2⟩
          · rw [if_neg (by omega), if_pos rfl, hI 15 k (by omega), hI 17 k (by omega)]
            exact p2 k hk'
          · rw [if_neg (by omega), if_neg (by omega), if_pos rfl, hI 15 k (by omega)]
            exact ⟨(p2 k hk').1, h1⟩
        · unfold pset
          rw [if_neg q, hI 15 k (by omega), hI 17 k (by omega)]
          exact p2 k hk'
      · by_cases q : k = i
        · subst q
          unfold pset
          rw [if_pos rfl]
          rcases hj with rfl | rfl | rfl
          · rw [if_pos rfl, hI 16 k (by omega)]
            exact p3 k hk'
          · rw [if_neg (by omega), if_pos rfl]
            exact h1
          · rw [if_neg (by omega), if_neg (by omega), if_pos rfl, hI 16 k (by omega)]
            exact p3 k hk'
        · unfold pset
          rw [if_neg q, hI 16 k (by omega)]
          exact p3 k hk'
  have fr : ∀ (q0 i0 : Nat) (a : Int32) q k, ¬ (q = q0 ∧ k = i0) → ju I q0 i0 a q k = I q k := by
    intro q0 i0 a q k hq
    rw [ju_get, if_neg hq]
  have fg : ∀ (q0 i0 : Nat) (a : Int32), ju I q0 i0 a q0 i0 = a := by
    intro q0 i0 a
    rw [ju_get, if_pos ⟨rfl, rfl⟩]
  rcases hj with rfl | rfl | rfl | rfl | rfl | rfl
  · have hi : i < n := by omega
    refine ⟨_, ?_, (ch (ju I 10 i (nI z)) (by omega) hi (fr 10 i (nI z)) (fg 10 i (nI z))).2⟩
    show jat d 161 44 _ _ _ = _
    rw [jb_161_44, jdI (by omega), cond_true, jcl' (by omega)]
    exact (ch (ju I 10 i (nI z)) (by omega) hi (fr 10 i (nI z)) (fg 10 i (nI z))).1
  · have hi : i < n := by omega
    refine ⟨_, ?_, (ch (ju I 11 i (nI z)) (by omega) hi (fr 11 i (nI z)) (fg 11 i (nI z))).2⟩
    show jat d 161 57 _ _ _ = _
    rw [jb_161_57, jdI (by omega), cond_true, jcl' (by omega)]
    exact (ch (ju I 11 i (nI z)) (by omega) hi (fr 11 i (nI z)) (fg 11 i (nI z))).1
  · have hi : i < n := by omega
    have h0 := mv (ju I 12 i (nI z)) (by omega) hi (fr 12 i (nI z)) (fg 12 i (nI z))
    refine ⟨ju I 12 i (nI z), ?_, ⟨h0, fun k hk' s hs => ?_⟩, ?_, fun q hq => by funext k; exact fr 12 i (nI z) q k (by omega)⟩
    · show jat d 161 70 _ _ _ = _
      rw [jb_161_70, jdI (by omega), cond_true, jcl' (by omega)]
      exact q_161b (by omega) (by omega)
    · rw [fr 12 i (nI z) 13 _ (by omega), hk.2 k hk' s hs]
      by_cases q : k = i
      · subst q
        simp [mset, ld, may]
      · rw [mset_ne q]
    · rw [pset_lt (by omega)]
      exact hp
  · obtain ⟨a1, a2, a3⟩ := pl (ju I 15 i (nI z)) (by omega) (by omega) (by omega) (fr 15 i (nI z)) (fg 15 i (nI z))
    refine ⟨ju I 15 i (nI z), ?_, a1, a2, a3⟩
    show jat d 161 83 _ _ _ = _
    rw [jb_161_83, jdI (by omega), cond_true, jcl' (by omega)]
    exact q_161b (by omega) (by omega)
  · obtain ⟨a1, a2, a3⟩ := pl (ju I 16 i (nI z)) (by omega) (by omega) (by omega) (fr 16 i (nI z)) (fg 16 i (nI z))
    refine ⟨ju I 16 i (nI z), ?_, a1, a2, a3⟩
    show jat d 161 96 _ _ _ = _
    rw [jb_161_96, jdI (by omega), cond_true, jcl' (by omega)]
    exact q_161b (by omega) (by omega)
  · obtain ⟨a1, a2, a3⟩ := pl (ju I 17 i (nI z)) (by omega) (by omega) (by omega) (fr 17 i (nI z)) (fg 17 i (nI z))
    refine ⟨ju I 17 i (nI z), ?_, a1, a2, a3⟩
    show jat d 161 109 _ _ _ = _
    rw [jb_161_109, jdI (by omega), cond_true, jcl' (by omega)]
    exact q_161b (by omega) (by omega)
theorem m_set (hk : kitM n v I) (hm : m ≤ 6) (hp : peM m pe D I) (hN : isN n m i j) (hf : fitN v i j z) : jev d 181 [.ref 58, .int (nI i), .int (nI j), .int (nI z)] (jmk I L c e) = some (none, jmk (ju I (61 + j) i (nI z)) L c e) ∧ kitM n (mset v i j z) (ju I (61 + j) i (nI z)) ∧ peM m (pset pe i j z) D (ju I (61 + j) i (nI z)) := by
  have hn := hk.1
  obtain ⟨p1, p2, p3, p4⟩ := id hp
  have fr : ∀ (q0 i0 : Nat) (a : Int32) q k, ¬ (q = q0 ∧ k = i0) → ju I q0 i0 a q k = I q k := by
    intro q0 i0 a q k hq
    rw [ju_get, if_neg hq]
  have fg : ∀ (q0 i0 : Nat) (a : Int32), ju I q0 i0 a q0 i0 = a := by
    intro q0 i0 a
    rw [ju_get, if_pos ⟨rfl, rfl⟩]
  have hj : j = 0 ∨ j = 1 ∨ j = 2 ∨ j = 3 ∨ j = 4 ∨ j = 5 := by omega
  refine ⟨?_, ?_, ?_⟩
  · rw [jb_181_0, jb_181_1]
    rcases hj with rfl | rfl | rfl | rfl | rfl | rfl
    · show jat d 181 36 _ _ _ = _
      rw [jb_181_36, jdI (by omega), cond_true, jcl' (by omega)]
    · show jat d 181 44 _ _ _ = _
      rw [jb_181_44, jdI (by omega), cond_true, jcl' (by omega)]
    · show jat d 181 52 _ _ _ = _
      rw [jb_181_52, jdI (by omega), cond_true, jcl' (by omega)]
    · show jat d 181 60 _ _ _ = _
      rw [jb_181_60, jdI (by omega), cond_true, jcl' (by omega)]
    · show jat d 181 68 _ _ _ = _
      rw [jb_181_68, jdI (by omega), cond_true, jcl' (by omega)]
    · show jat d 181 76 _ _ _ = _
      rw [jb_181_76, jdI (by omega), cond_true, jcl' (by omega)]
  · refine ⟨hn, by rw [fr _ _ _ 58 0 (by omega)]; exact hk.2.1, fun k hk' => ?_⟩
    obtain ⟨g0, g1, g2, g3, g4, g5⟩ := hk.2.2 k hk'
    refine ⟨mset_ok g0 hf, ?_⟩
    rw [fr _ _ _ 59 k (by omega), fr _ _ _ 60 k (by omega)]
    by_cases q : k = i
    · subst q
      unfold mset
      rw [if_pos rfl]
      rcases hj with rfl | rfl | rfl | rfl | rfl | rfl
      · rw [if_pos rfl, fr _ _ _ 62 k (by omega), fr _ _ _ 63 k (by omega)]
        exact ⟨g1, g2, fg _ _ _, g4, g5⟩
      · rw [if_neg (by omega), if_pos rfl, fr _ _ _ 61 k (by omega), fr _ _ _ 63 k (by omega)]
        exact ⟨g1, g2, g3, fg _ _ _, g5⟩
      · rw [if_neg (by omega), if_neg (by omega), if_pos rfl, fr _ _ _ 61 k (by omega), fr _ _ _ 62 k (by omega)]
        exact ⟨g1, g2, g3, g4, fg _ _ _⟩
      all_goals
        rw [fr _ _ _ 61 k (by omega), fr _ _ _ 62 k (by omega), fr _ _ _ 63 k (by omega)]
        exact ⟨g1, g2, g3, g4, g5⟩
    · rw [mset_ne q, fr _ _ _ 61 k (by omega), fr _ _ _ 62 k (by omega), fr _ _ _ 63 k (by omega)]
      exact ⟨g1, g2, g3, g4, g5⟩
  · refine ⟨by rw [fr _ _ _ 58 6 (by omega)]; exact p1, fun k hk' => ?_, fun k hk' => ?_, fun k hk' => by rw [fr _ _ _ 67 k (by omega)]; exact p4 k hk'⟩
    · obtain ⟨g1, g2⟩ := p2 k hk'
      by_cases q : k = i
      · subst q
        unfold pset
        rw [if_pos rfl]
        rcases hj with rfl | rfl | rfl | rfl | rfl | rfl
        · rw [fr _ _ _ 64 k (by omega), fr _ _ _ 66 k (by omega)]
          exact ⟨g1, g2⟩
        · rw [fr _ _ _ 64 k (by omega), fr _ _ _ 66 k (by omega)]
          exact ⟨g1, g2⟩
        · rw [fr _ _ _ 64 k (by omega), fr _ _ _ 66 k (by omega)]
          exact ⟨g1, g2⟩
        · rw [fr _ _ _ 66 k (by omega)]
          exact ⟨fg _ _ _, g2⟩
        · rw [fr _ _ _ 64 k (by omega), fr _ _ _ 66 k (by omega)]
          exact ⟨g1, g2⟩
        · rw [fr _ _ _ 64 k (by omega)]
          exact ⟨g1, fg _ _ _⟩
      · unfold pset
        rw [if_neg q, fr _ _ _ 64 k (by omega), fr _ _ _ 66 k (by omega)]
        exact ⟨g1, g2⟩
    · have g := p3 k hk'
      by_cases q : k = i
      · subst q
        unfold pset
        rw [if_pos rfl]
        rcases hj with rfl | rfl | rfl | rfl | rfl | rfl
        · rw [fr _ _ _ 65 k (by omega)]
          exact g
        · rw [fr _ _ _ 65 k (by omega)]
          exact g
        · rw [fr _ _ _ 65 k (by omega)]
          exact g
        · rw [fr _ _ _ 65 k (by omega)]
          exact g
        · exact fg _ _ _
        · rw [fr _ _ _ 65 k (by omega)]
          exact g
      · unfold pset
        rw [if_neg q, fr _ _ _ 65 k (by omega)]
        exact g
end SET
