/-! needed, oneWay: without one move -/
section NDD
variable {d : Nat} {I I' : Nat → Nat → Int32} {L : Nat → Nat → Int64} {c e : Nat} {x y z : Int32} {lw : List aLn} {n m w s k B st : Nat} {v : Nat → aMv} {pe : Nat → aPe} {D : Nat → Int32} {one : Option Nat} {far far0 : Nat → Nat} {bs sh : Bool} {g t : Nat → Nat → Nat} {tl : List (Nat × Nat)}
theorem kitC_49 (h : kitC n v I) : kitC n v (fC49 I far) := kitC_fr h (fun q j a1 a2 => by unfold fC49; rw [if_neg (by omega)])
theorem wo_k (hn : n ≤ 12) (hk : k < n) : ∀ o, some k = some o → o < 12 := fun o h => by cases h; omega
theorem mil (a : Nat) (h : a ≤ 1000000) : nI a < 1000000 ↔ a < 1000000 := by
  show nI a < nI 1000000 ↔ _
  rw [jlt_iff, nI_toInt (by omega), nI_toInt (by decide)]
  omega
theorem q_111l (hg : ∀ w s, w < n → s < 54 → 0 < g w s → t w s < 54 ∧ g w s ≤ 99) (hs : s < 54) : ∀ (f k : Nat) (far : Nat → Nat), k + f = n → kitC n v I → tiM g t (tlW g n) I → ∃ far', jat d 111 58 [.ref 0, .int x, .int (nI s), .int (nI (bitsF (ndB n g t s) k)), .int (nI k)] [] (jmk (fC49 I far) L c e) = some (some (.int (nI (bitsF (ndB n g t s) n))), jmk (fC49 I far') L c e) := by
  intro f
  induction f with
  | zero =>
    intro k far hkf hk hti
    have hkf : k = n := hkf
    have hn := hk.1.1
    subst hkf
    refine ⟨far, ?_⟩
    rw [jb_111_58, (kitC_49 hk).1.2.1, decide_eq_true (by rw [nI_leI (by omega) (by omega)]; exact Nat.le_refl _), cond_true]
  | succ f ih =>
    intro k far hkf hk hti
    have hn := hk.1.1
    have hkn : k < n := by omega
    have r1 := q_86d (d := d) (L := L) (c := c) (e := e) (bs := false) (wo := some k) (to := 54) (I := fC49 I far) hn (by decide) (wo_k hn hkn) hg (tiM_49 hti)
    rw [fC49_2] at r1
    have hd := dS_le (bs := false) (wo := some k) (to := 54) hg hs
    obtain ⟨far', r2⟩ := ih (k + 1) (dS n false (some k) g t 54) (by omega) hk hti
    refine ⟨far', ?_⟩
    rw [jb_111_58, (kitC_49 hk).1.2.1, decide_eq_false (by rw [nI_leI (by omega) (by omega)]; omega), cond_false, show jev d 86 [.ref 42, .int 54, .int 0, .int (nI k)] (jmk (fC49 I far) L c e) = _ from r1]
    simp only [Option.bind_some, jps]
    rw [jb_111_82, q_87 hs]
    simp only [Option.bind_some, jps]
    rw [jb_111_90, nI_1, or_bit6 (by omega)]
    simp only [Bool.cond_decide, mil _ hd]
    rw [bits_s] at r2
    have hb : ndB n g t s k = true ↔ ¬ dS n false (some k) g t 54 s < 1000000 := by
      unfold ndB
      exact decide_eq_true_iff
    by_cases q : dS n false (some k) g t 54 s < 1000000
    · rw [if_pos q]
      rw [if_neg (fun j => hb.mp j q)] at r2
      exact r2
    · rw [if_neg q]
      rw [if_pos (hb.mpr q)] at r2
      exact r2
theorem c_needed (hce : ceOk c e) (hlo : lwOk lw) (hl : lwC lw c I) (hk : kitC n v I) (hp : peC m pe D I) (hpo : peOk m pe D) : ∃ I', jev d 111 [.ref 0, .int x] (jmk I L c e) = some (some (.int (opNeeded n v m pe lw x)), jmk I' L c e) ∧ frG I I' := by
  have hn := hk.1.1
  have hm := hpo.1
  have hm' : ∀ i, i < n → mvOk (v i) := fun i hi => (hk.1.2.2 i hi).1
  unfold opNeeded
  rw [jb_111_0, q_151 hm hp.1]
  simp only [Option.bind_some, jps, jb_111_5, Bool.cond_decide, j01]
  by_cases hx : psOk m x
  · have hx2 : ¬¬ psOk m x := fun q => q hx
    rw [if_pos hx2, if_pos hx]
    obtain ⟨o1, o2, o3, o4⟩ := ps_of hm hx
    have hg := gS_ok (lw := lw) (pe := pe) (one := psO x) (kn := knO pe (psO x)) hm'
    obtain ⟨I1, f1, f2, f3⟩ := q_83g (d := d) (L := L) hce hlo hl hk hp hpo o1
    have r1 := q_86d (d := d) (L := L) (c := c) (e := e) (bs := false) (wo := none) (to := 54) hn (by decide) wo_n hg f2
    have hd := dS_le (bs := false) (wo := none) (to := 54) hg o3
    rw [jb_153_0]
    simp only [Option.bind_some, jps]
    rw [jb_111_14, jb_152_0]
    simp only [Option.bind_some, jps]
    rw [jb_111_23, o2, f1]
    simp only [Option.bind_some, jps]
    rw [jb_111_26, show jev d 86 [.ref 42, .int 54, .int 0, .int (-1)] (jmk I1 L c e) = _ from r1]
    simp only [Option.bind_some, jps]
    rw [jb_111_37, o4, q_87 o3]
    simp only [Option.bind_some, jps]
    rw [jb_111_45]
    simp only [Bool.cond_decide, mil _ hd]
    by_cases h1 : dS n false none (gS lw v pe (psO x) (knO pe (psO x))) (tS v) 54 (psS x) < 1000000
    · rw [if_pos h1, if_pos h1]
      obtain ⟨far', r2⟩ := q_111l (d := d) (L := L) (c := c) (e := e) (x := x) hg o3 n 0 (dS n false none (gS lw v pe (psO x) (knO pe (psO x))) (tS v) 54) (by omega) (kitC_G hk f3) f2
      exact ⟨_, r2, frG_49 f3⟩
    · rw [if_neg h1, if_neg h1]
      exact ⟨_, rfl, frG_49 f3⟩
  · rw [if_neg (fun q => q hx), if_neg hx]
    exact ⟨I, rfl, fun _ _ _ _ _ _ _ => rfl⟩
theorem mn_dB (hn : n ≤ 12) (hg : ∀ w s, w < n → s < 54 → 0 < g w s → tS v w s < 54 ∧ g w s ≤ 99) (hs : s < 54) (hw : w < 12) {to : Nat} : mnF (aimB to) (dG n (2 ^ w) v bs true g s) 54 = dS n bs (some w) g (tS v) to s := by
  have h := mn_dst (b := aimB to) (cG_ok (bs := bs) (B := 2 ^ w) (sh := true) hg) hs
  unfold dG
  exact h.trans (dst_congr (fun w' s' h' => cG_bit hw (by omega)))
theorem q_221l (hlo : lwOk lw) (hpo : peOk m pe D) (ho : oneOk m one) (hs : s < 54) (hxs : x - x / 100 * 100 = nI s) : ∀ (f k : Nat) (I : Nat → Nat → Int32), lwM lw I → kitM n v I → peM m pe D I → k + f = n → ∃ I', jat d 221 46 [.ref 58, .int x, .int (oneI one), .int (nI (bitsF (ndB n (gS lw v pe one (knO pe one)) (tS v) s) k)), .int (nI k)] [] (jmk I L c e) = some (some (.int (nI (bitsF (ndB n (gS lw v pe one (knO pe one)) (tS v) s) n))), jmk I' L c e) ∧ frM I I' := by
  intro f
  induction f with
  | zero =>
    intro k I hl hk hp hkf
    have hkf : k = n := hkf
    have hn := hk.1
    subst hkf
    refine ⟨I, ?_, fun _ _ _ _ => rfl⟩
    rw [jb_221_46, hk.2.1, decide_eq_true (by rw [nI_leI (by omega) (by omega)]; exact Nat.le_refl _), cond_true]
  | succ f ih =>
    intro k I hl hk hp hkf
    have hn := hk.1
    have hkn : k < n := by omega
    have hm' : ∀ i, i < n → mvOk (v i) := fun i hi => (hk.2.2 i hi).1
    have hg := gS_ok (lw := lw) (pe := pe) (one := one) (kn := knO pe one) hm'
    have hB : ∀ w, w < 12 → (1 : Int32) <<< (nI w &&& 31) = nI (2 ^ w) ∧ 2 ^ w < 4096 := by decide +kernel
    obtain ⟨b1, b2⟩ := hB k (by omega)
    obtain ⟨I1, f1, f2⟩ := q_210 (d := d) (L := L) (c := c) (e := e) (bs := false) (sh := true) (B := 2 ^ k) hlo hl hk hp hpo ho b2 hs
    have fr1 : frM I (f88 I1 (dG n (2 ^ k) v false true (gS lw v pe one (knO pe one)) s)) := frM_88 f2
    obtain ⟨I2, r1, r2⟩ := ih (k + 1) _ (lwM_M hl fr1) (kitM_M hk fr1) (peM_M hp fr1) (by omega)
    refine ⟨I2, ?_, frM_t fr1 r2⟩
    rw [jb_221_46, hk.2.1, decide_eq_false (by rw [nI_leI (by omega) (by omega)]; omega), cond_false, hxs, b1, show jev d 210 [.ref 58, .int (oneI one), .int (nI s), .int 0, .int (nI (2 ^ k)), .int 1] (jmk I L c e) = _ from f1]
    simp only [Option.bind_some, jps]
    rw [jb_221_70, show (54 : Int32) = nI 54 from rfl, q_212 (by decide) (dG_b hg hs), mn_dB hn hg hs (by omega)]
    simp only [Option.bind_some, jps]
    rw [jb_221_76, nI_1, or_bit6 (by omega)]
    simp only [Bool.cond_decide, fJ_no]
    rw [bits_s] at r1
    have hb : ndB n (gS lw v pe one (knO pe one)) (tS v) s k = true ↔ ¬ dS n false (some k) (gS lw v pe one (knO pe one)) (tS v) 54 s < 1000000 := by
      unfold ndB
      exact decide_eq_true_iff
    by_cases q : dS n false (some k) (gS lw v pe one (knO pe one)) (tS v) 54 s < 1000000
    · have qq : ¬¬ dS n false (some k) (gS lw v pe one (knO pe one)) (tS v) 54 s < 1000000 := fun j => j q
      rw [if_pos qq]
      rw [if_neg (fun j => hb.mp j q)] at r1
      exact r1
    · rw [if_neg (fun j => j q)]
      rw [if_pos (hb.mpr q)] at r1
      exact r1
theorem m_needed (hlo : lwOk lw) (hl : lwM lw I) (hk : kitM n v I) (hp : peM m pe D I) (hpo : peOk m pe D) : ∃ I', jev d 221 [.ref 58, .int x] (jmk I L c e) = some (some (.int (opNeeded n v m pe lw x)), jmk I' L c e) ∧ frM I I' := by
  have hn := hk.1
  have hm := hpo.1
  have hm' : ∀ i, i < n → mvOk (v i) := fun i hi => (hk.2.2 i hi).1
  unfold opNeeded
  rw [jb_221_0, q_168 hm hp.1]
  simp only [Option.bind_some, jps, jb_221_5, Bool.cond_decide, j01]
  by_cases hx : psOk m x
  · have hx2 : ¬¬ psOk m x := fun q => q hx
    rw [if_pos hx2, if_pos hx]
    obtain ⟨o1, o2, o3, o4⟩ := ps_of hm hx
    have hg := gS_ok (lw := lw) (pe := pe) (one := psO x) (kn := knO pe (psO x)) hm'
    obtain ⟨I1, f1, f2⟩ := q_211 (d := d) (L := L) (c := c) (e := e) (bs := false) hlo hl hk hp hpo o1 o3
    have fr1 : frM I (f88 I1 (dG n 0 v false true (gS lw v pe (psO x) (knO pe (psO x))) (psS x))) := frM_88 f2
    rw [o2, o4, show jev d 211 [.ref 58, .int (oneI (psO x)), .int (nI (psS x)), .int 0] (jmk I L c e) = _ from f1]
    simp only [Option.bind_some, jps]
    rw [jb_221_27, show (54 : Int32) = nI 54 from rfl, q_212 (by decide) (dG_b hg o3), mn_dG hg o3]
    simp only [Option.bind_some, jps]
    rw [jb_221_33]
    simp only [Bool.cond_decide, fJ_no]
    by_cases h1 : dS n false none (gS lw v pe (psO x) (knO pe (psO x))) (tS v) 54 (psS x) < 1000000
    · have h11 : ¬¬ dS n false none (gS lw v pe (psO x) (knO pe (psO x))) (tS v) 54 (psS x) < 1000000 := fun q => q h1
      rw [if_pos h11, if_pos h1]
      obtain ⟨I2, r1, r2⟩ := q_221l (d := d) (L := L) (c := c) (e := e) (x := x) hlo hpo o1 o3 o4 n 0 _ (lwM_M hl fr1) (kitM_M hk fr1) (peM_M hp fr1) (by omega)
      exact ⟨I2, r1, frM_t fr1 r2⟩
    · rw [if_neg (fun q => q h1), if_neg h1]
      exact ⟨_, rfl, fr1⟩
  · rw [if_neg (fun q => q hx), if_neg hx]
    exact ⟨I, rfl, fun _ _ _ _ => rfl⟩
theorem q_112l (hg : ∀ w s, w < n → s < 54 → 0 < g w s → t w s < 54 ∧ g w s ≤ 99) : ∀ (f k : Nat) (I : Nat → Nat → Int32) (v5 : Value), k + f = n → kitC n v I → tiM g t (tlW g n) I → ∃ I', jat d 112 28 [.ref 0, .int x, .int (oI (lsF (cnW n g t) k)), .int (lsI (cnW n g t) (lsF (cnW n g t) k)), .int (nI k), v5] [] (jmk I L c e) = some (some (.int (if x = 0 then oI (lsF (cnW n g t) n) else fhJ (cnW n g t) (lsF (cnW n g t) n))), jmk I' L c e) ∧ frG I I' := by
  intro f
  induction f with
  | zero =>
    intro k I v5 hkf hk hti
    have hkf : k = n := hkf
    have hn := hk.1.1
    subst hkf
    refine ⟨I, ?_, fun _ _ _ _ _ _ _ => rfl⟩
    rw [jb_112_28, hk.1.2.1, decide_eq_true (by rw [nI_leI (by omega) (by omega)]; exact Nat.le_refl _), cond_true]
    simp only [Bool.cond_decide]
    cases hb : lsF (cnW k g t) k with
    | none =>
      rw [if_pos (show oI none < 0 by decide)]
      by_cases q : x = 0
      · rw [if_pos q]
      · rw [if_neg q]
        rfl
    | some u =>
      have hu := ls_lt k u hb
      have hu0 : ¬ oI (some u) < 0 := by
        show ¬ nI u < 0
        rw [jlt_iff, nI_toInt (by omega)]
        show ¬ (u : Int) < 0
        omega
      rw [if_neg hu0]
      by_cases q : x = 0
      · rw [if_neg (fun j => j q), if_pos q]
      · rw [if_pos q, if_neg q]
        rfl
  | succ f ih =>
    intro k I v5 hkf hk hti
    have hn := hk.1.1
    have hkn : k < n := by omega
    have r1 := q_86d (d := d) (L := L) (c := c) (e := e) (bs := false) (wo := some k) (to := 54) (I := I) hn (by decide) (wo_k hn hkn) hg hti
    have hd : ∀ u, u < 54 → dS n false (some k) g t 54 u ≤ 1000000 := fun u hu => dS_le hg hu
    have hfr : frG I (fC49 I (dS n false (some k) g t 54)) := frG_49 (fun _ _ _ _ _ _ _ => rfl)
    obtain ⟨I', r2, r3⟩ := ih (k + 1) (fC49 I (dS n false (some k) g t 54)) (.int (nI (cnW n g t k))) (by omega) (kitC_49 hk) (tiM_49 hti)
    refine ⟨I', ?_, frG_t hfr r3⟩
    have hc := ct_le (b := rcB (dS n false (some k) g t 54)) 54
    have hcn : ctF (rcB (dS n false (some k) g t 54)) 54 = cnW n g t k := rfl
    rw [jb_112_28, hk.1.2.1, decide_eq_false (by rw [nI_leI (by omega) (by omega)]; omega), cond_false, show jev d 86 [.ref 42, .int 54, .int 0, .int (nI k)] (jmk I L c e) = _ from r1]
    simp only [Option.bind_some, jps]
    rw [jb_112_52, q_89 hd]
    simp only [Option.bind_some, jps]
    rw [jb_112_59, nI_1, hcn]
    rw [hcn] at hc
    rw [ls_s] at r2
    simp only [Bool.cond_decide]
    cases hb : lsF (cnW n g t) k with
    | none =>
      rw [hb] at r2
      have : ¬ lsI (cnW n g t) none ≤ nI (cnW n g t k) := by
        show ¬ nI 55 ≤ nI (cnW n g t k)
        rw [nI_leI (by omega) (by omega)]
        omega
      rw [if_neg this]
      exact r2
    | some u =>
      rw [hb] at r2
      have hcu := ct_le (b := rcB (dS n false (some u) g t 54)) 54
      have hcu : cnW n g t u ≤ 54 := hcu
      have hle : lsI (cnW n g t) (some u) ≤ nI (cnW n g t k) ↔ cnW n g t u ≤ cnW n g t k := by
        show nI (cnW n g t u) ≤ nI (cnW n g t k) ↔ _
        exact nI_leI (by omega) (by omega)
      have hls : lsN (cnW n g t) k (some u) = if cnW n g t k < cnW n g t u then some k else some u := rfl
      rw [hls] at r2
      simp only [hle]
      by_cases q : cnW n g t u ≤ cnW n g t k
      · rw [if_pos q]
        rw [if_neg (by omega)] at r2
        exact r2
      · rw [if_neg q]
        rw [if_pos (by omega)] at r2
        exact r2
theorem c_oneWay (hce : ceOk c e) (hlo : lwOk lw) (hl : lwC lw c I) (hk : kitC n v I) (hp : peC m pe D I) (hpo : peOk m pe D) : ∃ I', jev d 112 [.ref 0, .int x] (jmk I L c e) = some (some (.int (opOneWay n v pe lw x)), jmk I' L c e) ∧ frG I I' := by
  have hn := hk.1.1
  have hm' : ∀ i, i < n → mvOk (v i) := fun i hi => (hk.1.2.2 i hi).1
  unfold opOneWay
  rw [jb_112_0]
  simp only [Bool.cond_decide, show (x < 0) ↔ ¬ 0 ≤ x.toInt from z_lt0, show x ≤ 1 ↔ x.toInt ≤ 1 from jle_iff]
  by_cases hz : 0 ≤ x.toInt
  · rw [if_neg (fun q => q hz)]
    by_cases hz1 : x.toInt ≤ 1
    · rw [if_pos hz1, if_pos ⟨hz, hz1⟩]
      have hg := gS_ok (lw := lw) (pe := pe) (one := none) (kn := knO pe none) hm'
      obtain ⟨I1, f1, f2, f3⟩ := q_83g (d := d) (L := L) (one := none) hce hlo hl hk hp hpo trivial
      obtain ⟨I2, r1, r2⟩ := q_112l (d := d) (L := L) (c := c) (e := e) (x := x) hg n 0 I1 .null (by omega) (kitC_G hk f3) f2
      refine ⟨I2, ?_, frG_t f3 r2⟩
      rw [show jev d 83 [.ref 42, .int (-1)] (jmk I L c e) = _ from f1]
      simp only [Option.bind_some, jps]
      rw [jb_112_19]
      exact r1
    · rw [if_neg hz1, if_neg (fun q => hz1 q.2)]
      exact ⟨I, rfl, fun _ _ _ _ _ _ _ => rfl⟩
  · rw [if_pos hz, if_neg (fun q => hz q.1)]
    exact ⟨I, rfl, fun _ _ _ _ _ _ _ => rfl⟩
theorem q_222l (hlo : lwOk lw) (hpo : peOk m pe D) : ∀ (f k : Nat) (I : Nat → Nat → Int32), lwM lw I → kitM n v I → peM m pe D I → k + f = n → ∃ I', jat d 222 20 [.ref 58, .int x, .int (oI (lsF (cnW n (gS lw v pe none (knO pe none)) (tS v)) k)), .int (fhJ (cnW n (gS lw v pe none (knO pe none)) (tS v)) (lsF (cnW n (gS lw v pe none (knO pe none)) (tS v)) k)), .int (nI k)] [] (jmk I L c e) = some (some (.int (if x = 0 then oI (lsF (cnW n (gS lw v pe none (knO pe none)) (tS v)) n) else fhJ (cnW n (gS lw v pe none (knO pe none)) (tS v)) (lsF (cnW n (gS lw v pe none (knO pe none)) (tS v)) n))), jmk I' L c e) ∧ frM I I' := by
  intro f
  induction f with
  | zero =>
    intro k I hl hk hp hkf
    have hkf : k = n := hkf
    have hn := hk.1
    subst hkf
    refine ⟨I, ?_, fun _ _ _ _ => rfl⟩
    rw [jb_222_20, hk.2.1, decide_eq_true (by rw [nI_leI (by omega) (by omega)]; exact Nat.le_refl _), cond_true]
    simp only [Bool.cond_decide]
    by_cases q : x = 0
    · rw [if_neg (fun j => j q), if_pos q]
    · rw [if_pos q, if_neg q]
  | succ f ih =>
    intro k I hl hk hp hkf
    have hn := hk.1
    have hkn : k < n := by omega
    have hm' : ∀ i, i < n → mvOk (v i) := fun i hi => (hk.2.2 i hi).1
    have hg := gS_ok (lw := lw) (pe := pe) (one := none) (kn := knO pe none) hm'
    obtain ⟨I1, f1, f2⟩ := q_217o (d := d) (L := L) (c := c) (e := e) (one := none) (wo := some k) hlo hl hk hp hpo trivial (wo_k hn hkn)
    have fr1 : frM I (f88 I1 (dS n false (some k) (gS lw v pe none (knO pe none)) (tS v) 54)) := frM_88 f2
    obtain ⟨I2, r1, r2⟩ := ih (k + 1) _ (lwM_M hl fr1) (kitM_M hk fr1) (peM_M hp fr1) (by omega)
    refine ⟨I2, ?_, frM_t fr1 r2⟩
    rw [jb_222_20, hk.2.1, decide_eq_false (by rw [nI_leI (by omega) (by omega)]; omega), cond_false, show jev d 217 [.ref 58, .int (-1), .int (1 <<< (nI k &&& 31))] (jmk I L c e) = _ from f1]
    simp only [Option.bind_some, jps]
    have hcn : ctF (rcB (dS n false (some k) (gS lw v pe none (knO pe none)) (tS v) 54)) 54 = cnW n (gS lw v pe none (knO pe none)) (tS v) k := rfl
    have q215 : jev d 215 [.ref 58] (jmk (f88 I1 (dS n false (some k) (gS lw v pe none (knO pe none)) (tS v) 54)) L c e) = some (some (.int (nI (cnW n (gS lw v pe none (knO pe none)) (tS v) k))), jmk (f88 I1 (dS n false (some k) (gS lw v pe none (knO pe none)) (tS v) 54)) L c e) := q_215
    have hc : ∀ k, cnW n (gS lw v pe none (knO pe none)) (tS v) k ≤ 54 := fun k => ct_le 54
    rw [jb_222_38, q215]
    simp only [Option.bind_some, jps, jb_222_48, jb_222_55, q215, jb_222_59, Bool.cond_decide, nI_1]
    rw [ls_s] at r1
    generalize cnW n (gS lw v pe none (knO pe none)) (tS v) = cn at r1 hc ⊢
    cases hb : lsF cn k with
    | none =>
      rw [hb] at r1
      rw [if_pos (show oI none = -2 from rfl)]
      exact r1
    | some u =>
      rw [hb] at r1
      have hu := ls_lt k u hb
      have hu2 : ¬ oI (some u) = -2 := by
        have : ∀ a, a < 12 → ¬ nI a = -2 := by decide
        exact this u (by omega)
      have h1 := hc k
      have h2 := hc u
      have hlt : nI (cn k) < fhJ cn (some u) ↔ cn k < cn u := by
        show nI (cn k) < nI (cn u) ↔ _
        rw [jlt_iff, nI_toInt (by omega), nI_toInt (by omega)]
        omega
      have hls : lsN cn k (some u) = if cn k < cn u then some k else some u := rfl
      rw [hls] at r1
      rw [if_neg hu2]
      simp only [hlt]
      by_cases q : cn k < cn u
      · rw [if_pos q] at r1 ⊢
        exact r1
      · rw [if_neg q] at r1 ⊢
        exact r1
theorem m_oneWay (hlo : lwOk lw) (hl : lwM lw I) (hk : kitM n v I) (hp : peM m pe D I) (hpo : peOk m pe D) : ∃ I', jev d 222 [.ref 58, .int x] (jmk I L c e) = some (some (.int (opOneWay n v pe lw x)), jmk I' L c e) ∧ frM I I' := by
  unfold opOneWay
  rw [jb_222_0, q_163]
  simp only [Option.bind_some, jps, jb_222_6, Bool.cond_decide, j01, show (0 : Int32).toInt = 0 from rfl, show (1 : Int32).toInt = 1 from rfl]
  by_cases hz : 0 ≤ x.toInt ∧ x.toInt ≤ 1
  · have hz2 : ¬¬ (0 ≤ x.toInt ∧ x.toInt ≤ 1) := fun q => q hz
    rw [if_pos hz2, if_pos hz]
    obtain ⟨I2, r1, r2⟩ := q_222l (d := d) (L := L) (c := c) (e := e) (x := x) hlo hpo n 0 I hl hk hp (by omega)
    exact ⟨I2, r1, r2⟩
  · rw [if_neg (fun q => q hz), if_neg hz]
    exact ⟨I, rfl, fun _ _ _ _ => rfl⟩
end NDD
