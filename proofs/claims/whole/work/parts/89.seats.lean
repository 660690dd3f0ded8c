/-! the attendant: whose seconds to a chair -/
def eS (r : Nat → Int64) (j : Nat) : Nat := (r j).toInt32.toNatClampNeg
def kS (r : Nat → Int64) : Nat → Nat → Nat
  | 0, _ => 0
  | f + 1, j => if jin (r j).toInt32 54 then kS r f (j + 1) + 1 else 0
def tC (a : Nat) : Int32 := if a < 1000000 then nI a else -1
/-- seconds from the element's state to a chair -/
noncomputable def tmF (n : Nat) (v : Nat → aMv) (g : Nat → Nat → Nat) (r : Nat → Int64) (j : Nat) : Nat := dS n true none g (tS v) 54 (eS r j)
section SEA
variable {d : Nat} {I I' : Nat → Nat → Int32} {L : Nat → Nat → Int64} {c e : Nat} {x y z : Int32} {lw : List aLn} {n m w s k b i o : Nat} {v : Nat → aMv} {pe : Nat → aPe} {D : Nat → Int32} {sh : Nat → aSh} {ro : Nat → Nat → Int64} {r : Nat → Int64} {one : Option Nat} {g t : Nat → Nat → Nat} {far : Nat → Nat}
theorem kS_s {f j : Nat} : kS r (f + 1) j = if jin (r j).toInt32 54 then kS r f (j + 1) + 1 else 0 := rfl
theorem kS_ok : ∀ f j, kS r f j ≤ f ∧ (∀ i, i < kS r f j → jin (r (j + i)).toInt32 54) := by
  intro f
  induction f with
  | zero => intro j; exact ⟨Nat.le_refl _, fun i hi => absurd hi (Nat.not_lt_zero i)⟩
  | succ f ih =>
    intro j
    obtain ⟨h1, h2⟩ := ih (j + 1)
    rw [kS_s]
    by_cases q : jin (r j).toInt32 54
    · rw [if_pos q]
      refine ⟨by omega, fun i hi => ?_⟩
      cases i with
      | zero => exact q
      | succ i =>
        have := h2 i (by omega)
        rw [show j + 1 + i = j + (i + 1) by omega] at this
        exact this
    · rw [if_neg q]
      exact ⟨Nat.zero_le _, fun i hi => absurd hi (Nat.not_lt_zero i)⟩
theorem eS_ok {j : Nat} (h : jin (r j).toInt32 54) : eS r j < 54 ∧ (r j).toInt32 = nI (eS r j) := by
  obtain ⟨s, hs, h4⟩ := (jin_iff (by decide)).mp h
  unfold eS
  rw [h4, jcl' (by omega)]
  exact ⟨hs, rfl⟩
theorem q_2 (hs : shC sh ro I L) (ho : shOk b sh) (hi : i < 6) (h2 : (sh i).1 = 2) : jev d 2 [.ref 54, .int (nI i)] (jmk I L c e) = some (some (.int (nI (kS (ro i) (sh i).2 0))), jmk I L c e) := by
  obtain ⟨g1, g2, g3⟩ := hs i hi
  have hl := (ho.2 i hi).2.2 (by omega)
  have e0 : I 28 i = 0 := by
    rw [g1]
    unfold soC
    rw [if_neg (by omega), if_neg (by omega), h2]
    rfl
  have key : ∀ f j, j + f = (sh i).2 → jat d 2 32 [.ref 54, .int (nI i), .int (nI (sh i).2), .int (nI j)] [] (jmk I L c e) = some (some (.int (nI (j + kS (ro i) f j))), jmk I L c e) := by
    intro f
    induction f with
    | zero =>
      intro j hj
      rw [jb_2_32, decide_eq_true (by rw [nI_leI (by omega) (by omega)]; omega), cond_true]
      rfl
    | succ f ih =>
      intro j hj
      rw [jb_2_32, decide_eq_false (by rw [nI_leI (by omega) (by omega)]; omega), cond_false, q_77r hs ho hi (by omega) (show j < (sh i).2 by omega)]
      simp only [Option.bind_some, jps]
      rw [jb_2_46, q_141]
      simp only [Option.bind_some, jps]
      rw [jb_2_50, nI_1, ih (j + 1) (by omega), kS_s]
      simp only [Bool.cond_decide, j01]
      by_cases q : jin (ro i j).toInt32 54
      · rw [if_neg (fun k => k q), if_pos q, show j + 1 + kS (ro i) f (j + 1) = j + (kS (ro i) f (j + 1) + 1) by omega]
      · rw [if_pos q, if_neg q]
        rfl
  have hmin : (if nI (sh i).2 < 60 then nI (sh i).2 else 60) = nI (sh i).2 := by
    by_cases q : (sh i).2 < 60
    · rw [if_pos (show nI (sh i).2 < (60 : Int32) by show nI (sh i).2 < nI 60; rw [jlt_iff, nI_toInt (by omega), nI_toInt (by omega)]; omega)]
    · have : (sh i).2 = 60 := by omega
      rw [this]
      rfl
  rw [jb_2_0, q_71, jcl' (by omega), if_pos ⟨jin_nI hi (by decide), e0⟩]
  simp only [Option.bind_some, jps]
  rw [jb_2_8, jt_2, cond_false, jdI hi, cond_true, jcl' (by omega), g2 (by omega), hmin, show jat d 2 32 [.ref 54, .int (nI i), .int (nI (sh i).2), .int 0] [] (jmk I L c e) = _ from key (sh i).2 0 (by omega), Nat.zero_add]
abbrev frK (I I' : Nat → Nat → Int32) : Prop := ∀ q j, q ≠ 49 → q ≠ 55 → ¬ (q = 54 ∧ j = 4) → I' q j = I q j
theorem shC_L (h : shC sh ro I L) (f : frK I I') : shC sh ro I' L := by
  intro a ha
  rw [f 28 a (by decide) (by decide) (by omega), f 27 a (by decide) (by decide) (by omega)]
  exact h a ha
theorem tC_cond {a : Nat} (h : a ≤ 1000000) : (if (1000000 : Int32) ≤ nI a then (-1 : Int32) else nI a) = tC a := by
  unfold tC
  by_cases q : a < 1000000
  · rw [if_pos q, if_neg (show ¬ (1000000 : Int32) ≤ nI a by show ¬ nI 1000000 ≤ nI a; rw [nI_leI (by decide) (by omega)]; omega)]
  · rw [if_neg q, if_pos (show (1000000 : Int32) ≤ nI a by show nI 1000000 ≤ nI a; rw [nI_leI (by decide) (by omega)]; omega)]
/-- look: the seconds of who sits -/
theorem q_1 (hn : n ≤ 12) (hg : ∀ w s, w < n → s < 54 → 0 < g w s → tS v w s < 54 ∧ g w s ≤ 99) (hti : tiM g (tS v) (tlW g n) I) (hs : shC sh ro I L) (ho : shOk b sh) (hi : i < 6) (h2 : (sh i).1 = 2) : ∃ I', jev d 1 [.ref 54, .int (nI i)] (jmk I L c e) = some (none, jmk I' L c e) ∧ I' 54 4 = nI (kS (ro i) (sh i).2 0) ∧ (∀ j, j < kS (ro i) (sh i).2 0 → I' 55 j = tC (tmF n v g (ro i) j)) ∧ frK I I' := by
  have r1 := q_86d (d := d) (L := L) (c := c) (e := e) (bs := true) (wo := none) (to := 54) hn (by decide) wo_n hg hti
  have hl := (ho.2 i hi).2.2 (by omega)
  obtain ⟨k1, k2⟩ := kS_ok (r := ro i) (sh i).2 0
  have hfr : frK I (fC49 I (dS n true none g (tS v) 54)) := fun q j a1 a2 a3 => by
    unfold fC49
    rw [if_neg (fun k => a1 k.1)]
  have hs1 := shC_L hs hfr
  have hd : ∀ s, s < 54 → dS n true none g (tS v) 54 s ≤ 1000000 := fun s hs => dS_le hg hs
  have key : ∀ f j (I : Nat → Nat → Int32) (v3 : Value), j + f = kS (ro i) (sh i).2 0 → I 54 4 = nI (kS (ro i) (sh i).2 0) → (∀ s, s < 54 → I 49 s = nI (dS n true none g (tS v) 54 s)) → shC sh ro I L → (∀ i', i' < j → I 55 i' = tC (tmF n v g (ro i) i')) → ∃ I', jat d 1 22 [.ref 54, .int (nI i), .int (nI j), v3] [] (jmk I L c e) = some (none, jmk I' L c e) ∧ I' 54 4 = nI (kS (ro i) (sh i).2 0) ∧ (∀ j, j < kS (ro i) (sh i).2 0 → I' 55 j = tC (tmF n v g (ro i) j)) ∧ ∀ q j, q ≠ 55 → I' q j = I q j := by
    intro f
    induction f with
    | zero =>
      intro j I v3 hj h4 h49 hs h55
      have hj : j = kS (ro i) (sh i).2 0 := hj
      refine ⟨I, ?_, h4, fun i' hi' => h55 i' (by omega), fun _ _ _ => rfl⟩
      rw [jb_1_22, h4, decide_eq_true (by rw [nI_leI (by omega) (by omega)]; omega), cond_true]
    | succ f ih =>
      intro j I v3 hj h4 h49 hs h55
      have hje := k2 j (by omega)
      rw [Nat.zero_add] at hje
      obtain ⟨e1, e2⟩ := eS_ok hje
      have h87 : jev d 87 [.ref 42, .int (nI (eS (ro i) j))] (jmk I L c e) = some (some (.int (nI (dS n true none g (tS v) 54 (eS (ro i) j)))), jmk I L c e) := by
        rw [jb_87_0, q_141, if_pos (jin_nI e1 (by decide))]
        simp only [Option.bind_some, jps]
        rw [jb_87_4, jt_2, cond_false, jdI e1, cond_true, jcl' (by omega), h49 _ e1]
      obtain ⟨I2, s1, s2, s3, s4⟩ := ih (j + 1) (ju I 55 j (tC (tmF n v g (ro i) j))) (.int (nI (dS n true none g (tS v) 54 (eS (ro i) j)))) (by omega) (by rw [ju_get, if_neg (by omega)]; exact h4) (fun s hs => by rw [ju_get, if_neg (by omega)]; exact h49 s hs) (fun a ha => by rw [ju_get, if_neg (by omega), ju_get, if_neg (by omega)]; exact hs a ha) (fun i' hi' => by
        rw [ju_get]
        by_cases q : i' = j
        · rw [if_pos ⟨rfl, q⟩, q]
        · rw [if_neg (fun k => q k.2)]
          exact h55 i' (by omega))
      refine ⟨I2, ?_, s2, s3, fun q j' a1 => (s4 q j' a1).trans (by rw [ju_get, if_neg (fun k => a1 k.1)])⟩
      rw [jb_1_22, h4, decide_eq_false (by rw [nI_leI (by omega) (by omega)]; omega), cond_false, q_77r hs ho hi (by omega) (show j < (sh i).2 by omega)]
      simp only [Option.bind_some, jps]
      rw [jb_1_43, e2, h87]
      simp only [Option.bind_some, jps]
      rw [jb_1_47, jdI (show j < 60 by omega), cond_true, cond_true, jcl' (show j < 2 ^ 31 by omega), nI_1]
      have htc := tC_cond (hd _ e1)
      have htm : tmF n v g (ro i) j = dS n true none g (tS v) 54 (eS (ro i) j) := rfl
      rw [htm, ← htc] at s1
      simp only [Bool.cond_decide]
      by_cases q : (1000000 : Int32) ≤ nI (dS n true none g (tS v) 54 (eS (ro i) j))
      · rw [if_pos q] at s1 ⊢
        exact s1
      · rw [if_neg q] at s1 ⊢
        exact s1
  have hs2 : shC sh ro (ju (fC49 I (dS n true none g (tS v) 54)) 54 4 (nI (kS (ro i) (sh i).2 0))) L := fun a ha => by
    rw [ju_get, if_neg (by omega), ju_get, if_neg (by omega)]
    exact hs1 a ha
  obtain ⟨I', s1, s2, s3, s4⟩ := key (kS (ro i) (sh i).2 0) 0 (ju (fC49 I (dS n true none g (tS v) 54)) 54 4 (nI (kS (ro i) (sh i).2 0))) .null (by omega) (by rw [ju_get, if_pos ⟨rfl, rfl⟩]) (fun s hs => by rw [ju_get, if_neg (by omega)]; exact fC49_at hs) hs2 (fun i' hi' => absurd hi' (Nat.not_lt_zero i'))
  refine ⟨I', ?_, s2, s3, fun q j a1 a2 a3 => (s4 q j a2).trans (by rw [ju_get, if_neg a3]; exact hfr q j a1 a2 a3)⟩
  rw [jb_1_0, show jev d 86 [.ref 42, .int 54, .int 1, .int (-1)] (jmk I L c e) = _ from r1]
  simp only [Option.bind_some, jps]
  rw [jb_1_11, q_2 hs1 ho hi h2]
  simp only [Option.bind_some, jps]
  rw [jb_1_17]
  exact s1
/-- the reference: seconds to a chair -/
theorem q_228 (hlo : lwOk lw) (hl : lwM lw I) (hk : kitM n v I) (hp : peM m pe D I) (hpo : peOk m pe D) (hoo : oneOk m one) (hs : s < 54) : ∃ I', jev d 228 [.ref 58, .int (oneI one), .int (nI s)] (jmk I L c e) = some (some (.int (fJ (dS n true none (gS lw v pe one (knO pe one)) (tS v) 54 s))), jmk I' L c e) ∧ frM I I' := by
  have hm' : ∀ i, i < n → mvOk (v i) := fun i hi => (hk.2.2 i hi).1
  have hg := gS_ok (lw := lw) (pe := pe) (one := one) (kn := knO pe one) hm'
  obtain ⟨I1, f1, f2⟩ := q_211 (d := d) (L := L) (c := c) (e := e) (bs := true) hlo hl hk hp hpo hoo hs
  refine ⟨f88 I1 (dG n 0 v true true (gS lw v pe one (knO pe one)) s), ?_, frM_88 f2⟩
  rw [jb_228_0, show jev d 211 [.ref 58, .int (oneI one), .int (nI s), .int 1] (jmk I L c e) = _ from f1]
  simp only [Option.bind_some, jps]
  rw [jb_228_7, show (54 : Int32) = nI 54 from rfl, q_212 (by decide) (dG_b hg hs), mn_dG hg hs]
  simp only [Option.bind_some, jps]
  rw [jb_228_13]
abbrev frQ (I I' : Nat → Nat → Int32) : Prop := ∀ q j, q ≠ 77 → (q < 88 ∨ 92 < q) → ¬ (q = 58 ∧ j = 49) → I' q j = I q j
theorem kitM_R (h : kitM n v I) (f : frQ I I') : kitM n v I' := kitM_fr h (f 58 0 (by decide) (by decide) (by decide)) (fun q j a1 a2 => f q j (by omega) (by omega) (by omega))
theorem peM_R (h : peM m pe D I) (f : frQ I I') : peM m pe D I' := peM_fr h (f 58 6 (by decide) (by decide) (by decide)) (fun q j a1 a2 => f q j (by omega) (by omega) (by omega))
theorem lwM_R (h : lwM lw I) (f : frQ I I') : lwM lw I' := lwM_fr h (fun q j a => f q j (by omega) (by omega) (by omega))
theorem shM_R (h : shM sh ro I L) (f : frQ I I') : shM sh ro I' L := by
  intro a ha
  rw [f 85 a (by decide) (by decide) (by omega), f 86 a (by decide) (by decide) (by omega)]
  exact h a ha
theorem q_227 (hlo : lwOk lw) (hl : lwM lw I) (hk : kitM n v I) (hp : peM m pe D I) (hpo : peOk m pe D) (hs : shM sh ro I L) (ho : shOk b sh) (hi : i < 6) (h2 : (sh i).1 = 2) (hoo : oneOk m one) : ∃ I', jev d 227 [.ref 58, .int (nI i), .int (oneI one)] (jmk I L c e) = some (none, jmk I' L c e) ∧ I' 58 49 = nI (kS (ro i) (sh i).2 0) ∧ (∀ j, j < kS (ro i) (sh i).2 0 → I' 91 j = nI (eS (ro i) j) ∧ I' 92 j = fJ (tmF n v (gS lw v pe one (knO pe one)) (ro i) j)) ∧ frQ I I' := by
  have hlen := (ho.2 i hi).2.2 (by omega)
  have key : ∀ f j (I : Nat → Nat → Int32), j + f = (sh i).2 → I 58 49 = nI j → lwM lw I → kitM n v I → peM m pe D I → shM sh ro I L → (∀ i', i' < j → I 91 i' = nI (eS (ro i) i') ∧ I 92 i' = fJ (tmF n v (gS lw v pe one (knO pe one)) (ro i) i')) → ∃ I', jat d 227 5 [.ref 58, .int (nI i), .int (oneI one)] [] (jmk I L c e) = some (none, jmk I' L c e) ∧ I' 58 49 = nI (j + kS (ro i) f j) ∧ (∀ j', j' < j + kS (ro i) f j → I' 91 j' = nI (eS (ro i) j') ∧ I' 92 j' = fJ (tmF n v (gS lw v pe one (knO pe one)) (ro i) j')) ∧ frQ I I' := by
    intro f
    induction f with
    | zero =>
      intro j I hj h49 hl hk hp hs h9
      obtain ⟨g1, g2⟩ := (hs i hi).2 (by omega)
      refine ⟨I, ?_, h49, h9, fun _ _ _ _ _ => rfl⟩
      rw [jb_227_5, jdI hi, cond_true, jcl' (by omega), g1, h49, decide_eq_true (by rw [nI_leI (by omega) (by omega)]; omega), cond_true]
    | succ f ih =>
      intro j I hj h49 hl hk hp hs h9
      obtain ⟨g1, g2⟩ := (hs i hi).2 (by omega)
      rw [jb_227_5, jdI hi, cond_true, jcl' (by omega), g1, h49, decide_eq_false (by rw [nI_leI (by omega) (by omega)]; omega), cond_false, q_224 hs ho hi (by omega) (show j < 60 by omega)]
      simp only [Option.bind_some, jps]
      rw [jb_227_27, q_167]
      simp only [Option.bind_some, jps]
      rw [jb_227_30, h49, q_224 hs ho hi (by omega) (show j < 60 by omega), kS_s]
      simp only [Option.bind_some, jps, Bool.cond_decide, j01]
      by_cases hje : jin (ro i j).toInt32 54
      · rw [if_neg (fun q => q hje), if_pos hje]
        obtain ⟨e1, e2⟩ := eS_ok hje
        have hfr : frQ I (ju I 91 j (nI (eS (ro i) j))) := fun q u a1 a2 a3 => by rw [ju_get, if_neg (by omega)]
        obtain ⟨I1, f1, f2⟩ := q_228 (d := d) (L := L) (c := c) (e := e) hlo (lwM_R hl hfr) (kitM_R hk hfr) (peM_R hp hfr) hpo hoo e1
        have h491 : I1 58 49 = nI j := by
          rw [f2 58 49 (by decide) (by decide), ju_get, if_neg (by omega)]
          exact h49
        have hr1 : ju I 91 j (nI (eS (ro i) j)) 58 49 = nI j := by
          rw [ju_get, if_neg (by omega)]
          exact h49
        have fr2 : frQ I (ju (ju I1 92 j (fJ (tmF n v (gS lw v pe one (knO pe one)) (ro i) j))) 58 49 (nI (j + 1))) := fun q u a1 a2 a3 => by
          rw [ju_get, if_neg (by omega), ju_get, if_neg (by omega), f2 q u a1 (by omega), ju_get, if_neg (by omega)]
        obtain ⟨I2, s1, s2, s3, s4⟩ := ih (j + 1) _ (by omega) (show ju (ju I1 92 j (fJ (tmF n v (gS lw v pe one (knO pe one)) (ro i) j))) 58 49 (nI (j + 1)) 58 49 = nI (j + 1) by rw [ju_get, if_pos ⟨rfl, rfl⟩]) (lwM_R hl fr2) (kitM_R hk fr2) (peM_R hp fr2) (shM_R hs fr2) (fun i' hi' => by
          have a91 := f2 91 i' (by decide) (by decide)
          have a92 := f2 92 i' (by decide) (by decide)
          rw [ju_get] at a91
          rw [ju_get, if_neg (by omega)] at a92
          rw [ju_get, if_neg (by omega), ju_get, if_neg (by omega), ju_get, if_neg (by omega), ju_get, a91, a92]
          by_cases q : i' = j
          · rw [if_pos ⟨rfl, q⟩, if_pos ⟨rfl, q⟩, q]
            exact ⟨rfl, rfl⟩
          · rw [if_neg (fun k => q k.2), if_neg (fun k => q k.2)]
            exact h9 i' (by omega))
        refine ⟨I2, ?_, ?_, ?_, fun q u a1 a2 a3 => (s4 q u a1 a2 a3).trans (fr2 q u a1 a2 a3)⟩
        · rw [jb_227_50, jdI (show j < 60 by omega), cond_true, h49, jdI (show j < 60 by omega), cond_true, jcl' (show j < 2 ^ 31 by omega), ju_get, if_pos ⟨rfl, rfl⟩, e2, f1]
          simp only [Option.bind_some, jps]
          rw [jb_227_73, jdI (show j < 60 by omega), cond_true, jcl' (show j < 2 ^ 31 by omega), h491, nI_1]
          exact s1
        · rw [s2, show j + 1 + kS (ro i) f (j + 1) = j + (kS (ro i) f (j + 1) + 1) by omega]
        · intro j' hj'
          exact s3 j' (by omega)
      · rw [if_pos hje, if_neg hje]
        exact ⟨I, rfl, h49, h9, fun _ _ _ _ _ => rfl⟩
  have fr0 : frQ I (ju I 58 49 0) := fun q u a1 a2 a3 => by rw [ju_get, if_neg a3]
  obtain ⟨I', s1, s2, s3, s4⟩ := key (sh i).2 0 (ju I 58 49 0) (by omega) (by rw [ju_get, if_pos ⟨rfl, rfl⟩]; rfl) (lwM_R hl fr0) (kitM_R hk fr0) (peM_R hp fr0) (shM_R hs fr0) (fun i' hi' => absurd hi' (Nat.not_lt_zero i'))
  rw [Nat.zero_add] at s2 s3
  refine ⟨I', ?_, s2, s3, fun q u a1 a2 a3 => (s4 q u a1 a2 a3).trans (fr0 q u a1 a2 a3)⟩
  rw [jb_227_0]
  exact s1
end SEA
