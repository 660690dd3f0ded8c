/-! the tables of the classes, checked; then one step that reads or writes cells -/
def jLi : Nat → Nat → Nat := fun c j => (bif Nat.ble c 5 then (bif Nat.ble c 2 then (bif Nat.ble c 0 then (bif Nat.ble j 1 then (bif Nat.ble j 0 then 395 else 397) else (bif Nat.ble j 2 then 399 else (bif Nat.ble j 3 then 401 else 403))) else (bif Nat.ble c 1 then (bif Nat.ble j 1 then (bif Nat.ble j 0 then 243 else 245) else (bif Nat.ble j 2 then 247 else (bif Nat.ble j 3 then 249 else 251))) else (bif Nat.ble j 2 then (bif Nat.ble j 0 then 272 else (bif Nat.ble j 1 then 274 else 276)) else (bif Nat.ble j 3 then 278 else (bif Nat.ble j 4 then 280 else 282))))) else (bif Nat.ble c 3 then (bif Nat.ble j 2 then (bif Nat.ble j 0 then 300 else (bif Nat.ble j 1 then 302 else 304)) else (bif Nat.ble j 4 then (bif Nat.ble j 3 then 306 else 308) else (bif Nat.ble j 5 then 310 else 312))) else (bif Nat.ble c 4 then (bif Nat.ble j 1 then (bif Nat.ble j 0 then 420 else 422) else (bif Nat.ble j 2 then 424 else (bif Nat.ble j 3 then 426 else 428))) else (bif Nat.ble j 4 then (bif Nat.ble j 1 then (bif Nat.ble j 0 then 115 else 117) else (bif Nat.ble j 2 then 119 else (bif Nat.ble j 3 then 121 else 123))) else (bif Nat.ble j 6 then (bif Nat.ble j 5 then 125 else 127) else (bif Nat.ble j 7 then 129 else (bif Nat.ble j 8 then 131 else 133))))))) else (bif Nat.ble c 8 then (bif Nat.ble c 6 then (bif Nat.ble j 1 then (bif Nat.ble j 0 then 373 else 375) else (bif Nat.ble j 2 then 377 else (bif Nat.ble j 3 then 379 else 381))) else (bif Nat.ble c 7 then (bif Nat.ble j 2 then (bif Nat.ble j 0 then 160 else (bif Nat.ble j 1 then 162 else 164)) else (bif Nat.ble j 4 then (bif Nat.ble j 3 then 166 else 168) else (bif Nat.ble j 5 then 170 else 172))) else (bif Nat.ble j 1 then (bif Nat.ble j 0 then 195 else 197) else (bif Nat.ble j 2 then 199 else (bif Nat.ble j 3 then 201 else 203))))) else (bif Nat.ble c 10 then (bif Nat.ble c 9 then (bif Nat.ble j 0 then 222 else (bif Nat.ble j 1 then 224 else 226)) else (bif Nat.ble j 5 then (bif Nat.ble j 2 then (bif Nat.ble j 0 then 334 else (bif Nat.ble j 1 then 336 else 338)) else (bif Nat.ble j 3 then 340 else (bif Nat.ble j 4 then 342 else 344))) else (bif Nat.ble j 8 then (bif Nat.ble j 6 then 346 else (bif Nat.ble j 7 then 348 else 350)) else (bif Nat.ble j 10 then (bif Nat.ble j 9 then 352 else 354) else (bif Nat.ble j 11 then 356 else 358))))) else (bif Nat.ble c 11 then (bif Nat.ble j 4 then (bif Nat.ble j 1 then (bif Nat.ble j 0 then 442 else 444) else (bif Nat.ble j 2 then 446 else (bif Nat.ble j 3 then 448 else 450))) else (bif Nat.ble j 7 then (bif Nat.ble j 5 then 452 else (bif Nat.ble j 6 then 454 else 456)) else (bif Nat.ble j 8 then 458 else (bif Nat.ble j 9 then 460 else 462)))) else (bif Nat.ble j 25 then (bif Nat.ble j 12 then (bif Nat.ble j 5 then (bif Nat.ble j 2 then (bif Nat.ble j 0 then 1179 else (bif Nat.ble j 1 then 1181 else 1183)) else (bif Nat.ble j 3 then 1185 else (bif Nat.ble j 4 then 1187 else 1189))) else (bif Nat.ble j 8 then (bif Nat.ble j 6 then 1191 else (bif Nat.ble j 7 then 1193 else 1195)) else (bif Nat.ble j 10 then (bif Nat.ble j 9 then 1197 else 1199) else (bif Nat.ble j 11 then 1201 else 1203)))) else (bif Nat.ble j 18 then (bif Nat.ble j 15 then (bif Nat.ble j 13 then 1205 else (bif Nat.ble j 14 then 1207 else 1209)) else (bif Nat.ble j 16 then 1211 else (bif Nat.ble j 17 then 1213 else 1215))) else (bif Nat.ble j 21 then (bif Nat.ble j 19 then 1217 else (bif Nat.ble j 20 then 1219 else 1221)) else (bif Nat.ble j 23 then (bif Nat.ble j 22 then 1223 else 1225) else (bif Nat.ble j 24 then 1227 else 1229))))) else (bif Nat.ble j 38 then (bif Nat.ble j 31 then (bif Nat.ble j 28 then (bif Nat.ble j 26 then 1231 else (bif Nat.ble j 27 then 1233 else 1235)) else (bif Nat.ble j 29 then 1237 else (bif Nat.ble j 30 then 1239 else 1241))) else (bif Nat.ble j 34 then (bif Nat.ble j 32 then 1243 else (bif Nat.ble j 33 then 1245 else 1247)) else (bif Nat.ble j 36 then (bif Nat.ble j 35 then 1249 else 1251) else (bif Nat.ble j 37 then 1253 else 1255)))) else (bif Nat.ble j 45 then (bif Nat.ble j 41 then (bif Nat.ble j 39 then 1257 else (bif Nat.ble j 40 then 1259 else 1261)) else (bif Nat.ble j 43 then (bif Nat.ble j 42 then 1263 else 1265) else (bif Nat.ble j 44 then 1267 else 1269))) else (bif Nat.ble j 48 then (bif Nat.ble j 46 then 1271 else (bif Nat.ble j 47 then 1273 else 1275)) else (bif Nat.ble j 50 then (bif Nat.ble j 49 then 1277 else 1279) else (bif Nat.ble j 51 then 1281 else 1283))))))))))
def jOi : Nat → Nat × Nat := fun o => (bif Nat.ble o 46 then (bif Nat.ble o 22 then (bif Nat.ble o 10 then (bif Nat.ble o 4 then (bif Nat.ble o 1 then (bif Nat.ble o 0 then (5, 0) else (5, 1)) else (bif Nat.ble o 2 then (5, 2) else (bif Nat.ble o 3 then (11, 0) else (7, 0)))) else (bif Nat.ble o 7 then (bif Nat.ble o 5 then (7, 1) else (bif Nat.ble o 6 then (7, 2) else (7, 3))) else (bif Nat.ble o 8 then (7, 4) else (bif Nat.ble o 9 then (7, 5) else (11, 1))))) else (bif Nat.ble o 16 then (bif Nat.ble o 13 then (bif Nat.ble o 11 then (8, 0) else (bif Nat.ble o 12 then (8, 1) else (8, 2))) else (bif Nat.ble o 14 then (8, 3) else (bif Nat.ble o 15 then (11, 2) else (9, 0)))) else (bif Nat.ble o 19 then (bif Nat.ble o 17 then (9, 1) else (bif Nat.ble o 18 then (9, 2) else (11, 9))) else (bif Nat.ble o 20 then (1, 0) else (bif Nat.ble o 21 then (1, 1) else (11, 10)))))) else (bif Nat.ble o 34 then (bif Nat.ble o 28 then (bif Nat.ble o 25 then (bif Nat.ble o 23 then (2, 0) else (bif Nat.ble o 24 then (2, 1) else (2, 2))) else (bif Nat.ble o 26 then (2, 3) else (bif Nat.ble o 27 then (11, 8) else (3, 0)))) else (bif Nat.ble o 31 then (bif Nat.ble o 29 then (3, 2) else (bif Nat.ble o 30 then (3, 3) else (3, 4))) else (bif Nat.ble o 32 then (11, 7) else (bif Nat.ble o 33 then (10, 3) else (10, 4))))) else (bif Nat.ble o 40 then (bif Nat.ble o 37 then (bif Nat.ble o 35 then (10, 5) else (bif Nat.ble o 36 then (10, 6) else (10, 7))) else (bif Nat.ble o 38 then (10, 8) else (bif Nat.ble o 39 then (10, 9) else (10, 10)))) else (bif Nat.ble o 43 then (bif Nat.ble o 41 then (10, 11) else (bif Nat.ble o 42 then (10, 0) else (10, 1))) else (bif Nat.ble o 44 then (10, 2) else (bif Nat.ble o 45 then (11, 3) else (6, 4))))))) else (bif Nat.ble o 69 then (bif Nat.ble o 57 then (bif Nat.ble o 51 then (bif Nat.ble o 48 then (bif Nat.ble o 47 then (6, 0) else (6, 1)) else (bif Nat.ble o 49 then (6, 2) else (bif Nat.ble o 50 then (6, 3) else (11, 4)))) else (bif Nat.ble o 54 then (bif Nat.ble o 52 then (0, 2) else (bif Nat.ble o 53 then (0, 3) else (0, 0))) else (bif Nat.ble o 55 then (0, 1) else (bif Nat.ble o 56 then (11, 5) else (4, 0))))) else (bif Nat.ble o 63 then (bif Nat.ble o 60 then (bif Nat.ble o 58 then (4, 1) else (bif Nat.ble o 59 then (11, 6) else (12, 1))) else (bif Nat.ble o 61 then (12, 2) else (bif Nat.ble o 62 then (12, 3) else (12, 4)))) else (bif Nat.ble o 66 then (bif Nat.ble o 64 then (12, 5) else (bif Nat.ble o 65 then (12, 7) else (12, 8))) else (bif Nat.ble o 67 then (12, 9) else (bif Nat.ble o 68 then (12, 10) else (12, 13)))))) else (bif Nat.ble o 81 then (bif Nat.ble o 75 then (bif Nat.ble o 72 then (bif Nat.ble o 70 then (12, 16) else (bif Nat.ble o 71 then (12, 17) else (12, 18))) else (bif Nat.ble o 73 then (12, 19) else (bif Nat.ble o 74 then (12, 24) else (12, 25)))) else (bif Nat.ble o 78 then (bif Nat.ble o 76 then (12, 26) else (bif Nat.ble o 77 then (12, 27) else (12, 28))) else (bif Nat.ble o 79 then (12, 29) else (bif Nat.ble o 80 then (12, 33) else (12, 34))))) else (bif Nat.ble o 87 then (bif Nat.ble o 84 then (bif Nat.ble o 82 then (12, 35) else (bif Nat.ble o 83 then (12, 38) else (12, 40))) else (bif Nat.ble o 85 then (12, 42) else (bif Nat.ble o 86 then (12, 43) else (12, 44)))) else (bif Nat.ble o 90 then (bif Nat.ble o 88 then (12, 45) else (bif Nat.ble o 89 then (12, 46) else (12, 47))) else (bif Nat.ble o 91 then (12, 48) else (bif Nat.ble o 92 then (12, 50) else (12, 51))))))))
def jrefty : FieldType → Bool
  | .object _ => true
  | .array _ => true
  | _ => false
def jchF (a b : Nat) : Bool :=
  jwd (jLi a b) (u_lay (jC a).1 (jC a).2.1 b) && (decide (((jC a).2.1 b).1 = (jC a).1) && (Nat.blt (jR a b) 93 && (match jF a b with
    | 0 => decide ((jC a).2.2 b = .int) && decide (((jC a).2.1 b).2.2.2 = false)
    | 2 => decide ((jC a).2.2 b = .boolean) && decide (((jC a).2.1 b).2.2.2 = false)
    | 1 => jrefty ((jC a).2.2 b) && (decide (((jC a).2.1 b).2.2.2 = true) && decide (jOi (jO a b) = (a, b)))
    | 3 => jrefty ((jC a).2.2 b) && (decide (((jC a).2.1 b).2.2.2 = false) && decide (a = 5 ∧ b = 3))
    | 4 => jrefty ((jC a).2.2 b) && (decide (((jC a).2.1 b).2.2.2 = false) && decide (a = 5 ∧ b = 4))
    | _ => false)))
set_option maxRecDepth 100000 in
theorem jchF_all : (List.range 13).all (fun a => (List.range (jNF a)).all (fun b => jchF a b)) = true := by decide +kernel
theorem jchF_at {a b : Nat} (ha : a < 13) (hb : b < jNF a) : jchF a b = true := List.all_eq_true.mp (List.all_eq_true.mp jchF_all a (List.mem_range.mpr ha)) b (List.mem_range.mpr hb)
theorem jPl_all : (List.range 13).all (fun a => decide (jK (jP a) = (4, a)) && (Nat.blt (jP a) 93 && (jwd (jCi a) (.instantiable (jC a).1 (jNF a)) && jwd (jCn a) (.initialized (jC a).1)))) = true := by decide +kernel
theorem jPl_at {a : Nat} (ha : a < 13) : jK (jP a) = (4, a) ∧ jP a < 93 ∧ (.instantiable (jC a).1 (jNF a)) ∈ jTB ∧ (.initialized (jC a).1) ∈ jTB := by
  obtain ⟨h1, h2⟩ := jand (List.all_eq_true.mp jPl_all a (List.mem_range.mpr ha))
  obtain ⟨h2, h3⟩ := jand h2
  obtain ⟨h3, h4⟩ := jand h3
  exact ⟨of_decide_eq_true h1, Nat.blt_eq.mp h2, jwd_in h3, jwd_in h4⟩
theorem jKp_all : (List.range 93).all (fun p => match jK p with | (4, c) => Nat.blt c 13 && Nat.beq (jP c) p | (k, _) => Nat.blt k 4) = true := by decide +kernel
theorem jKp_at {p c : Nat} (hp : p < 93) (h : jK p = (4, c)) : c < 13 ∧ jP c = p := by
  have := List.all_eq_true.mp jKp_all p (List.mem_range.mpr hp)
  rw [h] at this
  obtain ⟨h1, h2⟩ := jand this
  exact ⟨Nat.blt_eq.mp h1, Nat.eq_of_beq_eq_true h2⟩
theorem jK_out {p : Nat} (h : 93 ≤ p) : (jK p).1 = 5 ∨ (jK p).1 = 6 ∨ (jK p).1 = 7 ∨ (jK p).1 = 9 := by
  unfold jK
  have h1 : Nat.blt p 93 = false := by
    cases hb : Nat.blt p 93 with
    | false => rfl
    | true => exact absurd (Nat.blt_eq.mp hb) (by omega)
  rw [h1]
  cases Nat.beq p 1000
  · cases Nat.beq p 1001
    · cases Nat.beq p 1002
      · exact Or.inr (Or.inr (Or.inr rfl))
      · exact Or.inr (Or.inr (Or.inl rfl))
    · exact Or.inr (Or.inl rfl)
  · exact Or.inl rfl
theorem jK_lt {p k n : Nat} (h : jK p = (k, n)) (hk : k < 5) : p < 93 := by
  rcases Nat.lt_or_ge p 93 with q | q
  · exact q
  · have := jK_out q
    rw [h] at this
    simp at this
    omega
theorem jcf : ∀ a, a < 13 → vwCl[a]? = some ((jC a).1, (jC a).2.1, jNF a) ∧ (∀ k, k < jNF a → parseFieldDescriptor ((jC a).2.1 k).2.2.1 = some ((jC a).2.2 k)) ∧ (∀ x, x < jNF a → ∀ y, y < jNF a → x ≠ y → ((jC a).2.1 x).2.1 ≠ ((jC a).2.1 y).2.1)
  | 0, _ => ⟨rfl, tyX0_ok, nmX0⟩
  | 1, _ => ⟨rfl, tyX1_ok, nmX1⟩
  | 2, _ => ⟨rfl, tyX2_ok, nmX2⟩
  | 3, _ => ⟨rfl, tyX3_ok, nmX3⟩
  | 4, _ => ⟨rfl, tyX4_ok, nmX4⟩
  | 5, _ => ⟨rfl, tyX5_ok, nmX5⟩
  | 6, _ => ⟨rfl, tyX6_ok, nmX6⟩
  | 7, _ => ⟨rfl, tyX7_ok, nmX7⟩
  | 8, _ => ⟨rfl, tyX8_ok, nmX8⟩
  | 9, _ => ⟨rfl, tyX9_ok, nmX9⟩
  | 10, _ => ⟨rfl, tyX10_ok, nmX10⟩
  | 11, _ => ⟨rfl, tyX11_ok, nmX11⟩
  | 12, _ => ⟨rfl, tyX12_ok, nmX12⟩
  | n + 13, h => absurd h (by omega)
theorem jcw {a : Nat} (ha : a < 13) : ∀ w ∈ u_ws (jC a).1 (jC a).2.1 (jNF a), w ∈ jTB := by
  intro w hw
  obtain ⟨k, hk, rfl⟩ := List.mem_map.mp hw
  exact jwd_in (jand (jchF_at ha (List.mem_range.mp hk))).1
theorem jaw : (.arrayClass .int) ∈ jTB ∧ (.arrayClass .long) ∈ jTB ∧ (.arrayClass .boolean) ∈ jTB ∧ (.native arraycopyName) ∈ jTB ∧ (.static arraycopyName) ∈ jTB ∧ (.initialized "java/lang/System") ∈ jTB ∧ (.instanceMethod objectInit) ∈ jTB ∧ (.code objectInit ⟨#[0xb1]⟩ 1 none) ∈ jTB := ⟨jwd_in (t := 136) (by decide +kernel), jwd_in (t := 229) (by decide +kernel), jwd_in (t := 361) (by decide +kernel), jwd_in (t := 575) (by decide +kernel), jwd_in (t := 574) (by decide +kernel), jwd_in (t := 87) (by decide +kernel), jwd_in (t := 96) (by decide +kernel), jwd_in (t := 97) (by decide +kernel)⟩
theorem jad_lt {G : jG} {p : Nat} (h : p < 93) : jad G p = G.1 + p := by
  unfold jad
  rw [if_neg (by omega), if_neg (by omega), if_neg (by omega)]
theorem jfl_ext {G : jG} {m m' : jH} {q : Nat} (h1 : m'.1 q = m.1 q) (h3 : m'.2.2.1 = m.2.2.1) (h4 : m'.2.2.2.1 = m.2.2.2.1) (h5 : m'.2.2.2.2.2 = m.2.2.2.2.2) : jfl G m' q = jfl G m q := by
  funext c j
  unfold jfl
  rw [h1, h3, h4, h5]
theorem jce_ext {G : jG} {m m' : jH} {q : Nat} (h1 : m'.1 q = m.1 q) (h2 : m'.2.1 q = m.2.1 q) (h3 : m'.2.2.1 = m.2.2.1) (h4 : m'.2.2.2.1 = m.2.2.2.1) (h5 : m'.2.2.2.2.2 = m.2.2.2.2.2) : jce G m' q = jce G m q := by
  unfold jce
  rw [h1, h2, jfl_ext h1 h3 h4 h5]
theorem jws_ext {G : jG} {m m' : jH} (hn : m'.2.2.2.2.1 = m.2.2.2.2.1) (h : ∀ q, q < m.2.2.2.2.1 → jce G m' q = jce G m q) : jws G m' = jws G m := by
  unfold jws
  rw [hn]
  exact List.map_congr_left (fun q hq => by rw [h q (List.mem_range.mp hq)])
theorem ju_at {α : Type} (f : Nat → Nat → α) (p i : Nat) (x : α) {q : Nat} (h : q ≠ p) : ju f p i x q = f q := by
  funext j
  exact if_neg (fun e => h e.1)
theorem jz_at {α : Type} (z : α) (f : Nat → Nat → α) (p : Nat) {q : Nat} (h : q ≠ p) : jz z f p q = f q := by
  funext j
  exact if_neg h
theorem jis_of {m : jH} {p a : Nat} (h : jis m p a = true) : p = jP a ∧ p < m.2.2.2.2.1 ∧ a < 13 := by
  obtain ⟨h1, h2⟩ := jand h
  obtain ⟨h2, h3⟩ := jand h2
  exact ⟨Nat.eq_of_beq_eq_true h1, Nat.blt_eq.mp h2, Nat.blt_eq.mp h3⟩
theorem jobj {G : jG} {m : jH} {p a : Nat} (h : jis m p a = true) : (jws G m)[p]? = some (G.1 + p, .inr (a, (List.range (jNF a)).map (jfl G m p a))) := by
  obtain ⟨rfl, h2, h3⟩ := jis_of h
  rw [jws_get h2]
  unfold jce
  rw [(jPl_at h3).1]
  rfl
theorem jarr {G : jG} {m : jH} {p n : Nat} (h : jK p = (0, n)) (hp : p < m.2.2.2.2.1) : (jws G m)[p]? = some (G.1 + p, .inl (G.2.2.2.2.2.2.2.1, n, .inl (m.1 p))) := by
  rw [jws_get hp]
  unfold jce
  rw [h]
  rfl
theorem jarrL {G : jG} {m : jH} {p n : Nat} (h : jK p = (1, n)) (hp : p < m.2.2.2.2.1) : (jws G m)[p]? = some (G.1 + p, .inl (G.2.2.2.2.2.2.2.2.1, n, .inr (.inl (m.2.1 p)))) := by
  rw [jws_get hp]
  unfold jce
  rw [h]
  rfl
theorem jarrZ {G : jG} {m : jH} {p n : Nat} (h : jK p = (2, n)) (hp : p < m.2.2.2.2.1) : (jws G m)[p]? = some (G.1 + p, .inl (G.2.2.2.2.2.2.2.2.2.1, n, .inl (m.1 p))) := by
  rw [jws_get hp]
  unfold jce
  rw [h]
  rfl
theorem jarrR {G : jG} {m : jH} {p n : Nat} (h : jK p = (3, n)) (hp : p < m.2.2.2.2.1) : (jws G m)[p]? = some (G.1 + p, .inl (G.2.2.2.2.2.2.2.2.2.2, n, .inr (.inr (.inr (.inr (fun i => if i < n then some (G.1 + p + 1 + i) else none)))))) := by
  rw [jws_get hp]
  unfold jce
  rw [h]
  rfl
theorem jnar {ty : FieldType} (h : jrefty ty = true) (x : Addr) : narrow ty (.ref x) = .ref x ∧ fits ty (.ref x) = true ∧ defaultValue ty = .null := by
  cases ty <;> first | exact ⟨rfl, rfl, rfl⟩ | cases h
theorem jin_of {i : Int32} {n : Nat} (h : jin i n) : vp_in i n := vp_in_iff.mpr h
