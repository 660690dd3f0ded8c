/-! bits counted -/
def bc1 (x : Int32) : Int32 := x - ((x.toUInt32 >>> ((1 : Int32).toUInt32 &&& Int32.toUInt32 31)).toInt32 &&& 1431655765)
def bc2 (x : Int32) : Int32 := (x &&& 858993459) + ((x.toUInt32 >>> ((2 : Int32).toUInt32 &&& Int32.toUInt32 31)).toInt32 &&& 858993459)
def bc3 (x : Int32) : Int32 := (x + (x.toUInt32 >>> ((4 : Int32).toUInt32 &&& Int32.toUInt32 31)).toInt32) &&& 252645135
def bc4 (x : Int32) : Int32 := x + (x.toUInt32 >>> ((8 : Int32).toUInt32 &&& Int32.toUInt32 31)).toInt32
def bc5 (x : Int32) : Int32 := x + (x.toUInt32 >>> ((16 : Int32).toUInt32 &&& Int32.toUInt32 31)).toInt32
def bcN (x : Nat) : Nat := ctF (fun i => x.testBit i) 12
section BCT
variable {d : Nat} {I : Nat → Nat → Int32} {L : Nat → Nat → Int64} {c e x : Nat} {b b' : Nat → Bool}
theorem q_263a {y : Int32} : jev d 263 [.int y] (jmk I L c e) = some (some (.int (bc5 (bc4 (bc3 (bc2 (bc1 y)))) &&& 63)), jmk I L c e) := by
  rw [jb_263_0]
  rfl
theorem bc_all : ∀ a, a < 64 → ∀ b, b < 64 → bc5 (bc4 (bc3 (bc2 (bc1 (nI (64 * a + b)))))) &&& 63 = nI (bcN (64 * a + b)) := by decide +kernel
theorem q_263 (hx : x < 4096) : jev d 263 [.int (nI x)] (jmk I L c e) = some (some (.int (nI (bcN x))), jmk I L c e) := by
  have := bc_all (x / 64) (by omega) (x % 64) (by omega)
  rw [show 64 * (x / 64) + x % 64 = x by omega] at this
  rw [q_263a, this]
end BCT
