/-! how many bits: Integer.bitCount and the reference's ones, for numbers below 65536 -/
def popF (a : Nat) : Nat → Nat
  | 0 => 0
  | k + 1 => popF a k + bt a k
abbrev pop (a : Nat) : Nat := popF a 16
def bc1 (a : Nat) : Nat := a - ((a / 2) &&& 1431655765)
def bc2 (a : Nat) : Nat := (a &&& 858993459) + ((a / 4) &&& 858993459)
def bc3 (a : Nat) : Nat := (a + a / 16) &&& 252645135
def bc4 (a : Nat) : Nat := a + a / 256
def bc5 (a : Nat) : Nat := a + a / 65536
def bcN (a : Nat) : Nat := bc5 (bc4 (bc3 (bc2 (bc1 a)))) &&& 63
def bcOk (j : Nat) : Bool := (List.range 64).all (fun i => (List.range 64).all (fun q => Nat.beq (bcN (4096 * j + (64 * i + q))) (popF (4096 * j + (64 * i + q)) 16)))
theorem bc_0 : bcOk 0 = true := by decide +kernel
theorem bc_1 : bcOk 1 = true := by decide +kernel
theorem bc_2 : bcOk 2 = true := by decide +kernel
theorem bc_3 : bcOk 3 = true := by decide +kernel
theorem bc_4 : bcOk 4 = true := by decide +kernel
theorem bc_5 : bcOk 5 = true := by decide +kernel
theorem bc_6 : bcOk 6 = true := by decide +kernel
theorem bc_7 : bcOk 7 = true := by decide +kernel
theorem bc_8 : bcOk 8 = true := by decide +kernel
theorem bc_9 : bcOk 9 = true := by decide +kernel
theorem bc_10 : bcOk 10 = true := by decide +kernel
theorem bc_11 : bcOk 11 = true := by decide +kernel
theorem bc_12 : bcOk 12 = true := by decide +kernel
theorem bc_13 : bcOk 13 = true := by decide +kernel
theorem bc_14 : bcOk 14 = true := by decide +kernel
theorem bc_15 : bcOk 15 = true := by decide +kernel
