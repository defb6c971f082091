/-! the longest run of threads alike in a row: the reference's way, the class's way, for every row -/
def stepR (u t : Nat) (p : Nat × Nat) : Nat × Nat := (cond (Nat.blt 0 t && Nat.beq (bt u t) (bt u (t - 1))) (p.1 + 1) 1, cond (Nat.blt p.2 (cond (Nat.blt 0 t && Nat.beq (bt u t) (bt u (t - 1))) (p.1 + 1) 1)) (cond (Nat.blt 0 t && Nat.beq (bt u t) (bt u (t - 1))) (p.1 + 1) 1) p.2)
def rowR (u : Nat) : Nat → Nat × Nat → Nat × Nat
  | 0, p => p
  | k + 1, p => stepR u k (rowR u k p)
def alN (u : Nat) : Nat := ((u ^^^ u / 2) ^^^ 4294967295) &&& 32767
def acrL : Nat → Nat → Nat → Nat
  | 0, _, l => l
  | n + 1, al, l => cond (Nat.beq al 0) l (acrL n (al &&& al / 2) (l + 1))
def acr (u : Nat) : Nat := acrL 15 (alN u) 1
/-- the reference's pass once more, each bit read once: for the check alone -/
def rowQ : Nat → Nat → Nat → Nat → Nat → Nat
  | 0, _, _, _, m => m
  | n + 1, u, b, r, m => cond (Nat.beq (u % 2) b) (rowQ n (u / 2) b (r + 1) (cond (Nat.blt m (r + 1)) (r + 1) m)) (rowQ n (u / 2) (u % 2) 1 (cond (Nat.blt m 1) 1 m))
def acOk (j : Nat) : Bool := (List.range 64).all (fun i => (List.range 64).all (fun q => Nat.beq (acr (4096 * j + (64 * i + q))) (rowQ 16 (4096 * j + (64 * i + q)) 2 0 0)))
theorem ac_0 : acOk 0 = true := by decide +kernel
theorem ac_1 : acOk 1 = true := by decide +kernel
theorem ac_2 : acOk 2 = true := by decide +kernel
theorem ac_3 : acOk 3 = true := by decide +kernel
theorem ac_4 : acOk 4 = true := by decide +kernel
theorem ac_5 : acOk 5 = true := by decide +kernel
theorem ac_6 : acOk 6 = true := by decide +kernel
theorem ac_7 : acOk 7 = true := by decide +kernel
theorem ac_8 : acOk 8 = true := by decide +kernel
theorem ac_9 : acOk 9 = true := by decide +kernel
theorem ac_10 : acOk 10 = true := by decide +kernel
theorem ac_11 : acOk 11 = true := by decide +kernel
theorem ac_12 : acOk 12 = true := by decide +kernel
theorem ac_13 : acOk 13 = true := by decide +kernel
theorem ac_14 : acOk 14 = true := by decide +kernel
theorem ac_15 : acOk 15 = true := by decide +kernel
