/-! small methods of the looms, both sides -/
theorem i0 : (0 : Int32).toInt = 0 := rfl
theorem t_hasX {x y : Int32} {n : Nat} (hn : n < 2 ^ 31) (hy : y = nI n) : (¬ x < 0 ∧ ¬ y ≤ x) ↔ (0 ≤ x.toInt ∧ x.toInt < n) := by
  subst hy
  rw [i_lt, i_le, nT hn, i0]
  omega
section HAS
variable {X : Xs} {x : Int32} {h : Hp} {Q : Qt}
theorem t_hasCard {n : Nat} (hn : n ≤ 10) (h0 : h.1 2 0 = nI n) (a : 0 ≤ x.toInt ∧ x.toInt < n → Q (some (.int 1)) h) (b : ¬ (0 ≤ x.toInt ∧ x.toInt < n) → Q (some (.int 0)) h) : Go X m_X1_hasCard 0 [.ref 2, .int x] [] h Q := by
  have k := t_hasX (x := x) (by omega) h0
  exact vg (And.intro (fun c => ⟨Or.inl rfl, b (fun z => (k.mpr z).1 c)⟩) (fun c => And.intro (fun c2 => ⟨Or.inl rfl, b (fun z => (k.mpr z).2 c2)⟩) (fun c2 => ⟨Or.inr rfl, a (k.mp ⟨c, c2⟩)⟩)))
theorem t_hasCardD {n : Nat} (hn : n ≤ 10) (h0 : h.1 4 0 = nI n) (a : 0 ≤ x.toInt ∧ x.toInt < n → Q (some (.int 1)) h) (b : ¬ (0 ≤ x.toInt ∧ x.toInt < n) → Q (some (.int 0)) h) : Go X m_X1_hasCard 0 [.ref 4, .int x] [] h Q := by
  have k := t_hasX (x := x) (by omega) h0
  exact vg (And.intro (fun c => ⟨Or.inl rfl, b (fun z => (k.mpr z).1 c)⟩) (fun c => And.intro (fun c2 => ⟨Or.inl rfl, b (fun z => (k.mpr z).2 c2)⟩) (fun c2 => ⟨Or.inr rfl, a (k.mp ⟨c, c2⟩)⟩)))
theorem t_hasRow {n : Nat} (hn : n ≤ 20) (h0 : h.1 2 4 = nI n) (a : 0 ≤ x.toInt ∧ x.toInt < n → Q (some (.int 1)) h) (b : ¬ (0 ≤ x.toInt ∧ x.toInt < n) → Q (some (.int 0)) h) : Go X m_X1_hasRow 0 [.ref 2, .int x] [] h Q := by
  have k := t_hasX (x := x) (by omega) h0
  exact vg (And.intro (fun c => ⟨Or.inl rfl, b (fun z => (k.mpr z).1 c)⟩) (fun c => And.intro (fun c2 => ⟨Or.inl rfl, b (fun z => (k.mpr z).2 c2)⟩) (fun c2 => ⟨Or.inr rfl, a (k.mp ⟨c, c2⟩)⟩)))
theorem t_hasLaw {n : Nat} (hn : n ≤ 6) (h0 : h.1 2 6 = nI n) (a : 0 ≤ x.toInt ∧ x.toInt < n → Q (some (.int 1)) h) (b : ¬ (0 ≤ x.toInt ∧ x.toInt < n) → Q (some (.int 0)) h) : Go X m_X1_hasLaw 0 [.ref 2, .int x] [] h Q := by
  have k := t_hasX (x := x) (by omega) h0
  exact vg (And.intro (fun c => ⟨Or.inl rfl, b (fun z => (k.mpr z).1 c)⟩) (fun c => And.intro (fun c2 => ⟨Or.inl rfl, b (fun z => (k.mpr z).2 c2)⟩) (fun c2 => ⟨Or.inr rfl, a (k.mp ⟨c, c2⟩)⟩)))
theorem pred_l {y : Int32} {n : Nat} (hn : n < 2 ^ 30) (hy : y = nI n) : ((y - nI 1).toInt64).toInt = (n : Int) - 1 := by
  rw [i64, hy, pk_sub_toInt hn (by decide)]
  rfl
theorem t_isN (j n : Nat) {y : Int32} (hn : n ≤ 30) (hy : y = nI n) {mid : Nat} (a : 0 ≤ x.toInt ∧ x.toInt < n → Q (some (.int 1)) h) (b : ¬ (0 ≤ x.toInt ∧ x.toInt < n) → Q (some (.int 0)) h) : Go X m_X7_in 0 [.long x.toInt64, .null, .long 0, .null, .long (y - nI 1).toInt64, .null] [] h Q := by
  refine t_inI 0 ((n : Int) - 1) rfl (pred_l (by omega) hy) (fun z => a ?_) (fun z => b (fun w => z ?_))
  · omega
  · omega
theorem t_isCard {n : Nat} (hn : n ≤ 10) (h0 : h.1 53 0 = nI n) (a : 0 ≤ x.toInt ∧ x.toInt < n → Q (some (.int 1)) h) (b : ¬ (0 ≤ x.toInt ∧ x.toInt < n) → Q (some (.int 0)) h) : Go X m_X7_isCard 0 [.ref 1, .int x] [] h Q := by
  refine vg ⟨0, rfl, by decide, ?_⟩
  exact t_isN (mid := 0) 0 n (by omega) h0 (fun z => vg ⟨Or.inr rfl, a z⟩) (fun z => vg ⟨Or.inl rfl, b z⟩)
theorem t_isRow {n : Nat} (hn : n ≤ 20) (h0 : h.1 53 1 = nI n) (a : 0 ≤ x.toInt ∧ x.toInt < n → Q (some (.int 1)) h) (b : ¬ (0 ≤ x.toInt ∧ x.toInt < n) → Q (some (.int 0)) h) : Go X m_X7_isRow 0 [.ref 1, .int x] [] h Q := by
  refine vg ⟨1, rfl, by decide, ?_⟩
  exact t_isN (mid := 0) 0 n (by omega) h0 (fun z => vg ⟨Or.inr rfl, a z⟩) (fun z => vg ⟨Or.inl rfl, b z⟩)
theorem t_isLaw {n : Nat} (hn : n ≤ 6) (h0 : h.1 53 2 = nI n) (a : 0 ≤ x.toInt ∧ x.toInt < n → Q (some (.int 1)) h) (b : ¬ (0 ≤ x.toInt ∧ x.toInt < n) → Q (some (.int 0)) h) : Go X m_X7_isLaw 0 [.ref 1, .int x] [] h Q := by
  refine vg ⟨2, rfl, by decide, ?_⟩
  exact t_isN (mid := 0) 0 n (by omega) h0 (fun z => vg ⟨Or.inr rfl, a z⟩) (fun z => vg ⟨Or.inl rfl, b z⟩)
end HAS
section ADD
variable {X : Xs} {x y : Int32} {h : Hp} {Q : Qt}
theorem t_addCard {n : Nat} (hn : n < 10) (h0 : h.1 2 0 = nI n) (a : Q (some (.int (nI n))) (up2 (up2 (up2 h.1 15 n x) 16 n y) 2 0 (nI (n + 1)), h.2)) : Go X m_X1_addCard 0 [.ref 2, .int x, .int y] [] h Q := by
  refine vg ⟨n, h0, hn, n, h0, hn, ?_⟩
  show Q (some (.int (h.1 2 0 + 1 - 1))) (up2 (up2 (up2 h.1 15 n x) 16 n y) 2 0 (h.1 2 0 + 1), h.2)
  rw [h0, nI_1, nI_pred]
  exact a
theorem t_addCardD {n : Nat} (hn : n < 10) (h0 : h.1 4 0 = nI n) (a : Q (some (.int (nI n))) (up2 (up2 (up2 h.1 29 n x) 30 n y) 4 0 (nI (n + 1)), h.2)) : Go X m_X1_addCard 0 [.ref 4, .int x, .int y] [] h Q := by
  refine vg ⟨n, h0, hn, n, h0, hn, ?_⟩
  show Q (some (.int (h.1 4 0 + 1 - 1))) (up2 (up2 (up2 h.1 29 n x) 30 n y) 4 0 (h.1 4 0 + 1), h.2)
  rw [h0, nI_1, nI_pred]
  exact a
theorem t_comes {n : Nat} (hn : n < 10) (h0 : h.1 53 0 = nI n) (a : Q (some (.int (nI n))) (up2 (up2 (up2 h.1 53 (4 + n) x) 53 (14 + n) y) 53 0 (nI (n + 1)), h.2)) : Go X m_X7_comes 0 [.ref 1, .int x, .int y, .null] [] h Q := by
  refine vc_ok (st := [7]) 40 ⟨0, rfl, by decide, ?_⟩
  show Go X m_X7_comes 7 [.ref 1, .int x, .int y, .int (h.1 53 0)] [] h Q
  rw [h0]
  refine vg ⟨4 + n, nI_add 4 n, by omega, 14 + n, nI_add 14 n, by omega, 0, rfl, by decide, 0, rfl, by decide, ?_⟩
  have e1 : up2 (up2 h.1 53 (4 + n) x) 53 (14 + n) y 53 0 + nI 1 = nI (n + 1) := by
    rw [← nI_add]
    simp only [up2, if_true]
    rw [if_neg (by omega), if_neg (by omega), h0]
  show Q (some (.int (nI n))) (up2 (up2 (up2 h.1 53 (4 + n) x) 53 (14 + n) y) 53 0 (up2 (up2 h.1 53 (4 + n) x) 53 (14 + n) y 53 0 + nI 1), h.2)
  rw [e1]
  exact a
theorem t_addPick {n : Nat} (hn : n < 20) (h0 : h.1 2 4 = nI n) (a : Q none (up2 (up2 h.1 18 n x) 2 4 (nI (n + 1)), h.2)) : Go X m_X1_addPick 0 [.ref 2, .int x] [] h Q := by
  refine vg ⟨n, h0, hn, ?_⟩
  show Q none (up2 (up2 h.1 18 n x) 2 4 (h.1 2 4 + 1), h.2)
  rw [h0, nI_1]
  exact a
theorem t_addPickD {n : Nat} (hn : n < 20) (h0 : h.1 4 4 = nI n) (a : Q none (up2 (up2 h.1 32 n x) 4 4 (nI (n + 1)), h.2)) : Go X m_X1_addPick 0 [.ref 4, .int x] [] h Q := by
  refine vg ⟨n, h0, hn, ?_⟩
  show Q none (up2 (up2 h.1 32 n x) 4 4 (h.1 4 4 + 1), h.2)
  rw [h0, nI_1]
  exact a
theorem t_addLaw {n : Nat} (hn : n < 6) (h0 : h.1 2 6 = nI n) (a : Q (some (.int (nI n))) (up2 (up2 (up2 (up2 h.1 19 n x) 20 n y) 21 n (nI 1)) 2 6 (nI (n + 1)), h.2)) : Go X m_X1_addLaw 0 [.ref 2, .int x, .int y] [] h Q := by
  refine vg ⟨n, h0, hn, n, h0, hn, n, h0, hn, ?_⟩
  show Q (some (.int (h.1 2 6 + 1 - 1))) (up2 (up2 (up2 (up2 h.1 19 n x) 20 n y) 21 n (nI 1)) 2 6 (h.1 2 6 + 1), h.2)
  rw [h0, nI_1, nI_pred]
  exact a
theorem t_addLawD {n : Nat} (hn : n < 6) (h0 : h.1 4 6 = nI n) (a : Q (some (.int (nI n))) (up2 (up2 (up2 (up2 h.1 33 n x) 34 n y) 35 n (nI 1)) 4 6 (nI (n + 1)), h.2)) : Go X m_X1_addLaw 0 [.ref 4, .int x, .int y] [] h Q := by
  refine vg ⟨n, h0, hn, n, h0, hn, n, h0, hn, ?_⟩
  show Q (some (.int (h.1 4 6 + 1 - 1))) (up2 (up2 (up2 (up2 h.1 33 n x) 34 n y) 35 n (nI 1)) 4 6 (h.1 4 6 + 1), h.2)
  rw [h0, nI_1, nI_pred]
  exact a
theorem t_lawComes {n : Nat} (hn : n < 6) (h0 : h.1 53 2 = nI n) (a : Q (some (.int (nI n))) (up2 (up2 (up2 (up2 h.1 53 (60 + n) x) 53 (66 + n) y) 53 (72 + n) (nI 1)) 53 2 (nI (n + 1)), h.2)) : Go X m_X7_lawComes 0 [.ref 1, .int x, .int y, .null] [] h Q := by
  refine vc_ok (st := [7]) 40 ⟨2, rfl, by decide, ?_⟩
  show Go X m_X7_lawComes 7 [.ref 1, .int x, .int y, .int (h.1 53 2)] [] h Q
  rw [h0]
  refine vg ⟨60 + n, nI_add 60 n, by omega, 66 + n, nI_add 66 n, by omega, 72 + n, nI_add 72 n, by omega, 2, rfl, by decide, 2, rfl, by decide, ?_⟩
  have e1 : up2 (up2 (up2 h.1 53 (60 + n) x) 53 (66 + n) y) 53 (72 + n) (nI 1) 53 2 + nI 1 = nI (n + 1) := by
    rw [← nI_add]
    simp only [up2, if_true]
    rw [if_neg (by omega), if_neg (by omega), if_neg (by omega), h0]
  show Q (some (.int (nI n))) (up2 (up2 (up2 (up2 h.1 53 (60 + n) x) 53 (66 + n) y) 53 (72 + n) (nI 1)) 53 2 (up2 (up2 (up2 h.1 53 (60 + n) x) 53 (66 + n) y) 53 (72 + n) (nI 1) 53 2 + nI 1), h.2)
  rw [e1]
  exact a
end ADD
