/-! sheets: what both sides do with them -/
section SHE
variable {X : Xs} {h : Hp} {x y z : Int32} {Q : Qt} {V : Vw} {s b n : Nat}
def Sh (h : Hp) (s b n : Nat) : Prop := (b = 0 ∨ b = 8 ∨ b = 16 ∨ b = 64) ∧ n ≤ 40 ∧ (b = 0 → n = 0) ∧ h.1 (9 + s) 0 = nI b ∧ h.1 62 s = nI b ∧ h.1 (9 + s) 1 = nI n ∧ h.1 63 s = nI n ∧ ∀ i, i < n → h.2 (49 + s) i = h.2 64 (40 * s + i)
theorem s4 (hs : s < 4) : s = 0 ∨ s = 1 ∨ s = 2 ∨ s = 3 := by omega
theorem t_isMissing (hs : s < 4) (e : h.1 (9 + s) 0 = nI b) (hb : b ≤ 64) (a : b = 0 → Q (some (.int 1)) h) (c : b ≠ 0 → Q (some (.int 0)) h) : Go X m_X3_isMissing 0 [.ref (9 + s)] [] h Q := by
  have k : (h.1 (9 + s) 0 = 0 → Q (some (.int 1)) h) ∧ (¬ h.1 (9 + s) 0 = 0 → Q (some (.int 0)) h) := by
    rw [e]
    refine ⟨fun z => a ?_, fun z => c (fun w => z (by rw [w]; rfl))⟩
    have z : nI b = nI 0 := z
    rw [nI_eq (by omega) (by decide)] at z
    exact z
  clear e
  rcases s4 hs with rfl | rfl | rfl | rfl <;> exact vg ⟨fun z => ⟨Or.inl rfl, k.2 z⟩, fun z => ⟨Or.inr rfl, k.1 z⟩⟩
theorem t_sf_bad (p : ¬ (0 ≤ x.toInt ∧ x.toInt < 4)) (q : Q (some (.int (-1000000001))) h) : Go X m_X6_sheetFinding 0 [.ref 0, .int x] [] h Q :=
  vg (t_isSheet (fun z => absurd z p) (fun _ => vg (brn_f rfl q)))
theorem p4 (hs : s < 4) : 0 ≤ (nI s).toInt ∧ (nI s).toInt < 4 := by rw [nT (by omega)]; omega
theorem t_sf_mis (hs : s < 4) (e : h.1 (9 + s) 0 = nI 0) (q : Q (some (.int (-1000000006))) h) : Go X m_X6_sheetFinding 0 [.ref 0, .int (nI s)] [] h Q := by
  have k := t_isMissing (X := X) (Q := fun v h' => Go X m_X6_sheetFinding 19 [.ref 0, .int (nI s)] (pushO v []) h' Q) hs e (by decide) (fun _ => vg (br_f (by decide) q)) (fun z => absurd rfl z)
  refine vg (t_isSheet (fun _ => ?_) (fun z => absurd (p4 hs) z))
  rcases s4 hs with rfl | rfl | rfl | rfl
  · exact vg (brn_t (by decide) ⟨0, rfl, by decide, k⟩)
  · exact vg (brn_t (by decide) ⟨1, rfl, by decide, k⟩)
  · exact vg (brn_t (by decide) ⟨2, rfl, by decide, k⟩)
  · exact vg (brn_t (by decide) ⟨3, rfl, by decide, k⟩)
theorem t_sf_ok (hs : s < 4) (e : h.1 (9 + s) 0 = nI b) (hb : b ≠ 0) (hb2 : b ≤ 64) (q : Q (some (.int 0)) h) : Go X m_X6_sheetFinding 0 [.ref 0, .int (nI s)] [] h Q := by
  have k := t_isMissing (X := X) (Q := fun v h' => Go X m_X6_sheetFinding 19 [.ref 0, .int (nI s)] (pushO v []) h' Q) hs e hb2 (fun z => absurd z hb) (fun _ => vg (br_t rfl q))
  refine vg (t_isSheet (fun _ => ?_) (fun z => absurd (p4 hs) z))
  rcases s4 hs with rfl | rfl | rfl | rfl
  · exact vg (brn_t (by decide) ⟨0, rfl, by decide, k⟩)
  · exact vg (brn_t (by decide) ⟨1, rfl, by decide, k⟩)
  · exact vg (brn_t (by decide) ⟨2, rfl, by decide, k⟩)
  · exact vg (brn_t (by decide) ⟨3, rfl, by decide, k⟩)
theorem t_nf_bad (p : ¬ (0 ≤ x.toInt ∧ x.toInt < 4)) (q : Q (some (.int (-1000000001))) h) : Go X m_X6_numberFinding 0 [.ref 0, .int x, .int y, .null] [] h Q :=
  vg (t_sf_bad p (vg (br_f (by decide) q)))
theorem t_nf_mis (hs : s < 4) (e : h.1 (9 + s) 0 = nI 0) (q : Q (some (.int (-1000000006))) h) : Go X m_X6_numberFinding 0 [.ref 0, .int (nI s), .int y, .null] [] h Q :=
  vg (t_sf_mis hs e (vg (br_f (by decide) q)))
theorem t_nf_out (hs : s < 4) (e : h.1 (9 + s) 0 = nI b) (hb : b ≠ 0) (hb2 : b ≤ 64) (e1 : h.1 (9 + s) 1 = nI n) (hn : n ≤ 40) (p : ¬ (0 ≤ y.toInt ∧ y.toInt < n)) (q : Q (some (.int (-1000000001))) h) : Go X m_X6_numberFinding 0 [.ref 0, .int (nI s), .int y, .null] [] h Q := by
  refine vg (t_sf_ok hs e hb hb2 ?_)
  by_cases c : y < 0
  · exact vg (br_t rfl (br_t c q))
  · have k : ¬ y < h.1 (9 + s) 1 := by
      rw [e1, i_lt, nT (by omega)]
      rw [i_lt, i0] at c
      omega
    clear e e1
    rcases s4 hs with rfl | rfl | rfl | rfl
    · exact vg (br_t rfl (br_f c ⟨0, rfl, by decide, br_f k q⟩))
    · exact vg (br_t rfl (br_f c ⟨1, rfl, by decide, br_f k q⟩))
    · exact vg (br_t rfl (br_f c ⟨2, rfl, by decide, br_f k q⟩))
    · exact vg (br_t rfl (br_f c ⟨3, rfl, by decide, br_f k q⟩))
theorem t_nf_ok (hs : s < 4) (e : h.1 (9 + s) 0 = nI b) (hb : b ≠ 0) (hb2 : b ≤ 64) (e1 : h.1 (9 + s) 1 = nI n) (hn : n ≤ 40) {i : Nat} (p : i < n) (q : Q (some (.int 0)) h) : Go X m_X6_numberFinding 0 [.ref 0, .int (nI s), .int (nI i), .null] [] h Q := by
  refine vg (t_sf_ok hs e hb hb2 ?_)
  have c : ¬ nI i < 0 := nI_pos (by omega)
  have k : nI i < h.1 (9 + s) 1 := by rw [e1]; exact nI_lt p (by omega)
  clear e e1
  rcases s4 hs with rfl | rfl | rfl | rfl
  · exact vg (br_t rfl (br_f c ⟨0, rfl, by decide, br_t k q⟩))
  · exact vg (br_t rfl (br_f c ⟨1, rfl, by decide, br_t k q⟩))
  · exact vg (br_t rfl (br_f c ⟨2, rfl, by decide, br_t k q⟩))
  · exact vg (br_t rfl (br_f c ⟨3, rfl, by decide, br_t k q⟩))
theorem t_isSheetM (a : 0 ≤ x.toInt ∧ x.toInt < 4 → Q (some (.int 1)) h) (b : ¬ (0 ≤ x.toInt ∧ x.toInt < 4) → Q (some (.int 0)) h) : Go X m_X7_isSheet 0 [.int x] [] h Q :=
  vg (t_inI 0 3 rfl rfl (fun z => vg ⟨Or.inr rfl, a (by omega)⟩) (fun z => vg ⟨Or.inl rfl, b (by omega)⟩))
theorem t_wn_bad (p : ¬ (0 ≤ x.toInt ∧ x.toInt < 4)) (q : Q (some (.int 0)) h) : Go X m_X7_whyNone 0 [.ref 1, .int x] [] h Q :=
  vg (t_isSheetM (fun z => absurd z p) (fun _ => vg (brn_f rfl q)))
theorem t_wn_mis (hs : s < 4) (e : h.1 62 s = nI 0) (q : Q (some (.int 5)) h) : Go X m_X7_whyNone 0 [.ref 1, .int (nI s)] [] h Q :=
  vg (t_isSheetM (fun _ => vg (brn_t (by decide) ⟨s, rfl, hs, brn_f e q⟩)) (fun z => absurd (p4 hs) z))
theorem t_wn_ok (hs : s < 4) (e : h.1 62 s = nI b) (hb : b ≠ 0) (hb2 : b ≤ 64) (q : Q (some (.int (-1))) h) : Go X m_X7_whyNone 0 [.ref 1, .int (nI s)] [] h Q :=
  vg (t_isSheetM (fun _ => vg (brn_t (by decide) ⟨s, rfl, hs, brn_t (by show ¬ h.1 62 s = 0; rw [e]; exact nI_ne0 (by omega) (by omega)) q⟩)) (fun z => absurd (p4 hs) z))
theorem t_wnn_bad (p : ¬ (0 ≤ x.toInt ∧ x.toInt < 4)) (q : Q (some (.int 0)) h) : Go X m_X7_whyNoNumber 0 [.ref 1, .int x, .int y, .null] [] h Q :=
  vg (t_wn_bad p (vg (br_f (by decide) q)))
theorem t_wnn_mis (hs : s < 4) (e : h.1 62 s = nI 0) (q : Q (some (.int 5)) h) : Go X m_X7_whyNoNumber 0 [.ref 1, .int (nI s), .int y, .null] [] h Q :=
  vg (t_wn_mis hs e (vg (br_f (by decide) q)))
theorem t_wnn_in (hs : s < 4) (e : h.1 62 s = nI b) (hb : b ≠ 0) (hb2 : b ≤ 64) (e1 : h.1 63 s = nI n) (hn : n ≤ 40) (a : 0 ≤ y.toInt ∧ y.toInt < n → Q (some (.int (-1))) h) (c : ¬ (0 ≤ y.toInt ∧ y.toInt < n) → Q (some (.int 0)) h) : Go X m_X7_whyNoNumber 0 [.ref 1, .int (nI s), .int y, .null] [] h Q :=
  vg (t_wn_ok hs e hb hb2 (vg (br_t (by decide) ⟨s, rfl, hs, t_inI 0 ((n : Int) - 1) rfl (pred_l (by omega) e1) (fun z => vg (br_f (by decide) (a (by omega)))) (fun z => vg (br_t rfl (c (by omega))))⟩)))
-- ===== the numbers
/-- the low 16 bits -/
def toN (v : Int64) : Nat := v.toBitVec.toNat % 65536
theorem toN_lt (v : Int64) : toN v < 65536 := Nat.mod_lt _ (by decide)
theorem toN_eq (v : Int64) : (v &&& 65535).toInt32 = nI (toN v) := by
  apply Int32.toBitVec_inj.mp
  apply BitVec.eq_of_toNat_eq
  rw [Int64.toBitVec_toInt32, BitVec.signExtend_eq_setWidth_of_le _ (by decide), BitVec.toNat_setWidth, Int64.toBitVec_and, BitVec.toNat_and, nI_bv, BitVec.toNat_ofNat]
  have e : (65535 : Int64).toBitVec.toNat = 2 ^ 16 - 1 := by decide
  rw [e, Nat.and_two_pow_sub_one_eq_mod]
  rfl
def putV (b : Nat) (v : Int64) : Int64 := if b = 8 then v.toInt32.toInt8.toInt32.toInt64 else if b = 16 then v.toInt32.toInt16.toInt32.toInt64 else v
theorem shl_nat (v s : Int64) (k : Nat) (hs : (s.toBitVec.smod 64).toNat = k) : (v <<< s).toBitVec.toNat = v.toBitVec.toNat * 2 ^ k % 2 ^ 64 := by
  rw [Int64.toBitVec_shiftLeft]
  show (v.toBitVec <<< (s.toBitVec.smod 64).toNat).toNat = _
  rw [hs, BitVec.toNat_shiftLeft, Nat.shiftLeft_eq]
theorem shr_int (v s : Int64) (k : Nat) (hs : (s.toBitVec.smod 64).toNat = k) : (v >>> s).toInt = v.toInt / 2 ^ k := by
  show (v >>> s).toBitVec.toInt = _
  rw [Int64.toBitVec_shiftRight]
  show (v.toBitVec.sshiftRight (s.toBitVec.smod 64).toNat).toInt = _
  rw [hs, BitVec.toInt_sshiftRight, Int.shiftRight_eq_div_pow]
  rfl
theorem toI64 (x : Int64) : x.toInt = if x.toBitVec.toNat < 9223372036854775808 then (x.toBitVec.toNat : Int) else (x.toBitVec.toNat : Int) - 18446744073709551616 := by
  show x.toBitVec.toInt = _
  rw [BitVec.toInt_eq_toNat_cond]
  have := x.toBitVec.isLt
  split <;> split <;> first | omega | rfl
theorem l_eq {x y : Int64} : x = y ↔ x.toInt = y.toInt := ⟨fun h => by rw [h], fun h => Int64.toInt_inj.mp h⟩
theorem put8 (v : Int64) : (v <<< ((nI 64 - nI 8).toInt64 &&& 63)) >>> ((nI 64 - nI 8).toInt64 &&& 63) = v.toInt32.toInt8.toInt32.toInt64 := by
  rw [l_eq, shr_int _ _ 56 (by decide), toI64, shl_nat _ _ 56 (by decide), i64, Int8.toInt_toInt32, Int32.toInt_toInt8, Int64.toInt_toInt32, toI64 v]
  have hx := v.toBitVec.isLt
  generalize v.toBitVec.toNat = N at hx
  simp only [Int.bmod]
  omega
theorem put16 (v : Int64) : (v <<< ((nI 64 - nI 16).toInt64 &&& 63)) >>> ((nI 64 - nI 16).toInt64 &&& 63) = v.toInt32.toInt16.toInt32.toInt64 := by
  rw [l_eq, shr_int _ _ 48 (by decide), toI64, shl_nat _ _ 48 (by decide), i64, Int16.toInt_toInt32, Int32.toInt_toInt16, Int64.toInt_toInt32, toI64 v]
  have hx := v.toBitVec.isLt
  generalize v.toBitVec.toNat = N at hx
  simp only [Int.bmod]
  omega
theorem put64 (v : Int64) : (v <<< ((nI 64 - nI 64).toInt64 &&& 63)) >>> ((nI 64 - nI 64).toInt64 &&& 63) = v := by
  rw [l_eq, shr_int _ _ 0 (by decide), toI64, shl_nat _ _ 0 (by decide), toI64 v]
  have hx := v.toBitVec.isLt
  generalize v.toBitVec.toNat = N at hx
  omega
theorem putE (hb : b = 8 ∨ b = 16 ∨ b = 64) (v : Int64) : (v <<< ((nI 64 - nI b).toInt64 &&& 63)) >>> ((nI 64 - nI b).toInt64 &&& 63) = putV b v := by
  rcases hb with rfl | rfl | rfl
  · exact put8 v
  · exact put16 v
  · exact put64 v
theorem t_putS (hs : s < 4) (e : h.1 (9 + s) 0 = nI b) (hb : b = 8 ∨ b = 16 ∨ b = 64) {i : Nat} (hi : i < 40) {v : Int64} (q : Q none (h.1, up2 h.2 (49 + s) i (putV b v))) : Go X m_X3_put 0 [.ref (9 + s), .int (nI i), .long v, .null, .null] [] h Q := by
  rw [← putE hb, ← e] at q
  clear e
  rcases s4 hs with rfl | rfl | rfl | rfl <;> exact vg ⟨i, rfl, hi, q⟩
theorem t_puts (hs : s < 4) (e : h.1 62 s = nI b) (hb : b = 8 ∨ b = 16 ∨ b = 64) {i : Nat} (hi : i < 40) {v : Int64} (q : Q none (h.1, up2 h.2 64 (40 * s + i) (putV b v))) : Go X m_X7_puts 0 [.ref 1, .int (nI s), .int (nI i), .long v, .null] [] h Q := by
  have ei : nI 40 * nI s + nI i = nI (40 * s + i) := by rw [pk_mul, nI_add]
  rcases hb with rfl | rfl | rfl
  · exact vg ⟨s, rfl, hs, brn_f e ⟨40 * s + i, ei, by omega, q⟩⟩
  · exact vg ⟨s, rfl, hs, brn_t (by show ¬ h.1 62 s = _; rw [e]; decide) ⟨s, rfl, hs, brn_f e ⟨40 * s + i, ei, by omega, q⟩⟩⟩
  · exact vg ⟨s, rfl, hs, brn_t (by show ¬ h.1 62 s = _; rw [e]; decide) ⟨s, rfl, hs, brn_t (by show ¬ h.1 62 s = _; rw [e]; decide) ⟨40 * s + i, ei, by omega, q⟩⟩⟩
theorem t_threadsIn (hs : s < 4) {i : Nat} (hi : i < 40) (q : Q (some (.int (nI (toN (h.2 (49 + s) i))))) h) : Go X m_X3_threadsIn 0 [.ref (9 + s), .int (nI i)] [] h Q := by
  rw [← toN_eq] at q
  rcases s4 hs with rfl | rfl | rfl | rfl <;> exact vg ⟨i, rfl, hi, q⟩
theorem t_toldM (hs : s < 4) {i : Nat} (hi : i < 40) (q : Q (some (.int (nI (toN (h.2 64 (40 * s + i)))))) h) : Go X m_X7_told 0 [.ref 1, .int (nI s), .int (nI i)] [] h Q := by
  rw [← toN_eq] at q
  have ei : nI 40 * nI s + nI i = nI (40 * s + i) := by rw [pk_mul, nI_add]
  exact vg ⟨40 * s + i, ei, by omega, q⟩
end SHE
