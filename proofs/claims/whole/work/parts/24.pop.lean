theorem bc_all {j : Nat} (hj : j < 16) : bcOk j = true := by
  rcases (show j = 0 ∨ j = 1 ∨ j = 2 ∨ j = 3 ∨ j = 4 ∨ j = 5 ∨ j = 6 ∨ j = 7 ∨ j = 8 ∨ j = 9 ∨ j = 10 ∨ j = 11 ∨ j = 12 ∨ j = 13 ∨ j = 14 ∨ j = 15 by omega) with rfl | rfl | rfl | rfl | rfl | rfl | rfl | rfl | rfl | rfl | rfl | rfl | rfl | rfl | rfl | rfl
  · exact bc_0
  · exact bc_1
  · exact bc_2
  · exact bc_3
  · exact bc_4
  · exact bc_5
  · exact bc_6
  · exact bc_7
  · exact bc_8
  · exact bc_9
  · exact bc_10
  · exact bc_11
  · exact bc_12
  · exact bc_13
  · exact bc_14
  · exact bc_15
theorem bcN_eq {a : Nat} (ha : a < 65536) : bcN a = pop a := by
  have h := bc_all (j := a / 4096) (by omega)
  unfold bcOk at h
  have h1 := List.all_eq_true.mp h (a % 4096 / 64) (List.mem_range.mpr (by omega))
  have h2 := List.all_eq_true.mp h1 (a % 64) (List.mem_range.mpr (by omega))
  have h3 := beq_eq h2
  rw [show 4096 * (a / 4096) + (64 * (a % 4096 / 64) + a % 64) = a by omega] at h3
  exact h3
theorem popF_le (a : Nat) : ∀ n, popF a n ≤ n
  | 0 => by simp [popF]
  | n + 1 => by
    have h1 := popF_le a n
    have h2 := bt_le a n
    unfold popF
    omega
theorem s_u : ∀ n, n < 32 → (((nI n).toUInt32 &&& Int32.toUInt32 31).toBitVec % 32).toNat = n := by decide +kernel
theorem ushrN {a k : Nat} (ha : a < 2 ^ 32) (hk : k < 32) : ((nI a).toUInt32 >>> ((nI k).toUInt32 &&& Int32.toUInt32 31)).toInt32 = nI (a / 2 ^ k) := pk_ushrN ha _ k (s_u k hk)
theorem t_bitCount {X : Xs} {a : Nat} {h : Hp} {Q : Qt} (ha : a < 65536) (q : Q (some (.int (nI (pop a)))) h) : Go X m_J6_bitCount_0f7a4 0 [.int (nI a)] [] h Q := by
  have l1 : (a / 2) &&& 1431655765 ≤ a / 2 := Nat.and_le_left
  have b1 : bc1 a < 65536 := by unfold bc1; omega
  have l2 : bc1 a &&& 858993459 ≤ bc1 a := Nat.and_le_left
  have l3 : (bc1 a / 4) &&& 858993459 ≤ bc1 a / 4 := Nat.and_le_left
  have b2 : bc2 (bc1 a) < 131072 := by unfold bc2; omega
  have l4 : (bc2 (bc1 a) + bc2 (bc1 a) / 16) &&& 252645135 ≤ bc2 (bc1 a) + bc2 (bc1 a) / 16 := Nat.and_le_left
  have b3 : bc3 (bc2 (bc1 a)) < 262144 := by unfold bc3; omega
  have b4 : bc4 (bc3 (bc2 (bc1 a))) < 524288 := by unfold bc4; omega
  have e1 : nI a - (((nI a).toUInt32 >>> ((nI 1).toUInt32 &&& Int32.toUInt32 31)).toInt32 &&& nI 1431655765) = nI (bc1 a) := by
    rw [ushrN (by omega) (by decide), nI_and, pk_sub (Nat.le_trans Nat.and_le_left (Nat.div_le_self _ _))]; rfl
  have e2 : (nI (bc1 a) &&& nI 858993459) + (((nI (bc1 a)).toUInt32 >>> ((nI 2).toUInt32 &&& Int32.toUInt32 31)).toInt32 &&& nI 858993459) = nI (bc2 (bc1 a)) := by
    rw [ushrN (by omega) (by decide), nI_and, nI_and, nI_add]; rfl
  have e3 : (nI (bc2 (bc1 a)) + ((nI (bc2 (bc1 a))).toUInt32 >>> ((nI 4).toUInt32 &&& Int32.toUInt32 31)).toInt32) &&& nI 252645135 = nI (bc3 (bc2 (bc1 a))) := by
    rw [ushrN (by omega) (by decide), nI_add, nI_and]; rfl
  have e4 : nI (bc3 (bc2 (bc1 a))) + ((nI (bc3 (bc2 (bc1 a)))).toUInt32 >>> ((nI 8).toUInt32 &&& Int32.toUInt32 31)).toInt32 = nI (bc4 (bc3 (bc2 (bc1 a)))) := by
    rw [ushrN (by omega) (by decide), nI_add]; rfl
  have e5 : nI (bc4 (bc3 (bc2 (bc1 a)))) + ((nI (bc4 (bc3 (bc2 (bc1 a))))).toUInt32 >>> ((nI 16).toUInt32 &&& Int32.toUInt32 31)).toInt32 = nI (bc5 (bc4 (bc3 (bc2 (bc1 a))))) := by
    rw [ushrN (by omega) (by decide), nI_add]; rfl
  have e6 : nI (bc5 (bc4 (bc3 (bc2 (bc1 a))))) &&& nI 63 = nI (pop a) := by rw [nI_and, ← bcN_eq ha]; rfl
  refine vc_ok (st := [10]) 40 ?_
  show Go X m_J6_bitCount_0f7a4 10 [.int (nI a - (((nI a).toUInt32 >>> ((nI 1).toUInt32 &&& Int32.toUInt32 31)).toInt32 &&& nI 1431655765))] [] h Q
  rw [e1]
  refine vc_ok (st := [24]) 40 ?_
  show Go X m_J6_bitCount_0f7a4 24 [.int ((nI (bc1 a) &&& nI 858993459) + (((nI (bc1 a)).toUInt32 >>> ((nI 2).toUInt32 &&& Int32.toUInt32 31)).toInt32 &&& nI 858993459))] [] h Q
  rw [e2]
  refine vc_ok (st := [34]) 40 ?_
  show Go X m_J6_bitCount_0f7a4 34 [.int ((nI (bc2 (bc1 a)) + ((nI (bc2 (bc1 a))).toUInt32 >>> ((nI 4).toUInt32 &&& Int32.toUInt32 31)).toInt32) &&& nI 252645135)] [] h Q
  rw [e3]
  refine vc_ok (st := [41]) 40 ?_
  show Go X m_J6_bitCount_0f7a4 41 [.int (nI (bc3 (bc2 (bc1 a))) + ((nI (bc3 (bc2 (bc1 a)))).toUInt32 >>> ((nI 8).toUInt32 &&& Int32.toUInt32 31)).toInt32)] [] h Q
  rw [e4]
  refine vc_ok (st := [48]) 40 ?_
  show Go X m_J6_bitCount_0f7a4 48 [.int (nI (bc4 (bc3 (bc2 (bc1 a)))) + ((nI (bc4 (bc3 (bc2 (bc1 a))))).toUInt32 >>> ((nI 16).toUInt32 &&& Int32.toUInt32 31)).toInt32)] [] h Q
  rw [e5]
  refine vg ?_
  show Q (some (.int (nI (bc5 (bc4 (bc3 (bc2 (bc1 a))))) &&& nI 63))) h
  rw [e6]
  exact q
theorem onesN {a : Nat} (ha : a < 2 ^ 31) : ∀ n, n ≤ 16 → onesF (nI a) n = nI (popF a n)
  | 0, _ => rfl
  | n + 1, h => by
    unfold onesF popF
    rw [onesN ha n (by omega), bitN ha (by omega), nI_add]
theorem t_onesN {X : Xs} {a : Nat} {h : Hp} {Q : Qt} (ha : a < 2 ^ 31) (q : Q (some (.int (nI (pop a)))) h) : Go X m_X7_ones 0 [.int (nI a), .null, .null] [] h Q := by
  refine t_ones ?_
  rw [onesN ha 16 (by omega)]
  exact q
