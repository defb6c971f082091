/-! feed -/
section FEED
variable {X : Xs} {h : Hp} {x y z : Int32} {Q : Qt} {V : Vw}
/-- the byte of x with k bytes to its right -/
def byN (x : Int32) (k : Nat) : Nat := x.toBitVec.toNat / 2 ^ (8 * k) % 256
theorem byC {k : Nat} (hk : k < 4) : (x.toUInt32 >>> ((nI 8 * nI k).toUInt32 &&& Int32.toUInt32 31)).toInt32 &&& nI 255 = nI (byN x k) := by
  rw [pk_mul, pk_and _ 8 (by decide), pk_ushr x (nI (8 * k)) (8 * k) (s_u _ (by omega))]
  rfl
theorem bm_cg {a b : Int} (h : a % 256 = b % 256) : Int.bmod a (2 ^ 8) = Int.bmod b (2 ^ 8) := by
  unfold Int.bmod
  have h2 : a % ((2 ^ 8 : Nat) : Int) = b % ((2 ^ 8 : Nat) : Int) := h
  simp only [h2]
theorem toI_toN (x : Int32) : x.toInt = if x.toBitVec.toNat < 2147483648 then (x.toBitVec.toNat : Int) else (x.toBitVec.toNat : Int) - 4294967296 := by
  show x.toBitVec.toInt = _
  rw [BitVec.toInt_eq_toNat_cond]
  have := x.toBitVec.isLt
  split <;> split <;> first | omega | rfl
theorem byM {k : Nat} (hk : k < 4) : (x >>> ((nI 8 * nI k) &&& 31)).toInt8.toInt32 = (nI (byN x k)).toInt8.toInt32 := by
  rw [i_eq, Int8.toInt_toInt32, Int8.toInt_toInt32, Int32.toInt_toInt8, Int32.toInt_toInt8]
  refine bm_cg ?_
  have hb : byN x k < 256 := Nat.mod_lt _ (by decide)
  rw [nT (by omega), pk_mul, pk_shr x _ (8 * k) (s_l _ (by omega)), Int.shiftRight_eq_div_pow, toI_toN]
  unfold byN
  have hx := x.toBitVec.isLt
  generalize x.toBitVec.toNat = N at hx
  rcases (show k = 0 ∨ k = 1 ∨ k = 2 ∨ k = 3 by omega) with rfl | rfl | rfl | rfl
  · show (if N < 2147483648 then (N : Int) else (N : Int) - 4294967296) / 1 % 256 = ((N / 1 % 256 : Nat) : Int) % 256
    split <;> omega
  · show (if N < 2147483648 then (N : Int) else (N : Int) - 4294967296) / 256 % 256 = ((N / 256 % 256 : Nat) : Int) % 256
    split <;> omega
  · show (if N < 2147483648 then (N : Int) else (N : Int) - 4294967296) / 65536 % 256 = ((N / 65536 % 256 : Nat) : Int) % 256
    split <;> omega
  · show (if N < 2147483648 then (N : Int) else (N : Int) - 4294967296) / 16777216 % 256 = ((N / 16777216 % 256 : Nat) : Int) % 256
    split <;> omega
theorem t_feedC : ∀ (l n : Nat) (h : Hp), l ≤ 4 → n + l ≤ 120 → h.1 8 0 = nI n → (∀ f : Nat → Nat → Int32, f 8 0 = nI (n + l) → (∀ i, i < n → f 48 i = h.1 48 i) → (∀ j, j < l → f 48 (n + j) = nI (byN x (l - 1 - j))) → (∀ c, c ≠ 8 → c ≠ 48 → f c = h.1 c) → Q (some (.int (nI (n + l)))) (f, h.2)) → Go X m_X6_feed 42 [.ref 0, .int x, .int y, .int (nI l + (-1))] [] h Q
  | 0, n, h, _, _, h0, q => by
    refine vg (br_t (by decide) ?_)
    show Q (some (.int (h.1 8 0))) h
    rw [h0]
    exact q h.1 h0 (fun i hi => rfl) (fun j hj => absurd hj (by omega)) (fun c _ _ => rfl)
  | l + 1, n, h, hl, hn, h0, q => by
    rw [pk_m1]
    refine vg (br_f (nI_pos (by omega)) ?_)
    show Go X m_X4_addByte 0 [.ref 8, .int ((x.toUInt32 >>> ((nI 8 * nI l).toUInt32 &&& Int32.toUInt32 31)).toInt32 &&& nI 255)] [] h _
    rw [byC (by omega)]
    refine vg ⟨n, h0, by omega, vc_ok (st := [42]) 100 ?_⟩
    show Go X m_X6_feed 42 [.ref 0, .int x, .int y, .int (nI l + (-1))] [] (up2 (up2 h.1 48 n (nI (byN x l))) 8 0 (h.1 8 0 + 1), h.2) Q
    rw [h0, nI_1]
    refine t_feedC l (n + 1) _ (by omega) (by omega) rfl (fun f f1 f2 f3 f4 => ?_)
    rw [show n + 1 + l = n + (l + 1) by omega] at f1 ⊢
    refine q f f1 (fun i hi => ?_) (fun j hj => ?_) (fun c c1 c2 => ?_)
    · rw [f2 i (by omega)]
      show up2 h.1 48 n (nI (byN x l)) 48 i = _
      rw [u_ne (by omega)]
    · by_cases e : j = 0
      · subst e
        rw [Nat.add_zero, f2 n (by omega)]
        show up2 h.1 48 n (nI (byN x l)) 48 n = _
        rw [u_at]
        rfl
      · obtain ⟨i, rfl⟩ : ∃ i, j = i + 1 := ⟨j - 1, by omega⟩
        rw [show n + (i + 1) = n + 1 + i by omega, f3 i (by omega), show l + 1 - 1 - (i + 1) = l - 1 - i by omega]
    · rw [f4 c c1 c2]
      show up2 _ _ _ _ c = _
      rw [up2_ne c1, up2_ne c2]
theorem t_feedM : ∀ (l n : Nat) (h : Hp), l ≤ 4 → n + l ≤ 120 → h.1 1 6 = nI n → (∀ f : Nat → Nat → Int32, f 1 6 = nI (n + l) → (∀ i, i < n → f 57 i = h.1 57 i) → (∀ j, j < l → f 57 (n + j) = (nI (byN x (l - 1 - j))).toInt8.toInt32) → (∀ c, c ≠ 1 → c ≠ 57 → f c = h.1 c) → (∀ s, s ≠ 6 → f 1 s = h.1 1 s) → Q (some (.int (nI (n + l)))) (f, h.2)) → Go X m_X7_feed 39 [.ref 1, .int x, .int y, .int (nI l + (-1))] [] h Q
  | 0, n, h, _, _, h0, q => by
    refine vg (br_t (by decide) ?_)
    show Q (some (.int (h.1 1 6))) h
    rw [h0]
    exact q h.1 h0 (fun i hi => rfl) (fun j hj => absurd hj (by omega)) (fun c _ _ => rfl) (fun s _ => rfl)
  | l + 1, n, h, hl, hn, h0, q => by
    rw [pk_m1]
    refine vc_ok (st := [39]) 100 (br_f (nI_pos (by omega)) ⟨n, h0, by omega, ?_⟩)
    show Go X m_X7_feed 39 [.ref 1, .int x, .int y, .int (nI l + (-1))] [] (up2 (up2 h.1 57 n (vp_nar .byte (x >>> ((nI 8 * nI l) &&& 31)).toInt8.toInt32)) 1 6 (h.1 1 6 + 1), h.2) Q
    rw [pk_vb, byM (by omega), h0, nI_1]
    refine t_feedM l (n + 1) _ (by omega) (by omega) rfl (fun f f1 f2 f3 f4 f5 => ?_)
    rw [show n + 1 + l = n + (l + 1) by omega] at f1 ⊢
    refine q f f1 (fun i hi => ?_) (fun j hj => ?_) (fun c c1 c2 => ?_) (fun s hs => ?_)
    · rw [f2 i (by omega)]
      show up2 h.1 57 n _ 57 i = _
      rw [u_ne (by omega)]
    · by_cases e : j = 0
      · subst e
        rw [Nat.add_zero, f2 n (by omega)]
        show up2 h.1 57 n _ 57 n = _
        rw [u_at]
        rfl
      · obtain ⟨i, rfl⟩ : ∃ i, j = i + 1 := ⟨j - 1, by omega⟩
        rw [show n + (i + 1) = n + 1 + i by omega, f3 i (by omega), show l + 1 - 1 - (i + 1) = l - 1 - i by omega]
    · rw [f4 c c1 c2]
      show up2 _ _ _ _ c = _
      rw [up2_ne c1, up2_ne c2]
    · rw [f5 s hs]
      show up2 (up2 h.1 57 n (nI (byN x l)).toInt8.toInt32) 1 6 (nI (n + 1)) 1 s = h.1 1 s
      rw [u_ne hs]
      rfl
theorem op_feed (I : Inv h) : Both X m_X6_feed m_X7_feed [.ref 0, .int x, .int y, .null] [.ref 1, .int x, .int y, .null] h := by
  obtain ⟨V, v, rn, rm, ik, ir, ⟨n, hn, t1, t2, t3⟩, is⟩ := id I
  unfold Both
  by_cases p1 : 1 ≤ y.toInt ∧ y.toInt ≤ 4
  case neg =>
    have mm : ∀ {h : Hp}, Inv (up2 (up2 h.1 14 0 (h.1 14 0 + 1)) 56 0 (up2 h.1 14 0 (h.1 14 0 + 1) 56 0 + 1), h.2) → BQ X m_X7_feed [.ref 1, .int x, .int y, .null] (some (.int (-1000000001 - nI 0))) (up2 h.1 14 0 (h.1 14 0 + 1), h.2) := fun k => vg (t_inI 1 4 rfl rfl (fun z => absurd z p1) (fun _ => vg (brn_f rfl (t_findsN 0 (by decide) rfl (vg ⟨rfl, k⟩)))))
    by_cases c1 : y < 1
    · exact vg (br_t c1 (t_refuse 0 (by decide) (by decide) (vg (mm (inv_ref I (by decide))))))
    · refine vg (br_f c1 (br_f (fun z => ?_) (t_refuse 0 (by decide) (by decide) (vg (mm (inv_ref I (by decide)))))))
      have c1 : ¬ y < nI 1 := c1
      have z : y ≤ nI 4 := z
      rw [i_lt, nT (by decide)] at c1
      rw [i_le, nT (by decide)] at z
      exact p1 (by omega)
  obtain ⟨l, hl, rfl⟩ := nI_ex (x := y) (n := 5) (by omega) (by omega) (by decide)
  rw [nT (by omega)] at p1
  have c1 : ¬ nI l < 1 := nI_nlt (a := l) (b := 1) (by omega) (by omega)
  have c2 : nI l ≤ nI 4 := nI_le (by omega) (by decide)
  have em : ∀ {h : Hp}, h.1 1 6 = nI n → h.1 1 6 + nI l = nI (n + l) := fun e => by rw [e, nI_add]
  by_cases p2 : n + l ≤ 120
  case neg =>
    refine vg (br_f c1 (br_t c2 (br_f ?_ (t_refuse 1 (by decide) (by decide) (vg (vg (t_inI 1 4 rfl rfl (fun _ => vg (brn_t (by decide) (br_f ?_ (t_findsN 1 (by decide) rfl (vg ⟨rfl, inv_ref I (by decide)⟩))))) (fun z => absurd (by rw [nT (by omega)]; omega) z))))))))
    · show ¬ h.1 8 0 + nI l ≤ nI 120
      rw [t1, nI_add]
      exact nI_ge (by omega) (by omega)
    · show ¬ h.1 1 6 + nI l ≤ nI 120
      rw [t2, nI_add]
      exact nI_ge (by omega) (by omega)
  have e3 : nI l - 1 = nI l + (-1) := by
    obtain ⟨m, rfl⟩ : ∃ m, l = m + 1 := ⟨l - 1, by omega⟩
    rw [nI_pred, pk_m1]
  refine vc_ok (st := [42]) 100 (br_f c1 (br_t c2 (br_t ?_ ?_)))
  · show h.1 8 0 + nI l ≤ nI 120
    rw [t1, nI_add]
    exact nI_le p2 (by decide)
  show Go X m_X6_feed 42 [.ref 0, .int x, .int (nI l), .int (nI l - 1)] [] h _
  rw [e3]
  refine t_feedC l n h (by omega) p2 t1 (fun f f1 f2 f3 f4 => ?_)
  refine vg (t_inI 1 4 rfl rfl (fun _ => vc_ok (st := [39]) 100 (brn_t (by decide) (br_t ?_ ?_))) (fun z => absurd (by rw [nT (by omega)]; omega) z))
  · show f 1 6 + nI l ≤ nI 120
    rw [f4 1 (by decide) (by decide), t2, nI_add]
    exact nI_le p2 (by decide)
  show Go X m_X7_feed 39 [.ref 1, .int x, .int (nI l), .int (nI l - 1)] [] (f, h.2) _
  rw [e3]
  refine t_feedM l n (f, h.2) (by omega) p2 (by show f 1 6 = _; rw [f4 1 (by decide) (by decide)]; exact t2) (fun g g1 g2 g3 g4 g5 => ⟨rfl, ?_⟩)
  have e : ∀ c, c ≠ 1 → c ≠ 57 → c ≠ 8 → c ≠ 48 → g c = h.1 c := fun c c1 c2 c3 c4 => (g4 c c1 c2).trans (f4 c c3 c4)
  refine ⟨V, v, rc_cg rn ?_ ?_ ?_ ?_ ?_ ?_ ?_ ?_, rm_cg rm ?_, ik_cg ik ?_ ?_ ?_, ir_cg ir ?_ ?_, ⟨n + l, p2, ?_, g1, fun i hi => ?_⟩, is_cg is ?_ (fun q hq => rfl)⟩
  case refine_11 =>
    show g 1 3 = _
    rw [g5 3 (by decide)]
    show f 1 3 = _
    rw [f4 1 (by decide) (by decide)]
  case refine_15 =>
    show g 8 0 = _
    rw [g4 8 (by decide) (by decide)]
    exact f1
  case refine_16 =>
    show ∃ b, b < 256 ∧ g 48 i = nI b ∧ g 57 i = _
    rw [g4 48 (by decide) (by decide)]
    show ∃ b, b < 256 ∧ f 48 i = nI b ∧ g 57 i = _
    by_cases c : i < n
    · rw [f2 i c, g2 i c]
      obtain ⟨b, b1, b2, b3⟩ := t3 i c
      refine ⟨b, b1, b2, ?_⟩
      show f 57 i = _
      rw [f4 57 (by decide) (by decide)]
      exact b3
    · obtain ⟨j, rfl⟩ : ∃ j, i = n + j := ⟨i - n, by omega⟩
      exact ⟨byN x (l - 1 - j), Nat.mod_lt _ (by decide), f3 j (by omega), g3 j (by omega)⟩
  case refine_10 => show g 0 9 = _; rw [e 0 (by decide) (by decide) (by decide) (by decide)]
  all_goals first
    | exact e _ (by decide) (by decide) (by decide) (by decide)
    | exact fun q hq => e q (by omega) (by omega) (by omega) (by omega)
end FEED
