/-! the law's loop -/
section LAW
variable {X : Xs} {h : Hp} {Q : Qt}
theorem Go.int {mid pc : Nat} {L S : List Value} {f : ME} (hf : mts[mid]? = some f) (hr : eR f = some .int) (g : Go X mid pc L S h Q) : Go X mid pc L S h (fun v h' => (∃ x, v = some (.int x)) ∧ Q v h') := by
  intro e he ρ D dA A p l env R s m args below meth c cells slots fin hC hE hR
  refine g e he ρ D dA A p l env R s m args below meth c cells slots fin hC hE (fun v h' H locs ls pc' a1 a2 a3 a4 => hR v h' H locs ls pc' a1 a2 a3 ⟨?_, a4⟩)
  have ef : e = f := Option.some.inj (he.symm.trans hf)
  subst ef
  unfold RetI at a1
  split at a1
  · rw [hr] at a1; exact absurd a1.1 (by simp)
  · exact ⟨_, rfl⟩
  · rw [hr] at a1; exact absurd a1.1 (by simp)
  · obtain ⟨⟨k, z⟩, -⟩ := a1
    rw [hr] at z
    exact absurd z (by simp)
  · exact a1.elim
theorem op_writeL {x y : Int32} (I : Inv h) {v : Int64} : Go X m_X6_write 0 [.ref 0, .int x, .int y, .long v, .null, .null, .null, .null] [] h (fun r h1 => (∃ z, r = some (.long z)) ∧ BQ X m_X7_write [.ref 1, .int x, .int y, .long v, .null, .null, .null, .null] r h1) := by
  obtain ⟨V, vv, rn, rm, ik, ir, it, is⟩ := id I
  by_cases p1 : 0 ≤ x.toInt ∧ x.toInt < 4
  case neg =>
    refine vg (t_nf_bad p1 (vg (br_f (by decide) (t_refuse 0 (by decide) (by decide) ?_))))
    refine vg ⟨⟨_, rfl⟩, vg (t_wnn_bad p1 (vg (br_f (by decide) (t_findsN 0 (by decide) rfl ?_))))⟩
    exact vg ⟨rfl, inv_ref I (by decide)⟩
  obtain ⟨s, hs, rfl⟩ := nI_ex (n := 4) p1.1 (by omega) (by decide)
  obtain ⟨b, n, q1, q2, q3, q4, q5, q6, q7, q8⟩ := is s hs
  by_cases p2 : b = 0
  · subst p2
    refine vg (t_nf_mis hs q4 (vg (br_f (by decide) (t_refuse 5 (by decide) (by decide) ?_))))
    refine vg ⟨⟨_, rfl⟩, vg (t_wnn_mis hs q5 (vg (br_f (by decide) (t_findsN 5 (by decide) rfl ?_))))⟩
    exact vg ⟨rfl, inv_ref I (by decide)⟩
  obtain ⟨hb, hb2⟩ := b_cases q1 p2
  by_cases p3 : 0 ≤ y.toInt ∧ y.toInt < n
  case neg =>
    refine vg (t_nf_out hs q4 p2 hb2 q6 q2 p3 (vg (br_f (by decide) (t_refuse 0 (by decide) (by decide) ?_))))
    refine vg ⟨⟨_, rfl⟩, vg (t_wnn_in hs q5 p2 hb2 q7 q2 (fun z => absurd z p3) (fun _ => vg (br_f (by decide) (t_findsN 0 (by decide) rfl ?_))))⟩
    exact vg ⟨rfl, inv_ref I (by decide)⟩
  obtain ⟨i, hi, rfl⟩ := nI_ex (n := n) p3.1 (by omega) (by omega)
  refine vg (t_nf_ok hs q4 p2 hb2 q6 q2 hi ?_)
  have key : BQ X m_X7_write [.ref 1, .int (nI s), .int (nI i), .long v, .null, .null, .null, .null] (some (.long (h.2 (49 + s) i))) (h.1, up2 h.2 (49 + s) i (putV b v)) := by
    have ei : nI 40 * nI s + nI i = nI (40 * s + i) := by rw [pk_mul, nI_add]
    refine vg (t_wnn_in (h := (h.1, up2 h.2 (49 + s) i (putV b v))) hs q5 p2 hb2 q7 q2 (fun _ => vg (br_t (by decide) ⟨40 * s + i, ei, by omega, ?_⟩)) (fun z => absurd p3 z))
    refine t_puts (h := (h.1, up2 h.2 (49 + s) i (putV b v))) hs q5 hb (by omega) (vg ⟨?_, inv_num I hs (by omega) _⟩)
    show some (Value.long (up2 h.2 (49 + s) i (putV b v) 64 (40 * s + i))) = _
    rw [up2_ne (by omega), q8 i hi]
  have kk : Go X m_X3_put 0 [.ref (9 + s), .int (nI i), .long v, .null, .null] [] h (fun r h' => Go X m_X6_write 45 [.ref 0, .int (nI s), .int (nI i), .long v, .null, .int 0, .long (h.2 (49 + s) i), .null] (pushO r []) h' (fun r h1 => (∃ z, r = some (.long z)) ∧ BQ X m_X7_write [.ref 1, .int (nI s), .int (nI i), .long v, .null, .null, .null, .null] r h1)) :=
    t_putS hs q4 hb (by omega) (vg ⟨⟨_, rfl⟩, key⟩)
  clear key q8 q4 q5 q6 q7
  rcases s4 hs with rfl | rfl | rfl | rfl
  · exact vg (br_t rfl ⟨0, rfl, by decide, i, rfl, by omega, 0, rfl, by decide, kk⟩)
  · exact vg (br_t rfl ⟨1, rfl, by decide, i, rfl, by omega, 1, rfl, by decide, kk⟩)
  · exact vg (br_t rfl ⟨2, rfl, by decide, i, rfl, by omega, 2, rfl, by decide, kk⟩)
  · exact vg (br_t rfl ⟨3, rfl, by decide, i, rfl, by omega, 3, rfl, by decide, kk⟩)
theorem lw_card {i : Nat} (hi : i + 6 ≤ X.1) (I : Inv h) (nx : ∀ h2 : Hp, Inv h2 → Go X m_L_law 18 [.ref 1000, .ref 0, .ref 1, .int (nI i + 6)] [] h2 Q) : Go X m_L_law 232 [.ref 1000, .ref 0, .ref 1, .int (nI i)] [] h Q := by
  refine vg ⟨i + 1, nI_1 i, by omega, i + 2, nI_add i 2, by omega, Go.mono (fun r h1 z => ?_) (Go.int (f := e_X6_card) rfl rfl (op_card I))⟩
  obtain ⟨⟨a, rfl⟩, g⟩ := z
  refine vg ⟨i + 1, nI_1 i, by omega, i + 2, nI_add i 2, by omega, Go.mono (fun r' h2 z2 => ?_) g⟩
  obtain ⟨rfl, I2⟩ := z2
  exact vc_ok (st := [18]) 40 (br_t rfl (nx h2 I2))
theorem lw_of {i : Nat} (hi : i + 6 ≤ X.1) (I : Inv h) (nx : ∀ h2 : Hp, Inv h2 → Go X m_L_law 18 [.ref 1000, .ref 0, .ref 1, .int (nI i + 6)] [] h2 Q) : Go X m_L_law 265 [.ref 1000, .ref 0, .ref 1, .int (nI i)] [] h Q := by
  refine vg ⟨i + 1, nI_1 i, by omega, i + 2, nI_add i 2, by omega, Go.mono (fun r h1 z => ?_) (Go.int (f := e_X6_of) rfl rfl (op_of I))⟩
  obtain ⟨⟨a, rfl⟩, g⟩ := z
  refine vg ⟨i + 1, nI_1 i, by omega, i + 2, nI_add i 2, by omega, Go.mono (fun r' h2 z2 => ?_) g⟩
  obtain ⟨rfl, I2⟩ := z2
  exact vc_ok (st := [18]) 40 (br_t rfl (nx h2 I2))
theorem lw_punch {i : Nat} (hi : i + 6 ≤ X.1) (I : Inv h) (nx : ∀ h2 : Hp, Inv h2 → Go X m_L_law 18 [.ref 1000, .ref 0, .ref 1, .int (nI i + 6)] [] h2 Q) : Go X m_L_law 298 [.ref 1000, .ref 0, .ref 1, .int (nI i)] [] h Q := by
  refine vg ⟨i + 1, nI_1 i, by omega, i + 2, nI_add i 2, by omega, i + 3, nI_add i 3, by omega, Go.mono (fun r h1 z => ?_) (Go.int (f := e_X6_punch) rfl rfl (op_punch I))⟩
  obtain ⟨⟨a, rfl⟩, g⟩ := z
  refine vg ⟨i + 1, nI_1 i, by omega, i + 2, nI_add i 2, by omega, i + 3, nI_add i 3, by omega, Go.mono (fun r' h2 z2 => ?_) g⟩
  obtain ⟨rfl, I2⟩ := z2
  exact vc_ok (st := [18]) 40 (br_t rfl (nx h2 I2))
theorem lw_at {i : Nat} (hi : i + 6 ≤ X.1) (I : Inv h) (nx : ∀ h2 : Hp, Inv h2 → Go X m_L_law 18 [.ref 1000, .ref 0, .ref 1, .int (nI i + 6)] [] h2 Q) : Go X m_L_law 341 [.ref 1000, .ref 0, .ref 1, .int (nI i)] [] h Q := by
  refine vg ⟨i + 1, nI_1 i, by omega, i + 2, nI_add i 2, by omega, Go.mono (fun r h1 z => ?_) (Go.int (f := e_X6_at) rfl rfl (op_at I))⟩
  obtain ⟨⟨a, rfl⟩, g⟩ := z
  refine vg ⟨i + 1, nI_1 i, by omega, i + 2, nI_add i 2, by omega, Go.mono (fun r' h2 z2 => ?_) g⟩
  obtain ⟨rfl, I2⟩ := z2
  exact vc_ok (st := [18]) 40 (br_t rfl (nx h2 I2))
theorem lw_twin {i : Nat} (hi : i + 6 ≤ X.1) (I : Inv h) (nx : ∀ h2 : Hp, Inv h2 → Go X m_L_law 18 [.ref 1000, .ref 0, .ref 1, .int (nI i + 6)] [] h2 Q) : Go X m_L_law 374 [.ref 1000, .ref 0, .ref 1, .int (nI i)] [] h Q := by
  refine vg ⟨i + 1, nI_1 i, by omega, Go.mono (fun r h1 z => ?_) (Go.int (f := e_X6_twin) rfl rfl (op_twin I))⟩
  obtain ⟨⟨a, rfl⟩, g⟩ := z
  refine vg ⟨i + 1, nI_1 i, by omega, Go.mono (fun r' h2 z2 => ?_) g⟩
  obtain ⟨rfl, I2⟩ := z2
  exact vc_ok (st := [18]) 40 (br_t rfl (nx h2 I2))
theorem lw_tie {i : Nat} (hi : i + 6 ≤ X.1) (I : Inv h) (nx : ∀ h2 : Hp, Inv h2 → Go X m_L_law 18 [.ref 1000, .ref 0, .ref 1, .int (nI i + 6)] [] h2 Q) : Go X m_L_law 397 [.ref 1000, .ref 0, .ref 1, .int (nI i)] [] h Q := by
  refine vg ⟨i + 1, nI_1 i, by omega, i + 2, nI_add i 2, by omega, Go.mono (fun r h1 z => ?_) (Go.int (f := e_X6_tie) rfl rfl (op_tie I))⟩
  obtain ⟨⟨a, rfl⟩, g⟩ := z
  refine vg ⟨i + 1, nI_1 i, by omega, i + 2, nI_add i 2, by omega, Go.mono (fun r' h2 z2 => ?_) g⟩
  obtain ⟨rfl, I2⟩ := z2
  exact vc_ok (st := [18]) 40 (br_t rfl (nx h2 I2))
theorem lw_tied {i : Nat} (hi : i + 6 ≤ X.1) (I : Inv h) (nx : ∀ h2 : Hp, Inv h2 → Go X m_L_law 18 [.ref 1000, .ref 0, .ref 1, .int (nI i + 6)] [] h2 Q) : Go X m_L_law 430 [.ref 1000, .ref 0, .ref 1, .int (nI i)] [] h Q := by
  refine vg ⟨i + 1, nI_1 i, by omega, Go.mono (fun r h1 z => ?_) (Go.int (f := e_X6_tied) rfl rfl (op_tied I))⟩
  obtain ⟨⟨a, rfl⟩, g⟩ := z
  refine vg ⟨i + 1, nI_1 i, by omega, Go.mono (fun r' h2 z2 => ?_) g⟩
  obtain ⟨rfl, I2⟩ := z2
  exact vc_ok (st := [18]) 40 (br_t rfl (nx h2 I2))
theorem lw_pick {i : Nat} (hi : i + 6 ≤ X.1) (I : Inv h) (nx : ∀ h2 : Hp, Inv h2 → Go X m_L_law 18 [.ref 1000, .ref 0, .ref 1, .int (nI i + 6)] [] h2 Q) : Go X m_L_law 453 [.ref 1000, .ref 0, .ref 1, .int (nI i)] [] h Q := by
  refine vg ⟨i + 1, nI_1 i, by omega, Go.mono (fun r h1 z => ?_) (Go.int (f := e_X6_pick) rfl rfl (op_pick I))⟩
  obtain ⟨⟨a, rfl⟩, g⟩ := z
  refine vg ⟨i + 1, nI_1 i, by omega, Go.mono (fun r' h2 z2 => ?_) g⟩
  obtain ⟨rfl, I2⟩ := z2
  exact vc_ok (st := [18]) 40 (br_t rfl (nx h2 I2))
theorem lw_drop {i : Nat} (hi : i + 6 ≤ X.1) (I : Inv h) (nx : ∀ h2 : Hp, Inv h2 → Go X m_L_law 18 [.ref 1000, .ref 0, .ref 1, .int (nI i + 6)] [] h2 Q) : Go X m_L_law 476 [.ref 1000, .ref 0, .ref 1, .int (nI i)] [] h Q := by
  refine vg (Go.mono (fun r h1 z => ?_) (Go.int (f := e_X6_drop) rfl rfl (op_drop I)))
  obtain ⟨⟨a, rfl⟩, g⟩ := z
  refine vg (Go.mono (fun r' h2 z2 => ?_) g)
  obtain ⟨rfl, I2⟩ := z2
  exact vc_ok (st := [18]) 40 (br_t rfl (nx h2 I2))
theorem lw_woven {i : Nat} (hi : i + 6 ≤ X.1) (I : Inv h) (nx : ∀ h2 : Hp, Inv h2 → Go X m_L_law 18 [.ref 1000, .ref 0, .ref 1, .int (nI i + 6)] [] h2 Q) : Go X m_L_law 489 [.ref 1000, .ref 0, .ref 1, .int (nI i)] [] h Q := by
  refine vg ⟨i + 1, nI_1 i, by omega, Go.mono (fun r h1 z => ?_) (Go.int (f := e_X6_woven) rfl rfl (op_woven I))⟩
  obtain ⟨⟨a, rfl⟩, g⟩ := z
  refine vg ⟨i + 1, nI_1 i, by omega, Go.mono (fun r' h2 z2 => ?_) g⟩
  obtain ⟨rfl, I2⟩ := z2
  exact vc_ok (st := [18]) 40 (br_t rfl (nx h2 I2))
theorem lw_row {i : Nat} (hi : i + 6 ≤ X.1) (I : Inv h) (nx : ∀ h2 : Hp, Inv h2 → Go X m_L_law 18 [.ref 1000, .ref 0, .ref 1, .int (nI i + 6)] [] h2 Q) : Go X m_L_law 512 [.ref 1000, .ref 0, .ref 1, .int (nI i)] [] h Q := by
  refine vg ⟨i + 1, nI_1 i, by omega, Go.mono (fun r h1 z => ?_) (Go.int (f := e_X6_row) rfl rfl (op_row I))⟩
  obtain ⟨⟨a, rfl⟩, g⟩ := z
  refine vg ⟨i + 1, nI_1 i, by omega, Go.mono (fun r' h2 z2 => ?_) g⟩
  obtain ⟨rfl, I2⟩ := z2
  exact vc_ok (st := [18]) 40 (br_t rfl (nx h2 I2))
theorem lw_law {i : Nat} (hi : i + 6 ≤ X.1) (I : Inv h) (nx : ∀ h2 : Hp, Inv h2 → Go X m_L_law 18 [.ref 1000, .ref 0, .ref 1, .int (nI i + 6)] [] h2 Q) : Go X m_L_law 535 [.ref 1000, .ref 0, .ref 1, .int (nI i)] [] h Q := by
  refine vg ⟨i + 1, nI_1 i, by omega, i + 2, nI_add i 2, by omega, Go.mono (fun r h1 z => ?_) (Go.int (f := e_X6_law) rfl rfl (op_law I))⟩
  obtain ⟨⟨a, rfl⟩, g⟩ := z
  refine vg ⟨i + 1, nI_1 i, by omega, i + 2, nI_add i 2, by omega, Go.mono (fun r' h2 z2 => ?_) g⟩
  obtain ⟨rfl, I2⟩ := z2
  exact vc_ok (st := [18]) 40 (br_t rfl (nx h2 I2))
theorem lw_lawOf {i : Nat} (hi : i + 6 ≤ X.1) (I : Inv h) (nx : ∀ h2 : Hp, Inv h2 → Go X m_L_law 18 [.ref 1000, .ref 0, .ref 1, .int (nI i + 6)] [] h2 Q) : Go X m_L_law 568 [.ref 1000, .ref 0, .ref 1, .int (nI i)] [] h Q := by
  refine vg ⟨i + 1, nI_1 i, by omega, i + 2, nI_add i 2, by omega, Go.mono (fun r h1 z => ?_) (Go.int (f := e_X6_lawOf) rfl rfl (op_lawOf I))⟩
  obtain ⟨⟨a, rfl⟩, g⟩ := z
  refine vg ⟨i + 1, nI_1 i, by omega, i + 2, nI_add i 2, by omega, Go.mono (fun r' h2 z2 => ?_) g⟩
  obtain ⟨rfl, I2⟩ := z2
  exact vc_ok (st := [18]) 40 (br_t rfl (nx h2 I2))
theorem lw_set {i : Nat} (hi : i + 6 ≤ X.1) (I : Inv h) (nx : ∀ h2 : Hp, Inv h2 → Go X m_L_law 18 [.ref 1000, .ref 0, .ref 1, .int (nI i + 6)] [] h2 Q) : Go X m_L_law 601 [.ref 1000, .ref 0, .ref 1, .int (nI i)] [] h Q := by
  refine vg ⟨i + 1, nI_1 i, by omega, i + 2, nI_add i 2, by omega, Go.mono (fun r h1 z => ?_) (Go.int (f := e_X6_set) rfl rfl (op_set I))⟩
  obtain ⟨⟨a, rfl⟩, g⟩ := z
  refine vg ⟨i + 1, nI_1 i, by omega, i + 2, nI_add i 2, by omega, Go.mono (fun r' h2 z2 => ?_) g⟩
  obtain ⟨rfl, I2⟩ := z2
  exact vc_ok (st := [18]) 40 (br_t rfl (nx h2 I2))
theorem lw_force {i : Nat} (hi : i + 6 ≤ X.1) (I : Inv h) (nx : ∀ h2 : Hp, Inv h2 → Go X m_L_law 18 [.ref 1000, .ref 0, .ref 1, .int (nI i + 6)] [] h2 Q) : Go X m_L_law 634 [.ref 1000, .ref 0, .ref 1, .int (nI i)] [] h Q := by
  by_cases c : X.2 (i + 2) = 0
  · refine vg ⟨i + 1, nI_1 i, by omega, i + 2, nI_add i 2, by omega, br_t c (Go.mono (fun r h1 z => ?_) (Go.int (f := e_X6_force) rfl rfl (op_force I)))⟩
    obtain ⟨⟨a, rfl⟩, g⟩ := z
    refine vg ⟨i + 1, nI_1 i, by omega, i + 2, nI_add i 2, by omega, br_t c (Go.mono (fun r' h2 z2 => ?_) g)⟩
    obtain ⟨rfl, I2⟩ := z2
    exact vc_ok (st := [18]) 40 (br_t rfl (nx h2 I2))
  · refine vg ⟨i + 1, nI_1 i, by omega, i + 2, nI_add i 2, by omega, br_f c (Go.mono (fun r h1 z => ?_) (Go.int (f := e_X6_force) rfl rfl (op_force I)))⟩
    obtain ⟨⟨a, rfl⟩, g⟩ := z
    refine vg ⟨i + 1, nI_1 i, by omega, i + 2, nI_add i 2, by omega, br_f c (Go.mono (fun r' h2 z2 => ?_) g)⟩
    obtain ⟨rfl, I2⟩ := z2
    exact vc_ok (st := [18]) 40 (br_t rfl (nx h2 I2))
theorem lw_as {i : Nat} (hi : i + 6 ≤ X.1) (I : Inv h) (nx : ∀ h2 : Hp, Inv h2 → Go X m_L_law 18 [.ref 1000, .ref 0, .ref 1, .int (nI i + 6)] [] h2 Q) : Go X m_L_law 683 [.ref 1000, .ref 0, .ref 1, .int (nI i)] [] h Q := by
  refine vg ⟨i + 1, nI_1 i, by omega, i + 2, nI_add i 2, by omega, Go.mono (fun r h1 z => ?_) (Go.int (f := e_X6_as) rfl rfl (op_as I))⟩
  obtain ⟨⟨a, rfl⟩, g⟩ := z
  refine vg ⟨i + 1, nI_1 i, by omega, i + 2, nI_add i 2, by omega, Go.mono (fun r' h2 z2 => ?_) g⟩
  obtain ⟨rfl, I2⟩ := z2
  exact vc_ok (st := [18]) 40 (br_t rfl (nx h2 I2))
theorem lw_broken {i : Nat} (hi : i + 6 ≤ X.1) (I : Inv h) (nx : ∀ h2 : Hp, Inv h2 → Go X m_L_law 18 [.ref 1000, .ref 0, .ref 1, .int (nI i + 6)] [] h2 Q) : Go X m_L_law 716 [.ref 1000, .ref 0, .ref 1, .int (nI i)] [] h Q := by
  refine vg (Go.mono (fun r h1 z => ?_) (Go.int (f := e_X6_broken) rfl rfl (op_broken I)))
  obtain ⟨⟨a, rfl⟩, g⟩ := z
  refine vg (Go.mono (fun r' h2 z2 => ?_) g)
  obtain ⟨rfl, I2⟩ := z2
  exact vc_ok (st := [18]) 40 (br_t rfl (nx h2 I2))
theorem lw_floats {i : Nat} (hi : i + 6 ≤ X.1) (I : Inv h) (nx : ∀ h2 : Hp, Inv h2 → Go X m_L_law 18 [.ref 1000, .ref 0, .ref 1, .int (nI i + 6)] [] h2 Q) : Go X m_L_law 729 [.ref 1000, .ref 0, .ref 1, .int (nI i)] [] h Q := by
  refine vg ⟨i + 1, nI_1 i, by omega, Go.mono (fun r h1 z => ?_) (Go.int (f := e_X6_floats) rfl rfl (op_floats I))⟩
  obtain ⟨⟨a, rfl⟩, g⟩ := z
  refine vg ⟨i + 1, nI_1 i, by omega, Go.mono (fun r' h2 z2 => ?_) g⟩
  obtain ⟨rfl, I2⟩ := z2
  exact vc_ok (st := [18]) 40 (br_t rfl (nx h2 I2))
theorem lw_ways {i : Nat} (hi : i + 6 ≤ X.1) (I : Inv h) (nx : ∀ h2 : Hp, Inv h2 → Go X m_L_law 18 [.ref 1000, .ref 0, .ref 1, .int (nI i + 6)] [] h2 Q) : Go X m_L_law 752 [.ref 1000, .ref 0, .ref 1, .int (nI i)] [] h Q := by
  refine vg (Go.mono (fun r h1 z => ?_) (Go.int (f := e_X6_ways) rfl rfl (op_ways I)))
  obtain ⟨⟨a, rfl⟩, g⟩ := z
  refine vg (Go.mono (fun r' h2 z2 => ?_) g)
  obtain ⟨rfl, I2⟩ := z2
  exact vc_ok (st := [18]) 40 (br_t rfl (nx h2 I2))
theorem lw_sure {i : Nat} (hi : i + 6 ≤ X.1) (I : Inv h) (nx : ∀ h2 : Hp, Inv h2 → Go X m_L_law 18 [.ref 1000, .ref 0, .ref 1, .int (nI i + 6)] [] h2 Q) : Go X m_L_law 765 [.ref 1000, .ref 0, .ref 1, .int (nI i)] [] h Q := by
  refine vg ⟨i + 1, nI_1 i, by omega, i + 2, nI_add i 2, by omega, Go.mono (fun r h1 z => ?_) (Go.int (f := e_X6_sure) rfl rfl (op_sure I))⟩
  obtain ⟨⟨a, rfl⟩, g⟩ := z
  refine vg ⟨i + 1, nI_1 i, by omega, i + 2, nI_add i 2, by omega, Go.mono (fun r' h2 z2 => ?_) g⟩
  obtain ⟨rfl, I2⟩ := z2
  exact vc_ok (st := [18]) 40 (br_t rfl (nx h2 I2))
theorem lw_fill {i : Nat} (hi : i + 6 ≤ X.1) (I : Inv h) (nx : ∀ h2 : Hp, Inv h2 → Go X m_L_law 18 [.ref 1000, .ref 0, .ref 1, .int (nI i + 6)] [] h2 Q) : Go X m_L_law 798 [.ref 1000, .ref 0, .ref 1, .int (nI i)] [] h Q := by
  refine vg ⟨i + 1, nI_1 i, by omega, Go.mono (fun r h1 z => ?_) (Go.int (f := e_X6_fill) rfl rfl (op_fill I))⟩
  obtain ⟨⟨a, rfl⟩, g⟩ := z
  refine vg ⟨i + 1, nI_1 i, by omega, Go.mono (fun r' h2 z2 => ?_) g⟩
  obtain ⟨rfl, I2⟩ := z2
  exact vc_ok (st := [18]) 40 (br_t rfl (nx h2 I2))
theorem lw_ask {i : Nat} (hi : i + 6 ≤ X.1) (I : Inv h) (nx : ∀ h2 : Hp, Inv h2 → Go X m_L_law 18 [.ref 1000, .ref 0, .ref 1, .int (nI i + 6)] [] h2 Q) : Go X m_L_law 821 [.ref 1000, .ref 0, .ref 1, .int (nI i)] [] h Q := by
  refine vg (Go.mono (fun r h1 z => ?_) (Go.int (f := e_X6_ask) rfl rfl (op_ask I)))
  obtain ⟨⟨a, rfl⟩, g⟩ := z
  refine vg (Go.mono (fun r' h2 z2 => ?_) g)
  obtain ⟨rfl, I2⟩ := z2
  exact vc_ok (st := [18]) 40 (br_t rfl (nx h2 I2))
theorem lw_orders {i : Nat} (hi : i + 6 ≤ X.1) (I : Inv h) (nx : ∀ h2 : Hp, Inv h2 → Go X m_L_law 18 [.ref 1000, .ref 0, .ref 1, .int (nI i + 6)] [] h2 Q) : Go X m_L_law 834 [.ref 1000, .ref 0, .ref 1, .int (nI i)] [] h Q := by
  refine vg ⟨i + 1, nI_1 i, by omega, Go.mono (fun r h1 z => ?_) (Go.int (f := e_X6_orders) rfl rfl (op_orders I))⟩
  obtain ⟨⟨a, rfl⟩, g⟩ := z
  refine vg ⟨i + 1, nI_1 i, by omega, Go.mono (fun r' h2 z2 => ?_) g⟩
  obtain ⟨rfl, I2⟩ := z2
  exact vc_ok (st := [18]) 40 (br_t rfl (nx h2 I2))
theorem lw_lay {i : Nat} (hi : i + 6 ≤ X.1) (I : Inv h) (nx : ∀ h2 : Hp, Inv h2 → Go X m_L_law 18 [.ref 1000, .ref 0, .ref 1, .int (nI i + 6)] [] h2 Q) : Go X m_L_law 857 [.ref 1000, .ref 0, .ref 1, .int (nI i)] [] h Q := by
  refine vg ⟨i + 1, nI_1 i, by omega, i + 2, nI_add i 2, by omega, Go.mono (fun r h1 z => ?_) (Go.int (f := e_X6_lay) rfl rfl (op_lay I))⟩
  obtain ⟨⟨a, rfl⟩, g⟩ := z
  refine vg ⟨i + 1, nI_1 i, by omega, i + 2, nI_add i 2, by omega, Go.mono (fun r' h2 z2 => ?_) g⟩
  obtain ⟨rfl, I2⟩ := z2
  exact vc_ok (st := [18]) 40 (br_t rfl (nx h2 I2))
theorem lw_repeat {i : Nat} (hi : i + 6 ≤ X.1) (I : Inv h) (nx : ∀ h2 : Hp, Inv h2 → Go X m_L_law 18 [.ref 1000, .ref 0, .ref 1, .int (nI i + 6)] [] h2 Q) : Go X m_L_law 890 [.ref 1000, .ref 0, .ref 1, .int (nI i)] [] h Q := by
  refine vg (Go.mono (fun r h1 z => ?_) (Go.int (f := e_X6_repeat) rfl rfl (op_repeat I)))
  obtain ⟨⟨a, rfl⟩, g⟩ := z
  refine vg (Go.mono (fun r' h2 z2 => ?_) g)
  obtain ⟨rfl, I2⟩ := z2
  exact vc_ok (st := [18]) 40 (br_t rfl (nx h2 I2))
theorem lw_unlike {i : Nat} (hi : i + 6 ≤ X.1) (I : Inv h) (nx : ∀ h2 : Hp, Inv h2 → Go X m_L_law 18 [.ref 1000, .ref 0, .ref 1, .int (nI i + 6)] [] h2 Q) : Go X m_L_law 903 [.ref 1000, .ref 0, .ref 1, .int (nI i)] [] h Q := by
  refine vg (Go.mono (fun r h1 z => ?_) (Go.int (f := e_X6_unlike) rfl rfl (op_unlike I)))
  obtain ⟨⟨a, rfl⟩, g⟩ := z
  refine vg (Go.mono (fun r' h2 z2 => ?_) g)
  obtain ⟨rfl, I2⟩ := z2
  exact vc_ok (st := [18]) 40 (br_t rfl (nx h2 I2))
theorem lw_tells {i : Nat} (hi : i + 6 ≤ X.1) (I : Inv h) (nx : ∀ h2 : Hp, Inv h2 → Go X m_L_law 18 [.ref 1000, .ref 0, .ref 1, .int (nI i + 6)] [] h2 Q) : Go X m_L_law 916 [.ref 1000, .ref 0, .ref 1, .int (nI i)] [] h Q := by
  refine vg (Go.mono (fun r h1 z => ?_) (Go.int (f := e_X6_tells) rfl rfl (op_tells I)))
  obtain ⟨⟨a, rfl⟩, g⟩ := z
  refine vg (Go.mono (fun r' h2 z2 => ?_) g)
  obtain ⟨rfl, I2⟩ := z2
  exact vc_ok (st := [18]) 40 (br_t rfl (nx h2 I2))
theorem lw_thread {i : Nat} (hi : i + 6 ≤ X.1) (I : Inv h) (nx : ∀ h2 : Hp, Inv h2 → Go X m_L_law 18 [.ref 1000, .ref 0, .ref 1, .int (nI i + 6)] [] h2 Q) : Go X m_L_law 929 [.ref 1000, .ref 0, .ref 1, .int (nI i)] [] h Q := by
  refine vg ⟨i + 1, nI_1 i, by omega, i + 2, nI_add i 2, by omega, Go.mono (fun r h1 z => ?_) (Go.int (f := e_X6_thread) rfl rfl (op_thread I))⟩
  obtain ⟨⟨a, rfl⟩, g⟩ := z
  refine vg ⟨i + 1, nI_1 i, by omega, i + 2, nI_add i 2, by omega, Go.mono (fun r' h2 z2 => ?_) g⟩
  obtain ⟨rfl, I2⟩ := z2
  exact vc_ok (st := [18]) 40 (br_t rfl (nx h2 I2))
theorem lw_feed {i : Nat} (hi : i + 6 ≤ X.1) (I : Inv h) (nx : ∀ h2 : Hp, Inv h2 → Go X m_L_law 18 [.ref 1000, .ref 0, .ref 1, .int (nI i + 6)] [] h2 Q) : Go X m_L_law 962 [.ref 1000, .ref 0, .ref 1, .int (nI i)] [] h Q := by
  refine vg ⟨i + 1, nI_1 i, by omega, i + 2, nI_add i 2, by omega, Go.mono (fun r h1 z => ?_) (Go.int (f := e_X6_feed) rfl rfl (op_feed I))⟩
  obtain ⟨⟨a, rfl⟩, g⟩ := z
  refine vg ⟨i + 1, nI_1 i, by omega, i + 2, nI_add i 2, by omega, Go.mono (fun r' h2 z2 => ?_) g⟩
  obtain ⟨rfl, I2⟩ := z2
  exact vc_ok (st := [18]) 40 (br_t rfl (nx h2 I2))
theorem lw_wipe {i : Nat} (hi : i + 6 ≤ X.1) (I : Inv h) (nx : ∀ h2 : Hp, Inv h2 → Go X m_L_law 18 [.ref 1000, .ref 0, .ref 1, .int (nI i + 6)] [] h2 Q) : Go X m_L_law 995 [.ref 1000, .ref 0, .ref 1, .int (nI i)] [] h Q := by
  refine vg (Go.mono (fun r h1 z => ?_) (Go.int (f := e_X6_wipe) rfl rfl (op_wipe I)))
  obtain ⟨⟨a, rfl⟩, g⟩ := z
  refine vg (Go.mono (fun r' h2 z2 => ?_) g)
  obtain ⟨rfl, I2⟩ := z2
  exact vc_ok (st := [18]) 40 (br_t rfl (nx h2 I2))
theorem lw_loom {i : Nat} (hi : i + 6 ≤ X.1) (I : Inv h) (nx : ∀ h2 : Hp, Inv h2 → Go X m_L_law 18 [.ref 1000, .ref 0, .ref 1, .int (nI i + 6)] [] h2 Q) : Go X m_L_law 1008 [.ref 1000, .ref 0, .ref 1, .int (nI i)] [] h Q := by
  refine vg (Go.mono (fun r h1 z => ?_) (Go.int (f := e_X6_loom) rfl rfl (op_loom I)))
  obtain ⟨⟨a, rfl⟩, g⟩ := z
  refine vg (Go.mono (fun r' h2 z2 => ?_) g)
  obtain ⟨rfl, I2⟩ := z2
  exact vc_ok (st := [18]) 40 (br_t rfl (nx h2 I2))
theorem lw_sheet {i : Nat} (hi : i + 6 ≤ X.1) (I : Inv h) (nx : ∀ h2 : Hp, Inv h2 → Go X m_L_law 18 [.ref 1000, .ref 0, .ref 1, .int (nI i + 6)] [] h2 Q) : Go X m_L_law 1021 [.ref 1000, .ref 0, .ref 1, .int (nI i)] [] h Q := by
  refine vg ⟨i + 1, nI_1 i, by omega, i + 2, nI_add i 2, by omega, i + 3, nI_add i 3, by omega, Go.mono (fun r h1 z => ?_) (Go.int (f := e_X6_sheet) rfl rfl (op_sheet I))⟩
  obtain ⟨⟨a, rfl⟩, g⟩ := z
  refine vg ⟨i + 1, nI_1 i, by omega, i + 2, nI_add i 2, by omega, i + 3, nI_add i 3, by omega, Go.mono (fun r' h2 z2 => ?_) g⟩
  obtain ⟨rfl, I2⟩ := z2
  exact vc_ok (st := [18]) 40 (br_t rfl (nx h2 I2))
theorem lw_write {i : Nat} (hi : i + 6 ≤ X.1) (I : Inv h) (nx : ∀ h2 : Hp, Inv h2 → Go X m_L_law 18 [.ref 1000, .ref 0, .ref 1, .int (nI i + 6)] [] h2 Q) : Go X m_L_law 1064 [.ref 1000, .ref 0, .ref 1, .int (nI i)] [] h Q := by
  refine vg ⟨i + 1, nI_1 i, by omega, i + 2, nI_add i 2, by omega, i + 3, nI_add i 3, by omega, i + 4, nI_add i 4, by omega, Go.mono (fun r h1 z => ?_) (op_writeL I)⟩
  obtain ⟨⟨a, rfl⟩, g⟩ := z
  refine vg ⟨i + 1, nI_1 i, by omega, i + 2, nI_add i 2, by omega, i + 3, nI_add i 3, by omega, i + 4, nI_add i 4, by omega, Go.mono (fun r' h2 z2 => ?_) g⟩
  obtain ⟨rfl, I2⟩ := z2
  exact vc_ok (st := [18]) 40 (br_t (cmp_0.mpr rfl) (nx h2 I2))
theorem lw_copy {i : Nat} (hi : i + 6 ≤ X.1) (I : Inv h) (nx : ∀ h2 : Hp, Inv h2 → Go X m_L_law 18 [.ref 1000, .ref 0, .ref 1, .int (nI i + 6)] [] h2 Q) : Go X m_L_law 1138 [.ref 1000, .ref 0, .ref 1, .int (nI i)] [] h Q := by
  refine vg ⟨i + 1, nI_1 i, by omega, i + 2, nI_add i 2, by omega, i + 3, nI_add i 3, by omega, i + 4, nI_add i 4, by omega, i + 5, nI_add i 5, by omega, Go.mono (fun r h1 z => ?_) (Go.int (f := e_X6_copy) rfl rfl (op_copy I))⟩
  obtain ⟨⟨a, rfl⟩, g⟩ := z
  refine vg ⟨i + 1, nI_1 i, by omega, i + 2, nI_add i 2, by omega, i + 3, nI_add i 3, by omega, i + 4, nI_add i 4, by omega, i + 5, nI_add i 5, by omega, Go.mono (fun r' h2 z2 => ?_) g⟩
  obtain ⟨rfl, I2⟩ := z2
  exact vc_ok (st := [18]) 40 (br_t rfl (nx h2 I2))
theorem lw_draw {i : Nat} (hi : i + 6 ≤ X.1) (I : Inv h) (nx : ∀ h2 : Hp, Inv h2 → Go X m_L_law 18 [.ref 1000, .ref 0, .ref 1, .int (nI i + 6)] [] h2 Q) : Go X m_L_law 1201 [.ref 1000, .ref 0, .ref 1, .int (nI i)] [] h Q := by
  refine vg ⟨i + 1, nI_1 i, by omega, Go.mono (fun r h1 z => ?_) (Go.int (f := e_X6_draw) rfl rfl (op_draw I))⟩
  obtain ⟨⟨a, rfl⟩, g⟩ := z
  refine vg ⟨i + 1, nI_1 i, by omega, Go.mono (fun r' h2 z2 => ?_) g⟩
  obtain ⟨rfl, I2⟩ := z2
  exact vc_ok (st := [18]) 40 (br_t rfl (nx h2 I2))
theorem lw_read {i : Nat} (hi : i + 6 ≤ X.1) (I : Inv h) (nx : ∀ h2 : Hp, Inv h2 → Go X m_L_law 18 [.ref 1000, .ref 0, .ref 1, .int (nI i + 6)] [] h2 Q) : Go X m_L_law 1224 [.ref 1000, .ref 0, .ref 1, .int (nI i)] [] h Q := by
  refine vg ⟨i + 1, nI_1 i, by omega, Go.mono (fun r h1 z => ?_) (Go.int (f := e_X6_read) rfl rfl (op_read I))⟩
  obtain ⟨⟨a, rfl⟩, g⟩ := z
  refine vg ⟨i + 1, nI_1 i, by omega, Go.mono (fun r' h2 z2 => ?_) g⟩
  obtain ⟨rfl, I2⟩ := z2
  exact vc_ok (st := [18]) 40 (br_t rfl (nx h2 I2))
theorem lw_whose {i : Nat} (hi : i + 6 ≤ X.1) (I : Inv h) (nx : ∀ h2 : Hp, Inv h2 → Go X m_L_law 18 [.ref 1000, .ref 0, .ref 1, .int (nI i + 6)] [] h2 Q) : Go X m_L_law 1247 [.ref 1000, .ref 0, .ref 1, .int (nI i)] [] h Q := by
  refine vg ⟨i + 1, nI_1 i, by omega, i + 2, nI_add i 2, by omega, Go.mono (fun r h1 z => ?_) (Go.int (f := e_X6_whose) rfl rfl (op_whose I))⟩
  obtain ⟨⟨a, rfl⟩, g⟩ := z
  refine vg ⟨i + 1, nI_1 i, by omega, i + 2, nI_add i 2, by omega, Go.mono (fun r' h2 z2 => ?_) g⟩
  obtain ⟨rfl, I2⟩ := z2
  exact vc_ok (st := [18]) 40 (br_t rfl (nx h2 I2))
theorem lw_nearest {i : Nat} (hi : i + 6 ≤ X.1) (I : Inv h) (nx : ∀ h2 : Hp, Inv h2 → Go X m_L_law 18 [.ref 1000, .ref 0, .ref 1, .int (nI i + 6)] [] h2 Q) : Go X m_L_law 1280 [.ref 1000, .ref 0, .ref 1, .int (nI i)] [] h Q := by
  refine vg ⟨i + 1, nI_1 i, by omega, i + 2, nI_add i 2, by omega, Go.mono (fun r h1 z => ?_) (Go.int (f := e_X6_nearest) rfl rfl (op_nearest I))⟩
  obtain ⟨⟨a, rfl⟩, g⟩ := z
  refine vg ⟨i + 1, nI_1 i, by omega, i + 2, nI_add i 2, by omega, Go.mono (fun r' h2 z2 => ?_) g⟩
  obtain ⟨rfl, I2⟩ := z2
  exact vc_ok (st := [18]) 40 (br_t rfl (nx h2 I2))
theorem lw_crossings {i : Nat} (hi : i + 6 ≤ X.1) (I : Inv h) (nx : ∀ h2 : Hp, Inv h2 → Go X m_L_law 18 [.ref 1000, .ref 0, .ref 1, .int (nI i + 6)] [] h2 Q) : Go X m_L_law 1313 [.ref 1000, .ref 0, .ref 1, .int (nI i)] [] h Q := by
  refine vg ⟨i + 1, nI_1 i, by omega, Go.mono (fun r h1 z => ?_) (Go.int (f := e_X6_crossings) rfl rfl (op_crossings I))⟩
  obtain ⟨⟨a, rfl⟩, g⟩ := z
  refine vg ⟨i + 1, nI_1 i, by omega, Go.mono (fun r' h2 z2 => ?_) g⟩
  obtain ⟨rfl, I2⟩ := z2
  exact vc_ok (st := [18]) 40 (br_t rfl (nx h2 I2))
theorem lw_mark {i : Nat} (hi : i + 6 ≤ X.1) (I : Inv h) (nx : ∀ h2 : Hp, Inv h2 → Go X m_L_law 18 [.ref 1000, .ref 0, .ref 1, .int (nI i + 6)] [] h2 Q) : Go X m_L_law 1336 [.ref 1000, .ref 0, .ref 1, .int (nI i)] [] h Q := by
  refine vg ⟨i + 1, nI_1 i, by omega, Go.mono (fun r h1 z => ?_) (Go.int (f := e_X6_mark) rfl rfl (op_mark I))⟩
  obtain ⟨⟨a, rfl⟩, g⟩ := z
  refine vg ⟨i + 1, nI_1 i, by omega, Go.mono (fun r' h2 z2 => ?_) g⟩
  obtain ⟨rfl, I2⟩ := z2
  exact vc_ok (st := [18]) 40 (br_t rfl (nx h2 I2))
theorem lw_order {i : Nat} (hi : i + 6 ≤ X.1) (I : Inv h) (nx : ∀ h2 : Hp, Inv h2 → Go X m_L_law 18 [.ref 1000, .ref 0, .ref 1, .int (nI i + 6)] [] h2 Q) : Go X m_L_law 1359 [.ref 1000, .ref 0, .ref 1, .int (nI i)] [] h Q := by
  refine vg ⟨i + 1, nI_1 i, by omega, Go.mono (fun r h1 z => ?_) (Go.int (f := e_X6_order) rfl rfl (op_order I))⟩
  obtain ⟨⟨a, rfl⟩, g⟩ := z
  refine vg ⟨i + 1, nI_1 i, by omega, Go.mono (fun r' h2 z2 => ?_) g⟩
  obtain ⟨rfl, I2⟩ := z2
  exact vc_ok (st := [18]) 40 (br_t rfl (nx h2 I2))
theorem lw_image {i : Nat} (hi : i + 6 ≤ X.1) (I : Inv h) (nx : ∀ h2 : Hp, Inv h2 → Go X m_L_law 18 [.ref 1000, .ref 0, .ref 1, .int (nI i + 6)] [] h2 Q) : Go X m_L_law 1382 [.ref 1000, .ref 0, .ref 1, .int (nI i)] [] h Q := by
  refine vg (Go.mono (fun r h1 z => ?_) (Go.int (f := e_X6_image) rfl rfl (op_image I)))
  obtain ⟨⟨a, rfl⟩, g⟩ := z
  refine vg (Go.mono (fun r' h2 z2 => ?_) g)
  obtain ⟨rfl, I2⟩ := z2
  exact vc_ok (st := [18]) 40 (br_t rfl (nx h2 I2))
theorem lw_undo {i : Nat} (hi : i + 6 ≤ X.1) (I : Inv h) (nx : ∀ h2 : Hp, Inv h2 → Go X m_L_law 18 [.ref 1000, .ref 0, .ref 1, .int (nI i + 6)] [] h2 Q) : Go X m_L_law 1395 [.ref 1000, .ref 0, .ref 1, .int (nI i)] [] h Q := by
  refine vg (Go.mono (fun r h1 z => ?_) (Go.int (f := e_X6_undo) rfl rfl (op_undo I)))
  obtain ⟨⟨a, rfl⟩, g⟩ := z
  refine vg (Go.mono (fun r' h2 z2 => ?_) g)
  obtain ⟨rfl, I2⟩ := z2
  exact vc_ok (st := [18]) 40 (br_t rfl (nx h2 I2))
theorem lw_tear {i : Nat} (hi : i + 6 ≤ X.1) (I : Inv h) (nx : ∀ h2 : Hp, Inv h2 → Go X m_L_law 18 [.ref 1000, .ref 0, .ref 1, .int (nI i + 6)] [] h2 Q) : Go X m_L_law 1408 [.ref 1000, .ref 0, .ref 1, .int (nI i)] [] h Q := by
  refine vg (Go.mono (fun r h1 z => ?_) (Go.int (f := e_X6_tear) rfl rfl (op_tear I)))
  obtain ⟨⟨a, rfl⟩, g⟩ := z
  refine vg (Go.mono (fun r' h2 z2 => ?_) g)
  obtain ⟨rfl, I2⟩ := z2
  exact vc_ok (st := [18]) 40 (br_t rfl (nx h2 I2))
theorem lw_count {i : Nat} (hi : i + 6 ≤ X.1) (I : Inv h) (nx : ∀ h2 : Hp, Inv h2 → Go X m_L_law 18 [.ref 1000, .ref 0, .ref 1, .int (nI i + 6)] [] h2 Q) : Go X m_L_law 1421 [.ref 1000, .ref 0, .ref 1, .int (nI i)] [] h Q := by
  refine vg ⟨i + 1, nI_1 i, by omega, Go.mono (fun r h1 z => ?_) (Go.int (f := e_X6_count) rfl rfl (op_count I))⟩
  obtain ⟨⟨a, rfl⟩, g⟩ := z
  refine vg ⟨i + 1, nI_1 i, by omega, Go.mono (fun r' h2 z2 => ?_) g⟩
  obtain ⟨rfl, I2⟩ := z2
  exact vc_ok (st := [18]) 40 (br_t rfl (nx h2 I2))
theorem lw_status {i : Nat} (hi : i + 6 ≤ X.1) (I : Inv h) (nx : ∀ h2 : Hp, Inv h2 → Go X m_L_law 18 [.ref 1000, .ref 0, .ref 1, .int (nI i + 6)] [] h2 Q) : Go X m_L_law 1444 [.ref 1000, .ref 0, .ref 1, .int (nI i)] [] h Q := by
  refine vg ⟨i + 1, nI_1 i, by omega, Go.mono (fun r h1 z => ?_) (Go.int (f := e_X6_status) rfl rfl (op_status I))⟩
  obtain ⟨⟨a, rfl⟩, g⟩ := z
  refine vg ⟨i + 1, nI_1 i, by omega, Go.mono (fun r' h2 z2 => ?_) g⟩
  obtain ⟨rfl, I2⟩ := z2
  exact vc_ok (st := [18]) 40 (br_t rfl (nx h2 I2))
theorem law_loop (hX : X.1 ≤ 3072) (q : ∀ h : Hp, Q (some (.int 1)) h) : ∀ (m i : Nat) (h : Hp), X.1 - i ≤ m → i ≤ X.1 → Inv h → Go X m_L_law 18 [.ref 1000, .ref 0, .ref 1, .int (nI i)] [] h Q := by
  have cmp : ∀ i, i ≤ X.1 → (nI X.1 - nI 6 < nI i ↔ ¬ i + 6 ≤ X.1) := fun i hi => by
    rw [i_lt, pk_sub_toInt (by omega) (by decide), nT (by omega)]
    omega
  have ex : ∀ (i : Nat) (h : Hp), i ≤ X.1 → ¬ i + 6 ≤ X.1 → Go X m_L_law 18 [.ref 1000, .ref 0, .ref 1, .int (nI i)] [] h Q := fun i h hi c => vg (br_t ((cmp i hi).mpr c) ⟨Or.inr rfl, q h⟩)
  intro m
  induction m with
  | zero => exact fun i h hm hi I => ex i h hi (by omega)
  | succ m ih =>
    intro i h hm hi0 I
    by_cases hi : i + 6 ≤ X.1
    case neg => exact ex i h hi0 hi
    have nx : ∀ h2 : Hp, Inv h2 → Go X m_L_law 18 [.ref 1000, .ref 0, .ref 1, .int (nI i + 6)] [] h2 Q := fun h2 I2 => by
      have := ih (i + 6) h2 (by omega) hi I2
      rw [← nI_add i 6] at this
      exact this
    exact vc_ok (st := [18, 232, 265, 298, 341, 374, 397, 430, 453, 476, 489, 512, 535, 568, 601, 634, 683, 716, 729, 752, 765, 798, 821, 834, 857, 890, 903, 916, 929, 962, 995, 1008, 1021, 1064, 1138, 1201, 1224, 1247, 1280, 1313, 1336, 1359, 1382, 1395, 1408, 1421, 1444, 1467]) 40 (br_f (fun z => (cmp i hi0).mp z hi) ⟨i, rfl, by omega, ⟨fun _ => lw_card hi I nx, fun _ => lw_of hi I nx, fun _ => lw_punch hi I nx, fun _ => lw_at hi I nx, fun _ => lw_twin hi I nx, fun _ => lw_tie hi I nx, fun _ => lw_tied hi I nx, fun _ => lw_pick hi I nx, fun _ => lw_drop hi I nx, fun _ => lw_woven hi I nx, fun _ => lw_row hi I nx, fun _ => lw_law hi I nx, fun _ => lw_lawOf hi I nx, fun _ => lw_set hi I nx, fun _ => lw_force hi I nx, fun _ => lw_as hi I nx, fun _ => lw_broken hi I nx, fun _ => lw_floats hi I nx, fun _ => lw_ways hi I nx, fun _ => lw_sure hi I nx, fun _ => lw_fill hi I nx, fun _ => lw_ask hi I nx, fun _ => lw_orders hi I nx, fun _ => lw_lay hi I nx, fun _ => lw_repeat hi I nx, fun _ => lw_unlike hi I nx, fun _ => lw_tells hi I nx, fun _ => lw_thread hi I nx, fun _ => lw_feed hi I nx, fun _ => lw_wipe hi I nx, fun _ => lw_loom hi I nx, fun _ => lw_sheet hi I nx, fun _ => lw_write hi I nx, fun _ => lw_copy hi I nx, fun _ => lw_draw hi I nx, fun _ => lw_read hi I nx, fun _ => lw_whose hi I nx, fun _ => lw_nearest hi I nx, fun _ => lw_crossings hi I nx, fun _ => lw_mark hi I nx, fun _ => lw_order hi I nx, fun _ => lw_image hi I nx, fun _ => lw_undo hi I nx, fun _ => lw_tear hi I nx, fun _ => lw_count hi I nx, fun _ => lw_status hi I nx, trivial⟩, fun _ => vc_ok (st := [18]) 40 (nx h I)⟩)
end LAW
