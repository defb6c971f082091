section OPS8
variable {X : Xs} {h : Hp} {x y z : Int32} {Q : Qt}
def sumN (f : Nat → Nat) : Nat → Nat
  | 0 => 0
  | k + 1 => sumN f k + f k
theorem t_eatenPlaces {V : Vw} (v : okV V) (rn : RN V h) (q : Q (some (.int (nI (sumN (fun c => pop (V 2 c)) (V 0 0))))) h) : Go X m_X1_eatenPlaces 0 [.ref 2, .null, .null] [] h Q := by
  have hc0 := v.1.1
  refine vc_ok (st := [4]) 40 ?_
  refine down (fun k => Go X m_X1_eatenPlaces 4 [.ref 2, .int (nI (sumN (fun c => pop (V 2 c)) k)), .int (nI k)] [] h Q) (V 0 0) ?_ ?_ 0 (by omega)
  · exact vg (br_t (by show h.1 2 0 ≤ _; rw [rn.1.1]; exact Int32.le_refl _) q)
  · intro k hk ih
    refine vg (br_f (by show ¬ h.1 2 0 ≤ _; rw [rn.1.1]; exact nI_ge hk (by omega)) ⟨k, rfl, by omega, ?_⟩)
    show Go X m_J6_bitCount_0f7a4 0 [.int (h.1 16 k)] [] h _
    rw [(rn.2.1 k hk).2]
    have := (v.2.1 k hk).2.1
    refine t_bitCount (by omega) (vc_ok (st := [4]) 40 ?_)
    show Go X m_X1_eatenPlaces 4 [.ref 2, .int (nI (sumN (fun c => pop (V 2 c)) k) + nI (pop (V 2 k))), .int (nI k + 1)] [] h Q
    rw [nI_add, nI_1]
    exact ih
theorem t_lawsInForce {V : Vw} (v : okV V) (rn : RN V h) (q : Q (some (.int (nI (sumN (V 7) (V 0 2))))) h) : Go X m_X1_lawsInForce 0 [.ref 2, .null, .null] [] h Q := by
  have hc0 := v.1.2.2
  refine vc_ok (st := [4]) 40 ?_
  refine down (fun k => Go X m_X1_lawsInForce 4 [.ref 2, .int (nI (sumN (V 7) k)), .int (nI k)] [] h Q) (V 0 2) ?_ ?_ 0 (by omega)
  · exact vg (br_t (by show h.1 2 6 ≤ _; rw [rn.1.2.2]; exact Int32.le_refl _) q)
  · intro k hk ih
    refine vc_ok (st := [4]) 40 (br_f (by show ¬ h.1 2 6 ≤ _; rw [rn.1.2.2]; exact nI_ge hk (by omega)) ⟨k, rfl, by omega, ?_⟩)
    show Go X m_X1_lawsInForce 4 [.ref 2, .int (nI (sumN (V 7) k) + h.1 21 k), .int (nI k + 1)] [] h Q
    rw [(rn.2.2.2.2 k hk).2.2, nI_add, nI_1]
    exact ih
theorem t_sumOf1 {V : Vw} (v : okV V) (rm : RM V h 53) (q : Q (some (.int (nI (sumN (fun c => pop (V 2 c)) (V 0 0))))) h) : Go X m_X7_sumOf 0 [.ref 1, .int (nI 14), .int (nI (V 0 0)), .int (nI 1), .null, .null] [] h Q := by
  have hc0 := v.1.1
  refine vc_ok (st := [6]) 40 ?_
  refine down (fun k => Go X m_X7_sumOf 6 [.ref 1, .int (nI 14), .int (nI (V 0 0)), .int (nI 1), .int (nI (sumN (fun c => pop (V 2 c)) k)), .int (nI k)] [] h Q) (V 0 0) ?_ ?_ 0 (by omega)
  · exact vg (br_t (Int32.le_refl _) q)
  · intro k hk ih
    refine vg (br_f (nI_ge hk (by omega)) (br_f (by decide) ⟨14 + k, nI_add 14 k, by omega, ?_⟩))
    show Go X m_X7_ones 0 [.int (h.1 53 (14 + k)), .null, .null] [] h _
    rw [(rm.2.1 k hk).2]
    have := (v.2.1 k hk).2.1
    refine t_onesN (by omega) (vc_ok (st := [6]) 40 ?_)
    show Go X m_X7_sumOf 6 [.ref 1, .int (nI 14), .int (nI (V 0 0)), .int (nI 1), .int (nI (sumN (fun c => pop (V 2 c)) k) + nI (pop (V 2 k))), .int (nI k + 1)] [] h Q
    rw [nI_add, nI_1]
    exact ih
theorem t_sumOf0 {V : Vw} (v : okV V) (rm : RM V h 53) (q : Q (some (.int (nI (sumN (V 7) (V 0 2))))) h) : Go X m_X7_sumOf 0 [.ref 1, .int (nI 72), .int (nI (V 0 2)), .int (nI 0), .null, .null] [] h Q := by
  have hc0 := v.1.2.2
  refine vc_ok (st := [6]) 40 ?_
  refine down (fun k => Go X m_X7_sumOf 6 [.ref 1, .int (nI 72), .int (nI (V 0 2)), .int (nI 0), .int (nI (sumN (V 7) k)), .int (nI k)] [] h Q) (V 0 2) ?_ ?_ 0 (by omega)
  · exact vg (br_t (Int32.le_refl _) q)
  · intro k hk ih
    refine vc_ok (st := [6]) 40 (br_f (nI_ge hk (by omega)) (br_t rfl ⟨72 + k, nI_add 72 k, by omega, ?_⟩))
    show Go X m_X7_sumOf 6 [.ref 1, .int (nI 72), .int (nI (V 0 2)), .int (nI 0), .int (nI (sumN (V 7) k) + h.1 53 (72 + k)), .int (nI k + 1)] [] h Q
    rw [(rm.2.2.2.2 k hk).2.2, nI_add, nI_1]
    exact ih
/-- a switch: where its number is -/
theorem sw_ne {x : Int32} {k : Int} (p : ¬ x.toInt = k) {A : Prop} : x.toInt = k → A := fun z => absurd z p
theorem op_count (I : Inv h) : Both X m_X6_count m_X7_count [.ref 0, .int x] [.ref 1, .int x] h := by
  obtain ⟨V, v, rn, rm, ik, ir, it, is⟩ := id I
  unfold Both
  obtain ⟨n, hn, t1, t2, -⟩ := it
  refine vc_ok (st := [40, 48, 56, 64, 72, 80, 88]) 40 ⟨⟨fun c => ?_, fun c => ?_, fun c => ?_, fun c => ?_, fun c => ?_, fun c => ?_, trivial⟩, fun c => ?_⟩
  · refine vg (vc_ok (st := [40, 47, 54, 61, 75, 80, 94]) 40 ⟨⟨fun _ => ?_, sw_ne (by omega), sw_ne (by omega), sw_ne (by omega), sw_ne (by omega), sw_ne (by omega), trivial⟩, fun z => absurd z (by omega)⟩)
    refine vg ⟨0, rfl, by decide, ?_, I⟩
    show some (Value.int (h.1 53 0)) = some (Value.int (h.1 2 0))
    rw [rn.1.1, rm.1.1]
  · refine vg (vc_ok (st := [40, 47, 54, 61, 75, 80, 94]) 40 ⟨⟨sw_ne (by omega), fun _ => ?_, sw_ne (by omega), sw_ne (by omega), sw_ne (by omega), sw_ne (by omega), trivial⟩, fun z => absurd z (by omega)⟩)
    refine vg ⟨2, rfl, by decide, ?_, I⟩
    show some (Value.int (h.1 53 2)) = some (Value.int (h.1 2 6))
    rw [rn.1.2.2, rm.1.2.2]
  · refine vg (vc_ok (st := [40, 47, 54, 61, 75, 80, 94]) 40 ⟨⟨sw_ne (by omega), sw_ne (by omega), fun _ => ?_, sw_ne (by omega), sw_ne (by omega), sw_ne (by omega), trivial⟩, fun z => absurd z (by omega)⟩)
    refine vg ⟨1, rfl, by decide, ?_, I⟩
    show some (Value.int (h.1 53 1)) = some (Value.int (h.1 2 4))
    rw [rn.1.2.1, rm.1.2.1]
  · refine vg (t_eatenPlaces v rn (vg (vc_ok (st := [40, 47, 54, 61, 75, 80, 94]) 40 ⟨⟨sw_ne (by omega), sw_ne (by omega), sw_ne (by omega), fun _ => ?_, sw_ne (by omega), sw_ne (by omega), trivial⟩, fun z => absurd z (by omega)⟩)))
    refine vg ⟨0, rfl, by decide, ?_⟩
    show Go X m_X7_sumOf 0 [.ref 1, .int (nI 14), .int (h.1 53 0), .int (nI 1), .null, .null] [] h _
    rw [rm.1.1]
    exact t_sumOf1 v rm (vg ⟨rfl, I⟩)
  · refine vg (vc_ok (st := [40, 47, 54, 61, 75, 80, 94]) 40 ⟨⟨sw_ne (by omega), sw_ne (by omega), sw_ne (by omega), sw_ne (by omega), fun _ => ?_, sw_ne (by omega), trivial⟩, fun z => absurd z (by omega)⟩)
    refine vg ⟨?_, I⟩
    show some (Value.int (h.1 1 6)) = some (Value.int (h.1 8 0))
    rw [t1, t2]
  · refine vg (t_lawsInForce v rn (vg (vc_ok (st := [40, 47, 54, 61, 75, 80, 94]) 40 ⟨⟨sw_ne (by omega), sw_ne (by omega), sw_ne (by omega), sw_ne (by omega), sw_ne (by omega), fun _ => ?_, trivial⟩, fun z => absurd z (by omega)⟩)))
    refine vg ⟨2, rfl, by decide, ?_⟩
    show Go X m_X7_sumOf 0 [.ref 1, .int (nI 72), .int (h.1 53 2), .int (nI 0), .null, .null] [] h _
    rw [rm.1.2.2]
    exact t_sumOf0 v rm (vg ⟨rfl, I⟩)
  · refine vg (t_refuse 0 (by decide) (by decide) (vg (vc_ok (st := [40, 47, 54, 61, 75, 80, 94]) 40 ⟨⟨sw_ne (by omega), sw_ne (by omega), sw_ne (by omega), sw_ne (by omega), sw_ne (by omega), sw_ne (by omega), trivial⟩, fun _ => ?_⟩)))
    exact vg (t_findsN 0 (by decide) rfl (vg ⟨rfl, inv_ref I (by decide)⟩))
end OPS8
