section OPS6
variable {X : Xs} {h : Hp} {x y z : Int32}
/-- a card's holes and eaten places, new on both sides -/
theorem inv_card (I : Inv h) {V : Vw} (v : okV V) (rn : RN V h) (rm : RM V h 53) {c a e : Nat} (hc : c < 10) (h1 : a < 256) (h2 : e < 256) (h3 : a &&& e = 0) : Inv (up2 (up2 (up2 (up2 h.1 15 c (nI a)) 16 c (nI e)) 53 (4 + c) (nI a)) 53 (14 + c) (nI e), h.2) := by
  have kn : ∀ q, q ≠ 4 + c → q ≠ 14 + c → up2 (up2 (up2 (up2 h.1 15 c (nI a)) 16 c (nI e)) 53 (4 + c) (nI a)) 53 (14 + c) (nI e) 53 q = h.1 53 q := fun q z1 z2 => by rw [u_ne z2, u_ne z1]; rfl
  refine in7 (V := up2 (up2 V 1 c a) 2 c e) I (fun q _ g1 g2 g3 => ?_) rfl rfl rfl rfl (okV_card v h1 h2 h3) ?_ ?_
  · rw [up2_ne g2, up2_ne g2, up2_ne (by omega), up2_ne (by omega)]
  · refine ⟨rn.1, fun q hq => ?_, rn.2.2⟩
    show up2 h.1 15 c (nI a) 15 q = nI (up2 V 1 c a 1 q) ∧ up2 (up2 h.1 15 c (nI a)) 16 c (nI e) 16 q = nI (up2 (up2 V 1 c a) 2 c e 2 q)
    by_cases z : q = c
    · subst z; rw [u_at, u_at, u_at, u_at]; exact ⟨rfl, rfl⟩
    · rw [u_ne z, u_ne z, u_ne z, u_ne z]; exact rn.2.1 q hq
  · refine ⟨⟨(kn 0 (by omega) (by omega)).trans rm.1.1, (kn 1 (by omega) (by omega)).trans rm.1.2.1, (kn 2 (by omega) (by omega)).trans rm.1.2.2⟩, fun q hq => ?_, fun t ht => ?_, fun i hi => ?_, fun l hl => ?_⟩
    · have hq : q < V 0 0 := hq
      have hc0 := v.1.1
      by_cases z : q = c
      · subst z
        refine ⟨?_, ?_⟩
        · show up2 (up2 (up2 (up2 h.1 15 q (nI a)) 16 q (nI e)) 53 (4 + q) (nI a)) 53 (14 + q) (nI e) 53 (4 + q) = nI (up2 V 1 q a 1 q)
          rw [u_ne (by omega), u_at, u_at]
        · show up2 (up2 (up2 (up2 h.1 15 q (nI a)) 16 q (nI e)) 53 (4 + q) (nI a)) 53 (14 + q) (nI e) 53 (14 + q) = nI (up2 (up2 V 1 q a) 2 q e 2 q)
          rw [u_at, u_at]
      · refine ⟨(kn _ (by omega) (by omega)).trans ?_, (kn _ (by omega) (by omega)).trans ?_⟩
        · show _ = nI (up2 V 1 c a 1 q)
          rw [u_ne z]; exact (rm.2.1 q hq).1
        · show _ = nI (up2 (up2 V 1 c a) 2 c e 2 q)
          rw [u_ne z]; exact (rm.2.1 q hq).2
    · exact (kn _ (by omega) (by omega)).trans (rm.2.2.1 t ht)
    · have hi : i < V 0 1 := hi
      have hi0 := v.1.2.1
      exact (kn _ (by omega) (by omega)).trans (rm.2.2.2.1 i hi)
    · have hl : l < V 0 2 := hl
      have hl0 := v.1.2.2
      exact ⟨(kn _ (by omega) (by omega)).trans (rm.2.2.2.2 l hl).1, (kn _ (by omega) (by omega)).trans (rm.2.2.2.2 l hl).2.1, (kn _ (by omega) (by omega)).trans (rm.2.2.2.2 l hl).2.2⟩
theorem op_punch (I : Inv h) : Both X m_X6_punch m_X7_punch [.ref 0, .int x, .int y, .int z, .null] [.ref 1, .int x, .int y, .int z, .null] h := by
  obtain ⟨V, v, rn, rm, ik, ir, it, is⟩ := id I
  unfold Both
  have hc0 := v.1.1
  by_cases p1 : 0 ≤ x.toInt ∧ x.toInt < V 0 0
  case neg =>
    refine vg (t_hasCard hc0 rn.1.1 (fun z => absurd z p1) (fun _ => vg (br_t rfl (t_refuse 0 (by decide) (by decide) ?_))))
    refine vg (vg (t_isCard hc0 rm.1.1 (fun z => absurd z p1) (fun _ => vg (br_t rfl (t_findsN 0 (by decide) rfl ?_)))))
    exact vg ⟨rfl, inv_ref I (by decide)⟩
  by_cases p2 : 0 ≤ y.toInt ∧ y.toInt < 8
  case neg =>
    refine vg (t_hasCard hc0 rn.1.1 (fun _ => vg (br_f (by decide) (t_isHook (fun z => absurd z p2) (fun _ => vg (br_t rfl (t_refuse 0 (by decide) (by decide) ?_)))))) (fun z => absurd p1 z))
    refine vg (vg (t_isCard hc0 rm.1.1 (fun _ => vg (br_f (by decide) (t_inI 0 7 rfl rfl (fun z => absurd (by omega) p2) (fun _ => vg (br_t rfl (t_findsN 0 (by decide) rfl ?_)))))) (fun z => absurd p1 z)))
    exact vg ⟨rfl, inv_ref I (by decide)⟩
  by_cases p3 : z < 0
  · have p3' : ¬ (0 ≤ z.toInt ∧ z.toInt ≤ 2) := by rw [i_lt, i0] at p3; omega
    refine vg (t_hasCard hc0 rn.1.1 (fun _ => vg (br_f (by decide) (t_isHook (fun _ => vg (br_f (by decide) (br_t p3 (t_refuse 0 (by decide) (by decide) ?_)))) (fun z => absurd p2 z)))) (fun z => absurd p1 z))
    refine vg (vg (t_isCard hc0 rm.1.1 (fun _ => vg (br_f (by decide) (t_inI 0 7 rfl rfl (fun _ => vg (br_f (by decide) (t_inI 0 2 rfl rfl (fun z => absurd z p3') (fun _ => vg (brn_f rfl (t_findsN 0 (by decide) rfl ?_)))))) (fun z => absurd (by omega) z)))) (fun z => absurd p1 z)))
    exact vg ⟨rfl, inv_ref I (by decide)⟩
  by_cases p4 : z ≤ nI 2
  case neg =>
    have p3' : ¬ (0 ≤ z.toInt ∧ z.toInt ≤ 2) := by rw [i_le, nT (by decide)] at p4; omega
    refine vg (t_hasCard hc0 rn.1.1 (fun _ => vg (br_f (by decide) (t_isHook (fun _ => vg (br_f (by decide) (br_f p3 (br_f p4 (t_refuse 0 (by decide) (by decide) ?_))))) (fun z => absurd p2 z)))) (fun z => absurd p1 z))
    refine vg (vg (t_isCard hc0 rm.1.1 (fun _ => vg (br_f (by decide) (t_inI 0 7 rfl rfl (fun _ => vg (br_f (by decide) (t_inI 0 2 rfl rfl (fun z => absurd z p3') (fun _ => vg (brn_f rfl (t_findsN 0 (by decide) rfl ?_)))))) (fun z => absurd (by omega) z)))) (fun z => absurd p1 z)))
    exact vg ⟨rfl, inv_ref I (by decide)⟩
  have p5 : 0 ≤ z.toInt ∧ z.toInt ≤ 2 := by
    rw [i_lt, i0] at p3
    rw [i_le, nT (by decide)] at p4
    omega
  obtain ⟨c, hc, rfl⟩ := nI_ex (n := V 0 0) p1.1 (by omega) (by omega)
  obtain ⟨k, hk, rfl⟩ := nI_ex (n := 8) p2.1 (by omega) (by decide)
  obtain ⟨w, hw, rfl⟩ := nI_ex (n := 3) p5.1 (by omega) (by decide)
  obtain ⟨a1, a2, a3⟩ := v.2.1 c hc
  obtain ⟨b1, b2⟩ := rn.2.1 c hc
  obtain ⟨d1, d2⟩ := rm.2.1 c hc
  obtain ⟨o1, o2, o3⟩ := w_ok a1 a2 hk hw a3
  refine vg (t_hasCard hc0 rn.1.1 (fun _ => vg (br_f (by decide) (t_isHook (fun _ => vg (br_f (by decide) (br_f p3 (br_t p4 (t_valueAt (by omega) hk a1 a2 b1 b2 (vg (t_put (by omega) hk a1 a2 hw b1 b2 ?_))))))) (fun z => absurd p2 z)))) (fun z => absurd p1 z))
  refine vg (vg (t_isCard hc0 rm.1.1 (fun _ => vg (br_f (by decide) (t_inI 0 7 rfl rfl (fun _ => vg (br_f (by decide) (t_inI 0 2 rfl rfl (fun _ => vg (brn_t (by decide) (t_hasAt (by omega) hk a1 a2 a3 d1 d2 (vg (t_punches (by omega) hk a1 a2 hw d1 d2 (vg ⟨rfl, inv_card I v rn rm (by omega) o1 o2 o3⟩)))))) (fun z => absurd p5 z)))) (fun z => absurd (by omega) z)))) (fun z => absurd p1 z)))
-- ===== as
def undN (k u : Nat) : Prop := u = k ∨ (u = 0 ∧ 1 ≤ k) ∨ (u = 1 ∧ (k = 3 ∨ k = 5)) ∨ (u = 2 ∧ k = 4) ∨ (u = 3 ∧ k = 5)
section UND
variable {Q : Qt} {u s : Nat} {k0 : Int32}
theorem und_out (hs : s < 6) (b : Q (some (.int 0)) h) : Go X m_X6_isOrIsUnder 4 [.int k0, .int (nI u), .int (-1), .int (nI s)] [] h Q := by
  refine vg (br_f (fun z => nI_ge (a := s) (b := 6) hs (by decide) z) (t_isKind (fun z => absurd z (by decide)) (fun _ => vg (br_t rfl ⟨Or.inl rfl, b⟩))))
theorem und_step {k q : Nat} (hk : k < 6) (hu : u < 6) (hs : s < 6) (a : u = k → Q (some (.int 1)) h) (b : ¬ u = k → Go X m_X6_isOrIsUnder 4 [.int k0, .int (nI u), .int (ovf k), .int (nI (s + 1))] [] h Q) : Go X m_X6_isOrIsUnder 4 [.int k0, .int (nI u), .int (nI k), .int (nI s)] [] h Q := by
  refine vg (br_f (fun z => nI_ge (a := s) (b := 6) hs (by decide) z) (t_isKind (fun _ => ?_) (fun z => absurd ⟨by rw [nT (by omega)]; omega, by rw [nT (by omega)]; omega⟩ z)))
  by_cases e : u = k
  · subst e
    exact vg (br_f (by decide) (brn_f rfl ⟨Or.inr rfl, a rfl⟩))
  · refine vc_ok (st := [4]) 40 (br_f (by decide) (brn_t ?_ ⟨k, rfl, hk, ?_⟩))
    · rw [nI_eq (by omega) (by omega)]
      exact fun z => e z.symm
    · have := b e
      rw [← nI_1] at this
      exact this
theorem t_isOrIsUnder {k : Nat} (hk : k < 6) (hu : u < 6) (a : undN k u → Q (some (.int 1)) h) (b : ¬ undN k u → Q (some (.int 0)) h) : Go X m_X6_isOrIsUnder 0 [.int (nI k), .int (nI u), .null, .null] [] h Q := by
  refine vc_ok (st := [4]) 40 ?_
  show Go X m_X6_isOrIsUnder 4 [.int (nI k), .int (nI u), .int (nI k), .int (nI 0)] [] h Q
  unfold undN at a b
  have L0 : ∀ s, s < 5 → (u = 0 → Q (some (.int 1)) h) → (¬ u = 0 → Q (some (.int 0)) h) → Go X m_X6_isOrIsUnder 4 [.int (nI k), .int (nI u), .int (nI 0), .int (nI s)] [] h Q := fun s hs a b => und_step (q := 0) (by decide) hu (by omega) a (fun z => und_out (by omega) (b z))
  have L1 : ∀ s, s < 4 → (u = 1 ∨ u = 0 → Q (some (.int 1)) h) → (¬ (u = 1 ∨ u = 0) → Q (some (.int 0)) h) → Go X m_X6_isOrIsUnder 4 [.int (nI k), .int (nI u), .int (nI 1), .int (nI s)] [] h Q := fun s hs a b => und_step (q := 0) (by decide) hu (by omega) (fun z => a (Or.inl z)) (fun z => L0 (s + 1) (by omega) (fun z => a (Or.inr z)) (fun w => b (by omega)))
  have L2 : ∀ s, s < 4 → (u = 2 ∨ u = 0 → Q (some (.int 1)) h) → (¬ (u = 2 ∨ u = 0) → Q (some (.int 0)) h) → Go X m_X6_isOrIsUnder 4 [.int (nI k), .int (nI u), .int (nI 2), .int (nI s)] [] h Q := fun s hs a b => und_step (q := 0) (by decide) hu (by omega) (fun z => a (Or.inl z)) (fun z => L0 (s + 1) (by omega) (fun z => a (Or.inr z)) (fun w => b (by omega)))
  have L3 : ∀ s, s < 3 → (u = 3 ∨ u = 1 ∨ u = 0 → Q (some (.int 1)) h) → (¬ (u = 3 ∨ u = 1 ∨ u = 0) → Q (some (.int 0)) h) → Go X m_X6_isOrIsUnder 4 [.int (nI k), .int (nI u), .int (nI 3), .int (nI s)] [] h Q := fun s hs a b => und_step (q := 0) (by decide) hu (by omega) (fun z => a (Or.inl z)) (fun z => L1 (s + 1) (by omega) (fun z => a (Or.inr z)) (fun w => b (by omega)))
  rcases (show k = 0 ∨ k = 1 ∨ k = 2 ∨ k = 3 ∨ k = 4 ∨ k = 5 by omega) with rfl | rfl | rfl | rfl | rfl | rfl
  · exact L0 0 (by decide) (fun z => a (by omega)) (fun z => b (by omega))
  · exact L1 0 (by decide) (fun z => a (by omega)) (fun z => b (by omega))
  · exact L2 0 (by decide) (fun z => a (by omega)) (fun z => b (by omega))
  · exact L3 0 (by decide) (fun z => a (by omega)) (fun z => b (by omega))
  · exact und_step (q := 0) (by decide) hu (by decide) (fun z => a (by omega)) (fun z => L2 1 (by decide) (fun z => a (by omega)) (fun w => b (by omega)))
  · exact und_step (q := 0) (by decide) hu (by decide) (fun z => a (by omega)) (fun z => L3 1 (by decide) (fun z => a (by omega)) (fun w => b (by omega)))
theorem t_isOf {k : Nat} (hk : k < 6) (hu : u < 6) (a : undN k u → Q (some (.int 1)) h) (b : ¬ undN k u → Q (some (.int 0)) h) : Go X m_X7_isOf 0 [.int (nI k), .int (nI u)] [] h Q := by
  unfold undN at a b
  have E : ∀ {m n : Nat}, m < 6 → n < 6 → (nI m = nI n ↔ m = n) := fun h1 h2 => nI_eq (by omega) (by omega)
  have L34 : (u = 3 ∧ k = 5 → Q (some (.int 1)) h) → (¬ (u = 3 ∧ k = 5) → Q (some (.int 0)) h) → Go X m_X7_isOf 34 [.int (nI k), .int (nI u)] [] h Q := fun a b => by
    by_cases c1 : u = 3
    · by_cases c2 : k = 5
      · exact vg (brn_f ((E hu (by decide)).mpr c1) (brn_f ((E hk (by decide)).mpr c2) ⟨Or.inr rfl, a ⟨c1, c2⟩⟩))
      · exact vg (brn_f ((E hu (by decide)).mpr c1) (brn_t (fun z => c2 ((E hk (by decide)).mp z)) ⟨Or.inl rfl, b (fun z => c2 z.2)⟩))
    · exact vg (brn_t (fun z => c1 ((E hu (by decide)).mp z)) ⟨Or.inl rfl, b (fun z => c1 z.1)⟩)
  have L24 : ((u = 2 ∧ k = 4) ∨ (u = 3 ∧ k = 5) → Q (some (.int 1)) h) → (¬ ((u = 2 ∧ k = 4) ∨ (u = 3 ∧ k = 5)) → Q (some (.int 0)) h) → Go X m_X7_isOf 24 [.int (nI k), .int (nI u)] [] h Q := fun a b => by
    by_cases c1 : u = 2
    · by_cases c2 : k = 4
      · exact vg (brn_f ((E hu (by decide)).mpr c1) (br_t ((E hk (by decide)).mpr c2) ⟨Or.inr rfl, a (Or.inl ⟨c1, c2⟩)⟩))
      · exact vc_ok (st := [34]) 40 (brn_f ((E hu (by decide)).mpr c1) (br_f (fun z => c2 ((E hk (by decide)).mp z)) (L34 (fun z => a (Or.inr z)) (fun z => b (by omega)))))
    · exact vc_ok (st := [34]) 40 (brn_t (fun z => c1 ((E hu (by decide)).mp z)) (L34 (fun z => a (Or.inr z)) (fun z => b (by omega))))
  by_cases c0 : u = 0
  · subst c0
    exact vg (br_t rfl ⟨Or.inr rfl, a (by omega)⟩)
  by_cases c1 : u = k
  · subst c1
    exact vg (br_f (fun z => c0 ((E hu (by decide)).mp z)) (br_t rfl ⟨Or.inr rfl, a (by omega)⟩))
  by_cases c2 : u = 1
  · by_cases c3 : k = 3
    · exact vg (br_f (fun z => c0 ((E hu (by decide)).mp z)) (br_f (fun z => c1 ((E hu hk).mp z)) (brn_f ((E hu (by decide)).mpr c2) (br_t ((E hk (by decide)).mpr c3) ⟨Or.inr rfl, a (by omega)⟩))))
    · by_cases c4 : k = 5
      · exact vg (br_f (fun z => c0 ((E hu (by decide)).mp z)) (br_f (fun z => c1 ((E hu hk).mp z)) (brn_f ((E hu (by decide)).mpr c2) (br_f (fun z => c3 ((E hk (by decide)).mp z)) (br_t ((E hk (by decide)).mpr c4) ⟨Or.inr rfl, a (by omega)⟩)))))
      · exact vc_ok (st := [24]) 40 (br_f (fun z => c0 ((E hu (by decide)).mp z)) (br_f (fun z => c1 ((E hu hk).mp z)) (brn_f ((E hu (by decide)).mpr c2) (br_f (fun z => c3 ((E hk (by decide)).mp z)) (br_f (fun z => c4 ((E hk (by decide)).mp z)) (L24 (fun z => a (by omega)) (fun z => b (by omega))))))))
  · exact vc_ok (st := [24]) 40 (br_f (fun z => c0 ((E hu (by decide)).mp z)) (br_f (fun z => c1 ((E hu hk).mp z)) (brn_t (fun z => c2 ((E hu (by decide)).mp z)) (L24 (fun z => a (by omega)) (fun z => b (by omega))))))
end UND
theorem op_as (I : Inv h) : Both X m_X6_as m_X7_as [.ref 0, .int x, .int y] [.ref 1, .int x, .int y] h := by
  obtain ⟨V, v, rn, rm, ik, ir, it, is⟩ := id I
  unfold Both
  have hl0 := v.1.2.2
  by_cases p1 : 0 ≤ x.toInt ∧ x.toInt < V 0 2
  case neg =>
    refine vg (t_hasLaw v.1.2.2 rn.1.2.2 (fun z => absurd z p1) (fun _ => vg (br_t rfl (t_refuse 0 (by decide) (by decide) ?_))))
    refine vg (vg (t_isLaw v.1.2.2 rm.1.2.2 (fun z => absurd z p1) (fun _ => vg (br_t rfl (t_findsN 0 (by decide) rfl ?_)))))
    exact vg ⟨rfl, inv_ref I (by decide)⟩
  by_cases p2 : 0 ≤ y.toInt ∧ y.toInt < 6
  case neg =>
    refine vg (t_hasLaw v.1.2.2 rn.1.2.2 (fun _ => vg (br_f (by decide) (t_isKind (fun z => absurd z p2) (fun _ => vg (brn_f rfl (t_refuse 0 (by decide) (by decide) ?_)))))) (fun z => absurd p1 z))
    refine vg (vg (t_isLaw v.1.2.2 rm.1.2.2 (fun _ => vg (br_f (by decide) (t_inI 0 5 rfl rfl (fun z => absurd (by omega) p2) (fun _ => vg (brn_f rfl (t_findsN 0 (by decide) rfl ?_)))))) (fun z => absurd p1 z)))
    exact vg ⟨rfl, inv_ref I (by decide)⟩
  obtain ⟨l, hl, rfl⟩ := nI_ex (n := V 0 2) p1.1 (by omega) (by omega)
  obtain ⟨u, hu, rfl⟩ := nI_ex (n := 6) p2.1 (by omega) (by decide)
  obtain ⟨f1, f2, f3⟩ := rn.2.2.2.2 l hl
  obtain ⟨g1, g2, g3⟩ := rm.2.2.2.2 l hl
  have hk := (v.2.2.2.2 l hl).1
  refine vg (t_hasLaw v.1.2.2 rn.1.2.2 (fun _ => vg (br_f (by decide) (t_isKind (fun _ => vg (brn_t (by decide) ⟨l, rfl, by omega, ?_⟩)) (fun z => absurd p2 z)))) (fun z => absurd p1 z))
  show Go X m_X6_isOrIsUnder 0 [.int (h.1 19 l), .int (nI u), .null, .null] [] h _
  rw [f1]
  refine t_isOrIsUnder hk hu (fun c => vg (brn_t (by decide) ⟨l, rfl, by omega, ?_⟩)) (fun c => vg (brn_f rfl (t_refuse 2 (by decide) (by decide) ?_)))
  · refine vg (t_isLaw v.1.2.2 rm.1.2.2 (fun _ => vg (br_f (by decide) (t_inI 0 5 rfl rfl (fun _ => vg (brn_t (by decide) ⟨60 + l, nI_add 60 l, by omega, ?_⟩)) (fun z => absurd (by omega) z)))) (fun z => absurd p1 z))
    show Go X m_X7_isOf 0 [.int (h.1 53 (60 + l)), .int (nI u)] [] h _
    rw [g1]
    refine t_isOf hk hu (fun _ => vg (br_f (by decide) ⟨66 + l, nI_add 66 l, by omega, ?_, I⟩)) (fun z => absurd c z)
    show some (Value.int (h.1 53 (66 + l))) = some (Value.int (h.1 20 l))
    rw [f2, g2]
  · refine vg (vg (t_isLaw v.1.2.2 rm.1.2.2 (fun _ => vg (br_f (by decide) (t_inI 0 5 rfl rfl (fun _ => vg (brn_t (by decide) ⟨60 + l, nI_add 60 l, by omega, ?_⟩)) (fun z => absurd (by omega) z)))) (fun z => absurd p1 z)))
    show Go X m_X7_isOf 0 [.int (h.1 53 (60 + l)), .int (nI u)] [] _ _
    rw [g1]
    exact t_isOf hk hu (fun z => absurd z c) (fun _ => vg (br_t rfl (t_findsN 2 (by decide) rfl (vg ⟨rfl, inv_ref I (by decide)⟩))))
end OPS6
