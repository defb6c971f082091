section OPS4
variable {X : Xs} {h : Hp} {x y z : Int32}
theorem op_set (I : Inv h) : Both X m_X6_set m_X7_set [.ref 0, .int x, .int y, .null] [.ref 1, .int x, .int y, .null] h := by
  obtain ⟨V, v, rn, rm, ik, ir, it, is⟩ := id I
  unfold Both
  by_cases p1 : 0 ≤ x.toInt ∧ x.toInt < V 0 2
  case neg =>
    refine vg (t_hasLaw v.1.2.2 rn.1.2.2 (fun z => absurd z p1) (fun _ => vg (br_t rfl (t_refuse 0 (by decide) (by decide) ?_))))
    refine vg (vg (t_isLaw v.1.2.2 rm.1.2.2 (fun z => absurd z p1) (fun _ => vg (br_t rfl (t_findsN 0 (by decide) rfl ?_)))))
    exact vg ⟨rfl, inv_ref I (by decide)⟩
  by_cases p2 : 1 ≤ y.toInt ∧ y.toInt ≤ 16
  case neg =>
    refine vg (t_hasLaw v.1.2.2 rn.1.2.2 (fun _ => vg (br_f (by decide) (t_isLimit (fun z => absurd z p2) (fun _ => vg (brn_f rfl (t_refuse 0 (by decide) (by decide) ?_)))))) (fun z => absurd p1 z))
    refine vg (vg (t_isLaw v.1.2.2 rm.1.2.2 (fun _ => vg (br_f (by decide) (t_inI 1 16 rfl rfl (fun z => absurd z p2) (fun _ => vg (brn_f rfl (t_findsN 0 (by decide) rfl ?_)))))) (fun z => absurd p1 z)))
    exact vg ⟨rfl, inv_ref I (by decide)⟩
  have hl0 := v.1.2.2
  obtain ⟨l, hl, rfl⟩ := nI_ex (n := V 0 2) p1.1 (by omega) (by omega)
  obtain ⟨b, hb, rfl⟩ := nI_ex (n := 17) (by omega : 0 ≤ y.toInt) (by omega) (by decide)
  have hb1 : 1 ≤ b := by
    have := p2.1
    rw [nT (by omega)] at this
    omega
  refine vg (t_hasLaw v.1.2.2 rn.1.2.2 (fun _ => vg (br_f (by decide) (t_isLimit (fun _ => vg (brn_t (by decide) ⟨l, rfl, by omega, l, rfl, by omega, ?_⟩)) (fun z => absurd p2 z)))) (fun z => absurd p1 z))
  refine vg (t_isLaw v.1.2.2 rm.1.2.2 (fun _ => vg (br_f (by decide) (t_inI 1 16 rfl rfl (fun _ => vg (brn_t (by decide) ⟨66 + l, nI_add 66 l, by omega, 66 + l, nI_add 66 l, by omega, ?_⟩)) (fun z => absurd p2 z)))) (fun z => absurd p1 z))
  refine ⟨?_, inv_put6 I v rn rm l b (by omega) ⟨v.1, v.2.1, v.2.2.1, v.2.2.2.1, fun q hq => ?_⟩⟩
  · show some (Value.int (h.1 53 (66 + l))) = some (Value.int (h.1 20 l))
    rw [(rm.2.2.2.2 l hl).2.1, (rn.2.2.2.2 l hl).2.1]
  · have := v.2.2.2.2 q hq
    show V 5 q < 6 ∧ 1 ≤ up2 V 6 l b 6 q ∧ up2 V 6 l b 6 q ≤ 16 ∧ V 7 q ≤ 1
    by_cases e : q = l
    · subst e; rw [u_at]; exact ⟨this.1, hb1, by omega, this.2.2.2⟩
    · rw [u_ne e]; exact this
theorem nI_01 {n : Nat} (h : n ≤ 1) : nI n = 0 ∨ nI n = 1 := by
  rcases (show n = 0 ∨ n = 1 by omega) with rfl | rfl
  · exact Or.inl rfl
  · exact Or.inr rfl
/-- the law's own flag: an int, nothing but 0 or not 0 -/
theorem op_force (I : Inv h) : Both X m_X6_force m_X7_force [.ref 0, .int x, .int y, .null, .null] [.ref 1, .int x, .int y, .null] h := by
  obtain ⟨V, v, rn, rm, ik, ir, it, is⟩ := id I
  unfold Both
  by_cases p1 : 0 ≤ x.toInt ∧ x.toInt < V 0 2
  case neg =>
    refine vg (t_hasLaw v.1.2.2 rn.1.2.2 (fun z => absurd z p1) (fun _ => vg (brn_f rfl (t_refuse 0 (by decide) (by decide) ?_))))
    refine vg (vg (t_isLaw v.1.2.2 rm.1.2.2 (fun z => absurd z p1) (fun _ => vg (brn_f rfl (t_findsN 0 (by decide) rfl ?_)))))
    exact vg ⟨rfl, inv_ref I (by decide)⟩
  have hl0 := v.1.2.2
  obtain ⟨l, hl, rfl⟩ := nI_ex (n := V 0 2) p1.1 (by omega) (by omega)
  have hv := v.2.2.2.2 l hl
  have er := (rn.2.2.2.2 l hl).2.2
  have em := (rm.2.2.2.2 l hl).2.2
  have ok : ∀ w, w ≤ 1 → okV (up2 V 7 l w) := fun w hw => ⟨v.1, v.2.1, v.2.2.1, v.2.2.2.1, fun q hq => by
    have := v.2.2.2.2 q hq
    show V 5 q < 6 ∧ 1 ≤ V 6 q ∧ V 6 q ≤ 16 ∧ up2 V 7 l w 7 q ≤ 1
    by_cases e : q = l
    · subst e; rw [u_at]; exact ⟨this.1, this.2.1, this.2.2.1, hw⟩
    · rw [u_ne e]; exact this⟩
  have fin : ∀ (w : Nat) (r : Int32), w ≤ 1 → (r = if V 7 l = w then 0 else 1) →
      Go X m_X7_force 0 [.ref 1, .int (nI l), .int y, .null] [] (up2 h.1 21 l (nI w), h.2) (fun r' h2 => r' = some (.int r) ∧ Inv h2) → True := fun _ _ _ _ _ => trivial
  by_cases p3 : y = 0
  · refine vg (t_hasLaw v.1.2.2 rn.1.2.2 (fun _ => vg (brn_t (by decide) (br_t p3 ⟨l, rfl, by omega, ?_⟩))) (fun z => absurd p1 z))
    by_cases p4 : V 7 l = 0
    · refine brn_f (by show h.1 21 l = _; rw [er, p4]; rfl) ⟨l, rfl, by omega, ?_⟩
      refine vg (t_isLaw v.1.2.2 rm.1.2.2 (fun _ => vg (brn_t (by decide) ⟨72 + l, nI_add 72 l, by omega, br_t p3 ⟨72 + l, nI_add 72 l, by omega, 72 + l, nI_add 72 l, by omega, brn_f ?_ ⟨rfl, inv_put7 I v rn rm l 0 (by omega) (ok 0 (by omega))⟩⟩⟩)) (fun z => absurd p1 z))
      show h.1 53 (72 + l) = up2 (up2 h.1 21 l (nI 0)) 53 (72 + l) (nI 0) 53 (72 + l)
      rw [u_at, em, p4]
    · refine brn_t (by show ¬ h.1 21 l = nI 0; rw [er, nI_eq (by omega) (by decide)]; exact p4) ⟨l, rfl, by omega, ?_⟩
      refine vg (t_isLaw v.1.2.2 rm.1.2.2 (fun _ => vg (brn_t (by decide) ⟨72 + l, nI_add 72 l, by omega, br_t p3 ⟨72 + l, nI_add 72 l, by omega, 72 + l, nI_add 72 l, by omega, brn_t ?_ ⟨rfl, inv_put7 I v rn rm l 0 (by omega) (ok 0 (by omega))⟩⟩⟩)) (fun z => absurd p1 z))
      show ¬ h.1 53 (72 + l) = up2 (up2 h.1 21 l (nI 0)) 53 (72 + l) (nI 0) 53 (72 + l)
      rw [u_at, em, nI_eq (by omega) (by decide)]; exact p4
  · refine vg (t_hasLaw v.1.2.2 rn.1.2.2 (fun _ => vg (brn_t (by decide) (br_f p3 ⟨l, rfl, by omega, ?_⟩))) (fun z => absurd p1 z))
    by_cases p4 : V 7 l = 1
    · refine brn_f (by show h.1 21 l = _; rw [er, p4]; rfl) ⟨l, rfl, by omega, ?_⟩
      refine vg (t_isLaw v.1.2.2 rm.1.2.2 (fun _ => vg (brn_t (by decide) ⟨72 + l, nI_add 72 l, by omega, br_f p3 ⟨72 + l, nI_add 72 l, by omega, 72 + l, nI_add 72 l, by omega, brn_f ?_ ⟨rfl, inv_put7 I v rn rm l 1 (by omega) (ok 1 (by omega))⟩⟩⟩)) (fun z => absurd p1 z))
      show h.1 53 (72 + l) = up2 (up2 h.1 21 l (nI 1)) 53 (72 + l) (nI 1) 53 (72 + l)
      rw [u_at, em, p4]
    · refine brn_t (by show ¬ h.1 21 l = nI 1; rw [er, nI_eq (by omega) (by decide)]; exact p4) ⟨l, rfl, by omega, ?_⟩
      refine vg (t_isLaw v.1.2.2 rm.1.2.2 (fun _ => vg (brn_t (by decide) ⟨72 + l, nI_add 72 l, by omega, br_f p3 ⟨72 + l, nI_add 72 l, by omega, 72 + l, nI_add 72 l, by omega, brn_t ?_ ⟨rfl, inv_put7 I v rn rm l 1 (by omega) (ok 1 (by omega))⟩⟩⟩)) (fun z => absurd p1 z))
      show ¬ h.1 53 (72 + l) = up2 (up2 h.1 21 l (nI 1)) 53 (72 + l) (nI 1) 53 (72 + l)
      rw [u_at, em, nI_eq (by omega) (by decide)]; exact p4
theorem inv_tear (I : Inv h) : Inv (up2 (up2 h.1 0 9 0) 1 3 0, h.2) := by
  obtain ⟨V, v, rn, rm, ik, ir, it, is⟩ := I
  exact ⟨V, v, rn, rm, Or.inl ⟨rfl, rfl⟩, ir, it, fun s hs => by
    have := is s hs
    rwa [show (up2 (up2 h.1 0 9 0) 1 3 0, h.2).1 (9 + s) = h.1 (9 + s) by show up2 _ _ _ _ (9 + s) = _; rw [up2_ne (by omega), up2_ne (by omega)]]⟩
theorem op_tear (I : Inv h) : Both X m_X6_tear m_X7_tear [.ref 0, .null] [.ref 1, .null] h := by
  unfold Both
  obtain ⟨V, v, rn, rm, ik, ir, it, is⟩ := id I
  rcases ik with ⟨a, b⟩ | ⟨a, b, -⟩
  · refine vg (br_t a ⟨Or.inl rfl, ?_⟩)
    exact vg (br_t b ⟨Or.inl rfl, rfl, inv_tear I⟩)
  · refine vg (br_f (by rw [a]; decide) ⟨Or.inl rfl, ?_⟩)
    exact vg (br_f (by show ¬ h.1 1 3 = 0; rw [b]; decide) ⟨Or.inl rfl, rfl, inv_tear I⟩)
theorem op_wipe (I : Inv h) : Both X m_X6_wipe m_X7_wipe [.ref 0, .null] [.ref 1, .null] h := by
  unfold Both
  obtain ⟨V, v, rn, rm, ik, ir, ⟨n, hn, t1, t2, t3⟩, is⟩ := id I
  refine vg (vg ⟨?_, ?_⟩)
  · show some (Value.int (h.1 1 6)) = some (Value.int (h.1 8 0))
    rw [t1, t2]
  · refine ⟨V, v, rn, rm, ik_cg ik rfl rfl (fun q hq => ?_), ir, ⟨0, by omega, rfl, rfl, fun i hi => absurd hi (by omega)⟩, is_cg is (fun q hq => ?_) (fun q hq => rfl)⟩
    · show up2 _ _ _ _ q = _
      rw [up2_ne (by omega)]
      exact up2_ne (a := 8) (by omega)
    · show up2 _ _ _ _ q = _
      rw [up2_ne (by omega)]
      exact up2_ne (a := 8) (by omega)
end OPS4
