/-! card, tie, tied, pick, drop, woven, law, set -/
section OPS1
variable {X : Xs} {h : Hp} {x y : Int32}
theorem op_card (I : Inv h) : Both X m_X6_card m_X7_card [.ref 0, .int x, .int y] [.ref 1, .int x, .int y] h := by
  obtain ⟨V, v, rn, rm, ik, ir, it, is⟩ := id I
  unfold Both
  by_cases p1 : 0 ≤ x.toInt ∧ x.toInt < 256
  case neg =>
    refine vg (t_isHookSet (fun z => absurd z p1) (fun _ => vg (br_t rfl (t_refuse 0 (by decide) (by decide) ?_))))
    refine vg (vg (t_inI 0 255 rfl rfl (fun z => absurd (by omega) p1) (fun _ => vg (br_t rfl (t_findsN 0 (by decide) rfl ?_)))))
    exact vg ⟨rfl, inv_ref I (by decide)⟩
  by_cases p2 : 0 ≤ y.toInt ∧ y.toInt < 256
  case neg =>
    refine vg (t_isHookSet (fun _ => vg (br_f (by decide) (t_isHookSet (fun z => absurd z p2) (fun _ => vg (br_t rfl (t_refuse 0 (by decide) (by decide) ?_)))))) (fun z => absurd p1 z))
    refine vg (vg (t_inI 0 255 rfl rfl (fun _ => vg (br_f (by decide) (t_inI 0 255 rfl rfl (fun z => absurd (by omega) p2) (fun _ => vg (br_t rfl (t_findsN 0 (by decide) rfl ?_)))))) (fun z => absurd (by omega) z)))
    exact vg ⟨rfl, inv_ref I (by decide)⟩
  by_cases p3 : x &&& y = 0
  case neg =>
    refine vg (t_isHookSet (fun _ => vg (br_f (by decide) (t_isHookSet (fun _ => vg (br_f (by decide) (br_f p3 (t_refuse 0 (by decide) (by decide) ?_)))) (fun z => absurd p2 z)))) (fun z => absurd p1 z))
    refine vg (vg (t_inI 0 255 rfl rfl (fun _ => vg (br_f (by decide) (t_inI 0 255 rfl rfl (fun _ => vg (br_f (by decide) (br_f p3 (t_findsN 0 (by decide) rfl ?_)))) (fun z => absurd (by omega) z)))) (fun z => absurd (by omega) z)))
    exact vg ⟨rfl, inv_ref I (by decide)⟩
  have hn := v.1.1
  have r0 := rn.1.1
  have m0 := rm.1.1
  by_cases p4 : V 0 0 < 10
  case neg =>
    have e10 : V 0 0 = 10 := by omega
    refine vg (t_isHookSet (fun _ => vg (br_f (by decide) (t_isHookSet (fun _ => vg (br_f (by decide) (br_t p3 (br_f ?_ (t_refuse 1 (by decide) (by decide) ?_))))) (fun z => absurd p2 z)))) (fun z => absurd p1 z))
    · rw [r0, e10]; decide
    refine vg (vg (t_inI 0 255 rfl rfl (fun _ => vg (br_f (by decide) (t_inI 0 255 rfl rfl (fun _ => vg (br_f (by decide) (br_t p3 ⟨0, rfl, by decide, brn_f ?_ (t_findsN 1 (by decide) rfl ?_)⟩))) (fun z => absurd (by omega) z)))) (fun z => absurd (by omega) z)))
    · show h.1 53 0 = _
      rw [m0, e10]; rfl
    exact vg ⟨rfl, inv_ref I (by decide)⟩
  obtain ⟨a, ha, rfl⟩ := nI_ex (n := 256) p1.1 (by omega) (by decide)
  obtain ⟨b, hb, rfl⟩ := nI_ex (n := 256) p2.1 (by omega) (by decide)
  refine vg (t_isHookSet (fun _ => vg (br_f (by decide) (t_isHookSet (fun _ => vg (br_f (by decide) (br_t p3 (br_t ?_ (t_addCard p4 r0 ?_))))) (fun z => absurd p2 z)))) (fun z => absurd p1 z))
  · rw [r0]; exact nI_lt p4 (by decide)
  refine vg (vg (t_inI 0 255 rfl rfl (fun _ => vg (br_f (by decide) (t_inI 0 255 rfl rfl (fun _ => vg (br_f (by decide) (br_t p3 ⟨0, rfl, by decide, brn_t ?_ (t_comes p4 m0 ?_)⟩))) (fun z => absurd (by omega) z)))) (fun z => absurd (by omega) z)))
  · show ¬ h.1 53 0 = nI 10
    rw [m0, nI_eq (by omega) (by decide)]
    omega
  refine vg ⟨rfl, up2 (up2 (up2 V 0 0 (V 0 0 + 1)) 1 (V 0 0) a) 2 (V 0 0) b, ?_, ?_, ?_, ik_cg ik rfl rfl ?_, ir_cg ir rfl rfl, it_cg it rfl rfl rfl rfl, is_cg is ?_ (fun q hq => rfl)⟩
  · refine ⟨⟨by show V 0 0 + 1 ≤ 10; omega, v.1.2.1, v.1.2.2⟩, fun c hc => ?_, v.2.2.1, fun i hi => ?_, v.2.2.2.2⟩
    · have hc : c < V 0 0 + 1 := hc
      by_cases e : c = V 0 0
      · subst e
        simp only [up2, if_true]
        refine ⟨ha, hb, ?_⟩
        have p3 : nI a &&& nI b = nI 0 := p3
        rw [nI_and, nI_eq (Nat.lt_of_le_of_lt Nat.and_le_left (by omega)) (by decide)] at p3
        exact p3
      · have := v.2.1 c (by omega)
        simpa [up2, e] using this
    · have hi : i < V 0 1 := hi
      have := v.2.2.2.1 i hi
      show V 4 i < V 0 0 + 1
      omega
  · refine ⟨⟨rfl, rn.1.2.1, rn.1.2.2⟩, fun c hc => ?_, rn.2.2.1, rn.2.2.2.1, rn.2.2.2.2⟩
    have hc : c < V 0 0 + 1 := hc
    by_cases e : c = V 0 0
    · subst e
      simp [up2]
    · have := rn.2.1 c (by omega)
      simpa [up2, e] using this
  · refine ⟨⟨rfl, ?_, ?_⟩, fun c hc => ?_, fun t ht => ?_, fun i hi => ?_, fun l hl => ?_⟩
    · have := rm.1.2.1
      simpa [up2, show ¬ 1 = 4 + V 0 0 by omega, show ¬ 1 = 14 + V 0 0 by omega] using this
    · have := rm.1.2.2
      simpa [up2, show ¬ 2 = 4 + V 0 0 by omega, show ¬ 2 = 14 + V 0 0 by omega] using this
    · have hc : c < V 0 0 + 1 := hc
      by_cases e : c = V 0 0
      · subst e
        simp [up2]
      · have := rm.2.1 c (by omega)
        simp [up2, e, show ¬ 4 + c = 14 + V 0 0 by omega, show ¬ 14 + c = 4 + V 0 0 by omega]
        exact this
    · have := rm.2.2.1 t ht
      simp [up2, show ¬ 24 + t = 14 + V 0 0 by omega, show ¬ 24 + t = 4 + V 0 0 by omega]
      exact this
    · have hi : i < V 0 1 := hi
      have := rm.2.2.2.1 i hi
      simp [up2, show ¬ 40 + i = 14 + V 0 0 by omega, show ¬ 40 + i = 4 + V 0 0 by omega]
      exact this
    · have hl : l < V 0 2 := hl
      have := rm.2.2.2.2 l hl
      simp [up2, show ¬ 60 + l = 14 + V 0 0 by omega, show ¬ 60 + l = 4 + V 0 0 by omega, show ¬ 66 + l = 14 + V 0 0 by omega, show ¬ 66 + l = 4 + V 0 0 by omega, show ¬ 72 + l = 14 + V 0 0 by omega, show ¬ 72 + l = 4 + V 0 0 by omega]
      exact this
  · intro q hq
    rcases hq with rfl | hq | rfl
    · rfl
    · show up2 _ _ _ _ q = _
      rw [up2_ne (by omega), up2_ne (by omega), up2_ne (by omega)]
      show up2 _ _ _ _ q = _
      rw [up2_ne (by omega), up2_ne (by omega), up2_ne (by omega)]
    · rfl
  · intro q hq
    show up2 _ _ _ _ q = _
    rw [up2_ne (by omega), up2_ne (by omega), up2_ne (by omega)]
    show up2 _ _ _ _ q = _
    rw [up2_ne (by omega), up2_ne (by omega), up2_ne (by omega)]
end OPS1
