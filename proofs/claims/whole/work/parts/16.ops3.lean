section OPS3
variable {X : Xs} {h : Hp} {x y : Int32}
theorem op_pick (I : Inv h) : Both X m_X6_pick m_X7_pick [.ref 0, .int x] [.ref 1, .int x] h := by
  obtain ⟨V, v, rn, rm, ik, ir, it, is⟩ := id I
  unfold Both
  by_cases p1 : 0 ≤ x.toInt ∧ x.toInt < V 0 0
  case neg =>
    refine vg (t_hasCard v.1.1 rn.1.1 (fun z => absurd z p1) (fun _ => vg (brn_f rfl (t_refuse 0 (by decide) (by decide) ?_))))
    refine vg (vg (t_isCard v.1.1 rm.1.1 (fun z => absurd z p1) (fun _ => vg (brn_f rfl (t_findsN 0 (by decide) rfl ?_)))))
    exact vg ⟨rfl, inv_ref I (by decide)⟩
  have hr := v.1.2.1
  have hc0 := v.1.1
  have r1 := rn.1.2.1
  have m1 := rm.1.2.1
  by_cases p2 : V 0 1 < 20
  case neg =>
    have e20 : V 0 1 = 20 := by omega
    refine vg (t_hasCard v.1.1 rn.1.1 (fun _ => vg (brn_t (by decide) (br_f ?_ (t_refuse 1 (by decide) (by decide) ?_)))) (fun z => absurd p1 z))
    · rw [r1, e20]; decide
    refine vg (vg (t_isCard v.1.1 rm.1.1 (fun _ => vg (brn_t (by decide) ⟨1, rfl, by decide, brn_f ?_ (t_findsN 1 (by decide) rfl ?_)⟩)) (fun z => absurd p1 z)))
    · show h.1 53 1 = _
      rw [m1, e20]; rfl
    exact vg ⟨rfl, inv_ref I (by decide)⟩
  obtain ⟨c, hc, rfl⟩ := nI_ex (n := V 0 0) p1.1 (by omega) (by omega)
  refine vg (t_hasCard v.1.1 rn.1.1 (fun _ => vg (brn_t (by decide) (br_t ?_ (t_addPick p2 r1 ?_)))) (fun z => absurd p1 z))
  · rw [r1]; exact nI_lt p2 (by decide)
  refine vg (vg (t_isCard v.1.1 rm.1.1 (fun _ => vg (brn_t (by decide) ⟨1, rfl, by decide, brn_t ?_ ⟨1, rfl, by decide, 40 + V 0 1, ?_, by omega, 1, rfl, by decide, 1, rfl, by decide, 1, rfl, by decide, ?_⟩⟩)) (fun z => absurd p1 z)))
  · show ¬ h.1 53 1 = nI 20
    rw [m1, nI_eq (by omega) (by decide)]
    omega
  · show nI 40 + h.1 53 1 = _
    rw [m1]; exact nI_add 40 _
  have e1 : up2 (up2 (up2 h.1 18 (V 0 1) (nI c)) 2 4 (nI (V 0 1 + 1))) 53 (40 + V 0 1) (nI c) 53 1 + 1 = nI (V 0 1 + 1) := by
    rw [u_ne (by omega)]
    show h.1 53 1 + 1 = _
    rw [m1, nI_1]
  show some (Value.int (up2 (up2 (up2 h.1 18 (V 0 1) (nI c)) 2 4 (nI (V 0 1 + 1))) 53 (40 + V 0 1) (nI c) 53 1 + 1)) = some (Value.int (nI (V 0 1 + 1))) ∧ Inv (up2 (up2 (up2 (up2 h.1 18 (V 0 1) (nI c)) 2 4 (nI (V 0 1 + 1))) 53 (40 + V 0 1) (nI c)) 53 1 (up2 (up2 (up2 h.1 18 (V 0 1) (nI c)) 2 4 (nI (V 0 1 + 1))) 53 (40 + V 0 1) (nI c) 53 1 + 1), h.2)
  rw [e1]
  refine ⟨rfl, in7 (V := up2 (up2 V 0 1 (V 0 1 + 1)) 4 (V 0 1) c) I (fun q _ h1 h2 h3 => ?_) rfl rfl rfl rfl ?_ ?_ ?_⟩
  · rw [up2_ne h2, up2_ne h2, up2_ne h1, up2_ne (by omega)]
  · refine ⟨⟨v.1.1, by show V 0 1 + 1 ≤ 20; omega, v.1.2.2⟩, v.2.1, v.2.2.1, fun q hq => ?_, v.2.2.2.2⟩
    have hq : q < V 0 1 + 1 := hq
    show up2 (up2 V 0 1 (V 0 1 + 1)) 4 (V 0 1) c 4 q < V 0 0
    by_cases e : q = V 0 1
    · subst e; rw [u_at]; exact hc
    · rw [u_ne e]; exact v.2.2.2.1 q (by omega)
  · refine ⟨⟨rn.1.1, rfl, rn.1.2.2⟩, rn.2.1, rn.2.2.1, fun q hq => ?_, rn.2.2.2.2⟩
    have hq : q < V 0 1 + 1 := hq
    show up2 h.1 18 (V 0 1) (nI c) 18 q = nI (up2 (up2 V 0 1 (V 0 1 + 1)) 4 (V 0 1) c 4 q)
    by_cases e : q = V 0 1
    · subst e; rw [u_at, u_at]
    · rw [u_ne e, u_ne e]; exact rn.2.2.2.1 q (by omega)
  · have key : ∀ q, q ≠ 40 + V 0 1 → q ≠ 1 → up2 (up2 (up2 (up2 h.1 18 (V 0 1) (nI c)) 2 4 (nI (V 0 1 + 1))) 53 (40 + V 0 1) (nI c)) 53 1 (nI (V 0 1 + 1)) 53 q = h.1 53 q := fun q hq h1 => by rw [u_ne h1, u_ne hq]; rfl
    refine ⟨⟨(key 0 (by omega) (by omega)).trans rm.1.1, ?_, (key 2 (by omega) (by omega)).trans rm.1.2.2⟩, fun c hc => ?_, fun q hq => ?_, fun i hi => ?_, fun l hl => ?_⟩
    · exact rfl
    · have h1 : c < V 0 0 := hc
      exact ⟨(key _ (by omega) (by omega)).trans (rm.2.1 c h1).1, (key _ (by omega) (by omega)).trans (rm.2.1 c h1).2⟩
    · exact (key _ (by omega) (by omega)).trans (rm.2.2.1 q hq)
    · have hi : i < V 0 1 + 1 := hi
      show up2 _ 53 1 _ 53 (40 + i) = nI (up2 (up2 V 0 1 (V 0 1 + 1)) 4 (V 0 1) c 4 i)
      rw [u_ne (by omega)]
      by_cases e : i = V 0 1
      · subst e; rw [u_at, u_at]
      · rw [u_ne (by omega), u_ne e]; exact rm.2.2.2.1 i (by omega)
    · have h2 := v.1.2.2
      have hl : l < V 0 2 := hl
      exact ⟨(key _ (by omega) (by omega)).trans (rm.2.2.2.2 l hl).1, (key _ (by omega) (by omega)).trans (rm.2.2.2.2 l hl).2.1, (key _ (by omega) (by omega)).trans (rm.2.2.2.2 l hl).2.2⟩
theorem op_drop (I : Inv h) : Both X m_X6_drop m_X7_drop [.ref 0] [.ref 1] h := by
  obtain ⟨V, v, rn, rm, ik, ir, it, is⟩ := id I
  unfold Both
  have hr := v.1.2.1
  have r1 := rn.1.2.1
  have m1 := rm.1.2.1
  by_cases p1 : V 0 1 = 0
  · refine vg (brn_f (by rw [r1, p1]; rfl) (t_refuse 3 (by decide) (by decide) ?_))
    refine vg (vg ⟨1, rfl, by decide, brn_f (by show h.1 53 1 = _; rw [m1, p1]; rfl) (t_findsN 3 (by decide) rfl ?_)⟩)
    exact vg ⟨rfl, inv_ref I (by decide)⟩
  obtain ⟨n, hn⟩ : ∃ n, V 0 1 = n + 1 := ⟨V 0 1 - 1, by omega⟩
  have e1 : h.1 2 4 - 1 = nI n := by rw [r1, hn, nI_pred]
  have e2 : h.1 53 1 - 1 = nI n := by rw [m1, hn, nI_pred]
  refine vg (brn_t (by rw [r1]; exact nI_ne0 (by omega) (by omega)) ⟨n, e1, by omega, ?_⟩)
  refine vg ⟨1, rfl, by decide, brn_t (by show ¬ h.1 53 1 = _; rw [m1]; exact nI_ne0 (by omega) (by omega)) ⟨1, rfl, by decide, 1, rfl, by decide, 1, rfl, by decide, 40 + n, ?_, by omega, ?_⟩⟩
  · show nI 40 + (h.1 53 1 - 1) = _
    rw [e2]; exact nI_add 40 n
  show some (Value.int (up2 (up2 h.1 2 4 (h.1 2 4 - 1)) 53 1 (h.1 53 1 - 1) 53 (40 + n))) = some (Value.int (h.1 18 n)) ∧ Inv (up2 (up2 h.1 2 4 (h.1 2 4 - 1)) 53 1 (h.1 53 1 - 1), h.2)
  rw [e1, e2]
  have hn2 : n < V 0 1 := by omega
  refine ⟨?_, in7 (V := up2 V 0 1 n) I (fun q _ h1 h2 h3 => ?_) rfl rfl rfl rfl ?_ ?_ ?_⟩
  · rw [u_ne (by omega)]
    show some (Value.int (h.1 53 (40 + n))) = _
    rw [rm.2.2.2.1 n hn2, rn.2.2.2.1 n hn2]
  · rw [up2_ne h2, up2_ne h1]
  · exact ⟨⟨v.1.1, by show n ≤ 20; omega, v.1.2.2⟩, v.2.1, v.2.2.1, fun q hq => v.2.2.2.1 q (by have hq : q < n := hq; omega), v.2.2.2.2⟩
  · exact ⟨⟨rn.1.1, rfl, rn.1.2.2⟩, rn.2.1, rn.2.2.1, fun q hq => rn.2.2.2.1 q (by have hq : q < n := hq; omega), rn.2.2.2.2⟩
  · have key : ∀ q, q ≠ 1 → up2 (up2 h.1 2 4 (nI n)) 53 1 (nI n) 53 q = h.1 53 q := fun q hq => by rw [u_ne hq]; rfl
    refine ⟨⟨(key 0 (by omega)).trans rm.1.1, ?_, (key 2 (by omega)).trans rm.1.2.2⟩, fun c hc => ?_, fun q hq => ?_, fun i hi => ?_, fun l hl => ?_⟩
    · exact rfl
    · exact ⟨(key _ (by omega)).trans (rm.2.1 c hc).1, (key _ (by omega)).trans (rm.2.1 c hc).2⟩
    · exact (key _ (by omega)).trans (rm.2.2.1 q hq)
    · exact (key _ (by omega)).trans (rm.2.2.2.1 i (by have hq : i < n := hi; omega))
    · exact ⟨(key _ (by omega)).trans (rm.2.2.2.2 l hl).1, (key _ (by omega)).trans (rm.2.2.2.2 l hl).2.1, (key _ (by omega)).trans (rm.2.2.2.2 l hl).2.2⟩
theorem op_law (I : Inv h) : Both X m_X6_law m_X7_law [.ref 0, .int x, .int y] [.ref 1, .int x, .int y] h := by
  obtain ⟨V, v, rn, rm, ik, ir, it, is⟩ := id I
  unfold Both
  by_cases p1 : 0 ≤ x.toInt ∧ x.toInt < 6
  case neg =>
    refine vg (t_isKind (fun z => absurd z p1) (fun _ => vg (br_t rfl (t_refuse 0 (by decide) (by decide) ?_))))
    refine vg (vg (t_inI 0 5 rfl rfl (fun z => absurd (by omega) p1) (fun _ => vg (br_t rfl (t_findsN 0 (by decide) rfl ?_)))))
    exact vg ⟨rfl, inv_ref I (by decide)⟩
  by_cases p2 : 1 ≤ y.toInt ∧ y.toInt ≤ 16
  case neg =>
    refine vg (t_isKind (fun _ => vg (br_f (by decide) (t_isLimit (fun z => absurd z p2) (fun _ => vg (brn_f rfl (t_refuse 0 (by decide) (by decide) ?_)))))) (fun z => absurd p1 z))
    refine vg (vg (t_inI 0 5 rfl rfl (fun _ => vg (br_f (by decide) (t_inI 1 16 rfl rfl (fun z => absurd z p2) (fun _ => vg (brn_f rfl (t_findsN 0 (by decide) rfl ?_)))))) (fun z => absurd (by omega) z)))
    exact vg ⟨rfl, inv_ref I (by decide)⟩
  have hn := v.1.2.2
  have r2 := rn.1.2.2
  have m2 := rm.1.2.2
  by_cases p4 : V 0 2 < 6
  case neg =>
    have e6 : V 0 2 = 6 := by omega
    refine vg (t_isKind (fun _ => vg (br_f (by decide) (t_isLimit (fun _ => vg (brn_t (by decide) (br_f ?_ (t_refuse 1 (by decide) (by decide) ?_)))) (fun z => absurd p2 z)))) (fun z => absurd p1 z))
    · rw [r2, e6]; decide
    refine vg (vg (t_inI 0 5 rfl rfl (fun _ => vg (br_f (by decide) (t_inI 1 16 rfl rfl (fun _ => vg (brn_t (by decide) ⟨2, rfl, by decide, brn_f ?_ (t_findsN 1 (by decide) rfl ?_)⟩)) (fun z => absurd p2 z)))) (fun z => absurd (by omega) z)))
    · show h.1 53 2 = _
      rw [m2, e6]; rfl
    exact vg ⟨rfl, inv_ref I (by decide)⟩
  obtain ⟨a, ha, rfl⟩ := nI_ex (n := 6) p1.1 (by omega) (by decide)
  obtain ⟨b, hb, rfl⟩ := nI_ex (n := 17) (by omega : 0 ≤ y.toInt) (by omega) (by decide)
  have hb1 : 1 ≤ b := by
    have := p2.1
    rw [nT (by omega)] at this
    omega
  refine vg (t_isKind (fun _ => vg (br_f (by decide) (t_isLimit (fun _ => vg (brn_t (by decide) (br_t ?_ (t_addLaw p4 r2 ?_)))) (fun z => absurd p2 z)))) (fun z => absurd p1 z))
  · rw [r2]; exact nI_lt p4 (by decide)
  refine vg (vg (t_inI 0 5 rfl rfl (fun _ => vg (br_f (by decide) (t_inI 1 16 rfl rfl (fun _ => vg (brn_t (by decide) ⟨2, rfl, by decide, brn_t ?_ (t_lawComes p4 m2 ?_)⟩)) (fun z => absurd p2 z)))) (fun z => absurd (by omega) z)))
  · show ¬ h.1 53 2 = nI 6
    rw [m2, nI_eq (by omega) (by decide)]
    omega
  refine vg ⟨rfl, in7 (V := up2 (up2 (up2 (up2 V 0 2 (V 0 2 + 1)) 5 (V 0 2) a) 6 (V 0 2) b) 7 (V 0 2) 1) I (fun q _ h1 h2 h3 => ?_) rfl rfl rfl rfl ?_ ?_ ?_⟩
  · rw [up2_ne h2, up2_ne h2, up2_ne h2, up2_ne h2]
    show up2 _ _ _ _ q = _
    rw [up2_ne h1, up2_ne (by omega), up2_ne (by omega), up2_ne (by omega)]
  · refine ⟨⟨v.1.1, v.1.2.1, by show V 0 2 + 1 ≤ 6; omega⟩, v.2.1, v.2.2.1, v.2.2.2.1, fun l hl => ?_⟩
    have hl : l < V 0 2 + 1 := hl
    show up2 V 5 (V 0 2) a 5 l < 6 ∧ 1 ≤ up2 V 6 (V 0 2) b 6 l ∧ up2 V 6 (V 0 2) b 6 l ≤ 16 ∧ up2 V 7 (V 0 2) 1 7 l ≤ 1
    by_cases e : l = V 0 2
    · subst e; rw [u_at, u_at, u_at]; exact ⟨ha, hb1, by omega, by omega⟩
    · rw [u_ne e, u_ne e, u_ne e]; exact v.2.2.2.2 l (by omega)
  · refine ⟨⟨rn.1.1, rn.1.2.1, rfl⟩, rn.2.1, rn.2.2.1, rn.2.2.2.1, fun l hl => ?_⟩
    have hl : l < V 0 2 + 1 := hl
    show up2 h.1 19 (V 0 2) (nI a) 19 l = nI (up2 V 5 (V 0 2) a 5 l) ∧ up2 h.1 20 (V 0 2) (nI b) 20 l = nI (up2 V 6 (V 0 2) b 6 l) ∧ up2 h.1 21 (V 0 2) (nI 1) 21 l = nI (up2 V 7 (V 0 2) 1 7 l)
    by_cases e : l = V 0 2
    · subst e; simp only [u_at, and_self]
    · simp only [u_ne e]; exact rn.2.2.2.2 l (by omega)
  · have kn : ∀ q, q ≠ 60 + V 0 2 → q ≠ 66 + V 0 2 → q ≠ 72 + V 0 2 → q ≠ 2 → up2 (up2 (up2 (up2 (up2 (up2 (up2 (up2 h.1 19 (V 0 2) (nI a)) 20 (V 0 2) (nI b)) 21 (V 0 2) (nI 1)) 2 6 (nI (V 0 2 + 1))) 53 (60 + V 0 2) (nI a)) 53 (66 + V 0 2) (nI b)) 53 (72 + V 0 2) (nI 1)) 53 2 (nI (V 0 2 + 1)) 53 q = h.1 53 q := fun q h1 h2 h3 h4 => by rw [u_ne h4, u_ne h3, u_ne h2, u_ne h1]; rfl
    refine ⟨⟨(kn 0 (by omega) (by omega) (by omega) (by omega)).trans rm.1.1, (kn 1 (by omega) (by omega) (by omega) (by omega)).trans rm.1.2.1, rfl⟩, fun c hc => ?_, fun q hq => ?_, fun i hi => ?_, fun l hl => ?_⟩
    · have hc : c < V 0 0 := hc
      have hc0 := v.1.1
      exact ⟨(kn _ (by omega) (by omega) (by omega) (by omega)).trans (rm.2.1 c hc).1, (kn _ (by omega) (by omega) (by omega) (by omega)).trans (rm.2.1 c hc).2⟩
    · exact (kn _ (by omega) (by omega) (by omega) (by omega)).trans (rm.2.2.1 q hq)
    · have hi : i < V 0 1 := hi
      have hi0 := v.1.2.1
      exact (kn _ (by omega) (by omega) (by omega) (by omega)).trans (rm.2.2.2.1 i hi)
    · have hl : l < V 0 2 + 1 := hl
      by_cases e : l = V 0 2
      · subst e
        refine ⟨?_, ?_, ?_⟩
        · show up2 (up2 (up2 (up2 (up2 (up2 (up2 (up2 h.1 19 (V 0 2) (nI a)) 20 (V 0 2) (nI b)) 21 (V 0 2) (nI 1)) 2 6 (nI (V 0 2 + 1))) 53 (60 + V 0 2) (nI a)) 53 (66 + V 0 2) (nI b)) 53 (72 + V 0 2) (nI 1)) 53 2 (nI (V 0 2 + 1)) 53 (60 + V 0 2) = nI (up2 V 5 (V 0 2) a 5 (V 0 2))
          rw [u_ne (by omega), u_ne (by omega), u_ne (by omega), u_at, u_at]
        · show up2 (up2 (up2 (up2 (up2 (up2 (up2 (up2 h.1 19 (V 0 2) (nI a)) 20 (V 0 2) (nI b)) 21 (V 0 2) (nI 1)) 2 6 (nI (V 0 2 + 1))) 53 (60 + V 0 2) (nI a)) 53 (66 + V 0 2) (nI b)) 53 (72 + V 0 2) (nI 1)) 53 2 (nI (V 0 2 + 1)) 53 (66 + V 0 2) = nI (up2 V 6 (V 0 2) b 6 (V 0 2))
          rw [u_ne (by omega), u_ne (by omega), u_at, u_at]
        · show up2 (up2 (up2 (up2 (up2 (up2 (up2 (up2 h.1 19 (V 0 2) (nI a)) 20 (V 0 2) (nI b)) 21 (V 0 2) (nI 1)) 2 6 (nI (V 0 2 + 1))) 53 (60 + V 0 2) (nI a)) 53 (66 + V 0 2) (nI b)) 53 (72 + V 0 2) (nI 1)) 53 2 (nI (V 0 2 + 1)) 53 (72 + V 0 2) = nI (up2 V 7 (V 0 2) 1 7 (V 0 2))
          rw [u_ne (by omega), u_at, u_at]
      · have h1 := rm.2.2.2.2 l (by omega)
        refine ⟨(kn _ (by omega) (by omega) (by omega) (by omega)).trans ?_, (kn _ (by omega) (by omega) (by omega) (by omega)).trans ?_, (kn _ (by omega) (by omega) (by omega) (by omega)).trans ?_⟩
        · show _ = nI (up2 V 5 (V 0 2) a 5 l)
          rw [u_ne e]; exact h1.1
        · show _ = nI (up2 V 6 (V 0 2) b 6 l)
          rw [u_ne e]; exact h1.2.1
        · show _ = nI (up2 V 7 (V 0 2) 1 7 l)
          rw [u_ne e]; exact h1.2.2
end OPS3
