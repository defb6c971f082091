section OPS2
variable {X : Xs} {h : Hp} {x y : Int32}
theorem u_ne {α : Type} {f : Nat → Nat → α} {a p q : Nat} {v : α} (e : q ≠ p) : up2 f a p v a q = f a q := by simp [up2, e]
theorem u_at {α : Type} {f : Nat → Nat → α} {a p : Nat} {v : α} : up2 f a p v a p = v := by simp [up2]
theorem in7 (I : Inv h) {f : Nat → Nat → Int32} (hf : ∀ q, live q → q ≠ 2 → q ≠ 53 → ¬ (15 ≤ q ∧ q ≤ 21) → f q = h.1 q) (g0 : f 0 9 = h.1 0 9) (g1 : f 1 3 = h.1 1 3) (g2 : f 8 0 = h.1 8 0) (g3 : f 1 6 = h.1 1 6) {V : Vw} (v : okV V) (rn : RN V (f, h.2)) (rm : RM V (f, h.2) 53) : Inv (f, h.2) := by
  obtain ⟨-, -, -, -, ik, ir, it, is⟩ := I
  refine ⟨V, v, rn, rm, ik_cg ik g0 g1 ?_, ir_cg ir ?_ ?_, it_cg it g2 g3 ?_ ?_, is_cg is ?_ (fun q hq => rfl)⟩
  all_goals first
    | exact hf _ (by unfold live; omega) (by omega) (by omega) (by omega)
    | exact fun q hq => hf q (by unfold live; omega) (by omega) (by omega) (by omega)
theorem op_tie (I : Inv h) : Both X m_X6_tie m_X7_tie [.ref 0, .int x, .int y, .null] [.ref 1, .int x, .int y, .null] h := by
  obtain ⟨V, v, rn, rm, ik, ir, it, is⟩ := id I
  unfold Both
  by_cases p1 : 0 ≤ x.toInt ∧ x.toInt < 16
  case neg =>
    refine vg (t_isThread (fun z => absurd z p1) (fun _ => vg (br_t rfl (t_refuse 0 (by decide) (by decide) ?_))))
    refine vg (vg (t_inI 0 15 rfl rfl (fun z => absurd (by omega) p1) (fun _ => vg (br_t rfl (t_findsN 0 (by decide) rfl ?_)))))
    exact vg ⟨rfl, inv_ref I (by decide)⟩
  by_cases p2 : 0 ≤ y.toInt ∧ y.toInt < 8
  case neg =>
    refine vg (t_isThread (fun _ => vg (br_f (by decide) (t_isHook (fun z => absurd z p2) (fun _ => vg (brn_f rfl (t_refuse 0 (by decide) (by decide) ?_)))))) (fun z => absurd p1 z))
    refine vg (vg (t_inI 0 15 rfl rfl (fun _ => vg (br_f (by decide) (t_inI 0 7 rfl rfl (fun z => absurd (by omega) p2) (fun _ => vg (brn_f rfl (t_findsN 0 (by decide) rfl ?_)))))) (fun z => absurd (by omega) z)))
    exact vg ⟨rfl, inv_ref I (by decide)⟩
  obtain ⟨t, ht, rfl⟩ := nI_ex (n := 16) p1.1 (by omega) (by decide)
  obtain ⟨k, hk, rfl⟩ := nI_ex (n := 8) p2.1 (by omega) (by decide)
  refine vg (t_isThread (fun _ => vg (br_f (by decide) (t_isHook (fun _ => vg (brn_t (by decide) ⟨t, rfl, ht, t, rfl, ht, ?_⟩)) (fun z => absurd p2 z)))) (fun z => absurd p1 z))
  refine vg (t_inI 0 15 rfl rfl (fun _ => vg (br_f (by decide) (t_inI 0 7 rfl rfl (fun _ => vg (brn_t (by decide) ⟨24 + t, nI_add 24 t, by omega, 24 + t, nI_add 24 t, by omega, ?_⟩)) (fun z => absurd (by omega) z)))) (fun z => absurd (by omega) z))
  refine ⟨?_, ?_⟩
  · show some (Value.int (h.1 53 (24 + t))) = some (Value.int (h.1 17 t))
    rw [rm.2.2.1 t ht, rn.2.2.1 t ht]
  refine in7 (V := up2 V 3 t k) I (fun q _ h1 h2 h3 => ?_) rfl rfl rfl rfl ?_ ?_ ?_
  · rw [up2_ne h2]; show up2 h.1 17 t (nI k) q = h.1 q; exact up2_ne (by omega)
  · refine ⟨v.1, v.2.1, fun q hq => ?_, v.2.2.2⟩
    by_cases e : q = t
    · subst e; rw [u_at]; exact hk
    · rw [u_ne e]; exact v.2.2.1 q hq
  · refine ⟨rn.1, rn.2.1, fun q hq => ?_, rn.2.2.2⟩
    show up2 h.1 17 t (nI k) 17 q = nI (up2 V 3 t k 3 q)
    by_cases e : q = t
    · subst e; rw [u_at, u_at]
    · rw [u_ne e, u_ne e]; exact rn.2.2.1 q hq
  · have key : ∀ q, q ≠ 24 + t → up2 (up2 h.1 17 t (nI k)) 53 (24 + t) (nI k) 53 q = h.1 53 q := fun q hq => by rw [u_ne hq]; rfl
    refine ⟨⟨(key 0 (by omega)).trans rm.1.1, (key 1 (by omega)).trans rm.1.2.1, (key 2 (by omega)).trans rm.1.2.2⟩, fun c hc => ?_, fun q hq => ?_, fun i hi => ?_, fun l hl => ?_⟩
    · have h1 : c < V 0 0 := hc
      have h2 := v.1.1
      exact ⟨(key _ (by omega)).trans (rm.2.1 c h1).1, (key _ (by omega)).trans (rm.2.1 c h1).2⟩
    · by_cases e : q = t
      · subst e
        show up2 _ 53 (24 + q) _ 53 (24 + q) = nI (up2 V 3 q k 3 q)
        rw [u_at, u_at]
      · refine (key _ (by omega)).trans ?_
        show _ = nI (up2 V 3 t k 3 q)
        rw [u_ne e]; exact rm.2.2.1 q hq
    · exact (key _ (by omega)).trans (rm.2.2.2.1 i hi)
    · exact ⟨(key _ (by omega)).trans (rm.2.2.2.2 l hl).1, (key _ (by omega)).trans (rm.2.2.2.2 l hl).2.1, (key _ (by omega)).trans (rm.2.2.2.2 l hl).2.2⟩
theorem op_tied (I : Inv h) : Both X m_X6_tied m_X7_tied [.ref 0, .int x] [.ref 1, .int x] h := by
  obtain ⟨V, v, rn, rm, ik, ir, it, is⟩ := id I
  unfold Both
  by_cases p1 : 0 ≤ x.toInt ∧ x.toInt < 16
  case neg =>
    refine vg (t_isThread (fun z => absurd z p1) (fun _ => vg (brn_f rfl (t_refuse 0 (by decide) (by decide) ?_))))
    refine vg (vg (t_inI 0 15 rfl rfl (fun z => absurd (by omega) p1) (fun _ => vg (br_t rfl (t_findsN 0 (by decide) rfl ?_)))))
    exact vg ⟨rfl, inv_ref I (by decide)⟩
  obtain ⟨t, ht, rfl⟩ := nI_ex (n := 16) p1.1 (by omega) (by decide)
  refine vg (t_isThread (fun _ => vg (brn_t (by decide) ⟨t, rfl, ht, ?_⟩)) (fun z => absurd p1 z))
  refine vg (t_inI 0 15 rfl rfl (fun _ => vg (br_f (by decide) ⟨24 + t, nI_add 24 t, by omega, ?_⟩)) (fun z => absurd (by omega) z))
  refine ⟨?_, I⟩
  show some (Value.int (h.1 53 (24 + t))) = some (Value.int (h.1 17 t))
  rw [rm.2.2.1 t ht, rn.2.2.1 t ht]
theorem op_woven (I : Inv h) : Both X m_X6_woven m_X7_woven [.ref 0, .int x] [.ref 1, .int x] h := by
  obtain ⟨V, v, rn, rm, ik, ir, it, is⟩ := id I
  unfold Both
  by_cases p1 : 0 ≤ x.toInt ∧ x.toInt < V 0 1
  case neg =>
    refine vg (t_hasRow v.1.2.1 rn.1.2.1 (fun z => absurd z p1) (fun _ => vg (brn_f rfl (t_refuse 0 (by decide) (by decide) ?_))))
    refine vg (vg (t_isRow v.1.2.1 rm.1.2.1 (fun z => absurd z p1) (fun _ => vg (br_t rfl (t_findsN 0 (by decide) rfl ?_)))))
    exact vg ⟨rfl, inv_ref I (by decide)⟩
  have hr := v.1.2.1
  obtain ⟨t, ht, rfl⟩ := nI_ex (n := V 0 1) p1.1 (by omega) (by omega)
  refine vg (t_hasRow v.1.2.1 rn.1.2.1 (fun _ => vg (brn_t (by decide) ⟨t, rfl, by omega, ?_⟩)) (fun z => absurd p1 z))
  refine vg (t_isRow v.1.2.1 rm.1.2.1 (fun _ => vg (br_f (by decide) ⟨40 + t, nI_add 40 t, by omega, ?_⟩)) (fun z => absurd p1 z))
  refine ⟨?_, I⟩
  show some (Value.int (h.1 53 (40 + t))) = some (Value.int (h.1 18 t))
  rw [rm.2.2.2.1 t ht, rn.2.2.2.1 t ht]
end OPS2
