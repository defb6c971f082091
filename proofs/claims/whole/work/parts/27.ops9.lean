section OPS9
variable {X : Xs} {h : Hp} {x y z : Int32} {Q : Qt}
theorem rm_copy {V : Vw} (v : okV V) {f : Nat → Nat → Int32} {g : Nat → Nat → Int64} {to fr : Nat} (r : RM V (f, g) fr) : RM V (cpK f to fr 80, g) to := by
  have k : ∀ q, q < 80 → cpK f to fr 80 to q = f fr q := fun q hq => cpK_lt hq
  have v1 := v.1
  refine ⟨⟨(k 0 (by omega)).trans r.1.1, (k 1 (by omega)).trans r.1.2.1, (k 2 (by omega)).trans r.1.2.2⟩, fun c hc => ⟨(k _ (by omega)).trans (r.2.1 c hc).1, (k _ (by omega)).trans (r.2.1 c hc).2⟩, fun t ht => (k _ (by omega)).trans (r.2.2.1 t ht), fun i hi => (k _ (by omega)).trans (r.2.2.2.1 i hi), fun l hl => ⟨(k _ (by omega)).trans (r.2.2.2.2 l hl).1, (k _ (by omega)).trans (r.2.2.2.2 l hl).2.1, (k _ (by omega)).trans (r.2.2.2.2 l hl).2.2⟩⟩
theorem op_image (I : Inv h) : Both X m_X6_image m_X7_image [.ref 0] [.ref 1] h := by
  obtain ⟨V, v, rn, rm, ik, ir, it, is⟩ := id I
  unfold Both
  refine vg (t_become_3_2 v rn (fun f r1 r2 => vg ⟨Or.inr rfl, ?_⟩))
  have F : ∀ c, c ≠ 3 → ¬ (22 ≤ c ∧ c ≤ 28) → f c = h.1 c := fun c a b => r2 c ⟨a, b⟩
  refine vg (t_copies_53_55 (vg ⟨Or.inr rfl, rfl, ?_⟩))
  have K : ∀ c, (c ≠ 0 ∧ c ≠ 1 ∧ c ≠ 55 ∧ c ≠ 3 ∧ ¬ (22 ≤ c ∧ c ≤ 28)) → up2 (cpK (up2 f 0 9 1) 55 53 80) 1 3 1 c = h.1 c := fun c q => by rw [up2_ne q.2.1, cpK_ne q.2.2.1, up2_ne q.1, F c q.2.2.2.1 q.2.2.2.2]
  have K2 : ∀ c, (c ≠ 0 ∧ c ≠ 1 ∧ c ≠ 55) → up2 (cpK (up2 f 0 9 1) 55 53 80) 1 3 1 c = f c := fun c q => by rw [up2_ne q.2.1, cpK_ne q.2.2, up2_ne q.1]
  have r53 : RM V (up2 f 0 9 1, h.2) 53 := rm_cg rm (F 53 (by decide) (by decide))
  have e16 : up2 (cpK (up2 f 0 9 1) 55 53 80) 1 3 1 1 6 = h.1 1 6 := by
    rw [u_ne (by decide), cpK_ne (by decide), up2_ne (by decide), F 1 (by decide) (by decide)]
  show Inv (up2 (cpK (up2 f 0 9 1) 55 53 80) 1 3 1, h.2)
  exact ⟨V, v, rc_cg rn (K 2 (by omega)) (K 15 (by omega)) (K 16 (by omega)) (K 17 (by omega)) (K 18 (by omega)) (K 19 (by omega)) (K 20 (by omega)) (K 21 (by omega)), rm_cg rm (K 53 (by omega)), Or.inr ⟨rfl, rfl, V, v, rc_cg r1 (K2 3 (by omega)) (K2 22 (by omega)) (K2 23 (by omega)) (K2 24 (by omega)) (K2 25 (by omega)) (K2 26 (by omega)) (K2 27 (by omega)) (K2 28 (by omega)), rm_cg (h := (cpK (up2 f 0 9 1) 55 53 80, h.2)) (rm_copy v r53) rfl⟩, ir_cg ir (K 14 (by omega)) (K 56 (by omega)), it_cg it (congrFun (K 8 (by omega)) 0) e16 (K 48 (by omega)) (K 57 (by omega)), is_cg is (fun q hq => K q (by omega)) (fun q hq => rfl)⟩
theorem op_undo (I : Inv h) : Both X m_X6_undo m_X7_undo [.ref 0] [.ref 1] h := by
  obtain ⟨V, v, rn, rm, ik, ir, it, is⟩ := id I
  unfold Both
  rcases ik with ⟨a, b⟩ | ⟨a, b, K', k1, k2, k3⟩
  · refine vg (brn_f a (t_refuse 3 (by decide) (by decide) ?_))
    refine vg (vg (brn_f b (t_findsN 3 (by decide) rfl ?_)))
    exact vg ⟨rfl, inv_ref I (by decide)⟩
  · refine vg (brn_t (by rw [a]; decide) (t_become_2_3 k1 k2 (fun f r1 r2 => vg ?_)))
    have F : ∀ c, c ≠ 2 → ¬ (15 ≤ c ∧ c ≤ 21) → f c = h.1 c := fun c a b => r2 c ⟨a, b⟩
    have fb : f 1 3 = 1 := (congrFun (F 1 (by decide) (by decide)) 3).trans b
    refine vg (brn_t (by show ¬ f 1 3 = 0; rw [fb]; decide) (t_copies_55_53 (vg ⟨0, rfl, by decide, ?_, ?_⟩)))
    · show some (Value.int (cpK f 53 55 80 53 0)) = some (Value.int (f 2 0))
      have e2 : f 2 0 = nI (K' 0 0) := r1.1.1
      rw [cpK_lt (by decide), e2]
      have : f 55 0 = h.1 55 0 := congrFun (F 55 (by decide) (by decide)) 0
      rw [this, k3.1.1]
    have K : ∀ c, (c ≠ 53 ∧ c ≠ 2 ∧ ¬ (15 ≤ c ∧ c ≤ 21)) → cpK f 53 55 80 c = h.1 c := fun c q => by rw [cpK_ne q.1, F c q.2.1 q.2.2]
    have K2 : ∀ c, c ≠ 53 → cpK f 53 55 80 c = f c := fun c q => cpK_ne q
    have r55 : RM K' (f, h.2) 55 := rm_cg k3 (F 55 (by decide) (by decide))
    show Inv (cpK f 53 55 80, h.2)
    exact ⟨K', k1, rc_cg r1 (K2 2 (by omega)) (K2 15 (by omega)) (K2 16 (by omega)) (K2 17 (by omega)) (K2 18 (by omega)) (K2 19 (by omega)) (K2 20 (by omega)) (K2 21 (by omega)), rm_copy k1 r55, Or.inr ⟨(congrFun (K 0 (by omega)) 9).trans a, (congrFun (K 1 (by omega)) 3).trans b, K', k1, rc_cg k2 (K 3 (by omega)) (K 22 (by omega)) (K 23 (by omega)) (K 24 (by omega)) (K 25 (by omega)) (K 26 (by omega)) (K 27 (by omega)) (K 28 (by omega)), rm_cg k3 (K 55 (by omega))⟩, ir_cg ir (K 14 (by omega)) (K 56 (by omega)), it_cg it (congrFun (K 8 (by omega)) 0) (congrFun (K 1 (by omega)) 6) (K 48 (by omega)) (K 57 (by omega)), is_cg is (fun q hq => K q (by omega)) (fun q hq => rfl)⟩
end OPS9
