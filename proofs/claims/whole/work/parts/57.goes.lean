/-! orders: the reference's search; orders, lay -/
section GOE
variable {X : Xs} {h : Hp} {Q : Qt} {V : Vw} {n : Nat} {cs : Nat → Nat} {L : List Nat} {x y : Int32}
/-- the reference's loom, its rows aside -/
def RB (V : Vw) (f : Nat → Nat → Int32) : Prop := (f 53 0 = nI (V 0 0) ∧ f 53 2 = nI (V 0 2)) ∧ (∀ c, c < V 0 0 → f 53 (4 + c) = nI (V 1 c) ∧ f 53 (14 + c) = nI (V 2 c)) ∧ (∀ t, t < 16 → f 53 (24 + t) = nI (V 3 t)) ∧ (∀ l, l < V 0 2 → f 53 (60 + l) = nI (V 5 l) ∧ f 53 (66 + l) = nI (V 6 l) ∧ f 53 (72 + l) = nI (V 7 l))
theorem rb_rm {g : Nat → Nat → Int64} {f : Nat → Nat → Int32} (r : RM V (f, g) 53) : RB V f := ⟨⟨r.1.1, r.1.2.2⟩, r.2.1, r.2.2.1, r.2.2.2.2⟩
theorem rb_cg {f g : Nat → Nat → Int32} (v : okV V) (r : RB V f) (e : ∀ j, j ≠ 1 → ¬ (40 ≤ j ∧ j < 60) → g 53 j = f 53 j) : RB V g := by
  have h1 := v.1
  refine ⟨⟨(e 0 (by decide) (by omega)).trans r.1.1, (e 2 (by decide) (by omega)).trans r.1.2⟩, fun c hc => ⟨(e _ (by omega) (by omega)).trans (r.2.1 c hc).1, (e _ (by omega) (by omega)).trans (r.2.1 c hc).2⟩, fun t ht => (e _ (by omega) (by omega)).trans (r.2.2.1 t ht), fun l hl => ⟨(e _ (by omega) (by omega)).trans (r.2.2.2 l hl).1, (e _ (by omega) (by omega)).trans (r.2.2.2 l hl).2.1, (e _ (by omega) (by omega)).trans (r.2.2.2 l hl).2.2⟩⟩
theorem rm_rb {g : Nat → Nat → Int64} {f : Nat → Nat → Int32} (r : RB V f) (r1 : f 53 1 = nI n) (r40 : ∀ i, i < n → f 53 (40 + i) = nI (cs (gt L i))) : RM (OV V n cs L) (f, g) 53 := by
  refine ⟨⟨r.1.1, r1, r.1.2⟩, fun c hc => ?_, fun t ht => ?_, r40, fun l hl => ?_⟩
  · rw [OV_o (a := 1) (by decide) (by decide), OV_o (a := 2) (by decide) (by decide)]
    exact r.2.1 c hc
  · rw [OV_o (a := 3) (by decide) (by decide)]
    exact r.2.2.1 t ht
  · rw [OV_o (a := 5) (by decide) (by decide), OV_o (a := 6) (by decide) (by decide), OV_o (a := 7) (by decide) (by decide)]
    exact r.2.2.2 l hl
theorem t_goes (v : okV V) (rb : RB V h.1) {a u : Nat} (ha : a < 2 ^ V 0 0) (hu : u < 2 ^ 31) (en : popF a 10 = n) (ec : csF a 10 = cs) (hn : n ≤ 6) (co : csOk n cs) (hc : ∀ j, j < n → cs j < V 0 0) (A : gtN V n cs (fac n) ≤ u → ∀ f : Nat → Nat → Int32, (∀ c, c ≠ 53 → c ≠ 58 → c ≠ 61 → f c = h.1 c) → Q (some (.int (nI (gtN V n cs (fac n))))) (f, h.2)) (B : ∀ t, t < fac n → goP V n cs t → gtN V n cs t = u → ∀ f : Nat → Nat → Int32, RM (OV V n cs (LL n t)) (f, h.2) 53 → (∀ c, c ≠ 53 → c ≠ 58 → c ≠ 61 → f c = h.1 c) → Q (some (.int (nI (u + 1)))) (f, h.2)) : Go X m_X7_goesThrough 0 [.ref 1, .int (nI a), .int (nI u), .null, .null, .null, .null] [] h Q := by
  have h1 := v.1
  have fb := fac_b hn
  have a10 : a < 1024 := Nat.lt_of_lt_of_le ha (Nat.pow_le_pow_right (n := 2) (by decide) h1.1)
  have e10 : V 0 0 + (10 - V 0 0) = 10 := by omega
  obtain ⟨g1, g2⟩ := cs_end (a := a) (q := V 0 0) (10 - V 0 0) (fun i i1 _ => bt_hi ha i1)
  rw [e10] at g1 g2
  refine vc_ok (st := [5]) 100 ?_
  suffices hh : ∀ k, k ≤ V 0 0 → ∀ f : Nat → Nat → Int32, (∀ j, j < popF a k → f 61 j = nI (csF a k j)) → (∀ c, c ≠ 61 → f c = h.1 c) → Go X m_X7_goesThrough 5 [.ref 1, .int (nI a), .int (nI u), .int (nI (popF a k)), .int (nI k), .null, .null] [] (f, h.2) Q from hh 0 (by omega) h.1 (fun j hj => absurd hj (by show ¬ j < 0; omega)) (fun _ _ => rfl)
  refine down _ (V 0 0) ?_ ?_
  case refine_2 =>
    intro k hk ih f f61 fo
    have m := pf_mono a (k + 1) (10 - (k + 1))
    rw [show k + 1 + (10 - (k + 1)) = 10 by omega, pf_s] at m
    have e0 : f 53 0 = nI (V 0 0) := by rw [fo 53 (by decide)]; exact rb.1.1
    by_cases b : bt a k = 1
    · have nx := ih (up2 f 61 (popF a k) (nI k)) (fun j hj => by
        rw [pf_s, b] at hj
        rw [cs_1 b]
        by_cases ej : j = popF a k
        · subst ej
          rw [u_at]
          simp only [if_true]
        · rw [u_ne ej]
          simp only [if_neg ej]
          exact f61 j (by omega)) (fun c c1 => by rw [up2_ne c1]; exact fo c c1)
      rw [pf_s, b, ← nI_1, ← nI_1] at nx
      exact vc_ok (st := [5]) 100 ⟨0, rfl, by decide, br_f (nle_of e0 hk (by omega)) (brn_f (show nI a >>> (nI k &&& 31) &&& 1 = 1 by rw [bitN (by omega) (by omega), b]; rfl) ⟨popF a k, rfl, by omega, nx⟩)⟩
    · have nx := ih f (fun j hj => by rw [cs_0 b]; rw [pf_s, bt01 b] at hj; exact f61 j hj) fo
      rw [pf_s, bt01 b, Nat.add_zero, ← nI_1] at nx
      refine vc_ok (st := [5]) 100 ⟨0, rfl, by decide, br_f (nle_of e0 hk (by omega)) (brn_t ?_ nx)⟩
      show ¬ nI a >>> (nI k &&& 31) &&& 1 = 1
      rw [bitN (by omega) (by omega), bt01 b]
      decide
  intro f f61 fo
  have e0 : f 53 0 = nI (V 0 0) := by rw [fo 53 (by decide)]; exact rb.1.1
  rw [← g1, ← g2, en, ec] at f61
  rw [← g2, en]
  refine vc_ok (st := [49]) 100 ⟨0, rfl, by decide, br_t (le_of e0) ?_⟩
  -- the main loop
  suffices mm : ∀ t, t ≤ fac n → t < fac n → ∀ (l6 : Value) (f : Nat → Nat → Int32), RB V f → gtN V n cs t ≤ u → AR f 61 n cs (LL n t) → (∀ c, c ≠ 53 → c ≠ 58 → c ≠ 61 → f c = h.1 c) → Go X m_X7_goesThrough 49 [.ref 1, .int (nI a), .int (nI u), .int (nI n), .int (nI (gtN V n cs t)), .int 1, l6] [] (f, h.2) Q from mm 0 (Nat.zero_le _) (by omega) _ f (rb_cg v rb (fun j _ _ => by rw [fo 53 (by decide)])) (Nat.zero_le _) (fun j hj => by rw [LL_0 hj]; exact f61 j hj) (fun c c1 _ c3 => fo c c3)
  refine down _ (fac n) (fun z => absurd z (by omega)) ?_
  intro t ht ih _ l6 f rf tu ar fo
  have al := LL_al n t
  have tl := gt_le V n cs t
  have tl2 := gt_le V n cs (t + 1)
  refine vc_ok (st := [70]) 100 (br_f (by decide) (br_f (nI_nlt (by omega) (by omega)) ⟨1, rfl, by decide, ?_⟩))
  -- the order is laid
  suffices hh : ∀ i, i ≤ n → ∀ k : Nat → Nat → Int32, k 53 1 = nI n → (∀ j, j < i → k 53 (40 + j) = nI (cs (gt (LL n t) j))) → (∀ j, j ≠ 1 → ¬ (40 ≤ j ∧ j < 60) → k 53 j = f 53 j) → (∀ c, c ≠ 53 → k c = f c) → Go X m_X7_goesThrough 70 [.ref 1, .int (nI a), .int (nI u), .int (nI n), .int (nI (gtN V n cs t)), .int 1, .int (nI i)] [] (k, h.2) Q from hh 0 (Nat.zero_le _) (up2 f 53 1 (nI n)) u_at (fun j hj => absurd hj (by omega)) (fun j j1 _ => u_ne j1) (fun c c1 => up2_ne c1)
  refine down _ n ?_ ?_
  case refine_2 =>
    intro i hi ihi k k1 k40 kj kc
    have e61 : k 61 i = nI (cs (gt (LL n t) i)) := by rw [kc 61 (by decide)]; exact ar i hi
    have nx := ihi (up2 k 53 (40 + i) (k 61 i)) (by rw [u_ne (by omega)]; exact k1) (allS (fun j hj => by rw [u_ne (by omega)]; exact k40 j hj) (by rw [u_at]; exact e61)) (fun j j1 j2 => by rw [u_ne (by omega)]; exact kj j j1 j2) (fun c c1 => by rw [up2_ne c1]; exact kc c c1)
    rw [← nI_1] at nx
    exact vc_ok (st := [70]) 100 (br_f (nI_ge hi (by omega)) ⟨i, rfl, by omega, 40 + i, nI_add 40 i, by omega, nx⟩)
  intro k k1 k40 kj kc
  have rk : RM (OV V n cs (LL n t)) (k, h.2) 53 := rm_rb (rb_cg v rf kj) k1 k40
  refine vg (br_t (Int32.le_refl _) (t_firstBrokenM (ov_ok v hn hc al) rk (fun r hr f2 e2 => ?_)))
  have e2 : ∀ c, c ≠ 58 → f2 c = k c := e2
  have r2 : RM (OV V n cs (LL n t)) (f2, h.2) 53 := rm_cg rk (e2 53 (by decide))
  have rb2 : RB V f2 := rb_cg v rf (fun j j1 j2 => by rw [e2 53 (by decide)]; exact kj j j1 j2)
  have fr : ∀ c, c ≠ 53 → c ≠ 58 → c ≠ 61 → f2 c = h.1 c := fun c c1 c2 c3 => (e2 c c2).trans ((kc c c1).trans (fo c c1 c2 c3))
  have ar2 : AR f2 61 n cs (LL n t) := by unfold AR; rw [e2 61 (by decide), kc 61 (by decide)]; exact ar
  -- behind the counting
  have go : gtN V n cs (t + 1) ≤ u → Go X m_X7_goesThrough 116 [.ref 1, .int (nI a), .int (nI u), .int (nI n), .int (nI (gtN V n cs (t + 1))), .int 1, .int (nI n)] [] (f2, h.2) Q := by
    intro cu
    refine vg (br_f (nI_nlt (by omega) (by omega)) (t_nextLine hn al co ar2 (fun rz f3 a3 e3 => ?_) (fun rz => ?_)))
    · have e3 : ∀ c, c ≠ 61 → f3 c = f2 c := e3
      have lt : t + 1 < fac n := by
        rcases Nat.lt_or_ge (t + 1) (fac n) with z | z
        · exact z
        · have : t = fac n - 1 := by omega
          exact absurd (by rw [this]; exact (LL_ok hn).2) rz
      exact vc_ok (st := [49]) 100 (br_f (by decide) (ih lt _ f3 (rb_cg v rb2 (fun j _ _ => by rw [e3 53 (by decide)])) cu a3 (fun c c1 c2 c3 => (e3 c c3).trans (fr c c1 c2 c3))))
    · have lt : t + 1 = fac n := by
        rcases Nat.lt_or_ge (t + 1) (fac n) with z | z
        · exact absurd rz ((LL_ok hn).1 t (by omega))
        · omega
      refine vg (br_t rfl (br_t rfl ?_))
      rw [lt] at cu ⊢
      exact A cu f2 fr
  rcases go_fb v hr with ⟨gp, rfl⟩ | ⟨gp, r0⟩
  · refine vc_ok (st := [116]) 100 (br_f (by decide) ?_)
    show Go X m_X7_goesThrough 116 [.ref 1, .int (nI a), .int (nI u), .int (nI n), .int (nI (gtN V n cs t) + 1), .int 1, .int (nI n)] [] (f2, h.2) Q
    rw [nI_1, ← gt_1 gp]
    rcases Nat.lt_or_ge u (gtN V n cs (t + 1)) with cu | cu
    · have eu : gtN V n cs t = u := by rw [gt_1 gp] at cu; omega
      refine vg (br_t (nI_lt cu (by omega)) (br_t rfl ?_))
      rw [gt_1 gp, eu]
      exact B t ht gp eu f2 r2 fr
    · exact go cu
  · refine vc_ok (st := [116]) 100 (br_t r0 ?_)
    show Go X m_X7_goesThrough 116 [.ref 1, .int (nI a), .int (nI u), .int (nI n), .int (nI (gtN V n cs t) + nI 0), .int 1, .int (nI n)] [] (f2, h.2) Q
    rw [nI_add, Nat.add_zero, ← gt_0 gp]
    exact go (by rw [gt_0 gp]; exact tu)
end GOE
