/-! orders, lay -/
section LAY
variable {X : Xs} {h : Hp} {Q : Qt} {V : Vw} {n : Nat} {cs : Nat → Nat} {L : List Nat} {x y : Int32}
theorem rb_54 {k : Nat → Nat → Int32} (v : okV V) (r : RB V k) : RB V (cpK k 54 53 80) := rb_cg v r (fun j _ _ => by rw [cpK_ne (by decide)])
theorem x_nI (x : Int32) : x = nI x.toBitVec.toNat := by
  apply Int32.toBitVec_inj.mp
  rw [nI_bv]
  exact BitVec.eq_of_toNat_eq (by rw [BitVec.toNat_ofNat, Nat.mod_eq_of_lt x.toBitVec.isLt])
theorem nI_inj0 {a : Nat} (h : a < 2 ^ 32) (e : nI a = 0) : a = 0 := by
  have := pk_tn h
  rw [e] at this
  exact this.symm
theorem div_0 {s m : Nat} (h : s < 2 ^ m) : s / 2 ^ m = 0 := Nat.div_eq_of_lt h
theorem div_1 {s m : Nat} (h : ¬ s < 2 ^ m) : 0 < s / 2 ^ m := Nat.div_pos (Nat.le_of_not_lt h) (Nat.two_pow_pos m)
theorem t_hasCards {m : Nat} (hm : m ≤ 10) (h0 : h.1 2 0 = nI m) (a : ∀ s, s < 2 ^ m → x = nI s → Q (some (.int 1)) h) (b : (∀ s, s < 2 ^ m → x ≠ nI s) → Q (some (.int 0)) h) : Go X m_X1_hasCards 0 [.ref 2, .int x] [] h Q := by
  have hx := x_nI x
  have hl : x.toBitVec.toNat < 2 ^ 32 := x.toBitVec.isLt
  generalize x.toBitVec.toNat = s at hx hl
  subst hx
  have p10 : 2 ^ m ≤ 1024 := Nat.pow_le_pow_right (n := 2) (by decide) hm
  have e : ((nI s).toUInt32 >>> ((h.1 2 0).toUInt32 &&& Int32.toUInt32 31)).toInt32 = nI (s / 2 ^ m) := by
    rw [h0]
    exact ushrN hl (by omega)
  by_cases c : s < 2 ^ m
  · refine vg (brn_f ?_ ⟨Or.inr rfl, a s c rfl⟩)
    show ((nI s).toUInt32 >>> ((h.1 2 0).toUInt32 &&& Int32.toUInt32 31)).toInt32 = 0
    rw [e, div_0 c]
    rfl
  · refine vg (brn_t ?_ ⟨Or.inl rfl, b (fun t ht z => ?_)⟩)
    · show ¬ ((nI s).toUInt32 >>> ((h.1 2 0).toUInt32 &&& Int32.toUInt32 31)).toInt32 = 0
      rw [e]
      intro z
      have := nI_inj0 (Nat.lt_of_le_of_lt (Nat.div_le_self _ _) hl) z
      have := div_1 c
      omega
    · have z1 := congrArg (fun z : Int32 => z.toBitVec.toNat) z
      have z1 : (nI s).toBitVec.toNat = (nI t).toBitVec.toNat := z1
      rw [pk_tn hl, pk_tn (by omega)] at z1
      omega
theorem t_whyNot {m : Nat} (hm : m ≤ 10) (h0 : h.1 53 0 = nI m) (a : ∀ s, s < 2 ^ m → x = nI s → pop s ≤ 6 → Q (some (.int (-1))) h) (a' : ∀ s, s < 2 ^ m → x = nI s → 6 < pop s → Q (some (.int (nI 6))) h) (b : (∀ s, s < 2 ^ m → x ≠ nI s) → Q (some (.int (nI 0))) h) : Go X m_X7_whyNot 0 [.ref 1, .int x] [] h Q := by
  have p10 : 2 ^ m ≤ 1024 := Nat.pow_le_pow_right (n := 2) (by decide) hm
  by_cases c0 : x < 0
  · exact vg (br_t c0 (b (fun s hs z => absurd c0 (by rw [z]; exact nI_pos (by omega)))))
  obtain ⟨s, hs, rfl⟩ := nI_of c0
  have e : nI s >>> (h.1 53 0 &&& 31) = nI (s / 2 ^ m) := by rw [h0]; exact shrN hs (by omega)
  by_cases c : s < 2 ^ m
  · refine vg (br_f c0 ⟨0, rfl, by decide, br_t (show nI s >>> (h.1 53 0 &&& 31) = 0 by rw [e, div_0 c]; rfl) (t_onesN hs ?_)⟩)
    have pl := popF_le s 16
    by_cases c6 : pop s ≤ 6
    · exact vg (br_t (nI_le c6 (by decide)) (a s c rfl c6))
    · exact vg (br_f (nI_ge (a := 6) (b := pop s) (Nat.lt_of_not_le c6) (by show popF s 16 < _; omega)) (a' s c rfl (by omega)))
  · refine vg (br_f c0 ⟨0, rfl, by decide, br_f (show ¬ nI s >>> (h.1 53 0 &&& 31) = 0 by
      rw [e]
      exact nI_ne0 (div_1 c) (Nat.lt_of_le_of_lt (Nat.div_le_self _ _) hs)) (b (fun t ht z => ?_))⟩)
    have := (nI_eq hs (by omega)).mp z
    omega
theorem pop_10 {s m : Nat} (hm : m ≤ 10) (hs : s < 2 ^ m) : popF s 10 = pop s ∧ (∀ j, j < popF s 10 → csF s 10 j < m) := by
  obtain ⟨g1, g2⟩ := cs_end (a := s) (q := m) (10 - m) (fun i i1 _ => bt_hi hs i1)
  obtain ⟨g3, g4⟩ := cs_end (a := s) (q := m) (16 - m) (fun i i1 _ => bt_hi hs i1)
  rw [show m + (10 - m) = 10 by omega] at g1 g2
  rw [show m + (16 - m) = 16 by omega] at g3 g4
  refine ⟨g2.trans g4.symm, fun j hj => ?_⟩
  rw [g2] at hj
  rw [g1]
  exact cs_lt s m j hj
theorem cs_co {s : Nat} : csOk (popF s 10) (csF s 10) := ⟨fun j hj => cs_lt s 10 j hj, fun i j => cs_mono s 10 i j⟩
/-- what is left behind the reference's search, its loom aside -/
theorem inv_ord (I : Inv h) (v : okV V) (rn : RN V h) {f g : Nat → Nat → Int32} (s : ∀ c, ¬ scr c → f c = h.1 c) (fr : ∀ c, ¬ scr c → c ≠ 53 → g c = f c) (rm : RM V (g, h.2) 53) : Inv (g, h.2) := inv_ways I v rn s ⟨fun c c0 _ c2 => fr c c0 c2, fun j _ _ => by rw [fr 1 (by unfold scr; omega) (by decide)]⟩ rm
theorem op_orders (I : Inv h) : Both X m_X6_orders m_X7_orders [.ref 0, .int x] [.ref 1, .int x, .null, .null] h := by
  obtain ⟨V, v, rn, rm, ik, ir, it, is⟩ := id I
  unfold Both
  have h1 := v.1
  have p10 : 2 ^ V 0 0 ≤ 1024 := Nat.pow_le_pow_right (n := 2) (by decide) h1.1
  refine vg (t_hasCards h1.1 rn.1.1 (fun s hs ex => ?_) (fun nx => ?_))
  case refine_2 =>
    refine vg (brn_f rfl (t_refuse 0 (by decide) (by decide) (vg (vg (t_whyNot h1.1 rm.1.1 (fun s hs e _ => absurd e (nx s hs)) (fun s hs e _ => absurd e (nx s hs)) (fun _ => vg (br_f (by decide) (t_findsN 0 (by decide) rfl ?_))))))))
    exact vg ⟨rfl, inv_ref I (by decide)⟩
  subst ex
  have uniq : ∀ t, t < 2 ^ V 0 0 → nI s = nI t → t = s := fun t ht e => ((nI_eq (by omega) (by omega)).mp e).symm
  have pl := popF_le s 16
  refine vg (brn_t (by decide) (t_bitCount (by omega) ?_))
  by_cases c6 : pop s ≤ 6
  case neg =>
    refine vg (br_f (nI_ge (a := 6) (b := pop s) (Nat.lt_of_not_le c6) (by show popF s 16 < _; omega)) (t_refuse 6 (by decide) (by decide) (vg (vg (t_whyNot h1.1 rm.1.1 (fun t ht e p => absurd p (by rw [uniq t ht e]; exact c6)) (fun t ht e p => vg (br_f (by decide) (t_findsN 6 (by decide) rfl ?_))) (fun z => absurd rfl (z s hs)))))))
    exact vg ⟨rfl, inv_ref I (by decide)⟩
  obtain ⟨e10, cl⟩ := pop_10 h1.1 hs
  have hn : popF s 10 ≤ 6 := by rw [e10]; exact c6
  have fb := fac_b hn
  have co := cs_co (s := s)
  generalize en : popF s 10 = n at *
  generalize ec : csF s 10 = cs at *
  refine vg (br_t (nI_le c6 (by decide)) (t_osearch v rn hs en ec hn co cl (fun f f0 f1 _ sf => vg ?_)))
  show BQ X m_X7_orders [.ref 1, .int (nI s), .null, .null] (some (.int (f 7 1))) (f, h.2)
  rw [f1]
  have tl := gt_le V n cs (fac n)
  have rmf : RM V (f, h.2) 53 := rm_scr rm sf
  refine vg (t_whyNot h1.1 rmf.1.1 (fun t ht e p => ?_) (fun t ht e p => absurd c6 (by rw [← uniq t ht e]; omega)) (fun z => absurd rfl (z s hs)))
  refine vg (br_t (by decide) (t_copies_53_54 (vg (t_goes (u := 1000) (h := (cpK f 54 53 80, h.2)) v (rb_54 v (rb_rm rmf)) hs (by decide) en ec hn co cl (fun _ g eg => ?_) (fun t ht gp et => absurd et (by have := gt_le V n cs t; omega))))))
  have eg : ∀ c, c ≠ 53 → c ≠ 58 → c ≠ 61 → g c = cpK f 54 53 80 c := eg
  refine vg (t_copies_54_53 (vg ⟨rfl, inv_ord (g := cpK g 53 54 80) I v rn sf (fun c c0 c1 => ?_) ?_⟩))
  · rw [cpK_ne c1, eg c c1 (fun z => c0 (by subst z; unfold scr; omega)) (fun z => c0 (by subst z; unfold scr; omega)), cpK_ne (fun z => c0 (by subst z; unfold scr; omega))]
  · exact rm_copy v (rm_cg (rm_copy v rmf) (by show g 54 = cpK f 54 53 80 54; exact eg 54 (by decide) (by decide) (by decide)))
theorem op_lay (I : Inv h) : Both X m_X6_lay m_X7_lay [.ref 0, .int x, .int y] [.ref 1, .int x, .int y, .null] h := by
  obtain ⟨V, v, rn, rm, ik, ir, it, is⟩ := id I
  unfold Both
  have h1 := v.1
  have p10 : 2 ^ V 0 0 ≤ 1024 := Nat.pow_le_pow_right (n := 2) (by decide) h1.1
  have z0 : ∀ {f : Nat → Nat → Int32} {Q : Qt}, RM V (f, h.2) 53 → (y < 0 ∨ ∀ s, s < 2 ^ V 0 0 → x ≠ nI s) → Go X m_X7_finds 0 [.ref 1, .int (nI 0)] [] (f, h.2) (fun v h' => Go X m_X7_lay 23 [.ref 1, .int x, .int y, .int (nI 0)] (pushO v []) h' Q) → Go X m_X7_lay 0 [.ref 1, .int x, .int y, .null] [] (f, h.2) Q := by
    intro f Q r p g
    by_cases c : 0 ≤ y
    · have p : ∀ s, s < 2 ^ V 0 0 → x ≠ nI s := by
        rcases p with z | z
        · exact absurd c (by rw [Int32.not_le]; exact z)
        · exact z
      exact vg (br_t c (t_whyNot h1.1 r.1.1 (fun s hs e _ => absurd e (p s hs)) (fun s hs e _ => absurd e (p s hs)) (fun _ => vg (br_f (by decide) g))))
    · exact vg (br_f c (br_f (by decide) g))
  refine vg (t_hasCards h1.1 rn.1.1 (fun s hs ex => ?_) (fun nx => ?_))
  case refine_2 =>
    refine vg (br_t rfl (t_refuse 0 (by decide) (by decide) (vg (z0 (f := up2 h.1 14 0 (h.1 14 0 + 1)) rm (Or.inr nx) (t_findsN 0 (by decide) rfl ?_)))))
    exact vg ⟨rfl, inv_ref I (by decide)⟩
  by_cases y0 : 0 ≤ y
  case neg =>
    refine vg (br_f (by decide) (br_f y0 (t_refuse 0 (by decide) (by decide) (vg (z0 (f := up2 h.1 14 0 (h.1 14 0 + 1)) rm (Or.inl (Int32.not_le.mp y0)) (t_findsN 0 (by decide) rfl ?_))))))
    exact vg ⟨rfl, inv_ref I (by decide)⟩
  obtain ⟨u, hu, rfl⟩ := nI_of (x := y) (by rw [Int32.not_lt]; exact y0)
  subst ex
  have uniq : ∀ t, t < 2 ^ V 0 0 → nI s = nI t → t = s := fun t ht e => ((nI_eq (by omega) (by omega)).mp e).symm
  have pl := popF_le s 16
  refine vg (br_f (by decide) (br_t y0 (t_bitCount (by omega) ?_)))
  by_cases c6 : pop s ≤ 6
  case neg =>
    refine vg (br_f (nI_ge (a := 6) (b := pop s) (Nat.lt_of_not_le c6) (by show popF s 16 < _; omega)) (t_refuse 6 (by decide) (by decide) (vg (vg (br_t y0 (t_whyNot h1.1 rm.1.1 (fun t ht e p => absurd p (by rw [uniq t ht e]; exact c6)) (fun t ht e p => vg (br_f (by decide) (t_findsN 6 (by decide) rfl ?_))) (fun z => absurd rfl (z s hs))))))))
    exact vg ⟨rfl, inv_ref I (by decide)⟩
  obtain ⟨e10, cl⟩ := pop_10 h1.1 hs
  have hn : popF s 10 ≤ 6 := by rw [e10]; exact c6
  have fb := fac_b hn
  have co := cs_co (s := s)
  generalize en : popF s 10 = n at *
  generalize ec : csF s 10 = cs at *
  have tl := gt_le V n cs (fac n)
  refine vg (br_t (nI_le c6 (by decide)) (t_osearch v rn hs en ec hn co cl (fun f f0 f1 f46 sf => ?_)))
  have f46 : ∀ j, j < fac n → goP V n cs j → nI (gtN V n cs j) = nI u → AR f 46 n cs (LL n j) := f46
  have rmf : RM V (f, h.2) 53 := rm_scr rm sf
  have rnf : RN V (f, h.2) := rn_scr rn sf
  -- the reference's way to its search
  have mod : ∀ {k : Nat → Nat → Int32} {Q : Qt}, RM V (k, h.2) 53 → Go X m_X7_goesThrough 0 [.ref 1, .int (nI s), .int (nI u), .null, .null, .null, .null] [] (cpK k 54 53 80, h.2) (fun v h' => Go X m_X7_lay 41 [.ref 1, .int (nI s), .int (nI u), .int (-1)] (pushO v []) h' Q) → Go X m_X7_lay 0 [.ref 1, .int (nI s), .int (nI u), .null] [] (k, h.2) Q := by
    intro k Q r g
    exact vg (br_t y0 (t_whyNot h1.1 r.1.1 (fun t ht e p => vg (br_t (by decide) (t_copies_53_54 (vg g)))) (fun t ht e p => absurd c6 (by rw [← uniq t ht e]; omega)) (fun z => absurd rfl (z s hs))))
  by_cases cu : u < gtN V n cs (fac n)
  case neg =>
    refine vg (br_f (show ¬ nI u < f 7 1 by rw [f1]; exact nI_nlt (by omega) hu) (t_refuse 3 (by decide) (by decide) (vg ?_)))
    have rk : RM V (up2 f 14 3 (f 14 3 + 1), h.2) 53 := rmf
    refine mod (k := up2 f 14 3 (f 14 3 + 1)) rk (t_goes (h := (cpK (up2 f 14 3 (f 14 3 + 1)) 54 53 80, h.2)) v (rb_54 v (rb_rm rk)) hs hu en ec hn co cl (fun _ g eg => ?_) (fun t ht gp et => absurd (gt_lt gp ht) (by omega)))
    have eg : ∀ c, c ≠ 53 → c ≠ 58 → c ≠ 61 → g c = cpK (up2 f 14 3 (f 14 3 + 1)) 54 53 80 c := eg
    refine vg (br_t (nI_le (by omega) hu) (t_copies_54_53 (vg (t_findsN 3 (by decide) rfl (vg ⟨rfl, ?_⟩)))))
    refine inv_wref (k := cpK g 53 54 80) I v rn sf (by decide) ⟨fun c c0 _ c2 => ?_, fun j _ _ => ?_⟩ ?_
    · rw [cpK_ne c2, eg c c2 (fun z => c0 (by subst z; unfold scr; omega)) (fun z => c0 (by subst z; unfold scr; omega)), cpK_ne (fun z => c0 (by subst z; unfold scr; omega))]
    · rw [cpK_ne (by decide), eg 1 (by decide) (by decide) (by decide), cpK_ne (by decide)]
    · exact rm_copy v (rm_cg (rm_copy v rk) (by show g 54 = cpK (up2 f 14 3 (f 14 3 + 1)) 54 53 80 54; exact eg 54 (by decide) (by decide) (by decide)))
  refine vg (br_t (show nI u < f 7 1 by rw [f1]; exact nI_lt cu (by omega)) ?_)
  show Go X m_X1_takePicks 0 [.ref 2, .ref 46, .int (f 7 0), .null] [] (f, h.2) _
  rw [f0]
  refine t_takePicks_2_46 hn (vg ?_)
  show BQ X m_X7_lay [.ref 1, .int (nI s), .int (nI u), .null] (some (.int (nI n))) (cpK (up2 f 2 4 (nI n)) 18 46 n, h.2)
  have k5 : ∀ c, c ≠ 2 → c ≠ 18 → cpK (up2 f 2 4 (nI n)) 18 46 n c = f c := fun c c1 c2 => by rw [cpK_ne c2, up2_ne c1]
  have k2 : ∀ j, j ≠ 4 → cpK (up2 f 2 4 (nI n)) 18 46 n 2 j = f 2 j := fun j hj => by rw [cpK_ne (by decide), u_ne hj]
  have k24 : cpK (up2 f 2 4 (nI n)) 18 46 n 2 4 = nI n := by rw [cpK_ne (by decide), u_at]
  have k18 : ∀ i, i < n → cpK (up2 f 2 4 (nI n)) 18 46 n 18 i = f 46 i := fun i hi => by rw [cpK_lt hi, up2_ne (by decide)]
  generalize cpK (up2 f 2 4 (nI n)) 18 46 n = k at k5 k2 k24 k18
  have rk : RM V (k, h.2) 53 := rm_cg rmf (k5 53 (by decide) (by decide))
  refine mod rk (t_goes (h := (cpK k 54 53 80, h.2)) v (rb_54 v (rb_rm rk)) hs hu en ec hn co cl (fun z => absurd z (by omega)) (fun t ht gp et g rg eg => ?_))
  have eg : ∀ c, c ≠ 53 → c ≠ 58 → c ≠ 61 → g c = cpK k 54 53 80 c := eg
  have gl := gt_le V n cs t
  have a46 := f46 t ht gp (by rw [et])
  refine vg (br_f (nI_ge (by omega) (by omega)) ⟨1, rfl, by decide, ?_, ?_⟩)
  · show some (Value.int (g 53 1)) = _
    rw [show g 53 1 = nI n from rg.1.2.1]
  have e : ∀ c, ¬ scr c → c ≠ 53 → g c = k c := fun c c0 c1 => by rw [eg c c1 (fun z => c0 (by subst z; unfold scr; omega)) (fun z => c0 (by subst z; unfold scr; omega)), cpK_ne (fun z => c0 (by subst z; unfold scr; omega))]
  have e' : ∀ c, ¬ scr c → c ≠ 53 → c ≠ 2 → c ≠ 18 → g c = h.1 c := fun c c0 c1 c2 c3 => (e c c0 c1).trans ((k5 c c2 c3).trans (sf c c0))
  have e2 : g 2 = k 2 := e 2 (by unfold scr; omega) (by decide)
  have e18 : g 18 = k 18 := e 18 (by unfold scr; omega) (by decide)
  have rg2 : RN (OV V n cs (LL n t)) (g, h.2) := by
    refine ⟨⟨?_, ?_, ?_⟩, fun c hc => ?_, fun j hj => ?_, fun i hi => ?_, fun l hl => ?_⟩
    · show g 2 0 = _
      rw [e2, k2 0 (by decide)]; exact rnf.1.1
    · show g 2 4 = nI n
      rw [e2, k24]
    · show g 2 6 = _
      rw [e2, k2 6 (by decide)]; exact rnf.1.2.2
    · show g 15 c = _ ∧ g 16 c = _
      rw [OV_o (a := 1) (by decide) (by decide), OV_o (a := 2) (by decide) (by decide), e' 15 (by unfold scr; omega) (by decide) (by decide) (by decide), e' 16 (by unfold scr; omega) (by decide) (by decide) (by decide)]
      exact rn.2.1 c hc
    · show g 17 j = _
      rw [OV_o (a := 3) (by decide) (by decide), e' 17 (by unfold scr; omega) (by decide) (by decide) (by decide)]
      exact rn.2.2.1 j hj
    · have hi : i < n := hi
      show g 18 i = nI (cs (gt (LL n t) i))
      rw [e18, k18 i hi]
      exact a46 i hi
    · show g 19 l = _ ∧ g 20 l = _ ∧ g 21 l = _
      rw [OV_o (a := 5) (by decide) (by decide), OV_o (a := 6) (by decide) (by decide), OV_o (a := 7) (by decide) (by decide), e' 19 (by unfold scr; omega) (by decide) (by decide) (by decide), e' 20 (by unfold scr; omega) (by decide) (by decide) (by decide), e' 21 (by unfold scr; omega) (by decide) (by decide) (by decide)]
      exact rn.2.2.2.2 l hl
  refine in7 I (fun q hq q1 q2 q3 => e' q (by unfold live at hq; unfold scr; omega) q2 q1 (by omega)) ?_ ?_ ?_ ?_ (ov_ok v hn cl (LL_al n t)) rg2 rg
  · rw [e' 0 (by unfold scr; omega) (by decide) (by decide) (by decide)]
  · rw [e' 1 (by unfold scr; omega) (by decide) (by decide) (by decide)]
  · rw [e' 8 (by unfold scr; omega) (by decide) (by decide) (by decide)]
  · rw [e' 1 (by unfold scr; omega) (by decide) (by decide) (by decide)]
end LAY
