/-! read, order -/
section READ
variable {X : Xs} {h : Hp} {x y z w : Int32} {Q : Qt} {V : Vw} {s b n : Nat}
theorem rd_0 {c : Int32} (hs : s < 4) {r : Nat} (e0 : h.1 5 6 = nI r) (e : h.1 (9 + s) 1 = nI n) (hr : r < 2 ^ 31) (hn : n < 2 ^ 31) {l4 l5 : Value} (q : Go X m_X6_read 53 [.ref 0, .int (nI s), .int c, .ref (9 + s), .int (nI (min r n)), .int (nI 0)] [] h Q) : Go X m_X6_read 27 [.ref 0, .int (nI s), .int c, .null, l4, l5] [] h Q := by
  have k : (if h.1 (9 + s) 1 < h.1 5 6 then h.1 (9 + s) 1 else h.1 5 6) = nI (min r n) := by
    rw [e0, e]
    by_cases c : n < r
    · rw [if_pos (nI_lt c hr), Nat.min_eq_right (by omega)]
    · rw [if_neg (nI_nlt (by omega) hn), Nat.min_eq_left (by omega)]
  rw [← k] at q
  clear e k
  rcases s4 hs with rfl | rfl | rfl | rfl <;> exact vc_ok (st := [53]) 100 ⟨_, rfl, by decide, q⟩
theorem rd_1 {c : Int32} {m i : Nat} (hs : s < 4) (hm : m < 2 ^ 31) (hi : i < m) (q : Go X m_X3_threadsIn 0 [.ref (9 + s), .int (nI i)] [] h (fun r h' => Go X m_X6_read 66 [.ref 0, .int (nI s), .int c, .ref (9 + s), .int (nI m), .int (nI i)] (pushO r []) h' Q)) : Go X m_X6_read 53 [.ref 0, .int (nI s), .int c, .ref (9 + s), .int (nI m), .int (nI i)] [] h Q := by
  have k := nI_ge hi hm
  rcases s4 hs with rfl | rfl | rfl | rfl <;> exact vg (br_f k q)
theorem rd_2 {c : Int32} {m : Nat} (hs : s < 4) (a : h.1 (9 + s) 1 = h.1 5 6 → Q (some (.int 0)) h) (b : ¬ h.1 (9 + s) 1 = h.1 5 6 → Q (some (.int (nI 1 + nI m))) h) : Go X m_X6_read 53 [.ref 0, .int (nI s), .int c, .ref (9 + s), .int (nI m), .int (nI m)] [] h Q := by
  rcases s4 hs with rfl | rfl | rfl | rfl <;> exact vg (br_t (Int32.le_refl _) ⟨b, a⟩)
theorem op_read (I : Inv h) : Both X m_X6_read m_X7_read [.ref 0, .int x, .null, .null, .null, .null] [.ref 1, .int x, .null, .null] h := by
  obtain ⟨V, v, rn, rm, ik, ir, it, is⟩ := id I
  unfold Both
  have h1 := v.1
  by_cases p1 : 0 ≤ x.toInt ∧ x.toInt < 4
  case neg =>
    refine vg (t_sf_bad p1 (vg (br_f (by decide) (t_refuse 0 (by decide) (by decide) ?_))))
    refine vg (vg (t_wn_bad p1 (vg (br_f (by decide) (t_findsN 0 (by decide) rfl ?_)))))
    exact vg ⟨rfl, inv_ref I (by decide)⟩
  obtain ⟨s, hs, rfl⟩ := nI_ex (n := 4) p1.1 (by omega) (by decide)
  obtain ⟨b, n, q1, q2, q3, q4, q5, q6, q7, q8⟩ := is s hs
  by_cases p2 : b = 0
  · subst p2
    refine vg (t_sf_mis hs q4 (vg (br_f (by decide) (t_refuse 5 (by decide) (by decide) ?_))))
    refine vg (vg (t_wn_mis hs q5 (vg (br_f (by decide) (t_findsN 5 (by decide) rfl ?_)))))
    exact vg ⟨rfl, inv_ref I (by decide)⟩
  obtain ⟨hb, hb2⟩ := b_cases q1 p2
  refine vg (t_sf_ok hs q4 p2 hb2 (vg (br_t rfl (t_weave v rn (fun f cl f1 => ?_)))))
  have s1 := sc_cl f1
  have rm1 : RM V (f, h.2) 53 := rm_scr rm s1
  have e62 : f 62 = h.1 62 := sh_scr (by omega) s1
  have e63 : f 63 = h.1 63 := sh_scr (by omega) s1
  have e9 : f (9 + s) = h.1 (9 + s) := sh_scr (by omega) s1
  refine rd_0 hs (n := n) cl.2.1 (by show f (9 + s) 1 = _; rw [e9]; exact q6) (by omega) (by omega) ?_
  have hm1 : min (V 0 1) n ≤ V 0 1 := Nat.min_le_left _ _
  have hm2 : min (V 0 1) n ≤ n := Nat.min_le_right _ _
  generalize hm : min (V 0 1) n = m at hm1 hm2
  obtain ⟨r, r1, r2⟩ := pk_least (fun k => k = m ∨ (k < m ∧ toN (h.2 (49 + s) k) ≠ rw' V k)) ⟨m, Or.inl rfl⟩
  have hrm : r ≤ m := by omega
  have alike : ∀ k, k < r → toN (h.2 (49 + s) k) = rw' V k := fun k hk => by
    by_cases e : toN (h.2 (49 + s) k) = rw' V k
    · exact e
    · exact absurd (Or.inr ⟨by omega, e⟩) (r2 k hk)
  have mod : Go X m_X7_read 0 [.ref 1, .int (nI s), .null, .null] [] (f, h.2) (EQ (some (.int (if r = V 0 1 ∧ r = n then 0 else nI 1 + nI r)))) := by
    refine vg (t_wn_ok (b := b) hs (by show f 62 s = _; rw [e62]; exact q5) p2 hb2 (vg (br_t (by decide) (t_weaves v rm1 (fun k mc k1 => vc_ok (st := [22]) 100 ?_)))))
    have rm2 : RM V (k, h.2) 53 := rm_cg rm1 (k1 53 (by decide))
    have k63 : k 63 s = nI n := by rw [k1 63 (by decide)]; show f 63 s = _; rw [e63]; exact q7
    have er : k 53 1 = nI (V 0 1) := rm2.1.2.1
    have sk : ∀ c, ¬ scr c → k c = h.1 c := fun c hc => (sc_58 k1 c hc).trans (s1 c hc)
    have ex : Go X m_X7_read 63 [.ref 1, .int (nI s), .int (-1), .int (nI r)] [] (k, h.2) (EQ (some (.int (if r = V 0 1 ∧ r = n then 0 else nI 1 + nI r)))) := by
      by_cases e1 : r = V 0 1
      · have t1 : nI r = k 53 1 := by rw [er, e1]
        by_cases e2 : r = n
        · rw [if_pos ⟨e1, e2⟩]
          exact vg ⟨1, rfl, by decide, brn_f t1 ⟨s, rfl, hs, brn_f (show nI r = k 63 s by rw [k63, e2]) ⟨rfl, inv_scr I sk⟩⟩⟩
        · rw [if_neg (fun z => e2 z.2)]
          exact vg ⟨1, rfl, by decide, brn_f t1 ⟨s, rfl, hs, brn_t (show ¬ nI r = k 63 s by rw [k63, nI_eq (by omega) (by omega)]; exact e2) ⟨rfl, inv_scr I sk⟩⟩⟩
      · rw [if_neg (fun z => e1 z.1)]
        exact vg ⟨1, rfl, by decide, brn_t (show ¬ nI r = k 53 1 by rw [er, nI_eq (by omega) (by omega)]; exact e1) ⟨rfl, inv_scr I sk⟩⟩
    refine down (fun j => Go X m_X7_read 22 [.ref 1, .int (nI s), .int (-1), .int (nI j)] [] (k, h.2) (EQ (some (.int (if r = V 0 1 ∧ r = n then 0 else nI 1 + nI r))))) r ?_ ?_ 0 (by omega)
    · by_cases e1 : V 0 1 ≤ r
      · exact vc_ok (st := [63]) 100 ⟨1, rfl, by decide, br_t (show k 53 1 ≤ nI r by rw [er]; exact nI_le e1 (by omega)) ex⟩
      · have n1 : ¬ k 53 1 ≤ nI r := by rw [er]; exact nI_ge (by omega) (by omega)
        by_cases e2 : n ≤ r
        · exact vc_ok (st := [63]) 100 ⟨1, rfl, by decide, br_f n1 ⟨s, rfl, hs, br_t (show k 63 s ≤ nI r by rw [k63]; exact nI_le e2 (by omega)) ex⟩⟩
        · have n2 : ¬ k 63 s ≤ nI r := by rw [k63]; exact nI_ge (by omega) (by omega)
          have nq : toN (h.2 (49 + s) r) ≠ rw' V r := by
            rcases r1 with z | z
            · omega
            · exact z.2
          refine vg ⟨1, rfl, by decide, br_f n1 ⟨s, rfl, hs, br_f n2 (t_toldM hs (by omega) (vc_ok (st := [63]) 100 ⟨r, rfl, by omega, brn_t ?_ ex⟩))⟩⟩
          show ¬ nI (toN (h.2 64 (40 * s + r))) = k 58 r
          have := toN_lt (h.2 (49 + s) r)
          have := rw_lt V r
          rw [← q8 r (by omega), mc r (by omega), nI_eq (by omega) (by omega)]
          exact nq
    · intro j hj ih
      rw [← nI_1] at ih
      refine vg ⟨1, rfl, by decide, br_f (nle_of er (by omega) (by omega)) ⟨s, rfl, hs, br_f (nle_of k63 (by omega) (by omega)) (t_toldM hs (by omega) (vc_ok (st := [22]) 100 ⟨j, rfl, by omega, brn_f ?_ ih⟩))⟩⟩
      show nI (toN (h.2 64 (40 * s + j))) = k 58 j
      rw [← q8 j (by omega), mc j (by omega), alike j hj]
  refine down (fun k => Go X m_X6_read 53 [.ref 0, .int (nI s), .int 0, .ref (9 + s), .int (nI m), .int (nI k)] [] (f, h.2) (BQ X m_X7_read [.ref 1, .int (nI s), .null, .null])) r ?_ ?_ 0 (by omega)
  · by_cases e : r = m
    · rw [e] at mod ⊢
      have t9 : f (9 + s) 1 = nI n := by rw [e9]; exact q6
      refine rd_2 hs (fun z => ?_) (fun z => ?_)
      · have z : f (9 + s) 1 = f 5 6 := z
        rw [t9, cl.2.1, nI_eq (by omega) (by omega)] at z
        rw [if_pos (by omega)] at mod
        exact mod
      · have z : ¬ f (9 + s) 1 = f 5 6 := z
        rw [t9, cl.2.1, nI_eq (by omega) (by omega)] at z
        rw [if_neg (by omega)] at mod
        exact mod
    · have nq : toN (h.2 (49 + s) r) ≠ rw' V r := by
        rcases r1 with z | z
        · exact absurd z e
        · exact z.2
      have := toN_lt (h.2 (49 + s) r)
      have := rw_lt V r
      rw [if_neg (by omega)] at mod
      exact rd_1 hs (by omega) (by omega) (t_threadsIn hs (by omega) (vg (t_upIn v cl (by omega) (vg (br_f (show ¬ nI (toN (h.2 (49 + s) r)) = nI (rw' V r) by rw [nI_eq (by omega) (by omega)]; exact nq) mod)))))
  · intro k hk ih
    rw [← nI_1] at ih
    exact rd_1 hs (by omega) (by omega) (t_threadsIn hs (by omega) (vg (t_upIn v cl (by omega) (vc_ok (st := [53]) 100 (br_t (show nI (toN (h.2 (49 + s) k)) = nI (rw' V k) by rw [alike k hk]) ih)))))
-- ===== order
/-- the loom with other picks -/
def V4 (V : Vw) (k : Nat) (g : Nat → Nat) : Vw := fun a b => if a = 4 ∧ b < k then g b else V a b
theorem V4_ne {k a : Nat} {g : Nat → Nat} (e : a ≠ 4) : V4 V k g a = V a := by funext c; unfold V4; rw [if_neg (fun z => e z.1)]
theorem V4_lt {k i : Nat} {g : Nat → Nat} (hi : i < k) : V4 V k g 4 i = g i := by unfold V4; rw [if_pos ⟨rfl, hi⟩]
theorem V4_ge {k i : Nat} {g : Nat → Nat} (hi : ¬ i < k) : V4 V k g 4 i = V 4 i := by unfold V4; rw [if_neg (fun z => hi z.2)]
theorem okV_4 (v : okV V) {k : Nat} {g : Nat → Nat} (hg : ∀ i, i < k → g i < V 0 0) : okV (V4 V k g) := by
  unfold okV
  rw [V4_ne (show 0 ≠ 4 by decide), V4_ne (show 1 ≠ 4 by decide), V4_ne (show 2 ≠ 4 by decide), V4_ne (show 3 ≠ 4 by decide), V4_ne (show 5 ≠ 4 by decide), V4_ne (show 6 ≠ 4 by decide), V4_ne (show 7 ≠ 4 by decide)]
  refine ⟨v.1, v.2.1, v.2.2.1, fun i hi => ?_, v.2.2.2.2⟩
  by_cases e : i < k
  · rw [V4_lt e]; exact hg i e
  · rw [V4_ge e]; exact v.2.2.2.1 i hi
theorem up_cg {W : Vw} (e : W 3 = V 3) (a : Nat) : up W a = up V a := by unfold up upF; rw [e]
theorem okV_n (v : okV V) {m : Nat} (hm : m ≤ 20) (hg : ∀ i, i < m → V 4 i < V 0 0) : okV (up2 V 0 1 m) := by
  refine ⟨⟨v.1.1, hm, v.1.2.2⟩, v.2.1, v.2.2.1, fun i hi => ?_, v.2.2.2.2⟩
  exact hg i hi
theorem or_0 {c : Int32} (hs : s < 4) (e : h.1 (9 + s) 1 = nI n) (hn : n < 2 ^ 31) {l4 l5 : Value} (q : Go X m_X6_order 53 [.ref 0, .int (nI s), .int c, .int (nI (min n 20)), .int (nI 0), l5] [] (up2 h.1 2 4 0, h.2) Q) : Go X m_X6_order 27 [.ref 0, .int (nI s), .int c, .null, l4, l5] [] h Q := by
  have k : (if nI 20 < h.1 (9 + s) 1 then nI 20 else h.1 (9 + s) 1) = nI (min n 20) := by
    rw [e]
    by_cases c : 20 < n
    · rw [if_pos (nI_lt c hn), Nat.min_eq_right (by omega)]
    · rw [if_neg (nI_nlt (by omega) (by omega)), Nat.min_eq_left (by omega)]
  rw [← k] at q
  clear e k
  rcases s4 hs with rfl | rfl | rfl | rfl <;> exact vc_ok (st := [53]) 100 ⟨_, rfl, by decide, q⟩
theorem or_1 {c : Int32} {m i : Nat} {l5 : Value} (hs : s < 4) (hm : m < 2 ^ 31) (hi : i < m) (q : Go X m_X3_threadsIn 0 [.ref (9 + s), .int (nI i)] [] h (fun r h' => Go X m_X6_order 74 [.ref 0, .int (nI s), .int c, .int (nI m), .int (nI i), l5] (pushO r [.ref 5]) h' Q)) : Go X m_X6_order 53 [.ref 0, .int (nI s), .int c, .int (nI m), .int (nI i), l5] [] h Q := by
  have k := nI_ge hi hm
  rcases s4 hs with rfl | rfl | rfl | rfl <;> exact vg (br_f k ⟨_, rfl, by decide, q⟩)
theorem op_order (I : Inv h) : Both X m_X6_order m_X7_order [.ref 0, .int x, .null, .null, .null, .null] [.ref 1, .int x, .null, .null] h := by
  obtain ⟨V, v, rn, rm, ik, ir, it, is⟩ := id I
  unfold Both
  have h1 := v.1
  by_cases p1 : 0 ≤ x.toInt ∧ x.toInt < 4
  case neg =>
    refine vg (t_sf_bad p1 (vg (br_f (by decide) (t_refuse 0 (by decide) (by decide) ?_))))
    refine vg (vg (t_wn_bad p1 (vg (br_f (by decide) (t_findsN 0 (by decide) rfl ?_)))))
    exact vg ⟨rfl, inv_ref I (by decide)⟩
  obtain ⟨s, hs, rfl⟩ := nI_ex (n := 4) p1.1 (by omega) (by decide)
  obtain ⟨b, n, q1, q2, q3, q4, q5, q6, q7, q8⟩ := is s hs
  by_cases p2 : b = 0
  · subst p2
    refine vg (t_sf_mis hs q4 (vg (br_f (by decide) (t_refuse 5 (by decide) (by decide) ?_))))
    refine vg (vg (t_wn_mis hs q5 (vg (br_f (by decide) (t_findsN 5 (by decide) rfl ?_)))))
    exact vg ⟨rfl, inv_ref I (by decide)⟩
  obtain ⟨hb, hb2⟩ := b_cases q1 p2
  refine vg (t_sf_ok hs q4 p2 hb2 (vg (br_t rfl (t_weave v rn (fun f cl f1 => ?_)))))
  have s1 := sc_cl f1
  have rn1 : RN V (f, h.2) := rn_scr rn s1
  have rm1 : RM V (f, h.2) 53 := rm_scr rm s1
  have e62 : f 62 = h.1 62 := sh_scr (by omega) s1
  have e63 : f 63 = h.1 63 := sh_scr (by omega) s1
  have e9 : f (9 + s) = h.1 (9 + s) := sh_scr (by omega) s1
  refine or_0 hs (n := n) (by show f (9 + s) 1 = _; rw [e9]; exact q6) (by omega) ?_
  have hm1 : min n 20 ≤ n := Nat.min_le_left _ _
  have hm2 : min n 20 ≤ 20 := Nat.min_le_right _ _
  generalize hm : min n 20 = m at hm1 hm2
  obtain ⟨r, r1, r2⟩ := pk_least (fun k => k = m ∨ ¬ wv V (toN (h.2 (49 + s) k)) < V 0 0) ⟨m, Or.inl rfl⟩
  have hrm : r ≤ m := Nat.le_of_not_lt (fun z => r2 m z (Or.inl rfl))
  generalize hW : (fun i => wv V (toN (h.2 (49 + s) i))) = W
  have eW : ∀ i, wv V (toN (h.2 (49 + s) i)) = W i := fun i => by rw [← hW]
  have fnd : ∀ k, k < r → W k < V 0 0 := fun k hk => by
    by_cases e : wv V (toN (h.2 (49 + s) k)) < V 0 0
    · rw [← eW]; exact e
    · exact absurd (Or.inr e) (r2 k hk)
  have cu := cl_up cl
  -- the class's loop ends here
  have fin : ∀ g : Nat → Nat → Int32, g 2 4 = nI r → (∀ i, i < r → g 18 i = nI (W i)) → (∀ c, c ≠ 2 → c ≠ 18 → g c = f c) → (∀ j, j ≠ 4 → g 2 j = f 2 j) → BQ X m_X7_order [.ref 1, .int (nI s), .null, .null] (some (.int (nI r))) (g, h.2) := by
    intro g g0 g1 g2 g3
    refine vg (t_wn_ok (b := b) hs (by show g 62 s = _; rw [g2 62 (by decide) (by decide), e62]; exact q5) p2 hb2 (vc_ok (st := [18]) 100 (br_t (by decide) ?_)))
    suffices hh : ∀ k, k ≤ r → ∀ d : Nat → Nat → Int32, RM (V4 V k W) (d, h.2) 53 → (∀ i, i < k → d 53 (40 + i) = nI (W i)) → (∀ c, c ≠ 53 → d c = g c) → Go X m_X7_order 18 [.ref 1, .int (nI s), .int (-1), .int (nI k)] [] (d, h.2) (EQ (some (.int (nI r)))) from hh 0 (by omega) g (by
      have e0 : V4 V 0 W = V := by funext a c; unfold V4; rw [if_neg (fun z => absurd z.2 (by omega))]
      rw [e0]
      exact rm_cg rm1 (g2 53 (by decide) (by decide))) (fun i hi => absurd hi (by omega)) (fun c _ => rfl)
    refine down _ r ?_ ?_
    · intro d r0 d0 d1
      have ok4 : okV (V4 V r W) := okV_4 v fnd
      have ex : Go X m_X7_order 72 [.ref 1, .int (nI s), .int (-1), .int (nI r)] [] (d, h.2) (EQ (some (.int (nI r)))) := by
        refine vg ⟨1, rfl, by decide, rfl, ?_⟩
        have sg : ∀ c, ¬ scr c → c ≠ 2 → c ≠ 18 → c ≠ 53 → up2 d 53 1 (nI r) c = h.1 c := fun c c0 c1 c2 c3 => by rw [up2_ne c3, d1 c c3, g2 c c1 c2, s1 c c0]
        have kd : ∀ j, j ≠ 1 → up2 d 53 1 (nI r) 53 j = d 53 j := fun j hj => u_ne hj
        refine in7 (f := up2 d 53 1 (nI r)) (V := up2 (V4 V r W) 0 1 r) I (fun q hq g1 g2 g3 => sg q (by unfold live at hq; unfold scr; omega) g1 (by omega) g2) ?_ ?_ ?_ ?_ (okV_n ok4 (by omega) (fun i hi => by rw [V4_lt hi, V4_ne (show 0 ≠ 4 by decide)]; exact fnd i hi)) ?_ ?_
        · rw [sg 0 (by unfold scr; omega) (by decide) (by decide) (by decide)]
        · rw [sg 1 (by unfold scr; omega) (by decide) (by decide) (by decide)]
        · rw [sg 8 (by unfold scr; omega) (by decide) (by decide) (by decide)]
        · rw [sg 1 (by unfold scr; omega) (by decide) (by decide) (by decide)]
        · have E : ∀ c, c ≠ 53 → up2 d 53 1 (nI r) c = g c := fun c hc => by rw [up2_ne hc, d1 c hc]
          refine ⟨⟨?_, ?_, ?_⟩, fun c hc => ?_, fun t ht => ?_, fun i hi => ?_, fun l hl => ?_⟩
          · show up2 d 53 1 (nI r) 2 0 = nI (V 0 0)
            rw [E 2 (by decide), g3 0 (by decide)]; exact rn1.1.1
          · show up2 d 53 1 (nI r) 2 4 = nI r
            rw [E 2 (by decide), g0]
          · show up2 d 53 1 (nI r) 2 6 = nI (V 0 2)
            rw [E 2 (by decide), g3 6 (by decide)]; exact rn1.1.2.2
          · show up2 d 53 1 (nI r) 15 c = nI (V 1 c) ∧ up2 d 53 1 (nI r) 16 c = nI (V 2 c)
            rw [E 15 (by decide), E 16 (by decide), g2 15 (by decide) (by decide), g2 16 (by decide) (by decide)]
            exact rn1.2.1 c hc
          · show up2 d 53 1 (nI r) 17 t = nI (V 3 t)
            rw [E 17 (by decide), g2 17 (by decide) (by decide)]
            exact rn1.2.2.1 t ht
          · show up2 d 53 1 (nI r) 18 i = nI (V4 V r W 4 i)
            have hi : i < r := hi
            rw [E 18 (by decide), g1 i hi, V4_lt hi]
          · show up2 d 53 1 (nI r) 19 l = nI (V 5 l) ∧ up2 d 53 1 (nI r) 20 l = nI (V 6 l) ∧ up2 d 53 1 (nI r) 21 l = nI (V 7 l)
            rw [E 19 (by decide), E 20 (by decide), E 21 (by decide), g2 19 (by decide) (by decide), g2 20 (by decide) (by decide), g2 21 (by decide) (by decide)]
            exact rn1.2.2.2.2 l hl
        · refine ⟨⟨?_, ?_, ?_⟩, fun c hc => ?_, fun t ht => ?_, fun i hi => ?_, fun l hl => ?_⟩
          · show up2 d 53 1 (nI r) 53 0 = _
            rw [kd 0 (by omega)]; exact r0.1.1
          · show up2 d 53 1 (nI r) 53 1 = nI r
            exact u_at
          · show up2 d 53 1 (nI r) 53 2 = _
            rw [kd 2 (by omega)]; exact r0.1.2.2
          · show up2 d 53 1 (nI r) 53 (4 + c) = _ ∧ up2 d 53 1 (nI r) 53 (14 + c) = _
            rw [kd _ (by omega), kd _ (by omega)]; exact r0.2.1 c hc
          · show up2 d 53 1 (nI r) 53 (24 + t) = _
            rw [kd _ (by omega)]; exact r0.2.2.1 t ht
          · show up2 d 53 1 (nI r) 53 (40 + i) = nI (V4 V r W 4 i)
            have hi : i < r := hi
            rw [kd _ (by omega), d0 i hi, V4_lt hi]
          · show up2 d 53 1 (nI r) 53 (60 + l) = _ ∧ up2 d 53 1 (nI r) 53 (66 + l) = _ ∧ up2 d 53 1 (nI r) 53 (72 + l) = _
            rw [kd _ (by omega), kd _ (by omega), kd _ (by omega)]; exact r0.2.2.2.2 l hl
      have t63 : d 63 s = nI n := by rw [d1 63 (by decide), g2 63 (by decide) (by decide), e63]; exact q7
      by_cases e1 : n ≤ r
      · exact vc_ok (st := [72]) 100 ⟨s, rfl, hs, br_t (show d 63 s ≤ nI r by rw [t63]; exact nI_le e1 (by omega)) ex⟩
      · have n1 : ¬ d 63 s ≤ nI r := by rw [t63]; exact nI_ge (by omega) (by omega)
        by_cases e2 : 20 ≤ r
        · exact vc_ok (st := [72]) 100 ⟨s, rfl, hs, br_f n1 (br_t (nI_le e2 (by omega)) ex)⟩
        · have nf : ¬ wv V (toN (h.2 (49 + s) r)) < V 0 0 := by
            rcases r1 with z | z
            · omega
            · exact z
          refine vg ⟨s, rfl, hs, br_f n1 (br_f (nI_ge (a := r) (b := 20) (by omega) (by decide)) (t_toldM hs (by omega) (vg ?_)))⟩
          show Go X m_X7_weaver 0 [.ref 1, .int (nI (toN (h.2 64 (40 * s + r)))), .null] [] (d, h.2) _
          rw [← q8 r (by omega)]
          refine t_weaver ok4 r0 (toN_lt _) (vc_ok (st := [72]) 100 (br_t ?_ ex))
          have e3 : ∀ n c, wvF (V4 V r W) (toN (h.2 (49 + s) r)) n c = wvF V (toN (h.2 (49 + s) r)) n c := by
            intro n
            induction n with
            | zero => intro c; rfl
            | succ n ih =>
              intro c
              unfold wvF upc
              rw [up_cg (V := V) (V4_ne (show 3 ≠ 4 by decide)), V4_ne (show 1 ≠ 4 by decide), ih]
          show wvI (V4 V r W) (wvF (V4 V r W) _ (V4 V r W 0 0) 0) < 0
          rw [e3]
          unfold wvI
          rw [V4_ne (show 0 ≠ 4 by decide), if_neg nf]
          decide
    · intro k hk ih d r0 d0 d1
      have ok4 : okV (V4 V k W) := okV_4 v (fun i hi => fnd i (by omega))
      have fk := fnd k hk
      have t63 : d 63 s = nI n := by rw [d1 63 (by decide), g2 63 (by decide) (by decide), e63]; exact q7
      have e3 : ∀ n c, wvF (V4 V k W) (toN (h.2 (49 + s) k)) n c = wvF V (toN (h.2 (49 + s) k)) n c := by
        intro n
        induction n with
        | zero => intro c; rfl
        | succ n ih =>
          intro c
          unfold wvF upc
          rw [up_cg (V := V) (V4_ne (show 3 ≠ 4 by decide)), V4_ne (show 1 ≠ 4 by decide), ih]
      have ew : wvI (V4 V k W) (wv (V4 V k W) (toN (h.2 (49 + s) k))) = nI (W k) := by
        show wvI (V4 V k W) (wvF (V4 V k W) _ (V4 V k W 0 0) 0) = _
        rw [e3]
        unfold wvI
        rw [V4_ne (show 0 ≠ 4 by decide), if_pos (by have := eW k; unfold wv at this; rw [this]; exact fk)]
        exact congrArg nI (eW k)
      have kd : ∀ j, j ≠ 40 + k → up2 d 53 (40 + k) (nI (W k)) 53 j = d 53 j := fun j hj => u_ne hj
      have rr0 := r0
      unfold RM at rr0
      rw [V4_ne (show 0 ≠ 4 by decide), V4_ne (show 1 ≠ 4 by decide), V4_ne (show 2 ≠ 4 by decide), V4_ne (show 3 ≠ 4 by decide), V4_ne (show 5 ≠ 4 by decide), V4_ne (show 6 ≠ 4 by decide), V4_ne (show 7 ≠ 4 by decide)] at rr0
      have nx := ih (up2 d 53 (40 + k) (nI (W k))) (by
        unfold RM
        rw [V4_ne (show 0 ≠ 4 by decide), V4_ne (show 1 ≠ 4 by decide), V4_ne (show 2 ≠ 4 by decide), V4_ne (show 3 ≠ 4 by decide), V4_ne (show 5 ≠ 4 by decide), V4_ne (show 6 ≠ 4 by decide), V4_ne (show 7 ≠ 4 by decide)]
        refine ⟨⟨?_, ?_, ?_⟩, fun c hc => ?_, fun t ht => ?_, fun i hi => ?_, fun l hl => ?_⟩
        · show up2 d 53 (40 + k) (nI (W k)) 53 0 = _
          rw [kd 0 (by omega)]; exact rr0.1.1
        · show up2 d 53 (40 + k) (nI (W k)) 53 1 = _
          rw [kd 1 (by omega)]; exact rr0.1.2.1
        · show up2 d 53 (40 + k) (nI (W k)) 53 2 = _
          rw [kd 2 (by omega)]; exact rr0.1.2.2
        · show up2 d 53 (40 + k) (nI (W k)) 53 (4 + c) = _ ∧ up2 d 53 (40 + k) (nI (W k)) 53 (14 + c) = _
          rw [kd _ (by omega), kd _ (by omega)]; exact rr0.2.1 c hc
        · show up2 d 53 (40 + k) (nI (W k)) 53 (24 + t) = _
          rw [kd _ (by omega)]; exact rr0.2.2.1 t ht
        · show up2 d 53 (40 + k) (nI (W k)) 53 (40 + i) = nI (V4 V (k + 1) W 4 i)
          by_cases e : i = k
          · subst e
            rw [u_at, V4_lt (by omega)]
          · rw [kd _ (by omega)]
            refine (rr0.2.2.2.1 i hi).trans ?_
            by_cases e2 : i < k
            · rw [V4_lt e2, V4_lt (by omega)]
            · rw [V4_ge e2, V4_ge (by omega)]
        · show up2 d 53 (40 + k) (nI (W k)) 53 (60 + l) = _ ∧ up2 d 53 (40 + k) (nI (W k)) 53 (66 + l) = _ ∧ up2 d 53 (40 + k) (nI (W k)) 53 (72 + l) = _
          rw [kd _ (by omega), kd _ (by omega), kd _ (by omega)]; exact rr0.2.2.2.2 l hl) (allS (fun i hi => by rw [kd _ (by omega)]; exact d0 i hi) u_at) (fun c hc => by rw [up2_ne hc]; exact d1 c hc)
      rw [← nI_1] at nx
      refine vg ⟨s, rfl, hs, br_f (nle_of t63 (by omega) (by omega)) (br_f (nI_ge (a := k) (b := 20) (by omega) (by decide)) (t_toldM hs (by omega) (vg ?_)))⟩
      show Go X m_X7_weaver 0 [.ref 1, .int (nI (toN (h.2 64 (40 * s + k)))), .null] [] (d, h.2) _
      rw [← q8 k (by omega)]
      refine t_weaver ok4 r0 (toN_lt _) ?_
      rw [ew]
      refine vg (br_f (nI_pos (by omega)) (t_toldM hs (by omega) (vg ?_)))
      show Go X m_X7_weaver 0 [.ref 1, .int (nI (toN (h.2 64 (40 * s + k)))), .null] [] (d, h.2) _
      rw [← q8 k (by omega)]
      refine t_weaver ok4 r0 (toN_lt _) ?_
      rw [ew]
      exact vc_ok (st := [18]) 100 ⟨40 + k, nI_add 40 k, by omega, nx⟩
  have cx : ∀ g : Nat → Nat → Int32, ∀ l5 : Value, ∀ j : Int32, g 2 4 = nI r → (∀ i, i < r → g 18 i = nI (W i)) → (∀ c, c ≠ 2 → c ≠ 18 → g c = f c) → (∀ j, j ≠ 4 → g 2 j = f 2 j) → Go X m_X6_order 102 [.ref 0, .int (nI s), .int 0, .int (nI m), .int j, l5] [] (g, h.2) (BQ X m_X7_order [.ref 1, .int (nI s), .null, .null]) := by
    intro g l5 j g0 g1 g2 g3
    refine vg ?_
    show BQ X m_X7_order [.ref 1, .int (nI s), .null, .null] (some (.int (g 2 4))) (g, h.2)
    rw [g0]
    exact fin g g0 g1 g2 g3
  suffices hh : ∀ k, k ≤ r → ∀ g : Nat → Nat → Int32, ∀ l5 : Value, g 2 4 = nI k → (∀ i, i < k → g 18 i = nI (W i)) → (∀ c, c ≠ 2 → c ≠ 18 → g c = f c) → (∀ j, j ≠ 4 → g 2 j = f 2 j) → Go X m_X6_order 53 [.ref 0, .int (nI s), .int 0, .int (nI m), .int (nI k), l5] [] (g, h.2) (BQ X m_X7_order [.ref 1, .int (nI s), .null, .null]) from hh 0 (by omega) (up2 f 2 4 0) _ u_at (fun i hi => absurd hi (by omega)) (fun c c1 c2 => up2_ne c1) (fun j hj => u_ne hj)
  refine down _ r ?_ ?_
  · intro g l5 g0 g1 g2 g3
    by_cases e : r = m
    · exact vc_ok (st := [102]) 100 (br_t (by rw [e]; exact Int32.le_refl _) (cx g _ _ g0 g1 g2 g3))
    · have nf : ¬ wv V (toN (h.2 (49 + s) r)) < V 0 0 := by
        rcases r1 with z | z
        · exact absurd z e
        · exact z
      refine or_1 hs (by omega) (by omega) (t_threadsIn hs (by omega) (vg (t_weaverOf v (by show g 5 0 = _; rw [g2 5 (by decide) (by decide)]; exact cl.1) (fun c hc => by show g 37 c = _; rw [g2 37 (by decide) (by decide)]; exact cu c hc) (toN_lt _) ?_)))
      unfold wvI
      rw [if_neg nf]
      exact vc_ok (st := [102]) 100 (br_f (by decide) (cx g _ _ g0 g1 g2 g3))
  · intro k hk ih g l5 g0 g1 g2 g3
    have fk := fnd k hk
    have := ih (up2 (up2 g 18 k (nI (W k))) 2 4 (nI (k + 1))) (.int (nI (W k))) u_at (allS (fun i hi => by
      show up2 g 18 k (nI (W k)) 18 i = _
      rw [u_ne (by omega)]; exact g1 i hi) (by show up2 g 18 k (nI (W k)) 18 k = _; rw [u_at])) (fun c c1 c2 => by rw [up2_ne c1, up2_ne c2]; exact g2 c c1 c2) (fun j hj => by rw [u_ne hj]; exact g3 j hj)
    refine or_1 hs (by omega) (by omega) (t_threadsIn hs (by omega) (vg (t_weaverOf v (by show g 5 0 = _; rw [g2 5 (by decide) (by decide)]; exact cl.1) (fun c hc => by show g 37 c = _; rw [g2 37 (by decide) (by decide)]; exact cu c hc) (toN_lt _) ?_)))
    unfold wvI
    rw [if_pos (by rw [eW]; exact fk), eW]
    refine vg (br_t (nI_pos' (by omega)) (t_addPick (n := k) (by omega) g0 (vc_ok (st := [53]) 100 ?_)))
    show Go X m_X6_order 53 [.ref 0, .int (nI s), .int 0, .int (nI m), .int (nI k + 1), .int (nI (W k))] [] (up2 (up2 g 18 k (nI (W k))) 2 4 (nI (k + 1)), h.2) _
    rw [nI_1]
    exact this
end READ
