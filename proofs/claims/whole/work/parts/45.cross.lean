/-! crossings, draw, read -/
section CROSS
variable {X : Xs} {h : Hp} {x y z w : Int32} {Q : Qt} {V : Vw} {s b n : Nat}
theorem crs_x {a c : Int32} {l5 : Value} (hs : s < 4) (e : h.1 (9 + s) 1 = nI n) (q : Q (some (.int a)) h) : Go X m_X6_crossings 49 [.ref 0, .int (nI s), .int c, .int a, .int (nI n), l5] [] h Q := by
  have k := le_of e
  clear e
  rcases s4 hs with rfl | rfl | rfl | rfl <;> exact vg ⟨_, rfl, by decide, br_t k q⟩
theorem crs_s {a c : Int32} {l5 : Value} {i : Nat} (hs : s < 4) (e : h.1 (9 + s) 1 = nI n) (hn : n ≤ 40) (hi : i < n) (q : Go X m_X3_threadsIn 0 [.ref (9 + s), .int (nI i)] [] h (fun r h' => Go X m_X6_crossings 74 [.ref 0, .int (nI s), .int c, .int a, .int (nI i), l5] (pushO r []) h' Q)) : Go X m_X6_crossings 49 [.ref 0, .int (nI s), .int c, .int a, .int (nI i), l5] [] h Q := by
  have k := nle_of e hi (by omega)
  clear e
  rcases s4 hs with rfl | rfl | rfl | rfl <;> exact vg ⟨_, rfl, by decide, br_f k ⟨_, rfl, by decide, q⟩⟩
def crN (V : Vw) (g : Nat → Int64) (i : Nat) : Nat := far V (toN (g i)) (nrF V (toN (g i)) (V 0 0 - 1))
theorem op_crossings (I : Inv h) : Both X m_X6_crossings m_X7_crossings [.ref 0, .int x, .null, .null, .null, .null] [.ref 1, .int x, .null, .null, .null] h := by
  obtain ⟨V, v, rn, rm, ik, ir, it, is⟩ := id I
  unfold Both
  have h1 := v.1
  by_cases p1 : 0 ≤ x.toInt ∧ x.toInt < 4
  case neg =>
    refine vg (t_sf_bad p1 (vg (br_f (by decide) (t_refuse 0 (by decide) (by decide) ?_))))
    refine vg (vg (t_wn_bad p1 (vg (br_t (by decide) (br_f (by decide) (t_findsN 0 (by decide) rfl ?_))))))
    exact vg ⟨rfl, inv_ref I (by decide)⟩
  obtain ⟨s, hs, rfl⟩ := nI_ex (n := 4) p1.1 (by omega) (by decide)
  obtain ⟨b, n, q1, q2, q3, q4, q5, q6, q7, q8⟩ := is s hs
  by_cases p2 : b = 0
  · subst p2
    refine vg (t_sf_mis hs q4 (vg (br_f (by decide) (t_refuse 5 (by decide) (by decide) ?_))))
    refine vg (vg (t_wn_mis hs q5 (vg (br_t (by decide) (br_f (by decide) (t_findsN 5 (by decide) rfl ?_))))))
    exact vg ⟨rfl, inv_ref I (by decide)⟩
  obtain ⟨hb, hb2⟩ := b_cases q1 p2
  by_cases p4 : V 0 0 = 0
  · have z1 : h.1 2 0 = 0 := by rw [rn.1.1, p4]; rfl
    have z2 : h.1 53 0 = 0 := by rw [rm.1.1, p4]; rfl
    refine vg (t_sf_ok hs q4 p2 hb2 (vg (br_t rfl (brn_f z1 (t_refuse 3 (by decide) (by decide) ?_)))))
    refine vg (vg (t_wn_ok hs q5 p2 hb2 (vg (br_f (by decide) ⟨0, rfl, by decide, brn_f z2 (br_f (by decide) (t_findsN 3 (by decide) rfl ?_))⟩))))
    exact vg ⟨rfl, inv_ref I (by decide)⟩
  have z1 : ¬ h.1 2 0 = 0 := by rw [rn.1.1]; exact nI_ne0 (by omega) (by omega)
  refine vg (t_sf_ok hs q4 p2 hb2 (vg (br_t rfl (brn_t z1 (t_weave v rn (fun f cl f1 => vc_ok (st := [49]) 100 ?_))))))
  have s1 := sc_cl f1
  have rm1 : RM V (f, h.2) 53 := rm_scr rm s1
  have e62 : f 62 = h.1 62 := sh_scr (by omega) s1
  have e63 : f 63 = h.1 63 := sh_scr (by omega) s1
  have e9 : f (9 + s) = h.1 (9 + s) := sh_scr (by omega) s1
  suffices hh : ∀ k, k ≤ n → ∀ l5 : Value, Go X m_X6_crossings 49 [.ref 0, .int (nI s), .int 0, .int (nI (sumN (crN V (h.2 (49 + s))) k)), .int (nI k), l5] [] (f, h.2) (BQ X m_X7_crossings [.ref 1, .int (nI s), .null, .null, .null]) from hh 0 (by omega) _
  refine down _ n ?_ ?_
  · intro l5
    refine crs_x hs (by show f (9 + s) 1 = _; rw [e9]; exact q6) ?_
    refine vg (t_wn_ok (b := b) hs (by show f 62 s = _; rw [e62]; exact q5) p2 hb2 (vc_ok (st := [36]) 100 (br_f (by decide) ⟨0, rfl, by decide, brn_t ?_ (br_t (by decide) ?_)⟩)))
    · show ¬ f 53 0 = 0
      rw [show f 53 0 = nI (V 0 0) from rm1.1.1]; exact nI_ne0 (by omega) (by omega)
    refine down (fun k => Go X m_X7_crossings 36 [.ref 1, .int (nI s), .int (-1), .int (nI (sumN (crN V (h.2 (49 + s))) k)), .int (nI k)] [] (f, h.2) (EQ (some (.int (nI (sumN (crN V (h.2 (49 + s))) n)))))) n ?_ ?_ 0 (by omega)
    · exact vg ⟨s, rfl, hs, br_t (le_of (by show f 63 s = _; rw [e63]; exact q7)) ⟨rfl, inv_scr I s1⟩⟩
    · intro k hk ih
      have eu : h.2 64 (40 * s + k) = h.2 (49 + s) k := (q8 k hk).symm
      have ih : Go X m_X7_crossings 36 [.ref 1, .int (nI s), .int (-1), .int (nI (sumN (crN V (h.2 (49 + s))) k + crN V (h.2 (49 + s)) k)), .int (nI (k + 1))] [] (f, h.2) (EQ (some (.int (nI (sumN (crN V (h.2 (49 + s))) n))))) := ih
      rw [← nI_add, ← nI_1] at ih
      refine vg ⟨s, rfl, hs, br_f (nle_of (by show f 63 s = _; rw [e63]; exact q7) hk (by omega)) (t_toldM hs (by omega) (vg ?_))⟩
      show Go X m_X7_nearestTo 0 [.ref 1, .int (nI (toN (h.2 64 (40 * s + k)))), .null, .null] [] (f, h.2) _
      rw [eu]
      refine t_nearestM v rm1 (by omega) (toN_lt _) (vg (t_toldM hs (by omega) (vg ?_)))
      show Go X m_X7_farOf 0 [.ref 1, .int (nI (nrF V (toN (h.2 (49 + s) k)) (V 0 0 - 1))), .int (nI (toN (h.2 64 (40 * s + k))))] [] (f, h.2) _
      rw [eu]
      have := nrF_le V (toN (h.2 (49 + s) k)) (V 0 0 - 1)
      exact t_farOf v rm1 (by omega) (toN_lt _) (vc_ok (st := [36]) 100 ih)
  · intro k hk ih l5
    refine crs_s hs (n := n) (by show f (9 + s) 1 = _; rw [e9]; exact q6) q2 hk ?_
    refine t_threadsIn hs (by omega) ?_
    show Go X m_X6_crossings 74 [.ref 0, .int (nI s), .int 0, .int (nI (sumN (crN V (h.2 (49 + s))) k)), .int (nI k), l5] [.int (nI (toN (h.2 (49 + s) k)))] (f, h.2) _
    have ih : Go X m_X6_crossings 49 [.ref 0, .int (nI s), .int 0, .int (nI (sumN (crN V (h.2 (49 + s))) k + crN V (h.2 (49 + s)) k)), .int (nI (k + 1)), .int (nI (toN (h.2 (49 + s) k)))] [] (f, h.2) (BQ X m_X7_crossings [.ref 1, .int (nI s), .null, .null, .null]) := ih _
    rw [← nI_add, ← nI_1] at ih
    unfold crN far at ih
    have lu := toN_lt (h.2 (49 + s) k)
    generalize toN (h.2 (49 + s) k) = u at *
    have l1 := nrF_le V u (V 0 0 - 1)
    refine vg (t_nearestTo v cl.1 (cl_up cl) (by omega) lu (vg ⟨nrF V u (V 0 0 - 1), rfl, by omega, ?_⟩))
    show Go X m_J6_bitCount_0f7a4 0 [.int (nI u ^^^ f 37 (nrF V u (V 0 0 - 1)))] [] (f, h.2) _
    rw [cl_up cl _ (by omega), nI_xor, Nat.xor_comm]
    exact t_bitCount (uxor lu) (vc_ok (st := [49]) 100 ih)
-- ===== draw
theorem dr_1 {a c : Int32} {m i : Nat} (hs : s < 4) (hm : m < 2 ^ 31) (hi : i < m) (q : Go X m_X0_upIn 0 [.ref 5, .int (nI i)] [] h (fun v h' => Go X m_X6_draw 73 [.ref 0, .int (nI s), .int c, .int (nI m), .int (nI i)] (pushO v [.int (nI i), .ref (9 + s)]) h' Q)) : Go X m_X6_draw 50 [.ref 0, .int (nI s), .int c, .int (nI m), .int (nI i)] [] h Q := by
  have k := nI_ge hi hm
  rcases s4 hs with rfl | rfl | rfl | rfl <;> exact vg (br_f k ⟨_, rfl, by decide, q⟩)
theorem dr_2 {c r : Int32} {m i : Nat} (hs : s < 4) (q : Go X m_X3_put 0 [.ref (9 + s), .int (nI i), .long r.toInt64, .null, .null] [] h (fun v h' => Go X m_X6_draw 77 [.ref 0, .int (nI s), .int c, .int (nI m), .int (nI i)] (pushO v []) h' Q)) : Go X m_X6_draw 73 [.ref 0, .int (nI s), .int c, .int (nI m), .int (nI i)] [.int r, .int (nI i), .ref (9 + s)] h Q := by
  rcases s4 hs with rfl | rfl | rfl | rfl <;> exact vg q
theorem dr_0 {c : Int32} (hs : s < 4) {r : Nat} (e0 : h.1 5 6 = nI r) (e : h.1 (9 + s) 1 = nI n) (hr : r < 2 ^ 31) (hn : n < 2 ^ 31) {l4 : Value} (q : Go X m_X6_draw 50 [.ref 0, .int (nI s), .int c, .int (nI (min r n)), .int (nI 0)] [] h Q) : Go X m_X6_draw 27 [.ref 0, .int (nI s), .int c, .null, l4] [] h Q := by
  have k : (if h.1 (9 + s) 1 < h.1 5 6 then h.1 (9 + s) 1 else h.1 5 6) = nI (min r n) := by
    rw [e0, e]
    by_cases c : n < r
    · rw [if_pos (nI_lt c hr), Nat.min_eq_right (by omega)]
    · rw [if_neg (nI_nlt (by omega) hn), Nat.min_eq_left (by omega)]
  rw [← k] at q
  clear e k
  rcases s4 hs with rfl | rfl | rfl | rfl <;> exact vc_ok (st := [50]) 100 ⟨_, rfl, by decide, q⟩
theorem min_le {r n : Nat} (hn : n ≤ 40) : min r n ≤ 40 := Nat.le_trans (Nat.min_le_right _ _) hn
theorem op_draw (I : Inv h) : Both X m_X6_draw m_X7_draw [.ref 0, .int x, .null, .null, .null] [.ref 1, .int x, .null, .null, .null] h := by
  obtain ⟨V, v, rn, rm, ik, ir, it, is⟩ := id I
  unfold Both
  have h1 := v.1
  by_cases p1 : 0 ≤ x.toInt ∧ x.toInt < 4
  case neg =>
    refine vg (t_sf_bad p1 (vg (br_f (by decide) (t_refuse 0 (by decide) (by decide) ?_))))
    refine vg (vg (t_wn_bad p1 (vg (br_f (by decide) (t_findsN 0 (by decide) rfl ?_)))))
    exact vg ⟨rfl, inv_ref I (by decide)⟩
  obtain ⟨s, hs, rfl⟩ := nI_ex (n := 4) p1.1 (by omega) (by decide)
  obtain ⟨b, n, q1, q2, q3, q4, q5, q6, q7, q8⟩ := is s hs
  by_cases p2 : b = 0
  · subst p2
    refine vg (t_sf_mis hs q4 (vg (br_f (by decide) (t_refuse 5 (by decide) (by decide) ?_))))
    refine vg (vg (t_wn_mis hs q5 (vg (br_f (by decide) (t_findsN 5 (by decide) rfl ?_)))))
    exact vg ⟨rfl, inv_ref I (by decide)⟩
  obtain ⟨hb, hb2⟩ := b_cases q1 p2
  refine vg (t_sf_ok hs q4 p2 hb2 (vg (br_t rfl (t_weave v rn (fun f cl f1 => ?_)))))
  have s1 := sc_cl f1
  have rm1 : RM V (f, h.2) 53 := rm_scr rm s1
  have e62 : f 62 = h.1 62 := sh_scr (by omega) s1
  have e63 : f 63 = h.1 63 := sh_scr (by omega) s1
  have e9 : f (9 + s) = h.1 (9 + s) := sh_scr (by omega) s1
  refine dr_0 hs (n := n) cl.2.1 (by show f (9 + s) 1 = _; rw [e9]; exact q6) (by omega) (by omega) ?_
  have hm1 : min (V 0 1) n ≤ V 0 1 := Nat.min_le_left _ _
  have hm2 : min (V 0 1) n ≤ n := Nat.min_le_right _ _
  generalize hm : min (V 0 1) n = m at hm1 hm2
  suffices hh : ∀ k, k ≤ m → ∀ g : Nat → Nat → Int64, (∀ i, i < k → g (49 + s) i = putV b (nI (rw' V i)).toInt64) → (∀ i, k ≤ i → g (49 + s) i = h.2 (49 + s) i) → (∀ c, c ≠ 49 + s → g c = h.2 c) → Go X m_X6_draw 50 [.ref 0, .int (nI s), .int 0, .int (nI m), .int (nI k)] [] (f, g) (BQ X m_X7_draw [.ref 1, .int (nI s), .null, .null, .null]) from hh 0 (by omega) h.2 (fun i hi => absurd hi (by omega)) (fun i _ => rfl) (fun c _ => rfl)
  refine down _ m ?_ ?_
  · intro g g1 g2 g3
    refine vg (br_t (Int32.le_refl _) ?_)
    refine vg (t_wn_ok (b := b) hs (by show f 62 s = _; rw [e62]; exact q5) p2 hb2 (vg (br_t (by decide) (t_weaves (h := (f, g)) v rm1 (fun k mc k1 => ?_)))))
    have rm2 : RM V (k, g) 53 := rm_cg rm1 (k1 53 (by decide))
    have k62 : k 62 = h.1 62 := (k1 62 (by decide)).trans e62
    have k63 : k 63 = h.1 63 := (k1 63 (by decide)).trans e63
    have sk : ∀ c, ¬ scr c → k c = h.1 c := fun c hc => (sc_58 k1 c hc).trans (s1 c hc)
    have lp : Go X m_X7_draw 54 [.ref 1, .int (nI s), .int (-1), .int (nI m), .int (nI 0)] [] (k, g) (EQ (some (.int (nI m)))) := by
      suffices hh : ∀ j, j ≤ m → ∀ g' : Nat → Nat → Int64, (∀ i, i < j → g' 64 (40 * s + i) = putV b (nI (rw' V i)).toInt64) → (∀ i, ¬ (40 * s ≤ i ∧ i < 40 * s + j) → g' 64 i = g 64 i) → (∀ c, c ≠ 64 → g' c = g c) → Go X m_X7_draw 54 [.ref 1, .int (nI s), .int (-1), .int (nI m), .int (nI j)] [] (k, g') (EQ (some (.int (nI m)))) from hh 0 (by omega) g (fun i hi => absurd hi (by omega)) (fun i _ => rfl) (fun c _ => rfl)
      refine down _ m ?_ ?_
      · intro g' j1 j2 j3
        refine vg (br_t (Int32.le_refl _) ⟨rfl, inv_sh I (fun c c0 _ _ _ => sk c c0) (fun s' hs' => ?_)⟩)
        obtain ⟨b', n', o1, o2, o3, o4, o5, o6, o7, o8⟩ := is s' hs'
        refine ⟨b', n', o1, o2, o3, ?_, ?_, ?_, ?_, fun i hi => ?_⟩
        · show k (9 + s') 0 = _
          rw [sh_scr (by omega) sk]; exact o4
        · show k 62 s' = _
          rw [k62]; exact o5
        · show k (9 + s') 1 = _
          rw [sh_scr (by omega) sk]; exact o6
        · show k 63 s' = _
          rw [k63]; exact o7
        · show g' (49 + s') i = g' 64 (40 * s' + i)
          rw [j3 _ (by omega)]
          by_cases e : s' = s
          · subst e
            by_cases e2 : i < m
            · rw [g1 i e2, j1 i e2]
            · rw [g2 i (by omega), j2 _ (by omega), g3 64 (by omega)]
              exact o8 i hi
          · rw [g3 _ (by omega), j2 _ (by omega), g3 64 (by omega)]
            exact o8 i hi
      · intro j hj ih g' j1 j2 j3
        have := ih (up2 g' 64 (40 * s + j) (putV b (nI (rw' V j)).toInt64)) (allS (fun i hi => by rw [u_ne (by omega)]; exact j1 i hi) u_at) (fun i hi => by rw [u_ne (by omega)]; exact j2 i (by omega)) (fun c hc => by rw [up2_ne hc]; exact j3 c hc)
        rw [← nI_1] at this
        refine vg (br_f (nI_ge hj (by omega)) ⟨j, rfl, by omega, ?_⟩)
        show Go X m_X7_puts 0 [.ref 1, .int (nI s), .int (nI j), .long (k 58 j).toInt64, .null] [] (k, g') _
        rw [show k 58 j = nI (rw' V j) from mc j (by omega)]
        exact t_puts (b := b) hs (by show k 62 s = _; rw [k62]; exact q5) hb (by omega) (vc_ok (st := [54]) 100 this)
    have er : k 53 1 = nI (V 0 1) := rm2.1.2.1
    have en : k 63 s = nI n := by rw [k63]; exact q7
    by_cases e : V 0 1 < n
    · refine vc_ok (st := [54]) 100 ⟨1, rfl, by decide, s, rfl, hs, br_f ?_ ⟨1, rfl, by decide, ?_⟩⟩
      · show ¬ k 63 s ≤ k 53 1
        rw [er, en]; exact nI_ge e (by omega)
      · show Go X m_X7_draw 54 [.ref 1, .int (nI s), .int (-1), .int (k 53 1), .int (nI 0)] [] (k, g) _
        rw [er, show V 0 1 = m by omega]
        exact lp
    · refine vc_ok (st := [54]) 100 ⟨1, rfl, by decide, s, rfl, hs, br_t ?_ ⟨s, rfl, hs, ?_⟩⟩
      · show k 63 s ≤ k 53 1
        rw [er, en]; exact nI_le (by omega) (by omega)
      · show Go X m_X7_draw 54 [.ref 1, .int (nI s), .int (-1), .int (k 63 s), .int (nI 0)] [] (k, g) _
        rw [en, show n = m by omega]
        exact lp
  · intro k hk ih g g1 g2 g3
    have := ih (up2 g (49 + s) k (putV b (nI (rw' V k)).toInt64)) (allS (fun i hi => by rw [u_ne (by omega)]; exact g1 i hi) u_at) (fun i hi => by rw [u_ne (by omega)]; exact g2 i (by omega)) (fun c hc => by rw [up2_ne hc]; exact g3 c hc)
    rw [← nI_1] at this
    exact dr_1 (a := 0) hs (by omega) hk (t_upIn v cl (by omega) (dr_2 hs (t_putS (b := b) hs (by show f (9 + s) 0 = _; rw [e9]; exact q4) hb (by omega) (vc_ok (st := [50]) 100 this))))
end CROSS
