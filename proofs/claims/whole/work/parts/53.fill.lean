/-! fill, ask -/
section FIL
variable {X : Xs} {h : Hp} {Q : Qt} {V : Vw} {x y : Int32}
theorem rn_card {W : Vw} (rn : RN W h) {c a e : Nat} : RN (up2 (up2 W 1 c a) 2 c e) (up2 (up2 h.1 15 c (nI a)) 16 c (nI e), h.2) := by
  refine ⟨rn.1, fun q hq => ?_, rn.2.2⟩
  show up2 h.1 15 c (nI a) 15 q = nI (up2 W 1 c a 1 q) ∧ up2 (up2 h.1 15 c (nI a)) 16 c (nI e) 16 q = nI (up2 (up2 W 1 c a) 2 c e 2 q)
  by_cases z : q = c
  · subst z; rw [u_at, u_at, u_at, u_at]; exact ⟨rfl, rfl⟩
  · rw [u_ne z, u_ne z, u_ne z, u_ne z]; exact rn.2.1 q hq
theorem t_fillInto (v : okV V) (m12 : MM V ≤ 12) (rn : RN V h) (pa : PA V h.1) {w : Nat} (hw : w < 2 ^ 31) (p5 : h.1 6 5 = nI w) (q : ∀ f : Nat → Nat → Int32, RN (WW V w) (f, h.2) → (∀ c, c ≠ 15 → c ≠ 16 → f c = h.1 c) → Q none (f, h.2)) : Go X m_X5_fillInto 0 [.ref 6, .ref 2, .null] [] h Q := by
  have h1 := v.1
  refine vc_ok (st := [2]) 40 ?_
  suffices hh : ∀ k, k ≤ MM V → ∀ f : Nat → Nat → Int32, RN (VF V (KK V) w k) (f, h.2) → (∀ c, c ≠ 15 → c ≠ 16 → f c = h.1 c) → Go X m_X5_fillInto 2 [.ref 6, .ref 2, .int (nI k)] [] (f, h.2) Q from hh 0 (by omega) h.1 rn (fun _ _ _ => rfl)
  refine down _ (MM V) ?_ ?_
  · exact fun f rf ff => vg (br_t (le_of (by show f 6 0 = _; rw [ff 6 (by decide) (by decide)]; exact pa.1)) (q f rf ff))
  · intro k hk ih f rf ff
    have kl := kk_lt V k hk
    have ok := VF_ok v (w := w) k (fun i hi => kk_lt V i (by omega))
    have e0 : VF V (KK V) w k 0 0 = V 0 0 := by rw [VF_o V _ w (by decide) (by decide)]
    obtain ⟨a1, a2, a3⟩ := ok.2.1 (KK V k / 8) (by rw [e0]; omega)
    obtain ⟨d1, d2⟩ := rf.2.1 (KK V k / 8) (by rw [e0]; omega)
    have hb := bt_le w k
    refine vg (br_f (nle_of (by show f 6 0 = _; rw [ff 6 (by decide) (by decide)]; exact pa.1) hk (by omega)) ⟨k, rfl, by omega, k, rfl, by omega, ?_⟩)
    show Go X m_X1_put 0 [.ref 2, .int (f 43 k), .int (f 44 k), .int (f 6 5 >>> (nI k &&& 31) &&& 1), .null] [] (f, h.2) _
    rw [ff 43 (by decide) (by decide), ff 44 (by decide) (by decide), ff 6 (by decide) (by decide), (pa.2 k hk).1, (pa.2 k hk).2, p5, bitN hw (by omega)]
    refine t_put (by omega) (by omega) a1 a2 (by omega) d1 d2 ?_
    have nx := ih _ (rn_card rf (c := KK V k / 8)) (fun c c1 c2 => by rw [up2_ne c2, up2_ne c1]; exact ff c c1 c2)
    rw [← nI_1] at nx
    exact vc_ok (st := [2]) 100 nx
theorem op_fill (I : Inv h) : Both X m_X6_fill m_X7_fill [.ref 0, .int x] [.ref 1, .int x] h := by
  obtain ⟨V, v, rn, rm, ik, ir, it, is⟩ := id I
  unfold Both
  have h1 := v.1
  by_cases p1 : 0 ≤ x
  case neg =>
    refine vg (br_f p1 (t_refuse 0 (by decide) (by decide) (vg (vg (br_f p1 (t_findsN 0 (by decide) rfl ?_))))))
    exact vg ⟨rfl, inv_ref I (by decide)⟩
  refine vg (br_t p1 (t_gather v rn (fun m12 f ga fg => ?_) (fun m12 f fg => ?_)))
  case refine_2 =>
    have s1 := scr_fg fg (k := h.1) (fun _ _ => rfl)
    have rm1 : RM V (f, h.2) 53 := rm_scr rm s1
    exact vg (brn_f rfl (t_refuse 6 (by decide) (by decide) (vg (vg (br_t p1 (t_findWays (h := (up2 f 14 6 (f 14 6 + 1), h.2)) v rm1 (fun z => absurd m12 (Nat.not_lt.mpr z)) (fun _ k fr rk => vg (brn_f rfl (t_findsN 6 (by decide) rfl (vg ⟨rfl, inv_wref I v rn s1 (by decide) fr rk⟩))))))))))
  have m12 : MM V ≤ 12 := m12
  have hw : 2 ^ MM V ≤ 4096 := Nat.pow_le_pow_right (n := 2) (by decide) m12
  have s1 := scr_fg fg (k := h.1) (fun _ _ => rfl)
  refine vg (brn_t (by decide) (t_search v (rn_scr rn s1) m12 ⟨ga.1, ga.2.2⟩ (fun g pa sr s2 => ?_)))
  have s3 : ∀ c, ¬ scr c → g c = h.1 c := fun c hc => (s2 c hc).trans (s1 c hc)
  have rn3 : RN V (g, h.2) := rn_scr rn s3
  have rm3 : RM V (g, h.2) 53 := rm_scr rm s3
  have tl := tot_le V (2 ^ MM V)
  have p1' := p1
  rw [i_le, i0] at p1'
  obtain ⟨i, hi, rfl⟩ := nI_ex (x := x) (n := 2 ^ 31) p1' (Int32.toInt_lt x) (Nat.le_refl _)
  by_cases p4 : i < totN V (2 ^ MM V)
  case neg =>
    have np : ∀ {z : Int32}, z = nI (totN V (2 ^ MM V)) → ¬ nI i < z := fun e => by rw [e]; exact nI_nlt (by omega) hi
    exact vg (br_f (np sr.1) (t_refuse 3 (by decide) (by decide) (vg (vg (br_t p1 (t_findWays (h := (up2 g 14 3 (g 14 3 + 1), h.2)) v rm3 (fun _ k pm mr fr rk => vg (brn_t (by decide) (br_f (np mr.1) (t_findsN 3 (by decide) rfl (vg ⟨rfl, inv_wref I v rn s3 (by decide) fr rk⟩))))) (fun z => absurd m12 (Nat.not_le.mpr z))))))))
  have pp : ∀ {z : Int32}, z = nI (totN V (2 ^ MM V)) → nI i < z := fun e => by rw [e]; exact nI_lt p4 (by omega)
  have ew := ww_wy (V := V) hi (2 ^ MM V) hw p4
  have wl := wy_lt V (2 ^ MM V) i p4
  have sr5 : g 6 5 = nI (wyF V (2 ^ MM V) i) := by rw [sr.2.1, ew]
  generalize hwy : wyF V (2 ^ MM V) i = w at ew wl sr5
  refine vg (br_t (pp sr.1) (t_fillInto v m12 rn3 pa (by omega) sr5 (fun f2 r2 f3 => vg ?_)))
  show BQ X m_X7_fill [.ref 1, .int (nI i)] (some (.int (f2 6 0))) (f2, h.2)
  rw [show f2 6 = g 6 from f3 6 (by decide) (by decide), pa.1]
  have rm4 : RM V (f2, h.2) 53 := rm_cg rm3 (f3 53 (by decide) (by decide))
  refine vg (br_t p1 (t_findWays v rm4 (fun _ k pm mr fr rk => ?_) (fun z => absurd m12 (Nat.not_le.mpr z))))
  refine vg (brn_t (by decide) (br_t (pp mr.1) ⟨i, rfl, by omega, ?_⟩))
  show Go X m_X7_fills 0 [.ref 1, .int (k 60 i), .null] [] (k, h.2) _
  rw [mr.2 i p4, hwy]
  refine t_fills v m12 v rfl rk pm (by omega) (fun f5 r5 f6 => vg ?_)
  have f6 : ∀ c, c ≠ 53 → f5 c = k c := f6
  have f3 : ∀ c, c ≠ 15 → c ≠ 16 → f2 c = g c := f3
  have fr : Fr k f2 := fr
  refine ⟨?_, ?_⟩
  · show some (Value.int (f5 1 9)) = _
    rw [f6 1 (by decide), pm.1]
  · have e : ∀ c, ¬ scr c → c ≠ 1 → c ≠ 53 → f5 c = f2 c := fun c c0 c1 c2 => (f6 c c2).trans (fr.1 c c0 c1 c2)
    have e' : ∀ c, ¬ scr c → c ≠ 1 → c ≠ 53 → ¬ (15 ≤ c ∧ c ≤ 21) → f5 c = h.1 c := fun c c0 c1 c2 c3 => (e c c0 c1 c2).trans ((f3 c (by omega) (by omega)).trans (s3 c c0))
    have e1 : ∀ j, j ≠ 9 → j ≠ 11 → f5 1 j = h.1 1 j := fun j j1 j2 => by rw [f6 1 (by decide), fr.2 j j1 j2, f3 1 (by decide) (by decide), s3 1 (by unfold scr; omega)]
    refine in7 I (fun q hq _ q2 q3 => e' q (by unfold live at hq; unfold scr; omega) (by unfold live at hq; omega) q2 q3) ?_ (e1 3 (by decide) (by decide)) ?_ (e1 6 (by decide) (by decide)) (ww_ok v w) (rc_cg r2 ?_ ?_ ?_ ?_ ?_ ?_ ?_ ?_) r5
    · rw [e' 0 (by unfold scr; omega) (by decide) (by decide) (by omega)]
    · rw [e' 8 (by unfold scr; omega) (by decide) (by decide) (by omega)]
    all_goals exact e _ (by unfold scr; omega) (by decide) (by decide)
-- ===== ask
noncomputable def wrN (V : Vw) (w k : Nat) : Nat := if htN V k w < totN V w - htN V k w then totN V w - htN V k w else htN V k w
noncomputable def mtF (V : Vw) (w : Nat) : Nat → Nat
  | 0 => 0
  | k + 1 => if wrN V w (k + 1) < wrN V w (mtF V w k) then k + 1 else mtF V w k
theorem mt_le (V : Vw) (w : Nat) : ∀ k, mtF V w k ≤ k
  | 0 => Nat.le_refl _
  | k + 1 => by
    have := mt_le V w k
    show (if wrN V w (k + 1) < wrN V w (mtF V w k) then k + 1 else mtF V w k) ≤ k + 1
    split <;> omega
theorem wr_le (V : Vw) (w k : Nat) : wrN V w k ≤ totN V w := by
  have := ht_le V k w
  unfold wrN
  split <;> omega
theorem t_leftAtWorse (m12 : MM V ≤ 12) {w k : Nat} {i : Int32} (hw : w ≤ 4096) (hk : k < MM V) (sr : SR V i h.1 w) (q : Q (some (.int (nI (wrN V w k)))) h) : Go X m_X5_leftAtWorse 0 [.ref 6, .int (nI k)] [] h Q := by
  have tl := tot_le V w
  have hl := ht_le V k w
  have e : (if h.1 45 k < h.1 6 3 - h.1 45 k then h.1 6 3 - h.1 45 k else h.1 45 k) = nI (wrN V w k) := by
    rw [sr.2.2 k hk, sr.1, pk_sub hl]
    unfold wrN
    by_cases c : htN V k w < totN V w - htN V k w
    · rw [if_pos (nI_lt c (by omega)), if_pos c]
    · rw [if_neg (nI_nlt (by omega) (by omega)), if_neg c]
  rw [← e] at q
  exact vg ⟨k, rfl, by omega, k, rfl, by omega, q⟩
theorem t_mostTelling (m12 : MM V ≤ 12) (m0 : 0 < MM V) {w : Nat} {i : Int32} (hw : w ≤ 4096) (pa : PA V h.1) (sr : SR V i h.1 w) (q : Q (some (.int (nI (mtF V w (MM V - 1))))) h) : Go X m_X5_mostTelling 0 [.ref 6, .null, .null] [] h Q := by
  have tl := tot_le V w
  refine vc_ok (st := [4]) 40 ?_
  refine down (fun k => Go X m_X5_mostTelling 4 [.ref 6, .int (nI (mtF V w k)), .int (nI (k + 1))] [] h Q) (MM V - 1) ?_ ?_ 0 (by omega)
  · show Go X m_X5_mostTelling 4 [.ref 6, .int (nI (mtF V w (MM V - 1))), .int (nI (MM V - 1 + 1))] [] h Q
    rw [show MM V - 1 + 1 = MM V by omega]
    exact vg (br_t (le_of pa.1) q)
  · intro k hk ih
    have hb := mt_le V w k
    have w1 := wr_le V w (k + 1)
    have w2 := wr_le V w (mtF V w k)
    refine vg (br_f (nle_of pa.1 (by omega) (by omega)) (t_leftAtWorse m12 hw (by omega) sr (vg (t_leftAtWorse m12 hw (by omega) sr ?_))))
    have ih : Go X m_X5_mostTelling 4 [.ref 6, .int (nI (if wrN V w (k + 1) < wrN V w (mtF V w k) then k + 1 else mtF V w k)), .int (nI (k + 1 + 1))] [] h Q := ih
    rw [← nI_1 (k + 1)] at ih
    by_cases e : wrN V w (k + 1) < wrN V w (mtF V w k)
    · rw [if_pos e] at ih
      exact vc_ok (st := [4]) 100 (br_f (nI_ge e (by omega)) ih)
    · rw [if_neg e] at ih
      exact vc_ok (st := [4]) 100 (br_t (nI_le (Nat.le_of_not_lt e) (by omega)) ih)
theorem op_ask (I : Inv h) : Both X m_X6_ask m_X7_ask [.ref 0, .null] [.ref 1, .null, .null, .null, .null, .null] h := by
  obtain ⟨V, v, rn, rm, ik, ir, it, is⟩ := id I
  unfold Both
  have h1 := v.1
  refine vg (t_gather v rn (fun m12 f ga fg => ?_) (fun m12 f fg => ?_))
  case refine_2 =>
    have s1 := scr_fg fg (k := h.1) (fun _ _ => rfl)
    have rm1 : RM V (f, h.2) 53 := rm_scr rm s1
    exact vg (brn_f rfl (t_refuse 6 (by decide) (by decide) (vg (vg (t_findWays (h := (up2 f 14 6 (f 14 6 + 1), h.2)) v rm1 (fun z => absurd m12 (Nat.not_lt.mpr z)) (fun _ k fr rk => vg (brn_f rfl (t_findsN 6 (by decide) rfl (vg ⟨rfl, inv_wref I v rn s1 (by decide) fr rk⟩)))))))))
  have m12 : MM V ≤ 12 := m12
  have g0 : f 6 0 = nI (MM V) := ga.1
  have hw : 2 ^ MM V ≤ 4096 := Nat.pow_le_pow_right (n := 2) (by decide) m12
  have s1 := scr_fg fg (k := h.1) (fun _ _ => rfl)
  have rm1 : RM V (f, h.2) 53 := rm_scr rm s1
  by_cases m0 : MM V = 0
  · refine vg (brn_t (by decide) (brn_f (show f 6 0 = 0 by rw [g0, m0]; rfl) (t_refuse 3 (by decide) (by decide) (vg (vg (t_findWays (h := (up2 f 14 3 (f 14 3 + 1), h.2)) v rm1 (fun _ k pm mr fr rk => vg (brn_t (by decide) (brn_f ?_ (t_findsN 3 (by decide) rfl (vg ⟨rfl, inv_wref I v rn s1 (by decide) fr rk⟩))))) (fun z => absurd m12 (Nat.not_le.mpr z))))))))
    show k 1 9 = 0
    rw [pm.1, m0]
    rfl
  refine vg (brn_t (by decide) (brn_t (show ¬ f 6 0 = 0 by rw [g0]; exact nI_ne0 (by omega) (by omega)) (t_search v (rn_scr rn s1) m12 ⟨ga.1, ga.2.2⟩ (fun g pa sr s2 => vg (t_mostTelling m12 (by omega) hw pa sr ?_)))))
  have s3 : ∀ c, ¬ scr c → g c = h.1 c := fun c hc => (s2 c hc).trans (s1 c hc)
  have rm3 : RM V (g, h.2) 53 := rm_scr rm s3
  have tl := tot_le V (2 ^ MM V)
  have mb := mt_le V (2 ^ MM V) (MM V - 1)
  refine vg ⟨mtF V (2 ^ MM V) (MM V - 1), rfl, by omega, mtF V (2 ^ MM V) (MM V - 1), rfl, by omega, ?_⟩
  show BQ X m_X7_ask [.ref 1, .null, .null, .null, .null, .null] (some (.int (nI 10 * g 43 (mtF V (2 ^ MM V) (MM V - 1)) + g 44 (mtF V (2 ^ MM V) (MM V - 1))))) (g, h.2)
  rw [(pa.2 _ (by omega)).1, (pa.2 _ (by omega)).2, pk_mul, nI_add]
  generalize hW : 2 ^ MM V = W at *
  refine vg (t_findWays v rm3 (fun _ k pm mr fr rk => ?_) (fun z => absurd m12 (Nat.not_le.mpr z)))
  rw [hW] at mr
  have IV := inv_ways I v rn s3 fr rk
  refine vc_ok (st := [33]) 100 (brn_t (by decide) (brn_t (show ¬ k 1 9 = 0 by rw [pm.1]; exact nI_ne0 (by omega) (by omega)) ?_))
  -- the number of worse
  have st1 : ∀ (j : Nat) (b1 b2 : Int32) (l4 l5 : Value) (Q : Qt), j < MM V → Go X m_X7_ask 74 [.ref 1, .int b1, .int b2, .int (nI j), .int (nI (htN V j W)), .int (nI (wrN V W j))] [] (k, h.2) Q → Go X m_X7_ask 33 [.ref 1, .int b1, .int b2, .int (nI j), l4, l5] [] (k, h.2) Q := by
    intro j b1 b2 l4 l5 Q hj g
    have hl := ht_le V j W
    refine vg (br_f (nle_of pm.1 hj (by omega)) (t_withHole hw (by omega) mr ?_))
    unfold wrN at g
    by_cases c : htN V j W ≤ totN V W - htN V j W
    · have e5 : (if htN V j W < totN V W - htN V j W then totN V W - htN V j W else htN V j W) = totN V W - htN V j W := by
        split <;> omega
      rw [e5, ← pk_sub hl, ← mr.1] at g
      refine vc_ok (st := [74]) 100 (br_t ?_ g)
      show nI (htN V j W) ≤ k 1 11 - nI (htN V j W)
      rw [mr.1, pk_sub hl]
      exact nI_le c (by omega)
    · have e5 : (if htN V j W < totN V W - htN V j W then totN V W - htN V j W else htN V j W) = htN V j W := if_neg (by omega)
      rw [e5] at g
      refine vc_ok (st := [74]) 100 (br_f ?_ g)
      show ¬ nI (htN V j W) ≤ k 1 11 - nI (htN V j W)
      rw [mr.1, pk_sub hl]
      exact nI_ge (by omega) (by omega)
  have p59 : ∀ j, j < MM V → k 59 j = nI (10 * (KK V j / 8) + KK V j % 8) := pm.2
  refine st1 0 _ _ _ _ _ (by omega) (vc_ok (st := [33]) 100 (br_t (by decide) ⟨0, rfl, by omega, ?_⟩))
  show Go X m_X7_ask 33 [.ref 1, .int (k 59 0), .int (nI (wrN V W 0)), .int (nI (0 + 1)), .int (nI (htN V 0 W)), .int (nI (wrN V W 0))] [] (k, h.2) _
  rw [p59 0 (by omega)]
  suffices hh : ∀ j, j ≤ MM V - 1 → ∀ l4 l5 : Value, Go X m_X7_ask 33 [.ref 1, .int (nI (10 * (KK V (mtF V W j) / 8) + KK V (mtF V W j) % 8)), .int (nI (wrN V W (mtF V W j))), .int (nI (j + 1)), l4, l5] [] (k, h.2) (EQ (some (.int (nI (10 * (KK V (mtF V W (MM V - 1)) / 8) + KK V (mtF V W (MM V - 1)) % 8))))) from hh 0 (by omega) _ _
  refine down _ (MM V - 1) ?_ ?_
  · intro l4 l5
    rw [show MM V - 1 + 1 = MM V by omega]
    exact vg (br_t (le_of pm.1) ⟨rfl, IV⟩)
  · intro j hj ih l4 l5
    have hb := mt_le V W j
    have kl := kk_lt V (mtF V W j) (by omega)
    have w1 := wr_le V W (j + 1)
    have w2 := wr_le V W (mtF V W j)
    refine st1 (j + 1) _ _ _ _ _ (by omega) ?_
    have e : mtF V W (j + 1) = if wrN V W (j + 1) < wrN V W (mtF V W j) then j + 1 else mtF V W j := rfl
    rw [e] at ih
    by_cases c : wrN V W (j + 1) < wrN V W (mtF V W j)
    · rw [if_pos c, ← nI_1 (j + 1), ← p59 (j + 1) (by omega)] at ih
      exact vc_ok (st := [33]) 100 (br_f (nI_pos (by omega)) (br_f (nI_ge c (by omega)) ⟨j + 1, rfl, by omega, ih _ _⟩))
    · rw [if_neg c, ← nI_1 (j + 1)] at ih
      exact vc_ok (st := [33]) 100 (br_f (nI_pos (by omega)) (br_t (nI_le (Nat.le_of_not_lt c) (by omega)) (ih _ _)))
end FIL
