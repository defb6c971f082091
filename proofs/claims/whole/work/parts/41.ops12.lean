/-! sheet, write -/
section OPS12
variable {X : Xs} {h : Hp} {x y z : Int32} {Q : Qt} {V : Vw} {s b n : Nat}
theorem inv_sh (I : Inv h) {f : Nat → Nat → Int32} {g : Nat → Nat → Int64} (e : ∀ c, ¬ scr c → ¬ (9 ≤ c ∧ c ≤ 12) → c ≠ 62 → c ≠ 63 → f c = h.1 c) (is : IS (f, g)) : Inv (f, g) := by
  obtain ⟨V, v, rn, rm, ik, ir, it, _⟩ := I
  have e' : ∀ c, (c ≤ 3 ∨ c = 8 ∨ (14 ≤ c ∧ c ≤ 28) ∨ c = 48 ∨ c = 53 ∨ (55 ≤ c ∧ c ≤ 57)) → f c = h.1 c := fun c hc => e c (by unfold scr; omega) (by omega) (by omega) (by omega)
  refine ⟨V, v, rc_cg rn ?_ ?_ ?_ ?_ ?_ ?_ ?_ ?_, rm_cg rm ?_, ik_cg ik ?_ ?_ ?_, ir_cg ir ?_ ?_, it_cg it ?_ ?_ ?_ ?_, is⟩
  case refine_10 => show f 0 9 = _; rw [e' 0 (by omega)]
  case refine_11 => show f 1 3 = _; rw [e' 1 (by omega)]
  case refine_15 => show f 8 0 = _; rw [e' 8 (by omega)]
  case refine_16 => show f 1 6 = _; rw [e' 1 (by omega)]
  all_goals first
    | exact e' _ (by omega)
    | exact fun q hq => e' q (by omega)
theorem t_begin_x {a c : Int32} (hs : s < 4) (e : h.1 (9 + s) 1 = nI n) (q : Q none h) : Go X m_X3_begin 17 [.ref (9 + s), .int a, .int c, .int (nI n)] [] h Q := by
  have k := le_of e
  clear e
  rcases s4 hs with rfl | rfl | rfl | rfl <;> exact vg (br_t k q)
theorem t_begin_s {a c : Int32} {k : Nat} (hs : s < 4) (e : h.1 (9 + s) 1 = nI n) (hn : n ≤ 40) (hk : k < n) (q : Go X m_X3_begin 17 [.ref (9 + s), .int a, .int c, .int (nI (k + 1))] [] (h.1, up2 h.2 (49 + s) k 0) Q) : Go X m_X3_begin 17 [.ref (9 + s), .int a, .int c, .int (nI k)] [] h Q := by
  have p := nle_of e hk (by omega)
  rw [← nI_1] at q
  clear e
  have e0 : (0 : Int64) = Int64.ofNat ((0 : Fin 2) : Nat) := rfl
  rw [e0] at q
  rcases s4 hs with rfl | rfl | rfl | rfl <;> exact vc_ok (st := [17]) 100 (br_f p ⟨k, rfl, by omega, q⟩)
theorem t_begin (hs : s < 4) (hn : n ≤ 40) (q : ∀ g : Nat → Nat → Int64, (∀ i, i < n → g (49 + s) i = 0) → (∀ c, c ≠ 49 + s → g c = h.2 c) → Q none (up2 (up2 h.1 (9 + s) 0 (nI b)) (9 + s) 1 (nI n), g)) : Go X m_X3_begin 0 [.ref (9 + s), .int (nI b), .int (nI n), .null] [] h Q := by
  have em : (if nI 40 < nI n then nI 40 else nI n) = nI n := if_neg (nI_nlt hn (by decide))
  have k : Go X m_X3_begin 17 [.ref (9 + s), .int (nI b), .int (nI n), .int (nI 0)] [] (up2 (up2 h.1 (9 + s) 0 (nI b)) (9 + s) 1 (if nI 40 < nI n then nI 40 else nI n), h.2) Q := by
    rw [em]
    suffices hh : ∀ k, k ≤ n → ∀ g : Nat → Nat → Int64, (∀ i, i < k → g (49 + s) i = 0) → (∀ c, c ≠ 49 + s → g c = h.2 c) → Go X m_X3_begin 17 [.ref (9 + s), .int (nI b), .int (nI n), .int (nI k)] [] (up2 (up2 h.1 (9 + s) 0 (nI b)) (9 + s) 1 (nI n), g) Q from hh 0 (by omega) h.2 (fun i hi => absurd hi (by omega)) (fun c _ => rfl)
    refine down _ n ?_ ?_
    · exact fun g g1 g2 => t_begin_x hs (by show up2 _ _ _ _ _ _ = _; rw [u_at]) (q g g1 g2)
    · intro k hk ih g g1 g2
      refine t_begin_s hs (n := n) (by show up2 _ _ _ _ _ _ = _; rw [u_at]) hn hk (ih _ (allS (fun i hi => ?_) ?_) (fun c hc => ?_))
      · rw [u_ne (by omega)]; exact g1 i hi
      · rw [u_at]
      · rw [up2_ne hc]; exact g2 c hc
  clear em
  rcases s4 hs with rfl | rfl | rfl | rfl <;> exact vc_ok (st := [17]) 100 k
def shF (h : Hp) (s b n : Nat) : Nat → Nat → Int32 := up2 (up2 (up2 (up2 h.1 (9 + s) 0 (nI b)) (9 + s) 1 (nI n)) 62 s (nI b)) 63 s (nI n)
theorem shF_at (hs : s < 4) : shF h s b n (9 + s) 0 = nI b ∧ shF h s b n 62 s = nI b ∧ shF h s b n (9 + s) 1 = nI n ∧ shF h s b n 63 s = nI n := by
  unfold shF
  refine ⟨?_, ?_, ?_, u_at⟩
  · rw [up2_ne (by omega), up2_ne (by omega), u_ne (by omega), u_at]
  · rw [up2_ne (show (62 : Nat) ≠ 63 by decide), u_at]
  · rw [up2_ne (by omega), up2_ne (by omega), u_at]
theorem shF_ne (hs : s < 4) {t : Nat} (ht : t < 4) (e : t ≠ s) : shF h s b n (9 + t) = h.1 (9 + t) ∧ shF h s b n 62 t = h.1 62 t ∧ shF h s b n 63 t = h.1 63 t := by
  unfold shF
  refine ⟨?_, ?_, ?_⟩
  · rw [up2_ne (by omega), up2_ne (by omega), up2_ne (by omega), up2_ne (by omega)]
  · rw [up2_ne (show (62 : Nat) ≠ 63 by decide), u_ne e, up2_ne (by omega), up2_ne (by omega)]
  · rw [u_ne e, up2_ne (show (63 : Nat) ≠ 62 by decide), up2_ne (by omega), up2_ne (by omega)]
theorem op_sheet (I : Inv h) : Both X m_X6_sheet m_X7_sheet [.ref 0, .int x, .int y, .int z] [.ref 1, .int x, .int y, .int z, .null] h := by
  obtain ⟨V, v, rn, rm, ik, ir, it, is⟩ := id I
  unfold Both
  by_cases p1 : 0 ≤ x.toInt ∧ x.toInt < 4
  case neg =>
    refine vg (t_isSheet (fun z => absurd z p1) (fun _ => vg (br_t rfl (t_refuse 0 (by decide) (by decide) ?_))))
    refine vg (vg (t_isSheetM (fun z => absurd z p1) (fun _ => vg (br_t rfl (t_findsN 0 (by decide) rfl ?_)))))
    exact vg ⟨rfl, inv_ref I (by decide)⟩
  by_cases py : y = nI 0 ∨ y = nI 8 ∨ y = nI 16 ∨ y = nI 64
  case neg =>
    have n0 : ¬ y = 0 := fun e => py (Or.inl e)
    have n1 : ¬ y = nI 8 := fun e => py (Or.inr (Or.inl e))
    have n2 : ¬ y = nI 16 := fun e => py (Or.inr (Or.inr (Or.inl e)))
    have n3 : ¬ y = nI 64 := fun e => py (Or.inr (Or.inr (Or.inr e)))
    refine vg (t_isSheet (fun _ => vg (br_f (by decide) (br_f n0 (br_f n1 (br_f n2 (br_f n3 (t_refuse 0 (by decide) (by decide) ?_))))))) (fun z => absurd p1 z))
    refine vg (vg (t_isSheetM (fun _ => vg (br_f (by decide) (br_f n0 (br_f n1 (br_f n2 (br_f n3 (t_findsN 0 (by decide) rfl ?_))))))) (fun z => absurd p1 z)))
    exact vg ⟨rfl, inv_ref I (by decide)⟩
  have mod : ∀ {h : Hp} {Q : Qt}, Go X m_X7_sheet 35 [.ref 1, .int x, .int y, .int z, .null] [] h Q → Go X m_X7_sheet 0 [.ref 1, .int x, .int y, .int z, .null] [] h Q := fun g => vg (t_isSheetM (fun _ => by
    rcases py with rfl | rfl | rfl | rfl
    · exact vc_ok (st := [35]) 100 (br_f (by decide) (br_t rfl g))
    · exact vc_ok (st := [35]) 100 (br_f (by decide) (br_f (by decide) (br_t rfl g)))
    · exact vc_ok (st := [35]) 100 (br_f (by decide) (br_f (by decide) (br_f (by decide) (br_t rfl g))))
    · exact vc_ok (st := [35]) 100 (br_f (by decide) (br_f (by decide) (br_f (by decide) (br_f (by decide) (br_t rfl g)))))) (fun z => absurd p1 z))
  have cls : ∀ {h : Hp} {Q : Qt}, Go X m_X6_sheet 36 [.ref 0, .int x, .int y, .int z] [] h Q → Go X m_X6_sheet 0 [.ref 0, .int x, .int y, .int z] [] h Q := fun g => vg (t_isSheet (fun _ => by
    rcases py with rfl | rfl | rfl | rfl
    · exact vc_ok (st := [36]) 100 (br_f (by decide) (br_t rfl g))
    · exact vc_ok (st := [36]) 100 (br_f (by decide) (br_f (by decide) (br_t rfl g)))
    · exact vc_ok (st := [36]) 100 (br_f (by decide) (br_f (by decide) (br_f (by decide) (br_t rfl g))))
    · exact vc_ok (st := [36]) 100 (br_f (by decide) (br_f (by decide) (br_f (by decide) (br_f (by decide) (br_t rfl g)))))) (fun z => absurd p1 z))
  refine cls ?_
  by_cases p2 : 0 ≤ z
  case neg =>
    refine vg (br_f p2 (t_refuse 6 (by decide) (by decide) (vg (mod (vg (br_f p2 (t_findsN 6 (by decide) rfl ?_)))))))
    exact vg ⟨rfl, inv_ref I (by decide)⟩
  by_cases p3 : z ≤ nI 40
  case neg =>
    refine vg (br_t p2 (br_f p3 (t_refuse 0 (by decide) (by decide) (vg (mod (vg (br_t p2 (br_f p3 (t_findsN 0 (by decide) rfl ?_)))))))))
    exact vg ⟨rfl, inv_ref I (by decide)⟩
  obtain ⟨s, hs, rfl⟩ := nI_ex (n := 4) p1.1 (by omega) (by decide)
  have p3' := p3
  have p2' := p2
  rw [i_le, nT (by decide)] at p3'
  rw [i_le, i0] at p2'
  obtain ⟨m, hm, rfl⟩ := nI_ex (x := z) (n := 41) p2' (by omega) (by decide)
  obtain ⟨b, rfl, hb⟩ : ∃ b, y = nI b ∧ (b = 0 ∨ b = 8 ∨ b = 16 ∨ b = 64) := by
    rcases py with e | e | e | e
    · exact ⟨0, e, by omega⟩
    · exact ⟨8, e, by omega⟩
    · exact ⟨16, e, by omega⟩
    · exact ⟨64, e, by omega⟩
  have key : ∀ n, n ≤ 40 → (b = 0 → n = 0) → n = (if b = 0 then 0 else m) → ∀ g : Nat → Nat → Int64, (∀ i, i < n → g (49 + s) i = 0) → (∀ c, c ≠ 49 + s → g c = h.2 c) → BQ X m_X7_sheet [.ref 1, .int (nI s), .int (nI b), .int (nI m), .null] (some (.int (nI n))) (up2 (up2 h.1 (9 + s) 0 (nI b)) (9 + s) 1 (nI n), g) := by
    intro n hn hn0 en g g1 g2
    have lp : Go X m_X7_sheet 83 [.ref 1, .int (nI s), .int (nI b), .int (nI m), .int (nI 0)] [] (shF h s b n, g) (EQ (some (.int (nI n)))) := by
      suffices hh : ∀ k, k ≤ 40 → ∀ g' : Nat → Nat → Int64, (∀ i, i < k → g' 64 (40 * s + i) = 0) → (∀ c, c ≠ 64 → g' c = g c) → (∀ i, (i < 40 * s ∨ 40 * s + 40 ≤ i) → g' 64 i = g 64 i) → Go X m_X7_sheet 83 [.ref 1, .int (nI s), .int (nI b), .int (nI m), .int (nI k)] [] (shF h s b n, g') (EQ (some (.int (nI n)))) from hh 0 (by omega) g (fun i hi => absurd hi (by omega)) (fun c _ => rfl) (fun i _ => rfl)
      refine down _ 40 ?_ ?_
      · intro g' k1 k2 k3
        refine vg (br_t (Int32.le_refl _) ⟨s, rfl, hs, ?_, ?_⟩)
        · show some (Value.int (shF h s b n 63 s)) = _
          rw [(shF_at hs).2.2.2]
        · refine inv_sh I (fun c c0 c1 c2 c3 => ?_) (fun s' hs' => ?_)
          · unfold shF
            rw [up2_ne c3, up2_ne c2, up2_ne (by omega), up2_ne (by omega)]
          · show ∃ b' n', Sh (shF h s b n, g') s' b' n'
            by_cases e : s' = s
            · subst e
              obtain ⟨q1, q2, q3, q4⟩ := shF_at (h := h) (b := b) (n := n) hs
              refine ⟨b, n, hb, hn, hn0, q1, q2, q3, q4, fun i hi => ?_⟩
              show g' (49 + s') i = g' 64 (40 * s' + i)
              rw [k1 i (by omega), k2 (49 + s') (by omega), g1 i hi]
            · obtain ⟨b', n', q1, q2, q3, q4, q5, q6, q7, q8⟩ := is s' hs'
              obtain ⟨r1, r2, r3⟩ := shF_ne (h := h) (b := b) (n := n) hs hs' e
              refine ⟨b', n', q1, q2, q3, ?_, r2.trans q5, ?_, r3.trans q7, fun i hi => ?_⟩
              · show shF h s b n (9 + s') 0 = _
                rw [r1]; exact q4
              · show shF h s b n (9 + s') 1 = _
                rw [r1]; exact q6
              · show g' (49 + s') i = g' 64 (40 * s' + i)
                rw [k2 (49 + s') (by omega), k3 _ (by omega), g2 _ (by omega), g2 64 (by omega)]
                exact q8 i hi
      · intro k hk ih g' k1 k2 k3
        have ei : nI 40 * nI s + nI k = nI (40 * s + k) := by rw [pk_mul, nI_add]
        have := ih (up2 g' 64 (40 * s + k) 0) (allS (fun i hi => by rw [u_ne (by omega)]; exact k1 i hi) u_at) (fun c hc => by rw [up2_ne hc]; exact k2 c hc) (fun i hi => by rw [u_ne (by omega)]; exact k3 i hi)
        rw [← nI_1] at this
        exact vc_ok (st := [83]) 100 (br_f (nI_ge hk (by decide)) ⟨40 * s + k, ei, by omega, this⟩)
    refine mod (vc_ok (st := [83]) 100 (br_t p2 (br_t p3 ⟨s, rfl, hs, ?_⟩)))
    by_cases e : b = 0
    · rw [if_pos e] at en
      subst en
      subst e
      exact brn_f rfl ⟨s, rfl, hs, lp⟩
    · rw [if_neg e] at en
      subst en
      exact brn_t (nI_ne0 (by omega) (by omega)) ⟨s, rfl, hs, lp⟩
  refine vc_ok (st := [60]) 100 (br_t p2 (br_t p3 ?_))
  have fin : ∀ n, n ≤ 40 → (b = 0 → n = 0) → n = (if b = 0 then 0 else m) → Go X m_X3_begin 0 [.ref (9 + s), .int (nI b), .int (nI n), .null] [] h (fun v h' => Go X m_X6_sheet 79 [.ref 0, .int (nI s), .int (nI b), .int (nI m)] (pushO v []) h' (BQ X m_X7_sheet [.ref 1, .int (nI s), .int (nI b), .int (nI m), .null])) := by
    intro n hn hn0 en
    refine t_begin hs hn (fun g g1 g2 => ?_)
    have kk : BQ X m_X7_sheet [.ref 1, .int (nI s), .int (nI b), .int (nI m), .null] (some (.int (up2 (up2 h.1 (9 + s) 0 (nI b)) (9 + s) 1 (nI n) (9 + s) 1))) (up2 (up2 h.1 (9 + s) 0 (nI b)) (9 + s) 1 (nI n), g) := by
      rw [u_at]
      exact key n hn hn0 en g g1 g2
    clear key
    clear g1 g2
    rcases s4 hs with rfl | rfl | rfl | rfl
    · exact vg ⟨0, rfl, by decide, kk⟩
    · exact vg ⟨1, rfl, by decide, kk⟩
    · exact vg ⟨2, rfl, by decide, kk⟩
    · exact vg ⟨3, rfl, by decide, kk⟩
  clear key
  by_cases e : b = 0
  · subst e
    have k := fin 0 (by decide) (fun _ => rfl) rfl
    clear fin
    rcases s4 hs with rfl | rfl | rfl | rfl
    · exact vg ⟨0, rfl, by decide, brn_f rfl k⟩
    · exact vg ⟨1, rfl, by decide, brn_f rfl k⟩
    · exact vg ⟨2, rfl, by decide, brn_f rfl k⟩
    · exact vg ⟨3, rfl, by decide, brn_f rfl k⟩
  · have k := fin m (by omega) (fun z => absurd z e) (by rw [if_neg e])
    have e2 : ¬ nI b = 0 := nI_ne0 (by omega) (by omega)
    clear fin
    rcases s4 hs with rfl | rfl | rfl | rfl
    · exact vg ⟨0, rfl, by decide, brn_t e2 k⟩
    · exact vg ⟨1, rfl, by decide, brn_t e2 k⟩
    · exact vg ⟨2, rfl, by decide, brn_t e2 k⟩
    · exact vg ⟨3, rfl, by decide, brn_t e2 k⟩
end OPS12
