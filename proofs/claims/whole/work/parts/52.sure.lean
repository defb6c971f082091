/-! sure, fill, ask -/
section SUR
variable {X : Xs} {h : Hp} {Q : Qt} {V : Vw} {x y : Int32}
theorem cnt_le (V : Vw) (c : Nat) : ∀ n, cntN V c n ≤ n
  | 0 => Nat.le_refl _
  | n + 1 => by
    have := cnt_le V c n
    show cntN V c n + (if V 4 n = c then 1 else 0) ≤ n + 1
    split <;> omega
/-- the answer for a place -/
def inA (t n : Nat) : Nat := if n = 0 then 0 else if n = t then 1 else 2
theorem t_inAll (v : okV V) (m12 : MM V ≤ 12) {w k : Nat} {i : Int32} (hw : w ≤ 4096) (hk : k < MM V) (sr : SR V i h.1 w) (q : Q (some (.int (nI (inA (totN V w) (htN V k w))))) h) : Go X m_X5_inAll 0 [.ref 6, .int (nI k)] [] h Q := by
  have tl := tot_le V w
  have hl := ht_le V k w
  have e := sr.2.2 k hk
  unfold inA at q
  by_cases c : htN V k w = 0
  · rw [if_pos c] at q
    exact vg ⟨k, rfl, by omega, brn_f (show h.1 45 k = 0 by rw [e, c]; rfl) q⟩
  · rw [if_neg c] at q
    have n0 : ¬ h.1 45 k = 0 := by rw [e]; exact nI_ne0 (by omega) (by omega)
    by_cases c2 : htN V k w = totN V w
    · rw [if_pos c2] at q
      exact vg ⟨k, rfl, by omega, brn_t n0 ⟨k, rfl, by omega, brn_f (show h.1 45 k = h.1 6 3 by rw [e, sr.1, c2]) q⟩⟩
    · rw [if_neg c2] at q
      exact vg ⟨k, rfl, by omega, brn_t n0 ⟨k, rfl, by omega, brn_t (show ¬ h.1 45 k = h.1 6 3 by rw [e, sr.1, nI_eq (by omega) (by omega)]; exact c2) q⟩⟩
theorem op_sure (I : Inv h) : Both X m_X6_sure m_X7_sure [.ref 0, .int x, .int y, .null] [.ref 1, .int x, .int y, .null, .null] h := by
  obtain ⟨V, v, rn, rm, ik, ir, it, is⟩ := id I
  unfold Both
  have h1 := v.1
  by_cases p1 : 0 ≤ x.toInt ∧ x.toInt < V 0 0
  case neg =>
    refine vg (t_hasCard v.1.1 rn.1.1 (fun z => absurd z p1) (fun _ => vg (br_t rfl (t_refuse 0 (by decide) (by decide) ?_))))
    refine vg (vg (t_isCard v.1.1 rm.1.1 (fun z => absurd z p1) (fun _ => vg (br_t rfl (t_findsN 0 (by decide) rfl ?_)))))
    exact vg ⟨rfl, inv_ref I (by decide)⟩
  by_cases p2 : 0 ≤ y.toInt ∧ y.toInt < 8
  case neg =>
    refine vg (t_hasCard v.1.1 rn.1.1 (fun _ => vg (br_f (by decide) (t_isHook (fun z => absurd z p2) (fun _ => vg (brn_f rfl (t_refuse 0 (by decide) (by decide) ?_)))))) (fun z => absurd p1 z))
    refine vg (vg (t_isCard v.1.1 rm.1.1 (fun _ => vg (br_f (by decide) (t_inI 0 7 rfl rfl (fun z => absurd (by omega) p2) (fun _ => vg (brn_f rfl (t_findsN 0 (by decide) rfl ?_)))))) (fun z => absurd p1 z)))
    exact vg ⟨rfl, inv_ref I (by decide)⟩
  obtain ⟨c, hc, rfl⟩ := nI_ex (n := V 0 0) p1.1 (by omega) (by omega)
  obtain ⟨j, hj, rfl⟩ := nI_ex (x := y) (n := 8) p2.1 (by omega) (by decide)
  obtain ⟨a1, a2, a3⟩ := v.2.1 c hc
  have cl := cnt_le V c (V 0 1)
  have cls : ∀ {Q : Qt}, Go X m_X6_sure 33 [.ref 0, .int (nI c), .int (nI j), .null] [.int (nI (cntN V c (V 0 1)))] h Q → Go X m_X6_sure 0 [.ref 0, .int (nI c), .int (nI j), .null] [] h Q := fun g => vg (t_hasCard v.1.1 rn.1.1 (fun _ => vg (br_f (by decide) (t_isHook (fun _ => vg (brn_t (by decide) (t_timesPicked v rn hc g))) (fun z => absurd p2 z)))) (fun z => absurd p1 z))
  have mod : ∀ {f : Nat → Nat → Int32} {Q : Qt}, RM V (f, h.2) 53 → Go X m_X7_sure 31 [.ref 1, .int (nI c), .int (nI j), .null, .null] [.int (nI (cntN V c (V 0 1)))] (f, h.2) Q → Go X m_X7_sure 0 [.ref 1, .int (nI c), .int (nI j), .null, .null] [] (f, h.2) Q := fun r g => vg (t_isCard v.1.1 r.1.1 (fun _ => vg (br_f (by decide) (t_inI 0 7 rfl rfl (fun _ => vg (brn_t (by decide) (t_oftenIn v r hc g))) (fun z => absurd (by omega) z)))) (fun z => absurd p1 z))
  refine cls ?_
  by_cases p3 : cntN V c (V 0 1) = 0
  · refine vg (brn_f (show nI (cntN V c (V 0 1)) = 0 by rw [p3]; rfl) (t_refuse 4 (by decide) (by decide) (vg (mod (f := up2 h.1 14 4 (h.1 14 4 + 1)) rm (vg (brn_f (show nI (cntN V c (V 0 1)) = 0 by rw [p3]; rfl) (t_findsN 4 (by decide) rfl ?_)))))))
    exact vg ⟨rfl, inv_ref I (by decide)⟩
  have n3 : ¬ nI (cntN V c (V 0 1)) = 0 := nI_ne0 (by omega) (by omega)
  refine vg (brn_t n3 (t_gather v rn (fun m12 f ga fg => ?_) (fun m12 f fg => ?_)))
  case refine_2 =>
    have s1 := scr_fg fg (k := h.1) (fun _ _ => rfl)
    have rm1 : RM V (f, h.2) 53 := rm_scr rm s1
    exact vg (brn_f rfl (t_refuse 6 (by decide) (by decide) (vg (mod (f := up2 f 14 6 (f 14 6 + 1)) rm1 (vg (brn_t n3 (t_findWays (h := (up2 f 14 6 (f 14 6 + 1), h.2)) v rm1 (fun z => absurd m12 (Nat.not_lt.mpr z)) (fun _ k fr rk => vg (brn_f rfl (t_findsN 6 (by decide) rfl (vg ⟨rfl, inv_wref I v rn s1 (by decide) fr rk⟩)))))))))))
  have m12 : MM V ≤ 12 := m12
  have hw : 2 ^ MM V ≤ 4096 := Nat.pow_le_pow_right (n := 2) (by decide) m12
  have s1 := scr_fg fg (k := h.1) (fun _ _ => rfl)
  refine vg (brn_t (by decide) (t_search v (rn_scr rn s1) m12 ⟨ga.1, ga.2.2⟩ (fun g pa sr s2 => ?_)))
  have s3 : ∀ c, ¬ scr c → g c = h.1 c := fun c hc => (s2 c hc).trans (s1 c hc)
  have rn3 : RN V (g, h.2) := rn_scr rn s3
  have rm3 : RM V (g, h.2) 53 := rm_scr rm s3
  have tl := tot_le V (2 ^ MM V)
  by_cases p4 : totN V (2 ^ MM V) = 0
  · refine vg (brn_f (show g 6 3 = 0 by rw [sr.1, p4]; rfl) (t_refuse 3 (by decide) (by decide) (vg (mod (f := up2 g 14 3 (g 14 3 + 1)) rm3 (vg (brn_t n3 (t_findWays (h := (up2 g 14 3 (g 14 3 + 1), h.2)) v rm3 (fun _ k pm mr fr rk => vg (brn_t (by decide) (brn_f ?_ (t_findsN 3 (by decide) rfl (vg ⟨rfl, inv_wref I v rn s3 (by decide) fr rk⟩))))) (fun z => absurd m12 (Nat.not_le.mpr z)))))))))
    show k 1 11 = 0
    rw [mr.1, p4]
    rfl
  have n4 : ¬ g 6 3 = 0 := by rw [sr.1]; exact nI_ne0 (by omega) (by omega)
  have key : ∀ m, m < MM V → (10 * (KK V m / 8) + KK V m % 8 = 10 * c + j ↔ (KK V m / 8 = c ∧ KK V m % 8 = j)) := fun m hm => by
    have := kk_lt V m hm
    omega
  obtain ⟨m, ⟨m1, m2⟩, m3⟩ := pk_least (fun k => k ≤ MM V ∧ (k = MM V ∨ (KK V k / 8 = c ∧ KK V k % 8 = j))) ⟨MM V, Nat.le_refl _, Or.inl rfl⟩
  have m4 : ∀ k, k < m → ¬ (KK V k / 8 = c ∧ KK V k % 8 = j) := fun k hk z => m3 k hk ⟨by omega, Or.inr z⟩
  have p43 : ∀ k, k < MM V → g 43 k = nI (KK V k / 8) := fun k hk => (pa.2 k hk).1
  have p44 : ∀ k, k < MM V → g 44 k = nI (KK V k % 8) := fun k hk => (pa.2 k hk).2
  -- the class looks the place up
  have look : ∀ {Q : Qt}, Q (some (.int (if m = MM V then -1 else nI m))) (g, h.2) → Go X m_X5_placeOf 0 [.ref 6, .int (nI c), .int (nI j), .null] [] (g, h.2) Q := by
    intro Q q
    refine vc_ok (st := [2]) 100 ?_
    refine down (fun k => Go X m_X5_placeOf 2 [.ref 6, .int (nI c), .int (nI j), .int (nI k)] [] (g, h.2) Q) m ?_ ?_ 0 (by omega)
    · by_cases e : m = MM V
      · rw [if_pos e] at q
        exact vg (br_t (by rw [e]; exact le_of pa.1) q)
      · rw [if_neg e] at q
        have z : KK V m / 8 = c ∧ KK V m % 8 = j := by rcases m2 with z | z; exact absurd z e; exact z
        exact vg (br_f (nle_of pa.1 (by omega) (by omega)) ⟨m, rfl, by omega, brn_f (show g 43 m = nI c by rw [p43 m (by omega), z.1]) ⟨m, rfl, by omega, brn_f (show g 44 m = nI j by rw [p44 m (by omega), z.2]) q⟩⟩)
    · intro k hk ih
      have kl := kk_lt V k (by omega)
      rw [← nI_1] at ih
      by_cases e : KK V k / 8 = c
      · have e2 : ¬ KK V k % 8 = j := fun z => m4 k hk ⟨e, z⟩
        exact vc_ok (st := [2]) 100 (br_f (nle_of pa.1 (by omega) (by omega)) ⟨k, rfl, by omega, brn_f (show g 43 k = nI c by rw [p43 k (by omega), e]) ⟨k, rfl, by omega, brn_t (show ¬ g 44 k = nI j by rw [p44 k (by omega), nI_eq (by omega) (by omega)]; exact e2) ih⟩⟩)
      · exact vc_ok (st := [2]) 100 (br_f (nle_of pa.1 (by omega) (by omega)) ⟨k, rfl, by omega, brn_t (show ¬ g 43 k = nI c by rw [p43 k (by omega), nI_eq (by omega) (by omega)]; exact e) ih⟩)
  -- the reference's answer
  have mm : BQ X m_X7_sure [.ref 1, .int (nI c), .int (nI j), .null, .null] (some (.int (if m = MM V then nI (valN (V 1 c) (V 2 c) j) else nI (inA (totN V (2 ^ MM V)) (htN V m (2 ^ MM V)))))) (g, h.2) := by
    refine mod rm3 (vg (brn_t n3 (t_findWays v rm3 (fun _ k pm mr fr rk => ?_) (fun z => absurd m12 (Nat.not_le.mpr z)))))
    refine vc_ok (st := [69]) 100 (brn_t (by decide) (brn_t (show ¬ k 1 11 = 0 by rw [mr.1]; exact nI_ne0 (by omega) (by omega)) ?_))
    have IV := inv_ways I v rn s3 fr rk
    suffices hh : ∀ i, i ≤ m → ∀ l4 : Value, Go X m_X7_sure 69 [.ref 1, .int (nI c), .int (nI j), .int (nI i), l4] [] (k, h.2) (EQ (some (.int (if m = MM V then nI (valN (V 1 c) (V 2 c) j) else nI (inA (totN V (2 ^ MM V)) (htN V m (2 ^ MM V))))))) from hh 0 (by omega) _
    refine down _ m ?_ ?_
    · intro l4
      by_cases e : m = MM V
      · rw [if_pos e]
        refine vg (br_t (by rw [e]; exact le_of pm.1) (t_hasAt (by omega) hj a1 a2 a3 (rk.2.1 c hc).1 (rk.2.1 c hc).2 (vg ⟨rfl, IV⟩)))
      · rw [if_neg e]
        have z : KK V m / 8 = c ∧ KK V m % 8 = j := by rcases m2 with z | z; exact absurd z e; exact z
        have hl := ht_le V m (2 ^ MM V)
        refine vg (br_f (nle_of pm.1 (by omega) (by omega)) ⟨m, rfl, by omega, brn_f ?_ (t_withHole hw (by omega) mr ?_)⟩)
        · show k 59 m = nI 10 * nI c + nI j
          rw [pm.2 m (by omega), pk_mul, nI_add, (key m (by omega)).mpr z]
        · unfold inA
          by_cases c1 : htN V m (2 ^ MM V) = 0
          · rw [if_pos c1, c1]
            exact vg (brn_f rfl ⟨rfl, IV⟩)
          · rw [if_neg c1]
            by_cases c2 : htN V m (2 ^ MM V) = totN V (2 ^ MM V)
            · rw [if_pos c2]
              exact vg (brn_t (nI_ne0 (by omega) (by omega)) (brn_f (show nI (htN V m (2 ^ MM V)) = k 1 11 by rw [mr.1, c2]) ⟨rfl, IV⟩))
            · rw [if_neg c2]
              exact vg (brn_t (nI_ne0 (by omega) (by omega)) (brn_t (show ¬ nI (htN V m (2 ^ MM V)) = k 1 11 by rw [mr.1, nI_eq (by omega) (by omega)]; exact c2) ⟨rfl, IV⟩))
    · intro i hi ih l4
      have kl := kk_lt V i (by omega)
      have nx := ih l4
      rw [← nI_1] at nx
      refine vc_ok (st := [69]) 100 (br_f (nle_of pm.1 (by omega) (by omega)) ⟨i, rfl, by omega, brn_t ?_ nx⟩)
      show ¬ k 59 i = nI 10 * nI c + nI j
      rw [pm.2 i (by omega), pk_mul, nI_add, nI_eq (by omega) (by omega), key i (by omega)]
      exact m4 i hi
  refine vg (brn_t n4 (look ?_))
  by_cases e : m = MM V
  · rw [if_pos e] at mm ⊢
    exact vg (br_f (by decide) (t_valueAt (by omega) hj a1 a2 (rn3.2.1 c hc).1 (rn3.2.1 c hc).2 (vg mm)))
  · rw [if_neg e] at mm ⊢
    exact vg (br_t (nI_pos' (by omega)) (t_inAll v m12 hw (by omega) sr (vg mm)))
end SUR
