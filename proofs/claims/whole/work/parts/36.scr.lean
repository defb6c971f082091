section SCR
variable {X : Xs} {h : Hp} {x y : Int32} {Q : Qt} {V : Vw}
/-- cells that are scratch, on both sides -/
def scr (c : Nat) : Prop := (5 ≤ c ∧ c ≤ 7) ∨ (36 ≤ c ∧ c ≤ 47) ∨ c = 54 ∨ (58 ≤ c ∧ c ≤ 61) ∨ c = 65
theorem inv_scr (I : Inv h) {f : Nat → Nat → Int32} (e : ∀ c, ¬ scr c → f c = h.1 c) : Inv (f, h.2) := by
  have k : ∀ q, live q → f q = h.1 q := fun q hq => e q (by unfold live at hq; unfold scr; omega)
  exact inv_cg I (fun q hq => ⟨k q hq, rfl⟩) (congrFun (e 0 (by unfold scr; omega)) 9) (congrFun (e 1 (by unfold scr; omega)) 3) (congrFun (e 8 (by unfold scr; omega)) 0) (congrFun (e 1 (by unfold scr; omega)) 6)
theorem inv_ref2 (I : Inv h) {f : Nat → Nat → Int32} {k : Nat} (hk : k < 7) (e : ∀ c, ¬ scr c → c ≠ 14 → c ≠ 56 → f c = h.1 c) (e1 : f 14 = up2 h.1 14 k (h.1 14 k + 1) 14) (e2 : f 56 = up2 h.1 56 k (h.1 56 k + 1) 56) : Inv (f, h.2) := by
  refine inv_scr (inv_ref I hk) (fun c hc => ?_)
  show f c = up2 (up2 h.1 14 k (h.1 14 k + 1)) 56 k (up2 h.1 14 k (h.1 14 k + 1) 56 k + 1) c
  by_cases c1 : c = 56
  · subst c1
    rw [e2]
    funext j
    by_cases ej : j = k
    · subst ej; rw [u_at, u_at]; rfl
    · rw [u_ne ej, u_ne ej]; rfl
  · by_cases c2 : c = 14
    · subst c2
      rw [e1]; rfl
    · rw [e c hc c2 c1, up2_ne c1, up2_ne c2]
theorem rn_scr (rn : RN V h) {f : Nat → Nat → Int32} (e : ∀ c, ¬ scr c → f c = h.1 c) : RN V (f, h.2) := by
  have k : ∀ c, ¬ scr c → f c = h.1 c := e
  exact rc_cg rn (k 2 (by unfold scr; omega)) (k 15 (by unfold scr; omega)) (k 16 (by unfold scr; omega)) (k 17 (by unfold scr; omega)) (k 18 (by unfold scr; omega)) (k 19 (by unfold scr; omega)) (k 20 (by unfold scr; omega)) (k 21 (by unfold scr; omega))
theorem rm_scr (rm : RM V h 53) {f : Nat → Nat → Int32} (e : ∀ c, ¬ scr c → f c = h.1 c) : RM V (f, h.2) 53 := rm_cg rm (e 53 (by unfold scr; omega))
theorem sc_cl {f : Nat → Nat → Int32} {g : Nat → Nat → Int32} (e : ∀ c, ¬ clC c → f c = g c) : ∀ c, ¬ scr c → f c = g c := fun c hc => e c (fun z => hc (by unfold clC at z; unfold scr; omega))
theorem sc_42 {f : Nat → Nat → Int32} {g : Nat → Nat → Int32} (e : ∀ c, c ≠ 42 → f c = g c) : ∀ c, ¬ scr c → f c = g c := fun c hc => e c (fun z => hc (by subst z; unfold scr; omega))
theorem sc_58 {f : Nat → Nat → Int32} {g : Nat → Nat → Int32} (e : ∀ c, c ≠ 58 → f c = g c) : ∀ c, ¬ scr c → f c = g c := fun c hc => e c (fun z => hc (by subst z; unfold scr; omega))
theorem op_broken (I : Inv h) : Both X m_X6_broken m_X7_broken [.ref 0, .null] [.ref 1, .null] h := by
  obtain ⟨V, v, rn, rm, ik, ir, it, is⟩ := id I
  unfold Both
  have h1 := v.1
  refine vg (t_weave v rn (fun f cl f1 => vg ?_))
  have s1 := sc_cl f1
  have rn1 : RN V (f, h.2) := rn_scr rn s1
  refine t_firstBrokenC v cl rn1.1.2.2 (fun l hl => rn1.2.2.2.2 l hl) (fun r hr g g1 => ?_)
  have s2 : ∀ c, ¬ scr c → g c = h.1 c := fun c hc => (sc_42 g1 c hc).trans (s1 c hc)
  have rm2 : RM V (g, h.2) 53 := rm_scr rm s2
  rcases hr with ⟨l, hl, b1, b2, rfl⟩ | ⟨b1, rfl⟩
  · refine vg (br_t (nI_pos' (by omega)) (vg (t_firstBrokenM v rm2 (fun r hr k k1 => ?_))))
    have er := firstB_u hr (Or.inl ⟨l, hl, b1, b2, rfl⟩)
    subst er
    exact vg (br_t (nI_pos' (by omega)) ⟨rfl, inv_scr I (fun c hc => (sc_58 k1 c hc).trans (s2 c hc))⟩)
  · refine vg (br_f (by decide) (t_refuse 3 (by decide) (by decide) (vg (vg (t_firstBrokenM (h := (up2 g 14 3 (g 14 3 + 1), h.2)) v rm2 (fun r hr k k1 => ?_))))))
    have er := firstB_u hr (Or.inr ⟨b1, rfl⟩)
    subst er
    refine vg (br_f (by decide) (t_findsN 3 (by decide) rfl (vg ⟨rfl, ?_⟩)))
    have g14 : g 14 = h.1 14 := s2 14 (by unfold scr; omega)
    have g56 : g 56 = h.1 56 := s2 56 (by unfold scr; omega)
    have k14 : k 14 = up2 g 14 3 (g 14 3 + 1) 14 := k1 14 (by decide)
    have k56 : k 56 = g 56 := k1 56 (by decide)
    refine inv_ref2 I (k := 3) (by decide) (fun c hc c1 c2 => ?_) ?_ ?_
    · show up2 k 56 3 (k 56 3 + 1) c = _
      rw [up2_ne c2, sc_58 k1 c hc]
      show up2 g 14 3 (g 14 3 + 1) c = _
      rw [up2_ne c1, s2 c hc]
    · show k 14 = _
      rw [k14, up2_at, up2_at, g14]
    · show up2 k 56 3 (k 56 3 + 1) 56 = _
      rw [up2_at, up2_at, k56, g56]
theorem op_row (I : Inv h) : Both X m_X6_row m_X7_row [.ref 0, .int x] [.ref 1, .int x] h := by
  obtain ⟨V, v, rn, rm, ik, ir, it, is⟩ := id I
  unfold Both
  have h1 := v.1
  by_cases p1 : 0 ≤ x.toInt ∧ x.toInt < V 0 1
  case neg =>
    refine vg (t_hasRow v.1.2.1 rn.1.2.1 (fun z => absurd z p1) (fun _ => vg (brn_f rfl (t_refuse 0 (by decide) (by decide) ?_))))
    refine vg (vg (t_isRow v.1.2.1 rm.1.2.1 (fun z => absurd z p1) (fun _ => vg (br_t rfl (t_findsN 0 (by decide) rfl ?_)))))
    exact vg ⟨rfl, inv_ref I (by decide)⟩
  obtain ⟨i, hi, rfl⟩ := nI_ex (n := V 0 1) p1.1 (by omega) (by omega)
  refine vg (t_hasRow v.1.2.1 rn.1.2.1 (fun _ => vg (brn_t (by decide) (t_weave v rn (fun f cl f1 => vg (t_upIn v cl hi ?_))))) (fun z => absurd p1 z))
  have s1 := sc_cl f1
  have rm1 : RM V (f, h.2) 53 := rm_scr rm s1
  exact vg (vg (t_isRow v.1.2.1 rm1.1.2.1 (fun _ => vg (br_f (by decide) (t_rowOf v rm1 hi (vg ⟨rfl, inv_scr I s1⟩)))) (fun z => absurd p1 z)))
theorem op_floats (I : Inv h) : Both X m_X6_floats m_X7_floats [.ref 0, .int x] [.ref 1, .int x] h := by
  obtain ⟨V, v, rn, rm, ik, ir, it, is⟩ := id I
  unfold Both
  have e1 : (1 : Int32).toInt = 1 := rfl
  by_cases c0 : x = 0
  · subst c0
    refine vg (br_t rfl (t_weave v rn (fun f cl f1 => vg (brn_f rfl (t_longestAcross v cl ?_)))))
    have s1 := sc_cl f1
    have rm1 : RM V (f, h.2) 53 := rm_scr rm s1
    refine vg (vg (t_inI 0 1 rfl rfl (fun _ => vg (brn_t (by decide) (t_weaves v rm1 (fun g m1 g1 => vg (brn_f rfl (t_longestM v (rm_cg rm1 (g1 53 (by decide))) m1 (vg ⟨rfl, ?_⟩))))))) (fun z => absurd (by decide) z)))
    exact inv_scr I (fun c hc => (sc_58 g1 c hc).trans (s1 c hc))
  by_cases c1 : x = 1
  · subst c1
    refine vg (br_f (by decide) (br_t rfl (t_weave v rn (fun f cl f1 => vg (brn_t (by decide) (t_longestDown v cl (fun f2 f3 => ?_)))))))
    have s1 : ∀ c, ¬ scr c → f2 c = h.1 c := fun c hc => (sc_42 f3 c hc).trans (sc_cl f1 c hc)
    have rm1 : RM V (f2, h.2) 53 := rm_scr rm s1
    refine vg (vg (t_inI 0 1 rfl rfl (fun _ => vg (brn_t (by decide) (t_weaves v rm1 (fun g m1 g1 => vg (brn_t (by decide) (t_tightest v (rm_cg rm1 (g1 53 (by decide))) m1 (vg ⟨rfl, ?_⟩))))))) (fun z => absurd (by decide) z)))
    exact inv_scr I (fun c hc => (sc_58 g1 c hc).trans (s1 c hc))
  · have p1 : ¬ (0 ≤ x.toInt ∧ x.toInt ≤ 1) := by
      rw [i_eq, i0] at c0
      rw [i_eq, e1] at c1
      omega
    refine vg (br_f c0 (br_f c1 (t_refuse 0 (by decide) (by decide) ?_)))
    refine vg (vg (t_inI 0 1 rfl rfl (fun z => absurd z p1) (fun _ => vg (brn_f rfl (t_findsN 0 (by decide) rfl ?_)))))
    exact vg ⟨rfl, inv_ref I (by decide)⟩
/-- how often a card is picked -/
def cntN (V : Vw) (c : Nat) : Nat → Nat
  | 0 => 0
  | k + 1 => cntN V c k + (if V 4 k = c then 1 else 0)
theorem t_timesPicked (v : okV V) (rn : RN V h) {c : Nat} (hc : c < V 0 0) (q : Q (some (.int (nI (cntN V c (V 0 1))))) h) : Go X m_X1_timesPicked 0 [.ref 2, .int (nI c), .null, .null] [] h Q := by
  have h1 := v.1
  refine vc_ok (st := [4]) 40 ?_
  refine down (fun k => Go X m_X1_timesPicked 4 [.ref 2, .int (nI c), .int (nI (cntN V c k)), .int (nI k)] [] h Q) (V 0 1) ?_ ?_ 0 (by omega)
  · exact vg (br_t (by show h.1 2 4 ≤ _; rw [rn.1.2.1]; exact Int32.le_refl _) q)
  · intro k hk ih
    have h2 := v.2.2.2.1 k hk
    have e4 := rn.2.2.2.1 k hk
    have hlt : ¬ h.1 2 4 ≤ nI k := by rw [rn.1.2.1]; exact nI_ge hk (by omega)
    unfold cntN at ih
    by_cases e : V 4 k = c
    · rw [if_pos e, ← nI_1, ← nI_1] at ih
      exact vc_ok (st := [4]) 40 (br_f hlt ⟨k, rfl, by omega, brn_f (by show h.1 18 k = _; rw [e4, e]) ih⟩)
    · rw [if_neg e, Nat.add_zero, ← nI_1] at ih
      exact vc_ok (st := [4]) 40 (br_f hlt ⟨k, rfl, by omega, brn_t (by show ¬ h.1 18 k = _; rw [e4, nI_eq (by omega) (by omega)]; exact e) ih⟩)
theorem t_oftenIn (v : okV V) (rm : RM V h 53) {c : Nat} (hc : c < V 0 0) (q : Q (some (.int (nI (cntN V c (V 0 1))))) h) : Go X m_X7_oftenIn 0 [.ref 1, .int (nI c), .null, .null] [] h Q := by
  have h1 := v.1
  refine vc_ok (st := [4]) 40 ?_
  refine down (fun k => Go X m_X7_oftenIn 4 [.ref 1, .int (nI c), .int (nI (cntN V c k)), .int (nI k)] [] h Q) (V 0 1) ?_ ?_ 0 (by omega)
  · exact vg ⟨1, rfl, by decide, br_t (by show h.1 53 1 ≤ _; rw [rm.1.2.1]; exact Int32.le_refl _) q⟩
  · intro k hk ih
    have h2 := v.2.2.2.1 k hk
    have e4 := rm.2.2.2.1 k hk
    have hlt : ¬ h.1 53 1 ≤ nI k := by rw [rm.1.2.1]; exact nI_ge hk (by omega)
    unfold cntN at ih
    by_cases e : V 4 k = c
    · rw [if_pos e, ← nI_1, ← nI_1] at ih
      exact vc_ok (st := [4]) 40 ⟨1, rfl, by decide, br_f hlt ⟨40 + k, nI_add 40 k, by omega, brn_f (by show h.1 53 (40 + k) = _; rw [e4, e]) ih⟩⟩
    · rw [if_neg e, ← nI_add, ← nI_1] at ih
      exact vc_ok (st := [4]) 40 ⟨1, rfl, by decide, br_f hlt ⟨40 + k, nI_add 40 k, by omega, brn_t (by show ¬ h.1 53 (40 + k) = _; rw [e4, nI_eq (by omega) (by omega)]; exact e) ih⟩⟩
theorem op_of (I : Inv h) : Both X m_X6_of m_X7_of [.ref 0, .int x, .int y] [.ref 1, .int x, .int y] h := by
  obtain ⟨V, v, rn, rm, ik, ir, it, is⟩ := id I
  unfold Both
  have h1 := v.1
  by_cases p1 : 0 ≤ x.toInt ∧ x.toInt < V 0 0
  case neg =>
    refine vg (t_hasCard v.1.1 rn.1.1 (fun z => absurd z p1) (fun _ => vg (brn_f rfl (t_refuse 0 (by decide) (by decide) ?_))))
    refine vg (vg (t_isCard v.1.1 rm.1.1 (fun z => absurd z p1) (fun _ => vg (br_t rfl (t_findsN 0 (by decide) rfl ?_)))))
    exact vg ⟨rfl, inv_ref I (by decide)⟩
  obtain ⟨c, hc, rfl⟩ := nI_ex (n := V 0 0) p1.1 (by omega) (by omega)
  obtain ⟨a1, a2, a3⟩ := v.2.1 c hc
  obtain ⟨b1, b2⟩ := rn.2.1 c hc
  have mod : ∀ {f : Nat → Nat → Int32} {Q : Qt}, RM V (f, h.2) 53 → (0 ≤ y.toInt ∧ y.toInt ≤ 4) → Go X m_X7_of 26 [.ref 1, .int (nI c), .int y] [] (f, h.2) Q → Go X m_X7_of 0 [.ref 1, .int (nI c), .int y] [] (f, h.2) Q := fun r p g => vg (t_isCard v.1.1 r.1.1 (fun _ => vg (br_f (by decide) (t_inI 0 4 rfl rfl (fun _ => vc_ok (st := [26]) 40 (brn_t (by decide) g)) (fun z => absurd p z)))) (fun z => absurd p1 z))
  refine vg (t_hasCard v.1.1 rn.1.1 (fun _ => vc_ok (st := [52, 62, 72, 85, 94, 115]) 40 (brn_t (by decide) ⟨⟨fun d => ?_, fun d => ?_, fun d => ?_, fun d => ?_, fun d => ?_, trivial⟩, fun d => ?_⟩)) (fun z => absurd p1 z))
  · refine vg ⟨c, rfl, by omega, mod rm (by omega) (vc_ok (st := [56, 65, 75, 87, 93]) 40 ⟨⟨fun _ => ?_, sw_ne (by omega), sw_ne (by omega), sw_ne (by omega), trivial⟩, fun z => absurd z (by omega)⟩)⟩
    refine vg ⟨4 + c, nI_add 4 c, by omega, ?_, I⟩
    show some (Value.int (h.1 53 (4 + c))) = some (Value.int (h.1 15 c))
    rw [b1, (rm.2.1 c hc).1]
  · refine vg ⟨c, rfl, by omega, mod rm (by omega) (vc_ok (st := [56, 65, 75, 87, 93]) 40 ⟨⟨sw_ne (by omega), fun _ => ?_, sw_ne (by omega), sw_ne (by omega), trivial⟩, fun z => absurd z (by omega)⟩)⟩
    refine vg ⟨14 + c, nI_add 14 c, by omega, ?_, I⟩
    show some (Value.int (h.1 53 (14 + c))) = some (Value.int (h.1 16 c))
    rw [b2, (rm.2.1 c hc).2]
  · refine vg ⟨c, rfl, by omega, ?_⟩
    show Go X m_J6_bitCount_0f7a4 0 [.int (h.1 15 c)] [] h _
    rw [b1]
    refine t_bitCount (by omega) (vg (mod rm (by omega) (vc_ok (st := [56, 65, 75, 87, 93]) 40 ⟨⟨sw_ne (by omega), sw_ne (by omega), fun _ => ?_, sw_ne (by omega), trivial⟩, fun z => absurd z (by omega)⟩)))
    refine vg ⟨4 + c, nI_add 4 c, by omega, ?_⟩
    show Go X m_X7_ones 0 [.int (h.1 53 (4 + c)), .null, .null] [] h _
    rw [(rm.2.1 c hc).1]
    exact t_onesN (by omega) (vg ⟨rfl, I⟩)
  · refine vg (t_timesPicked v rn hc (vg (mod rm (by omega) (vc_ok (st := [56, 65, 75, 87, 93]) 40 ⟨⟨sw_ne (by omega), sw_ne (by omega), sw_ne (by omega), fun _ => ?_, trivial⟩, fun z => absurd z (by omega)⟩))))
    exact vg (t_oftenIn v rm hc (vg ⟨rfl, I⟩))
  · refine vg (t_weave v rn (fun f cl f1 => vg ⟨c, rfl, by omega, ?_⟩))
    have s1 := sc_cl f1
    have rm1 : RM V (f, h.2) 53 := rm_scr rm s1
    refine mod rm1 (by omega) (vc_ok (st := [56, 65, 75, 87, 93]) 40 ⟨⟨sw_ne (by omega), sw_ne (by omega), sw_ne (by omega), sw_ne (by omega), trivial⟩, fun _ => ?_⟩)
    refine vg ⟨4 + c, nI_add 4 c, by omega, ?_⟩
    show Go X m_X7_upBy 0 [.ref 1, .int (f 53 (4 + c)), .null, .null] [] (f, h.2) _
    rw [show f 53 (4 + c) = nI (V 1 c) from (rm1.2.1 c hc).1]
    refine t_upBy v rm1 a1 (vg ⟨?_, inv_scr I s1⟩)
    show some (Value.int (nI (up V (V 1 c)))) = some (Value.int (f 37 c))
    rw [(cl.2.2.2.1 c hc).2.1]
  · refine vg (t_refuse 0 (by decide) (by decide) (vg (vg (t_isCard v.1.1 rm.1.1 (fun _ => vg (br_f (by decide) (t_inI 0 4 rfl rfl (fun z => absurd d (by omega)) (fun _ => vg (brn_f rfl (t_findsN 0 (by decide) rfl ?_)))))) (fun z => absurd p1 z)))))
    exact vg ⟨rfl, inv_ref I (by decide)⟩
theorem op_lawOf (I : Inv h) : Both X m_X6_lawOf m_X7_lawOf [.ref 0, .int x, .int y] [.ref 1, .int x, .int y] h := by
  obtain ⟨V, v, rn, rm, ik, ir, it, is⟩ := id I
  unfold Both
  have h1 := v.1
  by_cases p1 : 0 ≤ x.toInt ∧ x.toInt < V 0 2
  case neg =>
    refine vg (t_hasLaw v.1.2.2 rn.1.2.2 (fun z => absurd z p1) (fun _ => vg (brn_f rfl (t_refuse 0 (by decide) (by decide) ?_))))
    refine vg (vg (t_isLaw v.1.2.2 rm.1.2.2 (fun z => absurd z p1) (fun _ => vg (br_t rfl (t_findsN 0 (by decide) rfl ?_)))))
    exact vg ⟨rfl, inv_ref I (by decide)⟩
  obtain ⟨l, hl, rfl⟩ := nI_ex (n := V 0 2) p1.1 (by omega) (by omega)
  obtain ⟨a1, a2, a3, a4⟩ := v.2.2.2.2 l hl
  obtain ⟨b1, b2, b3⟩ := rn.2.2.2.2 l hl
  have mod : ∀ {f : Nat → Nat → Int32} {Q : Qt}, RM V (f, h.2) 53 → (0 ≤ y.toInt ∧ y.toInt ≤ 3) → (∀ g : Nat → Nat → Int32, Mc V g (V 0 1) → (∀ c, c ≠ 58 → g c = f c) → Go X m_X7_lawOf 30 [.ref 1, .int (nI l), .int y] [] (g, h.2) Q) → Go X m_X7_lawOf 0 [.ref 1, .int (nI l), .int y] [] (f, h.2) Q := fun {f} {Q} r p g => vg (t_isLaw v.1.2.2 r.1.2.2 (fun _ => vg (br_f (by decide) (t_inI 0 3 rfl rfl (fun _ => vg (brn_t (by decide) (t_weaves v r (fun k k1 k2 => g k k1 k2)))) (fun z => absurd p z)))) (fun z => absurd p1 z))
  have y0 : ∀ k : Nat, k < 4 → y.toInt = k → y = nI k := fun k hk e => by rw [i_eq, e, nT (by omega)]
  refine vg (t_hasLaw v.1.2.2 rn.1.2.2 (fun _ => vc_ok (st := [48, 58, 68, 78, 123]) 40 (brn_t (by decide) ⟨⟨fun d => ?_, fun d => ?_, fun d => ?_, fun d => ?_, trivial⟩, fun d => ?_⟩)) (fun z => absurd p1 z))
  · have ey := y0 0 (by decide) (by omega)
    subst ey
    refine vg ⟨l, rfl, by omega, mod rm (by decide) (fun g m1 g1 => vg (brn_f rfl ⟨60 + l, nI_add 60 l, by omega, ?_, inv_scr I (sc_58 g1)⟩))⟩
    show some (Value.int (g 53 (60 + l))) = some (Value.int (h.1 19 l))
    rw [g1 53 (by decide), b1, (rm.2.2.2.2 l hl).1]
  · have ey := y0 1 (by decide) (by omega)
    subst ey
    refine vg ⟨l, rfl, by omega, mod rm (by decide) (fun g m1 g1 => vg (brn_t (by decide) (brn_f rfl ⟨66 + l, nI_add 66 l, by omega, ?_, inv_scr I (sc_58 g1)⟩)))⟩
    show some (Value.int (g 53 (66 + l))) = some (Value.int (h.1 20 l))
    rw [g1 53 (by decide), b2, (rm.2.2.2.2 l hl).2.1]
  · have ey := y0 2 (by decide) (by omega)
    subst ey
    refine vg ⟨l, rfl, by omega, mod rm (by decide) (fun g m1 g1 => vg (brn_t (by decide) (brn_t (by decide) (brn_f rfl ⟨72 + l, nI_add 72 l, by omega, ?_, inv_scr I (sc_58 g1)⟩))))⟩
    show some (Value.int (g 53 (72 + l))) = some (Value.int (h.1 21 l))
    rw [g1 53 (by decide), b3, (rm.2.2.2.2 l hl).2.2]
  · have ey := y0 3 (by decide) (by omega)
    subst ey
    refine vg (t_weave v rn (fun f cl f1 => vg ⟨l, rfl, by omega, l, rfl, by omega, ?_⟩))
    have s1 := sc_cl f1
    have rn1 : RN V (f, h.2) := rn_scr rn s1
    show Go X m_X0_keeps 0 [.ref 5, .int (f 19 l), .int (f 20 l)] [] (f, h.2) _
    rw [show f 19 l = nI (V 5 l) from (rn1.2.2.2.2 l hl).1, show f 20 l = nI (V 6 l) from (rn1.2.2.2.2 l hl).2.1]
    refine t_keeps v cl a1 a3 (fun p g g1 => vg (br_f (by decide) ?_)) (fun p g g1 => vg (br_t rfl ?_))
    · have s2 : ∀ c, ¬ scr c → g c = h.1 c := fun c hc => (sc_42 g1 c hc).trans (s1 c hc)
      have rm2 : RM V (g, h.2) 53 := rm_scr rm s2
      exact mod rm2 (by decide) (fun k m1 k1 => vg (brn_t (by decide) (brn_t (by decide) (brn_t (by decide) (t_isKeptBy v (rm_cg rm2 (k1 53 (by decide))) m1 hl (fun _ => vg (br_f (by decide) ⟨rfl, inv_scr I (fun c hc => (sc_58 k1 c hc).trans (s2 c hc))⟩)) (fun z => absurd p z))))))
    · have s2 : ∀ c, ¬ scr c → g c = h.1 c := fun c hc => (sc_42 g1 c hc).trans (s1 c hc)
      have rm2 : RM V (g, h.2) 53 := rm_scr rm s2
      exact mod rm2 (by decide) (fun k m1 k1 => vg (brn_t (by decide) (brn_t (by decide) (brn_t (by decide) (t_isKeptBy v (rm_cg rm2 (k1 53 (by decide))) m1 hl (fun z => absurd z p) (fun _ => vg (br_t rfl ⟨rfl, inv_scr I (fun c hc => (sc_58 k1 c hc).trans (s2 c hc))⟩)))))))
  · refine vg (t_refuse 0 (by decide) (by decide) (vg (vg (t_isLaw v.1.2.2 rm.1.2.2 (fun _ => vg (br_f (by decide) (t_inI 0 3 rfl rfl (fun z => absurd d (by omega)) (fun _ => vg (brn_f rfl (t_findsN 0 (by decide) rfl ?_)))))) (fun z => absurd p1 z)))))
    exact vg ⟨rfl, inv_ref I (by decide)⟩
end SCR
