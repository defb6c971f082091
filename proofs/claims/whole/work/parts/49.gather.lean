/-! the eaten places are found -/
section GAT
variable {X : Xs} {h : Hp} {Q : Qt} {V : Vw}
def GA (V : Vw) (f : Nat → Nat → Int32) (q : Nat) : Prop := f 6 0 = nI (plC V q) ∧ plC V q ≤ 12 ∧ ∀ j, j < plC V q → f 43 j = nI (plF V q j / 8) ∧ f 44 j = nI (plF V q j % 8)
def FG (f g : Nat → Nat → Int32) : Prop := ∀ c, c ≠ 6 → c ≠ 43 → c ≠ 44 → f c = g c
theorem plC_s (V : Vw) (q : Nat) : plC V (q + 1) = if plP V q then plC V q + 1 else plC V q := rfl
theorem plF_s (V : Vw) (q : Nat) : plF V (q + 1) = if plP V q then (fun j => if j = plC V q then q else plF V q j) else plF V q := rfl
theorem ga_no {f : Nat → Nat → Int32} {q : Nat} (g : GA V f q) (p : ¬ plP V q) : GA V f (q + 1) := by
  unfold GA
  rw [plC_s, plF_s, if_neg p, if_neg p]
  exact g
theorem ga_yes {f : Nat → Nat → Int32} {q : Nat} (g : GA V f q) (p : plP V q) (l : plC V q < 12) : GA V (up2 (up2 (up2 f 43 (plC V q) (nI (q / 8))) 44 (plC V q) (nI (q % 8))) 6 0 (nI (plC V q + 1))) (q + 1) := by
  unfold GA
  rw [plC_s, plF_s, if_pos p, if_pos p]
  refine ⟨u_at, by omega, fun j hj => ?_⟩
  show up2 f 43 (plC V q) (nI (q / 8)) 43 j = _ ∧ up2 (up2 f 43 (plC V q) (nI (q / 8))) 44 (plC V q) (nI (q % 8)) 44 j = _
  by_cases e : j = plC V q
  · subst e
    rw [u_at, u_at]
    simp only [if_true]
    exact ⟨trivial, trivial⟩
  · rw [u_ne e, u_ne e]
    simp only [if_neg e]
    exact g.2.2 j (by omega)
theorem q8 (c k : Nat) (hk : k < 8) : (8 * c + k) / 8 = c ∧ (8 * c + k) % 8 = k := by omega
theorem t_gatherFrom (v : okV V) (rn : RN V h) {c : Nat} (hc : c < V 0 0) (pc : 0 < cntN V c (V 0 1)) (ga : GA V h.1 (8 * c)) (a : ∀ f : Nat → Nat → Int32, GA V f (8 * (c + 1)) → FG f h.1 → Q (some (.int 1)) (f, h.2)) (b : 12 < plC V (8 * (c + 1)) → ∀ f : Nat → Nat → Int32, FG f h.1 → Q (some (.int 0)) (f, h.2)) : Go X m_X5_gatherFrom 0 [.ref 6, .ref 2, .int (nI c), .null] [] h Q := by
  have h1 := v.1
  refine vc_ok (st := [2]) 40 ?_
  suffices hh : ∀ k, k ≤ 8 → ∀ f : Nat → Nat → Int32, GA V f (8 * c + k) → FG f h.1 → Go X m_X5_gatherFrom 2 [.ref 6, .ref 2, .int (nI c), .int (nI k)] [] (f, h.2) Q from hh 0 (by omega) h.1 ga (fun c _ _ _ => rfl)
  refine down _ 8 ?_ ?_
  · exact fun f g1 f1 => vg (br_t (Int32.le_refl _) ⟨Or.inr rfl, a f (by rw [show 8 * (c + 1) = 8 * c + 8 by omega]; exact g1) f1⟩)
  · intro k hk ih f g1 f1
    obtain ⟨a1, a2, a3⟩ := v.2.1 c hc
    obtain ⟨r1, r2⟩ := rn.2.1 c hc
    obtain ⟨e1, e2⟩ := q8 c k hk
    have hba := bt_le (V 1 c) k
    refine vg (br_f (nI_ge hk (by decide)) (t_valueAt (a := V 1 c) (e := V 2 c) (by omega) hk a1 a2 (by show f 15 c = _; rw [f1 15 (by decide) (by decide) (by decide)]; exact r1) (by show f 16 c = _; rw [f1 16 (by decide) (by decide) (by decide)]; exact r2) ?_))
    unfold valN
    by_cases p : bt (V 2 c) k = 1
    · rw [if_pos p]
      have pp : plP V (8 * c + k) := by unfold plP; rw [e1, e2]; exact ⟨pc, p⟩
      have g0 : f 6 0 = nI (plC V (8 * c + k)) := g1.1
      by_cases l : plC V (8 * c + k) < 12
      · refine vc_ok (st := [2]) 100 (brn_f rfl (br_t (show f 6 0 < nI 12 by rw [g0]; exact nI_lt l (by decide)) ⟨plC V (8 * c + k), g0, by omega, plC V (8 * c + k), g0, by omega, ?_⟩))
        show Go X m_X5_gatherFrom 2 [.ref 6, .ref 2, .int (nI c), .int (nI k + 1)] [] (up2 (up2 (up2 f 43 (plC V (8 * c + k)) (nI c)) 44 (plC V (8 * c + k)) (nI k)) 6 0 (f 6 0 + 1), h.2) Q
        rw [g0, nI_1, nI_1]
        have nx := ga_yes g1 pp l
        rw [e1, e2] at nx
        exact ih _ nx (fun c c1 c2 c3 => by rw [up2_ne c1, up2_ne c3, up2_ne c2]; exact f1 c c1 c2 c3)
      · have e12 : plC V (8 * c + k) = 12 := by have := g1.2.1; omega
        refine vg (brn_f rfl (br_f (show ¬ f 6 0 < nI 12 by rw [g0, e12]; decide) ⟨Or.inl rfl, b ?_ f f1⟩))
        have : plC V (8 * c + k + 1) = 13 := by
          show (if plP V (8 * c + k) then _ else _) = _
          rw [if_pos pp, e12]
        have := plC_mono V (show 8 * c + k + 1 ≤ 8 * (c + 1) by omega)
        omega
    · rw [if_neg p]
      have pp : ¬ plP V (8 * c + k) := by unfold plP; rw [e1, e2]; exact fun z => p z.2
      have nx := ih f (ga_no g1 pp) f1
      rw [← nI_1] at nx
      exact vc_ok (st := [2]) 100 (brn_t (show ¬ nI (bt (V 1 c) k) = nI 2 by rw [nI_eq (by omega) (by decide)]; omega) nx)
theorem t_gather (v : okV V) (rn : RN V h) (a : plC V (8 * V 0 0) ≤ 12 → ∀ f : Nat → Nat → Int32, GA V f (8 * V 0 0) → FG f h.1 → Q (some (.int 1)) (f, h.2)) (b : 12 < plC V (8 * V 0 0) → ∀ f : Nat → Nat → Int32, FG f h.1 → Q (some (.int 0)) (f, h.2)) : Go X m_X5_gather 0 [.ref 6, .ref 2, .null] [] h Q := by
  have h1 := v.1
  refine vc_ok (st := [7]) 40 ?_
  suffices hh : ∀ k, k ≤ V 0 0 → ∀ f : Nat → Nat → Int32, GA V f (8 * k) → FG f h.1 → Go X m_X5_gather 7 [.ref 6, .ref 2, .int (nI k)] [] (f, h.2) Q from hh 0 (by omega) (up2 h.1 6 0 0) ⟨u_at, by show (0 : Nat) ≤ 12; omega, fun j hj => absurd hj (by show ¬ j < 0; omega)⟩ (fun c c1 _ _ => up2_ne c1)
  refine down _ (V 0 0) ?_ ?_
  · exact fun f g1 f1 => vg (br_t (le_of (by show f 2 0 = _; rw [f1 2 (by decide) (by decide) (by decide)]; exact rn.1.1)) ⟨Or.inr rfl, a g1.2.1 f g1 f1⟩)
  · intro c hc ih f g1 f1
    have rn1 : RN V (f, h.2) := rc_cg rn (f1 _ (by decide) (by decide) (by decide)) (f1 _ (by decide) (by decide) (by decide)) (f1 _ (by decide) (by decide) (by decide)) (f1 _ (by decide) (by decide) (by decide)) (f1 _ (by decide) (by decide) (by decide)) (f1 _ (by decide) (by decide) (by decide)) (f1 _ (by decide) (by decide) (by decide)) (f1 _ (by decide) (by decide) (by decide))
    have cb : ∀ n, cntN V c n ≤ n := by
      intro n
      induction n with
      | zero => exact Nat.le_refl _
      | succ n ihn =>
        show cntN V c n + (if V 4 n = c then 1 else 0) ≤ n + 1
        split <;> omega
    have cb1 := cb (V 0 1)
    refine vg (br_f (nle_of (by show f 2 0 = _; exact rn1.1.1) hc (by omega)) (t_timesPicked v rn1 hc ?_))
    by_cases pc : 0 < cntN V c (V 0 1)
    · refine vg (br_f (nI_nle pc (by omega)) (t_gatherFrom v rn1 hc pc g1 (fun f2 g2 k2 => ?_) (fun l f2 k2 => vg (brn_f rfl ⟨Or.inl rfl, b ?_ f2 (fun c c1 c2 c3 => (k2 c c1 c2 c3).trans (f1 c c1 c2 c3))⟩))))
      · have nx := ih f2 g2 (fun c c1 c2 c3 => (k2 c c1 c2 c3).trans (f1 c c1 c2 c3))
        rw [← nI_1] at nx
        exact vc_ok (st := [7]) 100 (brn_t (by decide) nx)
      · have := plC_mono V (show 8 * (c + 1) ≤ 8 * V 0 0 by omega)
        omega
    · have no : ∀ k, k ≤ 8 → GA V f (8 * c + k) := by
        intro k
        induction k with
        | zero => exact fun _ => g1
        | succ k ihk =>
          intro hk
          exact ga_no (q := 8 * c + k) (ihk (by omega)) (fun z => pc (by have := z.1; rw [(q8 c k (by omega)).1] at this; exact this))
      have nx := ih f (by rw [show 8 * (c + 1) = 8 * c + 8 by omega]; exact no 8 (Nat.le_refl _)) f1
      rw [← nI_1] at nx
      exact vc_ok (st := [7]) 100 (br_t (show nI (cntN V c (V 0 1)) ≤ 0 by rw [show cntN V c (V 0 1) = 0 by omega]; decide) nx)
-- ===== the reference
def MA (V : Vw) (f : Nat → Nat → Int32) (q : Nat) : Prop := f 1 9 = nI (plC V q) ∧ ∀ j, j < plC V q → f 59 j = nI (10 * (plF V q j / 8) + plF V q j % 8)
def FM1 (f g : Nat → Nat → Int32) : Prop := (∀ c, c ≠ 1 → c ≠ 59 → f c = g c) ∧ ∀ s, s ≠ 9 → f 1 s = g 1 s
theorem plC_le (V : Vw) : ∀ q, plC V q ≤ q
  | 0 => Nat.le_refl _
  | q + 1 => by
    have := plC_le V q
    unfold plC
    split <;> omega
theorem ma_no {f : Nat → Nat → Int32} {q : Nat} (g : MA V f q) (p : ¬ plP V q) : MA V f (q + 1) := by
  unfold MA
  rw [plC_s, plF_s, if_neg p, if_neg p]
  exact g
theorem ma_yes {f : Nat → Nat → Int32} {q : Nat} (g : MA V f q) (p : plP V q) : MA V (up2 (up2 f 59 (plC V q) (nI (10 * (q / 8) + q % 8))) 1 9 (nI (plC V q + 1))) (q + 1) := by
  unfold MA
  rw [plC_s, plF_s, if_pos p, if_pos p]
  refine ⟨u_at, fun j hj => ?_⟩
  show up2 f 59 (plC V q) (nI (10 * (q / 8) + q % 8)) 59 j = _
  by_cases e : j = plC V q
  · subst e
    rw [u_at]
    simp only [if_true]
  · rw [u_ne e]
    simp only [if_neg e]
    exact g.2 j (by omega)
theorem t_findPlaces (v : okV V) (rm : RM V h 53) (a : ∀ f : Nat → Nat → Int32, MA V f (8 * V 0 0) → FM1 f h.1 → Q none (f, h.2)) : Go X m_X7_findPlaces 0 [.ref 1, .null, .null] [] h Q := by
  have h1 := v.1
  refine vc_ok (st := [7]) 40 ?_
  suffices hh : ∀ k, k ≤ V 0 0 → ∀ (f : Nat → Nat → Int32) (l2 : Value), MA V f (8 * k) → FM1 f h.1 → Go X m_X7_findPlaces 7 [.ref 1, .int (nI k), l2] [] (f, h.2) Q from hh 0 (by omega) (up2 h.1 1 9 0) _ ⟨u_at, fun j hj => absurd hj (by show ¬ j < 0; omega)⟩ ⟨fun c c1 _ => up2_ne c1, fun s hs => u_ne hs⟩
  refine down _ (V 0 0) ?_ ?_
  · intro f l2 g1 f1
    exact vg ⟨0, rfl, by decide, br_t (le_of (by show f 53 0 = _; rw [f1.1 53 (by decide) (by decide)]; exact rm.1.1)) (a f g1 f1)⟩
  · intro c hc ih f l2 g1 f1
    have rm1 : RM V (f, h.2) 53 := rm_cg rm (f1.1 53 (by decide) (by decide))
    refine vc_ok (st := [19]) 100 ⟨0, rfl, by decide, br_f (nle_of (by exact rm1.1.1) hc (by omega)) ?_⟩
    have cb : ∀ n, cntN V c n ≤ n := by
      intro n
      induction n with
      | zero => exact Nat.le_refl _
      | succ n ihn =>
        show cntN V c n + (if V 4 n = c then 1 else 0) ≤ n + 1
        split <;> omega
    have cb1 := cb (V 0 1)
    by_cases pc : 0 < cntN V c (V 0 1)
    · suffices hh : ∀ k, k ≤ 8 → ∀ f : Nat → Nat → Int32, MA V f (8 * c + k) → FM1 f h.1 → Go X m_X7_findPlaces 19 [.ref 1, .int (nI c), .int (nI k)] [] (f, h.2) Q from hh 0 (by omega) f g1 f1
      refine down _ 8 ?_ ?_
      · intro f g1 f1
        have nx := ih f (.int (nI 8)) (by rw [show 8 * (c + 1) = 8 * c + 8 by omega]; exact g1) f1
        rw [← nI_1] at nx
        exact vc_ok (st := [7]) 100 (br_t (Int32.le_refl _) nx)
      · intro k hk ihk f g1 f1
        have rm1 : RM V (f, h.2) 53 := rm_cg rm (f1.1 53 (by decide) (by decide))
        obtain ⟨a1, a2, a3⟩ := v.2.1 c hc
        have r2 : f 53 (14 + c) = nI (V 2 c) := (rm1.2.1 c hc).2
        obtain ⟨e1, e2⟩ := q8 c k hk
        have hbe := bt_le (V 2 c) k
        have l1 := plC_le V (8 * c + k)
        have bk : f 53 (14 + c) >>> (nI k &&& 31) &&& 1 = nI (bt (V 2 c) k) := by rw [r2]; exact bitN (by omega) (by omega)
        have g0 : f 1 9 = nI (plC V (8 * c + k)) := g1.1
        refine vg (br_f (nI_ge hk (by decide)) (t_oftenIn v rm1 hc ?_))
        by_cases p : bt (V 2 c) k = 1
        · have pp : plP V (8 * c + k) := by unfold plP; rw [e1, e2]; exact ⟨pc, p⟩
          refine vc_ok (st := [19]) 100 (br_f (nI_nle pc (by omega)) ⟨14 + c, nI_add 14 c, by omega, brn_f (show f 53 (14 + c) >>> (nI k &&& 31) &&& 1 = nI 1 by rw [bk, p]) ⟨plC V (8 * c + k), g0, by omega, ?_⟩⟩)
          show Go X m_X7_findPlaces 19 [.ref 1, .int (nI c), .int (nI k + 1)] [] (up2 (up2 f 59 (plC V (8 * c + k)) (nI 10 * nI c + nI k)) 1 9 (f 1 9 + 1), h.2) Q
          rw [g0, nI_1, nI_1, pk_mul, nI_add]
          have nx := ma_yes g1 pp
          rw [e1, e2] at nx
          exact ihk _ nx ⟨fun c c1 c2 => by rw [up2_ne c1, up2_ne c2]; exact f1.1 c c1 c2, fun s hs => by rw [u_ne hs]; exact f1.2 s hs⟩
        · have pp : ¬ plP V (8 * c + k) := by unfold plP; rw [e1, e2]; exact fun z => p z.2
          have nx := ihk f (ma_no g1 pp) f1
          rw [← nI_1] at nx
          exact vc_ok (st := [19]) 100 (br_f (nI_nle pc (by omega)) ⟨14 + c, nI_add 14 c, by omega, brn_t (show ¬ f 53 (14 + c) >>> (nI k &&& 31) &&& 1 = nI 1 by rw [bk, nI_eq (by omega) (by decide)]; exact p) nx⟩)
    · have no : ∀ k, k ≤ 8 → MA V f (8 * c + k) := by
        intro k
        induction k with
        | zero => exact fun _ => g1
        | succ k ihk =>
          intro hk
          exact ma_no (q := 8 * c + k) (ihk (by omega)) (fun z => pc (by have := z.1; rw [(q8 c k (by omega)).1] at this; exact this))
      have nx := ih f (.int (nI 0)) (by rw [show 8 * (c + 1) = 8 * c + 8 by omega]; exact no 8 (Nat.le_refl _)) f1
      rw [← nI_1] at nx
      exact vg (br_f (by decide) (t_oftenIn v rm1 hc (vc_ok (st := [7]) 100 (br_t (show nI (cntN V c (V 0 1)) ≤ 0 by rw [show cntN V c (V 0 1) = 0 by omega]; decide) nx))))
end GAT
