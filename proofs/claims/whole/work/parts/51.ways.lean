/-! the ways: the reference's search -/
section WAY
variable {X : Xs} {h : Hp} {Q : Qt} {V : Vw}
theorem rm_card {W : Vw} (w : okV W) (rm : RM W h 53) {c a e : Nat} (hc : c < 10) : RM (up2 (up2 W 1 c a) 2 c e) (up2 (up2 h.1 53 (4 + c) (nI a)) 53 (14 + c) (nI e), h.2) 53 := by
  have w1 := w.1
  have kn : ∀ q, q ≠ 4 + c → q ≠ 14 + c → up2 (up2 h.1 53 (4 + c) (nI a)) 53 (14 + c) (nI e) 53 q = h.1 53 q := fun q z1 z2 => by rw [u_ne z2, u_ne z1]
  refine ⟨⟨(kn 0 (by omega) (by omega)).trans rm.1.1, (kn 1 (by omega) (by omega)).trans rm.1.2.1, (kn 2 (by omega) (by omega)).trans rm.1.2.2⟩, fun q hq => ?_, fun t ht => ?_, fun i hi => ?_, fun l hl => ?_⟩
  · have hq : q < W 0 0 := hq
    by_cases z : q = c
    · subst z
      refine ⟨?_, ?_⟩
      · show up2 (up2 h.1 53 (4 + q) (nI a)) 53 (14 + q) (nI e) 53 (4 + q) = nI (up2 W 1 q a 1 q)
        rw [u_ne (by omega), u_at, u_at]
      · show up2 (up2 h.1 53 (4 + q) (nI a)) 53 (14 + q) (nI e) 53 (14 + q) = nI (up2 (up2 W 1 q a) 2 q e 2 q)
        rw [u_at, u_at]
    · refine ⟨(kn _ (by omega) (by omega)).trans ?_, (kn _ (by omega) (by omega)).trans ?_⟩
      · show _ = nI (up2 W 1 c a 1 q)
        rw [u_ne z]; exact (rm.2.1 q hq).1
      · show _ = nI (up2 (up2 W 1 c a) 2 c e 2 q)
        rw [u_ne z]; exact (rm.2.1 q hq).2
  · exact (kn _ (by omega) (by omega)).trans (rm.2.2.1 t ht)
  · have hi : i < W 0 1 := hi
    exact (kn _ (by omega) (by omega)).trans (rm.2.2.2.1 i hi)
  · have hl : l < W 0 2 := hl
    exact ⟨(kn _ (by omega) (by omega)).trans (rm.2.2.2.2 l hl).1, (kn _ (by omega) (by omega)).trans (rm.2.2.2.2 l hl).2.1, (kn _ (by omega) (by omega)).trans (rm.2.2.2.2 l hl).2.2⟩
/-- the reference's places, as they lie -/
def PM (V : Vw) (f : Nat → Nat → Int32) : Prop := f 1 9 = nI (MM V) ∧ ∀ j, j < MM V → f 59 j = nI (10 * (KK V j / 8) + KK V j % 8)
theorem t_fills {U : Vw} (v : okV V) (m80 : MM V ≤ 12) (u : okV U) (u0 : U 0 = V 0) (rm : RM U h 53) (pm : PM V h.1) {w : Nat} (hw : w < 2 ^ 31) (q : ∀ f : Nat → Nat → Int32, RM (VF U (KK V) w (MM V)) (f, h.2) 53 → (∀ c, c ≠ 53 → f c = h.1 c) → Q none (f, h.2)) : Go X m_X7_fills 0 [.ref 1, .int (nI w), .null] [] h Q := by
  have h1 := v.1
  refine vc_ok (st := [2]) 40 ?_
  suffices hh : ∀ k, k ≤ MM V → ∀ f : Nat → Nat → Int32, RM (VF U (KK V) w k) (f, h.2) 53 → (∀ c, c ≠ 53 → f c = h.1 c) → Go X m_X7_fills 2 [.ref 1, .int (nI w), .int (nI k)] [] (f, h.2) Q from hh 0 (by omega) h.1 rm (fun _ _ => rfl)
  refine down _ (MM V) ?_ ?_
  · exact fun f rf ff => vg (br_t (le_of (by show f 1 9 = _; rw [ff 1 (by decide)]; exact pm.1)) (q f rf ff))
  · intro k hk ih f rf ff
    have kl := kk_lt V k hk
    have ok := VF_ok u (w := w) k (fun i hi => by rw [u0]; exact kk_lt V i (by omega))
    have e0 : VF U (KK V) w k 0 0 = V 0 0 := by rw [VF_o U _ w (by decide) (by decide), u0]
    obtain ⟨a1, a2, a3⟩ := ok.2.1 (KK V k / 8) (by rw [e0]; omega)
    obtain ⟨d1, d2⟩ := rf.2.1 (KK V k / 8) (by rw [e0]; omega)
    have hb := bt_le w k
    have e59 : f 59 k = nI (10 * (KK V k / 8) + KK V k % 8) := by rw [ff 59 (by decide)]; exact pm.2 k hk
    have ed : f 59 k / nI 10 = nI (KK V k / 8) := by
      rw [e59, pk_div (by omega) (by decide) (by decide)]
      congr 1
      omega
    have er : f 59 k - f 59 k / nI 10 * nI 10 = nI (KK V k % 8) := by
      rw [e59, pk_rem (by omega) (by decide) (by decide)]
      congr 1
      omega
    refine vg (br_f (nle_of (by show f 1 9 = _; rw [ff 1 (by decide)]; exact pm.1) hk (by omega)) ⟨k, rfl, by omega, by decide, k, rfl, by omega, by decide, ?_⟩)
    show Go X m_X7_punches 0 [.ref 1, .int (f 59 k / nI 10), .int (f 59 k - f 59 k / nI 10 * nI 10), .int (nI w >>> (nI k &&& 31) &&& 1)] [] (f, h.2) _
    rw [er, ed, bitN hw (by omega)]
    refine t_punches (by omega) (by omega) a1 a2 (by omega) d1 d2 ?_
    have nx := ih _ (rm_card ok rf (c := KK V k / 8) (by omega)) (fun c hc => by rw [up2_ne hc, up2_ne hc]; exact ff c hc)
    rw [← nI_1] at nx
    exact vc_ok (st := [2]) 100 nx
noncomputable def wyF (V : Vw) : Nat → Nat → Nat
  | 0 => fun _ => 0
  | v + 1 => @ite (Nat → Nat) (gdP V v) (Classical.propDecidable _) (fun j => if j = totN V v then v else wyF V v j) (wyF V v)
theorem wy_1 {w : Nat} (e : gdP V w) : wyF V (w + 1) = fun j => if j = totN V w then w else wyF V w j := by
  show @ite (Nat → Nat) _ (Classical.propDecidable _) _ _ = _
  rw [if_pos e]
theorem wy_0 {w : Nat} (e : ¬ gdP V w) : wyF V (w + 1) = wyF V w := by
  show @ite (Nat → Nat) _ (Classical.propDecidable _) _ _ = _
  rw [if_neg e]
theorem tot_1 {w : Nat} (e : gdP V w) : totN V (w + 1) = totN V w + 1 := by
  show totN V w + gdN V w = _
  rw [gd_1 e]
theorem tot_0 {w : Nat} (e : ¬ gdP V w) : totN V (w + 1) = totN V w := by
  show totN V w + gdN V w = _
  rw [gd_0 e]
  rfl
theorem wy_lt (V : Vw) : ∀ w j, j < totN V w → wyF V w j < w
  | 0, j, h => absurd h (by show ¬ j < 0; omega)
  | w + 1, j, h => by
    by_cases e : gdP V w
    · rw [tot_1 e] at h
      rw [wy_1 e]
      by_cases e2 : j = totN V w
      · simp only [if_pos e2]; omega
      · simp only [if_neg e2]
        have := wy_lt V w j (by omega)
        omega
    · rw [tot_0 e] at h
      rw [wy_0 e]
      have := wy_lt V w j h
      omega
/-- the way that was asked for is the same on both sides -/
theorem ww_wy {i : Nat} (hi : i < 2 ^ 31) : ∀ w, w ≤ 4096 → i < totN V w → wwN V (nI i) w = wyF V w i
  | 0, _, h => absurd h (by show ¬ i < 0; omega)
  | w + 1, hw, h => by
    have tl := tot_le V w
    by_cases e : gdP V w
    · rw [tot_1 e] at h
      rw [wy_1 e]
      show (if gdN V w = 1 ∧ nI (totN V w) = nI i then w else wwN V (nI i) w) = _
      by_cases e2 : i = totN V w
      · rw [if_pos ⟨gd_1 e, by rw [e2]⟩]
        simp only [if_pos e2]
      · rw [if_neg (fun z => e2 ((nI_eq (by omega) hi).mp z.2).symm)]
        simp only [if_neg e2]
        exact ww_wy hi w (by omega) (by omega)
    · rw [tot_0 e] at h
      rw [wy_0 e]
      show (if gdN V w = 1 ∧ nI (totN V w) = nI i then w else wwN V (nI i) w) = _
      rw [if_neg (fun z => by rw [gd_0 e] at z; exact absurd z.1 (by decide))]
      exact ww_wy hi w (by omega) h
theorem sumN_cg {f g : Nat → Nat} : ∀ {n : Nat}, (∀ k, k < n → f k = g k) → sumN f n = sumN g n
  | 0, _ => rfl
  | n + 1, h => by
    show sumN f n + f n = sumN g n + g n
    rw [sumN_cg (fun k hk => h k (by omega)), h n (by omega)]
theorem ht_wy (k : Nat) : ∀ w, sumN (fun j => bt (wyF V w j) k) (totN V w) = htN V k w
  | 0 => rfl
  | w + 1 => by
    have ih := ht_wy k w
    show _ = htN V k w + gdN V w * bt w k
    by_cases e : gdP V w
    · rw [tot_1 e, wy_1 e, gd_1 e, ← ih, Nat.one_mul]
      show sumN _ (totN V w) + bt (if totN V w = totN V w then w else wyF V w (totN V w)) k = _
      rw [if_pos rfl]
      congr 1
      refine sumN_cg (fun j hj => ?_)
      simp only [if_neg (show ¬ j = totN V w by omega)]
    · rw [tot_0 e, wy_0 e, gd_0 e, ih, Nat.zero_mul]
      rfl
/-- what the reference's search leaves -/
def MR (V : Vw) (f : Nat → Nat → Int32) (w : Nat) : Prop := f 1 11 = nI (totN V w) ∧ ∀ j, j < totN V w → f 60 j = nI (wyF V w j)
/-- what lies outside the searches -/
def Fr (f g : Nat → Nat → Int32) : Prop := (∀ c, ¬ scr c → c ≠ 1 → c ≠ 53 → f c = g c) ∧ ∀ s, s ≠ 9 → s ≠ 11 → f 1 s = g 1 s
theorem t_findWays (v : okV V) (rm : RM V h 53) (a : MM V ≤ 12 → ∀ f : Nat → Nat → Int32, PM V f → MR V f (2 ^ MM V) → Fr f h.1 → RM V (f, h.2) 53 → Q (some (.int 1)) (f, h.2)) (b : 12 < MM V → ∀ f : Nat → Nat → Int32, Fr f h.1 → RM V (f, h.2) 53 → Q (some (.int 0)) (f, h.2)) : Go X m_X7_findWays 0 [.ref 1, .null] [] h Q := by
  have h1 := v.1
  have ml : MM V ≤ 8 * V 0 0 := plC_le V (8 * V 0 0)
  refine vg (t_findPlaces v rm (fun f ma fm => ?_))
  have rf : RM V (f, h.2) 53 := rm_cg rm (fm.1 53 (by decide) (by decide))
  have p0 : f 1 9 = nI (MM V) := ma.1
  by_cases m12 : MM V ≤ 12
  case neg => exact vg (br_f (show ¬ f 1 9 ≤ nI 12 by rw [p0]; exact nI_ge (by omega) (by omega)) ⟨Or.inl rfl, b (by omega) f ⟨fun c c0 c1 _ => fm.1 c c1 (fun z => c0 (by subst z; unfold scr; omega)), fun s s1 _ => fm.2 s s1⟩ rf⟩)
  have p2 : 2 ^ MM V ≤ 4096 := Nat.pow_le_pow_right (n := 2) (by decide) m12
  refine vg (br_t (show f 1 9 ≤ nI 12 by rw [p0]; exact nI_le m12 (by decide)) (t_copies_53_54 (vc_ok (st := [33]) 100 ?_)))
  show Go X m_X7_findWays 33 [.ref 1, .int (nI 0)] [] (cpK (up2 f 1 11 0) 54 53 80, h.2) Q
  have r54 : RM V (cpK (up2 f 1 11 0) 54 53 80, h.2) 54 := rm_copy v (f := up2 f 1 11 0) rf
  have r53 : RM V (cpK (up2 f 1 11 0) 54 53 80, h.2) 53 := rm_cg rf (by show cpK (up2 f 1 11 0) 54 53 80 53 = f 53; rw [cpK_ne (by decide)]; rfl)
  generalize hg : cpK (up2 f 1 11 0) 54 53 80 = g at r54 r53
  have g1 : g 1 = up2 f 1 11 0 1 := by rw [← hg]; exact cpK_ne (f := up2 f 1 11 0) (by decide)
  have g59 : g 59 = f 59 := by rw [← hg]; exact cpK_ne (f := up2 f 1 11 0) (by decide)
  suffices hh : ∀ w, w ≤ 2 ^ MM V → ∀ k : Nat → Nat → Int32, (∃ U : Vw, okV U ∧ simV (VF U (KK V) w (MM V)) (WW V w) ∧ U 0 = V 0 ∧ RM U (k, h.2) 53) → RM V (k, h.2) 54 → PM V k → MR V k w → (∀ c, ¬ scr c → c ≠ 1 → c ≠ 53 → k c = h.1 c) → (∀ s, s ≠ 9 → s ≠ 11 → k 1 s = h.1 1 s) → Go X m_X7_findWays 33 [.ref 1, .int (nI w)] [] (k, h.2) Q from hh 0 (Nat.zero_le _) g ⟨V, v, ⟨fun _ _ _ => rfl, fun _ _ => ⟨rfl, rfl⟩⟩, rfl, r53⟩ r54 ⟨by rw [g1, u_ne (by decide)]; exact p0, fun j hj => by rw [g59]; exact ma.2 j hj⟩ ⟨by rw [g1, u_at]; rfl, fun j hj => absurd hj (by show ¬ j < 0; omega)⟩ (fun c c0 c1 c2 => by
    have c54 : c ≠ 54 := fun z => c0 (by subst z; unfold scr; omega)
    rw [← hg, cpK_ne c54, up2_ne c1]
    exact fm.1 c c1 (fun z => c0 (by subst z; unfold scr; omega))) (fun s s1 s2 => by rw [g1, u_ne s2]; exact fm.2 s s1)
  refine down _ (2 ^ MM V) ?_ ?_
  · intro k _ k54 pk mk ko k1
    refine vg (br_t ?_ (t_copies_54_53 (vg ⟨Or.inr rfl, a m12 _ ⟨?_, fun j hj => ?_⟩ ⟨?_, fun j hj => ?_⟩ ⟨fun c c0 c1 c2 => ?_, fun s s1 s2 => ?_⟩ (rm_copy v k54)⟩)))
    · show (1 : Int32) <<< (k 1 9 &&& 31) ≤ nI (2 ^ MM V)
      rw [pk.1, shl1 _ (by omega)]
      exact Int32.le_refl _
    · rw [cpK_ne (by decide)]; exact pk.1
    · rw [cpK_ne (by decide)]; exact pk.2 j hj
    · rw [cpK_ne (by decide)]; exact mk.1
    · rw [cpK_ne (by decide)]; exact mk.2 j hj
    · rw [cpK_ne c2]; exact ko c c0 c1 c2
    · rw [cpK_ne (by decide)]; exact k1 s s1 s2
  · intro w hw ih k ⟨U, uo, us, u0, ru⟩ k54 pk mk ko k1
    have tl := tot_le V w
    refine vg (br_f ?_ (t_fills v m12 uo u0 ru pk (by omega) (fun f2 r2 f3 => vg ?_)))
    · show ¬ (1 : Int32) <<< (k 1 9 &&& 31) ≤ nI w
      rw [pk.1, shl1 _ (by omega)]
      exact nI_ge hw (by omega)
    have rw2 : RM (WW V w) (f2, h.2) 53 := rm_sim us r2
    refine t_firstBrokenM (ww_ok v w) rw2 (fun r hr f4 f5 => ?_)
    have rw4 : RM (WW V w) (f4, h.2) 53 := rm_cg rw2 (f5 53 (by decide))
    have ex : ∀ c, c ≠ 53 → c ≠ 58 → f4 c = k c := fun c c1 c2 => (f5 c c2).trans (f3 c c1)
    have nxU : ∃ U : Vw, okV U ∧ simV (VF U (KK V) (w + 1) (MM V)) (WW V (w + 1)) ∧ U 0 = V 0 ∧ RM U (f4, h.2) 53 := ⟨WW V w, ww_ok v w, VF_again v (kk_lt V) (kk_inj V), ww_o V w (by decide) (by decide), rw4⟩
    rcases gd_fb v hr with ⟨gd, rfl⟩ | ⟨gd, r0⟩
    · have e11 : f4 1 11 = nI (totN V w) := by rw [ex 1 (by decide) (by decide)]; exact mk.1
      refine vc_ok (st := [33]) 100 (br_f (by decide) ⟨totN V w, e11, by omega, ?_⟩)
      show Go X m_X7_findWays 33 [.ref 1, .int (nI w + 1)] [] (up2 (up2 f4 60 (totN V w) (nI w)) 1 11 (f4 1 11 + 1), h.2) Q
      rw [e11, nI_1, nI_1]
      obtain ⟨U2, o1, o2, o3, o4⟩ := nxU
      refine ih _ ⟨U2, o1, o2, o3, rm_cg o4 rfl⟩ (rm_cg k54 ?_) ⟨?_, fun j hj => ?_⟩ ⟨?_, fun j hj => ?_⟩ (fun c c0 c1 c2 => ?_) (fun s s1 s2 => ?_)
      · show up2 (up2 f4 60 (totN V w) (nI w)) 1 11 (nI (totN V w + 1)) 54 = k 54
        rw [up2_ne (show 54 ≠ 1 by decide), up2_ne (show 54 ≠ 60 by decide)]
        exact ex 54 (by decide) (by decide)
      · rw [u_ne (by decide), up2_ne (show 1 ≠ 60 by decide), ex 1 (by decide) (by decide)]; exact pk.1
      · rw [up2_ne (show 59 ≠ 1 by decide), up2_ne (show 59 ≠ 60 by decide), ex 59 (by decide) (by decide)]; exact pk.2 j hj
      · rw [u_at, tot_1 gd]
      · rw [tot_1 gd] at hj
        rw [up2_ne (show 60 ≠ 1 by decide), wy_1 gd]
        by_cases e : j = totN V w
        · subst e
          rw [u_at]
          simp only [if_true]
        · rw [u_ne e, ex 60 (by decide) (by decide)]
          simp only [if_neg e]
          exact mk.2 j (by omega)
      · rw [up2_ne c1, up2_ne (fun z => c0 (by subst z; unfold scr; omega)), ex c c2 (fun z => c0 (by subst z; unfold scr; omega))]
        exact ko c c0 c1 c2
      · rw [u_ne s2, up2_ne (show 1 ≠ 60 by decide), ex 1 (by decide) (by decide)]
        exact k1 s s1 s2
    · have nx := ih f4 nxU (rm_cg k54 (ex 54 (by decide) (by decide))) ⟨by rw [ex 1 (by decide) (by decide)]; exact pk.1, fun j hj => by rw [ex 59 (by decide) (by decide)]; exact pk.2 j hj⟩ ⟨by rw [ex 1 (by decide) (by decide), tot_0 gd]; exact mk.1, fun j hj => by rw [tot_0 gd] at hj; rw [ex 60 (by decide) (by decide), wy_0 gd]; exact mk.2 j hj⟩ (fun c c0 c1 c2 => (ex c c2 (fun z => c0 (by subst z; unfold scr; omega))).trans (ko c c0 c1 c2)) (fun s s1 s2 => by rw [ex 1 (by decide) (by decide)]; exact k1 s s1 s2)
      rw [← nI_1] at nx
      exact vc_ok (st := [33]) 100 (br_t r0 nx)
theorem t_withHole {w k : Nat} (hw : w ≤ 4096) (hk : k < 12) (mr : MR V h.1 w) (q : Q (some (.int (nI (htN V k w)))) h) : Go X m_X7_withHole 0 [.ref 1, .int (nI k), .null, .null] [] h Q := by
  have tl := tot_le V w
  refine vc_ok (st := [4]) 40 ?_
  rw [← ht_wy] at q
  refine down (fun j => Go X m_X7_withHole 4 [.ref 1, .int (nI k), .int (nI (sumN (fun j => bt (wyF V w j) k) j)), .int (nI j)] [] h Q) (totN V w) ?_ ?_ 0 (by omega)
  · exact vg (br_t (le_of mr.1) q)
  · intro j hj ih
    have ih : Go X m_X7_withHole 4 [.ref 1, .int (nI k), .int (nI (sumN (fun j => bt (wyF V w j) k) j + bt (wyF V w j) k)), .int (nI (j + 1))] [] h Q := ih
    have l1 := wy_lt V w j hj
    rw [← nI_1, ← nI_add, ← bitN (by omega) (by omega), ← mr.2 j hj] at ih
    exact vc_ok (st := [4]) 100 (br_f (nle_of mr.1 hj (by omega)) ⟨j, rfl, by omega, ih⟩)
/-- both have searched -/
theorem inv_ways (I : Inv h) (v : okV V) (rn : RN V h) {f g : Nat → Nat → Int32} (s : ∀ c, ¬ scr c → f c = h.1 c) (fr : Fr g f) (rm : RM V (g, h.2) 53) : Inv (g, h.2) := by
  have e : ∀ c, ¬ scr c → c ≠ 1 → c ≠ 53 → g c = h.1 c := fun c c0 c1 c2 => (fr.1 c c0 c1 c2).trans (s c c0)
  have e1 : ∀ j, j ≠ 9 → j ≠ 11 → g 1 j = h.1 1 j := fun j j1 j2 => by rw [fr.2 j j1 j2, s 1 (by unfold scr; omega)]
  refine in7 I (fun q hq _ q2 _ => e q (by unfold live at hq; unfold scr; omega) (by unfold live at hq; omega) q2) ?_ (e1 3 (by decide) (by decide)) ?_ (e1 6 (by decide) (by decide)) v (rc_cg rn ?_ ?_ ?_ ?_ ?_ ?_ ?_ ?_) rm
  · rw [e 0 (by unfold scr; omega) (by decide) (by decide)]
  · rw [e 8 (by unfold scr; omega) (by decide) (by decide)]
  all_goals exact e _ (by unfold scr; omega) (by decide) (by decide)
theorem scr_fg {f g k : Nat → Nat → Int32} (e : FG f g) (s : ∀ c, ¬ scr c → g c = k c) : ∀ c, ¬ scr c → f c = k c := fun c hc => (e c (fun z => hc (by subst z; unfold scr; omega)) (fun z => hc (by subst z; unfold scr; omega)) (fun z => hc (by subst z; unfold scr; omega))).trans (s c hc)
theorem inv_wref (I : Inv h) (v : okV V) (rn : RN V h) {f k : Nat → Nat → Int32} (s1 : ∀ c, ¬ scr c → f c = h.1 c) {n : Nat} (hn : n < 7) (fr : Fr k (up2 f 14 n (f 14 n + 1))) (rk : RM V (k, h.2) 53) : Inv (up2 k 56 n (k 56 n + 1), h.2) := by
  have J := inv_ways (h := h) I v rn (f := f) (g := upr k 14 (f 14)) s1 ⟨fun c c0 c1 c2 => by
    by_cases z : c = 14
    · subst z; rw [upr_at]
    · rw [upr_ne z, fr.1 c c0 c1 c2, up2_ne z], fun s a1 a2 => by rw [upr_ne (by decide)]; exact fr.2 s a1 a2⟩ (rm_cg rk (by show upr k 14 (f 14) 53 = k 53; rw [upr_ne (by decide)]))
  have K := inv_ref J hn
  have k14 : k 14 = up2 f 14 n (f 14 n + 1) 14 := fr.1 14 (by unfold scr; omega) (by decide) (by decide)
  have e : up2 (up2 (upr k 14 (f 14)) 14 n (upr k 14 (f 14) 14 n + 1)) 56 n (up2 (upr k 14 (f 14)) 14 n (upr k 14 (f 14) 14 n + 1) 56 n + 1) = up2 k 56 n (k 56 n + 1) := by
    funext c j
    by_cases z : c = 14
    · subst z
      rw [up2_ne (show 14 ≠ 56 by decide), up2_ne (show 14 ≠ 56 by decide), up2_at, upr_at, k14, up2_at]
    · by_cases z2 : c = 56
      · subst z2
        rw [up2_at, up2_at, up2_ne (show 56 ≠ 14 by decide), upr_ne (show 56 ≠ 14 by decide)]
      · rw [up2_ne z2, up2_ne z2, up2_ne z, upr_ne z]
  rw [← e]
  exact K
theorem op_ways (I : Inv h) : Both X m_X6_ways m_X7_ways [.ref 0] [.ref 1] h := by
  obtain ⟨V, v, rn, rm, ik, ir, it, is⟩ := id I
  unfold Both
  refine vg (t_gather v rn (fun m12 f ga fg => ?_) (fun m12 f fg => ?_))
  · have s1 := scr_fg fg (k := h.1) (fun _ _ => rfl)
    refine vg (brn_t (by decide) (t_search v (rn_scr rn s1) m12 ⟨ga.1, ga.2.2⟩ (fun g pa sr s2 => vg ?_)))
    have s3 : ∀ c, ¬ scr c → g c = h.1 c := fun c hc => (s2 c hc).trans (s1 c hc)
    show BQ X m_X7_ways [.ref 1] (some (.int (g 6 3))) (g, h.2)
    rw [sr.1]
    refine vg (t_findWays v (rm_scr rm s3) (fun _ k pm mr fr rk => vg (br_f (by decide) ?_)) (fun z => absurd m12 (Nat.not_le.mpr z)))
    refine ⟨?_, inv_ways I v rn s3 fr rk⟩
    show some (Value.int (k 1 11)) = _
    rw [mr.1]
  · have s1 := scr_fg fg (k := h.1) (fun _ _ => rfl)
    have rm1 : RM V (f, h.2) 53 := rm_scr rm s1
    exact vg (brn_f rfl (t_refuse 6 (by decide) (by decide) (vg (vg (t_findWays (h := (up2 f 14 6 (f 14 6 + 1), h.2)) v rm1 (fun z => absurd m12 (Nat.not_lt.mpr z)) (fun _ k fr rk => vg (br_t rfl (t_findsN 6 (by decide) rfl (vg ⟨rfl, inv_wref I v rn s1 (by decide) fr rk⟩)))))))))
end WAY
