/-! orders: the class's search -/
section LAI
variable {X : Xs} {h : Hp} {Q : Qt} {V : Vw} {n : Nat} {cs : Nat → Nat} {L : List Nat}
/-- the loom with this order woven -/
def OV (V : Vw) (n : Nat) (cs : Nat → Nat) (L : List Nat) : Vw := fun a => if a = 4 then (fun i => cs (gt L i)) else if a = 0 then (fun b => if b = 1 then n else V 0 b) else V a
theorem OV_o {a : Nat} (h1 : a ≠ 4) (h2 : a ≠ 0) : OV V n cs L a = V a := by unfold OV; rw [if_neg h1, if_neg h2]
theorem OV_00 : OV V n cs L 0 0 = V 0 0 := rfl
theorem OV_01 : OV V n cs L 0 1 = n := rfl
theorem OV_02 : OV V n cs L 0 2 = V 0 2 := rfl
theorem OV_4 : OV V n cs L 4 = fun i => cs (gt L i) := rfl
theorem ov_ok (v : okV V) (hn : n ≤ 6) (hc : ∀ j, j < n → cs j < V 0 0) (al : AL n L) : okV (OV V n cs L) := by
  refine ⟨⟨v.1.1, ?_, v.1.2.2⟩, fun c hc => ?_, fun t ht => ?_, fun i hi => hc _ (al.2 i hi), fun l hl => ?_⟩
  · show n ≤ 20
    omega
  · rw [OV_o (a := 1) (by decide) (by decide), OV_o (a := 2) (by decide) (by decide)]
    exact v.2.1 c hc
  · rw [OV_o (a := 3) (by decide) (by decide)]
    exact v.2.2.1 t ht
  · rw [OV_o (a := 5) (by decide) (by decide), OV_o (a := 6) (by decide) (by decide), OV_o (a := 7) (by decide) (by decide)]
    exact v.2.2.2.2 l hl
/-- the cloth, its picks aside -/
def CB (V : Vw) (f : Nat → Nat → Int32) : Prop := f 5 0 = nI (V 0 0) ∧ Hk V f 16 ∧ ∀ c, c < V 0 0 → Cc V f c
theorem cb_cl {f : Nat → Nat → Int32} (c : Cl V f) : CB V f := ⟨c.1, c.2.2.1, c.2.2.2.1⟩
theorem cb_cg {f g : Nat → Nat → Int32} (c : CB V f) (e0 : g 5 0 = f 5 0) (e : ∀ q, 36 ≤ q → q ≤ 40 → g q = f q) : CB V g := by
  unfold CB Hk Cc at c ⊢
  rw [e0, e 40 (by omega) (by omega), e 36 (by omega) (by omega), e 37 (by omega) (by omega), e 38 (by omega) (by omega), e 39 (by omega) (by omega)]
  exact c
theorem cl_ov {f : Nat → Nat → Int32} (c : CB V f) (c6 : f 5 6 = nI n) (c41 : ∀ i, i < n → f 41 i = nI (cs (gt L i))) : Cl (OV V n cs L) f := by
  refine ⟨c.1, c6, fun k hk => ?_, fun q hq => ?_, c41⟩
  · rw [hk_cg (W := OV V n cs L) (V := V) (OV_o (by decide) (by decide))]
    exact c.2.1 k hk
  · have := c.2.2 q hq
    unfold Cc at this ⊢
    rw [OV_o (a := 1) (by decide) (by decide), up_cg (W := OV V n cs L) (V := V) (OV_o (by decide) (by decide))]
    exact this
/-- this order breaks no law -/
def goP (V : Vw) (n : Nat) (cs : Nat → Nat) (t : Nat) : Prop := ∀ i, i < V 0 2 → ¬ brP (OV V n cs (LL n t)) i
noncomputable def goN (V : Vw) (n : Nat) (cs : Nat → Nat) (t : Nat) : Nat := @ite Nat (goP V n cs t) (Classical.propDecidable _) 1 0
theorem go_1 {t : Nat} (e : goP V n cs t) : goN V n cs t = 1 := by unfold goN; rw [if_pos e]
theorem go_0 {t : Nat} (e : ¬ goP V n cs t) : goN V n cs t = 0 := by unfold goN; rw [if_neg e]
theorem go_fb {t : Nat} {r : Int32} (v : okV V) (f : firstB (OV V n cs (LL n t)) r) : (goP V n cs t ∧ r = -1) ∨ (¬ goP V n cs t ∧ 0 ≤ r) := by
  have h1 := v.1
  rcases f with ⟨l, hl, b1, b2, rfl⟩ | ⟨b1, rfl⟩
  · have hl : l < V 0 2 := hl
    exact Or.inr ⟨fun z => z l hl b1, nI_pos' (by omega)⟩
  · exact Or.inl ⟨b1, rfl⟩
noncomputable def gtN (V : Vw) (n : Nat) (cs : Nat → Nat) (t : Nat) : Nat := sumN (goN V n cs) t
theorem gt_1 {t : Nat} (e : goP V n cs t) : gtN V n cs (t + 1) = gtN V n cs t + 1 := by
  show gtN V n cs t + goN V n cs t = _
  rw [go_1 e]
theorem gt_0 {t : Nat} (e : ¬ goP V n cs t) : gtN V n cs (t + 1) = gtN V n cs t := by
  show gtN V n cs t + goN V n cs t = _
  rw [go_0 e]
  rfl
theorem gt_le (V : Vw) (n : Nat) (cs : Nat → Nat) : ∀ t, gtN V n cs t ≤ t
  | 0 => Nat.le_refl _
  | t + 1 => by
    have := gt_le V n cs t
    by_cases e : goP V n cs t
    · rw [gt_1 e]; omega
    · rw [gt_0 e]; omega
theorem gt_mono (V : Vw) (n : Nat) (cs : Nat → Nat) (t : Nat) : ∀ k, gtN V n cs t ≤ gtN V n cs (t + k)
  | 0 => Nat.le_refl _
  | k + 1 => by
    have := gt_mono V n cs t k
    rw [show t + (k + 1) = t + k + 1 by omega]
    by_cases e : goP V n cs (t + k)
    · rw [gt_1 e]; omega
    · rw [gt_0 e]; omega
theorem gt_lt {s t : Nat} (e : goP V n cs s) (h : s < t) : gtN V n cs s < gtN V n cs t := by
  have := gt_mono V n cs (s + 1) (t - (s + 1))
  rw [gt_1 e, show s + 1 + (t - (s + 1)) = t by omega] at this
  omega
theorem fac_b {n : Nat} (hn : n ≤ 6) : 1 ≤ fac n ∧ fac n ≤ 720 := by
  rcases (show n = 0 ∨ n = 1 ∨ n = 2 ∨ n = 3 ∨ n = 4 ∨ n = 5 ∨ n = 6 by omega) with rfl | rfl | rfl | rfl | rfl | rfl | rfl <;> decide
-- ===== the set
theorem t_obegin {a : Nat} (ha : a < 1024) (p6 : popF a 10 ≤ 6) (q : ∀ f : Nat → Nat → Int32, f 7 0 = nI (popF a 10) → f 7 1 = nI 0 → (∀ j, j < popF a 10 → f 47 j = nI (csF a 10 j)) → (∀ c, c ≠ 7 → c ≠ 47 → f c = h.1 c) → Q none (f, h.2)) : Go X m_X2_begin 0 [.ref 7, .int (nI a), .null] [] h Q := by
  refine vc_ok (st := [12]) 100 ?_
  suffices hh : ∀ k, k ≤ 10 → ∀ f : Nat → Nat → Int32, f 7 0 = nI (popF a k) → f 7 1 = nI 0 → (∀ j, j < popF a k → f 47 j = nI (csF a k j)) → (∀ c, c ≠ 7 → c ≠ 47 → f c = h.1 c) → Go X m_X2_begin 12 [.ref 7, .int (nI a), .int (nI k)] [] (f, h.2) Q from hh 0 (by omega) (up2 (up2 h.1 7 0 0) 7 1 0) (by rw [u_ne (by decide), u_at]; rfl) (by rw [u_at]; rfl) (fun j hj => absurd hj (by show ¬ j < 0; omega)) (fun c c1 _ => by rw [up2_ne c1, up2_ne c1])
  refine down _ 10 ?_ ?_
  · exact fun f f0 f1 f47 fo => vg (br_t (by decide) (q f f0 f1 f47 fo))
  · intro k hk ih f f0 f1 f47 fo
    have e10 : k + (10 - k) = 10 := by omega
    have m := pf_mono a k (10 - k)
    rw [e10] at m
    by_cases c6 : popF a k = 6
    · obtain ⟨g1, g2⟩ := cs_end (q := k) (10 - k) (pf_end (a := a) (by rw [e10]; omega))
      rw [e10] at g1 g2
      exact vg (br_f (nI_ge hk (by decide)) (br_t (show nI 6 ≤ f 7 0 by rw [f0, c6]; exact Int32.le_refl _) (q f (by rw [g2]; exact f0) f1 (fun j hj => by rw [g1]; exact f47 j (by rw [g2] at hj; exact hj)) fo)))
    · have hlt : ¬ nI 6 ≤ f 7 0 := by rw [f0]; exact nI_ge (by omega) (by omega)
      by_cases b : bt a k = 1
      · refine vc_ok (st := [12]) 100 (br_f (nI_ge hk (by decide)) (br_f hlt (brn_f (show nI a >>> (nI k &&& 31) &&& 1 = 1 by rw [bitN (by omega) (by omega), b]; rfl) ⟨popF a k, f0, by omega, ?_⟩)))
        show Go X m_X2_begin 12 [.ref 7, .int (nI a), .int (nI k + 1)] [] (up2 (up2 f 47 (popF a k) (nI k)) 7 0 (f 7 0 + 1), h.2) Q
        rw [f0, nI_1, nI_1]
        refine ih _ (by rw [u_at, pf_s, b]) (by rw [u_ne (by decide)]; exact f1) (fun j hj => ?_) (fun c c1 c2 => by rw [up2_ne c1, up2_ne c2]; exact fo c c1 c2)
        rw [pf_s, b] at hj
        rw [up2_ne (show 47 ≠ 7 by decide), cs_1 b]
        by_cases ej : j = popF a k
        · subst ej
          rw [u_at]
          simp only [if_true]
        · rw [u_ne ej]
          simp only [if_neg ej]
          exact f47 j (by omega)
      · have nx := ih f (by rw [pf_s, bt01 b]; exact f0) f1 (fun j hj => by rw [cs_0 b]; rw [pf_s, bt01 b] at hj; exact f47 j hj) fo
        rw [← nI_1] at nx
        refine vc_ok (st := [12]) 100 (br_f (nI_ge hk (by decide)) (br_f hlt (brn_t ?_ nx)))
        show ¬ nI a >>> (nI k &&& 31) &&& 1 = 1
        rw [bitN (by omega) (by omega), bt01 b]
        decide
theorem t_otally {t : Nat} {w : Int32} (hn : n ≤ 6) (h0 : h.1 7 0 = nI n) (h1 : h.1 7 1 = nI t) (a : nI t = w → ∀ f : Nat → Nat → Int32, f 7 0 = nI n → f 7 1 = nI (t + 1) → (∀ j, j < n → f 46 j = h.1 47 j) → (∀ c, c ≠ 7 → c ≠ 46 → f c = h.1 c) → Q none (f, h.2)) (b : ¬ nI t = w → Q none (up2 h.1 7 1 (nI (t + 1)), h.2)) : Go X m_X2_tally 0 [.ref 7, .int w] [] h Q := by
  by_cases e : nI t = w
  · refine vg (brn_f (show h.1 7 1 = w by rw [h1]; exact e) ⟨0, 0, n, ⟨rfl, rfl, h0⟩, ⟨by omega, by omega⟩, ?_⟩)
    show Q none (up2 (upr h.1 46 (va_cpy (h.1 47) (h.1 46) 0 0 n)) 7 1 (h.1 7 1 + 1), h.2)
    rw [h1, nI_1]
    refine a e _ ?_ ?_ (fun j hj => ?_) (fun c c1 c2 => ?_)
    · rw [u_ne (by decide), upr_ne (by decide)]; exact h0
    · rw [u_at]
    · rw [up2_ne (show 46 ≠ 7 by decide), upr_at]; exact cpy0 hj
    · rw [up2_ne c1, upr_ne c2]
  · refine vg (brn_t (show ¬ h.1 7 1 = w by rw [h1]; exact e) ?_)
    show Q none (up2 h.1 7 1 (h.1 7 1 + 1), h.2)
    rw [h1, nI_1]
    exact b e
theorem t_osearch (v : okV V) (rn : RN V h) {a : Nat} (ha : a < 2 ^ V 0 0) (en : popF a 10 = n) (ec : csF a 10 = cs) (hn : n ≤ 6) (co : csOk n cs) (hc : ∀ j, j < n → cs j < V 0 0) {w : Int32} (q : ∀ f : Nat → Nat → Int32, f 7 0 = nI n → f 7 1 = nI (gtN V n cs (fac n)) → (∀ j, j < fac n → goP V n cs j → nI (gtN V n cs j) = w → AR f 46 n cs (LL n j)) → (∀ c, ¬ scr c → f c = h.1 c) → Q none (f, h.2)) : Go X m_X2_search 0 [.ref 7, .ref 2, .ref 5, .int (nI a), .int w, .null, .null] [] h Q := by
  have h1 := v.1
  have fb := fac_b hn
  have a10 : a < 1024 := Nat.lt_of_lt_of_le ha (Nat.pow_le_pow_right (n := 2) (by decide) h1.1)
  subst en ec
  refine vg (t_obegin a10 hn (fun f f0 f1 f47 fo => ?_))
  have sf : ∀ c, ¬ scr c → f c = h.1 c := fun c hc => fo c (fun z => hc (by subst z; unfold scr; omega)) (fun z => hc (by subst z; unfold scr; omega))
  refine vg (t_weave v (rn_scr rn sf) (fun g cl g1 => vc_ok (st := [16]) 100 ?_))
  have g7 : g 7 = f 7 := g1 7 (by unfold clC; omega)
  have g47 : g 47 = f 47 := g1 47 (by unfold clC; omega)
  have sg : ∀ c, ¬ scr c → g c = h.1 c := fun c hc => (sc_cl g1 c hc).trans (sf c hc)
  generalize en : popF a 10 = n at *
  generalize ec : csF a 10 = cs at *
  -- the main loop
  suffices mm : ∀ t, t ≤ fac n → ∀ g : Nat → Nat → Int32, CB V g → g 7 0 = nI n → g 7 1 = nI (gtN V n cs t) → AR g 47 n cs (LL n t) → (∀ j, j < t → goP V n cs j → nI (gtN V n cs j) = w → AR g 46 n cs (LL n j)) → (∀ c, ¬ scr c → g c = h.1 c) → Go X m_X2_search 41 [.ref 7, .ref 2, .ref 5, .int (nI a), .int w, .int (nI (fac n)), .int (nI t)] [] (g, h.2) Q by
    have m0 := mm 0 (Nat.zero_le _) g (cb_cl cl) (by rw [g7]; exact f0) (by rw [g7]; exact f1) (fun j hj => by rw [g47, LL_0 hj]; exact f47 j hj) (fun j hj => absurd hj (by omega)) sg
    have e0 : g 7 0 = nI n := by rw [g7]; exact f0
    by_cases n0 : n = 0
    · refine vc_ok (st := [41]) 100 (br_t (show g 7 0 < nI 2 by rw [e0, n0]; decide) ?_)
      rw [n0] at m0
      exact m0
    · have lp := down (fun k => Go X m_X2_search 16 [.ref 7, .ref 2, .ref 5, .int (nI a), .int w, .int (nI (fac (k + 1))), .int (nI (k + 2))] [] (g, h.2) Q) (n - 1) ?_ ?_ 0 (by omega)
      · exact lp
      · show Go X m_X2_search 16 [.ref 7, .ref 2, .ref 5, .int (nI a), .int w, .int (nI (fac (n - 1 + 1))), .int (nI (n - 1 + 2))] [] (g, h.2) Q
        rw [show n - 1 + 1 = n by omega, show n - 1 + 2 = n + 1 by omega]
        exact vc_ok (st := [41]) 100 (br_t (show g 7 0 < nI (n + 1) by rw [e0]; exact nI_lt (by omega) (by omega)) m0)
      · intro k hk ih
        have ih : Go X m_X2_search 16 [.ref 7, .ref 2, .ref 5, .int (nI a), .int w, .int (nI (fac (k + 1) * (k + 2))), .int (nI (k + 2 + 1))] [] (g, h.2) Q := ih
        rw [← pk_mul, ← nI_1 (k + 2)] at ih
        exact vc_ok (st := [16]) 100 (br_f (show ¬ g 7 0 < nI (k + 2) by rw [e0]; exact nI_nlt (by omega) (by omega)) ih)
  refine down _ (fac n) ?_ ?_
  · exact fun g _ o0 o1 _ o46 so => vg (br_t (Int32.le_refl _) (q g o0 o1 o46 so))
  · intro t ht ih g cb o0 o1 ar o46 so
    have al := LL_al n t
    have tl := gt_le V n cs t
    -- behind the counting
    have rest : ∀ k : Nat → Nat → Int32, CB V k → k 7 0 = nI n → k 7 1 = nI (gtN V n cs (t + 1)) → AR k 47 n cs (LL n t) → (∀ j, j < t + 1 → goP V n cs j → nI (gtN V n cs j) = w → AR k 46 n cs (LL n j)) → (∀ c, ¬ scr c → k c = h.1 c) → Go X m_X2_search 74 [.ref 7, .ref 2, .ref 5, .int (nI a), .int w, .int (nI (fac n)), .int (nI t)] [] (k, h.2) Q := by
      intro k cb k0 k1 ar k46 sk
      refine vg (t_advance hn al co ar k0 (fun f2 a2 e2 => ?_))
      have e2 : ∀ c, c ≠ 47 → f2 c = k c := e2
      have nx := ih f2 (cb_cg cb (by rw [e2 5 (by decide)]) (fun q q1 q2 => e2 q (by omega))) (by rw [e2 7 (by decide)]; exact k0) (by rw [e2 7 (by decide)]; exact k1) a2 (fun j hj gp e => by unfold AR; rw [e2 46 (by decide)]; exact k46 j hj gp e) (fun c hc => (e2 c (fun z => hc (by subst z; unfold scr; omega))).trans (sk c hc))
      rw [← nI_1] at nx
      exact vc_ok (st := [41]) 100 nx
    refine vg (br_f (nI_ge ht (by omega)) ?_)
    show Go X m_X0_reorder 0 [.ref 5, .ref 47, .int (g 7 0), .null] [] (g, h.2) _
    rw [o0]
    refine t_reorder 47 6 (Or.inr ⟨rfl, rfl⟩) hn (vg ?_)
    have k5 : ∀ c, c ≠ 5 → c ≠ 41 → cpK (up2 g 5 6 (nI n)) 41 47 n c = g c := fun c c1 c2 => by rw [cpK_ne c2, up2_ne c1]
    have k50 : cpK (up2 g 5 6 (nI n)) 41 47 n 5 0 = g 5 0 := by rw [cpK_ne (by decide), u_ne (by decide)]
    have k56 : cpK (up2 g 5 6 (nI n)) 41 47 n 5 6 = nI n := by rw [cpK_ne (by decide), u_at]
    have k41 : ∀ i, i < n → cpK (up2 g 5 6 (nI n)) 41 47 n 41 i = nI (cs (gt (LL n t) i)) := fun i hi => by rw [cpK_lt hi]; exact ar i hi
    generalize cpK (up2 g 5 6 (nI n)) 41 47 n = k at k5 k50 k56 k41
    have cbk : CB V k := cb_cg cb k50 (fun q q1 q2 => k5 q (by omega) (by omega))
    have sk : ∀ c, ¬ scr c → k c = h.1 c := fun c hc => (k5 c (fun z => hc (by subst z; unfold scr; omega)) (fun z => hc (by subst z; unfold scr; omega))).trans (so c hc)
    have rnk : RN V (k, h.2) := rn_scr rn sk
    refine t_firstBrokenC (ov_ok v hn hc al) (cl_ov cbk k56 k41) (by rw [OV_02]; exact rnk.1.2.2) (fun l hl => by
      rw [OV_o (a := 5) (by decide) (by decide), OV_o (a := 6) (by decide) (by decide), OV_o (a := 7) (by decide) (by decide)]
      exact rnk.2.2.2.2 l hl) (fun r hr f2 e2 => ?_)
    have e2 : ∀ c, c ≠ 42 → f2 c = k c := e2
    have e3 : ∀ c, c ≠ 5 → c ≠ 41 → c ≠ 42 → f2 c = g c := fun c c1 c2 c3 => (e2 c c3).trans (k5 c c1 c2)
    have cb2 : CB V f2 := cb_cg cbk (by rw [e2 5 (by decide)]) (fun q q1 q2 => e2 q (by omega))
    have s2 : ∀ c, ¬ scr c → f2 c = h.1 c := fun c hc => (sc_42 e2 c hc).trans (sk c hc)
    have z0 : f2 7 0 = nI n := by rw [e3 7 (by decide) (by decide) (by decide)]; exact o0
    have z1 : f2 7 1 = nI (gtN V n cs t) := by rw [e3 7 (by decide) (by decide) (by decide)]; exact o1
    have z47 : AR f2 47 n cs (LL n t) := by unfold AR; rw [e3 47 (by decide) (by decide) (by decide)]; exact ar
    have z46 : ∀ j, j < t → goP V n cs j → nI (gtN V n cs j) = w → AR f2 46 n cs (LL n j) := by unfold AR; rw [e3 46 (by decide) (by decide) (by decide)]; exact o46
    rcases go_fb v hr with ⟨gp, rfl⟩ | ⟨gp, r0⟩
    · refine vg (br_f (by decide) (t_otally hn z0 z1 (fun ew f3 y0 y1 y46 yo => ?_) (fun ew => ?_)))
      · have yo : ∀ c, c ≠ 7 → c ≠ 46 → f3 c = f2 c := yo
        refine rest f3 (cb_cg cb2 (by rw [yo 5 (by decide) (by decide)]) (fun q q1 q2 => yo q (by omega) (by omega))) y0 (by rw [gt_1 gp]; exact y1) (by unfold AR; rw [yo 47 (by decide) (by decide)]; exact z47) (fun j hj gj ej => ?_) (fun c hc => (yo c (fun z => hc (by subst z; unfold scr; omega)) (fun z => hc (by subst z; unfold scr; omega))).trans (s2 c hc))
        have jt : j = t := by
          rcases Nat.lt_or_ge j t with z | z
          · have := gt_lt gj z
            have := (nI_eq (by omega) (by omega)).mp (ej.trans ew.symm)
            omega
          · omega
        subst jt
        exact fun i hi => (y46 i hi).trans (z47 i hi)
      · refine rest (up2 f2 7 1 (nI (gtN V n cs t + 1))) (cb_cg cb2 rfl (fun q q1 q2 => up2_ne (by omega))) (by rw [u_ne (by decide)]; exact z0) (by rw [u_at, gt_1 gp]) z47 (fun j hj gj ej => ?_) (fun c hc => (up2_ne (fun z => hc (by subst z; unfold scr; omega))).trans (s2 c hc))
        have jt : j ≠ t := fun z => ew (by rw [← z]; exact ej)
        exact z46 j (by omega) gj ej
    · refine vc_ok (st := [74]) 100 (br_t r0 (rest f2 cb2 z0 (by rw [gt_0 gp]; exact z1) z47 (fun j hj gj ej => ?_) s2))
      have jt : j ≠ t := fun z => gp (by rw [← z]; exact gj)
      exact z46 j (by omega) gj ej
end LAI
