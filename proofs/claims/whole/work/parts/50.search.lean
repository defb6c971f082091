/-! the ways: the class's search -/
section SEA
variable {X : Xs} {h : Hp} {Q : Qt} {V : Vw}
abbrev KK (V : Vw) : Nat → Nat := plF V (8 * V 0 0)
abbrev MM (V : Vw) : Nat := plC V (8 * V 0 0)
abbrev WW (V : Vw) (w : Nat) : Vw := VF V (KK V) w (MM V)
theorem kk_lt (V : Vw) : ∀ i, i < MM V → KK V i < 8 * V 0 0 := fun i hi => (plF_ok V _ i hi).1
theorem kk_inj (V : Vw) : ∀ i j, i < MM V → j < MM V → KK V i = KK V j → i = j := fun i j => plF_inj V _ i j
theorem kk_e (V : Vw) : ∀ i, i < MM V → bt (V 2 (KK V i / 8)) (KK V i % 8) = 1 := fun i hi => (plF_ok V _ i hi).2.2
theorem ww_ok (v : okV V) (w : Nat) : okV (WW V w) := VF_ok v (MM V) (kk_lt V)
theorem ww_o (V : Vw) (w : Nat) {a : Nat} (h1 : a ≠ 1) (h2 : a ≠ 2) : WW V w a = V a := VF_o V _ w h1 h2 _
/-- this way breaks no law -/
def gdP (V : Vw) (w : Nat) : Prop := ∀ i, i < V 0 2 → ¬ brP (WW V w) i
noncomputable def gdN (V : Vw) (w : Nat) : Nat := @ite Nat (gdP V w) (Classical.propDecidable _) 1 0
theorem gd_1 {w : Nat} (e : gdP V w) : gdN V w = 1 := by unfold gdN; rw [if_pos e]
theorem gd_0 {w : Nat} (e : ¬ gdP V w) : gdN V w = 0 := by unfold gdN; rw [if_neg e]
theorem gd_le (V : Vw) (w : Nat) : gdN V w ≤ 1 := by unfold gdN; split <;> omega
theorem gd_fb {w : Nat} {r : Int32} (v : okV V) (f : firstB (WW V w) r) : (gdP V w ∧ r = -1) ∨ (¬ gdP V w ∧ 0 ≤ r) := by
  have h1 := v.1
  have e : WW V w 0 2 = V 0 2 := by rw [ww_o V w (by decide) (by decide)]
  rcases f with ⟨l, hl, b1, b2, rfl⟩ | ⟨b1, rfl⟩
  · rw [e] at hl
    exact Or.inr ⟨fun z => z l hl b1, nI_pos' (by omega)⟩
  · rw [e] at b1
    exact Or.inl ⟨b1, rfl⟩
noncomputable def totN (V : Vw) (w : Nat) : Nat := sumN (gdN V) w
noncomputable def htN (V : Vw) (k w : Nat) : Nat := sumN (fun v => gdN V v * bt v k) w
noncomputable def wwN (V : Vw) (i : Int32) : Nat → Nat
  | 0 => 0
  | v + 1 => if gdN V v = 1 ∧ nI (totN V v) = i then v else wwN V i v
theorem tot_le (V : Vw) : ∀ w, totN V w ≤ w
  | 0 => Nat.le_refl _
  | w + 1 => by
    have := tot_le V w
    have := gd_le V w
    show totN V w + gdN V w ≤ w + 1
    omega
theorem ht_le (V : Vw) (k : Nat) : ∀ w, htN V k w ≤ totN V w
  | 0 => Nat.le_refl _
  | w + 1 => by
    have := ht_le V k w
    have hb := bt_le w k
    show htN V k w + gdN V w * bt w k ≤ totN V w + gdN V w
    have : gdN V w * bt w k ≤ gdN V w * 1 := Nat.mul_le_mul_left _ hb
    omega
-- ===== turning over
def VH (V : Vw) (H : Nat → Nat) : Vw := fun a b => if a = 1 then H b else V a b
theorem VH_1 {H : Nat → Nat} : VH V H 1 = H := rfl
theorem VH_o {H : Nat → Nat} {a : Nat} (e : a ≠ 1) : VH V H a = V a := by funext b; unfold VH; rw [if_neg e]
theorem up_cg2 {W : Vw} (e : W 3 = V 3) (a n : Nat) : upF W a n = upF V a n := by unfold upF; rw [e]
theorem hk_cg {W : Vw} (e : W 3 = V 3) (k n : Nat) : hkN W k n = hkN V k n := by unfold hkN; rw [e]
theorem cl_sim {A B : Vw} {f : Nat → Nat → Int32} (e0 : A 0 = B 0) (e3 : A 3 = B 3) (e4 : A 4 = B 4) (e1 : ∀ c, c < B 0 0 → A 1 c = B 1 c) (c : Cl A f) : Cl B f := by
  unfold Cl Hk at c ⊢
  rw [e0, e4] at c
  refine ⟨c.1, c.2.1, fun k hk => ?_, fun q hq => ?_, c.2.2.2.2⟩
  · rw [← hk_cg e3]; exact c.2.2.1 k hk
  · have := c.2.2.2.1 q hq
    unfold Cc at this ⊢
    rw [e1 q hq, up_cg e3] at this
    exact this
theorem cl_msr {H : Nat → Nat} {f : Nat → Nat → Int32} (c : Cl (VH V H) f) {q a : Nat} (hq : q < V 0 0) : Cl (VH V (fun d => if d = q then a else H d)) (msr f q a (up V a)) := by
  have e3 : ∀ H : Nat → Nat, VH V H 3 = V 3 := fun H => VH_o (by decide)
  refine ⟨by rw [msr_ne (by decide)]; exact c.1, by rw [msr_ne (by decide)]; exact c.2.1, fun k hk => ?_, fun d hd => ?_, fun i hi => ?_⟩
  · rw [msr_ne (by decide), hk_cg (V := V) (e3 _), ← hk_cg (W := VH V H) (V := V) (e3 _)]
    exact c.2.2.1 k hk
  · unfold Cc
    rw [VH_1, up_cg (V := V) (e3 _)]
    by_cases e : d = q
    · subst e
      simp only [if_true]
      exact msr_at
    · simp only [if_neg e]
      have := c.2.2.2.1 d hd
      unfold Cc at this
      rw [VH_1, up_cg (V := V) (e3 _)] at this
      obtain ⟨m1, m2, m3, m4⟩ := msr_nc (f := f) (c := q) (a := a) (u := up V a) e
      rw [m1, m2, m3, m4]
      exact this
  · rw [msr_ne (by decide)]
    exact c.2.2.2.2 i hi
theorem t_turn1 (v : okV V) {H : Nat → Nat} (hH : ∀ c, c < V 0 0 → H c < 256) (cl : Cl (VH V H) h.1) {c j : Nat} (hc : c < V 0 0) (hj : j < 8) (q : ∀ f : Nat → Nat → Int32, Cl (VH V (fun d => if d = c then H c ^^^ 2 ^ j else H d)) f → (∀ q, ¬ (36 ≤ q ∧ q ≤ 39) → f q = h.1 q) → Q none (f, h.2)) : Go X m_X0_turnOver 0 [.ref 5, .int (nI c), .int (nI j)] [] h Q := by
  have h1 := v.1
  refine vg ⟨c, rfl, by omega, ?_⟩
  show Go X m_X0_measure 0 [.ref 5, .int (nI c), .int (h.1 36 c ^^^ (1 : Int32) <<< (nI j &&& 31)), .null, .null] [] h _
  rw [show h.1 36 c = nI (H c) from (cl.2.2.2.1 c hc).1, shl1 j (by omega), nI_xor]
  refine t_measure v (fun k hk => ?_) (by omega) (xor_lt (n := 8) (hH c hc) (Nat.pow_lt_pow_right (by decide) hj)) (vg (q _ (cl_msr cl hc) (fun q hq => msr_ne hq)))
  rw [← hk_cg (W := VH V H) (VH_o (by decide))]
  exact cl.2.2.1 k hk
/-- places and their cards and hooks, as they lie -/
def PA (V : Vw) (f : Nat → Nat → Int32) : Prop := f 6 0 = nI (MM V) ∧ ∀ j, j < MM V → f 43 j = nI (KK V j / 8) ∧ f 44 j = nI (KK V j % 8)
theorem t_turnOver (v : okV V) (m12 : MM V ≤ 12) {H : Nat → Nat} (hH : ∀ c, c < V 0 0 → H c < 256) (pa : PA V h.1) (cl : Cl (VH V H) h.1) {chg m : Nat} (hch : chg < 2 ^ 31) (hm : m ≤ MM V) (c1 : ∀ i, i < m → bt chg i = 1) (c2 : m = MM V ∨ bt chg m = 0) (q : ∀ f : Nat → Nat → Int32, Cl (VH V (tgF (KK V) H m)) f → (∀ q, ¬ (36 ≤ q ∧ q ≤ 39) → f q = h.1 q) → Q none (f, h.2)) : Go X m_X5_turnOver 0 [.ref 6, .ref 5, .int (nI chg), .null] [] h Q := by
  have h1 := v.1
  refine vc_ok (st := [2]) 40 ?_
  suffices hh : ∀ k, k ≤ m → ∀ f : Nat → Nat → Int32, Cl (VH V (tgF (KK V) H k)) f → (∀ q, ¬ (36 ≤ q ∧ q ≤ 39) → f q = h.1 q) → Go X m_X5_turnOver 2 [.ref 6, .ref 5, .int (nI chg), .int (nI k)] [] (f, h.2) Q from hh 0 (by omega) h.1 cl (fun _ _ => rfl)
  refine down _ m ?_ ?_
  · intro f cf ff
    have p0 : f 6 0 = nI (MM V) := by rw [ff 6 (by decide)]; exact pa.1
    by_cases e : m = MM V
    · exact vg (br_t (by rw [e]; exact le_of p0) (q f cf ff))
    · have b0 : bt chg m = 0 := by rcases c2 with z | z; exact absurd z e; exact z
      refine vg (br_f (nle_of p0 (by omega) (by omega)) (brn_f ?_ (q f cf ff)))
      show nI chg >>> (nI m &&& 31) &&& 1 = 0
      rw [bitN hch (by omega), b0]
      rfl
  · intro k hk ih f cf ff
    have p0 : f 6 0 = nI (MM V) := by rw [ff 6 (by decide)]; exact pa.1
    have pk := pa.2 k (by omega)
    have kl := kk_lt V k (by omega)
    refine vg (br_f (nle_of p0 (by omega) (by omega)) (brn_t ?_ ⟨k, rfl, by omega, k, rfl, by omega, ?_⟩))
    · show ¬ nI chg >>> (nI k &&& 31) &&& 1 = 0
      rw [bitN hch (by omega), c1 k hk]
      decide
    show Go X m_X0_turnOver 0 [.ref 5, .int (f 43 k), .int (f 44 k)] [] (f, h.2) _
    rw [ff 43 (by decide), ff 44 (by decide), pk.1, pk.2]
    refine t_turn1 v (fun c hc => tg_lt hH k c hc) cf (by omega) (by omega) (fun g cg gg => ?_)
    have nx := ih g (by
      have e : tgF (KK V) H (k + 1) = fun d => if d = KK V k / 8 then tgF (KK V) H k (KK V k / 8) ^^^ 2 ^ (KK V k % 8) else tgF (KK V) H k d := by
        funext d
        show (if d = KK V k / 8 then tgF (KK V) H k d ^^^ 2 ^ (KK V k % 8) else tgF (KK V) H k d) = _
        by_cases z : d = KK V k / 8
        · subst z; rfl
        · rw [if_neg z, if_neg z]
      rw [e]
      exact cg) (fun q hq => (gg q hq).trans (ff q hq))
    rw [← nI_1] at nx
    exact vc_ok (st := [2]) 100 nx
theorem t_tally {M t ww w : Nat} {i : Int32} {ht : Nat → Nat} (hM : M ≤ 12) (hw : w < 2 ^ 31) (p0 : h.1 6 0 = nI M) (p3 : h.1 6 3 = nI t) (p5 : h.1 6 5 = nI ww) (p45 : ∀ k, k < M → h.1 45 k = nI (ht k)) (q : ∀ f : Nat → Nat → Int32, f 6 0 = nI M → f 6 3 = nI (t + 1) → f 6 5 = nI (if nI t = i then w else ww) → (∀ k, k < M → f 45 k = nI (ht k + bt w k)) → (∀ c, c ≠ 6 → c ≠ 45 → f c = h.1 c) → Q none (f, h.2)) : Go X m_X5_tally 0 [.ref 6, .int (nI w), .int i, .null] [] h Q := by
  have lp : ∀ F : Nat → Nat → Int32, F 6 0 = nI M → F 6 3 = nI (t + 1) → F 6 5 = nI (if nI t = i then w else ww) → (∀ c, c ≠ 6 → F c = h.1 c) → Go X m_X5_tally 25 [.ref 6, .int (nI w), .int i, .int (nI 0)] [] (F, h.2) Q := by
    intro F F0 F3 F5 Fo
    suffices hh : ∀ k, k ≤ M → ∀ f : Nat → Nat → Int32, (∀ j, j < k → f 45 j = nI (ht j + bt w j)) → (∀ j, k ≤ j → j < M → f 45 j = nI (ht j)) → (∀ c, c ≠ 45 → f c = F c) → Go X m_X5_tally 25 [.ref 6, .int (nI w), .int i, .int (nI k)] [] (f, h.2) Q from hh 0 (by omega) F (fun j hj => absurd hj (by omega)) (fun j _ hj => by rw [Fo 45 (by decide)]; exact p45 j hj) (fun c _ => rfl)
    refine down _ M ?_ ?_
    · intro f f1 f2 f3
      have e6 := f3 6 (by decide)
      exact vg (br_t (le_of (by show f 6 0 = _; rw [e6]; exact F0)) (q f (by rw [e6]; exact F0) (by rw [e6]; exact F3) (by rw [e6]; exact F5) f1 (fun c c1 c2 => (f3 c c2).trans (Fo c c1))))
    · intro k hk ih f f1 f2 f3
      have e6 := f3 6 (by decide)
      refine vc_ok (st := [25]) 100 (br_f (nle_of (by show f 6 0 = _; rw [e6]; exact F0) hk (by omega)) ⟨k, rfl, by omega, k, rfl, by omega, ?_⟩)
      show Go X m_X5_tally 25 [.ref 6, .int (nI w), .int i, .int (nI k + 1)] [] (up2 f 45 k (f 45 k + (nI w >>> (nI k &&& 31) &&& 1)), h.2) Q
      rw [f2 k (Nat.le_refl _) hk, bitN hw (by omega), nI_add, nI_1]
      exact ih _ (allS (fun j hj => by rw [u_ne (by omega)]; exact f1 j hj) u_at) (fun j j1 j2 => by rw [u_ne (by omega)]; exact f2 j (by omega) j2) (fun c hc => by rw [up2_ne hc]; exact f3 c hc)
  by_cases e : nI t = i
  · rw [if_pos e] at lp
    refine vc_ok (st := [25]) 100 (brn_f (show h.1 6 3 = i by rw [p3]; exact e) ?_)
    show Go X m_X5_tally 25 [.ref 6, .int (nI w), .int i, .int (nI 0)] [] (up2 (up2 h.1 6 5 (nI w)) 6 3 (up2 h.1 6 5 (nI w) 6 3 + 1), h.2) Q
    have e3 : up2 h.1 6 5 (nI w) 6 3 + 1 = nI (t + 1) := by rw [u_ne (by decide), p3, nI_1]
    rw [e3]
    exact lp _ (by rw [u_ne (by decide), u_ne (by decide)]; exact p0) u_at (by rw [u_ne (by decide), u_at]) (fun c hc => by rw [up2_ne hc, up2_ne hc])
  · rw [if_neg e] at lp
    refine vc_ok (st := [25]) 100 (brn_t (show ¬ h.1 6 3 = i by rw [p3]; exact e) ?_)
    show Go X m_X5_tally 25 [.ref 6, .int (nI w), .int i, .int (nI 0)] [] (up2 h.1 6 3 (h.1 6 3 + 1), h.2) Q
    rw [p3, nI_1]
    exact lp _ (by rw [u_ne (by decide)]; exact p0) u_at (by rw [u_ne (by decide)]; exact p5) (fun c hc => by rw [up2_ne hc])
/-- what a search leaves -/
def SR (V : Vw) (i : Int32) (f : Nat → Nat → Int32) (w : Nat) : Prop := f 6 3 = nI (totN V w) ∧ f 6 5 = nI (wwN V i w) ∧ ∀ k, k < MM V → f 45 k = nI (htN V k w)
theorem t_search (v : okV V) (rn : RN V h) (m12 : MM V ≤ 12) (pa : PA V h.1) {i : Int32} (q : ∀ f : Nat → Nat → Int32, PA V f → SR V i f (2 ^ MM V) → (∀ c, ¬ scr c → f c = h.1 c) → Q none (f, h.2)) : Go X m_X5_search 0 [.ref 6, .ref 2, .ref 5, .int i, .null, .null] [] h Q := by
  have h1 := v.1
  have p2 : 2 ^ MM V ≤ 4096 := Nat.pow_le_pow_right (n := 2) (by decide) m12
  refine vc_ok (st := [13]) 100 ?_
  suffices hh : ∀ k, k ≤ MM V → ∀ f : Nat → Nat → Int32, (∀ j, j < k → f 45 j = nI 0) → f 6 0 = nI (MM V) → f 6 3 = nI 0 → f 6 5 = nI 0 → (∀ c, c ≠ 6 → c ≠ 45 → f c = h.1 c) → Go X m_X5_search 13 [.ref 6, .ref 2, .ref 5, .int i, .int (nI k), .null] [] (f, h.2) Q from hh 0 (by omega) (up2 (up2 h.1 6 3 0) 6 5 0) (fun j hj => absurd hj (by omega)) (by rw [u_ne (by decide), u_ne (by decide)]; exact pa.1) (by rw [u_ne (by decide), u_at]; rfl) (by rw [u_at]; rfl) (fun c c1 _ => by rw [up2_ne c1, up2_ne c1])
  refine down _ (MM V) ?_ ?_
  · intro f f45 f0 f3 f5 fo
    have sf : ∀ c, ¬ scr c → f c = h.1 c := fun c hc => fo c (fun z => hc (by subst z; unfold scr; omega)) (fun z => hc (by subst z; unfold scr; omega))
    have rnf : RN V (f, h.2) := rn_scr rn sf
    refine vg (br_t (le_of f0) (t_weave v rnf (fun g cl g1 => vc_ok (st := [52]) 100 ?_)))
    have n6 : g 6 = f 6 := g1 6 (by unfold clC; omega)
    have n43 : g 43 = h.1 43 := (g1 43 (by unfold clC; omega)).trans (fo 43 (by decide) (by decide))
    have n44 : g 44 = h.1 44 := (g1 44 (by unfold clC; omega)).trans (fo 44 (by decide) (by decide))
    have n45 : g 45 = f 45 := g1 45 (by unfold clC; omega)
    have sg : ∀ c, ¬ scr c → g c = h.1 c := fun c hc => (sc_cl g1 c hc).trans (sf c hc)
    show Go X m_X5_search 52 [.ref 6, .ref 2, .ref 5, .int i, .int ((1 : Int32) <<< (g 6 0 &&& 31)), .int (nI 0)] [] (g, h.2) Q
    rw [n6, f0, shl1 _ (by omega)]
    suffices hh : ∀ w, w ≤ 2 ^ MM V → ∀ g : Nat → Nat → Int32, Cl (WW V (w - 1)) g → PA V g → SR V i g w → (∀ c, ¬ scr c → g c = h.1 c) → Go X m_X5_search 52 [.ref 6, .ref 2, .ref 5, .int i, .int (nI (2 ^ MM V)), .int (nI w)] [] (g, h.2) Q from hh 0 (Nat.zero_le _) g (cl_sim (ww_o V 0 (by decide) (by decide)).symm (ww_o V 0 (by decide) (by decide)).symm (ww_o V 0 (by decide) (by decide)).symm (fun c hc => (VF_zero v (kk_lt V) (kk_inj V) (kk_e V) (by rw [ww_o V 0 (by decide) (by decide)] at hc; exact hc)).symm) cl) ⟨by rw [n6]; exact f0, fun j hj => by rw [n43, n44]; exact pa.2 j hj⟩ ⟨by rw [n6]; exact f3, by rw [n6]; exact f5, fun k hk => by rw [n45]; exact f45 k hk⟩ sg
    refine down _ (2 ^ MM V) ?_ ?_
    · exact fun g _ p s sg => vg (br_t (Int32.le_refl _) (q g p s sg))
    · intro w hw ih g cl p s sg
      have hlt : ¬ nI (2 ^ MM V) ≤ nI w := nI_ge hw (by omega)
      -- when the cloth stands at this way
      have rest : ∀ k : Nat → Nat → Int32, Cl (WW V w) k → PA V k → SR V i k w → (∀ c, ¬ scr c → k c = h.1 c) → Go X m_X5_search 76 [.ref 6, .ref 2, .ref 5, .int i, .int (nI (2 ^ MM V)), .int (nI w)] [] (k, h.2) Q := by
        intro k ck pk sk nk
        have rnk : RN V (k, h.2) := rn_scr rn nk
        have tl := tot_le V w
        refine vg (t_firstBrokenC (ww_ok v w) ck (by show k 2 6 = _; rw [ww_o V w (by decide) (by decide)]; exact rnk.1.2.2) (fun l hl => by
          rw [ww_o V w (by decide) (by decide)] at hl
          rw [ww_o V w (a := 5) (by decide) (by decide), ww_o V w (a := 6) (by decide) (by decide), ww_o V w (a := 7) (by decide) (by decide)]
          exact rnk.2.2.2.2 l hl) (fun r hr f2 k2 => ?_))
        have c2 : Cl (WW V w) f2 := cl_cg ck (fun q hq => k2 q (by unfold clC at hq; omega))
        have n2 : ∀ c, ¬ scr c → f2 c = h.1 c := fun c hc => (sc_42 k2 c hc).trans (nk c hc)
        have pa2 : PA V f2 := ⟨by rw [k2 6 (by decide)]; exact pk.1, fun j hj => by rw [k2 43 (by decide), k2 44 (by decide)]; exact pk.2 j hj⟩
        rcases gd_fb v hr with ⟨gd, rfl⟩ | ⟨gd, r0⟩
        · refine vg (br_f (by decide) (t_tally (M := MM V) (t := totN V w) (ww := wwN V i w) (ht := fun k => htN V k w) m12 (by omega) (by show f2 6 0 = _; rw [k2 6 (by decide)]; exact pk.1) (by show f2 6 3 = _; rw [k2 6 (by decide)]; exact sk.1) (by show f2 6 5 = _; rw [k2 6 (by decide)]; exact sk.2.1) (fun k hk => by show f2 45 k = _; rw [k2 45 (by decide)]; exact sk.2.2 k hk) (fun f3 q0 q3 q5 q45 qo => ?_)))
          have nx := ih f3 (by rw [show w + 1 - 1 = w by omega]; exact cl_cg c2 (fun q hq => qo q (by unfold clC at hq; omega) (by unfold clC at hq; omega))) ⟨q0, fun j hj => by rw [qo 43 (by decide) (by decide), qo 44 (by decide) (by decide)]; exact pa2.2 j hj⟩ ⟨by
              rw [q3]
              show _ = nI (totN V w + gdN V w)
              rw [gd_1 gd], by
              rw [q5]
              show _ = nI (if gdN V w = 1 ∧ nI (totN V w) = i then w else wwN V i w)
              by_cases e : nI (totN V w) = i
              · rw [if_pos e, if_pos ⟨gd_1 gd, e⟩]
              · rw [if_neg e, if_neg (fun z => e z.2)], fun k hk => by
              rw [q45 k hk]
              show _ = nI (htN V k w + gdN V w * bt w k)
              rw [gd_1 gd, Nat.one_mul]⟩ (fun c hc => (qo c (fun z => hc (by subst z; unfold scr; omega)) (fun z => hc (by subst z; unfold scr; omega))).trans (n2 c hc))
          rw [← nI_1] at nx
          exact vc_ok (st := [52]) 100 nx
        · have nx := ih f2 (by rw [show w + 1 - 1 = w by omega]; exact c2) pa2 ⟨by
              rw [k2 6 (by decide)]
              show _ = nI (totN V w + gdN V w)
              rw [gd_0 gd, Nat.add_zero]
              exact sk.1, by
              rw [k2 6 (by decide)]
              show _ = nI (if gdN V w = 1 ∧ nI (totN V w) = i then w else wwN V i w)
              rw [if_neg (fun z => by rw [gd_0 gd] at z; exact absurd z.1 (by decide))]
              exact sk.2.1, fun k hk => by
              rw [k2 45 (by decide)]
              show _ = nI (htN V k w + gdN V w * bt w k)
              rw [gd_0 gd, Nat.zero_mul, Nat.add_zero]
              exact sk.2.2 k hk⟩ n2
          rw [← nI_1] at nx
          exact vc_ok (st := [52]) 100 (br_t r0 nx)
      cases w with
      | zero => exact vc_ok (st := [76]) 100 (br_f hlt (br_t (Int32.le_refl _) (rest g cl p s sg)))
      | succ u =>
        rw [show u + 1 - 1 = u by omega] at cl
        refine vg (br_f hlt (br_f (nI_nle (by omega) (by omega)) ?_))
        show Go X m_X5_turnOver 0 [.ref 6, .ref 5, .int (nI (u + 1) ^^^ (nI (u + 1) - 1)), .null] [] (g, h.2) _
        rw [nI_pred, nI_xor]
        obtain ⟨m, m1, m2⟩ := pk_least (fun k => k = MM V ∨ bt ((u + 1) ^^^ u) k = 0) ⟨MM V, Or.inl rfl⟩
        have hm : m ≤ MM V := Nat.le_of_not_lt (fun z => m2 _ z (Or.inl rfl))
        have c1 : ∀ k, k < m → bt ((u + 1) ^^^ u) k = 1 := fun k hk => by
          have := bt_le ((u + 1) ^^^ u) k
          have := m2 k hk
          have : ¬ bt ((u + 1) ^^^ u) k = 0 := fun z => this (Or.inr z)
          omega
        have x1 : ∀ k, k < m → ¬ bt (u + 1) k = bt u k := fun k hk z => by
          have := c1 k hk
          rw [bt_xor, if_pos z] at this
          exact absurd this (by decide)
        have x2 : ∀ k, m ≤ k → k < MM V → bt (u + 1) k = bt u k := by
          intro k
          have key : ∀ n, m + n < MM V → bt ((u + 1) ^^^ u) (m + n) = 0 := by
            intro n
            induction n with
            | zero =>
              intro hn
              rcases m1 with z | z
              · omega
              · exact z
            | succ n ihn => exact fun hn => nx_1 (k := m + n) (by omega) (by omega) (ihn (by omega))
          intro mk kM
          have z := key (k - m) (by omega)
          rw [show m + (k - m) = k by omega, bt_xor] at z
          by_cases e : bt (u + 1) k = bt u k
          · exact e
          · rw [if_neg e] at z; exact absurd z (by decide)
        have okw := ww_ok v u
        have clH : Cl (VH V (WW V u 1)) g := cl_sim (A := WW V u) (B := VH V (WW V u 1)) (by rw [VH_o (show 0 ≠ 1 by decide)]; exact ww_o V u (by decide) (by decide)) (by rw [VH_o (show 3 ≠ 1 by decide)]; exact ww_o V u (by decide) (by decide)) (by rw [VH_o (show 4 ≠ 1 by decide)]; exact ww_o V u (by decide) (by decide)) (fun c _ => rfl) cl
        refine t_turnOver v m12 (H := WW V u 1) (fun c hc => (okw.2.1 c (by rw [ww_o V u (by decide) (by decide)]; exact hc)).1) p clH (m := m) (Nat.lt_trans (xor_lt (n := 13) (show u + 1 < 2 ^ 13 by omega) (show u < 2 ^ 13 by omega)) (by decide)) hm c1 m1 (fun k ck kk => ?_)
        have ck2 : Cl (WW V (u + 1)) k := cl_sim (A := VH V (tgF (KK V) (WW V u 1) m)) (B := WW V (u + 1)) (by rw [VH_o (show 0 ≠ 1 by decide)]; exact (ww_o V (u + 1) (by decide) (by decide)).symm) (by rw [VH_o (show 3 ≠ 1 by decide)]; exact (ww_o V (u + 1) (by decide) (by decide)).symm) (by rw [VH_o (show 4 ≠ 1 by decide)]; exact (ww_o V (u + 1) (by decide) (by decide)).symm) (fun c hc => by
          rw [ww_o V (u + 1) (by decide) (by decide)] at hc
          rw [VH_1]
          exact tg_next v (kk_lt V) (kk_inj V) hm x1 x2 hc) ck
        exact rest k ck2 ⟨by rw [kk 6 (by decide)]; exact p.1, fun j hj => by rw [kk 43 (by decide), kk 44 (by decide)]; exact p.2 j hj⟩ ⟨by rw [kk 6 (by decide)]; exact s.1, by rw [kk 6 (by decide)]; exact s.2.1, fun j hj => by rw [kk 45 (by decide)]; exact s.2.2 j hj⟩ (fun c hc => (kk c (fun z => hc (by unfold scr; omega))).trans (sg c hc))
  · intro k hk ih f f45 f0 f3 f5 fo
    have nx := ih (up2 f 45 k (nI 0)) (allS (fun j hj => by rw [u_ne (by omega)]; exact f45 j hj) u_at) f0 f3 f5 (fun c c1 c2 => by rw [up2_ne c2]; exact fo c c1 c2)
    rw [← nI_1] at nx
    exact vc_ok (st := [13]) 100 (br_f (nle_of f0 hk (by omega)) ⟨k, rfl, by omega, nx⟩)
end SEA
