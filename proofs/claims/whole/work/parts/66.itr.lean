/-! the text: the reference's items -/
section ITR
variable {X : Xs} {h : Hp} {Q : Qt} {n : Nat} {B : Nat → Nat} {V : Vw} {f F : Nat → Nat → Int32} {g G : Nat → Nat → Int64}
/-- all but the reader's places and the loom is as it was -/
def MF (f F : Nat → Nat → Int32) (g G : Nat → Nat → Int64) : Prop := (∀ c, c ≠ 1 → c ≠ 53 → f c = F c) ∧ (∀ j, ¬ (13 ≤ j ∧ j ≤ 17) → f 1 j = F 1 j) ∧ ∀ c, c ≠ 1 → g c = G c
theorem mf_0 : MF F F G G := ⟨fun _ _ _ => rfl, fun _ _ => rfl, fun _ _ => rfl⟩
theorem mf_fm {f2 : Nat → Nat → Int32} {g2 : Nat → Nat → Int64} (e : MF f F g G) (a : FM f2 f) (b : ∀ c, c ≠ 1 → g2 c = g c) : MF f2 F g2 G := ⟨fun c c1 c2 => (a.2 c c1).trans (e.1 c c1 c2), fun j hj => (a.1 j (by omega) (by omega) (by omega)).trans (e.2.1 j hj), fun c c1 => (b c c1).trans (e.2.2 c c1)⟩
theorem mf_53 {k : Nat} {x : Int32} (e : MF f F g G) : MF (up2 f 53 k x) F g G := ⟨fun c c1 c2 => by rw [up2_ne c2]; exact e.1 c c1 c2, fun j hj => by rw [up2_ne (show 1 ≠ 53 by decide)]; exact e.2.1 j hj, e.2.2⟩
theorem mf_17 {x : Int32} (e : MF f F g G) : MF (up2 f 1 17 x) F g G := ⟨fun c c1 c2 => by rw [up2_ne c1]; exact e.1 c c1 c2, fun j hj => by rw [u_ne (by omega)]; exact e.2.1 j hj, e.2.2⟩
theorem mf_tm (e : MF f F g G) (tm : TM n B F) : TM n B f := ⟨by rw [e.2.1 6 (by omega)]; exact tm.1, by rw [e.1 57 (by decide) (by decide)]; exact tm.2⟩
/-- what an item leaves -/
def imM (n : Nat) (B : Nat → Nat) (res : Rs) (f : Nat → Nat → Int32) (g : Nat → Nat → Int64) : Prop := (res.1 = true ∧ RM res.2.1 (f, g) 53 ∧ MT n B res.2.2 f g ∧ f 1 17 = -1) ∨ (res.1 = false ∧ f 1 17 = nI (sk n B res.2.2))
theorem cmp_0 {x y : Int64} : lg_cmp x y = 0 ↔ x = y := by
  unfold lg_cmp
  split
  · rename_i w
    exact ⟨fun z => absurd z (by decide), fun z => by subst z; exact absurd w Int64.lt_irrefl⟩
  · split
    · rename_i w
      exact ⟨fun _ => w, fun _ => rfl⟩
    · rename_i w
      exact ⟨fun z => absurd z (by decide), fun z => absurd z w⟩
theorem ordE_1 {r : Nat × Vw × Nat} (c : 0 < r.1 ∧ toR n B r.2.2 ≠ 2) : ordE n B r = (true, rowV r.2.1 r.1, r.2.2) := by unfold ordE; rw [if_pos c]
theorem ordE_0 {r : Nat × Vw × Nat} (c : ¬ (0 < r.1 ∧ toR n B r.2.2 ≠ 2)) : ordE n B r = (false, r.2.1, r.2.2) := by unfold ordE; rw [if_neg c]
theorem t_wrongHere {s : Nat} (h17 : h.1 1 17 = -1) (h15 : h.1 1 15 = nI s) (q : Q none (up2 h.1 1 17 (nI s), h.2)) : Go X m_X7_wrongHere 0 [.ref 1] [] h Q := by
  rw [← h15] at q
  exact vg (br_f (show ¬ 0 ≤ h.1 1 17 by rw [h17]; decide) q)
theorem mS_k {t k : Nat} (ht : t ≤ 5) : ∀ k, k ≤ 5 → (nI (mS t) = nI (mS k) ↔ t = k) := by
  intro k hk
  have e : ∀ t, t ≤ 5 → ∀ k, k ≤ 5 → (nI (mS t) = nI (mS k) ↔ t = k) := by decide +kernel
  exact e t ht k hk
theorem mt_k {p : Nat} (mt : MT n B p f g) {k : Nat} (hk : k ≤ 5) : f 1 14 = nI (mS k) ↔ toR n B p = k := by
  rw [mt.2.2.1]
  exact mS_k (k := k) (to_b n B p) k hk
theorem t_nextS (hn : n ≤ 120) (hB : ∀ i, i < n → B i < 256) (tm : TM n B h.1) {p : Nat} (hp : p ≤ n) (mt : MT n B p h.1 h.2) (h5 : toR n B p ≠ 5) (q : ∀ (f : Nat → Nat → Int32) (g : Nat → Nat → Int64), MT n B (eZ n B p) f g → FM f h.1 → (∀ c, c ≠ 1 → g c = h.2 c) → Q none (f, g)) : Go X m_X7_next 0 [.ref 1, .null] [] h Q := t_next hn hB tm (eZ_b hp).2.2.1 (mt.2.1 h5) q
theorem fm_rm (e : FM f F) (r : RM V (F, G) 53) : RM V (f, g) 53 := rm_cg (h := (F, G)) (h' := (f, g)) r (e.2 53 (by decide))
theorem fm_17 (e : FM f F) : f 1 17 = F 1 17 := e.1 17 (by decide) (by decide) (by decide)
theorem fm_tm (e : FM f F) (tm : TM n B F) : TM n B f := ⟨by rw [e.1 6 (by decide) (by decide) (by decide)]; exact tm.1, by rw [e.2 57 (by decide)]; exact tm.2⟩
theorem t_numHere (hn : n ≤ 120) (hB : ∀ i, i < n → B i < 256) (tm : TM n B h.1) {p : Nat} (hp : p ≤ n) (mt : MT n B p h.1 h.2) (h17 : h.1 1 17 = -1) {lo hi : Int32} {l : Nat} {u : Int} (hl : lo.toInt = l) (hu : hi.toInt = u) (u9 : u ≤ 999) (a : tkP n B p = 2 → l ≤ nmP n B p → (nmP n B p : Int) ≤ u → ∀ (f : Nat → Nat → Int32) (g : Nat → Nat → Int64), MT n B (eZ n B p) f g → FM f h.1 → (∀ c, c ≠ 1 → g c = h.2 c) → Q (some (.int (nI (nmP n B p)))) (f, g)) (b : ¬ (tkP n B p = 2 ∧ l ≤ nmP n B p ∧ (nmP n B p : Int) ≤ u) → Q (some (.int lo)) (up2 h.1 1 17 (nI (sk n B p)), h.2)) : Go X m_X7_numberHere 0 [.ref 1, .int lo, .int hi, .null] [] h Q := by
  have k2 := mt_k mt (k := 2) (by decide)
  by_cases t2 : toR n B p = 2
  case neg => exact vg (brn_t (fun w => t2 (k2.mp w)) (t_wrongHere h17 mt.1 (vg (b (fun w => t2 (tp_2.mp w.1).1)))))
  have vl : h.2 1 16 = lN (nmQ n B p) := by
    rw [mt.2.2.2]
    unfold vlM
    rw [if_neg (by omega), if_pos t2]
  have pq := nm_pq hp t2
  have qb : nmQ n B p < 2 ^ 31 := by omega
  have vi : (h.2 1 16).toInt = (nmQ n B p : Int) := by rw [vl, lN_toInt qb]
  refine vg (brn_f (k2.mpr t2) (t_in (fun w1 w2 => ?_) (fun w => ?_)))
  · rw [l_le, i64, hl, vi] at w1
    rw [l_le, i64, hu, vi] at w2
    have e : nmP n B p = nmQ n B p := by omega
    have ei : (h.2 1 16).toInt32 = nI (nmP n B p) := by rw [vl, lN_i, e]
    refine vg (brn_t (by decide) ?_)
    show Go X m_X7_next 0 [.ref 1, .null] [] h (fun v h' => Go X m_X7_numberHere 38 [.ref 1, .int lo, .int hi, .int ((h.2 1 16).toInt32)] (pushO v []) h' Q)
    rw [ei]
    exact t_nextS hn hB tm hp mt (by omega) (fun f g m fm gm => vg (a (tp_2.mpr ⟨t2, by omega⟩) (by omega) (by omega) f g m fm gm))
  · refine vg (brn_f rfl (t_wrongHere h17 mt.1 (vg (b (fun y => w ?_)))))
    obtain ⟨y1, y2, y3⟩ := y
    rw [l_le, l_le, i64, i64, hl, hu, vi]
    have := (tp_2.mp y1).2
    omega
theorem rm_cardV (v : okV V) (h10 : V 0 0 < 10) (r : RM V (f, g) 53) {a e : Nat} : RM (cardV V a e) (up2 (up2 (up2 f 53 (4 + V 0 0) (nI a)) 53 (14 + V 0 0) (nI e)) 53 0 (nI (V 0 0 + 1)), g) 53 := by
  have h1 := v.1
  have kn : ∀ q, q ≠ 0 → q ≠ 4 + V 0 0 → q ≠ 14 + V 0 0 → up2 (up2 (up2 f 53 (4 + V 0 0) (nI a)) 53 (14 + V 0 0) (nI e)) 53 0 (nI (V 0 0 + 1)) 53 q = f 53 q := fun q z0 z1 z2 => by rw [u_ne z0, u_ne z2, u_ne z1]
  refine ⟨⟨(by show up2 (up2 (up2 f 53 (4 + V 0 0) (nI a)) 53 (14 + V 0 0) (nI e)) 53 0 (nI (V 0 0 + 1)) 53 0 = nI (V 0 0 + 1); exact u_at), (kn 1 (by decide) (by omega) (by omega)).trans r.1.2.1, (kn 2 (by decide) (by omega) (by omega)).trans r.1.2.2⟩, fun c hc => ?_, fun t ht => (kn _ (by omega) (by omega) (by omega)).trans (r.2.2.1 t ht), fun i hi => ?_, fun l hl => ?_⟩
  · have hc : c < V 0 0 + 1 := hc
    show _ = nI (up2 V 1 (V 0 0) a 1 c) ∧ _ = nI (up2 (up2 V 1 (V 0 0) a) 2 (V 0 0) e 2 c)
    by_cases z : c = V 0 0
    · subst z
      rw [u_at (f := V), u_at (f := up2 V 1 (V 0 0) a)]
      refine ⟨?_, ?_⟩
      · show up2 (up2 (up2 f 53 (4 + V 0 0) (nI a)) 53 (14 + V 0 0) (nI e)) 53 0 (nI (V 0 0 + 1)) 53 (4 + V 0 0) = nI a
        rw [u_ne (by omega), u_ne (by omega), u_at]
      · show up2 (up2 (up2 f 53 (4 + V 0 0) (nI a)) 53 (14 + V 0 0) (nI e)) 53 0 (nI (V 0 0 + 1)) 53 (14 + V 0 0) = nI e
        rw [u_ne (by omega), u_at]
    · rw [u_ne (f := V) z, u_ne (f := up2 V 1 (V 0 0) a) z, up2_ne (f := V) (show 2 ≠ 1 by decide)]
      exact ⟨(kn _ (by omega) (by omega) (by omega)).trans (r.2.1 c (by omega)).1, (kn _ (by omega) (by omega) (by omega)).trans (r.2.1 c (by omega)).2⟩
  · have hi : i < V 0 1 := hi
    exact (kn _ (by omega) (by omega) (by omega)).trans (r.2.2.2.1 i hi)
  · have hl : l < V 0 2 := hl
    exact ⟨(kn _ (by omega) (by omega) (by omega)).trans (r.2.2.2.2 l hl).1, (kn _ (by omega) (by omega) (by omega)).trans (r.2.2.2.2 l hl).2.1, (kn _ (by omega) (by omega) (by omega)).trans (r.2.2.2.2 l hl).2.2⟩
theorem rm_tieV (v : okV V) (r : RM V (f, g) 53) {t k : Nat} (ht : t < 16) : RM (tieV V t k) (up2 f 53 (24 + t) (nI k), g) 53 := by
  have h1 := v.1
  have kn : ∀ q, q ≠ 24 + t → up2 f 53 (24 + t) (nI k) 53 q = f 53 q := fun q z => u_ne z
  refine ⟨⟨(kn 0 (by omega)).trans r.1.1, (kn 1 (by omega)).trans r.1.2.1, (kn 2 (by omega)).trans r.1.2.2⟩, fun c hc => ?_, fun i hi => ?_, fun i hi => ?_, fun l hl => ?_⟩
  · have hc : c < V 0 0 := hc
    exact ⟨(kn _ (by omega)).trans (r.2.1 c hc).1, (kn _ (by omega)).trans (r.2.1 c hc).2⟩
  · show up2 f 53 (24 + t) (nI k) 53 (24 + i) = nI (up2 V 3 t k 3 i)
    by_cases z : i = t
    · subst z; rw [u_at, u_at]
    · rw [u_ne (by omega), u_ne z]; exact r.2.2.1 i hi
  · have hi : i < V 0 1 := hi
    exact (kn _ (by omega)).trans (r.2.2.2.1 i hi)
  · have hl : l < V 0 2 := hl
    exact ⟨(kn _ (by omega)).trans (r.2.2.2.2 l hl).1, (kn _ (by omega)).trans (r.2.2.2.2 l hl).2.1, (kn _ (by omega)).trans (r.2.2.2.2 l hl).2.2⟩
theorem rm_lawV (v : okV V) (h6 : V 0 2 < 6) (r : RM V (f, g) 53) {a e : Nat} : RM (lawV V a e) (up2 (up2 (up2 (up2 f 53 (60 + V 0 2) (nI a)) 53 (66 + V 0 2) (nI e)) 53 (72 + V 0 2) (nI 1)) 53 2 (nI (V 0 2 + 1)), g) 53 := by
  have h1 := v.1
  have kn : ∀ q, q ≠ 2 → q ≠ 60 + V 0 2 → q ≠ 66 + V 0 2 → q ≠ 72 + V 0 2 → up2 (up2 (up2 (up2 f 53 (60 + V 0 2) (nI a)) 53 (66 + V 0 2) (nI e)) 53 (72 + V 0 2) (nI 1)) 53 2 (nI (V 0 2 + 1)) 53 q = f 53 q := fun q z0 z1 z2 z3 => by rw [u_ne z0, u_ne z3, u_ne z2, u_ne z1]
  refine ⟨⟨(kn 0 (by decide) (by omega) (by omega) (by omega)).trans r.1.1, (kn 1 (by decide) (by omega) (by omega) (by omega)).trans r.1.2.1, (by show up2 (up2 (up2 (up2 f 53 (60 + V 0 2) (nI a)) 53 (66 + V 0 2) (nI e)) 53 (72 + V 0 2) (nI 1)) 53 2 (nI (V 0 2 + 1)) 53 2 = nI (V 0 2 + 1); exact u_at)⟩, fun c hc => ?_, fun t ht => (kn _ (by omega) (by omega) (by omega) (by omega)).trans (r.2.2.1 t ht), fun i hi => ?_, fun l hl => ?_⟩
  · have hc : c < V 0 0 := hc
    exact ⟨(kn _ (by omega) (by omega) (by omega) (by omega)).trans (r.2.1 c hc).1, (kn _ (by omega) (by omega) (by omega) (by omega)).trans (r.2.1 c hc).2⟩
  · have hi : i < V 0 1 := hi
    exact (kn _ (by omega) (by omega) (by omega) (by omega)).trans (r.2.2.2.1 i hi)
  · have hl : l < V 0 2 + 1 := hl
    show _ = nI (up2 V 5 (V 0 2) a 5 l) ∧ _ = nI (up2 (up2 V 5 (V 0 2) a) 6 (V 0 2) e 6 l) ∧ _ = nI (up2 (up2 (up2 V 5 (V 0 2) a) 6 (V 0 2) e) 7 (V 0 2) 1 7 l)
    by_cases z : l = V 0 2
    · subst z
      rw [u_at (f := V), u_at (f := up2 V 5 (V 0 2) a), u_at (f := up2 (up2 V 5 (V 0 2) a) 6 (V 0 2) e)]
      refine ⟨?_, ?_, ?_⟩
      · show up2 (up2 (up2 (up2 f 53 (60 + V 0 2) (nI a)) 53 (66 + V 0 2) (nI e)) 53 (72 + V 0 2) (nI 1)) 53 2 (nI (V 0 2 + 1)) 53 (60 + V 0 2) = nI a
        rw [u_ne (by omega), u_ne (by omega), u_ne (by omega), u_at]
      · show up2 (up2 (up2 (up2 f 53 (60 + V 0 2) (nI a)) 53 (66 + V 0 2) (nI e)) 53 (72 + V 0 2) (nI 1)) 53 2 (nI (V 0 2 + 1)) 53 (66 + V 0 2) = nI e
        rw [u_ne (by omega), u_ne (by omega), u_at]
      · show up2 (up2 (up2 (up2 f 53 (60 + V 0 2) (nI a)) 53 (66 + V 0 2) (nI e)) 53 (72 + V 0 2) (nI 1)) 53 2 (nI (V 0 2 + 1)) 53 (72 + V 0 2) = nI 1
        rw [u_ne (by omega), u_at]
    · rw [u_ne (f := V) z, u_ne (f := up2 V 5 (V 0 2) a) z, u_ne (f := up2 (up2 V 5 (V 0 2) a) 6 (V 0 2) e) z, up2_ne (f := V) (show 6 ≠ 5 by decide), up2_ne (f := up2 V 5 (V 0 2) a) (show 7 ≠ 6 by decide), up2_ne (f := V) (show 7 ≠ 5 by decide)]
      have rl := r.2.2.2.2 l (by omega)
      exact ⟨(kn _ (by omega) (by omega) (by omega) (by omega)).trans rl.1, (kn _ (by omega) (by omega) (by omega) (by omega)).trans rl.2.1, (kn _ (by omega) (by omega) (by omega) (by omega)).trans rl.2.2⟩
/-- writes to the loom leave the token -/
theorem mt_53 {p k : Nat} {x : Int32} (mt : MT n B p f g) : MT n B p (up2 f 53 k x) g := mt
theorem t_cardHere (hn : n ≤ 120) (hB : ∀ i, i < n → B i < 256) (v : okV V) {p : Nat} (hp : p ≤ n) (tm : TM n B h.1) (mt : MT n B p h.1 h.2) (h5 : toR n B p ≠ 5) (h17 : h.1 1 17 = -1) (rm : RM V h 53) (q : ∀ (f : Nat → Nat → Int32) (g : Nat → Nat → Int64), imM n B (cardI n B V p) f g → MF f h.1 g h.2 → Q none (f, g)) : Go X m_X7_cardHere 0 [.ref 1, .null, .null, .null] [] h Q := by
  have h1 := v.1
  have z := eZ_b (n := n) (B := B) hp
  have z1 := eZ_b (n := n) (B := B) z.2.2.1
  unfold cardI at q
  by_cases d : V 0 0 < 10
  case neg =>
    rw [if_neg d] at q
    exact vg ⟨0, rfl, by decide, brn_f (show h.1 53 0 = nI 10 by rw [rm.1.1, show V 0 0 = 10 by omega]) (t_wrongHere h17 mt.1 (vg (q _ _ (Or.inr ⟨rfl, u_at⟩) (mf_17 mf_0))))⟩
  rw [if_pos d] at q
  refine vg ⟨0, rfl, by decide, brn_t (show ¬ h.1 53 0 = nI 10 by rw [rm.1.1, nI_eq (by omega) (by omega)]; omega) (t_nextS hn hB tm hp mt h5 (fun f g mf fm gm => ?_))⟩
  have m1 : MF f h.1 g h.2 := mf_fm mf_0 fm gm
  have rf : RM V (f, g) 53 := fm_rm fm rm
  have tf := fm_tm fm tm
  have f17 : f 1 17 = -1 := (fm_17 fm).trans h17
  generalize eZ n B p = p1 at *
  have k3 := mt_k mf (k := 3) (by decide)
  have bad : ¬ (toR n B p1 = 3 ∧ eZ n B p1 - sk n B p1 = 8) → Q none (up2 f 1 17 (nI (sk n B p1)), g) := fun w => by
    rw [if_neg w] at q
    exact q _ _ (Or.inr ⟨rfl, u_at⟩) (mf_17 m1)
  by_cases t3 : toR n B p1 = 3
  case neg => exact vg (brn_t (fun w => t3 (k3.mp w)) (t_wrongHere f17 mf.1 (vg (bad (fun w => t3 w.1)))))
  have vl : g 1 16 = lN (eZ n B p1 - sk n B p1) := by
    rw [mf.2.2.2]
    unfold vlM
    rw [if_neg (by omega), if_neg (by omega), if_pos t3]
  have k8 : lg_cmp (g 1 16) (lN 8) = 0 ↔ eZ n B p1 - sk n B p1 = 8 := by
    rw [cmp_0, vl, lN_eq (by omega) (by omega)]
  by_cases c8 : eZ n B p1 - sk n B p1 = 8
  case neg => exact vg (brn_f (k3.mpr t3) (br_f (fun w => c8 (k8.mp w)) (t_wrongHere f17 mf.1 (vg (bad (fun w => c8 w.2))))))
  rw [if_pos ⟨t3, c8⟩] at q
  have f15 : f 1 15 = nI (sk n B p1) := mf.1
  have sb := z1.1
  generalize hs : sk n B p1 = s at *
  refine vc_ok (st := [50]) 100 (brn_f (k3.mpr t3) (br_t (k8.mpr c8) ?_))
  refine down (fun k => Go X m_X7_cardHere 50 [.ref 1, .int (nI (hoF B s 35 k)), .int (nI (hoF B s 63 k)), .int (nI k)] [] (f, g) Q) 8 ?_ ?_ 0 (by omega)
  · refine vg (br_t (by decide) (t_comes (h := (f, g)) (n := V 0 0) d rf.1.1 (vg (t_nextS (h := (up2 (up2 (up2 f 53 (4 + V 0 0) (nI (hoF B s 35 8))) 53 (14 + V 0 0) (nI (hoF B s 63 8))) 53 0 (nI (V 0 0 + 1)), g)) (p := p1) hn hB tf z.2.2.1 (mt_53 (mt_53 (mt_53 mf))) (by omega) (fun f2 g2 mt2 fm2 gm2 => vg (q f2 g2 (Or.inl ⟨rfl, fm_rm fm2 (rm_cardV v d rf), mt2, (fm_17 fm2).trans f17⟩) (mf_fm (mf_53 (mf_53 (mf_53 m1))) fm2 gm2)))))))
  · intro k hk ih
    have ix : f 1 15 + nI k = nI (s + k) := by rw [f15, nI_add]
    have c35 := cM_eq hB (i := s + k) (k := 35) (by decide)
    have c63 := cM_eq hB (i := s + k) (k := 63) (by decide)
    have sh1 := shl1 k (by omega)
    have ih : Go X m_X7_cardHere 50 [.ref 1, .int (nI (hoF B s 35 (k + 1))), .int (nI (hoF B s 63 (k + 1))), .int (nI (k + 1))] [] (f, g) Q := ih
    -- the second half
    have g2 : ∀ a : Nat, Go X m_X7_cardHere 50 [.ref 1, .int (nI a), .int (nI (hoF B s 63 (k + 1))), .int (nI (k + 1))] [] (f, g) Q → Go X m_X7_cardHere 81 [.ref 1, .int (nI a), .int (nI (hoF B s 63 k)), .int (nI k)] [] (f, g) Q := by
      intro a nx
      refine vg ?_
      show Go X m_X7_byteAt 0 [.ref 1, .int (f 1 15 + nI k)] [] (f, g) _
      rw [ix]
      refine t_byteAt hn tf (by omega) ?_
      by_cases d63 : B (s + k) = 63
      · rw [ho_1 d63, ← nI_or, ← sh1, ← nI_1] at nx
        exact vc_ok (st := [50]) 100 (brn_f (c63.mpr ⟨by omega, d63⟩) nx)
      · rw [ho_0 d63, ← nI_1, ← Nat.or_zero (hoF B s 63 k), ← nI_or] at nx
        exact vc_ok (st := [50]) 100 (brn_t (fun w => d63 (c63.mp w).2) nx)
    refine vg (br_f (nI_ge hk (by decide)) ?_)
    show Go X m_X7_byteAt 0 [.ref 1, .int (f 1 15 + nI k)] [] (f, g) _
    rw [ix]
    refine t_byteAt hn tf (by omega) ?_
    by_cases d35 : B (s + k) = 35
    · have nx := g2 (hoF B s 35 (k + 1)) ih
      rw [ho_1 d35, ← nI_or, ← sh1] at nx
      exact vc_ok (st := [81]) 100 (brn_f (c35.mpr ⟨by omega, d35⟩) nx)
    · have nx := g2 (hoF B s 35 (k + 1)) ih
      rw [ho_0 d35, ← Nat.or_zero (hoF B s 35 k), ← nI_or] at nx
      exact vc_ok (st := [81]) 100 (brn_t (fun w => d35 (c35.mp w).2) nx)
theorem t_tieHere (hn : n ≤ 120) (hB : ∀ i, i < n → B i < 256) (v : okV V) {p : Nat} (hp : p ≤ n) (tm : TM n B h.1) (mt : MT n B p h.1 h.2) (h5 : toR n B p ≠ 5) (h17 : h.1 1 17 = -1) (rm : RM V h 53) (q : ∀ (f : Nat → Nat → Int32) (g : Nat → Nat → Int64), imM n B (tieI n B V p) f g → MF f h.1 g h.2 → Q none (f, g)) : Go X m_X7_tieHere 0 [.ref 1, .null, .null] [] h Q := by
  have z := eZ_b (n := n) (B := B) hp
  have z1 := eZ_b (n := n) (B := B) z.2.2.1
  unfold tieI at q
  refine vg (t_nextS hn hB tm hp mt h5 (fun f g mf fm gm => vg ?_))
  have m1 : MF f h.1 g h.2 := mf_fm mf_0 fm gm
  have rf : RM V (f, g) 53 := fm_rm fm rm
  have tf := fm_tm fm tm
  have f17 : f 1 17 = -1 := (fm_17 fm).trans h17
  generalize eZ n B p = p1 at *
  refine t_numHere (h := (f, g)) (lo := nI 0) (hi := nI 15) (l := 0) (u := 15) hn hB tf z.2.2.1 mf f17 rfl rfl (by decide) (fun t2 _ l2 f2 g2 mt2 fm2 gm2 => ?_) (fun w => ?_)
  case refine_2 =>
    rw [if_neg (fun y => w ⟨y.1, Nat.zero_le _, by omega⟩)] at q
    have e17 : up2 f 1 17 (nI (sk n B p1)) 1 17 = nI (sk n B p1) := u_at
    have ge : 0 ≤ up2 f 1 17 (nI (sk n B p1)) 1 17 := by rw [e17]; exact nI_pos' (by omega)
    exact vg (br_t ge (br_t ge (q _ _ (Or.inr ⟨rfl, e17⟩) (mf_17 m1))))
  have m2 : MF f2 h.1 g2 h.2 := mf_fm m1 fm2 gm2
  have r2 : RM V (f2, g2) 53 := fm_rm fm2 rf
  have tf2 := fm_tm fm2 tf
  have f217 : f2 1 17 = -1 := (fm_17 fm2).trans f17
  have lt : ¬ 0 ≤ f2 1 17 := by rw [f217]; decide
  have l2 : nmP n B p1 < 16 := by omega
  rw [if_pos ⟨t2, l2⟩] at q
  refine vg (br_f lt ?_)
  generalize eZ n B p1 = p2 at *
  refine t_numHere (h := (f2, g2)) (lo := nI 0) (hi := nI 7) (l := 0) (u := 7) hn hB tf2 z1.2.2.1 mt2 f217 rfl rfl (by decide) (fun t3 _ l3 f3 g3 mt3 fm3 gm3 => ?_) (fun w => ?_)
  case refine_2 =>
    rw [if_neg (fun y => w ⟨y.1, Nat.zero_le _, by omega⟩)] at q
    have e17 : up2 f2 1 17 (nI (sk n B p2)) 1 17 = nI (sk n B p2) := u_at
    have sk2 := sk_b (n := n) (B := B) _ p2 rfl z1.2.2.1
    have ge : 0 ≤ up2 f2 1 17 (nI (sk n B p2)) 1 17 := by rw [e17]; exact nI_pos' (by omega)
    exact vg (br_t ge (q _ _ (Or.inr ⟨rfl, e17⟩) (mf_17 m2)))
  have l3 : nmP n B p2 < 8 := by omega
  rw [if_pos ⟨t3, l3⟩] at q
  have f317 : f3 1 17 = -1 := (fm_17 fm3).trans f217
  exact vg (br_f (show ¬ 0 ≤ f3 1 17 by rw [f317]; decide) ⟨24 + nmP n B p1, nI_add 24 _, by omega, q _ _ (Or.inl ⟨rfl, rm_tieV v (fm_rm fm3 r2) l2, mt_53 mt3, f317⟩) (mf_53 (mf_fm m2 fm3 gm3))⟩)
theorem t_lawHere (hn : n ≤ 120) (hB : ∀ i, i < n → B i < 256) (v : okV V) {p kd : Nat} (hp : p ≤ n) (tm : TM n B h.1) (mt : MT n B p h.1 h.2) (h5 : toR n B p ≠ 5) (h17 : h.1 1 17 = -1) (rm : RM V h 53) (q : ∀ (f : Nat → Nat → Int32) (g : Nat → Nat → Int64), imM n B (lawI n B V p kd) f g → MF f h.1 g h.2 → Q none (f, g)) : Go X m_X7_lawHere 0 [.ref 1, .int (nI kd), .null, .null] [] h Q := by
  have h1 := v.1
  have z := eZ_b (n := n) (B := B) hp
  have z1 := eZ_b (n := n) (B := B) z.2.2.1
  unfold lawI at q
  by_cases d : V 0 2 < 6
  case neg =>
    rw [if_neg d] at q
    exact vg ⟨2, rfl, by decide, brn_f (show h.1 53 2 = nI 6 by rw [rm.1.2.2, show V 0 2 = 6 by omega]) (t_wrongHere h17 mt.1 (vg (q _ _ (Or.inr ⟨rfl, u_at⟩) (mf_17 mf_0))))⟩
  rw [if_pos d] at q
  refine vg ⟨2, rfl, by decide, brn_t (show ¬ h.1 53 2 = nI 6 by rw [rm.1.2.2, nI_eq (by omega) (by omega)]; omega) (t_nextS hn hB tm hp mt h5 (fun f g mf fm gm => vg ?_))⟩
  have m1 : MF f h.1 g h.2 := mf_fm mf_0 fm gm
  have rf : RM V (f, g) 53 := fm_rm fm rm
  have tf := fm_tm fm tm
  have f17 : f 1 17 = -1 := (fm_17 fm).trans h17
  generalize eZ n B p = p1 at *
  refine t_numHere (h := (f, g)) (lo := nI 1) (hi := nI 16) (l := 1) (u := 16) hn hB tf z.2.2.1 mf f17 rfl rfl (by decide) (fun t2 g1 l2 f2 g2 mt2 fm2 gm2 => ?_) (fun w => ?_)
  case refine_2 =>
    rw [if_neg (fun y => w ⟨y.1, y.2.1, by omega⟩)] at q
    have e17 : up2 f 1 17 (nI (sk n B p1)) 1 17 = nI (sk n B p1) := u_at
    have ge : 0 ≤ up2 f 1 17 (nI (sk n B p1)) 1 17 := by rw [e17]; exact nI_pos' (by omega)
    exact vg (br_t ge (q _ _ (Or.inr ⟨rfl, e17⟩) (mf_17 m1)))
  have l2 : nmP n B p1 ≤ 16 := by omega
  rw [if_pos ⟨t2, g1, l2⟩] at q
  have r2 : RM V (f2, g2) 53 := fm_rm fm2 rf
  have f217 : f2 1 17 = -1 := (fm_17 fm2).trans f17
  exact vg (br_f (show ¬ 0 ≤ f2 1 17 by rw [f217]; decide) (t_lawComes (h := (f2, g2)) (n := V 0 2) d r2.1.2.2 (vg (q _ _ (Or.inl ⟨rfl, rm_lawV v d r2, mt_53 (mt_53 (mt_53 (mt_53 mt2))), f217⟩) (mf_53 (mf_53 (mf_53 (mf_53 (mf_fm m1 fm2 gm2)))))))))
theorem rm_row {i : Nat} (r : RB V f) (r1 : f 53 1 = nI i) (r40 : ∀ j, j < i → f 53 (40 + j) = nI (V 4 j)) : RM (rowV V i) (f, g) 53 := ⟨⟨r.1.1, r1, r.1.2⟩, r.2.1, r.2.2.1, r40, r.2.2.2⟩
theorem rb_fm (v : okP V 0) (r : RB V F) (e : f 53 = F 53) : RB V f := by unfold RB; rw [e]; exact r
theorem rb_40 {i : Nat} (v : okP V i) (hi : i < 20) {x : Int32} (r : RB V f) : RB V (up2 f 53 (40 + i) x) := by
  have h1 := v.1
  refine ⟨⟨?_, ?_⟩, fun c hc => ⟨?_, ?_⟩, fun t ht => ?_, fun l hl => ⟨?_, ?_, ?_⟩⟩
  · rw [u_ne (by omega)]; exact r.1.1
  · rw [u_ne (by omega)]; exact r.1.2
  · rw [u_ne (by omega)]; exact (r.2.1 c hc).1
  · rw [u_ne (by omega)]; exact (r.2.1 c hc).2
  · rw [u_ne (by omega)]; exact r.2.2.1 t ht
  · rw [u_ne (by omega)]; exact (r.2.2.2 l hl).1
  · rw [u_ne (by omega)]; exact (r.2.2.2 l hl).2.1
  · rw [u_ne (by omega)]; exact (r.2.2.2 l hl).2.2
theorem rb_1 {i : Nat} (v : okP V i) {x : Int32} (r : RB V f) : RB V (up2 f 53 1 x) := by
  have h1 := v.1
  refine ⟨⟨?_, ?_⟩, fun c hc => ⟨?_, ?_⟩, fun t ht => ?_, fun l hl => ⟨?_, ?_, ?_⟩⟩
  · rw [u_ne (by omega)]; exact r.1.1
  · rw [u_ne (by omega)]; exact r.1.2
  · rw [u_ne (by omega)]; exact (r.2.1 c hc).1
  · rw [u_ne (by omega)]; exact (r.2.1 c hc).2
  · rw [u_ne (by omega)]; exact r.2.2.1 t ht
  · rw [u_ne (by omega)]; exact (r.2.2.2 l hl).1
  · rw [u_ne (by omega)]; exact (r.2.2.2 l hl).2.1
  · rw [u_ne (by omega)]; exact (r.2.2.2 l hl).2.2
theorem t_orderL (hn : n ≤ 120) (hB : ∀ i, i < n → B i < 256) : ∀ (m i : Nat) (V : Vw) (p : Nat) (l2 : Value) (f : Nat → Nat → Int32) (g : Nat → Nat → Int64), i + m = 20 → okP V i → p ≤ n → TM n B F → MT n B p f g → f 1 17 = -1 → RB V f → (∀ j, j < i → f 53 (40 + j) = nI (V 4 j)) → (i = 0 ∨ toR n B p = 2) → MF f F g G → (∀ (f : Nat → Nat → Int32) (g : Nat → Nat → Int64), imM n B (ordE n B (ordF n B m i V p)) f g → MF f F g G → Q none (f, g)) → Go X m_X7_orderHere 6 [.ref 1, .int (nI i), l2] [] (f, g) Q
  | 0, i, V, p, l2, f, g, hm, v, hp, tm, mt, f17, rb, pk, alt, mf, q => by
    have : i = 20 := by omega
    subst this
    have t2 : toR n B p = 2 := by omega
    have sk2 := sk_b (n := n) (B := B) _ p rfl hp
    have e : ordE n B (ordF n B 0 20 V p) = (false, V, p) := ordE_0 (r := (20, V, p)) (fun w => w.2 t2)
    rw [e] at q
    refine vg (brn_f rfl (br_f (by decide) (t_wrongHere (h := (f, g)) f17 mt.1 ?_)))
    have ge : 0 ≤ up2 f 1 17 (nI (sk n B p)) 1 17 := by rw [u_at]; exact nI_pos' (by omega)
    exact vg (br_t ge (br_t ge ⟨1, rfl, by decide, q _ _ (Or.inr ⟨rfl, (show up2 f 1 17 (nI (sk n B p)) 1 17 = nI (sk n B p) from u_at)⟩) (mf_53 (mf_17 mf))⟩))
  | m + 1, i, V, p, l2, f, g, hm, v, hp, tm, mt, f17, rb, pk, alt, mf, q => by
    have h1 := v.1
    have sk2 := sk_b (n := n) (B := B) _ p rfl hp
    have z := eZ_b (n := n) (B := B) hp
    have hi20 : i < 20 := by omega
    refine vg (brn_t (show ¬ nI i = nI 20 by rw [nI_eq (by omega) (by omega)]; omega) ⟨0, rfl, by decide, ?_⟩)
    have hu : (f 53 0 - nI 1).toInt = (V 0 0 : Int) - 1 := by
      rw [rb.1.1, pk_sub_toInt (by omega) (by decide)]
      rfl
    refine t_numHere (h := (f, g)) (lo := nI 0) (hi := f 53 0 - nI 1) (l := 0) (u := (V 0 0 : Int) - 1) hn hB (mf_tm mf tm) hp mt f17 rfl hu (by omega) (fun t2 _ lu f2 g2 mt2 fm2 gm2 => ?_) (fun w => ?_)
    · have hc : nmP n B p < V 0 0 := by omega
      have e : ordF n B (m + 1) i V p = ordF n B m (i + 1) (pickV V i (nmP n B p)) (eZ n B p) := by
        show (if tkP n B p = 2 ∧ nmP n B p < V 0 0 then ordF n B m (i + 1) (pickV V i (nmP n B p)) (eZ n B p) else (i, V, p)) = _
        rw [if_pos ⟨t2, hc⟩]
      rw [e] at q
      have f217 : f2 1 17 = -1 := (fm_17 fm2).trans f17
      have lt : ¬ 0 ≤ up2 f2 53 (40 + i) (nI (nmP n B p)) 1 17 := by show ¬ 0 ≤ f2 1 17; rw [f217]; decide
      have rb2 : RB V f2 := by unfold RB; rw [fm2.2 53 (by decide)]; exact rb
      have rb3 : RB (pickV V i (nmP n B p)) (up2 f2 53 (40 + i) (nI (nmP n B p))) := rb_40 v hi20 rb2
      have pk3 : ∀ j, j < i + 1 → up2 f2 53 (40 + i) (nI (nmP n B p)) 53 (40 + j) = nI (pickV V i (nmP n B p) 4 j) := fun j hj => by
        show _ = nI (up2 V 4 i (nmP n B p) 4 j)
        by_cases y : j = i
        · subst y; rw [u_at, u_at]
        · rw [u_ne (by omega), u_ne y, fm2.2 53 (by decide)]
          exact pk j (by omega)
      have mf3 : MF (up2 f2 53 (40 + i) (nI (nmP n B p))) F g2 G := mf_53 (mf_fm mf fm2 gm2)
      have v3 := okP_s v hc
      refine vc_ok (st := [58]) 100 (br_t (nI_pos' (by omega)) (br_f (show ¬ 0 ≤ f2 1 17 by rw [f217]; decide) ⟨40 + i, nI_add 40 i, by omega, ?_⟩))
      show Go X m_X7_orderHere 58 [.ref 1, .int (nI i + 1), .int (nI (nmP n B p))] [] (up2 f2 53 (40 + i) (nI (nmP n B p)), g2) Q
      rw [nI_1]
      have k2 := mt_k (f := up2 f2 53 (40 + i) (nI (nmP n B p))) (mt_53 mt2) (k := 2) (by decide)
      by_cases y : toR n B (eZ n B p) = 2
      · exact vc_ok (st := [6]) 100 (br_f lt (br_t (k2.mpr y) (t_orderL hn hB m (i + 1) _ _ _ _ g2 (by omega) v3 z.2.2.1 tm (mt_53 mt2) f217 rb3 pk3 (Or.inr y) mf3 q)))
      · have e2 : ordE n B (ordF n B m (i + 1) (pickV V i (nmP n B p)) (eZ n B p)) = (true, rowV (pickV V i (nmP n B p)) (i + 1), eZ n B p) := by
          have e3 : ordF n B m (i + 1) (pickV V i (nmP n B p)) (eZ n B p) = (i + 1, pickV V i (nmP n B p), eZ n B p) := by
            cases m with
            | zero => rfl
            | succ m =>
              show (if tkP n B (eZ n B p) = 2 ∧ nmP n B (eZ n B p) < pickV V i (nmP n B p) 0 0 then _ else _) = _
              rw [if_neg (fun w => y (tp_2.mp w.1).1)]
          rw [e3]
          exact ordE_1 (r := (i + 1, pickV V i (nmP n B p), eZ n B p)) ⟨Nat.succ_pos i, y⟩
        rw [e2] at q
        refine vg (br_f lt (br_f (fun w => y (k2.mp w)) ⟨1, rfl, by decide, q _ _ (Or.inl ⟨rfl, rm_row (rb_1 v3 rb3) u_at (fun j hj => ?_), mt_53 (mt_53 mt2), f217⟩) (mf_53 mf3)⟩))
        rw [u_ne (by omega)]
        exact pk3 j hj
    · have e : ordF n B (m + 1) i V p = (i, V, p) := by
        show (if tkP n B p = 2 ∧ nmP n B p < V 0 0 then ordF n B m (i + 1) (pickV V i (nmP n B p)) (eZ n B p) else (i, V, p)) = _
        rw [if_neg (fun y => w ⟨y.1, Nat.zero_le _, by omega⟩)]
      have e2 : ordE n B (ordF n B (m + 1) i V p) = (false, V, p) := by
        rw [e]
        refine ordE_0 (r := (i, V, p)) (fun y => ?_)
        have y1 : 0 < i := y.1
        have y2 : toR n B p ≠ 2 := y.2
        omega
      rw [e2] at q
      have ge : 0 ≤ up2 f 1 17 (nI (sk n B p)) 1 17 := by rw [u_at]; exact nI_pos' (by omega)
      exact vg (br_t (by decide) (br_t ge (br_t ge ⟨1, rfl, by decide, q _ _ (Or.inr ⟨rfl, (show up2 f 1 17 (nI (sk n B p)) 1 17 = nI (sk n B p) from u_at)⟩) (mf_53 (mf_17 mf))⟩)))
theorem t_orderHere (hn : n ≤ 120) (hB : ∀ i, i < n → B i < 256) (v : okV V) {p : Nat} (hp : p ≤ n) (tm : TM n B h.1) (mt : MT n B p h.1 h.2) (h5 : toR n B p ≠ 5) (h17 : h.1 1 17 = -1) (rm : RM V h 53) (q : ∀ (f : Nat → Nat → Int32) (g : Nat → Nat → Int64), imM n B (ordI n B V p) f g → MF f h.1 g h.2 → Q none (f, g)) : Go X m_X7_orderHere 0 [.ref 1, .null, .null] [] h Q := by
  have z := eZ_b (n := n) (B := B) hp
  refine vg (t_nextS hn hB tm hp mt h5 (fun f g mf fm gm => vc_ok (st := [6]) 100 ?_))
  have rf : RM V (f, g) 53 := fm_rm fm rm
  exact t_orderL hn hB 20 0 V (eZ n B p) .null f g rfl (okP_0 v) z.2.2.1 tm mf ((fm_17 fm).trans h17) (rb_rm rf) (fun j hj => absurd hj (by omega)) (Or.inl rfl) (mf_fm mf_0 fm gm) q
theorem t_isWordM {p q : Nat} {w : Int64} (hq : q < 9) (hp : p ≤ n) (mt : MT n B p h.1 h.2) (ew : w = lN (wdV.getD q 0)) (a : toR n B p = 1 → eqP n B p q = true → Q (some (.int 1)) h) (b : ¬ (toR n B p = 1 ∧ eqP n B p q = true) → Q (some (.int 0)) h) : Go X m_X7_isWord 0 [.ref 1, .long w, .null] [] h Q := by
  have k1 := mt_k mt (k := 1) (by decide)
  by_cases t1 : toR n B p = 1
  case neg => exact vg (brn_t (fun w => t1 (k1.mp w)) ⟨Or.inl rfl, b (fun w => t1 w.1)⟩)
  have z := eZ_b (n := n) (B := B) hp
  have let1 : ∀ i, i < eZ n B p - sk n B p → tkN (B (sk n B p + i)) = 1 := fun i hi => by rw [← t1]; exact eZ_k hp (by omega) _ (by omega) (by omega)
  have vl : h.2 1 16 = lN (wuF B (sk n B p) (eZ n B p - sk n B p)) := by
    rw [mt.2.2.2]
    unfold vlM
    rw [if_pos t1]
  have wb := wv_b (B := B) (sk n B p) _ let1
  have k0 : lg_cmp (h.2 1 16) w = 0 ↔ eqP n B p q = true := by
    rw [cmp_0, vl, ew, pk_lEQ (by omega) (by have := (wd_ok q hq).2.2; omega), wv_wd hq let1]
  by_cases c : eqP n B p q = true
  · exact vg (brn_f (k1.mpr t1) (brn_f (k0.mpr c) ⟨Or.inr rfl, a t1 c⟩))
  · exact vg (brn_f (k1.mpr t1) (brn_t (fun w => c (k0.mp w)) ⟨Or.inl rfl, b (fun w => c w.2)⟩))
theorem t_kindHere {p : Nat} (hp : p ≤ n) (mt : MT n B p h.1 h.2) (a : toR n B p = 1 → kwN n B p < 6 → Q (some (.int (nI (kwN n B p)))) h) (b : ¬ (toR n B p = 1 ∧ kwN n B p < 6) → Q (some (.int (-1))) h) : Go X m_X7_kindHere 0 [.ref 1] [] h Q := by
  by_cases t1 : toR n B p = 1
  case neg =>
    exact vg (t_isWordM (q := 3) (by decide) hp mt rfl (fun z => absurd z t1) (fun _ => vg (br_t rfl (t_isWordM (q := 4) (by decide) hp mt rfl (fun z => absurd z t1) (fun _ => vg (br_t rfl (t_isWordM (q := 5) (by decide) hp mt rfl (fun z => absurd z t1) (fun _ => vg (br_t rfl (t_isWordM (q := 6) (by decide) hp mt rfl (fun z => absurd z t1) (fun _ => vg (br_t rfl (t_isWordM (q := 7) (by decide) hp mt rfl (fun z => absurd z t1) (fun _ => vg (br_t rfl (t_isWordM (q := 8) (by decide) hp mt rfl (fun z => absurd z t1) (fun _ => vg (br_t rfl (b (fun w => t1 w.1))))))))))))))))))))
  have b : ¬ kwN n B p < 6 → Q (some (.int (-1))) h := fun w => b (fun y => w y.2)
  have a : kwN n B p < 6 → Q (some (.int (nI (kwN n B p)))) h := a t1
  refine vg (t_isWordM (q := 3) (by decide) hp mt rfl (fun _ w => ?_) (fun w3 => ?_))
  · have e : kwN n B p = 0 := by
      show kwF B (sk n B p) (eZ n B p - sk n B p) 6 0 = 0
      rw [kw_1 w]
    rw [e] at a
    exact vg (br_f (by decide) (a (by decide)))
  have w3 : ¬ eqW B (sk n B p) (eZ n B p - sk n B p) (3 + 0) = true := fun z => w3 ⟨t1, z⟩
  refine vg (br_t rfl (t_isWordM (q := 4) (by decide) hp mt rfl (fun _ w => ?_) (fun w4 => ?_)))
  · have e : kwN n B p = 1 := by
      show kwF B (sk n B p) (eZ n B p - sk n B p) 6 0 = 1
      rw [kw_0 w3, kw_1 w]
    rw [e] at a
    exact vg (br_f (by decide) (a (by decide)))
  have w4 : ¬ eqW B (sk n B p) (eZ n B p - sk n B p) (3 + 1) = true := fun z => w4 ⟨t1, z⟩
  refine vg (br_t rfl (t_isWordM (q := 5) (by decide) hp mt rfl (fun _ w => ?_) (fun w5 => ?_)))
  · have e : kwN n B p = 2 := by
      show kwF B (sk n B p) (eZ n B p - sk n B p) 6 0 = 2
      rw [kw_0 w3, kw_0 w4, kw_1 w]
    rw [e] at a
    exact vg (br_f (by decide) (a (by decide)))
  have w5 : ¬ eqW B (sk n B p) (eZ n B p - sk n B p) (3 + 2) = true := fun z => w5 ⟨t1, z⟩
  refine vg (br_t rfl (t_isWordM (q := 6) (by decide) hp mt rfl (fun _ w => ?_) (fun w6 => ?_)))
  · have e : kwN n B p = 3 := by
      show kwF B (sk n B p) (eZ n B p - sk n B p) 6 0 = 3
      rw [kw_0 w3, kw_0 w4, kw_0 w5, kw_1 w]
    rw [e] at a
    exact vg (br_f (by decide) (a (by decide)))
  have w6 : ¬ eqW B (sk n B p) (eZ n B p - sk n B p) (3 + 3) = true := fun z => w6 ⟨t1, z⟩
  refine vg (br_t rfl (t_isWordM (q := 7) (by decide) hp mt rfl (fun _ w => ?_) (fun w7 => ?_)))
  · have e : kwN n B p = 4 := by
      show kwF B (sk n B p) (eZ n B p - sk n B p) 6 0 = 4
      rw [kw_0 w3, kw_0 w4, kw_0 w5, kw_0 w6, kw_1 w]
    rw [e] at a
    exact vg (br_f (by decide) (a (by decide)))
  have w7 : ¬ eqW B (sk n B p) (eZ n B p - sk n B p) (3 + 4) = true := fun z => w7 ⟨t1, z⟩
  refine vg (br_t rfl (t_isWordM (q := 8) (by decide) hp mt rfl (fun _ w => ?_) (fun w8 => ?_)))
  · have e : kwN n B p = 5 := by
      show kwF B (sk n B p) (eZ n B p - sk n B p) 6 0 = 5
      rw [kw_0 w3, kw_0 w4, kw_0 w5, kw_0 w6, kw_0 w7, kw_1 w]
    rw [e] at a
    exact vg (br_f (by decide) (a (by decide)))
  have w8 : ¬ eqW B (sk n B p) (eZ n B p - sk n B p) (3 + 5) = true := fun z => w8 ⟨t1, z⟩
  have e : kwN n B p = 6 := by
    show kwF B (sk n B p) (eZ n B p - sk n B p) 6 0 = 6
    rw [kw_0 w3, kw_0 w4, kw_0 w5, kw_0 w6, kw_0 w7, kw_0 w8]
    rfl
  exact vg (br_t rfl (b (by rw [e]; decide)))
theorem t_item (hn : n ≤ 120) (hB : ∀ i, i < n → B i < 256) (v : okV V) {p : Nat} (hp : p ≤ n) (tm : TM n B h.1) (mt : MT n B p h.1 h.2) (h17 : h.1 1 17 = -1) (rm : RM V h 53) (q : ∀ (f : Nat → Nat → Int32) (g : Nat → Nat → Int64), imM n B (itm n B V p) f g → MF f h.1 g h.2 → Q none (f, g)) : Go X m_X7_item 0 [.ref 1, .null] [] h Q := by
  unfold itm at q
  by_cases t1 : toR n B p = 1
  case neg =>
    rw [if_neg t1] at q
    exact vg (t_kindHere hp mt (fun z => absurd z t1) (fun _ => vg (t_isWordM (q := 0) (by decide) hp mt rfl (fun z => absurd z t1) (fun _ => vg (br_t rfl (t_isWordM (q := 1) (by decide) hp mt rfl (fun z => absurd z t1) (fun _ => vg (br_t rfl (t_isWordM (q := 2) (by decide) hp mt rfl (fun z => absurd z t1) (fun _ => vg (br_t rfl (br_t (by decide) (t_wrongHere h17 mt.1 (vg (q _ _ (Or.inr ⟨rfl, u_at⟩) (mf_17 mf_0))))))))))))))))
  rw [if_pos t1] at q
  have h5 : toR n B p ≠ 5 := by omega
  -- whatever the kind
  have go : ∀ x : Int32, (kwN n B p < 6 ∧ x = nI (kwN n B p)) ∨ (¬ kwN n B p < 6 ∧ x = -1) → Go X m_X7_item 5 [.ref 1, .int x] [] h Q := by
    intro x hx
    refine vg (t_isWordM (q := 0) (by decide) hp mt rfl (fun _ w => ?_) (fun w0 => ?_))
    · rw [if_pos w] at q
      exact vg (br_f (by decide) (t_cardHere hn hB v hp tm mt h5 h17 rm (fun f g im mf => vg (q f g im mf))))
    rw [if_neg (fun z => w0 ⟨t1, z⟩)] at q
    refine vg (br_t rfl (t_isWordM (q := 1) (by decide) hp mt rfl (fun _ w => ?_) (fun w1 => ?_)))
    · rw [if_pos w] at q
      exact vg (br_f (by decide) (t_tieHere hn hB v hp tm mt h5 h17 rm (fun f g im mf => vg (q f g im mf))))
    rw [if_neg (fun z => w1 ⟨t1, z⟩)] at q
    refine vg (br_t rfl (t_isWordM (q := 2) (by decide) hp mt rfl (fun _ w => ?_) (fun w2 => ?_)))
    · rw [if_pos w] at q
      exact vg (br_f (by decide) (t_orderHere hn hB v hp tm mt h5 h17 rm (fun f g im mf => vg (q f g im mf))))
    rw [if_neg (fun z => w2 ⟨t1, z⟩)] at q
    rcases hx with ⟨k6, rfl⟩ | ⟨k6, rfl⟩
    · rw [if_pos k6] at q
      exact vg (br_t rfl (br_f (nI_pos (by omega)) (t_lawHere hn hB v hp tm mt h5 h17 rm (fun f g im mf => vg (q f g im mf)))))
    · rw [if_neg k6] at q
      exact vg (br_t rfl (br_t (by decide) (t_wrongHere h17 mt.1 (vg (q _ _ (Or.inr ⟨rfl, u_at⟩) (mf_17 mf_0))))))
  exact vg (t_kindHere hp mt (fun _ w => vc_ok (st := [5]) 40 (go _ (Or.inl ⟨w, rfl⟩))) (fun w => vc_ok (st := [5]) 40 (go _ (Or.inr ⟨fun y => w ⟨t1, y⟩, rfl⟩))))
end ITR
