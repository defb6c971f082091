/-! whose, nearest, crossings -/
section NEAR
variable {X : Xs} {h : Hp} {x y z w : Int32} {Q : Qt} {V : Vw} {s b n : Nat}
abbrev upc (V : Vw) (c : Nat) : Nat := up V (V 1 c)
theorem upc_lt (V : Vw) (c : Nat) : upc V c < 65536 := up_lt V _ 16 (by decide)
def wvF (V : Vw) (u : Nat) : Nat → Nat → Nat
  | 0, c => c
  | n + 1, c => if upc V c = u then c else wvF V u n (c + 1)
/-- the first card that weaves u, or the number of cards -/
abbrev wv (V : Vw) (u : Nat) : Nat := wvF V u (V 0 0) 0
def wvI (V : Vw) (r : Nat) : Int32 := if r < V 0 0 then nI r else -1
theorem t_weaverOf (v : okV V) (c0 : h.1 5 0 = nI (V 0 0)) (cu : ∀ c, c < V 0 0 → h.1 37 c = nI (upc V c)) {u : Nat} (hu : u < 65536) (q : Q (some (.int (wvI V (wv V u)))) h) : Go X m_X0_weaverOf 0 [.ref 5, .int (nI u), .null] [] h Q := by
  have h1 := v.1
  refine vc_ok (st := [2]) 40 ?_
  suffices hh : ∀ n c, c + n = V 0 0 → Q (some (.int (wvI V (wvF V u n c)))) h → Go X m_X0_weaverOf 2 [.ref 5, .int (nI u), .int (nI c)] [] h Q from hh (V 0 0) 0 (by omega) q
  intro n
  induction n with
  | zero =>
    intro c hc q
    have e : c = V 0 0 := by omega
    subst e
    unfold wvF wvI at q
    rw [if_neg (by omega)] at q
    exact vg (br_t (le_of c0) q)
  | succ n ih =>
    intro c hc q
    have l1 := upc_lt V c
    unfold wvF at q
    by_cases e : upc V c = u
    · rw [if_pos e] at q
      unfold wvI at q
      rw [if_pos (by omega)] at q
      exact vg (br_f (nle_of c0 (by omega) (by omega)) ⟨c, rfl, by omega, brn_f (by show h.1 37 c = _; rw [cu c (by omega), e]) q⟩)
    · rw [if_neg e] at q
      have := ih (c + 1) (by omega) q
      rw [← nI_1] at this
      exact vc_ok (st := [2]) 40 (br_f (nle_of c0 (by omega) (by omega)) ⟨c, rfl, by omega, brn_t (by show ¬ h.1 37 c = _; rw [cu c (by omega), nI_eq (by omega) (by omega)]; exact e) this⟩)
theorem t_weaver (v : okV V) (rm : RM V h 53) {u : Nat} (hu : u < 65536) (q : Q (some (.int (wvI V (wv V u)))) h) : Go X m_X7_weaver 0 [.ref 1, .int (nI u), .null] [] h Q := by
  have h1 := v.1
  refine vc_ok (st := [2]) 40 ?_
  suffices hh : ∀ n c, c + n = V 0 0 → Q (some (.int (wvI V (wvF V u n c)))) h → Go X m_X7_weaver 2 [.ref 1, .int (nI u), .int (nI c)] [] h Q from hh (V 0 0) 0 (by omega) q
  intro n
  induction n with
  | zero =>
    intro c hc q
    have e : c = V 0 0 := by omega
    subst e
    unfold wvF wvI at q
    rw [if_neg (by omega)] at q
    exact vg ⟨0, rfl, by decide, br_t (le_of rm.1.1) q⟩
  | succ n ih =>
    intro c hc q
    have l1 := upc_lt V c
    have l2 := v.2.1 c (by omega)
    unfold wvF at q
    refine vg ⟨0, rfl, by decide, br_f (nle_of rm.1.1 (by omega) (by omega)) ⟨4 + c, nI_add 4 c, by omega, ?_⟩⟩
    show Go X m_X7_upBy 0 [.ref 1, .int (h.1 53 (4 + c)), .null, .null] [] h _
    rw [(rm.2.1 c (by omega)).1]
    refine t_upBy v rm l2.1 ?_
    by_cases e : upc V c = u
    · rw [if_pos e] at q
      unfold wvI at q
      rw [if_pos (by omega)] at q
      exact vg (brn_f (show nI (upc V c) = nI u by rw [e]) q)
    · rw [if_neg e] at q
      have := ih (c + 1) (by omega) q
      rw [← nI_1] at this
      exact vc_ok (st := [2]) 40 (brn_t (show ¬ nI (upc V c) = nI u by rw [nI_eq (by omega) (by omega)]; exact e) this)
def far (V : Vw) (u c : Nat) : Nat := pop (upc V c ^^^ u)
theorem far_le (V : Vw) (u c : Nat) : far V u c ≤ 16 := popF_le _ 16
def nrF (V : Vw) (u : Nat) : Nat → Nat
  | 0 => 0
  | k + 1 => if far V u (k + 1) < far V u (nrF V u k) then k + 1 else nrF V u k
theorem nrF_le (V : Vw) (u : Nat) : ∀ k, nrF V u k ≤ k
  | 0 => Nat.le_refl _
  | k + 1 => by
    have := nrF_le V u k
    unfold nrF
    split <;> omega
theorem uxor {u c : Nat} (hu : u < 65536) : upc V c ^^^ u < 65536 := xor_lt (n := 16) (upc_lt V c) hu
theorem t_nearestTo (v : okV V) (c0 : h.1 5 0 = nI (V 0 0)) (cu : ∀ c, c < V 0 0 → h.1 37 c = nI (upc V c)) (p : 0 < V 0 0) {u : Nat} (hu : u < 65536) (q : Q (some (.int (nI (nrF V u (V 0 0 - 1))))) h) : Go X m_X0_nearestTo 0 [.ref 5, .int (nI u), .null, .null] [] h Q := by
  have h1 := v.1
  refine vc_ok (st := [4]) 40 ?_
  refine down (fun k => Go X m_X0_nearestTo 4 [.ref 5, .int (nI u), .int (nI (nrF V u k)), .int (nI (k + 1))] [] h Q) (V 0 0 - 1) ?_ ?_ 0 (by omega)
  · show Go X m_X0_nearestTo 4 [.ref 5, .int (nI u), .int (nI (nrF V u (V 0 0 - 1))), .int (nI (V 0 0 - 1 + 1))] [] h Q
    rw [show V 0 0 - 1 + 1 = V 0 0 by omega]
    exact vg (br_t (le_of c0) q)
  · intro k hk ih
    have hb := nrF_le V u k
    refine vg (br_f (nle_of c0 (by omega) (by omega)) ⟨k + 1, rfl, by omega, ?_⟩)
    show Go X m_J6_bitCount_0f7a4 0 [.int (h.1 37 (k + 1) ^^^ nI u)] [] h _
    rw [cu (k + 1) (by omega), nI_xor]
    refine t_bitCount (uxor hu) (vg ⟨nrF V u k, rfl, by omega, ?_⟩)
    show Go X m_J6_bitCount_0f7a4 0 [.int (h.1 37 (nrF V u k) ^^^ nI u)] [] h _
    rw [cu _ (by omega), nI_xor]
    refine t_bitCount (uxor hu) ?_
    have f1 := far_le V u (k + 1)
    have f2 := far_le V u (nrF V u k)
    unfold nrF at ih
    rw [← nI_1 (k + 1)] at ih
    by_cases e : far V u (k + 1) < far V u (nrF V u k)
    · rw [if_pos e] at ih
      exact vc_ok (st := [4]) 40 (br_f (show ¬ nI (far V u (nrF V u k)) ≤ nI (far V u (k + 1)) from nI_ge e (by omega)) ih)
    · rw [if_neg e] at ih
      exact vc_ok (st := [4]) 40 (br_t (show nI (far V u (nrF V u k)) ≤ nI (far V u (k + 1)) from nI_le (Nat.le_of_not_lt e) (by omega)) ih)
theorem t_farOf (v : okV V) (rm : RM V h 53) {c u : Nat} (hc : c < V 0 0) (hu : u < 65536) (q : Q (some (.int (nI (far V u c)))) h) : Go X m_X7_farOf 0 [.ref 1, .int (nI c), .int (nI u)] [] h Q := by
  have h1 := v.1
  refine vg ⟨4 + c, nI_add 4 c, by omega, ?_⟩
  show Go X m_X7_upBy 0 [.ref 1, .int (h.1 53 (4 + c)), .null, .null] [] h _
  rw [(rm.2.1 c hc).1]
  refine t_upBy v rm (v.2.1 c hc).1 (vg ?_)
  show Go X m_X7_ones 0 [.int (nI (upc V c) ^^^ nI u), .null, .null] [] h _
  rw [nI_xor]
  exact t_onesN (Nat.lt_trans (uxor hu) (by decide)) (vg q)
theorem t_nearestM (v : okV V) (rm : RM V h 53) (p : 0 < V 0 0) {u : Nat} (hu : u < 65536) (q : Q (some (.int (nI (nrF V u (V 0 0 - 1))))) h) : Go X m_X7_nearestTo 0 [.ref 1, .int (nI u), .null, .null] [] h Q := by
  have h1 := v.1
  refine vc_ok (st := [4]) 40 ?_
  refine down (fun k => Go X m_X7_nearestTo 4 [.ref 1, .int (nI u), .int (nI (nrF V u k)), .int (nI (k + 1))] [] h Q) (V 0 0 - 1) ?_ ?_ 0 (by omega)
  · show Go X m_X7_nearestTo 4 [.ref 1, .int (nI u), .int (nI (nrF V u (V 0 0 - 1))), .int (nI (V 0 0 - 1 + 1))] [] h Q
    rw [show V 0 0 - 1 + 1 = V 0 0 by omega]
    exact vg ⟨0, rfl, by decide, br_t (le_of rm.1.1) q⟩
  · intro k hk ih
    have hb := nrF_le V u k
    refine vg ⟨0, rfl, by decide, br_f (nle_of rm.1.1 (by omega) (by omega)) (t_farOf v rm (by omega) hu (vg (t_farOf v rm (by omega) hu ?_)))⟩
    have f1 := far_le V u (k + 1)
    have f2 := far_le V u (nrF V u k)
    unfold nrF at ih
    rw [← nI_1 (k + 1)] at ih
    by_cases e : far V u (k + 1) < far V u (nrF V u k)
    · rw [if_pos e] at ih
      exact vc_ok (st := [4]) 40 (br_f (show ¬ nI (far V u (nrF V u k)) ≤ nI (far V u (k + 1)) from nI_ge e (by omega)) ih)
    · rw [if_neg e] at ih
      exact vc_ok (st := [4]) 40 (br_t (show nI (far V u (nrF V u k)) ≤ nI (far V u (k + 1)) from nI_le (Nat.le_of_not_lt e) (by omega)) ih)
theorem cl_up {f : Nat → Nat → Int32} (cl : Cl V f) : ∀ c, c < V 0 0 → f 37 c = nI (upc V c) := fun c hc => (cl.2.2.2.1 c hc).2.1
/-- a sheet's cells are not scratch -/
theorem sh_scr {f : Nat → Nat → Int32} {c : Nat} (hc : (9 ≤ c ∧ c ≤ 12) ∨ c = 62 ∨ c = 63) (e : ∀ c, ¬ scr c → f c = h.1 c) : f c = h.1 c := e c (by unfold scr; omega)
theorem inv_fr (I : Inv h) {f : Nat → Nat → Int32} {k : Nat} (hk : k < 7) (e : ∀ c, ¬ scr c → f c = h.1 c) : Inv (up2 (up2 f 14 k (f 14 k + 1)) 56 k (up2 f 14 k (f 14 k + 1) 56 k + 1), h.2) := inv_ref (h := (f, h.2)) (inv_scr I e) hk
theorem op_whose (I : Inv h) : Both X m_X6_whose m_X7_whose [.ref 0, .int x, .int y, .null, .null] [.ref 1, .int x, .int y, .null, .null] h := by
  obtain ⟨V, v, rn, rm, ik, ir, it, is⟩ := id I
  unfold Both
  have h1 := v.1
  by_cases p1 : 0 ≤ x.toInt ∧ x.toInt < 4
  case neg =>
    refine vg (t_nf_bad p1 (vg (br_f (by decide) (t_refuse 0 (by decide) (by decide) ?_))))
    refine vg (vg (t_wnn_bad p1 (vg (br_f (by decide) (t_findsN 0 (by decide) rfl ?_)))))
    exact vg ⟨rfl, inv_ref I (by decide)⟩
  obtain ⟨s, hs, rfl⟩ := nI_ex (n := 4) p1.1 (by omega) (by decide)
  obtain ⟨b, n, q1, q2, q3, q4, q5, q6, q7, q8⟩ := is s hs
  by_cases p2 : b = 0
  · subst p2
    refine vg (t_nf_mis hs q4 (vg (br_f (by decide) (t_refuse 5 (by decide) (by decide) ?_))))
    refine vg (vg (t_wnn_mis hs q5 (vg (br_f (by decide) (t_findsN 5 (by decide) rfl ?_)))))
    exact vg ⟨rfl, inv_ref I (by decide)⟩
  obtain ⟨hb, hb2⟩ := b_cases q1 p2
  by_cases p3 : 0 ≤ y.toInt ∧ y.toInt < n
  case neg =>
    refine vg (t_nf_out hs q4 p2 hb2 q6 q2 p3 (vg (br_f (by decide) (t_refuse 0 (by decide) (by decide) ?_))))
    refine vg (vg (t_wnn_in hs q5 p2 hb2 q7 q2 (fun z => absurd z p3) (fun _ => vg (br_f (by decide) (t_findsN 0 (by decide) rfl ?_)))))
    exact vg ⟨rfl, inv_ref I (by decide)⟩
  obtain ⟨i, hi, rfl⟩ := nI_ex (n := n) p3.1 (by omega) (by omega)
  refine vg (t_nf_ok hs q4 p2 hb2 q6 q2 hi (vg (br_t rfl (t_weave v rn (fun f cl f1 => ?_)))))
  have s1 := sc_cl f1
  have rm1 : RM V (f, h.2) 53 := rm_scr rm s1
  have e62 : f 62 = h.1 62 := sh_scr (by omega) s1
  have e63 : f 63 = h.1 63 := sh_scr (by omega) s1
  have eu : h.2 64 (40 * s + i) = h.2 (49 + s) i := (q8 i hi).symm
  generalize hu : toN (h.2 (49 + s) i) = u at *
  have lu : u < 65536 := by rw [← hu]; exact toN_lt _
  have mod : ∀ {k : Nat → Nat → Int32} {Q : Qt}, RM V (k, h.2) 53 → k 62 = h.1 62 → k 63 = h.1 63 → Go X m_X7_whose 27 [.ref 1, .int (nI s), .int (nI i), .int (-1), .null] [.int (wvI V (wv V u))] (k, h.2) Q → Go X m_X7_whose 0 [.ref 1, .int (nI s), .int (nI i), .null, .null] [] (k, h.2) Q := fun r a1 a2 g => vg (t_wnn_in (b := b) (n := n) hs (by show _ = _; rw [← q5]; exact congrFun a1 s) p2 hb2 (by show _ = _; rw [← q7]; exact congrFun a2 s) q2 (fun _ => vg (br_t (by decide) (t_toldM hs (by omega) (vg (by
    show Go X m_X7_weaver 0 [.ref 1, .int (nI (toN (h.2 64 (40 * s + i)))), .null] [] _ _
    rw [eu, hu]
    exact t_weaver v r lu g))))) (fun z => absurd p3 z))
  have kk : Go X m_X3_threadsIn 0 [.ref (9 + s), .int (nI i)] [] (f, h.2) (fun r h' => Go X m_X6_whose 42 [.ref 0, .int (nI s), .int (nI i), .int 0, .null] (pushO r [.ref 5]) h' (BQ X m_X7_whose [.ref 1, .int (nI s), .int (nI i), .null, .null])) := by
    refine t_threadsIn hs (by omega) ?_
    show Go X m_X6_whose 42 [.ref 0, .int (nI s), .int (nI i), .int 0, .null] [.int (nI (toN (h.2 (49 + s) i))), .ref 5] (f, h.2) _
    rw [hu]
    refine vg (t_weaverOf v cl.1 (cl_up cl) lu ?_)
    unfold wvI at mod ⊢
    by_cases e : wv V u < V 0 0
    · rw [if_pos e] at mod ⊢
      exact vg (br_t (nI_pos' (by omega)) (mod rm1 e62 e63 (vg (br_t (nI_pos' (by omega)) ⟨rfl, inv_scr I s1⟩))))
    · rw [if_neg e] at mod ⊢
      exact vg (br_f (by decide) (t_refuse 3 (by decide) (by decide) (vg (mod (k := up2 f 14 3 (f 14 3 + 1)) rm1 e62 e63 (vg (br_f (by decide) (t_findsN 3 (by decide) rfl (vg ⟨rfl, inv_fr I (by decide) s1⟩))))))))
  clear mod
  clear q4 q6 q8 eu hu
  rcases s4 hs with rfl | rfl | rfl | rfl <;> exact vg ⟨_, rfl, by decide, kk⟩
theorem op_nearest (I : Inv h) : Both X m_X6_nearest m_X7_nearest [.ref 0, .int x, .int y, .null] [.ref 1, .int x, .int y, .null] h := by
  obtain ⟨V, v, rn, rm, ik, ir, it, is⟩ := id I
  unfold Both
  have h1 := v.1
  by_cases p1 : 0 ≤ x.toInt ∧ x.toInt < 4
  case neg =>
    refine vg (t_nf_bad p1 (vg (br_f (by decide) (t_refuse 0 (by decide) (by decide) ?_))))
    refine vg (vg (t_wnn_bad p1 (vg (br_t (by decide) (br_f (by decide) (t_findsN 0 (by decide) rfl ?_))))))
    exact vg ⟨rfl, inv_ref I (by decide)⟩
  obtain ⟨s, hs, rfl⟩ := nI_ex (n := 4) p1.1 (by omega) (by decide)
  obtain ⟨b, n, q1, q2, q3, q4, q5, q6, q7, q8⟩ := is s hs
  by_cases p2 : b = 0
  · subst p2
    refine vg (t_nf_mis hs q4 (vg (br_f (by decide) (t_refuse 5 (by decide) (by decide) ?_))))
    refine vg (vg (t_wnn_mis hs q5 (vg (br_t (by decide) (br_f (by decide) (t_findsN 5 (by decide) rfl ?_))))))
    exact vg ⟨rfl, inv_ref I (by decide)⟩
  obtain ⟨hb, hb2⟩ := b_cases q1 p2
  by_cases p3 : 0 ≤ y.toInt ∧ y.toInt < n
  case neg =>
    refine vg (t_nf_out hs q4 p2 hb2 q6 q2 p3 (vg (br_f (by decide) (t_refuse 0 (by decide) (by decide) ?_))))
    refine vg (vg (t_wnn_in hs q5 p2 hb2 q7 q2 (fun z => absurd z p3) (fun _ => vg (br_t (by decide) (br_f (by decide) (t_findsN 0 (by decide) rfl ?_))))))
    exact vg ⟨rfl, inv_ref I (by decide)⟩
  obtain ⟨i, hi, rfl⟩ := nI_ex (n := n) p3.1 (by omega) (by omega)
  by_cases p4 : V 0 0 = 0
  · have z1 : h.1 2 0 = 0 := by rw [rn.1.1, p4]; rfl
    have z2 : h.1 53 0 = 0 := by rw [rm.1.1, p4]; rfl
    refine vg (t_nf_ok hs q4 p2 hb2 q6 q2 hi (vg (br_t rfl (brn_f z1 (t_refuse 3 (by decide) (by decide) ?_)))))
    refine vg (vg (t_wnn_in hs q5 p2 hb2 q7 q2 (fun _ => vg (br_f (by decide) ⟨0, rfl, by decide, brn_f z2 (br_f (by decide) (t_findsN 3 (by decide) rfl ?_))⟩)) (fun z => absurd p3 z)))
    exact vg ⟨rfl, inv_ref I (by decide)⟩
  have z1 : ¬ h.1 2 0 = 0 := by rw [rn.1.1]; exact nI_ne0 (by omega) (by omega)
  refine vg (t_nf_ok hs q4 p2 hb2 q6 q2 hi (vg (br_t rfl (brn_t z1 (t_weave v rn (fun f cl f1 => ?_))))))
  have s1 := sc_cl f1
  have rm1 : RM V (f, h.2) 53 := rm_scr rm s1
  have eu : h.2 64 (40 * s + i) = h.2 (49 + s) i := (q8 i hi).symm
  have kk : Go X m_X3_threadsIn 0 [.ref (9 + s), .int (nI i)] [] (f, h.2) (fun r h' => Go X m_X6_nearest 59 [.ref 0, .int (nI s), .int (nI i), .int 0] (pushO r [.ref 5]) h' (BQ X m_X7_nearest [.ref 1, .int (nI s), .int (nI i), .null])) := by
    refine t_threadsIn hs (by omega) (vg (t_nearestTo v cl.1 (cl_up cl) (by omega) (toN_lt _) ?_))
    refine vg (vg (t_wnn_in (b := b) (n := n) hs (by show f 62 s = _; rw [sh_scr (c := 62) (by omega) s1]; exact q5) p2 hb2 (by show f 63 s = _; rw [sh_scr (c := 63) (by omega) s1]; exact q7) q2 (fun _ => vg (br_f (by decide) ⟨0, rfl, by decide, brn_t ?_ (br_t (by decide) (t_toldM hs (by omega) (vg ?_)))⟩)) (fun z => absurd p3 z)))
    · show ¬ f 53 0 = 0
      rw [show f 53 0 = nI (V 0 0) from rm1.1.1]; exact nI_ne0 (by omega) (by omega)
    · show Go X m_X7_nearestTo 0 [.ref 1, .int (nI (toN (h.2 64 (40 * s + i)))), .null, .null] [] (f, h.2) _
      rw [eu]
      exact t_nearestM v rm1 (by omega) (toN_lt _) (vg ⟨rfl, inv_scr I s1⟩)
  clear q4 q6 q8 eu
  rcases s4 hs with rfl | rfl | rfl | rfl <;> exact vg ⟨_, rfl, by decide, kk⟩
end NEAR
