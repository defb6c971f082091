/-! thread, tells, feed -/
section OPS11
variable {X : Xs} {h : Hp} {x y z : Int32} {Q : Qt} {V : Vw}
theorem bt_xor (a b t : Nat) : bt (a ^^^ b) t = if bt a t = bt b t then 0 else 1 := by
  have h1 := bt_tb (a ^^^ b) t
  rw [Nat.testBit_xor, bt_tb, bt_tb] at h1
  have := bt_le (a ^^^ b) t
  have := bt_le a t
  have := bt_le b t
  rcases (show bt a t = 0 ∨ bt a t = 1 by omega) with e1 | e1 <;> rcases (show bt b t = 0 ∨ bt b t = 1 by omega) with e2 | e2 <;> rcases (show bt (a ^^^ b) t = 0 ∨ bt (a ^^^ b) t = 1 by omega) with e3 | e3 <;> rw [e1, e2, e3] at h1 <;> rw [e1, e2, e3] <;> first | rfl | exact absurd h1 (by decide)
def chN (V : Vw) (t : Nat) : Nat → Nat
  | 0 => 0
  | i + 1 => bt (rw' V (i + 1) ^^^ rw' V i) t
def upN (V : Vw) (t : Nat) (i : Nat) : Nat := bt (rw' V i) t
theorem t_rowsWithUp (v : okV V) (cl : Cl V h.1) {t : Nat} (ht : t < 16) (q : Q (some (.int (nI (sumN (upN V t) (V 0 1))))) h) : Go X m_X0_rowsWithUp 0 [.ref 5, .int (nI t), .null, .null] [] h Q := by
  have h1 := v.1
  refine vc_ok (st := [4]) 40 ?_
  refine down (fun k => Go X m_X0_rowsWithUp 4 [.ref 5, .int (nI t), .int (nI (sumN (upN V t) k)), .int (nI k)] [] h Q) (V 0 1) ?_ ?_ 0 (by omega)
  · exact vg (br_t (le_of cl.2.1) q)
  · intro k hk ih
    have ih : Go X m_X0_rowsWithUp 4 [.ref 5, .int (nI t), .int (nI (sumN (upN V t) k + bt (rw' V k) t)), .int (nI (k + 1))] [] h Q := ih
    have l1 := rw_lt V k
    rw [← nI_1, ← nI_add, ← bitN (by omega) (by omega)] at ih
    exact vc_ok (st := [4]) 40 (br_f (nle_of cl.2.1 hk (by omega)) (t_upIn v cl hk (vc_ok (st := [4]) 40 ih)))
theorem t_changesOf (v : okV V) (cl : Cl V h.1) {t : Nat} (ht : t < 16) (q : Q (some (.int (nI (sumN (chN V t) (V 0 1))))) h) : Go X m_X0_changesOf 0 [.ref 5, .int (nI t), .null, .null] [] h Q := by
  have h1 := v.1
  refine vc_ok (st := [4]) 40 ?_
  by_cases p0 : V 0 1 = 0
  · rw [p0] at q
    exact vg (br_t (by show h.1 5 6 ≤ 1; rw [cl.2.1, p0]; decide) q)
  refine down (fun k => 1 ≤ k → Go X m_X0_changesOf 4 [.ref 5, .int (nI t), .int (nI (sumN (chN V t) k)), .int (nI k)] [] h Q) (V 0 1) ?_ ?_ 1 (by omega) (Nat.le_refl _)
  · exact fun _ => vg (br_t (le_of cl.2.1) q)
  · intro k hk ih k1
    obtain ⟨j, rfl⟩ : ∃ j, k = j + 1 := ⟨k - 1, by omega⟩
    have ih : Go X m_X0_changesOf 4 [.ref 5, .int (nI t), .int (nI (sumN (chN V t) (j + 1) + bt (rw' V (j + 1) ^^^ rw' V j) t)), .int (nI (j + 1 + 1))] [] h Q := ih (by omega)
    have l1 := rw_lt V j
    have l2 := rw_lt V (j + 1)
    have l3 : rw' V (j + 1) ^^^ rw' V j < 2 ^ 16 := xor_lt l2 l1
    rw [← nI_1, ← nI_add, ← bitN (by omega) (by omega), ← nI_xor] at ih
    refine vg (br_f (nle_of cl.2.1 hk (by omega)) (t_upIn v cl hk (vg ?_)))
    show Go X m_X0_upIn 0 [.ref 5, .int (nI (j + 1) - 1)] [] h _
    rw [nI_pred]
    exact t_upIn v cl (by omega) (vc_ok (st := [4]) 40 ih)
theorem op_thread (I : Inv h) : Both X m_X6_thread m_X7_thread [.ref 0, .int x, .int y] [.ref 1, .int x, .int y, .null, .null, .null] h := by
  obtain ⟨V, v, rn, rm, ik, ir, it, is⟩ := id I
  unfold Both
  have h1 := v.1
  have e1 : (1 : Int32).toInt = 1 := rfl
  by_cases p1 : 0 ≤ x.toInt ∧ x.toInt < 16
  case neg =>
    refine vg (t_isThread (fun z => absurd z p1) (fun _ => vg (br_t rfl (t_refuse 0 (by decide) (by decide) ?_))))
    refine vg (vg (t_inI 0 15 rfl rfl (fun z => absurd (by omega) p1) (fun _ => vg (br_t rfl (t_findsN 0 (by decide) rfl ?_)))))
    exact vg ⟨rfl, inv_ref I (by decide)⟩
  by_cases p2 : 0 ≤ y.toInt ∧ y.toInt ≤ 1
  case neg =>
    have c0 : ¬ y = 0 := fun z => p2 (by subst z; decide)
    have c1 : ¬ y = 1 := fun z => p2 (by subst z; decide)
    refine vg (t_isThread (fun _ => vg (br_f (by decide) (br_f c0 (br_f c1 (t_refuse 0 (by decide) (by decide) ?_))))) (fun z => absurd p1 z))
    refine vg (vg (t_inI 0 15 rfl rfl (fun _ => vg (br_f (by decide) (t_inI 0 1 rfl rfl (fun z => absurd z p2) (fun _ => vg (brn_f rfl (t_findsN 0 (by decide) rfl ?_)))))) (fun z => absurd (by omega) z)))
    exact vg ⟨rfl, inv_ref I (by decide)⟩
  obtain ⟨t, ht, rfl⟩ := nI_ex (n := 16) p1.1 (by omega) (by decide)
  have mod : ∀ {f : Nat → Nat → Int32} {Q : Qt}, RM V (f, h.2) 53 → (∀ g : Nat → Nat → Int32, (∀ c, c ≠ 58 → g c = f c) → ∀ a : Value, Go X m_X7_thread 113 [.ref 1, .int (nI t), .int y, .int (nI (sumN (upN V t) (V 0 1))), .int (nI (sumN (chN V t) (V 0 1))), a] [] (g, h.2) Q) → Go X m_X7_thread 0 [.ref 1, .int (nI t), .int y, .null, .null, .null] [] (f, h.2) Q := by
    intro f Q rm1 q
    refine vg (t_inI 0 15 rfl rfl (fun _ => vg (br_f (by decide) (t_inI 0 1 rfl rfl (fun _ => vg (brn_t (by decide) (t_weaves v rm1 (fun g mc g1 => vc_ok (st := [40]) 40 ?_)))) (fun z => absurd p2 z)))) (fun z => absurd (by omega) z))
    have rm2 : RM V (g, h.2) 53 := rm_cg rm1 (g1 53 (by decide))
    refine down (fun k => Go X m_X7_thread 40 [.ref 1, .int (nI t), .int y, .int (nI (sumN (upN V t) k)), .int (nI (sumN (chN V t) k)), .int (nI k)] [] (g, h.2) Q) (V 0 1) ?_ ?_ 0 (by omega)
    · exact vc_ok (st := [113]) 40 ⟨1, rfl, by decide, br_t (le_of rm2.1.2.1) (q g g1 _)⟩
    · intro k hk ih
      have l1 := rw_lt V k
      have ec : g 58 k = nI (rw' V k) := mc k hk
      have bk : g 58 k >>> (nI t &&& 31) &&& 1 = nI (bt (rw' V k) t) := by rw [ec]; exact bitN (by omega) (by omega)
      cases k with
      | zero =>
        have ih : Go X m_X7_thread 40 [.ref 1, .int (nI t), .int y, .int (nI (0 + bt (rw' V 0) t)), .int (nI 0 + 0), .int (nI (0 + 1))] [] (g, h.2) Q := ih
        rw [← nI_add, ← bk, ← nI_1] at ih
        exact vc_ok (st := [40]) 40 ⟨1, rfl, by decide, br_f (nle_of rm2.1.2.1 hk (by omega)) ⟨0, rfl, by decide, br_t (Int32.le_refl _) ih⟩⟩
      | succ j =>
        have ih : Go X m_X7_thread 40 [.ref 1, .int (nI t), .int y, .int (nI (sumN (upN V t) (j + 1) + bt (rw' V (j + 1)) t)), .int (nI (sumN (chN V t) (j + 1) + bt (rw' V (j + 1) ^^^ rw' V j) t)), .int (nI (j + 1 + 1))] [] (g, h.2) Q := ih
        have l2 := rw_lt V j
        have bj : g 58 j >>> (nI t &&& 31) &&& 1 = nI (bt (rw' V j) t) := by rw [show g 58 j = nI (rw' V j) from mc j (by omega)]; exact bitN (by omega) (by omega)
        rw [← nI_add, ← bk, ← nI_1, ← nI_add, bt_xor] at ih
        have hb1 := bt_le (rw' V (j + 1)) t
        have hb2 := bt_le (rw' V j) t
        by_cases e : bt (rw' V (j + 1)) t = bt (rw' V j) t
        · rw [if_pos e] at ih
          refine vc_ok (st := [40]) 100 ⟨1, rfl, by decide, br_f (nle_of rm2.1.2.1 hk (by omega)) ⟨j + 1, rfl, by omega, br_f (nI_nle (by omega) (by omega)) ⟨j + 1, rfl, by omega, j, nI_pred j, by omega, br_t ?_ ih⟩⟩⟩
          show g 58 (j + 1) >>> (nI t &&& 31) &&& 1 = g 58 j >>> (nI t &&& 31) &&& 1
          rw [bk, bj, e]
        · rw [if_neg e] at ih
          refine vc_ok (st := [40]) 100 ⟨1, rfl, by decide, br_f (nle_of rm2.1.2.1 hk (by omega)) ⟨j + 1, rfl, by omega, br_f (nI_nle (by omega) (by omega)) ⟨j + 1, rfl, by omega, j, nI_pred j, by omega, br_f ?_ ih⟩⟩⟩
          show ¬ g 58 (j + 1) >>> (nI t &&& 31) &&& 1 = g 58 j >>> (nI t &&& 31) &&& 1
          rw [bk, bj, nI_eq (by omega) (by omega)]
          exact e
  by_cases c0 : y = 0
  · subst c0
    refine vg (t_isThread (fun _ => vg (br_f (by decide) (br_t rfl (t_weave v rn (fun f cl f1 => vg (brn_f rfl (t_rowsWithUp v cl ht (vg ?_)))))))) (fun z => absurd p1 z))
    have s1 := sc_cl f1
    exact mod (rm_scr rm s1) (fun g g1 a => vg (brn_f rfl ⟨rfl, inv_scr I (fun c hc => (sc_58 g1 c hc).trans (s1 c hc))⟩))
  · have c1 : y = 1 := by
      rw [i_eq, i0] at c0
      rw [i_eq, e1]
      omega
    subst c1
    refine vg (t_isThread (fun _ => vg (br_f (by decide) (br_f (by decide) (br_t rfl (t_weave v rn (fun f cl f1 => vg (brn_t (by decide) (t_changesOf v cl ht (vg ?_))))))))) (fun z => absurd p1 z))
    have s1 := sc_cl f1
    exact mod (rm_scr rm s1) (fun g g1 a => vg (brn_t (by decide) ⟨rfl, inv_scr I (fun c hc => (sc_58 g1 c hc).trans (s1 c hc))⟩))
-- ===== tells
def okA (V : Vw) (s a b : Nat) : Prop := difN V a b = 0 ∨ ¬ difN V a b &&& s = 0
def tolP (V : Vw) (s : Nat) : Prop := ∀ a b, a < V 0 0 → b < V 0 0 → okA V s a b
theorem difN_sym (V : Vw) (a b : Nat) : difN V a b = difN V b a := by unfold difN; rw [Nat.xor_comm (V 1 a), Nat.xor_comm (V 2 a)]
theorem okA_sym {s a b : Nat} (k : okA V s a b) : okA V s b a := by unfold okA at k ⊢; rw [difN_sym V b a]; exact k
theorem tol_of {s : Nat} (k : ∀ a, a < V 0 0 → ∀ b, b < a → okA V s a b) : tolP V s := fun a b ha hb => by
  rcases Nat.lt_trichotomy a b with z | z | z
  · exact okA_sym (k b hb a z)
  · subst z
    exact Or.inl (difN_0.mpr ⟨rfl, rfl⟩)
  · exact k a ha b z
theorem t_told (v : okV V) (rn : RN V h) {s : Nat} (hs : s < 256) (a : tolP V s → Q (some (.int 1)) h) (b : ¬ tolP V s → Q (some (.int 0)) h) : Go X m_X1_isToldApartBy 0 [.ref 2, .int (nI s), .null, .null, .null] [] h Q := by
  have h1 := v.1
  refine vc_ok (st := [2]) 40 ?_
  suffices hh : ∀ k, k ≤ V 0 0 → ∀ l1 l2 : Value, (∀ i, i < k → ∀ j, i < j → j < V 0 0 → okA V s i j) → Go X m_X1_isToldApartBy 2 [.ref 2, .int (nI s), .int (nI k), l1, l2] [] h Q from hh 0 (by omega) _ _ (fun i hi => absurd hi (by omega))
  refine down _ (V 0 0) ?_ ?_
  · exact fun l1 l2 p => vg (br_t (le_of rn.1.1) ⟨Or.inr rfl, a (tol_of (fun c hc d hd => okA_sym (p d (by omega) c hd hc)))⟩)
  · intro k hk ih l1 l2 p
    refine vc_ok (st := [14]) 40 (br_f (nle_of rn.1.1 hk (by omega)) ?_)
    show Go X m_X1_isToldApartBy 14 [.ref 2, .int (nI s), .int (nI k), .int (nI k + 1), l2] [] h Q
    rw [nI_1]
    suffices hh : ∀ j, j ≤ V 0 0 → ∀ l2 : Value, k + 1 ≤ j → (∀ d, d < j → k < d → okA V s k d) → Go X m_X1_isToldApartBy 14 [.ref 2, .int (nI s), .int (nI k), .int (nI j), l2] [] h Q from hh (k + 1) (by omega) _ (Nat.le_refl _) (fun d hd z => absurd hd (by omega))
    refine down _ (V 0 0) ?_ ?_
    · intro l2 _ p2
      have := ih (.int (nI (V 0 0))) l2 (allS p (fun j hj hj2 => p2 j hj2 hj))
      rw [← nI_1] at this
      exact vc_ok (st := [2]) 40 (br_t (le_of rn.1.1) this)
    · intro j hj ihj l2 kj p2
      refine vc_ok (st := [14]) 40 (br_f (nle_of rn.1.1 hj (by omega)) (t_dif v rn hk hj ?_))
      have l3 := difN_lt v hk hj
      by_cases e0 : difN V k j = 0
      · have := ihj (.int (nI (difN V k j))) (by omega) (allS p2 (fun _ => Or.inl e0))
        rw [← nI_1] at this
        exact vc_ok (st := [14]) 40 (br_t (by rw [e0]; rfl) this)
      · by_cases e2 : difN V k j &&& s = 0
        · refine vg (br_f (nI_ne0 (by omega) (by omega)) (brn_f ?_ ⟨Or.inl rfl, b (fun z => ?_)⟩))
          · rw [nI_and, e2]; rfl
          · rcases z k j hk hj with w | w
            · exact e0 w
            · exact w e2
        · have := ihj (.int (nI (difN V k j))) (by omega) (allS p2 (fun _ => Or.inr e2))
          rw [← nI_1] at this
          refine vc_ok (st := [14]) 40 (br_f (nI_ne0 (by omega) (by omega)) (brn_t ?_ this))
          rw [nI_and]
          exact nI_ne0 (by omega) (by have := and_lt (b := s) l3; omega)
theorem t_tellsApart (v : okV V) (rm : RM V h 53) {s : Nat} (hs : s < 256) (a : tolP V s → Q (some (.int 1)) h) (b : ¬ tolP V s → Q (some (.int 0)) h) : Go X m_X7_tellsApart 0 [.ref 1, .int (nI s), .null, .null, .null] [] h Q := by
  have h1 := v.1
  refine vc_ok (st := [2]) 40 ?_
  suffices hh : ∀ k, k ≤ V 0 0 → ∀ l1 l2 : Value, (∀ i, i < k → ∀ j, j < i → okA V s i j) → Go X m_X7_tellsApart 2 [.ref 1, .int (nI s), .int (nI k), l1, l2] [] h Q from hh 0 (by omega) _ _ (fun i hi => absurd hi (by omega))
  refine down _ (V 0 0) ?_ ?_
  · exact fun l1 l2 p => vg ⟨0, rfl, by decide, br_t (le_of rm.1.1) ⟨Or.inr rfl, a (tol_of p)⟩⟩
  · intro k hk ih l1 l2 p
    refine vc_ok (st := [14]) 40 ⟨0, rfl, by decide, br_f (nle_of rm.1.1 hk (by omega)) ?_⟩
    suffices hh : ∀ j, j ≤ k → ∀ l2 : Value, (∀ d, d < j → okA V s k d) → Go X m_X7_tellsApart 14 [.ref 1, .int (nI s), .int (nI k), .int (nI j), l2] [] h Q from hh 0 (by omega) _ (fun d hd => absurd hd (by omega))
    refine down _ k ?_ ?_
    · intro l2 p2
      have := ih (.int (nI k)) l2 (allS p p2)
      rw [← nI_1] at this
      exact vc_ok (st := [2]) 40 (br_t (Int32.le_refl _) this)
    · intro j hj ihj l2 p2
      refine vc_ok (st := [58]) 40 (br_f (nI_ge hj (by omega)) ⟨4 + k, nI_add 4 k, by omega, 4 + j, nI_add 4 j, by omega, 14 + k, nI_add 14 k, by omega, 14 + j, nI_add 14 j, by omega, ?_⟩)
      show Go X m_X7_tellsApart 58 [.ref 1, .int (nI s), .int (nI k), .int (nI j), .int (h.1 53 (4 + k) ^^^ h.1 53 (4 + j) ||| h.1 53 (14 + k) ^^^ h.1 53 (14 + j))] [] h Q
      rw [(rm.2.1 k hk).1, (rm.2.1 k hk).2, (rm.2.1 j (by omega)).1, (rm.2.1 j (by omega)).2, nI_xor, nI_xor, nI_or]
      show Go X m_X7_tellsApart 58 [.ref 1, .int (nI s), .int (nI k), .int (nI j), .int (nI (difN V k j))] [] h Q
      have l3 := difN_lt v hk (show j < V 0 0 by omega)
      by_cases e0 : difN V k j = 0
      · have := ihj (.int (nI (difN V k j))) (allS p2 (Or.inl e0))
        rw [← nI_1] at this
        exact vc_ok (st := [14]) 40 (br_t (by rw [e0]; rfl) this)
      · by_cases e2 : difN V k j &&& s = 0
        · refine vg (br_f (nI_ne0 (by omega) (by omega)) (brn_f ?_ ⟨Or.inl rfl, b (fun z => ?_)⟩))
          · rw [nI_and, e2]; rfl
          · rcases z k j hk (by omega) with w | w
            · exact e0 w
            · exact w e2
        · have := ihj (.int (nI (difN V k j))) (allS p2 (Or.inr e2))
          rw [← nI_1] at this
          refine vc_ok (st := [14]) 40 (br_f (nI_ne0 (by omega) (by omega)) (brn_t ?_ this))
          rw [nI_and]
          exact nI_ne0 (by omega) (by have := and_lt (b := s) l3; omega)
theorem and255 : ∀ a, a < 256 → a &&& 255 = a := by decide +kernel
theorem tol255 (v : okV V) : tolP V 255 := fun a b ha hb => by
  by_cases e : difN V a b = 0
  · exact Or.inl e
  · refine Or.inr ?_
    rw [and255 _ (difN_lt v ha hb)]
    exact e
theorem pop8 : ∀ a, a < 255 → pop a < 8 := by decide +kernel
/-- the least set, the first of its size, among those below k -/
def tlR (V : Vw) (k b : Nat) : Prop := tolP V b ∧ (∀ j, j < k → tolP V j → pop b ≤ pop j) ∧ (∀ j, j < k → j < b → tolP V j → pop b < pop j)
theorem tlR_u {a b : Nat} (ha : a < 256) (hb : b < 256) (h1 : tlR V 256 a) (h2 : tlR V 256 b) : a = b := by
  rcases Nat.lt_trichotomy a b with z | z | z
  · have := h2.2.2 a ha z h1.1
    have := h1.2.1 b hb h2.1
    omega
  · exact z
  · have := h1.2.2 b hb z h2.1
    have := h2.2.1 a ha h1.1
    omega
theorem tlR_new {k b : Nat} (r : ∀ j, j < k → tolP V j → pop k < pop j) (t : tolP V k) : tlR V (k + 1) k := by
  refine ⟨t, fun j hj tj => ?_, fun j hj z tj => r j z tj⟩
  by_cases e : j = k
  · subst e; exact Nat.le_refl _
  · exact Nat.le_of_lt (r j (by omega) tj)
theorem tlR_old {k b : Nat} (r : tlR V k b) (n : ¬ (tolP V k ∧ (pop k < pop b ∨ k < b))) : tlR V (k + 1) b := by
  refine ⟨r.1, fun j hj tj => ?_, fun j hj z tj => ?_⟩
  · by_cases e : j = k
    · subst e
      have : ¬ pop j < pop b := fun w => n ⟨tj, Or.inl w⟩
      omega
    · exact r.2.1 j (by omega) tj
  · by_cases e : j = k
    · subst e; exact absurd ⟨tj, Or.inr z⟩ n
    · exact r.2.2 j (by omega) z tj
theorem t_tellsC (v : okV V) (rn : RN V h) (q : ∀ b, b < 256 → tlR V 256 b → Q (some (.int (nI b))) h) : Go X m_X6_tells 0 [.ref 0, .null, .null] [] h Q := by
  refine vc_ok (st := [6]) 40 ?_
  refine down (fun k => ∀ b, b < 256 → (b < k ∨ b = 255) → tlR V k b → Go X m_X6_tells 6 [.ref 0, .int (nI b), .int (nI k)] [] h Q) 256 ?_ ?_ 0 (by omega) 255 (by decide) (Or.inr rfl) ⟨tol255 v, fun j hj => absurd hj (by omega), fun j hj => absurd hj (by omega)⟩
  · exact fun b hb _ r => vg (br_t (Int32.le_refl _) (q b hb r))
  · intro k hk ih b hb hb2 r
    refine vg (br_f (nI_ge hk (by decide)) (t_bitCount (by omega) (vg (t_bitCount (by omega) ?_))))
    have pk : pop k ≤ 16 := popF_le k 16
    have pb : pop b ≤ 16 := popF_le b 16
    by_cases e : pop k < pop b
    · refine vg (br_f (nI_ge e (by omega)) (t_told v rn hk (fun t => ?_) (fun t => ?_)))
      · have := ih k hk (by omega) (tlR_new (b := b) (fun j hj tj => Nat.lt_of_lt_of_le e (r.2.1 j hj tj)) t)
        rw [← nI_1] at this
        exact vc_ok (st := [6]) 40 (br_f (by decide) this)
      · have := ih b hb (by omega) (tlR_old r (fun z => t z.1))
        rw [← nI_1] at this
        exact vc_ok (st := [6]) 40 (br_t rfl this)
    · have := ih b hb (by omega) (tlR_old r (fun z => by
        rcases z.2 with w | w
        · exact e w
        · have e3 : b = 255 := by omega
          subst e3
          have := pop8 k w
          have : pop 255 = 8 := by decide
          omega))
      rw [← nI_1] at this
      exact vc_ok (st := [6]) 40 (br_t (nI_le (by omega) (by omega)) this)
theorem t_tellsM (v : okV V) (rm : RM V h 53) (q : ∀ b, b < 256 → tlR V 256 b → Q (some (.int (nI b))) h) : Go X m_X7_tells 0 [.ref 1, .null, .null] [] h Q := by
  refine vc_ok (st := [4]) 40 ?_
  refine down (fun k => ∀ b : Int32, ((b = -1 ∧ ∀ j, j < k → ¬ tolP V j) ∨ ∃ c, c < k ∧ b = nI c ∧ tlR V k c) → Go X m_X7_tells 4 [.ref 1, .int b, .int (nI k)] [] h Q) 256 ?_ ?_ 0 (by omega) (-1) (Or.inl ⟨rfl, fun j hj => absurd hj (by omega)⟩)
  · intro b hb
    rcases hb with ⟨_, z⟩ | ⟨c, hc, rfl, r⟩
    · exact absurd (tol255 v) (z 255 (by decide))
    · exact vg (br_t (Int32.le_refl _) (q c hc r))
  · intro k hk ih b hb
    have pk : pop k ≤ 16 := popF_le k 16
    refine vg (br_f (nI_ge hk (by decide)) (t_tellsApart v rm hk (fun t => ?_) (fun t => ?_)))
    · rcases hb with ⟨rfl, z⟩ | ⟨c, hc, rfl, r⟩
      · have := ih (nI k) (Or.inr ⟨k, by omega, rfl, tlR_new (b := 0) (fun j hj tj => absurd tj (z j hj)) t⟩)
        rw [← nI_1] at this
        exact vc_ok (st := [4]) 40 (br_f (by decide) (br_t (by decide) this))
      · refine vg (br_f (by decide) (br_f (nI_pos (by omega)) (t_onesN (by omega) (vg (t_onesN (by omega) ?_)))))
        have pc : pop c ≤ 16 := popF_le c 16
        by_cases e : pop k < pop c
        · have := ih (nI k) (Or.inr ⟨k, by omega, rfl, tlR_new (b := 0) (fun j hj tj => Nat.lt_of_lt_of_le e (r.2.1 j hj tj)) t⟩)
          rw [← nI_1] at this
          exact vc_ok (st := [4]) 40 (br_f (nI_ge e (by omega)) this)
        · have := ih (nI c) (Or.inr ⟨c, by omega, rfl, tlR_old r (fun z => by rcases z.2 with w | w <;> omega)⟩)
          rw [← nI_1] at this
          exact vc_ok (st := [4]) 40 (br_t (nI_le (by omega) (by omega)) this)
    · have := ih b (by
        rcases hb with ⟨rfl, z⟩ | ⟨c, hc, rfl, r⟩
        · exact Or.inl ⟨rfl, allS z t⟩
        · exact Or.inr ⟨c, by omega, rfl, tlR_old r (fun z => t z.1)⟩)
      rw [← nI_1] at this
      exact vc_ok (st := [4]) 40 (br_t rfl this)
theorem op_tells (I : Inv h) : Both X m_X6_tells m_X7_tells [.ref 0, .null, .null] [.ref 1, .null, .null] h := by
  obtain ⟨V, v, rn, rm, ik, ir, it, is⟩ := id I
  unfold Both
  exact t_tellsC v rn (fun b hb r => t_tellsM v rm (fun c hc r2 => ⟨by rw [tlR_u hc hb r2 r], I⟩))
end OPS11
