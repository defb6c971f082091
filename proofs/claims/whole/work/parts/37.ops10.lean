/-! repeat, unlike, thread -/
section OPS10
variable {X : Xs} {h : Hp} {x y z : Int32} {Q : Qt} {V : Vw}
abbrev EQ (r : Option Value) : Qt := fun r' h2 => r' = r ∧ Inv h2
abbrev BQ (X : Xs) (mm : Nat) (Lm : List Value) : Qt := fun r h1 => Go X mm 0 Lm [] h1 (EQ r)
theorem allS {P : Nat → Prop} {k : Nat} (p : ∀ i, i < k → P i) (e : P k) : ∀ i, i < k + 1 → P i := fun i hi => by
  by_cases e2 : i = k
  · subst e2; exact e
  · exact p i (by omega)
theorem le_of {x : Int32} {n : Nat} (e : x = nI n) : x ≤ nI n := by rw [e]; exact Int32.le_refl _
theorem nle_of {x : Int32} {n k : Nat} (e : x = nI n) (h : k < n) (hn : n < 2 ^ 31) : ¬ x ≤ nI k := by rw [e]; exact nI_ge h hn
def repP (V : Vw) (p : Nat) : Prop := ∀ i, i < V 0 1 → p ≤ i → rw' V i = rw' V (i - p)
theorem t_repeatsByC (v : okV V) (cl : Cl V h.1) {p : Nat} (hp : p ≤ V 0 1) (a : repP V p → Q (some (.int 1)) h) (b : ¬ repP V p → Q (some (.int 0)) h) : Go X m_X0_repeatsBy 0 [.ref 5, .int (nI p), .null] [] h Q := by
  have h1 := v.1
  refine vc_ok (st := [2]) 40 ?_
  refine down (fun k => p ≤ k → (∀ i, i < k → p ≤ i → rw' V i = rw' V (i - p)) → Go X m_X0_repeatsBy 2 [.ref 5, .int (nI p), .int (nI k)] [] h Q) (V 0 1) ?_ ?_ p hp (Nat.le_refl _) (fun i hi z => absurd hi (by omega))
  · exact fun _ q => vg (br_t (le_of cl.2.1) ⟨Or.inr rfl, a q⟩)
  · intro k hk ih pk q
    refine vg (br_f (nle_of cl.2.1 hk (by omega)) (t_upIn v cl hk (vg ?_)))
    show Go X m_X0_upIn 0 [.ref 5, .int (nI k - nI p)] [] h _
    rw [pk_sub pk]
    refine t_upIn v cl (by omega) ?_
    have l1 := rw_lt V k
    have l2 := rw_lt V (k - p)
    by_cases e : rw' V k = rw' V (k - p)
    · refine vc_ok (st := [2]) 40 (br_t (by rw [e]) ?_)
      have := ih (by omega) (allS q (fun _ => e))
      rw [← nI_1] at this
      exact this
    · exact vg (br_f (by rw [nI_eq (by omega) (by omega)]; exact e) ⟨Or.inl rfl, b (fun z => e (z k hk pk))⟩)
theorem t_repeatsByM (v : okV V) (rm : RM V h 53) (mc : Mc V h.1 (V 0 1)) {p : Nat} (hp : p ≤ V 0 1) (a : repP V p → Q (some (.int 1)) h) (b : ¬ repP V p → Q (some (.int 0)) h) : Go X m_X7_repeatsBy 0 [.ref 1, .int (nI p), .null] [] h Q := by
  have h1 := v.1
  refine vc_ok (st := [2]) 40 ?_
  refine down (fun k => p ≤ k → (∀ i, i < k → p ≤ i → rw' V i = rw' V (i - p)) → Go X m_X7_repeatsBy 2 [.ref 1, .int (nI p), .int (nI k)] [] h Q) (V 0 1) ?_ ?_ p hp (Nat.le_refl _) (fun i hi z => absurd hi (by omega))
  · exact fun _ q => vg ⟨1, rfl, by decide, br_t (le_of rm.1.2.1) ⟨Or.inr rfl, a q⟩⟩
  · intro k hk ih pk q
    refine vc_ok (st := [2]) 40 ⟨1, rfl, by decide, br_f (nle_of rm.1.2.1 hk (by omega)) ⟨k, rfl, by omega, k - p, pk_sub pk, by omega, ?_⟩⟩
    have l1 := rw_lt V k
    have l2 := rw_lt V (k - p)
    by_cases e : rw' V k = rw' V (k - p)
    · refine br_t (by show h.1 58 k = h.1 58 (k - p); rw [mc k hk, mc _ (by omega), e]) ?_
      have := ih (by omega) (allS q (fun _ => e))
      rw [← nI_1] at this
      exact this
    · exact br_f (by show ¬ h.1 58 k = h.1 58 (k - p); rw [mc k hk, mc _ (by omega), nI_eq (by omega) (by omega)]; exact e) ⟨Or.inl rfl, b (fun z => e (z k hk pk))⟩
theorem op_repeat (I : Inv h) : Both X m_X6_repeat m_X7_repeat [.ref 0, .null] [.ref 1, .null] h := by
  obtain ⟨V, v, rn, rm, ik, ir, it, is⟩ := id I
  unfold Both
  have h1 := v.1
  by_cases p0 : V 0 1 = 0
  · have z1 : h.1 2 4 = 0 := by rw [rn.1.2.1, p0]; rfl
    have z2 : h.1 53 1 = 0 := by rw [rm.1.2.1, p0]; rfl
    exact vg (brn_f z1 (t_refuse 3 (by decide) (by decide) (vg (vg ⟨1, rfl, by decide, brn_f z2 (t_findsN 3 (by decide) rfl (vg ⟨rfl, inv_ref I (by decide)⟩))⟩))))
  have z1 : ¬ h.1 2 4 = 0 := by rw [rn.1.2.1]; exact nI_ne0 (by omega) (by omega)
  obtain ⟨m, ⟨m1, m2, m3⟩, m4⟩ := pk_least (fun k => 1 ≤ k ∧ k ≤ V 0 1 ∧ repP V k) ⟨V 0 1, by omega, Nat.le_refl _, fun i hi hj => absurd hi (by omega)⟩
  have m5 : ∀ k, 1 ≤ k → k < m → ¬ repP V k := fun k k1 k2 k3 => m4 k k2 ⟨k1, by omega, k3⟩
  refine vc_ok (st := [30]) 40 (brn_t z1 (t_weave v rn (fun f cl f1 => vc_ok (st := [30]) 40 ?_)))
  have s1 := sc_cl f1
  have rn1 : RN V (f, h.2) := rn_scr rn s1
  have rm1 : RM V (f, h.2) 53 := rm_scr rm s1
  have en : Go X m_X7_repeat 0 [.ref 1, .null] [] (f, h.2) (fun r' h2 => r' = some (Value.int (nI m)) ∧ Inv h2) := by
    have z2 : ¬ f 53 1 = 0 := by rw [show f 53 1 = nI (V 0 1) from rm1.1.2.1]; exact nI_ne0 (by omega) (by omega)
    refine vc_ok (st := [21]) 40 ⟨1, rfl, by decide, brn_t z2 (t_weaves v rm1 (fun g mc g1 => vc_ok (st := [21]) 40 ?_))⟩
    have rm2 : RM V (g, h.2) 53 := rm_cg rm1 (g1 53 (by decide))
    refine down (fun k => 1 ≤ k → Go X m_X7_repeat 21 [.ref 1, .int (nI k)] [] (g, h.2) (EQ (some (Value.int (nI m))))) m ?_ ?_ 1 m1 (Nat.le_refl _)
    · exact fun _ => vg (t_repeatsByM v rm2 mc m2 (fun _ => vg (brn_t (by decide) ⟨rfl, inv_scr I (fun c hc => (sc_58 g1 c hc).trans (s1 c hc))⟩)) (fun z => absurd m3 z))
    · intro k hk ih k1
      have := ih (by omega)
      rw [← nI_1] at this
      exact vg (t_repeatsByM v rm2 mc (by omega) (fun z => absurd z (m5 k k1 hk)) (fun _ => vc_ok (st := [21]) 40 (brn_f rfl this)))
  refine down (fun k => 1 ≤ k → Go X m_X6_repeat 30 [.ref 0, .int (nI k)] [] (f, h.2) (BQ X m_X7_repeat [.ref 1, .null])) m ?_ ?_ 1 m1 (Nat.le_refl _)
  · intro _
    by_cases e : m < V 0 1
    · exact vg (br_f (nle_of rn1.1.2.1 e (by omega)) (t_repeatsByC v cl m2 (fun _ => vg (br_f (by decide) en)) (fun z => absurd m3 z)))
    · have em : m = V 0 1 := by omega
      refine vg (br_t ?_ ?_)
      · rw [em]; exact le_of rn1.1.2.1
      · show Go X m_X7_repeat 0 [.ref 1, .null] [] (f, h.2) (fun r' h2 => r' = some (Value.int (f 2 4)) ∧ Inv h2)
        rw [show f 2 4 = nI (V 0 1) from rn1.1.2.1, ← em]
        exact en
  · intro k hk ih k1
    have := ih (by omega)
    rw [← nI_1] at this
    exact vg (br_f (nle_of rn1.1.2.1 (by omega) (by omega)) (t_repeatsByC v cl (by omega) (fun z => absurd z (m5 k k1 hk)) (fun _ => vc_ok (st := [30]) 40 (br_t rfl this))))
/-- 1 where no row before k is alike row i -/
def newB (V : Vw) (i : Nat) : Nat → Nat
  | 0 => 1
  | k + 1 => if newB V i k = 1 ∧ rw' V k ≠ rw' V i then 1 else 0
theorem newB_0 {i k : Nat} (e : newB V i k = 0) : ∀ n, k ≤ n → newB V i n = 0 := fun n hn => by
  obtain ⟨j, rfl⟩ : ∃ j, n = k + j := ⟨n - k, by omega⟩
  clear hn
  induction j with
  | zero => exact e
  | succ j ih =>
    show newB V i (k + j + 1) = 0
    unfold newB
    rw [if_neg (fun z => absurd z.1 (by omega))]
theorem newB_le (V : Vw) (i k : Nat) : newB V i k ≤ 1 := by
  cases k with
  | zero => exact Nat.le_refl _
  | succ k =>
    unfold newB
    split <;> omega
theorem t_isNewRow (v : okV V) (cl : Cl V h.1) {i : Nat} (hi : i < V 0 1) (q : Q (some (.int (nI (newB V i i)))) h) : Go X m_X0_isNewRow 0 [.ref 5, .int (nI i), .null] [] h Q := by
  have h1 := v.1
  refine vc_ok (st := [2]) 40 ?_
  refine down (fun k => newB V i k = 1 → Go X m_X0_isNewRow 2 [.ref 5, .int (nI i), .int (nI k)] [] h Q) i ?_ ?_ 0 (by omega) rfl
  · intro e
    rw [e] at q
    exact vg (br_t (Int32.le_refl _) ⟨Or.inr rfl, q⟩)
  · intro k hk ih e1
    refine vg (br_f (nI_ge hk (by omega)) (t_upIn v cl (by omega) (vg (t_upIn v cl hi ?_))))
    have l1 := rw_lt V k
    have l2 := rw_lt V i
    by_cases e : rw' V k = rw' V i
    · have e0 : newB V i (k + 1) = 0 := by unfold newB; rw [if_neg (fun z => z.2 e)]
      rw [newB_0 e0 i hk] at q
      exact vg (brn_f (by rw [e]) ⟨Or.inl rfl, q⟩)
    · have := ih (by unfold newB; rw [if_pos ⟨e1, e⟩])
      rw [← nI_1] at this
      exact vc_ok (st := [2]) 40 (brn_t (by rw [nI_eq (by omega) (by omega)]; exact e) this)
theorem op_unlike (I : Inv h) : Both X m_X6_unlike m_X7_unlike [.ref 0, .null, .null] [.ref 1, .null, .null, .null, .null] h := by
  obtain ⟨V, v, rn, rm, ik, ir, it, is⟩ := id I
  unfold Both
  have h1 := v.1
  have u0 : ∀ k, newB V k k = 0 ∨ newB V k k = 1 := fun k => by have := newB_le V k k; omega
  refine vg (t_weave v rn (fun f cl f1 => vc_ok (st := [15]) 40 ?_))
  have s1 := sc_cl f1
  have rm1 : RM V (f, h.2) 53 := rm_scr rm s1
  refine down (fun k => Go X m_X6_unlike 15 [.ref 0, .int (nI (sumN (fun i => newB V i i) k)), .int (nI k)] [] (f, h.2) (BQ X m_X7_unlike [.ref 1, .null, .null, .null, .null])) (V 0 1) ?_ ?_ 0 (by omega)
  · refine vg (br_t (le_of cl.2.1) (vg (t_weaves v rm1 (fun g mc g1 => vc_ok (st := [8]) 40 ?_))))
    have rm2 : RM V (g, h.2) 53 := rm_cg rm1 (g1 53 (by decide))
    suffices hh : ∀ k, k ≤ V 0 1 → ∀ a b : Value, Go X m_X7_unlike 8 [.ref 1, .int (nI (sumN (fun i => newB V i i) k)), .int (nI k), a, b] [] (g, h.2) (fun r' h2 => r' = some (Value.int (nI (sumN (fun i => newB V i i) (V 0 1)))) ∧ Inv h2) from hh 0 (by omega) _ _
    refine down _ (V 0 1) ?_ ?_
    · exact fun a b => vg ⟨1, rfl, by decide, br_t (le_of rm2.1.2.1) ⟨rfl, inv_scr I (fun c hc => (sc_58 g1 c hc).trans (s1 c hc))⟩⟩
    · intro k hk ih a b
      refine vc_ok (st := [23]) 40 ⟨1, rfl, by decide, br_f (nle_of rm2.1.2.1 hk (by omega)) ?_⟩
      refine down (fun j => Go X m_X7_unlike 23 [.ref 1, .int (nI (sumN (fun i => newB V i i) k)), .int (nI k), .int (nI (newB V k j)), .int (nI j)] [] (g, h.2) (EQ (some (Value.int (nI (sumN (fun i => newB V i i) (V 0 1))))))) k ?_ ?_ 0 (by omega)
      · have ih2 := ih (.int (nI (newB V k k))) (.int (nI k))
        show Go X m_X7_unlike 23 [.ref 1, .int (nI (sumN (fun i => newB V i i) k)), .int (nI k), .int (nI (newB V k k)), .int (nI k)] [] (g, h.2) _
        have ih3 : Go X m_X7_unlike 8 [.ref 1, .int (nI (sumN (fun i => newB V i i) k + newB V k k)), .int (nI (k + 1)), .int (nI (newB V k k)), .int (nI k)] [] (g, h.2) (fun r' h2 => r' = some (Value.int (nI (sumN (fun i => newB V i i) (V 0 1)))) ∧ Inv h2) := ih2
        rw [← nI_add, ← nI_1] at ih3
        rcases u0 k with e | e
        · rw [e] at ih3 ⊢
          exact vc_ok (st := [8]) 40 (br_t (Int32.le_refl _) (br_t rfl ih3))
        · rw [e] at ih3 ⊢
          exact vc_ok (st := [8]) 40 (br_t (Int32.le_refl _) (br_f (by decide) ih3))
      · intro j hj ihj
        have l1 := rw_lt V j
        have l2 := rw_lt V k
        rw [← nI_1] at ihj
        have en := newB_le V k j
        by_cases e0 : newB V k j = 0
        · rw [e0]
          rw [newB_0 e0 (j + 1) (by omega)] at ihj
          exact vc_ok (st := [23]) 40 (br_f (nI_ge hj (by omega)) (br_t rfl ihj))
        · have e1 : newB V k j = 1 := by omega
          rw [e1]
          by_cases e : rw' V j = rw' V k
          · rw [show newB V k (j + 1) = 0 by unfold newB; rw [if_neg (fun z => z.2 e)]] at ihj
            exact vc_ok (st := [23]) 40 (br_f (nI_ge hj (by omega)) (br_f (by decide) ⟨j, rfl, by omega, k, rfl, by omega, br_t (by show g 58 j = g 58 k; rw [mc j (by omega), mc k hk, e]) ihj⟩))
          · rw [show newB V k (j + 1) = 1 by unfold newB; rw [if_pos ⟨e1, e⟩]] at ihj
            exact vc_ok (st := [23]) 40 (br_f (nI_ge hj (by omega)) (br_f (by decide) ⟨j, rfl, by omega, k, rfl, by omega, br_f (by show ¬ g 58 j = g 58 k; rw [mc j (by omega), mc k hk, nI_eq (by omega) (by omega)]; exact e) ihj⟩))
  · intro k hk ih
    have ih : Go X m_X6_unlike 15 [.ref 0, .int (nI (sumN (fun i => newB V i i) k + newB V k k)), .int (nI (k + 1))] [] (f, h.2) (BQ X m_X7_unlike [.ref 1, .null, .null, .null, .null]) := ih
    refine vg (br_f (nle_of cl.2.1 hk (by omega)) (t_isNewRow v cl hk ?_))
    rcases u0 k with e | e
    · rw [e, Nat.add_zero, ← nI_1] at ih
      rw [e]
      exact vc_ok (st := [15]) 40 (br_t rfl ih)
    · rw [e, ← nI_1, ← nI_1] at ih
      rw [e]
      exact vc_ok (st := [15]) 40 (br_f (by decide) ih)
end OPS10
