section KEP
variable {X : Xs} {h : Hp} {Q : Qt} {V : Vw}
theorem t_upIn (v : okV V) (cl : Cl V h.1) {i : Nat} (hi : i < V 0 1) (q : Q (some (.int (nI (rw' V i)))) h) : Go X m_X0_upIn 0 [.ref 5, .int (nI i)] [] h Q := by
  have h1 := v.1
  have h2 := v.2.2.2.1 i hi
  refine vg ⟨i, rfl, by omega, V 4 i, cl.2.2.2.2 i hi, by omega, ?_⟩
  show Q (some (.int (h.1 37 (V 4 i)))) h
  rw [(cl.2.2.2.1 _ h2).2.1]
  exact q
theorem t_hasAtMostUp (v : okV V) (cl : Cl V h.1) {n : Nat} (hn : n ≤ 16) (a : fewP V n → Q (some (.int 1)) h) (b : ¬ fewP V n → Q (some (.int 0)) h) : Go X m_X0_hasAtMostUp 0 [.ref 5, .int (nI n), .null] [] h Q := by
  have h1 := v.1
  refine vc_ok (st := [2]) 40 ?_
  refine down (fun k => (∀ i, i < k → pop (rw' V i) ≤ n) → Go X m_X0_hasAtMostUp 2 [.ref 5, .int (nI n), .int (nI k)] [] h Q) (V 0 1) ?_ ?_ 0 (by omega) (fun i hi => absurd hi (by omega))
  · exact fun p => vg (br_t (by show h.1 5 6 ≤ _; rw [cl.2.1]; exact Int32.le_refl _) ⟨Or.inr rfl, a p⟩)
  · intro k hk ih p
    have h2 := v.2.2.2.1 k hk
    have hp : pop (rw' V k) ≤ 16 := popF_le (rw' V k) 16
    have e1 : h.1 38 (V 4 k) = nI (pop (rw' V k)) := (cl.2.2.2.1 _ h2).2.2.1
    refine vc_ok (st := [2]) 40 (br_f (by show ¬ h.1 5 6 ≤ _; rw [cl.2.1]; exact nI_ge hk (by omega)) ⟨k, rfl, by omega, V 4 k, cl.2.2.2.2 k hk, by omega, ?_⟩)
    by_cases e : pop (rw' V k) ≤ n
    · refine br_t (by show h.1 38 (V 4 k) ≤ nI n; rw [e1]; exact nI_le e (by omega)) ?_
      have := ih (fun i hi => by
        by_cases e2 : i = k
        · subst e2; exact e
        · exact p i (by omega))
      rw [← nI_1] at this
      exact this
    · exact br_f (by show ¬ h.1 38 (V 4 k) ≤ nI n; rw [e1]; exact nI_ge (by omega) (by omega)) ⟨Or.inl rfl, b (fun z => e (z k hk))⟩
theorem t_isEvenC (v : okV V) (cl : Cl V h.1) (a : evenP V → Q (some (.int 1)) h) (b : ¬ evenP V → Q (some (.int 0)) h) : Go X m_X0_isEven 0 [.ref 5, .null] [] h Q := by
  have h1 := v.1
  refine vc_ok (st := [2]) 40 ?_
  refine down (fun k => (∀ i, i < k → ¬ pop (rw' V i) % 2 = 1) → Go X m_X0_isEven 2 [.ref 5, .int (nI k)] [] h Q) (V 0 1) ?_ ?_ 0 (by omega) (fun i hi => absurd hi (by omega))
  · exact fun p => vg (br_t (by show h.1 5 6 ≤ _; rw [cl.2.1]; exact Int32.le_refl _) ⟨Or.inr rfl, a p⟩)
  · intro k hk ih p
    have h2 := v.2.2.2.1 k hk
    have e1 : h.1 38 (V 4 k) &&& 1 = nI (pop (rw' V k) % 2) := by
      rw [show h.1 38 (V 4 k) = nI (pop (rw' V k)) from (cl.2.2.2.1 _ h2).2.2.1, andN1]
    refine vc_ok (st := [2]) 40 (br_f (by show ¬ h.1 5 6 ≤ _; rw [cl.2.1]; exact nI_ge hk (by omega)) ⟨k, rfl, by omega, V 4 k, cl.2.2.2.2 k hk, by omega, ?_⟩)
    by_cases e : pop (rw' V k) % 2 = 1
    · exact brn_f (by show h.1 38 (V 4 k) &&& 1 = nI 1; rw [e1, e]) ⟨Or.inl rfl, b (fun z => z k hk e)⟩
    · refine brn_t (by show ¬ h.1 38 (V 4 k) &&& 1 = nI 1; rw [e1, nI_eq (by omega) (by decide)]; exact e) ?_
      have := ih (fun i hi => by
        by_cases e2 : i = k
        · subst e2; exact e
        · exact p i (by omega))
      rw [← nI_1] at this
      exact this
theorem t_isStepping (v : okV V) (cl : Cl V h.1) (a : stepP V → Q (some (.int 1)) h) (b : ¬ stepP V → Q (some (.int 0)) h) : Go X m_X0_isStepping 0 [.ref 5, .null, .null, .null] [] h Q := by
  have h1 := v.1
  have key : ∀ k, k ≤ V 0 1 → ∀ z w : Value, (∀ i, 1 ≤ i → i < k + 1 → i < V 0 1 → V 1 (V 4 i) = rotN (V 1 (V 4 (i - 1)))) → Go X m_X0_isStepping 2 [.ref 5, .int (nI (k + 1)), z, w] [] h Q := by
    refine down _ (V 0 1) ?_ ?_
    · intro z w p
      exact vg (br_t (by show h.1 5 6 ≤ _; rw [cl.2.1]; exact nI_le (by omega) (by omega)) ⟨Or.inr rfl, a (fun i h1 h2 => p i h1 (by omega) h2)⟩)
    · intro k hk ih z w p
      by_cases hk1 : k + 1 < V 0 1
      case neg => exact vg (br_t (by show h.1 5 6 ≤ _; rw [cl.2.1]; exact nI_le (by omega) (by omega)) ⟨Or.inr rfl, a (fun i h1 h2 => p i h1 (by omega) h2)⟩)
      have g1 := v.2.2.2.1 k hk
      have g2 := v.2.2.2.1 (k + 1) hk1
      have hc := (v.2.1 _ g1).1
      have hd := (v.2.1 _ g2).1
      have e1 : h.1 36 (V 4 k) = nI (V 1 (V 4 k)) := (cl.2.2.2.1 _ g1).1
      have e2 : h.1 36 (V 4 (k + 1)) = nI (V 1 (V 4 (k + 1))) := (cl.2.2.2.1 _ g2).1
      refine vc_ok (st := [24]) 40 (br_f (by show ¬ h.1 5 6 ≤ _; rw [cl.2.1]; exact nI_ge hk1 (by omega)) ⟨k, nI_pred k, by omega, V 4 k, cl.2.2.2.2 k hk, by omega, ?_⟩)
      show Go X m_X0_isStepping 24 [.ref 5, .int (nI (k + 1)), .int (h.1 36 (V 4 k)), w] [] h Q
      rw [e1]
      refine vc_ok (st := [2]) 40 ⟨k + 1, rfl, by omega, V 4 (k + 1), cl.2.2.2.2 (k + 1) hk1, by omega, ?_⟩
      by_cases e : V 1 (V 4 (k + 1)) = rotN (V 1 (V 4 k))
      · refine br_t ?_ ?_
        · show h.1 36 (V 4 (k + 1)) = (nI (V 1 (V 4 k)) <<< (nI 1 &&& 31) ||| nI (V 1 (V 4 k)) >>> (nI 7 &&& 31)) &&& nI 255
          rw [rotC _ hc, e2, e]
        · have := ih (.int (nI (V 1 (V 4 k)))) (.int ((nI (V 1 (V 4 k)) <<< (nI 1 &&& 31) ||| nI (V 1 (V 4 k)) >>> (nI 7 &&& 31)) &&& nI 255)) (fun i i1 i2 i3 => by
            by_cases e2 : i = k + 1
            · subst e2; exact e
            · exact p i i1 (by omega) i3)
          rw [← nI_1] at this
          exact this
      · refine br_f ?_ ⟨Or.inl rfl, b (fun z => e (z (k + 1) (by omega) hk1))⟩
        show ¬ h.1 36 (V 4 (k + 1)) = (nI (V 1 (V 4 k)) <<< (nI 1 &&& 31) ||| nI (V 1 (V 4 k)) >>> (nI 7 &&& 31)) &&& nI 255
        have := rot_lt _ hc
        rw [rotC _ hc, e2, nI_eq (by omega) (by omega)]
        exact e
  exact vc_ok (st := [2]) 40 (key 0 (by omega) .null .null (fun i i1 i2 _ => absurd i2 (by omega)))
theorem t_isTurning (v : okV V) (cl : Cl V h.1) (a : turnP V → Q (some (.int 1)) h) (b : ¬ turnP V → Q (some (.int 0)) h) : Go X m_X0_isTurning 0 [.ref 5, .null] [] h Q := by
  have h1 := v.1
  have ed : h.1 5 6 / nI 2 = nI (V 0 1 / 2) := by rw [cl.2.1]; exact pk_div (by omega) (by decide) (by decide)
  refine vc_ok (st := [2]) 40 ?_
  refine down (fun k => (∀ i, i < k → rw' V i = rw' V (V 0 1 - 1 - i)) → Go X m_X0_isTurning 2 [.ref 5, .int (nI k)] [] h Q) (V 0 1 / 2) ?_ ?_ 0 (by omega) (fun i hi => absurd hi (by omega))
  · intro p
    refine vg ⟨by decide, br_t (by show h.1 5 6 / nI 2 ≤ _; rw [ed]; exact Int32.le_refl _) ⟨Or.inr rfl, a (fun i hi => ?_)⟩⟩
    by_cases c1 : i < V 0 1 / 2
    · exact p i c1
    · by_cases c2 : V 0 1 - 1 - i < V 0 1 / 2
      · have := p (V 0 1 - 1 - i) c2
        rw [show V 0 1 - 1 - (V 0 1 - 1 - i) = i by omega] at this
        exact this.symm
      · rw [show V 0 1 - 1 - i = i by omega]
  · intro k hk ih p
    have e3 : h.1 5 6 - 1 - nI k = nI (V 0 1 - 1 - k) := by
      obtain ⟨m, hm⟩ : ∃ m, V 0 1 = m + 1 := ⟨V 0 1 - 1, by omega⟩
      rw [cl.2.1, hm, nI_pred, pk_sub (by omega), Nat.add_sub_cancel]
    refine vg ⟨by decide, br_f (by show ¬ h.1 5 6 / nI 2 ≤ _; rw [ed]; exact nI_ge hk (by omega)) (t_upIn v cl (by omega) (vg ?_))⟩
    show Go X m_X0_upIn 0 [.ref 5, .int (h.1 5 6 - 1 - nI k)] [] h _
    rw [e3]
    have l1 := rw_lt V k
    have l2 := rw_lt V (V 0 1 - 1 - k)
    refine t_upIn v cl (by omega) ?_
    by_cases e : rw' V k = rw' V (V 0 1 - 1 - k)
    · refine vc_ok (st := [2]) 40 (br_t (by rw [e]) ?_)
      have := ih (fun i hi => by
        by_cases e2 : i = k
        · subst e2; exact e
        · exact p i (by omega))
      rw [← nI_1] at this
      exact this
    · exact vg (br_f (by rw [nI_eq (by omega) (by omega)]; exact e) ⟨Or.inl rfl, b (fun z => e (z k (by omega)))⟩)
end KEP
-- ===== runs
def stepG (g : Nat → Nat) (t : Nat) (p : Nat × Nat) : Nat × Nat := (cond (Nat.blt 0 t && Nat.beq (g t) (g (t - 1))) (p.1 + 1) 1, cond (Nat.blt p.2 (cond (Nat.blt 0 t && Nat.beq (g t) (g (t - 1))) (p.1 + 1) 1)) (cond (Nat.blt 0 t && Nat.beq (g t) (g (t - 1))) (p.1 + 1) 1) p.2)
def seqR (g : Nat → Nat) : Nat → Nat × Nat → Nat × Nat
  | 0, p => p
  | k + 1, p => stepG g k (seqR g k p)
theorem seq_row (u : Nat) : ∀ (k : Nat) (p : Nat × Nat), seqR (bt u) k p = rowR u k p
  | 0, _ => rfl
  | k + 1, p => by
    unfold seqR rowR
    rw [seq_row u k p]
    rfl
theorem seq_m (g : Nat → Nat) (m : Nat) : ∀ k, (seqR g k (0, m)).1 = (seqR g k (0, 0)).1 ∧ (seqR g k (0, m)).2 = max m (seqR g k (0, 0)).2
  | 0 => ⟨rfl, by show m = max m 0; omega⟩
  | k + 1 => by
    obtain ⟨h1, h2⟩ := seq_m g m k
    unfold seqR stepG
    rw [h1, h2]
    refine ⟨rfl, ?_⟩
    generalize cond (Nat.blt 0 k && Nat.beq (g k) (g (k - 1))) ((seqR g k (0, 0)).1 + 1) 1 = r
    generalize (seqR g k (0, 0)).2 = s
    show cond (Nat.blt (max m s) r) r (max m s) = max m (cond (Nat.blt s r) r s)
    by_cases c1 : max m s < r
    · rw [show Nat.blt (max m s) r = true by simpa [Nat.blt_eq] using c1, show Nat.blt s r = true by simp [Nat.blt_eq]; omega]
      simp only [cond_true]
      omega
    · have e1 : Nat.blt (max m s) r = false := by
        cases hb : Nat.blt (max m s) r
        · rfl
        · exact absurd (blt_lt hb) c1
      rw [e1]
      simp only [cond_false]
      cases hb : Nat.blt s r
      · rfl
      · have := blt_lt hb
        simp only [cond_true]
        omega
theorem rowQ_eq (u : Nat) (p : Nat × Nat) : ∀ (n t b : Nat), (t = 0 → b = 2) → (0 < t → b = bt u (t - 1)) → rowQ n (u / 2 ^ t) b (seqR (bt u) t p).1 (seqR (bt u) t p).2 = (seqR (bt u) (t + n) p).2
  | 0, t, b, _, _ => rfl
  | n + 1, t, b, h0, h1 => by
    have e1 : u / 2 ^ t % 2 = bt u t := rfl
    have e2 : u / 2 ^ t / 2 = u / 2 ^ (t + 1) := by rw [Nat.div_div_eq_div_mul, ← Nat.pow_succ]
    have ih := rowQ_eq u p n (t + 1) (bt u t) (fun z => absurd z (by omega)) (fun _ => rfl)
    rw [show t + 1 + n = t + (n + 1) by omega] at ih
    rw [← ih]
    have hq0 : ∀ r m, rowQ (n + 1) (u / 2 ^ t) b r m = cond (Nat.beq (u / 2 ^ t % 2) b) (rowQ n (u / 2 ^ t / 2) b (r + 1) (cond (Nat.blt m (r + 1)) (r + 1) m)) (rowQ n (u / 2 ^ t / 2) (u / 2 ^ t % 2) 1 (cond (Nat.blt m 1) 1 m)) := fun _ _ => rfl
    rw [hq0, e1, e2]
    have hs : seqR (bt u) (t + 1) p = stepG (bt u) t (seqR (bt u) t p) := rfl
    rw [hs]
    unfold stepG
    by_cases ht : t = 0
    · subst ht
      have hb := bt_le u 0
      rw [h0 rfl, beq_f (show ¬ bt u 0 = 2 by omega)]
      rfl
    · have hb : Nat.blt 0 t = true := by simp [Nat.blt_eq]; omega
      rw [h1 (by omega), hb]
      cases hq : Nat.beq (bt u t) (bt u (t - 1)) with
      | true =>
        have := beq_eq hq
        simp only [Bool.true_and, cond_true]
        rw [this]
      | false => rfl
theorem acr_row {u : Nat} (hu : u < 65536) (m : Nat) : (seqR (bt u) 16 (0, m)).2 = max m (acr u) := by
  have h : ∀ j, j < 16 → acOk j = true := fun j hj => by
    rcases (show j = 0 ∨ j = 1 ∨ j = 2 ∨ j = 3 ∨ j = 4 ∨ j = 5 ∨ j = 6 ∨ j = 7 ∨ j = 8 ∨ j = 9 ∨ j = 10 ∨ j = 11 ∨ j = 12 ∨ j = 13 ∨ j = 14 ∨ j = 15 by omega) with rfl | rfl | rfl | rfl | rfl | rfl | rfl | rfl | rfl | rfl | rfl | rfl | rfl | rfl | rfl | rfl
    · exact ac_0
    · exact ac_1
    · exact ac_2
    · exact ac_3
    · exact ac_4
    · exact ac_5
    · exact ac_6
    · exact ac_7
    · exact ac_8
    · exact ac_9
    · exact ac_10
    · exact ac_11
    · exact ac_12
    · exact ac_13
    · exact ac_14
    · exact ac_15
  have h := h (u / 4096) (by omega)
  unfold acOk at h
  have h1 := List.all_eq_true.mp h (u % 4096 / 64) (List.mem_range.mpr (by omega))
  have h2 := List.all_eq_true.mp h1 (u % 64) (List.mem_range.mpr (by omega))
  have h3 := beq_eq h2
  rw [show 4096 * (u / 4096) + (64 * (u % 4096 / 64) + u % 64) = u by omega] at h3
  have h4 := rowQ_eq u (0, 0) 16 0 2 (fun _ => rfl) (fun z => absurd z (by omega))
  rw [(seq_m (bt u) m 16).2, h3]
  congr 1
  rw [← h4]
  show rowQ 16 (u / 2 ^ 0) 2 0 0 = rowQ 16 u 2 0 0
  rw [Nat.pow_zero, Nat.div_one]
