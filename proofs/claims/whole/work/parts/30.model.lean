section MOD
variable {X : Xs} {h : Hp} {Q : Qt} {V : Vw}
/-- the row that pick i weaves -/
abbrev rw' (V : Vw) (i : Nat) : Nat := up V (V 1 (V 4 i))
theorem rw_lt (V : Vw) (i : Nat) : rw' V i < 65536 := up_lt V _ 16 (by decide)
theorem t_holesOf (v : okV V) (rm : RM V h 53) {i : Nat} (hi : i < V 0 1) (q : Q (some (.int (nI (V 1 (V 4 i))))) h) : Go X m_X7_holesOf 0 [.ref 1, .int (nI i)] [] h Q := by
  have h1 := v.1
  have h2 := v.2.2.2.1 i hi
  refine vg ⟨40 + i, nI_add 40 i, by omega, 4 + V 4 i, ?_, by omega, ?_⟩
  · show nI 4 + h.1 53 (40 + i) = _
    rw [rm.2.2.2.1 i hi]; exact nI_add 4 _
  · show Q (some (.int (h.1 53 (4 + V 4 i)))) h
    rw [(rm.2.1 _ h2).1]; exact q
theorem t_rowOf (v : okV V) (rm : RM V h 53) {i : Nat} (hi : i < V 0 1) (q : Q (some (.int (nI (rw' V i)))) h) : Go X m_X7_rowOf 0 [.ref 1, .int (nI i)] [] h Q :=
  vg (t_holesOf v rm hi (vg (t_upBy v rm (v.2.1 _ (v.2.2.2.1 i hi)).1 (vg q))))
/-- the reference's cloth -/
def Mc (V : Vw) (f : Nat → Nat → Int32) (n : Nat) : Prop := ∀ i, i < n → f 58 i = nI (rw' V i)
theorem t_weaves (v : okV V) (rm : RM V h 53) (q : ∀ f : Nat → Nat → Int32, Mc V f (V 0 1) → (∀ c, c ≠ 58 → f c = h.1 c) → Q none (f, h.2)) : Go X m_X7_weaves 0 [.ref 1, .null] [] h Q := by
  have h1 := v.1
  refine vc_ok (st := [2]) 40 ?_
  refine down (fun k => ∀ f : Nat → Nat → Int32, Mc V f k → (∀ c, c ≠ 58 → f c = h.1 c) → Go X m_X7_weaves 2 [.ref 1, .int (nI k)] [] (f, h.2) Q) (V 0 1) ?_ ?_ 0 (by omega) h.1 (fun i hi => absurd hi (by omega)) (fun _ _ => rfl)
  · intro f m1 m2
    exact vg ⟨1, rfl, by decide, br_t (by show f 53 1 ≤ _; rw [m2 53 (by decide), rm.1.2.1]; exact Int32.le_refl _) (q f m1 m2)⟩
  · intro k hk ih f m1 m2
    have rm' : RM V (f, h.2) 53 := rm_cg rm (m2 53 (by decide))
    refine vg ⟨1, rfl, by decide, br_f (by show ¬ f 53 1 ≤ _; rw [m2 53 (by decide), rm.1.2.1]; exact nI_ge hk (by omega)) (t_rowOf v rm' hk (vc_ok (st := [2]) 40 ⟨k, rfl, by omega, ?_⟩))⟩
    have := ih (up2 f 58 k (nI (rw' V k))) (fun i hi => by
      by_cases e : i = k
      · subst e; rw [u_at]
      · rw [u_ne e]; exact m1 i (by omega)) (fun c hc => by rw [up2_ne hc]; exact m2 c hc)
    rw [← nI_1] at this
    exact this
def fewP (V : Vw) (n : Nat) : Prop := ∀ i, i < V 0 1 → pop (rw' V i) ≤ n
def evenP (V : Vw) : Prop := ∀ i, i < V 0 1 → ¬ pop (rw' V i) % 2 = 1
def rotN (a : Nat) : Nat := ((a * 2) &&& 255) ||| a / 128
def stepP (V : Vw) : Prop := ∀ i, 1 ≤ i → i < V 0 1 → V 1 (V 4 i) = rotN (V 1 (V 4 (i - 1)))
def turnP (V : Vw) : Prop := ∀ i, i < V 0 1 → rw' V i = rw' V (V 0 1 - 1 - i)
theorem t_hasFew (v : okV V) (rm : RM V h 53) (mc : Mc V h.1 (V 0 1)) {n : Nat} (hn : n ≤ 16) (a : fewP V n → Q (some (.int 1)) h) (b : ¬ fewP V n → Q (some (.int 0)) h) : Go X m_X7_hasFew 0 [.ref 1, .int (nI n), .null] [] h Q := by
  have h1 := v.1
  refine vc_ok (st := [2]) 40 ?_
  refine down (fun k => (∀ i, i < k → pop (rw' V i) ≤ n) → Go X m_X7_hasFew 2 [.ref 1, .int (nI n), .int (nI k)] [] h Q) (V 0 1) ?_ ?_ 0 (by omega) (fun i hi => absurd hi (by omega))
  · exact fun p => vg ⟨1, rfl, by decide, br_t (by show h.1 53 1 ≤ _; rw [rm.1.2.1]; exact Int32.le_refl _) ⟨Or.inr rfl, a p⟩⟩
  · intro k hk ih p
    refine vg ⟨1, rfl, by decide, br_f (by show ¬ h.1 53 1 ≤ _; rw [rm.1.2.1]; exact nI_ge hk (by omega)) ⟨k, rfl, by omega, ?_⟩⟩
    show Go X m_X7_ones 0 [.int (h.1 58 k), .null, .null] [] h _
    rw [mc k hk]
    have hp : pop (rw' V k) ≤ 16 := popF_le (rw' V k) 16
    refine t_onesN (Nat.lt_trans (rw_lt V k) (by decide)) ?_
    by_cases e : pop (rw' V k) ≤ n
    · refine vc_ok (st := [2]) 40 (br_t (nI_le e (by omega)) ?_)
      have := ih (fun i hi => by
        by_cases e2 : i = k
        · subst e2; exact e
        · exact p i (by omega))
      rw [← nI_1] at this
      exact this
    · exact vg (br_f (nI_ge (by omega) (by omega)) ⟨Or.inl rfl, b (fun z => e (z k hk))⟩)
theorem t_isEvenM (v : okV V) (rm : RM V h 53) (mc : Mc V h.1 (V 0 1)) (a : evenP V → Q (some (.int 1)) h) (b : ¬ evenP V → Q (some (.int 0)) h) : Go X m_X7_isEven 0 [.ref 1, .null] [] h Q := by
  have h1 := v.1
  refine vc_ok (st := [2]) 40 ?_
  refine down (fun k => (∀ i, i < k → ¬ pop (rw' V i) % 2 = 1) → Go X m_X7_isEven 2 [.ref 1, .int (nI k)] [] h Q) (V 0 1) ?_ ?_ 0 (by omega) (fun i hi => absurd hi (by omega))
  · exact fun p => vg ⟨1, rfl, by decide, br_t (by show h.1 53 1 ≤ _; rw [rm.1.2.1]; exact Int32.le_refl _) ⟨Or.inr rfl, a p⟩⟩
  · intro k hk ih p
    refine vg ⟨1, rfl, by decide, br_f (by show ¬ h.1 53 1 ≤ _; rw [rm.1.2.1]; exact nI_ge hk (by omega)) ⟨k, rfl, by omega, ?_⟩⟩
    show Go X m_X7_ones 0 [.int (h.1 58 k), .null, .null] [] h _
    rw [mc k hk]
    have hp : pop (rw' V k) ≤ 16 := popF_le (rw' V k) 16
    have er : nI (pop (rw' V k)) - nI (pop (rw' V k)) / nI 2 * nI 2 = nI (pop (rw' V k) % 2) := pk_rem (by omega) (by decide) (by decide)
    refine t_onesN (Nat.lt_trans (rw_lt V k) (by decide)) ?_
    by_cases e : pop (rw' V k) % 2 = 1
    · refine vg ⟨by decide, brn_f ?_ ⟨Or.inl rfl, b (fun z => z k hk e)⟩⟩
      show nI (pop (rw' V k)) - nI (pop (rw' V k)) / nI 2 * nI 2 = nI 1
      rw [er, e]
    · refine vc_ok (st := [2]) 40 ⟨by decide, brn_t ?_ ?_⟩
      · show ¬ nI (pop (rw' V k)) - nI (pop (rw' V k)) / nI 2 * nI 2 = nI 1
        rw [er, nI_eq (by omega) (by decide)]; exact e
      · have := ih (fun i hi => by
          by_cases e2 : i = k
          · subst e2; exact e
          · exact p i (by omega))
        rw [← nI_1] at this
        exact this
theorem rotM : ∀ a, a < 256 → (nI a <<< (nI 1 &&& 31) &&& nI 255) ||| nI a >>> (nI 7 &&& 31) = nI (rotN a) := by decide +kernel
theorem rotC : ∀ a, a < 256 → (nI a <<< (nI 1 &&& 31) ||| nI a >>> (nI 7 &&& 31)) &&& nI 255 = nI (rotN a) := by decide +kernel
theorem rot_lt : ∀ a, a < 256 → rotN a < 256 := by decide +kernel
theorem t_stepsM (v : okV V) (rm : RM V h 53) (a : stepP V → Q (some (.int 1)) h) (b : ¬ stepP V → Q (some (.int 0)) h) : Go X m_X7_steps 0 [.ref 1, .null, .null] [] h Q := by
  have h1 := v.1
  have key : ∀ k, k ≤ V 0 1 → ∀ z : Value, (∀ i, 1 ≤ i → i < k + 1 → i < V 0 1 → V 1 (V 4 i) = rotN (V 1 (V 4 (i - 1)))) → Go X m_X7_steps 2 [.ref 1, .int (nI (k + 1)), z] [] h Q := by
    refine down _ (V 0 1) ?_ ?_
    · intro z p
      exact vg ⟨1, rfl, by decide, br_t (by show h.1 53 1 ≤ _; rw [rm.1.2.1]; exact nI_le (by omega) (by omega)) ⟨Or.inr rfl, a (fun i h1 h2 => p i h1 (by omega) h2)⟩⟩
    · intro k hk ih z p
      by_cases hk1 : k + 1 < V 0 1
      case neg => exact vg ⟨1, rfl, by decide, br_t (by show h.1 53 1 ≤ _; rw [rm.1.2.1]; exact nI_le (by omega) (by omega)) ⟨Or.inr rfl, a (fun i h1 h2 => p i h1 (by omega) h2)⟩⟩
      have hc := (v.2.1 _ (v.2.2.2.1 k hk)).1
      have hd := (v.2.1 _ (v.2.2.2.1 (k + 1) hk1)).1
      refine vg ⟨1, rfl, by decide, br_f (by show ¬ h.1 53 1 ≤ _; rw [rm.1.2.1]; exact nI_ge hk1 (by omega)) ?_⟩
      show Go X m_X7_holesOf 0 [.ref 1, .int (nI (k + 1) - 1)] [] h _
      rw [nI_pred]
      refine t_holesOf v rm hk (vg (t_holesOf v rm hk1 ?_))
      by_cases e : V 1 (V 4 (k + 1)) = rotN (V 1 (V 4 k))
      · refine vc_ok (st := [2]) 40 (br_t ?_ ?_)
        · show nI (V 1 (V 4 (k + 1))) = (nI (V 1 (V 4 k)) <<< (nI 1 &&& 31) &&& nI 255) ||| nI (V 1 (V 4 k)) >>> (nI 7 &&& 31)
          rw [rotM _ hc, e]
        · have := ih (.int (nI (V 1 (V 4 k)))) (fun i i1 i2 i3 => by
            by_cases e2 : i = k + 1
            · subst e2; exact e
            · exact p i i1 (by omega) i3)
          rw [← nI_1] at this
          exact this
      · refine vg (br_f ?_ ⟨Or.inl rfl, b (fun z => e (z (k + 1) (by omega) hk1))⟩)
        show ¬ nI (V 1 (V 4 (k + 1))) = (nI (V 1 (V 4 k)) <<< (nI 1 &&& 31) &&& nI 255) ||| nI (V 1 (V 4 k)) >>> (nI 7 &&& 31)
        have := rot_lt _ hc
        rw [rotM _ hc, nI_eq (by omega) (by omega)]
        exact e
  exact vc_ok (st := [2]) 40 (key 0 (by omega) .null (fun i i1 i2 _ => absurd i2 (by omega)))
theorem t_isTurned (v : okV V) (rm : RM V h 53) (mc : Mc V h.1 (V 0 1)) (a : turnP V → Q (some (.int 1)) h) (b : ¬ turnP V → Q (some (.int 0)) h) : Go X m_X7_isTurned 0 [.ref 1, .null] [] h Q := by
  have h1 := v.1
  refine vc_ok (st := [2]) 40 ?_
  refine down (fun k => (∀ i, i < k → rw' V i = rw' V (V 0 1 - 1 - i)) → Go X m_X7_isTurned 2 [.ref 1, .int (nI k)] [] h Q) (V 0 1) ?_ ?_ 0 (by omega) (fun i hi => absurd hi (by omega))
  · exact fun p => vg ⟨1, rfl, by decide, br_t (by show h.1 53 1 ≤ _; rw [rm.1.2.1]; exact Int32.le_refl _) ⟨Or.inr rfl, a p⟩⟩
  · intro k hk ih p
    have e3 : h.1 53 1 - 1 - nI k = nI (V 0 1 - 1 - k) := by
      obtain ⟨m, hm⟩ : ∃ m, V 0 1 = m + 1 := ⟨V 0 1 - 1, by omega⟩
      rw [rm.1.2.1, hm, nI_pred, pk_sub (by omega), Nat.add_sub_cancel]
    refine vc_ok (st := [2]) 40 ⟨1, rfl, by decide, br_f (by show ¬ h.1 53 1 ≤ _; rw [rm.1.2.1]; exact nI_ge hk (by omega)) ⟨k, rfl, by omega, 1, rfl, by decide, V 0 1 - 1 - k, e3, by omega, ?_⟩⟩
    have l1 := rw_lt V k
    have l2 := rw_lt V (V 0 1 - 1 - k)
    by_cases e : rw' V k = rw' V (V 0 1 - 1 - k)
    · refine br_t (by show h.1 58 k = h.1 58 (V 0 1 - 1 - k); rw [mc k hk, mc _ (by omega), e]) ?_
      have := ih (fun i hi => by
        by_cases e2 : i = k
        · subst e2; exact e
        · exact p i (by omega))
      rw [← nI_1] at this
      exact this
    · refine br_f (by show ¬ h.1 58 k = h.1 58 (V 0 1 - 1 - k); rw [mc k hk, mc _ (by omega), nI_eq (by omega) (by omega)]; exact e) ⟨Or.inl rfl, b (fun z => e (z k hk))⟩
end MOD
