section DWN
variable {X : Xs} {h : Hp} {Q : Qt} {V : Vw}
/-- the threads alike in k + 2 rows from row i on -/
def stN (V : Vw) : Nat → Nat → Nat
  | 0, i => ((rw' V i ^^^ rw' V (i + 1)) ^^^ 4294967295) &&& 65535
  | k + 1, i => stN V k i &&& stN V k (i + 1)
theorem stN_lt (V : Vw) : ∀ k i, stN V k i < 65536
  | 0, i => Nat.lt_of_le_of_lt Nat.and_le_right (by decide)
  | k + 1, i => and_lt (stN_lt V k i)
theorem stN_tb (V : Vw) : ∀ k i t, (stN V k i).testBit t = true ↔ t < 16 ∧ isRun (col V t) i (k + 2)
  | 0, i, t => by
    unfold stN
    rw [Nat.testBit_and, Nat.testBit_xor, Nat.testBit_xor, show (65535 : Nat) = 2 ^ 16 - 1 from rfl, Nat.testBit_two_pow_sub_one, show (4294967295 : Nat) = 2 ^ 32 - 1 from rfl, Nat.testBit_two_pow_sub_one, bt_tb, bt_tb]
    have d1 := bt_le (rw' V i) t
    have d2 := bt_le (rw' V (i + 1)) t
    have hr : isRun (col V t) i 2 ↔ bt (rw' V i) t = bt (rw' V (i + 1)) t := by
      constructor
      · intro z
        exact z 0 (by omega)
      · intro z j hj
        rw [show j = 0 by omega]
        exact z
    rw [hr]
    by_cases ht : t < 16
    · have ht2 : t < 32 := by omega
      rcases (show bt (rw' V i) t = 0 ∨ bt (rw' V i) t = 1 by omega) with e1 | e1 <;> rcases (show bt (rw' V (i + 1)) t = 0 ∨ bt (rw' V (i + 1)) t = 1 by omega) with e2 | e2 <;> simp [ht, ht2, e1, e2]
    · simp [ht]
  | k + 1, i, t => by
    unfold stN
    rw [Nat.testBit_and, Bool.and_eq_true, stN_tb V k i t, stN_tb V k (i + 1) t]
    constructor
    · rintro ⟨⟨a, b⟩, -, c⟩
      refine ⟨a, fun j hj => ?_⟩
      by_cases e : j + 1 < k + 2
      · exact b j e
      · have := c (j - 1) (by omega)
        rw [show i + 1 + (j - 1) = i + j by omega] at this
        exact this
    · rintro ⟨a, b⟩
      refine ⟨⟨a, fun j hj => b j (by omega)⟩, a, fun j hj => ?_⟩
      have := b (j + 1) (by omega)
      rw [show i + (j + 1) = i + 1 + j by omega] at this
      exact this
theorem ne0_tb {a : Nat} : a ≠ 0 ↔ ∃ t, a.testBit t = true := by
  constructor
  · intro h
    exact Nat.exists_testBit_of_ne_zero h
  · rintro ⟨t, ht⟩ rfl
    simp at ht
def anyN (V : Vw) (k n : Nat) : Nat := orF (stN V k) n
theorem any_lt (V : Vw) (k n : Nat) : anyN V k n < 2 ^ 16 := orF_lt (fun i _ => stN_lt V k i)
theorem any_iff {L : Nat} (hL : 1 ≤ L) : anyN V (L - 1) (V 0 1 - L) ≠ 0 ↔ RunV V (L + 1) 16 := by
  rw [ne0_tb]
  unfold anyN RunV
  constructor
  · rintro ⟨t, ht⟩
    obtain ⟨i, hi, h2⟩ := orF_tb.mp ht
    obtain ⟨a, b⟩ := (stN_tb V (L - 1) i t).mp h2
    rw [show L - 1 + 2 = L + 1 by omega] at b
    exact ⟨t, a, i, by omega, b⟩
  · rintro ⟨t, a, i, hi, b⟩
    refine ⟨t, orF_tb.mpr ⟨i, by omega, (stN_tb V (L - 1) i t).mpr ⟨a, ?_⟩⟩⟩
    rw [show L - 1 + 2 = L + 1 by omega]
    exact b
theorem cl_cg {f g : Nat → Nat → Int32} (c : Cl V f) (e : ∀ q, clC q → g q = f q) : Cl V g := by
  have k : ∀ q, clC q → g q = f q := e
  unfold Cl Hk Cc
  rw [k 5 (by unfold clC; omega), k 40 (by unfold clC; omega), k 36 (by unfold clC; omega), k 37 (by unfold clC; omega), k 38 (by unfold clC; omega), k 39 (by unfold clC; omega), k 41 (by unfold clC; omega)]
  exact c
theorem t_longestDown (v : okV V) (cl : Cl V h.1) (q : ∀ f : Nat → Nat → Int32, (∀ c, c ≠ 42 → f c = h.1 c) → Q (some (.int (nI (tgtV V 16)))) (f, h.2)) : Go X m_X0_longestDown 0 [.ref 5, .null, .null, .null] [] h Q := by
  have h1 := v.1
  have CL : ∀ f : Nat → Nat → Int32, (∀ c, c ≠ 42 → f c = h.1 c) → Cl V f := fun f e => cl_cg cl (fun q hq => e q (by unfold clC at hq; omega))
  have R6 : ∀ f : Nat → Nat → Int32, (∀ c, c ≠ 42 → f c = h.1 c) → f 5 6 = nI (V 0 1) := fun f e => (CL f e).2.1
  -- the while loop
  have W : ∀ m L, L + m = 21 → 1 ≤ L → L ≤ V 0 1 → RunV V L 16 → ∀ (f : Nat → Nat → Int32) (z : Value), (∀ c, c ≠ 42 → f c = h.1 c) → (∀ i, i + L < V 0 1 → f 42 i = nI (stN V (L - 1) i)) → Go X m_X0_longestDown 62 [.ref 5, .int (nI (anyN V (L - 1) (V 0 1 - L))), .int (nI L), z] [] (f, h.2) Q := by
    intro m
    induction m with
    | zero => intro L hL h2 h3; omega
    | succ m ih =>
      intro L hL h2 h3 hrun f z f1 f2
      have ha := any_lt V (L - 1) (V 0 1 - L)
      have done : ¬ RunV V (L + 1) 16 → tgtV V 16 = L := fun hn => by
        have g1 := (tgt_iff V h2 16).mpr hrun
        have g2 : ¬ (L + 1 ≤ tgtV V 16) := fun z => hn ((tgt_iff V (show 1 ≤ L + 1 by omega) 16).mp z)
        omega
      by_cases e : anyN V (L - 1) (V 0 1 - L) = 0
      · have hd := done (fun z => (any_iff h2).mpr z e)
        rw [e]
        have := q f f1
        rw [hd] at this
        exact vg (br_t rfl this)
      · have hrun2 := (any_iff h2).mp e
        have hlt : L < V 0 1 := by
          obtain ⟨t, -, i, hi, -⟩ := hrun2
          omega
        refine vc_ok (st := [81]) 40 (br_f (nI_ne0 (by omega) (by omega)) (br_f (by show ¬ f 5 6 ≤ _; rw [R6 f f1]; exact nI_ge hlt (by omega)) ?_))
        show Go X m_X0_longestDown 81 [.ref 5, .int (nI 0), .int (nI L + 1), .int (nI 0)] [] (f, h.2) Q
        rw [nI_1]
        -- the inner loop
        refine down (fun j => ∀ g : Nat → Nat → Int32, (∀ c, c ≠ 42 → g c = h.1 c) → (∀ i, i < j → g 42 i = nI (stN V L i)) → (∀ i, j ≤ i → i + L < V 0 1 → g 42 i = nI (stN V (L - 1) i)) → Go X m_X0_longestDown 81 [.ref 5, .int (nI (anyN V L j)), .int (nI (L + 1)), .int (nI j)] [] (g, h.2) Q) (V 0 1 - (L + 1)) ?_ ?_ 0 (by omega) f f1 (fun i hi => absurd hi (by omega)) (fun i _ hi => f2 i hi)
        · intro g g1 g2 g3
          refine vc_ok (st := [62]) 40 (br_t ?_ ?_)
          · show g 5 6 ≤ nI (V 0 1 - (L + 1)) + nI (L + 1)
            rw [R6 g g1, nI_add, show V 0 1 - (L + 1) + (L + 1) = V 0 1 by omega]
            exact Int32.le_refl _
          · have := ih (L + 1) (by omega) (by omega) (by omega) hrun2 g (.int (nI (V 0 1 - (L + 1)))) g1 (fun i hi => by rw [Nat.add_sub_cancel]; exact g2 i (by omega))
            rw [Nat.add_sub_cancel] at this
            exact this
        · intro j hj ih2 g g1 g2 g3
          have es : stN V L j = stN V (L - 1) j &&& stN V (L - 1) (j + 1) := by
            obtain ⟨k, rfl⟩ : ∃ k, L = k + 1 := ⟨L - 1, by omega⟩
            rfl
          have e1 : g 42 j &&& g 42 (j + 1) = nI (stN V L j) := by
            rw [g3 j (by omega) (by omega), g3 (j + 1) (by omega) (by omega), nI_and, es]
          refine vc_ok (st := [81]) 40 (br_f ?_ ⟨j, rfl, by omega, j + 1, nI_add j 1, by omega, j, rfl, by omega, j, rfl, by omega, ?_⟩)
          · show ¬ g 5 6 ≤ nI j + nI (L + 1)
            rw [R6 g g1, nI_add]
            exact nI_ge (by omega) (by omega)
          · show Go X m_X0_longestDown 81 [.ref 5, .int (nI (anyN V L j) ||| up2 g 42 j (g 42 j &&& g 42 (j + 1)) 42 j), .int (nI (L + 1)), .int (nI j + 1)] [] (up2 g 42 j (g 42 j &&& g 42 (j + 1)), h.2) Q
            rw [e1, u_at, nI_or, nI_1]
            exact ih2 _ (fun c hc => by rw [up2_ne hc]; exact g1 c hc) (fun i hi => by
              by_cases e : i = j
              · subst e; rw [u_at]
              · rw [u_ne e]; exact g2 i (by omega)) (fun i h1 h2 => by
              rw [u_ne (by omega)]; exact g3 i (by omega) h2)
  -- the first loop
  have F : ∀ j, j ≤ V 0 1 - 1 → ∀ (g : Nat → Nat → Int32) (z : Value), (∀ c, c ≠ 42 → g c = h.1 c) → (∀ i, i < j → g 42 i = nI (stN V 0 i)) → Go X m_X0_longestDown 4 [.ref 5, .int (nI (anyN V 0 j)), .int (nI j), z] [] (g, h.2) Q := by
    refine down _ (V 0 1 - 1) ?_ ?_
    · intro g z g1 g2
      have c0 : g 5 6 ≤ nI (V 0 1 - 1) + 1 := by
        rw [R6 g g1, nI_1]
        exact nI_le (by omega) (by omega)
      by_cases e : V 0 1 = 0
      · have e5 : (if nI 1 < g 5 6 then nI 1 else g 5 6) = nI 0 := by rw [R6 g g1, e]; rfl
        refine vc_ok (st := [62]) 40 (br_t c0 ?_)
        show Go X m_X0_longestDown 62 [.ref 5, .int (nI (anyN V 0 (V 0 1 - 1))), .int (if nI 1 < g 5 6 then nI 1 else g 5 6), z] [] (g, h.2) Q
        rw [e5, show anyN V 0 (V 0 1 - 1) = 0 by rw [e]; rfl]
        have ht : tgtV V 16 = 0 := by
          rcases Nat.eq_zero_or_pos (tgtV V 16) with w | w
          · exact w
          · obtain ⟨t, -, i, hi, -⟩ := (tgt_iff V (Nat.le_refl 1) 16).mp w
            omega
        have := q g g1
        rw [ht] at this
        exact vg (br_t rfl this)
      · have e5 : (if nI 1 < g 5 6 then nI 1 else g 5 6) = nI 1 := by
          rw [R6 g g1]
          by_cases w : 1 < V 0 1
          · rw [if_pos (nI_lt w (by omega))]
          · rw [show V 0 1 = 1 by omega]; rfl
        refine vc_ok (st := [62]) 40 (br_t c0 ?_)
        show Go X m_X0_longestDown 62 [.ref 5, .int (nI (anyN V 0 (V 0 1 - 1))), .int (if nI 1 < g 5 6 then nI 1 else g 5 6), z] [] (g, h.2) Q
        rw [e5]
        exact W 20 1 (by omega) (by omega) (by omega) ⟨0, by omega, 0, by omega, fun j hj => absurd hj (by omega)⟩ g z g1 (fun i hi => g2 i (by omega))
    · intro j hj ih g z g1 g2
      have hl := CL g g1
      have c0 : ¬ g 5 6 ≤ nI j + 1 := by
        rw [R6 g g1, nI_1]
        exact nI_ge (by omega) (by omega)
      refine vg (br_f c0 (t_upIn v hl (by omega) (vg ?_)))
      show Go X m_X0_upIn 0 [.ref 5, .int (nI j + 1)] [] (g, h.2) _
      rw [nI_1]
      refine t_upIn v hl (by omega) (vc_ok (st := [4]) 40 ⟨j, rfl, by omega, j, rfl, by omega, ?_⟩)
      have e1 : ((nI (rw' V j) ^^^ nI (rw' V (j + 1))) ^^^ (-1)) &&& nI 65535 = nI (stN V 0 j) := by
        rw [nI_xor, show (-1 : Int32) = nI 4294967295 from rfl, nI_xor, nI_and]
        rfl
      show Go X m_X0_longestDown 4 [.ref 5, .int (nI (anyN V 0 j) ||| up2 g 42 j (((nI (rw' V j) ^^^ nI (rw' V (j + 1))) ^^^ (-1)) &&& nI 65535) 42 j), .int (nI j + 1), z] [] (up2 g 42 j (((nI (rw' V j) ^^^ nI (rw' V (j + 1))) ^^^ (-1)) &&& nI 65535), h.2) Q
      rw [e1, u_at, nI_or, nI_1]
      exact ih _ z (fun c hc => by rw [up2_ne hc]; exact g1 c hc) (fun i hi => by
        by_cases e : i = j
        · subst e; rw [u_at]
        · rw [u_ne e]; exact g2 i (by omega))
  exact vc_ok (st := [4]) 40 (F 0 (by omega) h.1 .null (fun _ _ => rfl) (fun i hi => absurd hi (by omega)))
end DWN
