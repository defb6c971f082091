section FST
variable {X : Xs} {h : Hp} {Q : Qt} {V : Vw}
/-- a law of kind k and number n is kept -/
def kpP (V : Vw) (k n : Nat) : Prop := match k with
  | 0 => fewP V n
  | 1 => fewP V n ∧ evenP V
  | 2 => lngV V (V 0 1) ≤ n
  | 3 => fewP V n ∧ evenP V ∧ stepP V
  | 4 => lngV V (V 0 1) ≤ n ∧ tgtV V 16 ≤ n
  | _ => (fewP V n ∧ evenP V ∧ stepP V) ∨ turnP V
theorem gt_n {a n : Nat} (ha : a ≤ 31) (hn : n ≤ 31) : (nI n < nI a) ↔ n < a := nI_ltI (by omega) (by omega)
theorem sw0 {k : Nat} (hk : k < 6) : (nI k).toInt = k := nT (by omega)
theorem t_keeps (v : okV V) (cl : Cl V h.1) {k n : Nat} (hk : k < 6) (hn : n ≤ 16) (a : kpP V k n → ∀ f : Nat → Nat → Int32, (∀ c, c ≠ 42 → f c = h.1 c) → Q (some (.int 1)) (f, h.2)) (b : ¬ kpP V k n → ∀ f : Nat → Nat → Int32, (∀ c, c ≠ 42 → f c = h.1 c) → Q (some (.int 0)) (f, h.2)) : Go X m_X0_keeps 0 [.ref 5, .int (nI k), .int (nI n)] [] h Q := by
  have id0 : ∀ c, c ≠ 42 → h.1 c = h.1 c := fun _ _ => rfl
  have ll := lng_le V (V 0 1)
  have lt := tgt_le v 16
  have ek := sw0 hk
  refine vc_ok (st := [40, 46, 67, 81, 109, 131, 166]) 40 ⟨⟨fun c => ?_, fun c => ?_, fun c => ?_, fun c => ?_, fun c => ?_, fun c => ?_, trivial⟩, fun c => ?_⟩
  · have e : k = 0 := by rw [ek] at c; omega
    subst e
    exact vg (t_hasAtMostUp v cl hn (fun p => vg ⟨Or.inr rfl, a p h.1 id0⟩) (fun p => vg ⟨Or.inl rfl, b p h.1 id0⟩))
  · have e : k = 1 := by rw [ek] at c; omega
    subst e
    exact vg (t_hasAtMostUp v cl hn (fun p => vg (br_f (by decide) (t_isEvenC v cl (fun p2 => vg (br_f (by decide) ⟨Or.inr rfl, a ⟨p, p2⟩ h.1 id0⟩)) (fun p2 => vg (br_t rfl ⟨Or.inl rfl, b (fun z => p2 z.2) h.1 id0⟩))))) (fun p => vg (br_t rfl ⟨Or.inl rfl, b (fun z => p z.1) h.1 id0⟩)))
  · have e : k = 2 := by rw [ek] at c; omega
    subst e
    refine vg (t_longestAcross v cl ?_)
    by_cases p : lngV V (V 0 1) ≤ n
    · exact vg (br_f (by rw [gt_n (by omega) (by omega)]; omega) ⟨Or.inr rfl, a p h.1 id0⟩)
    · exact vg (br_t (by rw [gt_n (by omega) (by omega)]; omega) ⟨Or.inl rfl, b p h.1 id0⟩)
  · have e : k = 3 := by rw [ek] at c; omega
    subst e
    exact vg (t_hasAtMostUp v cl hn (fun p => vg (br_f (by decide) (t_isEvenC v cl (fun p2 => vg (br_f (by decide) (t_isStepping v cl (fun p3 => vg (br_f (by decide) ⟨Or.inr rfl, a ⟨p, p2, p3⟩ h.1 id0⟩)) (fun p3 => vg (br_t rfl ⟨Or.inl rfl, b (fun z => p3 z.2.2) h.1 id0⟩))))) (fun p2 => vg (br_t rfl ⟨Or.inl rfl, b (fun z => p2 z.2.1) h.1 id0⟩))))) (fun p => vg (br_t rfl ⟨Or.inl rfl, b (fun z => p z.1) h.1 id0⟩)))
  · have e : k = 4 := by rw [ek] at c; omega
    subst e
    refine vg (t_longestAcross v cl ?_)
    by_cases p : lngV V (V 0 1) ≤ n
    · refine vg (br_f (by rw [gt_n (by omega) (by omega)]; omega) (t_longestDown v cl (fun f hf => ?_)))
      by_cases p2 : tgtV V 16 ≤ n
      · exact vg (br_f (by rw [gt_n (by omega) (by omega)]; omega) ⟨Or.inr rfl, a ⟨p, p2⟩ f hf⟩)
      · exact vg (br_t (by rw [gt_n (by omega) (by omega)]; omega) ⟨Or.inl rfl, b (fun z => p2 z.2) f hf⟩)
    · exact vg (br_t (by rw [gt_n (by omega) (by omega)]; omega) ⟨Or.inl rfl, b (fun z => p z.1) h.1 id0⟩)
  · have e : k = 5 := by rw [ek] at c; omega
    subst e
    refine vg (t_isTurning v cl (fun p => vg (brn_t (by decide) ⟨Or.inr rfl, a (Or.inr p) h.1 id0⟩)) (fun p => vg (brn_f rfl ?_)))
    exact t_hasAtMostUp v cl hn (fun p1 => vg (br_f (by decide) (t_isEvenC v cl (fun p2 => vg (br_f (by decide) (t_isStepping v cl (fun p3 => vg (br_f (by decide) ⟨Or.inr rfl, a (Or.inl ⟨p1, p2, p3⟩) h.1 id0⟩)) (fun p3 => vg (br_t rfl ⟨Or.inl rfl, b (fun z => z.elim (fun z => p3 z.2.2) p) h.1 id0⟩))))) (fun p2 => vg (br_t rfl ⟨Or.inl rfl, b (fun z => z.elim (fun z => p2 z.2.1) p) h.1 id0⟩))))) (fun p1 => vg (br_t rfl ⟨Or.inl rfl, b (fun z => z.elim (fun z => p1 z.1) p) h.1 id0⟩))
  · rw [ek] at c
    omega
theorem t_isKeptBy (v : okV V) (rm : RM V h 53) (mc : Mc V h.1 (V 0 1)) {l : Nat} (hl : l < V 0 2) (a : kpP V (V 5 l) (V 6 l) → Q (some (.int 1)) h) (b : ¬ kpP V (V 5 l) (V 6 l) → Q (some (.int 0)) h) : Go X m_X7_isKeptBy 0 [.ref 1, .int (nI l), .null] [] h Q := by
  obtain ⟨g1, g2, g3⟩ := rm.2.2.2.2 l hl
  obtain ⟨hk, n0, hn, -⟩ := v.2.2.2.2 l hl
  have h1 := v.1
  have ll := lng_le V (V 0 1)
  have lt := tgt_le v 16
  refine vc_ok (st := [10]) 40 ⟨66 + l, nI_add 66 l, by omega, ?_⟩
  show Go X m_X7_isKeptBy 10 [.ref 1, .int (nI l), .int (h.1 53 (66 + l))] [] h Q
  rw [g2]
  generalize V 6 l = n at a b hn n0
  generalize V 5 l = k at a b hk g1
  have ek : (h.1 53 (60 + l)).toInt = k := by rw [g1]; exact sw0 hk
  refine vc_ok (st := [52, 73, 87, 115, 137, 172]) 40 ⟨60 + l, nI_add 60 l, by omega, ⟨fun c => ?_, fun c => ?_, fun c => ?_, fun c => ?_, fun c => ?_, trivial⟩, fun c => ?_⟩
  · have e : k = 1 := by have c : (h.1 53 (60 + l)).toInt = 1 := c; omega
    subst e
    exact vg (t_hasFew v rm mc hn (fun p => vg (br_f (by decide) (t_isEvenM v rm mc (fun p2 => vg (br_f (by decide) ⟨Or.inr rfl, a ⟨p, p2⟩⟩)) (fun p2 => vg (br_t rfl ⟨Or.inl rfl, b (fun z => p2 z.2)⟩))))) (fun p => vg (br_t rfl ⟨Or.inl rfl, b (fun z => p z.1)⟩)))
  · have e : k = 2 := by have c : (h.1 53 (60 + l)).toInt = 1 + 1 := c; omega
    subst e
    refine vg (t_longestM v rm mc ?_)
    by_cases p : lngV V (V 0 1) ≤ n
    · exact vg (br_f (by rw [gt_n (by omega) (by omega)]; omega) ⟨Or.inr rfl, a p⟩)
    · exact vg (br_t (by rw [gt_n (by omega) (by omega)]; omega) ⟨Or.inl rfl, b p⟩)
  · have e : k = 3 := by have c : (h.1 53 (60 + l)).toInt = 1 + 1 + 1 := c; omega
    subst e
    exact vg (t_hasFew v rm mc hn (fun p => vg (br_f (by decide) (t_isEvenM v rm mc (fun p2 => vg (br_f (by decide) (t_stepsM v rm (fun p3 => vg (br_f (by decide) ⟨Or.inr rfl, a ⟨p, p2, p3⟩⟩)) (fun p3 => vg (br_t rfl ⟨Or.inl rfl, b (fun z => p3 z.2.2)⟩))))) (fun p2 => vg (br_t rfl ⟨Or.inl rfl, b (fun z => p2 z.2.1)⟩))))) (fun p => vg (br_t rfl ⟨Or.inl rfl, b (fun z => p z.1)⟩)))
  · have e : k = 4 := by have c : (h.1 53 (60 + l)).toInt = 1 + 1 + 1 + 1 := c; omega
    subst e
    refine vg (t_longestM v rm mc ?_)
    by_cases p : lngV V (V 0 1) ≤ n
    · refine vg (br_f (by rw [gt_n (by omega) (by omega)]; omega) (t_tightest v rm mc ?_))
      by_cases p2 : tgtV V 16 ≤ n
      · exact vg (br_f (by rw [gt_n (by omega) (by omega)]; omega) ⟨Or.inr rfl, a ⟨p, p2⟩⟩)
      · exact vg (br_t (by rw [gt_n (by omega) (by omega)]; omega) ⟨Or.inl rfl, b (fun z => p2 z.2)⟩)
    · exact vg (br_t (by rw [gt_n (by omega) (by omega)]; omega) ⟨Or.inl rfl, b (fun z => p z.1)⟩)
  · have e : k = 5 := by have c : (h.1 53 (60 + l)).toInt = 1 + 1 + 1 + 1 + 1 := c; omega
    subst e
    have T : (turnP V → Q (some (.int 1)) h) → (¬ turnP V → Q (some (.int 0)) h) → Go X m_X7_isKeptBy 159 [.ref 1, .int (nI l), .int (nI n)] [] h Q := fun a b => vg (t_isTurned v rm mc (fun p => vg (br_f (by decide) ⟨Or.inr rfl, a p⟩)) (fun p => vg (br_t rfl ⟨Or.inl rfl, b p⟩)))
    exact vg (t_hasFew v rm mc hn (fun p => vg (br_f (by decide) (t_isEvenM v rm mc (fun p2 => vg (br_f (by decide) (t_stepsM v rm (fun p3 => vg (brn_t (by decide) ⟨Or.inr rfl, a (Or.inl ⟨p, p2, p3⟩)⟩)) (fun p3 => vc_ok (st := [159]) 40 (brn_f rfl (T (fun z => a (Or.inr z)) (fun z => b (fun w => w.elim (fun w => p3 w.2.2) z)))))))) (fun p2 => vc_ok (st := [159]) 40 (br_t rfl (T (fun z => a (Or.inr z)) (fun z => b (fun w => w.elim (fun w => p2 w.2.1) z)))))))) (fun p => vc_ok (st := [159]) 40 (br_t rfl (T (fun z => a (Or.inr z)) (fun z => b (fun w => w.elim (fun w => p w.1) z))))))
  · have e : k = 0 := by have c : (h.1 53 (60 + l)).toInt < 1 ∨ 5 < (h.1 53 (60 + l)).toInt := c; omega
    subst e
    exact vg (t_hasFew v rm mc hn (fun p => vg ⟨Or.inr rfl, a p⟩) (fun p => vg ⟨Or.inl rfl, b p⟩))
/-- law l is in force and broken -/
def brP (V : Vw) (l : Nat) : Prop := V 7 l = 1 ∧ ¬ kpP V (V 5 l) (V 6 l)
def firstB (V : Vw) (r : Int32) : Prop := (∃ l, l < V 0 2 ∧ brP V l ∧ (∀ i, i < l → ¬ brP V i) ∧ r = nI l) ∨ ((∀ i, i < V 0 2 → ¬ brP V i) ∧ r = -1)
theorem firstB_u {r s : Int32} (h1 : firstB V r) (h2 : firstB V s) : r = s := by
  rcases h1 with ⟨l, a1, a2, a3, a4⟩ | ⟨a1, a2⟩ <;> rcases h2 with ⟨m, b1, b2, b3, b4⟩ | ⟨b1, b2⟩
  · rcases Nat.lt_trichotomy l m with z | z | z
    · exact absurd a2 (b3 l z)
    · rw [a4, b4, z]
    · exact absurd b2 (a3 m z)
  · exact absurd a2 (b1 l a1)
  · exact absurd b2 (a1 m b1)
  · rw [a2, b2]
/-- the class: the cloth is woven by W, the laws are those of now, V, which W has too -/
theorem t_firstBrokenC {W : Vw} (w : okV W) (cl : Cl W h.1) (l0 : h.1 2 6 = nI (W 0 2)) (ls : ∀ l, l < W 0 2 → h.1 19 l = nI (W 5 l) ∧ h.1 20 l = nI (W 6 l) ∧ h.1 21 l = nI (W 7 l)) (q : ∀ r, firstB W r → ∀ f : Nat → Nat → Int32, (∀ c, c ≠ 42 → f c = h.1 c) → Q (some (.int r)) (f, h.2)) : Go X m_X0_firstBroken 0 [.ref 5, .ref 2, .null] [] h Q := by
  have h1 := w.1
  refine vc_ok (st := [2]) 40 ?_
  refine down (fun k => ∀ f : Nat → Nat → Int32, (∀ c, c ≠ 42 → f c = h.1 c) → (∀ i, i < k → ¬ brP W i) → Go X m_X0_firstBroken 2 [.ref 5, .ref 2, .int (nI k)] [] (f, h.2) Q) (W 0 2) ?_ ?_ 0 (by omega) h.1 (fun _ _ => rfl) (fun i hi => absurd hi (by omega))
  · intro f f1 p
    exact vg (br_t (by show f 2 6 ≤ _; rw [f1 2 (by decide), l0]; exact Int32.le_refl _) (q (-1) (Or.inr ⟨p, rfl⟩) f f1))
  · intro k hk ih f f1 p
    obtain ⟨c1, c2, c3⟩ := ls k hk
    obtain ⟨v1, v2, v3, v4⟩ := w.2.2.2.2 k hk
    have e7 : f 21 k = nI (W 7 k) := by rw [f1 21 (by decide), c3]
    have hlt : ¬ f 2 6 ≤ nI k := by rw [f1 2 (by decide), l0]; exact nI_ge hk (by omega)
    have nxt : ∀ g : Nat → Nat → Int32, (∀ c, c ≠ 42 → g c = h.1 c) → ¬ brP W k → Go X m_X0_firstBroken 2 [.ref 5, .ref 2, .int (nI k + 1)] [] (g, h.2) Q := fun g g1 z => by
      rw [nI_1]
      exact ih g g1 (fun i hi => by
        by_cases e : i = k
        · subst e; exact z
        · exact p i (by omega))
    by_cases e : W 7 k = 1
    · refine vg (br_f hlt ⟨k, rfl, by omega, brn_f (by show f 21 k = _; rw [e7, e]; rfl) ⟨k, rfl, by omega, k, rfl, by omega, ?_⟩⟩)
      show Go X m_X0_keeps 0 [.ref 5, .int (f 19 k), .int (f 20 k)] [] (f, h.2) _
      rw [f1 19 (by decide), f1 20 (by decide), c1, c2]
      refine t_keeps w (cl_cg cl (fun q hq => f1 q (by unfold clC at hq; omega))) v1 v3 (fun z g g1 => ?_) (fun z g g1 => ?_)
      · exact vc_ok (st := [2]) 40 (brn_t (by decide) (nxt g (fun c hc => (g1 c hc).trans (f1 c hc)) (fun y => y.2 z)))
      · exact vg (brn_f rfl (q (nI k) (Or.inl ⟨k, hk, ⟨e, z⟩, p, rfl⟩) g (fun c hc => (g1 c hc).trans (f1 c hc))))
    · exact vc_ok (st := [2]) 40 (br_f hlt ⟨k, rfl, by omega, brn_t (by show ¬ f 21 k = nI 1; rw [e7, nI_eq (by omega) (by decide)]; exact e) (nxt f f1 (fun y => e y.1))⟩)
theorem t_firstBrokenM (v : okV V) (rm : RM V h 53) (q : ∀ r, firstB V r → ∀ f : Nat → Nat → Int32, (∀ c, c ≠ 58 → f c = h.1 c) → Q (some (.int r)) (f, h.2)) : Go X m_X7_firstBroken 0 [.ref 1, .null] [] h Q := by
  have h1 := v.1
  refine vg (t_weaves v rm (fun f m1 f1 => vc_ok (st := [6]) 40 ?_))
  have rm' : RM V (f, h.2) 53 := rm_cg rm (f1 53 (by decide))
  refine down (fun k => (∀ i, i < k → ¬ brP V i) → Go X m_X7_firstBroken 6 [.ref 1, .int (nI k)] [] (f, h.2) Q) (V 0 2) ?_ ?_ 0 (by omega) (fun i hi => absurd hi (by omega))
  · intro p
    exact vg ⟨2, rfl, by decide, br_t (by show f 53 2 ≤ _; rw [show f 53 2 = nI (V 0 2) from rm'.1.2.2]; exact Int32.le_refl _) (q (-1) (Or.inr ⟨p, rfl⟩) f f1)⟩
  · intro k hk ih p
    obtain ⟨v1, v2, v3, v4⟩ := v.2.2.2.2 k hk
    have e7 : f 53 (72 + k) = nI (V 7 k) := (rm'.2.2.2.2 k hk).2.2
    have hlt : ¬ f 53 2 ≤ nI k := by rw [show f 53 2 = nI (V 0 2) from rm'.1.2.2]; exact nI_ge hk (by omega)
    have nxt : ¬ brP V k → Go X m_X7_firstBroken 6 [.ref 1, .int (nI k + 1)] [] (f, h.2) Q := fun z => by
      rw [nI_1]
      exact ih (fun i hi => by
        by_cases e : i = k
        · subst e; exact z
        · exact p i (by omega))
    by_cases e : V 7 k = 1
    · refine vg ⟨2, rfl, by decide, br_f hlt ⟨72 + k, nI_add 72 k, by omega, brn_f (by show f 53 (72 + k) = _; rw [e7, e]; rfl) (t_isKeptBy v rm' m1 hk (fun z => ?_) (fun z => ?_))⟩⟩
      · exact vc_ok (st := [6]) 40 (brn_t (by decide) (nxt (fun y => y.2 z)))
      · exact vg (brn_f rfl (q (nI k) (Or.inl ⟨k, hk, ⟨e, z⟩, p, rfl⟩) f f1))
    · exact vc_ok (st := [6]) 40 ⟨2, rfl, by decide, br_f hlt ⟨72 + k, nI_add 72 k, by omega, brn_t (by show ¬ f 53 (72 + k) = nI 1; rw [e7, nI_eq (by omega) (by decide)]; exact e) (nxt (fun y => e y.1))⟩⟩
end FST
