theorem t_isHook {X : Xs} {x : Int32} {h : Hp} {Q : Qt} (a : 0 ≤ x.toInt ∧ x.toInt < 8 → Q (some (.int 1)) h) (b : ¬ (0 ≤ x.toInt ∧ x.toInt < 8) → Q (some (.int 0)) h) : Go X m_X6_isHook 0 [.int x] [] h Q := by
  refine vg (And.intro (fun c => ⟨Or.inl rfl, b (fun z => ?_)⟩) (fun c => And.intro (fun c2 => ⟨Or.inl rfl, b (fun z => ?_)⟩) (fun c2 => ⟨Or.inr rfl, a ?_⟩)))
  · have c := i_lt.mp c
    have : (0 : Int32).toInt = 0 := rfl
    omega
  · have c2 : nI 8 ≤ x := c2
    rw [i_le, nT (by decide)] at c2
    omega
  · have c2 : ¬ nI 8 ≤ x := c2
    rw [i_le, nT (by decide)] at c2
    rw [i_lt] at c
    have : (0 : Int32).toInt = 0 := rfl
    omega
theorem t_isHookSet {X : Xs} {x : Int32} {h : Hp} {Q : Qt} (a : 0 ≤ x.toInt ∧ x.toInt < 256 → Q (some (.int 1)) h) (b : ¬ (0 ≤ x.toInt ∧ x.toInt < 256) → Q (some (.int 0)) h) : Go X m_X6_isHookSet 0 [.int x] [] h Q := by
  refine vg (And.intro (fun c => ⟨Or.inl rfl, b (fun z => ?_)⟩) (fun c => And.intro (fun c2 => ⟨Or.inl rfl, b (fun z => ?_)⟩) (fun c2 => ⟨Or.inr rfl, a ?_⟩)))
  · have c := i_lt.mp c
    have : (0 : Int32).toInt = 0 := rfl
    omega
  · have c2 : nI 256 ≤ x := c2
    rw [i_le, nT (by decide)] at c2
    omega
  · have c2 : ¬ nI 256 ≤ x := c2
    rw [i_le, nT (by decide)] at c2
    rw [i_lt] at c
    have : (0 : Int32).toInt = 0 := rfl
    omega
theorem t_isThread {X : Xs} {x : Int32} {h : Hp} {Q : Qt} (a : 0 ≤ x.toInt ∧ x.toInt < 16 → Q (some (.int 1)) h) (b : ¬ (0 ≤ x.toInt ∧ x.toInt < 16) → Q (some (.int 0)) h) : Go X m_X6_isThread 0 [.int x] [] h Q := by
  refine vg (And.intro (fun c => ⟨Or.inl rfl, b (fun z => ?_)⟩) (fun c => And.intro (fun c2 => ⟨Or.inl rfl, b (fun z => ?_)⟩) (fun c2 => ⟨Or.inr rfl, a ?_⟩)))
  · have c := i_lt.mp c
    have : (0 : Int32).toInt = 0 := rfl
    omega
  · have c2 : nI 16 ≤ x := c2
    rw [i_le, nT (by decide)] at c2
    omega
  · have c2 : ¬ nI 16 ≤ x := c2
    rw [i_le, nT (by decide)] at c2
    rw [i_lt] at c
    have : (0 : Int32).toInt = 0 := rfl
    omega
theorem t_isKind {X : Xs} {x : Int32} {h : Hp} {Q : Qt} (a : 0 ≤ x.toInt ∧ x.toInt < 6 → Q (some (.int 1)) h) (b : ¬ (0 ≤ x.toInt ∧ x.toInt < 6) → Q (some (.int 0)) h) : Go X m_X6_isKind 0 [.int x] [] h Q := by
  refine vg (And.intro (fun c => ⟨Or.inl rfl, b (fun z => ?_)⟩) (fun c => And.intro (fun c2 => ⟨Or.inl rfl, b (fun z => ?_)⟩) (fun c2 => ⟨Or.inr rfl, a ?_⟩)))
  · have c := i_lt.mp c
    have : (0 : Int32).toInt = 0 := rfl
    omega
  · have c2 : nI 6 ≤ x := c2
    rw [i_le, nT (by decide)] at c2
    omega
  · have c2 : ¬ nI 6 ≤ x := c2
    rw [i_le, nT (by decide)] at c2
    rw [i_lt] at c
    have : (0 : Int32).toInt = 0 := rfl
    omega
theorem t_isSheet {X : Xs} {x : Int32} {h : Hp} {Q : Qt} (a : 0 ≤ x.toInt ∧ x.toInt < 4 → Q (some (.int 1)) h) (b : ¬ (0 ≤ x.toInt ∧ x.toInt < 4) → Q (some (.int 0)) h) : Go X m_X6_isSheet 0 [.int x] [] h Q := by
  refine vg (And.intro (fun c => ⟨Or.inl rfl, b (fun z => ?_)⟩) (fun c => And.intro (fun c2 => ⟨Or.inl rfl, b (fun z => ?_)⟩) (fun c2 => ⟨Or.inr rfl, a ?_⟩)))
  · have c := i_lt.mp c
    have : (0 : Int32).toInt = 0 := rfl
    omega
  · have c2 : nI 4 ≤ x := c2
    rw [i_le, nT (by decide)] at c2
    omega
  · have c2 : ¬ nI 4 ≤ x := c2
    rw [i_le, nT (by decide)] at c2
    rw [i_lt] at c
    have : (0 : Int32).toInt = 0 := rfl
    omega
theorem t_isLimit {X : Xs} {x : Int32} {h : Hp} {Q : Qt} (a : 1 ≤ x.toInt ∧ x.toInt ≤ 16 → Q (some (.int 1)) h) (b : ¬ (1 ≤ x.toInt ∧ x.toInt ≤ 16) → Q (some (.int 0)) h) : Go X m_X6_isLimit 0 [.int x] [] h Q := by
  refine vg (And.intro (fun c => ⟨Or.inl rfl, b (fun z => ?_)⟩) (fun c => And.intro (fun c2 => ⟨Or.inl rfl, b (fun z => ?_)⟩) (fun c2 => ⟨Or.inr rfl, a ?_⟩)))
  · have c : x < nI 1 := c
    rw [i_lt, nT (by decide)] at c
    omega
  · have c2 : nI 16 < x := c2
    rw [i_lt, nT (by decide)] at c2
    omega
  · have c2 : ¬ nI 16 < x := c2
    have c : ¬ x < nI 1 := c
    rw [i_lt, nT (by decide)] at c c2
    omega
/-- a refusal: the finding is told and counted -/
theorem t_refuse {X : Xs} {f : Int32} (k : Nat) {h : Hp} {Q : Qt} (hk : k < 7) (hf : f = -1000000001 - nI k) (a : Q (some (.int (-1000000001 - nI k))) (up2 h.1 14 k (h.1 14 k + 1), h.2)) : Go X m_X6_refuse 0 [.ref 0, .int f, .null] [] h Q := by
  rw [← hf] at a
  have e1 : (-1000000001 : Int32) - f = nI k := by
    rw [hf]
    rcases (show k = 0 ∨ k = 1 ∨ k = 2 ∨ k = 3 ∨ k = 4 ∨ k = 5 ∨ k = 6 by omega) with rfl | rfl | rfl | rfl | rfl | rfl | rfl <;> decide
  refine vc_ok (st := [5]) 20 ?_
  show Go X m_X6_refuse 5 [.ref 0, .int f, .int (-1000000001 - f)] [] h Q
  rw [e1]
  refine vg (br_f (nI_pos (by omega)) (br_f ?_ ?_))
  · exact fun z => nI_ge (a := k) (b := 7) hk (by decide) z
  · exact ⟨k, rfl, hk, k, rfl, hk, a⟩
