/-! WHAT CLASS AND REFERENCE HOLD ALIKE -/
abbrev Vw : Type := Nat → Nat → Nat
/-- a loom: V 0 0 cards, V 0 1 rows, V 0 2 laws; V 1 holes, V 2 eaten, V 3 ties, V 4 picks, V 5 kinds, V 6 limits, V 7 in force -/
def okV (V : Vw) : Prop := (V 0 0 ≤ 10 ∧ V 0 1 ≤ 20 ∧ V 0 2 ≤ 6) ∧ (∀ c, c < V 0 0 → V 1 c < 256 ∧ V 2 c < 256 ∧ V 1 c &&& V 2 c = 0) ∧ (∀ t, t < 16 → V 3 t < 8) ∧ (∀ i, i < V 0 1 → V 4 i < V 0 0) ∧ (∀ l, l < V 0 2 → V 5 l < 6 ∧ 1 ≤ V 6 l ∧ V 6 l ≤ 16 ∧ V 7 l ≤ 1)
/-- the class's loom: the object's cell and its seven arrays -/
def RC (V : Vw) (h : Hp) (o a1 a2 a3 a4 a5 a6 a7 : Nat) : Prop := (h.1 o 0 = nI (V 0 0) ∧ h.1 o 4 = nI (V 0 1) ∧ h.1 o 6 = nI (V 0 2)) ∧ (∀ c, c < V 0 0 → h.1 a1 c = nI (V 1 c) ∧ h.1 a2 c = nI (V 2 c)) ∧ (∀ t, t < 16 → h.1 a3 t = nI (V 3 t)) ∧ (∀ i, i < V 0 1 → h.1 a4 i = nI (V 4 i)) ∧ (∀ l, l < V 0 2 → h.1 a5 l = nI (V 5 l) ∧ h.1 a6 l = nI (V 6 l) ∧ h.1 a7 l = nI (V 7 l))
/-- the reference's loom: one array -/
def RM (V : Vw) (h : Hp) (d : Nat) : Prop := (h.1 d 0 = nI (V 0 0) ∧ h.1 d 1 = nI (V 0 1) ∧ h.1 d 2 = nI (V 0 2)) ∧ (∀ c, c < V 0 0 → h.1 d (4 + c) = nI (V 1 c) ∧ h.1 d (14 + c) = nI (V 2 c)) ∧ (∀ t, t < 16 → h.1 d (24 + t) = nI (V 3 t)) ∧ (∀ i, i < V 0 1 → h.1 d (40 + i) = nI (V 4 i)) ∧ (∀ l, l < V 0 2 → h.1 d (60 + l) = nI (V 5 l) ∧ h.1 d (66 + l) = nI (V 6 l) ∧ h.1 d (72 + l) = nI (V 7 l))
def RN (V : Vw) (h : Hp) : Prop := RC V h 2 15 16 17 18 19 20 21
def RK (V : Vw) (h : Hp) : Prop := RC V h 3 22 23 24 25 26 27 28
def RD (V : Vw) (h : Hp) : Prop := RC V h 4 29 30 31 32 33 34 35
def IK (h : Hp) : Prop := (h.1 0 9 = 0 ∧ h.1 1 3 = 0) ∨ (h.1 0 9 = 1 ∧ h.1 1 3 = 1 ∧ ∃ K, okV K ∧ RK K h ∧ RM K h 55)
def IR (h : Hp) : Prop := ∀ k, k < 7 → h.1 14 k = h.1 56 k
def IT (h : Hp) : Prop := ∃ n : Nat, n ≤ 120 ∧ h.1 8 0 = nI n ∧ h.1 1 6 = nI n ∧ ∀ i, i < n → ∃ b : Nat, b < 256 ∧ h.1 48 i = nI b ∧ h.1 57 i = (nI b).toInt8.toInt32
def IS (h : Hp) : Prop := ∀ s, s < 4 → ∃ b n : Nat, (b = 0 ∨ b = 8 ∨ b = 16 ∨ b = 64) ∧ n ≤ 40 ∧ (b = 0 → n = 0) ∧ h.1 (9 + s) 0 = nI b ∧ h.1 62 s = nI b ∧ h.1 (9 + s) 1 = nI n ∧ h.1 63 s = nI n ∧ ∀ i, i < n → h.2 (49 + s) i = h.2 64 (40 * s + i)
def Inv (h : Hp) : Prop := ∃ V, okV V ∧ RN V h ∧ RM V h 53 ∧ IK h ∧ IR h ∧ IT h ∧ IS h
/-- a call on both: the class first, then the reference; they answer alike -/
def Both (X : Xs) (mc mm : Nat) (Lc Lm : List Value) (h : Hp) : Prop := Go X mc 0 Lc [] h (fun r h1 => Go X mm 0 Lm [] h1 (fun r' h2 => r' = r ∧ Inv h2))
theorem rc_cg {V : Vw} {h h' : Hp} {o a1 a2 a3 a4 a5 a6 a7 : Nat} (r : RC V h o a1 a2 a3 a4 a5 a6 a7) (e0 : h'.1 o = h.1 o) (e1 : h'.1 a1 = h.1 a1) (e2 : h'.1 a2 = h.1 a2) (e3 : h'.1 a3 = h.1 a3) (e4 : h'.1 a4 = h.1 a4) (e5 : h'.1 a5 = h.1 a5) (e6 : h'.1 a6 = h.1 a6) (e7 : h'.1 a7 = h.1 a7) : RC V h' o a1 a2 a3 a4 a5 a6 a7 := by
  unfold RC
  rw [e0, e1, e2, e3, e4, e5, e6, e7]
  exact r
theorem rm_cg {V : Vw} {h h' : Hp} {d : Nat} (r : RM V h d) (e : h'.1 d = h.1 d) : RM V h' d := by
  unfold RM
  rw [e]
  exact r
theorem ik_cg {h h' : Hp} (i : IK h) (e0 : h'.1 0 9 = h.1 0 9) (e1 : h'.1 1 3 = h.1 1 3) (ec : ∀ q, q = 3 ∨ (22 ≤ q ∧ q ≤ 28) ∨ q = 55 → h'.1 q = h.1 q) : IK h' := by
  rcases i with ⟨a, b⟩ | ⟨a, b, K, k1, k2, k3⟩
  · exact Or.inl ⟨e0.trans a, e1.trans b⟩
  · exact Or.inr ⟨e0.trans a, e1.trans b, K, k1, rc_cg k2 (ec _ (by omega)) (ec _ (by omega)) (ec _ (by omega)) (ec _ (by omega)) (ec _ (by omega)) (ec _ (by omega)) (ec _ (by omega)) (ec _ (by omega)), rm_cg k3 (ec _ (by omega))⟩
theorem ir_cg {h h' : Hp} (i : IR h) (e0 : h'.1 14 = h.1 14) (e1 : h'.1 56 = h.1 56) : IR h' := fun k hk => by rw [e0, e1]; exact i k hk
theorem it_cg {h h' : Hp} (i : IT h) (e0 : h'.1 8 0 = h.1 8 0) (e1 : h'.1 1 6 = h.1 1 6) (e2 : h'.1 48 = h.1 48) (e3 : h'.1 57 = h.1 57) : IT h' := by
  unfold IT
  rw [e0, e1, e2, e3]
  exact i
theorem is_cg {h h' : Hp} (i : IS h) (e0 : ∀ q, (9 ≤ q ∧ q ≤ 12) ∨ q = 62 ∨ q = 63 → h'.1 q = h.1 q) (e1 : ∀ q, (49 ≤ q ∧ q ≤ 52) ∨ q = 64 → h'.2 q = h.2 q) : IS h' := fun s hs => by
  rw [e0 (9 + s) (by omega), e0 62 (by omega), e0 63 (by omega), e1 (49 + s) (by omega), e1 64 (by omega)]
  exact i s hs
/-- the cells that matter -/
def live (q : Nat) : Prop := q = 2 ∨ q = 3 ∨ (9 ≤ q ∧ q ≤ 12) ∨ (14 ≤ q ∧ q ≤ 28) ∨ (48 ≤ q ∧ q ≤ 53) ∨ (55 ≤ q ∧ q ≤ 57) ∨ (62 ≤ q ∧ q ≤ 64)
theorem inv_cg {h h' : Hp} (i : Inv h) (e : ∀ q, live q → h'.1 q = h.1 q ∧ h'.2 q = h.2 q) (e0 : h'.1 0 9 = h.1 0 9) (e1 : h'.1 1 3 = h.1 1 3) (e2 : h'.1 8 0 = h.1 8 0) (e3 : h'.1 1 6 = h.1 1 6) : Inv h' := by
  obtain ⟨V, v, rn, rm, ik, ir, it, is⟩ := i
  have f : ∀ q, live q → h'.1 q = h.1 q := fun q hq => (e q hq).1
  have g : ∀ q, live q → h'.2 q = h.2 q := fun q hq => (e q hq).2
  refine ⟨V, v, rc_cg rn ?_ ?_ ?_ ?_ ?_ ?_ ?_ ?_, rm_cg rm ?_, ik_cg ik e0 e1 ?_, ir_cg ir ?_ ?_, it_cg it e2 e3 ?_ ?_, is_cg is ?_ ?_⟩
  all_goals first
    | exact f _ (by unfold live; omega)
    | exact fun q hq => f q (by unfold live; omega)
    | exact fun q hq => g q (by unfold live; omega)
/-- both have refused alike -/
theorem inv_ref {h : Hp} (i : Inv h) {k : Nat} (hk : k < 7) : Inv (up2 (up2 h.1 14 k (h.1 14 k + 1)) 56 k (up2 h.1 14 k (h.1 14 k + 1) 56 k + 1), h.2) := by
  obtain ⟨V, v, rn, rm, ik, ir, it, is⟩ := i
  refine ⟨V, v, rc_cg rn ?_ ?_ ?_ ?_ ?_ ?_ ?_ ?_, rm_cg rm ?_, ik_cg ik ?_ ?_ ?_, ?_, it_cg it ?_ ?_ ?_ ?_, is_cg is ?_ ?_⟩
  case refine_13 =>
    intro j hj
    have := ir j hj
    have h2 := ir k hk
    by_cases hjk : j = k
    · subst hjk
      simp [up2, this]
    · simp [up2, hjk, this]
  all_goals first
    | rfl
    | exact fun q hq => rfl
    | (intro q hq; show up2 _ _ _ _ q = _; rw [up2_ne (by omega), up2_ne (by omega)])
theorem nref {k : Nat} : (-1000000001 : Int32) - nI k = -1000000001 - nI k := rfl
