/-! orders of cards: lists of ranks, the next order -/
section PER
variable {X : Xs} {h : Hp} {Q : Qt} {V : Vw}
abbrev gt (L : List Nat) (j : Nat) : Nat := L.getD j 0
def rzL (L : List Nat) : Nat → Nat
  | 0 => 0
  | k + 1 => if gt L (k + 1) < gt L k then rzL L k else k + 1
def abL (L : List Nat) (v : Nat) : Nat → Nat
  | 0 => 0
  | j + 1 => if gt L (j + 1) < v then abL L v j else j + 1
def swL (L : List Nat) (a b : Nat) : List Nat := (L.set a (gt L b)).set b (gt L a)
def rvL : Nat → List Nat → Nat → Nat → List Nat
  | 0, L, _, _ => L
  | m + 1, L, a, b => if a < b then rvL m (swL L a b) (a + 1) (b - 1) else L
def nxL (n : Nat) (L : List Nat) : List Nat := match rzL L (n - 1) with
  | 0 => L
  | i + 1 => rvL n (swL L i (abL L (gt L i) (n - 1))) (i + 1) (n - 1)
def LL (n : Nat) : Nat → List Nat
  | 0 => List.range n
  | t + 1 => nxL n (LL n t)
def fac : Nat → Nat
  | 0 => 1
  | n + 1 => fac n * (n + 1)
def chkL (n : Nat) : Nat → List Nat → Bool
  | 0, L => Nat.beq (rzL L (n - 1)) 0
  | m + 1, L => !(Nat.beq (rzL L (n - 1)) 0) && chkL n m (nxL n L)
theorem chk_all : (List.range 7).all (fun n => chkL n (fac n - 1) (List.range n)) = true := by decide +kernel
theorem LL_s (n : Nat) : ∀ t s, chkL n t (LL n s) = true → (∀ j, j < t → rzL (LL n (s + j)) (n - 1) ≠ 0) ∧ rzL (LL n (s + t)) (n - 1) = 0
  | 0, s, e => ⟨fun j hj => absurd hj (by omega), Nat.eq_of_beq_eq_true e⟩
  | t + 1, s, e => by
    have e : (!(Nat.beq (rzL (LL n s) (n - 1)) 0) && chkL n t (LL n (s + 1))) = true := e
    obtain ⟨e1, e2⟩ := (Bool.and_eq_true _ _).mp e
    obtain ⟨h1, h2⟩ := LL_s n t (s + 1) e2
    refine ⟨fun j hj => ?_, by rw [show s + (t + 1) = s + 1 + t by omega]; exact h2⟩
    cases j with
    | zero =>
      intro z
      rw [Nat.add_zero] at z
      rw [z] at e1
      exact absurd e1 (by decide)
    | succ j =>
      rw [show s + (j + 1) = s + 1 + j by omega]
      exact h1 j (by omega)
theorem LL_ok {n : Nat} (hn : n ≤ 6) : (∀ t, t < fac n - 1 → rzL (LL n t) (n - 1) ≠ 0) ∧ rzL (LL n (fac n - 1)) (n - 1) = 0 := by
  have h1 := List.all_eq_true.mp chk_all n (List.mem_range.mpr (by omega))
  obtain ⟨a, b⟩ := LL_s n (fac n - 1) 0 h1
  refine ⟨fun t ht => ?_, ?_⟩
  · have := a t ht
    rw [Nat.zero_add] at this
    exact this
  · rw [Nat.zero_add] at b
    exact b
/-- a list of n ranks -/
def AL (n : Nat) (L : List Nat) : Prop := L.length = n ∧ ∀ j, j < n → gt L j < n
theorem gt_set {L : List Nat} {a j x : Nat} (ha : a < L.length) : gt (L.set a x) j = if j = a then x else gt L j := by
  unfold gt
  rw [List.getD_eq_getElem?_getD, List.getD_eq_getElem?_getD, List.getElem?_set]
  by_cases e : j = a
  · subst e
    rw [if_pos rfl, if_pos rfl, if_pos ha]
    rfl
  · rw [if_neg (fun z => e z.symm), if_neg e]
theorem sw_gt {n : Nat} {L : List Nat} (al : AL n L) {a b : Nat} (ha : a < n) (hb : b < n) (j : Nat) : gt (swL L a b) j = if j = b then gt L a else if j = a then gt L b else gt L j := by
  unfold swL
  rw [gt_set (by rw [List.length_set, al.1]; exact hb), gt_set (by rw [al.1]; exact ha)]
theorem sw_al {n : Nat} {L : List Nat} (al : AL n L) {a b : Nat} (ha : a < n) (hb : b < n) : AL n (swL L a b) := by
  refine ⟨by unfold swL; rw [List.length_set, List.length_set, al.1], fun j hj => ?_⟩
  rw [sw_gt al ha hb]
  split
  · exact al.2 a ha
  · split
    · exact al.2 b hb
    · exact al.2 j hj
theorem rv_al {n : Nat} : ∀ m L a b, AL n L → b < n → AL n (rvL m L a b)
  | 0, _, _, _, al, _ => al
  | m + 1, L, a, b, al, hb => by
    unfold rvL
    split
    · exact rv_al m _ _ _ (sw_al al (by omega) hb) (by omega)
    · exact al
theorem rz_le (L : List Nat) : ∀ k, rzL L k ≤ k
  | 0 => Nat.le_refl _
  | k + 1 => by
    have := rz_le L k
    unfold rzL
    split <;> omega
theorem rz_ge (L : List Nat) : ∀ k i, rzL L k = i + 1 → ¬ gt L (i + 1) < gt L i
  | 0, i, e => absurd e (by show ¬ (0 : Nat) = i + 1; omega)
  | k + 1, i, e => by
    unfold rzL at e
    by_cases c : gt L (k + 1) < gt L k
    · rw [if_pos c] at e
      exact rz_ge L k i e
    · rw [if_neg c] at e
      rw [show i = k by omega]
      exact c
theorem ab_b (L : List Nat) {i v : Nat} (hv : ¬ gt L (i + 1) < v) : ∀ j, i < j → i < abL L v j ∧ abL L v j ≤ j
  | 0, h => absurd h (by omega)
  | j + 1, h => by
    unfold abL
    by_cases c : gt L (j + 1) < v
    · rw [if_pos c]
      have : i ≠ j := fun z => hv (by rw [z]; exact c)
      have := ab_b L hv j (by omega)
      omega
    · rw [if_neg c]
      omega
theorem nx_al {n : Nat} {L : List Nat} (al : AL n L) : AL n (nxL n L) := by
  unfold nxL
  split
  · exact al
  · rename_i i e
    have h1 := rz_le L (n - 1)
    rw [e] at h1
    have h2 := ab_b L (rz_ge L (n - 1) i e) (n - 1) (by omega)
    exact rv_al n _ _ _ (sw_al al (by omega) (by omega)) (by omega)
theorem LL_al (n : Nat) : ∀ t, AL n (LL n t)
  | 0 => ⟨List.length_range, fun j hj => by
    show (List.range n).getD j 0 < n
    rw [List.getD_eq_getElem?_getD, List.getElem?_range hj]
    exact hj⟩
  | t + 1 => nx_al (LL_al n t)
theorem LL_0 {n j : Nat} (hj : j < n) : gt (LL n 0) j = j := by
  show (List.range n).getD j 0 = j
  rw [List.getD_eq_getElem?_getD, List.getElem?_range hj]
  rfl
-- ===== the cards of a set, in their order
def csF (a : Nat) : Nat → Nat → Nat
  | 0 => fun _ => 0
  | q + 1 => if bt a q = 1 then (fun j => if j = popF a q then q else csF a q j) else csF a q
theorem cs_1 {a q : Nat} (e : bt a q = 1) : csF a (q + 1) = fun j => if j = popF a q then q else csF a q j := by
  show (if bt a q = 1 then _ else _) = _
  rw [if_pos e]
theorem cs_0 {a q : Nat} (e : ¬ bt a q = 1) : csF a (q + 1) = csF a q := by
  show (if bt a q = 1 then _ else _) = _
  rw [if_neg e]
theorem pf_s (a q : Nat) : popF a (q + 1) = popF a q + bt a q := rfl
theorem cs_lt (a : Nat) : ∀ q j, j < popF a q → csF a q j < q
  | 0, j, h => absurd h (by show ¬ j < 0; omega)
  | q + 1, j, h => by
    rw [pf_s] at h
    have := bt_le a q
    by_cases e : bt a q = 1
    · rw [cs_1 e]
      by_cases e2 : j = popF a q
      · simp only [if_pos e2]; omega
      · simp only [if_neg e2]
        have := cs_lt a q j (by omega)
        omega
    · rw [cs_0 e]
      have := cs_lt a q j (by omega)
      omega
theorem cs_mono (a : Nat) : ∀ q i j, i < j → j < popF a q → csF a q i < csF a q j
  | 0, i, j, _, h => absurd h (by show ¬ j < 0; omega)
  | q + 1, i, j, hij, h => by
    rw [pf_s] at h
    have := bt_le a q
    by_cases e : bt a q = 1
    · rw [cs_1 e]
      by_cases e2 : j = popF a q
      · simp only [if_pos e2, if_neg (show ¬ i = popF a q by omega)]
        exact cs_lt a q i (by omega)
      · simp only [if_neg e2, if_neg (show ¬ i = popF a q by omega)]
        exact cs_mono a q i j hij (by omega)
    · rw [cs_0 e]
      exact cs_mono a q i j hij (by omega)
/-- where no bit follows nothing changes -/
theorem cs_end {a q : Nat} : ∀ k, (∀ i, q ≤ i → i < q + k → bt a i = 0) → csF a (q + k) = csF a q ∧ popF a (q + k) = popF a q
  | 0, _ => ⟨rfl, rfl⟩
  | k + 1, h => by
    obtain ⟨h1, h2⟩ := cs_end k (fun i i1 i2 => h i i1 (by omega))
    have e := h (q + k) (by omega) (by omega)
    rw [show q + (k + 1) = q + k + 1 by omega, pf_s, cs_0 (by omega), e, h1, h2]
    exact ⟨rfl, rfl⟩
theorem bt_hi {a i n : Nat} (h : a < 2 ^ n) (hi : n ≤ i) : bt a i = 0 := by
  unfold bt
  rw [Nat.div_eq_of_lt (Nat.lt_of_lt_of_le h (Nat.pow_le_pow_right (by decide) hi))]
theorem pf_mono (a q : Nat) : ∀ k, popF a q ≤ popF a (q + k)
  | 0 => Nat.le_refl _
  | k + 1 => by
    have := pf_mono a q k
    rw [show q + (k + 1) = q + k + 1 by omega, pf_s]
    omega
theorem pf_end {a q k : Nat} (e : popF a (q + k) = popF a q) : ∀ i, q ≤ i → i < q + k → bt a i = 0 := fun i h1 h2 => by
  obtain ⟨j, rfl⟩ : ∃ j, i = q + j := ⟨i - q, by omega⟩
  have m1 := pf_mono a q j
  have m2 := pf_mono a (q + j + 1) (k - j - 1)
  rw [show q + j + 1 + (k - j - 1) = q + k by omega, pf_s] at m2
  omega
/-- cells that hold an order -/
def AR (f : Nat → Nat → Int32) (C n : Nat) (cs : Nat → Nat) (L : List Nat) : Prop := ∀ j, j < n → f C j = nI (cs (gt L j))
def csOk (n : Nat) (cs : Nat → Nat) : Prop := (∀ j, j < n → cs j < 10) ∧ ∀ i j, i < j → j < n → cs i < cs j
theorem cs_ltI {n : Nat} {cs : Nat → Nat} (c : csOk n cs) {a b : Nat} (ha : a < n) (hb : b < n) : nI (cs a) < nI (cs b) ↔ a < b := by
  have h1 := c.1 a ha
  have h2 := c.1 b hb
  rw [nI_ltI (by omega) (by omega)]
  rcases Nat.lt_trichotomy a b with z | z | z
  · have := c.2 a b z hb; omega
  · subst z; omega
  · have := c.2 b a z ha; omega
theorem cs_leI {n : Nat} {cs : Nat → Nat} (c : csOk n cs) {a b : Nat} (ha : a < n) (hb : b < n) : nI (cs a) ≤ nI (cs b) ↔ a ≤ b := by
  have h1 := c.1 a ha
  have h2 := c.1 b hb
  rw [nI_leI (by omega) (by omega)]
  rcases Nat.lt_trichotomy a b with z | z | z
  · have := c.2 a b z hb; omega
  · subst z; omega
  · have := c.2 b a z ha; omega
theorem ar_sw {f : Nat → Nat → Int32} {C n : Nat} {cs : Nat → Nat} {L : List Nat} (al : AL n L) (r : AR f C n cs L) {a b : Nat} (ha : a < n) (hb : b < n) : AR (up2 (up2 f C a (f C b)) C b (f C a)) C n cs (swL L a b) := fun j hj => by
  rw [sw_gt al ha hb]
  by_cases e1 : j = b
  · subst e1
    rw [u_at, if_pos rfl]
    exact r a ha
  · rw [u_ne e1, if_neg e1]
    by_cases e2 : j = a
    · subst e2
      rw [u_at, if_pos rfl]
      exact r b hb
    · rw [u_ne e2, if_neg e2]
      exact r j hj
end PER
