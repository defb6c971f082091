/-! eaten places: their order, the ways to fill them -/
section PLA
variable {X : Xs} {h : Hp} {Q : Qt} {V : Vw}
/-- place q = 8 * card + hook is eaten in a card that is woven -/
abbrev plP (V : Vw) (q : Nat) : Prop := 0 < cntN V (q / 8) (V 0 1) ∧ bt (V 2 (q / 8)) (q % 8) = 1
def plC (V : Vw) : Nat → Nat
  | 0 => 0
  | q + 1 => if plP V q then plC V q + 1 else plC V q
def plF (V : Vw) : Nat → Nat → Nat
  | 0 => fun _ => 0
  | q + 1 => if plP V q then (fun j => if j = plC V q then q else plF V q j) else plF V q
theorem plC_mono (V : Vw) {a b : Nat} (h : a ≤ b) : plC V a ≤ plC V b := by
  obtain ⟨j, rfl⟩ : ∃ j, b = a + j := ⟨b - a, by omega⟩
  clear h
  induction j with
  | zero => exact Nat.le_refl _
  | succ j ih =>
    have e : plC V (a + (j + 1)) = if plP V (a + j) then plC V (a + j) + 1 else plC V (a + j) := rfl
    rw [e]
    split <;> omega
theorem plF_ok (V : Vw) : ∀ q j, j < plC V q → plF V q j < q ∧ plP V (plF V q j)
  | 0, j, h => absurd h (by show ¬ j < 0; omega)
  | q + 1, j, h => by
    unfold plC at h
    unfold plF
    by_cases c : plP V q
    · rw [if_pos c] at h
      rw [if_pos c]
      by_cases e : j = plC V q
      · simp only [if_pos e]
        exact ⟨by omega, c⟩
      · simp only [if_neg e]
        have := plF_ok V q j (by omega)
        exact ⟨by omega, this.2⟩
    · rw [if_neg c] at h
      rw [if_neg c]
      have := plF_ok V q j h
      exact ⟨by omega, this.2⟩
theorem plF_inj (V : Vw) : ∀ q i j, i < plC V q → j < plC V q → plF V q i = plF V q j → i = j
  | 0, i, _, h, _, _ => absurd h (by show ¬ i < 0; omega)
  | q + 1, i, j, hi, hj, e => by
    unfold plC at hi hj
    unfold plF at e
    by_cases c : plP V q
    · rw [if_pos c] at hi hj e
      by_cases e1 : i = plC V q
      · by_cases e2 : j = plC V q
        · omega
        · simp only [if_pos e1, if_neg e2] at e
          have := (plF_ok V q j (by omega)).1
          omega
      · by_cases e2 : j = plC V q
        · simp only [if_pos e2, if_neg e1] at e
          have := (plF_ok V q i (by omega)).1
          omega
        · simp only [if_neg e2, if_neg e1] at e
          exact plF_inj V q i j (by omega) (by omega) e
    · rw [if_neg c] at hi hj e
      exact plF_inj V q i j hi hj e
theorem plF_all (V : Vw) : ∀ q r, r < q → plP V r → ∃ j, j < plC V q ∧ plF V q j = r
  | 0, r, h, _ => absurd h (by omega)
  | q + 1, r, h, p => by
    unfold plC plF
    by_cases c : plP V q
    · rw [if_pos c, if_pos c]
      by_cases e : r = q
      · exact ⟨plC V q, by omega, by simp only [if_true]; exact e.symm⟩
      · obtain ⟨j, j1, j2⟩ := plF_all V q r (by omega) p
        exact ⟨j, by omega, by simp only [if_neg (show ¬ j = plC V q by omega)]; exact j2⟩
    · rw [if_neg c, if_neg c]
      have e : r ≠ q := fun z => c (by rw [← z]; exact p)
      obtain ⟨j, j1, j2⟩ := plF_all V q r (by omega) p
      exact ⟨j, j1, j2⟩
/-- the first k places filled as the bits of w say -/
def VF (U : Vw) (K : Nat → Nat) (w : Nat) : Nat → Vw
  | 0 => U
  | k + 1 => up2 (up2 (VF U K w k) 1 (K k / 8) (w1 (VF U K w k 1 (K k / 8)) (K k % 8) (bt w k))) 2 (K k / 8) (w2 (VF U K w k 2 (K k / 8)) (K k % 8) (bt w k))
theorem VF_o (U : Vw) (K : Nat → Nat) (w : Nat) {a : Nat} (h1 : a ≠ 1) (h2 : a ≠ 2) : ∀ k, VF U K w k a = U a
  | 0 => rfl
  | k + 1 => by
    unfold VF
    rw [up2_ne h2, up2_ne h1]
    exact VF_o U K w h1 h2 k
theorem VF_ok {U : Vw} (u : okV U) {K : Nat → Nat} {w : Nat} : ∀ k, (∀ i, i < k → K i < 8 * U 0 0) → okV (VF U K w k)
  | 0, _ => u
  | k + 1, hK => by
    have ih := VF_ok u (w := w) k (fun i hi => hK i (by omega))
    have hk := hK k (by omega)
    have e0 : VF U K w k 0 0 = U 0 0 := by rw [VF_o U K w (by decide) (by decide)]
    have hc := ih.2.1 (K k / 8) (by rw [e0]; omega)
    have hb := bt_le w k
    have hw := w_ok (k := K k % 8) (w := bt w k) hc.1 hc.2.1 (by omega) (by omega) hc.2.2
    unfold VF
    exact okV_card ih hw.1 hw.2.1 hw.2.2
theorem w1_tb {a k v i : Nat} (hk : k < 8) (ha : a < 256) (hv : v ≤ 1) : (w1 a k v).testBit i = if i = k then decide (v = 1) else a.testBit i := by
  have h8 : i < 8 ∨ a.testBit i = false := by
    rcases Nat.lt_or_ge i 8 with z | z
    · exact Or.inl z
    · exact Or.inr (Nat.testBit_lt_two_pow (Nat.lt_of_lt_of_le ha (Nat.pow_le_pow_right (n := 2) (by decide) z)))
  unfold w1
  by_cases c : v = 1
  · rw [if_pos c, Nat.testBit_or, Nat.testBit_two_pow]
    by_cases e : i = k
    · subst e; simp [c]
    · rw [if_neg e]
      simp [show ¬ k = i from fun z => e z.symm]
  · rw [if_neg c, clr_tb hk]
    by_cases e : i = k
    · subst e; simp [c]
    · rw [if_neg e]
      rcases h8 with z | z
      · simp [z, e]
      · simp [z]
theorem w2_tb {a k v i : Nat} (hk : k < 8) (ha : a < 256) (hv : v ≤ 1) : (w2 a k v).testBit i = if i = k then false else a.testBit i := by
  have h8 : i < 8 ∨ a.testBit i = false := by
    rcases Nat.lt_or_ge i 8 with z | z
    · exact Or.inl z
    · exact Or.inr (Nat.testBit_lt_two_pow (Nat.lt_of_lt_of_le ha (Nat.pow_le_pow_right (n := 2) (by decide) z)))
  unfold w2
  rw [if_neg (by omega), clr_tb hk]
  by_cases e : i = k
  · subst e; simp
  · rw [if_neg e]
    rcases h8 with z | z
    · simp [z, e]
    · simp [z]
/-- at a place: the way's bit; the eaten is gone -/
theorem VF_at {U : Vw} (u : okV U) {K : Nat → Nat} {w : Nat} {M : Nat} (hK : ∀ i, i < M → K i < 8 * U 0 0) (hI : ∀ i j, i < M → j < M → K i = K j → i = j) {c j : Nat} (hj : j < 8) : ∀ k, k ≤ M → ∀ i, i < k → K i = 8 * c + j → (VF U K w k 1 c).testBit j = decide (bt w i = 1) ∧ (VF U K w k 2 c).testBit j = false
  | 0, _, i, hi, _ => absurd hi (by omega)
  | k + 1, hk, i, hi, e => by
    have ih := VF_at u hK hI (w := w) (c := c) hj k (by omega)
    have ok := VF_ok u (w := w) k (fun i hi => hK i (by omega))
    have kk := hK k (by omega)
    have hb := bt_le w k
    unfold VF
    by_cases e1 : i = k
    · subst e1
      have ec : K i / 8 = c := by omega
      have ej : K i % 8 = j := by omega
      have hc := ok.2.1 c (by rw [VF_o U K w (by decide) (by decide)]; omega)
      rw [ec, ej]
      refine ⟨?_, ?_⟩
      · show (up2 (VF U K w i) 1 c _ 1 c).testBit j = _
        rw [u_at, w1_tb hj hc.1 hb, if_pos rfl]
      · rw [u_at, w2_tb hj hc.2.1 hb, if_pos rfl]
    · have q := ih i (by omega) e
      by_cases ec : c = K k / 8
      · have hc := ok.2.1 c (by rw [VF_o U K w (by decide) (by decide)]; omega)
        have ej : j ≠ K k % 8 := fun z => e1 (hI i k (by omega) (by omega) (by omega))
        rw [← ec]
        refine ⟨?_, ?_⟩
        · show (up2 (VF U K w k) 1 c _ 1 c).testBit j = _
          rw [u_at, w1_tb (by omega) hc.1 hb, if_neg ej]
          exact q.1
        · rw [u_at, w2_tb (by omega) hc.2.1 hb, if_neg ej]
          exact q.2
      · refine ⟨?_, ?_⟩
        · show (up2 (VF U K w k) 1 (K k / 8) _ 1 c).testBit j = _
          rw [u_ne ec]
          exact q.1
        · rw [u_ne ec]
          exact q.2
/-- elsewhere: nothing has changed -/
theorem VF_off {U : Vw} (u : okV U) {K : Nat → Nat} {w : Nat} {M : Nat} (hK : ∀ i, i < M → K i < 8 * U 0 0) (hI : ∀ i j, i < M → j < M → K i = K j → i = j) {c j : Nat} : ∀ k, k ≤ M → (∀ i, i < k → K i ≠ 8 * c + j ∨ 8 ≤ j) → c < U 0 0 → (VF U K w k 1 c).testBit j = (U 1 c).testBit j ∧ (VF U K w k 2 c).testBit j = (U 2 c).testBit j
  | 0, _, _, _ => ⟨rfl, rfl⟩
  | k + 1, hk, hi, hcc => by
    have ih := VF_off u hK hI (w := w) (c := c) (j := j) k (by omega) (fun i h => hi i (by omega)) hcc
    have ok := VF_ok u (w := w) k (fun i hi => hK i (by omega))
    have hb := bt_le w k
    have kk := hi k (by omega)
    unfold VF
    by_cases ec : c = K k / 8
    · have hc := ok.2.1 c (by rw [VF_o U K w (by decide) (by decide)]; exact hcc)
      have ej : j ≠ K k % 8 := by omega
      rw [← ec]
      refine ⟨?_, ?_⟩
      · show (up2 (VF U K w k) 1 c _ 1 c).testBit j = _
        rw [u_at, w1_tb (by omega) hc.1 hb, if_neg ej]
        exact ih.1
      · rw [u_at, w2_tb (by omega) hc.2.1 hb, if_neg ej]
        exact ih.2
    · refine ⟨?_, ?_⟩
      · show (up2 (VF U K w k) 1 (K k / 8) _ 1 c).testBit j = _
        rw [u_ne ec]
        exact ih.1
      · rw [u_ne ec]
        exact ih.2
/-- two looms alike but for what lies beyond their cards -/
def simV (A B : Vw) : Prop := (∀ a, a ≠ 1 → a ≠ 2 → A a = B a) ∧ ∀ c, c < B 0 0 → A 1 c = B 1 c ∧ A 2 c = B 2 c
theorem rm_sim {A B : Vw} {d : Nat} (s : simV A B) (r : RM A h d) : RM B h d := by
  unfold RM at r ⊢
  rw [s.1 0 (by decide) (by decide), s.1 3 (by decide) (by decide), s.1 4 (by decide) (by decide), s.1 5 (by decide) (by decide), s.1 6 (by decide) (by decide), s.1 7 (by decide) (by decide)] at r
  refine ⟨r.1, fun c hc => ?_, r.2.2⟩
  rw [← (s.2 c hc).1, ← (s.2 c hc).2]
  exact r.2.1 c hc
/-- filling once more is filling anew -/
theorem VF_again {U : Vw} (u : okV U) {K : Nat → Nat} {w v M : Nat} (hK : ∀ i, i < M → K i < 8 * U 0 0) (hI : ∀ i j, i < M → j < M → K i = K j → i = j) : simV (VF (VF U K v M) K w M) (VF U K w M) := by
  have ok1 := VF_ok u (w := v) M hK
  have e0 : VF U K v M 0 0 = U 0 0 := by rw [VF_o U K v (by decide) (by decide)]
  have hK1 : ∀ i, i < M → K i < 8 * VF U K v M 0 0 := by rw [e0]; exact hK
  refine ⟨fun a h1 h2 => by rw [VF_o _ K w h1 h2, VF_o U K v h1 h2, VF_o U K w h1 h2], fun c hc => ?_⟩
  rw [VF_o U K w (by decide) (by decide)] at hc
  have key : ∀ j, (VF (VF U K v M) K w M 1 c).testBit j = (VF U K w M 1 c).testBit j ∧ (VF (VF U K v M) K w M 2 c).testBit j = (VF U K w M 2 c).testBit j := by
    intro j
    by_cases e : ∃ i, i < M ∧ j < 8 ∧ K i = 8 * c + j
    · obtain ⟨i, hi, hj, ei⟩ := e
      have a1 := VF_at ok1 hK1 hI (w := w) hj M (Nat.le_refl _) i hi ei
      have a2 := VF_at u hK hI (w := w) hj M (Nat.le_refl _) i hi ei
      rw [a1.1, a1.2, a2.1, a2.2]
      exact ⟨rfl, rfl⟩
    · have no : ∀ i, i < M → K i ≠ 8 * c + j ∨ 8 ≤ j := fun i hi => by
        by_cases z : j < 8
        · exact Or.inl (fun q => e ⟨i, hi, z, q⟩)
        · exact Or.inr (by omega)
      have a1 := VF_off ok1 hK1 hI (w := w) (c := c) (j := j) M (Nat.le_refl _) no (by rw [e0]; exact hc)
      have a2 := VF_off u hK hI (w := w) (c := c) (j := j) M (Nat.le_refl _) no hc
      have a3 := VF_off u hK hI (w := v) (c := c) (j := j) M (Nat.le_refl _) no hc
      rw [a1.1, a1.2, a2.1, a2.2, a3.1, a3.2]
      exact ⟨rfl, rfl⟩
  exact ⟨Nat.eq_of_testBit_eq (fun j => (key j).1), Nat.eq_of_testBit_eq (fun j => (key j).2)⟩
-- ===== turning over
def tgF (K : Nat → Nat) (H : Nat → Nat) : Nat → Nat → Nat
  | 0 => H
  | k + 1 => fun c => if c = K k / 8 then tgF K H k c ^^^ 2 ^ (K k % 8) else tgF K H k c
theorem tg_lt {K H : Nat → Nat} {n : Nat} (hH : ∀ c, c < n → H c < 256) : ∀ k c, c < n → tgF K H k c < 256
  | 0, c, hc => hH c hc
  | k + 1, c, hc => by
    have ih := tg_lt (K := K) hH k c hc
    show (if c = K k / 8 then _ else _) < 256
    split
    · exact xor_lt (n := 8) ih (Nat.pow_lt_pow_right (by decide) (Nat.mod_lt _ (by decide)))
    · exact ih
theorem tg_at {K H : Nat → Nat} {M : Nat} (hI : ∀ i j, i < M → j < M → K i = K j → i = j) {c j : Nat} (hj : j < 8) : ∀ k, k ≤ M → ∀ i, i < k → K i = 8 * c + j → (tgF K H k c).testBit j = !(H c).testBit j
  | 0, _, i, hi, _ => absurd hi (by omega)
  | k + 1, hk, i, hi, e => by
    have ih := tg_at (H := H) (c := c) hI hj k (by omega)
    show (if c = K k / 8 then tgF K H k c ^^^ 2 ^ (K k % 8) else tgF K H k c).testBit j = _
    by_cases e1 : i = k
    · subst e1
      have no : ∀ n, n ≤ i → (tgF K H n c).testBit j = (H c).testBit j := by
        intro n
        induction n with
        | zero => exact fun _ => rfl
        | succ n ihn =>
          intro hn
          show (if c = K n / 8 then tgF K H n c ^^^ 2 ^ (K n % 8) else tgF K H n c).testBit j = _
          by_cases ec : c = K n / 8
          · have ej : ¬ K n % 8 = j := fun z => absurd (hI n i (by omega) (by omega) (by omega)) (by omega)
            rw [if_pos ec, Nat.testBit_xor, ihn (by omega), Nat.testBit_two_pow]
            simp [ej]
          · rw [if_neg ec]; exact ihn (by omega)
      rw [if_pos (by omega), Nat.testBit_xor, no i (Nat.le_refl _), Nat.testBit_two_pow, decide_eq_true (show K i % 8 = j by omega)]
      simp
    · have q := ih i (by omega) e
      by_cases ec : c = K k / 8
      · have ej : ¬ K k % 8 = j := fun z => absurd (hI i k (by omega) (by omega) (by omega)) e1
        rw [if_pos ec, Nat.testBit_xor, q, Nat.testBit_two_pow]
        simp [ej]
      · rw [if_neg ec]; exact q
theorem tg_off {K H : Nat → Nat} {c j : Nat} : ∀ k, (∀ i, i < k → K i ≠ 8 * c + j ∨ 8 ≤ j) → (tgF K H k c).testBit j = (H c).testBit j
  | 0, _ => rfl
  | k + 1, hi => by
    have ih := tg_off (H := H) k (fun i h => hi i (by omega))
    have kk := hi k (by omega)
    show (if c = K k / 8 then tgF K H k c ^^^ 2 ^ (K k % 8) else tgF K H k c).testBit j = _
    by_cases ec : c = K k / 8
    · have ej : ¬ K k % 8 = j := by omega
      rw [if_pos ec, Nat.testBit_xor, ih, Nat.testBit_two_pow]
      simp [ej]
    · rw [if_neg ec]; exact ih
/-- from one way to the next: the places before m are turned over -/
theorem tg_next {U : Vw} (u : okV U) {K : Nat → Nat} {w m M : Nat} (hK : ∀ i, i < M → K i < 8 * U 0 0) (hI : ∀ i j, i < M → j < M → K i = K j → i = j) (hm : m ≤ M) (h1 : ∀ i, i < m → ¬ bt (w + 1) i = bt w i) (h2 : ∀ i, m ≤ i → i < M → bt (w + 1) i = bt w i) {c : Nat} (hc : c < U 0 0) : tgF K (VF U K w M 1) m c = VF U K (w + 1) M 1 c := by
  refine Nat.eq_of_testBit_eq (fun j => ?_)
  by_cases e : ∃ i, i < M ∧ j < 8 ∧ K i = 8 * c + j
  · obtain ⟨i, hi, hj, ei⟩ := e
    have a1 := VF_at u hK hI (w := w) hj M (Nat.le_refl _) i hi ei
    have a2 := VF_at u hK hI (w := w + 1) hj M (Nat.le_refl _) i hi ei
    by_cases e2 : i < m
    · rw [tg_at hI hj m hm i e2 ei, a1.1, a2.1]
      have := h1 i e2
      have := bt_le w i
      have := bt_le (w + 1) i
      rcases (show (bt w i = 0 ∧ bt (w + 1) i = 1) ∨ (bt w i = 1 ∧ bt (w + 1) i = 0) by omega) with ⟨z1, z2⟩ | ⟨z1, z2⟩ <;> rw [z1, z2] <;> rfl
    · rw [tg_off m (fun i' hi' => Or.inl (fun z => absurd (hI i i' hi (by omega) (by omega)) (by omega))), a1.1, a2.1, h2 i (by omega) hi]
  · have no : ∀ i, i < M → K i ≠ 8 * c + j ∨ 8 ≤ j := fun i hi => by
      by_cases z : j < 8
      · exact Or.inl (fun q => e ⟨i, hi, z, q⟩)
      · exact Or.inr (by omega)
    rw [tg_off m (fun i hi => no i (by omega)), (VF_off u hK hI (w := w) M (Nat.le_refl _) no hc).1, (VF_off u hK hI (w := w + 1) M (Nat.le_refl _) no hc).1]
/-- way 0 is the loom itself: no hole lies at an eaten place -/
theorem VF_zero {U : Vw} (u : okV U) {K : Nat → Nat} {M : Nat} (hK : ∀ i, i < M → K i < 8 * U 0 0) (hI : ∀ i j, i < M → j < M → K i = K j → i = j) (hE : ∀ i, i < M → bt (U 2 (K i / 8)) (K i % 8) = 1) {c : Nat} (hc : c < U 0 0) : VF U K 0 M 1 c = U 1 c := by
  refine Nat.eq_of_testBit_eq (fun j => ?_)
  by_cases e : ∃ i, i < M ∧ j < 8 ∧ K i = 8 * c + j
  · obtain ⟨i, hi, hj, ei⟩ := e
    have a1 := VF_at u hK hI (w := 0) hj M (Nat.le_refl _) i hi ei
    rw [a1.1, bt_0]
    have h2 := hE i hi
    rw [show K i / 8 = c by omega, show K i % 8 = j by omega] at h2
    have hd := (u.2.1 c hc).2.2
    have h3 : ¬ bt (U 1 c) j = 1 := fun z => by
      have := bt_and.mpr ⟨z, h2⟩
      rw [hd, bt_0] at this
      exact absurd this (by decide)
    rw [bt_tb]
    simp [h3]
  · have no : ∀ i, i < M → K i ≠ 8 * c + j ∨ 8 ≤ j := fun i hi => by
      by_cases z : j < 8
      · exact Or.inl (fun q => e ⟨i, hi, z, q⟩)
      · exact Or.inr (by omega)
    exact (VF_off u hK hI (w := 0) M (Nat.le_refl _) no hc).1
def nxOk (j : Nat) : Bool := (List.range 64).all (fun i => (List.range 12).all (fun k => (Nat.beq (bt ((64 * j + i + 1) ^^^ (64 * j + i)) k) 1) || Nat.beq (bt ((64 * j + i + 1) ^^^ (64 * j + i)) (k + 1)) 0))
theorem nx_all : (List.range 64).all nxOk = true := by decide +kernel
theorem nx_1 {w k : Nat} (hw : w < 4096) (hk : k < 12) (e : bt ((w + 1) ^^^ w) k = 0) : bt ((w + 1) ^^^ w) (k + 1) = 0 := by
  have h1 := List.all_eq_true.mp nx_all (w / 64) (List.mem_range.mpr (by omega))
  have h2 := List.all_eq_true.mp h1 (w % 64) (List.mem_range.mpr (by omega))
  have h3 := List.all_eq_true.mp h2 k (List.mem_range.mpr hk)
  rw [show 64 * (w / 64) + w % 64 = w by omega, e] at h3
  rcases (Bool.or_eq_true _ _).mp h3 with z | z
  · exact absurd z (by decide)
  · exact Nat.eq_of_beq_eq_true z
end PLA
