/-! orders: the class's next order, the reference's next line -/
section ADV
variable {X : Xs} {h : Hp} {Q : Qt} {V : Vw} {n : Nat} {cs : Nat → Nat} {L : List Nat}
theorem t_swap {a b : Nat} (ha : a < 6) (hb : b < 6) (q : Q none (up2 (up2 h.1 47 a (h.1 47 b)) 47 b (h.1 47 a), h.2)) : Go X m_X2_swap 0 [.ref 7, .int (nI a), .int (nI b), .null] [] h Q :=
  vg ⟨a, rfl, ha, b, rfl, hb, a, rfl, ha, b, rfl, hb, q⟩
theorem rz_1 {k : Nat} (c : gt L (k + 1) < gt L k) : rzL L (k + 1) = rzL L k := by
  show (if gt L (k + 1) < gt L k then rzL L k else k + 1) = _
  rw [if_pos c]
theorem rz_0 {k : Nat} (c : ¬ gt L (k + 1) < gt L k) : rzL L (k + 1) = k + 1 := by
  show (if gt L (k + 1) < gt L k then rzL L k else k + 1) = _
  rw [if_neg c]
theorem ab_1 {v j : Nat} (c : gt L (j + 1) < v) : abL L v (j + 1) = abL L v j := by
  show (if gt L (j + 1) < v then abL L v j else j + 1) = _
  rw [if_pos c]
theorem ab_0 {v j : Nat} (c : ¬ gt L (j + 1) < v) : abL L v (j + 1) = j + 1 := by
  show (if gt L (j + 1) < v then abL L v j else j + 1) = _
  rw [if_neg c]
theorem rv_1 {m a b : Nat} (c : a < b) : rvL (m + 1) L a b = rvL m (swL L a b) (a + 1) (b - 1) := by
  show (if a < b then rvL m (swL L a b) (a + 1) (b - 1) else L) = _
  rw [if_pos c]
theorem rv_0 {a b : Nat} (c : ¬ a < b) : ∀ m, rvL m L a b = L
  | 0 => rfl
  | m + 1 => by
    show (if a < b then rvL m (swL L a b) (a + 1) (b - 1) else L) = _
    rw [if_neg c]
theorem ar_le {f : Nat → Nat → Int32} {C : Nat} (co : csOk n cs) (al : AL n L) (ar : AR f C n cs L) {a b : Nat} (ha : a < n) (hb : b < n) : f C a ≤ f C b ↔ gt L a ≤ gt L b := by
  rw [ar a ha, ar b hb]
  exact cs_leI co (al.2 a ha) (al.2 b hb)
theorem t_riseC (hn : n ≤ 6) (al : AL n L) (co : csOk n cs) (ar : AR h.1 47 n cs L) : ∀ k, k < n → (rzL L k = 0 → Go X m_X2_advance 34 [.ref 7, .int (-1), .null, .null, .null] [] h Q) → (∀ i, rzL L k = i + 1 → Go X m_X2_advance 34 [.ref 7, .int (nI i), .null, .null, .null] [] h Q) → Go X m_X2_advance 7 [.ref 7, .int (nI k + (-1)), .null, .null, .null] [] h Q
  | 0, _, a, _ => vc_ok (st := [34]) 40 (br_t (by decide) (a rfl))
  | k + 1, hk, a, b => by
    rw [pk_m1]
    have kk := ar_le co al ar (a := k) (b := k + 1) (by omega) hk
    by_cases c : gt L (k + 1) < gt L k
    · rw [rz_1 c] at a b
      exact vc_ok (st := [7, 34]) 100 (br_f (nI_pos (by omega)) ⟨k, rfl, by omega, k + 1, nI_1 k, by omega, br_f (fun z => absurd (kk.mp z) (by omega)) (t_riseC hn al co ar k (by omega) a b)⟩)
    · exact vc_ok (st := [7, 34]) 100 (br_f (nI_pos (by omega)) ⟨k, rfl, by omega, k + 1, nI_1 k, by omega, br_t (kk.mpr (by omega)) (b k (rz_0 c))⟩)
theorem t_aboveC (hn : n ≤ 6) (al : AL n L) (co : csOk n cs) (ar : AR h.1 47 n cs L) {i : Nat} (hi : i + 1 < n) (hv : ¬ gt L (i + 1) < gt L i) : ∀ j, i < j → j < n → Go X m_X2_advance 72 [.ref 7, .int (nI i), .int (nI (abL L (gt L i) j)), .null, .null] [] h Q → Go X m_X2_advance 46 [.ref 7, .int (nI i), .int (nI j), .null, .null] [] h Q
  | 0, hij, _, _ => absurd hij (by omega)
  | j + 1, hij, hj, g => by
    have kk := ar_le co al ar (a := i) (b := j + 1) (by omega) hj
    by_cases c : gt L (j + 1) < gt L i
    · rw [ab_1 c] at g
      have : i ≠ j := fun z => hv (by rw [z]; rw [z] at c; exact c)
      have nx := t_aboveC hn al co ar hi hv j (by omega) (by omega) g
      rw [← pk_m1 j] at nx
      exact vc_ok (st := [46, 72]) 100 (br_f (nI_ge (by omega) (by omega)) ⟨j + 1, rfl, by omega, i, rfl, by omega, br_f (fun z => absurd (kk.mp z) (by omega)) nx⟩)
    · rw [ab_0 c] at g
      exact vc_ok (st := [46, 72]) 100 (br_f (nI_ge (by omega) (by omega)) ⟨j + 1, rfl, by omega, i, rfl, by omega, br_t (kk.mpr (by omega)) g⟩)
theorem t_revC (hn : n ≤ 6) {l1 l2 : Int32} (q : ∀ f : Nat → Nat → Int32, AR f 47 n cs L → (∀ c, c ≠ 47 → f c = h.1 c) → Q none (f, h.2)) : ∀ (m : Nat) (M : List Nat) (a b : Nat) (f : Nat → Nat → Int32), b - a ≤ m → a ≤ n → b < n → AL n M → AR f 47 n cs M → rvL m M a b = L → (∀ c, c ≠ 47 → f c = h.1 c) → Go X m_X2_advance 90 [.ref 7, .int l1, .int l2, .int (nI a), .int (nI b)] [] (f, h.2) Q := by
  have ex : ∀ (M : List Nat) (m a b : Nat) (f : Nat → Nat → Int32), ¬ a < b → a ≤ n → AR f 47 n cs M → rvL m M a b = L → (∀ c, c ≠ 47 → f c = h.1 c) → Go X m_X2_advance 90 [.ref 7, .int l1, .int l2, .int (nI a), .int (nI b)] [] (f, h.2) Q := by
    intro M m a b f c ha ar e ff
    rw [rv_0 c] at e
    subst e
    exact vg (br_t (nI_le (by omega) (by omega)) (q f ar ff))
  intro m
  induction m with
  | zero => exact fun M a b f hm ha hb al ar e ff => ex M 0 a b f (by omega) ha ar e ff
  | succ m ih =>
    intro M a b f hm ha hb al ar e ff
    by_cases c : a < b
    case neg => exact ex M (m + 1) a b f c ha ar e ff
    rw [rv_1 c] at e
    obtain ⟨b, rfl⟩ : ∃ d, b = d + 1 := ⟨b - 1, by omega⟩
    refine vg (br_f (nI_ge c (by omega)) (t_swap (h := (f, h.2)) (by omega) (by omega) ?_))
    have nx := ih (swL M a (b + 1)) (a + 1) b (up2 (up2 f 47 a (f 47 (b + 1))) 47 (b + 1) (f 47 a)) (by omega) (by omega) (by omega) (sw_al al (by omega) hb) (ar_sw al ar (by omega) hb) e (fun c hc => by rw [up2_ne hc, up2_ne hc]; exact ff c hc)
    rw [← nI_1 a, ← pk_m1 b] at nx
    exact vc_ok (st := [90]) 100 nx
theorem t_advance (hn : n ≤ 6) (al : AL n L) (co : csOk n cs) (ar : AR h.1 47 n cs L) (h0 : h.1 7 0 = nI n) (q : ∀ f : Nat → Nat → Int32, AR f 47 n cs (nxL n L) → (∀ c, c ≠ 47 → f c = h.1 c) → Q none (f, h.2)) : Go X m_X2_advance 0 [.ref 7, .null, .null, .null, .null] [] h Q := by
  cases n with
  | zero =>
    refine vc_ok (st := [34]) 100 (br_t (show h.1 7 0 - nI 2 < 0 by rw [h0]; decide) (vg (br_f (show ¬ 0 ≤ h.1 7 0 - nI 2 by rw [h0]; decide) (q h.1 (fun j hj => absurd hj (by omega)) (fun _ _ => rfl)))))
  | succ m =>
    have e2 : nI (m + 1) - nI 2 = nI m + (-1) := by
      rw [← nI_1]
      generalize nI m = z
      rw [Int32.sub_eq_add_neg, Int32.add_assoc]
      rfl
    refine vc_ok (st := [7]) 100 ?_
    show Go X m_X2_advance 7 [.ref 7, .int (h.1 7 0 - nI 2), .null, .null, .null] [] h Q
    rw [h0, e2]
    refine t_riseC hn al co ar m (by omega) (fun rz => ?_) (fun i rz => ?_)
    · have e : nxL (m + 1) L = L := by
        unfold nxL
        rw [show m + 1 - 1 = m by omega, rz]
      rw [e] at q
      exact vg (br_f (by decide) (q h.1 ar (fun _ _ => rfl)))
    · have e : nxL (m + 1) L = rvL (m + 1) (swL L i (abL L (gt L i) m)) (i + 1) m := by
        unfold nxL
        rw [show m + 1 - 1 = m by omega, rz]
      rw [e] at q
      have r1 := rz_le L m
      rw [rz] at r1
      have hv := rz_ge L m i rz
      have hb := ab_b L hv m (by omega)
      refine vc_ok (st := [46]) 100 (br_t (nI_pos' (by omega)) ?_)
      show Go X m_X2_advance 46 [.ref 7, .int (nI i), .int (h.1 7 0 - 1), .null, .null] [] h Q
      rw [h0, nI_pred]
      refine t_aboveC hn al co ar (by omega) hv m (by omega) (by omega) (vg (t_swap (by omega) (by omega) (vc_ok (st := [90]) 100 ?_)))
      show Go X m_X2_advance 90 [.ref 7, .int (nI i), .int (nI (abL L (gt L i) m)), .int (nI i + 1), .int (h.1 7 0 - 1)] [] (up2 (up2 h.1 47 i (h.1 47 (abL L (gt L i) m))) 47 (abL L (gt L i) m) (h.1 47 i), h.2) Q
      rw [h0, nI_pred, nI_1]
      exact t_revC hn q (m + 1) _ (i + 1) m _ (by omega) (by omega) (by omega) (sw_al al (by omega) (by omega)) (ar_sw al ar (by omega) (by omega)) rfl (fun c hc => by rw [up2_ne hc, up2_ne hc])
-- ===== the reference
theorem t_riseM (hn : n ≤ 6) (al : AL n L) (co : csOk n cs) (ar : AR h.1 61 n cs L) : ∀ k, k < n → (rzL L k = 0 → Go X m_X7_nextLine 31 [.ref 1, .int (nI n), .int (-1), .null, .null, .null, .null] [] h Q) → (∀ i, rzL L k = i + 1 → Go X m_X7_nextLine 31 [.ref 1, .int (nI n), .int (nI i), .null, .null, .null, .null] [] h Q) → Go X m_X7_nextLine 4 [.ref 1, .int (nI n), .int (nI k + (-1)), .null, .null, .null, .null] [] h Q
  | 0, _, a, _ => vc_ok (st := [31]) 40 (br_t (by decide) (a rfl))
  | k + 1, hk, a, b => by
    rw [pk_m1]
    have kk := ar_le co al ar (a := k) (b := k + 1) (by omega) hk
    by_cases c : gt L (k + 1) < gt L k
    · rw [rz_1 c] at a b
      exact vc_ok (st := [4, 31]) 100 (br_f (nI_pos (by omega)) ⟨k, rfl, by omega, k + 1, nI_1 k, by omega, br_f (fun z => absurd (kk.mp z) (by omega)) (t_riseM hn al co ar k (by omega) a b)⟩)
    · exact vc_ok (st := [4, 31]) 100 (br_f (nI_pos (by omega)) ⟨k, rfl, by omega, k + 1, nI_1 k, by omega, br_t (kk.mpr (by omega)) (b k (rz_0 c))⟩)
theorem t_aboveM (hn : n ≤ 6) (al : AL n L) (co : csOk n cs) (ar : AR h.1 61 n cs L) {i : Nat} (hi : i + 1 < n) (hv : ¬ gt L (i + 1) < gt L i) : ∀ j, i < j → j < n → Go X m_X7_nextLine 62 [.ref 1, .int (nI n), .int (nI i), .int (nI (abL L (gt L i) j)), .null, .null, .null] [] h Q → Go X m_X7_nextLine 41 [.ref 1, .int (nI n), .int (nI i), .int (nI j), .null, .null, .null] [] h Q
  | 0, hij, _, _ => absurd hij (by omega)
  | j + 1, hij, hj, g => by
    have kk := ar_le co al ar (a := i) (b := j + 1) (by omega) hj
    by_cases c : gt L (j + 1) < gt L i
    · rw [ab_1 c] at g
      have : i ≠ j := fun z => hv (by rw [z]; rw [z] at c; exact c)
      have nx := t_aboveM hn al co ar hi hv j (by omega) (by omega) g
      rw [← pk_m1 j] at nx
      exact vc_ok (st := [41, 62]) 100 ⟨j + 1, rfl, by omega, i, rfl, by omega, br_f (fun z => absurd (kk.mp z) (by omega)) nx⟩
    · rw [ab_0 c] at g
      exact vc_ok (st := [41, 62]) 100 ⟨j + 1, rfl, by omega, i, rfl, by omega, br_t (kk.mpr (by omega)) g⟩
theorem t_revM (hn : n ≤ 6) {l1 l2 : Int32} (q : ∀ f : Nat → Nat → Int32, AR f 61 n cs L → (∀ c, c ≠ 61 → f c = h.1 c) → Q (some (.int 1)) (f, h.2)) : ∀ (m : Nat) (M : List Nat) (a b : Nat) (o : Int32) (f : Nat → Nat → Int32), b - a ≤ m → a ≤ n → b < n → AL n M → AR f 61 n cs M → rvL m M a b = L → (∀ c, c ≠ 61 → f c = h.1 c) → Go X m_X7_nextLine 100 [.ref 1, .int (nI n), .int l1, .int l2, .int o, .int (nI a), .int (nI b)] [] (f, h.2) Q := by
  have ex : ∀ (M : List Nat) (m a b : Nat) (o : Int32) (f : Nat → Nat → Int32), ¬ a < b → a ≤ n → AR f 61 n cs M → rvL m M a b = L → (∀ c, c ≠ 61 → f c = h.1 c) → Go X m_X7_nextLine 100 [.ref 1, .int (nI n), .int l1, .int l2, .int o, .int (nI a), .int (nI b)] [] (f, h.2) Q := by
    intro M m a b o f c ha ar e ff
    rw [rv_0 c] at e
    subst e
    exact vg (br_t (nI_le (by omega) (by omega)) ⟨Or.inr rfl, q f ar ff⟩)
  intro m
  induction m with
  | zero => exact fun M a b o f hm ha hb al ar e ff => ex M 0 a b o f (by omega) ha ar e ff
  | succ m ih =>
    intro M a b o f hm ha hb al ar e ff
    by_cases c : a < b
    case neg => exact ex M (m + 1) a b o f c ha ar e ff
    rw [rv_1 c] at e
    obtain ⟨b, rfl⟩ : ∃ d, b = d + 1 := ⟨b - 1, by omega⟩
    have nx := ih (swL M a (b + 1)) (a + 1) b (f 61 a) (up2 (up2 f 61 a (f 61 (b + 1))) 61 (b + 1) (f 61 a)) (by omega) (by omega) (by omega) (sw_al al (by omega) hb) (ar_sw al ar (by omega) hb) e (fun c hc => by rw [up2_ne hc, up2_ne hc]; exact ff c hc)
    rw [← nI_1 a, ← pk_m1 b] at nx
    exact vc_ok (st := [100]) 100 (br_f (nI_ge c (by omega)) ⟨a, rfl, by omega, b + 1, rfl, by omega, a, rfl, by omega, b + 1, rfl, by omega, nx⟩)
theorem t_nextLine (hn : n ≤ 6) (al : AL n L) (co : csOk n cs) (ar : AR h.1 61 n cs L) (a : rzL L (n - 1) ≠ 0 → ∀ f : Nat → Nat → Int32, AR f 61 n cs (nxL n L) → (∀ c, c ≠ 61 → f c = h.1 c) → Q (some (.int 1)) (f, h.2)) (b : rzL L (n - 1) = 0 → Q (some (.int 0)) h) : Go X m_X7_nextLine 0 [.ref 1, .int (nI n), .null, .null, .null, .null, .null] [] h Q := by
  cases n with
  | zero => exact vc_ok (st := [31]) 100 (br_t (show nI 0 - nI 2 < 0 by decide) (vg (br_f (show ¬ 0 ≤ nI 0 - nI 2 by decide) ⟨Or.inl rfl, b rfl⟩)))
  | succ m =>
    have e2 : nI (m + 1) - nI 2 = nI m + (-1) := by
      rw [← nI_1]
      generalize nI m = z
      rw [Int32.sub_eq_add_neg, Int32.add_assoc]
      rfl
    rw [show m + 1 - 1 = m by omega] at a b
    refine vc_ok (st := [4]) 100 ?_
    show Go X m_X7_nextLine 4 [.ref 1, .int (nI (m + 1)), .int (nI (m + 1) - nI 2), .null, .null, .null, .null] [] h Q
    rw [e2]
    refine t_riseM hn al co ar m (by omega) (fun rz => ?_) (fun i rz => ?_)
    · exact vg (br_f (by decide) ⟨Or.inl rfl, b rz⟩)
    · have e : nxL (m + 1) L = rvL (m + 1) (swL L i (abL L (gt L i) m)) (i + 1) m := by
        unfold nxL
        rw [show m + 1 - 1 = m by omega, rz]
      rw [e] at a
      have r1 := rz_le L m
      rw [rz] at r1
      have hv := rz_ge L m i rz
      have hb := ab_b L hv m (by omega)
      refine vc_ok (st := [41]) 100 (br_t (nI_pos' (by omega)) ?_)
      show Go X m_X7_nextLine 41 [.ref 1, .int (nI (m + 1)), .int (nI i), .int (nI (m + 1) - 1), .null, .null, .null] [] h Q
      rw [nI_pred]
      refine t_aboveM hn al co ar (by omega) hv m (by omega) (by omega) (vc_ok (st := [100]) 100 ⟨i, rfl, by omega, abL L (gt L i) m, rfl, by omega, i, rfl, by omega, abL L (gt L i) m, rfl, by omega, ?_⟩)
      show Go X m_X7_nextLine 100 [.ref 1, .int (nI (m + 1)), .int (nI i), .int (nI (abL L (gt L i) m)), .int (h.1 61 i), .int (nI i + 1), .int (nI (m + 1) - 1)] [] (up2 (up2 h.1 61 i (h.1 61 (abL L (gt L i) m))) 61 (abL L (gt L i) m) (h.1 61 i), h.2) Q
      rw [nI_pred, nI_1]
      exact t_revM hn (a (by rw [rz]; omega)) (m + 1) _ (i + 1) m _ _ (by omega) (by omega) (by omega) (sw_al al (by omega) (by omega)) (ar_sw al ar (by omega) (by omega)) rfl (fun c hc => by rw [up2_ne hc, up2_ne hc])
end ADV
