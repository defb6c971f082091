/-! runs: the longest across, the longest down -/
def isRun (g : Nat → Nat) (i L : Nat) : Prop := ∀ j, j + 1 < L → g (i + j) = g (i + j + 1)
theorem seq_1 (g : Nat → Nat) (m : Nat) : ∀ n, 0 < n → ∀ L, 1 ≤ L → L ≤ n → (isRun g (n - L) L ↔ L ≤ (seqR g n (0, m)).1)
  | 0, h, _, _, _ => absurd h (by omega)
  | n + 1, _, L, h1, h2 => by
    have hs : (seqR g (n + 1) (0, m)).1 = cond (Nat.blt 0 n && Nat.beq (g n) (g (n - 1))) ((seqR g n (0, m)).1 + 1) 1 := rfl
    rw [hs]
    by_cases hL : L = 1
    · subst hL
      refine ⟨fun _ => ?_, fun _ j hj => absurd hj (by omega)⟩
      cases Nat.blt 0 n && Nat.beq (g n) (g (n - 1))
      · exact Nat.le_refl _
      · show 1 ≤ _ + 1
        omega
    · have hn : 0 < n := by omega
      have hb : Nat.blt 0 n = true := by simp [Nat.blt_eq]; omega
      rw [hb, Bool.true_and]
      have ih := seq_1 g m n hn (L - 1) (by omega) (by omega)
      have e0 : n - (L - 1) = n + 1 - L := by omega
      rw [e0] at ih
      cases hq : Nat.beq (g n) (g (n - 1)) with
      | true =>
        have hg := beq_eq hq
        show _ ↔ L ≤ (seqR g n (0, m)).1 + 1
        constructor
        · intro hr
          have := ih.mp (fun j hj => hr j (by omega))
          omega
        · intro hr j hj
          have := ih.mpr (by omega)
          by_cases e : j + 1 < L - 1
          · exact this j e
          · rw [show n + 1 - L + j = n - 1 by omega, show n - 1 + 1 = n by omega]
            exact hg.symm
      | false =>
        show _ ↔ L ≤ 1
        constructor
        · intro hr
          have := hr (L - 2) (by omega)
          rw [show n + 1 - L + (L - 2) = n - 1 by omega, show n - 1 + 1 = n by omega] at this
          rw [this] at hq
          simp at hq
        · intro z
          omega
theorem seq_2 (g : Nat → Nat) : ∀ n L, 1 ≤ L → (L ≤ (seqR g n (0, 0)).2 ↔ ∃ i, i + L ≤ n ∧ isRun g i L)
  | 0, L, h1 => by
    constructor
    · intro z
      have z : L ≤ 0 := z
      omega
    · rintro ⟨i, h2, -⟩
      omega
  | n + 1, L, h1 => by
    have ih := seq_2 g n L h1
    have hs : (seqR g (n + 1) (0, 0)).2 = cond (Nat.blt (seqR g n (0, 0)).2 (seqR g (n + 1) (0, 0)).1) (seqR g (n + 1) (0, 0)).1 (seqR g n (0, 0)).2 := rfl
    have hm : (seqR g (n + 1) (0, 0)).2 = max (seqR g n (0, 0)).2 (seqR g (n + 1) (0, 0)).1 := by
      rw [hs]
      cases hb : Nat.blt (seqR g n (0, 0)).2 (seqR g (n + 1) (0, 0)).1 with
      | true =>
        have := blt_lt hb
        simp only [cond_true]
        omega
      | false =>
        have : ¬ (seqR g n (0, 0)).2 < (seqR g (n + 1) (0, 0)).1 := fun z => by
          rw [show Nat.blt (seqR g n (0, 0)).2 (seqR g (n + 1) (0, 0)).1 = true by simpa [Nat.blt_eq] using z] at hb
          cases hb
        simp only [cond_false]
        omega
    have r1 := seq_1 g 0 (n + 1) (by omega)
    have rle : (seqR g (n + 1) (0, 0)).1 ≤ n + 1 := by
      rcases Nat.lt_or_ge (n + 1) (seqR g (n + 1) (0, 0)).1 with z | z
      · -- a run ending there is at most as long as the row
        have : ∀ k, (seqR g k (0, 0)).1 ≤ k := by
          intro k
          induction k with
          | zero => exact Nat.le_refl _
          | succ k ih2 =>
            show cond _ ((seqR g k (0, 0)).1 + 1) 1 ≤ k + 1
            cases Nat.blt 0 k && Nat.beq (g k) (g (k - 1))
            · show 1 ≤ k + 1
              omega
            · show (seqR g k (0, 0)).1 + 1 ≤ k + 1
              omega
        exact this (n + 1)
      · exact z
    rw [hm]
    constructor
    · intro z
      rcases Nat.lt_or_ge (seqR g n (0, 0)).2 L with w | w
      · exact ⟨n + 1 - L, by omega, (r1 L h1 (by omega)).mpr (by omega)⟩
      · obtain ⟨i, a, b⟩ := ih.mp w
        exact ⟨i, by omega, b⟩
    · rintro ⟨i, a, b⟩
      by_cases e : i + L ≤ n
      · have := ih.mpr ⟨i, e, b⟩
        omega
      · have e2 : i = n + 1 - L := by omega
        rw [e2] at b
        have := (r1 L h1 (by omega)).mp b
        omega
section LNG
variable {X : Xs} {h : Hp} {Q : Qt} {V : Vw}
def lngV (V : Vw) : Nat → Nat
  | 0 => 0
  | k + 1 => max (lngV V k) (acr (rw' V k))
abbrev col (V : Vw) (t : Nat) : Nat → Nat := fun i => bt (rw' V i) t
def tgtV (V : Vw) : Nat → Nat
  | 0 => 0
  | t + 1 => (seqR (col V t) (V 0 1) (0, tgtV V t)).2
def RunV (V : Vw) (L n : Nat) : Prop := ∃ t, t < n ∧ ∃ i, i + L ≤ V 0 1 ∧ isRun (col V t) i L
theorem tgt_iff (V : Vw) {L : Nat} (hL : 1 ≤ L) : ∀ n, L ≤ tgtV V n ↔ RunV V L n
  | 0 => by
    constructor
    · intro z
      have z : L ≤ 0 := z
      omega
    · rintro ⟨t, ht, -⟩
      omega
  | n + 1 => by
    have ih := tgt_iff V hL n
    show L ≤ (seqR (col V n) (V 0 1) (0, tgtV V n)).2 ↔ _
    rw [(seq_m _ _ _).2]
    have s2 := seq_2 (col V n) (V 0 1) L hL
    constructor
    · intro z
      rcases Nat.lt_or_ge (tgtV V n) L with w | w
      · exact ⟨n, by omega, s2.mp (by omega)⟩
      · obtain ⟨t, a, b⟩ := ih.mp w
        exact ⟨t, by omega, b⟩
    · rintro ⟨t, a, b⟩
      by_cases e : t = n
      · subst e
        have := s2.mpr b
        omega
      · have := ih.mpr ⟨t, by omega, b⟩
        omega
theorem acrL_le : ∀ n al l, acrL n al l ≤ l + n
  | 0, _, l => Nat.le_refl _
  | n + 1, al, l => by
    unfold acrL
    cases Nat.beq al 0
    · have := acrL_le n (al &&& al / 2) (l + 1)
      simp only [cond_false]
      omega
    · simp only [cond_true]
      omega
theorem acr_le (u : Nat) : acr u ≤ 16 := acrL_le 15 _ 1
theorem lng_le (V : Vw) : ∀ k, lngV V k ≤ 16
  | 0 => by show 0 ≤ 16; omega
  | k + 1 => by
    have := lng_le V k
    have := acr_le (rw' V k)
    show max _ _ ≤ 16
    omega
theorem t_longestAcross (v : okV V) (cl : Cl V h.1) (q : Q (some (.int (nI (lngV V (V 0 1))))) h) : Go X m_X0_longestAcross 0 [.ref 5, .null, .null] [] h Q := by
  have h1 := v.1
  refine vc_ok (st := [4]) 40 ?_
  refine down (fun k => Go X m_X0_longestAcross 4 [.ref 5, .int (nI (lngV V k)), .int (nI k)] [] h Q) (V 0 1) ?_ ?_ 0 (by omega)
  · exact vg (br_t (by show h.1 5 6 ≤ _; rw [cl.2.1]; exact Int32.le_refl _) q)
  · intro k hk ih
    have h2 := v.2.2.2.1 k hk
    have e1 : h.1 39 (V 4 k) = nI (acr (rw' V k)) := (cl.2.2.2.1 _ h2).2.2.2
    refine vc_ok (st := [4]) 40 (br_f (by show ¬ h.1 5 6 ≤ _; rw [cl.2.1]; exact nI_ge hk (by omega)) ⟨k, rfl, by omega, V 4 k, cl.2.2.2.2 k hk, by omega, ?_⟩)
    show Go X m_X0_longestAcross 4 [.ref 5, .int (if nI (lngV V k) < h.1 39 (V 4 k) then h.1 39 (V 4 k) else nI (lngV V k)), .int (nI k + 1)] [] h Q
    have l1 := lng_le V k
    have l2 := acr_le (rw' V k)
    have e2 : (if nI (lngV V k) < h.1 39 (V 4 k) then h.1 39 (V 4 k) else nI (lngV V k)) = nI (lngV V (k + 1)) := by
      rw [e1]
      show _ = nI (max (lngV V k) (acr (rw' V k)))
      by_cases e : lngV V k < acr (rw' V k)
      · rw [if_pos (nI_lt e (by omega)), Nat.max_eq_right (by omega)]
      · rw [if_neg (nI_nlt (by omega) (by omega)), Nat.max_eq_left (by omega)]
    rw [e2, nI_1]
    exact ih
/-- one more of a run: what the reference's two loops do at their end -/
theorem mx_c {r m : Nat} : cond (Nat.blt m r) r m = if r ≤ m then m else r := by
  by_cases e : m < r
  · rw [show Nat.blt m r = true by simpa [Nat.blt_eq] using e, if_neg (by omega)]; rfl
  · rw [if_pos (by omega)]
    cases hb : Nat.blt m r
    · rfl
    · exact absurd (blt_lt hb) e
theorem seq_le1 (g : Nat → Nat) (m : Nat) : ∀ k, (seqR g k (0, m)).1 ≤ k
  | 0 => Nat.le_refl _
  | k + 1 => by
    show cond _ ((seqR g k (0, m)).1 + 1) 1 ≤ k + 1
    have := seq_le1 g m k
    cases Nat.blt 0 k && Nat.beq (g k) (g (k - 1))
    · show 1 ≤ k + 1
      omega
    · show (seqR g k (0, m)).1 + 1 ≤ k + 1
      omega
theorem seq_le2 (g : Nat → Nat) {m B : Nat} (hm : m ≤ B) : ∀ k, k ≤ B → (seqR g k (0, m)).2 ≤ B
  | 0, _ => hm
  | k + 1, hk => by
    have h1 := seq_le1 g m (k + 1)
    have h2 := seq_le2 g hm k (by omega)
    have hs : (seqR g (k + 1) (0, m)).2 = cond (Nat.blt (seqR g k (0, m)).2 (seqR g (k + 1) (0, m)).1) (seqR g (k + 1) (0, m)).1 (seqR g k (0, m)).2 := rfl
    rw [hs]
    cases Nat.blt (seqR g k (0, m)).2 (seqR g (k + 1) (0, m)).1
    · exact h2
    · show (seqR g (k + 1) (0, m)).1 ≤ B
      omega
theorem tgt_le (v : okV V) : ∀ t, tgtV V t ≤ 20
  | 0 => by show 0 ≤ 20; omega
  | t + 1 => seq_le2 _ (tgt_le v t) _ v.1.2.1
theorem t_longestM (v : okV V) (rm : RM V h 53) (mc : Mc V h.1 (V 0 1)) (q : Q (some (.int (nI (lngV V (V 0 1))))) h) : Go X m_X7_longest 0 [.ref 1, .null, .null, .null, .null] [] h Q := by
  have h1 := v.1
  have key : ∀ k, k ≤ V 0 1 → ∀ z w : Value, Go X m_X7_longest 4 [.ref 1, .int (nI (lngV V k)), .int (nI k), z, w] [] h Q := by
    refine down _ (V 0 1) ?_ ?_
    · intro z w
      exact vg ⟨1, rfl, by decide, br_t (by show h.1 53 1 ≤ _; rw [rm.1.2.1]; exact Int32.le_refl _) q⟩
    · intro k hk ih z w
      have lk := lng_le V k
      have hu := rw_lt V k
      refine vc_ok (st := [19]) 40 ⟨1, rfl, by decide, br_f (by show ¬ h.1 53 1 ≤ _; rw [rm.1.2.1]; exact nI_ge hk (by omega)) ?_⟩
      refine down (fun t => Go X m_X7_longest 19 [.ref 1, .int (nI (seqR (bt (rw' V k)) t (0, lngV V k)).2), .int (nI k), .int (nI (seqR (bt (rw' V k)) t (0, lngV V k)).1), .int (nI t)] [] h Q) 16 ?_ ?_ 0 (by omega)
      · rw [acr_row hu]
        refine vc_ok (st := [4]) 40 (br_t (Int32.le_refl _) ?_)
        have := ih (.int (nI (seqR (bt (rw' V k)) 16 (0, lngV V k)).1)) (.int (nI 16))
        rw [← nI_1] at this
        exact this
      · intro t ht ih2
        have b1 := seq_le1 (bt (rw' V k)) (lngV V k) t
        have b2 := seq_le2 (bt (rw' V k)) (B := 16) lk t (by omega)
        have b3 := seq_le1 (bt (rw' V k)) (lngV V k) (t + 1)
        have hs : (seqR (bt (rw' V k)) (t + 1) (0, lngV V k)).2 = if (seqR (bt (rw' V k)) (t + 1) (0, lngV V k)).1 ≤ (seqR (bt (rw' V k)) t (0, lngV V k)).2 then (seqR (bt (rw' V k)) t (0, lngV V k)).2 else (seqR (bt (rw' V k)) (t + 1) (0, lngV V k)).1 := by rw [← mx_c]; rfl
        -- from place 65, the new run on the stack
        have L65 : Go X m_X7_longest 65 [.ref 1, .int (nI (seqR (bt (rw' V k)) t (0, lngV V k)).2), .int (nI k), .int (nI (seqR (bt (rw' V k)) t (0, lngV V k)).1), .int (nI t)] [.int (nI (seqR (bt (rw' V k)) (t + 1) (0, lngV V k)).1)] h Q := by
          rw [← nI_1] at ih2
          by_cases e : (seqR (bt (rw' V k)) (t + 1) (0, lngV V k)).1 ≤ (seqR (bt (rw' V k)) t (0, lngV V k)).2
          · rw [hs, if_pos e] at ih2
            exact vc_ok (st := [19]) 40 (br_t (nI_le e (by omega)) ih2)
          · rw [hs, if_neg e] at ih2
            exact vc_ok (st := [19]) 40 (br_f (nI_ge (by omega) (by omega)) ih2)
        have h58 := mc k hk
        by_cases e0 : t = 0
        · subst e0
          exact vc_ok (st := [65]) 40 (br_f (by decide) (br_t (by decide) L65))
        · obtain ⟨s, rfl⟩ : ∃ s, t = s + 1 := ⟨t - 1, by omega⟩
          have hb : Nat.blt 0 (s + 1) = true := rfl
          have hr : (seqR (bt (rw' V k)) (s + 1 + 1) (0, lngV V k)).1 = cond (Nat.beq (bt (rw' V k) (s + 1)) (bt (rw' V k) s)) ((seqR (bt (rw' V k)) (s + 1) (0, lngV V k)).1 + 1) 1 := rfl
          have c1 : h.1 58 k >>> (nI (s + 1) &&& 31) &&& 1 = nI (bt (rw' V k) (s + 1)) := by rw [h58]; exact bitN (by omega) (by omega)
          have c2 : h.1 58 k >>> ((nI (s + 1) - 1) &&& 31) &&& 1 = nI (bt (rw' V k) s) := by rw [h58, nI_pred]; exact bitN (by omega) (by omega)
          have d1 := bt_le (rw' V k) (s + 1)
          have d2 := bt_le (rw' V k) s
          refine vc_ok (st := [65]) 40 (br_f (nI_ge ht (by decide)) (br_f (nI_nle (by omega) (by omega)) ⟨k, rfl, by omega, k, rfl, by omega, ?_⟩))
          by_cases e : bt (rw' V k) (s + 1) = bt (rw' V k) s
          · rw [hr, e, show Nat.beq (bt (rw' V k) s) (bt (rw' V k) s) = true by simp, cond_true, ← nI_1 (seqR (bt (rw' V k)) (s + 1) (0, lngV V k)).1] at L65
            exact brn_f (by show h.1 58 k >>> (nI (s + 1) &&& 31) &&& 1 = h.1 58 k >>> ((nI (s + 1) - 1) &&& 31) &&& 1; rw [c1, c2, e]) L65
          · rw [hr, beq_f e, cond_false] at L65
            exact brn_t (by show ¬ h.1 58 k >>> (nI (s + 1) &&& 31) &&& 1 = h.1 58 k >>> ((nI (s + 1) - 1) &&& 31) &&& 1; rw [c1, c2, nI_eq (by omega) (by omega)]; exact e) L65
  exact vc_ok (st := [4]) 40 (key 0 (by omega) .null .null)
theorem t_tightest (v : okV V) (rm : RM V h 53) (mc : Mc V h.1 (V 0 1)) (q : Q (some (.int (nI (tgtV V 16)))) h) : Go X m_X7_tightest 0 [.ref 1, .null, .null, .null, .null] [] h Q := by
  have h1 := v.1
  have key : ∀ t, t ≤ 16 → ∀ z w : Value, Go X m_X7_tightest 4 [.ref 1, .int (nI (tgtV V t)), .int (nI t), z, w] [] h Q := by
    refine down _ 16 ?_ ?_
    · intro z w
      exact vg (br_t (Int32.le_refl _) q)
    · intro t ht ih z w
      have lk := tgt_le v t
      refine vc_ok (st := [15]) 40 (br_f (nI_ge ht (by decide)) ?_)
      refine down (fun i => Go X m_X7_tightest 15 [.ref 1, .int (nI (seqR (col V t) i (0, tgtV V t)).2), .int (nI t), .int (nI (seqR (col V t) i (0, tgtV V t)).1), .int (nI i)] [] h Q) (V 0 1) ?_ ?_ 0 (by omega)
      · refine vc_ok (st := [4]) 40 ⟨1, rfl, by decide, br_t (by show h.1 53 1 ≤ _; rw [rm.1.2.1]; exact Int32.le_refl _) ?_⟩
        have := ih (.int (nI (seqR (col V t) (V 0 1) (0, tgtV V t)).1)) (.int (nI (V 0 1)))
        rw [← nI_1] at this
        exact this
      · intro i hi ih2
        have hlt : ¬ h.1 53 1 ≤ nI i := by rw [rm.1.2.1]; exact nI_ge hi (by omega)
        have b1 := seq_le1 (col V t) (tgtV V t) i
        have b2 := seq_le2 (col V t) (B := 20) lk i (by omega)
        have b3 := seq_le1 (col V t) (tgtV V t) (i + 1)
        have hs : (seqR (col V t) (i + 1) (0, tgtV V t)).2 = if (seqR (col V t) (i + 1) (0, tgtV V t)).1 ≤ (seqR (col V t) i (0, tgtV V t)).2 then (seqR (col V t) i (0, tgtV V t)).2 else (seqR (col V t) (i + 1) (0, tgtV V t)).1 := by rw [← mx_c]; rfl
        have L65 : Go X m_X7_tightest 65 [.ref 1, .int (nI (seqR (col V t) i (0, tgtV V t)).2), .int (nI t), .int (nI (seqR (col V t) i (0, tgtV V t)).1), .int (nI i)] [.int (nI (seqR (col V t) (i + 1) (0, tgtV V t)).1)] h Q := by
          rw [← nI_1] at ih2
          by_cases e : (seqR (col V t) (i + 1) (0, tgtV V t)).1 ≤ (seqR (col V t) i (0, tgtV V t)).2
          · rw [hs, if_pos e] at ih2
            exact vc_ok (st := [15]) 40 (br_t (nI_le e (by omega)) ih2)
          · rw [hs, if_neg e] at ih2
            exact vc_ok (st := [15]) 40 (br_f (nI_ge (by omega) (by omega)) ih2)
        by_cases e0 : i = 0
        · subst e0
          exact vc_ok (st := [65]) 40 ⟨1, rfl, by decide, br_f hlt (br_t (by decide) L65)⟩
        · obtain ⟨s, rfl⟩ : ∃ s, i = s + 1 := ⟨i - 1, by omega⟩
          have hr : (seqR (col V t) (s + 1 + 1) (0, tgtV V t)).1 = cond (Nat.beq (col V t (s + 1)) (col V t s)) ((seqR (col V t) (s + 1) (0, tgtV V t)).1 + 1) 1 := rfl
          have hu1 := rw_lt V (s + 1)
          have hu2 := rw_lt V s
          have c1 : h.1 58 (s + 1) >>> (nI t &&& 31) &&& 1 = nI (col V t (s + 1)) := by rw [mc (s + 1) hi]; exact bitN (by omega) (by omega)
          have c2 : h.1 58 s >>> (nI t &&& 31) &&& 1 = nI (col V t s) := by rw [mc s (by omega)]; exact bitN (by omega) (by omega)
          have d1 : col V t (s + 1) ≤ 1 := bt_le _ _
          have d2 : col V t s ≤ 1 := bt_le _ _
          refine vc_ok (st := [65]) 40 ⟨1, rfl, by decide, br_f hlt (br_f (nI_nle (by omega) (by omega)) ⟨s + 1, rfl, by omega, s, nI_pred s, by omega, ?_⟩)⟩
          by_cases e : col V t (s + 1) = col V t s
          · rw [hr, e, show Nat.beq (col V t s) (col V t s) = true by simp, cond_true, ← nI_1 (seqR (col V t) (s + 1) (0, tgtV V t)).1] at L65
            exact brn_f (by show h.1 58 (s + 1) >>> (nI t &&& 31) &&& 1 = h.1 58 s >>> (nI t &&& 31) &&& 1; rw [c1, c2, e]) L65
          · rw [hr, beq_f e, cond_false] at L65
            exact brn_t (by show ¬ h.1 58 (s + 1) >>> (nI t &&& 31) &&& 1 = h.1 58 s >>> (nI t &&& 31) &&& 1; rw [c1, c2, nI_eq (by omega) (by omega)]; exact e) L65
  exact vc_ok (st := [4]) 40 (key 0 (by omega) .null .null)
end LNG
