/-! mark -/
section MARK
variable {X : Xs} {h : Hp} {x y z w : Int32} {Q : Qt} {V : Vw} {s b n : Nat}
theorem popF0 (d : Nat) : ∀ n, popF d n = 0 → d % 2 ^ n = 0
  | 0, _ => by rw [Nat.pow_zero]; exact Nat.mod_one d
  | n + 1, e => by
    have e : popF d n + bt d n = 0 := e
    have h1 := popF0 d n (by omega)
    have h2 : d / 2 ^ n % 2 = 0 := by have : bt d n = 0 := by omega
                                      exact this
    rw [Nat.mod_pow_succ, h1, h2, Nat.mul_zero]
theorem pop1 : ∀ n d, d < 2 ^ n → popF d n = 1 → ∃ k, k < n ∧ d = 2 ^ k
  | 0, d, _, e => absurd e (by show ¬ (0 : Nat) = 1; decide)
  | n + 1, d, hd, e => by
    have e : popF d n + bt d n = 1 := e
    have e0 : d = d % 2 ^ n + 2 ^ n * (bt d n) := by
      have := Nat.mod_pow_succ (x := d) (b := 2) (k := n)
      rw [Nat.mod_eq_of_lt hd] at this
      exact this
    by_cases c : bt d n = 1
    · have h1 := popF0 d n (by omega)
      refine ⟨n, by omega, ?_⟩
      rw [h1, c] at e0
      omega
    · have c0 := bt01 c
      rw [c0] at e0
      have hl : d < 2 ^ n := by
        have := Nat.mod_lt d (show 2 ^ n > 0 from Nat.two_pow_pos n)
        omega
      obtain ⟨k, hk, ek⟩ := pop1 n d hl (by omega)
      exact ⟨k, by omega, ek⟩
theorem pop_0 {d : Nat} (hd : d < 65536) (e : pop d = 0) : d = 0 := by
  have := popF0 d 16 e
  rw [Nat.mod_eq_of_lt hd] at this
  exact this
theorem bt_pow : ∀ k, k < 16 → ∀ t, t < 16 → bt (2 ^ k) t = if t = k then 1 else 0 := by decide +kernel
def whF (d c base : Nat) : Nat → Nat
  | 0 => base
  | t + 1 => if bt d t = 1 then c + t else whF d c base t
theorem whF_0 (c base : Nat) : ∀ n, whF 0 c base n = base
  | 0 => rfl
  | n + 1 => by
    unfold whF
    rw [bt_0, if_neg (by decide)]
    exact whF_0 c base n
theorem whF_p {k : Nat} (hk : k < 16) (c base : Nat) : ∀ n, n ≤ 16 → whF (2 ^ k) c base n = if k < n then c + k else base
  | 0, _ => by rw [if_neg (by omega)]; rfl
  | n + 1, hn => by
    unfold whF
    rw [bt_pow k hk n (by omega), whF_p hk c base n (by omega)]
    by_cases e : n = k
    · subst e
      rw [if_pos rfl, if_pos rfl, if_pos (by omega)]
    · rw [if_neg e, if_neg (by decide)]
      by_cases e2 : k < n
      · rw [if_pos e2, if_pos (by omega)]
      · rw [if_neg e2, if_neg (by omega)]
theorem nz_74 (q : ∀ r, Q (some (.int r)) h) {a c : Int32} : Go X m_J6_numberOfTrailingZeros_0f7a4 74 [.int a, .int c] [] h Q := vg (q _)
theorem nz_62 (q : ∀ r, Q (some (.int r)) h) {a c : Int32} : Go X m_J6_numberOfTrailingZeros_0f7a4 62 [.int a, .int c] [] h Q := vc_ok (st := [74]) 100 ⟨fun _ => nz_74 q, fun _ => nz_74 q⟩
theorem nz_49 (q : ∀ r, Q (some (.int r)) h) {a c : Int32} : Go X m_J6_numberOfTrailingZeros_0f7a4 49 [.int a, .int c] [] h Q := vc_ok (st := [62]) 100 ⟨fun _ => nz_62 q, fun _ => nz_62 q⟩
theorem nz_34 (q : ∀ r, Q (some (.int r)) h) {a c : Int32} : Go X m_J6_numberOfTrailingZeros_0f7a4 34 [.int a, .int c] [] h Q := vc_ok (st := [49]) 100 ⟨fun _ => nz_49 q, fun _ => nz_49 q⟩
theorem nz_all (q : ∀ r, Q (some (.int r)) h) {a : Int32} {l : Value} : Go X m_J6_numberOfTrailingZeros_0f7a4 0 [.int a, l] [] h Q := vc_ok (st := [34]) 100 ⟨fun _ => ⟨fun _ => nz_34 q, fun _ => nz_34 q⟩, fun _ => q _⟩
theorem nz_pow {j : Nat} (hj : j < 16) (q : Q (some (.int (nI j))) h) : Go X m_J6_numberOfTrailingZeros_0f7a4 0 [.int (nI (2 ^ j)), .null] [] h Q := by
  have fin : ∀ {r : Int32}, r = nI j → Q (some (.int r)) h := fun e => by rw [e]; exact q
  rcases (show j = 0 ∨ j = 1 ∨ j = 2 ∨ j = 3 ∨ j = 4 ∨ j = 5 ∨ j = 6 ∨ j = 7 ∨ j = 8 ∨ j = 9 ∨ j = 10 ∨ j = 11 ∨ j = 12 ∨ j = 13 ∨ j = 14 ∨ j = 15 by omega) with rfl | rfl | rfl | rfl | rfl | rfl | rfl | rfl | rfl | rfl | rfl | rfl | rfl | rfl | rfl | rfl
  all_goals
    refine vg ?_
    repeat first
      | refine br_t (by decide) ?_
      | refine br_f (by decide) ?_
    exact fin (by decide)
theorem t_ntz {d : Nat} (q : ∀ r, (∀ j, j < 16 → d = 2 ^ j → r = nI j) → Q (some (.int r)) h) : Go X m_J6_numberOfTrailingZeros_0f7a4 0 [.int (nI d), .null] [] h Q := by
  by_cases e : ∃ j, j < 16 ∧ d = 2 ^ j
  · obtain ⟨j, hj, rfl⟩ := e
    refine nz_pow hj (q _ (fun i hi e2 => ?_))
    rw [(Nat.pow_right_inj (by decide)).mp e2]
  · exact nz_all (fun r => q r (fun j hj e2 => absurd ⟨j, hj, e2⟩ e))
theorem mk_0 {c a m : Int32} (hs : s < 4) (e0 : h.1 5 6 = nI n) (hn : n < 2 ^ 31) {i : Nat} (hi : i < n) {l6 : Value} (q : Go X m_X3_threadsIn 0 [.ref (9 + s), .int (nI i)] [] h (fun r h' => Go X m_X6_mark 84 [.ref 0, .int (nI s), .int c, .int a, .int m, .int (nI i), l6] (pushO r []) h' Q)) : Go X m_X6_mark 61 [.ref 0, .int (nI s), .int c, .int a, .int m, .int (nI i), l6] [] h Q := by
  have k := nle_of e0 hi hn
  rcases s4 hs with rfl | rfl | rfl | rfl <;> exact vg (br_f k ⟨_, rfl, by decide, q⟩)
theorem mk_s {c : Int32} (hs : s < 4) {l3 l4 l5 l6 : Value} (a : h.1 (9 + s) 1 = h.1 2 4 → Go X m_X6_mark 42 [.ref 0, .int (nI s), .int c, l3, l4, l5, l6] [] h Q) (b : ¬ h.1 (9 + s) 1 = h.1 2 4 → Go X m_X6_mark 35 [.ref 0, .int (nI s), .int c, l3, l4, l5, l6] [] h Q) : Go X m_X6_mark 16 [.ref 0, .int (nI s), .int c, l3, l4, l5, l6] [] h Q := by
  rcases s4 hs with rfl | rfl | rfl | rfl <;> exact vc_ok (st := [42, 35]) 100 ⟨_, rfl, by decide, a, b⟩
def dfN (V : Vw) (g : Nat → Int64) (i : Nat) : Nat := toN (g i) ^^^ rw' V i
theorem dfN_lt (V : Vw) (g : Nat → Int64) (i : Nat) : dfN V g i < 65536 := xor_lt (n := 16) (toN_lt _) (rw_lt V i)
def whA (V : Vw) (g : Nat → Int64) : Nat → Nat
  | 0 => 0
  | k + 1 => whF (dfN V g k) (100 * k) (whA V g k) 16
abbrev dfS (V : Vw) (g : Nat → Int64) (k : Nat) : Nat := sumN (fun i => pop (dfN V g i)) k
theorem op_mark (I : Inv h) : Both X m_X6_mark m_X7_mark [.ref 0, .int x, .null, .null, .null, .null, .null] [.ref 1, .int x, .null, .null, .null, .null, .null, .null] h := by
  obtain ⟨V, v, rn, rm, ik, ir, it, is⟩ := id I
  unfold Both
  have h1 := v.1
  by_cases p1 : 0 ≤ x.toInt ∧ x.toInt < 4
  case neg =>
    refine vg (t_sf_bad p1 (vg (br_f (by decide) (t_refuse 0 (by decide) (by decide) ?_))))
    refine vg (vg (t_wn_bad p1 (vg (br_t (by decide) (br_f (by decide) (t_findsN 0 (by decide) rfl ?_))))))
    exact vg ⟨rfl, inv_ref I (by decide)⟩
  obtain ⟨s, hs, rfl⟩ := nI_ex (n := 4) p1.1 (by omega) (by decide)
  obtain ⟨b, n, q1, q2, q3, q4, q5, q6, q7, q8⟩ := is s hs
  by_cases p2 : b = 0
  · subst p2
    refine vg (t_sf_mis hs q4 (vg (br_f (by decide) (t_refuse 5 (by decide) (by decide) ?_))))
    refine vg (vg (t_wn_mis hs q5 (vg (br_t (by decide) (br_f (by decide) (t_findsN 5 (by decide) rfl ?_))))))
    exact vg ⟨rfl, inv_ref I (by decide)⟩
  obtain ⟨hb, hb2⟩ := b_cases q1 p2
  refine vg (t_sf_ok hs q4 p2 hb2 (vc_ok (st := [16]) 100 (br_t rfl (mk_s hs (fun e => ?_) (fun e => ?_)))))
  case refine_2 =>
    refine vg (t_refuse 6 (by decide) (by decide) (vg (vg (t_wn_ok (h := (up2 h.1 14 6 (h.1 14 6 + 1), h.2)) hs q5 p2 hb2 (vg (br_f (by decide) ⟨s, rfl, hs, 1, rfl, by decide, br_f ?_ (br_f (by decide) (t_findsN 6 (by decide) rfl (vg ⟨rfl, inv_ref I (by decide)⟩)))⟩))))))
    show ¬ h.1 63 s = h.1 53 1
    rw [q7, rm.1.2.1, ← q6, ← rn.1.2.1]
    exact e
  rw [q6, rn.1.2.1, nI_eq (by omega) (by omega)] at e
  subst e
  refine vg (t_weave v rn (fun f cl f1 => vc_ok (st := [61]) 100 ?_))
  have s1 := sc_cl f1
  have rm1 : RM V (f, h.2) 53 := rm_scr rm s1
  have e62 : f 62 = h.1 62 := sh_scr (by omega) s1
  have e63 : f 63 = h.1 63 := sh_scr (by omega) s1
  generalize hg : h.2 (49 + s) = g
  have mod : ∀ (k0 : Nat → Nat → Int32) (Q : Qt), (∀ c, ¬ scr c → c ≠ 14 → k0 c = f c) → (∀ k : Nat → Nat → Int32, (∀ c, c ≠ 58 → k c = k0 c) → ∀ l5 l6 l7 : Value, Go X m_X7_mark 134 [.ref 1, .int (nI s), .int (-1), .int (nI (dfS V g (V 0 1))), .int (nI (whA V g (V 0 1))), l5, l6, l7] [] (k, h.2) Q) → Go X m_X7_mark 0 [.ref 1, .int (nI s), .null, .null, .null, .null, .null, .null] [] (k0, h.2) Q := by
    intro k0 Q k00 fin
    have r0 : RM V (k0, h.2) 53 := rm_cg rm1 (k00 53 (by unfold scr; omega) (by decide))
    have k62 : k0 62 s = nI b := by rw [k00 62 (by unfold scr; omega) (by decide), e62]; exact q5
    have k63 : k0 63 s = nI (V 0 1) := by rw [k00 63 (by unfold scr; omega) (by decide), e63]; exact q7
    have k53 : k0 53 1 = nI (V 0 1) := r0.1.2.1
    refine vg (t_wn_ok (b := b) hs k62 p2 hb2 (vg (br_f (by decide) ⟨s, rfl, hs, 1, rfl, by decide, br_t (show k0 63 s = k0 53 1 by rw [k63, k53]) (br_t (by decide) (t_weaves v r0 (fun k mc k1 => vc_ok (st := [50]) 100 ?_)))⟩)))
    have rk : RM V (k, h.2) 53 := rm_cg r0 (k1 53 (by decide))
    suffices hh : ∀ j, j ≤ V 0 1 → ∀ l6 l7 : Value, Go X m_X7_mark 50 [.ref 1, .int (nI s), .int (-1), .int (nI (dfS V g j)), .int (nI (whA V g j)), .int (nI j), l6, l7] [] (k, h.2) Q from hh 0 (by omega) _ _
    refine down _ (V 0 1) ?_ ?_
    · exact fun l6 l7 => vc_ok (st := [134]) 100 ⟨1, rfl, by decide, br_t (le_of rk.1.2.1) (fin k k1 _ _ _)⟩
    · intro j hj ih l6 l7
      have ld := dfN_lt V g j
      refine vg ⟨1, rfl, by decide, br_f (nle_of rk.1.2.1 hj (by omega)) (t_toldM hs (by omega) (vg ⟨j, rfl, by omega, ?_⟩))⟩
      show Go X m_X7_ones 0 [.int (nI (toN (h.2 64 (40 * s + j))) ^^^ k 58 j), .null, .null] [] (k, h.2) (fun r h' => Go X m_X7_mark 84 [.ref 1, .int (nI s), .int (-1), .int (nI (dfS V g j)), .int (nI (whA V g j)), .int (nI j), .int (nI (toN (h.2 64 (40 * s + j))) ^^^ k 58 j), l7] (pushO r [.int (nI (dfS V g j))]) h' Q)
      rw [← q8 j hj, show k 58 j = nI (rw' V j) from mc j hj, nI_xor, hg]
      show Go X m_X7_ones 0 [.int (nI (dfN V g j)), .null, .null] [] (k, h.2) (fun r h' => Go X m_X7_mark 84 [.ref 1, .int (nI s), .int (-1), .int (nI (dfS V g j)), .int (nI (whA V g j)), .int (nI j), .int (nI (dfN V g j)), l7] (pushO r [.int (nI (dfS V g j))]) h' Q)
      refine t_onesN (by omega) ?_
      have ih : ∀ l6 l7 : Value, Go X m_X7_mark 50 [.ref 1, .int (nI s), .int (-1), .int (nI (dfS V g j + pop (dfN V g j))), .int (nI (whF (dfN V g j) (100 * j) (whA V g j) 16)), .int (nI (j + 1)), l6, l7] [] (k, h.2) Q := ih
      rw [← nI_add, ← nI_1] at ih
      refine vc_ok (st := [89]) 100 ?_
      refine down (fun t => Go X m_X7_mark 89 [.ref 1, .int (nI s), .int (-1), .int (nI (dfS V g j) + nI (pop (dfN V g j))), .int (nI (whF (dfN V g j) (100 * j) (whA V g j) t)), .int (nI j), .int (nI (dfN V g j)), .int (nI t)] [] (k, h.2) Q) 16 ?_ ?_ 0 (by omega)
      · exact vc_ok (st := [50]) 100 (br_t (Int32.le_refl _) (ih _ _))
      · intro t ht iht
        have hbt := bt_le (dfN V g j) t
        unfold whF at iht
        by_cases c : bt (dfN V g j) t = 1
        · rw [if_pos c, ← nI_1, ← nI_add, ← pk_mul] at iht
          refine vc_ok (st := [89]) 100 (br_f (nI_ge ht (by decide)) (brn_f ?_ iht))
          show nI (dfN V g j) >>> (nI t &&& 31) &&& 1 = 1
          rw [bitN (by omega) (by omega), c]
          rfl
        · rw [if_neg c, ← nI_1] at iht
          refine vc_ok (st := [89]) 100 (br_f (nI_ge ht (by decide)) (brn_t ?_ iht))
          show ¬ nI (dfN V g j) >>> (nI t &&& 31) &&& 1 = nI 1
          rw [bitN (by omega) (by omega), nI_eq (by omega) (by decide)]
          exact c
  suffices hh : ∀ k, k ≤ V 0 1 → ∀ (r : Int32) (l6 : Value), (dfS V g k = 1 → r = nI (whA V g k)) → Go X m_X6_mark 61 [.ref 0, .int (nI s), .int 0, .int (nI (dfS V g k)), .int r, .int (nI k), l6] [] (f, h.2) (BQ X m_X7_mark [.ref 1, .int (nI s), .null, .null, .null, .null, .null, .null]) from hh 0 (by omega) 0 _ (fun z => absurd z (by show ¬ (0 : Nat) = 1; decide))
  have dsb : ∀ k, dfS V g k ≤ 16 * k := by
    intro k
    induction k with
    | zero => exact Nat.le_refl _
    | succ k ih =>
      show dfS V g k + pop (dfN V g k) ≤ _
      have : pop (dfN V g k) ≤ 16 := popF_le _ 16
      omega
  refine down _ (V 0 1) ?_ ?_
  · intro r l6 hr
    have := dsb (V 0 1)
    by_cases e : dfS V g (V 0 1) = 1
    · rw [hr e]
      rw [e] at mod ⊢
      refine vg (br_t (le_of cl.2.1) (brn_f rfl (mod f _ (fun c _ _ => rfl) (fun k k1 l5 l6 l7 => vg (brn_f rfl ⟨rfl, inv_scr I (fun c hc => (sc_58 k1 c hc).trans (s1 c hc))⟩)))))
    · have ne : ¬ nI (dfS V g (V 0 1)) = nI 1 := by rw [nI_eq (by omega) (by decide)]; exact e
      refine vg (br_t (le_of cl.2.1) (brn_t ne (t_refuse 3 (by decide) (by decide) (vg (mod (up2 f 14 3 (f 14 3 + 1)) _ (fun c _ c2 => up2_ne c2) (fun k k1 l5 l6 l7 => vg (brn_t ne (t_findsN 3 (by decide) rfl (vg ⟨rfl, ?_⟩)))))))))
      have k14 : k 14 = up2 f 14 3 (f 14 3 + 1) 14 := k1 14 (by decide)
      have k56 : k 56 = f 56 := k1 56 (by decide)
      have g14 : f 14 = h.1 14 := s1 14 (by unfold scr; omega)
      have g56 : f 56 = h.1 56 := s1 56 (by unfold scr; omega)
      refine inv_ref2 I (k := 3) (by decide) (fun c hc c1 c2 => ?_) ?_ ?_
      · show up2 k 56 3 (k 56 3 + 1) c = _
        rw [up2_ne c2, sc_58 k1 c hc, up2_ne c1, s1 c hc]
      · show k 14 = _
        rw [k14, up2_at, up2_at, g14]
      · show up2 k 56 3 (k 56 3 + 1) 56 = _
        rw [up2_at, up2_at, k56, g56]
  · intro k hk ih r l6 hr
    have ld := dfN_lt V g k
    refine mk_0 hs cl.2.1 (by omega) hk (t_threadsIn hs (by omega) (vg (t_upIn v cl hk ?_)))
    refine vc_ok (st := [96]) 100 ?_
    show Go X m_X6_mark 96 [.ref 0, .int (nI s), .int 0, .int (nI (dfS V g k)), .int r, .int (nI k), .int (nI (toN (h.2 (49 + s) k)) ^^^ nI (rw' V k))] [] (f, h.2) _
    rw [nI_xor, hg]
    show Go X m_X6_mark 96 [.ref 0, .int (nI s), .int 0, .int (nI (dfS V g k)), .int r, .int (nI k), .int (nI (dfN V g k))] [] (f, h.2) _
    have ih : ∀ (r : Int32) (l6 : Value), (dfS V g k + pop (dfN V g k) = 1 → r = nI (whF (dfN V g k) (100 * k) (whA V g k) 16)) → Go X m_X6_mark 61 [.ref 0, .int (nI s), .int 0, .int (nI (dfS V g k + pop (dfN V g k))), .int r, .int (nI (k + 1)), l6] [] (f, h.2) (BQ X m_X7_mark [.ref 1, .int (nI s), .null, .null, .null, .null, .null, .null]) := ih
    rw [← nI_1] at ih
    by_cases e : dfN V g k = 0
    · have nx := ih r (.int (nI (dfN V g k))) (by
        rw [e, whF_0]
        intro z
        exact hr (by have : pop 0 = 0 := by decide
                     omega))
      rw [e, show pop 0 = 0 by decide, Nat.add_zero] at nx
      rw [e]
      exact vc_ok (st := [61]) 100 (br_t rfl nx)
    · refine vg (br_f (nI_ne0 (by omega) (by omega)) (t_bitCount ld (vg (t_ntz (fun r2 hr2 => ?_)))))
      have nx := ih (nI 100 * nI k + r2) (.int (nI (dfN V g k))) (fun z => by
        have p1 : pop (dfN V g k) = 1 := by
          have : pop (dfN V g k) ≠ 0 := fun w => e (pop_0 ld w)
          omega
        obtain ⟨j, hj, ej⟩ := pop1 16 _ ld p1
        rw [hr2 j hj ej, ej, whF_p hj _ _ 16 (by omega), if_pos hj, pk_mul, nI_add])
      rw [← nI_add] at nx
      exact vc_ok (st := [61]) 100 nx
end MARK
