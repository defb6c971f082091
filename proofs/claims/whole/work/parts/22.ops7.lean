section OPS7
variable {X : Xs} {h : Hp} {x y z : Int32} {Q : Qt}
theorem xor0 {a b : Nat} : a ^^^ b = 0 ↔ a = b := by
  constructor
  · intro h
    apply Nat.eq_of_testBit_eq
    intro i
    have := congrArg (fun z => Nat.testBit z i) h
    simp only [Nat.testBit_xor, Nat.zero_testBit] at this
    cases h1 : a.testBit i <;> cases h2 : b.testBit i <;> simp [h1, h2] at this ⊢
  · rintro rfl
    exact Nat.xor_self a
theorem or0 {a b : Nat} : a ||| b = 0 ↔ a = 0 ∧ b = 0 := by
  constructor
  · intro h
    have h1 : a ≤ a ||| b := Nat.left_le_or
    have h2 : b ≤ a ||| b := Nat.right_le_or
    omega
  · rintro ⟨rfl, rfl⟩; rfl
theorem xor_lt {a b n : Nat} (ha : a < 2 ^ n) (hb : b < 2 ^ n) : a ^^^ b < 2 ^ n := Nat.xor_lt_two_pow ha hb
/-- where two cards differ -/
def difN (V : Vw) (c d : Nat) : Nat := (V 1 c ^^^ V 1 d) ||| (V 2 c ^^^ V 2 d)
theorem difN_lt {V : Vw} (v : okV V) {c d : Nat} (hc : c < V 0 0) (hd : d < V 0 0) : difN V c d < 256 := Nat.or_lt_two_pow (n := 8) (xor_lt (v.2.1 c hc).1 (v.2.1 d hd).1) (xor_lt (v.2.1 c hc).2.1 (v.2.1 d hd).2.1)
theorem difN_0 {V : Vw} {c d : Nat} : difN V c d = 0 ↔ V 1 c = V 1 d ∧ V 2 c = V 2 d := by unfold difN; rw [or0, xor0, xor0]
theorem t_dif {V : Vw} (v : okV V) (rn : RN V h) {c d : Nat} (hc : c < V 0 0) (hd : d < V 0 0) (q : Q (some (.int (nI (difN V c d)))) h) : Go X m_X1_differences 0 [.ref 2, .int (nI c), .int (nI d)] [] h Q := by
  have hc0 := v.1.1
  refine vg ⟨c, rfl, by omega, d, rfl, by omega, c, rfl, by omega, d, rfl, by omega, ?_⟩
  show Q (some (.int ((h.1 15 c ^^^ h.1 15 d) ||| (h.1 16 c ^^^ h.1 16 d)))) h
  rw [(rn.2.1 c hc).1, (rn.2.1 c hc).2, (rn.2.1 d hd).1, (rn.2.1 d hd).2, nI_xor, nI_xor, nI_or]
  exact q
def twP (V : Vw) (c j : Nat) : Prop := j ≠ c ∧ difN V c j = 0
theorem t_twinC {V : Vw} (v : okV V) (rn : RN V h) {c : Nat} (hc : c < V 0 0) (a : ∀ j, j < V 0 0 → twP V c j → (∀ i, i < j → ¬ twP V c i) → Q (some (.int (nI j))) h) (b : (∀ i, i < V 0 0 → ¬ twP V c i) → Go X m_X6_twin 56 [.ref 0, .int (nI c), .int (nI (V 0 0))] [] h Q) : Go X m_X6_twin 18 [.ref 0, .int (nI c), .null] [] h Q := by
  have hc0 := v.1.1
  refine vc_ok (st := [20]) 40 ?_
  refine down (fun k => (∀ i, i < k → ¬ twP V c i) → Go X m_X6_twin 20 [.ref 0, .int (nI c), .int (nI k)] [] h Q) (V 0 0) ?_ ?_ 0 (by omega) (fun i hi => absurd hi (by omega))
  · intro hp
    refine vc_ok (st := [56]) 40 (br_t (by show h.1 2 0 ≤ _; rw [rn.1.1]; exact Int32.le_refl _) (b hp))
  · intro k hk ih hp
    have hlt : ¬ h.1 2 0 ≤ nI k := by rw [rn.1.1]; exact nI_ge hk (by omega)
    have nxt : ¬ twP V c k → Go X m_X6_twin 20 [.ref 0, .int (nI c), .int (nI k + 1)] [] h Q := fun z => by
      rw [nI_1]
      exact ih (fun i hi => by
        by_cases e : i = k
        · subst e; exact z
        · exact hp i (by omega))
    by_cases e : k = c
    · exact vc_ok (st := [20]) 40 (br_f hlt (br_t (by rw [e]) (nxt (fun z => z.1 e))))
    · refine vc_ok (st := [20]) 40 (br_f hlt (br_f (by rw [nI_eq (by omega) (by omega)]; exact e) (t_dif v rn hc hk ?_)))
      by_cases e2 : difN V c k = 0
      · rw [e2]
        exact vg (brn_f rfl (a k hk ⟨e, e2⟩ hp))
      · have := difN_lt v hc hk
        exact vc_ok (st := [20]) 40 (brn_t (nI_ne0 (by omega) (by omega)) (nxt (fun z => e2 z.2)))
theorem t_twinM {V : Vw} (v : okV V) (rm : RM V h 53) {c : Nat} (hc : c < V 0 0) (a : ∀ j, j < V 0 0 → twP V c j → (∀ i, i < j → ¬ twP V c i) → Q (some (.int (nI j))) h) (b : (∀ i, i < V 0 0 → ¬ twP V c i) → Go X m_X7_twin 79 [.ref 1, .int (nI c), .int (nI (V 0 0))] [] h Q) : Go X m_X7_twin 14 [.ref 1, .int (nI c), .null] [] h Q := by
  have hc0 := v.1.1
  refine vc_ok (st := [16]) 40 ?_
  refine down (fun k => (∀ i, i < k → ¬ twP V c i) → Go X m_X7_twin 16 [.ref 1, .int (nI c), .int (nI k)] [] h Q) (V 0 0) ?_ ?_ 0 (by omega) (fun i hi => absurd hi (by omega))
  · intro hp
    refine vc_ok (st := [79]) 40 ⟨0, rfl, by decide, br_t (by show h.1 53 0 ≤ _; rw [rm.1.1]; exact Int32.le_refl _) (b hp)⟩
  · intro k hk ih hp
    have hlt : ¬ h.1 53 0 ≤ nI k := by rw [rm.1.1]; exact nI_ge hk (by omega)
    have nxt : ¬ twP V c k → Go X m_X7_twin 16 [.ref 1, .int (nI c), .int (nI k + 1)] [] h Q := fun z => by
      rw [nI_1]
      exact ih (fun i hi => by
        by_cases e : i = k
        · subst e; exact z
        · exact hp i (by omega))
    obtain ⟨m1, m2⟩ := rm.2.1 c hc
    obtain ⟨m3, m4⟩ := rm.2.1 k hk
    have v1 := v.2.1 c hc
    have v2 := v.2.1 k hk
    by_cases e : k = c
    · exact vc_ok (st := [16]) 40 ⟨0, rfl, by decide, br_f hlt (br_t (by rw [e]) (nxt (fun z => z.1 e)))⟩
    · refine vc_ok (st := [16]) 40 ⟨0, rfl, by decide, br_f hlt (br_f (by rw [nI_eq (by omega) (by omega)]; exact e) ⟨4 + k, nI_add 4 k, by omega, 4 + c, nI_add 4 c, by omega, ?_⟩)⟩
      by_cases e1 : V 1 c = V 1 k
      · refine brn_f (by show h.1 53 (4 + k) = h.1 53 (4 + c); rw [m1, m3, e1]) ⟨14 + k, nI_add 14 k, by omega, 14 + c, nI_add 14 c, by omega, ?_⟩
        by_cases e2 : V 2 c = V 2 k
        · exact brn_f (by show h.1 53 (14 + k) = h.1 53 (14 + c); rw [m2, m4, e2]) (a k hk ⟨e, difN_0.mpr ⟨e1, e2⟩⟩ hp)
        · exact brn_t (by show ¬ h.1 53 (14 + k) = h.1 53 (14 + c); rw [m2, m4, nI_eq (by omega) (by omega)]; exact fun z => e2 z.symm) (nxt (fun z => e2 (difN_0.mp z.2).2))
      · exact brn_t (by show ¬ h.1 53 (4 + k) = h.1 53 (4 + c); rw [m1, m3, nI_eq (by omega) (by omega)]; exact fun z => e1 z.symm) (nxt (fun z => e1 (difN_0.mp z.2).1))
theorem op_twin (I : Inv h) : Both X m_X6_twin m_X7_twin [.ref 0, .int x, .null] [.ref 1, .int x, .null] h := by
  obtain ⟨V, v, rn, rm, ik, ir, it, is⟩ := id I
  unfold Both
  have hc0 := v.1.1
  by_cases p1 : 0 ≤ x.toInt ∧ x.toInt < V 0 0
  case neg =>
    refine vg (t_hasCard hc0 rn.1.1 (fun z => absurd z p1) (fun _ => vg (brn_f rfl (t_refuse 0 (by decide) (by decide) ?_))))
    refine vg (vg (t_isCard hc0 rm.1.1 (fun z => absurd z p1) (fun _ => vg (brn_f rfl (t_findsN 0 (by decide) rfl ?_)))))
    exact vg ⟨rfl, inv_ref I (by decide)⟩
  obtain ⟨c, hc, rfl⟩ := nI_ex (n := V 0 0) p1.1 (by omega) (by omega)
  refine vg (t_hasCard hc0 rn.1.1 (fun _ => vc_ok (st := [18]) 40 (brn_t (by decide) (t_twinC v rn hc ?_ ?_))) (fun z => absurd p1 z))
  · intro j hj hp hq
    refine vg (t_isCard hc0 rm.1.1 (fun _ => vc_ok (st := [14]) 40 (brn_t (by decide) (t_twinM v rm hc ?_ ?_))) (fun z => absurd p1 z))
    · intro j2 hj2 hp2 hq2
      have : j2 = j := by
        rcases Nat.lt_trichotomy j2 j with e | e | e
        · exact absurd hp2 (hq j2 e)
        · exact e
        · exact absurd hp (hq2 j e)
      subst this
      exact ⟨rfl, I⟩
    · exact fun z => absurd hp (z j hj)
  · intro hn
    refine vg (t_refuse 3 (by decide) (by decide) ?_)
    refine vg (vg (t_isCard hc0 rm.1.1 (fun _ => vc_ok (st := [14]) 40 (brn_t (by decide) (t_twinM (h := (up2 h.1 14 3 (h.1 14 3 + 1), h.2)) v rm hc ?_ ?_))) (fun z => absurd p1 z)))
    · exact fun j hj hp _ => absurd hp (hn j hj)
    · exact fun _ => vg (t_findsN 3 (by decide) rfl (vg ⟨rfl, inv_ref I (by decide)⟩))
-- ===== status
def sumF (f : Nat → Int32) : Nat → Int32
  | 0 => 0
  | k + 1 => sumF f k + f k
theorem sumF_cg {f g : Nat → Int32} : ∀ {n : Nat}, (∀ k, k < n → f k = g k) → sumF f n = sumF g n
  | 0, _ => rfl
  | n + 1, h => by unfold sumF; rw [sumF_cg (fun k hk => h k (by omega)), h n (by omega)]
theorem op_status (I : Inv h) : Both X m_X6_status m_X7_status [.ref 0, .int x, .null, .null] [.ref 1, .int x, .null, .null] h := by
  obtain ⟨V, v, rn, rm, ik, ir, it, is⟩ := id I
  unfold Both
  have em1 : (-1 : Int32).toInt = -1 := rfl
  by_cases p1 : x < -1
  · have p1' : ¬ (-1 ≤ x.toInt ∧ x.toInt ≤ 6) := by rw [i_lt, em1] at p1; omega
    refine vg (br_t p1 (t_refuse 0 (by decide) (by decide) ?_))
    refine vg (vg (t_inI (-1) 6 rfl rfl (fun z => absurd z p1') (fun _ => vg (brn_f rfl (t_findsN 0 (by decide) rfl ?_)))))
    exact vg ⟨rfl, inv_ref I (by decide)⟩
  by_cases p2 : x < nI 7
  case neg =>
    have p1' : ¬ (-1 ≤ x.toInt ∧ x.toInt ≤ 6) := by rw [i_lt, nT (by decide)] at p2; omega
    refine vg (br_f p1 (br_f p2 (t_refuse 0 (by decide) (by decide) ?_)))
    refine vg (vg (t_inI (-1) 6 rfl rfl (fun z => absurd z p1') (fun _ => vg (brn_f rfl (t_findsN 0 (by decide) rfl ?_)))))
    exact vg ⟨rfl, inv_ref I (by decide)⟩
  have p3 : -1 ≤ x.toInt ∧ x.toInt ≤ 6 := by
    rw [i_lt, em1] at p1
    rw [i_lt, nT (by decide)] at p2
    omega
  have mod : ∀ {Q : Qt}, (x < 0 → Q (some (.int (sumF (h.1 56) 7))) h) → (¬ x < 0 → ∀ k, x = nI k → k < 7 → Q (some (.int (h.1 56 k))) h) → Go X m_X7_status 0 [.ref 1, .int x, .null, .null] [] h Q := by
    intro Q a b
    refine vg (t_inI (-1) 6 rfl rfl (fun _ => vc_ok (st := [24]) 40 (brn_t (by decide) ?_)) (fun z => absurd p3 z))
    refine down (fun k => Go X m_X7_status 24 [.ref 1, .int x, .int (sumF (h.1 56) k), .int (nI k)] [] h Q) 7 ?_ ?_ 0 (by decide)
    · by_cases c : x < 0
      · exact vg (br_t (by decide) (br_f (by rw [i_le]; rw [i_lt] at c; omega) (a c)))
      · obtain ⟨k, hk, e⟩ := nI_ex (x := x) (n := 7) (by rw [i_lt, i0] at c; omega) (by omega) (by decide)
        exact vg (br_t (by decide) (br_t (by rw [i_le]; rw [i_lt] at c; omega) ⟨k, e, hk, b c k e hk⟩))
    · intro k hk ih
      refine vc_ok (st := [24]) 40 (br_f (nI_ge hk (by decide)) ⟨k, rfl, hk, ?_⟩)
      rw [← nI_1] at ih
      exact ih
  by_cases c : x < 0
  · refine vc_ok (st := [33]) 40 (br_f p1 (br_t p2 (br_t c ?_)))
    refine down (fun k => Go X m_X6_status 33 [.ref 0, .int x, .int (sumF (h.1 14) k), .int (nI k)] [] h (fun r h1 => Go X m_X7_status 0 [.ref 1, .int x, .null, .null] [] h1 (fun r' h2 => r' = r ∧ Inv h2))) 7 ?_ ?_ 0 (by decide)
    · refine vg (br_t (by decide) (mod (fun _ => ⟨?_, I⟩) (fun z => absurd c z)))
      rw [sumF_cg ir]
    · intro k hk ih
      refine vc_ok (st := [33]) 40 (br_f (nI_ge hk (by decide)) ⟨k, rfl, hk, ?_⟩)
      rw [← nI_1] at ih
      exact ih
  · obtain ⟨k, hk, e⟩ := nI_ex (x := x) (n := 7) (by rw [i_lt, i0] at c; omega) (by omega) (by decide)
    refine vg (br_f p1 (br_t p2 (br_f c ⟨k, e, hk, mod (fun z => absurd z c) (fun _ k2 e2 hk2 => ⟨?_, I⟩)⟩)))
    have : k2 = k := by rw [e, nI_eq (by omega) (by omega)] at e2; exact e2.symm
    subst this
    show some (Value.int (h.1 56 k2)) = some (Value.int (h.1 14 k2))
    rw [ir k2 hk]
end OPS7
