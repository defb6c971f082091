/-! the class's cloth -/
section CLO
variable {X : Xs} {h : Hp} {Q : Qt} {V : Vw}
theorem and_lt {a b n : Nat} (ha : a < n) : a &&& b < n := Nat.lt_of_le_of_lt Nat.and_le_left ha
theorem alN_lt (u : Nat) : alN u < 32768 := Nat.lt_of_le_of_lt Nat.and_le_right (by decide)
theorem t_acrL {u : Int32} : ∀ (n al l : Nat), l + n = 16 → al < 32768 → Q (some (.int (nI (acrL n al l)))) h → Go X m_X0_longestIn 14 [.int u, .int (nI al), .int (nI l)] [] h Q
  | 0, al, l, hl, ha, q => by
    by_cases e : al = 0
    · subst e
      exact vg (br_t rfl q)
    · refine vg (br_f (nI_ne0 (by omega) (by omega)) (br_t ?_ q))
      rw [show l = 16 by omega]; decide
  | n + 1, al, l, hl, ha, q => by
    unfold acrL at q
    by_cases e : al = 0
    · subst e
      exact vg (br_t rfl q)
    · rw [beq_f e, cond_false] at q
      refine vc_ok (st := [14]) 40 (br_f (nI_ne0 (by omega) (by omega)) (br_f (nI_ge (a := l) (b := 16) (by omega) (by decide)) ?_))
      show Go X m_X0_longestIn 14 [.int u, .int (nI al &&& nI al >>> (nI 1 &&& 31)), .int (nI l + 1)] [] h Q
      rw [shrN (by omega) (by decide), nI_and, nI_1]
      exact t_acrL n (al &&& al / 2) (l + 1) (by omega) (and_lt ha) q
theorem t_longestIn {u : Nat} (hu : u < 65536) (q : Q (some (.int (nI (acr u)))) h) : Go X m_X0_longestIn 0 [.int (nI u), .null, .null] [] h Q := by
  refine vc_ok (st := [14]) 40 ?_
  show Go X m_X0_longestIn 14 [.int (nI u), .int (((nI u ^^^ nI u >>> (nI 1 &&& 31)) ^^^ (-1)) &&& nI 32767), .int (nI 1)] [] h Q
  rw [shrN (by omega) (by decide), nI_xor, show (-1 : Int32) = nI 4294967295 from rfl, nI_xor, nI_and]
  exact t_acrL 15 (alN u) 1 (by decide) (alN_lt u) q
/-- hookThreads hold the ties -/
def Hk (V : Vw) (f : Nat → Nat → Int32) (n : Nat) : Prop := ∀ k, k < 8 → f 40 k = nI (hkN V k n)
/-- what measure writes of a card -/
def msr (f : Nat → Nat → Int32) (c a u : Nat) : Nat → Nat → Int32 := up2 (up2 (up2 (up2 f 36 c (nI a)) 37 c (nI u)) 38 c (nI (pop u))) 39 c (nI (acr u))
theorem t_measure (v : okV V) (hk : Hk V h.1 16) {c a : Nat} (hc : c < 10) (ha : a < 256) (q : Q none (msr h.1 c a (up V a), h.2)) : Go X m_X0_measure 0 [.ref 5, .int (nI c), .int (nI a), .null, .null] [] h Q := by
  refine vc_ok (st := [5]) 40 ?_
  refine down (fun k => Go X m_X0_measure 5 [.ref 5, .int (nI c), .int (nI a), .int (nI (upC V a k)), .int (nI k)] [] h Q) 8 ?_ ?_ 0 (by omega)
  · have hu : up V a < 65536 := up_lt V a 16 (by decide)
    rw [upC_eq v]
    refine vg (br_t (Int32.le_refl _) ⟨c, rfl, hc, c, rfl, hc, t_bitCount hu (vg ⟨c, rfl, hc, t_longestIn hu (vg ⟨c, rfl, hc, q⟩)⟩)⟩)
  · intro k hk8 ih
    by_cases e : bt a k = 1
    · refine vc_ok (st := [5]) 40 (br_f (nI_ge hk8 (by decide)) (brn_f ?_ ⟨k, rfl, hk8, ?_⟩))
      · show nI a >>> (nI k &&& 31) &&& 1 = nI 1
        rw [bitN (by omega) (by omega), e]
      · show Go X m_X0_measure 5 [.ref 5, .int (nI c), .int (nI a), .int (nI (upC V a k) ||| h.1 40 k), .int (nI k + 1)] [] h Q
        rw [hk k hk8, nI_or, nI_1]
        have e2 : upC V a (k + 1) = upC V a k ||| hkN V k 16 := by
          unfold upC
          rw [orF, if_pos e]
        rw [← e2]
        exact ih
    · refine vc_ok (st := [5]) 40 (br_f (nI_ge hk8 (by decide)) (brn_t ?_ ?_))
      · show ¬ nI a >>> (nI k &&& 31) &&& 1 = nI 1
        have := bt_le a k
        rw [bitN (by omega) (by omega), nI_eq (by omega) (by decide)]
        exact e
      · show Go X m_X0_measure 5 [.ref 5, .int (nI c), .int (nI a), .int (nI (upC V a k)), .int (nI k + 1)] [] h Q
        rw [nI_1]
        have e2 : upC V a (k + 1) = upC V a k := by
          unfold upC
          rw [orF, if_neg e, Nat.or_zero]
        rw [← e2]
        exact ih
/-- a card of the cloth -/
def Cc (V : Vw) (f : Nat → Nat → Int32) (c : Nat) : Prop := f 36 c = nI (V 1 c) ∧ f 37 c = nI (up V (V 1 c)) ∧ f 38 c = nI (pop (up V (V 1 c))) ∧ f 39 c = nI (acr (up V (V 1 c)))
/-- the cloth is woven by V -/
def Cl (V : Vw) (f : Nat → Nat → Int32) : Prop := f 5 0 = nI (V 0 0) ∧ f 5 6 = nI (V 0 1) ∧ Hk V f 16 ∧ (∀ c, c < V 0 0 → Cc V f c) ∧ (∀ i, i < V 0 1 → f 41 i = nI (V 4 i))
def clC (c : Nat) : Prop := c = 5 ∨ (36 ≤ c ∧ c ≤ 41)
theorem msr_ne {f : Nat → Nat → Int32} {c a u q : Nat} (h : ¬ (36 ≤ q ∧ q ≤ 39)) : msr f c a u q = f q := by
  unfold msr
  rw [up2_ne (by omega), up2_ne (by omega), up2_ne (by omega), up2_ne (by omega)]
theorem msr_at {f : Nat → Nat → Int32} {c a u : Nat} : msr f c a u 36 c = nI a ∧ msr f c a u 37 c = nI u ∧ msr f c a u 38 c = nI (pop u) ∧ msr f c a u 39 c = nI (acr u) := by
  refine ⟨?_, ?_, ?_, ?_⟩
  · show up2 f 36 c (nI a) 36 c = _
    rw [u_at]
  · show up2 (up2 f 36 c (nI a)) 37 c (nI u) 37 c = _
    rw [u_at]
  · show up2 (up2 (up2 f 36 c (nI a)) 37 c (nI u)) 38 c (nI (pop u)) 38 c = _
    rw [u_at]
  · exact u_at
theorem msr_nc {f : Nat → Nat → Int32} {c a u d : Nat} (h : d ≠ c) : msr f c a u 36 d = f 36 d ∧ msr f c a u 37 d = f 37 d ∧ msr f c a u 38 d = f 38 d ∧ msr f c a u 39 d = f 39 d := by
  refine ⟨?_, ?_, ?_, ?_⟩
  · show up2 f 36 c (nI a) 36 d = _
    rw [u_ne h]
  · show up2 (up2 f 36 c (nI a)) 37 c (nI u) 37 d = _
    rw [u_ne h]; rfl
  · show up2 (up2 (up2 f 36 c (nI a)) 37 c (nI u)) 38 c (nI (pop u)) 38 d = _
    rw [u_ne h]; rfl
  · show up2 (up2 (up2 (up2 f 36 c (nI a)) 37 c (nI u)) 38 c (nI (pop u))) 39 c (nI (acr u)) 39 d = _
    rw [u_ne h]; rfl
theorem t_reorder (A N : Nat) (hA : (A = 18 ∧ N = 20) ∨ (A = 47 ∧ N = 6)) {n : Nat} (hn : n ≤ N) (q : Q none (cpK (up2 h.1 5 6 (nI n)) 41 A n, h.2)) : Go X m_X0_reorder 0 [.ref 5, .ref A, .int (nI n), .null] [] h Q := by
  rcases hA with ⟨rfl, rfl⟩ | ⟨rfl, rfl⟩
  · have e : (if (if nI 20 < nI 20 then nI 20 else nI 20) < nI n then (if nI 20 < nI 20 then nI 20 else nI 20) else nI n) = nI n := by
      rw [if_neg (show ¬ nI 20 < nI 20 by decide), if_neg (nI_nlt hn (by decide))]
    refine vc_ok (st := [17]) 40 ?_
    show Go X m_X0_reorder 17 [.ref 5, .ref 18, .int (nI n), .int (nI 0)] [] (up2 h.1 5 6 (if (if nI 20 < nI 20 then nI 20 else nI 20) < nI n then (if nI 20 < nI 20 then nI 20 else nI 20) else nI n), h.2) Q
    rw [e]
    have key := down (fun k => Go X m_X0_reorder 17 [.ref 5, .ref 18, .int (nI n), .int (nI k)] [] (cpK (up2 h.1 5 6 (nI n)) 41 18 k, h.2) Q) n ?_ ?_ 0 (by omega)
    · rw [cpK_0] at key
      exact key
    · exact vg (br_t (Int32.le_refl _) q)
    · intro k hk ih
      refine vc_ok (st := [17]) 40 (br_f (nI_ge hk (by omega)) ⟨k, rfl, by omega, k, rfl, by omega, ?_⟩)
      show Go X m_X0_reorder 17 [.ref 5, .ref 18, .int (nI n), .int (nI k + 1)] [] (up2 (cpK (up2 h.1 5 6 (nI n)) 41 18 k) 41 k (up2 h.1 5 6 (nI n) 18 k), h.2) Q
      rw [cpK_s, nI_1]
      exact ih
  · have e : (if (if nI 20 < nI 6 then nI 20 else nI 6) < nI n then (if nI 20 < nI 6 then nI 20 else nI 6) else nI n) = nI n := by
      rw [if_neg (show ¬ nI 20 < nI 6 by decide), if_neg (nI_nlt hn (by decide))]
    refine vc_ok (st := [17]) 40 ?_
    show Go X m_X0_reorder 17 [.ref 5, .ref 47, .int (nI n), .int (nI 0)] [] (up2 h.1 5 6 (if (if nI 20 < nI 6 then nI 20 else nI 6) < nI n then (if nI 20 < nI 6 then nI 20 else nI 6) else nI n), h.2) Q
    rw [e]
    have key := down (fun k => Go X m_X0_reorder 17 [.ref 5, .ref 47, .int (nI n), .int (nI k)] [] (cpK (up2 h.1 5 6 (nI n)) 41 47 k, h.2) Q) n ?_ ?_ 0 (by omega)
    · rw [cpK_0] at key
      exact key
    · exact vg (br_t (Int32.le_refl _) q)
    · intro k hk ih
      refine vc_ok (st := [17]) 40 (br_f (nI_ge hk (by omega)) ⟨k, rfl, by omega, k, rfl, by omega, ?_⟩)
      show Go X m_X0_reorder 17 [.ref 5, .ref 47, .int (nI n), .int (nI k + 1)] [] (up2 (cpK (up2 h.1 5 6 (nI n)) 41 47 k) 41 k (up2 h.1 5 6 (nI n) 47 k), h.2) Q
      rw [cpK_s, nI_1]
      exact ih
theorem t_weave (v : okV V) (rn : RN V h) (q : ∀ f : Nat → Nat → Int32, Cl V f → (∀ c, ¬ clC c → f c = h.1 c) → Q none (f, h.2)) : Go X m_X0_weave 0 [.ref 5, .ref 2, .null] [] h Q := by
  have h1 := v.1
  -- the last loop: the cards
  have L3 : ∀ k, k ≤ V 0 0 → ∀ f : Nat → Nat → Int32, Hk V f 16 → f 5 0 = nI (V 0 0) → (∀ c, c < k → Cc V f c) → (∀ c, ¬ clC c → f c = h.1 c) → Go X m_X0_weave 62 [.ref 5, .ref 2, .int (nI k)] [] (f, h.2) Q := by
    refine down _ (V 0 0) ?_ ?_
    · intro f f1 f2 f3 f4
      have e4 : f 2 4 = nI (V 0 1) := (congrFun (f4 2 (by unfold clC; omega)) 4).trans rn.1.2.1
      refine vg (br_t (by show f 5 0 ≤ _; rw [f2]; exact Int32.le_refl _) ?_)
      show Go X m_X0_reorder 0 [.ref 5, .ref 18, .int (f 2 4), .null] [] (f, h.2) _
      rw [e4]
      refine t_reorder 18 20 (Or.inl ⟨rfl, rfl⟩) h1.2.1 (vg (q _ ⟨?_, ?_, ?_, ?_, ?_⟩ ?_))
      · exact f2
      · show nI (V 0 1) = _
        rfl
      · exact f1
      · exact f3
      · intro i hi
        rw [cpK_lt hi]
        exact (congrFun (f4 18 (by unfold clC; omega)) i).trans (rn.2.2.2.1 i hi)
      · intro c hc
        have hc' := hc
        unfold clC at hc'
        rw [cpK_ne (by omega), up2_ne (by omega)]
        exact f4 c hc
    · intro k hk ih f f1 f2 f3 f4
      refine vg (br_f (by show ¬ f 5 0 ≤ _; rw [f2]; exact nI_ge hk (by omega)) ⟨k, rfl, by omega, ?_⟩)
      have e1 : f 15 k = nI (V 1 k) := (congrFun (f4 15 (by unfold clC; omega)) k).trans (rn.2.1 k hk).1
      show Go X m_X0_measure 0 [.ref 5, .int (nI k), .int (f 15 k), .null, .null] [] (f, h.2) _
      rw [e1]
      refine t_measure v f1 (by omega) (v.2.1 k hk).1 (vc_ok (st := [62]) 40 ?_)
      have := ih (msr f k (V 1 k) (up V (V 1 k))) (fun j hj => by rw [msr_ne (by omega)]; exact f1 j hj) (by rw [msr_ne (by omega)]; exact f2) (fun c hc => by
        by_cases e : c = k
        · subst e; exact msr_at
        · obtain ⟨a1, a2, a3, a4⟩ := msr_nc (f := f) (a := V 1 k) (u := up V (V 1 k)) e
          have := f3 c (by omega)
          unfold Cc at this ⊢
          rw [a1, a2, a3, a4]; exact this) (fun c hc => by
        have hc' := hc
        unfold clC at hc'
        rw [msr_ne (by omega)]; exact f4 c hc)
      rw [← nI_1] at this
      exact this
  -- the second: the threads
  have L2 : ∀ t, t ≤ 16 → ∀ f : Nat → Nat → Int32, Hk V f t → (∀ c, c ≠ 40 → f c = h.1 c) → Go X m_X0_weave 23 [.ref 5, .ref 2, .int (nI t)] [] (f, h.2) Q := by
    refine down _ 16 ?_ ?_
    · intro f f1 f2
      refine vc_ok (st := [62]) 40 (br_t (Int32.le_refl _) ?_)
      have e0 : f 2 0 = nI (V 0 0) := (congrFun (f2 2 (by decide)) 0).trans rn.1.1
      show Go X m_X0_weave 62 [.ref 5, .ref 2, .int (nI 0)] [] (up2 f 5 0 (f 2 0), h.2) Q
      rw [e0]
      refine L3 0 (by omega) _ f1 rfl (fun c hc => absurd hc (by omega)) (fun c hc => ?_)
      unfold clC at hc
      rw [up2_ne (by omega)]
      exact f2 c (by omega)
    · intro t ht ih f f1 f2
      have h3 := v.2.2.1 t ht
      have e1 : f 17 t = nI (V 3 t) := (congrFun (f2 17 (by decide)) t).trans (rn.2.2.1 t ht)
      refine vc_ok (st := [23]) 40 (br_f (nI_ge ht (by decide)) ⟨t, rfl, ht, V 3 t, e1, h3, V 3 t, e1, h3, ?_⟩)
      show Go X m_X0_weave 23 [.ref 5, .ref 2, .int (nI t + 1)] [] (up2 f 40 (V 3 t) (f 40 (V 3 t) ||| (1 : Int32) <<< (nI t &&& 31)), h.2) Q
      rw [f1 _ h3, shl1 t (by omega), nI_or, nI_1]
      refine ih _ (fun k hk => ?_) (fun c hc => by rw [up2_ne hc]; exact f2 c hc)
      have e2 : hkN V k (t + 1) = hkN V k t ||| (if V 3 t = k then 2 ^ t else 0) := rfl
      rw [e2]
      by_cases e : k = V 3 t
      · subst e
        rw [u_at, if_pos rfl]
      · rw [u_ne e, if_neg (fun z => e z.symm), Nat.or_zero]
        exact f1 k hk
  -- the first: nothing yet
  have L1 : ∀ k, k ≤ 8 → ∀ f : Nat → Nat → Int32, (∀ j, j < k → f 40 j = 0) → (∀ c, c ≠ 40 → f c = h.1 c) → Go X m_X0_weave 2 [.ref 5, .ref 2, .int (nI k)] [] (f, h.2) Q := by
    refine down _ 8 ?_ ?_
    · intro f f1 f2
      exact vc_ok (st := [23]) 40 (br_t (Int32.le_refl _) (L2 0 (by decide) f (fun k hk => f1 k hk) f2))
    · intro k hk ih f f1 f2
      refine vc_ok (st := [2]) 40 (br_f (nI_ge hk (by decide)) ⟨k, rfl, hk, ?_⟩)
      have := ih (up2 f 40 k 0) (fun j hj => by
        by_cases e : j = k
        · subst e; rw [u_at]
        · rw [u_ne e]; exact f1 j (by omega)) (fun c hc => by rw [up2_ne hc]; exact f2 c hc)
      rw [← nI_1] at this
      exact this
  exact vc_ok (st := [2]) 40 (L1 0 (by decide) h.1 (fun j hj => absurd hj (by omega)) (fun _ _ => rfl))
end CLO
