/-! how the machine's propositions are used -/
theorem Go.mono {X : Xs} {mid pc : Nat} {L S : List Value} {h : Hp} {Q Q' : Qt} (hq : ∀ v h', Q v h' → Q' v h') (g : Go X mid pc L S h Q) : Go X mid pc L S h Q' := by
  intro e he ρ D dA A p l env R s m args below meth c cells slots fin hC hE hR
  exact g e he ρ D dA A p l env R s m args below meth c cells slots fin hC hE (fun v h' H locs ls pc' a1 a2 a3 a4 => hR v h' H locs ls pc' a1 a2 a3 (hq v h' a4))
theorem down (P : Nat → Prop) (N : Nat) (h0 : P N) (hs : ∀ k, k < N → P (k + 1) → P k) : ∀ k, k ≤ N → P k := by
  intro k hk
  obtain ⟨j, hj⟩ : ∃ j, N = k + j := ⟨N - k, by omega⟩
  induction j generalizing k with
  | zero =>
    have : k = N := by omega
    subst this
    exact h0
  | succ j ih => exact hs k (by omega) (ih (k + 1) (by omega) (by omega))
theorem in_no {x : Int32} {n : Nat} (hn : n < 2 ^ 31) (h : ¬ vp_in x n) : x < 0 ∨ nI n ≤ x := by
  rcases pk_ix x hn with h1 | h1 | ⟨j, h1, h2⟩
  · exact Or.inl h1
  · exact Or.inr h1
  · rw [h2] at h
    exact absurd (vp_in_nI h1 hn) h
theorem in_of {x : Int32} {n : Nat} (hn : n < 2 ^ 31) (h0 : ¬ x < 0) (h1 : ¬ nI n ≤ x) : vp_in x n := by
  rcases pk_ix x hn with h2 | h2 | ⟨j, h2, h3⟩
  · exact absurd h2 h0
  · exact absurd h2 h1
  · rw [h3]
    exact vp_in_nI h2 hn
-- ===== LoomCardsModel: in, finds, ones
theorem cmp_lt {x y : Int64} : lg_cmp x y < 0 ↔ x < y := by
  unfold lg_cmp
  split
  · rename_i h
    constructor
    · intro z; exact absurd z (by decide)
    · intro z; exact absurd z (Int64.lt_asymm h)
  · split
    · rename_i h
      subst h
      constructor
      · intro z; exact absurd z (by decide)
      · intro z; exact absurd (Int64.ne_of_lt z) (fun q => q rfl)
    · rename_i h1 h2
      constructor
      · intro _
        rcases Int64.lt_or_le x y with z | z
        · exact z
        · exact absurd (Int64.lt_of_le_of_ne z (fun q => h2 q.symm)) h1
      · intro _; decide
theorem cmp_gt {x y : Int64} : 0 < lg_cmp x y ↔ y < x := by
  unfold lg_cmp
  split
  · rename_i h
    constructor
    · intro z; exact h
    · intro z; decide
  · rename_i h
    split
    · constructor
      · intro z; exact absurd z (by decide)
      · intro z; exact absurd z h
    · constructor
      · intro z; exact absurd z (by decide)
      · intro z; exact absurd z h
theorem t_in {X : Xs} {v lo hi : Int64} {h : Hp} {Q : Qt} (a : lo ≤ v → v ≤ hi → Q (some (.int 1)) h) (b : ¬ (lo ≤ v ∧ v ≤ hi) → Q (some (.int 0)) h) : Go X m_X7_in 0 [.long v, .null, .long lo, .null, .long hi, .null] [] h Q := by
  refine vc_ok (st := []) 40 ?_
  refine And.intro (fun c => ⟨Or.inl rfl, b (fun z => ?_)⟩) (fun c => And.intro (fun c2 => ⟨Or.inl rfl, b (fun z => ?_)⟩) (fun c2 => ⟨Or.inr rfl, a ?_ ?_⟩))
  · exact absurd (cmp_lt.mp c) (Int64.not_lt.mpr z.1)
  · exact absurd (cmp_gt.mp c2) (Int64.not_lt.mpr z.2)
  · exact Int64.not_lt.mp (fun z => c (cmp_lt.mpr z))
  · exact Int64.not_lt.mp (fun z => c2 (cmp_gt.mpr z))
theorem t_findsN {X : Xs} {f : Int32} (k : Nat) {h : Hp} {Q : Qt} (hk : k < 7) (hf : f = nI k) (a : Q (some (.int (-1000000001 - nI k))) (up2 h.1 56 k (h.1 56 k + 1), h.2)) : Go X m_X7_finds 0 [.ref 1, .int f] [] h Q := by
  subst hf
  exact vc_ok (st := []) 40 ⟨k, rfl, hk, k, rfl, hk, a⟩
def onesF (x : Int32) : Nat → Int32
  | 0 => 0
  | k + 1 => onesF x k + (x >>> (nI k &&& 31) &&& 1)
theorem t_ones {X : Xs} {x : Int32} {h : Hp} {Q : Qt} (a : Q (some (.int (onesF x 16))) h) : Go X m_X7_ones 0 [.int x, .null, .null] [] h Q := by
  refine vc_ok (st := [4]) 40 ?_
  refine down (fun k => Go X m_X7_ones 4 [.int x, .int (onesF x k), .int (nI k)] [] h Q) 16 ?_ ?_ 0 (by omega)
  · refine vc_ok (st := [4]) 40 ?_
    exact And.intro (fun _ => a) (fun c => absurd (show nI 16 ≤ nI 16 from Int32.le_refl _) c)
  · intro k hk ih
    refine vc_ok (st := [4]) 40 ?_
    refine And.intro (fun c => absurd c (nI_ge hk (by omega))) (fun c => ?_)
    rw [← nI_1] at ih
    exact ih
theorem vg {X : Xs} {mid pc : Nat} {L S : List Value} {h : Hp} {Q : Qt} (hv : vc X [] 100 mid pc L S h Q) : Go X mid pc L S h Q := vc_ok 100 hv
theorem brn_t {c A B : Prop} (h : ¬ c) (a : A) : (¬ c → A) ∧ (c → B) := ⟨fun _ => a, fun z => absurd z h⟩
theorem brn_f {c A B : Prop} (h : c) (b : B) : (¬ c → A) ∧ (c → B) := ⟨fun z => absurd h z, fun _ => b⟩
theorem i_lt {x y : Int32} : x < y ↔ x.toInt < y.toInt := Int32.lt_iff_toInt_lt
theorem i_le {x y : Int32} : x ≤ y ↔ x.toInt ≤ y.toInt := Int32.le_iff_toInt_le
theorem i_eq {x y : Int32} : x = y ↔ x.toInt = y.toInt := ⟨fun h => by rw [h], fun h => Int32.toInt_inj.mp h⟩
theorem l_le {x y : Int64} : x ≤ y ↔ x.toInt ≤ y.toInt := Int64.le_iff_toInt_le
theorem i64 (x : Int32) : x.toInt64.toInt = x.toInt := Int32.toInt_toInt64 x
theorem nT {n : Nat} (h : n < 2 ^ 31) : (nI n).toInt = n := nI_toInt h
theorem nI_ex {x : Int32} {n : Nat} (h0 : 0 ≤ x.toInt) (h1 : x.toInt < n) (hn : n ≤ 2 ^ 31) : ∃ c : Nat, c < n ∧ x = nI c := by
  refine ⟨x.toInt.toNat, by omega, ?_⟩
  rw [i_eq, nT (by omega)]
  omega
theorem nI_in0 {c n : Nat} (h : c < n) (hn : n < 2 ^ 31) : vp_in (nI c) n := vp_in_nI h hn
theorem nI_cl {c : Nat} (h : c < 2 ^ 31) : (nI c).toNatClampNeg = c := nI_clamp h
/-- the model's 'in', an int asked against two bounds -/
theorem t_inI {X : Xs} {x : Int32} {lo hi : Int64} {h : Hp} {Q : Qt} (l u : Int) (hl : lo.toInt = l) (hu : hi.toInt = u) (a : l ≤ x.toInt ∧ x.toInt ≤ u → Q (some (.int 1)) h) (b : ¬ (l ≤ x.toInt ∧ x.toInt ≤ u) → Q (some (.int 0)) h) : Go X m_X7_in 0 [.long x.toInt64, .null, .long lo, .null, .long hi, .null] [] h Q := by
  refine t_in (fun z1 z2 => a ?_) (fun z => b (fun w => z ?_))
  · rw [l_le, i64, hl] at z1
    rw [l_le, i64, hu] at z2
    exact ⟨z1, z2⟩
  · rw [l_le, l_le, i64, hl, hu]
    exact w
theorem nI_bv (n : Nat) : (nI n).toBitVec = BitVec.ofNat 32 n := rfl
theorem nI_and (a b : Nat) : nI a &&& nI b = nI (a &&& b) := by
  apply Int32.toBitVec_inj.mp
  rw [Int32.toBitVec_and, nI_bv, nI_bv, nI_bv, BitVec.ofNat_and]
theorem nI_or (a b : Nat) : nI a ||| nI b = nI (a ||| b) := by
  apply Int32.toBitVec_inj.mp
  rw [Int32.toBitVec_or, nI_bv, nI_bv, nI_bv, BitVec.ofNat_or]
theorem nI_xor (a b : Nat) : nI a ^^^ nI b = nI (a ^^^ b) := by
  apply Int32.toBitVec_inj.mp
  rw [Int32.toBitVec_xor, nI_bv, nI_bv, nI_bv, BitVec.ofNat_xor]
