/-! bits of numbers below 2^31 -/
def bt (a k : Nat) : Nat := a / 2 ^ k % 2
theorem s_l : ∀ n, n < 32 → ((nI n &&& 31).toBitVec.smod 32).toNat = n := by decide +kernel
theorem shrN {a k : Nat} (ha : a < 2 ^ 31) (hk : k < 32) : nI a >>> (nI k &&& 31) = nI (a / 2 ^ k) := pk_shrN ha _ k (s_l k hk)
theorem andN1 (a : Nat) : nI a &&& 1 = nI (a % 2) := by
  have := nI_and a 1
  rw [Nat.and_one_is_mod] at this
  exact this
theorem bitN {a k : Nat} (ha : a < 2 ^ 31) (hk : k < 32) : nI a >>> (nI k &&& 31) &&& 1 = nI (bt a k) := by rw [shrN ha hk, andN1]; rfl
theorem bt_le (a k : Nat) : bt a k ≤ 1 := by unfold bt; omega
theorem bt_tb (a k : Nat) : Nat.testBit a k = decide (bt a k = 1) := by rw [Nat.testBit_eq_decide_div_mod_eq]; rfl
theorem bt_and {a b k : Nat} : bt (a &&& b) k = 1 ↔ bt a k = 1 ∧ bt b k = 1 := by
  have h := Nat.testBit_and a b k
  rw [bt_tb, bt_tb, bt_tb] at h
  constructor
  · intro z
    rw [z] at h
    simpa using h.symm
  · rintro ⟨z1, z2⟩
    rw [z1, z2] at h
    simpa using h
theorem bt_0 (k : Nat) : bt 0 k = 0 := by unfold bt; simp
/-- the bit taken away -/
def clr (a k : Nat) : Nat := a &&& (255 ^^^ 2 ^ k)
theorem clrN : ∀ a, a < 256 → ∀ k, k < 8 → nI a &&& ((1 : Int32) <<< (nI k &&& 31) ^^^ (-1)) = nI (clr a k) := by decide +kernel
theorem setN : ∀ a, a < 256 → ∀ k, k < 8 → nI a ||| (1 : Int32) <<< (nI k &&& 31) = nI (a ||| 2 ^ k) := by decide +kernel
theorem clrN0 : ∀ a, a < 256 → ∀ k, k < 8 → nI a &&& ((1 : Int32) <<< (nI k &&& 31) ^^^ (-1)) ||| (0 : Int32) = nI (clr a k) := by decide +kernel
theorem clrN1 : ∀ a, a < 256 → ∀ k, k < 8 → nI a &&& ((1 : Int32) <<< (nI k &&& 31) ^^^ (-1)) ||| (1 : Int32) <<< (nI k &&& 31) = nI (a ||| 2 ^ k) := by decide +kernel
theorem clr_lt (a k : Nat) (hk : k < 8) : clr a k < 256 := by
  unfold clr
  refine Nat.lt_of_le_of_lt Nat.and_le_right ?_
  have : ∀ k, k < 8 → 255 ^^^ 2 ^ k < 256 := by decide
  exact this k hk
theorem set_lt {a k : Nat} (ha : a < 256) (hk : k < 8) : a ||| 2 ^ k < 256 := by
  apply Nat.or_lt_two_pow (n := 8) ha
  exact Nat.pow_lt_pow_right (by decide) hk
theorem clr_tb {a k i : Nat} (hk : k < 8) : Nat.testBit (clr a k) i = (Nat.testBit a i && decide (i < 8) && !decide (i = k)) := by
  unfold clr
  rw [Nat.testBit_and, Nat.testBit_xor, Nat.testBit_two_pow, show (255 : Nat) = 2 ^ 8 - 1 from rfl, Nat.testBit_two_pow_sub_one]
  by_cases h1 : i = k
  · subst h1
    simp [hk]
  · have : ¬ k = i := fun z => h1 z.symm
    by_cases h2 : i < 8 <;> simp [h1, h2, this]
theorem dis_clr {a e k : Nat} (hk : k < 8) (h : a &&& e = 0) : clr a k &&& clr e k = 0 := by
  apply Nat.eq_of_testBit_eq
  intro i
  have h1 := congrArg (fun z => Nat.testBit z i) h
  simp only [Nat.testBit_and, Nat.zero_testBit] at h1
  rw [Nat.testBit_and, clr_tb hk, clr_tb hk, Nat.zero_testBit]
  cases h2 : a.testBit i <;> cases h3 : e.testBit i <;> simp [h2, h3] at h1 ⊢
theorem dis_set {a e k : Nat} (hk : k < 8) (h : a &&& e = 0) : (a ||| 2 ^ k) &&& clr e k = 0 := by
  apply Nat.eq_of_testBit_eq
  intro i
  have h1 := congrArg (fun z => Nat.testBit z i) h
  simp only [Nat.testBit_and, Nat.zero_testBit] at h1
  rw [Nat.testBit_and, Nat.testBit_or, clr_tb hk, Nat.zero_testBit, Nat.testBit_two_pow]
  by_cases h4 : k = i
  · subst h4; simp
  · cases h2 : a.testBit i <;> cases h3 : e.testBit i <;> simp [h2, h3, h4] at h1 ⊢
theorem dis_set2 {a e k : Nat} (hk : k < 8) (h : a &&& e = 0) : clr a k &&& (e ||| 2 ^ k) = 0 := by
  rw [Nat.and_comm]
  exact dis_set hk (by rw [Nat.and_comm]; exact h)
section VAL
variable {X : Xs} {h : Hp} {Q : Qt}
/-- what is at a hook: 0, 1, or 2 where it is eaten -/
def valN (a e k : Nat) : Nat := if bt e k = 1 then 2 else bt a k
theorem valN_dis {a e k : Nat} (h : a &&& e = 0) : bt a k + 2 * bt e k = valN a e k := by
  unfold valN
  have h1 := bt_le a k
  have h2 := bt_le e k
  have h3 : ¬ (bt a k = 1 ∧ bt e k = 1) := fun z => by
    have := bt_and.mpr z
    rw [h, bt_0] at this
    omega
  split <;> omega
theorem t_valueAt {c k a e : Nat} (hc : c < 10) (hk : k < 8) (ha : a < 256) (he : e < 256) (e1 : h.1 15 c = nI a) (e2 : h.1 16 c = nI e) (q : Q (some (.int (nI (valN a e k)))) h) : Go X m_X1_valueAt 0 [.ref 2, .int (nI c), .int (nI k)] [] h Q := by
  refine vg ⟨c, rfl, hc, ?_⟩
  have k1 : h.1 16 c >>> (nI k &&& 31) &&& 1 = nI (bt e k) := by rw [e2]; exact bitN (by omega) (by omega)
  have k2 : h.1 15 c >>> (nI k &&& 31) &&& 1 = nI (bt a k) := by rw [e1]; exact bitN (by omega) (by omega)
  unfold valN at q
  by_cases p : bt e k = 1
  · rw [if_pos p] at q
    exact brn_f (by show h.1 16 c >>> (nI k &&& 31) &&& 1 = nI 1; rw [k1, p]) q
  · rw [if_neg p] at q
    refine brn_t ?_ ⟨c, rfl, hc, ?_⟩
    · show ¬ h.1 16 c >>> (nI k &&& 31) &&& 1 = nI 1
      have := bt_le e k
      rw [k1, nI_eq (by omega) (by decide)]
      exact p
    · show Q (some (.int (h.1 15 c >>> (nI k &&& 31) &&& 1))) h
      rw [k2]
      exact q
theorem t_hasAt {c k a e : Nat} (hc : c < 10) (hk : k < 8) (ha : a < 256) (he : e < 256) (hd : a &&& e = 0) (e1 : h.1 53 (4 + c) = nI a) (e2 : h.1 53 (14 + c) = nI e) (q : Q (some (.int (nI (valN a e k)))) h) : Go X m_X7_hasAt 0 [.ref 1, .int (nI c), .int (nI k)] [] h Q := by
  refine vg ⟨4 + c, nI_add 4 c, by omega, 14 + c, nI_add 14 c, by omega, ?_⟩
  show Q (some (.int ((h.1 53 (4 + c) >>> (nI k &&& 31) &&& 1) + nI 2 * (h.1 53 (14 + c) >>> (nI k &&& 31) &&& 1)))) h
  rw [e1, e2, bitN (by omega) (by omega), bitN (by omega) (by omega), pk_mul, nI_add, valN_dis hd]
  exact q
end VAL
