/-! which threads a card's holes lift: by hooks (class) and by threads (reference) -/
def orF (f : Nat → Nat) : Nat → Nat
  | 0 => 0
  | k + 1 => orF f k ||| f k
theorem orF_cg {f g : Nat → Nat} : ∀ {n : Nat}, (∀ k, k < n → f k = g k) → orF f n = orF g n
  | 0, _ => rfl
  | n + 1, h => by unfold orF; rw [orF_cg (fun k hk => h k (by omega)), h n (by omega)]
theorem orF_lt {f : Nat → Nat} {m : Nat} : ∀ {n : Nat}, (∀ k, k < n → f k < 2 ^ m) → orF f n < 2 ^ m
  | 0, _ => Nat.two_pow_pos m
  | n + 1, h => Nat.or_lt_two_pow (orF_lt (fun k hk => h k (by omega))) (h n (by omega))
theorem orF_tb {f : Nat → Nat} {t : Nat} : ∀ {n : Nat}, (orF f n).testBit t = true ↔ ∃ k, k < n ∧ (f k).testBit t = true
  | 0 => by simp [orF]
  | n + 1 => by
    unfold orF
    rw [Nat.testBit_or, Bool.or_eq_true, orF_tb (n := n)]
    constructor
    · rintro (⟨k, h1, h2⟩ | h)
      · exact ⟨k, by omega, h2⟩
      · exact ⟨n, by omega, h⟩
    · rintro ⟨k, h1, h2⟩
      by_cases e : k = n
      · subst e; exact Or.inr h2
      · exact Or.inl ⟨k, by omega, h2⟩
/-- the threads that are tied to a hook, of the first n -/
def hkN (V : Vw) (k n : Nat) : Nat := orF (fun t => if V 3 t = k then 2 ^ t else 0) n
def upC (V : Vw) (a n : Nat) : Nat := orF (fun k => if bt a k = 1 then hkN V k 16 else 0) n
def upF (V : Vw) (a n : Nat) : Nat := orF (fun t => bt a (V 3 t) * 2 ^ t) n
/-- the threads that are up by the holes a -/
abbrev up (V : Vw) (a : Nat) : Nat := upF V a 16
theorem bt01 {a k : Nat} (h : ¬ bt a k = 1) : bt a k = 0 := by have := bt_le a k; omega
theorem hkN_lt (V : Vw) (k n : Nat) (hn : n ≤ 16) : hkN V k n < 2 ^ 16 := orF_lt (fun t ht => by
  split
  · exact Nat.pow_lt_pow_right (by decide) (by omega)
  · decide)
theorem up_lt (V : Vw) (a n : Nat) (hn : n ≤ 16) : upF V a n < 2 ^ 16 := orF_lt (fun t ht => by
  have h1 : 2 ^ t < 2 ^ 16 := Nat.pow_lt_pow_right (by decide) (by omega)
  have h2 := bt_le a (V 3 t)
  rcases (show bt a (V 3 t) = 0 ∨ bt a (V 3 t) = 1 by omega) with e | e <;> rw [e] <;> omega)
theorem upC_eq {V : Vw} (v : okV V) (a : Nat) : upC V a 8 = up V a := by
  apply Nat.eq_of_testBit_eq
  intro t
  rw [Bool.eq_iff_iff]
  unfold upC
  show _ ↔ (upF V a 16).testBit t = true
  unfold upF
  rw [orF_tb, orF_tb]
  constructor
  · rintro ⟨k, hk, h⟩
    split at h
    · rename_i hb
      unfold hkN at h
      obtain ⟨s, hs, h2⟩ := orF_tb.mp h
      split at h2
      · rename_i e
        exact ⟨s, hs, by rw [e, hb, Nat.one_mul]; exact h2⟩
      · simp at h2
    · simp at h
  · rintro ⟨s, hs, h⟩
    have hb : bt a (V 3 s) = 1 := by
      rcases Nat.lt_or_ge (bt a (V 3 s)) 1 with z | z
      · rw [show bt a (V 3 s) = 0 by omega, Nat.zero_mul] at h
        simp at h
      · have := bt_le a (V 3 s)
        omega
    refine ⟨V 3 s, v.2.2.1 s hs, ?_⟩
    rw [if_pos hb]
    unfold hkN
    rw [orF_tb]
    exact ⟨s, hs, by rw [if_pos rfl]; rw [hb, Nat.one_mul] at h; exact h⟩
theorem shl1 : ∀ k, k < 31 → (1 : Int32) <<< (nI k &&& 31) = nI (2 ^ k) := by decide +kernel
theorem shlB {b k : Nat} (hb : b ≤ 1) (hk : k < 31) : nI b <<< (nI k &&& 31) = nI (b * 2 ^ k) := by
  rcases (show b = 0 ∨ b = 1 by omega) with rfl | rfl
  · have : ∀ k, k < 31 → nI 0 <<< (nI k &&& 31) = nI 0 := by decide +kernel
    rw [Nat.zero_mul]
    exact this k hk
  · rw [Nat.one_mul]
    exact shl1 k hk
section UPBY
variable {X : Xs} {h : Hp} {Q : Qt}
/-- the reference: the threads that a set of holes lifts -/
theorem t_upBy {V : Vw} (v : okV V) (rm : RM V h 53) {a : Nat} (ha : a < 256) (q : Q (some (.int (nI (up V a)))) h) : Go X m_X7_upBy 0 [.ref 1, .int (nI a), .null, .null] [] h Q := by
  refine vc_ok (st := [4]) 40 ?_
  refine down (fun k => Go X m_X7_upBy 4 [.ref 1, .int (nI a), .int (nI (upF V a k)), .int (nI k)] [] h Q) 16 ?_ ?_ 0 (by omega)
  · exact vg (br_t (Int32.le_refl _) q)
  · intro k hk ih
    have h3 := v.2.2.1 k hk
    refine vc_ok (st := [4]) 40 (br_f (nI_ge hk (by decide)) ⟨24 + k, nI_add 24 k, by omega, ?_⟩)
    show Go X m_X7_upBy 4 [.ref 1, .int (nI a), .int (nI (upF V a k) ||| (nI a >>> (h.1 53 (24 + k) &&& 31) &&& 1) <<< (nI k &&& 31)), .int (nI k + 1)] [] h Q
    rw [rm.2.2.1 k hk, bitN (by omega) (by omega), shlB (bt_le _ _) (by omega), nI_or, nI_1]
    exact ih
end UPBY
