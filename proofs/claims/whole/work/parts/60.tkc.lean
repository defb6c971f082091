/-! the text: the class's tokens -/
section TKC
variable {X : Xs} {h : Hp} {Q : Qt} {n : Nat} {B : Nat → Nat}
theorem lt_n {a b : Nat} (ha : a < 1000) (hb : b < 1000) : nI a < nI b ↔ a < b := nI_ltI (by omega) (by omega)
theorem eq_n {a b : Nat} (ha : a < 1000) (hb : b < 1000) : nI a = nI b ↔ a = b := nI_eq (by omega) (by omega)
theorem t_tok {b : Nat} (hb : b < 256) (q : Q (some (.int (nI (tkN b)))) h) : Go X m_X4_tokenBegunBy 0 [.int (nI b)] [] h Q := by
  have g28 : ¬ (97 ≤ b ∧ b ≤ 122) → ¬ (48 ≤ b ∧ b ≤ 57) → Go X m_X4_tokenBegunBy 28 [.int (nI b)] [] h Q := by
    intro n1 n2
    by_cases c3 : b = 35 ∨ b = 46 ∨ b = 63
    · rw [tk_3.mpr c3] at q
      by_cases c : b = 35
      · exact vg (br_t (show nI b = nI 35 by rw [c]) q)
      · by_cases d : b = 46
        · exact vg (br_f (fun z => c ((eq_n (by omega) (by omega)).mp z)) (br_t (show nI b = nI 46 by rw [d]) q))
        · exact vg (br_f (fun z => c ((eq_n (by omega) (by omega)).mp z)) (br_f (fun z => d ((eq_n (by omega) (by omega)).mp z)) (brn_f (show nI b = nI 63 by rw [show b = 63 by omega]) q)))
    · by_cases c4 : b = 59
      · rw [tk_4.mpr c4] at q
        exact vg (br_f (fun z => c3 (Or.inl ((eq_n (by omega) (by omega)).mp z))) (br_f (fun z => c3 (Or.inr (Or.inl ((eq_n (by omega) (by omega)).mp z)))) (brn_t (fun z => c3 (Or.inr (Or.inr ((eq_n (by omega) (by omega)).mp z)))) (brn_f (show nI b = nI 59 by rw [c4]) q))))
      · have e5 : tkN b = 5 := by
          unfold tkN
          rw [if_neg n1, if_neg n2, if_neg c3, if_neg c4]
        rw [e5] at q
        exact vg (br_f (fun z => c3 (Or.inl ((eq_n (by omega) (by omega)).mp z))) (br_f (fun z => c3 (Or.inr (Or.inl ((eq_n (by omega) (by omega)).mp z)))) (brn_t (fun z => c3 (Or.inr (Or.inr ((eq_n (by omega) (by omega)).mp z)))) (brn_t (fun z => c4 ((eq_n (by omega) (by omega)).mp z)) q))))
  have g14 : ¬ (97 ≤ b ∧ b ≤ 122) → Go X m_X4_tokenBegunBy 14 [.int (nI b)] [] h Q := by
    intro n1
    by_cases c : b < 48
    · exact vc_ok (st := [28]) 40 (br_t ((lt_n (by omega) (by omega)).mpr c) (g28 n1 (by omega)))
    · by_cases d : 57 < b
      · exact vc_ok (st := [28]) 40 (br_f (fun z => c ((lt_n (by omega) (by omega)).mp z)) (br_t ((lt_n (by omega) (by omega)).mpr d) (g28 n1 (by omega))))
      · rw [tk_2.mpr ⟨by omega, by omega⟩] at q
        exact vg (br_f (fun z => c ((lt_n (by omega) (by omega)).mp z)) (br_f (fun z => d ((lt_n (by omega) (by omega)).mp z)) q))
  by_cases c : b < 97
  · exact vc_ok (st := [14]) 40 (br_t ((lt_n (by omega) (by omega)).mpr c) (g14 (by omega)))
  · by_cases d : 122 < b
    · exact vc_ok (st := [14]) 40 (br_f (fun z => c ((lt_n (by omega) (by omega)).mp z)) (br_t ((lt_n (by omega) (by omega)).mpr d) (g14 (by omega))))
    · rw [tk_1.mpr ⟨by omega, by omega⟩] at q
      exact vg (br_f (fun z => c ((lt_n (by omega) (by omega)).mp z)) (br_f (fun z => d ((lt_n (by omega) (by omega)).mp z)) q))
/-- the tape's bytes, as the class has them -/
def TB (n : Nat) (B : Nat → Nat) (f : Nat → Nat → Int32) : Prop := ∀ i, i < n → f 48 i = nI (B i)
/-- the token behind p, as the class has it -/
def CT (n : Nat) (B : Nat → Nat) (p : Nat) (f : Nat → Nat → Int32) : Prop := f 8 3 = nI (sk n B p) ∧ f 8 4 = nI (eZ n B p) ∧ f 8 2 = nI (tkP n B p) ∧ (toR n B p = 2 → f 8 5 = nI (nmP n B p))
section LOOPS
variable (hn : n ≤ 120) (hB : ∀ i, i < n → B i < 256) (tb : TB n B h.1)
theorem t_skC (hn : n ≤ 120) (tb : TB n B h.1) (hB : ∀ i, i < n → B i < 256) : ∀ (m i : Nat) (f : Nat → Nat → Int32), n - i = m → i ≤ n → f 8 0 = nI n → f 8 3 = nI i → (∀ c, c ≠ 8 → f c = h.1 c) → (∀ g : Nat → Nat → Int32, g 8 0 = nI n → g 8 3 = nI (sk n B i) → (∀ c, c ≠ 8 → g c = h.1 c) → Go X m_X4_advance 46 [.ref 8] [] (g, h.2) Q) → Go X m_X4_advance 8 [.ref 8] [] (f, h.2) Q
  | 0, i, f, hm, hi, f0, f3, fo, q => by
    refine vc_ok (st := [46]) 40 (br_t (show f 8 0 ≤ f 8 3 by rw [f0, f3]; exact nI_le (by omega) (by omega)) ?_)
    exact q f f0 (by rw [sk_0 (fun z => by omega)]; exact f3) fo
  | m + 1, i, f, hm, hi, f0, f3, fo, q => by
    have lt : ¬ f 8 0 ≤ f 8 3 := by rw [f0, f3]; exact nI_ge (by omega) (by omega)
    have e48 : f 48 i = nI (B i) := by rw [fo 48 (by decide)]; exact tb i (by omega)
    have b8 := hB i (by omega)
    by_cases c : B i = 32
    · rw [sk_1 (by omega) c] at q
      have nx := t_skC hn tb hB m (i + 1) (up2 f 8 3 (nI (i + 1))) (by omega) (by omega) (by rw [u_ne (by decide)]; exact f0) u_at (fun c hc => by rw [up2_ne hc]; exact fo c hc) q
      rw [← nI_1, ← f3] at nx
      exact vc_ok (st := [8, 46]) 100 (br_f lt ⟨i, f3, by omega, brn_f (show f 48 i = nI 32 by rw [e48, c]) nx⟩)
    · rw [sk_0 (fun z => c z.2)] at q
      exact vc_ok (st := [8, 46]) 100 (br_f lt ⟨i, f3, by omega, brn_t (show ¬ f 48 i = nI 32 by rw [e48, eq_n (by omega) (by omega)]; exact c) (q f f0 f3 fo)⟩)
theorem t_enC (hn : n ≤ 120) (tb : TB n B h.1) (hB : ∀ i, i < n → B i < 256) {s k : Nat} (hk : k ≤ 5) : ∀ (m e : Nat) (f : Nat → Nat → Int32), n - e = m → e ≤ n → f 8 0 = nI n → f 8 2 = nI k → f 8 3 = nI s → f 8 4 = nI e → (∀ c, c ≠ 8 → f c = h.1 c) → (∀ g : Nat → Nat → Int32, g 8 0 = nI n → g 8 2 = nI k → g 8 3 = nI s → g 8 4 = nI (en n B k e) → (∀ c, c ≠ 8 → g c = h.1 c) → Go X m_X4_advance 155 [.ref 8] [] (g, h.2) Q) → Go X m_X4_advance 112 [.ref 8] [] (f, h.2) Q
  | 0, e, f, hm, he, f0, f2, f3, f4, fo, q => by
    refine vc_ok (st := [155]) 40 (br_t (show f 8 0 ≤ f 8 4 by rw [f0, f4]; exact nI_le (by omega) (by omega)) ?_)
    exact q f f0 f2 f3 (by rw [en_0 (fun z => by omega)]; exact f4) fo
  | m + 1, e, f, hm, he, f0, f2, f3, f4, fo, q => by
    have lt : ¬ f 8 0 ≤ f 8 4 := by rw [f0, f4]; exact nI_ge (by omega) (by omega)
    have e48 : f 48 e = nI (B e) := by rw [fo 48 (by decide)]; exact tb e (by omega)
    have b8 := hB e (by omega)
    have tb5 := tk_b (B e)
    refine vg (br_f lt ⟨e, f4, by omega, ?_⟩)
    show Go X m_X4_tokenBegunBy 0 [.int (f 48 e)] [] (f, h.2) _
    rw [e48]
    refine t_tok b8 ?_
    by_cases c : tkN (B e) = k
    · rw [en_1 (by omega) c] at q
      have nx := t_enC hn tb hB hk m (e + 1) (up2 f 8 4 (nI (e + 1))) (by omega) (by omega) (by rw [u_ne (by decide)]; exact f0) (by rw [u_ne (by decide)]; exact f2) (by rw [u_ne (by decide)]; exact f3) u_at (fun c hc => by rw [up2_ne hc]; exact fo c hc) q
      rw [← nI_1, ← f4] at nx
      exact vc_ok (st := [112, 155]) 100 (brn_f (show nI (tkN (B e)) = f 8 2 by rw [f2, c]) nx)
    · rw [en_0 (fun z => c z.2)] at q
      exact vc_ok (st := [112, 155]) 100 (brn_t (show ¬ nI (tkN (B e)) = f 8 2 by rw [f2, eq_n (by omega) (by omega)]; exact c) (q f f0 f2 f3 f4 fo))
end LOOPS
theorem t_readNumber (hn : n ≤ 120) (tb : TB n B h.1) {s e : Nat} (hse : s ≤ e) (hen : e ≤ n) (hd : ∀ i, s ≤ i → i < e → tkN (B i) = 2) (h2 : h.1 8 2 = nI 2) (h3 : h.1 8 3 = nI s) (h4 : h.1 8 4 = nI e) (q : ∀ f : Nat → Nat → Int32, f 8 0 = h.1 8 0 → f 8 2 = nI (if 999 < nmC B s (e - s) then 5 else 2) → f 8 3 = nI s → f 8 4 = nI e → f 8 5 = nI (nmC B s (e - s)) → (∀ c, c ≠ 8 → f c = h.1 c) → Q none (f, h.2)) : Go X m_X4_readNumber 0 [.ref 8, .null] [] h Q := by
  refine vc_ok (st := [10]) 100 ?_
  show Go X m_X4_readNumber 10 [.ref 8, .int (h.1 8 3)] [] (up2 h.1 8 5 (nI 0), h.2) Q
  rw [h3]
  suffices hh : ∀ k, k ≤ e - s → ∀ f : Nat → Nat → Int32, f 8 5 = nI (nmC B s k) → (∀ j, j ≠ 5 → f 8 j = h.1 8 j) → (∀ c, c ≠ 8 → f c = h.1 c) → Go X m_X4_readNumber 10 [.ref 8, .int (nI (s + k))] [] (f, h.2) Q from hh 0 (Nat.zero_le _) (up2 h.1 8 5 (nI 0)) u_at (fun j hj => u_ne hj) (fun c hc => up2_ne hc)
  refine down _ (e - s) ?_ ?_
  · intro f f5 fj fo
    have nb := nmC_b (B := B) s (e - s)
    have e4 : f 8 4 = nI e := by rw [fj 4 (by decide)]; exact h4
    rw [show s + (e - s) = e by omega]
    by_cases c : 999 < nmC B s (e - s)
    · rw [if_pos c] at q
      refine vg (br_t (le_of e4) (br_f (show ¬ f 8 5 ≤ nI 999 by rw [f5]; exact nI_ge c (by omega)) ?_))
      exact q (up2 f 8 2 (nI 5)) (by rw [u_ne (by decide)]; exact fj 0 (by decide)) u_at (by rw [u_ne (by decide), fj 3 (by decide)]; exact h3) (by rw [u_ne (by decide)]; exact e4) (by rw [u_ne (by decide)]; exact f5) (fun c hc => by rw [up2_ne hc]; exact fo c hc)
    · rw [if_neg c] at q
      exact vg (br_t (le_of e4) (br_t (show f 8 5 ≤ nI 999 by rw [f5]; exact nI_le (by omega) (by omega)) (q f (fj 0 (by decide)) (by rw [fj 2 (by decide)]; exact h2) (by rw [fj 3 (by decide)]; exact h3) e4 f5 fo)))
  · intro k hk ih f f5 fj fo
    have nb := nmC_b (B := B) s k
    have e4 : f 8 4 = nI e := by rw [fj 4 (by decide)]; exact h4
    have e48 : f 48 (s + k) = nI (B (s + k)) := by rw [fo 48 (by decide)]; exact tb (s + k) (by omega)
    have d := tk_2.mp (hd (s + k) (by omega) (by omega))
    have ev : (if nI 1000 < nI 10 * f 8 5 + f 48 (s + k) - nI 48 then nI 1000 else nI 10 * f 8 5 + f 48 (s + k) - nI 48) = nI (nmC B s (k + 1)) := by
      rw [f5, e48, pk_mul, nI_add, pk_sub (by omega), nmC_s, show 10 * nmC B s k + B (s + k) - 48 = 10 * nmC B s k + (B (s + k) - 48) by omega]
      by_cases c : 1000 < 10 * nmC B s k + (B (s + k) - 48)
      · rw [if_pos c, if_pos (nI_lt c (by omega))]
      · rw [if_neg c, if_neg (nI_nlt (by omega) (by omega))]
    refine vc_ok (st := [10]) 100 (br_f (nle_of e4 (by omega) (by omega)) ⟨s + k, rfl, by omega, ?_⟩)
    show Go X m_X4_readNumber 10 [.ref 8, .int (nI (s + k) + 1)] [] (up2 f 8 5 (if nI 1000 < nI 10 * f 8 5 + f 48 (s + k) - nI 48 then nI 1000 else nI 10 * f 8 5 + f 48 (s + k) - nI 48), h.2) Q
    rw [ev, nI_1]
    exact ih _ u_at (fun j hj => by rw [u_ne hj]; exact fj j hj) (fun c hc => by rw [up2_ne hc]; exact fo c hc)
theorem t_adv (hn : n ≤ 120) (hB : ∀ i, i < n → B i < 256) (tb : TB n B h.1) {p : Nat} (hp : p ≤ n) (h0 : h.1 8 0 = nI n) (h4 : h.1 8 4 = nI p) (q : ∀ f : Nat → Nat → Int32, CT n B p f → f 8 0 = nI n → (∀ c, c ≠ 8 → f c = h.1 c) → Q none (f, h.2)) : Go X m_X4_advance 0 [.ref 8] [] h Q := by
  refine vc_ok (st := [8]) 100 ?_
  show Go X m_X4_advance 8 [.ref 8] [] (up2 h.1 8 3 (h.1 8 4), h.2) Q
  rw [h4]
  refine t_skC hn tb hB _ p _ rfl hp (by rw [u_ne (by decide)]; exact h0) u_at (fun c hc => up2_ne hc) (fun g g0 g3 go => ?_)
  obtain ⟨z1, z2, z3, z4⟩ := eZ_b (n := n) (B := B) hp
  obtain ⟨s1, s2⟩ := sk_b (n := n) (B := B) _ p rfl hp
  -- from the token on
  have rest : ∀ (f : Nat → Nat → Int32), f 8 0 = nI n → f 8 2 = nI (toR n B p) → f 8 3 = nI (sk n B p) → f 8 4 = nI (sk n B p) → (∀ c, c ≠ 8 → f c = h.1 c) → Go X m_X4_advance 85 [.ref 8] [] (f, h.2) Q := by
    intro f f0 f2 f3 f4 fo
    have t5 := to_b n B p
    by_cases c : toR n B p = 4 ∨ toR n B p = 5
    · have last : Go X m_X4_advance 101 [.ref 8] [] (f, h.2) Q := by
        refine vg ?_
        show Q none (up2 f 8 4 (f 8 3 + 1), h.2)
        rw [f3, nI_1]
        refine q _ ⟨by rw [u_ne (by decide)]; exact f3, by rw [u_at, eZ_1 c], ?_, fun z => by omega⟩ (by rw [u_ne (by decide)]; exact f0) (fun c hc => by rw [up2_ne hc]; exact fo c hc)
        rw [u_ne (by decide), f2]
        unfold tkP
        rw [if_neg (fun z => by omega)]
      by_cases d : toR n B p = 4
      · exact vc_ok (st := [101]) 40 (br_t (show f 8 2 = nI 4 by rw [f2, d]) last)
      · exact vc_ok (st := [101]) 40 (br_f (show ¬ f 8 2 = nI 4 by rw [f2, eq_n (by omega) (by omega)]; exact d) (brn_f (show f 8 2 = nI 5 by rw [f2, show toR n B p = 5 by omega]) last))
    · refine vc_ok (st := [112]) 40 (br_f (show ¬ f 8 2 = nI 4 by rw [f2, eq_n (by omega) (by omega)]; omega) (brn_t (show ¬ f 8 2 = nI 5 by rw [f2, eq_n (by omega) (by omega)]; omega) ?_))
      refine t_enC hn tb hB (k := toR n B p) t5 _ (sk n B p) f rfl s2 f0 f2 f3 f4 fo (fun g g0 g2 g3 g4 go => ?_)
      rw [← eZ_0 c] at g4
      by_cases d : toR n B p = 2
      · rw [d] at g2
        refine vg (brn_f g2 (t_readNumber (h := (g, h.2)) (s := sk n B p) (e := eZ n B p) hn (show TB n B g by unfold TB; rw [go 48 (by decide)]; exact tb) z2 z3 (fun i i1 i2 => by rw [← d]; exact eZ_k hp c i i1 i2) g2 g3 g4 (fun k k0 k2 k3 k4 k5 ko => vg ?_)))
        have ko : ∀ c, c ≠ 8 → k c = g c := ko
        refine q k ⟨k3, k4, ?_, fun _ => k5⟩ (k0.trans g0) (fun c hc => (ko c hc).trans (go c hc))
        rw [k2]
        unfold tkP
        by_cases w : 999 < nmP n B p
        · rw [if_pos w, if_pos ⟨d, w⟩]
        · rw [if_neg w, if_neg (fun z => w z.2), d]
      · refine vg (brn_t (show ¬ g 8 2 = nI 2 by rw [g2, eq_n (by omega) (by omega)]; exact d) (q g ⟨g3, g4, ?_, fun z => absurd z d⟩ g0 go))
        rw [g2]
        unfold tkP
        rw [if_neg (fun z => d z.1)]
  by_cases c : sk n B p < n
  · have e48 : g 48 (sk n B p) = nI (B (sk n B p)) := by rw [go 48 (by decide)]; exact tb _ c
    refine vg (br_f (show ¬ g 8 0 ≤ g 8 3 by rw [g0, g3]; exact nI_ge c (by omega)) ⟨sk n B p, g3, by omega, ?_⟩)
    show Go X m_X4_tokenBegunBy 0 [.int (g 48 (sk n B p))] [] (g, h.2) _
    rw [e48]
    refine t_tok (hB _ c) (vc_ok (st := [85]) 100 ?_)
    show Go X m_X4_advance 85 [.ref 8] [] (up2 (up2 g 8 2 (nI (tkN (B (sk n B p))))) 8 4 (up2 g 8 2 (nI (tkN (B (sk n B p)))) 8 3), h.2) Q
    rw [← to_lt c]
    exact rest _ (by rw [u_ne (by decide), u_ne (by decide)]; exact g0) (by rw [u_ne (by decide), u_at]) (by rw [u_ne (by decide), u_ne (by decide)]; exact g3) (by rw [u_at, u_ne (by decide)]; exact g3) (fun c hc => by rw [up2_ne hc, up2_ne hc]; exact go c hc)
  · refine vc_ok (st := [85]) 100 (br_t (show g 8 0 ≤ g 8 3 by rw [g0, g3]; exact nI_le (by omega) (by omega)) ?_)
    show Go X m_X4_advance 85 [.ref 8] [] (up2 (up2 g 8 2 (nI 0)) 8 4 (up2 g 8 2 (nI 0) 8 3), h.2) Q
    exact rest _ (by rw [u_ne (by decide), u_ne (by decide)]; exact g0) (by rw [u_ne (by decide), u_at, to_0 c]) (by rw [u_ne (by decide), u_ne (by decide)]; exact g3) (by rw [u_at, u_ne (by decide)]; exact g3) (fun c hc => by rw [up2_ne hc, up2_ne hc]; exact go c hc)
end TKC
