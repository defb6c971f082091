/-! the text: the reference's tokens -/
section TKM
variable {X : Xs} {h : Hp} {Q : Qt} {n : Nat} {B : Nat → Nat}
abbrev sb (b : Nat) : Int32 := (nI b).toInt8.toInt32
theorem sb_lo : ∀ b, b < 128 → sb b = nI b := by decide +kernel
theorem sb_hi : ∀ b, b < 256 → 128 ≤ b → (sb b).toInt < 0 := by decide +kernel
/-- the reference's byte at i -/
def cM (n : Nat) (B : Nat → Nat) (i : Nat) : Int32 := if i < n then sb (B i) else -1
theorem cM_b (hB : ∀ i, i < n → B i < 256) (i : Nat) : (i < n ∧ B i < 128 ∧ cM n B i = nI (B i)) ∨ (¬ (i < n ∧ B i < 128) ∧ (cM n B i).toInt < 0) := by
  unfold cM
  by_cases c : i < n
  · rw [if_pos c]
    have := hB i c
    by_cases d : B i < 128
    · exact Or.inl ⟨c, d, sb_lo _ d⟩
    · exact Or.inr ⟨fun z => d z.2, sb_hi _ this (by omega)⟩
  · rw [if_neg c]
    exact Or.inr ⟨fun z => c z.1, by decide⟩
theorem cM_eq (hB : ∀ i, i < n → B i < 256) {i k : Nat} (hk : k < 128) : cM n B i = nI k ↔ i < n ∧ B i = k := by
  rcases cM_b hB i with ⟨a, b, c⟩ | ⟨a, c⟩
  · rw [c, eq_n (by omega) (by omega)]
    exact ⟨fun z => ⟨a, z⟩, fun z => z.2⟩
  · refine ⟨fun z => ?_, fun z => absurd ⟨z.1, by rw [z.2]; exact hk⟩ a⟩
    rw [z, nT (by omega)] at c
    omega
theorem cM_lt (hB : ∀ i, i < n → B i < 256) {i k : Nat} (hk : k < 128) : cM n B i < nI k ↔ ¬ (i < n ∧ B i < 128 ∧ k ≤ B i) := by
  rcases cM_b hB i with ⟨a, b, c⟩ | ⟨a, c⟩
  · rw [c, lt_n (by omega) (by omega)]
    omega
  · rw [i_lt, nT (by omega)]
    exact ⟨fun _ z => a ⟨z.1, z.2.1⟩, fun _ => by omega⟩
theorem cM_gt (hB : ∀ i, i < n → B i < 256) {i k : Nat} (hk : k < 128) : nI k < cM n B i ↔ i < n ∧ B i < 128 ∧ k < B i := by
  rcases cM_b hB i with ⟨a, b, c⟩ | ⟨a, c⟩
  · rw [c, lt_n (by omega) (by omega)]
    omega
  · rw [i_lt, nT (by omega)]
    exact ⟨fun z => absurd z (by omega), fun z => absurd ⟨z.1, z.2.1⟩ a⟩
/-- the tape, as the reference has it -/
def TM (n : Nat) (B : Nat → Nat) (f : Nat → Nat → Int32) : Prop := f 1 6 = nI n ∧ ∀ i, i < n → f 57 i = sb (B i)
theorem t_byteAt (hn : n ≤ 120) (tm : TM n B h.1) {i : Nat} (hi : i ≤ n) (q : Q (some (.int (cM n B i))) h) : Go X m_X7_byteAt 0 [.ref 1, .int (nI i)] [] h Q := by
  unfold cM at q
  by_cases c : i < n
  · rw [if_pos c, ← tm.2 i c] at q
    exact vg (br_f (nle_of tm.1 c (by omega)) ⟨i, rfl, by omega, q⟩)
  · rw [if_neg c] at q
    exact vg (br_t (show h.1 1 6 ≤ nI i by rw [tm.1]; exact nI_le (by omega) (by omega)) q)
section CHARS
variable {i : Nat}
theorem t_dig (hB : ∀ i, i < n → B i < 256) (a : i < n → tkN (B i) = 2 → Q (some (.int 1)) h) (b : ¬ (i < n ∧ tkN (B i) = 2) → Q (some (.int 0)) h) : Go X m_X7_isDigit 0 [.int (cM n B i)] [] h Q := by
  have k1 := cM_lt hB (i := i) (k := 48) (by decide)
  have k2 := cM_gt hB (i := i) (k := 57) (by decide)
  by_cases c : i < n ∧ tkN (B i) = 2
  · have d := tk_2.mp c.2
    exact vg (br_f (fun z => k1.mp z ⟨c.1, by omega, by omega⟩) (br_f (fun z => absurd (k2.mp z) (by omega)) ⟨Or.inr rfl, a c.1 c.2⟩))
  · by_cases e : cM n B i < nI 48
    · exact vg (br_t e ⟨Or.inl rfl, b c⟩)
    · have e' := Classical.not_not.mp (fun z => e (k1.mpr z))
      refine vg (br_f e (br_t (k2.mpr ⟨e'.1, e'.2.1, ?_⟩) ⟨Or.inl rfl, b c⟩))
      have : ¬ tkN (B i) = 2 := fun z => c ⟨e'.1, z⟩
      rw [tk_2] at this
      omega
theorem t_pun (hB : ∀ i, i < n → B i < 256) (a : i < n → tkN (B i) = 3 → Q (some (.int 1)) h) (b : ¬ (i < n ∧ tkN (B i) = 3) → Q (some (.int 0)) h) : Go X m_X7_isPunch 0 [.int (cM n B i)] [] h Q := by
  have k1 := cM_eq hB (i := i) (k := 35) (by decide)
  have k2 := cM_eq hB (i := i) (k := 46) (by decide)
  have k3 := cM_eq hB (i := i) (k := 63) (by decide)
  have aa : i < n → (B i = 35 ∨ B i = 46 ∨ B i = 63) → Q (some (.int 1)) h := fun z w => a z (tk_3.mpr w)
  by_cases c1 : cM n B i = nI 35
  · exact vg (br_t c1 ⟨Or.inr rfl, aa (k1.mp c1).1 (Or.inl (k1.mp c1).2)⟩)
  · by_cases c2 : cM n B i = nI 46
    · exact vg (br_f c1 (br_t c2 ⟨Or.inr rfl, aa (k2.mp c2).1 (Or.inr (Or.inl (k2.mp c2).2))⟩))
    · by_cases c3 : cM n B i = nI 63
      · exact vg (br_f c1 (br_f c2 (brn_f c3 ⟨Or.inr rfl, aa (k3.mp c3).1 (Or.inr (Or.inr (k3.mp c3).2))⟩)))
      · refine vg (br_f c1 (br_f c2 (brn_t c3 ⟨Or.inl rfl, b (fun z => ?_)⟩)))
        rcases tk_3.mp z.2 with w | w | w
        · exact c1 (k1.mpr ⟨z.1, w⟩)
        · exact c2 (k2.mpr ⟨z.1, w⟩)
        · exact c3 (k3.mpr ⟨z.1, w⟩)
theorem t_let (hB : ∀ i, i < n → B i < 256) (a : i < n → tkN (B i) = 1 → Q (some (.int (nI (B i - 96)))) h) (b : ¬ (i < n ∧ tkN (B i) = 1) → Q (some (.int (nI 0))) h) : Go X m_X7_letter 0 [.int (cM n B i)] [] h Q := by
  have k1 := cM_lt hB (i := i) (k := 97) (by decide)
  have k2 := cM_gt hB (i := i) (k := 122) (by decide)
  by_cases c : i < n ∧ tkN (B i) = 1
  · have d := tk_1.mp c.2
    refine vg (br_f (fun z => k1.mp z ⟨c.1, by omega, by omega⟩) (br_f (fun z => absurd (k2.mp z) (by omega)) ?_))
    show Q (some (.int (cM n B i - nI 97 + 1))) h
    rcases cM_b hB i with ⟨_, _, z⟩ | ⟨z, _⟩
    · rw [z, pk_sub (by omega), nI_1, show B i - 97 + 1 = B i - 96 by omega]
      exact a c.1 c.2
    · exact absurd ⟨c.1, by omega⟩ z
  · by_cases e : cM n B i < nI 97
    · exact vg (br_t e (b c))
    · have e' := Classical.not_not.mp (fun z => e (k1.mpr z))
      refine vg (br_f e (br_t (k2.mpr ⟨e'.1, e'.2.1, ?_⟩) (b c)))
      have : ¬ tkN (B i) = 1 := fun z => c ⟨e'.1, z⟩
      rw [tk_1] at this
      omega
end CHARS
theorem u_uu {α : Type} {f : Nat → Nat → α} {a k : Nat} {x y : α} : up2 (up2 f a k x) a k y = up2 f a k y := by
  funext c j
  by_cases e : c = a
  · subst e
    by_cases ej : j = k
    · subst ej; rw [u_at, u_at]
    · rw [u_ne ej, u_ne ej, u_ne ej]
  · rw [up2_ne e, up2_ne e, up2_ne e]
/-- but the reference's place all is as it was -/
def F13 (f F : Nat → Nat → Int32) : Prop := (∀ j, j ≠ 13 → f 1 j = F 1 j) ∧ ∀ c, c ≠ 1 → f c = F c
theorem f13_u {f F : Nat → Nat → Int32} {x : Int32} (e : F13 f F) : F13 (up2 f 1 13 x) F := ⟨fun j hj => by rw [u_ne hj]; exact e.1 j hj, fun c hc => by rw [up2_ne hc]; exact e.2 c hc⟩
theorem tm_13 {f F : Nat → Nat → Int32} (e : F13 f F) (tm : TM n B F) : TM n B f := ⟨by rw [e.1 6 (by decide)]; exact tm.1, by rw [e.2 57 (by decide)]; exact tm.2⟩
theorem cmp_le {x y : Int64} : lg_cmp x y ≤ 0 ↔ ¬ y < x := by
  rw [← cmp_gt, Int32.not_lt]
section LOOPS
variable {F : Nat → Nat → Int32} {G : Nat → Nat → Int64} {b : Int32} {s : Nat}
theorem t_skM (hn : n ≤ 120) (hB : ∀ i, i < n → B i < 256) (tm : TM n B F) : ∀ (m i : Nat) (f : Nat → Nat → Int32), n - i = m → i ≤ n → f 1 13 = nI i → F13 f F → (∀ g : Nat → Nat → Int32, g 1 13 = nI (sk n B i) → F13 g F → Go X m_X7_next 26 [.ref 1, .null] [] (g, G) Q) → Go X m_X7_next 0 [.ref 1, .null] [] (f, G) Q
  | 0, i, f, hm, hi, f1, fo, q => by
    refine vg ?_
    show Go X m_X7_byteAt 0 [.ref 1, .int (f 1 13)] [] (f, G) _
    rw [f1]
    refine t_byteAt hn (tm_13 fo tm) hi (vc_ok (st := [0, 26]) 40 (brn_t (fun z => absurd ((cM_eq hB (k := 32) (by decide)).mp z).1 (by omega)) ?_))
    exact q f (by rw [sk_0 (fun z => by omega)]; exact f1) fo
  | m + 1, i, f, hm, hi, f1, fo, q => by
    refine vg ?_
    show Go X m_X7_byteAt 0 [.ref 1, .int (f 1 13)] [] (f, G) _
    rw [f1]
    by_cases c : B i = 32
    · rw [sk_1 (by omega) c] at q
      have nx := t_skM hn hB tm m (i + 1) (up2 f 1 13 (nI (i + 1))) (by omega) (by omega) u_at (f13_u fo) q
      rw [← nI_1, ← f1] at nx
      exact t_byteAt hn (tm_13 fo tm) hi (vc_ok (st := [0, 26]) 40 (brn_f ((cM_eq hB (k := 32) (by decide)).mpr ⟨by omega, c⟩) nx))
    · rw [sk_0 (fun z => c z.2)] at q
      exact t_byteAt hn (tm_13 fo tm) hi (vc_ok (st := [0, 26]) 40 (brn_t (fun z => c ((cM_eq hB (k := 32) (by decide)).mp z).2) (q f f1 fo)))
theorem t_puM (hn : n ≤ 120) (hB : ∀ i, i < n → B i < 256) (tm : TM n B F) : ∀ (m e : Nat) (f : Nat → Nat → Int32), n - e = m → e ≤ n → s ≤ e → f 1 13 = nI e → F13 f F → (∀ g : Nat → Nat → Int32, g 1 13 = nI (en n B 3 e) → F13 g F → Q none (g, up2 G 1 16 (lN (en n B 3 e - s)))) → Go X m_X7_next 103 [.ref 1, .int b] [] (f, up2 G 1 16 (lN (e - s))) Q := by
  intro m
  induction m with
  | zero =>
    intro e f hm he hs f1 fo q
    refine vg ?_
    show Go X m_X7_byteAt 0 [.ref 1, .int (f 1 13)] [] (f, up2 G 1 16 (lN (e - s))) _
    rw [f1]
    rw [en_0 (fun z => by omega)] at q
    exact t_byteAt hn (tm_13 fo tm) he (vg (t_pun hB (fun z => absurd z (by omega)) (fun _ => vg (br_t rfl (q f f1 fo)))))
  | succ m ih =>
    intro e f hm he hs f1 fo q
    refine vg ?_
    show Go X m_X7_byteAt 0 [.ref 1, .int (f 1 13)] [] (f, up2 G 1 16 (lN (e - s))) _
    rw [f1]
    refine t_byteAt hn (tm_13 fo tm) he (vg (t_pun hB (fun z c => ?_) (fun c => ?_)))
    · rw [en_1 z c] at q
      have nx := ih (e + 1) (up2 f 1 13 (nI (e + 1))) (by omega) (by omega) (by omega) u_at (f13_u fo) q
      refine vc_ok (st := [103]) 100 (br_f (by decide) ?_)
      show Go X m_X7_next 103 [.ref 1, .int b] [] (up2 f 1 13 (f 1 13 + 1), up2 (up2 G 1 16 (lN (e - s))) 1 16 (up2 G 1 16 (lN (e - s)) 1 16 + 1)) Q
      rw [u_uu, u_at, f1, nI_1, lN_1, show e - s + 1 = e + 1 - s by omega]
      exact nx
    · rw [en_0 c] at q
      exact vg (br_t rfl (q f f1 fo))
theorem t_woM (hn : n ≤ 120) (hB : ∀ i, i < n → B i < 256) (tm : TM n B F) : ∀ (m e : Nat) (f : Nat → Nat → Int32), n - e = m → e ≤ n → s ≤ e → (∀ i, s ≤ i → i < e → tkN (B i) = 1) → f 1 13 = nI e → F13 f F → (∀ g : Nat → Nat → Int32, g 1 13 = nI (en n B 1 e) → F13 g F → Q none (g, up2 G 1 16 (lN (wuF B s (en n B 1 e - s))))) → Go X m_X7_next 152 [.ref 1, .int b] [] (f, up2 G 1 16 (lN (wuF B s (e - s)))) Q := by
  intro m
  induction m with
  | zero =>
    intro e f hm he hs hl f1 fo q
    refine vg ?_
    show Go X m_X7_byteAt 0 [.ref 1, .int (f 1 13)] [] (f, up2 G 1 16 (lN (wuF B s (e - s)))) _
    rw [f1]
    rw [en_0 (fun z => by omega)] at q
    exact t_byteAt hn (tm_13 fo tm) he (vg (t_let hB (fun z => absurd z (by omega)) (fun _ => vg (br_t (by decide) (q f f1 fo)))))
  | succ m ih =>
    intro e f hm he hs hl f1 fo q
    refine vg ?_
    show Go X m_X7_byteAt 0 [.ref 1, .int (f 1 13)] [] (f, up2 G 1 16 (lN (wuF B s (e - s)))) _
    rw [f1]
    refine t_byteAt hn (tm_13 fo tm) he (vg (t_let hB (fun z c => ?_) (fun c => ?_)))
    · rw [en_1 z c] at q
      have d := tk_1.mp c
      have nx := ih (e + 1) (up2 f 1 13 (nI (e + 1))) (by omega) (by omega) (by omega) (fun i i1 i2 => by
        by_cases y : i = e
        · subst y; exact c
        · exact hl i i1 (by omega)) u_at (f13_u fo) q
      have wb := wv_b (B := B) s (e - s) (fun i hi => hl (s + i) (by omega) (by omega))
      have ws := wv_s (B := B) s (e - s)
      rw [show e - s + 1 = e + 1 - s by omega, show s + (e - s) = e by omega] at ws
      rw [ws] at nx
      have kk : lg_cmp (up2 G 1 16 (lN (wuF B s (e - s))) 1 16) (lN 100000000000) ≤ 0 ↔ ¬ 100000000000 < wuF B s (e - s) := by
        rw [cmp_le, u_at, pk_lLT (by omega) (by omega)]
      by_cases y : 100000000000 < wuF B s (e - s)
      · rw [if_pos y] at nx
        refine vc_ok (st := [152]) 100 (br_f (nI_nle (by omega) (by omega)) (br_f (fun w => kk.mp w y) ?_))
        show Go X m_X7_next 152 [.ref 1, .int b] [] (up2 f 1 13 (f 1 13 + 1), up2 (up2 G 1 16 (lN (wuF B s (e - s)))) 1 16 (up2 G 1 16 (lN (wuF B s (e - s))) 1 16)) Q
        rw [u_uu, u_at, f1, nI_1]
        exact nx
      · rw [if_neg y] at nx
        refine vg (br_f (nI_nle (by omega) (by omega)) (br_t (kk.mpr y) ?_))
        show Go X m_X7_byteAt 0 [.ref 1, .int (f 1 13)] [] (f, up2 G 1 16 (lN (wuF B s (e - s)))) _
        rw [f1]
        refine t_byteAt hn (tm_13 fo tm) he (vg (t_let hB (fun _ _ => vc_ok (st := [152]) 100 ?_) (fun w => absurd ⟨z, c⟩ w)))
        show Go X m_X7_next 152 [.ref 1, .int b] [] (up2 f 1 13 (f 1 13 + 1), up2 (up2 G 1 16 (lN (wuF B s (e - s)))) 1 16 (up2 G 1 16 (lN (wuF B s (e - s))) 1 16 * lN 27 + (nI (B e - 96)).toInt64)) Q
        rw [u_uu, u_at, f1, nI_1, nI_l (by omega), lN_mul, lN_add]
        exact nx
    · rw [en_0 c] at q
      exact vg (br_t (by decide) (q f f1 fo))
theorem t_nuM (hn : n ≤ 120) (hB : ∀ i, i < n → B i < 256) (tm : TM n B F) : ∀ (m e : Nat) (f : Nat → Nat → Int32), n - e = m → e ≤ n → s ≤ e → (∀ i, s ≤ i → i < e → tkN (B i) = 2) → f 1 13 = nI e → F13 f F → (∀ g : Nat → Nat → Int32, g 1 13 = nI (en n B 2 e) → F13 g F → Q none (g, up2 G 1 16 (lN (nmM B s (en n B 2 e - s))))) → Go X m_X7_next 234 [.ref 1, .int b] [] (f, up2 G 1 16 (lN (nmM B s (e - s)))) Q := by
  intro m
  induction m with
  | zero =>
    intro e f hm he hs hl f1 fo q
    refine vg ?_
    show Go X m_X7_byteAt 0 [.ref 1, .int (f 1 13)] [] (f, up2 G 1 16 (lN (nmM B s (e - s)))) _
    rw [f1]
    rw [en_0 (fun z => by omega)] at q
    exact t_byteAt hn (tm_13 fo tm) he (vg (t_dig hB (fun z => absurd z (by omega)) (fun _ => vg (br_t rfl (q f f1 fo)))))
  | succ m ih =>
    intro e f hm he hs hl f1 fo q
    refine vg ?_
    show Go X m_X7_byteAt 0 [.ref 1, .int (f 1 13)] [] (f, up2 G 1 16 (lN (nmM B s (e - s)))) _
    rw [f1]
    refine t_byteAt hn (tm_13 fo tm) he (vg (t_dig hB (fun z c => ?_) (fun c => ?_)))
    · rw [en_1 z c] at q
      have d := tk_2.mp c
      have nx := ih (e + 1) (up2 f 1 13 (nI (e + 1))) (by omega) (by omega) (by omega) (fun i i1 i2 => by
        by_cases y : i = e
        · subst y; exact c
        · exact hl i i1 (by omega)) u_at (f13_u fo) q
      have wb := nm_rel (B := B) s (e - s) (fun i hi => hl (s + i) (by omega) (by omega))
      have ws := nmM_s (B := B) s (e - s)
      rw [show e - s + 1 = e + 1 - s by omega, show s + (e - s) = e by omega] at ws
      rw [ws] at nx
      have kk : lg_cmp (up2 G 1 16 (lN (nmM B s (e - s))) 1 16) (lN 999) ≤ 0 ↔ ¬ 999 < nmM B s (e - s) := by
        rw [cmp_le, u_at, pk_lLT (by omega) (by omega)]
      by_cases y : 999 < nmM B s (e - s)
      · rw [if_pos y] at nx
        refine vc_ok (st := [234]) 100 (br_f (by decide) (br_f (fun w => kk.mp w y) ?_))
        show Go X m_X7_next 234 [.ref 1, .int b] [] (up2 f 1 13 (f 1 13 + 1), up2 (up2 G 1 16 (lN (nmM B s (e - s)))) 1 16 (up2 G 1 16 (lN (nmM B s (e - s))) 1 16)) Q
        rw [u_uu, u_at, f1, nI_1]
        exact nx
      · rw [if_neg y] at nx
        refine vg (br_f (by decide) (br_t (kk.mpr y) ?_))
        show Go X m_X7_byteAt 0 [.ref 1, .int (f 1 13)] [] (f, up2 G 1 16 (lN (nmM B s (e - s)))) _
        rw [f1]
        refine t_byteAt hn (tm_13 fo tm) he (vc_ok (st := [234]) 100 ?_)
        show Go X m_X7_next 234 [.ref 1, .int b] [] (up2 f 1 13 (f 1 13 + 1), up2 (up2 G 1 16 (lN (nmM B s (e - s)))) 1 16 (up2 G 1 16 (lN (nmM B s (e - s))) 1 16 * lN 10 + (cM n B e).toInt64 - lN 48)) Q
        have ec : cM n B e = nI (B e) := by
          rcases cM_b hB e with ⟨_, _, w⟩ | ⟨w, _⟩
          · exact w
          · exact absurd ⟨z, by omega⟩ w
        rw [u_uu, u_at, f1, nI_1, ec, nI_l (by omega), lN_mul, lN_add, lN_sub (by omega), show nmM B s (e - s) * 10 + B e - 48 = nmM B s (e - s) * 10 + (B e - 48) by omega]
        exact nx
    · rw [en_0 c] at q
      exact vg (br_t rfl (q f f1 fo))
end LOOPS
/-- the reference's name for a token -/
def mS (t : Nat) : Nat := [0, 1, 2, 5, 3, 4].getD t 0
/-- its value -/
def vlM (n : Nat) (B : Nat → Nat) (p : Nat) : Nat := if toR n B p = 1 then wuF B (sk n B p) (eZ n B p - sk n B p) else if toR n B p = 2 then nmQ n B p else if toR n B p = 3 then eZ n B p - sk n B p else 0
/-- the token behind p, as the reference has it -/
def MT (n : Nat) (B : Nat → Nat) (p : Nat) (f : Nat → Nat → Int32) (g : Nat → Nat → Int64) : Prop := f 1 15 = nI (sk n B p) ∧ (toR n B p ≠ 5 → f 1 13 = nI (eZ n B p)) ∧ f 1 14 = nI (mS (toR n B p)) ∧ g 1 16 = lN (vlM n B p)
/-- all but the reader's own places is as it was -/
def FM (f F : Nat → Nat → Int32) : Prop := (∀ j, j ≠ 13 → j ≠ 14 → j ≠ 15 → f 1 j = F 1 j) ∧ ∀ c, c ≠ 1 → f c = F c
theorem t_next (hn : n ≤ 120) (hB : ∀ i, i < n → B i < 256) (tm : TM n B h.1) {p : Nat} (hp : p ≤ n) (h13 : h.1 1 13 = nI p) (q : ∀ (f : Nat → Nat → Int32) (g : Nat → Nat → Int64), MT n B p f g → FM f h.1 → (∀ c, c ≠ 1 → g c = h.2 c) → Q none (f, g)) : Go X m_X7_next 0 [.ref 1, .null] [] h Q := by
  obtain ⟨z1, z2, z3, z4⟩ := eZ_b (n := n) (B := B) hp
  obtain ⟨s1, s2⟩ := sk_b (n := n) (B := B) _ p rfl hp
  have fin : ∀ (f : Nat → Nat → Int32) (v : Nat), f 1 15 = nI (sk n B p) → (toR n B p ≠ 5 → f 1 13 = nI (eZ n B p)) → f 1 14 = nI (mS (toR n B p)) → v = vlM n B p → FM f h.1 → Q none (f, up2 h.2 1 16 (lN v)) := fun f v a b c d e => q f _ ⟨a, b, c, by rw [u_at, d]⟩ e (fun c hc => up2_ne hc)
  have vl : ∀ {k v : Nat}, toR n B p = k → vlM n B p = (if k = 1 then wuF B (sk n B p) (eZ n B p - sk n B p) else if k = 2 then nmQ n B p else if k = 3 then eZ n B p - sk n B p else 0) := fun e => by unfold vlM; rw [e]
  refine t_skM hn hB tm _ p h.1 rfl hp h13 ⟨fun _ _ => rfl, fun _ _ => rfl⟩ (fun f f1 fo => ?_)
  have tf := tm_13 fo tm
  refine vg ?_
  show Go X m_X7_byteAt 0 [.ref 1, .int (f 1 13)] [] (up2 f 1 15 (f 1 13), up2 h.2 1 16 (lN 0)) _
  rw [f1]
  have tk : TM n B (up2 f 1 15 (nI (sk n B p))) := ⟨by rw [u_ne (by decide)]; exact tf.1, tf.2⟩
  have k13 : up2 f 1 15 (nI (sk n B p)) 1 13 = nI (sk n B p) := by rw [u_ne (by decide)]; exact f1
  have k15 : up2 f 1 15 (nI (sk n B p)) 1 15 = nI (sk n B p) := u_at
  have fk : FM (up2 f 1 15 (nI (sk n B p))) h.1 := ⟨fun j j1 _ j3 => by rw [u_ne j3]; exact fo.1 j j1, fun c hc => by rw [up2_ne hc]; exact fo.2 c hc⟩
  generalize up2 f 1 15 (nI (sk n B p)) = k at tk k13 k15 fk
  refine t_byteAt hn tk s2 ?_
  -- the loops' ends
  have out : ∀ {t : Nat} {k2 g : Nat → Nat → Int32}, (∀ c, c ≠ 1 → k2 c = k c) → (∀ j, j ≠ 14 → k2 1 j = k 1 j) → k2 1 14 = nI t → F13 g k2 → g 1 15 = nI (sk n B p) ∧ g 1 14 = nI t ∧ FM g h.1 := fun a b c d => ⟨by rw [d.1 15 (by decide), b 15 (by decide)]; exact k15, by rw [d.1 14 (by decide)]; exact c, ⟨fun j j1 j2 j3 => by rw [d.1 j j1, b j j2]; exact fk.1 j j1 j2 j3, fun c hc => by rw [d.2 c hc, a c hc]; exact fk.2 c hc⟩⟩
  have up : ∀ (x : Int32), (∀ c, c ≠ 1 → up2 k 1 14 x c = k c) ∧ (∀ j, j ≠ 14 → up2 k 1 14 x 1 j = k 1 j) ∧ up2 k 1 14 x 1 14 = x ∧ TM n B (up2 k 1 14 x) ∧ up2 k 1 14 x 1 13 = nI (sk n B p) := fun x => ⟨fun c hc => up2_ne hc, fun j hj => u_ne hj, u_at, ⟨by rw [u_ne (by decide)]; exact tk.1, tk.2⟩, by rw [u_ne (by decide)]; exact k13⟩
  by_cases c : sk n B p < n
  case neg =>
    have e0 := to_0 c
    refine vg (brn_f (show k 1 13 = k 1 6 by rw [k13, tk.1, show sk n B p = n by omega]) (fin (up2 k 1 14 (nI 0)) 0 (by rw [u_ne (by decide)]; exact k15) (fun _ => by rw [u_ne (by decide), k13, eZ_0 (by rw [e0]; omega), e0, en_0 (fun z => c z.1)]) (by rw [u_at, e0]; rfl) (by rw [vl (v := 0) e0]; rfl) ?_))
    exact ⟨fun j j1 j2 j3 => by rw [u_ne j2]; exact fk.1 j j1 j2 j3, fun c hc => by rw [up2_ne hc]; exact fk.2 c hc⟩
  have et := to_lt c
  have at1 : ¬ k 1 13 = k 1 6 := by
    rw [k13, tk.1, nI_eq (by omega) (by omega)]
    omega
  have s59 := cM_eq hB (i := sk n B p) (k := 59) (by decide)
  by_cases t4 : toR n B p = 4
  · refine vg (brn_t at1 (brn_f (s59.mpr ⟨c, tk_4.mp (et.symm.trans t4)⟩) ?_))
    show Q none (up2 (up2 k 1 14 (nI 3)) 1 13 (up2 k 1 14 (nI 3) 1 13 + 1), up2 h.2 1 16 (lN 0))
    rw [(up _).2.2.2.2, nI_1]
    obtain ⟨o1, o2, o3⟩ := out (up (nI 3)).1 (up (nI 3)).2.1 (up (nI 3)).2.2.1 (f13_u (x := nI (sk n B p + 1)) ⟨fun _ _ => rfl, fun _ _ => rfl⟩)
    exact fin _ 0 o1 (fun _ => by rw [u_at, eZ_1 (Or.inl t4)]) (by rw [o2, t4]; rfl) (by rw [vl (v := 0) t4]; rfl) o3
  have n59 : ¬ cM n B (sk n B p) = nI 59 := fun z => t4 (et.trans (tk_4.mpr (s59.mp z).2))
  refine vg (brn_t at1 (brn_t n59 (t_pun hB (fun _ t3 => ?_) (fun n3 => ?_))))
  · rw [← et] at t3
    obtain ⟨u1, u2, u3, u4, u5⟩ := up (nI 5)
    have lp := t_puM (X := X) (Q := Q) (F := up2 k 1 14 (nI 5)) (G := h.2) (b := cM n B (sk n B p)) (s := sk n B p) hn hB u4 _ (sk n B p) (up2 k 1 14 (nI 5)) rfl s2 (Nat.le_refl _) u5 ⟨fun _ _ => rfl, fun _ _ => rfl⟩ (fun g g1 go => by
      obtain ⟨o1, o2, o3⟩ := out u1 u2 u3 go
      rw [← t3, ← eZ_0 (by omega)] at g1
      refine fin g _ o1 (fun _ => g1) (by rw [o2, t3]; rfl) ?_ o3
      rw [vl (v := 0) t3, ← t3, ← eZ_0 (by omega), t3]
      rfl)
    rw [Nat.sub_self] at lp
    exact vc_ok (st := [103]) 100 (br_f (by decide) lp)
  refine vg (br_t rfl (t_let hB (fun _ t1 => ?_) (fun n1 => ?_)))
  · have d := tk_1.mp t1
    rw [← et] at t1
    obtain ⟨u1, u2, u3, u4, u5⟩ := up (nI 1)
    have lp := t_woM (X := X) (Q := Q) (F := up2 k 1 14 (nI 1)) (G := h.2) (b := cM n B (sk n B p)) (s := sk n B p) hn hB u4 _ (sk n B p) (up2 k 1 14 (nI 1)) rfl s2 (Nat.le_refl _) (fun i i1 i2 => absurd i2 (by omega)) u5 ⟨fun _ _ => rfl, fun _ _ => rfl⟩ (fun g g1 go => by
      obtain ⟨o1, o2, o3⟩ := out u1 u2 u3 go
      refine fin g _ o1 (fun _ => by rw [g1, eZ_0 (by omega), t1]) (by rw [o2, t1]; rfl) ?_ o3
      rw [vl (v := 0) t1, eZ_0 (by omega), t1]
      rfl)
    rw [Nat.sub_self] at lp
    exact vc_ok (st := [152]) 100 (br_f (nI_nle (by omega) (by omega)) lp)
  refine vg (br_t (by decide) (t_dig hB (fun _ t2 => ?_) (fun n2 => ?_)))
  · rw [← et] at t2
    obtain ⟨u1, u2, u3, u4, u5⟩ := up (nI 2)
    have lp := t_nuM (X := X) (Q := Q) (F := up2 k 1 14 (nI 2)) (G := h.2) (b := cM n B (sk n B p)) (s := sk n B p) hn hB u4 _ (sk n B p) (up2 k 1 14 (nI 2)) rfl s2 (Nat.le_refl _) (fun i i1 i2 => absurd i2 (by omega)) u5 ⟨fun _ _ => rfl, fun _ _ => rfl⟩ (fun g g1 go => by
      obtain ⟨o1, o2, o3⟩ := out u1 u2 u3 go
      rw [← t2, ← eZ_0 (by omega)] at g1
      refine fin g _ o1 (fun _ => g1) (by rw [o2, t2]; rfl) ?_ o3
      rw [vl (v := 0) t2, ← t2, ← eZ_0 (by omega), t2]
      rfl)
    rw [Nat.sub_self] at lp
    exact vc_ok (st := [234]) 100 (br_f (by decide) lp)
  have t5 : toR n B p = 5 := by
    have b := tk_b (B (sk n B p))
    have m1 : ¬ tkN (B (sk n B p)) = 1 := fun z => n1 ⟨c, z⟩
    have m2 : ¬ tkN (B (sk n B p)) = 2 := fun z => n2 ⟨c, z⟩
    have m3 : ¬ tkN (B (sk n B p)) = 3 := fun z => n3 ⟨c, z⟩
    omega
  refine vg (br_t rfl (fin (up2 k 1 14 (nI 4)) 0 (by rw [u_ne (by decide)]; exact k15) (fun z => absurd t5 z) (by rw [u_at, t5]; rfl) (by rw [vl (v := 0) t5]; rfl) ?_))
  exact ⟨fun j j1 j2 j3 => by rw [u_ne j2]; exact fk.1 j j1 j2 j3, fun c hc => by rw [up2_ne hc]; exact fk.2 c hc⟩
end TKM
