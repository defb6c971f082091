/-! the text: items, as numbers -/
section ITM
variable {n : Nat} {B : Nat → Nat} {V : Vw}
def cardV (V : Vw) (a e : Nat) : Vw := up2 (up2 (up2 V 1 (V 0 0) a) 2 (V 0 0) e) 0 0 (V 0 0 + 1)
def tieV (V : Vw) (t k : Nat) : Vw := up2 V 3 t k
def lawV (V : Vw) (k l : Nat) : Vw := up2 (up2 (up2 (up2 V 5 (V 0 2) k) 6 (V 0 2) l) 7 (V 0 2) 1) 0 2 (V 0 2 + 1)
def rowV (V : Vw) (i : Nat) : Vw := up2 V 0 1 i
def pickV (V : Vw) (i c : Nat) : Vw := up2 V 4 i c
/-- the hooks at which this byte stands -/
def hoF (B : Nat → Nat) (s c n : Nat) : Nat := orF (fun k => if B (s + k) = c then 2 ^ k else 0) n
abbrev Rs : Type := Bool × Vw × Nat
def cardI (n : Nat) (B : Nat → Nat) (V : Vw) (p : Nat) : Rs := if V 0 0 < 10 then (if toR n B (eZ n B p) = 3 ∧ eZ n B (eZ n B p) - sk n B (eZ n B p) = 8 then (true, cardV V (hoF B (sk n B (eZ n B p)) 35 8) (hoF B (sk n B (eZ n B p)) 63 8), eZ n B (eZ n B p)) else (false, V, eZ n B p)) else (false, V, p)
def tieI (n : Nat) (B : Nat → Nat) (V : Vw) (p : Nat) : Rs := if tkP n B (eZ n B p) = 2 ∧ nmP n B (eZ n B p) < 16 then (if tkP n B (eZ n B (eZ n B p)) = 2 ∧ nmP n B (eZ n B (eZ n B p)) < 8 then (true, tieV V (nmP n B (eZ n B p)) (nmP n B (eZ n B (eZ n B p))), eZ n B (eZ n B (eZ n B p))) else (false, V, eZ n B (eZ n B p))) else (false, V, eZ n B p)
def lawI (n : Nat) (B : Nat → Nat) (V : Vw) (p k : Nat) : Rs := if V 0 2 < 6 then (if tkP n B (eZ n B p) = 2 ∧ 1 ≤ nmP n B (eZ n B p) ∧ nmP n B (eZ n B p) ≤ 16 then (true, lawV V k (nmP n B (eZ n B p)), eZ n B (eZ n B p)) else (false, V, eZ n B p)) else (false, V, p)
def ordF (n : Nat) (B : Nat → Nat) : Nat → Nat → Vw → Nat → Nat × Vw × Nat
  | 0, i, V, p => (i, V, p)
  | m + 1, i, V, p => if tkP n B p = 2 ∧ nmP n B p < V 0 0 then ordF n B m (i + 1) (pickV V i (nmP n B p)) (eZ n B p) else (i, V, p)
def ordE (n : Nat) (B : Nat → Nat) (r : Nat × Vw × Nat) : Rs := if 0 < r.1 ∧ toR n B r.2.2 ≠ 2 then (true, rowV r.2.1 r.1, r.2.2) else (false, r.2.1, r.2.2)
def ordI (n : Nat) (B : Nat → Nat) (V : Vw) (p : Nat) : Rs := ordE n B (ordF n B 20 0 V (eZ n B p))
def kwF (B : Nat → Nat) (s k : Nat) : Nat → Nat → Nat
  | 0, i => i
  | m + 1, i => if eqW B s k (3 + i) = true then i else kwF B s k m (i + 1)
/-- the kind that the word names; 6: none -/
abbrev kwN (n : Nat) (B : Nat → Nat) (p : Nat) : Nat := kwF B (sk n B p) (eZ n B p - sk n B p) 6 0
abbrev eqP (n : Nat) (B : Nat → Nat) (p q : Nat) : Bool := eqW B (sk n B p) (eZ n B p - sk n B p) q
def itm (n : Nat) (B : Nat → Nat) (V : Vw) (p : Nat) : Rs := if toR n B p = 1 then (if eqP n B p 0 = true then cardI n B V p else if eqP n B p 1 = true then tieI n B V p else if eqP n B p 2 = true then ordI n B V p else if kwN n B p < 6 then lawI n B V p (kwN n B p) else (false, V, p)) else (false, V, p)
def itsF (n : Nat) (B : Nat → Nat) : Nat → Nat → Vw → Nat → Rs
  | 0, _, V, p => (false, V, p)
  | m + 1, k, V, p => if (itm n B V p).1 = true then (if toR n B (itm n B V p).2.2 = 0 then (true, (itm n B V p).2.1, k) else if toR n B (itm n B V p).2.2 = 4 then itsF n B m (k + 1) (itm n B V p).2.1 (eZ n B (itm n B V p).2.2) else (false, (itm n B V p).2.1, (itm n B V p).2.2)) else (false, (itm n B V p).2.1, (itm n B V p).2.2)
-- ===== what is good stays good
theorem ho_lt (s c : Nat) : hoF B s c 8 < 256 := orF_lt (m := 8) (fun k hk => by
  split
  · exact Nat.pow_lt_pow_right (by decide) hk
  · decide)
theorem ho_tb {s c t : Nat} (h : (hoF B s c 8).testBit t = true) : B (s + t) = c := by
  obtain ⟨k, hk, z⟩ := orF_tb.mp h
  by_cases e : B (s + k) = c
  · rw [if_pos e, Nat.testBit_two_pow] at z
    have : k = t := of_decide_eq_true z
    rw [← this]
    exact e
  · rw [if_neg e, Nat.zero_testBit] at z
    exact absurd z (by decide)
theorem ho_dis (s : Nat) : hoF B s 35 8 &&& hoF B s 63 8 = 0 := by
  apply Nat.eq_of_testBit_eq
  intro t
  rw [Nat.testBit_and, Nat.zero_testBit]
  cases h1 : (hoF B s 35 8).testBit t with
  | false => rfl
  | true =>
    cases h2 : (hoF B s 63 8).testBit t with
    | false => rfl
    | true =>
      have a := ho_tb h1
      have b := ho_tb h2
      omega
theorem card_ok (v : okV V) (h : V 0 0 < 10) {a e : Nat} (ha : a < 256) (he : e < 256) (hd : a &&& e = 0) : okV (cardV V a e) := by
  refine ⟨⟨?_, v.1.2.1, v.1.2.2⟩, fun c hc => ?_, v.2.2.1, fun i hi => ?_, v.2.2.2.2⟩
  · show V 0 0 + 1 ≤ 10
    omega
  · have hc : c < V 0 0 + 1 := hc
    show up2 V 1 (V 0 0) a 1 c < 256 ∧ up2 (up2 V 1 (V 0 0) a) 2 (V 0 0) e 2 c < 256 ∧ up2 V 1 (V 0 0) a 1 c &&& up2 (up2 V 1 (V 0 0) a) 2 (V 0 0) e 2 c = 0
    by_cases z : c = V 0 0
    · subst z
      rw [u_at, u_at]
      exact ⟨ha, he, hd⟩
    · rw [u_ne z, u_ne z, up2_ne (show 2 ≠ 1 by decide)]
      exact v.2.1 c (by omega)
  · have := v.2.2.2.1 i hi
    show V 4 i < V 0 0 + 1
    omega
theorem tie_ok (v : okV V) {t k : Nat} (hk : k < 8) : okV (tieV V t k) := by
  refine ⟨v.1, v.2.1, fun i hi => ?_, v.2.2.2⟩
  show up2 V 3 t k 3 i < 8
  by_cases z : i = t
  · subst z; rw [u_at]; exact hk
  · rw [u_ne z]; exact v.2.2.1 i hi
theorem law_ok (v : okV V) (h : V 0 2 < 6) {k l : Nat} (hk : k < 6) (h1 : 1 ≤ l) (h2 : l ≤ 16) : okV (lawV V k l) := by
  refine ⟨⟨v.1.1, v.1.2.1, ?_⟩, v.2.1, v.2.2.1, v.2.2.2.1, fun i hi => ?_⟩
  · show V 0 2 + 1 ≤ 6
    omega
  · have hi : i < V 0 2 + 1 := hi
    show up2 V 5 (V 0 2) k 5 i < 6 ∧ 1 ≤ up2 (up2 V 5 (V 0 2) k) 6 (V 0 2) l 6 i ∧ up2 (up2 V 5 (V 0 2) k) 6 (V 0 2) l 6 i ≤ 16 ∧ up2 (up2 (up2 V 5 (V 0 2) k) 6 (V 0 2) l) 7 (V 0 2) 1 7 i ≤ 1
    by_cases z : i = V 0 2
    · subst z
      rw [u_at, u_at, u_at]
      exact ⟨hk, h1, h2, Nat.le_refl _⟩
    · rw [u_ne z, u_ne z, u_ne z, up2_ne (show 6 ≠ 5 by decide), up2_ne (show 7 ≠ 6 by decide), up2_ne (show 7 ≠ 5 by decide)]
      exact v.2.2.2.2 i (by omega)
/-- a loom whose first i picks are good, its rows aside -/
def okP (V : Vw) (i : Nat) : Prop := (V 0 0 ≤ 10 ∧ V 0 2 ≤ 6) ∧ (∀ c, c < V 0 0 → V 1 c < 256 ∧ V 2 c < 256 ∧ V 1 c &&& V 2 c = 0) ∧ (∀ t, t < 16 → V 3 t < 8) ∧ (∀ j, j < i → V 4 j < V 0 0) ∧ (∀ l, l < V 0 2 → V 5 l < 6 ∧ 1 ≤ V 6 l ∧ V 6 l ≤ 16 ∧ V 7 l ≤ 1)
theorem okP_0 (v : okV V) : okP V 0 := ⟨⟨v.1.1, v.1.2.2⟩, v.2.1, v.2.2.1, fun j hj => absurd hj (by omega), v.2.2.2.2⟩
theorem okP_s {i c : Nat} (v : okP V i) (hc : c < V 0 0) : okP (pickV V i c) (i + 1) := by
  refine ⟨v.1, v.2.1, v.2.2.1, fun j hj => ?_, v.2.2.2.2⟩
  show up2 V 4 i c 4 j < V 0 0
  by_cases z : j = i
  · subst z; rw [u_at]; exact hc
  · rw [u_ne z]; exact v.2.2.2.1 j (by omega)
theorem okP_ok {i : Nat} (v : okP V i) (hi : i ≤ 20) : okV (rowV V i) := ⟨⟨v.1.1, hi, v.1.2⟩, v.2.1, v.2.2.1, v.2.2.2.1, v.2.2.2.2⟩
theorem ord_ok : ∀ (m i : Nat) (V : Vw) (p : Nat), okP V i → p ≤ n → okP (ordF n B m i V p).2.1 (ordF n B m i V p).1 ∧ (ordF n B m i V p).1 ≤ i + m ∧ p ≤ (ordF n B m i V p).2.2 ∧ (ordF n B m i V p).2.2 ≤ n
  | 0, i, V, p, v, hp => ⟨v, Nat.le_refl _, Nat.le_refl _, hp⟩
  | m + 1, i, V, p, v, hp => by
    have z := eZ_b (n := n) (B := B) hp
    by_cases c : tkP n B p = 2 ∧ nmP n B p < V 0 0
    · have e : ordF n B (m + 1) i V p = ordF n B m (i + 1) (pickV V i (nmP n B p)) (eZ n B p) := by
        show (if tkP n B p = 2 ∧ nmP n B p < V 0 0 then ordF n B m (i + 1) (pickV V i (nmP n B p)) (eZ n B p) else (i, V, p)) = _
        rw [if_pos c]
      rw [e]
      have ih := ord_ok m (i + 1) (pickV V i (nmP n B p)) (eZ n B p) (okP_s v c.2) (by omega)
      exact ⟨ih.1, by omega, by omega, ih.2.2.2⟩
    · have e : ordF n B (m + 1) i V p = (i, V, p) := by
        show (if tkP n B p = 2 ∧ nmP n B p < V 0 0 then ordF n B m (i + 1) (pickV V i (nmP n B p)) (eZ n B p) else (i, V, p)) = _
        rw [if_neg c]
      rw [e]
      exact ⟨v, by show i ≤ _; omega, Nat.le_refl _, hp⟩
/-- an item that is taken leaves a good loom, and comes further -/
def gdR (n : Nat) (p : Nat) (r : Rs) : Prop := r.2.2 ≤ n ∧ p ≤ r.2.2 ∧ (r.1 = true → okV r.2.1 ∧ p < r.2.2)
theorem itm_ok (v : okV V) {p : Nat} (hp : p ≤ n) : gdR n p (itm n B V p) := by
  have z := eZ_b (n := n) (B := B) hp
  have z1 := eZ_b (n := n) (B := B) z.2.2.1
  have z2 := eZ_b (n := n) (B := B) z1.2.2.1
  have bad : ∀ W q, q ≤ n → p ≤ q → gdR n p (false, W, q) := fun W q a b => ⟨a, b, fun y => Bool.noConfusion y⟩
  unfold itm
  by_cases c : toR n B p = 1
  case neg =>
    rw [if_neg c]
    exact bad _ _ hp (Nat.le_refl _)
  rw [if_pos c]
  have lt := z.2.2.2 (by omega)
  by_cases c0 : eqP n B p 0 = true
  · rw [if_pos c0]
    unfold cardI
    by_cases d : V 0 0 < 10
    · rw [if_pos d]
      by_cases d2 : toR n B (eZ n B p) = 3 ∧ eZ n B (eZ n B p) - sk n B (eZ n B p) = 8
      · rw [if_pos d2]
        exact ⟨z1.2.2.1, by show p ≤ eZ n B (eZ n B p); omega, fun _ => ⟨card_ok v d (ho_lt _ _) (ho_lt _ _) (ho_dis _), by show p < eZ n B (eZ n B p); omega⟩⟩
      · rw [if_neg d2]
        exact bad _ _ (by omega) (by omega)
    · rw [if_neg d]
      exact bad _ _ hp (Nat.le_refl _)
  rw [if_neg c0]
  by_cases c1 : eqP n B p 1 = true
  · rw [if_pos c1]
    unfold tieI
    by_cases d : tkP n B (eZ n B p) = 2 ∧ nmP n B (eZ n B p) < 16
    · rw [if_pos d]
      by_cases d2 : tkP n B (eZ n B (eZ n B p)) = 2 ∧ nmP n B (eZ n B (eZ n B p)) < 8
      · rw [if_pos d2]
        exact ⟨z2.2.2.1, by show p ≤ eZ n B (eZ n B (eZ n B p)); omega, fun _ => ⟨tie_ok v d2.2, by show p < eZ n B (eZ n B (eZ n B p)); omega⟩⟩
      · rw [if_neg d2]
        exact bad _ _ (by omega) (by omega)
    · rw [if_neg d]
      exact bad _ _ (by omega) (by omega)
  rw [if_neg c1]
  by_cases c2 : eqP n B p 2 = true
  · rw [if_pos c2]
    unfold ordI ordE
    have o := ord_ok (n := n) (B := B) 20 0 V (eZ n B p) (okP_0 v) z.2.2.1
    generalize ordF n B 20 0 V (eZ n B p) = r at o
    by_cases d : 0 < r.1 ∧ toR n B r.2.2 ≠ 2
    · rw [if_pos d]
      exact ⟨o.2.2.2, by show p ≤ r.2.2; omega, fun _ => ⟨okP_ok o.1 (by omega), by show p < r.2.2; omega⟩⟩
    · rw [if_neg d]
      exact bad _ _ o.2.2.2 (by omega)
  rw [if_neg c2]
  by_cases c3 : kwN n B p < 6
  · rw [if_pos c3]
    unfold lawI
    by_cases d : V 0 2 < 6
    · rw [if_pos d]
      by_cases d2 : tkP n B (eZ n B p) = 2 ∧ 1 ≤ nmP n B (eZ n B p) ∧ nmP n B (eZ n B p) ≤ 16
      · rw [if_pos d2]
        exact ⟨z1.2.2.1, by show p ≤ eZ n B (eZ n B p); omega, fun _ => ⟨law_ok v d c3 d2.2.1 d2.2.2, by show p < eZ n B (eZ n B p); omega⟩⟩
      · rw [if_neg d2]
        exact bad _ _ (by omega) (by omega)
    · rw [if_neg d]
      exact bad _ _ hp (Nat.le_refl _)
  · rw [if_neg c3]
    exact bad _ _ hp (Nat.le_refl _)
end ITM
