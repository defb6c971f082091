/-! the text: bytes and tokens, as numbers -/
section TOK
variable {n : Nat} {B : Nat → Nat}
/-- what a byte begins: 1 a word, 2 a number, 3 punches, 4 a sign, 5 nothing -/
def tkN (b : Nat) : Nat := if 97 ≤ b ∧ b ≤ 122 then 1 else if 48 ≤ b ∧ b ≤ 57 then 2 else if b = 35 ∨ b = 46 ∨ b = 63 then 3 else if b = 59 then 4 else 5
theorem tk_1 {b : Nat} : tkN b = 1 ↔ 97 ≤ b ∧ b ≤ 122 := by unfold tkN; (repeat' split) <;> omega
theorem tk_2 {b : Nat} : tkN b = 2 ↔ 48 ≤ b ∧ b ≤ 57 := by unfold tkN; (repeat' split) <;> omega
theorem tk_3 {b : Nat} : tkN b = 3 ↔ b = 35 ∨ b = 46 ∨ b = 63 := by unfold tkN; (repeat' split) <;> omega
theorem tk_4 {b : Nat} : tkN b = 4 ↔ b = 59 := by unfold tkN; (repeat' split) <;> omega
theorem tk_b (b : Nat) : 1 ≤ tkN b ∧ tkN b ≤ 5 := by unfold tkN; (repeat' split) <;> omega
def skF (n : Nat) (B : Nat → Nat) : Nat → Nat → Nat
  | 0, p => p
  | m + 1, p => if p < n ∧ B p = 32 then skF n B m (p + 1) else p
/-- past the spaces -/
def sk (n : Nat) (B : Nat → Nat) (p : Nat) : Nat := skF n B (n - p) p
theorem sk_1 {p : Nat} (h : p < n) (e : B p = 32) : sk n B p = sk n B (p + 1) := by
  unfold sk
  rw [show n - p = (n - (p + 1)) + 1 by omega]
  show (if p < n ∧ B p = 32 then skF n B (n - (p + 1)) (p + 1) else p) = _
  rw [if_pos ⟨h, e⟩]
theorem sk_0 {p : Nat} (h : ¬ (p < n ∧ B p = 32)) : sk n B p = p := by
  unfold sk
  cases hm : n - p with
  | zero => rfl
  | succ m =>
    show (if p < n ∧ B p = 32 then skF n B m (p + 1) else p) = _
    rw [if_neg h]
theorem sk_b : ∀ m p, n - p = m → p ≤ n → p ≤ sk n B p ∧ sk n B p ≤ n
  | 0, p, hm, hp => by rw [sk_0 (fun z => by omega)]; omega
  | m + 1, p, hm, hp => by
    by_cases c : p < n ∧ B p = 32
    · rw [sk_1 c.1 c.2]
      have := sk_b m (p + 1) (by omega) (by omega)
      omega
    · rw [sk_0 c]; omega
def enF (n : Nat) (B : Nat → Nat) (k : Nat) : Nat → Nat → Nat
  | 0, e => e
  | m + 1, e => if e < n ∧ tkN (B e) = k then enF n B k m (e + 1) else e
/-- to the end of the like bytes -/
def en (n : Nat) (B : Nat → Nat) (k e : Nat) : Nat := enF n B k (n - e) e
theorem en_1 {k e : Nat} (h : e < n) (c : tkN (B e) = k) : en n B k e = en n B k (e + 1) := by
  unfold en
  rw [show n - e = (n - (e + 1)) + 1 by omega]
  show (if e < n ∧ tkN (B e) = k then enF n B k (n - (e + 1)) (e + 1) else e) = _
  rw [if_pos ⟨h, c⟩]
theorem en_0 {k e : Nat} (h : ¬ (e < n ∧ tkN (B e) = k)) : en n B k e = e := by
  unfold en
  cases hm : n - e with
  | zero => rfl
  | succ m =>
    show (if e < n ∧ tkN (B e) = k then enF n B k m (e + 1) else e) = _
    rw [if_neg h]
theorem en_b {k : Nat} : ∀ m e, n - e = m → e ≤ n → e ≤ en n B k e ∧ en n B k e ≤ n ∧ ∀ i, e ≤ i → i < en n B k e → tkN (B i) = k
  | 0, e, hm, he => by rw [en_0 (fun z => by omega)]; exact ⟨Nat.le_refl _, he, fun i i1 i2 => absurd i2 (by omega)⟩
  | m + 1, e, hm, he => by
    by_cases c : e < n ∧ tkN (B e) = k
    · rw [en_1 c.1 c.2]
      obtain ⟨a1, a2, a3⟩ := en_b (k := k) m (e + 1) (by omega) (by omega)
      refine ⟨by omega, a2, fun i i1 i2 => ?_⟩
      by_cases z : i = e
      · subst z; exact c.2
      · exact a3 i (by omega) i2
    · rw [en_0 c]; exact ⟨Nat.le_refl _, he, fun i i1 i2 => absurd i2 (by omega)⟩
/-- the token behind p, as its first byte has it -/
def toR (n : Nat) (B : Nat → Nat) (p : Nat) : Nat := if sk n B p < n then tkN (B (sk n B p)) else 0
def eZ (n : Nat) (B : Nat → Nat) (p : Nat) : Nat := if toR n B p = 4 ∨ toR n B p = 5 then sk n B p + 1 else en n B (toR n B p) (sk n B p)
theorem to_lt {p : Nat} (h : sk n B p < n) : toR n B p = tkN (B (sk n B p)) := by unfold toR; rw [if_pos h]
theorem to_0 {p : Nat} (h : ¬ sk n B p < n) : toR n B p = 0 := by unfold toR; rw [if_neg h]
theorem to_ne {p : Nat} (h : toR n B p ≠ 0) : sk n B p < n := by
  rcases Nat.lt_or_ge (sk n B p) n with z | z
  · exact z
  · exact absurd (to_0 (Nat.not_lt.mpr z)) h
theorem to_b (n : Nat) (B : Nat → Nat) (p : Nat) : toR n B p ≤ 5 := by
  unfold toR
  have := tk_b (B (sk n B p))
  split <;> omega
theorem eZ_1 {p : Nat} (h : toR n B p = 4 ∨ toR n B p = 5) : eZ n B p = sk n B p + 1 := by unfold eZ; rw [if_pos h]
theorem eZ_0 {p : Nat} (h : ¬ (toR n B p = 4 ∨ toR n B p = 5)) : eZ n B p = en n B (toR n B p) (sk n B p) := by unfold eZ; rw [if_neg h]
theorem eZ_b {p : Nat} (hp : p ≤ n) : p ≤ sk n B p ∧ sk n B p ≤ eZ n B p ∧ eZ n B p ≤ n ∧ (toR n B p ≠ 0 → sk n B p < eZ n B p) := by
  obtain ⟨s1, s2⟩ := sk_b (n := n) (B := B) _ p rfl hp
  by_cases h : toR n B p = 4 ∨ toR n B p = 5
  · have := to_ne (n := n) (B := B) (p := p) (by omega)
    rw [eZ_1 h]
    exact ⟨s1, by omega, by omega, fun _ => by omega⟩
  · rw [eZ_0 h]
    obtain ⟨a1, a2, a3⟩ := en_b (n := n) (B := B) (k := toR n B p) _ (sk n B p) rfl s2
    refine ⟨s1, a1, a2, fun z => ?_⟩
    have lt := to_ne z
    have e := to_lt lt
    rw [en_1 lt e.symm]
    have := (en_b (n := n) (B := B) (k := toR n B p) _ (sk n B p + 1) rfl (by omega)).1
    omega
/-- all its bytes are of its kind -/
theorem eZ_k {p : Nat} (hp : p ≤ n) (h : ¬ (toR n B p = 4 ∨ toR n B p = 5)) : ∀ i, sk n B p ≤ i → i < eZ n B p → tkN (B i) = toR n B p := by
  rw [eZ_0 h]
  exact (en_b (n := n) (B := B) (k := toR n B p) _ (sk n B p) rfl (sk_b _ p rfl hp).2).2.2
-- ===== numbers
def nmC (B : Nat → Nat) (s : Nat) : Nat → Nat
  | 0 => 0
  | k + 1 => if 1000 < 10 * nmC B s k + (B (s + k) - 48) then 1000 else 10 * nmC B s k + (B (s + k) - 48)
def nmM (B : Nat → Nat) (s : Nat) : Nat → Nat
  | 0 => 0
  | k + 1 => if 999 < nmM B s k then nmM B s k else nmM B s k * 10 + (B (s + k) - 48)
theorem nmC_s (s k : Nat) : nmC B s (k + 1) = if 1000 < 10 * nmC B s k + (B (s + k) - 48) then 1000 else 10 * nmC B s k + (B (s + k) - 48) := rfl
theorem nmM_s (s k : Nat) : nmM B s (k + 1) = if 999 < nmM B s k then nmM B s k else nmM B s k * 10 + (B (s + k) - 48) := rfl
theorem nmC_b (s : Nat) : ∀ k, nmC B s k ≤ 1000
  | 0 => by show 0 ≤ 1000; omega
  | k + 1 => by rw [nmC_s]; split <;> omega
theorem nm_rel (s : Nat) : ∀ k, (∀ i, i < k → tkN (B (s + i)) = 2) → (nmM B s k ≤ 999 ∧ nmC B s k = nmM B s k) ∨ (999 < nmM B s k ∧ nmC B s k = 1000 ∧ nmM B s k ≤ 9999)
  | 0, _ => Or.inl ⟨by show 0 ≤ 999; omega, rfl⟩
  | k + 1, h => by
    have ih := nm_rel s k (fun i hi => h i (by omega))
    have d := tk_2.mp (h k (by omega))
    rw [nmC_s, nmM_s]
    rcases ih with ⟨a, b⟩ | ⟨a, b, c⟩
    · rw [b, if_neg (show ¬ 999 < nmM B s k by omega)]
      generalize nmM B s k = m at a
      by_cases z : 1000 < 10 * m + (B (s + k) - 48)
      · rw [if_pos z]; exact Or.inr ⟨by omega, rfl, by omega⟩
      · rw [if_neg z]
        by_cases y : m * 10 + (B (s + k) - 48) ≤ 999
        · exact Or.inl ⟨y, by omega⟩
        · exact Or.inr ⟨by omega, by omega, by omega⟩
    · rw [b, if_pos a, if_pos (show 1000 < 10 * 1000 + (B (s + k) - 48) by omega)]
      exact Or.inr ⟨a, rfl, c⟩
/-- the token's number -/
abbrev nmP (n : Nat) (B : Nat → Nat) (p : Nat) : Nat := nmC B (sk n B p) (eZ n B p - sk n B p)
abbrev nmQ (n : Nat) (B : Nat → Nat) (p : Nat) : Nat := nmM B (sk n B p) (eZ n B p - sk n B p)
/-- the token behind p; a number that is too large is none -/
def tkP (n : Nat) (B : Nat → Nat) (p : Nat) : Nat := if toR n B p = 2 ∧ 999 < nmP n B p then 5 else toR n B p
theorem tp_2 {p : Nat} : tkP n B p = 2 ↔ toR n B p = 2 ∧ nmP n B p ≤ 999 := by
  unfold tkP
  by_cases c : toR n B p = 2 ∧ 999 < nmP n B p
  · rw [if_pos c]
    exact ⟨fun z => absurd z (by decide), fun z => absurd z.2 (by omega)⟩
  · rw [if_neg c]
    exact ⟨fun z => ⟨z, by omega⟩, fun z => z.1⟩
theorem tp_o {p k : Nat} (h2 : k ≠ 2) (h5 : k ≠ 5) : tkP n B p = k ↔ toR n B p = k := by
  unfold tkP
  by_cases c : toR n B p = 2 ∧ 999 < nmP n B p
  · rw [if_pos c]
    exact ⟨fun z => absurd z.symm h5, fun z => absurd (z.symm.trans c.1) h2⟩
  · rw [if_neg c]
theorem tp_b (n : Nat) (B : Nat → Nat) (p : Nat) : tkP n B p ≤ 5 := by
  unfold tkP
  have := to_b n B p
  split <;> omega
/-- a number's value, both ways -/
theorem nm_pq {p : Nat} (hp : p ≤ n) (h : toR n B p = 2) : (nmQ n B p ≤ 999 ∧ nmP n B p = nmQ n B p) ∨ (999 < nmQ n B p ∧ nmP n B p = 1000 ∧ nmQ n B p ≤ 9999) := by
  have b := eZ_b (n := n) (B := B) hp
  exact nm_rel _ _ (fun i hi => by rw [← h]; exact eZ_k hp (by omega) _ (by omega) (by omega))
-- ===== words
def wuF (B : Nat → Nat) (s : Nat) : Nat → Nat
  | 0 => 0
  | k + 1 => if 100000000000 < wuF B s k then wuF B s k else wuF B s k * 27 + (B (s + k) - 96)
theorem wv_s (s k : Nat) : wuF B s (k + 1) = if 100000000000 < wuF B s k then wuF B s k else wuF B s k * 27 + (B (s + k) - 96) := rfl
theorem wv_b (s : Nat) : ∀ k, (∀ i, i < k → tkN (B (s + i)) = 1) → wuF B s k ≤ 2700000000026
  | 0, _ => by show 0 ≤ 2700000000026; omega
  | k + 1, h => by
    have ih := wv_b s k (fun i hi => h i (by omega))
    have d := tk_1.mp (h k (by omega))
    rw [wv_s]
    split <;> omega
/-- the value of a word that is told backwards -/
def wvR : List Nat → Nat
  | [] => 0
  | d :: r => wvR r * 27 + (d - 96)
theorem wv_eq {s : Nat} : ∀ (r : List Nat) (k : Nat), (∀ d ∈ r, 97 ≤ d ∧ d ≤ 122) → wvR r ≤ 100000000000 → (∀ i, i < k → tkN (B (s + i)) = 1) → (wuF B s k = wvR r ↔ k = r.length ∧ ∀ i, i < k → B (s + i) = r.getD (r.length - 1 - i) 0)
  | [], 0, _, _, _ => ⟨fun _ => ⟨rfl, fun i hi => absurd hi (by omega)⟩, fun _ => rfl⟩
  | [], k + 1, _, _, h => by
    have d := tk_1.mp (h k (by omega))
    refine ⟨fun z => ?_, fun z => absurd z.1 (by simp)⟩
    rw [wv_s] at z
    have z : (if 100000000000 < wuF B s k then wuF B s k else wuF B s k * 27 + (B (s + k) - 96)) = 0 := z
    split at z <;> omega
  | d :: r, 0, hr, _, _ => by
    have hd := hr d List.mem_cons_self
    refine ⟨fun z => ?_, fun z => absurd z.1 (by simp)⟩
    have z : 0 = wvR r * 27 + (d - 96) := z
    omega
  | d :: r, k + 1, hr, hc, h => by
    have hd := hr d List.mem_cons_self
    have e := tk_1.mp (h k (by omega))
    have hc' : wvR r * 27 + (d - 96) ≤ 100000000000 := hc
    have ih := wv_eq (s := s) r k (fun x hx => hr x (List.mem_cons_of_mem _ hx)) (by omega) (fun i hi => h i (by omega))
    rw [wv_s]
    show (if 100000000000 < wuF B s k then wuF B s k else wuF B s k * 27 + (B (s + k) - 96)) = wvR r * 27 + (d - 96) ↔ _
    constructor
    · intro z
      split at z
      · omega
      · obtain ⟨i1, i2⟩ := ih.mp (by omega)
        have eb : B (s + k) = d := by omega
        refine ⟨by rw [List.length_cons]; omega, fun i hi => ?_⟩
        rw [List.length_cons]
        by_cases ik : i = k
        · subst ik
          rw [show r.length + 1 - 1 - i = 0 by omega]
          exact eb
        · rw [show r.length + 1 - 1 - i = (r.length - 1 - i) + 1 by omega]
          exact i2 i (by omega)
    · intro ⟨z1, z2⟩
      rw [List.length_cons] at z1
      have eb := z2 k (by omega)
      rw [List.length_cons, show r.length + 1 - 1 - k = 0 by omega] at eb
      have eb : B (s + k) = d := eb
      have iv := ih.mpr ⟨by omega, fun i hi => by
        have := z2 i (by omega)
        rw [List.length_cons, show r.length + 1 - 1 - i = (r.length - 1 - i) + 1 by omega] at this
        exact this⟩
      rw [if_neg (by omega), iv, eb]
/-- the nine words, forwards -/
def wdL : List (List Nat) := [[99, 97, 114, 100], [116, 105, 101], [111, 114, 100, 101, 114], [108, 97, 119], [101, 118, 101, 110], [108, 111, 110, 103], [115, 116, 101, 112], [116, 105, 103, 104, 116], [116, 117, 114, 110]]
def wdV : List Nat := [60268, 14828, 8328978, 8798, 114602, 247516, 388708, 10811306, 409469]
def wd (q : Nat) : List Nat := wdL.getD q []
/-- the bytes from s on, k of them, are this word -/
def eqW (B : Nat → Nat) (s k q : Nat) : Bool := Nat.beq k (wd q).length && (List.range k).all (fun i => Nat.beq (B (s + i)) ((wd q).getD i 0))
theorem eqW_iff {s k q : Nat} : eqW B s k q = true ↔ k = (wd q).length ∧ ∀ i, i < k → B (s + i) = (wd q).getD i 0 := by
  unfold eqW
  rw [Bool.and_eq_true, List.all_eq_true]
  constructor
  · intro ⟨a, b⟩
    exact ⟨Nat.eq_of_beq_eq_true a, fun i hi => Nat.eq_of_beq_eq_true (b i (List.mem_range.mpr hi))⟩
  · intro ⟨a, b⟩
    refine ⟨by rw [← a]; exact Nat.beq_refl k, fun i hi => ?_⟩
    rw [b i (List.mem_range.mp hi)]
    exact Nat.beq_refl _
theorem wd_ok : ∀ q, q < 9 → (∀ d ∈ (wd q).reverse, 97 ≤ d ∧ d ≤ 122) ∧ wvR (wd q).reverse = wdV.getD q 0 ∧ wdV.getD q 0 ≤ 100000000000 := by decide +kernel
theorem wv_wd {s k q : Nat} (hq : q < 9) (h : ∀ i, i < k → tkN (B (s + i)) = 1) : wuF B s k = wdV.getD q 0 ↔ eqW B s k q = true := by
  obtain ⟨a, b, c⟩ := wd_ok q hq
  rw [← b, eqW_iff, wv_eq (wd q).reverse k a (by rw [b]; exact c) h, List.length_reverse]
  have key : ∀ i, k = (wd q).length → i < k → (wd q).reverse.getD ((wd q).length - 1 - i) 0 = (wd q).getD i 0 := by
    intro i e hi
    rw [List.getD_eq_getElem?_getD, List.getD_eq_getElem?_getD, List.getElem?_reverse (by omega)]
    congr 2
    omega
  constructor
  · intro ⟨z1, z2⟩
    exact ⟨z1, fun i hi => (z2 i hi).trans (key i z1 hi)⟩
  · intro ⟨z1, z2⟩
    exact ⟨z1, fun i hi => (z2 i hi).trans (key i z1 hi).symm⟩
end TOK
