theorem pI_inv {S : List Value} {f : Int32 → List Value → Prop} (h : pI S f) : ∃ x r, S = .int x :: r ∧ f x r := by
  unfold pI at h
  split at h
  · exact ⟨_, _, rfl, h⟩
  · exact h.elim
theorem pL_inv {S : List Value} {f : Int64 → List Value → Prop} (h : pL S f) : ∃ x r, S = .long x :: r ∧ f x r := by
  unfold pL at h
  split at h
  · exact ⟨_, _, rfl, h⟩
  · exact h.elim
theorem pR_inv {S : List Value} {f : Nat → List Value → Prop} (h : pR S f) : ∃ x r, S = .ref x :: r ∧ f x r := by
  unfold pR at h
  split at h
  · exact ⟨_, _, rfl, h⟩
  · exact h.elim
theorem ldI_inv {L : List Value} {k : Nat} {f : Int32 → Prop} (h : ldI L k f) : ∃ x, L[k]? = some (.int x) ∧ f x := by
  unfold ldI at h
  split at h
  · exact ⟨_, by assumption, h⟩
  · exact h.elim
theorem ldL_inv {L : List Value} {k : Nat} {f : Int64 → Prop} (h : ldL L k f) : ∃ x, L[k]? = some (.long x) ∧ f x := by
  unfold ldL at h
  split at h
  · exact ⟨_, by assumption, h⟩
  · exact h.elim
theorem ldR_inv {L : List Value} {k : Nat} {f : Nat → Prop} (h : ldR L k f) : ∃ x, L[k]? = some (.ref x) ∧ f x := by
  unfold ldR at h
  split at h
  · exact ⟨_, by assumption, h⟩
  · exact h.elim
theorem cond_inv {b : Bool} {a : Prop} (h : cond b a False) : b = true ∧ a := by
  cases b
  · exact h.elim
  · exact ⟨rfl, h⟩
theorem blt_lt {a b : Nat} (h : Nat.blt a b = true) : a < b := by simpa [Nat.blt_eq] using h
theorem ble_le {a b : Nat} (h : Nat.ble a b = true) : a ≤ b := Nat.le_of_ble_eq_true h
theorem beq_eq {a b : Nat} (h : Nat.beq a b = true) : a = b := Nat.eq_of_beq_eq_true h
theorem beq_f {a b : Nat} (h : ¬ a = b) : Nat.beq a b = false := by
  cases hb : Nat.beq a b
  · rfl
  · exact absurd (beq_eq hb) h
theorem jmp_inv {pc : Nat} {off : Int} {f : Nat → Prop} (h : jmp pc off f) : ∃ t : Nat, (pc : Int) + off = (t : Int) ∧ f t := by
  unfold jmp at h
  split at h
  · exact ⟨_, by assumption, h⟩
  · exact h.elim
theorem fld_inv {mid i : Nat} {f : Nat → Nat → Prop} (h : fld mid i f) : ∃ c ci kk, cno mid = some c ∧ lk c i = some (.inl (ci, kk)) ∧ f ci kk := by
  unfold fld at h
  split at h
  · split at h
    · exact ⟨_, _, _, by assumption, by assumption, h⟩
    · exact h.elim
  · exact h.elim
theorem kst_inv {mid i : Nat} {f : Value → Prop} (h : kst mid i f) : ∃ c v, cno mid = some c ∧ lk c i = some (.inr (.inl v)) ∧ f v := by
  unfold kst at h
  split at h
  · split at h
    · exact ⟨_, _, by assumption, by assumption, h⟩
    · exact h.elim
  · exact h.elim
theorem sta_inv {mid i : Nat} {f : Value → Prop} (h : sta mid i f) : ∃ c v, cno mid = some c ∧ lk c i = some (.inr (.inr (.inl v))) ∧ f v := by
  unfold sta at h
  split at h
  · split at h
    · exact ⟨_, _, by assumption, by assumption, h⟩
    · exact h.elim
  · exact h.elim
theorem mth_inv {mid i : Nat} {f : Nat → Bool → Nat → Nat → Prop} (h : mth mid i f) : ∃ c cm stt n mx, cno mid = some c ∧ lk c i = some (.inr (.inr (.inr (cm, stt, n, mx)))) ∧ f cm stt n mx := by
  unfold mth at h
  split at h
  · split at h
    · exact ⟨_, _, _, _, _, by assumption, by assumption, h⟩
    · exact h.elim
  · exact h.elim
theorem arr_inv {a kd : Nat} {f : Nat → Prop} (h : arr a kd f) : ∃ n rs, sh a = some (.inr (kd, n, rs)) ∧ f n := by
  unfold arr at h
  split at h
  · obtain ⟨h1, h2⟩ := cond_inv h
    have := beq_eq h1
    subst this
    exact ⟨_, _, by assumption, h2⟩
  · exact h.elim
theorem strO_inv {a i : Nat} (h : strO a = some i) : i < 10 ∧ a = 2000 + i := by
  unfold strO at h
  obtain ⟨h1, h2⟩ := cond_some h
  rw [Bool.and_eq_true] at h1
  have h3 := ble_le h1.1
  have h4 := blt_lt h1.2
  have h5 := Option.some.inj h2
  omega
theorem strV_inv {a i : Nat} (h : strV a = some i) : i < 10 ∧ a = 2100 + i := by
  unfold strV at h
  obtain ⟨h1, h2⟩ := cond_some h
  rw [Bool.and_eq_true] at h1
  have h3 := ble_le h1.1
  have h4 := blt_lt h1.2
  have h5 := Option.some.inj h2
  omega
theorem strL_inv {mid j i : Nat} (h : strL mid j = some i) : cno mid = some 4 ∧ i < 10 ∧ strK.getD i 0 = j := by
  unfold strL at h
  split at h
  · refine ⟨by assumption, ?_⟩
    unfold strI at h
    by_cases h0 : j = 38
    · subst h0; cases h; exact ⟨by decide, rfl⟩
    by_cases h1 : j = 47
    · subst h1; cases h; exact ⟨by decide, rfl⟩
    by_cases h2 : j = 52
    · subst h2; cases h; exact ⟨by decide, rfl⟩
    by_cases h3 : j = 103
    · subst h3; cases h; exact ⟨by decide, rfl⟩
    by_cases h4 : j = 105
    · subst h4; cases h; exact ⟨by decide, rfl⟩
    by_cases h5 : j = 107
    · subst h5; cases h; exact ⟨by decide, rfl⟩
    by_cases h6 : j = 109
    · subst h6; cases h; exact ⟨by decide, rfl⟩
    by_cases h7 : j = 111
    · subst h7; cases h; exact ⟨by decide, rfl⟩
    by_cases h8 : j = 113
    · subst h8; cases h; exact ⟨by decide, rfl⟩
    by_cases h9 : j = 115
    · subst h9; cases h; exact ⟨by decide, rfl⟩
    simp only [beq_f h0, beq_f h1, beq_f h2, beq_f h3, beq_f h4, beq_f h5, beq_f h6, beq_f h7, beq_f h8, beq_f h9, cond_false] at h
    cases h
  · cases h
theorem strF_inv {mid j i : Nat} {f : Value → Prop} (h : strF mid j i f) : cno mid = some 10 ∧ ((j = 9 ∧ f (.ref (2100 + i))) ∨ (j = 15 ∧ f (.int 0))) := by
  unfold strF at h
  split at h
  · obtain ⟨h1, h2⟩ := cond_inv h
    have h1 := beq_eq h1
    subst h1
    refine ⟨by assumption, ?_⟩
    cases hb : Nat.beq j 9 with
    | true => rw [hb] at h2; exact Or.inl ⟨beq_eq hb, h2⟩
    | false =>
      rw [hb] at h2
      obtain ⟨h3, h4⟩ := cond_inv h2
      exact Or.inr ⟨beq_eq h3, h4⟩
  · exact h.elim
theorem strS_inv {mid j : Nat} {v : Value} (h : strS mid j = some v) : cno mid = some 10 ∧ ((j = 38 ∧ v = .int 1) ∨ (j = 1053 ∧ v = .null)) := by
  unfold strS at h
  split at h
  · obtain ⟨h1, h2⟩ := cond_some h
    have h1 := beq_eq h1
    subst h1
    refine ⟨by assumption, ?_⟩
    cases hb : Nat.beq j 38 with
    | true => rw [hb] at h2; cases h2; exact Or.inl ⟨beq_eq hb, rfl⟩
    | false =>
      rw [hb] at h2
      obtain ⟨h3, h4⟩ := cond_some h2
      cases h4
      exact Or.inr ⟨beq_eq h3, rfl⟩
  · cases h
theorem alen_inv {X : Xs} {a : Nat} {f : Nat → Prop} (h : alen X a f) : (∃ k n rs, sh a = some (.inr (k, n, rs)) ∧ f n) ∨ (a = 1000 ∧ f X.1) ∨ (a = 1002 ∧ f 6) ∨ (∃ i, i < 10 ∧ a = 2100 + i ∧ f (strN.getD i 0)) := by
  unfold alen at h
  split at h
  · exact Or.inl ⟨_, _, _, by assumption, h⟩
  · exact h.elim
  · cases hb : Nat.beq a 1000 with
    | true => rw [hb] at h; exact Or.inr (Or.inl ⟨beq_eq hb, h⟩)
    | false =>
      rw [hb] at h
      cases hb2 : Nat.beq a 1002 with
      | true => rw [hb2] at h; exact Or.inr (Or.inr (Or.inl ⟨beq_eq hb2, h⟩))
      | false =>
        rw [hb2] at h
        simp only [cond_false] at h
        split at h
        · obtain ⟨h1, h2⟩ := strV_inv (by assumption)
          exact Or.inr (Or.inr (Or.inr ⟨_, h1, h2, h⟩))
        · exact h.elim
theorem iald_inv {X : Xs} {hp : Hp} {a : Nat} {i : Int32} {f : Int32 → Prop} (h : iald X hp a i f) : (∃ n rs, sh a = some (.inr (0, n, rs)) ∧ ∃ q : Nat, i = nI q ∧ q < n ∧ f (hp.1 a q)) ∨ (a = 1000 ∧ ∃ q : Nat, i = nI q ∧ q < X.1 ∧ f (X.2 q)) ∨ (a = 1002 ∧ ∃ q : Nat, i = nI q ∧ q < 6 ∧ f (ovf q)) := by
  unfold iald at h
  split at h
  · exact Or.inl ⟨_, _, by assumption, h⟩
  · exact h.elim
  · cases hb : Nat.beq a 1000 with
    | true => rw [hb] at h; exact Or.inr (Or.inl ⟨beq_eq hb, h⟩)
    | false =>
      rw [hb] at h
      obtain ⟨h1, h2⟩ := cond_inv h
      exact Or.inr (Or.inr ⟨beq_eq h1, h2⟩)
theorem aald_inv {a : Nat} {i : Int32} {f : Nat → Prop} (h : aald a i f) : ∃ n rs q j, sh a = some (.inr (3, n, rs)) ∧ i = nI j ∧ j < n ∧ rs[j]? = some q ∧ f q := by
  unfold aald at h
  split at h
  · obtain ⟨j, h0, h1, h2⟩ := h
    split at h2
    · exact ⟨_, _, _, j, by assumption, h0, h1, by assumption, h2⟩
    · exact h2.elim
  · exact h.elim
theorem sh_len {a k n : Nat} {rs : List Nat} (h : sh a = some (.inr (k, n, rs))) : n ≤ 4096 := by
  have hall : (List.range 66).all (fun o => match sh o with
    | some (.inr (_, n, _)) => Nat.ble n 4096
    | _ => true) = true := by decide +kernel
  have := List.all_eq_true.mp hall a (List.mem_range.mpr (sh_lt h))
  rw [h] at this
  exact ble_le this
def fvA (hp : Hp) (a k cd : Nat) : Value := match cd with
  | 0 => .int (hp.1 a k)
  | 1 => .long (hp.2 a k)
  | 2 => .int (hp.1 a k)
  | r + 3 => .ref r
theorem getF_inv {hp : Hp} {a ci kk : Nat} {f : Value → Prop} (h : getF hp a ci kk f) : ∃ fs cd, sh a = some (.inl (ci, fs)) ∧ fs[kk]? = some cd ∧ f (fvA hp a kk cd) := by
  unfold getF at h
  split at h
  · obtain ⟨h1, h2⟩ := cond_inv h
    have := beq_eq h1
    subst this
    split at h2
    · exact ⟨_, 0, by assumption, by assumption, h2⟩
    · exact ⟨_, 1, by assumption, by assumption, h2⟩
    · exact ⟨_, 2, by assumption, by assumption, h2⟩
    · rename_i r hr
      exact ⟨_, r + 3, by assumption, hr, h2⟩
    · exact h2.elim
  · exact h.elim
theorem putF_inv {hp : Hp} {a ci kk : Nat} {v : Value} {f : Hp → Prop} (h : putF hp a ci kk v f) : ∃ fs, sh a = some (.inl (ci, fs)) ∧ ((∃ x, fs[kk]? = some 0 ∧ v = .int x ∧ f (up2 hp.1 a kk x, hp.2)) ∨ (∃ x, fs[kk]? = some 1 ∧ v = .long x ∧ f (hp.1, up2 hp.2 a kk x)) ∨ (∃ x, fs[kk]? = some 2 ∧ v = .int x ∧ (x = 0 ∨ x = 1) ∧ f (up2 hp.1 a kk x, hp.2))) := by
  unfold putF at h
  split at h
  · obtain ⟨h1, h2⟩ := cond_inv h
    have := beq_eq h1
    subst this
    refine ⟨_, by assumption, ?_⟩
    split at h2
    · exact Or.inl ⟨_, by assumption, rfl, h2⟩
    · exact Or.inr (Or.inl ⟨_, by assumption, rfl, h2⟩)
    · exact Or.inr (Or.inr ⟨_, by assumption, rfl, h2.1, h2.2⟩)
    · exact h2.elim
  · exact h.elim
-- ===== the world's cells
section WS
variable {ρ : Nat → Nat} {D : va_G} {dA : Nat → ClassId} {A : Nat → Prop}
theorem cv_cat (v : Value) : (cv ρ v).category = v.category := by
  cases v <;> first | rfl | (unfold cv; dsimp only; split <;> rfl)
theorem cats_cv (S : List Value) : ((S.map (cv ρ)).map fun v => v.category).sum = cats S := by
  unfold cats
  rw [List.map_map]
  congr 1
  exact List.map_congr_left fun v _ => cv_cat v
theorem fv_len {hp : Hp} {a : Nat} : ∀ (fs : List Nat) (j : Nat), (fv ρ hp a j fs).length = fs.length
  | [], _ => rfl
  | 0 :: t, j => by simp only [fv, List.length_cons, fv_len t]
  | 1 :: t, j => by simp only [fv, List.length_cons, fv_len t]
  | 2 :: t, j => by simp only [fv, List.length_cons, fv_len t]
  | (r + 3) :: t, j => by simp only [fv, List.length_cons, fv_len t]
theorem fv_get {hp : Hp} {a : Nat} : ∀ (fs : List Nat) (j kk cd : Nat), fs[kk]? = some cd → (fv ρ hp a j fs)[kk]? = some (cv ρ (fvA hp a (j + kk) cd))
  | [], j, kk, cd, h => by simp at h
  | c :: t, j, 0, cd, h => by
    simp at h
    subst h
    match c with
    | 0 => rfl
    | 1 => rfl
    | 2 => rfl
    | r + 3 => rfl
  | c :: t, j, kk + 1, cd, h => by
    have h2 := fv_get (hp := hp) (a := a) t (j + 1) kk cd (by simpa using h)
    rw [show j + 1 + kk = j + (kk + 1) by omega] at h2
    match c with
    | 0 => simpa [fv] using h2
    | 1 => simpa [fv] using h2
    | 2 => simpa [fv] using h2
    | r + 3 => simpa [fv] using h2
theorem fv_congr {hp hq : Hp} {a : Nat} : ∀ (fs : List Nat) (j : Nat), (∀ k, j ≤ k → hq.1 a k = hp.1 a k ∧ hq.2 a k = hp.2 a k) → fv ρ hp a j fs = fv ρ hq a j fs
  | [], _, _ => rfl
  | 0 :: t, j, h => by simp only [fv]; rw [(h j (Nat.le_refl _)).1, fv_congr t (j + 1) (fun k hk => h k (by omega))]
  | 1 :: t, j, h => by simp only [fv]; rw [(h j (Nat.le_refl _)).2, fv_congr t (j + 1) (fun k hk => h k (by omega))]
  | 2 :: t, j, h => by simp only [fv]; rw [(h j (Nat.le_refl _)).1, fv_congr t (j + 1) (fun k hk => h k (by omega))]
  | (r + 3) :: t, j, h => by simp only [fv]; rw [fv_congr t (j + 1) (fun k hk => h k (by omega))]
/-- one field has changed, to what the new heap has there -/
theorem fv_set {hp hq : Hp} {a : Nat} : ∀ (fs : List Nat) (j kk cd : Nat) (v : Value), fs[kk]? = some cd → v = cv ρ (fvA hq a (j + kk) cd) → (∀ k, j ≤ k → k ≠ j + kk → hq.1 a k = hp.1 a k ∧ hq.2 a k = hp.2 a k) → (fv ρ hp a j fs).set kk v = fv ρ hq a j fs
  | [], j, kk, cd, v, h, _, _ => by simp at h
  | c :: t, j, 0, cd, v, h, hv, ho => by
    simp at h
    subst h
    have e := fv_congr (ρ := ρ) (hp := hp) (hq := hq) (a := a) t (j + 1) (fun k hk => ho k (by omega) (by omega))
    match c, hv with
    | 0, hv => simp only [fv, List.set_cons_zero, e]; rw [hv]; rfl
    | 1, hv => simp only [fv, List.set_cons_zero, e]; rw [hv]; rfl
    | 2, hv => simp only [fv, List.set_cons_zero, e]; rw [hv]; rfl
    | r + 3, hv => simp only [fv, List.set_cons_zero, e]; rw [hv]; rfl
  | c :: t, j, kk + 1, cd, v, h, hv, ho => by
    have h2 := fv_set (hp := hp) (hq := hq) (a := a) t (j + 1) kk cd v (by simpa using h) (by rw [show j + 1 + kk = j + (kk + 1) by omega]; exact hv) (fun k hk hne => ho k (by omega) (by omega))
    have h3 := ho j (Nat.le_refl _) (by omega)
    match c with
    | 0 => simp only [fv, List.set_cons_succ, h2]; rw [h3.1]
    | 1 => simp only [fv, List.set_cons_succ, h2]; rw [h3.2]
    | 2 => simp only [fv, List.set_cons_succ, h2]; rw [h3.1]
    | r + 3 => simp only [fv, List.set_cons_succ, h2]
theorem cellE_congr {hp hq : Hp} {a : Nat} (h1 : hq.1 a = hp.1 a) (h2 : hq.2 a = hp.2 a) (q : SH) : cellE ρ dA hp a q = cellE ρ dA hq a q := by
  unfold cellE
  split
  · rw [fv_congr (hp := hp) (hq := hq) _ 0 (fun k _ => ⟨by rw [h1], by rw [h2]⟩)]
  · rw [h1]
  · rw [h1]
  · rw [h2]
  · rfl
theorem ws_at {hp : Hp} {a : Nat} {q : SH} (h : sh a = some q) : (wsOf ρ dA hp)[a]? = some (ρ a, cellE ρ dA hp a q) := by
  unfold wsOf
  rw [List.getElem?_map, List.getElem?_range (sh_lt h)]
  simp [shD, h]
theorem ws_set {hp hq : Hp} {a : Nat} {q : SH} {E : va_E} (h : sh a = some q) (hE : E = cellE ρ dA hq a q) (ho : ∀ b, b ≠ a → hq.1 b = hp.1 b ∧ hq.2 b = hp.2 b) : (wsOf ρ dA hp).set a (ρ a, E) = wsOf ρ dA hq := by
  apply List.ext_getElem?
  intro k
  by_cases hk : k = a
  · subst hk
    rw [List.getElem?_set_self (by simpa [wsOf] using sh_lt h), ws_at h, hE]
  · rw [List.getElem?_set_ne (Ne.symm hk)]
    unfold wsOf
    simp only [List.getElem?_map]
    by_cases hl : k < 66
    · rw [List.getElem?_range hl]
      simp only [Option.map_some]
      rw [cellE_congr (ho k hk).1 (ho k hk).2]
    · rw [List.getElem?_eq_none (by simpa using hl)]
      rfl
theorem Wd.set {hp hq : Hp} {a : Nat} {q : SH} {E : va_E} {H1 : Heap} (h : sh a = some q) (hE : E = cellE ρ dA hq a q) (ho : ∀ b, b ≠ a → hq.1 b = hp.1 b ∧ hq.2 b = hp.2 b) (h1 : va_P D vwCl ((wsOf ρ dA hp).set a (ρ a, E)) H1) (h2 : va_D A ((wsOf ρ dA hp).set a (ρ a, E))) : Wd ρ D dA A hq H1 := by
  rw [ws_set h hE ho] at h1 h2
  exact ⟨h1, h2⟩
theorem up2_ne {α : Type} {f : Nat → Nat → α} {a k : Nat} {v : α} {b : Nat} (h : b ≠ a) : up2 f a k v b = f b := by
  funext j
  simp [up2, h]
theorem up2_at {α : Type} {f : Nat → Nat → α} {a k : Nat} {v : α} : up2 f a k v a = fun j => if j = k then v else f a j := by
  funext j
  simp [up2]
theorem upr_ne {α : Type} {f : Nat → Nat → α} {a : Nat} {g : Nat → α} {b : Nat} (h : b ≠ a) : upr f a g b = f b := by
  funext j
  simp [upr, h]
theorem upr_at {α : Type} {f : Nat → Nat → α} {a : Nat} {g : Nat → α} : upr f a g a = g := by
  funext j
  simp [upr]
end WS
-- ===== the locals
section LC
variable {ρ : Nat → Nat}
def lvOf (ρ : Nat → Nat) (L : List Value) : List (Nat × Value) := (List.range L.length).filterMap (fun k => match L[k]? with
  | some v => if v = .null then none else some (k, cv ρ v)
  | none => none)
theorem lvOf_mem {L : List Value} {k : Nat} {w : Value} : (k, w) ∈ lvOf ρ L ↔ ∃ v, L[k]? = some v ∧ v ≠ .null ∧ w = cv ρ v := by
  unfold lvOf
  rw [List.mem_filterMap]
  constructor
  · rintro ⟨j, -, hj⟩
    split at hj
    · split at hj
      · cases hj
      · cases hj
        exact ⟨_, by assumption, by assumption, rfl⟩
    · cases hj
  · rintro ⟨v, h1, h2, rfl⟩
    refine ⟨k, List.mem_range.mpr (List.getElem?_eq_some_iff.mp h1).1, ?_⟩
    rw [h1]
    simp [h2]
theorem LR.has {L : List Value} {ls : Array Slot} {nL : Nat} (h : LR ρ L ls nL) : lv_has ls nL (lvOf ρ L) := by
  refine ⟨h.2.1, h.2.2.1, fun q hq => ?_⟩
  obtain ⟨v, h1, h2, h3⟩ := lvOf_mem.mp hq
  rw [h3]
  exact h.2.2.2 _ v h1 h2
theorem killL_len (L : List Value) (k : Nat) : (killL L k).length = L.length := by
  unfold killL
  split
  · rfl
  · split <;> simp
theorem killL_get {L : List Value} {i k : Nat} {v : Value} (h : (killL L i)[k]? = some v) (hv : v ≠ .null) : L[k]? = some v ∧ ¬ (k + 1 = i ∧ v.category = 2) := by
  unfold killL at h
  split at h
  · exact ⟨h, by omega⟩
  · rename_i j
    have key : ∀ w : Value, L[j]? = some w → (L.set j .null)[k]? = some v → L[k]? = some v ∧ ¬ (k + 1 = j + 1 ∧ v.category = 2) := by
      intro w hw h
      by_cases hk : j = k
      · subst hk
        rw [List.getElem?_set_self (List.getElem?_eq_some_iff.mp hw).1] at h
        cases h
        exact absurd rfl hv
      · rw [List.getElem?_set_ne hk] at h
        exact ⟨h, by omega⟩
    split at h
    · exact key _ (by assumption) h
    · exact key _ (by assumption) h
    · rename_i h1 h2
      refine ⟨h, ?_⟩
      rintro ⟨e, hc⟩
      have e2 : k = j := by omega
      subst e2
      cases v with
      | long x => exact h1 x h
      | double x => exact h2 x h
      | _ => cases hc
theorem setC_inv : ∀ {L : List Value} {k : Nat} {v : Value} {f : List Value → Prop}, setC L k v f → k < L.length ∧ f (L.set k v)
  | [], _, _, _, h => h.elim
  | _ :: t, 0, v, f, h => ⟨by simp, h⟩
  | x :: t, k + 1, v, f, h => by
    obtain ⟨h1, h2⟩ := setC_inv (L := t) h
    exact ⟨by simpa using h1, h2⟩
theorem killC_inv {L : List Value} {k : Nat} {f : List Value → Prop} (h : killC L k f) : f (killL L k) := by
  unfold killC at h
  unfold killL
  split at h
  · exact h
  · split at h
    · exact (setC_inv h).2
    · exact (setC_inv h).2
    · exact h
theorem st1_inv {L : List Value} {k : Nat} {v : Value} {f : List Value → Prop} (h : st1 L k v f) : k < L.length ∧ f ((killL L k).set k v) := by
  obtain ⟨h1, h2⟩ := setC_inv (killC_inv h)
  exact ⟨by rwa [killL_len] at h1, h2⟩
theorem st2_inv {L : List Value} {k : Nat} {v : Value} {f : List Value → Prop} (h : st2 L k v f) : k + 1 < L.length ∧ f (((killL L k).set k v).set (k + 1) .null) := by
  obtain ⟨h1, h2⟩ := setC_inv (killC_inv h)
  obtain ⟨h3, h4⟩ := setC_inv h2
  exact ⟨by rwa [List.length_set, killL_len] at h3, h4⟩
theorem popC_inv : ∀ {n : Nat} {as S : List Value} {f : List Value → List Value → Prop}, popC n as S f → n ≤ S.length ∧ f ((S.take n).reverse ++ as) (S.drop n)
  | 0, as, S, f, h => ⟨by omega, by have h : f as S := h; simpa using h⟩
  | n + 1, as, v :: S, f, h => by
    obtain ⟨h1, h2⟩ := popC_inv (n := n) (as := v :: as) (S := S) (f := f) h
    exact ⟨by simp; omega, by simpa using h2⟩
  | _ + 1, _, [], _, h => h.elim
theorem padC_inv : ∀ {m : Nat} {f : List Value → Prop}, padC m f → f (List.replicate m .null)
  | 0, _, h => h
  | m + 1, f, h => padC_inv (m := m) (f := fun l => f (.null :: l)) h
theorem entL_cons1 {v : Value} {t : List Value} {m : Nat} (hv : entA (v :: t) = v :: entA t) : entL (m + 1) (v :: t) = v :: entL m t := by
  unfold entL
  rw [hv]
  simp
theorem entC_inv : ∀ {as : List Value} {m : Nat} {f : List Value → Prop}, entC as m f → (entA as).length ≤ m ∧ f (entL m as)
  | [], m, f, h => by
    have := padC_inv h
    exact ⟨by simp [entA], by simpa [entL, entA] using this⟩
  | .long x :: t, m + 2, f, h => by
    obtain ⟨h1, h2⟩ := entC_inv (as := t) (m := m) (f := fun l => f (.long x :: .null :: l)) h
    refine ⟨by simp [entA]; omega, ?_⟩
    have e : entL (m + 2) (.long x :: t) = .long x :: .null :: entL m t := by simp [entL, entA]
    rw [e]
    exact h2
  | .long _ :: _, 0, _, h => h.elim
  | .long _ :: _, 1, _, h => h.elim
  | .double _ :: _, 0, _, h => h.elim
  | .double _ :: _, _ + 1, _, h => h.elim
  | .int x :: t, m + 1, f, h => by
    obtain ⟨h1, h2⟩ := entC_inv (as := t) (m := m) (f := fun l => f (.int x :: l)) h
    exact ⟨by simp [entA]; omega, by rw [entL_cons1 rfl]; exact h2⟩
  | .float x :: t, m + 1, f, h => by
    obtain ⟨h1, h2⟩ := entC_inv (as := t) (m := m) (f := fun l => f (.float x :: l)) h
    exact ⟨by simp [entA]; omega, by rw [entL_cons1 rfl]; exact h2⟩
  | .null :: t, m + 1, f, h => by
    obtain ⟨h1, h2⟩ := entC_inv (as := t) (m := m) (f := fun l => f (.null :: l)) h
    exact ⟨by simp [entA]; omega, by rw [entL_cons1 rfl]; exact h2⟩
  | .ref x :: t, m + 1, f, h => by
    obtain ⟨h1, h2⟩ := entC_inv (as := t) (m := m) (f := fun l => f (.ref x :: l)) h
    exact ⟨by simp [entA]; omega, by rw [entL_cons1 rfl]; exact h2⟩
  | .retAddr x :: t, m + 1, f, h => by
    obtain ⟨h1, h2⟩ := entC_inv (as := t) (m := m) (f := fun l => f (.retAddr x :: l)) h
    exact ⟨by simp [entA]; omega, by rw [entL_cons1 rfl]; exact h2⟩
  | .int _ :: _, 0, _, h => h.elim
  | .float _ :: _, 0, _, h => h.elim
  | .null :: _, 0, _, h => h.elim
  | .ref _ :: _, 0, _, h => h.elim
  | .retAddr _ :: _, 0, _, h => h.elim
theorem LR.st1 {L : List Value} {ls ls' : Array Slot} {nL i : Nat} {v : Value} (h : LR ρ L ls nL) (hi : i < L.length) (h' : lv_has ls' nL ((i, cv ρ v) :: (lvOf ρ L).filter (fun q => !(q.1 == i) && !(q.1 + 1 == i && q.2.category == 2)))) : LR ρ ((killL L i).set i v) ls' nL := by
  refine ⟨by rw [List.length_set, killL_len]; exact h.1, h'.1, h'.2.1, fun k w hk hw => ?_⟩
  by_cases e : i = k
  · subst e
    rw [List.getElem?_set_self (by rw [killL_len]; exact hi)] at hk
    cases hk
    exact h'.2.2 (i, cv ρ v) List.mem_cons_self
  · rw [List.getElem?_set_ne e] at hk
    obtain ⟨h1, h2⟩ := killL_get hk hw
    refine h'.2.2 (k, cv ρ w) (List.mem_cons_of_mem _ (List.mem_filter.mpr ⟨lvOf_mem.mpr ⟨w, h1, hw, rfl⟩, ?_⟩))
    simp only [Bool.and_eq_true, Bool.not_eq_true', beq_eq_false_iff_ne, ne_eq, Bool.and_eq_false_iff, cv_cat]
    refine ⟨fun z => e z.symm, ?_⟩
    by_cases z : k + 1 = i
    · exact Or.inr (fun c => h2 ⟨z, c⟩)
    · exact Or.inl z
theorem LR.st2 {L : List Value} {ls ls' : Array Slot} {nL i : Nat} {v : Value} (h : LR ρ L ls nL) (hi : i + 1 < L.length) (h' : lv_has ls' nL ((i, cv ρ v) :: (lvOf ρ L).filter (fun q => !(q.1 == i) && (!(q.1 == i + 1) && !(q.1 + 1 == i && q.2.category == 2))))) : LR ρ (((killL L i).set i v).set (i + 1) .null) ls' nL := by
  refine ⟨by rw [List.length_set, List.length_set, killL_len]; exact h.1, h'.1, h'.2.1, fun k w hk hw => ?_⟩
  by_cases e1 : i + 1 = k
  · subst e1
    rw [List.getElem?_set_self (by rw [List.length_set, killL_len]; exact hi)] at hk
    cases hk
    exact absurd rfl hw
  rw [List.getElem?_set_ne e1] at hk
  by_cases e : i = k
  · subst e
    rw [List.getElem?_set_self (by rw [killL_len]; omega)] at hk
    cases hk
    exact h'.2.2 (i, cv ρ v) List.mem_cons_self
  · rw [List.getElem?_set_ne e] at hk
    obtain ⟨h1, h2⟩ := killL_get hk hw
    refine h'.2.2 (k, cv ρ w) (List.mem_cons_of_mem _ (List.mem_filter.mpr ⟨lvOf_mem.mpr ⟨w, h1, hw, rfl⟩, ?_⟩))
    simp only [Bool.and_eq_true, Bool.not_eq_true', beq_eq_false_iff_ne, ne_eq, Bool.and_eq_false_iff, cv_cat]
    refine ⟨fun z => e z.symm, fun z => e1 z.symm, ?_⟩
    by_cases z : k + 1 = i
    · exact Or.inr (fun c => h2 ⟨z, c⟩)
    · exact Or.inl z
theorem lg_cons (v : Value) (t : List Value) : lg_sl (v :: t) = (if v.category = 2 then [.val v, .second] else [.val v]) ++ lg_sl t := rfl
theorem lg_len (v : Value) (t : List Value) : (lg_sl (v :: t)).length = v.category + (lg_sl t).length := by
  rw [lg_cons]
  rcases lv_cat v with h | h <;> simp [h] <;> omega
theorem ent_len : ∀ (v : Value) (t : List Value), (entA (v :: t)).length = v.category + (entA t).length
  | .long x, t => by simp [entA, Value.category]; omega
  | .double x, t => by simp [entA, Value.category]; omega
  | .int x, t => by simp [entA, Value.category]; omega
  | .float x, t => by simp [entA, Value.category]; omega
  | .null, t => by simp [entA, Value.category]; omega
  | .ref x, t => by simp [entA, Value.category]; omega
  | .retAddr x, t => by simp [entA, Value.category]; omega
theorem entA_len : ∀ as : List Value, (lg_sl (as.map (cv ρ))).length = (entA as).length
  | [] => rfl
  | v :: t => by rw [List.map_cons, lg_len, ent_len, cv_cat, entA_len t]
theorem entA_get : ∀ (as : List Value) (k : Nat) (v : Value), (entA as)[k]? = some v → v ≠ .null → (lg_sl (as.map (cv ρ)))[k]? = some (.val (cv ρ v))
  | [], k, v, h, _ => by simp [entA] at h
  | .long x :: t, 0, v, h, _ => by simp [entA] at h; subst h; rfl
  | .long x :: t, 1, v, h, hv => by simp [entA] at h; exact absurd h.symm hv
  | .long x :: t, k + 2, v, h, hv => by have := entA_get t k v (by simpa [entA] using h) hv; rw [List.map_cons, lg_cons]; simpa [cv, Value.category] using this
  | .double x :: t, 0, v, h, _ => by simp [entA] at h; subst h; rfl
  | .double x :: t, 1, v, h, hv => by simp [entA] at h; exact absurd h.symm hv
  | .double x :: t, k + 2, v, h, hv => by have := entA_get t k v (by simpa [entA] using h) hv; rw [List.map_cons, lg_cons]; simpa [cv, Value.category] using this

  | .null :: t, 0, v, h, hv => by simp [entA] at h; exact absurd h.symm hv
  | .null :: t, k + 1, v, h, hv => by have := entA_get t k v (by simpa [entA] using h) hv; rw [List.map_cons, lg_cons, cv_cat]; simpa [Value.category] using this
  | .int x :: t, 0, v, h, _ => by simp [entA] at h; subst h; rfl
  | .int x :: t, k + 1, v, h, hv => by have := entA_get t k v (by simpa [entA] using h) hv; rw [List.map_cons, lg_cons]; simpa [cv, Value.category] using this
  | .float x :: t, 0, v, h, _ => by simp [entA] at h; subst h; rfl
  | .float x :: t, k + 1, v, h, hv => by have := entA_get t k v (by simpa [entA] using h) hv; rw [List.map_cons, lg_cons]; simpa [cv, Value.category] using this
  | .ref x :: t, 0, v, h, _ => by simp [entA] at h; subst h; rfl
  | .ref x :: t, k + 1, v, h, hv => by have := entA_get t k v (by simpa [entA] using h) hv; rw [List.map_cons, lg_cons]; simpa [cv, Value.category] using this
  | .retAddr x :: t, 0, v, h, _ => by simp [entA] at h; subst h; rfl
  | .retAddr x :: t, k + 1, v, h, hv => by have := entA_get t k v (by simpa [entA] using h) hv; rw [List.map_cons, lg_cons]; simpa [cv, Value.category] using this
theorem LR.entry {as : List Value} {n : Nat} (h : (entA as).length ≤ n) : LR ρ (entL n as) ((lg_sl (as.map (cv ρ)) ++ List.replicate (n - (lg_sl (as.map (cv ρ))).length) Slot.unset).toArray) n := by
  have h0 := lv_entry (as.map (cv ρ)) (n := n) (by rw [entA_len]; exact h)
  refine ⟨by simp [entL]; omega, h0.1, h0.2.1, fun k v hk hv => ?_⟩
  unfold entL at hk
  by_cases hl : k < (entA as).length
  · rw [List.getElem?_append_left hl] at hk
    have := entA_get (ρ := ρ) as k v hk hv
    rw [List.getElem?_toArray, List.getElem?_append_left (by rw [entA_len]; exact hl)]
    exact this
  · rw [List.getElem?_append_right (by omega), List.getElem?_replicate] at hk
    split at hk
    · cases hk
      exact absurd rfl hv
    · cases hk
end LC

