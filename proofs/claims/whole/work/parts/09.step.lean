theorem br_inv_eq {x y : Int32} {a b : Prop} (h : br .eq x y a b) : (x = y → a) ∧ (¬ x = y → b) := h
theorem br_inv_ne {x y : Int32} {a b : Prop} (h : br .ne x y a b) : (¬ x = y → a) ∧ (x = y → b) := h
theorem br_inv_lt {x y : Int32} {a b : Prop} (h : br .lt x y a b) : (x < y → a) ∧ (¬ x < y → b) := h
theorem br_inv_ge {x y : Int32} {a b : Prop} (h : br .ge x y a b) : (y ≤ x → a) ∧ (¬ y ≤ x → b) := h
theorem br_inv_gt {x y : Int32} {a b : Prop} (h : br .gt x y a b) : (y < x → a) ∧ (¬ y < x → b) := h
theorem br_inv_le {x y : Int32} {a b : Prop} (h : br .le x y a b) : (x ≤ y → a) ∧ (¬ x ≤ y → b) := h
theorem calA_inv {nx : Nat} {L S : List Value} {h : Hp} {k : Nat → List Value → List Value → Hp → Prop} (hs : calA nx L S h k) : ∃ ln dp d sp a r, S = .int ln :: .int dp :: .ref d :: .int sp :: .ref a :: r ∧ cond (Nat.ble (cats r) 8) (acp h a d sp dp ln (fun h' => k nx L r h')) False := by
  unfold calA at hs
  split at hs
  · exact ⟨_, _, _, _, _, _, rfl, hs⟩
  · exact hs.elim
theorem calM_inv {nx : Nat} {L S : List Value} {h : Hp} {f : Int32 → Int32 → Int32} {k : Nat → List Value → List Value → Hp → Prop} (hs : calM nx L S h f k) : ∃ y x r, S = .int y :: .int x :: r ∧ cond (Nat.ble (cats r) 8) (k nx L (.int (f x y) :: r) h) False := by
  unfold calM at hs
  split at hs
  · exact ⟨_, _, _, rfl, hs⟩
  · exact hs.elim
theorem tsw_get {x : Int32} {K : Int → Prop} : ∀ (offs : List Int) (lo : Int) (j : Nat) (off : Int), offs[j]? = some off → x.toInt = lo + j → tsw x lo offs K → K off
  | [], lo, j, off, h, _, _ => by simp at h
  | a :: t, lo, 0, off, h, hx, hs => by
    simp at h
    subst h
    exact hs.1 (by simpa using hx)
  | a :: t, lo, j + 1, off, h, hx, hs => tsw_get t (lo + 1) j off (by simpa using h) (by rw [hx]; omega) hs.2
def ntT (i : Instr) (pc t : Nat) : Prop := match i with
  | .goto off => (pc : Int) + off = (t : Int)
  | .ifCond _ off => (pc : Int) + off = (t : Int)
  | .if_icmp _ off => (pc : Int) + off = (t : Int)
  | _ => True
theorem nt_inv {i : Instr} {l pc n t : Nat} (h : ntI i l pc (some (n, t)) = true) : n = pc + l ∧ ntT i pc t := by
  unfold ntI at h
  dsimp only at h
  rw [Bool.and_eq_true] at h
  refine ⟨beq_eq h.1, ?_⟩
  have h2 := h.2
  cases i with
  | goto off => exact (show (pc : Int) + off = (t : Int) from of_decide_eq_true h2)
  | ifCond c off => exact (show (pc : Int) + off = (t : Int) from of_decide_eq_true h2)
  | if_icmp c off => exact (show (pc : Int) + off = (t : Int) from of_decide_eq_true h2)
  | _ => trivial
theorem ls_get {ρ : Nat → Nat} {L : List Value} {ls : Array Slot} {nL k : Nat} {v : Value} (hL : LR ρ L ls nL) (h : L[k]? = some v) (hv : v ≠ .null) : ls[k]? = some (.val (cv ρ v)) := hL.2.2.2 k v h hv
set_option maxHeartbeats 8000000 in
set_option maxRecDepth 100000 in
theorem stp_ok {X : Xs} {mid pc len n1 tg : Nat} {i : Instr} {L S : List Value} {h : Hp} {Q : Qt} {k : Nat → List Value → List Value → Hp → Prop} (ht : tab mid pc = some (i, len)) (htn : nt mid pc = some (n1, tg)) (hk : ∀ pc' L' S' h', k pc' L' S' h' → Go X mid pc' L' S' h' Q) (hs : stp X mid pc n1 tg i L S h Q k) : Go X mid pc L S h Q := by
  intro e he ρ D dA A p l env R s m args below meth c cells slots fin hC hE hR H locs ls hW hS hL
  have hM := all_ok he
  obtain ⟨hd, hlen, hcall⟩ := tab_ok hM ht
  have hn0 := all_nt he pc i len (by rw [← hM.1]; exact ht)
  rw [htn] at hn0
  have hn1 := nt_inv hn0
  obtain ⟨hnx, hnt⟩ := hn1
  clear hn0
  obtain ⟨hx, hb, hr, hml, hown, hts, hlocks, hroom, hcs, hK⟩ := id hC
  have gx : ∀ (pc' : Nat) (L' S' : List Value) (h' : Hp) (H' : Heap) (locs' : List Loc) (ls' : Array Slot), Go X mid pc' L' S' h' Q → Wd ρ D dA A h' H' → va_S A s.heap H' locs' → LR ρ L' ls' (eM e) → W p l env R s m args below meth c H' locs' cells slots fin (F0 m pc' ls' (S'.map (cv ρ))) := fun pc' L' S' h' H' locs' ls' hg a1 a2 a3 => hg e he ρ D dA A p l env R s m args below meth c cells slots fin hC hE hR H' locs' ls' a1 a2 a3
  have nx : ∀ (pc' : Nat) (L' S' : List Value) (h' : Hp) (H' : Heap) (locs' : List Loc) (ls' : Array Slot), k pc' L' S' h' → Wd ρ D dA A h' H' → va_S A s.heap H' locs' → LR ρ L' ls' (eM e) → W p l env R s m args below meth c H' locs' cells slots fin (F0 m pc' ls' (S'.map (cv ρ))) := fun pc' L' S' h' H' locs' ls' hk' a1 a2 a3 => gx pc' L' S' h' H' locs' ls' (hk pc' L' S' h' hk') a1 a2 a3
  cases i with
  | iconst n =>
    have e1 := beq_eq hlen
    subst e1
    subst hnx
    exact lv_iconst hx hb hd rfl (nx _ _ _ _ _ _ _ hs hW hS hL)
  | bipush n =>
    have e1 := beq_eq hlen
    subst e1
    subst hnx
    exact lv_bipush hx hb hd rfl (nx _ _ _ _ _ _ _ hs hW hS hL)
  | sipush n =>
    have e1 := beq_eq hlen
    subst e1
    subst hnx
    exact lv_sipush hx hb hd rfl (nx _ _ _ _ _ _ _ hs hW hS hL)
  | lconst n =>
    have e1 := beq_eq hlen
    subst e1
    subst hnx
    exact lv_lconst hx hb hd rfl (nx _ _ _ _ _ _ _ hs hW hS hL)
  | ldc j =>
    have e1 := beq_eq hlen
    subst e1
    subst hnx
    have hs : (match strL mid j with | some i => k (pc + 2) L (.ref (2000 + i) :: S) h | none => kst mid j (fun v => match v with | .int x => k (pc + 2) L (.int x :: S) h | _ => False)) := hs
    split at hs
    · rename_i i hi
      obtain ⟨g1, g2, g3⟩ := strL_inv hi
      have g4 : e.1.cls = "LoomCards$Text" := by rw [← hM.2.2.2.1, Option.some.inj (hM.2.2.1.symm.trans g1)]; rfl
      have g5 := hE.2.2.2.2.2.2.2.1 i g2
      rw [g3, ← g4] at g5
      exact va_ldcS hx hb hown g5 hd (nx _ _ _ _ _ _ _ hs hW hS hL)
    · have hz := kst_inv hs
      clear hs
      obtain ⟨cc, v, hc, hl, hs⟩ := hz
      match v, hl, hs with
      | .int x, hl, hs => exact lv_ldc hx hb hown (hts _ (kst_i hM hc hl)) hd (nx _ _ _ _ _ _ _ hs hW hS hL)
  | ldc_w j =>
    have e1 := beq_eq hlen
    subst e1
    subst hnx
    have hz := kst_inv hs
    clear hs
    obtain ⟨cc, v, hc, hl, hs⟩ := hz
    match v, hl, hs with
    | .int x, hl, hs => exact lv_ldcw hx hb hown (hts _ (kst_i hM hc hl)) hd (nx _ _ _ _ _ _ _ hs hW hS hL)
  | ldc2_w j =>
    have e1 := beq_eq hlen
    subst e1
    subst hnx
    have hz := kst_inv hs
    clear hs
    obtain ⟨cc, v, hc, hl, hs⟩ := hz
    match v, hl, hs with
    | .long x, hl, hs => exact lv_ldc2 hx hb hown (hts _ (kst_l hM hc hl)) hd (nx _ _ _ _ _ _ _ hs hW hS hL)
  | iload j =>
    have e1 := beq_eq hlen
    subst e1
    subst hnx
    have hz := ldI_inv hs
    clear hs
    obtain ⟨x, h1, hs⟩ := hz
    exact lv_iload hx hb hd (ls_get hL h1 (by simp)) (nx _ _ _ _ _ _ _ hs hW hS hL)
  | iload_n j =>
    have e1 := beq_eq hlen
    subst e1
    subst hnx
    have hz := ldI_inv hs
    clear hs
    obtain ⟨x, h1, hs⟩ := hz
    exact lv_iload_n hx hb hd rfl (ls_get hL h1 (by simp)) (nx _ _ _ _ _ _ _ hs hW hS hL)
  | lload j =>
    have e1 := beq_eq hlen
    subst e1
    subst hnx
    have hz := ldL_inv hs
    clear hs
    obtain ⟨x, h1, hs⟩ := hz
    exact lv_lload hx hb hd (ls_get hL h1 (by simp)) (nx _ _ _ _ _ _ _ hs hW hS hL)
  | lload_n j =>
    have e1 := beq_eq hlen
    subst e1
    subst hnx
    have hz := ldL_inv hs
    clear hs
    obtain ⟨x, h1, hs⟩ := hz
    exact lv_lload_n hx hb hd rfl (ls_get hL h1 (by simp)) (nx _ _ _ _ _ _ _ hs hW hS hL)
  | aload j =>
    have e1 := beq_eq hlen
    subst e1
    subst hnx
    have hz := ldR_inv hs
    clear hs
    obtain ⟨x, h1, hs⟩ := hz
    exact lv_aload hx hb hd (ls_get hL h1 (by simp)) (nx _ _ _ _ _ _ _ hs hW hS hL)
  | aload_n j =>
    have e1 := beq_eq hlen
    subst e1
    subst hnx
    have hz := ldR_inv hs
    clear hs
    obtain ⟨x, h1, hs⟩ := hz
    exact lv_aload_n hx hb hd rfl (ls_get hL h1 (by simp)) (nx _ _ _ _ _ _ _ hs hW hS hL)
  | istore j =>
    have e1 := beq_eq hlen
    subst e1
    subst hnx
    have hz := pI_inv hs
    clear hs
    obtain ⟨x, r, rfl, hs⟩ := hz
    have hz := st1_inv hs
    clear hs
    obtain ⟨h1, hs⟩ := hz
    exact lv_istore hx hb hd hL.has (by rw [← hL.1]; exact h1) rfl (fun ls' hl' => nx _ _ _ _ _ _ _ hs hW hS (hL.st1 (v := .int x) h1 hl'))
  | istore_n j =>
    have e1 := beq_eq hlen
    subst e1
    subst hnx
    have hz := pI_inv hs
    clear hs
    obtain ⟨x, r, rfl, hs⟩ := hz
    have hz := st1_inv hs
    clear hs
    obtain ⟨h1, hs⟩ := hz
    exact lv_istore_n hx hb hd rfl hL.has (by rw [← hL.1]; exact h1) rfl (fun ls' hl' => nx _ _ _ _ _ _ _ hs hW hS (hL.st1 (v := .int x) h1 hl'))
  | astore j =>
    have e1 := beq_eq hlen
    subst e1
    subst hnx
    have hz := pR_inv hs
    clear hs
    obtain ⟨x, r, rfl, hs⟩ := hz
    have hz := st1_inv hs
    clear hs
    obtain ⟨h1, hs⟩ := hz
    exact lv_astore hx hb hd hL.has (by rw [← hL.1]; exact h1) rfl (fun ls' hl' => nx _ _ _ _ _ _ _ hs hW hS (hL.st1 (v := .ref x) h1 hl'))
  | astore_n j =>
    have e1 := beq_eq hlen
    subst e1
    subst hnx
    have hz := pR_inv hs
    clear hs
    obtain ⟨x, r, rfl, hs⟩ := hz
    have hz := st1_inv hs
    clear hs
    obtain ⟨h1, hs⟩ := hz
    exact lv_astore_n hx hb hd rfl hL.has (by rw [← hL.1]; exact h1) rfl (fun ls' hl' => nx _ _ _ _ _ _ _ hs hW hS (hL.st1 (v := .ref x) h1 hl'))
  | lstore j =>
    have e1 := beq_eq hlen
    subst e1
    subst hnx
    have hz := pL_inv hs
    clear hs
    obtain ⟨x, r, rfl, hs⟩ := hz
    have hz := st2_inv hs
    clear hs
    obtain ⟨h1, hs⟩ := hz
    exact lv_lstore hx hb hd hL.has (by rw [← hL.1]; exact h1) rfl (fun ls' hl' => nx _ _ _ _ _ _ _ hs hW hS (hL.st2 (v := .long x) h1 hl'))
  | lstore_n j =>
    have e1 := beq_eq hlen
    subst e1
    subst hnx
    have hz := pL_inv hs
    clear hs
    obtain ⟨x, r, rfl, hs⟩ := hz
    have hz := st2_inv hs
    clear hs
    obtain ⟨h1, hs⟩ := hz
    exact lv_lstore_n hx hb hd rfl hL.has (by rw [← hL.1]; exact h1) rfl (fun ls' hl' => nx _ _ _ _ _ _ _ hs hW hS (hL.st2 (v := .long x) h1 hl'))
  | iinc j n =>
    have e1 := beq_eq hlen
    subst e1
    subst hnx
    have hz := ldI_inv hs
    clear hs
    obtain ⟨x, h0, hs⟩ := hz
    have hz := st1_inv hs
    clear hs
    obtain ⟨h1, hs⟩ := hz
    obtain ⟨q, hq⟩ := List.getElem?_of_mem (lvOf_mem (ρ := ρ).mpr ⟨_, h0, by simp, rfl⟩)
    exact lv_iinc hx hb hd hL.has hq rfl (by rw [← hL.1]; exact h1) rfl (fun ls' hl' => nx _ _ _ _ _ _ _ hs hW hS (hL.st1 (v := .int _) h1 hl'))
  | iadd =>
    have e1 := beq_eq hlen
    subst e1
    subst hnx
    have hz := pI_inv hs
    clear hs
    obtain ⟨y, r, rfl, hs⟩ := hz
    have hz := pI_inv hs
    clear hs
    obtain ⟨x, r, rfl, hs⟩ := hz
    exact lv_iadd hx hb hd (nx _ _ _ _ _ _ _ hs hW hS hL)
  | isub =>
    have e1 := beq_eq hlen
    subst e1
    subst hnx
    have hz := pI_inv hs
    clear hs
    obtain ⟨y, r, rfl, hs⟩ := hz
    have hz := pI_inv hs
    clear hs
    obtain ⟨x, r, rfl, hs⟩ := hz
    exact lv_isub hx hb hd (nx _ _ _ _ _ _ _ hs hW hS hL)
  | imul =>
    have e1 := beq_eq hlen
    subst e1
    subst hnx
    have hz := pI_inv hs
    clear hs
    obtain ⟨y, r, rfl, hs⟩ := hz
    have hz := pI_inv hs
    clear hs
    obtain ⟨x, r, rfl, hs⟩ := hz
    exact lv_imul hx hb hd (nx _ _ _ _ _ _ _ hs hW hS hL)
  | iand =>
    have e1 := beq_eq hlen
    subst e1
    subst hnx
    have hz := pI_inv hs
    clear hs
    obtain ⟨y, r, rfl, hs⟩ := hz
    have hz := pI_inv hs
    clear hs
    obtain ⟨x, r, rfl, hs⟩ := hz
    exact lv_iand hx hb hd (nx _ _ _ _ _ _ _ hs hW hS hL)
  | ior =>
    have e1 := beq_eq hlen
    subst e1
    subst hnx
    have hz := pI_inv hs
    clear hs
    obtain ⟨y, r, rfl, hs⟩ := hz
    have hz := pI_inv hs
    clear hs
    obtain ⟨x, r, rfl, hs⟩ := hz
    exact lv_ior hx hb hd (nx _ _ _ _ _ _ _ hs hW hS hL)
  | ixor =>
    have e1 := beq_eq hlen
    subst e1
    subst hnx
    have hz := pI_inv hs
    clear hs
    obtain ⟨y, r, rfl, hs⟩ := hz
    have hz := pI_inv hs
    clear hs
    obtain ⟨x, r, rfl, hs⟩ := hz
    exact lv_ixor hx hb hd (nx _ _ _ _ _ _ _ hs hW hS hL)
  | ishl =>
    have e1 := beq_eq hlen
    subst e1
    subst hnx
    have hz := pI_inv hs
    clear hs
    obtain ⟨y, r, rfl, hs⟩ := hz
    have hz := pI_inv hs
    clear hs
    obtain ⟨x, r, rfl, hs⟩ := hz
    exact lv_ishl hx hb hd (nx _ _ _ _ _ _ _ hs hW hS hL)
  | ishr =>
    have e1 := beq_eq hlen
    subst e1
    subst hnx
    have hz := pI_inv hs
    clear hs
    obtain ⟨y, r, rfl, hs⟩ := hz
    have hz := pI_inv hs
    clear hs
    obtain ⟨x, r, rfl, hs⟩ := hz
    exact lv_ishr hx hb hd (nx _ _ _ _ _ _ _ hs hW hS hL)
  | iushr =>
    have e1 := beq_eq hlen
    subst e1
    subst hnx
    have hz := pI_inv hs
    clear hs
    obtain ⟨y, r, rfl, hs⟩ := hz
    have hz := pI_inv hs
    clear hs
    obtain ⟨x, r, rfl, hs⟩ := hz
    exact lv_iushr hx hb hd rfl (nx _ _ _ _ _ _ _ hs hW hS hL)
  | idiv =>
    have e1 := beq_eq hlen
    subst e1
    subst hnx
    have hz := pI_inv hs
    clear hs
    obtain ⟨y, r, rfl, hs⟩ := hz
    have hz := pI_inv hs
    clear hs
    obtain ⟨x, r, rfl, h0, hs⟩ := hz
    exact lv_idiv hx hb hd h0 (nx _ _ _ _ _ _ _ hs hW hS hL)
  | irem =>
    have e1 := beq_eq hlen
    subst e1
    subst hnx
    have hz := pI_inv hs
    clear hs
    obtain ⟨y, r, rfl, hs⟩ := hz
    have hz := pI_inv hs
    clear hs
    obtain ⟨x, r, rfl, h0, hs⟩ := hz
    exact lv_irem hx hb hd h0 (nx _ _ _ _ _ _ _ hs hW hS hL)
  | ladd =>
    have e1 := beq_eq hlen
    subst e1
    subst hnx
    have hz := pL_inv hs
    clear hs
    obtain ⟨y, r, rfl, hs⟩ := hz
    have hz := pL_inv hs
    clear hs
    obtain ⟨x, r, rfl, hs⟩ := hz
    exact lv_ladd hx hb hd (nx _ _ _ _ _ _ _ hs hW hS hL)
  | lsub =>
    have e1 := beq_eq hlen
    subst e1
    subst hnx
    have hz := pL_inv hs
    clear hs
    obtain ⟨y, r, rfl, hs⟩ := hz
    have hz := pL_inv hs
    clear hs
    obtain ⟨x, r, rfl, hs⟩ := hz
    exact lv_lsub hx hb hd (nx _ _ _ _ _ _ _ hs hW hS hL)
  | lmul =>
    have e1 := beq_eq hlen
    subst e1
    subst hnx
    have hz := pL_inv hs
    clear hs
    obtain ⟨y, r, rfl, hs⟩ := hz
    have hz := pL_inv hs
    clear hs
    obtain ⟨x, r, rfl, hs⟩ := hz
    exact lv_lmul hx hb hd (nx _ _ _ _ _ _ _ hs hW hS hL)
  | land =>
    have e1 := beq_eq hlen
    subst e1
    subst hnx
    have hz := pL_inv hs
    clear hs
    obtain ⟨y, r, rfl, hs⟩ := hz
    have hz := pL_inv hs
    clear hs
    obtain ⟨x, r, rfl, hs⟩ := hz
    exact lv_land hx hb hd (nx _ _ _ _ _ _ _ hs hW hS hL)
  | lor =>
    have e1 := beq_eq hlen
    subst e1
    subst hnx
    have hz := pL_inv hs
    clear hs
    obtain ⟨y, r, rfl, hs⟩ := hz
    have hz := pL_inv hs
    clear hs
    obtain ⟨x, r, rfl, hs⟩ := hz
    exact lv_lor hx hb hd (nx _ _ _ _ _ _ _ hs hW hS hL)
  | lshl =>
    have e1 := beq_eq hlen
    subst e1
    subst hnx
    have hz := pI_inv hs
    clear hs
    obtain ⟨y, r, rfl, hs⟩ := hz
    have hz := pL_inv hs
    clear hs
    obtain ⟨x, r, rfl, hs⟩ := hz
    exact lv_lshl hx hb hd rfl (nx _ _ _ _ _ _ _ hs hW hS hL)
  | lshr =>
    have e1 := beq_eq hlen
    subst e1
    subst hnx
    have hz := pI_inv hs
    clear hs
    obtain ⟨y, r, rfl, hs⟩ := hz
    have hz := pL_inv hs
    clear hs
    obtain ⟨x, r, rfl, hs⟩ := hz
    exact lv_lshr hx hb hd rfl (nx _ _ _ _ _ _ _ hs hW hS hL)
  | lcmp =>
    have e1 := beq_eq hlen
    subst e1
    subst hnx
    have hz := pL_inv hs
    clear hs
    obtain ⟨y, r, rfl, hs⟩ := hz
    have hz := pL_inv hs
    clear hs
    obtain ⟨x, r, rfl, hs⟩ := hz
    exact W.lcmp hx hb hd (nx _ _ _ _ _ _ _ hs hW hS hL)
  | i2l =>
    have e1 := beq_eq hlen
    subst e1
    subst hnx
    have hz := pI_inv hs
    clear hs
    obtain ⟨x, r, rfl, hs⟩ := hz
    exact lv_i2l hx hb hd rfl (nx _ _ _ _ _ _ _ hs hW hS hL)
  | i2b =>
    have e1 := beq_eq hlen
    subst e1
    subst hnx
    have hz := pI_inv hs
    clear hs
    obtain ⟨x, r, rfl, hs⟩ := hz
    exact lv_i2b hx hb hd rfl (nx _ _ _ _ _ _ _ hs hW hS hL)
  | i2s =>
    have e1 := beq_eq hlen
    subst e1
    subst hnx
    have hz := pI_inv hs
    clear hs
    obtain ⟨x, r, rfl, hs⟩ := hz
    exact lv_i2s hx hb hd rfl (nx _ _ _ _ _ _ _ hs hW hS hL)
  | l2i =>
    have e1 := beq_eq hlen
    subst e1
    subst hnx
    have hz := pL_inv hs
    clear hs
    obtain ⟨x, r, rfl, hs⟩ := hz
    exact lv_l2i hx hb hd rfl (nx _ _ _ _ _ _ _ hs hW hS hL)
  | dup =>
    have e1 := beq_eq hlen
    subst e1
    subst hnx
    match S, hs with
    | .int x :: r, hs => exact lv_dup (va := .int x) hx hb hd rfl (nx _ _ _ _ _ _ _ hs hW hS hL)
    | .ref x :: r, hs => exact lv_dup (va := .ref (ρ x)) hx hb hd rfl (nx _ _ _ _ _ _ _ hs hW hS hL)
  | dup2 =>
    have e1 := beq_eq hlen
    subst e1
    subst hnx
    match S, hs with
    | .int x :: .ref y :: r, hs => exact lv_dup2_11 (va := .int x) (vb := .ref (ρ y)) hx hb hd rfl rfl (nx _ _ _ _ _ _ _ hs hW hS hL)
    | .int x :: .int y :: r, hs => exact lv_dup2_11 (va := .int x) (vb := .int y) hx hb hd rfl rfl (nx _ _ _ _ _ _ _ hs hW hS hL)
    | .long x :: r, hs => exact lv_dup2_2 (va := .long x) hx hb hd rfl (nx _ _ _ _ _ _ _ hs hW hS hL)
  | pop =>
    have e1 := beq_eq hlen
    subst e1
    subst hnx
    match S, hs with
    | .int x :: r, hs => exact lv_pop (va := .int x) hx hb hd rfl (nx _ _ _ _ _ _ _ hs hW hS hL)
  | goto off =>
    have e1 := beq_eq hlen
    subst e1
    subst hnx
    have h1 : (pc : Int) + off = (tg : Int) := hnt
    exact lv_goto hx hb hd h1 (nx _ _ _ _ _ _ _ hs hW hS hL)
  | ifCond cd off =>
    have e1 := beq_eq hlen
    subst e1
    subst hnx
    have hz := pI_inv hs
    clear hs
    obtain ⟨x, r, rfl, hs⟩ := hz
    have h1 : (pc : Int) + off = (tg : Int) := hnt
    cases cd with
    | eq => have hs := br_inv_eq hs; exact lv_if_eq hx hb hd h1 (fun z => nx _ _ _ _ _ _ _ (hs.1 z) hW hS hL) (fun z => nx _ _ _ _ _ _ _ (hs.2 z) hW hS hL)
    | ne => have hs := br_inv_ne hs; exact lv_if_ne hx hb hd h1 (fun z => nx _ _ _ _ _ _ _ (hs.1 z) hW hS hL) (fun z => nx _ _ _ _ _ _ _ (hs.2 z) hW hS hL)
    | lt => have hs := br_inv_lt hs; exact lv_if_lt hx hb hd h1 (fun z => nx _ _ _ _ _ _ _ (hs.1 z) hW hS hL) (fun z => nx _ _ _ _ _ _ _ (hs.2 z) hW hS hL)
    | ge => have hs := br_inv_ge hs; exact lv_if_ge hx hb hd h1 (fun z => nx _ _ _ _ _ _ _ (hs.1 z) hW hS hL) (fun z => nx _ _ _ _ _ _ _ (hs.2 z) hW hS hL)
    | gt => have hs := br_inv_gt hs; exact lv_if_gt hx hb hd h1 (fun z => nx _ _ _ _ _ _ _ (hs.1 z) hW hS hL) (fun z => nx _ _ _ _ _ _ _ (hs.2 z) hW hS hL)
    | le => have hs := br_inv_le hs; exact lv_if_le hx hb hd h1 (fun z => nx _ _ _ _ _ _ _ (hs.1 z) hW hS hL) (fun z => nx _ _ _ _ _ _ _ (hs.2 z) hW hS hL)
  | if_icmp cd off =>
    have e1 := beq_eq hlen
    subst e1
    subst hnx
    have hz := pI_inv hs
    clear hs
    obtain ⟨y, r, rfl, hs⟩ := hz
    have hz := pI_inv hs
    clear hs
    obtain ⟨x, r, rfl, hs⟩ := hz
    have h1 : (pc : Int) + off = (tg : Int) := hnt
    cases cd with
    | eq => have hs := br_inv_eq hs; exact lv_icmp_eq hx hb hd h1 (fun z => nx _ _ _ _ _ _ _ (hs.1 z) hW hS hL) (fun z => nx _ _ _ _ _ _ _ (hs.2 z) hW hS hL)
    | ne => have hs := br_inv_ne hs; exact lv_icmp_ne hx hb hd h1 (fun z => nx _ _ _ _ _ _ _ (hs.1 z) hW hS hL) (fun z => nx _ _ _ _ _ _ _ (hs.2 z) hW hS hL)
    | lt => have hs := br_inv_lt hs; exact lv_icmp_lt hx hb hd h1 (fun z => nx _ _ _ _ _ _ _ (hs.1 z) hW hS hL) (fun z => nx _ _ _ _ _ _ _ (hs.2 z) hW hS hL)
    | ge => have hs := br_inv_ge hs; exact lv_icmp_ge hx hb hd h1 (fun z => nx _ _ _ _ _ _ _ (hs.1 z) hW hS hL) (fun z => nx _ _ _ _ _ _ _ (hs.2 z) hW hS hL)
    | gt => have hs := br_inv_gt hs; exact lv_icmp_gt hx hb hd h1 (fun z => nx _ _ _ _ _ _ _ (hs.1 z) hW hS hL) (fun z => nx _ _ _ _ _ _ _ (hs.2 z) hW hS hL)
    | le => have hs := br_inv_le hs; exact lv_icmp_le hx hb hd h1 (fun z => nx _ _ _ _ _ _ _ (hs.1 z) hW hS hL) (fun z => nx _ _ _ _ _ _ _ (hs.2 z) hW hS hL)
  | tableswitch d lo hi offs =>
    have hz := pI_inv hs
    clear hs
    obtain ⟨x, r, rfl, hs, hs2⟩ := hz
    by_cases hz : x.toInt < lo ∨ hi < x.toInt
    · obtain ⟨t, h1, hs⟩ := jmp_inv (hs2 hz)
      exact lv_tableOut hx hb hd hz h1 (nx _ _ _ _ _ _ _ hs hW hS hL)
    · have hlen : decide ((offs.size : Int) = hi - lo + 1) = true := hlen
      have hlen := of_decide_eq_true hlen
      obtain ⟨j, hj⟩ : ∃ j : Nat, x.toInt = lo + j := ⟨(x.toInt - lo).toNat, by omega⟩
      have hjl : j < offs.size := by omega
      have ho : offs.toList[j]? = some offs[j] := by simp [hjl]
      obtain ⟨t, h1, hs⟩ := jmp_inv (tsw_get offs.toList lo j _ ho hj hs)
      exact lv_tableIn hx hb hd (fun q => hz (Or.inl q)) (fun q => hz (Or.inr q)) (by rw [show (x.toInt - lo).toNat = j by omega]; exact Array.getElem?_eq_getElem hjl) h1 (nx _ _ _ _ _ _ _ hs hW hS hL)
  | getfield j =>
    have e1 := beq_eq hlen
    subst e1
    subst hnx
    have hz := pR_inv hs
    clear hs
    obtain ⟨a, r, rfl, hs⟩ := hz
    split at hs
    · rename_i i hi
      obtain ⟨g2, rfl⟩ := strO_inv hi
      have hz := strF_inv hs
      clear hs
      obtain ⟨g1, hs⟩ := hz
      have g4 : e.1.cls = "java/lang/String" := by rw [← hM.2.2.2.1, Option.some.inj (hM.2.2.1.symm.trans g1)]; rfl
      have g5 := (hE.2.2.2.2.2.2.2.2.1).1 i g2
      rw [g4] at hown
      rcases hs with ⟨rfl, hs⟩ | ⟨rfl, hs⟩
      · exact vk_getf hx hb g5.2.2.1 hS hown (hts _ ws_st.1) (fun _ z => z) hd (nx _ _ _ _ _ _ _ hs hW hS hL)
      · exact vk_getf hx hb g5.2.1 hS hown (hts _ ws_st.2.1) (fun _ z => z) hd (nx _ _ _ _ _ _ _ hs hW hS hL)
    have hz := fld_inv hs
    clear hs
    obtain ⟨cc, ci, kk, hc, hl, hs⟩ := hz
    have hz := getF_inv hs
    clear hs
    obtain ⟨fs, cd, h1, h2, hs⟩ := hz
    obtain ⟨C, T, N, hv, hkN, hlink⟩ := fld_ok hM hc hl
    have hg := fv_get (ρ := ρ) (hp := h) (a := a) fs 0 kk cd h2
    rw [Nat.zero_add] at hg
    exact va_get hx hb hts (vw_in hv).1 hown hK hW.1 a (ws_at h1) hv kk hkN (hts _ hlink) (fun _ z => z) hg hd (nx _ _ _ _ _ _ _ hs hW hS hL)
  | putfield j =>
    have e1 := beq_eq hlen
    subst e1
    subst hnx
    match S, hs with
    | v :: r, hs =>
      have hz := pR_inv hs
      clear hs
      obtain ⟨a, r, rfl, hs⟩ := hz
      have hz := fld_inv hs
      clear hs
      obtain ⟨cc, ci, kk, hc, hl, hs⟩ := hz
      have hz := putF_inv hs
      clear hs
      obtain ⟨fs, h1, hs⟩ := hz
      obtain ⟨C, T, N, hv, hkN, hlink⟩ := fld_ok hM hc hl
      obtain ⟨v1, v2, ty0, v3⟩ := vw_in hv
      have hsk := sh_ok h1
      unfold shchk at hsk
      rw [h1] at hsk
      simp only [hv, Bool.and_eq_true] at hsk
      have hN : fs.length = N := beq_eq hsk.1
      have hsk := List.all_eq_true.mp hsk.2 kk (List.mem_range.mpr hkN)
      rcases hs with ⟨x, h2, rfl, hs⟩ | ⟨x, h2, rfl, hs⟩ | ⟨x, h2, rfl, hb1, hs⟩
      · rw [h2] at hsk
        simp only [Bool.and_eq_true, decide_eq_true_eq, Bool.not_eq_true'] at hsk
        refine va_put hx hb hts v1 ty0 v3 v2 hown hK hW.1 hW.2 hS a (ws_at h1) hv kk hkN (hts _ hlink) (fun _ z => z) hsk.2 (ty := .int) (v := .int x) (by rw [hsk.1]; decide) rfl rfl (by rw [fv_len, hN]; exact hkN) hd (fun H1 locs1 hP1 hD1 hS1 => ?_)
        refine nx _ _ _ _ _ _ _ hs (Wd.set h1 ?_ ?_ hP1 hD1) hS1 hL
        · show Sum.inr (ci, (fv ρ h a 0 fs).set kk _) = Sum.inr (ci, fv ρ _ a 0 fs)
          rw [fv_set fs 0 kk _ _ h2]
          · simp [fvA, cv, up2]
          · intro q _ hq
            rw [Nat.zero_add] at hq
            simp [up2, hq]
        · intro b hb2
          simp [up2_ne hb2]
      · rw [h2] at hsk
        simp only [Bool.and_eq_true, decide_eq_true_eq, Bool.not_eq_true'] at hsk
        refine va_put hx hb hts v1 ty0 v3 v2 hown hK hW.1 hW.2 hS a (ws_at h1) hv kk hkN (hts _ hlink) (fun _ z => z) hsk.2 (ty := .long) (v := .long x) (by rw [hsk.1]; decide) rfl rfl (by rw [fv_len, hN]; exact hkN) hd (fun H1 locs1 hP1 hD1 hS1 => ?_)
        refine nx _ _ _ _ _ _ _ hs (Wd.set h1 ?_ ?_ hP1 hD1) hS1 hL
        · show Sum.inr (ci, (fv ρ h a 0 fs).set kk _) = Sum.inr (ci, fv ρ _ a 0 fs)
          rw [fv_set fs 0 kk _ _ h2]
          · simp [fvA, cv, up2]
          · intro q _ hq
            rw [Nat.zero_add] at hq
            simp [up2, hq]
        · intro b hb2
          simp [up2_ne hb2]
      · rw [h2] at hsk
        simp only [Bool.and_eq_true, decide_eq_true_eq, Bool.not_eq_true'] at hsk
        refine va_put hx hb hts v1 ty0 v3 v2 hown hK hW.1 hW.2 hS a (ws_at h1) hv kk hkN (hts _ hlink) (fun _ z => z) hsk.2 (ty := .boolean) (v := .int x) (by rw [hsk.1]; decide) (by rcases hb1 with rfl | rfl <;> rfl) (by rcases hb1 with rfl | rfl <;> rfl) (by rw [fv_len, hN]; exact hkN) hd (fun H1 locs1 hP1 hD1 hS1 => ?_)
        refine nx _ _ _ _ _ _ _ hs (Wd.set h1 ?_ ?_ hP1 hD1) hS1 hL
        · show Sum.inr (ci, (fv ρ h a 0 fs).set kk _) = Sum.inr (ci, fv ρ _ a 0 fs)
          rw [fv_set fs 0 kk _ _ h2]
          · simp [fvA, cv, up2]
          · intro q _ hq
            rw [Nat.zero_add] at hq
            simp [up2, hq]
        · intro b hb2
          simp [up2_ne hb2]
  | getstatic j =>
    have e1 := beq_eq hlen
    subst e1
    subst hnx
    have hs : (match strS mid j with | some v => k (pc + 3) L (v :: S) h | none => sta mid j (fun v => k (pc + 3) L (v :: S) h)) := hs
    split at hs
    · rename_i v hi
      obtain ⟨g1, g2⟩ := strS_inv hi
      have g4 : e.1.cls = "java/lang/String" := by rw [← hM.2.2.2.1, Option.some.inj (hM.2.2.1.symm.trans g1)]; rfl
      rw [g4] at hown
      rcases g2 with ⟨rfl, rfl⟩ | ⟨rfl, rfl⟩
      · exact va_gets hx hb hE.2.2.2.2.2.1 hS hown (hts _ ws_st.2.2.1) (fun _ z => z) hd (nx _ _ _ _ _ _ _ hs hW hS hL)
      · exact va_gets hx hb hE.2.2.2.2.2.2.1 hS hown (hts _ ws_st.2.2.2) (fun _ z => z) hd (nx _ _ _ _ _ _ _ hs hW hS hL)
    have hz := sta_inv hs
    clear hs
    obtain ⟨cc, v, hc, hl, hs⟩ := hz
    rcases sta_ok hM hc hl with ⟨rfl, hlink⟩ | ⟨q, hq, rfl, hlink⟩
    · exact va_gets hx hb hE.2.2.1 hS hown (hts _ hlink) (fun _ z => z) hd (nx _ _ _ _ _ _ _ hs hW hS hL)
    · exact va_gets hx hb (hE.2.2.2.1 q hq) hS hown (hts _ hlink) (fun _ z => z) hd (nx _ _ _ _ _ _ _ hs hW hS hL)
  | arraylength =>
    have e1 := beq_eq hlen
    subst e1
    subst hnx
    have hz := pR_inv hs
    clear hs
    obtain ⟨a, r, rfl, hs⟩ := hz
    have hz := alen_inv hs
    clear hs
    rcases hz with ⟨kd, n, rs, h1, hs⟩ | ⟨rfl, hs⟩ | ⟨rfl, hs⟩ | ⟨i, g2, rfl, hs⟩
    · have hsk := sh_ok h1
      unfold shchk at hsk
      rw [h1] at hsk
      have hkd : kd ≤ 3 := ble_le hsk
      have hw := ws_at (ρ := ρ) (dA := dA) (hp := h) h1
      rcases (show kd = 0 ∨ kd = 1 ∨ kd = 2 ∨ kd = 3 by omega) with rfl | rfl | rfl | rfl
      · exact va_alen hx hb hK hW.1 a 0 hw (ty := .int) rfl rfl hd (nx _ _ _ _ _ _ _ hs hW hS hL)
      · exact va_alen hx hb hK hW.1 a 1 hw (ty := .byte) rfl rfl hd (nx _ _ _ _ _ _ _ hs hW hS hL)
      · exact va_alen hx hb hK hW.1 a 2 hw (ty := .long) rfl rfl hd (nx _ _ _ _ _ _ _ hs hW hS hL)
      · exact va_alen hx hb hK hW.1 a 3 hw (ty := .object "LoomCards$Sheet") rfl rfl hd (nx _ _ _ _ _ _ _ hs hW hS hL)
    · exact va_tlen hx hb hE.1 hS rfl hd (nx _ _ _ _ _ _ _ hs hW hS hL)
    · exact va_tlen hx hb hE.2.1 hS rfl hd (nx _ _ _ _ _ _ _ hs hW hS hL)
    · exact va_tlen hx hb ((hE.2.2.2.2.2.2.2.2.1).1 i g2).2.2.2 hS rfl hd (nx _ _ _ _ _ _ _ hs hW hS hL)
  | iaload =>
    have e1 := beq_eq hlen
    subst e1
    subst hnx
    have hz := pI_inv hs
    clear hs
    obtain ⟨x, r, rfl, hs⟩ := hz
    have hz := pR_inv hs
    clear hs
    obtain ⟨a, r, rfl, hs⟩ := hz
    have hz := iald_inv hs
    clear hs
    rcases hz with ⟨n, rs, h1, q, rfl, h2, hs⟩ | ⟨rfl, q, rfl, h2, hs⟩ | ⟨rfl, q, rfl, h2, hs⟩
    · have hn := sh_len h1
      exact va_iald hx hb hK hW.1 a 0 (ws_at h1) rfl (vp_in_nI h2 (by omega)) hd (by rw [nI_clamp (by omega)]; exact (nx _ _ _ _ _ _ _ hs hW hS hL))
    · have hX := hE.2.2.2.2.1
      exact va_ti hx hb hE.1 hS (vp_in_nI h2 hX) (by rw [nI_clamp (by omega)]; rfl) hd (nx _ _ _ _ _ _ _ hs hW hS hL)
    · exact va_ti hx hb hE.2.1 hS (vp_in_nI h2 (by decide)) (by rw [nI_clamp (by omega)]; rfl) hd (nx _ _ _ _ _ _ _ hs hW hS hL)
  | baload =>
    have e1 := beq_eq hlen
    subst e1
    subst hnx
    have hz := pI_inv hs
    clear hs
    obtain ⟨x, r, rfl, hs⟩ := hz
    have hz := pR_inv hs
    clear hs
    obtain ⟨a, r, rfl, hs⟩ := hz
    split at hs
    · rename_i i hi
      obtain ⟨g2, rfl⟩ := strV_inv hi
      obtain ⟨q, rfl, h2, hs⟩ := hs
      have hq5 : strN.getD i 0 ≤ 5 := by rcases (show i = 0 ∨ i = 1 ∨ i = 2 ∨ i = 3 ∨ i = 4 ∨ i = 5 ∨ i = 6 ∨ i = 7 ∨ i = 8 ∨ i = 9 by omega) with rfl | rfl | rfl | rfl | rfl | rfl | rfl | rfl | rfl | rfl <;> decide
      exact va_tb hx hb ((hE.2.2.2.2.2.2.2.2.1).1 i g2).2.2.2 hS (vp_in_nI h2 (by omega)) (by rw [nI_clamp (by omega)]; rfl) hd (nx _ _ _ _ _ _ _ hs hW hS hL)
    · have hz := arr_inv hs
      clear hs
      obtain ⟨n, rs, h1, q, rfl, h2, hs⟩ := hz
      have hn := sh_len h1
      exact va_bald hx hb hK hW.1 a 1 (ws_at h1) rfl (vp_in_nI h2 (by omega)) hd (by rw [nI_clamp (by omega)]; exact (nx _ _ _ _ _ _ _ hs hW hS hL))
  | i2c =>
    have e1 := beq_eq hlen
    subst e1
    subst hnx
    have hz := pI_inv hs
    clear hs
    obtain ⟨x, r, rfl, hs⟩ := hz
    exact lv_i2c hx hb hd rfl (nx _ _ _ _ _ _ _ hs hW hS hL)
  | laload =>
    have e1 := beq_eq hlen
    subst e1
    subst hnx
    have hz := pI_inv hs
    clear hs
    obtain ⟨x, r, rfl, hs⟩ := hz
    have hz := pR_inv hs
    clear hs
    obtain ⟨a, r, rfl, hs⟩ := hz
    have hz := arr_inv hs
    clear hs
    obtain ⟨n, rs, h1, q, rfl, h2, hs⟩ := hz
    have hn := sh_len h1
    exact va_lald hx hb hK hW.1 a 2 (ws_at h1) rfl (vp_in_nI h2 (by omega)) hd (by rw [nI_clamp (by omega)]; exact (nx _ _ _ _ _ _ _ hs hW hS hL))
  | aaload =>
    have e1 := beq_eq hlen
    subst e1
    subst hnx
    have hz := pI_inv hs
    clear hs
    obtain ⟨x, r, rfl, hs⟩ := hz
    have hz := pR_inv hs
    clear hs
    obtain ⟨a, r, rfl, hs⟩ := hz
    have hz := aald_inv hs
    clear hs
    obtain ⟨n, rs, q, jj, h1, rfl, h2, h3, hs⟩ := hz
    have hn := sh_len h1
    refine va_aldq hx hb hK hW.1 a 3 (ws_at h1) rfl (vp_in_nI h2 (by omega)) hd ?_
    rw [nI_clamp (by omega), h3]
    exact nx _ _ _ _ _ _ _ hs hW hS hL
  | iastore =>
    have e1 := beq_eq hlen
    subst e1
    subst hnx
    have hz := pI_inv hs
    clear hs
    obtain ⟨y, r, rfl, hs⟩ := hz
    have hz := pI_inv hs
    clear hs
    obtain ⟨x, r, rfl, hs⟩ := hz
    have hz := pR_inv hs
    clear hs
    obtain ⟨a, r, rfl, hs⟩ := hz
    have hz := arr_inv hs
    clear hs
    obtain ⟨n, rs, h1, q, rfl, h2, hs⟩ := hz
    have hn := sh_len h1
    refine va_iast hx hb hK hW.1 hW.2 hS a 0 (ws_at h1) rfl (vp_in_nI h2 (by omega)) hd (fun H1 locs1 hP1 hD1 hS1 => ?_)
    rw [nI_clamp (by omega)] at hP1 hD1
    refine nx _ _ _ _ _ _ _ hs (Wd.set h1 ?_ (fun b hb2 => by simp [up2_ne hb2]) hP1 hD1) hS1 hL
    simp only [cellE, up2_at]
    rfl
  | bastore =>
    have e1 := beq_eq hlen
    subst e1
    subst hnx
    have hz := pI_inv hs
    clear hs
    obtain ⟨y, r, rfl, hs⟩ := hz
    have hz := pI_inv hs
    clear hs
    obtain ⟨x, r, rfl, hs⟩ := hz
    have hz := pR_inv hs
    clear hs
    obtain ⟨a, r, rfl, hs⟩ := hz
    have hz := arr_inv hs
    clear hs
    obtain ⟨n, rs, h1, q, rfl, h2, hs⟩ := hz
    have hn := sh_len h1
    refine va_bast hx hb hK hW.1 hW.2 hS a 1 (ws_at h1) rfl (vp_in_nI h2 (by omega)) hd (fun H1 locs1 hP1 hD1 hS1 => ?_)
    rw [nI_clamp (by omega)] at hP1 hD1
    refine nx _ _ _ _ _ _ _ hs (Wd.set h1 ?_ (fun b hb2 => by simp [up2_ne hb2]) hP1 hD1) hS1 hL
    simp only [cellE, up2_at]
    rfl
  | lastore =>
    have e1 := beq_eq hlen
    subst e1
    subst hnx
    have hz := pL_inv hs
    clear hs
    obtain ⟨y, r, rfl, hs⟩ := hz
    have hz := pI_inv hs
    clear hs
    obtain ⟨x, r, rfl, hs⟩ := hz
    have hz := pR_inv hs
    clear hs
    obtain ⟨a, r, rfl, hs⟩ := hz
    have hz := arr_inv hs
    clear hs
    obtain ⟨n, rs, h1, q, rfl, h2, hs⟩ := hz
    have hn := sh_len h1
    refine va_last hx hb hK hW.1 hW.2 hS a 2 (ws_at h1) rfl (vp_in_nI h2 (by omega)) hd (fun H1 locs1 hP1 hD1 hS1 => ?_)
    rw [nI_clamp (by omega)] at hP1 hD1
    refine nx _ _ _ _ _ _ _ hs (Wd.set h1 ?_ (fun b hb2 => by simp [up2_ne hb2]) hP1 hD1) hS1 hL
    simp only [cellE, up2_at]
    rfl
  | invokestatic j =>
    have e1 := beq_eq hlen
    subst e1
    subst hnx
    have hs : mth mid j (fun cm stt n mx => cond stt (calS X mid (pc + 3) cm n mx L S h Q k) False) := hs
    have hz := mth_inv hs
    clear hs
    obtain ⟨cc, cm, stt, n, mx, hc, hl, hs⟩ := hz
    cases stt with
    | false => exact hs.elim
    | true =>
      have hrm := fun f => room_ok (f := f) hM hc hl hcall
      have hpp := mth_p hM hc hl
      have hs : calS X mid (pc + 3) cm n mx L S h Q k := hs
      unfold calS at hs
      by_cases n1 : cm = 9999
      · subst n1
        have hs : calA (pc + 3) L S h k := hs
        have hz := calA_inv hs
        clear hs
        obtain ⟨ln, dp, d, sp, a, r, rfl, hs⟩ := hz
        have hz := cond_inv hs
        clear hs
        obtain ⟨hc8, hs⟩ := hz
        have hc8 := ble_le hc8
        obtain ⟨g1, g2, -⟩ := (hrm e).1 (Or.inl rfl)
        have hcat := cats_cv (ρ := ρ) r
        unfold acp at hs
        split at hs
        · rename_i n0 rs0 n1 rs1 q0 q1
          obtain ⟨ia, ib, il, ⟨rfl, rfl, rfl⟩, ⟨a4, a5⟩, hs⟩ := hs
          have hn0 := sh_len q0
          have hn1 := sh_len q1
          refine va_copyi hx hb (by rw [hml, hL.2.1]) hown (hts _ (hpp.1 rfl)) (hts _ ws_ac.1) (hts _ ws_ac.2.1) (hts _ ws_ac.2.2) hK hW.1 hW.2 hS a d 0 0 (ty := .int) (ws_at q0) (ws_at q1) rfl rfl rfl (nI_pos (by omega)) (nI_pos (by omega)) (nI_pos (by omega)) (by rw [nI_clamp (by omega), nI_clamp (by omega)]; exact a4) (by rw [nI_clamp (by omega), nI_clamp (by omega)]; exact a5) (fun _ _ => rfl) (by omega) (by rw [hcat]; omega) hd (fun H1 locs1 hP1 hD1 hS1 => ?_)
          rw [nI_clamp (by omega), nI_clamp (by omega), nI_clamp (by omega)] at hP1 hD1
          refine nx _ _ _ _ _ _ _ hs (Wd.set q1 ?_ (fun b hb2 => by simp [upr_ne hb2]) hP1 hD1) hS1 hL
          simp only [cellE, upr_at]
        · rename_i n0 rs0 n1 rs1 q0 q1
          obtain ⟨ia, ib, il, ⟨rfl, rfl, rfl⟩, ⟨a4, a5⟩, hs⟩ := hs
          have hn0 := sh_len q0
          have hn1 := sh_len q1
          refine va_copyl hx hb (by rw [hml, hL.2.1]) hown (hts _ (hpp.1 rfl)) (hts _ ws_ac.1) (hts _ ws_ac.2.1) (hts _ ws_ac.2.2) hK hW.1 hW.2 hS a d 2 2 (ty := .long) (ws_at q0) (ws_at q1) rfl rfl rfl (nI_pos (by omega)) (nI_pos (by omega)) (nI_pos (by omega)) (by rw [nI_clamp (by omega), nI_clamp (by omega)]; exact a4) (by rw [nI_clamp (by omega), nI_clamp (by omega)]; exact a5) (fun _ _ => rfl) (by omega) (by rw [hcat]; omega) hd (fun H1 locs1 hP1 hD1 hS1 => ?_)
          rw [nI_clamp (by omega), nI_clamp (by omega), nI_clamp (by omega)] at hP1 hD1
          refine nx _ _ _ _ _ _ _ hs (Wd.set q1 ?_ (fun b hb2 => by simp [upr_ne hb2]) hP1 hD1) hS1 hL
          simp only [cellE, upr_at]
        · exact hs.elim
      by_cases n2 : cm = 9998
      · subst n2
        have hs : calM (pc + 3) L S h (fun x y => if x < y then y else x) k := hs
        have hz := calM_inv hs
        clear hs
        obtain ⟨y, x, r, rfl, hs⟩ := hz
        have hz := cond_inv hs
        clear hs
        obtain ⟨hc8, hs⟩ := hz
        have hc8 := ble_le hc8
        obtain ⟨g1, -, g2⟩ := (hrm e).1 (Or.inr (Or.inl rfl))
        have hcat := cats_cv (ρ := ρ) r
        exact va_mmax hx hb (by rw [hml, hL.2.1]) hown (hts _ (hpp.2.1 rfl)) (hts _ ws_mx.1) (hts _ ws_mx.2.1) (hts _ ws_mx.2.2) (by omega) (by rw [hcat]; omega) hcs.1 hcs.2 hd (nx _ _ _ _ _ _ _ hs hW hS hL)
      by_cases n3 : cm = 9997
      · subst n3
        have hs : calM (pc + 3) L S h (fun x y => if y < x then y else x) k := hs
        have hz := calM_inv hs
        clear hs
        obtain ⟨y, x, r, rfl, hs⟩ := hz
        have hz := cond_inv hs
        clear hs
        obtain ⟨hc8, hs⟩ := hz
        have hc8 := ble_le hc8
        obtain ⟨g1, -, g2⟩ := (hrm e).1 (Or.inr (Or.inr rfl))
        have hcat := cats_cv (ρ := ρ) r
        exact va_mmin hx hb (by rw [hml, hL.2.1]) hown (hts _ (hpp.2.2 rfl)) (hts _ ws_mi.1) (hts _ ws_mi.2.1) (hts _ ws_mi.2.2) (by omega) (by rw [hcat]; omega) hcs.1 hcs.2 hd (nx _ _ _ _ _ _ _ hs hW hS hL)
      obtain ⟨f, hf, hlaw, hst, rfl, hpar, hlink⟩ := mth_ok hM hc hl n1 n2 n3
      obtain ⟨r1, r2⟩ := (hrm f).2 n1 n2 n3 hf
      simp only [beq_f n1, beq_f n2, beq_f n3, cond_false] at hs
      have hz := popC_inv hs
      clear hs
      obtain ⟨b1, hs⟩ := hz
      rw [List.append_nil] at hs
      have hz := cond_inv hs
      clear hs
      obtain ⟨b2, hs⟩ := hz
      have b2 := ble_le b2
      have hz := entC_inv hs
      clear hs
      obtain ⟨b3, hs⟩ := hz
      have hcal := all_cal hf hlaw
      have hMet := met_go (l := l) (ρ := ρ) (D := D) (dA := dA) (A := A) hf hcal b3 hs
      have hfit : ∀ w ∈ (Cond.code f.1 (eB f) (eM f) (eR f) :: tb), w ∈ tb := fun w hw => by
        rcases List.mem_cons.mp hw with rfl | hw
        · exact hcal.2.2.1
        · exact hw
      have hpre : PreS s H (Pm X ρ D dA A (S.take n).reverse h) (((S.take n).reverse).map (cv ρ)) := ⟨Pm.blind, fun U hU hWm => ⟨rfl, by rw [hU]; exact hW, va_K.moved hWm.alike hK, hE.move hS hU hWm.alike (fun _ _ _ _ z => z.warm hWm) (fun _ _ _ _ z => z.warmM hWm)⟩⟩
      have hst0 : (F0 m pc ls (S.map (cv ρ))).stack = (((S.take n).reverse).map (cv ρ)).reverse ++ (S.drop n).map (cv ρ) := by
        show S.map (cv ρ) = _
        rw [← List.map_reverse, List.reverse_reverse, ← List.map_append, List.take_append_drop]
      have hlenn : (((S.take n).reverse).map (cv ρ)).length = n := by simp; omega
      have hrm8 : 2 * (F0 m pc ls (S.map (cv ρ))).monitorRoom + (((S.drop n).map (cv ρ)).map fun v => v.category).sum ≤ 8 := lv_room (by rw [cats_cv]; exact b2)
      have kk2 : ∀ (v : Option Value) (h' : Hp) (H1 : Heap) (locs1 : List Loc), Go X mid (pc + 3) L (pushO v (S.drop n)) h' Q → Wd ρ D dA A h' H1 → va_S A s.heap H1 locs1 → W p l env R s m args below meth c H1 locs1 cells slots fin (F0 m (pc + 3) ls ((v.map (cv ρ)).toList ++ (S.drop n).map (cv ρ))) := fun v h' H1 locs1 hg a1 a2 => by
        rw [← cv_push]
        exact gx _ _ _ _ _ _ _ hg a1 a2 hL
      rcases hlink with hlink | ⟨-, hlink⟩
      · exact call_go (va_runS ⟨hx, hb, hml, hown, hts⟩ hMet (va_cwS n hts (tb_goodIn (fun w hw => by
          rcases List.mem_append.mp hw with hw | hw
          · simp only [List.mem_cons, List.mem_nil_iff, or_false] at hw
            rcases hw with rfl | rfl | rfl
            · exact hlink
            · exact hcal.2.2.2.2.1 hst
            · exact hcal.2.2.2.1
          · exact hfit w hw)) rfl rfl rfl ⟨hcal.2.1.1, hcal.2.1.2, hpar⟩ ⟨Nat.le_trans r1 hroom.1, Nat.le_trans r2 hroom.2⟩) hpre rfl hlenn hL.2.1 hst0 hrm8 hd ⟨hcs.1, hcs.2⟩) hS kk2
      · exact call_go (va_runSN ⟨hx, hb, hml, hown, hts⟩ hMet ⟨va_cnB n hts (tb_goodIn hfit) rfl rfl rfl (hE.2.2.2.2.2.2.2.2.2 _ _ _ _ hlink) (hts _ hcal.2.2.2.1) ⟨hcal.2.1.1, hcal.2.1.2, hpar⟩ ⟨Nat.le_trans r1 hroom.1, Nat.le_trans r2 hroom.2⟩, hts _ (hcal.2.2.2.2.1 hst), trivial⟩ hpre rfl hlenn hL.2.1 hst0 hrm8 hd ⟨hcs.1, hcs.2⟩) hS kk2
  | invokevirtual j =>
    have e1 := beq_eq hlen
    subst e1
    subst hnx
    have hs : mth mid j (fun cm stt n mx => cond stt False (calV X mid (pc + 3) cm n mx L S h Q)) := hs
    have hz := mth_inv hs
    clear hs
    obtain ⟨cc, cm, stt, n, mx, hc, hl, hs⟩ := hz
    cases stt with
    | true => exact hs.elim
    | false =>
      have hrm := fun f => room_ok (f := f) hM hc hl hcall
      have hs : calV X mid (pc + 3) cm n mx L S h Q := hs
      unfold calV at hs
      have hz := popC_inv hs
      clear hs
      obtain ⟨b1, hs⟩ := hz
      rw [List.append_nil] at hs
      split at hs
      · rename_i a r hdrop
        have hz := cond_inv hs
        clear hs
        obtain ⟨b2, hs⟩ := hz
        have b2 := ble_le b2
        obtain ⟨n1, n2, n3⟩ := mth_v hM hc hl
        obtain ⟨f, hf, hlaw, hst, rfl, hpar, hlink⟩ := mth_ok hM hc hl n1 n2 n3
        obtain ⟨r1, r2⟩ := (hrm f).2 n1 n2 n3 hf
        have hMf := all_ok hf
        have hcal := all_cal hf hlaw
        have hobj : (∃ cellB : Cell, H[ρ a]? = some cellB ∧ cellB.vm.isStatics = false ∧ s.vm.findClass f.1.cls = some cellB.cls) ∧ entC (.ref a :: (S.take n).reverse) (eM f) (fun l => Go X cm 0 l [] h (fun v h' => Go X mid (pc + 3) L (pushO v r) h' Q)) := by
          unfold isObj at hs
          split at hs
          · rename_i ci fs dd h1 hcn
            have hz := cond_inv hs
            clear hs
            obtain ⟨h2, hs⟩ := hz
            have h2 := beq_eq h2
            subst h2
            have hcf : eC f = ci := Option.some.inj (hMf.2.2.1.symm.trans hcn)
            obtain ⟨C, T, N, hv, hC⟩ := sh_cls h1
            have hCf : C = f.1.cls := by rw [hC, ← hcf]; exact hMf.2.2.2.1
            subst hCf
            exact ⟨va_recv (s := s) hK hW.1 hv (ws_at h1), hs⟩
          · rename_i dd h1 hcn
            split at hs
            · rename_i i hi
              obtain ⟨g2, rfl⟩ := strO_inv hi
              have hz := cond_inv hs
              clear hs
              obtain ⟨h2, hs⟩ := hz
              have h2 := beq_eq h2
              subst h2
              have hCf : f.1.cls = "java/lang/String" := by rw [← hMf.2.2.2.1, Option.some.inj (hMf.2.2.1.symm.trans hcn)]; rfl
              refine ⟨?_, hs⟩
              rw [hCf]
              exact vk_recv (i := i) (adK := fun i => ρ (2000 + i)) hE.2.2.2.2.2.2.2.2.1 g2 hS
            · exact hs.elim
          · exact hs.elim
        obtain ⟨hrecv, hs⟩ := hobj
        have hz := entC_inv hs
        clear hs
        obtain ⟨b3, hs⟩ := hz
        have hMet := met_go (l := l) (ρ := ρ) (D := D) (dA := dA) (A := A) hf hcal b3 hs
        have hpre : PreV s H f.1.cls (ρ a) (Pm X ρ D dA A (.ref a :: (S.take n).reverse) h) (((S.take n).reverse).map (cv ρ)) := ⟨Pm.blind, hrecv, fun U hU hWm => ⟨rfl, by rw [hU]; exact hW, va_K.moved hWm.alike hK, hE.move hS hU hWm.alike (fun _ _ _ _ z => z.warm hWm) (fun _ _ _ _ z => z.warmM hWm)⟩⟩
        have hst0 : (F0 m pc ls (S.map (cv ρ))).stack = (((S.take n).reverse).map (cv ρ)).reverse ++ .ref (ρ a) :: r.map (cv ρ) := by
          show S.map (cv ρ) = _
          rw [← List.map_reverse, List.reverse_reverse, show Value.ref (ρ a) :: r.map (cv ρ) = (S.drop n).map (cv ρ) by rw [hdrop]; rfl, ← List.map_append, List.take_append_drop]
        have hlenn : (((S.take n).reverse).map (cv ρ)).length = n := by simp; omega
        have hrm8 : 2 * (F0 m pc ls (S.map (cv ρ))).monitorRoom + ((r.map (cv ρ)).map fun v => v.category).sum ≤ 8 := lv_room (by rw [cats_cv]; exact b2)
        refine call_go (va_runV ⟨hx, hb, hml, hown, hts⟩ hMet (cwV n hts (tb_goodIn (fun w hw => ?_)) rfl rfl rfl ⟨rfl, hcal.2.1.1, hcal.2.1.2, hpar⟩ ⟨Nat.le_trans r1 hroom.1, Nat.le_trans r2 hroom.2⟩) hpre rfl hlenn hL.2.1 hst0 hrm8 hd ⟨hcs.1, hcs.2⟩) hS (fun v h' H1 locs1 hg a1 a2 => ?_)
        · rcases List.mem_append.mp hw with hw | hw
          · simp only [List.mem_cons, List.mem_nil_iff, or_false] at hw
            rcases hw with rfl | rfl | rfl | rfl
            · rcases hlink with hlink | ⟨z, -⟩
              · exact hlink
              · cases z
            · exact (hcal.2.2.2.2.2 hst).1
            · exact (hcal.2.2.2.2.2 hst).2
            · exact hcal.2.2.2.1
          · rcases List.mem_cons.mp hw with rfl | hw
            · exact hcal.2.2.1
            · exact hw
        · rw [← cv_push]
          exact gx _ _ _ _ _ _ _ hg a1 a2 hL
      · exact hs.elim
  | ireturn =>
    have e1 := beq_eq hlen
    subst e1
    subst hnx
    match S, hs with
    | [.int x], hs =>
      have hrt := hM.2.2.2.2
      have hs : rOk mid x (Q (some (.int x)) h) := hs
      unfold rOk at hs
      split at hs
      · rename_i q; rw [q] at hrt; exact hR (some (.int x)) h H locs ls pc ⟨⟨_, of_decide_eq_true hrt, rfl⟩, hd⟩ hW hS hs
      · rename_i q; rw [q] at hrt; exact hR (some (.int x)) h H locs ls pc ⟨⟨_, of_decide_eq_true hrt, by rcases hs.1 with rfl | rfl <;> rfl⟩, hd⟩ hW hS hs.2
      · rename_i q; rw [q] at hrt; exact hR (some (.int x)) h H locs ls pc ⟨⟨_, of_decide_eq_true hrt, hs.1⟩, hd⟩ hW hS hs.2
      · rename_i q; rw [q] at hrt; exact hR (some (.int x)) h H locs ls pc ⟨⟨_, of_decide_eq_true hrt, hs.1⟩, hd⟩ hW hS hs.2
      · exact hs.elim
  | lreturn =>
    have e1 := beq_eq hlen
    subst e1
    subst hnx
    have hrt := all_rt he pc _ _ (by rw [← hM.1]; exact ht)
    match S, hs with
    | [.long x], hs => exact hR (some (.long x)) h H locs ls pc ⟨of_decide_eq_true hrt, hd⟩ hW hS hs
  | areturn =>
    have e1 := beq_eq hlen
    subst e1
    subst hnx
    have hrt := all_rt he pc _ _ (by rw [← hM.1]; exact ht)
    match S, hs with
    | [.ref x], hs =>
      refine hR (some (.ref x)) h H locs ls pc ⟨?_, hd⟩ hW hS hs
      have hrt : (match eR e with | some (.object _) => true | _ => false) = true := hrt
      split at hrt
      · exact ⟨_, by assumption⟩
      · cases hrt
  | return_ =>
    have e1 := beq_eq hlen
    subst e1
    subst hnx
    have hrt := all_rt he pc _ _ (by rw [← hM.1]; exact ht)
    match S, hs with
    | [], hs => exact hR none h H locs ls pc ⟨of_decide_eq_true hrt, hd⟩ hW hS hs
  | _ => exact hs.elim
theorem vc_ok {X : Xs} {st : List Nat} : ∀ (n : Nat) {mid pc : Nat} {L S : List Value} {h : Hp} {Q : Qt}, vc X st n mid pc L S h Q → Go X mid pc L S h Q
  | 0, _, _, _, _, _, _, hv => hv
  | n + 1, mid, pc, L, S, h, Q, hv => by
    unfold vc at hv
    split at hv
    · rename_i i l n1 tg ht htn
      refine stp_ok ht htn (fun pc' L' S' h' hk => ?_) hv
      cases hb : hasN st pc' with
      | true => rw [hb] at hk; exact hk
      | false => rw [hb] at hk; exact vc_ok n hk
    · exact hv.elim
