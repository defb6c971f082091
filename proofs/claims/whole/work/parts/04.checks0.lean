theorem cond_some {α : Type} {b : Bool} {x : Option α} {v : α} (h : cond b x none = some v) : b = true ∧ x = some v := by cases b <;> simp_all
theorem sh_lt {o : Nat} {q : SH} (h : sh o = some q) : o < 66 := by
  unfold sh at h
  have := (cond_some h).1
  simpa [Nat.blt_eq] using this
theorem lk_lt {c i : Nat} {q : LK} (h : lk c i = some q) : c < 16 ∧ i < 1060 := by
  unfold lk at h
  have h1 := cond_some h
  have h2 := cond_some h1.2
  exact ⟨by simpa [Nat.blt_eq] using h1.1, by simpa [Nat.blt_eq] using h2.1⟩
theorem tb_good {w : Cond} (h : w ∈ tb) : goodWord w = true := (List.mem_filter.mp h).2
theorem tb_mem {w : Cond} {i : Nat} (h : lw_tbl[i]? = some w) (hg : goodWord w = true) : w ∈ tb := List.mem_filter.mpr ⟨List.mem_of_getElem? h, hg⟩
theorem tb_goodIn {ws : List Cond} (h : ∀ w ∈ ws, w ∈ tb) : GoodIn tb ws := fun w hw => ⟨h w hw, good_of_word (tb_good (h w hw))⟩
theorem tb_u {C : String} {T : u_T} {N : Nat} (h : ∀ w ∈ u_ws C T N, w ∈ lw_tbl) : ∀ w ∈ u_ws C T N, w ∈ tb := fun w hw => List.mem_filter.mpr ⟨h w hw, by
  obtain ⟨k, -, rfl⟩ := List.mem_map.mp hw
  unfold u_lay
  split <;> rfl⟩
def tAt (p : Option Nat) (w : Cond) : Bool := match p with
  | some p => decide (lw_tbl[p]? = some w) && goodWord w
  | none => false
theorem tAt_ok {p : Option Nat} {w : Cond} (h : tAt p w = true) : w ∈ tb := by
  unfold tAt at h
  split at h
  · rw [Bool.and_eq_true] at h
    exact tb_mem (of_decide_eq_true h.1) h.2
  · cases h
def lenOk (i : Instr) (l : Nat) : Bool := match i with
  | .bipush _ | .ldc _ | .iload _ | .lload _ | .aload _ | .istore _ | .lstore _ | .astore _ => Nat.beq l 2
  | .sipush _ | .ldc_w _ | .ldc2_w _ | .iinc _ _ | .goto _ | .ifCond _ _ | .if_icmp _ _ | .getfield _ | .putfield _ | .getstatic _ | .invokestatic _ | .invokevirtual _ => Nat.beq l 3
  | .new _ | .invokespecial _ | .newarray _ | .anewarray _ | .athrow => true
  | .tableswitch _ lo hi offs => decide ((offs.size : Int) = hi - lo + 1)
  | _ => Nat.beq l 1
def roomOk (cn fr lo : Nat) (j : Nat) : Bool := match lk cn j with
  | some (.inr (.inr (.inr q))) => cond (Nat.beq q.1 9999 || (Nat.beq q.1 9998 || Nat.beq q.1 9997)) (Nat.ble 1 fr && (Nat.ble (8 + (nativeFrameWords "java/lang/System" "arraycopy" 5 + 11)) lo && Nat.ble 21 lo)) (match mts[q.1]? with
    | some e => Nat.ble (eF e + 1) fr && Nat.ble (8 + (eM e + 11) + eL e) lo
    | none => false)
  | _ => true
def callOk (cn fr lo : Nat) (i : Instr) : Bool := match i with
  | .invokestatic j => roomOk cn fr lo j
  | .invokevirtual j => roomOk cn fr lo j
  | _ => true
def okk (b : ByteArray) (cn fr lo : Nat) (o : Option (Instr × Nat)) (pc : Nat) : Bool := match o with
  | none => true
  | some (i, l) => (match decode b pc with
    | .ok (j, n) => decide (i = j) && Nat.beq l n
    | .error _ => false) && (lenOk i l && callOk cn fr lo i)
def rtOk (k : Option Nat) (r : Option FieldType) : Bool := match k with
  | some 0 => decide (r = some .int)
  | some 1 => decide (r = some .boolean)
  | some 2 => decide (r = some .byte)
  | some 3 => decide (r = some .char)
  | some _ => true
  | none => false
/-- what the tables say of a method, by its number -/
def MOk (mid : Nat) (e : ME) : Prop :=
  tab mid = eT e ∧ (∃ (N : Nat) (f : Nat → Option (Instr × Nat)), eT e = (fun pc => cond (Nat.blt pc N) (f pc) none) ∧ ∀ pc, pc < N → okk (eB e) (eC e) (eF e) (eL e) (f pc) pc = true) ∧ cno mid = some (eC e) ∧ Rn (eC e) = e.1.cls ∧ rtOk (rtp mid) (eR e) = true
theorem rg {f : Nat → Bool} {N : Nat} (h : (List.range N).all f = true) : ∀ pc, pc < N → f pc = true := fun pc hp => List.all_eq_true.mp h pc (List.mem_range.mpr hp)
theorem rg2 {f : Nat → Bool} {a n : Nat} (h : (List.range n).all (fun k => f (a + k)) = true) : ∀ pc, a ≤ pc → pc < a + n → f pc = true := fun pc h1 h2 => by
  have := List.all_eq_true.mp h (pc - a) (List.mem_range.mpr (by omega))
  rwa [show a + (pc - a) = pc by omega] at this
def Cal (e : ME) : Prop := plainName e.1.cls = true ∧ (e.1.cls ≠ "java/lang/invoke/MethodHandle" ∧ e.1.cls ≠ "java/lang/invoke/VarHandle") ∧ Cond.code e.1 (eB e) (eM e) (eR e) ∈ tb ∧ Cond.initialized e.1.cls ∈ tb ∧
  (eS e = true → Cond.static e.1 ∈ tb) ∧ (eS e = false → Cond.instanceMethod e.1 ∈ tb ∧ Cond.selects e.1.cls e.1 e.1 ∈ tb)
def allI (P : Nat → ME → Prop) : Nat → List ME → Prop
  | _, [] => True
  | n, a :: l => P n a ∧ allI P (n + 1) l
theorem allI_app {P : Nat → ME → Prop} : ∀ {a b : List ME} {n : Nat}, allI P n a → allI P (n + a.length) b → allI P n (a ++ b)
  | [], b, n, _, h => by simpa using h
  | x :: a, b, n, h, h2 => ⟨h.1, allI_app h.2 (by rw [List.length_cons] at h2; rw [show n + 1 + a.length = n + (a.length + 1) by omega]; exact h2)⟩
theorem allI_get {P : Nat → ME → Prop} : ∀ {l : List ME} {n k : Nat} {e : ME}, allI P n l → l[k]? = some e → P (n + k) e
  | [], n, k, e, _, h => by simp at h
  | x :: l, n, 0, e, h, h2 => by
    simp at h2
    subst h2
    exact h.1
  | x :: l, n, k + 1, e, h, h2 => by
    have := allI_get (k := k) h.2 (by simpa using h2)
    rw [show n + (k + 1) = n + 1 + k by omega]
    exact this

