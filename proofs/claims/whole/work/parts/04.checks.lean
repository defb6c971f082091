theorem cond_some {α : Type} {b : Bool} {x : Option α} {v : α} (h : cond b x none = some v) : b = true ∧ x = some v := by cases b <;> simp_all
theorem sh_lt {o : Nat} {q : SH} (h : sh o = some q) : o < 66 := by
  unfold sh at h
  have := (cond_some h).1
  simpa [Nat.blt_eq] using this
theorem lk_lt {c i : Nat} {q : LK} (h : lk c i = some q) : c < 16 ∧ i < 1060 := by
  unfold lk at h
  have h1 := cond_some h
  have h2 := cond_some h1.2
  exact ⟨by simpa [Nat.blt_eq] using h1.1, by simpa [Nat.blt_eq] using h2.1⟩
theorem tb_good {w : Cond} (h : w ∈ tb) : goodWord w = true := (List.mem_filter.mp h).2
theorem tb_mem {w : Cond} {i : Nat} (h : lw_tbl[i]? = some w) (hg : goodWord w = true) : w ∈ tb := List.mem_filter.mpr ⟨List.mem_of_getElem? h, hg⟩
theorem tb_goodIn {ws : List Cond} (h : ∀ w ∈ ws, w ∈ tb) : GoodIn tb ws := fun w hw => ⟨h w hw, good_of_word (tb_good (h w hw))⟩
theorem tb_u {C : String} {T : u_T} {N : Nat} (h : ∀ w ∈ u_ws C T N, w ∈ lw_tbl) : ∀ w ∈ u_ws C T N, w ∈ tb := fun w hw => List.mem_filter.mpr ⟨h w hw, by
  obtain ⟨k, -, rfl⟩ := List.mem_map.mp hw
  unfold u_lay
  split <;> rfl⟩
def tAt (p : Option Nat) (w : Cond) : Bool := match p with
  | some p => decide (lw_tbl[p]? = some w) && goodWord w
  | none => false
theorem tAt_ok {p : Option Nat} {w : Cond} (h : tAt p w = true) : w ∈ tb := by
  unfold tAt at h
  split at h
  · rw [Bool.and_eq_true] at h
    exact tb_mem (of_decide_eq_true h.1) h.2
  · cases h
def lenOk (i : Instr) (l : Nat) : Bool := match i with
  | .bipush _ | .ldc _ | .iload _ | .lload _ | .aload _ | .istore _ | .lstore _ | .astore _ => Nat.beq l 2
  | .sipush _ | .ldc_w _ | .ldc2_w _ | .iinc _ _ | .goto _ | .ifCond _ _ | .if_icmp _ _ | .getfield _ | .putfield _ | .getstatic _ | .invokestatic _ | .invokevirtual _ => Nat.beq l 3
  | .new _ | .invokespecial _ | .newarray _ | .anewarray _ | .athrow | .i2c => true
  | .tableswitch _ lo hi offs => decide ((offs.size : Int) = hi - lo + 1)
  | _ => Nat.beq l 1
def roomOk (cn fr lo : Nat) (j : Nat) : Bool := match lk cn j with
  | some (.inr (.inr (.inr q))) => cond (Nat.beq q.1 9999 || (Nat.beq q.1 9998 || Nat.beq q.1 9997)) (Nat.ble 1 fr && (Nat.ble (8 + (nativeFrameWords "java/lang/System" "arraycopy" 5 + 11)) lo && Nat.ble 21 lo)) (match mts[q.1]? with
    | some e => Nat.ble (eF e + 1) fr && Nat.ble (8 + (eM e + 11) + eL e) lo
    | none => false)
  | _ => true
def callOk (cn fr lo : Nat) (i : Instr) : Bool := match i with
  | .invokestatic j => roomOk cn fr lo j
  | .invokevirtual j => roomOk cn fr lo j
  | _ => true
def okk (b : ByteArray) (cn fr lo : Nat) (o : Option (Instr × Nat)) (pc : Nat) : Bool := match o with
  | none => true
  | some (i, l) => (match decode b pc with
    | .ok (j, n) => decide (i = j) && Nat.beq l n
    | .error _ => false) && (lenOk i l && callOk cn fr lo i)
def rtOk (k : Option Nat) (r : Option FieldType) : Bool := match k with
  | some 0 => decide (r = some .int)
  | some 1 => decide (r = some .boolean)
  | some 2 => decide (r = some .byte)
  | some 3 => decide (r = some .char)
  | some _ => true
  | none => false
/-- what the tables say of a method, by its number -/
def MOk (mid : Nat) (e : ME) : Prop :=
  tab mid = eT e ∧ (∃ (N : Nat) (f : Nat → Option (Instr × Nat)), eT e = (fun pc => cond (Nat.blt pc N) (f pc) none) ∧ ∀ pc, pc < N → okk (eB e) (eC e) (eF e) (eL e) (f pc) pc = true) ∧ cno mid = some (eC e) ∧ Rn (eC e) = e.1.cls ∧ rtOk (rtp mid) (eR e) = true
theorem rg {f : Nat → Bool} {N : Nat} (h : (List.range N).all f = true) : ∀ pc, pc < N → f pc = true := fun pc hp => List.all_eq_true.mp h pc (List.mem_range.mpr hp)
theorem rg2 {f : Nat → Bool} {a n : Nat} (h : (List.range n).all (fun k => f (a + k)) = true) : ∀ pc, a ≤ pc → pc < a + n → f pc = true := fun pc h1 h2 => by
  have := List.all_eq_true.mp h (pc - a) (List.mem_range.mpr (by omega))
  rwa [show a + (pc - a) = pc by omega] at this
def Cal (e : ME) : Prop := plainName e.1.cls = true ∧ (e.1.cls ≠ "java/lang/invoke/MethodHandle" ∧ e.1.cls ≠ "java/lang/invoke/VarHandle") ∧ Cond.code e.1 (eB e) (eM e) (eR e) ∈ tb ∧ Cond.initialized e.1.cls ∈ tb ∧
  (eS e = true → Cond.static e.1 ∈ tb) ∧ (eS e = false → Cond.instanceMethod e.1 ∈ tb ∧ Cond.selects e.1.cls e.1 e.1 ∈ tb)
def allI (P : Nat → ME → Prop) : Nat → List ME → Prop
  | _, [] => True
  | n, a :: l => P n a ∧ allI P (n + 1) l
theorem allI_app {P : Nat → ME → Prop} : ∀ {a b : List ME} {n : Nat}, allI P n a → allI P (n + a.length) b → allI P n (a ++ b)
  | [], b, n, _, h => by simpa using h
  | x :: a, b, n, h, h2 => ⟨h.1, allI_app h.2 (by rw [List.length_cons] at h2; rw [show n + 1 + a.length = n + (a.length + 1) by omega]; exact h2)⟩
theorem allI_get {P : Nat → ME → Prop} : ∀ {l : List ME} {n k : Nat} {e : ME}, allI P n l → l[k]? = some e → P (n + k) e
  | [], n, k, e, _, h => by simp at h
  | x :: l, n, 0, e, h, h2 => by
    simp at h2
    subst h2
    exact h.1
  | x :: l, n, k + 1, e, h, h2 => by
    have := allI_get (k := k) h.2 (by simpa using h2)
    rw [show n + (k + 1) = n + 1 + k by omega]
    exact this

theorem ok_X0_weave : MOk 0 e_X0_weave := ⟨rfl, ⟨100, _, rfl, rg (by decide +kernel)⟩, rfl, by decide +kernel, by decide +kernel⟩
theorem ca_X0_weave : Cal e_X0_weave := ⟨by decide +kernel, ⟨by decide +kernel, by decide +kernel⟩, tAt_ok (p := some 363) (by decide +kernel), tAt_ok (p := some 77) (by decide +kernel), (fun h => by cases h), (fun _ => ⟨tAt_ok (p := some 361) (by decide +kernel), tAt_ok (p := some 362) (by decide +kernel)⟩)⟩
theorem ok_X0_reorder : MOk 1 e_X0_reorder := ⟨rfl, ⟨41, _, rfl, rg (by decide +kernel)⟩, rfl, by decide +kernel, by decide +kernel⟩
theorem ca_X0_reorder : Cal e_X0_reorder := ⟨by decide +kernel, ⟨by decide +kernel, by decide +kernel⟩, tAt_ok (p := some 375) (by decide +kernel), tAt_ok (p := some 77) (by decide +kernel), (fun h => by cases h), (fun _ => ⟨tAt_ok (p := some 373) (by decide +kernel), tAt_ok (p := some 374) (by decide +kernel)⟩)⟩
theorem ok_X0_turnOver : MOk 2 e_X0_turnOver := ⟨rfl, ⟨16, _, rfl, rg (by decide +kernel)⟩, rfl, by decide +kernel, by decide +kernel⟩
theorem ca_X0_turnOver : Cal e_X0_turnOver := ⟨by decide +kernel, ⟨by decide +kernel, by decide +kernel⟩, tAt_ok (p := some 561) (by decide +kernel), tAt_ok (p := some 77) (by decide +kernel), (fun h => by cases h), (fun _ => ⟨tAt_ok (p := some 559) (by decide +kernel), tAt_ok (p := some 560) (by decide +kernel)⟩)⟩
theorem ok_X0_measure : MOk 3 e_X0_measure := ⟨rfl, ⟨73, _, rfl, rg (by decide +kernel)⟩, rfl, by decide +kernel, by decide +kernel⟩
theorem ca_X0_measure : Cal e_X0_measure := ⟨by decide +kernel, ⟨by decide +kernel, by decide +kernel⟩, tAt_ok (p := some 367) (by decide +kernel), tAt_ok (p := some 77) (by decide +kernel), (fun h => by cases h), (fun _ => ⟨tAt_ok (p := some 366) (by decide +kernel), tAt_ok (p := some 1) (by decide +kernel)⟩)⟩
theorem ok_X0_longestIn : MOk 4 e_X0_longestIn := ⟨rfl, ⟨38, _, rfl, rg (by decide +kernel)⟩, rfl, by decide +kernel, by decide +kernel⟩
theorem ca_X0_longestIn : Cal e_X0_longestIn := ⟨by decide +kernel, ⟨by decide +kernel, by decide +kernel⟩, tAt_ok (p := some 371) (by decide +kernel), tAt_ok (p := some 77) (by decide +kernel), (fun _ => tAt_ok (p := some 370) (by decide +kernel)), (fun h => by cases h)⟩
theorem ok_X0_upIn : MOk 5 e_X0_upIn := ⟨rfl, ⟨12, _, rfl, rg (by decide +kernel)⟩, rfl, by decide +kernel, by decide +kernel⟩
theorem ca_X0_upIn : Cal e_X0_upIn := ⟨by decide +kernel, ⟨by decide +kernel, by decide +kernel⟩, tAt_ok (p := some 445) (by decide +kernel), tAt_ok (p := some 77) (by decide +kernel), (fun h => by cases h), (fun _ => ⟨tAt_ok (p := some 443) (by decide +kernel), tAt_ok (p := some 444) (by decide +kernel)⟩)⟩
theorem ok_X0_firstBroken : MOk 6 e_X0_firstBroken := ⟨rfl, ⟨49, _, rfl, rg (by decide +kernel)⟩, rfl, by decide +kernel, by decide +kernel⟩
theorem ca_X0_firstBroken : Cal e_X0_firstBroken := ⟨by decide +kernel, ⟨by decide +kernel, by decide +kernel⟩, tAt_ok (p := some 526) (by decide +kernel), tAt_ok (p := some 77) (by decide +kernel), (fun h => by cases h), (fun _ => ⟨tAt_ok (p := some 524) (by decide +kernel), tAt_ok (p := some 525) (by decide +kernel)⟩)⟩
theorem ok_X0_keeps : MOk 7 e_X0_keeps := ⟨rfl, ⟨168, _, rfl, rg (by decide +kernel)⟩, rfl, by decide +kernel, by decide +kernel⟩
theorem ca_X0_keeps : Cal e_X0_keeps := ⟨by decide +kernel, ⟨by decide +kernel, by decide +kernel⟩, tAt_ok (p := some 471) (by decide +kernel), tAt_ok (p := some 77) (by decide +kernel), (fun h => by cases h), (fun _ => ⟨tAt_ok (p := some 469) (by decide +kernel), tAt_ok (p := some 470) (by decide +kernel)⟩)⟩
theorem ok_X0_hasAtMostUp : MOk 8 e_X0_hasAtMostUp := ⟨rfl, ⟨35, _, rfl, rg (by decide +kernel)⟩, rfl, by decide +kernel, by decide +kernel⟩
theorem ca_X0_hasAtMostUp : Cal e_X0_hasAtMostUp := ⟨by decide +kernel, ⟨by decide +kernel, by decide +kernel⟩, tAt_ok (p := some 475) (by decide +kernel), tAt_ok (p := some 77) (by decide +kernel), (fun h => by cases h), (fun _ => ⟨tAt_ok (p := some 474) (by decide +kernel), tAt_ok (p := some 2) (by decide +kernel)⟩)⟩
theorem ok_X0_isEven : MOk 9 e_X0_isEven := ⟨rfl, ⟨37, _, rfl, rg (by decide +kernel)⟩, rfl, by decide +kernel, by decide +kernel⟩
theorem ca_X0_isEven : Cal e_X0_isEven := ⟨by decide +kernel, ⟨by decide +kernel, by decide +kernel⟩, tAt_ok (p := some 479) (by decide +kernel), tAt_ok (p := some 77) (by decide +kernel), (fun h => by cases h), (fun _ => ⟨tAt_ok (p := some 478) (by decide +kernel), tAt_ok (p := some 3) (by decide +kernel)⟩)⟩
theorem ok_X0_isStepping : MOk 10 e_X0_isStepping := ⟨rfl, ⟨62, _, rfl, rg (by decide +kernel)⟩, rfl, by decide +kernel, by decide +kernel⟩
theorem ca_X0_isStepping : Cal e_X0_isStepping := ⟨by decide +kernel, ⟨by decide +kernel, by decide +kernel⟩, tAt_ok (p := some 490) (by decide +kernel), tAt_ok (p := some 77) (by decide +kernel), (fun h => by cases h), (fun _ => ⟨tAt_ok (p := some 489) (by decide +kernel), tAt_ok (p := some 4) (by decide +kernel)⟩)⟩
theorem ok_X0_isTurning : MOk 11 e_X0_isTurning := ⟨rfl, ⟨42, _, rfl, rg (by decide +kernel)⟩, rfl, by decide +kernel, by decide +kernel⟩
theorem ca_X0_isTurning : Cal e_X0_isTurning := ⟨by decide +kernel, ⟨by decide +kernel, by decide +kernel⟩, tAt_ok (p := some 500) (by decide +kernel), tAt_ok (p := some 77) (by decide +kernel), (fun h => by cases h), (fun _ => ⟨tAt_ok (p := some 499) (by decide +kernel), tAt_ok (p := some 5) (by decide +kernel)⟩)⟩
theorem ok_X0_longestAcross : MOk 12 e_X0_longestAcross := ⟨rfl, ⟨36, _, rfl, rg (by decide +kernel)⟩, rfl, by decide +kernel, by decide +kernel⟩
theorem ca_X0_longestAcross : Cal e_X0_longestAcross := ⟨by decide +kernel, ⟨by decide +kernel, by decide +kernel⟩, tAt_ok (p := some 483) (by decide +kernel), tAt_ok (p := some 77) (by decide +kernel), (fun h => by cases h), (fun _ => ⟨tAt_ok (p := some 481) (by decide +kernel), tAt_ok (p := some 482) (by decide +kernel)⟩)⟩
theorem ok_X0_longestDown : MOk 13 e_X0_longestDown := ⟨rfl, ⟨128, _, rfl, rg (by decide +kernel)⟩, rfl, by decide +kernel, by decide +kernel⟩
theorem ca_X0_longestDown : Cal e_X0_longestDown := ⟨by decide +kernel, ⟨by decide +kernel, by decide +kernel⟩, tAt_ok (p := some 494) (by decide +kernel), tAt_ok (p := some 77) (by decide +kernel), (fun h => by cases h), (fun _ => ⟨tAt_ok (p := some 492) (by decide +kernel), tAt_ok (p := some 493) (by decide +kernel)⟩)⟩
theorem ok_X0_repeatsBy : MOk 14 e_X0_repeatsBy := ⟨rfl, ⟨35, _, rfl, rg (by decide +kernel)⟩, rfl, by decide +kernel, by decide +kernel⟩
theorem ca_X0_repeatsBy : Cal e_X0_repeatsBy := ⟨by decide +kernel, ⟨by decide +kernel, by decide +kernel⟩, tAt_ok (p := some 652) (by decide +kernel), tAt_ok (p := some 77) (by decide +kernel), (fun h => by cases h), (fun _ => ⟨tAt_ok (p := some 650) (by decide +kernel), tAt_ok (p := some 651) (by decide +kernel)⟩)⟩
theorem ok_X0_isNewRow : MOk 15 e_X0_isNewRow := ⟨rfl, ⟨30, _, rfl, rg (by decide +kernel)⟩, rfl, by decide +kernel, by decide +kernel⟩
theorem ca_X0_isNewRow : Cal e_X0_isNewRow := ⟨by decide +kernel, ⟨by decide +kernel, by decide +kernel⟩, tAt_ok (p := some 660) (by decide +kernel), tAt_ok (p := some 77) (by decide +kernel), (fun h => by cases h), (fun _ => ⟨tAt_ok (p := some 658) (by decide +kernel), tAt_ok (p := some 659) (by decide +kernel)⟩)⟩
theorem ok_X0_rowsWithUp : MOk 16 e_X0_rowsWithUp := ⟨rfl, ⟨32, _, rfl, rg (by decide +kernel)⟩, rfl, by decide +kernel, by decide +kernel⟩
theorem ca_X0_rowsWithUp : Cal e_X0_rowsWithUp := ⟨by decide +kernel, ⟨by decide +kernel, by decide +kernel⟩, tAt_ok (p := some 677) (by decide +kernel), tAt_ok (p := some 77) (by decide +kernel), (fun h => by cases h), (fun _ => ⟨tAt_ok (p := some 675) (by decide +kernel), tAt_ok (p := some 676) (by decide +kernel)⟩)⟩
theorem ok_X0_changesOf : MOk 17 e_X0_changesOf := ⟨rfl, ⟨40, _, rfl, rg (by decide +kernel)⟩, rfl, by decide +kernel, by decide +kernel⟩
theorem ca_X0_changesOf : Cal e_X0_changesOf := ⟨by decide +kernel, ⟨by decide +kernel, by decide +kernel⟩, tAt_ok (p := some 681) (by decide +kernel), tAt_ok (p := some 77) (by decide +kernel), (fun h => by cases h), (fun _ => ⟨tAt_ok (p := some 679) (by decide +kernel), tAt_ok (p := some 680) (by decide +kernel)⟩)⟩
theorem ok_X0_weaverOf : MOk 18 e_X0_weaverOf := ⟨rfl, ⟨30, _, rfl, rg (by decide +kernel)⟩, rfl, by decide +kernel, by decide +kernel⟩
theorem ca_X0_weaverOf : Cal e_X0_weaverOf := ⟨by decide +kernel, ⟨by decide +kernel, by decide +kernel⟩, tAt_ok (p := some 876) (by decide +kernel), tAt_ok (p := some 77) (by decide +kernel), (fun h => by cases h), (fun _ => ⟨tAt_ok (p := some 874) (by decide +kernel), tAt_ok (p := some 875) (by decide +kernel)⟩)⟩
theorem ok_X0_nearestTo : MOk 19 e_X0_nearestTo := ⟨rfl, ⟨47, _, rfl, rg (by decide +kernel)⟩, rfl, by decide +kernel, by decide +kernel⟩
theorem ca_X0_nearestTo : Cal e_X0_nearestTo := ⟨by decide +kernel, ⟨by decide +kernel, by decide +kernel⟩, tAt_ok (p := some 884) (by decide +kernel), tAt_ok (p := some 77) (by decide +kernel), (fun h => by cases h), (fun _ => ⟨tAt_ok (p := some 882) (by decide +kernel), tAt_ok (p := some 883) (by decide +kernel)⟩)⟩
theorem ok_X1_become : MOk 20 e_X1_become := ⟨rfl, ⟨119, _, rfl, rg (by decide +kernel)⟩, rfl, by decide +kernel, by decide +kernel⟩
theorem ca_X1_become : Cal e_X1_become := ⟨by decide +kernel, ⟨by decide +kernel, by decide +kernel⟩, tAt_ok (p := some 701) (by decide +kernel), tAt_ok (p := some 76) (by decide +kernel), (fun h => by cases h), (fun _ => ⟨tAt_ok (p := some 699) (by decide +kernel), tAt_ok (p := some 700) (by decide +kernel)⟩)⟩
theorem ok_X1_takePicks : MOk 21 e_X1_takePicks := ⟨rfl, ⟨41, _, rfl, rg (by decide +kernel)⟩, rfl, by decide +kernel, by decide +kernel⟩
theorem ca_X1_takePicks : Cal e_X1_takePicks := ⟨by decide +kernel, ⟨by decide +kernel, by decide +kernel⟩, tAt_ok (p := some 643) (by decide +kernel), tAt_ok (p := some 76) (by decide +kernel), (fun h => by cases h), (fun _ => ⟨tAt_ok (p := some 641) (by decide +kernel), tAt_ok (p := some 642) (by decide +kernel)⟩)⟩
theorem ok_X1_hasCard : MOk 22 e_X1_hasCard := ⟨rfl, ⟨18, _, rfl, rg (by decide +kernel)⟩, rfl, by decide +kernel, by decide +kernel⟩
theorem ca_X1_hasCard : Cal e_X1_hasCard := ⟨by decide +kernel, ⟨by decide +kernel, by decide +kernel⟩, tAt_ok (p := some 349) (by decide +kernel), tAt_ok (p := some 76) (by decide +kernel), (fun h => by cases h), (fun _ => ⟨tAt_ok (p := some 347) (by decide +kernel), tAt_ok (p := some 348) (by decide +kernel)⟩)⟩
theorem ok_X1_hasCards : MOk 23 e_X1_hasCards := ⟨rfl, ⟨15, _, rfl, rg (by decide +kernel)⟩, rfl, by decide +kernel, by decide +kernel⟩
theorem ca_X1_hasCards : Cal e_X1_hasCards := ⟨by decide +kernel, ⟨by decide +kernel, by decide +kernel⟩, tAt_ok (p := some 609) (by decide +kernel), tAt_ok (p := some 76) (by decide +kernel), (fun h => by cases h), (fun _ => ⟨tAt_ok (p := some 607) (by decide +kernel), tAt_ok (p := some 608) (by decide +kernel)⟩)⟩
theorem ok_X1_hasRow : MOk 24 e_X1_hasRow := ⟨rfl, ⟨18, _, rfl, rg (by decide +kernel)⟩, rfl, by decide +kernel, by decide +kernel⟩
theorem ca_X1_hasRow : Cal e_X1_hasRow := ⟨by decide +kernel, ⟨by decide +kernel, by decide +kernel⟩, tAt_ok (p := some 437) (by decide +kernel), tAt_ok (p := some 76) (by decide +kernel), (fun h => by cases h), (fun _ => ⟨tAt_ok (p := some 435) (by decide +kernel), tAt_ok (p := some 436) (by decide +kernel)⟩)⟩
theorem ok_X1_hasLaw : MOk 25 e_X1_hasLaw := ⟨rfl, ⟨18, _, rfl, rg (by decide +kernel)⟩, rfl, by decide +kernel, by decide +kernel⟩
theorem ca_X1_hasLaw : Cal e_X1_hasLaw := ⟨by decide +kernel, ⟨by decide +kernel, by decide +kernel⟩, tAt_ok (p := some 467) (by decide +kernel), tAt_ok (p := some 76) (by decide +kernel), (fun h => by cases h), (fun _ => ⟨tAt_ok (p := some 465) (by decide +kernel), tAt_ok (p := some 466) (by decide +kernel)⟩)⟩
theorem ok_X1_addCard : MOk 26 e_X1_addCard := ⟨rfl, ⟨37, _, rfl, rg (by decide +kernel)⟩, rfl, by decide +kernel, by decide +kernel⟩
theorem ca_X1_addCard : Cal e_X1_addCard := ⟨by decide +kernel, ⟨by decide +kernel, by decide +kernel⟩, tAt_ok (p := some 341) (by decide +kernel), tAt_ok (p := some 76) (by decide +kernel), (fun h => by cases h), (fun _ => ⟨tAt_ok (p := some 339) (by decide +kernel), tAt_ok (p := some 340) (by decide +kernel)⟩)⟩
theorem ok_X1_addPick : MOk 27 e_X1_addPick := ⟨rfl, ⟨21, _, rfl, rg (by decide +kernel)⟩, rfl, by decide +kernel, by decide +kernel⟩
theorem ca_X1_addPick : Cal e_X1_addPick := ⟨by decide +kernel, ⟨by decide +kernel, by decide +kernel⟩, tAt_ok (p := some 425) (by decide +kernel), tAt_ok (p := some 76) (by decide +kernel), (fun h => by cases h), (fun _ => ⟨tAt_ok (p := some 423) (by decide +kernel), tAt_ok (p := some 424) (by decide +kernel)⟩)⟩
theorem ok_X1_addLaw : MOk 28 e_X1_addLaw := ⟨rfl, ⟨47, _, rfl, rg (by decide +kernel)⟩, rfl, by decide +kernel, by decide +kernel⟩
theorem ca_X1_addLaw : Cal e_X1_addLaw := ⟨by decide +kernel, ⟨by decide +kernel, by decide +kernel⟩, tAt_ok (p := some 459) (by decide +kernel), tAt_ok (p := some 76) (by decide +kernel), (fun h => by cases h), (fun _ => ⟨tAt_ok (p := some 457) (by decide +kernel), tAt_ok (p := some 458) (by decide +kernel)⟩)⟩
theorem ok_X1_valueAt : MOk 29 e_X1_valueAt := ⟨rfl, ⟨27, _, rfl, rg (by decide +kernel)⟩, rfl, by decide +kernel, by decide +kernel⟩
theorem ca_X1_valueAt : Cal e_X1_valueAt := ⟨by decide +kernel, ⟨by decide +kernel, by decide +kernel⟩, tAt_ok (p := some 389) (by decide +kernel), tAt_ok (p := some 76) (by decide +kernel), (fun h => by cases h), (fun _ => ⟨tAt_ok (p := some 387) (by decide +kernel), tAt_ok (p := some 388) (by decide +kernel)⟩)⟩
theorem ok_X1_put : MOk 30 e_X1_put := ⟨rfl, ⟨74, _, rfl, rg (by decide +kernel)⟩, rfl, by decide +kernel, by decide +kernel⟩
theorem ca_X1_put : Cal e_X1_put := ⟨by decide +kernel, ⟨by decide +kernel, by decide +kernel⟩, tAt_ok (p := some 393) (by decide +kernel), tAt_ok (p := some 76) (by decide +kernel), (fun h => by cases h), (fun _ => ⟨tAt_ok (p := some 391) (by decide +kernel), tAt_ok (p := some 392) (by decide +kernel)⟩)⟩
theorem ok_X1_differences : MOk 31 e_X1_differences := ⟨rfl, ⟨28, _, rfl, rg (by decide +kernel)⟩, rfl, by decide +kernel, by decide +kernel⟩
theorem ca_X1_differences : Cal e_X1_differences := ⟨by decide +kernel, ⟨by decide +kernel, by decide +kernel⟩, tAt_ok (p := some 405) (by decide +kernel), tAt_ok (p := some 76) (by decide +kernel), (fun h => by cases h), (fun _ => ⟨tAt_ok (p := some 403) (by decide +kernel), tAt_ok (p := some 404) (by decide +kernel)⟩)⟩
theorem ok_X1_isToldApartBy : MOk 32 e_X1_isToldApartBy := ⟨rfl, ⟨58, _, rfl, rg (by decide +kernel)⟩, rfl, by decide +kernel, by decide +kernel⟩
theorem ca_X1_isToldApartBy : Cal e_X1_isToldApartBy := ⟨by decide +kernel, ⟨by decide +kernel, by decide +kernel⟩, tAt_ok (p := some 668) (by decide +kernel), tAt_ok (p := some 76) (by decide +kernel), (fun h => by cases h), (fun _ => ⟨tAt_ok (p := some 666) (by decide +kernel), tAt_ok (p := some 667) (by decide +kernel)⟩)⟩
theorem ok_X1_timesPicked : MOk 33 e_X1_timesPicked := ⟨rfl, ⟨33, _, rfl, rg (by decide +kernel)⟩, rfl, by decide +kernel, by decide +kernel⟩
theorem ca_X1_timesPicked : Cal e_X1_timesPicked := ⟨by decide +kernel, ⟨by decide +kernel, by decide +kernel⟩, tAt_ok (p := some 359) (by decide +kernel), tAt_ok (p := some 76) (by decide +kernel), (fun h => by cases h), (fun _ => ⟨tAt_ok (p := some 357) (by decide +kernel), tAt_ok (p := some 358) (by decide +kernel)⟩)⟩
theorem ok_X1_eatenPlaces : MOk 34 e_X1_eatenPlaces := ⟨rfl, ⟨32, _, rfl, rg (by decide +kernel)⟩, rfl, by decide +kernel, by decide +kernel⟩
theorem ca_X1_eatenPlaces : Cal e_X1_eatenPlaces := ⟨by decide +kernel, ⟨by decide +kernel, by decide +kernel⟩, tAt_ok (p := some 920) (by decide +kernel), tAt_ok (p := some 76) (by decide +kernel), (fun h => by cases h), (fun _ => ⟨tAt_ok (p := some 918) (by decide +kernel), tAt_ok (p := some 919) (by decide +kernel)⟩)⟩
theorem ok_X1_lawsInForce : MOk 35 e_X1_lawsInForce := ⟨rfl, ⟨29, _, rfl, rg (by decide +kernel)⟩, rfl, by decide +kernel, by decide +kernel⟩
theorem ca_X1_lawsInForce : Cal e_X1_lawsInForce := ⟨by decide +kernel, ⟨by decide +kernel, by decide +kernel⟩, tAt_ok (p := some 925) (by decide +kernel), tAt_ok (p := some 76) (by decide +kernel), (fun h => by cases h), (fun _ => ⟨tAt_ok (p := some 923) (by decide +kernel), tAt_ok (p := some 924) (by decide +kernel)⟩)⟩
theorem ok_X2_search : MOk 36 e_X2_search := ⟨rfl, ⟨85, _, rfl, rg (by decide +kernel)⟩, rfl, by decide +kernel, by decide +kernel⟩
theorem ca_X2_search : Cal e_X2_search := ⟨by decide +kernel, ⟨by decide +kernel, by decide +kernel⟩, tAt_ok (p := some 613) (by decide +kernel), tAt_ok (p := some 79) (by decide +kernel), (fun h => by cases h), (fun _ => ⟨tAt_ok (p := some 611) (by decide +kernel), tAt_ok (p := some 612) (by decide +kernel)⟩)⟩
theorem ok_X2_begin : MOk 37 e_X2_begin := ⟨rfl, ⟨63, _, rfl, rg (by decide +kernel)⟩, rfl, by decide +kernel, by decide +kernel⟩
theorem ca_X2_begin : Cal e_X2_begin := ⟨by decide +kernel, ⟨by decide +kernel, by decide +kernel⟩, tAt_ok (p := some 617) (by decide +kernel), tAt_ok (p := some 79) (by decide +kernel), (fun h => by cases h), (fun _ => ⟨tAt_ok (p := some 616) (by decide +kernel), tAt_ok (p := some 10) (by decide +kernel)⟩)⟩
theorem ok_X2_tally : MOk 38 e_X2_tally := ⟨rfl, ⟨36, _, rfl, rg (by decide +kernel)⟩, rfl, by decide +kernel, by decide +kernel⟩
theorem ca_X2_tally : Cal e_X2_tally := ⟨by decide +kernel, ⟨by decide +kernel, by decide +kernel⟩, tAt_ok (p := some 624) (by decide +kernel), tAt_ok (p := some 79) (by decide +kernel), (fun h => by cases h), (fun _ => ⟨tAt_ok (p := some 623) (by decide +kernel), tAt_ok (p := some 11) (by decide +kernel)⟩)⟩
theorem ok_X2_advance : MOk 39 e_X2_advance := ⟨rfl, ⟨113, _, rfl, rg (by decide +kernel)⟩, rfl, by decide +kernel, by decide +kernel⟩
theorem ca_X2_advance : Cal e_X2_advance := ⟨by decide +kernel, ⟨by decide +kernel, by decide +kernel⟩, tAt_ok (p := some 631) (by decide +kernel), tAt_ok (p := some 79) (by decide +kernel), (fun h => by cases h), (fun _ => ⟨tAt_ok (p := some 630) (by decide +kernel), tAt_ok (p := some 12) (by decide +kernel)⟩)⟩
theorem ok_X2_swap : MOk 40 e_X2_swap := ⟨rfl, ⟨27, _, rfl, rg (by decide +kernel)⟩, rfl, by decide +kernel, by decide +kernel⟩
theorem ca_X2_swap : Cal e_X2_swap := ⟨by decide +kernel, ⟨by decide +kernel, by decide +kernel⟩, tAt_ok (p := some 635) (by decide +kernel), tAt_ok (p := some 79) (by decide +kernel), (fun h => by cases h), (fun _ => ⟨tAt_ok (p := some 634) (by decide +kernel), tAt_ok (p := some 13) (by decide +kernel)⟩)⟩
theorem ok_X3_begin : MOk 41 e_X3_begin := ⟨rfl, ⟨39, _, rfl, rg (by decide +kernel)⟩, rfl, by decide +kernel, by decide +kernel⟩
theorem ca_X3_begin : Cal e_X3_begin := ⟨by decide +kernel, ⟨by decide +kernel, by decide +kernel⟩, tAt_ok (p := some 823) (by decide +kernel), tAt_ok (p := some 81) (by decide +kernel), (fun h => by cases h), (fun _ => ⟨tAt_ok (p := some 821) (by decide +kernel), tAt_ok (p := some 822) (by decide +kernel)⟩)⟩
theorem ok_X3_isMissing : MOk 42 e_X3_isMissing := ⟨rfl, ⟨13, _, rfl, rg (by decide +kernel)⟩, rfl, by decide +kernel, by decide +kernel⟩
theorem ca_X3_isMissing : Cal e_X3_isMissing := ⟨by decide +kernel, ⟨by decide +kernel, by decide +kernel⟩, tAt_ok (p := some 840) (by decide +kernel), tAt_ok (p := some 81) (by decide +kernel), (fun h => by cases h), (fun _ => ⟨tAt_ok (p := some 838) (by decide +kernel), tAt_ok (p := some 839) (by decide +kernel)⟩)⟩
theorem ok_X3_hasRange : MOk 43 e_X3_hasRange := ⟨rfl, ⟨32, _, rfl, rg (by decide +kernel)⟩, rfl, by decide +kernel, by decide +kernel⟩
theorem ca_X3_hasRange : Cal e_X3_hasRange := ⟨by decide +kernel, ⟨by decide +kernel, by decide +kernel⟩, tAt_ok (p := some 853) (by decide +kernel), tAt_ok (p := some 81) (by decide +kernel), (fun h => by cases h), (fun _ => ⟨tAt_ok (p := some 851) (by decide +kernel), tAt_ok (p := some 852) (by decide +kernel)⟩)⟩
theorem ok_X3_put : MOk 44 e_X3_put := ⟨rfl, ⟨23, _, rfl, rg (by decide +kernel)⟩, rfl, by decide +kernel, by decide +kernel⟩
theorem ca_X3_put : Cal e_X3_put := ⟨by decide +kernel, ⟨by decide +kernel, by decide +kernel⟩, tAt_ok (p := some 845) (by decide +kernel), tAt_ok (p := some 81) (by decide +kernel), (fun h => by cases h), (fun _ => ⟨tAt_ok (p := some 843) (by decide +kernel), tAt_ok (p := some 844) (by decide +kernel)⟩)⟩
theorem ok_X3_threadsIn : MOk 45 e_X3_threadsIn := ⟨rfl, ⟨12, _, rfl, rg (by decide +kernel)⟩, rfl, by decide +kernel, by decide +kernel⟩
theorem ca_X3_threadsIn : Cal e_X3_threadsIn := ⟨by decide +kernel, ⟨by decide +kernel, by decide +kernel⟩, tAt_ok (p := some 867) (by decide +kernel), tAt_ok (p := some 81) (by decide +kernel), (fun h => by cases h), (fun _ => ⟨tAt_ok (p := some 865) (by decide +kernel), tAt_ok (p := some 866) (by decide +kernel)⟩)⟩
theorem ok_X4_addByte : MOk 46 e_X4_addByte := ⟨rfl, ⟨21, _, rfl, rg (by decide +kernel)⟩, rfl, by decide +kernel, by decide +kernel⟩
theorem ca_X4_addByte : Cal e_X4_addByte := ⟨by decide +kernel, ⟨by decide +kernel, by decide +kernel⟩, tAt_ok (p := some 689) (by decide +kernel), tAt_ok (p := some 80) (by decide +kernel), (fun h => by cases h), (fun _ => ⟨tAt_ok (p := some 687) (by decide +kernel), tAt_ok (p := some 688) (by decide +kernel)⟩)⟩
theorem ok_X4_readInto : MOk 47 e_X4_readInto := ⟨rfl, ⟨69, _, rfl, rg (by decide +kernel)⟩, rfl, by decide +kernel, by decide +kernel⟩
theorem ca_X4_readInto : Cal e_X4_readInto := ⟨by decide +kernel, ⟨by decide +kernel, by decide +kernel⟩, tAt_ok (p := some 707) (by decide +kernel), tAt_ok (p := some 80) (by decide +kernel), (fun h => by cases h), (fun _ => ⟨tAt_ok (p := some 705) (by decide +kernel), tAt_ok (p := some 706) (by decide +kernel)⟩)⟩
theorem ok_X4_readItem : MOk 48 e_X4_readItem := ⟨rfl, ⟨89, _, rfl, rg (by decide +kernel)⟩, rfl, by decide +kernel, by decide +kernel⟩
theorem ca_X4_readItem : Cal e_X4_readItem := ⟨by decide +kernel, ⟨by decide +kernel, by decide +kernel⟩, tAt_ok (p := some 723) (by decide +kernel), tAt_ok (p := some 80) (by decide +kernel), (fun h => by cases h), (fun _ => ⟨tAt_ok (p := some 722) (by decide +kernel), tAt_ok (p := some 16) (by decide +kernel)⟩)⟩
theorem ok_X4_readCard : MOk 49 e_X4_readCard := ⟨rfl, ⟨123, _, rfl, rg (by decide +kernel)⟩, rfl, by decide +kernel, by decide +kernel⟩
theorem ca_X4_readCard : Cal e_X4_readCard := ⟨by decide +kernel, ⟨by decide +kernel, by decide +kernel⟩, tAt_ok (p := some 780) (by decide +kernel), tAt_ok (p := some 80) (by decide +kernel), (fun h => by cases h), (fun _ => ⟨tAt_ok (p := some 779) (by decide +kernel), tAt_ok (p := some 18) (by decide +kernel)⟩)⟩
theorem ok_X4_readTie : MOk 50 e_X4_readTie := ⟨rfl, ⟨69, _, rfl, rg (by decide +kernel)⟩, rfl, by decide +kernel, by decide +kernel⟩
theorem ca_X4_readTie : Cal e_X4_readTie := ⟨by decide +kernel, ⟨by decide +kernel, by decide +kernel⟩, tAt_ok (p := some 786) (by decide +kernel), tAt_ok (p := some 80) (by decide +kernel), (fun h => by cases h), (fun _ => ⟨tAt_ok (p := some 785) (by decide +kernel), tAt_ok (p := some 19) (by decide +kernel)⟩)⟩
theorem ok_X4_readOrder : MOk 51 e_X4_readOrder := ⟨rfl, ⟨75, _, rfl, rg (by decide +kernel)⟩, rfl, by decide +kernel, by decide +kernel⟩
theorem ca_X4_readOrder : Cal e_X4_readOrder := ⟨by decide +kernel, ⟨by decide +kernel, by decide +kernel⟩, tAt_ok (p := some 793) (by decide +kernel), tAt_ok (p := some 80) (by decide +kernel), (fun h => by cases h), (fun _ => ⟨tAt_ok (p := some 792) (by decide +kernel), tAt_ok (p := some 20) (by decide +kernel)⟩)⟩
theorem ok_X4_readLaw : MOk 52 e_X4_readLaw := ⟨rfl, ⟨51, _, rfl, rg (by decide +kernel)⟩, rfl, by decide +kernel, by decide +kernel⟩
theorem ca_X4_readLaw : Cal e_X4_readLaw := ⟨by decide +kernel, ⟨by decide +kernel, by decide +kernel⟩, tAt_ok (p := some 809) (by decide +kernel), tAt_ok (p := some 80) (by decide +kernel), (fun h => by cases h), (fun _ => ⟨tAt_ok (p := some 808) (by decide +kernel), tAt_ok (p := some 21) (by decide +kernel)⟩)⟩
theorem ok_X4_nameOf : MOk 53 e_X4_nameOf := ⟨rfl, ⟨61, _, rfl, rg (by decide +kernel)⟩, rfl, by decide +kernel, by decide +kernel⟩
theorem ca_X4_nameOf : Cal e_X4_nameOf := ⟨by decide +kernel, ⟨by decide +kernel, by decide +kernel⟩, tAt_ok (p := some 798) (by decide +kernel), tAt_ok (p := some 80) (by decide +kernel), (fun _ => tAt_ok (p := some 797) (by decide +kernel)), (fun h => by cases h)⟩
theorem ok_X4_isWord : MOk 54 e_X4_isWord := ⟨rfl, ⟨57, _, rfl, rg (by decide +kernel)⟩, rfl, by decide +kernel, by decide +kernel⟩
theorem ca_X4_isWord : Cal e_X4_isWord := ⟨by decide +kernel, ⟨by decide +kernel, by decide +kernel⟩, tAt_ok (p := some 728) (by decide +kernel), tAt_ok (p := some 80) (by decide +kernel), (fun h => by cases h), (fun _ => ⟨tAt_ok (p := some 727) (by decide +kernel), tAt_ok (p := some 17) (by decide +kernel)⟩)⟩
theorem ok_X4_advance : MOk 55 e_X4_advance := ⟨rfl, ⟨168, _, rfl, rg (by decide +kernel)⟩, rfl, by decide +kernel, by decide +kernel⟩
theorem ca_X4_advance : Cal e_X4_advance := ⟨by decide +kernel, ⟨by decide +kernel, by decide +kernel⟩, tAt_ok (p := some 711) (by decide +kernel), tAt_ok (p := some 80) (by decide +kernel), (fun h => by cases h), (fun _ => ⟨tAt_ok (p := some 710) (by decide +kernel), tAt_ok (p := some 14) (by decide +kernel)⟩)⟩
theorem ok_X4_readNumber : MOk 56 e_X4_readNumber := ⟨rfl, ⟨67, _, rfl, rg (by decide +kernel)⟩, rfl, by decide +kernel, by decide +kernel⟩
theorem ca_X4_readNumber : Cal e_X4_readNumber := ⟨by decide +kernel, ⟨by decide +kernel, by decide +kernel⟩, tAt_ok (p := some 718) (by decide +kernel), tAt_ok (p := some 80) (by decide +kernel), (fun h => by cases h), (fun _ => ⟨tAt_ok (p := some 717) (by decide +kernel), tAt_ok (p := some 15) (by decide +kernel)⟩)⟩
theorem ok_X4_tokenBegunBy : MOk 57 e_X4_tokenBegunBy := ⟨rfl, ⟨60, _, rfl, rg (by decide +kernel)⟩, rfl, by decide +kernel, by decide +kernel⟩
theorem ca_X4_tokenBegunBy : Cal e_X4_tokenBegunBy := ⟨by decide +kernel, ⟨by decide +kernel, by decide +kernel⟩, tAt_ok (p := some 714) (by decide +kernel), tAt_ok (p := some 80) (by decide +kernel), (fun _ => tAt_ok (p := some 713) (by decide +kernel)), (fun h => by cases h)⟩
theorem ok_X5_gather : MOk 58 e_X5_gather := ⟨rfl, ⟨42, _, rfl, rg (by decide +kernel)⟩, rfl, by decide +kernel, by decide +kernel⟩
theorem ca_X5_gather : Cal e_X5_gather := ⟨by decide +kernel, ⟨by decide +kernel, by decide +kernel⟩, tAt_ok (p := some 541) (by decide +kernel), tAt_ok (p := some 78) (by decide +kernel), (fun h => by cases h), (fun _ => ⟨tAt_ok (p := some 539) (by decide +kernel), tAt_ok (p := some 540) (by decide +kernel)⟩)⟩
theorem ok_X5_gatherFrom : MOk 59 e_X5_gatherFrom := ⟨rfl, ⟨67, _, rfl, rg (by decide +kernel)⟩, rfl, by decide +kernel, by decide +kernel⟩
theorem ca_X5_gatherFrom : Cal e_X5_gatherFrom := ⟨by decide +kernel, ⟨by decide +kernel, by decide +kernel⟩, tAt_ok (p := some 546) (by decide +kernel), tAt_ok (p := some 78) (by decide +kernel), (fun h => by cases h), (fun _ => ⟨tAt_ok (p := some 545) (by decide +kernel), tAt_ok (p := some 6) (by decide +kernel)⟩)⟩
theorem ok_X5_search : MOk 60 e_X5_search := ⟨rfl, ⟨98, _, rfl, rg (by decide +kernel)⟩, rfl, by decide +kernel, by decide +kernel⟩
theorem ca_X5_search : Cal e_X5_search := ⟨by decide +kernel, ⟨by decide +kernel, by decide +kernel⟩, tAt_ok (p := some 552) (by decide +kernel), tAt_ok (p := some 78) (by decide +kernel), (fun h => by cases h), (fun _ => ⟨tAt_ok (p := some 550) (by decide +kernel), tAt_ok (p := some 551) (by decide +kernel)⟩)⟩
theorem ok_X5_turnOver : MOk 61 e_X5_turnOver := ⟨rfl, ⟨44, _, rfl, rg (by decide +kernel)⟩, rfl, by decide +kernel, by decide +kernel⟩
theorem ca_X5_turnOver : Cal e_X5_turnOver := ⟨by decide +kernel, ⟨by decide +kernel, by decide +kernel⟩, tAt_ok (p := some 557) (by decide +kernel), tAt_ok (p := some 78) (by decide +kernel), (fun h => by cases h), (fun _ => ⟨tAt_ok (p := some 556) (by decide +kernel), tAt_ok (p := some 7) (by decide +kernel)⟩)⟩
theorem ok_X5_tally : MOk 62 e_X5_tally := ⟨rfl, ⟨54, _, rfl, rg (by decide +kernel)⟩, rfl, by decide +kernel, by decide +kernel⟩
theorem ca_X5_tally : Cal e_X5_tally := ⟨by decide +kernel, ⟨by decide +kernel, by decide +kernel⟩, tAt_ok (p := some 566) (by decide +kernel), tAt_ok (p := some 78) (by decide +kernel), (fun h => by cases h), (fun _ => ⟨tAt_ok (p := some 565) (by decide +kernel), tAt_ok (p := some 8) (by decide +kernel)⟩)⟩
theorem ok_X5_placeOf : MOk 63 e_X5_placeOf := ⟨rfl, ⟨40, _, rfl, rg (by decide +kernel)⟩, rfl, by decide +kernel, by decide +kernel⟩
theorem ca_X5_placeOf : Cal e_X5_placeOf := ⟨by decide +kernel, ⟨by decide +kernel, by decide +kernel⟩, tAt_ok (p := some 575) (by decide +kernel), tAt_ok (p := some 78) (by decide +kernel), (fun h => by cases h), (fun _ => ⟨tAt_ok (p := some 573) (by decide +kernel), tAt_ok (p := some 574) (by decide +kernel)⟩)⟩
theorem ok_X5_inAll : MOk 64 e_X5_inAll := ⟨rfl, ⟨30, _, rfl, rg (by decide +kernel)⟩, rfl, by decide +kernel, by decide +kernel⟩
theorem ca_X5_inAll : Cal e_X5_inAll := ⟨by decide +kernel, ⟨by decide +kernel, by decide +kernel⟩, tAt_ok (p := some 579) (by decide +kernel), tAt_ok (p := some 78) (by decide +kernel), (fun h => by cases h), (fun _ => ⟨tAt_ok (p := some 577) (by decide +kernel), tAt_ok (p := some 578) (by decide +kernel)⟩)⟩
theorem ok_X5_fillInto : MOk 65 e_X5_fillInto := ⟨rfl, ⟨41, _, rfl, rg (by decide +kernel)⟩, rfl, by decide +kernel, by decide +kernel⟩
theorem ca_X5_fillInto : Cal e_X5_fillInto := ⟨by decide +kernel, ⟨by decide +kernel, by decide +kernel⟩, tAt_ok (p := some 587) (by decide +kernel), tAt_ok (p := some 78) (by decide +kernel), (fun h => by cases h), (fun _ => ⟨tAt_ok (p := some 585) (by decide +kernel), tAt_ok (p := some 586) (by decide +kernel)⟩)⟩
theorem ok_X5_mostTelling : MOk 66 e_X5_mostTelling := ⟨rfl, ⟨35, _, rfl, rg (by decide +kernel)⟩, rfl, by decide +kernel, by decide +kernel⟩
theorem ca_X5_mostTelling : Cal e_X5_mostTelling := ⟨by decide +kernel, ⟨by decide +kernel, by decide +kernel⟩, tAt_ok (p := some 596) (by decide +kernel), tAt_ok (p := some 78) (by decide +kernel), (fun h => by cases h), (fun _ => ⟨tAt_ok (p := some 594) (by decide +kernel), tAt_ok (p := some 595) (by decide +kernel)⟩)⟩
theorem ok_X5_leftAtWorse : MOk 67 e_X5_leftAtWorse := ⟨rfl, ⟨21, _, rfl, rg (by decide +kernel)⟩, rfl, by decide +kernel, by decide +kernel⟩
theorem ca_X5_leftAtWorse : Cal e_X5_leftAtWorse := ⟨by decide +kernel, ⟨by decide +kernel, by decide +kernel⟩, tAt_ok (p := some 600) (by decide +kernel), tAt_ok (p := some 78) (by decide +kernel), (fun h => by cases h), (fun _ => ⟨tAt_ok (p := some 599) (by decide +kernel), tAt_ok (p := some 9) (by decide +kernel)⟩)⟩
theorem ok_X6_card : MOk 68 e_X6_card := ⟨rfl, ⟨56, _, rfl, rg (by decide +kernel)⟩, rfl, by decide +kernel, by decide +kernel⟩
theorem ca_X6_card : Cal e_X6_card := ⟨by decide +kernel, ⟨by decide +kernel, by decide +kernel⟩, tAt_ok (p := some 328) (by decide +kernel), tAt_ok (p := some 75) (by decide +kernel), (fun h => by cases h), (fun _ => ⟨tAt_ok (p := some 326) (by decide +kernel), tAt_ok (p := some 327) (by decide +kernel)⟩)⟩
theorem ok_X6_of : MOk 69 e_X6_of := ⟨rfl, ⟨122, _, rfl, rg (by decide +kernel)⟩, rfl, by decide +kernel, by decide +kernel⟩
theorem ca_X6_of : Cal e_X6_of := ⟨by decide +kernel, ⟨by decide +kernel, by decide +kernel⟩, tAt_ok (p := some 345) (by decide +kernel), tAt_ok (p := some 75) (by decide +kernel), (fun h => by cases h), (fun _ => ⟨tAt_ok (p := some 343) (by decide +kernel), tAt_ok (p := some 344) (by decide +kernel)⟩)⟩
theorem ok_X6_punch : MOk 70 e_X6_punch := ⟨rfl, ⟨58, _, rfl, rg (by decide +kernel)⟩, rfl, by decide +kernel, by decide +kernel⟩
theorem ca_X6_punch : Cal e_X6_punch := ⟨by decide +kernel, ⟨by decide +kernel, by decide +kernel⟩, tAt_ok (p := some 382) (by decide +kernel), tAt_ok (p := some 75) (by decide +kernel), (fun h => by cases h), (fun _ => ⟨tAt_ok (p := some 380) (by decide +kernel), tAt_ok (p := some 381) (by decide +kernel)⟩)⟩
theorem ok_X6_at : MOk 71 e_X6_at := ⟨rfl, ⟨35, _, rfl, rg (by decide +kernel)⟩, rfl, by decide +kernel, by decide +kernel⟩
theorem ca_X6_at : Cal e_X6_at := ⟨by decide +kernel, ⟨by decide +kernel, by decide +kernel⟩, tAt_ok (p := some 397) (by decide +kernel), tAt_ok (p := some 75) (by decide +kernel), (fun h => by cases h), (fun _ => ⟨tAt_ok (p := some 395) (by decide +kernel), tAt_ok (p := some 396) (by decide +kernel)⟩)⟩
theorem ok_X6_twin : MOk 72 e_X6_twin := ⟨rfl, ⟨63, _, rfl, rg (by decide +kernel)⟩, rfl, by decide +kernel, by decide +kernel⟩
theorem ca_X6_twin : Cal e_X6_twin := ⟨by decide +kernel, ⟨by decide +kernel, by decide +kernel⟩, tAt_ok (p := some 401) (by decide +kernel), tAt_ok (p := some 75) (by decide +kernel), (fun h => by cases h), (fun _ => ⟨tAt_ok (p := some 399) (by decide +kernel), tAt_ok (p := some 400) (by decide +kernel)⟩)⟩
theorem ok_X6_tie : MOk 73 e_X6_tie := ⟨rfl, ⟨43, _, rfl, rg (by decide +kernel)⟩, rfl, by decide +kernel, by decide +kernel⟩
theorem ca_X6_tie : Cal e_X6_tie := ⟨by decide +kernel, ⟨by decide +kernel, by decide +kernel⟩, tAt_ok (p := some 410) (by decide +kernel), tAt_ok (p := some 75) (by decide +kernel), (fun h => by cases h), (fun _ => ⟨tAt_ok (p := some 408) (by decide +kernel), tAt_ok (p := some 409) (by decide +kernel)⟩)⟩
theorem ok_X6_tied : MOk 74 e_X6_tied := ⟨rfl, ⟨24, _, rfl, rg (by decide +kernel)⟩, rfl, by decide +kernel, by decide +kernel⟩
theorem ca_X6_tied : Cal e_X6_tied := ⟨by decide +kernel, ⟨by decide +kernel, by decide +kernel⟩, tAt_ok (p := some 417) (by decide +kernel), tAt_ok (p := some 75) (by decide +kernel), (fun h => by cases h), (fun _ => ⟨tAt_ok (p := some 415) (by decide +kernel), tAt_ok (p := some 416) (by decide +kernel)⟩)⟩
theorem ok_X6_pick : MOk 75 e_X6_pick := ⟨rfl, ⟨53, _, rfl, rg (by decide +kernel)⟩, rfl, by decide +kernel, by decide +kernel⟩
theorem ca_X6_pick : Cal e_X6_pick := ⟨by decide +kernel, ⟨by decide +kernel, by decide +kernel⟩, tAt_ok (p := some 421) (by decide +kernel), tAt_ok (p := some 75) (by decide +kernel), (fun h => by cases h), (fun _ => ⟨tAt_ok (p := some 419) (by decide +kernel), tAt_ok (p := some 420) (by decide +kernel)⟩)⟩
theorem ok_X6_drop : MOk 76 e_X6_drop := ⟨rfl, ⟨46, _, rfl, rg (by decide +kernel)⟩, rfl, by decide +kernel, by decide +kernel⟩
theorem ca_X6_drop : Cal e_X6_drop := ⟨by decide +kernel, ⟨by decide +kernel, by decide +kernel⟩, tAt_ok (p := some 429) (by decide +kernel), tAt_ok (p := some 75) (by decide +kernel), (fun h => by cases h), (fun _ => ⟨tAt_ok (p := some 427) (by decide +kernel), tAt_ok (p := some 428) (by decide +kernel)⟩)⟩
theorem ok_X6_woven : MOk 77 e_X6_woven := ⟨rfl, ⟨28, _, rfl, rg (by decide +kernel)⟩, rfl, by decide +kernel, by decide +kernel⟩
theorem ca_X6_woven : Cal e_X6_woven := ⟨by decide +kernel, ⟨by decide +kernel, by decide +kernel⟩, tAt_ok (p := some 433) (by decide +kernel), tAt_ok (p := some 75) (by decide +kernel), (fun h => by cases h), (fun _ => ⟨tAt_ok (p := some 431) (by decide +kernel), tAt_ok (p := some 432) (by decide +kernel)⟩)⟩
theorem ok_X6_row : MOk 78 e_X6_row := ⟨rfl, ⟨38, _, rfl, rg (by decide +kernel)⟩, rfl, by decide +kernel, by decide +kernel⟩
theorem ca_X6_row : Cal e_X6_row := ⟨by decide +kernel, ⟨by decide +kernel, by decide +kernel⟩, tAt_ok (p := some 441) (by decide +kernel), tAt_ok (p := some 75) (by decide +kernel), (fun h => by cases h), (fun _ => ⟨tAt_ok (p := some 439) (by decide +kernel), tAt_ok (p := some 440) (by decide +kernel)⟩)⟩
theorem ok_X6_law : MOk 79 e_X6_law := ⟨rfl, ⟨50, _, rfl, rg (by decide +kernel)⟩, rfl, by decide +kernel, by decide +kernel⟩
theorem ca_X6_law : Cal e_X6_law := ⟨by decide +kernel, ⟨by decide +kernel, by decide +kernel⟩, tAt_ok (p := some 449) (by decide +kernel), tAt_ok (p := some 75) (by decide +kernel), (fun h => by cases h), (fun _ => ⟨tAt_ok (p := some 447) (by decide +kernel), tAt_ok (p := some 448) (by decide +kernel)⟩)⟩
theorem ok_X6_lawOf : MOk 80 e_X6_lawOf := ⟨rfl, ⟨130, _, rfl, rg (by decide +kernel)⟩, rfl, by decide +kernel, by decide +kernel⟩
theorem ca_X6_lawOf : Cal e_X6_lawOf := ⟨by decide +kernel, ⟨by decide +kernel, by decide +kernel⟩, tAt_ok (p := some 463) (by decide +kernel), tAt_ok (p := some 75) (by decide +kernel), (fun h => by cases h), (fun _ => ⟨tAt_ok (p := some 461) (by decide +kernel), tAt_ok (p := some 462) (by decide +kernel)⟩)⟩
theorem ok_X6_set : MOk 81 e_X6_set := ⟨rfl, ⟨47, _, rfl, rg (by decide +kernel)⟩, rfl, by decide +kernel, by decide +kernel⟩
theorem ca_X6_set : Cal e_X6_set := ⟨by decide +kernel, ⟨by decide +kernel, by decide +kernel⟩, tAt_ok (p := some 504) (by decide +kernel), tAt_ok (p := some 75) (by decide +kernel), (fun h => by cases h), (fun _ => ⟨tAt_ok (p := some 502) (by decide +kernel), tAt_ok (p := some 503) (by decide +kernel)⟩)⟩
theorem ok_X6_force : MOk 82 e_X6_force := ⟨rfl, ⟨61, _, rfl, rg (by decide +kernel)⟩, rfl, by decide +kernel, by decide +kernel⟩
theorem ca_X6_force : Cal e_X6_force := ⟨by decide +kernel, ⟨by decide +kernel, by decide +kernel⟩, tAt_ok (p := some 508) (by decide +kernel), tAt_ok (p := some 75) (by decide +kernel), (fun h => by cases h), (fun _ => ⟨tAt_ok (p := some 506) (by decide +kernel), tAt_ok (p := some 507) (by decide +kernel)⟩)⟩
theorem ok_X6_as : MOk 83 e_X6_as := ⟨rfl, ⟨58, _, rfl, rg (by decide +kernel)⟩, rfl, by decide +kernel, by decide +kernel⟩
theorem ca_X6_as : Cal e_X6_as := ⟨by decide +kernel, ⟨by decide +kernel, by decide +kernel⟩, tAt_ok (p := some 512) (by decide +kernel), tAt_ok (p := some 75) (by decide +kernel), (fun h => by cases h), (fun _ => ⟨tAt_ok (p := some 510) (by decide +kernel), tAt_ok (p := some 511) (by decide +kernel)⟩)⟩
theorem ok_X6_broken : MOk 84 e_X6_broken := ⟨rfl, ⟨38, _, rfl, rg (by decide +kernel)⟩, rfl, by decide +kernel, by decide +kernel⟩
theorem ca_X6_broken : Cal e_X6_broken := ⟨by decide +kernel, ⟨by decide +kernel, by decide +kernel⟩, tAt_ok (p := some 522) (by decide +kernel), tAt_ok (p := some 75) (by decide +kernel), (fun h => by cases h), (fun _ => ⟨tAt_ok (p := some 520) (by decide +kernel), tAt_ok (p := some 521) (by decide +kernel)⟩)⟩
theorem ok_X6_floats : MOk 85 e_X6_floats := ⟨rfl, ⟨49, _, rfl, rg (by decide +kernel)⟩, rfl, by decide +kernel, by decide +kernel⟩
theorem ca_X6_floats : Cal e_X6_floats := ⟨by decide +kernel, ⟨by decide +kernel, by decide +kernel⟩, tAt_ok (p := some 531) (by decide +kernel), tAt_ok (p := some 75) (by decide +kernel), (fun h => by cases h), (fun _ => ⟨tAt_ok (p := some 529) (by decide +kernel), tAt_ok (p := some 530) (by decide +kernel)⟩)⟩
theorem ok_X6_ways : MOk 86 e_X6_ways := ⟨rfl, ⟨45, _, rfl, rg (by decide +kernel)⟩, rfl, by decide +kernel, by decide +kernel⟩
theorem ca_X6_ways : Cal e_X6_ways := ⟨by decide +kernel, ⟨by decide +kernel, by decide +kernel⟩, tAt_ok (p := some 537) (by decide +kernel), tAt_ok (p := some 75) (by decide +kernel), (fun h => by cases h), (fun _ => ⟨tAt_ok (p := some 535) (by decide +kernel), tAt_ok (p := some 536) (by decide +kernel)⟩)⟩
theorem ok_X6_sure : MOk 87 e_X6_sure := ⟨rfl, ⟨132, _, rfl, rg (by decide +kernel)⟩, rfl, by decide +kernel, by decide +kernel⟩
theorem ca_X6_sure : Cal e_X6_sure := ⟨by decide +kernel, ⟨by decide +kernel, by decide +kernel⟩, tAt_ok (p := some 570) (by decide +kernel), tAt_ok (p := some 75) (by decide +kernel), (fun h => by cases h), (fun _ => ⟨tAt_ok (p := some 568) (by decide +kernel), tAt_ok (p := some 569) (by decide +kernel)⟩)⟩
theorem ok_X6_fill : MOk 88 e_X6_fill := ⟨rfl, ⟨85, _, rfl, rg (by decide +kernel)⟩, rfl, by decide +kernel, by decide +kernel⟩
theorem ca_X6_fill : Cal e_X6_fill := ⟨by decide +kernel, ⟨by decide +kernel, by decide +kernel⟩, tAt_ok (p := some 583) (by decide +kernel), tAt_ok (p := some 75) (by decide +kernel), (fun h => by cases h), (fun _ => ⟨tAt_ok (p := some 581) (by decide +kernel), tAt_ok (p := some 582) (by decide +kernel)⟩)⟩
theorem ok_X6_ask : MOk 89 e_X6_ask := ⟨rfl, ⟨85, _, rfl, rg (by decide +kernel)⟩, rfl, by decide +kernel, by decide +kernel⟩
theorem ca_X6_ask : Cal e_X6_ask := ⟨by decide +kernel, ⟨by decide +kernel, by decide +kernel⟩, tAt_ok (p := some 592) (by decide +kernel), tAt_ok (p := some 75) (by decide +kernel), (fun h => by cases h), (fun _ => ⟨tAt_ok (p := some 590) (by decide +kernel), tAt_ok (p := some 591) (by decide +kernel)⟩)⟩
theorem ok_X6_orders : MOk 90 e_X6_orders := ⟨rfl, ⟨59, _, rfl, rg (by decide +kernel)⟩, rfl, by decide +kernel, by decide +kernel⟩
theorem ca_X6_orders : Cal e_X6_orders := ⟨by decide +kernel, ⟨by decide +kernel, by decide +kernel⟩, tAt_ok (p := some 605) (by decide +kernel), tAt_ok (p := some 75) (by decide +kernel), (fun h => by cases h), (fun _ => ⟨tAt_ok (p := some 603) (by decide +kernel), tAt_ok (p := some 604) (by decide +kernel)⟩)⟩
theorem ok_X6_lay : MOk 91 e_X6_lay := ⟨rfl, ⟨102, _, rfl, rg (by decide +kernel)⟩, rfl, by decide +kernel, by decide +kernel⟩
theorem ca_X6_lay : Cal e_X6_lay := ⟨by decide +kernel, ⟨by decide +kernel, by decide +kernel⟩, tAt_ok (p := some 639) (by decide +kernel), tAt_ok (p := some 75) (by decide +kernel), (fun h => by cases h), (fun _ => ⟨tAt_ok (p := some 637) (by decide +kernel), tAt_ok (p := some 638) (by decide +kernel)⟩)⟩
theorem ok_X6_repeat : MOk 92 e_X6_repeat := ⟨rfl, ⟨68, _, rfl, rg (by decide +kernel)⟩, rfl, by decide +kernel, by decide +kernel⟩
theorem ca_X6_repeat : Cal e_X6_repeat := ⟨by decide +kernel, ⟨by decide +kernel, by decide +kernel⟩, tAt_ok (p := some 648) (by decide +kernel), tAt_ok (p := some 75) (by decide +kernel), (fun h => by cases h), (fun _ => ⟨tAt_ok (p := some 646) (by decide +kernel), tAt_ok (p := some 647) (by decide +kernel)⟩)⟩
theorem ok_X6_unlike : MOk 93 e_X6_unlike := ⟨rfl, ⟨48, _, rfl, rg (by decide +kernel)⟩, rfl, by decide +kernel, by decide +kernel⟩
theorem ca_X6_unlike : Cal e_X6_unlike := ⟨by decide +kernel, ⟨by decide +kernel, by decide +kernel⟩, tAt_ok (p := some 656) (by decide +kernel), tAt_ok (p := some 75) (by decide +kernel), (fun h => by cases h), (fun _ => ⟨tAt_ok (p := some 654) (by decide +kernel), tAt_ok (p := some 655) (by decide +kernel)⟩)⟩
theorem ok_X6_tells : MOk 94 e_X6_tells := ⟨rfl, ⟨45, _, rfl, rg (by decide +kernel)⟩, rfl, by decide +kernel, by decide +kernel⟩
theorem ca_X6_tells : Cal e_X6_tells := ⟨by decide +kernel, ⟨by decide +kernel, by decide +kernel⟩, tAt_ok (p := some 664) (by decide +kernel), tAt_ok (p := some 75) (by decide +kernel), (fun h => by cases h), (fun _ => ⟨tAt_ok (p := some 662) (by decide +kernel), tAt_ok (p := some 663) (by decide +kernel)⟩)⟩
theorem ok_X6_thread : MOk 95 e_X6_thread := ⟨rfl, ⟨58, _, rfl, rg (by decide +kernel)⟩, rfl, by decide +kernel, by decide +kernel⟩
theorem ca_X6_thread : Cal e_X6_thread := ⟨by decide +kernel, ⟨by decide +kernel, by decide +kernel⟩, tAt_ok (p := some 673) (by decide +kernel), tAt_ok (p := some 75) (by decide +kernel), (fun h => by cases h), (fun _ => ⟨tAt_ok (p := some 671) (by decide +kernel), tAt_ok (p := some 672) (by decide +kernel)⟩)⟩
theorem ok_X6_feed : MOk 96 e_X6_feed := ⟨rfl, ⟨77, _, rfl, rg (by decide +kernel)⟩, rfl, by decide +kernel, by decide +kernel⟩
theorem ca_X6_feed : Cal e_X6_feed := ⟨by decide +kernel, ⟨by decide +kernel, by decide +kernel⟩, tAt_ok (p := some 685) (by decide +kernel), tAt_ok (p := some 75) (by decide +kernel), (fun h => by cases h), (fun _ => ⟨tAt_ok (p := some 683) (by decide +kernel), tAt_ok (p := some 684) (by decide +kernel)⟩)⟩
theorem ok_X6_wipe : MOk 97 e_X6_wipe := ⟨rfl, ⟨18, _, rfl, rg (by decide +kernel)⟩, rfl, by decide +kernel, by decide +kernel⟩
theorem ca_X6_wipe : Cal e_X6_wipe := ⟨by decide +kernel, ⟨by decide +kernel, by decide +kernel⟩, tAt_ok (p := some 693) (by decide +kernel), tAt_ok (p := some 75) (by decide +kernel), (fun h => by cases h), (fun _ => ⟨tAt_ok (p := some 691) (by decide +kernel), tAt_ok (p := some 692) (by decide +kernel)⟩)⟩
theorem ok_X6_loom : MOk 98 e_X6_loom := ⟨rfl, ⟨48, _, rfl, rg (by decide +kernel)⟩, rfl, by decide +kernel, by decide +kernel⟩
theorem ca_X6_loom : Cal e_X6_loom := ⟨by decide +kernel, ⟨by decide +kernel, by decide +kernel⟩, tAt_ok (p := some 697) (by decide +kernel), tAt_ok (p := some 75) (by decide +kernel), (fun h => by cases h), (fun _ => ⟨tAt_ok (p := some 695) (by decide +kernel), tAt_ok (p := some 696) (by decide +kernel)⟩)⟩
theorem ok_X6_sheet : MOk 99 e_X6_sheet := ⟨rfl, ⟨89, _, rfl, rg (by decide +kernel)⟩, rfl, by decide +kernel, by decide +kernel⟩
theorem ca_X6_sheet : Cal e_X6_sheet := ⟨by decide +kernel, ⟨by decide +kernel, by decide +kernel⟩, tAt_ok (p := some 816) (by decide +kernel), tAt_ok (p := some 75) (by decide +kernel), (fun h => by cases h), (fun _ => ⟨tAt_ok (p := some 814) (by decide +kernel), tAt_ok (p := some 815) (by decide +kernel)⟩)⟩
theorem ok_X6_write : MOk 100 e_X6_write := ⟨rfl, ⟨48, _, rfl, rg (by decide +kernel)⟩, rfl, by decide +kernel, by decide +kernel⟩
theorem ca_X6_write : Cal e_X6_write := ⟨by decide +kernel, ⟨by decide +kernel, by decide +kernel⟩, tAt_ok (p := some 828) (by decide +kernel), tAt_ok (p := some 75) (by decide +kernel), (fun h => by cases h), (fun _ => ⟨tAt_ok (p := some 826) (by decide +kernel), tAt_ok (p := some 827) (by decide +kernel)⟩)⟩
theorem ok_X6_copy : MOk 101 e_X6_copy := ⟨rfl, ⟨132, _, rfl, rg (by decide +kernel)⟩, rfl, by decide +kernel, by decide +kernel⟩
theorem ca_X6_copy : Cal e_X6_copy := ⟨by decide +kernel, ⟨by decide +kernel, by decide +kernel⟩, tAt_ok (p := some 849) (by decide +kernel), tAt_ok (p := some 75) (by decide +kernel), (fun h => by cases h), (fun _ => ⟨tAt_ok (p := some 847) (by decide +kernel), tAt_ok (p := some 848) (by decide +kernel)⟩)⟩
theorem ok_X6_draw : MOk 102 e_X6_draw := ⟨rfl, ⟨85, _, rfl, rg (by decide +kernel)⟩, rfl, by decide +kernel, by decide +kernel⟩
theorem ca_X6_draw : Cal e_X6_draw := ⟨by decide +kernel, ⟨by decide +kernel, by decide +kernel⟩, tAt_ok (p := some 858) (by decide +kernel), tAt_ok (p := some 75) (by decide +kernel), (fun h => by cases h), (fun _ => ⟨tAt_ok (p := some 856) (by decide +kernel), tAt_ok (p := some 857) (by decide +kernel)⟩)⟩
theorem ok_X6_read : MOk 103 e_X6_read := ⟨rfl, ⟨112, _, rfl, rg (by decide +kernel)⟩, rfl, by decide +kernel, by decide +kernel⟩
theorem ca_X6_read : Cal e_X6_read := ⟨by decide +kernel, ⟨by decide +kernel, by decide +kernel⟩, tAt_ok (p := some 863) (by decide +kernel), tAt_ok (p := some 75) (by decide +kernel), (fun h => by cases h), (fun _ => ⟨tAt_ok (p := some 861) (by decide +kernel), tAt_ok (p := some 862) (by decide +kernel)⟩)⟩
theorem ok_X6_whose : MOk 104 e_X6_whose := ⟨rfl, ⟨64, _, rfl, rg (by decide +kernel)⟩, rfl, by decide +kernel, by decide +kernel⟩
theorem ca_X6_whose : Cal e_X6_whose := ⟨by decide +kernel, ⟨by decide +kernel, by decide +kernel⟩, tAt_ok (p := some 872) (by decide +kernel), tAt_ok (p := some 75) (by decide +kernel), (fun h => by cases h), (fun _ => ⟨tAt_ok (p := some 870) (by decide +kernel), tAt_ok (p := some 871) (by decide +kernel)⟩)⟩
theorem ok_X6_nearest : MOk 105 e_X6_nearest := ⟨rfl, ⟨63, _, rfl, rg (by decide +kernel)⟩, rfl, by decide +kernel, by decide +kernel⟩
theorem ca_X6_nearest : Cal e_X6_nearest := ⟨by decide +kernel, ⟨by decide +kernel, by decide +kernel⟩, tAt_ok (p := some 880) (by decide +kernel), tAt_ok (p := some 75) (by decide +kernel), (fun h => by cases h), (fun _ => ⟨tAt_ok (p := some 878) (by decide +kernel), tAt_ok (p := some 879) (by decide +kernel)⟩)⟩
theorem ok_X6_crossings : MOk 106 e_X6_crossings := ⟨rfl, ⟨110, _, rfl, rg (by decide +kernel)⟩, rfl, by decide +kernel, by decide +kernel⟩
theorem ca_X6_crossings : Cal e_X6_crossings := ⟨by decide +kernel, ⟨by decide +kernel, by decide +kernel⟩, tAt_ok (p := some 888) (by decide +kernel), tAt_ok (p := some 75) (by decide +kernel), (fun h => by cases h), (fun _ => ⟨tAt_ok (p := some 886) (by decide +kernel), tAt_ok (p := some 887) (by decide +kernel)⟩)⟩
theorem ok_X6_mark : MOk 107 e_X6_mark := ⟨rfl, ⟨145, _, rfl, rg (by decide +kernel)⟩, rfl, by decide +kernel, by decide +kernel⟩
theorem ca_X6_mark : Cal e_X6_mark := ⟨by decide +kernel, ⟨by decide +kernel, by decide +kernel⟩, tAt_ok (p := some 892) (by decide +kernel), tAt_ok (p := some 75) (by decide +kernel), (fun h => by cases h), (fun _ => ⟨tAt_ok (p := some 890) (by decide +kernel), tAt_ok (p := some 891) (by decide +kernel)⟩)⟩
theorem ok_X6_order : MOk 108 e_X6_order := ⟨rfl, ⟨110, _, rfl, rg (by decide +kernel)⟩, rfl, by decide +kernel, by decide +kernel⟩
theorem ca_X6_order : Cal e_X6_order := ⟨by decide +kernel, ⟨by decide +kernel, by decide +kernel⟩, tAt_ok (p := some 900) (by decide +kernel), tAt_ok (p := some 75) (by decide +kernel), (fun h => by cases h), (fun _ => ⟨tAt_ok (p := some 898) (by decide +kernel), tAt_ok (p := some 899) (by decide +kernel)⟩)⟩
theorem ok_X6_image : MOk 109 e_X6_image := ⟨rfl, ⟨18, _, rfl, rg (by decide +kernel)⟩, rfl, by decide +kernel, by decide +kernel⟩
theorem ca_X6_image : Cal e_X6_image := ⟨by decide +kernel, ⟨by decide +kernel, by decide +kernel⟩, tAt_ok (p := some 904) (by decide +kernel), tAt_ok (p := some 75) (by decide +kernel), (fun h => by cases h), (fun _ => ⟨tAt_ok (p := some 902) (by decide +kernel), tAt_ok (p := some 903) (by decide +kernel)⟩)⟩
theorem ok_X6_undo : MOk 110 e_X6_undo := ⟨rfl, ⟨33, _, rfl, rg (by decide +kernel)⟩, rfl, by decide +kernel, by decide +kernel⟩
theorem ca_X6_undo : Cal e_X6_undo := ⟨by decide +kernel, ⟨by decide +kernel, by decide +kernel⟩, tAt_ok (p := some 908) (by decide +kernel), tAt_ok (p := some 75) (by decide +kernel), (fun h => by cases h), (fun _ => ⟨tAt_ok (p := some 906) (by decide +kernel), tAt_ok (p := some 907) (by decide +kernel)⟩)⟩
theorem ok_X6_tear : MOk 111 e_X6_tear := ⟨rfl, ⟨20, _, rfl, rg (by decide +kernel)⟩, rfl, by decide +kernel, by decide +kernel⟩
theorem ca_X6_tear : Cal e_X6_tear := ⟨by decide +kernel, ⟨by decide +kernel, by decide +kernel⟩, tAt_ok (p := some 912) (by decide +kernel), tAt_ok (p := some 75) (by decide +kernel), (fun h => by cases h), (fun _ => ⟨tAt_ok (p := some 910) (by decide +kernel), tAt_ok (p := some 911) (by decide +kernel)⟩)⟩
theorem ok_X6_count : MOk 112 e_X6_count := ⟨rfl, ⟨95, _, rfl, rg (by decide +kernel)⟩, rfl, by decide +kernel, by decide +kernel⟩
theorem ca_X6_count : Cal e_X6_count := ⟨by decide +kernel, ⟨by decide +kernel, by decide +kernel⟩, tAt_ok (p := some 916) (by decide +kernel), tAt_ok (p := some 75) (by decide +kernel), (fun h => by cases h), (fun _ => ⟨tAt_ok (p := some 914) (by decide +kernel), tAt_ok (p := some 915) (by decide +kernel)⟩)⟩
theorem ok_X6_status : MOk 113 e_X6_status := ⟨rfl, ⟨56, _, rfl, rg (by decide +kernel)⟩, rfl, by decide +kernel, by decide +kernel⟩
theorem ca_X6_status : Cal e_X6_status := ⟨by decide +kernel, ⟨by decide +kernel, by decide +kernel⟩, tAt_ok (p := some 929) (by decide +kernel), tAt_ok (p := some 75) (by decide +kernel), (fun h => by cases h), (fun _ => ⟨tAt_ok (p := some 927) (by decide +kernel), tAt_ok (p := some 928) (by decide +kernel)⟩)⟩
theorem ok_X6_refuse : MOk 114 e_X6_refuse := ⟨rfl, ⟨27, _, rfl, rg (by decide +kernel)⟩, rfl, by decide +kernel, by decide +kernel⟩
theorem ca_X6_refuse : Cal e_X6_refuse := ⟨by decide +kernel, ⟨by decide +kernel, by decide +kernel⟩, tAt_ok (p := some 336) (by decide +kernel), tAt_ok (p := some 75) (by decide +kernel), (fun h => by cases h), (fun _ => ⟨tAt_ok (p := some 335) (by decide +kernel), tAt_ok (p := some 0) (by decide +kernel)⟩)⟩
theorem ok_X6_sheetFinding : MOk 115 e_X6_sheetFinding := ⟨rfl, ⟨30, _, rfl, rg (by decide +kernel)⟩, rfl, by decide +kernel, by decide +kernel⟩
theorem ca_X6_sheetFinding : Cal e_X6_sheetFinding := ⟨by decide +kernel, ⟨by decide +kernel, by decide +kernel⟩, tAt_ok (p := some 836) (by decide +kernel), tAt_ok (p := some 75) (by decide +kernel), (fun h => by cases h), (fun _ => ⟨tAt_ok (p := some 835) (by decide +kernel), tAt_ok (p := some 23) (by decide +kernel)⟩)⟩
theorem ok_X6_numberFinding : MOk 116 e_X6_numberFinding := ⟨rfl, ⟨36, _, rfl, rg (by decide +kernel)⟩, rfl, by decide +kernel, by decide +kernel⟩
theorem ca_X6_numberFinding : Cal e_X6_numberFinding := ⟨by decide +kernel, ⟨by decide +kernel, by decide +kernel⟩, tAt_ok (p := some 832) (by decide +kernel), tAt_ok (p := some 75) (by decide +kernel), (fun h => by cases h), (fun _ => ⟨tAt_ok (p := some 831) (by decide +kernel), tAt_ok (p := some 22) (by decide +kernel)⟩)⟩
theorem ok_X6_isHook : MOk 117 e_X6_isHook := ⟨rfl, ⟨16, _, rfl, rg (by decide +kernel)⟩, rfl, by decide +kernel, by decide +kernel⟩
theorem ca_X6_isHook : Cal e_X6_isHook := ⟨by decide +kernel, ⟨by decide +kernel, by decide +kernel⟩, tAt_ok (p := some 385) (by decide +kernel), tAt_ok (p := some 75) (by decide +kernel), (fun _ => tAt_ok (p := some 384) (by decide +kernel)), (fun h => by cases h)⟩
theorem ok_X6_isHookSet : MOk 118 e_X6_isHookSet := ⟨rfl, ⟨17, _, rfl, rg (by decide +kernel)⟩, rfl, by decide +kernel, by decide +kernel⟩
theorem ca_X6_isHookSet : Cal e_X6_isHookSet := ⟨by decide +kernel, ⟨by decide +kernel, by decide +kernel⟩, tAt_ok (p := some 331) (by decide +kernel), tAt_ok (p := some 75) (by decide +kernel), (fun _ => tAt_ok (p := some 330) (by decide +kernel)), (fun h => by cases h)⟩
theorem ok_X6_isThread : MOk 119 e_X6_isThread := ⟨rfl, ⟨16, _, rfl, rg (by decide +kernel)⟩, rfl, by decide +kernel, by decide +kernel⟩
theorem ca_X6_isThread : Cal e_X6_isThread := ⟨by decide +kernel, ⟨by decide +kernel, by decide +kernel⟩, tAt_ok (p := some 413) (by decide +kernel), tAt_ok (p := some 75) (by decide +kernel), (fun _ => tAt_ok (p := some 412) (by decide +kernel)), (fun h => by cases h)⟩
theorem ok_X6_isKind : MOk 120 e_X6_isKind := ⟨rfl, ⟨16, _, rfl, rg (by decide +kernel)⟩, rfl, by decide +kernel, by decide +kernel⟩
theorem ca_X6_isKind : Cal e_X6_isKind := ⟨by decide +kernel, ⟨by decide +kernel, by decide +kernel⟩, tAt_ok (p := some 452) (by decide +kernel), tAt_ok (p := some 75) (by decide +kernel), (fun _ => tAt_ok (p := some 451) (by decide +kernel)), (fun h => by cases h)⟩
theorem ok_X6_isLimit : MOk 121 e_X6_isLimit := ⟨rfl, ⟨17, _, rfl, rg (by decide +kernel)⟩, rfl, by decide +kernel, by decide +kernel⟩
theorem ca_X6_isLimit : Cal e_X6_isLimit := ⟨by decide +kernel, ⟨by decide +kernel, by decide +kernel⟩, tAt_ok (p := some 455) (by decide +kernel), tAt_ok (p := some 75) (by decide +kernel), (fun _ => tAt_ok (p := some 454) (by decide +kernel)), (fun h => by cases h)⟩
theorem ok_X6_isSheet : MOk 122 e_X6_isSheet := ⟨rfl, ⟨15, _, rfl, rg (by decide +kernel)⟩, rfl, by decide +kernel, by decide +kernel⟩
theorem ca_X6_isSheet : Cal e_X6_isSheet := ⟨by decide +kernel, ⟨by decide +kernel, by decide +kernel⟩, tAt_ok (p := some 819) (by decide +kernel), tAt_ok (p := some 75) (by decide +kernel), (fun _ => tAt_ok (p := some 818) (by decide +kernel)), (fun h => by cases h)⟩
theorem ok_X6_isOrIsUnder : MOk 123 e_X6_isOrIsUnder := ⟨rfl, ⟨38, _, rfl, rg (by decide +kernel)⟩, rfl, by decide +kernel, by decide +kernel⟩
theorem ca_X6_isOrIsUnder : Cal e_X6_isOrIsUnder := ⟨by decide +kernel, ⟨by decide +kernel, by decide +kernel⟩, tAt_ok (p := some 515) (by decide +kernel), tAt_ok (p := some 75) (by decide +kernel), (fun _ => tAt_ok (p := some 514) (by decide +kernel)), (fun h => by cases h)⟩
theorem ok_X7_finds : MOk 124 e_X7_finds := ⟨rfl, ⟨15, _, rfl, rg (by decide +kernel)⟩, rfl, by decide +kernel, by decide +kernel⟩
theorem ca_X7_finds : Cal e_X7_finds := ⟨by decide +kernel, ⟨by decide +kernel, by decide +kernel⟩, tAt_ok (p := some 1014) (by decide +kernel), tAt_ok (p := some 82) (by decide +kernel), (fun h => by cases h), (fun _ => ⟨tAt_ok (p := some 1013) (by decide +kernel), tAt_ok (p := some 24) (by decide +kernel)⟩)⟩
theorem ok_X7_in : MOk 125 e_X7_in := ⟨rfl, ⟨19, _, rfl, rg (by decide +kernel)⟩, rfl, by decide +kernel, by decide +kernel⟩
theorem ca_X7_in : Cal e_X7_in := ⟨by decide +kernel, ⟨by decide +kernel, by decide +kernel⟩, tAt_ok (p := some 1010) (by decide +kernel), tAt_ok (p := some 82) (by decide +kernel), (fun _ => tAt_ok (p := some 1009) (by decide +kernel)), (fun h => by cases h)⟩
theorem ok_X7_copies : MOk 126 e_X7_copies := ⟨rfl, ⟨21, _, rfl, rg (by decide +kernel)⟩, rfl, by decide +kernel, by decide +kernel⟩
theorem ca_X7_copies : Cal e_X7_copies := ⟨by decide +kernel, ⟨by decide +kernel, by decide +kernel⟩, tAt_ok (p := some 1191) (by decide +kernel), tAt_ok (p := some 82) (by decide +kernel), (fun _ => tAt_ok (p := some 1190) (by decide +kernel)), (fun h => by cases h)⟩
theorem ok_X7_isCard : MOk 127 e_X7_isCard := ⟨rfl, ⟨16, _, rfl, rg (by decide +kernel)⟩, rfl, by decide +kernel, by decide +kernel⟩
theorem ca_X7_isCard : Cal e_X7_isCard := ⟨by decide +kernel, ⟨by decide +kernel, by decide +kernel⟩, tAt_ok (p := some 1027) (by decide +kernel), tAt_ok (p := some 82) (by decide +kernel), (fun h => by cases h), (fun _ => ⟨tAt_ok (p := some 1026) (by decide +kernel), tAt_ok (p := some 26) (by decide +kernel)⟩)⟩
theorem ok_X7_isLaw : MOk 128 e_X7_isLaw := ⟨rfl, ⟨16, _, rfl, rg (by decide +kernel)⟩, rfl, by decide +kernel, by decide +kernel⟩
theorem ca_X7_isLaw : Cal e_X7_isLaw := ⟨by decide +kernel, ⟨by decide +kernel, by decide +kernel⟩, tAt_ok (p := some 1116) (by decide +kernel), tAt_ok (p := some 82) (by decide +kernel), (fun h => by cases h), (fun _ => ⟨tAt_ok (p := some 1115) (by decide +kernel), tAt_ok (p := some 35) (by decide +kernel)⟩)⟩
theorem ok_X7_ones : MOk 129 e_X7_ones := ⟨rfl, ⟨26, _, rfl, rg (by decide +kernel)⟩, rfl, by decide +kernel, by decide +kernel⟩
theorem ca_X7_ones : Cal e_X7_ones := ⟨by decide +kernel, ⟨by decide +kernel, by decide +kernel⟩, tAt_ok (p := some 1031) (by decide +kernel), tAt_ok (p := some 82) (by decide +kernel), (fun _ => tAt_ok (p := some 1030) (by decide +kernel)), (fun h => by cases h)⟩
theorem ok_X7_comes : MOk 130 e_X7_comes := ⟨rfl, ⟨38, _, rfl, rg (by decide +kernel)⟩, rfl, by decide +kernel, by decide +kernel⟩
theorem ca_X7_comes : Cal e_X7_comes := ⟨by decide +kernel, ⟨by decide +kernel, by decide +kernel⟩, tAt_ok (p := some 1019) (by decide +kernel), tAt_ok (p := some 82) (by decide +kernel), (fun h => by cases h), (fun _ => ⟨tAt_ok (p := some 1018) (by decide +kernel), tAt_ok (p := some 25) (by decide +kernel)⟩)⟩
theorem ok_X7_card : MOk 131 e_X7_card := ⟨rfl, ⟨62, _, rfl, rg (by decide +kernel)⟩, rfl, by decide +kernel, by decide +kernel⟩
theorem ca_X7_card : Cal e_X7_card := ⟨by decide +kernel, ⟨by decide +kernel, by decide +kernel⟩, tAt_ok (p := some 1006) (by decide +kernel), tAt_ok (p := some 82) (by decide +kernel), (fun h => by cases h), (fun _ => ⟨tAt_ok (p := some 1004) (by decide +kernel), tAt_ok (p := some 1005) (by decide +kernel)⟩)⟩
theorem ok_X7_upBy : MOk 132 e_X7_upBy := ⟨rfl, ⟨36, _, rfl, rg (by decide +kernel)⟩, rfl, by decide +kernel, by decide +kernel⟩
theorem ca_X7_upBy : Cal e_X7_upBy := ⟨by decide +kernel, ⟨by decide +kernel, by decide +kernel⟩, tAt_ok (p := some 1039) (by decide +kernel), tAt_ok (p := some 82) (by decide +kernel), (fun h => by cases h), (fun _ => ⟨tAt_ok (p := some 1038) (by decide +kernel), tAt_ok (p := some 28) (by decide +kernel)⟩)⟩
theorem ok_X7_oftenIn : MOk 133 e_X7_oftenIn := ⟨rfl, ⟨43, _, rfl, rg (by decide +kernel)⟩, rfl, by decide +kernel, by decide +kernel⟩
theorem ca_X7_oftenIn : Cal e_X7_oftenIn := ⟨by decide +kernel, ⟨by decide +kernel, by decide +kernel⟩, tAt_ok (p := some 1035) (by decide +kernel), tAt_ok (p := some 82) (by decide +kernel), (fun h => by cases h), (fun _ => ⟨tAt_ok (p := some 1034) (by decide +kernel), tAt_ok (p := some 27) (by decide +kernel)⟩)⟩
theorem ok_X7_of : MOk 134 e_X7_of := ⟨rfl, ⟨106, _, rfl, rg (by decide +kernel)⟩, rfl, by decide +kernel, by decide +kernel⟩
theorem ca_X7_of : Cal e_X7_of := ⟨by decide +kernel, ⟨by decide +kernel, by decide +kernel⟩, tAt_ok (p := some 1023) (by decide +kernel), tAt_ok (p := some 82) (by decide +kernel), (fun h => by cases h), (fun _ => ⟨tAt_ok (p := some 1021) (by decide +kernel), tAt_ok (p := some 1022) (by decide +kernel)⟩)⟩
theorem ok_X7_hasAt : MOk 135 e_X7_hasAt := ⟨rfl, ⟨29, _, rfl, rg (by decide +kernel)⟩, rfl, by decide +kernel, by decide +kernel⟩
theorem ca_X7_hasAt : Cal e_X7_hasAt := ⟨by decide +kernel, ⟨by decide +kernel, by decide +kernel⟩, tAt_ok (p := some 1049) (by decide +kernel), tAt_ok (p := some 82) (by decide +kernel), (fun h => by cases h), (fun _ => ⟨tAt_ok (p := some 1048) (by decide +kernel), tAt_ok (p := some 29) (by decide +kernel)⟩)⟩
theorem ok_X7_punches : MOk 136 e_X7_punches := ⟨rfl, ⟨73, _, rfl, rg (by decide +kernel)⟩, rfl, by decide +kernel, by decide +kernel⟩
theorem ca_X7_punches : Cal e_X7_punches := ⟨by decide +kernel, ⟨by decide +kernel, by decide +kernel⟩, tAt_ok (p := some 1053) (by decide +kernel), tAt_ok (p := some 82) (by decide +kernel), (fun h => by cases h), (fun _ => ⟨tAt_ok (p := some 1052) (by decide +kernel), tAt_ok (p := some 30) (by decide +kernel)⟩)⟩
theorem ok_X7_punch : MOk 137 e_X7_punch := ⟨rfl, ⟨56, _, rfl, rg (by decide +kernel)⟩, rfl, by decide +kernel, by decide +kernel⟩
theorem ca_X7_punch : Cal e_X7_punch := ⟨by decide +kernel, ⟨by decide +kernel, by decide +kernel⟩, tAt_ok (p := some 1043) (by decide +kernel), tAt_ok (p := some 82) (by decide +kernel), (fun h => by cases h), (fun _ => ⟨tAt_ok (p := some 1041) (by decide +kernel), tAt_ok (p := some 1042) (by decide +kernel)⟩)⟩
theorem ok_X7_at : MOk 138 e_X7_at := ⟨rfl, ⟨35, _, rfl, rg (by decide +kernel)⟩, rfl, by decide +kernel, by decide +kernel⟩
theorem ca_X7_at : Cal e_X7_at := ⟨by decide +kernel, ⟨by decide +kernel, by decide +kernel⟩, tAt_ok (p := some 1057) (by decide +kernel), tAt_ok (p := some 82) (by decide +kernel), (fun h => by cases h), (fun _ => ⟨tAt_ok (p := some 1055) (by decide +kernel), tAt_ok (p := some 1056) (by decide +kernel)⟩)⟩
theorem ok_X7_twin : MOk 139 e_X7_twin := ⟨rfl, ⟨85, _, rfl, rg (by decide +kernel)⟩, rfl, by decide +kernel, by decide +kernel⟩
theorem ca_X7_twin : Cal e_X7_twin := ⟨by decide +kernel, ⟨by decide +kernel, by decide +kernel⟩, tAt_ok (p := some 1061) (by decide +kernel), tAt_ok (p := some 82) (by decide +kernel), (fun h => by cases h), (fun _ => ⟨tAt_ok (p := some 1059) (by decide +kernel), tAt_ok (p := some 1060) (by decide +kernel)⟩)⟩
theorem ok_X7_tie : MOk 140 e_X7_tie := ⟨rfl, ⟨52, _, rfl, rg (by decide +kernel)⟩, rfl, by decide +kernel, by decide +kernel⟩
theorem ca_X7_tie : Cal e_X7_tie := ⟨by decide +kernel, ⟨by decide +kernel, by decide +kernel⟩, tAt_ok (p := some 1065) (by decide +kernel), tAt_ok (p := some 82) (by decide +kernel), (fun h => by cases h), (fun _ => ⟨tAt_ok (p := some 1063) (by decide +kernel), tAt_ok (p := some 1064) (by decide +kernel)⟩)⟩
theorem ok_X7_tied : MOk 141 e_X7_tied := ⟨rfl, ⟨30, _, rfl, rg (by decide +kernel)⟩, rfl, by decide +kernel, by decide +kernel⟩
theorem ca_X7_tied : Cal e_X7_tied := ⟨by decide +kernel, ⟨by decide +kernel, by decide +kernel⟩, tAt_ok (p := some 1070) (by decide +kernel), tAt_ok (p := some 82) (by decide +kernel), (fun h => by cases h), (fun _ => ⟨tAt_ok (p := some 1068) (by decide +kernel), tAt_ok (p := some 1069) (by decide +kernel)⟩)⟩
theorem ok_X7_pick : MOk 142 e_X7_pick := ⟨rfl, ⟨63, _, rfl, rg (by decide +kernel)⟩, rfl, by decide +kernel, by decide +kernel⟩
theorem ca_X7_pick : Cal e_X7_pick := ⟨by decide +kernel, ⟨by decide +kernel, by decide +kernel⟩, tAt_ok (p := some 1074) (by decide +kernel), tAt_ok (p := some 82) (by decide +kernel), (fun h => by cases h), (fun _ => ⟨tAt_ok (p := some 1072) (by decide +kernel), tAt_ok (p := some 1073) (by decide +kernel)⟩)⟩
theorem ok_X7_drop : MOk 143 e_X7_drop := ⟨rfl, ⟨40, _, rfl, rg (by decide +kernel)⟩, rfl, by decide +kernel, by decide +kernel⟩
theorem ca_X7_drop : Cal e_X7_drop := ⟨by decide +kernel, ⟨by decide +kernel, by decide +kernel⟩, tAt_ok (p := some 1078) (by decide +kernel), tAt_ok (p := some 82) (by decide +kernel), (fun h => by cases h), (fun _ => ⟨tAt_ok (p := some 1076) (by decide +kernel), tAt_ok (p := some 1077) (by decide +kernel)⟩)⟩
theorem ok_X7_isRow : MOk 144 e_X7_isRow := ⟨rfl, ⟨16, _, rfl, rg (by decide +kernel)⟩, rfl, by decide +kernel, by decide +kernel⟩
theorem ca_X7_isRow : Cal e_X7_isRow := ⟨by decide +kernel, ⟨by decide +kernel, by decide +kernel⟩, tAt_ok (p := some 1086) (by decide +kernel), tAt_ok (p := some 82) (by decide +kernel), (fun h => by cases h), (fun _ => ⟨tAt_ok (p := some 1085) (by decide +kernel), tAt_ok (p := some 31) (by decide +kernel)⟩)⟩
theorem ok_X7_woven : MOk 145 e_X7_woven := ⟨rfl, ⟨26, _, rfl, rg (by decide +kernel)⟩, rfl, by decide +kernel, by decide +kernel⟩
theorem ca_X7_woven : Cal e_X7_woven := ⟨by decide +kernel, ⟨by decide +kernel, by decide +kernel⟩, tAt_ok (p := some 1082) (by decide +kernel), tAt_ok (p := some 82) (by decide +kernel), (fun h => by cases h), (fun _ => ⟨tAt_ok (p := some 1080) (by decide +kernel), tAt_ok (p := some 1081) (by decide +kernel)⟩)⟩
theorem ok_X7_holesOf : MOk 146 e_X7_holesOf := ⟨rfl, ⟨17, _, rfl, rg (by decide +kernel)⟩, rfl, by decide +kernel, by decide +kernel⟩
theorem ca_X7_holesOf : Cal e_X7_holesOf := ⟨by decide +kernel, ⟨by decide +kernel, by decide +kernel⟩, tAt_ok (p := some 1098) (by decide +kernel), tAt_ok (p := some 82) (by decide +kernel), (fun h => by cases h), (fun _ => ⟨tAt_ok (p := some 1097) (by decide +kernel), tAt_ok (p := some 33) (by decide +kernel)⟩)⟩
theorem ok_X7_rowOf : MOk 147 e_X7_rowOf := ⟨rfl, ⟨10, _, rfl, rg (by decide +kernel)⟩, rfl, by decide +kernel, by decide +kernel⟩
theorem ca_X7_rowOf : Cal e_X7_rowOf := ⟨by decide +kernel, ⟨by decide +kernel, by decide +kernel⟩, tAt_ok (p := some 1094) (by decide +kernel), tAt_ok (p := some 82) (by decide +kernel), (fun h => by cases h), (fun _ => ⟨tAt_ok (p := some 1093) (by decide +kernel), tAt_ok (p := some 32) (by decide +kernel)⟩)⟩
theorem ok_X7_row : MOk 148 e_X7_row := ⟨rfl, ⟨22, _, rfl, rg (by decide +kernel)⟩, rfl, by decide +kernel, by decide +kernel⟩
theorem ca_X7_row : Cal e_X7_row := ⟨by decide +kernel, ⟨by decide +kernel, by decide +kernel⟩, tAt_ok (p := some 1090) (by decide +kernel), tAt_ok (p := some 82) (by decide +kernel), (fun h => by cases h), (fun _ => ⟨tAt_ok (p := some 1088) (by decide +kernel), tAt_ok (p := some 1089) (by decide +kernel)⟩)⟩
theorem ok_X7_law : MOk 149 e_X7_law := ⟨rfl, ⟨56, _, rfl, rg (by decide +kernel)⟩, rfl, by decide +kernel, by decide +kernel⟩
theorem ca_X7_law : Cal e_X7_law := ⟨by decide +kernel, ⟨by decide +kernel, by decide +kernel⟩, tAt_ok (p := some 1102) (by decide +kernel), tAt_ok (p := some 82) (by decide +kernel), (fun h => by cases h), (fun _ => ⟨tAt_ok (p := some 1100) (by decide +kernel), tAt_ok (p := some 1101) (by decide +kernel)⟩)⟩
theorem ok_X7_lawComes : MOk 150 e_X7_lawComes := ⟨rfl, ⟨49, _, rfl, rg (by decide +kernel)⟩, rfl, by decide +kernel, by decide +kernel⟩
theorem ca_X7_lawComes : Cal e_X7_lawComes := ⟨by decide +kernel, ⟨by decide +kernel, by decide +kernel⟩, tAt_ok (p := some 1108) (by decide +kernel), tAt_ok (p := some 82) (by decide +kernel), (fun h => by cases h), (fun _ => ⟨tAt_ok (p := some 1107) (by decide +kernel), tAt_ok (p := some 34) (by decide +kernel)⟩)⟩
theorem ok_X7_weaves : MOk 151 e_X7_weaves := ⟨rfl, ⟨30, _, rfl, rg (by decide +kernel)⟩, rfl, by decide +kernel, by decide +kernel⟩
theorem ca_X7_weaves : Cal e_X7_weaves := ⟨by decide +kernel, ⟨by decide +kernel, by decide +kernel⟩, tAt_ok (p := some 1121) (by decide +kernel), tAt_ok (p := some 82) (by decide +kernel), (fun h => by cases h), (fun _ => ⟨tAt_ok (p := some 1120) (by decide +kernel), tAt_ok (p := some 36) (by decide +kernel)⟩)⟩
theorem ok_X7_hasFew : MOk 152 e_X7_hasFew := ⟨rfl, ⟨35, _, rfl, rg (by decide +kernel)⟩, rfl, by decide +kernel, by decide +kernel⟩
theorem ca_X7_hasFew : Cal e_X7_hasFew := ⟨by decide +kernel, ⟨by decide +kernel, by decide +kernel⟩, tAt_ok (p := some 1129) (by decide +kernel), tAt_ok (p := some 82) (by decide +kernel), (fun h => by cases h), (fun _ => ⟨tAt_ok (p := some 1128) (by decide +kernel), tAt_ok (p := some 38) (by decide +kernel)⟩)⟩
theorem ok_X7_isEven : MOk 153 e_X7_isEven := ⟨rfl, ⟨37, _, rfl, rg (by decide +kernel)⟩, rfl, by decide +kernel, by decide +kernel⟩
theorem ca_X7_isEven : Cal e_X7_isEven := ⟨by decide +kernel, ⟨by decide +kernel, by decide +kernel⟩, tAt_ok (p := some 1133) (by decide +kernel), tAt_ok (p := some 82) (by decide +kernel), (fun h => by cases h), (fun _ => ⟨tAt_ok (p := some 1132) (by decide +kernel), tAt_ok (p := some 39) (by decide +kernel)⟩)⟩
theorem ok_X7_longest : MOk 154 e_X7_longest := ⟨rfl, ⟨91, _, rfl, rg (by decide +kernel)⟩, rfl, by decide +kernel, by decide +kernel⟩
theorem ca_X7_longest : Cal e_X7_longest := ⟨by decide +kernel, ⟨by decide +kernel, by decide +kernel⟩, tAt_ok (p := some 1137) (by decide +kernel), tAt_ok (p := some 82) (by decide +kernel), (fun h => by cases h), (fun _ => ⟨tAt_ok (p := some 1136) (by decide +kernel), tAt_ok (p := some 40) (by decide +kernel)⟩)⟩
theorem ok_X7_tightest : MOk 155 e_X7_tightest := ⟨rfl, ⟨91, _, rfl, rg (by decide +kernel)⟩, rfl, by decide +kernel, by decide +kernel⟩
theorem ca_X7_tightest : Cal e_X7_tightest := ⟨by decide +kernel, ⟨by decide +kernel, by decide +kernel⟩, tAt_ok (p := some 1145) (by decide +kernel), tAt_ok (p := some 82) (by decide +kernel), (fun h => by cases h), (fun _ => ⟨tAt_ok (p := some 1144) (by decide +kernel), tAt_ok (p := some 42) (by decide +kernel)⟩)⟩
theorem ok_X7_steps : MOk 156 e_X7_steps := ⟨rfl, ⟨50, _, rfl, rg (by decide +kernel)⟩, rfl, by decide +kernel, by decide +kernel⟩
theorem ca_X7_steps : Cal e_X7_steps := ⟨by decide +kernel, ⟨by decide +kernel, by decide +kernel⟩, tAt_ok (p := some 1141) (by decide +kernel), tAt_ok (p := some 82) (by decide +kernel), (fun h => by cases h), (fun _ => ⟨tAt_ok (p := some 1140) (by decide +kernel), tAt_ok (p := some 41) (by decide +kernel)⟩)⟩
theorem ok_X7_isTurned : MOk 157 e_X7_isTurned := ⟨rfl, ⟨46, _, rfl, rg (by decide +kernel)⟩, rfl, by decide +kernel, by decide +kernel⟩
theorem ca_X7_isTurned : Cal e_X7_isTurned := ⟨by decide +kernel, ⟨by decide +kernel, by decide +kernel⟩, tAt_ok (p := some 1149) (by decide +kernel), tAt_ok (p := some 82) (by decide +kernel), (fun h => by cases h), (fun _ => ⟨tAt_ok (p := some 1148) (by decide +kernel), tAt_ok (p := some 43) (by decide +kernel)⟩)⟩
theorem ok_X7_isKeptBy : MOk 158 e_X7_isKeptBy := ⟨rfl, ⟨178, _, rfl, rg (by decide +kernel)⟩, rfl, by decide +kernel, by decide +kernel⟩
theorem ca_X7_isKeptBy : Cal e_X7_isKeptBy := ⟨by decide +kernel, ⟨by decide +kernel, by decide +kernel⟩, tAt_ok (p := some 1125) (by decide +kernel), tAt_ok (p := some 82) (by decide +kernel), (fun h => by cases h), (fun _ => ⟨tAt_ok (p := some 1124) (by decide +kernel), tAt_ok (p := some 37) (by decide +kernel)⟩)⟩
theorem ok_X7_firstBroken : MOk 159 e_X7_firstBroken := ⟨rfl, ⟨47, _, rfl, rg (by decide +kernel)⟩, rfl, by decide +kernel, by decide +kernel⟩
theorem ca_X7_firstBroken : Cal e_X7_firstBroken := ⟨by decide +kernel, ⟨by decide +kernel, by decide +kernel⟩, tAt_ok (p := some 1172) (by decide +kernel), tAt_ok (p := some 82) (by decide +kernel), (fun h => by cases h), (fun _ => ⟨tAt_ok (p := some 1171) (by decide +kernel), tAt_ok (p := some 44) (by decide +kernel)⟩)⟩
theorem ok_X7_lawOf : MOk 160 e_X7_lawOf := ⟨rfl, ⟨94, _, rfl, rg (by decide +kernel)⟩, rfl, by decide +kernel, by decide +kernel⟩
theorem ca_X7_lawOf : Cal e_X7_lawOf := ⟨by decide +kernel, ⟨by decide +kernel, by decide +kernel⟩, tAt_ok (p := some 1112) (by decide +kernel), tAt_ok (p := some 82) (by decide +kernel), (fun h => by cases h), (fun _ => ⟨tAt_ok (p := some 1110) (by decide +kernel), tAt_ok (p := some 1111) (by decide +kernel)⟩)⟩
theorem ok_X7_set : MOk 161 e_X7_set := ⟨rfl, ⟨48, _, rfl, rg (by decide +kernel)⟩, rfl, by decide +kernel, by decide +kernel⟩
theorem ca_X7_set : Cal e_X7_set := ⟨by decide +kernel, ⟨by decide +kernel, by decide +kernel⟩, tAt_ok (p := some 1153) (by decide +kernel), tAt_ok (p := some 82) (by decide +kernel), (fun h => by cases h), (fun _ => ⟨tAt_ok (p := some 1151) (by decide +kernel), tAt_ok (p := some 1152) (by decide +kernel)⟩)⟩
theorem ok_X7_force : MOk 162 e_X7_force := ⟨rfl, ⟨61, _, rfl, rg (by decide +kernel)⟩, rfl, by decide +kernel, by decide +kernel⟩
theorem ca_X7_force : Cal e_X7_force := ⟨by decide +kernel, ⟨by decide +kernel, by decide +kernel⟩, tAt_ok (p := some 1157) (by decide +kernel), tAt_ok (p := some 82) (by decide +kernel), (fun h => by cases h), (fun _ => ⟨tAt_ok (p := some 1155) (by decide +kernel), tAt_ok (p := some 1156) (by decide +kernel)⟩)⟩
theorem ok_X7_isOf : MOk 163 e_X7_isOf := ⟨rfl, ⟨50, _, rfl, rg (by decide +kernel)⟩, rfl, by decide +kernel, by decide +kernel⟩
theorem ca_X7_isOf : Cal e_X7_isOf := ⟨by decide +kernel, ⟨by decide +kernel, by decide +kernel⟩, tAt_ok (p := some 1164) (by decide +kernel), tAt_ok (p := some 82) (by decide +kernel), (fun _ => tAt_ok (p := some 1163) (by decide +kernel)), (fun h => by cases h)⟩
theorem ok_X7_as : MOk 164 e_X7_as := ⟨rfl, ⟨60, _, rfl, rg (by decide +kernel)⟩, rfl, by decide +kernel, by decide +kernel⟩
theorem ca_X7_as : Cal e_X7_as := ⟨by decide +kernel, ⟨by decide +kernel, by decide +kernel⟩, tAt_ok (p := some 1161) (by decide +kernel), tAt_ok (p := some 82) (by decide +kernel), (fun h => by cases h), (fun _ => ⟨tAt_ok (p := some 1159) (by decide +kernel), tAt_ok (p := some 1160) (by decide +kernel)⟩)⟩
theorem ok_X7_broken : MOk 165 e_X7_broken := ⟨rfl, ⟨19, _, rfl, rg (by decide +kernel)⟩, rfl, by decide +kernel, by decide +kernel⟩
theorem ca_X7_broken : Cal e_X7_broken := ⟨by decide +kernel, ⟨by decide +kernel, by decide +kernel⟩, tAt_ok (p := some 1168) (by decide +kernel), tAt_ok (p := some 82) (by decide +kernel), (fun h => by cases h), (fun _ => ⟨tAt_ok (p := some 1166) (by decide +kernel), tAt_ok (p := some 1167) (by decide +kernel)⟩)⟩
theorem ok_X7_floats : MOk 166 e_X7_floats := ⟨rfl, ⟨36, _, rfl, rg (by decide +kernel)⟩, rfl, by decide +kernel, by decide +kernel⟩
theorem ca_X7_floats : Cal e_X7_floats := ⟨by decide +kernel, ⟨by decide +kernel, by decide +kernel⟩, tAt_ok (p := some 1176) (by decide +kernel), tAt_ok (p := some 82) (by decide +kernel), (fun h => by cases h), (fun _ => ⟨tAt_ok (p := some 1174) (by decide +kernel), tAt_ok (p := some 1175) (by decide +kernel)⟩)⟩
theorem ok_X7_findPlaces : MOk 167 e_X7_findPlaces := ⟨rfl, ⟨88, _, rfl, rg (by decide +kernel)⟩, rfl, by decide +kernel, by decide +kernel⟩
theorem ca_X7_findPlaces : Cal e_X7_findPlaces := ⟨by decide +kernel, ⟨by decide +kernel, by decide +kernel⟩, tAt_ok (p := some 1188) (by decide +kernel), tAt_ok (p := some 82) (by decide +kernel), (fun h => by cases h), (fun _ => ⟨tAt_ok (p := some 1187) (by decide +kernel), tAt_ok (p := some 46) (by decide +kernel)⟩)⟩
theorem ok_X7_fills : MOk 168 e_X7_fills := ⟨rfl, ⟨44, _, rfl, rg (by decide +kernel)⟩, rfl, by decide +kernel, by decide +kernel⟩
theorem ca_X7_fills : Cal e_X7_fills := ⟨by decide +kernel, ⟨by decide +kernel, by decide +kernel⟩, tAt_ok (p := some 1195) (by decide +kernel), tAt_ok (p := some 82) (by decide +kernel), (fun h => by cases h), (fun _ => ⟨tAt_ok (p := some 1194) (by decide +kernel), tAt_ok (p := some 47) (by decide +kernel)⟩)⟩
theorem ok_X7_findWays : MOk 169 e_X7_findWays := ⟨rfl, ⟨94, _, rfl, rg (by decide +kernel)⟩, rfl, by decide +kernel, by decide +kernel⟩
theorem ca_X7_findWays : Cal e_X7_findWays := ⟨by decide +kernel, ⟨by decide +kernel, by decide +kernel⟩, tAt_ok (p := some 1184) (by decide +kernel), tAt_ok (p := some 82) (by decide +kernel), (fun h => by cases h), (fun _ => ⟨tAt_ok (p := some 1183) (by decide +kernel), tAt_ok (p := some 45) (by decide +kernel)⟩)⟩
theorem ok_X7_ways : MOk 170 e_X7_ways := ⟨rfl, ⟨21, _, rfl, rg (by decide +kernel)⟩, rfl, by decide +kernel, by decide +kernel⟩
theorem ca_X7_ways : Cal e_X7_ways := ⟨by decide +kernel, ⟨by decide +kernel, by decide +kernel⟩, tAt_ok (p := some 1180) (by decide +kernel), tAt_ok (p := some 82) (by decide +kernel), (fun h => by cases h), (fun _ => ⟨tAt_ok (p := some 1178) (by decide +kernel), tAt_ok (p := some 1179) (by decide +kernel)⟩)⟩
theorem ok_X7_withHole : MOk 171 e_X7_withHole := ⟨rfl, ⟨33, _, rfl, rg (by decide +kernel)⟩, rfl, by decide +kernel, by decide +kernel⟩
theorem ca_X7_withHole : Cal e_X7_withHole := ⟨by decide +kernel, ⟨by decide +kernel, by decide +kernel⟩, tAt_ok (p := some 1203) (by decide +kernel), tAt_ok (p := some 82) (by decide +kernel), (fun h => by cases h), (fun _ => ⟨tAt_ok (p := some 1202) (by decide +kernel), tAt_ok (p := some 48) (by decide +kernel)⟩)⟩
theorem ok_X7_sure : MOk 172 e_X7_sure := ⟨rfl, ⟨136, _, rfl, rg (by decide +kernel)⟩, rfl, by decide +kernel, by decide +kernel⟩
theorem ca_X7_sure : Cal e_X7_sure := ⟨by decide +kernel, ⟨by decide +kernel, by decide +kernel⟩, tAt_ok (p := some 1199) (by decide +kernel), tAt_ok (p := some 82) (by decide +kernel), (fun h => by cases h), (fun _ => ⟨tAt_ok (p := some 1197) (by decide +kernel), tAt_ok (p := some 1198) (by decide +kernel)⟩)⟩
theorem ok_X7_fill : MOk 173 e_X7_fill := ⟨rfl, ⟨53, _, rfl, rg (by decide +kernel)⟩, rfl, by decide +kernel, by decide +kernel⟩
theorem ca_X7_fill : Cal e_X7_fill := ⟨by decide +kernel, ⟨by decide +kernel, by decide +kernel⟩, tAt_ok (p := some 1207) (by decide +kernel), tAt_ok (p := some 82) (by decide +kernel), (fun h => by cases h), (fun _ => ⟨tAt_ok (p := some 1205) (by decide +kernel), tAt_ok (p := some 1206) (by decide +kernel)⟩)⟩
theorem ok_X7_ask : MOk 174 e_X7_ask := ⟨rfl, ⟨102, _, rfl, rg (by decide +kernel)⟩, rfl, by decide +kernel, by decide +kernel⟩
theorem ca_X7_ask : Cal e_X7_ask := ⟨by decide +kernel, ⟨by decide +kernel, by decide +kernel⟩, tAt_ok (p := some 1211) (by decide +kernel), tAt_ok (p := some 82) (by decide +kernel), (fun h => by cases h), (fun _ => ⟨tAt_ok (p := some 1209) (by decide +kernel), tAt_ok (p := some 1210) (by decide +kernel)⟩)⟩
theorem ok_X7_nextLine : MOk 175 e_X7_nextLine := ⟨rfl, ⟨150, _, rfl, rg (by decide +kernel)⟩, rfl, by decide +kernel, by decide +kernel⟩
theorem ca_X7_nextLine : Cal e_X7_nextLine := ⟨by decide +kernel, ⟨by decide +kernel, by decide +kernel⟩, tAt_ok (p := some 1227) (by decide +kernel), tAt_ok (p := some 82) (by decide +kernel), (fun h => by cases h), (fun _ => ⟨tAt_ok (p := some 1226) (by decide +kernel), tAt_ok (p := some 51) (by decide +kernel)⟩)⟩
theorem ok_X7_goesThrough : MOk 176 e_X7_goesThrough := ⟨rfl, ⟨143, _, rfl, rg (by decide +kernel)⟩, rfl, by decide +kernel, by decide +kernel⟩
theorem ca_X7_goesThrough : Cal e_X7_goesThrough := ⟨by decide +kernel, ⟨by decide +kernel, by decide +kernel⟩, tAt_ok (p := some 1223) (by decide +kernel), tAt_ok (p := some 82) (by decide +kernel), (fun h => by cases h), (fun _ => ⟨tAt_ok (p := some 1222) (by decide +kernel), tAt_ok (p := some 50) (by decide +kernel)⟩)⟩
theorem ok_X7_whyNot : MOk 177 e_X7_whyNot := ⟨rfl, ⟨35, _, rfl, rg (by decide +kernel)⟩, rfl, by decide +kernel, by decide +kernel⟩
theorem ca_X7_whyNot : Cal e_X7_whyNot := ⟨by decide +kernel, ⟨by decide +kernel, by decide +kernel⟩, tAt_ok (p := some 1219) (by decide +kernel), tAt_ok (p := some 82) (by decide +kernel), (fun h => by cases h), (fun _ => ⟨tAt_ok (p := some 1218) (by decide +kernel), tAt_ok (p := some 49) (by decide +kernel)⟩)⟩
theorem ok_X7_orders : MOk 178 e_X7_orders := ⟨rfl, ⟨49, _, rfl, rg (by decide +kernel)⟩, rfl, by decide +kernel, by decide +kernel⟩
theorem ca_X7_orders : Cal e_X7_orders := ⟨by decide +kernel, ⟨by decide +kernel, by decide +kernel⟩, tAt_ok (p := some 1215) (by decide +kernel), tAt_ok (p := some 82) (by decide +kernel), (fun h => by cases h), (fun _ => ⟨tAt_ok (p := some 1213) (by decide +kernel), tAt_ok (p := some 1214) (by decide +kernel)⟩)⟩
theorem ok_X7_lay : MOk 179 e_X7_lay := ⟨rfl, ⟨69, _, rfl, rg (by decide +kernel)⟩, rfl, by decide +kernel, by decide +kernel⟩
theorem ca_X7_lay : Cal e_X7_lay := ⟨by decide +kernel, ⟨by decide +kernel, by decide +kernel⟩, tAt_ok (p := some 1231) (by decide +kernel), tAt_ok (p := some 82) (by decide +kernel), (fun h => by cases h), (fun _ => ⟨tAt_ok (p := some 1229) (by decide +kernel), tAt_ok (p := some 1230) (by decide +kernel)⟩)⟩
theorem ok_X7_repeatsBy : MOk 180 e_X7_repeatsBy := ⟨rfl, ⟨39, _, rfl, rg (by decide +kernel)⟩, rfl, by decide +kernel, by decide +kernel⟩
theorem ca_X7_repeatsBy : Cal e_X7_repeatsBy := ⟨by decide +kernel, ⟨by decide +kernel, by decide +kernel⟩, tAt_ok (p := some 1239) (by decide +kernel), tAt_ok (p := some 82) (by decide +kernel), (fun h => by cases h), (fun _ => ⟨tAt_ok (p := some 1238) (by decide +kernel), tAt_ok (p := some 52) (by decide +kernel)⟩)⟩
theorem ok_X7_repeat : MOk 181 e_X7_repeat := ⟨rfl, ⟨37, _, rfl, rg (by decide +kernel)⟩, rfl, by decide +kernel, by decide +kernel⟩
theorem ca_X7_repeat : Cal e_X7_repeat := ⟨by decide +kernel, ⟨by decide +kernel, by decide +kernel⟩, tAt_ok (p := some 1235) (by decide +kernel), tAt_ok (p := some 82) (by decide +kernel), (fun h => by cases h), (fun _ => ⟨tAt_ok (p := some 1233) (by decide +kernel), tAt_ok (p := some 1234) (by decide +kernel)⟩)⟩
theorem ok_X7_unlike : MOk 182 e_X7_unlike := ⟨rfl, ⟨81, _, rfl, rg (by decide +kernel)⟩, rfl, by decide +kernel, by decide +kernel⟩
theorem ca_X7_unlike : Cal e_X7_unlike := ⟨by decide +kernel, ⟨by decide +kernel, by decide +kernel⟩, tAt_ok (p := some 1243) (by decide +kernel), tAt_ok (p := some 82) (by decide +kernel), (fun h => by cases h), (fun _ => ⟨tAt_ok (p := some 1241) (by decide +kernel), tAt_ok (p := some 1242) (by decide +kernel)⟩)⟩
theorem ok_X7_tellsApart : MOk 183 e_X7_tellsApart := ⟨rfl, ⟨86, _, rfl, rg (by decide +kernel)⟩, rfl, by decide +kernel, by decide +kernel⟩
theorem ca_X7_tellsApart : Cal e_X7_tellsApart := ⟨by decide +kernel, ⟨by decide +kernel, by decide +kernel⟩, tAt_ok (p := some 1251) (by decide +kernel), tAt_ok (p := some 82) (by decide +kernel), (fun h => by cases h), (fun _ => ⟨tAt_ok (p := some 1250) (by decide +kernel), tAt_ok (p := some 53) (by decide +kernel)⟩)⟩
theorem ok_X7_tells : MOk 184 e_X7_tells := ⟨rfl, ⟨48, _, rfl, rg (by decide +kernel)⟩, rfl, by decide +kernel, by decide +kernel⟩
theorem ca_X7_tells : Cal e_X7_tells := ⟨by decide +kernel, ⟨by decide +kernel, by decide +kernel⟩, tAt_ok (p := some 1247) (by decide +kernel), tAt_ok (p := some 82) (by decide +kernel), (fun h => by cases h), (fun _ => ⟨tAt_ok (p := some 1245) (by decide +kernel), tAt_ok (p := some 1246) (by decide +kernel)⟩)⟩
theorem ok_X7_thread : MOk 185 e_X7_thread := ⟨rfl, ⟨124, _, rfl, rg (by decide +kernel)⟩, rfl, by decide +kernel, by decide +kernel⟩
theorem ca_X7_thread : Cal e_X7_thread := ⟨by decide +kernel, ⟨by decide +kernel, by decide +kernel⟩, tAt_ok (p := some 1255) (by decide +kernel), tAt_ok (p := some 82) (by decide +kernel), (fun h => by cases h), (fun _ => ⟨tAt_ok (p := some 1253) (by decide +kernel), tAt_ok (p := some 1254) (by decide +kernel)⟩)⟩
theorem ok_X7_feed : MOk 186 e_X7_feed := ⟨rfl, ⟨80, _, rfl, rg (by decide +kernel)⟩, rfl, by decide +kernel, by decide +kernel⟩
theorem ca_X7_feed : Cal e_X7_feed := ⟨by decide +kernel, ⟨by decide +kernel, by decide +kernel⟩, tAt_ok (p := some 1259) (by decide +kernel), tAt_ok (p := some 82) (by decide +kernel), (fun h => by cases h), (fun _ => ⟨tAt_ok (p := some 1257) (by decide +kernel), tAt_ok (p := some 1258) (by decide +kernel)⟩)⟩
theorem ok_X7_wipe : MOk 187 e_X7_wipe := ⟨rfl, ⟨12, _, rfl, rg (by decide +kernel)⟩, rfl, by decide +kernel, by decide +kernel⟩
theorem ca_X7_wipe : Cal e_X7_wipe := ⟨by decide +kernel, ⟨by decide +kernel, by decide +kernel⟩, tAt_ok (p := some 1263) (by decide +kernel), tAt_ok (p := some 82) (by decide +kernel), (fun h => by cases h), (fun _ => ⟨tAt_ok (p := some 1261) (by decide +kernel), tAt_ok (p := some 1262) (by decide +kernel)⟩)⟩
theorem ok_X7_letter : MOk 188 e_X7_letter := ⟨rfl, ⟨23, _, rfl, rg (by decide +kernel)⟩, rfl, by decide +kernel, by decide +kernel⟩
theorem ca_X7_letter : Cal e_X7_letter := ⟨by decide +kernel, ⟨by decide +kernel, by decide +kernel⟩, tAt_ok (p := some 1285) (by decide +kernel), tAt_ok (p := some 82) (by decide +kernel), (fun _ => tAt_ok (p := some 1284) (by decide +kernel)), (fun h => by cases h)⟩
theorem ok_X7_isDigit : MOk 189 e_X7_isDigit := ⟨rfl, ⟨18, _, rfl, rg (by decide +kernel)⟩, rfl, by decide +kernel, by decide +kernel⟩
theorem ca_X7_isDigit : Cal e_X7_isDigit := ⟨by decide +kernel, ⟨by decide +kernel, by decide +kernel⟩, tAt_ok (p := some 1290) (by decide +kernel), tAt_ok (p := some 82) (by decide +kernel), (fun _ => tAt_ok (p := some 1289) (by decide +kernel)), (fun h => by cases h)⟩
theorem ok_X7_isPunch : MOk 190 e_X7_isPunch := ⟨rfl, ⟨24, _, rfl, rg (by decide +kernel)⟩, rfl, by decide +kernel, by decide +kernel⟩
theorem ca_X7_isPunch : Cal e_X7_isPunch := ⟨by decide +kernel, ⟨by decide +kernel, by decide +kernel⟩, tAt_ok (p := some 1282) (by decide +kernel), tAt_ok (p := some 82) (by decide +kernel), (fun _ => tAt_ok (p := some 1281) (by decide +kernel)), (fun h => by cases h)⟩
theorem ok_X7_byteAt : MOk 191 e_X7_byteAt := ⟨rfl, ⟨19, _, rfl, rg (by decide +kernel)⟩, rfl, by decide +kernel, by decide +kernel⟩
theorem ca_X7_byteAt : Cal e_X7_byteAt := ⟨by decide +kernel, ⟨by decide +kernel, by decide +kernel⟩, tAt_ok (p := some 1279) (by decide +kernel), tAt_ok (p := some 82) (by decide +kernel), (fun h => by cases h), (fun _ => ⟨tAt_ok (p := some 1278) (by decide +kernel), tAt_ok (p := some 56) (by decide +kernel)⟩)⟩
theorem ok_X7_next : MOk 192 e_X7_next := ⟨rfl, ⟨311, _, rfl, rg (by decide +kernel)⟩, rfl, by decide +kernel, by decide +kernel⟩
theorem ca_X7_next : Cal e_X7_next := ⟨by decide +kernel, ⟨by decide +kernel, by decide +kernel⟩, tAt_ok (p := some 1275) (by decide +kernel), tAt_ok (p := some 82) (by decide +kernel), (fun h => by cases h), (fun _ => ⟨tAt_ok (p := some 1274) (by decide +kernel), tAt_ok (p := some 55) (by decide +kernel)⟩)⟩
theorem ok_X7_wrongHere : MOk 193 e_X7_wrongHere := ⟨rfl, ⟨23, _, rfl, rg (by decide +kernel)⟩, rfl, by decide +kernel, by decide +kernel⟩
theorem ca_X7_wrongHere : Cal e_X7_wrongHere := ⟨by decide +kernel, ⟨by decide +kernel, by decide +kernel⟩, tAt_ok (p := some 1327) (by decide +kernel), tAt_ok (p := some 82) (by decide +kernel), (fun h => by cases h), (fun _ => ⟨tAt_ok (p := some 1326) (by decide +kernel), tAt_ok (p := some 61) (by decide +kernel)⟩)⟩
theorem ok_X7_isWord : MOk 194 e_X7_isWord := ⟨rfl, ⟨23, _, rfl, rg (by decide +kernel)⟩, rfl, by decide +kernel, by decide +kernel⟩
theorem ca_X7_isWord : Cal e_X7_isWord := ⟨by decide +kernel, ⟨by decide +kernel, by decide +kernel⟩, tAt_ok (p := some 1307) (by decide +kernel), tAt_ok (p := some 82) (by decide +kernel), (fun h => by cases h), (fun _ => ⟨tAt_ok (p := some 1306) (by decide +kernel), tAt_ok (p := some 59) (by decide +kernel)⟩)⟩
theorem ok_X7_kindHere : MOk 195 e_X7_kindHere := ⟨rfl, ⟨86, _, rfl, rg (by decide +kernel)⟩, rfl, by decide +kernel, by decide +kernel⟩
theorem ca_X7_kindHere : Cal e_X7_kindHere := ⟨by decide +kernel, ⟨by decide +kernel, by decide +kernel⟩, tAt_ok (p := some 1301) (by decide +kernel), tAt_ok (p := some 82) (by decide +kernel), (fun h => by cases h), (fun _ => ⟨tAt_ok (p := some 1300) (by decide +kernel), tAt_ok (p := some 58) (by decide +kernel)⟩)⟩
theorem ok_X7_numberHere : MOk 196 e_X7_numberHere := ⟨rfl, ⟨40, _, rfl, rg (by decide +kernel)⟩, rfl, by decide +kernel, by decide +kernel⟩
theorem ca_X7_numberHere : Cal e_X7_numberHere := ⟨by decide +kernel, ⟨by decide +kernel, by decide +kernel⟩, tAt_ok (p := some 1338) (by decide +kernel), tAt_ok (p := some 82) (by decide +kernel), (fun h => by cases h), (fun _ => ⟨tAt_ok (p := some 1337) (by decide +kernel), tAt_ok (p := some 63) (by decide +kernel)⟩)⟩
theorem ok_X7_cardHere : MOk 197 e_X7_cardHere := ⟨rfl, ⟨124, _, rfl, rg (by decide +kernel)⟩, rfl, by decide +kernel, by decide +kernel⟩
theorem ca_X7_cardHere : Cal e_X7_cardHere := ⟨by decide +kernel, ⟨by decide +kernel, by decide +kernel⟩, tAt_ok (p := some 1323) (by decide +kernel), tAt_ok (p := some 82) (by decide +kernel), (fun h => by cases h), (fun _ => ⟨tAt_ok (p := some 1322) (by decide +kernel), tAt_ok (p := some 60) (by decide +kernel)⟩)⟩
theorem ok_X7_tieHere : MOk 198 e_X7_tieHere := ⟨rfl, ⟨49, _, rfl, rg (by decide +kernel)⟩, rfl, by decide +kernel, by decide +kernel⟩
theorem ca_X7_tieHere : Cal e_X7_tieHere := ⟨by decide +kernel, ⟨by decide +kernel, by decide +kernel⟩, tAt_ok (p := some 1334) (by decide +kernel), tAt_ok (p := some 82) (by decide +kernel), (fun h => by cases h), (fun _ => ⟨tAt_ok (p := some 1333) (by decide +kernel), tAt_ok (p := some 62) (by decide +kernel)⟩)⟩
theorem ok_X7_orderHere : MOk 199 e_X7_orderHere := ⟨rfl, ⟨81, _, rfl, rg (by decide +kernel)⟩, rfl, by decide +kernel, by decide +kernel⟩
theorem ca_X7_orderHere : Cal e_X7_orderHere := ⟨by decide +kernel, ⟨by decide +kernel, by decide +kernel⟩, tAt_ok (p := some 1344) (by decide +kernel), tAt_ok (p := some 82) (by decide +kernel), (fun h => by cases h), (fun _ => ⟨tAt_ok (p := some 1343) (by decide +kernel), tAt_ok (p := some 64) (by decide +kernel)⟩)⟩
theorem ok_X7_lawHere : MOk 200 e_X7_lawHere := ⟨rfl, ⟨43, _, rfl, rg (by decide +kernel)⟩, rfl, by decide +kernel, by decide +kernel⟩
theorem ca_X7_lawHere : Cal e_X7_lawHere := ⟨by decide +kernel, ⟨by decide +kernel, by decide +kernel⟩, tAt_ok (p := some 1348) (by decide +kernel), tAt_ok (p := some 82) (by decide +kernel), (fun h => by cases h), (fun _ => ⟨tAt_ok (p := some 1347) (by decide +kernel), tAt_ok (p := some 65) (by decide +kernel)⟩)⟩
theorem ok_X7_item : MOk 201 e_X7_item := ⟨rfl, ⟨73, _, rfl, rg (by decide +kernel)⟩, rfl, by decide +kernel, by decide +kernel⟩
theorem ca_X7_item : Cal e_X7_item := ⟨by decide +kernel, ⟨by decide +kernel, by decide +kernel⟩, tAt_ok (p := some 1297) (by decide +kernel), tAt_ok (p := some 82) (by decide +kernel), (fun h => by cases h), (fun _ => ⟨tAt_ok (p := some 1296) (by decide +kernel), tAt_ok (p := some 57) (by decide +kernel)⟩)⟩
theorem ok_X7_items : MOk 202 e_X7_items := ⟨rfl, ⟨69, _, rfl, rg (by decide +kernel)⟩, rfl, by decide +kernel, by decide +kernel⟩
theorem ca_X7_items : Cal e_X7_items := ⟨by decide +kernel, ⟨by decide +kernel, by decide +kernel⟩, tAt_ok (p := some 1271) (by decide +kernel), tAt_ok (p := some 82) (by decide +kernel), (fun h => by cases h), (fun _ => ⟨tAt_ok (p := some 1270) (by decide +kernel), tAt_ok (p := some 54) (by decide +kernel)⟩)⟩
theorem ok_X7_loom : MOk 203 e_X7_loom := ⟨rfl, ⟨48, _, rfl, rg (by decide +kernel)⟩, rfl, by decide +kernel, by decide +kernel⟩
theorem ca_X7_loom : Cal e_X7_loom := ⟨by decide +kernel, ⟨by decide +kernel, by decide +kernel⟩, tAt_ok (p := some 1267) (by decide +kernel), tAt_ok (p := some 82) (by decide +kernel), (fun h => by cases h), (fun _ => ⟨tAt_ok (p := some 1265) (by decide +kernel), tAt_ok (p := some 1266) (by decide +kernel)⟩)⟩
theorem ok_X7_isSheet : MOk 204 e_X7_isSheet := ⟨rfl, ⟨10, _, rfl, rg (by decide +kernel)⟩, rfl, by decide +kernel, by decide +kernel⟩
theorem ca_X7_isSheet : Cal e_X7_isSheet := ⟨by decide +kernel, ⟨by decide +kernel, by decide +kernel⟩, tAt_ok (p := some 1355) (by decide +kernel), tAt_ok (p := some 82) (by decide +kernel), (fun _ => tAt_ok (p := some 1354) (by decide +kernel)), (fun h => by cases h)⟩
theorem ok_X7_sheet : MOk 205 e_X7_sheet := ⟨rfl, ⟨116, _, rfl, rg (by decide +kernel)⟩, rfl, by decide +kernel, by decide +kernel⟩
theorem ca_X7_sheet : Cal e_X7_sheet := ⟨by decide +kernel, ⟨by decide +kernel, by decide +kernel⟩, tAt_ok (p := some 1352) (by decide +kernel), tAt_ok (p := some 82) (by decide +kernel), (fun h => by cases h), (fun _ => ⟨tAt_ok (p := some 1350) (by decide +kernel), tAt_ok (p := some 1351) (by decide +kernel)⟩)⟩
theorem ok_X7_puts : MOk 206 e_X7_puts := ⟨rfl, ⟨49, _, rfl, rg (by decide +kernel)⟩, rfl, by decide +kernel, by decide +kernel⟩
theorem ca_X7_puts : Cal e_X7_puts := ⟨by decide +kernel, ⟨by decide +kernel, by decide +kernel⟩, tAt_ok (p := some 1371) (by decide +kernel), tAt_ok (p := some 82) (by decide +kernel), (fun h => by cases h), (fun _ => ⟨tAt_ok (p := some 1370) (by decide +kernel), tAt_ok (p := some 68) (by decide +kernel)⟩)⟩
theorem ok_X7_whyNone : MOk 207 e_X7_whyNone := ⟨rfl, ⟨26, _, rfl, rg (by decide +kernel)⟩, rfl, by decide +kernel, by decide +kernel⟩
theorem ca_X7_whyNone : Cal e_X7_whyNone := ⟨by decide +kernel, ⟨by decide +kernel, by decide +kernel⟩, tAt_ok (p := some 1367) (by decide +kernel), tAt_ok (p := some 82) (by decide +kernel), (fun h => by cases h), (fun _ => ⟨tAt_ok (p := some 1366) (by decide +kernel), tAt_ok (p := some 67) (by decide +kernel)⟩)⟩
theorem ok_X7_whyNoNumber : MOk 208 e_X7_whyNoNumber := ⟨rfl, ⟨38, _, rfl, rg (by decide +kernel)⟩, rfl, by decide +kernel, by decide +kernel⟩
theorem ca_X7_whyNoNumber : Cal e_X7_whyNoNumber := ⟨by decide +kernel, ⟨by decide +kernel, by decide +kernel⟩, tAt_ok (p := some 1363) (by decide +kernel), tAt_ok (p := some 82) (by decide +kernel), (fun h => by cases h), (fun _ => ⟨tAt_ok (p := some 1362) (by decide +kernel), tAt_ok (p := some 66) (by decide +kernel)⟩)⟩
theorem ok_X7_write : MOk 209 e_X7_write := ⟨rfl, ⟨44, _, rfl, rg (by decide +kernel)⟩, rfl, by decide +kernel, by decide +kernel⟩
theorem ca_X7_write : Cal e_X7_write := ⟨by decide +kernel, ⟨by decide +kernel, by decide +kernel⟩, tAt_ok (p := some 1359) (by decide +kernel), tAt_ok (p := some 82) (by decide +kernel), (fun h => by cases h), (fun _ => ⟨tAt_ok (p := some 1357) (by decide +kernel), tAt_ok (p := some 1358) (by decide +kernel)⟩)⟩
theorem ok_X7_copy : MOk 210 e_X7_copy := ⟨rfl, ⟨198, _, rfl, rg (by decide +kernel)⟩, rfl, by decide +kernel, by decide +kernel⟩
theorem ca_X7_copy : Cal e_X7_copy := ⟨by decide +kernel, ⟨by decide +kernel, by decide +kernel⟩, tAt_ok (p := some 1375) (by decide +kernel), tAt_ok (p := some 82) (by decide +kernel), (fun h => by cases h), (fun _ => ⟨tAt_ok (p := some 1373) (by decide +kernel), tAt_ok (p := some 1374) (by decide +kernel)⟩)⟩
theorem ok_X7_told : MOk 211 e_X7_told := ⟨rfl, ⟨17, _, rfl, rg (by decide +kernel)⟩, rfl, by decide +kernel, by decide +kernel⟩
theorem ca_X7_told : Cal e_X7_told := ⟨by decide +kernel, ⟨by decide +kernel, by decide +kernel⟩, tAt_ok (p := some 1387) (by decide +kernel), tAt_ok (p := some 82) (by decide +kernel), (fun h => by cases h), (fun _ => ⟨tAt_ok (p := some 1386) (by decide +kernel), tAt_ok (p := some 69) (by decide +kernel)⟩)⟩
theorem ok_X7_draw : MOk 212 e_X7_draw := ⟨rfl, ⟨83, _, rfl, rg (by decide +kernel)⟩, rfl, by decide +kernel, by decide +kernel⟩
theorem ca_X7_draw : Cal e_X7_draw := ⟨by decide +kernel, ⟨by decide +kernel, by decide +kernel⟩, tAt_ok (p := some 1379) (by decide +kernel), tAt_ok (p := some 82) (by decide +kernel), (fun h => by cases h), (fun _ => ⟨tAt_ok (p := some 1377) (by decide +kernel), tAt_ok (p := some 1378) (by decide +kernel)⟩)⟩
theorem ok_X7_read : MOk 213 e_X7_read := ⟨rfl, ⟨91, _, rfl, rg (by decide +kernel)⟩, rfl, by decide +kernel, by decide +kernel⟩
theorem ca_X7_read : Cal e_X7_read := ⟨by decide +kernel, ⟨by decide +kernel, by decide +kernel⟩, tAt_ok (p := some 1383) (by decide +kernel), tAt_ok (p := some 82) (by decide +kernel), (fun h => by cases h), (fun _ => ⟨tAt_ok (p := some 1381) (by decide +kernel), tAt_ok (p := some 1382) (by decide +kernel)⟩)⟩
theorem ok_X7_weaver : MOk 214 e_X7_weaver := ⟨rfl, ⟨38, _, rfl, rg (by decide +kernel)⟩, rfl, by decide +kernel, by decide +kernel⟩
theorem ca_X7_weaver : Cal e_X7_weaver := ⟨by decide +kernel, ⟨by decide +kernel, by decide +kernel⟩, tAt_ok (p := some 1396) (by decide +kernel), tAt_ok (p := some 82) (by decide +kernel), (fun h => by cases h), (fun _ => ⟨tAt_ok (p := some 1395) (by decide +kernel), tAt_ok (p := some 70) (by decide +kernel)⟩)⟩
theorem ok_X7_whose : MOk 215 e_X7_whose := ⟨rfl, ⟨45, _, rfl, rg (by decide +kernel)⟩, rfl, by decide +kernel, by decide +kernel⟩
theorem ca_X7_whose : Cal e_X7_whose := ⟨by decide +kernel, ⟨by decide +kernel, by decide +kernel⟩, tAt_ok (p := some 1392) (by decide +kernel), tAt_ok (p := some 82) (by decide +kernel), (fun h => by cases h), (fun _ => ⟨tAt_ok (p := some 1390) (by decide +kernel), tAt_ok (p := some 1391) (by decide +kernel)⟩)⟩
theorem ok_X7_farOf : MOk 216 e_X7_farOf := ⟨rfl, ⟨18, _, rfl, rg (by decide +kernel)⟩, rfl, by decide +kernel, by decide +kernel⟩
theorem ca_X7_farOf : Cal e_X7_farOf := ⟨by decide +kernel, ⟨by decide +kernel, by decide +kernel⟩, tAt_ok (p := some 1408) (by decide +kernel), tAt_ok (p := some 82) (by decide +kernel), (fun h => by cases h), (fun _ => ⟨tAt_ok (p := some 1407) (by decide +kernel), tAt_ok (p := some 72) (by decide +kernel)⟩)⟩
theorem ok_X7_nearestTo : MOk 217 e_X7_nearestTo := ⟨rfl, ⟨43, _, rfl, rg (by decide +kernel)⟩, rfl, by decide +kernel, by decide +kernel⟩
theorem ca_X7_nearestTo : Cal e_X7_nearestTo := ⟨by decide +kernel, ⟨by decide +kernel, by decide +kernel⟩, tAt_ok (p := some 1404) (by decide +kernel), tAt_ok (p := some 82) (by decide +kernel), (fun h => by cases h), (fun _ => ⟨tAt_ok (p := some 1403) (by decide +kernel), tAt_ok (p := some 71) (by decide +kernel)⟩)⟩
theorem ok_X7_nearest : MOk 218 e_X7_nearest := ⟨rfl, ⟨45, _, rfl, rg (by decide +kernel)⟩, rfl, by decide +kernel, by decide +kernel⟩
theorem ca_X7_nearest : Cal e_X7_nearest := ⟨by decide +kernel, ⟨by decide +kernel, by decide +kernel⟩, tAt_ok (p := some 1400) (by decide +kernel), tAt_ok (p := some 82) (by decide +kernel), (fun h => by cases h), (fun _ => ⟨tAt_ok (p := some 1398) (by decide +kernel), tAt_ok (p := some 1399) (by decide +kernel)⟩)⟩
theorem ok_X7_crossings : MOk 219 e_X7_crossings := ⟨rfl, ⟨80, _, rfl, rg (by decide +kernel)⟩, rfl, by decide +kernel, by decide +kernel⟩
theorem ca_X7_crossings : Cal e_X7_crossings := ⟨by decide +kernel, ⟨by decide +kernel, by decide +kernel⟩, tAt_ok (p := some 1412) (by decide +kernel), tAt_ok (p := some 82) (by decide +kernel), (fun h => by cases h), (fun _ => ⟨tAt_ok (p := some 1410) (by decide +kernel), tAt_ok (p := some 1411) (by decide +kernel)⟩)⟩
theorem ok_X7_mark : MOk 220 e_X7_mark := ⟨rfl, ⟨150, _, rfl, rg (by decide +kernel)⟩, rfl, by decide +kernel, by decide +kernel⟩
theorem ca_X7_mark : Cal e_X7_mark := ⟨by decide +kernel, ⟨by decide +kernel, by decide +kernel⟩, tAt_ok (p := some 1416) (by decide +kernel), tAt_ok (p := some 82) (by decide +kernel), (fun h => by cases h), (fun _ => ⟨tAt_ok (p := some 1414) (by decide +kernel), tAt_ok (p := some 1415) (by decide +kernel)⟩)⟩
theorem ok_X7_order : MOk 221 e_X7_order := ⟨rfl, ⟨81, _, rfl, rg (by decide +kernel)⟩, rfl, by decide +kernel, by decide +kernel⟩
theorem ca_X7_order : Cal e_X7_order := ⟨by decide +kernel, ⟨by decide +kernel, by decide +kernel⟩, tAt_ok (p := some 1420) (by decide +kernel), tAt_ok (p := some 82) (by decide +kernel), (fun h => by cases h), (fun _ => ⟨tAt_ok (p := some 1418) (by decide +kernel), tAt_ok (p := some 1419) (by decide +kernel)⟩)⟩
theorem ok_X7_image : MOk 222 e_X7_image := ⟨rfl, ⟨18, _, rfl, rg (by decide +kernel)⟩, rfl, by decide +kernel, by decide +kernel⟩
theorem ca_X7_image : Cal e_X7_image := ⟨by decide +kernel, ⟨by decide +kernel, by decide +kernel⟩, tAt_ok (p := some 1424) (by decide +kernel), tAt_ok (p := some 82) (by decide +kernel), (fun h => by cases h), (fun _ => ⟨tAt_ok (p := some 1422) (by decide +kernel), tAt_ok (p := some 1423) (by decide +kernel)⟩)⟩
theorem ok_X7_undo : MOk 223 e_X7_undo := ⟨rfl, ⟨31, _, rfl, rg (by decide +kernel)⟩, rfl, by decide +kernel, by decide +kernel⟩
theorem ca_X7_undo : Cal e_X7_undo := ⟨by decide +kernel, ⟨by decide +kernel, by decide +kernel⟩, tAt_ok (p := some 1428) (by decide +kernel), tAt_ok (p := some 82) (by decide +kernel), (fun h => by cases h), (fun _ => ⟨tAt_ok (p := some 1426) (by decide +kernel), tAt_ok (p := some 1427) (by decide +kernel)⟩)⟩
theorem ok_X7_tear : MOk 224 e_X7_tear := ⟨rfl, ⟨20, _, rfl, rg (by decide +kernel)⟩, rfl, by decide +kernel, by decide +kernel⟩
theorem ca_X7_tear : Cal e_X7_tear := ⟨by decide +kernel, ⟨by decide +kernel, by decide +kernel⟩, tAt_ok (p := some 1432) (by decide +kernel), tAt_ok (p := some 82) (by decide +kernel), (fun h => by cases h), (fun _ => ⟨tAt_ok (p := some 1430) (by decide +kernel), tAt_ok (p := some 1431) (by decide +kernel)⟩)⟩
theorem ok_X7_sumOf : MOk 225 e_X7_sumOf := ⟨rfl, ⟨54, _, rfl, rg (by decide +kernel)⟩, rfl, by decide +kernel, by decide +kernel⟩
theorem ca_X7_sumOf : Cal e_X7_sumOf := ⟨by decide +kernel, ⟨by decide +kernel, by decide +kernel⟩, tAt_ok (p := some 1440) (by decide +kernel), tAt_ok (p := some 82) (by decide +kernel), (fun h => by cases h), (fun _ => ⟨tAt_ok (p := some 1439) (by decide +kernel), tAt_ok (p := some 73) (by decide +kernel)⟩)⟩
theorem ok_X7_count : MOk 226 e_X7_count := ⟨rfl, ⟨100, _, rfl, rg (by decide +kernel)⟩, rfl, by decide +kernel, by decide +kernel⟩
theorem ca_X7_count : Cal e_X7_count := ⟨by decide +kernel, ⟨by decide +kernel, by decide +kernel⟩, tAt_ok (p := some 1436) (by decide +kernel), tAt_ok (p := some 82) (by decide +kernel), (fun h => by cases h), (fun _ => ⟨tAt_ok (p := some 1434) (by decide +kernel), tAt_ok (p := some 1435) (by decide +kernel)⟩)⟩
theorem ok_X7_status : MOk 227 e_X7_status := ⟨rfl, ⟨60, _, rfl, rg (by decide +kernel)⟩, rfl, by decide +kernel, by decide +kernel⟩
theorem ca_X7_status : Cal e_X7_status := ⟨by decide +kernel, ⟨by decide +kernel, by decide +kernel⟩, tAt_ok (p := some 1444) (by decide +kernel), tAt_ok (p := some 82) (by decide +kernel), (fun h => by cases h), (fun _ => ⟨tAt_ok (p := some 1442) (by decide +kernel), tAt_ok (p := some 1443) (by decide +kernel)⟩)⟩
theorem ok_J6_numberOfTrailingZeros_0f7a4 : MOk 228 e_J6_numberOfTrailingZeros_0f7a4 := ⟨rfl, ⟨80, _, rfl, rg (by decide +kernel)⟩, rfl, by decide +kernel, by decide +kernel⟩
theorem ca_J6_numberOfTrailingZeros_0f7a4 : Cal e_J6_numberOfTrailingZeros_0f7a4 := ⟨by decide +kernel, ⟨by decide +kernel, by decide +kernel⟩, tAt_ok (p := some 895) (by decide +kernel), tAt_ok (p := some 83) (by decide +kernel), (fun _ => tAt_ok (p := some 894) (by decide +kernel)), (fun h => by cases h)⟩
theorem ok_J6_bitCount_0f7a4 : MOk 229 e_J6_bitCount_0f7a4 := ⟨rfl, ⟨53, _, rfl, rg (by decide +kernel)⟩, rfl, by decide +kernel, by decide +kernel⟩
theorem ca_J6_bitCount_0f7a4 : Cal e_J6_bitCount_0f7a4 := ⟨by decide +kernel, ⟨by decide +kernel, by decide +kernel⟩, tAt_ok (p := some 352) (by decide +kernel), tAt_ok (p := some 83) (by decide +kernel), (fun _ => tAt_ok (p := some 351) (by decide +kernel)), (fun h => by cases h)⟩
theorem ok_J0_length_8abf5 : MOk 230 e_J0_length_8abf5 := ⟨rfl, ⟨11, _, rfl, rg (by decide +kernel)⟩, rfl, by decide +kernel, by decide +kernel⟩
theorem ca_J0_length_8abf5 : Cal e_J0_length_8abf5 := ⟨by decide +kernel, ⟨by decide +kernel, by decide +kernel⟩, tAt_ok (p := some 732) (by decide +kernel), tAt_ok (p := some 86) (by decide +kernel), (fun h => by cases h), (fun _ => ⟨tAt_ok (p := some 730) (by decide +kernel), tAt_ok (p := some 731) (by decide +kernel)⟩)⟩
theorem ok_J0_charAt_5068e : MOk 231 e_J0_charAt_5068e := ⟨rfl, ⟨25, _, rfl, rg (by decide +kernel)⟩, rfl, by decide +kernel, by decide +kernel⟩
theorem ca_J0_charAt_5068e : Cal e_J0_charAt_5068e := ⟨by decide +kernel, ⟨by decide +kernel, by decide +kernel⟩, tAt_ok (p := some 742) (by decide +kernel), tAt_ok (p := some 86) (by decide +kernel), (fun h => by cases h), (fun _ => ⟨tAt_ok (p := some 740) (by decide +kernel), tAt_ok (p := some 741) (by decide +kernel)⟩)⟩
theorem ok_J0_coder_7d493 : MOk 232 e_J0_coder_7d493 := ⟨rfl, ⟨15, _, rfl, rg (by decide +kernel)⟩, rfl, by decide +kernel, by decide +kernel⟩
theorem ca_J0_coder_7d493 : Cal e_J0_coder_7d493 := ⟨by decide +kernel, ⟨by decide +kernel, by decide +kernel⟩, tAt_ok (p := some 736) (by decide +kernel), tAt_ok (p := some 86) (by decide +kernel), (fun h => by cases h), (fun _ => ⟨tAt_ok (p := some 734) (by decide +kernel), tAt_ok (p := some 735) (by decide +kernel)⟩)⟩
theorem ok_J0_isLatin1_aae02 : MOk 233 e_J0_isLatin1_aae02 := ⟨rfl, ⟨19, _, rfl, rg (by decide +kernel)⟩, rfl, by decide +kernel, by decide +kernel⟩
theorem ca_J0_isLatin1_aae02 : Cal e_J0_isLatin1_aae02 := ⟨by decide +kernel, ⟨by decide +kernel, by decide +kernel⟩, tAt_ok (p := some 746) (by decide +kernel), tAt_ok (p := some 86) (by decide +kernel), (fun h => by cases h), (fun _ => ⟨tAt_ok (p := some 744) (by decide +kernel), tAt_ok (p := some 745) (by decide +kernel)⟩)⟩
theorem ok_J0_checkIndex_df160 : MOk 234 e_J0_checkIndex_df160 := ⟨rfl, ⟨10, _, rfl, rg (by decide +kernel)⟩, rfl, by decide +kernel, by decide +kernel⟩
theorem ca_J0_checkIndex_df160 : Cal e_J0_checkIndex_df160 := ⟨by decide +kernel, ⟨by decide +kernel, by decide +kernel⟩, tAt_ok (p := some 752) (by decide +kernel), tAt_ok (p := some 86) (by decide +kernel), (fun _ => tAt_ok (p := some 751) (by decide +kernel)), (fun h => by cases h)⟩
theorem ok_J1_charAt_3b067 : MOk 235 e_J1_charAt_3b067 := ⟨rfl, ⟨15, _, rfl, rg (by decide +kernel)⟩, rfl, by decide +kernel, by decide +kernel⟩
theorem ca_J1_charAt_3b067 : Cal e_J1_charAt_3b067 := ⟨by decide +kernel, ⟨by decide +kernel, by decide +kernel⟩, tAt_ok (p := some 749) (by decide +kernel), tAt_ok (p := some 87) (by decide +kernel), (fun _ => tAt_ok (p := some 748) (by decide +kernel)), (fun h => by cases h)⟩
theorem ok_J3_checkIndex_8e157 : MOk 236 e_J3_checkIndex_8e157 := ⟨rfl, ⟨18, _, rfl, rg (by decide +kernel)⟩, rfl, by decide +kernel, by decide +kernel⟩
theorem ca_J3_checkIndex_8e157 : Cal e_J3_checkIndex_8e157 := ⟨by decide +kernel, ⟨by decide +kernel, by decide +kernel⟩, tAt_ok (p := some 757) (by decide +kernel), tAt_ok (p := some 88) (by decide +kernel), (fun _ => tAt_ok (p := some 756) (by decide +kernel)), (fun h => by cases h)⟩
theorem ok_L_law_0 : (List.range 100).all (fun k => okk cL_law 15 11 392 (t_L_law (0 + k)) (0 + k)) = true := by decide +kernel
theorem ok_L_law_100 : (List.range 100).all (fun k => okk cL_law 15 11 392 (t_L_law (100 + k)) (100 + k)) = true := by decide +kernel
theorem ok_L_law_200 : (List.range 100).all (fun k => okk cL_law 15 11 392 (t_L_law (200 + k)) (200 + k)) = true := by decide +kernel
theorem ok_L_law_300 : (List.range 100).all (fun k => okk cL_law 15 11 392 (t_L_law (300 + k)) (300 + k)) = true := by decide +kernel
theorem ok_L_law_400 : (List.range 100).all (fun k => okk cL_law 15 11 392 (t_L_law (400 + k)) (400 + k)) = true := by decide +kernel
theorem ok_L_law_500 : (List.range 100).all (fun k => okk cL_law 15 11 392 (t_L_law (500 + k)) (500 + k)) = true := by decide +kernel
theorem ok_L_law_600 : (List.range 100).all (fun k => okk cL_law 15 11 392 (t_L_law (600 + k)) (600 + k)) = true := by decide +kernel
theorem ok_L_law_700 : (List.range 100).all (fun k => okk cL_law 15 11 392 (t_L_law (700 + k)) (700 + k)) = true := by decide +kernel
theorem ok_L_law_800 : (List.range 100).all (fun k => okk cL_law 15 11 392 (t_L_law (800 + k)) (800 + k)) = true := by decide +kernel
theorem ok_L_law_900 : (List.range 100).all (fun k => okk cL_law 15 11 392 (t_L_law (900 + k)) (900 + k)) = true := by decide +kernel
theorem ok_L_law_1000 : (List.range 100).all (fun k => okk cL_law 15 11 392 (t_L_law (1000 + k)) (1000 + k)) = true := by decide +kernel
theorem ok_L_law_1100 : (List.range 100).all (fun k => okk cL_law 15 11 392 (t_L_law (1100 + k)) (1100 + k)) = true := by decide +kernel
theorem ok_L_law_1200 : (List.range 100).all (fun k => okk cL_law 15 11 392 (t_L_law (1200 + k)) (1200 + k)) = true := by decide +kernel
theorem ok_L_law_1300 : (List.range 100).all (fun k => okk cL_law 15 11 392 (t_L_law (1300 + k)) (1300 + k)) = true := by decide +kernel
theorem ok_L_law_1400 : (List.range 75).all (fun k => okk cL_law 15 11 392 (t_L_law (1400 + k)) (1400 + k)) = true := by decide +kernel
theorem ok_L_law_t : ∀ pc, pc < 1475 → okk (eB e_L_law) (eC e_L_law) (eF e_L_law) (eL e_L_law) (t_L_law pc) pc = true := fun pc hp => by
  have h : (0 ≤ pc ∧ pc < 0 + 100) ∨ (100 ≤ pc ∧ pc < 100 + 100) ∨ (200 ≤ pc ∧ pc < 200 + 100) ∨ (300 ≤ pc ∧ pc < 300 + 100) ∨ (400 ≤ pc ∧ pc < 400 + 100) ∨ (500 ≤ pc ∧ pc < 500 + 100) ∨ (600 ≤ pc ∧ pc < 600 + 100) ∨ (700 ≤ pc ∧ pc < 700 + 100) ∨ (800 ≤ pc ∧ pc < 800 + 100) ∨ (900 ≤ pc ∧ pc < 900 + 100) ∨ (1000 ≤ pc ∧ pc < 1000 + 100) ∨ (1100 ≤ pc ∧ pc < 1100 + 100) ∨ (1200 ≤ pc ∧ pc < 1200 + 100) ∨ (1300 ≤ pc ∧ pc < 1300 + 100) ∨ (1400 ≤ pc ∧ pc < 1400 + 75) := by omega
  rcases h with ⟨a, b⟩ | ⟨a, b⟩ | ⟨a, b⟩ | ⟨a, b⟩ | ⟨a, b⟩ | ⟨a, b⟩ | ⟨a, b⟩ | ⟨a, b⟩ | ⟨a, b⟩ | ⟨a, b⟩ | ⟨a, b⟩ | ⟨a, b⟩ | ⟨a, b⟩ | ⟨a, b⟩ | ⟨a, b⟩
  · exact rg2 (f := fun pc => okk (eB e_L_law) (eC e_L_law) (eF e_L_law) (eL e_L_law) (t_L_law pc) pc) ok_L_law_0 pc a b
  · exact rg2 (f := fun pc => okk (eB e_L_law) (eC e_L_law) (eF e_L_law) (eL e_L_law) (t_L_law pc) pc) ok_L_law_100 pc a b
  · exact rg2 (f := fun pc => okk (eB e_L_law) (eC e_L_law) (eF e_L_law) (eL e_L_law) (t_L_law pc) pc) ok_L_law_200 pc a b
  · exact rg2 (f := fun pc => okk (eB e_L_law) (eC e_L_law) (eF e_L_law) (eL e_L_law) (t_L_law pc) pc) ok_L_law_300 pc a b
  · exact rg2 (f := fun pc => okk (eB e_L_law) (eC e_L_law) (eF e_L_law) (eL e_L_law) (t_L_law pc) pc) ok_L_law_400 pc a b
  · exact rg2 (f := fun pc => okk (eB e_L_law) (eC e_L_law) (eF e_L_law) (eL e_L_law) (t_L_law pc) pc) ok_L_law_500 pc a b
  · exact rg2 (f := fun pc => okk (eB e_L_law) (eC e_L_law) (eF e_L_law) (eL e_L_law) (t_L_law pc) pc) ok_L_law_600 pc a b
  · exact rg2 (f := fun pc => okk (eB e_L_law) (eC e_L_law) (eF e_L_law) (eL e_L_law) (t_L_law pc) pc) ok_L_law_700 pc a b
  · exact rg2 (f := fun pc => okk (eB e_L_law) (eC e_L_law) (eF e_L_law) (eL e_L_law) (t_L_law pc) pc) ok_L_law_800 pc a b
  · exact rg2 (f := fun pc => okk (eB e_L_law) (eC e_L_law) (eF e_L_law) (eL e_L_law) (t_L_law pc) pc) ok_L_law_900 pc a b
  · exact rg2 (f := fun pc => okk (eB e_L_law) (eC e_L_law) (eF e_L_law) (eL e_L_law) (t_L_law pc) pc) ok_L_law_1000 pc a b
  · exact rg2 (f := fun pc => okk (eB e_L_law) (eC e_L_law) (eF e_L_law) (eL e_L_law) (t_L_law pc) pc) ok_L_law_1100 pc a b
  · exact rg2 (f := fun pc => okk (eB e_L_law) (eC e_L_law) (eF e_L_law) (eL e_L_law) (t_L_law pc) pc) ok_L_law_1200 pc a b
  · exact rg2 (f := fun pc => okk (eB e_L_law) (eC e_L_law) (eF e_L_law) (eL e_L_law) (t_L_law pc) pc) ok_L_law_1300 pc a b
  · exact rg2 (f := fun pc => okk (eB e_L_law) (eC e_L_law) (eF e_L_law) (eL e_L_law) (t_L_law pc) pc) ok_L_law_1400 pc a b
theorem ok_L_law : MOk 237 e_L_law := ⟨rfl, ⟨1475, t_L_law, by funext pc; unfold t_L_law; cases Nat.blt pc 1475 <;> rfl, ok_L_law_t⟩, rfl, by decide +kernel, by decide +kernel⟩
