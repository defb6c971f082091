theorem al0 : allI MOk 0 mts0 := ⟨ok_X0_weave, ok_X0_reorder, ok_X0_turnOver, ok_X0_measure, ok_X0_longestIn, ok_X0_upIn, ok_X0_firstBroken, ok_X0_keeps, ok_X0_hasAtMostUp, ok_X0_isEven, ok_X0_isStepping, ok_X0_isTurning, ok_X0_longestAcross, ok_X0_longestDown, ok_X0_repeatsBy, ok_X0_isNewRow, ok_X0_rowsWithUp, ok_X0_changesOf, ok_X0_weaverOf, ok_X0_nearestTo, ok_X1_become, ok_X1_takePicks, ok_X1_hasCard, ok_X1_hasCards, ok_X1_hasRow, ok_X1_hasLaw, ok_X1_addCard, ok_X1_addPick, ok_X1_addLaw, ok_X1_valueAt, ok_X1_put, trivial⟩
theorem ac0 : allI (fun i e => i < 237 → Cal e) 0 mts0 := ⟨fun _ => ca_X0_weave, fun _ => ca_X0_reorder, fun _ => ca_X0_turnOver, fun _ => ca_X0_measure, fun _ => ca_X0_longestIn, fun _ => ca_X0_upIn, fun _ => ca_X0_firstBroken, fun _ => ca_X0_keeps, fun _ => ca_X0_hasAtMostUp, fun _ => ca_X0_isEven, fun _ => ca_X0_isStepping, fun _ => ca_X0_isTurning, fun _ => ca_X0_longestAcross, fun _ => ca_X0_longestDown, fun _ => ca_X0_repeatsBy, fun _ => ca_X0_isNewRow, fun _ => ca_X0_rowsWithUp, fun _ => ca_X0_changesOf, fun _ => ca_X0_weaverOf, fun _ => ca_X0_nearestTo, fun _ => ca_X1_become, fun _ => ca_X1_takePicks, fun _ => ca_X1_hasCard, fun _ => ca_X1_hasCards, fun _ => ca_X1_hasRow, fun _ => ca_X1_hasLaw, fun _ => ca_X1_addCard, fun _ => ca_X1_addPick, fun _ => ca_X1_addLaw, fun _ => ca_X1_valueAt, fun _ => ca_X1_put, trivial⟩
theorem al1 : allI MOk 31 mts1 := ⟨ok_X1_differences, ok_X1_isToldApartBy, ok_X1_timesPicked, ok_X1_eatenPlaces, ok_X1_lawsInForce, ok_X2_search, ok_X2_begin, ok_X2_tally, ok_X2_advance, ok_X2_swap, ok_X3_begin, ok_X3_isMissing, ok_X3_hasRange, ok_X3_put, ok_X3_threadsIn, ok_X4_addByte, ok_X4_readInto, ok_X4_readItem, ok_X4_readCard, ok_X4_readTie, ok_X4_readOrder, ok_X4_readLaw, ok_X4_nameOf, ok_X4_isWord, ok_X4_advance, ok_X4_readNumber, ok_X4_tokenBegunBy, ok_X5_gather, ok_X5_gatherFrom, ok_X5_search, ok_X5_turnOver, trivial⟩
theorem ac1 : allI (fun i e => i < 237 → Cal e) 31 mts1 := ⟨fun _ => ca_X1_differences, fun _ => ca_X1_isToldApartBy, fun _ => ca_X1_timesPicked, fun _ => ca_X1_eatenPlaces, fun _ => ca_X1_lawsInForce, fun _ => ca_X2_search, fun _ => ca_X2_begin, fun _ => ca_X2_tally, fun _ => ca_X2_advance, fun _ => ca_X2_swap, fun _ => ca_X3_begin, fun _ => ca_X3_isMissing, fun _ => ca_X3_hasRange, fun _ => ca_X3_put, fun _ => ca_X3_threadsIn, fun _ => ca_X4_addByte, fun _ => ca_X4_readInto, fun _ => ca_X4_readItem, fun _ => ca_X4_readCard, fun _ => ca_X4_readTie, fun _ => ca_X4_readOrder, fun _ => ca_X4_readLaw, fun _ => ca_X4_nameOf, fun _ => ca_X4_isWord, fun _ => ca_X4_advance, fun _ => ca_X4_readNumber, fun _ => ca_X4_tokenBegunBy, fun _ => ca_X5_gather, fun _ => ca_X5_gatherFrom, fun _ => ca_X5_search, fun _ => ca_X5_turnOver, trivial⟩
theorem al2 : allI MOk 62 mts2 := ⟨ok_X5_tally, ok_X5_placeOf, ok_X5_inAll, ok_X5_fillInto, ok_X5_mostTelling, ok_X5_leftAtWorse, ok_X6_card, ok_X6_of, ok_X6_punch, ok_X6_at, ok_X6_twin, ok_X6_tie, ok_X6_tied, ok_X6_pick, ok_X6_drop, ok_X6_woven, ok_X6_row, ok_X6_law, ok_X6_lawOf, ok_X6_set, ok_X6_force, ok_X6_as, ok_X6_broken, ok_X6_floats, ok_X6_ways, ok_X6_sure, ok_X6_fill, ok_X6_ask, ok_X6_orders, ok_X6_lay, ok_X6_repeat, trivial⟩
theorem ac2 : allI (fun i e => i < 237 → Cal e) 62 mts2 := ⟨fun _ => ca_X5_tally, fun _ => ca_X5_placeOf, fun _ => ca_X5_inAll, fun _ => ca_X5_fillInto, fun _ => ca_X5_mostTelling, fun _ => ca_X5_leftAtWorse, fun _ => ca_X6_card, fun _ => ca_X6_of, fun _ => ca_X6_punch, fun _ => ca_X6_at, fun _ => ca_X6_twin, fun _ => ca_X6_tie, fun _ => ca_X6_tied, fun _ => ca_X6_pick, fun _ => ca_X6_drop, fun _ => ca_X6_woven, fun _ => ca_X6_row, fun _ => ca_X6_law, fun _ => ca_X6_lawOf, fun _ => ca_X6_set, fun _ => ca_X6_force, fun _ => ca_X6_as, fun _ => ca_X6_broken, fun _ => ca_X6_floats, fun _ => ca_X6_ways, fun _ => ca_X6_sure, fun _ => ca_X6_fill, fun _ => ca_X6_ask, fun _ => ca_X6_orders, fun _ => ca_X6_lay, fun _ => ca_X6_repeat, trivial⟩
theorem al3 : allI MOk 93 mts3 := ⟨ok_X6_unlike, ok_X6_tells, ok_X6_thread, ok_X6_feed, ok_X6_wipe, ok_X6_loom, ok_X6_sheet, ok_X6_write, ok_X6_copy, ok_X6_draw, ok_X6_read, ok_X6_whose, ok_X6_nearest, ok_X6_crossings, ok_X6_mark, ok_X6_order, ok_X6_image, ok_X6_undo, ok_X6_tear, ok_X6_count, ok_X6_status, ok_X6_refuse, ok_X6_sheetFinding, ok_X6_numberFinding, ok_X6_isHook, ok_X6_isHookSet, ok_X6_isThread, ok_X6_isKind, ok_X6_isLimit, ok_X6_isSheet, ok_X6_isOrIsUnder, trivial⟩
theorem ac3 : allI (fun i e => i < 237 → Cal e) 93 mts3 := ⟨fun _ => ca_X6_unlike, fun _ => ca_X6_tells, fun _ => ca_X6_thread, fun _ => ca_X6_feed, fun _ => ca_X6_wipe, fun _ => ca_X6_loom, fun _ => ca_X6_sheet, fun _ => ca_X6_write, fun _ => ca_X6_copy, fun _ => ca_X6_draw, fun _ => ca_X6_read, fun _ => ca_X6_whose, fun _ => ca_X6_nearest, fun _ => ca_X6_crossings, fun _ => ca_X6_mark, fun _ => ca_X6_order, fun _ => ca_X6_image, fun _ => ca_X6_undo, fun _ => ca_X6_tear, fun _ => ca_X6_count, fun _ => ca_X6_status, fun _ => ca_X6_refuse, fun _ => ca_X6_sheetFinding, fun _ => ca_X6_numberFinding, fun _ => ca_X6_isHook, fun _ => ca_X6_isHookSet, fun _ => ca_X6_isThread, fun _ => ca_X6_isKind, fun _ => ca_X6_isLimit, fun _ => ca_X6_isSheet, fun _ => ca_X6_isOrIsUnder, trivial⟩
theorem al4 : allI MOk 124 mts4 := ⟨ok_X7_finds, ok_X7_in, ok_X7_copies, ok_X7_isCard, ok_X7_isLaw, ok_X7_ones, ok_X7_comes, ok_X7_card, ok_X7_upBy, ok_X7_oftenIn, ok_X7_of, ok_X7_hasAt, ok_X7_punches, ok_X7_punch, ok_X7_at, ok_X7_twin, ok_X7_tie, ok_X7_tied, ok_X7_pick, ok_X7_drop, ok_X7_isRow, ok_X7_woven, ok_X7_holesOf, ok_X7_rowOf, ok_X7_row, ok_X7_law, ok_X7_lawComes, ok_X7_weaves, ok_X7_hasFew, ok_X7_isEven, ok_X7_longest, trivial⟩
theorem ac4 : allI (fun i e => i < 237 → Cal e) 124 mts4 := ⟨fun _ => ca_X7_finds, fun _ => ca_X7_in, fun _ => ca_X7_copies, fun _ => ca_X7_isCard, fun _ => ca_X7_isLaw, fun _ => ca_X7_ones, fun _ => ca_X7_comes, fun _ => ca_X7_card, fun _ => ca_X7_upBy, fun _ => ca_X7_oftenIn, fun _ => ca_X7_of, fun _ => ca_X7_hasAt, fun _ => ca_X7_punches, fun _ => ca_X7_punch, fun _ => ca_X7_at, fun _ => ca_X7_twin, fun _ => ca_X7_tie, fun _ => ca_X7_tied, fun _ => ca_X7_pick, fun _ => ca_X7_drop, fun _ => ca_X7_isRow, fun _ => ca_X7_woven, fun _ => ca_X7_holesOf, fun _ => ca_X7_rowOf, fun _ => ca_X7_row, fun _ => ca_X7_law, fun _ => ca_X7_lawComes, fun _ => ca_X7_weaves, fun _ => ca_X7_hasFew, fun _ => ca_X7_isEven, fun _ => ca_X7_longest, trivial⟩
theorem al5 : allI MOk 155 mts5 := ⟨ok_X7_tightest, ok_X7_steps, ok_X7_isTurned, ok_X7_isKeptBy, ok_X7_firstBroken, ok_X7_lawOf, ok_X7_set, ok_X7_force, ok_X7_isOf, ok_X7_as, ok_X7_broken, ok_X7_floats, ok_X7_findPlaces, ok_X7_fills, ok_X7_findWays, ok_X7_ways, ok_X7_withHole, ok_X7_sure, ok_X7_fill, ok_X7_ask, ok_X7_nextLine, ok_X7_goesThrough, ok_X7_whyNot, ok_X7_orders, ok_X7_lay, ok_X7_repeatsBy, ok_X7_repeat, ok_X7_unlike, ok_X7_tellsApart, ok_X7_tells, ok_X7_thread, trivial⟩
theorem ac5 : allI (fun i e => i < 237 → Cal e) 155 mts5 := ⟨fun _ => ca_X7_tightest, fun _ => ca_X7_steps, fun _ => ca_X7_isTurned, fun _ => ca_X7_isKeptBy, fun _ => ca_X7_firstBroken, fun _ => ca_X7_lawOf, fun _ => ca_X7_set, fun _ => ca_X7_force, fun _ => ca_X7_isOf, fun _ => ca_X7_as, fun _ => ca_X7_broken, fun _ => ca_X7_floats, fun _ => ca_X7_findPlaces, fun _ => ca_X7_fills, fun _ => ca_X7_findWays, fun _ => ca_X7_ways, fun _ => ca_X7_withHole, fun _ => ca_X7_sure, fun _ => ca_X7_fill, fun _ => ca_X7_ask, fun _ => ca_X7_nextLine, fun _ => ca_X7_goesThrough, fun _ => ca_X7_whyNot, fun _ => ca_X7_orders, fun _ => ca_X7_lay, fun _ => ca_X7_repeatsBy, fun _ => ca_X7_repeat, fun _ => ca_X7_unlike, fun _ => ca_X7_tellsApart, fun _ => ca_X7_tells, fun _ => ca_X7_thread, trivial⟩
theorem al6 : allI MOk 186 mts6 := ⟨ok_X7_feed, ok_X7_wipe, ok_X7_letter, ok_X7_isDigit, ok_X7_isPunch, ok_X7_byteAt, ok_X7_next, ok_X7_wrongHere, ok_X7_isWord, ok_X7_kindHere, ok_X7_numberHere, ok_X7_cardHere, ok_X7_tieHere, ok_X7_orderHere, ok_X7_lawHere, ok_X7_item, ok_X7_items, ok_X7_loom, ok_X7_isSheet, ok_X7_sheet, ok_X7_puts, ok_X7_whyNone, ok_X7_whyNoNumber, ok_X7_write, ok_X7_copy, ok_X7_told, ok_X7_draw, ok_X7_read, ok_X7_weaver, ok_X7_whose, ok_X7_farOf, trivial⟩
theorem ac6 : allI (fun i e => i < 237 → Cal e) 186 mts6 := ⟨fun _ => ca_X7_feed, fun _ => ca_X7_wipe, fun _ => ca_X7_letter, fun _ => ca_X7_isDigit, fun _ => ca_X7_isPunch, fun _ => ca_X7_byteAt, fun _ => ca_X7_next, fun _ => ca_X7_wrongHere, fun _ => ca_X7_isWord, fun _ => ca_X7_kindHere, fun _ => ca_X7_numberHere, fun _ => ca_X7_cardHere, fun _ => ca_X7_tieHere, fun _ => ca_X7_orderHere, fun _ => ca_X7_lawHere, fun _ => ca_X7_item, fun _ => ca_X7_items, fun _ => ca_X7_loom, fun _ => ca_X7_isSheet, fun _ => ca_X7_sheet, fun _ => ca_X7_puts, fun _ => ca_X7_whyNone, fun _ => ca_X7_whyNoNumber, fun _ => ca_X7_write, fun _ => ca_X7_copy, fun _ => ca_X7_told, fun _ => ca_X7_draw, fun _ => ca_X7_read, fun _ => ca_X7_weaver, fun _ => ca_X7_whose, fun _ => ca_X7_farOf, trivial⟩
theorem al7 : allI MOk 217 mts7 := ⟨ok_X7_nearestTo, ok_X7_nearest, ok_X7_crossings, ok_X7_mark, ok_X7_order, ok_X7_image, ok_X7_undo, ok_X7_tear, ok_X7_sumOf, ok_X7_count, ok_X7_status, ok_J6_numberOfTrailingZeros_0f7a4, ok_J6_bitCount_0f7a4, ok_J0_length_8abf5, ok_J0_charAt_5068e, ok_J0_coder_7d493, ok_J0_isLatin1_aae02, ok_J0_checkIndex_df160, ok_J1_charAt_3b067, ok_J3_checkIndex_8e157, ok_L_law, trivial⟩
theorem ac7 : allI (fun i e => i < 237 → Cal e) 217 mts7 := ⟨fun _ => ca_X7_nearestTo, fun _ => ca_X7_nearest, fun _ => ca_X7_crossings, fun _ => ca_X7_mark, fun _ => ca_X7_order, fun _ => ca_X7_image, fun _ => ca_X7_undo, fun _ => ca_X7_tear, fun _ => ca_X7_sumOf, fun _ => ca_X7_count, fun _ => ca_X7_status, fun _ => ca_J6_numberOfTrailingZeros_0f7a4, fun _ => ca_J6_bitCount_0f7a4, fun _ => ca_J0_length_8abf5, fun _ => ca_J0_charAt_5068e, fun _ => ca_J0_coder_7d493, fun _ => ca_J0_isLatin1_aae02, fun _ => ca_J0_checkIndex_df160, fun _ => ca_J1_charAt_3b067, fun _ => ca_J3_checkIndex_8e157, fun h => absurd h (by decide), trivial⟩
theorem all_ok {mid : Nat} {e : ME} (h : mts[mid]? = some e) : MOk mid e := by
  have := allI_get (n := 0) (allI_app al0 (allI_app al1 (allI_app al2 (allI_app al3 (allI_app al4 (allI_app al5 (allI_app al6 (al7)))))))) h
  rwa [Nat.zero_add] at this
theorem all_cal {mid : Nat} {e : ME} (h : mts[mid]? = some e) (hm : mid < 237) : Cal e := by
  have := allI_get (n := 0) (allI_app ac0 (allI_app ac1 (allI_app ac2 (allI_app ac3 (allI_app ac4 (allI_app ac5 (allI_app ac6 (ac7)))))))) h
  rw [Nat.zero_add] at this
  exact this hm
def statM : List (String × Int64) := [("W_CARD", 60268), ("W_EVEN", 114602), ("W_LAW", 8798), ("W_LONG", 247516), ("W_ORDER", 8328978), ("W_STEP", 388708), ("W_TIE", 14828), ("W_TIGHT", 10811306), ("W_TURN", 409469)]
def tAtL (p : Option Nat) (w : Cond) : Bool := match p with
  | some p => decide (lw_tbl[p]? = some w)
  | none => false
theorem tAtL_ok {p : Option Nat} {w : Cond} (h : tAtL p w = true) : w ∈ lw_tbl := by
  unfold tAtL at h
  split at h
  · exact List.mem_of_getElem? (of_decide_eq_true h)
  · cases h
def lokb (c i : Nat) (p : Option Nat) (r : LK) : Bool := match r with
  | .inl (ci, kk) => (match vwCl[ci]? with
    | some (_, T, N) => decide (kk < N) && tAt p (.fieldLink (Rn c) i (T kk).1 (T kk).2.1 (T kk).2.2.1)
    | none => false)
  | .inr (.inl (.int x)) => tAt p (.constant (Rn c) i x)
  | .inr (.inl (.long x)) => tAt p (.constantLong (Rn c) i x)
  | .inr (.inr (.inl (.ref a))) => Nat.beq a 1002 && tAt p (.fieldLink (Rn c) i "LoomCards" "OVER" "[I")
  | .inr (.inr (.inl (.long x))) => statM.any (fun q => decide (q.2 = x) && tAt p (.fieldLink (Rn c) i "LoomCardsModel" q.1 "J"))
  | .inr (.inr (.inr (cm, stt, n, mx))) => cond (Nat.beq cm 9999) (tAt p (.methodLink (Rn c) i arraycopyName) && stt) (cond (Nat.beq cm 9998) (tAt p (.methodLink (Rn c) i Lib.Math.max.name) && stt) (cond (Nat.beq cm 9997) (tAt p (.methodLink (Rn c) i Lib.Math.min.name) && stt) (match mts[cm]? with
    | some e => (decide (cm < 237) && (eS e == stt && Nat.beq mx (eM e))) && (decide ((parseMethodDescriptor e.1.desc).map (fun d => d.parameters.length) = some n) && (tAt p (.methodLink (Rn c) i e.1) || (stt && tAtL p (.methodLinkNest (Rn c) i e.1 "LoomCards"))))
    | none => false)))
  | _ => false
def lchk (c i : Nat) : Bool := match lk c i with
  | none => true
  | some r => lokb c i (pk c i) r
theorem lc_0 : (List.range 1060).all (lchk 0) = true := by decide +kernel
theorem lc_1 : (List.range 1060).all (lchk 1) = true := by decide +kernel
theorem lc_2 : (List.range 1060).all (lchk 2) = true := by decide +kernel
theorem lc_3 : (List.range 1060).all (lchk 3) = true := by decide +kernel
theorem lc_4 : (List.range 1060).all (lchk 4) = true := by decide +kernel
theorem lc_5 : (List.range 1060).all (lchk 5) = true := by decide +kernel
theorem lc_6 : (List.range 1060).all (lchk 6) = true := by decide +kernel
theorem lc_7 : (List.range 1060).all (lchk 7) = true := by decide +kernel
theorem lc_8 : (List.range 1060).all (lchk 8) = true := by decide +kernel
theorem lc_9 : (List.range 1060).all (lchk 9) = true := by decide +kernel
theorem lc_10 : (List.range 1060).all (lchk 10) = true := by decide +kernel
theorem lc_11 : (List.range 1060).all (lchk 11) = true := by decide +kernel
theorem lc_12 : (List.range 1060).all (lchk 12) = true := by decide +kernel
theorem lc_13 : (List.range 1060).all (lchk 13) = true := by decide +kernel
theorem lc_14 : (List.range 1060).all (lchk 14) = true := by decide +kernel
theorem lc_15 : (List.range 1060).all (lchk 15) = true := by decide +kernel
theorem lk_ok {c i : Nat} {r : LK} (h : lk c i = some r) : lokb c i (pk c i) r = true := by
  obtain ⟨h1, h2⟩ := lk_lt h
  have key : lchk c i = true := by
    have hi : i ∈ List.range 1060 := List.mem_range.mpr h2
    have hc : c = 0 ∨ c = 1 ∨ c = 2 ∨ c = 3 ∨ c = 4 ∨ c = 5 ∨ c = 6 ∨ c = 7 ∨ c = 8 ∨ c = 9 ∨ c = 10 ∨ c = 11 ∨ c = 12 ∨ c = 13 ∨ c = 14 ∨ c = 15 := by omega
    rcases hc with rfl | rfl | rfl | rfl | rfl | rfl | rfl | rfl | rfl | rfl | rfl | rfl | rfl | rfl | rfl | rfl
    · exact List.all_eq_true.mp lc_0 i hi
    · exact List.all_eq_true.mp lc_1 i hi
    · exact List.all_eq_true.mp lc_2 i hi
    · exact List.all_eq_true.mp lc_3 i hi
    · exact List.all_eq_true.mp lc_4 i hi
    · exact List.all_eq_true.mp lc_5 i hi
    · exact List.all_eq_true.mp lc_6 i hi
    · exact List.all_eq_true.mp lc_7 i hi
    · exact List.all_eq_true.mp lc_8 i hi
    · exact List.all_eq_true.mp lc_9 i hi
    · exact List.all_eq_true.mp lc_10 i hi
    · exact List.all_eq_true.mp lc_11 i hi
    · exact List.all_eq_true.mp lc_12 i hi
    · exact List.all_eq_true.mp lc_13 i hi
    · exact List.all_eq_true.mp lc_14 i hi
    · exact List.all_eq_true.mp lc_15 i hi
  unfold lchk at key
  rw [h] at key
  exact key
def shchk (o : Nat) : Bool := match sh o with
  | some (.inl (ci, fs)) => (match vwCl[ci]? with
    | some (_, T, N) => Nat.beq fs.length N && (List.range N).all (fun k => match fs[k]? with
      | some 0 => decide ((T k).2.2.1 = "I") && !(T k).2.2.2
      | some 1 => decide ((T k).2.2.1 = "J") && !(T k).2.2.2
      | some 2 => decide ((T k).2.2.1 = "Z") && !(T k).2.2.2
      | some _ => true
      | none => false)
    | none => false)
  | some (.inr (k, _, _)) => Nat.ble k 3
  | none => false
theorem sh_all : (List.range 66).all shchk = true := by decide +kernel
theorem sh_ok {o : Nat} {q : SH} (h : sh o = some q) : shchk o = true := List.all_eq_true.mp sh_all o (List.mem_range.mpr (sh_lt h))
theorem vw_in {ci : Nat} {C : String} {T : u_T} {N : Nat} (h : vwCl[ci]? = some (C, T, N)) : (∀ w ∈ u_ws C T N, w ∈ tb) ∧ (∀ a, a < N → ∀ b, b < N → a ≠ b → (T a).2.1 ≠ (T b).2.1) ∧ ∃ ty0 : Nat → FieldType, ∀ k, k < N → parseFieldDescriptor (T k).2.2.1 = some (ty0 k) := by
  match ci, h with
  | 0, h => cases h; exact ⟨tb_u inX0, nmX0, tyX0, tyX0_ok⟩
  | 1, h => cases h; exact ⟨tb_u inX1, nmX1, tyX1, tyX1_ok⟩
  | 2, h => cases h; exact ⟨tb_u inX2, nmX2, tyX2, tyX2_ok⟩
  | 3, h => cases h; exact ⟨tb_u inX3, nmX3, tyX3, tyX3_ok⟩
  | 4, h => cases h; exact ⟨tb_u inX4, nmX4, tyX4, tyX4_ok⟩
  | 5, h => cases h; exact ⟨tb_u inX5, nmX5, tyX5, tyX5_ok⟩
  | 6, h => cases h; exact ⟨tb_u inX6, nmX6, tyX6, tyX6_ok⟩
  | 7, h => cases h; exact ⟨tb_u inX7, nmX7, tyX7, tyX7_ok⟩
  | k + 8, h => simp [vwCl] at h
