/-! what lies outside: statics, strings, the script; the first heap -/
section OUT
abbrev FLT : List Cond := flatC (Jvm.Cond.and given_1 narrow_1)
def tmS (i : Nat) : Term := .string "LoomCards$Text" (strK.getD i 0)
theorem ft_ex : ∀ i, i < 10 → Cond.exactly (tmS i) "java/lang/String" ∈ FLT := by decide +kernel
theorem ft_co : ∀ i, i < 10 → Cond.eq (.field (tmS i) "java/lang/String" "coder" "B") (.int 0) ∈ FLT := by decide +kernel
theorem ft_ar : ∀ i, i < 10 → Cond.arrayOf (.field (tmS i) "java/lang/String" "value" "[B") .byte ∈ FLT := by decide +kernel
theorem ft_le : ∀ i, i < 10 → Cond.eq (.length (.field (tmS i) "java/lang/String" "value" "[B")) (.int (Int32.ofNat (strN.getD i 0))) ∈ FLT := by decide +kernel
theorem ft_el : ∀ i, i < 10 → ∀ j, j < strN.getD i 0 → Cond.eq (.elem (.field (tmS i) "java/lang/String" "value" "[B") (.int (Int32.ofNat j))) (.int ((strB.getD i []).getD j 0)) ∈ FLT := by decide +kernel
theorem ft_ne : ∀ i, i < 10 → ∀ j, j < 10 → i ≠ j → Cond.not (Cond.eq (tmS i) (tmS j)) ∈ FLT ∨ Cond.not (Cond.eq (tmS j) (tmS i)) ∈ FLT := by decide +kernel
theorem ft_n : ∀ i, i < 10 → strN.getD i 0 < 2 ^ 31 := by decide +kernel
theorem ft_ov : Cond.arrayOf (.static "LoomCards" "OVER" "[I") .int ∈ FLT ∧ Cond.eq (.length (.static "LoomCards" "OVER" "[I")) (.int (Int32.ofNat 6)) ∈ FLT ∧ ∀ j, j < 6 → Cond.eq (.elem (.static "LoomCards" "OVER" "[I") (.int (Int32.ofNat j))) (.int (ovf j)) ∈ FLT := by decide +kernel
theorem ft_w : ∀ q ∈ statM, Cond.eq (.static "LoomCardsModel" q.1 "J") (.long q.2) ∈ FLT := by decide +kernel
theorem ft_cs : Cond.eq (.static "java/lang/String" "COMPACT_STRINGS" "Z") (.int 1) ∈ FLT := by decide +kernel
theorem ft_si : Cond.isRef (.static "jdk/internal/util/Preconditions" "SIOOBE_FORMATTER" "Ljava/util/function/BiFunction;") ∈ FLT := by decide +kernel
theorem ls_ov : Cond.laysStatic "LoomCards" "OVER" "[I" ∈ lw_tbl := tAtL_ok (p := some 517) (by decide +kernel)
theorem ls_cs : Cond.laysStatic "java/lang/String" "COMPACT_STRINGS" "Z" ∈ lw_tbl := tAtL_ok (p := some 738) (by decide +kernel)
theorem ls_si : Cond.laysStatic "jdk/internal/util/Preconditions" "SIOOBE_FORMATTER" "Ljava/util/function/BiFunction;" ∈ lw_tbl := tAtL_ok (p := some 754) (by decide +kernel)
theorem li_lc : Cond.initialized "LoomCards" ∈ lw_tbl := tAtL_ok (p := some 75) (by decide +kernel)
theorem li_lm : Cond.initialized "LoomCardsModel" ∈ lw_tbl := tAtL_ok (p := some 82) (by decide +kernel)
theorem li_st : Cond.initialized "java/lang/String" ∈ lw_tbl := tAtL_ok (p := some 86) (by decide +kernel)
theorem li_pr : Cond.initialized "jdk/internal/util/Preconditions" ∈ lw_tbl := tAtL_ok (p := some 88) (by decide +kernel)
theorem ls_W_CARD : Cond.laysStatic "LoomCardsModel" "W_CARD" "J" ∈ lw_tbl := tAtL_ok (p := some 1319) (by decide +kernel)
theorem ls_W_EVEN : Cond.laysStatic "LoomCardsModel" "W_EVEN" "J" ∈ lw_tbl := tAtL_ok (p := some 1309) (by decide +kernel)
theorem ls_W_LAW : Cond.laysStatic "LoomCardsModel" "W_LAW" "J" ∈ lw_tbl := tAtL_ok (p := some 1303) (by decide +kernel)
theorem ls_W_LONG : Cond.laysStatic "LoomCardsModel" "W_LONG" "J" ∈ lw_tbl := tAtL_ok (p := some 1311) (by decide +kernel)
theorem ls_W_ORDER : Cond.laysStatic "LoomCardsModel" "W_ORDER" "J" ∈ lw_tbl := tAtL_ok (p := some 1340) (by decide +kernel)
theorem ls_W_STEP : Cond.laysStatic "LoomCardsModel" "W_STEP" "J" ∈ lw_tbl := tAtL_ok (p := some 1313) (by decide +kernel)
theorem ls_W_TIE : Cond.laysStatic "LoomCardsModel" "W_TIE" "J" ∈ lw_tbl := tAtL_ok (p := some 1330) (by decide +kernel)
theorem ls_W_TIGHT : Cond.laysStatic "LoomCardsModel" "W_TIGHT" "J" ∈ lw_tbl := tAtL_ok (p := some 1315) (by decide +kernel)
theorem ls_W_TURN : Cond.laysStatic "LoomCardsModel" "W_TURN" "J" ∈ lw_tbl := tAtL_ok (p := some 1317) (by decide +kernel)
theorem ls_w : ∀ q ∈ statM, Cond.laysStatic "LoomCardsModel" q.1 "J" ∈ lw_tbl := List.forall_mem_cons.mpr ⟨ls_W_CARD, List.forall_mem_cons.mpr ⟨ls_W_EVEN, List.forall_mem_cons.mpr ⟨ls_W_LAW, List.forall_mem_cons.mpr ⟨ls_W_LONG, List.forall_mem_cons.mpr ⟨ls_W_ORDER, List.forall_mem_cons.mpr ⟨ls_W_STEP, List.forall_mem_cons.mpr ⟨ls_W_TIE, List.forall_mem_cons.mpr ⟨ls_W_TIGHT, List.forall_mem_cons.mpr ⟨ls_W_TURN, fun _ h => absurd h List.not_mem_nil⟩⟩⟩⟩⟩⟩⟩⟩⟩
theorem lr_0 : Cond.stringRef "LoomCards$Text" 38 "card" ∈ lw_tbl := tAtL_ok (p := some 724) (by decide +kernel)
theorem lr_1 : Cond.stringRef "LoomCards$Text" 47 "tie" ∈ lw_tbl := tAtL_ok (p := some 782) (by decide +kernel)
theorem lr_2 : Cond.stringRef "LoomCards$Text" 52 "order" ∈ lw_tbl := tAtL_ok (p := some 789) (by decide +kernel)
theorem lr_3 : Cond.stringRef "LoomCards$Text" 103 "law" ∈ lw_tbl := tAtL_ok (p := some 799) (by decide +kernel)
theorem lr_4 : Cond.stringRef "LoomCards$Text" 105 "even" ∈ lw_tbl := tAtL_ok (p := some 800) (by decide +kernel)
theorem lr_5 : Cond.stringRef "LoomCards$Text" 107 "long" ∈ lw_tbl := tAtL_ok (p := some 801) (by decide +kernel)
theorem lr_6 : Cond.stringRef "LoomCards$Text" 109 "step" ∈ lw_tbl := tAtL_ok (p := some 802) (by decide +kernel)
theorem lr_7 : Cond.stringRef "LoomCards$Text" 111 "tight" ∈ lw_tbl := tAtL_ok (p := some 803) (by decide +kernel)
theorem lr_8 : Cond.stringRef "LoomCards$Text" 113 "turn" ∈ lw_tbl := tAtL_ok (p := some 804) (by decide +kernel)
theorem lr_9 : Cond.stringRef "LoomCards$Text" 115 "" ∈ lw_tbl := tAtL_ok (p := some 805) (by decide +kernel)
theorem lr_all : ∀ i : Nat, i < 10 → Cond.stringRef "LoomCards$Text" (strK.getD i 0) (strT.getD i "") ∈ lw_tbl := fun i hi => by
  rcases (show i = 0 ∨ i = 1 ∨ i = 2 ∨ i = 3 ∨ i = 4 ∨ i = 5 ∨ i = 6 ∨ i = 7 ∨ i = 8 ∨ i = 9 by omega) with rfl | rfl | rfl | rfl | rfl | rfl | rfl | rfl | rfl | rfl
  · exact lr_0
  · exact lr_1
  · exact lr_2
  · exact lr_3
  · exact lr_4
  · exact lr_5
  · exact lr_6
  · exact lr_7
  · exact lr_8
  · exact lr_9
/-- where each cell lies -/
def rhoF (ads : List Nat) (b tO fl tF : Nat) (adK adV : Nat → Nat) : Nat → Nat := fun o => if o < 66 then ads.getD o 0 else if o < 2000 then (if o = 1000 then b else tO) else if o < 2100 then adK (o - 2000) else if o < 2999 then adV (o - 2100) else if o = 2999 then fl else tF
theorem ex_of {s : State} {b L : Nat} {xs : Nat → Int32} (hts : ∀ w ∈ lw_tbl, w.before #[Value.ref b] s = true) (hX : va_X b L xs s s.heap) (hbl : b < s.heap.size) (hL : L ≤ 3072) (hgv : (Jvm.Cond.and given_1 narrow_1).before #[Value.ref b] s = true) : ∃ (tO fl tF : Nat) (adK adV : Nat → Nat), ∀ ads : List Nat, Ex (rhoF ads b tO fl tF adK adV) (fun q => s.heap.size ≤ q) (L, xs) s := by
  have hs := flat_of_before _ hgv
  have hA : ∀ a : Nat, a < s.heap.size → ¬ (fun q : Nat => s.heap.size ≤ q) a := fun a h => Nat.not_le.mpr h
  obtain ⟨tO, eO, hO⟩ := va_Tof (tm := .static "LoomCards" "OVER" "[I") (f := fun j => .int (ovf j)) (A := fun q => s.heap.size ≤ q) (by decide) (hs _ ft_ov.1) (va_eqt (hs _ ft_ov.2.1)) (fun j hj => va_eqt (hs _ (ft_ov.2.2 j hj))) hA
  obtain ⟨adK, adV, hS, hK⟩ := vk_Sof (N := 10) (tm := tmS) (len := strN) (byt := strB) (A := fun q => s.heap.size ≤ q) ft_n (fun i hi => hs _ (ft_ex i hi)) (fun i hi => hs _ (ft_co i hi)) (fun i hi => hs _ (ft_ar i hi)) (fun i hi => hs _ (ft_le i hi)) (fun i hi j hj => hs _ (ft_el i hi j hj)) (fun i j hi hj ne => (ft_ne i hi j hj ne).elim (fun z => Or.inl (hs _ z)) (fun z => Or.inr (hs _ z))) hA
  have hZO := va_Zref (A := fun q => s.heap.size ≤ q) (hts _ ls_ov) (hts _ li_lc) eO hA
  have hZC := va_Zof (A := fun q => s.heap.size ≤ q) (hts _ ls_cs) (hts _ li_st) (va_eqi (hs _ ft_cs)) hA
  have hZW : ∀ q ∈ statM, va_Z "LoomCardsModel" q.1 "J" (.long q.2) (fun q => s.heap.size ≤ q) s s.heap := fun q hq => va_Zof (hts _ (ls_w q hq)) (hts _ li_lm) (va_eql (hs _ (ft_w q hq))) hA
  obtain ⟨fl, tF, hZS⟩ : ∃ fl tF : Nat, va_Z "jdk/internal/util/Preconditions" "SIOOBE_FORMATTER" "Ljava/util/function/BiFunction;" (if fl = 0 then .null else .ref tF) (fun q => s.heap.size ≤ q) s s.heap := by
    rcases va_Zqof (A := fun q => s.heap.size ≤ q) (hts _ ls_si) (hts _ li_pr) (hs _ ft_si) hA with z | ⟨t, z⟩
    · exact ⟨0, 0, z⟩
    · exact ⟨1, t, z⟩
  refine ⟨tO, fl, tF, adK, adV, fun ads => ?_⟩
  have rK : ∀ i, i < 10 → rhoF ads b tO fl tF adK adV (2000 + i) = adK i := fun i hi => by
    unfold rhoF
    rw [if_neg (by omega), if_neg (by omega), if_pos (by omega), show 2000 + i - 2000 = i by omega]
  have rV : ∀ i, i < 10 → rhoF ads b tO fl tF adK adV (2100 + i) = adV i := fun i hi => by
    unfold rhoF
    rw [if_neg (by omega), if_neg (by omega), if_neg (by omega), if_pos (by omega), show 2100 + i - 2100 = i by omega]
  refine ⟨?_, hO, hZO, hZW, by show L < 2 ^ 31; omega, hZC, hZS, fun i hi => ?_, ⟨fun i hi => ?_, fun i j hi hj e => ?_⟩, fun own i y host hw => va_Nw.of rfl (hts _ hw)⟩
  · obtain ⟨scr, h1, h2, h3, h4, h5⟩ := hX
    exact ⟨scr, h1, h2, h3, by show L ≤ _; omega, by rw [h4], h5, Nat.not_le.mpr hbl⟩
  · rw [rK i hi]
    exact vk_R.of (hts _ (lr_all i hi)) (hK i hi)
  · dsimp only
    rw [rK i hi, rV i hi]
    exact hS.1 i hi
  · have e : rhoF ads b tO fl tF adK adV (2000 + i) = rhoF ads b tO fl tF adK adV (2000 + j) := e
    rw [rK i hi, rK j hj] at e
    exact hS.2 i j hi hj e
/-- the first heap -/
def hp0 : Hp := (fun c => match c with
  | 17 => tiF 16
  | 24 => tiF 16
  | 31 => tiF 16
  | 53 => diF 16
  | _ => fun _ => 0, fun _ _ => 0)
theorem ti_v : ∀ t, t < 16 → tiF 16 t = nI (t % 8) := by decide +kernel
theorem di_v : ∀ t, t < 16 → diF 16 (24 + t) = nI (t % 8) := by decide +kernel
theorem di_0 : diF 16 0 = 0 ∧ diF 16 1 = 0 ∧ diF 16 2 = 0 := by decide +kernel
def V00 : Vw := fun a b => if a = 3 then b % 8 else 0
theorem inv_0 : Inv hp0 := by
  refine ⟨V00, ⟨⟨by decide, by decide, by decide⟩, fun c hc => absurd hc (by show ¬ c < 0; omega), fun t ht => ?_, fun i hi => absurd hi (by show ¬ i < 0; omega), fun l hl => absurd hl (by show ¬ l < 0; omega)⟩, ⟨⟨rfl, rfl, rfl⟩, fun c hc => absurd hc (by show ¬ c < 0; omega), fun t ht => ti_v t ht, fun i hi => absurd hi (by show ¬ i < 0; omega), fun l hl => absurd hl (by show ¬ l < 0; omega)⟩, ⟨⟨di_0.1, di_0.2.1, di_0.2.2⟩, fun c hc => absurd hc (by show ¬ c < 0; omega), fun t ht => di_v t ht, fun i hi => absurd hi (by show ¬ i < 0; omega), fun l hl => absurd hl (by show ¬ l < 0; omega)⟩, Or.inl ⟨rfl, rfl⟩, fun k _ => rfl, ⟨0, by omega, rfl, rfl, fun i hi => absurd hi (by omega)⟩, fun s hs => ⟨0, 0, Or.inl rfl, by omega, fun _ => rfl, ?_, rfl, ?_, rfl, fun i hi => absurd hi (by omega)⟩⟩
  · show t % 8 < 8
    omega
  · rcases (show s = 0 ∨ s = 1 ∨ s = 2 ∨ s = 3 by omega) with rfl | rfl | rfl | rfl <;> rfl
  · rcases (show s = 0 ∨ s = 1 ∨ s = 2 ∨ s = 3 by omega) with rfl | rfl | rfl | rfl <;> rfl
end OUT
