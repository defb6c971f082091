theorem ws_ac : Cond.native arraycopyName ∈ tb ∧ Cond.static arraycopyName ∈ tb ∧ Cond.initialized "java/lang/System" ∈ tb := ⟨tAt_ok (p := some 627) (by decide +kernel), tAt_ok (p := some 626) (by decide +kernel), tAt_ok (p := some 85) (by decide +kernel)⟩
theorem ws_mx : Cond.static Lib.Math.max.name ∈ tb ∧ Cond.initialized "java/lang/Math" ∈ tb ∧ Cond.code Lib.Math.max.name Lib.Math.max.code 2 (some .int) ∈ tb := ⟨tAt_ok (p := some 485) (by decide +kernel), tAt_ok (p := some 84) (by decide +kernel), tAt_ok (p := some 486) (by decide +kernel)⟩
theorem ws_mi : Cond.static Lib.Math.min.name ∈ tb ∧ Cond.initialized "java/lang/Math" ∈ tb ∧ Cond.code Lib.Math.min.name Lib.Math.min.code 2 (some .int) ∈ tb := ⟨tAt_ok (p := some 377) (by decide +kernel), tAt_ok (p := some 84) (by decide +kernel), tAt_ok (p := some 378) (by decide +kernel)⟩
theorem ws_st : Cond.fieldLink "java/lang/String" 9 "java/lang/String" "value" "[B" ∈ tb ∧ Cond.fieldLink "java/lang/String" 15 "java/lang/String" "coder" "B" ∈ tb ∧ Cond.fieldLink "java/lang/String" 38 "java/lang/String" "COMPACT_STRINGS" "Z" ∈ tb ∧ Cond.fieldLink "java/lang/String" 1053 "jdk/internal/util/Preconditions" "SIOOBE_FORMATTER" "Ljava/util/function/BiFunction;" ∈ tb := ⟨tAt_ok (p := some 1448) (by decide +kernel), tAt_ok (p := some 1449) (by decide +kernel), tAt_ok (p := some 737) (by decide +kernel), tAt_ok (p := some 753) (by decide +kernel)⟩
theorem tab_ok {mid pc l : Nat} {e : ME} {i : Instr} (hM : MOk mid e) (ht : tab mid pc = some (i, l)) : decode (eB e) pc = .ok (i, l) ∧ lenOk i l = true ∧ callOk (eC e) (eF e) (eL e) i = true := by
  obtain ⟨h1, ⟨N, f, h2, h3⟩, -⟩ := hM
  rw [h1, h2] at ht
  have ht : cond (Nat.blt pc N) (f pc) none = some (i, l) := ht
  obtain ⟨h4, h5⟩ := cond_some ht
  have h6 := h3 pc (blt_lt h4)
  unfold okk at h6
  rw [h5] at h6
  simp only [Bool.and_eq_true] at h6
  obtain ⟨h7, h8, h9⟩ := h6
  refine ⟨?_, h8, h9⟩
  split at h7
  · rename_i j n hd
    simp only [Bool.and_eq_true, decide_eq_true_eq] at h7
    obtain ⟨rfl, h10⟩ := h7
    rw [hd, beq_eq h10]
  · cases h7
theorem fld_ok {mid c j ci kk : Nat} {e : ME} (hM : MOk mid e) (hc : cno mid = some c) (h : lk c j = some (.inl (ci, kk))) : ∃ C T N, vwCl[ci]? = some (C, T, N) ∧ kk < N ∧ Cond.fieldLink e.1.cls j (T kk).1 (T kk).2.1 (T kk).2.2.1 ∈ tb := by
  obtain ⟨-, -, h1, h2, -⟩ := hM
  rw [h1] at hc
  cases hc
  have h3 := lk_ok h
  unfold lokb at h3
  dsimp only at h3
  split at h3
  · rename_i C T N hv
    rw [Bool.and_eq_true] at h3
    have h4 := tAt_ok h3.2
    rw [h2] at h4
    exact ⟨C, T, N, hv, of_decide_eq_true h3.1, h4⟩
  · cases h3
theorem kst_i {mid c j : Nat} {x : Int32} {e : ME} (hM : MOk mid e) (hc : cno mid = some c) (h : lk c j = some (.inr (.inl (.int x)))) : Cond.constant e.1.cls j x ∈ tb := by
  obtain ⟨-, -, h1, h2, -⟩ := hM
  rw [h1] at hc
  cases hc
  have h3 : tAt _ _ = true := lk_ok h
  have h4 := tAt_ok h3
  rwa [h2] at h4
theorem kst_l {mid c j : Nat} {x : Int64} {e : ME} (hM : MOk mid e) (hc : cno mid = some c) (h : lk c j = some (.inr (.inl (.long x)))) : Cond.constantLong e.1.cls j x ∈ tb := by
  obtain ⟨-, -, h1, h2, -⟩ := hM
  rw [h1] at hc
  cases hc
  have h3 : tAt _ _ = true := lk_ok h
  have h4 := tAt_ok h3
  rwa [h2] at h4
theorem sta_ok {mid c j : Nat} {v : Value} {e : ME} (hM : MOk mid e) (hc : cno mid = some c) (h : lk c j = some (.inr (.inr (.inl v)))) : (v = .ref 1002 ∧ Cond.fieldLink e.1.cls j "LoomCards" "OVER" "[I" ∈ tb) ∨ ∃ q ∈ statM, v = .long q.2 ∧ Cond.fieldLink e.1.cls j "LoomCardsModel" q.1 "J" ∈ tb := by
  obtain ⟨-, -, h1, h2, -⟩ := hM
  rw [h1] at hc
  cases hc
  have h3 := lk_ok h
  unfold lokb at h3
  cases v with
  | ref a =>
    simp only [Bool.and_eq_true] at h3
    have h4 := tAt_ok h3.2
    rw [h2] at h4
    exact Or.inl ⟨by rw [beq_eq h3.1], h4⟩
  | long x =>
    simp only [List.any_eq_true, Bool.and_eq_true, decide_eq_true_eq] at h3
    obtain ⟨q, hq, rfl, h4⟩ := h3
    have h4 := tAt_ok h4
    rw [h2] at h4
    exact Or.inr ⟨q, hq, rfl, h4⟩
  | _ => simp at h3
theorem mth_ok {mid c j cm n mx : Nat} {stt : Bool} {e : ME} (hM : MOk mid e) (hc : cno mid = some c) (h : lk c j = some (.inr (.inr (.inr (cm, stt, n, mx))))) (n1 : ¬ cm = 9999) (n2 : ¬ cm = 9998) (n3 : ¬ cm = 9997) :
    ∃ f, mts[cm]? = some f ∧ cm < 237 ∧ eS f = stt ∧ mx = eM f ∧ (parseMethodDescriptor f.1.desc).map (fun d => d.parameters.length) = some n ∧ (Cond.methodLink e.1.cls j f.1 ∈ tb ∨ (stt = true ∧ Cond.methodLinkNest e.1.cls j f.1 "LoomCards" ∈ lw_tbl)) := by
  obtain ⟨-, -, h1, h2, -⟩ := hM
  rw [h1] at hc
  cases hc
  have h3 := lk_ok h
  unfold lokb at h3
  simp only [beq_f n1, beq_f n2, beq_f n3, cond_false] at h3
  split at h3
  · rename_i f hf
    simp only [Bool.and_eq_true, Bool.or_eq_true, decide_eq_true_eq, beq_iff_eq] at h3
    obtain ⟨⟨a1, a2, a3⟩, a4, a5⟩ := h3
    refine ⟨f, hf, a1, a2, beq_eq a3, a4, ?_⟩
    rcases a5 with a5 | ⟨a5, a6⟩
    · have := tAt_ok a5
      rw [h2] at this
      exact Or.inl this
    · have := tAtL_ok a6
      rw [h2] at this
      exact Or.inr ⟨a5, this⟩
  · cases h3
theorem mth_p {mid c j cm n mx : Nat} {stt : Bool} {e : ME} (hM : MOk mid e) (hc : cno mid = some c) (h : lk c j = some (.inr (.inr (.inr (cm, stt, n, mx))))) : (cm = 9999 → Cond.methodLink e.1.cls j arraycopyName ∈ tb) ∧ (cm = 9998 → Cond.methodLink e.1.cls j Lib.Math.max.name ∈ tb) ∧ (cm = 9997 → Cond.methodLink e.1.cls j Lib.Math.min.name ∈ tb) := by
  obtain ⟨-, -, h1, h2, -⟩ := hM
  rw [h1] at hc
  cases hc
  have h3 := lk_ok h
  refine ⟨fun z => ?_, fun z => ?_, fun z => ?_⟩
  · subst z
    have h3 : (tAt _ _ && stt) = true := h3
    rw [Bool.and_eq_true] at h3
    have := tAt_ok h3.1
    rwa [h2] at this
  · subst z
    have h3 : (tAt _ _ && stt) = true := h3
    rw [Bool.and_eq_true] at h3
    have := tAt_ok h3.1
    rwa [h2] at this
  · subst z
    have h3 : (tAt _ _ && stt) = true := h3
    rw [Bool.and_eq_true] at h3
    have := tAt_ok h3.1
    rwa [h2] at this
theorem mth_v {mid c j cm n mx : Nat} {e : ME} (hM : MOk mid e) (hc : cno mid = some c) (h : lk c j = some (.inr (.inr (.inr (cm, false, n, mx))))) : ¬ cm = 9999 ∧ ¬ cm = 9998 ∧ ¬ cm = 9997 := by
  have h3 := lk_ok h
  refine ⟨fun z => ?_, fun z => ?_, fun z => ?_⟩
  · subst z
    have h3 : (tAt _ _ && false) = true := h3
    rw [Bool.and_false] at h3
    cases h3
  · subst z
    have h3 : (tAt _ _ && false) = true := h3
    rw [Bool.and_false] at h3
    cases h3
  · subst z
    have h3 : (tAt _ _ && false) = true := h3
    rw [Bool.and_false] at h3
    cases h3
theorem sh_cls {a ci : Nat} {fs : List Nat} (h : sh a = some (.inl (ci, fs))) : ∃ C T N, vwCl[ci]? = some (C, T, N) ∧ C = Rn ci := by
  have hk := sh_ok h
  unfold shchk at hk
  rw [h] at hk
  dsimp only at hk
  split at hk
  · rename_i C T N hv
    refine ⟨C, T, N, hv, ?_⟩
    have hl : ci < 8 := (List.getElem?_eq_some_iff.mp hv).1
    rcases (show ci = 0 ∨ ci = 1 ∨ ci = 2 ∨ ci = 3 ∨ ci = 4 ∨ ci = 5 ∨ ci = 6 ∨ ci = 7 by omega) with rfl | rfl | rfl | rfl | rfl | rfl | rfl | rfl <;> (cases hv; rfl)
  · cases hk
theorem room_ok {mid c j cm n mx : Nat} {stt : Bool} {e f : ME} (hM : MOk mid e) (hc : cno mid = some c) (h : lk c j = some (.inr (.inr (.inr (cm, stt, n, mx))))) (hr : roomOk (eC e) (eF e) (eL e) j = true) : ((cm = 9999 ∨ cm = 9998 ∨ cm = 9997) → 1 ≤ eF e ∧ 8 + (nativeFrameWords "java/lang/System" "arraycopy" 5 + 11) ≤ eL e ∧ 21 ≤ eL e) ∧ (¬ cm = 9999 → ¬ cm = 9998 → ¬ cm = 9997 → mts[cm]? = some f → eF f + 1 ≤ eF e ∧ 8 + (eM f + 11) + eL f ≤ eL e) := by
  obtain ⟨-, -, h1, h2, -⟩ := hM
  rw [h1] at hc
  cases hc
  unfold roomOk at hr
  rw [h] at hr
  dsimp only at hr
  refine ⟨fun z => ?_, fun n1 n2 n3 hf => ?_⟩
  · have hb : (Nat.beq cm 9999 || (Nat.beq cm 9998 || Nat.beq cm 9997)) = true := by
      rcases z with rfl | rfl | rfl <;> rfl
    rw [hb] at hr
    simp only [cond_true, Bool.and_eq_true] at hr
    exact ⟨ble_le hr.1, ble_le hr.2.1, ble_le hr.2.2⟩
  · have hb : (Nat.beq cm 9999 || (Nat.beq cm 9998 || Nat.beq cm 9997)) = false := by
      rw [beq_f n1, beq_f n2, beq_f n3]; rfl
    rw [hb, hf] at hr
    simp only [cond_false, Bool.and_eq_true] at hr
    exact ⟨ble_le hr.1, ble_le hr.2⟩
-- ===== calls
section CALLS
variable {X : Xs} {ρ : Nat → Nat} {D : va_G} {dA : Nat → ClassId} {A : Nat → Prop}
theorem Ex.move {s U : State} {H : Heap} {locs : List Loc} (h : Ex ρ A X s) (hS : va_S A s.heap H locs) (hU : U.heap = H) (hvm : s.vm.Alike U.vm) (hR : ∀ (own : String) (k : Nat) (tx : String) (a : Nat), vk_R own k tx a s → vk_R own k tx a U) (hN : ∀ (own : String) (i : Nat) (y : MethodName) (host : String), va_Nw (.methodLinkNest own i y host) s → va_Nw (.methodLinkNest own i y host) U) : Ex ρ A X U := by
  have hq : ∀ a : Nat, a < s.heap.size → ¬ A a → U.heap[a]? = s.heap[a]? := fun a h1 h2 => by rw [hU]; exact hS.2.1 a h1 h2
  obtain ⟨h1, h2, h3, h4, h5, h6, h7, h8, h9, h10⟩ := h
  exact ⟨(h1.moved hvm).kept hq, (h2.moved hvm).kept hq, (h3.moved hvm).kept hq, fun q hq' => ((h4 q hq').moved hvm).kept hq, h5, (h6.moved hvm).kept hq, (h7.moved hvm).kept hq, fun i hi => hR _ _ _ _ (h8 i hi), (h9.moved hvm).kept hq, fun own i y host hw => hN _ _ _ _ (h10 own i y host hw)⟩
def Qm (ρ : Nat → Nat) (D : va_G) (dA : Nat → ClassId) (A : Nat → Prop) (Q : Qt) : Array Value → State → Outcome → State → Prop := fun _ st oc t => (∃ (v : Option Value) (h' : Hp), oc = .returned (v.map (cv ρ)) ∧ Q v h' ∧ Wd ρ D dA A h' t.heap) ∧ va_F A st t
def Pm (X : Xs) (ρ : Nat → Nat) (D : va_G) (dA : Nat → ClassId) (A : Nat → Prop) (as : List Value) (h : Hp) : Array Value → State → Prop := va_Pc (as.map (cv ρ)) (fun U => Wd ρ D dA A h U.heap ∧ va_K D vwCl (tysOf dA) U ∧ Ex ρ A X U)
theorem Pm.blind {as : List Value} {h : Hp} : FrameBlind (Pm X ρ D dA A as h) := fun a U g mk q => by
  obtain ⟨q0, qW, qK, qE⟩ := q
  exact ⟨q0, qW, va_K.moved (u := U) (U := U.calling g mk a) (Vm.Alike.refl U.vm) qK, qE.move (s := U) (U := U.calling g mk a) (locs := []) va_S.rf rfl (Vm.Alike.refl U.vm) (fun _ _ _ _ z => vk_R.same (u := U) rfl z) (fun _ _ _ _ z => va_Nw.same (u := U) rfl rfl z)⟩
theorem met_go {l : Launch} {cm : Nat} {f : ME} {as : List Value} {h : Hp} {Q : Qt} (hf : mts[cm]? = some f) (hc : Cal f) (hn : (entA as).length ≤ eM f) (hgo : Go X cm 0 (entL (eM f) as) [] h Q) :
    Met l f.1 (Cond.code f.1 (eB f) (eM f) (eR f) :: tb) { frames := eF f, cells := 0, slots := 0, locals := eL f } (Pm X ρ D dA A as h) (Qm ρ D dA A Q) 0 0 A := by
  refine Met.ofW (cc := eB f) (maxL := eM f) (ret := eR f) hc.1 rfl ?_
  intro p env s m args below meth c s₁ B hml hv
  obtain ⟨rfl, hW, hK, hE⟩ := hv
  have hts := atoms_spec (ws := Cond.code f.1 (eB f) (eM f) (eR f) :: tb) B.pre
  have hlocks := B.notSynchronized
  rw [lg_entry_eq]
  refine hgo f hf ρ D dA A p l env _ s m _ below meth c 0 0 _ ⟨B.exec, B.bytes, B.returns, hml, findClass_of_methodNamed B.named, fun w hw => hts w (List.mem_cons_of_mem _ hw), hlocks, ⟨Nat.le_refl _, Nat.le_refl _⟩, ⟨Nat.le_refl _, Nat.le_refl _⟩, hK⟩ hE ?_ s.heap [] _ hW va_S.rf (LR.entry hn)
  intro v h' H locs ls pc' hr hW' hS' hQ
  match v, hr, hQ with
  | none, hr, hQ => exact W.vret B.exec B.bytes (B.returns.trans hr.1) (fun t ht _ => ⟨⟨none, h', rfl, hQ, by rw [ht]; exact hW'⟩, hS'.F ht⟩) hS'.2.2 hr.2 hlocks
  | some (.int x), hr, hQ =>
    obtain ⟨⟨ty, h1, h2⟩, h3⟩ := hr
    exact W.zret B.exec B.bytes (B.returns.trans h1) h2 (fun t ht _ => ⟨⟨some (.int x), h', rfl, hQ, by rw [ht]; exact hW'⟩, hS'.F ht⟩) hS'.2.2 h3 hlocks
  | some (.long x), hr, hQ => exact W.lret B.exec B.bytes (B.returns.trans hr.1) (fun t ht _ => ⟨⟨some (.long x), h', rfl, hQ, by rw [ht]; exact hW'⟩, hS'.F ht⟩) hS'.2.2 hr.2 hlocks
  | some (.ref a), hr, hQ =>
    obtain ⟨⟨n, h1⟩, h3⟩ := hr
    exact W.aret (v := .ref (ρ a)) B.exec B.bytes (B.returns.trans h1) (Or.inl ⟨n, rfl⟩) (Or.inr ⟨ρ a, rfl⟩) (fun t ht _ => ⟨⟨some (.ref a), h', rfl, hQ, by rw [ht]; exact hW'⟩, hS'.F ht⟩) hS'.2.2 h3 hlocks
variable {p : Program} {l : Launch} {env : Env} {R : Room} {s : State} {m : MethodId} {args : Array Value} {below : List Frame} {meth : Method} {c : Code} {H : Heap} {locs : List Loc} {cells slots : Nat} {fin : State → Prop} {pc : Nat} {ls : Array Slot} {rest st0 : List Value} {av : Array Value} {Q : Qt}
theorem call_go (hr : va_Run p l env R s m args below meth c H locs cells slots 0 0 (F0 m pc ls st0) rest (Qm ρ D dA A Q av) A) (hS : va_S A s.heap H locs)
    (kk : ∀ (v : Option Value) (h' : Hp) (H1 : Heap) (locs1 : List Loc), Q v h' → Wd ρ D dA A h' H1 → va_S A s.heap H1 locs1 → W p l env R s m args below meth c H1 locs1 cells slots fin (F0 m (pc + 3) ls ((v.map (cv ρ)).toList ++ rest))) : W p l env R s m args below meth c H locs cells slots fin (F0 m pc ls st0) := by
  intro T hT XX
  obtain ⟨v, st₀, t, T', L, h0, X', hL, e1, e2, ⟨⟨w, h', hv, hq, hw⟩, hz, hk⟩, st⟩ := hr T hT XX
  cases hv
  rw [h0] at hz hk
  obtain ⟨t2, a1, b1⟩ := kk w h' T'.heap (locs ++ L) hq (by rw [e1]; exact hw) ⟨Nat.le_trans hS.1 (by rw [e1]; exact hz), fun q h1 h2 => by rw [e1, hk q (Nat.lt_of_lt_of_le h1 hS.1) h2]; exact hS.2.1 q h1 h2, fun q hq => by
      rcases List.mem_append.mp hq with h | h
      · exact hS.2.2 q h
      · exact hL q h⟩ T' rfl X'
  exact ⟨t2, st t2 a1, b1⟩
theorem cv_push (v : Option Value) (r : List Value) : (pushO v r).map (cv ρ) = (v.map (cv ρ)).toList ++ r.map (cv ρ) := by
  cases v <;> rfl
end CALLS

