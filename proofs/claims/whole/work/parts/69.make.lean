/-! the constructors: tools, words, decode rows -/
section MAK
theorem va_RA_u {s : State} {cA cB : ClassId} {ty : FieldType} (h1 : va_RA s cA ty) (h2 : va_RA s cB ty) : cA = cB := by
  cases ty with
  | object C =>
    obtain ⟨kA, comp, -, -, -, f1⟩ := h1
    obtain ⟨kB, comp2, -, -, -, f2⟩ := h2
    exact Option.some.inj (f1.symm.trans f2)
  | _ => exact Option.some.inj (h1.symm.trans h2)
section W1
variable {p : Program} {l : Launch} {e : Env} {R : Room} {s : State} {m : MethodId} {args : Array Value} {below : List Frame} {meth : Method} {c : Code} {H : Heap} {locs : List Loc} {cells slots : Nat} {Q : State → Prop}
variable {cc : ByteArray} {pc : Nat} {ls : Array Slot} {rest : List Value} {D : va_G} {cl : List vw_C} {A : Nat → Prop} {tys : List (ClassId × FieldType)} {ws : va_W} {H0 : Heap}
/-- a new array whose class is known -/
theorem va_newD (hexec : p.tables.exec = Jvm.exec) (hb : c.code = cc) {atype : ArrayType} (harr : (Cond.arrayClass (newarray.typeOf atype)).before args s = true) {ty : FieldType} (hty : newarray.typeOf atype = ty) (hno : ∀ C, ty ≠ .object C) (hK : va_K D cl tys s) (t0 : Nat) {cA : ClassId} (ht : tys[t0]? = some (cA, ty)) (hP : va_P D cl ws H) (hD : va_D A ws) (hS : va_S A H0 H locs) (hA : ∀ q, H0.size ≤ q → A q)
    {n : Int32} {N' : Nat} {a0 : vp_A} (ha : ∀ cA : ClassId, vp_cell cA a0 = arrV cA N' (fun _ => defaultValue ty)) (hn : ¬ n < 0) (hN : n.toNatClampNeg = N') (hbytes : N' * componentBytes ty ≤ 536870912) (hcells : cells + 1 ≤ R.cells) (hslots : slots + N' ≤ R.slots) (hdg : decode cc pc = .ok (.newarray atype, 2))
    (kk : ∀ (q : Nat) (H1 : Heap), va_P D cl (ws ++ [(q, .inl (cA, a0))]) H1 → va_D A (ws ++ [(q, .inl (cA, a0))]) → va_S A H0 H1 locs → W p l e R s m args below meth c H1 locs (cells + 1) (slots + N') Q (F0 m (pc + 2) ls (.ref q :: rest))) : W p l e R s m args below meth c H locs cells slots Q (F0 m pc ls (.int n :: rest)) := by
  refine va_newa hexec hb harr hty hK hP hD hS hA ha hn hN hbytes hcells hslots hdg (fun q cB H1 hK1 hP1 hD1 hS1 => ?_)
  have h1 := (hK1.2 tys.length (cB, ty) (by simp)).2
  have h2 := (hK.2 t0 _ ht).2
  have e : cB = cA := va_RA_u h1 h2
  subst e
  exact kk q H1 hP1 hD1 hS1
theorem va_newQ (hexec : p.tables.exec = Jvm.exec) (hb : c.code = cc) {own C : String} {index : Nat} (hown : s.vm.findClass own = some m.cls) (hclink : (Cond.classLink own index C).before args s = true) (hover : va_AO C s) (hK : va_K D cl tys s) (t0 : Nat) {cA : ClassId} (ht : tys[t0]? = some (cA, .object C)) (hP : va_P D cl ws H) (hD : va_D A ws) (hS : va_S A H0 H locs) (hA : ∀ q, H0.size ≤ q → A q)
    {n : Int32} {N' : Nat} (hn : ¬ n < 0) (hN : n.toNatClampNeg = N') (hbytes : N' * 4 ≤ 536870912) (hcells : cells + 1 ≤ R.cells) (hslots : slots + N' ≤ R.slots) (hdg : decode cc pc = .ok (.anewarray index, 3))
    (kk : ∀ (q : Nat) (H1 : Heap), va_P D cl (ws ++ [(q, .inl (cA, N', .inr (.inr (.inr (.inr (fun _ => none))))))]) H1 → va_D A (ws ++ [(q, .inl (cA, N', .inr (.inr (.inr (.inr (fun _ => none))))))]) → va_S A H0 H1 locs → W p l e R s m args below meth c H1 locs (cells + 1) (slots + N') Q (F0 m (pc + 3) ls (.ref q :: rest))) : W p l e R s m args below meth c H locs cells slots Q (F0 m pc ls (.int n :: rest)) := by
  refine va_newq hexec hb hown hclink hover hK hP hD hS hA hn hN hbytes hcells hslots hdg (fun q cB H1 hK1 hP1 hD1 hS1 => ?_)
  have h1 := (hK1.2 tys.length (cB, .object C) (by simp)).2
  have h2 := (hK.2 t0 _ ht).2
  have e : cB = cA := va_RA_u h1 h2
  subst e
  exact kk q H1 hP1 hD1 hS1
end W1
theorem tb_c {w : Cond} (h : w ∈ tb) : GoodIn tb (w :: tb) := tb_goodIn (fun v hv => by
  rcases List.mem_cons.mp hv with rfl | hv
  · exact h
  · exact hv)
/-- how a constructor begins -/
def PcI (D : va_G) (dA : Nat → ClassId) (h0 sz : Nat) (e0 : va_E) : Array Value → State → Prop := va_Pc [.ref h0] (fun U => U.heap.size = sz ∧ va_P D vwCl [(h0, e0)] U.heap ∧ va_K D vwCl (tysOf dA) U ∧ va_D (fun _ => True) [(h0, e0)])
theorem PcI_b {D : va_G} {dA : Nat → ClassId} {h0 sz : Nat} {e0 : va_E} : FrameBlind (PcI D dA h0 sz e0) := fun a U g mk q => by
  obtain ⟨q0, q1, qP, qK, qD⟩ := q
  exact ⟨q0, q1, qP, va_K.moved (u := U) (U := U.calling g mk a) (Vm.Alike.refl U.vm) qK, qD⟩
def NW (U : State) : Prop := ∀ (own : String) (i : Nat) (y : MethodName) (host : String), Cond.methodLinkNest own i y host ∈ lw_tbl → va_Nw (.methodLinkNest own i y host) U
def PcX (D : va_G) (dA : Nat → ClassId) (h0 sz : Nat) (e0 : va_E) : Array Value → State → Prop := va_Pc [.ref h0] (fun U => U.heap.size = sz ∧ va_P D vwCl [(h0, e0)] U.heap ∧ va_K D vwCl (tysOf dA) U ∧ va_D (fun _ => True) [(h0, e0)] ∧ NW U ∧ va_AO "LoomCards$Sheet" U)
theorem PcX_b {D : va_G} {dA : Nat → ClassId} {h0 sz : Nat} {e0 : va_E} : FrameBlind (PcX D dA h0 sz e0) := fun a U g mk q => by
  obtain ⟨q0, q1, qP, qK, qD, qN, qO⟩ := q
  exact ⟨q0, q1, qP, va_K.moved (u := U) (U := U.calling g mk a) (Vm.Alike.refl U.vm) qK, qD, fun own i y host hw => va_Nw.same (u := U) rfl rfl (qN own i y host hw), va_AO.moved (u := U) (U := U.calling g mk a) (Vm.Alike.refl U.vm) qO⟩
/-- the hooks that threads are tied to at first -/
def tiF : Nat → Nat → Int32
  | 0 => fun _ => 0
  | k + 1 => upd (tiF k) k (nI (k % 8))
def diF : Nat → Nat → Int32
  | 0 => fun _ => 0
  | k + 1 => upd (diF k) (24 + k) (nI (k % 8))
theorem tw_165 : Cond.methodLink RX0 3 objectInit ∈ tb := tAt_ok (p := some 165) (by decide +kernel)
theorem tw_96 : Cond.instanceMethod objectInit ∈ tb := tAt_ok (p := some 96) (by decide +kernel)
theorem tw_97 : Cond.code objectInit ⟨#[0xb1]⟩ 1 none ∈ tb := tAt_ok (p := some 97) (by decide +kernel)
theorem tw_166 : Cond.fieldLink RX0 9 "LoomCards$Cloth" "cards" "I" ∈ tb := tAt_ok (p := some 166) (by decide +kernel)
theorem tw_159 : Cond.arrayClass .int ∈ tb := tAt_ok (p := some 159) (by decide +kernel)
theorem tw_167 : Cond.fieldLink RX0 15 "LoomCards$Cloth" "holes" "[I" ∈ tb := tAt_ok (p := some 167) (by decide +kernel)
theorem tw_168 : Cond.fieldLink RX0 19 "LoomCards$Cloth" "up" "[I" ∈ tb := tAt_ok (p := some 168) (by decide +kernel)
theorem tw_170 : Cond.fieldLink RX0 22 "LoomCards$Cloth" "upCount" "[I" ∈ tb := tAt_ok (p := some 170) (by decide +kernel)
theorem tw_171 : Cond.fieldLink RX0 25 "LoomCards$Cloth" "across" "[I" ∈ tb := tAt_ok (p := some 171) (by decide +kernel)
theorem tw_172 : Cond.fieldLink RX0 28 "LoomCards$Cloth" "hookThreads" "[I" ∈ tb := tAt_ok (p := some 172) (by decide +kernel)
theorem tw_173 : Cond.fieldLink RX0 31 "LoomCards$Cloth" "rows" "I" ∈ tb := tAt_ok (p := some 173) (by decide +kernel)
theorem tw_175 : Cond.fieldLink RX0 34 "LoomCards$Cloth" "picks" "[I" ∈ tb := tAt_ok (p := some 175) (by decide +kernel)
theorem tw_176 : Cond.fieldLink RX0 37 "LoomCards$Cloth" "still" "[I" ∈ tb := tAt_ok (p := some 176) (by decide +kernel)
theorem tw_230 : Cond.methodLink RX2 3 objectInit ∈ tb := tAt_ok (p := some 230) (by decide +kernel)
theorem tw_231 : Cond.fieldLink RX2 9 "LoomCards$Orders" "size" "I" ∈ tb := tAt_ok (p := some 231) (by decide +kernel)
theorem tw_233 : Cond.fieldLink RX2 15 "LoomCards$Orders" "total" "I" ∈ tb := tAt_ok (p := some 233) (by decide +kernel)
theorem tw_235 : Cond.fieldLink RX2 18 "LoomCards$Orders" "wantedCards" "[I" ∈ tb := tAt_ok (p := some 235) (by decide +kernel)
theorem tw_237 : Cond.fieldLink RX2 22 "LoomCards$Orders" "cards" "[I" ∈ tb := tAt_ok (p := some 237) (by decide +kernel)
theorem tw_279 : Cond.methodLink RX3 3 objectInit ∈ tb := tAt_ok (p := some 279) (by decide +kernel)
theorem tw_280 : Cond.fieldLink RX3 9 "LoomCards$Sheet" "bits" "I" ∈ tb := tAt_ok (p := some 280) (by decide +kernel)
theorem tw_282 : Cond.fieldLink RX3 15 "LoomCards$Sheet" "size" "I" ∈ tb := tAt_ok (p := some 282) (by decide +kernel)
theorem tw_293 : Cond.arrayClass .long ∈ tb := tAt_ok (p := some 293) (by decide +kernel)
theorem tw_284 : Cond.fieldLink RX3 18 "LoomCards$Sheet" "numbers" "[J" ∈ tb := tAt_ok (p := some 284) (by decide +kernel)
theorem tw_252 : Cond.methodLink RX4 3 objectInit ∈ tb := tAt_ok (p := some 252) (by decide +kernel)
theorem tw_253 : Cond.fieldLink RX4 9 "LoomCards$Text" "size" "I" ∈ tb := tAt_ok (p := some 253) (by decide +kernel)
theorem tw_255 : Cond.fieldLink RX4 15 "LoomCards$Text" "bytes" "[I" ∈ tb := tAt_ok (p := some 255) (by decide +kernel)
theorem tw_256 : Cond.fieldLink RX4 19 "LoomCards$Text" "token" "I" ∈ tb := tAt_ok (p := some 256) (by decide +kernel)
theorem tw_257 : Cond.fieldLink RX4 22 "LoomCards$Text" "start" "I" ∈ tb := tAt_ok (p := some 257) (by decide +kernel)
theorem tw_258 : Cond.fieldLink RX4 25 "LoomCards$Text" "end" "I" ∈ tb := tAt_ok (p := some 258) (by decide +kernel)
theorem tw_259 : Cond.fieldLink RX4 28 "LoomCards$Text" "number" "I" ∈ tb := tAt_ok (p := some 259) (by decide +kernel)
theorem tw_201 : Cond.methodLink RX5 3 objectInit ∈ tb := tAt_ok (p := some 201) (by decide +kernel)
theorem tw_202 : Cond.fieldLink RX5 9 "LoomCards$Ways" "places" "I" ∈ tb := tAt_ok (p := some 202) (by decide +kernel)
theorem tw_204 : Cond.fieldLink RX5 15 "LoomCards$Ways" "cards" "[I" ∈ tb := tAt_ok (p := some 204) (by decide +kernel)
theorem tw_206 : Cond.fieldLink RX5 19 "LoomCards$Ways" "hooks" "[I" ∈ tb := tAt_ok (p := some 206) (by decide +kernel)
theorem tw_208 : Cond.fieldLink RX5 22 "LoomCards$Ways" "total" "I" ∈ tb := tAt_ok (p := some 208) (by decide +kernel)
theorem tw_210 : Cond.fieldLink RX5 25 "LoomCards$Ways" "holeTimes" "[I" ∈ tb := tAt_ok (p := some 210) (by decide +kernel)
theorem tw_211 : Cond.fieldLink RX5 28 "LoomCards$Ways" "wantedWay" "I" ∈ tb := tAt_ok (p := some 211) (by decide +kernel)
theorem tw_103 : Cond.methodLink RX1 3 objectInit ∈ tb := tAt_ok (p := some 103) (by decide +kernel)
theorem tw_104 : Cond.fieldLink RX1 9 "LoomCards$Loom" "cards" "I" ∈ tb := tAt_ok (p := some 104) (by decide +kernel)
theorem tw_109 : Cond.fieldLink RX1 15 "LoomCards$Loom" "holes" "[I" ∈ tb := tAt_ok (p := some 109) (by decide +kernel)
theorem tw_112 : Cond.fieldLink RX1 19 "LoomCards$Loom" "eaten" "[I" ∈ tb := tAt_ok (p := some 112) (by decide +kernel)
theorem tw_114 : Cond.fieldLink RX1 22 "LoomCards$Loom" "ties" "[I" ∈ tb := tAt_ok (p := some 114) (by decide +kernel)
theorem tw_118 : Cond.fieldLink RX1 25 "LoomCards$Loom" "rows" "I" ∈ tb := tAt_ok (p := some 118) (by decide +kernel)
theorem tw_122 : Cond.fieldLink RX1 28 "LoomCards$Loom" "picks" "[I" ∈ tb := tAt_ok (p := some 122) (by decide +kernel)
theorem tw_125 : Cond.fieldLink RX1 31 "LoomCards$Loom" "laws" "I" ∈ tb := tAt_ok (p := some 125) (by decide +kernel)
theorem tw_129 : Cond.fieldLink RX1 34 "LoomCards$Loom" "kinds" "[I" ∈ tb := tAt_ok (p := some 129) (by decide +kernel)
theorem tw_132 : Cond.fieldLink RX1 37 "LoomCards$Loom" "limits" "[I" ∈ tb := tAt_ok (p := some 132) (by decide +kernel)
theorem tw_135 : Cond.fieldLink RX1 40 "LoomCards$Loom" "inForce" "[I" ∈ tb := tAt_ok (p := some 135) (by decide +kernel)
theorem tw_935 : Cond.methodLink RX7 1 objectInit ∈ tb := tAt_ok (p := some 935) (by decide +kernel)
theorem tw_936 : Cond.fieldLink RX7 7 "LoomCardsModel" "d" "[I" ∈ tb := tAt_ok (p := some 936) (by decide +kernel)
theorem tw_937 : Cond.fieldLink RX7 13 "LoomCardsModel" "e" "[I" ∈ tb := tAt_ok (p := some 937) (by decide +kernel)
theorem tw_938 : Cond.fieldLink RX7 16 "LoomCardsModel" "kept" "[I" ∈ tb := tAt_ok (p := some 938) (by decide +kernel)
theorem tw_940 : Cond.fieldLink RX7 19 "LoomCardsModel" "found" "[I" ∈ tb := tAt_ok (p := some 940) (by decide +kernel)
theorem tw_812 : Cond.arrayClass .byte ∈ tb := tAt_ok (p := some 812) (by decide +kernel)
theorem tw_941 : Cond.fieldLink RX7 22 "LoomCardsModel" "tape" "[B" ∈ tb := tAt_ok (p := some 941) (by decide +kernel)
theorem tw_943 : Cond.fieldLink RX7 26 "LoomCardsModel" "cloth" "[I" ∈ tb := tAt_ok (p := some 943) (by decide +kernel)
theorem tw_944 : Cond.fieldLink RX7 29 "LoomCardsModel" "place" "[I" ∈ tb := tAt_ok (p := some 944) (by decide +kernel)
theorem tw_946 : Cond.fieldLink RX7 32 "LoomCardsModel" "way" "[I" ∈ tb := tAt_ok (p := some 946) (by decide +kernel)
theorem tw_948 : Cond.fieldLink RX7 35 "LoomCardsModel" "line" "[I" ∈ tb := tAt_ok (p := some 948) (by decide +kernel)
theorem tw_954 : Cond.fieldLink RX7 38 "LoomCardsModel" "bitsOf" "[I" ∈ tb := tAt_ok (p := some 954) (by decide +kernel)
theorem tw_955 : Cond.fieldLink RX7 41 "LoomCardsModel" "sizeOf" "[I" ∈ tb := tAt_ok (p := some 955) (by decide +kernel)
theorem tw_956 : Cond.fieldLink RX7 44 "LoomCardsModel" "number" "[J" ∈ tb := tAt_ok (p := some 956) (by decide +kernel)
theorem tw_957 : Cond.fieldLink RX7 48 "LoomCardsModel" "passing" "[J" ∈ tb := tAt_ok (p := some 957) (by decide +kernel)
theorem tw_95 : Cond.methodLink RX6 3 objectInit ∈ tb := tAt_ok (p := some 95) (by decide +kernel)
theorem tw_98 : Cond.classLink RX6 9 RX1 ∈ tb := tAt_ok (p := some 98) (by decide +kernel)
theorem tw_99 : Cond.instantiable RX1 10 ∈ tb := tAt_ok (p := some 99) (by decide +kernel)
theorem tw_76 : Cond.initialized RX1 ∈ tb := tAt_ok (p := some 76) (by decide +kernel)
theorem tw_102 : Cond.code yX1_init cX1_init 2 none ∈ tb := tAt_ok (p := some 102) (by decide +kernel)
theorem tw_100 : Cond.methodLink RX6 11 yX1_init ∈ tb := tAt_ok (p := some 100) (by decide +kernel)
theorem tw_101 : Cond.instanceMethod yX1_init ∈ tb := tAt_ok (p := some 101) (by decide +kernel)
theorem tw_294 : Cond.fieldLink RX6 12 "LoomCards" "now" "LLoomCards$Loom;" ∈ tb := tAt_ok (p := some 294) (by decide +kernel)
theorem tw_295 : Cond.fieldLink RX6 16 "LoomCards" "kept" "LLoomCards$Loom;" ∈ tb := tAt_ok (p := some 295) (by decide +kernel)
theorem tw_296 : Cond.fieldLink RX6 19 "LoomCards" "draft" "LLoomCards$Loom;" ∈ tb := tAt_ok (p := some 296) (by decide +kernel)
theorem tw_160 : Cond.classLink RX6 22 RX0 ∈ tb := tAt_ok (p := some 160) (by decide +kernel)
theorem tw_161 : Cond.instantiable RX0 9 ∈ tb := tAt_ok (p := some 161) (by decide +kernel)
theorem tw_77 : Cond.initialized RX0 ∈ tb := tAt_ok (p := some 77) (by decide +kernel)
theorem tw_164 : Cond.code yX0_init cX0_init 1 none ∈ tb := tAt_ok (p := some 164) (by decide +kernel)
theorem nl_162 : Cond.methodLinkNest RX6 24 yX0_init "LoomCards" ∈ lw_tbl := tAtL_ok (p := some 162) (by decide +kernel)
theorem tw_163 : Cond.instanceMethod yX0_init ∈ tb := tAt_ok (p := some 163) (by decide +kernel)
theorem tw_297 : Cond.fieldLink RX6 25 "LoomCards" "cloth" "LLoomCards$Cloth;" ∈ tb := tAt_ok (p := some 297) (by decide +kernel)
theorem tw_196 : Cond.classLink RX6 29 RX5 ∈ tb := tAt_ok (p := some 196) (by decide +kernel)
theorem tw_197 : Cond.instantiable RX5 6 ∈ tb := tAt_ok (p := some 197) (by decide +kernel)
theorem tw_78 : Cond.initialized RX5 ∈ tb := tAt_ok (p := some 78) (by decide +kernel)
theorem tw_200 : Cond.code yX5_init cX5_init 1 none ∈ tb := tAt_ok (p := some 200) (by decide +kernel)
theorem nl_198 : Cond.methodLinkNest RX6 31 yX5_init "LoomCards" ∈ lw_tbl := tAtL_ok (p := some 198) (by decide +kernel)
theorem tw_199 : Cond.instanceMethod yX5_init ∈ tb := tAt_ok (p := some 199) (by decide +kernel)
theorem tw_298 : Cond.fieldLink RX6 32 "LoomCards" "found" "LLoomCards$Ways;" ∈ tb := tAt_ok (p := some 298) (by decide +kernel)
theorem tw_225 : Cond.classLink RX6 36 RX2 ∈ tb := tAt_ok (p := some 225) (by decide +kernel)
theorem tw_226 : Cond.instantiable RX2 4 ∈ tb := tAt_ok (p := some 226) (by decide +kernel)
theorem tw_79 : Cond.initialized RX2 ∈ tb := tAt_ok (p := some 79) (by decide +kernel)
theorem tw_229 : Cond.code yX2_init cX2_init 1 none ∈ tb := tAt_ok (p := some 229) (by decide +kernel)
theorem nl_227 : Cond.methodLinkNest RX6 38 yX2_init "LoomCards" ∈ lw_tbl := tAtL_ok (p := some 227) (by decide +kernel)
theorem tw_228 : Cond.instanceMethod yX2_init ∈ tb := tAt_ok (p := some 228) (by decide +kernel)
theorem tw_299 : Cond.fieldLink RX6 39 "LoomCards" "laid" "LLoomCards$Orders;" ∈ tb := tAt_ok (p := some 299) (by decide +kernel)
theorem tw_247 : Cond.classLink RX6 43 RX4 ∈ tb := tAt_ok (p := some 247) (by decide +kernel)
theorem tw_248 : Cond.instantiable RX4 6 ∈ tb := tAt_ok (p := some 248) (by decide +kernel)
theorem tw_80 : Cond.initialized RX4 ∈ tb := tAt_ok (p := some 80) (by decide +kernel)
theorem tw_251 : Cond.code yX4_init cX4_init 1 none ∈ tb := tAt_ok (p := some 251) (by decide +kernel)
theorem nl_249 : Cond.methodLinkNest RX6 45 yX4_init "LoomCards" ∈ lw_tbl := tAtL_ok (p := some 249) (by decide +kernel)
theorem tw_250 : Cond.instanceMethod yX4_init ∈ tb := tAt_ok (p := some 250) (by decide +kernel)
theorem tw_300 : Cond.fieldLink RX6 46 "LoomCards" "tape" "LLoomCards$Text;" ∈ tb := tAt_ok (p := some 300) (by decide +kernel)
theorem tw_273 : Cond.classLink RX6 50 RX3 ∈ tb := tAt_ok (p := some 273) (by decide +kernel)
theorem tw_301 : Cond.fieldLink RX6 52 "LoomCards" "sheets" "[LLoomCards$Sheet;" ∈ tb := tAt_ok (p := some 301) (by decide +kernel)
theorem tw_302 : Cond.fieldLink RX6 56 "LoomCards" "refused" "[I" ∈ tb := tAt_ok (p := some 302) (by decide +kernel)
theorem tw_303 : Cond.fieldLink RX6 60 "LoomCards" "isKept" "Z" ∈ tb := tAt_ok (p := some 303) (by decide +kernel)
theorem tw_275 : Cond.instantiable RX3 3 ∈ tb := tAt_ok (p := some 275) (by decide +kernel)
theorem tw_81 : Cond.initialized RX3 ∈ tb := tAt_ok (p := some 81) (by decide +kernel)
theorem tw_278 : Cond.code yX3_init cX3_init 1 none ∈ tb := tAt_ok (p := some 278) (by decide +kernel)
theorem nl_276 : Cond.methodLinkNest RX6 64 yX3_init "LoomCards" ∈ lw_tbl := tAtL_ok (p := some 276) (by decide +kernel)
theorem tw_277 : Cond.instanceMethod yX3_init ∈ tb := tAt_ok (p := some 277) (by decide +kernel)
theorem dX0_init_0 : decode cX0_init 0 = .ok (.aload_n 0, 1) := by decide +kernel
theorem dX0_init_1 : decode cX0_init 1 = .ok (.invokespecial 3, 3) := by decide +kernel
theorem dX0_init_4 : decode cX0_init 4 = .ok (.aload_n 0, 1) := by decide +kernel
theorem dX0_init_5 : decode cX0_init 5 = .ok (.iconst 0, 1) := by decide +kernel
theorem dX0_init_6 : decode cX0_init 6 = .ok (.putfield 9, 3) := by decide +kernel
theorem dX0_init_9 : decode cX0_init 9 = .ok (.aload_n 0, 1) := by decide +kernel
theorem dX0_init_10 : decode cX0_init 10 = .ok (.bipush 10, 2) := by decide +kernel
theorem dX0_init_12 : decode cX0_init 12 = .ok (.newarray .int, 2) := by decide +kernel
theorem dX0_init_14 : decode cX0_init 14 = .ok (.putfield 15, 3) := by decide +kernel
theorem dX0_init_17 : decode cX0_init 17 = .ok (.aload_n 0, 1) := by decide +kernel
theorem dX0_init_18 : decode cX0_init 18 = .ok (.bipush 10, 2) := by decide +kernel
theorem dX0_init_20 : decode cX0_init 20 = .ok (.newarray .int, 2) := by decide +kernel
theorem dX0_init_22 : decode cX0_init 22 = .ok (.putfield 19, 3) := by decide +kernel
theorem dX0_init_25 : decode cX0_init 25 = .ok (.aload_n 0, 1) := by decide +kernel
theorem dX0_init_26 : decode cX0_init 26 = .ok (.bipush 10, 2) := by decide +kernel
theorem dX0_init_28 : decode cX0_init 28 = .ok (.newarray .int, 2) := by decide +kernel
theorem dX0_init_30 : decode cX0_init 30 = .ok (.putfield 22, 3) := by decide +kernel
theorem dX0_init_33 : decode cX0_init 33 = .ok (.aload_n 0, 1) := by decide +kernel
theorem dX0_init_34 : decode cX0_init 34 = .ok (.bipush 10, 2) := by decide +kernel
theorem dX0_init_36 : decode cX0_init 36 = .ok (.newarray .int, 2) := by decide +kernel
theorem dX0_init_38 : decode cX0_init 38 = .ok (.putfield 25, 3) := by decide +kernel
theorem dX0_init_41 : decode cX0_init 41 = .ok (.aload_n 0, 1) := by decide +kernel
theorem dX0_init_42 : decode cX0_init 42 = .ok (.bipush 8, 2) := by decide +kernel
theorem dX0_init_44 : decode cX0_init 44 = .ok (.newarray .int, 2) := by decide +kernel
theorem dX0_init_46 : decode cX0_init 46 = .ok (.putfield 28, 3) := by decide +kernel
theorem dX0_init_49 : decode cX0_init 49 = .ok (.aload_n 0, 1) := by decide +kernel
theorem dX0_init_50 : decode cX0_init 50 = .ok (.iconst 0, 1) := by decide +kernel
theorem dX0_init_51 : decode cX0_init 51 = .ok (.putfield 31, 3) := by decide +kernel
theorem dX0_init_54 : decode cX0_init 54 = .ok (.aload_n 0, 1) := by decide +kernel
theorem dX0_init_55 : decode cX0_init 55 = .ok (.bipush 20, 2) := by decide +kernel
theorem dX0_init_57 : decode cX0_init 57 = .ok (.newarray .int, 2) := by decide +kernel
theorem dX0_init_59 : decode cX0_init 59 = .ok (.putfield 34, 3) := by decide +kernel
theorem dX0_init_62 : decode cX0_init 62 = .ok (.aload_n 0, 1) := by decide +kernel
theorem dX0_init_63 : decode cX0_init 63 = .ok (.bipush 20, 2) := by decide +kernel
theorem dX0_init_65 : decode cX0_init 65 = .ok (.newarray .int, 2) := by decide +kernel
theorem dX0_init_67 : decode cX0_init 67 = .ok (.putfield 37, 3) := by decide +kernel
theorem dX0_init_70 : decode cX0_init 70 = .ok (.return_, 1) := by decide +kernel
theorem dX2_init_0 : decode cX2_init 0 = .ok (.aload_n 0, 1) := by decide +kernel
theorem dX2_init_1 : decode cX2_init 1 = .ok (.invokespecial 3, 3) := by decide +kernel
theorem dX2_init_4 : decode cX2_init 4 = .ok (.aload_n 0, 1) := by decide +kernel
theorem dX2_init_5 : decode cX2_init 5 = .ok (.iconst 0, 1) := by decide +kernel
theorem dX2_init_6 : decode cX2_init 6 = .ok (.putfield 9, 3) := by decide +kernel
theorem dX2_init_9 : decode cX2_init 9 = .ok (.aload_n 0, 1) := by decide +kernel
theorem dX2_init_10 : decode cX2_init 10 = .ok (.iconst 0, 1) := by decide +kernel
theorem dX2_init_11 : decode cX2_init 11 = .ok (.putfield 15, 3) := by decide +kernel
theorem dX2_init_14 : decode cX2_init 14 = .ok (.aload_n 0, 1) := by decide +kernel
theorem dX2_init_15 : decode cX2_init 15 = .ok (.bipush 6, 2) := by decide +kernel
theorem dX2_init_17 : decode cX2_init 17 = .ok (.newarray .int, 2) := by decide +kernel
theorem dX2_init_19 : decode cX2_init 19 = .ok (.putfield 18, 3) := by decide +kernel
theorem dX2_init_22 : decode cX2_init 22 = .ok (.aload_n 0, 1) := by decide +kernel
theorem dX2_init_23 : decode cX2_init 23 = .ok (.bipush 6, 2) := by decide +kernel
theorem dX2_init_25 : decode cX2_init 25 = .ok (.newarray .int, 2) := by decide +kernel
theorem dX2_init_27 : decode cX2_init 27 = .ok (.putfield 22, 3) := by decide +kernel
theorem dX2_init_30 : decode cX2_init 30 = .ok (.return_, 1) := by decide +kernel
theorem dX3_init_0 : decode cX3_init 0 = .ok (.aload_n 0, 1) := by decide +kernel
theorem dX3_init_1 : decode cX3_init 1 = .ok (.invokespecial 3, 3) := by decide +kernel
theorem dX3_init_4 : decode cX3_init 4 = .ok (.aload_n 0, 1) := by decide +kernel
theorem dX3_init_5 : decode cX3_init 5 = .ok (.iconst 0, 1) := by decide +kernel
theorem dX3_init_6 : decode cX3_init 6 = .ok (.putfield 9, 3) := by decide +kernel
theorem dX3_init_9 : decode cX3_init 9 = .ok (.aload_n 0, 1) := by decide +kernel
theorem dX3_init_10 : decode cX3_init 10 = .ok (.iconst 0, 1) := by decide +kernel
theorem dX3_init_11 : decode cX3_init 11 = .ok (.putfield 15, 3) := by decide +kernel
theorem dX3_init_14 : decode cX3_init 14 = .ok (.aload_n 0, 1) := by decide +kernel
theorem dX3_init_15 : decode cX3_init 15 = .ok (.bipush 40, 2) := by decide +kernel
theorem dX3_init_17 : decode cX3_init 17 = .ok (.newarray .long, 2) := by decide +kernel
theorem dX3_init_19 : decode cX3_init 19 = .ok (.putfield 18, 3) := by decide +kernel
theorem dX3_init_22 : decode cX3_init 22 = .ok (.return_, 1) := by decide +kernel
theorem dX4_init_0 : decode cX4_init 0 = .ok (.aload_n 0, 1) := by decide +kernel
theorem dX4_init_1 : decode cX4_init 1 = .ok (.invokespecial 3, 3) := by decide +kernel
theorem dX4_init_4 : decode cX4_init 4 = .ok (.aload_n 0, 1) := by decide +kernel
theorem dX4_init_5 : decode cX4_init 5 = .ok (.iconst 0, 1) := by decide +kernel
theorem dX4_init_6 : decode cX4_init 6 = .ok (.putfield 9, 3) := by decide +kernel
theorem dX4_init_9 : decode cX4_init 9 = .ok (.aload_n 0, 1) := by decide +kernel
theorem dX4_init_10 : decode cX4_init 10 = .ok (.bipush 120, 2) := by decide +kernel
theorem dX4_init_12 : decode cX4_init 12 = .ok (.newarray .int, 2) := by decide +kernel
theorem dX4_init_14 : decode cX4_init 14 = .ok (.putfield 15, 3) := by decide +kernel
theorem dX4_init_17 : decode cX4_init 17 = .ok (.aload_n 0, 1) := by decide +kernel
theorem dX4_init_18 : decode cX4_init 18 = .ok (.iconst 0, 1) := by decide +kernel
theorem dX4_init_19 : decode cX4_init 19 = .ok (.putfield 19, 3) := by decide +kernel
theorem dX4_init_22 : decode cX4_init 22 = .ok (.aload_n 0, 1) := by decide +kernel
theorem dX4_init_23 : decode cX4_init 23 = .ok (.iconst 0, 1) := by decide +kernel
theorem dX4_init_24 : decode cX4_init 24 = .ok (.putfield 22, 3) := by decide +kernel
theorem dX4_init_27 : decode cX4_init 27 = .ok (.aload_n 0, 1) := by decide +kernel
theorem dX4_init_28 : decode cX4_init 28 = .ok (.iconst 0, 1) := by decide +kernel
theorem dX4_init_29 : decode cX4_init 29 = .ok (.putfield 25, 3) := by decide +kernel
theorem dX4_init_32 : decode cX4_init 32 = .ok (.aload_n 0, 1) := by decide +kernel
theorem dX4_init_33 : decode cX4_init 33 = .ok (.iconst 0, 1) := by decide +kernel
theorem dX4_init_34 : decode cX4_init 34 = .ok (.putfield 28, 3) := by decide +kernel
theorem dX4_init_37 : decode cX4_init 37 = .ok (.return_, 1) := by decide +kernel
theorem dX5_init_0 : decode cX5_init 0 = .ok (.aload_n 0, 1) := by decide +kernel
theorem dX5_init_1 : decode cX5_init 1 = .ok (.invokespecial 3, 3) := by decide +kernel
theorem dX5_init_4 : decode cX5_init 4 = .ok (.aload_n 0, 1) := by decide +kernel
theorem dX5_init_5 : decode cX5_init 5 = .ok (.iconst 0, 1) := by decide +kernel
theorem dX5_init_6 : decode cX5_init 6 = .ok (.putfield 9, 3) := by decide +kernel
theorem dX5_init_9 : decode cX5_init 9 = .ok (.aload_n 0, 1) := by decide +kernel
theorem dX5_init_10 : decode cX5_init 10 = .ok (.bipush 12, 2) := by decide +kernel
theorem dX5_init_12 : decode cX5_init 12 = .ok (.newarray .int, 2) := by decide +kernel
theorem dX5_init_14 : decode cX5_init 14 = .ok (.putfield 15, 3) := by decide +kernel
theorem dX5_init_17 : decode cX5_init 17 = .ok (.aload_n 0, 1) := by decide +kernel
theorem dX5_init_18 : decode cX5_init 18 = .ok (.bipush 12, 2) := by decide +kernel
theorem dX5_init_20 : decode cX5_init 20 = .ok (.newarray .int, 2) := by decide +kernel
theorem dX5_init_22 : decode cX5_init 22 = .ok (.putfield 19, 3) := by decide +kernel
theorem dX5_init_25 : decode cX5_init 25 = .ok (.aload_n 0, 1) := by decide +kernel
theorem dX5_init_26 : decode cX5_init 26 = .ok (.iconst 0, 1) := by decide +kernel
theorem dX5_init_27 : decode cX5_init 27 = .ok (.putfield 22, 3) := by decide +kernel
theorem dX5_init_30 : decode cX5_init 30 = .ok (.aload_n 0, 1) := by decide +kernel
theorem dX5_init_31 : decode cX5_init 31 = .ok (.bipush 12, 2) := by decide +kernel
theorem dX5_init_33 : decode cX5_init 33 = .ok (.newarray .int, 2) := by decide +kernel
theorem dX5_init_35 : decode cX5_init 35 = .ok (.putfield 25, 3) := by decide +kernel
theorem dX5_init_38 : decode cX5_init 38 = .ok (.aload_n 0, 1) := by decide +kernel
theorem dX5_init_39 : decode cX5_init 39 = .ok (.iconst 0, 1) := by decide +kernel
theorem dX5_init_40 : decode cX5_init 40 = .ok (.putfield 28, 3) := by decide +kernel
theorem dX5_init_43 : decode cX5_init 43 = .ok (.return_, 1) := by decide +kernel
theorem dX1_init_0 : decode cX1_init 0 = .ok (.aload_n 0, 1) := by decide +kernel
theorem dX1_init_1 : decode cX1_init 1 = .ok (.invokespecial 3, 3) := by decide +kernel
theorem dX1_init_4 : decode cX1_init 4 = .ok (.aload_n 0, 1) := by decide +kernel
theorem dX1_init_5 : decode cX1_init 5 = .ok (.iconst 0, 1) := by decide +kernel
theorem dX1_init_6 : decode cX1_init 6 = .ok (.putfield 9, 3) := by decide +kernel
theorem dX1_init_9 : decode cX1_init 9 = .ok (.aload_n 0, 1) := by decide +kernel
theorem dX1_init_10 : decode cX1_init 10 = .ok (.bipush 10, 2) := by decide +kernel
theorem dX1_init_12 : decode cX1_init 12 = .ok (.newarray .int, 2) := by decide +kernel
theorem dX1_init_14 : decode cX1_init 14 = .ok (.putfield 15, 3) := by decide +kernel
theorem dX1_init_17 : decode cX1_init 17 = .ok (.aload_n 0, 1) := by decide +kernel
theorem dX1_init_18 : decode cX1_init 18 = .ok (.bipush 10, 2) := by decide +kernel
theorem dX1_init_20 : decode cX1_init 20 = .ok (.newarray .int, 2) := by decide +kernel
theorem dX1_init_22 : decode cX1_init 22 = .ok (.putfield 19, 3) := by decide +kernel
theorem dX1_init_25 : decode cX1_init 25 = .ok (.aload_n 0, 1) := by decide +kernel
theorem dX1_init_26 : decode cX1_init 26 = .ok (.bipush 16, 2) := by decide +kernel
theorem dX1_init_28 : decode cX1_init 28 = .ok (.newarray .int, 2) := by decide +kernel
theorem dX1_init_30 : decode cX1_init 30 = .ok (.putfield 22, 3) := by decide +kernel
theorem dX1_init_33 : decode cX1_init 33 = .ok (.aload_n 0, 1) := by decide +kernel
theorem dX1_init_34 : decode cX1_init 34 = .ok (.iconst 0, 1) := by decide +kernel
theorem dX1_init_35 : decode cX1_init 35 = .ok (.putfield 25, 3) := by decide +kernel
theorem dX1_init_38 : decode cX1_init 38 = .ok (.aload_n 0, 1) := by decide +kernel
theorem dX1_init_39 : decode cX1_init 39 = .ok (.bipush 20, 2) := by decide +kernel
theorem dX1_init_41 : decode cX1_init 41 = .ok (.newarray .int, 2) := by decide +kernel
theorem dX1_init_43 : decode cX1_init 43 = .ok (.putfield 28, 3) := by decide +kernel
theorem dX1_init_46 : decode cX1_init 46 = .ok (.aload_n 0, 1) := by decide +kernel
theorem dX1_init_47 : decode cX1_init 47 = .ok (.iconst 0, 1) := by decide +kernel
theorem dX1_init_48 : decode cX1_init 48 = .ok (.putfield 31, 3) := by decide +kernel
theorem dX1_init_51 : decode cX1_init 51 = .ok (.aload_n 0, 1) := by decide +kernel
theorem dX1_init_52 : decode cX1_init 52 = .ok (.bipush 6, 2) := by decide +kernel
theorem dX1_init_54 : decode cX1_init 54 = .ok (.newarray .int, 2) := by decide +kernel
theorem dX1_init_56 : decode cX1_init 56 = .ok (.putfield 34, 3) := by decide +kernel
theorem dX1_init_59 : decode cX1_init 59 = .ok (.aload_n 0, 1) := by decide +kernel
theorem dX1_init_60 : decode cX1_init 60 = .ok (.bipush 6, 2) := by decide +kernel
theorem dX1_init_62 : decode cX1_init 62 = .ok (.newarray .int, 2) := by decide +kernel
theorem dX1_init_64 : decode cX1_init 64 = .ok (.putfield 37, 3) := by decide +kernel
theorem dX1_init_67 : decode cX1_init 67 = .ok (.aload_n 0, 1) := by decide +kernel
theorem dX1_init_68 : decode cX1_init 68 = .ok (.bipush 6, 2) := by decide +kernel
theorem dX1_init_70 : decode cX1_init 70 = .ok (.newarray .int, 2) := by decide +kernel
theorem dX1_init_72 : decode cX1_init 72 = .ok (.putfield 40, 3) := by decide +kernel
theorem dX1_init_75 : decode cX1_init 75 = .ok (.iconst 0, 1) := by decide +kernel
theorem dX1_init_76 : decode cX1_init 76 = .ok (.istore_n 1, 1) := by decide +kernel
theorem dX1_init_77 : decode cX1_init 77 = .ok (.iload_n 1, 1) := by decide +kernel
theorem dX1_init_78 : decode cX1_init 78 = .ok (.bipush 16, 2) := by decide +kernel
theorem dX1_init_80 : decode cX1_init 80 = .ok (.if_icmp .ge 19, 3) := by decide +kernel
theorem dX1_init_83 : decode cX1_init 83 = .ok (.aload_n 0, 1) := by decide +kernel
theorem dX1_init_84 : decode cX1_init 84 = .ok (.getfield 22, 3) := by decide +kernel
theorem dX1_init_87 : decode cX1_init 87 = .ok (.iload_n 1, 1) := by decide +kernel
theorem dX1_init_88 : decode cX1_init 88 = .ok (.iload_n 1, 1) := by decide +kernel
theorem dX1_init_89 : decode cX1_init 89 = .ok (.bipush 8, 2) := by decide +kernel
theorem dX1_init_91 : decode cX1_init 91 = .ok (.irem, 1) := by decide +kernel
theorem dX1_init_92 : decode cX1_init 92 = .ok (.iastore, 1) := by decide +kernel
theorem dX1_init_93 : decode cX1_init 93 = .ok (.iinc 1 1, 3) := by decide +kernel
theorem dX1_init_96 : decode cX1_init 96 = .ok (.goto (-19), 3) := by decide +kernel
theorem dX1_init_99 : decode cX1_init 99 = .ok (.return_, 1) := by decide +kernel
theorem dX7_init_0 : decode cX7_init 0 = .ok (.aload_n 0, 1) := by decide +kernel
theorem dX7_init_1 : decode cX7_init 1 = .ok (.invokespecial 1, 3) := by decide +kernel
theorem dX7_init_4 : decode cX7_init 4 = .ok (.aload_n 0, 1) := by decide +kernel
theorem dX7_init_5 : decode cX7_init 5 = .ok (.bipush 80, 2) := by decide +kernel
theorem dX7_init_7 : decode cX7_init 7 = .ok (.newarray .int, 2) := by decide +kernel
theorem dX7_init_9 : decode cX7_init 9 = .ok (.putfield 7, 3) := by decide +kernel
theorem dX7_init_12 : decode cX7_init 12 = .ok (.aload_n 0, 1) := by decide +kernel
theorem dX7_init_13 : decode cX7_init 13 = .ok (.bipush 80, 2) := by decide +kernel
theorem dX7_init_15 : decode cX7_init 15 = .ok (.newarray .int, 2) := by decide +kernel
theorem dX7_init_17 : decode cX7_init 17 = .ok (.putfield 13, 3) := by decide +kernel
theorem dX7_init_20 : decode cX7_init 20 = .ok (.aload_n 0, 1) := by decide +kernel
theorem dX7_init_21 : decode cX7_init 21 = .ok (.bipush 80, 2) := by decide +kernel
theorem dX7_init_23 : decode cX7_init 23 = .ok (.newarray .int, 2) := by decide +kernel
theorem dX7_init_25 : decode cX7_init 25 = .ok (.putfield 16, 3) := by decide +kernel
theorem dX7_init_28 : decode cX7_init 28 = .ok (.aload_n 0, 1) := by decide +kernel
theorem dX7_init_29 : decode cX7_init 29 = .ok (.bipush 7, 2) := by decide +kernel
theorem dX7_init_31 : decode cX7_init 31 = .ok (.newarray .int, 2) := by decide +kernel
theorem dX7_init_33 : decode cX7_init 33 = .ok (.putfield 19, 3) := by decide +kernel
theorem dX7_init_36 : decode cX7_init 36 = .ok (.aload_n 0, 1) := by decide +kernel
theorem dX7_init_37 : decode cX7_init 37 = .ok (.bipush 120, 2) := by decide +kernel
theorem dX7_init_39 : decode cX7_init 39 = .ok (.newarray .byte, 2) := by decide +kernel
theorem dX7_init_41 : decode cX7_init 41 = .ok (.putfield 22, 3) := by decide +kernel
theorem dX7_init_44 : decode cX7_init 44 = .ok (.aload_n 0, 1) := by decide +kernel
theorem dX7_init_45 : decode cX7_init 45 = .ok (.bipush 20, 2) := by decide +kernel
theorem dX7_init_47 : decode cX7_init 47 = .ok (.newarray .int, 2) := by decide +kernel
theorem dX7_init_49 : decode cX7_init 49 = .ok (.putfield 26, 3) := by decide +kernel
theorem dX7_init_52 : decode cX7_init 52 = .ok (.aload_n 0, 1) := by decide +kernel
theorem dX7_init_53 : decode cX7_init 53 = .ok (.bipush 80, 2) := by decide +kernel
theorem dX7_init_55 : decode cX7_init 55 = .ok (.newarray .int, 2) := by decide +kernel
theorem dX7_init_57 : decode cX7_init 57 = .ok (.putfield 29, 3) := by decide +kernel
theorem dX7_init_60 : decode cX7_init 60 = .ok (.aload_n 0, 1) := by decide +kernel
theorem dX7_init_61 : decode cX7_init 61 = .ok (.sipush 4096, 3) := by decide +kernel
theorem dX7_init_64 : decode cX7_init 64 = .ok (.newarray .int, 2) := by decide +kernel
theorem dX7_init_66 : decode cX7_init 66 = .ok (.putfield 32, 3) := by decide +kernel
theorem dX7_init_69 : decode cX7_init 69 = .ok (.aload_n 0, 1) := by decide +kernel
theorem dX7_init_70 : decode cX7_init 70 = .ok (.bipush 8, 2) := by decide +kernel
theorem dX7_init_72 : decode cX7_init 72 = .ok (.newarray .int, 2) := by decide +kernel
theorem dX7_init_74 : decode cX7_init 74 = .ok (.putfield 35, 3) := by decide +kernel
theorem dX7_init_77 : decode cX7_init 77 = .ok (.aload_n 0, 1) := by decide +kernel
theorem dX7_init_78 : decode cX7_init 78 = .ok (.iconst 4, 1) := by decide +kernel
theorem dX7_init_79 : decode cX7_init 79 = .ok (.newarray .int, 2) := by decide +kernel
theorem dX7_init_81 : decode cX7_init 81 = .ok (.putfield 38, 3) := by decide +kernel
theorem dX7_init_84 : decode cX7_init 84 = .ok (.aload_n 0, 1) := by decide +kernel
theorem dX7_init_85 : decode cX7_init 85 = .ok (.iconst 4, 1) := by decide +kernel
theorem dX7_init_86 : decode cX7_init 86 = .ok (.newarray .int, 2) := by decide +kernel
theorem dX7_init_88 : decode cX7_init 88 = .ok (.putfield 41, 3) := by decide +kernel
theorem dX7_init_91 : decode cX7_init 91 = .ok (.aload_n 0, 1) := by decide +kernel
theorem dX7_init_92 : decode cX7_init 92 = .ok (.sipush 160, 3) := by decide +kernel
theorem dX7_init_95 : decode cX7_init 95 = .ok (.newarray .long, 2) := by decide +kernel
theorem dX7_init_97 : decode cX7_init 97 = .ok (.putfield 44, 3) := by decide +kernel
theorem dX7_init_100 : decode cX7_init 100 = .ok (.aload_n 0, 1) := by decide +kernel
theorem dX7_init_101 : decode cX7_init 101 = .ok (.bipush 40, 2) := by decide +kernel
theorem dX7_init_103 : decode cX7_init 103 = .ok (.newarray .long, 2) := by decide +kernel
theorem dX7_init_105 : decode cX7_init 105 = .ok (.putfield 48, 3) := by decide +kernel
theorem dX7_init_108 : decode cX7_init 108 = .ok (.iconst 0, 1) := by decide +kernel
theorem dX7_init_109 : decode cX7_init 109 = .ok (.istore_n 1, 1) := by decide +kernel
theorem dX7_init_110 : decode cX7_init 110 = .ok (.iload_n 1, 1) := by decide +kernel
theorem dX7_init_111 : decode cX7_init 111 = .ok (.bipush 16, 2) := by decide +kernel
theorem dX7_init_113 : decode cX7_init 113 = .ok (.if_icmp .ge 22, 3) := by decide +kernel
theorem dX7_init_116 : decode cX7_init 116 = .ok (.aload_n 0, 1) := by decide +kernel
theorem dX7_init_117 : decode cX7_init 117 = .ok (.getfield 7, 3) := by decide +kernel
theorem dX7_init_120 : decode cX7_init 120 = .ok (.bipush 24, 2) := by decide +kernel
theorem dX7_init_122 : decode cX7_init 122 = .ok (.iload_n 1, 1) := by decide +kernel
theorem dX7_init_123 : decode cX7_init 123 = .ok (.iadd, 1) := by decide +kernel
theorem dX7_init_124 : decode cX7_init 124 = .ok (.iload_n 1, 1) := by decide +kernel
theorem dX7_init_125 : decode cX7_init 125 = .ok (.bipush 8, 2) := by decide +kernel
theorem dX7_init_127 : decode cX7_init 127 = .ok (.irem, 1) := by decide +kernel
theorem dX7_init_128 : decode cX7_init 128 = .ok (.iastore, 1) := by decide +kernel
theorem dX7_init_129 : decode cX7_init 129 = .ok (.iinc 1 1, 3) := by decide +kernel
theorem dX7_init_132 : decode cX7_init 132 = .ok (.goto (-22), 3) := by decide +kernel
theorem dX7_init_135 : decode cX7_init 135 = .ok (.return_, 1) := by decide +kernel
theorem dX6_init_0 : decode cX6_init 0 = .ok (.aload_n 0, 1) := by decide +kernel
theorem dX6_init_1 : decode cX6_init 1 = .ok (.invokespecial 3, 3) := by decide +kernel
theorem dX6_init_4 : decode cX6_init 4 = .ok (.aload_n 0, 1) := by decide +kernel
theorem dX6_init_5 : decode cX6_init 5 = .ok (.new 9, 3) := by decide +kernel
theorem dX6_init_8 : decode cX6_init 8 = .ok (.dup, 1) := by decide +kernel
theorem dX6_init_9 : decode cX6_init 9 = .ok (.invokespecial 11, 3) := by decide +kernel
theorem dX6_init_12 : decode cX6_init 12 = .ok (.putfield 12, 3) := by decide +kernel
theorem dX6_init_15 : decode cX6_init 15 = .ok (.aload_n 0, 1) := by decide +kernel
theorem dX6_init_16 : decode cX6_init 16 = .ok (.new 9, 3) := by decide +kernel
theorem dX6_init_19 : decode cX6_init 19 = .ok (.dup, 1) := by decide +kernel
theorem dX6_init_20 : decode cX6_init 20 = .ok (.invokespecial 11, 3) := by decide +kernel
theorem dX6_init_23 : decode cX6_init 23 = .ok (.putfield 16, 3) := by decide +kernel
theorem dX6_init_26 : decode cX6_init 26 = .ok (.aload_n 0, 1) := by decide +kernel
theorem dX6_init_27 : decode cX6_init 27 = .ok (.new 9, 3) := by decide +kernel
theorem dX6_init_30 : decode cX6_init 30 = .ok (.dup, 1) := by decide +kernel
theorem dX6_init_31 : decode cX6_init 31 = .ok (.invokespecial 11, 3) := by decide +kernel
theorem dX6_init_34 : decode cX6_init 34 = .ok (.putfield 19, 3) := by decide +kernel
theorem dX6_init_37 : decode cX6_init 37 = .ok (.aload_n 0, 1) := by decide +kernel
theorem dX6_init_38 : decode cX6_init 38 = .ok (.new 22, 3) := by decide +kernel
theorem dX6_init_41 : decode cX6_init 41 = .ok (.dup, 1) := by decide +kernel
theorem dX6_init_42 : decode cX6_init 42 = .ok (.invokespecial 24, 3) := by decide +kernel
theorem dX6_init_45 : decode cX6_init 45 = .ok (.putfield 25, 3) := by decide +kernel
theorem dX6_init_48 : decode cX6_init 48 = .ok (.aload_n 0, 1) := by decide +kernel
theorem dX6_init_49 : decode cX6_init 49 = .ok (.new 29, 3) := by decide +kernel
theorem dX6_init_52 : decode cX6_init 52 = .ok (.dup, 1) := by decide +kernel
theorem dX6_init_53 : decode cX6_init 53 = .ok (.invokespecial 31, 3) := by decide +kernel
theorem dX6_init_56 : decode cX6_init 56 = .ok (.putfield 32, 3) := by decide +kernel
theorem dX6_init_59 : decode cX6_init 59 = .ok (.aload_n 0, 1) := by decide +kernel
theorem dX6_init_60 : decode cX6_init 60 = .ok (.new 36, 3) := by decide +kernel
theorem dX6_init_63 : decode cX6_init 63 = .ok (.dup, 1) := by decide +kernel
theorem dX6_init_64 : decode cX6_init 64 = .ok (.invokespecial 38, 3) := by decide +kernel
theorem dX6_init_67 : decode cX6_init 67 = .ok (.putfield 39, 3) := by decide +kernel
theorem dX6_init_70 : decode cX6_init 70 = .ok (.aload_n 0, 1) := by decide +kernel
theorem dX6_init_71 : decode cX6_init 71 = .ok (.new 43, 3) := by decide +kernel
theorem dX6_init_74 : decode cX6_init 74 = .ok (.dup, 1) := by decide +kernel
theorem dX6_init_75 : decode cX6_init 75 = .ok (.invokespecial 45, 3) := by decide +kernel
theorem dX6_init_78 : decode cX6_init 78 = .ok (.putfield 46, 3) := by decide +kernel
theorem dX6_init_81 : decode cX6_init 81 = .ok (.aload_n 0, 1) := by decide +kernel
theorem dX6_init_82 : decode cX6_init 82 = .ok (.iconst 4, 1) := by decide +kernel
theorem dX6_init_83 : decode cX6_init 83 = .ok (.anewarray 50, 3) := by decide +kernel
theorem dX6_init_86 : decode cX6_init 86 = .ok (.putfield 52, 3) := by decide +kernel
theorem dX6_init_89 : decode cX6_init 89 = .ok (.aload_n 0, 1) := by decide +kernel
theorem dX6_init_90 : decode cX6_init 90 = .ok (.bipush 7, 2) := by decide +kernel
theorem dX6_init_92 : decode cX6_init 92 = .ok (.newarray .int, 2) := by decide +kernel
theorem dX6_init_94 : decode cX6_init 94 = .ok (.putfield 56, 3) := by decide +kernel
theorem dX6_init_97 : decode cX6_init 97 = .ok (.aload_n 0, 1) := by decide +kernel
theorem dX6_init_98 : decode cX6_init 98 = .ok (.iconst 0, 1) := by decide +kernel
theorem dX6_init_99 : decode cX6_init 99 = .ok (.putfield 60, 3) := by decide +kernel
theorem dX6_init_102 : decode cX6_init 102 = .ok (.iconst 0, 1) := by decide +kernel
theorem dX6_init_103 : decode cX6_init 103 = .ok (.istore_n 1, 1) := by decide +kernel
theorem dX6_init_104 : decode cX6_init 104 = .ok (.iload_n 1, 1) := by decide +kernel
theorem dX6_init_105 : decode cX6_init 105 = .ok (.iconst 4, 1) := by decide +kernel
theorem dX6_init_106 : decode cX6_init 106 = .ok (.if_icmp .ge 22, 3) := by decide +kernel
theorem dX6_init_109 : decode cX6_init 109 = .ok (.aload_n 0, 1) := by decide +kernel
theorem dX6_init_110 : decode cX6_init 110 = .ok (.getfield 52, 3) := by decide +kernel
theorem dX6_init_113 : decode cX6_init 113 = .ok (.iload_n 1, 1) := by decide +kernel
theorem dX6_init_114 : decode cX6_init 114 = .ok (.new 50, 3) := by decide +kernel
theorem dX6_init_117 : decode cX6_init 117 = .ok (.dup, 1) := by decide +kernel
theorem dX6_init_118 : decode cX6_init 118 = .ok (.invokespecial 64, 3) := by decide +kernel
theorem dX6_init_121 : decode cX6_init 121 = .ok (.aastore, 1) := by decide +kernel
theorem dX6_init_122 : decode cX6_init 122 = .ok (.iinc 1 1, 3) := by decide +kernel
theorem dX6_init_125 : decode cX6_init 125 = .ok (.goto (-21), 3) := by decide +kernel
theorem dX6_init_128 : decode cX6_init 128 = .ok (.return_, 1) := by decide +kernel
theorem dL_law_0 : decode cL_law 0 = .ok (.new 7, 3) := by decide +kernel
theorem dL_law_3 : decode cL_law 3 = .ok (.dup, 1) := by decide +kernel
theorem dL_law_4 : decode cL_law 4 = .ok (.invokespecial 9, 3) := by decide +kernel
theorem dL_law_7 : decode cL_law 7 = .ok (.astore_n 1, 1) := by decide +kernel
theorem dL_law_8 : decode cL_law 8 = .ok (.new 10, 3) := by decide +kernel
theorem dL_law_11 : decode cL_law 11 = .ok (.dup, 1) := by decide +kernel
theorem dL_law_12 : decode cL_law 12 = .ok (.invokespecial 12, 3) := by decide +kernel
theorem dL_law_15 : decode cL_law 15 = .ok (.astore_n 2, 1) := by decide +kernel
theorem dL_law_16 : decode cL_law 16 = .ok (.iconst 0, 1) := by decide +kernel
theorem dL_law_17 : decode cL_law 17 = .ok (.istore_n 3, 1) := by decide +kernel
end MAK
