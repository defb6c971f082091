theorem ok_J6_numberOfTrailingZeros_0f7a4 : MOk 228 e_J6_numberOfTrailingZeros_0f7a4 := ⟨rfl, ⟨80, _, rfl, rg (by decide +kernel)⟩, rfl, by decide +kernel, by decide +kernel⟩
theorem ca_J6_numberOfTrailingZeros_0f7a4 : Cal e_J6_numberOfTrailingZeros_0f7a4 := ⟨by decide +kernel, ⟨by decide +kernel, by decide +kernel⟩, tAt_ok (p := some 895) (by decide +kernel), tAt_ok (p := some 83) (by decide +kernel), (fun _ => tAt_ok (p := some 894) (by decide +kernel)), (fun h => by cases h)⟩
theorem ok_J6_bitCount_0f7a4 : MOk 229 e_J6_bitCount_0f7a4 := ⟨rfl, ⟨53, _, rfl, rg (by decide +kernel)⟩, rfl, by decide +kernel, by decide +kernel⟩
theorem ca_J6_bitCount_0f7a4 : Cal e_J6_bitCount_0f7a4 := ⟨by decide +kernel, ⟨by decide +kernel, by decide +kernel⟩, tAt_ok (p := some 352) (by decide +kernel), tAt_ok (p := some 83) (by decide +kernel), (fun _ => tAt_ok (p := some 351) (by decide +kernel)), (fun h => by cases h)⟩
theorem ok_J0_length_8abf5 : MOk 230 e_J0_length_8abf5 := ⟨rfl, ⟨11, _, rfl, rg (by decide +kernel)⟩, rfl, by decide +kernel, by decide +kernel⟩
theorem ca_J0_length_8abf5 : Cal e_J0_length_8abf5 := ⟨by decide +kernel, ⟨by decide +kernel, by decide +kernel⟩, tAt_ok (p := some 732) (by decide +kernel), tAt_ok (p := some 86) (by decide +kernel), (fun h => by cases h), (fun _ => ⟨tAt_ok (p := some 730) (by decide +kernel), tAt_ok (p := some 731) (by decide +kernel)⟩)⟩
theorem ok_J0_charAt_5068e : MOk 231 e_J0_charAt_5068e := ⟨rfl, ⟨25, _, rfl, rg (by decide +kernel)⟩, rfl, by decide +kernel, by decide +kernel⟩
theorem ca_J0_charAt_5068e : Cal e_J0_charAt_5068e := ⟨by decide +kernel, ⟨by decide +kernel, by decide +kernel⟩, tAt_ok (p := some 742) (by decide +kernel), tAt_ok (p := some 86) (by decide +kernel), (fun h => by cases h), (fun _ => ⟨tAt_ok (p := some 740) (by decide +kernel), tAt_ok (p := some 741) (by decide +kernel)⟩)⟩
theorem ok_J0_coder_7d493 : MOk 232 e_J0_coder_7d493 := ⟨rfl, ⟨15, _, rfl, rg (by decide +kernel)⟩, rfl, by decide +kernel, by decide +kernel⟩
theorem ca_J0_coder_7d493 : Cal e_J0_coder_7d493 := ⟨by decide +kernel, ⟨by decide +kernel, by decide +kernel⟩, tAt_ok (p := some 736) (by decide +kernel), tAt_ok (p := some 86) (by decide +kernel), (fun h => by cases h), (fun _ => ⟨tAt_ok (p := some 734) (by decide +kernel), tAt_ok (p := some 735) (by decide +kernel)⟩)⟩
theorem ok_J0_isLatin1_aae02 : MOk 233 e_J0_isLatin1_aae02 := ⟨rfl, ⟨19, _, rfl, rg (by decide +kernel)⟩, rfl, by decide +kernel, by decide +kernel⟩
theorem ca_J0_isLatin1_aae02 : Cal e_J0_isLatin1_aae02 := ⟨by decide +kernel, ⟨by decide +kernel, by decide +kernel⟩, tAt_ok (p := some 746) (by decide +kernel), tAt_ok (p := some 86) (by decide +kernel), (fun h => by cases h), (fun _ => ⟨tAt_ok (p := some 744) (by decide +kernel), tAt_ok (p := some 745) (by decide +kernel)⟩)⟩
theorem ok_J0_checkIndex_df160 : MOk 234 e_J0_checkIndex_df160 := ⟨rfl, ⟨10, _, rfl, rg (by decide +kernel)⟩, rfl, by decide +kernel, by decide +kernel⟩
theorem ca_J0_checkIndex_df160 : Cal e_J0_checkIndex_df160 := ⟨by decide +kernel, ⟨by decide +kernel, by decide +kernel⟩, tAt_ok (p := some 752) (by decide +kernel), tAt_ok (p := some 86) (by decide +kernel), (fun _ => tAt_ok (p := some 751) (by decide +kernel)), (fun h => by cases h)⟩
theorem ok_J1_charAt_3b067 : MOk 235 e_J1_charAt_3b067 := ⟨rfl, ⟨15, _, rfl, rg (by decide +kernel)⟩, rfl, by decide +kernel, by decide +kernel⟩
theorem ca_J1_charAt_3b067 : Cal e_J1_charAt_3b067 := ⟨by decide +kernel, ⟨by decide +kernel, by decide +kernel⟩, tAt_ok (p := some 749) (by decide +kernel), tAt_ok (p := some 87) (by decide +kernel), (fun _ => tAt_ok (p := some 748) (by decide +kernel)), (fun h => by cases h)⟩
theorem ok_J3_checkIndex_8e157 : MOk 236 e_J3_checkIndex_8e157 := ⟨rfl, ⟨18, _, rfl, rg (by decide +kernel)⟩, rfl, by decide +kernel, by decide +kernel⟩
theorem ca_J3_checkIndex_8e157 : Cal e_J3_checkIndex_8e157 := ⟨by decide +kernel, ⟨by decide +kernel, by decide +kernel⟩, tAt_ok (p := some 757) (by decide +kernel), tAt_ok (p := some 88) (by decide +kernel), (fun _ => tAt_ok (p := some 756) (by decide +kernel)), (fun h => by cases h)⟩
theorem ok_L_law_0 : (List.range 100).all (fun k => okk cL_law 15 11 392 (t_L_law (0 + k)) (0 + k)) = true := by decide +kernel
theorem ok_L_law_100 : (List.range 100).all (fun k => okk cL_law 15 11 392 (t_L_law (100 + k)) (100 + k)) = true := by decide +kernel
theorem ok_L_law_200 : (List.range 100).all (fun k => okk cL_law 15 11 392 (t_L_law (200 + k)) (200 + k)) = true := by decide +kernel
theorem ok_L_law_300 : (List.range 100).all (fun k => okk cL_law 15 11 392 (t_L_law (300 + k)) (300 + k)) = true := by decide +kernel
theorem ok_L_law_400 : (List.range 100).all (fun k => okk cL_law 15 11 392 (t_L_law (400 + k)) (400 + k)) = true := by decide +kernel
theorem ok_L_law_500 : (List.range 100).all (fun k => okk cL_law 15 11 392 (t_L_law (500 + k)) (500 + k)) = true := by decide +kernel
theorem ok_L_law_600 : (List.range 100).all (fun k => okk cL_law 15 11 392 (t_L_law (600 + k)) (600 + k)) = true := by decide +kernel
theorem ok_L_law_700 : (List.range 100).all (fun k => okk cL_law 15 11 392 (t_L_law (700 + k)) (700 + k)) = true := by decide +kernel
theorem ok_L_law_800 : (List.range 100).all (fun k => okk cL_law 15 11 392 (t_L_law (800 + k)) (800 + k)) = true := by decide +kernel
theorem ok_L_law_900 : (List.range 100).all (fun k => okk cL_law 15 11 392 (t_L_law (900 + k)) (900 + k)) = true := by decide +kernel
theorem ok_L_law_1000 : (List.range 100).all (fun k => okk cL_law 15 11 392 (t_L_law (1000 + k)) (1000 + k)) = true := by decide +kernel
theorem ok_L_law_1100 : (List.range 100).all (fun k => okk cL_law 15 11 392 (t_L_law (1100 + k)) (1100 + k)) = true := by decide +kernel
theorem ok_L_law_1200 : (List.range 100).all (fun k => okk cL_law 15 11 392 (t_L_law (1200 + k)) (1200 + k)) = true := by decide +kernel
theorem ok_L_law_1300 : (List.range 100).all (fun k => okk cL_law 15 11 392 (t_L_law (1300 + k)) (1300 + k)) = true := by decide +kernel
theorem ok_L_law_1400 : (List.range 75).all (fun k => okk cL_law 15 11 392 (t_L_law (1400 + k)) (1400 + k)) = true := by decide +kernel
theorem ok_L_law_t : ∀ pc, pc < 1475 → okk (eB e_L_law) (eC e_L_law) (eF e_L_law) (eL e_L_law) (t_L_law pc) pc = true := fun pc hp => by
  have h : (0 ≤ pc ∧ pc < 0 + 100) ∨ (100 ≤ pc ∧ pc < 100 + 100) ∨ (200 ≤ pc ∧ pc < 200 + 100) ∨ (300 ≤ pc ∧ pc < 300 + 100) ∨ (400 ≤ pc ∧ pc < 400 + 100) ∨ (500 ≤ pc ∧ pc < 500 + 100) ∨ (600 ≤ pc ∧ pc < 600 + 100) ∨ (700 ≤ pc ∧ pc < 700 + 100) ∨ (800 ≤ pc ∧ pc < 800 + 100) ∨ (900 ≤ pc ∧ pc < 900 + 100) ∨ (1000 ≤ pc ∧ pc < 1000 + 100) ∨ (1100 ≤ pc ∧ pc < 1100 + 100) ∨ (1200 ≤ pc ∧ pc < 1200 + 100) ∨ (1300 ≤ pc ∧ pc < 1300 + 100) ∨ (1400 ≤ pc ∧ pc < 1400 + 75) := by omega
  rcases h with ⟨a, b⟩ | ⟨a, b⟩ | ⟨a, b⟩ | ⟨a, b⟩ | ⟨a, b⟩ | ⟨a, b⟩ | ⟨a, b⟩ | ⟨a, b⟩ | ⟨a, b⟩ | ⟨a, b⟩ | ⟨a, b⟩ | ⟨a, b⟩ | ⟨a, b⟩ | ⟨a, b⟩ | ⟨a, b⟩
  · exact rg2 (f := fun pc => okk (eB e_L_law) (eC e_L_law) (eF e_L_law) (eL e_L_law) (t_L_law pc) pc) ok_L_law_0 pc a b
  · exact rg2 (f := fun pc => okk (eB e_L_law) (eC e_L_law) (eF e_L_law) (eL e_L_law) (t_L_law pc) pc) ok_L_law_100 pc a b
  · exact rg2 (f := fun pc => okk (eB e_L_law) (eC e_L_law) (eF e_L_law) (eL e_L_law) (t_L_law pc) pc) ok_L_law_200 pc a b
  · exact rg2 (f := fun pc => okk (eB e_L_law) (eC e_L_law) (eF e_L_law) (eL e_L_law) (t_L_law pc) pc) ok_L_law_300 pc a b
  · exact rg2 (f := fun pc => okk (eB e_L_law) (eC e_L_law) (eF e_L_law) (eL e_L_law) (t_L_law pc) pc) ok_L_law_400 pc a b
  · exact rg2 (f := fun pc => okk (eB e_L_law) (eC e_L_law) (eF e_L_law) (eL e_L_law) (t_L_law pc) pc) ok_L_law_500 pc a b
  · exact rg2 (f := fun pc => okk (eB e_L_law) (eC e_L_law) (eF e_L_law) (eL e_L_law) (t_L_law pc) pc) ok_L_law_600 pc a b
  · exact rg2 (f := fun pc => okk (eB e_L_law) (eC e_L_law) (eF e_L_law) (eL e_L_law) (t_L_law pc) pc) ok_L_law_700 pc a b
  · exact rg2 (f := fun pc => okk (eB e_L_law) (eC e_L_law) (eF e_L_law) (eL e_L_law) (t_L_law pc) pc) ok_L_law_800 pc a b
  · exact rg2 (f := fun pc => okk (eB e_L_law) (eC e_L_law) (eF e_L_law) (eL e_L_law) (t_L_law pc) pc) ok_L_law_900 pc a b
  · exact rg2 (f := fun pc => okk (eB e_L_law) (eC e_L_law) (eF e_L_law) (eL e_L_law) (t_L_law pc) pc) ok_L_law_1000 pc a b
  · exact rg2 (f := fun pc => okk (eB e_L_law) (eC e_L_law) (eF e_L_law) (eL e_L_law) (t_L_law pc) pc) ok_L_law_1100 pc a b
  · exact rg2 (f := fun pc => okk (eB e_L_law) (eC e_L_law) (eF e_L_law) (eL e_L_law) (t_L_law pc) pc) ok_L_law_1200 pc a b
  · exact rg2 (f := fun pc => okk (eB e_L_law) (eC e_L_law) (eF e_L_law) (eL e_L_law) (t_L_law pc) pc) ok_L_law_1300 pc a b
  · exact rg2 (f := fun pc => okk (eB e_L_law) (eC e_L_law) (eF e_L_law) (eL e_L_law) (t_L_law pc) pc) ok_L_law_1400 pc a b
theorem ok_L_law : MOk 237 e_L_law := ⟨rfl, ⟨1475, _, rfl, fun pc hp => by
  have h := ok_L_law_t pc hp
  unfold t_L_law at h
  rw [show Nat.blt pc 1475 = true by simpa [Nat.blt_eq] using hp] at h
  exact h⟩, rfl, by decide +kernel, by decide +kernel⟩
