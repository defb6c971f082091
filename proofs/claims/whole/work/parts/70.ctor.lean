section CTO
set_option maxHeartbeats 4000000 in
set_option maxRecDepth 100000 in
theorem c_X0 (l : Launch) (D : va_G) (dA : Nat → ClassId) (h0 sz : Nat) : Met l yX0_init (Cond.code yX0_init cX0_init 1 none :: tb) { frames := 1, cells := 7, slots := 88, locals := 12 } (PcI D dA h0 sz (.inr (0, [.int 0, .null, .null, .null, .null, .null, .int 0, .null, .null]))) (va_Qv (fun _ : Unit => True) (fun _ t => ∃ q1 q2 q3 q4 q5 q6 q7 : Nat, va_P D vwCl [(h0, .inr (0, [.int 0, .ref q1, .ref q2, .ref q3, .ref q4, .ref q5, .int 0, .ref q6, .ref q7])), (q1, .inl (dA 0, 10, .inl (fun _ => 0))), (q2, .inl (dA 0, 10, .inl (fun _ => 0))), (q3, .inl (dA 0, 10, .inl (fun _ => 0))), (q4, .inl (dA 0, 10, .inl (fun _ => 0))), (q5, .inl (dA 0, 8, .inl (fun _ => 0))), (q6, .inl (dA 0, 20, .inl (fun _ => 0))), (q7, .inl (dA 0, 20, .inl (fun _ => 0)))] t.heap ∧ va_K D vwCl (tysOf dA) t ∧ va_D (va_A [(h0, .inr (0, [.int 0, .null, .null, .null, .null, .null, .int 0, .null, .null]))] sz) [(h0, .inr (0, [.int 0, .ref q1, .ref q2, .ref q3, .ref q4, .ref q5, .int 0, .ref q6, .ref q7])), (q1, .inl (dA 0, 10, .inl (fun _ => 0))), (q2, .inl (dA 0, 10, .inl (fun _ => 0))), (q3, .inl (dA 0, 10, .inl (fun _ => 0))), (q4, .inl (dA 0, 10, .inl (fun _ => 0))), (q5, .inl (dA 0, 8, .inl (fun _ => 0))), (q6, .inl (dA 0, 20, .inl (fun _ => 0))), (q7, .inl (dA 0, 20, .inl (fun _ => 0)))]) (va_A [(h0, .inr (0, [.int 0, .null, .null, .null, .null, .null, .int 0, .null, .null]))] sz)) 7 88 (va_A [(h0, .inr (0, [.int 0, .null, .null, .null, .null, .null, .int 0, .null, .null]))] sz) := by
  refine Met.ofW (cc := cX0_init) (maxL := 1) (ret := none) (by decide) rfl ?_
  intro p e s m args below meth c s₁ B hml hv
  obtain ⟨rfl, hsz, hP, hK, hD0⟩ := hv
  have hx := B.exec
  have hb := B.bytes
  have hr := B.returns
  have hts0 := atoms_spec (ws := Cond.code yX0_init cX0_init 1 none :: tb) B.pre
  have hts : ∀ w ∈ tb, w.before _ s = true := fun w hw => hts0 w (List.mem_cons_of_mem _ hw)
  have hown : s.vm.findClass RX0 = some m.cls := findClass_of_methodNamed B.named
  have hlocks := B.notSynchronized
  have hin : meth.name = "<init>" := (name_of_methodNamed B.named B.method).1
  subst hsz
  have hD := hD0.self (sz := s.heap.size)
  generalize hAe : va_A [(h0, .inr (0, [.int 0, .null, .null, .null, .null, .null, .int 0, .null, .null]))] s.heap.size = A at hD ⊢
  have hA : ∀ q : Nat, s.heap.size ≤ q → A q := fun q h => by rw [← hAe]; exact Or.inr h
  have hS : va_S A s.heap s.heap [] := va_S.rf
  have hl := lv_entry ([.ref h0]) (n := 1) (Nat.le_of_ble_eq_true rfl)
  rw [lg_entry_eq]
  generalize (lg_sl ([.ref h0]) ++ List.replicate (1 - (lg_sl ([.ref h0])).length) Slot.unset).toArray = ls at hl ⊢
  have hl : lv_has ls 1 [(0, .ref h0)] := hl
  refine lv_aload_n hx hb dX0_init_0 rfl (lv_at hl 0 rfl) ?_
  refine W.objInit hx hb hown (hts _ tw_165) (hts _ tw_96) (hts _ tw_97) rfl (by rw [hml]; exact hl.1) rfl dX0_init_1 (Nat.le_of_ble_eq_true rfl) (Nat.le_of_ble_eq_true rfl) ?_
  refine W.eq (g2 := F0 m 4 ls []) rfl ?_
  refine lv_aload_n hx hb dX0_init_4 rfl (lv_at hl 0 rfl) ?_
  refine lv_iconst (v := 0) hx hb dX0_init_5 (by decide) ?_
  refine va_put (D := D) (ci := 0) (v := .int 0) (ty := .int) (C := RX0) (T := TX0) (N := 9) hx hb hts (tb_u inX0) tyX0 tyX0_ok nmX0 hown hK hP hD hS 0 rfl rfl 0 (by decide) (hts _ tw_166) (fun _ h9 => h9) rfl (by decide +kernel) rfl rfl (Nat.le_of_ble_eq_true rfl) dX0_init_6 (fun H locs hP hD hS => ?_)
  have hP : va_P D vwCl [(h0, .inr (0, [.int 0, .null, .null, .null, .null, .null, .int 0, .null, .null]))] H := hP
  have hD : va_D A [(h0, .inr (0, [.int 0, .null, .null, .null, .null, .null, .int 0, .null, .null]))] := hD
  refine lv_aload_n hx hb dX0_init_9 rfl (lv_at hl 0 rfl) ?_
  refine lv_bipush (v := 10) hx hb dX0_init_10 (by decide) ?_
  refine va_newD (atype := .int) (ty := .int) hx hb (hts _ tw_159) rfl (fun _ z => by cases z) hK 0 rfl hP hD hS hA (a0 := (10, .inl (fun _ => 0))) (N' := 10) (fun _ => rfl) (by decide) (by decide) (by decide) (Nat.le_of_ble_eq_true rfl) (Nat.le_of_ble_eq_true rfl) dX0_init_12 (fun q1 H hP hD hS => ?_)
  have hP : va_P D vwCl [(h0, .inr (0, [.int 0, .null, .null, .null, .null, .null, .int 0, .null, .null])), (q1, .inl (dA 0, 10, .inl (fun _ => 0)))] H := hP
  have hD : va_D A [(h0, .inr (0, [.int 0, .null, .null, .null, .null, .null, .int 0, .null, .null])), (q1, .inl (dA 0, 10, .inl (fun _ => 0)))] := hD
  refine W.widen (k := 1) (n := 10) (by omega) (by omega) ?_
  refine va_putF (D := D) (ci := 0) (v := .ref q1) (ty := .array .int) (C := RX0) (T := TX0) (N := 9) hx hb hts (tb_u inX0) tyX0 tyX0_ok nmX0 hown hK hP hD hS 0 rfl rfl 1 (by decide) (hts _ tw_167) (fun _ h9 => h9) rfl hin rfl (by decide +kernel) rfl rfl (Nat.le_of_ble_eq_true rfl) dX0_init_14 (fun H locs hP hD hS => ?_)
  have hP : va_P D vwCl [(h0, .inr (0, [.int 0, .ref q1, .null, .null, .null, .null, .int 0, .null, .null])), (q1, .inl (dA 0, 10, .inl (fun _ => 0)))] H := hP
  have hD : va_D A [(h0, .inr (0, [.int 0, .ref q1, .null, .null, .null, .null, .int 0, .null, .null])), (q1, .inl (dA 0, 10, .inl (fun _ => 0)))] := hD
  refine lv_aload_n hx hb dX0_init_17 rfl (lv_at hl 0 rfl) ?_
  refine lv_bipush (v := 10) hx hb dX0_init_18 (by decide) ?_
  refine va_newD (atype := .int) (ty := .int) hx hb (hts _ tw_159) rfl (fun _ z => by cases z) hK 0 rfl hP hD hS hA (a0 := (10, .inl (fun _ => 0))) (N' := 10) (fun _ => rfl) (by decide) (by decide) (by decide) (Nat.le_of_ble_eq_true rfl) (Nat.le_of_ble_eq_true rfl) dX0_init_20 (fun q2 H hP hD hS => ?_)
  have hP : va_P D vwCl [(h0, .inr (0, [.int 0, .ref q1, .null, .null, .null, .null, .int 0, .null, .null])), (q1, .inl (dA 0, 10, .inl (fun _ => 0))), (q2, .inl (dA 0, 10, .inl (fun _ => 0)))] H := hP
  have hD : va_D A [(h0, .inr (0, [.int 0, .ref q1, .null, .null, .null, .null, .int 0, .null, .null])), (q1, .inl (dA 0, 10, .inl (fun _ => 0))), (q2, .inl (dA 0, 10, .inl (fun _ => 0)))] := hD
  refine W.widen (k := 2) (n := 20) (by omega) (by omega) ?_
  refine va_putF (D := D) (ci := 0) (v := .ref q2) (ty := .array .int) (C := RX0) (T := TX0) (N := 9) hx hb hts (tb_u inX0) tyX0 tyX0_ok nmX0 hown hK hP hD hS 0 rfl rfl 2 (by decide) (hts _ tw_168) (fun _ h9 => h9) rfl hin rfl (by decide +kernel) rfl rfl (Nat.le_of_ble_eq_true rfl) dX0_init_22 (fun H locs hP hD hS => ?_)
  have hP : va_P D vwCl [(h0, .inr (0, [.int 0, .ref q1, .ref q2, .null, .null, .null, .int 0, .null, .null])), (q1, .inl (dA 0, 10, .inl (fun _ => 0))), (q2, .inl (dA 0, 10, .inl (fun _ => 0)))] H := hP
  have hD : va_D A [(h0, .inr (0, [.int 0, .ref q1, .ref q2, .null, .null, .null, .int 0, .null, .null])), (q1, .inl (dA 0, 10, .inl (fun _ => 0))), (q2, .inl (dA 0, 10, .inl (fun _ => 0)))] := hD
  refine lv_aload_n hx hb dX0_init_25 rfl (lv_at hl 0 rfl) ?_
  refine lv_bipush (v := 10) hx hb dX0_init_26 (by decide) ?_
  refine va_newD (atype := .int) (ty := .int) hx hb (hts _ tw_159) rfl (fun _ z => by cases z) hK 0 rfl hP hD hS hA (a0 := (10, .inl (fun _ => 0))) (N' := 10) (fun _ => rfl) (by decide) (by decide) (by decide) (Nat.le_of_ble_eq_true rfl) (Nat.le_of_ble_eq_true rfl) dX0_init_28 (fun q3 H hP hD hS => ?_)
  have hP : va_P D vwCl [(h0, .inr (0, [.int 0, .ref q1, .ref q2, .null, .null, .null, .int 0, .null, .null])), (q1, .inl (dA 0, 10, .inl (fun _ => 0))), (q2, .inl (dA 0, 10, .inl (fun _ => 0))), (q3, .inl (dA 0, 10, .inl (fun _ => 0)))] H := hP
  have hD : va_D A [(h0, .inr (0, [.int 0, .ref q1, .ref q2, .null, .null, .null, .int 0, .null, .null])), (q1, .inl (dA 0, 10, .inl (fun _ => 0))), (q2, .inl (dA 0, 10, .inl (fun _ => 0))), (q3, .inl (dA 0, 10, .inl (fun _ => 0)))] := hD
  refine W.widen (k := 3) (n := 30) (by omega) (by omega) ?_
  refine va_putF (D := D) (ci := 0) (v := .ref q3) (ty := .array .int) (C := RX0) (T := TX0) (N := 9) hx hb hts (tb_u inX0) tyX0 tyX0_ok nmX0 hown hK hP hD hS 0 rfl rfl 3 (by decide) (hts _ tw_170) (fun _ h9 => h9) rfl hin rfl (by decide +kernel) rfl rfl (Nat.le_of_ble_eq_true rfl) dX0_init_30 (fun H locs hP hD hS => ?_)
  have hP : va_P D vwCl [(h0, .inr (0, [.int 0, .ref q1, .ref q2, .ref q3, .null, .null, .int 0, .null, .null])), (q1, .inl (dA 0, 10, .inl (fun _ => 0))), (q2, .inl (dA 0, 10, .inl (fun _ => 0))), (q3, .inl (dA 0, 10, .inl (fun _ => 0)))] H := hP
  have hD : va_D A [(h0, .inr (0, [.int 0, .ref q1, .ref q2, .ref q3, .null, .null, .int 0, .null, .null])), (q1, .inl (dA 0, 10, .inl (fun _ => 0))), (q2, .inl (dA 0, 10, .inl (fun _ => 0))), (q3, .inl (dA 0, 10, .inl (fun _ => 0)))] := hD
  refine lv_aload_n hx hb dX0_init_33 rfl (lv_at hl 0 rfl) ?_
  refine lv_bipush (v := 10) hx hb dX0_init_34 (by decide) ?_
  refine va_newD (atype := .int) (ty := .int) hx hb (hts _ tw_159) rfl (fun _ z => by cases z) hK 0 rfl hP hD hS hA (a0 := (10, .inl (fun _ => 0))) (N' := 10) (fun _ => rfl) (by decide) (by decide) (by decide) (Nat.le_of_ble_eq_true rfl) (Nat.le_of_ble_eq_true rfl) dX0_init_36 (fun q4 H hP hD hS => ?_)
  have hP : va_P D vwCl [(h0, .inr (0, [.int 0, .ref q1, .ref q2, .ref q3, .null, .null, .int 0, .null, .null])), (q1, .inl (dA 0, 10, .inl (fun _ => 0))), (q2, .inl (dA 0, 10, .inl (fun _ => 0))), (q3, .inl (dA 0, 10, .inl (fun _ => 0))), (q4, .inl (dA 0, 10, .inl (fun _ => 0)))] H := hP
  have hD : va_D A [(h0, .inr (0, [.int 0, .ref q1, .ref q2, .ref q3, .null, .null, .int 0, .null, .null])), (q1, .inl (dA 0, 10, .inl (fun _ => 0))), (q2, .inl (dA 0, 10, .inl (fun _ => 0))), (q3, .inl (dA 0, 10, .inl (fun _ => 0))), (q4, .inl (dA 0, 10, .inl (fun _ => 0)))] := hD
  refine W.widen (k := 4) (n := 40) (by omega) (by omega) ?_
  refine va_putF (D := D) (ci := 0) (v := .ref q4) (ty := .array .int) (C := RX0) (T := TX0) (N := 9) hx hb hts (tb_u inX0) tyX0 tyX0_ok nmX0 hown hK hP hD hS 0 rfl rfl 4 (by decide) (hts _ tw_171) (fun _ h9 => h9) rfl hin rfl (by decide +kernel) rfl rfl (Nat.le_of_ble_eq_true rfl) dX0_init_38 (fun H locs hP hD hS => ?_)
  have hP : va_P D vwCl [(h0, .inr (0, [.int 0, .ref q1, .ref q2, .ref q3, .ref q4, .null, .int 0, .null, .null])), (q1, .inl (dA 0, 10, .inl (fun _ => 0))), (q2, .inl (dA 0, 10, .inl (fun _ => 0))), (q3, .inl (dA 0, 10, .inl (fun _ => 0))), (q4, .inl (dA 0, 10, .inl (fun _ => 0)))] H := hP
  have hD : va_D A [(h0, .inr (0, [.int 0, .ref q1, .ref q2, .ref q3, .ref q4, .null, .int 0, .null, .null])), (q1, .inl (dA 0, 10, .inl (fun _ => 0))), (q2, .inl (dA 0, 10, .inl (fun _ => 0))), (q3, .inl (dA 0, 10, .inl (fun _ => 0))), (q4, .inl (dA 0, 10, .inl (fun _ => 0)))] := hD
  refine lv_aload_n hx hb dX0_init_41 rfl (lv_at hl 0 rfl) ?_
  refine lv_bipush (v := 8) hx hb dX0_init_42 (by decide) ?_
  refine va_newD (atype := .int) (ty := .int) hx hb (hts _ tw_159) rfl (fun _ z => by cases z) hK 0 rfl hP hD hS hA (a0 := (8, .inl (fun _ => 0))) (N' := 8) (fun _ => rfl) (by decide) (by decide) (by decide) (Nat.le_of_ble_eq_true rfl) (Nat.le_of_ble_eq_true rfl) dX0_init_44 (fun q5 H hP hD hS => ?_)
  have hP : va_P D vwCl [(h0, .inr (0, [.int 0, .ref q1, .ref q2, .ref q3, .ref q4, .null, .int 0, .null, .null])), (q1, .inl (dA 0, 10, .inl (fun _ => 0))), (q2, .inl (dA 0, 10, .inl (fun _ => 0))), (q3, .inl (dA 0, 10, .inl (fun _ => 0))), (q4, .inl (dA 0, 10, .inl (fun _ => 0))), (q5, .inl (dA 0, 8, .inl (fun _ => 0)))] H := hP
  have hD : va_D A [(h0, .inr (0, [.int 0, .ref q1, .ref q2, .ref q3, .ref q4, .null, .int 0, .null, .null])), (q1, .inl (dA 0, 10, .inl (fun _ => 0))), (q2, .inl (dA 0, 10, .inl (fun _ => 0))), (q3, .inl (dA 0, 10, .inl (fun _ => 0))), (q4, .inl (dA 0, 10, .inl (fun _ => 0))), (q5, .inl (dA 0, 8, .inl (fun _ => 0)))] := hD
  refine W.widen (k := 5) (n := 48) (by omega) (by omega) ?_
  refine va_putF (D := D) (ci := 0) (v := .ref q5) (ty := .array .int) (C := RX0) (T := TX0) (N := 9) hx hb hts (tb_u inX0) tyX0 tyX0_ok nmX0 hown hK hP hD hS 0 rfl rfl 5 (by decide) (hts _ tw_172) (fun _ h9 => h9) rfl hin rfl (by decide +kernel) rfl rfl (Nat.le_of_ble_eq_true rfl) dX0_init_46 (fun H locs hP hD hS => ?_)
  have hP : va_P D vwCl [(h0, .inr (0, [.int 0, .ref q1, .ref q2, .ref q3, .ref q4, .ref q5, .int 0, .null, .null])), (q1, .inl (dA 0, 10, .inl (fun _ => 0))), (q2, .inl (dA 0, 10, .inl (fun _ => 0))), (q3, .inl (dA 0, 10, .inl (fun _ => 0))), (q4, .inl (dA 0, 10, .inl (fun _ => 0))), (q5, .inl (dA 0, 8, .inl (fun _ => 0)))] H := hP
  have hD : va_D A [(h0, .inr (0, [.int 0, .ref q1, .ref q2, .ref q3, .ref q4, .ref q5, .int 0, .null, .null])), (q1, .inl (dA 0, 10, .inl (fun _ => 0))), (q2, .inl (dA 0, 10, .inl (fun _ => 0))), (q3, .inl (dA 0, 10, .inl (fun _ => 0))), (q4, .inl (dA 0, 10, .inl (fun _ => 0))), (q5, .inl (dA 0, 8, .inl (fun _ => 0)))] := hD
  refine lv_aload_n hx hb dX0_init_49 rfl (lv_at hl 0 rfl) ?_
  refine lv_iconst (v := 0) hx hb dX0_init_50 (by decide) ?_
  refine va_put (D := D) (ci := 0) (v := .int 0) (ty := .int) (C := RX0) (T := TX0) (N := 9) hx hb hts (tb_u inX0) tyX0 tyX0_ok nmX0 hown hK hP hD hS 0 rfl rfl 6 (by decide) (hts _ tw_173) (fun _ h9 => h9) rfl (by decide +kernel) rfl rfl (Nat.le_of_ble_eq_true rfl) dX0_init_51 (fun H locs hP hD hS => ?_)
  have hP : va_P D vwCl [(h0, .inr (0, [.int 0, .ref q1, .ref q2, .ref q3, .ref q4, .ref q5, .int 0, .null, .null])), (q1, .inl (dA 0, 10, .inl (fun _ => 0))), (q2, .inl (dA 0, 10, .inl (fun _ => 0))), (q3, .inl (dA 0, 10, .inl (fun _ => 0))), (q4, .inl (dA 0, 10, .inl (fun _ => 0))), (q5, .inl (dA 0, 8, .inl (fun _ => 0)))] H := hP
  have hD : va_D A [(h0, .inr (0, [.int 0, .ref q1, .ref q2, .ref q3, .ref q4, .ref q5, .int 0, .null, .null])), (q1, .inl (dA 0, 10, .inl (fun _ => 0))), (q2, .inl (dA 0, 10, .inl (fun _ => 0))), (q3, .inl (dA 0, 10, .inl (fun _ => 0))), (q4, .inl (dA 0, 10, .inl (fun _ => 0))), (q5, .inl (dA 0, 8, .inl (fun _ => 0)))] := hD
  refine lv_aload_n hx hb dX0_init_54 rfl (lv_at hl 0 rfl) ?_
  refine lv_bipush (v := 20) hx hb dX0_init_55 (by decide) ?_
  refine va_newD (atype := .int) (ty := .int) hx hb (hts _ tw_159) rfl (fun _ z => by cases z) hK 0 rfl hP hD hS hA (a0 := (20, .inl (fun _ => 0))) (N' := 20) (fun _ => rfl) (by decide) (by decide) (by decide) (Nat.le_of_ble_eq_true rfl) (Nat.le_of_ble_eq_true rfl) dX0_init_57 (fun q6 H hP hD hS => ?_)
  have hP : va_P D vwCl [(h0, .inr (0, [.int 0, .ref q1, .ref q2, .ref q3, .ref q4, .ref q5, .int 0, .null, .null])), (q1, .inl (dA 0, 10, .inl (fun _ => 0))), (q2, .inl (dA 0, 10, .inl (fun _ => 0))), (q3, .inl (dA 0, 10, .inl (fun _ => 0))), (q4, .inl (dA 0, 10, .inl (fun _ => 0))), (q5, .inl (dA 0, 8, .inl (fun _ => 0))), (q6, .inl (dA 0, 20, .inl (fun _ => 0)))] H := hP
  have hD : va_D A [(h0, .inr (0, [.int 0, .ref q1, .ref q2, .ref q3, .ref q4, .ref q5, .int 0, .null, .null])), (q1, .inl (dA 0, 10, .inl (fun _ => 0))), (q2, .inl (dA 0, 10, .inl (fun _ => 0))), (q3, .inl (dA 0, 10, .inl (fun _ => 0))), (q4, .inl (dA 0, 10, .inl (fun _ => 0))), (q5, .inl (dA 0, 8, .inl (fun _ => 0))), (q6, .inl (dA 0, 20, .inl (fun _ => 0)))] := hD
  refine W.widen (k := 6) (n := 68) (by omega) (by omega) ?_
  refine va_putF (D := D) (ci := 0) (v := .ref q6) (ty := .array .int) (C := RX0) (T := TX0) (N := 9) hx hb hts (tb_u inX0) tyX0 tyX0_ok nmX0 hown hK hP hD hS 0 rfl rfl 7 (by decide) (hts _ tw_175) (fun _ h9 => h9) rfl hin rfl (by decide +kernel) rfl rfl (Nat.le_of_ble_eq_true rfl) dX0_init_59 (fun H locs hP hD hS => ?_)
  have hP : va_P D vwCl [(h0, .inr (0, [.int 0, .ref q1, .ref q2, .ref q3, .ref q4, .ref q5, .int 0, .ref q6, .null])), (q1, .inl (dA 0, 10, .inl (fun _ => 0))), (q2, .inl (dA 0, 10, .inl (fun _ => 0))), (q3, .inl (dA 0, 10, .inl (fun _ => 0))), (q4, .inl (dA 0, 10, .inl (fun _ => 0))), (q5, .inl (dA 0, 8, .inl (fun _ => 0))), (q6, .inl (dA 0, 20, .inl (fun _ => 0)))] H := hP
  have hD : va_D A [(h0, .inr (0, [.int 0, .ref q1, .ref q2, .ref q3, .ref q4, .ref q5, .int 0, .ref q6, .null])), (q1, .inl (dA 0, 10, .inl (fun _ => 0))), (q2, .inl (dA 0, 10, .inl (fun _ => 0))), (q3, .inl (dA 0, 10, .inl (fun _ => 0))), (q4, .inl (dA 0, 10, .inl (fun _ => 0))), (q5, .inl (dA 0, 8, .inl (fun _ => 0))), (q6, .inl (dA 0, 20, .inl (fun _ => 0)))] := hD
  refine lv_aload_n hx hb dX0_init_62 rfl (lv_at hl 0 rfl) ?_
  refine lv_bipush (v := 20) hx hb dX0_init_63 (by decide) ?_
  refine va_newD (atype := .int) (ty := .int) hx hb (hts _ tw_159) rfl (fun _ z => by cases z) hK 0 rfl hP hD hS hA (a0 := (20, .inl (fun _ => 0))) (N' := 20) (fun _ => rfl) (by decide) (by decide) (by decide) (Nat.le_of_ble_eq_true rfl) (Nat.le_of_ble_eq_true rfl) dX0_init_65 (fun q7 H hP hD hS => ?_)
  have hP : va_P D vwCl [(h0, .inr (0, [.int 0, .ref q1, .ref q2, .ref q3, .ref q4, .ref q5, .int 0, .ref q6, .null])), (q1, .inl (dA 0, 10, .inl (fun _ => 0))), (q2, .inl (dA 0, 10, .inl (fun _ => 0))), (q3, .inl (dA 0, 10, .inl (fun _ => 0))), (q4, .inl (dA 0, 10, .inl (fun _ => 0))), (q5, .inl (dA 0, 8, .inl (fun _ => 0))), (q6, .inl (dA 0, 20, .inl (fun _ => 0))), (q7, .inl (dA 0, 20, .inl (fun _ => 0)))] H := hP
  have hD : va_D A [(h0, .inr (0, [.int 0, .ref q1, .ref q2, .ref q3, .ref q4, .ref q5, .int 0, .ref q6, .null])), (q1, .inl (dA 0, 10, .inl (fun _ => 0))), (q2, .inl (dA 0, 10, .inl (fun _ => 0))), (q3, .inl (dA 0, 10, .inl (fun _ => 0))), (q4, .inl (dA 0, 10, .inl (fun _ => 0))), (q5, .inl (dA 0, 8, .inl (fun _ => 0))), (q6, .inl (dA 0, 20, .inl (fun _ => 0))), (q7, .inl (dA 0, 20, .inl (fun _ => 0)))] := hD
  refine W.widen (k := 7) (n := 88) (by omega) (by omega) ?_
  refine va_putF (D := D) (ci := 0) (v := .ref q7) (ty := .array .int) (C := RX0) (T := TX0) (N := 9) hx hb hts (tb_u inX0) tyX0 tyX0_ok nmX0 hown hK hP hD hS 0 rfl rfl 8 (by decide) (hts _ tw_176) (fun _ h9 => h9) rfl hin rfl (by decide +kernel) rfl rfl (Nat.le_of_ble_eq_true rfl) dX0_init_67 (fun H locs hP hD hS => ?_)
  have hP : va_P D vwCl [(h0, .inr (0, [.int 0, .ref q1, .ref q2, .ref q3, .ref q4, .ref q5, .int 0, .ref q6, .ref q7])), (q1, .inl (dA 0, 10, .inl (fun _ => 0))), (q2, .inl (dA 0, 10, .inl (fun _ => 0))), (q3, .inl (dA 0, 10, .inl (fun _ => 0))), (q4, .inl (dA 0, 10, .inl (fun _ => 0))), (q5, .inl (dA 0, 8, .inl (fun _ => 0))), (q6, .inl (dA 0, 20, .inl (fun _ => 0))), (q7, .inl (dA 0, 20, .inl (fun _ => 0)))] H := hP
  have hD : va_D A [(h0, .inr (0, [.int 0, .ref q1, .ref q2, .ref q3, .ref q4, .ref q5, .int 0, .ref q6, .ref q7])), (q1, .inl (dA 0, 10, .inl (fun _ => 0))), (q2, .inl (dA 0, 10, .inl (fun _ => 0))), (q3, .inl (dA 0, 10, .inl (fun _ => 0))), (q4, .inl (dA 0, 10, .inl (fun _ => 0))), (q5, .inl (dA 0, 8, .inl (fun _ => 0))), (q6, .inl (dA 0, 20, .inl (fun _ => 0))), (q7, .inl (dA 0, 20, .inl (fun _ => 0)))] := hD
  exact W.vret hx hb hr (fun t ht hW => ⟨⟨(), rfl, trivial, q1, q2, q3, q4, q5, q6, q7, by rw [ht]; exact hP, va_K.moved hW.alike hK, hD⟩, hS.F ht⟩) hS.2.2 dX0_init_70
set_option maxHeartbeats 4000000 in
set_option maxRecDepth 100000 in
theorem c_X2 (l : Launch) (D : va_G) (dA : Nat → ClassId) (h0 sz : Nat) : Met l yX2_init (Cond.code yX2_init cX2_init 1 none :: tb) { frames := 1, cells := 2, slots := 12, locals := 12 } (PcI D dA h0 sz (.inr (2, [.int 0, .int 0, .null, .null]))) (va_Qv (fun _ : Unit => True) (fun _ t => ∃ q1 q2 : Nat, va_P D vwCl [(h0, .inr (2, [.int 0, .int 0, .ref q1, .ref q2])), (q1, .inl (dA 0, 6, .inl (fun _ => 0))), (q2, .inl (dA 0, 6, .inl (fun _ => 0)))] t.heap ∧ va_K D vwCl (tysOf dA) t ∧ va_D (va_A [(h0, .inr (2, [.int 0, .int 0, .null, .null]))] sz) [(h0, .inr (2, [.int 0, .int 0, .ref q1, .ref q2])), (q1, .inl (dA 0, 6, .inl (fun _ => 0))), (q2, .inl (dA 0, 6, .inl (fun _ => 0)))]) (va_A [(h0, .inr (2, [.int 0, .int 0, .null, .null]))] sz)) 2 12 (va_A [(h0, .inr (2, [.int 0, .int 0, .null, .null]))] sz) := by
  refine Met.ofW (cc := cX2_init) (maxL := 1) (ret := none) (by decide) rfl ?_
  intro p e s m args below meth c s₁ B hml hv
  obtain ⟨rfl, hsz, hP, hK, hD0⟩ := hv
  have hx := B.exec
  have hb := B.bytes
  have hr := B.returns
  have hts0 := atoms_spec (ws := Cond.code yX2_init cX2_init 1 none :: tb) B.pre
  have hts : ∀ w ∈ tb, w.before _ s = true := fun w hw => hts0 w (List.mem_cons_of_mem _ hw)
  have hown : s.vm.findClass RX2 = some m.cls := findClass_of_methodNamed B.named
  have hlocks := B.notSynchronized
  have hin : meth.name = "<init>" := (name_of_methodNamed B.named B.method).1
  subst hsz
  have hD := hD0.self (sz := s.heap.size)
  generalize hAe : va_A [(h0, .inr (2, [.int 0, .int 0, .null, .null]))] s.heap.size = A at hD ⊢
  have hA : ∀ q : Nat, s.heap.size ≤ q → A q := fun q h => by rw [← hAe]; exact Or.inr h
  have hS : va_S A s.heap s.heap [] := va_S.rf
  have hl := lv_entry ([.ref h0]) (n := 1) (Nat.le_of_ble_eq_true rfl)
  rw [lg_entry_eq]
  generalize (lg_sl ([.ref h0]) ++ List.replicate (1 - (lg_sl ([.ref h0])).length) Slot.unset).toArray = ls at hl ⊢
  have hl : lv_has ls 1 [(0, .ref h0)] := hl
  refine lv_aload_n hx hb dX2_init_0 rfl (lv_at hl 0 rfl) ?_
  refine W.objInit hx hb hown (hts _ tw_230) (hts _ tw_96) (hts _ tw_97) rfl (by rw [hml]; exact hl.1) rfl dX2_init_1 (Nat.le_of_ble_eq_true rfl) (Nat.le_of_ble_eq_true rfl) ?_
  refine W.eq (g2 := F0 m 4 ls []) rfl ?_
  refine lv_aload_n hx hb dX2_init_4 rfl (lv_at hl 0 rfl) ?_
  refine lv_iconst (v := 0) hx hb dX2_init_5 (by decide) ?_
  refine va_put (D := D) (ci := 2) (v := .int 0) (ty := .int) (C := RX2) (T := TX2) (N := 4) hx hb hts (tb_u inX2) tyX2 tyX2_ok nmX2 hown hK hP hD hS 0 rfl rfl 0 (by decide) (hts _ tw_231) (fun _ h9 => h9) rfl (by decide +kernel) rfl rfl (Nat.le_of_ble_eq_true rfl) dX2_init_6 (fun H locs hP hD hS => ?_)
  have hP : va_P D vwCl [(h0, .inr (2, [.int 0, .int 0, .null, .null]))] H := hP
  have hD : va_D A [(h0, .inr (2, [.int 0, .int 0, .null, .null]))] := hD
  refine lv_aload_n hx hb dX2_init_9 rfl (lv_at hl 0 rfl) ?_
  refine lv_iconst (v := 0) hx hb dX2_init_10 (by decide) ?_
  refine va_put (D := D) (ci := 2) (v := .int 0) (ty := .int) (C := RX2) (T := TX2) (N := 4) hx hb hts (tb_u inX2) tyX2 tyX2_ok nmX2 hown hK hP hD hS 0 rfl rfl 1 (by decide) (hts _ tw_233) (fun _ h9 => h9) rfl (by decide +kernel) rfl rfl (Nat.le_of_ble_eq_true rfl) dX2_init_11 (fun H locs hP hD hS => ?_)
  have hP : va_P D vwCl [(h0, .inr (2, [.int 0, .int 0, .null, .null]))] H := hP
  have hD : va_D A [(h0, .inr (2, [.int 0, .int 0, .null, .null]))] := hD
  refine lv_aload_n hx hb dX2_init_14 rfl (lv_at hl 0 rfl) ?_
  refine lv_bipush (v := 6) hx hb dX2_init_15 (by decide) ?_
  refine va_newD (atype := .int) (ty := .int) hx hb (hts _ tw_159) rfl (fun _ z => by cases z) hK 0 rfl hP hD hS hA (a0 := (6, .inl (fun _ => 0))) (N' := 6) (fun _ => rfl) (by decide) (by decide) (by decide) (Nat.le_of_ble_eq_true rfl) (Nat.le_of_ble_eq_true rfl) dX2_init_17 (fun q1 H hP hD hS => ?_)
  have hP : va_P D vwCl [(h0, .inr (2, [.int 0, .int 0, .null, .null])), (q1, .inl (dA 0, 6, .inl (fun _ => 0)))] H := hP
  have hD : va_D A [(h0, .inr (2, [.int 0, .int 0, .null, .null])), (q1, .inl (dA 0, 6, .inl (fun _ => 0)))] := hD
  refine W.widen (k := 1) (n := 6) (by omega) (by omega) ?_
  refine va_putF (D := D) (ci := 2) (v := .ref q1) (ty := .array .int) (C := RX2) (T := TX2) (N := 4) hx hb hts (tb_u inX2) tyX2 tyX2_ok nmX2 hown hK hP hD hS 0 rfl rfl 2 (by decide) (hts _ tw_235) (fun _ h9 => h9) rfl hin rfl (by decide +kernel) rfl rfl (Nat.le_of_ble_eq_true rfl) dX2_init_19 (fun H locs hP hD hS => ?_)
  have hP : va_P D vwCl [(h0, .inr (2, [.int 0, .int 0, .ref q1, .null])), (q1, .inl (dA 0, 6, .inl (fun _ => 0)))] H := hP
  have hD : va_D A [(h0, .inr (2, [.int 0, .int 0, .ref q1, .null])), (q1, .inl (dA 0, 6, .inl (fun _ => 0)))] := hD
  refine lv_aload_n hx hb dX2_init_22 rfl (lv_at hl 0 rfl) ?_
  refine lv_bipush (v := 6) hx hb dX2_init_23 (by decide) ?_
  refine va_newD (atype := .int) (ty := .int) hx hb (hts _ tw_159) rfl (fun _ z => by cases z) hK 0 rfl hP hD hS hA (a0 := (6, .inl (fun _ => 0))) (N' := 6) (fun _ => rfl) (by decide) (by decide) (by decide) (Nat.le_of_ble_eq_true rfl) (Nat.le_of_ble_eq_true rfl) dX2_init_25 (fun q2 H hP hD hS => ?_)
  have hP : va_P D vwCl [(h0, .inr (2, [.int 0, .int 0, .ref q1, .null])), (q1, .inl (dA 0, 6, .inl (fun _ => 0))), (q2, .inl (dA 0, 6, .inl (fun _ => 0)))] H := hP
  have hD : va_D A [(h0, .inr (2, [.int 0, .int 0, .ref q1, .null])), (q1, .inl (dA 0, 6, .inl (fun _ => 0))), (q2, .inl (dA 0, 6, .inl (fun _ => 0)))] := hD
  refine W.widen (k := 2) (n := 12) (by omega) (by omega) ?_
  refine va_putF (D := D) (ci := 2) (v := .ref q2) (ty := .array .int) (C := RX2) (T := TX2) (N := 4) hx hb hts (tb_u inX2) tyX2 tyX2_ok nmX2 hown hK hP hD hS 0 rfl rfl 3 (by decide) (hts _ tw_237) (fun _ h9 => h9) rfl hin rfl (by decide +kernel) rfl rfl (Nat.le_of_ble_eq_true rfl) dX2_init_27 (fun H locs hP hD hS => ?_)
  have hP : va_P D vwCl [(h0, .inr (2, [.int 0, .int 0, .ref q1, .ref q2])), (q1, .inl (dA 0, 6, .inl (fun _ => 0))), (q2, .inl (dA 0, 6, .inl (fun _ => 0)))] H := hP
  have hD : va_D A [(h0, .inr (2, [.int 0, .int 0, .ref q1, .ref q2])), (q1, .inl (dA 0, 6, .inl (fun _ => 0))), (q2, .inl (dA 0, 6, .inl (fun _ => 0)))] := hD
  exact W.vret hx hb hr (fun t ht hW => ⟨⟨(), rfl, trivial, q1, q2, by rw [ht]; exact hP, va_K.moved hW.alike hK, hD⟩, hS.F ht⟩) hS.2.2 dX2_init_30
set_option maxHeartbeats 4000000 in
set_option maxRecDepth 100000 in
theorem c_X3 (l : Launch) (D : va_G) (dA : Nat → ClassId) (h0 sz : Nat) : Met l yX3_init (Cond.code yX3_init cX3_init 1 none :: tb) { frames := 1, cells := 1, slots := 40, locals := 12 } (PcI D dA h0 sz (.inr (3, [.int 0, .int 0, .null]))) (va_Qv (fun _ : Unit => True) (fun _ t => ∃ q1 : Nat, va_P D vwCl [(h0, .inr (3, [.int 0, .int 0, .ref q1])), (q1, .inl (dA 2, 40, .inr (.inl (fun _ => 0))))] t.heap ∧ va_K D vwCl (tysOf dA) t ∧ va_D (va_A [(h0, .inr (3, [.int 0, .int 0, .null]))] sz) [(h0, .inr (3, [.int 0, .int 0, .ref q1])), (q1, .inl (dA 2, 40, .inr (.inl (fun _ => 0))))]) (va_A [(h0, .inr (3, [.int 0, .int 0, .null]))] sz)) 1 40 (va_A [(h0, .inr (3, [.int 0, .int 0, .null]))] sz) := by
  refine Met.ofW (cc := cX3_init) (maxL := 1) (ret := none) (by decide) rfl ?_
  intro p e s m args below meth c s₁ B hml hv
  obtain ⟨rfl, hsz, hP, hK, hD0⟩ := hv
  have hx := B.exec
  have hb := B.bytes
  have hr := B.returns
  have hts0 := atoms_spec (ws := Cond.code yX3_init cX3_init 1 none :: tb) B.pre
  have hts : ∀ w ∈ tb, w.before _ s = true := fun w hw => hts0 w (List.mem_cons_of_mem _ hw)
  have hown : s.vm.findClass RX3 = some m.cls := findClass_of_methodNamed B.named
  have hlocks := B.notSynchronized
  have hin : meth.name = "<init>" := (name_of_methodNamed B.named B.method).1
  subst hsz
  have hD := hD0.self (sz := s.heap.size)
  generalize hAe : va_A [(h0, .inr (3, [.int 0, .int 0, .null]))] s.heap.size = A at hD ⊢
  have hA : ∀ q : Nat, s.heap.size ≤ q → A q := fun q h => by rw [← hAe]; exact Or.inr h
  have hS : va_S A s.heap s.heap [] := va_S.rf
  have hl := lv_entry ([.ref h0]) (n := 1) (Nat.le_of_ble_eq_true rfl)
  rw [lg_entry_eq]
  generalize (lg_sl ([.ref h0]) ++ List.replicate (1 - (lg_sl ([.ref h0])).length) Slot.unset).toArray = ls at hl ⊢
  have hl : lv_has ls 1 [(0, .ref h0)] := hl
  refine lv_aload_n hx hb dX3_init_0 rfl (lv_at hl 0 rfl) ?_
  refine W.objInit hx hb hown (hts _ tw_279) (hts _ tw_96) (hts _ tw_97) rfl (by rw [hml]; exact hl.1) rfl dX3_init_1 (Nat.le_of_ble_eq_true rfl) (Nat.le_of_ble_eq_true rfl) ?_
  refine W.eq (g2 := F0 m 4 ls []) rfl ?_
  refine lv_aload_n hx hb dX3_init_4 rfl (lv_at hl 0 rfl) ?_
  refine lv_iconst (v := 0) hx hb dX3_init_5 (by decide) ?_
  refine va_put (D := D) (ci := 3) (v := .int 0) (ty := .int) (C := RX3) (T := TX3) (N := 3) hx hb hts (tb_u inX3) tyX3 tyX3_ok nmX3 hown hK hP hD hS 0 rfl rfl 0 (by decide) (hts _ tw_280) (fun _ h9 => h9) rfl (by decide +kernel) rfl rfl (Nat.le_of_ble_eq_true rfl) dX3_init_6 (fun H locs hP hD hS => ?_)
  have hP : va_P D vwCl [(h0, .inr (3, [.int 0, .int 0, .null]))] H := hP
  have hD : va_D A [(h0, .inr (3, [.int 0, .int 0, .null]))] := hD
  refine lv_aload_n hx hb dX3_init_9 rfl (lv_at hl 0 rfl) ?_
  refine lv_iconst (v := 0) hx hb dX3_init_10 (by decide) ?_
  refine va_put (D := D) (ci := 3) (v := .int 0) (ty := .int) (C := RX3) (T := TX3) (N := 3) hx hb hts (tb_u inX3) tyX3 tyX3_ok nmX3 hown hK hP hD hS 0 rfl rfl 1 (by decide) (hts _ tw_282) (fun _ h9 => h9) rfl (by decide +kernel) rfl rfl (Nat.le_of_ble_eq_true rfl) dX3_init_11 (fun H locs hP hD hS => ?_)
  have hP : va_P D vwCl [(h0, .inr (3, [.int 0, .int 0, .null]))] H := hP
  have hD : va_D A [(h0, .inr (3, [.int 0, .int 0, .null]))] := hD
  refine lv_aload_n hx hb dX3_init_14 rfl (lv_at hl 0 rfl) ?_
  refine lv_bipush (v := 40) hx hb dX3_init_15 (by decide) ?_
  refine va_newD (atype := .long) (ty := .long) hx hb (hts _ tw_293) rfl (fun _ z => by cases z) hK 2 rfl hP hD hS hA (a0 := (40, .inr (.inl (fun _ => 0)))) (N' := 40) (fun _ => rfl) (by decide) (by decide) (by decide) (Nat.le_of_ble_eq_true rfl) (Nat.le_of_ble_eq_true rfl) dX3_init_17 (fun q1 H hP hD hS => ?_)
  have hP : va_P D vwCl [(h0, .inr (3, [.int 0, .int 0, .null])), (q1, .inl (dA 2, 40, .inr (.inl (fun _ => 0))))] H := hP
  have hD : va_D A [(h0, .inr (3, [.int 0, .int 0, .null])), (q1, .inl (dA 2, 40, .inr (.inl (fun _ => 0))))] := hD
  refine W.widen (k := 1) (n := 40) (by omega) (by omega) ?_
  refine va_putF (D := D) (ci := 3) (v := .ref q1) (ty := .array .long) (C := RX3) (T := TX3) (N := 3) hx hb hts (tb_u inX3) tyX3 tyX3_ok nmX3 hown hK hP hD hS 0 rfl rfl 2 (by decide) (hts _ tw_284) (fun _ h9 => h9) rfl hin rfl (by decide +kernel) rfl rfl (Nat.le_of_ble_eq_true rfl) dX3_init_19 (fun H locs hP hD hS => ?_)
  have hP : va_P D vwCl [(h0, .inr (3, [.int 0, .int 0, .ref q1])), (q1, .inl (dA 2, 40, .inr (.inl (fun _ => 0))))] H := hP
  have hD : va_D A [(h0, .inr (3, [.int 0, .int 0, .ref q1])), (q1, .inl (dA 2, 40, .inr (.inl (fun _ => 0))))] := hD
  exact W.vret hx hb hr (fun t ht hW => ⟨⟨(), rfl, trivial, q1, by rw [ht]; exact hP, va_K.moved hW.alike hK, hD⟩, hS.F ht⟩) hS.2.2 dX3_init_22
set_option maxHeartbeats 4000000 in
set_option maxRecDepth 100000 in
theorem c_X4 (l : Launch) (D : va_G) (dA : Nat → ClassId) (h0 sz : Nat) : Met l yX4_init (Cond.code yX4_init cX4_init 1 none :: tb) { frames := 1, cells := 1, slots := 120, locals := 12 } (PcI D dA h0 sz (.inr (4, [.int 0, .null, .int 0, .int 0, .int 0, .int 0]))) (va_Qv (fun _ : Unit => True) (fun _ t => ∃ q1 : Nat, va_P D vwCl [(h0, .inr (4, [.int 0, .ref q1, .int 0, .int 0, .int 0, .int 0])), (q1, .inl (dA 0, 120, .inl (fun _ => 0)))] t.heap ∧ va_K D vwCl (tysOf dA) t ∧ va_D (va_A [(h0, .inr (4, [.int 0, .null, .int 0, .int 0, .int 0, .int 0]))] sz) [(h0, .inr (4, [.int 0, .ref q1, .int 0, .int 0, .int 0, .int 0])), (q1, .inl (dA 0, 120, .inl (fun _ => 0)))]) (va_A [(h0, .inr (4, [.int 0, .null, .int 0, .int 0, .int 0, .int 0]))] sz)) 1 120 (va_A [(h0, .inr (4, [.int 0, .null, .int 0, .int 0, .int 0, .int 0]))] sz) := by
  refine Met.ofW (cc := cX4_init) (maxL := 1) (ret := none) (by decide) rfl ?_
  intro p e s m args below meth c s₁ B hml hv
  obtain ⟨rfl, hsz, hP, hK, hD0⟩ := hv
  have hx := B.exec
  have hb := B.bytes
  have hr := B.returns
  have hts0 := atoms_spec (ws := Cond.code yX4_init cX4_init 1 none :: tb) B.pre
  have hts : ∀ w ∈ tb, w.before _ s = true := fun w hw => hts0 w (List.mem_cons_of_mem _ hw)
  have hown : s.vm.findClass RX4 = some m.cls := findClass_of_methodNamed B.named
  have hlocks := B.notSynchronized
  have hin : meth.name = "<init>" := (name_of_methodNamed B.named B.method).1
  subst hsz
  have hD := hD0.self (sz := s.heap.size)
  generalize hAe : va_A [(h0, .inr (4, [.int 0, .null, .int 0, .int 0, .int 0, .int 0]))] s.heap.size = A at hD ⊢
  have hA : ∀ q : Nat, s.heap.size ≤ q → A q := fun q h => by rw [← hAe]; exact Or.inr h
  have hS : va_S A s.heap s.heap [] := va_S.rf
  have hl := lv_entry ([.ref h0]) (n := 1) (Nat.le_of_ble_eq_true rfl)
  rw [lg_entry_eq]
  generalize (lg_sl ([.ref h0]) ++ List.replicate (1 - (lg_sl ([.ref h0])).length) Slot.unset).toArray = ls at hl ⊢
  have hl : lv_has ls 1 [(0, .ref h0)] := hl
  refine lv_aload_n hx hb dX4_init_0 rfl (lv_at hl 0 rfl) ?_
  refine W.objInit hx hb hown (hts _ tw_252) (hts _ tw_96) (hts _ tw_97) rfl (by rw [hml]; exact hl.1) rfl dX4_init_1 (Nat.le_of_ble_eq_true rfl) (Nat.le_of_ble_eq_true rfl) ?_
  refine W.eq (g2 := F0 m 4 ls []) rfl ?_
  refine lv_aload_n hx hb dX4_init_4 rfl (lv_at hl 0 rfl) ?_
  refine lv_iconst (v := 0) hx hb dX4_init_5 (by decide) ?_
  refine va_put (D := D) (ci := 4) (v := .int 0) (ty := .int) (C := RX4) (T := TX4) (N := 6) hx hb hts (tb_u inX4) tyX4 tyX4_ok nmX4 hown hK hP hD hS 0 rfl rfl 0 (by decide) (hts _ tw_253) (fun _ h9 => h9) rfl (by decide +kernel) rfl rfl (Nat.le_of_ble_eq_true rfl) dX4_init_6 (fun H locs hP hD hS => ?_)
  have hP : va_P D vwCl [(h0, .inr (4, [.int 0, .null, .int 0, .int 0, .int 0, .int 0]))] H := hP
  have hD : va_D A [(h0, .inr (4, [.int 0, .null, .int 0, .int 0, .int 0, .int 0]))] := hD
  refine lv_aload_n hx hb dX4_init_9 rfl (lv_at hl 0 rfl) ?_
  refine lv_bipush (v := 120) hx hb dX4_init_10 (by decide) ?_
  refine va_newD (atype := .int) (ty := .int) hx hb (hts _ tw_159) rfl (fun _ z => by cases z) hK 0 rfl hP hD hS hA (a0 := (120, .inl (fun _ => 0))) (N' := 120) (fun _ => rfl) (by decide) (by decide) (by decide) (Nat.le_of_ble_eq_true rfl) (Nat.le_of_ble_eq_true rfl) dX4_init_12 (fun q1 H hP hD hS => ?_)
  have hP : va_P D vwCl [(h0, .inr (4, [.int 0, .null, .int 0, .int 0, .int 0, .int 0])), (q1, .inl (dA 0, 120, .inl (fun _ => 0)))] H := hP
  have hD : va_D A [(h0, .inr (4, [.int 0, .null, .int 0, .int 0, .int 0, .int 0])), (q1, .inl (dA 0, 120, .inl (fun _ => 0)))] := hD
  refine W.widen (k := 1) (n := 120) (by omega) (by omega) ?_
  refine va_putF (D := D) (ci := 4) (v := .ref q1) (ty := .array .int) (C := RX4) (T := TX4) (N := 6) hx hb hts (tb_u inX4) tyX4 tyX4_ok nmX4 hown hK hP hD hS 0 rfl rfl 1 (by decide) (hts _ tw_255) (fun _ h9 => h9) rfl hin rfl (by decide +kernel) rfl rfl (Nat.le_of_ble_eq_true rfl) dX4_init_14 (fun H locs hP hD hS => ?_)
  have hP : va_P D vwCl [(h0, .inr (4, [.int 0, .ref q1, .int 0, .int 0, .int 0, .int 0])), (q1, .inl (dA 0, 120, .inl (fun _ => 0)))] H := hP
  have hD : va_D A [(h0, .inr (4, [.int 0, .ref q1, .int 0, .int 0, .int 0, .int 0])), (q1, .inl (dA 0, 120, .inl (fun _ => 0)))] := hD
  refine lv_aload_n hx hb dX4_init_17 rfl (lv_at hl 0 rfl) ?_
  refine lv_iconst (v := 0) hx hb dX4_init_18 (by decide) ?_
  refine va_put (D := D) (ci := 4) (v := .int 0) (ty := .int) (C := RX4) (T := TX4) (N := 6) hx hb hts (tb_u inX4) tyX4 tyX4_ok nmX4 hown hK hP hD hS 0 rfl rfl 2 (by decide) (hts _ tw_256) (fun _ h9 => h9) rfl (by decide +kernel) rfl rfl (Nat.le_of_ble_eq_true rfl) dX4_init_19 (fun H locs hP hD hS => ?_)
  have hP : va_P D vwCl [(h0, .inr (4, [.int 0, .ref q1, .int 0, .int 0, .int 0, .int 0])), (q1, .inl (dA 0, 120, .inl (fun _ => 0)))] H := hP
  have hD : va_D A [(h0, .inr (4, [.int 0, .ref q1, .int 0, .int 0, .int 0, .int 0])), (q1, .inl (dA 0, 120, .inl (fun _ => 0)))] := hD
  refine lv_aload_n hx hb dX4_init_22 rfl (lv_at hl 0 rfl) ?_
  refine lv_iconst (v := 0) hx hb dX4_init_23 (by decide) ?_
  refine va_put (D := D) (ci := 4) (v := .int 0) (ty := .int) (C := RX4) (T := TX4) (N := 6) hx hb hts (tb_u inX4) tyX4 tyX4_ok nmX4 hown hK hP hD hS 0 rfl rfl 3 (by decide) (hts _ tw_257) (fun _ h9 => h9) rfl (by decide +kernel) rfl rfl (Nat.le_of_ble_eq_true rfl) dX4_init_24 (fun H locs hP hD hS => ?_)
  have hP : va_P D vwCl [(h0, .inr (4, [.int 0, .ref q1, .int 0, .int 0, .int 0, .int 0])), (q1, .inl (dA 0, 120, .inl (fun _ => 0)))] H := hP
  have hD : va_D A [(h0, .inr (4, [.int 0, .ref q1, .int 0, .int 0, .int 0, .int 0])), (q1, .inl (dA 0, 120, .inl (fun _ => 0)))] := hD
  refine lv_aload_n hx hb dX4_init_27 rfl (lv_at hl 0 rfl) ?_
  refine lv_iconst (v := 0) hx hb dX4_init_28 (by decide) ?_
  refine va_put (D := D) (ci := 4) (v := .int 0) (ty := .int) (C := RX4) (T := TX4) (N := 6) hx hb hts (tb_u inX4) tyX4 tyX4_ok nmX4 hown hK hP hD hS 0 rfl rfl 4 (by decide) (hts _ tw_258) (fun _ h9 => h9) rfl (by decide +kernel) rfl rfl (Nat.le_of_ble_eq_true rfl) dX4_init_29 (fun H locs hP hD hS => ?_)
  have hP : va_P D vwCl [(h0, .inr (4, [.int 0, .ref q1, .int 0, .int 0, .int 0, .int 0])), (q1, .inl (dA 0, 120, .inl (fun _ => 0)))] H := hP
  have hD : va_D A [(h0, .inr (4, [.int 0, .ref q1, .int 0, .int 0, .int 0, .int 0])), (q1, .inl (dA 0, 120, .inl (fun _ => 0)))] := hD
  refine lv_aload_n hx hb dX4_init_32 rfl (lv_at hl 0 rfl) ?_
  refine lv_iconst (v := 0) hx hb dX4_init_33 (by decide) ?_
  refine va_put (D := D) (ci := 4) (v := .int 0) (ty := .int) (C := RX4) (T := TX4) (N := 6) hx hb hts (tb_u inX4) tyX4 tyX4_ok nmX4 hown hK hP hD hS 0 rfl rfl 5 (by decide) (hts _ tw_259) (fun _ h9 => h9) rfl (by decide +kernel) rfl rfl (Nat.le_of_ble_eq_true rfl) dX4_init_34 (fun H locs hP hD hS => ?_)
  have hP : va_P D vwCl [(h0, .inr (4, [.int 0, .ref q1, .int 0, .int 0, .int 0, .int 0])), (q1, .inl (dA 0, 120, .inl (fun _ => 0)))] H := hP
  have hD : va_D A [(h0, .inr (4, [.int 0, .ref q1, .int 0, .int 0, .int 0, .int 0])), (q1, .inl (dA 0, 120, .inl (fun _ => 0)))] := hD
  exact W.vret hx hb hr (fun t ht hW => ⟨⟨(), rfl, trivial, q1, by rw [ht]; exact hP, va_K.moved hW.alike hK, hD⟩, hS.F ht⟩) hS.2.2 dX4_init_37
set_option maxHeartbeats 4000000 in
set_option maxRecDepth 100000 in
theorem c_X5 (l : Launch) (D : va_G) (dA : Nat → ClassId) (h0 sz : Nat) : Met l yX5_init (Cond.code yX5_init cX5_init 1 none :: tb) { frames := 1, cells := 3, slots := 36, locals := 12 } (PcI D dA h0 sz (.inr (5, [.int 0, .null, .null, .int 0, .null, .int 0]))) (va_Qv (fun _ : Unit => True) (fun _ t => ∃ q1 q2 q3 : Nat, va_P D vwCl [(h0, .inr (5, [.int 0, .ref q1, .ref q2, .int 0, .ref q3, .int 0])), (q1, .inl (dA 0, 12, .inl (fun _ => 0))), (q2, .inl (dA 0, 12, .inl (fun _ => 0))), (q3, .inl (dA 0, 12, .inl (fun _ => 0)))] t.heap ∧ va_K D vwCl (tysOf dA) t ∧ va_D (va_A [(h0, .inr (5, [.int 0, .null, .null, .int 0, .null, .int 0]))] sz) [(h0, .inr (5, [.int 0, .ref q1, .ref q2, .int 0, .ref q3, .int 0])), (q1, .inl (dA 0, 12, .inl (fun _ => 0))), (q2, .inl (dA 0, 12, .inl (fun _ => 0))), (q3, .inl (dA 0, 12, .inl (fun _ => 0)))]) (va_A [(h0, .inr (5, [.int 0, .null, .null, .int 0, .null, .int 0]))] sz)) 3 36 (va_A [(h0, .inr (5, [.int 0, .null, .null, .int 0, .null, .int 0]))] sz) := by
  refine Met.ofW (cc := cX5_init) (maxL := 1) (ret := none) (by decide) rfl ?_
  intro p e s m args below meth c s₁ B hml hv
  obtain ⟨rfl, hsz, hP, hK, hD0⟩ := hv
  have hx := B.exec
  have hb := B.bytes
  have hr := B.returns
  have hts0 := atoms_spec (ws := Cond.code yX5_init cX5_init 1 none :: tb) B.pre
  have hts : ∀ w ∈ tb, w.before _ s = true := fun w hw => hts0 w (List.mem_cons_of_mem _ hw)
  have hown : s.vm.findClass RX5 = some m.cls := findClass_of_methodNamed B.named
  have hlocks := B.notSynchronized
  have hin : meth.name = "<init>" := (name_of_methodNamed B.named B.method).1
  subst hsz
  have hD := hD0.self (sz := s.heap.size)
  generalize hAe : va_A [(h0, .inr (5, [.int 0, .null, .null, .int 0, .null, .int 0]))] s.heap.size = A at hD ⊢
  have hA : ∀ q : Nat, s.heap.size ≤ q → A q := fun q h => by rw [← hAe]; exact Or.inr h
  have hS : va_S A s.heap s.heap [] := va_S.rf
  have hl := lv_entry ([.ref h0]) (n := 1) (Nat.le_of_ble_eq_true rfl)
  rw [lg_entry_eq]
  generalize (lg_sl ([.ref h0]) ++ List.replicate (1 - (lg_sl ([.ref h0])).length) Slot.unset).toArray = ls at hl ⊢
  have hl : lv_has ls 1 [(0, .ref h0)] := hl
  refine lv_aload_n hx hb dX5_init_0 rfl (lv_at hl 0 rfl) ?_
  refine W.objInit hx hb hown (hts _ tw_201) (hts _ tw_96) (hts _ tw_97) rfl (by rw [hml]; exact hl.1) rfl dX5_init_1 (Nat.le_of_ble_eq_true rfl) (Nat.le_of_ble_eq_true rfl) ?_
  refine W.eq (g2 := F0 m 4 ls []) rfl ?_
  refine lv_aload_n hx hb dX5_init_4 rfl (lv_at hl 0 rfl) ?_
  refine lv_iconst (v := 0) hx hb dX5_init_5 (by decide) ?_
  refine va_put (D := D) (ci := 5) (v := .int 0) (ty := .int) (C := RX5) (T := TX5) (N := 6) hx hb hts (tb_u inX5) tyX5 tyX5_ok nmX5 hown hK hP hD hS 0 rfl rfl 0 (by decide) (hts _ tw_202) (fun _ h9 => h9) rfl (by decide +kernel) rfl rfl (Nat.le_of_ble_eq_true rfl) dX5_init_6 (fun H locs hP hD hS => ?_)
  have hP : va_P D vwCl [(h0, .inr (5, [.int 0, .null, .null, .int 0, .null, .int 0]))] H := hP
  have hD : va_D A [(h0, .inr (5, [.int 0, .null, .null, .int 0, .null, .int 0]))] := hD
  refine lv_aload_n hx hb dX5_init_9 rfl (lv_at hl 0 rfl) ?_
  refine lv_bipush (v := 12) hx hb dX5_init_10 (by decide) ?_
  refine va_newD (atype := .int) (ty := .int) hx hb (hts _ tw_159) rfl (fun _ z => by cases z) hK 0 rfl hP hD hS hA (a0 := (12, .inl (fun _ => 0))) (N' := 12) (fun _ => rfl) (by decide) (by decide) (by decide) (Nat.le_of_ble_eq_true rfl) (Nat.le_of_ble_eq_true rfl) dX5_init_12 (fun q1 H hP hD hS => ?_)
  have hP : va_P D vwCl [(h0, .inr (5, [.int 0, .null, .null, .int 0, .null, .int 0])), (q1, .inl (dA 0, 12, .inl (fun _ => 0)))] H := hP
  have hD : va_D A [(h0, .inr (5, [.int 0, .null, .null, .int 0, .null, .int 0])), (q1, .inl (dA 0, 12, .inl (fun _ => 0)))] := hD
  refine W.widen (k := 1) (n := 12) (by omega) (by omega) ?_
  refine va_putF (D := D) (ci := 5) (v := .ref q1) (ty := .array .int) (C := RX5) (T := TX5) (N := 6) hx hb hts (tb_u inX5) tyX5 tyX5_ok nmX5 hown hK hP hD hS 0 rfl rfl 1 (by decide) (hts _ tw_204) (fun _ h9 => h9) rfl hin rfl (by decide +kernel) rfl rfl (Nat.le_of_ble_eq_true rfl) dX5_init_14 (fun H locs hP hD hS => ?_)
  have hP : va_P D vwCl [(h0, .inr (5, [.int 0, .ref q1, .null, .int 0, .null, .int 0])), (q1, .inl (dA 0, 12, .inl (fun _ => 0)))] H := hP
  have hD : va_D A [(h0, .inr (5, [.int 0, .ref q1, .null, .int 0, .null, .int 0])), (q1, .inl (dA 0, 12, .inl (fun _ => 0)))] := hD
  refine lv_aload_n hx hb dX5_init_17 rfl (lv_at hl 0 rfl) ?_
  refine lv_bipush (v := 12) hx hb dX5_init_18 (by decide) ?_
  refine va_newD (atype := .int) (ty := .int) hx hb (hts _ tw_159) rfl (fun _ z => by cases z) hK 0 rfl hP hD hS hA (a0 := (12, .inl (fun _ => 0))) (N' := 12) (fun _ => rfl) (by decide) (by decide) (by decide) (Nat.le_of_ble_eq_true rfl) (Nat.le_of_ble_eq_true rfl) dX5_init_20 (fun q2 H hP hD hS => ?_)
  have hP : va_P D vwCl [(h0, .inr (5, [.int 0, .ref q1, .null, .int 0, .null, .int 0])), (q1, .inl (dA 0, 12, .inl (fun _ => 0))), (q2, .inl (dA 0, 12, .inl (fun _ => 0)))] H := hP
  have hD : va_D A [(h0, .inr (5, [.int 0, .ref q1, .null, .int 0, .null, .int 0])), (q1, .inl (dA 0, 12, .inl (fun _ => 0))), (q2, .inl (dA 0, 12, .inl (fun _ => 0)))] := hD
  refine W.widen (k := 2) (n := 24) (by omega) (by omega) ?_
  refine va_putF (D := D) (ci := 5) (v := .ref q2) (ty := .array .int) (C := RX5) (T := TX5) (N := 6) hx hb hts (tb_u inX5) tyX5 tyX5_ok nmX5 hown hK hP hD hS 0 rfl rfl 2 (by decide) (hts _ tw_206) (fun _ h9 => h9) rfl hin rfl (by decide +kernel) rfl rfl (Nat.le_of_ble_eq_true rfl) dX5_init_22 (fun H locs hP hD hS => ?_)
  have hP : va_P D vwCl [(h0, .inr (5, [.int 0, .ref q1, .ref q2, .int 0, .null, .int 0])), (q1, .inl (dA 0, 12, .inl (fun _ => 0))), (q2, .inl (dA 0, 12, .inl (fun _ => 0)))] H := hP
  have hD : va_D A [(h0, .inr (5, [.int 0, .ref q1, .ref q2, .int 0, .null, .int 0])), (q1, .inl (dA 0, 12, .inl (fun _ => 0))), (q2, .inl (dA 0, 12, .inl (fun _ => 0)))] := hD
  refine lv_aload_n hx hb dX5_init_25 rfl (lv_at hl 0 rfl) ?_
  refine lv_iconst (v := 0) hx hb dX5_init_26 (by decide) ?_
  refine va_put (D := D) (ci := 5) (v := .int 0) (ty := .int) (C := RX5) (T := TX5) (N := 6) hx hb hts (tb_u inX5) tyX5 tyX5_ok nmX5 hown hK hP hD hS 0 rfl rfl 3 (by decide) (hts _ tw_208) (fun _ h9 => h9) rfl (by decide +kernel) rfl rfl (Nat.le_of_ble_eq_true rfl) dX5_init_27 (fun H locs hP hD hS => ?_)
  have hP : va_P D vwCl [(h0, .inr (5, [.int 0, .ref q1, .ref q2, .int 0, .null, .int 0])), (q1, .inl (dA 0, 12, .inl (fun _ => 0))), (q2, .inl (dA 0, 12, .inl (fun _ => 0)))] H := hP
  have hD : va_D A [(h0, .inr (5, [.int 0, .ref q1, .ref q2, .int 0, .null, .int 0])), (q1, .inl (dA 0, 12, .inl (fun _ => 0))), (q2, .inl (dA 0, 12, .inl (fun _ => 0)))] := hD
  refine lv_aload_n hx hb dX5_init_30 rfl (lv_at hl 0 rfl) ?_
  refine lv_bipush (v := 12) hx hb dX5_init_31 (by decide) ?_
  refine va_newD (atype := .int) (ty := .int) hx hb (hts _ tw_159) rfl (fun _ z => by cases z) hK 0 rfl hP hD hS hA (a0 := (12, .inl (fun _ => 0))) (N' := 12) (fun _ => rfl) (by decide) (by decide) (by decide) (Nat.le_of_ble_eq_true rfl) (Nat.le_of_ble_eq_true rfl) dX5_init_33 (fun q3 H hP hD hS => ?_)
  have hP : va_P D vwCl [(h0, .inr (5, [.int 0, .ref q1, .ref q2, .int 0, .null, .int 0])), (q1, .inl (dA 0, 12, .inl (fun _ => 0))), (q2, .inl (dA 0, 12, .inl (fun _ => 0))), (q3, .inl (dA 0, 12, .inl (fun _ => 0)))] H := hP
  have hD : va_D A [(h0, .inr (5, [.int 0, .ref q1, .ref q2, .int 0, .null, .int 0])), (q1, .inl (dA 0, 12, .inl (fun _ => 0))), (q2, .inl (dA 0, 12, .inl (fun _ => 0))), (q3, .inl (dA 0, 12, .inl (fun _ => 0)))] := hD
  refine W.widen (k := 3) (n := 36) (by omega) (by omega) ?_
  refine va_putF (D := D) (ci := 5) (v := .ref q3) (ty := .array .int) (C := RX5) (T := TX5) (N := 6) hx hb hts (tb_u inX5) tyX5 tyX5_ok nmX5 hown hK hP hD hS 0 rfl rfl 4 (by decide) (hts _ tw_210) (fun _ h9 => h9) rfl hin rfl (by decide +kernel) rfl rfl (Nat.le_of_ble_eq_true rfl) dX5_init_35 (fun H locs hP hD hS => ?_)
  have hP : va_P D vwCl [(h0, .inr (5, [.int 0, .ref q1, .ref q2, .int 0, .ref q3, .int 0])), (q1, .inl (dA 0, 12, .inl (fun _ => 0))), (q2, .inl (dA 0, 12, .inl (fun _ => 0))), (q3, .inl (dA 0, 12, .inl (fun _ => 0)))] H := hP
  have hD : va_D A [(h0, .inr (5, [.int 0, .ref q1, .ref q2, .int 0, .ref q3, .int 0])), (q1, .inl (dA 0, 12, .inl (fun _ => 0))), (q2, .inl (dA 0, 12, .inl (fun _ => 0))), (q3, .inl (dA 0, 12, .inl (fun _ => 0)))] := hD
  refine lv_aload_n hx hb dX5_init_38 rfl (lv_at hl 0 rfl) ?_
  refine lv_iconst (v := 0) hx hb dX5_init_39 (by decide) ?_
  refine va_put (D := D) (ci := 5) (v := .int 0) (ty := .int) (C := RX5) (T := TX5) (N := 6) hx hb hts (tb_u inX5) tyX5 tyX5_ok nmX5 hown hK hP hD hS 0 rfl rfl 5 (by decide) (hts _ tw_211) (fun _ h9 => h9) rfl (by decide +kernel) rfl rfl (Nat.le_of_ble_eq_true rfl) dX5_init_40 (fun H locs hP hD hS => ?_)
  have hP : va_P D vwCl [(h0, .inr (5, [.int 0, .ref q1, .ref q2, .int 0, .ref q3, .int 0])), (q1, .inl (dA 0, 12, .inl (fun _ => 0))), (q2, .inl (dA 0, 12, .inl (fun _ => 0))), (q3, .inl (dA 0, 12, .inl (fun _ => 0)))] H := hP
  have hD : va_D A [(h0, .inr (5, [.int 0, .ref q1, .ref q2, .int 0, .ref q3, .int 0])), (q1, .inl (dA 0, 12, .inl (fun _ => 0))), (q2, .inl (dA 0, 12, .inl (fun _ => 0))), (q3, .inl (dA 0, 12, .inl (fun _ => 0)))] := hD
  exact W.vret hx hb hr (fun t ht hW => ⟨⟨(), rfl, trivial, q1, q2, q3, by rw [ht]; exact hP, va_K.moved hW.alike hK, hD⟩, hS.F ht⟩) hS.2.2 dX5_init_43
set_option maxHeartbeats 4000000 in
set_option maxRecDepth 100000 in
theorem c_X1 (l : Launch) (D : va_G) (dA : Nat → ClassId) (h0 sz : Nat) : Met l yX1_init (Cond.code yX1_init cX1_init 2 none :: tb) { frames := 1, cells := 7, slots := 74, locals := 12 } (PcI D dA h0 sz (.inr (1, [.int 0, .null, .null, .null, .int 0, .null, .int 0, .null, .null, .null]))) (va_Qv (fun _ : Unit => True) (fun _ t => ∃ q1 q2 q3 q4 q5 q6 q7 : Nat, va_P D vwCl [(h0, .inr (1, [.int 0, .ref q1, .ref q2, .ref q3, .int 0, .ref q4, .int 0, .ref q5, .ref q6, .ref q7])), (q1, .inl (dA 0, 10, .inl (fun _ => 0))), (q2, .inl (dA 0, 10, .inl (fun _ => 0))), (q3, .inl (dA 0, 16, .inl (tiF 16))), (q4, .inl (dA 0, 20, .inl (fun _ => 0))), (q5, .inl (dA 0, 6, .inl (fun _ => 0))), (q6, .inl (dA 0, 6, .inl (fun _ => 0))), (q7, .inl (dA 0, 6, .inl (fun _ => 0)))] t.heap ∧ va_K D vwCl (tysOf dA) t ∧ va_D (va_A [(h0, .inr (1, [.int 0, .null, .null, .null, .int 0, .null, .int 0, .null, .null, .null]))] sz) [(h0, .inr (1, [.int 0, .ref q1, .ref q2, .ref q3, .int 0, .ref q4, .int 0, .ref q5, .ref q6, .ref q7])), (q1, .inl (dA 0, 10, .inl (fun _ => 0))), (q2, .inl (dA 0, 10, .inl (fun _ => 0))), (q3, .inl (dA 0, 16, .inl (tiF 16))), (q4, .inl (dA 0, 20, .inl (fun _ => 0))), (q5, .inl (dA 0, 6, .inl (fun _ => 0))), (q6, .inl (dA 0, 6, .inl (fun _ => 0))), (q7, .inl (dA 0, 6, .inl (fun _ => 0)))]) (va_A [(h0, .inr (1, [.int 0, .null, .null, .null, .int 0, .null, .int 0, .null, .null, .null]))] sz)) 7 74 (va_A [(h0, .inr (1, [.int 0, .null, .null, .null, .int 0, .null, .int 0, .null, .null, .null]))] sz) := by
  refine Met.ofW (cc := cX1_init) (maxL := 2) (ret := none) (by decide) rfl ?_
  intro p e s m args below meth c s₁ B hml hv
  obtain ⟨rfl, hsz, hP, hK, hD0⟩ := hv
  have hx := B.exec
  have hb := B.bytes
  have hr := B.returns
  have hts0 := atoms_spec (ws := Cond.code yX1_init cX1_init 2 none :: tb) B.pre
  have hts : ∀ w ∈ tb, w.before _ s = true := fun w hw => hts0 w (List.mem_cons_of_mem _ hw)
  have hown : s.vm.findClass RX1 = some m.cls := findClass_of_methodNamed B.named
  have hlocks := B.notSynchronized
  have hin : meth.name = "<init>" := (name_of_methodNamed B.named B.method).1
  subst hsz
  have hD := hD0.self (sz := s.heap.size)
  generalize hAe : va_A [(h0, .inr (1, [.int 0, .null, .null, .null, .int 0, .null, .int 0, .null, .null, .null]))] s.heap.size = A at hD ⊢
  have hA : ∀ q : Nat, s.heap.size ≤ q → A q := fun q h => by rw [← hAe]; exact Or.inr h
  have hS : va_S A s.heap s.heap [] := va_S.rf
  have hl := lv_entry ([.ref h0]) (n := 2) (Nat.le_of_ble_eq_true rfl)
  rw [lg_entry_eq]
  generalize (lg_sl ([.ref h0]) ++ List.replicate (2 - (lg_sl ([.ref h0])).length) Slot.unset).toArray = ls at hl ⊢
  have hl : lv_has ls 2 [(0, .ref h0)] := hl
  refine lv_aload_n hx hb dX1_init_0 rfl (lv_at hl 0 rfl) ?_
  refine W.objInit hx hb hown (hts _ tw_103) (hts _ tw_96) (hts _ tw_97) rfl (by rw [hml]; exact hl.1) rfl dX1_init_1 (Nat.le_of_ble_eq_true rfl) (Nat.le_of_ble_eq_true rfl) ?_
  refine W.eq (g2 := F0 m 4 ls []) rfl ?_
  refine lv_aload_n hx hb dX1_init_4 rfl (lv_at hl 0 rfl) ?_
  refine lv_iconst (v := 0) hx hb dX1_init_5 (by decide) ?_
  refine va_put (D := D) (ci := 1) (v := .int 0) (ty := .int) (C := RX1) (T := TX1) (N := 10) hx hb hts (tb_u inX1) tyX1 tyX1_ok nmX1 hown hK hP hD hS 0 rfl rfl 0 (by decide) (hts _ tw_104) (fun _ h9 => h9) rfl (by decide +kernel) rfl rfl (Nat.le_of_ble_eq_true rfl) dX1_init_6 (fun H locs hP hD hS => ?_)
  have hP : va_P D vwCl [(h0, .inr (1, [.int 0, .null, .null, .null, .int 0, .null, .int 0, .null, .null, .null]))] H := hP
  have hD : va_D A [(h0, .inr (1, [.int 0, .null, .null, .null, .int 0, .null, .int 0, .null, .null, .null]))] := hD
  refine lv_aload_n hx hb dX1_init_9 rfl (lv_at hl 0 rfl) ?_
  refine lv_bipush (v := 10) hx hb dX1_init_10 (by decide) ?_
  refine va_newD (atype := .int) (ty := .int) hx hb (hts _ tw_159) rfl (fun _ z => by cases z) hK 0 rfl hP hD hS hA (a0 := (10, .inl (fun _ => 0))) (N' := 10) (fun _ => rfl) (by decide) (by decide) (by decide) (Nat.le_of_ble_eq_true rfl) (Nat.le_of_ble_eq_true rfl) dX1_init_12 (fun q1 H hP hD hS => ?_)
  have hP : va_P D vwCl [(h0, .inr (1, [.int 0, .null, .null, .null, .int 0, .null, .int 0, .null, .null, .null])), (q1, .inl (dA 0, 10, .inl (fun _ => 0)))] H := hP
  have hD : va_D A [(h0, .inr (1, [.int 0, .null, .null, .null, .int 0, .null, .int 0, .null, .null, .null])), (q1, .inl (dA 0, 10, .inl (fun _ => 0)))] := hD
  refine W.widen (k := 1) (n := 10) (by omega) (by omega) ?_
  refine va_putF (D := D) (ci := 1) (v := .ref q1) (ty := .array .int) (C := RX1) (T := TX1) (N := 10) hx hb hts (tb_u inX1) tyX1 tyX1_ok nmX1 hown hK hP hD hS 0 rfl rfl 1 (by decide) (hts _ tw_109) (fun _ h9 => h9) rfl hin rfl (by decide +kernel) rfl rfl (Nat.le_of_ble_eq_true rfl) dX1_init_14 (fun H locs hP hD hS => ?_)
  have hP : va_P D vwCl [(h0, .inr (1, [.int 0, .ref q1, .null, .null, .int 0, .null, .int 0, .null, .null, .null])), (q1, .inl (dA 0, 10, .inl (fun _ => 0)))] H := hP
  have hD : va_D A [(h0, .inr (1, [.int 0, .ref q1, .null, .null, .int 0, .null, .int 0, .null, .null, .null])), (q1, .inl (dA 0, 10, .inl (fun _ => 0)))] := hD
  refine lv_aload_n hx hb dX1_init_17 rfl (lv_at hl 0 rfl) ?_
  refine lv_bipush (v := 10) hx hb dX1_init_18 (by decide) ?_
  refine va_newD (atype := .int) (ty := .int) hx hb (hts _ tw_159) rfl (fun _ z => by cases z) hK 0 rfl hP hD hS hA (a0 := (10, .inl (fun _ => 0))) (N' := 10) (fun _ => rfl) (by decide) (by decide) (by decide) (Nat.le_of_ble_eq_true rfl) (Nat.le_of_ble_eq_true rfl) dX1_init_20 (fun q2 H hP hD hS => ?_)
  have hP : va_P D vwCl [(h0, .inr (1, [.int 0, .ref q1, .null, .null, .int 0, .null, .int 0, .null, .null, .null])), (q1, .inl (dA 0, 10, .inl (fun _ => 0))), (q2, .inl (dA 0, 10, .inl (fun _ => 0)))] H := hP
  have hD : va_D A [(h0, .inr (1, [.int 0, .ref q1, .null, .null, .int 0, .null, .int 0, .null, .null, .null])), (q1, .inl (dA 0, 10, .inl (fun _ => 0))), (q2, .inl (dA 0, 10, .inl (fun _ => 0)))] := hD
  refine W.widen (k := 2) (n := 20) (by omega) (by omega) ?_
  refine va_putF (D := D) (ci := 1) (v := .ref q2) (ty := .array .int) (C := RX1) (T := TX1) (N := 10) hx hb hts (tb_u inX1) tyX1 tyX1_ok nmX1 hown hK hP hD hS 0 rfl rfl 2 (by decide) (hts _ tw_112) (fun _ h9 => h9) rfl hin rfl (by decide +kernel) rfl rfl (Nat.le_of_ble_eq_true rfl) dX1_init_22 (fun H locs hP hD hS => ?_)
  have hP : va_P D vwCl [(h0, .inr (1, [.int 0, .ref q1, .ref q2, .null, .int 0, .null, .int 0, .null, .null, .null])), (q1, .inl (dA 0, 10, .inl (fun _ => 0))), (q2, .inl (dA 0, 10, .inl (fun _ => 0)))] H := hP
  have hD : va_D A [(h0, .inr (1, [.int 0, .ref q1, .ref q2, .null, .int 0, .null, .int 0, .null, .null, .null])), (q1, .inl (dA 0, 10, .inl (fun _ => 0))), (q2, .inl (dA 0, 10, .inl (fun _ => 0)))] := hD
  refine lv_aload_n hx hb dX1_init_25 rfl (lv_at hl 0 rfl) ?_
  refine lv_bipush (v := 16) hx hb dX1_init_26 (by decide) ?_
  refine va_newD (atype := .int) (ty := .int) hx hb (hts _ tw_159) rfl (fun _ z => by cases z) hK 0 rfl hP hD hS hA (a0 := (16, .inl (fun _ => 0))) (N' := 16) (fun _ => rfl) (by decide) (by decide) (by decide) (Nat.le_of_ble_eq_true rfl) (Nat.le_of_ble_eq_true rfl) dX1_init_28 (fun q3 H hP hD hS => ?_)
  have hP : va_P D vwCl [(h0, .inr (1, [.int 0, .ref q1, .ref q2, .null, .int 0, .null, .int 0, .null, .null, .null])), (q1, .inl (dA 0, 10, .inl (fun _ => 0))), (q2, .inl (dA 0, 10, .inl (fun _ => 0))), (q3, .inl (dA 0, 16, .inl (fun _ => 0)))] H := hP
  have hD : va_D A [(h0, .inr (1, [.int 0, .ref q1, .ref q2, .null, .int 0, .null, .int 0, .null, .null, .null])), (q1, .inl (dA 0, 10, .inl (fun _ => 0))), (q2, .inl (dA 0, 10, .inl (fun _ => 0))), (q3, .inl (dA 0, 16, .inl (fun _ => 0)))] := hD
  refine W.widen (k := 3) (n := 36) (by omega) (by omega) ?_
  refine va_putF (D := D) (ci := 1) (v := .ref q3) (ty := .array .int) (C := RX1) (T := TX1) (N := 10) hx hb hts (tb_u inX1) tyX1 tyX1_ok nmX1 hown hK hP hD hS 0 rfl rfl 3 (by decide) (hts _ tw_114) (fun _ h9 => h9) rfl hin rfl (by decide +kernel) rfl rfl (Nat.le_of_ble_eq_true rfl) dX1_init_30 (fun H locs hP hD hS => ?_)
  have hP : va_P D vwCl [(h0, .inr (1, [.int 0, .ref q1, .ref q2, .ref q3, .int 0, .null, .int 0, .null, .null, .null])), (q1, .inl (dA 0, 10, .inl (fun _ => 0))), (q2, .inl (dA 0, 10, .inl (fun _ => 0))), (q3, .inl (dA 0, 16, .inl (fun _ => 0)))] H := hP
  have hD : va_D A [(h0, .inr (1, [.int 0, .ref q1, .ref q2, .ref q3, .int 0, .null, .int 0, .null, .null, .null])), (q1, .inl (dA 0, 10, .inl (fun _ => 0))), (q2, .inl (dA 0, 10, .inl (fun _ => 0))), (q3, .inl (dA 0, 16, .inl (fun _ => 0)))] := hD
  refine lv_aload_n hx hb dX1_init_33 rfl (lv_at hl 0 rfl) ?_
  refine lv_iconst (v := 0) hx hb dX1_init_34 (by decide) ?_
  refine va_put (D := D) (ci := 1) (v := .int 0) (ty := .int) (C := RX1) (T := TX1) (N := 10) hx hb hts (tb_u inX1) tyX1 tyX1_ok nmX1 hown hK hP hD hS 0 rfl rfl 4 (by decide) (hts _ tw_118) (fun _ h9 => h9) rfl (by decide +kernel) rfl rfl (Nat.le_of_ble_eq_true rfl) dX1_init_35 (fun H locs hP hD hS => ?_)
  have hP : va_P D vwCl [(h0, .inr (1, [.int 0, .ref q1, .ref q2, .ref q3, .int 0, .null, .int 0, .null, .null, .null])), (q1, .inl (dA 0, 10, .inl (fun _ => 0))), (q2, .inl (dA 0, 10, .inl (fun _ => 0))), (q3, .inl (dA 0, 16, .inl (fun _ => 0)))] H := hP
  have hD : va_D A [(h0, .inr (1, [.int 0, .ref q1, .ref q2, .ref q3, .int 0, .null, .int 0, .null, .null, .null])), (q1, .inl (dA 0, 10, .inl (fun _ => 0))), (q2, .inl (dA 0, 10, .inl (fun _ => 0))), (q3, .inl (dA 0, 16, .inl (fun _ => 0)))] := hD
  refine lv_aload_n hx hb dX1_init_38 rfl (lv_at hl 0 rfl) ?_
  refine lv_bipush (v := 20) hx hb dX1_init_39 (by decide) ?_
  refine va_newD (atype := .int) (ty := .int) hx hb (hts _ tw_159) rfl (fun _ z => by cases z) hK 0 rfl hP hD hS hA (a0 := (20, .inl (fun _ => 0))) (N' := 20) (fun _ => rfl) (by decide) (by decide) (by decide) (Nat.le_of_ble_eq_true rfl) (Nat.le_of_ble_eq_true rfl) dX1_init_41 (fun q4 H hP hD hS => ?_)
  have hP : va_P D vwCl [(h0, .inr (1, [.int 0, .ref q1, .ref q2, .ref q3, .int 0, .null, .int 0, .null, .null, .null])), (q1, .inl (dA 0, 10, .inl (fun _ => 0))), (q2, .inl (dA 0, 10, .inl (fun _ => 0))), (q3, .inl (dA 0, 16, .inl (fun _ => 0))), (q4, .inl (dA 0, 20, .inl (fun _ => 0)))] H := hP
  have hD : va_D A [(h0, .inr (1, [.int 0, .ref q1, .ref q2, .ref q3, .int 0, .null, .int 0, .null, .null, .null])), (q1, .inl (dA 0, 10, .inl (fun _ => 0))), (q2, .inl (dA 0, 10, .inl (fun _ => 0))), (q3, .inl (dA 0, 16, .inl (fun _ => 0))), (q4, .inl (dA 0, 20, .inl (fun _ => 0)))] := hD
  refine W.widen (k := 4) (n := 56) (by omega) (by omega) ?_
  refine va_putF (D := D) (ci := 1) (v := .ref q4) (ty := .array .int) (C := RX1) (T := TX1) (N := 10) hx hb hts (tb_u inX1) tyX1 tyX1_ok nmX1 hown hK hP hD hS 0 rfl rfl 5 (by decide) (hts _ tw_122) (fun _ h9 => h9) rfl hin rfl (by decide +kernel) rfl rfl (Nat.le_of_ble_eq_true rfl) dX1_init_43 (fun H locs hP hD hS => ?_)
  have hP : va_P D vwCl [(h0, .inr (1, [.int 0, .ref q1, .ref q2, .ref q3, .int 0, .ref q4, .int 0, .null, .null, .null])), (q1, .inl (dA 0, 10, .inl (fun _ => 0))), (q2, .inl (dA 0, 10, .inl (fun _ => 0))), (q3, .inl (dA 0, 16, .inl (fun _ => 0))), (q4, .inl (dA 0, 20, .inl (fun _ => 0)))] H := hP
  have hD : va_D A [(h0, .inr (1, [.int 0, .ref q1, .ref q2, .ref q3, .int 0, .ref q4, .int 0, .null, .null, .null])), (q1, .inl (dA 0, 10, .inl (fun _ => 0))), (q2, .inl (dA 0, 10, .inl (fun _ => 0))), (q3, .inl (dA 0, 16, .inl (fun _ => 0))), (q4, .inl (dA 0, 20, .inl (fun _ => 0)))] := hD
  refine lv_aload_n hx hb dX1_init_46 rfl (lv_at hl 0 rfl) ?_
  refine lv_iconst (v := 0) hx hb dX1_init_47 (by decide) ?_
  refine va_put (D := D) (ci := 1) (v := .int 0) (ty := .int) (C := RX1) (T := TX1) (N := 10) hx hb hts (tb_u inX1) tyX1 tyX1_ok nmX1 hown hK hP hD hS 0 rfl rfl 6 (by decide) (hts _ tw_125) (fun _ h9 => h9) rfl (by decide +kernel) rfl rfl (Nat.le_of_ble_eq_true rfl) dX1_init_48 (fun H locs hP hD hS => ?_)
  have hP : va_P D vwCl [(h0, .inr (1, [.int 0, .ref q1, .ref q2, .ref q3, .int 0, .ref q4, .int 0, .null, .null, .null])), (q1, .inl (dA 0, 10, .inl (fun _ => 0))), (q2, .inl (dA 0, 10, .inl (fun _ => 0))), (q3, .inl (dA 0, 16, .inl (fun _ => 0))), (q4, .inl (dA 0, 20, .inl (fun _ => 0)))] H := hP
  have hD : va_D A [(h0, .inr (1, [.int 0, .ref q1, .ref q2, .ref q3, .int 0, .ref q4, .int 0, .null, .null, .null])), (q1, .inl (dA 0, 10, .inl (fun _ => 0))), (q2, .inl (dA 0, 10, .inl (fun _ => 0))), (q3, .inl (dA 0, 16, .inl (fun _ => 0))), (q4, .inl (dA 0, 20, .inl (fun _ => 0)))] := hD
  refine lv_aload_n hx hb dX1_init_51 rfl (lv_at hl 0 rfl) ?_
  refine lv_bipush (v := 6) hx hb dX1_init_52 (by decide) ?_
  refine va_newD (atype := .int) (ty := .int) hx hb (hts _ tw_159) rfl (fun _ z => by cases z) hK 0 rfl hP hD hS hA (a0 := (6, .inl (fun _ => 0))) (N' := 6) (fun _ => rfl) (by decide) (by decide) (by decide) (Nat.le_of_ble_eq_true rfl) (Nat.le_of_ble_eq_true rfl) dX1_init_54 (fun q5 H hP hD hS => ?_)
  have hP : va_P D vwCl [(h0, .inr (1, [.int 0, .ref q1, .ref q2, .ref q3, .int 0, .ref q4, .int 0, .null, .null, .null])), (q1, .inl (dA 0, 10, .inl (fun _ => 0))), (q2, .inl (dA 0, 10, .inl (fun _ => 0))), (q3, .inl (dA 0, 16, .inl (fun _ => 0))), (q4, .inl (dA 0, 20, .inl (fun _ => 0))), (q5, .inl (dA 0, 6, .inl (fun _ => 0)))] H := hP
  have hD : va_D A [(h0, .inr (1, [.int 0, .ref q1, .ref q2, .ref q3, .int 0, .ref q4, .int 0, .null, .null, .null])), (q1, .inl (dA 0, 10, .inl (fun _ => 0))), (q2, .inl (dA 0, 10, .inl (fun _ => 0))), (q3, .inl (dA 0, 16, .inl (fun _ => 0))), (q4, .inl (dA 0, 20, .inl (fun _ => 0))), (q5, .inl (dA 0, 6, .inl (fun _ => 0)))] := hD
  refine W.widen (k := 5) (n := 62) (by omega) (by omega) ?_
  refine va_putF (D := D) (ci := 1) (v := .ref q5) (ty := .array .int) (C := RX1) (T := TX1) (N := 10) hx hb hts (tb_u inX1) tyX1 tyX1_ok nmX1 hown hK hP hD hS 0 rfl rfl 7 (by decide) (hts _ tw_129) (fun _ h9 => h9) rfl hin rfl (by decide +kernel) rfl rfl (Nat.le_of_ble_eq_true rfl) dX1_init_56 (fun H locs hP hD hS => ?_)
  have hP : va_P D vwCl [(h0, .inr (1, [.int 0, .ref q1, .ref q2, .ref q3, .int 0, .ref q4, .int 0, .ref q5, .null, .null])), (q1, .inl (dA 0, 10, .inl (fun _ => 0))), (q2, .inl (dA 0, 10, .inl (fun _ => 0))), (q3, .inl (dA 0, 16, .inl (fun _ => 0))), (q4, .inl (dA 0, 20, .inl (fun _ => 0))), (q5, .inl (dA 0, 6, .inl (fun _ => 0)))] H := hP
  have hD : va_D A [(h0, .inr (1, [.int 0, .ref q1, .ref q2, .ref q3, .int 0, .ref q4, .int 0, .ref q5, .null, .null])), (q1, .inl (dA 0, 10, .inl (fun _ => 0))), (q2, .inl (dA 0, 10, .inl (fun _ => 0))), (q3, .inl (dA 0, 16, .inl (fun _ => 0))), (q4, .inl (dA 0, 20, .inl (fun _ => 0))), (q5, .inl (dA 0, 6, .inl (fun _ => 0)))] := hD
  refine lv_aload_n hx hb dX1_init_59 rfl (lv_at hl 0 rfl) ?_
  refine lv_bipush (v := 6) hx hb dX1_init_60 (by decide) ?_
  refine va_newD (atype := .int) (ty := .int) hx hb (hts _ tw_159) rfl (fun _ z => by cases z) hK 0 rfl hP hD hS hA (a0 := (6, .inl (fun _ => 0))) (N' := 6) (fun _ => rfl) (by decide) (by decide) (by decide) (Nat.le_of_ble_eq_true rfl) (Nat.le_of_ble_eq_true rfl) dX1_init_62 (fun q6 H hP hD hS => ?_)
  have hP : va_P D vwCl [(h0, .inr (1, [.int 0, .ref q1, .ref q2, .ref q3, .int 0, .ref q4, .int 0, .ref q5, .null, .null])), (q1, .inl (dA 0, 10, .inl (fun _ => 0))), (q2, .inl (dA 0, 10, .inl (fun _ => 0))), (q3, .inl (dA 0, 16, .inl (fun _ => 0))), (q4, .inl (dA 0, 20, .inl (fun _ => 0))), (q5, .inl (dA 0, 6, .inl (fun _ => 0))), (q6, .inl (dA 0, 6, .inl (fun _ => 0)))] H := hP
  have hD : va_D A [(h0, .inr (1, [.int 0, .ref q1, .ref q2, .ref q3, .int 0, .ref q4, .int 0, .ref q5, .null, .null])), (q1, .inl (dA 0, 10, .inl (fun _ => 0))), (q2, .inl (dA 0, 10, .inl (fun _ => 0))), (q3, .inl (dA 0, 16, .inl (fun _ => 0))), (q4, .inl (dA 0, 20, .inl (fun _ => 0))), (q5, .inl (dA 0, 6, .inl (fun _ => 0))), (q6, .inl (dA 0, 6, .inl (fun _ => 0)))] := hD
  refine W.widen (k := 6) (n := 68) (by omega) (by omega) ?_
  refine va_putF (D := D) (ci := 1) (v := .ref q6) (ty := .array .int) (C := RX1) (T := TX1) (N := 10) hx hb hts (tb_u inX1) tyX1 tyX1_ok nmX1 hown hK hP hD hS 0 rfl rfl 8 (by decide) (hts _ tw_132) (fun _ h9 => h9) rfl hin rfl (by decide +kernel) rfl rfl (Nat.le_of_ble_eq_true rfl) dX1_init_64 (fun H locs hP hD hS => ?_)
  have hP : va_P D vwCl [(h0, .inr (1, [.int 0, .ref q1, .ref q2, .ref q3, .int 0, .ref q4, .int 0, .ref q5, .ref q6, .null])), (q1, .inl (dA 0, 10, .inl (fun _ => 0))), (q2, .inl (dA 0, 10, .inl (fun _ => 0))), (q3, .inl (dA 0, 16, .inl (fun _ => 0))), (q4, .inl (dA 0, 20, .inl (fun _ => 0))), (q5, .inl (dA 0, 6, .inl (fun _ => 0))), (q6, .inl (dA 0, 6, .inl (fun _ => 0)))] H := hP
  have hD : va_D A [(h0, .inr (1, [.int 0, .ref q1, .ref q2, .ref q3, .int 0, .ref q4, .int 0, .ref q5, .ref q6, .null])), (q1, .inl (dA 0, 10, .inl (fun _ => 0))), (q2, .inl (dA 0, 10, .inl (fun _ => 0))), (q3, .inl (dA 0, 16, .inl (fun _ => 0))), (q4, .inl (dA 0, 20, .inl (fun _ => 0))), (q5, .inl (dA 0, 6, .inl (fun _ => 0))), (q6, .inl (dA 0, 6, .inl (fun _ => 0)))] := hD
  refine lv_aload_n hx hb dX1_init_67 rfl (lv_at hl 0 rfl) ?_
  refine lv_bipush (v := 6) hx hb dX1_init_68 (by decide) ?_
  refine va_newD (atype := .int) (ty := .int) hx hb (hts _ tw_159) rfl (fun _ z => by cases z) hK 0 rfl hP hD hS hA (a0 := (6, .inl (fun _ => 0))) (N' := 6) (fun _ => rfl) (by decide) (by decide) (by decide) (Nat.le_of_ble_eq_true rfl) (Nat.le_of_ble_eq_true rfl) dX1_init_70 (fun q7 H hP hD hS => ?_)
  have hP : va_P D vwCl [(h0, .inr (1, [.int 0, .ref q1, .ref q2, .ref q3, .int 0, .ref q4, .int 0, .ref q5, .ref q6, .null])), (q1, .inl (dA 0, 10, .inl (fun _ => 0))), (q2, .inl (dA 0, 10, .inl (fun _ => 0))), (q3, .inl (dA 0, 16, .inl (fun _ => 0))), (q4, .inl (dA 0, 20, .inl (fun _ => 0))), (q5, .inl (dA 0, 6, .inl (fun _ => 0))), (q6, .inl (dA 0, 6, .inl (fun _ => 0))), (q7, .inl (dA 0, 6, .inl (fun _ => 0)))] H := hP
  have hD : va_D A [(h0, .inr (1, [.int 0, .ref q1, .ref q2, .ref q3, .int 0, .ref q4, .int 0, .ref q5, .ref q6, .null])), (q1, .inl (dA 0, 10, .inl (fun _ => 0))), (q2, .inl (dA 0, 10, .inl (fun _ => 0))), (q3, .inl (dA 0, 16, .inl (fun _ => 0))), (q4, .inl (dA 0, 20, .inl (fun _ => 0))), (q5, .inl (dA 0, 6, .inl (fun _ => 0))), (q6, .inl (dA 0, 6, .inl (fun _ => 0))), (q7, .inl (dA 0, 6, .inl (fun _ => 0)))] := hD
  refine W.widen (k := 7) (n := 74) (by omega) (by omega) ?_
  refine va_putF (D := D) (ci := 1) (v := .ref q7) (ty := .array .int) (C := RX1) (T := TX1) (N := 10) hx hb hts (tb_u inX1) tyX1 tyX1_ok nmX1 hown hK hP hD hS 0 rfl rfl 9 (by decide) (hts _ tw_135) (fun _ h9 => h9) rfl hin rfl (by decide +kernel) rfl rfl (Nat.le_of_ble_eq_true rfl) dX1_init_72 (fun H locs hP hD hS => ?_)
  have hP : va_P D vwCl [(h0, .inr (1, [.int 0, .ref q1, .ref q2, .ref q3, .int 0, .ref q4, .int 0, .ref q5, .ref q6, .ref q7])), (q1, .inl (dA 0, 10, .inl (fun _ => 0))), (q2, .inl (dA 0, 10, .inl (fun _ => 0))), (q3, .inl (dA 0, 16, .inl (fun _ => 0))), (q4, .inl (dA 0, 20, .inl (fun _ => 0))), (q5, .inl (dA 0, 6, .inl (fun _ => 0))), (q6, .inl (dA 0, 6, .inl (fun _ => 0))), (q7, .inl (dA 0, 6, .inl (fun _ => 0)))] H := hP
  have hD : va_D A [(h0, .inr (1, [.int 0, .ref q1, .ref q2, .ref q3, .int 0, .ref q4, .int 0, .ref q5, .ref q6, .ref q7])), (q1, .inl (dA 0, 10, .inl (fun _ => 0))), (q2, .inl (dA 0, 10, .inl (fun _ => 0))), (q3, .inl (dA 0, 16, .inl (fun _ => 0))), (q4, .inl (dA 0, 20, .inl (fun _ => 0))), (q5, .inl (dA 0, 6, .inl (fun _ => 0))), (q6, .inl (dA 0, 6, .inl (fun _ => 0))), (q7, .inl (dA 0, 6, .inl (fun _ => 0)))] := hD
  refine lv_iconst (v := 0) hx hb dX1_init_75 (by decide) ?_
  refine lv_istore_n (lv' := [(1, .int 0), (0, .ref h0)]) hx hb dX1_init_76 rfl hl (by decide) rfl (fun ls hl => ?_)
  suffices lp : ∀ (n k : Nat), k + n = 16 → ∀ (H : Heap) (locs : List Loc) (ls : Array Slot), va_P D vwCl [(h0, .inr (1, [.int 0, .ref q1, .ref q2, .ref q3, .int 0, .ref q4, .int 0, .ref q5, .ref q6, .ref q7])), (q1, .inl (dA 0, 10, .inl (fun _ => 0))), (q2, .inl (dA 0, 10, .inl (fun _ => 0))), (q3, .inl (dA 0, 16, .inl (tiF k))), (q4, .inl (dA 0, 20, .inl (fun _ => 0))), (q5, .inl (dA 0, 6, .inl (fun _ => 0))), (q6, .inl (dA 0, 6, .inl (fun _ => 0))), (q7, .inl (dA 0, 6, .inl (fun _ => 0)))] H → va_D A [(h0, .inr (1, [.int 0, .ref q1, .ref q2, .ref q3, .int 0, .ref q4, .int 0, .ref q5, .ref q6, .ref q7])), (q1, .inl (dA 0, 10, .inl (fun _ => 0))), (q2, .inl (dA 0, 10, .inl (fun _ => 0))), (q3, .inl (dA 0, 16, .inl (tiF k))), (q4, .inl (dA 0, 20, .inl (fun _ => 0))), (q5, .inl (dA 0, 6, .inl (fun _ => 0))), (q6, .inl (dA 0, 6, .inl (fun _ => 0))), (q7, .inl (dA 0, 6, .inl (fun _ => 0)))] → va_S A s.heap H locs → lv_has ls 2 [(1, .int (nI k)), (0, .ref h0)] → W p l e _ s m _ below meth c H locs 7 74 _ (F0 m 77 ls []) from lp 16 0 rfl H locs ls hP hD hS hl
  clear hP hD hS hl
  intro n
  induction n with
  | zero =>
    intro k hk H locs ls hP hD hS hl
    obtain rfl : k = 16 := by omega
    refine lv_iload_n hx hb dX1_init_77 rfl (lv_at hl 0 rfl) ?_
    refine lv_bipush (v := nI 16) hx hb dX1_init_78 (by decide) ?_
    refine lv_icmp_ge (tgt := 99) hx hb dX1_init_80 (by decide) (fun _ => ?_) (fun z => absurd (Int32.le_refl _) z)
    exact W.vret hx hb hr (fun t ht hW => ⟨⟨(), rfl, trivial, q1, q2, q3, q4, q5, q6, q7, by rw [ht]; exact hP, va_K.moved hW.alike hK, hD⟩, hS.F ht⟩) hS.2.2 dX1_init_99
  | succ n ih =>
    intro k hk H locs ls hP hD hS hl
    have k16 : k < 16 := by omega
    refine lv_iload_n hx hb dX1_init_77 rfl (lv_at hl 0 rfl) ?_
    refine lv_bipush (v := nI 16) hx hb dX1_init_78 (by decide) ?_
    refine lv_icmp_ge (tgt := 99) hx hb dX1_init_80 (by decide) (fun z => absurd z (nI_ge k16 (by decide))) (fun _ => ?_)
    refine lv_aload_n hx hb dX1_init_83 rfl (lv_at hl 1 rfl) ?_
    refine va_get (D := D) (ci := 1) (v := .ref q3) (C := RX1) (T := TX1) (N := 10) hx hb hts (tb_u inX1) hown hK hP 0 rfl rfl 3 (by decide) (hts _ tw_114) (fun _ h9 => h9) rfl dX1_init_84 ?_
    refine lv_iload_n hx hb dX1_init_87 rfl (lv_at hl 0 rfl) ?_
    refine lv_iload_n hx hb dX1_init_88 rfl (lv_at hl 0 rfl) ?_
    refine lv_bipush (v := nI 8) hx hb dX1_init_89 (by decide) ?_
    refine lv_irem hx hb dX1_init_91 (by decide) ?_
    rw [pk_rem (by omega) (by decide) (by decide)]
    refine va_iast hx hb hK hP hD hS 3 0 rfl rfl (vp_in_nI k16 (by decide)) dX1_init_92 (fun H locs hP hD hS => ?_)
    rw [nI_clamp (by omega)] at hP hD
    have hP : va_P D vwCl [(h0, .inr (1, [.int 0, .ref q1, .ref q2, .ref q3, .int 0, .ref q4, .int 0, .ref q5, .ref q6, .ref q7])), (q1, .inl (dA 0, 10, .inl (fun _ => 0))), (q2, .inl (dA 0, 10, .inl (fun _ => 0))), (q3, .inl (dA 0, 16, .inl (tiF (k + 1)))), (q4, .inl (dA 0, 20, .inl (fun _ => 0))), (q5, .inl (dA 0, 6, .inl (fun _ => 0))), (q6, .inl (dA 0, 6, .inl (fun _ => 0))), (q7, .inl (dA 0, 6, .inl (fun _ => 0)))] H := hP
    have hD : va_D A [(h0, .inr (1, [.int 0, .ref q1, .ref q2, .ref q3, .int 0, .ref q4, .int 0, .ref q5, .ref q6, .ref q7])), (q1, .inl (dA 0, 10, .inl (fun _ => 0))), (q2, .inl (dA 0, 10, .inl (fun _ => 0))), (q3, .inl (dA 0, 16, .inl (tiF (k + 1)))), (q4, .inl (dA 0, 20, .inl (fun _ => 0))), (q5, .inl (dA 0, 6, .inl (fun _ => 0))), (q6, .inl (dA 0, 6, .inl (fun _ => 0))), (q7, .inl (dA 0, 6, .inl (fun _ => 0)))] := hD
    refine lv_iinc (v := nI (k + 1)) (lv' := [(1, .int (nI (k + 1))), (0, .ref h0)]) hx hb dX1_init_93 hl (k := 0) rfl (nI_1 k) (by decide) rfl (fun ls hl => ?_)
    refine lv_goto (tgt := 77) hx hb dX1_init_96 (by decide) ?_
    exact ih (k + 1) (by omega) H locs ls hP hD hS hl
set_option maxHeartbeats 4000000 in
set_option maxRecDepth 100000 in
theorem c_X7 (l : Launch) (D : va_G) (dA : Nat → ClassId) (h0 sz : Nat) : Met l yX7_init (Cond.code yX7_init cX7_init 2 none :: tb) { frames := 1, cells := 13, slots := 4779, locals := 12 } (PcI D dA h0 sz (.inr (7, [.null, .null, .null, .int 0, .null, .null, .int 0, .null, .null, .int 0, .null, .int 0, .null, .int 0, .int 0, .int 0, .long 0, .int 0, .null, .null, .null, .null]))) (va_Qv (fun _ : Unit => True) (fun _ t => ∃ q1 q2 q3 q4 q5 q6 q7 q8 q9 q10 q11 q12 q13 : Nat, va_P D vwCl [(h0, .inr (7, [.ref q1, .ref q2, .ref q3, .int 0, .ref q4, .ref q5, .int 0, .ref q6, .ref q7, .int 0, .ref q8, .int 0, .ref q9, .int 0, .int 0, .int 0, .long 0, .int 0, .ref q10, .ref q11, .ref q12, .ref q13])), (q1, .inl (dA 0, 80, .inl (diF 16))), (q2, .inl (dA 0, 80, .inl (fun _ => 0))), (q3, .inl (dA 0, 80, .inl (fun _ => 0))), (q4, .inl (dA 0, 7, .inl (fun _ => 0))), (q5, .inl (dA 1, 120, .inl (fun _ => 0))), (q6, .inl (dA 0, 20, .inl (fun _ => 0))), (q7, .inl (dA 0, 80, .inl (fun _ => 0))), (q8, .inl (dA 0, 4096, .inl (fun _ => 0))), (q9, .inl (dA 0, 8, .inl (fun _ => 0))), (q10, .inl (dA 0, 4, .inl (fun _ => 0))), (q11, .inl (dA 0, 4, .inl (fun _ => 0))), (q12, .inl (dA 2, 160, .inr (.inl (fun _ => 0)))), (q13, .inl (dA 2, 40, .inr (.inl (fun _ => 0))))] t.heap ∧ va_K D vwCl (tysOf dA) t ∧ va_D (va_A [(h0, .inr (7, [.null, .null, .null, .int 0, .null, .null, .int 0, .null, .null, .int 0, .null, .int 0, .null, .int 0, .int 0, .int 0, .long 0, .int 0, .null, .null, .null, .null]))] sz) [(h0, .inr (7, [.ref q1, .ref q2, .ref q3, .int 0, .ref q4, .ref q5, .int 0, .ref q6, .ref q7, .int 0, .ref q8, .int 0, .ref q9, .int 0, .int 0, .int 0, .long 0, .int 0, .ref q10, .ref q11, .ref q12, .ref q13])), (q1, .inl (dA 0, 80, .inl (diF 16))), (q2, .inl (dA 0, 80, .inl (fun _ => 0))), (q3, .inl (dA 0, 80, .inl (fun _ => 0))), (q4, .inl (dA 0, 7, .inl (fun _ => 0))), (q5, .inl (dA 1, 120, .inl (fun _ => 0))), (q6, .inl (dA 0, 20, .inl (fun _ => 0))), (q7, .inl (dA 0, 80, .inl (fun _ => 0))), (q8, .inl (dA 0, 4096, .inl (fun _ => 0))), (q9, .inl (dA 0, 8, .inl (fun _ => 0))), (q10, .inl (dA 0, 4, .inl (fun _ => 0))), (q11, .inl (dA 0, 4, .inl (fun _ => 0))), (q12, .inl (dA 2, 160, .inr (.inl (fun _ => 0)))), (q13, .inl (dA 2, 40, .inr (.inl (fun _ => 0))))]) (va_A [(h0, .inr (7, [.null, .null, .null, .int 0, .null, .null, .int 0, .null, .null, .int 0, .null, .int 0, .null, .int 0, .int 0, .int 0, .long 0, .int 0, .null, .null, .null, .null]))] sz)) 13 4779 (va_A [(h0, .inr (7, [.null, .null, .null, .int 0, .null, .null, .int 0, .null, .null, .int 0, .null, .int 0, .null, .int 0, .int 0, .int 0, .long 0, .int 0, .null, .null, .null, .null]))] sz) := by
  refine Met.ofW (cc := cX7_init) (maxL := 2) (ret := none) (by decide) rfl ?_
  intro p e s m args below meth c s₁ B hml hv
  obtain ⟨rfl, hsz, hP, hK, hD0⟩ := hv
  have hx := B.exec
  have hb := B.bytes
  have hr := B.returns
  have hts0 := atoms_spec (ws := Cond.code yX7_init cX7_init 2 none :: tb) B.pre
  have hts : ∀ w ∈ tb, w.before _ s = true := fun w hw => hts0 w (List.mem_cons_of_mem _ hw)
  have hown : s.vm.findClass RX7 = some m.cls := findClass_of_methodNamed B.named
  have hlocks := B.notSynchronized
  have hin : meth.name = "<init>" := (name_of_methodNamed B.named B.method).1
  subst hsz
  have hD := hD0.self (sz := s.heap.size)
  generalize hAe : va_A [(h0, .inr (7, [.null, .null, .null, .int 0, .null, .null, .int 0, .null, .null, .int 0, .null, .int 0, .null, .int 0, .int 0, .int 0, .long 0, .int 0, .null, .null, .null, .null]))] s.heap.size = A at hD ⊢
  have hA : ∀ q : Nat, s.heap.size ≤ q → A q := fun q h => by rw [← hAe]; exact Or.inr h
  have hS : va_S A s.heap s.heap [] := va_S.rf
  have hl := lv_entry ([.ref h0]) (n := 2) (Nat.le_of_ble_eq_true rfl)
  rw [lg_entry_eq]
  generalize (lg_sl ([.ref h0]) ++ List.replicate (2 - (lg_sl ([.ref h0])).length) Slot.unset).toArray = ls at hl ⊢
  have hl : lv_has ls 2 [(0, .ref h0)] := hl
  refine lv_aload_n hx hb dX7_init_0 rfl (lv_at hl 0 rfl) ?_
  refine W.objInit hx hb hown (hts _ tw_935) (hts _ tw_96) (hts _ tw_97) rfl (by rw [hml]; exact hl.1) rfl dX7_init_1 (Nat.le_of_ble_eq_true rfl) (Nat.le_of_ble_eq_true rfl) ?_
  refine W.eq (g2 := F0 m 4 ls []) rfl ?_
  refine lv_aload_n hx hb dX7_init_4 rfl (lv_at hl 0 rfl) ?_
  refine lv_bipush (v := 80) hx hb dX7_init_5 (by decide) ?_
  refine va_newD (atype := .int) (ty := .int) hx hb (hts _ tw_159) rfl (fun _ z => by cases z) hK 0 rfl hP hD hS hA (a0 := (80, .inl (fun _ => 0))) (N' := 80) (fun _ => rfl) (by decide) (by decide) (by decide) (Nat.le_of_ble_eq_true rfl) (Nat.le_of_ble_eq_true rfl) dX7_init_7 (fun q1 H hP hD hS => ?_)
  have hP : va_P D vwCl [(h0, .inr (7, [.null, .null, .null, .int 0, .null, .null, .int 0, .null, .null, .int 0, .null, .int 0, .null, .int 0, .int 0, .int 0, .long 0, .int 0, .null, .null, .null, .null])), (q1, .inl (dA 0, 80, .inl (fun _ => 0)))] H := hP
  have hD : va_D A [(h0, .inr (7, [.null, .null, .null, .int 0, .null, .null, .int 0, .null, .null, .int 0, .null, .int 0, .null, .int 0, .int 0, .int 0, .long 0, .int 0, .null, .null, .null, .null])), (q1, .inl (dA 0, 80, .inl (fun _ => 0)))] := hD
  refine W.widen (k := 1) (n := 80) (by omega) (by omega) ?_
  refine va_putF (D := D) (ci := 7) (v := .ref q1) (ty := .array .int) (C := RX7) (T := TX7) (N := 22) hx hb hts (tb_u inX7) tyX7 tyX7_ok nmX7 hown hK hP hD hS 0 rfl rfl 0 (by decide) (hts _ tw_936) (fun _ h9 => h9) rfl hin rfl (by decide +kernel) rfl rfl (Nat.le_of_ble_eq_true rfl) dX7_init_9 (fun H locs hP hD hS => ?_)
  have hP : va_P D vwCl [(h0, .inr (7, [.ref q1, .null, .null, .int 0, .null, .null, .int 0, .null, .null, .int 0, .null, .int 0, .null, .int 0, .int 0, .int 0, .long 0, .int 0, .null, .null, .null, .null])), (q1, .inl (dA 0, 80, .inl (fun _ => 0)))] H := hP
  have hD : va_D A [(h0, .inr (7, [.ref q1, .null, .null, .int 0, .null, .null, .int 0, .null, .null, .int 0, .null, .int 0, .null, .int 0, .int 0, .int 0, .long 0, .int 0, .null, .null, .null, .null])), (q1, .inl (dA 0, 80, .inl (fun _ => 0)))] := hD
  refine lv_aload_n hx hb dX7_init_12 rfl (lv_at hl 0 rfl) ?_
  refine lv_bipush (v := 80) hx hb dX7_init_13 (by decide) ?_
  refine va_newD (atype := .int) (ty := .int) hx hb (hts _ tw_159) rfl (fun _ z => by cases z) hK 0 rfl hP hD hS hA (a0 := (80, .inl (fun _ => 0))) (N' := 80) (fun _ => rfl) (by decide) (by decide) (by decide) (Nat.le_of_ble_eq_true rfl) (Nat.le_of_ble_eq_true rfl) dX7_init_15 (fun q2 H hP hD hS => ?_)
  have hP : va_P D vwCl [(h0, .inr (7, [.ref q1, .null, .null, .int 0, .null, .null, .int 0, .null, .null, .int 0, .null, .int 0, .null, .int 0, .int 0, .int 0, .long 0, .int 0, .null, .null, .null, .null])), (q1, .inl (dA 0, 80, .inl (fun _ => 0))), (q2, .inl (dA 0, 80, .inl (fun _ => 0)))] H := hP
  have hD : va_D A [(h0, .inr (7, [.ref q1, .null, .null, .int 0, .null, .null, .int 0, .null, .null, .int 0, .null, .int 0, .null, .int 0, .int 0, .int 0, .long 0, .int 0, .null, .null, .null, .null])), (q1, .inl (dA 0, 80, .inl (fun _ => 0))), (q2, .inl (dA 0, 80, .inl (fun _ => 0)))] := hD
  refine W.widen (k := 2) (n := 160) (by omega) (by omega) ?_
  refine va_putF (D := D) (ci := 7) (v := .ref q2) (ty := .array .int) (C := RX7) (T := TX7) (N := 22) hx hb hts (tb_u inX7) tyX7 tyX7_ok nmX7 hown hK hP hD hS 0 rfl rfl 1 (by decide) (hts _ tw_937) (fun _ h9 => h9) rfl hin rfl (by decide +kernel) rfl rfl (Nat.le_of_ble_eq_true rfl) dX7_init_17 (fun H locs hP hD hS => ?_)
  have hP : va_P D vwCl [(h0, .inr (7, [.ref q1, .ref q2, .null, .int 0, .null, .null, .int 0, .null, .null, .int 0, .null, .int 0, .null, .int 0, .int 0, .int 0, .long 0, .int 0, .null, .null, .null, .null])), (q1, .inl (dA 0, 80, .inl (fun _ => 0))), (q2, .inl (dA 0, 80, .inl (fun _ => 0)))] H := hP
  have hD : va_D A [(h0, .inr (7, [.ref q1, .ref q2, .null, .int 0, .null, .null, .int 0, .null, .null, .int 0, .null, .int 0, .null, .int 0, .int 0, .int 0, .long 0, .int 0, .null, .null, .null, .null])), (q1, .inl (dA 0, 80, .inl (fun _ => 0))), (q2, .inl (dA 0, 80, .inl (fun _ => 0)))] := hD
  refine lv_aload_n hx hb dX7_init_20 rfl (lv_at hl 0 rfl) ?_
  refine lv_bipush (v := 80) hx hb dX7_init_21 (by decide) ?_
  refine va_newD (atype := .int) (ty := .int) hx hb (hts _ tw_159) rfl (fun _ z => by cases z) hK 0 rfl hP hD hS hA (a0 := (80, .inl (fun _ => 0))) (N' := 80) (fun _ => rfl) (by decide) (by decide) (by decide) (Nat.le_of_ble_eq_true rfl) (Nat.le_of_ble_eq_true rfl) dX7_init_23 (fun q3 H hP hD hS => ?_)
  have hP : va_P D vwCl [(h0, .inr (7, [.ref q1, .ref q2, .null, .int 0, .null, .null, .int 0, .null, .null, .int 0, .null, .int 0, .null, .int 0, .int 0, .int 0, .long 0, .int 0, .null, .null, .null, .null])), (q1, .inl (dA 0, 80, .inl (fun _ => 0))), (q2, .inl (dA 0, 80, .inl (fun _ => 0))), (q3, .inl (dA 0, 80, .inl (fun _ => 0)))] H := hP
  have hD : va_D A [(h0, .inr (7, [.ref q1, .ref q2, .null, .int 0, .null, .null, .int 0, .null, .null, .int 0, .null, .int 0, .null, .int 0, .int 0, .int 0, .long 0, .int 0, .null, .null, .null, .null])), (q1, .inl (dA 0, 80, .inl (fun _ => 0))), (q2, .inl (dA 0, 80, .inl (fun _ => 0))), (q3, .inl (dA 0, 80, .inl (fun _ => 0)))] := hD
  refine W.widen (k := 3) (n := 240) (by omega) (by omega) ?_
  refine va_putF (D := D) (ci := 7) (v := .ref q3) (ty := .array .int) (C := RX7) (T := TX7) (N := 22) hx hb hts (tb_u inX7) tyX7 tyX7_ok nmX7 hown hK hP hD hS 0 rfl rfl 2 (by decide) (hts _ tw_938) (fun _ h9 => h9) rfl hin rfl (by decide +kernel) rfl rfl (Nat.le_of_ble_eq_true rfl) dX7_init_25 (fun H locs hP hD hS => ?_)
  have hP : va_P D vwCl [(h0, .inr (7, [.ref q1, .ref q2, .ref q3, .int 0, .null, .null, .int 0, .null, .null, .int 0, .null, .int 0, .null, .int 0, .int 0, .int 0, .long 0, .int 0, .null, .null, .null, .null])), (q1, .inl (dA 0, 80, .inl (fun _ => 0))), (q2, .inl (dA 0, 80, .inl (fun _ => 0))), (q3, .inl (dA 0, 80, .inl (fun _ => 0)))] H := hP
  have hD : va_D A [(h0, .inr (7, [.ref q1, .ref q2, .ref q3, .int 0, .null, .null, .int 0, .null, .null, .int 0, .null, .int 0, .null, .int 0, .int 0, .int 0, .long 0, .int 0, .null, .null, .null, .null])), (q1, .inl (dA 0, 80, .inl (fun _ => 0))), (q2, .inl (dA 0, 80, .inl (fun _ => 0))), (q3, .inl (dA 0, 80, .inl (fun _ => 0)))] := hD
  refine lv_aload_n hx hb dX7_init_28 rfl (lv_at hl 0 rfl) ?_
  refine lv_bipush (v := 7) hx hb dX7_init_29 (by decide) ?_
  refine va_newD (atype := .int) (ty := .int) hx hb (hts _ tw_159) rfl (fun _ z => by cases z) hK 0 rfl hP hD hS hA (a0 := (7, .inl (fun _ => 0))) (N' := 7) (fun _ => rfl) (by decide) (by decide) (by decide) (Nat.le_of_ble_eq_true rfl) (Nat.le_of_ble_eq_true rfl) dX7_init_31 (fun q4 H hP hD hS => ?_)
  have hP : va_P D vwCl [(h0, .inr (7, [.ref q1, .ref q2, .ref q3, .int 0, .null, .null, .int 0, .null, .null, .int 0, .null, .int 0, .null, .int 0, .int 0, .int 0, .long 0, .int 0, .null, .null, .null, .null])), (q1, .inl (dA 0, 80, .inl (fun _ => 0))), (q2, .inl (dA 0, 80, .inl (fun _ => 0))), (q3, .inl (dA 0, 80, .inl (fun _ => 0))), (q4, .inl (dA 0, 7, .inl (fun _ => 0)))] H := hP
  have hD : va_D A [(h0, .inr (7, [.ref q1, .ref q2, .ref q3, .int 0, .null, .null, .int 0, .null, .null, .int 0, .null, .int 0, .null, .int 0, .int 0, .int 0, .long 0, .int 0, .null, .null, .null, .null])), (q1, .inl (dA 0, 80, .inl (fun _ => 0))), (q2, .inl (dA 0, 80, .inl (fun _ => 0))), (q3, .inl (dA 0, 80, .inl (fun _ => 0))), (q4, .inl (dA 0, 7, .inl (fun _ => 0)))] := hD
  refine W.widen (k := 4) (n := 247) (by omega) (by omega) ?_
  refine va_putF (D := D) (ci := 7) (v := .ref q4) (ty := .array .int) (C := RX7) (T := TX7) (N := 22) hx hb hts (tb_u inX7) tyX7 tyX7_ok nmX7 hown hK hP hD hS 0 rfl rfl 4 (by decide) (hts _ tw_940) (fun _ h9 => h9) rfl hin rfl (by decide +kernel) rfl rfl (Nat.le_of_ble_eq_true rfl) dX7_init_33 (fun H locs hP hD hS => ?_)
  have hP : va_P D vwCl [(h0, .inr (7, [.ref q1, .ref q2, .ref q3, .int 0, .ref q4, .null, .int 0, .null, .null, .int 0, .null, .int 0, .null, .int 0, .int 0, .int 0, .long 0, .int 0, .null, .null, .null, .null])), (q1, .inl (dA 0, 80, .inl (fun _ => 0))), (q2, .inl (dA 0, 80, .inl (fun _ => 0))), (q3, .inl (dA 0, 80, .inl (fun _ => 0))), (q4, .inl (dA 0, 7, .inl (fun _ => 0)))] H := hP
  have hD : va_D A [(h0, .inr (7, [.ref q1, .ref q2, .ref q3, .int 0, .ref q4, .null, .int 0, .null, .null, .int 0, .null, .int 0, .null, .int 0, .int 0, .int 0, .long 0, .int 0, .null, .null, .null, .null])), (q1, .inl (dA 0, 80, .inl (fun _ => 0))), (q2, .inl (dA 0, 80, .inl (fun _ => 0))), (q3, .inl (dA 0, 80, .inl (fun _ => 0))), (q4, .inl (dA 0, 7, .inl (fun _ => 0)))] := hD
  refine lv_aload_n hx hb dX7_init_36 rfl (lv_at hl 0 rfl) ?_
  refine lv_bipush (v := 120) hx hb dX7_init_37 (by decide) ?_
  refine va_newD (atype := .byte) (ty := .byte) hx hb (hts _ tw_812) rfl (fun _ z => by cases z) hK 1 rfl hP hD hS hA (a0 := (120, .inl (fun _ => 0))) (N' := 120) (fun _ => rfl) (by decide) (by decide) (by decide) (Nat.le_of_ble_eq_true rfl) (Nat.le_of_ble_eq_true rfl) dX7_init_39 (fun q5 H hP hD hS => ?_)
  have hP : va_P D vwCl [(h0, .inr (7, [.ref q1, .ref q2, .ref q3, .int 0, .ref q4, .null, .int 0, .null, .null, .int 0, .null, .int 0, .null, .int 0, .int 0, .int 0, .long 0, .int 0, .null, .null, .null, .null])), (q1, .inl (dA 0, 80, .inl (fun _ => 0))), (q2, .inl (dA 0, 80, .inl (fun _ => 0))), (q3, .inl (dA 0, 80, .inl (fun _ => 0))), (q4, .inl (dA 0, 7, .inl (fun _ => 0))), (q5, .inl (dA 1, 120, .inl (fun _ => 0)))] H := hP
  have hD : va_D A [(h0, .inr (7, [.ref q1, .ref q2, .ref q3, .int 0, .ref q4, .null, .int 0, .null, .null, .int 0, .null, .int 0, .null, .int 0, .int 0, .int 0, .long 0, .int 0, .null, .null, .null, .null])), (q1, .inl (dA 0, 80, .inl (fun _ => 0))), (q2, .inl (dA 0, 80, .inl (fun _ => 0))), (q3, .inl (dA 0, 80, .inl (fun _ => 0))), (q4, .inl (dA 0, 7, .inl (fun _ => 0))), (q5, .inl (dA 1, 120, .inl (fun _ => 0)))] := hD
  refine W.widen (k := 5) (n := 367) (by omega) (by omega) ?_
  refine va_putF (D := D) (ci := 7) (v := .ref q5) (ty := .array .byte) (C := RX7) (T := TX7) (N := 22) hx hb hts (tb_u inX7) tyX7 tyX7_ok nmX7 hown hK hP hD hS 0 rfl rfl 5 (by decide) (hts _ tw_941) (fun _ h9 => h9) rfl hin rfl (by decide +kernel) rfl rfl (Nat.le_of_ble_eq_true rfl) dX7_init_41 (fun H locs hP hD hS => ?_)
  have hP : va_P D vwCl [(h0, .inr (7, [.ref q1, .ref q2, .ref q3, .int 0, .ref q4, .ref q5, .int 0, .null, .null, .int 0, .null, .int 0, .null, .int 0, .int 0, .int 0, .long 0, .int 0, .null, .null, .null, .null])), (q1, .inl (dA 0, 80, .inl (fun _ => 0))), (q2, .inl (dA 0, 80, .inl (fun _ => 0))), (q3, .inl (dA 0, 80, .inl (fun _ => 0))), (q4, .inl (dA 0, 7, .inl (fun _ => 0))), (q5, .inl (dA 1, 120, .inl (fun _ => 0)))] H := hP
  have hD : va_D A [(h0, .inr (7, [.ref q1, .ref q2, .ref q3, .int 0, .ref q4, .ref q5, .int 0, .null, .null, .int 0, .null, .int 0, .null, .int 0, .int 0, .int 0, .long 0, .int 0, .null, .null, .null, .null])), (q1, .inl (dA 0, 80, .inl (fun _ => 0))), (q2, .inl (dA 0, 80, .inl (fun _ => 0))), (q3, .inl (dA 0, 80, .inl (fun _ => 0))), (q4, .inl (dA 0, 7, .inl (fun _ => 0))), (q5, .inl (dA 1, 120, .inl (fun _ => 0)))] := hD
  refine lv_aload_n hx hb dX7_init_44 rfl (lv_at hl 0 rfl) ?_
  refine lv_bipush (v := 20) hx hb dX7_init_45 (by decide) ?_
  refine va_newD (atype := .int) (ty := .int) hx hb (hts _ tw_159) rfl (fun _ z => by cases z) hK 0 rfl hP hD hS hA (a0 := (20, .inl (fun _ => 0))) (N' := 20) (fun _ => rfl) (by decide) (by decide) (by decide) (Nat.le_of_ble_eq_true rfl) (Nat.le_of_ble_eq_true rfl) dX7_init_47 (fun q6 H hP hD hS => ?_)
  have hP : va_P D vwCl [(h0, .inr (7, [.ref q1, .ref q2, .ref q3, .int 0, .ref q4, .ref q5, .int 0, .null, .null, .int 0, .null, .int 0, .null, .int 0, .int 0, .int 0, .long 0, .int 0, .null, .null, .null, .null])), (q1, .inl (dA 0, 80, .inl (fun _ => 0))), (q2, .inl (dA 0, 80, .inl (fun _ => 0))), (q3, .inl (dA 0, 80, .inl (fun _ => 0))), (q4, .inl (dA 0, 7, .inl (fun _ => 0))), (q5, .inl (dA 1, 120, .inl (fun _ => 0))), (q6, .inl (dA 0, 20, .inl (fun _ => 0)))] H := hP
  have hD : va_D A [(h0, .inr (7, [.ref q1, .ref q2, .ref q3, .int 0, .ref q4, .ref q5, .int 0, .null, .null, .int 0, .null, .int 0, .null, .int 0, .int 0, .int 0, .long 0, .int 0, .null, .null, .null, .null])), (q1, .inl (dA 0, 80, .inl (fun _ => 0))), (q2, .inl (dA 0, 80, .inl (fun _ => 0))), (q3, .inl (dA 0, 80, .inl (fun _ => 0))), (q4, .inl (dA 0, 7, .inl (fun _ => 0))), (q5, .inl (dA 1, 120, .inl (fun _ => 0))), (q6, .inl (dA 0, 20, .inl (fun _ => 0)))] := hD
  refine W.widen (k := 6) (n := 387) (by omega) (by omega) ?_
  refine va_putF (D := D) (ci := 7) (v := .ref q6) (ty := .array .int) (C := RX7) (T := TX7) (N := 22) hx hb hts (tb_u inX7) tyX7 tyX7_ok nmX7 hown hK hP hD hS 0 rfl rfl 7 (by decide) (hts _ tw_943) (fun _ h9 => h9) rfl hin rfl (by decide +kernel) rfl rfl (Nat.le_of_ble_eq_true rfl) dX7_init_49 (fun H locs hP hD hS => ?_)
  have hP : va_P D vwCl [(h0, .inr (7, [.ref q1, .ref q2, .ref q3, .int 0, .ref q4, .ref q5, .int 0, .ref q6, .null, .int 0, .null, .int 0, .null, .int 0, .int 0, .int 0, .long 0, .int 0, .null, .null, .null, .null])), (q1, .inl (dA 0, 80, .inl (fun _ => 0))), (q2, .inl (dA 0, 80, .inl (fun _ => 0))), (q3, .inl (dA 0, 80, .inl (fun _ => 0))), (q4, .inl (dA 0, 7, .inl (fun _ => 0))), (q5, .inl (dA 1, 120, .inl (fun _ => 0))), (q6, .inl (dA 0, 20, .inl (fun _ => 0)))] H := hP
  have hD : va_D A [(h0, .inr (7, [.ref q1, .ref q2, .ref q3, .int 0, .ref q4, .ref q5, .int 0, .ref q6, .null, .int 0, .null, .int 0, .null, .int 0, .int 0, .int 0, .long 0, .int 0, .null, .null, .null, .null])), (q1, .inl (dA 0, 80, .inl (fun _ => 0))), (q2, .inl (dA 0, 80, .inl (fun _ => 0))), (q3, .inl (dA 0, 80, .inl (fun _ => 0))), (q4, .inl (dA 0, 7, .inl (fun _ => 0))), (q5, .inl (dA 1, 120, .inl (fun _ => 0))), (q6, .inl (dA 0, 20, .inl (fun _ => 0)))] := hD
  refine lv_aload_n hx hb dX7_init_52 rfl (lv_at hl 0 rfl) ?_
  refine lv_bipush (v := 80) hx hb dX7_init_53 (by decide) ?_
  refine va_newD (atype := .int) (ty := .int) hx hb (hts _ tw_159) rfl (fun _ z => by cases z) hK 0 rfl hP hD hS hA (a0 := (80, .inl (fun _ => 0))) (N' := 80) (fun _ => rfl) (by decide) (by decide) (by decide) (Nat.le_of_ble_eq_true rfl) (Nat.le_of_ble_eq_true rfl) dX7_init_55 (fun q7 H hP hD hS => ?_)
  have hP : va_P D vwCl [(h0, .inr (7, [.ref q1, .ref q2, .ref q3, .int 0, .ref q4, .ref q5, .int 0, .ref q6, .null, .int 0, .null, .int 0, .null, .int 0, .int 0, .int 0, .long 0, .int 0, .null, .null, .null, .null])), (q1, .inl (dA 0, 80, .inl (fun _ => 0))), (q2, .inl (dA 0, 80, .inl (fun _ => 0))), (q3, .inl (dA 0, 80, .inl (fun _ => 0))), (q4, .inl (dA 0, 7, .inl (fun _ => 0))), (q5, .inl (dA 1, 120, .inl (fun _ => 0))), (q6, .inl (dA 0, 20, .inl (fun _ => 0))), (q7, .inl (dA 0, 80, .inl (fun _ => 0)))] H := hP
  have hD : va_D A [(h0, .inr (7, [.ref q1, .ref q2, .ref q3, .int 0, .ref q4, .ref q5, .int 0, .ref q6, .null, .int 0, .null, .int 0, .null, .int 0, .int 0, .int 0, .long 0, .int 0, .null, .null, .null, .null])), (q1, .inl (dA 0, 80, .inl (fun _ => 0))), (q2, .inl (dA 0, 80, .inl (fun _ => 0))), (q3, .inl (dA 0, 80, .inl (fun _ => 0))), (q4, .inl (dA 0, 7, .inl (fun _ => 0))), (q5, .inl (dA 1, 120, .inl (fun _ => 0))), (q6, .inl (dA 0, 20, .inl (fun _ => 0))), (q7, .inl (dA 0, 80, .inl (fun _ => 0)))] := hD
  refine W.widen (k := 7) (n := 467) (by omega) (by omega) ?_
  refine va_putF (D := D) (ci := 7) (v := .ref q7) (ty := .array .int) (C := RX7) (T := TX7) (N := 22) hx hb hts (tb_u inX7) tyX7 tyX7_ok nmX7 hown hK hP hD hS 0 rfl rfl 8 (by decide) (hts _ tw_944) (fun _ h9 => h9) rfl hin rfl (by decide +kernel) rfl rfl (Nat.le_of_ble_eq_true rfl) dX7_init_57 (fun H locs hP hD hS => ?_)
  have hP : va_P D vwCl [(h0, .inr (7, [.ref q1, .ref q2, .ref q3, .int 0, .ref q4, .ref q5, .int 0, .ref q6, .ref q7, .int 0, .null, .int 0, .null, .int 0, .int 0, .int 0, .long 0, .int 0, .null, .null, .null, .null])), (q1, .inl (dA 0, 80, .inl (fun _ => 0))), (q2, .inl (dA 0, 80, .inl (fun _ => 0))), (q3, .inl (dA 0, 80, .inl (fun _ => 0))), (q4, .inl (dA 0, 7, .inl (fun _ => 0))), (q5, .inl (dA 1, 120, .inl (fun _ => 0))), (q6, .inl (dA 0, 20, .inl (fun _ => 0))), (q7, .inl (dA 0, 80, .inl (fun _ => 0)))] H := hP
  have hD : va_D A [(h0, .inr (7, [.ref q1, .ref q2, .ref q3, .int 0, .ref q4, .ref q5, .int 0, .ref q6, .ref q7, .int 0, .null, .int 0, .null, .int 0, .int 0, .int 0, .long 0, .int 0, .null, .null, .null, .null])), (q1, .inl (dA 0, 80, .inl (fun _ => 0))), (q2, .inl (dA 0, 80, .inl (fun _ => 0))), (q3, .inl (dA 0, 80, .inl (fun _ => 0))), (q4, .inl (dA 0, 7, .inl (fun _ => 0))), (q5, .inl (dA 1, 120, .inl (fun _ => 0))), (q6, .inl (dA 0, 20, .inl (fun _ => 0))), (q7, .inl (dA 0, 80, .inl (fun _ => 0)))] := hD
  refine lv_aload_n hx hb dX7_init_60 rfl (lv_at hl 0 rfl) ?_
  refine lv_sipush (v := 4096) hx hb dX7_init_61 (by decide) ?_
  refine va_newD (atype := .int) (ty := .int) hx hb (hts _ tw_159) rfl (fun _ z => by cases z) hK 0 rfl hP hD hS hA (a0 := (4096, .inl (fun _ => 0))) (N' := 4096) (fun _ => rfl) (by decide) (by decide) (by decide) (Nat.le_of_ble_eq_true rfl) (Nat.le_of_ble_eq_true rfl) dX7_init_64 (fun q8 H hP hD hS => ?_)
  have hP : va_P D vwCl [(h0, .inr (7, [.ref q1, .ref q2, .ref q3, .int 0, .ref q4, .ref q5, .int 0, .ref q6, .ref q7, .int 0, .null, .int 0, .null, .int 0, .int 0, .int 0, .long 0, .int 0, .null, .null, .null, .null])), (q1, .inl (dA 0, 80, .inl (fun _ => 0))), (q2, .inl (dA 0, 80, .inl (fun _ => 0))), (q3, .inl (dA 0, 80, .inl (fun _ => 0))), (q4, .inl (dA 0, 7, .inl (fun _ => 0))), (q5, .inl (dA 1, 120, .inl (fun _ => 0))), (q6, .inl (dA 0, 20, .inl (fun _ => 0))), (q7, .inl (dA 0, 80, .inl (fun _ => 0))), (q8, .inl (dA 0, 4096, .inl (fun _ => 0)))] H := hP
  have hD : va_D A [(h0, .inr (7, [.ref q1, .ref q2, .ref q3, .int 0, .ref q4, .ref q5, .int 0, .ref q6, .ref q7, .int 0, .null, .int 0, .null, .int 0, .int 0, .int 0, .long 0, .int 0, .null, .null, .null, .null])), (q1, .inl (dA 0, 80, .inl (fun _ => 0))), (q2, .inl (dA 0, 80, .inl (fun _ => 0))), (q3, .inl (dA 0, 80, .inl (fun _ => 0))), (q4, .inl (dA 0, 7, .inl (fun _ => 0))), (q5, .inl (dA 1, 120, .inl (fun _ => 0))), (q6, .inl (dA 0, 20, .inl (fun _ => 0))), (q7, .inl (dA 0, 80, .inl (fun _ => 0))), (q8, .inl (dA 0, 4096, .inl (fun _ => 0)))] := hD
  refine W.widen (k := 8) (n := 4563) (by omega) (by omega) ?_
  refine va_putF (D := D) (ci := 7) (v := .ref q8) (ty := .array .int) (C := RX7) (T := TX7) (N := 22) hx hb hts (tb_u inX7) tyX7 tyX7_ok nmX7 hown hK hP hD hS 0 rfl rfl 10 (by decide) (hts _ tw_946) (fun _ h9 => h9) rfl hin rfl (by decide +kernel) rfl rfl (Nat.le_of_ble_eq_true rfl) dX7_init_66 (fun H locs hP hD hS => ?_)
  have hP : va_P D vwCl [(h0, .inr (7, [.ref q1, .ref q2, .ref q3, .int 0, .ref q4, .ref q5, .int 0, .ref q6, .ref q7, .int 0, .ref q8, .int 0, .null, .int 0, .int 0, .int 0, .long 0, .int 0, .null, .null, .null, .null])), (q1, .inl (dA 0, 80, .inl (fun _ => 0))), (q2, .inl (dA 0, 80, .inl (fun _ => 0))), (q3, .inl (dA 0, 80, .inl (fun _ => 0))), (q4, .inl (dA 0, 7, .inl (fun _ => 0))), (q5, .inl (dA 1, 120, .inl (fun _ => 0))), (q6, .inl (dA 0, 20, .inl (fun _ => 0))), (q7, .inl (dA 0, 80, .inl (fun _ => 0))), (q8, .inl (dA 0, 4096, .inl (fun _ => 0)))] H := hP
  have hD : va_D A [(h0, .inr (7, [.ref q1, .ref q2, .ref q3, .int 0, .ref q4, .ref q5, .int 0, .ref q6, .ref q7, .int 0, .ref q8, .int 0, .null, .int 0, .int 0, .int 0, .long 0, .int 0, .null, .null, .null, .null])), (q1, .inl (dA 0, 80, .inl (fun _ => 0))), (q2, .inl (dA 0, 80, .inl (fun _ => 0))), (q3, .inl (dA 0, 80, .inl (fun _ => 0))), (q4, .inl (dA 0, 7, .inl (fun _ => 0))), (q5, .inl (dA 1, 120, .inl (fun _ => 0))), (q6, .inl (dA 0, 20, .inl (fun _ => 0))), (q7, .inl (dA 0, 80, .inl (fun _ => 0))), (q8, .inl (dA 0, 4096, .inl (fun _ => 0)))] := hD
  refine lv_aload_n hx hb dX7_init_69 rfl (lv_at hl 0 rfl) ?_
  refine lv_bipush (v := 8) hx hb dX7_init_70 (by decide) ?_
  refine va_newD (atype := .int) (ty := .int) hx hb (hts _ tw_159) rfl (fun _ z => by cases z) hK 0 rfl hP hD hS hA (a0 := (8, .inl (fun _ => 0))) (N' := 8) (fun _ => rfl) (by decide) (by decide) (by decide) (Nat.le_of_ble_eq_true rfl) (Nat.le_of_ble_eq_true rfl) dX7_init_72 (fun q9 H hP hD hS => ?_)
  have hP : va_P D vwCl [(h0, .inr (7, [.ref q1, .ref q2, .ref q3, .int 0, .ref q4, .ref q5, .int 0, .ref q6, .ref q7, .int 0, .ref q8, .int 0, .null, .int 0, .int 0, .int 0, .long 0, .int 0, .null, .null, .null, .null])), (q1, .inl (dA 0, 80, .inl (fun _ => 0))), (q2, .inl (dA 0, 80, .inl (fun _ => 0))), (q3, .inl (dA 0, 80, .inl (fun _ => 0))), (q4, .inl (dA 0, 7, .inl (fun _ => 0))), (q5, .inl (dA 1, 120, .inl (fun _ => 0))), (q6, .inl (dA 0, 20, .inl (fun _ => 0))), (q7, .inl (dA 0, 80, .inl (fun _ => 0))), (q8, .inl (dA 0, 4096, .inl (fun _ => 0))), (q9, .inl (dA 0, 8, .inl (fun _ => 0)))] H := hP
  have hD : va_D A [(h0, .inr (7, [.ref q1, .ref q2, .ref q3, .int 0, .ref q4, .ref q5, .int 0, .ref q6, .ref q7, .int 0, .ref q8, .int 0, .null, .int 0, .int 0, .int 0, .long 0, .int 0, .null, .null, .null, .null])), (q1, .inl (dA 0, 80, .inl (fun _ => 0))), (q2, .inl (dA 0, 80, .inl (fun _ => 0))), (q3, .inl (dA 0, 80, .inl (fun _ => 0))), (q4, .inl (dA 0, 7, .inl (fun _ => 0))), (q5, .inl (dA 1, 120, .inl (fun _ => 0))), (q6, .inl (dA 0, 20, .inl (fun _ => 0))), (q7, .inl (dA 0, 80, .inl (fun _ => 0))), (q8, .inl (dA 0, 4096, .inl (fun _ => 0))), (q9, .inl (dA 0, 8, .inl (fun _ => 0)))] := hD
  refine W.widen (k := 9) (n := 4571) (by omega) (by omega) ?_
  refine va_putF (D := D) (ci := 7) (v := .ref q9) (ty := .array .int) (C := RX7) (T := TX7) (N := 22) hx hb hts (tb_u inX7) tyX7 tyX7_ok nmX7 hown hK hP hD hS 0 rfl rfl 12 (by decide) (hts _ tw_948) (fun _ h9 => h9) rfl hin rfl (by decide +kernel) rfl rfl (Nat.le_of_ble_eq_true rfl) dX7_init_74 (fun H locs hP hD hS => ?_)
  have hP : va_P D vwCl [(h0, .inr (7, [.ref q1, .ref q2, .ref q3, .int 0, .ref q4, .ref q5, .int 0, .ref q6, .ref q7, .int 0, .ref q8, .int 0, .ref q9, .int 0, .int 0, .int 0, .long 0, .int 0, .null, .null, .null, .null])), (q1, .inl (dA 0, 80, .inl (fun _ => 0))), (q2, .inl (dA 0, 80, .inl (fun _ => 0))), (q3, .inl (dA 0, 80, .inl (fun _ => 0))), (q4, .inl (dA 0, 7, .inl (fun _ => 0))), (q5, .inl (dA 1, 120, .inl (fun _ => 0))), (q6, .inl (dA 0, 20, .inl (fun _ => 0))), (q7, .inl (dA 0, 80, .inl (fun _ => 0))), (q8, .inl (dA 0, 4096, .inl (fun _ => 0))), (q9, .inl (dA 0, 8, .inl (fun _ => 0)))] H := hP
  have hD : va_D A [(h0, .inr (7, [.ref q1, .ref q2, .ref q3, .int 0, .ref q4, .ref q5, .int 0, .ref q6, .ref q7, .int 0, .ref q8, .int 0, .ref q9, .int 0, .int 0, .int 0, .long 0, .int 0, .null, .null, .null, .null])), (q1, .inl (dA 0, 80, .inl (fun _ => 0))), (q2, .inl (dA 0, 80, .inl (fun _ => 0))), (q3, .inl (dA 0, 80, .inl (fun _ => 0))), (q4, .inl (dA 0, 7, .inl (fun _ => 0))), (q5, .inl (dA 1, 120, .inl (fun _ => 0))), (q6, .inl (dA 0, 20, .inl (fun _ => 0))), (q7, .inl (dA 0, 80, .inl (fun _ => 0))), (q8, .inl (dA 0, 4096, .inl (fun _ => 0))), (q9, .inl (dA 0, 8, .inl (fun _ => 0)))] := hD
  refine lv_aload_n hx hb dX7_init_77 rfl (lv_at hl 0 rfl) ?_
  refine lv_iconst (v := 4) hx hb dX7_init_78 (by decide) ?_
  refine va_newD (atype := .int) (ty := .int) hx hb (hts _ tw_159) rfl (fun _ z => by cases z) hK 0 rfl hP hD hS hA (a0 := (4, .inl (fun _ => 0))) (N' := 4) (fun _ => rfl) (by decide) (by decide) (by decide) (Nat.le_of_ble_eq_true rfl) (Nat.le_of_ble_eq_true rfl) dX7_init_79 (fun q10 H hP hD hS => ?_)
  have hP : va_P D vwCl [(h0, .inr (7, [.ref q1, .ref q2, .ref q3, .int 0, .ref q4, .ref q5, .int 0, .ref q6, .ref q7, .int 0, .ref q8, .int 0, .ref q9, .int 0, .int 0, .int 0, .long 0, .int 0, .null, .null, .null, .null])), (q1, .inl (dA 0, 80, .inl (fun _ => 0))), (q2, .inl (dA 0, 80, .inl (fun _ => 0))), (q3, .inl (dA 0, 80, .inl (fun _ => 0))), (q4, .inl (dA 0, 7, .inl (fun _ => 0))), (q5, .inl (dA 1, 120, .inl (fun _ => 0))), (q6, .inl (dA 0, 20, .inl (fun _ => 0))), (q7, .inl (dA 0, 80, .inl (fun _ => 0))), (q8, .inl (dA 0, 4096, .inl (fun _ => 0))), (q9, .inl (dA 0, 8, .inl (fun _ => 0))), (q10, .inl (dA 0, 4, .inl (fun _ => 0)))] H := hP
  have hD : va_D A [(h0, .inr (7, [.ref q1, .ref q2, .ref q3, .int 0, .ref q4, .ref q5, .int 0, .ref q6, .ref q7, .int 0, .ref q8, .int 0, .ref q9, .int 0, .int 0, .int 0, .long 0, .int 0, .null, .null, .null, .null])), (q1, .inl (dA 0, 80, .inl (fun _ => 0))), (q2, .inl (dA 0, 80, .inl (fun _ => 0))), (q3, .inl (dA 0, 80, .inl (fun _ => 0))), (q4, .inl (dA 0, 7, .inl (fun _ => 0))), (q5, .inl (dA 1, 120, .inl (fun _ => 0))), (q6, .inl (dA 0, 20, .inl (fun _ => 0))), (q7, .inl (dA 0, 80, .inl (fun _ => 0))), (q8, .inl (dA 0, 4096, .inl (fun _ => 0))), (q9, .inl (dA 0, 8, .inl (fun _ => 0))), (q10, .inl (dA 0, 4, .inl (fun _ => 0)))] := hD
  refine W.widen (k := 10) (n := 4575) (by omega) (by omega) ?_
  refine va_putF (D := D) (ci := 7) (v := .ref q10) (ty := .array .int) (C := RX7) (T := TX7) (N := 22) hx hb hts (tb_u inX7) tyX7 tyX7_ok nmX7 hown hK hP hD hS 0 rfl rfl 18 (by decide) (hts _ tw_954) (fun _ h9 => h9) rfl hin rfl (by decide +kernel) rfl rfl (Nat.le_of_ble_eq_true rfl) dX7_init_81 (fun H locs hP hD hS => ?_)
  have hP : va_P D vwCl [(h0, .inr (7, [.ref q1, .ref q2, .ref q3, .int 0, .ref q4, .ref q5, .int 0, .ref q6, .ref q7, .int 0, .ref q8, .int 0, .ref q9, .int 0, .int 0, .int 0, .long 0, .int 0, .ref q10, .null, .null, .null])), (q1, .inl (dA 0, 80, .inl (fun _ => 0))), (q2, .inl (dA 0, 80, .inl (fun _ => 0))), (q3, .inl (dA 0, 80, .inl (fun _ => 0))), (q4, .inl (dA 0, 7, .inl (fun _ => 0))), (q5, .inl (dA 1, 120, .inl (fun _ => 0))), (q6, .inl (dA 0, 20, .inl (fun _ => 0))), (q7, .inl (dA 0, 80, .inl (fun _ => 0))), (q8, .inl (dA 0, 4096, .inl (fun _ => 0))), (q9, .inl (dA 0, 8, .inl (fun _ => 0))), (q10, .inl (dA 0, 4, .inl (fun _ => 0)))] H := hP
  have hD : va_D A [(h0, .inr (7, [.ref q1, .ref q2, .ref q3, .int 0, .ref q4, .ref q5, .int 0, .ref q6, .ref q7, .int 0, .ref q8, .int 0, .ref q9, .int 0, .int 0, .int 0, .long 0, .int 0, .ref q10, .null, .null, .null])), (q1, .inl (dA 0, 80, .inl (fun _ => 0))), (q2, .inl (dA 0, 80, .inl (fun _ => 0))), (q3, .inl (dA 0, 80, .inl (fun _ => 0))), (q4, .inl (dA 0, 7, .inl (fun _ => 0))), (q5, .inl (dA 1, 120, .inl (fun _ => 0))), (q6, .inl (dA 0, 20, .inl (fun _ => 0))), (q7, .inl (dA 0, 80, .inl (fun _ => 0))), (q8, .inl (dA 0, 4096, .inl (fun _ => 0))), (q9, .inl (dA 0, 8, .inl (fun _ => 0))), (q10, .inl (dA 0, 4, .inl (fun _ => 0)))] := hD
  refine lv_aload_n hx hb dX7_init_84 rfl (lv_at hl 0 rfl) ?_
  refine lv_iconst (v := 4) hx hb dX7_init_85 (by decide) ?_
  refine va_newD (atype := .int) (ty := .int) hx hb (hts _ tw_159) rfl (fun _ z => by cases z) hK 0 rfl hP hD hS hA (a0 := (4, .inl (fun _ => 0))) (N' := 4) (fun _ => rfl) (by decide) (by decide) (by decide) (Nat.le_of_ble_eq_true rfl) (Nat.le_of_ble_eq_true rfl) dX7_init_86 (fun q11 H hP hD hS => ?_)
  have hP : va_P D vwCl [(h0, .inr (7, [.ref q1, .ref q2, .ref q3, .int 0, .ref q4, .ref q5, .int 0, .ref q6, .ref q7, .int 0, .ref q8, .int 0, .ref q9, .int 0, .int 0, .int 0, .long 0, .int 0, .ref q10, .null, .null, .null])), (q1, .inl (dA 0, 80, .inl (fun _ => 0))), (q2, .inl (dA 0, 80, .inl (fun _ => 0))), (q3, .inl (dA 0, 80, .inl (fun _ => 0))), (q4, .inl (dA 0, 7, .inl (fun _ => 0))), (q5, .inl (dA 1, 120, .inl (fun _ => 0))), (q6, .inl (dA 0, 20, .inl (fun _ => 0))), (q7, .inl (dA 0, 80, .inl (fun _ => 0))), (q8, .inl (dA 0, 4096, .inl (fun _ => 0))), (q9, .inl (dA 0, 8, .inl (fun _ => 0))), (q10, .inl (dA 0, 4, .inl (fun _ => 0))), (q11, .inl (dA 0, 4, .inl (fun _ => 0)))] H := hP
  have hD : va_D A [(h0, .inr (7, [.ref q1, .ref q2, .ref q3, .int 0, .ref q4, .ref q5, .int 0, .ref q6, .ref q7, .int 0, .ref q8, .int 0, .ref q9, .int 0, .int 0, .int 0, .long 0, .int 0, .ref q10, .null, .null, .null])), (q1, .inl (dA 0, 80, .inl (fun _ => 0))), (q2, .inl (dA 0, 80, .inl (fun _ => 0))), (q3, .inl (dA 0, 80, .inl (fun _ => 0))), (q4, .inl (dA 0, 7, .inl (fun _ => 0))), (q5, .inl (dA 1, 120, .inl (fun _ => 0))), (q6, .inl (dA 0, 20, .inl (fun _ => 0))), (q7, .inl (dA 0, 80, .inl (fun _ => 0))), (q8, .inl (dA 0, 4096, .inl (fun _ => 0))), (q9, .inl (dA 0, 8, .inl (fun _ => 0))), (q10, .inl (dA 0, 4, .inl (fun _ => 0))), (q11, .inl (dA 0, 4, .inl (fun _ => 0)))] := hD
  refine W.widen (k := 11) (n := 4579) (by omega) (by omega) ?_
  refine va_putF (D := D) (ci := 7) (v := .ref q11) (ty := .array .int) (C := RX7) (T := TX7) (N := 22) hx hb hts (tb_u inX7) tyX7 tyX7_ok nmX7 hown hK hP hD hS 0 rfl rfl 19 (by decide) (hts _ tw_955) (fun _ h9 => h9) rfl hin rfl (by decide +kernel) rfl rfl (Nat.le_of_ble_eq_true rfl) dX7_init_88 (fun H locs hP hD hS => ?_)
  have hP : va_P D vwCl [(h0, .inr (7, [.ref q1, .ref q2, .ref q3, .int 0, .ref q4, .ref q5, .int 0, .ref q6, .ref q7, .int 0, .ref q8, .int 0, .ref q9, .int 0, .int 0, .int 0, .long 0, .int 0, .ref q10, .ref q11, .null, .null])), (q1, .inl (dA 0, 80, .inl (fun _ => 0))), (q2, .inl (dA 0, 80, .inl (fun _ => 0))), (q3, .inl (dA 0, 80, .inl (fun _ => 0))), (q4, .inl (dA 0, 7, .inl (fun _ => 0))), (q5, .inl (dA 1, 120, .inl (fun _ => 0))), (q6, .inl (dA 0, 20, .inl (fun _ => 0))), (q7, .inl (dA 0, 80, .inl (fun _ => 0))), (q8, .inl (dA 0, 4096, .inl (fun _ => 0))), (q9, .inl (dA 0, 8, .inl (fun _ => 0))), (q10, .inl (dA 0, 4, .inl (fun _ => 0))), (q11, .inl (dA 0, 4, .inl (fun _ => 0)))] H := hP
  have hD : va_D A [(h0, .inr (7, [.ref q1, .ref q2, .ref q3, .int 0, .ref q4, .ref q5, .int 0, .ref q6, .ref q7, .int 0, .ref q8, .int 0, .ref q9, .int 0, .int 0, .int 0, .long 0, .int 0, .ref q10, .ref q11, .null, .null])), (q1, .inl (dA 0, 80, .inl (fun _ => 0))), (q2, .inl (dA 0, 80, .inl (fun _ => 0))), (q3, .inl (dA 0, 80, .inl (fun _ => 0))), (q4, .inl (dA 0, 7, .inl (fun _ => 0))), (q5, .inl (dA 1, 120, .inl (fun _ => 0))), (q6, .inl (dA 0, 20, .inl (fun _ => 0))), (q7, .inl (dA 0, 80, .inl (fun _ => 0))), (q8, .inl (dA 0, 4096, .inl (fun _ => 0))), (q9, .inl (dA 0, 8, .inl (fun _ => 0))), (q10, .inl (dA 0, 4, .inl (fun _ => 0))), (q11, .inl (dA 0, 4, .inl (fun _ => 0)))] := hD
  refine lv_aload_n hx hb dX7_init_91 rfl (lv_at hl 0 rfl) ?_
  refine lv_sipush (v := 160) hx hb dX7_init_92 (by decide) ?_
  refine va_newD (atype := .long) (ty := .long) hx hb (hts _ tw_293) rfl (fun _ z => by cases z) hK 2 rfl hP hD hS hA (a0 := (160, .inr (.inl (fun _ => 0)))) (N' := 160) (fun _ => rfl) (by decide) (by decide) (by decide) (Nat.le_of_ble_eq_true rfl) (Nat.le_of_ble_eq_true rfl) dX7_init_95 (fun q12 H hP hD hS => ?_)
  have hP : va_P D vwCl [(h0, .inr (7, [.ref q1, .ref q2, .ref q3, .int 0, .ref q4, .ref q5, .int 0, .ref q6, .ref q7, .int 0, .ref q8, .int 0, .ref q9, .int 0, .int 0, .int 0, .long 0, .int 0, .ref q10, .ref q11, .null, .null])), (q1, .inl (dA 0, 80, .inl (fun _ => 0))), (q2, .inl (dA 0, 80, .inl (fun _ => 0))), (q3, .inl (dA 0, 80, .inl (fun _ => 0))), (q4, .inl (dA 0, 7, .inl (fun _ => 0))), (q5, .inl (dA 1, 120, .inl (fun _ => 0))), (q6, .inl (dA 0, 20, .inl (fun _ => 0))), (q7, .inl (dA 0, 80, .inl (fun _ => 0))), (q8, .inl (dA 0, 4096, .inl (fun _ => 0))), (q9, .inl (dA 0, 8, .inl (fun _ => 0))), (q10, .inl (dA 0, 4, .inl (fun _ => 0))), (q11, .inl (dA 0, 4, .inl (fun _ => 0))), (q12, .inl (dA 2, 160, .inr (.inl (fun _ => 0))))] H := hP
  have hD : va_D A [(h0, .inr (7, [.ref q1, .ref q2, .ref q3, .int 0, .ref q4, .ref q5, .int 0, .ref q6, .ref q7, .int 0, .ref q8, .int 0, .ref q9, .int 0, .int 0, .int 0, .long 0, .int 0, .ref q10, .ref q11, .null, .null])), (q1, .inl (dA 0, 80, .inl (fun _ => 0))), (q2, .inl (dA 0, 80, .inl (fun _ => 0))), (q3, .inl (dA 0, 80, .inl (fun _ => 0))), (q4, .inl (dA 0, 7, .inl (fun _ => 0))), (q5, .inl (dA 1, 120, .inl (fun _ => 0))), (q6, .inl (dA 0, 20, .inl (fun _ => 0))), (q7, .inl (dA 0, 80, .inl (fun _ => 0))), (q8, .inl (dA 0, 4096, .inl (fun _ => 0))), (q9, .inl (dA 0, 8, .inl (fun _ => 0))), (q10, .inl (dA 0, 4, .inl (fun _ => 0))), (q11, .inl (dA 0, 4, .inl (fun _ => 0))), (q12, .inl (dA 2, 160, .inr (.inl (fun _ => 0))))] := hD
  refine W.widen (k := 12) (n := 4739) (by omega) (by omega) ?_
  refine va_putF (D := D) (ci := 7) (v := .ref q12) (ty := .array .long) (C := RX7) (T := TX7) (N := 22) hx hb hts (tb_u inX7) tyX7 tyX7_ok nmX7 hown hK hP hD hS 0 rfl rfl 20 (by decide) (hts _ tw_956) (fun _ h9 => h9) rfl hin rfl (by decide +kernel) rfl rfl (Nat.le_of_ble_eq_true rfl) dX7_init_97 (fun H locs hP hD hS => ?_)
  have hP : va_P D vwCl [(h0, .inr (7, [.ref q1, .ref q2, .ref q3, .int 0, .ref q4, .ref q5, .int 0, .ref q6, .ref q7, .int 0, .ref q8, .int 0, .ref q9, .int 0, .int 0, .int 0, .long 0, .int 0, .ref q10, .ref q11, .ref q12, .null])), (q1, .inl (dA 0, 80, .inl (fun _ => 0))), (q2, .inl (dA 0, 80, .inl (fun _ => 0))), (q3, .inl (dA 0, 80, .inl (fun _ => 0))), (q4, .inl (dA 0, 7, .inl (fun _ => 0))), (q5, .inl (dA 1, 120, .inl (fun _ => 0))), (q6, .inl (dA 0, 20, .inl (fun _ => 0))), (q7, .inl (dA 0, 80, .inl (fun _ => 0))), (q8, .inl (dA 0, 4096, .inl (fun _ => 0))), (q9, .inl (dA 0, 8, .inl (fun _ => 0))), (q10, .inl (dA 0, 4, .inl (fun _ => 0))), (q11, .inl (dA 0, 4, .inl (fun _ => 0))), (q12, .inl (dA 2, 160, .inr (.inl (fun _ => 0))))] H := hP
  have hD : va_D A [(h0, .inr (7, [.ref q1, .ref q2, .ref q3, .int 0, .ref q4, .ref q5, .int 0, .ref q6, .ref q7, .int 0, .ref q8, .int 0, .ref q9, .int 0, .int 0, .int 0, .long 0, .int 0, .ref q10, .ref q11, .ref q12, .null])), (q1, .inl (dA 0, 80, .inl (fun _ => 0))), (q2, .inl (dA 0, 80, .inl (fun _ => 0))), (q3, .inl (dA 0, 80, .inl (fun _ => 0))), (q4, .inl (dA 0, 7, .inl (fun _ => 0))), (q5, .inl (dA 1, 120, .inl (fun _ => 0))), (q6, .inl (dA 0, 20, .inl (fun _ => 0))), (q7, .inl (dA 0, 80, .inl (fun _ => 0))), (q8, .inl (dA 0, 4096, .inl (fun _ => 0))), (q9, .inl (dA 0, 8, .inl (fun _ => 0))), (q10, .inl (dA 0, 4, .inl (fun _ => 0))), (q11, .inl (dA 0, 4, .inl (fun _ => 0))), (q12, .inl (dA 2, 160, .inr (.inl (fun _ => 0))))] := hD
  refine lv_aload_n hx hb dX7_init_100 rfl (lv_at hl 0 rfl) ?_
  refine lv_bipush (v := 40) hx hb dX7_init_101 (by decide) ?_
  refine va_newD (atype := .long) (ty := .long) hx hb (hts _ tw_293) rfl (fun _ z => by cases z) hK 2 rfl hP hD hS hA (a0 := (40, .inr (.inl (fun _ => 0)))) (N' := 40) (fun _ => rfl) (by decide) (by decide) (by decide) (Nat.le_of_ble_eq_true rfl) (Nat.le_of_ble_eq_true rfl) dX7_init_103 (fun q13 H hP hD hS => ?_)
  have hP : va_P D vwCl [(h0, .inr (7, [.ref q1, .ref q2, .ref q3, .int 0, .ref q4, .ref q5, .int 0, .ref q6, .ref q7, .int 0, .ref q8, .int 0, .ref q9, .int 0, .int 0, .int 0, .long 0, .int 0, .ref q10, .ref q11, .ref q12, .null])), (q1, .inl (dA 0, 80, .inl (fun _ => 0))), (q2, .inl (dA 0, 80, .inl (fun _ => 0))), (q3, .inl (dA 0, 80, .inl (fun _ => 0))), (q4, .inl (dA 0, 7, .inl (fun _ => 0))), (q5, .inl (dA 1, 120, .inl (fun _ => 0))), (q6, .inl (dA 0, 20, .inl (fun _ => 0))), (q7, .inl (dA 0, 80, .inl (fun _ => 0))), (q8, .inl (dA 0, 4096, .inl (fun _ => 0))), (q9, .inl (dA 0, 8, .inl (fun _ => 0))), (q10, .inl (dA 0, 4, .inl (fun _ => 0))), (q11, .inl (dA 0, 4, .inl (fun _ => 0))), (q12, .inl (dA 2, 160, .inr (.inl (fun _ => 0)))), (q13, .inl (dA 2, 40, .inr (.inl (fun _ => 0))))] H := hP
  have hD : va_D A [(h0, .inr (7, [.ref q1, .ref q2, .ref q3, .int 0, .ref q4, .ref q5, .int 0, .ref q6, .ref q7, .int 0, .ref q8, .int 0, .ref q9, .int 0, .int 0, .int 0, .long 0, .int 0, .ref q10, .ref q11, .ref q12, .null])), (q1, .inl (dA 0, 80, .inl (fun _ => 0))), (q2, .inl (dA 0, 80, .inl (fun _ => 0))), (q3, .inl (dA 0, 80, .inl (fun _ => 0))), (q4, .inl (dA 0, 7, .inl (fun _ => 0))), (q5, .inl (dA 1, 120, .inl (fun _ => 0))), (q6, .inl (dA 0, 20, .inl (fun _ => 0))), (q7, .inl (dA 0, 80, .inl (fun _ => 0))), (q8, .inl (dA 0, 4096, .inl (fun _ => 0))), (q9, .inl (dA 0, 8, .inl (fun _ => 0))), (q10, .inl (dA 0, 4, .inl (fun _ => 0))), (q11, .inl (dA 0, 4, .inl (fun _ => 0))), (q12, .inl (dA 2, 160, .inr (.inl (fun _ => 0)))), (q13, .inl (dA 2, 40, .inr (.inl (fun _ => 0))))] := hD
  refine W.widen (k := 13) (n := 4779) (by omega) (by omega) ?_
  refine va_putF (D := D) (ci := 7) (v := .ref q13) (ty := .array .long) (C := RX7) (T := TX7) (N := 22) hx hb hts (tb_u inX7) tyX7 tyX7_ok nmX7 hown hK hP hD hS 0 rfl rfl 21 (by decide) (hts _ tw_957) (fun _ h9 => h9) rfl hin rfl (by decide +kernel) rfl rfl (Nat.le_of_ble_eq_true rfl) dX7_init_105 (fun H locs hP hD hS => ?_)
  have hP : va_P D vwCl [(h0, .inr (7, [.ref q1, .ref q2, .ref q3, .int 0, .ref q4, .ref q5, .int 0, .ref q6, .ref q7, .int 0, .ref q8, .int 0, .ref q9, .int 0, .int 0, .int 0, .long 0, .int 0, .ref q10, .ref q11, .ref q12, .ref q13])), (q1, .inl (dA 0, 80, .inl (fun _ => 0))), (q2, .inl (dA 0, 80, .inl (fun _ => 0))), (q3, .inl (dA 0, 80, .inl (fun _ => 0))), (q4, .inl (dA 0, 7, .inl (fun _ => 0))), (q5, .inl (dA 1, 120, .inl (fun _ => 0))), (q6, .inl (dA 0, 20, .inl (fun _ => 0))), (q7, .inl (dA 0, 80, .inl (fun _ => 0))), (q8, .inl (dA 0, 4096, .inl (fun _ => 0))), (q9, .inl (dA 0, 8, .inl (fun _ => 0))), (q10, .inl (dA 0, 4, .inl (fun _ => 0))), (q11, .inl (dA 0, 4, .inl (fun _ => 0))), (q12, .inl (dA 2, 160, .inr (.inl (fun _ => 0)))), (q13, .inl (dA 2, 40, .inr (.inl (fun _ => 0))))] H := hP
  have hD : va_D A [(h0, .inr (7, [.ref q1, .ref q2, .ref q3, .int 0, .ref q4, .ref q5, .int 0, .ref q6, .ref q7, .int 0, .ref q8, .int 0, .ref q9, .int 0, .int 0, .int 0, .long 0, .int 0, .ref q10, .ref q11, .ref q12, .ref q13])), (q1, .inl (dA 0, 80, .inl (fun _ => 0))), (q2, .inl (dA 0, 80, .inl (fun _ => 0))), (q3, .inl (dA 0, 80, .inl (fun _ => 0))), (q4, .inl (dA 0, 7, .inl (fun _ => 0))), (q5, .inl (dA 1, 120, .inl (fun _ => 0))), (q6, .inl (dA 0, 20, .inl (fun _ => 0))), (q7, .inl (dA 0, 80, .inl (fun _ => 0))), (q8, .inl (dA 0, 4096, .inl (fun _ => 0))), (q9, .inl (dA 0, 8, .inl (fun _ => 0))), (q10, .inl (dA 0, 4, .inl (fun _ => 0))), (q11, .inl (dA 0, 4, .inl (fun _ => 0))), (q12, .inl (dA 2, 160, .inr (.inl (fun _ => 0)))), (q13, .inl (dA 2, 40, .inr (.inl (fun _ => 0))))] := hD
  refine lv_iconst (v := 0) hx hb dX7_init_108 (by decide) ?_
  refine lv_istore_n (lv' := [(1, .int 0), (0, .ref h0)]) hx hb dX7_init_109 rfl hl (by decide) rfl (fun ls hl => ?_)
  suffices lp : ∀ (n k : Nat), k + n = 16 → ∀ (H : Heap) (locs : List Loc) (ls : Array Slot), va_P D vwCl [(h0, .inr (7, [.ref q1, .ref q2, .ref q3, .int 0, .ref q4, .ref q5, .int 0, .ref q6, .ref q7, .int 0, .ref q8, .int 0, .ref q9, .int 0, .int 0, .int 0, .long 0, .int 0, .ref q10, .ref q11, .ref q12, .ref q13])), (q1, .inl (dA 0, 80, .inl (diF k))), (q2, .inl (dA 0, 80, .inl (fun _ => 0))), (q3, .inl (dA 0, 80, .inl (fun _ => 0))), (q4, .inl (dA 0, 7, .inl (fun _ => 0))), (q5, .inl (dA 1, 120, .inl (fun _ => 0))), (q6, .inl (dA 0, 20, .inl (fun _ => 0))), (q7, .inl (dA 0, 80, .inl (fun _ => 0))), (q8, .inl (dA 0, 4096, .inl (fun _ => 0))), (q9, .inl (dA 0, 8, .inl (fun _ => 0))), (q10, .inl (dA 0, 4, .inl (fun _ => 0))), (q11, .inl (dA 0, 4, .inl (fun _ => 0))), (q12, .inl (dA 2, 160, .inr (.inl (fun _ => 0)))), (q13, .inl (dA 2, 40, .inr (.inl (fun _ => 0))))] H → va_D A [(h0, .inr (7, [.ref q1, .ref q2, .ref q3, .int 0, .ref q4, .ref q5, .int 0, .ref q6, .ref q7, .int 0, .ref q8, .int 0, .ref q9, .int 0, .int 0, .int 0, .long 0, .int 0, .ref q10, .ref q11, .ref q12, .ref q13])), (q1, .inl (dA 0, 80, .inl (diF k))), (q2, .inl (dA 0, 80, .inl (fun _ => 0))), (q3, .inl (dA 0, 80, .inl (fun _ => 0))), (q4, .inl (dA 0, 7, .inl (fun _ => 0))), (q5, .inl (dA 1, 120, .inl (fun _ => 0))), (q6, .inl (dA 0, 20, .inl (fun _ => 0))), (q7, .inl (dA 0, 80, .inl (fun _ => 0))), (q8, .inl (dA 0, 4096, .inl (fun _ => 0))), (q9, .inl (dA 0, 8, .inl (fun _ => 0))), (q10, .inl (dA 0, 4, .inl (fun _ => 0))), (q11, .inl (dA 0, 4, .inl (fun _ => 0))), (q12, .inl (dA 2, 160, .inr (.inl (fun _ => 0)))), (q13, .inl (dA 2, 40, .inr (.inl (fun _ => 0))))] → va_S A s.heap H locs → lv_has ls 2 [(1, .int (nI k)), (0, .ref h0)] → W p l e _ s m _ below meth c H locs 13 4779 _ (F0 m 110 ls []) from lp 16 0 rfl H locs ls hP hD hS hl
  clear hP hD hS hl
  intro n
  induction n with
  | zero =>
    intro k hk H locs ls hP hD hS hl
    obtain rfl : k = 16 := by omega
    refine lv_iload_n hx hb dX7_init_110 rfl (lv_at hl 0 rfl) ?_
    refine lv_bipush (v := nI 16) hx hb dX7_init_111 (by decide) ?_
    refine lv_icmp_ge (tgt := 135) hx hb dX7_init_113 (by decide) (fun _ => ?_) (fun z => absurd (Int32.le_refl _) z)
    exact W.vret hx hb hr (fun t ht hW => ⟨⟨(), rfl, trivial, q1, q2, q3, q4, q5, q6, q7, q8, q9, q10, q11, q12, q13, by rw [ht]; exact hP, va_K.moved hW.alike hK, hD⟩, hS.F ht⟩) hS.2.2 dX7_init_135
  | succ n ih =>
    intro k hk H locs ls hP hD hS hl
    have k16 : k < 16 := by omega
    refine lv_iload_n hx hb dX7_init_110 rfl (lv_at hl 0 rfl) ?_
    refine lv_bipush (v := nI 16) hx hb dX7_init_111 (by decide) ?_
    refine lv_icmp_ge (tgt := 135) hx hb dX7_init_113 (by decide) (fun z => absurd z (nI_ge k16 (by decide))) (fun _ => ?_)
    refine lv_aload_n hx hb dX7_init_116 rfl (lv_at hl 1 rfl) ?_
    refine va_get (D := D) (ci := 7) (v := .ref q1) (C := RX7) (T := TX7) (N := 22) hx hb hts (tb_u inX7) hown hK hP 0 rfl rfl 0 (by decide) (hts _ tw_936) (fun _ h9 => h9) rfl dX7_init_117 ?_
    refine lv_bipush (v := nI 24) hx hb dX7_init_120 (by decide) ?_
    refine lv_iload_n hx hb dX7_init_122 rfl (lv_at hl 0 rfl) ?_
    refine lv_iadd hx hb dX7_init_123 ?_
    refine lv_iload_n hx hb dX7_init_124 rfl (lv_at hl 0 rfl) ?_
    refine lv_bipush (v := nI 8) hx hb dX7_init_125 (by decide) ?_
    refine lv_irem hx hb dX7_init_127 (by decide) ?_
    rw [pk_rem (by omega) (by decide) (by decide), nI_add]
    refine va_iast hx hb hK hP hD hS 1 0 rfl rfl (vp_in_nI (by omega) (by decide)) dX7_init_128 (fun H locs hP hD hS => ?_)
    rw [nI_clamp (by omega)] at hP hD
    have hP : va_P D vwCl [(h0, .inr (7, [.ref q1, .ref q2, .ref q3, .int 0, .ref q4, .ref q5, .int 0, .ref q6, .ref q7, .int 0, .ref q8, .int 0, .ref q9, .int 0, .int 0, .int 0, .long 0, .int 0, .ref q10, .ref q11, .ref q12, .ref q13])), (q1, .inl (dA 0, 80, .inl (diF (k + 1)))), (q2, .inl (dA 0, 80, .inl (fun _ => 0))), (q3, .inl (dA 0, 80, .inl (fun _ => 0))), (q4, .inl (dA 0, 7, .inl (fun _ => 0))), (q5, .inl (dA 1, 120, .inl (fun _ => 0))), (q6, .inl (dA 0, 20, .inl (fun _ => 0))), (q7, .inl (dA 0, 80, .inl (fun _ => 0))), (q8, .inl (dA 0, 4096, .inl (fun _ => 0))), (q9, .inl (dA 0, 8, .inl (fun _ => 0))), (q10, .inl (dA 0, 4, .inl (fun _ => 0))), (q11, .inl (dA 0, 4, .inl (fun _ => 0))), (q12, .inl (dA 2, 160, .inr (.inl (fun _ => 0)))), (q13, .inl (dA 2, 40, .inr (.inl (fun _ => 0))))] H := hP
    have hD : va_D A [(h0, .inr (7, [.ref q1, .ref q2, .ref q3, .int 0, .ref q4, .ref q5, .int 0, .ref q6, .ref q7, .int 0, .ref q8, .int 0, .ref q9, .int 0, .int 0, .int 0, .long 0, .int 0, .ref q10, .ref q11, .ref q12, .ref q13])), (q1, .inl (dA 0, 80, .inl (diF (k + 1)))), (q2, .inl (dA 0, 80, .inl (fun _ => 0))), (q3, .inl (dA 0, 80, .inl (fun _ => 0))), (q4, .inl (dA 0, 7, .inl (fun _ => 0))), (q5, .inl (dA 1, 120, .inl (fun _ => 0))), (q6, .inl (dA 0, 20, .inl (fun _ => 0))), (q7, .inl (dA 0, 80, .inl (fun _ => 0))), (q8, .inl (dA 0, 4096, .inl (fun _ => 0))), (q9, .inl (dA 0, 8, .inl (fun _ => 0))), (q10, .inl (dA 0, 4, .inl (fun _ => 0))), (q11, .inl (dA 0, 4, .inl (fun _ => 0))), (q12, .inl (dA 2, 160, .inr (.inl (fun _ => 0)))), (q13, .inl (dA 2, 40, .inr (.inl (fun _ => 0))))] := hD
    refine lv_iinc (v := nI (k + 1)) (lv' := [(1, .int (nI (k + 1))), (0, .ref h0)]) hx hb dX7_init_129 hl (k := 0) rfl (nI_1 k) (by decide) rfl (fun ls hl => ?_)
    refine lv_goto (tgt := 110) hx hb dX7_init_132 (by decide) ?_
    exact ih (k + 1) (by omega) H locs ls hP hD hS hl
end CTO
