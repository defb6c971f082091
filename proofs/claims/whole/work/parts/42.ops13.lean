/-! write, copy -/
section OPS13
variable {X : Xs} {h : Hp} {x y z : Int32} {Q : Qt} {V : Vw} {s b n : Nat}
theorem inv_num (I : Inv h) {s i : Nat} (hs : s < 4) (hi : i < 40) (w : Int64) : Inv (h.1, up2 (up2 h.2 (49 + s) i w) 64 (40 * s + i) w) := by
  obtain ⟨V, v, rn, rm, ik, ir, it, is⟩ := id I
  refine inv_sh I (fun c _ _ _ _ => rfl) (fun t ht => ?_)
  obtain ⟨b', n', q1, q2, q3, q4, q5, q6, q7, q8⟩ := is t ht
  refine ⟨b', n', q1, q2, q3, q4, q5, q6, q7, fun j hj => ?_⟩
  show up2 (up2 h.2 (49 + s) i w) 64 (40 * s + i) w (49 + t) j = up2 (up2 h.2 (49 + s) i w) 64 (40 * s + i) w 64 (40 * t + j)
  rw [up2_ne (show 49 + t ≠ 64 by omega)]
  by_cases e : t = s
  · subst e
    by_cases e2 : j = i
    · subst e2
      rw [u_at, u_at]
    · rw [u_ne e2, u_ne (by omega), up2_ne (show 64 ≠ 49 + t by omega)]
      exact q8 j hj
  · rw [up2_ne (show 49 + t ≠ 49 + s by omega), u_ne (by omega), up2_ne (show 64 ≠ 49 + s by omega)]
    exact q8 j hj
theorem b_cases {b : Nat} (h : b = 0 ∨ b = 8 ∨ b = 16 ∨ b = 64) (e : b ≠ 0) : (b = 8 ∨ b = 16 ∨ b = 64) ∧ b ≤ 64 := by omega
theorem op_write (I : Inv h) {v : Int64} : Both X m_X6_write m_X7_write [.ref 0, .int x, .int y, .long v, .null, .null, .null, .null] [.ref 1, .int x, .int y, .long v, .null, .null, .null, .null] h := by
  obtain ⟨V, vv, rn, rm, ik, ir, it, is⟩ := id I
  unfold Both
  by_cases p1 : 0 ≤ x.toInt ∧ x.toInt < 4
  case neg =>
    refine vg (t_nf_bad p1 (vg (br_f (by decide) (t_refuse 0 (by decide) (by decide) ?_))))
    refine vg (vg (t_wnn_bad p1 (vg (br_f (by decide) (t_findsN 0 (by decide) rfl ?_)))))
    exact vg ⟨rfl, inv_ref I (by decide)⟩
  obtain ⟨s, hs, rfl⟩ := nI_ex (n := 4) p1.1 (by omega) (by decide)
  obtain ⟨b, n, q1, q2, q3, q4, q5, q6, q7, q8⟩ := is s hs
  by_cases p2 : b = 0
  · subst p2
    refine vg (t_nf_mis hs q4 (vg (br_f (by decide) (t_refuse 5 (by decide) (by decide) ?_))))
    refine vg (vg (t_wnn_mis hs q5 (vg (br_f (by decide) (t_findsN 5 (by decide) rfl ?_)))))
    exact vg ⟨rfl, inv_ref I (by decide)⟩
  obtain ⟨hb, hb2⟩ := b_cases q1 p2
  by_cases p3 : 0 ≤ y.toInt ∧ y.toInt < n
  case neg =>
    refine vg (t_nf_out hs q4 p2 hb2 q6 q2 p3 (vg (br_f (by decide) (t_refuse 0 (by decide) (by decide) ?_))))
    refine vg (vg (t_wnn_in hs q5 p2 hb2 q7 q2 (fun z => absurd z p3) (fun _ => vg (br_f (by decide) (t_findsN 0 (by decide) rfl ?_)))))
    exact vg ⟨rfl, inv_ref I (by decide)⟩
  obtain ⟨i, hi, rfl⟩ := nI_ex (n := n) p3.1 (by omega) (by omega)
  refine vg (t_nf_ok hs q4 p2 hb2 q6 q2 hi ?_)
  have key : BQ X m_X7_write [.ref 1, .int (nI s), .int (nI i), .long v, .null, .null, .null, .null] (some (.long (h.2 (49 + s) i))) (h.1, up2 h.2 (49 + s) i (putV b v)) := by
    have ei : nI 40 * nI s + nI i = nI (40 * s + i) := by rw [pk_mul, nI_add]
    refine vg (t_wnn_in (h := (h.1, up2 h.2 (49 + s) i (putV b v))) hs q5 p2 hb2 q7 q2 (fun _ => vg (br_t (by decide) ⟨40 * s + i, ei, by omega, ?_⟩)) (fun z => absurd p3 z))
    refine t_puts (h := (h.1, up2 h.2 (49 + s) i (putV b v))) hs q5 hb (by omega) (vg ⟨?_, inv_num I hs (by omega) _⟩)
    show some (Value.long (up2 h.2 (49 + s) i (putV b v) 64 (40 * s + i))) = _
    rw [up2_ne (by omega), q8 i hi]
  have kk : Go X m_X3_put 0 [.ref (9 + s), .int (nI i), .long v, .null, .null] [] h (fun r h' => Go X m_X6_write 45 [.ref 0, .int (nI s), .int (nI i), .long v, .null, .int 0, .long (h.2 (49 + s) i), .null] (pushO r []) h' (BQ X m_X7_write [.ref 1, .int (nI s), .int (nI i), .long v, .null, .null, .null, .null])) :=
    t_putS hs q4 hb (by omega) (vg key)
  clear key q8 q4 q5 q6 q7
  rcases s4 hs with rfl | rfl | rfl | rfl
  · exact vg (br_t rfl ⟨0, rfl, by decide, i, rfl, by omega, 0, rfl, by decide, kk⟩)
  · exact vg (br_t rfl ⟨1, rfl, by decide, i, rfl, by omega, 1, rfl, by decide, kk⟩)
  · exact vg (br_t rfl ⟨2, rfl, by decide, i, rfl, by omega, 2, rfl, by decide, kk⟩)
  · exact vg (br_t rfl ⟨3, rfl, by decide, i, rfl, by omega, 3, rfl, by decide, kk⟩)
-- ===== copy
def rgP (fr k : Int32) (n : Nat) : Prop := 0 ≤ fr.toInt ∧ 0 ≤ k.toInt ∧ fr.toInt + k.toInt ≤ n
theorem t_hasRange (hs : s < 4) (e : h.1 (9 + s) 1 = nI n) (hn : n ≤ 40) (a : rgP x y n → Q (some (.int 1)) h) (c : ¬ rgP x y n → Q (some (.int 0)) h) : Go X m_X3_hasRange 0 [.ref (9 + s), .int x, .int y] [] h Q := by
  have k : ∀ A : Prop, ∀ B : Prop, (Q (some (.int 1)) h → A) → (Q (some (.int 0)) h → B) → ((x < 0 → B) ∧ (¬ x < 0 → (y < 0 → B) ∧ (¬ y < 0 → (h.1 (9 + s) 1 < y → B) ∧ (¬ h.1 (9 + s) 1 < y → (h.1 (9 + s) 1 - y < x → B) ∧ (¬ h.1 (9 + s) 1 - y < x → A))))) := by
    intro A B fa fb
    rw [e, i_lt, i0, i_lt, i0, i_lt, nT (by omega)]
    refine ⟨fun z => fb (c (fun w => ?_)), fun n0 => ⟨fun z => fb (c (fun w => ?_)), fun n1 => ⟨fun z => fb (c (fun w => ?_)), fun n2 => ?_⟩⟩⟩
    · have := w.1; omega
    · have := w.2.1; omega
    · have := w.2.2; have := w.1; omega
    · obtain ⟨m, hm, rfl⟩ := nI_ex (x := y) (n := n + 1) (by omega) (by omega) (by omega)
      rw [pk_sub (by omega), i_lt, nT (by omega)]
      have em : (nI m).toInt = m := nT (by omega)
      refine ⟨fun z => fb (c (fun w => ?_)), fun z => fa (a ⟨by omega, by omega, ?_⟩)⟩
      · have := w.2.2; omega
      · omega
  have k2 := k (Go X m_X3_hasRange 26 [.ref (9 + s), .int x, .int y] [] h Q) (Go X m_X3_hasRange 30 [.ref (9 + s), .int x, .int y] [] h Q) (fun q => vg ⟨Or.inr rfl, q⟩) (fun q => vg ⟨Or.inl rfl, q⟩)
  clear e k
  rcases s4 hs with rfl | rfl | rfl | rfl <;> exact vc_ok (st := [26, 30]) 100 k2
end OPS13
