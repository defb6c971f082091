/-! the text: the class reads all items -/
section INT
variable {X : Xs} {h : Hp} {Q : Qt} {n : Nat} {B : Nat → Nat} {V : Vw} {F : Nat → Nat → Int32} {g : Nat → Nat → Int64}
theorem kw_1 {s k m i : Nat} (e : eqW B s k (3 + i) = true) : kwF B s k (m + 1) i = i := by
  show (if eqW B s k (3 + i) = true then i else kwF B s k m (i + 1)) = _
  rw [if_pos e]
theorem kw_0 {s k m i : Nat} (e : ¬ eqW B s k (3 + i) = true) : kwF B s k (m + 1) i = kwF B s k m (i + 1) := by
  show (if eqW B s k (3 + i) = true then i else kwF B s k m (i + 1)) = _
  rw [if_neg e]
theorem t_readItem (hn : n ≤ 120) (hB : ∀ i, i < n → B i < 256) (v : okV V) {p : Nat} (hp : p ≤ n) (tb : TB n B h.1) (h0 : h.1 8 0 = nI n) (ct : CT n B p h.1) (rd : RD V h) (q : ∀ (r : Int32) (f : Nat → Nat → Int32), icC n B (itm n B V p) r f h.2 → DF f h.1 → Q (some (.int r)) (f, h.2)) : Go X m_X4_readItem 0 [.ref 8, .ref 4, .null] [] h Q := by
  have z := eZ_b (n := n) (B := B) hp
  have bit : ∀ {res : Rs} {r : Int32} {f : Nat → Nat → Int32}, icC n B res r f h.2 → r = 0 ∨ r = 1 := fun c => by
    rcases c.2.2.2 with ⟨_, e, _⟩ | ⟨_, e | ⟨e, _⟩⟩
    · exact Or.inr e
    · exact Or.inl e
    · exact Or.inr e
  have k1 := ct_k ct (k := 1) (by decide) (by decide) (by decide)
  unfold itm at q
  by_cases c : toR n B p = 1
  case neg =>
    rw [if_neg c] at q
    exact vg (br_f (fun w => c (k1.mp w)) ⟨Or.inl rfl, q 0 h.1 ⟨tb, h0, ct, Or.inr ⟨rfl, Or.inl rfl⟩⟩ (fun _ _ _ _ => rfl)⟩)
  rw [if_pos c] at q
  refine vg (br_t (k1.mpr c) ?_)
  refine t_isWord_0 hn hB tb z.2.1 z.2.2.1 ct.1 ct.2.1 (fun w => ?_) (fun w0 => ?_)
  · rw [if_pos w] at q
    exact vg (br_f (by decide) (t_readCard hn hB v hp tb h0 ct rd (fun r f ic df => vg ⟨bit ic, q r f ic df⟩)))
  rw [if_neg w0] at q
  refine vg (br_t rfl (t_isWord_1 hn hB tb z.2.1 z.2.2.1 ct.1 ct.2.1 (fun w => ?_) (fun w1 => ?_)))
  · rw [if_pos w] at q
    exact vg (br_f (by decide) (t_readTie hn hB hp tb h0 ct rd (fun r f ic df => vg ⟨bit ic, q r f ic df⟩)))
  rw [if_neg w1] at q
  refine vg (br_t rfl (t_isWord_2 hn hB tb z.2.1 z.2.2.1 ct.1 ct.2.1 (fun w => ?_) (fun w2 => ?_)))
  · rw [if_pos w] at q
    exact vg (br_f (by decide) (t_readOrder hn hB v hp tb h0 ct rd (fun r f ic df => vg ⟨bit ic, q r f ic df⟩)))
  rw [if_neg w2] at q
  refine vc_ok (st := [57]) 100 (br_t rfl ?_)
  show Go X m_X4_readItem 57 [.ref 8, .ref 4, .int (nI 0)] [] h Q
  refine vg (br_f (by decide) (t_nameOf_0 (vg (t_isWord_3 hn hB tb z.2.1 z.2.2.1 ct.1 ct.2.1 (fun w => ?_) (fun w3 => ?_)))))
  · have e : kwN n B p = 0 := by
      show kwF B (sk n B p) (eZ n B p - sk n B p) 6 0 = 0
      rw [kw_1 w]
    rw [e, if_pos (by decide)] at q
    exact vg (br_f (by decide) (t_readLaw hn hB v hp tb h0 ct rd (fun r f ic df => vg ⟨bit ic, q r f ic df⟩)))
  refine vc_ok (st := [57]) 100 (br_t rfl ?_)
  show Go X m_X4_readItem 57 [.ref 8, .ref 4, .int (nI 1)] [] h Q
  refine vg (br_f (by decide) (t_nameOf_1 (vg (t_isWord_4 hn hB tb z.2.1 z.2.2.1 ct.1 ct.2.1 (fun w => ?_) (fun w4 => ?_)))))
  · have e : kwN n B p = 1 := by
      show kwF B (sk n B p) (eZ n B p - sk n B p) 6 0 = 1
      rw [kw_0 w3, kw_1 w]
    rw [e, if_pos (by decide)] at q
    exact vg (br_f (by decide) (t_readLaw hn hB v hp tb h0 ct rd (fun r f ic df => vg ⟨bit ic, q r f ic df⟩)))
  refine vc_ok (st := [57]) 100 (br_t rfl ?_)
  show Go X m_X4_readItem 57 [.ref 8, .ref 4, .int (nI 2)] [] h Q
  refine vg (br_f (by decide) (t_nameOf_2 (vg (t_isWord_5 hn hB tb z.2.1 z.2.2.1 ct.1 ct.2.1 (fun w => ?_) (fun w5 => ?_)))))
  · have e : kwN n B p = 2 := by
      show kwF B (sk n B p) (eZ n B p - sk n B p) 6 0 = 2
      rw [kw_0 w3, kw_0 w4, kw_1 w]
    rw [e, if_pos (by decide)] at q
    exact vg (br_f (by decide) (t_readLaw hn hB v hp tb h0 ct rd (fun r f ic df => vg ⟨bit ic, q r f ic df⟩)))
  refine vc_ok (st := [57]) 100 (br_t rfl ?_)
  show Go X m_X4_readItem 57 [.ref 8, .ref 4, .int (nI 3)] [] h Q
  refine vg (br_f (by decide) (t_nameOf_3 (vg (t_isWord_6 hn hB tb z.2.1 z.2.2.1 ct.1 ct.2.1 (fun w => ?_) (fun w6 => ?_)))))
  · have e : kwN n B p = 3 := by
      show kwF B (sk n B p) (eZ n B p - sk n B p) 6 0 = 3
      rw [kw_0 w3, kw_0 w4, kw_0 w5, kw_1 w]
    rw [e, if_pos (by decide)] at q
    exact vg (br_f (by decide) (t_readLaw hn hB v hp tb h0 ct rd (fun r f ic df => vg ⟨bit ic, q r f ic df⟩)))
  refine vc_ok (st := [57]) 100 (br_t rfl ?_)
  show Go X m_X4_readItem 57 [.ref 8, .ref 4, .int (nI 4)] [] h Q
  refine vg (br_f (by decide) (t_nameOf_4 (vg (t_isWord_7 hn hB tb z.2.1 z.2.2.1 ct.1 ct.2.1 (fun w => ?_) (fun w7 => ?_)))))
  · have e : kwN n B p = 4 := by
      show kwF B (sk n B p) (eZ n B p - sk n B p) 6 0 = 4
      rw [kw_0 w3, kw_0 w4, kw_0 w5, kw_0 w6, kw_1 w]
    rw [e, if_pos (by decide)] at q
    exact vg (br_f (by decide) (t_readLaw hn hB v hp tb h0 ct rd (fun r f ic df => vg ⟨bit ic, q r f ic df⟩)))
  refine vc_ok (st := [57]) 100 (br_t rfl ?_)
  show Go X m_X4_readItem 57 [.ref 8, .ref 4, .int (nI 5)] [] h Q
  refine vg (br_f (by decide) (t_nameOf_5 (vg (t_isWord_8 hn hB tb z.2.1 z.2.2.1 ct.1 ct.2.1 (fun w => ?_) (fun w8 => ?_)))))
  · have e : kwN n B p = 5 := by
      show kwF B (sk n B p) (eZ n B p - sk n B p) 6 0 = 5
      rw [kw_0 w3, kw_0 w4, kw_0 w5, kw_0 w6, kw_0 w7, kw_1 w]
    rw [e, if_pos (by decide)] at q
    exact vg (br_f (by decide) (t_readLaw hn hB v hp tb h0 ct rd (fun r f ic df => vg ⟨bit ic, q r f ic df⟩)))
  refine vc_ok (st := [57]) 100 (br_t rfl ?_)
  show Go X m_X4_readItem 57 [.ref 8, .ref 4, .int (nI 6)] [] h Q
  have e : kwN n B p = 6 := by
    show kwF B (sk n B p) (eZ n B p - sk n B p) 6 0 = 6
    rw [kw_0 w3, kw_0 w4, kw_0 w5, kw_0 w6, kw_0 w7, kw_0 w8]
    rfl
  rw [e, if_neg (by decide)] at q
  exact vg (br_t (by decide) ⟨Or.inl rfl, q 0 h.1 ⟨tb, h0, ct, Or.inr ⟨rfl, Or.inl rfl⟩⟩ (fun _ _ _ _ => rfl)⟩)
theorem its_1 {m k p : Nat} (e : (itm n B V p).1 = true) (t : toR n B (itm n B V p).2.2 = 0) : itsF n B (m + 1) k V p = (true, (itm n B V p).2.1, k) := by
  show (if (itm n B V p).1 = true then (if toR n B (itm n B V p).2.2 = 0 then (true, (itm n B V p).2.1, k) else if toR n B (itm n B V p).2.2 = 4 then itsF n B m (k + 1) (itm n B V p).2.1 (eZ n B (itm n B V p).2.2) else (false, (itm n B V p).2.1, (itm n B V p).2.2)) else (false, (itm n B V p).2.1, (itm n B V p).2.2)) = _
  rw [if_pos e, if_pos t]
theorem its_2 {m k p : Nat} (e : (itm n B V p).1 = true) (t : toR n B (itm n B V p).2.2 = 4) : itsF n B (m + 1) k V p = itsF n B m (k + 1) (itm n B V p).2.1 (eZ n B (itm n B V p).2.2) := by
  show (if (itm n B V p).1 = true then (if toR n B (itm n B V p).2.2 = 0 then (true, (itm n B V p).2.1, k) else if toR n B (itm n B V p).2.2 = 4 then itsF n B m (k + 1) (itm n B V p).2.1 (eZ n B (itm n B V p).2.2) else (false, (itm n B V p).2.1, (itm n B V p).2.2)) else (false, (itm n B V p).2.1, (itm n B V p).2.2)) = _
  rw [if_pos e, if_neg (by omega), if_pos t]
theorem its_3 {m k p : Nat} (e : (itm n B V p).1 = true) (t0 : ¬ toR n B (itm n B V p).2.2 = 0) (t4 : ¬ toR n B (itm n B V p).2.2 = 4) : itsF n B (m + 1) k V p = (false, (itm n B V p).2.1, (itm n B V p).2.2) := by
  show (if (itm n B V p).1 = true then (if toR n B (itm n B V p).2.2 = 0 then (true, (itm n B V p).2.1, k) else if toR n B (itm n B V p).2.2 = 4 then itsF n B m (k + 1) (itm n B V p).2.1 (eZ n B (itm n B V p).2.2) else (false, (itm n B V p).2.1, (itm n B V p).2.2)) else (false, (itm n B V p).2.1, (itm n B V p).2.2)) = _
  rw [if_pos e, if_neg t0, if_neg t4]
theorem its_4 {m k p : Nat} (e : (itm n B V p).1 = false) : itsF n B (m + 1) k V p = (false, (itm n B V p).2.1, (itm n B V p).2.2) := by
  show (if (itm n B V p).1 = true then (if toR n B (itm n B V p).2.2 = 0 then (true, (itm n B V p).2.1, k) else if toR n B (itm n B V p).2.2 = 4 then itsF n B m (k + 1) (itm n B V p).2.1 (eZ n B (itm n B V p).2.2) else (false, (itm n B V p).2.1, (itm n B V p).2.2)) else (false, (itm n B V p).2.1, (itm n B V p).2.2)) = _
  rw [if_neg (by rw [e]; decide)]
/-- what is taken is good; what is wrong stands on the tape -/
theorem its_ok (hn : n ≤ 120) : ∀ (m k : Nat) (V : Vw) (p : Nat), okV V → p ≤ n → n - p < m → 1 ≤ k → 2 * (k - 1) ≤ p → ((itsF n B m k V p).1 = true → okV (itsF n B m k V p).2.1 ∧ 1 ≤ (itsF n B m k V p).2.2 ∧ (itsF n B m k V p).2.2 ≤ 61) ∧ ((itsF n B m k V p).1 = false → (itsF n B m k V p).2.2 ≤ n)
  | 0, k, V, p, v, hp, hm, hk, h2 => absurd hm (by omega)
  | m + 1, k, V, p, v, hp, hm, hk, h2 => by
    obtain ⟨g1, g2, g3⟩ := itm_ok (n := n) (B := B) v hp
    cases e : (itm n B V p).1 with
    | false =>
      rw [its_4 e]
      exact ⟨fun w => Bool.noConfusion w, fun _ => g1⟩
    | true =>
      obtain ⟨o1, o2⟩ := g3 e
      by_cases t0 : toR n B (itm n B V p).2.2 = 0
      · rw [its_1 e t0]
        exact ⟨fun _ => ⟨o1, hk, by show k ≤ 61; omega⟩, fun w => Bool.noConfusion w⟩
      · by_cases t4 : toR n B (itm n B V p).2.2 = 4
        · rw [its_2 e t4]
          have z := eZ_b (n := n) (B := B) g1
          have lt := z.2.2.2 t0
          exact its_ok hn m (k + 1) _ _ o1 z.2.2.1 (by omega) (by omega) (by omega)
        · rw [its_3 e t0 t4]
          exact ⟨fun w => Bool.noConfusion w, fun _ => g1⟩
theorem t_intoL (hn : n ≤ 120) (hB : ∀ i, i < n → B i < 256) : ∀ (m k : Nat) (V : Vw) (p : Nat) (f : Nat → Nat → Int32), okV V → p ≤ n → n - p < m → 1 ≤ k → 2 * (k - 1) ≤ p → TB n B f → f 8 0 = nI n → f 8 4 = nI p → RD V (f, g) → DF f F → ((itsF n B m k V p).1 = true → ∀ f : Nat → Nat → Int32, RD (itsF n B m k V p).2.1 (f, g) → DF f F → Q (some (.int (nI (itsF n B m k V p).2.2))) (f, g)) → ((itsF n B m k V p).1 = false → ∀ f : Nat → Nat → Int32, DF f F → Q (some (.int (-1 - nI (sk n B (itsF n B m k V p).2.2)))) (f, g)) → Go X m_X4_readInto 7 [.ref 8, .ref 4, .int (nI k)] [] (f, g) Q
  | 0, k, V, p, f, v, hp, hm, hk, h2, tb, f0, f4, rd, df, qa, qb => absurd hm (by omega)
  | m + 1, k, V, p, f, v, hp, hm, hk, h2, tb, f0, f4, rd, df, qa, qb => by
    obtain ⟨g1, g2, g3⟩ := itm_ok (n := n) (B := B) v hp
    refine vg (br_f (show ¬ nI 120 < nI k from nI_nlt (by omega) (by omega)) (t_adv (h := (f, g)) hn hB tb hp f0 f4 (fun f1 c1 f10 fo1 => vg ?_)))
    have fo1 : ∀ c, c ≠ 8 → f1 c = f c := fo1
    have df1 : DF f1 F := fun c c4 c8 cr => (fo1 c c8).trans (df c c4 c8 cr)
    refine t_readItem (h := (f1, g)) hn hB v hp (show TB n B f1 by unfold TB; rw [fo1 48 (by decide)]; exact tb) f10 c1 (rd_8 rd fo1) (fun r f2 ic df2 => ?_)
    have df2 : DF f2 F := fun c c4 c8 cr => (df2 c c4 c8 cr).trans (df1 c c4 c8 cr)
    obtain ⟨tb2, f20, ct2, alt⟩ := ic
    have f20 : f2 8 0 = nI n := f20
    have k0 := ct_k ct2 (k := 0) (by decide) (by decide) (by decide)
    have k4 := ct_k ct2 (k := 4) (by decide) (by decide) (by decide)
    have e3 : f2 8 3 = nI (sk n B (itm n B V p).2.2) := ct2.1
    have wr : ∀ {W : Vw}, itsF n B (m + 1) k V p = (false, W, (itm n B V p).2.2) → Q (some (.int (-1 - f2 8 3))) (f2, g) := fun e => by
      rw [e] at qb
      rw [e3]
      exact qb rfl f2 df2
    rcases alt with ⟨e, rfl, rd2⟩ | ⟨e, rfl | ⟨rfl, t5⟩⟩
    · obtain ⟨o1, o2⟩ := g3 e
      by_cases t0 : toR n B (itm n B V p).2.2 = 0
      · rw [its_1 e t0] at qa
        exact vg (brn_t (by decide) (brn_f (k0.mpr t0) (qa rfl f2 rd2 df2)))
      · by_cases t4 : toR n B (itm n B V p).2.2 = 4
        · rw [its_2 e t4] at qa qb
          have z := eZ_b (n := n) (B := B) g1
          have lt := z.2.2.2 t0
          have nx := t_intoL hn hB m (k + 1) _ _ f2 o1 z.2.2.1 (by omega) (by omega) (by omega) tb2 f20 ct2.2.1 rd2 df2 qa qb
          rw [← nI_1] at nx
          exact vc_ok (st := [7]) 100 (brn_t (by decide) (brn_t (fun w => t0 (k0.mp w)) (br_t (k4.mpr t4) nx)))
        · exact vg (brn_t (by decide) (brn_t (fun w => t0 (k0.mp w)) (br_f (fun w => t4 (k4.mp w)) (wr (its_3 e t0 t4)))))
    · exact vg (brn_f rfl (wr (its_4 e)))
    · have c0 : ¬ toR n B (itm n B V p).2.2 = 0 := fun w => by
        have := (tp_o (n := n) (B := B) (k := 0) (by decide) (by decide)).mpr w
        omega
      have c4 : ¬ toR n B (itm n B V p).2.2 = 4 := fun w => by
        have := (tp_o (n := n) (B := B) (k := 4) (by decide) (by decide)).mpr w
        omega
      exact vg (brn_t (by decide) (brn_t (fun w => c0 (k0.mp w)) (br_f (fun w => c4 (k4.mp w)) (wr (its_4 e)))))
theorem t_readInto (hn : n ≤ 120) (hB : ∀ i, i < n → B i < 256) (v : okV V) (tb : TB n B h.1) (h0 : h.1 8 0 = nI n) (rd : RD V h) (qa : (itsF n B 121 1 V 0).1 = true → ∀ f : Nat → Nat → Int32, RD (itsF n B 121 1 V 0).2.1 (f, h.2) → DF f h.1 → Q (some (.int (nI (itsF n B 121 1 V 0).2.2))) (f, h.2)) (qb : (itsF n B 121 1 V 0).1 = false → ∀ f : Nat → Nat → Int32, DF f h.1 → Q (some (.int (-1 - nI (sk n B (itsF n B 121 1 V 0).2.2)))) (f, h.2)) : Go X m_X4_readInto 0 [.ref 8, .ref 4, .null] [] h Q := by
  refine vc_ok (st := [7]) 100 ?_
  exact t_intoL (F := h.1) (g := h.2) hn hB 121 1 V 0 (up2 h.1 8 4 (nI 0)) v (Nat.zero_le _) (by omega) (by omega) (by omega) tb (by rw [u_ne (by decide)]; exact h0) u_at rd (fun c c4 c8 cr => up2_ne c8) qa qb
end INT
