/-! looms that become others; the reference's copies -/
/-- the first k places of a row are another's -/
def cpK (f : Nat → Nat → Int32) (to fr k : Nat) : Nat → Nat → Int32 := fun c j => if c = to then (if j < k then f fr j else f c j) else f c j
theorem cpK_0 {f : Nat → Nat → Int32} {to fr : Nat} : cpK f to fr 0 = f := by
  funext c j
  simp [cpK]
theorem cpK_s {f : Nat → Nat → Int32} {to fr k : Nat} : up2 (cpK f to fr k) to k (f fr k) = cpK f to fr (k + 1) := by
  funext c j
  unfold up2 cpK
  by_cases h1 : c = to
  · subst h1
    by_cases h2 : j = k
    · subst h2; simp
    · by_cases h3 : j < k
      · simp [h2, h3, show j < k + 1 by omega]
      · simp [h2, h3, show ¬ j < k + 1 by omega]
  · simp [h1]
theorem cpK_ne {f : Nat → Nat → Int32} {to fr k c : Nat} (h : c ≠ to) : cpK f to fr k c = f c := by
  funext j
  simp [cpK, h]
theorem cpK_lt {f : Nat → Nat → Int32} {to fr k j : Nat} (h : j < k) : cpK f to fr k to j = f fr j := by simp [cpK, h]
theorem cpK_ge {f : Nat → Nat → Int32} {to fr k j : Nat} (h : ¬ j < k) : cpK f to fr k to j = f to j := by simp [cpK, h]
section CPY
variable {X : Xs} {h : Hp} {Q : Qt}
theorem t_copies_53_54 (q : Q none (cpK h.1 54 53 80, h.2)) : Go X m_X7_copies 0 [.ref 53, .ref 54, .null] [] h Q := by
  refine vc_ok (st := [2]) 40 ?_
  have key := down (fun k => Go X m_X7_copies 2 [.ref 53, .ref 54, .int (nI k)] [] (cpK h.1 54 53 k, h.2) Q) 80 ?_ ?_ 0 (by decide)
  · rw [cpK_0] at key
    exact key
  · exact vg (br_t (Int32.le_refl _) q)
  · intro k hk ih
    refine vc_ok (st := [2]) 40 (br_f (nI_ge hk (by decide)) ⟨k, rfl, hk, k, rfl, hk, ?_⟩)
    show Go X m_X7_copies 2 [.ref 53, .ref 54, .int (nI k + 1)] [] (up2 (cpK h.1 54 53 k) 54 k (h.1 53 k), h.2) Q
    rw [cpK_s, nI_1]
    exact ih
theorem t_copies_54_53 (q : Q none (cpK h.1 53 54 80, h.2)) : Go X m_X7_copies 0 [.ref 54, .ref 53, .null] [] h Q := by
  refine vc_ok (st := [2]) 40 ?_
  have key := down (fun k => Go X m_X7_copies 2 [.ref 54, .ref 53, .int (nI k)] [] (cpK h.1 53 54 k, h.2) Q) 80 ?_ ?_ 0 (by decide)
  · rw [cpK_0] at key
    exact key
  · exact vg (br_t (Int32.le_refl _) q)
  · intro k hk ih
    refine vc_ok (st := [2]) 40 (br_f (nI_ge hk (by decide)) ⟨k, rfl, hk, k, rfl, hk, ?_⟩)
    show Go X m_X7_copies 2 [.ref 54, .ref 53, .int (nI k + 1)] [] (up2 (cpK h.1 53 54 k) 53 k (h.1 54 k), h.2) Q
    rw [cpK_s, nI_1]
    exact ih
theorem t_copies_53_55 (q : Q none (cpK h.1 55 53 80, h.2)) : Go X m_X7_copies 0 [.ref 53, .ref 55, .null] [] h Q := by
  refine vc_ok (st := [2]) 40 ?_
  have key := down (fun k => Go X m_X7_copies 2 [.ref 53, .ref 55, .int (nI k)] [] (cpK h.1 55 53 k, h.2) Q) 80 ?_ ?_ 0 (by decide)
  · rw [cpK_0] at key
    exact key
  · exact vg (br_t (Int32.le_refl _) q)
  · intro k hk ih
    refine vc_ok (st := [2]) 40 (br_f (nI_ge hk (by decide)) ⟨k, rfl, hk, k, rfl, hk, ?_⟩)
    show Go X m_X7_copies 2 [.ref 53, .ref 55, .int (nI k + 1)] [] (up2 (cpK h.1 55 53 k) 55 k (h.1 53 k), h.2) Q
    rw [cpK_s, nI_1]
    exact ih
theorem t_copies_55_53 (q : Q none (cpK h.1 53 55 80, h.2)) : Go X m_X7_copies 0 [.ref 55, .ref 53, .null] [] h Q := by
  refine vc_ok (st := [2]) 40 ?_
  have key := down (fun k => Go X m_X7_copies 2 [.ref 55, .ref 53, .int (nI k)] [] (cpK h.1 53 55 k, h.2) Q) 80 ?_ ?_ 0 (by decide)
  · rw [cpK_0] at key
    exact key
  · exact vg (br_t (Int32.le_refl _) q)
  · intro k hk ih
    refine vc_ok (st := [2]) 40 (br_f (nI_ge hk (by decide)) ⟨k, rfl, hk, k, rfl, hk, ?_⟩)
    show Go X m_X7_copies 2 [.ref 55, .ref 53, .int (nI k + 1)] [] (up2 (cpK h.1 53 55 k) 53 k (h.1 55 k), h.2) Q
    rw [cpK_s, nI_1]
    exact ih
theorem t_takePicks_2_25 {n : Nat} (hn : n ≤ 20) (q : Q none (cpK (up2 h.1 2 4 (nI n)) 18 25 n, h.2)) : Go X m_X1_takePicks 0 [.ref 2, .ref 25, .int (nI n), .null] [] h Q := by
  have e : (if (if nI 20 < nI 20 then nI 20 else nI 20) < nI n then (if nI 20 < nI 20 then nI 20 else nI 20) else nI n) = nI n := by
    rw [if_neg (show ¬ nI 20 < nI 20 by decide), if_neg (nI_nlt hn (by decide))]
  refine vc_ok (st := [17]) 40 ?_
  show Go X m_X1_takePicks 17 [.ref 2, .ref 25, .int (nI n), .int (nI 0)] [] (up2 h.1 2 4 (if (if nI 20 < nI 20 then nI 20 else nI 20) < nI n then (if nI 20 < nI 20 then nI 20 else nI 20) else nI n), h.2) Q
  rw [e]
  have key := down (fun k => Go X m_X1_takePicks 17 [.ref 2, .ref 25, .int (nI n), .int (nI k)] [] (cpK (up2 h.1 2 4 (nI n)) 18 25 k, h.2) Q) n ?_ ?_ 0 (by omega)
  · rw [cpK_0] at key
    exact key
  · exact vg (br_t (Int32.le_refl _) q)
  · intro k hk ih
    refine vc_ok (st := [17]) 40 (br_f (nI_ge hk (by omega)) ⟨k, rfl, by omega, k, rfl, by omega, ?_⟩)
    show Go X m_X1_takePicks 17 [.ref 2, .ref 25, .int (nI n), .int (nI k + 1)] [] (up2 (cpK (up2 h.1 2 4 (nI n)) 18 25 k) 18 k (up2 h.1 2 4 (nI n) 25 k), h.2) Q
    rw [cpK_s, nI_1]
    exact ih
theorem t_takePicks_2_32 {n : Nat} (hn : n ≤ 20) (q : Q none (cpK (up2 h.1 2 4 (nI n)) 18 32 n, h.2)) : Go X m_X1_takePicks 0 [.ref 2, .ref 32, .int (nI n), .null] [] h Q := by
  have e : (if (if nI 20 < nI 20 then nI 20 else nI 20) < nI n then (if nI 20 < nI 20 then nI 20 else nI 20) else nI n) = nI n := by
    rw [if_neg (show ¬ nI 20 < nI 20 by decide), if_neg (nI_nlt hn (by decide))]
  refine vc_ok (st := [17]) 40 ?_
  show Go X m_X1_takePicks 17 [.ref 2, .ref 32, .int (nI n), .int (nI 0)] [] (up2 h.1 2 4 (if (if nI 20 < nI 20 then nI 20 else nI 20) < nI n then (if nI 20 < nI 20 then nI 20 else nI 20) else nI n), h.2) Q
  rw [e]
  have key := down (fun k => Go X m_X1_takePicks 17 [.ref 2, .ref 32, .int (nI n), .int (nI k)] [] (cpK (up2 h.1 2 4 (nI n)) 18 32 k, h.2) Q) n ?_ ?_ 0 (by omega)
  · rw [cpK_0] at key
    exact key
  · exact vg (br_t (Int32.le_refl _) q)
  · intro k hk ih
    refine vc_ok (st := [17]) 40 (br_f (nI_ge hk (by omega)) ⟨k, rfl, by omega, k, rfl, by omega, ?_⟩)
    show Go X m_X1_takePicks 17 [.ref 2, .ref 32, .int (nI n), .int (nI k + 1)] [] (up2 (cpK (up2 h.1 2 4 (nI n)) 18 32 k) 18 k (up2 h.1 2 4 (nI n) 32 k), h.2) Q
    rw [cpK_s, nI_1]
    exact ih
theorem t_takePicks_2_46 {n : Nat} (hn : n ≤ 6) (q : Q none (cpK (up2 h.1 2 4 (nI n)) 18 46 n, h.2)) : Go X m_X1_takePicks 0 [.ref 2, .ref 46, .int (nI n), .null] [] h Q := by
  have e : (if (if nI 20 < nI 6 then nI 20 else nI 6) < nI n then (if nI 20 < nI 6 then nI 20 else nI 6) else nI n) = nI n := by
    rw [if_neg (show ¬ nI 20 < nI 6 by decide), if_neg (nI_nlt hn (by decide))]
  refine vc_ok (st := [17]) 40 ?_
  show Go X m_X1_takePicks 17 [.ref 2, .ref 46, .int (nI n), .int (nI 0)] [] (up2 h.1 2 4 (if (if nI 20 < nI 6 then nI 20 else nI 6) < nI n then (if nI 20 < nI 6 then nI 20 else nI 6) else nI n), h.2) Q
  rw [e]
  have key := down (fun k => Go X m_X1_takePicks 17 [.ref 2, .ref 46, .int (nI n), .int (nI k)] [] (cpK (up2 h.1 2 4 (nI n)) 18 46 k, h.2) Q) n ?_ ?_ 0 (by omega)
  · rw [cpK_0] at key
    exact key
  · exact vg (br_t (Int32.le_refl _) q)
  · intro k hk ih
    refine vc_ok (st := [17]) 40 (br_f (nI_ge hk (by omega)) ⟨k, rfl, by omega, k, rfl, by omega, ?_⟩)
    show Go X m_X1_takePicks 17 [.ref 2, .ref 46, .int (nI n), .int (nI k + 1)] [] (up2 (cpK (up2 h.1 2 4 (nI n)) 18 46 k) 18 k (up2 h.1 2 4 (nI n) 46 k), h.2) Q
    rw [cpK_s, nI_1]
    exact ih
theorem t_takePicks_3_18 {n : Nat} (hn : n ≤ 20) (q : Q none (cpK (up2 h.1 3 4 (nI n)) 25 18 n, h.2)) : Go X m_X1_takePicks 0 [.ref 3, .ref 18, .int (nI n), .null] [] h Q := by
  have e : (if (if nI 20 < nI 20 then nI 20 else nI 20) < nI n then (if nI 20 < nI 20 then nI 20 else nI 20) else nI n) = nI n := by
    rw [if_neg (show ¬ nI 20 < nI 20 by decide), if_neg (nI_nlt hn (by decide))]
  refine vc_ok (st := [17]) 40 ?_
  show Go X m_X1_takePicks 17 [.ref 3, .ref 18, .int (nI n), .int (nI 0)] [] (up2 h.1 3 4 (if (if nI 20 < nI 20 then nI 20 else nI 20) < nI n then (if nI 20 < nI 20 then nI 20 else nI 20) else nI n), h.2) Q
  rw [e]
  have key := down (fun k => Go X m_X1_takePicks 17 [.ref 3, .ref 18, .int (nI n), .int (nI k)] [] (cpK (up2 h.1 3 4 (nI n)) 25 18 k, h.2) Q) n ?_ ?_ 0 (by omega)
  · rw [cpK_0] at key
    exact key
  · exact vg (br_t (Int32.le_refl _) q)
  · intro k hk ih
    refine vc_ok (st := [17]) 40 (br_f (nI_ge hk (by omega)) ⟨k, rfl, by omega, k, rfl, by omega, ?_⟩)
    show Go X m_X1_takePicks 17 [.ref 3, .ref 18, .int (nI n), .int (nI k + 1)] [] (up2 (cpK (up2 h.1 3 4 (nI n)) 25 18 k) 25 k (up2 h.1 3 4 (nI n) 18 k), h.2) Q
    rw [cpK_s, nI_1]
    exact ih
theorem t_takePicks_4_18 {n : Nat} (hn : n ≤ 20) (q : Q none (cpK (up2 h.1 4 4 (nI n)) 32 18 n, h.2)) : Go X m_X1_takePicks 0 [.ref 4, .ref 18, .int (nI n), .null] [] h Q := by
  have e : (if (if nI 20 < nI 20 then nI 20 else nI 20) < nI n then (if nI 20 < nI 20 then nI 20 else nI 20) else nI n) = nI n := by
    rw [if_neg (show ¬ nI 20 < nI 20 by decide), if_neg (nI_nlt hn (by decide))]
  refine vc_ok (st := [17]) 40 ?_
  show Go X m_X1_takePicks 17 [.ref 4, .ref 18, .int (nI n), .int (nI 0)] [] (up2 h.1 4 4 (if (if nI 20 < nI 20 then nI 20 else nI 20) < nI n then (if nI 20 < nI 20 then nI 20 else nI 20) else nI n), h.2) Q
  rw [e]
  have key := down (fun k => Go X m_X1_takePicks 17 [.ref 4, .ref 18, .int (nI n), .int (nI k)] [] (cpK (up2 h.1 4 4 (nI n)) 32 18 k, h.2) Q) n ?_ ?_ 0 (by omega)
  · rw [cpK_0] at key
    exact key
  · exact vg (br_t (Int32.le_refl _) q)
  · intro k hk ih
    refine vc_ok (st := [17]) 40 (br_f (nI_ge hk (by omega)) ⟨k, rfl, by omega, k, rfl, by omega, ?_⟩)
    show Go X m_X1_takePicks 17 [.ref 4, .ref 18, .int (nI n), .int (nI k + 1)] [] (up2 (cpK (up2 h.1 4 4 (nI n)) 32 18 k) 32 k (up2 h.1 4 4 (nI n) 18 k), h.2) Q
    rw [cpK_s, nI_1]
    exact ih
end CPY
theorem cpy0 {α : Type} {f g : Nat → α} {n j : Nat} (h : j < n) : va_cpy f g 0 0 n j = f j := by unfold va_cpy; rw [if_pos ⟨by omega, by omega⟩]; congr 1; omega
section BEC
variable {X : Xs} {h : Hp} {Q : Qt}
theorem t_become_3_2 {V : Vw} (v : okV V) (r : RC V h 2 15 16 17 18 19 20 21) (q : ∀ f : Nat → Nat → Int32, RC V (f, h.2) 3 22 23 24 25 26 27 28 → (∀ c, (c ≠ 3 ∧ ¬ (22 ≤ c ∧ c ≤ 28)) → f c = h.1 c) → Q none (f, h.2)) : Go X m_X1_become 0 [.ref 3, .ref 2] [] h Q := by
  obtain ⟨n, hn⟩ : ∃ n, n = V 0 1 := ⟨_, rfl⟩
  have hr := v.1.2.1
  have e4 : h.1 2 4 = nI n := by rw [r.1.2.1, hn]
  refine vc_ok (st := [53]) 40 ⟨0, 0, 10, ⟨rfl, rfl, rfl⟩, ⟨by decide, by decide⟩, 0, 0, 10, ⟨rfl, rfl, rfl⟩, ⟨by decide, by decide⟩, 0, 0, 16, ⟨rfl, rfl, rfl⟩, ⟨by decide, by decide⟩, ?_⟩
  show Go X m_X1_become 53 [.ref 3, .ref 2] [] (upr (upr (upr (up2 h.1 3 0 (h.1 2 0)) 22 (va_cpy (h.1 15) (h.1 22) 0 0 10)) 23 (va_cpy (h.1 16) (h.1 23) 0 0 10)) 24 (va_cpy (h.1 17) (h.1 24) 0 0 16), h.2) Q
  refine vg ?_
  show Go X m_X1_takePicks 0 [.ref 3, .ref 18, .int (h.1 2 4), .null] [] (upr (upr (upr (up2 h.1 3 0 (h.1 2 0)) 22 (va_cpy (h.1 15) (h.1 22) 0 0 10)) 23 (va_cpy (h.1 16) (h.1 23) 0 0 10)) 24 (va_cpy (h.1 17) (h.1 24) 0 0 16), h.2) _
  rw [e4]
  refine t_takePicks_3_18 (by omega) (vg ⟨0, 0, 6, ⟨rfl, rfl, rfl⟩, ⟨by decide, by decide⟩, 0, 0, 6, ⟨rfl, rfl, rfl⟩, ⟨by decide, by decide⟩, 0, 0, 6, ⟨rfl, rfl, rfl⟩, ⟨by decide, by decide⟩, ?_⟩)
  refine q (upr (upr (upr (up2 (cpK (up2 (upr (upr (upr (up2 h.1 3 0 (h.1 2 0)) 22 (va_cpy (h.1 15) (h.1 22) 0 0 10)) 23 (va_cpy (h.1 16) (h.1 23) 0 0 10)) 24 (va_cpy (h.1 17) (h.1 24) 0 0 16)) 3 4 (nI n)) 25 18 n) 3 6 (h.1 2 6)) 26 (va_cpy (h.1 19) (h.1 26) 0 0 6)) 27 (va_cpy (h.1 20) (h.1 27) 0 0 6)) 28 (va_cpy (h.1 21) (h.1 28) 0 0 6)) ⟨⟨?_, ?_, ?_⟩, fun c hc => ⟨?_, ?_⟩, fun t ht => ?_, fun i hi => ?_, fun l hl => ⟨?_, ?_, ?_⟩⟩ (fun c hc => ?_)
  · exact r.1.1
  · show nI n = _
    rw [hn]
  · exact r.1.2.2
  · have := v.1.1
    show va_cpy (h.1 15) (h.1 22) 0 0 10 c = _
    rw [cpy0 (by omega)]; exact (r.2.1 c hc).1
  · have := v.1.1
    show va_cpy (h.1 16) (h.1 23) 0 0 10 c = _
    rw [cpy0 (by omega)]; exact (r.2.1 c hc).2
  · show va_cpy (h.1 17) (h.1 24) 0 0 16 t = _
    rw [cpy0 ht]; exact r.2.2.1 t ht
  · show cpK (up2 (upr (upr (upr (up2 h.1 3 0 (h.1 2 0)) 22 (va_cpy (h.1 15) (h.1 22) 0 0 10)) 23 (va_cpy (h.1 16) (h.1 23) 0 0 10)) 24 (va_cpy (h.1 17) (h.1 24) 0 0 16)) 3 4 (nI n)) 25 18 n 25 i = _
    rw [cpK_lt (by omega)]; exact r.2.2.2.1 i hi
  · have := v.1.2.2
    show va_cpy (h.1 19) (h.1 26) 0 0 6 l = _
    rw [cpy0 (by omega)]; exact (r.2.2.2.2 l hl).1
  · have := v.1.2.2
    show va_cpy (h.1 20) (h.1 27) 0 0 6 l = _
    rw [cpy0 (by omega)]; exact (r.2.2.2.2 l hl).2.1
  · have := v.1.2.2
    show va_cpy (h.1 21) (h.1 28) 0 0 6 l = _
    rw [cpy0 (by omega)]; exact (r.2.2.2.2 l hl).2.2
  · rw [upr_ne (by omega), upr_ne (by omega), upr_ne (by omega), up2_ne (by omega), cpK_ne (by omega), up2_ne (by omega), upr_ne (by omega), upr_ne (by omega), upr_ne (by omega), up2_ne (by omega)]
theorem t_become_2_3 {V : Vw} (v : okV V) (r : RC V h 3 22 23 24 25 26 27 28) (q : ∀ f : Nat → Nat → Int32, RC V (f, h.2) 2 15 16 17 18 19 20 21 → (∀ c, (c ≠ 2 ∧ ¬ (15 ≤ c ∧ c ≤ 21)) → f c = h.1 c) → Q none (f, h.2)) : Go X m_X1_become 0 [.ref 2, .ref 3] [] h Q := by
  obtain ⟨n, hn⟩ : ∃ n, n = V 0 1 := ⟨_, rfl⟩
  have hr := v.1.2.1
  have e4 : h.1 3 4 = nI n := by rw [r.1.2.1, hn]
  refine vc_ok (st := [53]) 40 ⟨0, 0, 10, ⟨rfl, rfl, rfl⟩, ⟨by decide, by decide⟩, 0, 0, 10, ⟨rfl, rfl, rfl⟩, ⟨by decide, by decide⟩, 0, 0, 16, ⟨rfl, rfl, rfl⟩, ⟨by decide, by decide⟩, ?_⟩
  show Go X m_X1_become 53 [.ref 2, .ref 3] [] (upr (upr (upr (up2 h.1 2 0 (h.1 3 0)) 15 (va_cpy (h.1 22) (h.1 15) 0 0 10)) 16 (va_cpy (h.1 23) (h.1 16) 0 0 10)) 17 (va_cpy (h.1 24) (h.1 17) 0 0 16), h.2) Q
  refine vg ?_
  show Go X m_X1_takePicks 0 [.ref 2, .ref 25, .int (h.1 3 4), .null] [] (upr (upr (upr (up2 h.1 2 0 (h.1 3 0)) 15 (va_cpy (h.1 22) (h.1 15) 0 0 10)) 16 (va_cpy (h.1 23) (h.1 16) 0 0 10)) 17 (va_cpy (h.1 24) (h.1 17) 0 0 16), h.2) _
  rw [e4]
  refine t_takePicks_2_25 (by omega) (vg ⟨0, 0, 6, ⟨rfl, rfl, rfl⟩, ⟨by decide, by decide⟩, 0, 0, 6, ⟨rfl, rfl, rfl⟩, ⟨by decide, by decide⟩, 0, 0, 6, ⟨rfl, rfl, rfl⟩, ⟨by decide, by decide⟩, ?_⟩)
  refine q (upr (upr (upr (up2 (cpK (up2 (upr (upr (upr (up2 h.1 2 0 (h.1 3 0)) 15 (va_cpy (h.1 22) (h.1 15) 0 0 10)) 16 (va_cpy (h.1 23) (h.1 16) 0 0 10)) 17 (va_cpy (h.1 24) (h.1 17) 0 0 16)) 2 4 (nI n)) 18 25 n) 2 6 (h.1 3 6)) 19 (va_cpy (h.1 26) (h.1 19) 0 0 6)) 20 (va_cpy (h.1 27) (h.1 20) 0 0 6)) 21 (va_cpy (h.1 28) (h.1 21) 0 0 6)) ⟨⟨?_, ?_, ?_⟩, fun c hc => ⟨?_, ?_⟩, fun t ht => ?_, fun i hi => ?_, fun l hl => ⟨?_, ?_, ?_⟩⟩ (fun c hc => ?_)
  · exact r.1.1
  · show nI n = _
    rw [hn]
  · exact r.1.2.2
  · have := v.1.1
    show va_cpy (h.1 22) (h.1 15) 0 0 10 c = _
    rw [cpy0 (by omega)]; exact (r.2.1 c hc).1
  · have := v.1.1
    show va_cpy (h.1 23) (h.1 16) 0 0 10 c = _
    rw [cpy0 (by omega)]; exact (r.2.1 c hc).2
  · show va_cpy (h.1 24) (h.1 17) 0 0 16 t = _
    rw [cpy0 ht]; exact r.2.2.1 t ht
  · show cpK (up2 (upr (upr (upr (up2 h.1 2 0 (h.1 3 0)) 15 (va_cpy (h.1 22) (h.1 15) 0 0 10)) 16 (va_cpy (h.1 23) (h.1 16) 0 0 10)) 17 (va_cpy (h.1 24) (h.1 17) 0 0 16)) 2 4 (nI n)) 18 25 n 18 i = _
    rw [cpK_lt (by omega)]; exact r.2.2.2.1 i hi
  · have := v.1.2.2
    show va_cpy (h.1 26) (h.1 19) 0 0 6 l = _
    rw [cpy0 (by omega)]; exact (r.2.2.2.2 l hl).1
  · have := v.1.2.2
    show va_cpy (h.1 27) (h.1 20) 0 0 6 l = _
    rw [cpy0 (by omega)]; exact (r.2.2.2.2 l hl).2.1
  · have := v.1.2.2
    show va_cpy (h.1 28) (h.1 21) 0 0 6 l = _
    rw [cpy0 (by omega)]; exact (r.2.2.2.2 l hl).2.2
  · rw [upr_ne (by omega), upr_ne (by omega), upr_ne (by omega), up2_ne (by omega), cpK_ne (by omega), up2_ne (by omega), upr_ne (by omega), upr_ne (by omega), upr_ne (by omega), up2_ne (by omega)]
theorem t_become_4_2 {V : Vw} (v : okV V) (r : RC V h 2 15 16 17 18 19 20 21) (q : ∀ f : Nat → Nat → Int32, RC V (f, h.2) 4 29 30 31 32 33 34 35 → (∀ c, (c ≠ 4 ∧ ¬ (29 ≤ c ∧ c ≤ 35)) → f c = h.1 c) → Q none (f, h.2)) : Go X m_X1_become 0 [.ref 4, .ref 2] [] h Q := by
  obtain ⟨n, hn⟩ : ∃ n, n = V 0 1 := ⟨_, rfl⟩
  have hr := v.1.2.1
  have e4 : h.1 2 4 = nI n := by rw [r.1.2.1, hn]
  refine vc_ok (st := [53]) 40 ⟨0, 0, 10, ⟨rfl, rfl, rfl⟩, ⟨by decide, by decide⟩, 0, 0, 10, ⟨rfl, rfl, rfl⟩, ⟨by decide, by decide⟩, 0, 0, 16, ⟨rfl, rfl, rfl⟩, ⟨by decide, by decide⟩, ?_⟩
  show Go X m_X1_become 53 [.ref 4, .ref 2] [] (upr (upr (upr (up2 h.1 4 0 (h.1 2 0)) 29 (va_cpy (h.1 15) (h.1 29) 0 0 10)) 30 (va_cpy (h.1 16) (h.1 30) 0 0 10)) 31 (va_cpy (h.1 17) (h.1 31) 0 0 16), h.2) Q
  refine vg ?_
  show Go X m_X1_takePicks 0 [.ref 4, .ref 18, .int (h.1 2 4), .null] [] (upr (upr (upr (up2 h.1 4 0 (h.1 2 0)) 29 (va_cpy (h.1 15) (h.1 29) 0 0 10)) 30 (va_cpy (h.1 16) (h.1 30) 0 0 10)) 31 (va_cpy (h.1 17) (h.1 31) 0 0 16), h.2) _
  rw [e4]
  refine t_takePicks_4_18 (by omega) (vg ⟨0, 0, 6, ⟨rfl, rfl, rfl⟩, ⟨by decide, by decide⟩, 0, 0, 6, ⟨rfl, rfl, rfl⟩, ⟨by decide, by decide⟩, 0, 0, 6, ⟨rfl, rfl, rfl⟩, ⟨by decide, by decide⟩, ?_⟩)
  refine q (upr (upr (upr (up2 (cpK (up2 (upr (upr (upr (up2 h.1 4 0 (h.1 2 0)) 29 (va_cpy (h.1 15) (h.1 29) 0 0 10)) 30 (va_cpy (h.1 16) (h.1 30) 0 0 10)) 31 (va_cpy (h.1 17) (h.1 31) 0 0 16)) 4 4 (nI n)) 32 18 n) 4 6 (h.1 2 6)) 33 (va_cpy (h.1 19) (h.1 33) 0 0 6)) 34 (va_cpy (h.1 20) (h.1 34) 0 0 6)) 35 (va_cpy (h.1 21) (h.1 35) 0 0 6)) ⟨⟨?_, ?_, ?_⟩, fun c hc => ⟨?_, ?_⟩, fun t ht => ?_, fun i hi => ?_, fun l hl => ⟨?_, ?_, ?_⟩⟩ (fun c hc => ?_)
  · exact r.1.1
  · show nI n = _
    rw [hn]
  · exact r.1.2.2
  · have := v.1.1
    show va_cpy (h.1 15) (h.1 29) 0 0 10 c = _
    rw [cpy0 (by omega)]; exact (r.2.1 c hc).1
  · have := v.1.1
    show va_cpy (h.1 16) (h.1 30) 0 0 10 c = _
    rw [cpy0 (by omega)]; exact (r.2.1 c hc).2
  · show va_cpy (h.1 17) (h.1 31) 0 0 16 t = _
    rw [cpy0 ht]; exact r.2.2.1 t ht
  · show cpK (up2 (upr (upr (upr (up2 h.1 4 0 (h.1 2 0)) 29 (va_cpy (h.1 15) (h.1 29) 0 0 10)) 30 (va_cpy (h.1 16) (h.1 30) 0 0 10)) 31 (va_cpy (h.1 17) (h.1 31) 0 0 16)) 4 4 (nI n)) 32 18 n 32 i = _
    rw [cpK_lt (by omega)]; exact r.2.2.2.1 i hi
  · have := v.1.2.2
    show va_cpy (h.1 19) (h.1 33) 0 0 6 l = _
    rw [cpy0 (by omega)]; exact (r.2.2.2.2 l hl).1
  · have := v.1.2.2
    show va_cpy (h.1 20) (h.1 34) 0 0 6 l = _
    rw [cpy0 (by omega)]; exact (r.2.2.2.2 l hl).2.1
  · have := v.1.2.2
    show va_cpy (h.1 21) (h.1 35) 0 0 6 l = _
    rw [cpy0 (by omega)]; exact (r.2.2.2.2 l hl).2.2
  · rw [upr_ne (by omega), upr_ne (by omega), upr_ne (by omega), up2_ne (by omega), cpK_ne (by omega), up2_ne (by omega), upr_ne (by omega), upr_ne (by omega), upr_ne (by omega), up2_ne (by omega)]
theorem t_become_2_4 {V : Vw} (v : okV V) (r : RC V h 4 29 30 31 32 33 34 35) (q : ∀ f : Nat → Nat → Int32, RC V (f, h.2) 2 15 16 17 18 19 20 21 → (∀ c, (c ≠ 2 ∧ ¬ (15 ≤ c ∧ c ≤ 21)) → f c = h.1 c) → Q none (f, h.2)) : Go X m_X1_become 0 [.ref 2, .ref 4] [] h Q := by
  obtain ⟨n, hn⟩ : ∃ n, n = V 0 1 := ⟨_, rfl⟩
  have hr := v.1.2.1
  have e4 : h.1 4 4 = nI n := by rw [r.1.2.1, hn]
  refine vc_ok (st := [53]) 40 ⟨0, 0, 10, ⟨rfl, rfl, rfl⟩, ⟨by decide, by decide⟩, 0, 0, 10, ⟨rfl, rfl, rfl⟩, ⟨by decide, by decide⟩, 0, 0, 16, ⟨rfl, rfl, rfl⟩, ⟨by decide, by decide⟩, ?_⟩
  show Go X m_X1_become 53 [.ref 2, .ref 4] [] (upr (upr (upr (up2 h.1 2 0 (h.1 4 0)) 15 (va_cpy (h.1 29) (h.1 15) 0 0 10)) 16 (va_cpy (h.1 30) (h.1 16) 0 0 10)) 17 (va_cpy (h.1 31) (h.1 17) 0 0 16), h.2) Q
  refine vg ?_
  show Go X m_X1_takePicks 0 [.ref 2, .ref 32, .int (h.1 4 4), .null] [] (upr (upr (upr (up2 h.1 2 0 (h.1 4 0)) 15 (va_cpy (h.1 29) (h.1 15) 0 0 10)) 16 (va_cpy (h.1 30) (h.1 16) 0 0 10)) 17 (va_cpy (h.1 31) (h.1 17) 0 0 16), h.2) _
  rw [e4]
  refine t_takePicks_2_32 (by omega) (vg ⟨0, 0, 6, ⟨rfl, rfl, rfl⟩, ⟨by decide, by decide⟩, 0, 0, 6, ⟨rfl, rfl, rfl⟩, ⟨by decide, by decide⟩, 0, 0, 6, ⟨rfl, rfl, rfl⟩, ⟨by decide, by decide⟩, ?_⟩)
  refine q (upr (upr (upr (up2 (cpK (up2 (upr (upr (upr (up2 h.1 2 0 (h.1 4 0)) 15 (va_cpy (h.1 29) (h.1 15) 0 0 10)) 16 (va_cpy (h.1 30) (h.1 16) 0 0 10)) 17 (va_cpy (h.1 31) (h.1 17) 0 0 16)) 2 4 (nI n)) 18 32 n) 2 6 (h.1 4 6)) 19 (va_cpy (h.1 33) (h.1 19) 0 0 6)) 20 (va_cpy (h.1 34) (h.1 20) 0 0 6)) 21 (va_cpy (h.1 35) (h.1 21) 0 0 6)) ⟨⟨?_, ?_, ?_⟩, fun c hc => ⟨?_, ?_⟩, fun t ht => ?_, fun i hi => ?_, fun l hl => ⟨?_, ?_, ?_⟩⟩ (fun c hc => ?_)
  · exact r.1.1
  · show nI n = _
    rw [hn]
  · exact r.1.2.2
  · have := v.1.1
    show va_cpy (h.1 29) (h.1 15) 0 0 10 c = _
    rw [cpy0 (by omega)]; exact (r.2.1 c hc).1
  · have := v.1.1
    show va_cpy (h.1 30) (h.1 16) 0 0 10 c = _
    rw [cpy0 (by omega)]; exact (r.2.1 c hc).2
  · show va_cpy (h.1 31) (h.1 17) 0 0 16 t = _
    rw [cpy0 ht]; exact r.2.2.1 t ht
  · show cpK (up2 (upr (upr (upr (up2 h.1 2 0 (h.1 4 0)) 15 (va_cpy (h.1 29) (h.1 15) 0 0 10)) 16 (va_cpy (h.1 30) (h.1 16) 0 0 10)) 17 (va_cpy (h.1 31) (h.1 17) 0 0 16)) 2 4 (nI n)) 18 32 n 18 i = _
    rw [cpK_lt (by omega)]; exact r.2.2.2.1 i hi
  · have := v.1.2.2
    show va_cpy (h.1 33) (h.1 19) 0 0 6 l = _
    rw [cpy0 (by omega)]; exact (r.2.2.2.2 l hl).1
  · have := v.1.2.2
    show va_cpy (h.1 34) (h.1 20) 0 0 6 l = _
    rw [cpy0 (by omega)]; exact (r.2.2.2.2 l hl).2.1
  · have := v.1.2.2
    show va_cpy (h.1 35) (h.1 21) 0 0 6 l = _
    rw [cpy0 (by omega)]; exact (r.2.2.2.2 l hl).2.2
  · rw [upr_ne (by omega), upr_ne (by omega), upr_ne (by omega), up2_ne (by omega), cpK_ne (by omega), up2_ne (by omega), upr_ne (by omega), upr_ne (by omega), upr_ne (by omega), up2_ne (by omega)]
end BEC
