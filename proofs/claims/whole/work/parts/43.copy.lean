/-! copy -/
section COPY
variable {X : Xs} {h : Hp} {x y z w u : Int32} {Q : Qt} {V : Vw} {s t b n : Nat}
abbrev Lcp (s t : Nat) (y w u : Int32) : List Value := [.ref 0, .int (nI s), .int y, .int (nI t), .int w, .int u, .ref (9 + s), .ref (9 + t)]
theorem cp21 (hs : s < 4) (ht : t < 4) (k : Go X m_X6_copy 37 (Lcp s t y w u) [] h Q) : Go X m_X6_copy 21 [.ref 0, .int (nI s), .int y, .int (nI t), .int w, .int u, .null, .null] [] h Q := by
  rcases s4 hs with rfl | rfl | rfl | rfl <;> rcases s4 ht with rfl | rfl | rfl | rfl <;> exact vc_ok (st := [37]) 100 ⟨_, rfl, by decide, _, rfl, by decide, k⟩
theorem cp37 (hs : s < 4) (ht : t < 4) (k : Go X m_X3_isMissing 0 [.ref (9 + s)] [] h (fun v h' => Go X m_X6_copy 42 (Lcp s t y w u) (pushO v []) h' Q)) : Go X m_X6_copy 37 (Lcp s t y w u) [] h Q := by
  rcases s4 hs with rfl | rfl | rfl | rfl <;> exact vg k
theorem cp42 (hs : s < 4) (ht : t < 4) (k : Go X m_X3_isMissing 0 [.ref (9 + t)] [] h (fun v h' => Go X m_X6_copy 50 (Lcp s t y w u) (pushO v []) h' Q)) : Go X m_X6_copy 42 (Lcp s t y w u) [.int 0] h Q := by
  rcases s4 ht with rfl | rfl | rfl | rfl <;> exact vg (brn_f rfl k)
theorem cp50 (hs : s < 4) (ht : t < 4) (k1 : h.1 (9 + s) 0 = h.1 (9 + t) 0 → Go X m_X6_copy 81 (Lcp s t y w u) [] h Q) (k2 : ¬ h.1 (9 + s) 0 = h.1 (9 + t) 0 → Go X m_X6_copy 74 (Lcp s t y w u) [] h Q) : Go X m_X6_copy 50 (Lcp s t y w u) [.int 0] h Q := by
  rcases s4 hs with rfl | rfl | rfl | rfl <;> rcases s4 ht with rfl | rfl | rfl | rfl <;> exact vc_ok (st := [81, 74]) 100 (br_t rfl ⟨k1, k2⟩)
theorem cp81 (hs : s < 4) (ht : t < 4) (k : Go X m_X3_hasRange 0 [.ref (9 + s), .int y, .int u] [] h (fun v h' => Go X m_X6_copy 89 (Lcp s t y w u) (pushO v []) h' Q)) : Go X m_X6_copy 81 (Lcp s t y w u) [] h Q := by
  rcases s4 hs with rfl | rfl | rfl | rfl <;> exact vg k
theorem cp89 (hs : s < 4) (ht : t < 4) (k : Go X m_X3_hasRange 0 [.ref (9 + t), .int w, .int u] [] h (fun v h' => Go X m_X6_copy 101 (Lcp s t y w u) (pushO v []) h' Q)) : Go X m_X6_copy 89 (Lcp s t y w u) [.int 1] h Q := by
  rcases s4 ht with rfl | rfl | rfl | rfl <;> exact vg (br_f (by decide) k)
theorem cp101 (hs : s < 4) (ht : t < 4) {a c l : Nat} (h1 : a + l ≤ 40) (h2 : c + l ≤ 40) (k : Q (some (.int (nI l))) (h.1, upr h.2 (49 + t) (va_cpy (h.2 (49 + s)) (h.2 (49 + t)) a c l))) : Go X m_X6_copy 101 (Lcp s t (nI a) (nI c) (nI l)) [.int 1] h Q := by
  rcases s4 hs with rfl | rfl | rfl | rfl <;> rcases s4 ht with rfl | rfl | rfl | rfl <;> exact vg (brn_t (by decide) ⟨a, c, l, ⟨rfl, rfl, rfl⟩, ⟨h1, h2⟩, k⟩)
theorem l_add (x y : Int32) : (x.toInt64 + y.toInt64).toInt = x.toInt + y.toInt := by
  rw [Int64.toInt_add, i64, i64]
  have := Int32.toInt_lt x
  have := Int32.toInt_lt y
  have := Int32.le_toInt x
  have := Int32.le_toInt y
  exact Int.bmod_eq_of_le (by omega) (by omega)
theorem cmp_gtI {a : Int64} {n : Nat} (hn : n ≤ 40) : 0 < lg_cmp a (nI n).toInt64 ↔ (n : Int) < a.toInt := by
  rw [cmp_gt, Int64.lt_iff_toInt_lt, i64, nT (by omega)]
theorem op_copy (I : Inv h) : Both X m_X6_copy m_X7_copy [.ref 0, .int x, .int y, .int z, .int w, .int u, .null, .null] [.ref 1, .int x, .int y, .int z, .int w, .int u, .null] h := by
  obtain ⟨V, v, rn, rm, ik, ir, it, is⟩ := id I
  unfold Both
  by_cases p1 : 0 ≤ x.toInt ∧ x.toInt < 4
  case neg =>
    refine vg (t_isSheet (fun z => absurd z p1) (fun _ => vg (br_t rfl (t_refuse 0 (by decide) (by decide) ?_))))
    refine vg (vg (t_isSheetM (fun z => absurd z p1) (fun _ => vg (br_t rfl (t_findsN 0 (by decide) rfl ?_)))))
    exact vg ⟨rfl, inv_ref I (by decide)⟩
  by_cases p2 : 0 ≤ z.toInt ∧ z.toInt < 4
  case neg =>
    refine vg (t_isSheet (fun _ => vg (br_f (by decide) (t_isSheet (fun z => absurd z p2) (fun _ => vg (brn_f rfl (t_refuse 0 (by decide) (by decide) ?_)))))) (fun z => absurd p1 z))
    refine vg (vg (t_isSheetM (fun _ => vg (br_f (by decide) (t_isSheetM (fun z => absurd z p2) (fun _ => vg (brn_f rfl (t_findsN 0 (by decide) rfl ?_)))))) (fun z => absurd p1 z)))
    exact vg ⟨rfl, inv_ref I (by decide)⟩
  obtain ⟨s, hs, rfl⟩ := nI_ex (x := x) (n := 4) p1.1 (by omega) (by decide)
  obtain ⟨t, ht, rfl⟩ := nI_ex (x := z) (n := 4) p2.1 (by omega) (by decide)
  obtain ⟨b, n, q1, q2, q3, q4, q5, q6, q7, q8⟩ := is s hs
  obtain ⟨c, m, r1, r2, r3, r4, r5, r6, r7, r8⟩ := is t ht
  have mod : ∀ {h : Hp} {Q : Qt}, Go X m_X7_copy 20 [.ref 1, .int (nI s), .int y, .int (nI t), .int w, .int u, .null] [] h Q → Go X m_X7_copy 0 [.ref 1, .int (nI s), .int y, .int (nI t), .int w, .int u, .null] [] h Q := fun g => vg (t_isSheetM (fun _ => vg (br_f (by decide) (t_isSheetM (fun _ => vc_ok (st := [20]) 100 (brn_t (by decide) g)) (fun z => absurd p2 z)))) (fun z => absurd p1 z))
  refine vg (t_isSheet (fun _ => vg (br_f (by decide) (t_isSheet (fun _ => vc_ok (st := [21]) 100 (brn_t (by decide) (cp21 hs ht (cp37 hs ht ?_)))) (fun z => absurd p2 z)))) (fun z => absurd p1 z))
  by_cases e1 : b = 0
  · subst e1
    refine t_isMissing hs q4 (by decide) (fun _ => vg (brn_t (by decide) (t_refuse 5 (by decide) (by decide) (vg (mod ?_))))) (fun z => absurd rfl z)
    exact vg ⟨s, rfl, hs, br_t q5 (t_findsN 5 (by decide) rfl (vg ⟨rfl, inv_ref I (by decide)⟩))⟩
  have b1 := b_cases q1 e1
  have ns : ∀ {f : Nat → Nat → Int32}, f 62 s = nI b → ¬ f 62 s = 0 := fun e => by rw [e]; exact nI_ne0 (by omega) (by omega)
  refine t_isMissing hs q4 b1.2 (fun z => absurd z e1) (fun _ => cp42 hs ht ?_)
  by_cases e2 : c = 0
  · subst e2
    refine t_isMissing ht r4 (by decide) (fun _ => vg (br_f (by decide) (t_refuse 5 (by decide) (by decide) (vg (mod ?_))))) (fun z => absurd rfl z)
    exact vg ⟨s, rfl, hs, br_f (ns q5) ⟨t, rfl, ht, brn_f r5 (t_findsN 5 (by decide) rfl (vg ⟨rfl, inv_ref I (by decide)⟩))⟩⟩
  have c1 := b_cases r1 e2
  have nt' : ∀ {f : Nat → Nat → Int32}, f 62 t = nI c → ¬ f 62 t = 0 := fun e => by rw [e]; exact nI_ne0 (by omega) (by omega)
  refine t_isMissing ht r4 c1.2 (fun z => absurd z e2) (fun _ => cp50 hs ht (fun e => cp81 hs ht ?_) (fun e => ?_))
  case refine_2 =>
    refine vg (t_refuse 2 (by decide) (by decide) (vg (mod ?_)))
    refine vg ⟨s, rfl, hs, br_f (ns q5) ⟨t, rfl, ht, brn_t (nt' r5) ⟨s, rfl, hs, t, rfl, ht, br_f ?_ (t_findsN 2 (by decide) rfl (vg ⟨rfl, inv_ref I (by decide)⟩))⟩⟩⟩
    show ¬ h.1 62 s = h.1 62 t
    rw [q5, r5, ← q4, ← r4]
    exact e
  have ebc : h.1 62 s = h.1 62 t := by rw [q5, r5, ← q4, ← r4]; exact e
  have mod2 : ∀ {h : Hp} {Q : Qt}, h.1 62 s = nI b → h.1 62 t = nI c → h.1 62 s = h.1 62 t → Go X m_X7_copy 65 [.ref 1, .int (nI s), .int y, .int (nI t), .int w, .int u, .null] [] h Q → Go X m_X7_copy 0 [.ref 1, .int (nI s), .int y, .int (nI t), .int w, .int u, .null] [] h Q := fun a1 a2 a3 g => mod (vc_ok (st := [65]) 100 ⟨s, rfl, hs, br_f (ns a1) ⟨t, rfl, ht, brn_t (nt' a2) ⟨s, rfl, hs, t, rfl, ht, br_t a3 g⟩⟩⟩)
  have rf : ∀ {h : Hp} {Q : Qt}, h.1 63 s = nI n → h.1 63 t = nI m → ¬ (rgP y u n ∧ rgP w u m) → Go X m_X7_copy 114 [.ref 1, .int (nI s), .int y, .int (nI t), .int w, .int u, .null] [] h Q → Go X m_X7_copy 65 [.ref 1, .int (nI s), .int y, .int (nI t), .int w, .int u, .null] [] h Q := by
    intro h Q a1 a2 np g
    refine vc_ok (st := [114]) 100 ⟨fun _ => g, fun z1 => ⟨fun _ => g, fun z2 => ⟨fun _ => g, fun z3 => ⟨s, rfl, hs, fun _ => g, fun z4 => ⟨t, rfl, ht, fun z5 => ?_, fun _ => g⟩⟩⟩⟩⟩
    refine absurd ?_ np
    have z4 : ¬ 0 < lg_cmp (y.toInt64 + u.toInt64) (h.1 63 s).toInt64 := z4
    have z5 : lg_cmp (w.toInt64 + u.toInt64) (h.1 63 t).toInt64 ≤ 0 := z5
    rw [a1, cmp_gtI q2, l_add] at z4
    have z6 : ¬ 0 < lg_cmp (w.toInt64 + u.toInt64) (h.1 63 t).toInt64 := fun k => absurd z5 (Int32.not_le.mpr k)
    rw [a2, cmp_gtI r2, l_add] at z6
    rw [i_lt, i0] at z1 z2 z3
    exact ⟨⟨by omega, by omega, by omega⟩, ⟨by omega, by omega, by omega⟩⟩
  have bad : ¬ (rgP y u n ∧ rgP w u m) → Go X m_X6_copy 104 (Lcp s t y w u) [] h (BQ X m_X7_copy [.ref 1, .int (nI s), .int y, .int (nI t), .int w, .int u, .null]) := fun np => vg (t_refuse 0 (by decide) (by decide) (vg (mod2 (h := (up2 h.1 14 0 (h.1 14 0 + 1), h.2)) q5 r5 ebc (rf (h := (up2 h.1 14 0 (h.1 14 0 + 1), h.2)) q7 r7 np (vg (t_findsN 0 (by decide) rfl (vg ⟨rfl, inv_ref I (by decide)⟩)))))))
  refine t_hasRange hs q6 q2 (fun g1 => cp89 hs ht ?_) (fun np => vc_ok (st := [104]) 100 (br_t rfl (bad (fun k => np k.1))))
  refine t_hasRange ht r6 r2 (fun g2 => ?_) (fun np => vc_ok (st := [104]) 100 (brn_f rfl (bad (fun k => np k.2))))
  clear bad rf
  obtain ⟨l, hl, rfl⟩ := nI_ex (x := u) (n := 41) g1.2.1 (by have := g1.2.2; have := g1.1; omega) (by decide)
  obtain ⟨a, ha, rfl⟩ := nI_ex (x := y) (n := 41) g1.1 (by have := g1.2.2; have := g1.2.1; omega) (by decide)
  obtain ⟨d, hd, rfl⟩ := nI_ex (x := w) (n := 41) g2.1 (by have := g2.2.2; have := g2.2.1; omega) (by decide)
  have k1 : a + l ≤ n := by
    have := g1.2.2
    rw [nT (by omega), nT (by omega)] at this
    omega
  have k2 : d + l ≤ m := by
    have := g2.2.2
    rw [nT (by omega), nT (by omega)] at this
    omega
  refine cp101 hs ht (by omega) (by omega) ?_
  refine mod2 (h := (h.1, upr h.2 (49 + t) (va_cpy (h.2 (49 + s)) (h.2 (49 + t)) a d l))) q5 r5 ebc ?_
  generalize hG : upr h.2 (49 + t) (va_cpy (h.2 (49 + s)) (h.2 (49 + t)) a d l) = G
  refine vc_ok (st := [123]) 100 (br_f (nI_pos (by omega)) (br_f (nI_pos (by omega)) (br_f (nI_pos (by omega)) ⟨s, rfl, hs, br_f ?_ ⟨t, rfl, ht, br_t ?_ ?_⟩⟩)))
  · show ¬ 0 < lg_cmp ((nI a).toInt64 + (nI l).toInt64) (h.1 63 s).toInt64
    rw [q7, cmp_gtI q2, l_add, nT (by omega), nT (by omega)]
    omega
  · show lg_cmp ((nI d).toInt64 + (nI l).toInt64) (h.1 63 t).toInt64 ≤ 0
    refine Int32.not_lt.mp (fun k => ?_)
    rw [r7, cmp_gtI r2, l_add, nT (by omega), nT (by omega)] at k
    omega
  suffices hh : ∀ k, k ≤ l → ∀ g : Nat → Nat → Int64, (∀ i, i < k → g 65 i = G 64 (40 * s + a + i)) → (∀ c, c ≠ 65 → g c = G c) → Go X m_X7_copy 123 [.ref 1, .int (nI s), .int (nI a), .int (nI t), .int (nI d), .int (nI l), .int (nI k)] [] (h.1, g) (EQ (some (.int (nI l)))) from hh 0 (by omega) G (fun i hi => absurd hi (by omega)) (fun c _ => rfl)
  refine down _ l ?_ ?_
  · intro g g1 g2
    refine vc_ok (st := [160]) 100 (br_t (Int32.le_refl _) ?_)
    suffices hh : ∀ k, k ≤ l → ∀ g' : Nat → Nat → Int64, (∀ i, i < k → g' 64 (40 * t + d + i) = G 64 (40 * s + a + i)) → (∀ i, ¬ (40 * t + d ≤ i ∧ i < 40 * t + d + k) → g' 64 i = G 64 i) → (∀ c, c ≠ 64 → g' c = g c) → Go X m_X7_copy 160 [.ref 1, .int (nI s), .int (nI a), .int (nI t), .int (nI d), .int (nI l), .int (nI k)] [] (h.1, g') (EQ (some (.int (nI l)))) from hh 0 (by omega) g (fun i hi => absurd hi (by omega)) (fun i _ => by rw [g2 64 (by omega)]) (fun c _ => rfl)
    refine down _ l ?_ ?_
    · intro g' j1 j2 j3
      refine vg (br_t (Int32.le_refl _) ⟨rfl, inv_sh I (fun c _ _ _ _ => rfl) (fun s' hs' => ?_)⟩)
      obtain ⟨b', n', o1, o2, o3, o4, o5, o6, o7, o8⟩ := is s' hs'
      refine ⟨b', n', o1, o2, o3, o4, o5, o6, o7, fun i hi => ?_⟩
      show g' (49 + s') i = g' 64 (40 * s' + i)
      rw [j3 _ (by omega), g2 _ (by omega), ← hG]
      by_cases e : s' = t
      · subst e
        rw [upr_at]
        by_cases e3 : d ≤ i ∧ i < d + l
        · obtain ⟨j, rfl⟩ : ∃ j, i = d + j := ⟨i - d, by omega⟩
          rw [pk_cpy_in (by omega) (by omega), ← Nat.add_assoc, j1 j (by omega), ← hG, upr_ne (by omega), q8 _ (by omega), show d + j - d = j by omega, ← Nat.add_assoc]
        · rw [pk_cpy_out (by omega), j2 _ (by omega), ← hG, upr_ne (by omega)]
          exact o8 i hi
      · rw [upr_ne (by omega), j2 _ (by omega), ← hG, upr_ne (by omega)]
        exact o8 i hi
    · intro k hk ih g' j1 j2 j3
      have ei : nI 40 * nI t + nI d + nI k = nI (40 * t + d + k) := by rw [pk_mul, nI_add, nI_add]
      have := ih (up2 g' 64 (40 * t + d + k) (g' 65 k)) (allS (fun i hi => by rw [u_ne (by omega)]; exact j1 i hi) (by rw [u_at, j3 65 (by omega)]; exact g1 k hk)) (fun i hi => by rw [u_ne (by omega)]; exact j2 i (by omega)) (fun c hc => by rw [up2_ne hc]; exact j3 c hc)
      rw [← nI_1] at this
      exact vc_ok (st := [160]) 100 (br_f (nI_ge hk (by omega)) ⟨k, rfl, by omega, 40 * t + d + k, ei, by omega, this⟩)
  · intro k hk ih g g1 g2
    have ei : nI 40 * nI s + nI a + nI k = nI (40 * s + a + k) := by rw [pk_mul, nI_add, nI_add]
    have := ih (up2 g 65 k (g 64 (40 * s + a + k))) (allS (fun i hi => by rw [u_ne (by omega)]; exact g1 i hi) (by rw [u_at, g2 64 (by omega)])) (fun c hc => by rw [up2_ne hc]; exact g2 c hc)
    rw [← nI_1] at this
    exact vc_ok (st := [123]) 100 (br_f (nI_ge hk (by omega)) ⟨40 * s + a + k, ei, by omega, k, rfl, by omega, this⟩)
end COPY
