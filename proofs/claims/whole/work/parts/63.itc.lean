/-! the text: the class's items -/
section ITC
variable {X : Xs} {h : Hp} {Q : Qt} {n : Nat} {B : Nat → Nat} {V : Vw} {f F : Nat → Nat → Int32} {g : Nat → Nat → Int64}
theorem rd_card (r : RD V (f, g)) {a e : Nat} : RD (cardV V a e) (up2 (up2 (up2 f 29 (V 0 0) (nI a)) 30 (V 0 0) (nI e)) 4 0 (nI (V 0 0 + 1)), g) := by
  refine ⟨⟨rfl, r.1.2.1, r.1.2.2⟩, fun c hc => ?_, r.2.2.1, r.2.2.2.1, r.2.2.2.2⟩
  have hc : c < V 0 0 + 1 := hc
  show up2 f 29 (V 0 0) (nI a) 29 c = nI (up2 V 1 (V 0 0) a 1 c) ∧ up2 (up2 f 29 (V 0 0) (nI a)) 30 (V 0 0) (nI e) 30 c = nI (up2 (up2 V 1 (V 0 0) a) 2 (V 0 0) e 2 c)
  by_cases z : c = V 0 0
  · subst z
    rw [u_at, u_at, u_at, u_at]
    exact ⟨rfl, rfl⟩
  · rw [u_ne z, u_ne z, u_ne z, u_ne z]
    exact r.2.1 c (by omega)
theorem rd_tie (r : RD V (f, g)) {t k : Nat} : RD (tieV V t k) (up2 f 31 t (nI k), g) := by
  refine ⟨r.1, r.2.1, fun i hi => ?_, r.2.2.2⟩
  show up2 f 31 t (nI k) 31 i = nI (up2 V 3 t k 3 i)
  by_cases z : i = t
  · subst z; rw [u_at, u_at]
  · rw [u_ne z, u_ne z]; exact r.2.2.1 i hi
theorem rd_law (r : RD V (f, g)) {k l : Nat} : RD (lawV V k l) (up2 (up2 (up2 (up2 f 33 (V 0 2) (nI k)) 34 (V 0 2) (nI l)) 35 (V 0 2) (nI 1)) 4 6 (nI (V 0 2 + 1)), g) := by
  refine ⟨⟨r.1.1, r.1.2.1, rfl⟩, r.2.1, r.2.2.1, r.2.2.2.1, fun i hi => ?_⟩
  have hi : i < V 0 2 + 1 := hi
  show up2 f 33 (V 0 2) (nI k) 33 i = nI (up2 V 5 (V 0 2) k 5 i) ∧ up2 (up2 f 33 (V 0 2) (nI k)) 34 (V 0 2) (nI l) 34 i = nI (up2 (up2 V 5 (V 0 2) k) 6 (V 0 2) l 6 i) ∧ up2 (up2 (up2 f 33 (V 0 2) (nI k)) 34 (V 0 2) (nI l)) 35 (V 0 2) (nI 1) 35 i = nI (up2 (up2 (up2 V 5 (V 0 2) k) 6 (V 0 2) l) 7 (V 0 2) 1 7 i)
  by_cases z : i = V 0 2
  · subst z
    rw [u_at, u_at, u_at, u_at, u_at, u_at]
    exact ⟨rfl, rfl, rfl⟩
  · rw [u_ne z, u_ne z, u_ne z, u_ne z, u_ne z, u_ne z]
    exact r.2.2.2.2 i (by omega)
theorem rd_row (r : RD V (f, g)) : RD (rowV V 0) (up2 f 4 4 (nI 0), g) := ⟨⟨r.1.1, rfl, r.1.2.2⟩, r.2.1, r.2.2.1, fun i hi => absurd hi (by show ¬ i < 0; omega), r.2.2.2.2⟩
theorem rd_pick {i c : Nat} (r : RD (rowV V i) (f, g)) : RD (rowV (pickV V i c) (i + 1)) (up2 (up2 f 32 i (nI c)) 4 4 (nI (i + 1)), g) := by
  refine ⟨⟨r.1.1, rfl, r.1.2.2⟩, r.2.1, r.2.2.1, fun j hj => ?_, r.2.2.2.2⟩
  have hj : j < i + 1 := hj
  show up2 f 32 i (nI c) 32 j = nI (up2 V 4 i c 4 j)
  by_cases z : j = i
  · subst z; rw [u_at, u_at]
  · rw [u_ne z, u_ne z]
    exact r.2.2.2.1 j (by show j < i; omega)
theorem rd_8 (r : RD V (F, g)) (e : ∀ c, c ≠ 8 → f c = F c) : RD V (f, g) := rc_cg r (e 4 (by decide)) (e 29 (by decide)) (e 30 (by decide)) (e 31 (by decide)) (e 32 (by decide)) (e 33 (by decide)) (e 34 (by decide)) (e 35 (by decide))
/-- all but the draft and the text is as it was -/
def DF (f F : Nat → Nat → Int32) : Prop := ∀ c, c ≠ 4 → c ≠ 8 → ¬ (29 ≤ c ∧ c ≤ 35) → f c = F c
/-- what the reading of an item leaves -/
def icC (n : Nat) (B : Nat → Nat) (res : Rs) (r : Int32) (f : Nat → Nat → Int32) (g : Nat → Nat → Int64) : Prop := TB n B f ∧ f 8 0 = nI n ∧ CT n B res.2.2 f ∧ ((res.1 = true ∧ r = 1 ∧ RD res.2.1 (f, g)) ∨ (res.1 = false ∧ (r = 0 ∨ (r = 1 ∧ tkP n B res.2.2 = 5))))
theorem ct_k {p k : Nat} (ct : CT n B p f) (h2 : k ≠ 2) (h5 : k ≠ 5) (hk : k < 5) : f 8 2 = nI k ↔ toR n B p = k := by
  have := tp_b n B p
  rw [ct.2.2.1, eq_n (by omega) (by omega), tp_o h2 h5]
theorem ct_2 {p : Nat} (ct : CT n B p f) : f 8 2 = nI 2 ↔ tkP n B p = 2 := by
  have := tp_b n B p
  rw [ct.2.2.1, eq_n (by omega) (by omega)]
theorem ct_n {p : Nat} (ct : CT n B p f) (e : tkP n B p = 2) : f 8 5 = nI (nmP n B p) ∧ nmP n B p ≤ 999 := ⟨ct.2.2.2 (tp_2.mp e).1, (tp_2.mp e).2⟩
theorem t_advS (hn : n ≤ 120) (hB : ∀ i, i < n → B i < 256) (tb : TB n B h.1) (h0 : h.1 8 0 = nI n) {p : Nat} (hp : p ≤ n) (ct : CT n B p h.1) (q : ∀ f : Nat → Nat → Int32, TB n B f → f 8 0 = nI n → CT n B (eZ n B p) f → (∀ c, c ≠ 8 → f c = h.1 c) → Q none (f, h.2)) : Go X m_X4_advance 0 [.ref 8] [] h Q := t_adv hn hB tb (eZ_b hp).2.2.1 h0 ct.2.1 (fun f c f0 fo => q f (by unfold TB; rw [fo 48 (by decide)]; exact tb) f0 c fo)
theorem ho_1 {s c k : Nat} (e : B (s + k) = c) : hoF B s c (k + 1) = hoF B s c k ||| 2 ^ k := by
  show hoF B s c k ||| (if B (s + k) = c then 2 ^ k else 0) = _
  rw [if_pos e]
theorem ho_0 {s c k : Nat} (e : ¬ B (s + k) = c) : hoF B s c (k + 1) = hoF B s c k := by
  show hoF B s c k ||| (if B (s + k) = c then 2 ^ k else 0) = _
  rw [if_neg e, Nat.or_zero]
theorem t_readCard (hn : n ≤ 120) (hB : ∀ i, i < n → B i < 256) (v : okV V) {p : Nat} (hp : p ≤ n) (tb : TB n B h.1) (h0 : h.1 8 0 = nI n) (ct : CT n B p h.1) (rd : RD V h) (q : ∀ (r : Int32) (f : Nat → Nat → Int32), icC n B (cardI n B V p) r f h.2 → DF f h.1 → Q (some (.int r)) (f, h.2)) : Go X m_X4_readCard 0 [.ref 8, .ref 4, .null, .null, .null] [] h Q := by
  have h1 := v.1
  have z := eZ_b (n := n) (B := B) hp
  have z1 := eZ_b (n := n) (B := B) z.2.2.1
  unfold cardI at q
  by_cases d : V 0 0 < 10
  case neg =>
    rw [if_neg d] at q
    exact vg (br_f (show ¬ h.1 4 0 < nI 10 by rw [rd.1.1]; exact nI_nlt (by omega) (by omega)) ⟨Or.inl rfl, q 0 h.1 ⟨tb, h0, ct, Or.inr ⟨rfl, Or.inl rfl⟩⟩ (fun _ _ _ _ => rfl)⟩)
  rw [if_pos d] at q
  refine vg (br_t (show h.1 4 0 < nI 10 by rw [rd.1.1]; exact nI_lt d (by omega)) (t_advS hn hB tb h0 hp ct (fun f tf f0 cf fo => ?_)))
  have rf : RD V (f, h.2) := rd_8 rd fo
  generalize eZ n B p = p1 at *
  have k3 := ct_k cf (k := 3) (by decide) (by decide) (by decide)
  have k8 : f 8 4 - f 8 3 = nI (eZ n B p1 - sk n B p1) := by rw [cf.2.1, cf.1, pk_sub z1.2.1]
  by_cases d2 : toR n B p1 = 3 ∧ eZ n B p1 - sk n B p1 = 8
  case neg =>
    rw [if_neg d2] at q
    have ff := q 0 f ⟨tf, f0, cf, Or.inr ⟨rfl, Or.inl rfl⟩⟩ (fun c _ c8 _ => fo c c8)
    by_cases t3 : toR n B p1 = 3
    · refine vg (brn_f (k3.mpr t3) (br_f ?_ ⟨Or.inl rfl, ff⟩))
      show ¬ f 8 4 - f 8 3 = nI 8
      rw [k8, nI_eq (by omega) (by omega)]
      exact fun w => d2 ⟨t3, w⟩
    · exact vg (brn_t (fun w => t3 (k3.mp w)) ⟨Or.inl rfl, ff⟩)
  rw [if_pos d2] at q
  have z8 := d2.2
  have f3 := cf.1
  generalize hs : sk n B p1 = s at *
  refine vc_ok (st := [46]) 100 (brn_f (k3.mpr d2.1) (br_t (show f 8 4 - f 8 3 = nI 8 by rw [k8, z8]) ?_))
  refine down (fun k => Go X m_X4_readCard 46 [.ref 8, .ref 4, .int (nI (hoF B s 35 k)), .int (nI (hoF B s 63 k)), .int (nI k)] [] (f, h.2) Q) 8 ?_ ?_ 0 (by omega)
  · refine vg (br_t (by decide) (t_addCardD (h := (f, h.2)) (n := V 0 0) d rf.1.1 (vg (t_advS (h := (up2 (up2 (up2 f 29 (V 0 0) (nI (hoF B s 35 8))) 30 (V 0 0) (nI (hoF B s 63 8))) 4 0 (nI (V 0 0 + 1)), h.2)) hn hB tf f0 z.2.2.1 cf (fun k tk k0 ck ko => vg ⟨Or.inr rfl, q 1 k ⟨tk, k0, ck, Or.inl ⟨rfl, rfl, rd_8 (rd_card rf) ko⟩⟩ (fun c c4 c8 cr => ?_)⟩)))))
    have ko : k c = up2 (up2 (up2 f 29 (V 0 0) (nI (hoF B s 35 8))) 30 (V 0 0) (nI (hoF B s 63 8))) 4 0 (nI (V 0 0 + 1)) c := ko c c8
    rw [ko, up2_ne c4, up2_ne (by omega), up2_ne (by omega)]
    exact fo c c8
  · intro k hk ih
    have ix : f 8 3 + nI k = nI (s + k) := by rw [f3, nI_add]
    have e48 : f 48 (s + k) = nI (B (s + k)) := tf _ (by omega)
    have b8 := hB (s + k) (by omega)
    have sh1 := shl1 k (by omega)
    by_cases c35 : B (s + k) = 35
    · have ih : Go X m_X4_readCard 46 [.ref 8, .ref 4, .int (nI (hoF B s 35 (k + 1))), .int (nI (hoF B s 63 (k + 1))), .int (nI (k + 1))] [] (f, h.2) Q := ih
      rw [ho_1 c35, ho_0 (show ¬ B (s + k) = 63 by omega), ← nI_or, ← sh1, ← nI_1] at ih
      exact vc_ok (st := [46]) 100 (br_f (nI_ge hk (by decide)) ⟨s + k, ix, by omega, brn_f (show f 48 (s + k) = nI 35 by rw [e48, c35]) ih⟩)
    · by_cases c63 : B (s + k) = 63
      · have ih : Go X m_X4_readCard 46 [.ref 8, .ref 4, .int (nI (hoF B s 35 (k + 1))), .int (nI (hoF B s 63 (k + 1))), .int (nI (k + 1))] [] (f, h.2) Q := ih
        rw [ho_0 c35, ho_1 c63, ← nI_or, ← sh1, ← nI_1] at ih
        exact vc_ok (st := [46]) 100 (br_f (nI_ge hk (by decide)) ⟨s + k, ix, by omega, brn_t (show ¬ f 48 (s + k) = nI 35 by rw [e48, eq_n (by omega) (by omega)]; exact c35) ⟨s + k, ix, by omega, brn_f (show f 48 (s + k) = nI 63 by rw [e48, c63]) ih⟩⟩)
      · have ih : Go X m_X4_readCard 46 [.ref 8, .ref 4, .int (nI (hoF B s 35 (k + 1))), .int (nI (hoF B s 63 (k + 1))), .int (nI (k + 1))] [] (f, h.2) Q := ih
        rw [ho_0 c35, ho_0 c63, ← nI_1] at ih
        exact vc_ok (st := [46]) 100 (br_f (nI_ge hk (by decide)) ⟨s + k, ix, by omega, brn_t (show ¬ f 48 (s + k) = nI 35 by rw [e48, eq_n (by omega) (by omega)]; exact c35) ⟨s + k, ix, by omega, brn_t (show ¬ f 48 (s + k) = nI 63 by rw [e48, eq_n (by omega) (by omega)]; exact c63) ih⟩⟩)
theorem in_nI {a k : Nat} (ha : a < 2 ^ 31) : (0 ≤ (nI a).toInt ∧ (nI a).toInt < k) ↔ a < k := by
  rw [nT ha]
  omega
theorem t_readTie (hn : n ≤ 120) (hB : ∀ i, i < n → B i < 256) {p : Nat} (hp : p ≤ n) (tb : TB n B h.1) (h0 : h.1 8 0 = nI n) (ct : CT n B p h.1) (rd : RD V h) (q : ∀ (r : Int32) (f : Nat → Nat → Int32), icC n B (tieI n B V p) r f h.2 → DF f h.1 → Q (some (.int r)) (f, h.2)) : Go X m_X4_readTie 0 [.ref 8, .ref 4, .null] [] h Q := by
  have z := eZ_b (n := n) (B := B) hp
  have z1 := eZ_b (n := n) (B := B) z.2.2.1
  unfold tieI at q
  refine vg (t_advS hn hB tb h0 hp ct (fun f tf f0 cf fo => ?_))
  have rf : RD V (f, h.2) := rd_8 rd fo
  generalize eZ n B p = p1 at *
  have k2 := ct_2 cf
  by_cases d : tkP n B p1 = 2 ∧ nmP n B p1 < 16
  case neg =>
    rw [if_neg d] at q
    have ff := q 0 f ⟨tf, f0, cf, Or.inr ⟨rfl, Or.inl rfl⟩⟩ (fun c _ c8 _ => fo c c8)
    by_cases t2 : tkP n B p1 = 2
    · obtain ⟨e5, l5⟩ := ct_n cf t2
      refine vg (brn_f (k2.mpr t2) ?_)
      show Go X m_X6_isThread 0 [.int (f 8 5)] [] (f, h.2) _
      rw [e5]
      exact t_isThread (fun w => absurd ⟨t2, (in_nI (by omega)).mp w⟩ d) (fun _ => vg (brn_f rfl ⟨Or.inl rfl, ff⟩))
    · exact vg (brn_t (fun w => t2 (k2.mp w)) ⟨Or.inl rfl, ff⟩)
  rw [if_pos d] at q
  obtain ⟨e5, l5⟩ := ct_n cf d.1
  refine vg (brn_f (k2.mpr d.1) ?_)
  show Go X m_X6_isThread 0 [.int (f 8 5)] [] (f, h.2) _
  rw [e5]
  refine t_isThread (fun _ => vg (brn_t (by decide) ?_)) (fun w => absurd ((in_nI (by omega)).mpr d.2) w)
  show Go X m_X4_advance 0 [.ref 8] [] (f, h.2) (fun v h' => Go X m_X4_readTie 33 [.ref 8, .ref 4, .int (f 8 5)] (pushO v []) h' Q)
  rw [e5]
  refine t_advS (h := (f, h.2)) hn hB tf f0 z.2.2.1 cf (fun k tk k0 ck ko => ?_)
  have ko : ∀ c, c ≠ 8 → k c = f c := ko
  have rk : RD V (k, h.2) := rd_8 rf ko
  generalize eZ n B p1 = p2 at *
  have k22 := ct_2 ck
  have dk : DF k h.1 := fun c _ c8 _ => (ko c c8).trans (fo c c8)
  by_cases d2 : tkP n B p2 = 2 ∧ nmP n B p2 < 8
  case neg =>
    rw [if_neg d2] at q
    have ff := q 0 k ⟨tk, k0, ck, Or.inr ⟨rfl, Or.inl rfl⟩⟩ dk
    by_cases t2 : tkP n B p2 = 2
    · obtain ⟨g5, m5⟩ := ct_n ck t2
      refine vg (brn_f (k22.mpr t2) ?_)
      show Go X m_X6_isHook 0 [.int (k 8 5)] [] (k, h.2) _
      rw [g5]
      exact t_isHook (fun w => absurd ⟨t2, (in_nI (by omega)).mp w⟩ d2) (fun _ => vg (brn_f rfl ⟨Or.inl rfl, ff⟩))
    · exact vg (brn_t (fun w => t2 (k22.mp w)) ⟨Or.inl rfl, ff⟩)
  rw [if_pos d2] at q
  obtain ⟨g5, m5⟩ := ct_n ck d2.1
  refine vg (brn_f (k22.mpr d2.1) ?_)
  show Go X m_X6_isHook 0 [.int (k 8 5)] [] (k, h.2) _
  rw [g5]
  refine t_isHook (fun _ => vg (brn_t (by decide) ⟨nmP n B p1, rfl, d.2, ?_⟩)) (fun w => absurd ((in_nI (by omega)).mpr d2.2) w)
  show Go X m_X4_advance 0 [.ref 8] [] (up2 k 31 (nmP n B p1) (k 8 5), h.2) _
  rw [g5]
  refine t_advS (h := (up2 k 31 (nmP n B p1) (nI (nmP n B p2)), h.2)) hn hB tk k0 z1.2.2.1 ck (fun k3 tk3 k30 ck3 ko3 => vg ⟨Or.inr rfl, q 1 k3 ⟨tk3, k30, ck3, Or.inl ⟨rfl, rfl, rd_8 (rd_tie rk) ko3⟩⟩ (fun c c4 c8 cr => ?_)⟩)
  have ko3 : k3 c = up2 k 31 (nmP n B p1) (nI (nmP n B p2)) c := ko3 c c8
  rw [ko3, up2_ne (by omega)]
  exact dk c c4 c8 cr
theorem t_readLaw (hn : n ≤ 120) (hB : ∀ i, i < n → B i < 256) (v : okV V) {p kd : Nat} (hp : p ≤ n) (tb : TB n B h.1) (h0 : h.1 8 0 = nI n) (ct : CT n B p h.1) (rd : RD V h) (q : ∀ (r : Int32) (f : Nat → Nat → Int32), icC n B (lawI n B V p kd) r f h.2 → DF f h.1 → Q (some (.int r)) (f, h.2)) : Go X m_X4_readLaw 0 [.ref 8, .ref 4, .int (nI kd)] [] h Q := by
  have h1 := v.1
  have z := eZ_b (n := n) (B := B) hp
  have z1 := eZ_b (n := n) (B := B) z.2.2.1
  unfold lawI at q
  by_cases d : V 0 2 < 6
  case neg =>
    rw [if_neg d] at q
    exact vg (br_f (show ¬ h.1 4 6 < nI 6 by rw [rd.1.2.2]; exact nI_nlt (by omega) (by omega)) ⟨Or.inl rfl, q 0 h.1 ⟨tb, h0, ct, Or.inr ⟨rfl, Or.inl rfl⟩⟩ (fun _ _ _ _ => rfl)⟩)
  rw [if_pos d] at q
  refine vg (br_t (show h.1 4 6 < nI 6 by rw [rd.1.2.2]; exact nI_lt d (by omega)) (t_advS hn hB tb h0 hp ct (fun f tf f0 cf fo => ?_)))
  have rf : RD V (f, h.2) := rd_8 rd fo
  generalize eZ n B p = p1 at *
  have k2 := ct_2 cf
  by_cases d2 : tkP n B p1 = 2 ∧ 1 ≤ nmP n B p1 ∧ nmP n B p1 ≤ 16
  case neg =>
    rw [if_neg d2] at q
    have ff := q 0 f ⟨tf, f0, cf, Or.inr ⟨rfl, Or.inl rfl⟩⟩ (fun c _ c8 _ => fo c c8)
    by_cases t2 : tkP n B p1 = 2
    · obtain ⟨e5, l5⟩ := ct_n cf t2
      refine vg (brn_f (k2.mpr t2) ?_)
      show Go X m_X6_isLimit 0 [.int (f 8 5)] [] (f, h.2) _
      rw [e5]
      exact t_isLimit (fun w => absurd ⟨t2, by rw [nT (by omega)] at w; omega⟩ d2) (fun _ => vg (brn_f rfl ⟨Or.inl rfl, ff⟩))
    · exact vg (brn_t (fun w => t2 (k2.mp w)) ⟨Or.inl rfl, ff⟩)
  rw [if_pos d2] at q
  obtain ⟨e5, l5⟩ := ct_n cf d2.1
  refine vg (brn_f (k2.mpr d2.1) ?_)
  show Go X m_X6_isLimit 0 [.int (f 8 5)] [] (f, h.2) _
  rw [e5]
  refine t_isLimit (fun _ => vg (brn_t (by decide) ?_)) (fun w => absurd (by rw [nT (by omega)]; omega) w)
  show Go X m_X1_addLaw 0 [.ref 4, .int (nI kd), .int (f 8 5)] [] (f, h.2) _
  rw [e5]
  refine t_addLawD (h := (f, h.2)) (n := V 0 2) d rf.1.2.2 (vg (t_advS (h := (up2 (up2 (up2 (up2 f 33 (V 0 2) (nI kd)) 34 (V 0 2) (nI (nmP n B p1))) 35 (V 0 2) (nI 1)) 4 6 (nI (V 0 2 + 1)), h.2)) hn hB tf f0 z.2.2.1 cf (fun k tk k0 ck ko => vg ⟨Or.inr rfl, q 1 k ⟨tk, k0, ck, Or.inl ⟨rfl, rfl, rd_8 (rd_law rf) ko⟩⟩ (fun c c4 c8 cr => ?_)⟩)))
  have ko : k c = up2 (up2 (up2 (up2 f 33 (V 0 2) (nI kd)) 34 (V 0 2) (nI (nmP n B p1))) 35 (V 0 2) (nI 1)) 4 6 (nI (V 0 2 + 1)) c := ko c c8
  rw [ko, up2_ne c4, up2_ne (by omega), up2_ne (by omega), up2_ne (by omega)]
  exact fo c c8
/-- the end of an order -/
theorem t_ordE {i p : Nat} {l2 : Int32} (hi : i ≤ 20) (tb : TB n B f) (f0 : f 8 0 = nI n) (ct : CT n B p f) (rd : RD (rowV V i) (f, g)) (df : DF f F) (q : ∀ (r : Int32) (f : Nat → Nat → Int32), icC n B (ordE n B (i, V, p)) r f g → DF f F → Q (some (.int r)) (f, g)) : Go X m_X4_readOrder 54 [.ref 8, .ref 4, .int l2] [] (f, g) Q := by
  have k2 := ct_2 ct
  have e4 : f 4 4 = nI i := rd.1.2.1
  unfold ordE at q
  by_cases c : 0 < i
  · have e : ¬ f 4 4 ≤ 0 := by rw [e4]; exact nI_nle c (by omega)
    by_cases t2 : tkP n B p = 2
    · rw [if_neg (fun z => z.2 (tp_2.mp t2).1)] at q
      exact vg (br_f e (br_t (k2.mpr t2) ⟨Or.inl rfl, q 0 f ⟨tb, f0, ct, Or.inr ⟨rfl, Or.inl rfl⟩⟩ df⟩))
    · refine vg (br_f e (br_f (fun z => t2 (k2.mp z)) ⟨Or.inr rfl, q 1 f ?_ df⟩))
      by_cases r2 : toR n B p = 2
      · rw [if_neg (fun z => z.2 r2)]
        refine ⟨tb, f0, ct, Or.inr ⟨rfl, Or.inr ⟨rfl, ?_⟩⟩⟩
        show tkP n B p = 5
        have w : ¬ nmP n B p ≤ 999 := fun z => t2 (tp_2.mpr ⟨r2, z⟩)
        unfold tkP
        rw [if_pos ⟨r2, by omega⟩]
      · rw [if_pos ⟨c, r2⟩]
        exact ⟨tb, f0, ct, Or.inl ⟨rfl, rfl, rd⟩⟩
  · rw [if_neg (fun z => c z.1)] at q
    refine vg (br_t (show f 4 4 ≤ 0 by rw [e4, show i = 0 by omega]; decide) ⟨Or.inl rfl, q 0 f ⟨tb, f0, ct, Or.inr ⟨rfl, Or.inl rfl⟩⟩ df⟩)
theorem t_ordL (hn : n ≤ 120) (hB : ∀ i, i < n → B i < 256) : ∀ (m i : Nat) (V : Vw) (p : Nat) (f : Nat → Nat → Int32), i + m = 20 → V 0 0 ≤ 10 → p ≤ n → TB n B f → f 8 0 = nI n → CT n B p f → RD (rowV V i) (f, g) → DF f F → (∀ (r : Int32) (f : Nat → Nat → Int32), icC n B (ordE n B (ordF n B m i V p)) r f g → DF f F → Q (some (.int r)) (f, g)) → Go X m_X4_readOrder 11 [.ref 8, .ref 4, .int (nI i)] [] (f, g) Q
  | 0, i, V, p, f, hm, hV, hp, tb, f0, ct, rd, df, q => by
    have : i = 20 := by omega
    subst this
    exact vc_ok (st := [54]) 40 (br_t (by decide) (t_ordE (by omega) tb f0 ct rd df q))
  | m + 1, i, V, p, f, hm, hV, hp, tb, f0, ct, rd, df, q => by
    have k2 := ct_2 ct
    have z := eZ_b (n := n) (B := B) hp
    have e0 : f 4 0 = nI (V 0 0) := rd.1.1
    have e4 : f 4 4 = nI i := rd.1.2.1
    by_cases t2 : tkP n B p = 2
    case neg =>
      have e : ordF n B (m + 1) i V p = (i, V, p) := by
        show (if tkP n B p = 2 ∧ nmP n B p < V 0 0 then ordF n B m (i + 1) (pickV V i (nmP n B p)) (eZ n B p) else (i, V, p)) = _
        rw [if_neg (fun w => t2 w.1)]
      rw [e] at q
      exact vc_ok (st := [54]) 40 (br_f (nI_ge (a := i) (b := 20) (by omega) (by omega)) (brn_t (fun w => t2 (k2.mp w)) (t_ordE (by omega) tb f0 ct rd df q)))
    obtain ⟨e5, l5⟩ := ct_n ct t2
    refine vg (br_f (nI_ge (a := i) (b := 20) (by omega) (by omega)) (brn_f (k2.mpr t2) ?_))
    show Go X m_X1_hasCard 0 [.ref 4, .int (f 8 5)] [] (f, g) _
    rw [e5]
    refine t_hasCardD (h := (f, g)) hV e0 (fun w => ?_) (fun w => ?_)
    · have hc := (in_nI (by omega)).mp w
      have e : ordF n B (m + 1) i V p = ordF n B m (i + 1) (pickV V i (nmP n B p)) (eZ n B p) := by
        show (if tkP n B p = 2 ∧ nmP n B p < V 0 0 then ordF n B m (i + 1) (pickV V i (nmP n B p)) (eZ n B p) else (i, V, p)) = _
        rw [if_pos ⟨t2, hc⟩]
      rw [e] at q
      refine vg (br_f (by decide) ?_)
      show Go X m_X1_addPick 0 [.ref 4, .int (f 8 5)] [] (f, g) _
      rw [e5]
      refine t_addPickD (h := (f, g)) (n := i) (by omega) e4 (vg (t_advS (h := (up2 (up2 f 32 i (nI (nmP n B p))) 4 4 (nI (i + 1)), g)) hn hB tb f0 hp ct (fun k tk k0 ck ko => ?_)))
      have ko : ∀ c, c ≠ 8 → k c = up2 (up2 f 32 i (nI (nmP n B p))) 4 4 (nI (i + 1)) c := ko
      have nx := t_ordL hn hB m (i + 1) (pickV V i (nmP n B p)) (eZ n B p) k (by omega) hV z.2.2.1 tk k0 ck (rd_8 (rd_pick rd) ko) (fun c c4 c8 cr => by rw [ko c c8, up2_ne c4, up2_ne (by omega)]; exact df c c4 c8 cr) q
      rw [← nI_1] at nx
      exact vc_ok (st := [11]) 100 nx
    · have e : ordF n B (m + 1) i V p = (i, V, p) := by
        show (if tkP n B p = 2 ∧ nmP n B p < V 0 0 then ordF n B m (i + 1) (pickV V i (nmP n B p)) (eZ n B p) else (i, V, p)) = _
        rw [if_neg (fun y => w ((in_nI (by omega)).mpr y.2))]
      rw [e] at q
      exact vc_ok (st := [54]) 40 (br_t rfl (t_ordE (by omega) tb f0 ct rd df q))
theorem t_readOrder (hn : n ≤ 120) (hB : ∀ i, i < n → B i < 256) (v : okV V) {p : Nat} (hp : p ≤ n) (tb : TB n B h.1) (h0 : h.1 8 0 = nI n) (ct : CT n B p h.1) (rd : RD V h) (q : ∀ (r : Int32) (f : Nat → Nat → Int32), icC n B (ordI n B V p) r f h.2 → DF f h.1 → Q (some (.int r)) (f, h.2)) : Go X m_X4_readOrder 0 [.ref 8, .ref 4, .null] [] h Q := by
  have z := eZ_b (n := n) (B := B) hp
  refine vg (t_advS hn hB tb h0 hp ct (fun f tf f0 cf fo => vc_ok (st := [11]) 100 ?_))
  have rf : RD V (f, h.2) := rd_8 rd fo
  exact t_ordL hn hB 20 0 V (eZ n B p) (up2 f 4 4 (nI 0)) rfl v.1.1 z.2.2.1 tf f0 cf (rd_row rf) (fun c c4 c8 cr => by rw [up2_ne c4]; exact fo c c8) q
end ITC
