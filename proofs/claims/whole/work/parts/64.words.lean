/-! the text: strings, the class's words -/
section WOR
variable {X : Xs} {h : Hp} {Q : Qt} {n : Nat} {B : Nat → Nat} {V : Vw}
theorem ch_ok : ∀ q, q < 9 → ∀ j, j < strN.getD q 0 → ((((strB.getD q []).getD j 0 &&& 255).toUInt32 % 65536).toInt32 = nI ((wd q).getD j 0)) ∧ narrow .char (.int ((((strB.getD q []).getD j 0 &&& 255).toUInt32 % 65536).toInt32)) = .int ((((strB.getD q []).getD j 0 &&& 255).toUInt32 % 65536).toInt32) := by decide +kernel
theorem wd_len : ∀ q, q < 9 → strN.getD q 0 = (wd q).length := by decide +kernel
theorem t_check {j k : Nat} (hj : j < k) (hk : k < 100) (q : Q (some (.int (nI j))) h) : Go X m_J3_checkIndex_8e157 0 [.int (nI j), .int (nI k), .null] [] h Q := vg (br_f (nI_pos (by omega)) (br_t (nI_lt hj (by omega)) q))
theorem t_check0 {j k : Nat} (hj : j < k) (hk : k < 100) (q : Q none h) : Go X m_J0_checkIndex_df160 0 [.int (nI j), .int (nI k)] [] h Q := vg (t_check hj hk (vg q))
theorem t_coder_0 (q : Q (some (.int 0)) h) : Go X m_J0_coder_7d493 0 [.ref 2000] [] h Q := vg (br_f (by decide) ⟨rfl, q⟩)
theorem t_length_0 (q : Q (some (.int (nI 4))) h) : Go X m_J0_length_8abf5 0 [.ref 2000] [] h Q := vg (t_coder_0 (vg q))
theorem t_latin_0 (q : Q (some (.int 1)) h) : Go X m_J0_isLatin1_aae02 0 [.ref 2000] [] h Q := vg (br_f (by decide) (brn_f rfl ⟨Or.inr rfl, q⟩))
theorem t_ch_0 {j : Nat} (hj : j < 4) (q : Q (some (.int (nI ((wd 0).getD j 0)))) h) : Go X m_J1_charAt_3b067 0 [.ref 2100, .int (nI j)] [] h Q := by
  obtain ⟨e1, e2⟩ := ch_ok 0 (by decide) j hj
  rw [← e1] at q
  exact vg (t_check0 hj (by decide) (vg ⟨j, rfl, hj, e2, q⟩))
theorem t_charAt_0 {j : Nat} (hj : j < 4) (q : Q (some (.int (nI ((wd 0).getD j 0)))) h) : Go X m_J0_charAt_5068e 0 [.ref 2000, .int (nI j)] [] h Q := by
  obtain ⟨e1, e2⟩ := ch_ok 0 (by decide) j hj
  rw [e1] at e2
  exact vg (t_latin_0 (vg (br_f (by decide) (t_ch_0 hj (vg ⟨e2, q⟩)))))
theorem t_isWord_0 (hn : n ≤ 120) (hB : ∀ i, i < n → B i < 256) (tb : TB n B h.1) {s e : Nat} (hse : s ≤ e) (hen : e ≤ n) (h3 : h.1 8 3 = nI s) (h4 : h.1 8 4 = nI e) (a : eqW B s (e - s) 0 = true → Q (some (.int 1)) h) (b : ¬ eqW B s (e - s) 0 = true → Q (some (.int 0)) h) : Go X m_X4_isWord 0 [.ref 8, .ref 2000, .null] [] h Q := by
  have ed : h.1 8 4 - h.1 8 3 = nI (e - s) := by rw [h4, h3, pk_sub hse]
  by_cases c : e - s = 4
  case neg => exact vg (t_length_0 (vg (br_f (show ¬ h.1 8 4 - h.1 8 3 = nI 4 by rw [ed, nI_eq (by omega) (by omega)]; exact c) ⟨Or.inl rfl, b (fun z => c ((eqW_iff.mp z).1.trans rfl))⟩)))
  refine vg (t_length_0 (vc_ok (st := [20]) 40 (br_t (show h.1 8 4 - h.1 8 3 = nI 4 by rw [ed, c]) ?_)))
  suffices hh : ∀ k, k ≤ 4 → (∀ j, j < k → B (s + j) = (wd 0).getD j 0) → Go X m_X4_isWord 20 [.ref 8, .ref 2000, .int (nI k)] [] h Q from hh 0 (by omega) (fun j hj => absurd hj (by omega))
  refine down _ 4 ?_ ?_
  · intro al
    exact vg (t_length_0 (vg (br_t (by decide) ⟨Or.inr rfl, a (eqW_iff.mpr ⟨c.trans rfl, fun j hj => al j (by omega)⟩)⟩)))
  · intro k hk ih al
    have e48 : h.1 48 (s + k) = nI (B (s + k)) := tb _ (by omega)
    have b8 := hB (s + k) (by omega)
    have wb : ∀ j, j < 4 → (wd 0).getD j 0 < 256 := by decide +kernel
    have wk := wb k hk
    refine vg (t_length_0 (vg (br_f (nI_ge hk (by decide)) ⟨s + k, by rw [h3, nI_add], by omega, t_charAt_0 hk ?_⟩)))
    by_cases d : B (s + k) = (wd 0).getD k 0
    · have nx := ih (allS al d)
      rw [← nI_1] at nx
      exact vc_ok (st := [20]) 40 (br_t (show h.1 48 (s + k) = nI ((wd 0).getD k 0) by rw [e48, d]) nx)
    · exact vg (br_f (show ¬ h.1 48 (s + k) = nI ((wd 0).getD k 0) by rw [e48, eq_n (by omega) (by omega)]; exact d) ⟨Or.inl rfl, b (fun z => d ((eqW_iff.mp z).2 k (by omega)))⟩)
theorem t_coder_1 (q : Q (some (.int 0)) h) : Go X m_J0_coder_7d493 0 [.ref 2001] [] h Q := vg (br_f (by decide) ⟨rfl, q⟩)
theorem t_length_1 (q : Q (some (.int (nI 3))) h) : Go X m_J0_length_8abf5 0 [.ref 2001] [] h Q := vg (t_coder_1 (vg q))
theorem t_latin_1 (q : Q (some (.int 1)) h) : Go X m_J0_isLatin1_aae02 0 [.ref 2001] [] h Q := vg (br_f (by decide) (brn_f rfl ⟨Or.inr rfl, q⟩))
theorem t_ch_1 {j : Nat} (hj : j < 3) (q : Q (some (.int (nI ((wd 1).getD j 0)))) h) : Go X m_J1_charAt_3b067 0 [.ref 2101, .int (nI j)] [] h Q := by
  obtain ⟨e1, e2⟩ := ch_ok 1 (by decide) j hj
  rw [← e1] at q
  exact vg (t_check0 hj (by decide) (vg ⟨j, rfl, hj, e2, q⟩))
theorem t_charAt_1 {j : Nat} (hj : j < 3) (q : Q (some (.int (nI ((wd 1).getD j 0)))) h) : Go X m_J0_charAt_5068e 0 [.ref 2001, .int (nI j)] [] h Q := by
  obtain ⟨e1, e2⟩ := ch_ok 1 (by decide) j hj
  rw [e1] at e2
  exact vg (t_latin_1 (vg (br_f (by decide) (t_ch_1 hj (vg ⟨e2, q⟩)))))
theorem t_isWord_1 (hn : n ≤ 120) (hB : ∀ i, i < n → B i < 256) (tb : TB n B h.1) {s e : Nat} (hse : s ≤ e) (hen : e ≤ n) (h3 : h.1 8 3 = nI s) (h4 : h.1 8 4 = nI e) (a : eqW B s (e - s) 1 = true → Q (some (.int 1)) h) (b : ¬ eqW B s (e - s) 1 = true → Q (some (.int 0)) h) : Go X m_X4_isWord 0 [.ref 8, .ref 2001, .null] [] h Q := by
  have ed : h.1 8 4 - h.1 8 3 = nI (e - s) := by rw [h4, h3, pk_sub hse]
  by_cases c : e - s = 3
  case neg => exact vg (t_length_1 (vg (br_f (show ¬ h.1 8 4 - h.1 8 3 = nI 3 by rw [ed, nI_eq (by omega) (by omega)]; exact c) ⟨Or.inl rfl, b (fun z => c ((eqW_iff.mp z).1.trans rfl))⟩)))
  refine vg (t_length_1 (vc_ok (st := [20]) 40 (br_t (show h.1 8 4 - h.1 8 3 = nI 3 by rw [ed, c]) ?_)))
  suffices hh : ∀ k, k ≤ 3 → (∀ j, j < k → B (s + j) = (wd 1).getD j 0) → Go X m_X4_isWord 20 [.ref 8, .ref 2001, .int (nI k)] [] h Q from hh 0 (by omega) (fun j hj => absurd hj (by omega))
  refine down _ 3 ?_ ?_
  · intro al
    exact vg (t_length_1 (vg (br_t (by decide) ⟨Or.inr rfl, a (eqW_iff.mpr ⟨c.trans rfl, fun j hj => al j (by omega)⟩)⟩)))
  · intro k hk ih al
    have e48 : h.1 48 (s + k) = nI (B (s + k)) := tb _ (by omega)
    have b8 := hB (s + k) (by omega)
    have wb : ∀ j, j < 3 → (wd 1).getD j 0 < 256 := by decide +kernel
    have wk := wb k hk
    refine vg (t_length_1 (vg (br_f (nI_ge hk (by decide)) ⟨s + k, by rw [h3, nI_add], by omega, t_charAt_1 hk ?_⟩)))
    by_cases d : B (s + k) = (wd 1).getD k 0
    · have nx := ih (allS al d)
      rw [← nI_1] at nx
      exact vc_ok (st := [20]) 40 (br_t (show h.1 48 (s + k) = nI ((wd 1).getD k 0) by rw [e48, d]) nx)
    · exact vg (br_f (show ¬ h.1 48 (s + k) = nI ((wd 1).getD k 0) by rw [e48, eq_n (by omega) (by omega)]; exact d) ⟨Or.inl rfl, b (fun z => d ((eqW_iff.mp z).2 k (by omega)))⟩)
theorem t_coder_2 (q : Q (some (.int 0)) h) : Go X m_J0_coder_7d493 0 [.ref 2002] [] h Q := vg (br_f (by decide) ⟨rfl, q⟩)
theorem t_length_2 (q : Q (some (.int (nI 5))) h) : Go X m_J0_length_8abf5 0 [.ref 2002] [] h Q := vg (t_coder_2 (vg q))
theorem t_latin_2 (q : Q (some (.int 1)) h) : Go X m_J0_isLatin1_aae02 0 [.ref 2002] [] h Q := vg (br_f (by decide) (brn_f rfl ⟨Or.inr rfl, q⟩))
theorem t_ch_2 {j : Nat} (hj : j < 5) (q : Q (some (.int (nI ((wd 2).getD j 0)))) h) : Go X m_J1_charAt_3b067 0 [.ref 2102, .int (nI j)] [] h Q := by
  obtain ⟨e1, e2⟩ := ch_ok 2 (by decide) j hj
  rw [← e1] at q
  exact vg (t_check0 hj (by decide) (vg ⟨j, rfl, hj, e2, q⟩))
theorem t_charAt_2 {j : Nat} (hj : j < 5) (q : Q (some (.int (nI ((wd 2).getD j 0)))) h) : Go X m_J0_charAt_5068e 0 [.ref 2002, .int (nI j)] [] h Q := by
  obtain ⟨e1, e2⟩ := ch_ok 2 (by decide) j hj
  rw [e1] at e2
  exact vg (t_latin_2 (vg (br_f (by decide) (t_ch_2 hj (vg ⟨e2, q⟩)))))
theorem t_isWord_2 (hn : n ≤ 120) (hB : ∀ i, i < n → B i < 256) (tb : TB n B h.1) {s e : Nat} (hse : s ≤ e) (hen : e ≤ n) (h3 : h.1 8 3 = nI s) (h4 : h.1 8 4 = nI e) (a : eqW B s (e - s) 2 = true → Q (some (.int 1)) h) (b : ¬ eqW B s (e - s) 2 = true → Q (some (.int 0)) h) : Go X m_X4_isWord 0 [.ref 8, .ref 2002, .null] [] h Q := by
  have ed : h.1 8 4 - h.1 8 3 = nI (e - s) := by rw [h4, h3, pk_sub hse]
  by_cases c : e - s = 5
  case neg => exact vg (t_length_2 (vg (br_f (show ¬ h.1 8 4 - h.1 8 3 = nI 5 by rw [ed, nI_eq (by omega) (by omega)]; exact c) ⟨Or.inl rfl, b (fun z => c ((eqW_iff.mp z).1.trans rfl))⟩)))
  refine vg (t_length_2 (vc_ok (st := [20]) 40 (br_t (show h.1 8 4 - h.1 8 3 = nI 5 by rw [ed, c]) ?_)))
  suffices hh : ∀ k, k ≤ 5 → (∀ j, j < k → B (s + j) = (wd 2).getD j 0) → Go X m_X4_isWord 20 [.ref 8, .ref 2002, .int (nI k)] [] h Q from hh 0 (by omega) (fun j hj => absurd hj (by omega))
  refine down _ 5 ?_ ?_
  · intro al
    exact vg (t_length_2 (vg (br_t (by decide) ⟨Or.inr rfl, a (eqW_iff.mpr ⟨c.trans rfl, fun j hj => al j (by omega)⟩)⟩)))
  · intro k hk ih al
    have e48 : h.1 48 (s + k) = nI (B (s + k)) := tb _ (by omega)
    have b8 := hB (s + k) (by omega)
    have wb : ∀ j, j < 5 → (wd 2).getD j 0 < 256 := by decide +kernel
    have wk := wb k hk
    refine vg (t_length_2 (vg (br_f (nI_ge hk (by decide)) ⟨s + k, by rw [h3, nI_add], by omega, t_charAt_2 hk ?_⟩)))
    by_cases d : B (s + k) = (wd 2).getD k 0
    · have nx := ih (allS al d)
      rw [← nI_1] at nx
      exact vc_ok (st := [20]) 40 (br_t (show h.1 48 (s + k) = nI ((wd 2).getD k 0) by rw [e48, d]) nx)
    · exact vg (br_f (show ¬ h.1 48 (s + k) = nI ((wd 2).getD k 0) by rw [e48, eq_n (by omega) (by omega)]; exact d) ⟨Or.inl rfl, b (fun z => d ((eqW_iff.mp z).2 k (by omega)))⟩)
theorem t_coder_3 (q : Q (some (.int 0)) h) : Go X m_J0_coder_7d493 0 [.ref 2003] [] h Q := vg (br_f (by decide) ⟨rfl, q⟩)
theorem t_length_3 (q : Q (some (.int (nI 3))) h) : Go X m_J0_length_8abf5 0 [.ref 2003] [] h Q := vg (t_coder_3 (vg q))
theorem t_latin_3 (q : Q (some (.int 1)) h) : Go X m_J0_isLatin1_aae02 0 [.ref 2003] [] h Q := vg (br_f (by decide) (brn_f rfl ⟨Or.inr rfl, q⟩))
theorem t_ch_3 {j : Nat} (hj : j < 3) (q : Q (some (.int (nI ((wd 3).getD j 0)))) h) : Go X m_J1_charAt_3b067 0 [.ref 2103, .int (nI j)] [] h Q := by
  obtain ⟨e1, e2⟩ := ch_ok 3 (by decide) j hj
  rw [← e1] at q
  exact vg (t_check0 hj (by decide) (vg ⟨j, rfl, hj, e2, q⟩))
theorem t_charAt_3 {j : Nat} (hj : j < 3) (q : Q (some (.int (nI ((wd 3).getD j 0)))) h) : Go X m_J0_charAt_5068e 0 [.ref 2003, .int (nI j)] [] h Q := by
  obtain ⟨e1, e2⟩ := ch_ok 3 (by decide) j hj
  rw [e1] at e2
  exact vg (t_latin_3 (vg (br_f (by decide) (t_ch_3 hj (vg ⟨e2, q⟩)))))
theorem t_isWord_3 (hn : n ≤ 120) (hB : ∀ i, i < n → B i < 256) (tb : TB n B h.1) {s e : Nat} (hse : s ≤ e) (hen : e ≤ n) (h3 : h.1 8 3 = nI s) (h4 : h.1 8 4 = nI e) (a : eqW B s (e - s) 3 = true → Q (some (.int 1)) h) (b : ¬ eqW B s (e - s) 3 = true → Q (some (.int 0)) h) : Go X m_X4_isWord 0 [.ref 8, .ref 2003, .null] [] h Q := by
  have ed : h.1 8 4 - h.1 8 3 = nI (e - s) := by rw [h4, h3, pk_sub hse]
  by_cases c : e - s = 3
  case neg => exact vg (t_length_3 (vg (br_f (show ¬ h.1 8 4 - h.1 8 3 = nI 3 by rw [ed, nI_eq (by omega) (by omega)]; exact c) ⟨Or.inl rfl, b (fun z => c ((eqW_iff.mp z).1.trans rfl))⟩)))
  refine vg (t_length_3 (vc_ok (st := [20]) 40 (br_t (show h.1 8 4 - h.1 8 3 = nI 3 by rw [ed, c]) ?_)))
  suffices hh : ∀ k, k ≤ 3 → (∀ j, j < k → B (s + j) = (wd 3).getD j 0) → Go X m_X4_isWord 20 [.ref 8, .ref 2003, .int (nI k)] [] h Q from hh 0 (by omega) (fun j hj => absurd hj (by omega))
  refine down _ 3 ?_ ?_
  · intro al
    exact vg (t_length_3 (vg (br_t (by decide) ⟨Or.inr rfl, a (eqW_iff.mpr ⟨c.trans rfl, fun j hj => al j (by omega)⟩)⟩)))
  · intro k hk ih al
    have e48 : h.1 48 (s + k) = nI (B (s + k)) := tb _ (by omega)
    have b8 := hB (s + k) (by omega)
    have wb : ∀ j, j < 3 → (wd 3).getD j 0 < 256 := by decide +kernel
    have wk := wb k hk
    refine vg (t_length_3 (vg (br_f (nI_ge hk (by decide)) ⟨s + k, by rw [h3, nI_add], by omega, t_charAt_3 hk ?_⟩)))
    by_cases d : B (s + k) = (wd 3).getD k 0
    · have nx := ih (allS al d)
      rw [← nI_1] at nx
      exact vc_ok (st := [20]) 40 (br_t (show h.1 48 (s + k) = nI ((wd 3).getD k 0) by rw [e48, d]) nx)
    · exact vg (br_f (show ¬ h.1 48 (s + k) = nI ((wd 3).getD k 0) by rw [e48, eq_n (by omega) (by omega)]; exact d) ⟨Or.inl rfl, b (fun z => d ((eqW_iff.mp z).2 k (by omega)))⟩)
theorem t_coder_4 (q : Q (some (.int 0)) h) : Go X m_J0_coder_7d493 0 [.ref 2004] [] h Q := vg (br_f (by decide) ⟨rfl, q⟩)
theorem t_length_4 (q : Q (some (.int (nI 4))) h) : Go X m_J0_length_8abf5 0 [.ref 2004] [] h Q := vg (t_coder_4 (vg q))
theorem t_latin_4 (q : Q (some (.int 1)) h) : Go X m_J0_isLatin1_aae02 0 [.ref 2004] [] h Q := vg (br_f (by decide) (brn_f rfl ⟨Or.inr rfl, q⟩))
theorem t_ch_4 {j : Nat} (hj : j < 4) (q : Q (some (.int (nI ((wd 4).getD j 0)))) h) : Go X m_J1_charAt_3b067 0 [.ref 2104, .int (nI j)] [] h Q := by
  obtain ⟨e1, e2⟩ := ch_ok 4 (by decide) j hj
  rw [← e1] at q
  exact vg (t_check0 hj (by decide) (vg ⟨j, rfl, hj, e2, q⟩))
theorem t_charAt_4 {j : Nat} (hj : j < 4) (q : Q (some (.int (nI ((wd 4).getD j 0)))) h) : Go X m_J0_charAt_5068e 0 [.ref 2004, .int (nI j)] [] h Q := by
  obtain ⟨e1, e2⟩ := ch_ok 4 (by decide) j hj
  rw [e1] at e2
  exact vg (t_latin_4 (vg (br_f (by decide) (t_ch_4 hj (vg ⟨e2, q⟩)))))
theorem t_isWord_4 (hn : n ≤ 120) (hB : ∀ i, i < n → B i < 256) (tb : TB n B h.1) {s e : Nat} (hse : s ≤ e) (hen : e ≤ n) (h3 : h.1 8 3 = nI s) (h4 : h.1 8 4 = nI e) (a : eqW B s (e - s) 4 = true → Q (some (.int 1)) h) (b : ¬ eqW B s (e - s) 4 = true → Q (some (.int 0)) h) : Go X m_X4_isWord 0 [.ref 8, .ref 2004, .null] [] h Q := by
  have ed : h.1 8 4 - h.1 8 3 = nI (e - s) := by rw [h4, h3, pk_sub hse]
  by_cases c : e - s = 4
  case neg => exact vg (t_length_4 (vg (br_f (show ¬ h.1 8 4 - h.1 8 3 = nI 4 by rw [ed, nI_eq (by omega) (by omega)]; exact c) ⟨Or.inl rfl, b (fun z => c ((eqW_iff.mp z).1.trans rfl))⟩)))
  refine vg (t_length_4 (vc_ok (st := [20]) 40 (br_t (show h.1 8 4 - h.1 8 3 = nI 4 by rw [ed, c]) ?_)))
  suffices hh : ∀ k, k ≤ 4 → (∀ j, j < k → B (s + j) = (wd 4).getD j 0) → Go X m_X4_isWord 20 [.ref 8, .ref 2004, .int (nI k)] [] h Q from hh 0 (by omega) (fun j hj => absurd hj (by omega))
  refine down _ 4 ?_ ?_
  · intro al
    exact vg (t_length_4 (vg (br_t (by decide) ⟨Or.inr rfl, a (eqW_iff.mpr ⟨c.trans rfl, fun j hj => al j (by omega)⟩)⟩)))
  · intro k hk ih al
    have e48 : h.1 48 (s + k) = nI (B (s + k)) := tb _ (by omega)
    have b8 := hB (s + k) (by omega)
    have wb : ∀ j, j < 4 → (wd 4).getD j 0 < 256 := by decide +kernel
    have wk := wb k hk
    refine vg (t_length_4 (vg (br_f (nI_ge hk (by decide)) ⟨s + k, by rw [h3, nI_add], by omega, t_charAt_4 hk ?_⟩)))
    by_cases d : B (s + k) = (wd 4).getD k 0
    · have nx := ih (allS al d)
      rw [← nI_1] at nx
      exact vc_ok (st := [20]) 40 (br_t (show h.1 48 (s + k) = nI ((wd 4).getD k 0) by rw [e48, d]) nx)
    · exact vg (br_f (show ¬ h.1 48 (s + k) = nI ((wd 4).getD k 0) by rw [e48, eq_n (by omega) (by omega)]; exact d) ⟨Or.inl rfl, b (fun z => d ((eqW_iff.mp z).2 k (by omega)))⟩)
theorem t_coder_5 (q : Q (some (.int 0)) h) : Go X m_J0_coder_7d493 0 [.ref 2005] [] h Q := vg (br_f (by decide) ⟨rfl, q⟩)
theorem t_length_5 (q : Q (some (.int (nI 4))) h) : Go X m_J0_length_8abf5 0 [.ref 2005] [] h Q := vg (t_coder_5 (vg q))
theorem t_latin_5 (q : Q (some (.int 1)) h) : Go X m_J0_isLatin1_aae02 0 [.ref 2005] [] h Q := vg (br_f (by decide) (brn_f rfl ⟨Or.inr rfl, q⟩))
theorem t_ch_5 {j : Nat} (hj : j < 4) (q : Q (some (.int (nI ((wd 5).getD j 0)))) h) : Go X m_J1_charAt_3b067 0 [.ref 2105, .int (nI j)] [] h Q := by
  obtain ⟨e1, e2⟩ := ch_ok 5 (by decide) j hj
  rw [← e1] at q
  exact vg (t_check0 hj (by decide) (vg ⟨j, rfl, hj, e2, q⟩))
theorem t_charAt_5 {j : Nat} (hj : j < 4) (q : Q (some (.int (nI ((wd 5).getD j 0)))) h) : Go X m_J0_charAt_5068e 0 [.ref 2005, .int (nI j)] [] h Q := by
  obtain ⟨e1, e2⟩ := ch_ok 5 (by decide) j hj
  rw [e1] at e2
  exact vg (t_latin_5 (vg (br_f (by decide) (t_ch_5 hj (vg ⟨e2, q⟩)))))
theorem t_isWord_5 (hn : n ≤ 120) (hB : ∀ i, i < n → B i < 256) (tb : TB n B h.1) {s e : Nat} (hse : s ≤ e) (hen : e ≤ n) (h3 : h.1 8 3 = nI s) (h4 : h.1 8 4 = nI e) (a : eqW B s (e - s) 5 = true → Q (some (.int 1)) h) (b : ¬ eqW B s (e - s) 5 = true → Q (some (.int 0)) h) : Go X m_X4_isWord 0 [.ref 8, .ref 2005, .null] [] h Q := by
  have ed : h.1 8 4 - h.1 8 3 = nI (e - s) := by rw [h4, h3, pk_sub hse]
  by_cases c : e - s = 4
  case neg => exact vg (t_length_5 (vg (br_f (show ¬ h.1 8 4 - h.1 8 3 = nI 4 by rw [ed, nI_eq (by omega) (by omega)]; exact c) ⟨Or.inl rfl, b (fun z => c ((eqW_iff.mp z).1.trans rfl))⟩)))
  refine vg (t_length_5 (vc_ok (st := [20]) 40 (br_t (show h.1 8 4 - h.1 8 3 = nI 4 by rw [ed, c]) ?_)))
  suffices hh : ∀ k, k ≤ 4 → (∀ j, j < k → B (s + j) = (wd 5).getD j 0) → Go X m_X4_isWord 20 [.ref 8, .ref 2005, .int (nI k)] [] h Q from hh 0 (by omega) (fun j hj => absurd hj (by omega))
  refine down _ 4 ?_ ?_
  · intro al
    exact vg (t_length_5 (vg (br_t (by decide) ⟨Or.inr rfl, a (eqW_iff.mpr ⟨c.trans rfl, fun j hj => al j (by omega)⟩)⟩)))
  · intro k hk ih al
    have e48 : h.1 48 (s + k) = nI (B (s + k)) := tb _ (by omega)
    have b8 := hB (s + k) (by omega)
    have wb : ∀ j, j < 4 → (wd 5).getD j 0 < 256 := by decide +kernel
    have wk := wb k hk
    refine vg (t_length_5 (vg (br_f (nI_ge hk (by decide)) ⟨s + k, by rw [h3, nI_add], by omega, t_charAt_5 hk ?_⟩)))
    by_cases d : B (s + k) = (wd 5).getD k 0
    · have nx := ih (allS al d)
      rw [← nI_1] at nx
      exact vc_ok (st := [20]) 40 (br_t (show h.1 48 (s + k) = nI ((wd 5).getD k 0) by rw [e48, d]) nx)
    · exact vg (br_f (show ¬ h.1 48 (s + k) = nI ((wd 5).getD k 0) by rw [e48, eq_n (by omega) (by omega)]; exact d) ⟨Or.inl rfl, b (fun z => d ((eqW_iff.mp z).2 k (by omega)))⟩)
theorem t_coder_6 (q : Q (some (.int 0)) h) : Go X m_J0_coder_7d493 0 [.ref 2006] [] h Q := vg (br_f (by decide) ⟨rfl, q⟩)
theorem t_length_6 (q : Q (some (.int (nI 4))) h) : Go X m_J0_length_8abf5 0 [.ref 2006] [] h Q := vg (t_coder_6 (vg q))
theorem t_latin_6 (q : Q (some (.int 1)) h) : Go X m_J0_isLatin1_aae02 0 [.ref 2006] [] h Q := vg (br_f (by decide) (brn_f rfl ⟨Or.inr rfl, q⟩))
theorem t_ch_6 {j : Nat} (hj : j < 4) (q : Q (some (.int (nI ((wd 6).getD j 0)))) h) : Go X m_J1_charAt_3b067 0 [.ref 2106, .int (nI j)] [] h Q := by
  obtain ⟨e1, e2⟩ := ch_ok 6 (by decide) j hj
  rw [← e1] at q
  exact vg (t_check0 hj (by decide) (vg ⟨j, rfl, hj, e2, q⟩))
theorem t_charAt_6 {j : Nat} (hj : j < 4) (q : Q (some (.int (nI ((wd 6).getD j 0)))) h) : Go X m_J0_charAt_5068e 0 [.ref 2006, .int (nI j)] [] h Q := by
  obtain ⟨e1, e2⟩ := ch_ok 6 (by decide) j hj
  rw [e1] at e2
  exact vg (t_latin_6 (vg (br_f (by decide) (t_ch_6 hj (vg ⟨e2, q⟩)))))
theorem t_isWord_6 (hn : n ≤ 120) (hB : ∀ i, i < n → B i < 256) (tb : TB n B h.1) {s e : Nat} (hse : s ≤ e) (hen : e ≤ n) (h3 : h.1 8 3 = nI s) (h4 : h.1 8 4 = nI e) (a : eqW B s (e - s) 6 = true → Q (some (.int 1)) h) (b : ¬ eqW B s (e - s) 6 = true → Q (some (.int 0)) h) : Go X m_X4_isWord 0 [.ref 8, .ref 2006, .null] [] h Q := by
  have ed : h.1 8 4 - h.1 8 3 = nI (e - s) := by rw [h4, h3, pk_sub hse]
  by_cases c : e - s = 4
  case neg => exact vg (t_length_6 (vg (br_f (show ¬ h.1 8 4 - h.1 8 3 = nI 4 by rw [ed, nI_eq (by omega) (by omega)]; exact c) ⟨Or.inl rfl, b (fun z => c ((eqW_iff.mp z).1.trans rfl))⟩)))
  refine vg (t_length_6 (vc_ok (st := [20]) 40 (br_t (show h.1 8 4 - h.1 8 3 = nI 4 by rw [ed, c]) ?_)))
  suffices hh : ∀ k, k ≤ 4 → (∀ j, j < k → B (s + j) = (wd 6).getD j 0) → Go X m_X4_isWord 20 [.ref 8, .ref 2006, .int (nI k)] [] h Q from hh 0 (by omega) (fun j hj => absurd hj (by omega))
  refine down _ 4 ?_ ?_
  · intro al
    exact vg (t_length_6 (vg (br_t (by decide) ⟨Or.inr rfl, a (eqW_iff.mpr ⟨c.trans rfl, fun j hj => al j (by omega)⟩)⟩)))
  · intro k hk ih al
    have e48 : h.1 48 (s + k) = nI (B (s + k)) := tb _ (by omega)
    have b8 := hB (s + k) (by omega)
    have wb : ∀ j, j < 4 → (wd 6).getD j 0 < 256 := by decide +kernel
    have wk := wb k hk
    refine vg (t_length_6 (vg (br_f (nI_ge hk (by decide)) ⟨s + k, by rw [h3, nI_add], by omega, t_charAt_6 hk ?_⟩)))
    by_cases d : B (s + k) = (wd 6).getD k 0
    · have nx := ih (allS al d)
      rw [← nI_1] at nx
      exact vc_ok (st := [20]) 40 (br_t (show h.1 48 (s + k) = nI ((wd 6).getD k 0) by rw [e48, d]) nx)
    · exact vg (br_f (show ¬ h.1 48 (s + k) = nI ((wd 6).getD k 0) by rw [e48, eq_n (by omega) (by omega)]; exact d) ⟨Or.inl rfl, b (fun z => d ((eqW_iff.mp z).2 k (by omega)))⟩)
theorem t_coder_7 (q : Q (some (.int 0)) h) : Go X m_J0_coder_7d493 0 [.ref 2007] [] h Q := vg (br_f (by decide) ⟨rfl, q⟩)
theorem t_length_7 (q : Q (some (.int (nI 5))) h) : Go X m_J0_length_8abf5 0 [.ref 2007] [] h Q := vg (t_coder_7 (vg q))
theorem t_latin_7 (q : Q (some (.int 1)) h) : Go X m_J0_isLatin1_aae02 0 [.ref 2007] [] h Q := vg (br_f (by decide) (brn_f rfl ⟨Or.inr rfl, q⟩))
theorem t_ch_7 {j : Nat} (hj : j < 5) (q : Q (some (.int (nI ((wd 7).getD j 0)))) h) : Go X m_J1_charAt_3b067 0 [.ref 2107, .int (nI j)] [] h Q := by
  obtain ⟨e1, e2⟩ := ch_ok 7 (by decide) j hj
  rw [← e1] at q
  exact vg (t_check0 hj (by decide) (vg ⟨j, rfl, hj, e2, q⟩))
theorem t_charAt_7 {j : Nat} (hj : j < 5) (q : Q (some (.int (nI ((wd 7).getD j 0)))) h) : Go X m_J0_charAt_5068e 0 [.ref 2007, .int (nI j)] [] h Q := by
  obtain ⟨e1, e2⟩ := ch_ok 7 (by decide) j hj
  rw [e1] at e2
  exact vg (t_latin_7 (vg (br_f (by decide) (t_ch_7 hj (vg ⟨e2, q⟩)))))
theorem t_isWord_7 (hn : n ≤ 120) (hB : ∀ i, i < n → B i < 256) (tb : TB n B h.1) {s e : Nat} (hse : s ≤ e) (hen : e ≤ n) (h3 : h.1 8 3 = nI s) (h4 : h.1 8 4 = nI e) (a : eqW B s (e - s) 7 = true → Q (some (.int 1)) h) (b : ¬ eqW B s (e - s) 7 = true → Q (some (.int 0)) h) : Go X m_X4_isWord 0 [.ref 8, .ref 2007, .null] [] h Q := by
  have ed : h.1 8 4 - h.1 8 3 = nI (e - s) := by rw [h4, h3, pk_sub hse]
  by_cases c : e - s = 5
  case neg => exact vg (t_length_7 (vg (br_f (show ¬ h.1 8 4 - h.1 8 3 = nI 5 by rw [ed, nI_eq (by omega) (by omega)]; exact c) ⟨Or.inl rfl, b (fun z => c ((eqW_iff.mp z).1.trans rfl))⟩)))
  refine vg (t_length_7 (vc_ok (st := [20]) 40 (br_t (show h.1 8 4 - h.1 8 3 = nI 5 by rw [ed, c]) ?_)))
  suffices hh : ∀ k, k ≤ 5 → (∀ j, j < k → B (s + j) = (wd 7).getD j 0) → Go X m_X4_isWord 20 [.ref 8, .ref 2007, .int (nI k)] [] h Q from hh 0 (by omega) (fun j hj => absurd hj (by omega))
  refine down _ 5 ?_ ?_
  · intro al
    exact vg (t_length_7 (vg (br_t (by decide) ⟨Or.inr rfl, a (eqW_iff.mpr ⟨c.trans rfl, fun j hj => al j (by omega)⟩)⟩)))
  · intro k hk ih al
    have e48 : h.1 48 (s + k) = nI (B (s + k)) := tb _ (by omega)
    have b8 := hB (s + k) (by omega)
    have wb : ∀ j, j < 5 → (wd 7).getD j 0 < 256 := by decide +kernel
    have wk := wb k hk
    refine vg (t_length_7 (vg (br_f (nI_ge hk (by decide)) ⟨s + k, by rw [h3, nI_add], by omega, t_charAt_7 hk ?_⟩)))
    by_cases d : B (s + k) = (wd 7).getD k 0
    · have nx := ih (allS al d)
      rw [← nI_1] at nx
      exact vc_ok (st := [20]) 40 (br_t (show h.1 48 (s + k) = nI ((wd 7).getD k 0) by rw [e48, d]) nx)
    · exact vg (br_f (show ¬ h.1 48 (s + k) = nI ((wd 7).getD k 0) by rw [e48, eq_n (by omega) (by omega)]; exact d) ⟨Or.inl rfl, b (fun z => d ((eqW_iff.mp z).2 k (by omega)))⟩)
theorem t_coder_8 (q : Q (some (.int 0)) h) : Go X m_J0_coder_7d493 0 [.ref 2008] [] h Q := vg (br_f (by decide) ⟨rfl, q⟩)
theorem t_length_8 (q : Q (some (.int (nI 4))) h) : Go X m_J0_length_8abf5 0 [.ref 2008] [] h Q := vg (t_coder_8 (vg q))
theorem t_latin_8 (q : Q (some (.int 1)) h) : Go X m_J0_isLatin1_aae02 0 [.ref 2008] [] h Q := vg (br_f (by decide) (brn_f rfl ⟨Or.inr rfl, q⟩))
theorem t_ch_8 {j : Nat} (hj : j < 4) (q : Q (some (.int (nI ((wd 8).getD j 0)))) h) : Go X m_J1_charAt_3b067 0 [.ref 2108, .int (nI j)] [] h Q := by
  obtain ⟨e1, e2⟩ := ch_ok 8 (by decide) j hj
  rw [← e1] at q
  exact vg (t_check0 hj (by decide) (vg ⟨j, rfl, hj, e2, q⟩))
theorem t_charAt_8 {j : Nat} (hj : j < 4) (q : Q (some (.int (nI ((wd 8).getD j 0)))) h) : Go X m_J0_charAt_5068e 0 [.ref 2008, .int (nI j)] [] h Q := by
  obtain ⟨e1, e2⟩ := ch_ok 8 (by decide) j hj
  rw [e1] at e2
  exact vg (t_latin_8 (vg (br_f (by decide) (t_ch_8 hj (vg ⟨e2, q⟩)))))
theorem t_isWord_8 (hn : n ≤ 120) (hB : ∀ i, i < n → B i < 256) (tb : TB n B h.1) {s e : Nat} (hse : s ≤ e) (hen : e ≤ n) (h3 : h.1 8 3 = nI s) (h4 : h.1 8 4 = nI e) (a : eqW B s (e - s) 8 = true → Q (some (.int 1)) h) (b : ¬ eqW B s (e - s) 8 = true → Q (some (.int 0)) h) : Go X m_X4_isWord 0 [.ref 8, .ref 2008, .null] [] h Q := by
  have ed : h.1 8 4 - h.1 8 3 = nI (e - s) := by rw [h4, h3, pk_sub hse]
  by_cases c : e - s = 4
  case neg => exact vg (t_length_8 (vg (br_f (show ¬ h.1 8 4 - h.1 8 3 = nI 4 by rw [ed, nI_eq (by omega) (by omega)]; exact c) ⟨Or.inl rfl, b (fun z => c ((eqW_iff.mp z).1.trans rfl))⟩)))
  refine vg (t_length_8 (vc_ok (st := [20]) 40 (br_t (show h.1 8 4 - h.1 8 3 = nI 4 by rw [ed, c]) ?_)))
  suffices hh : ∀ k, k ≤ 4 → (∀ j, j < k → B (s + j) = (wd 8).getD j 0) → Go X m_X4_isWord 20 [.ref 8, .ref 2008, .int (nI k)] [] h Q from hh 0 (by omega) (fun j hj => absurd hj (by omega))
  refine down _ 4 ?_ ?_
  · intro al
    exact vg (t_length_8 (vg (br_t (by decide) ⟨Or.inr rfl, a (eqW_iff.mpr ⟨c.trans rfl, fun j hj => al j (by omega)⟩)⟩)))
  · intro k hk ih al
    have e48 : h.1 48 (s + k) = nI (B (s + k)) := tb _ (by omega)
    have b8 := hB (s + k) (by omega)
    have wb : ∀ j, j < 4 → (wd 8).getD j 0 < 256 := by decide +kernel
    have wk := wb k hk
    refine vg (t_length_8 (vg (br_f (nI_ge hk (by decide)) ⟨s + k, by rw [h3, nI_add], by omega, t_charAt_8 hk ?_⟩)))
    by_cases d : B (s + k) = (wd 8).getD k 0
    · have nx := ih (allS al d)
      rw [← nI_1] at nx
      exact vc_ok (st := [20]) 40 (br_t (show h.1 48 (s + k) = nI ((wd 8).getD k 0) by rw [e48, d]) nx)
    · exact vg (br_f (show ¬ h.1 48 (s + k) = nI ((wd 8).getD k 0) by rw [e48, eq_n (by omega) (by omega)]; exact d) ⟨Or.inl rfl, b (fun z => d ((eqW_iff.mp z).2 k (by omega)))⟩)
theorem t_nameOf_0 (q : Q (some (.ref 2003)) h) : Go X m_X4_nameOf 0 [.int (nI 0)] [] h Q := vg ⟨⟨fun _ => q, sw_ne (by decide), sw_ne (by decide), sw_ne (by decide), sw_ne (by decide), sw_ne (by decide), trivial⟩, fun z => absurd z (by decide)⟩
theorem t_nameOf_1 (q : Q (some (.ref 2004)) h) : Go X m_X4_nameOf 0 [.int (nI 1)] [] h Q := vg ⟨⟨sw_ne (by decide), fun _ => q, sw_ne (by decide), sw_ne (by decide), sw_ne (by decide), sw_ne (by decide), trivial⟩, fun z => absurd z (by decide)⟩
theorem t_nameOf_2 (q : Q (some (.ref 2005)) h) : Go X m_X4_nameOf 0 [.int (nI 2)] [] h Q := vg ⟨⟨sw_ne (by decide), sw_ne (by decide), fun _ => q, sw_ne (by decide), sw_ne (by decide), sw_ne (by decide), trivial⟩, fun z => absurd z (by decide)⟩
theorem t_nameOf_3 (q : Q (some (.ref 2006)) h) : Go X m_X4_nameOf 0 [.int (nI 3)] [] h Q := vg ⟨⟨sw_ne (by decide), sw_ne (by decide), sw_ne (by decide), fun _ => q, sw_ne (by decide), sw_ne (by decide), trivial⟩, fun z => absurd z (by decide)⟩
theorem t_nameOf_4 (q : Q (some (.ref 2007)) h) : Go X m_X4_nameOf 0 [.int (nI 4)] [] h Q := vg ⟨⟨sw_ne (by decide), sw_ne (by decide), sw_ne (by decide), sw_ne (by decide), fun _ => q, sw_ne (by decide), trivial⟩, fun z => absurd z (by decide)⟩
theorem t_nameOf_5 (q : Q (some (.ref 2008)) h) : Go X m_X4_nameOf 0 [.int (nI 5)] [] h Q := vg ⟨⟨sw_ne (by decide), sw_ne (by decide), sw_ne (by decide), sw_ne (by decide), sw_ne (by decide), fun _ => q, trivial⟩, fun z => absurd z (by decide)⟩
end WOR
