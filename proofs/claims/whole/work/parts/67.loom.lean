/-! loom -/
section LOO
variable {X : Xs} {h : Hp} {Q : Qt} {n : Nat} {B : Nat → Nat} {V : Vw} {F : Nat → Nat → Int32} {G : Nat → Nat → Int64}
theorem t_itemsL (hn : n ≤ 120) (hB : ∀ i, i < n → B i < 256) (tm : TM n B F) : ∀ (m k : Nat) (V : Vw) (p : Nat) (f : Nat → Nat → Int32) (g : Nat → Nat → Int64), okV V → p ≤ n → n - p < m + 1 → imM n B (itm n B V p) f g → MF f F g G → ((itsF n B (m + 1) k V p).1 = true → ∀ (f : Nat → Nat → Int32) (g : Nat → Nat → Int64), RM (itsF n B (m + 1) k V p).2.1 (f, g) 53 → f 1 17 = -1 → MF f F g G → Q (some (.int (nI (itsF n B (m + 1) k V p).2.2))) (f, g)) → ((itsF n B (m + 1) k V p).1 = false → ∀ (x : Int32) (f : Nat → Nat → Int32) (g : Nat → Nat → Int64), f 1 17 = nI (sk n B (itsF n B (m + 1) k V p).2.2) → MF f F g G → Q (some (.int x)) (f, g)) → Go X m_X7_items 20 [.ref 1, .int (nI k)] [] (f, g) Q := by
  intro m
  induction m with
  | zero =>
    intro k V p f g v hp hm im mf qa qb
    obtain ⟨g1, g2, g3⟩ := itm_ok (n := n) (B := B) v hp
    have skb := (sk_b (n := n) (B := B) _ _ rfl g1).2
    rcases im with ⟨e, rm, mt, f17⟩ | ⟨e, f17⟩
    case inr =>
      rw [its_4 e] at qb
      have ge : 0 ≤ f 1 17 := by rw [f17]; exact nI_pos' (by omega)
      exact vg (br_t ge (br_t ge (qb rfl _ f g f17 mf)))
    obtain ⟨o1, o2⟩ := g3 e
    have lt : ¬ 0 ≤ f 1 17 := by rw [f17]; decide
    have k4 := mt_k mt (k := 4) (by decide)
    have k0 := mt_k mt (k := 0) (by decide)
    by_cases t4 : toR n B (itm n B V p).2.2 = 4
    case neg =>
      by_cases t0 : toR n B (itm n B V p).2.2 = 0
      · rw [its_1 e t0] at qa
        exact vg (br_f lt (brn_t (fun w => t4 (k4.mp w)) (br_f lt (br_t (k0.mpr t0) (qa rfl f g rm f17 mf)))))
      · rw [its_3 e t0 t4] at qb
        exact vg (br_f lt (brn_t (fun w => t4 (k4.mp w)) (br_f lt (br_f (fun w => t0 (k0.mp w)) (t_wrongHere (h := (f, g)) f17 mt.1 (vg (qb rfl _ _ _ u_at (mf_17 mf))))))))
    omega
  | succ m ih =>
    intro k V p f g v hp hm im mf qa qb
    obtain ⟨g1, g2, g3⟩ := itm_ok (n := n) (B := B) v hp
    have skb := (sk_b (n := n) (B := B) _ _ rfl g1).2
    rcases im with ⟨e, rm, mt, f17⟩ | ⟨e, f17⟩
    case inr =>
      rw [its_4 e] at qb
      have ge : 0 ≤ f 1 17 := by rw [f17]; exact nI_pos' (by omega)
      exact vg (br_t ge (br_t ge (qb rfl _ f g f17 mf)))
    obtain ⟨o1, o2⟩ := g3 e
    have lt : ¬ 0 ≤ f 1 17 := by rw [f17]; decide
    have k4 := mt_k mt (k := 4) (by decide)
    have k0 := mt_k mt (k := 0) (by decide)
    by_cases t4 : toR n B (itm n B V p).2.2 = 4
    case neg =>
      by_cases t0 : toR n B (itm n B V p).2.2 = 0
      · rw [its_1 e t0] at qa
        exact vg (br_f lt (brn_t (fun w => t4 (k4.mp w)) (br_f lt (br_t (k0.mpr t0) (qa rfl f g rm f17 mf)))))
      · rw [its_3 e t0 t4] at qb
        exact vg (br_f lt (brn_t (fun w => t4 (k4.mp w)) (br_f lt (br_f (fun w => t0 (k0.mp w)) (t_wrongHere (h := (f, g)) f17 mt.1 (vg (qb rfl _ _ _ u_at (mf_17 mf))))))))
    rw [its_2 e t4] at qa qb
    have z := eZ_b (n := n) (B := B) g1
    have lt2 := z.2.2.2 (by omega)
    have tf := mf_tm mf tm
    refine vg (br_f lt (brn_f (k4.mpr t4) (t_nextS (h := (f, g)) hn hB tf g1 mt (by omega) (fun f2 gg2 mt2 fm2 gm2 => vg ?_))))
    refine t_item (h := (f2, gg2)) hn hB o1 z.2.2.1 (fm_tm fm2 tf) mt2 ((fm_17 fm2).trans f17) (fm_rm fm2 rm) (fun f3 gg3 im3 mf3 => ?_)
    have m2 := mf_fm mf fm2 gm2
    have m3 : MF f3 F gg3 G := ⟨fun c c1 c2 => (mf3.1 c c1 c2).trans (m2.1 c c1 c2), fun j hj => (mf3.2.1 j hj).trans (m2.2.1 j hj), fun c c1 => (mf3.2.2 c c1).trans (m2.2.2 c c1)⟩
    have nx := ih (k + 1) _ _ f3 gg3 o1 z.2.2.1 (by omega) im3 m3 qa qb
    rw [← nI_1] at nx
    exact vc_ok (st := [20]) 100 nx
theorem t_items (hn : n ≤ 120) (hB : ∀ i, i < n → B i < 256) (v : okV V) (tm : TM n B h.1) (rm : RM V h 53) (qa : (itsF n B 121 1 V 0).1 = true → ∀ (f : Nat → Nat → Int32) (g : Nat → Nat → Int64), RM (itsF n B 121 1 V 0).2.1 (f, g) 53 → f 1 17 = -1 → MF f h.1 g h.2 → Q (some (.int (nI (itsF n B 121 1 V 0).2.2))) (f, g)) (qb : (itsF n B 121 1 V 0).1 = false → ∀ (x : Int32) (f : Nat → Nat → Int32) (g : Nat → Nat → Int64), f 1 17 = nI (sk n B (itsF n B 121 1 V 0).2.2) → MF f h.1 g h.2 → Q (some (.int x)) (f, g)) : Go X m_X7_items 0 [.ref 1, .null] [] h Q := by
  refine vg ?_
  show Go X m_X7_next 0 [.ref 1, .null] [] (up2 (up2 h.1 1 13 (nI 0)) 1 17 (-1), h.2) _
  have m0 : MF (up2 (up2 h.1 1 13 (nI 0)) 1 17 (-1)) h.1 h.2 h.2 := mf_17 ⟨fun c c1 _ => up2_ne c1, fun j hj => u_ne (by omega), fun _ _ => rfl⟩
  have e17 : up2 (up2 h.1 1 13 (nI 0)) 1 17 (-1) 1 17 = -1 := u_at
  have e13 : up2 (up2 h.1 1 13 (nI 0)) 1 17 (-1) 1 13 = nI 0 := by rw [u_ne (by decide), u_at]
  have r0 : RM V (up2 (up2 h.1 1 13 (nI 0)) 1 17 (-1), h.2) 53 := rm
  generalize up2 (up2 h.1 1 13 (nI 0)) 1 17 (-1) = k at m0 e17 e13 r0
  have tk := mf_tm m0 tm
  refine t_next (h := (k, h.2)) (p := 0) hn hB tk (Nat.zero_le _) e13 (fun f2 g2 mt2 fm2 gm2 => vg ?_)
  refine t_item (h := (f2, g2)) hn hB v (Nat.zero_le _) (fm_tm fm2 tk) mt2 ((fm_17 fm2).trans e17) (fm_rm fm2 r0) (fun f3 g3 im3 mf3 => vc_ok (st := [20]) 100 ?_)
  have m2 := mf_fm m0 fm2 gm2
  have m3 : MF f3 h.1 g3 h.2 := ⟨fun c c1 c2 => (mf3.1 c c1 c2).trans (m2.1 c c1 c2), fun j hj => (mf3.2.1 j hj).trans (m2.2.1 j hj), fun c c1 => (mf3.2.2 c c1).trans (m2.2.2 c c1)⟩
  exact t_itemsL hn hB tm 120 1 V 0 f3 g3 v (Nat.zero_le _) (by omega) im3 m3 qa qb
theorem inv_loom (I : Inv h) {W : Vw} (w : okV W) {f : Nat → Nat → Int32} {g : Nat → Nat → Int64} (e : ∀ c, c ≠ 1 → c ≠ 2 → c ≠ 4 → c ≠ 8 → ¬ (15 ≤ c ∧ c ≤ 21) → ¬ (29 ≤ c ∧ c ≤ 35) → c ≠ 53 → c ≠ 54 → f c = h.1 c) (e13 : f 1 3 = h.1 1 3) (eg : ∀ c, c ≠ 1 → g c = h.2 c) (f8 : f 8 0 = nI 0) (f16 : f 1 6 = nI 0) (rn : RN W (f, g)) (rm : RM W (f, g) 53) : Inv (f, g) := by
  obtain ⟨V, v, _, _, ik, ir, it, is⟩ := I
  refine ⟨W, w, rn, rm, ik_cg ik ?_ e13 (fun q hq => e q (by omega) (by omega) (by omega) (by omega) (by omega) (by omega) (by omega) (by omega)), ir_cg ir (e 14 (by decide) (by decide) (by decide) (by decide) (by omega) (by omega) (by decide) (by decide)) (e 56 (by decide) (by decide) (by decide) (by decide) (by omega) (by omega) (by decide) (by decide)), ⟨0, by omega, f8, f16, fun i hi => absurd hi (by omega)⟩, is_cg is (fun q hq => e q (by omega) (by omega) (by omega) (by omega) (by omega) (by omega) (by omega) (by omega)) (fun q hq => eg q (by omega))⟩
  show f 0 9 = _
  rw [e 0 (by decide) (by decide) (by decide) (by decide) (by omega) (by omega) (by decide) (by decide)]
theorem op_loom (I : Inv h) : Both X m_X6_loom m_X7_loom [.ref 0, .null] [.ref 1, .null] h := by
  obtain ⟨V, v, rn, rm, ik, ir, it, is⟩ := id I
  unfold Both
  obtain ⟨n, hn, t8, t16, tB⟩ := it
  obtain ⟨B, hb⟩ : ∃ B : Nat → Nat, ∀ i, i < n → B i < 256 ∧ h.1 48 i = nI (B i) ∧ h.1 57 i = sb (B i) := ⟨fun i => if hi : i < n then (tB i hi).choose else 0, fun i hi => by
    simp only [dif_pos hi]
    exact (tB i hi).choose_spec⟩
  have hB : ∀ i, i < n → B i < 256 := fun i hi => (hb i hi).1
  have ok := its_ok (n := n) (B := B) hn 121 1 V 0 v (Nat.zero_le _) (by omega) (by omega) (by omega)
  -- the reference, from any heap that the class may leave
  have mod : ∀ (k : Nat → Nat → Int32) (r : Int32), k 1 = h.1 1 → k 53 = h.1 53 → k 57 = h.1 57 → ((itsF n B 121 1 V 0).1 = true → r = nI (itsF n B 121 1 V 0).2.2 ∧ RN (itsF n B 121 1 V 0).2.1 (k, h.2)) → ((itsF n B 121 1 V 0).1 = false → r = -1 - nI (sk n B (itsF n B 121 1 V 0).2.2) ∧ RN V (k, h.2)) → k 8 0 = nI 0 → (∀ c, c ≠ 1 → c ≠ 2 → c ≠ 4 → c ≠ 8 → ¬ (15 ≤ c ∧ c ≤ 21) → ¬ (29 ≤ c ∧ c ≤ 35) → c ≠ 53 → c ≠ 54 → k c = h.1 c) → Go X m_X7_loom 0 [.ref 1, .null] [] (k, h.2) (EQ (some (.int r))) := by
    intro k r k1 k53 k57 ra rb k80 ko
    have rk : RM V (k, h.2) 53 := rm_cg rm k53
    refine vg (t_copies_53_54 (vg ?_))
    have r54 : RM V (cpK k 54 53 80, h.2) 54 := rm_copy v rk
    have c5 : ∀ c, c ≠ 54 → cpK k 54 53 80 c = k c := fun c hc => cpK_ne hc
    generalize cpK k 54 53 80 = k2 at r54 c5
    have r53 : RM V (k2, h.2) 53 := rm_cg rk (c5 53 (by decide))
    refine t_items (h := (k2, h.2)) hn hB v ⟨by show k2 1 6 = nI n; rw [c5 1 (by decide), k1]; exact t16, by show ∀ i, i < n → k2 57 i = _; rw [c5 57 (by decide), k57]; exact fun i hi => (hb i hi).2.2⟩ r53 (fun e f g rf f17 mf => ?_) (fun e x f g f17 mf => ?_)
    · obtain ⟨rr, rnk⟩ := ra e
      have f17 : f 1 17 = -1 := f17
      have mo : ∀ c, c ≠ 1 → c ≠ 53 → c ≠ 54 → f c = k c := fun c c1 c2 c3 => (mf.1 c c1 c2).trans (c5 c c3)
      have up : ∀ c, c ≠ 1 → c ≠ 53 → c ≠ 54 → up2 f 1 6 (nI 0) c = k c := fun c c1 c2 c3 => by rw [up2_ne c1]; exact mo c c1 c2 c3
      refine vg (br_t (show f 1 17 < 0 by rw [f17]; decide) ⟨by rw [rr], ?_⟩)
      refine inv_loom (f := up2 f 1 6 (nI 0)) (g := g) I (ok.1 e).1 (fun c c1 c2 c4 c8 ca cb c53 c54 => ?_) ?_ mf.2.2 ?_ u_at (rc_cg (h := (k, h.2)) rnk (up 2 (by decide) (by decide) (by decide)) (up 15 (by decide) (by decide) (by decide)) (up 16 (by decide) (by decide) (by decide)) (up 17 (by decide) (by decide) (by decide)) (up 18 (by decide) (by decide) (by decide)) (up 19 (by decide) (by decide) (by decide)) (up 20 (by decide) (by decide) (by decide)) (up 21 (by decide) (by decide) (by decide))) (rm_cg (h := (f, g)) rf rfl)
      · rw [up2_ne c1, mo c c1 c53 c54]
        exact ko c c1 c2 c4 c8 ca cb c53 c54
      · rw [u_ne (by decide), mf.2.1 3 (by omega)]
        show k2 1 3 = _
        rw [c5 1 (by decide), k1]
      · rw [up2_ne (by decide), mo 8 (by decide) (by decide) (by decide)]
        exact k80
    · obtain ⟨rr, rnk⟩ := rb e
      have f17 : f 1 17 = nI (sk n B (itsF n B 121 1 V 0).2.2) := f17
      have skb := (sk_b (n := n) (B := B) _ _ rfl (ok.2 e)).2
      have mo : ∀ c, c ≠ 1 → c ≠ 53 → c ≠ 54 → f c = k c := fun c c1 c2 c3 => (mf.1 c c1 c2).trans (c5 c c3)
      have up : ∀ c, c ≠ 1 → c ≠ 53 → c ≠ 54 → cpK (up2 f 1 6 (nI 0)) 53 54 80 c = k c := fun c c1 c2 c3 => by rw [cpK_ne c2, up2_ne c1]; exact mo c c1 c2 c3
      refine vg (br_f (show ¬ f 1 17 < 0 by rw [f17]; exact nI_pos (by omega)) (t_copies_54_53 (h := (up2 f 1 6 (nI 0), g)) (vg ⟨?_, ?_⟩)))
      · show some (Value.int (-1 - cpK (up2 f 1 6 (nI 0)) 53 54 80 1 17)) = _
        rw [cpK_ne (by decide), u_ne (by decide), f17, rr]
      refine inv_loom (f := cpK (up2 f 1 6 (nI 0)) 53 54 80) (g := g) I v (fun c c1 c2 c4 c8 ca cb c53 c54 => ?_) ?_ mf.2.2 ?_ ?_ (rc_cg (h := (k, h.2)) rnk (up 2 (by decide) (by decide) (by decide)) (up 15 (by decide) (by decide) (by decide)) (up 16 (by decide) (by decide) (by decide)) (up 17 (by decide) (by decide) (by decide)) (up 18 (by decide) (by decide) (by decide)) (up 19 (by decide) (by decide) (by decide)) (up 20 (by decide) (by decide) (by decide)) (up 21 (by decide) (by decide) (by decide))) (rm_copy v (rm_cg (h := (k2, h.2)) (h' := (up2 f 1 6 (nI 0), g)) r54 (show up2 f 1 6 (nI 0) 54 = k2 54 by rw [up2_ne (by decide)]; exact mf.1 54 (by decide) (by decide))))
      · rw [cpK_ne c53, up2_ne c1, mo c c1 c53 c54]
        exact ko c c1 c2 c4 c8 ca cb c53 c54
      · rw [cpK_ne (by decide), u_ne (by decide), mf.2.1 3 (by omega)]
        show k2 1 3 = _
        rw [c5 1 (by decide), k1]
      · rw [cpK_ne (by decide), up2_ne (by decide), mo 8 (by decide) (by decide) (by decide)]
        exact k80
      · rw [cpK_ne (by decide), u_at]
  refine vg (t_become_4_2 v rn (fun f rd fo => vg ?_))
  have f8 : f 8 = h.1 8 := fo 8 (by omega)
  refine t_readInto (h := (f, h.2)) hn hB v (show TB n B f by unfold TB; rw [fo 48 (by omega)]; exact fun i hi => (hb i hi).2.1) (show f 8 0 = nI n by rw [f8]; exact t8) rd (fun e f2 rd2 df2 => ?_) (fun e f2 df2 => ?_)
  · obtain ⟨w, wk1, wk2⟩ := ok.1 e
    refine vg (br_f (nI_nle (by omega) (by omega)) (t_become_2_4 (h := (f2, h.2)) w rd2 (fun f3 rn3 fo3 => vg ?_)))
    have fo3 : ∀ c, (c ≠ 2 ∧ ¬ (15 ≤ c ∧ c ≤ 21)) → f3 c = f2 c := fo3
    have df2 : DF f2 f := df2
    have ko : ∀ c, c ≠ 2 → c ≠ 4 → c ≠ 8 → ¬ (15 ≤ c ∧ c ≤ 21) → ¬ (29 ≤ c ∧ c ≤ 35) → up2 f3 8 0 (nI 0) c = h.1 c := fun c c2 c4 c8 ca cb => by rw [up2_ne c8, fo3 c ⟨c2, ca⟩, df2 c c4 c8 cb, fo c ⟨c4, cb⟩]
    refine mod (up2 f3 8 0 (nI 0)) _ (ko 1 (by decide) (by decide) (by decide) (by omega) (by omega)) (ko 53 (by decide) (by decide) (by decide) (by omega) (by omega)) (ko 57 (by decide) (by decide) (by decide) (by omega) (by omega)) (fun _ => ⟨rfl, rc_cg (h := (f3, h.2)) rn3 rfl rfl rfl rfl rfl rfl rfl rfl⟩) (fun z => absurd (e.symm.trans z) (by decide)) u_at (fun c c1 c2 c4 c8 ca cb _ _ => ko c c2 c4 c8 ca cb)
  · have skb := (sk_b (n := n) (B := B) _ _ rfl (ok.2 e)).2
    have df2 : DF f2 f := df2
    have le : ∀ s, s ≤ 120 → (-1 : Int32) - nI s ≤ 0 := by decide +kernel
    have ko : ∀ c, c ≠ 4 → c ≠ 8 → ¬ (29 ≤ c ∧ c ≤ 35) → up2 f2 8 0 (nI 0) c = h.1 c := fun c c4 c8 cb => by rw [up2_ne c8, df2 c c4 c8 cb, fo c ⟨c4, cb⟩]
    refine vg (br_t (le _ (by omega)) ?_)
    refine mod (up2 f2 8 0 (nI 0)) _ (ko 1 (by decide) (by decide) (by omega)) (ko 53 (by decide) (by decide) (by omega)) (ko 57 (by decide) (by decide) (by omega)) (fun z => absurd (e.symm.trans z) (by decide)) (fun _ => ⟨rfl, rc_cg (h := h) rn (ko 2 (by decide) (by decide) (by omega)) (ko 15 (by decide) (by decide) (by omega)) (ko 16 (by decide) (by decide) (by omega)) (ko 17 (by decide) (by decide) (by omega)) (ko 18 (by decide) (by decide) (by omega)) (ko 19 (by decide) (by decide) (by omega)) (ko 20 (by decide) (by decide) (by omega)) (ko 21 (by decide) (by decide) (by omega))⟩) u_at (fun c c1 c2 c4 c8 ca cb _ _ => ko c c4 c8 cb)
end LOO
