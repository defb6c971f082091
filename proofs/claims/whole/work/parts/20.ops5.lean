section OPS5
variable {X : Xs} {h : Hp} {x y z : Int32}
theorem op_at (I : Inv h) : Both X m_X6_at m_X7_at [.ref 0, .int x, .int y] [.ref 1, .int x, .int y] h := by
  obtain ⟨V, v, rn, rm, ik, ir, it, is⟩ := id I
  unfold Both
  have hc0 := v.1.1
  by_cases p1 : 0 ≤ x.toInt ∧ x.toInt < V 0 0
  case neg =>
    refine vg (t_hasCard hc0 rn.1.1 (fun z => absurd z p1) (fun _ => vg (br_t rfl (t_refuse 0 (by decide) (by decide) ?_))))
    refine vg (vg (t_isCard hc0 rm.1.1 (fun z => absurd z p1) (fun _ => vg (br_t rfl (t_findsN 0 (by decide) rfl ?_)))))
    exact vg ⟨rfl, inv_ref I (by decide)⟩
  by_cases p2 : 0 ≤ y.toInt ∧ y.toInt < 8
  case neg =>
    refine vg (t_hasCard hc0 rn.1.1 (fun _ => vg (br_f (by decide) (t_isHook (fun z => absurd z p2) (fun _ => vg (brn_f rfl (t_refuse 0 (by decide) (by decide) ?_)))))) (fun z => absurd p1 z))
    refine vg (vg (t_isCard hc0 rm.1.1 (fun _ => vg (br_f (by decide) (t_inI 0 7 rfl rfl (fun z => absurd (by omega) p2) (fun _ => vg (br_t rfl (t_findsN 0 (by decide) rfl ?_)))))) (fun z => absurd p1 z)))
    exact vg ⟨rfl, inv_ref I (by decide)⟩
  obtain ⟨c, hc, rfl⟩ := nI_ex (n := V 0 0) p1.1 (by omega) (by omega)
  obtain ⟨k, hk, rfl⟩ := nI_ex (n := 8) p2.1 (by omega) (by decide)
  obtain ⟨a1, a2, a3⟩ := v.2.1 c hc
  obtain ⟨b1, b2⟩ := rn.2.1 c hc
  obtain ⟨d1, d2⟩ := rm.2.1 c hc
  refine vg (t_hasCard hc0 rn.1.1 (fun _ => vg (br_f (by decide) (t_isHook (fun _ => vg (brn_t (by decide) (t_valueAt (by omega) hk a1 a2 b1 b2 ?_))) (fun z => absurd p2 z)))) (fun z => absurd p1 z))
  refine vg (vg (t_isCard hc0 rm.1.1 (fun _ => vg (br_f (by decide) (t_inI 0 7 rfl rfl (fun _ => vg (br_f (by decide) (t_hasAt (by omega) hk a1 a2 a3 d1 d2 (vg ⟨rfl, I⟩)))) (fun z => absurd (by omega) z)))) (fun z => absurd p1 z)))
def w1 (a k v : Nat) : Nat := if v = 1 then a ||| 2 ^ k else clr a k
def w2 (e k v : Nat) : Nat := if v = 2 then e ||| 2 ^ k else clr e k
theorem t_put {Q : Qt} {c k a e w : Nat} (hc : c < 10) (hk : k < 8) (ha : a < 256) (he : e < 256) (hw : w < 3) (e1 : h.1 15 c = nI a) (e2 : h.1 16 c = nI e) (q : Q none (up2 (up2 h.1 15 c (nI (w1 a k w))) 16 c (nI (w2 e k w)), h.2)) : Go X m_X1_put 0 [.ref 2, .int (nI c), .int (nI k), .int (nI w), .null] [] h Q := by
  have k1 : h.1 15 c ||| (1 : Int32) <<< (nI k &&& 31) = nI (a ||| 2 ^ k) := by rw [e1]; exact setN a ha k hk
  have k2 : h.1 15 c &&& ((1 : Int32) <<< (nI k &&& 31) ^^^ (-1)) = nI (clr a k) := by rw [e1]; exact clrN a ha k hk
  have k3 : h.1 16 c ||| (1 : Int32) <<< (nI k &&& 31) = nI (e ||| 2 ^ k) := by rw [e2]; exact setN e he k hk
  have k4 : h.1 16 c &&& ((1 : Int32) <<< (nI k &&& 31) ^^^ (-1)) = nI (clr e k) := by rw [e2]; exact clrN e he k hk
  rcases (show w = 0 ∨ w = 1 ∨ w = 2 by omega) with rfl | rfl | rfl
  · refine vg (brn_t (by decide) ⟨c, rfl, hc, c, rfl, hc, brn_t (by decide) ⟨c, rfl, hc, c, rfl, hc, ?_⟩⟩)
    show Q none (up2 (up2 h.1 15 c (h.1 15 c &&& ((1 : Int32) <<< (nI k &&& 31) ^^^ (-1)))) 16 c (h.1 16 c &&& ((1 : Int32) <<< (nI k &&& 31) ^^^ (-1))), h.2)
    rw [k2, k4]; exact q
  · refine vg (brn_f rfl ⟨c, rfl, hc, c, rfl, hc, brn_t (by decide) ⟨c, rfl, hc, c, rfl, hc, ?_⟩⟩)
    show Q none (up2 (up2 h.1 15 c (h.1 15 c ||| (1 : Int32) <<< (nI k &&& 31))) 16 c (h.1 16 c &&& ((1 : Int32) <<< (nI k &&& 31) ^^^ (-1))), h.2)
    rw [k1, k4]; exact q
  · refine vg (brn_t (by decide) ⟨c, rfl, hc, c, rfl, hc, brn_f rfl ⟨c, rfl, hc, c, rfl, hc, ?_⟩⟩)
    show Q none (up2 (up2 h.1 15 c (h.1 15 c &&& ((1 : Int32) <<< (nI k &&& 31) ^^^ (-1)))) 16 c (h.1 16 c ||| (1 : Int32) <<< (nI k &&& 31)), h.2)
    rw [k2, k3]; exact q
theorem t_punches {Q : Qt} {c k a e w : Nat} (hc : c < 10) (hk : k < 8) (ha : a < 256) (he : e < 256) (hw : w < 3) (e1 : h.1 53 (4 + c) = nI a) (e2 : h.1 53 (14 + c) = nI e) (q : Q none (up2 (up2 h.1 53 (4 + c) (nI (w1 a k w))) 53 (14 + c) (nI (w2 e k w)), h.2)) : Go X m_X7_punches 0 [.ref 1, .int (nI c), .int (nI k), .int (nI w)] [] h Q := by
  have k1 : h.1 53 (4 + c) &&& ((1 : Int32) <<< (nI k &&& 31) ^^^ (-1)) ||| (1 : Int32) <<< (nI k &&& 31) = nI (a ||| 2 ^ k) := by rw [e1]; exact clrN1 a ha k hk
  have k2 : h.1 53 (4 + c) &&& ((1 : Int32) <<< (nI k &&& 31) ^^^ (-1)) ||| (0 : Int32) = nI (clr a k) := by rw [e1]; exact clrN0 a ha k hk
  have z : ∀ t : Int32, up2 h.1 53 (4 + c) t 53 (14 + c) = nI e := fun t => by rw [u_ne (by omega)]; exact e2
  have k3 : ∀ t : Int32, up2 h.1 53 (4 + c) t 53 (14 + c) &&& ((1 : Int32) <<< (nI k &&& 31) ^^^ (-1)) ||| (1 : Int32) <<< (nI k &&& 31) = nI (e ||| 2 ^ k) := fun t => by rw [z]; exact clrN1 e he k hk
  have k4 : ∀ t : Int32, up2 h.1 53 (4 + c) t 53 (14 + c) &&& ((1 : Int32) <<< (nI k &&& 31) ^^^ (-1)) ||| (0 : Int32) = nI (clr e k) := fun t => by rw [z]; exact clrN0 e he k hk
  rcases (show w = 0 ∨ w = 1 ∨ w = 2 by omega) with rfl | rfl | rfl
  · refine vg ⟨4 + c, nI_add 4 c, by omega, brn_t (by decide) ⟨4 + c, nI_add 4 c, by omega, 14 + c, nI_add 14 c, by omega, brn_t (by decide) ⟨14 + c, nI_add 14 c, by omega, ?_⟩⟩⟩
    show Q none (up2 (up2 h.1 53 (4 + c) (h.1 53 (4 + c) &&& ((1 : Int32) <<< (nI k &&& 31) ^^^ (-1)) ||| (0 : Int32))) 53 (14 + c) (up2 h.1 53 (4 + c) (h.1 53 (4 + c) &&& ((1 : Int32) <<< (nI k &&& 31) ^^^ (-1)) ||| (0 : Int32)) 53 (14 + c) &&& ((1 : Int32) <<< (nI k &&& 31) ^^^ (-1)) ||| (0 : Int32)), h.2)
    rw [k4, k2]; exact q
  · refine vg ⟨4 + c, nI_add 4 c, by omega, brn_f rfl ⟨4 + c, nI_add 4 c, by omega, 14 + c, nI_add 14 c, by omega, brn_t (by decide) ⟨14 + c, nI_add 14 c, by omega, ?_⟩⟩⟩
    show Q none (up2 (up2 h.1 53 (4 + c) (h.1 53 (4 + c) &&& ((1 : Int32) <<< (nI k &&& 31) ^^^ (-1)) ||| (1 : Int32) <<< (nI k &&& 31))) 53 (14 + c) (up2 h.1 53 (4 + c) (h.1 53 (4 + c) &&& ((1 : Int32) <<< (nI k &&& 31) ^^^ (-1)) ||| (1 : Int32) <<< (nI k &&& 31)) 53 (14 + c) &&& ((1 : Int32) <<< (nI k &&& 31) ^^^ (-1)) ||| (0 : Int32)), h.2)
    rw [k4, k1]; exact q
  · refine vg ⟨4 + c, nI_add 4 c, by omega, brn_t (by decide) ⟨4 + c, nI_add 4 c, by omega, 14 + c, nI_add 14 c, by omega, brn_f rfl ⟨14 + c, nI_add 14 c, by omega, ?_⟩⟩⟩
    show Q none (up2 (up2 h.1 53 (4 + c) (h.1 53 (4 + c) &&& ((1 : Int32) <<< (nI k &&& 31) ^^^ (-1)) ||| (0 : Int32))) 53 (14 + c) (up2 h.1 53 (4 + c) (h.1 53 (4 + c) &&& ((1 : Int32) <<< (nI k &&& 31) ^^^ (-1)) ||| (0 : Int32)) 53 (14 + c) &&& ((1 : Int32) <<< (nI k &&& 31) ^^^ (-1)) ||| (1 : Int32) <<< (nI k &&& 31)), h.2)
    rw [k3, k2]; exact q
theorem w_ok {a e k w : Nat} (ha : a < 256) (he : e < 256) (hk : k < 8) (hw : w < 3) (hd : a &&& e = 0) : w1 a k w < 256 ∧ w2 e k w < 256 ∧ w1 a k w &&& w2 e k w = 0 := by
  rcases (show w = 0 ∨ w = 1 ∨ w = 2 by omega) with rfl | rfl | rfl
  · exact ⟨clr_lt _ _ hk, clr_lt _ _ hk, dis_clr hk hd⟩
  · exact ⟨set_lt ha hk, clr_lt _ _ hk, dis_set hk hd⟩
  · exact ⟨clr_lt _ _ hk, set_lt he hk, dis_set2 hk hd⟩
theorem okV_card {V : Vw} (v : okV V) {c a e : Nat} (h1 : a < 256) (h2 : e < 256) (h3 : a &&& e = 0) : okV (up2 (up2 V 1 c a) 2 c e) := by
  refine ⟨v.1, fun q hq => ?_, v.2.2⟩
  show up2 V 1 c a 1 q < 256 ∧ up2 (up2 V 1 c a) 2 c e 2 q < 256 ∧ up2 V 1 c a 1 q &&& up2 (up2 V 1 c a) 2 c e 2 q = 0
  by_cases z : q = c
  · subst z; rw [u_at, u_at]; exact ⟨h1, h2, h3⟩
  · rw [u_ne z, u_ne z]; exact v.2.1 q hq
end OPS5
