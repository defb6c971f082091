section PUT
variable {h : Hp}
theorem inv_put1 (I : Inv h) {V : Vw} (v : okV V) (rn : RN V h) (rm : RM V h 53) (p w : Nat) (hp : p < 10) (v' : okV (up2 V 1 p w)) : Inv (up2 (up2 h.1 15 p (nI w)) 53 (4 + p) (nI w), h.2) := by
  have kn : ∀ q, q ≠ 4 + p → up2 (up2 h.1 15 p (nI w)) 53 (4 + p) (nI w) 53 q = h.1 53 q := fun q hq => by rw [u_ne hq]; rfl
  refine in7 (V := up2 V 1 p w) I (fun q _ h1 h2 h3 => ?_) rfl rfl rfl rfl v' ?_ ?_
  · rw [up2_ne h2, up2_ne (by omega)]
  · exact ⟨rn.1, fun c hc => ⟨(by
      show up2 h.1 15 p (nI w) 15 c = nI (up2 V 1 p w 1 c)
      by_cases e : c = p
      · subst e; rw [u_at, u_at]
      · rw [u_ne e, u_ne e]; exact (rn.2.1 c hc).1), (rn.2.1 c hc).2⟩, fun t ht => (rn.2.2.1 t ht), fun i hi => (rn.2.2.2.1 i hi), fun l hl => ⟨(rn.2.2.2.2 l hl).1, (rn.2.2.2.2 l hl).2.1, (rn.2.2.2.2 l hl).2.2⟩⟩
  · refine ⟨⟨(kn 0 (by omega)).trans rm.1.1, (kn 1 (by omega)).trans rm.1.2.1, (kn 2 (by omega)).trans rm.1.2.2⟩, fun c hc => ?_, fun t ht => ?_, fun i hi => ?_, fun l hl => ?_⟩
    · have hc : c < V 0 0 := hc
      have hc0 := v.1.1
      exact ⟨(by
      show up2 (up2 h.1 15 p (nI w)) 53 (4 + p) (nI w) 53 (4 + c) = nI (up2 V 1 p w 1 c)
      by_cases e : c = p
      · subst e; rw [u_at, u_at]
      · rw [u_ne (by omega), u_ne e]; exact (rm.2.1 c hc).1), ((kn _ (by omega)).trans (rm.2.1 c hc).2)⟩
    · exact ((kn _ (by omega)).trans (rm.2.2.1 t ht))
    · have hi : i < V 0 1 := hi
      have hi0 := v.1.2.1
      exact ((kn _ (by omega)).trans (rm.2.2.2.1 i hi))
    · have hl : l < V 0 2 := hl
      have hl0 := v.1.2.2
      exact ⟨((kn _ (by omega)).trans (rm.2.2.2.2 l hl).1), ((kn _ (by omega)).trans (rm.2.2.2.2 l hl).2.1), ((kn _ (by omega)).trans (rm.2.2.2.2 l hl).2.2)⟩
theorem inv_put2 (I : Inv h) {V : Vw} (v : okV V) (rn : RN V h) (rm : RM V h 53) (p w : Nat) (hp : p < 10) (v' : okV (up2 V 2 p w)) : Inv (up2 (up2 h.1 16 p (nI w)) 53 (14 + p) (nI w), h.2) := by
  have kn : ∀ q, q ≠ 14 + p → up2 (up2 h.1 16 p (nI w)) 53 (14 + p) (nI w) 53 q = h.1 53 q := fun q hq => by rw [u_ne hq]; rfl
  refine in7 (V := up2 V 2 p w) I (fun q _ h1 h2 h3 => ?_) rfl rfl rfl rfl v' ?_ ?_
  · rw [up2_ne h2, up2_ne (by omega)]
  · exact ⟨rn.1, fun c hc => ⟨(rn.2.1 c hc).1, (by
      show up2 h.1 16 p (nI w) 16 c = nI (up2 V 2 p w 2 c)
      by_cases e : c = p
      · subst e; rw [u_at, u_at]
      · rw [u_ne e, u_ne e]; exact (rn.2.1 c hc).2)⟩, fun t ht => (rn.2.2.1 t ht), fun i hi => (rn.2.2.2.1 i hi), fun l hl => ⟨(rn.2.2.2.2 l hl).1, (rn.2.2.2.2 l hl).2.1, (rn.2.2.2.2 l hl).2.2⟩⟩
  · refine ⟨⟨(kn 0 (by omega)).trans rm.1.1, (kn 1 (by omega)).trans rm.1.2.1, (kn 2 (by omega)).trans rm.1.2.2⟩, fun c hc => ?_, fun t ht => ?_, fun i hi => ?_, fun l hl => ?_⟩
    · have hc : c < V 0 0 := hc
      have hc0 := v.1.1
      exact ⟨((kn _ (by omega)).trans (rm.2.1 c hc).1), (by
      show up2 (up2 h.1 16 p (nI w)) 53 (14 + p) (nI w) 53 (14 + c) = nI (up2 V 2 p w 2 c)
      by_cases e : c = p
      · subst e; rw [u_at, u_at]
      · rw [u_ne (by omega), u_ne e]; exact (rm.2.1 c hc).2)⟩
    · exact ((kn _ (by omega)).trans (rm.2.2.1 t ht))
    · have hi : i < V 0 1 := hi
      have hi0 := v.1.2.1
      exact ((kn _ (by omega)).trans (rm.2.2.2.1 i hi))
    · have hl : l < V 0 2 := hl
      have hl0 := v.1.2.2
      exact ⟨((kn _ (by omega)).trans (rm.2.2.2.2 l hl).1), ((kn _ (by omega)).trans (rm.2.2.2.2 l hl).2.1), ((kn _ (by omega)).trans (rm.2.2.2.2 l hl).2.2)⟩
theorem inv_put3 (I : Inv h) {V : Vw} (v : okV V) (rn : RN V h) (rm : RM V h 53) (p w : Nat) (hp : p < 16) (v' : okV (up2 V 3 p w)) : Inv (up2 (up2 h.1 17 p (nI w)) 53 (24 + p) (nI w), h.2) := by
  have kn : ∀ q, q ≠ 24 + p → up2 (up2 h.1 17 p (nI w)) 53 (24 + p) (nI w) 53 q = h.1 53 q := fun q hq => by rw [u_ne hq]; rfl
  refine in7 (V := up2 V 3 p w) I (fun q _ h1 h2 h3 => ?_) rfl rfl rfl rfl v' ?_ ?_
  · rw [up2_ne h2, up2_ne (by omega)]
  · exact ⟨rn.1, fun c hc => ⟨(rn.2.1 c hc).1, (rn.2.1 c hc).2⟩, fun t ht => (by
      show up2 h.1 17 p (nI w) 17 t = nI (up2 V 3 p w 3 t)
      by_cases e : t = p
      · subst e; rw [u_at, u_at]
      · rw [u_ne e, u_ne e]; exact (rn.2.2.1 t ht)), fun i hi => (rn.2.2.2.1 i hi), fun l hl => ⟨(rn.2.2.2.2 l hl).1, (rn.2.2.2.2 l hl).2.1, (rn.2.2.2.2 l hl).2.2⟩⟩
  · refine ⟨⟨(kn 0 (by omega)).trans rm.1.1, (kn 1 (by omega)).trans rm.1.2.1, (kn 2 (by omega)).trans rm.1.2.2⟩, fun c hc => ?_, fun t ht => ?_, fun i hi => ?_, fun l hl => ?_⟩
    · have hc : c < V 0 0 := hc
      have hc0 := v.1.1
      exact ⟨((kn _ (by omega)).trans (rm.2.1 c hc).1), ((kn _ (by omega)).trans (rm.2.1 c hc).2)⟩
    · exact (by
      show up2 (up2 h.1 17 p (nI w)) 53 (24 + p) (nI w) 53 (24 + t) = nI (up2 V 3 p w 3 t)
      by_cases e : t = p
      · subst e; rw [u_at, u_at]
      · rw [u_ne (by omega), u_ne e]; exact (rm.2.2.1 t ht))
    · have hi : i < V 0 1 := hi
      have hi0 := v.1.2.1
      exact ((kn _ (by omega)).trans (rm.2.2.2.1 i hi))
    · have hl : l < V 0 2 := hl
      have hl0 := v.1.2.2
      exact ⟨((kn _ (by omega)).trans (rm.2.2.2.2 l hl).1), ((kn _ (by omega)).trans (rm.2.2.2.2 l hl).2.1), ((kn _ (by omega)).trans (rm.2.2.2.2 l hl).2.2)⟩
theorem inv_put4 (I : Inv h) {V : Vw} (v : okV V) (rn : RN V h) (rm : RM V h 53) (p w : Nat) (hp : p < 20) (v' : okV (up2 V 4 p w)) : Inv (up2 (up2 h.1 18 p (nI w)) 53 (40 + p) (nI w), h.2) := by
  have kn : ∀ q, q ≠ 40 + p → up2 (up2 h.1 18 p (nI w)) 53 (40 + p) (nI w) 53 q = h.1 53 q := fun q hq => by rw [u_ne hq]; rfl
  refine in7 (V := up2 V 4 p w) I (fun q _ h1 h2 h3 => ?_) rfl rfl rfl rfl v' ?_ ?_
  · rw [up2_ne h2, up2_ne (by omega)]
  · exact ⟨rn.1, fun c hc => ⟨(rn.2.1 c hc).1, (rn.2.1 c hc).2⟩, fun t ht => (rn.2.2.1 t ht), fun i hi => (by
      show up2 h.1 18 p (nI w) 18 i = nI (up2 V 4 p w 4 i)
      by_cases e : i = p
      · subst e; rw [u_at, u_at]
      · rw [u_ne e, u_ne e]; exact (rn.2.2.2.1 i hi)), fun l hl => ⟨(rn.2.2.2.2 l hl).1, (rn.2.2.2.2 l hl).2.1, (rn.2.2.2.2 l hl).2.2⟩⟩
  · refine ⟨⟨(kn 0 (by omega)).trans rm.1.1, (kn 1 (by omega)).trans rm.1.2.1, (kn 2 (by omega)).trans rm.1.2.2⟩, fun c hc => ?_, fun t ht => ?_, fun i hi => ?_, fun l hl => ?_⟩
    · have hc : c < V 0 0 := hc
      have hc0 := v.1.1
      exact ⟨((kn _ (by omega)).trans (rm.2.1 c hc).1), ((kn _ (by omega)).trans (rm.2.1 c hc).2)⟩
    · exact ((kn _ (by omega)).trans (rm.2.2.1 t ht))
    · have hi : i < V 0 1 := hi
      have hi0 := v.1.2.1
      exact (by
      show up2 (up2 h.1 18 p (nI w)) 53 (40 + p) (nI w) 53 (40 + i) = nI (up2 V 4 p w 4 i)
      by_cases e : i = p
      · subst e; rw [u_at, u_at]
      · rw [u_ne (by omega), u_ne e]; exact (rm.2.2.2.1 i hi))
    · have hl : l < V 0 2 := hl
      have hl0 := v.1.2.2
      exact ⟨((kn _ (by omega)).trans (rm.2.2.2.2 l hl).1), ((kn _ (by omega)).trans (rm.2.2.2.2 l hl).2.1), ((kn _ (by omega)).trans (rm.2.2.2.2 l hl).2.2)⟩
theorem inv_put5 (I : Inv h) {V : Vw} (v : okV V) (rn : RN V h) (rm : RM V h 53) (p w : Nat) (hp : p < 6) (v' : okV (up2 V 5 p w)) : Inv (up2 (up2 h.1 19 p (nI w)) 53 (60 + p) (nI w), h.2) := by
  have kn : ∀ q, q ≠ 60 + p → up2 (up2 h.1 19 p (nI w)) 53 (60 + p) (nI w) 53 q = h.1 53 q := fun q hq => by rw [u_ne hq]; rfl
  refine in7 (V := up2 V 5 p w) I (fun q _ h1 h2 h3 => ?_) rfl rfl rfl rfl v' ?_ ?_
  · rw [up2_ne h2, up2_ne (by omega)]
  · exact ⟨rn.1, fun c hc => ⟨(rn.2.1 c hc).1, (rn.2.1 c hc).2⟩, fun t ht => (rn.2.2.1 t ht), fun i hi => (rn.2.2.2.1 i hi), fun l hl => ⟨(by
      show up2 h.1 19 p (nI w) 19 l = nI (up2 V 5 p w 5 l)
      by_cases e : l = p
      · subst e; rw [u_at, u_at]
      · rw [u_ne e, u_ne e]; exact (rn.2.2.2.2 l hl).1), (rn.2.2.2.2 l hl).2.1, (rn.2.2.2.2 l hl).2.2⟩⟩
  · refine ⟨⟨(kn 0 (by omega)).trans rm.1.1, (kn 1 (by omega)).trans rm.1.2.1, (kn 2 (by omega)).trans rm.1.2.2⟩, fun c hc => ?_, fun t ht => ?_, fun i hi => ?_, fun l hl => ?_⟩
    · have hc : c < V 0 0 := hc
      have hc0 := v.1.1
      exact ⟨((kn _ (by omega)).trans (rm.2.1 c hc).1), ((kn _ (by omega)).trans (rm.2.1 c hc).2)⟩
    · exact ((kn _ (by omega)).trans (rm.2.2.1 t ht))
    · have hi : i < V 0 1 := hi
      have hi0 := v.1.2.1
      exact ((kn _ (by omega)).trans (rm.2.2.2.1 i hi))
    · have hl : l < V 0 2 := hl
      have hl0 := v.1.2.2
      exact ⟨(by
      show up2 (up2 h.1 19 p (nI w)) 53 (60 + p) (nI w) 53 (60 + l) = nI (up2 V 5 p w 5 l)
      by_cases e : l = p
      · subst e; rw [u_at, u_at]
      · rw [u_ne (by omega), u_ne e]; exact (rm.2.2.2.2 l hl).1), ((kn _ (by omega)).trans (rm.2.2.2.2 l hl).2.1), ((kn _ (by omega)).trans (rm.2.2.2.2 l hl).2.2)⟩
theorem inv_put6 (I : Inv h) {V : Vw} (v : okV V) (rn : RN V h) (rm : RM V h 53) (p w : Nat) (hp : p < 6) (v' : okV (up2 V 6 p w)) : Inv (up2 (up2 h.1 20 p (nI w)) 53 (66 + p) (nI w), h.2) := by
  have kn : ∀ q, q ≠ 66 + p → up2 (up2 h.1 20 p (nI w)) 53 (66 + p) (nI w) 53 q = h.1 53 q := fun q hq => by rw [u_ne hq]; rfl
  refine in7 (V := up2 V 6 p w) I (fun q _ h1 h2 h3 => ?_) rfl rfl rfl rfl v' ?_ ?_
  · rw [up2_ne h2, up2_ne (by omega)]
  · exact ⟨rn.1, fun c hc => ⟨(rn.2.1 c hc).1, (rn.2.1 c hc).2⟩, fun t ht => (rn.2.2.1 t ht), fun i hi => (rn.2.2.2.1 i hi), fun l hl => ⟨(rn.2.2.2.2 l hl).1, (by
      show up2 h.1 20 p (nI w) 20 l = nI (up2 V 6 p w 6 l)
      by_cases e : l = p
      · subst e; rw [u_at, u_at]
      · rw [u_ne e, u_ne e]; exact (rn.2.2.2.2 l hl).2.1), (rn.2.2.2.2 l hl).2.2⟩⟩
  · refine ⟨⟨(kn 0 (by omega)).trans rm.1.1, (kn 1 (by omega)).trans rm.1.2.1, (kn 2 (by omega)).trans rm.1.2.2⟩, fun c hc => ?_, fun t ht => ?_, fun i hi => ?_, fun l hl => ?_⟩
    · have hc : c < V 0 0 := hc
      have hc0 := v.1.1
      exact ⟨((kn _ (by omega)).trans (rm.2.1 c hc).1), ((kn _ (by omega)).trans (rm.2.1 c hc).2)⟩
    · exact ((kn _ (by omega)).trans (rm.2.2.1 t ht))
    · have hi : i < V 0 1 := hi
      have hi0 := v.1.2.1
      exact ((kn _ (by omega)).trans (rm.2.2.2.1 i hi))
    · have hl : l < V 0 2 := hl
      have hl0 := v.1.2.2
      exact ⟨((kn _ (by omega)).trans (rm.2.2.2.2 l hl).1), (by
      show up2 (up2 h.1 20 p (nI w)) 53 (66 + p) (nI w) 53 (66 + l) = nI (up2 V 6 p w 6 l)
      by_cases e : l = p
      · subst e; rw [u_at, u_at]
      · rw [u_ne (by omega), u_ne e]; exact (rm.2.2.2.2 l hl).2.1), ((kn _ (by omega)).trans (rm.2.2.2.2 l hl).2.2)⟩
theorem inv_put7 (I : Inv h) {V : Vw} (v : okV V) (rn : RN V h) (rm : RM V h 53) (p w : Nat) (hp : p < 6) (v' : okV (up2 V 7 p w)) : Inv (up2 (up2 h.1 21 p (nI w)) 53 (72 + p) (nI w), h.2) := by
  have kn : ∀ q, q ≠ 72 + p → up2 (up2 h.1 21 p (nI w)) 53 (72 + p) (nI w) 53 q = h.1 53 q := fun q hq => by rw [u_ne hq]; rfl
  refine in7 (V := up2 V 7 p w) I (fun q _ h1 h2 h3 => ?_) rfl rfl rfl rfl v' ?_ ?_
  · rw [up2_ne h2, up2_ne (by omega)]
  · exact ⟨rn.1, fun c hc => ⟨(rn.2.1 c hc).1, (rn.2.1 c hc).2⟩, fun t ht => (rn.2.2.1 t ht), fun i hi => (rn.2.2.2.1 i hi), fun l hl => ⟨(rn.2.2.2.2 l hl).1, (rn.2.2.2.2 l hl).2.1, (by
      show up2 h.1 21 p (nI w) 21 l = nI (up2 V 7 p w 7 l)
      by_cases e : l = p
      · subst e; rw [u_at, u_at]
      · rw [u_ne e, u_ne e]; exact (rn.2.2.2.2 l hl).2.2)⟩⟩
  · refine ⟨⟨(kn 0 (by omega)).trans rm.1.1, (kn 1 (by omega)).trans rm.1.2.1, (kn 2 (by omega)).trans rm.1.2.2⟩, fun c hc => ?_, fun t ht => ?_, fun i hi => ?_, fun l hl => ?_⟩
    · have hc : c < V 0 0 := hc
      have hc0 := v.1.1
      exact ⟨((kn _ (by omega)).trans (rm.2.1 c hc).1), ((kn _ (by omega)).trans (rm.2.1 c hc).2)⟩
    · exact ((kn _ (by omega)).trans (rm.2.2.1 t ht))
    · have hi : i < V 0 1 := hi
      have hi0 := v.1.2.1
      exact ((kn _ (by omega)).trans (rm.2.2.2.1 i hi))
    · have hl : l < V 0 2 := hl
      have hl0 := v.1.2.2
      exact ⟨((kn _ (by omega)).trans (rm.2.2.2.2 l hl).1), ((kn _ (by omega)).trans (rm.2.2.2.2 l hl).2.1), (by
      show up2 (up2 h.1 21 p (nI w)) 53 (72 + p) (nI w) 53 (72 + l) = nI (up2 V 7 p w 7 l)
      by_cases e : l = p
      · subst e; rw [u_at, u_at]
      · rw [u_ne (by omega), u_ne e]; exact (rm.2.2.2.2 l hl).2.2)⟩
end PUT
