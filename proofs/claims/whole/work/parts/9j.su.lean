/-! join and rules on both sides -/
set_option maxRecDepth 20000 in
set_option maxHeartbeats 2000000 in
theorem st_join {E : EvT} {q q2 : Nat → Nat} {X : StX} {M : StM} {x1 : Int32} (hE : EOk E q) (h : OK X M) : C_City_join E q 1000 x1 X (fun r X1 => C_join E q2 1000 x1 M (fun r2 M1 => r2 = r ∧ OK X1 M1)) := by
  have h0 := h
  obtain ⟨B, hB, hP, hD, hM, hT, hW, hA, hR, hF, hU, hS, hc, hr⟩ := h
  refine mIx (ct_City_join hE hT ⟨hF, hU, hR⟩) (fun r X1 hx => mI (ct_join ⟨hF, hU, hR⟩) (fun r2 M1 hm => ?_))
  by_cases ok : joiOk M x1
  · have hx := hx.2 ok
    have hm := hm.2 ok
    have hn : ix x1 ≤ 8 := by
      have k := ok.1
      rw [mIn, decide_eq_true_eq] at k
      exact (cnt (m := 8) (n := 8) rfl (by omega) k.1 k.2).2
    by_cases hh : Hears M (ix x1)
    · obtain ⟨a, ro, j1, e1, k1, f1⟩ := hm.2 hh
      obtain ⟨a2, j2, e2, Z, rw2, k2, rfl, f2⟩ := hx.2 hh
      obtain ⟨o1, o2⟩ := join_one hn hU.n.2 j1 j2
      refine ⟨by rw [e1, e2, o2], ?_⟩
      refine k1.to (OK _) ?_
      refine k2.to (fun Z => OK (xA (xI Z 70 (nI (ix x1))) 71 rw2) (kpM (sA (sI (sI M 28 0) 69 (nI (ix x1))) 74 ro) M1)) ?_
      refine ⟨B, hB, hP, hD, hM, ⟨⟨rfl, hT.1.2⟩, show (0 : Int32) ≤ 0 by decide, show (0 : Int32) ≤ 400 by decide⟩, hW, hA, hR, hF, ⟨⟨hU.1.1, hU.1.2.1, hU.1.2.2.1, hU.1.2.2.2.1, hU.1.2.2.2.2.1, rfl⟩, ⟨hU.2.1.1, show 0 ≤ nI (ix x1) from nI_pos' (by omega), show nI (ix x1) ≤ 8 from nI_le (b := 8) hn (by omega)⟩, hU.2.2.1, hU.2.2.2.1, fun p hp => ?_⟩, hS, hc, hr⟩
      have hp1 : p < ix x1 := by
        have hp2 : p < ix (nI (ix x1)) := hp
        rw [show ix (nI (ix x1)) = ix x1 from nI_clamp (by omega)] at hp2
        exact hp2
      show rw2 p = ro p
      rw [f2 p hp1, f1 p hp1, o1 p hp1]
    · obtain ⟨e1, k1⟩ := hm.1 hh
      obtain ⟨e2, k2⟩ := hx.1 hh
      exact ⟨e1.trans e2.symm, OK.kp (OK.tape h0) k1 k2⟩
  · obtain ⟨e1, rfl⟩ := hx.1 ok
    obtain ⟨e2, rfl⟩ := hm.1 ok
    exact ⟨e2.trans e1.symm, h0⟩
def ruI (j : Nat) : Bool := (Nat.ble 28 j && Nat.ble j 36) || j == 44
def ruA (j : Nat) : Bool := Nat.ble 37 j && Nat.ble j 53
def ruM (M N : StM) : StM := (fun j => if ruI j = true then N.1 j else M.1 j, fun j => if ruA j = true then N.2 j else M.2 j)
theorem ru_to {M N : StM} (h1 : ∀ j, ¬ (28 ≤ j ∧ j ≤ 36) → ¬ j = 44 → N.1 j = M.1 j) (h2 : ∀ j, ¬ (37 ≤ j ∧ j ≤ 53) → N.2 j = M.2 j) (P : StM → Prop) (hp : P (ruM M N)) : P N := by
  have e : N = ruM M N := by
    refine Prod.ext ?_ ?_
    · funext j
      show N.1 j = if ruI j = true then N.1 j else M.1 j
      by_cases c : ruI j = true
      · rw [if_pos c]
      · rw [if_neg c]
        refine h1 j (fun z => c ?_) (fun z => c ?_)
        · unfold ruI
          rw [Nat.ble_eq_true_of_le z.1, Nat.ble_eq_true_of_le z.2]
          rfl
        · subst z; rfl
    · funext j
      show N.2 j = if ruA j = true then N.2 j else M.2 j
      by_cases c : ruA j = true
      · rw [if_pos c]
      · rw [if_neg c]
        refine h2 j (fun z => c ?_)
        unfold ruA
        rw [Nat.ble_eq_true_of_le z.1, Nat.ble_eq_true_of_le z.2]
        rfl
  rw [e]
  exact hp
