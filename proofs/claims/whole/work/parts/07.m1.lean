theorem r_bipush_8 {E : EvT} {I : MI} {d mc ms : Nat} {Q : Option Value → va_W → Prop} {w : va_W} {k n : Nat} {ls : List (Nat × Value)} {st : List Value} {pc : Nat} (hd : decode I.2.1 pc = .ok (.bipush 8, 2)) (kk : RR E I d mc ms Q w k n ls (.int 8 :: st) (pc + 2)) : RR E I d mc ms Q w k n ls st pc := r_bipush hd (by decide) kk
theorem r_iconst_0 {E : EvT} {I : MI} {d mc ms : Nat} {Q : Option Value → va_W → Prop} {w : va_W} {k n : Nat} {ls : List (Nat × Value)} {st : List Value} {pc : Nat} (hd : decode I.2.1 pc = .ok (.iconst 0, 1)) (kk : RR E I d mc ms Q w k n ls (.int 0 :: st) (pc + 1)) : RR E I d mc ms Q w k n ls st pc := r_iconst hd (by decide) kk
theorem r_iconst_1 {E : EvT} {I : MI} {d mc ms : Nat} {Q : Option Value → va_W → Prop} {w : va_W} {k n : Nat} {ls : List (Nat × Value)} {st : List Value} {pc : Nat} (hd : decode I.2.1 pc = .ok (.iconst 1, 1)) (kk : RR E I d mc ms Q w k n ls (.int 1 :: st) (pc + 1)) : RR E I d mc ms Q w k n ls st pc := r_iconst hd (by decide) kk
theorem r_sipush_9999 {E : EvT} {I : MI} {d mc ms : Nat} {Q : Option Value → va_W → Prop} {w : va_W} {k n : Nat} {ls : List (Nat × Value)} {st : List Value} {pc : Nat} (hd : decode I.2.1 pc = .ok (.sipush 9999, 3)) (kk : RR E I d mc ms Q w k n ls (.int 9999 :: st) (pc + 3)) : RR E I d mc ms Q w k n ls st pc := r_sipush hd (by decide) kk
set_option maxRecDepth 20000 in
theorem en_in {E : EvT} {q : Nat → Nat} {d : Nat} {x0 x1 x2 : Int32} {S : StM} {P : Bool → StM → Prop} (h : (x0 < x1 → (P false S)) ∧ (¬ x0 < x1 → ((x2 < x0 → (P false S)) ∧ (¬ x2 < x0 → (P true S))))) : C_in E q d x0 x1 x2 S P := by
  refine Cn.of rfl (Nat.le_of_ble_eq_true rfl) (ls := [(0, .int (x0)), (1, .int (x1)), (2, .int (x2))]) rfl ?_
  refine r_iload_n 0 dX12_in_0 rfl rfl ?_
  refine r_iload_n 1 dX12_in_1 rfl rfl ?_
  refine r_icmp_lt (tgt := 14) dX12_in_2 (by decide) (fun c1 => ?_) (fun c1 => ?_)
  · have h := h.1 c1
    refine r_iconst_0 dX12_in_14 ?_
    exact r_zret0 dX12_in_15 rfl (Nat.le_refl _) (Nat.le_refl _) ⟨_, _, rfl, rfl, h⟩
  · have h := h.2 c1
    refine r_iload_n 0 dX12_in_5 rfl rfl ?_
    refine r_iload_n 2 dX12_in_6 rfl rfl ?_
    refine r_icmp_gt (tgt := 14) dX12_in_7 (by decide) (fun c2 => ?_) (fun c2 => ?_)
    · have h := h.1 c2
      refine r_iconst_0 dX12_in_14 ?_
      exact r_zret0 dX12_in_15 rfl (Nat.le_refl _) (Nat.le_refl _) ⟨_, _, rfl, rfl, h⟩
    · have h := h.2 c2
      refine r_iconst_1 dX12_in_10 ?_
      refine r_goto (tgt := 15) dX12_in_11 (by decide) ?_
      exact r_zret1 dX12_in_15 rfl (Nat.le_refl _) (Nat.le_refl _) ⟨_, _, rfl, rfl, h⟩
set_option maxRecDepth 20000 in
theorem en_isWeek {E : EvT} {q : Nat → Nat} {d : Nat} {x0 : Int32} {S : StM} {P : Bool → StM → Prop} (h : (x0 < 0 → (P false S)) ∧ (¬ x0 < 0 → ((9999 < x0 → (P false S)) ∧ (¬ 9999 < x0 → (P true S))))) : C_isWeek E q d x0 S P := by
  refine Cn.of rfl (Nat.le_of_ble_eq_true rfl) (ls := [(0, .int (x0))]) rfl ?_
  refine r_iload_n 0 dX12_isWeek_0 rfl rfl ?_
  refine r_if_lt (tgt := 15) dX12_isWeek_1 (by decide) (fun c1 => ?_) (fun c1 => ?_)
  · have h := h.1 c1
    refine r_iconst_0 dX12_isWeek_15 ?_
    exact r_zret0 dX12_isWeek_16 rfl (Nat.le_refl _) (Nat.le_refl _) ⟨_, _, rfl, rfl, h⟩
  · have h := h.2 c1
    refine r_iload_n 0 dX12_isWeek_4 rfl rfl ?_
    refine r_sipush_9999 dX12_isWeek_5 ?_
    refine r_icmp_gt (tgt := 15) dX12_isWeek_8 (by decide) (fun c2 => ?_) (fun c2 => ?_)
    · have h := h.1 c2
      refine r_iconst_0 dX12_isWeek_15 ?_
      exact r_zret0 dX12_isWeek_16 rfl (Nat.le_refl _) (Nat.le_refl _) ⟨_, _, rfl, rfl, h⟩
    · have h := h.2 c2
      refine r_iconst_1 dX12_isWeek_11 ?_
      refine r_goto (tgt := 16) dX12_isWeek_12 (by decide) ?_
      exact r_zret1 dX12_isWeek_16 rfl (Nat.le_refl _) (Nat.le_refl _) ⟨_, _, rfl, rfl, h⟩
set_option maxRecDepth 20000 in
theorem en_isCell {E : EvT} {q : Nat → Nat} {d : Nat} {x1 : Int32} {S : StM} {P : Bool → StM → Prop} (h : (x1 < 0 → (P false S)) ∧ (¬ x1 < 0 → ((((S.1 0) * (S.1 1)) ≤ x1 → (P false S)) ∧ (¬ ((S.1 0) * (S.1 1)) ≤ x1 → (P true S))))) : C_isCell E q d x1 S P := by
  refine Cn.of rfl (Nat.le_of_ble_eq_true rfl) (ls := [(0, .ref (q 0)), (1, .int (x1))]) rfl ?_
  refine r_iload_n 1 dX12_isCell_0 rfl rfl ?_
  refine r_if_lt (tgt := 21) dX12_isCell_1 (by decide) (fun c1 => ?_) (fun c1 => ?_)
  · have h := h.1 c1
    refine r_iconst_0 dX12_isCell_21 ?_
    exact r_zret0 dX12_isCell_22 rfl (Nat.le_refl _) (Nat.le_refl _) ⟨_, _, rfl, rfl, h⟩
  · have h := h.2 c1
    refine r_iload_n 1 dX12_isCell_4 rfl rfl ?_
    refine r_aload_n 0 dX12_isCell_5 rfl rfl ?_
    refine mg_0 rfl dX12_isCell_6 ?_
    refine r_aload_n 0 dX12_isCell_9 rfl rfl ?_
    refine mg_1 rfl dX12_isCell_10 ?_
    refine r_imul dX12_isCell_13 ?_
    refine r_icmp_ge (tgt := 21) dX12_isCell_14 (by decide) (fun c2 => ?_) (fun c2 => ?_)
    · have h := h.1 c2
      refine r_iconst_0 dX12_isCell_21 ?_
      exact r_zret0 dX12_isCell_22 rfl (Nat.le_refl _) (Nat.le_refl _) ⟨_, _, rfl, rfl, h⟩
    · have h := h.2 c2
      refine r_iconst_1 dX12_isCell_17 ?_
      refine r_goto (tgt := 22) dX12_isCell_18 (by decide) ?_
      exact r_zret1 dX12_isCell_22 rfl (Nat.le_refl _) (Nat.le_refl _) ⟨_, _, rfl, rfl, h⟩
set_option maxRecDepth 20000 in
theorem en_isLayer {E : EvT} {q : Nat → Nat} {d : Nat} {x0 : Int32} {S : StM} {P : Bool → StM → Prop} (h : (x0 < 0 → (P false S)) ∧ (¬ x0 < 0 → ((8 ≤ x0 → (P false S)) ∧ (¬ 8 ≤ x0 → (P true S))))) : C_isLayer E q d x0 S P := by
  refine Cn.of rfl (Nat.le_of_ble_eq_true rfl) (ls := [(0, .int (x0))]) rfl ?_
  refine r_iload_n 0 dX12_isLayer_0 rfl rfl ?_
  refine r_if_lt (tgt := 14) dX12_isLayer_1 (by decide) (fun c1 => ?_) (fun c1 => ?_)
  · have h := h.1 c1
    refine r_iconst_0 dX12_isLayer_14 ?_
    exact r_zret0 dX12_isLayer_15 rfl (Nat.le_refl _) (Nat.le_refl _) ⟨_, _, rfl, rfl, h⟩
  · have h := h.2 c1
    refine r_iload_n 0 dX12_isLayer_4 rfl rfl ?_
    refine r_bipush_8 dX12_isLayer_5 ?_
    refine r_icmp_ge (tgt := 14) dX12_isLayer_7 (by decide) (fun c2 => ?_) (fun c2 => ?_)
    · have h := h.1 c2
      refine r_iconst_0 dX12_isLayer_14 ?_
      exact r_zret0 dX12_isLayer_15 rfl (Nat.le_refl _) (Nat.le_refl _) ⟨_, _, rfl, rfl, h⟩
    · have h := h.2 c2
      refine r_iconst_1 dX12_isLayer_10 ?_
      refine r_goto (tgt := 15) dX12_isLayer_11 (by decide) ?_
      exact r_zret1 dX12_isLayer_15 rfl (Nat.le_refl _) (Nat.le_refl _) ⟨_, _, rfl, rfl, h⟩

theorem tq1 (a b c : Int32) (h : a < b) : ¬ (b ≤ a) := by grind
theorem tq2 (a b c : Int32) (h : a < b) (h2 : b ≤ c) : a < c := by grind
theorem tq3 (a b : Int32) (h : 0 ≤ a) (h2 : a < 100) : a + 1 ≤ 100 := by grind
theorem tq4 (a b : Int32) (h : 0 ≤ a) (h2 : a < 100) : 0 ≤ a.toInt ∧ a.toInt < 100 := by grind
theorem tq5 (a b : Int32) (h : 0 ≤ a) (h2 : a < 100) : vp_in a 100 := by rw [vp_in_iff]; grind
def mIn (x lo hi : Int32) : Bool := decide (lo ≤ x ∧ x ≤ hi)
theorem ct_in {E : EvT} {q : Nat → Nat} {d : Nat} {S : StM} {x0 x1 x2 : Int32} : C_in E q d x0 x1 x2 S (fun r S1 => r = mIn x0 x1 x2 ∧ S1 = S) := by
  refine en_in ?_
  grind [mIn]
theorem tq6 (a b : Int32) (h : a.toInt < b.toInt) : a < b := by grind
theorem tq7 (a : Int32) (n : Nat) (h : a = nI n) (hn : n < 100) : a < 100 := by grind [nI]
theorem tq8 (a : Nat) (h : a < 200) : nI a + 1 = nI (a + 1) := by grind [nI]
