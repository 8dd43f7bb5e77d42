set_option maxRecDepth 20000 in
theorem en_setsFacts {E : EvT} {q : Nat → Nat} {d : Nat} {x1 : Int32} {x2 : Int32} {x3 : Int32} {x4 : Int32} {x5 : Int32} {S : StM} {P : StM → Prop} (h : (¬ x5 = (-1) → ((0 ≤ x5 ∧ x5 < 30) ∧ (P (sA (sA (sA (sA (sA S 56 (upd (a_facts S) (ix 0) x1)) 56 (upd ((upd (a_facts S) (ix 0) x1)) (ix 1) x2)) 56 (upd ((upd ((upd (a_facts S) (ix 0) x1)) (ix 1) x2)) (ix 2) x3)) 56 (upd ((upd ((upd ((upd (a_facts S) (ix 0) x1)) (ix 1) x2)) (ix 2) x3)) (ix 3) x4)) 56 (upd ((upd ((upd ((upd ((upd (a_facts S) (ix 0) x1)) (ix 1) x2)) (ix 2) x3)) (ix 3) x4)) (ix 4) (a_placeKind S (ix x5))))))) ∧ (x5 = (-1) → (P (sA (sA (sA (sA (sA S 56 (upd (a_facts S) (ix 0) x1)) 56 (upd ((upd (a_facts S) (ix 0) x1)) (ix 1) x2)) 56 (upd ((upd ((upd (a_facts S) (ix 0) x1)) (ix 1) x2)) (ix 2) x3)) 56 (upd ((upd ((upd ((upd (a_facts S) (ix 0) x1)) (ix 1) x2)) (ix 2) x3)) (ix 3) x4)) 56 (upd ((upd ((upd ((upd ((upd (a_facts S) (ix 0) x1)) (ix 1) x2)) (ix 2) x3)) (ix 3) x4)) (ix 4) (-1)))))) : C_setsFacts E q d x1 x2 x3 x4 x5 S P := by
  refine Cn.of rfl (Nat.le_of_ble_eq_true rfl) (ls := [(0, .ref (q 0)), (1, .int (x1)), (2, .int (x2)), (3, .int (x3)), (4, .int (x4)), (5, .int (x5))]) rfl ?_
  refine r_aload_n 0 dX12_setsFacts_0 rfl rfl ?_
  refine mg_56 rfl dX12_setsFacts_1 ?_
  refine r_iconst_0 dX12_setsFacts_4 ?_
  refine r_iload_n 1 dX12_setsFacts_5 rfl rfl ?_
  refine mt_56 (by decide) dX12_setsFacts_6 ?_
  refine r_aload_n 0 dX12_setsFacts_7 rfl rfl ?_
  refine mg_56 rfl dX12_setsFacts_8 ?_
  refine r_iconst_1 dX12_setsFacts_11 ?_
  refine r_iload_n 2 dX12_setsFacts_12 rfl rfl ?_
  refine mt_56 (by decide) dX12_setsFacts_13 ?_
  refine r_aload_n 0 dX12_setsFacts_14 rfl rfl ?_
  refine mg_56 rfl dX12_setsFacts_15 ?_
  refine r_iconst_2 dX12_setsFacts_18 ?_
  refine r_iload_n 3 dX12_setsFacts_19 rfl rfl ?_
  refine mt_56 (by decide) dX12_setsFacts_20 ?_
  refine r_aload_n 0 dX12_setsFacts_21 rfl rfl ?_
  refine mg_56 rfl dX12_setsFacts_22 ?_
  refine r_iconst_3 dX12_setsFacts_25 ?_
  refine r_iload 4 dX12_setsFacts_26 rfl ?_
  refine mt_56 (by decide) dX12_setsFacts_28 ?_
  refine r_aload_n 0 dX12_setsFacts_29 rfl rfl ?_
  refine mg_56 rfl dX12_setsFacts_30 ?_
  refine r_iconst_4 dX12_setsFacts_33 ?_
  refine r_iload 5 dX12_setsFacts_34 rfl ?_
  refine r_iconst_m1 dX12_setsFacts_36 ?_
  refine r_icmp_ne (tgt := 44) dX12_setsFacts_37 (by decide) (fun c1 => ?_) (fun c1 => ?_)
  · have h := h.1 c1
    refine r_aload_n 0 dX12_setsFacts_44 rfl rfl ?_
    refine mg_7 rfl dX12_setsFacts_45 ?_
    refine r_iload 5 dX12_setsFacts_48 rfl ?_
    obtain ⟨b2, h⟩ := h
    refine ml_7 b2 dX12_setsFacts_50 ?_
    refine mt_56 (by decide) dX12_setsFacts_51 ?_
    exact r_vret dX12_setsFacts_52 rfl (Nat.le_refl _) (Nat.le_refl _) ⟨_, rfl, rfl, h⟩
  · have h := h.2 c1
    refine r_iconst_m1 dX12_setsFacts_40 ?_
    refine r_goto (tgt := 51) dX12_setsFacts_41 (by decide) ?_
    refine mt_56 (by decide) dX12_setsFacts_51 ?_
    exact r_vret dX12_setsFacts_52 rfl (Nat.le_refl _) (Nat.le_refl _) ⟨_, rfl, rfl, h⟩
abbrev T_numberBy_17 (E : EvT) (q : Nat → Nat) (D : Nat) (P : Int32 → StM → Prop) (S : StM) (y1 : Int32) (y2 : Int32) (y3 : Int32) : Prop := RM E q iM_numberBy D (qI E q P) S [(0, .ref (q 0)), (1, .int (y1)), (2, .int (y2)), (3, .int (y3))] [] 17
abbrev T_numberBy_31 (E : EvT) (q : Nat → Nat) (D : Nat) (P : Int32 → StM → Prop) (S : StM) (y1 : Int32) (y2 : Int32) (y3 : Int32) (y4 : Int32) : Prop := RM E q iM_numberBy D (qI E q P) S [(0, .ref (q 0)), (1, .int (y1)), (2, .int (y2)), (3, .int (y3)), (4, .int (y4))] [] 31
set_option maxRecDepth 20000 in
theorem en_numberBy {E : EvT} {q : Nat → Nat} {d : Nat} {x1 : Int32} {x2 : Int32} {S : StM} {P : Int32 → StM → Prop} (h : C_strikes E q (d + 2) (a_facts S (ix 0)) S (fun S2 => T_numberBy_17 E q (d + 3) P S2 x1 x2 ((s_ruleMany0 S2) - 1))) : C_numberBy E q (d + 3) x1 x2 S P := by
  refine Cn.of rfl (Nat.le_of_ble_eq_true rfl) (ls := [(0, .ref (q 0)), (1, .int (x1)), (2, .int (x2))]) rfl ?_
  refine r_aload_n 0 dX12_numberBy_0 rfl rfl ?_
  refine r_aload_n 0 dX12_numberBy_1 rfl rfl ?_
  refine mg_56 rfl dX12_numberBy_2 ?_
  refine r_iconst_0 dX12_numberBy_5 ?_
  refine ml_56 (by decide) dX12_numberBy_6 ?_
  refine K_strikes rfl (Nat.le_of_ble_eq_true rfl) dX12_numberBy_7 (mV h (fun S2 h => ?_))
  refine r_aload_n 0 dX12_numberBy_10 rfl rfl ?_
  refine mg_44 rfl dX12_numberBy_11 ?_
  refine r_iconst_1 dX12_numberBy_14 ?_
  refine r_isub dX12_numberBy_15 ?_
  refine r_istore_n [(3, .int ((s_ruleMany0 S2) - 1)), (0, .ref (q 0)), (1, .int (x1)), (2, .int (x2))] dX12_numberBy_16 rfl (Nat.le_of_ble_eq_true rfl) rfl ?_
  refine r_ls [1, 2, 3, 0] (ls2 := [(0, .ref (q 0)), (1, .int (x1)), (2, .int (x2)), (3, .int ((s_ruleMany0 S2) - 1))]) rfl ?_
  exact h
set_option maxRecDepth 20000 in
theorem sg_numberBy_17 {E : EvT} {q : Nat → Nat} {d : Nat} {S : StM} {P : Int32 → StM → Prop} {y1 : Int32} {y2 : Int32} {y3 : Int32} (h : (y3 < 0 → (P y2 S)) ∧ (¬ y3 < 0 → ((0 ≤ y3 ∧ y3 < 20) ∧ (T_numberBy_31 E q (d + 3) P S y1 y2 y3 ((a_clauseMany S (ix y3)) - 1))))) : T_numberBy_17 E q (d + 3) P S y1 y2 y3 := by
  refine r_iload_n 3 dX12_numberBy_17 rfl rfl ?_
  refine r_if_lt (tgt := 109) dX12_numberBy_18 (by decide) (fun c1 => ?_) (fun c1 => ?_)
  · have h := h.1 c1
    refine r_iload_n 2 dX12_numberBy_109 rfl rfl ?_
    exact r_iret dX12_numberBy_110 rfl (Nat.le_refl _) (Nat.le_refl _) ⟨_, _, rfl, rfl, h⟩
  · have h := h.2 c1
    refine r_aload_n 0 dX12_numberBy_21 rfl rfl ?_
    refine mg_48 rfl dX12_numberBy_22 ?_
    refine r_iload_n 3 dX12_numberBy_25 rfl rfl ?_
    obtain ⟨b2, h⟩ := h
    refine ml_48 b2 dX12_numberBy_26 ?_
    refine r_iconst_1 dX12_numberBy_27 ?_
    refine r_isub dX12_numberBy_28 ?_
    refine r_istore [(4, .int ((a_clauseMany S (ix y3)) - 1)), (0, .ref (q 0)), (1, .int (y1)), (2, .int (y2)), (3, .int (y3))] dX12_numberBy_29 (Nat.le_of_ble_eq_true rfl) rfl ?_
    refine r_ls [1, 2, 3, 4, 0] (ls2 := [(0, .ref (q 0)), (1, .int (y1)), (2, .int (y2)), (3, .int (y3)), (4, .int ((a_clauseMany S (ix y3)) - 1))]) rfl ?_
    exact h
set_option maxRecDepth 20000 in
theorem sg_numberBy_31 {E : EvT} {q : Nat → Nat} {d : Nat} {S : StM} {P : Int32 → StM → Prop} {y1 : Int32} {y2 : Int32} {y3 : Int32} {y4 : Int32} (h : (y4 < 0 → (T_numberBy_17 E q (d + 3) P S y1 y2 (y3 + (-1)))) ∧ (¬ y4 < 0 → ((0 ≤ y3 ∧ y3 < 20) ∧ (((mForce S y3 (a_facts S (ix 0))) = false → (T_numberBy_17 E q (d + 3) P S y1 y2 (y3 + (-1)))) ∧ ((mForce S y3 (a_facts S (ix 0))) = true → ((0 ≤ ((10 * y3) + y4) ∧ ((10 * y3) + y4) < 200) ∧ ((¬ (a_letterOf S (ix ((10 * y3) + y4))) = y1 → (T_numberBy_31 E q (d + 3) P S y1 y2 y3 (y4 + (-1)))) ∧ ((a_letterOf S (ix ((10 * y3) + y4))) = y1 → ((¬ (a_isStruck S (ix ((10 * y3) + y4))) = 0 → (T_numberBy_31 E q (d + 3) P S y1 y2 y3 (y4 + (-1)))) ∧ ((a_isStruck S (ix ((10 * y3) + y4))) = 0 → (C_isTrue E q (d + 2) ((10 * y3) + y4) S (fun r7 S8 => (r7 = false → (T_numberBy_31 E q (d + 3) P S8 y1 y2 y3 (y4 + (-1)))) ∧ (r7 = true → (P (a_nOf S8 (ix ((10 * y3) + y4))) S8)))))))))))))) : T_numberBy_31 E q (d + 3) P S y1 y2 y3 y4 := by
  refine r_iload 4 dX12_numberBy_31 rfl ?_
  refine r_if_lt (tgt := 103) dX12_numberBy_33 (by decide) (fun c1 => ?_) (fun c1 => ?_)
  · have h := h.1 c1
    refine r_iinc 3 [(3, .int (y3 + (-1))), (0, .ref (q 0)), (1, .int (y1)), (2, .int (y2)), (4, .int (y4))] dX12_numberBy_103 rfl rfl (Nat.le_of_ble_eq_true rfl) rfl ?_
    refine r_goto (tgt := 17) dX12_numberBy_106 (by decide) ?_
    refine r_ls [1, 2, 3, 0] (ls2 := [(0, .ref (q 0)), (1, .int (y1)), (2, .int (y2)), (3, .int (y3 + (-1)))]) rfl ?_
    exact h
  · have h := h.2 c1
    refine r_aload_n 0 dX12_numberBy_36 rfl rfl ?_
    refine r_iload_n 3 dX12_numberBy_37 rfl rfl ?_
    refine r_aload_n 0 dX12_numberBy_38 rfl rfl ?_
    refine mg_56 rfl dX12_numberBy_39 ?_
    refine r_iconst_0 dX12_numberBy_42 ?_
    refine ml_56 (by decide) dX12_numberBy_43 ?_
    obtain ⟨b2, h⟩ := h
    refine KP_isForce (d := d + 1) b2 rfl (Nat.le_of_ble_eq_true rfl) dX12_numberBy_44 ?_
    refine r_if_eqb (tgt := 103) dX12_numberBy_47 (by decide) (fun c3 => ?_) (fun c3 => ?_)
    · have h := h.1 c3
      refine r_iinc 3 [(3, .int (y3 + (-1))), (0, .ref (q 0)), (1, .int (y1)), (2, .int (y2)), (4, .int (y4))] dX12_numberBy_103 rfl rfl (Nat.le_of_ble_eq_true rfl) rfl ?_
      refine r_goto (tgt := 17) dX12_numberBy_106 (by decide) ?_
      refine r_ls [1, 2, 3, 0] (ls2 := [(0, .ref (q 0)), (1, .int (y1)), (2, .int (y2)), (3, .int (y3 + (-1)))]) rfl ?_
      exact h
    · have h := h.2 c3
      refine r_bipush_10 dX12_numberBy_50 ?_
      refine r_iload_n 3 dX12_numberBy_52 rfl rfl ?_
      refine r_imul dX12_numberBy_53 ?_
      refine r_iload 4 dX12_numberBy_54 rfl ?_
      refine r_iadd dX12_numberBy_56 ?_
      refine r_istore [(5, .int ((10 * y3) + y4)), (0, .ref (q 0)), (1, .int (y1)), (2, .int (y2)), (3, .int (y3)), (4, .int (y4))] dX12_numberBy_57 (Nat.le_of_ble_eq_true rfl) rfl ?_
      refine r_aload_n 1 dX12_numberBy_59 rfl rfl ?_
      refine mg_49 rfl dX12_numberBy_60 ?_
      refine r_iload 0 dX12_numberBy_63 rfl ?_
      obtain ⟨b4, h⟩ := h
      refine ml_49 b4 dX12_numberBy_65 ?_
      refine r_iload_n 2 dX12_numberBy_66 rfl rfl ?_
      refine r_icmp_ne (tgt := 97) dX12_numberBy_67 (by decide) (fun c5 => ?_) (fun c5 => ?_)
      · have h := h.1 c5
        refine r_iinc 5 [(4, .int (y4 + (-1))), (5, .int ((10 * y3) + y4)), (0, .ref (q 0)), (1, .int (y1)), (2, .int (y2)), (3, .int (y3))] dX12_numberBy_97 rfl rfl (Nat.le_of_ble_eq_true rfl) rfl ?_
        refine r_goto (tgt := 31) dX12_numberBy_100 (by decide) ?_
        refine r_ls [2, 3, 4, 5, 0] (ls2 := [(0, .ref (q 0)), (1, .int (y1)), (2, .int (y2)), (3, .int (y3)), (4, .int (y4 + (-1)))]) rfl ?_
        exact h
      · have h := h.2 c5
        refine r_aload_n 1 dX12_numberBy_70 rfl rfl ?_
        refine mg_54 rfl dX12_numberBy_71 ?_
        refine r_iload 0 dX12_numberBy_74 rfl ?_
        refine ml_54 b4 dX12_numberBy_76 ?_
        refine r_if_ne (tgt := 97) dX12_numberBy_77 (by decide) (fun c6 => ?_) (fun c6 => ?_)
        · have h := h.1 c6
          refine r_iinc 5 [(4, .int (y4 + (-1))), (5, .int ((10 * y3) + y4)), (0, .ref (q 0)), (1, .int (y1)), (2, .int (y2)), (3, .int (y3))] dX12_numberBy_97 rfl rfl (Nat.le_of_ble_eq_true rfl) rfl ?_
          refine r_goto (tgt := 31) dX12_numberBy_100 (by decide) ?_
          refine r_ls [2, 3, 4, 5, 0] (ls2 := [(0, .ref (q 0)), (1, .int (y1)), (2, .int (y2)), (3, .int (y3)), (4, .int (y4 + (-1)))]) rfl ?_
          exact h
        · have h := h.2 c6
          refine r_aload_n 1 dX12_numberBy_80 rfl rfl ?_
          refine r_iload 0 dX12_numberBy_81 rfl ?_
          refine K_isTrue rfl (Nat.le_of_ble_eq_true rfl) dX12_numberBy_83 (mB h (fun r7 S8 h => ?_))
          refine r_if_eqb (tgt := 97) dX12_numberBy_86 (by decide) (fun c9 => ?_) (fun c9 => ?_)
          · have h := h.1 c9
            refine r_iinc 5 [(4, .int (y4 + (-1))), (5, .int ((10 * y3) + y4)), (0, .ref (q 0)), (1, .int (y1)), (2, .int (y2)), (3, .int (y3))] dX12_numberBy_97 rfl rfl (Nat.le_of_ble_eq_true rfl) rfl ?_
            refine r_goto (tgt := 31) dX12_numberBy_100 (by decide) ?_
            refine r_ls [2, 3, 4, 5, 0] (ls2 := [(0, .ref (q 0)), (1, .int (y1)), (2, .int (y2)), (3, .int (y3)), (4, .int (y4 + (-1)))]) rfl ?_
            exact h
          · have h := h.2 c9
            refine r_aload_n 1 dX12_numberBy_89 rfl rfl ?_
            refine mg_52 rfl dX12_numberBy_90 ?_
            refine r_iload 0 dX12_numberBy_93 rfl ?_
            refine ml_52 b4 dX12_numberBy_95 ?_
            exact r_iret dX12_numberBy_96 rfl (Nat.le_refl _) (Nat.le_refl _) ⟨_, _, rfl, rfl, h⟩
abbrev T_numberings_14 (E : EvT) (q : Nat → Nat) (D : Nat) (P : Int32 → StM → Prop) (S : StM) (y1 : Int32) (y2 : Int32) : Prop := RM E q iM_numberings D (qI E q P) S [(0, .ref (q 0)), (1, .int (y1)), (2, .int (y2))] [] 14
abbrev T_numberings_24 (E : EvT) (q : Nat → Nat) (D : Nat) (P : Int32 → StM → Prop) (S : StM) (y1 : Int32) (y2 : Int32) (y3 : Int32) : Prop := RM E q iM_numberings D (qI E q P) S [(0, .ref (q 0)), (1, .int (y1)), (2, .int (y2)), (3, .int (y3))] [] 24
set_option maxRecDepth 20000 in
theorem en_numberings {E : EvT} {q : Nat → Nat} {d : Nat} {S : StM} {P : Int32 → StM → Prop} (h : C_strikes E q (d + 2) (a_facts S (ix 0)) S (fun S2 => T_numberings_14 E q (d + 3) P S2 0 0)) : C_numberings E q (d + 3) S P := by
  refine Cn.of rfl (Nat.le_of_ble_eq_true rfl) (ls := [(0, .ref (q 0))]) rfl ?_
  refine r_aload_n 0 dX12_numberings_0 rfl rfl ?_
  refine r_aload_n 0 dX12_numberings_1 rfl rfl ?_
  refine mg_56 rfl dX12_numberings_2 ?_
  refine r_iconst_0 dX12_numberings_5 ?_
  refine ml_56 (by decide) dX12_numberings_6 ?_
  refine K_strikes rfl (Nat.le_of_ble_eq_true rfl) dX12_numberings_7 (mV h (fun S2 h => ?_))
  refine r_iconst_0 dX12_numberings_10 ?_
  refine r_istore_n [(1, .int (0)), (0, .ref (q 0))] dX12_numberings_11 rfl (Nat.le_of_ble_eq_true rfl) rfl ?_
  refine r_iconst_0 dX12_numberings_12 ?_
  refine r_istore_n [(2, .int (0)), (1, .int (0)), (0, .ref (q 0))] dX12_numberings_13 rfl (Nat.le_of_ble_eq_true rfl) rfl ?_
  refine r_ls [2, 1, 0] (ls2 := [(0, .ref (q 0)), (1, .int (0)), (2, .int (0))]) rfl ?_
  exact h
set_option maxRecDepth 20000 in
theorem sg_numberings_14 {E : EvT} {q : Nat → Nat} {d : Nat} {S : StM} {P : Int32 → StM → Prop} {y1 : Int32} {y2 : Int32} (h : ((s_ruleMany0 S) ≤ y2 → ((¬ y1 = 0 → (P y1 S)) ∧ (y1 = 0 → (P 15 S)))) ∧ (¬ (s_ruleMany0 S) ≤ y2 → (T_numberings_24 E q (d + 3) P S y1 y2 0))) : T_numberings_14 E q (d + 3) P S y1 y2 := by
  refine r_iload_n 2 dX12_numberings_14 rfl rfl ?_
  refine r_aload_n 0 dX12_numberings_15 rfl rfl ?_
  refine mg_44 rfl dX12_numberings_16 ?_
  refine r_icmp_ge (tgt := 111) dX12_numberings_19 (by decide) (fun c1 => ?_) (fun c1 => ?_)
  · have h := h.1 c1
    refine r_iload_n 1 dX12_numberings_111 rfl rfl ?_
    refine r_if_ne (tgt := 120) dX12_numberings_112 (by decide) (fun c2 => ?_) (fun c2 => ?_)
    · have h := h.1 c2
      refine r_iload_n 1 dX12_numberings_120 rfl rfl ?_
      exact r_iret dX12_numberings_121 rfl (Nat.le_refl _) (Nat.le_refl _) ⟨_, _, rfl, rfl, h⟩
    · have h := h.2 c2
      refine r_bipush_15 dX12_numberings_115 ?_
      refine r_goto (tgt := 121) dX12_numberings_117 (by decide) ?_
      exact r_iret dX12_numberings_121 rfl (Nat.le_refl _) (Nat.le_refl _) ⟨_, _, rfl, rfl, h⟩
  · have h := h.2 c1
    refine r_iconst_0 dX12_numberings_22 ?_
    refine r_istore_n [(3, .int (0)), (0, .ref (q 0)), (1, .int (y1)), (2, .int (y2))] dX12_numberings_23 rfl (Nat.le_of_ble_eq_true rfl) rfl ?_
    refine r_ls [1, 2, 3, 0] (ls2 := [(0, .ref (q 0)), (1, .int (y1)), (2, .int (y2)), (3, .int (0))]) rfl ?_
    exact h
set_option maxRecDepth 20000 in
theorem sg_numberings_24 {E : EvT} {q : Nat → Nat} {d : Nat} {S : StM} {P : Int32 → StM → Prop} {y1 : Int32} {y2 : Int32} {y3 : Int32} (h : (0 ≤ y2 ∧ y2 < 20) ∧ (((a_clauseMany S (ix y2)) ≤ y3 → (T_numberings_14 E q (d + 3) P S y1 (y2 + 1))) ∧ (¬ (a_clauseMany S (ix y2)) ≤ y3 → ((0 ≤ y2 ∧ y2 < 20) ∧ (((mForce S y2 (a_facts S (ix 0))) = false → (T_numberings_14 E q (d + 3) P S y1 (y2 + 1))) ∧ ((mForce S y2 (a_facts S (ix 0))) = true → ((0 ≤ ((10 * y2) + y3) ∧ ((10 * y2) + y3) < 200) ∧ ((¬ (a_letterOf S (ix ((10 * y2) + y3))) = 110 → (T_numberings_24 E q (d + 3) P S y1 y2 (y3 + 1))) ∧ ((a_letterOf S (ix ((10 * y2) + y3))) = 110 → ((¬ (a_isStruck S (ix ((10 * y2) + y3))) = 0 → (T_numberings_24 E q (d + 3) P S y1 y2 (y3 + 1))) ∧ ((a_isStruck S (ix ((10 * y2) + y3))) = 0 → (C_isTrue E q (d + 2) ((10 * y2) + y3) S (fun r8 S9 => (r8 = false → (T_numberings_24 E q (d + 3) P S9 y1 y2 (y3 + 1))) ∧ (r8 = true → (T_numberings_24 E q (d + 3) P S9 (y1 ||| ((1 : Int32) <<< ((a_nOf S9 (ix ((10 * y2) + y3))) &&& 31))) y2 (y3 + 1)))))))))))))))) : T_numberings_24 E q (d + 3) P S y1 y2 y3 := by
  refine r_iload_n 3 dX12_numberings_24 rfl rfl ?_
  refine r_aload_n 0 dX12_numberings_25 rfl rfl ?_
  refine mg_48 rfl dX12_numberings_26 ?_
  refine r_iload_n 2 dX12_numberings_29 rfl rfl ?_
  obtain ⟨b1, h⟩ := h
  refine ml_48 b1 dX12_numberings_30 ?_
  refine r_icmp_ge (tgt := 105) dX12_numberings_31 (by decide) (fun c2 => ?_) (fun c2 => ?_)
  · have h := h.1 c2
    refine r_iinc 2 [(2, .int (y2 + 1)), (0, .ref (q 0)), (1, .int (y1)), (3, .int (y3))] dX12_numberings_105 rfl rfl (Nat.le_of_ble_eq_true rfl) rfl ?_
    refine r_goto (tgt := 14) dX12_numberings_108 (by decide) ?_
    refine r_ls [1, 2, 0] (ls2 := [(0, .ref (q 0)), (1, .int (y1)), (2, .int (y2 + 1))]) rfl ?_
    exact h
  · have h := h.2 c2
    refine r_aload_n 0 dX12_numberings_34 rfl rfl ?_
    refine r_iload_n 2 dX12_numberings_35 rfl rfl ?_
    refine r_aload_n 0 dX12_numberings_36 rfl rfl ?_
    refine mg_56 rfl dX12_numberings_37 ?_
    refine r_iconst_0 dX12_numberings_40 ?_
    refine ml_56 (by decide) dX12_numberings_41 ?_
    obtain ⟨b3, h⟩ := h
    refine KP_isForce (d := d + 1) b3 rfl (Nat.le_of_ble_eq_true rfl) dX12_numberings_42 ?_
    refine r_if_eqb (tgt := 105) dX12_numberings_45 (by decide) (fun c4 => ?_) (fun c4 => ?_)
    · have h := h.1 c4
      refine r_iinc 2 [(2, .int (y2 + 1)), (0, .ref (q 0)), (1, .int (y1)), (3, .int (y3))] dX12_numberings_105 rfl rfl (Nat.le_of_ble_eq_true rfl) rfl ?_
      refine r_goto (tgt := 14) dX12_numberings_108 (by decide) ?_
      refine r_ls [1, 2, 0] (ls2 := [(0, .ref (q 0)), (1, .int (y1)), (2, .int (y2 + 1))]) rfl ?_
      exact h
    · have h := h.2 c4
      refine r_bipush_10 dX12_numberings_48 ?_
      refine r_iload_n 2 dX12_numberings_50 rfl rfl ?_
      refine r_imul dX12_numberings_51 ?_
      refine r_iload_n 3 dX12_numberings_52 rfl rfl ?_
      refine r_iadd dX12_numberings_53 ?_
      refine r_istore [(4, .int ((10 * y2) + y3)), (0, .ref (q 0)), (1, .int (y1)), (2, .int (y2)), (3, .int (y3))] dX12_numberings_54 (Nat.le_of_ble_eq_true rfl) rfl ?_
      refine r_aload_n 1 dX12_numberings_56 rfl rfl ?_
      refine mg_49 rfl dX12_numberings_57 ?_
      refine r_iload 0 dX12_numberings_60 rfl ?_
      obtain ⟨b5, h⟩ := h
      refine ml_49 b5 dX12_numberings_62 ?_
      refine r_bipush_110 dX12_numberings_63 ?_
      refine r_icmp_ne (tgt := 99) dX12_numberings_65 (by decide) (fun c6 => ?_) (fun c6 => ?_)
      · have h := h.1 c6
        refine r_iinc 4 [(3, .int (y3 + 1)), (4, .int ((10 * y2) + y3)), (0, .ref (q 0)), (1, .int (y1)), (2, .int (y2))] dX12_numberings_99 rfl rfl (Nat.le_of_ble_eq_true rfl) rfl ?_
        refine r_goto (tgt := 24) dX12_numberings_102 (by decide) ?_
        refine r_ls [2, 3, 4, 0] (ls2 := [(0, .ref (q 0)), (1, .int (y1)), (2, .int (y2)), (3, .int (y3 + 1))]) rfl ?_
        exact h
      · have h := h.2 c6
        refine r_aload_n 1 dX12_numberings_68 rfl rfl ?_
        refine mg_54 rfl dX12_numberings_69 ?_
        refine r_iload 0 dX12_numberings_72 rfl ?_
        refine ml_54 b5 dX12_numberings_74 ?_
        refine r_if_ne (tgt := 99) dX12_numberings_75 (by decide) (fun c7 => ?_) (fun c7 => ?_)
        · have h := h.1 c7
          refine r_iinc 4 [(3, .int (y3 + 1)), (4, .int ((10 * y2) + y3)), (0, .ref (q 0)), (1, .int (y1)), (2, .int (y2))] dX12_numberings_99 rfl rfl (Nat.le_of_ble_eq_true rfl) rfl ?_
          refine r_goto (tgt := 24) dX12_numberings_102 (by decide) ?_
          refine r_ls [2, 3, 4, 0] (ls2 := [(0, .ref (q 0)), (1, .int (y1)), (2, .int (y2)), (3, .int (y3 + 1))]) rfl ?_
          exact h
        · have h := h.2 c7
          refine r_aload_n 1 dX12_numberings_78 rfl rfl ?_
          refine r_iload 0 dX12_numberings_79 rfl ?_
          refine K_isTrue rfl (Nat.le_of_ble_eq_true rfl) dX12_numberings_81 (mB h (fun r8 S9 h => ?_))
          refine r_if_eqb (tgt := 99) dX12_numberings_84 (by decide) (fun c10 => ?_) (fun c10 => ?_)
          · have h := h.1 c10
            refine r_iinc 4 [(3, .int (y3 + 1)), (4, .int ((10 * y2) + y3)), (0, .ref (q 0)), (1, .int (y1)), (2, .int (y2))] dX12_numberings_99 rfl rfl (Nat.le_of_ble_eq_true rfl) rfl ?_
            refine r_goto (tgt := 24) dX12_numberings_102 (by decide) ?_
            refine r_ls [2, 3, 4, 0] (ls2 := [(0, .ref (q 0)), (1, .int (y1)), (2, .int (y2)), (3, .int (y3 + 1))]) rfl ?_
            exact h
          · have h := h.2 c10
            refine r_iload_n 2 dX12_numberings_87 rfl rfl ?_
            refine r_iconst_1 dX12_numberings_88 ?_
            refine r_aload_n 1 dX12_numberings_89 rfl rfl ?_
            refine mg_52 rfl dX12_numberings_90 ?_
            refine r_iload 0 dX12_numberings_93 rfl ?_
            refine ml_52 b5 dX12_numberings_95 ?_
            refine r_ishl dX12_numberings_96 ?_
            refine r_ior dX12_numberings_97 ?_
            refine r_istore_n [(1, .int (y1 ||| ((1 : Int32) <<< ((a_nOf S9 (ix ((10 * y2) + y3))) &&& 31)))), (4, .int ((10 * y2) + y3)), (0, .ref (q 0)), (2, .int (y2)), (3, .int (y3))] dX12_numberings_98 rfl (Nat.le_of_ble_eq_true rfl) rfl ?_
            refine r_iinc 4 [(3, .int (y3 + 1)), (1, .int (y1 ||| ((1 : Int32) <<< ((a_nOf S9 (ix ((10 * y2) + y3))) &&& 31)))), (4, .int ((10 * y2) + y3)), (0, .ref (q 0)), (2, .int (y2))] dX12_numberings_99 rfl rfl (Nat.le_of_ble_eq_true rfl) rfl ?_
            refine r_goto (tgt := 24) dX12_numberings_102 (by decide) ?_
            refine r_ls [3, 1, 4, 0] (ls2 := [(0, .ref (q 0)), (1, .int (y1 ||| ((1 : Int32) <<< ((a_nOf S9 (ix ((10 * y2) + y3))) &&& 31)))), (2, .int (y2)), (3, .int (y3 + 1))]) rfl ?_
            exact h
set_option maxRecDepth 20000 in
theorem en_number {E : EvT} {q : Nat → Nat} {d : Nat} {x1 : Int32} {x2 : Int32} {x3 : Int32} {x4 : Int32} {x5 : Int32} {x6 : Int32} {S : StM} {P : Int32 → StM → Prop} (h : ((mIn x1 0 3) = false → (P (-1) S)) ∧ ((mIn x1 0 3) = true → (((mWeek x2) = false → (P (-1) S)) ∧ ((mWeek x2) = true → (((mIn x3 0 7) = false → (P (-1) S)) ∧ ((mIn x3 0 7) = true → (((mIn x4 0 7) = false → (P (-1) S)) ∧ ((mIn x4 0 7) = true → (((mIn x5 0 255) = false → (P (-1) S)) ∧ ((mIn x5 0 255) = true → ((x6 = (-1) → (C_setsFacts E q (d + 3) x2 x3 x4 x5 x6 S (fun S8 => (¬ x1 = 0 → ((¬ x1 = 1 → ((¬ x1 = 2 → (C_numberings E q (d + 3) S8 (fun r12 S13 => P r12 S13))) ∧ (x1 = 2 → (C_numberBy E q (d + 3) 102 7 S8 (fun r14 S15 => P r14 S15))))) ∧ (x1 = 1 → (C_numberBy E q (d + 3) 118 0 S8 (fun r16 S17 => P r16 S17))))) ∧ (x1 = 0 → (C_numberBy E q (d + 3) 97 8 S8 (fun r18 S19 => P r18 S19)))))) ∧ (¬ x6 = (-1) → (((mPlace S x6) = true → (C_setsFacts E q (d + 3) x2 x3 x4 x5 x6 S (fun S22 => (¬ x1 = 0 → ((¬ x1 = 1 → ((¬ x1 = 2 → (C_numberings E q (d + 3) S22 (fun r26 S27 => P r26 S27))) ∧ (x1 = 2 → (C_numberBy E q (d + 3) 102 7 S22 (fun r28 S29 => P r28 S29))))) ∧ (x1 = 1 → (C_numberBy E q (d + 3) 118 0 S22 (fun r30 S31 => P r30 S31))))) ∧ (x1 = 0 → (C_numberBy E q (d + 3) 97 8 S22 (fun r32 S33 => P r32 S33)))))) ∧ ((mPlace S x6) = false → (P (-1) S))))))))))))))) : C_number E q (d + 4) x1 x2 x3 x4 x5 x6 S P := by
  refine Cn.of rfl (Nat.le_of_ble_eq_true rfl) (ls := [(0, .ref (q 0)), (1, .int (x1)), (2, .int (x2)), (3, .int (x3)), (4, .int (x4)), (5, .int (x5)), (6, .int (x6))]) rfl ?_
  refine r_iload_n 1 dX12_number_0 rfl rfl ?_
  refine r_iconst_0 dX12_number_1 ?_
  refine r_iconst_3 dX12_number_2 ?_
  refine KP_in (d := d + 3)  rfl (Nat.le_of_ble_eq_true rfl) dX12_number_3 ?_
  refine r_if_eqb (tgt := 64) dX12_number_6 (by decide) (fun c1 => ?_) (fun c1 => ?_)
  · have h := h.1 c1
    refine r_iconst_m1 dX12_number_64 ?_
    exact r_iret dX12_number_65 rfl (Nat.le_refl _) (Nat.le_refl _) ⟨_, _, rfl, rfl, h⟩
  · have h := h.2 c1
    refine r_iload_n 2 dX12_number_9 rfl rfl ?_
    refine KP_isWeek (d := d + 3)  rfl (Nat.le_of_ble_eq_true rfl) dX12_number_10 ?_
    refine r_if_eqb (tgt := 64) dX12_number_13 (by decide) (fun c2 => ?_) (fun c2 => ?_)
    · have h := h.1 c2
      refine r_iconst_m1 dX12_number_64 ?_
      exact r_iret dX12_number_65 rfl (Nat.le_refl _) (Nat.le_refl _) ⟨_, _, rfl, rfl, h⟩
    · have h := h.2 c2
      refine r_iload_n 3 dX12_number_16 rfl rfl ?_
      refine r_iconst_0 dX12_number_17 ?_
      refine r_bipush_7 dX12_number_18 ?_
      refine KP_in (d := d + 3)  rfl (Nat.le_of_ble_eq_true rfl) dX12_number_20 ?_
      refine r_if_eqb (tgt := 64) dX12_number_23 (by decide) (fun c3 => ?_) (fun c3 => ?_)
      · have h := h.1 c3
        refine r_iconst_m1 dX12_number_64 ?_
        exact r_iret dX12_number_65 rfl (Nat.le_refl _) (Nat.le_refl _) ⟨_, _, rfl, rfl, h⟩
      · have h := h.2 c3
        refine r_iload 4 dX12_number_26 rfl ?_
        refine r_iconst_0 dX12_number_28 ?_
        refine r_bipush_7 dX12_number_29 ?_
        refine KP_in (d := d + 3)  rfl (Nat.le_of_ble_eq_true rfl) dX12_number_31 ?_
        refine r_if_eqb (tgt := 64) dX12_number_34 (by decide) (fun c4 => ?_) (fun c4 => ?_)
        · have h := h.1 c4
          refine r_iconst_m1 dX12_number_64 ?_
          exact r_iret dX12_number_65 rfl (Nat.le_refl _) (Nat.le_refl _) ⟨_, _, rfl, rfl, h⟩
        · have h := h.2 c4
          refine r_iload 5 dX12_number_37 rfl ?_
          refine r_iconst_0 dX12_number_39 ?_
          refine r_sipush_255 dX12_number_40 ?_
          refine KP_in (d := d + 3)  rfl (Nat.le_of_ble_eq_true rfl) dX12_number_43 ?_
          refine r_if_eqb (tgt := 64) dX12_number_46 (by decide) (fun c5 => ?_) (fun c5 => ?_)
          · have h := h.1 c5
            refine r_iconst_m1 dX12_number_64 ?_
            exact r_iret dX12_number_65 rfl (Nat.le_refl _) (Nat.le_refl _) ⟨_, _, rfl, rfl, h⟩
          · have h := h.2 c5
            refine r_iload 6 dX12_number_49 rfl ?_
            refine r_iconst_m1 dX12_number_51 ?_
            refine r_icmp_eq (tgt := 66) dX12_number_52 (by decide) (fun c6 => ?_) (fun c6 => ?_)
            · have h := h.1 c6
              refine r_aload_n 0 dX12_number_66 rfl rfl ?_
              refine r_iload_n 2 dX12_number_67 rfl rfl ?_
              refine r_iload_n 3 dX12_number_68 rfl rfl ?_
              refine r_iload 4 dX12_number_69 rfl ?_
              refine r_iload 5 dX12_number_71 rfl ?_
              refine r_iload 6 dX12_number_73 rfl ?_
              refine K_setsFacts rfl (Nat.le_of_ble_eq_true rfl) dX12_number_75 (mV h (fun S8 h => ?_))
              refine r_iload_n 1 dX12_number_78 rfl rfl ?_
              refine r_if_ne (tgt := 93) dX12_number_79 (by decide) (fun c9 => ?_) (fun c9 => ?_)
              · have h := h.1 c9
                refine r_iload_n 1 dX12_number_93 rfl rfl ?_
                refine r_iconst_1 dX12_number_94 ?_
                refine r_icmp_ne (tgt := 108) dX12_number_95 (by decide) (fun c10 => ?_) (fun c10 => ?_)
                · have h := h.1 c10
                  refine r_iload_n 1 dX12_number_108 rfl rfl ?_
                  refine r_iconst_2 dX12_number_109 ?_
                  refine r_icmp_ne (tgt := 124) dX12_number_110 (by decide) (fun c11 => ?_) (fun c11 => ?_)
                  · have h := h.1 c11
                    refine r_aload_n 0 dX12_number_124 rfl rfl ?_
                    refine K_numberings rfl (Nat.le_of_ble_eq_true rfl) dX12_number_125 (mI h (fun r12 S13 h => ?_))
                    exact r_iret dX12_number_128 rfl (Nat.le_refl _) (Nat.le_refl _) ⟨_, _, rfl, rfl, h⟩
                  · have h := h.2 c11
                    refine r_aload_n 0 dX12_number_113 rfl rfl ?_
                    refine r_bipush_102 dX12_number_114 ?_
                    refine r_bipush_7 dX12_number_116 ?_
                    refine K_numberBy rfl (Nat.le_of_ble_eq_true rfl) dX12_number_118 (mI h (fun r14 S15 h => ?_))
                    refine r_goto (tgt := 128) dX12_number_121 (by decide) ?_
                    exact r_iret dX12_number_128 rfl (Nat.le_refl _) (Nat.le_refl _) ⟨_, _, rfl, rfl, h⟩
                · have h := h.2 c10
                  refine r_aload_n 0 dX12_number_98 rfl rfl ?_
                  refine r_bipush_118 dX12_number_99 ?_
                  refine r_iconst_0 dX12_number_101 ?_
                  refine K_numberBy rfl (Nat.le_of_ble_eq_true rfl) dX12_number_102 (mI h (fun r16 S17 h => ?_))
                  refine r_goto (tgt := 128) dX12_number_105 (by decide) ?_
                  exact r_iret dX12_number_128 rfl (Nat.le_refl _) (Nat.le_refl _) ⟨_, _, rfl, rfl, h⟩
              · have h := h.2 c9
                refine r_aload_n 0 dX12_number_82 rfl rfl ?_
                refine r_bipush_97 dX12_number_83 ?_
                refine r_bipush_8 dX12_number_85 ?_
                refine K_numberBy rfl (Nat.le_of_ble_eq_true rfl) dX12_number_87 (mI h (fun r18 S19 h => ?_))
                refine r_goto (tgt := 128) dX12_number_90 (by decide) ?_
                exact r_iret dX12_number_128 rfl (Nat.le_refl _) (Nat.le_refl _) ⟨_, _, rfl, rfl, h⟩
            · have h := h.2 c6
              refine r_aload_n 0 dX12_number_55 rfl rfl ?_
              refine r_iload 6 dX12_number_56 rfl ?_
              refine KP_isPlace (d := d + 3)  rfl (Nat.le_of_ble_eq_true rfl) dX12_number_58 ?_
              refine r_if_neb (tgt := 66) dX12_number_61 (by decide) (fun c20 => ?_) (fun c20 => ?_)
              · have h := h.1 c20
                refine r_aload_n 0 dX12_number_66 rfl rfl ?_
                refine r_iload_n 2 dX12_number_67 rfl rfl ?_
                refine r_iload_n 3 dX12_number_68 rfl rfl ?_
                refine r_iload 4 dX12_number_69 rfl ?_
                refine r_iload 5 dX12_number_71 rfl ?_
                refine r_iload 6 dX12_number_73 rfl ?_
                refine K_setsFacts rfl (Nat.le_of_ble_eq_true rfl) dX12_number_75 (mV h (fun S22 h => ?_))
                refine r_iload_n 1 dX12_number_78 rfl rfl ?_
                refine r_if_ne (tgt := 93) dX12_number_79 (by decide) (fun c23 => ?_) (fun c23 => ?_)
                · have h := h.1 c23
                  refine r_iload_n 1 dX12_number_93 rfl rfl ?_
                  refine r_iconst_1 dX12_number_94 ?_
                  refine r_icmp_ne (tgt := 108) dX12_number_95 (by decide) (fun c24 => ?_) (fun c24 => ?_)
                  · have h := h.1 c24
                    refine r_iload_n 1 dX12_number_108 rfl rfl ?_
                    refine r_iconst_2 dX12_number_109 ?_
                    refine r_icmp_ne (tgt := 124) dX12_number_110 (by decide) (fun c25 => ?_) (fun c25 => ?_)
                    · have h := h.1 c25
                      refine r_aload_n 0 dX12_number_124 rfl rfl ?_
                      refine K_numberings rfl (Nat.le_of_ble_eq_true rfl) dX12_number_125 (mI h (fun r26 S27 h => ?_))
                      exact r_iret dX12_number_128 rfl (Nat.le_refl _) (Nat.le_refl _) ⟨_, _, rfl, rfl, h⟩
                    · have h := h.2 c25
                      refine r_aload_n 0 dX12_number_113 rfl rfl ?_
                      refine r_bipush_102 dX12_number_114 ?_
                      refine r_bipush_7 dX12_number_116 ?_
                      refine K_numberBy rfl (Nat.le_of_ble_eq_true rfl) dX12_number_118 (mI h (fun r28 S29 h => ?_))
                      refine r_goto (tgt := 128) dX12_number_121 (by decide) ?_
                      exact r_iret dX12_number_128 rfl (Nat.le_refl _) (Nat.le_refl _) ⟨_, _, rfl, rfl, h⟩
                  · have h := h.2 c24
                    refine r_aload_n 0 dX12_number_98 rfl rfl ?_
                    refine r_bipush_118 dX12_number_99 ?_
                    refine r_iconst_0 dX12_number_101 ?_
                    refine K_numberBy rfl (Nat.le_of_ble_eq_true rfl) dX12_number_102 (mI h (fun r30 S31 h => ?_))
                    refine r_goto (tgt := 128) dX12_number_105 (by decide) ?_
                    exact r_iret dX12_number_128 rfl (Nat.le_refl _) (Nat.le_refl _) ⟨_, _, rfl, rfl, h⟩
                · have h := h.2 c23
                  refine r_aload_n 0 dX12_number_82 rfl rfl ?_
                  refine r_bipush_97 dX12_number_83 ?_
                  refine r_bipush_8 dX12_number_85 ?_
                  refine K_numberBy rfl (Nat.le_of_ble_eq_true rfl) dX12_number_87 (mI h (fun r32 S33 h => ?_))
                  refine r_goto (tgt := 128) dX12_number_90 (by decide) ?_
                  exact r_iret dX12_number_128 rfl (Nat.le_refl _) (Nat.le_refl _) ⟨_, _, rfl, rfl, h⟩
              · have h := h.2 c20
                refine r_iconst_m1 dX12_number_64 ?_
                exact r_iret dX12_number_65 rfl (Nat.le_refl _) (Nat.le_refl _) ⟨_, _, rfl, rfl, h⟩
set_option maxRecDepth 20000 in
theorem en_find {E : EvT} {q : Nat → Nat} {d : Nat} {x1 : Int32} {x2 : Int32} {x3 : Int32} {x4 : Int32} {x5 : Int32} {x6 : Int32} {x7 : Int32} {x8 : Int32} {S : StM} {P : Int32 → StM → Prop} (h : ((mIn x1 0 7) = false → (P (-1) S)) ∧ ((mIn x1 0 7) = true → (((mIn x2 0 (s_now S)) = false → (P (-1) S)) ∧ ((mIn x2 0 (s_now S)) = true → (((mIn x3 x2 (s_now S)) = false → (P (-1) S)) ∧ ((mIn x3 x2 (s_now S)) = true → ((19 < (x3 - x2) → (P (-1) S)) ∧ (¬ 19 < (x3 - x2) → (((mIn x4 0 99) = false → (P (-1) S)) ∧ ((mIn x4 0 99) = true → (((mLayer x5) = false → (P (-1) S)) ∧ ((mLayer x5) = true → (((mIn x6 x5 7) = false → (P (-1) S)) ∧ ((mIn x6 x5 7) = true → (((mIn x7 0 7) = false → (P (-1) S)) ∧ ((mIn x7 0 7) = true → (((mIn x8 0 255) = false → (P (-1) S)) ∧ ((mIn x8 0 255) = true → ((¬ (s_finds S) = 150 → ((0 ≤ (s_finds S) ∧ (s_finds S) < 150) ∧ (P (((s_finds S) + 1) - 1) (sI (sA (sA (sA (sA (sA (sA (sA (sA (sA S 59 (upd (a_findHand S) (ix (s_finds S)) x1)) 60 (upd (a_findFrom S) (ix (s_finds S)) x2)) 61 (upd (a_findTo S) (ix (s_finds S)) x3)) 62 (upd (a_findNumber S) (ix (s_finds S)) x4)) 63 (upd (a_findTop S) (ix (s_finds S)) x5)) 64 (upd (a_findBottom S) (ix (s_finds S)) x6)) 65 (upd (a_findKind S) (ix (s_finds S)) x7)) 66 (upd (a_findMarks S) (ix (s_finds S)) x8)) 67 (upd (a_findTold S) (ix (s_finds S)) (s_now S))) 57 ((s_finds S) + 1))))) ∧ ((s_finds S) = 150 → (P (-1) S))))))))))))))))))))) : C_find E q (d + 1) x1 x2 x3 x4 x5 x6 x7 x8 S P := by
  refine Cn.of rfl (Nat.le_of_ble_eq_true rfl) (ls := [(0, .ref (q 0)), (1, .int (x1)), (2, .int (x2)), (3, .int (x3)), (4, .int (x4)), (5, .int (x5)), (6, .int (x6)), (7, .int (x7)), (8, .int (x8))]) rfl ?_
  refine r_iload_n 1 dX12_find_0 rfl rfl ?_
  refine r_iconst_0 dX12_find_1 ?_
  refine r_bipush_7 dX12_find_2 ?_
  refine KP_in (d := d + 0)  rfl (Nat.le_of_ble_eq_true rfl) dX12_find_4 ?_
  refine r_if_eqb (tgt := 106) dX12_find_7 (by decide) (fun c1 => ?_) (fun c1 => ?_)
  · have h := h.1 c1
    refine r_iconst_m1 dX12_find_106 ?_
    exact r_iret dX12_find_107 rfl (Nat.le_refl _) (Nat.le_refl _) ⟨_, _, rfl, rfl, h⟩
  · have h := h.2 c1
    refine r_iload_n 2 dX12_find_10 rfl rfl ?_
    refine r_iconst_0 dX12_find_11 ?_
    refine r_aload_n 0 dX12_find_12 rfl rfl ?_
    refine mg_2 rfl dX12_find_13 ?_
    refine KP_in (d := d + 0)  rfl (Nat.le_of_ble_eq_true rfl) dX12_find_16 ?_
    refine r_if_eqb (tgt := 106) dX12_find_19 (by decide) (fun c2 => ?_) (fun c2 => ?_)
    · have h := h.1 c2
      refine r_iconst_m1 dX12_find_106 ?_
      exact r_iret dX12_find_107 rfl (Nat.le_refl _) (Nat.le_refl _) ⟨_, _, rfl, rfl, h⟩
    · have h := h.2 c2
      refine r_iload_n 3 dX12_find_22 rfl rfl ?_
      refine r_iload_n 2 dX12_find_23 rfl rfl ?_
      refine r_aload_n 0 dX12_find_24 rfl rfl ?_
      refine mg_2 rfl dX12_find_25 ?_
      refine KP_in (d := d + 0)  rfl (Nat.le_of_ble_eq_true rfl) dX12_find_28 ?_
      refine r_if_eqb (tgt := 106) dX12_find_31 (by decide) (fun c3 => ?_) (fun c3 => ?_)
      · have h := h.1 c3
        refine r_iconst_m1 dX12_find_106 ?_
        exact r_iret dX12_find_107 rfl (Nat.le_refl _) (Nat.le_refl _) ⟨_, _, rfl, rfl, h⟩
      · have h := h.2 c3
        refine r_iload_n 3 dX12_find_34 rfl rfl ?_
        refine r_iload_n 2 dX12_find_35 rfl rfl ?_
        refine r_isub dX12_find_36 ?_
        refine r_bipush_19 dX12_find_37 ?_
        refine r_icmp_gt (tgt := 106) dX12_find_39 (by decide) (fun c4 => ?_) (fun c4 => ?_)
        · have h := h.1 c4
          refine r_iconst_m1 dX12_find_106 ?_
          exact r_iret dX12_find_107 rfl (Nat.le_refl _) (Nat.le_refl _) ⟨_, _, rfl, rfl, h⟩
        · have h := h.2 c4
          refine r_iload 4 dX12_find_42 rfl ?_
          refine r_iconst_0 dX12_find_44 ?_
          refine r_bipush_99 dX12_find_45 ?_
          refine KP_in (d := d + 0)  rfl (Nat.le_of_ble_eq_true rfl) dX12_find_47 ?_
          refine r_if_eqb (tgt := 106) dX12_find_50 (by decide) (fun c5 => ?_) (fun c5 => ?_)
          · have h := h.1 c5
            refine r_iconst_m1 dX12_find_106 ?_
            exact r_iret dX12_find_107 rfl (Nat.le_refl _) (Nat.le_refl _) ⟨_, _, rfl, rfl, h⟩
          · have h := h.2 c5
            refine r_iload 5 dX12_find_53 rfl ?_
            refine KP_isLayer (d := d + 0)  rfl (Nat.le_of_ble_eq_true rfl) dX12_find_55 ?_
            refine r_if_eqb (tgt := 106) dX12_find_58 (by decide) (fun c6 => ?_) (fun c6 => ?_)
            · have h := h.1 c6
              refine r_iconst_m1 dX12_find_106 ?_
              exact r_iret dX12_find_107 rfl (Nat.le_refl _) (Nat.le_refl _) ⟨_, _, rfl, rfl, h⟩
            · have h := h.2 c6
              refine r_iload 6 dX12_find_61 rfl ?_
              refine r_iload 5 dX12_find_63 rfl ?_
              refine r_bipush_7 dX12_find_65 ?_
              refine KP_in (d := d + 0)  rfl (Nat.le_of_ble_eq_true rfl) dX12_find_67 ?_
              refine r_if_eqb (tgt := 106) dX12_find_70 (by decide) (fun c7 => ?_) (fun c7 => ?_)
              · have h := h.1 c7
                refine r_iconst_m1 dX12_find_106 ?_
                exact r_iret dX12_find_107 rfl (Nat.le_refl _) (Nat.le_refl _) ⟨_, _, rfl, rfl, h⟩
              · have h := h.2 c7
                refine r_iload 7 dX12_find_73 rfl ?_
                refine r_iconst_0 dX12_find_75 ?_
                refine r_bipush_7 dX12_find_76 ?_
                refine KP_in (d := d + 0)  rfl (Nat.le_of_ble_eq_true rfl) dX12_find_78 ?_
                refine r_if_eqb (tgt := 106) dX12_find_81 (by decide) (fun c8 => ?_) (fun c8 => ?_)
                · have h := h.1 c8
                  refine r_iconst_m1 dX12_find_106 ?_
                  exact r_iret dX12_find_107 rfl (Nat.le_refl _) (Nat.le_refl _) ⟨_, _, rfl, rfl, h⟩
                · have h := h.2 c8
                  refine r_iload 8 dX12_find_84 rfl ?_
                  refine r_iconst_0 dX12_find_86 ?_
                  refine r_sipush_255 dX12_find_87 ?_
                  refine KP_in (d := d + 0)  rfl (Nat.le_of_ble_eq_true rfl) dX12_find_90 ?_
                  refine r_if_eqb (tgt := 106) dX12_find_93 (by decide) (fun c9 => ?_) (fun c9 => ?_)
                  · have h := h.1 c9
                    refine r_iconst_m1 dX12_find_106 ?_
                    exact r_iret dX12_find_107 rfl (Nat.le_refl _) (Nat.le_refl _) ⟨_, _, rfl, rfl, h⟩
                  · have h := h.2 c9
                    refine r_aload_n 0 dX12_find_96 rfl rfl ?_
                    refine mg_57 rfl dX12_find_97 ?_
                    refine r_sipush_150 dX12_find_100 ?_
                    refine r_icmp_ne (tgt := 108) dX12_find_103 (by decide) (fun c10 => ?_) (fun c10 => ?_)
                    · have h := h.1 c10
                      refine r_aload_n 0 dX12_find_108 rfl rfl ?_
                      refine mg_59 rfl dX12_find_109 ?_
                      refine r_aload_n 0 dX12_find_112 rfl rfl ?_
                      refine mg_57 rfl dX12_find_113 ?_
                      refine r_iload_n 1 dX12_find_116 rfl rfl ?_
                      obtain ⟨b11, h⟩ := h
                      refine mt_59 b11 dX12_find_117 ?_
                      refine r_aload_n 0 dX12_find_118 rfl rfl ?_
                      refine mg_60 rfl dX12_find_119 ?_
                      refine r_aload_n 0 dX12_find_122 rfl rfl ?_
                      refine mg_57 rfl dX12_find_123 ?_
                      refine r_iload_n 2 dX12_find_126 rfl rfl ?_
                      refine mt_60 b11 dX12_find_127 ?_
                      refine r_aload_n 0 dX12_find_128 rfl rfl ?_
                      refine mg_61 rfl dX12_find_129 ?_
                      refine r_aload_n 0 dX12_find_132 rfl rfl ?_
                      refine mg_57 rfl dX12_find_133 ?_
                      refine r_iload_n 3 dX12_find_136 rfl rfl ?_
                      refine mt_61 b11 dX12_find_137 ?_
                      refine r_aload_n 0 dX12_find_138 rfl rfl ?_
                      refine mg_62 rfl dX12_find_139 ?_
                      refine r_aload_n 0 dX12_find_142 rfl rfl ?_
                      refine mg_57 rfl dX12_find_143 ?_
                      refine r_iload 4 dX12_find_146 rfl ?_
                      refine mt_62 b11 dX12_find_148 ?_
                      refine r_aload_n 0 dX12_find_149 rfl rfl ?_
                      refine mg_63 rfl dX12_find_150 ?_
                      refine r_aload_n 0 dX12_find_153 rfl rfl ?_
                      refine mg_57 rfl dX12_find_154 ?_
                      refine r_iload 5 dX12_find_157 rfl ?_
                      refine mt_63 b11 dX12_find_159 ?_
                      refine r_aload_n 0 dX12_find_160 rfl rfl ?_
                      refine mg_64 rfl dX12_find_161 ?_
                      refine r_aload_n 0 dX12_find_164 rfl rfl ?_
                      refine mg_57 rfl dX12_find_165 ?_
                      refine r_iload 6 dX12_find_168 rfl ?_
                      refine mt_64 b11 dX12_find_170 ?_
                      refine r_aload_n 0 dX12_find_171 rfl rfl ?_
                      refine mg_65 rfl dX12_find_172 ?_
                      refine r_aload_n 0 dX12_find_175 rfl rfl ?_
                      refine mg_57 rfl dX12_find_176 ?_
                      refine r_iload 7 dX12_find_179 rfl ?_
                      refine mt_65 b11 dX12_find_181 ?_
                      refine r_aload_n 0 dX12_find_182 rfl rfl ?_
                      refine mg_66 rfl dX12_find_183 ?_
                      refine r_aload_n 0 dX12_find_186 rfl rfl ?_
                      refine mg_57 rfl dX12_find_187 ?_
                      refine r_iload 8 dX12_find_190 rfl ?_
                      refine mt_66 b11 dX12_find_192 ?_
                      refine r_aload_n 0 dX12_find_193 rfl rfl ?_
                      refine mg_67 rfl dX12_find_194 ?_
                      refine r_aload_n 0 dX12_find_197 rfl rfl ?_
                      refine mg_57 rfl dX12_find_198 ?_
                      refine r_aload_n 0 dX12_find_201 rfl rfl ?_
                      refine mg_2 rfl dX12_find_202 ?_
                      refine mt_67 b11 dX12_find_205 ?_
                      refine r_aload_n 0 dX12_find_206 rfl rfl ?_
                      refine r_aload_n 0 dX12_find_207 rfl rfl ?_
                      refine mg_57 rfl dX12_find_208 ?_
                      refine r_iconst_1 dX12_find_211 ?_
                      refine r_iadd dX12_find_212 ?_
                      refine mq_57 rfl dX12_find_213 ?_
                      refine r_aload_n 0 dX12_find_216 rfl rfl ?_
                      refine mg_57 rfl dX12_find_217 ?_
                      refine r_iconst_1 dX12_find_220 ?_
                      refine r_isub dX12_find_221 ?_
                      exact r_iret dX12_find_222 rfl (Nat.le_refl _) (Nat.le_refl _) ⟨_, _, rfl, rfl, h⟩
                    · have h := h.2 c10
                      refine r_iconst_m1 dX12_find_106 ?_
                      exact r_iret dX12_find_107 rfl (Nat.le_refl _) (Nat.le_refl _) ⟨_, _, rfl, rfl, h⟩
abbrev T_meets_2 (E : EvT) (q : Nat → Nat) (D : Nat) (P : Bool → StM → Prop) (S : StM) (y1 : Int32) (y2 : Int32) (y3 : Int32) : Prop := RM E q iM_meets D (qB E q P) S [(0, .ref (q 0)), (1, .int (y1)), (2, .int (y2)), (3, .int (y3))] [] 2
set_option maxRecDepth 20000 in
theorem en_meets {E : EvT} {q : Nat → Nat} {d : Nat} {x1 : Int32} {x2 : Int32} {S : StM} {P : Bool → StM → Prop} (h : T_meets_2 E q (d + 2) P S x1 x2 0) : C_meets E q (d + 2) x1 x2 S P := by
  refine Cn.of rfl (Nat.le_of_ble_eq_true rfl) (ls := [(0, .ref (q 0)), (1, .int (x1)), (2, .int (x2))]) rfl ?_
  refine r_iconst_0 dX12_meets_0 ?_
  refine r_istore_n [(3, .int (0)), (0, .ref (q 0)), (1, .int (x1)), (2, .int (x2))] dX12_meets_1 rfl (Nat.le_of_ble_eq_true rfl) rfl ?_
  refine r_ls [1, 2, 3, 0] (ls2 := [(0, .ref (q 0)), (1, .int (x1)), (2, .int (x2)), (3, .int (0))]) rfl ?_
  exact h
set_option maxRecDepth 20000 in
theorem sg_meets_2 {E : EvT} {q : Nat → Nat} {d : Nat} {S : StM} {P : Bool → StM → Prop} {y1 : Int32} {y2 : Int32} {y3 : Int32} (h : (((s_wide S) * (s_high S)) ≤ y3 → (P false S)) ∧ (¬ ((s_wide S) * (s_high S)) ≤ y3 → ((0 ≤ y3 ∧ y3 < 100) ∧ ((¬ (a_placeAt S (ix y3)) = y2 → (T_meets_2 E q (d + 2) P S y1 y2 (y3 + 1))) ∧ ((a_placeAt S (ix y3)) = y2 → ((0 ≤ y1 ∧ y1 < 100) ∧ (¬ s_wide S = 0 ∧ (((mIsIn S y3 (a_digA S (ix y1)) (a_digB S (ix y1))) = false → (T_meets_2 E q (d + 2) P S y1 y2 (y3 + 1))) ∧ ((mIsIn S y3 (a_digA S (ix y1)) (a_digB S (ix y1))) = true → (P true S)))))))))) : T_meets_2 E q (d + 2) P S y1 y2 y3 := by
  refine r_iload_n 3 dX12_meets_2 rfl rfl ?_
  refine r_aload_n 0 dX12_meets_3 rfl rfl ?_
  refine mg_0 rfl dX12_meets_4 ?_
  refine r_aload_n 0 dX12_meets_7 rfl rfl ?_
  refine mg_1 rfl dX12_meets_8 ?_
  refine r_imul dX12_meets_11 ?_
  refine r_icmp_ge (tgt := 53) dX12_meets_12 (by decide) (fun c1 => ?_) (fun c1 => ?_)
  · have h := h.1 c1
    refine r_iconst_0 dX12_meets_53 ?_
    exact r_zret0 dX12_meets_54 rfl (Nat.le_refl _) (Nat.le_refl _) ⟨_, _, rfl, rfl, h⟩
  · have h := h.2 c1
    refine r_aload_n 0 dX12_meets_15 rfl rfl ?_
    refine mg_6 rfl dX12_meets_16 ?_
    refine r_iload_n 3 dX12_meets_19 rfl rfl ?_
    obtain ⟨b2, h⟩ := h
    refine ml_6 b2 dX12_meets_20 ?_
    refine r_iload_n 2 dX12_meets_21 rfl rfl ?_
    refine r_icmp_ne (tgt := 47) dX12_meets_22 (by decide) (fun c3 => ?_) (fun c3 => ?_)
    · have h := h.1 c3
      refine r_iinc 3 [(3, .int (y3 + 1)), (0, .ref (q 0)), (1, .int (y1)), (2, .int (y2))] dX12_meets_47 rfl rfl (Nat.le_of_ble_eq_true rfl) rfl ?_
      refine r_goto (tgt := 2) dX12_meets_50 (by decide) ?_
      refine r_ls [1, 2, 3, 0] (ls2 := [(0, .ref (q 0)), (1, .int (y1)), (2, .int (y2)), (3, .int (y3 + 1))]) rfl ?_
      exact h
    · have h := h.2 c3
      refine r_aload_n 0 dX12_meets_25 rfl rfl ?_
      refine r_iload_n 3 dX12_meets_26 rfl rfl ?_
      refine r_aload_n 0 dX12_meets_27 rfl rfl ?_
      refine mg_12 rfl dX12_meets_28 ?_
      refine r_iload_n 1 dX12_meets_31 rfl rfl ?_
      obtain ⟨b4, h⟩ := h
      refine ml_12 b4 dX12_meets_32 ?_
      refine r_aload_n 0 dX12_meets_33 rfl rfl ?_
      refine mg_13 rfl dX12_meets_34 ?_
      refine r_iload_n 1 dX12_meets_37 rfl rfl ?_
      refine ml_13 b4 dX12_meets_38 ?_
      obtain ⟨b5, h⟩ := h
      refine KP_isIn (d := d + 0) b5 rfl (Nat.le_of_ble_eq_true rfl) dX12_meets_39 ?_
      refine r_if_eqb (tgt := 47) dX12_meets_42 (by decide) (fun c6 => ?_) (fun c6 => ?_)
      · have h := h.1 c6
        refine r_iinc 3 [(3, .int (y3 + 1)), (0, .ref (q 0)), (1, .int (y1)), (2, .int (y2))] dX12_meets_47 rfl rfl (Nat.le_of_ble_eq_true rfl) rfl ?_
        refine r_goto (tgt := 2) dX12_meets_50 (by decide) ?_
        refine r_ls [1, 2, 3, 0] (ls2 := [(0, .ref (q 0)), (1, .int (y1)), (2, .int (y2)), (3, .int (y3 + 1))]) rfl ?_
        exact h
      · have h := h.2 c6
        refine r_iconst_1 dX12_meets_45 ?_
        exact r_zret1 dX12_meets_46 rfl (Nat.le_refl _) (Nat.le_refl _) ⟨_, _, rfl, rfl, h⟩
abbrev T_isDug_3 (E : EvT) (q : Nat → Nat) (D : Nat) (P : Bool → StM → Prop) (S : StM) (y1 : Int32) (y2 : Int32) (y3 : Int32) (y4 : Int32) (y5 : Int32) : Prop := RM E q iM_isDug D (qB E q P) S [(0, .ref (q 0)), (1, .int (y1)), (2, .int (y2)), (3, .int (y3)), (4, .int (y4)), (5, .int (y5))] [] 3
set_option maxRecDepth 20000 in
theorem en_isDug {E : EvT} {q : Nat → Nat} {d : Nat} {x1 : Int32} {x2 : Int32} {x3 : Int32} {x4 : Int32} {S : StM} {P : Bool → StM → Prop} (h : T_isDug_3 E q (d + 3) P S x1 x2 x3 x4 0) : C_isDug E q (d + 3) x1 x2 x3 x4 S P := by
  refine Cn.of rfl (Nat.le_of_ble_eq_true rfl) (ls := [(0, .ref (q 0)), (1, .int (x1)), (2, .int (x2)), (3, .int (x3)), (4, .int (x4))]) rfl ?_
  refine r_iconst_0 dX12_isDug_0 ?_
  refine r_istore [(5, .int (0)), (0, .ref (q 0)), (1, .int (x1)), (2, .int (x2)), (3, .int (x3)), (4, .int (x4))] dX12_isDug_1 (Nat.le_of_ble_eq_true rfl) rfl ?_
  refine r_ls [1, 2, 3, 4, 5, 0] (ls2 := [(0, .ref (q 0)), (1, .int (x1)), (2, .int (x2)), (3, .int (x3)), (4, .int (x4)), (5, .int (0))]) rfl ?_
  exact h
set_option maxRecDepth 20000 in
theorem sg_isDug_3 {E : EvT} {q : Nat → Nat} {d : Nat} {S : StM} {P : Bool → StM → Prop} {y1 : Int32} {y2 : Int32} {y3 : Int32} {y4 : Int32} {y5 : Int32} (h : ((s_digs S) ≤ y5 → (P false S)) ∧ (¬ (s_digs S) ≤ y5 → ((0 ≤ y5 ∧ y5 < 100) ∧ (((mKnown S y5 y4) = false → (T_isDug_3 E q (d + 3) P S y1 y2 y3 y4 (y5 + 1))) ∧ ((mKnown S y5 y4) = true → ((0 ≤ y5 ∧ y5 < 100) ∧ (((a_digKind S (ix y5)) = 2 → (T_isDug_3 E q (d + 3) P S y1 y2 y3 y4 (y5 + 1))) ∧ (¬ (a_digKind S (ix y5)) = 2 → ((0 ≤ y1 ∧ y1 < 150) ∧ ((¬ (a_digHand S (ix y5)) = (a_findHand S (ix y1)) → (T_isDug_3 E q (d + 3) P S y1 y2 y3 y4 (y5 + 1))) ∧ ((a_digHand S (ix y5)) = (a_findHand S (ix y1)) → (((mIn y3 (a_digFrom S (ix y5)) (a_digTo S (ix y5))) = true → (((a_findBottom S (ix y1)) < (a_digTop S (ix y5)) → (T_isDug_3 E q (d + 3) P S y1 y2 y3 y4 (y5 + 1))) ∧ (¬ (a_findBottom S (ix y1)) < (a_digTop S (ix y5)) → (((a_digBottom S (ix y5)) < (a_findTop S (ix y1)) → (T_isDug_3 E q (d + 3) P S y1 y2 y3 y4 (y5 + 1))) ∧ (¬ (a_digBottom S (ix y5)) < (a_findTop S (ix y1)) → (C_meets E q (d + 2) y5 y2 S (fun r11 S12 => (r11 = false → (T_isDug_3 E q (d + 3) P S12 y1 y2 y3 y4 (y5 + 1))) ∧ (r11 = true → (P true S12))))))))) ∧ ((mIn y3 (a_digFrom S (ix y5)) (a_digTo S (ix y5))) = false → (T_isDug_3 E q (d + 3) P S y1 y2 y3 y4 (y5 + 1))))))))))))))) : T_isDug_3 E q (d + 3) P S y1 y2 y3 y4 y5 := by
  refine r_iload 5 dX12_isDug_3 rfl ?_
  refine r_aload_n 0 dX12_isDug_5 rfl rfl ?_
  refine mg_4 rfl dX12_isDug_6 ?_
  refine r_icmp_ge (tgt := 124) dX12_isDug_9 (by decide) (fun c1 => ?_) (fun c1 => ?_)
  · have h := h.1 c1
    refine r_iconst_0 dX12_isDug_124 ?_
    exact r_zret0 dX12_isDug_125 rfl (Nat.le_refl _) (Nat.le_refl _) ⟨_, _, rfl, rfl, h⟩
  · have h := h.2 c1
    refine r_aload_n 0 dX12_isDug_12 rfl rfl ?_
    refine r_iload 5 dX12_isDug_13 rfl ?_
    refine r_iload 4 dX12_isDug_15 rfl ?_
    obtain ⟨b2, h⟩ := h
    refine KP_isKnown (d := d + 2) b2 rfl (Nat.le_of_ble_eq_true rfl) dX12_isDug_17 ?_
    refine r_if_eqb (tgt := 118) dX12_isDug_20 (by decide) (fun c3 => ?_) (fun c3 => ?_)
    · have h := h.1 c3
      refine r_iinc 5 [(5, .int (y5 + 1)), (0, .ref (q 0)), (1, .int (y1)), (2, .int (y2)), (3, .int (y3)), (4, .int (y4))] dX12_isDug_118 rfl rfl (Nat.le_of_ble_eq_true rfl) rfl ?_
      refine r_goto (tgt := 3) dX12_isDug_121 (by decide) ?_
      refine r_ls [1, 2, 3, 4, 5, 0] (ls2 := [(0, .ref (q 0)), (1, .int (y1)), (2, .int (y2)), (3, .int (y3)), (4, .int (y4)), (5, .int (y5 + 1))]) rfl ?_
      exact h
    · have h := h.2 c3
      refine r_aload_n 0 dX12_isDug_23 rfl rfl ?_
      refine mg_11 rfl dX12_isDug_24 ?_
      refine r_iload 5 dX12_isDug_27 rfl ?_
      obtain ⟨b4, h⟩ := h
      refine ml_11 b4 dX12_isDug_29 ?_
      refine r_iconst_2 dX12_isDug_30 ?_
      refine r_icmp_eq (tgt := 118) dX12_isDug_31 (by decide) (fun c5 => ?_) (fun c5 => ?_)
      · have h := h.1 c5
        refine r_iinc 5 [(5, .int (y5 + 1)), (0, .ref (q 0)), (1, .int (y1)), (2, .int (y2)), (3, .int (y3)), (4, .int (y4))] dX12_isDug_118 rfl rfl (Nat.le_of_ble_eq_true rfl) rfl ?_
        refine r_goto (tgt := 3) dX12_isDug_121 (by decide) ?_
        refine r_ls [1, 2, 3, 4, 5, 0] (ls2 := [(0, .ref (q 0)), (1, .int (y1)), (2, .int (y2)), (3, .int (y3)), (4, .int (y4)), (5, .int (y5 + 1))]) rfl ?_
        exact h
      · have h := h.2 c5
        refine r_aload_n 0 dX12_isDug_34 rfl rfl ?_
        refine mg_10 rfl dX12_isDug_35 ?_
        refine r_iload 5 dX12_isDug_38 rfl ?_
        refine ml_10 b4 dX12_isDug_40 ?_
        refine r_aload_n 0 dX12_isDug_41 rfl rfl ?_
        refine mg_59 rfl dX12_isDug_42 ?_
        refine r_iload_n 1 dX12_isDug_45 rfl rfl ?_
        obtain ⟨b6, h⟩ := h
        refine ml_59 b6 dX12_isDug_46 ?_
        refine r_icmp_ne (tgt := 118) dX12_isDug_47 (by decide) (fun c7 => ?_) (fun c7 => ?_)
        · have h := h.1 c7
          refine r_iinc 5 [(5, .int (y5 + 1)), (0, .ref (q 0)), (1, .int (y1)), (2, .int (y2)), (3, .int (y3)), (4, .int (y4))] dX12_isDug_118 rfl rfl (Nat.le_of_ble_eq_true rfl) rfl ?_
          refine r_goto (tgt := 3) dX12_isDug_121 (by decide) ?_
          refine r_ls [1, 2, 3, 4, 5, 0] (ls2 := [(0, .ref (q 0)), (1, .int (y1)), (2, .int (y2)), (3, .int (y3)), (4, .int (y4)), (5, .int (y5 + 1))]) rfl ?_
          exact h
        · have h := h.2 c7
          refine r_iload_n 3 dX12_isDug_50 rfl rfl ?_
          refine r_aload_n 0 dX12_isDug_51 rfl rfl ?_
          refine mg_16 rfl dX12_isDug_52 ?_
          refine r_iload 5 dX12_isDug_55 rfl ?_
          refine ml_16 b4 dX12_isDug_57 ?_
          refine r_aload_n 0 dX12_isDug_58 rfl rfl ?_
          refine mg_17 rfl dX12_isDug_59 ?_
          refine r_iload 5 dX12_isDug_62 rfl ?_
          refine ml_17 b4 dX12_isDug_64 ?_
          refine KP_in (d := d + 2)  rfl (Nat.le_of_ble_eq_true rfl) dX12_isDug_65 ?_
          refine r_if_neb (tgt := 74) dX12_isDug_68 (by decide) (fun c8 => ?_) (fun c8 => ?_)
          · have h := h.1 c8
            refine r_aload_n 0 dX12_isDug_74 rfl rfl ?_
            refine mg_14 rfl dX12_isDug_75 ?_
            refine r_iload 5 dX12_isDug_78 rfl ?_
            refine ml_14 b4 dX12_isDug_80 ?_
            refine r_aload_n 0 dX12_isDug_81 rfl rfl ?_
            refine mg_64 rfl dX12_isDug_82 ?_
            refine r_iload_n 1 dX12_isDug_85 rfl rfl ?_
            refine ml_64 b6 dX12_isDug_86 ?_
            refine r_icmp_gt (tgt := 118) dX12_isDug_87 (by decide) (fun c9 => ?_) (fun c9 => ?_)
            · have h := h.1 c9
              refine r_iinc 5 [(5, .int (y5 + 1)), (0, .ref (q 0)), (1, .int (y1)), (2, .int (y2)), (3, .int (y3)), (4, .int (y4))] dX12_isDug_118 rfl rfl (Nat.le_of_ble_eq_true rfl) rfl ?_
              refine r_goto (tgt := 3) dX12_isDug_121 (by decide) ?_
              refine r_ls [1, 2, 3, 4, 5, 0] (ls2 := [(0, .ref (q 0)), (1, .int (y1)), (2, .int (y2)), (3, .int (y3)), (4, .int (y4)), (5, .int (y5 + 1))]) rfl ?_
              exact h
            · have h := h.2 c9
              refine r_aload_n 0 dX12_isDug_90 rfl rfl ?_
              refine mg_63 rfl dX12_isDug_91 ?_
              refine r_iload_n 1 dX12_isDug_94 rfl rfl ?_
              refine ml_63 b6 dX12_isDug_95 ?_
              refine r_aload_n 0 dX12_isDug_96 rfl rfl ?_
              refine mg_15 rfl dX12_isDug_97 ?_
              refine r_iload 5 dX12_isDug_100 rfl ?_
              refine ml_15 b4 dX12_isDug_102 ?_
              refine r_icmp_gt (tgt := 118) dX12_isDug_103 (by decide) (fun c10 => ?_) (fun c10 => ?_)
              · have h := h.1 c10
                refine r_iinc 5 [(5, .int (y5 + 1)), (0, .ref (q 0)), (1, .int (y1)), (2, .int (y2)), (3, .int (y3)), (4, .int (y4))] dX12_isDug_118 rfl rfl (Nat.le_of_ble_eq_true rfl) rfl ?_
                refine r_goto (tgt := 3) dX12_isDug_121 (by decide) ?_
                refine r_ls [1, 2, 3, 4, 5, 0] (ls2 := [(0, .ref (q 0)), (1, .int (y1)), (2, .int (y2)), (3, .int (y3)), (4, .int (y4)), (5, .int (y5 + 1))]) rfl ?_
                exact h
              · have h := h.2 c10
                refine r_aload_n 0 dX12_isDug_106 rfl rfl ?_
                refine r_iload 5 dX12_isDug_107 rfl ?_
                refine r_iload_n 2 dX12_isDug_109 rfl rfl ?_
                refine K_meets rfl (Nat.le_of_ble_eq_true rfl) dX12_isDug_110 (mB h (fun r11 S12 h => ?_))
                refine r_if_eqb (tgt := 118) dX12_isDug_113 (by decide) (fun c13 => ?_) (fun c13 => ?_)
                · have h := h.1 c13
                  refine r_iinc 5 [(5, .int (y5 + 1)), (0, .ref (q 0)), (1, .int (y1)), (2, .int (y2)), (3, .int (y3)), (4, .int (y4))] dX12_isDug_118 rfl rfl (Nat.le_of_ble_eq_true rfl) rfl ?_
                  refine r_goto (tgt := 3) dX12_isDug_121 (by decide) ?_
                  refine r_ls [1, 2, 3, 4, 5, 0] (ls2 := [(0, .ref (q 0)), (1, .int (y1)), (2, .int (y2)), (3, .int (y3)), (4, .int (y4)), (5, .int (y5 + 1))]) rfl ?_
                  exact h
                · have h := h.2 c13
                  refine r_iconst_1 dX12_isDug_116 ?_
                  exact r_zret1 dX12_isDug_117 rfl (Nat.le_refl _) (Nat.le_refl _) ⟨_, _, rfl, rfl, h⟩
          · have h := h.2 c8
            refine r_goto (tgt := 118) dX12_isDug_71 (by decide) ?_
            refine r_iinc 5 [(5, .int (y5 + 1)), (0, .ref (q 0)), (1, .int (y1)), (2, .int (y2)), (3, .int (y3)), (4, .int (y4))] dX12_isDug_118 rfl rfl (Nat.le_of_ble_eq_true rfl) rfl ?_
            refine r_goto (tgt := 3) dX12_isDug_121 (by decide) ?_
            refine r_ls [1, 2, 3, 4, 5, 0] (ls2 := [(0, .ref (q 0)), (1, .int (y1)), (2, .int (y2)), (3, .int (y3)), (4, .int (y4)), (5, .int (y5 + 1))]) rfl ?_
            exact h
abbrev T_isMeant_59 (E : EvT) (q : Nat → Nat) (D : Nat) (P : Bool → StM → Prop) (S : StM) (y1 : Int32) (y2 : Int32) (y3 : Int32) (y4 : Int32) (y5 : Int32) : Prop := RM E q iM_isMeant D (qB E q P) S [(0, .ref (q 0)), (1, .int (y1)), (2, .int (y2)), (3, .int (y3)), (4, .int (y4)), (5, .int (y5))] [] 59
set_option maxRecDepth 20000 in
theorem en_isMeant {E : EvT} {q : Nat → Nat} {d : Nat} {x1 : Int32} {x2 : Int32} {x3 : Int32} {S : StM} {P : Bool → StM → Prop} (h : (0 ≤ x1 ∧ x1 < 150) ∧ ((¬ (a_findNumber S (ix x1)) = 0 → ((¬ (s_asHand S) = (-1) → (C_setsFacts E q (d + 3) x3 (s_asHand S) (a_findKind S (ix x1)) (a_findMarks S (ix x1)) x2 S (fun S5 => C_numberings E q (d + 3) S5 (fun r6 S7 => T_isMeant_59 E q (d + 4) P S7 x1 x2 x3 r6 0)))) ∧ ((s_asHand S) = (-1) → (C_setsFacts E q (d + 3) x3 (a_findHand S (ix x1)) (a_findKind S (ix x1)) (a_findMarks S (ix x1)) x2 S (fun S9 => C_numberings E q (d + 3) S9 (fun r10 S11 => T_isMeant_59 E q (d + 4) P S11 x1 x2 x3 r10 0)))))) ∧ ((a_findNumber S (ix x1)) = 0 → (P true S)))) : C_isMeant E q (d + 4) x1 x2 x3 S P := by
  refine Cn.of rfl (Nat.le_of_ble_eq_true rfl) (ls := [(0, .ref (q 0)), (1, .int (x1)), (2, .int (x2)), (3, .int (x3))]) rfl ?_
  refine r_aload_n 0 dX12_isMeant_0 rfl rfl ?_
  refine mg_62 rfl dX12_isMeant_1 ?_
  refine r_iload_n 1 dX12_isMeant_4 rfl rfl ?_
  obtain ⟨b1, h⟩ := h
  refine ml_62 b1 dX12_isMeant_5 ?_
  refine r_if_ne (tgt := 11) dX12_isMeant_6 (by decide) (fun c2 => ?_) (fun c2 => ?_)
  · have h := h.1 c2
    refine r_aload_n 0 dX12_isMeant_11 rfl rfl ?_
    refine r_iload_n 3 dX12_isMeant_12 rfl rfl ?_
    refine r_aload_n 0 dX12_isMeant_13 rfl rfl ?_
    refine mg_58 rfl dX12_isMeant_14 ?_
    refine r_iconst_m1 dX12_isMeant_17 ?_
    refine r_icmp_ne (tgt := 30) dX12_isMeant_18 (by decide) (fun c3 => ?_) (fun c3 => ?_)
    · have h := h.1 c3
      refine r_aload_n 0 dX12_isMeant_30 rfl rfl ?_
      refine mg_58 rfl dX12_isMeant_31 ?_
      refine r_aload_n 0 dX12_isMeant_34 rfl rfl ?_
      refine mg_65 rfl dX12_isMeant_35 ?_
      refine r_iload_n 1 dX12_isMeant_38 rfl rfl ?_
      refine ml_65 b1 dX12_isMeant_39 ?_
      refine r_aload_n 0 dX12_isMeant_40 rfl rfl ?_
      refine mg_66 rfl dX12_isMeant_41 ?_
      refine r_iload_n 1 dX12_isMeant_44 rfl rfl ?_
      refine ml_66 b1 dX12_isMeant_45 ?_
      refine r_iload_n 2 dX12_isMeant_46 rfl rfl ?_
      refine K_setsFacts rfl (Nat.le_of_ble_eq_true rfl) dX12_isMeant_47 (mV h (fun S5 h => ?_))
      refine r_aload_n 0 dX12_isMeant_50 rfl rfl ?_
      refine K_numberings rfl (Nat.le_of_ble_eq_true rfl) dX12_isMeant_51 (mI h (fun r6 S7 h => ?_))
      refine r_istore [(4, .int (r6)), (0, .ref (q 0)), (1, .int (x1)), (2, .int (x2)), (3, .int (x3))] dX12_isMeant_54 (Nat.le_of_ble_eq_true rfl) rfl ?_
      refine r_iconst_0 dX12_isMeant_56 ?_
      refine r_istore [(5, .int (0)), (4, .int (r6)), (0, .ref (q 0)), (1, .int (x1)), (2, .int (x2)), (3, .int (x3))] dX12_isMeant_57 (Nat.le_of_ble_eq_true rfl) rfl ?_
      refine r_ls [2, 3, 4, 5, 1, 0] (ls2 := [(0, .ref (q 0)), (1, .int (x1)), (2, .int (x2)), (3, .int (x3)), (4, .int (r6)), (5, .int (0))]) rfl ?_
      exact h
    · have h := h.2 c3
      refine r_aload_n 0 dX12_isMeant_21 rfl rfl ?_
      refine mg_59 rfl dX12_isMeant_22 ?_
      refine r_iload_n 1 dX12_isMeant_25 rfl rfl ?_
      refine ml_59 b1 dX12_isMeant_26 ?_
      refine r_goto (tgt := 34) dX12_isMeant_27 (by decide) ?_
      refine r_aload_n 0 dX12_isMeant_34 rfl rfl ?_
      refine mg_65 rfl dX12_isMeant_35 ?_
      refine r_iload_n 1 dX12_isMeant_38 rfl rfl ?_
      refine ml_65 b1 dX12_isMeant_39 ?_
      refine r_aload_n 0 dX12_isMeant_40 rfl rfl ?_
      refine mg_66 rfl dX12_isMeant_41 ?_
      refine r_iload_n 1 dX12_isMeant_44 rfl rfl ?_
      refine ml_66 b1 dX12_isMeant_45 ?_
      refine r_iload_n 2 dX12_isMeant_46 rfl rfl ?_
      refine K_setsFacts rfl (Nat.le_of_ble_eq_true rfl) dX12_isMeant_47 (mV h (fun S9 h => ?_))
      refine r_aload_n 0 dX12_isMeant_50 rfl rfl ?_
      refine K_numberings rfl (Nat.le_of_ble_eq_true rfl) dX12_isMeant_51 (mI h (fun r10 S11 h => ?_))
      refine r_istore [(4, .int (r10)), (0, .ref (q 0)), (1, .int (x1)), (2, .int (x2)), (3, .int (x3))] dX12_isMeant_54 (Nat.le_of_ble_eq_true rfl) rfl ?_
      refine r_iconst_0 dX12_isMeant_56 ?_
      refine r_istore [(5, .int (0)), (4, .int (r10)), (0, .ref (q 0)), (1, .int (x1)), (2, .int (x2)), (3, .int (x3))] dX12_isMeant_57 (Nat.le_of_ble_eq_true rfl) rfl ?_
      refine r_ls [2, 3, 4, 5, 1, 0] (ls2 := [(0, .ref (q 0)), (1, .int (x1)), (2, .int (x2)), (3, .int (x3)), (4, .int (r10)), (5, .int (0))]) rfl ?_
      exact h
  · have h := h.2 c2
    refine r_iconst_1 dX12_isMeant_9 ?_
    exact r_zret1 dX12_isMeant_10 rfl (Nat.le_refl _) (Nat.le_refl _) ⟨_, _, rfl, rfl, h⟩
set_option maxRecDepth 20000 in
theorem sg_isMeant_59 {E : EvT} {q : Nat → Nat} {d : Nat} {S : StM} {P : Bool → StM → Prop} {y1 : Int32} {y2 : Int32} {y3 : Int32} {y4 : Int32} {y5 : Int32} (h : (4 ≤ y5 → (P false S)) ∧ (¬ 4 ≤ y5 → ((¬ ((y4 >>> (y5 &&& 31)) &&& 1) = 1 → (T_isMeant_59 E q (d + 4) P S y1 y2 y3 y4 (y5 + 1))) ∧ (((y4 >>> (y5 &&& 31)) &&& 1) = 1 → ((0 ≤ y1 ∧ y1 < 150) ∧ (C_meaningOf E q (d + 3) y5 (a_findNumber S (ix y1)) y3 S (fun r4 S5 => (¬ r4 = y2 → (T_isMeant_59 E q (d + 4) P S5 y1 y2 y3 y4 (y5 + 1))) ∧ (r4 = y2 → (P true S5))))))))) : T_isMeant_59 E q (d + 4) P S y1 y2 y3 y4 y5 := by
  refine r_iload 5 dX12_isMeant_59 rfl ?_
  refine r_iconst_4 dX12_isMeant_61 ?_
  refine r_icmp_ge (tgt := 101) dX12_isMeant_62 (by decide) (fun c1 => ?_) (fun c1 => ?_)
  · have h := h.1 c1
    refine r_iconst_0 dX12_isMeant_101 ?_
    exact r_zret0 dX12_isMeant_102 rfl (Nat.le_refl _) (Nat.le_refl _) ⟨_, _, rfl, rfl, h⟩
  · have h := h.2 c1
    refine r_iload 4 dX12_isMeant_65 rfl ?_
    refine r_iload 5 dX12_isMeant_67 rfl ?_
    refine r_ishr dX12_isMeant_69 ?_
    refine r_iconst_1 dX12_isMeant_70 ?_
    refine r_iand dX12_isMeant_71 ?_
    refine r_iconst_1 dX12_isMeant_72 ?_
    refine r_icmp_ne (tgt := 95) dX12_isMeant_73 (by decide) (fun c2 => ?_) (fun c2 => ?_)
    · have h := h.1 c2
      refine r_iinc 5 [(5, .int (y5 + 1)), (0, .ref (q 0)), (1, .int (y1)), (2, .int (y2)), (3, .int (y3)), (4, .int (y4))] dX12_isMeant_95 rfl rfl (Nat.le_of_ble_eq_true rfl) rfl ?_
      refine r_goto (tgt := 59) dX12_isMeant_98 (by decide) ?_
      refine r_ls [1, 2, 3, 4, 5, 0] (ls2 := [(0, .ref (q 0)), (1, .int (y1)), (2, .int (y2)), (3, .int (y3)), (4, .int (y4)), (5, .int (y5 + 1))]) rfl ?_
      exact h
    · have h := h.2 c2
      refine r_aload_n 0 dX12_isMeant_76 rfl rfl ?_
      refine r_iload 5 dX12_isMeant_77 rfl ?_
      refine r_aload_n 0 dX12_isMeant_79 rfl rfl ?_
      refine mg_62 rfl dX12_isMeant_80 ?_
      refine r_iload_n 1 dX12_isMeant_83 rfl rfl ?_
      obtain ⟨b3, h⟩ := h
      refine ml_62 b3 dX12_isMeant_84 ?_
      refine r_iload_n 3 dX12_isMeant_85 rfl rfl ?_
      refine K_meaningOf rfl (Nat.le_of_ble_eq_true rfl) dX12_isMeant_86 (mI h (fun r4 S5 h => ?_))
      refine r_iload_n 2 dX12_isMeant_89 rfl rfl ?_
      refine r_icmp_ne (tgt := 95) dX12_isMeant_90 (by decide) (fun c6 => ?_) (fun c6 => ?_)
      · have h := h.1 c6
        refine r_iinc 5 [(5, .int (y5 + 1)), (0, .ref (q 0)), (1, .int (y1)), (2, .int (y2)), (3, .int (y3)), (4, .int (y4))] dX12_isMeant_95 rfl rfl (Nat.le_of_ble_eq_true rfl) rfl ?_
        refine r_goto (tgt := 59) dX12_isMeant_98 (by decide) ?_
        refine r_ls [1, 2, 3, 4, 5, 0] (ls2 := [(0, .ref (q 0)), (1, .int (y1)), (2, .int (y2)), (3, .int (y3)), (4, .int (y4)), (5, .int (y5 + 1))]) rfl ?_
        exact h
      · have h := h.2 c6
        refine r_iconst_1 dX12_isMeant_93 ?_
        exact r_zret1 dX12_isMeant_94 rfl (Nat.le_refl _) (Nat.le_refl _) ⟨_, _, rfl, rfl, h⟩
abbrev T_mayBe_5 (E : EvT) (q : Nat → Nat) (D : Nat) (P : Int32 → StM → Prop) (S : StM) (y1 : Int32) (y2 : Int32) (y3 : Int32) (y4 : Int32) : Prop := RM E q iM_mayBe D (qI E q P) S [(0, .ref (q 0)), (1, .int (y1)), (2, .int (y2)), (3, .int (y3)), (4, .int (y4))] [] 5
abbrev T_mayBe_22 (E : EvT) (q : Nat → Nat) (D : Nat) (P : Int32 → StM → Prop) (S : StM) (y1 : Int32) (y2 : Int32) (y3 : Int32) (y4 : Int32) (y5 : Int32) : Prop := RM E q iM_mayBe D (qI E q P) S [(0, .ref (q 0)), (1, .int (y1)), (2, .int (y2)), (3, .int (y3)), (4, .int (y4)), (5, .int (y5))] [] 22
set_option maxRecDepth 20000 in
theorem en_mayBe {E : EvT} {q : Nat → Nat} {d : Nat} {x1 : Int32} {x2 : Int32} {S : StM} {P : Int32 → StM → Prop} (h : T_mayBe_5 E q (d + 5) P S x1 x2 0 0) : C_mayBe E q (d + 5) x1 x2 S P := by
  refine Cn.of rfl (Nat.le_of_ble_eq_true rfl) (ls := [(0, .ref (q 0)), (1, .int (x1)), (2, .int (x2))]) rfl ?_
  refine r_iconst_0 dX12_mayBe_0 ?_
  refine r_istore_n [(3, .int (0)), (0, .ref (q 0)), (1, .int (x1)), (2, .int (x2))] dX12_mayBe_1 rfl (Nat.le_of_ble_eq_true rfl) rfl ?_
  refine r_iconst_0 dX12_mayBe_2 ?_
  refine r_istore [(4, .int (0)), (3, .int (0)), (0, .ref (q 0)), (1, .int (x1)), (2, .int (x2))] dX12_mayBe_3 (Nat.le_of_ble_eq_true rfl) rfl ?_
  refine r_ls [2, 3, 4, 1, 0] (ls2 := [(0, .ref (q 0)), (1, .int (x1)), (2, .int (x2)), (3, .int (0)), (4, .int (0))]) rfl ?_
  exact h
set_option maxRecDepth 20000 in
theorem sg_mayBe_5 {E : EvT} {q : Nat → Nat} {d : Nat} {S : StM} {P : Int32 → StM → Prop} {y1 : Int32} {y2 : Int32} {y3 : Int32} {y4 : Int32} (h : ((s_places S) ≤ y4 → (P y3 S)) ∧ (¬ (s_places S) ≤ y4 → ((0 ≤ y1 ∧ y1 < 150) ∧ (T_mayBe_22 E q (d + 5) P S y1 y2 y3 y4 (a_findFrom S (ix y1)))))) : T_mayBe_5 E q (d + 5) P S y1 y2 y3 y4 := by
  refine r_iload 4 dX12_mayBe_5 rfl ?_
  refine r_aload_n 0 dX12_mayBe_7 rfl rfl ?_
  refine mg_3 rfl dX12_mayBe_8 ?_
  refine r_icmp_ge (tgt := 86) dX12_mayBe_11 (by decide) (fun c1 => ?_) (fun c1 => ?_)
  · have h := h.1 c1
    refine r_iload_n 3 dX12_mayBe_86 rfl rfl ?_
    exact r_iret dX12_mayBe_87 rfl (Nat.le_refl _) (Nat.le_refl _) ⟨_, _, rfl, rfl, h⟩
  · have h := h.2 c1
    refine r_aload_n 0 dX12_mayBe_14 rfl rfl ?_
    refine mg_60 rfl dX12_mayBe_15 ?_
    refine r_iload_n 1 dX12_mayBe_18 rfl rfl ?_
    obtain ⟨b2, h⟩ := h
    refine ml_60 b2 dX12_mayBe_19 ?_
    refine r_istore [(5, .int (a_findFrom S (ix y1))), (0, .ref (q 0)), (1, .int (y1)), (2, .int (y2)), (3, .int (y3)), (4, .int (y4))] dX12_mayBe_20 (Nat.le_of_ble_eq_true rfl) rfl ?_
    refine r_ls [1, 2, 3, 4, 5, 0] (ls2 := [(0, .ref (q 0)), (1, .int (y1)), (2, .int (y2)), (3, .int (y3)), (4, .int (y4)), (5, .int (a_findFrom S (ix y1)))]) rfl ?_
    exact h
set_option maxRecDepth 20000 in
theorem sg_mayBe_22 {E : EvT} {q : Nat → Nat} {d : Nat} {S : StM} {P : Int32 → StM → Prop} {y1 : Int32} {y2 : Int32} {y3 : Int32} {y4 : Int32} {y5 : Int32} (h : (0 ≤ y1 ∧ y1 < 150) ∧ (((a_findTo S (ix y1)) < y5 → (T_mayBe_5 E q (d + 5) P S y1 y2 y3 (y4 + 1))) ∧ (¬ (a_findTo S (ix y1)) < y5 → ((¬ ((y3 >>> (y4 &&& 31)) &&& 1) = 0 → (T_mayBe_5 E q (d + 5) P S y1 y2 y3 (y4 + 1))) ∧ (((y3 >>> (y4 &&& 31)) &&& 1) = 0 → (C_isDug E q (d + 4) y1 y4 y5 y2 S (fun r4 S5 => (r4 = false → (T_mayBe_22 E q (d + 5) P S5 y1 y2 y3 y4 (y5 + 1))) ∧ (r4 = true → (C_isMeant E q (d + 4) y1 y4 y5 S5 (fun r7 S8 => (r7 = false → (T_mayBe_22 E q (d + 5) P S8 y1 y2 y3 y4 (y5 + 1))) ∧ (r7 = true → (T_mayBe_22 E q (d + 5) P S8 y1 y2 (y3 ||| ((1 : Int32) <<< (y4 &&& 31))) y4 (y5 + 1))))))))))))) : T_mayBe_22 E q (d + 5) P S y1 y2 y3 y4 y5 := by
  refine r_iload 5 dX12_mayBe_22 rfl ?_
  refine r_aload_n 0 dX12_mayBe_24 rfl rfl ?_
  refine mg_61 rfl dX12_mayBe_25 ?_
  refine r_iload_n 1 dX12_mayBe_28 rfl rfl ?_
  obtain ⟨b1, h⟩ := h
  refine ml_61 b1 dX12_mayBe_29 ?_
  refine r_icmp_gt (tgt := 80) dX12_mayBe_30 (by decide) (fun c2 => ?_) (fun c2 => ?_)
  · have h := h.1 c2
    refine r_iinc 4 [(4, .int (y4 + 1)), (0, .ref (q 0)), (1, .int (y1)), (2, .int (y2)), (3, .int (y3)), (5, .int (y5))] dX12_mayBe_80 rfl rfl (Nat.le_of_ble_eq_true rfl) rfl ?_
    refine r_goto (tgt := 5) dX12_mayBe_83 (by decide) ?_
    refine r_ls [1, 2, 3, 4, 0] (ls2 := [(0, .ref (q 0)), (1, .int (y1)), (2, .int (y2)), (3, .int (y3)), (4, .int (y4 + 1))]) rfl ?_
    exact h
  · have h := h.2 c2
    refine r_iload_n 3 dX12_mayBe_33 rfl rfl ?_
    refine r_iload 4 dX12_mayBe_34 rfl ?_
    refine r_ishr dX12_mayBe_36 ?_
    refine r_iconst_1 dX12_mayBe_37 ?_
    refine r_iand dX12_mayBe_38 ?_
    refine r_if_ne (tgt := 80) dX12_mayBe_39 (by decide) (fun c3 => ?_) (fun c3 => ?_)
    · have h := h.1 c3
      refine r_iinc 4 [(4, .int (y4 + 1)), (0, .ref (q 0)), (1, .int (y1)), (2, .int (y2)), (3, .int (y3)), (5, .int (y5))] dX12_mayBe_80 rfl rfl (Nat.le_of_ble_eq_true rfl) rfl ?_
      refine r_goto (tgt := 5) dX12_mayBe_83 (by decide) ?_
      refine r_ls [1, 2, 3, 4, 0] (ls2 := [(0, .ref (q 0)), (1, .int (y1)), (2, .int (y2)), (3, .int (y3)), (4, .int (y4 + 1))]) rfl ?_
      exact h
    · have h := h.2 c3
      refine r_aload_n 0 dX12_mayBe_42 rfl rfl ?_
      refine r_iload_n 1 dX12_mayBe_43 rfl rfl ?_
      refine r_iload 4 dX12_mayBe_44 rfl ?_
      refine r_iload 5 dX12_mayBe_46 rfl ?_
      refine r_iload_n 2 dX12_mayBe_48 rfl rfl ?_
      refine K_isDug rfl (Nat.le_of_ble_eq_true rfl) dX12_mayBe_49 (mB h (fun r4 S5 h => ?_))
      refine r_if_eqb (tgt := 74) dX12_mayBe_52 (by decide) (fun c6 => ?_) (fun c6 => ?_)
      · have h := h.1 c6
        refine r_iinc 5 [(5, .int (y5 + 1)), (0, .ref (q 0)), (1, .int (y1)), (2, .int (y2)), (3, .int (y3)), (4, .int (y4))] dX12_mayBe_74 rfl rfl (Nat.le_of_ble_eq_true rfl) rfl ?_
        refine r_goto (tgt := 22) dX12_mayBe_77 (by decide) ?_
        refine r_ls [1, 2, 3, 4, 5, 0] (ls2 := [(0, .ref (q 0)), (1, .int (y1)), (2, .int (y2)), (3, .int (y3)), (4, .int (y4)), (5, .int (y5 + 1))]) rfl ?_
        exact h
      · have h := h.2 c6
        refine r_aload_n 0 dX12_mayBe_55 rfl rfl ?_
        refine r_iload_n 1 dX12_mayBe_56 rfl rfl ?_
        refine r_iload 4 dX12_mayBe_57 rfl ?_
        refine r_iload 5 dX12_mayBe_59 rfl ?_
        refine K_isMeant rfl (Nat.le_of_ble_eq_true rfl) dX12_mayBe_61 (mB h (fun r7 S8 h => ?_))
        refine r_if_eqb (tgt := 74) dX12_mayBe_64 (by decide) (fun c9 => ?_) (fun c9 => ?_)
        · have h := h.1 c9
          refine r_iinc 5 [(5, .int (y5 + 1)), (0, .ref (q 0)), (1, .int (y1)), (2, .int (y2)), (3, .int (y3)), (4, .int (y4))] dX12_mayBe_74 rfl rfl (Nat.le_of_ble_eq_true rfl) rfl ?_
          refine r_goto (tgt := 22) dX12_mayBe_77 (by decide) ?_
          refine r_ls [1, 2, 3, 4, 5, 0] (ls2 := [(0, .ref (q 0)), (1, .int (y1)), (2, .int (y2)), (3, .int (y3)), (4, .int (y4)), (5, .int (y5 + 1))]) rfl ?_
          exact h
        · have h := h.2 c9
          refine r_iload_n 3 dX12_mayBe_67 rfl rfl ?_
          refine r_iconst_1 dX12_mayBe_68 ?_
          refine r_iload 4 dX12_mayBe_69 rfl ?_
          refine r_ishl dX12_mayBe_71 ?_
          refine r_ior dX12_mayBe_72 ?_
          refine r_istore_n [(3, .int (y3 ||| ((1 : Int32) <<< (y4 &&& 31)))), (0, .ref (q 0)), (1, .int (y1)), (2, .int (y2)), (4, .int (y4)), (5, .int (y5))] dX12_mayBe_73 rfl (Nat.le_of_ble_eq_true rfl) rfl ?_
          refine r_iinc 5 [(5, .int (y5 + 1)), (3, .int (y3 ||| ((1 : Int32) <<< (y4 &&& 31)))), (0, .ref (q 0)), (1, .int (y1)), (2, .int (y2)), (4, .int (y4))] dX12_mayBe_74 rfl rfl (Nat.le_of_ble_eq_true rfl) rfl ?_
          refine r_goto (tgt := 22) dX12_mayBe_77 (by decide) ?_
          refine r_ls [2, 3, 4, 1, 5, 0] (ls2 := [(0, .ref (q 0)), (1, .int (y1)), (2, .int (y2)), (3, .int (y3 ||| ((1 : Int32) <<< (y4 &&& 31)))), (4, .int (y4)), (5, .int (y5 + 1))]) rfl ?_
          exact h
set_option maxRecDepth 20000 in
theorem en_may {E : EvT} {q : Nat → Nat} {d : Nat} {x1 : Int32} {x2 : Int32} {S : StM} {P : Int32 → StM → Prop} (h : ((mFind S x1) = false → (P (-1) S)) ∧ ((mFind S x1) = true → (((mWeek x2) = false → (P (-1) S)) ∧ ((mWeek x2) = true → ((0 ≤ x1 ∧ x1 < 150) ∧ ((x2 < (a_findTold S (ix x1)) → (P (-1) S)) ∧ (¬ x2 < (a_findTold S (ix x1)) → (C_mayBe E q (d + 5) x1 x2 S (fun r5 S6 => P r5 S6))))))))) : C_may E q (d + 6) x1 x2 S P := by
  refine Cn.of rfl (Nat.le_of_ble_eq_true rfl) (ls := [(0, .ref (q 0)), (1, .int (x1)), (2, .int (x2))]) rfl ?_
  refine r_aload_n 0 dX12_may_0 rfl rfl ?_
  refine r_iload_n 1 dX12_may_1 rfl rfl ?_
  refine KP_isFind (d := d + 5)  rfl (Nat.le_of_ble_eq_true rfl) dX12_may_2 ?_
  refine r_if_eqb (tgt := 34) dX12_may_5 (by decide) (fun c1 => ?_) (fun c1 => ?_)
  · have h := h.1 c1
    refine r_iconst_m1 dX12_may_34 ?_
    exact r_iret dX12_may_35 rfl (Nat.le_refl _) (Nat.le_refl _) ⟨_, _, rfl, rfl, h⟩
  · have h := h.2 c1
    refine r_iload_n 2 dX12_may_8 rfl rfl ?_
    refine KP_isWeek (d := d + 5)  rfl (Nat.le_of_ble_eq_true rfl) dX12_may_9 ?_
    refine r_if_eqb (tgt := 34) dX12_may_12 (by decide) (fun c2 => ?_) (fun c2 => ?_)
    · have h := h.1 c2
      refine r_iconst_m1 dX12_may_34 ?_
      exact r_iret dX12_may_35 rfl (Nat.le_refl _) (Nat.le_refl _) ⟨_, _, rfl, rfl, h⟩
    · have h := h.2 c2
      refine r_aload_n 0 dX12_may_15 rfl rfl ?_
      refine mg_67 rfl dX12_may_16 ?_
      refine r_iload_n 1 dX12_may_19 rfl rfl ?_
      obtain ⟨b3, h⟩ := h
      refine ml_67 b3 dX12_may_20 ?_
      refine r_iload_n 2 dX12_may_21 rfl rfl ?_
      refine r_icmp_gt (tgt := 34) dX12_may_22 (by decide) (fun c4 => ?_) (fun c4 => ?_)
      · have h := h.1 c4
        refine r_iconst_m1 dX12_may_34 ?_
        exact r_iret dX12_may_35 rfl (Nat.le_refl _) (Nat.le_refl _) ⟨_, _, rfl, rfl, h⟩
      · have h := h.2 c4
        refine r_aload_n 0 dX12_may_25 rfl rfl ?_
        refine r_iload_n 1 dX12_may_26 rfl rfl ?_
        refine r_iload_n 2 dX12_may_27 rfl rfl ?_
        refine K_mayBe rfl (Nat.le_of_ble_eq_true rfl) dX12_may_28 (mI h (fun r5 S6 h => ?_))
        refine r_goto (tgt := 35) dX12_may_31 (by decide) ?_
        exact r_iret dX12_may_35 rfl (Nat.le_refl _) (Nat.le_refl _) ⟨_, _, rfl, rfl, h⟩
abbrev T_sureOf_4 (E : EvT) (q : Nat → Nat) (D : Nat) (P : Int32 → StM → Prop) (S : StM) (y1 : Int32) (y2 : Int32) (y3 : Int32) : Prop := RM E q iM_sureOf D (qI E q P) S [(0, .ref (q 0)), (1, .int (y1)), (2, .int (y2)), (3, .int (y3))] [] 4
set_option maxRecDepth 20000 in
theorem en_sureOf {E : EvT} {q : Nat → Nat} {d : Nat} {x1 : Int32} {S : StM} {P : Int32 → StM → Prop} (h : T_sureOf_4 E q (d + 6) P S x1 0 0) : C_sureOf E q (d + 6) x1 S P := by
  refine Cn.of rfl (Nat.le_of_ble_eq_true rfl) (ls := [(0, .ref (q 0)), (1, .int (x1))]) rfl ?_
  refine r_iconst_0 dX12_sureOf_0 ?_
  refine r_istore_n [(2, .int (0)), (0, .ref (q 0)), (1, .int (x1))] dX12_sureOf_1 rfl (Nat.le_of_ble_eq_true rfl) rfl ?_
  refine r_iconst_0 dX12_sureOf_2 ?_
  refine r_istore_n [(3, .int (0)), (2, .int (0)), (0, .ref (q 0)), (1, .int (x1))] dX12_sureOf_3 rfl (Nat.le_of_ble_eq_true rfl) rfl ?_
  refine r_ls [2, 3, 1, 0] (ls2 := [(0, .ref (q 0)), (1, .int (x1)), (2, .int (0)), (3, .int (0))]) rfl ?_
  exact h
set_option maxRecDepth 20000 in
theorem sg_sureOf_4 {E : EvT} {q : Nat → Nat} {d : Nat} {S : StM} {P : Int32 → StM → Prop} {y1 : Int32} {y2 : Int32} {y3 : Int32} (h : ((s_finds S) ≤ y3 → (P y2 S)) ∧ (¬ (s_finds S) ≤ y3 → ((0 ≤ y3 ∧ y3 < 150) ∧ (((a_findTold S (ix y3)) ≤ y1 → (C_mayBe E q (d + 5) y3 y1 S (fun r4 S5 => (r4 = 0 → (T_sureOf_4 E q (d + 6) P S5 y1 (y2 + 0) (y3 + 1))) ∧ (¬ r4 = 0 → ((¬ (r4 &&& (r4 - 1)) = 0 → (T_sureOf_4 E q (d + 6) P S5 y1 (y2 + 0) (y3 + 1))) ∧ ((r4 &&& (r4 - 1)) = 0 → (T_sureOf_4 E q (d + 6) P S5 y1 (y2 + 1) (y3 + 1)))))))) ∧ (¬ (a_findTold S (ix y3)) ≤ y1 → (T_sureOf_4 E q (d + 6) P S y1 y2 (y3 + 1))))))) : T_sureOf_4 E q (d + 6) P S y1 y2 y3 := by
  refine r_iload_n 3 dX12_sureOf_4 rfl rfl ?_
  refine r_aload_n 0 dX12_sureOf_5 rfl rfl ?_
  refine mg_57 rfl dX12_sureOf_6 ?_
  refine r_icmp_ge (tgt := 62) dX12_sureOf_9 (by decide) (fun c1 => ?_) (fun c1 => ?_)
  · have h := h.1 c1
    refine r_iload_n 2 dX12_sureOf_62 rfl rfl ?_
    exact r_iret dX12_sureOf_63 rfl (Nat.le_refl _) (Nat.le_refl _) ⟨_, _, rfl, rfl, h⟩
  · have h := h.2 c1
    refine r_aload_n 0 dX12_sureOf_12 rfl rfl ?_
    refine mg_67 rfl dX12_sureOf_13 ?_
    refine r_iload_n 3 dX12_sureOf_16 rfl rfl ?_
    obtain ⟨b2, h⟩ := h
    refine ml_67 b2 dX12_sureOf_17 ?_
    refine r_iload_n 1 dX12_sureOf_18 rfl rfl ?_
    refine r_icmp_le (tgt := 25) dX12_sureOf_19 (by decide) (fun c3 => ?_) (fun c3 => ?_)
    · have h := h.1 c3
      refine r_aload_n 0 dX12_sureOf_25 rfl rfl ?_
      refine r_iload_n 3 dX12_sureOf_26 rfl rfl ?_
      refine r_iload_n 1 dX12_sureOf_27 rfl rfl ?_
      refine K_mayBe rfl (Nat.le_of_ble_eq_true rfl) dX12_sureOf_28 (mI h (fun r4 S5 h => ?_))
      refine r_istore [(4, .int (r4)), (0, .ref (q 0)), (1, .int (y1)), (2, .int (y2)), (3, .int (y3))] dX12_sureOf_31 (Nat.le_of_ble_eq_true rfl) rfl ?_
      refine r_iload_n 3 dX12_sureOf_33 rfl rfl ?_
      refine r_iload 0 dX12_sureOf_34 rfl ?_
      refine r_if_eq (tgt := 53) dX12_sureOf_36 (by decide) (fun c6 => ?_) (fun c6 => ?_)
      · have h := h.1 c6
        refine r_iconst_0 dX12_sureOf_53 ?_
        refine r_iadd dX12_sureOf_54 ?_
        refine r_istore_n [(2, .int (y2 + 0)), (4, .int (r4)), (0, .ref (q 0)), (1, .int (y1)), (3, .int (y3))] dX12_sureOf_55 rfl (Nat.le_of_ble_eq_true rfl) rfl ?_
        refine r_iinc 4 [(3, .int (y3 + 1)), (2, .int (y2 + 0)), (4, .int (r4)), (0, .ref (q 0)), (1, .int (y1))] dX12_sureOf_56 rfl rfl (Nat.le_of_ble_eq_true rfl) rfl ?_
        refine r_goto (tgt := 4) dX12_sureOf_59 (by decide) ?_
        refine r_ls [3, 4, 1, 0] (ls2 := [(0, .ref (q 0)), (1, .int (y1)), (2, .int (y2 + 0)), (3, .int (y3 + 1))]) rfl ?_
        exact h
      · have h := h.2 c6
        refine r_iload 0 dX12_sureOf_39 rfl ?_
        refine r_iload 0 dX12_sureOf_41 rfl ?_
        refine r_iconst_1 dX12_sureOf_43 ?_
        refine r_isub dX12_sureOf_44 ?_
        refine r_iand dX12_sureOf_45 ?_
        refine r_if_ne (tgt := 53) dX12_sureOf_46 (by decide) (fun c7 => ?_) (fun c7 => ?_)
        · have h := h.1 c7
          refine r_iconst_0 dX12_sureOf_53 ?_
          refine r_iadd dX12_sureOf_54 ?_
          refine r_istore_n [(2, .int (y2 + 0)), (4, .int (r4)), (0, .ref (q 0)), (1, .int (y1)), (3, .int (y3))] dX12_sureOf_55 rfl (Nat.le_of_ble_eq_true rfl) rfl ?_
          refine r_iinc 4 [(3, .int (y3 + 1)), (2, .int (y2 + 0)), (4, .int (r4)), (0, .ref (q 0)), (1, .int (y1))] dX12_sureOf_56 rfl rfl (Nat.le_of_ble_eq_true rfl) rfl ?_
          refine r_goto (tgt := 4) dX12_sureOf_59 (by decide) ?_
          refine r_ls [3, 4, 1, 0] (ls2 := [(0, .ref (q 0)), (1, .int (y1)), (2, .int (y2 + 0)), (3, .int (y3 + 1))]) rfl ?_
          exact h
        · have h := h.2 c7
          refine r_iconst_1 dX12_sureOf_49 ?_
          refine r_goto (tgt := 54) dX12_sureOf_50 (by decide) ?_
          refine r_iadd dX12_sureOf_54 ?_
          refine r_istore_n [(2, .int (y2 + 1)), (4, .int (r4)), (0, .ref (q 0)), (1, .int (y1)), (3, .int (y3))] dX12_sureOf_55 rfl (Nat.le_of_ble_eq_true rfl) rfl ?_
          refine r_iinc 4 [(3, .int (y3 + 1)), (2, .int (y2 + 1)), (4, .int (r4)), (0, .ref (q 0)), (1, .int (y1))] dX12_sureOf_56 rfl rfl (Nat.le_of_ble_eq_true rfl) rfl ?_
          refine r_goto (tgt := 4) dX12_sureOf_59 (by decide) ?_
          refine r_ls [3, 4, 1, 0] (ls2 := [(0, .ref (q 0)), (1, .int (y1)), (2, .int (y2 + 1)), (3, .int (y3 + 1))]) rfl ?_
          exact h
    · have h := h.2 c3
      refine r_goto (tgt := 56) dX12_sureOf_22 (by decide) ?_
      refine r_iinc 3 [(3, .int (y3 + 1)), (0, .ref (q 0)), (1, .int (y1)), (2, .int (y2))] dX12_sureOf_56 rfl rfl (Nat.le_of_ble_eq_true rfl) rfl ?_
      refine r_goto (tgt := 4) dX12_sureOf_59 (by decide) ?_
      refine r_ls [1, 2, 3, 0] (ls2 := [(0, .ref (q 0)), (1, .int (y1)), (2, .int (y2)), (3, .int (y3 + 1))]) rfl ?_
      exact h
set_option maxRecDepth 20000 in
theorem en_sure {E : EvT} {q : Nat → Nat} {d : Nat} {x1 : Int32} {S : StM} {P : Int32 → StM → Prop} (h : ((mWeek x1) = false → (P (-1) S)) ∧ ((mWeek x1) = true → (C_sureOf E q (d + 6) x1 S (fun r2 S3 => P r2 S3)))) : C_sure E q (d + 7) x1 S P := by
  refine Cn.of rfl (Nat.le_of_ble_eq_true rfl) (ls := [(0, .ref (q 0)), (1, .int (x1))]) rfl ?_
  refine r_iload_n 1 dX12_sure_0 rfl rfl ?_
  refine KP_isWeek (d := d + 6)  rfl (Nat.le_of_ble_eq_true rfl) dX12_sure_1 ?_
  refine r_if_eqb (tgt := 15) dX12_sure_4 (by decide) (fun c1 => ?_) (fun c1 => ?_)
  · have h := h.1 c1
    refine r_iconst_m1 dX12_sure_15 ?_
    exact r_iret dX12_sure_16 rfl (Nat.le_refl _) (Nat.le_refl _) ⟨_, _, rfl, rfl, h⟩
  · have h := h.2 c1
    refine r_aload_n 0 dX12_sure_7 rfl rfl ?_
    refine r_iload_n 1 dX12_sure_8 rfl rfl ?_
    refine K_sureOf rfl (Nat.le_of_ble_eq_true rfl) dX12_sure_9 (mI h (fun r2 S3 h => ?_))
    refine r_goto (tgt := 16) dX12_sure_12 (by decide) ?_
    exact r_iret dX12_sure_16 rfl (Nat.le_refl _) (Nat.le_refl _) ⟨_, _, rfl, rfl, h⟩
abbrev T_nowhere_18 (E : EvT) (q : Nat → Nat) (D : Nat) (P : Int32 → StM → Prop) (S : StM) (y1 : Int32) (y2 : Int32) (y3 : Int32) (y4 : Int32) : Prop := RM E q iM_nowhere D (qI E q P) S [(0, .ref (q 0)), (1, .int (y1)), (2, .int (y2)), (3, .int (y3)), (4, .int (y4))] [] 18
set_option maxRecDepth 20000 in
theorem en_nowhere {E : EvT} {q : Nat → Nat} {d : Nat} {x1 : Int32} {x2 : Int32} {S : StM} {P : Int32 → StM → Prop} (h : (x1 < 0 → (P (-1) S)) ∧ (¬ x1 < 0 → (((mWeek x2) = true → (T_nowhere_18 E q (d + 6) P S x1 x2 0 0)) ∧ ((mWeek x2) = false → (P (-1) S))))) : C_nowhere E q (d + 6) x1 x2 S P := by
  refine Cn.of rfl (Nat.le_of_ble_eq_true rfl) (ls := [(0, .ref (q 0)), (1, .int (x1)), (2, .int (x2))]) rfl ?_
  refine r_iload_n 1 dX12_nowhere_0 rfl rfl ?_
  refine r_if_lt (tgt := 11) dX12_nowhere_1 (by decide) (fun c1 => ?_) (fun c1 => ?_)
  · have h := h.1 c1
    refine r_iconst_m1 dX12_nowhere_11 ?_
    exact r_iret dX12_nowhere_12 rfl (Nat.le_refl _) (Nat.le_refl _) ⟨_, _, rfl, rfl, h⟩
  · have h := h.2 c1
    refine r_iload_n 2 dX12_nowhere_4 rfl rfl ?_
    refine KP_isWeek (d := d + 5)  rfl (Nat.le_of_ble_eq_true rfl) dX12_nowhere_5 ?_
    refine r_if_neb (tgt := 13) dX12_nowhere_8 (by decide) (fun c2 => ?_) (fun c2 => ?_)
    · have h := h.1 c2
      refine r_iconst_0 dX12_nowhere_13 ?_
      refine r_istore_n [(3, .int (0)), (0, .ref (q 0)), (1, .int (x1)), (2, .int (x2))] dX12_nowhere_14 rfl (Nat.le_of_ble_eq_true rfl) rfl ?_
      refine r_iconst_0 dX12_nowhere_15 ?_
      refine r_istore [(4, .int (0)), (3, .int (0)), (0, .ref (q 0)), (1, .int (x1)), (2, .int (x2))] dX12_nowhere_16 (Nat.le_of_ble_eq_true rfl) rfl ?_
      refine r_ls [2, 3, 4, 1, 0] (ls2 := [(0, .ref (q 0)), (1, .int (x1)), (2, .int (x2)), (3, .int (0)), (4, .int (0))]) rfl ?_
      exact h
    · have h := h.2 c2
      refine r_iconst_m1 dX12_nowhere_11 ?_
      exact r_iret dX12_nowhere_12 rfl (Nat.le_refl _) (Nat.le_refl _) ⟨_, _, rfl, rfl, h⟩
set_option maxRecDepth 20000 in
theorem sg_nowhere_18 {E : EvT} {q : Nat → Nat} {d : Nat} {S : StM} {P : Int32 → StM → Prop} {y1 : Int32} {y2 : Int32} {y3 : Int32} {y4 : Int32} (h : ((s_finds S) ≤ y4 → (P (-1) S)) ∧ (¬ (s_finds S) ≤ y4 → ((0 ≤ y4 ∧ y4 < 150) ∧ ((y2 < (a_findTold S (ix y4)) → (T_nowhere_18 E q (d + 6) P S y1 y2 y3 (y4 + 1))) ∧ (¬ y2 < (a_findTold S (ix y4)) → (C_mayBe E q (d + 5) y4 y2 S (fun r4 S5 => (r4 = 0 → ((¬ y3 = y1 → (T_nowhere_18 E q (d + 6) P S5 y1 y2 (y3 + 1) (y4 + 1))) ∧ (y3 = y1 → (P y4 S5)))) ∧ (¬ r4 = 0 → (T_nowhere_18 E q (d + 6) P S5 y1 y2 y3 (y4 + 1)))))))))) : T_nowhere_18 E q (d + 6) P S y1 y2 y3 y4 := by
  refine r_iload 4 dX12_nowhere_18 rfl ?_
  refine r_aload_n 0 dX12_nowhere_20 rfl rfl ?_
  refine mg_57 rfl dX12_nowhere_21 ?_
  refine r_icmp_ge (tgt := 69) dX12_nowhere_24 (by decide) (fun c1 => ?_) (fun c1 => ?_)
  · have h := h.1 c1
    refine r_iconst_m1 dX12_nowhere_69 ?_
    exact r_iret dX12_nowhere_70 rfl (Nat.le_refl _) (Nat.le_refl _) ⟨_, _, rfl, rfl, h⟩
  · have h := h.2 c1
    refine r_aload_n 0 dX12_nowhere_27 rfl rfl ?_
    refine mg_67 rfl dX12_nowhere_28 ?_
    refine r_iload 4 dX12_nowhere_31 rfl ?_
    obtain ⟨b2, h⟩ := h
    refine ml_67 b2 dX12_nowhere_33 ?_
    refine r_iload_n 2 dX12_nowhere_34 rfl rfl ?_
    refine r_icmp_gt (tgt := 63) dX12_nowhere_35 (by decide) (fun c3 => ?_) (fun c3 => ?_)
    · have h := h.1 c3
      refine r_iinc 4 [(4, .int (y4 + 1)), (0, .ref (q 0)), (1, .int (y1)), (2, .int (y2)), (3, .int (y3))] dX12_nowhere_63 rfl rfl (Nat.le_of_ble_eq_true rfl) rfl ?_
      refine r_goto (tgt := 18) dX12_nowhere_66 (by decide) ?_
      refine r_ls [1, 2, 3, 4, 0] (ls2 := [(0, .ref (q 0)), (1, .int (y1)), (2, .int (y2)), (3, .int (y3)), (4, .int (y4 + 1))]) rfl ?_
      exact h
    · have h := h.2 c3
      refine r_aload_n 0 dX12_nowhere_38 rfl rfl ?_
      refine r_iload 4 dX12_nowhere_39 rfl ?_
      refine r_iload_n 2 dX12_nowhere_41 rfl rfl ?_
      refine K_mayBe rfl (Nat.le_of_ble_eq_true rfl) dX12_nowhere_42 (mI h (fun r4 S5 h => ?_))
      refine r_if_eq (tgt := 51) dX12_nowhere_45 (by decide) (fun c6 => ?_) (fun c6 => ?_)
      · have h := h.1 c6
        refine r_iload_n 3 dX12_nowhere_51 rfl rfl ?_
        refine r_iload_n 1 dX12_nowhere_52 rfl rfl ?_
        refine r_icmp_ne (tgt := 59) dX12_nowhere_53 (by decide) (fun c7 => ?_) (fun c7 => ?_)
        · have h := h.1 c7
          refine r_iload_n 3 dX12_nowhere_59 rfl rfl ?_
          refine r_iconst_1 dX12_nowhere_60 ?_
          refine r_iadd dX12_nowhere_61 ?_
          refine r_istore_n [(3, .int (y3 + 1)), (0, .ref (q 0)), (1, .int (y1)), (2, .int (y2)), (4, .int (y4))] dX12_nowhere_62 rfl (Nat.le_of_ble_eq_true rfl) rfl ?_
          refine r_iinc 4 [(4, .int (y4 + 1)), (3, .int (y3 + 1)), (0, .ref (q 0)), (1, .int (y1)), (2, .int (y2))] dX12_nowhere_63 rfl rfl (Nat.le_of_ble_eq_true rfl) rfl ?_
          refine r_goto (tgt := 18) dX12_nowhere_66 (by decide) ?_
          refine r_ls [2, 3, 4, 1, 0] (ls2 := [(0, .ref (q 0)), (1, .int (y1)), (2, .int (y2)), (3, .int (y3 + 1)), (4, .int (y4 + 1))]) rfl ?_
          exact h
        · have h := h.2 c7
          refine r_iload 4 dX12_nowhere_56 rfl ?_
          exact r_iret dX12_nowhere_58 rfl (Nat.le_refl _) (Nat.le_refl _) ⟨_, _, rfl, rfl, h⟩
      · have h := h.2 c6
        refine r_goto (tgt := 63) dX12_nowhere_48 (by decide) ?_
        refine r_iinc 4 [(4, .int (y4 + 1)), (0, .ref (q 0)), (1, .int (y1)), (2, .int (y2)), (3, .int (y3))] dX12_nowhere_63 rfl rfl (Nat.le_of_ble_eq_true rfl) rfl ?_
        refine r_goto (tgt := 18) dX12_nowhere_66 (by decide) ?_
        refine r_ls [1, 2, 3, 4, 0] (ls2 := [(0, .ref (q 0)), (1, .int (y1)), (2, .int (y2)), (3, .int (y3)), (4, .int (y4 + 1))]) rfl ?_
        exact h
set_option maxRecDepth 20000 in
theorem en_beside {E : EvT} {q : Nat → Nat} {d : Nat} {x1 : Int32} {S : StM} {P : Int32 → StM → Prop} (h : ((mIn x1 0 7) = true → (C_sureOf E q (d + 6) (s_now S) (sI S 58 x1) (fun r2 S3 => P r2 (sI S3 58 (-1))))) ∧ ((mIn x1 0 7) = false → (P (-1) S))) : C_beside E q (d + 7) x1 S P := by
  refine Cn.of rfl (Nat.le_of_ble_eq_true rfl) (ls := [(0, .ref (q 0)), (1, .int (x1))]) rfl ?_
  refine r_iload_n 1 dX12_beside_0 rfl rfl ?_
  refine r_iconst_0 dX12_beside_1 ?_
  refine r_bipush_7 dX12_beside_2 ?_
  refine KP_in (d := d + 6)  rfl (Nat.le_of_ble_eq_true rfl) dX12_beside_4 ?_
  refine r_if_neb (tgt := 12) dX12_beside_7 (by decide) (fun c1 => ?_) (fun c1 => ?_)
  · have h := h.1 c1
    refine r_aload_n 0 dX12_beside_12 rfl rfl ?_
    refine r_iload_n 1 dX12_beside_13 rfl rfl ?_
    refine mq_58 rfl dX12_beside_14 ?_
    refine r_aload_n 0 dX12_beside_17 rfl rfl ?_
    refine r_aload_n 0 dX12_beside_18 rfl rfl ?_
    refine mg_2 rfl dX12_beside_19 ?_
    refine K_sureOf rfl (Nat.le_of_ble_eq_true rfl) dX12_beside_22 (mI h (fun r2 S3 h => ?_))
    refine r_istore_n [(2, .int (r2)), (0, .ref (q 0)), (1, .int (x1))] dX12_beside_25 rfl (Nat.le_of_ble_eq_true rfl) rfl ?_
    refine r_aload_n 1 dX12_beside_26 rfl rfl ?_
    refine r_iconst_m1 dX12_beside_27 ?_
    refine mq_58 rfl dX12_beside_28 ?_
    refine r_iload_n 0 dX12_beside_31 rfl rfl ?_
    exact r_iret dX12_beside_32 rfl (Nat.le_refl _) (Nat.le_refl _) ⟨_, _, rfl, rfl, h⟩
  · have h := h.2 c1
    refine r_iconst_m1 dX12_beside_10 ?_
    exact r_iret dX12_beside_11 rfl (Nat.le_refl _) (Nat.le_refl _) ⟨_, _, rfl, rfl, h⟩
set_option maxRecDepth 20000 in
theorem en_barred {E : EvT} {q : Nat → Nat} {d : Nat} {x1 : Int32} {S : StM} {P : Int32 → StM → Prop} (h : ((mDig S x1) = false → (P (-1) S)) ∧ ((mDig S x1) = true → ((0 ≤ x1 ∧ x1 < 100) ∧ ((¬ (a_digKind S (ix x1)) = 2 → (C_setsFacts E q (d + 3) (a_digFrom S (ix x1)) (a_digHand S (ix x1)) (a_digKind S (ix x1)) 0 (-1) S (fun S5 => C_numberBy E q (d + 3) 102 7 S5 (fun r6 S7 => ((a_digBottom S5 (ix x1)) ≤ r6 → (P 0 S7)) ∧ (¬ (a_digBottom S5 (ix x1)) ≤ r6 → (P 1 S7)))))) ∧ ((a_digKind S (ix x1)) = 2 → (P (-1) S)))))) : C_barred E q (d + 4) x1 S P := by
  refine Cn.of rfl (Nat.le_of_ble_eq_true rfl) (ls := [(0, .ref (q 0)), (1, .int (x1))]) rfl ?_
  refine r_aload_n 0 dX12_barred_0 rfl rfl ?_
  refine r_iload_n 1 dX12_barred_1 rfl rfl ?_
  refine KP_isDig (d := d + 3)  rfl (Nat.le_of_ble_eq_true rfl) dX12_barred_2 ?_
  refine r_if_eqb (tgt := 18) dX12_barred_5 (by decide) (fun c1 => ?_) (fun c1 => ?_)
  · have h := h.1 c1
    refine r_iconst_m1 dX12_barred_18 ?_
    exact r_iret dX12_barred_19 rfl (Nat.le_refl _) (Nat.le_refl _) ⟨_, _, rfl, rfl, h⟩
  · have h := h.2 c1
    refine r_aload_n 0 dX12_barred_8 rfl rfl ?_
    refine mg_11 rfl dX12_barred_9 ?_
    refine r_iload_n 1 dX12_barred_12 rfl rfl ?_
    obtain ⟨b2, h⟩ := h
    refine ml_11 b2 dX12_barred_13 ?_
    refine r_iconst_2 dX12_barred_14 ?_
    refine r_icmp_ne (tgt := 20) dX12_barred_15 (by decide) (fun c3 => ?_) (fun c3 => ?_)
    · have h := h.1 c3
      refine r_aload_n 0 dX12_barred_20 rfl rfl ?_
      refine r_aload_n 0 dX12_barred_21 rfl rfl ?_
      refine mg_16 rfl dX12_barred_22 ?_
      refine r_iload_n 1 dX12_barred_25 rfl rfl ?_
      refine ml_16 b2 dX12_barred_26 ?_
      refine r_aload_n 0 dX12_barred_27 rfl rfl ?_
      refine mg_10 rfl dX12_barred_28 ?_
      refine r_iload_n 1 dX12_barred_31 rfl rfl ?_
      refine ml_10 b2 dX12_barred_32 ?_
      refine r_aload_n 0 dX12_barred_33 rfl rfl ?_
      refine mg_11 rfl dX12_barred_34 ?_
      refine r_iload_n 1 dX12_barred_37 rfl rfl ?_
      refine ml_11 b2 dX12_barred_38 ?_
      refine r_iconst_0 dX12_barred_39 ?_
      refine r_iconst_m1 dX12_barred_40 ?_
      refine K_setsFacts rfl (Nat.le_of_ble_eq_true rfl) dX12_barred_41 (mV h (fun S5 h => ?_))
      refine r_aload_n 0 dX12_barred_44 rfl rfl ?_
      refine mg_15 rfl dX12_barred_45 ?_
      refine r_iload_n 1 dX12_barred_48 rfl rfl ?_
      refine ml_15 b2 dX12_barred_49 ?_
      refine r_aload_n 0 dX12_barred_50 rfl rfl ?_
      refine r_bipush_102 dX12_barred_51 ?_
      refine r_bipush_7 dX12_barred_53 ?_
      refine K_numberBy rfl (Nat.le_of_ble_eq_true rfl) dX12_barred_55 (mI h (fun r6 S7 h => ?_))
      refine r_icmp_le (tgt := 65) dX12_barred_58 (by decide) (fun c8 => ?_) (fun c8 => ?_)
      · have h := h.1 c8
        refine r_iconst_0 dX12_barred_65 ?_
        exact r_iret dX12_barred_66 rfl (Nat.le_refl _) (Nat.le_refl _) ⟨_, _, rfl, rfl, h⟩
      · have h := h.2 c8
        refine r_iconst_1 dX12_barred_61 ?_
        refine r_goto (tgt := 66) dX12_barred_62 (by decide) ?_
        exact r_iret dX12_barred_66 rfl (Nat.le_refl _) (Nat.le_refl _) ⟨_, _, rfl, rfl, h⟩
    · have h := h.2 c3
      refine r_iconst_m1 dX12_barred_18 ?_
      exact r_iret dX12_barred_19 rfl (Nat.le_refl _) (Nat.le_refl _) ⟨_, _, rfl, rfl, h⟩
set_option maxRecDepth 20000 in
theorem en_thing {E : EvT} {q : Nat → Nat} {d : Nat} {x1 : Int32} {x2 : Int32} {x3 : Int32} {S : StM} {P : Int32 → StM → Prop} (h : ((mIn x1 0 9) = false → (P (-1) S)) ∧ ((mIn x1 0 9) = true → (((mIn x2 0 7) = false → (P (-1) S)) ∧ ((mIn x2 0 7) = true → (((mIn x3 0 255) = false → (P (-1) S)) ∧ ((mIn x3 0 255) = true → ((¬ (s_things S) = 60 → ((0 ≤ (s_things S) ∧ (s_things S) < 60) ∧ (P (((s_things S) + 1) - 1) (sI (sA (sA (sA S 70 (upd (a_museumOf S) (ix (s_things S)) x1)) 71 (upd (a_thingKind S) (ix (s_things S)) x2)) 72 (upd (a_thingMarks S) (ix (s_things S)) x3)) 68 ((s_things S) + 1))))) ∧ ((s_things S) = 60 → (P (-1) S))))))))) : C_thing E q (d + 1) x1 x2 x3 S P := by
  refine Cn.of rfl (Nat.le_of_ble_eq_true rfl) (ls := [(0, .ref (q 0)), (1, .int (x1)), (2, .int (x2)), (3, .int (x3))]) rfl ?_
  refine r_iload_n 1 dX12_thing_0 rfl rfl ?_
  refine r_iconst_0 dX12_thing_1 ?_
  refine r_bipush_9 dX12_thing_2 ?_
  refine KP_in (d := d + 0)  rfl (Nat.le_of_ble_eq_true rfl) dX12_thing_4 ?_
  refine r_if_eqb (tgt := 40) dX12_thing_7 (by decide) (fun c1 => ?_) (fun c1 => ?_)
  · have h := h.1 c1
    refine r_iconst_m1 dX12_thing_40 ?_
    exact r_iret dX12_thing_41 rfl (Nat.le_refl _) (Nat.le_refl _) ⟨_, _, rfl, rfl, h⟩
  · have h := h.2 c1
    refine r_iload_n 2 dX12_thing_10 rfl rfl ?_
    refine r_iconst_0 dX12_thing_11 ?_
    refine r_bipush_7 dX12_thing_12 ?_
    refine KP_in (d := d + 0)  rfl (Nat.le_of_ble_eq_true rfl) dX12_thing_14 ?_
    refine r_if_eqb (tgt := 40) dX12_thing_17 (by decide) (fun c2 => ?_) (fun c2 => ?_)
    · have h := h.1 c2
      refine r_iconst_m1 dX12_thing_40 ?_
      exact r_iret dX12_thing_41 rfl (Nat.le_refl _) (Nat.le_refl _) ⟨_, _, rfl, rfl, h⟩
    · have h := h.2 c2
      refine r_iload_n 3 dX12_thing_20 rfl rfl ?_
      refine r_iconst_0 dX12_thing_21 ?_
      refine r_sipush_255 dX12_thing_22 ?_
      refine KP_in (d := d + 0)  rfl (Nat.le_of_ble_eq_true rfl) dX12_thing_25 ?_
      refine r_if_eqb (tgt := 40) dX12_thing_28 (by decide) (fun c3 => ?_) (fun c3 => ?_)
      · have h := h.1 c3
        refine r_iconst_m1 dX12_thing_40 ?_
        exact r_iret dX12_thing_41 rfl (Nat.le_refl _) (Nat.le_refl _) ⟨_, _, rfl, rfl, h⟩
      · have h := h.2 c3
        refine r_aload_n 0 dX12_thing_31 rfl rfl ?_
        refine mg_68 rfl dX12_thing_32 ?_
        refine r_bipush_60 dX12_thing_35 ?_
        refine r_icmp_ne (tgt := 42) dX12_thing_37 (by decide) (fun c4 => ?_) (fun c4 => ?_)
        · have h := h.1 c4
          refine r_aload_n 0 dX12_thing_42 rfl rfl ?_
          refine mg_70 rfl dX12_thing_43 ?_
          refine r_aload_n 0 dX12_thing_46 rfl rfl ?_
          refine mg_68 rfl dX12_thing_47 ?_
          refine r_iload_n 1 dX12_thing_50 rfl rfl ?_
          obtain ⟨b5, h⟩ := h
          refine mt_70 b5 dX12_thing_51 ?_
          refine r_aload_n 0 dX12_thing_52 rfl rfl ?_
          refine mg_71 rfl dX12_thing_53 ?_
          refine r_aload_n 0 dX12_thing_56 rfl rfl ?_
          refine mg_68 rfl dX12_thing_57 ?_
          refine r_iload_n 2 dX12_thing_60 rfl rfl ?_
          refine mt_71 b5 dX12_thing_61 ?_
          refine r_aload_n 0 dX12_thing_62 rfl rfl ?_
          refine mg_72 rfl dX12_thing_63 ?_
          refine r_aload_n 0 dX12_thing_66 rfl rfl ?_
          refine mg_68 rfl dX12_thing_67 ?_
          refine r_iload_n 3 dX12_thing_70 rfl rfl ?_
          refine mt_72 b5 dX12_thing_71 ?_
          refine r_aload_n 0 dX12_thing_72 rfl rfl ?_
          refine r_aload_n 0 dX12_thing_73 rfl rfl ?_
          refine mg_68 rfl dX12_thing_74 ?_
          refine r_iconst_1 dX12_thing_77 ?_
          refine r_iadd dX12_thing_78 ?_
          refine mq_68 rfl dX12_thing_79 ?_
          refine r_aload_n 0 dX12_thing_82 rfl rfl ?_
          refine mg_68 rfl dX12_thing_83 ?_
          refine r_iconst_1 dX12_thing_86 ?_
          refine r_isub dX12_thing_87 ?_
          exact r_iret dX12_thing_88 rfl (Nat.le_refl _) (Nat.le_refl _) ⟨_, _, rfl, rfl, h⟩
        · have h := h.2 c4
          refine r_iconst_m1 dX12_thing_40 ?_
          exact r_iret dX12_thing_41 rfl (Nat.le_refl _) (Nat.le_refl _) ⟨_, _, rfl, rfl, h⟩
set_option maxRecDepth 20000 in
theorem en_gone {E : EvT} {q : Nat → Nat} {d : Nat} {x1 : Int32} {x2 : Int32} {S : StM} {P : Bool → StM → Prop} (h : ((mThing S x1) = false → (P false S)) ∧ ((mThing S x1) = true → ((0 ≤ x1 ∧ x1 < 60) ∧ ((¬ (a_isGone S (ix x1)) = x2 → (P true (sA S 76 (upd (a_isGone S) (ix x1) (vp_nar .boolean x2))))) ∧ ((a_isGone S (ix x1)) = x2 → (P false S)))))) : C_gone E q (d + 1) x1 x2 S P := by
  refine Cn.of rfl (Nat.le_of_ble_eq_true rfl) (ls := [(0, .ref (q 0)), (1, .int (x1)), (2, .int (x2))]) rfl ?_
  refine r_aload_n 0 dX12_gone_0 rfl rfl ?_
  refine r_iload_n 1 dX12_gone_1 rfl rfl ?_
  refine KP_isThing (d := d + 0)  rfl (Nat.le_of_ble_eq_true rfl) dX12_gone_2 ?_
  refine r_if_eqb (tgt := 18) dX12_gone_5 (by decide) (fun c1 => ?_) (fun c1 => ?_)
  · have h := h.1 c1
    refine r_iconst_0 dX12_gone_18 ?_
    exact r_zret0 dX12_gone_19 rfl (Nat.le_refl _) (Nat.le_refl _) ⟨_, _, rfl, rfl, h⟩
  · have h := h.2 c1
    refine r_aload_n 0 dX12_gone_8 rfl rfl ?_
    refine mg_76 rfl dX12_gone_9 ?_
    refine r_iload_n 1 dX12_gone_12 rfl rfl ?_
    obtain ⟨b2, h⟩ := h
    refine ml_76 b2 dX12_gone_13 ?_
    refine r_iload_n 2 dX12_gone_14 rfl rfl ?_
    refine r_icmp_ne (tgt := 20) dX12_gone_15 (by decide) (fun c3 => ?_) (fun c3 => ?_)
    · have h := h.1 c3
      refine r_aload_n 0 dX12_gone_20 rfl rfl ?_
      refine mg_76 rfl dX12_gone_21 ?_
      refine r_iload_n 1 dX12_gone_24 rfl rfl ?_
      refine r_iload_n 2 dX12_gone_25 rfl rfl ?_
      refine mt_76 b2 dX12_gone_26 ?_
      refine r_iconst_1 dX12_gone_27 ?_
      exact r_zret1 dX12_gone_28 rfl (Nat.le_refl _) (Nat.le_refl _) ⟨_, _, rfl, rfl, h⟩
    · have h := h.2 c3
      refine r_iconst_0 dX12_gone_18 ?_
      exact r_zret0 dX12_gone_19 rfl (Nat.le_refl _) (Nat.le_refl _) ⟨_, _, rfl, rfl, h⟩
abbrev T_agreeing_6 (E : EvT) (q : Nat → Nat) (D : Nat) (P : Int32 → StM → Prop) (S : StM) (y1 : Int32) (y2 : Int32) (y3 : Int32) (y4 : Int32) : Prop := RM E q iM_agreeing D (qI E q P) S [(0, .ref (q 0)), (1, .int (y1)), (2, .int (y2)), (3, .int (y3)), (4, .int (y4))] [] 6
set_option maxRecDepth 20000 in
theorem en_agreeing {E : EvT} {q : Nat → Nat} {d : Nat} {x1 : Int32} {x2 : Int32} {S : StM} {P : Int32 → StM → Prop} (h : T_agreeing_6 E q d P S x1 x2 8 0) : C_agreeing E q d x1 x2 S P := by
  refine Cn.of rfl (Nat.le_of_ble_eq_true rfl) (ls := [(0, .ref (q 0)), (1, .int (x1)), (2, .int (x2))]) rfl ?_
  refine r_bipush_8 dX12_agreeing_0 ?_
  refine r_istore_n [(3, .int (8)), (0, .ref (q 0)), (1, .int (x1)), (2, .int (x2))] dX12_agreeing_2 rfl (Nat.le_of_ble_eq_true rfl) rfl ?_
  refine r_iconst_0 dX12_agreeing_3 ?_
  refine r_istore [(4, .int (0)), (3, .int (8)), (0, .ref (q 0)), (1, .int (x1)), (2, .int (x2))] dX12_agreeing_4 (Nat.le_of_ble_eq_true rfl) rfl ?_
  refine r_ls [2, 3, 4, 1, 0] (ls2 := [(0, .ref (q 0)), (1, .int (x1)), (2, .int (x2)), (3, .int (8)), (4, .int (0))]) rfl ?_
  exact h
set_option maxRecDepth 20000 in
theorem sg_agreeing_6 {E : EvT} {q : Nat → Nat} {d : Nat} {S : StM} {P : Int32 → StM → Prop} {y1 : Int32} {y2 : Int32} {y3 : Int32} {y4 : Int32} (h : (8 ≤ y4 → (P y3 S)) ∧ (¬ 8 ≤ y4 → ((0 ≤ y1 ∧ y1 < 150) ∧ ((0 ≤ y2 ∧ y2 < 60) ∧ (∀ v4, v4 = y3 - ((((a_findMarks S (ix y1)) ^^^ (a_thingMarks S (ix y2))) >>> (y4 &&& 31)) &&& 1) → (T_agreeing_6 E q d P S y1 y2 v4 (y4 + 1))))))) : T_agreeing_6 E q d P S y1 y2 y3 y4 := by
  refine r_iload 4 dX12_agreeing_6 rfl ?_
  refine r_bipush_8 dX12_agreeing_8 ?_
  refine r_icmp_ge (tgt := 40) dX12_agreeing_10 (by decide) (fun c1 => ?_) (fun c1 => ?_)
  · have h := h.1 c1
    refine r_iload_n 3 dX12_agreeing_40 rfl rfl ?_
    exact r_iret dX12_agreeing_41 rfl (Nat.le_refl _) (Nat.le_refl _) ⟨_, _, rfl, rfl, h⟩
  · have h := h.2 c1
    refine r_iload_n 3 dX12_agreeing_13 rfl rfl ?_
    refine r_aload_n 0 dX12_agreeing_14 rfl rfl ?_
    refine mg_66 rfl dX12_agreeing_15 ?_
    refine r_iload_n 1 dX12_agreeing_18 rfl rfl ?_
    obtain ⟨b2, h⟩ := h
    refine ml_66 b2 dX12_agreeing_19 ?_
    refine r_aload_n 0 dX12_agreeing_20 rfl rfl ?_
    refine mg_72 rfl dX12_agreeing_21 ?_
    refine r_iload_n 2 dX12_agreeing_24 rfl rfl ?_
    obtain ⟨b3, h⟩ := h
    refine ml_72 b3 dX12_agreeing_25 ?_
    refine r_ixor dX12_agreeing_26 ?_
    refine r_iload 4 dX12_agreeing_27 rfl ?_
    refine r_ishr dX12_agreeing_29 ?_
    refine r_iconst_1 dX12_agreeing_30 ?_
    refine r_iand dX12_agreeing_31 ?_
    refine r_isub dX12_agreeing_32 ?_
    refine r_nm (fun v4 ev4 => ?_)
    have h := h v4 ev4
    refine r_istore_n [(3, .int (v4)), (0, .ref (q 0)), (1, .int (y1)), (2, .int (y2)), (4, .int (y4))] dX12_agreeing_33 rfl (Nat.le_of_ble_eq_true rfl) rfl ?_
    refine r_iinc 4 [(4, .int (y4 + 1)), (3, .int (v4)), (0, .ref (q 0)), (1, .int (y1)), (2, .int (y2))] dX12_agreeing_34 rfl rfl (Nat.le_of_ble_eq_true rfl) rfl ?_
    refine r_goto (tgt := 6) dX12_agreeing_37 (by decide) ?_
    refine r_ls [2, 3, 4, 1, 0] (ls2 := [(0, .ref (q 0)), (1, .int (y1)), (2, .int (y2)), (3, .int (v4)), (4, .int (y4 + 1))]) rfl ?_
    exact h
set_option maxRecDepth 20000 in
theorem en_couldBe {E : EvT} {q : Nat → Nat} {d : Nat} {x1 : Int32} {x2 : Int32} {S : StM} {P : Bool → StM → Prop} (h : (0 ≤ x1 ∧ x1 < 150) ∧ ((0 ≤ x2 ∧ x2 < 60) ∧ (((a_findKind S (ix x1)) = (a_thingKind S (ix x2)) → (C_setsFacts E q (d + 3) (a_findFrom S (ix x1)) (a_findHand S (ix x1)) (a_findKind S (ix x1)) (a_findMarks S (ix x1)) (-1) S (fun S5 => C_agreeing E q (d + 3) x1 x2 S5 (fun r6 S7 => C_numberBy E q (d + 3) 97 8 S7 (fun r8 S9 => (r6 < r8 → (P false S9)) ∧ (¬ r6 < r8 → (P true S9))))))) ∧ (¬ (a_findKind S (ix x1)) = (a_thingKind S (ix x2)) → (P false S))))) : C_couldBe E q (d + 4) x1 x2 S P := by
  refine Cn.of rfl (Nat.le_of_ble_eq_true rfl) (ls := [(0, .ref (q 0)), (1, .int (x1)), (2, .int (x2))]) rfl ?_
  refine r_aload_n 0 dX12_couldBe_0 rfl rfl ?_
  refine mg_65 rfl dX12_couldBe_1 ?_
  refine r_iload_n 1 dX12_couldBe_4 rfl rfl ?_
  obtain ⟨b1, h⟩ := h
  refine ml_65 b1 dX12_couldBe_5 ?_
  refine r_aload_n 0 dX12_couldBe_6 rfl rfl ?_
  refine mg_71 rfl dX12_couldBe_7 ?_
  refine r_iload_n 2 dX12_couldBe_10 rfl rfl ?_
  obtain ⟨b2, h⟩ := h
  refine ml_71 b2 dX12_couldBe_11 ?_
  refine r_icmp_eq (tgt := 17) dX12_couldBe_12 (by decide) (fun c3 => ?_) (fun c3 => ?_)
  · have h := h.1 c3
    refine r_aload_n 0 dX12_couldBe_17 rfl rfl ?_
    refine r_aload_n 0 dX12_couldBe_18 rfl rfl ?_
    refine mg_60 rfl dX12_couldBe_19 ?_
    refine r_iload_n 1 dX12_couldBe_22 rfl rfl ?_
    refine ml_60 b1 dX12_couldBe_23 ?_
    refine r_aload_n 0 dX12_couldBe_24 rfl rfl ?_
    refine mg_59 rfl dX12_couldBe_25 ?_
    refine r_iload_n 1 dX12_couldBe_28 rfl rfl ?_
    refine ml_59 b1 dX12_couldBe_29 ?_
    refine r_aload_n 0 dX12_couldBe_30 rfl rfl ?_
    refine mg_65 rfl dX12_couldBe_31 ?_
    refine r_iload_n 1 dX12_couldBe_34 rfl rfl ?_
    refine ml_65 b1 dX12_couldBe_35 ?_
    refine r_aload_n 0 dX12_couldBe_36 rfl rfl ?_
    refine mg_66 rfl dX12_couldBe_37 ?_
    refine r_iload_n 1 dX12_couldBe_40 rfl rfl ?_
    refine ml_66 b1 dX12_couldBe_41 ?_
    refine r_iconst_m1 dX12_couldBe_42 ?_
    refine K_setsFacts rfl (Nat.le_of_ble_eq_true rfl) dX12_couldBe_43 (mV h (fun S5 h => ?_))
    refine r_aload_n 0 dX12_couldBe_46 rfl rfl ?_
    refine r_iload_n 1 dX12_couldBe_47 rfl rfl ?_
    refine r_iload_n 2 dX12_couldBe_48 rfl rfl ?_
    refine K_agreeing rfl (Nat.le_of_ble_eq_true rfl) dX12_couldBe_49 (mI h (fun r6 S7 h => ?_))
    refine r_aload_n 0 dX12_couldBe_52 rfl rfl ?_
    refine r_bipush_97 dX12_couldBe_53 ?_
    refine r_bipush_8 dX12_couldBe_55 ?_
    refine K_numberBy rfl (Nat.le_of_ble_eq_true rfl) dX12_couldBe_57 (mI h (fun r8 S9 h => ?_))
    refine r_icmp_lt (tgt := 67) dX12_couldBe_60 (by decide) (fun c10 => ?_) (fun c10 => ?_)
    · have h := h.1 c10
      refine r_iconst_0 dX12_couldBe_67 ?_
      exact r_zret0 dX12_couldBe_68 rfl (Nat.le_refl _) (Nat.le_refl _) ⟨_, _, rfl, rfl, h⟩
    · have h := h.2 c10
      refine r_iconst_1 dX12_couldBe_63 ?_
      refine r_goto (tgt := 68) dX12_couldBe_64 (by decide) ?_
      exact r_zret1 dX12_couldBe_68 rfl (Nat.le_refl _) (Nat.le_refl _) ⟨_, _, rfl, rfl, h⟩
  · have h := h.2 c3
    refine r_iconst_0 dX12_couldBe_15 ?_
    exact r_zret0 dX12_couldBe_16 rfl (Nat.le_refl _) (Nat.le_refl _) ⟨_, _, rfl, rfl, h⟩
set_option maxRecDepth 20000 in
theorem en_isLike {E : EvT} {q : Nat → Nat} {d : Nat} {x1 : Int32} {x2 : Int32} {S : StM} {P : Bool → StM → Prop} (h : (0 ≤ x2 ∧ x2 < 60) ∧ ((¬ (a_isGone S (ix x2)) = 0 → (P false S)) ∧ ((a_isGone S (ix x2)) = 0 → (C_couldBe E q (d + 4) x1 x2 S (fun r3 S4 => (r3 = false → (P false S4)) ∧ (r3 = true → (P true S4))))))) : C_isLike E q (d + 5) x1 x2 S P := by
  refine Cn.of rfl (Nat.le_of_ble_eq_true rfl) (ls := [(0, .ref (q 0)), (1, .int (x1)), (2, .int (x2))]) rfl ?_
  refine r_aload_n 0 dX12_isLike_0 rfl rfl ?_
  refine mg_76 rfl dX12_isLike_1 ?_
  refine r_iload_n 2 dX12_isLike_4 rfl rfl ?_
  obtain ⟨b1, h⟩ := h
  refine ml_76 b1 dX12_isLike_5 ?_
  refine r_if_ne (tgt := 22) dX12_isLike_6 (by decide) (fun c2 => ?_) (fun c2 => ?_)
  · have h := h.1 c2
    refine r_iconst_0 dX12_isLike_22 ?_
    exact r_zret0 dX12_isLike_23 rfl (Nat.le_refl _) (Nat.le_refl _) ⟨_, _, rfl, rfl, h⟩
  · have h := h.2 c2
    refine r_aload_n 0 dX12_isLike_9 rfl rfl ?_
    refine r_iload_n 1 dX12_isLike_10 rfl rfl ?_
    refine r_iload_n 2 dX12_isLike_11 rfl rfl ?_
    refine K_couldBe rfl (Nat.le_of_ble_eq_true rfl) dX12_isLike_12 (mB h (fun r3 S4 h => ?_))
    refine r_if_eqb (tgt := 22) dX12_isLike_15 (by decide) (fun c5 => ?_) (fun c5 => ?_)
    · have h := h.1 c5
      refine r_iconst_0 dX12_isLike_22 ?_
      exact r_zret0 dX12_isLike_23 rfl (Nat.le_refl _) (Nat.le_refl _) ⟨_, _, rfl, rfl, h⟩
    · have h := h.2 c5
      refine r_iconst_1 dX12_isLike_18 ?_
      refine r_goto (tgt := 23) dX12_isLike_19 (by decide) ?_
      exact r_zret1 dX12_isLike_23 rfl (Nat.le_refl _) (Nat.le_refl _) ⟨_, _, rfl, rfl, h⟩
set_option maxRecDepth 20000 in
theorem en_like {E : EvT} {q : Nat → Nat} {d : Nat} {x1 : Int32} {x2 : Int32} {S : StM} {P : Int32 → StM → Prop} (h : ((mFind S x1) = false → (P (-1) S)) ∧ ((mFind S x1) = true → (((mThing S x2) = true → (C_isLike E q (d + 5) x1 x2 S (fun r3 S4 => (r3 = false → (P 0 S4)) ∧ (r3 = true → (P 1 S4))))) ∧ ((mThing S x2) = false → (P (-1) S))))) : C_like E q (d + 6) x1 x2 S P := by
  refine Cn.of rfl (Nat.le_of_ble_eq_true rfl) (ls := [(0, .ref (q 0)), (1, .int (x1)), (2, .int (x2))]) rfl ?_
  refine r_aload_n 0 dX12_like_0 rfl rfl ?_
  refine r_iload_n 1 dX12_like_1 rfl rfl ?_
  refine KP_isFind (d := d + 5)  rfl (Nat.le_of_ble_eq_true rfl) dX12_like_2 ?_
  refine r_if_eqb (tgt := 16) dX12_like_5 (by decide) (fun c1 => ?_) (fun c1 => ?_)
  · have h := h.1 c1
    refine r_iconst_m1 dX12_like_16 ?_
    exact r_iret dX12_like_17 rfl (Nat.le_refl _) (Nat.le_refl _) ⟨_, _, rfl, rfl, h⟩
  · have h := h.2 c1
    refine r_aload_n 0 dX12_like_8 rfl rfl ?_
    refine r_iload_n 2 dX12_like_9 rfl rfl ?_
    refine KP_isThing (d := d + 5)  rfl (Nat.le_of_ble_eq_true rfl) dX12_like_10 ?_
    refine r_if_neb (tgt := 18) dX12_like_13 (by decide) (fun c2 => ?_) (fun c2 => ?_)
    · have h := h.1 c2
      refine r_aload_n 0 dX12_like_18 rfl rfl ?_
      refine r_iload_n 1 dX12_like_19 rfl rfl ?_
      refine r_iload_n 2 dX12_like_20 rfl rfl ?_
      refine K_isLike rfl (Nat.le_of_ble_eq_true rfl) dX12_like_21 (mB h (fun r3 S4 h => ?_))
      refine r_if_eqb (tgt := 31) dX12_like_24 (by decide) (fun c5 => ?_) (fun c5 => ?_)
      · have h := h.1 c5
        refine r_iconst_0 dX12_like_31 ?_
        exact r_iret dX12_like_32 rfl (Nat.le_refl _) (Nat.le_refl _) ⟨_, _, rfl, rfl, h⟩
      · have h := h.2 c5
        refine r_iconst_1 dX12_like_27 ?_
        refine r_goto (tgt := 32) dX12_like_28 (by decide) ?_
        exact r_iret dX12_like_32 rfl (Nat.le_refl _) (Nat.le_refl _) ⟨_, _, rfl, rfl, h⟩
    · have h := h.2 c2
      refine r_iconst_m1 dX12_like_16 ?_
      exact r_iret dX12_like_17 rfl (Nat.le_refl _) (Nat.le_refl _) ⟨_, _, rfl, rfl, h⟩
abbrev T_hearsFinds_2 (E : EvT) (q : Nat → Nat) (D : Nat) (P : Bool → StM → Prop) (S : StM) (y1 : Int32) (y2 : Int32) : Prop := RM E q iM_hearsFinds D (qB E q P) S [(0, .ref (q 0)), (1, .int (y1)), (2, .int (y2))] [] 2
abbrev T_hearsFinds_40 (E : EvT) (q : Nat → Nat) (D : Nat) (P : Bool → StM → Prop) (S : StM) (y1 : Int32) (y2 : Int32) (y3 : Int32) : Prop := RM E q iM_hearsFinds D (qB E q P) S [(0, .ref (q 0)), (1, .int (y1)), (2, .int (y2)), (3, .int (y3))] [] 40
set_option maxRecDepth 20000 in
theorem en_hearsFinds {E : EvT} {q : Nat → Nat} {d : Nat} {x1 : Int32} {S : StM} {P : Bool → StM → Prop} (h : T_hearsFinds_2 E q (d + 1) P S x1 0) : C_hearsFinds E q (d + 1) x1 S P := by
  refine Cn.of rfl (Nat.le_of_ble_eq_true rfl) (ls := [(0, .ref (q 0)), (1, .int (x1))]) rfl ?_
  refine r_iconst_0 dX12_hearsFinds_0 ?_
  refine r_istore_n [(2, .int (0)), (0, .ref (q 0)), (1, .int (x1))] dX12_hearsFinds_1 rfl (Nat.le_of_ble_eq_true rfl) rfl ?_
  refine r_ls [1, 2, 0] (ls2 := [(0, .ref (q 0)), (1, .int (x1)), (2, .int (0))]) rfl ?_
  exact h
set_option maxRecDepth 20000 in
theorem sg_hearsFinds_2 {E : EvT} {q : Nat → Nat} {d : Nat} {S : StM} {P : Bool → StM → Prop} {y1 : Int32} {y2 : Int32} (h : (y1 ≤ y2 → (P true S)) ∧ (¬ y1 ≤ y2 → ((0 ≤ y2 ∧ y2 < 400) ∧ ((0 ≤ y2 ∧ y2 < 100) ∧ (((mFind (sA S 73 (upd (a_told S) (ix y2) ((a_tape S (ix y2)) &&& 255))) ((upd (a_told S) (ix y2) ((a_tape S (ix y2)) &&& 255)) (ix y2))) = true → (T_hearsFinds_40 E q (d + 1) P (sA S 73 (upd (a_told S) (ix y2) ((a_tape S (ix y2)) &&& 255))) y1 y2 0)) ∧ ((mFind (sA S 73 (upd (a_told S) (ix y2) ((a_tape S (ix y2)) &&& 255))) ((upd (a_told S) (ix y2) ((a_tape S (ix y2)) &&& 255)) (ix y2))) = false → (P false (sA S 73 (upd (a_told S) (ix y2) ((a_tape S (ix y2)) &&& 255)))))))))) : T_hearsFinds_2 E q (d + 1) P S y1 y2 := by
  refine r_iload_n 2 dX12_hearsFinds_2 rfl rfl ?_
  refine r_iload_n 1 dX12_hearsFinds_3 rfl rfl ?_
  refine r_icmp_ge (tgt := 74) dX12_hearsFinds_4 (by decide) (fun c1 => ?_) (fun c1 => ?_)
  · have h := h.1 c1
    refine r_iconst_1 dX12_hearsFinds_74 ?_
    exact r_zret1 dX12_hearsFinds_75 rfl (Nat.le_refl _) (Nat.le_refl _) ⟨_, _, rfl, rfl, h⟩
  · have h := h.2 c1
    refine r_aload_n 0 dX12_hearsFinds_7 rfl rfl ?_
    refine mg_73 rfl dX12_hearsFinds_8 ?_
    refine r_iload_n 2 dX12_hearsFinds_11 rfl rfl ?_
    refine r_aload_n 0 dX12_hearsFinds_12 rfl rfl ?_
    refine mg_27 rfl dX12_hearsFinds_13 ?_
    refine r_iload_n 2 dX12_hearsFinds_16 rfl rfl ?_
    obtain ⟨b2, h⟩ := h
    refine ml_27 b2 dX12_hearsFinds_17 ?_
    refine r_sipush_255 dX12_hearsFinds_18 ?_
    refine r_iand dX12_hearsFinds_21 ?_
    obtain ⟨b3, h⟩ := h
    refine mt_73 b3 dX12_hearsFinds_22 ?_
    refine r_aload_n 0 dX12_hearsFinds_23 rfl rfl ?_
    refine r_aload_n 0 dX12_hearsFinds_24 rfl rfl ?_
    refine mg_73 rfl dX12_hearsFinds_25 ?_
    refine r_iload_n 2 dX12_hearsFinds_28 rfl rfl ?_
    refine ml_73 b3 dX12_hearsFinds_29 ?_
    refine KP_isFind (d := d + 0)  rfl (Nat.le_of_ble_eq_true rfl) dX12_hearsFinds_30 ?_
    refine r_if_neb (tgt := 38) dX12_hearsFinds_33 (by decide) (fun c4 => ?_) (fun c4 => ?_)
    · have h := h.1 c4
      refine r_iconst_0 dX12_hearsFinds_38 ?_
      refine r_istore_n [(3, .int (0)), (0, .ref (q 0)), (1, .int (y1)), (2, .int (y2))] dX12_hearsFinds_39 rfl (Nat.le_of_ble_eq_true rfl) rfl ?_
      refine r_ls [1, 2, 3, 0] (ls2 := [(0, .ref (q 0)), (1, .int (y1)), (2, .int (y2)), (3, .int (0))]) rfl ?_
      exact h
    · have h := h.2 c4
      refine r_iconst_0 dX12_hearsFinds_36 ?_
      exact r_zret0 dX12_hearsFinds_37 rfl (Nat.le_refl _) (Nat.le_refl _) ⟨_, _, rfl, rfl, h⟩
set_option maxRecDepth 20000 in
theorem sg_hearsFinds_40 {E : EvT} {q : Nat → Nat} {d : Nat} {S : StM} {P : Bool → StM → Prop} {y1 : Int32} {y2 : Int32} {y3 : Int32} (h : (y2 ≤ y3 → (T_hearsFinds_2 E q (d + 1) P S y1 (y2 + 1))) ∧ (¬ y2 ≤ y3 → ((0 ≤ y3 ∧ y3 < 100) ∧ ((0 ≤ y2 ∧ y2 < 100) ∧ ((¬ (a_told S (ix y3)) = (a_told S (ix y2)) → (T_hearsFinds_40 E q (d + 1) P S y1 y2 (y3 + 1))) ∧ ((a_told S (ix y3)) = (a_told S (ix y2)) → (P false S))))))) : T_hearsFinds_40 E q (d + 1) P S y1 y2 y3 := by
  refine r_iload_n 3 dX12_hearsFinds_40 rfl rfl ?_
  refine r_iload_n 2 dX12_hearsFinds_41 rfl rfl ?_
  refine r_icmp_ge (tgt := 68) dX12_hearsFinds_42 (by decide) (fun c1 => ?_) (fun c1 => ?_)
  · have h := h.1 c1
    refine r_iinc 2 [(2, .int (y2 + 1)), (0, .ref (q 0)), (1, .int (y1)), (3, .int (y3))] dX12_hearsFinds_68 rfl rfl (Nat.le_of_ble_eq_true rfl) rfl ?_
    refine r_goto (tgt := 2) dX12_hearsFinds_71 (by decide) ?_
    refine r_ls [1, 2, 0] (ls2 := [(0, .ref (q 0)), (1, .int (y1)), (2, .int (y2 + 1))]) rfl ?_
    exact h
  · have h := h.2 c1
    refine r_aload_n 0 dX12_hearsFinds_45 rfl rfl ?_
    refine mg_73 rfl dX12_hearsFinds_46 ?_
    refine r_iload_n 3 dX12_hearsFinds_49 rfl rfl ?_
    obtain ⟨b2, h⟩ := h
    refine ml_73 b2 dX12_hearsFinds_50 ?_
    refine r_aload_n 0 dX12_hearsFinds_51 rfl rfl ?_
    refine mg_73 rfl dX12_hearsFinds_52 ?_
    refine r_iload_n 2 dX12_hearsFinds_55 rfl rfl ?_
    obtain ⟨b3, h⟩ := h
    refine ml_73 b3 dX12_hearsFinds_56 ?_
    refine r_icmp_ne (tgt := 62) dX12_hearsFinds_57 (by decide) (fun c4 => ?_) (fun c4 => ?_)
    · have h := h.1 c4
      refine r_iinc 3 [(3, .int (y3 + 1)), (0, .ref (q 0)), (1, .int (y1)), (2, .int (y2))] dX12_hearsFinds_62 rfl rfl (Nat.le_of_ble_eq_true rfl) rfl ?_
      refine r_goto (tgt := 40) dX12_hearsFinds_65 (by decide) ?_
      refine r_ls [1, 2, 3, 0] (ls2 := [(0, .ref (q 0)), (1, .int (y1)), (2, .int (y2)), (3, .int (y3 + 1))]) rfl ?_
      exact h
    · have h := h.2 c4
      refine r_iconst_0 dX12_hearsFinds_60 ?_
      exact r_zret0 dX12_hearsFinds_61 rfl (Nat.le_refl _) (Nat.le_refl _) ⟨_, _, rfl, rfl, h⟩
abbrev T_bestFrom_9 (E : EvT) (q : Nat → Nat) (D : Nat) (P : Int32 → StM → Prop) (S : StM) (y1 : Int32) (y2 : Int32) (y3 : Int32) (y4 : Int32) : Prop := RM E q iM_bestFrom D (qI E q P) S [(0, .ref (q 0)), (1, .int (y1)), (2, .int (y2)), (3, .int (y3)), (4, .int (y4))] [] 9
abbrev T_bestFrom_41 (E : EvT) (q : Nat → Nat) (D : Nat) (P : Int32 → StM → Prop) (S : StM) (y1 : Int32) (y2 : Int32) (y3 : Int32) (y4 : Int32) : Prop := RM E q iM_bestFrom D (qI E q P) S [(0, .ref (q 0)), (1, .int (y1)), (2, .int (y2)), (3, .int (y3)), (4, .int (y4))] [] 41
abbrev T_bestFrom_218 (E : EvT) (q : Nat → Nat) (D : Nat) (P : Int32 → StM → Prop) (S : StM) (y3 : Int32) (y4 : Int32) (y5 : Int32) : Prop := RM E q iM_bestFrom D (qI E q P) S [(0, .ref (q 0)), (3, .int (y3)), (4, .int (y4)), (5, .int (y5))] [] 218
abbrev T_bestFrom_55 (E : EvT) (q : Nat → Nat) (D : Nat) (P : Int32 → StM → Prop) (S : StM) (y1 : Int32) (y2 : Int32) (y3 : Int32) (y4 : Int32) (y5 : Int32) : Prop := RM E q iM_bestFrom D (qI E q P) S [(0, .ref (q 0)), (1, .int (y1)), (2, .int (y2)), (3, .int (y3)), (4, .int (y4)), (5, .int (y5))] [] 55
abbrev T_bestFrom_73 (E : EvT) (q : Nat → Nat) (D : Nat) (P : Int32 → StM → Prop) (S : StM) (y1 : Int32) (y2 : Int32) (y3 : Int32) (y4 : Int32) (y5 : Int32) (y6 : Int32) : Prop := RM E q iM_bestFrom D (qI E q P) S [(0, .ref (q 0)), (1, .int (y1)), (2, .int (y2)), (3, .int (y3)), (4, .int (y4)), (5, .int (y5)), (6, .int (y6))] [] 73
set_option maxRecDepth 20000 in
theorem en_bestFrom {E : EvT} {q : Nat → Nat} {d : Nat} {x1 : Int32} {x2 : Int32} {S : StM} {P : Int32 → StM → Prop} (h : T_bestFrom_9 E q d P S x1 x2 ((1 : Int32) <<< ((x2 - x1) &&& 31)) 0) : C_bestFrom E q d x1 x2 S P := by
  refine Cn.of rfl (Nat.le_of_ble_eq_true rfl) (ls := [(0, .ref (q 0)), (1, .int (x1)), (2, .int (x2))]) rfl ?_
  refine r_iconst_1 dX12_bestFrom_0 ?_
  refine r_iload_n 2 dX12_bestFrom_1 rfl rfl ?_
  refine r_iload_n 1 dX12_bestFrom_2 rfl rfl ?_
  refine r_isub dX12_bestFrom_3 ?_
  refine r_ishl dX12_bestFrom_4 ?_
  refine r_istore_n [(3, .int ((1 : Int32) <<< ((x2 - x1) &&& 31))), (0, .ref (q 0)), (1, .int (x1)), (2, .int (x2))] dX12_bestFrom_5 rfl (Nat.le_of_ble_eq_true rfl) rfl ?_
  refine r_iconst_0 dX12_bestFrom_6 ?_
  refine r_istore [(4, .int (0)), (3, .int ((1 : Int32) <<< ((x2 - x1) &&& 31))), (0, .ref (q 0)), (1, .int (x1)), (2, .int (x2))] dX12_bestFrom_7 (Nat.le_of_ble_eq_true rfl) rfl ?_
  refine r_ls [2, 3, 4, 1, 0] (ls2 := [(0, .ref (q 0)), (1, .int (x1)), (2, .int (x2)), (3, .int ((1 : Int32) <<< ((x2 - x1) &&& 31))), (4, .int (0))]) rfl ?_
  exact h
set_option maxRecDepth 20000 in
theorem sg_bestFrom_9 {E : EvT} {q : Nat → Nat} {d : Nat} {S : StM} {P : Int32 → StM → Prop} {y1 : Int32} {y2 : Int32} {y3 : Int32} {y4 : Int32} (h : (y3 ≤ y4 → (T_bestFrom_41 E q d P S y1 y2 y3 0)) ∧ (¬ y3 ≤ y4 → ((¬ y4 = 0 → ((0 ≤ y4 ∧ y4 < 256) ∧ (T_bestFrom_9 E q d P (sA S 75 (upd (a_mostBy S) (ix y4) (-1))) y1 y2 y3 (y4 + 1)))) ∧ (y4 = 0 → ((0 ≤ y4 ∧ y4 < 256) ∧ (T_bestFrom_9 E q d P (sA S 75 (upd (a_mostBy S) (ix y4) 0)) y1 y2 y3 (y4 + 1))))))) : T_bestFrom_9 E q d P S y1 y2 y3 y4 := by
  refine r_iload 4 dX12_bestFrom_9 rfl ?_
  refine r_iload_n 3 dX12_bestFrom_11 rfl rfl ?_
  refine r_icmp_ge (tgt := 38) dX12_bestFrom_12 (by decide) (fun c1 => ?_) (fun c1 => ?_)
  · have h := h.1 c1
    refine r_iconst_0 dX12_bestFrom_38 ?_
    refine r_istore [(4, .int (0)), (0, .ref (q 0)), (1, .int (y1)), (2, .int (y2)), (3, .int (y3))] dX12_bestFrom_39 (Nat.le_of_ble_eq_true rfl) rfl ?_
    refine r_ls [1, 2, 3, 4, 0] (ls2 := [(0, .ref (q 0)), (1, .int (y1)), (2, .int (y2)), (3, .int (y3)), (4, .int (0))]) rfl ?_
    exact h
  · have h := h.2 c1
    refine r_aload_n 0 dX12_bestFrom_15 rfl rfl ?_
    refine mg_75 rfl dX12_bestFrom_16 ?_
    refine r_iload 4 dX12_bestFrom_19 rfl ?_
    refine r_iload 4 dX12_bestFrom_21 rfl ?_
    refine r_if_ne (tgt := 30) dX12_bestFrom_23 (by decide) (fun c2 => ?_) (fun c2 => ?_)
    · have h := h.1 c2
      refine r_iconst_m1 dX12_bestFrom_30 ?_
      obtain ⟨b3, h⟩ := h
      refine mt_75 b3 dX12_bestFrom_31 ?_
      refine r_iinc 4 [(4, .int (y4 + 1)), (0, .ref (q 0)), (1, .int (y1)), (2, .int (y2)), (3, .int (y3))] dX12_bestFrom_32 rfl rfl (Nat.le_of_ble_eq_true rfl) rfl ?_
      refine r_goto (tgt := 9) dX12_bestFrom_35 (by decide) ?_
      refine r_ls [1, 2, 3, 4, 0] (ls2 := [(0, .ref (q 0)), (1, .int (y1)), (2, .int (y2)), (3, .int (y3)), (4, .int (y4 + 1))]) rfl ?_
      exact h
    · have h := h.2 c2
      refine r_iconst_0 dX12_bestFrom_26 ?_
      refine r_goto (tgt := 31) dX12_bestFrom_27 (by decide) ?_
      obtain ⟨b4, h⟩ := h
      refine mt_75 b4 dX12_bestFrom_31 ?_
      refine r_iinc 4 [(4, .int (y4 + 1)), (0, .ref (q 0)), (1, .int (y1)), (2, .int (y2)), (3, .int (y3))] dX12_bestFrom_32 rfl rfl (Nat.le_of_ble_eq_true rfl) rfl ?_
      refine r_goto (tgt := 9) dX12_bestFrom_35 (by decide) ?_
      refine r_ls [1, 2, 3, 4, 0] (ls2 := [(0, .ref (q 0)), (1, .int (y1)), (2, .int (y2)), (3, .int (y3)), (4, .int (y4 + 1))]) rfl ?_
      exact h
set_option maxRecDepth 20000 in
theorem sg_bestFrom_41 {E : EvT} {q : Nat → Nat} {d : Nat} {S : StM} {P : Int32 → StM → Prop} {y1 : Int32} {y2 : Int32} {y3 : Int32} {y4 : Int32} (h : ((s_things S) ≤ y4 → (T_bestFrom_218 E q d P S y3 0 0)) ∧ (¬ (s_things S) ≤ y4 → (T_bestFrom_55 E q d P S y1 y2 y3 y4 (y3 - 1)))) : T_bestFrom_41 E q d P S y1 y2 y3 y4 := by
  refine r_iload 4 dX12_bestFrom_41 rfl ?_
  refine r_aload_n 0 dX12_bestFrom_43 rfl rfl ?_
  refine mg_68 rfl dX12_bestFrom_44 ?_
  refine r_icmp_ge (tgt := 212) dX12_bestFrom_47 (by decide) (fun c1 => ?_) (fun c1 => ?_)
  · have h := h.1 c1
    refine r_iconst_0 dX12_bestFrom_212 ?_
    refine r_istore [(4, .int (0)), (0, .ref (q 0)), (1, .int (y1)), (2, .int (y2)), (3, .int (y3))] dX12_bestFrom_213 (Nat.le_of_ble_eq_true rfl) rfl ?_
    refine r_iconst_0 dX12_bestFrom_215 ?_
    refine r_istore [(5, .int (0)), (4, .int (0)), (0, .ref (q 0)), (1, .int (y1)), (2, .int (y2)), (3, .int (y3))] dX12_bestFrom_216 (Nat.le_of_ble_eq_true rfl) rfl ?_
    refine r_ls [2, 5, 1, 0] (ls2 := [(0, .ref (q 0)), (3, .int (y3)), (4, .int (0)), (5, .int (0))]) rfl ?_
    exact h
  · have h := h.2 c1
    refine r_iload_n 3 dX12_bestFrom_50 rfl rfl ?_
    refine r_iconst_1 dX12_bestFrom_51 ?_
    refine r_isub dX12_bestFrom_52 ?_
    refine r_istore [(5, .int (y3 - 1)), (0, .ref (q 0)), (1, .int (y1)), (2, .int (y2)), (3, .int (y3)), (4, .int (y4))] dX12_bestFrom_53 (Nat.le_of_ble_eq_true rfl) rfl ?_
    refine r_ls [1, 2, 3, 4, 5, 0] (ls2 := [(0, .ref (q 0)), (1, .int (y1)), (2, .int (y2)), (3, .int (y3)), (4, .int (y4)), (5, .int (y3 - 1))]) rfl ?_
    exact h
set_option maxRecDepth 20000 in
theorem sg_bestFrom_218 {E : EvT} {q : Nat → Nat} {d : Nat} {S : StM} {P : Int32 → StM → Prop} {y3 : Int32} {y4 : Int32} {y5 : Int32} (h : (y3 ≤ y5 → (P y4 S)) ∧ (¬ y3 ≤ y5 → ((0 ≤ y5 ∧ y5 < 256) ∧ (((a_mostBy S (ix y5)) ≤ y4 → (T_bestFrom_218 E q d P S y3 y4 (y5 + 1))) ∧ (¬ (a_mostBy S (ix y5)) ≤ y4 → (T_bestFrom_218 E q d P S y3 (a_mostBy S (ix y5)) (y5 + 1))))))) : T_bestFrom_218 E q d P S y3 y4 y5 := by
  refine r_iload 3 dX12_bestFrom_218 rfl ?_
  refine r_iload_n 1 dX12_bestFrom_220 rfl rfl ?_
  refine r_icmp_ge (tgt := 256) dX12_bestFrom_221 (by decide) (fun c1 => ?_) (fun c1 => ?_)
  · have h := h.1 c1
    refine r_iload 2 dX12_bestFrom_256 rfl ?_
    exact r_iret dX12_bestFrom_258 rfl (Nat.le_refl _) (Nat.le_refl _) ⟨_, _, rfl, rfl, h⟩
  · have h := h.2 c1
    refine r_aload_n 0 dX12_bestFrom_224 rfl rfl ?_
    refine mg_75 rfl dX12_bestFrom_225 ?_
    refine r_iload 3 dX12_bestFrom_228 rfl ?_
    obtain ⟨b2, h⟩ := h
    refine ml_75 b2 dX12_bestFrom_230 ?_
    refine r_iload 2 dX12_bestFrom_231 rfl ?_
    refine r_icmp_le (tgt := 246) dX12_bestFrom_233 (by decide) (fun c3 => ?_) (fun c3 => ?_)
    · have h := h.1 c3
      refine r_iload 2 dX12_bestFrom_246 rfl ?_
      refine r_istore [(4, .int (y4)), (0, .ref (q 0)), (3, .int (y3)), (5, .int (y5))] dX12_bestFrom_248 (Nat.le_of_ble_eq_true rfl) rfl ?_
      refine r_iinc 3 [(5, .int (y5 + 1)), (4, .int (y4)), (0, .ref (q 0)), (3, .int (y3))] dX12_bestFrom_250 rfl rfl (Nat.le_of_ble_eq_true rfl) rfl ?_
      refine r_goto (tgt := 218) dX12_bestFrom_253 (by decide) ?_
      refine r_ls [2, 3, 1, 0] (ls2 := [(0, .ref (q 0)), (3, .int (y3)), (4, .int (y4)), (5, .int (y5 + 1))]) rfl ?_
      exact h
    · have h := h.2 c3
      refine r_aload_n 0 dX12_bestFrom_236 rfl rfl ?_
      refine mg_75 rfl dX12_bestFrom_237 ?_
      refine r_iload 3 dX12_bestFrom_240 rfl ?_
      refine ml_75 b2 dX12_bestFrom_242 ?_
      refine r_goto (tgt := 248) dX12_bestFrom_243 (by decide) ?_
      refine r_istore [(4, .int (a_mostBy S (ix y5))), (0, .ref (q 0)), (3, .int (y3)), (5, .int (y5))] dX12_bestFrom_248 (Nat.le_of_ble_eq_true rfl) rfl ?_
      refine r_iinc 3 [(5, .int (y5 + 1)), (4, .int (a_mostBy S (ix y5))), (0, .ref (q 0)), (3, .int (y3))] dX12_bestFrom_250 rfl rfl (Nat.le_of_ble_eq_true rfl) rfl ?_
      refine r_goto (tgt := 218) dX12_bestFrom_253 (by decide) ?_
      refine r_ls [2, 3, 1, 0] (ls2 := [(0, .ref (q 0)), (3, .int (y3)), (4, .int (a_mostBy S (ix y5))), (5, .int (y5 + 1))]) rfl ?_
      exact h
set_option maxRecDepth 20000 in
theorem sg_bestFrom_55 {E : EvT} {q : Nat → Nat} {d : Nat} {S : StM} {P : Int32 → StM → Prop} {y1 : Int32} {y2 : Int32} {y3 : Int32} {y4 : Int32} {y5 : Int32} (h : (y5 ≤ 0 → (T_bestFrom_41 E q d P S y1 y2 y3 (y4 + 1))) ∧ (¬ y5 ≤ 0 → ((0 ≤ y4 ∧ y4 < 60) ∧ ((¬ (a_isUsed S (ix y4)) = 0 → (T_bestFrom_41 E q d P S y1 y2 y3 (y4 + 1))) ∧ ((a_isUsed S (ix y4)) = 0 → (T_bestFrom_73 E q d P S y1 y2 y3 y4 y5 0)))))) : T_bestFrom_55 E q d P S y1 y2 y3 y4 y5 := by
  refine r_iload 5 dX12_bestFrom_55 rfl ?_
  refine r_if_le (tgt := 206) dX12_bestFrom_57 (by decide) (fun c1 => ?_) (fun c1 => ?_)
  · have h := h.1 c1
    refine r_iinc 4 [(4, .int (y4 + 1)), (0, .ref (q 0)), (1, .int (y1)), (2, .int (y2)), (3, .int (y3)), (5, .int (y5))] dX12_bestFrom_206 rfl rfl (Nat.le_of_ble_eq_true rfl) rfl ?_
    refine r_goto (tgt := 41) dX12_bestFrom_209 (by decide) ?_
    refine r_ls [1, 2, 3, 4, 0] (ls2 := [(0, .ref (q 0)), (1, .int (y1)), (2, .int (y2)), (3, .int (y3)), (4, .int (y4 + 1))]) rfl ?_
    exact h
  · have h := h.2 c1
    refine r_aload_n 0 dX12_bestFrom_60 rfl rfl ?_
    refine mg_77 rfl dX12_bestFrom_61 ?_
    refine r_iload 4 dX12_bestFrom_64 rfl ?_
    obtain ⟨b2, h⟩ := h
    refine ml_77 b2 dX12_bestFrom_66 ?_
    refine r_if_ne (tgt := 206) dX12_bestFrom_67 (by decide) (fun c3 => ?_) (fun c3 => ?_)
    · have h := h.1 c3
      refine r_iinc 4 [(4, .int (y4 + 1)), (0, .ref (q 0)), (1, .int (y1)), (2, .int (y2)), (3, .int (y3)), (5, .int (y5))] dX12_bestFrom_206 rfl rfl (Nat.le_of_ble_eq_true rfl) rfl ?_
      refine r_goto (tgt := 41) dX12_bestFrom_209 (by decide) ?_
      refine r_ls [1, 2, 3, 4, 0] (ls2 := [(0, .ref (q 0)), (1, .int (y1)), (2, .int (y2)), (3, .int (y3)), (4, .int (y4 + 1))]) rfl ?_
      exact h
    · have h := h.2 c3
      refine r_iconst_0 dX12_bestFrom_70 ?_
      refine r_istore [(6, .int (0)), (0, .ref (q 0)), (1, .int (y1)), (2, .int (y2)), (3, .int (y3)), (4, .int (y4)), (5, .int (y5))] dX12_bestFrom_71 (Nat.le_of_ble_eq_true rfl) rfl ?_
      refine r_ls [1, 2, 3, 4, 5, 6, 0] (ls2 := [(0, .ref (q 0)), (1, .int (y1)), (2, .int (y2)), (3, .int (y3)), (4, .int (y4)), (5, .int (y5)), (6, .int (0))]) rfl ?_
      exact h
set_option maxRecDepth 20000 in
theorem sg_bestFrom_73 {E : EvT} {q : Nat → Nat} {d : Nat} {S : StM} {P : Int32 → StM → Prop} {y1 : Int32} {y2 : Int32} {y3 : Int32} {y4 : Int32} {y5 : Int32} {y6 : Int32} (h : ((y2 - y1) ≤ y6 → (T_bestFrom_55 E q d P S y1 y2 y3 y4 (y5 + (-1)))) ∧ (¬ (y2 - y1) ≤ y6 → ((((y5 >>> (y6 &&& 31)) &&& 1) = 0 → (T_bestFrom_73 E q d P S y1 y2 y3 y4 y5 (y6 + 1))) ∧ (¬ ((y5 >>> (y6 &&& 31)) &&& 1) = 0 → ((0 ≤ ((60 * (y1 + y6)) + y4) ∧ ((60 * (y1 + y6)) + y4) < 480) ∧ (((a_agree S (ix ((60 * (y1 + y6)) + y4))) = (-1) → (T_bestFrom_73 E q d P S y1 y2 y3 y4 y5 (y6 + 1))) ∧ (¬ (a_agree S (ix ((60 * (y1 + y6)) + y4))) = (-1) → ((0 ≤ (y5 ^^^ ((1 : Int32) <<< (y6 &&& 31))) ∧ (y5 ^^^ ((1 : Int32) <<< (y6 &&& 31))) < 256) ∧ ((¬ (a_mostBy S (ix (y5 ^^^ ((1 : Int32) <<< (y6 &&& 31))))) = (-1) → (∀ v7, v7 = ((a_mostBy S (ix (y5 ^^^ ((1 : Int32) <<< (y6 &&& 31))))) + 1000) + (a_agree S (ix ((60 * (y1 + y6)) + y4))) → ((0 ≤ y5 ∧ y5 < 256) ∧ ((v7 ≤ (a_mostBy S (ix y5)) → (T_bestFrom_73 E q d P (sA S 75 (upd (a_mostBy S) (ix y5) (a_mostBy S (ix y5)))) y1 y2 y3 y4 y5 (y6 + 1))) ∧ (¬ v7 ≤ (a_mostBy S (ix y5)) → (T_bestFrom_73 E q d P (sA S 75 (upd (a_mostBy S) (ix y5) v7)) y1 y2 y3 y4 y5 (y6 + 1))))))) ∧ ((a_mostBy S (ix (y5 ^^^ ((1 : Int32) <<< (y6 &&& 31))))) = (-1) → (T_bestFrom_73 E q d P S y1 y2 y3 y4 y5 (y6 + 1)))))))))))) : T_bestFrom_73 E q d P S y1 y2 y3 y4 y5 y6 := by
  refine r_iload 6 dX12_bestFrom_73 rfl ?_
  refine r_iload_n 2 dX12_bestFrom_75 rfl rfl ?_
  refine r_iload_n 1 dX12_bestFrom_76 rfl rfl ?_
  refine r_isub dX12_bestFrom_77 ?_
  refine r_icmp_ge (tgt := 200) dX12_bestFrom_78 (by decide) (fun c1 => ?_) (fun c1 => ?_)
  · have h := h.1 c1
    refine r_iinc 5 [(5, .int (y5 + (-1))), (0, .ref (q 0)), (1, .int (y1)), (2, .int (y2)), (3, .int (y3)), (4, .int (y4)), (6, .int (y6))] dX12_bestFrom_200 rfl rfl (Nat.le_of_ble_eq_true rfl) rfl ?_
    refine r_goto (tgt := 55) dX12_bestFrom_203 (by decide) ?_
    refine r_ls [1, 2, 3, 4, 5, 0] (ls2 := [(0, .ref (q 0)), (1, .int (y1)), (2, .int (y2)), (3, .int (y3)), (4, .int (y4)), (5, .int (y5 + (-1)))]) rfl ?_
    exact h
  · have h := h.2 c1
    refine r_iload 5 dX12_bestFrom_81 rfl ?_
    refine r_iload 6 dX12_bestFrom_83 rfl ?_
    refine r_ishr dX12_bestFrom_85 ?_
    refine r_iconst_1 dX12_bestFrom_86 ?_
    refine r_iand dX12_bestFrom_87 ?_
    refine r_if_eq (tgt := 194) dX12_bestFrom_88 (by decide) (fun c2 => ?_) (fun c2 => ?_)
    · have h := h.1 c2
      refine r_iinc 6 [(6, .int (y6 + 1)), (0, .ref (q 0)), (1, .int (y1)), (2, .int (y2)), (3, .int (y3)), (4, .int (y4)), (5, .int (y5))] dX12_bestFrom_194 rfl rfl (Nat.le_of_ble_eq_true rfl) rfl ?_
      refine r_goto (tgt := 73) dX12_bestFrom_197 (by decide) ?_
      refine r_ls [1, 2, 3, 4, 5, 6, 0] (ls2 := [(0, .ref (q 0)), (1, .int (y1)), (2, .int (y2)), (3, .int (y3)), (4, .int (y4)), (5, .int (y5)), (6, .int (y6 + 1))]) rfl ?_
      exact h
    · have h := h.2 c2
      refine r_aload_n 0 dX12_bestFrom_91 rfl rfl ?_
      refine mg_78 rfl dX12_bestFrom_92 ?_
      refine r_bipush_60 dX12_bestFrom_95 ?_
      refine r_iload_n 1 dX12_bestFrom_97 rfl rfl ?_
      refine r_iload 6 dX12_bestFrom_98 rfl ?_
      refine r_iadd dX12_bestFrom_100 ?_
      refine r_imul dX12_bestFrom_101 ?_
      refine r_iload 4 dX12_bestFrom_102 rfl ?_
      refine r_iadd dX12_bestFrom_104 ?_
      obtain ⟨b3, h⟩ := h
      refine ml_78 b3 dX12_bestFrom_105 ?_
      refine r_iconst_m1 dX12_bestFrom_106 ?_
      refine r_icmp_eq (tgt := 194) dX12_bestFrom_107 (by decide) (fun c4 => ?_) (fun c4 => ?_)
      · have h := h.1 c4
        refine r_iinc 6 [(6, .int (y6 + 1)), (0, .ref (q 0)), (1, .int (y1)), (2, .int (y2)), (3, .int (y3)), (4, .int (y4)), (5, .int (y5))] dX12_bestFrom_194 rfl rfl (Nat.le_of_ble_eq_true rfl) rfl ?_
        refine r_goto (tgt := 73) dX12_bestFrom_197 (by decide) ?_
        refine r_ls [1, 2, 3, 4, 5, 6, 0] (ls2 := [(0, .ref (q 0)), (1, .int (y1)), (2, .int (y2)), (3, .int (y3)), (4, .int (y4)), (5, .int (y5)), (6, .int (y6 + 1))]) rfl ?_
        exact h
      · have h := h.2 c4
        refine r_aload_n 0 dX12_bestFrom_110 rfl rfl ?_
        refine mg_75 rfl dX12_bestFrom_111 ?_
        refine r_iload 5 dX12_bestFrom_114 rfl ?_
        refine r_iconst_1 dX12_bestFrom_116 ?_
        refine r_iload 6 dX12_bestFrom_117 rfl ?_
        refine r_ishl dX12_bestFrom_119 ?_
        refine r_ixor dX12_bestFrom_120 ?_
        obtain ⟨b5, h⟩ := h
        refine ml_75 b5 dX12_bestFrom_121 ?_
        refine r_iconst_m1 dX12_bestFrom_122 ?_
        refine r_icmp_ne (tgt := 129) dX12_bestFrom_123 (by decide) (fun c6 => ?_) (fun c6 => ?_)
        · have h := h.1 c6
          refine r_aload_n 0 dX12_bestFrom_129 rfl rfl ?_
          refine mg_75 rfl dX12_bestFrom_130 ?_
          refine r_iload 5 dX12_bestFrom_133 rfl ?_
          refine r_iconst_1 dX12_bestFrom_135 ?_
          refine r_iload 6 dX12_bestFrom_136 rfl ?_
          refine r_ishl dX12_bestFrom_138 ?_
          refine r_ixor dX12_bestFrom_139 ?_
          refine ml_75 b5 dX12_bestFrom_140 ?_
          refine r_sipush_1000 dX12_bestFrom_141 ?_
          refine r_iadd dX12_bestFrom_144 ?_
          refine r_aload_n 0 dX12_bestFrom_145 rfl rfl ?_
          refine mg_78 rfl dX12_bestFrom_146 ?_
          refine r_bipush_60 dX12_bestFrom_149 ?_
          refine r_iload_n 1 dX12_bestFrom_151 rfl rfl ?_
          refine r_iload 6 dX12_bestFrom_152 rfl ?_
          refine r_iadd dX12_bestFrom_154 ?_
          refine r_imul dX12_bestFrom_155 ?_
          refine r_iload 4 dX12_bestFrom_156 rfl ?_
          refine r_iadd dX12_bestFrom_158 ?_
          refine ml_78 b3 dX12_bestFrom_159 ?_
          refine r_iadd dX12_bestFrom_160 ?_
          refine r_nm (fun v7 ev7 => ?_)
          have h := h v7 ev7
          refine r_istore [(7, .int (v7)), (0, .ref (q 0)), (1, .int (y1)), (2, .int (y2)), (3, .int (y3)), (4, .int (y4)), (5, .int (y5)), (6, .int (y6))] dX12_bestFrom_161 (Nat.le_of_ble_eq_true rfl) rfl ?_
          refine r_aload_n 1 dX12_bestFrom_163 rfl rfl ?_
          refine mg_75 rfl dX12_bestFrom_164 ?_
          refine r_iload 6 dX12_bestFrom_167 rfl ?_
          refine r_iload 0 dX12_bestFrom_169 rfl ?_
          refine r_aload_n 1 dX12_bestFrom_171 rfl rfl ?_
          refine mg_75 rfl dX12_bestFrom_172 ?_
          refine r_iload 6 dX12_bestFrom_175 rfl ?_
          obtain ⟨b8, h⟩ := h
          refine ml_75 b8 dX12_bestFrom_177 ?_
          refine r_icmp_le (tgt := 186) dX12_bestFrom_178 (by decide) (fun c9 => ?_) (fun c9 => ?_)
          · have h := h.1 c9
            refine r_aload_n 1 dX12_bestFrom_186 rfl rfl ?_
            refine mg_75 rfl dX12_bestFrom_187 ?_
            refine r_iload 6 dX12_bestFrom_190 rfl ?_
            refine ml_75 b8 dX12_bestFrom_192 ?_
            refine mt_75 b8 dX12_bestFrom_193 ?_
            refine r_iinc 7 [(6, .int (y6 + 1)), (7, .int (v7)), (0, .ref (q 0)), (1, .int (y1)), (2, .int (y2)), (3, .int (y3)), (4, .int (y4)), (5, .int (y5))] dX12_bestFrom_194 rfl rfl (Nat.le_of_ble_eq_true rfl) rfl ?_
            refine r_goto (tgt := 73) dX12_bestFrom_197 (by decide) ?_
            refine r_ls [2, 3, 4, 5, 6, 7, 0] (ls2 := [(0, .ref (q 0)), (1, .int (y1)), (2, .int (y2)), (3, .int (y3)), (4, .int (y4)), (5, .int (y5)), (6, .int (y6 + 1))]) rfl ?_
            exact h
          · have h := h.2 c9
            refine r_iload 0 dX12_bestFrom_181 rfl ?_
            refine r_goto (tgt := 193) dX12_bestFrom_183 (by decide) ?_
            refine mt_75 b8 dX12_bestFrom_193 ?_
            refine r_iinc 7 [(6, .int (y6 + 1)), (7, .int (v7)), (0, .ref (q 0)), (1, .int (y1)), (2, .int (y2)), (3, .int (y3)), (4, .int (y4)), (5, .int (y5))] dX12_bestFrom_194 rfl rfl (Nat.le_of_ble_eq_true rfl) rfl ?_
            refine r_goto (tgt := 73) dX12_bestFrom_197 (by decide) ?_
            refine r_ls [2, 3, 4, 5, 6, 7, 0] (ls2 := [(0, .ref (q 0)), (1, .int (y1)), (2, .int (y2)), (3, .int (y3)), (4, .int (y4)), (5, .int (y5)), (6, .int (y6 + 1))]) rfl ?_
            exact h
        · have h := h.2 c6
          refine r_goto (tgt := 194) dX12_bestFrom_126 (by decide) ?_
          refine r_iinc 6 [(6, .int (y6 + 1)), (0, .ref (q 0)), (1, .int (y1)), (2, .int (y2)), (3, .int (y3)), (4, .int (y4)), (5, .int (y5))] dX12_bestFrom_194 rfl rfl (Nat.le_of_ble_eq_true rfl) rfl ?_
          refine r_goto (tgt := 73) dX12_bestFrom_197 (by decide) ?_
          refine r_ls [1, 2, 3, 4, 5, 6, 0] (ls2 := [(0, .ref (q 0)), (1, .int (y1)), (2, .int (y2)), (3, .int (y3)), (4, .int (y4)), (5, .int (y5)), (6, .int (y6 + 1))]) rfl ?_
          exact h
abbrev T_join_38 (E : EvT) (q : Nat → Nat) (D : Nat) (P : Int32 → StM → Prop) (S : StM) (y1 : Int32) (y2 : Int32) : Prop := RM E q iM_join D (qI E q P) S [(0, .ref (q 0)), (1, .int (y1)), (2, .int (y2))] [] 38
abbrev T_join_107 (E : EvT) (q : Nat → Nat) (D : Nat) (P : Int32 → StM → Prop) (S : StM) (y1 : Int32) (y2 : Int32) : Prop := RM E q iM_join D (qI E q P) S [(0, .ref (q 0)), (1, .int (y1)), (2, .int (y2))] [] 107
abbrev T_join_45 (E : EvT) (q : Nat → Nat) (D : Nat) (P : Int32 → StM → Prop) (S : StM) (y1 : Int32) (y2 : Int32) (y3 : Int32) : Prop := RM E q iM_join D (qI E q P) S [(0, .ref (q 0)), (1, .int (y1)), (2, .int (y2)), (3, .int (y3))] [] 45
abbrev T_join_147 (E : EvT) (q : Nat → Nat) (D : Nat) (P : Int32 → StM → Prop) (S : StM) (y1 : Int32) (y2 : Int32) (y3 : Int32) (y4 : Int32) : Prop := RM E q iM_join D (qI E q P) S [(0, .ref (q 0)), (1, .int (y1)), (2, .int (y2)), (3, .int (y3)), (4, .int (y4))] [] 147
abbrev T_join_160 (E : EvT) (q : Nat → Nat) (D : Nat) (P : Int32 → StM → Prop) (S : StM) (y1 : Int32) (y2 : Int32) (y3 : Int32) (y4 : Int32) (y5 : Int32) (y6 : Int32) : Prop := RM E q iM_join D (qI E q P) S [(0, .ref (q 0)), (1, .int (y1)), (2, .int (y2)), (3, .int (y3)), (4, .int (y4)), (5, .int (y5)), (6, .int (y6))] [] 160
set_option maxRecDepth 20000 in
theorem en_join {E : EvT} {q : Nat → Nat} {d : Nat} {x1 : Int32} {S : StM} {P : Int32 → StM → Prop} (h : ((mIn x1 0 8) = false → (P (-1) S)) ∧ ((mIn x1 0 8) = true → ((x1 ≤ (s_taped S) → (C_hearsFinds E q (d + 5) x1 (sI S 28 0) (fun r3 S4 => (r3 = true → (T_join_38 E q (d + 6) P S4 x1 0)) ∧ (r3 = false → (P (-2) S4))))) ∧ (¬ x1 ≤ (s_taped S) → (P (-1) S))))) : C_join E q (d + 6) x1 S P := by
  refine Cn.of rfl (Nat.le_of_ble_eq_true rfl) (ls := [(0, .ref (q 0)), (1, .int (x1))]) rfl ?_
  refine r_iload_n 1 dX12_join_0 rfl rfl ?_
  refine r_iconst_0 dX12_join_1 ?_
  refine r_bipush_8 dX12_join_2 ?_
  refine KP_in (d := d + 5)  rfl (Nat.le_of_ble_eq_true rfl) dX12_join_4 ?_
  refine r_if_eqb (tgt := 18) dX12_join_7 (by decide) (fun c1 => ?_) (fun c1 => ?_)
  · have h := h.1 c1
    refine r_iconst_m1 dX12_join_18 ?_
    exact r_iret dX12_join_19 rfl (Nat.le_refl _) (Nat.le_refl _) ⟨_, _, rfl, rfl, h⟩
  · have h := h.2 c1
    refine r_iload_n 1 dX12_join_10 rfl rfl ?_
    refine r_aload_n 0 dX12_join_11 rfl rfl ?_
    refine mg_28 rfl dX12_join_12 ?_
    refine r_icmp_le (tgt := 20) dX12_join_15 (by decide) (fun c2 => ?_) (fun c2 => ?_)
    · have h := h.1 c2
      refine r_aload_n 0 dX12_join_20 rfl rfl ?_
      refine r_iconst_0 dX12_join_21 ?_
      refine mq_28 rfl dX12_join_22 ?_
      refine r_aload_n 0 dX12_join_25 rfl rfl ?_
      refine r_iload_n 1 dX12_join_26 rfl rfl ?_
      refine K_hearsFinds rfl (Nat.le_of_ble_eq_true rfl) dX12_join_27 (mB h (fun r3 S4 h => ?_))
      refine r_if_neb (tgt := 36) dX12_join_30 (by decide) (fun c5 => ?_) (fun c5 => ?_)
      · have h := h.1 c5
        refine r_iconst_0 dX12_join_36 ?_
        refine r_istore_n [(2, .int (0)), (0, .ref (q 0)), (1, .int (x1))] dX12_join_37 rfl (Nat.le_of_ble_eq_true rfl) rfl ?_
        refine r_ls [1, 2, 0] (ls2 := [(0, .ref (q 0)), (1, .int (x1)), (2, .int (0))]) rfl ?_
        exact h
      · have h := h.2 c5
        refine r_bipush_m2 dX12_join_33 ?_
        exact r_iret dX12_join_35 rfl (Nat.le_refl _) (Nat.le_refl _) ⟨_, _, rfl, rfl, h⟩
    · have h := h.2 c2
      refine r_iconst_m1 dX12_join_18 ?_
      exact r_iret dX12_join_19 rfl (Nat.le_refl _) (Nat.le_refl _) ⟨_, _, rfl, rfl, h⟩
set_option maxRecDepth 20000 in
theorem sg_join_38 {E : EvT} {q : Nat → Nat} {d : Nat} {S : StM} {P : Int32 → StM → Prop} {y1 : Int32} {y2 : Int32} (h : (y1 ≤ y2 → (T_join_107 E q (d + 6) P S y1 0)) ∧ (¬ y1 ≤ y2 → (T_join_45 E q (d + 6) P S y1 y2 0))) : T_join_38 E q (d + 6) P S y1 y2 := by
  refine r_iload_n 2 dX12_join_38 rfl rfl ?_
  refine r_iload_n 1 dX12_join_39 rfl rfl ?_
  refine r_icmp_ge (tgt := 105) dX12_join_40 (by decide) (fun c1 => ?_) (fun c1 => ?_)
  · have h := h.1 c1
    refine r_iconst_0 dX12_join_105 ?_
    refine r_istore_n [(2, .int (0)), (0, .ref (q 0)), (1, .int (y1))] dX12_join_106 rfl (Nat.le_of_ble_eq_true rfl) rfl ?_
    refine r_ls [1, 2, 0] (ls2 := [(0, .ref (q 0)), (1, .int (y1)), (2, .int (0))]) rfl ?_
    exact h
  · have h := h.2 c1
    refine r_iconst_0 dX12_join_43 ?_
    refine r_istore_n [(3, .int (0)), (0, .ref (q 0)), (1, .int (y1)), (2, .int (y2))] dX12_join_44 rfl (Nat.le_of_ble_eq_true rfl) rfl ?_
    refine r_ls [1, 2, 3, 0] (ls2 := [(0, .ref (q 0)), (1, .int (y1)), (2, .int (y2)), (3, .int (0))]) rfl ?_
    exact h
set_option maxRecDepth 20000 in
theorem sg_join_107 {E : EvT} {q : Nat → Nat} {d : Nat} {S : StM} {P : Int32 → StM → Prop} {y1 : Int32} {y2 : Int32} (h : (60 ≤ y2 → (C_bestFrom E q (d + 5) 0 y1 S (fun r2 S3 => T_join_147 E q (d + 6) P (sI S3 69 y1) y1 r2 (r2 / 1000) 0))) ∧ (¬ 60 ≤ y2 → ((0 ≤ y2 ∧ y2 < 60) ∧ (T_join_107 E q (d + 6) P (sA S 77 (upd (a_isUsed S) (ix y2) (vp_nar .boolean 0))) y1 (y2 + 1))))) : T_join_107 E q (d + 6) P S y1 y2 := by
  refine r_iload_n 2 dX12_join_107 rfl rfl ?_
  refine r_bipush_60 dX12_join_108 ?_
  refine r_icmp_ge (tgt := 126) dX12_join_110 (by decide) (fun c1 => ?_) (fun c1 => ?_)
  · have h := h.1 c1
    refine r_aload_n 0 dX12_join_126 rfl rfl ?_
    refine r_iconst_0 dX12_join_127 ?_
    refine r_iload_n 1 dX12_join_128 rfl rfl ?_
    refine K_bestFrom rfl (Nat.le_of_ble_eq_true rfl) dX12_join_129 (mI h (fun r2 S3 h => ?_))
    refine r_istore_n [(2, .int (r2)), (0, .ref (q 0)), (1, .int (y1))] dX12_join_132 rfl (Nat.le_of_ble_eq_true rfl) rfl ?_
    refine r_iload_n 0 dX12_join_133 rfl rfl ?_
    refine r_sipush_1000 dX12_join_134 ?_
    refine r_idiv dX12_join_137 (by decide) ?_
    refine r_istore_n [(3, .int (r2 / 1000)), (2, .int (r2)), (0, .ref (q 0)), (1, .int (y1))] dX12_join_138 rfl (Nat.le_of_ble_eq_true rfl) rfl ?_
    refine r_aload_n 2 dX12_join_139 rfl rfl ?_
    refine r_iload_n 3 dX12_join_140 rfl rfl ?_
    refine mq_69 rfl dX12_join_141 ?_
    refine r_iconst_0 dX12_join_144 ?_
    refine r_istore [(4, .int (0)), (3, .int (r2 / 1000)), (2, .int (r2)), (0, .ref (q 0)), (1, .int (y1))] dX12_join_145 (Nat.le_of_ble_eq_true rfl) rfl ?_
    refine r_ls [3, 4, 2, 1, 0] (ls2 := [(0, .ref (q 0)), (1, .int (y1)), (2, .int (r2)), (3, .int (r2 / 1000)), (4, .int (0))]) rfl ?_
    exact h
  · have h := h.2 c1
    refine r_aload_n 0 dX12_join_113 rfl rfl ?_
    refine mg_77 rfl dX12_join_114 ?_
    refine r_iload_n 2 dX12_join_117 rfl rfl ?_
    refine r_iconst_0 dX12_join_118 ?_
    obtain ⟨b4, h⟩ := h
    refine mt_77 b4 dX12_join_119 ?_
    refine r_iinc 2 [(2, .int (y2 + 1)), (0, .ref (q 0)), (1, .int (y1))] dX12_join_120 rfl rfl (Nat.le_of_ble_eq_true rfl) rfl ?_
    refine r_goto (tgt := 107) dX12_join_123 (by decide) ?_
    refine r_ls [1, 2, 0] (ls2 := [(0, .ref (q 0)), (1, .int (y1)), (2, .int (y2 + 1))]) rfl ?_
    exact h
set_option maxRecDepth 20000 in
theorem sg_join_45 {E : EvT} {q : Nat → Nat} {d : Nat} {S : StM} {P : Int32 → StM → Prop} {y1 : Int32} {y2 : Int32} {y3 : Int32} (h : ((s_things S) ≤ y3 → (T_join_38 E q (d + 6) P S y1 (y2 + 1))) ∧ (¬ (s_things S) ≤ y3 → ((0 ≤ y2 ∧ y2 < 100) ∧ (C_isLike E q (d + 5) (a_told S (ix y2)) y3 S (fun r3 S4 => (r3 = false → ((0 ≤ ((60 * y2) + y3) ∧ ((60 * y2) + y3) < 480) ∧ (T_join_45 E q (d + 6) P (sA S4 78 (upd (a_agree S4) (ix ((60 * y2) + y3)) (-1))) y1 y2 (y3 + 1)))) ∧ (r3 = true → (C_agreeing E q (d + 5) (a_told S4 (ix y2)) y3 S4 (fun r7 S8 => (0 ≤ ((60 * y2) + y3) ∧ ((60 * y2) + y3) < 480) ∧ (T_join_45 E q (d + 6) P (sA S8 78 (upd (a_agree S8) (ix ((60 * y2) + y3)) r7)) y1 y2 (y3 + 1)))))))))) : T_join_45 E q (d + 6) P S y1 y2 y3 := by
  refine r_iload_n 3 dX12_join_45 rfl rfl ?_
  refine r_aload_n 0 dX12_join_46 rfl rfl ?_
  refine mg_68 rfl dX12_join_47 ?_
  refine r_icmp_ge (tgt := 99) dX12_join_50 (by decide) (fun c1 => ?_) (fun c1 => ?_)
  · have h := h.1 c1
    refine r_iinc 2 [(2, .int (y2 + 1)), (0, .ref (q 0)), (1, .int (y1)), (3, .int (y3))] dX12_join_99 rfl rfl (Nat.le_of_ble_eq_true rfl) rfl ?_
    refine r_goto (tgt := 38) dX12_join_102 (by decide) ?_
    refine r_ls [1, 2, 0] (ls2 := [(0, .ref (q 0)), (1, .int (y1)), (2, .int (y2 + 1))]) rfl ?_
    exact h
  · have h := h.2 c1
    refine r_aload_n 0 dX12_join_53 rfl rfl ?_
    refine mg_78 rfl dX12_join_54 ?_
    refine r_bipush_60 dX12_join_57 ?_
    refine r_iload_n 2 dX12_join_59 rfl rfl ?_
    refine r_imul dX12_join_60 ?_
    refine r_iload_n 3 dX12_join_61 rfl rfl ?_
    refine r_iadd dX12_join_62 ?_
    refine r_aload_n 0 dX12_join_63 rfl rfl ?_
    refine r_aload_n 0 dX12_join_64 rfl rfl ?_
    refine mg_73 rfl dX12_join_65 ?_
    refine r_iload_n 2 dX12_join_68 rfl rfl ?_
    obtain ⟨b2, h⟩ := h
    refine ml_73 b2 dX12_join_69 ?_
    refine r_iload_n 3 dX12_join_70 rfl rfl ?_
    refine K_isLike rfl (Nat.le_of_ble_eq_true rfl) dX12_join_71 (mB h (fun r3 S4 h => ?_))
    refine r_if_eqb (tgt := 91) dX12_join_74 (by decide) (fun c5 => ?_) (fun c5 => ?_)
    · have h := h.1 c5
      refine r_iconst_m1 dX12_join_91 ?_
      obtain ⟨b6, h⟩ := h
      refine mt_78 b6 dX12_join_92 ?_
      refine r_iinc 3 [(3, .int (y3 + 1)), (0, .ref (q 0)), (1, .int (y1)), (2, .int (y2))] dX12_join_93 rfl rfl (Nat.le_of_ble_eq_true rfl) rfl ?_
      refine r_goto (tgt := 45) dX12_join_96 (by decide) ?_
      refine r_ls [1, 2, 3, 0] (ls2 := [(0, .ref (q 0)), (1, .int (y1)), (2, .int (y2)), (3, .int (y3 + 1))]) rfl ?_
      exact h
    · have h := h.2 c5
      refine r_aload_n 0 dX12_join_77 rfl rfl ?_
      refine r_aload_n 0 dX12_join_78 rfl rfl ?_
      refine mg_73 rfl dX12_join_79 ?_
      refine r_iload_n 2 dX12_join_82 rfl rfl ?_
      refine ml_73 b2 dX12_join_83 ?_
      refine r_iload_n 3 dX12_join_84 rfl rfl ?_
      refine K_agreeing rfl (Nat.le_of_ble_eq_true rfl) dX12_join_85 (mI h (fun r7 S8 h => ?_))
      refine r_goto (tgt := 92) dX12_join_88 (by decide) ?_
      obtain ⟨b9, h⟩ := h
      refine mt_78 b9 dX12_join_92 ?_
      refine r_iinc 3 [(3, .int (y3 + 1)), (0, .ref (q 0)), (1, .int (y1)), (2, .int (y2))] dX12_join_93 rfl rfl (Nat.le_of_ble_eq_true rfl) rfl ?_
      refine r_goto (tgt := 45) dX12_join_96 (by decide) ?_
      refine r_ls [1, 2, 3, 0] (ls2 := [(0, .ref (q 0)), (1, .int (y1)), (2, .int (y2)), (3, .int (y3 + 1))]) rfl ?_
      exact h
set_option maxRecDepth 20000 in
theorem sg_join_147 {E : EvT} {q : Nat → Nat} {d : Nat} {S : StM} {P : Int32 → StM → Prop} {y1 : Int32} {y2 : Int32} {y3 : Int32} {y4 : Int32} (h : (y1 ≤ y4 → (P y3 S)) ∧ (¬ y1 ≤ y4 → (T_join_160 E q (d + 6) P S y1 y2 y3 y4 60 0))) : T_join_147 E q (d + 6) P S y1 y2 y3 y4 := by
  refine r_iload 4 dX12_join_147 rfl ?_
  refine r_iload_n 1 dX12_join_149 rfl rfl ?_
  refine r_icmp_ge (tgt := 305) dX12_join_150 (by decide) (fun c1 => ?_) (fun c1 => ?_)
  · have h := h.1 c1
    refine r_iload_n 3 dX12_join_305 rfl rfl ?_
    exact r_iret dX12_join_306 rfl (Nat.le_refl _) (Nat.le_refl _) ⟨_, _, rfl, rfl, h⟩
  · have h := h.2 c1
    refine r_bipush_60 dX12_join_153 ?_
    refine r_istore [(5, .int (60)), (0, .ref (q 0)), (1, .int (y1)), (2, .int (y2)), (3, .int (y3)), (4, .int (y4))] dX12_join_155 (Nat.le_of_ble_eq_true rfl) rfl ?_
    refine r_iconst_0 dX12_join_157 ?_
    refine r_istore [(6, .int (0)), (5, .int (60)), (0, .ref (q 0)), (1, .int (y1)), (2, .int (y2)), (3, .int (y3)), (4, .int (y4))] dX12_join_158 (Nat.le_of_ble_eq_true rfl) rfl ?_
    refine r_ls [2, 3, 4, 5, 6, 1, 0] (ls2 := [(0, .ref (q 0)), (1, .int (y1)), (2, .int (y2)), (3, .int (y3)), (4, .int (y4)), (5, .int (60)), (6, .int (0))]) rfl ?_
    exact h
set_option maxRecDepth 20000 in
theorem sg_join_160 {E : EvT} {q : Nat → Nat} {d : Nat} {S : StM} {P : Int32 → StM → Prop} {y1 : Int32} {y2 : Int32} {y3 : Int32} {y4 : Int32} {y5 : Int32} {y6 : Int32} (h : ((s_things S) ≤ y6 → ((0 ≤ y4 ∧ y4 < 8) ∧ ((¬ y5 = 60 → ((0 ≤ ((60 * y4) + y5) ∧ ((60 * y4) + y5) < 480) ∧ (T_join_147 E q (d + 6) P (sA S 74 (upd (a_rowOf S) (ix y4) y5)) y1 ((y2 - 1000) - (a_agree S (ix ((60 * y4) + y5)))) y3 (y4 + 1)))) ∧ (y5 = 60 → (T_join_147 E q (d + 6) P (sA S 74 (upd (a_rowOf S) (ix y4) y5)) y1 y2 y3 (y4 + 1)))))) ∧ (¬ (s_things S) ≤ y6 → ((¬ y5 = 60 → ((0 ≤ y4 ∧ y4 < 8) ∧ ((¬ y5 = 60 → ((0 ≤ ((60 * y4) + y5) ∧ ((60 * y4) + y5) < 480) ∧ (T_join_147 E q (d + 6) P (sA S 74 (upd (a_rowOf S) (ix y4) y5)) y1 ((y2 - 1000) - (a_agree S (ix ((60 * y4) + y5)))) y3 (y4 + 1)))) ∧ (y5 = 60 → (T_join_147 E q (d + 6) P (sA S 74 (upd (a_rowOf S) (ix y4) y5)) y1 y2 y3 (y4 + 1)))))) ∧ (y5 = 60 → ((0 ≤ ((60 * y4) + y6) ∧ ((60 * y4) + y6) < 480) ∧ ((0 ≤ y6 ∧ y6 < 60) ∧ ((¬ (a_isUsed S (ix y6)) = 0 → (T_join_160 E q (d + 6) P S y1 y2 y3 y4 y5 (y6 + 1))) ∧ ((a_isUsed S (ix y6)) = 0 → ((¬ (a_agree S (ix ((60 * y4) + y6))) = (-1) → (C_bestFrom E q (d + 5) (y4 + 1) y1 (sA S 77 (upd (a_isUsed S) (ix y6) (vp_nar .boolean 1))) (fun r13 S14 => (¬ ((1000 + (a_agree S (ix ((60 * y4) + y6)))) + r13) = y2 → (T_join_160 E q (d + 6) P (sA S14 77 (upd (a_isUsed S14) (ix y6) (vp_nar .boolean 0))) y1 y2 y3 y4 y5 (y6 + 1))) ∧ (((1000 + (a_agree S (ix ((60 * y4) + y6)))) + r13) = y2 → (T_join_160 E q (d + 6) P S14 y1 y2 y3 y4 y6 (y6 + 1)))))) ∧ ((a_agree S (ix ((60 * y4) + y6))) = (-1) → (T_join_160 E q (d + 6) P S y1 y2 y3 y4 y5 (y6 + 1)))))))))))) : T_join_160 E q (d + 6) P S y1 y2 y3 y4 y5 y6 := by
  refine r_iload 6 dX12_join_160 rfl ?_
  refine r_aload_n 0 dX12_join_162 rfl rfl ?_
  refine mg_68 rfl dX12_join_163 ?_
  refine r_icmp_ge (tgt := 259) dX12_join_166 (by decide) (fun c1 => ?_) (fun c1 => ?_)
  · have h := h.1 c1
    refine r_aload_n 0 dX12_join_259 rfl rfl ?_
    refine mg_74 rfl dX12_join_260 ?_
    refine r_iload 4 dX12_join_263 rfl ?_
    refine r_iload 5 dX12_join_265 rfl ?_
    obtain ⟨b2, h⟩ := h
    refine mt_74 b2 dX12_join_267 ?_
    refine r_iload 5 dX12_join_268 rfl ?_
    refine r_bipush_60 dX12_join_270 ?_
    refine r_icmp_ne (tgt := 279) dX12_join_272 (by decide) (fun c3 => ?_) (fun c3 => ?_)
    · have h := h.1 c3
      refine r_iload_n 2 dX12_join_279 rfl rfl ?_
      refine r_sipush_1000 dX12_join_280 ?_
      refine r_isub dX12_join_283 ?_
      refine r_aload_n 0 dX12_join_284 rfl rfl ?_
      refine mg_78 rfl dX12_join_285 ?_
      refine r_bipush_60 dX12_join_288 ?_
      refine r_iload 4 dX12_join_290 rfl ?_
      refine r_imul dX12_join_292 ?_
      refine r_iload 5 dX12_join_293 rfl ?_
      refine r_iadd dX12_join_295 ?_
      obtain ⟨b4, h⟩ := h
      refine ml_78 b4 dX12_join_296 ?_
      refine r_isub dX12_join_297 ?_
      refine r_istore_n [(2, .int ((y2 - 1000) - (a_agree S (ix ((60 * y4) + y5))))), (0, .ref (q 0)), (1, .int (y1)), (3, .int (y3)), (4, .int (y4)), (5, .int (y5)), (6, .int (y6))] dX12_join_298 rfl (Nat.le_of_ble_eq_true rfl) rfl ?_
      refine r_iinc 4 [(4, .int (y4 + 1)), (2, .int ((y2 - 1000) - (a_agree S (ix ((60 * y4) + y5))))), (0, .ref (q 0)), (1, .int (y1)), (3, .int (y3)), (5, .int (y5)), (6, .int (y6))] dX12_join_299 rfl rfl (Nat.le_of_ble_eq_true rfl) rfl ?_
      refine r_goto (tgt := 147) dX12_join_302 (by decide) ?_
      refine r_ls [2, 3, 1, 4, 0] (ls2 := [(0, .ref (q 0)), (1, .int (y1)), (2, .int ((y2 - 1000) - (a_agree S (ix ((60 * y4) + y5))))), (3, .int (y3)), (4, .int (y4 + 1))]) rfl ?_
      exact h
    · have h := h.2 c3
      refine r_iload_n 2 dX12_join_275 rfl rfl ?_
      refine r_goto (tgt := 298) dX12_join_276 (by decide) ?_
      refine r_istore_n [(2, .int (y2)), (0, .ref (q 0)), (1, .int (y1)), (3, .int (y3)), (4, .int (y4)), (5, .int (y5)), (6, .int (y6))] dX12_join_298 rfl (Nat.le_of_ble_eq_true rfl) rfl ?_
      refine r_iinc 4 [(4, .int (y4 + 1)), (2, .int (y2)), (0, .ref (q 0)), (1, .int (y1)), (3, .int (y3)), (5, .int (y5)), (6, .int (y6))] dX12_join_299 rfl rfl (Nat.le_of_ble_eq_true rfl) rfl ?_
      refine r_goto (tgt := 147) dX12_join_302 (by decide) ?_
      refine r_ls [2, 3, 1, 4, 0] (ls2 := [(0, .ref (q 0)), (1, .int (y1)), (2, .int (y2)), (3, .int (y3)), (4, .int (y4 + 1))]) rfl ?_
      exact h
  · have h := h.2 c1
    refine r_iload 5 dX12_join_169 rfl ?_
    refine r_bipush_60 dX12_join_171 ?_
    refine r_icmp_ne (tgt := 259) dX12_join_173 (by decide) (fun c5 => ?_) (fun c5 => ?_)
    · have h := h.1 c5
      refine r_aload_n 0 dX12_join_259 rfl rfl ?_
      refine mg_74 rfl dX12_join_260 ?_
      refine r_iload 4 dX12_join_263 rfl ?_
      refine r_iload 5 dX12_join_265 rfl ?_
      obtain ⟨b6, h⟩ := h
      refine mt_74 b6 dX12_join_267 ?_
      refine r_iload 5 dX12_join_268 rfl ?_
      refine r_bipush_60 dX12_join_270 ?_
      refine r_icmp_ne (tgt := 279) dX12_join_272 (by decide) (fun c7 => ?_) (fun c7 => ?_)
      · have h := h.1 c7
        refine r_iload_n 2 dX12_join_279 rfl rfl ?_
        refine r_sipush_1000 dX12_join_280 ?_
        refine r_isub dX12_join_283 ?_
        refine r_aload_n 0 dX12_join_284 rfl rfl ?_
        refine mg_78 rfl dX12_join_285 ?_
        refine r_bipush_60 dX12_join_288 ?_
        refine r_iload 4 dX12_join_290 rfl ?_
        refine r_imul dX12_join_292 ?_
        refine r_iload 5 dX12_join_293 rfl ?_
        refine r_iadd dX12_join_295 ?_
        obtain ⟨b8, h⟩ := h
        refine ml_78 b8 dX12_join_296 ?_
        refine r_isub dX12_join_297 ?_
        refine r_istore_n [(2, .int ((y2 - 1000) - (a_agree S (ix ((60 * y4) + y5))))), (0, .ref (q 0)), (1, .int (y1)), (3, .int (y3)), (4, .int (y4)), (5, .int (y5)), (6, .int (y6))] dX12_join_298 rfl (Nat.le_of_ble_eq_true rfl) rfl ?_
        refine r_iinc 4 [(4, .int (y4 + 1)), (2, .int ((y2 - 1000) - (a_agree S (ix ((60 * y4) + y5))))), (0, .ref (q 0)), (1, .int (y1)), (3, .int (y3)), (5, .int (y5)), (6, .int (y6))] dX12_join_299 rfl rfl (Nat.le_of_ble_eq_true rfl) rfl ?_
        refine r_goto (tgt := 147) dX12_join_302 (by decide) ?_
        refine r_ls [2, 3, 1, 4, 0] (ls2 := [(0, .ref (q 0)), (1, .int (y1)), (2, .int ((y2 - 1000) - (a_agree S (ix ((60 * y4) + y5))))), (3, .int (y3)), (4, .int (y4 + 1))]) rfl ?_
        exact h
      · have h := h.2 c7
        refine r_iload_n 2 dX12_join_275 rfl rfl ?_
        refine r_goto (tgt := 298) dX12_join_276 (by decide) ?_
        refine r_istore_n [(2, .int (y2)), (0, .ref (q 0)), (1, .int (y1)), (3, .int (y3)), (4, .int (y4)), (5, .int (y5)), (6, .int (y6))] dX12_join_298 rfl (Nat.le_of_ble_eq_true rfl) rfl ?_
        refine r_iinc 4 [(4, .int (y4 + 1)), (2, .int (y2)), (0, .ref (q 0)), (1, .int (y1)), (3, .int (y3)), (5, .int (y5)), (6, .int (y6))] dX12_join_299 rfl rfl (Nat.le_of_ble_eq_true rfl) rfl ?_
        refine r_goto (tgt := 147) dX12_join_302 (by decide) ?_
        refine r_ls [2, 3, 1, 4, 0] (ls2 := [(0, .ref (q 0)), (1, .int (y1)), (2, .int (y2)), (3, .int (y3)), (4, .int (y4 + 1))]) rfl ?_
        exact h
    · have h := h.2 c5
      refine r_aload_n 0 dX12_join_176 rfl rfl ?_
      refine mg_78 rfl dX12_join_177 ?_
      refine r_bipush_60 dX12_join_180 ?_
      refine r_iload 4 dX12_join_182 rfl ?_
      refine r_imul dX12_join_184 ?_
      refine r_iload 6 dX12_join_185 rfl ?_
      refine r_iadd dX12_join_187 ?_
      obtain ⟨b9, h⟩ := h
      refine ml_78 b9 dX12_join_188 ?_
      refine r_istore [(7, .int (a_agree S (ix ((60 * y4) + y6)))), (0, .ref (q 0)), (1, .int (y1)), (2, .int (y2)), (3, .int (y3)), (4, .int (y4)), (5, .int (y5)), (6, .int (y6))] dX12_join_189 (Nat.le_of_ble_eq_true rfl) rfl ?_
      refine r_aload_n 1 dX12_join_191 rfl rfl ?_
      refine mg_77 rfl dX12_join_192 ?_
      refine r_iload 7 dX12_join_195 rfl ?_
      obtain ⟨b10, h⟩ := h
      refine ml_77 b10 dX12_join_197 ?_
      refine r_if_ne (tgt := 253) dX12_join_198 (by decide) (fun c11 => ?_) (fun c11 => ?_)
      · have h := h.1 c11
        refine r_iinc 7 [(6, .int (y6 + 1)), (7, .int (a_agree S (ix ((60 * y4) + y6)))), (0, .ref (q 0)), (1, .int (y1)), (2, .int (y2)), (3, .int (y3)), (4, .int (y4)), (5, .int (y5))] dX12_join_253 rfl rfl (Nat.le_of_ble_eq_true rfl) rfl ?_
        refine r_goto (tgt := 160) dX12_join_256 (by decide) ?_
        refine r_ls [2, 3, 4, 5, 6, 7, 0] (ls2 := [(0, .ref (q 0)), (1, .int (y1)), (2, .int (y2)), (3, .int (y3)), (4, .int (y4)), (5, .int (y5)), (6, .int (y6 + 1))]) rfl ?_
        exact h
      · have h := h.2 c11
        refine r_iload 0 dX12_join_201 rfl ?_
        refine r_iconst_m1 dX12_join_203 ?_
        refine r_icmp_ne (tgt := 210) dX12_join_204 (by decide) (fun c12 => ?_) (fun c12 => ?_)
        · have h := h.1 c12
          refine r_aload_n 1 dX12_join_210 rfl rfl ?_
          refine mg_77 rfl dX12_join_211 ?_
          refine r_iload 7 dX12_join_214 rfl ?_
          refine r_iconst_1 dX12_join_216 ?_
          refine mt_77 b10 dX12_join_217 ?_
          refine r_sipush_1000 dX12_join_218 ?_
          refine r_iload 0 dX12_join_221 rfl ?_
          refine r_iadd dX12_join_223 ?_
          refine r_aload_n 1 dX12_join_224 rfl rfl ?_
          refine r_iload 5 dX12_join_225 rfl ?_
          refine r_iconst_1 dX12_join_227 ?_
          refine r_iadd dX12_join_228 ?_
          refine r_iload_n 2 dX12_join_229 rfl rfl ?_
          refine K_bestFrom rfl (Nat.le_of_ble_eq_true rfl) dX12_join_230 (mI h (fun r13 S14 h => ?_))
          refine r_iadd dX12_join_233 ?_
          refine r_iload_n 3 dX12_join_234 rfl rfl ?_
          refine r_icmp_ne (tgt := 245) dX12_join_235 (by decide) (fun c15 => ?_) (fun c15 => ?_)
          · have h := h.1 c15
            refine r_aload_n 1 dX12_join_245 rfl rfl ?_
            refine mg_77 rfl dX12_join_246 ?_
            refine r_iload 7 dX12_join_249 rfl ?_
            refine r_iconst_0 dX12_join_251 ?_
            refine mt_77 b10 dX12_join_252 ?_
            refine r_iinc 7 [(6, .int (y6 + 1)), (7, .int (a_agree S (ix ((60 * y4) + y6)))), (0, .ref (q 0)), (1, .int (y1)), (2, .int (y2)), (3, .int (y3)), (4, .int (y4)), (5, .int (y5))] dX12_join_253 rfl rfl (Nat.le_of_ble_eq_true rfl) rfl ?_
            refine r_goto (tgt := 160) dX12_join_256 (by decide) ?_
            refine r_ls [2, 3, 4, 5, 6, 7, 0] (ls2 := [(0, .ref (q 0)), (1, .int (y1)), (2, .int (y2)), (3, .int (y3)), (4, .int (y4)), (5, .int (y5)), (6, .int (y6 + 1))]) rfl ?_
            exact h
          · have h := h.2 c15
            refine r_iload 7 dX12_join_238 rfl ?_
            refine r_istore [(5, .int (y6)), (7, .int (a_agree S (ix ((60 * y4) + y6)))), (0, .ref (q 0)), (1, .int (y1)), (2, .int (y2)), (3, .int (y3)), (4, .int (y4)), (6, .int (y6))] dX12_join_240 (Nat.le_of_ble_eq_true rfl) rfl ?_
            refine r_goto (tgt := 253) dX12_join_242 (by decide) ?_
            refine r_iinc 7 [(6, .int (y6 + 1)), (5, .int (y6)), (7, .int (a_agree S (ix ((60 * y4) + y6)))), (0, .ref (q 0)), (1, .int (y1)), (2, .int (y2)), (3, .int (y3)), (4, .int (y4))] dX12_join_253 rfl rfl (Nat.le_of_ble_eq_true rfl) rfl ?_
            refine r_goto (tgt := 160) dX12_join_256 (by decide) ?_
            refine r_ls [3, 4, 5, 6, 7, 1, 0] (ls2 := [(0, .ref (q 0)), (1, .int (y1)), (2, .int (y2)), (3, .int (y3)), (4, .int (y4)), (5, .int (y6)), (6, .int (y6 + 1))]) rfl ?_
            exact h
        · have h := h.2 c12
          refine r_goto (tgt := 253) dX12_join_207 (by decide) ?_
          refine r_iinc 7 [(6, .int (y6 + 1)), (7, .int (a_agree S (ix ((60 * y4) + y6)))), (0, .ref (q 0)), (1, .int (y1)), (2, .int (y2)), (3, .int (y3)), (4, .int (y4)), (5, .int (y5))] dX12_join_253 rfl rfl (Nat.le_of_ble_eq_true rfl) rfl ?_
          refine r_goto (tgt := 160) dX12_join_256 (by decide) ?_
          refine r_ls [2, 3, 4, 5, 6, 7, 0] (ls2 := [(0, .ref (q 0)), (1, .int (y1)), (2, .int (y2)), (3, .int (y3)), (4, .int (y4)), (5, .int (y5)), (6, .int (y6 + 1))]) rfl ?_
          exact h
set_option maxRecDepth 20000 in
theorem en_joined {E : EvT} {q : Nat → Nat} {d : Nat} {x1 : Int32} {S : StM} {P : Int32 → StM → Prop} (h : (x1 < 0 → (P (-1) S)) ∧ (¬ x1 < 0 → (((s_joinMany S) ≤ x1 → (P (-1) S)) ∧ (¬ (s_joinMany S) ≤ x1 → ((0 ≤ x1 ∧ x1 < 8) ∧ (P (a_rowOf S (ix x1)) S)))))) : C_joined E q d x1 S P := by
  refine Cn.of rfl (Nat.le_of_ble_eq_true rfl) (ls := [(0, .ref (q 0)), (1, .int (x1))]) rfl ?_
  refine r_iload_n 1 dX12_joined_0 rfl rfl ?_
  refine r_if_lt (tgt := 21) dX12_joined_1 (by decide) (fun c1 => ?_) (fun c1 => ?_)
  · have h := h.1 c1
    refine r_iconst_m1 dX12_joined_21 ?_
    exact r_iret dX12_joined_22 rfl (Nat.le_refl _) (Nat.le_refl _) ⟨_, _, rfl, rfl, h⟩
  · have h := h.2 c1
    refine r_iload_n 1 dX12_joined_4 rfl rfl ?_
    refine r_aload_n 0 dX12_joined_5 rfl rfl ?_
    refine mg_69 rfl dX12_joined_6 ?_
    refine r_icmp_ge (tgt := 21) dX12_joined_9 (by decide) (fun c2 => ?_) (fun c2 => ?_)
    · have h := h.1 c2
      refine r_iconst_m1 dX12_joined_21 ?_
      exact r_iret dX12_joined_22 rfl (Nat.le_refl _) (Nat.le_refl _) ⟨_, _, rfl, rfl, h⟩
    · have h := h.2 c2
      refine r_aload_n 0 dX12_joined_12 rfl rfl ?_
      refine mg_74 rfl dX12_joined_13 ?_
      refine r_iload_n 1 dX12_joined_16 rfl rfl ?_
      obtain ⟨b3, h⟩ := h
      refine ml_74 b3 dX12_joined_17 ?_
      refine r_goto (tgt := 22) dX12_joined_18 (by decide) ?_
      exact r_iret dX12_joined_22 rfl (Nat.le_refl _) (Nat.le_refl _) ⟨_, _, rfl, rfl, h⟩
abbrev T_isLost_2 (E : EvT) (q : Nat → Nat) (D : Nat) (P : Bool → StM → Prop) (S : StM) (y1 : Int32) (y2 : Int32) : Prop := RM E q iM_isLost D (qB E q P) S [(0, .ref (q 0)), (1, .int (y1)), (2, .int (y2))] [] 2
set_option maxRecDepth 20000 in
theorem en_isLost {E : EvT} {q : Nat → Nat} {d : Nat} {x1 : Int32} {S : StM} {P : Bool → StM → Prop} (h : T_isLost_2 E q (d + 6) P S x1 0) : C_isLost E q (d + 6) x1 S P := by
  refine Cn.of rfl (Nat.le_of_ble_eq_true rfl) (ls := [(0, .ref (q 0)), (1, .int (x1))]) rfl ?_
  refine r_iconst_0 dX12_isLost_0 ?_
  refine r_istore_n [(2, .int (0)), (0, .ref (q 0)), (1, .int (x1))] dX12_isLost_1 rfl (Nat.le_of_ble_eq_true rfl) rfl ?_
  refine r_ls [1, 2, 0] (ls2 := [(0, .ref (q 0)), (1, .int (x1)), (2, .int (0))]) rfl ?_
  exact h
set_option maxRecDepth 20000 in
theorem sg_isLost_2 {E : EvT} {q : Nat → Nat} {d : Nat} {S : StM} {P : Bool → StM → Prop} {y1 : Int32} {y2 : Int32} (h : ((s_things S) ≤ y2 → (P true S)) ∧ (¬ (s_things S) ≤ y2 → (C_isLike E q (d + 5) y1 y2 S (fun r2 S3 => (r2 = false → (T_isLost_2 E q (d + 6) P S3 y1 (y2 + 1))) ∧ (r2 = true → (P false S3)))))) : T_isLost_2 E q (d + 6) P S y1 y2 := by
  refine r_iload_n 2 dX12_isLost_2 rfl rfl ?_
  refine r_aload_n 0 dX12_isLost_3 rfl rfl ?_
  refine mg_68 rfl dX12_isLost_4 ?_
  refine r_icmp_ge (tgt := 27) dX12_isLost_7 (by decide) (fun c1 => ?_) (fun c1 => ?_)
  · have h := h.1 c1
    refine r_iconst_1 dX12_isLost_27 ?_
    exact r_zret1 dX12_isLost_28 rfl (Nat.le_refl _) (Nat.le_refl _) ⟨_, _, rfl, rfl, h⟩
  · have h := h.2 c1
    refine r_aload_n 0 dX12_isLost_10 rfl rfl ?_
    refine r_iload_n 1 dX12_isLost_11 rfl rfl ?_
    refine r_iload_n 2 dX12_isLost_12 rfl rfl ?_
    refine K_isLike rfl (Nat.le_of_ble_eq_true rfl) dX12_isLost_13 (mB h (fun r2 S3 h => ?_))
    refine r_if_eqb (tgt := 21) dX12_isLost_16 (by decide) (fun c4 => ?_) (fun c4 => ?_)
    · have h := h.1 c4
      refine r_iinc 2 [(2, .int (y2 + 1)), (0, .ref (q 0)), (1, .int (y1))] dX12_isLost_21 rfl rfl (Nat.le_of_ble_eq_true rfl) rfl ?_
      refine r_goto (tgt := 2) dX12_isLost_24 (by decide) ?_
      refine r_ls [1, 2, 0] (ls2 := [(0, .ref (q 0)), (1, .int (y1)), (2, .int (y2 + 1))]) rfl ?_
      exact h
    · have h := h.2 c4
      refine r_iconst_0 dX12_isLost_19 ?_
      exact r_zret0 dX12_isLost_20 rfl (Nat.le_refl _) (Nat.le_refl _) ⟨_, _, rfl, rfl, h⟩
abbrev T_wouldHave_2 (E : EvT) (q : Nat → Nat) (D : Nat) (P : Bool → StM → Prop) (S : StM) (y1 : Int32) (y2 : Int32) (y3 : Int32) : Prop := RM E q iM_wouldHave D (qB E q P) S [(0, .ref (q 0)), (1, .int (y1)), (2, .int (y2)), (3, .int (y3))] [] 2
set_option maxRecDepth 20000 in
theorem en_wouldHave {E : EvT} {q : Nat → Nat} {d : Nat} {x1 : Int32} {x2 : Int32} {S : StM} {P : Bool → StM → Prop} (h : T_wouldHave_2 E q (d + 5) P S x1 x2 0) : C_wouldHave E q (d + 5) x1 x2 S P := by
  refine Cn.of rfl (Nat.le_of_ble_eq_true rfl) (ls := [(0, .ref (q 0)), (1, .int (x1)), (2, .int (x2))]) rfl ?_
  refine r_iconst_0 dX12_wouldHave_0 ?_
  refine r_istore_n [(3, .int (0)), (0, .ref (q 0)), (1, .int (x1)), (2, .int (x2))] dX12_wouldHave_1 rfl (Nat.le_of_ble_eq_true rfl) rfl ?_
  refine r_ls [1, 2, 3, 0] (ls2 := [(0, .ref (q 0)), (1, .int (x1)), (2, .int (x2)), (3, .int (0))]) rfl ?_
  exact h
set_option maxRecDepth 20000 in
theorem sg_wouldHave_2 {E : EvT} {q : Nat → Nat} {d : Nat} {S : StM} {P : Bool → StM → Prop} {y1 : Int32} {y2 : Int32} {y3 : Int32} (h : ((s_things S) ≤ y3 → (P false S)) ∧ (¬ (s_things S) ≤ y3 → ((0 ≤ y3 ∧ y3 < 60) ∧ ((¬ (a_museumOf S (ix y3)) = y1 → (T_wouldHave_2 E q (d + 5) P S y1 y2 (y3 + 1))) ∧ ((a_museumOf S (ix y3)) = y1 → (C_couldBe E q (d + 4) y2 y3 S (fun r4 S5 => (r4 = false → (T_wouldHave_2 E q (d + 5) P S5 y1 y2 (y3 + 1))) ∧ (r4 = true → (P true S5))))))))) : T_wouldHave_2 E q (d + 5) P S y1 y2 y3 := by
  refine r_iload_n 3 dX12_wouldHave_2 rfl rfl ?_
  refine r_aload_n 0 dX12_wouldHave_3 rfl rfl ?_
  refine mg_68 rfl dX12_wouldHave_4 ?_
  refine r_icmp_ge (tgt := 37) dX12_wouldHave_7 (by decide) (fun c1 => ?_) (fun c1 => ?_)
  · have h := h.1 c1
    refine r_iconst_0 dX12_wouldHave_37 ?_
    exact r_zret0 dX12_wouldHave_38 rfl (Nat.le_refl _) (Nat.le_refl _) ⟨_, _, rfl, rfl, h⟩
  · have h := h.2 c1
    refine r_aload_n 0 dX12_wouldHave_10 rfl rfl ?_
    refine mg_70 rfl dX12_wouldHave_11 ?_
    refine r_iload_n 3 dX12_wouldHave_14 rfl rfl ?_
    obtain ⟨b2, h⟩ := h
    refine ml_70 b2 dX12_wouldHave_15 ?_
    refine r_iload_n 1 dX12_wouldHave_16 rfl rfl ?_
    refine r_icmp_ne (tgt := 31) dX12_wouldHave_17 (by decide) (fun c3 => ?_) (fun c3 => ?_)
    · have h := h.1 c3
      refine r_iinc 3 [(3, .int (y3 + 1)), (0, .ref (q 0)), (1, .int (y1)), (2, .int (y2))] dX12_wouldHave_31 rfl rfl (Nat.le_of_ble_eq_true rfl) rfl ?_
      refine r_goto (tgt := 2) dX12_wouldHave_34 (by decide) ?_
      refine r_ls [1, 2, 3, 0] (ls2 := [(0, .ref (q 0)), (1, .int (y1)), (2, .int (y2)), (3, .int (y3 + 1))]) rfl ?_
      exact h
    · have h := h.2 c3
      refine r_aload_n 0 dX12_wouldHave_20 rfl rfl ?_
      refine r_iload_n 2 dX12_wouldHave_21 rfl rfl ?_
      refine r_iload_n 3 dX12_wouldHave_22 rfl rfl ?_
      refine K_couldBe rfl (Nat.le_of_ble_eq_true rfl) dX12_wouldHave_23 (mB h (fun r4 S5 h => ?_))
      refine r_if_eqb (tgt := 31) dX12_wouldHave_26 (by decide) (fun c6 => ?_) (fun c6 => ?_)
      · have h := h.1 c6
        refine r_iinc 3 [(3, .int (y3 + 1)), (0, .ref (q 0)), (1, .int (y1)), (2, .int (y2))] dX12_wouldHave_31 rfl rfl (Nat.le_of_ble_eq_true rfl) rfl ?_
        refine r_goto (tgt := 2) dX12_wouldHave_34 (by decide) ?_
        refine r_ls [1, 2, 3, 0] (ls2 := [(0, .ref (q 0)), (1, .int (y1)), (2, .int (y2)), (3, .int (y3 + 1))]) rfl ?_
        exact h
      · have h := h.2 c6
        refine r_iconst_1 dX12_wouldHave_29 ?_
        exact r_zret1 dX12_wouldHave_30 rfl (Nat.le_refl _) (Nat.le_refl _) ⟨_, _, rfl, rfl, h⟩
abbrev T_lost_50 (E : EvT) (q : Nat → Nat) (D : Nat) (P : Int32 → StM → Prop) (S : StM) (y1 : Int32) (y2 : Int32) (y3 : Int32) (y4 : Int32) : Prop := RM E q iM_lost D (qI E q P) S [(0, .ref (q 0)), (1, .int (y1)), (2, .int (y2)), (3, .int (y3)), (4, .int (y4))] [] 50
abbrev T_lost_99 (E : EvT) (q : Nat → Nat) (D : Nat) (P : Int32 → StM → Prop) (S : StM) (y1 : Int32) (y4 : Int32) (y5 : Int32) (y6 : Int32) : Prop := RM E q iM_lost D (qI E q P) S [(0, .ref (q 0)), (1, .int (y1)), (4, .int (y4)), (5, .int (y5)), (6, .int (y6))] [] 99
abbrev T_lost_112 (E : EvT) (q : Nat → Nat) (D : Nat) (P : Int32 → StM → Prop) (S : StM) (y1 : Int32) (y4 : Int32) (y5 : Int32) (y6 : Int32) (y7 : Int32) (y8 : Int32) : Prop := RM E q iM_lost D (qI E q P) S [(0, .ref (q 0)), (1, .int (y1)), (4, .int (y4)), (5, .int (y5)), (6, .int (y6)), (7, .int (y7)), (8, .int (y8))] [] 112
set_option maxRecDepth 20000 in
theorem en_lost {E : EvT} {q : Nat → Nat} {d : Nat} {x1 : Int32} {x2 : Int32} {S : StM} {P : Int32 → StM → Prop} (h : ((mIn x1 0 100) = false → (P (-1) S)) ∧ ((mIn x1 0 100) = true → (((mIn x2 0 1) = false → (P (-1) S)) ∧ ((mIn x2 0 1) = true → ((x1 ≤ (s_taped S) → (C_hearsFinds E q (d + 6) x1 (sI S 28 0) (fun r4 S5 => (r4 = true → (T_lost_50 E q (d + 7) P S5 x1 x2 0 0)) ∧ (r4 = false → (P (-2) S5))))) ∧ (¬ x1 ≤ (s_taped S) → (P (-1) S))))))) : C_lost E q (d + 7) x1 x2 S P := by
  refine Cn.of rfl (Nat.le_of_ble_eq_true rfl) (ls := [(0, .ref (q 0)), (1, .int (x1)), (2, .int (x2))]) rfl ?_
  refine r_iload_n 1 dX12_lost_0 rfl rfl ?_
  refine r_iconst_0 dX12_lost_1 ?_
  refine r_bipush_100 dX12_lost_2 ?_
  refine KP_in (d := d + 6)  rfl (Nat.le_of_ble_eq_true rfl) dX12_lost_4 ?_
  refine r_if_eqb (tgt := 27) dX12_lost_7 (by decide) (fun c1 => ?_) (fun c1 => ?_)
  · have h := h.1 c1
    refine r_iconst_m1 dX12_lost_27 ?_
    exact r_iret dX12_lost_28 rfl (Nat.le_refl _) (Nat.le_refl _) ⟨_, _, rfl, rfl, h⟩
  · have h := h.2 c1
    refine r_iload_n 2 dX12_lost_10 rfl rfl ?_
    refine r_iconst_0 dX12_lost_11 ?_
    refine r_iconst_1 dX12_lost_12 ?_
    refine KP_in (d := d + 6)  rfl (Nat.le_of_ble_eq_true rfl) dX12_lost_13 ?_
    refine r_if_eqb (tgt := 27) dX12_lost_16 (by decide) (fun c2 => ?_) (fun c2 => ?_)
    · have h := h.1 c2
      refine r_iconst_m1 dX12_lost_27 ?_
      exact r_iret dX12_lost_28 rfl (Nat.le_refl _) (Nat.le_refl _) ⟨_, _, rfl, rfl, h⟩
    · have h := h.2 c2
      refine r_iload_n 1 dX12_lost_19 rfl rfl ?_
      refine r_aload_n 0 dX12_lost_20 rfl rfl ?_
      refine mg_28 rfl dX12_lost_21 ?_
      refine r_icmp_le (tgt := 29) dX12_lost_24 (by decide) (fun c3 => ?_) (fun c3 => ?_)
      · have h := h.1 c3
        refine r_aload_n 0 dX12_lost_29 rfl rfl ?_
        refine r_iconst_0 dX12_lost_30 ?_
        refine mq_28 rfl dX12_lost_31 ?_
        refine r_aload_n 0 dX12_lost_34 rfl rfl ?_
        refine r_iload_n 1 dX12_lost_35 rfl rfl ?_
        refine K_hearsFinds rfl (Nat.le_of_ble_eq_true rfl) dX12_lost_36 (mB h (fun r4 S5 h => ?_))
        refine r_if_neb (tgt := 45) dX12_lost_39 (by decide) (fun c6 => ?_) (fun c6 => ?_)
        · have h := h.1 c6
          refine r_iconst_0 dX12_lost_45 ?_
          refine r_istore_n [(3, .int (0)), (0, .ref (q 0)), (1, .int (x1)), (2, .int (x2))] dX12_lost_46 rfl (Nat.le_of_ble_eq_true rfl) rfl ?_
          refine r_iconst_0 dX12_lost_47 ?_
          refine r_istore [(4, .int (0)), (3, .int (0)), (0, .ref (q 0)), (1, .int (x1)), (2, .int (x2))] dX12_lost_48 (Nat.le_of_ble_eq_true rfl) rfl ?_
          refine r_ls [2, 3, 4, 1, 0] (ls2 := [(0, .ref (q 0)), (1, .int (x1)), (2, .int (x2)), (3, .int (0)), (4, .int (0))]) rfl ?_
          exact h
        · have h := h.2 c6
          refine r_bipush_m2 dX12_lost_42 ?_
          exact r_iret dX12_lost_44 rfl (Nat.le_refl _) (Nat.le_refl _) ⟨_, _, rfl, rfl, h⟩
      · have h := h.2 c3
        refine r_iconst_m1 dX12_lost_27 ?_
        exact r_iret dX12_lost_28 rfl (Nat.le_refl _) (Nat.le_refl _) ⟨_, _, rfl, rfl, h⟩
set_option maxRecDepth 20000 in
theorem sg_lost_50 {E : EvT} {q : Nat → Nat} {d : Nat} {S : StM} {P : Int32 → StM → Prop} {y1 : Int32} {y2 : Int32} {y3 : Int32} {y4 : Int32} (h : (y1 ≤ y4 → ((¬ y2 = 0 → (T_lost_99 E q (d + 7) P S y1 (-1) 0 0)) ∧ (y2 = 0 → (P y3 S)))) ∧ (¬ y1 ≤ y4 → ((0 ≤ y4 ∧ y4 < 100) ∧ (C_isLost E q (d + 6) (a_told S (ix y4)) S (fun r4 S5 => (r4 = false → (T_lost_50 E q (d + 7) P S5 y1 y2 (y3 + 0) (y4 + 1))) ∧ (r4 = true → (T_lost_50 E q (d + 7) P S5 y1 y2 (y3 + 1) (y4 + 1)))))))) : T_lost_50 E q (d + 7) P S y1 y2 y3 y4 := by
  refine r_iload 4 dX12_lost_50 rfl ?_
  refine r_iload_n 1 dX12_lost_52 rfl rfl ?_
  refine r_icmp_ge (tgt := 84) dX12_lost_53 (by decide) (fun c1 => ?_) (fun c1 => ?_)
  · have h := h.1 c1
    refine r_iload_n 2 dX12_lost_84 rfl rfl ?_
    refine r_if_ne (tgt := 90) dX12_lost_85 (by decide) (fun c2 => ?_) (fun c2 => ?_)
    · have h := h.1 c2
      refine r_iconst_m1 dX12_lost_90 ?_
      refine r_istore [(4, .int ((-1))), (0, .ref (q 0)), (1, .int (y1)), (2, .int (y2)), (3, .int (y3))] dX12_lost_91 (Nat.le_of_ble_eq_true rfl) rfl ?_
      refine r_iconst_0 dX12_lost_93 ?_
      refine r_istore [(5, .int (0)), (4, .int ((-1))), (0, .ref (q 0)), (1, .int (y1)), (2, .int (y2)), (3, .int (y3))] dX12_lost_94 (Nat.le_of_ble_eq_true rfl) rfl ?_
      refine r_iconst_0 dX12_lost_96 ?_
      refine r_istore [(6, .int (0)), (5, .int (0)), (4, .int ((-1))), (0, .ref (q 0)), (1, .int (y1)), (2, .int (y2)), (3, .int (y3))] dX12_lost_97 (Nat.le_of_ble_eq_true rfl) rfl ?_
      refine r_ls [3, 4, 2, 1, 0] (ls2 := [(0, .ref (q 0)), (1, .int (y1)), (4, .int ((-1))), (5, .int (0)), (6, .int (0))]) rfl ?_
      exact h
    · have h := h.2 c2
      refine r_iload_n 3 dX12_lost_88 rfl rfl ?_
      exact r_iret dX12_lost_89 rfl (Nat.le_refl _) (Nat.le_refl _) ⟨_, _, rfl, rfl, h⟩
  · have h := h.2 c1
    refine r_iload_n 3 dX12_lost_56 rfl rfl ?_
    refine r_aload_n 0 dX12_lost_57 rfl rfl ?_
    refine r_aload_n 0 dX12_lost_58 rfl rfl ?_
    refine mg_73 rfl dX12_lost_59 ?_
    refine r_iload 4 dX12_lost_62 rfl ?_
    obtain ⟨b3, h⟩ := h
    refine ml_73 b3 dX12_lost_64 ?_
    refine K_isLost rfl (Nat.le_of_ble_eq_true rfl) dX12_lost_65 (mB h (fun r4 S5 h => ?_))
    refine r_if_eqb (tgt := 75) dX12_lost_68 (by decide) (fun c6 => ?_) (fun c6 => ?_)
    · have h := h.1 c6
      refine r_iconst_0 dX12_lost_75 ?_
      refine r_iadd dX12_lost_76 ?_
      refine r_istore_n [(3, .int (y3 + 0)), (0, .ref (q 0)), (1, .int (y1)), (2, .int (y2)), (4, .int (y4))] dX12_lost_77 rfl (Nat.le_of_ble_eq_true rfl) rfl ?_
      refine r_iinc 4 [(4, .int (y4 + 1)), (3, .int (y3 + 0)), (0, .ref (q 0)), (1, .int (y1)), (2, .int (y2))] dX12_lost_78 rfl rfl (Nat.le_of_ble_eq_true rfl) rfl ?_
      refine r_goto (tgt := 50) dX12_lost_81 (by decide) ?_
      refine r_ls [2, 3, 4, 1, 0] (ls2 := [(0, .ref (q 0)), (1, .int (y1)), (2, .int (y2)), (3, .int (y3 + 0)), (4, .int (y4 + 1))]) rfl ?_
      exact h
    · have h := h.2 c6
      refine r_iconst_1 dX12_lost_71 ?_
      refine r_goto (tgt := 76) dX12_lost_72 (by decide) ?_
      refine r_iadd dX12_lost_76 ?_
      refine r_istore_n [(3, .int (y3 + 1)), (0, .ref (q 0)), (1, .int (y1)), (2, .int (y2)), (4, .int (y4))] dX12_lost_77 rfl (Nat.le_of_ble_eq_true rfl) rfl ?_
      refine r_iinc 4 [(4, .int (y4 + 1)), (3, .int (y3 + 1)), (0, .ref (q 0)), (1, .int (y1)), (2, .int (y2))] dX12_lost_78 rfl rfl (Nat.le_of_ble_eq_true rfl) rfl ?_
      refine r_goto (tgt := 50) dX12_lost_81 (by decide) ?_
      refine r_ls [2, 3, 4, 1, 0] (ls2 := [(0, .ref (q 0)), (1, .int (y1)), (2, .int (y2)), (3, .int (y3 + 1)), (4, .int (y4 + 1))]) rfl ?_
      exact h
set_option maxRecDepth 20000 in
theorem sg_lost_99 {E : EvT} {q : Nat → Nat} {d : Nat} {S : StM} {P : Int32 → StM → Prop} {y1 : Int32} {y4 : Int32} {y5 : Int32} {y6 : Int32} (h : (10 ≤ y6 → (P y4 S)) ∧ (¬ 10 ≤ y6 → (T_lost_112 E q (d + 7) P S y1 y4 y5 y6 0 0))) : T_lost_99 E q (d + 7) P S y1 y4 y5 y6 := by
  refine r_iload 4 dX12_lost_99 rfl ?_
  refine r_bipush_10 dX12_lost_101 ?_
  refine r_icmp_ge (tgt := 188) dX12_lost_103 (by decide) (fun c1 => ?_) (fun c1 => ?_)
  · have h := h.1 c1
    refine r_iload 2 dX12_lost_188 rfl ?_
    exact r_iret dX12_lost_190 rfl (Nat.le_refl _) (Nat.le_refl _) ⟨_, _, rfl, rfl, h⟩
  · have h := h.2 c1
    refine r_iconst_0 dX12_lost_106 ?_
    refine r_istore [(7, .int (0)), (0, .ref (q 0)), (1, .int (y1)), (4, .int (y4)), (5, .int (y5)), (6, .int (y6))] dX12_lost_107 (Nat.le_of_ble_eq_true rfl) rfl ?_
    refine r_iconst_0 dX12_lost_109 ?_
    refine r_istore [(8, .int (0)), (7, .int (0)), (0, .ref (q 0)), (1, .int (y1)), (4, .int (y4)), (5, .int (y5)), (6, .int (y6))] dX12_lost_110 (Nat.le_of_ble_eq_true rfl) rfl ?_
    refine r_ls [2, 3, 4, 5, 6, 1, 0] (ls2 := [(0, .ref (q 0)), (1, .int (y1)), (4, .int (y4)), (5, .int (y5)), (6, .int (y6)), (7, .int (0)), (8, .int (0))]) rfl ?_
    exact h
set_option maxRecDepth 20000 in
theorem sg_lost_112 {E : EvT} {q : Nat → Nat} {d : Nat} {S : StM} {P : Int32 → StM → Prop} {y1 : Int32} {y4 : Int32} {y5 : Int32} {y6 : Int32} {y7 : Int32} {y8 : Int32} (h : (y1 ≤ y8 → ((y5 < y7 → (T_lost_99 E q (d + 7) P S y1 y6 y7 (y6 + 1))) ∧ (¬ y5 < y7 → (T_lost_99 E q (d + 7) P S y1 y4 y5 (y6 + 1))))) ∧ (¬ y1 ≤ y8 → ((0 ≤ y8 ∧ y8 < 100) ∧ (C_isLost E q (d + 6) (a_told S (ix y8)) S (fun r4 S5 => (r4 = false → (T_lost_112 E q (d + 7) P S5 y1 y4 y5 y6 (y7 + 0) (y8 + 1))) ∧ (r4 = true → (C_wouldHave E q (d + 6) y6 (a_told S5 (ix y8)) S5 (fun r7 S8 => (r7 = false → (T_lost_112 E q (d + 7) P S8 y1 y4 y5 y6 (y7 + 0) (y8 + 1))) ∧ (r7 = true → (T_lost_112 E q (d + 7) P S8 y1 y4 y5 y6 (y7 + 1) (y8 + 1))))))))))) : T_lost_112 E q (d + 7) P S y1 y4 y5 y6 y7 y8 := by
  refine r_iload 6 dX12_lost_112 rfl ?_
  refine r_iload_n 1 dX12_lost_114 rfl rfl ?_
  refine r_icmp_ge (tgt := 164) dX12_lost_115 (by decide) (fun c1 => ?_) (fun c1 => ?_)
  · have h := h.1 c1
    refine r_iload 5 dX12_lost_164 rfl ?_
    refine r_iload 3 dX12_lost_166 rfl ?_
    refine r_icmp_gt (tgt := 174) dX12_lost_168 (by decide) (fun c2 => ?_) (fun c2 => ?_)
    · have h := h.1 c2
      refine r_iload 5 dX12_lost_174 rfl ?_
      refine r_istore [(5, .int (y7)), (0, .ref (q 0)), (1, .int (y1)), (4, .int (y4)), (6, .int (y6)), (7, .int (y7)), (8, .int (y8))] dX12_lost_176 (Nat.le_of_ble_eq_true rfl) rfl ?_
      refine r_iload 4 dX12_lost_178 rfl ?_
      refine r_istore [(4, .int (y6)), (5, .int (y7)), (0, .ref (q 0)), (1, .int (y1)), (6, .int (y6)), (7, .int (y7)), (8, .int (y8))] dX12_lost_180 (Nat.le_of_ble_eq_true rfl) rfl ?_
      refine r_iinc 4 [(6, .int (y6 + 1)), (4, .int (y6)), (5, .int (y7)), (0, .ref (q 0)), (1, .int (y1)), (7, .int (y7)), (8, .int (y8))] dX12_lost_182 rfl rfl (Nat.le_of_ble_eq_true rfl) rfl ?_
      refine r_goto (tgt := 99) dX12_lost_185 (by decide) ?_
      refine r_ls [3, 4, 1, 2, 0] (ls2 := [(0, .ref (q 0)), (1, .int (y1)), (4, .int (y6)), (5, .int (y7)), (6, .int (y6 + 1))]) rfl ?_
      exact h
    · have h := h.2 c2
      refine r_goto (tgt := 182) dX12_lost_171 (by decide) ?_
      refine r_iinc 4 [(6, .int (y6 + 1)), (0, .ref (q 0)), (1, .int (y1)), (4, .int (y4)), (5, .int (y5)), (7, .int (y7)), (8, .int (y8))] dX12_lost_182 rfl rfl (Nat.le_of_ble_eq_true rfl) rfl ?_
      refine r_goto (tgt := 99) dX12_lost_185 (by decide) ?_
      refine r_ls [1, 2, 3, 4, 0] (ls2 := [(0, .ref (q 0)), (1, .int (y1)), (4, .int (y4)), (5, .int (y5)), (6, .int (y6 + 1))]) rfl ?_
      exact h
  · have h := h.2 c1
    refine r_iload 5 dX12_lost_118 rfl ?_
    refine r_aload_n 0 dX12_lost_120 rfl rfl ?_
    refine r_aload_n 0 dX12_lost_121 rfl rfl ?_
    refine mg_73 rfl dX12_lost_122 ?_
    refine r_iload 6 dX12_lost_125 rfl ?_
    obtain ⟨b3, h⟩ := h
    refine ml_73 b3 dX12_lost_127 ?_
    refine K_isLost rfl (Nat.le_of_ble_eq_true rfl) dX12_lost_128 (mB h (fun r4 S5 h => ?_))
    refine r_if_eqb (tgt := 154) dX12_lost_131 (by decide) (fun c6 => ?_) (fun c6 => ?_)
    · have h := h.1 c6
      refine r_iconst_0 dX12_lost_154 ?_
      refine r_iadd dX12_lost_155 ?_
      refine r_istore [(7, .int (y7 + 0)), (0, .ref (q 0)), (1, .int (y1)), (4, .int (y4)), (5, .int (y5)), (6, .int (y6)), (8, .int (y8))] dX12_lost_156 (Nat.le_of_ble_eq_true rfl) rfl ?_
      refine r_iinc 6 [(8, .int (y8 + 1)), (7, .int (y7 + 0)), (0, .ref (q 0)), (1, .int (y1)), (4, .int (y4)), (5, .int (y5)), (6, .int (y6))] dX12_lost_158 rfl rfl (Nat.le_of_ble_eq_true rfl) rfl ?_
      refine r_goto (tgt := 112) dX12_lost_161 (by decide) ?_
      refine r_ls [2, 3, 4, 5, 6, 1, 0] (ls2 := [(0, .ref (q 0)), (1, .int (y1)), (4, .int (y4)), (5, .int (y5)), (6, .int (y6)), (7, .int (y7 + 0)), (8, .int (y8 + 1))]) rfl ?_
      exact h
    · have h := h.2 c6
      refine r_aload_n 0 dX12_lost_134 rfl rfl ?_
      refine r_iload 4 dX12_lost_135 rfl ?_
      refine r_aload_n 0 dX12_lost_137 rfl rfl ?_
      refine mg_73 rfl dX12_lost_138 ?_
      refine r_iload 6 dX12_lost_141 rfl ?_
      refine ml_73 b3 dX12_lost_143 ?_
      refine K_wouldHave rfl (Nat.le_of_ble_eq_true rfl) dX12_lost_144 (mB h (fun r7 S8 h => ?_))
      refine r_if_eqb (tgt := 154) dX12_lost_147 (by decide) (fun c9 => ?_) (fun c9 => ?_)
      · have h := h.1 c9
        refine r_iconst_0 dX12_lost_154 ?_
        refine r_iadd dX12_lost_155 ?_
        refine r_istore [(7, .int (y7 + 0)), (0, .ref (q 0)), (1, .int (y1)), (4, .int (y4)), (5, .int (y5)), (6, .int (y6)), (8, .int (y8))] dX12_lost_156 (Nat.le_of_ble_eq_true rfl) rfl ?_
        refine r_iinc 6 [(8, .int (y8 + 1)), (7, .int (y7 + 0)), (0, .ref (q 0)), (1, .int (y1)), (4, .int (y4)), (5, .int (y5)), (6, .int (y6))] dX12_lost_158 rfl rfl (Nat.le_of_ble_eq_true rfl) rfl ?_
        refine r_goto (tgt := 112) dX12_lost_161 (by decide) ?_
        refine r_ls [2, 3, 4, 5, 6, 1, 0] (ls2 := [(0, .ref (q 0)), (1, .int (y1)), (4, .int (y4)), (5, .int (y5)), (6, .int (y6)), (7, .int (y7 + 0)), (8, .int (y8 + 1))]) rfl ?_
        exact h
      · have h := h.2 c9
        refine r_iconst_1 dX12_lost_150 ?_
        refine r_goto (tgt := 155) dX12_lost_151 (by decide) ?_
        refine r_iadd dX12_lost_155 ?_
        refine r_istore [(7, .int (y7 + 1)), (0, .ref (q 0)), (1, .int (y1)), (4, .int (y4)), (5, .int (y5)), (6, .int (y6)), (8, .int (y8))] dX12_lost_156 (Nat.le_of_ble_eq_true rfl) rfl ?_
        refine r_iinc 6 [(8, .int (y8 + 1)), (7, .int (y7 + 1)), (0, .ref (q 0)), (1, .int (y1)), (4, .int (y4)), (5, .int (y5)), (6, .int (y6))] dX12_lost_158 rfl rfl (Nat.le_of_ble_eq_true rfl) rfl ?_
        refine r_goto (tgt := 112) dX12_lost_161 (by decide) ?_
        refine r_ls [2, 3, 4, 5, 6, 1, 0] (ls2 := [(0, .ref (q 0)), (1, .int (y1)), (4, .int (y4)), (5, .int (y5)), (6, .int (y6)), (7, .int (y7 + 1)), (8, .int (y8 + 1))]) rfl ?_
        exact h
set_option maxRecDepth 20000 in
theorem en_wall {E : EvT} {q : Nat → Nat} {d : Nat} {x1 : Int32} {x2 : Int32} {S : StM} {P : Int32 → StM → Prop} (h : ((mPlace S x1) = false → (P (-1) S)) ∧ ((mPlace S x1) = true → (((mIn x2 0 10000) = false → (P (-1) S)) ∧ ((mIn x2 0 10000) = true → ((¬ (s_walls S) = 30 → ((0 ≤ (s_walls S) ∧ (s_walls S) < 30) ∧ (P (((s_walls S) + 1) - 1) (sI (sA (sA S 81 (upd (a_wallPlace S) (ix (s_walls S)) x1)) 82 (upd (a_wallWorth S) (ix (s_walls S)) x2)) 79 ((s_walls S) + 1))))) ∧ ((s_walls S) = 30 → (P (-1) S))))))) : C_wall E q (d + 1) x1 x2 S P := by
  refine Cn.of rfl (Nat.le_of_ble_eq_true rfl) (ls := [(0, .ref (q 0)), (1, .int (x1)), (2, .int (x2))]) rfl ?_
  refine r_aload_n 0 dX12_wall_0 rfl rfl ?_
  refine r_iload_n 1 dX12_wall_1 rfl rfl ?_
  refine KP_isPlace (d := d + 0)  rfl (Nat.le_of_ble_eq_true rfl) dX12_wall_2 ?_
  refine r_if_eqb (tgt := 28) dX12_wall_5 (by decide) (fun c1 => ?_) (fun c1 => ?_)
  · have h := h.1 c1
    refine r_iconst_m1 dX12_wall_28 ?_
    exact r_iret dX12_wall_29 rfl (Nat.le_refl _) (Nat.le_refl _) ⟨_, _, rfl, rfl, h⟩
  · have h := h.2 c1
    refine r_iload_n 2 dX12_wall_8 rfl rfl ?_
    refine r_iconst_0 dX12_wall_9 ?_
    refine r_sipush_10000 dX12_wall_10 ?_
    refine KP_in (d := d + 0)  rfl (Nat.le_of_ble_eq_true rfl) dX12_wall_13 ?_
    refine r_if_eqb (tgt := 28) dX12_wall_16 (by decide) (fun c2 => ?_) (fun c2 => ?_)
    · have h := h.1 c2
      refine r_iconst_m1 dX12_wall_28 ?_
      exact r_iret dX12_wall_29 rfl (Nat.le_refl _) (Nat.le_refl _) ⟨_, _, rfl, rfl, h⟩
    · have h := h.2 c2
      refine r_aload_n 0 dX12_wall_19 rfl rfl ?_
      refine mg_79 rfl dX12_wall_20 ?_
      refine r_bipush_30 dX12_wall_23 ?_
      refine r_icmp_ne (tgt := 30) dX12_wall_25 (by decide) (fun c3 => ?_) (fun c3 => ?_)
      · have h := h.1 c3
        refine r_aload_n 0 dX12_wall_30 rfl rfl ?_
        refine mg_81 rfl dX12_wall_31 ?_
        refine r_aload_n 0 dX12_wall_34 rfl rfl ?_
        refine mg_79 rfl dX12_wall_35 ?_
        refine r_iload_n 1 dX12_wall_38 rfl rfl ?_
        obtain ⟨b4, h⟩ := h
        refine mt_81 b4 dX12_wall_39 ?_
        refine r_aload_n 0 dX12_wall_40 rfl rfl ?_
        refine mg_82 rfl dX12_wall_41 ?_
        refine r_aload_n 0 dX12_wall_44 rfl rfl ?_
        refine mg_79 rfl dX12_wall_45 ?_
        refine r_iload_n 2 dX12_wall_48 rfl rfl ?_
        refine mt_82 b4 dX12_wall_49 ?_
        refine r_aload_n 0 dX12_wall_50 rfl rfl ?_
        refine r_aload_n 0 dX12_wall_51 rfl rfl ?_
        refine mg_79 rfl dX12_wall_52 ?_
        refine r_iconst_1 dX12_wall_55 ?_
        refine r_iadd dX12_wall_56 ?_
        refine mq_79 rfl dX12_wall_57 ?_
        refine r_aload_n 0 dX12_wall_60 rfl rfl ?_
        refine mg_79 rfl dX12_wall_61 ?_
        refine r_iconst_1 dX12_wall_64 ?_
        refine r_isub dX12_wall_65 ?_
        exact r_iret dX12_wall_66 rfl (Nat.le_refl _) (Nat.le_refl _) ⟨_, _, rfl, rfl, h⟩
      · have h := h.2 c3
        refine r_iconst_m1 dX12_wall_28 ?_
        exact r_iret dX12_wall_29 rfl (Nat.le_refl _) (Nat.le_refl _) ⟨_, _, rfl, rfl, h⟩
set_option maxRecDepth 20000 in
theorem en_draws {E : EvT} {q : Nat → Nat} {d : Nat} {x1 : Int32} {x2 : Int32} {x3 : Int32} {x4 : Int32} {S : StM} {P : Int32 → StM → Prop} (h : (0 ≤ (s_drawings S) ∧ (s_drawings S) < 100) ∧ (P (((s_drawings S) + 1) - 1) (sI (sA (sA (sA (sA (sA S 83 (upd (a_drawWall S) (ix (s_drawings S)) x1)) 84 (upd (a_drawWeek S) (ix (s_drawings S)) x2)) 85 (upd (a_drawFeatures S) (ix (s_drawings S)) x3)) 86 (upd (a_drawTold S) (ix (s_drawings S)) (s_now S))) 88 (upd (a_isCopy S) (ix (s_drawings S)) (vp_nar .boolean x4))) 80 ((s_drawings S) + 1)))) : C_draws E q d x1 x2 x3 x4 S P := by
  refine Cn.of rfl (Nat.le_of_ble_eq_true rfl) (ls := [(0, .ref (q 0)), (1, .int (x1)), (2, .int (x2)), (3, .int (x3)), (4, .int (x4))]) rfl ?_
  refine r_aload_n 0 dX12_draws_0 rfl rfl ?_
  refine mg_83 rfl dX12_draws_1 ?_
  refine r_aload_n 0 dX12_draws_4 rfl rfl ?_
  refine mg_80 rfl dX12_draws_5 ?_
  refine r_iload_n 1 dX12_draws_8 rfl rfl ?_
  obtain ⟨b1, h⟩ := h
  refine mt_83 b1 dX12_draws_9 ?_
  refine r_aload_n 0 dX12_draws_10 rfl rfl ?_
  refine mg_84 rfl dX12_draws_11 ?_
  refine r_aload_n 0 dX12_draws_14 rfl rfl ?_
  refine mg_80 rfl dX12_draws_15 ?_
  refine r_iload_n 2 dX12_draws_18 rfl rfl ?_
  refine mt_84 b1 dX12_draws_19 ?_
  refine r_aload_n 0 dX12_draws_20 rfl rfl ?_
  refine mg_85 rfl dX12_draws_21 ?_
  refine r_aload_n 0 dX12_draws_24 rfl rfl ?_
  refine mg_80 rfl dX12_draws_25 ?_
  refine r_iload_n 3 dX12_draws_28 rfl rfl ?_
  refine mt_85 b1 dX12_draws_29 ?_
  refine r_aload_n 0 dX12_draws_30 rfl rfl ?_
  refine mg_86 rfl dX12_draws_31 ?_
  refine r_aload_n 0 dX12_draws_34 rfl rfl ?_
  refine mg_80 rfl dX12_draws_35 ?_
  refine r_aload_n 0 dX12_draws_38 rfl rfl ?_
  refine mg_2 rfl dX12_draws_39 ?_
  refine mt_86 b1 dX12_draws_42 ?_
  refine r_aload_n 0 dX12_draws_43 rfl rfl ?_
  refine mg_88 rfl dX12_draws_44 ?_
  refine r_aload_n 0 dX12_draws_47 rfl rfl ?_
  refine mg_80 rfl dX12_draws_48 ?_
  refine r_iload 4 dX12_draws_51 rfl ?_
  refine mt_88 b1 dX12_draws_53 ?_
  refine r_aload_n 0 dX12_draws_54 rfl rfl ?_
  refine r_aload_n 0 dX12_draws_55 rfl rfl ?_
  refine mg_80 rfl dX12_draws_56 ?_
  refine r_iconst_1 dX12_draws_59 ?_
  refine r_iadd dX12_draws_60 ?_
  refine mq_80 rfl dX12_draws_61 ?_
  refine r_aload_n 0 dX12_draws_64 rfl rfl ?_
  refine mg_80 rfl dX12_draws_65 ?_
  refine r_iconst_1 dX12_draws_68 ?_
  refine r_isub dX12_draws_69 ?_
  exact r_iret dX12_draws_70 rfl (Nat.le_refl _) (Nat.le_refl _) ⟨_, _, rfl, rfl, h⟩
set_option maxRecDepth 20000 in
theorem en_draw {E : EvT} {q : Nat → Nat} {d : Nat} {x1 : Int32} {x2 : Int32} {x3 : Int32} {S : StM} {P : Int32 → StM → Prop} (h : ((mWall S x1) = false → (P (-1) S)) ∧ ((mWall S x1) = true → (((mIn x2 0 (s_now S)) = false → (P (-1) S)) ∧ ((mIn x2 0 (s_now S)) = true → (((mIn x3 0 255) = false → (P (-1) S)) ∧ ((mIn x3 0 255) = true → ((100 ≤ (s_drawings S) → (P (-1) S)) ∧ (¬ 100 ≤ (s_drawings S) → (C_draws E q d x1 x2 x3 0 S (fun r5 S6 => P r5 S6)))))))))) : C_draw E q (d + 1) x1 x2 x3 S P := by
  refine Cn.of rfl (Nat.le_of_ble_eq_true rfl) (ls := [(0, .ref (q 0)), (1, .int (x1)), (2, .int (x2)), (3, .int (x3))]) rfl ?_
  refine r_aload_n 0 dX12_draw_0 rfl rfl ?_
  refine r_iload_n 1 dX12_draw_1 rfl rfl ?_
  refine KP_isWall (d := d + 0)  rfl (Nat.le_of_ble_eq_true rfl) dX12_draw_2 ?_
  refine r_if_eqb (tgt := 51) dX12_draw_5 (by decide) (fun c1 => ?_) (fun c1 => ?_)
  · have h := h.1 c1
    refine r_iconst_m1 dX12_draw_51 ?_
    exact r_iret dX12_draw_52 rfl (Nat.le_refl _) (Nat.le_refl _) ⟨_, _, rfl, rfl, h⟩
  · have h := h.2 c1
    refine r_iload_n 2 dX12_draw_8 rfl rfl ?_
    refine r_iconst_0 dX12_draw_9 ?_
    refine r_aload_n 0 dX12_draw_10 rfl rfl ?_
    refine mg_2 rfl dX12_draw_11 ?_
    refine KP_in (d := d + 0)  rfl (Nat.le_of_ble_eq_true rfl) dX12_draw_14 ?_
    refine r_if_eqb (tgt := 51) dX12_draw_17 (by decide) (fun c2 => ?_) (fun c2 => ?_)
    · have h := h.1 c2
      refine r_iconst_m1 dX12_draw_51 ?_
      exact r_iret dX12_draw_52 rfl (Nat.le_refl _) (Nat.le_refl _) ⟨_, _, rfl, rfl, h⟩
    · have h := h.2 c2
      refine r_iload_n 3 dX12_draw_20 rfl rfl ?_
      refine r_iconst_0 dX12_draw_21 ?_
      refine r_sipush_255 dX12_draw_22 ?_
      refine KP_in (d := d + 0)  rfl (Nat.le_of_ble_eq_true rfl) dX12_draw_25 ?_
      refine r_if_eqb (tgt := 51) dX12_draw_28 (by decide) (fun c3 => ?_) (fun c3 => ?_)
      · have h := h.1 c3
        refine r_iconst_m1 dX12_draw_51 ?_
        exact r_iret dX12_draw_52 rfl (Nat.le_refl _) (Nat.le_refl _) ⟨_, _, rfl, rfl, h⟩
      · have h := h.2 c3
        refine r_aload_n 0 dX12_draw_31 rfl rfl ?_
        refine mg_80 rfl dX12_draw_32 ?_
        refine r_bipush_100 dX12_draw_35 ?_
        refine r_icmp_ge (tgt := 51) dX12_draw_37 (by decide) (fun c4 => ?_) (fun c4 => ?_)
        · have h := h.1 c4
          refine r_iconst_m1 dX12_draw_51 ?_
          exact r_iret dX12_draw_52 rfl (Nat.le_refl _) (Nat.le_refl _) ⟨_, _, rfl, rfl, h⟩
        · have h := h.2 c4
          refine r_aload_n 0 dX12_draw_40 rfl rfl ?_
          refine r_iload_n 1 dX12_draw_41 rfl rfl ?_
          refine r_iload_n 2 dX12_draw_42 rfl rfl ?_
          refine r_iload_n 3 dX12_draw_43 rfl rfl ?_
          refine r_iconst_0 dX12_draw_44 ?_
          refine K_draws rfl (Nat.le_of_ble_eq_true rfl) dX12_draw_45 (mI h (fun r5 S6 h => ?_))
          refine r_goto (tgt := 52) dX12_draw_48 (by decide) ?_
          exact r_iret dX12_draw_52 rfl (Nat.le_refl _) (Nat.le_refl _) ⟨_, _, rfl, rfl, h⟩
set_option maxRecDepth 20000 in
theorem en_copy {E : EvT} {q : Nat → Nat} {d : Nat} {x1 : Int32} {x2 : Int32} {S : StM} {P : Int32 → StM → Prop} (h : (x1 < 0 → (P (-1) S)) ∧ (¬ x1 < 0 → (((s_drawings S) ≤ x1 → (P (-1) S)) ∧ (¬ (s_drawings S) ≤ x1 → (((mIn x2 0 (s_now S)) = false → (P (-1) S)) ∧ ((mIn x2 0 (s_now S)) = true → ((100 ≤ (s_drawings S) → (P (-1) S)) ∧ (¬ 100 ≤ (s_drawings S) → ((0 ≤ x1 ∧ x1 < 100) ∧ (C_draws E q d (a_drawWall S (ix x1)) x2 (a_drawFeatures S (ix x1)) 1 S (fun r6 S7 => P r6 S7))))))))))) : C_copy E q (d + 1) x1 x2 S P := by
  refine Cn.of rfl (Nat.le_of_ble_eq_true rfl) (ls := [(0, .ref (q 0)), (1, .int (x1)), (2, .int (x2))]) rfl ?_
  refine r_iload_n 1 dX12_copy_0 rfl rfl ?_
  refine r_if_lt (tgt := 54) dX12_copy_1 (by decide) (fun c1 => ?_) (fun c1 => ?_)
  · have h := h.1 c1
    refine r_iconst_m1 dX12_copy_54 ?_
    exact r_iret dX12_copy_55 rfl (Nat.le_refl _) (Nat.le_refl _) ⟨_, _, rfl, rfl, h⟩
  · have h := h.2 c1
    refine r_iload_n 1 dX12_copy_4 rfl rfl ?_
    refine r_aload_n 0 dX12_copy_5 rfl rfl ?_
    refine mg_80 rfl dX12_copy_6 ?_
    refine r_icmp_ge (tgt := 54) dX12_copy_9 (by decide) (fun c2 => ?_) (fun c2 => ?_)
    · have h := h.1 c2
      refine r_iconst_m1 dX12_copy_54 ?_
      exact r_iret dX12_copy_55 rfl (Nat.le_refl _) (Nat.le_refl _) ⟨_, _, rfl, rfl, h⟩
    · have h := h.2 c2
      refine r_iload_n 2 dX12_copy_12 rfl rfl ?_
      refine r_iconst_0 dX12_copy_13 ?_
      refine r_aload_n 0 dX12_copy_14 rfl rfl ?_
      refine mg_2 rfl dX12_copy_15 ?_
      refine KP_in (d := d + 0)  rfl (Nat.le_of_ble_eq_true rfl) dX12_copy_18 ?_
      refine r_if_eqb (tgt := 54) dX12_copy_21 (by decide) (fun c3 => ?_) (fun c3 => ?_)
      · have h := h.1 c3
        refine r_iconst_m1 dX12_copy_54 ?_
        exact r_iret dX12_copy_55 rfl (Nat.le_refl _) (Nat.le_refl _) ⟨_, _, rfl, rfl, h⟩
      · have h := h.2 c3
        refine r_aload_n 0 dX12_copy_24 rfl rfl ?_
        refine mg_80 rfl dX12_copy_25 ?_
        refine r_bipush_100 dX12_copy_28 ?_
        refine r_icmp_ge (tgt := 54) dX12_copy_30 (by decide) (fun c4 => ?_) (fun c4 => ?_)
        · have h := h.1 c4
          refine r_iconst_m1 dX12_copy_54 ?_
          exact r_iret dX12_copy_55 rfl (Nat.le_refl _) (Nat.le_refl _) ⟨_, _, rfl, rfl, h⟩
        · have h := h.2 c4
          refine r_aload_n 0 dX12_copy_33 rfl rfl ?_
          refine r_aload_n 0 dX12_copy_34 rfl rfl ?_
          refine mg_83 rfl dX12_copy_35 ?_
          refine r_iload_n 1 dX12_copy_38 rfl rfl ?_
          obtain ⟨b5, h⟩ := h
          refine ml_83 b5 dX12_copy_39 ?_
          refine r_iload_n 2 dX12_copy_40 rfl rfl ?_
          refine r_aload_n 0 dX12_copy_41 rfl rfl ?_
          refine mg_85 rfl dX12_copy_42 ?_
          refine r_iload_n 1 dX12_copy_45 rfl rfl ?_
          refine ml_85 b5 dX12_copy_46 ?_
          refine r_iconst_1 dX12_copy_47 ?_
          refine K_draws rfl (Nat.le_of_ble_eq_true rfl) dX12_copy_48 (mI h (fun r6 S7 h => ?_))
          refine r_goto (tgt := 55) dX12_copy_51 (by decide) ?_
          exact r_iret dX12_copy_55 rfl (Nat.le_refl _) (Nat.le_refl _) ⟨_, _, rfl, rfl, h⟩
abbrev T_looksAt_5 (E : EvT) (q : Nat → Nat) (D : Nat) (P : Int32 → StM → Prop) (S : StM) (y1 : Int32) (y2 : Int32) (y3 : Int32) (y4 : Int32) : Prop := RM E q iM_looksAt D (qI E q P) S [(0, .ref (q 0)), (1, .int (y1)), (2, .int (y2)), (3, .int (y3)), (4, .int (y4))] [] 5
abbrev T_looksAt_52 (E : EvT) (q : Nat → Nat) (D : Nat) (P : Int32 → StM → Prop) (S : StM) (y1 : Int32) (y2 : Int32) (y3 : Int32) (y4 : Int32) (y5 : Int32) : Prop := RM E q iM_looksAt D (qI E q P) S [(0, .ref (q 0)), (1, .int (y1)), (2, .int (y2)), (3, .int (y3)), (4, .int (y4)), (5, .int (y5))] [] 52
set_option maxRecDepth 20000 in
theorem en_looksAt {E : EvT} {q : Nat → Nat} {d : Nat} {x1 : Int32} {x2 : Int32} {S : StM} {P : Int32 → StM → Prop} (h : T_looksAt_5 E q d P S x1 x2 0 0) : C_looksAt E q d x1 x2 S P := by
  refine Cn.of rfl (Nat.le_of_ble_eq_true rfl) (ls := [(0, .ref (q 0)), (1, .int (x1)), (2, .int (x2))]) rfl ?_
  refine r_iconst_0 dX12_looksAt_0 ?_
  refine r_istore_n [(3, .int (0)), (0, .ref (q 0)), (1, .int (x1)), (2, .int (x2))] dX12_looksAt_1 rfl (Nat.le_of_ble_eq_true rfl) rfl ?_
  refine r_iconst_0 dX12_looksAt_2 ?_
  refine r_istore [(4, .int (0)), (3, .int (0)), (0, .ref (q 0)), (1, .int (x1)), (2, .int (x2))] dX12_looksAt_3 (Nat.le_of_ble_eq_true rfl) rfl ?_
  refine r_ls [2, 3, 4, 1, 0] (ls2 := [(0, .ref (q 0)), (1, .int (x1)), (2, .int (x2)), (3, .int (0)), (4, .int (0))]) rfl ?_
  exact h
set_option maxRecDepth 20000 in
theorem sg_looksAt_5 {E : EvT} {q : Nat → Nat} {d : Nat} {S : StM} {P : Int32 → StM → Prop} {y1 : Int32} {y2 : Int32} {y3 : Int32} {y4 : Int32} (h : ((s_drawings S) ≤ y4 → (P y3 S)) ∧ (¬ (s_drawings S) ≤ y4 → ((0 ≤ y4 ∧ y4 < 100) ∧ ((¬ (a_drawWall S (ix y4)) = y1 → (T_looksAt_5 E q d P S y1 y2 y3 (y4 + 1))) ∧ ((a_drawWall S (ix y4)) = y1 → ((¬ (a_isCopy S (ix y4)) = 0 → (T_looksAt_5 E q d P S y1 y2 y3 (y4 + 1))) ∧ ((a_isCopy S (ix y4)) = 0 → (((a_drawTold S (ix y4)) ≤ y2 → (T_looksAt_52 E q d P S y1 y2 y3 y4 y3)) ∧ (¬ (a_drawTold S (ix y4)) ≤ y2 → (T_looksAt_5 E q d P S y1 y2 y3 (y4 + 1))))))))))) : T_looksAt_5 E q d P S y1 y2 y3 y4 := by
  refine r_iload 4 dX12_looksAt_5 rfl ?_
  refine r_aload_n 0 dX12_looksAt_7 rfl rfl ?_
  refine mg_80 rfl dX12_looksAt_8 ?_
  refine r_icmp_ge (tgt := 125) dX12_looksAt_11 (by decide) (fun c1 => ?_) (fun c1 => ?_)
  · have h := h.1 c1
    refine r_iload_n 3 dX12_looksAt_125 rfl rfl ?_
    exact r_iret dX12_looksAt_126 rfl (Nat.le_refl _) (Nat.le_refl _) ⟨_, _, rfl, rfl, h⟩
  · have h := h.2 c1
    refine r_aload_n 0 dX12_looksAt_14 rfl rfl ?_
    refine mg_83 rfl dX12_looksAt_15 ?_
    refine r_iload 4 dX12_looksAt_18 rfl ?_
    obtain ⟨b2, h⟩ := h
    refine ml_83 b2 dX12_looksAt_20 ?_
    refine r_iload_n 1 dX12_looksAt_21 rfl rfl ?_
    refine r_icmp_ne (tgt := 119) dX12_looksAt_22 (by decide) (fun c3 => ?_) (fun c3 => ?_)
    · have h := h.1 c3
      refine r_iinc 4 [(4, .int (y4 + 1)), (0, .ref (q 0)), (1, .int (y1)), (2, .int (y2)), (3, .int (y3))] dX12_looksAt_119 rfl rfl (Nat.le_of_ble_eq_true rfl) rfl ?_
      refine r_goto (tgt := 5) dX12_looksAt_122 (by decide) ?_
      refine r_ls [1, 2, 3, 4, 0] (ls2 := [(0, .ref (q 0)), (1, .int (y1)), (2, .int (y2)), (3, .int (y3)), (4, .int (y4 + 1))]) rfl ?_
      exact h
    · have h := h.2 c3
      refine r_aload_n 0 dX12_looksAt_25 rfl rfl ?_
      refine mg_88 rfl dX12_looksAt_26 ?_
      refine r_iload 4 dX12_looksAt_29 rfl ?_
      refine ml_88 b2 dX12_looksAt_31 ?_
      refine r_if_ne (tgt := 119) dX12_looksAt_32 (by decide) (fun c4 => ?_) (fun c4 => ?_)
      · have h := h.1 c4
        refine r_iinc 4 [(4, .int (y4 + 1)), (0, .ref (q 0)), (1, .int (y1)), (2, .int (y2)), (3, .int (y3))] dX12_looksAt_119 rfl rfl (Nat.le_of_ble_eq_true rfl) rfl ?_
        refine r_goto (tgt := 5) dX12_looksAt_122 (by decide) ?_
        refine r_ls [1, 2, 3, 4, 0] (ls2 := [(0, .ref (q 0)), (1, .int (y1)), (2, .int (y2)), (3, .int (y3)), (4, .int (y4 + 1))]) rfl ?_
        exact h
      · have h := h.2 c4
        refine r_aload_n 0 dX12_looksAt_35 rfl rfl ?_
        refine mg_86 rfl dX12_looksAt_36 ?_
        refine r_iload 4 dX12_looksAt_39 rfl ?_
        refine ml_86 b2 dX12_looksAt_41 ?_
        refine r_iload_n 2 dX12_looksAt_42 rfl rfl ?_
        refine r_icmp_le (tgt := 49) dX12_looksAt_43 (by decide) (fun c5 => ?_) (fun c5 => ?_)
        · have h := h.1 c5
          refine r_iload_n 3 dX12_looksAt_49 rfl rfl ?_
          refine r_istore [(5, .int (y3)), (0, .ref (q 0)), (1, .int (y1)), (2, .int (y2)), (3, .int (y3)), (4, .int (y4))] dX12_looksAt_50 (Nat.le_of_ble_eq_true rfl) rfl ?_
          refine r_ls [1, 2, 3, 4, 5, 0] (ls2 := [(0, .ref (q 0)), (1, .int (y1)), (2, .int (y2)), (3, .int (y3)), (4, .int (y4)), (5, .int (y3))]) rfl ?_
          exact h
        · have h := h.2 c5
          refine r_goto (tgt := 119) dX12_looksAt_46 (by decide) ?_
          refine r_iinc 4 [(4, .int (y4 + 1)), (0, .ref (q 0)), (1, .int (y1)), (2, .int (y2)), (3, .int (y3))] dX12_looksAt_119 rfl rfl (Nat.le_of_ble_eq_true rfl) rfl ?_
          refine r_goto (tgt := 5) dX12_looksAt_122 (by decide) ?_
          refine r_ls [1, 2, 3, 4, 0] (ls2 := [(0, .ref (q 0)), (1, .int (y1)), (2, .int (y2)), (3, .int (y3)), (4, .int (y4 + 1))]) rfl ?_
          exact h
set_option maxRecDepth 20000 in
theorem sg_looksAt_52 {E : EvT} {q : Nat → Nat} {d : Nat} {S : StM} {P : Int32 → StM → Prop} {y1 : Int32} {y2 : Int32} {y3 : Int32} {y4 : Int32} {y5 : Int32} (h : (y5 ≤ 0 → ((0 ≤ y5 ∧ y5 < 100) ∧ (T_looksAt_5 E q d P (sA S 87 (upd (a_lookOf S) (ix y5) y4)) y1 y2 (y3 + 1) (y4 + 1)))) ∧ (¬ y5 ≤ 0 → ((0 ≤ (y5 - 1) ∧ (y5 - 1) < 100) ∧ ((0 ≤ (a_lookOf S (ix (y5 - 1))) ∧ (a_lookOf S (ix (y5 - 1))) < 100) ∧ ((0 ≤ y4 ∧ y4 < 100) ∧ (((a_drawWeek S (ix (a_lookOf S (ix (y5 - 1))))) ≤ (a_drawWeek S (ix y4)) → ((0 ≤ y5 ∧ y5 < 100) ∧ (T_looksAt_5 E q d P (sA S 87 (upd (a_lookOf S) (ix y5) y4)) y1 y2 (y3 + 1) (y4 + 1)))) ∧ (¬ (a_drawWeek S (ix (a_lookOf S (ix (y5 - 1))))) ≤ (a_drawWeek S (ix y4)) → ((0 ≤ y5 ∧ y5 < 100) ∧ (T_looksAt_52 E q d P (sA S 87 (upd (a_lookOf S) (ix y5) (a_lookOf S (ix (y5 - 1))))) y1 y2 y3 y4 (y5 - 1)))))))))) : T_looksAt_52 E q d P S y1 y2 y3 y4 y5 := by
  refine r_iload 5 dX12_looksAt_52 rfl ?_
  refine r_if_le (tgt := 106) dX12_looksAt_54 (by decide) (fun c1 => ?_) (fun c1 => ?_)
  · have h := h.1 c1
    refine r_aload_n 0 dX12_looksAt_106 rfl rfl ?_
    refine mg_87 rfl dX12_looksAt_107 ?_
    refine r_iload 5 dX12_looksAt_110 rfl ?_
    refine r_iload 4 dX12_looksAt_112 rfl ?_
    obtain ⟨b2, h⟩ := h
    refine mt_87 b2 dX12_looksAt_114 ?_
    refine r_iload_n 3 dX12_looksAt_115 rfl rfl ?_
    refine r_iconst_1 dX12_looksAt_116 ?_
    refine r_iadd dX12_looksAt_117 ?_
    refine r_istore_n [(3, .int (y3 + 1)), (0, .ref (q 0)), (1, .int (y1)), (2, .int (y2)), (4, .int (y4)), (5, .int (y5))] dX12_looksAt_118 rfl (Nat.le_of_ble_eq_true rfl) rfl ?_
    refine r_iinc 4 [(4, .int (y4 + 1)), (3, .int (y3 + 1)), (0, .ref (q 0)), (1, .int (y1)), (2, .int (y2)), (5, .int (y5))] dX12_looksAt_119 rfl rfl (Nat.le_of_ble_eq_true rfl) rfl ?_
    refine r_goto (tgt := 5) dX12_looksAt_122 (by decide) ?_
    refine r_ls [2, 3, 4, 1, 0] (ls2 := [(0, .ref (q 0)), (1, .int (y1)), (2, .int (y2)), (3, .int (y3 + 1)), (4, .int (y4 + 1))]) rfl ?_
    exact h
  · have h := h.2 c1
    refine r_aload_n 0 dX12_looksAt_57 rfl rfl ?_
    refine mg_84 rfl dX12_looksAt_58 ?_
    refine r_aload_n 0 dX12_looksAt_61 rfl rfl ?_
    refine mg_87 rfl dX12_looksAt_62 ?_
    refine r_iload 5 dX12_looksAt_65 rfl ?_
    refine r_iconst_1 dX12_looksAt_67 ?_
    refine r_isub dX12_looksAt_68 ?_
    obtain ⟨b3, h⟩ := h
    refine ml_87 b3 dX12_looksAt_69 ?_
    obtain ⟨b4, h⟩ := h
    refine ml_84 b4 dX12_looksAt_70 ?_
    refine r_aload_n 0 dX12_looksAt_71 rfl rfl ?_
    refine mg_84 rfl dX12_looksAt_72 ?_
    refine r_iload 4 dX12_looksAt_75 rfl ?_
    obtain ⟨b5, h⟩ := h
    refine ml_84 b5 dX12_looksAt_77 ?_
    refine r_icmp_le (tgt := 106) dX12_looksAt_78 (by decide) (fun c6 => ?_) (fun c6 => ?_)
    · have h := h.1 c6
      refine r_aload_n 0 dX12_looksAt_106 rfl rfl ?_
      refine mg_87 rfl dX12_looksAt_107 ?_
      refine r_iload 5 dX12_looksAt_110 rfl ?_
      refine r_iload 4 dX12_looksAt_112 rfl ?_
      obtain ⟨b7, h⟩ := h
      refine mt_87 b7 dX12_looksAt_114 ?_
      refine r_iload_n 3 dX12_looksAt_115 rfl rfl ?_
      refine r_iconst_1 dX12_looksAt_116 ?_
      refine r_iadd dX12_looksAt_117 ?_
      refine r_istore_n [(3, .int (y3 + 1)), (0, .ref (q 0)), (1, .int (y1)), (2, .int (y2)), (4, .int (y4)), (5, .int (y5))] dX12_looksAt_118 rfl (Nat.le_of_ble_eq_true rfl) rfl ?_
      refine r_iinc 4 [(4, .int (y4 + 1)), (3, .int (y3 + 1)), (0, .ref (q 0)), (1, .int (y1)), (2, .int (y2)), (5, .int (y5))] dX12_looksAt_119 rfl rfl (Nat.le_of_ble_eq_true rfl) rfl ?_
      refine r_goto (tgt := 5) dX12_looksAt_122 (by decide) ?_
      refine r_ls [2, 3, 4, 1, 0] (ls2 := [(0, .ref (q 0)), (1, .int (y1)), (2, .int (y2)), (3, .int (y3 + 1)), (4, .int (y4 + 1))]) rfl ?_
      exact h
    · have h := h.2 c6
      refine r_aload_n 0 dX12_looksAt_81 rfl rfl ?_
      refine mg_87 rfl dX12_looksAt_82 ?_
      refine r_iload 5 dX12_looksAt_85 rfl ?_
      refine r_aload_n 0 dX12_looksAt_87 rfl rfl ?_
      refine mg_87 rfl dX12_looksAt_88 ?_
      refine r_iload 5 dX12_looksAt_91 rfl ?_
      refine r_iconst_1 dX12_looksAt_93 ?_
      refine r_isub dX12_looksAt_94 ?_
      refine ml_87 b3 dX12_looksAt_95 ?_
      obtain ⟨b8, h⟩ := h
      refine mt_87 b8 dX12_looksAt_96 ?_
      refine r_iload 5 dX12_looksAt_97 rfl ?_
      refine r_iconst_1 dX12_looksAt_99 ?_
      refine r_isub dX12_looksAt_100 ?_
      refine r_istore [(5, .int (y5 - 1)), (0, .ref (q 0)), (1, .int (y1)), (2, .int (y2)), (3, .int (y3)), (4, .int (y4))] dX12_looksAt_101 (Nat.le_of_ble_eq_true rfl) rfl ?_
      refine r_goto (tgt := 52) dX12_looksAt_103 (by decide) ?_
      refine r_ls [1, 2, 3, 4, 5, 0] (ls2 := [(0, .ref (q 0)), (1, .int (y1)), (2, .int (y2)), (3, .int (y3)), (4, .int (y4)), (5, .int (y5 - 1))]) rfl ?_
      exact h
abbrev T_stood_54 (E : EvT) (q : Nat → Nat) (D : Nat) (P : Int32 → StM → Prop) (S : StM) (y2 : Int32) (y4 : Int32) (y5 : Int32) (y6 : Int32) (y7 : Int32) (y8 : Int32) : Prop := RM E q iM_stood D (qI E q P) S [(0, .ref (q 0)), (2, .int (y2)), (4, .int (y4)), (5, .int (y5)), (6, .int (y6)), (7, .int (y7)), (8, .int (y8))] [] 54
abbrev T_stood_163 (E : EvT) (q : Nat → Nat) (D : Nat) (P : Int32 → StM → Prop) (S : StM) (y2 : Int32) (y4 : Int32) (y6 : Int32) (y8 : Int32) : Prop := RM E q iM_stood D (qI E q P) S [(0, .ref (q 0)), (2, .int (y2)), (4, .int (y4)), (6, .int (y6)), (8, .int (y8))] [] 163
abbrev T_stood_202 (E : EvT) (q : Nat → Nat) (D : Nat) (P : Int32 → StM → Prop) (S : StM) (y2 : Int32) (y4 : Int32) (y8 : Int32) (y9 : Int32) : Prop := RM E q iM_stood D (qI E q P) S [(0, .ref (q 0)), (2, .int (y2)), (4, .int (y4)), (8, .int (y8)), (9, .int (y9))] [] 202
set_option maxRecDepth 20000 in
theorem en_stood {E : EvT} {q : Nat → Nat} {d : Nat} {x1 : Int32} {x2 : Int32} {x3 : Int32} {x4 : Int32} {S : StM} {P : Int32 → StM → Prop} (h : ((mWall S x1) = false → (P (-1) S)) ∧ ((mWall S x1) = true → (((mIn x2 0 7) = false → (P (-1) S)) ∧ ((mIn x2 0 7) = true → (((mWeek x3) = false → (P (-1) S)) ∧ ((mWeek x3) = true → (((mIn x4 0 3) = true → (C_looksAt E q d x1 x3 S (fun r5 S6 => T_stood_54 E q (d + 1) P S6 x2 x4 r5 (-1) (-1) 0))) ∧ ((mIn x4 0 3) = false → (P (-1) S))))))))) : C_stood E q (d + 1) x1 x2 x3 x4 S P := by
  refine Cn.of rfl (Nat.le_of_ble_eq_true rfl) (ls := [(0, .ref (q 0)), (1, .int (x1)), (2, .int (x2)), (3, .int (x3)), (4, .int (x4))]) rfl ?_
  refine r_aload_n 0 dX12_stood_0 rfl rfl ?_
  refine r_iload_n 1 dX12_stood_1 rfl rfl ?_
  refine KP_isWall (d := d + 0)  rfl (Nat.le_of_ble_eq_true rfl) dX12_stood_2 ?_
  refine r_if_eqb (tgt := 35) dX12_stood_5 (by decide) (fun c1 => ?_) (fun c1 => ?_)
  · have h := h.1 c1
    refine r_iconst_m1 dX12_stood_35 ?_
    exact r_iret dX12_stood_36 rfl (Nat.le_refl _) (Nat.le_refl _) ⟨_, _, rfl, rfl, h⟩
  · have h := h.2 c1
    refine r_iload_n 2 dX12_stood_8 rfl rfl ?_
    refine r_iconst_0 dX12_stood_9 ?_
    refine r_bipush_7 dX12_stood_10 ?_
    refine KP_in (d := d + 0)  rfl (Nat.le_of_ble_eq_true rfl) dX12_stood_12 ?_
    refine r_if_eqb (tgt := 35) dX12_stood_15 (by decide) (fun c2 => ?_) (fun c2 => ?_)
    · have h := h.1 c2
      refine r_iconst_m1 dX12_stood_35 ?_
      exact r_iret dX12_stood_36 rfl (Nat.le_refl _) (Nat.le_refl _) ⟨_, _, rfl, rfl, h⟩
    · have h := h.2 c2
      refine r_iload_n 3 dX12_stood_18 rfl rfl ?_
      refine KP_isWeek (d := d + 0)  rfl (Nat.le_of_ble_eq_true rfl) dX12_stood_19 ?_
      refine r_if_eqb (tgt := 35) dX12_stood_22 (by decide) (fun c3 => ?_) (fun c3 => ?_)
      · have h := h.1 c3
        refine r_iconst_m1 dX12_stood_35 ?_
        exact r_iret dX12_stood_36 rfl (Nat.le_refl _) (Nat.le_refl _) ⟨_, _, rfl, rfl, h⟩
      · have h := h.2 c3
        refine r_iload 4 dX12_stood_25 rfl ?_
        refine r_iconst_0 dX12_stood_27 ?_
        refine r_iconst_3 dX12_stood_28 ?_
        refine KP_in (d := d + 0)  rfl (Nat.le_of_ble_eq_true rfl) dX12_stood_29 ?_
        refine r_if_neb (tgt := 37) dX12_stood_32 (by decide) (fun c4 => ?_) (fun c4 => ?_)
        · have h := h.1 c4
          refine r_aload_n 0 dX12_stood_37 rfl rfl ?_
          refine r_iload_n 1 dX12_stood_38 rfl rfl ?_
          refine r_iload_n 3 dX12_stood_39 rfl rfl ?_
          refine K_looksAt rfl (Nat.le_of_ble_eq_true rfl) dX12_stood_40 (mI h (fun r5 S6 h => ?_))
          refine r_istore [(5, .int (r5)), (0, .ref (q 0)), (1, .int (x1)), (2, .int (x2)), (3, .int (x3)), (4, .int (x4))] dX12_stood_43 (Nat.le_of_ble_eq_true rfl) rfl ?_
          refine r_iconst_m1 dX12_stood_45 ?_
          refine r_istore [(6, .int ((-1))), (5, .int (r5)), (0, .ref (q 0)), (1, .int (x1)), (2, .int (x2)), (3, .int (x3)), (4, .int (x4))] dX12_stood_46 (Nat.le_of_ble_eq_true rfl) rfl ?_
          refine r_iconst_m1 dX12_stood_48 ?_
          refine r_istore [(7, .int ((-1))), (6, .int ((-1))), (5, .int (r5)), (0, .ref (q 0)), (1, .int (x1)), (2, .int (x2)), (3, .int (x3)), (4, .int (x4))] dX12_stood_49 (Nat.le_of_ble_eq_true rfl) rfl ?_
          refine r_iconst_0 dX12_stood_51 ?_
          refine r_istore [(8, .int (0)), (7, .int ((-1))), (6, .int ((-1))), (5, .int (r5)), (0, .ref (q 0)), (1, .int (x1)), (2, .int (x2)), (3, .int (x3)), (4, .int (x4))] dX12_stood_52 (Nat.le_of_ble_eq_true rfl) rfl ?_
          refine r_ls [4, 6, 8, 3, 2, 1, 0] (ls2 := [(0, .ref (q 0)), (2, .int (x2)), (4, .int (x4)), (5, .int (r5)), (6, .int ((-1))), (7, .int ((-1))), (8, .int (0))]) rfl ?_
          exact h
        · have h := h.2 c4
          refine r_iconst_m1 dX12_stood_35 ?_
          exact r_iret dX12_stood_36 rfl (Nat.le_refl _) (Nat.le_refl _) ⟨_, _, rfl, rfl, h⟩
set_option maxRecDepth 20000 in
theorem sg_stood_54 {E : EvT} {q : Nat → Nat} {d : Nat} {S : StM} {P : Int32 → StM → Prop} {y2 : Int32} {y4 : Int32} {y5 : Int32} {y6 : Int32} {y7 : Int32} {y8 : Int32} (h : (y5 ≤ y8 → ((¬ y6 = (-1) → ((¬ y4 = 0 → ((¬ y4 = 1 → (T_stood_163 E q (d + 1) P S y2 y4 y6 y7)) ∧ (y4 = 1 → ((y5 ≤ (y6 + 1) → (P (-1) S)) ∧ (¬ y5 ≤ (y6 + 1) → ((0 ≤ (y6 + 1) ∧ (y6 + 1) < 100) ∧ ((0 ≤ (a_lookOf S (ix (y6 + 1))) ∧ (a_lookOf S (ix (y6 + 1))) < 100) ∧ (P (a_drawWeek S (ix (a_lookOf S (ix (y6 + 1))))) S)))))))) ∧ (y4 = 0 → ((0 ≤ y6 ∧ y6 < 100) ∧ ((0 ≤ (a_lookOf S (ix y6)) ∧ (a_lookOf S (ix y6)) < 100) ∧ (P (a_drawWeek S (ix (a_lookOf S (ix y6)))) S)))))) ∧ (y6 = (-1) → (P (-1) S)))) ∧ (¬ y5 ≤ y8 → (((0 ≤ y8 ∧ y8 < 100) ∧ 0 ≤ a_lookOf S (ix y8) ∧ a_lookOf S (ix y8) < 100) ∧ (((mShows S y8 y2) = true → ((¬ y7 = (-1) → (T_stood_54 E q (d + 1) P S y2 y4 y5 y8 y7 (y8 + 1))) ∧ (y7 = (-1) → (T_stood_54 E q (d + 1) P S y2 y4 y5 y8 y8 (y8 + 1))))) ∧ ((mShows S y8 y2) = false → (T_stood_54 E q (d + 1) P S y2 y4 y5 y6 y7 (y8 + 1))))))) : T_stood_54 E q (d + 1) P S y2 y4 y5 y6 y7 y8 := by
  refine r_iload 6 dX12_stood_54 rfl ?_
  refine r_iload 3 dX12_stood_56 rfl ?_
  refine r_icmp_ge (tgt := 99) dX12_stood_58 (by decide) (fun c1 => ?_) (fun c1 => ?_)
  · have h := h.1 c1
    refine r_iload 4 dX12_stood_99 rfl ?_
    refine r_iconst_m1 dX12_stood_101 ?_
    refine r_icmp_ne (tgt := 107) dX12_stood_102 (by decide) (fun c2 => ?_) (fun c2 => ?_)
    · have h := h.1 c2
      refine r_iload 2 dX12_stood_107 rfl ?_
      refine r_if_ne (tgt := 125) dX12_stood_109 (by decide) (fun c3 => ?_) (fun c3 => ?_)
      · have h := h.1 c3
        refine r_iload 2 dX12_stood_125 rfl ?_
        refine r_iconst_1 dX12_stood_127 ?_
        refine r_icmp_ne (tgt := 159) dX12_stood_128 (by decide) (fun c4 => ?_) (fun c4 => ?_)
        · have h := h.1 c4
          refine r_iload 5 dX12_stood_159 rfl ?_
          refine r_istore [(8, .int (y7)), (0, .ref (q 0)), (2, .int (y2)), (4, .int (y4)), (5, .int (y5)), (6, .int (y6)), (7, .int (y7))] dX12_stood_161 (Nat.le_of_ble_eq_true rfl) rfl ?_
          refine r_ls [1, 2, 3, 5, 0] (ls2 := [(0, .ref (q 0)), (2, .int (y2)), (4, .int (y4)), (6, .int (y6)), (8, .int (y7))]) rfl ?_
          exact h
        · have h := h.2 c4
          refine r_iload 4 dX12_stood_131 rfl ?_
          refine r_iconst_1 dX12_stood_133 ?_
          refine r_iadd dX12_stood_134 ?_
          refine r_iload 3 dX12_stood_135 rfl ?_
          refine r_icmp_ge (tgt := 157) dX12_stood_137 (by decide) (fun c5 => ?_) (fun c5 => ?_)
          · have h := h.1 c5
            refine r_iconst_m1 dX12_stood_157 ?_
            exact r_iret dX12_stood_158 rfl (Nat.le_refl _) (Nat.le_refl _) ⟨_, _, rfl, rfl, h⟩
          · have h := h.2 c5
            refine r_aload_n 0 dX12_stood_140 rfl rfl ?_
            refine mg_84 rfl dX12_stood_141 ?_
            refine r_aload_n 0 dX12_stood_144 rfl rfl ?_
            refine mg_87 rfl dX12_stood_145 ?_
            refine r_iload 4 dX12_stood_148 rfl ?_
            refine r_iconst_1 dX12_stood_150 ?_
            refine r_iadd dX12_stood_151 ?_
            obtain ⟨b6, h⟩ := h
            refine ml_87 b6 dX12_stood_152 ?_
            obtain ⟨b7, h⟩ := h
            refine ml_84 b7 dX12_stood_153 ?_
            refine r_goto (tgt := 158) dX12_stood_154 (by decide) ?_
            exact r_iret dX12_stood_158 rfl (Nat.le_refl _) (Nat.le_refl _) ⟨_, _, rfl, rfl, h⟩
      · have h := h.2 c3
        refine r_aload_n 0 dX12_stood_112 rfl rfl ?_
        refine mg_84 rfl dX12_stood_113 ?_
        refine r_aload_n 0 dX12_stood_116 rfl rfl ?_
        refine mg_87 rfl dX12_stood_117 ?_
        refine r_iload 4 dX12_stood_120 rfl ?_
        obtain ⟨b8, h⟩ := h
        refine ml_87 b8 dX12_stood_122 ?_
        obtain ⟨b9, h⟩ := h
        refine ml_84 b9 dX12_stood_123 ?_
        exact r_iret dX12_stood_124 rfl (Nat.le_refl _) (Nat.le_refl _) ⟨_, _, rfl, rfl, h⟩
    · have h := h.2 c2
      refine r_iconst_m1 dX12_stood_105 ?_
      exact r_iret dX12_stood_106 rfl (Nat.le_refl _) (Nat.le_refl _) ⟨_, _, rfl, rfl, h⟩
  · have h := h.2 c1
    refine r_aload_n 0 dX12_stood_61 rfl rfl ?_
    refine r_iload 6 dX12_stood_62 rfl ?_
    refine r_iload_n 1 dX12_stood_64 rfl rfl ?_
    obtain ⟨b10, h⟩ := h
    refine KP_shows (d := d + 0) b10 rfl (Nat.le_of_ble_eq_true rfl) dX12_stood_65 ?_
    refine r_if_neb (tgt := 74) dX12_stood_68 (by decide) (fun c11 => ?_) (fun c11 => ?_)
    · have h := h.1 c11
      refine r_iload 6 dX12_stood_74 rfl ?_
      refine r_istore [(6, .int (y8)), (0, .ref (q 0)), (2, .int (y2)), (4, .int (y4)), (5, .int (y5)), (7, .int (y7)), (8, .int (y8))] dX12_stood_76 (Nat.le_of_ble_eq_true rfl) rfl ?_
      refine r_iload 5 dX12_stood_78 rfl ?_
      refine r_iconst_m1 dX12_stood_80 ?_
      refine r_icmp_ne (tgt := 89) dX12_stood_81 (by decide) (fun c12 => ?_) (fun c12 => ?_)
      · have h := h.1 c12
        refine r_iload 5 dX12_stood_89 rfl ?_
        refine r_istore [(7, .int (y7)), (6, .int (y8)), (0, .ref (q 0)), (2, .int (y2)), (4, .int (y4)), (5, .int (y5)), (8, .int (y8))] dX12_stood_91 (Nat.le_of_ble_eq_true rfl) rfl ?_
        refine r_iinc 6 [(8, .int (y8 + 1)), (7, .int (y7)), (6, .int (y8)), (0, .ref (q 0)), (2, .int (y2)), (4, .int (y4)), (5, .int (y5))] dX12_stood_93 rfl rfl (Nat.le_of_ble_eq_true rfl) rfl ?_
        refine r_goto (tgt := 54) dX12_stood_96 (by decide) ?_
        refine r_ls [3, 4, 5, 6, 2, 1, 0] (ls2 := [(0, .ref (q 0)), (2, .int (y2)), (4, .int (y4)), (5, .int (y5)), (6, .int (y8)), (7, .int (y7)), (8, .int (y8 + 1))]) rfl ?_
        exact h
      · have h := h.2 c12
        refine r_iload 6 dX12_stood_84 rfl ?_
        refine r_goto (tgt := 91) dX12_stood_86 (by decide) ?_
        refine r_istore [(7, .int (y8)), (6, .int (y8)), (0, .ref (q 0)), (2, .int (y2)), (4, .int (y4)), (5, .int (y5)), (8, .int (y8))] dX12_stood_91 (Nat.le_of_ble_eq_true rfl) rfl ?_
        refine r_iinc 6 [(8, .int (y8 + 1)), (7, .int (y8)), (6, .int (y8)), (0, .ref (q 0)), (2, .int (y2)), (4, .int (y4)), (5, .int (y5))] dX12_stood_93 rfl rfl (Nat.le_of_ble_eq_true rfl) rfl ?_
        refine r_goto (tgt := 54) dX12_stood_96 (by decide) ?_
        refine r_ls [3, 4, 5, 6, 2, 1, 0] (ls2 := [(0, .ref (q 0)), (2, .int (y2)), (4, .int (y4)), (5, .int (y5)), (6, .int (y8)), (7, .int (y8)), (8, .int (y8 + 1))]) rfl ?_
        exact h
    · have h := h.2 c11
      refine r_goto (tgt := 93) dX12_stood_71 (by decide) ?_
      refine r_iinc 6 [(8, .int (y8 + 1)), (0, .ref (q 0)), (2, .int (y2)), (4, .int (y4)), (5, .int (y5)), (6, .int (y6)), (7, .int (y7))] dX12_stood_93 rfl rfl (Nat.le_of_ble_eq_true rfl) rfl ?_
      refine r_goto (tgt := 54) dX12_stood_96 (by decide) ?_
      refine r_ls [1, 2, 3, 4, 5, 6, 0] (ls2 := [(0, .ref (q 0)), (2, .int (y2)), (4, .int (y4)), (5, .int (y5)), (6, .int (y6)), (7, .int (y7)), (8, .int (y8 + 1))]) rfl ?_
      exact h
set_option maxRecDepth 20000 in
theorem sg_stood_163 {E : EvT} {q : Nat → Nat} {d : Nat} {S : StM} {P : Int32 → StM → Prop} {y2 : Int32} {y4 : Int32} {y6 : Int32} {y8 : Int32} (h : (y6 ≤ y8 → ((¬ y8 = y6 → (T_stood_202 E q (d + 1) P S y2 y4 y8 y8)) ∧ (y8 = y6 → (P (-1) S)))) ∧ (¬ y6 ≤ y8 → (((0 ≤ y8 ∧ y8 < 100) ∧ 0 ≤ a_lookOf S (ix y8) ∧ a_lookOf S (ix y8) < 100) ∧ (((mShows S y8 y2) = false → ((¬ y8 = y6 → (T_stood_202 E q (d + 1) P S y2 y4 y8 y8)) ∧ (y8 = y6 → (P (-1) S)))) ∧ ((mShows S y8 y2) = true → (T_stood_163 E q (d + 1) P S y2 y4 y6 (y8 + 1))))))) : T_stood_163 E q (d + 1) P S y2 y4 y6 y8 := by
  refine r_iload 4 dX12_stood_163 rfl ?_
  refine r_iload 3 dX12_stood_165 rfl ?_
  refine r_icmp_ge (tgt := 189) dX12_stood_167 (by decide) (fun c1 => ?_) (fun c1 => ?_)
  · have h := h.1 c1
    refine r_iload 4 dX12_stood_189 rfl ?_
    refine r_iload 3 dX12_stood_191 rfl ?_
    refine r_icmp_ne (tgt := 198) dX12_stood_193 (by decide) (fun c2 => ?_) (fun c2 => ?_)
    · have h := h.1 c2
      refine r_iload 4 dX12_stood_198 rfl ?_
      refine r_istore [(9, .int (y8)), (0, .ref (q 0)), (2, .int (y2)), (4, .int (y4)), (6, .int (y6)), (8, .int (y8))] dX12_stood_200 (Nat.le_of_ble_eq_true rfl) rfl ?_
      refine r_ls [1, 2, 3, 5, 0] (ls2 := [(0, .ref (q 0)), (2, .int (y2)), (4, .int (y4)), (8, .int (y8)), (9, .int (y8))]) rfl ?_
      exact h
    · have h := h.2 c2
      refine r_iconst_m1 dX12_stood_196 ?_
      exact r_iret dX12_stood_197 rfl (Nat.le_refl _) (Nat.le_refl _) ⟨_, _, rfl, rfl, h⟩
  · have h := h.2 c1
    refine r_aload_n 0 dX12_stood_170 rfl rfl ?_
    refine r_iload 4 dX12_stood_171 rfl ?_
    refine r_iload_n 1 dX12_stood_173 rfl rfl ?_
    obtain ⟨b3, h⟩ := h
    refine KP_shows (d := d + 0) b3 rfl (Nat.le_of_ble_eq_true rfl) dX12_stood_174 ?_
    refine r_if_eqb (tgt := 189) dX12_stood_177 (by decide) (fun c4 => ?_) (fun c4 => ?_)
    · have h := h.1 c4
      refine r_iload 4 dX12_stood_189 rfl ?_
      refine r_iload 3 dX12_stood_191 rfl ?_
      refine r_icmp_ne (tgt := 198) dX12_stood_193 (by decide) (fun c5 => ?_) (fun c5 => ?_)
      · have h := h.1 c5
        refine r_iload 4 dX12_stood_198 rfl ?_
        refine r_istore [(9, .int (y8)), (0, .ref (q 0)), (2, .int (y2)), (4, .int (y4)), (6, .int (y6)), (8, .int (y8))] dX12_stood_200 (Nat.le_of_ble_eq_true rfl) rfl ?_
        refine r_ls [1, 2, 3, 5, 0] (ls2 := [(0, .ref (q 0)), (2, .int (y2)), (4, .int (y4)), (8, .int (y8)), (9, .int (y8))]) rfl ?_
        exact h
      · have h := h.2 c5
        refine r_iconst_m1 dX12_stood_196 ?_
        exact r_iret dX12_stood_197 rfl (Nat.le_refl _) (Nat.le_refl _) ⟨_, _, rfl, rfl, h⟩
    · have h := h.2 c4
      refine r_iload 4 dX12_stood_180 rfl ?_
      refine r_iconst_1 dX12_stood_182 ?_
      refine r_iadd dX12_stood_183 ?_
      refine r_istore [(8, .int (y8 + 1)), (0, .ref (q 0)), (2, .int (y2)), (4, .int (y4)), (6, .int (y6))] dX12_stood_184 (Nat.le_of_ble_eq_true rfl) rfl ?_
      refine r_goto (tgt := 163) dX12_stood_186 (by decide) ?_
      refine r_ls [1, 2, 3, 4, 0] (ls2 := [(0, .ref (q 0)), (2, .int (y2)), (4, .int (y4)), (6, .int (y6)), (8, .int (y8 + 1))]) rfl ?_
      exact h
set_option maxRecDepth 20000 in
theorem sg_stood_202 {E : EvT} {q : Nat → Nat} {d : Nat} {S : StM} {P : Int32 → StM → Prop} {y2 : Int32} {y4 : Int32} {y8 : Int32} {y9 : Int32} (h : ((0 ≤ y9 ∧ y9 < 100) ∧ 0 ≤ a_lookOf S (ix y9) ∧ a_lookOf S (ix y9) < 100) ∧ (((mShows S y9 y2) = true → ((¬ y4 = 2 → ((0 ≤ y9 ∧ y9 < 100) ∧ (P (a_lookOf S (ix y9)) S))) ∧ (y4 = 2 → ((0 ≤ y8 ∧ y8 < 100) ∧ (P (a_lookOf S (ix y8)) S))))) ∧ ((mShows S y9 y2) = false → (T_stood_202 E q (d + 1) P S y2 y4 y8 (y9 + 1))))) : T_stood_202 E q (d + 1) P S y2 y4 y8 y9 := by
  refine r_aload_n 0 dX12_stood_202 rfl rfl ?_
  refine r_iload 4 dX12_stood_203 rfl ?_
  refine r_iload_n 1 dX12_stood_205 rfl rfl ?_
  obtain ⟨b1, h⟩ := h
  refine KP_shows (d := d + 0) b1 rfl (Nat.le_of_ble_eq_true rfl) dX12_stood_206 ?_
  refine r_if_neb (tgt := 221) dX12_stood_209 (by decide) (fun c2 => ?_) (fun c2 => ?_)
  · have h := h.1 c2
    refine r_aload_n 0 dX12_stood_221 rfl rfl ?_
    refine mg_87 rfl dX12_stood_222 ?_
    refine r_iload 2 dX12_stood_225 rfl ?_
    refine r_iconst_2 dX12_stood_227 ?_
    refine r_icmp_ne (tgt := 236) dX12_stood_228 (by decide) (fun c3 => ?_) (fun c3 => ?_)
    · have h := h.1 c3
      refine r_iload 4 dX12_stood_236 rfl ?_
      obtain ⟨b4, h⟩ := h
      refine ml_87 b4 dX12_stood_238 ?_
      exact r_iret dX12_stood_239 rfl (Nat.le_refl _) (Nat.le_refl _) ⟨_, _, rfl, rfl, h⟩
    · have h := h.2 c3
      refine r_iload 3 dX12_stood_231 rfl ?_
      refine r_goto (tgt := 238) dX12_stood_233 (by decide) ?_
      obtain ⟨b5, h⟩ := h
      refine ml_87 b5 dX12_stood_238 ?_
      exact r_iret dX12_stood_239 rfl (Nat.le_refl _) (Nat.le_refl _) ⟨_, _, rfl, rfl, h⟩
  · have h := h.2 c2
    refine r_iload 4 dX12_stood_212 rfl ?_
    refine r_iconst_1 dX12_stood_214 ?_
    refine r_iadd dX12_stood_215 ?_
    refine r_istore [(9, .int (y9 + 1)), (0, .ref (q 0)), (2, .int (y2)), (4, .int (y4)), (8, .int (y8))] dX12_stood_216 (Nat.le_of_ble_eq_true rfl) rfl ?_
    refine r_goto (tgt := 202) dX12_stood_218 (by decide) ?_
    refine r_ls [1, 2, 3, 4, 0] (ls2 := [(0, .ref (q 0)), (2, .int (y2)), (4, .int (y4)), (8, .int (y8)), (9, .int (y9 + 1))]) rfl ?_
    exact h
set_option maxRecDepth 20000 in
theorem en_ash {E : EvT} {q : Nat → Nat} {d : Nat} {x1 : Int32} {x2 : Int32} {x3 : Int32} {S : StM} {P : Bool → StM → Prop} (h : ((mLayer x1) = false → (P false S)) ∧ ((mLayer x1) = true → (((mIn x2 0 99) = false → (P false S)) ∧ ((mIn x2 0 99) = true → (((mIn x3 x2 99) = true → ((0 ≤ x1 ∧ x1 < 8) ∧ (P true (sA (sA S 91 (upd (a_hourFrom S) (ix x1) x2)) 92 (upd (a_hourTo S) (ix x1) x3))))) ∧ ((mIn x3 x2 99) = false → (P false S))))))) : C_ash E q (d + 1) x1 x2 x3 S P := by
  refine Cn.of rfl (Nat.le_of_ble_eq_true rfl) (ls := [(0, .ref (q 0)), (1, .int (x1)), (2, .int (x2)), (3, .int (x3))]) rfl ?_
  refine r_iload_n 1 dX12_ash_0 rfl rfl ?_
  refine KP_isLayer (d := d + 0)  rfl (Nat.le_of_ble_eq_true rfl) dX12_ash_1 ?_
  refine r_if_eqb (tgt := 27) dX12_ash_4 (by decide) (fun c1 => ?_) (fun c1 => ?_)
  · have h := h.1 c1
    refine r_iconst_0 dX12_ash_27 ?_
    exact r_zret0 dX12_ash_28 rfl (Nat.le_refl _) (Nat.le_refl _) ⟨_, _, rfl, rfl, h⟩
  · have h := h.2 c1
    refine r_iload_n 2 dX12_ash_7 rfl rfl ?_
    refine r_iconst_0 dX12_ash_8 ?_
    refine r_bipush_99 dX12_ash_9 ?_
    refine KP_in (d := d + 0)  rfl (Nat.le_of_ble_eq_true rfl) dX12_ash_11 ?_
    refine r_if_eqb (tgt := 27) dX12_ash_14 (by decide) (fun c2 => ?_) (fun c2 => ?_)
    · have h := h.1 c2
      refine r_iconst_0 dX12_ash_27 ?_
      exact r_zret0 dX12_ash_28 rfl (Nat.le_refl _) (Nat.le_refl _) ⟨_, _, rfl, rfl, h⟩
    · have h := h.2 c2
      refine r_iload_n 3 dX12_ash_17 rfl rfl ?_
      refine r_iload_n 2 dX12_ash_18 rfl rfl ?_
      refine r_bipush_99 dX12_ash_19 ?_
      refine KP_in (d := d + 0)  rfl (Nat.le_of_ble_eq_true rfl) dX12_ash_21 ?_
      refine r_if_neb (tgt := 29) dX12_ash_24 (by decide) (fun c3 => ?_) (fun c3 => ?_)
      · have h := h.1 c3
        refine r_aload_n 0 dX12_ash_29 rfl rfl ?_
        refine mg_91 rfl dX12_ash_30 ?_
        refine r_iload_n 1 dX12_ash_33 rfl rfl ?_
        refine r_iload_n 2 dX12_ash_34 rfl rfl ?_
        obtain ⟨b4, h⟩ := h
        refine mt_91 b4 dX12_ash_35 ?_
        refine r_aload_n 0 dX12_ash_36 rfl rfl ?_
        refine mg_92 rfl dX12_ash_37 ?_
        refine r_iload_n 1 dX12_ash_40 rfl rfl ?_
        refine r_iload_n 3 dX12_ash_41 rfl rfl ?_
        refine mt_92 b4 dX12_ash_42 ?_
        refine r_iconst_1 dX12_ash_43 ?_
        exact r_zret1 dX12_ash_44 rfl (Nat.le_refl _) (Nat.le_refl _) ⟨_, _, rfl, rfl, h⟩
      · have h := h.2 c3
        refine r_iconst_0 dX12_ash_27 ?_
        exact r_zret0 dX12_ash_28 rfl (Nat.le_refl _) (Nat.le_refl _) ⟨_, _, rfl, rfl, h⟩
set_option maxRecDepth 20000 in
theorem en_above {E : EvT} {q : Nat → Nat} {d : Nat} {x1 : Int32} {x2 : Int32} {S : StM} {P : Bool → StM → Prop} (h : ((mLayer x1) = false → (P false S)) ∧ ((mLayer x1) = true → (((mLayer x2) = false → (P false S)) ∧ ((mLayer x2) = true → ((x1 = x2 → (P false S)) ∧ (¬ x1 = x2 → ((¬ (s_cuts S) = 40 → ((0 ≤ (s_cuts S) ∧ (s_cuts S) < 40) ∧ (P true (sI (sA (sA S 93 (upd (a_cutA S) (ix (s_cuts S)) x1)) 94 (upd (a_cutB S) (ix (s_cuts S)) x2)) 89 ((s_cuts S) + 1))))) ∧ ((s_cuts S) = 40 → (P false S))))))))) : C_above E q (d + 1) x1 x2 S P := by
  refine Cn.of rfl (Nat.le_of_ble_eq_true rfl) (ls := [(0, .ref (q 0)), (1, .int (x1)), (2, .int (x2))]) rfl ?_
  refine r_iload_n 1 dX12_above_0 rfl rfl ?_
  refine KP_isLayer (d := d + 0)  rfl (Nat.le_of_ble_eq_true rfl) dX12_above_1 ?_
  refine r_if_eqb (tgt := 28) dX12_above_4 (by decide) (fun c1 => ?_) (fun c1 => ?_)
  · have h := h.1 c1
    refine r_iconst_0 dX12_above_28 ?_
    exact r_zret0 dX12_above_29 rfl (Nat.le_refl _) (Nat.le_refl _) ⟨_, _, rfl, rfl, h⟩
  · have h := h.2 c1
    refine r_iload_n 2 dX12_above_7 rfl rfl ?_
    refine KP_isLayer (d := d + 0)  rfl (Nat.le_of_ble_eq_true rfl) dX12_above_8 ?_
    refine r_if_eqb (tgt := 28) dX12_above_11 (by decide) (fun c2 => ?_) (fun c2 => ?_)
    · have h := h.1 c2
      refine r_iconst_0 dX12_above_28 ?_
      exact r_zret0 dX12_above_29 rfl (Nat.le_refl _) (Nat.le_refl _) ⟨_, _, rfl, rfl, h⟩
    · have h := h.2 c2
      refine r_iload_n 1 dX12_above_14 rfl rfl ?_
      refine r_iload_n 2 dX12_above_15 rfl rfl ?_
      refine r_icmp_eq (tgt := 28) dX12_above_16 (by decide) (fun c3 => ?_) (fun c3 => ?_)
      · have h := h.1 c3
        refine r_iconst_0 dX12_above_28 ?_
        exact r_zret0 dX12_above_29 rfl (Nat.le_refl _) (Nat.le_refl _) ⟨_, _, rfl, rfl, h⟩
      · have h := h.2 c3
        refine r_aload_n 0 dX12_above_19 rfl rfl ?_
        refine mg_89 rfl dX12_above_20 ?_
        refine r_bipush_40 dX12_above_23 ?_
        refine r_icmp_ne (tgt := 30) dX12_above_25 (by decide) (fun c4 => ?_) (fun c4 => ?_)
        · have h := h.1 c4
          refine r_aload_n 0 dX12_above_30 rfl rfl ?_
          refine mg_93 rfl dX12_above_31 ?_
          refine r_aload_n 0 dX12_above_34 rfl rfl ?_
          refine mg_89 rfl dX12_above_35 ?_
          refine r_iload_n 1 dX12_above_38 rfl rfl ?_
          obtain ⟨b5, h⟩ := h
          refine mt_93 b5 dX12_above_39 ?_
          refine r_aload_n 0 dX12_above_40 rfl rfl ?_
          refine mg_94 rfl dX12_above_41 ?_
          refine r_aload_n 0 dX12_above_44 rfl rfl ?_
          refine mg_89 rfl dX12_above_45 ?_
          refine r_iload_n 2 dX12_above_48 rfl rfl ?_
          refine mt_94 b5 dX12_above_49 ?_
          refine r_aload_n 0 dX12_above_50 rfl rfl ?_
          refine r_aload_n 0 dX12_above_51 rfl rfl ?_
          refine mg_89 rfl dX12_above_52 ?_
          refine r_iconst_1 dX12_above_55 ?_
          refine r_iadd dX12_above_56 ?_
          refine mq_89 rfl dX12_above_57 ?_
          refine r_iconst_1 dX12_above_60 ?_
          exact r_zret1 dX12_above_61 rfl (Nat.le_refl _) (Nat.le_refl _) ⟨_, _, rfl, rfl, h⟩
        · have h := h.2 c4
          refine r_iconst_0 dX12_above_28 ?_
          exact r_zret0 dX12_above_29 rfl (Nat.le_refl _) (Nat.le_refl _) ⟨_, _, rfl, rfl, h⟩
abbrev T_hours_2 (E : EvT) (q : Nat → Nat) (D : Nat) (P : Bool → StM → Prop) (S : StM) (y1 : Int32) : Prop := RM E q iM_hours D (qB E q P) S [(0, .ref (q 0)), (1, .int (y1))] [] 2
abbrev T_hours_40 (E : EvT) (q : Nat → Nat) (D : Nat) (P : Bool → StM → Prop) (S : StM) (y1 : Int32) : Prop := RM E q iM_hours D (qB E q P) S [(0, .ref (q 0)), (1, .int (y1))] [] 40
abbrev T_hours_48 (E : EvT) (q : Nat → Nat) (D : Nat) (P : Bool → StM → Prop) (S : StM) (y1 : Int32) (y2 : Int32) : Prop := RM E q iM_hours D (qB E q P) S [(0, .ref (q 0)), (1, .int (y1)), (2, .int (y2))] [] 48
set_option maxRecDepth 20000 in
theorem en_hours {E : EvT} {q : Nat → Nat} {d : Nat} {S : StM} {P : Bool → StM → Prop} (h : T_hours_2 E q d P S 0) : C_hours E q d S P := by
  refine Cn.of rfl (Nat.le_of_ble_eq_true rfl) (ls := [(0, .ref (q 0))]) rfl ?_
  refine r_iconst_0 dX12_hours_0 ?_
  refine r_istore_n [(1, .int (0)), (0, .ref (q 0))] dX12_hours_1 rfl (Nat.le_of_ble_eq_true rfl) rfl ?_
  refine r_ls [1, 0] (ls2 := [(0, .ref (q 0)), (1, .int (0))]) rfl ?_
  exact h
set_option maxRecDepth 20000 in
theorem sg_hours_2 {E : EvT} {q : Nat → Nat} {d : Nat} {S : StM} {P : Bool → StM → Prop} {y1 : Int32} (h : (8 ≤ y1 → (T_hours_40 E q d P S 1)) ∧ (¬ 8 ≤ y1 → ((0 ≤ y1 ∧ y1 < 8) ∧ (T_hours_2 E q d P (sA (sA S 95 (upd (a_early S) (ix y1) (a_hourFrom S (ix y1)))) 96 (upd (a_late S) (ix y1) (a_hourTo S (ix y1)))) (y1 + 1))))) : T_hours_2 E q d P S y1 := by
  refine r_iload_n 1 dX12_hours_2 rfl rfl ?_
  refine r_bipush_8 dX12_hours_3 ?_
  refine r_icmp_ge (tgt := 38) dX12_hours_5 (by decide) (fun c1 => ?_) (fun c1 => ?_)
  · have h := h.1 c1
    refine r_iconst_1 dX12_hours_38 ?_
    refine r_istore_n [(1, .int (1)), (0, .ref (q 0))] dX12_hours_39 rfl (Nat.le_of_ble_eq_true rfl) rfl ?_
    refine r_ls [1, 0] (ls2 := [(0, .ref (q 0)), (1, .int (1))]) rfl ?_
    exact h
  · have h := h.2 c1
    refine r_aload_n 0 dX12_hours_8 rfl rfl ?_
    refine mg_95 rfl dX12_hours_9 ?_
    refine r_iload_n 1 dX12_hours_12 rfl rfl ?_
    refine r_aload_n 0 dX12_hours_13 rfl rfl ?_
    refine mg_91 rfl dX12_hours_14 ?_
    refine r_iload_n 1 dX12_hours_17 rfl rfl ?_
    obtain ⟨b2, h⟩ := h
    refine ml_91 b2 dX12_hours_18 ?_
    refine mt_95 b2 dX12_hours_19 ?_
    refine r_aload_n 0 dX12_hours_20 rfl rfl ?_
    refine mg_96 rfl dX12_hours_21 ?_
    refine r_iload_n 1 dX12_hours_24 rfl rfl ?_
    refine r_aload_n 0 dX12_hours_25 rfl rfl ?_
    refine mg_92 rfl dX12_hours_26 ?_
    refine r_iload_n 1 dX12_hours_29 rfl rfl ?_
    refine ml_92 b2 dX12_hours_30 ?_
    refine mt_96 b2 dX12_hours_31 ?_
    refine r_iinc 1 [(1, .int (y1 + 1)), (0, .ref (q 0))] dX12_hours_32 rfl rfl (Nat.le_of_ble_eq_true rfl) rfl ?_
    refine r_goto (tgt := 2) dX12_hours_35 (by decide) ?_
    refine r_ls [1, 0] (ls2 := [(0, .ref (q 0)), (1, .int (y1 + 1))]) rfl ?_
    exact h
set_option maxRecDepth 20000 in
theorem sg_hours_40 {E : EvT} {q : Nat → Nat} {d : Nat} {S : StM} {P : Bool → StM → Prop} {y1 : Int32} (h : (y1 = 0 → (P true S)) ∧ (¬ y1 = 0 → (T_hours_48 E q d P S 0 0))) : T_hours_40 E q d P S y1 := by
  refine r_iload_n 1 dX12_hours_40 rfl rfl ?_
  refine r_if_eq (tgt := 184) dX12_hours_41 (by decide) (fun c1 => ?_) (fun c1 => ?_)
  · have h := h.1 c1
    refine r_iconst_1 dX12_hours_184 ?_
    exact r_zret1 dX12_hours_185 rfl (Nat.le_refl _) (Nat.le_refl _) ⟨_, _, rfl, rfl, h⟩
  · have h := h.2 c1
    refine r_iconst_0 dX12_hours_44 ?_
    refine r_istore_n [(1, .int (0)), (0, .ref (q 0))] dX12_hours_45 rfl (Nat.le_of_ble_eq_true rfl) rfl ?_
    refine r_iconst_0 dX12_hours_46 ?_
    refine r_istore_n [(2, .int (0)), (1, .int (0)), (0, .ref (q 0))] dX12_hours_47 rfl (Nat.le_of_ble_eq_true rfl) rfl ?_
    refine r_ls [2, 1, 0] (ls2 := [(0, .ref (q 0)), (1, .int (0)), (2, .int (0))]) rfl ?_
    exact h
set_option maxRecDepth 20000 in
theorem sg_hours_48 {E : EvT} {q : Nat → Nat} {d : Nat} {S : StM} {P : Bool → StM → Prop} {y1 : Int32} {y2 : Int32} (h : ((s_cuts S) ≤ y2 → (T_hours_40 E q d P S y1)) ∧ (¬ (s_cuts S) ≤ y2 → ((0 ≤ y2 ∧ y2 < 40) ∧ ((0 ≤ (a_cutA S (ix y2)) ∧ (a_cutA S (ix y2)) < 8) ∧ ((0 ≤ (a_cutB S (ix y2)) ∧ (a_cutB S (ix y2)) < 8) ∧ ((((a_early S (ix (a_cutB S (ix y2)))) + 1) ≤ (a_early S (ix (a_cutA S (ix y2)))) → (((a_late S (ix (a_cutB S (ix y2)))) ≤ ((a_late S (ix (a_cutA S (ix y2)))) - 1) → (((a_late S (ix (a_cutA S (ix y2)))) < (a_early S (ix (a_cutA S (ix y2)))) → (P false S)) ∧ (¬ (a_late S (ix (a_cutA S (ix y2)))) < (a_early S (ix (a_cutA S (ix y2)))) → (((a_early S (ix (a_cutB S (ix y2)))) ≤ (a_late S (ix (a_cutB S (ix y2)))) → (T_hours_48 E q d P S y1 (y2 + 1))) ∧ (¬ (a_early S (ix (a_cutB S (ix y2)))) ≤ (a_late S (ix (a_cutB S (ix y2)))) → (P false S)))))) ∧ (¬ (a_late S (ix (a_cutB S (ix y2)))) ≤ ((a_late S (ix (a_cutA S (ix y2)))) - 1) → ((((upd (a_late S) (ix (a_cutB S (ix y2))) ((a_late S (ix (a_cutA S (ix y2)))) - 1)) (ix (a_cutA S (ix y2)))) < (a_early S (ix (a_cutA S (ix y2)))) → (P false (sA S 96 (upd (a_late S) (ix (a_cutB S (ix y2))) ((a_late S (ix (a_cutA S (ix y2)))) - 1))))) ∧ (¬ ((upd (a_late S) (ix (a_cutB S (ix y2))) ((a_late S (ix (a_cutA S (ix y2)))) - 1)) (ix (a_cutA S (ix y2)))) < (a_early S (ix (a_cutA S (ix y2)))) → (((a_early S (ix (a_cutB S (ix y2)))) ≤ ((upd (a_late S) (ix (a_cutB S (ix y2))) ((a_late S (ix (a_cutA S (ix y2)))) - 1)) (ix (a_cutB S (ix y2)))) → (T_hours_48 E q d P (sA S 96 (upd (a_late S) (ix (a_cutB S (ix y2))) ((a_late S (ix (a_cutA S (ix y2)))) - 1))) 1 (y2 + 1))) ∧ (¬ (a_early S (ix (a_cutB S (ix y2)))) ≤ ((upd (a_late S) (ix (a_cutB S (ix y2))) ((a_late S (ix (a_cutA S (ix y2)))) - 1)) (ix (a_cutB S (ix y2)))) → (P false (sA S 96 (upd (a_late S) (ix (a_cutB S (ix y2))) ((a_late S (ix (a_cutA S (ix y2)))) - 1))))))))))) ∧ (¬ ((a_early S (ix (a_cutB S (ix y2)))) + 1) ≤ (a_early S (ix (a_cutA S (ix y2)))) → (((a_late S (ix (a_cutB S (ix y2)))) ≤ ((a_late S (ix (a_cutA S (ix y2)))) - 1) → (((a_late S (ix (a_cutA S (ix y2)))) < ((upd (a_early S) (ix (a_cutA S (ix y2))) ((a_early S (ix (a_cutB S (ix y2)))) + 1)) (ix (a_cutA S (ix y2)))) → (P false (sA S 95 (upd (a_early S) (ix (a_cutA S (ix y2))) ((a_early S (ix (a_cutB S (ix y2)))) + 1))))) ∧ (¬ (a_late S (ix (a_cutA S (ix y2)))) < ((upd (a_early S) (ix (a_cutA S (ix y2))) ((a_early S (ix (a_cutB S (ix y2)))) + 1)) (ix (a_cutA S (ix y2)))) → ((((upd (a_early S) (ix (a_cutA S (ix y2))) ((a_early S (ix (a_cutB S (ix y2)))) + 1)) (ix (a_cutB S (ix y2)))) ≤ (a_late S (ix (a_cutB S (ix y2)))) → (T_hours_48 E q d P (sA S 95 (upd (a_early S) (ix (a_cutA S (ix y2))) ((a_early S (ix (a_cutB S (ix y2)))) + 1))) 1 (y2 + 1))) ∧ (¬ ((upd (a_early S) (ix (a_cutA S (ix y2))) ((a_early S (ix (a_cutB S (ix y2)))) + 1)) (ix (a_cutB S (ix y2)))) ≤ (a_late S (ix (a_cutB S (ix y2)))) → (P false (sA S 95 (upd (a_early S) (ix (a_cutA S (ix y2))) ((a_early S (ix (a_cutB S (ix y2)))) + 1))))))))) ∧ (¬ (a_late S (ix (a_cutB S (ix y2)))) ≤ ((a_late S (ix (a_cutA S (ix y2)))) - 1) → ((((upd (a_late S) (ix (a_cutB S (ix y2))) ((a_late S (ix (a_cutA S (ix y2)))) - 1)) (ix (a_cutA S (ix y2)))) < ((upd (a_early S) (ix (a_cutA S (ix y2))) ((a_early S (ix (a_cutB S (ix y2)))) + 1)) (ix (a_cutA S (ix y2)))) → (P false (sA (sA S 95 (upd (a_early S) (ix (a_cutA S (ix y2))) ((a_early S (ix (a_cutB S (ix y2)))) + 1))) 96 (upd (a_late S) (ix (a_cutB S (ix y2))) ((a_late S (ix (a_cutA S (ix y2)))) - 1))))) ∧ (¬ ((upd (a_late S) (ix (a_cutB S (ix y2))) ((a_late S (ix (a_cutA S (ix y2)))) - 1)) (ix (a_cutA S (ix y2)))) < ((upd (a_early S) (ix (a_cutA S (ix y2))) ((a_early S (ix (a_cutB S (ix y2)))) + 1)) (ix (a_cutA S (ix y2)))) → ((((upd (a_early S) (ix (a_cutA S (ix y2))) ((a_early S (ix (a_cutB S (ix y2)))) + 1)) (ix (a_cutB S (ix y2)))) ≤ ((upd (a_late S) (ix (a_cutB S (ix y2))) ((a_late S (ix (a_cutA S (ix y2)))) - 1)) (ix (a_cutB S (ix y2)))) → (T_hours_48 E q d P (sA (sA S 95 (upd (a_early S) (ix (a_cutA S (ix y2))) ((a_early S (ix (a_cutB S (ix y2)))) + 1))) 96 (upd (a_late S) (ix (a_cutB S (ix y2))) ((a_late S (ix (a_cutA S (ix y2)))) - 1))) 1 (y2 + 1))) ∧ (¬ ((upd (a_early S) (ix (a_cutA S (ix y2))) ((a_early S (ix (a_cutB S (ix y2)))) + 1)) (ix (a_cutB S (ix y2)))) ≤ ((upd (a_late S) (ix (a_cutB S (ix y2))) ((a_late S (ix (a_cutA S (ix y2)))) - 1)) (ix (a_cutB S (ix y2)))) → (P false (sA (sA S 95 (upd (a_early S) (ix (a_cutA S (ix y2))) ((a_early S (ix (a_cutB S (ix y2)))) + 1))) 96 (upd (a_late S) (ix (a_cutB S (ix y2))) ((a_late S (ix (a_cutA S (ix y2)))) - 1))))))))))))))))) : T_hours_48 E q d P S y1 y2 := by
  refine r_iload_n 2 dX12_hours_48 rfl rfl ?_
  refine r_aload_n 0 dX12_hours_49 rfl rfl ?_
  refine mg_89 rfl dX12_hours_50 ?_
  refine r_icmp_ge (tgt := 181) dX12_hours_53 (by decide) (fun c1 => ?_) (fun c1 => ?_)
  · have h := h.1 c1
    refine r_goto (tgt := 40) dX12_hours_181 (by decide) ?_
    refine r_ls [0, 1] (ls2 := [(0, .ref (q 0)), (1, .int (y1))]) rfl ?_
    exact h
  · have h := h.2 c1
    refine r_aload_n 0 dX12_hours_56 rfl rfl ?_
    refine mg_93 rfl dX12_hours_57 ?_
    refine r_iload_n 2 dX12_hours_60 rfl rfl ?_
    obtain ⟨b2, h⟩ := h
    refine ml_93 b2 dX12_hours_61 ?_
    refine r_istore_n [(3, .int (a_cutA S (ix y2))), (0, .ref (q 0)), (1, .int (y1)), (2, .int (y2))] dX12_hours_62 rfl (Nat.le_of_ble_eq_true rfl) rfl ?_
    refine r_aload_n 1 dX12_hours_63 rfl rfl ?_
    refine mg_94 rfl dX12_hours_64 ?_
    refine r_iload_n 3 dX12_hours_67 rfl rfl ?_
    refine ml_94 b2 dX12_hours_68 ?_
    refine r_istore [(4, .int (a_cutB S (ix y2))), (3, .int (a_cutA S (ix y2))), (0, .ref (q 0)), (1, .int (y1)), (2, .int (y2))] dX12_hours_69 (Nat.le_of_ble_eq_true rfl) rfl ?_
    refine r_aload_n 2 dX12_hours_71 rfl rfl ?_
    refine mg_95 rfl dX12_hours_72 ?_
    refine r_iload_n 1 dX12_hours_75 rfl rfl ?_
    obtain ⟨b3, h⟩ := h
    refine ml_95 b3 dX12_hours_76 ?_
    refine r_aload_n 2 dX12_hours_77 rfl rfl ?_
    refine mg_95 rfl dX12_hours_78 ?_
    refine r_iload 0 dX12_hours_81 rfl ?_
    obtain ⟨b4, h⟩ := h
    refine ml_95 b4 dX12_hours_83 ?_
    refine r_iconst_1 dX12_hours_84 ?_
    refine r_iadd dX12_hours_85 ?_
    refine r_icmp_ge (tgt := 106) dX12_hours_86 (by decide) (fun c5 => ?_) (fun c5 => ?_)
    · have h := h.1 c5
      refine r_aload_n 2 dX12_hours_106 rfl rfl ?_
      refine mg_96 rfl dX12_hours_107 ?_
      refine r_iload 0 dX12_hours_110 rfl ?_
      refine ml_96 b4 dX12_hours_112 ?_
      refine r_aload_n 2 dX12_hours_113 rfl rfl ?_
      refine mg_96 rfl dX12_hours_114 ?_
      refine r_iload_n 1 dX12_hours_117 rfl rfl ?_
      refine ml_96 b3 dX12_hours_118 ?_
      refine r_iconst_1 dX12_hours_119 ?_
      refine r_isub dX12_hours_120 ?_
      refine r_icmp_le (tgt := 141) dX12_hours_121 (by decide) (fun c6 => ?_) (fun c6 => ?_)
      · have h := h.1 c6
        refine r_aload_n 2 dX12_hours_141 rfl rfl ?_
        refine mg_95 rfl dX12_hours_142 ?_
        refine r_iload_n 1 dX12_hours_145 rfl rfl ?_
        refine ml_95 b3 dX12_hours_146 ?_
        refine r_aload_n 2 dX12_hours_147 rfl rfl ?_
        refine mg_96 rfl dX12_hours_148 ?_
        refine r_iload_n 1 dX12_hours_151 rfl rfl ?_
        refine ml_96 b3 dX12_hours_152 ?_
        refine r_icmp_gt (tgt := 173) dX12_hours_153 (by decide) (fun c7 => ?_) (fun c7 => ?_)
        · have h := h.1 c7
          refine r_iconst_0 dX12_hours_173 ?_
          exact r_zret0 dX12_hours_174 rfl (Nat.le_refl _) (Nat.le_refl _) ⟨_, _, rfl, rfl, h⟩
        · have h := h.2 c7
          refine r_aload_n 2 dX12_hours_156 rfl rfl ?_
          refine mg_95 rfl dX12_hours_157 ?_
          refine r_iload 0 dX12_hours_160 rfl ?_
          refine ml_95 b4 dX12_hours_162 ?_
          refine r_aload_n 2 dX12_hours_163 rfl rfl ?_
          refine mg_96 rfl dX12_hours_164 ?_
          refine r_iload 0 dX12_hours_167 rfl ?_
          refine ml_96 b4 dX12_hours_169 ?_
          refine r_icmp_le (tgt := 175) dX12_hours_170 (by decide) (fun c8 => ?_) (fun c8 => ?_)
          · have h := h.1 c8
            refine r_iinc 4 [(2, .int (y2 + 1)), (4, .int (a_cutB S (ix y2))), (3, .int (a_cutA S (ix y2))), (0, .ref (q 0)), (1, .int (y1))] dX12_hours_175 rfl rfl (Nat.le_of_ble_eq_true rfl) rfl ?_
            refine r_goto (tgt := 48) dX12_hours_178 (by decide) ?_
            refine r_ls [3, 4, 0] (ls2 := [(0, .ref (q 0)), (1, .int (y1)), (2, .int (y2 + 1))]) rfl ?_
            exact h
          · have h := h.2 c8
            refine r_iconst_0 dX12_hours_173 ?_
            exact r_zret0 dX12_hours_174 rfl (Nat.le_refl _) (Nat.le_refl _) ⟨_, _, rfl, rfl, h⟩
      · have h := h.2 c6
        refine r_aload_n 2 dX12_hours_124 rfl rfl ?_
        refine mg_96 rfl dX12_hours_125 ?_
        refine r_iload 0 dX12_hours_128 rfl ?_
        refine r_aload_n 2 dX12_hours_130 rfl rfl ?_
        refine mg_96 rfl dX12_hours_131 ?_
        refine r_iload_n 1 dX12_hours_134 rfl rfl ?_
        refine ml_96 b3 dX12_hours_135 ?_
        refine r_iconst_1 dX12_hours_136 ?_
        refine r_isub dX12_hours_137 ?_
        refine mt_96 b4 dX12_hours_138 ?_
        refine r_iconst_1 dX12_hours_139 ?_
        refine r_istore_n [(1, .int (1)), (4, .int (a_cutB S (ix y2))), (3, .int (a_cutA S (ix y2))), (0, .ref (q 0)), (2, .int (y2))] dX12_hours_140 rfl (Nat.le_of_ble_eq_true rfl) rfl ?_
        refine r_aload_n 3 dX12_hours_141 rfl rfl ?_
        refine mg_95 rfl dX12_hours_142 ?_
        refine r_iload_n 2 dX12_hours_145 rfl rfl ?_
        refine ml_95 b3 dX12_hours_146 ?_
        refine r_aload_n 3 dX12_hours_147 rfl rfl ?_
        refine mg_96 rfl dX12_hours_148 ?_
        refine r_iload_n 2 dX12_hours_151 rfl rfl ?_
        refine ml_96 b3 dX12_hours_152 ?_
        refine r_icmp_gt (tgt := 173) dX12_hours_153 (by decide) (fun c9 => ?_) (fun c9 => ?_)
        · have h := h.1 c9
          refine r_iconst_0 dX12_hours_173 ?_
          exact r_zret0 dX12_hours_174 rfl (Nat.le_refl _) (Nat.le_refl _) ⟨_, _, rfl, rfl, h⟩
        · have h := h.2 c9
          refine r_aload_n 3 dX12_hours_156 rfl rfl ?_
          refine mg_95 rfl dX12_hours_157 ?_
          refine r_iload 1 dX12_hours_160 rfl ?_
          refine ml_95 b4 dX12_hours_162 ?_
          refine r_aload_n 3 dX12_hours_163 rfl rfl ?_
          refine mg_96 rfl dX12_hours_164 ?_
          refine r_iload 1 dX12_hours_167 rfl ?_
          refine ml_96 b4 dX12_hours_169 ?_
          refine r_icmp_le (tgt := 175) dX12_hours_170 (by decide) (fun c10 => ?_) (fun c10 => ?_)
          · have h := h.1 c10
            refine r_iinc 4 [(2, .int (y2 + 1)), (1, .int (1)), (4, .int (a_cutB S (ix y2))), (3, .int (a_cutA S (ix y2))), (0, .ref (q 0))] dX12_hours_175 rfl rfl (Nat.le_of_ble_eq_true rfl) rfl ?_
            refine r_goto (tgt := 48) dX12_hours_178 (by decide) ?_
            refine r_ls [4, 1, 0] (ls2 := [(0, .ref (q 0)), (1, .int (1)), (2, .int (y2 + 1))]) rfl ?_
            exact h
          · have h := h.2 c10
            refine r_iconst_0 dX12_hours_173 ?_
            exact r_zret0 dX12_hours_174 rfl (Nat.le_refl _) (Nat.le_refl _) ⟨_, _, rfl, rfl, h⟩
    · have h := h.2 c5
      refine r_aload_n 2 dX12_hours_89 rfl rfl ?_
      refine mg_95 rfl dX12_hours_90 ?_
      refine r_iload_n 1 dX12_hours_93 rfl rfl ?_
      refine r_aload_n 2 dX12_hours_94 rfl rfl ?_
      refine mg_95 rfl dX12_hours_95 ?_
      refine r_iload 0 dX12_hours_98 rfl ?_
      refine ml_95 b4 dX12_hours_100 ?_
      refine r_iconst_1 dX12_hours_101 ?_
      refine r_iadd dX12_hours_102 ?_
      refine mt_95 b3 dX12_hours_103 ?_
      refine r_iconst_1 dX12_hours_104 ?_
      refine r_istore_n [(1, .int (1)), (4, .int (a_cutB S (ix y2))), (3, .int (a_cutA S (ix y2))), (0, .ref (q 0)), (2, .int (y2))] dX12_hours_105 rfl (Nat.le_of_ble_eq_true rfl) rfl ?_
      refine r_aload_n 3 dX12_hours_106 rfl rfl ?_
      refine mg_96 rfl dX12_hours_107 ?_
      refine r_iload 1 dX12_hours_110 rfl ?_
      refine ml_96 b4 dX12_hours_112 ?_
      refine r_aload_n 3 dX12_hours_113 rfl rfl ?_
      refine mg_96 rfl dX12_hours_114 ?_
      refine r_iload_n 2 dX12_hours_117 rfl rfl ?_
      refine ml_96 b3 dX12_hours_118 ?_
      refine r_iconst_1 dX12_hours_119 ?_
      refine r_isub dX12_hours_120 ?_
      refine r_icmp_le (tgt := 141) dX12_hours_121 (by decide) (fun c11 => ?_) (fun c11 => ?_)
      · have h := h.1 c11
        refine r_aload_n 3 dX12_hours_141 rfl rfl ?_
        refine mg_95 rfl dX12_hours_142 ?_
        refine r_iload_n 2 dX12_hours_145 rfl rfl ?_
        refine ml_95 b3 dX12_hours_146 ?_
        refine r_aload_n 3 dX12_hours_147 rfl rfl ?_
        refine mg_96 rfl dX12_hours_148 ?_
        refine r_iload_n 2 dX12_hours_151 rfl rfl ?_
        refine ml_96 b3 dX12_hours_152 ?_
        refine r_icmp_gt (tgt := 173) dX12_hours_153 (by decide) (fun c12 => ?_) (fun c12 => ?_)
        · have h := h.1 c12
          refine r_iconst_0 dX12_hours_173 ?_
          exact r_zret0 dX12_hours_174 rfl (Nat.le_refl _) (Nat.le_refl _) ⟨_, _, rfl, rfl, h⟩
        · have h := h.2 c12
          refine r_aload_n 3 dX12_hours_156 rfl rfl ?_
          refine mg_95 rfl dX12_hours_157 ?_
          refine r_iload 1 dX12_hours_160 rfl ?_
          refine ml_95 b4 dX12_hours_162 ?_
          refine r_aload_n 3 dX12_hours_163 rfl rfl ?_
          refine mg_96 rfl dX12_hours_164 ?_
          refine r_iload 1 dX12_hours_167 rfl ?_
          refine ml_96 b4 dX12_hours_169 ?_
          refine r_icmp_le (tgt := 175) dX12_hours_170 (by decide) (fun c13 => ?_) (fun c13 => ?_)
          · have h := h.1 c13
            refine r_iinc 4 [(2, .int (y2 + 1)), (1, .int (1)), (4, .int (a_cutB S (ix y2))), (3, .int (a_cutA S (ix y2))), (0, .ref (q 0))] dX12_hours_175 rfl rfl (Nat.le_of_ble_eq_true rfl) rfl ?_
            refine r_goto (tgt := 48) dX12_hours_178 (by decide) ?_
            refine r_ls [4, 1, 0] (ls2 := [(0, .ref (q 0)), (1, .int (1)), (2, .int (y2 + 1))]) rfl ?_
            exact h
          · have h := h.2 c13
            refine r_iconst_0 dX12_hours_173 ?_
            exact r_zret0 dX12_hours_174 rfl (Nat.le_refl _) (Nat.le_refl _) ⟨_, _, rfl, rfl, h⟩
      · have h := h.2 c11
        refine r_aload_n 3 dX12_hours_124 rfl rfl ?_
        refine mg_96 rfl dX12_hours_125 ?_
        refine r_iload 1 dX12_hours_128 rfl ?_
        refine r_aload_n 3 dX12_hours_130 rfl rfl ?_
        refine mg_96 rfl dX12_hours_131 ?_
        refine r_iload_n 2 dX12_hours_134 rfl rfl ?_
        refine ml_96 b3 dX12_hours_135 ?_
        refine r_iconst_1 dX12_hours_136 ?_
        refine r_isub dX12_hours_137 ?_
        refine mt_96 b4 dX12_hours_138 ?_
        refine r_iconst_1 dX12_hours_139 ?_
        refine r_istore_n [(1, .int (1)), (4, .int (a_cutB S (ix y2))), (3, .int (a_cutA S (ix y2))), (0, .ref (q 0)), (2, .int (y2))] dX12_hours_140 rfl (Nat.le_of_ble_eq_true rfl) rfl ?_
        refine r_aload_n 3 dX12_hours_141 rfl rfl ?_
        refine mg_95 rfl dX12_hours_142 ?_
        refine r_iload_n 2 dX12_hours_145 rfl rfl ?_
        refine ml_95 b3 dX12_hours_146 ?_
        refine r_aload_n 3 dX12_hours_147 rfl rfl ?_
        refine mg_96 rfl dX12_hours_148 ?_
        refine r_iload_n 2 dX12_hours_151 rfl rfl ?_
        refine ml_96 b3 dX12_hours_152 ?_
        refine r_icmp_gt (tgt := 173) dX12_hours_153 (by decide) (fun c14 => ?_) (fun c14 => ?_)
        · have h := h.1 c14
          refine r_iconst_0 dX12_hours_173 ?_
          exact r_zret0 dX12_hours_174 rfl (Nat.le_refl _) (Nat.le_refl _) ⟨_, _, rfl, rfl, h⟩
        · have h := h.2 c14
          refine r_aload_n 3 dX12_hours_156 rfl rfl ?_
          refine mg_95 rfl dX12_hours_157 ?_
          refine r_iload 1 dX12_hours_160 rfl ?_
          refine ml_95 b4 dX12_hours_162 ?_
          refine r_aload_n 3 dX12_hours_163 rfl rfl ?_
          refine mg_96 rfl dX12_hours_164 ?_
          refine r_iload 1 dX12_hours_167 rfl ?_
          refine ml_96 b4 dX12_hours_169 ?_
          refine r_icmp_le (tgt := 175) dX12_hours_170 (by decide) (fun c15 => ?_) (fun c15 => ?_)
          · have h := h.1 c15
            refine r_iinc 4 [(2, .int (y2 + 1)), (1, .int (1)), (4, .int (a_cutB S (ix y2))), (3, .int (a_cutA S (ix y2))), (0, .ref (q 0))] dX12_hours_175 rfl rfl (Nat.le_of_ble_eq_true rfl) rfl ?_
            refine r_goto (tgt := 48) dX12_hours_178 (by decide) ?_
            refine r_ls [4, 1, 0] (ls2 := [(0, .ref (q 0)), (1, .int (1)), (2, .int (y2 + 1))]) rfl ?_
            exact h
          · have h := h.2 c15
            refine r_iconst_0 dX12_hours_173 ?_
            exact r_zret0 dX12_hours_174 rfl (Nat.le_refl _) (Nat.le_refl _) ⟨_, _, rfl, rfl, h⟩
set_option maxRecDepth 20000 in
theorem en_hour {E : EvT} {q : Nat → Nat} {d : Nat} {x1 : Int32} {x2 : Int32} {S : StM} {P : Int32 → StM → Prop} (h : ((mLayer x1) = false → (P (-1) S)) ∧ ((mLayer x1) = true → (((mIn x2 0 1) = false → (P (-1) S)) ∧ ((mIn x2 0 1) = true → (C_hours E q d S (fun r3 S4 => (r3 = true → ((¬ x2 = 0 → ((0 ≤ x1 ∧ x1 < 8) ∧ (P (a_late S4 (ix x1)) S4))) ∧ (x2 = 0 → ((0 ≤ x1 ∧ x1 < 8) ∧ (P (a_early S4 (ix x1)) S4))))) ∧ (r3 = false → (P (-1) S4)))))))) : C_hour E q (d + 1) x1 x2 S P := by
  refine Cn.of rfl (Nat.le_of_ble_eq_true rfl) (ls := [(0, .ref (q 0)), (1, .int (x1)), (2, .int (x2))]) rfl ?_
  refine r_iload_n 1 dX12_hour_0 rfl rfl ?_
  refine KP_isLayer (d := d + 0)  rfl (Nat.le_of_ble_eq_true rfl) dX12_hour_1 ?_
  refine r_if_eqb (tgt := 23) dX12_hour_4 (by decide) (fun c1 => ?_) (fun c1 => ?_)
  · have h := h.1 c1
    refine r_iconst_m1 dX12_hour_23 ?_
    exact r_iret dX12_hour_24 rfl (Nat.le_refl _) (Nat.le_refl _) ⟨_, _, rfl, rfl, h⟩
  · have h := h.2 c1
    refine r_iload_n 2 dX12_hour_7 rfl rfl ?_
    refine r_iconst_0 dX12_hour_8 ?_
    refine r_iconst_1 dX12_hour_9 ?_
    refine KP_in (d := d + 0)  rfl (Nat.le_of_ble_eq_true rfl) dX12_hour_10 ?_
    refine r_if_eqb (tgt := 23) dX12_hour_13 (by decide) (fun c2 => ?_) (fun c2 => ?_)
    · have h := h.1 c2
      refine r_iconst_m1 dX12_hour_23 ?_
      exact r_iret dX12_hour_24 rfl (Nat.le_refl _) (Nat.le_refl _) ⟨_, _, rfl, rfl, h⟩
    · have h := h.2 c2
      refine r_aload_n 0 dX12_hour_16 rfl rfl ?_
      refine K_hours rfl (Nat.le_of_ble_eq_true rfl) dX12_hour_17 (mB h (fun r3 S4 h => ?_))
      refine r_if_neb (tgt := 25) dX12_hour_20 (by decide) (fun c5 => ?_) (fun c5 => ?_)
      · have h := h.1 c5
        refine r_iload_n 2 dX12_hour_25 rfl rfl ?_
        refine r_if_ne (tgt := 38) dX12_hour_26 (by decide) (fun c6 => ?_) (fun c6 => ?_)
        · have h := h.1 c6
          refine r_aload_n 0 dX12_hour_38 rfl rfl ?_
          refine mg_96 rfl dX12_hour_39 ?_
          refine r_iload_n 1 dX12_hour_42 rfl rfl ?_
          obtain ⟨b7, h⟩ := h
          refine ml_96 b7 dX12_hour_43 ?_
          exact r_iret dX12_hour_44 rfl (Nat.le_refl _) (Nat.le_refl _) ⟨_, _, rfl, rfl, h⟩
        · have h := h.2 c6
          refine r_aload_n 0 dX12_hour_29 rfl rfl ?_
          refine mg_95 rfl dX12_hour_30 ?_
          refine r_iload_n 1 dX12_hour_33 rfl rfl ?_
          obtain ⟨b8, h⟩ := h
          refine ml_95 b8 dX12_hour_34 ?_
          refine r_goto (tgt := 44) dX12_hour_35 (by decide) ?_
          exact r_iret dX12_hour_44 rfl (Nat.le_refl _) (Nat.le_refl _) ⟨_, _, rfl, rfl, h⟩
      · have h := h.2 c5
        refine r_iconst_m1 dX12_hour_23 ?_
        exact r_iret dX12_hour_24 rfl (Nat.le_refl _) (Nat.le_refl _) ⟨_, _, rfl, rfl, h⟩
set_option maxRecDepth 20000 in
theorem en_height {E : EvT} {q : Nat → Nat} {d : Nat} {x1 : Int32} {x2 : Int32} {S : StM} {P : Bool → StM → Prop} (h : ((mCell S x1) = false → (P false S)) ∧ ((mCell S x1) = true → (((mIn x2 0 8) = true → ((0 ≤ x1 ∧ x1 < 100) ∧ (P true (sA S 5 (upd (a_heightOf S) (ix x1) x2))))) ∧ ((mIn x2 0 8) = false → (P false S))))) : C_height E q (d + 1) x1 x2 S P := by
  refine Cn.of rfl (Nat.le_of_ble_eq_true rfl) (ls := [(0, .ref (q 0)), (1, .int (x1)), (2, .int (x2))]) rfl ?_
  refine r_aload_n 0 dX12_height_0 rfl rfl ?_
  refine r_iload_n 1 dX12_height_1 rfl rfl ?_
  refine KP_isCell (d := d + 0)  rfl (Nat.le_of_ble_eq_true rfl) dX12_height_2 ?_
  refine r_if_eqb (tgt := 18) dX12_height_5 (by decide) (fun c1 => ?_) (fun c1 => ?_)
  · have h := h.1 c1
    refine r_iconst_0 dX12_height_18 ?_
    exact r_zret0 dX12_height_19 rfl (Nat.le_refl _) (Nat.le_refl _) ⟨_, _, rfl, rfl, h⟩
  · have h := h.2 c1
    refine r_iload_n 2 dX12_height_8 rfl rfl ?_
    refine r_iconst_0 dX12_height_9 ?_
    refine r_bipush_8 dX12_height_10 ?_
    refine KP_in (d := d + 0)  rfl (Nat.le_of_ble_eq_true rfl) dX12_height_12 ?_
    refine r_if_neb (tgt := 20) dX12_height_15 (by decide) (fun c2 => ?_) (fun c2 => ?_)
    · have h := h.1 c2
      refine r_aload_n 0 dX12_height_20 rfl rfl ?_
      refine mg_5 rfl dX12_height_21 ?_
      refine r_iload_n 1 dX12_height_24 rfl rfl ?_
      refine r_iload_n 2 dX12_height_25 rfl rfl ?_
      obtain ⟨b3, h⟩ := h
      refine mt_5 b3 dX12_height_26 ?_
      refine r_iconst_1 dX12_height_27 ?_
      exact r_zret1 dX12_height_28 rfl (Nat.le_refl _) (Nat.le_refl _) ⟨_, _, rfl, rfl, h⟩
    · have h := h.2 c2
      refine r_iconst_0 dX12_height_18 ?_
      exact r_zret0 dX12_height_19 rfl (Nat.le_refl _) (Nat.le_refl _) ⟨_, _, rfl, rfl, h⟩
set_option maxRecDepth 20000 in
theorem en_hollow {E : EvT} {q : Nat → Nat} {d : Nat} {x1 : Int32} {x2 : Int32} {S : StM} {P : Int32 → StM → Prop} (h : ((mCell S x1) = false → (P (-1) S)) ∧ ((mCell S x1) = true → (((mLayer x2) = false → (P (-1) S)) ∧ ((mLayer x2) = true → ((¬ (s_hollows S) = 40 → ((0 ≤ (s_hollows S) ∧ (s_hollows S) < 40) ∧ (P (((s_hollows S) + 1) - 1) (sI (sA (sA S 97 (upd (a_hollowCell S) (ix (s_hollows S)) x1)) 98 (upd (a_hollowLayer S) (ix (s_hollows S)) x2)) 90 ((s_hollows S) + 1))))) ∧ ((s_hollows S) = 40 → (P (-1) S))))))) : C_hollow E q (d + 1) x1 x2 S P := by
  refine Cn.of rfl (Nat.le_of_ble_eq_true rfl) (ls := [(0, .ref (q 0)), (1, .int (x1)), (2, .int (x2))]) rfl ?_
  refine r_aload_n 0 dX12_hollow_0 rfl rfl ?_
  refine r_iload_n 1 dX12_hollow_1 rfl rfl ?_
  refine KP_isCell (d := d + 0)  rfl (Nat.le_of_ble_eq_true rfl) dX12_hollow_2 ?_
  refine r_if_eqb (tgt := 24) dX12_hollow_5 (by decide) (fun c1 => ?_) (fun c1 => ?_)
  · have h := h.1 c1
    refine r_iconst_m1 dX12_hollow_24 ?_
    exact r_iret dX12_hollow_25 rfl (Nat.le_refl _) (Nat.le_refl _) ⟨_, _, rfl, rfl, h⟩
  · have h := h.2 c1
    refine r_iload_n 2 dX12_hollow_8 rfl rfl ?_
    refine KP_isLayer (d := d + 0)  rfl (Nat.le_of_ble_eq_true rfl) dX12_hollow_9 ?_
    refine r_if_eqb (tgt := 24) dX12_hollow_12 (by decide) (fun c2 => ?_) (fun c2 => ?_)
    · have h := h.1 c2
      refine r_iconst_m1 dX12_hollow_24 ?_
      exact r_iret dX12_hollow_25 rfl (Nat.le_refl _) (Nat.le_refl _) ⟨_, _, rfl, rfl, h⟩
    · have h := h.2 c2
      refine r_aload_n 0 dX12_hollow_15 rfl rfl ?_
      refine mg_90 rfl dX12_hollow_16 ?_
      refine r_bipush_40 dX12_hollow_19 ?_
      refine r_icmp_ne (tgt := 26) dX12_hollow_21 (by decide) (fun c3 => ?_) (fun c3 => ?_)
      · have h := h.1 c3
        refine r_aload_n 0 dX12_hollow_26 rfl rfl ?_
        refine mg_97 rfl dX12_hollow_27 ?_
        refine r_aload_n 0 dX12_hollow_30 rfl rfl ?_
        refine mg_90 rfl dX12_hollow_31 ?_
        refine r_iload_n 1 dX12_hollow_34 rfl rfl ?_
        obtain ⟨b4, h⟩ := h
        refine mt_97 b4 dX12_hollow_35 ?_
        refine r_aload_n 0 dX12_hollow_36 rfl rfl ?_
        refine mg_98 rfl dX12_hollow_37 ?_
        refine r_aload_n 0 dX12_hollow_40 rfl rfl ?_
        refine mg_90 rfl dX12_hollow_41 ?_
        refine r_iload_n 2 dX12_hollow_44 rfl rfl ?_
        refine mt_98 b4 dX12_hollow_45 ?_
        refine r_aload_n 0 dX12_hollow_46 rfl rfl ?_
        refine r_aload_n 0 dX12_hollow_47 rfl rfl ?_
        refine mg_90 rfl dX12_hollow_48 ?_
        refine r_iconst_1 dX12_hollow_51 ?_
        refine r_iadd dX12_hollow_52 ?_
        refine mq_90 rfl dX12_hollow_53 ?_
        refine r_aload_n 0 dX12_hollow_56 rfl rfl ?_
        refine mg_90 rfl dX12_hollow_57 ?_
        refine r_iconst_1 dX12_hollow_60 ?_
        refine r_isub dX12_hollow_61 ?_
        exact r_iret dX12_hollow_62 rfl (Nat.le_refl _) (Nat.le_refl _) ⟨_, _, rfl, rfl, h⟩
      · have h := h.2 c3
        refine r_iconst_m1 dX12_hollow_24 ?_
        exact r_iret dX12_hollow_25 rfl (Nat.le_refl _) (Nat.le_refl _) ⟨_, _, rfl, rfl, h⟩
