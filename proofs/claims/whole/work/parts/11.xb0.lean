set_option maxRecDepth 20000 in
theorem en_Fall_level {E : EvT} {q : Nat → Nat} {d : Nat} {S : StX} {P : StX → Prop} (h : P (xA S 8 (fillF 100 8 (xa_Fall_height S)))) : C_Fall_level E q (d + 1) S P := by
  refine Cn.of rfl (Nat.le_of_ble_eq_true rfl) (ls := [(0, .ref (q 0))]) rfl ?_
  refine r_aload_n 0 dX0_level_0 rfl rfl ?_
  refine xg_0_30 rfl dX0_level_1 ?_
  refine r_bipush_8 dX0_level_4 ?_
  refine KP0_Jfill_8 (d := d + 0) rfl (Nat.le_of_ble_eq_true rfl) dX0_level_6 ?_
  exact r_vret dX0_level_9 rfl (Nat.le_refl _) (Nat.le_refl _) ⟨_, rfl, rfl, h⟩
set_option maxRecDepth 20000 in
theorem en_Fall_cut {E : EvT} {q : Nat → Nat} {d : Nat} {x1 : Int32} {x2 : Int32} {S : StX} {P : StX → Prop} (h : (0 ≤ (xs_Fall_cuts S) ∧ (xs_Fall_cuts S) < 40) ∧ (P (xI (xA (xA S 6 (upd (xa_Fall_upper S) (ix (xs_Fall_cuts S)) x1)) 7 (upd (xa_Fall_lower S) (ix (xs_Fall_cuts S)) x2)) 5 ((xs_Fall_cuts S) + 1)))) : C_Fall_cut E q d x1 x2 S P := by
  refine Cn.of rfl (Nat.le_of_ble_eq_true rfl) (ls := [(0, .ref (q 0)), (1, .int (x1)), (2, .int (x2))]) rfl ?_
  refine r_aload_n 0 dX0_cut_0 rfl rfl ?_
  refine xg_0_24 rfl dX0_cut_1 ?_
  refine r_aload_n 0 dX0_cut_4 rfl rfl ?_
  refine xg_0_55 rfl dX0_cut_5 ?_
  refine r_iload_n 1 dX0_cut_8 rfl rfl ?_
  obtain ⟨b1, h⟩ := h
  refine xt_6 b1 dX0_cut_9 ?_
  refine r_aload_n 0 dX0_cut_10 rfl rfl ?_
  refine xg_0_27 rfl dX0_cut_11 ?_
  refine r_aload_n 0 dX0_cut_14 rfl rfl ?_
  refine xg_0_55 rfl dX0_cut_15 ?_
  refine r_iload_n 2 dX0_cut_18 rfl rfl ?_
  refine xt_7 b1 dX0_cut_19 ?_
  refine r_aload_n 0 dX0_cut_20 rfl rfl ?_
  refine r_dup dX0_cut_21 rfl ?_
  refine xg_0_55 rfl dX0_cut_22 ?_
  refine r_iconst_1 dX0_cut_25 ?_
  refine r_iadd dX0_cut_26 ?_
  refine xq_0_55 rfl dX0_cut_27 ?_
  exact r_vret dX0_cut_30 rfl (Nat.le_refl _) (Nat.le_refl _) ⟨_, rfl, rfl, h⟩
set_option maxRecDepth 20000 in
theorem en_Fall_add {E : EvT} {q : Nat → Nat} {d : Nat} {x1 : Int32} {x2 : Int32} {S : StX} {P : Int32 → StX → Prop} (h : (0 ≤ (xs_Fall_hollows S) ∧ (xs_Fall_hollows S) < 40) ∧ (P (((xs_Fall_hollows S) + 1) - 1) (xI (xA (xA S 10 (upd (xa_Fall_hollowCell S) (ix (xs_Fall_hollows S)) x1)) 11 (upd (xa_Fall_hollowLayer S) (ix (xs_Fall_hollows S)) x2)) 9 ((xs_Fall_hollows S) + 1)))) : C_Fall_add E q d x1 x2 S P := by
  refine Cn.of rfl (Nat.le_of_ble_eq_true rfl) (ls := [(0, .ref (q 0)), (1, .int (x1)), (2, .int (x2))]) rfl ?_
  refine r_aload_n 0 dX0_add_0 rfl rfl ?_
  refine xg_0_33 rfl dX0_add_1 ?_
  refine r_aload_n 0 dX0_add_4 rfl rfl ?_
  refine xg_0_59 rfl dX0_add_5 ?_
  refine r_iload_n 1 dX0_add_8 rfl rfl ?_
  obtain ⟨b1, h⟩ := h
  refine xt_10 b1 dX0_add_9 ?_
  refine r_aload_n 0 dX0_add_10 rfl rfl ?_
  refine xg_0_36 rfl dX0_add_11 ?_
  refine r_aload_n 0 dX0_add_14 rfl rfl ?_
  refine xg_0_59 rfl dX0_add_15 ?_
  refine r_iload_n 2 dX0_add_18 rfl rfl ?_
  refine xt_11 b1 dX0_add_19 ?_
  refine r_aload_n 0 dX0_add_20 rfl rfl ?_
  refine r_dup dX0_add_21 rfl ?_
  refine xg_0_59 rfl dX0_add_22 ?_
  refine r_iconst_1 dX0_add_25 ?_
  refine r_iadd dX0_add_26 ?_
  refine xq_0_59 rfl dX0_add_27 ?_
  refine r_aload_n 0 dX0_add_30 rfl rfl ?_
  refine xg_0_59 rfl dX0_add_31 ?_
  refine r_iconst_1 dX0_add_34 ?_
  refine r_isub dX0_add_35 ?_
  exact r_iret dX0_add_36 rfl (Nat.le_refl _) (Nat.le_refl _) ⟨_, _, rfl, rfl, h⟩
abbrev T_Fall_reckon_34 (E : EvT) (q : Nat → Nat) (D : Nat) (P : Bool → StX → Prop) (S : StX) (y1 : Int32) (y2 : Int32) : Prop := RX E q iX_Fall_reckon D (qBx E q P) S [(0, .ref (q 0)), (1, .int (y1)), (2, .int (y2))] [] 34
abbrev T_Fall_reckon_57 (E : EvT) (q : Nat → Nat) (D : Nat) (P : Bool → StX → Prop) (S : StX) (y1 : Int32) (y2 : Int32) : Prop := RX E q iX_Fall_reckon D (qBx E q P) S [(0, .ref (q 0)), (1, .int (y1)), (2, .int (y2))] [] 57
set_option maxRecDepth 20000 in
theorem en_Fall_reckon {E : EvT} {q : Nat → Nat} {d : Nat} {S : StX} {P : Bool → StX → Prop} (h : T_Fall_reckon_34 E q (d + 1) P (xA (xA S 3 (va_cpy (xa_Fall_from S) (xa_Fall_earliest S) 0 0 8)) 4 (va_cpy (xa_Fall_to S) (xa_Fall_latest S) 0 0 8)) 1 0) : C_Fall_reckon E q (d + 1) S P := by
  refine Cn.of rfl (Nat.le_of_ble_eq_true rfl) (ls := [(0, .ref (q 0))]) rfl ?_
  refine r_aload_n 0 dX0_reckon_0 rfl rfl ?_
  refine xg_0_9 rfl dX0_reckon_1 ?_
  refine r_iconst_0 dX0_reckon_4 ?_
  refine r_aload_n 0 dX0_reckon_5 rfl rfl ?_
  refine xg_0_18 rfl dX0_reckon_6 ?_
  refine r_iconst_0 dX0_reckon_9 ?_
  refine r_bipush_8 dX0_reckon_10 ?_
  refine xcp_1_3 rfl (Nat.le_of_ble_eq_true rfl) dX0_reckon_12 ?_
  refine r_aload_n 0 dX0_reckon_15 rfl rfl ?_
  refine xg_0_15 rfl dX0_reckon_16 ?_
  refine r_iconst_0 dX0_reckon_19 ?_
  refine r_aload_n 0 dX0_reckon_20 rfl rfl ?_
  refine xg_0_21 rfl dX0_reckon_21 ?_
  refine r_iconst_0 dX0_reckon_24 ?_
  refine r_bipush_8 dX0_reckon_25 ?_
  refine xcp_2_4 rfl (Nat.le_of_ble_eq_true rfl) dX0_reckon_27 ?_
  refine r_iconst_1 dX0_reckon_30 ?_
  refine r_istore_n [(1, .int (1)), (0, .ref (q 0))] dX0_reckon_31 rfl (Nat.le_of_ble_eq_true rfl) rfl ?_
  refine r_iconst_0 dX0_reckon_32 ?_
  refine r_istore_n [(2, .int (0)), (1, .int (1)), (0, .ref (q 0))] dX0_reckon_33 rfl (Nat.le_of_ble_eq_true rfl) rfl ?_
  refine r_ls [2, 1, 0] (ls2 := [(0, .ref (q 0)), (1, .int (1)), (2, .int (0))]) rfl ?_
  exact h
set_option maxRecDepth 20000 in
theorem sg_Fall_reckon_34 {E : EvT} {q : Nat → Nat} {d : Nat} {S : StX} {P : Bool → StX → Prop} {y1 : Int32} {y2 : Int32} (h : (8 ≤ y2 → (T_Fall_reckon_57 E q (d + 1) P S y1 0)) ∧ (¬ 8 ≤ y2 → ((y1 = 0 → (T_Fall_reckon_57 E q (d + 1) P S y1 0)) ∧ (¬ y1 = 0 → (C_Fall_push E q d S (fun r3 S4 => T_Fall_reckon_34 E q (d + 1) P S4 (b2i r3) (y2 + 1))))))) : T_Fall_reckon_34 E q (d + 1) P S y1 y2 := by
  refine r_iload_n 2 dX0_reckon_34 rfl rfl ?_
  refine r_bipush_8 dX0_reckon_35 ?_
  refine r_icmp_ge (tgt := 55) dX0_reckon_37 (by decide) (fun c1 => ?_) (fun c1 => ?_)
  · have h := h.1 c1
    refine r_iconst_0 dX0_reckon_55 ?_
    refine r_istore_n [(2, .int (0)), (0, .ref (q 0)), (1, .int (y1))] dX0_reckon_56 rfl (Nat.le_of_ble_eq_true rfl) rfl ?_
    refine r_ls [1, 2, 0] (ls2 := [(0, .ref (q 0)), (1, .int (y1)), (2, .int (0))]) rfl ?_
    exact h
  · have h := h.2 c1
    refine r_iload_n 1 dX0_reckon_40 rfl rfl ?_
    refine r_if_eq (tgt := 55) dX0_reckon_41 (by decide) (fun c2 => ?_) (fun c2 => ?_)
    · have h := h.1 c2
      refine r_iconst_0 dX0_reckon_55 ?_
      refine r_istore_n [(2, .int (0)), (0, .ref (q 0)), (1, .int (y1))] dX0_reckon_56 rfl (Nat.le_of_ble_eq_true rfl) rfl ?_
      refine r_ls [1, 2, 0] (ls2 := [(0, .ref (q 0)), (1, .int (y1)), (2, .int (0))]) rfl ?_
      exact h
    · have h := h.2 c2
      refine r_aload_n 0 dX0_reckon_44 rfl rfl ?_
      refine K0_Fall_push rfl (Nat.le_of_ble_eq_true rfl) dX0_reckon_45 (mBx h (fun r3 S4 h => ?_))
      refine r_istore_n [(1, .int (b2i r3)), (0, .ref (q 0)), (2, .int (y2))] dX0_reckon_48 rfl (Nat.le_of_ble_eq_true rfl) rfl ?_
      refine r_iinc 2 [(2, .int (y2 + 1)), (1, .int (b2i r3)), (0, .ref (q 0))] dX0_reckon_49 rfl rfl (Nat.le_of_ble_eq_true rfl) rfl ?_
      refine r_goto (tgt := 34) dX0_reckon_52 (by decide) ?_
      refine r_ls [2, 1, 0] (ls2 := [(0, .ref (q 0)), (1, .int (b2i r3)), (2, .int (y2 + 1))]) rfl ?_
      exact h
set_option maxRecDepth 20000 in
theorem sg_Fall_reckon_57 {E : EvT} {q : Nat → Nat} {d : Nat} {S : StX} {P : Bool → StX → Prop} {y1 : Int32} {y2 : Int32} (h : (8 ≤ y2 → ((¬ y1 = 0 → (P false S)) ∧ (y1 = 0 → (P true S)))) ∧ (¬ 8 ≤ y2 → ((0 ≤ y2 ∧ y2 < 8) ∧ (((xa_Fall_earliest S (ix y2)) ≤ (xa_Fall_latest S (ix y2)) → (T_Fall_reckon_57 E q (d + 1) P S (y1 ||| 0) (y2 + 1))) ∧ (¬ (xa_Fall_earliest S (ix y2)) ≤ (xa_Fall_latest S (ix y2)) → (T_Fall_reckon_57 E q (d + 1) P S (y1 ||| 1) (y2 + 1))))))) : T_Fall_reckon_57 E q (d + 1) P S y1 y2 := by
  refine r_iload_n 2 dX0_reckon_57 rfl rfl ?_
  refine r_bipush_8 dX0_reckon_58 ?_
  refine r_icmp_ge (tgt := 92) dX0_reckon_60 (by decide) (fun c1 => ?_) (fun c1 => ?_)
  · have h := h.1 c1
    refine r_iload_n 1 dX0_reckon_92 rfl rfl ?_
    refine r_if_ne (tgt := 100) dX0_reckon_93 (by decide) (fun c2 => ?_) (fun c2 => ?_)
    · have h := h.1 c2
      refine r_iconst_0 dX0_reckon_100 ?_
      exact r_zret0 dX0_reckon_101 rfl (Nat.le_refl _) (Nat.le_refl _) ⟨_, _, rfl, rfl, h⟩
    · have h := h.2 c2
      refine r_iconst_1 dX0_reckon_96 ?_
      refine r_goto (tgt := 101) dX0_reckon_97 (by decide) ?_
      exact r_zret1 dX0_reckon_101 rfl (Nat.le_refl _) (Nat.le_refl _) ⟨_, _, rfl, rfl, h⟩
  · have h := h.2 c1
    refine r_iload_n 1 dX0_reckon_63 rfl rfl ?_
    refine r_aload_n 0 dX0_reckon_64 rfl rfl ?_
    refine xg_0_18 rfl dX0_reckon_65 ?_
    refine r_iload_n 2 dX0_reckon_68 rfl rfl ?_
    obtain ⟨b3, h⟩ := h
    refine xl_3 b3 dX0_reckon_69 ?_
    refine r_aload_n 0 dX0_reckon_70 rfl rfl ?_
    refine xg_0_21 rfl dX0_reckon_71 ?_
    refine r_iload_n 2 dX0_reckon_74 rfl rfl ?_
    refine xl_4 b3 dX0_reckon_75 ?_
    refine r_icmp_le (tgt := 83) dX0_reckon_76 (by decide) (fun c4 => ?_) (fun c4 => ?_)
    · have h := h.1 c4
      refine r_iconst_0 dX0_reckon_83 ?_
      refine r_ior dX0_reckon_84 ?_
      refine r_istore_n [(1, .int (y1 ||| 0)), (0, .ref (q 0)), (2, .int (y2))] dX0_reckon_85 rfl (Nat.le_of_ble_eq_true rfl) rfl ?_
      refine r_iinc 2 [(2, .int (y2 + 1)), (1, .int (y1 ||| 0)), (0, .ref (q 0))] dX0_reckon_86 rfl rfl (Nat.le_of_ble_eq_true rfl) rfl ?_
      refine r_goto (tgt := 57) dX0_reckon_89 (by decide) ?_
      refine r_ls [2, 1, 0] (ls2 := [(0, .ref (q 0)), (1, .int (y1 ||| 0)), (2, .int (y2 + 1))]) rfl ?_
      exact h
    · have h := h.2 c4
      refine r_iconst_1 dX0_reckon_79 ?_
      refine r_goto (tgt := 84) dX0_reckon_80 (by decide) ?_
      refine r_ior dX0_reckon_84 ?_
      refine r_istore_n [(1, .int (y1 ||| 1)), (0, .ref (q 0)), (2, .int (y2))] dX0_reckon_85 rfl (Nat.le_of_ble_eq_true rfl) rfl ?_
      refine r_iinc 2 [(2, .int (y2 + 1)), (1, .int (y1 ||| 1)), (0, .ref (q 0))] dX0_reckon_86 rfl rfl (Nat.le_of_ble_eq_true rfl) rfl ?_
      refine r_goto (tgt := 57) dX0_reckon_89 (by decide) ?_
      refine r_ls [2, 1, 0] (ls2 := [(0, .ref (q 0)), (1, .int (y1 ||| 1)), (2, .int (y2 + 1))]) rfl ?_
      exact h
abbrev T_Fall_push_4 (E : EvT) (q : Nat → Nat) (D : Nat) (P : Bool → StX → Prop) (S : StX) (y1 : Int32) (y2 : Int32) : Prop := RX E q iX_Fall_push D (qBx E q P) S [(0, .ref (q 0)), (1, .int (y1)), (2, .int (y2))] [] 4
set_option maxRecDepth 20000 in
theorem en_Fall_push {E : EvT} {q : Nat → Nat} {d : Nat} {S : StX} {P : Bool → StX → Prop} (h : T_Fall_push_4 E q d P S 0 0) : C_Fall_push E q d S P := by
  refine Cn.of rfl (Nat.le_of_ble_eq_true rfl) (ls := [(0, .ref (q 0))]) rfl ?_
  refine r_iconst_0 dX0_push_0 ?_
  refine r_istore_n [(1, .int (0)), (0, .ref (q 0))] dX0_push_1 rfl (Nat.le_of_ble_eq_true rfl) rfl ?_
  refine r_iconst_0 dX0_push_2 ?_
  refine r_istore_n [(2, .int (0)), (1, .int (0)), (0, .ref (q 0))] dX0_push_3 rfl (Nat.le_of_ble_eq_true rfl) rfl ?_
  refine r_ls [2, 1, 0] (ls2 := [(0, .ref (q 0)), (1, .int (0)), (2, .int (0))]) rfl ?_
  exact h
set_option maxRecDepth 20000 in
theorem sg_Fall_push_4 {E : EvT} {q : Nat → Nat} {d : Nat} {S : StX} {P : Bool → StX → Prop} {y1 : Int32} {y2 : Int32} (h : ((xs_Fall_cuts S) ≤ y2 → (∃ bz, y1 = b2i bz ∧ P bz S)) ∧ (¬ (xs_Fall_cuts S) ≤ y2 → ((0 ≤ y2 ∧ y2 < 40) ∧ ((0 ≤ (xa_Fall_upper S (ix y2)) ∧ (xa_Fall_upper S (ix y2)) < 8) ∧ ((0 ≤ (xa_Fall_lower S (ix y2)) ∧ (xa_Fall_lower S (ix y2)) < 8) ∧ ((((xa_Fall_earliest S (ix (xa_Fall_lower S (ix y2)))) + 1) ≤ (xa_Fall_earliest S (ix (xa_Fall_upper S (ix y2)))) → (((xa_Fall_latest S (ix (xa_Fall_lower S (ix y2)))) ≤ ((xa_Fall_latest S (ix (xa_Fall_upper S (ix y2)))) - 1) → (T_Fall_push_4 E q d P S y1 (y2 + 1))) ∧ (¬ (xa_Fall_latest S (ix (xa_Fall_lower S (ix y2)))) ≤ ((xa_Fall_latest S (ix (xa_Fall_upper S (ix y2)))) - 1) → (T_Fall_push_4 E q d P (xA S 4 (upd (xa_Fall_latest S) (ix (xa_Fall_lower S (ix y2))) ((xa_Fall_latest S (ix (xa_Fall_upper S (ix y2)))) - 1))) 1 (y2 + 1))))) ∧ (¬ ((xa_Fall_earliest S (ix (xa_Fall_lower S (ix y2)))) + 1) ≤ (xa_Fall_earliest S (ix (xa_Fall_upper S (ix y2)))) → (((xa_Fall_latest S (ix (xa_Fall_lower S (ix y2)))) ≤ ((xa_Fall_latest S (ix (xa_Fall_upper S (ix y2)))) - 1) → (T_Fall_push_4 E q d P (xA S 3 (upd (xa_Fall_earliest S) (ix (xa_Fall_upper S (ix y2))) ((xa_Fall_earliest S (ix (xa_Fall_lower S (ix y2)))) + 1))) 1 (y2 + 1))) ∧ (¬ (xa_Fall_latest S (ix (xa_Fall_lower S (ix y2)))) ≤ ((xa_Fall_latest S (ix (xa_Fall_upper S (ix y2)))) - 1) → (T_Fall_push_4 E q d P (xA (xA S 3 (upd (xa_Fall_earliest S) (ix (xa_Fall_upper S (ix y2))) ((xa_Fall_earliest S (ix (xa_Fall_lower S (ix y2)))) + 1))) 4 (upd (xa_Fall_latest S) (ix (xa_Fall_lower S (ix y2))) ((xa_Fall_latest S (ix (xa_Fall_upper S (ix y2)))) - 1))) 1 (y2 + 1))))))))))) : T_Fall_push_4 E q d P S y1 y2 := by
  refine r_iload_n 2 dX0_push_4 rfl rfl ?_
  refine r_aload_n 0 dX0_push_5 rfl rfl ?_
  refine xg_0_55 rfl dX0_push_6 ?_
  refine r_icmp_ge (tgt := 103) dX0_push_9 (by decide) (fun c1 => ?_) (fun c1 => ?_)
  · have h := h.1 c1
    refine r_iload_n 1 dX0_push_103 rfl rfl ?_
    obtain ⟨bz, hbz, h⟩ := h
    exact r_zretx dX0_push_104 rfl (Nat.le_refl _) (Nat.le_refl _) ⟨bz, hbz, ⟨_, _, rfl, rfl, h⟩⟩
  · have h := h.2 c1
    refine r_aload_n 0 dX0_push_12 rfl rfl ?_
    refine xg_0_24 rfl dX0_push_13 ?_
    refine r_iload_n 2 dX0_push_16 rfl rfl ?_
    obtain ⟨b2, h⟩ := h
    refine xl_6 b2 dX0_push_17 ?_
    refine r_istore_n [(3, .int (xa_Fall_upper S (ix y2))), (0, .ref (q 0)), (1, .int (y1)), (2, .int (y2))] dX0_push_18 rfl (Nat.le_of_ble_eq_true rfl) rfl ?_
    refine r_aload_n 1 dX0_push_19 rfl rfl ?_
    refine xg_0_27 rfl dX0_push_20 ?_
    refine r_iload_n 3 dX0_push_23 rfl rfl ?_
    refine xl_7 b2 dX0_push_24 ?_
    refine r_istore [(4, .int (xa_Fall_lower S (ix y2))), (3, .int (xa_Fall_upper S (ix y2))), (0, .ref (q 0)), (1, .int (y1)), (2, .int (y2))] dX0_push_25 (Nat.le_of_ble_eq_true rfl) rfl ?_
    refine r_aload_n 2 dX0_push_27 rfl rfl ?_
    refine xg_0_18 rfl dX0_push_28 ?_
    refine r_iload_n 1 dX0_push_31 rfl rfl ?_
    obtain ⟨b3, h⟩ := h
    refine xl_3 b3 dX0_push_32 ?_
    refine r_aload_n 2 dX0_push_33 rfl rfl ?_
    refine xg_0_18 rfl dX0_push_34 ?_
    refine r_iload 0 dX0_push_37 rfl ?_
    obtain ⟨b4, h⟩ := h
    refine xl_3 b4 dX0_push_39 ?_
    refine r_iconst_1 dX0_push_40 ?_
    refine r_iadd dX0_push_41 ?_
    refine r_icmp_ge (tgt := 62) dX0_push_42 (by decide) (fun c5 => ?_) (fun c5 => ?_)
    · have h := h.1 c5
      refine r_aload_n 2 dX0_push_62 rfl rfl ?_
      refine xg_0_21 rfl dX0_push_63 ?_
      refine r_iload 0 dX0_push_66 rfl ?_
      refine xl_4 b4 dX0_push_68 ?_
      refine r_aload_n 2 dX0_push_69 rfl rfl ?_
      refine xg_0_21 rfl dX0_push_70 ?_
      refine r_iload_n 1 dX0_push_73 rfl rfl ?_
      refine xl_4 b3 dX0_push_74 ?_
      refine r_iconst_1 dX0_push_75 ?_
      refine r_isub dX0_push_76 ?_
      refine r_icmp_le (tgt := 97) dX0_push_77 (by decide) (fun c6 => ?_) (fun c6 => ?_)
      · have h := h.1 c6
        refine r_iinc 4 [(2, .int (y2 + 1)), (4, .int (xa_Fall_lower S (ix y2))), (3, .int (xa_Fall_upper S (ix y2))), (0, .ref (q 0)), (1, .int (y1))] dX0_push_97 rfl rfl (Nat.le_of_ble_eq_true rfl) rfl ?_
        refine r_goto (tgt := 4) dX0_push_100 (by decide) ?_
        refine r_ls [3, 4, 0] (ls2 := [(0, .ref (q 0)), (1, .int (y1)), (2, .int (y2 + 1))]) rfl ?_
        exact h
      · have h := h.2 c6
        refine r_aload_n 2 dX0_push_80 rfl rfl ?_
        refine xg_0_21 rfl dX0_push_81 ?_
        refine r_iload 0 dX0_push_84 rfl ?_
        refine r_aload_n 2 dX0_push_86 rfl rfl ?_
        refine xg_0_21 rfl dX0_push_87 ?_
        refine r_iload_n 1 dX0_push_90 rfl rfl ?_
        refine xl_4 b3 dX0_push_91 ?_
        refine r_iconst_1 dX0_push_92 ?_
        refine r_isub dX0_push_93 ?_
        refine xt_4 b4 dX0_push_94 ?_
        refine r_iconst_1 dX0_push_95 ?_
        refine r_istore_n [(1, .int (1)), (4, .int (xa_Fall_lower S (ix y2))), (3, .int (xa_Fall_upper S (ix y2))), (0, .ref (q 0)), (2, .int (y2))] dX0_push_96 rfl (Nat.le_of_ble_eq_true rfl) rfl ?_
        refine r_iinc 4 [(2, .int (y2 + 1)), (1, .int (1)), (4, .int (xa_Fall_lower S (ix y2))), (3, .int (xa_Fall_upper S (ix y2))), (0, .ref (q 0))] dX0_push_97 rfl rfl (Nat.le_of_ble_eq_true rfl) rfl ?_
        refine r_goto (tgt := 4) dX0_push_100 (by decide) ?_
        refine r_ls [4, 1, 0] (ls2 := [(0, .ref (q 0)), (1, .int (1)), (2, .int (y2 + 1))]) rfl ?_
        exact h
    · have h := h.2 c5
      refine r_aload_n 2 dX0_push_45 rfl rfl ?_
      refine xg_0_18 rfl dX0_push_46 ?_
      refine r_iload_n 1 dX0_push_49 rfl rfl ?_
      refine r_aload_n 2 dX0_push_50 rfl rfl ?_
      refine xg_0_18 rfl dX0_push_51 ?_
      refine r_iload 0 dX0_push_54 rfl ?_
      refine xl_3 b4 dX0_push_56 ?_
      refine r_iconst_1 dX0_push_57 ?_
      refine r_iadd dX0_push_58 ?_
      refine xt_3 b3 dX0_push_59 ?_
      refine r_iconst_1 dX0_push_60 ?_
      refine r_istore_n [(1, .int (1)), (4, .int (xa_Fall_lower S (ix y2))), (3, .int (xa_Fall_upper S (ix y2))), (0, .ref (q 0)), (2, .int (y2))] dX0_push_61 rfl (Nat.le_of_ble_eq_true rfl) rfl ?_
      refine r_aload_n 3 dX0_push_62 rfl rfl ?_
      refine xg_0_21 rfl dX0_push_63 ?_
      refine r_iload 1 dX0_push_66 rfl ?_
      refine xl_4 b4 dX0_push_68 ?_
      refine r_aload_n 3 dX0_push_69 rfl rfl ?_
      refine xg_0_21 rfl dX0_push_70 ?_
      refine r_iload_n 2 dX0_push_73 rfl rfl ?_
      refine xl_4 b3 dX0_push_74 ?_
      refine r_iconst_1 dX0_push_75 ?_
      refine r_isub dX0_push_76 ?_
      refine r_icmp_le (tgt := 97) dX0_push_77 (by decide) (fun c7 => ?_) (fun c7 => ?_)
      · have h := h.1 c7
        refine r_iinc 4 [(2, .int (y2 + 1)), (1, .int (1)), (4, .int (xa_Fall_lower S (ix y2))), (3, .int (xa_Fall_upper S (ix y2))), (0, .ref (q 0))] dX0_push_97 rfl rfl (Nat.le_of_ble_eq_true rfl) rfl ?_
        refine r_goto (tgt := 4) dX0_push_100 (by decide) ?_
        refine r_ls [4, 1, 0] (ls2 := [(0, .ref (q 0)), (1, .int (1)), (2, .int (y2 + 1))]) rfl ?_
        exact h
      · have h := h.2 c7
        refine r_aload_n 3 dX0_push_80 rfl rfl ?_
        refine xg_0_21 rfl dX0_push_81 ?_
        refine r_iload 1 dX0_push_84 rfl ?_
        refine r_aload_n 3 dX0_push_86 rfl rfl ?_
        refine xg_0_21 rfl dX0_push_87 ?_
        refine r_iload_n 2 dX0_push_90 rfl rfl ?_
        refine xl_4 b3 dX0_push_91 ?_
        refine r_iconst_1 dX0_push_92 ?_
        refine r_isub dX0_push_93 ?_
        refine xt_4 b4 dX0_push_94 ?_
        refine r_iconst_1 dX0_push_95 ?_
        refine r_istore_n [(1, .int (1)), (4, .int (xa_Fall_lower S (ix y2))), (3, .int (xa_Fall_upper S (ix y2))), (0, .ref (q 0)), (2, .int (y2))] dX0_push_96 rfl (Nat.le_of_ble_eq_true rfl) rfl ?_
        refine r_iinc 4 [(2, .int (y2 + 1)), (1, .int (1)), (4, .int (xa_Fall_lower S (ix y2))), (3, .int (xa_Fall_upper S (ix y2))), (0, .ref (q 0))] dX0_push_97 rfl rfl (Nat.le_of_ble_eq_true rfl) rfl ?_
        refine r_goto (tgt := 4) dX0_push_100 (by decide) ?_
        refine r_ls [4, 1, 0] (ls2 := [(0, .ref (q 0)), (1, .int (1)), (2, .int (y2 + 1))]) rfl ?_
        exact h
abbrev T_Fall_laidBy_4 (E : EvT) (q : Nat → Nat) (D : Nat) (P : Int32 → StX → Prop) (S : StX) (y1 : Int32) (y2 : Int32) (y3 : Int32) : Prop := RX E q iX_Fall_laidBy D (qIx E q P) S [(0, .ref (q 0)), (1, .int (y1)), (2, .int (y2)), (3, .int (y3))] [] 4
set_option maxRecDepth 20000 in
theorem en_Fall_laidBy {E : EvT} {q : Nat → Nat} {d : Nat} {x1 : Int32} {S : StX} {P : Int32 → StX → Prop} (h : T_Fall_laidBy_4 E q d P S x1 0 0) : C_Fall_laidBy E q d x1 S P := by
  refine Cn.of rfl (Nat.le_of_ble_eq_true rfl) (ls := [(0, .ref (q 0)), (1, .int (x1))]) rfl ?_
  refine r_iconst_0 dX0_laidBy_0 ?_
  refine r_istore_n [(2, .int (0)), (0, .ref (q 0)), (1, .int (x1))] dX0_laidBy_1 rfl (Nat.le_of_ble_eq_true rfl) rfl ?_
  refine r_iconst_0 dX0_laidBy_2 ?_
  refine r_istore_n [(3, .int (0)), (2, .int (0)), (0, .ref (q 0)), (1, .int (x1))] dX0_laidBy_3 rfl (Nat.le_of_ble_eq_true rfl) rfl ?_
  refine r_ls [2, 3, 1, 0] (ls2 := [(0, .ref (q 0)), (1, .int (x1)), (2, .int (0)), (3, .int (0))]) rfl ?_
  exact h
set_option maxRecDepth 20000 in
theorem sg_Fall_laidBy_4 {E : EvT} {q : Nat → Nat} {d : Nat} {S : StX} {P : Int32 → StX → Prop} {y1 : Int32} {y2 : Int32} {y3 : Int32} (h : (8 ≤ y3 → (P y2 S)) ∧ (¬ 8 ≤ y3 → ((0 ≤ y3 ∧ y3 < 8) ∧ ((y1 < (xa_Fall_latest S (ix y3)) → (T_Fall_laidBy_4 E q d P S y1 y2 (y3 + 1))) ∧ (¬ y1 < (xa_Fall_latest S (ix y3)) → (T_Fall_laidBy_4 E q d P S y1 (y2 + 1) (y3 + 1))))))) : T_Fall_laidBy_4 E q d P S y1 y2 y3 := by
  refine r_iload_n 3 dX0_laidBy_4 rfl rfl ?_
  refine r_bipush_8 dX0_laidBy_5 ?_
  refine r_icmp_ge (tgt := 29) dX0_laidBy_7 (by decide) (fun c1 => ?_) (fun c1 => ?_)
  · have h := h.1 c1
    refine r_iload_n 2 dX0_laidBy_29 rfl rfl ?_
    exact r_iret dX0_laidBy_30 rfl (Nat.le_refl _) (Nat.le_refl _) ⟨_, _, rfl, rfl, h⟩
  · have h := h.2 c1
    refine r_aload_n 0 dX0_laidBy_10 rfl rfl ?_
    refine xg_0_21 rfl dX0_laidBy_11 ?_
    refine r_iload_n 3 dX0_laidBy_14 rfl rfl ?_
    obtain ⟨b2, h⟩ := h
    refine xl_4 b2 dX0_laidBy_15 ?_
    refine r_iload_n 1 dX0_laidBy_16 rfl rfl ?_
    refine r_icmp_gt (tgt := 23) dX0_laidBy_17 (by decide) (fun c3 => ?_) (fun c3 => ?_)
    · have h := h.1 c3
      refine r_iinc 3 [(3, .int (y3 + 1)), (0, .ref (q 0)), (1, .int (y1)), (2, .int (y2))] dX0_laidBy_23 rfl rfl (Nat.le_of_ble_eq_true rfl) rfl ?_
      refine r_goto (tgt := 4) dX0_laidBy_26 (by decide) ?_
      refine r_ls [1, 2, 3, 0] (ls2 := [(0, .ref (q 0)), (1, .int (y1)), (2, .int (y2)), (3, .int (y3 + 1))]) rfl ?_
      exact h
    · have h := h.2 c3
      refine r_iinc 2 [(2, .int (y2 + 1)), (0, .ref (q 0)), (1, .int (y1)), (3, .int (y3))] dX0_laidBy_20 rfl rfl (Nat.le_of_ble_eq_true rfl) rfl ?_
      refine r_iinc 3 [(3, .int (y3 + 1)), (2, .int (y2 + 1)), (0, .ref (q 0)), (1, .int (y1))] dX0_laidBy_23 rfl rfl (Nat.le_of_ble_eq_true rfl) rfl ?_
      refine r_goto (tgt := 4) dX0_laidBy_26 (by decide) ?_
      refine r_ls [2, 3, 1, 0] (ls2 := [(0, .ref (q 0)), (1, .int (y1)), (2, .int (y2 + 1)), (3, .int (y3 + 1))]) rfl ?_
      exact h
abbrev T_Fall_stepsOut_55 (E : EvT) (q : Nat → Nat) (D : Nat) (P : Int32 → StX → Prop) (S : StX) (y2 : Int32) (y3 : Int32) : Prop := RX E q iX_Fall_stepsOut D (qIx E q P) S [(0, .ref (q 0)), (2, .int (y2)), (3, .int (y3))] [] 55
set_option maxRecDepth 20000 in
theorem en_Fall_stepsOut {E : EvT} {q : Nat → Nat} {d : Nat} {x1 : Int32} {S : StX} {P : Int32 → StX → Prop} (h : (0 ≤ x1 ∧ x1 < 40) ∧ ((0 ≤ (xa_Fall_hollowLayer S (ix x1)) ∧ (xa_Fall_hollowLayer S (ix x1)) < 8) ∧ (C_Fall_laidBy E q (d + 2) (xa_Fall_earliest S (ix (xa_Fall_hollowLayer S (ix x1)))) S (fun r3 S4 => (0 ≤ (xa_Fall_hollowCell S4 (ix x1)) ∧ (xa_Fall_hollowCell S4 (ix x1)) < 100) ∧ (T_Fall_stepsOut_55 E q (d + 3) P (xI (xA (xA (xA S4 14 (fillF 100 (-1) (xa_Fall_steps S4))) 14 (upd ((fillF 100 (-1) (xa_Fall_steps S4))) (ix (xa_Fall_hollowCell S4 (ix x1))) 0)) 13 (upd (xa_Fall_queue S4) (ix 0) (xa_Fall_hollowCell S4 (ix x1)))) 12 1) r3 0))))) : C_Fall_stepsOut E q (d + 3) x1 S P := by
  refine Cn.of rfl (Nat.le_of_ble_eq_true rfl) (ls := [(0, .ref (q 0)), (1, .int (x1))]) rfl ?_
  refine r_aload_n 0 dX0_stepsOut_0 rfl rfl ?_
  refine r_aload_n 0 dX0_stepsOut_1 rfl rfl ?_
  refine xg_0_18 rfl dX0_stepsOut_2 ?_
  refine r_aload_n 0 dX0_stepsOut_5 rfl rfl ?_
  refine xg_0_36 rfl dX0_stepsOut_6 ?_
  refine r_iload_n 1 dX0_stepsOut_9 rfl rfl ?_
  obtain ⟨b1, h⟩ := h
  refine xl_11 b1 dX0_stepsOut_10 ?_
  obtain ⟨b2, h⟩ := h
  refine xl_3 b2 dX0_stepsOut_11 ?_
  refine K0_Fall_laidBy rfl (Nat.le_of_ble_eq_true rfl) dX0_stepsOut_12 (mIx h (fun r3 S4 h => ?_))
  refine r_istore_n [(2, .int (r3)), (0, .ref (q 0)), (1, .int (x1))] dX0_stepsOut_15 rfl (Nat.le_of_ble_eq_true rfl) rfl ?_
  refine r_aload_n 1 dX0_stepsOut_16 rfl rfl ?_
  refine xg_0_42 rfl dX0_stepsOut_17 ?_
  refine r_iconst_m1 dX0_stepsOut_20 ?_
  refine KP0_Jfill_14 (d := d + 2) rfl (Nat.le_of_ble_eq_true rfl) dX0_stepsOut_21 ?_
  refine r_aload_n 1 dX0_stepsOut_24 rfl rfl ?_
  refine xg_0_42 rfl dX0_stepsOut_25 ?_
  refine r_aload_n 1 dX0_stepsOut_28 rfl rfl ?_
  refine xg_0_33 rfl dX0_stepsOut_29 ?_
  refine r_iload_n 2 dX0_stepsOut_32 rfl rfl ?_
  refine xl_10 b1 dX0_stepsOut_33 ?_
  refine r_iconst_0 dX0_stepsOut_34 ?_
  obtain ⟨b5, h⟩ := h
  refine xt_14 b5 dX0_stepsOut_35 ?_
  refine r_aload_n 1 dX0_stepsOut_36 rfl rfl ?_
  refine xg_0_39 rfl dX0_stepsOut_37 ?_
  refine r_iconst_0 dX0_stepsOut_40 ?_
  refine r_aload_n 1 dX0_stepsOut_41 rfl rfl ?_
  refine xg_0_33 rfl dX0_stepsOut_42 ?_
  refine r_iload_n 2 dX0_stepsOut_45 rfl rfl ?_
  refine xl_10 b1 dX0_stepsOut_46 ?_
  refine xt_13 (by decide) dX0_stepsOut_47 ?_
  refine r_aload_n 1 dX0_stepsOut_48 rfl rfl ?_
  refine r_iconst_1 dX0_stepsOut_49 ?_
  refine xq_0_76 rfl dX0_stepsOut_50 ?_
  refine r_iconst_0 dX0_stepsOut_53 ?_
  refine r_istore_n [(3, .int (0)), (2, .int (r3)), (0, .ref (q 0)), (1, .int (x1))] dX0_stepsOut_54 rfl (Nat.le_of_ble_eq_true rfl) rfl ?_
  refine r_ls [2, 1, 0] (ls2 := [(0, .ref (q 0)), (2, .int (r3)), (3, .int (0))]) rfl ?_
  exact h
set_option maxRecDepth 20000 in
theorem sg_Fall_stepsOut_55 {E : EvT} {q : Nat → Nat} {d : Nat} {S : StX} {P : Int32 → StX → Prop} {y2 : Int32} {y3 : Int32} (h : ((xs_Fall_queued S) ≤ y3 → (P (-2) S)) ∧ (¬ (xs_Fall_queued S) ≤ y3 → ((100 ≤ y3 → (P (-2) S)) ∧ (¬ 100 ≤ y3 → ((0 ≤ y3 ∧ y3 < 100) ∧ (((pBorder S (xa_Fall_queue S (ix y3))) = false → (C_Fall_spread E q (d + 2) (xa_Fall_queue S (ix y3)) y2 S (fun S6 => T_Fall_stepsOut_55 E q (d + 3) P S6 y2 (y3 + 1)))) ∧ ((pBorder S (xa_Fall_queue S (ix y3))) = true → ((0 ≤ (xa_Fall_queue S (ix y3)) ∧ (xa_Fall_queue S (ix y3)) < 100) ∧ (P (xa_Fall_steps S (ix (xa_Fall_queue S (ix y3)))) S))))))))) : T_Fall_stepsOut_55 E q (d + 3) P S y2 y3 := by
  refine r_iload_n 2 dX0_stepsOut_55 rfl rfl ?_
  refine r_aload_n 0 dX0_stepsOut_56 rfl rfl ?_
  refine xg_0_76 rfl dX0_stepsOut_57 ?_
  refine r_icmp_ge (tgt := 111) dX0_stepsOut_60 (by decide) (fun c1 => ?_) (fun c1 => ?_)
  · have h := h.1 c1
    refine r_bipush_m2 dX0_stepsOut_111 ?_
    exact r_iret dX0_stepsOut_113 rfl (Nat.le_refl _) (Nat.le_refl _) ⟨_, _, rfl, rfl, h⟩
  · have h := h.2 c1
    refine r_iload_n 2 dX0_stepsOut_63 rfl rfl ?_
    refine r_bipush_100 dX0_stepsOut_64 ?_
    refine r_icmp_ge (tgt := 111) dX0_stepsOut_66 (by decide) (fun c2 => ?_) (fun c2 => ?_)
    · have h := h.1 c2
      refine r_bipush_m2 dX0_stepsOut_111 ?_
      exact r_iret dX0_stepsOut_113 rfl (Nat.le_refl _) (Nat.le_refl _) ⟨_, _, rfl, rfl, h⟩
    · have h := h.2 c2
      refine r_aload_n 0 dX0_stepsOut_69 rfl rfl ?_
      refine r_aload_n 0 dX0_stepsOut_70 rfl rfl ?_
      refine xg_0_39 rfl dX0_stepsOut_71 ?_
      refine r_iload_n 2 dX0_stepsOut_74 rfl rfl ?_
      obtain ⟨b3, h⟩ := h
      refine xl_13 b3 dX0_stepsOut_75 ?_
      refine KP0_Fall_isBorder (d := d + 1)  rfl (Nat.le_of_ble_eq_true rfl) dX0_stepsOut_76 ?_
      refine r_if_eqb (tgt := 94) dX0_stepsOut_79 (by decide) (fun c4 => ?_) (fun c4 => ?_)
      · have h := h.1 c4
        refine r_aload_n 0 dX0_stepsOut_94 rfl rfl ?_
        refine r_aload_n 0 dX0_stepsOut_95 rfl rfl ?_
        refine xg_0_39 rfl dX0_stepsOut_96 ?_
        refine r_iload_n 2 dX0_stepsOut_99 rfl rfl ?_
        refine xl_13 b3 dX0_stepsOut_100 ?_
        refine r_iload_n 1 dX0_stepsOut_101 rfl rfl ?_
        refine K0_Fall_spread rfl (Nat.le_of_ble_eq_true rfl) dX0_stepsOut_102 (mVx h (fun S6 h => ?_))
        refine r_iinc 2 [(3, .int (y3 + 1)), (0, .ref (q 0)), (2, .int (y2))] dX0_stepsOut_105 rfl rfl (Nat.le_of_ble_eq_true rfl) rfl ?_
        refine r_goto (tgt := 55) dX0_stepsOut_108 (by decide) ?_
        refine r_ls [1, 2, 0] (ls2 := [(0, .ref (q 0)), (2, .int (y2)), (3, .int (y3 + 1))]) rfl ?_
        exact h
      · have h := h.2 c4
        refine r_aload_n 0 dX0_stepsOut_82 rfl rfl ?_
        refine xg_0_42 rfl dX0_stepsOut_83 ?_
        refine r_aload_n 0 dX0_stepsOut_86 rfl rfl ?_
        refine xg_0_39 rfl dX0_stepsOut_87 ?_
        refine r_iload_n 2 dX0_stepsOut_90 rfl rfl ?_
        refine xl_13 b3 dX0_stepsOut_91 ?_
        obtain ⟨b7, h⟩ := h
        refine xl_14 b7 dX0_stepsOut_92 ?_
        exact r_iret dX0_stepsOut_93 rfl (Nat.le_refl _) (Nat.le_refl _) ⟨_, _, rfl, rfl, h⟩
abbrev T_Fall_spread_2 (E : EvT) (q : Nat → Nat) (D : Nat) (P : StX → Prop) (S : StX) (y1 : Int32) (y2 : Int32) (y3 : Int32) : Prop := RX E q iX_Fall_spread D (qVx E q P) S [(0, .ref (q 0)), (1, .int (y1)), (2, .int (y2)), (3, .int (y3))] [] 2
abbrev T_Fall_spread_10 (E : EvT) (q : Nat → Nat) (D : Nat) (P : StX → Prop) (S : StX) (y1 : Int32) (y2 : Int32) (y3 : Int32) (y4 : Int32) : Prop := RX E q iX_Fall_spread D (qVx E q P) S [(0, .ref (q 0)), (1, .int (y1)), (2, .int (y2)), (3, .int (y3)), (4, .int (y4))] [] 10
set_option maxRecDepth 20000 in
theorem en_Fall_spread {E : EvT} {q : Nat → Nat} {d : Nat} {x1 : Int32} {x2 : Int32} {S : StX} {P : StX → Prop} (h : T_Fall_spread_2 E q (d + 2) P S x1 x2 (-1)) : C_Fall_spread E q (d + 2) x1 x2 S P := by
  refine Cn.of rfl (Nat.le_of_ble_eq_true rfl) (ls := [(0, .ref (q 0)), (1, .int (x1)), (2, .int (x2))]) rfl ?_
  refine r_iconst_m1 dX0_spread_0 ?_
  refine r_istore_n [(3, .int ((-1))), (0, .ref (q 0)), (1, .int (x1)), (2, .int (x2))] dX0_spread_1 rfl (Nat.le_of_ble_eq_true rfl) rfl ?_
  refine r_ls [1, 2, 3, 0] (ls2 := [(0, .ref (q 0)), (1, .int (x1)), (2, .int (x2)), (3, .int ((-1)))]) rfl ?_
  exact h
set_option maxRecDepth 20000 in
theorem sg_Fall_spread_2 {E : EvT} {q : Nat → Nat} {d : Nat} {S : StX} {P : StX → Prop} {y1 : Int32} {y2 : Int32} {y3 : Int32} (h : (1 < y3 → (P S)) ∧ (¬ 1 < y3 → (T_Fall_spread_10 E q (d + 2) P S y1 y2 y3 (-1)))) : T_Fall_spread_2 E q (d + 2) P S y1 y2 y3 := by
  refine r_iload_n 3 dX0_spread_2 rfl rfl ?_
  refine r_iconst_1 dX0_spread_3 ?_
  refine r_icmp_gt (tgt := 123) dX0_spread_4 (by decide) (fun c1 => ?_) (fun c1 => ?_)
  · have h := h.1 c1
    exact r_vret dX0_spread_123 rfl (Nat.le_refl _) (Nat.le_refl _) ⟨_, rfl, rfl, h⟩
  · have h := h.2 c1
    refine r_iconst_m1 dX0_spread_7 ?_
    refine r_istore [(4, .int ((-1))), (0, .ref (q 0)), (1, .int (y1)), (2, .int (y2)), (3, .int (y3))] dX0_spread_8 (Nat.le_of_ble_eq_true rfl) rfl ?_
    refine r_ls [1, 2, 3, 4, 0] (ls2 := [(0, .ref (q 0)), (1, .int (y1)), (2, .int (y2)), (3, .int (y3)), (4, .int ((-1)))]) rfl ?_
    exact h
set_option maxRecDepth 20000 in
theorem sg_Fall_spread_10 {E : EvT} {q : Nat → Nat} {d : Nat} {S : StX} {P : StX → Prop} {y1 : Int32} {y2 : Int32} {y3 : Int32} {y4 : Int32} (h : (1 < y4 → (T_Fall_spread_2 E q (d + 2) P S y1 y2 (y3 + 1))) ∧ (¬ 1 < y4 → ((100 ≤ (xs_Fall_queued S) → (T_Fall_spread_10 E q (d + 2) P S y1 y2 y3 (y4 + 1))) ∧ (¬ 100 ≤ (xs_Fall_queued S) → (((pCell S ((y1 + (y3 * (xs_Plan_width S))) + y4)) = false → (T_Fall_spread_10 E q (d + 2) P S y1 y2 y3 (y4 + 1))) ∧ ((pCell S ((y1 + (y3 * (xs_Plan_width S))) + y4)) = true → ((0 ≤ ((y1 + (y3 * (xs_Plan_width S))) + y4) ∧ ((y1 + (y3 * (xs_Plan_width S))) + y4) < 100) ∧ ((¬ (xa_Fall_steps S (ix ((y1 + (y3 * (xs_Plan_width S))) + y4))) = (-1) → (T_Fall_spread_10 E q (d + 2) P S y1 y2 y3 (y4 + 1))) ∧ ((xa_Fall_steps S (ix ((y1 + (y3 * (xs_Plan_width S))) + y4))) = (-1) → (((xa_Fall_height S (ix ((y1 + (y3 * (xs_Plan_width S))) + y4))) ≤ y2 → (T_Fall_spread_10 E q (d + 2) P S y1 y2 y3 (y4 + 1))) ∧ (¬ (xa_Fall_height S (ix ((y1 + (y3 * (xs_Plan_width S))) + y4))) ≤ y2 → ((0 ≤ y1 ∧ y1 < 100) ∧ ((0 ≤ (xs_Fall_queued S) ∧ (xs_Fall_queued S) < 100) ∧ (T_Fall_spread_10 E q (d + 2) P (xI (xA (xA S 14 (upd (xa_Fall_steps S) (ix ((y1 + (y3 * (xs_Plan_width S))) + y4)) ((xa_Fall_steps S (ix y1)) + 1))) 13 (upd (xa_Fall_queue S) (ix (xs_Fall_queued S)) ((y1 + (y3 * (xs_Plan_width S))) + y4))) 12 ((xs_Fall_queued S) + 1)) y1 y2 y3 (y4 + 1))))))))))))))) : T_Fall_spread_10 E q (d + 2) P S y1 y2 y3 y4 := by
  refine r_iload 4 dX0_spread_10 rfl ?_
  refine r_iconst_1 dX0_spread_12 ?_
  refine r_icmp_gt (tgt := 117) dX0_spread_13 (by decide) (fun c1 => ?_) (fun c1 => ?_)
  · have h := h.1 c1
    refine r_iinc 3 [(3, .int (y3 + 1)), (0, .ref (q 0)), (1, .int (y1)), (2, .int (y2)), (4, .int (y4))] dX0_spread_117 rfl rfl (Nat.le_of_ble_eq_true rfl) rfl ?_
    refine r_goto (tgt := 2) dX0_spread_120 (by decide) ?_
    refine r_ls [1, 2, 3, 0] (ls2 := [(0, .ref (q 0)), (1, .int (y1)), (2, .int (y2)), (3, .int (y3 + 1))]) rfl ?_
    exact h
  · have h := h.2 c1
    refine r_iload_n 1 dX0_spread_16 rfl rfl ?_
    refine r_iload_n 3 dX0_spread_17 rfl rfl ?_
    refine r_aload_n 0 dX0_spread_18 rfl rfl ?_
    refine xg_0_45 rfl dX0_spread_19 ?_
    refine xg_0_95 rfl dX0_spread_22 ?_
    refine r_imul dX0_spread_25 ?_
    refine r_iadd dX0_spread_26 ?_
    refine r_iload 4 dX0_spread_27 rfl ?_
    refine r_iadd dX0_spread_29 ?_
    refine r_istore [(5, .int ((y1 + (y3 * (xs_Plan_width S))) + y4)), (0, .ref (q 0)), (1, .int (y1)), (2, .int (y2)), (3, .int (y3)), (4, .int (y4))] dX0_spread_30 (Nat.le_of_ble_eq_true rfl) rfl ?_
    refine r_aload_n 1 dX0_spread_32 rfl rfl ?_
    refine xg_0_76 rfl dX0_spread_33 ?_
    refine r_bipush_100 dX0_spread_36 ?_
    refine r_icmp_ge (tgt := 111) dX0_spread_38 (by decide) (fun c2 => ?_) (fun c2 => ?_)
    · have h := h.1 c2
      refine r_iinc 5 [(4, .int (y4 + 1)), (5, .int ((y1 + (y3 * (xs_Plan_width S))) + y4)), (0, .ref (q 0)), (1, .int (y1)), (2, .int (y2)), (3, .int (y3))] dX0_spread_111 rfl rfl (Nat.le_of_ble_eq_true rfl) rfl ?_
      refine r_goto (tgt := 10) dX0_spread_114 (by decide) ?_
      refine r_ls [2, 3, 4, 5, 0] (ls2 := [(0, .ref (q 0)), (1, .int (y1)), (2, .int (y2)), (3, .int (y3)), (4, .int (y4 + 1))]) rfl ?_
      exact h
    · have h := h.2 c2
      refine r_aload_n 1 dX0_spread_41 rfl rfl ?_
      refine xg_0_45 rfl dX0_spread_42 ?_
      refine r_iload 0 dX0_spread_45 rfl ?_
      refine KP0_Plan_isCell (d := d + 0)  rfl (Nat.le_of_ble_eq_true rfl) dX0_spread_47 ?_
      refine r_if_eqb (tgt := 111) dX0_spread_50 (by decide) (fun c3 => ?_) (fun c3 => ?_)
      · have h := h.1 c3
        refine r_iinc 5 [(4, .int (y4 + 1)), (5, .int ((y1 + (y3 * (xs_Plan_width S))) + y4)), (0, .ref (q 0)), (1, .int (y1)), (2, .int (y2)), (3, .int (y3))] dX0_spread_111 rfl rfl (Nat.le_of_ble_eq_true rfl) rfl ?_
        refine r_goto (tgt := 10) dX0_spread_114 (by decide) ?_
        refine r_ls [2, 3, 4, 5, 0] (ls2 := [(0, .ref (q 0)), (1, .int (y1)), (2, .int (y2)), (3, .int (y3)), (4, .int (y4 + 1))]) rfl ?_
        exact h
      · have h := h.2 c3
        refine r_aload_n 1 dX0_spread_53 rfl rfl ?_
        refine xg_0_42 rfl dX0_spread_54 ?_
        refine r_iload 0 dX0_spread_57 rfl ?_
        obtain ⟨b4, h⟩ := h
        refine xl_14 b4 dX0_spread_59 ?_
        refine r_iconst_m1 dX0_spread_60 ?_
        refine r_icmp_ne (tgt := 111) dX0_spread_61 (by decide) (fun c5 => ?_) (fun c5 => ?_)
        · have h := h.1 c5
          refine r_iinc 5 [(4, .int (y4 + 1)), (5, .int ((y1 + (y3 * (xs_Plan_width S))) + y4)), (0, .ref (q 0)), (1, .int (y1)), (2, .int (y2)), (3, .int (y3))] dX0_spread_111 rfl rfl (Nat.le_of_ble_eq_true rfl) rfl ?_
          refine r_goto (tgt := 10) dX0_spread_114 (by decide) ?_
          refine r_ls [2, 3, 4, 5, 0] (ls2 := [(0, .ref (q 0)), (1, .int (y1)), (2, .int (y2)), (3, .int (y3)), (4, .int (y4 + 1))]) rfl ?_
          exact h
        · have h := h.2 c5
          refine r_iload_n 3 dX0_spread_64 rfl rfl ?_
          refine r_aload_n 1 dX0_spread_65 rfl rfl ?_
          refine xg_0_30 rfl dX0_spread_66 ?_
          refine r_iload 0 dX0_spread_69 rfl ?_
          refine xl_8 b4 dX0_spread_71 ?_
          refine r_icmp_ge (tgt := 111) dX0_spread_72 (by decide) (fun c6 => ?_) (fun c6 => ?_)
          · have h := h.1 c6
            refine r_iinc 5 [(4, .int (y4 + 1)), (5, .int ((y1 + (y3 * (xs_Plan_width S))) + y4)), (0, .ref (q 0)), (1, .int (y1)), (2, .int (y2)), (3, .int (y3))] dX0_spread_111 rfl rfl (Nat.le_of_ble_eq_true rfl) rfl ?_
            refine r_goto (tgt := 10) dX0_spread_114 (by decide) ?_
            refine r_ls [2, 3, 4, 5, 0] (ls2 := [(0, .ref (q 0)), (1, .int (y1)), (2, .int (y2)), (3, .int (y3)), (4, .int (y4 + 1))]) rfl ?_
            exact h
          · have h := h.2 c6
            refine r_aload_n 1 dX0_spread_75 rfl rfl ?_
            refine xg_0_42 rfl dX0_spread_76 ?_
            refine r_iload 0 dX0_spread_79 rfl ?_
            refine r_aload_n 1 dX0_spread_81 rfl rfl ?_
            refine xg_0_42 rfl dX0_spread_82 ?_
            refine r_iload_n 2 dX0_spread_85 rfl rfl ?_
            obtain ⟨b7, h⟩ := h
            refine xl_14 b7 dX0_spread_86 ?_
            refine r_iconst_1 dX0_spread_87 ?_
            refine r_iadd dX0_spread_88 ?_
            refine xt_14 b4 dX0_spread_89 ?_
            refine r_aload_n 1 dX0_spread_90 rfl rfl ?_
            refine xg_0_39 rfl dX0_spread_91 ?_
            refine r_aload_n 1 dX0_spread_94 rfl rfl ?_
            refine xg_0_76 rfl dX0_spread_95 ?_
            refine r_iload 0 dX0_spread_98 rfl ?_
            obtain ⟨b8, h⟩ := h
            refine xt_13 b8 dX0_spread_100 ?_
            refine r_aload_n 1 dX0_spread_101 rfl rfl ?_
            refine r_dup dX0_spread_102 rfl ?_
            refine xg_0_76 rfl dX0_spread_103 ?_
            refine r_iconst_1 dX0_spread_106 ?_
            refine r_iadd dX0_spread_107 ?_
            refine xq_0_76 rfl dX0_spread_108 ?_
            refine r_iinc 5 [(4, .int (y4 + 1)), (5, .int ((y1 + (y3 * (xs_Plan_width S))) + y4)), (0, .ref (q 0)), (1, .int (y1)), (2, .int (y2)), (3, .int (y3))] dX0_spread_111 rfl rfl (Nat.le_of_ble_eq_true rfl) rfl ?_
            refine r_goto (tgt := 10) dX0_spread_114 (by decide) ?_
            refine r_ls [2, 3, 4, 5, 0] (ls2 := [(0, .ref (q 0)), (1, .int (y1)), (2, .int (y2)), (3, .int (y3)), (4, .int (y4 + 1))]) rfl ?_
            exact h
set_option maxRecDepth 20000 in
theorem en_Digs_begin {E : EvT} {q : Nat → Nat} {d : Nat} {x1 : Int32} {x2 : Int32} {x3 : Int32} {x4 : Int32} {S : StX} {P : StX → Prop} (h : (0 ≤ (xs_Digs_size S) ∧ (xs_Digs_size S) < 100) ∧ (C_Plan_placesIn E q (d + 2) x3 x4 (xA (xA (xA (xA S 22 (upd (xa_Digs_hand S) (ix (xs_Digs_size S)) x1)) 23 (upd (xa_Digs_kind S) (ix (xs_Digs_size S)) x2)) 24 (upd (xa_Digs_upperLeft S) (ix (xs_Digs_size S)) x3)) 25 (upd (xa_Digs_lowerRight S) (ix (xs_Digs_size S)) x4)) (fun r2 S3 => P (xA S3 32 (upd (xa_Digs_touched S3) (ix (xs_Digs_size S)) r2))))) : C_Digs_begin E q (d + 3) x1 x2 x3 x4 S P := by
  refine Cn.of rfl (Nat.le_of_ble_eq_true rfl) (ls := [(0, .ref (q 1)), (1, .int (x1)), (2, .int (x2)), (3, .int (x3)), (4, .int (x4))]) rfl ?_
  refine r_aload_n 0 dX1_begin_0 rfl rfl ?_
  refine xg_1_11 rfl dX1_begin_1 ?_
  refine r_aload_n 0 dX1_begin_4 rfl rfl ?_
  refine xg_1_52 rfl dX1_begin_5 ?_
  refine r_iload_n 1 dX1_begin_8 rfl rfl ?_
  obtain ⟨b1, h⟩ := h
  refine xt_22 b1 dX1_begin_9 ?_
  refine r_aload_n 0 dX1_begin_10 rfl rfl ?_
  refine xg_1_15 rfl dX1_begin_11 ?_
  refine r_aload_n 0 dX1_begin_14 rfl rfl ?_
  refine xg_1_52 rfl dX1_begin_15 ?_
  refine r_iload_n 2 dX1_begin_18 rfl rfl ?_
  refine xt_23 b1 dX1_begin_19 ?_
  refine r_aload_n 0 dX1_begin_20 rfl rfl ?_
  refine xg_1_18 rfl dX1_begin_21 ?_
  refine r_aload_n 0 dX1_begin_24 rfl rfl ?_
  refine xg_1_52 rfl dX1_begin_25 ?_
  refine r_iload_n 3 dX1_begin_28 rfl rfl ?_
  refine xt_24 b1 dX1_begin_29 ?_
  refine r_aload_n 0 dX1_begin_30 rfl rfl ?_
  refine xg_1_21 rfl dX1_begin_31 ?_
  refine r_aload_n 0 dX1_begin_34 rfl rfl ?_
  refine xg_1_52 rfl dX1_begin_35 ?_
  refine r_iload 4 dX1_begin_38 rfl ?_
  refine xt_25 b1 dX1_begin_40 ?_
  refine r_aload_n 0 dX1_begin_41 rfl rfl ?_
  refine xg_1_42 rfl dX1_begin_42 ?_
  refine r_aload_n 0 dX1_begin_45 rfl rfl ?_
  refine xg_1_52 rfl dX1_begin_46 ?_
  refine r_aload_n 0 dX1_begin_49 rfl rfl ?_
  refine xg_1_48 rfl dX1_begin_50 ?_
  refine r_iload_n 3 dX1_begin_53 rfl rfl ?_
  refine r_iload 4 dX1_begin_54 rfl ?_
  refine K1_Plan_placesIn rfl (Nat.le_of_ble_eq_true rfl) dX1_begin_56 (mIx h (fun r2 S3 h => ?_))
  refine xt_32 b1 dX1_begin_59 ?_
  exact r_vret dX1_begin_60 rfl (Nat.le_refl _) (Nat.le_refl _) ⟨_, rfl, rfl, h⟩
set_option maxRecDepth 20000 in
theorem en_Digs_reach {E : EvT} {q : Nat → Nat} {d : Nat} {x1 : Int32} {x2 : Int32} {S : StX} {P : StX → Prop} (h : (0 ≤ (xs_Digs_size S) ∧ (xs_Digs_size S) < 100) ∧ (P (xA (xA S 26 (upd (xa_Digs_top S) (ix (xs_Digs_size S)) x1)) 27 (upd (xa_Digs_bottom S) (ix (xs_Digs_size S)) x2)))) : C_Digs_reach E q d x1 x2 S P := by
  refine Cn.of rfl (Nat.le_of_ble_eq_true rfl) (ls := [(0, .ref (q 1)), (1, .int (x1)), (2, .int (x2))]) rfl ?_
  refine r_aload_n 0 dX1_reach_0 rfl rfl ?_
  refine xg_1_24 rfl dX1_reach_1 ?_
  refine r_aload_n 0 dX1_reach_4 rfl rfl ?_
  refine xg_1_52 rfl dX1_reach_5 ?_
  refine r_iload_n 1 dX1_reach_8 rfl rfl ?_
  obtain ⟨b1, h⟩ := h
  refine xt_26 b1 dX1_reach_9 ?_
  refine r_aload_n 0 dX1_reach_10 rfl rfl ?_
  refine xg_1_27 rfl dX1_reach_11 ?_
  refine r_aload_n 0 dX1_reach_14 rfl rfl ?_
  refine xg_1_52 rfl dX1_reach_15 ?_
  refine r_iload_n 2 dX1_reach_18 rfl rfl ?_
  refine xt_27 b1 dX1_reach_19 ?_
  exact r_vret dX1_reach_20 rfl (Nat.le_refl _) (Nat.le_refl _) ⟨_, rfl, rfl, h⟩
abbrev T_Digs_finish_48 (E : EvT) (q : Nat → Nat) (D : Nat) (P : Int32 → StX → Prop) (S : StX) (y1 : Int32) (y4 : Int32) : Prop := RX E q iX_Digs_finish D (qIx E q P) S [(0, .ref (q 1)), (1, .int (y1)), (4, .int (y4))] [] 48
set_option maxRecDepth 20000 in
theorem en_Digs_finish {E : EvT} {q : Nat → Nat} {d : Nat} {x1 : Int32} {x2 : Int32} {x3 : Int32} {S : StX} {P : Int32 → StX → Prop} (h : (0 ≤ (xs_Digs_size S) ∧ (xs_Digs_size S) < 100) ∧ (T_Digs_finish_48 E q d P (xA (xA (xA (xA S 28 (upd (xa_Digs_from S) (ix (xs_Digs_size S)) x1)) 29 (upd (xa_Digs_to S) (ix (xs_Digs_size S)) x2)) 30 (upd (xa_Digs_told S) (ix (xs_Digs_size S)) x3)) 31 (upd (xa_Digs_struck S) (ix (xs_Digs_size S)) 10000)) x1 (xs_Digs_size S))) : C_Digs_finish E q d x1 x2 x3 S P := by
  refine Cn.of rfl (Nat.le_of_ble_eq_true rfl) (ls := [(0, .ref (q 1)), (1, .int (x1)), (2, .int (x2)), (3, .int (x3))]) rfl ?_
  refine r_aload_n 0 dX1_finish_0 rfl rfl ?_
  refine xg_1_30 rfl dX1_finish_1 ?_
  refine r_aload_n 0 dX1_finish_4 rfl rfl ?_
  refine xg_1_52 rfl dX1_finish_5 ?_
  refine r_iload_n 1 dX1_finish_8 rfl rfl ?_
  obtain ⟨b1, h⟩ := h
  refine xt_28 b1 dX1_finish_9 ?_
  refine r_aload_n 0 dX1_finish_10 rfl rfl ?_
  refine xg_1_33 rfl dX1_finish_11 ?_
  refine r_aload_n 0 dX1_finish_14 rfl rfl ?_
  refine xg_1_52 rfl dX1_finish_15 ?_
  refine r_iload_n 2 dX1_finish_18 rfl rfl ?_
  refine xt_29 b1 dX1_finish_19 ?_
  refine r_aload_n 0 dX1_finish_20 rfl rfl ?_
  refine xg_1_36 rfl dX1_finish_21 ?_
  refine r_aload_n 0 dX1_finish_24 rfl rfl ?_
  refine xg_1_52 rfl dX1_finish_25 ?_
  refine r_iload_n 3 dX1_finish_28 rfl rfl ?_
  refine xt_30 b1 dX1_finish_29 ?_
  refine r_aload_n 0 dX1_finish_30 rfl rfl ?_
  refine xg_1_39 rfl dX1_finish_31 ?_
  refine r_aload_n 0 dX1_finish_34 rfl rfl ?_
  refine xg_1_52 rfl dX1_finish_35 ?_
  refine r_sipush_10000 dX1_finish_38 ?_
  refine xt_31 b1 dX1_finish_41 ?_
  refine r_aload_n 0 dX1_finish_42 rfl rfl ?_
  refine xg_1_52 rfl dX1_finish_43 ?_
  refine r_istore [(4, .int (xs_Digs_size S)), (0, .ref (q 1)), (1, .int (x1)), (2, .int (x2)), (3, .int (x3))] dX1_finish_46 (Nat.le_of_ble_eq_true rfl) rfl ?_
  refine r_ls [1, 2, 0] (ls2 := [(0, .ref (q 1)), (1, .int (x1)), (4, .int (xs_Digs_size S))]) rfl ?_
  exact h
set_option maxRecDepth 20000 in
theorem sg_Digs_finish_48 {E : EvT} {q : Nat → Nat} {d : Nat} {S : StX} {P : Int32 → StX → Prop} {y1 : Int32} {y4 : Int32} (h : (y4 ≤ 0 → ((0 ≤ y4 ∧ y4 < 100) ∧ (P (((xs_Digs_size S) + 1) - 1) (xI (xA S 33 (upd (xa_Digs_order S) (ix y4) (xs_Digs_size S))) 21 ((xs_Digs_size S) + 1))))) ∧ (¬ y4 ≤ 0 → ((0 ≤ (y4 - 1) ∧ (y4 - 1) < 100) ∧ ((0 ≤ (xa_Digs_order S (ix (y4 - 1))) ∧ (xa_Digs_order S (ix (y4 - 1))) < 100) ∧ (((xa_Digs_from S (ix (xa_Digs_order S (ix (y4 - 1))))) ≤ y1 → ((0 ≤ y4 ∧ y4 < 100) ∧ (P (((xs_Digs_size S) + 1) - 1) (xI (xA S 33 (upd (xa_Digs_order S) (ix y4) (xs_Digs_size S))) 21 ((xs_Digs_size S) + 1))))) ∧ (¬ (xa_Digs_from S (ix (xa_Digs_order S (ix (y4 - 1))))) ≤ y1 → ((0 ≤ y4 ∧ y4 < 100) ∧ (T_Digs_finish_48 E q d P (xA S 33 (upd (xa_Digs_order S) (ix y4) (xa_Digs_order S (ix (y4 - 1))))) y1 (y4 + (-1)))))))))) : T_Digs_finish_48 E q d P S y1 y4 := by
  refine r_iload 2 dX1_finish_48 rfl ?_
  refine r_if_le (tgt := 93) dX1_finish_50 (by decide) (fun c1 => ?_) (fun c1 => ?_)
  · have h := h.1 c1
    refine r_aload_n 0 dX1_finish_93 rfl rfl ?_
    refine xg_1_45 rfl dX1_finish_94 ?_
    refine r_iload 2 dX1_finish_97 rfl ?_
    refine r_aload_n 0 dX1_finish_99 rfl rfl ?_
    refine xg_1_52 rfl dX1_finish_100 ?_
    obtain ⟨b2, h⟩ := h
    refine xt_33 b2 dX1_finish_103 ?_
    refine r_aload_n 0 dX1_finish_104 rfl rfl ?_
    refine r_dup dX1_finish_105 rfl ?_
    refine xg_1_52 rfl dX1_finish_106 ?_
    refine r_iconst_1 dX1_finish_109 ?_
    refine r_iadd dX1_finish_110 ?_
    refine xq_1_52 rfl dX1_finish_111 ?_
    refine r_aload_n 0 dX1_finish_114 rfl rfl ?_
    refine xg_1_52 rfl dX1_finish_115 ?_
    refine r_iconst_1 dX1_finish_118 ?_
    refine r_isub dX1_finish_119 ?_
    exact r_iret dX1_finish_120 rfl (Nat.le_refl _) (Nat.le_refl _) ⟨_, _, rfl, rfl, h⟩
  · have h := h.2 c1
    refine r_aload_n 0 dX1_finish_53 rfl rfl ?_
    refine xg_1_30 rfl dX1_finish_54 ?_
    refine r_aload_n 0 dX1_finish_57 rfl rfl ?_
    refine xg_1_45 rfl dX1_finish_58 ?_
    refine r_iload 2 dX1_finish_61 rfl ?_
    refine r_iconst_1 dX1_finish_63 ?_
    refine r_isub dX1_finish_64 ?_
    obtain ⟨b3, h⟩ := h
    refine xl_33 b3 dX1_finish_65 ?_
    obtain ⟨b4, h⟩ := h
    refine xl_28 b4 dX1_finish_66 ?_
    refine r_iload_n 1 dX1_finish_67 rfl rfl ?_
    refine r_icmp_le (tgt := 93) dX1_finish_68 (by decide) (fun c5 => ?_) (fun c5 => ?_)
    · have h := h.1 c5
      refine r_aload_n 0 dX1_finish_93 rfl rfl ?_
      refine xg_1_45 rfl dX1_finish_94 ?_
      refine r_iload 2 dX1_finish_97 rfl ?_
      refine r_aload_n 0 dX1_finish_99 rfl rfl ?_
      refine xg_1_52 rfl dX1_finish_100 ?_
      obtain ⟨b6, h⟩ := h
      refine xt_33 b6 dX1_finish_103 ?_
      refine r_aload_n 0 dX1_finish_104 rfl rfl ?_
      refine r_dup dX1_finish_105 rfl ?_
      refine xg_1_52 rfl dX1_finish_106 ?_
      refine r_iconst_1 dX1_finish_109 ?_
      refine r_iadd dX1_finish_110 ?_
      refine xq_1_52 rfl dX1_finish_111 ?_
      refine r_aload_n 0 dX1_finish_114 rfl rfl ?_
      refine xg_1_52 rfl dX1_finish_115 ?_
      refine r_iconst_1 dX1_finish_118 ?_
      refine r_isub dX1_finish_119 ?_
      exact r_iret dX1_finish_120 rfl (Nat.le_refl _) (Nat.le_refl _) ⟨_, _, rfl, rfl, h⟩
    · have h := h.2 c5
      refine r_aload_n 0 dX1_finish_71 rfl rfl ?_
      refine xg_1_45 rfl dX1_finish_72 ?_
      refine r_iload 2 dX1_finish_75 rfl ?_
      refine r_aload_n 0 dX1_finish_77 rfl rfl ?_
      refine xg_1_45 rfl dX1_finish_78 ?_
      refine r_iload 2 dX1_finish_81 rfl ?_
      refine r_iconst_1 dX1_finish_83 ?_
      refine r_isub dX1_finish_84 ?_
      refine xl_33 b3 dX1_finish_85 ?_
      obtain ⟨b7, h⟩ := h
      refine xt_33 b7 dX1_finish_86 ?_
      refine r_iinc 2 [(4, .int (y4 + (-1))), (0, .ref (q 1)), (1, .int (y1))] dX1_finish_87 rfl rfl (Nat.le_of_ble_eq_true rfl) rfl ?_
      refine r_goto (tgt := 48) dX1_finish_90 (by decide) ?_
      refine r_ls [1, 2, 0] (ls2 := [(0, .ref (q 1)), (1, .int (y1)), (4, .int (y4 + (-1)))]) rfl ?_
      exact h
abbrev T_Digs_noteArea_3 (E : EvT) (q : Nat → Nat) (D : Nat) (P : StX → Prop) (S : StX) (y1 : Int32) (y2 : Int32) (y3 : Int32) (y4 : Int32) : Prop := RX E q iX_Digs_noteArea D (qVx E q P) S [(0, .ref (q 1)), (1, .int (y1)), (2, .int (y2)), (3, .int (y3)), (4, .int (y4))] [] 3
set_option maxRecDepth 20000 in
theorem en_Digs_noteArea {E : EvT} {q : Nat → Nat} {d : Nat} {x1 : Int32} {x2 : Int32} {x3 : Int32} {S : StX} {P : StX → Prop} (h : T_Digs_noteArea_3 E q (d + 2) P S x1 x2 x3 0) : C_Digs_noteArea E q (d + 2) x1 x2 x3 S P := by
  refine Cn.of rfl (Nat.le_of_ble_eq_true rfl) (ls := [(0, .ref (q 1)), (1, .int (x1)), (2, .int (x2)), (3, .int (x3))]) rfl ?_
  refine r_iconst_0 dX1_noteArea_0 ?_
  refine r_istore [(4, .int (0)), (0, .ref (q 1)), (1, .int (x1)), (2, .int (x2)), (3, .int (x3))] dX1_noteArea_1 (Nat.le_of_ble_eq_true rfl) rfl ?_
  refine r_ls [1, 2, 3, 4, 0] (ls2 := [(0, .ref (q 1)), (1, .int (x1)), (2, .int (x2)), (3, .int (x3)), (4, .int (0))]) rfl ?_
  exact h
set_option maxRecDepth 20000 in
theorem sg_Digs_noteArea_3 {E : EvT} {q : Nat → Nat} {d : Nat} {S : StX} {P : StX → Prop} {y1 : Int32} {y2 : Int32} {y3 : Int32} {y4 : Int32} (h : ((xs_Digs_size S) ≤ y4 → (P S)) ∧ (¬ (xs_Digs_size S) ≤ y4 → ((0 ≤ y4 ∧ y4 < 100) ∧ (((pMeet S y2 y3 (xa_Digs_upperLeft S (ix y4)) (xa_Digs_lowerRight S (ix y4))) = false → (T_Digs_noteArea_3 E q (d + 2) P S y1 y2 y3 (y4 + 1))) ∧ ((pMeet S y2 y3 (xa_Digs_upperLeft S (ix y4)) (xa_Digs_lowerRight S (ix y4))) = true → (T_Digs_noteArea_3 E q (d + 2) P (xA S 32 (upd (xa_Digs_touched S) (ix y4) ((xa_Digs_touched S (ix y4)) ||| ((1 : Int32) <<< (y1 &&& 31))))) y1 y2 y3 (y4 + 1))))))) : T_Digs_noteArea_3 E q (d + 2) P S y1 y2 y3 y4 := by
  refine r_iload 4 dX1_noteArea_3 rfl ?_
  refine r_aload_n 0 dX1_noteArea_5 rfl rfl ?_
  refine xg_1_52 rfl dX1_noteArea_6 ?_
  refine r_icmp_ge (tgt := 57) dX1_noteArea_9 (by decide) (fun c1 => ?_) (fun c1 => ?_)
  · have h := h.1 c1
    exact r_vret dX1_noteArea_57 rfl (Nat.le_refl _) (Nat.le_refl _) ⟨_, rfl, rfl, h⟩
  · have h := h.2 c1
    refine r_aload_n 0 dX1_noteArea_12 rfl rfl ?_
    refine xg_1_48 rfl dX1_noteArea_13 ?_
    refine r_iload_n 2 dX1_noteArea_16 rfl rfl ?_
    refine r_iload_n 3 dX1_noteArea_17 rfl rfl ?_
    refine r_aload_n 0 dX1_noteArea_18 rfl rfl ?_
    refine xg_1_18 rfl dX1_noteArea_19 ?_
    refine r_iload 4 dX1_noteArea_22 rfl ?_
    obtain ⟨b2, h⟩ := h
    refine xl_24 b2 dX1_noteArea_24 ?_
    refine r_aload_n 0 dX1_noteArea_25 rfl rfl ?_
    refine xg_1_21 rfl dX1_noteArea_26 ?_
    refine r_iload 4 dX1_noteArea_29 rfl ?_
    refine xl_25 b2 dX1_noteArea_31 ?_
    refine KP1_Plan_meet (d := d + 0)  rfl (Nat.le_of_ble_eq_true rfl) dX1_noteArea_32 ?_
    refine r_if_eqb (tgt := 51) dX1_noteArea_35 (by decide) (fun c3 => ?_) (fun c3 => ?_)
    · have h := h.1 c3
      refine r_iinc 4 [(4, .int (y4 + 1)), (0, .ref (q 1)), (1, .int (y1)), (2, .int (y2)), (3, .int (y3))] dX1_noteArea_51 rfl rfl (Nat.le_of_ble_eq_true rfl) rfl ?_
      refine r_goto (tgt := 3) dX1_noteArea_54 (by decide) ?_
      refine r_ls [1, 2, 3, 4, 0] (ls2 := [(0, .ref (q 1)), (1, .int (y1)), (2, .int (y2)), (3, .int (y3)), (4, .int (y4 + 1))]) rfl ?_
      exact h
    · have h := h.2 c3
      refine r_aload_n 0 dX1_noteArea_38 rfl rfl ?_
      refine xg_1_42 rfl dX1_noteArea_39 ?_
      refine r_iload 4 dX1_noteArea_42 rfl ?_
      refine r_dup2 dX1_noteArea_44 rfl rfl ?_
      refine xl_32 b2 dX1_noteArea_45 ?_
      refine r_iconst_1 dX1_noteArea_46 ?_
      refine r_iload_n 1 dX1_noteArea_47 rfl rfl ?_
      refine r_ishl dX1_noteArea_48 ?_
      refine r_ior dX1_noteArea_49 ?_
      refine xt_32 b2 dX1_noteArea_50 ?_
      refine r_iinc 4 [(4, .int (y4 + 1)), (0, .ref (q 1)), (1, .int (y1)), (2, .int (y2)), (3, .int (y3))] dX1_noteArea_51 rfl rfl (Nat.le_of_ble_eq_true rfl) rfl ?_
      refine r_goto (tgt := 3) dX1_noteArea_54 (by decide) ?_
      refine r_ls [1, 2, 3, 4, 0] (ls2 := [(0, .ref (q 1)), (1, .int (y1)), (2, .int (y2)), (3, .int (y3)), (4, .int (y4 + 1))]) rfl ?_
      exact h
set_option maxRecDepth 20000 in
theorem en_Digs_cross {E : EvT} {q : Nat → Nat} {d : Nat} {x1 : Int32} {x2 : Int32} {S : StX} {P : StX → Prop} (h : (0 ≤ x1 ∧ x1 < 100) ∧ (P (xA S 31 (upd (xa_Digs_struck S) (ix x1) x2)))) : C_Digs_cross E q d x1 x2 S P := by
  refine Cn.of rfl (Nat.le_of_ble_eq_true rfl) (ls := [(0, .ref (q 1)), (1, .int (x1)), (2, .int (x2))]) rfl ?_
  refine r_aload_n 0 dX1_cross_0 rfl rfl ?_
  refine xg_1_39 rfl dX1_cross_1 ?_
  refine r_iload_n 1 dX1_cross_4 rfl rfl ?_
  refine r_iload_n 2 dX1_cross_5 rfl rfl ?_
  obtain ⟨b1, h⟩ := h
  refine xt_31 b1 dX1_cross_6 ?_
  exact r_vret dX1_cross_7 rfl (Nat.le_refl _) (Nat.le_refl _) ⟨_, rfl, rfl, h⟩
abbrev T_Digs_state_6 (E : EvT) (q : Nat → Nat) (D : Nat) (P : Int32 → StX → Prop) (S : StX) (y1 : Int32) (y2 : Int32) (y3 : Int32) (y4 : Int32) (y5 : Int32) (y6 : Int32) : Prop := RX E q iX_Digs_state D (qIx E q P) S [(0, .ref (q 1)), (1, .int (y1)), (2, .int (y2)), (3, .int (y3)), (4, .int (y4)), (5, .int (y5)), (6, .int (y6))] [] 6
set_option maxRecDepth 20000 in
theorem en_Digs_state {E : EvT} {q : Nat → Nat} {d : Nat} {x1 : Int32} {x2 : Int32} {x3 : Int32} {x4 : Int32} {S : StX} {P : Int32 → StX → Prop} (h : T_Digs_state_6 E q (d + 3) P S x1 x2 x3 x4 0 0) : C_Digs_state E q (d + 3) x1 x2 x3 x4 S P := by
  refine Cn.of rfl (Nat.le_of_ble_eq_true rfl) (ls := [(0, .ref (q 1)), (1, .int (x1)), (2, .int (x2)), (3, .int (x3)), (4, .int (x4))]) rfl ?_
  refine r_iconst_0 dX1_state_0 ?_
  refine r_istore [(5, .int (0)), (0, .ref (q 1)), (1, .int (x1)), (2, .int (x2)), (3, .int (x3)), (4, .int (x4))] dX1_state_1 (Nat.le_of_ble_eq_true rfl) rfl ?_
  refine r_iconst_0 dX1_state_3 ?_
  refine r_istore [(6, .int (0)), (5, .int (0)), (0, .ref (q 1)), (1, .int (x1)), (2, .int (x2)), (3, .int (x3)), (4, .int (x4))] dX1_state_4 (Nat.le_of_ble_eq_true rfl) rfl ?_
  refine r_ls [2, 3, 4, 5, 6, 1, 0] (ls2 := [(0, .ref (q 1)), (1, .int (x1)), (2, .int (x2)), (3, .int (x3)), (4, .int (x4)), (5, .int (0)), (6, .int (0))]) rfl ?_
  exact h
set_option maxRecDepth 20000 in
theorem sg_Digs_state_6 {E : EvT} {q : Nat → Nat} {d : Nat} {S : StX} {P : Int32 → StX → Prop} {y1 : Int32} {y2 : Int32} {y3 : Int32} {y4 : Int32} {y5 : Int32} {y6 : Int32} (h : ((xs_Digs_size S) ≤ y6 → (P y5 S)) ∧ (¬ (xs_Digs_size S) ≤ y6 → ((0 ≤ y6 ∧ y6 < 100) ∧ ((0 ≤ (xa_Digs_order S (ix y6)) ∧ (xa_Digs_order S (ix y6)) < 100) ∧ ((y3 < (xa_Digs_from S (ix (xa_Digs_order S (ix y6)))) → (P y5 S)) ∧ (¬ y3 < (xa_Digs_from S (ix (xa_Digs_order S (ix y6)))) → ((0 ≤ (xa_Digs_order S (ix y6)) ∧ (xa_Digs_order S (ix y6)) < 100) ∧ (((pKnown S (xa_Digs_order S (ix y6)) y4) = false → (T_Digs_state_6 E q (d + 3) P S y1 y2 y3 y4 y5 (y6 + 1))) ∧ ((pKnown S (xa_Digs_order S (ix y6)) y4) = true → (((pCuts S (xa_Digs_order S (ix y6)) y1 y2) = false → (T_Digs_state_6 E q (d + 3) P S y1 y2 y3 y4 y5 (y6 + 1))) ∧ ((pCuts S (xa_Digs_order S (ix y6)) y1 y2) = true → (T_Digs_state_6 E q (d + 3) P S y1 y2 y3 y4 (pAfter y5 (xa_Digs_kind S (ix (xa_Digs_order S (ix y6))))) (y6 + 1))))))))))))) : T_Digs_state_6 E q (d + 3) P S y1 y2 y3 y4 y5 y6 := by
  refine r_iload 6 dX1_state_6 rfl ?_
  refine r_aload_n 0 dX1_state_8 rfl rfl ?_
  refine xg_1_52 rfl dX1_state_9 ?_
  refine r_icmp_ge (tgt := 82) dX1_state_12 (by decide) (fun c1 => ?_) (fun c1 => ?_)
  · have h := h.1 c1
    refine r_iload 5 dX1_state_82 rfl ?_
    exact r_iret dX1_state_84 rfl (Nat.le_refl _) (Nat.le_refl _) ⟨_, _, rfl, rfl, h⟩
  · have h := h.2 c1
    refine r_aload_n 0 dX1_state_15 rfl rfl ?_
    refine xg_1_30 rfl dX1_state_16 ?_
    refine r_aload_n 0 dX1_state_19 rfl rfl ?_
    refine xg_1_45 rfl dX1_state_20 ?_
    refine r_iload 6 dX1_state_23 rfl ?_
    obtain ⟨b2, h⟩ := h
    refine xl_33 b2 dX1_state_25 ?_
    obtain ⟨b3, h⟩ := h
    refine xl_28 b3 dX1_state_26 ?_
    refine r_iload_n 3 dX1_state_27 rfl rfl ?_
    refine r_icmp_gt (tgt := 82) dX1_state_28 (by decide) (fun c4 => ?_) (fun c4 => ?_)
    · have h := h.1 c4
      refine r_iload 5 dX1_state_82 rfl ?_
      exact r_iret dX1_state_84 rfl (Nat.le_refl _) (Nat.le_refl _) ⟨_, _, rfl, rfl, h⟩
    · have h := h.2 c4
      refine r_aload_n 0 dX1_state_31 rfl rfl ?_
      refine xg_1_45 rfl dX1_state_32 ?_
      refine r_iload 6 dX1_state_35 rfl ?_
      refine xl_33 b2 dX1_state_37 ?_
      refine r_istore [(7, .int (xa_Digs_order S (ix y6))), (0, .ref (q 1)), (1, .int (y1)), (2, .int (y2)), (3, .int (y3)), (4, .int (y4)), (5, .int (y5)), (6, .int (y6))] dX1_state_38 (Nat.le_of_ble_eq_true rfl) rfl ?_
      refine r_aload_n 1 dX1_state_40 rfl rfl ?_
      refine r_iload 0 dX1_state_41 rfl ?_
      refine r_iload 5 dX1_state_43 rfl ?_
      obtain ⟨b5, h⟩ := h
      refine KP1_Digs_isKnown (d := d + 2) b5 rfl (Nat.le_of_ble_eq_true rfl) dX1_state_45 ?_
      refine r_if_eqb (tgt := 76) dX1_state_48 (by decide) (fun c6 => ?_) (fun c6 => ?_)
      · have h := h.1 c6
        refine r_iinc 7 [(6, .int (y6 + 1)), (7, .int (xa_Digs_order S (ix y6))), (0, .ref (q 1)), (1, .int (y1)), (2, .int (y2)), (3, .int (y3)), (4, .int (y4)), (5, .int (y5))] dX1_state_76 rfl rfl (Nat.le_of_ble_eq_true rfl) rfl ?_
        refine r_goto (tgt := 6) dX1_state_79 (by decide) ?_
        refine r_ls [2, 3, 4, 5, 6, 7, 0] (ls2 := [(0, .ref (q 1)), (1, .int (y1)), (2, .int (y2)), (3, .int (y3)), (4, .int (y4)), (5, .int (y5)), (6, .int (y6 + 1))]) rfl ?_
        exact h
      · have h := h.2 c6
        refine r_aload_n 1 dX1_state_51 rfl rfl ?_
        refine r_iload 0 dX1_state_52 rfl ?_
        refine r_iload_n 2 dX1_state_54 rfl rfl ?_
        refine r_iload_n 3 dX1_state_55 rfl rfl ?_
        refine KP1_Digs_cuts (d := d + 0) b5 rfl (Nat.le_of_ble_eq_true rfl) dX1_state_56 ?_
        refine r_if_eqb (tgt := 76) dX1_state_59 (by decide) (fun c7 => ?_) (fun c7 => ?_)
        · have h := h.1 c7
          refine r_iinc 7 [(6, .int (y6 + 1)), (7, .int (xa_Digs_order S (ix y6))), (0, .ref (q 1)), (1, .int (y1)), (2, .int (y2)), (3, .int (y3)), (4, .int (y4)), (5, .int (y5))] dX1_state_76 rfl rfl (Nat.le_of_ble_eq_true rfl) rfl ?_
          refine r_goto (tgt := 6) dX1_state_79 (by decide) ?_
          refine r_ls [2, 3, 4, 5, 6, 7, 0] (ls2 := [(0, .ref (q 1)), (1, .int (y1)), (2, .int (y2)), (3, .int (y3)), (4, .int (y4)), (5, .int (y5)), (6, .int (y6 + 1))]) rfl ?_
          exact h
        · have h := h.2 c7
          refine r_iload 6 dX1_state_62 rfl ?_
          refine r_aload_n 1 dX1_state_64 rfl rfl ?_
          refine xg_1_15 rfl dX1_state_65 ?_
          refine r_iload 0 dX1_state_68 rfl ?_
          refine xl_23 b3 dX1_state_70 ?_
          refine KP1_Digs_after (d := d + 2)  rfl (Nat.le_of_ble_eq_true rfl) dX1_state_71 ?_
          refine r_istore [(5, .int ((pAfter y5 (xa_Digs_kind S (ix (xa_Digs_order S (ix y6))))))), (7, .int (xa_Digs_order S (ix y6))), (0, .ref (q 1)), (1, .int (y1)), (2, .int (y2)), (3, .int (y3)), (4, .int (y4)), (6, .int (y6))] dX1_state_74 (Nat.le_of_ble_eq_true rfl) rfl ?_
          refine r_iinc 7 [(6, .int (y6 + 1)), (5, .int ((pAfter y5 (xa_Digs_kind S (ix (xa_Digs_order S (ix y6))))))), (7, .int (xa_Digs_order S (ix y6))), (0, .ref (q 1)), (1, .int (y1)), (2, .int (y2)), (3, .int (y3)), (4, .int (y4))] dX1_state_76 rfl rfl (Nat.le_of_ble_eq_true rfl) rfl ?_
          refine r_goto (tgt := 6) dX1_state_79 (by decide) ?_
          refine r_ls [3, 4, 5, 6, 7, 1, 0] (ls2 := [(0, .ref (q 1)), (1, .int (y1)), (2, .int (y2)), (3, .int (y3)), (4, .int (y4)), (5, .int ((pAfter y5 (xa_Digs_kind S (ix (xa_Digs_order S (ix y6))))))), (6, .int (y6 + 1))]) rfl ?_
          exact h
abbrev T_Digs_opener_3 (E : EvT) (q : Nat → Nat) (D : Nat) (P : Int32 → StX → Prop) (S : StX) (y1 : Int32) (y2 : Int32) (y3 : Int32) (y4 : Int32) (y5 : Int32) : Prop := RX E q iX_Digs_opener D (qIx E q P) S [(0, .ref (q 1)), (1, .int (y1)), (2, .int (y2)), (3, .int (y3)), (4, .int (y4)), (5, .int (y5))] [] 3
set_option maxRecDepth 20000 in
theorem en_Digs_opener {E : EvT} {q : Nat → Nat} {d : Nat} {x1 : Int32} {x2 : Int32} {x3 : Int32} {x4 : Int32} {S : StX} {P : Int32 → StX → Prop} (h : T_Digs_opener_3 E q (d + 3) P S x1 x2 x3 x4 0) : C_Digs_opener E q (d + 3) x1 x2 x3 x4 S P := by
  refine Cn.of rfl (Nat.le_of_ble_eq_true rfl) (ls := [(0, .ref (q 1)), (1, .int (x1)), (2, .int (x2)), (3, .int (x3)), (4, .int (x4))]) rfl ?_
  refine r_iconst_0 dX1_opener_0 ?_
  refine r_istore [(5, .int (0)), (0, .ref (q 1)), (1, .int (x1)), (2, .int (x2)), (3, .int (x3)), (4, .int (x4))] dX1_opener_1 (Nat.le_of_ble_eq_true rfl) rfl ?_
  refine r_ls [1, 2, 3, 4, 5, 0] (ls2 := [(0, .ref (q 1)), (1, .int (x1)), (2, .int (x2)), (3, .int (x3)), (4, .int (x4)), (5, .int (0))]) rfl ?_
  exact h
set_option maxRecDepth 20000 in
theorem sg_Digs_opener_3 {E : EvT} {q : Nat → Nat} {d : Nat} {S : StX} {P : Int32 → StX → Prop} {y1 : Int32} {y2 : Int32} {y3 : Int32} {y4 : Int32} {y5 : Int32} (h : ((xs_Digs_size S) ≤ y5 → (P (-1) S)) ∧ (¬ (xs_Digs_size S) ≤ y5 → ((0 ≤ y5 ∧ y5 < 100) ∧ ((0 ≤ (xa_Digs_order S (ix y5)) ∧ (xa_Digs_order S (ix y5)) < 100) ∧ ((y3 < (xa_Digs_from S (ix (xa_Digs_order S (ix y5)))) → (P (-1) S)) ∧ (¬ y3 < (xa_Digs_from S (ix (xa_Digs_order S (ix y5)))) → (((xa_Digs_kind S (ix (xa_Digs_order S (ix y5)))) = 2 → (T_Digs_opener_3 E q (d + 3) P S y1 y2 y3 y4 (y5 + 1))) ∧ (¬ (xa_Digs_kind S (ix (xa_Digs_order S (ix y5)))) = 2 → ((0 ≤ (xa_Digs_order S (ix y5)) ∧ (xa_Digs_order S (ix y5)) < 100) ∧ (((pKnown S (xa_Digs_order S (ix y5)) y4) = false → (T_Digs_opener_3 E q (d + 3) P S y1 y2 y3 y4 (y5 + 1))) ∧ ((pKnown S (xa_Digs_order S (ix y5)) y4) = true → (((pCuts S (xa_Digs_order S (ix y5)) y1 y2) = false → (T_Digs_opener_3 E q (d + 3) P S y1 y2 y3 y4 (y5 + 1))) ∧ ((pCuts S (xa_Digs_order S (ix y5)) y1 y2) = true → (P (xa_Digs_order S (ix y5)) S)))))))))))))) : T_Digs_opener_3 E q (d + 3) P S y1 y2 y3 y4 y5 := by
  refine r_iload 5 dX1_opener_3 rfl ?_
  refine r_aload_n 0 dX1_opener_5 rfl rfl ?_
  refine xg_1_52 rfl dX1_opener_6 ?_
  refine r_icmp_ge (tgt := 79) dX1_opener_9 (by decide) (fun c1 => ?_) (fun c1 => ?_)
  · have h := h.1 c1
    refine r_iconst_m1 dX1_opener_79 ?_
    exact r_iret dX1_opener_80 rfl (Nat.le_refl _) (Nat.le_refl _) ⟨_, _, rfl, rfl, h⟩
  · have h := h.2 c1
    refine r_aload_n 0 dX1_opener_12 rfl rfl ?_
    refine xg_1_30 rfl dX1_opener_13 ?_
    refine r_aload_n 0 dX1_opener_16 rfl rfl ?_
    refine xg_1_45 rfl dX1_opener_17 ?_
    refine r_iload 5 dX1_opener_20 rfl ?_
    obtain ⟨b2, h⟩ := h
    refine xl_33 b2 dX1_opener_22 ?_
    obtain ⟨b3, h⟩ := h
    refine xl_28 b3 dX1_opener_23 ?_
    refine r_iload_n 3 dX1_opener_24 rfl rfl ?_
    refine r_icmp_gt (tgt := 79) dX1_opener_25 (by decide) (fun c4 => ?_) (fun c4 => ?_)
    · have h := h.1 c4
      refine r_iconst_m1 dX1_opener_79 ?_
      exact r_iret dX1_opener_80 rfl (Nat.le_refl _) (Nat.le_refl _) ⟨_, _, rfl, rfl, h⟩
    · have h := h.2 c4
      refine r_aload_n 0 dX1_opener_28 rfl rfl ?_
      refine xg_1_45 rfl dX1_opener_29 ?_
      refine r_iload 5 dX1_opener_32 rfl ?_
      refine xl_33 b2 dX1_opener_34 ?_
      refine r_istore [(6, .int (xa_Digs_order S (ix y5))), (0, .ref (q 1)), (1, .int (y1)), (2, .int (y2)), (3, .int (y3)), (4, .int (y4)), (5, .int (y5))] dX1_opener_35 (Nat.le_of_ble_eq_true rfl) rfl ?_
      refine r_aload_n 1 dX1_opener_37 rfl rfl ?_
      refine xg_1_15 rfl dX1_opener_38 ?_
      refine r_iload 0 dX1_opener_41 rfl ?_
      refine xl_23 b3 dX1_opener_43 ?_
      refine r_iconst_2 dX1_opener_44 ?_
      refine r_icmp_eq (tgt := 73) dX1_opener_45 (by decide) (fun c5 => ?_) (fun c5 => ?_)
      · have h := h.1 c5
        refine r_iinc 6 [(5, .int (y5 + 1)), (6, .int (xa_Digs_order S (ix y5))), (0, .ref (q 1)), (1, .int (y1)), (2, .int (y2)), (3, .int (y3)), (4, .int (y4))] dX1_opener_73 rfl rfl (Nat.le_of_ble_eq_true rfl) rfl ?_
        refine r_goto (tgt := 3) dX1_opener_76 (by decide) ?_
        refine r_ls [2, 3, 4, 5, 6, 0] (ls2 := [(0, .ref (q 1)), (1, .int (y1)), (2, .int (y2)), (3, .int (y3)), (4, .int (y4)), (5, .int (y5 + 1))]) rfl ?_
        exact h
      · have h := h.2 c5
        refine r_aload_n 1 dX1_opener_48 rfl rfl ?_
        refine r_iload 0 dX1_opener_49 rfl ?_
        refine r_iload 5 dX1_opener_51 rfl ?_
        obtain ⟨b6, h⟩ := h
        refine KP1_Digs_isKnown (d := d + 2) b6 rfl (Nat.le_of_ble_eq_true rfl) dX1_opener_53 ?_
        refine r_if_eqb (tgt := 73) dX1_opener_56 (by decide) (fun c7 => ?_) (fun c7 => ?_)
        · have h := h.1 c7
          refine r_iinc 6 [(5, .int (y5 + 1)), (6, .int (xa_Digs_order S (ix y5))), (0, .ref (q 1)), (1, .int (y1)), (2, .int (y2)), (3, .int (y3)), (4, .int (y4))] dX1_opener_73 rfl rfl (Nat.le_of_ble_eq_true rfl) rfl ?_
          refine r_goto (tgt := 3) dX1_opener_76 (by decide) ?_
          refine r_ls [2, 3, 4, 5, 6, 0] (ls2 := [(0, .ref (q 1)), (1, .int (y1)), (2, .int (y2)), (3, .int (y3)), (4, .int (y4)), (5, .int (y5 + 1))]) rfl ?_
          exact h
        · have h := h.2 c7
          refine r_aload_n 1 dX1_opener_59 rfl rfl ?_
          refine r_iload 0 dX1_opener_60 rfl ?_
          refine r_iload_n 2 dX1_opener_62 rfl rfl ?_
          refine r_iload_n 3 dX1_opener_63 rfl rfl ?_
          refine KP1_Digs_cuts (d := d + 0) b6 rfl (Nat.le_of_ble_eq_true rfl) dX1_opener_64 ?_
          refine r_if_eqb (tgt := 73) dX1_opener_67 (by decide) (fun c8 => ?_) (fun c8 => ?_)
          · have h := h.1 c8
            refine r_iinc 6 [(5, .int (y5 + 1)), (6, .int (xa_Digs_order S (ix y5))), (0, .ref (q 1)), (1, .int (y1)), (2, .int (y2)), (3, .int (y3)), (4, .int (y4))] dX1_opener_73 rfl rfl (Nat.le_of_ble_eq_true rfl) rfl ?_
            refine r_goto (tgt := 3) dX1_opener_76 (by decide) ?_
            refine r_ls [2, 3, 4, 5, 6, 0] (ls2 := [(0, .ref (q 1)), (1, .int (y1)), (2, .int (y2)), (3, .int (y3)), (4, .int (y4)), (5, .int (y5 + 1))]) rfl ?_
            exact h
          · have h := h.2 c8
            refine r_iload 0 dX1_opener_70 rfl ?_
            exact r_iret dX1_opener_72 rfl (Nat.le_refl _) (Nat.le_refl _) ⟨_, _, rfl, rfl, h⟩
set_option maxRecDepth 20000 in
theorem en_Finds_begin {E : EvT} {q : Nat → Nat} {d : Nat} {x1 : Int32} {x2 : Int32} {x3 : Int32} {x4 : Int32} {S : StX} {P : StX → Prop} (h : (0 ≤ (xs_Finds_size S) ∧ (xs_Finds_size S) < 150) ∧ (P (xA (xA (xA (xA S 44 (upd (xa_Finds_hand S) (ix (xs_Finds_size S)) x1)) 47 (upd (xa_Finds_number S) (ix (xs_Finds_size S)) x2)) 50 (upd (xa_Finds_kind S) (ix (xs_Finds_size S)) x3)) 51 (upd (xa_Finds_marks S) (ix (xs_Finds_size S)) x4)))) : C_Finds_begin E q d x1 x2 x3 x4 S P := by
  refine Cn.of rfl (Nat.le_of_ble_eq_true rfl) (ls := [(0, .ref (q 2)), (1, .int (x1)), (2, .int (x2)), (3, .int (x3)), (4, .int (x4))]) rfl ?_
  refine r_aload_n 0 dX2_begin_0 rfl rfl ?_
  refine xg_2_11 rfl dX2_begin_1 ?_
  refine r_aload_n 0 dX2_begin_4 rfl rfl ?_
  refine xg_2_59 rfl dX2_begin_5 ?_
  refine r_iload_n 1 dX2_begin_8 rfl rfl ?_
  obtain ⟨b1, h⟩ := h
  refine xt_44 b1 dX2_begin_9 ?_
  refine r_aload_n 0 dX2_begin_10 rfl rfl ?_
  refine xg_2_21 rfl dX2_begin_11 ?_
  refine r_aload_n 0 dX2_begin_14 rfl rfl ?_
  refine xg_2_59 rfl dX2_begin_15 ?_
  refine r_iload_n 2 dX2_begin_18 rfl rfl ?_
  refine xt_47 b1 dX2_begin_19 ?_
  refine r_aload_n 0 dX2_begin_20 rfl rfl ?_
  refine xg_2_30 rfl dX2_begin_21 ?_
  refine r_aload_n 0 dX2_begin_24 rfl rfl ?_
  refine xg_2_59 rfl dX2_begin_25 ?_
  refine r_iload_n 3 dX2_begin_28 rfl rfl ?_
  refine xt_50 b1 dX2_begin_29 ?_
  refine r_aload_n 0 dX2_begin_30 rfl rfl ?_
  refine xg_2_33 rfl dX2_begin_31 ?_
  refine r_aload_n 0 dX2_begin_34 rfl rfl ?_
  refine xg_2_59 rfl dX2_begin_35 ?_
  refine r_iload 4 dX2_begin_38 rfl ?_
  refine xt_51 b1 dX2_begin_40 ?_
  exact r_vret dX2_begin_41 rfl (Nat.le_refl _) (Nat.le_refl _) ⟨_, rfl, rfl, h⟩
set_option maxRecDepth 20000 in
theorem en_Finds_reach {E : EvT} {q : Nat → Nat} {d : Nat} {x1 : Int32} {x2 : Int32} {S : StX} {P : StX → Prop} (h : (0 ≤ (xs_Finds_size S) ∧ (xs_Finds_size S) < 150) ∧ (P (xA (xA S 48 (upd (xa_Finds_top S) (ix (xs_Finds_size S)) x1)) 49 (upd (xa_Finds_bottom S) (ix (xs_Finds_size S)) x2)))) : C_Finds_reach E q d x1 x2 S P := by
  refine Cn.of rfl (Nat.le_of_ble_eq_true rfl) (ls := [(0, .ref (q 2)), (1, .int (x1)), (2, .int (x2))]) rfl ?_
  refine r_aload_n 0 dX2_reach_0 rfl rfl ?_
  refine xg_2_24 rfl dX2_reach_1 ?_
  refine r_aload_n 0 dX2_reach_4 rfl rfl ?_
  refine xg_2_59 rfl dX2_reach_5 ?_
  refine r_iload_n 1 dX2_reach_8 rfl rfl ?_
  obtain ⟨b1, h⟩ := h
  refine xt_48 b1 dX2_reach_9 ?_
  refine r_aload_n 0 dX2_reach_10 rfl rfl ?_
  refine xg_2_27 rfl dX2_reach_11 ?_
  refine r_aload_n 0 dX2_reach_14 rfl rfl ?_
  refine xg_2_59 rfl dX2_reach_15 ?_
  refine r_iload_n 2 dX2_reach_18 rfl rfl ?_
  refine xt_49 b1 dX2_reach_19 ?_
  exact r_vret dX2_reach_20 rfl (Nat.le_refl _) (Nat.le_refl _) ⟨_, rfl, rfl, h⟩
set_option maxRecDepth 20000 in
theorem en_Finds_finish {E : EvT} {q : Nat → Nat} {d : Nat} {x1 : Int32} {x2 : Int32} {x3 : Int32} {S : StX} {P : Int32 → StX → Prop} (h : (0 ≤ (xs_Finds_size S) ∧ (xs_Finds_size S) < 150) ∧ (P (((xs_Finds_size S) + 1) - 1) (xI (xA (xA (xA S 45 (upd (xa_Finds_from S) (ix (xs_Finds_size S)) x1)) 46 (upd (xa_Finds_to S) (ix (xs_Finds_size S)) x2)) 52 (upd (xa_Finds_told S) (ix (xs_Finds_size S)) x3)) 43 ((xs_Finds_size S) + 1)))) : C_Finds_finish E q d x1 x2 x3 S P := by
  refine Cn.of rfl (Nat.le_of_ble_eq_true rfl) (ls := [(0, .ref (q 2)), (1, .int (x1)), (2, .int (x2)), (3, .int (x3))]) rfl ?_
  refine r_aload_n 0 dX2_finish_0 rfl rfl ?_
  refine xg_2_15 rfl dX2_finish_1 ?_
  refine r_aload_n 0 dX2_finish_4 rfl rfl ?_
  refine xg_2_59 rfl dX2_finish_5 ?_
  refine r_iload_n 1 dX2_finish_8 rfl rfl ?_
  obtain ⟨b1, h⟩ := h
  refine xt_45 b1 dX2_finish_9 ?_
  refine r_aload_n 0 dX2_finish_10 rfl rfl ?_
  refine xg_2_18 rfl dX2_finish_11 ?_
  refine r_aload_n 0 dX2_finish_14 rfl rfl ?_
  refine xg_2_59 rfl dX2_finish_15 ?_
  refine r_iload_n 2 dX2_finish_18 rfl rfl ?_
  refine xt_46 b1 dX2_finish_19 ?_
  refine r_aload_n 0 dX2_finish_20 rfl rfl ?_
  refine xg_2_36 rfl dX2_finish_21 ?_
  refine r_aload_n 0 dX2_finish_24 rfl rfl ?_
  refine xg_2_59 rfl dX2_finish_25 ?_
  refine r_iload_n 3 dX2_finish_28 rfl rfl ?_
  refine xt_52 b1 dX2_finish_29 ?_
  refine r_aload_n 0 dX2_finish_30 rfl rfl ?_
  refine r_dup dX2_finish_31 rfl ?_
  refine xg_2_59 rfl dX2_finish_32 ?_
  refine r_iconst_1 dX2_finish_35 ?_
  refine r_iadd dX2_finish_36 ?_
  refine xq_2_59 rfl dX2_finish_37 ?_
  refine r_aload_n 0 dX2_finish_40 rfl rfl ?_
  refine xg_2_59 rfl dX2_finish_41 ?_
  refine r_iconst_1 dX2_finish_44 ?_
  refine r_isub dX2_finish_45 ?_
  exact r_iret dX2_finish_46 rfl (Nat.le_refl _) (Nat.le_refl _) ⟨_, _, rfl, rfl, h⟩
set_option maxRecDepth 20000 in
theorem en_Finds_askFor {E : EvT} {q : Nat → Nat} {d : Nat} {x1 : Int32} {S : StX} {P : StX → Prop} (h : (0 ≤ x1 ∧ x1 < 150) ∧ (C_Book_ask E q d (xa_Finds_from S (ix x1)) (xa_Finds_hand S (ix x1)) (xa_Finds_kind S (ix x1)) (xa_Finds_marks S (ix x1)) (-1) S (fun S3 => P S3))) : C_Finds_askFor E q (d + 1) x1 S P := by
  refine Cn.of rfl (Nat.le_of_ble_eq_true rfl) (ls := [(0, .ref (q 2)), (1, .int (x1))]) rfl ?_
  refine r_aload_n 0 dX2_askFor_0 rfl rfl ?_
  refine xg_2_55 rfl dX2_askFor_1 ?_
  refine r_aload_n 0 dX2_askFor_4 rfl rfl ?_
  refine xg_2_15 rfl dX2_askFor_5 ?_
  refine r_iload_n 1 dX2_askFor_8 rfl rfl ?_
  obtain ⟨b1, h⟩ := h
  refine xl_45 b1 dX2_askFor_9 ?_
  refine r_aload_n 0 dX2_askFor_10 rfl rfl ?_
  refine xg_2_11 rfl dX2_askFor_11 ?_
  refine r_iload_n 1 dX2_askFor_14 rfl rfl ?_
  refine xl_44 b1 dX2_askFor_15 ?_
  refine r_aload_n 0 dX2_askFor_16 rfl rfl ?_
  refine xg_2_30 rfl dX2_askFor_17 ?_
  refine r_iload_n 1 dX2_askFor_20 rfl rfl ?_
  refine xl_50 b1 dX2_askFor_21 ?_
  refine r_aload_n 0 dX2_askFor_22 rfl rfl ?_
  refine xg_2_33 rfl dX2_askFor_23 ?_
  refine r_iload_n 1 dX2_askFor_26 rfl rfl ?_
  refine xl_51 b1 dX2_askFor_27 ?_
  refine r_iconst_m1 dX2_askFor_28 ?_
  refine K2_Book_ask rfl (Nat.le_of_ble_eq_true rfl) dX2_askFor_29 (mVx h (fun S3 h => ?_))
  exact r_vret dX2_askFor_32 rfl (Nat.le_refl _) (Nat.le_refl _) ⟨_, rfl, rfl, h⟩
abbrev T_Finds_placesOf_34 (E : EvT) (q : Nat → Nat) (D : Nat) (P : Int32 → StX → Prop) (S : StX) (y1 : Int32) (y4 : Int32) (y5 : Int32) (y6 : Int32) : Prop := RX E q iX_Finds_placesOf D (qIx E q P) S [(0, .ref (q 2)), (1, .int (y1)), (4, .int (y4)), (5, .int (y5)), (6, .int (y6))] [] 34
set_option maxRecDepth 20000 in
theorem en_Finds_placesOf {E : EvT} {q : Nat → Nat} {d : Nat} {x1 : Int32} {x2 : Int32} {x3 : Int32} {S : StX} {P : Int32 → StX → Prop} (h : C_Finds_gatherDug E q (d + 5) x1 x2 S (fun S2 => (¬ x3 = (-1) → ((0 ≤ x1 ∧ x1 < 150) ∧ (T_Finds_placesOf_34 E q (d + 6) P S2 x1 x3 0 (xa_Finds_from S2 (ix x1))))) ∧ (x3 = (-1) → ((0 ≤ x1 ∧ x1 < 150) ∧ (T_Finds_placesOf_34 E q (d + 6) P S2 x1 (xa_Finds_hand S2 (ix x1)) 0 (xa_Finds_from S2 (ix x1))))))) : C_Finds_placesOf E q (d + 6) x1 x2 x3 S P := by
  refine Cn.of rfl (Nat.le_of_ble_eq_true rfl) (ls := [(0, .ref (q 2)), (1, .int (x1)), (2, .int (x2)), (3, .int (x3))]) rfl ?_
  refine r_aload_n 0 dX2_placesOf_0 rfl rfl ?_
  refine r_iload_n 1 dX2_placesOf_1 rfl rfl ?_
  refine r_iload_n 2 dX2_placesOf_2 rfl rfl ?_
  refine K2_Finds_gatherDug rfl (Nat.le_of_ble_eq_true rfl) dX2_placesOf_3 (mVx h (fun S2 h => ?_))
  refine r_iload_n 3 dX2_placesOf_6 rfl rfl ?_
  refine r_iconst_m1 dX2_placesOf_7 ?_
  refine r_icmp_ne (tgt := 20) dX2_placesOf_8 (by decide) (fun c3 => ?_) (fun c3 => ?_)
  · have h := h.1 c3
    refine r_iload_n 3 dX2_placesOf_20 rfl rfl ?_
    refine r_istore [(4, .int (x3)), (0, .ref (q 2)), (1, .int (x1)), (2, .int (x2)), (3, .int (x3))] dX2_placesOf_21 (Nat.le_of_ble_eq_true rfl) rfl ?_
    refine r_iconst_0 dX2_placesOf_23 ?_
    refine r_istore [(5, .int (0)), (4, .int (x3)), (0, .ref (q 2)), (1, .int (x1)), (2, .int (x2)), (3, .int (x3))] dX2_placesOf_24 (Nat.le_of_ble_eq_true rfl) rfl ?_
    refine r_aload_n 2 dX2_placesOf_26 rfl rfl ?_
    refine xg_2_15 rfl dX2_placesOf_27 ?_
    refine r_iload_n 3 dX2_placesOf_30 rfl rfl ?_
    obtain ⟨b4, h⟩ := h
    refine xl_45 b4 dX2_placesOf_31 ?_
    refine r_istore [(6, .int (xa_Finds_from S2 (ix x1))), (5, .int (0)), (4, .int (x3)), (0, .ref (q 2)), (1, .int (x1)), (2, .int (x2)), (3, .int (x3))] dX2_placesOf_32 (Nat.le_of_ble_eq_true rfl) rfl ?_
    refine r_ls [3, 4, 2, 1, 0] (ls2 := [(0, .ref (q 2)), (1, .int (x1)), (4, .int (x3)), (5, .int (0)), (6, .int (xa_Finds_from S2 (ix x1)))]) rfl ?_
    exact h
  · have h := h.2 c3
    refine r_aload_n 0 dX2_placesOf_11 rfl rfl ?_
    refine xg_2_11 rfl dX2_placesOf_12 ?_
    refine r_iload_n 1 dX2_placesOf_15 rfl rfl ?_
    obtain ⟨b5, h⟩ := h
    refine xl_44 b5 dX2_placesOf_16 ?_
    refine r_goto (tgt := 21) dX2_placesOf_17 (by decide) ?_
    refine r_istore [(4, .int (xa_Finds_hand S2 (ix x1))), (0, .ref (q 2)), (1, .int (x1)), (2, .int (x2)), (3, .int (x3))] dX2_placesOf_21 (Nat.le_of_ble_eq_true rfl) rfl ?_
    refine r_iconst_0 dX2_placesOf_23 ?_
    refine r_istore [(5, .int (0)), (4, .int (xa_Finds_hand S2 (ix x1))), (0, .ref (q 2)), (1, .int (x1)), (2, .int (x2)), (3, .int (x3))] dX2_placesOf_24 (Nat.le_of_ble_eq_true rfl) rfl ?_
    refine r_aload_n 2 dX2_placesOf_26 rfl rfl ?_
    refine xg_2_15 rfl dX2_placesOf_27 ?_
    refine r_iload_n 3 dX2_placesOf_30 rfl rfl ?_
    refine xl_45 b5 dX2_placesOf_31 ?_
    refine r_istore [(6, .int (xa_Finds_from S2 (ix x1))), (5, .int (0)), (4, .int (xa_Finds_hand S2 (ix x1))), (0, .ref (q 2)), (1, .int (x1)), (2, .int (x2)), (3, .int (x3))] dX2_placesOf_32 (Nat.le_of_ble_eq_true rfl) rfl ?_
    refine r_ls [3, 4, 2, 1, 0] (ls2 := [(0, .ref (q 2)), (1, .int (x1)), (4, .int (xa_Finds_hand S2 (ix x1))), (5, .int (0)), (6, .int (xa_Finds_from S2 (ix x1)))]) rfl ?_
    exact h
set_option maxRecDepth 20000 in
theorem sg_Finds_placesOf_34 {E : EvT} {q : Nat → Nat} {d : Nat} {S : StX} {P : Int32 → StX → Prop} {y1 : Int32} {y4 : Int32} {y5 : Int32} {y6 : Int32} (h : (0 ≤ y1 ∧ y1 < 150) ∧ (((xa_Finds_to S (ix y1)) < y6 → (P y5 S)) ∧ (¬ (xa_Finds_to S (ix y1)) < y6 → ((0 ≤ (y6 - (xa_Finds_from S (ix y1))) ∧ (y6 - (xa_Finds_from S (ix y1))) < 20) ∧ (∀ v4, v4 = (xa_Finds_dugIn S (ix (y6 - (xa_Finds_from S (ix y1))))) &&& (y5 ^^^ (-1)) → ((v4 = 0 → (T_Finds_placesOf_34 E q (d + 6) P S y1 y4 y5 (y6 + 1))) ∧ (¬ v4 = 0 → ((¬ (xa_Finds_number S (ix y1)) = 0 → (C_Finds_named E q (d + 5) y1 y6 v4 y4 S (fun r7 S8 => T_Finds_placesOf_34 E q (d + 6) P S8 y1 y4 (y5 ||| r7) (y6 + 1)))) ∧ ((xa_Finds_number S (ix y1)) = 0 → (T_Finds_placesOf_34 E q (d + 6) P S y1 y4 (y5 ||| v4) (y6 + 1))))))))))) : T_Finds_placesOf_34 E q (d + 6) P S y1 y4 y5 y6 := by
  refine r_iload 4 dX2_placesOf_34 rfl ?_
  refine r_aload_n 0 dX2_placesOf_36 rfl rfl ?_
  refine xg_2_18 rfl dX2_placesOf_37 ?_
  refine r_iload_n 1 dX2_placesOf_40 rfl rfl ?_
  obtain ⟨b1, h⟩ := h
  refine xl_46 b1 dX2_placesOf_41 ?_
  refine r_icmp_gt (tgt := 107) dX2_placesOf_42 (by decide) (fun c2 => ?_) (fun c2 => ?_)
  · have h := h.1 c2
    refine r_iload 3 dX2_placesOf_107 rfl ?_
    exact r_iret dX2_placesOf_109 rfl (Nat.le_refl _) (Nat.le_refl _) ⟨_, _, rfl, rfl, h⟩
  · have h := h.2 c2
    refine r_aload_n 0 dX2_placesOf_45 rfl rfl ?_
    refine xg_2_39 rfl dX2_placesOf_46 ?_
    refine r_iload 4 dX2_placesOf_49 rfl ?_
    refine r_aload_n 0 dX2_placesOf_51 rfl rfl ?_
    refine xg_2_15 rfl dX2_placesOf_52 ?_
    refine r_iload_n 1 dX2_placesOf_55 rfl rfl ?_
    refine xl_45 b1 dX2_placesOf_56 ?_
    refine r_isub dX2_placesOf_57 ?_
    obtain ⟨b3, h⟩ := h
    refine xl_53 b3 dX2_placesOf_58 ?_
    refine r_iload 3 dX2_placesOf_59 rfl ?_
    refine r_iconst_m1 dX2_placesOf_61 ?_
    refine r_ixor dX2_placesOf_62 ?_
    refine r_iand dX2_placesOf_63 ?_
    refine r_nm (fun v4 ev4 => ?_)
    have h := h v4 ev4
    refine r_istore [(7, .int (v4)), (0, .ref (q 2)), (1, .int (y1)), (4, .int (y4)), (5, .int (y5)), (6, .int (y6))] dX2_placesOf_64 (Nat.le_of_ble_eq_true rfl) rfl ?_
    refine r_iload 0 dX2_placesOf_66 rfl ?_
    refine r_if_eq (tgt := 101) dX2_placesOf_68 (by decide) (fun c5 => ?_) (fun c5 => ?_)
    · have h := h.1 c5
      refine r_iinc 5 [(6, .int (y6 + 1)), (7, .int (v4)), (0, .ref (q 2)), (1, .int (y1)), (4, .int (y4)), (5, .int (y5))] dX2_placesOf_101 rfl rfl (Nat.le_of_ble_eq_true rfl) rfl ?_
      refine r_goto (tgt := 34) dX2_placesOf_104 (by decide) ?_
      refine r_ls [2, 3, 4, 5, 0] (ls2 := [(0, .ref (q 2)), (1, .int (y1)), (4, .int (y4)), (5, .int (y5)), (6, .int (y6 + 1))]) rfl ?_
      exact h
    · have h := h.2 c5
      refine r_iload 4 dX2_placesOf_71 rfl ?_
      refine r_aload_n 1 dX2_placesOf_73 rfl rfl ?_
      refine xg_2_21 rfl dX2_placesOf_74 ?_
      refine r_iload_n 2 dX2_placesOf_77 rfl rfl ?_
      refine xl_47 b1 dX2_placesOf_78 ?_
      refine r_if_ne (tgt := 87) dX2_placesOf_79 (by decide) (fun c6 => ?_) (fun c6 => ?_)
      · have h := h.1 c6
        refine r_aload_n 1 dX2_placesOf_87 rfl rfl ?_
        refine r_iload_n 2 dX2_placesOf_88 rfl rfl ?_
        refine r_iload 5 dX2_placesOf_89 rfl ?_
        refine r_iload 0 dX2_placesOf_91 rfl ?_
        refine r_iload 3 dX2_placesOf_93 rfl ?_
        refine K2_Finds_named rfl (Nat.le_of_ble_eq_true rfl) dX2_placesOf_95 (mIx h (fun r7 S8 h => ?_))
        refine r_ior dX2_placesOf_98 ?_
        refine r_istore [(5, .int (y5 ||| r7)), (7, .int (v4)), (0, .ref (q 2)), (1, .int (y1)), (4, .int (y4)), (6, .int (y6))] dX2_placesOf_99 (Nat.le_of_ble_eq_true rfl) rfl ?_
        refine r_iinc 5 [(6, .int (y6 + 1)), (5, .int (y5 ||| r7)), (7, .int (v4)), (0, .ref (q 2)), (1, .int (y1)), (4, .int (y4))] dX2_placesOf_101 rfl rfl (Nat.le_of_ble_eq_true rfl) rfl ?_
        refine r_goto (tgt := 34) dX2_placesOf_104 (by decide) ?_
        refine r_ls [3, 4, 5, 1, 0] (ls2 := [(0, .ref (q 2)), (1, .int (y1)), (4, .int (y4)), (5, .int (y5 ||| r7)), (6, .int (y6 + 1))]) rfl ?_
        exact h
      · have h := h.2 c6
        refine r_iload 0 dX2_placesOf_82 rfl ?_
        refine r_goto (tgt := 98) dX2_placesOf_84 (by decide) ?_
        refine r_ior dX2_placesOf_98 ?_
        refine r_istore [(5, .int (y5 ||| v4)), (7, .int (v4)), (0, .ref (q 2)), (1, .int (y1)), (4, .int (y4)), (6, .int (y6))] dX2_placesOf_99 (Nat.le_of_ble_eq_true rfl) rfl ?_
        refine r_iinc 5 [(6, .int (y6 + 1)), (5, .int (y5 ||| v4)), (7, .int (v4)), (0, .ref (q 2)), (1, .int (y1)), (4, .int (y4))] dX2_placesOf_101 rfl rfl (Nat.le_of_ble_eq_true rfl) rfl ?_
        refine r_goto (tgt := 34) dX2_placesOf_104 (by decide) ?_
        refine r_ls [3, 4, 5, 1, 0] (ls2 := [(0, .ref (q 2)), (1, .int (y1)), (4, .int (y4)), (5, .int (y5 ||| v4)), (6, .int (y6 + 1))]) rfl ?_
        exact h
abbrev T_Finds_gatherDug_10 (E : EvT) (q : Nat → Nat) (D : Nat) (P : StX → Prop) (S : StX) (y1 : Int32) (y2 : Int32) (y3 : Int32) : Prop := RX E q iX_Finds_gatherDug D (qVx E q P) S [(0, .ref (q 2)), (1, .int (y1)), (2, .int (y2)), (3, .int (y3))] [] 10
abbrev T_Finds_gatherDug_91 (E : EvT) (q : Nat → Nat) (D : Nat) (P : StX → Prop) (S : StX) (y1 : Int32) (y2 : Int32) (y3 : Int32) (y4 : Int32) (y5 : Int32) : Prop := RX E q iX_Finds_gatherDug D (qVx E q P) S [(0, .ref (q 2)), (1, .int (y1)), (2, .int (y2)), (3, .int (y3)), (4, .int (y4)), (5, .int (y5))] [] 91
set_option maxRecDepth 20000 in
theorem en_Finds_gatherDug {E : EvT} {q : Nat → Nat} {d : Nat} {x1 : Int32} {x2 : Int32} {S : StX} {P : StX → Prop} (h : T_Finds_gatherDug_10 E q (d + 2) P (xA S 53 (fillF 20 0 (xa_Finds_dugIn S))) x1 x2 0) : C_Finds_gatherDug E q (d + 2) x1 x2 S P := by
  refine Cn.of rfl (Nat.le_of_ble_eq_true rfl) (ls := [(0, .ref (q 2)), (1, .int (x1)), (2, .int (x2))]) rfl ?_
  refine r_aload_n 0 dX2_gatherDug_0 rfl rfl ?_
  refine xg_2_39 rfl dX2_gatherDug_1 ?_
  refine r_iconst_0 dX2_gatherDug_4 ?_
  refine KP2_Jfill_53 (d := d + 1) rfl (Nat.le_of_ble_eq_true rfl) dX2_gatherDug_5 ?_
  refine r_iconst_0 dX2_gatherDug_8 ?_
  refine r_istore_n [(3, .int (0)), (0, .ref (q 2)), (1, .int (x1)), (2, .int (x2))] dX2_gatherDug_9 rfl (Nat.le_of_ble_eq_true rfl) rfl ?_
  refine r_ls [1, 2, 3, 0] (ls2 := [(0, .ref (q 2)), (1, .int (x1)), (2, .int (x2)), (3, .int (0))]) rfl ?_
  exact h
set_option maxRecDepth 20000 in
theorem sg_Finds_gatherDug_10 {E : EvT} {q : Nat → Nat} {d : Nat} {S : StX} {P : StX → Prop} {y1 : Int32} {y2 : Int32} {y3 : Int32} (h : ((xs_Digs_size S) ≤ y3 → (P S)) ∧ (¬ (xs_Digs_size S) ≤ y3 → ((0 ≤ y1 ∧ y1 < 150) ∧ ((0 ≤ y3 ∧ y3 < 100) ∧ (((pServes S y3 (xa_Finds_hand S (ix y1)) (xa_Finds_top S (ix y1)) (xa_Finds_bottom S (ix y1)) y2) = false → (T_Finds_gatherDug_10 E q (d + 2) P S y1 y2 (y3 + 1))) ∧ ((pServes S y3 (xa_Finds_hand S (ix y1)) (xa_Finds_top S (ix y1)) (xa_Finds_bottom S (ix y1)) y2) = true → ((0 ≤ y3 ∧ y3 < 100) ∧ (T_Finds_gatherDug_91 E q (d + 2) P S y1 y2 y3 (jMin (xa_Finds_to S (ix y1)) (xa_Digs_to S (ix y3))) (jMax (xa_Finds_from S (ix y1)) (xa_Digs_from S (ix y3))))))))))) : T_Finds_gatherDug_10 E q (d + 2) P S y1 y2 y3 := by
  refine r_iload_n 3 dX2_gatherDug_10 rfl rfl ?_
  refine r_aload_n 0 dX2_gatherDug_11 rfl rfl ?_
  refine xg_2_51 rfl dX2_gatherDug_12 ?_
  refine xg_2_83 rfl dX2_gatherDug_15 ?_
  refine r_icmp_ge (tgt := 136) dX2_gatherDug_18 (by decide) (fun c1 => ?_) (fun c1 => ?_)
  · have h := h.1 c1
    exact r_vret dX2_gatherDug_136 rfl (Nat.le_refl _) (Nat.le_refl _) ⟨_, rfl, rfl, h⟩
  · have h := h.2 c1
    refine r_aload_n 0 dX2_gatherDug_21 rfl rfl ?_
    refine xg_2_51 rfl dX2_gatherDug_22 ?_
    refine r_iload_n 3 dX2_gatherDug_25 rfl rfl ?_
    refine r_aload_n 0 dX2_gatherDug_26 rfl rfl ?_
    refine xg_2_11 rfl dX2_gatherDug_27 ?_
    refine r_iload_n 1 dX2_gatherDug_30 rfl rfl ?_
    obtain ⟨b2, h⟩ := h
    refine xl_44 b2 dX2_gatherDug_31 ?_
    refine r_aload_n 0 dX2_gatherDug_32 rfl rfl ?_
    refine xg_2_24 rfl dX2_gatherDug_33 ?_
    refine r_iload_n 1 dX2_gatherDug_36 rfl rfl ?_
    refine xl_48 b2 dX2_gatherDug_37 ?_
    refine r_aload_n 0 dX2_gatherDug_38 rfl rfl ?_
    refine xg_2_27 rfl dX2_gatherDug_39 ?_
    refine r_iload_n 1 dX2_gatherDug_42 rfl rfl ?_
    refine xl_49 b2 dX2_gatherDug_43 ?_
    refine r_iload_n 2 dX2_gatherDug_44 rfl rfl ?_
    obtain ⟨b3, h⟩ := h
    refine KP2_Digs_serves (d := d + 0) b3 rfl (Nat.le_of_ble_eq_true rfl) dX2_gatherDug_45 ?_
    refine r_if_eqb (tgt := 130) dX2_gatherDug_48 (by decide) (fun c4 => ?_) (fun c4 => ?_)
    · have h := h.1 c4
      refine r_iinc 3 [(3, .int (y3 + 1)), (0, .ref (q 2)), (1, .int (y1)), (2, .int (y2))] dX2_gatherDug_130 rfl rfl (Nat.le_of_ble_eq_true rfl) rfl ?_
      refine r_goto (tgt := 10) dX2_gatherDug_133 (by decide) ?_
      refine r_ls [1, 2, 3, 0] (ls2 := [(0, .ref (q 2)), (1, .int (y1)), (2, .int (y2)), (3, .int (y3 + 1))]) rfl ?_
      exact h
    · have h := h.2 c4
      refine r_aload_n 0 dX2_gatherDug_51 rfl rfl ?_
      refine xg_2_18 rfl dX2_gatherDug_52 ?_
      refine r_iload_n 1 dX2_gatherDug_55 rfl rfl ?_
      refine xl_46 b2 dX2_gatherDug_56 ?_
      refine r_aload_n 0 dX2_gatherDug_57 rfl rfl ?_
      refine xg_2_51 rfl dX2_gatherDug_58 ?_
      refine xg_2_90 rfl dX2_gatherDug_61 ?_
      refine r_iload_n 3 dX2_gatherDug_64 rfl rfl ?_
      obtain ⟨b5, h⟩ := h
      refine xl_29 b5 dX2_gatherDug_65 ?_
      refine KP2_Jmin (d := d + 1)  rfl (Nat.le_of_ble_eq_true rfl) dX2_gatherDug_66 ?_
      refine r_istore [(4, .int ((jMin (xa_Finds_to S (ix y1)) (xa_Digs_to S (ix y3))))), (0, .ref (q 2)), (1, .int (y1)), (2, .int (y2)), (3, .int (y3))] dX2_gatherDug_69 (Nat.le_of_ble_eq_true rfl) rfl ?_
      refine r_aload_n 1 dX2_gatherDug_71 rfl rfl ?_
      refine xg_2_15 rfl dX2_gatherDug_72 ?_
      refine r_iload_n 2 dX2_gatherDug_75 rfl rfl ?_
      refine xl_45 b2 dX2_gatherDug_76 ?_
      refine r_aload_n 1 dX2_gatherDug_77 rfl rfl ?_
      refine xg_2_51 rfl dX2_gatherDug_78 ?_
      refine xg_2_97 rfl dX2_gatherDug_81 ?_
      refine r_iload_n 4 dX2_gatherDug_84 rfl rfl ?_
      refine xl_28 b5 dX2_gatherDug_85 ?_
      refine KP2_Jmax (d := d + 1)  rfl (Nat.le_of_ble_eq_true rfl) dX2_gatherDug_86 ?_
      refine r_istore [(5, .int ((jMax (xa_Finds_from S (ix y1)) (xa_Digs_from S (ix y3))))), (4, .int ((jMin (xa_Finds_to S (ix y1)) (xa_Digs_to S (ix y3))))), (0, .ref (q 2)), (1, .int (y1)), (2, .int (y2)), (3, .int (y3))] dX2_gatherDug_89 (Nat.le_of_ble_eq_true rfl) rfl ?_
      refine r_ls [2, 3, 4, 5, 1, 0] (ls2 := [(0, .ref (q 2)), (1, .int (y1)), (2, .int (y2)), (3, .int (y3)), (4, .int ((jMin (xa_Finds_to S (ix y1)) (xa_Digs_to S (ix y3))))), (5, .int ((jMax (xa_Finds_from S (ix y1)) (xa_Digs_from S (ix y3)))))]) rfl ?_
      exact h
set_option maxRecDepth 20000 in
theorem sg_Finds_gatherDug_91 {E : EvT} {q : Nat → Nat} {d : Nat} {S : StX} {P : StX → Prop} {y1 : Int32} {y2 : Int32} {y3 : Int32} {y4 : Int32} {y5 : Int32} (h : (y4 < y5 → (T_Finds_gatherDug_10 E q (d + 2) P S y1 y2 (y3 + 1))) ∧ (¬ y4 < y5 → ((0 ≤ y1 ∧ y1 < 150) ∧ ((0 ≤ (y5 - (xa_Finds_from S (ix y1))) ∧ (y5 - (xa_Finds_from S (ix y1))) < 20) ∧ ((0 ≤ y3 ∧ y3 < 100) ∧ (T_Finds_gatherDug_91 E q (d + 2) P (xA S 53 (upd (xa_Finds_dugIn S) (ix (y5 - (xa_Finds_from S (ix y1)))) ((xa_Finds_dugIn S (ix (y5 - (xa_Finds_from S (ix y1))))) ||| (xa_Digs_touched S (ix y3))))) y1 y2 y3 y4 (y5 + 1))))))) : T_Finds_gatherDug_91 E q (d + 2) P S y1 y2 y3 y4 y5 := by
  refine r_iload 5 dX2_gatherDug_91 rfl ?_
  refine r_iload 4 dX2_gatherDug_93 rfl ?_
  refine r_icmp_gt (tgt := 130) dX2_gatherDug_95 (by decide) (fun c1 => ?_) (fun c1 => ?_)
  · have h := h.1 c1
    refine r_iinc 3 [(3, .int (y3 + 1)), (0, .ref (q 2)), (1, .int (y1)), (2, .int (y2)), (4, .int (y4)), (5, .int (y5))] dX2_gatherDug_130 rfl rfl (Nat.le_of_ble_eq_true rfl) rfl ?_
    refine r_goto (tgt := 10) dX2_gatherDug_133 (by decide) ?_
    refine r_ls [1, 2, 3, 0] (ls2 := [(0, .ref (q 2)), (1, .int (y1)), (2, .int (y2)), (3, .int (y3 + 1))]) rfl ?_
    exact h
  · have h := h.2 c1
    refine r_aload_n 0 dX2_gatherDug_98 rfl rfl ?_
    refine xg_2_39 rfl dX2_gatherDug_99 ?_
    refine r_iload 5 dX2_gatherDug_102 rfl ?_
    refine r_aload_n 0 dX2_gatherDug_104 rfl rfl ?_
    refine xg_2_15 rfl dX2_gatherDug_105 ?_
    refine r_iload_n 1 dX2_gatherDug_108 rfl rfl ?_
    obtain ⟨b2, h⟩ := h
    refine xl_45 b2 dX2_gatherDug_109 ?_
    refine r_isub dX2_gatherDug_110 ?_
    refine r_dup2 dX2_gatherDug_111 rfl rfl ?_
    obtain ⟨b3, h⟩ := h
    refine xl_53 b3 dX2_gatherDug_112 ?_
    refine r_aload_n 0 dX2_gatherDug_113 rfl rfl ?_
    refine xg_2_51 rfl dX2_gatherDug_114 ?_
    refine xg_2_101 rfl dX2_gatherDug_117 ?_
    refine r_iload_n 3 dX2_gatherDug_120 rfl rfl ?_
    obtain ⟨b4, h⟩ := h
    refine xl_32 b4 dX2_gatherDug_121 ?_
    refine r_ior dX2_gatherDug_122 ?_
    refine xt_53 b3 dX2_gatherDug_123 ?_
    refine r_iinc 5 [(5, .int (y5 + 1)), (0, .ref (q 2)), (1, .int (y1)), (2, .int (y2)), (3, .int (y3)), (4, .int (y4))] dX2_gatherDug_124 rfl rfl (Nat.le_of_ble_eq_true rfl) rfl ?_
    refine r_goto (tgt := 91) dX2_gatherDug_127 (by decide) ?_
    refine r_ls [1, 2, 3, 4, 5, 0] (ls2 := [(0, .ref (q 2)), (1, .int (y1)), (2, .int (y2)), (3, .int (y3)), (4, .int (y4)), (5, .int (y5 + 1))]) rfl ?_
    exact h
abbrev T_Finds_named_14 (E : EvT) (q : Nat → Nat) (D : Nat) (P : Int32 → StX → Prop) (S : StX) (y1 : Int32) (y2 : Int32) (y3 : Int32) (y4 : Int32) (y5 : Int32) (y6 : Int32) : Prop := RX E q iX_Finds_named D (qIx E q P) S [(0, .ref (q 2)), (1, .int (y1)), (2, .int (y2)), (3, .int (y3)), (4, .int (y4)), (5, .int (y5)), (6, .int (y6))] [] 14
set_option maxRecDepth 20000 in
theorem en_Finds_named {E : EvT} {q : Nat → Nat} {d : Nat} {x1 : Int32} {x2 : Int32} {x3 : Int32} {x4 : Int32} {S : StX} {P : Int32 → StX → Prop} (h : T_Finds_named_14 E q (d + 5) P (xA S 54 (fillF 3 (-1) (xa_Finds_linesOfKind S))) x1 x2 x3 x4 0 0) : C_Finds_named E q (d + 5) x1 x2 x3 x4 S P := by
  refine Cn.of rfl (Nat.le_of_ble_eq_true rfl) (ls := [(0, .ref (q 2)), (1, .int (x1)), (2, .int (x2)), (3, .int (x3)), (4, .int (x4))]) rfl ?_
  refine r_iconst_0 dX2_named_0 ?_
  refine r_istore [(5, .int (0)), (0, .ref (q 2)), (1, .int (x1)), (2, .int (x2)), (3, .int (x3)), (4, .int (x4))] dX2_named_1 (Nat.le_of_ble_eq_true rfl) rfl ?_
  refine r_aload_n 1 dX2_named_3 rfl rfl ?_
  refine xg_2_44 rfl dX2_named_4 ?_
  refine r_iconst_m1 dX2_named_7 ?_
  refine KP2_Jfill_54 (d := d + 4) rfl (Nat.le_of_ble_eq_true rfl) dX2_named_8 ?_
  refine r_iconst_0 dX2_named_11 ?_
  refine r_istore [(6, .int (0)), (5, .int (0)), (0, .ref (q 2)), (1, .int (x1)), (2, .int (x2)), (3, .int (x3)), (4, .int (x4))] dX2_named_12 (Nat.le_of_ble_eq_true rfl) rfl ?_
  refine r_ls [2, 3, 4, 5, 6, 1, 0] (ls2 := [(0, .ref (q 2)), (1, .int (x1)), (2, .int (x2)), (3, .int (x3)), (4, .int (x4)), (5, .int (0)), (6, .int (0))]) rfl ?_
  exact h
set_option maxRecDepth 20000 in
theorem sg_Finds_named_14 {E : EvT} {q : Nat → Nat} {d : Nat} {S : StX} {P : Int32 → StX → Prop} {y1 : Int32} {y2 : Int32} {y3 : Int32} {y4 : Int32} {y5 : Int32} {y6 : Int32} (h : (4 ≤ y6 → (P y5 S)) ∧ (¬ 4 ≤ y6 → ((0 ≤ y1 ∧ y1 < 150) ∧ (C_Plan_meant E q (d + 4) y6 (xa_Finds_number S (ix y1)) y2 S (fun r3 S4 => (r3 = (-1) → (T_Finds_named_14 E q (d + 5) P S4 y1 y2 y3 y4 y5 (y6 + 1))) ∧ (¬ r3 = (-1) → ((¬ ((y3 >>> (r3 &&& 31)) &&& 1) = 0 → ((0 ≤ r3 ∧ r3 < 30) ∧ ((0 ≤ (xa_Plan_kind S4 (ix r3)) ∧ (xa_Plan_kind S4 (ix r3)) < 3) ∧ ((¬ (xa_Finds_linesOfKind S4 (ix (xa_Plan_kind S4 (ix r3)))) = (-1) → ((¬ (((xa_Finds_linesOfKind S4 (ix (xa_Plan_kind S4 (ix r3)))) >>> (y6 &&& 31)) &&& 1) = 1 → (T_Finds_named_14 E q (d + 5) P S4 y1 y2 y3 y4 y5 (y6 + 1))) ∧ ((((xa_Finds_linesOfKind S4 (ix (xa_Plan_kind S4 (ix r3)))) >>> (y6 &&& 31)) &&& 1) = 1 → (T_Finds_named_14 E q (d + 5) P S4 y1 y2 y3 y4 (y5 ||| ((1 : Int32) <<< (r3 &&& 31))) (y6 + 1))))) ∧ ((xa_Finds_linesOfKind S4 (ix (xa_Plan_kind S4 (ix r3)))) = (-1) → (C_Book_ask E q (d + 4) y2 y4 (xa_Finds_kind S4 (ix y1)) (xa_Finds_marks S4 (ix y1)) (xa_Plan_kind S4 (ix r3)) S4 (fun S12 => C_Book_lines E q (d + 4) S12 (fun r13 S14 => (¬ ((((upd (xa_Finds_linesOfKind S14) (ix (xa_Plan_kind S4 (ix r3))) r13) (ix (xa_Plan_kind S4 (ix r3)))) >>> (y6 &&& 31)) &&& 1) = 1 → (T_Finds_named_14 E q (d + 5) P (xA S14 54 (upd (xa_Finds_linesOfKind S14) (ix (xa_Plan_kind S4 (ix r3))) r13)) y1 y2 y3 y4 y5 (y6 + 1))) ∧ (((((upd (xa_Finds_linesOfKind S14) (ix (xa_Plan_kind S4 (ix r3))) r13) (ix (xa_Plan_kind S4 (ix r3)))) >>> (y6 &&& 31)) &&& 1) = 1 → (T_Finds_named_14 E q (d + 5) P (xA S14 54 (upd (xa_Finds_linesOfKind S14) (ix (xa_Plan_kind S4 (ix r3))) r13)) y1 y2 y3 y4 (y5 ||| ((1 : Int32) <<< (r3 &&& 31))) (y6 + 1))))))))))) ∧ (((y3 >>> (r3 &&& 31)) &&& 1) = 0 → (T_Finds_named_14 E q (d + 5) P S4 y1 y2 y3 y4 y5 (y6 + 1)))))))))) : T_Finds_named_14 E q (d + 5) P S y1 y2 y3 y4 y5 y6 := by
  refine r_iload 6 dX2_named_14 rfl ?_
  refine r_iconst_4 dX2_named_16 ?_
  refine r_icmp_ge (tgt := 148) dX2_named_17 (by decide) (fun c1 => ?_) (fun c1 => ?_)
  · have h := h.1 c1
    refine r_iload 5 dX2_named_148 rfl ?_
    exact r_iret dX2_named_150 rfl (Nat.le_refl _) (Nat.le_refl _) ⟨_, _, rfl, rfl, h⟩
  · have h := h.2 c1
    refine r_aload_n 0 dX2_named_20 rfl rfl ?_
    refine xg_2_47 rfl dX2_named_21 ?_
    refine r_iload 6 dX2_named_24 rfl ?_
    refine r_aload_n 0 dX2_named_26 rfl rfl ?_
    refine xg_2_21 rfl dX2_named_27 ?_
    refine r_iload_n 1 dX2_named_30 rfl rfl ?_
    obtain ⟨b2, h⟩ := h
    refine xl_47 b2 dX2_named_31 ?_
    refine r_iload_n 2 dX2_named_32 rfl rfl ?_
    refine K2_Plan_meant rfl (Nat.le_of_ble_eq_true rfl) dX2_named_33 (mIx h (fun r3 S4 h => ?_))
    refine r_istore [(7, .int (r3)), (0, .ref (q 2)), (1, .int (y1)), (2, .int (y2)), (3, .int (y3)), (4, .int (y4)), (5, .int (y5)), (6, .int (y6))] dX2_named_36 (Nat.le_of_ble_eq_true rfl) rfl ?_
    refine r_iload 0 dX2_named_38 rfl ?_
    refine r_iconst_m1 dX2_named_40 ?_
    refine r_icmp_eq (tgt := 142) dX2_named_41 (by decide) (fun c5 => ?_) (fun c5 => ?_)
    · have h := h.1 c5
      refine r_iinc 7 [(6, .int (y6 + 1)), (7, .int (r3)), (0, .ref (q 2)), (1, .int (y1)), (2, .int (y2)), (3, .int (y3)), (4, .int (y4)), (5, .int (y5))] dX2_named_142 rfl rfl (Nat.le_of_ble_eq_true rfl) rfl ?_
      refine r_goto (tgt := 14) dX2_named_145 (by decide) ?_
      refine r_ls [2, 3, 4, 5, 6, 7, 0] (ls2 := [(0, .ref (q 2)), (1, .int (y1)), (2, .int (y2)), (3, .int (y3)), (4, .int (y4)), (5, .int (y5)), (6, .int (y6 + 1))]) rfl ?_
      exact h
    · have h := h.2 c5
      refine r_iload_n 4 dX2_named_44 rfl rfl ?_
      refine r_iload 0 dX2_named_45 rfl ?_
      refine r_ishr dX2_named_47 ?_
      refine r_iconst_1 dX2_named_48 ?_
      refine r_iand dX2_named_49 ?_
      refine r_if_ne (tgt := 56) dX2_named_50 (by decide) (fun c6 => ?_) (fun c6 => ?_)
      · have h := h.1 c6
        refine r_aload_n 1 dX2_named_56 rfl rfl ?_
        refine xg_2_47 rfl dX2_named_57 ?_
        refine xg_2_108 rfl dX2_named_60 ?_
        refine r_iload 0 dX2_named_63 rfl ?_
        obtain ⟨b7, h⟩ := h
        refine xl_83 b7 dX2_named_65 ?_
        refine r_istore [(8, .int (xa_Plan_kind S4 (ix r3))), (7, .int (r3)), (0, .ref (q 2)), (1, .int (y1)), (2, .int (y2)), (3, .int (y3)), (4, .int (y4)), (5, .int (y5)), (6, .int (y6))] dX2_named_66 (Nat.le_of_ble_eq_true rfl) rfl ?_
        refine r_aload_n 2 dX2_named_68 rfl rfl ?_
        refine xg_2_44 rfl dX2_named_69 ?_
        refine r_iload 0 dX2_named_72 rfl ?_
        obtain ⟨b8, h⟩ := h
        refine xl_54 b8 dX2_named_74 ?_
        refine r_iconst_m1 dX2_named_75 ?_
        refine r_icmp_ne (tgt := 117) dX2_named_76 (by decide) (fun c9 => ?_) (fun c9 => ?_)
        · have h := h.1 c9
          refine r_aload_n 2 dX2_named_117 rfl rfl ?_
          refine xg_2_44 rfl dX2_named_118 ?_
          refine r_iload 0 dX2_named_121 rfl ?_
          refine xl_54 b8 dX2_named_123 ?_
          refine r_iload 8 dX2_named_124 rfl ?_
          refine r_ishr dX2_named_126 ?_
          refine r_iconst_1 dX2_named_127 ?_
          refine r_iand dX2_named_128 ?_
          refine r_iconst_1 dX2_named_129 ?_
          refine r_icmp_ne (tgt := 142) dX2_named_130 (by decide) (fun c10 => ?_) (fun c10 => ?_)
          · have h := h.1 c10
            refine r_iinc 8 [(6, .int (y6 + 1)), (8, .int (xa_Plan_kind S4 (ix r3))), (7, .int (r3)), (0, .ref (q 2)), (1, .int (y1)), (2, .int (y2)), (3, .int (y3)), (4, .int (y4)), (5, .int (y5))] dX2_named_142 rfl rfl (Nat.le_of_ble_eq_true rfl) rfl ?_
            refine r_goto (tgt := 14) dX2_named_145 (by decide) ?_
            refine r_ls [3, 4, 5, 6, 7, 8, 0] (ls2 := [(0, .ref (q 2)), (1, .int (y1)), (2, .int (y2)), (3, .int (y3)), (4, .int (y4)), (5, .int (y5)), (6, .int (y6 + 1))]) rfl ?_
            exact h
          · have h := h.2 c10
            refine r_iload 7 dX2_named_133 rfl ?_
            refine r_iconst_1 dX2_named_135 ?_
            refine r_iload 1 dX2_named_136 rfl ?_
            refine r_ishl dX2_named_138 ?_
            refine r_ior dX2_named_139 ?_
            refine r_istore [(5, .int (y5 ||| ((1 : Int32) <<< (r3 &&& 31)))), (8, .int (xa_Plan_kind S4 (ix r3))), (7, .int (r3)), (0, .ref (q 2)), (1, .int (y1)), (2, .int (y2)), (3, .int (y3)), (4, .int (y4)), (6, .int (y6))] dX2_named_140 (Nat.le_of_ble_eq_true rfl) rfl ?_
            refine r_iinc 8 [(6, .int (y6 + 1)), (5, .int (y5 ||| ((1 : Int32) <<< (r3 &&& 31)))), (8, .int (xa_Plan_kind S4 (ix r3))), (7, .int (r3)), (0, .ref (q 2)), (1, .int (y1)), (2, .int (y2)), (3, .int (y3)), (4, .int (y4))] dX2_named_142 rfl rfl (Nat.le_of_ble_eq_true rfl) rfl ?_
            refine r_goto (tgt := 14) dX2_named_145 (by decide) ?_
            refine r_ls [4, 5, 6, 7, 8, 1, 0] (ls2 := [(0, .ref (q 2)), (1, .int (y1)), (2, .int (y2)), (3, .int (y3)), (4, .int (y4)), (5, .int (y5 ||| ((1 : Int32) <<< (r3 &&& 31)))), (6, .int (y6 + 1))]) rfl ?_
            exact h
        · have h := h.2 c9
          refine r_aload_n 2 dX2_named_79 rfl rfl ?_
          refine xg_2_55 rfl dX2_named_80 ?_
          refine r_iload_n 4 dX2_named_83 rfl rfl ?_
          refine r_iload 6 dX2_named_84 rfl ?_
          refine r_aload_n 2 dX2_named_86 rfl rfl ?_
          refine xg_2_30 rfl dX2_named_87 ?_
          refine r_iload_n 3 dX2_named_90 rfl rfl ?_
          refine xl_50 b2 dX2_named_91 ?_
          refine r_aload_n 2 dX2_named_92 rfl rfl ?_
          refine xg_2_33 rfl dX2_named_93 ?_
          refine r_iload_n 3 dX2_named_96 rfl rfl ?_
          refine xl_51 b2 dX2_named_97 ?_
          refine r_iload 0 dX2_named_98 rfl ?_
          refine K2_Book_ask rfl (Nat.le_of_ble_eq_true rfl) dX2_named_100 (mVx h (fun S12 h => ?_))
          refine r_aload_n 2 dX2_named_103 rfl rfl ?_
          refine xg_2_44 rfl dX2_named_104 ?_
          refine r_iload 0 dX2_named_107 rfl ?_
          refine r_aload_n 2 dX2_named_109 rfl rfl ?_
          refine xg_2_55 rfl dX2_named_110 ?_
          refine K2_Book_lines rfl (Nat.le_of_ble_eq_true rfl) dX2_named_113 (mIx h (fun r13 S14 h => ?_))
          refine xt_54 b8 dX2_named_116 ?_
          refine r_aload_n 2 dX2_named_117 rfl rfl ?_
          refine xg_2_44 rfl dX2_named_118 ?_
          refine r_iload 0 dX2_named_121 rfl ?_
          refine xl_54 b8 dX2_named_123 ?_
          refine r_iload 8 dX2_named_124 rfl ?_
          refine r_ishr dX2_named_126 ?_
          refine r_iconst_1 dX2_named_127 ?_
          refine r_iand dX2_named_128 ?_
          refine r_iconst_1 dX2_named_129 ?_
          refine r_icmp_ne (tgt := 142) dX2_named_130 (by decide) (fun c15 => ?_) (fun c15 => ?_)
          · have h := h.1 c15
            refine r_iinc 8 [(6, .int (y6 + 1)), (8, .int (xa_Plan_kind S4 (ix r3))), (7, .int (r3)), (0, .ref (q 2)), (1, .int (y1)), (2, .int (y2)), (3, .int (y3)), (4, .int (y4)), (5, .int (y5))] dX2_named_142 rfl rfl (Nat.le_of_ble_eq_true rfl) rfl ?_
            refine r_goto (tgt := 14) dX2_named_145 (by decide) ?_
            refine r_ls [3, 4, 5, 6, 7, 8, 0] (ls2 := [(0, .ref (q 2)), (1, .int (y1)), (2, .int (y2)), (3, .int (y3)), (4, .int (y4)), (5, .int (y5)), (6, .int (y6 + 1))]) rfl ?_
            exact h
          · have h := h.2 c15
            refine r_iload 7 dX2_named_133 rfl ?_
            refine r_iconst_1 dX2_named_135 ?_
            refine r_iload 1 dX2_named_136 rfl ?_
            refine r_ishl dX2_named_138 ?_
            refine r_ior dX2_named_139 ?_
            refine r_istore [(5, .int (y5 ||| ((1 : Int32) <<< (r3 &&& 31)))), (8, .int (xa_Plan_kind S4 (ix r3))), (7, .int (r3)), (0, .ref (q 2)), (1, .int (y1)), (2, .int (y2)), (3, .int (y3)), (4, .int (y4)), (6, .int (y6))] dX2_named_140 (Nat.le_of_ble_eq_true rfl) rfl ?_
            refine r_iinc 8 [(6, .int (y6 + 1)), (5, .int (y5 ||| ((1 : Int32) <<< (r3 &&& 31)))), (8, .int (xa_Plan_kind S4 (ix r3))), (7, .int (r3)), (0, .ref (q 2)), (1, .int (y1)), (2, .int (y2)), (3, .int (y3)), (4, .int (y4))] dX2_named_142 rfl rfl (Nat.le_of_ble_eq_true rfl) rfl ?_
            refine r_goto (tgt := 14) dX2_named_145 (by decide) ?_
            refine r_ls [4, 5, 6, 7, 8, 1, 0] (ls2 := [(0, .ref (q 2)), (1, .int (y1)), (2, .int (y2)), (3, .int (y3)), (4, .int (y4)), (5, .int (y5 ||| ((1 : Int32) <<< (r3 &&& 31)))), (6, .int (y6 + 1))]) rfl ?_
            exact h
      · have h := h.2 c6
        refine r_goto (tgt := 142) dX2_named_53 (by decide) ?_
        refine r_iinc 7 [(6, .int (y6 + 1)), (7, .int (r3)), (0, .ref (q 2)), (1, .int (y1)), (2, .int (y2)), (3, .int (y3)), (4, .int (y4)), (5, .int (y5))] dX2_named_142 rfl rfl (Nat.le_of_ble_eq_true rfl) rfl ?_
        refine r_goto (tgt := 14) dX2_named_145 (by decide) ?_
        refine r_ls [2, 3, 4, 5, 6, 7, 0] (ls2 := [(0, .ref (q 2)), (1, .int (y1)), (2, .int (y2)), (3, .int (y3)), (4, .int (y4)), (5, .int (y5)), (6, .int (y6 + 1))]) rfl ?_
        exact h
abbrev T_Finds_countSure_5 (E : EvT) (q : Nat → Nat) (D : Nat) (P : Int32 → StX → Prop) (S : StX) (y1 : Int32) (y2 : Int32) (y3 : Int32) (y4 : Int32) : Prop := RX E q iX_Finds_countSure D (qIx E q P) S [(0, .ref (q 2)), (1, .int (y1)), (2, .int (y2)), (3, .int (y3)), (4, .int (y4))] [] 5
set_option maxRecDepth 20000 in
theorem en_Finds_countSure {E : EvT} {q : Nat → Nat} {d : Nat} {x1 : Int32} {x2 : Int32} {S : StX} {P : Int32 → StX → Prop} (h : T_Finds_countSure_5 E q (d + 7) P S x1 x2 0 0) : C_Finds_countSure E q (d + 7) x1 x2 S P := by
  refine Cn.of rfl (Nat.le_of_ble_eq_true rfl) (ls := [(0, .ref (q 2)), (1, .int (x1)), (2, .int (x2))]) rfl ?_
  refine r_iconst_0 dX2_countSure_0 ?_
  refine r_istore_n [(3, .int (0)), (0, .ref (q 2)), (1, .int (x1)), (2, .int (x2))] dX2_countSure_1 rfl (Nat.le_of_ble_eq_true rfl) rfl ?_
  refine r_iconst_0 dX2_countSure_2 ?_
  refine r_istore [(4, .int (0)), (3, .int (0)), (0, .ref (q 2)), (1, .int (x1)), (2, .int (x2))] dX2_countSure_3 (Nat.le_of_ble_eq_true rfl) rfl ?_
  refine r_ls [2, 3, 4, 1, 0] (ls2 := [(0, .ref (q 2)), (1, .int (x1)), (2, .int (x2)), (3, .int (0)), (4, .int (0))]) rfl ?_
  exact h
set_option maxRecDepth 20000 in
theorem sg_Finds_countSure_5 {E : EvT} {q : Nat → Nat} {d : Nat} {S : StX} {P : Int32 → StX → Prop} {y1 : Int32} {y2 : Int32} {y3 : Int32} {y4 : Int32} (h : ((xs_Finds_size S) ≤ y4 → (P y3 S)) ∧ (¬ (xs_Finds_size S) ≤ y4 → ((0 ≤ y4 ∧ y4 < 150) ∧ (((pFKnown S y4 y1) = false → (T_Finds_countSure_5 E q (d + 7) P S y1 y2 y3 (y4 + 1))) ∧ ((pFKnown S y4 y1) = true → (C_Finds_placesOf E q (d + 6) y4 y1 y2 S (fun r4 S5 => C_Jbits E q (d + 6) r4 S5 (fun r6 S7 => (¬ r6 = 1 → (T_Finds_countSure_5 E q (d + 7) P S7 y1 y2 y3 (y4 + 1))) ∧ (r6 = 1 → (T_Finds_countSure_5 E q (d + 7) P S7 y1 y2 (y3 + 1) (y4 + 1))))))))))) : T_Finds_countSure_5 E q (d + 7) P S y1 y2 y3 y4 := by
  refine r_iload 4 dX2_countSure_5 rfl ?_
  refine r_aload_n 0 dX2_countSure_7 rfl rfl ?_
  refine xg_2_59 rfl dX2_countSure_8 ?_
  refine r_icmp_ge (tgt := 48) dX2_countSure_11 (by decide) (fun c1 => ?_) (fun c1 => ?_)
  · have h := h.1 c1
    refine r_iload_n 3 dX2_countSure_48 rfl rfl ?_
    exact r_iret dX2_countSure_49 rfl (Nat.le_refl _) (Nat.le_refl _) ⟨_, _, rfl, rfl, h⟩
  · have h := h.2 c1
    refine r_aload_n 0 dX2_countSure_14 rfl rfl ?_
    refine r_iload 4 dX2_countSure_15 rfl ?_
    refine r_iload_n 1 dX2_countSure_17 rfl rfl ?_
    obtain ⟨b2, h⟩ := h
    refine KP2_Finds_isKnown (d := d + 6) b2 rfl (Nat.le_of_ble_eq_true rfl) dX2_countSure_18 ?_
    refine r_if_eqb (tgt := 42) dX2_countSure_21 (by decide) (fun c3 => ?_) (fun c3 => ?_)
    · have h := h.1 c3
      refine r_iinc 4 [(4, .int (y4 + 1)), (0, .ref (q 2)), (1, .int (y1)), (2, .int (y2)), (3, .int (y3))] dX2_countSure_42 rfl rfl (Nat.le_of_ble_eq_true rfl) rfl ?_
      refine r_goto (tgt := 5) dX2_countSure_45 (by decide) ?_
      refine r_ls [1, 2, 3, 4, 0] (ls2 := [(0, .ref (q 2)), (1, .int (y1)), (2, .int (y2)), (3, .int (y3)), (4, .int (y4 + 1))]) rfl ?_
      exact h
    · have h := h.2 c3
      refine r_aload_n 0 dX2_countSure_24 rfl rfl ?_
      refine r_iload 4 dX2_countSure_25 rfl ?_
      refine r_iload_n 1 dX2_countSure_27 rfl rfl ?_
      refine r_iload_n 2 dX2_countSure_28 rfl rfl ?_
      refine K2_Finds_placesOf rfl (Nat.le_of_ble_eq_true rfl) dX2_countSure_29 (mIx h (fun r4 S5 h => ?_))
      refine K2_Jbits rfl (Nat.le_of_ble_eq_true rfl) dX2_countSure_32 (mIx h (fun r6 S7 h => ?_))
      refine r_iconst_1 dX2_countSure_35 ?_
      refine r_icmp_ne (tgt := 42) dX2_countSure_36 (by decide) (fun c8 => ?_) (fun c8 => ?_)
      · have h := h.1 c8
        refine r_iinc 4 [(4, .int (y4 + 1)), (0, .ref (q 2)), (1, .int (y1)), (2, .int (y2)), (3, .int (y3))] dX2_countSure_42 rfl rfl (Nat.le_of_ble_eq_true rfl) rfl ?_
        refine r_goto (tgt := 5) dX2_countSure_45 (by decide) ?_
        refine r_ls [1, 2, 3, 4, 0] (ls2 := [(0, .ref (q 2)), (1, .int (y1)), (2, .int (y2)), (3, .int (y3)), (4, .int (y4 + 1))]) rfl ?_
        exact h
      · have h := h.2 c8
        refine r_iinc 3 [(3, .int (y3 + 1)), (0, .ref (q 2)), (1, .int (y1)), (2, .int (y2)), (4, .int (y4))] dX2_countSure_39 rfl rfl (Nat.le_of_ble_eq_true rfl) rfl ?_
        refine r_iinc 4 [(4, .int (y4 + 1)), (3, .int (y3 + 1)), (0, .ref (q 2)), (1, .int (y1)), (2, .int (y2))] dX2_countSure_42 rfl rfl (Nat.le_of_ble_eq_true rfl) rfl ?_
        refine r_goto (tgt := 5) dX2_countSure_45 (by decide) ?_
        refine r_ls [2, 3, 4, 1, 0] (ls2 := [(0, .ref (q 2)), (1, .int (y1)), (2, .int (y2)), (3, .int (y3 + 1)), (4, .int (y4 + 1))]) rfl ?_
        exact h
abbrev T_Finds_unplaced_5 (E : EvT) (q : Nat → Nat) (D : Nat) (P : Int32 → StX → Prop) (S : StX) (y2 : Int32) (y3 : Int32) (y4 : Int32) : Prop := RX E q iX_Finds_unplaced D (qIx E q P) S [(0, .ref (q 2)), (2, .int (y2)), (3, .int (y3)), (4, .int (y4))] [] 5
set_option maxRecDepth 20000 in
theorem en_Finds_unplaced {E : EvT} {q : Nat → Nat} {d : Nat} {x1 : Int32} {x2 : Int32} {S : StX} {P : Int32 → StX → Prop} (h : T_Finds_unplaced_5 E q (d + 7) P S x2 x1 0) : C_Finds_unplaced E q (d + 7) x1 x2 S P := by
  refine Cn.of rfl (Nat.le_of_ble_eq_true rfl) (ls := [(0, .ref (q 2)), (1, .int (x1)), (2, .int (x2))]) rfl ?_
  refine r_iload_n 1 dX2_unplaced_0 rfl rfl ?_
  refine r_istore_n [(3, .int (x1)), (0, .ref (q 2)), (1, .int (x1)), (2, .int (x2))] dX2_unplaced_1 rfl (Nat.le_of_ble_eq_true rfl) rfl ?_
  refine r_iconst_0 dX2_unplaced_2 ?_
  refine r_istore [(4, .int (0)), (3, .int (x1)), (0, .ref (q 2)), (1, .int (x1)), (2, .int (x2))] dX2_unplaced_3 (Nat.le_of_ble_eq_true rfl) rfl ?_
  refine r_ls [2, 4, 1, 0] (ls2 := [(0, .ref (q 2)), (2, .int (x2)), (3, .int (x1)), (4, .int (0))]) rfl ?_
  exact h
set_option maxRecDepth 20000 in
theorem sg_Finds_unplaced_5 {E : EvT} {q : Nat → Nat} {d : Nat} {S : StX} {P : Int32 → StX → Prop} {y2 : Int32} {y3 : Int32} {y4 : Int32} (h : ((xs_Finds_size S) ≤ y4 → (P (-1) S)) ∧ (¬ (xs_Finds_size S) ≤ y4 → ((0 ≤ y4 ∧ y4 < 150) ∧ (((pFKnown S y4 y2) = false → (T_Finds_unplaced_5 E q (d + 7) P S y2 y3 (y4 + 1))) ∧ ((pFKnown S y4 y2) = true → (C_Finds_placesOf E q (d + 6) y4 y2 (-1) S (fun r4 S5 => (¬ r4 = 0 → (T_Finds_unplaced_5 E q (d + 7) P S5 y2 y3 (y4 + 1))) ∧ (r4 = 0 → ((¬ y3 = 0 → (T_Finds_unplaced_5 E q (d + 7) P S5 y2 (y3 + (-1)) (y4 + 1))) ∧ (y3 = 0 → (P y4 S5))))))))))) : T_Finds_unplaced_5 E q (d + 7) P S y2 y3 y4 := by
  refine r_iload 3 dX2_unplaced_5 rfl ?_
  refine r_aload_n 0 dX2_unplaced_7 rfl rfl ?_
  refine xg_2_59 rfl dX2_unplaced_8 ?_
  refine r_icmp_ge (tgt := 51) dX2_unplaced_11 (by decide) (fun c1 => ?_) (fun c1 => ?_)
  · have h := h.1 c1
    refine r_iconst_m1 dX2_unplaced_51 ?_
    exact r_iret dX2_unplaced_52 rfl (Nat.le_refl _) (Nat.le_refl _) ⟨_, _, rfl, rfl, h⟩
  · have h := h.2 c1
    refine r_aload_n 0 dX2_unplaced_14 rfl rfl ?_
    refine r_iload 3 dX2_unplaced_15 rfl ?_
    refine r_iload_n 1 dX2_unplaced_17 rfl rfl ?_
    obtain ⟨b2, h⟩ := h
    refine KP2_Finds_isKnown (d := d + 6) b2 rfl (Nat.le_of_ble_eq_true rfl) dX2_unplaced_18 ?_
    refine r_if_eqb (tgt := 45) dX2_unplaced_21 (by decide) (fun c3 => ?_) (fun c3 => ?_)
    · have h := h.1 c3
      refine r_iinc 3 [(4, .int (y4 + 1)), (0, .ref (q 2)), (2, .int (y2)), (3, .int (y3))] dX2_unplaced_45 rfl rfl (Nat.le_of_ble_eq_true rfl) rfl ?_
      refine r_goto (tgt := 5) dX2_unplaced_48 (by decide) ?_
      refine r_ls [1, 2, 3, 0] (ls2 := [(0, .ref (q 2)), (2, .int (y2)), (3, .int (y3)), (4, .int (y4 + 1))]) rfl ?_
      exact h
    · have h := h.2 c3
      refine r_aload_n 0 dX2_unplaced_24 rfl rfl ?_
      refine r_iload 3 dX2_unplaced_25 rfl ?_
      refine r_iload_n 1 dX2_unplaced_27 rfl rfl ?_
      refine r_iconst_m1 dX2_unplaced_28 ?_
      refine K2_Finds_placesOf rfl (Nat.le_of_ble_eq_true rfl) dX2_unplaced_29 (mIx h (fun r4 S5 h => ?_))
      refine r_if_ne (tgt := 45) dX2_unplaced_32 (by decide) (fun c6 => ?_) (fun c6 => ?_)
      · have h := h.1 c6
        refine r_iinc 3 [(4, .int (y4 + 1)), (0, .ref (q 2)), (2, .int (y2)), (3, .int (y3))] dX2_unplaced_45 rfl rfl (Nat.le_of_ble_eq_true rfl) rfl ?_
        refine r_goto (tgt := 5) dX2_unplaced_48 (by decide) ?_
        refine r_ls [1, 2, 3, 0] (ls2 := [(0, .ref (q 2)), (2, .int (y2)), (3, .int (y3)), (4, .int (y4 + 1))]) rfl ?_
        exact h
      · have h := h.2 c6
        refine r_iload_n 2 dX2_unplaced_35 rfl rfl ?_
        refine r_if_ne (tgt := 42) dX2_unplaced_36 (by decide) (fun c7 => ?_) (fun c7 => ?_)
        · have h := h.1 c7
          refine r_iinc 2 [(3, .int (y3 + (-1))), (0, .ref (q 2)), (2, .int (y2)), (4, .int (y4))] dX2_unplaced_42 rfl rfl (Nat.le_of_ble_eq_true rfl) rfl ?_
          refine r_iinc 3 [(4, .int (y4 + 1)), (3, .int (y3 + (-1))), (0, .ref (q 2)), (2, .int (y2))] dX2_unplaced_45 rfl rfl (Nat.le_of_ble_eq_true rfl) rfl ?_
          refine r_goto (tgt := 5) dX2_unplaced_48 (by decide) ?_
          refine r_ls [2, 3, 1, 0] (ls2 := [(0, .ref (q 2)), (2, .int (y2)), (3, .int (y3 + (-1))), (4, .int (y4 + 1))]) rfl ?_
          exact h
        · have h := h.2 c7
          refine r_iload 3 dX2_unplaced_39 rfl ?_
          exact r_iret dX2_unplaced_41 rfl (Nat.le_refl _) (Nat.le_refl _) ⟨_, _, rfl, rfl, h⟩
set_option maxRecDepth 20000 in
theorem en_Mus_add {E : EvT} {q : Nat → Nat} {d : Nat} {x1 : Int32} {x2 : Int32} {x3 : Int32} {S : StX} {P : Int32 → StX → Prop} (h : (0 ≤ (xs_Mus_things S) ∧ (xs_Mus_things S) < 60) ∧ (P (((xs_Mus_things S) + 1) - 1) (xI (xA (xA (xA (xA S 63 (upd (xa_Mus_museum S) (ix (xs_Mus_things S)) x1)) 64 (upd (xa_Mus_kind S) (ix (xs_Mus_things S)) x2)) 65 (upd (xa_Mus_marks S) (ix (xs_Mus_things S)) x3)) 66 (upd (xa_Mus_missing S) (ix (xs_Mus_things S)) (vp_nar .boolean 0))) 62 ((xs_Mus_things S) + 1)))) : C_Mus_add E q d x1 x2 x3 S P := by
  refine Cn.of rfl (Nat.le_of_ble_eq_true rfl) (ls := [(0, .ref (q 3)), (1, .int (x1)), (2, .int (x2)), (3, .int (x3))]) rfl ?_
  refine r_aload_n 0 dX3_add_0 rfl rfl ?_
  refine xg_3_11 rfl dX3_add_1 ?_
  refine r_aload_n 0 dX3_add_4 rfl rfl ?_
  refine xg_3_52 rfl dX3_add_5 ?_
  refine r_iload_n 1 dX3_add_8 rfl rfl ?_
  obtain ⟨b1, h⟩ := h
  refine xt_63 b1 dX3_add_9 ?_
  refine r_aload_n 0 dX3_add_10 rfl rfl ?_
  refine xg_3_15 rfl dX3_add_11 ?_
  refine r_aload_n 0 dX3_add_14 rfl rfl ?_
  refine xg_3_52 rfl dX3_add_15 ?_
  refine r_iload_n 2 dX3_add_18 rfl rfl ?_
  refine xt_64 b1 dX3_add_19 ?_
  refine r_aload_n 0 dX3_add_20 rfl rfl ?_
  refine xg_3_18 rfl dX3_add_21 ?_
  refine r_aload_n 0 dX3_add_24 rfl rfl ?_
  refine xg_3_52 rfl dX3_add_25 ?_
  refine r_iload_n 3 dX3_add_28 rfl rfl ?_
  refine xt_65 b1 dX3_add_29 ?_
  refine r_aload_n 0 dX3_add_30 rfl rfl ?_
  refine xg_3_21 rfl dX3_add_31 ?_
  refine r_aload_n 0 dX3_add_34 rfl rfl ?_
  refine xg_3_52 rfl dX3_add_35 ?_
  refine r_iconst_0 dX3_add_38 ?_
  refine xt_66 b1 dX3_add_39 ?_
  refine r_aload_n 0 dX3_add_40 rfl rfl ?_
  refine r_dup dX3_add_41 rfl ?_
  refine xg_3_52 rfl dX3_add_42 ?_
  refine r_iconst_1 dX3_add_45 ?_
  refine r_iadd dX3_add_46 ?_
  refine xq_3_52 rfl dX3_add_47 ?_
  refine r_aload_n 0 dX3_add_50 rfl rfl ?_
  refine xg_3_52 rfl dX3_add_51 ?_
  refine r_iconst_1 dX3_add_54 ?_
  refine r_isub dX3_add_55 ?_
  exact r_iret dX3_add_56 rfl (Nat.le_refl _) (Nat.le_refl _) ⟨_, _, rfl, rfl, h⟩
set_option maxRecDepth 20000 in
theorem en_Mus_marksNeeded {E : EvT} {q : Nat → Nat} {d : Nat} {x1 : Int32} {S : StX} {P : Int32 → StX → Prop} (h : C_Finds_askFor E q (d + 5) x1 S (fun S2 => C_Book_marksWanted E q (d + 5) S2 (fun r3 S4 => P r3 S4))) : C_Mus_marksNeeded E q (d + 6) x1 S P := by
  refine Cn.of rfl (Nat.le_of_ble_eq_true rfl) (ls := [(0, .ref (q 3)), (1, .int (x1))]) rfl ?_
  refine r_aload_n 0 dX3_marksNeeded_0 rfl rfl ?_
  refine xg_3_44 rfl dX3_marksNeeded_1 ?_
  refine r_iload_n 1 dX3_marksNeeded_4 rfl rfl ?_
  refine K3_Finds_askFor rfl (Nat.le_of_ble_eq_true rfl) dX3_marksNeeded_5 (mVx h (fun S2 h => ?_))
  refine r_aload_n 0 dX3_marksNeeded_8 rfl rfl ?_
  refine xg_3_48 rfl dX3_marksNeeded_9 ?_
  refine K3_Book_marksWanted rfl (Nat.le_of_ble_eq_true rfl) dX3_marksNeeded_12 (mIx h (fun r3 S4 h => ?_))
  exact r_iret dX3_marksNeeded_15 rfl (Nat.le_refl _) (Nat.le_refl _) ⟨_, _, rfl, rfl, h⟩
set_option maxRecDepth 20000 in
theorem en_Mus_agreeing {E : EvT} {q : Nat → Nat} {d : Nat} {x1 : Int32} {x2 : Int32} {S : StX} {P : Int32 → StX → Prop} (h : (0 ≤ x1 ∧ x1 < 150) ∧ ((0 ≤ x2 ∧ x2 < 60) ∧ (C_Jbits E q d ((xa_Finds_marks S (ix x1)) ^^^ (xa_Mus_marks S (ix x2))) S (fun r3 S4 => P (8 - r3) S4)))) : C_Mus_agreeing E q (d + 1) x1 x2 S P := by
  refine Cn.of rfl (Nat.le_of_ble_eq_true rfl) (ls := [(0, .ref (q 3)), (1, .int (x1)), (2, .int (x2))]) rfl ?_
  refine r_bipush_8 dX3_agreeing_0 ?_
  refine r_aload_n 0 dX3_agreeing_2 rfl rfl ?_
  refine xg_3_44 rfl dX3_agreeing_3 ?_
  refine xg_3_68 rfl dX3_agreeing_6 ?_
  refine r_iload_n 1 dX3_agreeing_9 rfl rfl ?_
  obtain ⟨b1, h⟩ := h
  refine xl_51 b1 dX3_agreeing_10 ?_
  refine r_aload_n 0 dX3_agreeing_11 rfl rfl ?_
  refine xg_3_18 rfl dX3_agreeing_12 ?_
  refine r_iload_n 2 dX3_agreeing_15 rfl rfl ?_
  obtain ⟨b2, h⟩ := h
  refine xl_65 b2 dX3_agreeing_16 ?_
  refine r_ixor dX3_agreeing_17 ?_
  refine K3_Jbits rfl (Nat.le_of_ble_eq_true rfl) dX3_agreeing_18 (mIx h (fun r3 S4 h => ?_))
  refine r_isub dX3_agreeing_21 ?_
  exact r_iret dX3_agreeing_22 rfl (Nat.le_refl _) (Nat.le_refl _) ⟨_, _, rfl, rfl, h⟩
set_option maxRecDepth 20000 in
theorem en_Mus_fits {E : EvT} {q : Nat → Nat} {d : Nat} {x1 : Int32} {x2 : Int32} {x3 : Int32} {S : StX} {P : Bool → StX → Prop} (h : (0 ≤ x1 ∧ x1 < 150) ∧ ((0 ≤ x2 ∧ x2 < 60) ∧ ((¬ (xa_Finds_kind S (ix x1)) = (xa_Mus_kind S (ix x2)) → (P false S)) ∧ ((xa_Finds_kind S (ix x1)) = (xa_Mus_kind S (ix x2)) → (C_Mus_agreeing E q (d + 1) x1 x2 S (fun r4 S5 => (r4 < x3 → (P false S5)) ∧ (¬ r4 < x3 → (P true S5)))))))) : C_Mus_fits E q (d + 2) x1 x2 x3 S P := by
  refine Cn.of rfl (Nat.le_of_ble_eq_true rfl) (ls := [(0, .ref (q 3)), (1, .int (x1)), (2, .int (x2)), (3, .int (x3))]) rfl ?_
  refine r_aload_n 0 dX3_fits_0 rfl rfl ?_
  refine xg_3_44 rfl dX3_fits_1 ?_
  refine xg_3_75 rfl dX3_fits_4 ?_
  refine r_iload_n 1 dX3_fits_7 rfl rfl ?_
  obtain ⟨b1, h⟩ := h
  refine xl_50 b1 dX3_fits_8 ?_
  refine r_aload_n 0 dX3_fits_9 rfl rfl ?_
  refine xg_3_15 rfl dX3_fits_10 ?_
  refine r_iload_n 2 dX3_fits_13 rfl rfl ?_
  obtain ⟨b2, h⟩ := h
  refine xl_64 b2 dX3_fits_14 ?_
  refine r_icmp_ne (tgt := 32) dX3_fits_15 (by decide) (fun c3 => ?_) (fun c3 => ?_)
  · have h := h.1 c3
    refine r_iconst_0 dX3_fits_32 ?_
    exact r_zret0 dX3_fits_33 rfl (Nat.le_refl _) (Nat.le_refl _) ⟨_, _, rfl, rfl, h⟩
  · have h := h.2 c3
    refine r_aload_n 0 dX3_fits_18 rfl rfl ?_
    refine r_iload_n 1 dX3_fits_19 rfl rfl ?_
    refine r_iload_n 2 dX3_fits_20 rfl rfl ?_
    refine K3_Mus_agreeing rfl (Nat.le_of_ble_eq_true rfl) dX3_fits_21 (mIx h (fun r4 S5 h => ?_))
    refine r_iload_n 3 dX3_fits_24 rfl rfl ?_
    refine r_icmp_lt (tgt := 32) dX3_fits_25 (by decide) (fun c6 => ?_) (fun c6 => ?_)
    · have h := h.1 c6
      refine r_iconst_0 dX3_fits_32 ?_
      exact r_zret0 dX3_fits_33 rfl (Nat.le_refl _) (Nat.le_refl _) ⟨_, _, rfl, rfl, h⟩
    · have h := h.2 c6
      refine r_iconst_1 dX3_fits_28 ?_
      refine r_goto (tgt := 33) dX3_fits_29 (by decide) ?_
      exact r_zret1 dX3_fits_33 rfl (Nat.le_refl _) (Nat.le_refl _) ⟨_, _, rfl, rfl, h⟩
abbrev T_Mus_choose_7 (E : EvT) (q : Nat → Nat) (D : Nat) (P : Bool → StX → Prop) (S : StX) (y2 : Int32) (y3 : Int32) : Prop := RX E q iX_Mus_choose D (qBx E q P) S [(0, .ref (q 3)), (1, .ref (q 280)), (2, .int (y2)), (3, .int (y3))] [] 7
set_option maxRecDepth 20000 in
theorem en_Mus_choose {E : EvT} {q : Nat → Nat} {d : Nat} {x2 : Int32} {S : StX} {P : Bool → StX → Prop} (h : T_Mus_choose_7 E q (d + 7) P (xI S 67 0) x2 0) : C_Mus_choose E q (d + 7) x2 S P := by
  refine Cn.of rfl (Nat.le_of_ble_eq_true rfl) (ls := [(0, .ref (q 3)), (1, .ref (q 280)), (2, .int (x2))]) rfl ?_
  refine r_aload_n 0 dX3_choose_0 rfl rfl ?_
  refine r_iconst_0 dX3_choose_1 ?_
  refine xq_3_80 rfl dX3_choose_2 ?_
  refine r_iconst_0 dX3_choose_5 ?_
  refine r_istore_n [(3, .int (0)), (0, .ref (q 3)), (1, .ref (q 280)), (2, .int (x2))] dX3_choose_6 rfl (Nat.le_of_ble_eq_true rfl) rfl ?_
  refine r_ls [1, 2, 3, 0] (ls2 := [(0, .ref (q 3)), (1, .ref (q 280)), (2, .int (x2)), (3, .int (0))]) rfl ?_
  exact h
set_option maxRecDepth 20000 in
theorem sg_Mus_choose_7 {E : EvT} {q : Nat → Nat} {d : Nat} {S : StX} {P : Bool → StX → Prop} {y2 : Int32} {y3 : Int32} (h : (y2 ≤ y3 → (P true S)) ∧ (¬ y2 ≤ y3 → ((100 ≤ y3 → (P true S)) ∧ (¬ 100 ≤ y3 → ((0 ≤ y3 ∧ y3 < 400) ∧ (((xs_Finds_size S) ≤ ((xa_Tape_bytes S (ix y3)) &&& 255) → (P false S)) ∧ (¬ (xs_Finds_size S) ≤ ((xa_Tape_bytes S (ix y3)) &&& 255) → (C_Mus_isChosen E q (d + 6) ((xa_Tape_bytes S (ix y3)) &&& 255) S (fun r5 S6 => (r5 = false → ((0 ≤ (xs_Mus_chosen S6) ∧ (xs_Mus_chosen S6) < 100) ∧ (C_Mus_marksNeeded E q (d + 6) ((xa_Tape_bytes S (ix y3)) &&& 255) (xA S6 68 (upd (xa_Mus_choice S6) (ix (xs_Mus_chosen S6)) ((xa_Tape_bytes S (ix y3)) &&& 255))) (fun r9 S10 => T_Mus_choose_7 E q (d + 7) P (xI (xA S10 69 (upd (xa_Mus_wanted S10) (ix (xs_Mus_chosen S6)) r9)) 67 ((xs_Mus_chosen S10) + 1)) y2 (y3 + 1))))) ∧ (r5 = true → (P false S6))))))))))) : T_Mus_choose_7 E q (d + 7) P S y2 y3 := by
  refine r_iload_n 3 dX3_choose_7 rfl rfl ?_
  refine r_iload_n 2 dX3_choose_8 rfl rfl ?_
  refine r_icmp_ge (tgt := 92) dX3_choose_9 (by decide) (fun c1 => ?_) (fun c1 => ?_)
  · have h := h.1 c1
    refine r_iconst_1 dX3_choose_92 ?_
    exact r_zret1 dX3_choose_93 rfl (Nat.le_refl _) (Nat.le_refl _) ⟨_, _, rfl, rfl, h⟩
  · have h := h.2 c1
    refine r_iload_n 3 dX3_choose_12 rfl rfl ?_
    refine r_bipush_100 dX3_choose_13 ?_
    refine r_icmp_ge (tgt := 92) dX3_choose_15 (by decide) (fun c2 => ?_) (fun c2 => ?_)
    · have h := h.1 c2
      refine r_iconst_1 dX3_choose_92 ?_
      exact r_zret1 dX3_choose_93 rfl (Nat.le_refl _) (Nat.le_refl _) ⟨_, _, rfl, rfl, h⟩
    · have h := h.2 c2
      refine r_aload_n 1 dX3_choose_18 rfl rfl ?_
      refine r_iload_n 3 dX3_choose_19 rfl rfl ?_
      obtain ⟨b3, h⟩ := h
      refine xl_180 b3 dX3_choose_20 ?_
      refine r_sipush_255 dX3_choose_21 ?_
      refine r_iand dX3_choose_24 ?_
      refine r_istore [(4, .int ((xa_Tape_bytes S (ix y3)) &&& 255)), (0, .ref (q 3)), (1, .ref (q 280)), (2, .int (y2)), (3, .int (y3))] dX3_choose_25 (Nat.le_of_ble_eq_true rfl) rfl ?_
      refine r_iload 0 dX3_choose_27 rfl ?_
      refine r_aload_n 1 dX3_choose_29 rfl rfl ?_
      refine xg_3_44 rfl dX3_choose_30 ?_
      refine xg_3_83 rfl dX3_choose_33 ?_
      refine r_icmp_ge (tgt := 48) dX3_choose_36 (by decide) (fun c4 => ?_) (fun c4 => ?_)
      · have h := h.1 c4
        refine r_iconst_0 dX3_choose_48 ?_
        exact r_zret0 dX3_choose_49 rfl (Nat.le_refl _) (Nat.le_refl _) ⟨_, _, rfl, rfl, h⟩
      · have h := h.2 c4
        refine r_aload_n 1 dX3_choose_39 rfl rfl ?_
        refine r_iload 0 dX3_choose_40 rfl ?_
        refine K3_Mus_isChosen rfl (Nat.le_of_ble_eq_true rfl) dX3_choose_42 (mBx h (fun r5 S6 h => ?_))
        refine r_if_eqb (tgt := 50) dX3_choose_45 (by decide) (fun c7 => ?_) (fun c7 => ?_)
        · have h := h.1 c7
          refine r_aload_n 1 dX3_choose_50 rfl rfl ?_
          refine xg_3_25 rfl dX3_choose_51 ?_
          refine r_aload_n 1 dX3_choose_54 rfl rfl ?_
          refine xg_3_80 rfl dX3_choose_55 ?_
          refine r_iload 0 dX3_choose_58 rfl ?_
          obtain ⟨b8, h⟩ := h
          refine xt_68 b8 dX3_choose_60 ?_
          refine r_aload_n 1 dX3_choose_61 rfl rfl ?_
          refine xg_3_28 rfl dX3_choose_62 ?_
          refine r_aload_n 1 dX3_choose_65 rfl rfl ?_
          refine xg_3_80 rfl dX3_choose_66 ?_
          refine r_aload_n 1 dX3_choose_69 rfl rfl ?_
          refine r_iload 0 dX3_choose_70 rfl ?_
          refine K3_Mus_marksNeeded rfl (Nat.le_of_ble_eq_true rfl) dX3_choose_72 (mIx h (fun r9 S10 h => ?_))
          refine xt_69 b8 dX3_choose_75 ?_
          refine r_aload_n 1 dX3_choose_76 rfl rfl ?_
          refine r_dup dX3_choose_77 rfl ?_
          refine xg_3_80 rfl dX3_choose_78 ?_
          refine r_iconst_1 dX3_choose_81 ?_
          refine r_iadd dX3_choose_82 ?_
          refine xq_3_80 rfl dX3_choose_83 ?_
          refine r_iinc 4 [(3, .int (y3 + 1)), (4, .int ((xa_Tape_bytes S (ix y3)) &&& 255)), (0, .ref (q 3)), (1, .ref (q 280)), (2, .int (y2))] dX3_choose_86 rfl rfl (Nat.le_of_ble_eq_true rfl) rfl ?_
          refine r_goto (tgt := 7) dX3_choose_89 (by decide) ?_
          refine r_ls [2, 3, 4, 0] (ls2 := [(0, .ref (q 3)), (1, .ref (q 280)), (2, .int (y2)), (3, .int (y3 + 1))]) rfl ?_
          exact h
        · have h := h.2 c7
          refine r_iconst_0 dX3_choose_48 ?_
          exact r_zret0 dX3_choose_49 rfl (Nat.le_refl _) (Nat.le_refl _) ⟨_, _, rfl, rfl, h⟩
abbrev T_Mus_isChosen_2 (E : EvT) (q : Nat → Nat) (D : Nat) (P : Bool → StX → Prop) (S : StX) (y1 : Int32) (y2 : Int32) : Prop := RX E q iX_Mus_isChosen D (qBx E q P) S [(0, .ref (q 3)), (1, .int (y1)), (2, .int (y2))] [] 2
set_option maxRecDepth 20000 in
theorem en_Mus_isChosen {E : EvT} {q : Nat → Nat} {d : Nat} {x1 : Int32} {S : StX} {P : Bool → StX → Prop} (h : T_Mus_isChosen_2 E q d P S x1 0) : C_Mus_isChosen E q d x1 S P := by
  refine Cn.of rfl (Nat.le_of_ble_eq_true rfl) (ls := [(0, .ref (q 3)), (1, .int (x1))]) rfl ?_
  refine r_iconst_0 dX3_isChosen_0 ?_
  refine r_istore_n [(2, .int (0)), (0, .ref (q 3)), (1, .int (x1))] dX3_isChosen_1 rfl (Nat.le_of_ble_eq_true rfl) rfl ?_
  refine r_ls [1, 2, 0] (ls2 := [(0, .ref (q 3)), (1, .int (x1)), (2, .int (0))]) rfl ?_
  exact h
set_option maxRecDepth 20000 in
theorem sg_Mus_isChosen_2 {E : EvT} {q : Nat → Nat} {d : Nat} {S : StX} {P : Bool → StX → Prop} {y1 : Int32} {y2 : Int32} (h : ((xs_Mus_chosen S) ≤ y2 → (P false S)) ∧ (¬ (xs_Mus_chosen S) ≤ y2 → ((0 ≤ y2 ∧ y2 < 100) ∧ ((¬ (xa_Mus_choice S (ix y2)) = y1 → (T_Mus_isChosen_2 E q d P S y1 (y2 + 1))) ∧ ((xa_Mus_choice S (ix y2)) = y1 → (P true S)))))) : T_Mus_isChosen_2 E q d P S y1 y2 := by
  refine r_iload_n 2 dX3_isChosen_2 rfl rfl ?_
  refine r_aload_n 0 dX3_isChosen_3 rfl rfl ?_
  refine xg_3_80 rfl dX3_isChosen_4 ?_
  refine r_icmp_ge (tgt := 28) dX3_isChosen_7 (by decide) (fun c1 => ?_) (fun c1 => ?_)
  · have h := h.1 c1
    refine r_iconst_0 dX3_isChosen_28 ?_
    exact r_zret0 dX3_isChosen_29 rfl (Nat.le_refl _) (Nat.le_refl _) ⟨_, _, rfl, rfl, h⟩
  · have h := h.2 c1
    refine r_aload_n 0 dX3_isChosen_10 rfl rfl ?_
    refine xg_3_25 rfl dX3_isChosen_11 ?_
    refine r_iload_n 2 dX3_isChosen_14 rfl rfl ?_
    obtain ⟨b2, h⟩ := h
    refine xl_68 b2 dX3_isChosen_15 ?_
    refine r_iload_n 1 dX3_isChosen_16 rfl rfl ?_
    refine r_icmp_ne (tgt := 22) dX3_isChosen_17 (by decide) (fun c3 => ?_) (fun c3 => ?_)
    · have h := h.1 c3
      refine r_iinc 2 [(2, .int (y2 + 1)), (0, .ref (q 3)), (1, .int (y1))] dX3_isChosen_22 rfl rfl (Nat.le_of_ble_eq_true rfl) rfl ?_
      refine r_goto (tgt := 2) dX3_isChosen_25 (by decide) ?_
      refine r_ls [1, 2, 0] (ls2 := [(0, .ref (q 3)), (1, .int (y1)), (2, .int (y2 + 1))]) rfl ?_
      exact h
    · have h := h.2 c3
      refine r_iconst_1 dX3_isChosen_20 ?_
      exact r_zret1 dX3_isChosen_21 rfl (Nat.le_refl _) (Nat.le_refl _) ⟨_, _, rfl, rfl, h⟩
abbrev T_Mus_match_26 (E : EvT) (q : Nat → Nat) (D : Nat) (P : Int32 → StX → Prop) (S : StX) (y1 : Int32) (y2 : Int32) : Prop := RX E q iX_Mus_match D (qIx E q P) S [(0, .ref (q 3)), (1, .int (y1)), (2, .int (y2))] [] 26
abbrev T_Mus_match_87 (E : EvT) (q : Nat → Nat) (D : Nat) (P : Int32 → StX → Prop) (S : StX) (y1 : Int32) (y2 : Int64) (y4 : Int32) : Prop := RX E q iX_Mus_match D (qIx E q P) S [(0, .ref (q 3)), (1, .int (y1)), (2, .long (y2)), (4, .int (y4))] [] 87
abbrev T_Mus_match_46 (E : EvT) (q : Nat → Nat) (D : Nat) (P : Int32 → StX → Prop) (S : StX) (y1 : Int32) (y2 : Int32) (y3 : Int32) : Prop := RX E q iX_Mus_match D (qIx E q P) S [(0, .ref (q 3)), (1, .int (y1)), (2, .int (y2)), (3, .int (y3))] [] 46
set_option maxRecDepth 20000 in
theorem en_Mus_match {E : EvT} {q : Nat → Nat} {d : Nat} {S : StX} {P : Int32 → StX → Prop} (h : T_Mus_match_26 E q (d + 4) P (xL (xL S 73 (fillL 256 (-1) (xa_Mus_best S))) 73 (vp_updL ((fillL 256 (-1) (xa_Mus_best S))) (ix 0) (0 : Int64))) ((1 : Int32) <<< ((xs_Mus_chosen S) &&& 31)) 0) : C_Mus_match E q (d + 4) S P := by
  refine Cn.of rfl (Nat.le_of_ble_eq_true rfl) (ls := [(0, .ref (q 3))]) rfl ?_
  refine r_iconst_1 dX3_match_0 ?_
  refine r_aload_n 0 dX3_match_1 rfl rfl ?_
  refine xg_3_80 rfl dX3_match_2 ?_
  refine r_ishl dX3_match_5 ?_
  refine r_istore_n [(1, .int ((1 : Int32) <<< ((xs_Mus_chosen S) &&& 31))), (0, .ref (q 3))] dX3_match_6 rfl (Nat.le_of_ble_eq_true rfl) rfl ?_
  refine r_aload_n 1 dX3_match_7 rfl rfl ?_
  refine xg_3_38 rfl dX3_match_8 ?_
  refine r_ldc2 w5_170 dX3_match_11 ?_
  refine KP3_Jfill_73 (d := d + 3) rfl (Nat.le_of_ble_eq_true rfl) dX3_match_14 ?_
  refine r_aload_n 1 dX3_match_17 rfl rfl ?_
  refine xg_3_38 rfl dX3_match_18 ?_
  refine r_iconst_0 dX3_match_21 ?_
  refine r_lconst (v := 0) dX3_match_22 rfl ?_
  refine xt_73 (by decide) dX3_match_23 ?_
  refine r_iconst_0 dX3_match_24 ?_
  refine r_istore_n [(2, .int (0)), (1, .int ((1 : Int32) <<< ((xs_Mus_chosen S) &&& 31))), (0, .ref (q 3))] dX3_match_25 rfl (Nat.le_of_ble_eq_true rfl) rfl ?_
  refine r_ls [2, 1, 0] (ls2 := [(0, .ref (q 3)), (1, .int ((1 : Int32) <<< ((xs_Mus_chosen S) &&& 31))), (2, .int (0))]) rfl ?_
  exact h
set_option maxRecDepth 20000 in
theorem sg_Mus_match_26 {E : EvT} {q : Nat → Nat} {d : Nat} {S : StX} {P : Int32 → StX → Prop} {y1 : Int32} {y2 : Int32} (h : ((xs_Mus_things S) ≤ y2 → (T_Mus_match_87 E q (d + 4) P S y1 (0 : Int64) 1)) ∧ (¬ (xs_Mus_things S) ≤ y2 → (C_Mus_offer E q (d + 3) y2 S (fun r2 S3 => (r2 = false → (T_Mus_match_26 E q (d + 4) P S3 y1 (y2 + 1))) ∧ (r2 = true → (T_Mus_match_46 E q (d + 4) P S3 y1 y2 (y1 - 1))))))) : T_Mus_match_26 E q (d + 4) P S y1 y2 := by
  refine r_iload_n 2 dX3_match_26 rfl rfl ?_
  refine r_aload_n 0 dX3_match_27 rfl rfl ?_
  refine xg_3_52 rfl dX3_match_28 ?_
  refine r_icmp_ge (tgt := 82) dX3_match_31 (by decide) (fun c1 => ?_) (fun c1 => ?_)
  · have h := h.1 c1
    refine r_lconst (v := 0) dX3_match_82 rfl ?_
    refine r_lstore_n [(2, .long ((0 : Int64))), (0, .ref (q 3)), (1, .int (y1))] dX3_match_83 rfl (Nat.le_of_ble_eq_true rfl) rfl ?_
    refine r_iconst_1 dX3_match_84 ?_
    refine r_istore [(4, .int (1)), (2, .long ((0 : Int64))), (0, .ref (q 3)), (1, .int (y1))] dX3_match_85 (Nat.le_of_ble_eq_true rfl) rfl ?_
    refine r_ls [2, 3, 1, 0] (ls2 := [(0, .ref (q 3)), (1, .int (y1)), (2, .long ((0 : Int64))), (4, .int (1))]) rfl ?_
    exact h
  · have h := h.2 c1
    refine r_aload_n 0 dX3_match_34 rfl rfl ?_
    refine r_iload_n 2 dX3_match_35 rfl rfl ?_
    refine K3_Mus_offer rfl (Nat.le_of_ble_eq_true rfl) dX3_match_36 (mBx h (fun r2 S3 h => ?_))
    refine r_if_eqb (tgt := 76) dX3_match_39 (by decide) (fun c4 => ?_) (fun c4 => ?_)
    · have h := h.1 c4
      refine r_iinc 2 [(2, .int (y2 + 1)), (0, .ref (q 3)), (1, .int (y1))] dX3_match_76 rfl rfl (Nat.le_of_ble_eq_true rfl) rfl ?_
      refine r_goto (tgt := 26) dX3_match_79 (by decide) ?_
      refine r_ls [1, 2, 0] (ls2 := [(0, .ref (q 3)), (1, .int (y1)), (2, .int (y2 + 1))]) rfl ?_
      exact h
    · have h := h.2 c4
      refine r_iload_n 1 dX3_match_42 rfl rfl ?_
      refine r_iconst_1 dX3_match_43 ?_
      refine r_isub dX3_match_44 ?_
      refine r_istore_n [(3, .int (y1 - 1)), (0, .ref (q 3)), (1, .int (y1)), (2, .int (y2))] dX3_match_45 rfl (Nat.le_of_ble_eq_true rfl) rfl ?_
      refine r_ls [1, 2, 3, 0] (ls2 := [(0, .ref (q 3)), (1, .int (y1)), (2, .int (y2)), (3, .int (y1 - 1))]) rfl ?_
      exact h
set_option maxRecDepth 20000 in
theorem sg_Mus_match_87 {E : EvT} {q : Nat → Nat} {d : Nat} {S : StX} {P : Int32 → StX → Prop} {y1 : Int32} {y2 : Int64} {y4 : Int32} (h : (y1 ≤ y4 → (C_Mus_readRow E q (d + 3) (y2 - y2 / 191707312997281 * 191707312997281) S (fun r2 S3 => P r2 S3))) ∧ (¬ y1 ≤ y4 → ((0 ≤ y4 ∧ y4 < 256) ∧ (T_Mus_match_87 E q (d + 4) P S y1 (jMaxl y2 (xa_Mus_best S (ix y4))) (y4 + 1))))) : T_Mus_match_87 E q (d + 4) P S y1 y2 y4 := by
  refine r_iload 3 dX3_match_87 rfl ?_
  refine r_iload_n 1 dX3_match_89 rfl rfl ?_
  refine r_icmp_ge (tgt := 111) dX3_match_90 (by decide) (fun c1 => ?_) (fun c1 => ?_)
  · have h := h.1 c1
    refine r_aload_n 0 dX3_match_111 rfl rfl ?_
    refine r_lload_n 2 dX3_match_112 rfl rfl ?_
    refine r_ldc2 w5_179 dX3_match_113 ?_
    refine r_lrem dX3_match_116 (by decide) ?_
    refine K3_Mus_readRow rfl (Nat.le_of_ble_eq_true rfl) dX3_match_117 (mIx h (fun r2 S3 h => ?_))
    exact r_iret dX3_match_120 rfl (Nat.le_refl _) (Nat.le_refl _) ⟨_, _, rfl, rfl, h⟩
  · have h := h.2 c1
    refine r_lload_n 2 dX3_match_93 rfl rfl ?_
    refine r_aload_n 0 dX3_match_94 rfl rfl ?_
    refine xg_3_38 rfl dX3_match_95 ?_
    refine r_iload 3 dX3_match_98 rfl ?_
    obtain ⟨b4, h⟩ := h
    refine xl_73 b4 dX3_match_100 ?_
    refine KP3_Jmaxl (d := d + 3)  rfl (Nat.le_of_ble_eq_true rfl) dX3_match_101 ?_
    refine r_lstore_n [(2, .long ((jMaxl y2 (xa_Mus_best S (ix y4))))), (0, .ref (q 3)), (1, .int (y1)), (4, .int (y4))] dX3_match_104 rfl (Nat.le_of_ble_eq_true rfl) rfl ?_
    refine r_iinc 3 [(4, .int (y4 + 1)), (2, .long ((jMaxl y2 (xa_Mus_best S (ix y4))))), (0, .ref (q 3)), (1, .int (y1))] dX3_match_105 rfl rfl (Nat.le_of_ble_eq_true rfl) rfl ?_
    refine r_goto (tgt := 87) dX3_match_108 (by decide) ?_
    refine r_ls [2, 3, 1, 0] (ls2 := [(0, .ref (q 3)), (1, .int (y1)), (2, .long ((jMaxl y2 (xa_Mus_best S (ix y4))))), (4, .int (y4 + 1))]) rfl ?_
    exact h
set_option maxRecDepth 20000 in
theorem sg_Mus_match_46 {E : EvT} {q : Nat → Nat} {d : Nat} {S : StX} {P : Int32 → StX → Prop} {y1 : Int32} {y2 : Int32} {y3 : Int32} (h : (y3 ≤ 0 → (T_Mus_match_26 E q (d + 4) P S y1 (y2 + 1))) ∧ (¬ y3 ≤ 0 → ((0 ≤ y3 ∧ y3 < 256) ∧ (C_Mus_bestWithLast E q (d + 3) y3 S (fun r3 S4 => T_Mus_match_46 E q (d + 4) P (xL S4 73 (vp_updL (xa_Mus_best S4) (ix y3) (jMaxl (xa_Mus_best S (ix y3)) r3))) y1 y2 (y3 + (-1))))))) : T_Mus_match_46 E q (d + 4) P S y1 y2 y3 := by
  refine r_iload_n 3 dX3_match_46 rfl rfl ?_
  refine r_if_le (tgt := 76) dX3_match_47 (by decide) (fun c1 => ?_) (fun c1 => ?_)
  · have h := h.1 c1
    refine r_iinc 2 [(2, .int (y2 + 1)), (0, .ref (q 3)), (1, .int (y1)), (3, .int (y3))] dX3_match_76 rfl rfl (Nat.le_of_ble_eq_true rfl) rfl ?_
    refine r_goto (tgt := 26) dX3_match_79 (by decide) ?_
    refine r_ls [1, 2, 0] (ls2 := [(0, .ref (q 3)), (1, .int (y1)), (2, .int (y2 + 1))]) rfl ?_
    exact h
  · have h := h.2 c1
    refine r_aload_n 0 dX3_match_50 rfl rfl ?_
    refine xg_3_38 rfl dX3_match_51 ?_
    refine r_iload_n 3 dX3_match_54 rfl rfl ?_
    refine r_aload_n 0 dX3_match_55 rfl rfl ?_
    refine xg_3_38 rfl dX3_match_56 ?_
    refine r_iload_n 3 dX3_match_59 rfl rfl ?_
    obtain ⟨b2, h⟩ := h
    refine xl_73 b2 dX3_match_60 ?_
    refine r_aload_n 0 dX3_match_61 rfl rfl ?_
    refine r_iload_n 3 dX3_match_62 rfl rfl ?_
    refine K3_Mus_bestWithLast rfl (Nat.le_of_ble_eq_true rfl) dX3_match_63 (mJx h (fun r3 S4 h => ?_))
    refine KP3_Jmaxl (d := d + 3)  rfl (Nat.le_of_ble_eq_true rfl) dX3_match_66 ?_
    refine xt_73 b2 dX3_match_69 ?_
    refine r_iinc 3 [(3, .int (y3 + (-1))), (0, .ref (q 3)), (1, .int (y1)), (2, .int (y2))] dX3_match_70 rfl rfl (Nat.le_of_ble_eq_true rfl) rfl ?_
    refine r_goto (tgt := 46) dX3_match_73 (by decide) ?_
    refine r_ls [1, 2, 3, 0] (ls2 := [(0, .ref (q 3)), (1, .int (y1)), (2, .int (y2)), (3, .int (y3 + (-1)))]) rfl ?_
    exact h
abbrev T_Mus_offer_4 (E : EvT) (q : Nat → Nat) (D : Nat) (P : Bool → StX → Prop) (S : StX) (y1 : Int32) (y2 : Int32) (y3 : Int32) : Prop := RX E q iX_Mus_offer D (qBx E q P) S [(0, .ref (q 3)), (1, .int (y1)), (2, .int (y2)), (3, .int (y3))] [] 4
set_option maxRecDepth 20000 in
theorem en_Mus_offer {E : EvT} {q : Nat → Nat} {d : Nat} {x1 : Int32} {S : StX} {P : Bool → StX → Prop} (hE : EOk E q) (h : T_Mus_offer_4 E q (d + 3) P S x1 0 0) : C_Mus_offer E q (d + 3) x1 S P := by
  refine Cn.of rfl (Nat.le_of_ble_eq_true rfl) (ls := [(0, .ref (q 3)), (1, .int (x1))]) rfl ?_
  refine r_iconst_0 dX3_offer_0 ?_
  refine r_istore_n [(2, .int (0)), (0, .ref (q 3)), (1, .int (x1))] dX3_offer_1 rfl (Nat.le_of_ble_eq_true rfl) rfl ?_
  refine r_iconst_0 dX3_offer_2 ?_
  refine r_istore_n [(3, .int (0)), (2, .int (0)), (0, .ref (q 3)), (1, .int (x1))] dX3_offer_3 rfl (Nat.le_of_ble_eq_true rfl) rfl ?_
  refine r_ls [2, 3, 1, 0] (ls2 := [(0, .ref (q 3)), (1, .int (x1)), (2, .int (0)), (3, .int (0))]) rfl ?_
  exact h
set_option maxRecDepth 20000 in
theorem sg_Mus_offer_4 {E : EvT} {q : Nat → Nat} {d : Nat} {S : StX} {P : Bool → StX → Prop} {y1 : Int32} {y2 : Int32} {y3 : Int32} (hE : EOk E q) (h : ((xs_Mus_chosen S) ≤ y3 → (∃ bz, y2 = b2i bz ∧ P bz S)) ∧ (¬ (xs_Mus_chosen S) ≤ y3 → ((0 ≤ y3 ∧ y3 < 100) ∧ ((0 ≤ y3 ∧ y3 < 8) ∧ ((0 ≤ y1 ∧ y1 < 60) ∧ ((¬ (xa_Mus_missing S (ix y1)) = 0 → (T_Mus_offer_4 E q (d + 3) P (xL S 72 (vp_updL (xa_Mus_gain S) (ix y3) (0 : Int64))) y1 y2 (y3 + 1))) ∧ ((xa_Mus_missing S (ix y1)) = 0 → (C_Mus_fits E q (d + 2) (xa_Mus_choice S (ix y3)) y1 (xa_Mus_wanted S (ix y3)) (xL S 72 (vp_updL (xa_Mus_gain S) (ix y3) (0 : Int64))) (fun r6 S7 => (r6 = false → (T_Mus_offer_4 E q (d + 3) P S7 y1 y2 (y3 + 1))) ∧ (r6 = true → (C_Mus_agreeing E q (d + 2) (xa_Mus_choice S (ix y3)) y1 S7 (fun r9 S10 => T_Mus_offer_4 E q (d + 3) P (xL S10 72 (vp_updL (xa_Mus_gain S10) (ix y3) ((((65 + r9).toInt64) * 191707312997281) + (((60 - y1).toInt64) * (unitF (ix y3)))))) y1 1 (y3 + 1))))))))))))) : T_Mus_offer_4 E q (d + 3) P S y1 y2 y3 := by
  refine r_iload_n 3 dX3_offer_4 rfl rfl ?_
  refine r_aload_n 0 dX3_offer_5 rfl rfl ?_
  refine xg_3_80 rfl dX3_offer_6 ?_
  refine r_icmp_ge (tgt := 93) dX3_offer_9 (by decide) (fun c1 => ?_) (fun c1 => ?_)
  · have h := h.1 c1
    refine r_iload_n 2 dX3_offer_93 rfl rfl ?_
    obtain ⟨bz, hbz, h⟩ := h
    exact r_zretx dX3_offer_94 rfl (Nat.le_refl _) (Nat.le_refl _) ⟨bz, hbz, ⟨_, _, rfl, rfl, h⟩⟩
  · have h := h.2 c1
    refine r_aload_n 0 dX3_offer_12 rfl rfl ?_
    refine xg_3_25 rfl dX3_offer_13 ?_
    refine r_iload_n 3 dX3_offer_16 rfl rfl ?_
    obtain ⟨b2, h⟩ := h
    refine xl_68 b2 dX3_offer_17 ?_
    refine r_istore [(4, .int (xa_Mus_choice S (ix y3))), (0, .ref (q 3)), (1, .int (y1)), (2, .int (y2)), (3, .int (y3))] dX3_offer_18 (Nat.le_of_ble_eq_true rfl) rfl ?_
    refine r_aload_n 1 dX3_offer_20 rfl rfl ?_
    refine xg_3_34 rfl dX3_offer_21 ?_
    refine r_iload_n 4 dX3_offer_24 rfl rfl ?_
    refine r_lconst (v := 0) dX3_offer_25 rfl ?_
    obtain ⟨b3, h⟩ := h
    refine xt_72 b3 dX3_offer_26 ?_
    refine r_aload_n 1 dX3_offer_27 rfl rfl ?_
    refine xg_3_21 rfl dX3_offer_28 ?_
    refine r_iload_n 2 dX3_offer_31 rfl rfl ?_
    obtain ⟨b4, h⟩ := h
    refine xl_66 b4 dX3_offer_32 ?_
    refine r_if_ne (tgt := 87) dX3_offer_33 (by decide) (fun c5 => ?_) (fun c5 => ?_)
    · have h := h.1 c5
      refine r_iinc 4 [(3, .int (y3 + 1)), (4, .int (xa_Mus_choice S (ix y3))), (0, .ref (q 3)), (1, .int (y1)), (2, .int (y2))] dX3_offer_87 rfl rfl (Nat.le_of_ble_eq_true rfl) rfl ?_
      refine r_goto (tgt := 4) dX3_offer_90 (by decide) ?_
      refine r_ls [2, 3, 4, 0] (ls2 := [(0, .ref (q 3)), (1, .int (y1)), (2, .int (y2)), (3, .int (y3 + 1))]) rfl ?_
      exact h
    · have h := h.2 c5
      refine r_aload_n 1 dX3_offer_36 rfl rfl ?_
      refine r_iload 0 dX3_offer_37 rfl ?_
      refine r_iload_n 2 dX3_offer_39 rfl rfl ?_
      refine r_aload_n 1 dX3_offer_40 rfl rfl ?_
      refine xg_3_28 rfl dX3_offer_41 ?_
      refine r_iload_n 4 dX3_offer_44 rfl rfl ?_
      refine xl_69 b2 dX3_offer_45 ?_
      refine K3_Mus_fits rfl (Nat.le_of_ble_eq_true rfl) dX3_offer_46 (mBx h (fun r6 S7 h => ?_))
      refine r_if_eqb (tgt := 87) dX3_offer_49 (by decide) (fun c8 => ?_) (fun c8 => ?_)
      · have h := h.1 c8
        refine r_iinc 4 [(3, .int (y3 + 1)), (4, .int (xa_Mus_choice S (ix y3))), (0, .ref (q 3)), (1, .int (y1)), (2, .int (y2))] dX3_offer_87 rfl rfl (Nat.le_of_ble_eq_true rfl) rfl ?_
        refine r_goto (tgt := 4) dX3_offer_90 (by decide) ?_
        refine r_ls [2, 3, 4, 0] (ls2 := [(0, .ref (q 3)), (1, .int (y1)), (2, .int (y2)), (3, .int (y3 + 1))]) rfl ?_
        exact h
      · have h := h.2 c8
        refine r_aload_n 1 dX3_offer_52 rfl rfl ?_
        refine xg_3_34 rfl dX3_offer_53 ?_
        refine r_iload_n 4 dX3_offer_56 rfl rfl ?_
        refine r_bipush_65 dX3_offer_57 ?_
        refine r_aload_n 1 dX3_offer_59 rfl rfl ?_
        refine r_iload 0 dX3_offer_60 rfl ?_
        refine r_iload_n 2 dX3_offer_62 rfl rfl ?_
        refine K3_Mus_agreeing rfl (Nat.le_of_ble_eq_true rfl) dX3_offer_63 (mIx h (fun r9 S10 h => ?_))
        refine r_iadd dX3_offer_66 ?_
        refine r_i2l dX3_offer_67 ?_
        refine r_ldc2 w5_179 dX3_offer_68 ?_
        refine r_lmul dX3_offer_71 ?_
        refine r_bipush_60 dX3_offer_72 ?_
        refine r_iload_n 2 dX3_offer_74 rfl rfl ?_
        refine r_isub dX3_offer_75 ?_
        refine r_i2l dX3_offer_76 ?_
        refine xgs_UNITS hE rfl dX3_offer_77 ?_
        refine r_iload_n 4 dX3_offer_80 rfl rfl ?_
        refine xlu hE b3 dX3_offer_81 ?_
        refine r_lmul dX3_offer_82 ?_
        refine r_ladd dX3_offer_83 ?_
        refine xt_72 b3 dX3_offer_84 ?_
        refine r_iconst_1 dX3_offer_85 ?_
        refine r_istore_n [(2, .int (1)), (4, .int (xa_Mus_choice S (ix y3))), (0, .ref (q 3)), (1, .int (y1)), (3, .int (y3))] dX3_offer_86 rfl (Nat.le_of_ble_eq_true rfl) rfl ?_
        refine r_iinc 4 [(3, .int (y3 + 1)), (2, .int (1)), (4, .int (xa_Mus_choice S (ix y3))), (0, .ref (q 3)), (1, .int (y1))] dX3_offer_87 rfl rfl (Nat.le_of_ble_eq_true rfl) rfl ?_
        refine r_goto (tgt := 4) dX3_offer_90 (by decide) ?_
        refine r_ls [3, 4, 1, 0] (ls2 := [(0, .ref (q 3)), (1, .int (y1)), (2, .int (1)), (3, .int (y3 + 1))]) rfl ?_
        exact h
abbrev T_Mus_bestWithLast_7 (E : EvT) (q : Nat → Nat) (D : Nat) (P : Int64 → StX → Prop) (S : StX) (y1 : Int32) (y2 : Int64) (y4 : Int32) : Prop := RX E q iX_Mus_bestWithLast D (qJx E q P) S [(0, .ref (q 3)), (1, .int (y1)), (2, .long (y2)), (4, .int (y4))] [] 7
set_option maxRecDepth 20000 in
theorem en_Mus_bestWithLast {E : EvT} {q : Nat → Nat} {d : Nat} {x1 : Int32} {S : StX} {P : Int64 → StX → Prop} (h : T_Mus_bestWithLast_7 E q (d + 1) P S x1 (-1) 0) : C_Mus_bestWithLast E q (d + 1) x1 S P := by
  refine Cn.of rfl (Nat.le_of_ble_eq_true rfl) (ls := [(0, .ref (q 3)), (1, .int (x1))]) rfl ?_
  refine r_ldc2 w5_170 dX3_bestWithLast_0 ?_
  refine r_lstore_n [(2, .long ((-1))), (0, .ref (q 3)), (1, .int (x1))] dX3_bestWithLast_3 rfl (Nat.le_of_ble_eq_true rfl) rfl ?_
  refine r_iconst_0 dX3_bestWithLast_4 ?_
  refine r_istore [(4, .int (0)), (2, .long ((-1))), (0, .ref (q 3)), (1, .int (x1))] dX3_bestWithLast_5 (Nat.le_of_ble_eq_true rfl) rfl ?_
  refine r_ls [2, 3, 1, 0] (ls2 := [(0, .ref (q 3)), (1, .int (x1)), (2, .long ((-1))), (4, .int (0))]) rfl ?_
  exact h
set_option maxRecDepth 20000 in
theorem sg_Mus_bestWithLast_7 {E : EvT} {q : Nat → Nat} {d : Nat} {S : StX} {P : Int64 → StX → Prop} {y1 : Int32} {y2 : Int64} {y4 : Int32} (h : ((xs_Mus_chosen S) ≤ y4 → (P y2 S)) ∧ (¬ (xs_Mus_chosen S) ≤ y4 → ((¬ ((y1 >>> (y4 &&& 31)) &&& 1) = 1 → (T_Mus_bestWithLast_7 E q (d + 1) P S y1 y2 (y4 + 1))) ∧ (((y1 >>> (y4 &&& 31)) &&& 1) = 1 → ((0 ≤ y4 ∧ y4 < 8) ∧ (((lg_cmp (xa_Mus_gain S (ix y4)) (0 : Int64)) ≤ 0 → (T_Mus_bestWithLast_7 E q (d + 1) P S y1 y2 (y4 + 1))) ∧ (¬ (lg_cmp (xa_Mus_gain S (ix y4)) (0 : Int64)) ≤ 0 → ((0 ≤ (y1 ^^^ ((1 : Int32) <<< (y4 &&& 31))) ∧ (y1 ^^^ ((1 : Int32) <<< (y4 &&& 31))) < 256) ∧ (((lg_cmp (xa_Mus_best S (ix (y1 ^^^ ((1 : Int32) <<< (y4 &&& 31))))) (0 : Int64)) < 0 → (T_Mus_bestWithLast_7 E q (d + 1) P S y1 y2 (y4 + 1))) ∧ (¬ (lg_cmp (xa_Mus_best S (ix (y1 ^^^ ((1 : Int32) <<< (y4 &&& 31))))) (0 : Int64)) < 0 → (∀ v7, v7 = (jMaxl y2 ((xa_Mus_best S (ix (y1 ^^^ ((1 : Int32) <<< (y4 &&& 31))))) + (xa_Mus_gain S (ix y4)))) → (T_Mus_bestWithLast_7 E q (d + 1) P S y1 v7 (y4 + 1))))))))))))) : T_Mus_bestWithLast_7 E q (d + 1) P S y1 y2 y4 := by
  refine r_iload 3 dX3_bestWithLast_7 rfl ?_
  refine r_aload_n 0 dX3_bestWithLast_9 rfl rfl ?_
  refine xg_3_80 rfl dX3_bestWithLast_10 ?_
  refine r_icmp_ge (tgt := 84) dX3_bestWithLast_13 (by decide) (fun c1 => ?_) (fun c1 => ?_)
  · have h := h.1 c1
    refine r_lload_n 2 dX3_bestWithLast_84 rfl rfl ?_
    exact r_lret dX3_bestWithLast_85 rfl (Nat.le_refl _) (Nat.le_refl _) ⟨_, _, rfl, rfl, h⟩
  · have h := h.2 c1
    refine r_iload_n 1 dX3_bestWithLast_16 rfl rfl ?_
    refine r_iload 3 dX3_bestWithLast_17 rfl ?_
    refine r_ishr dX3_bestWithLast_19 ?_
    refine r_iconst_1 dX3_bestWithLast_20 ?_
    refine r_iand dX3_bestWithLast_21 ?_
    refine r_iconst_1 dX3_bestWithLast_22 ?_
    refine r_icmp_ne (tgt := 78) dX3_bestWithLast_23 (by decide) (fun c2 => ?_) (fun c2 => ?_)
    · have h := h.1 c2
      refine r_iinc 3 [(4, .int (y4 + 1)), (0, .ref (q 3)), (1, .int (y1)), (2, .long (y2))] dX3_bestWithLast_78 rfl rfl (Nat.le_of_ble_eq_true rfl) rfl ?_
      refine r_goto (tgt := 7) dX3_bestWithLast_81 (by decide) ?_
      refine r_ls [1, 2, 3, 0] (ls2 := [(0, .ref (q 3)), (1, .int (y1)), (2, .long (y2)), (4, .int (y4 + 1))]) rfl ?_
      exact h
    · have h := h.2 c2
      refine r_aload_n 0 dX3_bestWithLast_26 rfl rfl ?_
      refine xg_3_34 rfl dX3_bestWithLast_27 ?_
      refine r_iload 3 dX3_bestWithLast_30 rfl ?_
      obtain ⟨b3, h⟩ := h
      refine xl_72 b3 dX3_bestWithLast_32 ?_
      refine r_lconst (v := 0) dX3_bestWithLast_33 rfl ?_
      refine r_lcmp dX3_bestWithLast_34 ?_
      refine r_if_le (tgt := 78) dX3_bestWithLast_35 (by decide) (fun c4 => ?_) (fun c4 => ?_)
      · have h := h.1 c4
        refine r_iinc 3 [(4, .int (y4 + 1)), (0, .ref (q 3)), (1, .int (y1)), (2, .long (y2))] dX3_bestWithLast_78 rfl rfl (Nat.le_of_ble_eq_true rfl) rfl ?_
        refine r_goto (tgt := 7) dX3_bestWithLast_81 (by decide) ?_
        refine r_ls [1, 2, 3, 0] (ls2 := [(0, .ref (q 3)), (1, .int (y1)), (2, .long (y2)), (4, .int (y4 + 1))]) rfl ?_
        exact h
      · have h := h.2 c4
        refine r_aload_n 0 dX3_bestWithLast_38 rfl rfl ?_
        refine xg_3_38 rfl dX3_bestWithLast_39 ?_
        refine r_iload_n 1 dX3_bestWithLast_42 rfl rfl ?_
        refine r_iconst_1 dX3_bestWithLast_43 ?_
        refine r_iload 3 dX3_bestWithLast_44 rfl ?_
        refine r_ishl dX3_bestWithLast_46 ?_
        refine r_ixor dX3_bestWithLast_47 ?_
        obtain ⟨b5, h⟩ := h
        refine xl_73 b5 dX3_bestWithLast_48 ?_
        refine r_lconst (v := 0) dX3_bestWithLast_49 rfl ?_
        refine r_lcmp dX3_bestWithLast_50 ?_
        refine r_if_lt (tgt := 78) dX3_bestWithLast_51 (by decide) (fun c6 => ?_) (fun c6 => ?_)
        · have h := h.1 c6
          refine r_iinc 3 [(4, .int (y4 + 1)), (0, .ref (q 3)), (1, .int (y1)), (2, .long (y2))] dX3_bestWithLast_78 rfl rfl (Nat.le_of_ble_eq_true rfl) rfl ?_
          refine r_goto (tgt := 7) dX3_bestWithLast_81 (by decide) ?_
          refine r_ls [1, 2, 3, 0] (ls2 := [(0, .ref (q 3)), (1, .int (y1)), (2, .long (y2)), (4, .int (y4 + 1))]) rfl ?_
          exact h
        · have h := h.2 c6
          refine r_lload_n 2 dX3_bestWithLast_54 rfl rfl ?_
          refine r_aload_n 0 dX3_bestWithLast_55 rfl rfl ?_
          refine xg_3_38 rfl dX3_bestWithLast_56 ?_
          refine r_iload_n 1 dX3_bestWithLast_59 rfl rfl ?_
          refine r_iconst_1 dX3_bestWithLast_60 ?_
          refine r_iload 3 dX3_bestWithLast_61 rfl ?_
          refine r_ishl dX3_bestWithLast_63 ?_
          refine r_ixor dX3_bestWithLast_64 ?_
          refine xl_73 b5 dX3_bestWithLast_65 ?_
          refine r_aload_n 0 dX3_bestWithLast_66 rfl rfl ?_
          refine xg_3_34 rfl dX3_bestWithLast_67 ?_
          refine r_iload 3 dX3_bestWithLast_70 rfl ?_
          refine xl_72 b3 dX3_bestWithLast_72 ?_
          refine r_ladd dX3_bestWithLast_73 ?_
          refine KP3_Jmaxl (d := d + 0)  rfl (Nat.le_of_ble_eq_true rfl) dX3_bestWithLast_74 ?_
          refine r_nml (fun v7 ev7 => ?_)
          have h := h v7 ev7
          refine r_lstore_n [(2, .long (v7)), (0, .ref (q 3)), (1, .int (y1)), (4, .int (y4))] dX3_bestWithLast_77 rfl (Nat.le_of_ble_eq_true rfl) rfl ?_
          refine r_iinc 3 [(4, .int (y4 + 1)), (2, .long (v7)), (0, .ref (q 3)), (1, .int (y1))] dX3_bestWithLast_78 rfl rfl (Nat.le_of_ble_eq_true rfl) rfl ?_
          refine r_goto (tgt := 7) dX3_bestWithLast_81 (by decide) ?_
          refine r_ls [2, 3, 1, 0] (ls2 := [(0, .ref (q 3)), (1, .int (y1)), (2, .long (v7)), (4, .int (y4 + 1))]) rfl ?_
          exact h
abbrev T_Mus_readRow_13 (E : EvT) (q : Nat → Nat) (D : Nat) (P : Int32 → StX → Prop) (S : StX) (y1 : Int64) (y3 : Int32) (y4 : Int32) : Prop := RX E q iX_Mus_readRow D (qIx E q P) S [(0, .ref (q 3)), (1, .long (y1)), (3, .int (y3)), (4, .int (y4))] [] 13
set_option maxRecDepth 20000 in
theorem en_Mus_readRow {E : EvT} {q : Nat → Nat} {d : Nat} {x1 : Int64} {S : StX} {P : Int32 → StX → Prop} (hE : EOk E q) (h : T_Mus_readRow_13 E q d P (xI S 70 (xs_Mus_chosen S)) x1 0 0) : C_Mus_readRow E q d x1 S P := by
  refine Cn.of rfl (Nat.le_of_ble_eq_true rfl) (ls := [(0, .ref (q 3)), (1, .long (x1))]) rfl ?_
  refine r_iconst_0 dX3_readRow_0 ?_
  refine r_istore_n [(3, .int (0)), (0, .ref (q 3)), (1, .long (x1))] dX3_readRow_1 rfl (Nat.le_of_ble_eq_true rfl) rfl ?_
  refine r_aload_n 1 dX3_readRow_2 rfl rfl ?_
  refine r_aload_n 1 dX3_readRow_3 rfl rfl ?_
  refine xg_3_80 rfl dX3_readRow_4 ?_
  refine xq_3_127 rfl dX3_readRow_7 ?_
  refine r_iconst_0 dX3_readRow_10 ?_
  refine r_istore [(4, .int (0)), (3, .int (0)), (0, .ref (q 3)), (1, .long (x1))] dX3_readRow_11 (Nat.le_of_ble_eq_true rfl) rfl ?_
  refine r_ls [2, 3, 1, 0] (ls2 := [(0, .ref (q 3)), (1, .long (x1)), (3, .int (0)), (4, .int (0))]) rfl ?_
  exact h
set_option maxRecDepth 20000 in
theorem sg_Mus_readRow_13 {E : EvT} {q : Nat → Nat} {d : Nat} {S : StX} {P : Int32 → StX → Prop} {y1 : Int64} {y3 : Int32} {y4 : Int32} (hE : EOk E q) (h : ((xs_Mus_chosen S) ≤ y4 → (P y3 S)) ∧ (¬ (xs_Mus_chosen S) ≤ y4 → ((0 ≤ y4 ∧ y4 < 8) ∧ (¬ (unitF (ix y4)) = 0 ∧ ((60 ≤ ((upd (xa_Mus_row S) (ix y4) (60 - (((y1 / (unitF (ix y4))) - (y1 / (unitF (ix y4))) / 61 * 61).toInt32))) (ix y4)) → (T_Mus_readRow_13 E q d P (xA S 71 (upd (xa_Mus_row S) (ix y4) (60 - (((y1 / (unitF (ix y4))) - (y1 / (unitF (ix y4))) / 61 * 61).toInt32)))) y1 y3 (y4 + 1))) ∧ (¬ 60 ≤ ((upd (xa_Mus_row S) (ix y4) (60 - (((y1 / (unitF (ix y4))) - (y1 / (unitF (ix y4))) / 61 * 61).toInt32))) (ix y4)) → (T_Mus_readRow_13 E q d P (xA S 71 (upd (xa_Mus_row S) (ix y4) (60 - (((y1 / (unitF (ix y4))) - (y1 / (unitF (ix y4))) / 61 * 61).toInt32)))) y1 (y3 + 1) (y4 + 1)))))))) : T_Mus_readRow_13 E q d P S y1 y3 y4 := by
  refine r_iload 3 dX3_readRow_13 rfl ?_
  refine r_aload_n 0 dX3_readRow_15 rfl rfl ?_
  refine xg_3_80 rfl dX3_readRow_16 ?_
  refine r_icmp_ge (tgt := 66) dX3_readRow_19 (by decide) (fun c1 => ?_) (fun c1 => ?_)
  · have h := h.1 c1
    refine r_iload_n 2 dX3_readRow_66 rfl rfl ?_
    exact r_iret dX3_readRow_67 rfl (Nat.le_refl _) (Nat.le_refl _) ⟨_, _, rfl, rfl, h⟩
  · have h := h.2 c1
    refine r_aload_n 0 dX3_readRow_22 rfl rfl ?_
    refine xg_3_31 rfl dX3_readRow_23 ?_
    refine r_iload 3 dX3_readRow_26 rfl ?_
    refine r_bipush_60 dX3_readRow_28 ?_
    refine r_lload_n 1 dX3_readRow_30 rfl rfl ?_
    refine xgs_UNITS hE rfl dX3_readRow_31 ?_
    refine r_iload 3 dX3_readRow_34 rfl ?_
    obtain ⟨b2, h⟩ := h
    refine xlu hE b2 dX3_readRow_36 ?_
    obtain ⟨b3, h⟩ := h
    refine r_ldiv dX3_readRow_37 b3 ?_
    refine r_ldc2 w5_193 dX3_readRow_38 ?_
    refine r_lrem dX3_readRow_41 (by decide) ?_
    refine r_l2i dX3_readRow_42 ?_
    refine r_isub dX3_readRow_43 ?_
    refine xt_71 b2 dX3_readRow_44 ?_
    refine r_aload_n 0 dX3_readRow_45 rfl rfl ?_
    refine xg_3_31 rfl dX3_readRow_46 ?_
    refine r_iload 3 dX3_readRow_49 rfl ?_
    refine xl_71 b2 dX3_readRow_51 ?_
    refine r_bipush_60 dX3_readRow_52 ?_
    refine r_icmp_ge (tgt := 60) dX3_readRow_54 (by decide) (fun c4 => ?_) (fun c4 => ?_)
    · have h := h.1 c4
      refine r_iinc 3 [(4, .int (y4 + 1)), (0, .ref (q 3)), (1, .long (y1)), (3, .int (y3))] dX3_readRow_60 rfl rfl (Nat.le_of_ble_eq_true rfl) rfl ?_
      refine r_goto (tgt := 13) dX3_readRow_63 (by decide) ?_
      refine r_ls [1, 2, 3, 0] (ls2 := [(0, .ref (q 3)), (1, .long (y1)), (3, .int (y3)), (4, .int (y4 + 1))]) rfl ?_
      exact h
    · have h := h.2 c4
      refine r_iinc 2 [(3, .int (y3 + 1)), (0, .ref (q 3)), (1, .long (y1)), (4, .int (y4))] dX3_readRow_57 rfl rfl (Nat.le_of_ble_eq_true rfl) rfl ?_
      refine r_iinc 3 [(4, .int (y4 + 1)), (3, .int (y3 + 1)), (0, .ref (q 3)), (1, .long (y1))] dX3_readRow_60 rfl rfl (Nat.le_of_ble_eq_true rfl) rfl ?_
      refine r_goto (tgt := 13) dX3_readRow_63 (by decide) ?_
      refine r_ls [2, 3, 1, 0] (ls2 := [(0, .ref (q 3)), (1, .long (y1)), (3, .int (y3 + 1)), (4, .int (y4 + 1))]) rfl ?_
      exact h
abbrev T_Mus_keepLost_4 (E : EvT) (q : Nat → Nat) (D : Nat) (P : StX → Prop) (S : StX) (y1 : Int32) (y2 : Int32) : Prop := RX E q iX_Mus_keepLost D (qVx E q P) S [(0, .ref (q 3)), (1, .int (y1)), (2, .int (y2))] [] 4
set_option maxRecDepth 20000 in
theorem en_Mus_keepLost {E : EvT} {q : Nat → Nat} {d : Nat} {S : StX} {P : StX → Prop} (h : T_Mus_keepLost_4 E q (d + 4) P S 0 0) : C_Mus_keepLost E q (d + 4) S P := by
  refine Cn.of rfl (Nat.le_of_ble_eq_true rfl) (ls := [(0, .ref (q 3))]) rfl ?_
  refine r_iconst_0 dX3_keepLost_0 ?_
  refine r_istore_n [(1, .int (0)), (0, .ref (q 3))] dX3_keepLost_1 rfl (Nat.le_of_ble_eq_true rfl) rfl ?_
  refine r_iconst_0 dX3_keepLost_2 ?_
  refine r_istore_n [(2, .int (0)), (1, .int (0)), (0, .ref (q 3))] dX3_keepLost_3 rfl (Nat.le_of_ble_eq_true rfl) rfl ?_
  refine r_ls [2, 1, 0] (ls2 := [(0, .ref (q 3)), (1, .int (0)), (2, .int (0))]) rfl ?_
  exact h
set_option maxRecDepth 20000 in
theorem sg_Mus_keepLost_4 {E : EvT} {q : Nat → Nat} {d : Nat} {S : StX} {P : StX → Prop} {y1 : Int32} {y2 : Int32} (h : ((xs_Mus_chosen S) ≤ y2 → (P (xI S 67 y1))) ∧ (¬ (xs_Mus_chosen S) ≤ y2 → (C_Mus_isLost E q (d + 3) y2 S (fun r2 S3 => (r2 = false → (T_Mus_keepLost_4 E q (d + 4) P S3 y1 (y2 + 1))) ∧ (r2 = true → ((0 ≤ y2 ∧ y2 < 100) ∧ ((0 ≤ y1 ∧ y1 < 100) ∧ (T_Mus_keepLost_4 E q (d + 4) P (xA (xA S3 68 (upd (xa_Mus_choice S3) (ix y1) (xa_Mus_choice S3 (ix y2)))) 69 (upd (xa_Mus_wanted S3) (ix y1) (xa_Mus_wanted S3 (ix y2)))) (y1 + 1) (y2 + 1))))))))) : T_Mus_keepLost_4 E q (d + 4) P S y1 y2 := by
  refine r_iload_n 2 dX3_keepLost_4 rfl rfl ?_
  refine r_aload_n 0 dX3_keepLost_5 rfl rfl ?_
  refine xg_3_80 rfl dX3_keepLost_6 ?_
  refine r_icmp_ge (tgt := 53) dX3_keepLost_9 (by decide) (fun c1 => ?_) (fun c1 => ?_)
  · have h := h.1 c1
    refine r_aload_n 0 dX3_keepLost_53 rfl rfl ?_
    refine r_iload_n 1 dX3_keepLost_54 rfl rfl ?_
    refine xq_3_80 rfl dX3_keepLost_55 ?_
    exact r_vret dX3_keepLost_58 rfl (Nat.le_refl _) (Nat.le_refl _) ⟨_, rfl, rfl, h⟩
  · have h := h.2 c1
    refine r_aload_n 0 dX3_keepLost_12 rfl rfl ?_
    refine r_iload_n 2 dX3_keepLost_13 rfl rfl ?_
    refine K3_Mus_isLost rfl (Nat.le_of_ble_eq_true rfl) dX3_keepLost_14 (mBx h (fun r2 S3 h => ?_))
    refine r_if_eqb (tgt := 47) dX3_keepLost_17 (by decide) (fun c4 => ?_) (fun c4 => ?_)
    · have h := h.1 c4
      refine r_iinc 2 [(2, .int (y2 + 1)), (0, .ref (q 3)), (1, .int (y1))] dX3_keepLost_47 rfl rfl (Nat.le_of_ble_eq_true rfl) rfl ?_
      refine r_goto (tgt := 4) dX3_keepLost_50 (by decide) ?_
      refine r_ls [1, 2, 0] (ls2 := [(0, .ref (q 3)), (1, .int (y1)), (2, .int (y2 + 1))]) rfl ?_
      exact h
    · have h := h.2 c4
      refine r_aload_n 0 dX3_keepLost_20 rfl rfl ?_
      refine xg_3_25 rfl dX3_keepLost_21 ?_
      refine r_iload_n 1 dX3_keepLost_24 rfl rfl ?_
      refine r_aload_n 0 dX3_keepLost_25 rfl rfl ?_
      refine xg_3_25 rfl dX3_keepLost_26 ?_
      refine r_iload_n 2 dX3_keepLost_29 rfl rfl ?_
      obtain ⟨b5, h⟩ := h
      refine xl_68 b5 dX3_keepLost_30 ?_
      obtain ⟨b6, h⟩ := h
      refine xt_68 b6 dX3_keepLost_31 ?_
      refine r_aload_n 0 dX3_keepLost_32 rfl rfl ?_
      refine xg_3_28 rfl dX3_keepLost_33 ?_
      refine r_iload_n 1 dX3_keepLost_36 rfl rfl ?_
      refine r_aload_n 0 dX3_keepLost_37 rfl rfl ?_
      refine xg_3_28 rfl dX3_keepLost_38 ?_
      refine r_iload_n 2 dX3_keepLost_41 rfl rfl ?_
      refine xl_69 b5 dX3_keepLost_42 ?_
      refine xt_69 b6 dX3_keepLost_43 ?_
      refine r_iinc 1 [(1, .int (y1 + 1)), (0, .ref (q 3)), (2, .int (y2))] dX3_keepLost_44 rfl rfl (Nat.le_of_ble_eq_true rfl) rfl ?_
      refine r_iinc 2 [(2, .int (y2 + 1)), (1, .int (y1 + 1)), (0, .ref (q 3))] dX3_keepLost_47 rfl rfl (Nat.le_of_ble_eq_true rfl) rfl ?_
      refine r_goto (tgt := 4) dX3_keepLost_50 (by decide) ?_
      refine r_ls [2, 1, 0] (ls2 := [(0, .ref (q 3)), (1, .int (y1 + 1)), (2, .int (y2 + 1))]) rfl ?_
      exact h
abbrev T_Mus_isLost_2 (E : EvT) (q : Nat → Nat) (D : Nat) (P : Bool → StX → Prop) (S : StX) (y1 : Int32) (y2 : Int32) : Prop := RX E q iX_Mus_isLost D (qBx E q P) S [(0, .ref (q 3)), (1, .int (y1)), (2, .int (y2))] [] 2
set_option maxRecDepth 20000 in
theorem en_Mus_isLost {E : EvT} {q : Nat → Nat} {d : Nat} {x1 : Int32} {S : StX} {P : Bool → StX → Prop} (h : T_Mus_isLost_2 E q (d + 3) P S x1 0) : C_Mus_isLost E q (d + 3) x1 S P := by
  refine Cn.of rfl (Nat.le_of_ble_eq_true rfl) (ls := [(0, .ref (q 3)), (1, .int (x1))]) rfl ?_
  refine r_iconst_0 dX3_isLost_0 ?_
  refine r_istore_n [(2, .int (0)), (0, .ref (q 3)), (1, .int (x1))] dX3_isLost_1 rfl (Nat.le_of_ble_eq_true rfl) rfl ?_
  refine r_ls [1, 2, 0] (ls2 := [(0, .ref (q 3)), (1, .int (x1)), (2, .int (0))]) rfl ?_
  exact h
set_option maxRecDepth 20000 in
theorem sg_Mus_isLost_2 {E : EvT} {q : Nat → Nat} {d : Nat} {S : StX} {P : Bool → StX → Prop} {y1 : Int32} {y2 : Int32} (h : ((xs_Mus_things S) ≤ y2 → (P true S)) ∧ (¬ (xs_Mus_things S) ≤ y2 → ((0 ≤ y2 ∧ y2 < 60) ∧ ((¬ (xa_Mus_missing S (ix y2)) = 0 → (T_Mus_isLost_2 E q (d + 3) P S y1 (y2 + 1))) ∧ ((xa_Mus_missing S (ix y2)) = 0 → ((0 ≤ y1 ∧ y1 < 100) ∧ (C_Mus_fits E q (d + 2) (xa_Mus_choice S (ix y1)) y2 (xa_Mus_wanted S (ix y1)) S (fun r5 S6 => (r5 = false → (T_Mus_isLost_2 E q (d + 3) P S6 y1 (y2 + 1))) ∧ (r5 = true → (P false S6)))))))))) : T_Mus_isLost_2 E q (d + 3) P S y1 y2 := by
  refine r_iload_n 2 dX3_isLost_2 rfl rfl ?_
  refine r_aload_n 0 dX3_isLost_3 rfl rfl ?_
  refine xg_3_52 rfl dX3_isLost_4 ?_
  refine r_icmp_ge (tgt := 47) dX3_isLost_7 (by decide) (fun c1 => ?_) (fun c1 => ?_)
  · have h := h.1 c1
    refine r_iconst_1 dX3_isLost_47 ?_
    exact r_zret1 dX3_isLost_48 rfl (Nat.le_refl _) (Nat.le_refl _) ⟨_, _, rfl, rfl, h⟩
  · have h := h.2 c1
    refine r_aload_n 0 dX3_isLost_10 rfl rfl ?_
    refine xg_3_21 rfl dX3_isLost_11 ?_
    refine r_iload_n 2 dX3_isLost_14 rfl rfl ?_
    obtain ⟨b2, h⟩ := h
    refine xl_66 b2 dX3_isLost_15 ?_
    refine r_if_ne (tgt := 41) dX3_isLost_16 (by decide) (fun c3 => ?_) (fun c3 => ?_)
    · have h := h.1 c3
      refine r_iinc 2 [(2, .int (y2 + 1)), (0, .ref (q 3)), (1, .int (y1))] dX3_isLost_41 rfl rfl (Nat.le_of_ble_eq_true rfl) rfl ?_
      refine r_goto (tgt := 2) dX3_isLost_44 (by decide) ?_
      refine r_ls [1, 2, 0] (ls2 := [(0, .ref (q 3)), (1, .int (y1)), (2, .int (y2 + 1))]) rfl ?_
      exact h
    · have h := h.2 c3
      refine r_aload_n 0 dX3_isLost_19 rfl rfl ?_
      refine r_aload_n 0 dX3_isLost_20 rfl rfl ?_
      refine xg_3_25 rfl dX3_isLost_21 ?_
      refine r_iload_n 1 dX3_isLost_24 rfl rfl ?_
      obtain ⟨b4, h⟩ := h
      refine xl_68 b4 dX3_isLost_25 ?_
      refine r_iload_n 2 dX3_isLost_26 rfl rfl ?_
      refine r_aload_n 0 dX3_isLost_27 rfl rfl ?_
      refine xg_3_28 rfl dX3_isLost_28 ?_
      refine r_iload_n 1 dX3_isLost_31 rfl rfl ?_
      refine xl_69 b4 dX3_isLost_32 ?_
      refine K3_Mus_fits rfl (Nat.le_of_ble_eq_true rfl) dX3_isLost_33 (mBx h (fun r5 S6 h => ?_))
      refine r_if_eqb (tgt := 41) dX3_isLost_36 (by decide) (fun c7 => ?_) (fun c7 => ?_)
      · have h := h.1 c7
        refine r_iinc 2 [(2, .int (y2 + 1)), (0, .ref (q 3)), (1, .int (y1))] dX3_isLost_41 rfl rfl (Nat.le_of_ble_eq_true rfl) rfl ?_
        refine r_goto (tgt := 2) dX3_isLost_44 (by decide) ?_
        refine r_ls [1, 2, 0] (ls2 := [(0, .ref (q 3)), (1, .int (y1)), (2, .int (y2 + 1))]) rfl ?_
        exact h
      · have h := h.2 c7
        refine r_iconst_0 dX3_isLost_39 ?_
        exact r_zret0 dX3_isLost_40 rfl (Nat.le_refl _) (Nat.le_refl _) ⟨_, _, rfl, rfl, h⟩
abbrev T_Mus_nextToLook_10 (E : EvT) (q : Nat → Nat) (D : Nat) (P : Int32 → StX → Prop) (S : StX) (y1 : Int32) : Prop := RX E q iX_Mus_nextToLook D (qIx E q P) S [(0, .ref (q 3)), (1, .int (y1))] [] 10
abbrev T_Mus_nextToLook_62 (E : EvT) (q : Nat → Nat) (D : Nat) (P : Int32 → StX → Prop) (S : StX) (y1 : Int32) (y2 : Int32) : Prop := RX E q iX_Mus_nextToLook D (qIx E q P) S [(0, .ref (q 3)), (1, .int (y1)), (2, .int (y2))] [] 62
abbrev T_Mus_nextToLook_26 (E : EvT) (q : Nat → Nat) (D : Nat) (P : Int32 → StX → Prop) (S : StX) (y1 : Int32) (y2 : Int32) (y3 : Int32) : Prop := RX E q iX_Mus_nextToLook D (qIx E q P) S [(0, .ref (q 3)), (1, .int (y1)), (2, .int (y2)), (3, .int (y3))] [] 26
set_option maxRecDepth 20000 in
theorem en_Mus_nextToLook {E : EvT} {q : Nat → Nat} {d : Nat} {S : StX} {P : Int32 → StX → Prop} (h : T_Mus_nextToLook_10 E q (d + 4) P (xA S 74 (fillF 10 0 (xa_Mus_helped S))) 0) : C_Mus_nextToLook E q (d + 4) S P := by
  refine Cn.of rfl (Nat.le_of_ble_eq_true rfl) (ls := [(0, .ref (q 3))]) rfl ?_
  refine r_aload_n 0 dX3_nextToLook_0 rfl rfl ?_
  refine xg_3_41 rfl dX3_nextToLook_1 ?_
  refine r_iconst_0 dX3_nextToLook_4 ?_
  refine KP3_Jfill_74 (d := d + 3) rfl (Nat.le_of_ble_eq_true rfl) dX3_nextToLook_5 ?_
  refine r_iconst_0 dX3_nextToLook_8 ?_
  refine r_istore_n [(1, .int (0)), (0, .ref (q 3))] dX3_nextToLook_9 rfl (Nat.le_of_ble_eq_true rfl) rfl ?_
  refine r_ls [1, 0] (ls2 := [(0, .ref (q 3)), (1, .int (0))]) rfl ?_
  exact h
set_option maxRecDepth 20000 in
theorem sg_Mus_nextToLook_10 {E : EvT} {q : Nat → Nat} {d : Nat} {S : StX} {P : Int32 → StX → Prop} {y1 : Int32} (h : ((xs_Mus_chosen S) ≤ y1 → (T_Mus_nextToLook_62 E q (d + 4) P S (-1) 0)) ∧ (¬ (xs_Mus_chosen S) ≤ y1 → (C_Mus_museumsWithLike E q (d + 3) y1 S (fun r2 S3 => T_Mus_nextToLook_26 E q (d + 4) P S3 y1 r2 0)))) : T_Mus_nextToLook_10 E q (d + 4) P S y1 := by
  refine r_iload_n 1 dX3_nextToLook_10 rfl rfl ?_
  refine r_aload_n 0 dX3_nextToLook_11 rfl rfl ?_
  refine xg_3_80 rfl dX3_nextToLook_12 ?_
  refine r_icmp_ge (tgt := 58) dX3_nextToLook_15 (by decide) (fun c1 => ?_) (fun c1 => ?_)
  · have h := h.1 c1
    refine r_iconst_m1 dX3_nextToLook_58 ?_
    refine r_istore_n [(1, .int ((-1))), (0, .ref (q 3))] dX3_nextToLook_59 rfl (Nat.le_of_ble_eq_true rfl) rfl ?_
    refine r_iconst_0 dX3_nextToLook_60 ?_
    refine r_istore_n [(2, .int (0)), (1, .int ((-1))), (0, .ref (q 3))] dX3_nextToLook_61 rfl (Nat.le_of_ble_eq_true rfl) rfl ?_
    refine r_ls [2, 1, 0] (ls2 := [(0, .ref (q 3)), (1, .int ((-1))), (2, .int (0))]) rfl ?_
    exact h
  · have h := h.2 c1
    refine r_aload_n 0 dX3_nextToLook_18 rfl rfl ?_
    refine r_iload_n 1 dX3_nextToLook_19 rfl rfl ?_
    refine K3_Mus_museumsWithLike rfl (Nat.le_of_ble_eq_true rfl) dX3_nextToLook_20 (mIx h (fun r2 S3 h => ?_))
    refine r_istore_n [(2, .int (r2)), (0, .ref (q 3)), (1, .int (y1))] dX3_nextToLook_23 rfl (Nat.le_of_ble_eq_true rfl) rfl ?_
    refine r_iconst_0 dX3_nextToLook_24 ?_
    refine r_istore_n [(3, .int (0)), (2, .int (r2)), (0, .ref (q 3)), (1, .int (y1))] dX3_nextToLook_25 rfl (Nat.le_of_ble_eq_true rfl) rfl ?_
    refine r_ls [2, 3, 1, 0] (ls2 := [(0, .ref (q 3)), (1, .int (y1)), (2, .int (r2)), (3, .int (0))]) rfl ?_
    exact h
set_option maxRecDepth 20000 in
theorem sg_Mus_nextToLook_62 {E : EvT} {q : Nat → Nat} {d : Nat} {S : StX} {P : Int32 → StX → Prop} {y1 : Int32} {y2 : Int32} (h : (10 ≤ y2 → (P y1 S)) ∧ (¬ 10 ≤ y2 → ((0 ≤ y2 ∧ y2 < 10) ∧ ((¬ y1 = (-1) → ((0 ≤ y1 ∧ y1 < 10) ∧ (((xa_Mus_helped S (ix y2)) ≤ (xa_Mus_helped S (ix y1)) → (T_Mus_nextToLook_62 E q (d + 4) P S y1 (y2 + 1))) ∧ (¬ (xa_Mus_helped S (ix y2)) ≤ (xa_Mus_helped S (ix y1)) → (T_Mus_nextToLook_62 E q (d + 4) P S y2 (y2 + 1)))))) ∧ (y1 = (-1) → (((xa_Mus_helped S (ix y2)) ≤ 0 → (T_Mus_nextToLook_62 E q (d + 4) P S y1 (y2 + 1))) ∧ (¬ (xa_Mus_helped S (ix y2)) ≤ 0 → (T_Mus_nextToLook_62 E q (d + 4) P S y2 (y2 + 1))))))))) : T_Mus_nextToLook_62 E q (d + 4) P S y1 y2 := by
  refine r_iload_n 2 dX3_nextToLook_62 rfl rfl ?_
  refine r_bipush_10 dX3_nextToLook_63 ?_
  refine r_icmp_ge (tgt := 100) dX3_nextToLook_65 (by decide) (fun c1 => ?_) (fun c1 => ?_)
  · have h := h.1 c1
    refine r_iload_n 1 dX3_nextToLook_100 rfl rfl ?_
    exact r_iret dX3_nextToLook_101 rfl (Nat.le_refl _) (Nat.le_refl _) ⟨_, _, rfl, rfl, h⟩
  · have h := h.2 c1
    refine r_aload_n 0 dX3_nextToLook_68 rfl rfl ?_
    refine xg_3_41 rfl dX3_nextToLook_69 ?_
    refine r_iload_n 2 dX3_nextToLook_72 rfl rfl ?_
    obtain ⟨b2, h⟩ := h
    refine xl_74 b2 dX3_nextToLook_73 ?_
    refine r_iload_n 1 dX3_nextToLook_74 rfl rfl ?_
    refine r_iconst_m1 dX3_nextToLook_75 ?_
    refine r_icmp_ne (tgt := 83) dX3_nextToLook_76 (by decide) (fun c3 => ?_) (fun c3 => ?_)
    · have h := h.1 c3
      refine r_aload_n 0 dX3_nextToLook_83 rfl rfl ?_
      refine xg_3_41 rfl dX3_nextToLook_84 ?_
      refine r_iload_n 1 dX3_nextToLook_87 rfl rfl ?_
      obtain ⟨b4, h⟩ := h
      refine xl_74 b4 dX3_nextToLook_88 ?_
      refine r_icmp_le (tgt := 94) dX3_nextToLook_89 (by decide) (fun c5 => ?_) (fun c5 => ?_)
      · have h := h.1 c5
        refine r_iinc 2 [(2, .int (y2 + 1)), (0, .ref (q 3)), (1, .int (y1))] dX3_nextToLook_94 rfl rfl (Nat.le_of_ble_eq_true rfl) rfl ?_
        refine r_goto (tgt := 62) dX3_nextToLook_97 (by decide) ?_
        refine r_ls [1, 2, 0] (ls2 := [(0, .ref (q 3)), (1, .int (y1)), (2, .int (y2 + 1))]) rfl ?_
        exact h
      · have h := h.2 c5
        refine r_iload_n 2 dX3_nextToLook_92 rfl rfl ?_
        refine r_istore_n [(1, .int (y2)), (0, .ref (q 3)), (2, .int (y2))] dX3_nextToLook_93 rfl (Nat.le_of_ble_eq_true rfl) rfl ?_
        refine r_iinc 2 [(2, .int (y2 + 1)), (1, .int (y2)), (0, .ref (q 3))] dX3_nextToLook_94 rfl rfl (Nat.le_of_ble_eq_true rfl) rfl ?_
        refine r_goto (tgt := 62) dX3_nextToLook_97 (by decide) ?_
        refine r_ls [2, 1, 0] (ls2 := [(0, .ref (q 3)), (1, .int (y2)), (2, .int (y2 + 1))]) rfl ?_
        exact h
    · have h := h.2 c3
      refine r_iconst_0 dX3_nextToLook_79 ?_
      refine r_goto (tgt := 89) dX3_nextToLook_80 (by decide) ?_
      refine r_icmp_le (tgt := 94) dX3_nextToLook_89 (by decide) (fun c6 => ?_) (fun c6 => ?_)
      · have h := h.1 c6
        refine r_iinc 2 [(2, .int (y2 + 1)), (0, .ref (q 3)), (1, .int (y1))] dX3_nextToLook_94 rfl rfl (Nat.le_of_ble_eq_true rfl) rfl ?_
        refine r_goto (tgt := 62) dX3_nextToLook_97 (by decide) ?_
        refine r_ls [1, 2, 0] (ls2 := [(0, .ref (q 3)), (1, .int (y1)), (2, .int (y2 + 1))]) rfl ?_
        exact h
      · have h := h.2 c6
        refine r_iload_n 2 dX3_nextToLook_92 rfl rfl ?_
        refine r_istore_n [(1, .int (y2)), (0, .ref (q 3)), (2, .int (y2))] dX3_nextToLook_93 rfl (Nat.le_of_ble_eq_true rfl) rfl ?_
        refine r_iinc 2 [(2, .int (y2 + 1)), (1, .int (y2)), (0, .ref (q 3))] dX3_nextToLook_94 rfl rfl (Nat.le_of_ble_eq_true rfl) rfl ?_
        refine r_goto (tgt := 62) dX3_nextToLook_97 (by decide) ?_
        refine r_ls [2, 1, 0] (ls2 := [(0, .ref (q 3)), (1, .int (y2)), (2, .int (y2 + 1))]) rfl ?_
        exact h
set_option maxRecDepth 20000 in
theorem sg_Mus_nextToLook_26 {E : EvT} {q : Nat → Nat} {d : Nat} {S : StX} {P : Int32 → StX → Prop} {y1 : Int32} {y2 : Int32} {y3 : Int32} (h : (10 ≤ y3 → (T_Mus_nextToLook_10 E q (d + 4) P S (y1 + 1))) ∧ (¬ 10 ≤ y3 → ((0 ≤ y3 ∧ y3 < 10) ∧ (T_Mus_nextToLook_26 E q (d + 4) P (xA S 74 (upd (xa_Mus_helped S) (ix y3) ((xa_Mus_helped S (ix y3)) + ((y2 >>> (y3 &&& 31)) &&& 1)))) y1 y2 (y3 + 1))))) : T_Mus_nextToLook_26 E q (d + 4) P S y1 y2 y3 := by
  refine r_iload_n 3 dX3_nextToLook_26 rfl rfl ?_
  refine r_bipush_10 dX3_nextToLook_27 ?_
  refine r_icmp_ge (tgt := 52) dX3_nextToLook_29 (by decide) (fun c1 => ?_) (fun c1 => ?_)
  · have h := h.1 c1
    refine r_iinc 1 [(1, .int (y1 + 1)), (0, .ref (q 3)), (2, .int (y2)), (3, .int (y3))] dX3_nextToLook_52 rfl rfl (Nat.le_of_ble_eq_true rfl) rfl ?_
    refine r_goto (tgt := 10) dX3_nextToLook_55 (by decide) ?_
    refine r_ls [1, 0] (ls2 := [(0, .ref (q 3)), (1, .int (y1 + 1))]) rfl ?_
    exact h
  · have h := h.2 c1
    refine r_aload_n 0 dX3_nextToLook_32 rfl rfl ?_
    refine xg_3_41 rfl dX3_nextToLook_33 ?_
    refine r_iload_n 3 dX3_nextToLook_36 rfl rfl ?_
    refine r_dup2 dX3_nextToLook_37 rfl rfl ?_
    obtain ⟨b2, h⟩ := h
    refine xl_74 b2 dX3_nextToLook_38 ?_
    refine r_iload_n 2 dX3_nextToLook_39 rfl rfl ?_
    refine r_iload_n 3 dX3_nextToLook_40 rfl rfl ?_
    refine r_ishr dX3_nextToLook_41 ?_
    refine r_iconst_1 dX3_nextToLook_42 ?_
    refine r_iand dX3_nextToLook_43 ?_
    refine r_iadd dX3_nextToLook_44 ?_
    refine xt_74 b2 dX3_nextToLook_45 ?_
    refine r_iinc 3 [(3, .int (y3 + 1)), (0, .ref (q 3)), (1, .int (y1)), (2, .int (y2))] dX3_nextToLook_46 rfl rfl (Nat.le_of_ble_eq_true rfl) rfl ?_
    refine r_goto (tgt := 26) dX3_nextToLook_49 (by decide) ?_
    refine r_ls [1, 2, 3, 0] (ls2 := [(0, .ref (q 3)), (1, .int (y1)), (2, .int (y2)), (3, .int (y3 + 1))]) rfl ?_
    exact h
abbrev T_Mus_museumsWithLike_4 (E : EvT) (q : Nat → Nat) (D : Nat) (P : Int32 → StX → Prop) (S : StX) (y1 : Int32) (y2 : Int32) (y3 : Int32) : Prop := RX E q iX_Mus_museumsWithLike D (qIx E q P) S [(0, .ref (q 3)), (1, .int (y1)), (2, .int (y2)), (3, .int (y3))] [] 4
set_option maxRecDepth 20000 in
theorem en_Mus_museumsWithLike {E : EvT} {q : Nat → Nat} {d : Nat} {x1 : Int32} {S : StX} {P : Int32 → StX → Prop} (h : T_Mus_museumsWithLike_4 E q (d + 3) P S x1 0 0) : C_Mus_museumsWithLike E q (d + 3) x1 S P := by
  refine Cn.of rfl (Nat.le_of_ble_eq_true rfl) (ls := [(0, .ref (q 3)), (1, .int (x1))]) rfl ?_
  refine r_iconst_0 dX3_museumsWithLike_0 ?_
  refine r_istore_n [(2, .int (0)), (0, .ref (q 3)), (1, .int (x1))] dX3_museumsWithLike_1 rfl (Nat.le_of_ble_eq_true rfl) rfl ?_
  refine r_iconst_0 dX3_museumsWithLike_2 ?_
  refine r_istore_n [(3, .int (0)), (2, .int (0)), (0, .ref (q 3)), (1, .int (x1))] dX3_museumsWithLike_3 rfl (Nat.le_of_ble_eq_true rfl) rfl ?_
  refine r_ls [2, 3, 1, 0] (ls2 := [(0, .ref (q 3)), (1, .int (x1)), (2, .int (0)), (3, .int (0))]) rfl ?_
  exact h
set_option maxRecDepth 20000 in
theorem sg_Mus_museumsWithLike_4 {E : EvT} {q : Nat → Nat} {d : Nat} {S : StX} {P : Int32 → StX → Prop} {y1 : Int32} {y2 : Int32} {y3 : Int32} (h : ((xs_Mus_things S) ≤ y3 → (P y2 S)) ∧ (¬ (xs_Mus_things S) ≤ y3 → ((0 ≤ y1 ∧ y1 < 100) ∧ (C_Mus_fits E q (d + 2) (xa_Mus_choice S (ix y1)) y3 (xa_Mus_wanted S (ix y1)) S (fun r3 S4 => (r3 = false → (T_Mus_museumsWithLike_4 E q (d + 3) P S4 y1 y2 (y3 + 1))) ∧ (r3 = true → ((0 ≤ y3 ∧ y3 < 60) ∧ (T_Mus_museumsWithLike_4 E q (d + 3) P S4 y1 (y2 ||| ((1 : Int32) <<< ((xa_Mus_museum S4 (ix y3)) &&& 31))) (y3 + 1))))))))) : T_Mus_museumsWithLike_4 E q (d + 3) P S y1 y2 y3 := by
  refine r_iload_n 3 dX3_museumsWithLike_4 rfl rfl ?_
  refine r_aload_n 0 dX3_museumsWithLike_5 rfl rfl ?_
  refine xg_3_52 rfl dX3_museumsWithLike_6 ?_
  refine r_icmp_ge (tgt := 49) dX3_museumsWithLike_9 (by decide) (fun c1 => ?_) (fun c1 => ?_)
  · have h := h.1 c1
    refine r_iload_n 2 dX3_museumsWithLike_49 rfl rfl ?_
    exact r_iret dX3_museumsWithLike_50 rfl (Nat.le_refl _) (Nat.le_refl _) ⟨_, _, rfl, rfl, h⟩
  · have h := h.2 c1
    refine r_aload_n 0 dX3_museumsWithLike_12 rfl rfl ?_
    refine r_aload_n 0 dX3_museumsWithLike_13 rfl rfl ?_
    refine xg_3_25 rfl dX3_museumsWithLike_14 ?_
    refine r_iload_n 1 dX3_museumsWithLike_17 rfl rfl ?_
    obtain ⟨b2, h⟩ := h
    refine xl_68 b2 dX3_museumsWithLike_18 ?_
    refine r_iload_n 3 dX3_museumsWithLike_19 rfl rfl ?_
    refine r_aload_n 0 dX3_museumsWithLike_20 rfl rfl ?_
    refine xg_3_28 rfl dX3_museumsWithLike_21 ?_
    refine r_iload_n 1 dX3_museumsWithLike_24 rfl rfl ?_
    refine xl_69 b2 dX3_museumsWithLike_25 ?_
    refine K3_Mus_fits rfl (Nat.le_of_ble_eq_true rfl) dX3_museumsWithLike_26 (mBx h (fun r3 S4 h => ?_))
    refine r_if_eqb (tgt := 43) dX3_museumsWithLike_29 (by decide) (fun c5 => ?_) (fun c5 => ?_)
    · have h := h.1 c5
      refine r_iinc 3 [(3, .int (y3 + 1)), (0, .ref (q 3)), (1, .int (y1)), (2, .int (y2))] dX3_museumsWithLike_43 rfl rfl (Nat.le_of_ble_eq_true rfl) rfl ?_
      refine r_goto (tgt := 4) dX3_museumsWithLike_46 (by decide) ?_
      refine r_ls [1, 2, 3, 0] (ls2 := [(0, .ref (q 3)), (1, .int (y1)), (2, .int (y2)), (3, .int (y3 + 1))]) rfl ?_
      exact h
    · have h := h.2 c5
      refine r_iload_n 2 dX3_museumsWithLike_32 rfl rfl ?_
      refine r_iconst_1 dX3_museumsWithLike_33 ?_
      refine r_aload_n 0 dX3_museumsWithLike_34 rfl rfl ?_
      refine xg_3_11 rfl dX3_museumsWithLike_35 ?_
      refine r_iload_n 3 dX3_museumsWithLike_38 rfl rfl ?_
      obtain ⟨b6, h⟩ := h
      refine xl_63 b6 dX3_museumsWithLike_39 ?_
      refine r_ishl dX3_museumsWithLike_40 ?_
      refine r_ior dX3_museumsWithLike_41 ?_
      refine r_istore_n [(2, .int (y2 ||| ((1 : Int32) <<< ((xa_Mus_museum S4 (ix y3)) &&& 31)))), (0, .ref (q 3)), (1, .int (y1)), (3, .int (y3))] dX3_museumsWithLike_42 rfl (Nat.le_of_ble_eq_true rfl) rfl ?_
      refine r_iinc 3 [(3, .int (y3 + 1)), (2, .int (y2 ||| ((1 : Int32) <<< ((xa_Mus_museum S4 (ix y3)) &&& 31)))), (0, .ref (q 3)), (1, .int (y1))] dX3_museumsWithLike_43 rfl rfl (Nat.le_of_ble_eq_true rfl) rfl ?_
      refine r_goto (tgt := 4) dX3_museumsWithLike_46 (by decide) ?_
      refine r_ls [2, 3, 1, 0] (ls2 := [(0, .ref (q 3)), (1, .int (y1)), (2, .int (y2 ||| ((1 : Int32) <<< ((xa_Mus_museum S4 (ix y3)) &&& 31)))), (3, .int (y3 + 1))]) rfl ?_
      exact h
set_option maxRecDepth 20000 in
theorem en_Plan_resize {E : EvT} {q : Nat → Nat} {d : Nat} {x1 : Int32} {x2 : Int32} {S : StX} {P : StX → Prop} (h : P (xI (xI S 80 x1) 81 x2)) : C_Plan_resize E q d x1 x2 S P := by
  refine Cn.of rfl (Nat.le_of_ble_eq_true rfl) (ls := [(0, .ref (q 4)), (1, .int (x1)), (2, .int (x2))]) rfl ?_
  refine r_aload_n 0 dX4_resize_0 rfl rfl ?_
  refine r_iload_n 1 dX4_resize_1 rfl rfl ?_
  refine xq_4_9 rfl dX4_resize_2 ?_
  refine r_aload_n 0 dX4_resize_5 rfl rfl ?_
  refine r_iload_n 2 dX4_resize_6 rfl rfl ?_
  refine xq_4_15 rfl dX4_resize_7 ?_
  exact r_vret dX4_resize_10 rfl (Nat.le_refl _) (Nat.le_refl _) ⟨_, rfl, rfl, h⟩
set_option maxRecDepth 20000 in
theorem en_Plan_isTaken {E : EvT} {q : Nat → Nat} {d : Nat} {x1 : Int32} {x2 : Int32} {S : StX} {P : Bool → StX → Prop} (h : C_Plan_placesIn E q (d + 2) x1 x2 S (fun r1 S2 => (r1 = 0 → (P false S2)) ∧ (¬ r1 = 0 → (P true S2)))) : C_Plan_isTaken E q (d + 3) x1 x2 S P := by
  refine Cn.of rfl (Nat.le_of_ble_eq_true rfl) (ls := [(0, .ref (q 4)), (1, .int (x1)), (2, .int (x2))]) rfl ?_
  refine r_aload_n 0 dX4_isTaken_0 rfl rfl ?_
  refine r_iload_n 1 dX4_isTaken_1 rfl rfl ?_
  refine r_iload_n 2 dX4_isTaken_2 rfl rfl ?_
  refine K4_Plan_placesIn rfl (Nat.le_of_ble_eq_true rfl) dX4_isTaken_3 (mIx h (fun r1 S2 h => ?_))
  refine r_if_eq (tgt := 13) dX4_isTaken_6 (by decide) (fun c3 => ?_) (fun c3 => ?_)
  · have h := h.1 c3
    refine r_iconst_0 dX4_isTaken_13 ?_
    exact r_zret0 dX4_isTaken_14 rfl (Nat.le_refl _) (Nat.le_refl _) ⟨_, _, rfl, rfl, h⟩
  · have h := h.2 c3
    refine r_iconst_1 dX4_isTaken_9 ?_
    refine r_goto (tgt := 14) dX4_isTaken_10 (by decide) ?_
    exact r_zret1 dX4_isTaken_14 rfl (Nat.le_refl _) (Nat.le_refl _) ⟨_, _, rfl, rfl, h⟩
abbrev T_Plan_placesIn_5 (E : EvT) (q : Nat → Nat) (D : Nat) (P : Int32 → StX → Prop) (S : StX) (y1 : Int32) (y2 : Int32) (y3 : Int32) (y4 : Int32) : Prop := RX E q iX_Plan_placesIn D (qIx E q P) S [(0, .ref (q 4)), (1, .int (y1)), (2, .int (y2)), (3, .int (y3)), (4, .int (y4))] [] 5
set_option maxRecDepth 20000 in
theorem en_Plan_placesIn {E : EvT} {q : Nat → Nat} {d : Nat} {x1 : Int32} {x2 : Int32} {S : StX} {P : Int32 → StX → Prop} (h : T_Plan_placesIn_5 E q (d + 2) P S x1 x2 0 0) : C_Plan_placesIn E q (d + 2) x1 x2 S P := by
  refine Cn.of rfl (Nat.le_of_ble_eq_true rfl) (ls := [(0, .ref (q 4)), (1, .int (x1)), (2, .int (x2))]) rfl ?_
  refine r_iconst_0 dX4_placesIn_0 ?_
  refine r_istore_n [(3, .int (0)), (0, .ref (q 4)), (1, .int (x1)), (2, .int (x2))] dX4_placesIn_1 rfl (Nat.le_of_ble_eq_true rfl) rfl ?_
  refine r_iconst_0 dX4_placesIn_2 ?_
  refine r_istore [(4, .int (0)), (3, .int (0)), (0, .ref (q 4)), (1, .int (x1)), (2, .int (x2))] dX4_placesIn_3 (Nat.le_of_ble_eq_true rfl) rfl ?_
  refine r_ls [2, 3, 4, 1, 0] (ls2 := [(0, .ref (q 4)), (1, .int (x1)), (2, .int (x2)), (3, .int (0)), (4, .int (0))]) rfl ?_
  exact h
set_option maxRecDepth 20000 in
theorem sg_Plan_placesIn_5 {E : EvT} {q : Nat → Nat} {d : Nat} {S : StX} {P : Int32 → StX → Prop} {y1 : Int32} {y2 : Int32} {y3 : Int32} {y4 : Int32} (h : ((xs_Plan_places S) ≤ y4 → (P y3 S)) ∧ (¬ (xs_Plan_places S) ≤ y4 → ((0 ≤ y4 ∧ y4 < 30) ∧ (((pMeet S y1 y2 (xa_Plan_upperLeft S (ix y4)) (xa_Plan_lowerRight S (ix y4))) = false → (T_Plan_placesIn_5 E q (d + 2) P S y1 y2 y3 (y4 + 1))) ∧ ((pMeet S y1 y2 (xa_Plan_upperLeft S (ix y4)) (xa_Plan_lowerRight S (ix y4))) = true → (T_Plan_placesIn_5 E q (d + 2) P S y1 y2 (y3 ||| ((1 : Int32) <<< (y4 &&& 31))) (y4 + 1))))))) : T_Plan_placesIn_5 E q (d + 2) P S y1 y2 y3 y4 := by
  refine r_iload 4 dX4_placesIn_5 rfl ?_
  refine r_aload_n 0 dX4_placesIn_7 rfl rfl ?_
  refine xg_4_59 rfl dX4_placesIn_8 ?_
  refine r_icmp_ge (tgt := 50) dX4_placesIn_11 (by decide) (fun c1 => ?_) (fun c1 => ?_)
  · have h := h.1 c1
    refine r_iload_n 3 dX4_placesIn_50 rfl rfl ?_
    exact r_iret dX4_placesIn_51 rfl (Nat.le_refl _) (Nat.le_refl _) ⟨_, _, rfl, rfl, h⟩
  · have h := h.2 c1
    refine r_aload_n 0 dX4_placesIn_14 rfl rfl ?_
    refine r_iload_n 1 dX4_placesIn_15 rfl rfl ?_
    refine r_iload_n 2 dX4_placesIn_16 rfl rfl ?_
    refine r_aload_n 0 dX4_placesIn_17 rfl rfl ?_
    refine xg_4_22 rfl dX4_placesIn_18 ?_
    refine r_iload 4 dX4_placesIn_21 rfl ?_
    obtain ⟨b2, h⟩ := h
    refine xl_84 b2 dX4_placesIn_23 ?_
    refine r_aload_n 0 dX4_placesIn_24 rfl rfl ?_
    refine xg_4_25 rfl dX4_placesIn_25 ?_
    refine r_iload 4 dX4_placesIn_28 rfl ?_
    refine xl_85 b2 dX4_placesIn_30 ?_
    refine KP4_Plan_meet (d := d + 0)  rfl (Nat.le_of_ble_eq_true rfl) dX4_placesIn_31 ?_
    refine r_if_eqb (tgt := 44) dX4_placesIn_34 (by decide) (fun c3 => ?_) (fun c3 => ?_)
    · have h := h.1 c3
      refine r_iinc 4 [(4, .int (y4 + 1)), (0, .ref (q 4)), (1, .int (y1)), (2, .int (y2)), (3, .int (y3))] dX4_placesIn_44 rfl rfl (Nat.le_of_ble_eq_true rfl) rfl ?_
      refine r_goto (tgt := 5) dX4_placesIn_47 (by decide) ?_
      refine r_ls [1, 2, 3, 4, 0] (ls2 := [(0, .ref (q 4)), (1, .int (y1)), (2, .int (y2)), (3, .int (y3)), (4, .int (y4 + 1))]) rfl ?_
      exact h
    · have h := h.2 c3
      refine r_iload_n 3 dX4_placesIn_37 rfl rfl ?_
      refine r_iconst_1 dX4_placesIn_38 ?_
      refine r_iload 4 dX4_placesIn_39 rfl ?_
      refine r_ishl dX4_placesIn_41 ?_
      refine r_ior dX4_placesIn_42 ?_
      refine r_istore_n [(3, .int (y3 ||| ((1 : Int32) <<< (y4 &&& 31)))), (0, .ref (q 4)), (1, .int (y1)), (2, .int (y2)), (4, .int (y4))] dX4_placesIn_43 rfl (Nat.le_of_ble_eq_true rfl) rfl ?_
      refine r_iinc 4 [(4, .int (y4 + 1)), (3, .int (y3 ||| ((1 : Int32) <<< (y4 &&& 31)))), (0, .ref (q 4)), (1, .int (y1)), (2, .int (y2))] dX4_placesIn_44 rfl rfl (Nat.le_of_ble_eq_true rfl) rfl ?_
      refine r_goto (tgt := 5) dX4_placesIn_47 (by decide) ?_
      refine r_ls [2, 3, 4, 1, 0] (ls2 := [(0, .ref (q 4)), (1, .int (y1)), (2, .int (y2)), (3, .int (y3 ||| ((1 : Int32) <<< (y4 &&& 31)))), (4, .int (y4 + 1))]) rfl ?_
      exact h
set_option maxRecDepth 20000 in
theorem en_Plan_owner {E : EvT} {q : Nat → Nat} {d : Nat} {x1 : Int32} {S : StX} {P : Int32 → StX → Prop} (h : C_Plan_placesIn E q (d + 2) x1 x1 S (fun r1 S2 => (¬ r1 = 0 → (C_Jntz E q (d + 2) r1 S2 (fun r4 S5 => P r4 S5))) ∧ (r1 = 0 → (P (-1) S2)))) : C_Plan_owner E q (d + 3) x1 S P := by
  refine Cn.of rfl (Nat.le_of_ble_eq_true rfl) (ls := [(0, .ref (q 4)), (1, .int (x1))]) rfl ?_
  refine r_aload_n 0 dX4_owner_0 rfl rfl ?_
  refine r_iload_n 1 dX4_owner_1 rfl rfl ?_
  refine r_iload_n 1 dX4_owner_2 rfl rfl ?_
  refine K4_Plan_placesIn rfl (Nat.le_of_ble_eq_true rfl) dX4_owner_3 (mIx h (fun r1 S2 h => ?_))
  refine r_istore_n [(2, .int (r1)), (0, .ref (q 4)), (1, .int (x1))] dX4_owner_6 rfl (Nat.le_of_ble_eq_true rfl) rfl ?_
  refine r_iload_n 0 dX4_owner_7 rfl rfl ?_
  refine r_if_ne (tgt := 15) dX4_owner_8 (by decide) (fun c3 => ?_) (fun c3 => ?_)
  · have h := h.1 c3
    refine r_iload_n 0 dX4_owner_15 rfl rfl ?_
    refine K4_Jntz rfl (Nat.le_of_ble_eq_true rfl) dX4_owner_16 (mIx h (fun r4 S5 h => ?_))
    exact r_iret dX4_owner_19 rfl (Nat.le_refl _) (Nat.le_refl _) ⟨_, _, rfl, rfl, h⟩
  · have h := h.2 c3
    refine r_iconst_m1 dX4_owner_11 ?_
    refine r_goto (tgt := 19) dX4_owner_12 (by decide) ?_
    exact r_iret dX4_owner_19 rfl (Nat.le_refl _) (Nat.le_refl _) ⟨_, _, rfl, rfl, h⟩
set_option maxRecDepth 20000 in
theorem en_Plan_add {E : EvT} {q : Nat → Nat} {d : Nat} {x1 : Int32} {x2 : Int32} {x3 : Int32} {S : StX} {P : Int32 → StX → Prop} (h : (0 ≤ (xs_Plan_places S) ∧ (xs_Plan_places S) < 30) ∧ (P (((xs_Plan_places S) + 1) - 1) (xI (xA (xA (xA S 83 (upd (xa_Plan_kind S) (ix (xs_Plan_places S)) x1)) 84 (upd (xa_Plan_upperLeft S) (ix (xs_Plan_places S)) x2)) 85 (upd (xa_Plan_lowerRight S) (ix (xs_Plan_places S)) x3)) 82 ((xs_Plan_places S) + 1)))) : C_Plan_add E q d x1 x2 x3 S P := by
  refine Cn.of rfl (Nat.le_of_ble_eq_true rfl) (ls := [(0, .ref (q 4)), (1, .int (x1)), (2, .int (x2)), (3, .int (x3))]) rfl ?_
  refine r_aload_n 0 dX4_add_0 rfl rfl ?_
  refine xg_4_18 rfl dX4_add_1 ?_
  refine r_aload_n 0 dX4_add_4 rfl rfl ?_
  refine xg_4_59 rfl dX4_add_5 ?_
  refine r_iload_n 1 dX4_add_8 rfl rfl ?_
  obtain ⟨b1, h⟩ := h
  refine xt_83 b1 dX4_add_9 ?_
  refine r_aload_n 0 dX4_add_10 rfl rfl ?_
  refine xg_4_22 rfl dX4_add_11 ?_
  refine r_aload_n 0 dX4_add_14 rfl rfl ?_
  refine xg_4_59 rfl dX4_add_15 ?_
  refine r_iload_n 2 dX4_add_18 rfl rfl ?_
  refine xt_84 b1 dX4_add_19 ?_
  refine r_aload_n 0 dX4_add_20 rfl rfl ?_
  refine xg_4_25 rfl dX4_add_21 ?_
  refine r_aload_n 0 dX4_add_24 rfl rfl ?_
  refine xg_4_59 rfl dX4_add_25 ?_
  refine r_iload_n 3 dX4_add_28 rfl rfl ?_
  refine xt_85 b1 dX4_add_29 ?_
  refine r_aload_n 0 dX4_add_30 rfl rfl ?_
  refine r_dup dX4_add_31 rfl ?_
  refine xg_4_59 rfl dX4_add_32 ?_
  refine r_iconst_1 dX4_add_35 ?_
  refine r_iadd dX4_add_36 ?_
  refine xq_4_59 rfl dX4_add_37 ?_
  refine r_aload_n 0 dX4_add_40 rfl rfl ?_
  refine xg_4_59 rfl dX4_add_41 ?_
  refine r_iconst_1 dX4_add_44 ?_
  refine r_isub dX4_add_45 ?_
  exact r_iret dX4_add_46 rfl (Nat.le_refl _) (Nat.le_refl _) ⟨_, _, rfl, rfl, h⟩
set_option maxRecDepth 20000 in
theorem en_Plan_tell {E : EvT} {q : Nat → Nat} {d : Nat} {x1 : Int32} {x2 : Int32} {x3 : Int32} {x4 : Int32} {x5 : Int32} {S : StX} {P : StX → Prop} (h : (0 ≤ (xs_Plan_tellings S) ∧ (xs_Plan_tellings S) < 200) ∧ (P (xI (xA (xA (xA (xA S 87 (upd (xa_Plan_toldKey S) (ix (xs_Plan_tellings S)) (pKey x1 x2))) 88 (upd (xa_Plan_toldPlace S) (ix (xs_Plan_tellings S)) x3)) 89 (upd (xa_Plan_from S) (ix (xs_Plan_tellings S)) x4)) 90 (upd (xa_Plan_to S) (ix (xs_Plan_tellings S)) x5)) 86 ((xs_Plan_tellings S) + 1)))) : C_Plan_tell E q (d + 1) x1 x2 x3 x4 x5 S P := by
  refine Cn.of rfl (Nat.le_of_ble_eq_true rfl) (ls := [(0, .ref (q 4)), (1, .int (x1)), (2, .int (x2)), (3, .int (x3)), (4, .int (x4)), (5, .int (x5))]) rfl ?_
  refine r_aload_n 0 dX4_tell_0 rfl rfl ?_
  refine xg_4_28 rfl dX4_tell_1 ?_
  refine r_aload_n 0 dX4_tell_4 rfl rfl ?_
  refine xg_4_71 rfl dX4_tell_5 ?_
  refine r_iload_n 1 dX4_tell_8 rfl rfl ?_
  refine r_iload_n 2 dX4_tell_9 rfl rfl ?_
  refine KP4_Plan_key (d := d + 0)  rfl (Nat.le_of_ble_eq_true rfl) dX4_tell_10 ?_
  obtain ⟨b1, h⟩ := h
  refine xt_87 b1 dX4_tell_13 ?_
  refine r_aload_n 0 dX4_tell_14 rfl rfl ?_
  refine xg_4_31 rfl dX4_tell_15 ?_
  refine r_aload_n 0 dX4_tell_18 rfl rfl ?_
  refine xg_4_71 rfl dX4_tell_19 ?_
  refine r_iload_n 3 dX4_tell_22 rfl rfl ?_
  refine xt_88 b1 dX4_tell_23 ?_
  refine r_aload_n 0 dX4_tell_24 rfl rfl ?_
  refine xg_4_34 rfl dX4_tell_25 ?_
  refine r_aload_n 0 dX4_tell_28 rfl rfl ?_
  refine xg_4_71 rfl dX4_tell_29 ?_
  refine r_iload 4 dX4_tell_32 rfl ?_
  refine xt_89 b1 dX4_tell_34 ?_
  refine r_aload_n 0 dX4_tell_35 rfl rfl ?_
  refine xg_4_37 rfl dX4_tell_36 ?_
  refine r_aload_n 0 dX4_tell_39 rfl rfl ?_
  refine xg_4_71 rfl dX4_tell_40 ?_
  refine r_iload 5 dX4_tell_43 rfl ?_
  refine xt_90 b1 dX4_tell_45 ?_
  refine r_aload_n 0 dX4_tell_46 rfl rfl ?_
  refine r_dup dX4_tell_47 rfl ?_
  refine xg_4_71 rfl dX4_tell_48 ?_
  refine r_iconst_1 dX4_tell_51 ?_
  refine r_iadd dX4_tell_52 ?_
  refine xq_4_71 rfl dX4_tell_53 ?_
  exact r_vret dX4_tell_56 rfl (Nat.le_refl _) (Nat.le_refl _) ⟨_, rfl, rfl, h⟩
abbrev T_Plan_meant_15 (E : EvT) (q : Nat → Nat) (D : Nat) (P : Int32 → StX → Prop) (S : StX) (y3 : Int32) (y4 : Int32) (y5 : Int32) : Prop := RX E q iX_Plan_meant D (qIx E q P) S [(0, .ref (q 4)), (3, .int (y3)), (4, .int (y4)), (5, .int (y5))] [] 15
set_option maxRecDepth 20000 in
theorem en_Plan_meant {E : EvT} {q : Nat → Nat} {d : Nat} {x1 : Int32} {x2 : Int32} {x3 : Int32} {S : StX} {P : Int32 → StX → Prop} (h : T_Plan_meant_15 E q (d + 1) P S x3 (pKey x1 x2) ((xs_Plan_tellings S) - 1)) : C_Plan_meant E q (d + 1) x1 x2 x3 S P := by
  refine Cn.of rfl (Nat.le_of_ble_eq_true rfl) (ls := [(0, .ref (q 4)), (1, .int (x1)), (2, .int (x2)), (3, .int (x3))]) rfl ?_
  refine r_iload_n 1 dX4_meant_0 rfl rfl ?_
  refine r_iload_n 2 dX4_meant_1 rfl rfl ?_
  refine KP4_Plan_key (d := d + 0)  rfl (Nat.le_of_ble_eq_true rfl) dX4_meant_2 ?_
  refine r_istore [(4, .int ((pKey x1 x2))), (0, .ref (q 4)), (1, .int (x1)), (2, .int (x2)), (3, .int (x3))] dX4_meant_5 (Nat.le_of_ble_eq_true rfl) rfl ?_
  refine r_aload_n 1 dX4_meant_7 rfl rfl ?_
  refine xg_4_71 rfl dX4_meant_8 ?_
  refine r_iconst_1 dX4_meant_11 ?_
  refine r_isub dX4_meant_12 ?_
  refine r_istore [(5, .int ((xs_Plan_tellings S) - 1)), (4, .int ((pKey x1 x2))), (0, .ref (q 4)), (1, .int (x1)), (2, .int (x2)), (3, .int (x3))] dX4_meant_13 (Nat.le_of_ble_eq_true rfl) rfl ?_
  refine r_ls [2, 5, 1, 0] (ls2 := [(0, .ref (q 4)), (3, .int (x3)), (4, .int ((pKey x1 x2))), (5, .int ((xs_Plan_tellings S) - 1))]) rfl ?_
  exact h
set_option maxRecDepth 20000 in
theorem sg_Plan_meant_15 {E : EvT} {q : Nat → Nat} {d : Nat} {S : StX} {P : Int32 → StX → Prop} {y3 : Int32} {y4 : Int32} {y5 : Int32} (h : (y5 < 0 → (P (-1) S)) ∧ (¬ y5 < 0 → ((0 ≤ y5 ∧ y5 < 200) ∧ ((¬ (xa_Plan_toldKey S (ix y5)) = y4 → (T_Plan_meant_15 E q (d + 1) P S y3 y4 (y5 + (-1)))) ∧ ((xa_Plan_toldKey S (ix y5)) = y4 → ((y3 < (xa_Plan_from S (ix y5)) → (T_Plan_meant_15 E q (d + 1) P S y3 y4 (y5 + (-1)))) ∧ (¬ y3 < (xa_Plan_from S (ix y5)) → (((xa_Plan_to S (ix y5)) < y3 → (T_Plan_meant_15 E q (d + 1) P S y3 y4 (y5 + (-1)))) ∧ (¬ (xa_Plan_to S (ix y5)) < y3 → (P (xa_Plan_toldPlace S (ix y5)) S)))))))))) : T_Plan_meant_15 E q (d + 1) P S y3 y4 y5 := by
  refine r_iload 3 dX4_meant_15 rfl ?_
  refine r_if_lt (tgt := 68) dX4_meant_17 (by decide) (fun c1 => ?_) (fun c1 => ?_)
  · have h := h.1 c1
    refine r_iconst_m1 dX4_meant_68 ?_
    exact r_iret dX4_meant_69 rfl (Nat.le_refl _) (Nat.le_refl _) ⟨_, _, rfl, rfl, h⟩
  · have h := h.2 c1
    refine r_aload_n 0 dX4_meant_20 rfl rfl ?_
    refine xg_4_28 rfl dX4_meant_21 ?_
    refine r_iload 3 dX4_meant_24 rfl ?_
    obtain ⟨b2, h⟩ := h
    refine xl_87 b2 dX4_meant_26 ?_
    refine r_iload 2 dX4_meant_27 rfl ?_
    refine r_icmp_ne (tgt := 62) dX4_meant_29 (by decide) (fun c3 => ?_) (fun c3 => ?_)
    · have h := h.1 c3
      refine r_iinc 3 [(5, .int (y5 + (-1))), (0, .ref (q 4)), (3, .int (y3)), (4, .int (y4))] dX4_meant_62 rfl rfl (Nat.le_of_ble_eq_true rfl) rfl ?_
      refine r_goto (tgt := 15) dX4_meant_65 (by decide) ?_
      refine r_ls [1, 2, 3, 0] (ls2 := [(0, .ref (q 4)), (3, .int (y3)), (4, .int (y4)), (5, .int (y5 + (-1)))]) rfl ?_
      exact h
    · have h := h.2 c3
      refine r_aload_n 0 dX4_meant_32 rfl rfl ?_
      refine xg_4_34 rfl dX4_meant_33 ?_
      refine r_iload 3 dX4_meant_36 rfl ?_
      refine xl_89 b2 dX4_meant_38 ?_
      refine r_iload_n 1 dX4_meant_39 rfl rfl ?_
      refine r_icmp_gt (tgt := 62) dX4_meant_40 (by decide) (fun c4 => ?_) (fun c4 => ?_)
      · have h := h.1 c4
        refine r_iinc 3 [(5, .int (y5 + (-1))), (0, .ref (q 4)), (3, .int (y3)), (4, .int (y4))] dX4_meant_62 rfl rfl (Nat.le_of_ble_eq_true rfl) rfl ?_
        refine r_goto (tgt := 15) dX4_meant_65 (by decide) ?_
        refine r_ls [1, 2, 3, 0] (ls2 := [(0, .ref (q 4)), (3, .int (y3)), (4, .int (y4)), (5, .int (y5 + (-1)))]) rfl ?_
        exact h
      · have h := h.2 c4
        refine r_iload_n 1 dX4_meant_43 rfl rfl ?_
        refine r_aload_n 0 dX4_meant_44 rfl rfl ?_
        refine xg_4_37 rfl dX4_meant_45 ?_
        refine r_iload 3 dX4_meant_48 rfl ?_
        refine xl_90 b2 dX4_meant_50 ?_
        refine r_icmp_gt (tgt := 62) dX4_meant_51 (by decide) (fun c5 => ?_) (fun c5 => ?_)
        · have h := h.1 c5
          refine r_iinc 3 [(5, .int (y5 + (-1))), (0, .ref (q 4)), (3, .int (y3)), (4, .int (y4))] dX4_meant_62 rfl rfl (Nat.le_of_ble_eq_true rfl) rfl ?_
          refine r_goto (tgt := 15) dX4_meant_65 (by decide) ?_
          refine r_ls [1, 2, 3, 0] (ls2 := [(0, .ref (q 4)), (3, .int (y3)), (4, .int (y4)), (5, .int (y5 + (-1)))]) rfl ?_
          exact h
        · have h := h.2 c5
          refine r_aload_n 0 dX4_meant_54 rfl rfl ?_
          refine xg_4_31 rfl dX4_meant_55 ?_
          refine r_iload 3 dX4_meant_58 rfl ?_
          refine xl_88 b2 dX4_meant_60 ?_
          exact r_iret dX4_meant_61 rfl (Nat.le_refl _) (Nat.le_refl _) ⟨_, _, rfl, rfl, h⟩
set_option maxRecDepth 20000 in
theorem en_Book_ask {E : EvT} {q : Nat → Nat} {d : Nat} {x1 : Int32} {x2 : Int32} {x3 : Int32} {x4 : Int32} {x5 : Int32} {S : StX} {P : StX → Prop} (h : P (xA (xA (xA (xA (xA S 104 (upd (xa_Book_letters S) (ix 0) x1)) 104 (upd ((upd (xa_Book_letters S) (ix 0) x1)) (ix 1) x2)) 104 (upd ((upd ((upd (xa_Book_letters S) (ix 0) x1)) (ix 1) x2)) (ix 2) x3)) 104 (upd ((upd ((upd ((upd (xa_Book_letters S) (ix 0) x1)) (ix 1) x2)) (ix 2) x3)) (ix 3) x4)) 104 (upd ((upd ((upd ((upd ((upd (xa_Book_letters S) (ix 0) x1)) (ix 1) x2)) (ix 2) x3)) (ix 3) x4)) (ix 4) x5))) : C_Book_ask E q d x1 x2 x3 x4 x5 S P := by
  refine Cn.of rfl (Nat.le_of_ble_eq_true rfl) (ls := [(0, .ref (q 5)), (1, .int (x1)), (2, .int (x2)), (3, .int (x3)), (4, .int (x4)), (5, .int (x5))]) rfl ?_
  refine r_aload_n 0 dX5_ask_0 rfl rfl ?_
  refine xg_5_30 rfl dX5_ask_1 ?_
  refine r_iconst_0 dX5_ask_4 ?_
  refine r_iload_n 1 dX5_ask_5 rfl rfl ?_
  refine xt_104 (by decide) dX5_ask_6 ?_
  refine r_aload_n 0 dX5_ask_7 rfl rfl ?_
  refine xg_5_30 rfl dX5_ask_8 ?_
  refine r_iconst_1 dX5_ask_11 ?_
  refine r_iload_n 2 dX5_ask_12 rfl rfl ?_
  refine xt_104 (by decide) dX5_ask_13 ?_
  refine r_aload_n 0 dX5_ask_14 rfl rfl ?_
  refine xg_5_30 rfl dX5_ask_15 ?_
  refine r_iconst_2 dX5_ask_18 ?_
  refine r_iload_n 3 dX5_ask_19 rfl rfl ?_
  refine xt_104 (by decide) dX5_ask_20 ?_
  refine r_aload_n 0 dX5_ask_21 rfl rfl ?_
  refine xg_5_30 rfl dX5_ask_22 ?_
  refine r_iconst_3 dX5_ask_25 ?_
  refine r_iload 4 dX5_ask_26 rfl ?_
  refine xt_104 (by decide) dX5_ask_28 ?_
  refine r_aload_n 0 dX5_ask_29 rfl rfl ?_
  refine xg_5_30 rfl dX5_ask_30 ?_
  refine r_iconst_4 dX5_ask_33 ?_
  refine r_iload 5 dX5_ask_34 rfl ?_
  refine xt_104 (by decide) dX5_ask_36 ?_
  exact r_vret dX5_ask_37 rfl (Nat.le_refl _) (Nat.le_refl _) ⟨_, rfl, rfl, h⟩
set_option maxRecDepth 20000 in
theorem en_Book_marksWanted {E : EvT} {q : Nat → Nat} {d : Nat} {S : StX} {P : Int32 → StX → Prop} (h : C_Book_highestOf E q (d + 4) 97 8 S (fun r1 S2 => P r1 S2)) : C_Book_marksWanted E q (d + 5) S P := by
  refine Cn.of rfl (Nat.le_of_ble_eq_true rfl) (ls := [(0, .ref (q 5))]) rfl ?_
  refine r_aload_n 0 dX5_marksWanted_0 rfl rfl ?_
  refine r_bipush_97 dX5_marksWanted_1 ?_
  refine r_bipush_8 dX5_marksWanted_3 ?_
  refine K5_Book_highestOf rfl (Nat.le_of_ble_eq_true rfl) dX5_marksWanted_5 (mIx h (fun r1 S2 h => ?_))
  exact r_iret dX5_marksWanted_8 rfl (Nat.le_refl _) (Nat.le_refl _) ⟨_, _, rfl, rfl, h⟩
set_option maxRecDepth 20000 in
theorem en_Book_signWorth {E : EvT} {q : Nat → Nat} {d : Nat} {S : StX} {P : Int32 → StX → Prop} (h : C_Book_highestOf E q (d + 4) 118 0 S (fun r1 S2 => P r1 S2)) : C_Book_signWorth E q (d + 5) S P := by
  refine Cn.of rfl (Nat.le_of_ble_eq_true rfl) (ls := [(0, .ref (q 5))]) rfl ?_
  refine r_aload_n 0 dX5_signWorth_0 rfl rfl ?_
  refine r_bipush_118 dX5_signWorth_1 ?_
  refine r_iconst_0 dX5_signWorth_3 ?_
  refine K5_Book_highestOf rfl (Nat.le_of_ble_eq_true rfl) dX5_signWorth_4 (mIx h (fun r1 S2 h => ?_))
  exact r_iret dX5_signWorth_7 rfl (Nat.le_refl _) (Nat.le_refl _) ⟨_, _, rfl, rfl, h⟩
set_option maxRecDepth 20000 in
theorem en_Book_deepest {E : EvT} {q : Nat → Nat} {d : Nat} {S : StX} {P : Int32 → StX → Prop} (h : C_Book_highestOf E q (d + 4) 102 7 S (fun r1 S2 => P r1 S2)) : C_Book_deepest E q (d + 5) S P := by
  refine Cn.of rfl (Nat.le_of_ble_eq_true rfl) (ls := [(0, .ref (q 5))]) rfl ?_
  refine r_aload_n 0 dX5_deepest_0 rfl rfl ?_
  refine r_bipush_102 dX5_deepest_1 ?_
  refine r_bipush_7 dX5_deepest_3 ?_
  refine K5_Book_highestOf rfl (Nat.le_of_ble_eq_true rfl) dX5_deepest_5 (mIx h (fun r1 S2 h => ?_))
  exact r_iret dX5_deepest_8 rfl (Nat.le_refl _) (Nat.le_refl _) ⟨_, _, rfl, rfl, h⟩
abbrev T_Read_read_41 (E : EvT) (q : Nat → Nat) (D : Nat) (P : Int32 → StX → Prop) (S : StX) (y3 : Int32) : Prop := RX E q iX_Read_read D (qIx E q P) S [(0, .ref (q 6)), (3, .int (y3))] [] 41
set_option maxRecDepth 20000 in
theorem en_Read_read {E : EvT} {q : Nat → Nat} {d : Nat} {x2 : Int32} {S : StX} {P : Int32 → StX → Prop} (h : C_Read_clause E q (d + 9) (xI (xI (xI (xI (xI (xR S 280) 121 (jMin x2 400)) 122 0) 123 0) 124 0) 125 0) (fun S2 => T_Read_read_41 E q (d + 10) P S2 0)) : C_Read_read E q (d + 10) x2 S P := by
  refine Cn.of rfl (Nat.le_of_ble_eq_true rfl) (ls := [(0, .ref (q 6)), (1, .ref (q 280)), (2, .int (x2))]) rfl ?_
  refine r_aload_n 0 dX6_read_0 rfl rfl ?_
  refine r_aload_n 1 dX6_read_1 rfl rfl ?_
  refine xq_6_9 rfl dX6_read_2 ?_
  refine r_aload_n 0 dX6_read_5 rfl rfl ?_
  refine r_iload_n 2 dX6_read_6 rfl rfl ?_
  refine r_aload_n 1 dX6_read_7 rfl rfl ?_
  refine xn_180 dX6_read_8 ?_
  refine KP6_Jmin (d := d + 9)  rfl (Nat.le_of_ble_eq_true rfl) dX6_read_9 ?_
  refine xq_6_37 rfl dX6_read_12 ?_
  refine r_aload_n 0 dX6_read_15 rfl rfl ?_
  refine r_iconst_0 dX6_read_16 ?_
  refine xq_6_41 rfl dX6_read_17 ?_
  refine r_aload_n 0 dX6_read_20 rfl rfl ?_
  refine r_iconst_0 dX6_read_21 ?_
  refine xq_6_44 rfl dX6_read_22 ?_
  refine r_aload_n 0 dX6_read_25 rfl rfl ?_
  refine r_iconst_0 dX6_read_26 ?_
  refine xq_6_47 rfl dX6_read_27 ?_
  refine r_aload_n 0 dX6_read_30 rfl rfl ?_
  refine r_iconst_0 dX6_read_31 ?_
  refine xq_6_50 rfl dX6_read_32 ?_
  refine r_aload_n 0 dX6_read_35 rfl rfl ?_
  refine K6_Read_clause rfl (Nat.le_of_ble_eq_true rfl) dX6_read_36 (mVx h (fun S2 h => ?_))
  refine r_iconst_0 dX6_read_39 ?_
  refine r_istore_n [(3, .int (0)), (0, .ref (q 6)), (1, .ref (q 280)), (2, .int (x2))] dX6_read_40 rfl (Nat.le_of_ble_eq_true rfl) rfl ?_
  refine r_ls [1, 0] (ls2 := [(0, .ref (q 6)), (3, .int (0))]) rfl ?_
  exact h
set_option maxRecDepth 20000 in
theorem sg_Read_read_41 {E : EvT} {q : Nat → Nat} {d : Nat} {S : StX} {P : Int32 → StX → Prop} {y3 : Int32} (h : ((xs_Read_length S) ≤ y3 → (((xs_Read_length S) ≤ (xs_Read_at S) → (P (xs_Read_fault S) S)) ∧ (¬ (xs_Read_length S) ≤ (xs_Read_at S) → (C_Read_refuse E q (d + 9) 1 (xs_Read_at S) S (fun S4 => P (xs_Read_fault S4) S4))))) ∧ (¬ (xs_Read_length S) ≤ y3 → (C_Read_take E q (d + 9) 59 S (fun r5 S6 => (r5 = false → (((xs_Read_length S6) ≤ (xs_Read_at S6) → (P (xs_Read_fault S6) S6)) ∧ (¬ (xs_Read_length S6) ≤ (xs_Read_at S6) → (C_Read_refuse E q (d + 9) 1 (xs_Read_at S6) S6 (fun S10 => P (xs_Read_fault S10) S10))))) ∧ (r5 = true → (C_Read_clause E q (d + 9) S6 (fun S12 => T_Read_read_41 E q (d + 10) P S12 (y3 + 1)))))))) : T_Read_read_41 E q (d + 10) P S y3 := by
  refine r_iload_n 1 dX6_read_41 rfl rfl ?_
  refine r_aload_n 0 dX6_read_42 rfl rfl ?_
  refine xg_6_37 rfl dX6_read_43 ?_
  refine r_icmp_ge (tgt := 68) dX6_read_46 (by decide) (fun c1 => ?_) (fun c1 => ?_)
  · have h := h.1 c1
    refine r_aload_n 0 dX6_read_68 rfl rfl ?_
    refine xg_6_41 rfl dX6_read_69 ?_
    refine r_aload_n 0 dX6_read_72 rfl rfl ?_
    refine xg_6_37 rfl dX6_read_73 ?_
    refine r_icmp_ge (tgt := 88) dX6_read_76 (by decide) (fun c2 => ?_) (fun c2 => ?_)
    · have h := h.1 c2
      refine r_aload_n 0 dX6_read_88 rfl rfl ?_
      refine xg_6_44 rfl dX6_read_89 ?_
      exact r_iret dX6_read_92 rfl (Nat.le_refl _) (Nat.le_refl _) ⟨_, _, rfl, rfl, h⟩
    · have h := h.2 c2
      refine r_aload_n 0 dX6_read_79 rfl rfl ?_
      refine r_iconst_1 dX6_read_80 ?_
      refine r_aload_n 0 dX6_read_81 rfl rfl ?_
      refine xg_6_41 rfl dX6_read_82 ?_
      refine K6_Read_refuse rfl (Nat.le_of_ble_eq_true rfl) dX6_read_85 (mVx h (fun S4 h => ?_))
      refine r_aload_n 0 dX6_read_88 rfl rfl ?_
      refine xg_6_44 rfl dX6_read_89 ?_
      exact r_iret dX6_read_92 rfl (Nat.le_refl _) (Nat.le_refl _) ⟨_, _, rfl, rfl, h⟩
  · have h := h.2 c1
    refine r_aload_n 0 dX6_read_49 rfl rfl ?_
    refine r_bipush_59 dX6_read_50 ?_
    refine K6_Read_take rfl (Nat.le_of_ble_eq_true rfl) dX6_read_52 (mBx h (fun r5 S6 h => ?_))
    refine r_if_eqb (tgt := 68) dX6_read_55 (by decide) (fun c7 => ?_) (fun c7 => ?_)
    · have h := h.1 c7
      refine r_aload_n 0 dX6_read_68 rfl rfl ?_
      refine xg_6_41 rfl dX6_read_69 ?_
      refine r_aload_n 0 dX6_read_72 rfl rfl ?_
      refine xg_6_37 rfl dX6_read_73 ?_
      refine r_icmp_ge (tgt := 88) dX6_read_76 (by decide) (fun c8 => ?_) (fun c8 => ?_)
      · have h := h.1 c8
        refine r_aload_n 0 dX6_read_88 rfl rfl ?_
        refine xg_6_44 rfl dX6_read_89 ?_
        exact r_iret dX6_read_92 rfl (Nat.le_refl _) (Nat.le_refl _) ⟨_, _, rfl, rfl, h⟩
      · have h := h.2 c8
        refine r_aload_n 0 dX6_read_79 rfl rfl ?_
        refine r_iconst_1 dX6_read_80 ?_
        refine r_aload_n 0 dX6_read_81 rfl rfl ?_
        refine xg_6_41 rfl dX6_read_82 ?_
        refine K6_Read_refuse rfl (Nat.le_of_ble_eq_true rfl) dX6_read_85 (mVx h (fun S10 h => ?_))
        refine r_aload_n 0 dX6_read_88 rfl rfl ?_
        refine xg_6_44 rfl dX6_read_89 ?_
        exact r_iret dX6_read_92 rfl (Nat.le_refl _) (Nat.le_refl _) ⟨_, _, rfl, rfl, h⟩
    · have h := h.2 c7
      refine r_aload_n 0 dX6_read_58 rfl rfl ?_
      refine K6_Read_clause rfl (Nat.le_of_ble_eq_true rfl) dX6_read_59 (mVx h (fun S12 h => ?_))
      refine r_iinc 1 [(3, .int (y3 + 1)), (0, .ref (q 6))] dX6_read_62 rfl rfl (Nat.le_of_ble_eq_true rfl) rfl ?_
      refine r_goto (tgt := 41) dX6_read_65 (by decide) ?_
      refine r_ls [1, 0] (ls2 := [(0, .ref (q 6)), (3, .int (y3 + 1))]) rfl ?_
      exact h
set_option maxRecDepth 20000 in
theorem en_Read_clause {E : EvT} {q : Nat → Nat} {d : Nat} {S : StX} {P : StX → Prop} (h : (xs_Read_fault S = 0 → xs_Read_at S < xs_Read_length S → rbX S = 280 ∧ 0 ≤ xs_Read_at S ∧ xs_Read_at S < 400) ∧ (C_Read_highestOf E q (d + 8) (pPeek S) S (fun r2 S3 => (¬ r2 = (-1) → (((xs_Read_clauses S3) < 10 → ((0 ≤ (xs_Read_clauses S3) ∧ (xs_Read_clauses S3) < 10) ∧ (C_Read_digits E q (d + 8) r2 (xA (xI S3 122 ((xs_Read_at S3) + 1)) 126 (upd (xa_Read_letter S3) (ix (xs_Read_clauses S3)) (pPeek S))) (fun r7 S8 => (0 ≤ (xs_Read_clauses S8) ∧ (xs_Read_clauses S8) < 10) ∧ ((¬ (pPeek S) = 120 → (C_Read_take E q (d + 8) 40 (xA (xA S8 127 (upd (xa_Read_value S8) (ix (xs_Read_clauses S3)) r7)) 128 (upd (xa_Read_target S8) (ix (xs_Read_clauses S8)) 0)) (fun r11 S12 => (r11 = false → ((0 ≤ (xs_Read_clauses S12) ∧ (xs_Read_clauses S12) < 10) ∧ (P (xI (xA S12 129 (upd (xa_Read_codeEnd S12) (ix (xs_Read_clauses S12)) (xs_Read_steps S12))) 124 ((xs_Read_clauses S12) + 1))))) ∧ (r11 = true → (C_Read_condition E q (d + 8) 1 S12 (fun S16 => C_Read_expect E q (d + 8) 41 S16 (fun S18 => (0 ≤ (xs_Read_clauses S18) ∧ (xs_Read_clauses S18) < 10) ∧ (P (xI (xA S18 129 (upd (xa_Read_codeEnd S18) (ix (xs_Read_clauses S18)) (xs_Read_steps S18))) 124 ((xs_Read_clauses S18) + 1)))))))))) ∧ ((pPeek S) = 120 → (C_Read_expect E q (d + 8) 46 (xA (xA S8 127 (upd (xa_Read_value S8) (ix (xs_Read_clauses S3)) r7)) 128 (upd (xa_Read_target S8) (ix (xs_Read_clauses S8)) 0)) (fun S21 => C_Read_digits E q (d + 8) 9 S21 (fun r22 S23 => (0 ≤ (xs_Read_clauses S21) ∧ (xs_Read_clauses S21) < 10) ∧ ((0 ≤ (xs_Read_clauses S23) ∧ (xs_Read_clauses S23) < 10) ∧ (P (xI (xA (xA S23 128 (upd (xa_Read_target S23) (ix (xs_Read_clauses S21)) r22)) 129 (upd (xa_Read_codeEnd S23) (ix (xs_Read_clauses S23)) (xs_Read_steps S23))) 124 ((xs_Read_clauses S23) + 1))))))))))))) ∧ (¬ (xs_Read_clauses S3) < 10 → (C_Read_refuse E q (d + 8) 4 (xs_Read_at S3) S3 (fun S27 => P S27))))) ∧ (r2 = (-1) → (C_Read_refuse E q (d + 8) 1 (xs_Read_at S3) S3 (fun S29 => P S29)))))) : C_Read_clause E q (d + 9) S P := by
  refine Cn.of rfl (Nat.le_of_ble_eq_true rfl) (ls := [(0, .ref (q 6))]) rfl ?_
  refine r_aload_n 0 dX6_clause_0 rfl rfl ?_
  obtain ⟨b1, h⟩ := h
  refine KP6_Read_peek (d := d + 8) b1 rfl (Nat.le_of_ble_eq_true rfl) dX6_clause_1 ?_
  refine r_istore_n [(1, .int ((pPeek S))), (0, .ref (q 6))] dX6_clause_4 rfl (Nat.le_of_ble_eq_true rfl) rfl ?_
  refine r_iload_n 0 dX6_clause_5 rfl rfl ?_
  refine K6_Read_highestOf rfl (Nat.le_of_ble_eq_true rfl) dX6_clause_6 (mIx h (fun r2 S3 h => ?_))
  refine r_istore_n [(2, .int (r2)), (1, .int ((pPeek S))), (0, .ref (q 6))] dX6_clause_9 rfl (Nat.le_of_ble_eq_true rfl) rfl ?_
  refine r_iload_n 0 dX6_clause_10 rfl rfl ?_
  refine r_iconst_m1 dX6_clause_11 ?_
  refine r_icmp_ne (tgt := 25) dX6_clause_12 (by decide) (fun c4 => ?_) (fun c4 => ?_)
  · have h := h.1 c4
    refine r_aload_n 2 dX6_clause_25 rfl rfl ?_
    refine xg_6_47 rfl dX6_clause_26 ?_
    refine r_bipush_10 dX6_clause_29 ?_
    refine r_icmp_lt (tgt := 44) dX6_clause_31 (by decide) (fun c5 => ?_) (fun c5 => ?_)
    · have h := h.1 c5
      refine r_aload_n 2 dX6_clause_44 rfl rfl ?_
      refine r_dup dX6_clause_45 rfl ?_
      refine xg_6_41 rfl dX6_clause_46 ?_
      refine r_iconst_1 dX6_clause_49 ?_
      refine r_iadd dX6_clause_50 ?_
      refine xq_6_41 rfl dX6_clause_51 ?_
      refine r_aload_n 2 dX6_clause_54 rfl rfl ?_
      refine xg_6_15 rfl dX6_clause_55 ?_
      refine r_aload_n 2 dX6_clause_58 rfl rfl ?_
      refine xg_6_47 rfl dX6_clause_59 ?_
      refine r_iload_n 1 dX6_clause_62 rfl rfl ?_
      obtain ⟨b6, h⟩ := h
      refine xt_126 b6 dX6_clause_63 ?_
      refine r_aload_n 2 dX6_clause_64 rfl rfl ?_
      refine xg_6_19 rfl dX6_clause_65 ?_
      refine r_aload_n 2 dX6_clause_68 rfl rfl ?_
      refine xg_6_47 rfl dX6_clause_69 ?_
      refine r_aload_n 2 dX6_clause_72 rfl rfl ?_
      refine r_iload_n 0 dX6_clause_73 rfl rfl ?_
      refine K6_Read_digits rfl (Nat.le_of_ble_eq_true rfl) dX6_clause_74 (mIx h (fun r7 S8 h => ?_))
      refine xt_127 b6 dX6_clause_77 ?_
      refine r_aload_n 2 dX6_clause_78 rfl rfl ?_
      refine xg_6_22 rfl dX6_clause_79 ?_
      refine r_aload_n 2 dX6_clause_82 rfl rfl ?_
      refine xg_6_47 rfl dX6_clause_83 ?_
      refine r_iconst_0 dX6_clause_86 ?_
      obtain ⟨b9, h⟩ := h
      refine xt_128 b9 dX6_clause_87 ?_
      refine r_iload_n 1 dX6_clause_88 rfl rfl ?_
      refine r_bipush_120 dX6_clause_89 ?_
      refine r_icmp_ne (tgt := 118) dX6_clause_91 (by decide) (fun c10 => ?_) (fun c10 => ?_)
      · have h := h.1 c10
        refine r_aload_n 2 dX6_clause_118 rfl rfl ?_
        refine r_bipush_40 dX6_clause_119 ?_
        refine K6_Read_take rfl (Nat.le_of_ble_eq_true rfl) dX6_clause_121 (mBx h (fun r11 S12 h => ?_))
        refine r_if_eqb (tgt := 138) dX6_clause_124 (by decide) (fun c13 => ?_) (fun c13 => ?_)
        · have h := h.1 c13
          refine r_aload_n 2 dX6_clause_138 rfl rfl ?_
          refine xg_6_25 rfl dX6_clause_139 ?_
          refine r_aload_n 2 dX6_clause_142 rfl rfl ?_
          refine xg_6_47 rfl dX6_clause_143 ?_
          refine r_aload_n 2 dX6_clause_146 rfl rfl ?_
          refine xg_6_50 rfl dX6_clause_147 ?_
          obtain ⟨b14, h⟩ := h
          refine xt_129 b14 dX6_clause_150 ?_
          refine r_aload_n 2 dX6_clause_151 rfl rfl ?_
          refine r_dup dX6_clause_152 rfl ?_
          refine xg_6_47 rfl dX6_clause_153 ?_
          refine r_iconst_1 dX6_clause_156 ?_
          refine r_iadd dX6_clause_157 ?_
          refine xq_6_47 rfl dX6_clause_158 ?_
          exact r_vret dX6_clause_161 rfl (Nat.le_refl _) (Nat.le_refl _) ⟨_, rfl, rfl, h⟩
        · have h := h.2 c13
          refine r_aload_n 2 dX6_clause_127 rfl rfl ?_
          refine r_iconst_1 dX6_clause_128 ?_
          refine K6_Read_condition rfl (Nat.le_of_ble_eq_true rfl) dX6_clause_129 (mVx h (fun S16 h => ?_))
          refine r_aload_n 2 dX6_clause_132 rfl rfl ?_
          refine r_bipush_41 dX6_clause_133 ?_
          refine K6_Read_expect rfl (Nat.le_of_ble_eq_true rfl) dX6_clause_135 (mVx h (fun S18 h => ?_))
          refine r_aload_n 2 dX6_clause_138 rfl rfl ?_
          refine xg_6_25 rfl dX6_clause_139 ?_
          refine r_aload_n 2 dX6_clause_142 rfl rfl ?_
          refine xg_6_47 rfl dX6_clause_143 ?_
          refine r_aload_n 2 dX6_clause_146 rfl rfl ?_
          refine xg_6_50 rfl dX6_clause_147 ?_
          obtain ⟨b19, h⟩ := h
          refine xt_129 b19 dX6_clause_150 ?_
          refine r_aload_n 2 dX6_clause_151 rfl rfl ?_
          refine r_dup dX6_clause_152 rfl ?_
          refine xg_6_47 rfl dX6_clause_153 ?_
          refine r_iconst_1 dX6_clause_156 ?_
          refine r_iadd dX6_clause_157 ?_
          refine xq_6_47 rfl dX6_clause_158 ?_
          exact r_vret dX6_clause_161 rfl (Nat.le_refl _) (Nat.le_refl _) ⟨_, rfl, rfl, h⟩
      · have h := h.2 c10
        refine r_aload_n 2 dX6_clause_94 rfl rfl ?_
        refine r_bipush_46 dX6_clause_95 ?_
        refine K6_Read_expect rfl (Nat.le_of_ble_eq_true rfl) dX6_clause_97 (mVx h (fun S21 h => ?_))
        refine r_aload_n 2 dX6_clause_100 rfl rfl ?_
        refine xg_6_22 rfl dX6_clause_101 ?_
        refine r_aload_n 2 dX6_clause_104 rfl rfl ?_
        refine xg_6_47 rfl dX6_clause_105 ?_
        refine r_aload_n 2 dX6_clause_108 rfl rfl ?_
        refine r_bipush_9 dX6_clause_109 ?_
        refine K6_Read_digits rfl (Nat.le_of_ble_eq_true rfl) dX6_clause_111 (mIx h (fun r22 S23 h => ?_))
        obtain ⟨b24, h⟩ := h
        refine xt_128 b24 dX6_clause_114 ?_
        refine r_goto (tgt := 138) dX6_clause_115 (by decide) ?_
        refine r_aload_n 2 dX6_clause_138 rfl rfl ?_
        refine xg_6_25 rfl dX6_clause_139 ?_
        refine r_aload_n 2 dX6_clause_142 rfl rfl ?_
        refine xg_6_47 rfl dX6_clause_143 ?_
        refine r_aload_n 2 dX6_clause_146 rfl rfl ?_
        refine xg_6_50 rfl dX6_clause_147 ?_
        obtain ⟨b25, h⟩ := h
        refine xt_129 b25 dX6_clause_150 ?_
        refine r_aload_n 2 dX6_clause_151 rfl rfl ?_
        refine r_dup dX6_clause_152 rfl ?_
        refine xg_6_47 rfl dX6_clause_153 ?_
        refine r_iconst_1 dX6_clause_156 ?_
        refine r_iadd dX6_clause_157 ?_
        refine xq_6_47 rfl dX6_clause_158 ?_
        exact r_vret dX6_clause_161 rfl (Nat.le_refl _) (Nat.le_refl _) ⟨_, rfl, rfl, h⟩
    · have h := h.2 c5
      refine r_aload_n 2 dX6_clause_34 rfl rfl ?_
      refine r_iconst_4 dX6_clause_35 ?_
      refine r_aload_n 2 dX6_clause_36 rfl rfl ?_
      refine xg_6_41 rfl dX6_clause_37 ?_
      refine K6_Read_refuse rfl (Nat.le_of_ble_eq_true rfl) dX6_clause_40 (mVx h (fun S27 h => ?_))
      exact r_vret dX6_clause_43 rfl (Nat.le_refl _) (Nat.le_refl _) ⟨_, rfl, rfl, h⟩
  · have h := h.2 c4
    refine r_aload_n 2 dX6_clause_15 rfl rfl ?_
    refine r_iconst_1 dX6_clause_16 ?_
    refine r_aload_n 2 dX6_clause_17 rfl rfl ?_
    refine xg_6_41 rfl dX6_clause_18 ?_
    refine K6_Read_refuse rfl (Nat.le_of_ble_eq_true rfl) dX6_clause_21 (mVx h (fun S29 h => ?_))
    exact r_vret dX6_clause_24 rfl (Nat.le_refl _) (Nat.le_refl _) ⟨_, rfl, rfl, h⟩
set_option maxRecDepth 20000 in
theorem en_Read_highestOf {E : EvT} {q : Nat → Nat} {d : Nat} {x0 : Int32} {S : StX} {P : Int32 → StX → Prop} (h : (x0 = 97 → (P 8 S)) ∧ (¬ x0 = 97 → ((x0 = 102 → (P 7 S)) ∧ (¬ x0 = 102 → ((x0 = 110 → (P 3 S)) ∧ (¬ x0 = 110 → ((x0 = 118 → (P 99 S)) ∧ (¬ x0 = 118 → ((x0 = 120 → (P 19 S)) ∧ (¬ x0 = 120 → (P (-1) S))))))))))) : C_Read_highestOf E q d x0 S P := by
  refine Cn.of rfl (Nat.le_of_ble_eq_true rfl) (ls := [(0, .int (x0))]) rfl ?_
  refine r_iload_n 0 dX6_highestOf_0 rfl rfl ?_
  by_cases c1 : x0 = 97
  · have h := h.1 c1
    refine r_lookup (tgt := 54) (off := 53) dX6_highestOf_1 (by decide) (by rw [c1]; rfl) (by decide) ?_
    refine r_bipush_8 dX6_highestOf_54 ?_
    exact r_iret dX6_highestOf_56 rfl (Nat.le_refl _) (Nat.le_refl _) ⟨_, _, rfl, rfl, h⟩
  · have h := h.2 c1
    by_cases c2 : x0 = 102
    · have h := h.1 c2
      refine r_lookup (tgt := 60) (off := 59) dX6_highestOf_1 (by decide) (by rw [c2]; rfl) (by decide) ?_
      refine r_bipush_7 dX6_highestOf_60 ?_
      exact r_iret dX6_highestOf_62 rfl (Nat.le_refl _) (Nat.le_refl _) ⟨_, _, rfl, rfl, h⟩
    · have h := h.2 c2
      by_cases c3 : x0 = 110
      · have h := h.1 c3
        refine r_lookup (tgt := 52) (off := 51) dX6_highestOf_1 (by decide) (by rw [c3]; rfl) (by decide) ?_
        refine r_iconst_3 dX6_highestOf_52 ?_
        exact r_iret dX6_highestOf_53 rfl (Nat.le_refl _) (Nat.le_refl _) ⟨_, _, rfl, rfl, h⟩
      · have h := h.2 c3
        by_cases c4 : x0 = 118
        · have h := h.1 c4
          refine r_lookup (tgt := 57) (off := 56) dX6_highestOf_1 (by decide) (by rw [c4]; rfl) (by decide) ?_
          refine r_bipush_99 dX6_highestOf_57 ?_
          exact r_iret dX6_highestOf_59 rfl (Nat.le_refl _) (Nat.le_refl _) ⟨_, _, rfl, rfl, h⟩
        · have h := h.2 c4
          by_cases c5 : x0 = 120
          · have h := h.1 c5
            refine r_lookup (tgt := 63) (off := 62) dX6_highestOf_1 (by decide) (by rw [c5]; rfl) (by decide) ?_
            refine r_bipush_19 dX6_highestOf_63 ?_
            exact r_iret dX6_highestOf_65 rfl (Nat.le_refl _) (Nat.le_refl _) ⟨_, _, rfl, rfl, h⟩
          · have h := h.2 c5
            refine r_lookup (tgt := 66) (off := 65) dX6_highestOf_1 (by decide) (by have e0 : (x0).toInt ≠ 97 := sw_ne c1; have e1 : (x0).toInt ≠ 102 := sw_ne c2; have e2 : (x0).toInt ≠ 110 := sw_ne c3; have e3 : (x0).toInt ≠ 118 := sw_ne c4; have e4 : (x0).toInt ≠ 120 := sw_ne c5; simp [Op.lookupswitch.offset, e0, e0.symm, e1, e1.symm, e2, e2.symm, e3, e3.symm, e4, e4.symm]) (by decide) ?_
            refine r_iconst_m1 dX6_highestOf_66 ?_
            exact r_iret dX6_highestOf_67 rfl (Nat.le_refl _) (Nat.le_refl _) ⟨_, _, rfl, rfl, h⟩
abbrev T_Read_condition_7 (E : EvT) (q : Nat → Nat) (D : Nat) (P : StX → Prop) (S : StX) (y1 : Int32) (y2 : Int32) : Prop := RX E q iX_Read_condition D (qVx E q P) S [(0, .ref (q 6)), (1, .int (y1)), (2, .int (y2))] [] 7
set_option maxRecDepth 20000 in
theorem en_Read_condition {E : EvT} {q : Nat → Nat} {d : Nat} {x1 : Int32} {S : StX} {P : StX → Prop} (h : C_Read_part E q (d + 7) x1 S (fun S2 => T_Read_condition_7 E q (d + 8) P S2 x1 0)) : C_Read_condition E q (d + 8) x1 S P := by
  refine Cn.of rfl (Nat.le_of_ble_eq_true rfl) (ls := [(0, .ref (q 6)), (1, .int (x1))]) rfl ?_
  refine r_aload_n 0 dX6_condition_0 rfl rfl ?_
  refine r_iload_n 1 dX6_condition_1 rfl rfl ?_
  refine K6_Read_part rfl (Nat.le_of_ble_eq_true rfl) dX6_condition_2 (mVx h (fun S2 h => ?_))
  refine r_iconst_0 dX6_condition_5 ?_
  refine r_istore_n [(2, .int (0)), (0, .ref (q 6)), (1, .int (x1))] dX6_condition_6 rfl (Nat.le_of_ble_eq_true rfl) rfl ?_
  refine r_ls [1, 2, 0] (ls2 := [(0, .ref (q 6)), (1, .int (x1)), (2, .int (0))]) rfl ?_
  exact h
set_option maxRecDepth 20000 in
theorem sg_Read_condition_7 {E : EvT} {q : Nat → Nat} {d : Nat} {S : StX} {P : StX → Prop} {y1 : Int32} {y2 : Int32} (h : ((xs_Read_length S) ≤ y2 → (P S)) ∧ (¬ (xs_Read_length S) ≤ y2 → (C_Read_take E q (d + 7) 124 S (fun r2 S3 => (r2 = false → (P S3)) ∧ (r2 = true → (C_Read_write E q (d + 7) (-124) S3 (fun r5 S6 => C_Read_part E q (d + 7) y1 S6 (fun S8 => C_Read_land E q (d + 7) r5 S8 (fun S10 => T_Read_condition_7 E q (d + 8) P S10 y1 (y2 + 1)))))))))) : T_Read_condition_7 E q (d + 8) P S y1 y2 := by
  refine r_iload_n 2 dX6_condition_7 rfl rfl ?_
  refine r_aload_n 0 dX6_condition_8 rfl rfl ?_
  refine xg_6_37 rfl dX6_condition_9 ?_
  refine r_icmp_ge (tgt := 47) dX6_condition_12 (by decide) (fun c1 => ?_) (fun c1 => ?_)
  · have h := h.1 c1
    exact r_vret dX6_condition_47 rfl (Nat.le_refl _) (Nat.le_refl _) ⟨_, rfl, rfl, h⟩
  · have h := h.2 c1
    refine r_aload_n 0 dX6_condition_15 rfl rfl ?_
    refine r_bipush_124 dX6_condition_16 ?_
    refine K6_Read_take rfl (Nat.le_of_ble_eq_true rfl) dX6_condition_18 (mBx h (fun r2 S3 h => ?_))
    refine r_if_eqb (tgt := 47) dX6_condition_21 (by decide) (fun c4 => ?_) (fun c4 => ?_)
    · have h := h.1 c4
      exact r_vret dX6_condition_47 rfl (Nat.le_refl _) (Nat.le_refl _) ⟨_, rfl, rfl, h⟩
    · have h := h.2 c4
      refine r_aload_n 0 dX6_condition_24 rfl rfl ?_
      refine r_bipush_m124 dX6_condition_25 ?_
      refine K6_Read_write rfl (Nat.le_of_ble_eq_true rfl) dX6_condition_27 (mIx h (fun r5 S6 h => ?_))
      refine r_istore_n [(3, .int (r5)), (0, .ref (q 6)), (1, .int (y1)), (2, .int (y2))] dX6_condition_30 rfl (Nat.le_of_ble_eq_true rfl) rfl ?_
      refine r_aload_n 1 dX6_condition_31 rfl rfl ?_
      refine r_iload_n 2 dX6_condition_32 rfl rfl ?_
      refine K6_Read_part rfl (Nat.le_of_ble_eq_true rfl) dX6_condition_33 (mVx h (fun S8 h => ?_))
      refine r_aload_n 1 dX6_condition_36 rfl rfl ?_
      refine r_iload_n 0 dX6_condition_37 rfl rfl ?_
      refine K6_Read_land rfl (Nat.le_of_ble_eq_true rfl) dX6_condition_38 (mVx h (fun S10 h => ?_))
      refine r_iinc 3 [(2, .int (y2 + 1)), (3, .int (r5)), (0, .ref (q 6)), (1, .int (y1))] dX6_condition_41 rfl rfl (Nat.le_of_ble_eq_true rfl) rfl ?_
      refine r_goto (tgt := 7) dX6_condition_44 (by decide) ?_
      refine r_ls [2, 3, 0] (ls2 := [(0, .ref (q 6)), (1, .int (y1)), (2, .int (y2 + 1))]) rfl ?_
      exact h
abbrev T_Read_part_7 (E : EvT) (q : Nat → Nat) (D : Nat) (P : StX → Prop) (S : StX) (y1 : Int32) (y2 : Int32) : Prop := RX E q iX_Read_part D (qVx E q P) S [(0, .ref (q 6)), (1, .int (y1)), (2, .int (y2))] [] 7
set_option maxRecDepth 20000 in
theorem en_Read_part {E : EvT} {q : Nat → Nat} {d : Nat} {x1 : Int32} {S : StX} {P : StX → Prop} (h : C_Read_piece E q (d + 6) x1 S (fun S2 => T_Read_part_7 E q (d + 7) P S2 x1 0)) : C_Read_part E q (d + 7) x1 S P := by
  refine Cn.of rfl (Nat.le_of_ble_eq_true rfl) (ls := [(0, .ref (q 6)), (1, .int (x1))]) rfl ?_
  refine r_aload_n 0 dX6_part_0 rfl rfl ?_
  refine r_iload_n 1 dX6_part_1 rfl rfl ?_
  refine K6_Read_piece rfl (Nat.le_of_ble_eq_true rfl) dX6_part_2 (mVx h (fun S2 h => ?_))
  refine r_iconst_0 dX6_part_5 ?_
  refine r_istore_n [(2, .int (0)), (0, .ref (q 6)), (1, .int (x1))] dX6_part_6 rfl (Nat.le_of_ble_eq_true rfl) rfl ?_
  refine r_ls [1, 2, 0] (ls2 := [(0, .ref (q 6)), (1, .int (x1)), (2, .int (0))]) rfl ?_
  exact h
set_option maxRecDepth 20000 in
theorem sg_Read_part_7 {E : EvT} {q : Nat → Nat} {d : Nat} {S : StX} {P : StX → Prop} {y1 : Int32} {y2 : Int32} (h : ((xs_Read_length S) ≤ y2 → (P S)) ∧ (¬ (xs_Read_length S) ≤ y2 → (C_Read_take E q (d + 6) 38 S (fun r2 S3 => (r2 = false → (P S3)) ∧ (r2 = true → (C_Read_write E q (d + 6) (-38) S3 (fun r5 S6 => C_Read_piece E q (d + 6) y1 S6 (fun S8 => C_Read_land E q (d + 6) r5 S8 (fun S10 => T_Read_part_7 E q (d + 7) P S10 y1 (y2 + 1)))))))))) : T_Read_part_7 E q (d + 7) P S y1 y2 := by
  refine r_iload_n 2 dX6_part_7 rfl rfl ?_
  refine r_aload_n 0 dX6_part_8 rfl rfl ?_
  refine xg_6_37 rfl dX6_part_9 ?_
  refine r_icmp_ge (tgt := 47) dX6_part_12 (by decide) (fun c1 => ?_) (fun c1 => ?_)
  · have h := h.1 c1
    exact r_vret dX6_part_47 rfl (Nat.le_refl _) (Nat.le_refl _) ⟨_, rfl, rfl, h⟩
  · have h := h.2 c1
    refine r_aload_n 0 dX6_part_15 rfl rfl ?_
    refine r_bipush_38 dX6_part_16 ?_
    refine K6_Read_take rfl (Nat.le_of_ble_eq_true rfl) dX6_part_18 (mBx h (fun r2 S3 h => ?_))
    refine r_if_eqb (tgt := 47) dX6_part_21 (by decide) (fun c4 => ?_) (fun c4 => ?_)
    · have h := h.1 c4
      exact r_vret dX6_part_47 rfl (Nat.le_refl _) (Nat.le_refl _) ⟨_, rfl, rfl, h⟩
    · have h := h.2 c4
      refine r_aload_n 0 dX6_part_24 rfl rfl ?_
      refine r_bipush_m38 dX6_part_25 ?_
      refine K6_Read_write rfl (Nat.le_of_ble_eq_true rfl) dX6_part_27 (mIx h (fun r5 S6 h => ?_))
      refine r_istore_n [(3, .int (r5)), (0, .ref (q 6)), (1, .int (y1)), (2, .int (y2))] dX6_part_30 rfl (Nat.le_of_ble_eq_true rfl) rfl ?_
      refine r_aload_n 1 dX6_part_31 rfl rfl ?_
      refine r_iload_n 2 dX6_part_32 rfl rfl ?_
      refine K6_Read_piece rfl (Nat.le_of_ble_eq_true rfl) dX6_part_33 (mVx h (fun S8 h => ?_))
      refine r_aload_n 1 dX6_part_36 rfl rfl ?_
      refine r_iload_n 0 dX6_part_37 rfl rfl ?_
      refine K6_Read_land rfl (Nat.le_of_ble_eq_true rfl) dX6_part_38 (mVx h (fun S10 h => ?_))
      refine r_iinc 3 [(2, .int (y2 + 1)), (3, .int (r5)), (0, .ref (q 6)), (1, .int (y1))] dX6_part_41 rfl rfl (Nat.le_of_ble_eq_true rfl) rfl ?_
      refine r_goto (tgt := 7) dX6_part_44 (by decide) ?_
      refine r_ls [2, 3, 0] (ls2 := [(0, .ref (q 6)), (1, .int (y1)), (2, .int (y2 + 1))]) rfl ?_
      exact h
set_option maxRecDepth 20000 in
theorem en_Read_piece {E : EvT} {q : Nat → Nat} {d : Nat} {x1 : Int32} {S : StX} {P : StX → Prop} (h : (xs_Read_fault S = 0 → xs_Read_at S < xs_Read_length S → rbX S = 280 ∧ 0 ≤ xs_Read_at S ∧ xs_Read_at S < 400) ∧ ((¬ (pPeek S) = 33 → ((¬ (pPeek S) = 40 → (C_Read_sum E q (d + 5) x1 S (fun S5 => (xs_Read_fault S5 = 0 → xs_Read_at S5 < xs_Read_length S5 → rbX S5 = 280 ∧ 0 ≤ xs_Read_at S5 ∧ xs_Read_at S5 < 400) ∧ (((pPeek S5) = 60 → (C_Read_sum E q (d + 5) x1 (xI S5 122 ((xs_Read_at S5) + 1)) (fun S9 => C_Read_write E q (d + 5) (-(pPeek S5)) S9 (fun r10 S11 => P S11)))) ∧ (¬ (pPeek S5) = 60 → (((pPeek S5) = 62 → (C_Read_sum E q (d + 5) x1 (xI S5 122 ((xs_Read_at S5) + 1)) (fun S14 => C_Read_write E q (d + 5) (-(pPeek S5)) S14 (fun r15 S16 => P S16)))) ∧ (¬ (pPeek S5) = 62 → ((¬ (pPeek S5) = 61 → (C_Read_refuse E q (d + 5) 1 (xs_Read_at S5) S5 (fun S19 => P S19))) ∧ ((pPeek S5) = 61 → (C_Read_sum E q (d + 5) x1 (xI S5 122 ((xs_Read_at S5) + 1)) (fun S21 => C_Read_write E q (d + 5) (-(pPeek S5)) S21 (fun r22 S23 => P S23)))))))))))) ∧ ((pPeek S) = 40 → (C_Read_opens E q (d + 5) x1 S (fun r24 S25 => (r24 = false → (P S25)) ∧ (r24 = true → (C_Read_condition E q (d + 5) (x1 + 1) S25 (fun S28 => C_Read_expect E q (d + 5) 41 S28 (fun S30 => P S30))))))))) ∧ ((pPeek S) = 33 → (C_Read_opens E q (d + 5) x1 S (fun r31 S32 => (r31 = false → (P S32)) ∧ (r31 = true → (C_Read_piece E q (d + 5) (x1 + 1) S32 (fun S35 => C_Read_write E q (d + 5) (-33) S35 (fun r36 S37 => P S37))))))))) : C_Read_piece E q (d + 6) x1 S P := by
  refine Cn.of rfl (Nat.le_of_ble_eq_true rfl) (ls := [(0, .ref (q 6)), (1, .int (x1))]) rfl ?_
  refine r_aload_n 0 dX6_piece_0 rfl rfl ?_
  obtain ⟨b1, h⟩ := h
  refine KP6_Read_peek (d := d + 5) b1 rfl (Nat.le_of_ble_eq_true rfl) dX6_piece_1 ?_
  refine r_istore_n [(2, .int ((pPeek S))), (0, .ref (q 6)), (1, .int (x1))] dX6_piece_4 rfl (Nat.le_of_ble_eq_true rfl) rfl ?_
  refine r_iload_n 0 dX6_piece_5 rfl rfl ?_
  refine r_bipush_33 dX6_piece_6 ?_
  refine r_icmp_ne (tgt := 36) dX6_piece_8 (by decide) (fun c2 => ?_) (fun c2 => ?_)
  · have h := h.1 c2
    refine r_iload_n 0 dX6_piece_36 rfl rfl ?_
    refine r_bipush_40 dX6_piece_37 ?_
    refine r_icmp_ne (tgt := 66) dX6_piece_39 (by decide) (fun c3 => ?_) (fun c3 => ?_)
    · have h := h.1 c3
      refine r_aload_n 1 dX6_piece_66 rfl rfl ?_
      refine r_iload_n 2 dX6_piece_67 rfl rfl ?_
      refine K6_Read_sum rfl (Nat.le_of_ble_eq_true rfl) dX6_piece_68 (mVx h (fun S5 h => ?_))
      refine r_aload_n 1 dX6_piece_71 rfl rfl ?_
      obtain ⟨b6, h⟩ := h
      refine KP6_Read_peek (d := d + 5) b6 rfl (Nat.le_of_ble_eq_true rfl) dX6_piece_72 ?_
      refine r_istore_n [(3, .int ((pPeek S5))), (2, .int ((pPeek S))), (0, .ref (q 6)), (1, .int (x1))] dX6_piece_75 rfl (Nat.le_of_ble_eq_true rfl) rfl ?_
      refine r_iload_n 0 dX6_piece_76 rfl rfl ?_
      refine r_bipush_60 dX6_piece_77 ?_
      refine r_icmp_eq (tgt := 94) dX6_piece_79 (by decide) (fun c7 => ?_) (fun c7 => ?_)
      · have h := h.1 c7
        refine r_aload_n 2 dX6_piece_94 rfl rfl ?_
        refine r_dup dX6_piece_95 rfl ?_
        refine xg_6_41 rfl dX6_piece_96 ?_
        refine r_iconst_1 dX6_piece_99 ?_
        refine r_iadd dX6_piece_100 ?_
        refine xq_6_41 rfl dX6_piece_101 ?_
        refine r_aload_n 2 dX6_piece_104 rfl rfl ?_
        refine r_iload_n 3 dX6_piece_105 rfl rfl ?_
        refine K6_Read_sum rfl (Nat.le_of_ble_eq_true rfl) dX6_piece_106 (mVx h (fun S9 h => ?_))
        refine r_aload_n 2 dX6_piece_109 rfl rfl ?_
        refine r_iload_n 0 dX6_piece_110 rfl rfl ?_
        refine r_ineg dX6_piece_111 ?_
        refine K6_Read_write rfl (Nat.le_of_ble_eq_true rfl) dX6_piece_112 (mIx h (fun r10 S11 h => ?_))
        refine r_pop dX6_piece_115 rfl ?_
        refine r_goto (tgt := 128) dX6_piece_116 (by decide) ?_
        exact r_vret dX6_piece_128 rfl (Nat.le_refl _) (Nat.le_refl _) ⟨_, rfl, rfl, h⟩
      · have h := h.2 c7
        refine r_iload_n 0 dX6_piece_82 rfl rfl ?_
        refine r_bipush_62 dX6_piece_83 ?_
        refine r_icmp_eq (tgt := 94) dX6_piece_85 (by decide) (fun c12 => ?_) (fun c12 => ?_)
        · have h := h.1 c12
          refine r_aload_n 2 dX6_piece_94 rfl rfl ?_
          refine r_dup dX6_piece_95 rfl ?_
          refine xg_6_41 rfl dX6_piece_96 ?_
          refine r_iconst_1 dX6_piece_99 ?_
          refine r_iadd dX6_piece_100 ?_
          refine xq_6_41 rfl dX6_piece_101 ?_
          refine r_aload_n 2 dX6_piece_104 rfl rfl ?_
          refine r_iload_n 3 dX6_piece_105 rfl rfl ?_
          refine K6_Read_sum rfl (Nat.le_of_ble_eq_true rfl) dX6_piece_106 (mVx h (fun S14 h => ?_))
          refine r_aload_n 2 dX6_piece_109 rfl rfl ?_
          refine r_iload_n 0 dX6_piece_110 rfl rfl ?_
          refine r_ineg dX6_piece_111 ?_
          refine K6_Read_write rfl (Nat.le_of_ble_eq_true rfl) dX6_piece_112 (mIx h (fun r15 S16 h => ?_))
          refine r_pop dX6_piece_115 rfl ?_
          refine r_goto (tgt := 128) dX6_piece_116 (by decide) ?_
          exact r_vret dX6_piece_128 rfl (Nat.le_refl _) (Nat.le_refl _) ⟨_, rfl, rfl, h⟩
        · have h := h.2 c12
          refine r_iload_n 0 dX6_piece_88 rfl rfl ?_
          refine r_bipush_61 dX6_piece_89 ?_
          refine r_icmp_ne (tgt := 119) dX6_piece_91 (by decide) (fun c17 => ?_) (fun c17 => ?_)
          · have h := h.1 c17
            refine r_aload_n 2 dX6_piece_119 rfl rfl ?_
            refine r_iconst_1 dX6_piece_120 ?_
            refine r_aload_n 2 dX6_piece_121 rfl rfl ?_
            refine xg_6_41 rfl dX6_piece_122 ?_
            refine K6_Read_refuse rfl (Nat.le_of_ble_eq_true rfl) dX6_piece_125 (mVx h (fun S19 h => ?_))
            exact r_vret dX6_piece_128 rfl (Nat.le_refl _) (Nat.le_refl _) ⟨_, rfl, rfl, h⟩
          · have h := h.2 c17
            refine r_aload_n 2 dX6_piece_94 rfl rfl ?_
            refine r_dup dX6_piece_95 rfl ?_
            refine xg_6_41 rfl dX6_piece_96 ?_
            refine r_iconst_1 dX6_piece_99 ?_
            refine r_iadd dX6_piece_100 ?_
            refine xq_6_41 rfl dX6_piece_101 ?_
            refine r_aload_n 2 dX6_piece_104 rfl rfl ?_
            refine r_iload_n 3 dX6_piece_105 rfl rfl ?_
            refine K6_Read_sum rfl (Nat.le_of_ble_eq_true rfl) dX6_piece_106 (mVx h (fun S21 h => ?_))
            refine r_aload_n 2 dX6_piece_109 rfl rfl ?_
            refine r_iload_n 0 dX6_piece_110 rfl rfl ?_
            refine r_ineg dX6_piece_111 ?_
            refine K6_Read_write rfl (Nat.le_of_ble_eq_true rfl) dX6_piece_112 (mIx h (fun r22 S23 h => ?_))
            refine r_pop dX6_piece_115 rfl ?_
            refine r_goto (tgt := 128) dX6_piece_116 (by decide) ?_
            exact r_vret dX6_piece_128 rfl (Nat.le_refl _) (Nat.le_refl _) ⟨_, rfl, rfl, h⟩
    · have h := h.2 c3
      refine r_aload_n 1 dX6_piece_42 rfl rfl ?_
      refine r_iload_n 2 dX6_piece_43 rfl rfl ?_
      refine K6_Read_opens rfl (Nat.le_of_ble_eq_true rfl) dX6_piece_44 (mBx h (fun r24 S25 h => ?_))
      refine r_if_eqb (tgt := 128) dX6_piece_47 (by decide) (fun c26 => ?_) (fun c26 => ?_)
      · have h := h.1 c26
        exact r_vret dX6_piece_128 rfl (Nat.le_refl _) (Nat.le_refl _) ⟨_, rfl, rfl, h⟩
      · have h := h.2 c26
        refine r_aload_n 1 dX6_piece_50 rfl rfl ?_
        refine r_iload_n 2 dX6_piece_51 rfl rfl ?_
        refine r_iconst_1 dX6_piece_52 ?_
        refine r_iadd dX6_piece_53 ?_
        refine K6_Read_condition rfl (Nat.le_of_ble_eq_true rfl) dX6_piece_54 (mVx h (fun S28 h => ?_))
        refine r_aload_n 1 dX6_piece_57 rfl rfl ?_
        refine r_bipush_41 dX6_piece_58 ?_
        refine K6_Read_expect rfl (Nat.le_of_ble_eq_true rfl) dX6_piece_60 (mVx h (fun S30 h => ?_))
        refine r_goto (tgt := 128) dX6_piece_63 (by decide) ?_
        exact r_vret dX6_piece_128 rfl (Nat.le_refl _) (Nat.le_refl _) ⟨_, rfl, rfl, h⟩
  · have h := h.2 c2
    refine r_aload_n 1 dX6_piece_11 rfl rfl ?_
    refine r_iload_n 2 dX6_piece_12 rfl rfl ?_
    refine K6_Read_opens rfl (Nat.le_of_ble_eq_true rfl) dX6_piece_13 (mBx h (fun r31 S32 h => ?_))
    refine r_if_eqb (tgt := 128) dX6_piece_16 (by decide) (fun c33 => ?_) (fun c33 => ?_)
    · have h := h.1 c33
      exact r_vret dX6_piece_128 rfl (Nat.le_refl _) (Nat.le_refl _) ⟨_, rfl, rfl, h⟩
    · have h := h.2 c33
      refine r_aload_n 1 dX6_piece_19 rfl rfl ?_
      refine r_iload_n 2 dX6_piece_20 rfl rfl ?_
      refine r_iconst_1 dX6_piece_21 ?_
      refine r_iadd dX6_piece_22 ?_
      refine K6_Read_piece rfl (Nat.le_of_ble_eq_true rfl) dX6_piece_23 (mVx h (fun S35 h => ?_))
      refine r_aload_n 1 dX6_piece_26 rfl rfl ?_
      refine r_bipush_m33 dX6_piece_27 ?_
      refine K6_Read_write rfl (Nat.le_of_ble_eq_true rfl) dX6_piece_29 (mIx h (fun r36 S37 h => ?_))
      refine r_pop dX6_piece_32 rfl ?_
      refine r_goto (tgt := 128) dX6_piece_33 (by decide) ?_
      exact r_vret dX6_piece_128 rfl (Nat.le_refl _) (Nat.le_refl _) ⟨_, rfl, rfl, h⟩
abbrev T_Read_sum_7 (E : EvT) (q : Nat → Nat) (D : Nat) (P : StX → Prop) (S : StX) (y1 : Int32) (y2 : Int32) : Prop := RX E q iX_Read_sum D (qVx E q P) S [(0, .ref (q 6)), (1, .int (y1)), (2, .int (y2))] [] 7
set_option maxRecDepth 20000 in
theorem en_Read_sum {E : EvT} {q : Nat → Nat} {d : Nat} {x1 : Int32} {S : StX} {P : StX → Prop} (h : C_Read_term E q (d + 4) x1 S (fun S2 => T_Read_sum_7 E q (d + 5) P S2 x1 0)) : C_Read_sum E q (d + 5) x1 S P := by
  refine Cn.of rfl (Nat.le_of_ble_eq_true rfl) (ls := [(0, .ref (q 6)), (1, .int (x1))]) rfl ?_
  refine r_aload_n 0 dX6_sum_0 rfl rfl ?_
  refine r_iload_n 1 dX6_sum_1 rfl rfl ?_
  refine K6_Read_term rfl (Nat.le_of_ble_eq_true rfl) dX6_sum_2 (mVx h (fun S2 h => ?_))
  refine r_iconst_0 dX6_sum_5 ?_
  refine r_istore_n [(2, .int (0)), (0, .ref (q 6)), (1, .int (x1))] dX6_sum_6 rfl (Nat.le_of_ble_eq_true rfl) rfl ?_
  refine r_ls [1, 2, 0] (ls2 := [(0, .ref (q 6)), (1, .int (x1)), (2, .int (0))]) rfl ?_
  exact h
set_option maxRecDepth 20000 in
theorem sg_Read_sum_7 {E : EvT} {q : Nat → Nat} {d : Nat} {S : StX} {P : StX → Prop} {y1 : Int32} {y2 : Int32} (h : ((xs_Read_length S) ≤ y2 → (P S)) ∧ (¬ (xs_Read_length S) ≤ y2 → ((xs_Read_fault S = 0 → xs_Read_at S < xs_Read_length S → rbX S = 280 ∧ 0 ≤ xs_Read_at S ∧ xs_Read_at S < 400) ∧ (((pPeek S) = 43 → (C_Read_term E q (d + 4) y1 (xI S 122 ((xs_Read_at S) + 1)) (fun S5 => C_Read_write E q (d + 4) (-(pPeek S)) S5 (fun r6 S7 => T_Read_sum_7 E q (d + 5) P S7 y1 (y2 + 1))))) ∧ (¬ (pPeek S) = 43 → ((¬ (pPeek S) = 45 → (P S)) ∧ ((pPeek S) = 45 → (C_Read_term E q (d + 4) y1 (xI S 122 ((xs_Read_at S) + 1)) (fun S10 => C_Read_write E q (d + 4) (-(pPeek S)) S10 (fun r11 S12 => T_Read_sum_7 E q (d + 5) P S12 y1 (y2 + 1))))))))))) : T_Read_sum_7 E q (d + 5) P S y1 y2 := by
  refine r_iload_n 2 dX6_sum_7 rfl rfl ?_
  refine r_aload_n 0 dX6_sum_8 rfl rfl ?_
  refine xg_6_37 rfl dX6_sum_9 ?_
  refine r_icmp_ge (tgt := 66) dX6_sum_12 (by decide) (fun c1 => ?_) (fun c1 => ?_)
  · have h := h.1 c1
    exact r_vret dX6_sum_66 rfl (Nat.le_refl _) (Nat.le_refl _) ⟨_, rfl, rfl, h⟩
  · have h := h.2 c1
    refine r_aload_n 0 dX6_sum_15 rfl rfl ?_
    obtain ⟨b2, h⟩ := h
    refine KP6_Read_peek (d := d + 4) b2 rfl (Nat.le_of_ble_eq_true rfl) dX6_sum_16 ?_
    refine r_bipush_43 dX6_sum_19 ?_
    refine r_icmp_eq (tgt := 33) dX6_sum_21 (by decide) (fun c3 => ?_) (fun c3 => ?_)
    · have h := h.1 c3
      refine r_aload_n 0 dX6_sum_33 rfl rfl ?_
      refine KP6_Read_peek (d := d + 4) b2 rfl (Nat.le_of_ble_eq_true rfl) dX6_sum_34 ?_
      refine r_istore_n [(3, .int ((pPeek S))), (0, .ref (q 6)), (1, .int (y1)), (2, .int (y2))] dX6_sum_37 rfl (Nat.le_of_ble_eq_true rfl) rfl ?_
      refine r_aload_n 1 dX6_sum_38 rfl rfl ?_
      refine r_dup dX6_sum_39 rfl ?_
      refine xg_6_41 rfl dX6_sum_40 ?_
      refine r_iconst_1 dX6_sum_43 ?_
      refine r_iadd dX6_sum_44 ?_
      refine xq_6_41 rfl dX6_sum_45 ?_
      refine r_aload_n 1 dX6_sum_48 rfl rfl ?_
      refine r_iload_n 2 dX6_sum_49 rfl rfl ?_
      refine K6_Read_term rfl (Nat.le_of_ble_eq_true rfl) dX6_sum_50 (mVx h (fun S5 h => ?_))
      refine r_aload_n 1 dX6_sum_53 rfl rfl ?_
      refine r_iload_n 0 dX6_sum_54 rfl rfl ?_
      refine r_ineg dX6_sum_55 ?_
      refine K6_Read_write rfl (Nat.le_of_ble_eq_true rfl) dX6_sum_56 (mIx h (fun r6 S7 h => ?_))
      refine r_pop dX6_sum_59 rfl ?_
      refine r_iinc 3 [(2, .int (y2 + 1)), (3, .int ((pPeek S))), (0, .ref (q 6)), (1, .int (y1))] dX6_sum_60 rfl rfl (Nat.le_of_ble_eq_true rfl) rfl ?_
      refine r_goto (tgt := 7) dX6_sum_63 (by decide) ?_
      refine r_ls [2, 3, 0] (ls2 := [(0, .ref (q 6)), (1, .int (y1)), (2, .int (y2 + 1))]) rfl ?_
      exact h
    · have h := h.2 c3
      refine r_aload_n 0 dX6_sum_24 rfl rfl ?_
      refine KP6_Read_peek (d := d + 4) b2 rfl (Nat.le_of_ble_eq_true rfl) dX6_sum_25 ?_
      refine r_bipush_45 dX6_sum_28 ?_
      refine r_icmp_ne (tgt := 66) dX6_sum_30 (by decide) (fun c8 => ?_) (fun c8 => ?_)
      · have h := h.1 c8
        exact r_vret dX6_sum_66 rfl (Nat.le_refl _) (Nat.le_refl _) ⟨_, rfl, rfl, h⟩
      · have h := h.2 c8
        refine r_aload_n 0 dX6_sum_33 rfl rfl ?_
        refine KP6_Read_peek (d := d + 4) b2 rfl (Nat.le_of_ble_eq_true rfl) dX6_sum_34 ?_
        refine r_istore_n [(3, .int ((pPeek S))), (0, .ref (q 6)), (1, .int (y1)), (2, .int (y2))] dX6_sum_37 rfl (Nat.le_of_ble_eq_true rfl) rfl ?_
        refine r_aload_n 1 dX6_sum_38 rfl rfl ?_
        refine r_dup dX6_sum_39 rfl ?_
        refine xg_6_41 rfl dX6_sum_40 ?_
        refine r_iconst_1 dX6_sum_43 ?_
        refine r_iadd dX6_sum_44 ?_
        refine xq_6_41 rfl dX6_sum_45 ?_
        refine r_aload_n 1 dX6_sum_48 rfl rfl ?_
        refine r_iload_n 2 dX6_sum_49 rfl rfl ?_
        refine K6_Read_term rfl (Nat.le_of_ble_eq_true rfl) dX6_sum_50 (mVx h (fun S10 h => ?_))
        refine r_aload_n 1 dX6_sum_53 rfl rfl ?_
        refine r_iload_n 0 dX6_sum_54 rfl rfl ?_
        refine r_ineg dX6_sum_55 ?_
        refine K6_Read_write rfl (Nat.le_of_ble_eq_true rfl) dX6_sum_56 (mIx h (fun r11 S12 h => ?_))
        refine r_pop dX6_sum_59 rfl ?_
        refine r_iinc 3 [(2, .int (y2 + 1)), (3, .int ((pPeek S))), (0, .ref (q 6)), (1, .int (y1))] dX6_sum_60 rfl rfl (Nat.le_of_ble_eq_true rfl) rfl ?_
        refine r_goto (tgt := 7) dX6_sum_63 (by decide) ?_
        refine r_ls [2, 3, 0] (ls2 := [(0, .ref (q 6)), (1, .int (y1)), (2, .int (y2 + 1))]) rfl ?_
        exact h
abbrev T_Read_term_7 (E : EvT) (q : Nat → Nat) (D : Nat) (P : StX → Prop) (S : StX) (y1 : Int32) (y2 : Int32) : Prop := RX E q iX_Read_term D (qVx E q P) S [(0, .ref (q 6)), (1, .int (y1)), (2, .int (y2))] [] 7
set_option maxRecDepth 20000 in
theorem en_Read_term {E : EvT} {q : Nat → Nat} {d : Nat} {x1 : Int32} {S : StX} {P : StX → Prop} (h : C_Read_factor E q (d + 3) x1 S (fun S2 => T_Read_term_7 E q (d + 4) P S2 x1 0)) : C_Read_term E q (d + 4) x1 S P := by
  refine Cn.of rfl (Nat.le_of_ble_eq_true rfl) (ls := [(0, .ref (q 6)), (1, .int (x1))]) rfl ?_
  refine r_aload_n 0 dX6_term_0 rfl rfl ?_
  refine r_iload_n 1 dX6_term_1 rfl rfl ?_
  refine K6_Read_factor rfl (Nat.le_of_ble_eq_true rfl) dX6_term_2 (mVx h (fun S2 h => ?_))
  refine r_iconst_0 dX6_term_5 ?_
  refine r_istore_n [(2, .int (0)), (0, .ref (q 6)), (1, .int (x1))] dX6_term_6 rfl (Nat.le_of_ble_eq_true rfl) rfl ?_
  refine r_ls [1, 2, 0] (ls2 := [(0, .ref (q 6)), (1, .int (x1)), (2, .int (0))]) rfl ?_
  exact h
set_option maxRecDepth 20000 in
theorem sg_Read_term_7 {E : EvT} {q : Nat → Nat} {d : Nat} {S : StX} {P : StX → Prop} {y1 : Int32} {y2 : Int32} (h : ((xs_Read_length S) ≤ y2 → (P S)) ∧ (¬ (xs_Read_length S) ≤ y2 → ((xs_Read_fault S = 0 → xs_Read_at S < xs_Read_length S → rbX S = 280 ∧ 0 ≤ xs_Read_at S ∧ xs_Read_at S < 400) ∧ (((pPeek S) = 42 → (C_Read_factor E q (d + 3) y1 (xI S 122 ((xs_Read_at S) + 1)) (fun S5 => C_Read_write E q (d + 3) (-(pPeek S)) S5 (fun r6 S7 => T_Read_term_7 E q (d + 4) P S7 y1 (y2 + 1))))) ∧ (¬ (pPeek S) = 42 → (((pPeek S) = 47 → (C_Read_factor E q (d + 3) y1 (xI S 122 ((xs_Read_at S) + 1)) (fun S10 => C_Read_write E q (d + 3) (-(pPeek S)) S10 (fun r11 S12 => T_Read_term_7 E q (d + 4) P S12 y1 (y2 + 1))))) ∧ (¬ (pPeek S) = 47 → ((¬ (pPeek S) = 37 → (P S)) ∧ ((pPeek S) = 37 → (C_Read_factor E q (d + 3) y1 (xI S 122 ((xs_Read_at S) + 1)) (fun S15 => C_Read_write E q (d + 3) (-(pPeek S)) S15 (fun r16 S17 => T_Read_term_7 E q (d + 4) P S17 y1 (y2 + 1))))))))))))) : T_Read_term_7 E q (d + 4) P S y1 y2 := by
  refine r_iload_n 2 dX6_term_7 rfl rfl ?_
  refine r_aload_n 0 dX6_term_8 rfl rfl ?_
  refine xg_6_37 rfl dX6_term_9 ?_
  refine r_icmp_ge (tgt := 75) dX6_term_12 (by decide) (fun c1 => ?_) (fun c1 => ?_)
  · have h := h.1 c1
    exact r_vret dX6_term_75 rfl (Nat.le_refl _) (Nat.le_refl _) ⟨_, rfl, rfl, h⟩
  · have h := h.2 c1
    refine r_aload_n 0 dX6_term_15 rfl rfl ?_
    obtain ⟨b2, h⟩ := h
    refine KP6_Read_peek (d := d + 3) b2 rfl (Nat.le_of_ble_eq_true rfl) dX6_term_16 ?_
    refine r_bipush_42 dX6_term_19 ?_
    refine r_icmp_eq (tgt := 42) dX6_term_21 (by decide) (fun c3 => ?_) (fun c3 => ?_)
    · have h := h.1 c3
      refine r_aload_n 0 dX6_term_42 rfl rfl ?_
      refine KP6_Read_peek (d := d + 3) b2 rfl (Nat.le_of_ble_eq_true rfl) dX6_term_43 ?_
      refine r_istore_n [(3, .int ((pPeek S))), (0, .ref (q 6)), (1, .int (y1)), (2, .int (y2))] dX6_term_46 rfl (Nat.le_of_ble_eq_true rfl) rfl ?_
      refine r_aload_n 1 dX6_term_47 rfl rfl ?_
      refine r_dup dX6_term_48 rfl ?_
      refine xg_6_41 rfl dX6_term_49 ?_
      refine r_iconst_1 dX6_term_52 ?_
      refine r_iadd dX6_term_53 ?_
      refine xq_6_41 rfl dX6_term_54 ?_
      refine r_aload_n 1 dX6_term_57 rfl rfl ?_
      refine r_iload_n 2 dX6_term_58 rfl rfl ?_
      refine K6_Read_factor rfl (Nat.le_of_ble_eq_true rfl) dX6_term_59 (mVx h (fun S5 h => ?_))
      refine r_aload_n 1 dX6_term_62 rfl rfl ?_
      refine r_iload_n 0 dX6_term_63 rfl rfl ?_
      refine r_ineg dX6_term_64 ?_
      refine K6_Read_write rfl (Nat.le_of_ble_eq_true rfl) dX6_term_65 (mIx h (fun r6 S7 h => ?_))
      refine r_pop dX6_term_68 rfl ?_
      refine r_iinc 3 [(2, .int (y2 + 1)), (3, .int ((pPeek S))), (0, .ref (q 6)), (1, .int (y1))] dX6_term_69 rfl rfl (Nat.le_of_ble_eq_true rfl) rfl ?_
      refine r_goto (tgt := 7) dX6_term_72 (by decide) ?_
      refine r_ls [2, 3, 0] (ls2 := [(0, .ref (q 6)), (1, .int (y1)), (2, .int (y2 + 1))]) rfl ?_
      exact h
    · have h := h.2 c3
      refine r_aload_n 0 dX6_term_24 rfl rfl ?_
      refine KP6_Read_peek (d := d + 3) b2 rfl (Nat.le_of_ble_eq_true rfl) dX6_term_25 ?_
      refine r_bipush_47 dX6_term_28 ?_
      refine r_icmp_eq (tgt := 42) dX6_term_30 (by decide) (fun c8 => ?_) (fun c8 => ?_)
      · have h := h.1 c8
        refine r_aload_n 0 dX6_term_42 rfl rfl ?_
        refine KP6_Read_peek (d := d + 3) b2 rfl (Nat.le_of_ble_eq_true rfl) dX6_term_43 ?_
        refine r_istore_n [(3, .int ((pPeek S))), (0, .ref (q 6)), (1, .int (y1)), (2, .int (y2))] dX6_term_46 rfl (Nat.le_of_ble_eq_true rfl) rfl ?_
        refine r_aload_n 1 dX6_term_47 rfl rfl ?_
        refine r_dup dX6_term_48 rfl ?_
        refine xg_6_41 rfl dX6_term_49 ?_
        refine r_iconst_1 dX6_term_52 ?_
        refine r_iadd dX6_term_53 ?_
        refine xq_6_41 rfl dX6_term_54 ?_
        refine r_aload_n 1 dX6_term_57 rfl rfl ?_
        refine r_iload_n 2 dX6_term_58 rfl rfl ?_
        refine K6_Read_factor rfl (Nat.le_of_ble_eq_true rfl) dX6_term_59 (mVx h (fun S10 h => ?_))
        refine r_aload_n 1 dX6_term_62 rfl rfl ?_
        refine r_iload_n 0 dX6_term_63 rfl rfl ?_
        refine r_ineg dX6_term_64 ?_
        refine K6_Read_write rfl (Nat.le_of_ble_eq_true rfl) dX6_term_65 (mIx h (fun r11 S12 h => ?_))
        refine r_pop dX6_term_68 rfl ?_
        refine r_iinc 3 [(2, .int (y2 + 1)), (3, .int ((pPeek S))), (0, .ref (q 6)), (1, .int (y1))] dX6_term_69 rfl rfl (Nat.le_of_ble_eq_true rfl) rfl ?_
        refine r_goto (tgt := 7) dX6_term_72 (by decide) ?_
        refine r_ls [2, 3, 0] (ls2 := [(0, .ref (q 6)), (1, .int (y1)), (2, .int (y2 + 1))]) rfl ?_
        exact h
      · have h := h.2 c8
        refine r_aload_n 0 dX6_term_33 rfl rfl ?_
        refine KP6_Read_peek (d := d + 3) b2 rfl (Nat.le_of_ble_eq_true rfl) dX6_term_34 ?_
        refine r_bipush_37 dX6_term_37 ?_
        refine r_icmp_ne (tgt := 75) dX6_term_39 (by decide) (fun c13 => ?_) (fun c13 => ?_)
        · have h := h.1 c13
          exact r_vret dX6_term_75 rfl (Nat.le_refl _) (Nat.le_refl _) ⟨_, rfl, rfl, h⟩
        · have h := h.2 c13
          refine r_aload_n 0 dX6_term_42 rfl rfl ?_
          refine KP6_Read_peek (d := d + 3) b2 rfl (Nat.le_of_ble_eq_true rfl) dX6_term_43 ?_
          refine r_istore_n [(3, .int ((pPeek S))), (0, .ref (q 6)), (1, .int (y1)), (2, .int (y2))] dX6_term_46 rfl (Nat.le_of_ble_eq_true rfl) rfl ?_
          refine r_aload_n 1 dX6_term_47 rfl rfl ?_
          refine r_dup dX6_term_48 rfl ?_
          refine xg_6_41 rfl dX6_term_49 ?_
          refine r_iconst_1 dX6_term_52 ?_
          refine r_iadd dX6_term_53 ?_
          refine xq_6_41 rfl dX6_term_54 ?_
          refine r_aload_n 1 dX6_term_57 rfl rfl ?_
          refine r_iload_n 2 dX6_term_58 rfl rfl ?_
          refine K6_Read_factor rfl (Nat.le_of_ble_eq_true rfl) dX6_term_59 (mVx h (fun S15 h => ?_))
          refine r_aload_n 1 dX6_term_62 rfl rfl ?_
          refine r_iload_n 0 dX6_term_63 rfl rfl ?_
          refine r_ineg dX6_term_64 ?_
          refine K6_Read_write rfl (Nat.le_of_ble_eq_true rfl) dX6_term_65 (mIx h (fun r16 S17 h => ?_))
          refine r_pop dX6_term_68 rfl ?_
          refine r_iinc 3 [(2, .int (y2 + 1)), (3, .int ((pPeek S))), (0, .ref (q 6)), (1, .int (y1))] dX6_term_69 rfl rfl (Nat.le_of_ble_eq_true rfl) rfl ?_
          refine r_goto (tgt := 7) dX6_term_72 (by decide) ?_
          refine r_ls [2, 3, 0] (ls2 := [(0, .ref (q 6)), (1, .int (y1)), (2, .int (y2 + 1))]) rfl ?_
          exact h
set_option maxRecDepth 20000 in
theorem en_Read_factor {E : EvT} {q : Nat → Nat} {d : Nat} {x1 : Int32} {S : StX} {P : StX → Prop} (h : (xs_Read_fault S = 0 → xs_Read_at S < xs_Read_length S → rbX S = 280 ∧ 0 ≤ xs_Read_at S ∧ xs_Read_at S < 400) ∧ (C_Read_letterOf E q (d + 2) (pPeek S) S (fun r2 S3 => (¬ (pPeek S) = 91 → ((r2 = (-1) → (C_Read_digits E q (d + 2) 99999 S3 (fun r6 S7 => C_Read_write E q (d + 2) r6 S7 (fun r8 S9 => P S9)))) ∧ (¬ r2 = (-1) → (C_Read_write E q (d + 2) (100000 + r2) (xI S3 122 ((xs_Read_at S3) + 1)) (fun r10 S11 => P S11))))) ∧ ((pPeek S) = 91 → (C_Read_opens E q (d + 2) x1 S3 (fun r12 S13 => (r12 = false → (P S13)) ∧ (r12 = true → (C_Read_sum E q (d + 2) (x1 + 1) S13 (fun S16 => C_Read_expect E q (d + 2) 93 S16 (fun S18 => P S18)))))))))) : C_Read_factor E q (d + 3) x1 S P := by
  refine Cn.of rfl (Nat.le_of_ble_eq_true rfl) (ls := [(0, .ref (q 6)), (1, .int (x1))]) rfl ?_
  refine r_aload_n 0 dX6_factor_0 rfl rfl ?_
  obtain ⟨b1, h⟩ := h
  refine KP6_Read_peek (d := d + 2) b1 rfl (Nat.le_of_ble_eq_true rfl) dX6_factor_1 ?_
  refine r_istore_n [(2, .int ((pPeek S))), (0, .ref (q 6)), (1, .int (x1))] dX6_factor_4 rfl (Nat.le_of_ble_eq_true rfl) rfl ?_
  refine r_iload_n 0 dX6_factor_5 rfl rfl ?_
  refine K6_Read_letterOf rfl (Nat.le_of_ble_eq_true rfl) dX6_factor_6 (mIx h (fun r2 S3 h => ?_))
  refine r_istore_n [(3, .int (r2)), (2, .int ((pPeek S))), (0, .ref (q 6)), (1, .int (x1))] dX6_factor_9 rfl (Nat.le_of_ble_eq_true rfl) rfl ?_
  refine r_iload_n 1 dX6_factor_10 rfl rfl ?_
  refine r_bipush_91 dX6_factor_11 ?_
  refine r_icmp_ne (tgt := 40) dX6_factor_13 (by decide) (fun c4 => ?_) (fun c4 => ?_)
  · have h := h.1 c4
    refine r_iload_n 0 dX6_factor_40 rfl rfl ?_
    refine r_iconst_m1 dX6_factor_41 ?_
    refine r_icmp_eq (tgt := 67) dX6_factor_42 (by decide) (fun c5 => ?_) (fun c5 => ?_)
    · have h := h.1 c5
      refine r_aload_n 2 dX6_factor_67 rfl rfl ?_
      refine r_aload_n 2 dX6_factor_68 rfl rfl ?_
      refine r_ldc w4_109 dX6_factor_69 ?_
      refine K6_Read_digits rfl (Nat.le_of_ble_eq_true rfl) dX6_factor_71 (mIx h (fun r6 S7 h => ?_))
      refine K6_Read_write rfl (Nat.le_of_ble_eq_true rfl) dX6_factor_74 (mIx h (fun r8 S9 h => ?_))
      refine r_pop dX6_factor_77 rfl ?_
      exact r_vret dX6_factor_78 rfl (Nat.le_refl _) (Nat.le_refl _) ⟨_, rfl, rfl, h⟩
    · have h := h.2 c5
      refine r_aload_n 2 dX6_factor_45 rfl rfl ?_
      refine r_dup dX6_factor_46 rfl ?_
      refine xg_6_41 rfl dX6_factor_47 ?_
      refine r_iconst_1 dX6_factor_50 ?_
      refine r_iadd dX6_factor_51 ?_
      refine xq_6_41 rfl dX6_factor_52 ?_
      refine r_aload_n 2 dX6_factor_55 rfl rfl ?_
      refine r_ldc w4_108 dX6_factor_56 ?_
      refine r_iload_n 0 dX6_factor_58 rfl rfl ?_
      refine r_iadd dX6_factor_59 ?_
      refine K6_Read_write rfl (Nat.le_of_ble_eq_true rfl) dX6_factor_60 (mIx h (fun r10 S11 h => ?_))
      refine r_pop dX6_factor_63 rfl ?_
      refine r_goto (tgt := 78) dX6_factor_64 (by decide) ?_
      exact r_vret dX6_factor_78 rfl (Nat.le_refl _) (Nat.le_refl _) ⟨_, rfl, rfl, h⟩
  · have h := h.2 c4
    refine r_aload_n 2 dX6_factor_16 rfl rfl ?_
    refine r_iload_n 3 dX6_factor_17 rfl rfl ?_
    refine K6_Read_opens rfl (Nat.le_of_ble_eq_true rfl) dX6_factor_18 (mBx h (fun r12 S13 h => ?_))
    refine r_if_eqb (tgt := 78) dX6_factor_21 (by decide) (fun c14 => ?_) (fun c14 => ?_)
    · have h := h.1 c14
      exact r_vret dX6_factor_78 rfl (Nat.le_refl _) (Nat.le_refl _) ⟨_, rfl, rfl, h⟩
    · have h := h.2 c14
      refine r_aload_n 2 dX6_factor_24 rfl rfl ?_
      refine r_iload_n 3 dX6_factor_25 rfl rfl ?_
      refine r_iconst_1 dX6_factor_26 ?_
      refine r_iadd dX6_factor_27 ?_
      refine K6_Read_sum rfl (Nat.le_of_ble_eq_true rfl) dX6_factor_28 (mVx h (fun S16 h => ?_))
      refine r_aload_n 2 dX6_factor_31 rfl rfl ?_
      refine r_bipush_93 dX6_factor_32 ?_
      refine K6_Read_expect rfl (Nat.le_of_ble_eq_true rfl) dX6_factor_34 (mVx h (fun S18 h => ?_))
      refine r_goto (tgt := 78) dX6_factor_37 (by decide) ?_
      exact r_vret dX6_factor_78 rfl (Nat.le_refl _) (Nat.le_refl _) ⟨_, rfl, rfl, h⟩
set_option maxRecDepth 20000 in
theorem en_Read_letterOf {E : EvT} {q : Nat → Nat} {d : Nat} {x0 : Int32} {S : StX} {P : Int32 → StX → Prop} (h : (x0 = 104 → (P 1 S)) ∧ (¬ x0 = 104 → ((x0 = 107 → (P 2 S)) ∧ (¬ x0 = 107 → ((x0 = 109 → (P 3 S)) ∧ (¬ x0 = 109 → ((x0 = 112 → (P 4 S)) ∧ (¬ x0 = 112 → ((x0 = 119 → (P 0 S)) ∧ (¬ x0 = 119 → (P (-1) S))))))))))) : C_Read_letterOf E q d x0 S P := by
  refine Cn.of rfl (Nat.le_of_ble_eq_true rfl) (ls := [(0, .int (x0))]) rfl ?_
  refine r_iload_n 0 dX6_letterOf_0 rfl rfl ?_
  by_cases c1 : x0 = 104
  · have h := h.1 c1
    refine r_lookup (tgt := 54) (off := 53) dX6_letterOf_1 (by decide) (by rw [c1]; rfl) (by decide) ?_
    refine r_iconst_1 dX6_letterOf_54 ?_
    exact r_iret dX6_letterOf_55 rfl (Nat.le_refl _) (Nat.le_refl _) ⟨_, _, rfl, rfl, h⟩
  · have h := h.2 c1
    by_cases c2 : x0 = 107
    · have h := h.1 c2
      refine r_lookup (tgt := 56) (off := 55) dX6_letterOf_1 (by decide) (by rw [c2]; rfl) (by decide) ?_
      refine r_iconst_2 dX6_letterOf_56 ?_
      exact r_iret dX6_letterOf_57 rfl (Nat.le_refl _) (Nat.le_refl _) ⟨_, _, rfl, rfl, h⟩
    · have h := h.2 c2
      by_cases c3 : x0 = 109
      · have h := h.1 c3
        refine r_lookup (tgt := 58) (off := 57) dX6_letterOf_1 (by decide) (by rw [c3]; rfl) (by decide) ?_
        refine r_iconst_3 dX6_letterOf_58 ?_
        exact r_iret dX6_letterOf_59 rfl (Nat.le_refl _) (Nat.le_refl _) ⟨_, _, rfl, rfl, h⟩
      · have h := h.2 c3
        by_cases c4 : x0 = 112
        · have h := h.1 c4
          refine r_lookup (tgt := 60) (off := 59) dX6_letterOf_1 (by decide) (by rw [c4]; rfl) (by decide) ?_
          refine r_iconst_4 dX6_letterOf_60 ?_
          exact r_iret dX6_letterOf_61 rfl (Nat.le_refl _) (Nat.le_refl _) ⟨_, _, rfl, rfl, h⟩
        · have h := h.2 c4
          by_cases c5 : x0 = 119
          · have h := h.1 c5
            refine r_lookup (tgt := 52) (off := 51) dX6_letterOf_1 (by decide) (by rw [c5]; rfl) (by decide) ?_
            refine r_iconst_0 dX6_letterOf_52 ?_
            exact r_iret dX6_letterOf_53 rfl (Nat.le_refl _) (Nat.le_refl _) ⟨_, _, rfl, rfl, h⟩
          · have h := h.2 c5
            refine r_lookup (tgt := 62) (off := 61) dX6_letterOf_1 (by decide) (by have e0 : (x0).toInt ≠ 104 := sw_ne c1; have e1 : (x0).toInt ≠ 107 := sw_ne c2; have e2 : (x0).toInt ≠ 109 := sw_ne c3; have e3 : (x0).toInt ≠ 112 := sw_ne c4; have e4 : (x0).toInt ≠ 119 := sw_ne c5; simp [Op.lookupswitch.offset, e0, e0.symm, e1, e1.symm, e2, e2.symm, e3, e3.symm, e4, e4.symm]) (by decide) ?_
            refine r_iconst_m1 dX6_letterOf_62 ?_
            exact r_iret dX6_letterOf_63 rfl (Nat.le_refl _) (Nat.le_refl _) ⟨_, _, rfl, rfl, h⟩
abbrev T_Read_digits_10 (E : EvT) (q : Nat → Nat) (D : Nat) (P : Int32 → StX → Prop) (S : StX) (y1 : Int32) (y2 : Int32) (y3 : Int32) (y4 : Int32) : Prop := RX E q iX_Read_digits D (qIx E q P) S [(0, .ref (q 6)), (1, .int (y1)), (2, .int (y2)), (3, .int (y3)), (4, .int (y4))] [] 10
set_option maxRecDepth 20000 in
theorem en_Read_digits {E : EvT} {q : Nat → Nat} {d : Nat} {x1 : Int32} {S : StX} {P : Int32 → StX → Prop} (hE : EOk E q) (h : T_Read_digits_10 E q (d + 1) P S x1 (xs_Read_at S) 0 0) : C_Read_digits E q (d + 1) x1 S P := by
  refine Cn.of rfl (Nat.le_of_ble_eq_true rfl) (ls := [(0, .ref (q 6)), (1, .int (x1))]) rfl ?_
  refine r_aload_n 0 dX6_digits_0 rfl rfl ?_
  refine xg_6_41 rfl dX6_digits_1 ?_
  refine r_istore_n [(2, .int (xs_Read_at S)), (0, .ref (q 6)), (1, .int (x1))] dX6_digits_4 rfl (Nat.le_of_ble_eq_true rfl) rfl ?_
  refine r_iconst_0 dX6_digits_5 ?_
  refine r_istore_n [(3, .int (0)), (2, .int (xs_Read_at S)), (0, .ref (q 6)), (1, .int (x1))] dX6_digits_6 rfl (Nat.le_of_ble_eq_true rfl) rfl ?_
  refine r_iconst_0 dX6_digits_7 ?_
  refine r_istore [(4, .int (0)), (3, .int (0)), (2, .int (xs_Read_at S)), (0, .ref (q 6)), (1, .int (x1))] dX6_digits_8 (Nat.le_of_ble_eq_true rfl) rfl ?_
  refine r_ls [3, 4, 2, 1, 0] (ls2 := [(0, .ref (q 6)), (1, .int (x1)), (2, .int (xs_Read_at S)), (3, .int (0)), (4, .int (0))]) rfl ?_
  exact h
set_option maxRecDepth 20000 in
theorem sg_Read_digits_10 {E : EvT} {q : Nat → Nat} {d : Nat} {S : StX} {P : Int32 → StX → Prop} {y1 : Int32} {y2 : Int32} {y3 : Int32} {y4 : Int32} (hE : EOk E q) (h : (5 < y4 → ((¬ (xs_Read_at S) = y2 → ((y3 ≤ y1 → (P y3 S)) ∧ (¬ y3 ≤ y1 → (C_Read_refuse E q d 3 y2 S (fun S5 => P y3 S5))))) ∧ ((xs_Read_at S) = y2 → (C_Read_refuse E q d 1 (xs_Read_at S) S (fun S7 => P y3 S7))))) ∧ (¬ 5 < y4 → ((xs_Read_fault S = 0 → xs_Read_at S < xs_Read_length S → rbX S = 280 ∧ 0 ≤ xs_Read_at S ∧ xs_Read_at S < 400) ∧ (((mIn (pPeek S) 48 57) = false → ((¬ (xs_Read_at S) = y2 → ((y3 ≤ y1 → (P y3 S)) ∧ (¬ y3 ≤ y1 → (C_Read_refuse E q d 3 y2 S (fun S13 => P y3 S13))))) ∧ ((xs_Read_at S) = y2 → (C_Read_refuse E q d 1 (xs_Read_at S) S (fun S15 => P y3 S15))))) ∧ ((mIn (pPeek S) 48 57) = true → ((¬ y4 = 5 → (T_Read_digits_10 E q (d + 1) P (xI S 122 ((xs_Read_at S) + 1)) y1 y2 (((y3 * 10) + (pPeek S)) - 48) (y4 + 1))) ∧ (y4 = 5 → (C_Read_refuse E q d 2 (xs_Read_at S) S (fun S18 => P 0 S18))))))))) : T_Read_digits_10 E q (d + 1) P S y1 y2 y3 y4 := by
  refine r_iload 4 dX6_digits_10 rfl ?_
  refine r_iconst_5 dX6_digits_12 ?_
  refine r_icmp_gt (tgt := 76) dX6_digits_13 (by decide) (fun c1 => ?_) (fun c1 => ?_)
  · have h := h.1 c1
    refine r_aload_n 0 dX6_digits_76 rfl rfl ?_
    refine xg_6_41 rfl dX6_digits_77 ?_
    refine r_iload_n 2 dX6_digits_80 rfl rfl ?_
    refine r_icmp_ne (tgt := 96) dX6_digits_81 (by decide) (fun c2 => ?_) (fun c2 => ?_)
    · have h := h.1 c2
      refine r_iload_n 3 dX6_digits_96 rfl rfl ?_
      refine r_iload_n 1 dX6_digits_97 rfl rfl ?_
      refine r_icmp_le (tgt := 107) dX6_digits_98 (by decide) (fun c3 => ?_) (fun c3 => ?_)
      · have h := h.1 c3
        refine r_iload_n 3 dX6_digits_107 rfl rfl ?_
        exact r_iret dX6_digits_108 rfl (Nat.le_refl _) (Nat.le_refl _) ⟨_, _, rfl, rfl, h⟩
      · have h := h.2 c3
        refine r_aload_n 0 dX6_digits_101 rfl rfl ?_
        refine r_iconst_3 dX6_digits_102 ?_
        refine r_iload_n 2 dX6_digits_103 rfl rfl ?_
        refine K6_Read_refuse rfl (Nat.le_of_ble_eq_true rfl) dX6_digits_104 (mVx h (fun S5 h => ?_))
        refine r_iload_n 3 dX6_digits_107 rfl rfl ?_
        exact r_iret dX6_digits_108 rfl (Nat.le_refl _) (Nat.le_refl _) ⟨_, _, rfl, rfl, h⟩
    · have h := h.2 c2
      refine r_aload_n 0 dX6_digits_84 rfl rfl ?_
      refine r_iconst_1 dX6_digits_85 ?_
      refine r_aload_n 0 dX6_digits_86 rfl rfl ?_
      refine xg_6_41 rfl dX6_digits_87 ?_
      refine K6_Read_refuse rfl (Nat.le_of_ble_eq_true rfl) dX6_digits_90 (mVx h (fun S7 h => ?_))
      refine r_goto (tgt := 107) dX6_digits_93 (by decide) ?_
      refine r_iload_n 3 dX6_digits_107 rfl rfl ?_
      exact r_iret dX6_digits_108 rfl (Nat.le_refl _) (Nat.le_refl _) ⟨_, _, rfl, rfl, h⟩
  · have h := h.2 c1
    refine r_aload_n 0 dX6_digits_16 rfl rfl ?_
    obtain ⟨b8, h⟩ := h
    refine KP6_Read_peek (d := d + 0) b8 rfl (Nat.le_of_ble_eq_true rfl) dX6_digits_17 ?_
    refine r_bipush_48 dX6_digits_20 ?_
    refine r_bipush_57 dX6_digits_22 ?_
    refine KN6_City_within (d := d + 0) hE rfl (Nat.le_of_ble_eq_true rfl) dX6_digits_24 ?_
    refine r_if_eqb (tgt := 76) dX6_digits_27 (by decide) (fun c9 => ?_) (fun c9 => ?_)
    · have h := h.1 c9
      refine r_aload_n 0 dX6_digits_76 rfl rfl ?_
      refine xg_6_41 rfl dX6_digits_77 ?_
      refine r_iload_n 2 dX6_digits_80 rfl rfl ?_
      refine r_icmp_ne (tgt := 96) dX6_digits_81 (by decide) (fun c10 => ?_) (fun c10 => ?_)
      · have h := h.1 c10
        refine r_iload_n 3 dX6_digits_96 rfl rfl ?_
        refine r_iload_n 1 dX6_digits_97 rfl rfl ?_
        refine r_icmp_le (tgt := 107) dX6_digits_98 (by decide) (fun c11 => ?_) (fun c11 => ?_)
        · have h := h.1 c11
          refine r_iload_n 3 dX6_digits_107 rfl rfl ?_
          exact r_iret dX6_digits_108 rfl (Nat.le_refl _) (Nat.le_refl _) ⟨_, _, rfl, rfl, h⟩
        · have h := h.2 c11
          refine r_aload_n 0 dX6_digits_101 rfl rfl ?_
          refine r_iconst_3 dX6_digits_102 ?_
          refine r_iload_n 2 dX6_digits_103 rfl rfl ?_
          refine K6_Read_refuse rfl (Nat.le_of_ble_eq_true rfl) dX6_digits_104 (mVx h (fun S13 h => ?_))
          refine r_iload_n 3 dX6_digits_107 rfl rfl ?_
          exact r_iret dX6_digits_108 rfl (Nat.le_refl _) (Nat.le_refl _) ⟨_, _, rfl, rfl, h⟩
      · have h := h.2 c10
        refine r_aload_n 0 dX6_digits_84 rfl rfl ?_
        refine r_iconst_1 dX6_digits_85 ?_
        refine r_aload_n 0 dX6_digits_86 rfl rfl ?_
        refine xg_6_41 rfl dX6_digits_87 ?_
        refine K6_Read_refuse rfl (Nat.le_of_ble_eq_true rfl) dX6_digits_90 (mVx h (fun S15 h => ?_))
        refine r_goto (tgt := 107) dX6_digits_93 (by decide) ?_
        refine r_iload_n 3 dX6_digits_107 rfl rfl ?_
        exact r_iret dX6_digits_108 rfl (Nat.le_refl _) (Nat.le_refl _) ⟨_, _, rfl, rfl, h⟩
    · have h := h.2 c9
      refine r_iload 4 dX6_digits_30 rfl ?_
      refine r_iconst_5 dX6_digits_32 ?_
      refine r_icmp_ne (tgt := 47) dX6_digits_33 (by decide) (fun c16 => ?_) (fun c16 => ?_)
      · have h := h.1 c16
        refine r_iload_n 3 dX6_digits_47 rfl rfl ?_
        refine r_bipush_10 dX6_digits_48 ?_
        refine r_imul dX6_digits_50 ?_
        refine r_aload_n 0 dX6_digits_51 rfl rfl ?_
        refine KP6_Read_peek (d := d + 0) b8 rfl (Nat.le_of_ble_eq_true rfl) dX6_digits_52 ?_
        refine r_iadd dX6_digits_55 ?_
        refine r_bipush_48 dX6_digits_56 ?_
        refine r_isub dX6_digits_58 ?_
        refine r_istore_n [(3, .int (((y3 * 10) + (pPeek S)) - 48)), (0, .ref (q 6)), (1, .int (y1)), (2, .int (y2)), (4, .int (y4))] dX6_digits_59 rfl (Nat.le_of_ble_eq_true rfl) rfl ?_
        refine r_aload_n 1 dX6_digits_60 rfl rfl ?_
        refine r_dup dX6_digits_61 rfl ?_
        refine xg_6_41 rfl dX6_digits_62 ?_
        refine r_iconst_1 dX6_digits_65 ?_
        refine r_iadd dX6_digits_66 ?_
        refine xq_6_41 rfl dX6_digits_67 ?_
        refine r_iinc 4 [(4, .int (y4 + 1)), (3, .int (((y3 * 10) + (pPeek S)) - 48)), (0, .ref (q 6)), (1, .int (y1)), (2, .int (y2))] dX6_digits_70 rfl rfl (Nat.le_of_ble_eq_true rfl) rfl ?_
        refine r_goto (tgt := 10) dX6_digits_73 (by decide) ?_
        refine r_ls [2, 3, 4, 1, 0] (ls2 := [(0, .ref (q 6)), (1, .int (y1)), (2, .int (y2)), (3, .int (((y3 * 10) + (pPeek S)) - 48)), (4, .int (y4 + 1))]) rfl ?_
        exact h
      · have h := h.2 c16
        refine r_aload_n 0 dX6_digits_36 rfl rfl ?_
        refine r_iconst_2 dX6_digits_37 ?_
        refine r_aload_n 0 dX6_digits_38 rfl rfl ?_
        refine xg_6_41 rfl dX6_digits_39 ?_
        refine K6_Read_refuse rfl (Nat.le_of_ble_eq_true rfl) dX6_digits_42 (mVx h (fun S18 h => ?_))
        refine r_iconst_0 dX6_digits_45 ?_
        exact r_iret dX6_digits_46 rfl (Nat.le_refl _) (Nat.le_refl _) ⟨_, _, rfl, rfl, h⟩
