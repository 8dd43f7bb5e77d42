set_option maxRecDepth 20000 in
theorem en_Read_take {E : EvT} {q : Nat → Nat} {d : Nat} {x1 : Int32} {S : StX} {P : Bool → StX → Prop} (h : (xs_Read_fault S = 0 → xs_Read_at S < xs_Read_length S → rbX S = 280 ∧ 0 ≤ xs_Read_at S ∧ xs_Read_at S < 400) ∧ (((pPeek S) = x1 → (P true (xI S 122 ((xs_Read_at S) + 1)))) ∧ (¬ (pPeek S) = x1 → (P false S)))) : C_Read_take E q (d + 1) x1 S P := by
  refine Cn.of rfl (Nat.le_of_ble_eq_true rfl) (ls := [(0, .ref (q 6)), (1, .int (x1))]) rfl ?_
  refine r_aload_n 0 dX6_take_0 rfl rfl ?_
  obtain ⟨b1, h⟩ := h
  refine KP6_Read_peek (d := d + 0) b1 rfl (Nat.le_of_ble_eq_true rfl) dX6_take_1 ?_
  refine r_iload_n 1 dX6_take_4 rfl rfl ?_
  refine r_icmp_eq (tgt := 10) dX6_take_5 (by decide) (fun c2 => ?_) (fun c2 => ?_)
  · have h := h.1 c2
    refine r_aload_n 0 dX6_take_10 rfl rfl ?_
    refine r_dup dX6_take_11 rfl ?_
    refine xg_6_41 rfl dX6_take_12 ?_
    refine r_iconst_1 dX6_take_15 ?_
    refine r_iadd dX6_take_16 ?_
    refine xq_6_41 rfl dX6_take_17 ?_
    refine r_iconst_1 dX6_take_20 ?_
    exact r_zret1 dX6_take_21 rfl (Nat.le_refl _) (Nat.le_refl _) ⟨_, _, rfl, rfl, h⟩
  · have h := h.2 c2
    refine r_iconst_0 dX6_take_8 ?_
    exact r_zret0 dX6_take_9 rfl (Nat.le_refl _) (Nat.le_refl _) ⟨_, _, rfl, rfl, h⟩
set_option maxRecDepth 20000 in
theorem en_Read_expect {E : EvT} {q : Nat → Nat} {d : Nat} {x1 : Int32} {S : StX} {P : StX → Prop} (h : C_Read_take E q (d + 1) x1 S (fun r1 S2 => (r1 = true → (P S2)) ∧ (r1 = false → (C_Read_refuse E q (d + 1) 1 (xs_Read_at S2) S2 (fun S5 => P S5))))) : C_Read_expect E q (d + 2) x1 S P := by
  refine Cn.of rfl (Nat.le_of_ble_eq_true rfl) (ls := [(0, .ref (q 6)), (1, .int (x1))]) rfl ?_
  refine r_aload_n 0 dX6_expect_0 rfl rfl ?_
  refine r_iload_n 1 dX6_expect_1 rfl rfl ?_
  refine K6_Read_take rfl (Nat.le_of_ble_eq_true rfl) dX6_expect_2 (mBx h (fun r1 S2 h => ?_))
  refine r_if_neb (tgt := 17) dX6_expect_5 (by decide) (fun c3 => ?_) (fun c3 => ?_)
  · have h := h.1 c3
    exact r_vret dX6_expect_17 rfl (Nat.le_refl _) (Nat.le_refl _) ⟨_, rfl, rfl, h⟩
  · have h := h.2 c3
    refine r_aload_n 0 dX6_expect_8 rfl rfl ?_
    refine r_iconst_1 dX6_expect_9 ?_
    refine r_aload_n 0 dX6_expect_10 rfl rfl ?_
    refine xg_6_41 rfl dX6_expect_11 ?_
    refine K6_Read_refuse rfl (Nat.le_of_ble_eq_true rfl) dX6_expect_14 (mVx h (fun S5 h => ?_))
    exact r_vret dX6_expect_17 rfl (Nat.le_refl _) (Nat.le_refl _) ⟨_, rfl, rfl, h⟩
set_option maxRecDepth 20000 in
theorem en_Read_opens {E : EvT} {q : Nat → Nat} {d : Nat} {x1 : Int32} {S : StX} {P : Bool → StX → Prop} (h : (x1 < 6 → (P true (xI S 122 ((xs_Read_at S) + 1)))) ∧ (¬ x1 < 6 → (C_Read_refuse E q d 5 (xs_Read_at S) S (fun S3 => P false S3)))) : C_Read_opens E q (d + 1) x1 S P := by
  refine Cn.of rfl (Nat.le_of_ble_eq_true rfl) (ls := [(0, .ref (q 6)), (1, .int (x1))]) rfl ?_
  refine r_iload_n 1 dX6_opens_0 rfl rfl ?_
  refine r_bipush_6 dX6_opens_1 ?_
  refine r_icmp_lt (tgt := 17) dX6_opens_3 (by decide) (fun c1 => ?_) (fun c1 => ?_)
  · have h := h.1 c1
    refine r_aload_n 0 dX6_opens_17 rfl rfl ?_
    refine r_dup dX6_opens_18 rfl ?_
    refine xg_6_41 rfl dX6_opens_19 ?_
    refine r_iconst_1 dX6_opens_22 ?_
    refine r_iadd dX6_opens_23 ?_
    refine xq_6_41 rfl dX6_opens_24 ?_
    refine r_iconst_1 dX6_opens_27 ?_
    exact r_zret1 dX6_opens_28 rfl (Nat.le_refl _) (Nat.le_refl _) ⟨_, _, rfl, rfl, h⟩
  · have h := h.2 c1
    refine r_aload_n 0 dX6_opens_6 rfl rfl ?_
    refine r_iconst_5 dX6_opens_7 ?_
    refine r_aload_n 0 dX6_opens_8 rfl rfl ?_
    refine xg_6_41 rfl dX6_opens_9 ?_
    refine K6_Read_refuse rfl (Nat.le_of_ble_eq_true rfl) dX6_opens_12 (mVx h (fun S3 h => ?_))
    refine r_iconst_0 dX6_opens_15 ?_
    exact r_zret0 dX6_opens_16 rfl (Nat.le_refl _) (Nat.le_refl _) ⟨_, _, rfl, rfl, h⟩
set_option maxRecDepth 20000 in
theorem en_Read_refuse {E : EvT} {q : Nat → Nat} {d : Nat} {x1 : Int32} {x2 : Int32} {S : StX} {P : StX → Prop} (h : (¬ (xs_Read_fault S) = 0 → (P S)) ∧ ((xs_Read_fault S) = 0 → (P (xI S 123 (((-1000) * x1) - x2))))) : C_Read_refuse E q d x1 x2 S P := by
  refine Cn.of rfl (Nat.le_of_ble_eq_true rfl) (ls := [(0, .ref (q 6)), (1, .int (x1)), (2, .int (x2))]) rfl ?_
  refine r_aload_n 0 dX6_refuse_0 rfl rfl ?_
  refine xg_6_44 rfl dX6_refuse_1 ?_
  refine r_if_ne (tgt := 18) dX6_refuse_4 (by decide) (fun c1 => ?_) (fun c1 => ?_)
  · have h := h.1 c1
    exact r_vret dX6_refuse_18 rfl (Nat.le_refl _) (Nat.le_refl _) ⟨_, rfl, rfl, h⟩
  · have h := h.2 c1
    refine r_aload_n 0 dX6_refuse_7 rfl rfl ?_
    refine r_sipush_m1000 dX6_refuse_8 ?_
    refine r_iload_n 1 dX6_refuse_11 rfl rfl ?_
    refine r_imul dX6_refuse_12 ?_
    refine r_iload_n 2 dX6_refuse_13 rfl rfl ?_
    refine r_isub dX6_refuse_14 ?_
    refine xq_6_44 rfl dX6_refuse_15 ?_
    exact r_vret dX6_refuse_18 rfl (Nat.le_refl _) (Nat.le_refl _) ⟨_, rfl, rfl, h⟩
set_option maxRecDepth 20000 in
theorem en_Read_write {E : EvT} {q : Nat → Nat} {d : Nat} {x1 : Int32} {S : StX} {P : Int32 → StX → Prop} (h : (160 ≤ (xs_Read_steps S) → (P ((xs_Read_steps S) - 1) S)) ∧ (¬ 160 ≤ (xs_Read_steps S) → ((0 ≤ (xs_Read_steps S) ∧ (xs_Read_steps S) < 160) ∧ (P (((xs_Read_steps S) + 1) - 1) (xI (xA S 130 (upd (xa_Read_code S) (ix (xs_Read_steps S)) x1)) 125 ((xs_Read_steps S) + 1)))))) : C_Read_write E q d x1 S P := by
  refine Cn.of rfl (Nat.le_of_ble_eq_true rfl) (ls := [(0, .ref (q 6)), (1, .int (x1))]) rfl ?_
  refine r_aload_n 0 dX6_write_0 rfl rfl ?_
  refine xg_6_50 rfl dX6_write_1 ?_
  refine r_sipush_160 dX6_write_4 ?_
  refine r_icmp_ge (tgt := 30) dX6_write_7 (by decide) (fun c1 => ?_) (fun c1 => ?_)
  · have h := h.1 c1
    refine r_aload_n 0 dX6_write_30 rfl rfl ?_
    refine xg_6_50 rfl dX6_write_31 ?_
    refine r_iconst_1 dX6_write_34 ?_
    refine r_isub dX6_write_35 ?_
    exact r_iret dX6_write_36 rfl (Nat.le_refl _) (Nat.le_refl _) ⟨_, _, rfl, rfl, h⟩
  · have h := h.2 c1
    refine r_aload_n 0 dX6_write_10 rfl rfl ?_
    refine xg_6_28 rfl dX6_write_11 ?_
    refine r_aload_n 0 dX6_write_14 rfl rfl ?_
    refine xg_6_50 rfl dX6_write_15 ?_
    refine r_iload_n 1 dX6_write_18 rfl rfl ?_
    obtain ⟨b2, h⟩ := h
    refine xt_130 b2 dX6_write_19 ?_
    refine r_aload_n 0 dX6_write_20 rfl rfl ?_
    refine r_dup dX6_write_21 rfl ?_
    refine xg_6_50 rfl dX6_write_22 ?_
    refine r_iconst_1 dX6_write_25 ?_
    refine r_iadd dX6_write_26 ?_
    refine xq_6_50 rfl dX6_write_27 ?_
    refine r_aload_n 0 dX6_write_30 rfl rfl ?_
    refine xg_6_50 rfl dX6_write_31 ?_
    refine r_iconst_1 dX6_write_34 ?_
    refine r_isub dX6_write_35 ?_
    exact r_iret dX6_write_36 rfl (Nat.le_refl _) (Nat.le_refl _) ⟨_, _, rfl, rfl, h⟩
set_option maxRecDepth 20000 in
theorem en_Read_land {E : EvT} {q : Nat → Nat} {d : Nat} {x1 : Int32} {S : StX} {P : StX → Prop} (h : (x1 < 0 → (P S)) ∧ (¬ x1 < 0 → (((xs_Read_steps S) ≤ x1 → (P S)) ∧ (¬ (xs_Read_steps S) ≤ x1 → ((0 ≤ x1 ∧ x1 < 160) ∧ (P (xA S 130 (upd (xa_Read_code S) (ix x1) ((xa_Read_code S (ix x1)) - ((((xs_Read_steps S) - 1) - x1) * 256)))))))))) : C_Read_land E q d x1 S P := by
  refine Cn.of rfl (Nat.le_of_ble_eq_true rfl) (ls := [(0, .ref (q 6)), (1, .int (x1))]) rfl ?_
  refine r_iload_n 1 dX6_land_0 rfl rfl ?_
  refine r_if_lt (tgt := 33) dX6_land_1 (by decide) (fun c1 => ?_) (fun c1 => ?_)
  · have h := h.1 c1
    exact r_vret dX6_land_33 rfl (Nat.le_refl _) (Nat.le_refl _) ⟨_, rfl, rfl, h⟩
  · have h := h.2 c1
    refine r_iload_n 1 dX6_land_4 rfl rfl ?_
    refine r_aload_n 0 dX6_land_5 rfl rfl ?_
    refine xg_6_50 rfl dX6_land_6 ?_
    refine r_icmp_ge (tgt := 33) dX6_land_9 (by decide) (fun c2 => ?_) (fun c2 => ?_)
    · have h := h.1 c2
      exact r_vret dX6_land_33 rfl (Nat.le_refl _) (Nat.le_refl _) ⟨_, rfl, rfl, h⟩
    · have h := h.2 c2
      refine r_aload_n 0 dX6_land_12 rfl rfl ?_
      refine xg_6_28 rfl dX6_land_13 ?_
      refine r_iload_n 1 dX6_land_16 rfl rfl ?_
      refine r_dup2 dX6_land_17 rfl rfl ?_
      obtain ⟨b3, h⟩ := h
      refine xl_130 b3 dX6_land_18 ?_
      refine r_aload_n 0 dX6_land_19 rfl rfl ?_
      refine xg_6_50 rfl dX6_land_20 ?_
      refine r_iconst_1 dX6_land_23 ?_
      refine r_isub dX6_land_24 ?_
      refine r_iload_n 1 dX6_land_25 rfl rfl ?_
      refine r_isub dX6_land_26 ?_
      refine r_sipush_256 dX6_land_27 ?_
      refine r_imul dX6_land_30 ?_
      refine r_isub dX6_land_31 ?_
      refine xt_130 b3 dX6_land_32 ?_
      exact r_vret dX6_land_33 rfl (Nat.le_refl _) (Nat.le_refl _) ⟨_, rfl, rfl, h⟩
set_option maxRecDepth 20000 in
theorem en_Sign_add {E : EvT} {q : Nat → Nat} {d : Nat} {x1 : Int32} {x2 : Int32} {x3 : Int32} {x4 : Int32} {S : StX} {P : StX → Prop} (h : (0 ≤ (xs_Sign_size S) ∧ (xs_Sign_size S) < 100) ∧ (P (xI (xA (xA (xA (xA S 163 (upd (xa_Sign_name S) (ix (xs_Sign_size S)) x1)) 164 (upd (xa_Sign_kind S) (ix (xs_Sign_size S)) x2)) 165 (upd (xa_Sign_place S) (ix (xs_Sign_size S)) x3)) 166 (upd (xa_Sign_week S) (ix (xs_Sign_size S)) x4)) 162 ((xs_Sign_size S) + 1)))) : C_Sign_add E q d x1 x2 x3 x4 S P := by
  refine Cn.of rfl (Nat.le_of_ble_eq_true rfl) (ls := [(0, .ref (q 8)), (1, .int (x1)), (2, .int (x2)), (3, .int (x3)), (4, .int (x4))]) rfl ?_
  refine r_aload_n 0 dX8_add_0 rfl rfl ?_
  refine xg_8_11 rfl dX8_add_1 ?_
  refine r_aload_n 0 dX8_add_4 rfl rfl ?_
  refine xg_8_38 rfl dX8_add_5 ?_
  refine r_iload_n 1 dX8_add_8 rfl rfl ?_
  obtain ⟨b1, h⟩ := h
  refine xt_163 b1 dX8_add_9 ?_
  refine r_aload_n 0 dX8_add_10 rfl rfl ?_
  refine xg_8_15 rfl dX8_add_11 ?_
  refine r_aload_n 0 dX8_add_14 rfl rfl ?_
  refine xg_8_38 rfl dX8_add_15 ?_
  refine r_iload_n 2 dX8_add_18 rfl rfl ?_
  refine xt_164 b1 dX8_add_19 ?_
  refine r_aload_n 0 dX8_add_20 rfl rfl ?_
  refine xg_8_18 rfl dX8_add_21 ?_
  refine r_aload_n 0 dX8_add_24 rfl rfl ?_
  refine xg_8_38 rfl dX8_add_25 ?_
  refine r_iload_n 3 dX8_add_28 rfl rfl ?_
  refine xt_165 b1 dX8_add_29 ?_
  refine r_aload_n 0 dX8_add_30 rfl rfl ?_
  refine xg_8_21 rfl dX8_add_31 ?_
  refine r_aload_n 0 dX8_add_34 rfl rfl ?_
  refine xg_8_38 rfl dX8_add_35 ?_
  refine r_iload 4 dX8_add_38 rfl ?_
  refine xt_166 b1 dX8_add_40 ?_
  refine r_aload_n 0 dX8_add_41 rfl rfl ?_
  refine r_dup dX8_add_42 rfl ?_
  refine xg_8_38 rfl dX8_add_43 ?_
  refine r_iconst_1 dX8_add_46 ?_
  refine r_iadd dX8_add_47 ?_
  refine xq_8_38 rfl dX8_add_48 ?_
  exact r_vret dX8_add_51 rfl (Nat.le_refl _) (Nat.le_refl _) ⟨_, rfl, rfl, h⟩
abbrev T_Sign_weigh_18 (E : EvT) (q : Nat → Nat) (D : Nat) (P : StX → Prop) (S : StX) (y1 : Int32) (y2 : Int32) : Prop := RX E q iX_Sign_weigh D (qVx E q P) S [(0, .ref (q 8)), (1, .int (y1)), (2, .int (y2))] [] 18
set_option maxRecDepth 20000 in
theorem en_Sign_weigh {E : EvT} {q : Nat → Nat} {d : Nat} {x1 : Int32} {S : StX} {P : StX → Prop} (h : T_Sign_weigh_18 E q (d + 6) P (xA (xA S 167 (fillF 30 0 (xa_Sign_worth S))) 168 (fillF 30 0 (xa_Sign_seen S))) x1 0) : C_Sign_weigh E q (d + 6) x1 S P := by
  refine Cn.of rfl (Nat.le_of_ble_eq_true rfl) (ls := [(0, .ref (q 8)), (1, .int (x1))]) rfl ?_
  refine r_aload_n 0 dX8_weigh_0 rfl rfl ?_
  refine xg_8_24 rfl dX8_weigh_1 ?_
  refine r_iconst_0 dX8_weigh_4 ?_
  refine KP8_Jfill_167 (d := d + 5) rfl (Nat.le_of_ble_eq_true rfl) dX8_weigh_5 ?_
  refine r_aload_n 0 dX8_weigh_8 rfl rfl ?_
  refine xg_8_27 rfl dX8_weigh_9 ?_
  refine r_iconst_0 dX8_weigh_12 ?_
  refine KP8_Jfill_168 (d := d + 5) rfl (Nat.le_of_ble_eq_true rfl) dX8_weigh_13 ?_
  refine r_iconst_0 dX8_weigh_16 ?_
  refine r_istore_n [(2, .int (0)), (0, .ref (q 8)), (1, .int (x1))] dX8_weigh_17 rfl (Nat.le_of_ble_eq_true rfl) rfl ?_
  refine r_ls [1, 2, 0] (ls2 := [(0, .ref (q 8)), (1, .int (x1)), (2, .int (0))]) rfl ?_
  exact h
set_option maxRecDepth 20000 in
theorem sg_Sign_weigh_18 {E : EvT} {q : Nat → Nat} {d : Nat} {S : StX} {P : StX → Prop} {y1 : Int32} {y2 : Int32} (h : ((xs_Sign_size S) ≤ y2 → (P S)) ∧ (¬ (xs_Sign_size S) ≤ y2 → ((0 ≤ y2 ∧ y2 < 100) ∧ ((¬ (xa_Sign_place S (ix y2)) = y1 → (T_Sign_weigh_18 E q (d + 6) P S y1 (y2 + 1))) ∧ ((xa_Sign_place S (ix y2)) = y1 → ((0 ≤ y1 ∧ y1 < 30) ∧ (C_Book_ask E q (d + 5) (xa_Sign_week S (ix y2)) 0 (xa_Sign_kind S (ix y2)) 0 (xa_Plan_kind S (ix y1)) S (fun S6 => (0 ≤ (xa_Sign_name S6 (ix y2)) ∧ (xa_Sign_name S6 (ix y2)) < 30) ∧ (C_Book_signWorth E q (d + 5) S6 (fun r8 S9 => (0 ≤ (xa_Sign_name S9 (ix y2)) ∧ (xa_Sign_name S9 (ix y2)) < 30) ∧ (T_Sign_weigh_18 E q (d + 6) P (xA (xA S9 167 (upd (xa_Sign_worth S9) (ix (xa_Sign_name S6 (ix y2))) ((xa_Sign_worth S6 (ix (xa_Sign_name S6 (ix y2)))) + r8))) 168 (upd (xa_Sign_seen S9) (ix (xa_Sign_name S9 (ix y2))) ((xa_Sign_seen S9 (ix (xa_Sign_name S9 (ix y2)))) + 1))) y1 (y2 + 1)))))))))))) : T_Sign_weigh_18 E q (d + 6) P S y1 y2 := by
  refine r_iload_n 2 dX8_weigh_18 rfl rfl ?_
  refine r_aload_n 0 dX8_weigh_19 rfl rfl ?_
  refine xg_8_38 rfl dX8_weigh_20 ?_
  refine r_icmp_ge (tgt := 108) dX8_weigh_23 (by decide) (fun c1 => ?_) (fun c1 => ?_)
  · have h := h.1 c1
    exact r_vret dX8_weigh_108 rfl (Nat.le_refl _) (Nat.le_refl _) ⟨_, rfl, rfl, h⟩
  · have h := h.2 c1
    refine r_aload_n 0 dX8_weigh_26 rfl rfl ?_
    refine xg_8_18 rfl dX8_weigh_27 ?_
    refine r_iload_n 2 dX8_weigh_30 rfl rfl ?_
    obtain ⟨b2, h⟩ := h
    refine xl_165 b2 dX8_weigh_31 ?_
    refine r_iload_n 1 dX8_weigh_32 rfl rfl ?_
    refine r_icmp_ne (tgt := 102) dX8_weigh_33 (by decide) (fun c3 => ?_) (fun c3 => ?_)
    · have h := h.1 c3
      refine r_iinc 2 [(2, .int (y2 + 1)), (0, .ref (q 8)), (1, .int (y1))] dX8_weigh_102 rfl rfl (Nat.le_of_ble_eq_true rfl) rfl ?_
      refine r_goto (tgt := 18) dX8_weigh_105 (by decide) ?_
      refine r_ls [1, 2, 0] (ls2 := [(0, .ref (q 8)), (1, .int (y1)), (2, .int (y2 + 1))]) rfl ?_
      exact h
    · have h := h.2 c3
      refine r_aload_n 0 dX8_weigh_36 rfl rfl ?_
      refine xg_8_34 rfl dX8_weigh_37 ?_
      refine r_aload_n 0 dX8_weigh_40 rfl rfl ?_
      refine xg_8_21 rfl dX8_weigh_41 ?_
      refine r_iload_n 2 dX8_weigh_44 rfl rfl ?_
      refine xl_166 b2 dX8_weigh_45 ?_
      refine r_iconst_0 dX8_weigh_46 ?_
      refine r_aload_n 0 dX8_weigh_47 rfl rfl ?_
      refine xg_8_15 rfl dX8_weigh_48 ?_
      refine r_iload_n 2 dX8_weigh_51 rfl rfl ?_
      refine xl_164 b2 dX8_weigh_52 ?_
      refine r_iconst_0 dX8_weigh_53 ?_
      refine r_aload_n 0 dX8_weigh_54 rfl rfl ?_
      refine xg_8_30 rfl dX8_weigh_55 ?_
      refine xg_8_48 rfl dX8_weigh_58 ?_
      refine r_iload_n 1 dX8_weigh_61 rfl rfl ?_
      obtain ⟨b4, h⟩ := h
      refine xl_83 b4 dX8_weigh_62 ?_
      refine K8_Book_ask rfl (Nat.le_of_ble_eq_true rfl) dX8_weigh_63 (mVx h (fun S6 h => ?_))
      refine r_aload_n 0 dX8_weigh_66 rfl rfl ?_
      refine xg_8_24 rfl dX8_weigh_67 ?_
      refine r_aload_n 0 dX8_weigh_70 rfl rfl ?_
      refine xg_8_11 rfl dX8_weigh_71 ?_
      refine r_iload_n 2 dX8_weigh_74 rfl rfl ?_
      refine xl_163 b2 dX8_weigh_75 ?_
      refine r_dup2 dX8_weigh_76 rfl rfl ?_
      obtain ⟨b7, h⟩ := h
      refine xl_167 b7 dX8_weigh_77 ?_
      refine r_aload_n 0 dX8_weigh_78 rfl rfl ?_
      refine xg_8_34 rfl dX8_weigh_79 ?_
      refine K8_Book_signWorth rfl (Nat.le_of_ble_eq_true rfl) dX8_weigh_82 (mIx h (fun r8 S9 h => ?_))
      refine r_iadd dX8_weigh_85 ?_
      refine xt_167 b7 dX8_weigh_86 ?_
      refine r_aload_n 0 dX8_weigh_87 rfl rfl ?_
      refine xg_8_27 rfl dX8_weigh_88 ?_
      refine r_aload_n 0 dX8_weigh_91 rfl rfl ?_
      refine xg_8_11 rfl dX8_weigh_92 ?_
      refine r_iload_n 2 dX8_weigh_95 rfl rfl ?_
      refine xl_163 b2 dX8_weigh_96 ?_
      refine r_dup2 dX8_weigh_97 rfl rfl ?_
      obtain ⟨b10, h⟩ := h
      refine xl_168 b10 dX8_weigh_98 ?_
      refine r_iconst_1 dX8_weigh_99 ?_
      refine r_iadd dX8_weigh_100 ?_
      refine xt_168 b10 dX8_weigh_101 ?_
      refine r_iinc 2 [(2, .int (y2 + 1)), (0, .ref (q 8)), (1, .int (y1))] dX8_weigh_102 rfl rfl (Nat.le_of_ble_eq_true rfl) rfl ?_
      refine r_goto (tgt := 18) dX8_weigh_105 (by decide) ?_
      refine r_ls [1, 2, 0] (ls2 := [(0, .ref (q 8)), (1, .int (y1)), (2, .int (y2 + 1))]) rfl ?_
      exact h
abbrev T_Sign_strongest_4 (E : EvT) (q : Nat → Nat) (D : Nat) (P : Int32 → StX → Prop) (S : StX) (y1 : Int32) (y2 : Int32) : Prop := RX E q iX_Sign_strongest D (qIx E q P) S [(0, .ref (q 8)), (1, .int (y1)), (2, .int (y2))] [] 4
set_option maxRecDepth 20000 in
theorem en_Sign_strongest {E : EvT} {q : Nat → Nat} {d : Nat} {S : StX} {P : Int32 → StX → Prop} (h : T_Sign_strongest_4 E q d P S (-1) 0) : C_Sign_strongest E q d S P := by
  refine Cn.of rfl (Nat.le_of_ble_eq_true rfl) (ls := [(0, .ref (q 8))]) rfl ?_
  refine r_iconst_m1 dX8_strongest_0 ?_
  refine r_istore_n [(1, .int ((-1))), (0, .ref (q 8))] dX8_strongest_1 rfl (Nat.le_of_ble_eq_true rfl) rfl ?_
  refine r_iconst_0 dX8_strongest_2 ?_
  refine r_istore_n [(2, .int (0)), (1, .int ((-1))), (0, .ref (q 8))] dX8_strongest_3 rfl (Nat.le_of_ble_eq_true rfl) rfl ?_
  refine r_ls [2, 1, 0] (ls2 := [(0, .ref (q 8)), (1, .int ((-1))), (2, .int (0))]) rfl ?_
  exact h
set_option maxRecDepth 20000 in
theorem sg_Sign_strongest_4 {E : EvT} {q : Nat → Nat} {d : Nat} {S : StX} {P : Int32 → StX → Prop} {y1 : Int32} {y2 : Int32} (h : (30 ≤ y2 → (P y1 S)) ∧ (¬ 30 ≤ y2 → ((0 ≤ y2 ∧ y2 < 30) ∧ (((xa_Sign_seen S (ix y2)) < 2 → (T_Sign_strongest_4 E q d P S y1 (y2 + 1))) ∧ (¬ (xa_Sign_seen S (ix y2)) < 2 → ((¬ y1 = (-1) → ((0 ≤ y1 ∧ y1 < 30) ∧ (((xa_Sign_worth S (ix y2)) ≤ (xa_Sign_worth S (ix y1)) → (T_Sign_strongest_4 E q d P S y1 (y2 + 1))) ∧ (¬ (xa_Sign_worth S (ix y2)) ≤ (xa_Sign_worth S (ix y1)) → (T_Sign_strongest_4 E q d P S y2 (y2 + 1)))))) ∧ (y1 = (-1) → (((xa_Sign_worth S (ix y2)) ≤ 0 → (T_Sign_strongest_4 E q d P S y1 (y2 + 1))) ∧ (¬ (xa_Sign_worth S (ix y2)) ≤ 0 → (T_Sign_strongest_4 E q d P S y2 (y2 + 1))))))))))) : T_Sign_strongest_4 E q d P S y1 y2 := by
  refine r_iload_n 2 dX8_strongest_4 rfl rfl ?_
  refine r_bipush_30 dX8_strongest_5 ?_
  refine r_icmp_ge (tgt := 52) dX8_strongest_7 (by decide) (fun c1 => ?_) (fun c1 => ?_)
  · have h := h.1 c1
    refine r_iload_n 1 dX8_strongest_52 rfl rfl ?_
    exact r_iret dX8_strongest_53 rfl (Nat.le_refl _) (Nat.le_refl _) ⟨_, _, rfl, rfl, h⟩
  · have h := h.2 c1
    refine r_aload_n 0 dX8_strongest_10 rfl rfl ?_
    refine xg_8_27 rfl dX8_strongest_11 ?_
    refine r_iload_n 2 dX8_strongest_14 rfl rfl ?_
    obtain ⟨b2, h⟩ := h
    refine xl_168 b2 dX8_strongest_15 ?_
    refine r_iconst_2 dX8_strongest_16 ?_
    refine r_icmp_lt (tgt := 46) dX8_strongest_17 (by decide) (fun c3 => ?_) (fun c3 => ?_)
    · have h := h.1 c3
      refine r_iinc 2 [(2, .int (y2 + 1)), (0, .ref (q 8)), (1, .int (y1))] dX8_strongest_46 rfl rfl (Nat.le_of_ble_eq_true rfl) rfl ?_
      refine r_goto (tgt := 4) dX8_strongest_49 (by decide) ?_
      refine r_ls [1, 2, 0] (ls2 := [(0, .ref (q 8)), (1, .int (y1)), (2, .int (y2 + 1))]) rfl ?_
      exact h
    · have h := h.2 c3
      refine r_aload_n 0 dX8_strongest_20 rfl rfl ?_
      refine xg_8_24 rfl dX8_strongest_21 ?_
      refine r_iload_n 2 dX8_strongest_24 rfl rfl ?_
      refine xl_167 b2 dX8_strongest_25 ?_
      refine r_iload_n 1 dX8_strongest_26 rfl rfl ?_
      refine r_iconst_m1 dX8_strongest_27 ?_
      refine r_icmp_ne (tgt := 35) dX8_strongest_28 (by decide) (fun c4 => ?_) (fun c4 => ?_)
      · have h := h.1 c4
        refine r_aload_n 0 dX8_strongest_35 rfl rfl ?_
        refine xg_8_24 rfl dX8_strongest_36 ?_
        refine r_iload_n 1 dX8_strongest_39 rfl rfl ?_
        obtain ⟨b5, h⟩ := h
        refine xl_167 b5 dX8_strongest_40 ?_
        refine r_icmp_le (tgt := 46) dX8_strongest_41 (by decide) (fun c6 => ?_) (fun c6 => ?_)
        · have h := h.1 c6
          refine r_iinc 2 [(2, .int (y2 + 1)), (0, .ref (q 8)), (1, .int (y1))] dX8_strongest_46 rfl rfl (Nat.le_of_ble_eq_true rfl) rfl ?_
          refine r_goto (tgt := 4) dX8_strongest_49 (by decide) ?_
          refine r_ls [1, 2, 0] (ls2 := [(0, .ref (q 8)), (1, .int (y1)), (2, .int (y2 + 1))]) rfl ?_
          exact h
        · have h := h.2 c6
          refine r_iload_n 2 dX8_strongest_44 rfl rfl ?_
          refine r_istore_n [(1, .int (y2)), (0, .ref (q 8)), (2, .int (y2))] dX8_strongest_45 rfl (Nat.le_of_ble_eq_true rfl) rfl ?_
          refine r_iinc 2 [(2, .int (y2 + 1)), (1, .int (y2)), (0, .ref (q 8))] dX8_strongest_46 rfl rfl (Nat.le_of_ble_eq_true rfl) rfl ?_
          refine r_goto (tgt := 4) dX8_strongest_49 (by decide) ?_
          refine r_ls [2, 1, 0] (ls2 := [(0, .ref (q 8)), (1, .int (y2)), (2, .int (y2 + 1))]) rfl ?_
          exact h
      · have h := h.2 c4
        refine r_iconst_0 dX8_strongest_31 ?_
        refine r_goto (tgt := 41) dX8_strongest_32 (by decide) ?_
        refine r_icmp_le (tgt := 46) dX8_strongest_41 (by decide) (fun c7 => ?_) (fun c7 => ?_)
        · have h := h.1 c7
          refine r_iinc 2 [(2, .int (y2 + 1)), (0, .ref (q 8)), (1, .int (y1))] dX8_strongest_46 rfl rfl (Nat.le_of_ble_eq_true rfl) rfl ?_
          refine r_goto (tgt := 4) dX8_strongest_49 (by decide) ?_
          refine r_ls [1, 2, 0] (ls2 := [(0, .ref (q 8)), (1, .int (y1)), (2, .int (y2 + 1))]) rfl ?_
          exact h
        · have h := h.2 c7
          refine r_iload_n 2 dX8_strongest_44 rfl rfl ?_
          refine r_istore_n [(1, .int (y2)), (0, .ref (q 8)), (2, .int (y2))] dX8_strongest_45 rfl (Nat.le_of_ble_eq_true rfl) rfl ?_
          refine r_iinc 2 [(2, .int (y2 + 1)), (1, .int (y2)), (0, .ref (q 8))] dX8_strongest_46 rfl rfl (Nat.le_of_ble_eq_true rfl) rfl ?_
          refine r_goto (tgt := 4) dX8_strongest_49 (by decide) ?_
          refine r_ls [2, 1, 0] (ls2 := [(0, .ref (q 8)), (1, .int (y2)), (2, .int (y2 + 1))]) rfl ?_
          exact h
abbrev T_Sign_rivals_4 (E : EvT) (q : Nat → Nat) (D : Nat) (P : Int32 → StX → Prop) (S : StX) (y1 : Int32) (y2 : Int32) (y3 : Int32) : Prop := RX E q iX_Sign_rivals D (qIx E q P) S [(0, .ref (q 8)), (1, .int (y1)), (2, .int (y2)), (3, .int (y3))] [] 4
set_option maxRecDepth 20000 in
theorem en_Sign_rivals {E : EvT} {q : Nat → Nat} {d : Nat} {x1 : Int32} {S : StX} {P : Int32 → StX → Prop} (h : T_Sign_rivals_4 E q d P S x1 0 0) : C_Sign_rivals E q d x1 S P := by
  refine Cn.of rfl (Nat.le_of_ble_eq_true rfl) (ls := [(0, .ref (q 8)), (1, .int (x1))]) rfl ?_
  refine r_iconst_0 dX8_rivals_0 ?_
  refine r_istore_n [(2, .int (0)), (0, .ref (q 8)), (1, .int (x1))] dX8_rivals_1 rfl (Nat.le_of_ble_eq_true rfl) rfl ?_
  refine r_iconst_0 dX8_rivals_2 ?_
  refine r_istore_n [(3, .int (0)), (2, .int (0)), (0, .ref (q 8)), (1, .int (x1))] dX8_rivals_3 rfl (Nat.le_of_ble_eq_true rfl) rfl ?_
  refine r_ls [2, 3, 1, 0] (ls2 := [(0, .ref (q 8)), (1, .int (x1)), (2, .int (0)), (3, .int (0))]) rfl ?_
  exact h
set_option maxRecDepth 20000 in
theorem sg_Sign_rivals_4 {E : EvT} {q : Nat → Nat} {d : Nat} {S : StX} {P : Int32 → StX → Prop} {y1 : Int32} {y2 : Int32} {y3 : Int32} (h : (30 ≤ y3 → (P y2 S)) ∧ (¬ 30 ≤ y3 → ((0 ≤ y3 ∧ y3 < 30) ∧ (((xa_Sign_seen S (ix y3)) < 2 → (T_Sign_rivals_4 E q d P S y1 y2 (y3 + 1))) ∧ (¬ (xa_Sign_seen S (ix y3)) < 2 → (((2 * (xa_Sign_worth S (ix y3))) < y1 → (T_Sign_rivals_4 E q d P S y1 y2 (y3 + 1))) ∧ (¬ (2 * (xa_Sign_worth S (ix y3))) < y1 → (T_Sign_rivals_4 E q d P S y1 (y2 + 1) (y3 + 1))))))))) : T_Sign_rivals_4 E q d P S y1 y2 y3 := by
  refine r_iload_n 3 dX8_rivals_4 rfl rfl ?_
  refine r_bipush_30 dX8_rivals_5 ?_
  refine r_icmp_ge (tgt := 41) dX8_rivals_7 (by decide) (fun c1 => ?_) (fun c1 => ?_)
  · have h := h.1 c1
    refine r_iload_n 2 dX8_rivals_41 rfl rfl ?_
    exact r_iret dX8_rivals_42 rfl (Nat.le_refl _) (Nat.le_refl _) ⟨_, _, rfl, rfl, h⟩
  · have h := h.2 c1
    refine r_aload_n 0 dX8_rivals_10 rfl rfl ?_
    refine xg_8_27 rfl dX8_rivals_11 ?_
    refine r_iload_n 3 dX8_rivals_14 rfl rfl ?_
    obtain ⟨b2, h⟩ := h
    refine xl_168 b2 dX8_rivals_15 ?_
    refine r_iconst_2 dX8_rivals_16 ?_
    refine r_icmp_lt (tgt := 35) dX8_rivals_17 (by decide) (fun c3 => ?_) (fun c3 => ?_)
    · have h := h.1 c3
      refine r_iinc 3 [(3, .int (y3 + 1)), (0, .ref (q 8)), (1, .int (y1)), (2, .int (y2))] dX8_rivals_35 rfl rfl (Nat.le_of_ble_eq_true rfl) rfl ?_
      refine r_goto (tgt := 4) dX8_rivals_38 (by decide) ?_
      refine r_ls [1, 2, 3, 0] (ls2 := [(0, .ref (q 8)), (1, .int (y1)), (2, .int (y2)), (3, .int (y3 + 1))]) rfl ?_
      exact h
    · have h := h.2 c3
      refine r_iconst_2 dX8_rivals_20 ?_
      refine r_aload_n 0 dX8_rivals_21 rfl rfl ?_
      refine xg_8_24 rfl dX8_rivals_22 ?_
      refine r_iload_n 3 dX8_rivals_25 rfl rfl ?_
      refine xl_167 b2 dX8_rivals_26 ?_
      refine r_imul dX8_rivals_27 ?_
      refine r_iload_n 1 dX8_rivals_28 rfl rfl ?_
      refine r_icmp_lt (tgt := 35) dX8_rivals_29 (by decide) (fun c4 => ?_) (fun c4 => ?_)
      · have h := h.1 c4
        refine r_iinc 3 [(3, .int (y3 + 1)), (0, .ref (q 8)), (1, .int (y1)), (2, .int (y2))] dX8_rivals_35 rfl rfl (Nat.le_of_ble_eq_true rfl) rfl ?_
        refine r_goto (tgt := 4) dX8_rivals_38 (by decide) ?_
        refine r_ls [1, 2, 3, 0] (ls2 := [(0, .ref (q 8)), (1, .int (y1)), (2, .int (y2)), (3, .int (y3 + 1))]) rfl ?_
        exact h
      · have h := h.2 c4
        refine r_iinc 2 [(2, .int (y2 + 1)), (0, .ref (q 8)), (1, .int (y1)), (3, .int (y3))] dX8_rivals_32 rfl rfl (Nat.le_of_ble_eq_true rfl) rfl ?_
        refine r_iinc 3 [(3, .int (y3 + 1)), (2, .int (y2 + 1)), (0, .ref (q 8)), (1, .int (y1))] dX8_rivals_35 rfl rfl (Nat.le_of_ble_eq_true rfl) rfl ?_
        refine r_goto (tgt := 4) dX8_rivals_38 (by decide) ?_
        refine r_ls [2, 3, 1, 0] (ls2 := [(0, .ref (q 8)), (1, .int (y1)), (2, .int (y2 + 1)), (3, .int (y3 + 1))]) rfl ?_
        exact h
abbrev T_Tape_append_3 (E : EvT) (q : Nat → Nat) (D : Nat) (P : StX → Prop) (S : StX) (y1 : Int32) (y2 : Int32) : Prop := RX E q iX_Tape_append D (qVx E q P) S [(0, .ref (q 9)), (1, .int (y1)), (2, .int (y2))] [] 3
set_option maxRecDepth 20000 in
theorem en_Tape_append {E : EvT} {q : Nat → Nat} {d : Nat} {x1 : Int32} {S : StX} {P : StX → Prop} (h : T_Tape_append_3 E q d P S x1 24) : C_Tape_append E q d x1 S P := by
  refine Cn.of rfl (Nat.le_of_ble_eq_true rfl) (ls := [(0, .ref (q 9)), (1, .int (x1))]) rfl ?_
  refine r_bipush_24 dX9_append_0 ?_
  refine r_istore_n [(2, .int (24)), (0, .ref (q 9)), (1, .int (x1))] dX9_append_2 rfl (Nat.le_of_ble_eq_true rfl) rfl ?_
  refine r_ls [1, 2, 0] (ls2 := [(0, .ref (q 9)), (1, .int (x1)), (2, .int (24))]) rfl ?_
  exact h
set_option maxRecDepth 20000 in
theorem sg_Tape_append_3 {E : EvT} {q : Nat → Nat} {d : Nat} {S : StX} {P : StX → Prop} {y1 : Int32} {y2 : Int32} (h : (y2 < 0 → (P S)) ∧ (¬ y2 < 0 → ((400 ≤ (xs_Tape_length S) → (P S)) ∧ (¬ 400 ≤ (xs_Tape_length S) → ((0 ≤ (xs_Tape_length S) ∧ (xs_Tape_length S) < 400) ∧ (T_Tape_append_3 E q d P (xI (xA S 180 (upd (xa_Tape_bytes S) (ix (xs_Tape_length S)) (vp_nar .byte ((y1 >>> (y2 &&& 31)).toInt8.toInt32)))) 181 ((xs_Tape_length S) + 1)) y1 (y2 + (-8)))))))) : T_Tape_append_3 E q d P S y1 y2 := by
  refine r_iload_n 2 dX9_append_3 rfl rfl ?_
  refine r_if_lt (tgt := 46) dX9_append_4 (by decide) (fun c1 => ?_) (fun c1 => ?_)
  · have h := h.1 c1
    exact r_vret dX9_append_46 rfl (Nat.le_refl _) (Nat.le_refl _) ⟨_, rfl, rfl, h⟩
  · have h := h.2 c1
    refine r_aload_n 0 dX9_append_7 rfl rfl ?_
    refine xg_9_13 rfl dX9_append_8 ?_
    refine r_sipush_400 dX9_append_11 ?_
    refine r_icmp_ge (tgt := 46) dX9_append_14 (by decide) (fun c2 => ?_) (fun c2 => ?_)
    · have h := h.1 c2
      exact r_vret dX9_append_46 rfl (Nat.le_refl _) (Nat.le_refl _) ⟨_, rfl, rfl, h⟩
    · have h := h.2 c2
      refine r_aload_n 0 dX9_append_17 rfl rfl ?_
      refine xg_9_9 rfl dX9_append_18 ?_
      refine r_aload_n 0 dX9_append_21 rfl rfl ?_
      refine xg_9_13 rfl dX9_append_22 ?_
      refine r_iload_n 1 dX9_append_25 rfl rfl ?_
      refine r_iload_n 2 dX9_append_26 rfl rfl ?_
      refine r_ishr dX9_append_27 ?_
      refine r_i2b dX9_append_28 ?_
      obtain ⟨b3, h⟩ := h
      refine xt_180 b3 dX9_append_29 ?_
      refine r_aload_n 0 dX9_append_30 rfl rfl ?_
      refine r_dup dX9_append_31 rfl ?_
      refine xg_9_13 rfl dX9_append_32 ?_
      refine r_iconst_1 dX9_append_35 ?_
      refine r_iadd dX9_append_36 ?_
      refine xq_9_13 rfl dX9_append_37 ?_
      refine r_iinc 2 [(2, .int (y2 + (-8))), (0, .ref (q 9)), (1, .int (y1))] dX9_append_40 rfl rfl (Nat.le_of_ble_eq_true rfl) rfl ?_
      refine r_goto (tgt := 3) dX9_append_43 (by decide) ?_
      refine r_ls [1, 2, 0] (ls2 := [(0, .ref (q 9)), (1, .int (y1)), (2, .int (y2 + (-8)))]) rfl ?_
      exact h
set_option maxRecDepth 20000 in
theorem en_Tape_clear {E : EvT} {q : Nat → Nat} {d : Nat} {S : StX} {P : StX → Prop} (h : P (xI S 181 0)) : C_Tape_clear E q d S P := by
  refine Cn.of rfl (Nat.le_of_ble_eq_true rfl) (ls := [(0, .ref (q 9))]) rfl ?_
  refine r_aload_n 0 dX9_clear_0 rfl rfl ?_
  refine r_iconst_0 dX9_clear_1 ?_
  refine xq_9_13 rfl dX9_clear_2 ?_
  exact r_vret dX9_clear_5 rfl (Nat.le_refl _) (Nat.le_refl _) ⟨_, rfl, rfl, h⟩
abbrev T_Tape_whole_16 (E : EvT) (q : Nat → Nat) (D : Nat) (P : Int32 → StX → Prop) (S : StX) (y1 : Int32) (y2 : Int32) (y3 : Int32) : Prop := RX E q iX_Tape_whole D (qIx E q P) S [(0, .ref (q 9)), (1, .int (y1)), (2, .int (y2)), (3, .int (y3))] [] 16
set_option maxRecDepth 20000 in
theorem en_Tape_whole {E : EvT} {q : Nat → Nat} {d : Nat} {x1 : Int32} {S : StX} {P : Int32 → StX → Prop} (h : (x1 < 0 → (P 0 S)) ∧ (¬ x1 < 0 → ((x1 ≤ 99 → (T_Tape_whole_16 E q d P S x1 0 0)) ∧ (¬ x1 ≤ 99 → (P 0 S))))) : C_Tape_whole E q d x1 S P := by
  refine Cn.of rfl (Nat.le_of_ble_eq_true rfl) (ls := [(0, .ref (q 9)), (1, .int (x1))]) rfl ?_
  refine r_iload_n 1 dX9_whole_0 rfl rfl ?_
  refine r_if_lt (tgt := 10) dX9_whole_1 (by decide) (fun c1 => ?_) (fun c1 => ?_)
  · have h := h.1 c1
    refine r_iconst_0 dX9_whole_10 ?_
    exact r_iret dX9_whole_11 rfl (Nat.le_refl _) (Nat.le_refl _) ⟨_, _, rfl, rfl, h⟩
  · have h := h.2 c1
    refine r_iload_n 1 dX9_whole_4 rfl rfl ?_
    refine r_bipush_99 dX9_whole_5 ?_
    refine r_icmp_le (tgt := 12) dX9_whole_7 (by decide) (fun c2 => ?_) (fun c2 => ?_)
    · have h := h.1 c2
      refine r_iconst_0 dX9_whole_12 ?_
      refine r_istore_n [(2, .int (0)), (0, .ref (q 9)), (1, .int (x1))] dX9_whole_13 rfl (Nat.le_of_ble_eq_true rfl) rfl ?_
      refine r_iconst_0 dX9_whole_14 ?_
      refine r_istore_n [(3, .int (0)), (2, .int (0)), (0, .ref (q 9)), (1, .int (x1))] dX9_whole_15 rfl (Nat.le_of_ble_eq_true rfl) rfl ?_
      refine r_ls [2, 3, 1, 0] (ls2 := [(0, .ref (q 9)), (1, .int (x1)), (2, .int (0)), (3, .int (0))]) rfl ?_
      exact h
    · have h := h.2 c2
      refine r_iconst_0 dX9_whole_10 ?_
      exact r_iret dX9_whole_11 rfl (Nat.le_refl _) (Nat.le_refl _) ⟨_, _, rfl, rfl, h⟩
set_option maxRecDepth 20000 in
theorem sg_Tape_whole_16 {E : EvT} {q : Nat → Nat} {d : Nat} {S : StX} {P : Int32 → StX → Prop} {y1 : Int32} {y2 : Int32} {y3 : Int32} (h : (4 ≤ y3 → (P y2 S)) ∧ (¬ 4 ≤ y3 → ((0 ≤ ((4 * y1) + y3) ∧ ((4 * y1) + y3) < 400) ∧ (∀ v3, v3 = (y2 <<< (8 &&& 31)) ||| ((xa_Tape_bytes S (ix ((4 * y1) + y3))) &&& 255) → (T_Tape_whole_16 E q d P S y1 v3 (y3 + 1)))))) : T_Tape_whole_16 E q d P S y1 y2 y3 := by
  refine r_iload_n 3 dX9_whole_16 rfl rfl ?_
  refine r_iconst_4 dX9_whole_17 ?_
  refine r_icmp_ge (tgt := 47) dX9_whole_18 (by decide) (fun c1 => ?_) (fun c1 => ?_)
  · have h := h.1 c1
    refine r_iload_n 2 dX9_whole_47 rfl rfl ?_
    exact r_iret dX9_whole_48 rfl (Nat.le_refl _) (Nat.le_refl _) ⟨_, _, rfl, rfl, h⟩
  · have h := h.2 c1
    refine r_iload_n 2 dX9_whole_21 rfl rfl ?_
    refine r_bipush_8 dX9_whole_22 ?_
    refine r_ishl dX9_whole_24 ?_
    refine r_aload_n 0 dX9_whole_25 rfl rfl ?_
    refine xg_9_9 rfl dX9_whole_26 ?_
    refine r_iconst_4 dX9_whole_29 ?_
    refine r_iload_n 1 dX9_whole_30 rfl rfl ?_
    refine r_imul dX9_whole_31 ?_
    refine r_iload_n 3 dX9_whole_32 rfl rfl ?_
    refine r_iadd dX9_whole_33 ?_
    obtain ⟨b2, h⟩ := h
    refine xl_180 b2 dX9_whole_34 ?_
    refine r_sipush_255 dX9_whole_35 ?_
    refine r_iand dX9_whole_38 ?_
    refine r_ior dX9_whole_39 ?_
    refine r_nm (fun v3 ev3 => ?_)
    have h := h v3 ev3
    refine r_istore_n [(2, .int (v3)), (0, .ref (q 9)), (1, .int (y1)), (3, .int (y3))] dX9_whole_40 rfl (Nat.le_of_ble_eq_true rfl) rfl ?_
    refine r_iinc 3 [(3, .int (y3 + 1)), (2, .int (v3)), (0, .ref (q 9)), (1, .int (y1))] dX9_whole_41 rfl rfl (Nat.le_of_ble_eq_true rfl) rfl ?_
    refine r_goto (tgt := 16) dX9_whole_44 (by decide) ?_
    refine r_ls [2, 3, 1, 0] (ls2 := [(0, .ref (q 9)), (1, .int (y1)), (2, .int (v3)), (3, .int (y3 + 1))]) rfl ?_
    exact h
set_option maxRecDepth 20000 in
theorem en_Wall_add {E : EvT} {q : Nat → Nat} {d : Nat} {x1 : Int32} {S : StX} {P : Int32 → StX → Prop} (h : (0 ≤ (xs_Wall_size S) ∧ (xs_Wall_size S) < 30) ∧ (P (((xs_Wall_size S) + 1) - 1) (xI (xA S 201 (upd (xa_Wall_worth S) (ix (xs_Wall_size S)) x1)) 200 ((xs_Wall_size S) + 1)))) : C_Wall_add E q d x1 S P := by
  refine Cn.of rfl (Nat.le_of_ble_eq_true rfl) (ls := [(0, .ref (q 10)), (1, .int (x1))]) rfl ?_
  refine r_aload_n 0 dX10_add_0 rfl rfl ?_
  refine xg_10_11 rfl dX10_add_1 ?_
  refine r_aload_n 0 dX10_add_4 rfl rfl ?_
  refine xg_10_42 rfl dX10_add_5 ?_
  refine r_iload_n 1 dX10_add_8 rfl rfl ?_
  obtain ⟨b1, h⟩ := h
  refine xt_201 b1 dX10_add_9 ?_
  refine r_aload_n 0 dX10_add_10 rfl rfl ?_
  refine r_dup dX10_add_11 rfl ?_
  refine xg_10_42 rfl dX10_add_12 ?_
  refine r_iconst_1 dX10_add_15 ?_
  refine r_iadd dX10_add_16 ?_
  refine xq_10_42 rfl dX10_add_17 ?_
  refine r_aload_n 0 dX10_add_20 rfl rfl ?_
  refine xg_10_42 rfl dX10_add_21 ?_
  refine r_iconst_1 dX10_add_24 ?_
  refine r_isub dX10_add_25 ?_
  exact r_iret dX10_add_26 rfl (Nat.le_refl _) (Nat.le_refl _) ⟨_, _, rfl, rfl, h⟩
abbrev T_Wall_look_47 (E : EvT) (q : Nat → Nat) (D : Nat) (P : Int32 → StX → Prop) (S : StX) (y2 : Int32) (y5 : Int32) : Prop := RX E q iX_Wall_look D (qIx E q P) S [(0, .ref (q 10)), (2, .int (y2)), (5, .int (y5))] [] 47
set_option maxRecDepth 20000 in
theorem en_Wall_look {E : EvT} {q : Nat → Nat} {d : Nat} {x1 : Int32} {x2 : Int32} {x3 : Int32} {x4 : Int32} {S : StX} {P : Int32 → StX → Prop} (h : (0 ≤ (xs_Wall_drawings S) ∧ (xs_Wall_drawings S) < 100) ∧ (T_Wall_look_47 E q (d + 1) P (xA (xA (xA (xA S 203 (upd (xa_Wall_wallOf S) (ix (xs_Wall_drawings S)) x1)) 204 (upd (xa_Wall_drawn S) (ix (xs_Wall_drawings S)) x2)) 205 (upd (xa_Wall_features S) (ix (xs_Wall_drawings S)) x3)) 206 (upd (xa_Wall_told S) (ix (xs_Wall_drawings S)) x4)) x2 (xs_Wall_looks S))) : C_Wall_look E q (d + 1) x1 x2 x3 x4 S P := by
  refine Cn.of rfl (Nat.le_of_ble_eq_true rfl) (ls := [(0, .ref (q 10)), (1, .int (x1)), (2, .int (x2)), (3, .int (x3)), (4, .int (x4))]) rfl ?_
  refine r_aload_n 0 dX10_look_0 rfl rfl ?_
  refine xg_10_15 rfl dX10_look_1 ?_
  refine r_aload_n 0 dX10_look_4 rfl rfl ?_
  refine xg_10_46 rfl dX10_look_5 ?_
  refine r_iload_n 1 dX10_look_8 rfl rfl ?_
  obtain ⟨b1, h⟩ := h
  refine xt_203 b1 dX10_look_9 ?_
  refine r_aload_n 0 dX10_look_10 rfl rfl ?_
  refine xg_10_18 rfl dX10_look_11 ?_
  refine r_aload_n 0 dX10_look_14 rfl rfl ?_
  refine xg_10_46 rfl dX10_look_15 ?_
  refine r_iload_n 2 dX10_look_18 rfl rfl ?_
  refine xt_204 b1 dX10_look_19 ?_
  refine r_aload_n 0 dX10_look_20 rfl rfl ?_
  refine xg_10_21 rfl dX10_look_21 ?_
  refine r_aload_n 0 dX10_look_24 rfl rfl ?_
  refine xg_10_46 rfl dX10_look_25 ?_
  refine r_iload_n 3 dX10_look_28 rfl rfl ?_
  refine xt_205 b1 dX10_look_29 ?_
  refine r_aload_n 0 dX10_look_30 rfl rfl ?_
  refine xg_10_24 rfl dX10_look_31 ?_
  refine r_aload_n 0 dX10_look_34 rfl rfl ?_
  refine xg_10_46 rfl dX10_look_35 ?_
  refine r_iload 4 dX10_look_38 rfl ?_
  refine xt_206 b1 dX10_look_40 ?_
  refine r_aload_n 0 dX10_look_41 rfl rfl ?_
  refine xg_10_49 rfl dX10_look_42 ?_
  refine r_istore [(5, .int (xs_Wall_looks S)), (0, .ref (q 10)), (1, .int (x1)), (2, .int (x2)), (3, .int (x3)), (4, .int (x4))] dX10_look_45 (Nat.le_of_ble_eq_true rfl) rfl ?_
  refine r_ls [1, 3, 0] (ls2 := [(0, .ref (q 10)), (2, .int (x2)), (5, .int (xs_Wall_looks S))]) rfl ?_
  exact h
set_option maxRecDepth 20000 in
theorem sg_Wall_look_47 {E : EvT} {q : Nat → Nat} {d : Nat} {S : StX} {P : Int32 → StX → Prop} {y2 : Int32} {y5 : Int32} (h : (y5 ≤ 0 → ((0 ≤ y5 ∧ y5 < 100) ∧ (C_Wall_trace E q d (xI (xA S 208 (upd (xa_Wall_lookOrder S) (ix y5) (xs_Wall_drawings S))) 207 ((xs_Wall_looks S) + 1)) (fun r3 S4 => P r3 S4)))) ∧ (¬ y5 ≤ 0 → ((0 ≤ (y5 - 1) ∧ (y5 - 1) < 100) ∧ ((0 ≤ (xa_Wall_lookOrder S (ix (y5 - 1))) ∧ (xa_Wall_lookOrder S (ix (y5 - 1))) < 100) ∧ (((xa_Wall_drawn S (ix (xa_Wall_lookOrder S (ix (y5 - 1))))) ≤ y2 → ((0 ≤ y5 ∧ y5 < 100) ∧ (C_Wall_trace E q d (xI (xA S 208 (upd (xa_Wall_lookOrder S) (ix y5) (xs_Wall_drawings S))) 207 ((xs_Wall_looks S) + 1)) (fun r9 S10 => P r9 S10)))) ∧ (¬ (xa_Wall_drawn S (ix (xa_Wall_lookOrder S (ix (y5 - 1))))) ≤ y2 → ((0 ≤ y5 ∧ y5 < 100) ∧ (T_Wall_look_47 E q (d + 1) P (xA S 208 (upd (xa_Wall_lookOrder S) (ix y5) (xa_Wall_lookOrder S (ix (y5 - 1))))) y2 (y5 + (-1)))))))))) : T_Wall_look_47 E q (d + 1) P S y2 y5 := by
  refine r_iload 2 dX10_look_47 rfl ?_
  refine r_if_le (tgt := 92) dX10_look_49 (by decide) (fun c1 => ?_) (fun c1 => ?_)
  · have h := h.1 c1
    refine r_aload_n 0 dX10_look_92 rfl rfl ?_
    refine xg_10_27 rfl dX10_look_93 ?_
    refine r_iload 2 dX10_look_96 rfl ?_
    refine r_aload_n 0 dX10_look_98 rfl rfl ?_
    refine xg_10_46 rfl dX10_look_99 ?_
    obtain ⟨b2, h⟩ := h
    refine xt_208 b2 dX10_look_102 ?_
    refine r_aload_n 0 dX10_look_103 rfl rfl ?_
    refine r_dup dX10_look_104 rfl ?_
    refine xg_10_49 rfl dX10_look_105 ?_
    refine r_iconst_1 dX10_look_108 ?_
    refine r_iadd dX10_look_109 ?_
    refine xq_10_49 rfl dX10_look_110 ?_
    refine r_aload_n 0 dX10_look_113 rfl rfl ?_
    refine K10_Wall_trace rfl (Nat.le_of_ble_eq_true rfl) dX10_look_114 (mIx h (fun r3 S4 h => ?_))
    exact r_iret dX10_look_117 rfl (Nat.le_refl _) (Nat.le_refl _) ⟨_, _, rfl, rfl, h⟩
  · have h := h.2 c1
    refine r_aload_n 0 dX10_look_52 rfl rfl ?_
    refine xg_10_18 rfl dX10_look_53 ?_
    refine r_aload_n 0 dX10_look_56 rfl rfl ?_
    refine xg_10_27 rfl dX10_look_57 ?_
    refine r_iload 2 dX10_look_60 rfl ?_
    refine r_iconst_1 dX10_look_62 ?_
    refine r_isub dX10_look_63 ?_
    obtain ⟨b5, h⟩ := h
    refine xl_208 b5 dX10_look_64 ?_
    obtain ⟨b6, h⟩ := h
    refine xl_204 b6 dX10_look_65 ?_
    refine r_iload_n 1 dX10_look_66 rfl rfl ?_
    refine r_icmp_le (tgt := 92) dX10_look_67 (by decide) (fun c7 => ?_) (fun c7 => ?_)
    · have h := h.1 c7
      refine r_aload_n 0 dX10_look_92 rfl rfl ?_
      refine xg_10_27 rfl dX10_look_93 ?_
      refine r_iload 2 dX10_look_96 rfl ?_
      refine r_aload_n 0 dX10_look_98 rfl rfl ?_
      refine xg_10_46 rfl dX10_look_99 ?_
      obtain ⟨b8, h⟩ := h
      refine xt_208 b8 dX10_look_102 ?_
      refine r_aload_n 0 dX10_look_103 rfl rfl ?_
      refine r_dup dX10_look_104 rfl ?_
      refine xg_10_49 rfl dX10_look_105 ?_
      refine r_iconst_1 dX10_look_108 ?_
      refine r_iadd dX10_look_109 ?_
      refine xq_10_49 rfl dX10_look_110 ?_
      refine r_aload_n 0 dX10_look_113 rfl rfl ?_
      refine K10_Wall_trace rfl (Nat.le_of_ble_eq_true rfl) dX10_look_114 (mIx h (fun r9 S10 h => ?_))
      exact r_iret dX10_look_117 rfl (Nat.le_refl _) (Nat.le_refl _) ⟨_, _, rfl, rfl, h⟩
    · have h := h.2 c7
      refine r_aload_n 0 dX10_look_70 rfl rfl ?_
      refine xg_10_27 rfl dX10_look_71 ?_
      refine r_iload 2 dX10_look_74 rfl ?_
      refine r_aload_n 0 dX10_look_76 rfl rfl ?_
      refine xg_10_27 rfl dX10_look_77 ?_
      refine r_iload 2 dX10_look_80 rfl ?_
      refine r_iconst_1 dX10_look_82 ?_
      refine r_isub dX10_look_83 ?_
      refine xl_208 b5 dX10_look_84 ?_
      obtain ⟨b11, h⟩ := h
      refine xt_208 b11 dX10_look_85 ?_
      refine r_iinc 2 [(5, .int (y5 + (-1))), (0, .ref (q 10)), (2, .int (y2))] dX10_look_86 rfl rfl (Nat.le_of_ble_eq_true rfl) rfl ?_
      refine r_goto (tgt := 47) dX10_look_89 (by decide) ?_
      refine r_ls [1, 2, 0] (ls2 := [(0, .ref (q 10)), (2, .int (y2)), (5, .int (y5 + (-1)))]) rfl ?_
      exact h
set_option maxRecDepth 20000 in
theorem en_Wall_trace {E : EvT} {q : Nat → Nat} {d : Nat} {S : StX} {P : Int32 → StX → Prop} (h : P (((xs_Wall_drawings S) + 1) - 1) (xI S 202 ((xs_Wall_drawings S) + 1))) : C_Wall_trace E q d S P := by
  refine Cn.of rfl (Nat.le_of_ble_eq_true rfl) (ls := [(0, .ref (q 10))]) rfl ?_
  refine r_aload_n 0 dX10_trace_0 rfl rfl ?_
  refine r_dup dX10_trace_1 rfl ?_
  refine xg_10_46 rfl dX10_trace_2 ?_
  refine r_iconst_1 dX10_trace_5 ?_
  refine r_iadd dX10_trace_6 ?_
  refine xq_10_46 rfl dX10_trace_7 ?_
  refine r_aload_n 0 dX10_trace_10 rfl rfl ?_
  refine xg_10_46 rfl dX10_trace_11 ?_
  refine r_iconst_1 dX10_trace_14 ?_
  refine r_isub dX10_trace_15 ?_
  exact r_iret dX10_trace_16 rfl (Nat.le_refl _) (Nat.le_refl _) ⟨_, _, rfl, rfl, h⟩
abbrev T_Wall_review_26 (E : EvT) (q : Nat → Nat) (D : Nat) (P : StX → Prop) (S : StX) (y1 : Int32) (y2 : Int32) (y3 : Int32) (y4 : Int32) (y5 : Int32) : Prop := RX E q iX_Wall_review D (qVx E q P) S [(0, .ref (q 10)), (1, .int (y1)), (2, .int (y2)), (3, .int (y3)), (4, .int (y4)), (5, .int (y5))] [] 26
set_option maxRecDepth 20000 in
theorem en_Wall_review {E : EvT} {q : Nat → Nat} {d : Nat} {x1 : Int32} {x2 : Int32} {x3 : Int32} {S : StX} {P : StX → Prop} (h : T_Wall_review_26 E q d P (xI (xI (xI (xI S 209 (-1)) 210 (-1)) 211 (-1)) 212 (-1)) x1 x2 x3 (-1) 0) : C_Wall_review E q d x1 x2 x3 S P := by
  refine Cn.of rfl (Nat.le_of_ble_eq_true rfl) (ls := [(0, .ref (q 10)), (1, .int (x1)), (2, .int (x2)), (3, .int (x3))]) rfl ?_
  refine r_iconst_m1 dX10_review_0 ?_
  refine r_istore [(4, .int ((-1))), (0, .ref (q 10)), (1, .int (x1)), (2, .int (x2)), (3, .int (x3))] dX10_review_1 (Nat.le_of_ble_eq_true rfl) rfl ?_
  refine r_aload_n 1 dX10_review_3 rfl rfl ?_
  refine r_iconst_m1 dX10_review_4 ?_
  refine xq_10_56 rfl dX10_review_5 ?_
  refine r_aload_n 1 dX10_review_8 rfl rfl ?_
  refine r_iconst_m1 dX10_review_9 ?_
  refine xq_10_59 rfl dX10_review_10 ?_
  refine r_aload_n 1 dX10_review_13 rfl rfl ?_
  refine r_iconst_m1 dX10_review_14 ?_
  refine xq_10_62 rfl dX10_review_15 ?_
  refine r_aload_n 1 dX10_review_18 rfl rfl ?_
  refine r_iconst_m1 dX10_review_19 ?_
  refine xq_10_65 rfl dX10_review_20 ?_
  refine r_iconst_0 dX10_review_23 ?_
  refine r_istore [(5, .int (0)), (4, .int ((-1))), (0, .ref (q 10)), (1, .int (x1)), (2, .int (x2)), (3, .int (x3))] dX10_review_24 (Nat.le_of_ble_eq_true rfl) rfl ?_
  refine r_ls [2, 3, 4, 5, 1, 0] (ls2 := [(0, .ref (q 10)), (1, .int (x1)), (2, .int (x2)), (3, .int (x3)), (4, .int ((-1))), (5, .int (0))]) rfl ?_
  exact h
set_option maxRecDepth 20000 in
theorem sg_Wall_review_26 {E : EvT} {q : Nat → Nat} {d : Nat} {S : StX} {P : StX → Prop} {y1 : Int32} {y2 : Int32} {y3 : Int32} {y4 : Int32} {y5 : Int32} (h : ((xs_Wall_looks S) ≤ y5 → (P S)) ∧ (¬ (xs_Wall_looks S) ≤ y5 → ((0 ≤ y5 ∧ y5 < 100) ∧ ((0 ≤ (xa_Wall_lookOrder S (ix y5)) ∧ (xa_Wall_lookOrder S (ix y5)) < 100) ∧ ((¬ (xa_Wall_wallOf S (ix (xa_Wall_lookOrder S (ix y5)))) = y1 → (T_Wall_review_26 E q d P S y1 y2 y3 y4 (y5 + 1))) ∧ ((xa_Wall_wallOf S (ix (xa_Wall_lookOrder S (ix y5)))) = y1 → (((xa_Wall_told S (ix (xa_Wall_lookOrder S (ix y5)))) ≤ y3 → ((¬ (((xa_Wall_features S (ix (xa_Wall_lookOrder S (ix y5)))) >>> (y2 &&& 31)) &&& 1) = 1 → (((xs_Wall_lastSeen S) = (-1) → (T_Wall_review_26 E q d P S y1 y2 y3 y4 (y5 + 1))) ∧ (¬ (xs_Wall_lastSeen S) = (-1) → ((¬ y4 = (-1) → ((¬ (xs_Wall_nextLacking S) = (-1) → (T_Wall_review_26 E q d P (xI S 210 (xs_Wall_nextLacking S)) y1 y2 y3 y4 (y5 + 1))) ∧ ((xs_Wall_nextLacking S) = (-1) → (T_Wall_review_26 E q d P (xI S 210 (xa_Wall_lookOrder S (ix y5))) y1 y2 y3 y4 (y5 + 1))))) ∧ (y4 = (-1) → ((¬ (xs_Wall_nextLacking S) = (-1) → (T_Wall_review_26 E q d P (xI S 210 (xs_Wall_nextLacking S)) y1 y2 y3 (xa_Wall_lookOrder S (ix y5)) (y5 + 1))) ∧ ((xs_Wall_nextLacking S) = (-1) → (T_Wall_review_26 E q d P (xI S 210 (xa_Wall_lookOrder S (ix y5))) y1 y2 y3 (xa_Wall_lookOrder S (ix y5)) (y5 + 1))))))))) ∧ ((((xa_Wall_features S (ix (xa_Wall_lookOrder S (ix y5)))) >>> (y2 &&& 31)) &&& 1) = 1 → ((y4 = (-1) → (T_Wall_review_26 E q d P (xI (xI S 209 (xa_Wall_lookOrder S (ix y5))) 210 (-1)) y1 y2 y3 y4 (y5 + 1))) ∧ (¬ y4 = (-1) → ((¬ (xs_Wall_quarrelHas S) = (-1) → (T_Wall_review_26 E q d P (xI (xI S 209 (xa_Wall_lookOrder S (ix y5))) 210 (-1)) y1 y2 y3 y4 (y5 + 1))) ∧ ((xs_Wall_quarrelHas S) = (-1) → (T_Wall_review_26 E q d P (xI (xI (xI (xI S 211 y4) 212 (xa_Wall_lookOrder S (ix y5))) 209 (xa_Wall_lookOrder S (ix y5))) 210 (-1)) y1 y2 y3 y4 (y5 + 1))))))))) ∧ (¬ (xa_Wall_told S (ix (xa_Wall_lookOrder S (ix y5)))) ≤ y3 → (T_Wall_review_26 E q d P S y1 y2 y3 y4 (y5 + 1)))))))))) : T_Wall_review_26 E q d P S y1 y2 y3 y4 y5 := by
  refine r_iload 5 dX10_review_26 rfl ?_
  refine r_aload_n 0 dX10_review_28 rfl rfl ?_
  refine xg_10_49 rfl dX10_review_29 ?_
  refine r_icmp_ge (tgt := 174) dX10_review_32 (by decide) (fun c1 => ?_) (fun c1 => ?_)
  · have h := h.1 c1
    exact r_vret dX10_review_174 rfl (Nat.le_refl _) (Nat.le_refl _) ⟨_, rfl, rfl, h⟩
  · have h := h.2 c1
    refine r_aload_n 0 dX10_review_35 rfl rfl ?_
    refine xg_10_27 rfl dX10_review_36 ?_
    refine r_iload 5 dX10_review_39 rfl ?_
    obtain ⟨b2, h⟩ := h
    refine xl_208 b2 dX10_review_41 ?_
    refine r_istore [(6, .int (xa_Wall_lookOrder S (ix y5))), (0, .ref (q 10)), (1, .int (y1)), (2, .int (y2)), (3, .int (y3)), (4, .int (y4)), (5, .int (y5))] dX10_review_42 (Nat.le_of_ble_eq_true rfl) rfl ?_
    refine r_aload_n 1 dX10_review_44 rfl rfl ?_
    refine xg_10_15 rfl dX10_review_45 ?_
    refine r_iload 0 dX10_review_48 rfl ?_
    obtain ⟨b3, h⟩ := h
    refine xl_203 b3 dX10_review_50 ?_
    refine r_iload_n 2 dX10_review_51 rfl rfl ?_
    refine r_icmp_ne (tgt := 168) dX10_review_52 (by decide) (fun c4 => ?_) (fun c4 => ?_)
    · have h := h.1 c4
      refine r_iinc 6 [(5, .int (y5 + 1)), (6, .int (xa_Wall_lookOrder S (ix y5))), (0, .ref (q 10)), (1, .int (y1)), (2, .int (y2)), (3, .int (y3)), (4, .int (y4))] dX10_review_168 rfl rfl (Nat.le_of_ble_eq_true rfl) rfl ?_
      refine r_goto (tgt := 26) dX10_review_171 (by decide) ?_
      refine r_ls [2, 3, 4, 5, 6, 0] (ls2 := [(0, .ref (q 10)), (1, .int (y1)), (2, .int (y2)), (3, .int (y3)), (4, .int (y4)), (5, .int (y5 + 1))]) rfl ?_
      exact h
    · have h := h.2 c4
      refine r_aload_n 1 dX10_review_55 rfl rfl ?_
      refine xg_10_24 rfl dX10_review_56 ?_
      refine r_iload 0 dX10_review_59 rfl ?_
      refine xl_206 b3 dX10_review_61 ?_
      refine r_iload_n 4 dX10_review_62 rfl rfl ?_
      refine r_icmp_le (tgt := 69) dX10_review_63 (by decide) (fun c5 => ?_) (fun c5 => ?_)
      · have h := h.1 c5
        refine r_aload_n 1 dX10_review_69 rfl rfl ?_
        refine xg_10_21 rfl dX10_review_70 ?_
        refine r_iload 0 dX10_review_73 rfl ?_
        refine xl_205 b3 dX10_review_75 ?_
        refine r_iload_n 3 dX10_review_76 rfl rfl ?_
        refine r_ishr dX10_review_77 ?_
        refine r_iconst_1 dX10_review_78 ?_
        refine r_iand dX10_review_79 ?_
        refine r_iconst_1 dX10_review_80 ?_
        refine r_icmp_ne (tgt := 124) dX10_review_81 (by decide) (fun c6 => ?_) (fun c6 => ?_)
        · have h := h.1 c6
          refine r_aload_n 1 dX10_review_124 rfl rfl ?_
          refine xg_10_56 rfl dX10_review_125 ?_
          refine r_iconst_m1 dX10_review_128 ?_
          refine r_icmp_eq (tgt := 168) dX10_review_129 (by decide) (fun c7 => ?_) (fun c7 => ?_)
          · have h := h.1 c7
            refine r_iinc 6 [(5, .int (y5 + 1)), (6, .int (xa_Wall_lookOrder S (ix y5))), (0, .ref (q 10)), (1, .int (y1)), (2, .int (y2)), (3, .int (y3)), (4, .int (y4))] dX10_review_168 rfl rfl (Nat.le_of_ble_eq_true rfl) rfl ?_
            refine r_goto (tgt := 26) dX10_review_171 (by decide) ?_
            refine r_ls [2, 3, 4, 5, 6, 0] (ls2 := [(0, .ref (q 10)), (1, .int (y1)), (2, .int (y2)), (3, .int (y3)), (4, .int (y4)), (5, .int (y5 + 1))]) rfl ?_
            exact h
          · have h := h.2 c7
            refine r_iload 5 dX10_review_132 rfl ?_
            refine r_iconst_m1 dX10_review_134 ?_
            refine r_icmp_ne (tgt := 143) dX10_review_135 (by decide) (fun c8 => ?_) (fun c8 => ?_)
            · have h := h.1 c8
              refine r_iload 5 dX10_review_143 rfl ?_
              refine r_istore [(4, .int (y4)), (6, .int (xa_Wall_lookOrder S (ix y5))), (0, .ref (q 10)), (1, .int (y1)), (2, .int (y2)), (3, .int (y3)), (5, .int (y5))] dX10_review_145 (Nat.le_of_ble_eq_true rfl) rfl ?_
              refine r_aload_n 2 dX10_review_147 rfl rfl ?_
              refine r_aload_n 2 dX10_review_148 rfl rfl ?_
              refine xg_10_59 rfl dX10_review_149 ?_
              refine r_iconst_m1 dX10_review_152 ?_
              refine r_icmp_ne (tgt := 161) dX10_review_153 (by decide) (fun c9 => ?_) (fun c9 => ?_)
              · have h := h.1 c9
                refine r_aload_n 2 dX10_review_161 rfl rfl ?_
                refine xg_10_59 rfl dX10_review_162 ?_
                refine xq_10_59 rfl dX10_review_165 ?_
                refine r_iinc 6 [(5, .int (y5 + 1)), (4, .int (y4)), (6, .int (xa_Wall_lookOrder S (ix y5))), (0, .ref (q 10)), (1, .int (y1)), (2, .int (y2)), (3, .int (y3))] dX10_review_168 rfl rfl (Nat.le_of_ble_eq_true rfl) rfl ?_
                refine r_goto (tgt := 26) dX10_review_171 (by decide) ?_
                refine r_ls [3, 4, 5, 6, 1, 0] (ls2 := [(0, .ref (q 10)), (1, .int (y1)), (2, .int (y2)), (3, .int (y3)), (4, .int (y4)), (5, .int (y5 + 1))]) rfl ?_
                exact h
              · have h := h.2 c9
                refine r_iload 1 dX10_review_156 rfl ?_
                refine r_goto (tgt := 165) dX10_review_158 (by decide) ?_
                refine xq_10_59 rfl dX10_review_165 ?_
                refine r_iinc 6 [(5, .int (y5 + 1)), (4, .int (y4)), (6, .int (xa_Wall_lookOrder S (ix y5))), (0, .ref (q 10)), (1, .int (y1)), (2, .int (y2)), (3, .int (y3))] dX10_review_168 rfl rfl (Nat.le_of_ble_eq_true rfl) rfl ?_
                refine r_goto (tgt := 26) dX10_review_171 (by decide) ?_
                refine r_ls [3, 4, 5, 6, 1, 0] (ls2 := [(0, .ref (q 10)), (1, .int (y1)), (2, .int (y2)), (3, .int (y3)), (4, .int (y4)), (5, .int (y5 + 1))]) rfl ?_
                exact h
            · have h := h.2 c8
              refine r_iload 0 dX10_review_138 rfl ?_
              refine r_goto (tgt := 145) dX10_review_140 (by decide) ?_
              refine r_istore [(4, .int (xa_Wall_lookOrder S (ix y5))), (6, .int (xa_Wall_lookOrder S (ix y5))), (0, .ref (q 10)), (1, .int (y1)), (2, .int (y2)), (3, .int (y3)), (5, .int (y5))] dX10_review_145 (Nat.le_of_ble_eq_true rfl) rfl ?_
              refine r_aload_n 2 dX10_review_147 rfl rfl ?_
              refine r_aload_n 2 dX10_review_148 rfl rfl ?_
              refine xg_10_59 rfl dX10_review_149 ?_
              refine r_iconst_m1 dX10_review_152 ?_
              refine r_icmp_ne (tgt := 161) dX10_review_153 (by decide) (fun c10 => ?_) (fun c10 => ?_)
              · have h := h.1 c10
                refine r_aload_n 2 dX10_review_161 rfl rfl ?_
                refine xg_10_59 rfl dX10_review_162 ?_
                refine xq_10_59 rfl dX10_review_165 ?_
                refine r_iinc 6 [(5, .int (y5 + 1)), (4, .int (xa_Wall_lookOrder S (ix y5))), (6, .int (xa_Wall_lookOrder S (ix y5))), (0, .ref (q 10)), (1, .int (y1)), (2, .int (y2)), (3, .int (y3))] dX10_review_168 rfl rfl (Nat.le_of_ble_eq_true rfl) rfl ?_
                refine r_goto (tgt := 26) dX10_review_171 (by decide) ?_
                refine r_ls [3, 4, 5, 6, 1, 0] (ls2 := [(0, .ref (q 10)), (1, .int (y1)), (2, .int (y2)), (3, .int (y3)), (4, .int (xa_Wall_lookOrder S (ix y5))), (5, .int (y5 + 1))]) rfl ?_
                exact h
              · have h := h.2 c10
                refine r_iload 1 dX10_review_156 rfl ?_
                refine r_goto (tgt := 165) dX10_review_158 (by decide) ?_
                refine xq_10_59 rfl dX10_review_165 ?_
                refine r_iinc 6 [(5, .int (y5 + 1)), (4, .int (xa_Wall_lookOrder S (ix y5))), (6, .int (xa_Wall_lookOrder S (ix y5))), (0, .ref (q 10)), (1, .int (y1)), (2, .int (y2)), (3, .int (y3))] dX10_review_168 rfl rfl (Nat.le_of_ble_eq_true rfl) rfl ?_
                refine r_goto (tgt := 26) dX10_review_171 (by decide) ?_
                refine r_ls [3, 4, 5, 6, 1, 0] (ls2 := [(0, .ref (q 10)), (1, .int (y1)), (2, .int (y2)), (3, .int (y3)), (4, .int (xa_Wall_lookOrder S (ix y5))), (5, .int (y5 + 1))]) rfl ?_
                exact h
        · have h := h.2 c6
          refine r_iload 5 dX10_review_84 rfl ?_
          refine r_iconst_m1 dX10_review_86 ?_
          refine r_icmp_eq (tgt := 110) dX10_review_87 (by decide) (fun c11 => ?_) (fun c11 => ?_)
          · have h := h.1 c11
            refine r_aload_n 1 dX10_review_110 rfl rfl ?_
            refine r_iload 0 dX10_review_111 rfl ?_
            refine xq_10_56 rfl dX10_review_113 ?_
            refine r_aload_n 1 dX10_review_116 rfl rfl ?_
            refine r_iconst_m1 dX10_review_117 ?_
            refine xq_10_59 rfl dX10_review_118 ?_
            refine r_goto (tgt := 168) dX10_review_121 (by decide) ?_
            refine r_iinc 6 [(5, .int (y5 + 1)), (6, .int (xa_Wall_lookOrder S (ix y5))), (0, .ref (q 10)), (1, .int (y1)), (2, .int (y2)), (3, .int (y3)), (4, .int (y4))] dX10_review_168 rfl rfl (Nat.le_of_ble_eq_true rfl) rfl ?_
            refine r_goto (tgt := 26) dX10_review_171 (by decide) ?_
            refine r_ls [2, 3, 4, 5, 6, 0] (ls2 := [(0, .ref (q 10)), (1, .int (y1)), (2, .int (y2)), (3, .int (y3)), (4, .int (y4)), (5, .int (y5 + 1))]) rfl ?_
            exact h
          · have h := h.2 c11
            refine r_aload_n 1 dX10_review_90 rfl rfl ?_
            refine xg_10_65 rfl dX10_review_91 ?_
            refine r_iconst_m1 dX10_review_94 ?_
            refine r_icmp_ne (tgt := 110) dX10_review_95 (by decide) (fun c12 => ?_) (fun c12 => ?_)
            · have h := h.1 c12
              refine r_aload_n 1 dX10_review_110 rfl rfl ?_
              refine r_iload 0 dX10_review_111 rfl ?_
              refine xq_10_56 rfl dX10_review_113 ?_
              refine r_aload_n 1 dX10_review_116 rfl rfl ?_
              refine r_iconst_m1 dX10_review_117 ?_
              refine xq_10_59 rfl dX10_review_118 ?_
              refine r_goto (tgt := 168) dX10_review_121 (by decide) ?_
              refine r_iinc 6 [(5, .int (y5 + 1)), (6, .int (xa_Wall_lookOrder S (ix y5))), (0, .ref (q 10)), (1, .int (y1)), (2, .int (y2)), (3, .int (y3)), (4, .int (y4))] dX10_review_168 rfl rfl (Nat.le_of_ble_eq_true rfl) rfl ?_
              refine r_goto (tgt := 26) dX10_review_171 (by decide) ?_
              refine r_ls [2, 3, 4, 5, 6, 0] (ls2 := [(0, .ref (q 10)), (1, .int (y1)), (2, .int (y2)), (3, .int (y3)), (4, .int (y4)), (5, .int (y5 + 1))]) rfl ?_
              exact h
            · have h := h.2 c12
              refine r_aload_n 1 dX10_review_98 rfl rfl ?_
              refine r_iload 5 dX10_review_99 rfl ?_
              refine xq_10_62 rfl dX10_review_101 ?_
              refine r_aload_n 1 dX10_review_104 rfl rfl ?_
              refine r_iload 0 dX10_review_105 rfl ?_
              refine xq_10_65 rfl dX10_review_107 ?_
              refine r_aload_n 1 dX10_review_110 rfl rfl ?_
              refine r_iload 0 dX10_review_111 rfl ?_
              refine xq_10_56 rfl dX10_review_113 ?_
              refine r_aload_n 1 dX10_review_116 rfl rfl ?_
              refine r_iconst_m1 dX10_review_117 ?_
              refine xq_10_59 rfl dX10_review_118 ?_
              refine r_goto (tgt := 168) dX10_review_121 (by decide) ?_
              refine r_iinc 6 [(5, .int (y5 + 1)), (6, .int (xa_Wall_lookOrder S (ix y5))), (0, .ref (q 10)), (1, .int (y1)), (2, .int (y2)), (3, .int (y3)), (4, .int (y4))] dX10_review_168 rfl rfl (Nat.le_of_ble_eq_true rfl) rfl ?_
              refine r_goto (tgt := 26) dX10_review_171 (by decide) ?_
              refine r_ls [2, 3, 4, 5, 6, 0] (ls2 := [(0, .ref (q 10)), (1, .int (y1)), (2, .int (y2)), (3, .int (y3)), (4, .int (y4)), (5, .int (y5 + 1))]) rfl ?_
              exact h
      · have h := h.2 c5
        refine r_goto (tgt := 168) dX10_review_66 (by decide) ?_
        refine r_iinc 6 [(5, .int (y5 + 1)), (6, .int (xa_Wall_lookOrder S (ix y5))), (0, .ref (q 10)), (1, .int (y1)), (2, .int (y2)), (3, .int (y3)), (4, .int (y4))] dX10_review_168 rfl rfl (Nat.le_of_ble_eq_true rfl) rfl ?_
        refine r_goto (tgt := 26) dX10_review_171 (by decide) ?_
        refine r_ls [2, 3, 4, 5, 6, 0] (ls2 := [(0, .ref (q 10)), (1, .int (y1)), (2, .int (y2)), (3, .int (y3)), (4, .int (y4)), (5, .int (y5 + 1))]) rfl ?_
        exact h
set_option maxRecDepth 20000 in
theorem en_Wall_undertake {E : EvT} {q : Nat → Nat} {d : Nat} {x1 : Int32} {x2 : Int32} {x3 : Int32} {S : StX} {P : Int32 → StX → Prop} (h : (0 ≤ (xs_Wall_works S) ∧ (xs_Wall_works S) < 9) ∧ ((0 ≤ x1 ∧ x1 < 30) ∧ (P (((xs_Wall_works S) + 1) - 1) (xI (xA (xA (xA S 214 (upd (xa_Wall_workWall S) (ix (xs_Wall_works S)) x1)) 215 (upd (xa_Wall_cost S) (ix (xs_Wall_works S)) x2)) 216 (upd (xa_Wall_saving S) (ix (xs_Wall_works S)) (((xa_Wall_worth S (ix x1)) * x3) / 100))) 213 ((xs_Wall_works S) + 1))))) : C_Wall_undertake E q d x1 x2 x3 S P := by
  refine Cn.of rfl (Nat.le_of_ble_eq_true rfl) (ls := [(0, .ref (q 10)), (1, .int (x1)), (2, .int (x2)), (3, .int (x3))]) rfl ?_
  refine r_aload_n 0 dX10_undertake_0 rfl rfl ?_
  refine xg_10_30 rfl dX10_undertake_1 ?_
  refine r_aload_n 0 dX10_undertake_4 rfl rfl ?_
  refine xg_10_68 rfl dX10_undertake_5 ?_
  refine r_iload_n 1 dX10_undertake_8 rfl rfl ?_
  obtain ⟨b1, h⟩ := h
  refine xt_214 b1 dX10_undertake_9 ?_
  refine r_aload_n 0 dX10_undertake_10 rfl rfl ?_
  refine xg_10_33 rfl dX10_undertake_11 ?_
  refine r_aload_n 0 dX10_undertake_14 rfl rfl ?_
  refine xg_10_68 rfl dX10_undertake_15 ?_
  refine r_iload_n 2 dX10_undertake_18 rfl rfl ?_
  refine xt_215 b1 dX10_undertake_19 ?_
  refine r_aload_n 0 dX10_undertake_20 rfl rfl ?_
  refine xg_10_36 rfl dX10_undertake_21 ?_
  refine r_aload_n 0 dX10_undertake_24 rfl rfl ?_
  refine xg_10_68 rfl dX10_undertake_25 ?_
  refine r_aload_n 0 dX10_undertake_28 rfl rfl ?_
  refine xg_10_11 rfl dX10_undertake_29 ?_
  refine r_iload_n 1 dX10_undertake_32 rfl rfl ?_
  obtain ⟨b2, h⟩ := h
  refine xl_201 b2 dX10_undertake_33 ?_
  refine r_iload_n 3 dX10_undertake_34 rfl rfl ?_
  refine r_imul dX10_undertake_35 ?_
  refine r_bipush_100 dX10_undertake_36 ?_
  refine r_idiv dX10_undertake_38 (by decide) ?_
  refine xt_216 b1 dX10_undertake_39 ?_
  refine r_aload_n 0 dX10_undertake_40 rfl rfl ?_
  refine r_dup dX10_undertake_41 rfl ?_
  refine xg_10_68 rfl dX10_undertake_42 ?_
  refine r_iconst_1 dX10_undertake_45 ?_
  refine r_iadd dX10_undertake_46 ?_
  refine xq_10_68 rfl dX10_undertake_47 ?_
  refine r_aload_n 0 dX10_undertake_50 rfl rfl ?_
  refine xg_10_68 rfl dX10_undertake_51 ?_
  refine r_iconst_1 dX10_undertake_54 ?_
  refine r_isub dX10_undertake_55 ?_
  exact r_iret dX10_undertake_56 rfl (Nat.le_refl _) (Nat.le_refl _) ⟨_, _, rfl, rfl, h⟩
abbrev T_Wall_savedBy_12 (E : EvT) (q : Nat → Nat) (D : Nat) (P : Int32 → StX → Prop) (S : StX) (y1 : Int32) (y2 : Int32) (y3 : Int32) : Prop := RX E q iX_Wall_savedBy D (qIx E q P) S [(0, .ref (q 10)), (1, .int (y1)), (2, .int (y2)), (3, .int (y3))] [] 12
set_option maxRecDepth 20000 in
theorem en_Wall_savedBy {E : EvT} {q : Nat → Nat} {d : Nat} {x1 : Int32} {S : StX} {P : Int32 → StX → Prop} (h : T_Wall_savedBy_12 E q (d + 1) P (xA S 217 (fillF 30 0 (xa_Wall_savedOf S))) x1 0 0) : C_Wall_savedBy E q (d + 1) x1 S P := by
  refine Cn.of rfl (Nat.le_of_ble_eq_true rfl) (ls := [(0, .ref (q 10)), (1, .int (x1))]) rfl ?_
  refine r_iconst_0 dX10_savedBy_0 ?_
  refine r_istore_n [(2, .int (0)), (0, .ref (q 10)), (1, .int (x1))] dX10_savedBy_1 rfl (Nat.le_of_ble_eq_true rfl) rfl ?_
  refine r_aload_n 1 dX10_savedBy_2 rfl rfl ?_
  refine xg_10_39 rfl dX10_savedBy_3 ?_
  refine r_iconst_0 dX10_savedBy_6 ?_
  refine KP10_Jfill_217 (d := d + 0) rfl (Nat.le_of_ble_eq_true rfl) dX10_savedBy_7 ?_
  refine r_iconst_0 dX10_savedBy_10 ?_
  refine r_istore_n [(3, .int (0)), (2, .int (0)), (0, .ref (q 10)), (1, .int (x1))] dX10_savedBy_11 rfl (Nat.le_of_ble_eq_true rfl) rfl ?_
  refine r_ls [2, 3, 1, 0] (ls2 := [(0, .ref (q 10)), (1, .int (x1)), (2, .int (0)), (3, .int (0))]) rfl ?_
  exact h
set_option maxRecDepth 20000 in
theorem sg_Wall_savedBy_12 {E : EvT} {q : Nat → Nat} {d : Nat} {S : StX} {P : Int32 → StX → Prop} {y1 : Int32} {y2 : Int32} {y3 : Int32} (h : ((xs_Wall_works S) ≤ y3 → (P y2 S)) ∧ (¬ (xs_Wall_works S) ≤ y3 → ((¬ ((y1 >>> (y3 &&& 31)) &&& 1) = 1 → (T_Wall_savedBy_12 E q (d + 1) P S y1 y2 (y3 + 1))) ∧ (((y1 >>> (y3 &&& 31)) &&& 1) = 1 → ((0 ≤ y3 ∧ y3 < 9) ∧ ((0 ≤ (xa_Wall_workWall S (ix y3)) ∧ (xa_Wall_workWall S (ix y3)) < 30) ∧ (∀ v5, v5 = (jMin (xa_Wall_saving S (ix y3)) ((xa_Wall_worth S (ix (xa_Wall_workWall S (ix y3)))) - (xa_Wall_savedOf S (ix (xa_Wall_workWall S (ix y3)))))) → (T_Wall_savedBy_12 E q (d + 1) P (xA S 217 (upd (xa_Wall_savedOf S) (ix (xa_Wall_workWall S (ix y3))) ((xa_Wall_savedOf S (ix (xa_Wall_workWall S (ix y3)))) + v5))) y1 (y2 + v5) (y3 + 1))))))))) : T_Wall_savedBy_12 E q (d + 1) P S y1 y2 y3 := by
  refine r_iload_n 3 dX10_savedBy_12 rfl rfl ?_
  refine r_aload_n 0 dX10_savedBy_13 rfl rfl ?_
  refine xg_10_68 rfl dX10_savedBy_14 ?_
  refine r_icmp_ge (tgt := 86) dX10_savedBy_17 (by decide) (fun c1 => ?_) (fun c1 => ?_)
  · have h := h.1 c1
    refine r_iload_n 2 dX10_savedBy_86 rfl rfl ?_
    exact r_iret dX10_savedBy_87 rfl (Nat.le_refl _) (Nat.le_refl _) ⟨_, _, rfl, rfl, h⟩
  · have h := h.2 c1
    refine r_iload_n 1 dX10_savedBy_20 rfl rfl ?_
    refine r_iload_n 3 dX10_savedBy_21 rfl rfl ?_
    refine r_ishr dX10_savedBy_22 ?_
    refine r_iconst_1 dX10_savedBy_23 ?_
    refine r_iand dX10_savedBy_24 ?_
    refine r_iconst_1 dX10_savedBy_25 ?_
    refine r_icmp_ne (tgt := 80) dX10_savedBy_26 (by decide) (fun c2 => ?_) (fun c2 => ?_)
    · have h := h.1 c2
      refine r_iinc 3 [(3, .int (y3 + 1)), (0, .ref (q 10)), (1, .int (y1)), (2, .int (y2))] dX10_savedBy_80 rfl rfl (Nat.le_of_ble_eq_true rfl) rfl ?_
      refine r_goto (tgt := 12) dX10_savedBy_83 (by decide) ?_
      refine r_ls [1, 2, 3, 0] (ls2 := [(0, .ref (q 10)), (1, .int (y1)), (2, .int (y2)), (3, .int (y3 + 1))]) rfl ?_
      exact h
    · have h := h.2 c2
      refine r_aload_n 0 dX10_savedBy_29 rfl rfl ?_
      refine xg_10_30 rfl dX10_savedBy_30 ?_
      refine r_iload_n 3 dX10_savedBy_33 rfl rfl ?_
      obtain ⟨b3, h⟩ := h
      refine xl_214 b3 dX10_savedBy_34 ?_
      refine r_istore [(4, .int (xa_Wall_workWall S (ix y3))), (0, .ref (q 10)), (1, .int (y1)), (2, .int (y2)), (3, .int (y3))] dX10_savedBy_35 (Nat.le_of_ble_eq_true rfl) rfl ?_
      refine r_aload_n 1 dX10_savedBy_37 rfl rfl ?_
      refine xg_10_36 rfl dX10_savedBy_38 ?_
      refine r_iload_n 4 dX10_savedBy_41 rfl rfl ?_
      refine xl_216 b3 dX10_savedBy_42 ?_
      refine r_aload_n 1 dX10_savedBy_43 rfl rfl ?_
      refine xg_10_11 rfl dX10_savedBy_44 ?_
      refine r_iload 0 dX10_savedBy_47 rfl ?_
      obtain ⟨b4, h⟩ := h
      refine xl_201 b4 dX10_savedBy_49 ?_
      refine r_aload_n 1 dX10_savedBy_50 rfl rfl ?_
      refine xg_10_39 rfl dX10_savedBy_51 ?_
      refine r_iload 0 dX10_savedBy_54 rfl ?_
      refine xl_217 b4 dX10_savedBy_56 ?_
      refine r_isub dX10_savedBy_57 ?_
      refine KP10_Jmin (d := d + 0)  rfl (Nat.le_of_ble_eq_true rfl) dX10_savedBy_58 ?_
      refine r_nm (fun v5 ev5 => ?_)
      have h := h v5 ev5
      refine r_istore [(5, .int (v5)), (4, .int (xa_Wall_workWall S (ix y3))), (0, .ref (q 10)), (1, .int (y1)), (2, .int (y2)), (3, .int (y3))] dX10_savedBy_61 (Nat.le_of_ble_eq_true rfl) rfl ?_
      refine r_aload_n 2 dX10_savedBy_63 rfl rfl ?_
      refine xg_10_39 rfl dX10_savedBy_64 ?_
      refine r_iload 1 dX10_savedBy_67 rfl ?_
      refine r_dup2 dX10_savedBy_69 rfl rfl ?_
      refine xl_217 b4 dX10_savedBy_70 ?_
      refine r_iload 0 dX10_savedBy_71 rfl ?_
      refine r_iadd dX10_savedBy_73 ?_
      refine xt_217 b4 dX10_savedBy_74 ?_
      refine r_iload_n 4 dX10_savedBy_75 rfl rfl ?_
      refine r_iload 0 dX10_savedBy_76 rfl ?_
      refine r_iadd dX10_savedBy_78 ?_
      refine r_istore_n [(2, .int (y2 + v5)), (5, .int (v5)), (4, .int (xa_Wall_workWall S (ix y3))), (0, .ref (q 10)), (1, .int (y1)), (3, .int (y3))] dX10_savedBy_79 rfl (Nat.le_of_ble_eq_true rfl) rfl ?_
      refine r_iinc 5 [(3, .int (y3 + 1)), (2, .int (y2 + v5)), (5, .int (v5)), (4, .int (xa_Wall_workWall S (ix y3))), (0, .ref (q 10)), (1, .int (y1))] dX10_savedBy_80 rfl rfl (Nat.le_of_ble_eq_true rfl) rfl ?_
      refine r_goto (tgt := 12) dX10_savedBy_83 (by decide) ?_
      refine r_ls [4, 5, 1, 0] (ls2 := [(0, .ref (q 10)), (1, .int (y1)), (2, .int (y2 + v5)), (3, .int (y3 + 1))]) rfl ?_
      exact h
abbrev T_Wall_costOf_4 (E : EvT) (q : Nat → Nat) (D : Nat) (P : Int32 → StX → Prop) (S : StX) (y1 : Int32) (y2 : Int32) (y3 : Int32) : Prop := RX E q iX_Wall_costOf D (qIx E q P) S [(0, .ref (q 10)), (1, .int (y1)), (2, .int (y2)), (3, .int (y3))] [] 4
set_option maxRecDepth 20000 in
theorem en_Wall_costOf {E : EvT} {q : Nat → Nat} {d : Nat} {x1 : Int32} {S : StX} {P : Int32 → StX → Prop} (h : T_Wall_costOf_4 E q d P S x1 0 0) : C_Wall_costOf E q d x1 S P := by
  refine Cn.of rfl (Nat.le_of_ble_eq_true rfl) (ls := [(0, .ref (q 10)), (1, .int (x1))]) rfl ?_
  refine r_iconst_0 dX10_costOf_0 ?_
  refine r_istore_n [(2, .int (0)), (0, .ref (q 10)), (1, .int (x1))] dX10_costOf_1 rfl (Nat.le_of_ble_eq_true rfl) rfl ?_
  refine r_iconst_0 dX10_costOf_2 ?_
  refine r_istore_n [(3, .int (0)), (2, .int (0)), (0, .ref (q 10)), (1, .int (x1))] dX10_costOf_3 rfl (Nat.le_of_ble_eq_true rfl) rfl ?_
  refine r_ls [2, 3, 1, 0] (ls2 := [(0, .ref (q 10)), (1, .int (x1)), (2, .int (0)), (3, .int (0))]) rfl ?_
  exact h
set_option maxRecDepth 20000 in
theorem sg_Wall_costOf_4 {E : EvT} {q : Nat → Nat} {d : Nat} {S : StX} {P : Int32 → StX → Prop} {y1 : Int32} {y2 : Int32} {y3 : Int32} (h : ((xs_Wall_works S) ≤ y3 → (P y2 S)) ∧ (¬ (xs_Wall_works S) ≤ y3 → ((0 ≤ y3 ∧ y3 < 9) ∧ (T_Wall_costOf_4 E q d P S y1 (y2 + (((y1 >>> (y3 &&& 31)) &&& 1) * (xa_Wall_cost S (ix y3)))) (y3 + 1))))) : T_Wall_costOf_4 E q d P S y1 y2 y3 := by
  refine r_iload_n 3 dX10_costOf_4 rfl rfl ?_
  refine r_aload_n 0 dX10_costOf_5 rfl rfl ?_
  refine xg_10_68 rfl dX10_costOf_6 ?_
  refine r_icmp_ge (tgt := 33) dX10_costOf_9 (by decide) (fun c1 => ?_) (fun c1 => ?_)
  · have h := h.1 c1
    refine r_iload_n 2 dX10_costOf_33 rfl rfl ?_
    exact r_iret dX10_costOf_34 rfl (Nat.le_refl _) (Nat.le_refl _) ⟨_, _, rfl, rfl, h⟩
  · have h := h.2 c1
    refine r_iload_n 2 dX10_costOf_12 rfl rfl ?_
    refine r_iload_n 1 dX10_costOf_13 rfl rfl ?_
    refine r_iload_n 3 dX10_costOf_14 rfl rfl ?_
    refine r_ishr dX10_costOf_15 ?_
    refine r_iconst_1 dX10_costOf_16 ?_
    refine r_iand dX10_costOf_17 ?_
    refine r_aload_n 0 dX10_costOf_18 rfl rfl ?_
    refine xg_10_33 rfl dX10_costOf_19 ?_
    refine r_iload_n 3 dX10_costOf_22 rfl rfl ?_
    obtain ⟨b2, h⟩ := h
    refine xl_215 b2 dX10_costOf_23 ?_
    refine r_imul dX10_costOf_24 ?_
    refine r_iadd dX10_costOf_25 ?_
    refine r_istore_n [(2, .int (y2 + (((y1 >>> (y3 &&& 31)) &&& 1) * (xa_Wall_cost S (ix y3))))), (0, .ref (q 10)), (1, .int (y1)), (3, .int (y3))] dX10_costOf_26 rfl (Nat.le_of_ble_eq_true rfl) rfl ?_
    refine r_iinc 3 [(3, .int (y3 + 1)), (2, .int (y2 + (((y1 >>> (y3 &&& 31)) &&& 1) * (xa_Wall_cost S (ix y3))))), (0, .ref (q 10)), (1, .int (y1))] dX10_costOf_27 rfl rfl (Nat.le_of_ble_eq_true rfl) rfl ?_
    refine r_goto (tgt := 4) dX10_costOf_30 (by decide) ?_
    refine r_ls [2, 3, 1, 0] (ls2 := [(0, .ref (q 10)), (1, .int (y1)), (2, .int (y2 + (((y1 >>> (y3 &&& 31)) &&& 1) * (xa_Wall_cost S (ix y3))))), (3, .int (y3 + 1))]) rfl ?_
    exact h
abbrev T_Wall_bestSet_10 (E : EvT) (q : Nat → Nat) (D : Nat) (P : Int32 → StX → Prop) (S : StX) (y1 : Int32) (y2 : Int32) (y3 : Int32) (y4 : Int32) (y5 : Int32) : Prop := RX E q iX_Wall_bestSet D (qIx E q P) S [(0, .ref (q 10)), (1, .int (y1)), (2, .int (y2)), (3, .int (y3)), (4, .int (y4)), (5, .int (y5))] [] 10
set_option maxRecDepth 20000 in
theorem en_Wall_bestSet {E : EvT} {q : Nat → Nat} {d : Nat} {x1 : Int32} {S : StX} {P : Int32 → StX → Prop} (h : T_Wall_bestSet_10 E q (d + 2) P S x1 0 0 0 1) : C_Wall_bestSet E q (d + 2) x1 S P := by
  refine Cn.of rfl (Nat.le_of_ble_eq_true rfl) (ls := [(0, .ref (q 10)), (1, .int (x1))]) rfl ?_
  refine r_iconst_0 dX10_bestSet_0 ?_
  refine r_istore_n [(2, .int (0)), (0, .ref (q 10)), (1, .int (x1))] dX10_bestSet_1 rfl (Nat.le_of_ble_eq_true rfl) rfl ?_
  refine r_iconst_0 dX10_bestSet_2 ?_
  refine r_istore_n [(3, .int (0)), (2, .int (0)), (0, .ref (q 10)), (1, .int (x1))] dX10_bestSet_3 rfl (Nat.le_of_ble_eq_true rfl) rfl ?_
  refine r_iconst_0 dX10_bestSet_4 ?_
  refine r_istore [(4, .int (0)), (3, .int (0)), (2, .int (0)), (0, .ref (q 10)), (1, .int (x1))] dX10_bestSet_5 (Nat.le_of_ble_eq_true rfl) rfl ?_
  refine r_iconst_1 dX10_bestSet_7 ?_
  refine r_istore [(5, .int (1)), (4, .int (0)), (3, .int (0)), (2, .int (0)), (0, .ref (q 10)), (1, .int (x1))] dX10_bestSet_8 (Nat.le_of_ble_eq_true rfl) rfl ?_
  refine r_ls [4, 5, 3, 2, 1, 0] (ls2 := [(0, .ref (q 10)), (1, .int (x1)), (2, .int (0)), (3, .int (0)), (4, .int (0)), (5, .int (1))]) rfl ?_
  exact h
set_option maxRecDepth 20000 in
theorem sg_Wall_bestSet_10 {E : EvT} {q : Nat → Nat} {d : Nat} {S : StX} {P : Int32 → StX → Prop} {y1 : Int32} {y2 : Int32} {y3 : Int32} {y4 : Int32} {y5 : Int32} (h : (((1 : Int32) <<< ((xs_Wall_works S) &&& 31)) ≤ y5 → (P y2 S)) ∧ (¬ ((1 : Int32) <<< ((xs_Wall_works S) &&& 31)) ≤ y5 → (C_Wall_costOf E q (d + 1) y5 S (fun r2 S3 => (r2 ≤ y1 → (C_Wall_savedBy E q (d + 1) y5 S3 (fun r5 S6 => (y3 < r5 → (T_Wall_bestSet_10 E q (d + 2) P S6 y1 y5 r5 r2 (y5 + 1))) ∧ (¬ y3 < r5 → ((¬ r5 = y3 → (T_Wall_bestSet_10 E q (d + 2) P S6 y1 y2 y3 y4 (y5 + 1))) ∧ (r5 = y3 → ((y4 ≤ r2 → (T_Wall_bestSet_10 E q (d + 2) P S6 y1 y2 y3 y4 (y5 + 1))) ∧ (¬ y4 ≤ r2 → (T_Wall_bestSet_10 E q (d + 2) P S6 y1 y5 r5 r2 (y5 + 1)))))))))) ∧ (¬ r2 ≤ y1 → (T_Wall_bestSet_10 E q (d + 2) P S3 y1 y2 y3 y4 (y5 + 1))))))) : T_Wall_bestSet_10 E q (d + 2) P S y1 y2 y3 y4 y5 := by
  refine r_iload 5 dX10_bestSet_10 rfl ?_
  refine r_iconst_1 dX10_bestSet_12 ?_
  refine r_aload_n 0 dX10_bestSet_13 rfl rfl ?_
  refine xg_10_68 rfl dX10_bestSet_14 ?_
  refine r_ishl dX10_bestSet_17 ?_
  refine r_icmp_ge (tgt := 81) dX10_bestSet_18 (by decide) (fun c1 => ?_) (fun c1 => ?_)
  · have h := h.1 c1
    refine r_iload_n 2 dX10_bestSet_81 rfl rfl ?_
    exact r_iret dX10_bestSet_82 rfl (Nat.le_refl _) (Nat.le_refl _) ⟨_, _, rfl, rfl, h⟩
  · have h := h.2 c1
    refine r_aload_n 0 dX10_bestSet_21 rfl rfl ?_
    refine r_iload 5 dX10_bestSet_22 rfl ?_
    refine K10_Wall_costOf rfl (Nat.le_of_ble_eq_true rfl) dX10_bestSet_24 (mIx h (fun r2 S3 h => ?_))
    refine r_istore [(6, .int (r2)), (0, .ref (q 10)), (1, .int (y1)), (2, .int (y2)), (3, .int (y3)), (4, .int (y4)), (5, .int (y5))] dX10_bestSet_27 (Nat.le_of_ble_eq_true rfl) rfl ?_
    refine r_iload 0 dX10_bestSet_29 rfl ?_
    refine r_iload_n 2 dX10_bestSet_31 rfl rfl ?_
    refine r_icmp_le (tgt := 38) dX10_bestSet_32 (by decide) (fun c4 => ?_) (fun c4 => ?_)
    · have h := h.1 c4
      refine r_aload_n 1 dX10_bestSet_38 rfl rfl ?_
      refine r_iload 6 dX10_bestSet_39 rfl ?_
      refine K10_Wall_savedBy rfl (Nat.le_of_ble_eq_true rfl) dX10_bestSet_41 (mIx h (fun r5 S6 h => ?_))
      refine r_istore [(7, .int (r5)), (6, .int (r2)), (0, .ref (q 10)), (1, .int (y1)), (2, .int (y2)), (3, .int (y3)), (4, .int (y4)), (5, .int (y5))] dX10_bestSet_44 (Nat.le_of_ble_eq_true rfl) rfl ?_
      refine r_iload 0 dX10_bestSet_46 rfl ?_
      refine r_iload_n 5 dX10_bestSet_48 rfl rfl ?_
      refine r_icmp_gt (tgt := 65) dX10_bestSet_49 (by decide) (fun c7 => ?_) (fun c7 => ?_)
      · have h := h.1 c7
        refine r_iload 7 dX10_bestSet_65 rfl ?_
        refine r_istore_n [(2, .int (y5)), (7, .int (r5)), (6, .int (r2)), (0, .ref (q 10)), (1, .int (y1)), (3, .int (y3)), (4, .int (y4)), (5, .int (y5))] dX10_bestSet_67 rfl (Nat.le_of_ble_eq_true rfl) rfl ?_
        refine r_iload 1 dX10_bestSet_68 rfl ?_
        refine r_istore_n [(3, .int (r5)), (2, .int (y5)), (7, .int (r5)), (6, .int (r2)), (0, .ref (q 10)), (1, .int (y1)), (4, .int (y4)), (5, .int (y5))] dX10_bestSet_70 rfl (Nat.le_of_ble_eq_true rfl) rfl ?_
        refine r_iload 3 dX10_bestSet_71 rfl ?_
        refine r_istore [(4, .int (r2)), (3, .int (r5)), (2, .int (y5)), (7, .int (r5)), (6, .int (r2)), (0, .ref (q 10)), (1, .int (y1)), (5, .int (y5))] dX10_bestSet_73 (Nat.le_of_ble_eq_true rfl) rfl ?_
        refine r_iinc 7 [(5, .int (y5 + 1)), (4, .int (r2)), (3, .int (r5)), (2, .int (y5)), (7, .int (r5)), (6, .int (r2)), (0, .ref (q 10)), (1, .int (y1))] dX10_bestSet_75 rfl rfl (Nat.le_of_ble_eq_true rfl) rfl ?_
        refine r_goto (tgt := 10) dX10_bestSet_78 (by decide) ?_
        refine r_ls [6, 7, 3, 2, 1, 0] (ls2 := [(0, .ref (q 10)), (1, .int (y1)), (2, .int (y5)), (3, .int (r5)), (4, .int (r2)), (5, .int (y5 + 1))]) rfl ?_
        exact h
      · have h := h.2 c7
        refine r_iload 0 dX10_bestSet_52 rfl ?_
        refine r_iload_n 5 dX10_bestSet_54 rfl rfl ?_
        refine r_icmp_ne (tgt := 75) dX10_bestSet_55 (by decide) (fun c8 => ?_) (fun c8 => ?_)
        · have h := h.1 c8
          refine r_iinc 7 [(5, .int (y5 + 1)), (7, .int (r5)), (6, .int (r2)), (0, .ref (q 10)), (1, .int (y1)), (2, .int (y2)), (3, .int (y3)), (4, .int (y4))] dX10_bestSet_75 rfl rfl (Nat.le_of_ble_eq_true rfl) rfl ?_
          refine r_goto (tgt := 10) dX10_bestSet_78 (by decide) ?_
          refine r_ls [3, 4, 5, 6, 7, 0] (ls2 := [(0, .ref (q 10)), (1, .int (y1)), (2, .int (y2)), (3, .int (y3)), (4, .int (y4)), (5, .int (y5 + 1))]) rfl ?_
          exact h
        · have h := h.2 c8
          refine r_iload 1 dX10_bestSet_58 rfl ?_
          refine r_iload 6 dX10_bestSet_60 rfl ?_
          refine r_icmp_ge (tgt := 75) dX10_bestSet_62 (by decide) (fun c9 => ?_) (fun c9 => ?_)
          · have h := h.1 c9
            refine r_iinc 7 [(5, .int (y5 + 1)), (7, .int (r5)), (6, .int (r2)), (0, .ref (q 10)), (1, .int (y1)), (2, .int (y2)), (3, .int (y3)), (4, .int (y4))] dX10_bestSet_75 rfl rfl (Nat.le_of_ble_eq_true rfl) rfl ?_
            refine r_goto (tgt := 10) dX10_bestSet_78 (by decide) ?_
            refine r_ls [3, 4, 5, 6, 7, 0] (ls2 := [(0, .ref (q 10)), (1, .int (y1)), (2, .int (y2)), (3, .int (y3)), (4, .int (y4)), (5, .int (y5 + 1))]) rfl ?_
            exact h
          · have h := h.2 c9
            refine r_iload 7 dX10_bestSet_65 rfl ?_
            refine r_istore_n [(2, .int (y5)), (7, .int (r5)), (6, .int (r2)), (0, .ref (q 10)), (1, .int (y1)), (3, .int (y3)), (4, .int (y4)), (5, .int (y5))] dX10_bestSet_67 rfl (Nat.le_of_ble_eq_true rfl) rfl ?_
            refine r_iload 1 dX10_bestSet_68 rfl ?_
            refine r_istore_n [(3, .int (r5)), (2, .int (y5)), (7, .int (r5)), (6, .int (r2)), (0, .ref (q 10)), (1, .int (y1)), (4, .int (y4)), (5, .int (y5))] dX10_bestSet_70 rfl (Nat.le_of_ble_eq_true rfl) rfl ?_
            refine r_iload 3 dX10_bestSet_71 rfl ?_
            refine r_istore [(4, .int (r2)), (3, .int (r5)), (2, .int (y5)), (7, .int (r5)), (6, .int (r2)), (0, .ref (q 10)), (1, .int (y1)), (5, .int (y5))] dX10_bestSet_73 (Nat.le_of_ble_eq_true rfl) rfl ?_
            refine r_iinc 7 [(5, .int (y5 + 1)), (4, .int (r2)), (3, .int (r5)), (2, .int (y5)), (7, .int (r5)), (6, .int (r2)), (0, .ref (q 10)), (1, .int (y1))] dX10_bestSet_75 rfl rfl (Nat.le_of_ble_eq_true rfl) rfl ?_
            refine r_goto (tgt := 10) dX10_bestSet_78 (by decide) ?_
            refine r_ls [6, 7, 3, 2, 1, 0] (ls2 := [(0, .ref (q 10)), (1, .int (y1)), (2, .int (y5)), (3, .int (r5)), (4, .int (r2)), (5, .int (y5 + 1))]) rfl ?_
            exact h
    · have h := h.2 c4
      refine r_goto (tgt := 75) dX10_bestSet_35 (by decide) ?_
      refine r_iinc 6 [(5, .int (y5 + 1)), (6, .int (r2)), (0, .ref (q 10)), (1, .int (y1)), (2, .int (y2)), (3, .int (y3)), (4, .int (y4))] dX10_bestSet_75 rfl rfl (Nat.le_of_ble_eq_true rfl) rfl ?_
      refine r_goto (tgt := 10) dX10_bestSet_78 (by decide) ?_
      refine r_ls [2, 3, 4, 5, 6, 0] (ls2 := [(0, .ref (q 10)), (1, .int (y1)), (2, .int (y2)), (3, .int (y3)), (4, .int (y4)), (5, .int (y5 + 1))]) rfl ?_
      exact h
set_option maxRecDepth 20000 in
theorem en_City_city {E : EvT} {q : Nat → Nat} {d : Nat} {x1 : Int32} {x2 : Int32} {S : StX} {P : Bool → StX → Prop} (h : ((mIn x1 4 10) = false → (P false S)) ∧ ((mIn x1 4 10) = true → (((mIn x2 4 10) = true → ((0 < (xs_Plan_places S) → (P false S)) ∧ (¬ 0 < (xs_Plan_places S) → ((0 < (xs_Digs_size S) → (P false S)) ∧ (¬ 0 < (xs_Digs_size S) → (((xs_Fall_hollows S) ≤ 0 → (C_Plan_resize E q (d + 1) x1 x2 S (fun S7 => C_Fall_level E q (d + 1) S7 (fun S9 => P true S9)))) ∧ (¬ (xs_Fall_hollows S) ≤ 0 → (P false S)))))))) ∧ ((mIn x2 4 10) = false → (P false S))))) : C_City_city E q (d + 2) x1 x2 S P := by
  refine Cn.of rfl (Nat.le_of_ble_eq_true rfl) (ls := [(0, .ref (q 11)), (1, .int (x1)), (2, .int (x2))]) rfl ?_
  refine r_iload_n 1 dX11_city_0 rfl rfl ?_
  refine r_iconst_4 dX11_city_1 ?_
  refine r_bipush_10 dX11_city_2 ?_
  refine KP11_City_within (d := d + 1)  rfl (Nat.le_of_ble_eq_true rfl) dX11_city_4 ?_
  refine r_if_eqb (tgt := 20) dX11_city_7 (by decide) (fun c1 => ?_) (fun c1 => ?_)
  · have h := h.1 c1
    refine r_iconst_0 dX11_city_20 ?_
    exact r_zret0 dX11_city_21 rfl (Nat.le_refl _) (Nat.le_refl _) ⟨_, _, rfl, rfl, h⟩
  · have h := h.2 c1
    refine r_iload_n 2 dX11_city_10 rfl rfl ?_
    refine r_iconst_4 dX11_city_11 ?_
    refine r_bipush_10 dX11_city_12 ?_
    refine KP11_City_within (d := d + 1)  rfl (Nat.le_of_ble_eq_true rfl) dX11_city_14 ?_
    refine r_if_neb (tgt := 22) dX11_city_17 (by decide) (fun c2 => ?_) (fun c2 => ?_)
    · have h := h.1 c2
      refine r_aload_n 0 dX11_city_22 rfl rfl ?_
      refine xg_11_19 rfl dX11_city_23 ?_
      refine xg_11_95 rfl dX11_city_26 ?_
      refine r_if_gt (tgt := 52) dX11_city_29 (by decide) (fun c3 => ?_) (fun c3 => ?_)
      · have h := h.1 c3
        refine r_iconst_0 dX11_city_52 ?_
        exact r_zret0 dX11_city_53 rfl (Nat.le_refl _) (Nat.le_refl _) ⟨_, _, rfl, rfl, h⟩
      · have h := h.2 c3
        refine r_aload_n 0 dX11_city_32 rfl rfl ?_
        refine xg_11_28 rfl dX11_city_33 ?_
        refine xg_11_98 rfl dX11_city_36 ?_
        refine r_if_gt (tgt := 52) dX11_city_39 (by decide) (fun c4 => ?_) (fun c4 => ?_)
        · have h := h.1 c4
          refine r_iconst_0 dX11_city_52 ?_
          exact r_zret0 dX11_city_53 rfl (Nat.le_refl _) (Nat.le_refl _) ⟨_, _, rfl, rfl, h⟩
        · have h := h.2 c4
          refine r_aload_n 0 dX11_city_42 rfl rfl ?_
          refine xg_11_74 rfl dX11_city_43 ?_
          refine xg_11_101 rfl dX11_city_46 ?_
          refine r_if_le (tgt := 54) dX11_city_49 (by decide) (fun c5 => ?_) (fun c5 => ?_)
          · have h := h.1 c5
            refine r_aload_n 0 dX11_city_54 rfl rfl ?_
            refine xg_11_19 rfl dX11_city_55 ?_
            refine r_iload_n 1 dX11_city_58 rfl rfl ?_
            refine r_iload_n 2 dX11_city_59 rfl rfl ?_
            refine K11_Plan_resize rfl (Nat.le_of_ble_eq_true rfl) dX11_city_60 (mVx h (fun S7 h => ?_))
            refine r_aload_n 0 dX11_city_63 rfl rfl ?_
            refine xg_11_74 rfl dX11_city_64 ?_
            refine K11_Fall_level rfl (Nat.le_of_ble_eq_true rfl) dX11_city_67 (mVx h (fun S9 h => ?_))
            refine r_iconst_1 dX11_city_70 ?_
            exact r_zret1 dX11_city_71 rfl (Nat.le_refl _) (Nat.le_refl _) ⟨_, _, rfl, rfl, h⟩
          · have h := h.2 c5
            refine r_iconst_0 dX11_city_52 ?_
            exact r_zret0 dX11_city_53 rfl (Nat.le_refl _) (Nat.le_refl _) ⟨_, _, rfl, rfl, h⟩
    · have h := h.2 c2
      refine r_iconst_0 dX11_city_20 ?_
      exact r_zret0 dX11_city_21 rfl (Nat.le_refl _) (Nat.le_refl _) ⟨_, _, rfl, rfl, h⟩
set_option maxRecDepth 20000 in
theorem en_City_now {E : EvT} {q : Nat → Nat} {d : Nat} {x1 : Int32} {S : StX} {P : Bool → StX → Prop} (h : ((mWeek x1) = false → (P false S)) ∧ ((mWeek x1) = true → (((xs_City_today S) ≤ x1 → (P true (xI S 230 x1))) ∧ (¬ (xs_City_today S) ≤ x1 → (P false S))))) : C_City_now E q (d + 2) x1 S P := by
  refine Cn.of rfl (Nat.le_of_ble_eq_true rfl) (ls := [(0, .ref (q 11)), (1, .int (x1))]) rfl ?_
  refine r_iload_n 1 dX11_now_0 rfl rfl ?_
  refine KP11_City_isWeek (d := d + 0)  rfl (Nat.le_of_ble_eq_true rfl) dX11_now_1 ?_
  refine r_if_eqb (tgt := 15) dX11_now_4 (by decide) (fun c1 => ?_) (fun c1 => ?_)
  · have h := h.1 c1
    refine r_iconst_0 dX11_now_15 ?_
    exact r_zret0 dX11_now_16 rfl (Nat.le_refl _) (Nat.le_refl _) ⟨_, _, rfl, rfl, h⟩
  · have h := h.2 c1
    refine r_iload_n 1 dX11_now_7 rfl rfl ?_
    refine r_aload_n 0 dX11_now_8 rfl rfl ?_
    refine xg_11_87 rfl dX11_now_9 ?_
    refine r_icmp_ge (tgt := 17) dX11_now_12 (by decide) (fun c2 => ?_) (fun c2 => ?_)
    · have h := h.1 c2
      refine r_aload_n 0 dX11_now_17 rfl rfl ?_
      refine r_iload_n 1 dX11_now_18 rfl rfl ?_
      refine xq_11_87 rfl dX11_now_19 ?_
      refine r_iconst_1 dX11_now_22 ?_
      exact r_zret1 dX11_now_23 rfl (Nat.le_refl _) (Nat.le_refl _) ⟨_, _, rfl, rfl, h⟩
    · have h := h.2 c2
      refine r_iconst_0 dX11_now_15 ?_
      exact r_zret0 dX11_now_16 rfl (Nat.le_refl _) (Nat.le_refl _) ⟨_, _, rfl, rfl, h⟩
set_option maxRecDepth 20000 in
theorem en_City_place {E : EvT} {q : Nat → Nat} {d : Nat} {x1 : Int32} {x2 : Int32} {x3 : Int32} {S : StX} {P : Int32 → StX → Prop} (h : ((mIn x1 0 2) = false → (P (-1) S)) ∧ ((mIn x1 0 2) = true → (((pArea S x2 x3) = true → ((30 ≤ (xs_Plan_places S) → (P (-1) S)) ∧ (¬ 30 ≤ (xs_Plan_places S) → (C_Plan_isTaken E q (d + 3) x2 x3 S (fun r4 S5 => (r4 = false → (C_Digs_noteArea E q (d + 3) (xs_Plan_places S5) x2 x3 S5 (fun S8 => C_Plan_add E q (d + 3) x1 x2 x3 S8 (fun r9 S10 => P r9 S10)))) ∧ (r4 = true → (P (-1) S5))))))) ∧ ((pArea S x2 x3) = false → (P (-1) S))))) : C_City_place E q (d + 4) x1 x2 x3 S P := by
  refine Cn.of rfl (Nat.le_of_ble_eq_true rfl) (ls := [(0, .ref (q 11)), (1, .int (x1)), (2, .int (x2)), (3, .int (x3))]) rfl ?_
  refine r_iload_n 1 dX11_place_0 rfl rfl ?_
  refine r_iconst_0 dX11_place_1 ?_
  refine r_iconst_2 dX11_place_2 ?_
  refine KP11_City_within (d := d + 3)  rfl (Nat.le_of_ble_eq_true rfl) dX11_place_3 ?_
  refine r_if_eqb (tgt := 21) dX11_place_6 (by decide) (fun c1 => ?_) (fun c1 => ?_)
  · have h := h.1 c1
    refine r_iconst_m1 dX11_place_21 ?_
    exact r_iret dX11_place_22 rfl (Nat.le_refl _) (Nat.le_refl _) ⟨_, _, rfl, rfl, h⟩
  · have h := h.2 c1
    refine r_aload_n 0 dX11_place_9 rfl rfl ?_
    refine xg_11_19 rfl dX11_place_10 ?_
    refine r_iload_n 2 dX11_place_13 rfl rfl ?_
    refine r_iload_n 3 dX11_place_14 rfl rfl ?_
    refine KP11_Plan_isArea (d := d + 1)  rfl (Nat.le_of_ble_eq_true rfl) dX11_place_15 ?_
    refine r_if_neb (tgt := 23) dX11_place_18 (by decide) (fun c2 => ?_) (fun c2 => ?_)
    · have h := h.1 c2
      refine r_aload_n 0 dX11_place_23 rfl rfl ?_
      refine xg_11_19 rfl dX11_place_24 ?_
      refine xg_11_95 rfl dX11_place_27 ?_
      refine r_bipush_30 dX11_place_30 ?_
      refine r_icmp_ge (tgt := 47) dX11_place_32 (by decide) (fun c3 => ?_) (fun c3 => ?_)
      · have h := h.1 c3
        refine r_iconst_m1 dX11_place_47 ?_
        exact r_iret dX11_place_48 rfl (Nat.le_refl _) (Nat.le_refl _) ⟨_, _, rfl, rfl, h⟩
      · have h := h.2 c3
        refine r_aload_n 0 dX11_place_35 rfl rfl ?_
        refine xg_11_19 rfl dX11_place_36 ?_
        refine r_iload_n 2 dX11_place_39 rfl rfl ?_
        refine r_iload_n 3 dX11_place_40 rfl rfl ?_
        refine K11_Plan_isTaken rfl (Nat.le_of_ble_eq_true rfl) dX11_place_41 (mBx h (fun r4 S5 h => ?_))
        refine r_if_eqb (tgt := 49) dX11_place_44 (by decide) (fun c6 => ?_) (fun c6 => ?_)
        · have h := h.1 c6
          refine r_aload_n 0 dX11_place_49 rfl rfl ?_
          refine xg_11_28 rfl dX11_place_50 ?_
          refine r_aload_n 0 dX11_place_53 rfl rfl ?_
          refine xg_11_19 rfl dX11_place_54 ?_
          refine xg_11_95 rfl dX11_place_57 ?_
          refine r_iload_n 2 dX11_place_60 rfl rfl ?_
          refine r_iload_n 3 dX11_place_61 rfl rfl ?_
          refine K11_Digs_noteArea rfl (Nat.le_of_ble_eq_true rfl) dX11_place_62 (mVx h (fun S8 h => ?_))
          refine r_aload_n 0 dX11_place_65 rfl rfl ?_
          refine xg_11_19 rfl dX11_place_66 ?_
          refine r_iload_n 1 dX11_place_69 rfl rfl ?_
          refine r_iload_n 2 dX11_place_70 rfl rfl ?_
          refine r_iload_n 3 dX11_place_71 rfl rfl ?_
          refine K11_Plan_add rfl (Nat.le_of_ble_eq_true rfl) dX11_place_72 (mIx h (fun r9 S10 h => ?_))
          exact r_iret dX11_place_75 rfl (Nat.le_refl _) (Nat.le_refl _) ⟨_, _, rfl, rfl, h⟩
        · have h := h.2 c6
          refine r_iconst_m1 dX11_place_47 ?_
          exact r_iret dX11_place_48 rfl (Nat.le_refl _) (Nat.le_refl _) ⟨_, _, rfl, rfl, h⟩
    · have h := h.2 c2
      refine r_iconst_m1 dX11_place_21 ?_
      exact r_iret dX11_place_22 rfl (Nat.le_refl _) (Nat.le_refl _) ⟨_, _, rfl, rfl, h⟩
set_option maxRecDepth 20000 in
theorem en_City_placeOf {E : EvT} {q : Nat → Nat} {d : Nat} {x1 : Int32} {S : StX} {P : Int32 → StX → Prop} (h : ((pCell S x1) = false → (P (-1) S)) ∧ ((pCell S x1) = true → (C_Plan_owner E q (d + 3) x1 S (fun r2 S3 => P r2 S3)))) : C_City_placeOf E q (d + 4) x1 S P := by
  refine Cn.of rfl (Nat.le_of_ble_eq_true rfl) (ls := [(0, .ref (q 11)), (1, .int (x1))]) rfl ?_
  refine r_aload_n 0 dX11_placeOf_0 rfl rfl ?_
  refine xg_11_19 rfl dX11_placeOf_1 ?_
  refine r_iload_n 1 dX11_placeOf_4 rfl rfl ?_
  refine KP11_Plan_isCell (d := d + 2)  rfl (Nat.le_of_ble_eq_true rfl) dX11_placeOf_5 ?_
  refine r_if_eqb (tgt := 22) dX11_placeOf_8 (by decide) (fun c1 => ?_) (fun c1 => ?_)
  · have h := h.1 c1
    refine r_iconst_m1 dX11_placeOf_22 ?_
    exact r_iret dX11_placeOf_23 rfl (Nat.le_refl _) (Nat.le_refl _) ⟨_, _, rfl, rfl, h⟩
  · have h := h.2 c1
    refine r_aload_n 0 dX11_placeOf_11 rfl rfl ?_
    refine xg_11_19 rfl dX11_placeOf_12 ?_
    refine r_iload_n 1 dX11_placeOf_15 rfl rfl ?_
    refine K11_Plan_owner rfl (Nat.le_of_ble_eq_true rfl) dX11_placeOf_16 (mIx h (fun r2 S3 h => ?_))
    refine r_goto (tgt := 23) dX11_placeOf_19 (by decide) ?_
    exact r_iret dX11_placeOf_23 rfl (Nat.le_refl _) (Nat.le_refl _) ⟨_, _, rfl, rfl, h⟩
set_option maxRecDepth 20000 in
theorem en_City_dig {E : EvT} {q : Nat → Nat} {d : Nat} {x1 : Int32} {x2 : Int32} {x3 : Int32} {x4 : Int32} {x5 : Int32} {x6 : Int32} {x7 : Int32} {x8 : Int32} {S : StX} {P : Int32 → StX → Prop} (h : ((mIn x1 0 7) = false → (P (-1) S)) ∧ ((mIn x1 0 7) = true → (((mIn x2 0 2) = false → (P (-1) S)) ∧ ((mIn x2 0 2) = true → (((pArea S x3 x4) = true → (((pSpan x5 x6 7) = false → (P (-1) S)) ∧ ((pSpan x5 x6 7) = true → ((¬ x2 = 0 → (((pSpan x7 x8 (xs_City_today S)) = false → (P (-1) S)) ∧ ((pSpan x7 x8 (xs_City_today S)) = true → (((xs_Digs_size S) < 100 → (C_Digs_begin E q (d + 3) x1 x2 x3 x4 S (fun S9 => C_Digs_reach E q (d + 3) x5 x6 S9 (fun S11 => C_Digs_finish E q (d + 3) x7 x8 (xs_City_today S11) S11 (fun r12 S13 => P r12 S13))))) ∧ (¬ (xs_Digs_size S) < 100 → (P (-1) S)))))) ∧ (x2 = 0 → ((x5 = 0 → (((pSpan x7 x8 (xs_City_today S)) = false → (P (-1) S)) ∧ ((pSpan x7 x8 (xs_City_today S)) = true → (((xs_Digs_size S) < 100 → (C_Digs_begin E q (d + 3) x1 x2 x3 x4 S (fun S18 => C_Digs_reach E q (d + 3) x5 x6 S18 (fun S20 => C_Digs_finish E q (d + 3) x7 x8 (xs_City_today S20) S20 (fun r21 S22 => P r21 S22))))) ∧ (¬ (xs_Digs_size S) < 100 → (P (-1) S)))))) ∧ (¬ x5 = 0 → (P (-1) S)))))))) ∧ ((pArea S x3 x4) = false → (P (-1) S))))))) : C_City_dig E q (d + 4) x1 x2 x3 x4 x5 x6 x7 x8 S P := by
  refine Cn.of rfl (Nat.le_of_ble_eq_true rfl) (ls := [(0, .ref (q 11)), (1, .int (x1)), (2, .int (x2)), (3, .int (x3)), (4, .int (x4)), (5, .int (x5)), (6, .int (x6)), (7, .int (x7)), (8, .int (x8))]) rfl ?_
  refine r_iload_n 1 dX11_dig_0 rfl rfl ?_
  refine r_iconst_0 dX11_dig_1 ?_
  refine r_bipush_7 dX11_dig_2 ?_
  refine KP11_City_within (d := d + 3)  rfl (Nat.le_of_ble_eq_true rfl) dX11_dig_4 ?_
  refine r_if_eqb (tgt := 32) dX11_dig_7 (by decide) (fun c1 => ?_) (fun c1 => ?_)
  · have h := h.1 c1
    refine r_iconst_m1 dX11_dig_32 ?_
    exact r_iret dX11_dig_33 rfl (Nat.le_refl _) (Nat.le_refl _) ⟨_, _, rfl, rfl, h⟩
  · have h := h.2 c1
    refine r_iload_n 2 dX11_dig_10 rfl rfl ?_
    refine r_iconst_0 dX11_dig_11 ?_
    refine r_iconst_2 dX11_dig_12 ?_
    refine KP11_City_within (d := d + 3)  rfl (Nat.le_of_ble_eq_true rfl) dX11_dig_13 ?_
    refine r_if_eqb (tgt := 32) dX11_dig_16 (by decide) (fun c2 => ?_) (fun c2 => ?_)
    · have h := h.1 c2
      refine r_iconst_m1 dX11_dig_32 ?_
      exact r_iret dX11_dig_33 rfl (Nat.le_refl _) (Nat.le_refl _) ⟨_, _, rfl, rfl, h⟩
    · have h := h.2 c2
      refine r_aload_n 0 dX11_dig_19 rfl rfl ?_
      refine xg_11_19 rfl dX11_dig_20 ?_
      refine r_iload_n 3 dX11_dig_23 rfl rfl ?_
      refine r_iload 4 dX11_dig_24 rfl ?_
      refine KP11_Plan_isArea (d := d + 1)  rfl (Nat.le_of_ble_eq_true rfl) dX11_dig_26 ?_
      refine r_if_neb (tgt := 34) dX11_dig_29 (by decide) (fun c3 => ?_) (fun c3 => ?_)
      · have h := h.1 c3
        refine r_iload 5 dX11_dig_34 rfl ?_
        refine r_iload 6 dX11_dig_36 rfl ?_
        refine r_bipush_7 dX11_dig_38 ?_
        refine KP11_City_isSpan (d := d + 3)  rfl (Nat.le_of_ble_eq_true rfl) dX11_dig_40 ?_
        refine r_if_eqb (tgt := 55) dX11_dig_43 (by decide) (fun c4 => ?_) (fun c4 => ?_)
        · have h := h.1 c4
          refine r_iconst_m1 dX11_dig_55 ?_
          exact r_iret dX11_dig_56 rfl (Nat.le_refl _) (Nat.le_refl _) ⟨_, _, rfl, rfl, h⟩
        · have h := h.2 c4
          refine r_iload_n 2 dX11_dig_46 rfl rfl ?_
          refine r_if_ne (tgt := 57) dX11_dig_47 (by decide) (fun c5 => ?_) (fun c5 => ?_)
          · have h := h.1 c5
            refine r_iload 7 dX11_dig_57 rfl ?_
            refine r_iload 8 dX11_dig_59 rfl ?_
            refine r_aload_n 0 dX11_dig_61 rfl rfl ?_
            refine xg_11_87 rfl dX11_dig_62 ?_
            refine KP11_City_isSpan (d := d + 3)  rfl (Nat.le_of_ble_eq_true rfl) dX11_dig_65 ?_
            refine r_if_eqb (tgt := 83) dX11_dig_68 (by decide) (fun c6 => ?_) (fun c6 => ?_)
            · have h := h.1 c6
              refine r_iconst_m1 dX11_dig_83 ?_
              exact r_iret dX11_dig_84 rfl (Nat.le_refl _) (Nat.le_refl _) ⟨_, _, rfl, rfl, h⟩
            · have h := h.2 c6
              refine r_aload_n 0 dX11_dig_71 rfl rfl ?_
              refine xg_11_28 rfl dX11_dig_72 ?_
              refine xg_11_98 rfl dX11_dig_75 ?_
              refine r_bipush_100 dX11_dig_78 ?_
              refine r_icmp_lt (tgt := 85) dX11_dig_80 (by decide) (fun c7 => ?_) (fun c7 => ?_)
              · have h := h.1 c7
                refine r_aload_n 0 dX11_dig_85 rfl rfl ?_
                refine xg_11_28 rfl dX11_dig_86 ?_
                refine r_iload_n 1 dX11_dig_89 rfl rfl ?_
                refine r_iload_n 2 dX11_dig_90 rfl rfl ?_
                refine r_iload_n 3 dX11_dig_91 rfl rfl ?_
                refine r_iload 4 dX11_dig_92 rfl ?_
                refine K11_Digs_begin rfl (Nat.le_of_ble_eq_true rfl) dX11_dig_94 (mVx h (fun S9 h => ?_))
                refine r_aload_n 0 dX11_dig_97 rfl rfl ?_
                refine xg_11_28 rfl dX11_dig_98 ?_
                refine r_iload 5 dX11_dig_101 rfl ?_
                refine r_iload 6 dX11_dig_103 rfl ?_
                refine K11_Digs_reach rfl (Nat.le_of_ble_eq_true rfl) dX11_dig_105 (mVx h (fun S11 h => ?_))
                refine r_aload_n 0 dX11_dig_108 rfl rfl ?_
                refine xg_11_28 rfl dX11_dig_109 ?_
                refine r_iload 7 dX11_dig_112 rfl ?_
                refine r_iload 8 dX11_dig_114 rfl ?_
                refine r_aload_n 0 dX11_dig_116 rfl rfl ?_
                refine xg_11_87 rfl dX11_dig_117 ?_
                refine K11_Digs_finish rfl (Nat.le_of_ble_eq_true rfl) dX11_dig_120 (mIx h (fun r12 S13 h => ?_))
                exact r_iret dX11_dig_123 rfl (Nat.le_refl _) (Nat.le_refl _) ⟨_, _, rfl, rfl, h⟩
              · have h := h.2 c7
                refine r_iconst_m1 dX11_dig_83 ?_
                exact r_iret dX11_dig_84 rfl (Nat.le_refl _) (Nat.le_refl _) ⟨_, _, rfl, rfl, h⟩
          · have h := h.2 c5
            refine r_iload 5 dX11_dig_50 rfl ?_
            refine r_if_eq (tgt := 57) dX11_dig_52 (by decide) (fun c14 => ?_) (fun c14 => ?_)
            · have h := h.1 c14
              refine r_iload 7 dX11_dig_57 rfl ?_
              refine r_iload 8 dX11_dig_59 rfl ?_
              refine r_aload_n 0 dX11_dig_61 rfl rfl ?_
              refine xg_11_87 rfl dX11_dig_62 ?_
              refine KP11_City_isSpan (d := d + 3)  rfl (Nat.le_of_ble_eq_true rfl) dX11_dig_65 ?_
              refine r_if_eqb (tgt := 83) dX11_dig_68 (by decide) (fun c15 => ?_) (fun c15 => ?_)
              · have h := h.1 c15
                refine r_iconst_m1 dX11_dig_83 ?_
                exact r_iret dX11_dig_84 rfl (Nat.le_refl _) (Nat.le_refl _) ⟨_, _, rfl, rfl, h⟩
              · have h := h.2 c15
                refine r_aload_n 0 dX11_dig_71 rfl rfl ?_
                refine xg_11_28 rfl dX11_dig_72 ?_
                refine xg_11_98 rfl dX11_dig_75 ?_
                refine r_bipush_100 dX11_dig_78 ?_
                refine r_icmp_lt (tgt := 85) dX11_dig_80 (by decide) (fun c16 => ?_) (fun c16 => ?_)
                · have h := h.1 c16
                  refine r_aload_n 0 dX11_dig_85 rfl rfl ?_
                  refine xg_11_28 rfl dX11_dig_86 ?_
                  refine r_iload_n 1 dX11_dig_89 rfl rfl ?_
                  refine r_iload_n 2 dX11_dig_90 rfl rfl ?_
                  refine r_iload_n 3 dX11_dig_91 rfl rfl ?_
                  refine r_iload 4 dX11_dig_92 rfl ?_
                  refine K11_Digs_begin rfl (Nat.le_of_ble_eq_true rfl) dX11_dig_94 (mVx h (fun S18 h => ?_))
                  refine r_aload_n 0 dX11_dig_97 rfl rfl ?_
                  refine xg_11_28 rfl dX11_dig_98 ?_
                  refine r_iload 5 dX11_dig_101 rfl ?_
                  refine r_iload 6 dX11_dig_103 rfl ?_
                  refine K11_Digs_reach rfl (Nat.le_of_ble_eq_true rfl) dX11_dig_105 (mVx h (fun S20 h => ?_))
                  refine r_aload_n 0 dX11_dig_108 rfl rfl ?_
                  refine xg_11_28 rfl dX11_dig_109 ?_
                  refine r_iload 7 dX11_dig_112 rfl ?_
                  refine r_iload 8 dX11_dig_114 rfl ?_
                  refine r_aload_n 0 dX11_dig_116 rfl rfl ?_
                  refine xg_11_87 rfl dX11_dig_117 ?_
                  refine K11_Digs_finish rfl (Nat.le_of_ble_eq_true rfl) dX11_dig_120 (mIx h (fun r21 S22 h => ?_))
                  exact r_iret dX11_dig_123 rfl (Nat.le_refl _) (Nat.le_refl _) ⟨_, _, rfl, rfl, h⟩
                · have h := h.2 c16
                  refine r_iconst_m1 dX11_dig_83 ?_
                  exact r_iret dX11_dig_84 rfl (Nat.le_refl _) (Nat.le_refl _) ⟨_, _, rfl, rfl, h⟩
            · have h := h.2 c14
              refine r_iconst_m1 dX11_dig_55 ?_
              exact r_iret dX11_dig_56 rfl (Nat.le_refl _) (Nat.le_refl _) ⟨_, _, rfl, rfl, h⟩
      · have h := h.2 c3
        refine r_iconst_m1 dX11_dig_32 ?_
        exact r_iret dX11_dig_33 rfl (Nat.le_refl _) (Nat.le_refl _) ⟨_, _, rfl, rfl, h⟩
set_option maxRecDepth 20000 in
theorem en_City_strike {E : EvT} {q : Nat → Nat} {d : Nat} {x1 : Int32} {S : StX} {P : Bool → StX → Prop} (h : ((mIn x1 0 ((xs_Digs_size S) - 1)) = false → (P false S)) ∧ ((mIn x1 0 ((xs_Digs_size S) - 1)) = true → ((0 ≤ x1 ∧ x1 < 100) ∧ (((pStruck S x1) = false → (C_Digs_cross E q d x1 (xs_City_today S) S (fun S5 => P true S5))) ∧ ((pStruck S x1) = true → (P false S)))))) : C_City_strike E q (d + 1) x1 S P := by
  refine Cn.of rfl (Nat.le_of_ble_eq_true rfl) (ls := [(0, .ref (q 11)), (1, .int (x1))]) rfl ?_
  refine r_iload_n 1 dX11_strike_0 rfl rfl ?_
  refine r_iconst_0 dX11_strike_1 ?_
  refine r_aload_n 0 dX11_strike_2 rfl rfl ?_
  refine xg_11_28 rfl dX11_strike_3 ?_
  refine xg_11_98 rfl dX11_strike_6 ?_
  refine r_iconst_1 dX11_strike_9 ?_
  refine r_isub dX11_strike_10 ?_
  refine KP11_City_within (d := d + 0)  rfl (Nat.le_of_ble_eq_true rfl) dX11_strike_11 ?_
  refine r_if_eqb (tgt := 28) dX11_strike_14 (by decide) (fun c1 => ?_) (fun c1 => ?_)
  · have h := h.1 c1
    refine r_iconst_0 dX11_strike_28 ?_
    exact r_zret0 dX11_strike_29 rfl (Nat.le_refl _) (Nat.le_refl _) ⟨_, _, rfl, rfl, h⟩
  · have h := h.2 c1
    refine r_aload_n 0 dX11_strike_17 rfl rfl ?_
    refine xg_11_28 rfl dX11_strike_18 ?_
    refine r_iload_n 1 dX11_strike_21 rfl rfl ?_
    obtain ⟨b2, h⟩ := h
    refine KP11_Digs_isStruck (d := d + 0) b2 rfl (Nat.le_of_ble_eq_true rfl) dX11_strike_22 ?_
    refine r_if_eqb (tgt := 30) dX11_strike_25 (by decide) (fun c3 => ?_) (fun c3 => ?_)
    · have h := h.1 c3
      refine r_aload_n 0 dX11_strike_30 rfl rfl ?_
      refine xg_11_28 rfl dX11_strike_31 ?_
      refine r_iload_n 1 dX11_strike_34 rfl rfl ?_
      refine r_aload_n 0 dX11_strike_35 rfl rfl ?_
      refine xg_11_87 rfl dX11_strike_36 ?_
      refine K11_Digs_cross rfl (Nat.le_of_ble_eq_true rfl) dX11_strike_39 (mVx h (fun S5 h => ?_))
      refine r_iconst_1 dX11_strike_42 ?_
      exact r_zret1 dX11_strike_43 rfl (Nat.le_refl _) (Nat.le_refl _) ⟨_, _, rfl, rfl, h⟩
    · have h := h.2 c3
      refine r_iconst_0 dX11_strike_28 ?_
      exact r_zret0 dX11_strike_29 rfl (Nat.le_refl _) (Nat.le_refl _) ⟨_, _, rfl, rfl, h⟩
set_option maxRecDepth 20000 in
theorem en_City_ground {E : EvT} {q : Nat → Nat} {d : Nat} {x1 : Int32} {x2 : Int32} {x3 : Int32} {x4 : Int32} {S : StX} {P : Int32 → StX → Prop} (h : ((pSpot S x1 x2) = false → (P (-1) S)) ∧ ((pSpot S x1 x2) = true → (((mWeek x3) = false → (P (-1) S)) ∧ ((mWeek x3) = true → (((mWeek x4) = false → (P (-1) S)) ∧ ((mWeek x4) = true → (C_Digs_state E q (d + 3) x1 x2 x3 x4 S (fun r4 S5 => P r4 S5)))))))) : C_City_ground E q (d + 4) x1 x2 x3 x4 S P := by
  refine Cn.of rfl (Nat.le_of_ble_eq_true rfl) (ls := [(0, .ref (q 11)), (1, .int (x1)), (2, .int (x2)), (3, .int (x3)), (4, .int (x4))]) rfl ?_
  refine r_aload_n 0 dX11_ground_0 rfl rfl ?_
  refine r_iload_n 1 dX11_ground_1 rfl rfl ?_
  refine r_iload_n 2 dX11_ground_2 rfl rfl ?_
  refine KP11_City_isSpot (d := d + 1)  rfl (Nat.le_of_ble_eq_true rfl) dX11_ground_3 ?_
  refine r_if_eqb (tgt := 39) dX11_ground_6 (by decide) (fun c1 => ?_) (fun c1 => ?_)
  · have h := h.1 c1
    refine r_iconst_m1 dX11_ground_39 ?_
    exact r_iret dX11_ground_40 rfl (Nat.le_refl _) (Nat.le_refl _) ⟨_, _, rfl, rfl, h⟩
  · have h := h.2 c1
    refine r_iload_n 3 dX11_ground_9 rfl rfl ?_
    refine KP11_City_isWeek (d := d + 2)  rfl (Nat.le_of_ble_eq_true rfl) dX11_ground_10 ?_
    refine r_if_eqb (tgt := 39) dX11_ground_13 (by decide) (fun c2 => ?_) (fun c2 => ?_)
    · have h := h.1 c2
      refine r_iconst_m1 dX11_ground_39 ?_
      exact r_iret dX11_ground_40 rfl (Nat.le_refl _) (Nat.le_refl _) ⟨_, _, rfl, rfl, h⟩
    · have h := h.2 c2
      refine r_iload 4 dX11_ground_16 rfl ?_
      refine KP11_City_isWeek (d := d + 2)  rfl (Nat.le_of_ble_eq_true rfl) dX11_ground_18 ?_
      refine r_if_eqb (tgt := 39) dX11_ground_21 (by decide) (fun c3 => ?_) (fun c3 => ?_)
      · have h := h.1 c3
        refine r_iconst_m1 dX11_ground_39 ?_
        exact r_iret dX11_ground_40 rfl (Nat.le_refl _) (Nat.le_refl _) ⟨_, _, rfl, rfl, h⟩
      · have h := h.2 c3
        refine r_aload_n 0 dX11_ground_24 rfl rfl ?_
        refine xg_11_28 rfl dX11_ground_25 ?_
        refine r_iload_n 1 dX11_ground_28 rfl rfl ?_
        refine r_iload_n 2 dX11_ground_29 rfl rfl ?_
        refine r_iload_n 3 dX11_ground_30 rfl rfl ?_
        refine r_iload 4 dX11_ground_31 rfl ?_
        refine K11_Digs_state rfl (Nat.le_of_ble_eq_true rfl) dX11_ground_33 (mIx h (fun r4 S5 h => ?_))
        refine r_goto (tgt := 40) dX11_ground_36 (by decide) ?_
        exact r_iret dX11_ground_40 rfl (Nat.le_refl _) (Nat.le_refl _) ⟨_, _, rfl, rfl, h⟩
set_option maxRecDepth 20000 in
theorem en_City_first {E : EvT} {q : Nat → Nat} {d : Nat} {x1 : Int32} {x2 : Int32} {x3 : Int32} {x4 : Int32} {S : StX} {P : Int32 → StX → Prop} (h : ((pSpot S x1 x2) = false → (P (-1) S)) ∧ ((pSpot S x1 x2) = true → (((mWeek x3) = false → (P (-1) S)) ∧ ((mWeek x3) = true → (((mWeek x4) = false → (P (-1) S)) ∧ ((mWeek x4) = true → (C_Digs_opener E q (d + 3) x1 x2 x3 x4 S (fun r4 S5 => P r4 S5)))))))) : C_City_first E q (d + 4) x1 x2 x3 x4 S P := by
  refine Cn.of rfl (Nat.le_of_ble_eq_true rfl) (ls := [(0, .ref (q 11)), (1, .int (x1)), (2, .int (x2)), (3, .int (x3)), (4, .int (x4))]) rfl ?_
  refine r_aload_n 0 dX11_first_0 rfl rfl ?_
  refine r_iload_n 1 dX11_first_1 rfl rfl ?_
  refine r_iload_n 2 dX11_first_2 rfl rfl ?_
  refine KP11_City_isSpot (d := d + 1)  rfl (Nat.le_of_ble_eq_true rfl) dX11_first_3 ?_
  refine r_if_eqb (tgt := 39) dX11_first_6 (by decide) (fun c1 => ?_) (fun c1 => ?_)
  · have h := h.1 c1
    refine r_iconst_m1 dX11_first_39 ?_
    exact r_iret dX11_first_40 rfl (Nat.le_refl _) (Nat.le_refl _) ⟨_, _, rfl, rfl, h⟩
  · have h := h.2 c1
    refine r_iload_n 3 dX11_first_9 rfl rfl ?_
    refine KP11_City_isWeek (d := d + 2)  rfl (Nat.le_of_ble_eq_true rfl) dX11_first_10 ?_
    refine r_if_eqb (tgt := 39) dX11_first_13 (by decide) (fun c2 => ?_) (fun c2 => ?_)
    · have h := h.1 c2
      refine r_iconst_m1 dX11_first_39 ?_
      exact r_iret dX11_first_40 rfl (Nat.le_refl _) (Nat.le_refl _) ⟨_, _, rfl, rfl, h⟩
    · have h := h.2 c2
      refine r_iload 4 dX11_first_16 rfl ?_
      refine KP11_City_isWeek (d := d + 2)  rfl (Nat.le_of_ble_eq_true rfl) dX11_first_18 ?_
      refine r_if_eqb (tgt := 39) dX11_first_21 (by decide) (fun c3 => ?_) (fun c3 => ?_)
      · have h := h.1 c3
        refine r_iconst_m1 dX11_first_39 ?_
        exact r_iret dX11_first_40 rfl (Nat.le_refl _) (Nat.le_refl _) ⟨_, _, rfl, rfl, h⟩
      · have h := h.2 c3
        refine r_aload_n 0 dX11_first_24 rfl rfl ?_
        refine xg_11_28 rfl dX11_first_25 ?_
        refine r_iload_n 1 dX11_first_28 rfl rfl ?_
        refine r_iload_n 2 dX11_first_29 rfl rfl ?_
        refine r_iload_n 3 dX11_first_30 rfl rfl ?_
        refine r_iload 4 dX11_first_31 rfl ?_
        refine K11_Digs_opener rfl (Nat.le_of_ble_eq_true rfl) dX11_first_33 (mIx h (fun r4 S5 h => ?_))
        refine r_goto (tgt := 40) dX11_first_36 (by decide) ?_
        exact r_iret dX11_first_40 rfl (Nat.le_refl _) (Nat.le_refl _) ⟨_, _, rfl, rfl, h⟩
set_option maxRecDepth 20000 in
theorem en_City_means {E : EvT} {q : Nat → Nat} {d : Nat} {x1 : Int32} {x2 : Int32} {x3 : Int32} {x4 : Int32} {x5 : Int32} {S : StX} {P : Bool → StX → Prop} (h : ((pNum x1 x2) = false → (P false S)) ∧ ((pNum x1 x2) = true → (((pPlace S x3) = false → (P false S)) ∧ ((pPlace S x3) = true → (((pSpan x4 x5 9999) = true → (((xs_Plan_tellings S) < 200 → (C_Plan_tell E q (d + 1) x1 x2 x3 x4 x5 S (fun S6 => P true S6))) ∧ (¬ (xs_Plan_tellings S) < 200 → (P false S)))) ∧ ((pSpan x4 x5 9999) = false → (P false S))))))) : C_City_means E q (d + 2) x1 x2 x3 x4 x5 S P := by
  refine Cn.of rfl (Nat.le_of_ble_eq_true rfl) (ls := [(0, .ref (q 11)), (1, .int (x1)), (2, .int (x2)), (3, .int (x3)), (4, .int (x4)), (5, .int (x5))]) rfl ?_
  refine r_iload_n 1 dX11_means_0 rfl rfl ?_
  refine r_iload_n 2 dX11_means_1 rfl rfl ?_
  refine KP11_City_isNumber (d := d + 0)  rfl (Nat.le_of_ble_eq_true rfl) dX11_means_2 ?_
  refine r_if_eqb (tgt := 29) dX11_means_5 (by decide) (fun c1 => ?_) (fun c1 => ?_)
  · have h := h.1 c1
    refine r_iconst_0 dX11_means_29 ?_
    exact r_zret0 dX11_means_30 rfl (Nat.le_refl _) (Nat.le_refl _) ⟨_, _, rfl, rfl, h⟩
  · have h := h.2 c1
    refine r_aload_n 0 dX11_means_8 rfl rfl ?_
    refine r_iload_n 3 dX11_means_9 rfl rfl ?_
    refine KP11_City_isPlace (d := d + 0)  rfl (Nat.le_of_ble_eq_true rfl) dX11_means_10 ?_
    refine r_if_eqb (tgt := 29) dX11_means_13 (by decide) (fun c2 => ?_) (fun c2 => ?_)
    · have h := h.1 c2
      refine r_iconst_0 dX11_means_29 ?_
      exact r_zret0 dX11_means_30 rfl (Nat.le_refl _) (Nat.le_refl _) ⟨_, _, rfl, rfl, h⟩
    · have h := h.2 c2
      refine r_iload 4 dX11_means_16 rfl ?_
      refine r_iload 5 dX11_means_18 rfl ?_
      refine r_sipush_9999 dX11_means_20 ?_
      refine KP11_City_isSpan (d := d + 1)  rfl (Nat.le_of_ble_eq_true rfl) dX11_means_23 ?_
      refine r_if_neb (tgt := 31) dX11_means_26 (by decide) (fun c3 => ?_) (fun c3 => ?_)
      · have h := h.1 c3
        refine r_aload_n 0 dX11_means_31 rfl rfl ?_
        refine xg_11_19 rfl dX11_means_32 ?_
        refine xg_11_172 rfl dX11_means_35 ?_
        refine r_sipush_200 dX11_means_38 ?_
        refine r_icmp_lt (tgt := 46) dX11_means_41 (by decide) (fun c4 => ?_) (fun c4 => ?_)
        · have h := h.1 c4
          refine r_aload_n 0 dX11_means_46 rfl rfl ?_
          refine xg_11_19 rfl dX11_means_47 ?_
          refine r_iload_n 1 dX11_means_50 rfl rfl ?_
          refine r_iload_n 2 dX11_means_51 rfl rfl ?_
          refine r_iload_n 3 dX11_means_52 rfl rfl ?_
          refine r_iload 4 dX11_means_53 rfl ?_
          refine r_iload 5 dX11_means_55 rfl ?_
          refine K11_Plan_tell rfl (Nat.le_of_ble_eq_true rfl) dX11_means_57 (mVx h (fun S6 h => ?_))
          refine r_iconst_1 dX11_means_60 ?_
          exact r_zret1 dX11_means_61 rfl (Nat.le_refl _) (Nat.le_refl _) ⟨_, _, rfl, rfl, h⟩
        · have h := h.2 c4
          refine r_iconst_0 dX11_means_44 ?_
          exact r_zret0 dX11_means_45 rfl (Nat.le_refl _) (Nat.le_refl _) ⟨_, _, rfl, rfl, h⟩
      · have h := h.2 c3
        refine r_iconst_0 dX11_means_29 ?_
        exact r_zret0 dX11_means_30 rfl (Nat.le_refl _) (Nat.le_refl _) ⟨_, _, rfl, rfl, h⟩
set_option maxRecDepth 20000 in
theorem en_City_meaning {E : EvT} {q : Nat → Nat} {d : Nat} {x1 : Int32} {x2 : Int32} {x3 : Int32} {S : StX} {P : Int32 → StX → Prop} (h : ((pNum x1 x2) = false → (P (-1) S)) ∧ ((pNum x1 x2) = true → (((mWeek x3) = false → (P (-1) S)) ∧ ((mWeek x3) = true → (C_Plan_meant E q (d + 1) x1 x2 x3 S (fun r3 S4 => P r3 S4)))))) : C_City_meaning E q (d + 2) x1 x2 x3 S P := by
  refine Cn.of rfl (Nat.le_of_ble_eq_true rfl) (ls := [(0, .ref (q 11)), (1, .int (x1)), (2, .int (x2)), (3, .int (x3))]) rfl ?_
  refine r_iload_n 1 dX11_meaning_0 rfl rfl ?_
  refine r_iload_n 2 dX11_meaning_1 rfl rfl ?_
  refine KP11_City_isNumber (d := d + 0)  rfl (Nat.le_of_ble_eq_true rfl) dX11_meaning_2 ?_
  refine r_if_eqb (tgt := 28) dX11_meaning_5 (by decide) (fun c1 => ?_) (fun c1 => ?_)
  · have h := h.1 c1
    refine r_iconst_m1 dX11_meaning_28 ?_
    exact r_iret dX11_meaning_29 rfl (Nat.le_refl _) (Nat.le_refl _) ⟨_, _, rfl, rfl, h⟩
  · have h := h.2 c1
    refine r_iload_n 3 dX11_meaning_8 rfl rfl ?_
    refine KP11_City_isWeek (d := d + 0)  rfl (Nat.le_of_ble_eq_true rfl) dX11_meaning_9 ?_
    refine r_if_eqb (tgt := 28) dX11_meaning_12 (by decide) (fun c2 => ?_) (fun c2 => ?_)
    · have h := h.1 c2
      refine r_iconst_m1 dX11_meaning_28 ?_
      exact r_iret dX11_meaning_29 rfl (Nat.le_refl _) (Nat.le_refl _) ⟨_, _, rfl, rfl, h⟩
    · have h := h.2 c2
      refine r_aload_n 0 dX11_meaning_15 rfl rfl ?_
      refine xg_11_19 rfl dX11_meaning_16 ?_
      refine r_iload_n 1 dX11_meaning_19 rfl rfl ?_
      refine r_iload_n 2 dX11_meaning_20 rfl rfl ?_
      refine r_iload_n 3 dX11_meaning_21 rfl rfl ?_
      refine K11_Plan_meant rfl (Nat.le_of_ble_eq_true rfl) dX11_meaning_22 (mIx h (fun r3 S4 h => ?_))
      refine r_goto (tgt := 29) dX11_meaning_25 (by decide) ?_
      exact r_iret dX11_meaning_29 rfl (Nat.le_refl _) (Nat.le_refl _) ⟨_, _, rfl, rfl, h⟩
set_option maxRecDepth 20000 in
theorem en_City_feed {E : EvT} {q : Nat → Nat} {d : Nat} {x1 : Int32} {x2 : Int32} {x3 : Int32} {x4 : Int32} {x5 : Int32} {S : StX} {P : Int32 → StX → Prop} (h : ((xs_Tape_length S) ≤ 380 → (C_Tape_append E q d x1 S (fun S3 => C_Tape_append E q d x2 S3 (fun S5 => C_Tape_append E q d x3 S5 (fun S7 => C_Tape_append E q d x4 S7 (fun S9 => C_Tape_append E q d x5 S9 (fun S11 => P (xs_Tape_length S11) S11))))))) ∧ (¬ (xs_Tape_length S) ≤ 380 → (P (-1) S))) : C_City_feed E q (d + 1) x1 x2 x3 x4 x5 S P := by
  refine Cn.of rfl (Nat.le_of_ble_eq_true rfl) (ls := [(0, .ref (q 11)), (1, .int (x1)), (2, .int (x2)), (3, .int (x3)), (4, .int (x4)), (5, .int (x5))]) rfl ?_
  refine r_aload_n 0 dX11_feed_0 rfl rfl ?_
  refine xg_11_10 rfl dX11_feed_1 ?_
  refine xg_11_182 rfl dX11_feed_4 ?_
  refine r_sipush_380 dX11_feed_7 ?_
  refine r_icmp_le (tgt := 15) dX11_feed_10 (by decide) (fun c1 => ?_) (fun c1 => ?_)
  · have h := h.1 c1
    refine r_aload_n 0 dX11_feed_15 rfl rfl ?_
    refine xg_11_10 rfl dX11_feed_16 ?_
    refine r_iload_n 1 dX11_feed_19 rfl rfl ?_
    refine K11_Tape_append rfl (Nat.le_of_ble_eq_true rfl) dX11_feed_20 (mVx h (fun S3 h => ?_))
    refine r_aload_n 0 dX11_feed_23 rfl rfl ?_
    refine xg_11_10 rfl dX11_feed_24 ?_
    refine r_iload_n 2 dX11_feed_27 rfl rfl ?_
    refine K11_Tape_append rfl (Nat.le_of_ble_eq_true rfl) dX11_feed_28 (mVx h (fun S5 h => ?_))
    refine r_aload_n 0 dX11_feed_31 rfl rfl ?_
    refine xg_11_10 rfl dX11_feed_32 ?_
    refine r_iload_n 3 dX11_feed_35 rfl rfl ?_
    refine K11_Tape_append rfl (Nat.le_of_ble_eq_true rfl) dX11_feed_36 (mVx h (fun S7 h => ?_))
    refine r_aload_n 0 dX11_feed_39 rfl rfl ?_
    refine xg_11_10 rfl dX11_feed_40 ?_
    refine r_iload 4 dX11_feed_43 rfl ?_
    refine K11_Tape_append rfl (Nat.le_of_ble_eq_true rfl) dX11_feed_45 (mVx h (fun S9 h => ?_))
    refine r_aload_n 0 dX11_feed_48 rfl rfl ?_
    refine xg_11_10 rfl dX11_feed_49 ?_
    refine r_iload 5 dX11_feed_52 rfl ?_
    refine K11_Tape_append rfl (Nat.le_of_ble_eq_true rfl) dX11_feed_54 (mVx h (fun S11 h => ?_))
    refine r_aload_n 0 dX11_feed_57 rfl rfl ?_
    refine xg_11_10 rfl dX11_feed_58 ?_
    refine xg_11_182 rfl dX11_feed_61 ?_
    exact r_iret dX11_feed_64 rfl (Nat.le_refl _) (Nat.le_refl _) ⟨_, _, rfl, rfl, h⟩
  · have h := h.2 c1
    refine r_iconst_m1 dX11_feed_13 ?_
    exact r_iret dX11_feed_14 rfl (Nat.le_refl _) (Nat.le_refl _) ⟨_, _, rfl, rfl, h⟩
set_option maxRecDepth 20000 in
theorem en_City_number {E : EvT} {q : Nat → Nat} {d : Nat} {x1 : Int32} {x2 : Int32} {x3 : Int32} {x4 : Int32} {x5 : Int32} {x6 : Int32} {S : StX} {P : Int32 → StX → Prop} (h : ((mIn x1 0 3) = false → (P (-1) S)) ∧ ((mIn x1 0 3) = true → (((mWeek x2) = false → (P (-1) S)) ∧ ((mWeek x2) = true → (((mIn x3 0 7) = true → (((mIn x4 0 7) = false → (P (-1) S)) ∧ ((mIn x4 0 7) = true → (((mIn x5 0 255) = false → (P (-1) S)) ∧ ((mIn x5 0 255) = true → ((x6 = (-1) → ((¬ x6 = (-1) → ((0 ≤ x6 ∧ x6 < 30) ∧ (C_Book_ask E q (d + 5) x2 x3 x4 x5 (xa_Plan_kind S (ix x6)) S (fun S10 => (x1 = 0 → (C_Book_marksWanted E q (d + 5) S10 (fun r12 S13 => P r12 S13))) ∧ (¬ x1 = 0 → ((x1 = 1 → (C_Book_signWorth E q (d + 5) S10 (fun r15 S16 => P r15 S16))) ∧ (¬ x1 = 1 → ((x1 = 2 → (C_Book_deepest E q (d + 5) S10 (fun r18 S19 => P r18 S19))) ∧ (¬ x1 = 2 → (C_Book_lines E q (d + 5) S10 (fun r20 S21 => P r20 S21))))))))))) ∧ (x6 = (-1) → (C_Book_ask E q (d + 5) x2 x3 x4 x5 (-1) S (fun S23 => (x1 = 0 → (C_Book_marksWanted E q (d + 5) S23 (fun r25 S26 => P r25 S26))) ∧ (¬ x1 = 0 → ((x1 = 1 → (C_Book_signWorth E q (d + 5) S23 (fun r28 S29 => P r28 S29))) ∧ (¬ x1 = 1 → ((x1 = 2 → (C_Book_deepest E q (d + 5) S23 (fun r31 S32 => P r31 S32))) ∧ (¬ x1 = 2 → (C_Book_lines E q (d + 5) S23 (fun r33 S34 => P r33 S34)))))))))))) ∧ (¬ x6 = (-1) → (((pPlace S x6) = true → ((¬ x6 = (-1) → ((0 ≤ x6 ∧ x6 < 30) ∧ (C_Book_ask E q (d + 5) x2 x3 x4 x5 (xa_Plan_kind S (ix x6)) S (fun S39 => (x1 = 0 → (C_Book_marksWanted E q (d + 5) S39 (fun r41 S42 => P r41 S42))) ∧ (¬ x1 = 0 → ((x1 = 1 → (C_Book_signWorth E q (d + 5) S39 (fun r44 S45 => P r44 S45))) ∧ (¬ x1 = 1 → ((x1 = 2 → (C_Book_deepest E q (d + 5) S39 (fun r47 S48 => P r47 S48))) ∧ (¬ x1 = 2 → (C_Book_lines E q (d + 5) S39 (fun r49 S50 => P r49 S50))))))))))) ∧ (x6 = (-1) → (C_Book_ask E q (d + 5) x2 x3 x4 x5 (-1) S (fun S52 => (x1 = 0 → (C_Book_marksWanted E q (d + 5) S52 (fun r54 S55 => P r54 S55))) ∧ (¬ x1 = 0 → ((x1 = 1 → (C_Book_signWorth E q (d + 5) S52 (fun r57 S58 => P r57 S58))) ∧ (¬ x1 = 1 → ((x1 = 2 → (C_Book_deepest E q (d + 5) S52 (fun r60 S61 => P r60 S61))) ∧ (¬ x1 = 2 → (C_Book_lines E q (d + 5) S52 (fun r62 S63 => P r62 S63)))))))))))) ∧ ((pPlace S x6) = false → (P (-1) S)))))))))) ∧ ((mIn x3 0 7) = false → (P (-1) S))))))) : C_City_number E q (d + 6) x1 x2 x3 x4 x5 x6 S P := by
  refine Cn.of rfl (Nat.le_of_ble_eq_true rfl) (ls := [(0, .ref (q 11)), (1, .int (x1)), (2, .int (x2)), (3, .int (x3)), (4, .int (x4)), (5, .int (x5)), (6, .int (x6))]) rfl ?_
  refine r_iload_n 1 dX11_number_0 rfl rfl ?_
  refine r_iconst_0 dX11_number_1 ?_
  refine r_iconst_3 dX11_number_2 ?_
  refine KP11_City_within (d := d + 5)  rfl (Nat.le_of_ble_eq_true rfl) dX11_number_3 ?_
  refine r_if_eqb (tgt := 26) dX11_number_6 (by decide) (fun c1 => ?_) (fun c1 => ?_)
  · have h := h.1 c1
    refine r_iconst_m1 dX11_number_26 ?_
    exact r_iret dX11_number_27 rfl (Nat.le_refl _) (Nat.le_refl _) ⟨_, _, rfl, rfl, h⟩
  · have h := h.2 c1
    refine r_iload_n 2 dX11_number_9 rfl rfl ?_
    refine KP11_City_isWeek (d := d + 4)  rfl (Nat.le_of_ble_eq_true rfl) dX11_number_10 ?_
    refine r_if_eqb (tgt := 26) dX11_number_13 (by decide) (fun c2 => ?_) (fun c2 => ?_)
    · have h := h.1 c2
      refine r_iconst_m1 dX11_number_26 ?_
      exact r_iret dX11_number_27 rfl (Nat.le_refl _) (Nat.le_refl _) ⟨_, _, rfl, rfl, h⟩
    · have h := h.2 c2
      refine r_iload_n 3 dX11_number_16 rfl rfl ?_
      refine r_iconst_0 dX11_number_17 ?_
      refine r_bipush_7 dX11_number_18 ?_
      refine KP11_City_within (d := d + 5)  rfl (Nat.le_of_ble_eq_true rfl) dX11_number_20 ?_
      refine r_if_neb (tgt := 28) dX11_number_23 (by decide) (fun c3 => ?_) (fun c3 => ?_)
      · have h := h.1 c3
        refine r_iload 4 dX11_number_28 rfl ?_
        refine r_iconst_0 dX11_number_30 ?_
        refine r_bipush_7 dX11_number_31 ?_
        refine KP11_City_within (d := d + 5)  rfl (Nat.le_of_ble_eq_true rfl) dX11_number_33 ?_
        refine r_if_eqb (tgt := 66) dX11_number_36 (by decide) (fun c4 => ?_) (fun c4 => ?_)
        · have h := h.1 c4
          refine r_iconst_m1 dX11_number_66 ?_
          exact r_iret dX11_number_67 rfl (Nat.le_refl _) (Nat.le_refl _) ⟨_, _, rfl, rfl, h⟩
        · have h := h.2 c4
          refine r_iload 5 dX11_number_39 rfl ?_
          refine r_iconst_0 dX11_number_41 ?_
          refine r_sipush_255 dX11_number_42 ?_
          refine KP11_City_within (d := d + 5)  rfl (Nat.le_of_ble_eq_true rfl) dX11_number_45 ?_
          refine r_if_eqb (tgt := 66) dX11_number_48 (by decide) (fun c5 => ?_) (fun c5 => ?_)
          · have h := h.1 c5
            refine r_iconst_m1 dX11_number_66 ?_
            exact r_iret dX11_number_67 rfl (Nat.le_refl _) (Nat.le_refl _) ⟨_, _, rfl, rfl, h⟩
          · have h := h.2 c5
            refine r_iload 6 dX11_number_51 rfl ?_
            refine r_iconst_m1 dX11_number_53 ?_
            refine r_icmp_eq (tgt := 68) dX11_number_54 (by decide) (fun c6 => ?_) (fun c6 => ?_)
            · have h := h.1 c6
              refine r_aload_n 0 dX11_number_68 rfl rfl ?_
              refine xg_11_42 rfl dX11_number_69 ?_
              refine r_iload_n 2 dX11_number_72 rfl rfl ?_
              refine r_iload_n 3 dX11_number_73 rfl rfl ?_
              refine r_iload 4 dX11_number_74 rfl ?_
              refine r_iload 5 dX11_number_76 rfl ?_
              refine r_iload 6 dX11_number_78 rfl ?_
              refine r_iconst_m1 dX11_number_80 ?_
              refine r_icmp_ne (tgt := 88) dX11_number_81 (by decide) (fun c7 => ?_) (fun c7 => ?_)
              · have h := h.1 c7
                refine r_aload_n 0 dX11_number_88 rfl rfl ?_
                refine xg_11_19 rfl dX11_number_89 ?_
                refine xg_11_210 rfl dX11_number_92 ?_
                refine r_iload 6 dX11_number_95 rfl ?_
                obtain ⟨b8, h⟩ := h
                refine xl_83 b8 dX11_number_97 ?_
                refine K11_Book_ask rfl (Nat.le_of_ble_eq_true rfl) dX11_number_98 (mVx h (fun S10 h => ?_))
                refine r_iload_n 1 dX11_number_101 rfl rfl ?_
                by_cases c11 : x1 = 0
                · have h := h.1 c11
                  refine r_tableIn (tgt := 128) dX11_number_102 (by rw [c11]; decide) (by rw [c11]; decide) (by rw [c11]; rfl) (by decide) ?_
                  refine r_aload_n 0 dX11_number_128 rfl rfl ?_
                  refine xg_11_42 rfl dX11_number_129 ?_
                  refine K11_Book_marksWanted rfl (Nat.le_of_ble_eq_true rfl) dX11_number_132 (mIx h (fun r12 S13 h => ?_))
                  exact r_iret dX11_number_135 rfl (Nat.le_refl _) (Nat.le_refl _) ⟨_, _, rfl, rfl, h⟩
                · have h := h.2 c11
                  by_cases c14 : x1 = 1
                  · have h := h.1 c14
                    refine r_tableIn (tgt := 136) dX11_number_102 (by rw [c14]; decide) (by rw [c14]; decide) (by rw [c14]; rfl) (by decide) ?_
                    refine r_aload_n 0 dX11_number_136 rfl rfl ?_
                    refine xg_11_42 rfl dX11_number_137 ?_
                    refine K11_Book_signWorth rfl (Nat.le_of_ble_eq_true rfl) dX11_number_140 (mIx h (fun r15 S16 h => ?_))
                    exact r_iret dX11_number_143 rfl (Nat.le_refl _) (Nat.le_refl _) ⟨_, _, rfl, rfl, h⟩
                  · have h := h.2 c14
                    by_cases c17 : x1 = 2
                    · have h := h.1 c17
                      refine r_tableIn (tgt := 144) dX11_number_102 (by rw [c17]; decide) (by rw [c17]; decide) (by rw [c17]; rfl) (by decide) ?_
                      refine r_aload_n 0 dX11_number_144 rfl rfl ?_
                      refine xg_11_42 rfl dX11_number_145 ?_
                      refine K11_Book_deepest rfl (Nat.le_of_ble_eq_true rfl) dX11_number_148 (mIx h (fun r18 S19 h => ?_))
                      exact r_iret dX11_number_151 rfl (Nat.le_refl _) (Nat.le_refl _) ⟨_, _, rfl, rfl, h⟩
                    · have h := h.2 c17
                      refine r_tableOut (tgt := 152) dX11_number_102 (by have e0 : (x1).toInt ≠ 0 := sw_ne c11; have e1 : (x1).toInt ≠ 1 := sw_ne c14; have e2 : (x1).toInt ≠ 2 := sw_ne c17; omega) (by decide) ?_
                      refine r_aload_n 0 dX11_number_152 rfl rfl ?_
                      refine xg_11_42 rfl dX11_number_153 ?_
                      refine K11_Book_lines rfl (Nat.le_of_ble_eq_true rfl) dX11_number_156 (mIx h (fun r20 S21 h => ?_))
                      exact r_iret dX11_number_159 rfl (Nat.le_refl _) (Nat.le_refl _) ⟨_, _, rfl, rfl, h⟩
              · have h := h.2 c7
                refine r_iconst_m1 dX11_number_84 ?_
                refine r_goto (tgt := 98) dX11_number_85 (by decide) ?_
                refine K11_Book_ask rfl (Nat.le_of_ble_eq_true rfl) dX11_number_98 (mVx h (fun S23 h => ?_))
                refine r_iload_n 1 dX11_number_101 rfl rfl ?_
                by_cases c24 : x1 = 0
                · have h := h.1 c24
                  refine r_tableIn (tgt := 128) dX11_number_102 (by rw [c24]; decide) (by rw [c24]; decide) (by rw [c24]; rfl) (by decide) ?_
                  refine r_aload_n 0 dX11_number_128 rfl rfl ?_
                  refine xg_11_42 rfl dX11_number_129 ?_
                  refine K11_Book_marksWanted rfl (Nat.le_of_ble_eq_true rfl) dX11_number_132 (mIx h (fun r25 S26 h => ?_))
                  exact r_iret dX11_number_135 rfl (Nat.le_refl _) (Nat.le_refl _) ⟨_, _, rfl, rfl, h⟩
                · have h := h.2 c24
                  by_cases c27 : x1 = 1
                  · have h := h.1 c27
                    refine r_tableIn (tgt := 136) dX11_number_102 (by rw [c27]; decide) (by rw [c27]; decide) (by rw [c27]; rfl) (by decide) ?_
                    refine r_aload_n 0 dX11_number_136 rfl rfl ?_
                    refine xg_11_42 rfl dX11_number_137 ?_
                    refine K11_Book_signWorth rfl (Nat.le_of_ble_eq_true rfl) dX11_number_140 (mIx h (fun r28 S29 h => ?_))
                    exact r_iret dX11_number_143 rfl (Nat.le_refl _) (Nat.le_refl _) ⟨_, _, rfl, rfl, h⟩
                  · have h := h.2 c27
                    by_cases c30 : x1 = 2
                    · have h := h.1 c30
                      refine r_tableIn (tgt := 144) dX11_number_102 (by rw [c30]; decide) (by rw [c30]; decide) (by rw [c30]; rfl) (by decide) ?_
                      refine r_aload_n 0 dX11_number_144 rfl rfl ?_
                      refine xg_11_42 rfl dX11_number_145 ?_
                      refine K11_Book_deepest rfl (Nat.le_of_ble_eq_true rfl) dX11_number_148 (mIx h (fun r31 S32 h => ?_))
                      exact r_iret dX11_number_151 rfl (Nat.le_refl _) (Nat.le_refl _) ⟨_, _, rfl, rfl, h⟩
                    · have h := h.2 c30
                      refine r_tableOut (tgt := 152) dX11_number_102 (by have e0 : (x1).toInt ≠ 0 := sw_ne c24; have e1 : (x1).toInt ≠ 1 := sw_ne c27; have e2 : (x1).toInt ≠ 2 := sw_ne c30; omega) (by decide) ?_
                      refine r_aload_n 0 dX11_number_152 rfl rfl ?_
                      refine xg_11_42 rfl dX11_number_153 ?_
                      refine K11_Book_lines rfl (Nat.le_of_ble_eq_true rfl) dX11_number_156 (mIx h (fun r33 S34 h => ?_))
                      exact r_iret dX11_number_159 rfl (Nat.le_refl _) (Nat.le_refl _) ⟨_, _, rfl, rfl, h⟩
            · have h := h.2 c6
              refine r_aload_n 0 dX11_number_57 rfl rfl ?_
              refine r_iload 6 dX11_number_58 rfl ?_
              refine KP11_City_isPlace (d := d + 4)  rfl (Nat.le_of_ble_eq_true rfl) dX11_number_60 ?_
              refine r_if_neb (tgt := 68) dX11_number_63 (by decide) (fun c35 => ?_) (fun c35 => ?_)
              · have h := h.1 c35
                refine r_aload_n 0 dX11_number_68 rfl rfl ?_
                refine xg_11_42 rfl dX11_number_69 ?_
                refine r_iload_n 2 dX11_number_72 rfl rfl ?_
                refine r_iload_n 3 dX11_number_73 rfl rfl ?_
                refine r_iload 4 dX11_number_74 rfl ?_
                refine r_iload 5 dX11_number_76 rfl ?_
                refine r_iload 6 dX11_number_78 rfl ?_
                refine r_iconst_m1 dX11_number_80 ?_
                refine r_icmp_ne (tgt := 88) dX11_number_81 (by decide) (fun c36 => ?_) (fun c36 => ?_)
                · have h := h.1 c36
                  refine r_aload_n 0 dX11_number_88 rfl rfl ?_
                  refine xg_11_19 rfl dX11_number_89 ?_
                  refine xg_11_210 rfl dX11_number_92 ?_
                  refine r_iload 6 dX11_number_95 rfl ?_
                  obtain ⟨b37, h⟩ := h
                  refine xl_83 b37 dX11_number_97 ?_
                  refine K11_Book_ask rfl (Nat.le_of_ble_eq_true rfl) dX11_number_98 (mVx h (fun S39 h => ?_))
                  refine r_iload_n 1 dX11_number_101 rfl rfl ?_
                  by_cases c40 : x1 = 0
                  · have h := h.1 c40
                    refine r_tableIn (tgt := 128) dX11_number_102 (by rw [c40]; decide) (by rw [c40]; decide) (by rw [c40]; rfl) (by decide) ?_
                    refine r_aload_n 0 dX11_number_128 rfl rfl ?_
                    refine xg_11_42 rfl dX11_number_129 ?_
                    refine K11_Book_marksWanted rfl (Nat.le_of_ble_eq_true rfl) dX11_number_132 (mIx h (fun r41 S42 h => ?_))
                    exact r_iret dX11_number_135 rfl (Nat.le_refl _) (Nat.le_refl _) ⟨_, _, rfl, rfl, h⟩
                  · have h := h.2 c40
                    by_cases c43 : x1 = 1
                    · have h := h.1 c43
                      refine r_tableIn (tgt := 136) dX11_number_102 (by rw [c43]; decide) (by rw [c43]; decide) (by rw [c43]; rfl) (by decide) ?_
                      refine r_aload_n 0 dX11_number_136 rfl rfl ?_
                      refine xg_11_42 rfl dX11_number_137 ?_
                      refine K11_Book_signWorth rfl (Nat.le_of_ble_eq_true rfl) dX11_number_140 (mIx h (fun r44 S45 h => ?_))
                      exact r_iret dX11_number_143 rfl (Nat.le_refl _) (Nat.le_refl _) ⟨_, _, rfl, rfl, h⟩
                    · have h := h.2 c43
                      by_cases c46 : x1 = 2
                      · have h := h.1 c46
                        refine r_tableIn (tgt := 144) dX11_number_102 (by rw [c46]; decide) (by rw [c46]; decide) (by rw [c46]; rfl) (by decide) ?_
                        refine r_aload_n 0 dX11_number_144 rfl rfl ?_
                        refine xg_11_42 rfl dX11_number_145 ?_
                        refine K11_Book_deepest rfl (Nat.le_of_ble_eq_true rfl) dX11_number_148 (mIx h (fun r47 S48 h => ?_))
                        exact r_iret dX11_number_151 rfl (Nat.le_refl _) (Nat.le_refl _) ⟨_, _, rfl, rfl, h⟩
                      · have h := h.2 c46
                        refine r_tableOut (tgt := 152) dX11_number_102 (by have e0 : (x1).toInt ≠ 0 := sw_ne c40; have e1 : (x1).toInt ≠ 1 := sw_ne c43; have e2 : (x1).toInt ≠ 2 := sw_ne c46; omega) (by decide) ?_
                        refine r_aload_n 0 dX11_number_152 rfl rfl ?_
                        refine xg_11_42 rfl dX11_number_153 ?_
                        refine K11_Book_lines rfl (Nat.le_of_ble_eq_true rfl) dX11_number_156 (mIx h (fun r49 S50 h => ?_))
                        exact r_iret dX11_number_159 rfl (Nat.le_refl _) (Nat.le_refl _) ⟨_, _, rfl, rfl, h⟩
                · have h := h.2 c36
                  refine r_iconst_m1 dX11_number_84 ?_
                  refine r_goto (tgt := 98) dX11_number_85 (by decide) ?_
                  refine K11_Book_ask rfl (Nat.le_of_ble_eq_true rfl) dX11_number_98 (mVx h (fun S52 h => ?_))
                  refine r_iload_n 1 dX11_number_101 rfl rfl ?_
                  by_cases c53 : x1 = 0
                  · have h := h.1 c53
                    refine r_tableIn (tgt := 128) dX11_number_102 (by rw [c53]; decide) (by rw [c53]; decide) (by rw [c53]; rfl) (by decide) ?_
                    refine r_aload_n 0 dX11_number_128 rfl rfl ?_
                    refine xg_11_42 rfl dX11_number_129 ?_
                    refine K11_Book_marksWanted rfl (Nat.le_of_ble_eq_true rfl) dX11_number_132 (mIx h (fun r54 S55 h => ?_))
                    exact r_iret dX11_number_135 rfl (Nat.le_refl _) (Nat.le_refl _) ⟨_, _, rfl, rfl, h⟩
                  · have h := h.2 c53
                    by_cases c56 : x1 = 1
                    · have h := h.1 c56
                      refine r_tableIn (tgt := 136) dX11_number_102 (by rw [c56]; decide) (by rw [c56]; decide) (by rw [c56]; rfl) (by decide) ?_
                      refine r_aload_n 0 dX11_number_136 rfl rfl ?_
                      refine xg_11_42 rfl dX11_number_137 ?_
                      refine K11_Book_signWorth rfl (Nat.le_of_ble_eq_true rfl) dX11_number_140 (mIx h (fun r57 S58 h => ?_))
                      exact r_iret dX11_number_143 rfl (Nat.le_refl _) (Nat.le_refl _) ⟨_, _, rfl, rfl, h⟩
                    · have h := h.2 c56
                      by_cases c59 : x1 = 2
                      · have h := h.1 c59
                        refine r_tableIn (tgt := 144) dX11_number_102 (by rw [c59]; decide) (by rw [c59]; decide) (by rw [c59]; rfl) (by decide) ?_
                        refine r_aload_n 0 dX11_number_144 rfl rfl ?_
                        refine xg_11_42 rfl dX11_number_145 ?_
                        refine K11_Book_deepest rfl (Nat.le_of_ble_eq_true rfl) dX11_number_148 (mIx h (fun r60 S61 h => ?_))
                        exact r_iret dX11_number_151 rfl (Nat.le_refl _) (Nat.le_refl _) ⟨_, _, rfl, rfl, h⟩
                      · have h := h.2 c59
                        refine r_tableOut (tgt := 152) dX11_number_102 (by have e0 : (x1).toInt ≠ 0 := sw_ne c53; have e1 : (x1).toInt ≠ 1 := sw_ne c56; have e2 : (x1).toInt ≠ 2 := sw_ne c59; omega) (by decide) ?_
                        refine r_aload_n 0 dX11_number_152 rfl rfl ?_
                        refine xg_11_42 rfl dX11_number_153 ?_
                        refine K11_Book_lines rfl (Nat.le_of_ble_eq_true rfl) dX11_number_156 (mIx h (fun r62 S63 h => ?_))
                        exact r_iret dX11_number_159 rfl (Nat.le_refl _) (Nat.le_refl _) ⟨_, _, rfl, rfl, h⟩
              · have h := h.2 c35
                refine r_iconst_m1 dX11_number_66 ?_
                exact r_iret dX11_number_67 rfl (Nat.le_refl _) (Nat.le_refl _) ⟨_, _, rfl, rfl, h⟩
      · have h := h.2 c3
        refine r_iconst_m1 dX11_number_26 ?_
        exact r_iret dX11_number_27 rfl (Nat.le_refl _) (Nat.le_refl _) ⟨_, _, rfl, rfl, h⟩
set_option maxRecDepth 20000 in
theorem en_City_find {E : EvT} {q : Nat → Nat} {d : Nat} {x1 : Int32} {x2 : Int32} {x3 : Int32} {x4 : Int32} {x5 : Int32} {x6 : Int32} {x7 : Int32} {x8 : Int32} {S : StX} {P : Int32 → StX → Prop} (h : ((mIn x1 0 7) = false → (P (-1) S)) ∧ ((mIn x1 0 7) = true → (((pSpan x2 x3 (xs_City_today S)) = false → (P (-1) S)) ∧ ((pSpan x2 x3 (xs_City_today S)) = true → (((x3 - x2) < 20 → (((mIn x4 0 99) = false → (P (-1) S)) ∧ ((mIn x4 0 99) = true → (((pSpan x5 x6 7) = true → (((mIn x7 0 7) = false → (P (-1) S)) ∧ ((mIn x7 0 7) = true → (((mIn x8 0 255) = false → (P (-1) S)) ∧ ((mIn x8 0 255) = true → (((xs_Finds_size S) < 150 → (C_Finds_begin E q d x1 x4 x7 x8 S (fun S10 => C_Finds_reach E q d x5 x6 S10 (fun S12 => C_Finds_finish E q d x2 x3 (xs_City_today S12) S12 (fun r13 S14 => P r13 S14))))) ∧ (¬ (xs_Finds_size S) < 150 → (P (-1) S)))))))) ∧ ((pSpan x5 x6 7) = false → (P (-1) S)))))) ∧ (¬ (x3 - x2) < 20 → (P (-1) S))))))) : C_City_find E q (d + 1) x1 x2 x3 x4 x5 x6 x7 x8 S P := by
  refine Cn.of rfl (Nat.le_of_ble_eq_true rfl) (ls := [(0, .ref (q 11)), (1, .int (x1)), (2, .int (x2)), (3, .int (x3)), (4, .int (x4)), (5, .int (x5)), (6, .int (x6)), (7, .int (x7)), (8, .int (x8))]) rfl ?_
  refine r_iload_n 1 dX11_find_0 rfl rfl ?_
  refine r_iconst_0 dX11_find_1 ?_
  refine r_bipush_7 dX11_find_2 ?_
  refine KP11_City_within (d := d + 0)  rfl (Nat.le_of_ble_eq_true rfl) dX11_find_4 ?_
  refine r_if_eqb (tgt := 30) dX11_find_7 (by decide) (fun c1 => ?_) (fun c1 => ?_)
  · have h := h.1 c1
    refine r_iconst_m1 dX11_find_30 ?_
    exact r_iret dX11_find_31 rfl (Nat.le_refl _) (Nat.le_refl _) ⟨_, _, rfl, rfl, h⟩
  · have h := h.2 c1
    refine r_iload_n 2 dX11_find_10 rfl rfl ?_
    refine r_iload_n 3 dX11_find_11 rfl rfl ?_
    refine r_aload_n 0 dX11_find_12 rfl rfl ?_
    refine xg_11_87 rfl dX11_find_13 ?_
    refine KP11_City_isSpan (d := d + 0)  rfl (Nat.le_of_ble_eq_true rfl) dX11_find_16 ?_
    refine r_if_eqb (tgt := 30) dX11_find_19 (by decide) (fun c2 => ?_) (fun c2 => ?_)
    · have h := h.1 c2
      refine r_iconst_m1 dX11_find_30 ?_
      exact r_iret dX11_find_31 rfl (Nat.le_refl _) (Nat.le_refl _) ⟨_, _, rfl, rfl, h⟩
    · have h := h.2 c2
      refine r_iload_n 3 dX11_find_22 rfl rfl ?_
      refine r_iload_n 2 dX11_find_23 rfl rfl ?_
      refine r_isub dX11_find_24 ?_
      refine r_bipush_20 dX11_find_25 ?_
      refine r_icmp_lt (tgt := 32) dX11_find_27 (by decide) (fun c3 => ?_) (fun c3 => ?_)
      · have h := h.1 c3
        refine r_iload 4 dX11_find_32 rfl ?_
        refine r_iconst_0 dX11_find_34 ?_
        refine r_bipush_99 dX11_find_35 ?_
        refine KP11_City_within (d := d + 0)  rfl (Nat.le_of_ble_eq_true rfl) dX11_find_37 ?_
        refine r_if_eqb (tgt := 55) dX11_find_40 (by decide) (fun c4 => ?_) (fun c4 => ?_)
        · have h := h.1 c4
          refine r_iconst_m1 dX11_find_55 ?_
          exact r_iret dX11_find_56 rfl (Nat.le_refl _) (Nat.le_refl _) ⟨_, _, rfl, rfl, h⟩
        · have h := h.2 c4
          refine r_iload 5 dX11_find_43 rfl ?_
          refine r_iload 6 dX11_find_45 rfl ?_
          refine r_bipush_7 dX11_find_47 ?_
          refine KP11_City_isSpan (d := d + 0)  rfl (Nat.le_of_ble_eq_true rfl) dX11_find_49 ?_
          refine r_if_neb (tgt := 57) dX11_find_52 (by decide) (fun c5 => ?_) (fun c5 => ?_)
          · have h := h.1 c5
            refine r_iload 7 dX11_find_57 rfl ?_
            refine r_iconst_0 dX11_find_59 ?_
            refine r_bipush_7 dX11_find_60 ?_
            refine KP11_City_within (d := d + 0)  rfl (Nat.le_of_ble_eq_true rfl) dX11_find_62 ?_
            refine r_if_eqb (tgt := 93) dX11_find_65 (by decide) (fun c6 => ?_) (fun c6 => ?_)
            · have h := h.1 c6
              refine r_iconst_m1 dX11_find_93 ?_
              exact r_iret dX11_find_94 rfl (Nat.le_refl _) (Nat.le_refl _) ⟨_, _, rfl, rfl, h⟩
            · have h := h.2 c6
              refine r_iload 8 dX11_find_68 rfl ?_
              refine r_iconst_0 dX11_find_70 ?_
              refine r_sipush_255 dX11_find_71 ?_
              refine KP11_City_within (d := d + 0)  rfl (Nat.le_of_ble_eq_true rfl) dX11_find_74 ?_
              refine r_if_eqb (tgt := 93) dX11_find_77 (by decide) (fun c7 => ?_) (fun c7 => ?_)
              · have h := h.1 c7
                refine r_iconst_m1 dX11_find_93 ?_
                exact r_iret dX11_find_94 rfl (Nat.le_refl _) (Nat.le_refl _) ⟨_, _, rfl, rfl, h⟩
              · have h := h.2 c7
                refine r_aload_n 0 dX11_find_80 rfl rfl ?_
                refine xg_11_51 rfl dX11_find_81 ?_
                refine xg_11_229 rfl dX11_find_84 ?_
                refine r_sipush_150 dX11_find_87 ?_
                refine r_icmp_lt (tgt := 95) dX11_find_90 (by decide) (fun c8 => ?_) (fun c8 => ?_)
                · have h := h.1 c8
                  refine r_aload_n 0 dX11_find_95 rfl rfl ?_
                  refine xg_11_51 rfl dX11_find_96 ?_
                  refine r_iload_n 1 dX11_find_99 rfl rfl ?_
                  refine r_iload 4 dX11_find_100 rfl ?_
                  refine r_iload 7 dX11_find_102 rfl ?_
                  refine r_iload 8 dX11_find_104 rfl ?_
                  refine K11_Finds_begin rfl (Nat.le_of_ble_eq_true rfl) dX11_find_106 (mVx h (fun S10 h => ?_))
                  refine r_aload_n 0 dX11_find_109 rfl rfl ?_
                  refine xg_11_51 rfl dX11_find_110 ?_
                  refine r_iload 5 dX11_find_113 rfl ?_
                  refine r_iload 6 dX11_find_115 rfl ?_
                  refine K11_Finds_reach rfl (Nat.le_of_ble_eq_true rfl) dX11_find_117 (mVx h (fun S12 h => ?_))
                  refine r_aload_n 0 dX11_find_120 rfl rfl ?_
                  refine xg_11_51 rfl dX11_find_121 ?_
                  refine r_iload_n 2 dX11_find_124 rfl rfl ?_
                  refine r_iload_n 3 dX11_find_125 rfl rfl ?_
                  refine r_aload_n 0 dX11_find_126 rfl rfl ?_
                  refine xg_11_87 rfl dX11_find_127 ?_
                  refine K11_Finds_finish rfl (Nat.le_of_ble_eq_true rfl) dX11_find_130 (mIx h (fun r13 S14 h => ?_))
                  exact r_iret dX11_find_133 rfl (Nat.le_refl _) (Nat.le_refl _) ⟨_, _, rfl, rfl, h⟩
                · have h := h.2 c8
                  refine r_iconst_m1 dX11_find_93 ?_
                  exact r_iret dX11_find_94 rfl (Nat.le_refl _) (Nat.le_refl _) ⟨_, _, rfl, rfl, h⟩
          · have h := h.2 c5
            refine r_iconst_m1 dX11_find_55 ?_
            exact r_iret dX11_find_56 rfl (Nat.le_refl _) (Nat.le_refl _) ⟨_, _, rfl, rfl, h⟩
      · have h := h.2 c3
        refine r_iconst_m1 dX11_find_30 ?_
        exact r_iret dX11_find_31 rfl (Nat.le_refl _) (Nat.le_refl _) ⟨_, _, rfl, rfl, h⟩
set_option maxRecDepth 20000 in
theorem en_City_may {E : EvT} {q : Nat → Nat} {d : Nat} {x1 : Int32} {x2 : Int32} {S : StX} {P : Int32 → StX → Prop} (h : ((pFind S x1) = false → (P (-1) S)) ∧ ((pFind S x1) = true → (((mWeek x2) = false → (P (-1) S)) ∧ ((mWeek x2) = true → ((0 ≤ x1 ∧ x1 < 150) ∧ (((pFKnown S x1 x2) = true → (C_Finds_placesOf E q (d + 6) x1 x2 (-1) S (fun r5 S6 => P r5 S6))) ∧ ((pFKnown S x1 x2) = false → (P (-1) S)))))))) : C_City_may E q (d + 7) x1 x2 S P := by
  refine Cn.of rfl (Nat.le_of_ble_eq_true rfl) (ls := [(0, .ref (q 11)), (1, .int (x1)), (2, .int (x2))]) rfl ?_
  refine r_aload_n 0 dX11_may_0 rfl rfl ?_
  refine r_iload_n 1 dX11_may_1 rfl rfl ?_
  refine KP11_City_isFind (d := d + 5)  rfl (Nat.le_of_ble_eq_true rfl) dX11_may_2 ?_
  refine r_if_eqb (tgt := 27) dX11_may_5 (by decide) (fun c1 => ?_) (fun c1 => ?_)
  · have h := h.1 c1
    refine r_iconst_m1 dX11_may_27 ?_
    exact r_iret dX11_may_28 rfl (Nat.le_refl _) (Nat.le_refl _) ⟨_, _, rfl, rfl, h⟩
  · have h := h.2 c1
    refine r_iload_n 2 dX11_may_8 rfl rfl ?_
    refine KP11_City_isWeek (d := d + 5)  rfl (Nat.le_of_ble_eq_true rfl) dX11_may_9 ?_
    refine r_if_eqb (tgt := 27) dX11_may_12 (by decide) (fun c2 => ?_) (fun c2 => ?_)
    · have h := h.1 c2
      refine r_iconst_m1 dX11_may_27 ?_
      exact r_iret dX11_may_28 rfl (Nat.le_refl _) (Nat.le_refl _) ⟨_, _, rfl, rfl, h⟩
    · have h := h.2 c2
      refine r_aload_n 0 dX11_may_15 rfl rfl ?_
      refine xg_11_51 rfl dX11_may_16 ?_
      refine r_iload_n 1 dX11_may_19 rfl rfl ?_
      refine r_iload_n 2 dX11_may_20 rfl rfl ?_
      obtain ⟨b3, h⟩ := h
      refine KP11_Finds_isKnown (d := d + 6) b3 rfl (Nat.le_of_ble_eq_true rfl) dX11_may_21 ?_
      refine r_if_neb (tgt := 29) dX11_may_24 (by decide) (fun c4 => ?_) (fun c4 => ?_)
      · have h := h.1 c4
        refine r_aload_n 0 dX11_may_29 rfl rfl ?_
        refine xg_11_51 rfl dX11_may_30 ?_
        refine r_iload_n 1 dX11_may_33 rfl rfl ?_
        refine r_iload_n 2 dX11_may_34 rfl rfl ?_
        refine r_iconst_m1 dX11_may_35 ?_
        refine K11_Finds_placesOf rfl (Nat.le_of_ble_eq_true rfl) dX11_may_36 (mIx h (fun r5 S6 h => ?_))
        exact r_iret dX11_may_39 rfl (Nat.le_refl _) (Nat.le_refl _) ⟨_, _, rfl, rfl, h⟩
      · have h := h.2 c4
        refine r_iconst_m1 dX11_may_27 ?_
        exact r_iret dX11_may_28 rfl (Nat.le_refl _) (Nat.le_refl _) ⟨_, _, rfl, rfl, h⟩
set_option maxRecDepth 20000 in
theorem en_City_sure {E : EvT} {q : Nat → Nat} {d : Nat} {x1 : Int32} {S : StX} {P : Int32 → StX → Prop} (h : ((mWeek x1) = false → (P (-1) S)) ∧ ((mWeek x1) = true → (C_Finds_countSure E q (d + 7) x1 (-1) S (fun r2 S3 => P r2 S3)))) : C_City_sure E q (d + 8) x1 S P := by
  refine Cn.of rfl (Nat.le_of_ble_eq_true rfl) (ls := [(0, .ref (q 11)), (1, .int (x1))]) rfl ?_
  refine r_iload_n 1 dX11_sure_0 rfl rfl ?_
  refine KP11_City_isWeek (d := d + 6)  rfl (Nat.le_of_ble_eq_true rfl) dX11_sure_1 ?_
  refine r_if_eqb (tgt := 19) dX11_sure_4 (by decide) (fun c1 => ?_) (fun c1 => ?_)
  · have h := h.1 c1
    refine r_iconst_m1 dX11_sure_19 ?_
    exact r_iret dX11_sure_20 rfl (Nat.le_refl _) (Nat.le_refl _) ⟨_, _, rfl, rfl, h⟩
  · have h := h.2 c1
    refine r_aload_n 0 dX11_sure_7 rfl rfl ?_
    refine xg_11_51 rfl dX11_sure_8 ?_
    refine r_iload_n 1 dX11_sure_11 rfl rfl ?_
    refine r_iconst_m1 dX11_sure_12 ?_
    refine K11_Finds_countSure rfl (Nat.le_of_ble_eq_true rfl) dX11_sure_13 (mIx h (fun r2 S3 h => ?_))
    refine r_goto (tgt := 20) dX11_sure_16 (by decide) ?_
    exact r_iret dX11_sure_20 rfl (Nat.le_refl _) (Nat.le_refl _) ⟨_, _, rfl, rfl, h⟩
set_option maxRecDepth 20000 in
theorem en_City_nowhere {E : EvT} {q : Nat → Nat} {d : Nat} {x1 : Int32} {x2 : Int32} {S : StX} {P : Int32 → StX → Prop} (h : (x1 < 0 → (P (-1) S)) ∧ (¬ x1 < 0 → (((mWeek x2) = false → (P (-1) S)) ∧ ((mWeek x2) = true → (C_Finds_unplaced E q (d + 7) x1 x2 S (fun r3 S4 => P r3 S4)))))) : C_City_nowhere E q (d + 8) x1 x2 S P := by
  refine Cn.of rfl (Nat.le_of_ble_eq_true rfl) (ls := [(0, .ref (q 11)), (1, .int (x1)), (2, .int (x2))]) rfl ?_
  refine r_iload_n 1 dX11_nowhere_0 rfl rfl ?_
  refine r_if_lt (tgt := 23) dX11_nowhere_1 (by decide) (fun c1 => ?_) (fun c1 => ?_)
  · have h := h.1 c1
    refine r_iconst_m1 dX11_nowhere_23 ?_
    exact r_iret dX11_nowhere_24 rfl (Nat.le_refl _) (Nat.le_refl _) ⟨_, _, rfl, rfl, h⟩
  · have h := h.2 c1
    refine r_iload_n 2 dX11_nowhere_4 rfl rfl ?_
    refine KP11_City_isWeek (d := d + 6)  rfl (Nat.le_of_ble_eq_true rfl) dX11_nowhere_5 ?_
    refine r_if_eqb (tgt := 23) dX11_nowhere_8 (by decide) (fun c2 => ?_) (fun c2 => ?_)
    · have h := h.1 c2
      refine r_iconst_m1 dX11_nowhere_23 ?_
      exact r_iret dX11_nowhere_24 rfl (Nat.le_refl _) (Nat.le_refl _) ⟨_, _, rfl, rfl, h⟩
    · have h := h.2 c2
      refine r_aload_n 0 dX11_nowhere_11 rfl rfl ?_
      refine xg_11_51 rfl dX11_nowhere_12 ?_
      refine r_iload_n 1 dX11_nowhere_15 rfl rfl ?_
      refine r_iload_n 2 dX11_nowhere_16 rfl rfl ?_
      refine K11_Finds_unplaced rfl (Nat.le_of_ble_eq_true rfl) dX11_nowhere_17 (mIx h (fun r3 S4 h => ?_))
      refine r_goto (tgt := 24) dX11_nowhere_20 (by decide) ?_
      exact r_iret dX11_nowhere_24 rfl (Nat.le_refl _) (Nat.le_refl _) ⟨_, _, rfl, rfl, h⟩
set_option maxRecDepth 20000 in
theorem en_City_barred {E : EvT} {q : Nat → Nat} {d : Nat} {x1 : Int32} {S : StX} {P : Int32 → StX → Prop} (h : ((mIn x1 0 ((xs_Digs_size S) - 1)) = false → (P (-1) S)) ∧ ((mIn x1 0 ((xs_Digs_size S) - 1)) = true → ((0 ≤ x1 ∧ x1 < 100) ∧ ((¬ (xa_Digs_kind S (ix x1)) = 2 → (C_Book_ask E q (d + 5) (xa_Digs_from S (ix x1)) (xa_Digs_hand S (ix x1)) (xa_Digs_kind S (ix x1)) 0 (-1) S (fun S5 => C_Book_deepest E q (d + 5) S5 (fun r6 S7 => ((xa_Digs_bottom S5 (ix x1)) ≤ r6 → (P 0 S7)) ∧ (¬ (xa_Digs_bottom S5 (ix x1)) ≤ r6 → (P 1 S7)))))) ∧ ((xa_Digs_kind S (ix x1)) = 2 → (P (-1) S)))))) : C_City_barred E q (d + 6) x1 S P := by
  refine Cn.of rfl (Nat.le_of_ble_eq_true rfl) (ls := [(0, .ref (q 11)), (1, .int (x1))]) rfl ?_
  refine r_iload_n 1 dX11_barred_0 rfl rfl ?_
  refine r_iconst_0 dX11_barred_1 ?_
  refine r_aload_n 0 dX11_barred_2 rfl rfl ?_
  refine xg_11_28 rfl dX11_barred_3 ?_
  refine xg_11_98 rfl dX11_barred_6 ?_
  refine r_iconst_1 dX11_barred_9 ?_
  refine r_isub dX11_barred_10 ?_
  refine KP11_City_within (d := d + 5)  rfl (Nat.le_of_ble_eq_true rfl) dX11_barred_11 ?_
  refine r_if_eqb (tgt := 30) dX11_barred_14 (by decide) (fun c1 => ?_) (fun c1 => ?_)
  · have h := h.1 c1
    refine r_iconst_m1 dX11_barred_30 ?_
    exact r_iret dX11_barred_31 rfl (Nat.le_refl _) (Nat.le_refl _) ⟨_, _, rfl, rfl, h⟩
  · have h := h.2 c1
    refine r_aload_n 0 dX11_barred_17 rfl rfl ?_
    refine xg_11_28 rfl dX11_barred_18 ?_
    refine xg_11_249 rfl dX11_barred_21 ?_
    refine r_iload_n 1 dX11_barred_24 rfl rfl ?_
    obtain ⟨b2, h⟩ := h
    refine xl_23 b2 dX11_barred_25 ?_
    refine r_iconst_2 dX11_barred_26 ?_
    refine r_icmp_ne (tgt := 32) dX11_barred_27 (by decide) (fun c3 => ?_) (fun c3 => ?_)
    · have h := h.1 c3
      refine r_aload_n 0 dX11_barred_32 rfl rfl ?_
      refine xg_11_42 rfl dX11_barred_33 ?_
      refine r_aload_n 0 dX11_barred_36 rfl rfl ?_
      refine xg_11_28 rfl dX11_barred_37 ?_
      refine xg_11_250 rfl dX11_barred_40 ?_
      refine r_iload_n 1 dX11_barred_43 rfl rfl ?_
      refine xl_28 b2 dX11_barred_44 ?_
      refine r_aload_n 0 dX11_barred_45 rfl rfl ?_
      refine xg_11_28 rfl dX11_barred_46 ?_
      refine xg_11_253 rfl dX11_barred_49 ?_
      refine r_iload_n 1 dX11_barred_52 rfl rfl ?_
      refine xl_22 b2 dX11_barred_53 ?_
      refine r_aload_n 0 dX11_barred_54 rfl rfl ?_
      refine xg_11_28 rfl dX11_barred_55 ?_
      refine xg_11_249 rfl dX11_barred_58 ?_
      refine r_iload_n 1 dX11_barred_61 rfl rfl ?_
      refine xl_23 b2 dX11_barred_62 ?_
      refine r_iconst_0 dX11_barred_63 ?_
      refine r_iconst_m1 dX11_barred_64 ?_
      refine K11_Book_ask rfl (Nat.le_of_ble_eq_true rfl) dX11_barred_65 (mVx h (fun S5 h => ?_))
      refine r_aload_n 0 dX11_barred_68 rfl rfl ?_
      refine xg_11_28 rfl dX11_barred_69 ?_
      refine xg_11_256 rfl dX11_barred_72 ?_
      refine r_iload_n 1 dX11_barred_75 rfl rfl ?_
      refine xl_27 b2 dX11_barred_76 ?_
      refine r_aload_n 0 dX11_barred_77 rfl rfl ?_
      refine xg_11_42 rfl dX11_barred_78 ?_
      refine K11_Book_deepest rfl (Nat.le_of_ble_eq_true rfl) dX11_barred_81 (mIx h (fun r6 S7 h => ?_))
      refine r_icmp_le (tgt := 91) dX11_barred_84 (by decide) (fun c8 => ?_) (fun c8 => ?_)
      · have h := h.1 c8
        refine r_iconst_0 dX11_barred_91 ?_
        exact r_iret dX11_barred_92 rfl (Nat.le_refl _) (Nat.le_refl _) ⟨_, _, rfl, rfl, h⟩
      · have h := h.2 c8
        refine r_iconst_1 dX11_barred_87 ?_
        refine r_goto (tgt := 92) dX11_barred_88 (by decide) ?_
        exact r_iret dX11_barred_92 rfl (Nat.le_refl _) (Nat.le_refl _) ⟨_, _, rfl, rfl, h⟩
    · have h := h.2 c3
      refine r_iconst_m1 dX11_barred_30 ?_
      exact r_iret dX11_barred_31 rfl (Nat.le_refl _) (Nat.le_refl _) ⟨_, _, rfl, rfl, h⟩
set_option maxRecDepth 20000 in
theorem en_City_thing {E : EvT} {q : Nat → Nat} {d : Nat} {x1 : Int32} {x2 : Int32} {x3 : Int32} {S : StX} {P : Int32 → StX → Prop} (h : ((mIn x1 0 9) = false → (P (-1) S)) ∧ ((mIn x1 0 9) = true → (((mIn x2 0 7) = true → (((mIn x3 0 255) = false → (P (-1) S)) ∧ ((mIn x3 0 255) = true → (((xs_Mus_things S) < 60 → (C_Mus_add E q d x1 x2 x3 S (fun r5 S6 => P r5 S6))) ∧ (¬ (xs_Mus_things S) < 60 → (P (-1) S)))))) ∧ ((mIn x2 0 7) = false → (P (-1) S))))) : C_City_thing E q (d + 1) x1 x2 x3 S P := by
  refine Cn.of rfl (Nat.le_of_ble_eq_true rfl) (ls := [(0, .ref (q 11)), (1, .int (x1)), (2, .int (x2)), (3, .int (x3))]) rfl ?_
  refine r_iload_n 1 dX11_thing_0 rfl rfl ?_
  refine r_iconst_0 dX11_thing_1 ?_
  refine r_bipush_9 dX11_thing_2 ?_
  refine KP11_City_within (d := d + 0)  rfl (Nat.le_of_ble_eq_true rfl) dX11_thing_4 ?_
  refine r_if_eqb (tgt := 20) dX11_thing_7 (by decide) (fun c1 => ?_) (fun c1 => ?_)
  · have h := h.1 c1
    refine r_iconst_m1 dX11_thing_20 ?_
    exact r_iret dX11_thing_21 rfl (Nat.le_refl _) (Nat.le_refl _) ⟨_, _, rfl, rfl, h⟩
  · have h := h.2 c1
    refine r_iload_n 2 dX11_thing_10 rfl rfl ?_
    refine r_iconst_0 dX11_thing_11 ?_
    refine r_bipush_7 dX11_thing_12 ?_
    refine KP11_City_within (d := d + 0)  rfl (Nat.le_of_ble_eq_true rfl) dX11_thing_14 ?_
    refine r_if_neb (tgt := 22) dX11_thing_17 (by decide) (fun c2 => ?_) (fun c2 => ?_)
    · have h := h.1 c2
      refine r_iload_n 3 dX11_thing_22 rfl rfl ?_
      refine r_iconst_0 dX11_thing_23 ?_
      refine r_sipush_255 dX11_thing_24 ?_
      refine KP11_City_within (d := d + 0)  rfl (Nat.le_of_ble_eq_true rfl) dX11_thing_27 ?_
      refine r_if_eqb (tgt := 45) dX11_thing_30 (by decide) (fun c3 => ?_) (fun c3 => ?_)
      · have h := h.1 c3
        refine r_iconst_m1 dX11_thing_45 ?_
        exact r_iret dX11_thing_46 rfl (Nat.le_refl _) (Nat.le_refl _) ⟨_, _, rfl, rfl, h⟩
      · have h := h.2 c3
        refine r_aload_n 0 dX11_thing_33 rfl rfl ?_
        refine xg_11_60 rfl dX11_thing_34 ?_
        refine xg_11_259 rfl dX11_thing_37 ?_
        refine r_bipush_60 dX11_thing_40 ?_
        refine r_icmp_lt (tgt := 47) dX11_thing_42 (by decide) (fun c4 => ?_) (fun c4 => ?_)
        · have h := h.1 c4
          refine r_aload_n 0 dX11_thing_47 rfl rfl ?_
          refine xg_11_60 rfl dX11_thing_48 ?_
          refine r_iload_n 1 dX11_thing_51 rfl rfl ?_
          refine r_iload_n 2 dX11_thing_52 rfl rfl ?_
          refine r_iload_n 3 dX11_thing_53 rfl rfl ?_
          refine K11_Mus_add rfl (Nat.le_of_ble_eq_true rfl) dX11_thing_54 (mIx h (fun r5 S6 h => ?_))
          exact r_iret dX11_thing_57 rfl (Nat.le_refl _) (Nat.le_refl _) ⟨_, _, rfl, rfl, h⟩
        · have h := h.2 c4
          refine r_iconst_m1 dX11_thing_45 ?_
          exact r_iret dX11_thing_46 rfl (Nat.le_refl _) (Nat.le_refl _) ⟨_, _, rfl, rfl, h⟩
    · have h := h.2 c2
      refine r_iconst_m1 dX11_thing_20 ?_
      exact r_iret dX11_thing_21 rfl (Nat.le_refl _) (Nat.le_refl _) ⟨_, _, rfl, rfl, h⟩
set_option maxRecDepth 20000 in
theorem en_City_gone {E : EvT} {q : Nat → Nat} {d : Nat} {x1 : Int32} {x2 : Int32} {S : StX} {P : Bool → StX → Prop} (h : ((mIn x1 0 ((xs_Mus_things S) - 1)) = false → (P false S)) ∧ ((mIn x1 0 ((xs_Mus_things S) - 1)) = true → ((0 ≤ x1 ∧ x1 < 60) ∧ ((¬ (xa_Mus_missing S (ix x1)) = x2 → (P true (xA S 66 (upd (xa_Mus_missing S) (ix x1) (vp_nar .boolean x2))))) ∧ ((xa_Mus_missing S (ix x1)) = x2 → (P false S)))))) : C_City_gone E q (d + 1) x1 x2 S P := by
  refine Cn.of rfl (Nat.le_of_ble_eq_true rfl) (ls := [(0, .ref (q 11)), (1, .int (x1)), (2, .int (x2))]) rfl ?_
  refine r_iload_n 1 dX11_gone_0 rfl rfl ?_
  refine r_iconst_0 dX11_gone_1 ?_
  refine r_aload_n 0 dX11_gone_2 rfl rfl ?_
  refine xg_11_60 rfl dX11_gone_3 ?_
  refine xg_11_259 rfl dX11_gone_6 ?_
  refine r_iconst_1 dX11_gone_9 ?_
  refine r_isub dX11_gone_10 ?_
  refine KP11_City_within (d := d + 0)  rfl (Nat.le_of_ble_eq_true rfl) dX11_gone_11 ?_
  refine r_if_eqb (tgt := 30) dX11_gone_14 (by decide) (fun c1 => ?_) (fun c1 => ?_)
  · have h := h.1 c1
    refine r_iconst_0 dX11_gone_30 ?_
    exact r_zret0 dX11_gone_31 rfl (Nat.le_refl _) (Nat.le_refl _) ⟨_, _, rfl, rfl, h⟩
  · have h := h.2 c1
    refine r_aload_n 0 dX11_gone_17 rfl rfl ?_
    refine xg_11_60 rfl dX11_gone_18 ?_
    refine xg_11_263 rfl dX11_gone_21 ?_
    refine r_iload_n 1 dX11_gone_24 rfl rfl ?_
    obtain ⟨b2, h⟩ := h
    refine xl_66 b2 dX11_gone_25 ?_
    refine r_iload_n 2 dX11_gone_26 rfl rfl ?_
    refine r_icmp_ne (tgt := 32) dX11_gone_27 (by decide) (fun c3 => ?_) (fun c3 => ?_)
    · have h := h.1 c3
      refine r_aload_n 0 dX11_gone_32 rfl rfl ?_
      refine xg_11_60 rfl dX11_gone_33 ?_
      refine xg_11_263 rfl dX11_gone_36 ?_
      refine r_iload_n 1 dX11_gone_39 rfl rfl ?_
      refine r_iload_n 2 dX11_gone_40 rfl rfl ?_
      refine xt_66 b2 dX11_gone_41 ?_
      refine r_iconst_1 dX11_gone_42 ?_
      exact r_zret1 dX11_gone_43 rfl (Nat.le_refl _) (Nat.le_refl _) ⟨_, _, rfl, rfl, h⟩
    · have h := h.2 c3
      refine r_iconst_0 dX11_gone_30 ?_
      exact r_zret0 dX11_gone_31 rfl (Nat.le_refl _) (Nat.le_refl _) ⟨_, _, rfl, rfl, h⟩
set_option maxRecDepth 20000 in
theorem en_City_like {E : EvT} {q : Nat → Nat} {d : Nat} {x1 : Int32} {x2 : Int32} {S : StX} {P : Int32 → StX → Prop} (h : ((pFind S x1) = false → (P (-1) S)) ∧ ((pFind S x1) = true → (((mIn x2 0 ((xs_Mus_things S) - 1)) = true → ((0 ≤ x2 ∧ x2 < 60) ∧ ((¬ (xa_Mus_missing S (ix x2)) = 0 → (P 0 S)) ∧ ((xa_Mus_missing S (ix x2)) = 0 → (C_Mus_marksNeeded E q (d + 6) x1 S (fun r5 S6 => C_Mus_fits E q (d + 6) x1 x2 r5 S6 (fun r7 S8 => (r7 = false → (P 0 S8)) ∧ (r7 = true → (P 1 S8))))))))) ∧ ((mIn x2 0 ((xs_Mus_things S) - 1)) = false → (P (-1) S))))) : C_City_like E q (d + 7) x1 x2 S P := by
  refine Cn.of rfl (Nat.le_of_ble_eq_true rfl) (ls := [(0, .ref (q 11)), (1, .int (x1)), (2, .int (x2))]) rfl ?_
  refine r_aload_n 0 dX11_like_0 rfl rfl ?_
  refine r_iload_n 1 dX11_like_1 rfl rfl ?_
  refine KP11_City_isFind (d := d + 5)  rfl (Nat.le_of_ble_eq_true rfl) dX11_like_2 ?_
  refine r_if_eqb (tgt := 25) dX11_like_5 (by decide) (fun c1 => ?_) (fun c1 => ?_)
  · have h := h.1 c1
    refine r_iconst_m1 dX11_like_25 ?_
    exact r_iret dX11_like_26 rfl (Nat.le_refl _) (Nat.le_refl _) ⟨_, _, rfl, rfl, h⟩
  · have h := h.2 c1
    refine r_iload_n 2 dX11_like_8 rfl rfl ?_
    refine r_iconst_0 dX11_like_9 ?_
    refine r_aload_n 0 dX11_like_10 rfl rfl ?_
    refine xg_11_60 rfl dX11_like_11 ?_
    refine xg_11_259 rfl dX11_like_14 ?_
    refine r_iconst_1 dX11_like_17 ?_
    refine r_isub dX11_like_18 ?_
    refine KP11_City_within (d := d + 6)  rfl (Nat.le_of_ble_eq_true rfl) dX11_like_19 ?_
    refine r_if_neb (tgt := 27) dX11_like_22 (by decide) (fun c2 => ?_) (fun c2 => ?_)
    · have h := h.1 c2
      refine r_aload_n 0 dX11_like_27 rfl rfl ?_
      refine xg_11_60 rfl dX11_like_28 ?_
      refine xg_11_263 rfl dX11_like_31 ?_
      refine r_iload_n 2 dX11_like_34 rfl rfl ?_
      obtain ⟨b3, h⟩ := h
      refine xl_66 b3 dX11_like_35 ?_
      refine r_if_ne (tgt := 63) dX11_like_36 (by decide) (fun c4 => ?_) (fun c4 => ?_)
      · have h := h.1 c4
        refine r_iconst_0 dX11_like_63 ?_
        exact r_iret dX11_like_64 rfl (Nat.le_refl _) (Nat.le_refl _) ⟨_, _, rfl, rfl, h⟩
      · have h := h.2 c4
        refine r_aload_n 0 dX11_like_39 rfl rfl ?_
        refine xg_11_60 rfl dX11_like_40 ?_
        refine r_iload_n 1 dX11_like_43 rfl rfl ?_
        refine r_iload_n 2 dX11_like_44 rfl rfl ?_
        refine r_aload_n 0 dX11_like_45 rfl rfl ?_
        refine xg_11_60 rfl dX11_like_46 ?_
        refine r_iload_n 1 dX11_like_49 rfl rfl ?_
        refine K11_Mus_marksNeeded rfl (Nat.le_of_ble_eq_true rfl) dX11_like_50 (mIx h (fun r5 S6 h => ?_))
        refine K11_Mus_fits rfl (Nat.le_of_ble_eq_true rfl) dX11_like_53 (mBx h (fun r7 S8 h => ?_))
        refine r_if_eqb (tgt := 63) dX11_like_56 (by decide) (fun c9 => ?_) (fun c9 => ?_)
        · have h := h.1 c9
          refine r_iconst_0 dX11_like_63 ?_
          exact r_iret dX11_like_64 rfl (Nat.le_refl _) (Nat.le_refl _) ⟨_, _, rfl, rfl, h⟩
        · have h := h.2 c9
          refine r_iconst_1 dX11_like_59 ?_
          refine r_goto (tgt := 64) dX11_like_60 (by decide) ?_
          exact r_iret dX11_like_64 rfl (Nat.le_refl _) (Nat.le_refl _) ⟨_, _, rfl, rfl, h⟩
    · have h := h.2 c2
      refine r_iconst_m1 dX11_like_25 ?_
      exact r_iret dX11_like_26 rfl (Nat.le_refl _) (Nat.le_refl _) ⟨_, _, rfl, rfl, h⟩
set_option maxRecDepth 20000 in
theorem en_City_join {E : EvT} {q : Nat → Nat} {d : Nat} {x1 : Int32} {S : StX} {P : Int32 → StX → Prop} (h : ((mIn x1 0 8) = false → (P (-1) S)) ∧ ((mIn x1 0 8) = true → ((x1 ≤ (xs_Tape_length S) → (C_Tape_clear E q (d + 7) S (fun S4 => C_Mus_choose E q (d + 7) x1 S4 (fun r5 S6 => (r5 = false → (P (-2) S6)) ∧ (r5 = true → (C_Mus_match E q (d + 7) S6 (fun r8 S9 => P r8 S9))))))) ∧ (¬ x1 ≤ (xs_Tape_length S) → (P (-1) S))))) : C_City_join E q (d + 8) x1 S P := by
  refine Cn.of rfl (Nat.le_of_ble_eq_true rfl) (ls := [(0, .ref (q 11)), (1, .int (x1))]) rfl ?_
  refine r_iload_n 1 dX11_join_0 rfl rfl ?_
  refine r_iconst_0 dX11_join_1 ?_
  refine r_bipush_8 dX11_join_2 ?_
  refine KP11_City_within (d := d + 7)  rfl (Nat.le_of_ble_eq_true rfl) dX11_join_4 ?_
  refine r_if_eqb (tgt := 21) dX11_join_7 (by decide) (fun c1 => ?_) (fun c1 => ?_)
  · have h := h.1 c1
    refine r_iconst_m1 dX11_join_21 ?_
    exact r_iret dX11_join_22 rfl (Nat.le_refl _) (Nat.le_refl _) ⟨_, _, rfl, rfl, h⟩
  · have h := h.2 c1
    refine r_iload_n 1 dX11_join_10 rfl rfl ?_
    refine r_aload_n 0 dX11_join_11 rfl rfl ?_
    refine xg_11_10 rfl dX11_join_12 ?_
    refine xg_11_182 rfl dX11_join_15 ?_
    refine r_icmp_le (tgt := 23) dX11_join_18 (by decide) (fun c2 => ?_) (fun c2 => ?_)
    · have h := h.1 c2
      refine r_aload_n 0 dX11_join_23 rfl rfl ?_
      refine xg_11_10 rfl dX11_join_24 ?_
      refine K11_Tape_clear rfl (Nat.le_of_ble_eq_true rfl) dX11_join_27 (mVx h (fun S4 h => ?_))
      refine r_aload_n 0 dX11_join_30 rfl rfl ?_
      refine xg_11_60 rfl dX11_join_31 ?_
      refine r_aload_n 0 dX11_join_34 rfl rfl ?_
      refine xg_11_10 rfl dX11_join_35 ?_
      refine xg_11_195 rfl dX11_join_38 ?_
      refine r_iload_n 1 dX11_join_41 rfl rfl ?_
      refine K11_Mus_choose rfl (Nat.le_of_ble_eq_true rfl) dX11_join_42 (mBx h (fun r5 S6 h => ?_))
      refine r_if_eqb (tgt := 58) dX11_join_45 (by decide) (fun c7 => ?_) (fun c7 => ?_)
      · have h := h.1 c7
        refine r_bipush_m2 dX11_join_58 ?_
        exact r_iret dX11_join_60 rfl (Nat.le_refl _) (Nat.le_refl _) ⟨_, _, rfl, rfl, h⟩
      · have h := h.2 c7
        refine r_aload_n 0 dX11_join_48 rfl rfl ?_
        refine xg_11_60 rfl dX11_join_49 ?_
        refine K11_Mus_match rfl (Nat.le_of_ble_eq_true rfl) dX11_join_52 (mIx h (fun r8 S9 h => ?_))
        refine r_goto (tgt := 60) dX11_join_55 (by decide) ?_
        exact r_iret dX11_join_60 rfl (Nat.le_refl _) (Nat.le_refl _) ⟨_, _, rfl, rfl, h⟩
    · have h := h.2 c2
      refine r_iconst_m1 dX11_join_21 ?_
      exact r_iret dX11_join_22 rfl (Nat.le_refl _) (Nat.le_refl _) ⟨_, _, rfl, rfl, h⟩
set_option maxRecDepth 20000 in
theorem en_City_joined {E : EvT} {q : Nat → Nat} {d : Nat} {x1 : Int32} {S : StX} {P : Int32 → StX → Prop} (h : ((mIn x1 0 ((xs_Mus_rowSize S) - 1)) = false → (P (-1) S)) ∧ ((mIn x1 0 ((xs_Mus_rowSize S) - 1)) = true → ((0 ≤ x1 ∧ x1 < 8) ∧ (P (xa_Mus_row S (ix x1)) S)))) : C_City_joined E q (d + 1) x1 S P := by
  refine Cn.of rfl (Nat.le_of_ble_eq_true rfl) (ls := [(0, .ref (q 11)), (1, .int (x1))]) rfl ?_
  refine r_iload_n 1 dX11_joined_0 rfl rfl ?_
  refine r_iconst_0 dX11_joined_1 ?_
  refine r_aload_n 0 dX11_joined_2 rfl rfl ?_
  refine xg_11_60 rfl dX11_joined_3 ?_
  refine xg_11_280 rfl dX11_joined_6 ?_
  refine r_iconst_1 dX11_joined_9 ?_
  refine r_isub dX11_joined_10 ?_
  refine KP11_City_within (d := d + 0)  rfl (Nat.le_of_ble_eq_true rfl) dX11_joined_11 ?_
  refine r_if_eqb (tgt := 29) dX11_joined_14 (by decide) (fun c1 => ?_) (fun c1 => ?_)
  · have h := h.1 c1
    refine r_iconst_m1 dX11_joined_29 ?_
    exact r_iret dX11_joined_30 rfl (Nat.le_refl _) (Nat.le_refl _) ⟨_, _, rfl, rfl, h⟩
  · have h := h.2 c1
    refine r_aload_n 0 dX11_joined_17 rfl rfl ?_
    refine xg_11_60 rfl dX11_joined_18 ?_
    refine xg_11_283 rfl dX11_joined_21 ?_
    refine r_iload_n 1 dX11_joined_24 rfl rfl ?_
    obtain ⟨b2, h⟩ := h
    refine xl_71 b2 dX11_joined_25 ?_
    refine r_goto (tgt := 30) dX11_joined_26 (by decide) ?_
    exact r_iret dX11_joined_30 rfl (Nat.le_refl _) (Nat.le_refl _) ⟨_, _, rfl, rfl, h⟩
set_option maxRecDepth 20000 in
theorem en_City_lost {E : EvT} {q : Nat → Nat} {d : Nat} {x1 : Int32} {x2 : Int32} {S : StX} {P : Int32 → StX → Prop} (h : ((mIn x1 0 100) = false → (P (-1) S)) ∧ ((mIn x1 0 100) = true → (((mIn x2 0 1) = false → (P (-1) S)) ∧ ((mIn x2 0 1) = true → ((x1 ≤ (xs_Tape_length S) → (C_Tape_clear E q (d + 7) S (fun S5 => C_Mus_choose E q (d + 7) x1 S5 (fun r6 S7 => (r6 = true → (C_Mus_keepLost E q (d + 7) S7 (fun S10 => (¬ x2 = 0 → (C_Mus_nextToLook E q (d + 7) S10 (fun r12 S13 => P r12 S13))) ∧ (x2 = 0 → (P (xs_Mus_chosen S10) S10))))) ∧ (r6 = false → (P (-2) S7)))))) ∧ (¬ x1 ≤ (xs_Tape_length S) → (P (-1) S))))))) : C_City_lost E q (d + 8) x1 x2 S P := by
  refine Cn.of rfl (Nat.le_of_ble_eq_true rfl) (ls := [(0, .ref (q 11)), (1, .int (x1)), (2, .int (x2))]) rfl ?_
  refine r_iload_n 1 dX11_lost_0 rfl rfl ?_
  refine r_iconst_0 dX11_lost_1 ?_
  refine r_bipush_100 dX11_lost_2 ?_
  refine KP11_City_within (d := d + 7)  rfl (Nat.le_of_ble_eq_true rfl) dX11_lost_4 ?_
  refine r_if_eqb (tgt := 30) dX11_lost_7 (by decide) (fun c1 => ?_) (fun c1 => ?_)
  · have h := h.1 c1
    refine r_iconst_m1 dX11_lost_30 ?_
    exact r_iret dX11_lost_31 rfl (Nat.le_refl _) (Nat.le_refl _) ⟨_, _, rfl, rfl, h⟩
  · have h := h.2 c1
    refine r_iload_n 2 dX11_lost_10 rfl rfl ?_
    refine r_iconst_0 dX11_lost_11 ?_
    refine r_iconst_1 dX11_lost_12 ?_
    refine KP11_City_within (d := d + 7)  rfl (Nat.le_of_ble_eq_true rfl) dX11_lost_13 ?_
    refine r_if_eqb (tgt := 30) dX11_lost_16 (by decide) (fun c2 => ?_) (fun c2 => ?_)
    · have h := h.1 c2
      refine r_iconst_m1 dX11_lost_30 ?_
      exact r_iret dX11_lost_31 rfl (Nat.le_refl _) (Nat.le_refl _) ⟨_, _, rfl, rfl, h⟩
    · have h := h.2 c2
      refine r_iload_n 1 dX11_lost_19 rfl rfl ?_
      refine r_aload_n 0 dX11_lost_20 rfl rfl ?_
      refine xg_11_10 rfl dX11_lost_21 ?_
      refine xg_11_182 rfl dX11_lost_24 ?_
      refine r_icmp_le (tgt := 32) dX11_lost_27 (by decide) (fun c3 => ?_) (fun c3 => ?_)
      · have h := h.1 c3
        refine r_aload_n 0 dX11_lost_32 rfl rfl ?_
        refine xg_11_10 rfl dX11_lost_33 ?_
        refine K11_Tape_clear rfl (Nat.le_of_ble_eq_true rfl) dX11_lost_36 (mVx h (fun S5 h => ?_))
        refine r_aload_n 0 dX11_lost_39 rfl rfl ?_
        refine xg_11_60 rfl dX11_lost_40 ?_
        refine r_aload_n 0 dX11_lost_43 rfl rfl ?_
        refine xg_11_10 rfl dX11_lost_44 ?_
        refine xg_11_195 rfl dX11_lost_47 ?_
        refine r_iload_n 1 dX11_lost_50 rfl rfl ?_
        refine K11_Mus_choose rfl (Nat.le_of_ble_eq_true rfl) dX11_lost_51 (mBx h (fun r6 S7 h => ?_))
        refine r_if_neb (tgt := 60) dX11_lost_54 (by decide) (fun c8 => ?_) (fun c8 => ?_)
        · have h := h.1 c8
          refine r_aload_n 0 dX11_lost_60 rfl rfl ?_
          refine xg_11_60 rfl dX11_lost_61 ?_
          refine K11_Mus_keepLost rfl (Nat.le_of_ble_eq_true rfl) dX11_lost_64 (mVx h (fun S10 h => ?_))
          refine r_iload_n 2 dX11_lost_67 rfl rfl ?_
          refine r_if_ne (tgt := 81) dX11_lost_68 (by decide) (fun c11 => ?_) (fun c11 => ?_)
          · have h := h.1 c11
            refine r_aload_n 0 dX11_lost_81 rfl rfl ?_
            refine xg_11_60 rfl dX11_lost_82 ?_
            refine K11_Mus_nextToLook rfl (Nat.le_of_ble_eq_true rfl) dX11_lost_85 (mIx h (fun r12 S13 h => ?_))
            exact r_iret dX11_lost_88 rfl (Nat.le_refl _) (Nat.le_refl _) ⟨_, _, rfl, rfl, h⟩
          · have h := h.2 c11
            refine r_aload_n 0 dX11_lost_71 rfl rfl ?_
            refine xg_11_60 rfl dX11_lost_72 ?_
            refine xg_11_289 rfl dX11_lost_75 ?_
            refine r_goto (tgt := 88) dX11_lost_78 (by decide) ?_
            exact r_iret dX11_lost_88 rfl (Nat.le_refl _) (Nat.le_refl _) ⟨_, _, rfl, rfl, h⟩
        · have h := h.2 c8
          refine r_bipush_m2 dX11_lost_57 ?_
          exact r_iret dX11_lost_59 rfl (Nat.le_refl _) (Nat.le_refl _) ⟨_, _, rfl, rfl, h⟩
      · have h := h.2 c3
        refine r_iconst_m1 dX11_lost_30 ?_
        exact r_iret dX11_lost_31 rfl (Nat.le_refl _) (Nat.le_refl _) ⟨_, _, rfl, rfl, h⟩
set_option maxRecDepth 20000 in
theorem en_City_wall {E : EvT} {q : Nat → Nat} {d : Nat} {x1 : Int32} {x2 : Int32} {S : StX} {P : Int32 → StX → Prop} (h : ((pPlace S x1) = false → (P (-1) S)) ∧ ((pPlace S x1) = true → (((mIn x2 0 10000) = false → (P (-1) S)) ∧ ((mIn x2 0 10000) = true → (((xs_Wall_size S) < 30 → (C_Wall_add E q (d + 1) x2 S (fun r4 S5 => P r4 S5))) ∧ (¬ (xs_Wall_size S) < 30 → (P (-1) S))))))) : C_City_wall E q (d + 2) x1 x2 S P := by
  refine Cn.of rfl (Nat.le_of_ble_eq_true rfl) (ls := [(0, .ref (q 11)), (1, .int (x1)), (2, .int (x2))]) rfl ?_
  refine r_aload_n 0 dX11_wall_0 rfl rfl ?_
  refine r_iload_n 1 dX11_wall_1 rfl rfl ?_
  refine KP11_City_isPlace (d := d + 0)  rfl (Nat.le_of_ble_eq_true rfl) dX11_wall_2 ?_
  refine r_if_eqb (tgt := 31) dX11_wall_5 (by decide) (fun c1 => ?_) (fun c1 => ?_)
  · have h := h.1 c1
    refine r_iconst_m1 dX11_wall_31 ?_
    exact r_iret dX11_wall_32 rfl (Nat.le_refl _) (Nat.le_refl _) ⟨_, _, rfl, rfl, h⟩
  · have h := h.2 c1
    refine r_iload_n 2 dX11_wall_8 rfl rfl ?_
    refine r_iconst_0 dX11_wall_9 ?_
    refine r_sipush_10000 dX11_wall_10 ?_
    refine KP11_City_within (d := d + 1)  rfl (Nat.le_of_ble_eq_true rfl) dX11_wall_13 ?_
    refine r_if_eqb (tgt := 31) dX11_wall_16 (by decide) (fun c2 => ?_) (fun c2 => ?_)
    · have h := h.1 c2
      refine r_iconst_m1 dX11_wall_31 ?_
      exact r_iret dX11_wall_32 rfl (Nat.le_refl _) (Nat.le_refl _) ⟨_, _, rfl, rfl, h⟩
    · have h := h.2 c2
      refine r_aload_n 0 dX11_wall_19 rfl rfl ?_
      refine xg_11_67 rfl dX11_wall_20 ?_
      refine xg_11_295 rfl dX11_wall_23 ?_
      refine r_bipush_30 dX11_wall_26 ?_
      refine r_icmp_lt (tgt := 33) dX11_wall_28 (by decide) (fun c3 => ?_) (fun c3 => ?_)
      · have h := h.1 c3
        refine r_aload_n 0 dX11_wall_33 rfl rfl ?_
        refine xg_11_67 rfl dX11_wall_34 ?_
        refine r_iload_n 2 dX11_wall_37 rfl rfl ?_
        refine K11_Wall_add rfl (Nat.le_of_ble_eq_true rfl) dX11_wall_38 (mIx h (fun r4 S5 h => ?_))
        exact r_iret dX11_wall_41 rfl (Nat.le_refl _) (Nat.le_refl _) ⟨_, _, rfl, rfl, h⟩
      · have h := h.2 c3
        refine r_iconst_m1 dX11_wall_31 ?_
        exact r_iret dX11_wall_32 rfl (Nat.le_refl _) (Nat.le_refl _) ⟨_, _, rfl, rfl, h⟩
set_option maxRecDepth 20000 in
theorem en_City_draw {E : EvT} {q : Nat → Nat} {d : Nat} {x1 : Int32} {x2 : Int32} {x3 : Int32} {S : StX} {P : Int32 → StX → Prop} (h : ((pWall S x1) = false → (P (-1) S)) ∧ ((pWall S x1) = true → (((mIn x2 0 (xs_City_today S)) = false → (P (-1) S)) ∧ ((mIn x2 0 (xs_City_today S)) = true → (((mIn x3 0 255) = true → ((100 ≤ (xs_Wall_drawings S) → (P (-1) S)) ∧ (¬ 100 ≤ (xs_Wall_drawings S) → (C_Wall_look E q (d + 1) x1 x2 x3 (xs_City_today S) S (fun r5 S6 => P r5 S6))))) ∧ ((mIn x3 0 255) = false → (P (-1) S))))))) : C_City_draw E q (d + 2) x1 x2 x3 S P := by
  refine Cn.of rfl (Nat.le_of_ble_eq_true rfl) (ls := [(0, .ref (q 11)), (1, .int (x1)), (2, .int (x2)), (3, .int (x3))]) rfl ?_
  refine r_aload_n 0 dX11_draw_0 rfl rfl ?_
  refine r_iload_n 1 dX11_draw_1 rfl rfl ?_
  refine KP11_City_isWall (d := d + 0)  rfl (Nat.le_of_ble_eq_true rfl) dX11_draw_2 ?_
  refine r_if_eqb (tgt := 31) dX11_draw_5 (by decide) (fun c1 => ?_) (fun c1 => ?_)
  · have h := h.1 c1
    refine r_iconst_m1 dX11_draw_31 ?_
    exact r_iret dX11_draw_32 rfl (Nat.le_refl _) (Nat.le_refl _) ⟨_, _, rfl, rfl, h⟩
  · have h := h.2 c1
    refine r_iload_n 2 dX11_draw_8 rfl rfl ?_
    refine r_iconst_0 dX11_draw_9 ?_
    refine r_aload_n 0 dX11_draw_10 rfl rfl ?_
    refine xg_11_87 rfl dX11_draw_11 ?_
    refine KP11_City_within (d := d + 1)  rfl (Nat.le_of_ble_eq_true rfl) dX11_draw_14 ?_
    refine r_if_eqb (tgt := 31) dX11_draw_17 (by decide) (fun c2 => ?_) (fun c2 => ?_)
    · have h := h.1 c2
      refine r_iconst_m1 dX11_draw_31 ?_
      exact r_iret dX11_draw_32 rfl (Nat.le_refl _) (Nat.le_refl _) ⟨_, _, rfl, rfl, h⟩
    · have h := h.2 c2
      refine r_iload_n 3 dX11_draw_20 rfl rfl ?_
      refine r_iconst_0 dX11_draw_21 ?_
      refine r_sipush_255 dX11_draw_22 ?_
      refine KP11_City_within (d := d + 1)  rfl (Nat.le_of_ble_eq_true rfl) dX11_draw_25 ?_
      refine r_if_neb (tgt := 33) dX11_draw_28 (by decide) (fun c3 => ?_) (fun c3 => ?_)
      · have h := h.1 c3
        refine r_aload_n 0 dX11_draw_33 rfl rfl ?_
        refine xg_11_67 rfl dX11_draw_34 ?_
        refine xg_11_301 rfl dX11_draw_37 ?_
        refine r_bipush_100 dX11_draw_40 ?_
        refine r_icmp_ge (tgt := 62) dX11_draw_42 (by decide) (fun c4 => ?_) (fun c4 => ?_)
        · have h := h.1 c4
          refine r_iconst_m1 dX11_draw_62 ?_
          exact r_iret dX11_draw_63 rfl (Nat.le_refl _) (Nat.le_refl _) ⟨_, _, rfl, rfl, h⟩
        · have h := h.2 c4
          refine r_aload_n 0 dX11_draw_45 rfl rfl ?_
          refine xg_11_67 rfl dX11_draw_46 ?_
          refine r_iload_n 1 dX11_draw_49 rfl rfl ?_
          refine r_iload_n 2 dX11_draw_50 rfl rfl ?_
          refine r_iload_n 3 dX11_draw_51 rfl rfl ?_
          refine r_aload_n 0 dX11_draw_52 rfl rfl ?_
          refine xg_11_87 rfl dX11_draw_53 ?_
          refine K11_Wall_look rfl (Nat.le_of_ble_eq_true rfl) dX11_draw_56 (mIx h (fun r5 S6 h => ?_))
          refine r_goto (tgt := 63) dX11_draw_59 (by decide) ?_
          exact r_iret dX11_draw_63 rfl (Nat.le_refl _) (Nat.le_refl _) ⟨_, _, rfl, rfl, h⟩
      · have h := h.2 c3
        refine r_iconst_m1 dX11_draw_31 ?_
        exact r_iret dX11_draw_32 rfl (Nat.le_refl _) (Nat.le_refl _) ⟨_, _, rfl, rfl, h⟩
set_option maxRecDepth 20000 in
theorem en_City_copy {E : EvT} {q : Nat → Nat} {d : Nat} {x1 : Int32} {x2 : Int32} {S : StX} {P : Int32 → StX → Prop} (h : ((mIn x1 0 ((xs_Wall_drawings S) - 1)) = false → (P (-1) S)) ∧ ((mIn x1 0 ((xs_Wall_drawings S) - 1)) = true → (((mIn x2 0 (xs_City_today S)) = true → ((100 ≤ (xs_Wall_drawings S) → (P (-1) S)) ∧ (¬ 100 ≤ (xs_Wall_drawings S) → (C_Wall_trace E q d S (fun r4 S5 => P r4 S5))))) ∧ ((mIn x2 0 (xs_City_today S)) = false → (P (-1) S))))) : C_City_copy E q (d + 1) x1 x2 S P := by
  refine Cn.of rfl (Nat.le_of_ble_eq_true rfl) (ls := [(0, .ref (q 11)), (1, .int (x1)), (2, .int (x2))]) rfl ?_
  refine r_iload_n 1 dX11_copy_0 rfl rfl ?_
  refine r_iconst_0 dX11_copy_1 ?_
  refine r_aload_n 0 dX11_copy_2 rfl rfl ?_
  refine xg_11_67 rfl dX11_copy_3 ?_
  refine xg_11_301 rfl dX11_copy_6 ?_
  refine r_iconst_1 dX11_copy_9 ?_
  refine r_isub dX11_copy_10 ?_
  refine KP11_City_within (d := d + 0)  rfl (Nat.le_of_ble_eq_true rfl) dX11_copy_11 ?_
  refine r_if_eqb (tgt := 29) dX11_copy_14 (by decide) (fun c1 => ?_) (fun c1 => ?_)
  · have h := h.1 c1
    refine r_iconst_m1 dX11_copy_29 ?_
    exact r_iret dX11_copy_30 rfl (Nat.le_refl _) (Nat.le_refl _) ⟨_, _, rfl, rfl, h⟩
  · have h := h.2 c1
    refine r_iload_n 2 dX11_copy_17 rfl rfl ?_
    refine r_iconst_0 dX11_copy_18 ?_
    refine r_aload_n 0 dX11_copy_19 rfl rfl ?_
    refine xg_11_87 rfl dX11_copy_20 ?_
    refine KP11_City_within (d := d + 0)  rfl (Nat.le_of_ble_eq_true rfl) dX11_copy_23 ?_
    refine r_if_neb (tgt := 31) dX11_copy_26 (by decide) (fun c2 => ?_) (fun c2 => ?_)
    · have h := h.1 c2
      refine r_aload_n 0 dX11_copy_31 rfl rfl ?_
      refine xg_11_67 rfl dX11_copy_32 ?_
      refine xg_11_301 rfl dX11_copy_35 ?_
      refine r_bipush_100 dX11_copy_38 ?_
      refine r_icmp_ge (tgt := 53) dX11_copy_40 (by decide) (fun c3 => ?_) (fun c3 => ?_)
      · have h := h.1 c3
        refine r_iconst_m1 dX11_copy_53 ?_
        exact r_iret dX11_copy_54 rfl (Nat.le_refl _) (Nat.le_refl _) ⟨_, _, rfl, rfl, h⟩
      · have h := h.2 c3
        refine r_aload_n 0 dX11_copy_43 rfl rfl ?_
        refine xg_11_67 rfl dX11_copy_44 ?_
        refine K11_Wall_trace rfl (Nat.le_of_ble_eq_true rfl) dX11_copy_47 (mIx h (fun r4 S5 h => ?_))
        refine r_goto (tgt := 54) dX11_copy_50 (by decide) ?_
        exact r_iret dX11_copy_54 rfl (Nat.le_refl _) (Nat.le_refl _) ⟨_, _, rfl, rfl, h⟩
    · have h := h.2 c2
      refine r_iconst_m1 dX11_copy_29 ?_
      exact r_iret dX11_copy_30 rfl (Nat.le_refl _) (Nat.le_refl _) ⟨_, _, rfl, rfl, h⟩
set_option maxRecDepth 20000 in
theorem en_City_stood {E : EvT} {q : Nat → Nat} {d : Nat} {x1 : Int32} {x2 : Int32} {x3 : Int32} {x4 : Int32} {S : StX} {P : Int32 → StX → Prop} (h : ((pWall S x1) = false → (P (-1) S)) ∧ ((pWall S x1) = true → (((mIn x2 0 7) = false → (P (-1) S)) ∧ ((mIn x2 0 7) = true → (((mWeek x3) = false → (P (-1) S)) ∧ ((mWeek x3) = true → (((mIn x4 0 3) = true → (C_Wall_review E q (d + 1) x1 x2 x3 S (fun S6 => (x4 = 0 → ((¬ (xs_Wall_lastSeen S6) = -1 → 0 ≤ (xs_Wall_lastSeen S6) ∧ (xs_Wall_lastSeen S6) < 100) ∧ (P (pWeekOf S6 (xs_Wall_lastSeen S6)) S6))) ∧ (¬ x4 = 0 → ((x4 = 1 → ((¬ (xs_Wall_nextLacking S6) = -1 → 0 ≤ (xs_Wall_nextLacking S6) ∧ (xs_Wall_nextLacking S6) < 100) ∧ (P (pWeekOf S6 (xs_Wall_nextLacking S6)) S6))) ∧ (¬ x4 = 1 → ((x4 = 2 → (P (xs_Wall_quarrelLacks S6) S6)) ∧ (¬ x4 = 2 → (P (xs_Wall_quarrelHas S6) S6))))))))) ∧ ((mIn x4 0 3) = false → (P (-1) S))))))))) : C_City_stood E q (d + 2) x1 x2 x3 x4 S P := by
  refine Cn.of rfl (Nat.le_of_ble_eq_true rfl) (ls := [(0, .ref (q 11)), (1, .int (x1)), (2, .int (x2)), (3, .int (x3)), (4, .int (x4))]) rfl ?_
  refine r_aload_n 0 dX11_stood_0 rfl rfl ?_
  refine r_iload_n 1 dX11_stood_1 rfl rfl ?_
  refine KP11_City_isWall (d := d + 0)  rfl (Nat.le_of_ble_eq_true rfl) dX11_stood_2 ?_
  refine r_if_eqb (tgt := 35) dX11_stood_5 (by decide) (fun c1 => ?_) (fun c1 => ?_)
  · have h := h.1 c1
    refine r_iconst_m1 dX11_stood_35 ?_
    exact r_iret dX11_stood_36 rfl (Nat.le_refl _) (Nat.le_refl _) ⟨_, _, rfl, rfl, h⟩
  · have h := h.2 c1
    refine r_iload_n 2 dX11_stood_8 rfl rfl ?_
    refine r_iconst_0 dX11_stood_9 ?_
    refine r_bipush_7 dX11_stood_10 ?_
    refine KP11_City_within (d := d + 1)  rfl (Nat.le_of_ble_eq_true rfl) dX11_stood_12 ?_
    refine r_if_eqb (tgt := 35) dX11_stood_15 (by decide) (fun c2 => ?_) (fun c2 => ?_)
    · have h := h.1 c2
      refine r_iconst_m1 dX11_stood_35 ?_
      exact r_iret dX11_stood_36 rfl (Nat.le_refl _) (Nat.le_refl _) ⟨_, _, rfl, rfl, h⟩
    · have h := h.2 c2
      refine r_iload_n 3 dX11_stood_18 rfl rfl ?_
      refine KP11_City_isWeek (d := d + 0)  rfl (Nat.le_of_ble_eq_true rfl) dX11_stood_19 ?_
      refine r_if_eqb (tgt := 35) dX11_stood_22 (by decide) (fun c3 => ?_) (fun c3 => ?_)
      · have h := h.1 c3
        refine r_iconst_m1 dX11_stood_35 ?_
        exact r_iret dX11_stood_36 rfl (Nat.le_refl _) (Nat.le_refl _) ⟨_, _, rfl, rfl, h⟩
      · have h := h.2 c3
        refine r_iload 4 dX11_stood_25 rfl ?_
        refine r_iconst_0 dX11_stood_27 ?_
        refine r_iconst_3 dX11_stood_28 ?_
        refine KP11_City_within (d := d + 1)  rfl (Nat.le_of_ble_eq_true rfl) dX11_stood_29 ?_
        refine r_if_neb (tgt := 37) dX11_stood_32 (by decide) (fun c4 => ?_) (fun c4 => ?_)
        · have h := h.1 c4
          refine r_aload_n 0 dX11_stood_37 rfl rfl ?_
          refine xg_11_67 rfl dX11_stood_38 ?_
          refine r_iload_n 1 dX11_stood_41 rfl rfl ?_
          refine r_iload_n 2 dX11_stood_42 rfl rfl ?_
          refine r_iload_n 3 dX11_stood_43 rfl rfl ?_
          refine K11_Wall_review rfl (Nat.le_of_ble_eq_true rfl) dX11_stood_44 (mVx h (fun S6 h => ?_))
          refine r_iload 4 dX11_stood_47 rfl ?_
          by_cases c7 : x4 = 0
          · have h := h.1 c7
            refine r_tableIn (tgt := 76) dX11_stood_49 (by rw [c7]; decide) (by rw [c7]; decide) (by rw [c7]; rfl) (by decide) ?_
            refine r_aload_n 0 dX11_stood_76 rfl rfl ?_
            refine xg_11_67 rfl dX11_stood_77 ?_
            refine r_aload_n 0 dX11_stood_80 rfl rfl ?_
            refine xg_11_67 rfl dX11_stood_81 ?_
            refine xg_11_313 rfl dX11_stood_84 ?_
            obtain ⟨b8, h⟩ := h
            refine KP11_Wall_weekOf (d := d + 1) b8 rfl (Nat.le_of_ble_eq_true rfl) dX11_stood_87 ?_
            exact r_iret dX11_stood_90 rfl (Nat.le_refl _) (Nat.le_refl _) ⟨_, _, rfl, rfl, h⟩
          · have h := h.2 c7
            by_cases c9 : x4 = 1
            · have h := h.1 c9
              refine r_tableIn (tgt := 91) dX11_stood_49 (by rw [c9]; decide) (by rw [c9]; decide) (by rw [c9]; rfl) (by decide) ?_
              refine r_aload_n 0 dX11_stood_91 rfl rfl ?_
              refine xg_11_67 rfl dX11_stood_92 ?_
              refine r_aload_n 0 dX11_stood_95 rfl rfl ?_
              refine xg_11_67 rfl dX11_stood_96 ?_
              refine xg_11_319 rfl dX11_stood_99 ?_
              obtain ⟨b10, h⟩ := h
              refine KP11_Wall_weekOf (d := d + 1) b10 rfl (Nat.le_of_ble_eq_true rfl) dX11_stood_102 ?_
              exact r_iret dX11_stood_105 rfl (Nat.le_refl _) (Nat.le_refl _) ⟨_, _, rfl, rfl, h⟩
            · have h := h.2 c9
              by_cases c11 : x4 = 2
              · have h := h.1 c11
                refine r_tableIn (tgt := 106) dX11_stood_49 (by rw [c11]; decide) (by rw [c11]; decide) (by rw [c11]; rfl) (by decide) ?_
                refine r_aload_n 0 dX11_stood_106 rfl rfl ?_
                refine xg_11_67 rfl dX11_stood_107 ?_
                refine xg_11_322 rfl dX11_stood_110 ?_
                exact r_iret dX11_stood_113 rfl (Nat.le_refl _) (Nat.le_refl _) ⟨_, _, rfl, rfl, h⟩
              · have h := h.2 c11
                refine r_tableOut (tgt := 114) dX11_stood_49 (by have e0 : (x4).toInt ≠ 0 := sw_ne c7; have e1 : (x4).toInt ≠ 1 := sw_ne c9; have e2 : (x4).toInt ≠ 2 := sw_ne c11; omega) (by decide) ?_
                refine r_aload_n 0 dX11_stood_114 rfl rfl ?_
                refine xg_11_67 rfl dX11_stood_115 ?_
                refine xg_11_325 rfl dX11_stood_118 ?_
                exact r_iret dX11_stood_121 rfl (Nat.le_refl _) (Nat.le_refl _) ⟨_, _, rfl, rfl, h⟩
        · have h := h.2 c4
          refine r_iconst_m1 dX11_stood_35 ?_
          exact r_iret dX11_stood_36 rfl (Nat.le_refl _) (Nat.le_refl _) ⟨_, _, rfl, rfl, h⟩
set_option maxRecDepth 20000 in
theorem en_City_ash {E : EvT} {q : Nat → Nat} {d : Nat} {x1 : Int32} {x2 : Int32} {x3 : Int32} {S : StX} {P : Bool → StX → Prop} (h : ((mLayer x1) = false → (P false S)) ∧ ((mLayer x1) = true → (((pSpan x2 x3 99) = true → ((0 ≤ x1 ∧ x1 < 8) ∧ (P true (xA (xA S 1 (upd (xa_Fall_from S) (ix x1) x2)) 2 (upd (xa_Fall_to S) (ix x1) x3))))) ∧ ((pSpan x2 x3 99) = false → (P false S))))) : C_City_ash E q (d + 2) x1 x2 x3 S P := by
  refine Cn.of rfl (Nat.le_of_ble_eq_true rfl) (ls := [(0, .ref (q 11)), (1, .int (x1)), (2, .int (x2)), (3, .int (x3))]) rfl ?_
  refine r_iload_n 1 dX11_ash_0 rfl rfl ?_
  refine KP11_City_isLayer (d := d + 0)  rfl (Nat.le_of_ble_eq_true rfl) dX11_ash_1 ?_
  refine r_if_eqb (tgt := 17) dX11_ash_4 (by decide) (fun c1 => ?_) (fun c1 => ?_)
  · have h := h.1 c1
    refine r_iconst_0 dX11_ash_17 ?_
    exact r_zret0 dX11_ash_18 rfl (Nat.le_refl _) (Nat.le_refl _) ⟨_, _, rfl, rfl, h⟩
  · have h := h.2 c1
    refine r_iload_n 2 dX11_ash_7 rfl rfl ?_
    refine r_iload_n 3 dX11_ash_8 rfl rfl ?_
    refine r_bipush_99 dX11_ash_9 ?_
    refine KP11_City_isSpan (d := d + 1)  rfl (Nat.le_of_ble_eq_true rfl) dX11_ash_11 ?_
    refine r_if_neb (tgt := 19) dX11_ash_14 (by decide) (fun c2 => ?_) (fun c2 => ?_)
    · have h := h.1 c2
      refine r_aload_n 0 dX11_ash_19 rfl rfl ?_
      refine xg_11_74 rfl dX11_ash_20 ?_
      refine xg_11_331 rfl dX11_ash_23 ?_
      refine r_iload_n 1 dX11_ash_26 rfl rfl ?_
      refine r_iload_n 2 dX11_ash_27 rfl rfl ?_
      obtain ⟨b3, h⟩ := h
      refine xt_1 b3 dX11_ash_28 ?_
      refine r_aload_n 0 dX11_ash_29 rfl rfl ?_
      refine xg_11_74 rfl dX11_ash_30 ?_
      refine xg_11_332 rfl dX11_ash_33 ?_
      refine r_iload_n 1 dX11_ash_36 rfl rfl ?_
      refine r_iload_n 3 dX11_ash_37 rfl rfl ?_
      refine xt_2 b3 dX11_ash_38 ?_
      refine r_iconst_1 dX11_ash_39 ?_
      exact r_zret1 dX11_ash_40 rfl (Nat.le_refl _) (Nat.le_refl _) ⟨_, _, rfl, rfl, h⟩
    · have h := h.2 c2
      refine r_iconst_0 dX11_ash_17 ?_
      exact r_zret0 dX11_ash_18 rfl (Nat.le_refl _) (Nat.le_refl _) ⟨_, _, rfl, rfl, h⟩
set_option maxRecDepth 20000 in
theorem en_City_above {E : EvT} {q : Nat → Nat} {d : Nat} {x1 : Int32} {x2 : Int32} {S : StX} {P : Bool → StX → Prop} (h : ((mLayer x1) = false → (P false S)) ∧ ((mLayer x1) = true → (((mLayer x2) = false → (P false S)) ∧ ((mLayer x2) = true → ((x1 = x2 → (P false S)) ∧ (¬ x1 = x2 → (((xs_Fall_cuts S) < 40 → (C_Fall_cut E q (d + 1) x1 x2 S (fun S6 => P true S6))) ∧ (¬ (xs_Fall_cuts S) < 40 → (P false S))))))))) : C_City_above E q (d + 2) x1 x2 S P := by
  refine Cn.of rfl (Nat.le_of_ble_eq_true rfl) (ls := [(0, .ref (q 11)), (1, .int (x1)), (2, .int (x2))]) rfl ?_
  refine r_iload_n 1 dX11_above_0 rfl rfl ?_
  refine KP11_City_isLayer (d := d + 0)  rfl (Nat.le_of_ble_eq_true rfl) dX11_above_1 ?_
  refine r_if_eqb (tgt := 31) dX11_above_4 (by decide) (fun c1 => ?_) (fun c1 => ?_)
  · have h := h.1 c1
    refine r_iconst_0 dX11_above_31 ?_
    exact r_zret0 dX11_above_32 rfl (Nat.le_refl _) (Nat.le_refl _) ⟨_, _, rfl, rfl, h⟩
  · have h := h.2 c1
    refine r_iload_n 2 dX11_above_7 rfl rfl ?_
    refine KP11_City_isLayer (d := d + 0)  rfl (Nat.le_of_ble_eq_true rfl) dX11_above_8 ?_
    refine r_if_eqb (tgt := 31) dX11_above_11 (by decide) (fun c2 => ?_) (fun c2 => ?_)
    · have h := h.1 c2
      refine r_iconst_0 dX11_above_31 ?_
      exact r_zret0 dX11_above_32 rfl (Nat.le_refl _) (Nat.le_refl _) ⟨_, _, rfl, rfl, h⟩
    · have h := h.2 c2
      refine r_iload_n 1 dX11_above_14 rfl rfl ?_
      refine r_iload_n 2 dX11_above_15 rfl rfl ?_
      refine r_icmp_eq (tgt := 31) dX11_above_16 (by decide) (fun c3 => ?_) (fun c3 => ?_)
      · have h := h.1 c3
        refine r_iconst_0 dX11_above_31 ?_
        exact r_zret0 dX11_above_32 rfl (Nat.le_refl _) (Nat.le_refl _) ⟨_, _, rfl, rfl, h⟩
      · have h := h.2 c3
        refine r_aload_n 0 dX11_above_19 rfl rfl ?_
        refine xg_11_74 rfl dX11_above_20 ?_
        refine xg_11_335 rfl dX11_above_23 ?_
        refine r_bipush_40 dX11_above_26 ?_
        refine r_icmp_lt (tgt := 33) dX11_above_28 (by decide) (fun c4 => ?_) (fun c4 => ?_)
        · have h := h.1 c4
          refine r_aload_n 0 dX11_above_33 rfl rfl ?_
          refine xg_11_74 rfl dX11_above_34 ?_
          refine r_iload_n 1 dX11_above_37 rfl rfl ?_
          refine r_iload_n 2 dX11_above_38 rfl rfl ?_
          refine K11_Fall_cut rfl (Nat.le_of_ble_eq_true rfl) dX11_above_39 (mVx h (fun S6 h => ?_))
          refine r_iconst_1 dX11_above_42 ?_
          exact r_zret1 dX11_above_43 rfl (Nat.le_refl _) (Nat.le_refl _) ⟨_, _, rfl, rfl, h⟩
        · have h := h.2 c4
          refine r_iconst_0 dX11_above_31 ?_
          exact r_zret0 dX11_above_32 rfl (Nat.le_refl _) (Nat.le_refl _) ⟨_, _, rfl, rfl, h⟩
set_option maxRecDepth 20000 in
theorem en_City_hour {E : EvT} {q : Nat → Nat} {d : Nat} {x1 : Int32} {x2 : Int32} {S : StX} {P : Int32 → StX → Prop} (h : ((mLayer x1) = false → (P (-1) S)) ∧ ((mLayer x1) = true → (((mIn x2 0 1) = false → (P (-1) S)) ∧ ((mIn x2 0 1) = true → (C_Fall_reckon E q (d + 1) S (fun r3 S4 => (r3 = true → ((¬ x2 = 0 → ((0 ≤ x1 ∧ x1 < 8) ∧ (P (xa_Fall_latest S4 (ix x1)) S4))) ∧ (x2 = 0 → ((0 ≤ x1 ∧ x1 < 8) ∧ (P (xa_Fall_earliest S4 (ix x1)) S4))))) ∧ (r3 = false → (P (-1) S4)))))))) : C_City_hour E q (d + 2) x1 x2 S P := by
  refine Cn.of rfl (Nat.le_of_ble_eq_true rfl) (ls := [(0, .ref (q 11)), (1, .int (x1)), (2, .int (x2))]) rfl ?_
  refine r_iload_n 1 dX11_hour_0 rfl rfl ?_
  refine KP11_City_isLayer (d := d + 0)  rfl (Nat.le_of_ble_eq_true rfl) dX11_hour_1 ?_
  refine r_if_eqb (tgt := 26) dX11_hour_4 (by decide) (fun c1 => ?_) (fun c1 => ?_)
  · have h := h.1 c1
    refine r_iconst_m1 dX11_hour_26 ?_
    exact r_iret dX11_hour_27 rfl (Nat.le_refl _) (Nat.le_refl _) ⟨_, _, rfl, rfl, h⟩
  · have h := h.2 c1
    refine r_iload_n 2 dX11_hour_7 rfl rfl ?_
    refine r_iconst_0 dX11_hour_8 ?_
    refine r_iconst_1 dX11_hour_9 ?_
    refine KP11_City_within (d := d + 1)  rfl (Nat.le_of_ble_eq_true rfl) dX11_hour_10 ?_
    refine r_if_eqb (tgt := 26) dX11_hour_13 (by decide) (fun c2 => ?_) (fun c2 => ?_)
    · have h := h.1 c2
      refine r_iconst_m1 dX11_hour_26 ?_
      exact r_iret dX11_hour_27 rfl (Nat.le_refl _) (Nat.le_refl _) ⟨_, _, rfl, rfl, h⟩
    · have h := h.2 c2
      refine r_aload_n 0 dX11_hour_16 rfl rfl ?_
      refine xg_11_74 rfl dX11_hour_17 ?_
      refine K11_Fall_reckon rfl (Nat.le_of_ble_eq_true rfl) dX11_hour_20 (mBx h (fun r3 S4 h => ?_))
      refine r_if_neb (tgt := 28) dX11_hour_23 (by decide) (fun c5 => ?_) (fun c5 => ?_)
      · have h := h.1 c5
        refine r_iload_n 2 dX11_hour_28 rfl rfl ?_
        refine r_if_ne (tgt := 44) dX11_hour_29 (by decide) (fun c6 => ?_) (fun c6 => ?_)
        · have h := h.1 c6
          refine r_aload_n 0 dX11_hour_44 rfl rfl ?_
          refine xg_11_74 rfl dX11_hour_45 ?_
          refine xg_11_348 rfl dX11_hour_48 ?_
          refine r_iload_n 1 dX11_hour_51 rfl rfl ?_
          obtain ⟨b7, h⟩ := h
          refine xl_4 b7 dX11_hour_52 ?_
          exact r_iret dX11_hour_53 rfl (Nat.le_refl _) (Nat.le_refl _) ⟨_, _, rfl, rfl, h⟩
        · have h := h.2 c6
          refine r_aload_n 0 dX11_hour_32 rfl rfl ?_
          refine xg_11_74 rfl dX11_hour_33 ?_
          refine xg_11_345 rfl dX11_hour_36 ?_
          refine r_iload_n 1 dX11_hour_39 rfl rfl ?_
          obtain ⟨b8, h⟩ := h
          refine xl_3 b8 dX11_hour_40 ?_
          refine r_goto (tgt := 53) dX11_hour_41 (by decide) ?_
          exact r_iret dX11_hour_53 rfl (Nat.le_refl _) (Nat.le_refl _) ⟨_, _, rfl, rfl, h⟩
      · have h := h.2 c5
        refine r_iconst_m1 dX11_hour_26 ?_
        exact r_iret dX11_hour_27 rfl (Nat.le_refl _) (Nat.le_refl _) ⟨_, _, rfl, rfl, h⟩
set_option maxRecDepth 20000 in
theorem en_City_height {E : EvT} {q : Nat → Nat} {d : Nat} {x1 : Int32} {x2 : Int32} {S : StX} {P : Bool → StX → Prop} (h : ((pCell S x1) = false → (P false S)) ∧ ((pCell S x1) = true → (((mIn x2 0 8) = true → ((0 ≤ x1 ∧ x1 < 100) ∧ (P true (xA S 8 (upd (xa_Fall_height S) (ix x1) x2))))) ∧ ((mIn x2 0 8) = false → (P false S))))) : C_City_height E q (d + 2) x1 x2 S P := by
  refine Cn.of rfl (Nat.le_of_ble_eq_true rfl) (ls := [(0, .ref (q 11)), (1, .int (x1)), (2, .int (x2))]) rfl ?_
  refine r_aload_n 0 dX11_height_0 rfl rfl ?_
  refine xg_11_19 rfl dX11_height_1 ?_
  refine r_iload_n 1 dX11_height_4 rfl rfl ?_
  refine KP11_Plan_isCell (d := d + 0)  rfl (Nat.le_of_ble_eq_true rfl) dX11_height_5 ?_
  refine r_if_eqb (tgt := 21) dX11_height_8 (by decide) (fun c1 => ?_) (fun c1 => ?_)
  · have h := h.1 c1
    refine r_iconst_0 dX11_height_21 ?_
    exact r_zret0 dX11_height_22 rfl (Nat.le_refl _) (Nat.le_refl _) ⟨_, _, rfl, rfl, h⟩
  · have h := h.2 c1
    refine r_iload_n 2 dX11_height_11 rfl rfl ?_
    refine r_iconst_0 dX11_height_12 ?_
    refine r_bipush_8 dX11_height_13 ?_
    refine KP11_City_within (d := d + 1)  rfl (Nat.le_of_ble_eq_true rfl) dX11_height_15 ?_
    refine r_if_neb (tgt := 23) dX11_height_18 (by decide) (fun c2 => ?_) (fun c2 => ?_)
    · have h := h.1 c2
      refine r_aload_n 0 dX11_height_23 rfl rfl ?_
      refine xg_11_74 rfl dX11_height_24 ?_
      refine xg_11_351 rfl dX11_height_27 ?_
      refine r_iload_n 1 dX11_height_30 rfl rfl ?_
      refine r_iload_n 2 dX11_height_31 rfl rfl ?_
      obtain ⟨b3, h⟩ := h
      refine xt_8 b3 dX11_height_32 ?_
      refine r_iconst_1 dX11_height_33 ?_
      exact r_zret1 dX11_height_34 rfl (Nat.le_refl _) (Nat.le_refl _) ⟨_, _, rfl, rfl, h⟩
    · have h := h.2 c2
      refine r_iconst_0 dX11_height_21 ?_
      exact r_zret0 dX11_height_22 rfl (Nat.le_refl _) (Nat.le_refl _) ⟨_, _, rfl, rfl, h⟩
set_option maxRecDepth 20000 in
theorem en_City_hollow {E : EvT} {q : Nat → Nat} {d : Nat} {x1 : Int32} {x2 : Int32} {S : StX} {P : Int32 → StX → Prop} (h : ((pSpot S x1 x2) = false → (P (-1) S)) ∧ ((pSpot S x1 x2) = true → ((40 ≤ (xs_Fall_hollows S) → (P (-1) S)) ∧ (¬ 40 ≤ (xs_Fall_hollows S) → (C_Fall_add E q (d + 2) x1 x2 S (fun r3 S4 => P r3 S4)))))) : C_City_hollow E q (d + 3) x1 x2 S P := by
  refine Cn.of rfl (Nat.le_of_ble_eq_true rfl) (ls := [(0, .ref (q 11)), (1, .int (x1)), (2, .int (x2))]) rfl ?_
  refine r_aload_n 0 dX11_hollow_0 rfl rfl ?_
  refine r_iload_n 1 dX11_hollow_1 rfl rfl ?_
  refine r_iload_n 2 dX11_hollow_2 rfl rfl ?_
  refine KP11_City_isSpot (d := d + 0)  rfl (Nat.le_of_ble_eq_true rfl) dX11_hollow_3 ?_
  refine r_if_eqb (tgt := 33) dX11_hollow_6 (by decide) (fun c1 => ?_) (fun c1 => ?_)
  · have h := h.1 c1
    refine r_iconst_m1 dX11_hollow_33 ?_
    exact r_iret dX11_hollow_34 rfl (Nat.le_refl _) (Nat.le_refl _) ⟨_, _, rfl, rfl, h⟩
  · have h := h.2 c1
    refine r_aload_n 0 dX11_hollow_9 rfl rfl ?_
    refine xg_11_74 rfl dX11_hollow_10 ?_
    refine xg_11_101 rfl dX11_hollow_13 ?_
    refine r_bipush_40 dX11_hollow_16 ?_
    refine r_icmp_ge (tgt := 33) dX11_hollow_18 (by decide) (fun c2 => ?_) (fun c2 => ?_)
    · have h := h.1 c2
      refine r_iconst_m1 dX11_hollow_33 ?_
      exact r_iret dX11_hollow_34 rfl (Nat.le_refl _) (Nat.le_refl _) ⟨_, _, rfl, rfl, h⟩
    · have h := h.2 c2
      refine r_aload_n 0 dX11_hollow_21 rfl rfl ?_
      refine xg_11_74 rfl dX11_hollow_22 ?_
      refine r_iload_n 1 dX11_hollow_25 rfl rfl ?_
      refine r_iload_n 2 dX11_hollow_26 rfl rfl ?_
      refine K11_Fall_add rfl (Nat.le_of_ble_eq_true rfl) dX11_hollow_27 (mIx h (fun r3 S4 h => ?_))
      refine r_goto (tgt := 34) dX11_hollow_30 (by decide) ?_
      exact r_iret dX11_hollow_34 rfl (Nat.le_refl _) (Nat.le_refl _) ⟨_, _, rfl, rfl, h⟩
set_option maxRecDepth 20000 in
theorem en_City_way {E : EvT} {q : Nat → Nat} {d : Nat} {x1 : Int32} {S : StX} {P : Int32 → StX → Prop} (h : ((mIn x1 0 ((xs_Fall_hollows S) - 1)) = false → (P (-1) S)) ∧ ((mIn x1 0 ((xs_Fall_hollows S) - 1)) = true → (C_Fall_reckon E q (d + 3) S (fun r2 S3 => (r2 = false → (P (-1) S3)) ∧ (r2 = true → (C_Fall_stepsOut E q (d + 3) x1 S3 (fun r5 S6 => P r5 S6))))))) : C_City_way E q (d + 4) x1 S P := by
  refine Cn.of rfl (Nat.le_of_ble_eq_true rfl) (ls := [(0, .ref (q 11)), (1, .int (x1))]) rfl ?_
  refine r_iload_n 1 dX11_way_0 rfl rfl ?_
  refine r_iconst_0 dX11_way_1 ?_
  refine r_aload_n 0 dX11_way_2 rfl rfl ?_
  refine xg_11_74 rfl dX11_way_3 ?_
  refine xg_11_101 rfl dX11_way_6 ?_
  refine r_iconst_1 dX11_way_9 ?_
  refine r_isub dX11_way_10 ?_
  refine KP11_City_within (d := d + 3)  rfl (Nat.le_of_ble_eq_true rfl) dX11_way_11 ?_
  refine r_if_eqb (tgt := 38) dX11_way_14 (by decide) (fun c1 => ?_) (fun c1 => ?_)
  · have h := h.1 c1
    refine r_iconst_m1 dX11_way_38 ?_
    exact r_iret dX11_way_39 rfl (Nat.le_refl _) (Nat.le_refl _) ⟨_, _, rfl, rfl, h⟩
  · have h := h.2 c1
    refine r_aload_n 0 dX11_way_17 rfl rfl ?_
    refine xg_11_74 rfl dX11_way_18 ?_
    refine K11_Fall_reckon rfl (Nat.le_of_ble_eq_true rfl) dX11_way_21 (mBx h (fun r2 S3 h => ?_))
    refine r_if_eqb (tgt := 38) dX11_way_24 (by decide) (fun c4 => ?_) (fun c4 => ?_)
    · have h := h.1 c4
      refine r_iconst_m1 dX11_way_38 ?_
      exact r_iret dX11_way_39 rfl (Nat.le_refl _) (Nat.le_refl _) ⟨_, _, rfl, rfl, h⟩
    · have h := h.2 c4
      refine r_aload_n 0 dX11_way_27 rfl rfl ?_
      refine xg_11_74 rfl dX11_way_28 ?_
      refine r_iload_n 1 dX11_way_31 rfl rfl ?_
      refine K11_Fall_stepsOut rfl (Nat.le_of_ble_eq_true rfl) dX11_way_32 (mIx h (fun r5 S6 h => ?_))
      refine r_goto (tgt := 39) dX11_way_35 (by decide) ?_
      exact r_iret dX11_way_39 rfl (Nat.le_refl _) (Nat.le_refl _) ⟨_, _, rfl, rfl, h⟩
set_option maxRecDepth 20000 in
theorem en_City_sign {E : EvT} {q : Nat → Nat} {d : Nat} {x1 : Int32} {x2 : Int32} {x3 : Int32} {x4 : Int32} {S : StX} {P : Bool → StX → Prop} (h : ((mIn x1 0 29) = false → (P false S)) ∧ ((mIn x1 0 29) = true → (((mIn x2 0 7) = false → (P false S)) ∧ ((mIn x2 0 7) = true → (((pPlace S x3) = true → (((mIn x4 0 (xs_City_today S)) = false → (P false S)) ∧ ((mIn x4 0 (xs_City_today S)) = true → (((xs_Sign_size S) < 100 → (C_Sign_add E q (d + 1) x1 x2 x3 x4 S (fun S7 => P true S7))) ∧ (¬ (xs_Sign_size S) < 100 → (P false S)))))) ∧ ((pPlace S x3) = false → (P false S))))))) : C_City_sign E q (d + 2) x1 x2 x3 x4 S P := by
  refine Cn.of rfl (Nat.le_of_ble_eq_true rfl) (ls := [(0, .ref (q 11)), (1, .int (x1)), (2, .int (x2)), (3, .int (x3)), (4, .int (x4))]) rfl ?_
  refine r_iload_n 1 dX11_sign_0 rfl rfl ?_
  refine r_iconst_0 dX11_sign_1 ?_
  refine r_bipush_29 dX11_sign_2 ?_
  refine KP11_City_within (d := d + 1)  rfl (Nat.le_of_ble_eq_true rfl) dX11_sign_4 ?_
  refine r_if_eqb (tgt := 28) dX11_sign_7 (by decide) (fun c1 => ?_) (fun c1 => ?_)
  · have h := h.1 c1
    refine r_iconst_0 dX11_sign_28 ?_
    exact r_zret0 dX11_sign_29 rfl (Nat.le_refl _) (Nat.le_refl _) ⟨_, _, rfl, rfl, h⟩
  · have h := h.2 c1
    refine r_iload_n 2 dX11_sign_10 rfl rfl ?_
    refine r_iconst_0 dX11_sign_11 ?_
    refine r_bipush_7 dX11_sign_12 ?_
    refine KP11_City_within (d := d + 1)  rfl (Nat.le_of_ble_eq_true rfl) dX11_sign_14 ?_
    refine r_if_eqb (tgt := 28) dX11_sign_17 (by decide) (fun c2 => ?_) (fun c2 => ?_)
    · have h := h.1 c2
      refine r_iconst_0 dX11_sign_28 ?_
      exact r_zret0 dX11_sign_29 rfl (Nat.le_refl _) (Nat.le_refl _) ⟨_, _, rfl, rfl, h⟩
    · have h := h.2 c2
      refine r_aload_n 0 dX11_sign_20 rfl rfl ?_
      refine r_iload_n 3 dX11_sign_21 rfl rfl ?_
      refine KP11_City_isPlace (d := d + 0)  rfl (Nat.le_of_ble_eq_true rfl) dX11_sign_22 ?_
      refine r_if_neb (tgt := 30) dX11_sign_25 (by decide) (fun c3 => ?_) (fun c3 => ?_)
      · have h := h.1 c3
        refine r_iload 4 dX11_sign_30 rfl ?_
        refine r_iconst_0 dX11_sign_32 ?_
        refine r_aload_n 0 dX11_sign_33 rfl rfl ?_
        refine xg_11_87 rfl dX11_sign_34 ?_
        refine KP11_City_within (d := d + 1)  rfl (Nat.le_of_ble_eq_true rfl) dX11_sign_37 ?_
        refine r_if_eqb (tgt := 55) dX11_sign_40 (by decide) (fun c4 => ?_) (fun c4 => ?_)
        · have h := h.1 c4
          refine r_iconst_0 dX11_sign_55 ?_
          exact r_zret0 dX11_sign_56 rfl (Nat.le_refl _) (Nat.le_refl _) ⟨_, _, rfl, rfl, h⟩
        · have h := h.2 c4
          refine r_aload_n 0 dX11_sign_43 rfl rfl ?_
          refine xg_11_83 rfl dX11_sign_44 ?_
          refine xg_11_359 rfl dX11_sign_47 ?_
          refine r_bipush_100 dX11_sign_50 ?_
          refine r_icmp_lt (tgt := 57) dX11_sign_52 (by decide) (fun c5 => ?_) (fun c5 => ?_)
          · have h := h.1 c5
            refine r_aload_n 0 dX11_sign_57 rfl rfl ?_
            refine xg_11_83 rfl dX11_sign_58 ?_
            refine r_iload_n 1 dX11_sign_61 rfl rfl ?_
            refine r_iload_n 2 dX11_sign_62 rfl rfl ?_
            refine r_iload_n 3 dX11_sign_63 rfl rfl ?_
            refine r_iload 4 dX11_sign_64 rfl ?_
            refine K11_Sign_add rfl (Nat.le_of_ble_eq_true rfl) dX11_sign_66 (mVx h (fun S7 h => ?_))
            refine r_iconst_1 dX11_sign_69 ?_
            exact r_zret1 dX11_sign_70 rfl (Nat.le_refl _) (Nat.le_refl _) ⟨_, _, rfl, rfl, h⟩
          · have h := h.2 c5
            refine r_iconst_0 dX11_sign_55 ?_
            exact r_zret0 dX11_sign_56 rfl (Nat.le_refl _) (Nat.le_refl _) ⟨_, _, rfl, rfl, h⟩
      · have h := h.2 c3
        refine r_iconst_0 dX11_sign_28 ?_
        exact r_zret0 dX11_sign_29 rfl (Nat.le_refl _) (Nat.le_refl _) ⟨_, _, rfl, rfl, h⟩
set_option maxRecDepth 20000 in
theorem en_City_who {E : EvT} {q : Nat → Nat} {d : Nat} {x1 : Int32} {x2 : Int32} {S : StX} {P : Int32 → StX → Prop} (h : ((pPlace S x1) = false → (P (-1) S)) ∧ ((pPlace S x1) = true → (((mIn x2 0 2) = true → (C_Sign_weigh E q (d + 6) x1 S (fun S4 => C_Sign_strongest E q (d + 6) S4 (fun r5 S6 => (r5 = (-1) → (P r5 S6)) ∧ (¬ r5 = (-1) → ((¬ x2 = 0 → ((¬ x2 = 1 → ((0 ≤ r5 ∧ r5 < 30) ∧ (C_Sign_rivals E q (d + 6) (xa_Sign_worth S6 (ix r5)) S6 (fun r11 S12 => P r11 S12)))) ∧ (x2 = 1 → ((0 ≤ r5 ∧ r5 < 30) ∧ (P (xa_Sign_worth S6 (ix r5)) S6))))) ∧ (x2 = 0 → (P r5 S6)))))))) ∧ ((mIn x2 0 2) = false → (P (-1) S))))) : C_City_who E q (d + 7) x1 x2 S P := by
  refine Cn.of rfl (Nat.le_of_ble_eq_true rfl) (ls := [(0, .ref (q 11)), (1, .int (x1)), (2, .int (x2))]) rfl ?_
  refine r_aload_n 0 dX11_who_0 rfl rfl ?_
  refine r_iload_n 1 dX11_who_1 rfl rfl ?_
  refine KP11_City_isPlace (d := d + 5)  rfl (Nat.le_of_ble_eq_true rfl) dX11_who_2 ?_
  refine r_if_eqb (tgt := 17) dX11_who_5 (by decide) (fun c1 => ?_) (fun c1 => ?_)
  · have h := h.1 c1
    refine r_iconst_m1 dX11_who_17 ?_
    exact r_iret dX11_who_18 rfl (Nat.le_refl _) (Nat.le_refl _) ⟨_, _, rfl, rfl, h⟩
  · have h := h.2 c1
    refine r_iload_n 2 dX11_who_8 rfl rfl ?_
    refine r_iconst_0 dX11_who_9 ?_
    refine r_iconst_2 dX11_who_10 ?_
    refine KP11_City_within (d := d + 6)  rfl (Nat.le_of_ble_eq_true rfl) dX11_who_11 ?_
    refine r_if_neb (tgt := 19) dX11_who_14 (by decide) (fun c2 => ?_) (fun c2 => ?_)
    · have h := h.1 c2
      refine r_aload_n 0 dX11_who_19 rfl rfl ?_
      refine xg_11_83 rfl dX11_who_20 ?_
      refine r_iload_n 1 dX11_who_23 rfl rfl ?_
      refine K11_Sign_weigh rfl (Nat.le_of_ble_eq_true rfl) dX11_who_24 (mVx h (fun S4 h => ?_))
      refine r_aload_n 0 dX11_who_27 rfl rfl ?_
      refine xg_11_83 rfl dX11_who_28 ?_
      refine K11_Sign_strongest rfl (Nat.le_of_ble_eq_true rfl) dX11_who_31 (mIx h (fun r5 S6 h => ?_))
      refine r_istore_n [(3, .int (r5)), (0, .ref (q 11)), (1, .int (x1)), (2, .int (x2))] dX11_who_34 rfl (Nat.le_of_ble_eq_true rfl) rfl ?_
      refine r_iload_n 0 dX11_who_35 rfl rfl ?_
      refine r_iconst_m1 dX11_who_36 ?_
      refine r_icmp_eq (tgt := 44) dX11_who_37 (by decide) (fun c7 => ?_) (fun c7 => ?_)
      · have h := h.1 c7
        refine r_iload_n 0 dX11_who_44 rfl rfl ?_
        exact r_iret dX11_who_45 rfl (Nat.le_refl _) (Nat.le_refl _) ⟨_, _, rfl, rfl, h⟩
      · have h := h.2 c7
        refine r_iload_n 3 dX11_who_40 rfl rfl ?_
        refine r_if_ne (tgt := 46) dX11_who_41 (by decide) (fun c8 => ?_) (fun c8 => ?_)
        · have h := h.1 c8
          refine r_iload_n 3 dX11_who_46 rfl rfl ?_
          refine r_iconst_1 dX11_who_47 ?_
          refine r_icmp_ne (tgt := 63) dX11_who_48 (by decide) (fun c9 => ?_) (fun c9 => ?_)
          · have h := h.1 c9
            refine r_aload_n 1 dX11_who_63 rfl rfl ?_
            refine xg_11_83 rfl dX11_who_64 ?_
            refine r_aload_n 1 dX11_who_67 rfl rfl ?_
            refine xg_11_83 rfl dX11_who_68 ?_
            refine xg_11_368 rfl dX11_who_71 ?_
            refine r_iload_n 0 dX11_who_74 rfl rfl ?_
            obtain ⟨b10, h⟩ := h
            refine xl_167 b10 dX11_who_75 ?_
            refine K11_Sign_rivals rfl (Nat.le_of_ble_eq_true rfl) dX11_who_76 (mIx h (fun r11 S12 h => ?_))
            exact r_iret dX11_who_79 rfl (Nat.le_refl _) (Nat.le_refl _) ⟨_, _, rfl, rfl, h⟩
          · have h := h.2 c9
            refine r_aload_n 1 dX11_who_51 rfl rfl ?_
            refine xg_11_83 rfl dX11_who_52 ?_
            refine xg_11_368 rfl dX11_who_55 ?_
            refine r_iload_n 0 dX11_who_58 rfl rfl ?_
            obtain ⟨b13, h⟩ := h
            refine xl_167 b13 dX11_who_59 ?_
            refine r_goto (tgt := 79) dX11_who_60 (by decide) ?_
            exact r_iret dX11_who_79 rfl (Nat.le_refl _) (Nat.le_refl _) ⟨_, _, rfl, rfl, h⟩
        · have h := h.2 c8
          refine r_iload_n 0 dX11_who_44 rfl rfl ?_
          exact r_iret dX11_who_45 rfl (Nat.le_refl _) (Nat.le_refl _) ⟨_, _, rfl, rfl, h⟩
    · have h := h.2 c2
      refine r_iconst_m1 dX11_who_17 ?_
      exact r_iret dX11_who_18 rfl (Nat.le_refl _) (Nat.le_refl _) ⟨_, _, rfl, rfl, h⟩
set_option maxRecDepth 20000 in
theorem en_City_work {E : EvT} {q : Nat → Nat} {d : Nat} {x1 : Int32} {x2 : Int32} {x3 : Int32} {S : StX} {P : Int32 → StX → Prop} (h : ((pWall S x1) = false → (P (-1) S)) ∧ ((pWall S x1) = true → (((mIn x2 1 10000) = false → (P (-1) S)) ∧ ((mIn x2 1 10000) = true → (((mIn x3 1 100) = true → ((9 ≤ (xs_Wall_works S) → (P (-1) S)) ∧ (¬ 9 ≤ (xs_Wall_works S) → (C_Wall_undertake E q (d + 1) x1 x2 x3 S (fun r5 S6 => P r5 S6))))) ∧ ((mIn x3 1 100) = false → (P (-1) S))))))) : C_City_work E q (d + 2) x1 x2 x3 S P := by
  refine Cn.of rfl (Nat.le_of_ble_eq_true rfl) (ls := [(0, .ref (q 11)), (1, .int (x1)), (2, .int (x2)), (3, .int (x3))]) rfl ?_
  refine r_aload_n 0 dX11_work_0 rfl rfl ?_
  refine r_iload_n 1 dX11_work_1 rfl rfl ?_
  refine KP11_City_isWall (d := d + 0)  rfl (Nat.le_of_ble_eq_true rfl) dX11_work_2 ?_
  refine r_if_eqb (tgt := 29) dX11_work_5 (by decide) (fun c1 => ?_) (fun c1 => ?_)
  · have h := h.1 c1
    refine r_iconst_m1 dX11_work_29 ?_
    exact r_iret dX11_work_30 rfl (Nat.le_refl _) (Nat.le_refl _) ⟨_, _, rfl, rfl, h⟩
  · have h := h.2 c1
    refine r_iload_n 2 dX11_work_8 rfl rfl ?_
    refine r_iconst_1 dX11_work_9 ?_
    refine r_sipush_10000 dX11_work_10 ?_
    refine KP11_City_within (d := d + 1)  rfl (Nat.le_of_ble_eq_true rfl) dX11_work_13 ?_
    refine r_if_eqb (tgt := 29) dX11_work_16 (by decide) (fun c2 => ?_) (fun c2 => ?_)
    · have h := h.1 c2
      refine r_iconst_m1 dX11_work_29 ?_
      exact r_iret dX11_work_30 rfl (Nat.le_refl _) (Nat.le_refl _) ⟨_, _, rfl, rfl, h⟩
    · have h := h.2 c2
      refine r_iload_n 3 dX11_work_19 rfl rfl ?_
      refine r_iconst_1 dX11_work_20 ?_
      refine r_bipush_100 dX11_work_21 ?_
      refine KP11_City_within (d := d + 1)  rfl (Nat.le_of_ble_eq_true rfl) dX11_work_23 ?_
      refine r_if_neb (tgt := 31) dX11_work_26 (by decide) (fun c3 => ?_) (fun c3 => ?_)
      · have h := h.1 c3
        refine r_aload_n 0 dX11_work_31 rfl rfl ?_
        refine xg_11_67 rfl dX11_work_32 ?_
        refine xg_11_374 rfl dX11_work_35 ?_
        refine r_bipush_9 dX11_work_38 ?_
        refine r_icmp_ge (tgt := 56) dX11_work_40 (by decide) (fun c4 => ?_) (fun c4 => ?_)
        · have h := h.1 c4
          refine r_iconst_m1 dX11_work_56 ?_
          exact r_iret dX11_work_57 rfl (Nat.le_refl _) (Nat.le_refl _) ⟨_, _, rfl, rfl, h⟩
        · have h := h.2 c4
          refine r_aload_n 0 dX11_work_43 rfl rfl ?_
          refine xg_11_67 rfl dX11_work_44 ?_
          refine r_iload_n 1 dX11_work_47 rfl rfl ?_
          refine r_iload_n 2 dX11_work_48 rfl rfl ?_
          refine r_iload_n 3 dX11_work_49 rfl rfl ?_
          refine K11_Wall_undertake rfl (Nat.le_of_ble_eq_true rfl) dX11_work_50 (mIx h (fun r5 S6 h => ?_))
          refine r_goto (tgt := 57) dX11_work_53 (by decide) ?_
          exact r_iret dX11_work_57 rfl (Nat.le_refl _) (Nat.le_refl _) ⟨_, _, rfl, rfl, h⟩
      · have h := h.2 c3
        refine r_iconst_m1 dX11_work_29 ?_
        exact r_iret dX11_work_30 rfl (Nat.le_refl _) (Nat.le_refl _) ⟨_, _, rfl, rfl, h⟩
set_option maxRecDepth 20000 in
theorem en_City_best {E : EvT} {q : Nat → Nat} {d : Nat} {x1 : Int32} {S : StX} {P : Int32 → StX → Prop} (h : ((mIn x1 0 100000) = false → (P (-1) S)) ∧ ((mIn x1 0 100000) = true → (C_Wall_bestSet E q (d + 2) x1 S (fun r2 S3 => P r2 S3)))) : C_City_best E q (d + 3) x1 S P := by
  refine Cn.of rfl (Nat.le_of_ble_eq_true rfl) (ls := [(0, .ref (q 11)), (1, .int (x1))]) rfl ?_
  refine r_iload_n 1 dX11_best_0 rfl rfl ?_
  refine r_iconst_0 dX11_best_1 ?_
  refine r_ldcw w6_119 dX11_best_2 ?_
  refine KP11_City_within (d := d + 2)  rfl (Nat.le_of_ble_eq_true rfl) dX11_best_5 ?_
  refine r_if_eqb (tgt := 22) dX11_best_8 (by decide) (fun c1 => ?_) (fun c1 => ?_)
  · have h := h.1 c1
    refine r_iconst_m1 dX11_best_22 ?_
    exact r_iret dX11_best_23 rfl (Nat.le_refl _) (Nat.le_refl _) ⟨_, _, rfl, rfl, h⟩
  · have h := h.2 c1
    refine r_aload_n 0 dX11_best_11 rfl rfl ?_
    refine xg_11_67 rfl dX11_best_12 ?_
    refine r_iload_n 1 dX11_best_15 rfl rfl ?_
    refine K11_Wall_bestSet rfl (Nat.le_of_ble_eq_true rfl) dX11_best_16 (mIx h (fun r2 S3 h => ?_))
    refine r_goto (tgt := 23) dX11_best_19 (by decide) ?_
    exact r_iret dX11_best_23 rfl (Nat.le_refl _) (Nat.le_refl _) ⟨_, _, rfl, rfl, h⟩
set_option maxRecDepth 20000 in
theorem en_City_saves {E : EvT} {q : Nat → Nat} {d : Nat} {x1 : Int32} {S : StX} {P : Int32 → StX → Prop} (h : ((mIn x1 0 (((1 : Int32) <<< ((xs_Wall_works S) &&& 31)) - 1)) = false → (P (-1) S)) ∧ ((mIn x1 0 (((1 : Int32) <<< ((xs_Wall_works S) &&& 31)) - 1)) = true → (C_Wall_savedBy E q (d + 1) x1 S (fun r2 S3 => P r2 S3)))) : C_City_saves E q (d + 2) x1 S P := by
  refine Cn.of rfl (Nat.le_of_ble_eq_true rfl) (ls := [(0, .ref (q 11)), (1, .int (x1))]) rfl ?_
  refine r_iload_n 1 dX11_saves_0 rfl rfl ?_
  refine r_iconst_0 dX11_saves_1 ?_
  refine r_iconst_1 dX11_saves_2 ?_
  refine r_aload_n 0 dX11_saves_3 rfl rfl ?_
  refine xg_11_67 rfl dX11_saves_4 ?_
  refine xg_11_374 rfl dX11_saves_7 ?_
  refine r_ishl dX11_saves_10 ?_
  refine r_iconst_1 dX11_saves_11 ?_
  refine r_isub dX11_saves_12 ?_
  refine KP11_City_within (d := d + 1)  rfl (Nat.le_of_ble_eq_true rfl) dX11_saves_13 ?_
  refine r_if_eqb (tgt := 30) dX11_saves_16 (by decide) (fun c1 => ?_) (fun c1 => ?_)
  · have h := h.1 c1
    refine r_iconst_m1 dX11_saves_30 ?_
    exact r_iret dX11_saves_31 rfl (Nat.le_refl _) (Nat.le_refl _) ⟨_, _, rfl, rfl, h⟩
  · have h := h.2 c1
    refine r_aload_n 0 dX11_saves_19 rfl rfl ?_
    refine xg_11_67 rfl dX11_saves_20 ?_
    refine r_iload_n 1 dX11_saves_23 rfl rfl ?_
    refine K11_Wall_savedBy rfl (Nat.le_of_ble_eq_true rfl) dX11_saves_24 (mIx h (fun r2 S3 h => ?_))
    refine r_goto (tgt := 31) dX11_saves_27 (by decide) ?_
    exact r_iret dX11_saves_31 rfl (Nat.le_refl _) (Nat.le_refl _) ⟨_, _, rfl, rfl, h⟩
set_option maxRecDepth 20000 in
theorem en_City_beside {E : EvT} {q : Nat → Nat} {d : Nat} {x1 : Int32} {S : StX} {P : Int32 → StX → Prop} (h : ((mIn x1 0 7) = false → (P (-1) S)) ∧ ((mIn x1 0 7) = true → (C_Finds_countSure E q (d + 7) (xs_City_today S) x1 S (fun r2 S3 => P r2 S3)))) : C_City_beside E q (d + 8) x1 S P := by
  refine Cn.of rfl (Nat.le_of_ble_eq_true rfl) (ls := [(0, .ref (q 11)), (1, .int (x1))]) rfl ?_
  refine r_iload_n 1 dX11_beside_0 rfl rfl ?_
  refine r_iconst_0 dX11_beside_1 ?_
  refine r_bipush_7 dX11_beside_2 ?_
  refine KP11_City_within (d := d + 7)  rfl (Nat.le_of_ble_eq_true rfl) dX11_beside_4 ?_
  refine r_if_eqb (tgt := 25) dX11_beside_7 (by decide) (fun c1 => ?_) (fun c1 => ?_)
  · have h := h.1 c1
    refine r_iconst_m1 dX11_beside_25 ?_
    exact r_iret dX11_beside_26 rfl (Nat.le_refl _) (Nat.le_refl _) ⟨_, _, rfl, rfl, h⟩
  · have h := h.2 c1
    refine r_aload_n 0 dX11_beside_10 rfl rfl ?_
    refine xg_11_51 rfl dX11_beside_11 ?_
    refine r_aload_n 0 dX11_beside_14 rfl rfl ?_
    refine xg_11_87 rfl dX11_beside_15 ?_
    refine r_iload_n 1 dX11_beside_18 rfl rfl ?_
    refine K11_Finds_countSure rfl (Nat.le_of_ble_eq_true rfl) dX11_beside_19 (mIx h (fun r2 S3 h => ?_))
    refine r_goto (tgt := 26) dX11_beside_22 (by decide) ?_
    exact r_iret dX11_beside_26 rfl (Nat.le_refl _) (Nat.le_refl _) ⟨_, _, rfl, rfl, h⟩
abbrev T_City_check_32 (E : EvT) (q : Nat → Nat) (D : Nat) (P : Int32 → StX → Prop) (S : StX) (y1 : Int32) (y2 : Int32) (y3 : Int32) : Prop := RX E q iX_City_check D (qIx E q P) S [(0, .ref (q 11)), (1, .int (y1)), (2, .int (y2)), (3, .int (y3))] [] 32
abbrev T_City_check_46 (E : EvT) (q : Nat → Nat) (D : Nat) (P : Int32 → StX → Prop) (S : StX) (y1 : Int32) (y2 : Int32) (y3 : Int32) (y4 : Int32) : Prop := RX E q iX_City_check D (qIx E q P) S [(0, .ref (q 11)), (1, .int (y1)), (2, .int (y2)), (3, .int (y3)), (4, .int (y4))] [] 46
set_option maxRecDepth 20000 in
theorem en_City_check {E : EvT} {q : Nat → Nat} {d : Nat} {x1 : Int32} {S : StX} {P : Int32 → StX → Prop} (h : (x1 < 0 → (P (-2) S)) ∧ (¬ x1 < 0 → ((x1 ≤ ((xs_Tape_length S) / 12) → (C_Tape_clear E q (d + 3) S (fun S4 => T_City_check_32 E q (d + 4) P S4 x1 0 0))) ∧ (¬ x1 ≤ ((xs_Tape_length S) / 12) → (P (-2) S))))) : C_City_check E q (d + 4) x1 S P := by
  refine Cn.of rfl (Nat.le_of_ble_eq_true rfl) (ls := [(0, .ref (q 11)), (1, .int (x1))]) rfl ?_
  refine r_iload_n 1 dX11_check_0 rfl rfl ?_
  refine r_if_lt (tgt := 18) dX11_check_1 (by decide) (fun c1 => ?_) (fun c1 => ?_)
  · have h := h.1 c1
    refine r_bipush_m2 dX11_check_18 ?_
    exact r_iret dX11_check_20 rfl (Nat.le_refl _) (Nat.le_refl _) ⟨_, _, rfl, rfl, h⟩
  · have h := h.2 c1
    refine r_iload_n 1 dX11_check_4 rfl rfl ?_
    refine r_aload_n 0 dX11_check_5 rfl rfl ?_
    refine xg_11_10 rfl dX11_check_6 ?_
    refine xg_11_182 rfl dX11_check_9 ?_
    refine r_bipush_12 dX11_check_12 ?_
    refine r_idiv dX11_check_14 (by decide) ?_
    refine r_icmp_le (tgt := 21) dX11_check_15 (by decide) (fun c2 => ?_) (fun c2 => ?_)
    · have h := h.1 c2
      refine r_aload_n 0 dX11_check_21 rfl rfl ?_
      refine xg_11_10 rfl dX11_check_22 ?_
      refine K11_Tape_clear rfl (Nat.le_of_ble_eq_true rfl) dX11_check_25 (mVx h (fun S4 h => ?_))
      refine r_iconst_0 dX11_check_28 ?_
      refine r_istore_n [(2, .int (0)), (0, .ref (q 11)), (1, .int (x1))] dX11_check_29 rfl (Nat.le_of_ble_eq_true rfl) rfl ?_
      refine r_iconst_0 dX11_check_30 ?_
      refine r_istore_n [(3, .int (0)), (2, .int (0)), (0, .ref (q 11)), (1, .int (x1))] dX11_check_31 rfl (Nat.le_of_ble_eq_true rfl) rfl ?_
      refine r_ls [2, 3, 1, 0] (ls2 := [(0, .ref (q 11)), (1, .int (x1)), (2, .int (0)), (3, .int (0))]) rfl ?_
      exact h
    · have h := h.2 c2
      refine r_bipush_m2 dX11_check_18 ?_
      exact r_iret dX11_check_20 rfl (Nat.le_refl _) (Nat.le_refl _) ⟨_, _, rfl, rfl, h⟩
set_option maxRecDepth 20000 in
theorem sg_City_check_32 {E : EvT} {q : Nat → Nat} {d : Nat} {S : StX} {P : Int32 → StX → Prop} {y1 : Int32} {y2 : Int32} {y3 : Int32} (h : ((xs_Plan_width S * xs_Plan_height S) ≤ y3 → ((y1 ≤ y2 → (P (-1) S)) ∧ (¬ y1 ≤ y2 → (P (3 * y2) S)))) ∧ (¬ (xs_Plan_width S * xs_Plan_height S) ≤ y3 → (T_City_check_46 E q (d + 4) P S y1 y2 y3 0))) : T_City_check_32 E q (d + 4) P S y1 y2 y3 := by
  refine r_iload_n 3 dX11_check_32 rfl rfl ?_
  refine r_aload_n 0 dX11_check_33 rfl rfl ?_
  refine xg_11_19 rfl dX11_check_34 ?_
  refine KP11_Plan_cells (d := d + 3)  rfl (Nat.le_of_ble_eq_true rfl) dX11_check_37 ?_
  refine r_icmp_ge (tgt := 130) dX11_check_40 (by decide) (fun c1 => ?_) (fun c1 => ?_)
  · have h := h.1 c1
    refine r_iload_n 2 dX11_check_130 rfl rfl ?_
    refine r_iload_n 1 dX11_check_131 rfl rfl ?_
    refine r_icmp_ge (tgt := 141) dX11_check_132 (by decide) (fun c2 => ?_) (fun c2 => ?_)
    · have h := h.1 c2
      refine r_iconst_m1 dX11_check_141 ?_
      exact r_iret dX11_check_142 rfl (Nat.le_refl _) (Nat.le_refl _) ⟨_, _, rfl, rfl, h⟩
    · have h := h.2 c2
      refine r_iconst_3 dX11_check_135 ?_
      refine r_iload_n 2 dX11_check_136 rfl rfl ?_
      refine r_imul dX11_check_137 ?_
      refine r_goto (tgt := 142) dX11_check_138 (by decide) ?_
      exact r_iret dX11_check_142 rfl (Nat.le_refl _) (Nat.le_refl _) ⟨_, _, rfl, rfl, h⟩
  · have h := h.2 c1
    refine r_iconst_0 dX11_check_43 ?_
    refine r_istore [(4, .int (0)), (0, .ref (q 11)), (1, .int (y1)), (2, .int (y2)), (3, .int (y3))] dX11_check_44 (Nat.le_of_ble_eq_true rfl) rfl ?_
    refine r_ls [1, 2, 3, 4, 0] (ls2 := [(0, .ref (q 11)), (1, .int (y1)), (2, .int (y2)), (3, .int (y3)), (4, .int (0))]) rfl ?_
    exact h
set_option maxRecDepth 20000 in
theorem sg_City_check_46 {E : EvT} {q : Nat → Nat} {d : Nat} {S : StX} {P : Int32 → StX → Prop} {y1 : Int32} {y2 : Int32} {y3 : Int32} {y4 : Int32} (h : (8 ≤ y4 → (T_City_check_32 E q (d + 4) P S y1 y2 (y3 + 1))) ∧ (¬ 8 ≤ y4 → (C_Digs_state E q (d + 3) y3 y4 (xs_City_today S) (xs_City_today S) S (fun r2 S3 => (¬ r2 = 0 → ((y1 ≤ y2 → (P ((3 * y2) + 0) S3)) ∧ (¬ y1 ≤ y2 → (C_City_firstWrong E q (d + 3) y2 y3 y4 r2 S3 (fun r7 S8 => (r7 = (-1) → (T_City_check_46 E q (d + 4) P S8 y1 (y2 + 1) y3 (y4 + 1))) ∧ (¬ r7 = (-1) → (P ((3 * y2) + r7) S8))))))) ∧ (r2 = 0 → (T_City_check_46 E q (d + 4) P S3 y1 y2 y3 (y4 + 1))))))) : T_City_check_46 E q (d + 4) P S y1 y2 y3 y4 := by
  refine r_iload 4 dX11_check_46 rfl ?_
  refine r_bipush_8 dX11_check_48 ?_
  refine r_icmp_ge (tgt := 124) dX11_check_50 (by decide) (fun c1 => ?_) (fun c1 => ?_)
  · have h := h.1 c1
    refine r_iinc 3 [(3, .int (y3 + 1)), (0, .ref (q 11)), (1, .int (y1)), (2, .int (y2)), (4, .int (y4))] dX11_check_124 rfl rfl (Nat.le_of_ble_eq_true rfl) rfl ?_
    refine r_goto (tgt := 32) dX11_check_127 (by decide) ?_
    refine r_ls [1, 2, 3, 0] (ls2 := [(0, .ref (q 11)), (1, .int (y1)), (2, .int (y2)), (3, .int (y3 + 1))]) rfl ?_
    exact h
  · have h := h.2 c1
    refine r_aload_n 0 dX11_check_53 rfl rfl ?_
    refine xg_11_28 rfl dX11_check_54 ?_
    refine r_iload_n 3 dX11_check_57 rfl rfl ?_
    refine r_iload 4 dX11_check_58 rfl ?_
    refine r_aload_n 0 dX11_check_60 rfl rfl ?_
    refine xg_11_87 rfl dX11_check_61 ?_
    refine r_aload_n 0 dX11_check_64 rfl rfl ?_
    refine xg_11_87 rfl dX11_check_65 ?_
    refine K11_Digs_state rfl (Nat.le_of_ble_eq_true rfl) dX11_check_68 (mIx h (fun r2 S3 h => ?_))
    refine r_istore [(5, .int (r2)), (0, .ref (q 11)), (1, .int (y1)), (2, .int (y2)), (3, .int (y3)), (4, .int (y4))] dX11_check_71 (Nat.le_of_ble_eq_true rfl) rfl ?_
    refine r_iload 0 dX11_check_73 rfl ?_
    refine r_if_ne (tgt := 81) dX11_check_75 (by decide) (fun c4 => ?_) (fun c4 => ?_)
    · have h := h.1 c4
      refine r_iload_n 3 dX11_check_81 rfl rfl ?_
      refine r_iload_n 2 dX11_check_82 rfl rfl ?_
      refine r_icmp_ge (tgt := 99) dX11_check_83 (by decide) (fun c5 => ?_) (fun c5 => ?_)
      · have h := h.1 c5
        refine r_iconst_0 dX11_check_99 ?_
        refine r_istore [(6, .int (0)), (5, .int (r2)), (0, .ref (q 11)), (1, .int (y1)), (2, .int (y2)), (3, .int (y3)), (4, .int (y4))] dX11_check_100 (Nat.le_of_ble_eq_true rfl) rfl ?_
        refine r_iload 0 dX11_check_102 rfl ?_
        refine r_iconst_m1 dX11_check_104 ?_
        refine r_icmp_eq (tgt := 115) dX11_check_105 (by decide) (fun z => absurd z (by decide)) (fun _ => ?_)
        refine r_iconst_3 dX11_check_108 ?_
        refine r_iload_n 4 dX11_check_109 rfl rfl ?_
        refine r_imul dX11_check_110 ?_
        refine r_iload 0 dX11_check_111 rfl ?_
        refine r_iadd dX11_check_113 ?_
        exact r_iret dX11_check_114 rfl (Nat.le_refl _) (Nat.le_refl _) ⟨_, _, rfl, rfl, h⟩
      · have h := h.2 c5
        refine r_aload_n 1 dX11_check_86 rfl rfl ?_
        refine r_iload_n 3 dX11_check_87 rfl rfl ?_
        refine r_iload_n 4 dX11_check_88 rfl rfl ?_
        refine r_iload 5 dX11_check_89 rfl ?_
        refine r_iload 0 dX11_check_91 rfl ?_
        refine K11_City_firstWrong rfl (Nat.le_of_ble_eq_true rfl) dX11_check_93 (mIx h (fun r7 S8 h => ?_))
        refine r_goto (tgt := 100) dX11_check_96 (by decide) ?_
        refine r_istore [(6, .int (r7)), (5, .int (r2)), (0, .ref (q 11)), (1, .int (y1)), (2, .int (y2)), (3, .int (y3)), (4, .int (y4))] dX11_check_100 (Nat.le_of_ble_eq_true rfl) rfl ?_
        refine r_iload 0 dX11_check_102 rfl ?_
        refine r_iconst_m1 dX11_check_104 ?_
        refine r_icmp_eq (tgt := 115) dX11_check_105 (by decide) (fun c9 => ?_) (fun c9 => ?_)
        · have h := h.1 c9
          refine r_iinc 4 [(2, .int (y2 + 1)), (6, .int (r7)), (5, .int (r2)), (0, .ref (q 11)), (1, .int (y1)), (3, .int (y3)), (4, .int (y4))] dX11_check_115 rfl rfl (Nat.le_of_ble_eq_true rfl) rfl ?_
          refine r_iinc 6 [(4, .int (y4 + 1)), (2, .int (y2 + 1)), (6, .int (r7)), (5, .int (r2)), (0, .ref (q 11)), (1, .int (y1)), (3, .int (y3))] dX11_check_118 rfl rfl (Nat.le_of_ble_eq_true rfl) rfl ?_
          refine r_goto (tgt := 46) dX11_check_121 (by decide) ?_
          refine r_ls [4, 5, 1, 6, 0] (ls2 := [(0, .ref (q 11)), (1, .int (y1)), (2, .int (y2 + 1)), (3, .int (y3)), (4, .int (y4 + 1))]) rfl ?_
          exact h
        · have h := h.2 c9
          refine r_iconst_3 dX11_check_108 ?_
          refine r_iload_n 4 dX11_check_109 rfl rfl ?_
          refine r_imul dX11_check_110 ?_
          refine r_iload 0 dX11_check_111 rfl ?_
          refine r_iadd dX11_check_113 ?_
          exact r_iret dX11_check_114 rfl (Nat.le_refl _) (Nat.le_refl _) ⟨_, _, rfl, rfl, h⟩
    · have h := h.2 c4
      refine r_goto (tgt := 118) dX11_check_78 (by decide) ?_
      refine r_iinc 5 [(4, .int (y4 + 1)), (5, .int (r2)), (0, .ref (q 11)), (1, .int (y1)), (2, .int (y2)), (3, .int (y3))] dX11_check_118 rfl rfl (Nat.le_of_ble_eq_true rfl) rfl ?_
      refine r_goto (tgt := 46) dX11_check_121 (by decide) ?_
      refine r_ls [2, 3, 4, 5, 0] (ls2 := [(0, .ref (q 11)), (1, .int (y1)), (2, .int (y2)), (3, .int (y3)), (4, .int (y4 + 1))]) rfl ?_
      exact h
set_option maxRecDepth 20000 in
theorem en_City_count {E : EvT} {q : Nat → Nat} {d : Nat} {x1 : Int32} {S : StX} {P : Int32 → StX → Prop} (h : C_Book_size E q (d + 4) S (fun r1 S2 => ((mIn x1 20 ((20 + r1) - 1)) = false → ((x1 = 0 → (P (xs_City_today S2) S2)) ∧ (¬ x1 = 0 → ((x1 = 1 → (P (xs_Plan_width S2) S2)) ∧ (¬ x1 = 1 → ((x1 = 2 → (P (xs_Plan_height S2) S2)) ∧ (¬ x1 = 2 → ((x1 = 3 → (P (xs_Plan_places S2) S2)) ∧ (¬ x1 = 3 → ((x1 = 4 → (P (xs_Digs_size S2) S2)) ∧ (¬ x1 = 4 → ((x1 = 5 → (C_Book_size E q (d + 4) S2 (fun r10 S11 => P r10 S11))) ∧ (¬ x1 = 5 → ((x1 = 6 → (P (xs_Finds_size S2) S2)) ∧ (¬ x1 = 6 → ((x1 = 7 → (P (xs_Mus_things S2) S2)) ∧ (¬ x1 = 7 → (C_City_countLater E q (d + 4) x1 S2 (fun r14 S15 => P r14 S15))))))))))))))))))) ∧ ((mIn x1 20 ((20 + r1) - 1)) = true → (C_Book_clauses E q (d + 4) (x1 - 20) S2 (fun r16 S17 => P r16 S17))))) : C_City_count E q (d + 5) x1 S P := by
  refine Cn.of rfl (Nat.le_of_ble_eq_true rfl) (ls := [(0, .ref (q 11)), (1, .int (x1))]) rfl ?_
  refine r_iload_n 1 dX11_count_0 rfl rfl ?_
  refine r_bipush_20 dX11_count_1 ?_
  refine r_bipush_20 dX11_count_3 ?_
  refine r_aload_n 0 dX11_count_5 rfl rfl ?_
  refine xg_11_42 rfl dX11_count_6 ?_
  refine K11_Book_size rfl (Nat.le_of_ble_eq_true rfl) dX11_count_9 (mIx h (fun r1 S2 h => ?_))
  refine r_iadd dX11_count_12 ?_
  refine r_iconst_1 dX11_count_13 ?_
  refine r_isub dX11_count_14 ?_
  refine KP11_City_within (d := d + 4)  rfl (Nat.le_of_ble_eq_true rfl) dX11_count_15 ?_
  refine r_if_eqb (tgt := 33) dX11_count_18 (by decide) (fun c3 => ?_) (fun c3 => ?_)
  · have h := h.1 c3
    refine r_iload_n 1 dX11_count_33 rfl rfl ?_
    by_cases c4 : x1 = 0
    · have h := h.1 c4
      refine r_tableIn (tgt := 80) dX11_count_34 (by rw [c4]; decide) (by rw [c4]; decide) (by rw [c4]; rfl) (by decide) ?_
      refine r_aload_n 0 dX11_count_80 rfl rfl ?_
      refine xg_11_87 rfl dX11_count_81 ?_
      exact r_iret dX11_count_84 rfl (Nat.le_refl _) (Nat.le_refl _) ⟨_, _, rfl, rfl, h⟩
    · have h := h.2 c4
      by_cases c5 : x1 = 1
      · have h := h.1 c5
        refine r_tableIn (tgt := 85) dX11_count_34 (by rw [c5]; decide) (by rw [c5]; decide) (by rw [c5]; rfl) (by decide) ?_
        refine r_aload_n 0 dX11_count_85 rfl rfl ?_
        refine xg_11_19 rfl dX11_count_86 ?_
        refine xg_11_396 rfl dX11_count_89 ?_
        exact r_iret dX11_count_92 rfl (Nat.le_refl _) (Nat.le_refl _) ⟨_, _, rfl, rfl, h⟩
      · have h := h.2 c5
        by_cases c6 : x1 = 2
        · have h := h.1 c6
          refine r_tableIn (tgt := 93) dX11_count_34 (by rw [c6]; decide) (by rw [c6]; decide) (by rw [c6]; rfl) (by decide) ?_
          refine r_aload_n 0 dX11_count_93 rfl rfl ?_
          refine xg_11_19 rfl dX11_count_94 ?_
          refine xg_11_399 rfl dX11_count_97 ?_
          exact r_iret dX11_count_100 rfl (Nat.le_refl _) (Nat.le_refl _) ⟨_, _, rfl, rfl, h⟩
        · have h := h.2 c6
          by_cases c7 : x1 = 3
          · have h := h.1 c7
            refine r_tableIn (tgt := 101) dX11_count_34 (by rw [c7]; decide) (by rw [c7]; decide) (by rw [c7]; rfl) (by decide) ?_
            refine r_aload_n 0 dX11_count_101 rfl rfl ?_
            refine xg_11_19 rfl dX11_count_102 ?_
            refine xg_11_95 rfl dX11_count_105 ?_
            exact r_iret dX11_count_108 rfl (Nat.le_refl _) (Nat.le_refl _) ⟨_, _, rfl, rfl, h⟩
          · have h := h.2 c7
            by_cases c8 : x1 = 4
            · have h := h.1 c8
              refine r_tableIn (tgt := 109) dX11_count_34 (by rw [c8]; decide) (by rw [c8]; decide) (by rw [c8]; rfl) (by decide) ?_
              refine r_aload_n 0 dX11_count_109 rfl rfl ?_
              refine xg_11_28 rfl dX11_count_110 ?_
              refine xg_11_98 rfl dX11_count_113 ?_
              exact r_iret dX11_count_116 rfl (Nat.le_refl _) (Nat.le_refl _) ⟨_, _, rfl, rfl, h⟩
            · have h := h.2 c8
              by_cases c9 : x1 = 5
              · have h := h.1 c9
                refine r_tableIn (tgt := 117) dX11_count_34 (by rw [c9]; decide) (by rw [c9]; decide) (by rw [c9]; rfl) (by decide) ?_
                refine r_aload_n 0 dX11_count_117 rfl rfl ?_
                refine xg_11_42 rfl dX11_count_118 ?_
                refine K11_Book_size rfl (Nat.le_of_ble_eq_true rfl) dX11_count_121 (mIx h (fun r10 S11 h => ?_))
                exact r_iret dX11_count_124 rfl (Nat.le_refl _) (Nat.le_refl _) ⟨_, _, rfl, rfl, h⟩
              · have h := h.2 c9
                by_cases c12 : x1 = 6
                · have h := h.1 c12
                  refine r_tableIn (tgt := 125) dX11_count_34 (by rw [c12]; decide) (by rw [c12]; decide) (by rw [c12]; rfl) (by decide) ?_
                  refine r_aload_n 0 dX11_count_125 rfl rfl ?_
                  refine xg_11_51 rfl dX11_count_126 ?_
                  refine xg_11_229 rfl dX11_count_129 ?_
                  exact r_iret dX11_count_132 rfl (Nat.le_refl _) (Nat.le_refl _) ⟨_, _, rfl, rfl, h⟩
                · have h := h.2 c12
                  by_cases c13 : x1 = 7
                  · have h := h.1 c13
                    refine r_tableIn (tgt := 133) dX11_count_34 (by rw [c13]; decide) (by rw [c13]; decide) (by rw [c13]; rfl) (by decide) ?_
                    refine r_aload_n 0 dX11_count_133 rfl rfl ?_
                    refine xg_11_60 rfl dX11_count_134 ?_
                    refine xg_11_259 rfl dX11_count_137 ?_
                    exact r_iret dX11_count_140 rfl (Nat.le_refl _) (Nat.le_refl _) ⟨_, _, rfl, rfl, h⟩
                  · have h := h.2 c13
                    refine r_tableOut (tgt := 141) dX11_count_34 (by have e0 : (x1).toInt ≠ 0 := sw_ne c4; have e1 : (x1).toInt ≠ 1 := sw_ne c5; have e2 : (x1).toInt ≠ 2 := sw_ne c6; have e3 : (x1).toInt ≠ 3 := sw_ne c7; have e4 : (x1).toInt ≠ 4 := sw_ne c8; have e5 : (x1).toInt ≠ 5 := sw_ne c9; have e6 : (x1).toInt ≠ 6 := sw_ne c12; have e7 : (x1).toInt ≠ 7 := sw_ne c13; omega) (by decide) ?_
                    refine r_aload_n 0 dX11_count_141 rfl rfl ?_
                    refine r_iload_n 1 dX11_count_142 rfl rfl ?_
                    refine K11_City_countLater rfl (Nat.le_of_ble_eq_true rfl) dX11_count_143 (mIx h (fun r14 S15 h => ?_))
                    exact r_iret dX11_count_146 rfl (Nat.le_refl _) (Nat.le_refl _) ⟨_, _, rfl, rfl, h⟩
  · have h := h.2 c3
    refine r_aload_n 0 dX11_count_21 rfl rfl ?_
    refine xg_11_42 rfl dX11_count_22 ?_
    refine r_iload_n 1 dX11_count_25 rfl rfl ?_
    refine r_bipush_20 dX11_count_26 ?_
    refine r_isub dX11_count_28 ?_
    refine K11_Book_clauses rfl (Nat.le_of_ble_eq_true rfl) dX11_count_29 (mIx h (fun r16 S17 h => ?_))
    exact r_iret dX11_count_32 rfl (Nat.le_refl _) (Nat.le_refl _) ⟨_, _, rfl, rfl, h⟩
set_option maxRecDepth 20000 in
theorem en_City_countLater {E : EvT} {q : Nat → Nat} {d : Nat} {x1 : Int32} {S : StX} {P : Int32 → StX → Prop} (h : (x1 = 8 → (P (xs_Wall_size S) S)) ∧ (¬ x1 = 8 → ((x1 = 9 → (P (xs_Wall_drawings S) S)) ∧ (¬ x1 = 9 → ((x1 = 10 → (P (xs_Fall_cuts S) S)) ∧ (¬ x1 = 10 → ((x1 = 11 → (P (xs_Fall_hollows S) S)) ∧ (¬ x1 = 11 → ((x1 = 12 → (P (xs_Sign_size S) S)) ∧ (¬ x1 = 12 → ((x1 = 13 → (P (xs_Wall_works S) S)) ∧ (¬ x1 = 13 → ((x1 = 14 → (P (xs_Tape_length S) S)) ∧ (¬ x1 = 14 → ((x1 = 15 → (P (xs_Plan_tellings S) S)) ∧ (¬ x1 = 15 → (P (-1) S))))))))))))))))) : C_City_countLater E q d x1 S P := by
  refine Cn.of rfl (Nat.le_of_ble_eq_true rfl) (ls := [(0, .ref (q 11)), (1, .int (x1))]) rfl ?_
  refine r_iload_n 1 dX11_countLater_0 rfl rfl ?_
  by_cases c1 : x1 = 8
  · have h := h.1 c1
    refine r_tableIn (tgt := 48) dX11_countLater_1 (by rw [c1]; decide) (by rw [c1]; decide) (by rw [c1]; rfl) (by decide) ?_
    refine r_aload_n 0 dX11_countLater_48 rfl rfl ?_
    refine xg_11_67 rfl dX11_countLater_49 ?_
    refine xg_11_295 rfl dX11_countLater_52 ?_
    exact r_iret dX11_countLater_55 rfl (Nat.le_refl _) (Nat.le_refl _) ⟨_, _, rfl, rfl, h⟩
  · have h := h.2 c1
    by_cases c2 : x1 = 9
    · have h := h.1 c2
      refine r_tableIn (tgt := 56) dX11_countLater_1 (by rw [c2]; decide) (by rw [c2]; decide) (by rw [c2]; rfl) (by decide) ?_
      refine r_aload_n 0 dX11_countLater_56 rfl rfl ?_
      refine xg_11_67 rfl dX11_countLater_57 ?_
      refine xg_11_301 rfl dX11_countLater_60 ?_
      exact r_iret dX11_countLater_63 rfl (Nat.le_refl _) (Nat.le_refl _) ⟨_, _, rfl, rfl, h⟩
    · have h := h.2 c2
      by_cases c3 : x1 = 10
      · have h := h.1 c3
        refine r_tableIn (tgt := 64) dX11_countLater_1 (by rw [c3]; decide) (by rw [c3]; decide) (by rw [c3]; rfl) (by decide) ?_
        refine r_aload_n 0 dX11_countLater_64 rfl rfl ?_
        refine xg_11_74 rfl dX11_countLater_65 ?_
        refine xg_11_335 rfl dX11_countLater_68 ?_
        exact r_iret dX11_countLater_71 rfl (Nat.le_refl _) (Nat.le_refl _) ⟨_, _, rfl, rfl, h⟩
      · have h := h.2 c3
        by_cases c4 : x1 = 11
        · have h := h.1 c4
          refine r_tableIn (tgt := 72) dX11_countLater_1 (by rw [c4]; decide) (by rw [c4]; decide) (by rw [c4]; rfl) (by decide) ?_
          refine r_aload_n 0 dX11_countLater_72 rfl rfl ?_
          refine xg_11_74 rfl dX11_countLater_73 ?_
          refine xg_11_101 rfl dX11_countLater_76 ?_
          exact r_iret dX11_countLater_79 rfl (Nat.le_refl _) (Nat.le_refl _) ⟨_, _, rfl, rfl, h⟩
        · have h := h.2 c4
          by_cases c5 : x1 = 12
          · have h := h.1 c5
            refine r_tableIn (tgt := 80) dX11_countLater_1 (by rw [c5]; decide) (by rw [c5]; decide) (by rw [c5]; rfl) (by decide) ?_
            refine r_aload_n 0 dX11_countLater_80 rfl rfl ?_
            refine xg_11_83 rfl dX11_countLater_81 ?_
            refine xg_11_359 rfl dX11_countLater_84 ?_
            exact r_iret dX11_countLater_87 rfl (Nat.le_refl _) (Nat.le_refl _) ⟨_, _, rfl, rfl, h⟩
          · have h := h.2 c5
            by_cases c6 : x1 = 13
            · have h := h.1 c6
              refine r_tableIn (tgt := 88) dX11_countLater_1 (by rw [c6]; decide) (by rw [c6]; decide) (by rw [c6]; rfl) (by decide) ?_
              refine r_aload_n 0 dX11_countLater_88 rfl rfl ?_
              refine xg_11_67 rfl dX11_countLater_89 ?_
              refine xg_11_374 rfl dX11_countLater_92 ?_
              exact r_iret dX11_countLater_95 rfl (Nat.le_refl _) (Nat.le_refl _) ⟨_, _, rfl, rfl, h⟩
            · have h := h.2 c6
              by_cases c7 : x1 = 14
              · have h := h.1 c7
                refine r_tableIn (tgt := 96) dX11_countLater_1 (by rw [c7]; decide) (by rw [c7]; decide) (by rw [c7]; rfl) (by decide) ?_
                refine r_aload_n 0 dX11_countLater_96 rfl rfl ?_
                refine xg_11_10 rfl dX11_countLater_97 ?_
                refine xg_11_182 rfl dX11_countLater_100 ?_
                exact r_iret dX11_countLater_103 rfl (Nat.le_refl _) (Nat.le_refl _) ⟨_, _, rfl, rfl, h⟩
              · have h := h.2 c7
                by_cases c8 : x1 = 15
                · have h := h.1 c8
                  refine r_tableIn (tgt := 104) dX11_countLater_1 (by rw [c8]; decide) (by rw [c8]; decide) (by rw [c8]; rfl) (by decide) ?_
                  refine r_aload_n 0 dX11_countLater_104 rfl rfl ?_
                  refine xg_11_19 rfl dX11_countLater_105 ?_
                  refine xg_11_172 rfl dX11_countLater_108 ?_
                  exact r_iret dX11_countLater_111 rfl (Nat.le_refl _) (Nat.le_refl _) ⟨_, _, rfl, rfl, h⟩
                · have h := h.2 c8
                  refine r_tableOut (tgt := 112) dX11_countLater_1 (by have e0 : (x1).toInt ≠ 8 := sw_ne c1; have e1 : (x1).toInt ≠ 9 := sw_ne c2; have e2 : (x1).toInt ≠ 10 := sw_ne c3; have e3 : (x1).toInt ≠ 11 := sw_ne c4; have e4 : (x1).toInt ≠ 12 := sw_ne c5; have e5 : (x1).toInt ≠ 13 := sw_ne c6; have e6 : (x1).toInt ≠ 14 := sw_ne c7; have e7 : (x1).toInt ≠ 15 := sw_ne c8; omega) (by decide) ?_
                  refine r_iconst_m1 dX11_countLater_112 ?_
                  exact r_iret dX11_countLater_113 rfl (Nat.le_refl _) (Nat.le_refl _) ⟨_, _, rfl, rfl, h⟩
set_option maxRecDepth 20000 in
theorem en_City_firstWrong {E : EvT} {q : Nat → Nat} {d : Nat} {x1 : Int32} {x2 : Int32} {x3 : Int32} {x4 : Int32} {S : StX} {P : Int32 → StX → Prop} (h : C_Tape_whole E q d (3 * x1) S (fun r1 S2 => (r1 = x2 → (C_Tape_whole E q d ((3 * x1) + 1) S2 (fun r4 S5 => (r4 = x3 → (C_Tape_whole E q d ((3 * x1) + 2) S5 (fun r7 S8 => (r7 = x4 → (P (-1) S8)) ∧ (¬ r7 = x4 → (P 2 S8))))) ∧ (¬ r4 = x3 → (P 1 S5))))) ∧ (¬ r1 = x2 → (P 0 S2)))) : C_City_firstWrong E q (d + 1) x1 x2 x3 x4 S P := by
  refine Cn.of rfl (Nat.le_of_ble_eq_true rfl) (ls := [(0, .ref (q 11)), (1, .int (x1)), (2, .int (x2)), (3, .int (x3)), (4, .int (x4))]) rfl ?_
  refine r_aload_n 0 dX11_firstWrong_0 rfl rfl ?_
  refine xg_11_10 rfl dX11_firstWrong_1 ?_
  refine r_iconst_3 dX11_firstWrong_4 ?_
  refine r_iload_n 1 dX11_firstWrong_5 rfl rfl ?_
  refine r_imul dX11_firstWrong_6 ?_
  refine K11_Tape_whole rfl (Nat.le_of_ble_eq_true rfl) dX11_firstWrong_7 (mIx h (fun r1 S2 h => ?_))
  refine r_iload_n 2 dX11_firstWrong_10 rfl rfl ?_
  refine r_icmp_eq (tgt := 16) dX11_firstWrong_11 (by decide) (fun c3 => ?_) (fun c3 => ?_)
  · have h := h.1 c3
    refine r_aload_n 0 dX11_firstWrong_16 rfl rfl ?_
    refine xg_11_10 rfl dX11_firstWrong_17 ?_
    refine r_iconst_3 dX11_firstWrong_20 ?_
    refine r_iload_n 1 dX11_firstWrong_21 rfl rfl ?_
    refine r_imul dX11_firstWrong_22 ?_
    refine r_iconst_1 dX11_firstWrong_23 ?_
    refine r_iadd dX11_firstWrong_24 ?_
    refine K11_Tape_whole rfl (Nat.le_of_ble_eq_true rfl) dX11_firstWrong_25 (mIx h (fun r4 S5 h => ?_))
    refine r_iload_n 3 dX11_firstWrong_28 rfl rfl ?_
    refine r_icmp_eq (tgt := 34) dX11_firstWrong_29 (by decide) (fun c6 => ?_) (fun c6 => ?_)
    · have h := h.1 c6
      refine r_aload_n 0 dX11_firstWrong_34 rfl rfl ?_
      refine xg_11_10 rfl dX11_firstWrong_35 ?_
      refine r_iconst_3 dX11_firstWrong_38 ?_
      refine r_iload_n 1 dX11_firstWrong_39 rfl rfl ?_
      refine r_imul dX11_firstWrong_40 ?_
      refine r_iconst_2 dX11_firstWrong_41 ?_
      refine r_iadd dX11_firstWrong_42 ?_
      refine K11_Tape_whole rfl (Nat.le_of_ble_eq_true rfl) dX11_firstWrong_43 (mIx h (fun r7 S8 h => ?_))
      refine r_iload 4 dX11_firstWrong_46 rfl ?_
      refine r_icmp_eq (tgt := 55) dX11_firstWrong_48 (by decide) (fun c9 => ?_) (fun c9 => ?_)
      · have h := h.1 c9
        refine r_iconst_m1 dX11_firstWrong_55 ?_
        exact r_iret dX11_firstWrong_56 rfl (Nat.le_refl _) (Nat.le_refl _) ⟨_, _, rfl, rfl, h⟩
      · have h := h.2 c9
        refine r_iconst_2 dX11_firstWrong_51 ?_
        refine r_goto (tgt := 56) dX11_firstWrong_52 (by decide) ?_
        exact r_iret dX11_firstWrong_56 rfl (Nat.le_refl _) (Nat.le_refl _) ⟨_, _, rfl, rfl, h⟩
    · have h := h.2 c6
      refine r_iconst_1 dX11_firstWrong_32 ?_
      exact r_iret dX11_firstWrong_33 rfl (Nat.le_refl _) (Nat.le_refl _) ⟨_, _, rfl, rfl, h⟩
  · have h := h.2 c3
    refine r_iconst_0 dX11_firstWrong_14 ?_
    exact r_iret dX11_firstWrong_15 rfl (Nat.le_refl _) (Nat.le_refl _) ⟨_, _, rfl, rfl, h⟩
set_option maxRecDepth 20000 in
theorem en_Jntz {E : EvT} {q : Nat → Nat} {d : Nat} {x0 : Int32} {S : StX} {P : Int32 → StX → Prop} (h : (0 < ((x0 ^^^ (-1)) &&& (x0 - 1)) → ((((x0 ^^^ (-1)) &&& (x0 - 1)) ≤ 65536 → ((((x0 ^^^ (-1)) &&& (x0 - 1)) ≤ 256 → ((((x0 ^^^ (-1)) &&& (x0 - 1)) ≤ 16 → ((((x0 ^^^ (-1)) &&& (x0 - 1)) ≤ 4 → (P (1 + ((((x0 ^^^ (-1)) &&& (x0 - 1)).toUInt32 >>> ((1 : Int32).toUInt32 &&& Int32.toUInt32 31)).toInt32)) S)) ∧ (¬ ((x0 ^^^ (-1)) &&& (x0 - 1)) ≤ 4 → (∀ v6, v6 = (((x0 ^^^ (-1)) &&& (x0 - 1)).toUInt32 >>> ((2 : Int32).toUInt32 &&& Int32.toUInt32 31)).toInt32 → (P ((1 + 2) + ((v6.toUInt32 >>> ((1 : Int32).toUInt32 &&& Int32.toUInt32 31)).toInt32)) S))))) ∧ (¬ ((x0 ^^^ (-1)) &&& (x0 - 1)) ≤ 16 → (∀ v7, v7 = (((x0 ^^^ (-1)) &&& (x0 - 1)).toUInt32 >>> ((4 : Int32).toUInt32 &&& Int32.toUInt32 31)).toInt32 → ((v7 ≤ 4 → (P ((1 + 4) + ((v7.toUInt32 >>> ((1 : Int32).toUInt32 &&& Int32.toUInt32 31)).toInt32)) S)) ∧ (¬ v7 ≤ 4 → (P (((1 + 4) + 2) + ((((v7.toUInt32 >>> ((2 : Int32).toUInt32 &&& Int32.toUInt32 31)).toInt32).toUInt32 >>> ((1 : Int32).toUInt32 &&& Int32.toUInt32 31)).toInt32)) S))))))) ∧ (¬ ((x0 ^^^ (-1)) &&& (x0 - 1)) ≤ 256 → (∀ v9, v9 = (((x0 ^^^ (-1)) &&& (x0 - 1)).toUInt32 >>> ((8 : Int32).toUInt32 &&& Int32.toUInt32 31)).toInt32 → ((v9 ≤ 16 → ((v9 ≤ 4 → (P ((1 + 8) + ((v9.toUInt32 >>> ((1 : Int32).toUInt32 &&& Int32.toUInt32 31)).toInt32)) S)) ∧ (¬ v9 ≤ 4 → (P (((1 + 8) + 2) + ((((v9.toUInt32 >>> ((2 : Int32).toUInt32 &&& Int32.toUInt32 31)).toInt32).toUInt32 >>> ((1 : Int32).toUInt32 &&& Int32.toUInt32 31)).toInt32)) S)))) ∧ (¬ v9 ≤ 16 → ((((v9.toUInt32 >>> ((4 : Int32).toUInt32 &&& Int32.toUInt32 31)).toInt32) ≤ 4 → (P (((1 + 8) + 4) + ((((v9.toUInt32 >>> ((4 : Int32).toUInt32 &&& Int32.toUInt32 31)).toInt32).toUInt32 >>> ((1 : Int32).toUInt32 &&& Int32.toUInt32 31)).toInt32)) S)) ∧ (¬ ((v9.toUInt32 >>> ((4 : Int32).toUInt32 &&& Int32.toUInt32 31)).toInt32) ≤ 4 → (∀ v13, v13 = (((v9.toUInt32 >>> ((4 : Int32).toUInt32 &&& Int32.toUInt32 31)).toInt32).toUInt32 >>> ((2 : Int32).toUInt32 &&& Int32.toUInt32 31)).toInt32 → (P ((((1 + 8) + 4) + 2) + ((v13.toUInt32 >>> ((1 : Int32).toUInt32 &&& Int32.toUInt32 31)).toInt32)) S)))))))))) ∧ (¬ ((x0 ^^^ (-1)) &&& (x0 - 1)) ≤ 65536 → (∀ v14, v14 = (((x0 ^^^ (-1)) &&& (x0 - 1)).toUInt32 >>> ((16 : Int32).toUInt32 &&& Int32.toUInt32 31)).toInt32 → ((v14 ≤ 256 → ((v14 ≤ 16 → ((v14 ≤ 4 → (P ((1 + 16) + ((v14.toUInt32 >>> ((1 : Int32).toUInt32 &&& Int32.toUInt32 31)).toInt32)) S)) ∧ (¬ v14 ≤ 4 → (∀ v18, v18 = (v14.toUInt32 >>> ((2 : Int32).toUInt32 &&& Int32.toUInt32 31)).toInt32 → (P (((1 + 16) + 2) + ((v18.toUInt32 >>> ((1 : Int32).toUInt32 &&& Int32.toUInt32 31)).toInt32)) S))))) ∧ (¬ v14 ≤ 16 → (∀ v19, v19 = (v14.toUInt32 >>> ((4 : Int32).toUInt32 &&& Int32.toUInt32 31)).toInt32 → ((v19 ≤ 4 → (P (((1 + 16) + 4) + ((v19.toUInt32 >>> ((1 : Int32).toUInt32 &&& Int32.toUInt32 31)).toInt32)) S)) ∧ (¬ v19 ≤ 4 → (∀ v21, v21 = (v19.toUInt32 >>> ((2 : Int32).toUInt32 &&& Int32.toUInt32 31)).toInt32 → (P ((((1 + 16) + 4) + 2) + ((v21.toUInt32 >>> ((1 : Int32).toUInt32 &&& Int32.toUInt32 31)).toInt32)) S)))))))) ∧ (¬ v14 ≤ 256 → (∀ v22, v22 = (v14.toUInt32 >>> ((8 : Int32).toUInt32 &&& Int32.toUInt32 31)).toInt32 → ((v22 ≤ 16 → ((v22 ≤ 4 → (P (((1 + 16) + 8) + ((v22.toUInt32 >>> ((1 : Int32).toUInt32 &&& Int32.toUInt32 31)).toInt32)) S)) ∧ (¬ v22 ≤ 4 → (∀ v25, v25 = (v22.toUInt32 >>> ((2 : Int32).toUInt32 &&& Int32.toUInt32 31)).toInt32 → (P ((((1 + 16) + 8) + 2) + ((v25.toUInt32 >>> ((1 : Int32).toUInt32 &&& Int32.toUInt32 31)).toInt32)) S))))) ∧ (¬ v22 ≤ 16 → (∀ v26, v26 = (v22.toUInt32 >>> ((4 : Int32).toUInt32 &&& Int32.toUInt32 31)).toInt32 → ((v26 ≤ 4 → (P ((((1 + 16) + 8) + 4) + ((v26.toUInt32 >>> ((1 : Int32).toUInt32 &&& Int32.toUInt32 31)).toInt32)) S)) ∧ (¬ v26 ≤ 4 → (∀ v28, v28 = (v26.toUInt32 >>> ((2 : Int32).toUInt32 &&& Int32.toUInt32 31)).toInt32 → (P (((((1 + 16) + 8) + 4) + 2) + ((v28.toUInt32 >>> ((1 : Int32).toUInt32 &&& Int32.toUInt32 31)).toInt32)) S)))))))))))))) ∧ (¬ 0 < ((x0 ^^^ (-1)) &&& (x0 - 1)) → (P (((x0 ^^^ (-1)) &&& (x0 - 1)) &&& 32) S))) : C_Jntz E q d x0 S P := by
  refine Cn.of rfl (Nat.le_of_ble_eq_true rfl) (ls := [(0, .int (x0))]) rfl ?_
  refine r_iload_n 0 dJ6_numberOfTrailingZeros_0f7a4_0 rfl rfl ?_
  refine r_iconst_m1 dJ6_numberOfTrailingZeros_0f7a4_1 ?_
  refine r_ixor dJ6_numberOfTrailingZeros_0f7a4_2 ?_
  refine r_iload_n 0 dJ6_numberOfTrailingZeros_0f7a4_3 rfl rfl ?_
  refine r_iconst_1 dJ6_numberOfTrailingZeros_0f7a4_4 ?_
  refine r_isub dJ6_numberOfTrailingZeros_0f7a4_5 ?_
  refine r_iand dJ6_numberOfTrailingZeros_0f7a4_6 ?_
  refine r_istore_n [(0, .int ((x0 ^^^ (-1)) &&& (x0 - 1)))] dJ6_numberOfTrailingZeros_0f7a4_7 rfl (Nat.le_of_ble_eq_true rfl) rfl ?_
  refine r_iload_n 0 dJ6_numberOfTrailingZeros_0f7a4_8 rfl rfl ?_
  refine r_if_gt (tgt := 17) dJ6_numberOfTrailingZeros_0f7a4_9 (by decide) (fun c1 => ?_) (fun c1 => ?_)
  · have h := h.1 c1
    refine r_iconst_1 dJ6_numberOfTrailingZeros_0f7a4_17 ?_
    refine r_istore_n [(1, .int (1)), (0, .int ((x0 ^^^ (-1)) &&& (x0 - 1)))] dJ6_numberOfTrailingZeros_0f7a4_18 rfl (Nat.le_of_ble_eq_true rfl) rfl ?_
    refine r_iload_n 1 dJ6_numberOfTrailingZeros_0f7a4_19 rfl rfl ?_
    refine r_ldcw w3_161 dJ6_numberOfTrailingZeros_0f7a4_20 ?_
    refine r_icmp_le (tgt := 34) dJ6_numberOfTrailingZeros_0f7a4_23 (by decide) (fun c2 => ?_) (fun c2 => ?_)
    · have h := h.1 c2
      refine r_iload_n 1 dJ6_numberOfTrailingZeros_0f7a4_34 rfl rfl ?_
      refine r_sipush_256 dJ6_numberOfTrailingZeros_0f7a4_35 ?_
      refine r_icmp_le (tgt := 49) dJ6_numberOfTrailingZeros_0f7a4_38 (by decide) (fun c3 => ?_) (fun c3 => ?_)
      · have h := h.1 c3
        refine r_iload_n 1 dJ6_numberOfTrailingZeros_0f7a4_49 rfl rfl ?_
        refine r_bipush_16 dJ6_numberOfTrailingZeros_0f7a4_50 ?_
        refine r_icmp_le (tgt := 62) dJ6_numberOfTrailingZeros_0f7a4_52 (by decide) (fun c4 => ?_) (fun c4 => ?_)
        · have h := h.1 c4
          refine r_iload_n 1 dJ6_numberOfTrailingZeros_0f7a4_62 rfl rfl ?_
          refine r_iconst_4 dJ6_numberOfTrailingZeros_0f7a4_63 ?_
          refine r_icmp_le (tgt := 74) dJ6_numberOfTrailingZeros_0f7a4_64 (by decide) (fun c5 => ?_) (fun c5 => ?_)
          · have h := h.1 c5
            refine r_iload_n 0 dJ6_numberOfTrailingZeros_0f7a4_74 rfl rfl ?_
            refine r_iload_n 1 dJ6_numberOfTrailingZeros_0f7a4_75 rfl rfl ?_
            refine r_iconst_1 dJ6_numberOfTrailingZeros_0f7a4_76 ?_
            refine r_iushr dJ6_numberOfTrailingZeros_0f7a4_77 ?_
            refine r_iadd dJ6_numberOfTrailingZeros_0f7a4_78 ?_
            exact r_iret dJ6_numberOfTrailingZeros_0f7a4_79 rfl (Nat.le_refl _) (Nat.le_refl _) ⟨_, _, rfl, rfl, h⟩
          · have h := h.2 c5
            refine r_iinc 0 [(1, .int (1 + 2)), (0, .int ((x0 ^^^ (-1)) &&& (x0 - 1)))] dJ6_numberOfTrailingZeros_0f7a4_67 rfl rfl (Nat.le_of_ble_eq_true rfl) rfl ?_
            refine r_iload_n 1 dJ6_numberOfTrailingZeros_0f7a4_70 rfl rfl ?_
            refine r_iconst_2 dJ6_numberOfTrailingZeros_0f7a4_71 ?_
            refine r_iushr dJ6_numberOfTrailingZeros_0f7a4_72 ?_
            refine r_nm (fun v6 ev6 => ?_)
            have h := h v6 ev6
            refine r_istore_n [(0, .int (v6)), (1, .int (1 + 2))] dJ6_numberOfTrailingZeros_0f7a4_73 rfl (Nat.le_of_ble_eq_true rfl) rfl ?_
            refine r_iload_n 1 dJ6_numberOfTrailingZeros_0f7a4_74 rfl rfl ?_
            refine r_iload_n 0 dJ6_numberOfTrailingZeros_0f7a4_75 rfl rfl ?_
            refine r_iconst_1 dJ6_numberOfTrailingZeros_0f7a4_76 ?_
            refine r_iushr dJ6_numberOfTrailingZeros_0f7a4_77 ?_
            refine r_iadd dJ6_numberOfTrailingZeros_0f7a4_78 ?_
            exact r_iret dJ6_numberOfTrailingZeros_0f7a4_79 rfl (Nat.le_refl _) (Nat.le_refl _) ⟨_, _, rfl, rfl, h⟩
        · have h := h.2 c4
          refine r_iinc 0 [(1, .int (1 + 4)), (0, .int ((x0 ^^^ (-1)) &&& (x0 - 1)))] dJ6_numberOfTrailingZeros_0f7a4_55 rfl rfl (Nat.le_of_ble_eq_true rfl) rfl ?_
          refine r_iload_n 1 dJ6_numberOfTrailingZeros_0f7a4_58 rfl rfl ?_
          refine r_iconst_4 dJ6_numberOfTrailingZeros_0f7a4_59 ?_
          refine r_iushr dJ6_numberOfTrailingZeros_0f7a4_60 ?_
          refine r_nm (fun v7 ev7 => ?_)
          have h := h v7 ev7
          refine r_istore_n [(0, .int (v7)), (1, .int (1 + 4))] dJ6_numberOfTrailingZeros_0f7a4_61 rfl (Nat.le_of_ble_eq_true rfl) rfl ?_
          refine r_iload_n 0 dJ6_numberOfTrailingZeros_0f7a4_62 rfl rfl ?_
          refine r_iconst_4 dJ6_numberOfTrailingZeros_0f7a4_63 ?_
          refine r_icmp_le (tgt := 74) dJ6_numberOfTrailingZeros_0f7a4_64 (by decide) (fun c8 => ?_) (fun c8 => ?_)
          · have h := h.1 c8
            refine r_iload_n 1 dJ6_numberOfTrailingZeros_0f7a4_74 rfl rfl ?_
            refine r_iload_n 0 dJ6_numberOfTrailingZeros_0f7a4_75 rfl rfl ?_
            refine r_iconst_1 dJ6_numberOfTrailingZeros_0f7a4_76 ?_
            refine r_iushr dJ6_numberOfTrailingZeros_0f7a4_77 ?_
            refine r_iadd dJ6_numberOfTrailingZeros_0f7a4_78 ?_
            exact r_iret dJ6_numberOfTrailingZeros_0f7a4_79 rfl (Nat.le_refl _) (Nat.le_refl _) ⟨_, _, rfl, rfl, h⟩
          · have h := h.2 c8
            refine r_iinc 1 [(1, .int ((1 + 4) + 2)), (0, .int (v7))] dJ6_numberOfTrailingZeros_0f7a4_67 rfl rfl (Nat.le_of_ble_eq_true rfl) rfl ?_
            refine r_iload_n 1 dJ6_numberOfTrailingZeros_0f7a4_70 rfl rfl ?_
            refine r_iconst_2 dJ6_numberOfTrailingZeros_0f7a4_71 ?_
            refine r_iushr dJ6_numberOfTrailingZeros_0f7a4_72 ?_
            refine r_istore_n [(0, .int ((v7.toUInt32 >>> ((2 : Int32).toUInt32 &&& Int32.toUInt32 31)).toInt32)), (1, .int ((1 + 4) + 2))] dJ6_numberOfTrailingZeros_0f7a4_73 rfl (Nat.le_of_ble_eq_true rfl) rfl ?_
            refine r_iload_n 1 dJ6_numberOfTrailingZeros_0f7a4_74 rfl rfl ?_
            refine r_iload_n 0 dJ6_numberOfTrailingZeros_0f7a4_75 rfl rfl ?_
            refine r_iconst_1 dJ6_numberOfTrailingZeros_0f7a4_76 ?_
            refine r_iushr dJ6_numberOfTrailingZeros_0f7a4_77 ?_
            refine r_iadd dJ6_numberOfTrailingZeros_0f7a4_78 ?_
            exact r_iret dJ6_numberOfTrailingZeros_0f7a4_79 rfl (Nat.le_refl _) (Nat.le_refl _) ⟨_, _, rfl, rfl, h⟩
      · have h := h.2 c3
        refine r_iinc 0 [(1, .int (1 + 8)), (0, .int ((x0 ^^^ (-1)) &&& (x0 - 1)))] dJ6_numberOfTrailingZeros_0f7a4_41 rfl rfl (Nat.le_of_ble_eq_true rfl) rfl ?_
        refine r_iload_n 1 dJ6_numberOfTrailingZeros_0f7a4_44 rfl rfl ?_
        refine r_bipush_8 dJ6_numberOfTrailingZeros_0f7a4_45 ?_
        refine r_iushr dJ6_numberOfTrailingZeros_0f7a4_47 ?_
        refine r_nm (fun v9 ev9 => ?_)
        have h := h v9 ev9
        refine r_istore_n [(0, .int (v9)), (1, .int (1 + 8))] dJ6_numberOfTrailingZeros_0f7a4_48 rfl (Nat.le_of_ble_eq_true rfl) rfl ?_
        refine r_iload_n 0 dJ6_numberOfTrailingZeros_0f7a4_49 rfl rfl ?_
        refine r_bipush_16 dJ6_numberOfTrailingZeros_0f7a4_50 ?_
        refine r_icmp_le (tgt := 62) dJ6_numberOfTrailingZeros_0f7a4_52 (by decide) (fun c10 => ?_) (fun c10 => ?_)
        · have h := h.1 c10
          refine r_iload_n 0 dJ6_numberOfTrailingZeros_0f7a4_62 rfl rfl ?_
          refine r_iconst_4 dJ6_numberOfTrailingZeros_0f7a4_63 ?_
          refine r_icmp_le (tgt := 74) dJ6_numberOfTrailingZeros_0f7a4_64 (by decide) (fun c11 => ?_) (fun c11 => ?_)
          · have h := h.1 c11
            refine r_iload_n 1 dJ6_numberOfTrailingZeros_0f7a4_74 rfl rfl ?_
            refine r_iload_n 0 dJ6_numberOfTrailingZeros_0f7a4_75 rfl rfl ?_
            refine r_iconst_1 dJ6_numberOfTrailingZeros_0f7a4_76 ?_
            refine r_iushr dJ6_numberOfTrailingZeros_0f7a4_77 ?_
            refine r_iadd dJ6_numberOfTrailingZeros_0f7a4_78 ?_
            exact r_iret dJ6_numberOfTrailingZeros_0f7a4_79 rfl (Nat.le_refl _) (Nat.le_refl _) ⟨_, _, rfl, rfl, h⟩
          · have h := h.2 c11
            refine r_iinc 1 [(1, .int ((1 + 8) + 2)), (0, .int (v9))] dJ6_numberOfTrailingZeros_0f7a4_67 rfl rfl (Nat.le_of_ble_eq_true rfl) rfl ?_
            refine r_iload_n 1 dJ6_numberOfTrailingZeros_0f7a4_70 rfl rfl ?_
            refine r_iconst_2 dJ6_numberOfTrailingZeros_0f7a4_71 ?_
            refine r_iushr dJ6_numberOfTrailingZeros_0f7a4_72 ?_
            refine r_istore_n [(0, .int ((v9.toUInt32 >>> ((2 : Int32).toUInt32 &&& Int32.toUInt32 31)).toInt32)), (1, .int ((1 + 8) + 2))] dJ6_numberOfTrailingZeros_0f7a4_73 rfl (Nat.le_of_ble_eq_true rfl) rfl ?_
            refine r_iload_n 1 dJ6_numberOfTrailingZeros_0f7a4_74 rfl rfl ?_
            refine r_iload_n 0 dJ6_numberOfTrailingZeros_0f7a4_75 rfl rfl ?_
            refine r_iconst_1 dJ6_numberOfTrailingZeros_0f7a4_76 ?_
            refine r_iushr dJ6_numberOfTrailingZeros_0f7a4_77 ?_
            refine r_iadd dJ6_numberOfTrailingZeros_0f7a4_78 ?_
            exact r_iret dJ6_numberOfTrailingZeros_0f7a4_79 rfl (Nat.le_refl _) (Nat.le_refl _) ⟨_, _, rfl, rfl, h⟩
        · have h := h.2 c10
          refine r_iinc 1 [(1, .int ((1 + 8) + 4)), (0, .int (v9))] dJ6_numberOfTrailingZeros_0f7a4_55 rfl rfl (Nat.le_of_ble_eq_true rfl) rfl ?_
          refine r_iload_n 1 dJ6_numberOfTrailingZeros_0f7a4_58 rfl rfl ?_
          refine r_iconst_4 dJ6_numberOfTrailingZeros_0f7a4_59 ?_
          refine r_iushr dJ6_numberOfTrailingZeros_0f7a4_60 ?_
          refine r_istore_n [(0, .int ((v9.toUInt32 >>> ((4 : Int32).toUInt32 &&& Int32.toUInt32 31)).toInt32)), (1, .int ((1 + 8) + 4))] dJ6_numberOfTrailingZeros_0f7a4_61 rfl (Nat.le_of_ble_eq_true rfl) rfl ?_
          refine r_iload_n 0 dJ6_numberOfTrailingZeros_0f7a4_62 rfl rfl ?_
          refine r_iconst_4 dJ6_numberOfTrailingZeros_0f7a4_63 ?_
          refine r_icmp_le (tgt := 74) dJ6_numberOfTrailingZeros_0f7a4_64 (by decide) (fun c12 => ?_) (fun c12 => ?_)
          · have h := h.1 c12
            refine r_iload_n 1 dJ6_numberOfTrailingZeros_0f7a4_74 rfl rfl ?_
            refine r_iload_n 0 dJ6_numberOfTrailingZeros_0f7a4_75 rfl rfl ?_
            refine r_iconst_1 dJ6_numberOfTrailingZeros_0f7a4_76 ?_
            refine r_iushr dJ6_numberOfTrailingZeros_0f7a4_77 ?_
            refine r_iadd dJ6_numberOfTrailingZeros_0f7a4_78 ?_
            exact r_iret dJ6_numberOfTrailingZeros_0f7a4_79 rfl (Nat.le_refl _) (Nat.le_refl _) ⟨_, _, rfl, rfl, h⟩
          · have h := h.2 c12
            refine r_iinc 1 [(1, .int (((1 + 8) + 4) + 2)), (0, .int ((v9.toUInt32 >>> ((4 : Int32).toUInt32 &&& Int32.toUInt32 31)).toInt32))] dJ6_numberOfTrailingZeros_0f7a4_67 rfl rfl (Nat.le_of_ble_eq_true rfl) rfl ?_
            refine r_iload_n 1 dJ6_numberOfTrailingZeros_0f7a4_70 rfl rfl ?_
            refine r_iconst_2 dJ6_numberOfTrailingZeros_0f7a4_71 ?_
            refine r_iushr dJ6_numberOfTrailingZeros_0f7a4_72 ?_
            refine r_nm (fun v13 ev13 => ?_)
            have h := h v13 ev13
            refine r_istore_n [(0, .int (v13)), (1, .int (((1 + 8) + 4) + 2))] dJ6_numberOfTrailingZeros_0f7a4_73 rfl (Nat.le_of_ble_eq_true rfl) rfl ?_
            refine r_iload_n 1 dJ6_numberOfTrailingZeros_0f7a4_74 rfl rfl ?_
            refine r_iload_n 0 dJ6_numberOfTrailingZeros_0f7a4_75 rfl rfl ?_
            refine r_iconst_1 dJ6_numberOfTrailingZeros_0f7a4_76 ?_
            refine r_iushr dJ6_numberOfTrailingZeros_0f7a4_77 ?_
            refine r_iadd dJ6_numberOfTrailingZeros_0f7a4_78 ?_
            exact r_iret dJ6_numberOfTrailingZeros_0f7a4_79 rfl (Nat.le_refl _) (Nat.le_refl _) ⟨_, _, rfl, rfl, h⟩
    · have h := h.2 c2
      refine r_iinc 0 [(1, .int (1 + 16)), (0, .int ((x0 ^^^ (-1)) &&& (x0 - 1)))] dJ6_numberOfTrailingZeros_0f7a4_26 rfl rfl (Nat.le_of_ble_eq_true rfl) rfl ?_
      refine r_iload_n 1 dJ6_numberOfTrailingZeros_0f7a4_29 rfl rfl ?_
      refine r_bipush_16 dJ6_numberOfTrailingZeros_0f7a4_30 ?_
      refine r_iushr dJ6_numberOfTrailingZeros_0f7a4_32 ?_
      refine r_nm (fun v14 ev14 => ?_)
      have h := h v14 ev14
      refine r_istore_n [(0, .int (v14)), (1, .int (1 + 16))] dJ6_numberOfTrailingZeros_0f7a4_33 rfl (Nat.le_of_ble_eq_true rfl) rfl ?_
      refine r_iload_n 0 dJ6_numberOfTrailingZeros_0f7a4_34 rfl rfl ?_
      refine r_sipush_256 dJ6_numberOfTrailingZeros_0f7a4_35 ?_
      refine r_icmp_le (tgt := 49) dJ6_numberOfTrailingZeros_0f7a4_38 (by decide) (fun c15 => ?_) (fun c15 => ?_)
      · have h := h.1 c15
        refine r_iload_n 0 dJ6_numberOfTrailingZeros_0f7a4_49 rfl rfl ?_
        refine r_bipush_16 dJ6_numberOfTrailingZeros_0f7a4_50 ?_
        refine r_icmp_le (tgt := 62) dJ6_numberOfTrailingZeros_0f7a4_52 (by decide) (fun c16 => ?_) (fun c16 => ?_)
        · have h := h.1 c16
          refine r_iload_n 0 dJ6_numberOfTrailingZeros_0f7a4_62 rfl rfl ?_
          refine r_iconst_4 dJ6_numberOfTrailingZeros_0f7a4_63 ?_
          refine r_icmp_le (tgt := 74) dJ6_numberOfTrailingZeros_0f7a4_64 (by decide) (fun c17 => ?_) (fun c17 => ?_)
          · have h := h.1 c17
            refine r_iload_n 1 dJ6_numberOfTrailingZeros_0f7a4_74 rfl rfl ?_
            refine r_iload_n 0 dJ6_numberOfTrailingZeros_0f7a4_75 rfl rfl ?_
            refine r_iconst_1 dJ6_numberOfTrailingZeros_0f7a4_76 ?_
            refine r_iushr dJ6_numberOfTrailingZeros_0f7a4_77 ?_
            refine r_iadd dJ6_numberOfTrailingZeros_0f7a4_78 ?_
            exact r_iret dJ6_numberOfTrailingZeros_0f7a4_79 rfl (Nat.le_refl _) (Nat.le_refl _) ⟨_, _, rfl, rfl, h⟩
          · have h := h.2 c17
            refine r_iinc 1 [(1, .int ((1 + 16) + 2)), (0, .int (v14))] dJ6_numberOfTrailingZeros_0f7a4_67 rfl rfl (Nat.le_of_ble_eq_true rfl) rfl ?_
            refine r_iload_n 1 dJ6_numberOfTrailingZeros_0f7a4_70 rfl rfl ?_
            refine r_iconst_2 dJ6_numberOfTrailingZeros_0f7a4_71 ?_
            refine r_iushr dJ6_numberOfTrailingZeros_0f7a4_72 ?_
            refine r_nm (fun v18 ev18 => ?_)
            have h := h v18 ev18
            refine r_istore_n [(0, .int (v18)), (1, .int ((1 + 16) + 2))] dJ6_numberOfTrailingZeros_0f7a4_73 rfl (Nat.le_of_ble_eq_true rfl) rfl ?_
            refine r_iload_n 1 dJ6_numberOfTrailingZeros_0f7a4_74 rfl rfl ?_
            refine r_iload_n 0 dJ6_numberOfTrailingZeros_0f7a4_75 rfl rfl ?_
            refine r_iconst_1 dJ6_numberOfTrailingZeros_0f7a4_76 ?_
            refine r_iushr dJ6_numberOfTrailingZeros_0f7a4_77 ?_
            refine r_iadd dJ6_numberOfTrailingZeros_0f7a4_78 ?_
            exact r_iret dJ6_numberOfTrailingZeros_0f7a4_79 rfl (Nat.le_refl _) (Nat.le_refl _) ⟨_, _, rfl, rfl, h⟩
        · have h := h.2 c16
          refine r_iinc 1 [(1, .int ((1 + 16) + 4)), (0, .int (v14))] dJ6_numberOfTrailingZeros_0f7a4_55 rfl rfl (Nat.le_of_ble_eq_true rfl) rfl ?_
          refine r_iload_n 1 dJ6_numberOfTrailingZeros_0f7a4_58 rfl rfl ?_
          refine r_iconst_4 dJ6_numberOfTrailingZeros_0f7a4_59 ?_
          refine r_iushr dJ6_numberOfTrailingZeros_0f7a4_60 ?_
          refine r_nm (fun v19 ev19 => ?_)
          have h := h v19 ev19
          refine r_istore_n [(0, .int (v19)), (1, .int ((1 + 16) + 4))] dJ6_numberOfTrailingZeros_0f7a4_61 rfl (Nat.le_of_ble_eq_true rfl) rfl ?_
          refine r_iload_n 0 dJ6_numberOfTrailingZeros_0f7a4_62 rfl rfl ?_
          refine r_iconst_4 dJ6_numberOfTrailingZeros_0f7a4_63 ?_
          refine r_icmp_le (tgt := 74) dJ6_numberOfTrailingZeros_0f7a4_64 (by decide) (fun c20 => ?_) (fun c20 => ?_)
          · have h := h.1 c20
            refine r_iload_n 1 dJ6_numberOfTrailingZeros_0f7a4_74 rfl rfl ?_
            refine r_iload_n 0 dJ6_numberOfTrailingZeros_0f7a4_75 rfl rfl ?_
            refine r_iconst_1 dJ6_numberOfTrailingZeros_0f7a4_76 ?_
            refine r_iushr dJ6_numberOfTrailingZeros_0f7a4_77 ?_
            refine r_iadd dJ6_numberOfTrailingZeros_0f7a4_78 ?_
            exact r_iret dJ6_numberOfTrailingZeros_0f7a4_79 rfl (Nat.le_refl _) (Nat.le_refl _) ⟨_, _, rfl, rfl, h⟩
          · have h := h.2 c20
            refine r_iinc 1 [(1, .int (((1 + 16) + 4) + 2)), (0, .int (v19))] dJ6_numberOfTrailingZeros_0f7a4_67 rfl rfl (Nat.le_of_ble_eq_true rfl) rfl ?_
            refine r_iload_n 1 dJ6_numberOfTrailingZeros_0f7a4_70 rfl rfl ?_
            refine r_iconst_2 dJ6_numberOfTrailingZeros_0f7a4_71 ?_
            refine r_iushr dJ6_numberOfTrailingZeros_0f7a4_72 ?_
            refine r_nm (fun v21 ev21 => ?_)
            have h := h v21 ev21
            refine r_istore_n [(0, .int (v21)), (1, .int (((1 + 16) + 4) + 2))] dJ6_numberOfTrailingZeros_0f7a4_73 rfl (Nat.le_of_ble_eq_true rfl) rfl ?_
            refine r_iload_n 1 dJ6_numberOfTrailingZeros_0f7a4_74 rfl rfl ?_
            refine r_iload_n 0 dJ6_numberOfTrailingZeros_0f7a4_75 rfl rfl ?_
            refine r_iconst_1 dJ6_numberOfTrailingZeros_0f7a4_76 ?_
            refine r_iushr dJ6_numberOfTrailingZeros_0f7a4_77 ?_
            refine r_iadd dJ6_numberOfTrailingZeros_0f7a4_78 ?_
            exact r_iret dJ6_numberOfTrailingZeros_0f7a4_79 rfl (Nat.le_refl _) (Nat.le_refl _) ⟨_, _, rfl, rfl, h⟩
      · have h := h.2 c15
        refine r_iinc 1 [(1, .int ((1 + 16) + 8)), (0, .int (v14))] dJ6_numberOfTrailingZeros_0f7a4_41 rfl rfl (Nat.le_of_ble_eq_true rfl) rfl ?_
        refine r_iload_n 1 dJ6_numberOfTrailingZeros_0f7a4_44 rfl rfl ?_
        refine r_bipush_8 dJ6_numberOfTrailingZeros_0f7a4_45 ?_
        refine r_iushr dJ6_numberOfTrailingZeros_0f7a4_47 ?_
        refine r_nm (fun v22 ev22 => ?_)
        have h := h v22 ev22
        refine r_istore_n [(0, .int (v22)), (1, .int ((1 + 16) + 8))] dJ6_numberOfTrailingZeros_0f7a4_48 rfl (Nat.le_of_ble_eq_true rfl) rfl ?_
        refine r_iload_n 0 dJ6_numberOfTrailingZeros_0f7a4_49 rfl rfl ?_
        refine r_bipush_16 dJ6_numberOfTrailingZeros_0f7a4_50 ?_
        refine r_icmp_le (tgt := 62) dJ6_numberOfTrailingZeros_0f7a4_52 (by decide) (fun c23 => ?_) (fun c23 => ?_)
        · have h := h.1 c23
          refine r_iload_n 0 dJ6_numberOfTrailingZeros_0f7a4_62 rfl rfl ?_
          refine r_iconst_4 dJ6_numberOfTrailingZeros_0f7a4_63 ?_
          refine r_icmp_le (tgt := 74) dJ6_numberOfTrailingZeros_0f7a4_64 (by decide) (fun c24 => ?_) (fun c24 => ?_)
          · have h := h.1 c24
            refine r_iload_n 1 dJ6_numberOfTrailingZeros_0f7a4_74 rfl rfl ?_
            refine r_iload_n 0 dJ6_numberOfTrailingZeros_0f7a4_75 rfl rfl ?_
            refine r_iconst_1 dJ6_numberOfTrailingZeros_0f7a4_76 ?_
            refine r_iushr dJ6_numberOfTrailingZeros_0f7a4_77 ?_
            refine r_iadd dJ6_numberOfTrailingZeros_0f7a4_78 ?_
            exact r_iret dJ6_numberOfTrailingZeros_0f7a4_79 rfl (Nat.le_refl _) (Nat.le_refl _) ⟨_, _, rfl, rfl, h⟩
          · have h := h.2 c24
            refine r_iinc 1 [(1, .int (((1 + 16) + 8) + 2)), (0, .int (v22))] dJ6_numberOfTrailingZeros_0f7a4_67 rfl rfl (Nat.le_of_ble_eq_true rfl) rfl ?_
            refine r_iload_n 1 dJ6_numberOfTrailingZeros_0f7a4_70 rfl rfl ?_
            refine r_iconst_2 dJ6_numberOfTrailingZeros_0f7a4_71 ?_
            refine r_iushr dJ6_numberOfTrailingZeros_0f7a4_72 ?_
            refine r_nm (fun v25 ev25 => ?_)
            have h := h v25 ev25
            refine r_istore_n [(0, .int (v25)), (1, .int (((1 + 16) + 8) + 2))] dJ6_numberOfTrailingZeros_0f7a4_73 rfl (Nat.le_of_ble_eq_true rfl) rfl ?_
            refine r_iload_n 1 dJ6_numberOfTrailingZeros_0f7a4_74 rfl rfl ?_
            refine r_iload_n 0 dJ6_numberOfTrailingZeros_0f7a4_75 rfl rfl ?_
            refine r_iconst_1 dJ6_numberOfTrailingZeros_0f7a4_76 ?_
            refine r_iushr dJ6_numberOfTrailingZeros_0f7a4_77 ?_
            refine r_iadd dJ6_numberOfTrailingZeros_0f7a4_78 ?_
            exact r_iret dJ6_numberOfTrailingZeros_0f7a4_79 rfl (Nat.le_refl _) (Nat.le_refl _) ⟨_, _, rfl, rfl, h⟩
        · have h := h.2 c23
          refine r_iinc 1 [(1, .int (((1 + 16) + 8) + 4)), (0, .int (v22))] dJ6_numberOfTrailingZeros_0f7a4_55 rfl rfl (Nat.le_of_ble_eq_true rfl) rfl ?_
          refine r_iload_n 1 dJ6_numberOfTrailingZeros_0f7a4_58 rfl rfl ?_
          refine r_iconst_4 dJ6_numberOfTrailingZeros_0f7a4_59 ?_
          refine r_iushr dJ6_numberOfTrailingZeros_0f7a4_60 ?_
          refine r_nm (fun v26 ev26 => ?_)
          have h := h v26 ev26
          refine r_istore_n [(0, .int (v26)), (1, .int (((1 + 16) + 8) + 4))] dJ6_numberOfTrailingZeros_0f7a4_61 rfl (Nat.le_of_ble_eq_true rfl) rfl ?_
          refine r_iload_n 0 dJ6_numberOfTrailingZeros_0f7a4_62 rfl rfl ?_
          refine r_iconst_4 dJ6_numberOfTrailingZeros_0f7a4_63 ?_
          refine r_icmp_le (tgt := 74) dJ6_numberOfTrailingZeros_0f7a4_64 (by decide) (fun c27 => ?_) (fun c27 => ?_)
          · have h := h.1 c27
            refine r_iload_n 1 dJ6_numberOfTrailingZeros_0f7a4_74 rfl rfl ?_
            refine r_iload_n 0 dJ6_numberOfTrailingZeros_0f7a4_75 rfl rfl ?_
            refine r_iconst_1 dJ6_numberOfTrailingZeros_0f7a4_76 ?_
            refine r_iushr dJ6_numberOfTrailingZeros_0f7a4_77 ?_
            refine r_iadd dJ6_numberOfTrailingZeros_0f7a4_78 ?_
            exact r_iret dJ6_numberOfTrailingZeros_0f7a4_79 rfl (Nat.le_refl _) (Nat.le_refl _) ⟨_, _, rfl, rfl, h⟩
          · have h := h.2 c27
            refine r_iinc 1 [(1, .int ((((1 + 16) + 8) + 4) + 2)), (0, .int (v26))] dJ6_numberOfTrailingZeros_0f7a4_67 rfl rfl (Nat.le_of_ble_eq_true rfl) rfl ?_
            refine r_iload_n 1 dJ6_numberOfTrailingZeros_0f7a4_70 rfl rfl ?_
            refine r_iconst_2 dJ6_numberOfTrailingZeros_0f7a4_71 ?_
            refine r_iushr dJ6_numberOfTrailingZeros_0f7a4_72 ?_
            refine r_nm (fun v28 ev28 => ?_)
            have h := h v28 ev28
            refine r_istore_n [(0, .int (v28)), (1, .int ((((1 + 16) + 8) + 4) + 2))] dJ6_numberOfTrailingZeros_0f7a4_73 rfl (Nat.le_of_ble_eq_true rfl) rfl ?_
            refine r_iload_n 1 dJ6_numberOfTrailingZeros_0f7a4_74 rfl rfl ?_
            refine r_iload_n 0 dJ6_numberOfTrailingZeros_0f7a4_75 rfl rfl ?_
            refine r_iconst_1 dJ6_numberOfTrailingZeros_0f7a4_76 ?_
            refine r_iushr dJ6_numberOfTrailingZeros_0f7a4_77 ?_
            refine r_iadd dJ6_numberOfTrailingZeros_0f7a4_78 ?_
            exact r_iret dJ6_numberOfTrailingZeros_0f7a4_79 rfl (Nat.le_refl _) (Nat.le_refl _) ⟨_, _, rfl, rfl, h⟩
  · have h := h.2 c1
    refine r_iload_n 0 dJ6_numberOfTrailingZeros_0f7a4_12 rfl rfl ?_
    refine r_bipush_32 dJ6_numberOfTrailingZeros_0f7a4_13 ?_
    refine r_iand dJ6_numberOfTrailingZeros_0f7a4_15 ?_
    exact r_iret dJ6_numberOfTrailingZeros_0f7a4_16 rfl (Nat.le_refl _) (Nat.le_refl _) ⟨_, _, rfl, rfl, h⟩
