abbrev T_begins_12 (E : EvT) (q : Nat → Nat) (D : Nat) (P : StM → Prop) (S : StM) (y3 : Int32) : Prop := RM E q iM_begins D (qV E q P) S [(0, .ref (q 0)), (3, .int (y3))] [] 12
set_option maxRecDepth 20000 in
theorem en_begins {E : EvT} {q : Nat → Nat} {d : Nat} {x1 : Int32} {x2 : Int32} {S : StM} {P : StM → Prop} (h : T_begins_12 E q d P (sI (sI S 0 x1) 1 x2) 0) : C_begins E q d x1 x2 S P := by
  refine Cn.of rfl (Nat.le_of_ble_eq_true rfl) (ls := [(0, .ref (q 0)), (1, .int (x1)), (2, .int (x2))]) rfl ?_
  refine r_aload_n 0 dX12_begins_0 rfl rfl ?_
  refine r_iload_n 1 dX12_begins_1 rfl rfl ?_
  refine mq_0 rfl dX12_begins_2 ?_
  refine r_aload_n 0 dX12_begins_5 rfl rfl ?_
  refine r_iload_n 2 dX12_begins_6 rfl rfl ?_
  refine mq_1 rfl dX12_begins_7 ?_
  refine r_iconst_0 dX12_begins_10 ?_
  refine r_istore_n [(3, .int (0)), (0, .ref (q 0)), (1, .int (x1)), (2, .int (x2))] dX12_begins_11 rfl (Nat.le_of_ble_eq_true rfl) rfl ?_
  refine r_ls [1, 0] (ls2 := [(0, .ref (q 0)), (3, .int (0))]) rfl ?_
  exact h
set_option maxRecDepth 20000 in
theorem sg_begins_12 {E : EvT} {q : Nat → Nat} {d : Nat} {S : StM} {P : StM → Prop} {y3 : Int32} (h : (100 ≤ y3 → (P S)) ∧ (¬ 100 ≤ y3 → ((0 ≤ y3 ∧ y3 < 100) ∧ (T_begins_12 E q d P (sA (sA S 5 (upd (a_heightOf S) (ix y3) 8)) 6 (upd (a_placeAt S) (ix y3) (-1))) (y3 + 1))))) : T_begins_12 E q d P S y3 := by
  refine r_iload_n 1 dX12_begins_12 rfl rfl ?_
  refine r_bipush_100 dX12_begins_13 ?_
  refine r_icmp_ge (tgt := 39) dX12_begins_15 (by decide) (fun c1 => ?_) (fun c1 => ?_)
  · have h := h.1 c1
    exact r_vret dX12_begins_39 rfl (Nat.le_refl _) (Nat.le_refl _) ⟨_, rfl, rfl, h⟩
  · have h := h.2 c1
    refine r_aload_n 0 dX12_begins_18 rfl rfl ?_
    refine mg_5 rfl dX12_begins_19 ?_
    refine r_iload_n 1 dX12_begins_22 rfl rfl ?_
    refine r_bipush_8 dX12_begins_23 ?_
    obtain ⟨b2, h⟩ := h
    refine mt_5 b2 dX12_begins_25 ?_
    refine r_aload_n 0 dX12_begins_26 rfl rfl ?_
    refine mg_6 rfl dX12_begins_27 ?_
    refine r_iload_n 1 dX12_begins_30 rfl rfl ?_
    refine r_iconst_m1 dX12_begins_31 ?_
    refine mt_6 b2 dX12_begins_32 ?_
    refine r_iinc 1 [(3, .int (y3 + 1)), (0, .ref (q 0))] dX12_begins_33 rfl rfl (Nat.le_of_ble_eq_true rfl) rfl ?_
    refine r_goto (tgt := 12) dX12_begins_36 (by decide) ?_
    refine r_ls [1, 0] (ls2 := [(0, .ref (q 0)), (3, .int (y3 + 1))]) rfl ?_
    exact h
set_option maxRecDepth 20000 in
theorem en_city {E : EvT} {q : Nat → Nat} {d : Nat} {x1 : Int32} {x2 : Int32} {S : StM} {P : Bool → StM → Prop} (h : ((mIn x1 4 10) = false → (P false S)) ∧ ((mIn x1 4 10) = true → (((mIn x2 4 10) = false → (P false S)) ∧ ((mIn x2 4 10) = true → ((0 < (s_places S) → (P false S)) ∧ (¬ 0 < (s_places S) → ((0 < (s_digs S) → (P false S)) ∧ (¬ 0 < (s_digs S) → (((s_hollows S) ≤ 0 → (C_begins E q d x1 x2 S (fun S7 => P true S7))) ∧ (¬ (s_hollows S) ≤ 0 → (P false S))))))))))) : C_city E q (d + 1) x1 x2 S P := by
  refine Cn.of rfl (Nat.le_of_ble_eq_true rfl) (ls := [(0, .ref (q 0)), (1, .int (x1)), (2, .int (x2))]) rfl ?_
  refine r_iload_n 1 dX12_city_0 rfl rfl ?_
  refine r_iconst_4 dX12_city_1 ?_
  refine r_bipush_10 dX12_city_2 ?_
  refine KP_in (d := d + 0)  rfl (Nat.le_of_ble_eq_true rfl) dX12_city_4 ?_
  refine r_if_eqb (tgt := 41) dX12_city_7 (by decide) (fun c1 => ?_) (fun c1 => ?_)
  · have h := h.1 c1
    refine r_iconst_0 dX12_city_41 ?_
    exact r_zret0 dX12_city_42 rfl (Nat.le_refl _) (Nat.le_refl _) ⟨_, _, rfl, rfl, h⟩
  · have h := h.2 c1
    refine r_iload_n 2 dX12_city_10 rfl rfl ?_
    refine r_iconst_4 dX12_city_11 ?_
    refine r_bipush_10 dX12_city_12 ?_
    refine KP_in (d := d + 0)  rfl (Nat.le_of_ble_eq_true rfl) dX12_city_14 ?_
    refine r_if_eqb (tgt := 41) dX12_city_17 (by decide) (fun c2 => ?_) (fun c2 => ?_)
    · have h := h.1 c2
      refine r_iconst_0 dX12_city_41 ?_
      exact r_zret0 dX12_city_42 rfl (Nat.le_refl _) (Nat.le_refl _) ⟨_, _, rfl, rfl, h⟩
    · have h := h.2 c2
      refine r_aload_n 0 dX12_city_20 rfl rfl ?_
      refine mg_3 rfl dX12_city_21 ?_
      refine r_if_gt (tgt := 41) dX12_city_24 (by decide) (fun c3 => ?_) (fun c3 => ?_)
      · have h := h.1 c3
        refine r_iconst_0 dX12_city_41 ?_
        exact r_zret0 dX12_city_42 rfl (Nat.le_refl _) (Nat.le_refl _) ⟨_, _, rfl, rfl, h⟩
      · have h := h.2 c3
        refine r_aload_n 0 dX12_city_27 rfl rfl ?_
        refine mg_4 rfl dX12_city_28 ?_
        refine r_if_gt (tgt := 41) dX12_city_31 (by decide) (fun c4 => ?_) (fun c4 => ?_)
        · have h := h.1 c4
          refine r_iconst_0 dX12_city_41 ?_
          exact r_zret0 dX12_city_42 rfl (Nat.le_refl _) (Nat.le_refl _) ⟨_, _, rfl, rfl, h⟩
        · have h := h.2 c4
          refine r_aload_n 0 dX12_city_34 rfl rfl ?_
          refine mg_90 rfl dX12_city_35 ?_
          refine r_if_le (tgt := 43) dX12_city_38 (by decide) (fun c5 => ?_) (fun c5 => ?_)
          · have h := h.1 c5
            refine r_aload_n 0 dX12_city_43 rfl rfl ?_
            refine r_iload_n 1 dX12_city_44 rfl rfl ?_
            refine r_iload_n 2 dX12_city_45 rfl rfl ?_
            refine K_begins rfl (Nat.le_of_ble_eq_true rfl) dX12_city_46 (mV h (fun S7 h => ?_))
            refine r_iconst_1 dX12_city_49 ?_
            exact r_zret1 dX12_city_50 rfl (Nat.le_refl _) (Nat.le_refl _) ⟨_, _, rfl, rfl, h⟩
          · have h := h.2 c5
            refine r_iconst_0 dX12_city_41 ?_
            exact r_zret0 dX12_city_42 rfl (Nat.le_refl _) (Nat.le_refl _) ⟨_, _, rfl, rfl, h⟩
set_option maxRecDepth 20000 in
theorem en_now {E : EvT} {q : Nat → Nat} {d : Nat} {x1 : Int32} {S : StM} {P : Bool → StM → Prop} (h : ((mIn x1 (s_now S) 9999) = true → (P true (sI S 2 x1))) ∧ ((mIn x1 (s_now S) 9999) = false → (P false S))) : C_now E q (d + 1) x1 S P := by
  refine Cn.of rfl (Nat.le_of_ble_eq_true rfl) (ls := [(0, .ref (q 0)), (1, .int (x1))]) rfl ?_
  refine r_iload_n 1 dX12_now_0 rfl rfl ?_
  refine r_aload_n 0 dX12_now_1 rfl rfl ?_
  refine mg_2 rfl dX12_now_2 ?_
  refine r_sipush_9999 dX12_now_5 ?_
  refine KP_in (d := d + 0)  rfl (Nat.le_of_ble_eq_true rfl) dX12_now_8 ?_
  refine r_if_neb (tgt := 16) dX12_now_11 (by decide) (fun c1 => ?_) (fun c1 => ?_)
  · have h := h.1 c1
    refine r_aload_n 0 dX12_now_16 rfl rfl ?_
    refine r_iload_n 1 dX12_now_17 rfl rfl ?_
    refine mq_2 rfl dX12_now_18 ?_
    refine r_iconst_1 dX12_now_21 ?_
    exact r_zret1 dX12_now_22 rfl (Nat.le_refl _) (Nat.le_refl _) ⟨_, _, rfl, rfl, h⟩
  · have h := h.2 c1
    refine r_iconst_0 dX12_now_14 ?_
    exact r_zret0 dX12_now_15 rfl (Nat.le_refl _) (Nat.le_refl _) ⟨_, _, rfl, rfl, h⟩
abbrev T_place_32 (E : EvT) (q : Nat → Nat) (D : Nat) (P : Int32 → StM → Prop) (S : StM) (y1 : Int32) (y2 : Int32) (y3 : Int32) (y4 : Int32) : Prop := RM E q iM_place D (qI E q P) S [(0, .ref (q 0)), (1, .int (y1)), (2, .int (y2)), (3, .int (y3)), (4, .int (y4))] [] 32
abbrev T_place_79 (E : EvT) (q : Nat → Nat) (D : Nat) (P : Int32 → StM → Prop) (S : StM) (y1 : Int32) (y2 : Int32) (y3 : Int32) (y4 : Int32) : Prop := RM E q iM_place D (qI E q P) S [(0, .ref (q 0)), (1, .int (y1)), (2, .int (y2)), (3, .int (y3)), (4, .int (y4))] [] 79
set_option maxRecDepth 20000 in
theorem en_place {E : EvT} {q : Nat → Nat} {d : Nat} {x1 : Int32} {x2 : Int32} {x3 : Int32} {S : StM} {P : Int32 → StM → Prop} (h : ((mIn x1 0 2) = false → (P (-1) S)) ∧ ((mIn x1 0 2) = true → (¬ s_wide S = 0 ∧ (((mRect S x2 x3) = false → (P (-1) S)) ∧ ((mRect S x2 x3) = true → ((¬ (s_places S) = 30 → (T_place_32 E q (d + 2) P S x1 x2 x3 0)) ∧ ((s_places S) = 30 → (P (-1) S)))))))) : C_place E q (d + 2) x1 x2 x3 S P := by
  refine Cn.of rfl (Nat.le_of_ble_eq_true rfl) (ls := [(0, .ref (q 0)), (1, .int (x1)), (2, .int (x2)), (3, .int (x3))]) rfl ?_
  refine r_iload_n 1 dX12_place_0 rfl rfl ?_
  refine r_iconst_0 dX12_place_1 ?_
  refine r_iconst_2 dX12_place_2 ?_
  refine KP_in (d := d + 1)  rfl (Nat.le_of_ble_eq_true rfl) dX12_place_3 ?_
  refine r_if_eqb (tgt := 27) dX12_place_6 (by decide) (fun c1 => ?_) (fun c1 => ?_)
  · have h := h.1 c1
    refine r_iconst_m1 dX12_place_27 ?_
    exact r_iret dX12_place_28 rfl (Nat.le_refl _) (Nat.le_refl _) ⟨_, _, rfl, rfl, h⟩
  · have h := h.2 c1
    refine r_aload_n 0 dX12_place_9 rfl rfl ?_
    refine r_iload_n 2 dX12_place_10 rfl rfl ?_
    refine r_iload_n 3 dX12_place_11 rfl rfl ?_
    obtain ⟨b2, h⟩ := h
    refine KP_isRectangle (d := d + 0) b2 rfl (Nat.le_of_ble_eq_true rfl) dX12_place_12 ?_
    refine r_if_eqb (tgt := 27) dX12_place_15 (by decide) (fun c3 => ?_) (fun c3 => ?_)
    · have h := h.1 c3
      refine r_iconst_m1 dX12_place_27 ?_
      exact r_iret dX12_place_28 rfl (Nat.le_refl _) (Nat.le_refl _) ⟨_, _, rfl, rfl, h⟩
    · have h := h.2 c3
      refine r_aload_n 0 dX12_place_18 rfl rfl ?_
      refine mg_3 rfl dX12_place_19 ?_
      refine r_bipush_30 dX12_place_22 ?_
      refine r_icmp_ne (tgt := 29) dX12_place_24 (by decide) (fun c4 => ?_) (fun c4 => ?_)
      · have h := h.1 c4
        refine r_iconst_0 dX12_place_29 ?_
        refine r_istore [(4, .int (0)), (0, .ref (q 0)), (1, .int (x1)), (2, .int (x2)), (3, .int (x3))] dX12_place_30 (Nat.le_of_ble_eq_true rfl) rfl ?_
        refine r_ls [1, 2, 3, 4, 0] (ls2 := [(0, .ref (q 0)), (1, .int (x1)), (2, .int (x2)), (3, .int (x3)), (4, .int (0))]) rfl ?_
        exact h
      · have h := h.2 c4
        refine r_iconst_m1 dX12_place_27 ?_
        exact r_iret dX12_place_28 rfl (Nat.le_refl _) (Nat.le_refl _) ⟨_, _, rfl, rfl, h⟩
set_option maxRecDepth 20000 in
theorem sg_place_32 {E : EvT} {q : Nat → Nat} {d : Nat} {S : StM} {P : Int32 → StM → Prop} {y1 : Int32} {y2 : Int32} {y3 : Int32} {y4 : Int32} (h : (((s_wide S) * (s_high S)) ≤ y4 → (T_place_79 E q (d + 2) P S y1 y2 y3 0)) ∧ (¬ ((s_wide S) * (s_high S)) ≤ y4 → (¬ s_wide S = 0 ∧ (((mIsIn S y4 y2 y3) = false → (T_place_32 E q (d + 2) P S y1 y2 y3 (y4 + 1))) ∧ ((mIsIn S y4 y2 y3) = true → ((0 ≤ y4 ∧ y4 < 100) ∧ (((a_placeAt S (ix y4)) = (-1) → (T_place_32 E q (d + 2) P S y1 y2 y3 (y4 + 1))) ∧ (¬ (a_placeAt S (ix y4)) = (-1) → (P (-1) S))))))))) : T_place_32 E q (d + 2) P S y1 y2 y3 y4 := by
  refine r_iload 4 dX12_place_32 rfl ?_
  refine r_aload_n 0 dX12_place_34 rfl rfl ?_
  refine mg_0 rfl dX12_place_35 ?_
  refine r_aload_n 0 dX12_place_38 rfl rfl ?_
  refine mg_1 rfl dX12_place_39 ?_
  refine r_imul dX12_place_42 ?_
  refine r_icmp_ge (tgt := 76) dX12_place_43 (by decide) (fun c1 => ?_) (fun c1 => ?_)
  · have h := h.1 c1
    refine r_iconst_0 dX12_place_76 ?_
    refine r_istore [(4, .int (0)), (0, .ref (q 0)), (1, .int (y1)), (2, .int (y2)), (3, .int (y3))] dX12_place_77 (Nat.le_of_ble_eq_true rfl) rfl ?_
    refine r_ls [1, 2, 3, 4, 0] (ls2 := [(0, .ref (q 0)), (1, .int (y1)), (2, .int (y2)), (3, .int (y3)), (4, .int (0))]) rfl ?_
    exact h
  · have h := h.2 c1
    refine r_aload_n 0 dX12_place_46 rfl rfl ?_
    refine r_iload 4 dX12_place_47 rfl ?_
    refine r_iload_n 2 dX12_place_49 rfl rfl ?_
    refine r_iload_n 3 dX12_place_50 rfl rfl ?_
    obtain ⟨b2, h⟩ := h
    refine KP_isIn (d := d + 0) b2 rfl (Nat.le_of_ble_eq_true rfl) dX12_place_51 ?_
    refine r_if_eqb (tgt := 70) dX12_place_54 (by decide) (fun c3 => ?_) (fun c3 => ?_)
    · have h := h.1 c3
      refine r_iinc 4 [(4, .int (y4 + 1)), (0, .ref (q 0)), (1, .int (y1)), (2, .int (y2)), (3, .int (y3))] dX12_place_70 rfl rfl (Nat.le_of_ble_eq_true rfl) rfl ?_
      refine r_goto (tgt := 32) dX12_place_73 (by decide) ?_
      refine r_ls [1, 2, 3, 4, 0] (ls2 := [(0, .ref (q 0)), (1, .int (y1)), (2, .int (y2)), (3, .int (y3)), (4, .int (y4 + 1))]) rfl ?_
      exact h
    · have h := h.2 c3
      refine r_aload_n 0 dX12_place_57 rfl rfl ?_
      refine mg_6 rfl dX12_place_58 ?_
      refine r_iload 4 dX12_place_61 rfl ?_
      obtain ⟨b4, h⟩ := h
      refine ml_6 b4 dX12_place_63 ?_
      refine r_iconst_m1 dX12_place_64 ?_
      refine r_icmp_eq (tgt := 70) dX12_place_65 (by decide) (fun c5 => ?_) (fun c5 => ?_)
      · have h := h.1 c5
        refine r_iinc 4 [(4, .int (y4 + 1)), (0, .ref (q 0)), (1, .int (y1)), (2, .int (y2)), (3, .int (y3))] dX12_place_70 rfl rfl (Nat.le_of_ble_eq_true rfl) rfl ?_
        refine r_goto (tgt := 32) dX12_place_73 (by decide) ?_
        refine r_ls [1, 2, 3, 4, 0] (ls2 := [(0, .ref (q 0)), (1, .int (y1)), (2, .int (y2)), (3, .int (y3)), (4, .int (y4 + 1))]) rfl ?_
        exact h
      · have h := h.2 c5
        refine r_iconst_m1 dX12_place_68 ?_
        exact r_iret dX12_place_69 rfl (Nat.le_refl _) (Nat.le_refl _) ⟨_, _, rfl, rfl, h⟩
set_option maxRecDepth 20000 in
theorem sg_place_79 {E : EvT} {q : Nat → Nat} {d : Nat} {S : StM} {P : Int32 → StM → Prop} {y1 : Int32} {y2 : Int32} {y3 : Int32} {y4 : Int32} (h : (((s_wide S) * (s_high S)) ≤ y4 → ((0 ≤ (s_places S) ∧ (s_places S) < 30) ∧ (P (((s_places S) + 1) - 1) (sI (sA (sA (sA S 7 (upd (a_placeKind S) (ix (s_places S)) y1)) 8 (upd (a_placeA S) (ix (s_places S)) y2)) 9 (upd (a_placeB S) (ix (s_places S)) y3)) 3 ((s_places S) + 1))))) ∧ (¬ ((s_wide S) * (s_high S)) ≤ y4 → (¬ s_wide S = 0 ∧ (((mIsIn S y4 y2 y3) = false → (T_place_79 E q (d + 2) P S y1 y2 y3 (y4 + 1))) ∧ ((mIsIn S y4 y2 y3) = true → ((0 ≤ y4 ∧ y4 < 100) ∧ (T_place_79 E q (d + 2) P (sA S 6 (upd (a_placeAt S) (ix y4) (s_places S))) y1 y2 y3 (y4 + 1)))))))) : T_place_79 E q (d + 2) P S y1 y2 y3 y4 := by
  refine r_iload 4 dX12_place_79 rfl ?_
  refine r_aload_n 0 dX12_place_81 rfl rfl ?_
  refine mg_0 rfl dX12_place_82 ?_
  refine r_aload_n 0 dX12_place_85 rfl rfl ?_
  refine mg_1 rfl dX12_place_86 ?_
  refine r_imul dX12_place_89 ?_
  refine r_icmp_ge (tgt := 121) dX12_place_90 (by decide) (fun c1 => ?_) (fun c1 => ?_)
  · have h := h.1 c1
    refine r_aload_n 0 dX12_place_121 rfl rfl ?_
    refine mg_7 rfl dX12_place_122 ?_
    refine r_aload_n 0 dX12_place_125 rfl rfl ?_
    refine mg_3 rfl dX12_place_126 ?_
    refine r_iload_n 1 dX12_place_129 rfl rfl ?_
    obtain ⟨b2, h⟩ := h
    refine mt_7 b2 dX12_place_130 ?_
    refine r_aload_n 0 dX12_place_131 rfl rfl ?_
    refine mg_8 rfl dX12_place_132 ?_
    refine r_aload_n 0 dX12_place_135 rfl rfl ?_
    refine mg_3 rfl dX12_place_136 ?_
    refine r_iload_n 2 dX12_place_139 rfl rfl ?_
    refine mt_8 b2 dX12_place_140 ?_
    refine r_aload_n 0 dX12_place_141 rfl rfl ?_
    refine mg_9 rfl dX12_place_142 ?_
    refine r_aload_n 0 dX12_place_145 rfl rfl ?_
    refine mg_3 rfl dX12_place_146 ?_
    refine r_iload_n 3 dX12_place_149 rfl rfl ?_
    refine mt_9 b2 dX12_place_150 ?_
    refine r_aload_n 0 dX12_place_151 rfl rfl ?_
    refine r_aload_n 0 dX12_place_152 rfl rfl ?_
    refine mg_3 rfl dX12_place_153 ?_
    refine r_iconst_1 dX12_place_156 ?_
    refine r_iadd dX12_place_157 ?_
    refine mq_3 rfl dX12_place_158 ?_
    refine r_aload_n 0 dX12_place_161 rfl rfl ?_
    refine mg_3 rfl dX12_place_162 ?_
    refine r_iconst_1 dX12_place_165 ?_
    refine r_isub dX12_place_166 ?_
    exact r_iret dX12_place_167 rfl (Nat.le_refl _) (Nat.le_refl _) ⟨_, _, rfl, rfl, h⟩
  · have h := h.2 c1
    refine r_aload_n 0 dX12_place_93 rfl rfl ?_
    refine r_iload 4 dX12_place_94 rfl ?_
    refine r_iload_n 2 dX12_place_96 rfl rfl ?_
    refine r_iload_n 3 dX12_place_97 rfl rfl ?_
    obtain ⟨b3, h⟩ := h
    refine KP_isIn (d := d + 0) b3 rfl (Nat.le_of_ble_eq_true rfl) dX12_place_98 ?_
    refine r_if_eqb (tgt := 115) dX12_place_101 (by decide) (fun c4 => ?_) (fun c4 => ?_)
    · have h := h.1 c4
      refine r_iinc 4 [(4, .int (y4 + 1)), (0, .ref (q 0)), (1, .int (y1)), (2, .int (y2)), (3, .int (y3))] dX12_place_115 rfl rfl (Nat.le_of_ble_eq_true rfl) rfl ?_
      refine r_goto (tgt := 79) dX12_place_118 (by decide) ?_
      refine r_ls [1, 2, 3, 4, 0] (ls2 := [(0, .ref (q 0)), (1, .int (y1)), (2, .int (y2)), (3, .int (y3)), (4, .int (y4 + 1))]) rfl ?_
      exact h
    · have h := h.2 c4
      refine r_aload_n 0 dX12_place_104 rfl rfl ?_
      refine mg_6 rfl dX12_place_105 ?_
      refine r_iload 4 dX12_place_108 rfl ?_
      refine r_aload_n 0 dX12_place_110 rfl rfl ?_
      refine mg_3 rfl dX12_place_111 ?_
      obtain ⟨b5, h⟩ := h
      refine mt_6 b5 dX12_place_114 ?_
      refine r_iinc 4 [(4, .int (y4 + 1)), (0, .ref (q 0)), (1, .int (y1)), (2, .int (y2)), (3, .int (y3))] dX12_place_115 rfl rfl (Nat.le_of_ble_eq_true rfl) rfl ?_
      refine r_goto (tgt := 79) dX12_place_118 (by decide) ?_
      refine r_ls [1, 2, 3, 4, 0] (ls2 := [(0, .ref (q 0)), (1, .int (y1)), (2, .int (y2)), (3, .int (y3)), (4, .int (y4 + 1))]) rfl ?_
      exact h
set_option maxRecDepth 20000 in
theorem en_placeOf {E : EvT} {q : Nat → Nat} {d : Nat} {x1 : Int32} {S : StM} {P : Int32 → StM → Prop} (h : ((mCell S x1) = false → (P (-1) S)) ∧ ((mCell S x1) = true → ((0 ≤ x1 ∧ x1 < 100) ∧ (P (a_placeAt S (ix x1)) S)))) : C_placeOf E q (d + 1) x1 S P := by
  refine Cn.of rfl (Nat.le_of_ble_eq_true rfl) (ls := [(0, .ref (q 0)), (1, .int (x1))]) rfl ?_
  refine r_aload_n 0 dX12_placeOf_0 rfl rfl ?_
  refine r_iload_n 1 dX12_placeOf_1 rfl rfl ?_
  refine KP_isCell (d := d + 0)  rfl (Nat.le_of_ble_eq_true rfl) dX12_placeOf_2 ?_
  refine r_if_eqb (tgt := 17) dX12_placeOf_5 (by decide) (fun c1 => ?_) (fun c1 => ?_)
  · have h := h.1 c1
    refine r_iconst_m1 dX12_placeOf_17 ?_
    exact r_iret dX12_placeOf_18 rfl (Nat.le_refl _) (Nat.le_refl _) ⟨_, _, rfl, rfl, h⟩
  · have h := h.2 c1
    refine r_aload_n 0 dX12_placeOf_8 rfl rfl ?_
    refine mg_6 rfl dX12_placeOf_9 ?_
    refine r_iload_n 1 dX12_placeOf_12 rfl rfl ?_
    obtain ⟨b2, h⟩ := h
    refine ml_6 b2 dX12_placeOf_13 ?_
    refine r_goto (tgt := 18) dX12_placeOf_14 (by decide) ?_
    exact r_iret dX12_placeOf_18 rfl (Nat.le_refl _) (Nat.le_refl _) ⟨_, _, rfl, rfl, h⟩
set_option maxRecDepth 20000 in
theorem en_dig {E : EvT} {q : Nat → Nat} {d : Nat} {x1 : Int32} {x2 : Int32} {x3 : Int32} {x4 : Int32} {x5 : Int32} {x6 : Int32} {x7 : Int32} {x8 : Int32} {S : StM} {P : Int32 → StM → Prop} (h : ((mIn x1 0 7) = false → (P (-1) S)) ∧ ((mIn x1 0 7) = true → (((mIn x2 0 2) = false → (P (-1) S)) ∧ ((mIn x2 0 2) = true → (¬ s_wide S = 0 ∧ (((mRect S x3 x4) = false → (P (-1) S)) ∧ ((mRect S x3 x4) = true → (((mLayer x5) = false → (P (-1) S)) ∧ ((mLayer x5) = true → (((mIn x6 x5 7) = false → (P (-1) S)) ∧ ((mIn x6 x5 7) = true → ((¬ x2 = 0 → (((mIn x7 0 (s_now S)) = false → (P (-1) S)) ∧ ((mIn x7 0 (s_now S)) = true → (((mIn x8 x7 (s_now S)) = false → (P (-1) S)) ∧ ((mIn x8 x7 (s_now S)) = true → ((¬ (s_digs S) = 100 → ((0 ≤ (s_digs S) ∧ (s_digs S) < 100) ∧ (P (((s_digs S) + 1) - 1) (sI (sA (sA (sA (sA (sA (sA (sA (sA (sA (sA S 10 (upd (a_digHand S) (ix (s_digs S)) x1)) 11 (upd (a_digKind S) (ix (s_digs S)) x2)) 12 (upd (a_digA S) (ix (s_digs S)) x3)) 13 (upd (a_digB S) (ix (s_digs S)) x4)) 14 (upd (a_digTop S) (ix (s_digs S)) x5)) 15 (upd (a_digBottom S) (ix (s_digs S)) x6)) 16 (upd (a_digFrom S) (ix (s_digs S)) x7)) 17 (upd (a_digTo S) (ix (s_digs S)) x8)) 18 (upd (a_digTold S) (ix (s_digs S)) (s_now S))) 19 (upd (a_digStruck S) (ix (s_digs S)) (-1))) 4 ((s_digs S) + 1))))) ∧ ((s_digs S) = 100 → (P (-1) S)))))))) ∧ (x2 = 0 → ((¬ x5 = 0 → (P (-1) S)) ∧ (x5 = 0 → (((mIn x7 0 (s_now S)) = false → (P (-1) S)) ∧ ((mIn x7 0 (s_now S)) = true → (((mIn x8 x7 (s_now S)) = false → (P (-1) S)) ∧ ((mIn x8 x7 (s_now S)) = true → ((¬ (s_digs S) = 100 → ((0 ≤ (s_digs S) ∧ (s_digs S) < 100) ∧ (P (((s_digs S) + 1) - 1) (sI (sA (sA (sA (sA (sA (sA (sA (sA (sA (sA S 10 (upd (a_digHand S) (ix (s_digs S)) x1)) 11 (upd (a_digKind S) (ix (s_digs S)) x2)) 12 (upd (a_digA S) (ix (s_digs S)) x3)) 13 (upd (a_digB S) (ix (s_digs S)) x4)) 14 (upd (a_digTop S) (ix (s_digs S)) x5)) 15 (upd (a_digBottom S) (ix (s_digs S)) x6)) 16 (upd (a_digFrom S) (ix (s_digs S)) x7)) 17 (upd (a_digTo S) (ix (s_digs S)) x8)) 18 (upd (a_digTold S) (ix (s_digs S)) (s_now S))) 19 (upd (a_digStruck S) (ix (s_digs S)) (-1))) 4 ((s_digs S) + 1))))) ∧ ((s_digs S) = 100 → (P (-1) S)))))))))))))))))))))) : C_dig E q (d + 2) x1 x2 x3 x4 x5 x6 x7 x8 S P := by
  refine Cn.of rfl (Nat.le_of_ble_eq_true rfl) (ls := [(0, .ref (q 0)), (1, .int (x1)), (2, .int (x2)), (3, .int (x3)), (4, .int (x4)), (5, .int (x5)), (6, .int (x6)), (7, .int (x7)), (8, .int (x8))]) rfl ?_
  refine r_iload_n 1 dX12_dig_0 rfl rfl ?_
  refine r_iconst_0 dX12_dig_1 ?_
  refine r_bipush_7 dX12_dig_2 ?_
  refine KP_in (d := d + 1)  rfl (Nat.le_of_ble_eq_true rfl) dX12_dig_4 ?_
  refine r_if_eqb (tgt := 94) dX12_dig_7 (by decide) (fun c1 => ?_) (fun c1 => ?_)
  · have h := h.1 c1
    refine r_iconst_m1 dX12_dig_94 ?_
    exact r_iret dX12_dig_95 rfl (Nat.le_refl _) (Nat.le_refl _) ⟨_, _, rfl, rfl, h⟩
  · have h := h.2 c1
    refine r_iload_n 2 dX12_dig_10 rfl rfl ?_
    refine r_iconst_0 dX12_dig_11 ?_
    refine r_iconst_2 dX12_dig_12 ?_
    refine KP_in (d := d + 1)  rfl (Nat.le_of_ble_eq_true rfl) dX12_dig_13 ?_
    refine r_if_eqb (tgt := 94) dX12_dig_16 (by decide) (fun c2 => ?_) (fun c2 => ?_)
    · have h := h.1 c2
      refine r_iconst_m1 dX12_dig_94 ?_
      exact r_iret dX12_dig_95 rfl (Nat.le_refl _) (Nat.le_refl _) ⟨_, _, rfl, rfl, h⟩
    · have h := h.2 c2
      refine r_aload_n 0 dX12_dig_19 rfl rfl ?_
      refine r_iload_n 3 dX12_dig_20 rfl rfl ?_
      refine r_iload 4 dX12_dig_21 rfl ?_
      obtain ⟨b3, h⟩ := h
      refine KP_isRectangle (d := d + 0) b3 rfl (Nat.le_of_ble_eq_true rfl) dX12_dig_23 ?_
      refine r_if_eqb (tgt := 94) dX12_dig_26 (by decide) (fun c4 => ?_) (fun c4 => ?_)
      · have h := h.1 c4
        refine r_iconst_m1 dX12_dig_94 ?_
        exact r_iret dX12_dig_95 rfl (Nat.le_refl _) (Nat.le_refl _) ⟨_, _, rfl, rfl, h⟩
      · have h := h.2 c4
        refine r_iload 5 dX12_dig_29 rfl ?_
        refine KP_isLayer (d := d + 1)  rfl (Nat.le_of_ble_eq_true rfl) dX12_dig_31 ?_
        refine r_if_eqb (tgt := 94) dX12_dig_34 (by decide) (fun c5 => ?_) (fun c5 => ?_)
        · have h := h.1 c5
          refine r_iconst_m1 dX12_dig_94 ?_
          exact r_iret dX12_dig_95 rfl (Nat.le_refl _) (Nat.le_refl _) ⟨_, _, rfl, rfl, h⟩
        · have h := h.2 c5
          refine r_iload 6 dX12_dig_37 rfl ?_
          refine r_iload 5 dX12_dig_39 rfl ?_
          refine r_bipush_7 dX12_dig_41 ?_
          refine KP_in (d := d + 1)  rfl (Nat.le_of_ble_eq_true rfl) dX12_dig_43 ?_
          refine r_if_eqb (tgt := 94) dX12_dig_46 (by decide) (fun c6 => ?_) (fun c6 => ?_)
          · have h := h.1 c6
            refine r_iconst_m1 dX12_dig_94 ?_
            exact r_iret dX12_dig_95 rfl (Nat.le_refl _) (Nat.le_refl _) ⟨_, _, rfl, rfl, h⟩
          · have h := h.2 c6
            refine r_iload_n 2 dX12_dig_49 rfl rfl ?_
            refine r_if_ne (tgt := 58) dX12_dig_50 (by decide) (fun c7 => ?_) (fun c7 => ?_)
            · have h := h.1 c7
              refine r_iload 7 dX12_dig_58 rfl ?_
              refine r_iconst_0 dX12_dig_60 ?_
              refine r_aload_n 0 dX12_dig_61 rfl rfl ?_
              refine mg_2 rfl dX12_dig_62 ?_
              refine KP_in (d := d + 1)  rfl (Nat.le_of_ble_eq_true rfl) dX12_dig_65 ?_
              refine r_if_eqb (tgt := 94) dX12_dig_68 (by decide) (fun c8 => ?_) (fun c8 => ?_)
              · have h := h.1 c8
                refine r_iconst_m1 dX12_dig_94 ?_
                exact r_iret dX12_dig_95 rfl (Nat.le_refl _) (Nat.le_refl _) ⟨_, _, rfl, rfl, h⟩
              · have h := h.2 c8
                refine r_iload 8 dX12_dig_71 rfl ?_
                refine r_iload 7 dX12_dig_73 rfl ?_
                refine r_aload_n 0 dX12_dig_75 rfl rfl ?_
                refine mg_2 rfl dX12_dig_76 ?_
                refine KP_in (d := d + 1)  rfl (Nat.le_of_ble_eq_true rfl) dX12_dig_79 ?_
                refine r_if_eqb (tgt := 94) dX12_dig_82 (by decide) (fun c9 => ?_) (fun c9 => ?_)
                · have h := h.1 c9
                  refine r_iconst_m1 dX12_dig_94 ?_
                  exact r_iret dX12_dig_95 rfl (Nat.le_refl _) (Nat.le_refl _) ⟨_, _, rfl, rfl, h⟩
                · have h := h.2 c9
                  refine r_aload_n 0 dX12_dig_85 rfl rfl ?_
                  refine mg_4 rfl dX12_dig_86 ?_
                  refine r_bipush_100 dX12_dig_89 ?_
                  refine r_icmp_ne (tgt := 96) dX12_dig_91 (by decide) (fun c10 => ?_) (fun c10 => ?_)
                  · have h := h.1 c10
                    refine r_aload_n 0 dX12_dig_96 rfl rfl ?_
                    refine mg_10 rfl dX12_dig_97 ?_
                    refine r_aload_n 0 dX12_dig_100 rfl rfl ?_
                    refine mg_4 rfl dX12_dig_101 ?_
                    refine r_iload_n 1 dX12_dig_104 rfl rfl ?_
                    obtain ⟨b11, h⟩ := h
                    refine mt_10 b11 dX12_dig_105 ?_
                    refine r_aload_n 0 dX12_dig_106 rfl rfl ?_
                    refine mg_11 rfl dX12_dig_107 ?_
                    refine r_aload_n 0 dX12_dig_110 rfl rfl ?_
                    refine mg_4 rfl dX12_dig_111 ?_
                    refine r_iload_n 2 dX12_dig_114 rfl rfl ?_
                    refine mt_11 b11 dX12_dig_115 ?_
                    refine r_aload_n 0 dX12_dig_116 rfl rfl ?_
                    refine mg_12 rfl dX12_dig_117 ?_
                    refine r_aload_n 0 dX12_dig_120 rfl rfl ?_
                    refine mg_4 rfl dX12_dig_121 ?_
                    refine r_iload_n 3 dX12_dig_124 rfl rfl ?_
                    refine mt_12 b11 dX12_dig_125 ?_
                    refine r_aload_n 0 dX12_dig_126 rfl rfl ?_
                    refine mg_13 rfl dX12_dig_127 ?_
                    refine r_aload_n 0 dX12_dig_130 rfl rfl ?_
                    refine mg_4 rfl dX12_dig_131 ?_
                    refine r_iload 4 dX12_dig_134 rfl ?_
                    refine mt_13 b11 dX12_dig_136 ?_
                    refine r_aload_n 0 dX12_dig_137 rfl rfl ?_
                    refine mg_14 rfl dX12_dig_138 ?_
                    refine r_aload_n 0 dX12_dig_141 rfl rfl ?_
                    refine mg_4 rfl dX12_dig_142 ?_
                    refine r_iload 5 dX12_dig_145 rfl ?_
                    refine mt_14 b11 dX12_dig_147 ?_
                    refine r_aload_n 0 dX12_dig_148 rfl rfl ?_
                    refine mg_15 rfl dX12_dig_149 ?_
                    refine r_aload_n 0 dX12_dig_152 rfl rfl ?_
                    refine mg_4 rfl dX12_dig_153 ?_
                    refine r_iload 6 dX12_dig_156 rfl ?_
                    refine mt_15 b11 dX12_dig_158 ?_
                    refine r_aload_n 0 dX12_dig_159 rfl rfl ?_
                    refine mg_16 rfl dX12_dig_160 ?_
                    refine r_aload_n 0 dX12_dig_163 rfl rfl ?_
                    refine mg_4 rfl dX12_dig_164 ?_
                    refine r_iload 7 dX12_dig_167 rfl ?_
                    refine mt_16 b11 dX12_dig_169 ?_
                    refine r_aload_n 0 dX12_dig_170 rfl rfl ?_
                    refine mg_17 rfl dX12_dig_171 ?_
                    refine r_aload_n 0 dX12_dig_174 rfl rfl ?_
                    refine mg_4 rfl dX12_dig_175 ?_
                    refine r_iload 8 dX12_dig_178 rfl ?_
                    refine mt_17 b11 dX12_dig_180 ?_
                    refine r_aload_n 0 dX12_dig_181 rfl rfl ?_
                    refine mg_18 rfl dX12_dig_182 ?_
                    refine r_aload_n 0 dX12_dig_185 rfl rfl ?_
                    refine mg_4 rfl dX12_dig_186 ?_
                    refine r_aload_n 0 dX12_dig_189 rfl rfl ?_
                    refine mg_2 rfl dX12_dig_190 ?_
                    refine mt_18 b11 dX12_dig_193 ?_
                    refine r_aload_n 0 dX12_dig_194 rfl rfl ?_
                    refine mg_19 rfl dX12_dig_195 ?_
                    refine r_aload_n 0 dX12_dig_198 rfl rfl ?_
                    refine mg_4 rfl dX12_dig_199 ?_
                    refine r_iconst_m1 dX12_dig_202 ?_
                    refine mt_19 b11 dX12_dig_203 ?_
                    refine r_aload_n 0 dX12_dig_204 rfl rfl ?_
                    refine r_aload_n 0 dX12_dig_205 rfl rfl ?_
                    refine mg_4 rfl dX12_dig_206 ?_
                    refine r_iconst_1 dX12_dig_209 ?_
                    refine r_iadd dX12_dig_210 ?_
                    refine mq_4 rfl dX12_dig_211 ?_
                    refine r_aload_n 0 dX12_dig_214 rfl rfl ?_
                    refine mg_4 rfl dX12_dig_215 ?_
                    refine r_iconst_1 dX12_dig_218 ?_
                    refine r_isub dX12_dig_219 ?_
                    exact r_iret dX12_dig_220 rfl (Nat.le_refl _) (Nat.le_refl _) ⟨_, _, rfl, rfl, h⟩
                  · have h := h.2 c10
                    refine r_iconst_m1 dX12_dig_94 ?_
                    exact r_iret dX12_dig_95 rfl (Nat.le_refl _) (Nat.le_refl _) ⟨_, _, rfl, rfl, h⟩
            · have h := h.2 c7
              refine r_iload 5 dX12_dig_53 rfl ?_
              refine r_if_ne (tgt := 94) dX12_dig_55 (by decide) (fun c12 => ?_) (fun c12 => ?_)
              · have h := h.1 c12
                refine r_iconst_m1 dX12_dig_94 ?_
                exact r_iret dX12_dig_95 rfl (Nat.le_refl _) (Nat.le_refl _) ⟨_, _, rfl, rfl, h⟩
              · have h := h.2 c12
                refine r_iload 7 dX12_dig_58 rfl ?_
                refine r_iconst_0 dX12_dig_60 ?_
                refine r_aload_n 0 dX12_dig_61 rfl rfl ?_
                refine mg_2 rfl dX12_dig_62 ?_
                refine KP_in (d := d + 1)  rfl (Nat.le_of_ble_eq_true rfl) dX12_dig_65 ?_
                refine r_if_eqb (tgt := 94) dX12_dig_68 (by decide) (fun c13 => ?_) (fun c13 => ?_)
                · have h := h.1 c13
                  refine r_iconst_m1 dX12_dig_94 ?_
                  exact r_iret dX12_dig_95 rfl (Nat.le_refl _) (Nat.le_refl _) ⟨_, _, rfl, rfl, h⟩
                · have h := h.2 c13
                  refine r_iload 8 dX12_dig_71 rfl ?_
                  refine r_iload 7 dX12_dig_73 rfl ?_
                  refine r_aload_n 0 dX12_dig_75 rfl rfl ?_
                  refine mg_2 rfl dX12_dig_76 ?_
                  refine KP_in (d := d + 1)  rfl (Nat.le_of_ble_eq_true rfl) dX12_dig_79 ?_
                  refine r_if_eqb (tgt := 94) dX12_dig_82 (by decide) (fun c14 => ?_) (fun c14 => ?_)
                  · have h := h.1 c14
                    refine r_iconst_m1 dX12_dig_94 ?_
                    exact r_iret dX12_dig_95 rfl (Nat.le_refl _) (Nat.le_refl _) ⟨_, _, rfl, rfl, h⟩
                  · have h := h.2 c14
                    refine r_aload_n 0 dX12_dig_85 rfl rfl ?_
                    refine mg_4 rfl dX12_dig_86 ?_
                    refine r_bipush_100 dX12_dig_89 ?_
                    refine r_icmp_ne (tgt := 96) dX12_dig_91 (by decide) (fun c15 => ?_) (fun c15 => ?_)
                    · have h := h.1 c15
                      refine r_aload_n 0 dX12_dig_96 rfl rfl ?_
                      refine mg_10 rfl dX12_dig_97 ?_
                      refine r_aload_n 0 dX12_dig_100 rfl rfl ?_
                      refine mg_4 rfl dX12_dig_101 ?_
                      refine r_iload_n 1 dX12_dig_104 rfl rfl ?_
                      obtain ⟨b16, h⟩ := h
                      refine mt_10 b16 dX12_dig_105 ?_
                      refine r_aload_n 0 dX12_dig_106 rfl rfl ?_
                      refine mg_11 rfl dX12_dig_107 ?_
                      refine r_aload_n 0 dX12_dig_110 rfl rfl ?_
                      refine mg_4 rfl dX12_dig_111 ?_
                      refine r_iload_n 2 dX12_dig_114 rfl rfl ?_
                      refine mt_11 b16 dX12_dig_115 ?_
                      refine r_aload_n 0 dX12_dig_116 rfl rfl ?_
                      refine mg_12 rfl dX12_dig_117 ?_
                      refine r_aload_n 0 dX12_dig_120 rfl rfl ?_
                      refine mg_4 rfl dX12_dig_121 ?_
                      refine r_iload_n 3 dX12_dig_124 rfl rfl ?_
                      refine mt_12 b16 dX12_dig_125 ?_
                      refine r_aload_n 0 dX12_dig_126 rfl rfl ?_
                      refine mg_13 rfl dX12_dig_127 ?_
                      refine r_aload_n 0 dX12_dig_130 rfl rfl ?_
                      refine mg_4 rfl dX12_dig_131 ?_
                      refine r_iload 4 dX12_dig_134 rfl ?_
                      refine mt_13 b16 dX12_dig_136 ?_
                      refine r_aload_n 0 dX12_dig_137 rfl rfl ?_
                      refine mg_14 rfl dX12_dig_138 ?_
                      refine r_aload_n 0 dX12_dig_141 rfl rfl ?_
                      refine mg_4 rfl dX12_dig_142 ?_
                      refine r_iload 5 dX12_dig_145 rfl ?_
                      refine mt_14 b16 dX12_dig_147 ?_
                      refine r_aload_n 0 dX12_dig_148 rfl rfl ?_
                      refine mg_15 rfl dX12_dig_149 ?_
                      refine r_aload_n 0 dX12_dig_152 rfl rfl ?_
                      refine mg_4 rfl dX12_dig_153 ?_
                      refine r_iload 6 dX12_dig_156 rfl ?_
                      refine mt_15 b16 dX12_dig_158 ?_
                      refine r_aload_n 0 dX12_dig_159 rfl rfl ?_
                      refine mg_16 rfl dX12_dig_160 ?_
                      refine r_aload_n 0 dX12_dig_163 rfl rfl ?_
                      refine mg_4 rfl dX12_dig_164 ?_
                      refine r_iload 7 dX12_dig_167 rfl ?_
                      refine mt_16 b16 dX12_dig_169 ?_
                      refine r_aload_n 0 dX12_dig_170 rfl rfl ?_
                      refine mg_17 rfl dX12_dig_171 ?_
                      refine r_aload_n 0 dX12_dig_174 rfl rfl ?_
                      refine mg_4 rfl dX12_dig_175 ?_
                      refine r_iload 8 dX12_dig_178 rfl ?_
                      refine mt_17 b16 dX12_dig_180 ?_
                      refine r_aload_n 0 dX12_dig_181 rfl rfl ?_
                      refine mg_18 rfl dX12_dig_182 ?_
                      refine r_aload_n 0 dX12_dig_185 rfl rfl ?_
                      refine mg_4 rfl dX12_dig_186 ?_
                      refine r_aload_n 0 dX12_dig_189 rfl rfl ?_
                      refine mg_2 rfl dX12_dig_190 ?_
                      refine mt_18 b16 dX12_dig_193 ?_
                      refine r_aload_n 0 dX12_dig_194 rfl rfl ?_
                      refine mg_19 rfl dX12_dig_195 ?_
                      refine r_aload_n 0 dX12_dig_198 rfl rfl ?_
                      refine mg_4 rfl dX12_dig_199 ?_
                      refine r_iconst_m1 dX12_dig_202 ?_
                      refine mt_19 b16 dX12_dig_203 ?_
                      refine r_aload_n 0 dX12_dig_204 rfl rfl ?_
                      refine r_aload_n 0 dX12_dig_205 rfl rfl ?_
                      refine mg_4 rfl dX12_dig_206 ?_
                      refine r_iconst_1 dX12_dig_209 ?_
                      refine r_iadd dX12_dig_210 ?_
                      refine mq_4 rfl dX12_dig_211 ?_
                      refine r_aload_n 0 dX12_dig_214 rfl rfl ?_
                      refine mg_4 rfl dX12_dig_215 ?_
                      refine r_iconst_1 dX12_dig_218 ?_
                      refine r_isub dX12_dig_219 ?_
                      exact r_iret dX12_dig_220 rfl (Nat.le_refl _) (Nat.le_refl _) ⟨_, _, rfl, rfl, h⟩
                    · have h := h.2 c15
                      refine r_iconst_m1 dX12_dig_94 ?_
                      exact r_iret dX12_dig_95 rfl (Nat.le_refl _) (Nat.le_refl _) ⟨_, _, rfl, rfl, h⟩
set_option maxRecDepth 20000 in
theorem en_strike {E : EvT} {q : Nat → Nat} {d : Nat} {x1 : Int32} {S : StM} {P : Bool → StM → Prop} (h : ((mDig S x1) = false → (P false S)) ∧ ((mDig S x1) = true → ((0 ≤ x1 ∧ x1 < 100) ∧ (((a_digStruck S (ix x1)) = (-1) → (P true (sA S 19 (upd (a_digStruck S) (ix x1) (s_now S))))) ∧ (¬ (a_digStruck S (ix x1)) = (-1) → (P false S)))))) : C_strike E q (d + 1) x1 S P := by
  refine Cn.of rfl (Nat.le_of_ble_eq_true rfl) (ls := [(0, .ref (q 0)), (1, .int (x1))]) rfl ?_
  refine r_aload_n 0 dX12_strike_0 rfl rfl ?_
  refine r_iload_n 1 dX12_strike_1 rfl rfl ?_
  refine KP_isDig (d := d + 0)  rfl (Nat.le_of_ble_eq_true rfl) dX12_strike_2 ?_
  refine r_if_eqb (tgt := 18) dX12_strike_5 (by decide) (fun c1 => ?_) (fun c1 => ?_)
  · have h := h.1 c1
    refine r_iconst_0 dX12_strike_18 ?_
    exact r_zret0 dX12_strike_19 rfl (Nat.le_refl _) (Nat.le_refl _) ⟨_, _, rfl, rfl, h⟩
  · have h := h.2 c1
    refine r_aload_n 0 dX12_strike_8 rfl rfl ?_
    refine mg_19 rfl dX12_strike_9 ?_
    refine r_iload_n 1 dX12_strike_12 rfl rfl ?_
    obtain ⟨b2, h⟩ := h
    refine ml_19 b2 dX12_strike_13 ?_
    refine r_iconst_m1 dX12_strike_14 ?_
    refine r_icmp_eq (tgt := 20) dX12_strike_15 (by decide) (fun c3 => ?_) (fun c3 => ?_)
    · have h := h.1 c3
      refine r_aload_n 0 dX12_strike_20 rfl rfl ?_
      refine mg_19 rfl dX12_strike_21 ?_
      refine r_iload_n 1 dX12_strike_24 rfl rfl ?_
      refine r_aload_n 0 dX12_strike_25 rfl rfl ?_
      refine mg_2 rfl dX12_strike_26 ?_
      refine mt_19 b2 dX12_strike_29 ?_
      refine r_iconst_1 dX12_strike_30 ?_
      exact r_zret1 dX12_strike_31 rfl (Nat.le_refl _) (Nat.le_refl _) ⟨_, _, rfl, rfl, h⟩
    · have h := h.2 c3
      refine r_iconst_0 dX12_strike_18 ?_
      exact r_zret0 dX12_strike_19 rfl (Nat.le_refl _) (Nat.le_refl _) ⟨_, _, rfl, rfl, h⟩
abbrev T_groundOf_17 (E : EvT) (q : Nat → Nat) (D : Nat) (P : Int32 → StM → Prop) (S : StM) (y1 : Int32) (y2 : Int32) (y3 : Int32) (y4 : Int32) (y5 : Int32) (y6 : Int32) (y7 : Int32) (y8 : Int32) : Prop := RM E q iM_groundOf D (qI E q P) S [(0, .ref (q 0)), (1, .int (y1)), (2, .int (y2)), (3, .int (y3)), (4, .int (y4)), (5, .int (y5)), (6, .int (y6)), (7, .int (y7)), (8, .int (y8))] [] 17
abbrev T_groundOf_28 (E : EvT) (q : Nat → Nat) (D : Nat) (P : Int32 → StM → Prop) (S : StM) (y1 : Int32) (y2 : Int32) (y3 : Int32) (y4 : Int32) (y5 : Int32) (y6 : Int32) (y7 : Int32) (y9 : Int32) (y10 : Int32) : Prop := RM E q iM_groundOf D (qI E q P) S [(0, .ref (q 0)), (1, .int (y1)), (2, .int (y2)), (3, .int (y3)), (4, .int (y4)), (5, .int (y5)), (6, .int (y6)), (7, .int (y7)), (9, .int (y9)), (10, .int (y10))] [] 28
set_option maxRecDepth 20000 in
theorem en_groundOf {E : EvT} {q : Nat → Nat} {d : Nat} {x1 : Int32} {x2 : Int32} {x3 : Int32} {x4 : Int32} {S : StM} {P : Int32 → StM → Prop} (h : T_groundOf_17 E q (d + 3) P (sI S 20 (-1)) x1 x2 x3 x4 0 (-1) (-1) 1) : C_groundOf E q (d + 3) x1 x2 x3 x4 S P := by
  refine Cn.of rfl (Nat.le_of_ble_eq_true rfl) (ls := [(0, .ref (q 0)), (1, .int (x1)), (2, .int (x2)), (3, .int (x3)), (4, .int (x4))]) rfl ?_
  refine r_iconst_0 dX12_groundOf_0 ?_
  refine r_istore [(5, .int (0)), (0, .ref (q 0)), (1, .int (x1)), (2, .int (x2)), (3, .int (x3)), (4, .int (x4))] dX12_groundOf_1 (Nat.le_of_ble_eq_true rfl) rfl ?_
  refine r_aload_n 1 dX12_groundOf_3 rfl rfl ?_
  refine r_iconst_m1 dX12_groundOf_4 ?_
  refine mq_20 rfl dX12_groundOf_5 ?_
  refine r_iconst_m1 dX12_groundOf_8 ?_
  refine r_istore [(6, .int ((-1))), (5, .int (0)), (0, .ref (q 0)), (1, .int (x1)), (2, .int (x2)), (3, .int (x3)), (4, .int (x4))] dX12_groundOf_9 (Nat.le_of_ble_eq_true rfl) rfl ?_
  refine r_iconst_m1 dX12_groundOf_11 ?_
  refine r_istore [(7, .int ((-1))), (6, .int ((-1))), (5, .int (0)), (0, .ref (q 0)), (1, .int (x1)), (2, .int (x2)), (3, .int (x3)), (4, .int (x4))] dX12_groundOf_12 (Nat.le_of_ble_eq_true rfl) rfl ?_
  refine r_iconst_1 dX12_groundOf_14 ?_
  refine r_istore [(8, .int (1)), (7, .int ((-1))), (6, .int ((-1))), (5, .int (0)), (0, .ref (q 0)), (1, .int (x1)), (2, .int (x2)), (3, .int (x3)), (4, .int (x4))] dX12_groundOf_15 (Nat.le_of_ble_eq_true rfl) rfl ?_
  refine r_ls [4, 5, 6, 7, 8, 3, 2, 1, 0] (ls2 := [(0, .ref (q 0)), (1, .int (x1)), (2, .int (x2)), (3, .int (x3)), (4, .int (x4)), (5, .int (0)), (6, .int ((-1))), (7, .int ((-1))), (8, .int (1))]) rfl ?_
  exact h
set_option maxRecDepth 20000 in
theorem sg_groundOf_17 {E : EvT} {q : Nat → Nat} {d : Nat} {S : StM} {P : Int32 → StM → Prop} {y1 : Int32} {y2 : Int32} {y3 : Int32} {y4 : Int32} {y5 : Int32} {y6 : Int32} {y7 : Int32} {y8 : Int32} (h : (y8 = 0 → (P y5 S)) ∧ (¬ y8 = 0 → (T_groundOf_28 E q (d + 3) P S y1 y2 y3 y4 y5 y6 y7 (-1) 0))) : T_groundOf_17 E q (d + 3) P S y1 y2 y3 y4 y5 y6 y7 y8 := by
  refine r_iload 8 dX12_groundOf_17 rfl ?_
  refine r_if_eq (tgt := 265) dX12_groundOf_19 (by decide) (fun c1 => ?_) (fun c1 => ?_)
  · have h := h.1 c1
    refine r_iload 5 dX12_groundOf_265 rfl ?_
    exact r_iret dX12_groundOf_267 rfl (Nat.le_refl _) (Nat.le_refl _) ⟨_, _, rfl, rfl, h⟩
  · have h := h.2 c1
    refine r_iconst_m1 dX12_groundOf_22 ?_
    refine r_istore [(9, .int ((-1))), (0, .ref (q 0)), (1, .int (y1)), (2, .int (y2)), (3, .int (y3)), (4, .int (y4)), (5, .int (y5)), (6, .int (y6)), (7, .int (y7)), (8, .int (y8))] dX12_groundOf_23 (Nat.le_of_ble_eq_true rfl) rfl ?_
    refine r_iconst_0 dX12_groundOf_25 ?_
    refine r_istore [(10, .int (0)), (9, .int ((-1))), (0, .ref (q 0)), (1, .int (y1)), (2, .int (y2)), (3, .int (y3)), (4, .int (y4)), (5, .int (y5)), (6, .int (y6)), (7, .int (y7)), (8, .int (y8))] dX12_groundOf_26 (Nat.le_of_ble_eq_true rfl) rfl ?_
    refine r_ls [2, 3, 4, 5, 6, 7, 8, 9, 1, 0] (ls2 := [(0, .ref (q 0)), (1, .int (y1)), (2, .int (y2)), (3, .int (y3)), (4, .int (y4)), (5, .int (y5)), (6, .int (y6)), (7, .int (y7)), (9, .int ((-1))), (10, .int (0))]) rfl ?_
    exact h
set_option maxRecDepth 20000 in
theorem sg_groundOf_28 {E : EvT} {q : Nat → Nat} {d : Nat} {S : StM} {P : Int32 → StM → Prop} {y1 : Int32} {y2 : Int32} {y3 : Int32} {y4 : Int32} {y5 : Int32} {y6 : Int32} {y7 : Int32} {y9 : Int32} {y10 : Int32} (h : ((s_digs S) ≤ y10 → ((y9 = (-1) → (T_groundOf_17 E q (d + 3) P S y1 y2 y3 y4 y5 y6 y7 0)) ∧ (¬ y9 = (-1) → ((0 ≤ y9 ∧ y9 < 100) ∧ ((¬ y5 = 0 → ((¬ (a_digKind S (ix y9)) = 0 → ((¬ (a_digKind S (ix y9)) = 1 → ((y5 = 1 → (T_groundOf_17 E q (d + 3) P S y1 y2 y3 y4 3 (a_digFrom S (ix y9)) y9 1)) ∧ (¬ y5 = 1 → ((¬ y5 = 2 → (T_groundOf_17 E q (d + 3) P S y1 y2 y3 y4 y5 (a_digFrom S (ix y9)) y9 1)) ∧ (y5 = 2 → (T_groundOf_17 E q (d + 3) P S y1 y2 y3 y4 3 (a_digFrom S (ix y9)) y9 1)))))) ∧ ((a_digKind S (ix y9)) = 1 → ((¬ y5 = 0 → (T_groundOf_17 E q (d + 3) P S y1 y2 y3 y4 y5 (a_digFrom S (ix y9)) y9 1)) ∧ (y5 = 0 → (T_groundOf_17 E q (d + 3) P S y1 y2 y3 y4 1 (a_digFrom S (ix y9)) y9 1)))))) ∧ ((a_digKind S (ix y9)) = 0 → (T_groundOf_17 E q (d + 3) P S y1 y2 y3 y4 2 (a_digFrom S (ix y9)) y9 1)))) ∧ (y5 = 0 → (((a_digKind S (ix y9)) = 2 → ((¬ (a_digKind S (ix y9)) = 0 → ((¬ (a_digKind S (ix y9)) = 1 → ((y5 = 1 → (T_groundOf_17 E q (d + 3) P S y1 y2 y3 y4 3 (a_digFrom S (ix y9)) y9 1)) ∧ (¬ y5 = 1 → ((¬ y5 = 2 → (T_groundOf_17 E q (d + 3) P S y1 y2 y3 y4 y5 (a_digFrom S (ix y9)) y9 1)) ∧ (y5 = 2 → (T_groundOf_17 E q (d + 3) P S y1 y2 y3 y4 3 (a_digFrom S (ix y9)) y9 1)))))) ∧ ((a_digKind S (ix y9)) = 1 → ((¬ y5 = 0 → (T_groundOf_17 E q (d + 3) P S y1 y2 y3 y4 y5 (a_digFrom S (ix y9)) y9 1)) ∧ (y5 = 0 → (T_groundOf_17 E q (d + 3) P S y1 y2 y3 y4 1 (a_digFrom S (ix y9)) y9 1)))))) ∧ ((a_digKind S (ix y9)) = 0 → (T_groundOf_17 E q (d + 3) P S y1 y2 y3 y4 2 (a_digFrom S (ix y9)) y9 1)))) ∧ (¬ (a_digKind S (ix y9)) = 2 → ((¬ (a_digKind S (ix y9)) = 0 → ((¬ (a_digKind S (ix y9)) = 1 → ((y5 = 1 → (T_groundOf_17 E q (d + 3) P (sI S 20 y9) y1 y2 y3 y4 3 (a_digFrom S (ix y9)) y9 1)) ∧ (¬ y5 = 1 → ((¬ y5 = 2 → (T_groundOf_17 E q (d + 3) P (sI S 20 y9) y1 y2 y3 y4 y5 (a_digFrom S (ix y9)) y9 1)) ∧ (y5 = 2 → (T_groundOf_17 E q (d + 3) P (sI S 20 y9) y1 y2 y3 y4 3 (a_digFrom S (ix y9)) y9 1)))))) ∧ ((a_digKind S (ix y9)) = 1 → ((¬ y5 = 0 → (T_groundOf_17 E q (d + 3) P (sI S 20 y9) y1 y2 y3 y4 y5 (a_digFrom S (ix y9)) y9 1)) ∧ (y5 = 0 → (T_groundOf_17 E q (d + 3) P (sI S 20 y9) y1 y2 y3 y4 1 (a_digFrom S (ix y9)) y9 1)))))) ∧ ((a_digKind S (ix y9)) = 0 → (T_groundOf_17 E q (d + 3) P (sI S 20 y9) y1 y2 y3 y4 2 (a_digFrom S (ix y9)) y9 1))))))))))) ∧ (¬ (s_digs S) ≤ y10 → ((0 ≤ y10 ∧ y10 < 100) ∧ (((mKnown S y10 y4) = false → (T_groundOf_28 E q (d + 3) P S y1 y2 y3 y4 y5 y6 y7 y9 (y10 + 1))) ∧ ((mKnown S y10 y4) = true → ((¬ s_wide S = 0 ∧ 0 ≤ y10 ∧ y10 < 100) ∧ (((mHas S y10 y1 y2) = false → (T_groundOf_28 E q (d + 3) P S y1 y2 y3 y4 y5 y6 y7 y9 (y10 + 1))) ∧ ((mHas S y10 y1 y2) = true → ((0 ≤ y10 ∧ y10 < 100) ∧ (((a_digFrom S (ix y10)) ≤ y3 → ((y6 < (a_digFrom S (ix y10)) → ((y9 = (-1) → (T_groundOf_28 E q (d + 3) P S y1 y2 y3 y4 y5 y6 y7 y10 (y10 + 1))) ∧ (¬ y9 = (-1) → ((0 ≤ y9 ∧ y9 < 100) ∧ (((a_digFrom S (ix y9)) ≤ (a_digFrom S (ix y10)) → (T_groundOf_28 E q (d + 3) P S y1 y2 y3 y4 y5 y6 y7 y9 (y10 + 1))) ∧ (¬ (a_digFrom S (ix y9)) ≤ (a_digFrom S (ix y10)) → (T_groundOf_28 E q (d + 3) P S y1 y2 y3 y4 y5 y6 y7 y10 (y10 + 1)))))))) ∧ (¬ y6 < (a_digFrom S (ix y10)) → ((¬ (a_digFrom S (ix y10)) = y6 → (T_groundOf_28 E q (d + 3) P S y1 y2 y3 y4 y5 y6 y7 y9 (y10 + 1))) ∧ ((a_digFrom S (ix y10)) = y6 → ((y10 ≤ y7 → (T_groundOf_28 E q (d + 3) P S y1 y2 y3 y4 y5 y6 y7 y9 (y10 + 1))) ∧ (¬ y10 ≤ y7 → ((y9 = (-1) → (T_groundOf_28 E q (d + 3) P S y1 y2 y3 y4 y5 y6 y7 y10 (y10 + 1))) ∧ (¬ y9 = (-1) → ((0 ≤ y9 ∧ y9 < 100) ∧ (((a_digFrom S (ix y9)) ≤ (a_digFrom S (ix y10)) → (T_groundOf_28 E q (d + 3) P S y1 y2 y3 y4 y5 y6 y7 y9 (y10 + 1))) ∧ (¬ (a_digFrom S (ix y9)) ≤ (a_digFrom S (ix y10)) → (T_groundOf_28 E q (d + 3) P S y1 y2 y3 y4 y5 y6 y7 y10 (y10 + 1)))))))))))))) ∧ (¬ (a_digFrom S (ix y10)) ≤ y3 → (T_groundOf_28 E q (d + 3) P S y1 y2 y3 y4 y5 y6 y7 y9 (y10 + 1))))))))))))) : T_groundOf_28 E q (d + 3) P S y1 y2 y3 y4 y5 y6 y7 y9 y10 := by
  refine r_iload 9 dX12_groundOf_28 rfl ?_
  refine r_aload_n 0 dX12_groundOf_30 rfl rfl ?_
  refine mg_4 rfl dX12_groundOf_31 ?_
  refine r_icmp_ge (tgt := 149) dX12_groundOf_34 (by decide) (fun c1 => ?_) (fun c1 => ?_)
  · have h := h.1 c1
    refine r_iload 8 dX12_groundOf_149 rfl ?_
    refine r_iconst_m1 dX12_groundOf_151 ?_
    refine r_icmp_eq (tgt := 159) dX12_groundOf_152 (by decide) (fun c2 => ?_) (fun c2 => ?_)
    · have h := h.1 c2
      refine r_iconst_0 dX12_groundOf_159 ?_
      refine r_istore [(8, .int (0)), (0, .ref (q 0)), (1, .int (y1)), (2, .int (y2)), (3, .int (y3)), (4, .int (y4)), (5, .int (y5)), (6, .int (y6)), (7, .int (y7)), (9, .int (y9)), (10, .int (y10))] dX12_groundOf_160 (Nat.le_of_ble_eq_true rfl) rfl ?_
      refine r_iload 0 dX12_groundOf_162 rfl ?_
      refine r_if_ne (tgt := 170) dX12_groundOf_164 (by decide) (fun z => absurd z (by decide)) (fun _ => ?_)
      refine r_goto (tgt := 17) dX12_groundOf_167 (by decide) ?_
      refine r_ls [1, 2, 3, 4, 5, 6, 7, 8, 0] (ls2 := [(0, .ref (q 0)), (1, .int (y1)), (2, .int (y2)), (3, .int (y3)), (4, .int (y4)), (5, .int (y5)), (6, .int (y6)), (7, .int (y7)), (8, .int (0))]) rfl ?_
      exact h
    · have h := h.2 c2
      refine r_iconst_1 dX12_groundOf_155 ?_
      refine r_goto (tgt := 160) dX12_groundOf_156 (by decide) ?_
      refine r_istore [(8, .int (1)), (0, .ref (q 0)), (1, .int (y1)), (2, .int (y2)), (3, .int (y3)), (4, .int (y4)), (5, .int (y5)), (6, .int (y6)), (7, .int (y7)), (9, .int (y9)), (10, .int (y10))] dX12_groundOf_160 (Nat.le_of_ble_eq_true rfl) rfl ?_
      refine r_iload 0 dX12_groundOf_162 rfl ?_
      refine r_if_ne (tgt := 170) dX12_groundOf_164 (by decide) (fun _ => ?_) (fun z => absurd z (by decide))
      refine r_iload 9 dX12_groundOf_170 rfl ?_
      refine r_istore [(7, .int (y9)), (8, .int (1)), (0, .ref (q 0)), (1, .int (y1)), (2, .int (y2)), (3, .int (y3)), (4, .int (y4)), (5, .int (y5)), (6, .int (y6)), (9, .int (y9)), (10, .int (y10))] dX12_groundOf_172 (Nat.le_of_ble_eq_true rfl) rfl ?_
      refine r_aload_n 2 dX12_groundOf_174 rfl rfl ?_
      refine mg_16 rfl dX12_groundOf_175 ?_
      refine r_iload 9 dX12_groundOf_178 rfl ?_
      obtain ⟨b5, h⟩ := h
      refine ml_16 b5 dX12_groundOf_180 ?_
      refine r_istore [(6, .int (a_digFrom S (ix y9))), (7, .int (y9)), (8, .int (1)), (0, .ref (q 0)), (1, .int (y1)), (2, .int (y2)), (3, .int (y3)), (4, .int (y4)), (5, .int (y5)), (9, .int (y9)), (10, .int (y10))] dX12_groundOf_181 (Nat.le_of_ble_eq_true rfl) rfl ?_
      refine r_aload_n 3 dX12_groundOf_183 rfl rfl ?_
      refine mg_11 rfl dX12_groundOf_184 ?_
      refine r_iload 9 dX12_groundOf_187 rfl ?_
      refine ml_11 b5 dX12_groundOf_189 ?_
      refine r_istore [(10, .int (a_digKind S (ix y9))), (6, .int (a_digFrom S (ix y9))), (7, .int (y9)), (8, .int (1)), (0, .ref (q 0)), (1, .int (y1)), (2, .int (y2)), (3, .int (y3)), (4, .int (y4)), (5, .int (y5)), (9, .int (y9))] dX12_groundOf_190 (Nat.le_of_ble_eq_true rfl) rfl ?_
      refine r_iload 9 dX12_groundOf_192 rfl ?_
      refine r_if_ne (tgt := 209) dX12_groundOf_194 (by decide) (fun c6 => ?_) (fun c6 => ?_)
      · have h := h.1 c6
        refine r_iload 0 dX12_groundOf_209 rfl ?_
        refine r_if_ne (tgt := 220) dX12_groundOf_211 (by decide) (fun c7 => ?_) (fun c7 => ?_)
        · have h := h.1 c7
          refine r_iload 0 dX12_groundOf_220 rfl ?_
          refine r_iconst_1 dX12_groundOf_222 ?_
          refine r_icmp_ne (tgt := 242) dX12_groundOf_223 (by decide) (fun c8 => ?_) (fun c8 => ?_)
          · have h := h.1 c8
            refine r_iload 9 dX12_groundOf_242 rfl ?_
            refine r_iconst_1 dX12_groundOf_244 ?_
            refine r_icmp_eq (tgt := 254) dX12_groundOf_245 (by decide) (fun c9 => ?_) (fun c9 => ?_)
            · have h := h.1 c9
              refine r_iconst_3 dX12_groundOf_254 ?_
              refine r_goto (tgt := 260) dX12_groundOf_255 (by decide) ?_
              refine r_istore [(5, .int (3)), (10, .int (a_digKind S (ix y9))), (6, .int (a_digFrom S (ix y9))), (7, .int (y9)), (8, .int (1)), (0, .ref (q 0)), (1, .int (y1)), (2, .int (y2)), (3, .int (y3)), (4, .int (y4)), (9, .int (y9))] dX12_groundOf_260 (Nat.le_of_ble_eq_true rfl) rfl ?_
              refine r_goto (tgt := 17) dX12_groundOf_262 (by decide) ?_
              refine r_ls [5, 6, 7, 8, 9, 0, 2, 3, 4] (ls2 := [(0, .ref (q 0)), (1, .int (y1)), (2, .int (y2)), (3, .int (y3)), (4, .int (y4)), (5, .int (3)), (6, .int (a_digFrom S (ix y9))), (7, .int (y9)), (8, .int (1))]) rfl ?_
              exact h
            · have h := h.2 c9
              refine r_iload 9 dX12_groundOf_248 rfl ?_
              refine r_iconst_2 dX12_groundOf_250 ?_
              refine r_icmp_ne (tgt := 258) dX12_groundOf_251 (by decide) (fun c10 => ?_) (fun c10 => ?_)
              · have h := h.1 c10
                refine r_iload 9 dX12_groundOf_258 rfl ?_
                refine r_istore [(5, .int (y5)), (10, .int (a_digKind S (ix y9))), (6, .int (a_digFrom S (ix y9))), (7, .int (y9)), (8, .int (1)), (0, .ref (q 0)), (1, .int (y1)), (2, .int (y2)), (3, .int (y3)), (4, .int (y4)), (9, .int (y9))] dX12_groundOf_260 (Nat.le_of_ble_eq_true rfl) rfl ?_
                refine r_goto (tgt := 17) dX12_groundOf_262 (by decide) ?_
                refine r_ls [5, 6, 7, 8, 9, 0, 2, 3, 4] (ls2 := [(0, .ref (q 0)), (1, .int (y1)), (2, .int (y2)), (3, .int (y3)), (4, .int (y4)), (5, .int (y5)), (6, .int (a_digFrom S (ix y9))), (7, .int (y9)), (8, .int (1))]) rfl ?_
                exact h
              · have h := h.2 c10
                refine r_iconst_3 dX12_groundOf_254 ?_
                refine r_goto (tgt := 260) dX12_groundOf_255 (by decide) ?_
                refine r_istore [(5, .int (3)), (10, .int (a_digKind S (ix y9))), (6, .int (a_digFrom S (ix y9))), (7, .int (y9)), (8, .int (1)), (0, .ref (q 0)), (1, .int (y1)), (2, .int (y2)), (3, .int (y3)), (4, .int (y4)), (9, .int (y9))] dX12_groundOf_260 (Nat.le_of_ble_eq_true rfl) rfl ?_
                refine r_goto (tgt := 17) dX12_groundOf_262 (by decide) ?_
                refine r_ls [5, 6, 7, 8, 9, 0, 2, 3, 4] (ls2 := [(0, .ref (q 0)), (1, .int (y1)), (2, .int (y2)), (3, .int (y3)), (4, .int (y4)), (5, .int (3)), (6, .int (a_digFrom S (ix y9))), (7, .int (y9)), (8, .int (1))]) rfl ?_
                exact h
          · have h := h.2 c8
            refine r_iload 9 dX12_groundOf_226 rfl ?_
            refine r_if_ne (tgt := 235) dX12_groundOf_228 (by decide) (fun c11 => ?_) (fun c11 => ?_)
            · have h := h.1 c11
              refine r_iload 9 dX12_groundOf_235 rfl ?_
              refine r_istore [(5, .int (y5)), (10, .int (a_digKind S (ix y9))), (6, .int (a_digFrom S (ix y9))), (7, .int (y9)), (8, .int (1)), (0, .ref (q 0)), (1, .int (y1)), (2, .int (y2)), (3, .int (y3)), (4, .int (y4)), (9, .int (y9))] dX12_groundOf_237 (Nat.le_of_ble_eq_true rfl) rfl ?_
              refine r_goto (tgt := 262) dX12_groundOf_239 (by decide) ?_
              refine r_goto (tgt := 17) dX12_groundOf_262 (by decide) ?_
              refine r_ls [5, 6, 7, 8, 9, 0, 2, 3, 4] (ls2 := [(0, .ref (q 0)), (1, .int (y1)), (2, .int (y2)), (3, .int (y3)), (4, .int (y4)), (5, .int (y5)), (6, .int (a_digFrom S (ix y9))), (7, .int (y9)), (8, .int (1))]) rfl ?_
              exact h
            · have h := h.2 c11
              refine r_iconst_1 dX12_groundOf_231 ?_
              refine r_goto (tgt := 237) dX12_groundOf_232 (by decide) ?_
              refine r_istore [(5, .int (1)), (10, .int (a_digKind S (ix y9))), (6, .int (a_digFrom S (ix y9))), (7, .int (y9)), (8, .int (1)), (0, .ref (q 0)), (1, .int (y1)), (2, .int (y2)), (3, .int (y3)), (4, .int (y4)), (9, .int (y9))] dX12_groundOf_237 (Nat.le_of_ble_eq_true rfl) rfl ?_
              refine r_goto (tgt := 262) dX12_groundOf_239 (by decide) ?_
              refine r_goto (tgt := 17) dX12_groundOf_262 (by decide) ?_
              refine r_ls [5, 6, 7, 8, 9, 0, 2, 3, 4] (ls2 := [(0, .ref (q 0)), (1, .int (y1)), (2, .int (y2)), (3, .int (y3)), (4, .int (y4)), (5, .int (1)), (6, .int (a_digFrom S (ix y9))), (7, .int (y9)), (8, .int (1))]) rfl ?_
              exact h
        · have h := h.2 c7
          refine r_iconst_2 dX12_groundOf_214 ?_
          refine r_istore [(5, .int (2)), (10, .int (a_digKind S (ix y9))), (6, .int (a_digFrom S (ix y9))), (7, .int (y9)), (8, .int (1)), (0, .ref (q 0)), (1, .int (y1)), (2, .int (y2)), (3, .int (y3)), (4, .int (y4)), (9, .int (y9))] dX12_groundOf_215 (Nat.le_of_ble_eq_true rfl) rfl ?_
          refine r_goto (tgt := 262) dX12_groundOf_217 (by decide) ?_
          refine r_goto (tgt := 17) dX12_groundOf_262 (by decide) ?_
          refine r_ls [5, 6, 7, 8, 9, 0, 2, 3, 4] (ls2 := [(0, .ref (q 0)), (1, .int (y1)), (2, .int (y2)), (3, .int (y3)), (4, .int (y4)), (5, .int (2)), (6, .int (a_digFrom S (ix y9))), (7, .int (y9)), (8, .int (1))]) rfl ?_
          exact h
      · have h := h.2 c6
        refine r_iload 0 dX12_groundOf_197 rfl ?_
        refine r_iconst_2 dX12_groundOf_199 ?_
        refine r_icmp_eq (tgt := 209) dX12_groundOf_200 (by decide) (fun c12 => ?_) (fun c12 => ?_)
        · have h := h.1 c12
          refine r_iload 0 dX12_groundOf_209 rfl ?_
          refine r_if_ne (tgt := 220) dX12_groundOf_211 (by decide) (fun c13 => ?_) (fun c13 => ?_)
          · have h := h.1 c13
            refine r_iload 0 dX12_groundOf_220 rfl ?_
            refine r_iconst_1 dX12_groundOf_222 ?_
            refine r_icmp_ne (tgt := 242) dX12_groundOf_223 (by decide) (fun c14 => ?_) (fun c14 => ?_)
            · have h := h.1 c14
              refine r_iload 9 dX12_groundOf_242 rfl ?_
              refine r_iconst_1 dX12_groundOf_244 ?_
              refine r_icmp_eq (tgt := 254) dX12_groundOf_245 (by decide) (fun c15 => ?_) (fun c15 => ?_)
              · have h := h.1 c15
                refine r_iconst_3 dX12_groundOf_254 ?_
                refine r_goto (tgt := 260) dX12_groundOf_255 (by decide) ?_
                refine r_istore [(5, .int (3)), (10, .int (a_digKind S (ix y9))), (6, .int (a_digFrom S (ix y9))), (7, .int (y9)), (8, .int (1)), (0, .ref (q 0)), (1, .int (y1)), (2, .int (y2)), (3, .int (y3)), (4, .int (y4)), (9, .int (y9))] dX12_groundOf_260 (Nat.le_of_ble_eq_true rfl) rfl ?_
                refine r_goto (tgt := 17) dX12_groundOf_262 (by decide) ?_
                refine r_ls [5, 6, 7, 8, 9, 0, 2, 3, 4] (ls2 := [(0, .ref (q 0)), (1, .int (y1)), (2, .int (y2)), (3, .int (y3)), (4, .int (y4)), (5, .int (3)), (6, .int (a_digFrom S (ix y9))), (7, .int (y9)), (8, .int (1))]) rfl ?_
                exact h
              · have h := h.2 c15
                refine r_iload 9 dX12_groundOf_248 rfl ?_
                refine r_iconst_2 dX12_groundOf_250 ?_
                refine r_icmp_ne (tgt := 258) dX12_groundOf_251 (by decide) (fun c16 => ?_) (fun c16 => ?_)
                · have h := h.1 c16
                  refine r_iload 9 dX12_groundOf_258 rfl ?_
                  refine r_istore [(5, .int (y5)), (10, .int (a_digKind S (ix y9))), (6, .int (a_digFrom S (ix y9))), (7, .int (y9)), (8, .int (1)), (0, .ref (q 0)), (1, .int (y1)), (2, .int (y2)), (3, .int (y3)), (4, .int (y4)), (9, .int (y9))] dX12_groundOf_260 (Nat.le_of_ble_eq_true rfl) rfl ?_
                  refine r_goto (tgt := 17) dX12_groundOf_262 (by decide) ?_
                  refine r_ls [5, 6, 7, 8, 9, 0, 2, 3, 4] (ls2 := [(0, .ref (q 0)), (1, .int (y1)), (2, .int (y2)), (3, .int (y3)), (4, .int (y4)), (5, .int (y5)), (6, .int (a_digFrom S (ix y9))), (7, .int (y9)), (8, .int (1))]) rfl ?_
                  exact h
                · have h := h.2 c16
                  refine r_iconst_3 dX12_groundOf_254 ?_
                  refine r_goto (tgt := 260) dX12_groundOf_255 (by decide) ?_
                  refine r_istore [(5, .int (3)), (10, .int (a_digKind S (ix y9))), (6, .int (a_digFrom S (ix y9))), (7, .int (y9)), (8, .int (1)), (0, .ref (q 0)), (1, .int (y1)), (2, .int (y2)), (3, .int (y3)), (4, .int (y4)), (9, .int (y9))] dX12_groundOf_260 (Nat.le_of_ble_eq_true rfl) rfl ?_
                  refine r_goto (tgt := 17) dX12_groundOf_262 (by decide) ?_
                  refine r_ls [5, 6, 7, 8, 9, 0, 2, 3, 4] (ls2 := [(0, .ref (q 0)), (1, .int (y1)), (2, .int (y2)), (3, .int (y3)), (4, .int (y4)), (5, .int (3)), (6, .int (a_digFrom S (ix y9))), (7, .int (y9)), (8, .int (1))]) rfl ?_
                  exact h
            · have h := h.2 c14
              refine r_iload 9 dX12_groundOf_226 rfl ?_
              refine r_if_ne (tgt := 235) dX12_groundOf_228 (by decide) (fun c17 => ?_) (fun c17 => ?_)
              · have h := h.1 c17
                refine r_iload 9 dX12_groundOf_235 rfl ?_
                refine r_istore [(5, .int (y5)), (10, .int (a_digKind S (ix y9))), (6, .int (a_digFrom S (ix y9))), (7, .int (y9)), (8, .int (1)), (0, .ref (q 0)), (1, .int (y1)), (2, .int (y2)), (3, .int (y3)), (4, .int (y4)), (9, .int (y9))] dX12_groundOf_237 (Nat.le_of_ble_eq_true rfl) rfl ?_
                refine r_goto (tgt := 262) dX12_groundOf_239 (by decide) ?_
                refine r_goto (tgt := 17) dX12_groundOf_262 (by decide) ?_
                refine r_ls [5, 6, 7, 8, 9, 0, 2, 3, 4] (ls2 := [(0, .ref (q 0)), (1, .int (y1)), (2, .int (y2)), (3, .int (y3)), (4, .int (y4)), (5, .int (y5)), (6, .int (a_digFrom S (ix y9))), (7, .int (y9)), (8, .int (1))]) rfl ?_
                exact h
              · have h := h.2 c17
                refine r_iconst_1 dX12_groundOf_231 ?_
                refine r_goto (tgt := 237) dX12_groundOf_232 (by decide) ?_
                refine r_istore [(5, .int (1)), (10, .int (a_digKind S (ix y9))), (6, .int (a_digFrom S (ix y9))), (7, .int (y9)), (8, .int (1)), (0, .ref (q 0)), (1, .int (y1)), (2, .int (y2)), (3, .int (y3)), (4, .int (y4)), (9, .int (y9))] dX12_groundOf_237 (Nat.le_of_ble_eq_true rfl) rfl ?_
                refine r_goto (tgt := 262) dX12_groundOf_239 (by decide) ?_
                refine r_goto (tgt := 17) dX12_groundOf_262 (by decide) ?_
                refine r_ls [5, 6, 7, 8, 9, 0, 2, 3, 4] (ls2 := [(0, .ref (q 0)), (1, .int (y1)), (2, .int (y2)), (3, .int (y3)), (4, .int (y4)), (5, .int (1)), (6, .int (a_digFrom S (ix y9))), (7, .int (y9)), (8, .int (1))]) rfl ?_
                exact h
          · have h := h.2 c13
            refine r_iconst_2 dX12_groundOf_214 ?_
            refine r_istore [(5, .int (2)), (10, .int (a_digKind S (ix y9))), (6, .int (a_digFrom S (ix y9))), (7, .int (y9)), (8, .int (1)), (0, .ref (q 0)), (1, .int (y1)), (2, .int (y2)), (3, .int (y3)), (4, .int (y4)), (9, .int (y9))] dX12_groundOf_215 (Nat.le_of_ble_eq_true rfl) rfl ?_
            refine r_goto (tgt := 262) dX12_groundOf_217 (by decide) ?_
            refine r_goto (tgt := 17) dX12_groundOf_262 (by decide) ?_
            refine r_ls [5, 6, 7, 8, 9, 0, 2, 3, 4] (ls2 := [(0, .ref (q 0)), (1, .int (y1)), (2, .int (y2)), (3, .int (y3)), (4, .int (y4)), (5, .int (2)), (6, .int (a_digFrom S (ix y9))), (7, .int (y9)), (8, .int (1))]) rfl ?_
            exact h
        · have h := h.2 c12
          refine r_aload_n 4 dX12_groundOf_203 rfl rfl ?_
          refine r_iload 10 dX12_groundOf_204 rfl ?_
          refine mq_20 rfl dX12_groundOf_206 ?_
          refine r_iload 0 dX12_groundOf_209 rfl ?_
          refine r_if_ne (tgt := 220) dX12_groundOf_211 (by decide) (fun c18 => ?_) (fun c18 => ?_)
          · have h := h.1 c18
            refine r_iload 0 dX12_groundOf_220 rfl ?_
            refine r_iconst_1 dX12_groundOf_222 ?_
            refine r_icmp_ne (tgt := 242) dX12_groundOf_223 (by decide) (fun c19 => ?_) (fun c19 => ?_)
            · have h := h.1 c19
              refine r_iload 9 dX12_groundOf_242 rfl ?_
              refine r_iconst_1 dX12_groundOf_244 ?_
              refine r_icmp_eq (tgt := 254) dX12_groundOf_245 (by decide) (fun c20 => ?_) (fun c20 => ?_)
              · have h := h.1 c20
                refine r_iconst_3 dX12_groundOf_254 ?_
                refine r_goto (tgt := 260) dX12_groundOf_255 (by decide) ?_
                refine r_istore [(5, .int (3)), (10, .int (a_digKind S (ix y9))), (6, .int (a_digFrom S (ix y9))), (7, .int (y9)), (8, .int (1)), (0, .ref (q 0)), (1, .int (y1)), (2, .int (y2)), (3, .int (y3)), (4, .int (y4)), (9, .int (y9))] dX12_groundOf_260 (Nat.le_of_ble_eq_true rfl) rfl ?_
                refine r_goto (tgt := 17) dX12_groundOf_262 (by decide) ?_
                refine r_ls [5, 6, 7, 8, 9, 0, 2, 3, 4] (ls2 := [(0, .ref (q 0)), (1, .int (y1)), (2, .int (y2)), (3, .int (y3)), (4, .int (y4)), (5, .int (3)), (6, .int (a_digFrom S (ix y9))), (7, .int (y9)), (8, .int (1))]) rfl ?_
                exact h
              · have h := h.2 c20
                refine r_iload 9 dX12_groundOf_248 rfl ?_
                refine r_iconst_2 dX12_groundOf_250 ?_
                refine r_icmp_ne (tgt := 258) dX12_groundOf_251 (by decide) (fun c21 => ?_) (fun c21 => ?_)
                · have h := h.1 c21
                  refine r_iload 9 dX12_groundOf_258 rfl ?_
                  refine r_istore [(5, .int (y5)), (10, .int (a_digKind S (ix y9))), (6, .int (a_digFrom S (ix y9))), (7, .int (y9)), (8, .int (1)), (0, .ref (q 0)), (1, .int (y1)), (2, .int (y2)), (3, .int (y3)), (4, .int (y4)), (9, .int (y9))] dX12_groundOf_260 (Nat.le_of_ble_eq_true rfl) rfl ?_
                  refine r_goto (tgt := 17) dX12_groundOf_262 (by decide) ?_
                  refine r_ls [5, 6, 7, 8, 9, 0, 2, 3, 4] (ls2 := [(0, .ref (q 0)), (1, .int (y1)), (2, .int (y2)), (3, .int (y3)), (4, .int (y4)), (5, .int (y5)), (6, .int (a_digFrom S (ix y9))), (7, .int (y9)), (8, .int (1))]) rfl ?_
                  exact h
                · have h := h.2 c21
                  refine r_iconst_3 dX12_groundOf_254 ?_
                  refine r_goto (tgt := 260) dX12_groundOf_255 (by decide) ?_
                  refine r_istore [(5, .int (3)), (10, .int (a_digKind S (ix y9))), (6, .int (a_digFrom S (ix y9))), (7, .int (y9)), (8, .int (1)), (0, .ref (q 0)), (1, .int (y1)), (2, .int (y2)), (3, .int (y3)), (4, .int (y4)), (9, .int (y9))] dX12_groundOf_260 (Nat.le_of_ble_eq_true rfl) rfl ?_
                  refine r_goto (tgt := 17) dX12_groundOf_262 (by decide) ?_
                  refine r_ls [5, 6, 7, 8, 9, 0, 2, 3, 4] (ls2 := [(0, .ref (q 0)), (1, .int (y1)), (2, .int (y2)), (3, .int (y3)), (4, .int (y4)), (5, .int (3)), (6, .int (a_digFrom S (ix y9))), (7, .int (y9)), (8, .int (1))]) rfl ?_
                  exact h
            · have h := h.2 c19
              refine r_iload 9 dX12_groundOf_226 rfl ?_
              refine r_if_ne (tgt := 235) dX12_groundOf_228 (by decide) (fun c22 => ?_) (fun c22 => ?_)
              · have h := h.1 c22
                refine r_iload 9 dX12_groundOf_235 rfl ?_
                refine r_istore [(5, .int (y5)), (10, .int (a_digKind S (ix y9))), (6, .int (a_digFrom S (ix y9))), (7, .int (y9)), (8, .int (1)), (0, .ref (q 0)), (1, .int (y1)), (2, .int (y2)), (3, .int (y3)), (4, .int (y4)), (9, .int (y9))] dX12_groundOf_237 (Nat.le_of_ble_eq_true rfl) rfl ?_
                refine r_goto (tgt := 262) dX12_groundOf_239 (by decide) ?_
                refine r_goto (tgt := 17) dX12_groundOf_262 (by decide) ?_
                refine r_ls [5, 6, 7, 8, 9, 0, 2, 3, 4] (ls2 := [(0, .ref (q 0)), (1, .int (y1)), (2, .int (y2)), (3, .int (y3)), (4, .int (y4)), (5, .int (y5)), (6, .int (a_digFrom S (ix y9))), (7, .int (y9)), (8, .int (1))]) rfl ?_
                exact h
              · have h := h.2 c22
                refine r_iconst_1 dX12_groundOf_231 ?_
                refine r_goto (tgt := 237) dX12_groundOf_232 (by decide) ?_
                refine r_istore [(5, .int (1)), (10, .int (a_digKind S (ix y9))), (6, .int (a_digFrom S (ix y9))), (7, .int (y9)), (8, .int (1)), (0, .ref (q 0)), (1, .int (y1)), (2, .int (y2)), (3, .int (y3)), (4, .int (y4)), (9, .int (y9))] dX12_groundOf_237 (Nat.le_of_ble_eq_true rfl) rfl ?_
                refine r_goto (tgt := 262) dX12_groundOf_239 (by decide) ?_
                refine r_goto (tgt := 17) dX12_groundOf_262 (by decide) ?_
                refine r_ls [5, 6, 7, 8, 9, 0, 2, 3, 4] (ls2 := [(0, .ref (q 0)), (1, .int (y1)), (2, .int (y2)), (3, .int (y3)), (4, .int (y4)), (5, .int (1)), (6, .int (a_digFrom S (ix y9))), (7, .int (y9)), (8, .int (1))]) rfl ?_
                exact h
          · have h := h.2 c18
            refine r_iconst_2 dX12_groundOf_214 ?_
            refine r_istore [(5, .int (2)), (10, .int (a_digKind S (ix y9))), (6, .int (a_digFrom S (ix y9))), (7, .int (y9)), (8, .int (1)), (0, .ref (q 0)), (1, .int (y1)), (2, .int (y2)), (3, .int (y3)), (4, .int (y4)), (9, .int (y9))] dX12_groundOf_215 (Nat.le_of_ble_eq_true rfl) rfl ?_
            refine r_goto (tgt := 262) dX12_groundOf_217 (by decide) ?_
            refine r_goto (tgt := 17) dX12_groundOf_262 (by decide) ?_
            refine r_ls [5, 6, 7, 8, 9, 0, 2, 3, 4] (ls2 := [(0, .ref (q 0)), (1, .int (y1)), (2, .int (y2)), (3, .int (y3)), (4, .int (y4)), (5, .int (2)), (6, .int (a_digFrom S (ix y9))), (7, .int (y9)), (8, .int (1))]) rfl ?_
            exact h
  · have h := h.2 c1
    refine r_aload_n 0 dX12_groundOf_37 rfl rfl ?_
    refine r_iload 9 dX12_groundOf_38 rfl ?_
    refine r_iload 4 dX12_groundOf_40 rfl ?_
    obtain ⟨b23, h⟩ := h
    refine KP_isKnown (d := d + 2) b23 rfl (Nat.le_of_ble_eq_true rfl) dX12_groundOf_42 ?_
    refine r_if_eqb (tgt := 143) dX12_groundOf_45 (by decide) (fun c24 => ?_) (fun c24 => ?_)
    · have h := h.1 c24
      refine r_iinc 9 [(10, .int (y10 + 1)), (0, .ref (q 0)), (1, .int (y1)), (2, .int (y2)), (3, .int (y3)), (4, .int (y4)), (5, .int (y5)), (6, .int (y6)), (7, .int (y7)), (9, .int (y9))] dX12_groundOf_143 rfl rfl (Nat.le_of_ble_eq_true rfl) rfl ?_
      refine r_goto (tgt := 28) dX12_groundOf_146 (by decide) ?_
      refine r_ls [1, 2, 3, 4, 5, 6, 7, 8, 9, 0] (ls2 := [(0, .ref (q 0)), (1, .int (y1)), (2, .int (y2)), (3, .int (y3)), (4, .int (y4)), (5, .int (y5)), (6, .int (y6)), (7, .int (y7)), (9, .int (y9)), (10, .int (y10 + 1))]) rfl ?_
      exact h
    · have h := h.2 c24
      refine r_aload_n 0 dX12_groundOf_48 rfl rfl ?_
      refine r_iload 9 dX12_groundOf_49 rfl ?_
      refine r_iload_n 1 dX12_groundOf_51 rfl rfl ?_
      refine r_iload_n 2 dX12_groundOf_52 rfl rfl ?_
      obtain ⟨b25, h⟩ := h
      refine KP_has (d := d + 0) b25 rfl (Nat.le_of_ble_eq_true rfl) dX12_groundOf_53 ?_
      refine r_if_eqb (tgt := 143) dX12_groundOf_56 (by decide) (fun c26 => ?_) (fun c26 => ?_)
      · have h := h.1 c26
        refine r_iinc 9 [(10, .int (y10 + 1)), (0, .ref (q 0)), (1, .int (y1)), (2, .int (y2)), (3, .int (y3)), (4, .int (y4)), (5, .int (y5)), (6, .int (y6)), (7, .int (y7)), (9, .int (y9))] dX12_groundOf_143 rfl rfl (Nat.le_of_ble_eq_true rfl) rfl ?_
        refine r_goto (tgt := 28) dX12_groundOf_146 (by decide) ?_
        refine r_ls [1, 2, 3, 4, 5, 6, 7, 8, 9, 0] (ls2 := [(0, .ref (q 0)), (1, .int (y1)), (2, .int (y2)), (3, .int (y3)), (4, .int (y4)), (5, .int (y5)), (6, .int (y6)), (7, .int (y7)), (9, .int (y9)), (10, .int (y10 + 1))]) rfl ?_
        exact h
      · have h := h.2 c26
        refine r_aload_n 0 dX12_groundOf_59 rfl rfl ?_
        refine mg_16 rfl dX12_groundOf_60 ?_
        refine r_iload 9 dX12_groundOf_63 rfl ?_
        obtain ⟨b27, h⟩ := h
        refine ml_16 b27 dX12_groundOf_65 ?_
        refine r_iload_n 3 dX12_groundOf_66 rfl rfl ?_
        refine r_icmp_le (tgt := 73) dX12_groundOf_67 (by decide) (fun c28 => ?_) (fun c28 => ?_)
        · have h := h.1 c28
          refine r_aload_n 0 dX12_groundOf_73 rfl rfl ?_
          refine mg_16 rfl dX12_groundOf_74 ?_
          refine r_iload 9 dX12_groundOf_77 rfl ?_
          refine ml_16 b27 dX12_groundOf_79 ?_
          refine r_iload 6 dX12_groundOf_80 rfl ?_
          refine r_icmp_gt (tgt := 104) dX12_groundOf_82 (by decide) (fun c29 => ?_) (fun c29 => ?_)
          · have h := h.1 c29
            refine r_iconst_1 dX12_groundOf_104 ?_
            refine r_goto (tgt := 109) dX12_groundOf_105 (by decide) ?_
            refine r_istore [(11, .int (1)), (0, .ref (q 0)), (1, .int (y1)), (2, .int (y2)), (3, .int (y3)), (4, .int (y4)), (5, .int (y5)), (6, .int (y6)), (7, .int (y7)), (9, .int (y9)), (10, .int (y10))] dX12_groundOf_109 (Nat.le_of_ble_eq_true rfl) rfl ?_
            refine r_iload 0 dX12_groundOf_111 rfl ?_
            refine r_if_eq (tgt := 143) dX12_groundOf_113 (by decide) (fun z => absurd z (by decide)) (fun _ => ?_)
            refine r_iload 9 dX12_groundOf_116 rfl ?_
            refine r_iconst_m1 dX12_groundOf_118 ?_
            refine r_icmp_eq (tgt := 139) dX12_groundOf_119 (by decide) (fun c31 => ?_) (fun c31 => ?_)
            · have h := h.1 c31
              refine r_iload 10 dX12_groundOf_139 rfl ?_
              refine r_istore [(9, .int (y10)), (11, .int (1)), (0, .ref (q 0)), (1, .int (y1)), (2, .int (y2)), (3, .int (y3)), (4, .int (y4)), (5, .int (y5)), (6, .int (y6)), (7, .int (y7)), (10, .int (y10))] dX12_groundOf_141 (Nat.le_of_ble_eq_true rfl) rfl ?_
              refine r_iinc 10 [(10, .int (y10 + 1)), (9, .int (y10)), (11, .int (1)), (0, .ref (q 0)), (1, .int (y1)), (2, .int (y2)), (3, .int (y3)), (4, .int (y4)), (5, .int (y5)), (6, .int (y6)), (7, .int (y7))] dX12_groundOf_143 rfl rfl (Nat.le_of_ble_eq_true rfl) rfl ?_
              refine r_goto (tgt := 28) dX12_groundOf_146 (by decide) ?_
              refine r_ls [3, 4, 5, 6, 7, 8, 9, 10, 1, 0] (ls2 := [(0, .ref (q 0)), (1, .int (y1)), (2, .int (y2)), (3, .int (y3)), (4, .int (y4)), (5, .int (y5)), (6, .int (y6)), (7, .int (y7)), (9, .int (y10)), (10, .int (y10 + 1))]) rfl ?_
              exact h
            · have h := h.2 c31
              refine r_aload_n 1 dX12_groundOf_122 rfl rfl ?_
              refine mg_16 rfl dX12_groundOf_123 ?_
              refine r_iload 10 dX12_groundOf_126 rfl ?_
              refine ml_16 b27 dX12_groundOf_128 ?_
              refine r_aload_n 1 dX12_groundOf_129 rfl rfl ?_
              refine mg_16 rfl dX12_groundOf_130 ?_
              refine r_iload 9 dX12_groundOf_133 rfl ?_
              obtain ⟨b32, h⟩ := h
              refine ml_16 b32 dX12_groundOf_135 ?_
              refine r_icmp_ge (tgt := 143) dX12_groundOf_136 (by decide) (fun c33 => ?_) (fun c33 => ?_)
              · have h := h.1 c33
                refine r_iinc 10 [(10, .int (y10 + 1)), (11, .int (1)), (0, .ref (q 0)), (1, .int (y1)), (2, .int (y2)), (3, .int (y3)), (4, .int (y4)), (5, .int (y5)), (6, .int (y6)), (7, .int (y7)), (9, .int (y9))] dX12_groundOf_143 rfl rfl (Nat.le_of_ble_eq_true rfl) rfl ?_
                refine r_goto (tgt := 28) dX12_groundOf_146 (by decide) ?_
                refine r_ls [2, 3, 4, 5, 6, 7, 8, 9, 10, 0] (ls2 := [(0, .ref (q 0)), (1, .int (y1)), (2, .int (y2)), (3, .int (y3)), (4, .int (y4)), (5, .int (y5)), (6, .int (y6)), (7, .int (y7)), (9, .int (y9)), (10, .int (y10 + 1))]) rfl ?_
                exact h
              · have h := h.2 c33
                refine r_iload 10 dX12_groundOf_139 rfl ?_
                refine r_istore [(9, .int (y10)), (11, .int (1)), (0, .ref (q 0)), (1, .int (y1)), (2, .int (y2)), (3, .int (y3)), (4, .int (y4)), (5, .int (y5)), (6, .int (y6)), (7, .int (y7)), (10, .int (y10))] dX12_groundOf_141 (Nat.le_of_ble_eq_true rfl) rfl ?_
                refine r_iinc 10 [(10, .int (y10 + 1)), (9, .int (y10)), (11, .int (1)), (0, .ref (q 0)), (1, .int (y1)), (2, .int (y2)), (3, .int (y3)), (4, .int (y4)), (5, .int (y5)), (6, .int (y6)), (7, .int (y7))] dX12_groundOf_143 rfl rfl (Nat.le_of_ble_eq_true rfl) rfl ?_
                refine r_goto (tgt := 28) dX12_groundOf_146 (by decide) ?_
                refine r_ls [3, 4, 5, 6, 7, 8, 9, 10, 1, 0] (ls2 := [(0, .ref (q 0)), (1, .int (y1)), (2, .int (y2)), (3, .int (y3)), (4, .int (y4)), (5, .int (y5)), (6, .int (y6)), (7, .int (y7)), (9, .int (y10)), (10, .int (y10 + 1))]) rfl ?_
                exact h
          · have h := h.2 c29
            refine r_aload_n 0 dX12_groundOf_85 rfl rfl ?_
            refine mg_16 rfl dX12_groundOf_86 ?_
            refine r_iload 9 dX12_groundOf_89 rfl ?_
            refine ml_16 b27 dX12_groundOf_91 ?_
            refine r_iload 6 dX12_groundOf_92 rfl ?_
            refine r_icmp_ne (tgt := 108) dX12_groundOf_94 (by decide) (fun c34 => ?_) (fun c34 => ?_)
            · have h := h.1 c34
              refine r_iconst_0 dX12_groundOf_108 ?_
              refine r_istore [(11, .int (0)), (0, .ref (q 0)), (1, .int (y1)), (2, .int (y2)), (3, .int (y3)), (4, .int (y4)), (5, .int (y5)), (6, .int (y6)), (7, .int (y7)), (9, .int (y9)), (10, .int (y10))] dX12_groundOf_109 (Nat.le_of_ble_eq_true rfl) rfl ?_
              refine r_iload 0 dX12_groundOf_111 rfl ?_
              refine r_if_eq (tgt := 143) dX12_groundOf_113 (by decide) (fun _ => ?_) (fun z => absurd z (by decide))
              refine r_iinc 10 [(10, .int (y10 + 1)), (11, .int (0)), (0, .ref (q 0)), (1, .int (y1)), (2, .int (y2)), (3, .int (y3)), (4, .int (y4)), (5, .int (y5)), (6, .int (y6)), (7, .int (y7)), (9, .int (y9))] dX12_groundOf_143 rfl rfl (Nat.le_of_ble_eq_true rfl) rfl ?_
              refine r_goto (tgt := 28) dX12_groundOf_146 (by decide) ?_
              refine r_ls [2, 3, 4, 5, 6, 7, 8, 9, 10, 0] (ls2 := [(0, .ref (q 0)), (1, .int (y1)), (2, .int (y2)), (3, .int (y3)), (4, .int (y4)), (5, .int (y5)), (6, .int (y6)), (7, .int (y7)), (9, .int (y9)), (10, .int (y10 + 1))]) rfl ?_
              exact h
            · have h := h.2 c34
              refine r_iload 9 dX12_groundOf_97 rfl ?_
              refine r_iload 7 dX12_groundOf_99 rfl ?_
              refine r_icmp_le (tgt := 108) dX12_groundOf_101 (by decide) (fun c36 => ?_) (fun c36 => ?_)
              · have h := h.1 c36
                refine r_iconst_0 dX12_groundOf_108 ?_
                refine r_istore [(11, .int (0)), (0, .ref (q 0)), (1, .int (y1)), (2, .int (y2)), (3, .int (y3)), (4, .int (y4)), (5, .int (y5)), (6, .int (y6)), (7, .int (y7)), (9, .int (y9)), (10, .int (y10))] dX12_groundOf_109 (Nat.le_of_ble_eq_true rfl) rfl ?_
                refine r_iload 0 dX12_groundOf_111 rfl ?_
                refine r_if_eq (tgt := 143) dX12_groundOf_113 (by decide) (fun _ => ?_) (fun z => absurd z (by decide))
                refine r_iinc 10 [(10, .int (y10 + 1)), (11, .int (0)), (0, .ref (q 0)), (1, .int (y1)), (2, .int (y2)), (3, .int (y3)), (4, .int (y4)), (5, .int (y5)), (6, .int (y6)), (7, .int (y7)), (9, .int (y9))] dX12_groundOf_143 rfl rfl (Nat.le_of_ble_eq_true rfl) rfl ?_
                refine r_goto (tgt := 28) dX12_groundOf_146 (by decide) ?_
                refine r_ls [2, 3, 4, 5, 6, 7, 8, 9, 10, 0] (ls2 := [(0, .ref (q 0)), (1, .int (y1)), (2, .int (y2)), (3, .int (y3)), (4, .int (y4)), (5, .int (y5)), (6, .int (y6)), (7, .int (y7)), (9, .int (y9)), (10, .int (y10 + 1))]) rfl ?_
                exact h
              · have h := h.2 c36
                refine r_iconst_1 dX12_groundOf_104 ?_
                refine r_goto (tgt := 109) dX12_groundOf_105 (by decide) ?_
                refine r_istore [(11, .int (1)), (0, .ref (q 0)), (1, .int (y1)), (2, .int (y2)), (3, .int (y3)), (4, .int (y4)), (5, .int (y5)), (6, .int (y6)), (7, .int (y7)), (9, .int (y9)), (10, .int (y10))] dX12_groundOf_109 (Nat.le_of_ble_eq_true rfl) rfl ?_
                refine r_iload 0 dX12_groundOf_111 rfl ?_
                refine r_if_eq (tgt := 143) dX12_groundOf_113 (by decide) (fun z => absurd z (by decide)) (fun _ => ?_)
                refine r_iload 9 dX12_groundOf_116 rfl ?_
                refine r_iconst_m1 dX12_groundOf_118 ?_
                refine r_icmp_eq (tgt := 139) dX12_groundOf_119 (by decide) (fun c39 => ?_) (fun c39 => ?_)
                · have h := h.1 c39
                  refine r_iload 10 dX12_groundOf_139 rfl ?_
                  refine r_istore [(9, .int (y10)), (11, .int (1)), (0, .ref (q 0)), (1, .int (y1)), (2, .int (y2)), (3, .int (y3)), (4, .int (y4)), (5, .int (y5)), (6, .int (y6)), (7, .int (y7)), (10, .int (y10))] dX12_groundOf_141 (Nat.le_of_ble_eq_true rfl) rfl ?_
                  refine r_iinc 10 [(10, .int (y10 + 1)), (9, .int (y10)), (11, .int (1)), (0, .ref (q 0)), (1, .int (y1)), (2, .int (y2)), (3, .int (y3)), (4, .int (y4)), (5, .int (y5)), (6, .int (y6)), (7, .int (y7))] dX12_groundOf_143 rfl rfl (Nat.le_of_ble_eq_true rfl) rfl ?_
                  refine r_goto (tgt := 28) dX12_groundOf_146 (by decide) ?_
                  refine r_ls [3, 4, 5, 6, 7, 8, 9, 10, 1, 0] (ls2 := [(0, .ref (q 0)), (1, .int (y1)), (2, .int (y2)), (3, .int (y3)), (4, .int (y4)), (5, .int (y5)), (6, .int (y6)), (7, .int (y7)), (9, .int (y10)), (10, .int (y10 + 1))]) rfl ?_
                  exact h
                · have h := h.2 c39
                  refine r_aload_n 1 dX12_groundOf_122 rfl rfl ?_
                  refine mg_16 rfl dX12_groundOf_123 ?_
                  refine r_iload 10 dX12_groundOf_126 rfl ?_
                  refine ml_16 b27 dX12_groundOf_128 ?_
                  refine r_aload_n 1 dX12_groundOf_129 rfl rfl ?_
                  refine mg_16 rfl dX12_groundOf_130 ?_
                  refine r_iload 9 dX12_groundOf_133 rfl ?_
                  obtain ⟨b40, h⟩ := h
                  refine ml_16 b40 dX12_groundOf_135 ?_
                  refine r_icmp_ge (tgt := 143) dX12_groundOf_136 (by decide) (fun c41 => ?_) (fun c41 => ?_)
                  · have h := h.1 c41
                    refine r_iinc 10 [(10, .int (y10 + 1)), (11, .int (1)), (0, .ref (q 0)), (1, .int (y1)), (2, .int (y2)), (3, .int (y3)), (4, .int (y4)), (5, .int (y5)), (6, .int (y6)), (7, .int (y7)), (9, .int (y9))] dX12_groundOf_143 rfl rfl (Nat.le_of_ble_eq_true rfl) rfl ?_
                    refine r_goto (tgt := 28) dX12_groundOf_146 (by decide) ?_
                    refine r_ls [2, 3, 4, 5, 6, 7, 8, 9, 10, 0] (ls2 := [(0, .ref (q 0)), (1, .int (y1)), (2, .int (y2)), (3, .int (y3)), (4, .int (y4)), (5, .int (y5)), (6, .int (y6)), (7, .int (y7)), (9, .int (y9)), (10, .int (y10 + 1))]) rfl ?_
                    exact h
                  · have h := h.2 c41
                    refine r_iload 10 dX12_groundOf_139 rfl ?_
                    refine r_istore [(9, .int (y10)), (11, .int (1)), (0, .ref (q 0)), (1, .int (y1)), (2, .int (y2)), (3, .int (y3)), (4, .int (y4)), (5, .int (y5)), (6, .int (y6)), (7, .int (y7)), (10, .int (y10))] dX12_groundOf_141 (Nat.le_of_ble_eq_true rfl) rfl ?_
                    refine r_iinc 10 [(10, .int (y10 + 1)), (9, .int (y10)), (11, .int (1)), (0, .ref (q 0)), (1, .int (y1)), (2, .int (y2)), (3, .int (y3)), (4, .int (y4)), (5, .int (y5)), (6, .int (y6)), (7, .int (y7))] dX12_groundOf_143 rfl rfl (Nat.le_of_ble_eq_true rfl) rfl ?_
                    refine r_goto (tgt := 28) dX12_groundOf_146 (by decide) ?_
                    refine r_ls [3, 4, 5, 6, 7, 8, 9, 10, 1, 0] (ls2 := [(0, .ref (q 0)), (1, .int (y1)), (2, .int (y2)), (3, .int (y3)), (4, .int (y4)), (5, .int (y5)), (6, .int (y6)), (7, .int (y7)), (9, .int (y10)), (10, .int (y10 + 1))]) rfl ?_
                    exact h
        · have h := h.2 c28
          refine r_goto (tgt := 143) dX12_groundOf_70 (by decide) ?_
          refine r_iinc 9 [(10, .int (y10 + 1)), (0, .ref (q 0)), (1, .int (y1)), (2, .int (y2)), (3, .int (y3)), (4, .int (y4)), (5, .int (y5)), (6, .int (y6)), (7, .int (y7)), (9, .int (y9))] dX12_groundOf_143 rfl rfl (Nat.le_of_ble_eq_true rfl) rfl ?_
          refine r_goto (tgt := 28) dX12_groundOf_146 (by decide) ?_
          refine r_ls [1, 2, 3, 4, 5, 6, 7, 8, 9, 0] (ls2 := [(0, .ref (q 0)), (1, .int (y1)), (2, .int (y2)), (3, .int (y3)), (4, .int (y4)), (5, .int (y5)), (6, .int (y6)), (7, .int (y7)), (9, .int (y9)), (10, .int (y10 + 1))]) rfl ?_
          exact h
set_option maxRecDepth 20000 in
theorem en_ground {E : EvT} {q : Nat → Nat} {d : Nat} {x1 : Int32} {x2 : Int32} {x3 : Int32} {x4 : Int32} {S : StM} {P : Int32 → StM → Prop} (h : ((mGround S x1 x2 x3 x4) = false → (P (-1) S)) ∧ ((mGround S x1 x2 x3 x4) = true → (C_groundOf E q (d + 3) x1 x2 x3 x4 S (fun r2 S3 => P r2 S3)))) : C_ground E q (d + 4) x1 x2 x3 x4 S P := by
  refine Cn.of rfl (Nat.le_of_ble_eq_true rfl) (ls := [(0, .ref (q 0)), (1, .int (x1)), (2, .int (x2)), (3, .int (x3)), (4, .int (x4))]) rfl ?_
  refine r_aload_n 0 dX12_ground_0 rfl rfl ?_
  refine r_iload_n 1 dX12_ground_1 rfl rfl ?_
  refine r_iload_n 2 dX12_ground_2 rfl rfl ?_
  refine r_iload_n 3 dX12_ground_3 rfl rfl ?_
  refine r_iload 4 dX12_ground_4 rfl ?_
  refine KP_isGround (d := d + 2)  rfl (Nat.le_of_ble_eq_true rfl) dX12_ground_6 ?_
  refine r_if_eqb (tgt := 24) dX12_ground_9 (by decide) (fun c1 => ?_) (fun c1 => ?_)
  · have h := h.1 c1
    refine r_iconst_m1 dX12_ground_24 ?_
    exact r_iret dX12_ground_25 rfl (Nat.le_refl _) (Nat.le_refl _) ⟨_, _, rfl, rfl, h⟩
  · have h := h.2 c1
    refine r_aload_n 0 dX12_ground_12 rfl rfl ?_
    refine r_iload_n 1 dX12_ground_13 rfl rfl ?_
    refine r_iload_n 2 dX12_ground_14 rfl rfl ?_
    refine r_iload_n 3 dX12_ground_15 rfl rfl ?_
    refine r_iload 4 dX12_ground_16 rfl ?_
    refine K_groundOf rfl (Nat.le_of_ble_eq_true rfl) dX12_ground_18 (mI h (fun r2 S3 h => ?_))
    refine r_goto (tgt := 25) dX12_ground_21 (by decide) ?_
    exact r_iret dX12_ground_25 rfl (Nat.le_refl _) (Nat.le_refl _) ⟨_, _, rfl, rfl, h⟩
set_option maxRecDepth 20000 in
theorem en_first {E : EvT} {q : Nat → Nat} {d : Nat} {x1 : Int32} {x2 : Int32} {x3 : Int32} {x4 : Int32} {S : StM} {P : Int32 → StM → Prop} (h : ((mGround S x1 x2 x3 x4) = false → (P (-1) S)) ∧ ((mGround S x1 x2 x3 x4) = true → (C_groundOf E q (d + 3) x1 x2 x3 x4 S (fun r2 S3 => (r2 = 0 → (P (-1) S3)) ∧ (¬ r2 = 0 → (P (s_firstDig S3) S3)))))) : C_first E q (d + 4) x1 x2 x3 x4 S P := by
  refine Cn.of rfl (Nat.le_of_ble_eq_true rfl) (ls := [(0, .ref (q 0)), (1, .int (x1)), (2, .int (x2)), (3, .int (x3)), (4, .int (x4))]) rfl ?_
  refine r_aload_n 0 dX12_first_0 rfl rfl ?_
  refine r_iload_n 1 dX12_first_1 rfl rfl ?_
  refine r_iload_n 2 dX12_first_2 rfl rfl ?_
  refine r_iload_n 3 dX12_first_3 rfl rfl ?_
  refine r_iload 4 dX12_first_4 rfl ?_
  refine KP_isGround (d := d + 2)  rfl (Nat.le_of_ble_eq_true rfl) dX12_first_6 ?_
  refine r_if_eqb (tgt := 31) dX12_first_9 (by decide) (fun c1 => ?_) (fun c1 => ?_)
  · have h := h.1 c1
    refine r_iconst_m1 dX12_first_31 ?_
    exact r_iret dX12_first_32 rfl (Nat.le_refl _) (Nat.le_refl _) ⟨_, _, rfl, rfl, h⟩
  · have h := h.2 c1
    refine r_aload_n 0 dX12_first_12 rfl rfl ?_
    refine r_iload_n 1 dX12_first_13 rfl rfl ?_
    refine r_iload_n 2 dX12_first_14 rfl rfl ?_
    refine r_iload_n 3 dX12_first_15 rfl rfl ?_
    refine r_iload 4 dX12_first_16 rfl ?_
    refine K_groundOf rfl (Nat.le_of_ble_eq_true rfl) dX12_first_18 (mI h (fun r2 S3 h => ?_))
    refine r_if_eq (tgt := 31) dX12_first_21 (by decide) (fun c4 => ?_) (fun c4 => ?_)
    · have h := h.1 c4
      refine r_iconst_m1 dX12_first_31 ?_
      exact r_iret dX12_first_32 rfl (Nat.le_refl _) (Nat.le_refl _) ⟨_, _, rfl, rfl, h⟩
    · have h := h.2 c4
      refine r_aload_n 0 dX12_first_24 rfl rfl ?_
      refine mg_20 rfl dX12_first_25 ?_
      refine r_goto (tgt := 32) dX12_first_28 (by decide) ?_
      exact r_iret dX12_first_32 rfl (Nat.le_refl _) (Nat.le_refl _) ⟨_, _, rfl, rfl, h⟩
set_option maxRecDepth 20000 in
theorem en_means {E : EvT} {q : Nat → Nat} {d : Nat} {x1 : Int32} {x2 : Int32} {x3 : Int32} {x4 : Int32} {x5 : Int32} {S : StM} {P : Bool → StM → Prop} (h : ((mIn x1 0 3) = false → (P false S)) ∧ ((mIn x1 0 3) = true → (((mIn x2 1 99) = false → (P false S)) ∧ ((mIn x2 1 99) = true → (((mPlace S x3) = false → (P false S)) ∧ ((mPlace S x3) = true → (((mWeek x4) = false → (P false S)) ∧ ((mWeek x4) = true → (((mIn x5 x4 9999) = false → (P false S)) ∧ ((mIn x5 x4 9999) = true → ((¬ (s_meanings S) = 200 → ((0 ≤ (s_meanings S) ∧ (s_meanings S) < 200) ∧ (P true (sI (sA (sA (sA (sA (sA S 22 (upd (a_meansBy S) (ix (s_meanings S)) x1)) 23 (upd (a_meansNumber S) (ix (s_meanings S)) x2)) 24 (upd (a_meansPlace S) (ix (s_meanings S)) x3)) 25 (upd (a_meansFrom S) (ix (s_meanings S)) x4)) 26 (upd (a_meansTo S) (ix (s_meanings S)) x5)) 21 ((s_meanings S) + 1))))) ∧ ((s_meanings S) = 200 → (P false S))))))))))))) : C_means E q (d + 1) x1 x2 x3 x4 x5 S P := by
  refine Cn.of rfl (Nat.le_of_ble_eq_true rfl) (ls := [(0, .ref (q 0)), (1, .int (x1)), (2, .int (x2)), (3, .int (x3)), (4, .int (x4)), (5, .int (x5))]) rfl ?_
  refine r_iload_n 1 dX12_means_0 rfl rfl ?_
  refine r_iconst_0 dX12_means_1 ?_
  refine r_iconst_3 dX12_means_2 ?_
  refine KP_in (d := d + 0)  rfl (Nat.le_of_ble_eq_true rfl) dX12_means_3 ?_
  refine r_if_eqb (tgt := 58) dX12_means_6 (by decide) (fun c1 => ?_) (fun c1 => ?_)
  · have h := h.1 c1
    refine r_iconst_0 dX12_means_58 ?_
    exact r_zret0 dX12_means_59 rfl (Nat.le_refl _) (Nat.le_refl _) ⟨_, _, rfl, rfl, h⟩
  · have h := h.2 c1
    refine r_iload_n 2 dX12_means_9 rfl rfl ?_
    refine r_iconst_1 dX12_means_10 ?_
    refine r_bipush_99 dX12_means_11 ?_
    refine KP_in (d := d + 0)  rfl (Nat.le_of_ble_eq_true rfl) dX12_means_13 ?_
    refine r_if_eqb (tgt := 58) dX12_means_16 (by decide) (fun c2 => ?_) (fun c2 => ?_)
    · have h := h.1 c2
      refine r_iconst_0 dX12_means_58 ?_
      exact r_zret0 dX12_means_59 rfl (Nat.le_refl _) (Nat.le_refl _) ⟨_, _, rfl, rfl, h⟩
    · have h := h.2 c2
      refine r_aload_n 0 dX12_means_19 rfl rfl ?_
      refine r_iload_n 3 dX12_means_20 rfl rfl ?_
      refine KP_isPlace (d := d + 0)  rfl (Nat.le_of_ble_eq_true rfl) dX12_means_21 ?_
      refine r_if_eqb (tgt := 58) dX12_means_24 (by decide) (fun c3 => ?_) (fun c3 => ?_)
      · have h := h.1 c3
        refine r_iconst_0 dX12_means_58 ?_
        exact r_zret0 dX12_means_59 rfl (Nat.le_refl _) (Nat.le_refl _) ⟨_, _, rfl, rfl, h⟩
      · have h := h.2 c3
        refine r_iload 4 dX12_means_27 rfl ?_
        refine KP_isWeek (d := d + 0)  rfl (Nat.le_of_ble_eq_true rfl) dX12_means_29 ?_
        refine r_if_eqb (tgt := 58) dX12_means_32 (by decide) (fun c4 => ?_) (fun c4 => ?_)
        · have h := h.1 c4
          refine r_iconst_0 dX12_means_58 ?_
          exact r_zret0 dX12_means_59 rfl (Nat.le_refl _) (Nat.le_refl _) ⟨_, _, rfl, rfl, h⟩
        · have h := h.2 c4
          refine r_iload 5 dX12_means_35 rfl ?_
          refine r_iload 4 dX12_means_37 rfl ?_
          refine r_sipush_9999 dX12_means_39 ?_
          refine KP_in (d := d + 0)  rfl (Nat.le_of_ble_eq_true rfl) dX12_means_42 ?_
          refine r_if_eqb (tgt := 58) dX12_means_45 (by decide) (fun c5 => ?_) (fun c5 => ?_)
          · have h := h.1 c5
            refine r_iconst_0 dX12_means_58 ?_
            exact r_zret0 dX12_means_59 rfl (Nat.le_refl _) (Nat.le_refl _) ⟨_, _, rfl, rfl, h⟩
          · have h := h.2 c5
            refine r_aload_n 0 dX12_means_48 rfl rfl ?_
            refine mg_21 rfl dX12_means_49 ?_
            refine r_sipush_200 dX12_means_52 ?_
            refine r_icmp_ne (tgt := 60) dX12_means_55 (by decide) (fun c6 => ?_) (fun c6 => ?_)
            · have h := h.1 c6
              refine r_aload_n 0 dX12_means_60 rfl rfl ?_
              refine mg_22 rfl dX12_means_61 ?_
              refine r_aload_n 0 dX12_means_64 rfl rfl ?_
              refine mg_21 rfl dX12_means_65 ?_
              refine r_iload_n 1 dX12_means_68 rfl rfl ?_
              obtain ⟨b7, h⟩ := h
              refine mt_22 b7 dX12_means_69 ?_
              refine r_aload_n 0 dX12_means_70 rfl rfl ?_
              refine mg_23 rfl dX12_means_71 ?_
              refine r_aload_n 0 dX12_means_74 rfl rfl ?_
              refine mg_21 rfl dX12_means_75 ?_
              refine r_iload_n 2 dX12_means_78 rfl rfl ?_
              refine mt_23 b7 dX12_means_79 ?_
              refine r_aload_n 0 dX12_means_80 rfl rfl ?_
              refine mg_24 rfl dX12_means_81 ?_
              refine r_aload_n 0 dX12_means_84 rfl rfl ?_
              refine mg_21 rfl dX12_means_85 ?_
              refine r_iload_n 3 dX12_means_88 rfl rfl ?_
              refine mt_24 b7 dX12_means_89 ?_
              refine r_aload_n 0 dX12_means_90 rfl rfl ?_
              refine mg_25 rfl dX12_means_91 ?_
              refine r_aload_n 0 dX12_means_94 rfl rfl ?_
              refine mg_21 rfl dX12_means_95 ?_
              refine r_iload 4 dX12_means_98 rfl ?_
              refine mt_25 b7 dX12_means_100 ?_
              refine r_aload_n 0 dX12_means_101 rfl rfl ?_
              refine mg_26 rfl dX12_means_102 ?_
              refine r_aload_n 0 dX12_means_105 rfl rfl ?_
              refine mg_21 rfl dX12_means_106 ?_
              refine r_iload 5 dX12_means_109 rfl ?_
              refine mt_26 b7 dX12_means_111 ?_
              refine r_aload_n 0 dX12_means_112 rfl rfl ?_
              refine r_aload_n 0 dX12_means_113 rfl rfl ?_
              refine mg_21 rfl dX12_means_114 ?_
              refine r_iconst_1 dX12_means_117 ?_
              refine r_iadd dX12_means_118 ?_
              refine mq_21 rfl dX12_means_119 ?_
              refine r_iconst_1 dX12_means_122 ?_
              exact r_zret1 dX12_means_123 rfl (Nat.le_refl _) (Nat.le_refl _) ⟨_, _, rfl, rfl, h⟩
            · have h := h.2 c6
              refine r_iconst_0 dX12_means_58 ?_
              exact r_zret0 dX12_means_59 rfl (Nat.le_refl _) (Nat.le_refl _) ⟨_, _, rfl, rfl, h⟩
abbrev T_meaningOf_8 (E : EvT) (q : Nat → Nat) (D : Nat) (P : Int32 → StM → Prop) (S : StM) (y1 : Int32) (y2 : Int32) (y3 : Int32) (y4 : Int32) : Prop := RM E q iM_meaningOf D (qI E q P) S [(0, .ref (q 0)), (1, .int (y1)), (2, .int (y2)), (3, .int (y3)), (4, .int (y4))] [] 8
set_option maxRecDepth 20000 in
theorem en_meaningOf {E : EvT} {q : Nat → Nat} {d : Nat} {x1 : Int32} {x2 : Int32} {x3 : Int32} {S : StM} {P : Int32 → StM → Prop} (h : T_meaningOf_8 E q (d + 1) P S x1 x2 x3 ((s_meanings S) - 1)) : C_meaningOf E q (d + 1) x1 x2 x3 S P := by
  refine Cn.of rfl (Nat.le_of_ble_eq_true rfl) (ls := [(0, .ref (q 0)), (1, .int (x1)), (2, .int (x2)), (3, .int (x3))]) rfl ?_
  refine r_aload_n 0 dX12_meaningOf_0 rfl rfl ?_
  refine mg_21 rfl dX12_meaningOf_1 ?_
  refine r_iconst_1 dX12_meaningOf_4 ?_
  refine r_isub dX12_meaningOf_5 ?_
  refine r_istore [(4, .int ((s_meanings S) - 1)), (0, .ref (q 0)), (1, .int (x1)), (2, .int (x2)), (3, .int (x3))] dX12_meaningOf_6 (Nat.le_of_ble_eq_true rfl) rfl ?_
  refine r_ls [1, 2, 3, 4, 0] (ls2 := [(0, .ref (q 0)), (1, .int (x1)), (2, .int (x2)), (3, .int (x3)), (4, .int ((s_meanings S) - 1))]) rfl ?_
  exact h
set_option maxRecDepth 20000 in
theorem sg_meaningOf_8 {E : EvT} {q : Nat → Nat} {d : Nat} {S : StM} {P : Int32 → StM → Prop} {y1 : Int32} {y2 : Int32} {y3 : Int32} {y4 : Int32} (h : (y4 < 0 → (P (-1) S)) ∧ (¬ y4 < 0 → ((0 ≤ y4 ∧ y4 < 200) ∧ ((¬ (a_meansBy S (ix y4)) = y1 → (T_meaningOf_8 E q (d + 1) P S y1 y2 y3 (y4 + (-1)))) ∧ ((a_meansBy S (ix y4)) = y1 → ((¬ (a_meansNumber S (ix y4)) = y2 → (T_meaningOf_8 E q (d + 1) P S y1 y2 y3 (y4 + (-1)))) ∧ ((a_meansNumber S (ix y4)) = y2 → (((mIn y3 (a_meansFrom S (ix y4)) (a_meansTo S (ix y4))) = false → (T_meaningOf_8 E q (d + 1) P S y1 y2 y3 (y4 + (-1)))) ∧ ((mIn y3 (a_meansFrom S (ix y4)) (a_meansTo S (ix y4))) = true → (P (a_meansPlace S (ix y4)) S)))))))))) : T_meaningOf_8 E q (d + 1) P S y1 y2 y3 y4 := by
  refine r_iload 4 dX12_meaningOf_8 rfl ?_
  refine r_if_lt (tgt := 70) dX12_meaningOf_10 (by decide) (fun c1 => ?_) (fun c1 => ?_)
  · have h := h.1 c1
    refine r_iconst_m1 dX12_meaningOf_70 ?_
    exact r_iret dX12_meaningOf_71 rfl (Nat.le_refl _) (Nat.le_refl _) ⟨_, _, rfl, rfl, h⟩
  · have h := h.2 c1
    refine r_aload_n 0 dX12_meaningOf_13 rfl rfl ?_
    refine mg_22 rfl dX12_meaningOf_14 ?_
    refine r_iload 4 dX12_meaningOf_17 rfl ?_
    obtain ⟨b2, h⟩ := h
    refine ml_22 b2 dX12_meaningOf_19 ?_
    refine r_iload_n 1 dX12_meaningOf_20 rfl rfl ?_
    refine r_icmp_ne (tgt := 64) dX12_meaningOf_21 (by decide) (fun c3 => ?_) (fun c3 => ?_)
    · have h := h.1 c3
      refine r_iinc 4 [(4, .int (y4 + (-1))), (0, .ref (q 0)), (1, .int (y1)), (2, .int (y2)), (3, .int (y3))] dX12_meaningOf_64 rfl rfl (Nat.le_of_ble_eq_true rfl) rfl ?_
      refine r_goto (tgt := 8) dX12_meaningOf_67 (by decide) ?_
      refine r_ls [1, 2, 3, 4, 0] (ls2 := [(0, .ref (q 0)), (1, .int (y1)), (2, .int (y2)), (3, .int (y3)), (4, .int (y4 + (-1)))]) rfl ?_
      exact h
    · have h := h.2 c3
      refine r_aload_n 0 dX12_meaningOf_24 rfl rfl ?_
      refine mg_23 rfl dX12_meaningOf_25 ?_
      refine r_iload 4 dX12_meaningOf_28 rfl ?_
      refine ml_23 b2 dX12_meaningOf_30 ?_
      refine r_iload_n 2 dX12_meaningOf_31 rfl rfl ?_
      refine r_icmp_ne (tgt := 64) dX12_meaningOf_32 (by decide) (fun c4 => ?_) (fun c4 => ?_)
      · have h := h.1 c4
        refine r_iinc 4 [(4, .int (y4 + (-1))), (0, .ref (q 0)), (1, .int (y1)), (2, .int (y2)), (3, .int (y3))] dX12_meaningOf_64 rfl rfl (Nat.le_of_ble_eq_true rfl) rfl ?_
        refine r_goto (tgt := 8) dX12_meaningOf_67 (by decide) ?_
        refine r_ls [1, 2, 3, 4, 0] (ls2 := [(0, .ref (q 0)), (1, .int (y1)), (2, .int (y2)), (3, .int (y3)), (4, .int (y4 + (-1)))]) rfl ?_
        exact h
      · have h := h.2 c4
        refine r_iload_n 3 dX12_meaningOf_35 rfl rfl ?_
        refine r_aload_n 0 dX12_meaningOf_36 rfl rfl ?_
        refine mg_25 rfl dX12_meaningOf_37 ?_
        refine r_iload 4 dX12_meaningOf_40 rfl ?_
        refine ml_25 b2 dX12_meaningOf_42 ?_
        refine r_aload_n 0 dX12_meaningOf_43 rfl rfl ?_
        refine mg_26 rfl dX12_meaningOf_44 ?_
        refine r_iload 4 dX12_meaningOf_47 rfl ?_
        refine ml_26 b2 dX12_meaningOf_49 ?_
        refine KP_in (d := d + 0)  rfl (Nat.le_of_ble_eq_true rfl) dX12_meaningOf_50 ?_
        refine r_if_eqb (tgt := 64) dX12_meaningOf_53 (by decide) (fun c5 => ?_) (fun c5 => ?_)
        · have h := h.1 c5
          refine r_iinc 4 [(4, .int (y4 + (-1))), (0, .ref (q 0)), (1, .int (y1)), (2, .int (y2)), (3, .int (y3))] dX12_meaningOf_64 rfl rfl (Nat.le_of_ble_eq_true rfl) rfl ?_
          refine r_goto (tgt := 8) dX12_meaningOf_67 (by decide) ?_
          refine r_ls [1, 2, 3, 4, 0] (ls2 := [(0, .ref (q 0)), (1, .int (y1)), (2, .int (y2)), (3, .int (y3)), (4, .int (y4 + (-1)))]) rfl ?_
          exact h
        · have h := h.2 c5
          refine r_aload_n 0 dX12_meaningOf_56 rfl rfl ?_
          refine mg_24 rfl dX12_meaningOf_57 ?_
          refine r_iload 4 dX12_meaningOf_60 rfl ?_
          refine ml_24 b2 dX12_meaningOf_62 ?_
          exact r_iret dX12_meaningOf_63 rfl (Nat.le_refl _) (Nat.le_refl _) ⟨_, _, rfl, rfl, h⟩
set_option maxRecDepth 20000 in
theorem en_meaning {E : EvT} {q : Nat → Nat} {d : Nat} {x1 : Int32} {x2 : Int32} {x3 : Int32} {S : StM} {P : Int32 → StM → Prop} (h : ((mIn x1 0 3) = false → (P (-1) S)) ∧ ((mIn x1 0 3) = true → (((mIn x2 1 99) = false → (P (-1) S)) ∧ ((mIn x2 1 99) = true → (((mWeek x3) = false → (P (-1) S)) ∧ ((mWeek x3) = true → (C_meaningOf E q (d + 1) x1 x2 x3 S (fun r4 S5 => P r4 S5)))))))) : C_meaning E q (d + 2) x1 x2 x3 S P := by
  refine Cn.of rfl (Nat.le_of_ble_eq_true rfl) (ls := [(0, .ref (q 0)), (1, .int (x1)), (2, .int (x2)), (3, .int (x3))]) rfl ?_
  refine r_iload_n 1 dX12_meaning_0 rfl rfl ?_
  refine r_iconst_0 dX12_meaning_1 ?_
  refine r_iconst_3 dX12_meaning_2 ?_
  refine KP_in (d := d + 1)  rfl (Nat.le_of_ble_eq_true rfl) dX12_meaning_3 ?_
  refine r_if_eqb (tgt := 36) dX12_meaning_6 (by decide) (fun c1 => ?_) (fun c1 => ?_)
  · have h := h.1 c1
    refine r_iconst_m1 dX12_meaning_36 ?_
    exact r_iret dX12_meaning_37 rfl (Nat.le_refl _) (Nat.le_refl _) ⟨_, _, rfl, rfl, h⟩
  · have h := h.2 c1
    refine r_iload_n 2 dX12_meaning_9 rfl rfl ?_
    refine r_iconst_1 dX12_meaning_10 ?_
    refine r_bipush_99 dX12_meaning_11 ?_
    refine KP_in (d := d + 1)  rfl (Nat.le_of_ble_eq_true rfl) dX12_meaning_13 ?_
    refine r_if_eqb (tgt := 36) dX12_meaning_16 (by decide) (fun c2 => ?_) (fun c2 => ?_)
    · have h := h.1 c2
      refine r_iconst_m1 dX12_meaning_36 ?_
      exact r_iret dX12_meaning_37 rfl (Nat.le_refl _) (Nat.le_refl _) ⟨_, _, rfl, rfl, h⟩
    · have h := h.2 c2
      refine r_iload_n 3 dX12_meaning_19 rfl rfl ?_
      refine KP_isWeek (d := d + 1)  rfl (Nat.le_of_ble_eq_true rfl) dX12_meaning_20 ?_
      refine r_if_eqb (tgt := 36) dX12_meaning_23 (by decide) (fun c3 => ?_) (fun c3 => ?_)
      · have h := h.1 c3
        refine r_iconst_m1 dX12_meaning_36 ?_
        exact r_iret dX12_meaning_37 rfl (Nat.le_refl _) (Nat.le_refl _) ⟨_, _, rfl, rfl, h⟩
      · have h := h.2 c3
        refine r_aload_n 0 dX12_meaning_26 rfl rfl ?_
        refine r_iload_n 1 dX12_meaning_27 rfl rfl ?_
        refine r_iload_n 2 dX12_meaning_28 rfl rfl ?_
        refine r_iload_n 3 dX12_meaning_29 rfl rfl ?_
        refine K_meaningOf rfl (Nat.le_of_ble_eq_true rfl) dX12_meaning_30 (mI h (fun r4 S5 h => ?_))
        refine r_goto (tgt := 37) dX12_meaning_33 (by decide) ?_
        exact r_iret dX12_meaning_37 rfl (Nat.le_refl _) (Nat.le_refl _) ⟨_, _, rfl, rfl, h⟩
abbrev T_types_2 (E : EvT) (q : Nat → Nat) (D : Nat) (P : StM → Prop) (S : StM) (y1 : Int32) (y2 : Int32) : Prop := RM E q iM_types D (qV E q P) S [(0, .ref (q 0)), (1, .int (y1)), (2, .int (y2))] [] 2
set_option maxRecDepth 20000 in
theorem en_types {E : EvT} {q : Nat → Nat} {d : Nat} {x1 : Int32} {S : StM} {P : StM → Prop} (h : T_types_2 E q d P S x1 3) : C_types E q d x1 S P := by
  refine Cn.of rfl (Nat.le_of_ble_eq_true rfl) (ls := [(0, .ref (q 0)), (1, .int (x1))]) rfl ?_
  refine r_iconst_3 dX12_types_0 ?_
  refine r_istore_n [(2, .int (3)), (0, .ref (q 0)), (1, .int (x1))] dX12_types_1 rfl (Nat.le_of_ble_eq_true rfl) rfl ?_
  refine r_ls [1, 2, 0] (ls2 := [(0, .ref (q 0)), (1, .int (x1)), (2, .int (3))]) rfl ?_
  exact h
set_option maxRecDepth 20000 in
theorem sg_types_2 {E : EvT} {q : Nat → Nat} {d : Nat} {S : StM} {P : StM → Prop} {y1 : Int32} {y2 : Int32} (h : (y2 < 0 → (P S)) ∧ (¬ y2 < 0 → ((0 ≤ (s_taped S) ∧ (s_taped S) < 400) ∧ (T_types_2 E q d P (sI (sA S 27 (upd (a_tape S) (ix (s_taped S)) (vp_nar .byte ((y1 >>> ((8 * y2) &&& 31)).toInt8.toInt32)))) 28 ((s_taped S) + 1)) y1 (y2 + (-1)))))) : T_types_2 E q d P S y1 y2 := by
  refine r_iload_n 2 dX12_types_2 rfl rfl ?_
  refine r_if_lt (tgt := 38) dX12_types_3 (by decide) (fun c1 => ?_) (fun c1 => ?_)
  · have h := h.1 c1
    exact r_vret dX12_types_38 rfl (Nat.le_refl _) (Nat.le_refl _) ⟨_, rfl, rfl, h⟩
  · have h := h.2 c1
    refine r_aload_n 0 dX12_types_6 rfl rfl ?_
    refine mg_27 rfl dX12_types_7 ?_
    refine r_aload_n 0 dX12_types_10 rfl rfl ?_
    refine mg_28 rfl dX12_types_11 ?_
    refine r_iload_n 1 dX12_types_14 rfl rfl ?_
    refine r_bipush_8 dX12_types_15 ?_
    refine r_iload_n 2 dX12_types_17 rfl rfl ?_
    refine r_imul dX12_types_18 ?_
    refine r_ishr dX12_types_19 ?_
    refine r_i2b dX12_types_20 ?_
    obtain ⟨b2, h⟩ := h
    refine mt_27 b2 dX12_types_21 ?_
    refine r_aload_n 0 dX12_types_22 rfl rfl ?_
    refine r_aload_n 0 dX12_types_23 rfl rfl ?_
    refine mg_28 rfl dX12_types_24 ?_
    refine r_iconst_1 dX12_types_27 ?_
    refine r_iadd dX12_types_28 ?_
    refine mq_28 rfl dX12_types_29 ?_
    refine r_iinc 2 [(2, .int (y2 + (-1))), (0, .ref (q 0)), (1, .int (y1))] dX12_types_32 rfl rfl (Nat.le_of_ble_eq_true rfl) rfl ?_
    refine r_goto (tgt := 2) dX12_types_35 (by decide) ?_
    refine r_ls [1, 2, 0] (ls2 := [(0, .ref (q 0)), (1, .int (y1)), (2, .int (y2 + (-1)))]) rfl ?_
    exact h
set_option maxRecDepth 20000 in
theorem en_feed {E : EvT} {q : Nat → Nat} {d : Nat} {x1 : Int32} {x2 : Int32} {x3 : Int32} {x4 : Int32} {x5 : Int32} {S : StM} {P : Int32 → StM → Prop} (h : (((s_taped S) + 20) ≤ 400 → (C_types E q d x1 S (fun S3 => C_types E q d x2 S3 (fun S5 => C_types E q d x3 S5 (fun S7 => C_types E q d x4 S7 (fun S9 => C_types E q d x5 S9 (fun S11 => P (s_taped S11) S11))))))) ∧ (¬ ((s_taped S) + 20) ≤ 400 → (P (-1) S))) : C_feed E q (d + 1) x1 x2 x3 x4 x5 S P := by
  refine Cn.of rfl (Nat.le_of_ble_eq_true rfl) (ls := [(0, .ref (q 0)), (1, .int (x1)), (2, .int (x2)), (3, .int (x3)), (4, .int (x4)), (5, .int (x5))]) rfl ?_
  refine r_aload_n 0 dX12_feed_0 rfl rfl ?_
  refine mg_28 rfl dX12_feed_1 ?_
  refine r_bipush_20 dX12_feed_4 ?_
  refine r_iadd dX12_feed_6 ?_
  refine r_sipush_400 dX12_feed_7 ?_
  refine r_icmp_le (tgt := 15) dX12_feed_10 (by decide) (fun c1 => ?_) (fun c1 => ?_)
  · have h := h.1 c1
    refine r_aload_n 0 dX12_feed_15 rfl rfl ?_
    refine r_iload_n 1 dX12_feed_16 rfl rfl ?_
    refine K_types rfl (Nat.le_of_ble_eq_true rfl) dX12_feed_17 (mV h (fun S3 h => ?_))
    refine r_aload_n 0 dX12_feed_20 rfl rfl ?_
    refine r_iload_n 2 dX12_feed_21 rfl rfl ?_
    refine K_types rfl (Nat.le_of_ble_eq_true rfl) dX12_feed_22 (mV h (fun S5 h => ?_))
    refine r_aload_n 0 dX12_feed_25 rfl rfl ?_
    refine r_iload_n 3 dX12_feed_26 rfl rfl ?_
    refine K_types rfl (Nat.le_of_ble_eq_true rfl) dX12_feed_27 (mV h (fun S7 h => ?_))
    refine r_aload_n 0 dX12_feed_30 rfl rfl ?_
    refine r_iload 4 dX12_feed_31 rfl ?_
    refine K_types rfl (Nat.le_of_ble_eq_true rfl) dX12_feed_33 (mV h (fun S9 h => ?_))
    refine r_aload_n 0 dX12_feed_36 rfl rfl ?_
    refine r_iload 5 dX12_feed_37 rfl ?_
    refine K_types rfl (Nat.le_of_ble_eq_true rfl) dX12_feed_39 (mV h (fun S11 h => ?_))
    refine r_aload_n 0 dX12_feed_42 rfl rfl ?_
    refine mg_28 rfl dX12_feed_43 ?_
    exact r_iret dX12_feed_46 rfl (Nat.le_refl _) (Nat.le_refl _) ⟨_, _, rfl, rfl, h⟩
  · have h := h.2 c1
    refine r_iconst_m1 dX12_feed_13 ?_
    exact r_iret dX12_feed_14 rfl (Nat.le_refl _) (Nat.le_refl _) ⟨_, _, rfl, rfl, h⟩
set_option maxRecDepth 20000 in
theorem en_wrong {E : EvT} {q : Nat → Nat} {d : Nat} {x1 : Int32} {x2 : Int32} {S : StM} {P : Bool → StM → Prop} (h : P false (sI S 31 (((-1000) * x1) - x2))) : C_wrong E q d x1 x2 S P := by
  refine Cn.of rfl (Nat.le_of_ble_eq_true rfl) (ls := [(0, .ref (q 0)), (1, .int (x1)), (2, .int (x2))]) rfl ?_
  refine r_aload_n 0 dX12_wrong_0 rfl rfl ?_
  refine r_sipush_m1000 dX12_wrong_1 ?_
  refine r_iload_n 1 dX12_wrong_4 rfl rfl ?_
  refine r_imul dX12_wrong_5 ?_
  refine r_iload_n 2 dX12_wrong_6 rfl rfl ?_
  refine r_isub dX12_wrong_7 ?_
  refine mq_31 rfl dX12_wrong_8 ?_
  refine r_iconst_0 dX12_wrong_11 ?_
  exact r_zret0 dX12_wrong_12 rfl (Nat.le_refl _) (Nat.le_refl _) ⟨_, _, rfl, rfl, h⟩
set_option maxRecDepth 20000 in
theorem en_takes {E : EvT} {q : Nat → Nat} {d : Nat} {x1 : Int32} {S : StM} {P : Bool → StM → Prop} (h : (s_place0 S < s_length0 S → 0 ≤ s_place0 S ∧ s_place0 S < 400) ∧ (((mByte S) = x1 → (P true (sI S 29 ((s_place0 S) + 1)))) ∧ (¬ (mByte S) = x1 → (C_wrong E q d 1 (s_place0 S) S (fun r3 S4 => P r3 S4))))) : C_takes E q (d + 1) x1 S P := by
  refine Cn.of rfl (Nat.le_of_ble_eq_true rfl) (ls := [(0, .ref (q 0)), (1, .int (x1))]) rfl ?_
  refine r_aload_n 0 dX12_takes_0 rfl rfl ?_
  obtain ⟨b1, h⟩ := h
  refine KP_byteHere (d := d + 0) b1 rfl (Nat.le_of_ble_eq_true rfl) dX12_takes_1 ?_
  refine r_iload_n 1 dX12_takes_4 rfl rfl ?_
  refine r_icmp_eq (tgt := 18) dX12_takes_5 (by decide) (fun c2 => ?_) (fun c2 => ?_)
  · have h := h.1 c2
    refine r_aload_n 0 dX12_takes_18 rfl rfl ?_
    refine r_aload_n 0 dX12_takes_19 rfl rfl ?_
    refine mg_29 rfl dX12_takes_20 ?_
    refine r_iconst_1 dX12_takes_23 ?_
    refine r_iadd dX12_takes_24 ?_
    refine mq_29 rfl dX12_takes_25 ?_
    refine r_iconst_1 dX12_takes_28 ?_
    exact r_zret1 dX12_takes_29 rfl (Nat.le_refl _) (Nat.le_refl _) ⟨_, _, rfl, rfl, h⟩
  · have h := h.2 c2
    refine r_aload_n 0 dX12_takes_8 rfl rfl ?_
    refine r_iconst_1 dX12_takes_9 ?_
    refine r_aload_n 0 dX12_takes_10 rfl rfl ?_
    refine mg_29 rfl dX12_takes_11 ?_
    refine K_wrong rfl (Nat.le_of_ble_eq_true rfl) dX12_takes_14 (mB h (fun r3 S4 h => ?_))
    exact r_zret dX12_takes_17 rfl (Nat.le_refl _) (Nat.le_refl _) ⟨_, _, rfl, rfl, h⟩
abbrev T_readsNumber_27 (E : EvT) (q : Nat → Nat) (D : Nat) (P : Bool → StM → Prop) (S : StM) (y1 : Int32) (y2 : Int32) : Prop := RM E q iM_readsNumber D (qB E q P) S [(0, .ref (q 0)), (1, .int (y1)), (2, .int (y2))] [] 27
set_option maxRecDepth 20000 in
theorem en_readsNumber {E : EvT} {q : Nat → Nat} {d : Nat} {x1 : Int32} {S : StM} {P : Bool → StM → Prop} (h : (s_place0 (sI S 32 0) < s_length0 (sI S 32 0) → 0 ≤ s_place0 (sI S 32 0) ∧ s_place0 (sI S 32 0) < 400) ∧ (((mDigit (sI S 32 0)) = true → (T_readsNumber_27 E q (d + 2) P (sI S 32 0) x1 (s_place0 S))) ∧ ((mDigit (sI S 32 0)) = false → (C_wrong E q (d + 1) 1 (s_place0 S) (sI S 32 0) (fun r3 S4 => P r3 S4))))) : C_readsNumber E q (d + 2) x1 S P := by
  refine Cn.of rfl (Nat.le_of_ble_eq_true rfl) (ls := [(0, .ref (q 0)), (1, .int (x1))]) rfl ?_
  refine r_aload_n 0 dX12_readsNumber_0 rfl rfl ?_
  refine mg_29 rfl dX12_readsNumber_1 ?_
  refine r_istore_n [(2, .int (s_place0 S)), (0, .ref (q 0)), (1, .int (x1))] dX12_readsNumber_4 rfl (Nat.le_of_ble_eq_true rfl) rfl ?_
  refine r_aload_n 1 dX12_readsNumber_5 rfl rfl ?_
  refine r_iconst_0 dX12_readsNumber_6 ?_
  refine mq_32 rfl dX12_readsNumber_7 ?_
  refine r_aload_n 1 dX12_readsNumber_10 rfl rfl ?_
  obtain ⟨b1, h⟩ := h
  refine KP_isDigit (d := d + 0) b1 rfl (Nat.le_of_ble_eq_true rfl) dX12_readsNumber_11 ?_
  refine r_if_neb (tgt := 27) dX12_readsNumber_14 (by decide) (fun c2 => ?_) (fun c2 => ?_)
  · have h := h.1 c2
    refine r_ls [1, 2, 0] (ls2 := [(0, .ref (q 0)), (1, .int (x1)), (2, .int (s_place0 S))]) rfl ?_
    exact h
  · have h := h.2 c2
    refine r_aload_n 1 dX12_readsNumber_17 rfl rfl ?_
    refine r_iconst_1 dX12_readsNumber_18 ?_
    refine r_aload_n 1 dX12_readsNumber_19 rfl rfl ?_
    refine mg_29 rfl dX12_readsNumber_20 ?_
    refine K_wrong rfl (Nat.le_of_ble_eq_true rfl) dX12_readsNumber_23 (mB h (fun r3 S4 h => ?_))
    exact r_zret dX12_readsNumber_26 rfl (Nat.le_refl _) (Nat.le_refl _) ⟨_, _, rfl, rfl, h⟩
set_option maxRecDepth 20000 in
theorem sg_readsNumber_27 {E : EvT} {q : Nat → Nat} {d : Nat} {S : StM} {P : Bool → StM → Prop} {y1 : Int32} {y2 : Int32} (h : (s_place0 S < s_length0 S → 0 ≤ s_place0 S ∧ s_place0 S < 400) ∧ (((mDigit S) = false → (((s_number0 S) ≤ y1 → (P true S)) ∧ (¬ (s_number0 S) ≤ y1 → (C_wrong E q (d + 1) 3 y2 S (fun r4 S5 => (r4 = false → (P false S5)) ∧ (r4 = true → (P true S5))))))) ∧ ((mDigit S) = true → ((¬ (s_place0 S) = (y2 + 5) → (T_readsNumber_27 E q (d + 2) P (sI (sI S 32 (((10 * (s_number0 S)) + (mByte S)) - 48)) 29 ((s_place0 S) + 1)) y1 y2)) ∧ ((s_place0 S) = (y2 + 5) → (C_wrong E q (d + 1) 2 (s_place0 S) S (fun r8 S9 => P r8 S9))))))) : T_readsNumber_27 E q (d + 2) P S y1 y2 := by
  refine r_aload_n 0 dX12_readsNumber_27 rfl rfl ?_
  obtain ⟨b1, h⟩ := h
  refine KP_isDigit (d := d + 0) b1 rfl (Nat.le_of_ble_eq_true rfl) dX12_readsNumber_28 ?_
  refine r_if_eqb (tgt := 86) dX12_readsNumber_31 (by decide) (fun c2 => ?_) (fun c2 => ?_)
  · have h := h.1 c2
    refine r_aload_n 0 dX12_readsNumber_86 rfl rfl ?_
    refine mg_32 rfl dX12_readsNumber_87 ?_
    refine r_iload_n 1 dX12_readsNumber_90 rfl rfl ?_
    refine r_icmp_le (tgt := 103) dX12_readsNumber_91 (by decide) (fun c3 => ?_) (fun c3 => ?_)
    · have h := h.1 c3
      refine r_iconst_1 dX12_readsNumber_103 ?_
      refine r_goto (tgt := 108) dX12_readsNumber_104 (by decide) ?_
      exact r_zret1 dX12_readsNumber_108 rfl (Nat.le_refl _) (Nat.le_refl _) ⟨_, _, rfl, rfl, h⟩
    · have h := h.2 c3
      refine r_aload_n 0 dX12_readsNumber_94 rfl rfl ?_
      refine r_iconst_3 dX12_readsNumber_95 ?_
      refine r_iload_n 2 dX12_readsNumber_96 rfl rfl ?_
      refine K_wrong rfl (Nat.le_of_ble_eq_true rfl) dX12_readsNumber_97 (mB h (fun r4 S5 h => ?_))
      refine r_if_eqb (tgt := 107) dX12_readsNumber_100 (by decide) (fun c6 => ?_) (fun c6 => ?_)
      · have h := h.1 c6
        refine r_iconst_0 dX12_readsNumber_107 ?_
        exact r_zret0 dX12_readsNumber_108 rfl (Nat.le_refl _) (Nat.le_refl _) ⟨_, _, rfl, rfl, h⟩
      · have h := h.2 c6
        refine r_iconst_1 dX12_readsNumber_103 ?_
        refine r_goto (tgt := 108) dX12_readsNumber_104 (by decide) ?_
        exact r_zret1 dX12_readsNumber_108 rfl (Nat.le_refl _) (Nat.le_refl _) ⟨_, _, rfl, rfl, h⟩
  · have h := h.2 c2
    refine r_aload_n 0 dX12_readsNumber_34 rfl rfl ?_
    refine mg_29 rfl dX12_readsNumber_35 ?_
    refine r_iload_n 2 dX12_readsNumber_38 rfl rfl ?_
    refine r_iconst_5 dX12_readsNumber_39 ?_
    refine r_iadd dX12_readsNumber_40 ?_
    refine r_icmp_ne (tgt := 54) dX12_readsNumber_41 (by decide) (fun c7 => ?_) (fun c7 => ?_)
    · have h := h.1 c7
      refine r_aload_n 0 dX12_readsNumber_54 rfl rfl ?_
      refine r_bipush_10 dX12_readsNumber_55 ?_
      refine r_aload_n 0 dX12_readsNumber_57 rfl rfl ?_
      refine mg_32 rfl dX12_readsNumber_58 ?_
      refine r_imul dX12_readsNumber_61 ?_
      refine r_aload_n 0 dX12_readsNumber_62 rfl rfl ?_
      refine KP_byteHere (d := d + 1) b1 rfl (Nat.le_of_ble_eq_true rfl) dX12_readsNumber_63 ?_
      refine r_iadd dX12_readsNumber_66 ?_
      refine r_bipush_48 dX12_readsNumber_67 ?_
      refine r_isub dX12_readsNumber_69 ?_
      refine mq_32 rfl dX12_readsNumber_70 ?_
      refine r_aload_n 0 dX12_readsNumber_73 rfl rfl ?_
      refine r_aload_n 0 dX12_readsNumber_74 rfl rfl ?_
      refine mg_29 rfl dX12_readsNumber_75 ?_
      refine r_iconst_1 dX12_readsNumber_78 ?_
      refine r_iadd dX12_readsNumber_79 ?_
      refine mq_29 rfl dX12_readsNumber_80 ?_
      refine r_goto (tgt := 27) dX12_readsNumber_83 (by decide) ?_
      refine r_ls [0, 1, 2] (ls2 := [(0, .ref (q 0)), (1, .int (y1)), (2, .int (y2))]) rfl ?_
      exact h
    · have h := h.2 c7
      refine r_aload_n 0 dX12_readsNumber_44 rfl rfl ?_
      refine r_iconst_2 dX12_readsNumber_45 ?_
      refine r_aload_n 0 dX12_readsNumber_46 rfl rfl ?_
      refine mg_29 rfl dX12_readsNumber_47 ?_
      refine K_wrong rfl (Nat.le_of_ble_eq_true rfl) dX12_readsNumber_50 (mB h (fun r8 S9 h => ?_))
      exact r_zret dX12_readsNumber_53 rfl (Nat.le_refl _) (Nat.le_refl _) ⟨_, _, rfl, rfl, h⟩
set_option maxRecDepth 20000 in
theorem en_says {E : EvT} {q : Nat → Nat} {d : Nat} {x1 : Int32} {x2 : Int32} {S : StM} {P : StM → Prop} (h : (0 ≤ (s_codeMany S) ∧ (s_codeMany S) < 180) ∧ (P (sI (sA S 37 (upd (a_said S) (ix (s_codeMany S)) ((1048576 * x1) + x2))) 34 ((s_codeMany S) + 1)))) : C_says E q d x1 x2 S P := by
  refine Cn.of rfl (Nat.le_of_ble_eq_true rfl) (ls := [(0, .ref (q 0)), (1, .int (x1)), (2, .int (x2))]) rfl ?_
  refine r_aload_n 0 dX12_says_0 rfl rfl ?_
  refine mg_37 rfl dX12_says_1 ?_
  refine r_aload_n 0 dX12_says_4 rfl rfl ?_
  refine mg_34 rfl dX12_says_5 ?_
  refine r_ldcw w8_175 dX12_says_8 ?_
  refine r_iload_n 1 dX12_says_11 rfl rfl ?_
  refine r_imul dX12_says_12 ?_
  refine r_iload_n 2 dX12_says_13 rfl rfl ?_
  refine r_iadd dX12_says_14 ?_
  obtain ⟨b1, h⟩ := h
  refine mt_37 b1 dX12_says_15 ?_
  refine r_aload_n 0 dX12_says_16 rfl rfl ?_
  refine r_aload_n 0 dX12_says_17 rfl rfl ?_
  refine mg_34 rfl dX12_says_18 ?_
  refine r_iconst_1 dX12_says_21 ?_
  refine r_iadd dX12_says_22 ?_
  refine mq_34 rfl dX12_says_23 ?_
  exact r_vret dX12_says_26 rfl (Nat.le_refl _) (Nat.le_refl _) ⟨_, rfl, rfl, h⟩
set_option maxRecDepth 20000 in
theorem en_opens {E : EvT} {q : Nat → Nat} {d : Nat} {x1 : Int32} {S : StM} {P : Bool → StM → Prop} (h : (¬ (s_open S) = 6 → ((0 ≤ (s_waiting S) ∧ (s_waiting S) < 180) ∧ (P true (sI (sI (sA (sI S 33 ((s_open S) + 1)) 38 (upd (a_waits S) (ix (s_waiting S)) (1048576 * x1))) 35 ((s_waiting S) + 1)) 29 ((s_place0 S) + 1))))) ∧ ((s_open S) = 6 → (C_wrong E q d 5 (s_place0 S) S (fun r3 S4 => P r3 S4)))) : C_opens E q (d + 1) x1 S P := by
  refine Cn.of rfl (Nat.le_of_ble_eq_true rfl) (ls := [(0, .ref (q 0)), (1, .int (x1))]) rfl ?_
  refine r_aload_n 0 dX12_opens_0 rfl rfl ?_
  refine mg_33 rfl dX12_opens_1 ?_
  refine r_bipush_6 dX12_opens_4 ?_
  refine r_icmp_ne (tgt := 19) dX12_opens_6 (by decide) (fun c1 => ?_) (fun c1 => ?_)
  · have h := h.1 c1
    refine r_aload_n 0 dX12_opens_19 rfl rfl ?_
    refine r_aload_n 0 dX12_opens_20 rfl rfl ?_
    refine mg_33 rfl dX12_opens_21 ?_
    refine r_iconst_1 dX12_opens_24 ?_
    refine r_iadd dX12_opens_25 ?_
    refine mq_33 rfl dX12_opens_26 ?_
    refine r_aload_n 0 dX12_opens_29 rfl rfl ?_
    refine mg_38 rfl dX12_opens_30 ?_
    refine r_aload_n 0 dX12_opens_33 rfl rfl ?_
    refine mg_35 rfl dX12_opens_34 ?_
    refine r_ldcw w8_175 dX12_opens_37 ?_
    refine r_iload_n 1 dX12_opens_40 rfl rfl ?_
    refine r_imul dX12_opens_41 ?_
    obtain ⟨b2, h⟩ := h
    refine mt_38 b2 dX12_opens_42 ?_
    refine r_aload_n 0 dX12_opens_43 rfl rfl ?_
    refine r_aload_n 0 dX12_opens_44 rfl rfl ?_
    refine mg_35 rfl dX12_opens_45 ?_
    refine r_iconst_1 dX12_opens_48 ?_
    refine r_iadd dX12_opens_49 ?_
    refine mq_35 rfl dX12_opens_50 ?_
    refine r_aload_n 0 dX12_opens_53 rfl rfl ?_
    refine r_aload_n 0 dX12_opens_54 rfl rfl ?_
    refine mg_29 rfl dX12_opens_55 ?_
    refine r_iconst_1 dX12_opens_58 ?_
    refine r_iadd dX12_opens_59 ?_
    refine mq_29 rfl dX12_opens_60 ?_
    refine r_iconst_1 dX12_opens_63 ?_
    exact r_zret1 dX12_opens_64 rfl (Nat.le_refl _) (Nat.le_refl _) ⟨_, _, rfl, rfl, h⟩
  · have h := h.2 c1
    refine r_aload_n 0 dX12_opens_9 rfl rfl ?_
    refine r_iconst_5 dX12_opens_10 ?_
    refine r_aload_n 0 dX12_opens_11 rfl rfl ?_
    refine mg_29 rfl dX12_opens_12 ?_
    refine K_wrong rfl (Nat.le_of_ble_eq_true rfl) dX12_opens_15 (mB h (fun r3 S4 h => ?_))
    exact r_zret dX12_opens_18 rfl (Nat.le_refl _) (Nat.le_refl _) ⟨_, _, rfl, rfl, h⟩
abbrev T_closesSums_0 (E : EvT) (q : Nat → Nat) (D : Nat) (P : StM → Prop) (S : StM) (y1 : Int32) : Prop := RM E q iM_closesSums D (qV E q P) S [(0, .ref (q 0)), (1, .int (y1))] [] 0
set_option maxRecDepth 20000 in
theorem en_closesSums {E : EvT} {q : Nat → Nat} {d : Nat} {x1 : Int32} {S : StM} {P : StM → Prop} (h : (¬ s_waiting S = 0 → 0 ≤ s_waiting S - 1 ∧ s_waiting S - 1 < 180) ∧ (((mTop S) < 4 → ((x1 = 0 → (P S)) ∧ (¬ x1 = 0 → (((mTop S) = 2 → (C_says E q d (mTop S) 0 S (fun S6 => T_closesSums_0 E q (d + 1) P (sI S6 35 ((s_waiting S6) - 1)) x1))) ∧ (¬ (mTop S) = 2 → ((¬ (mTop S) = 3 → (P S)) ∧ ((mTop S) = 3 → (C_says E q d (mTop S) 0 S (fun S9 => T_closesSums_0 E q (d + 1) P (sI S9 35 ((s_waiting S9) - 1)) x1))))))))) ∧ (¬ (mTop S) < 4 → (((mTop S) ≤ 6 → (C_says E q d (mTop S) 0 S (fun S12 => T_closesSums_0 E q (d + 1) P (sI S12 35 ((s_waiting S12) - 1)) x1))) ∧ (¬ (mTop S) ≤ 6 → ((x1 = 0 → (P S)) ∧ (¬ x1 = 0 → (((mTop S) = 2 → (C_says E q d (mTop S) 0 S (fun S16 => T_closesSums_0 E q (d + 1) P (sI S16 35 ((s_waiting S16) - 1)) x1))) ∧ (¬ (mTop S) = 2 → ((¬ (mTop S) = 3 → (P S)) ∧ ((mTop S) = 3 → (C_says E q d (mTop S) 0 S (fun S19 => T_closesSums_0 E q (d + 1) P (sI S19 35 ((s_waiting S19) - 1)) x1))))))))))))) : C_closesSums E q (d + 1) x1 S P := by
  refine Cn.of rfl (Nat.le_of_ble_eq_true rfl) (ls := [(0, .ref (q 0)), (1, .int (x1))]) rfl ?_
  refine r_aload_n 0 dX12_closesSums_0 rfl rfl ?_
  obtain ⟨b1, h⟩ := h
  refine KP_top (d := d + 0) b1 rfl (Nat.le_of_ble_eq_true rfl) dX12_closesSums_1 ?_
  refine r_iconst_4 dX12_closesSums_4 ?_
  refine r_icmp_lt (tgt := 17) dX12_closesSums_5 (by decide) (fun c2 => ?_) (fun c2 => ?_)
  · have h := h.1 c2
    refine r_iload_n 1 dX12_closesSums_17 rfl rfl ?_
    refine r_if_eq (tgt := 59) dX12_closesSums_18 (by decide) (fun c3 => ?_) (fun c3 => ?_)
    · have h := h.1 c3
      exact r_vret dX12_closesSums_59 rfl (Nat.le_refl _) (Nat.le_refl _) ⟨_, rfl, rfl, h⟩
    · have h := h.2 c3
      refine r_aload_n 0 dX12_closesSums_21 rfl rfl ?_
      refine KP_top (d := d + 0) b1 rfl (Nat.le_of_ble_eq_true rfl) dX12_closesSums_22 ?_
      refine r_iconst_2 dX12_closesSums_25 ?_
      refine r_icmp_eq (tgt := 37) dX12_closesSums_26 (by decide) (fun c4 => ?_) (fun c4 => ?_)
      · have h := h.1 c4
        refine r_aload_n 0 dX12_closesSums_37 rfl rfl ?_
        refine r_aload_n 0 dX12_closesSums_38 rfl rfl ?_
        refine KP_top (d := d + 0) b1 rfl (Nat.le_of_ble_eq_true rfl) dX12_closesSums_39 ?_
        refine r_iconst_0 dX12_closesSums_42 ?_
        refine K_says rfl (Nat.le_of_ble_eq_true rfl) dX12_closesSums_43 (mV h (fun S6 h => ?_))
        refine r_aload_n 0 dX12_closesSums_46 rfl rfl ?_
        refine r_aload_n 0 dX12_closesSums_47 rfl rfl ?_
        refine mg_35 rfl dX12_closesSums_48 ?_
        refine r_iconst_1 dX12_closesSums_51 ?_
        refine r_isub dX12_closesSums_52 ?_
        refine mq_35 rfl dX12_closesSums_53 ?_
        refine r_goto (tgt := 0) dX12_closesSums_56 (by decide) ?_
        refine r_ls [0, 1] (ls2 := [(0, .ref (q 0)), (1, .int (x1))]) rfl ?_
        exact h
      · have h := h.2 c4
        refine r_aload_n 0 dX12_closesSums_29 rfl rfl ?_
        refine KP_top (d := d + 0) b1 rfl (Nat.le_of_ble_eq_true rfl) dX12_closesSums_30 ?_
        refine r_iconst_3 dX12_closesSums_33 ?_
        refine r_icmp_ne (tgt := 59) dX12_closesSums_34 (by decide) (fun c7 => ?_) (fun c7 => ?_)
        · have h := h.1 c7
          exact r_vret dX12_closesSums_59 rfl (Nat.le_refl _) (Nat.le_refl _) ⟨_, rfl, rfl, h⟩
        · have h := h.2 c7
          refine r_aload_n 0 dX12_closesSums_37 rfl rfl ?_
          refine r_aload_n 0 dX12_closesSums_38 rfl rfl ?_
          refine KP_top (d := d + 0) b1 rfl (Nat.le_of_ble_eq_true rfl) dX12_closesSums_39 ?_
          refine r_iconst_0 dX12_closesSums_42 ?_
          refine K_says rfl (Nat.le_of_ble_eq_true rfl) dX12_closesSums_43 (mV h (fun S9 h => ?_))
          refine r_aload_n 0 dX12_closesSums_46 rfl rfl ?_
          refine r_aload_n 0 dX12_closesSums_47 rfl rfl ?_
          refine mg_35 rfl dX12_closesSums_48 ?_
          refine r_iconst_1 dX12_closesSums_51 ?_
          refine r_isub dX12_closesSums_52 ?_
          refine mq_35 rfl dX12_closesSums_53 ?_
          refine r_goto (tgt := 0) dX12_closesSums_56 (by decide) ?_
          refine r_ls [0, 1] (ls2 := [(0, .ref (q 0)), (1, .int (x1))]) rfl ?_
          exact h
  · have h := h.2 c2
    refine r_aload_n 0 dX12_closesSums_8 rfl rfl ?_
    refine KP_top (d := d + 0) b1 rfl (Nat.le_of_ble_eq_true rfl) dX12_closesSums_9 ?_
    refine r_bipush_6 dX12_closesSums_12 ?_
    refine r_icmp_le (tgt := 37) dX12_closesSums_14 (by decide) (fun c10 => ?_) (fun c10 => ?_)
    · have h := h.1 c10
      refine r_aload_n 0 dX12_closesSums_37 rfl rfl ?_
      refine r_aload_n 0 dX12_closesSums_38 rfl rfl ?_
      refine KP_top (d := d + 0) b1 rfl (Nat.le_of_ble_eq_true rfl) dX12_closesSums_39 ?_
      refine r_iconst_0 dX12_closesSums_42 ?_
      refine K_says rfl (Nat.le_of_ble_eq_true rfl) dX12_closesSums_43 (mV h (fun S12 h => ?_))
      refine r_aload_n 0 dX12_closesSums_46 rfl rfl ?_
      refine r_aload_n 0 dX12_closesSums_47 rfl rfl ?_
      refine mg_35 rfl dX12_closesSums_48 ?_
      refine r_iconst_1 dX12_closesSums_51 ?_
      refine r_isub dX12_closesSums_52 ?_
      refine mq_35 rfl dX12_closesSums_53 ?_
      refine r_goto (tgt := 0) dX12_closesSums_56 (by decide) ?_
      refine r_ls [0, 1] (ls2 := [(0, .ref (q 0)), (1, .int (x1))]) rfl ?_
      exact h
    · have h := h.2 c10
      refine r_iload_n 1 dX12_closesSums_17 rfl rfl ?_
      refine r_if_eq (tgt := 59) dX12_closesSums_18 (by decide) (fun c13 => ?_) (fun c13 => ?_)
      · have h := h.1 c13
        exact r_vret dX12_closesSums_59 rfl (Nat.le_refl _) (Nat.le_refl _) ⟨_, rfl, rfl, h⟩
      · have h := h.2 c13
        refine r_aload_n 0 dX12_closesSums_21 rfl rfl ?_
        refine KP_top (d := d + 0) b1 rfl (Nat.le_of_ble_eq_true rfl) dX12_closesSums_22 ?_
        refine r_iconst_2 dX12_closesSums_25 ?_
        refine r_icmp_eq (tgt := 37) dX12_closesSums_26 (by decide) (fun c14 => ?_) (fun c14 => ?_)
        · have h := h.1 c14
          refine r_aload_n 0 dX12_closesSums_37 rfl rfl ?_
          refine r_aload_n 0 dX12_closesSums_38 rfl rfl ?_
          refine KP_top (d := d + 0) b1 rfl (Nat.le_of_ble_eq_true rfl) dX12_closesSums_39 ?_
          refine r_iconst_0 dX12_closesSums_42 ?_
          refine K_says rfl (Nat.le_of_ble_eq_true rfl) dX12_closesSums_43 (mV h (fun S16 h => ?_))
          refine r_aload_n 0 dX12_closesSums_46 rfl rfl ?_
          refine r_aload_n 0 dX12_closesSums_47 rfl rfl ?_
          refine mg_35 rfl dX12_closesSums_48 ?_
          refine r_iconst_1 dX12_closesSums_51 ?_
          refine r_isub dX12_closesSums_52 ?_
          refine mq_35 rfl dX12_closesSums_53 ?_
          refine r_goto (tgt := 0) dX12_closesSums_56 (by decide) ?_
          refine r_ls [0, 1] (ls2 := [(0, .ref (q 0)), (1, .int (x1))]) rfl ?_
          exact h
        · have h := h.2 c14
          refine r_aload_n 0 dX12_closesSums_29 rfl rfl ?_
          refine KP_top (d := d + 0) b1 rfl (Nat.le_of_ble_eq_true rfl) dX12_closesSums_30 ?_
          refine r_iconst_3 dX12_closesSums_33 ?_
          refine r_icmp_ne (tgt := 59) dX12_closesSums_34 (by decide) (fun c17 => ?_) (fun c17 => ?_)
          · have h := h.1 c17
            exact r_vret dX12_closesSums_59 rfl (Nat.le_refl _) (Nat.le_refl _) ⟨_, rfl, rfl, h⟩
          · have h := h.2 c17
            refine r_aload_n 0 dX12_closesSums_37 rfl rfl ?_
            refine r_aload_n 0 dX12_closesSums_38 rfl rfl ?_
            refine KP_top (d := d + 0) b1 rfl (Nat.le_of_ble_eq_true rfl) dX12_closesSums_39 ?_
            refine r_iconst_0 dX12_closesSums_42 ?_
            refine K_says rfl (Nat.le_of_ble_eq_true rfl) dX12_closesSums_43 (mV h (fun S19 h => ?_))
            refine r_aload_n 0 dX12_closesSums_46 rfl rfl ?_
            refine r_aload_n 0 dX12_closesSums_47 rfl rfl ?_
            refine mg_35 rfl dX12_closesSums_48 ?_
            refine r_iconst_1 dX12_closesSums_51 ?_
            refine r_isub dX12_closesSums_52 ?_
            refine mq_35 rfl dX12_closesSums_53 ?_
            refine r_goto (tgt := 0) dX12_closesSums_56 (by decide) ?_
            refine r_ls [0, 1] (ls2 := [(0, .ref (q 0)), (1, .int (x1))]) rfl ?_
            exact h
set_option maxRecDepth 20000 in
theorem sg_closesSums_0 {E : EvT} {q : Nat → Nat} {d : Nat} {S : StM} {P : StM → Prop} {y1 : Int32} (h : (¬ s_waiting S = 0 → 0 ≤ s_waiting S - 1 ∧ s_waiting S - 1 < 180) ∧ (((mTop S) < 4 → ((y1 = 0 → (P S)) ∧ (¬ y1 = 0 → (((mTop S) = 2 → (C_says E q d (mTop S) 0 S (fun S6 => T_closesSums_0 E q (d + 1) P (sI S6 35 ((s_waiting S6) - 1)) y1))) ∧ (¬ (mTop S) = 2 → ((¬ (mTop S) = 3 → (P S)) ∧ ((mTop S) = 3 → (C_says E q d (mTop S) 0 S (fun S9 => T_closesSums_0 E q (d + 1) P (sI S9 35 ((s_waiting S9) - 1)) y1))))))))) ∧ (¬ (mTop S) < 4 → (((mTop S) ≤ 6 → (C_says E q d (mTop S) 0 S (fun S12 => T_closesSums_0 E q (d + 1) P (sI S12 35 ((s_waiting S12) - 1)) y1))) ∧ (¬ (mTop S) ≤ 6 → ((y1 = 0 → (P S)) ∧ (¬ y1 = 0 → (((mTop S) = 2 → (C_says E q d (mTop S) 0 S (fun S16 => T_closesSums_0 E q (d + 1) P (sI S16 35 ((s_waiting S16) - 1)) y1))) ∧ (¬ (mTop S) = 2 → ((¬ (mTop S) = 3 → (P S)) ∧ ((mTop S) = 3 → (C_says E q d (mTop S) 0 S (fun S19 => T_closesSums_0 E q (d + 1) P (sI S19 35 ((s_waiting S19) - 1)) y1))))))))))))) : T_closesSums_0 E q (d + 1) P S y1 := by
  refine r_aload_n 0 dX12_closesSums_0 rfl rfl ?_
  obtain ⟨b1, h⟩ := h
  refine KP_top (d := d + 0) b1 rfl (Nat.le_of_ble_eq_true rfl) dX12_closesSums_1 ?_
  refine r_iconst_4 dX12_closesSums_4 ?_
  refine r_icmp_lt (tgt := 17) dX12_closesSums_5 (by decide) (fun c2 => ?_) (fun c2 => ?_)
  · have h := h.1 c2
    refine r_iload_n 1 dX12_closesSums_17 rfl rfl ?_
    refine r_if_eq (tgt := 59) dX12_closesSums_18 (by decide) (fun c3 => ?_) (fun c3 => ?_)
    · have h := h.1 c3
      exact r_vret dX12_closesSums_59 rfl (Nat.le_refl _) (Nat.le_refl _) ⟨_, rfl, rfl, h⟩
    · have h := h.2 c3
      refine r_aload_n 0 dX12_closesSums_21 rfl rfl ?_
      refine KP_top (d := d + 0) b1 rfl (Nat.le_of_ble_eq_true rfl) dX12_closesSums_22 ?_
      refine r_iconst_2 dX12_closesSums_25 ?_
      refine r_icmp_eq (tgt := 37) dX12_closesSums_26 (by decide) (fun c4 => ?_) (fun c4 => ?_)
      · have h := h.1 c4
        refine r_aload_n 0 dX12_closesSums_37 rfl rfl ?_
        refine r_aload_n 0 dX12_closesSums_38 rfl rfl ?_
        refine KP_top (d := d + 0) b1 rfl (Nat.le_of_ble_eq_true rfl) dX12_closesSums_39 ?_
        refine r_iconst_0 dX12_closesSums_42 ?_
        refine K_says rfl (Nat.le_of_ble_eq_true rfl) dX12_closesSums_43 (mV h (fun S6 h => ?_))
        refine r_aload_n 0 dX12_closesSums_46 rfl rfl ?_
        refine r_aload_n 0 dX12_closesSums_47 rfl rfl ?_
        refine mg_35 rfl dX12_closesSums_48 ?_
        refine r_iconst_1 dX12_closesSums_51 ?_
        refine r_isub dX12_closesSums_52 ?_
        refine mq_35 rfl dX12_closesSums_53 ?_
        refine r_goto (tgt := 0) dX12_closesSums_56 (by decide) ?_
        refine r_ls [0, 1] (ls2 := [(0, .ref (q 0)), (1, .int (y1))]) rfl ?_
        exact h
      · have h := h.2 c4
        refine r_aload_n 0 dX12_closesSums_29 rfl rfl ?_
        refine KP_top (d := d + 0) b1 rfl (Nat.le_of_ble_eq_true rfl) dX12_closesSums_30 ?_
        refine r_iconst_3 dX12_closesSums_33 ?_
        refine r_icmp_ne (tgt := 59) dX12_closesSums_34 (by decide) (fun c7 => ?_) (fun c7 => ?_)
        · have h := h.1 c7
          exact r_vret dX12_closesSums_59 rfl (Nat.le_refl _) (Nat.le_refl _) ⟨_, rfl, rfl, h⟩
        · have h := h.2 c7
          refine r_aload_n 0 dX12_closesSums_37 rfl rfl ?_
          refine r_aload_n 0 dX12_closesSums_38 rfl rfl ?_
          refine KP_top (d := d + 0) b1 rfl (Nat.le_of_ble_eq_true rfl) dX12_closesSums_39 ?_
          refine r_iconst_0 dX12_closesSums_42 ?_
          refine K_says rfl (Nat.le_of_ble_eq_true rfl) dX12_closesSums_43 (mV h (fun S9 h => ?_))
          refine r_aload_n 0 dX12_closesSums_46 rfl rfl ?_
          refine r_aload_n 0 dX12_closesSums_47 rfl rfl ?_
          refine mg_35 rfl dX12_closesSums_48 ?_
          refine r_iconst_1 dX12_closesSums_51 ?_
          refine r_isub dX12_closesSums_52 ?_
          refine mq_35 rfl dX12_closesSums_53 ?_
          refine r_goto (tgt := 0) dX12_closesSums_56 (by decide) ?_
          refine r_ls [0, 1] (ls2 := [(0, .ref (q 0)), (1, .int (y1))]) rfl ?_
          exact h
  · have h := h.2 c2
    refine r_aload_n 0 dX12_closesSums_8 rfl rfl ?_
    refine KP_top (d := d + 0) b1 rfl (Nat.le_of_ble_eq_true rfl) dX12_closesSums_9 ?_
    refine r_bipush_6 dX12_closesSums_12 ?_
    refine r_icmp_le (tgt := 37) dX12_closesSums_14 (by decide) (fun c10 => ?_) (fun c10 => ?_)
    · have h := h.1 c10
      refine r_aload_n 0 dX12_closesSums_37 rfl rfl ?_
      refine r_aload_n 0 dX12_closesSums_38 rfl rfl ?_
      refine KP_top (d := d + 0) b1 rfl (Nat.le_of_ble_eq_true rfl) dX12_closesSums_39 ?_
      refine r_iconst_0 dX12_closesSums_42 ?_
      refine K_says rfl (Nat.le_of_ble_eq_true rfl) dX12_closesSums_43 (mV h (fun S12 h => ?_))
      refine r_aload_n 0 dX12_closesSums_46 rfl rfl ?_
      refine r_aload_n 0 dX12_closesSums_47 rfl rfl ?_
      refine mg_35 rfl dX12_closesSums_48 ?_
      refine r_iconst_1 dX12_closesSums_51 ?_
      refine r_isub dX12_closesSums_52 ?_
      refine mq_35 rfl dX12_closesSums_53 ?_
      refine r_goto (tgt := 0) dX12_closesSums_56 (by decide) ?_
      refine r_ls [0, 1] (ls2 := [(0, .ref (q 0)), (1, .int (y1))]) rfl ?_
      exact h
    · have h := h.2 c10
      refine r_iload_n 1 dX12_closesSums_17 rfl rfl ?_
      refine r_if_eq (tgt := 59) dX12_closesSums_18 (by decide) (fun c13 => ?_) (fun c13 => ?_)
      · have h := h.1 c13
        exact r_vret dX12_closesSums_59 rfl (Nat.le_refl _) (Nat.le_refl _) ⟨_, rfl, rfl, h⟩
      · have h := h.2 c13
        refine r_aload_n 0 dX12_closesSums_21 rfl rfl ?_
        refine KP_top (d := d + 0) b1 rfl (Nat.le_of_ble_eq_true rfl) dX12_closesSums_22 ?_
        refine r_iconst_2 dX12_closesSums_25 ?_
        refine r_icmp_eq (tgt := 37) dX12_closesSums_26 (by decide) (fun c14 => ?_) (fun c14 => ?_)
        · have h := h.1 c14
          refine r_aload_n 0 dX12_closesSums_37 rfl rfl ?_
          refine r_aload_n 0 dX12_closesSums_38 rfl rfl ?_
          refine KP_top (d := d + 0) b1 rfl (Nat.le_of_ble_eq_true rfl) dX12_closesSums_39 ?_
          refine r_iconst_0 dX12_closesSums_42 ?_
          refine K_says rfl (Nat.le_of_ble_eq_true rfl) dX12_closesSums_43 (mV h (fun S16 h => ?_))
          refine r_aload_n 0 dX12_closesSums_46 rfl rfl ?_
          refine r_aload_n 0 dX12_closesSums_47 rfl rfl ?_
          refine mg_35 rfl dX12_closesSums_48 ?_
          refine r_iconst_1 dX12_closesSums_51 ?_
          refine r_isub dX12_closesSums_52 ?_
          refine mq_35 rfl dX12_closesSums_53 ?_
          refine r_goto (tgt := 0) dX12_closesSums_56 (by decide) ?_
          refine r_ls [0, 1] (ls2 := [(0, .ref (q 0)), (1, .int (y1))]) rfl ?_
          exact h
        · have h := h.2 c14
          refine r_aload_n 0 dX12_closesSums_29 rfl rfl ?_
          refine KP_top (d := d + 0) b1 rfl (Nat.le_of_ble_eq_true rfl) dX12_closesSums_30 ?_
          refine r_iconst_3 dX12_closesSums_33 ?_
          refine r_icmp_ne (tgt := 59) dX12_closesSums_34 (by decide) (fun c17 => ?_) (fun c17 => ?_)
          · have h := h.1 c17
            exact r_vret dX12_closesSums_59 rfl (Nat.le_refl _) (Nat.le_refl _) ⟨_, rfl, rfl, h⟩
          · have h := h.2 c17
            refine r_aload_n 0 dX12_closesSums_37 rfl rfl ?_
            refine r_aload_n 0 dX12_closesSums_38 rfl rfl ?_
            refine KP_top (d := d + 0) b1 rfl (Nat.le_of_ble_eq_true rfl) dX12_closesSums_39 ?_
            refine r_iconst_0 dX12_closesSums_42 ?_
            refine K_says rfl (Nat.le_of_ble_eq_true rfl) dX12_closesSums_43 (mV h (fun S19 h => ?_))
            refine r_aload_n 0 dX12_closesSums_46 rfl rfl ?_
            refine r_aload_n 0 dX12_closesSums_47 rfl rfl ?_
            refine mg_35 rfl dX12_closesSums_48 ?_
            refine r_iconst_1 dX12_closesSums_51 ?_
            refine r_isub dX12_closesSums_52 ?_
            refine mq_35 rfl dX12_closesSums_53 ?_
            refine r_goto (tgt := 0) dX12_closesSums_56 (by decide) ?_
            refine r_ls [0, 1] (ls2 := [(0, .ref (q 0)), (1, .int (y1))]) rfl ?_
            exact h
abbrev T_readsFactor_0 (E : EvT) (q : Nat → Nat) (D : Nat) (P : Bool → StM → Prop) (S : StM)  : Prop := RM E q iM_readsFactor D (qB E q P) S [(0, .ref (q 0))] [] 0
set_option maxRecDepth 20000 in
theorem en_readsFactor {E : EvT} {q : Nat → Nat} {d : Nat} {S : StM} {P : Bool → StM → Prop} (h : (s_place0 S < s_length0 S → 0 ≤ s_place0 S ∧ s_place0 S < 400) ∧ ((¬ (mByte S) = 91 → (((mDigit S) = false → ((¬ (mFact (mByte S)) = (-1) → (C_says E q (d + 2) 1 (mFact (mByte S)) S (fun S6 => P true (sI S6 29 ((s_place0 S6) + 1))))) ∧ ((mFact (mByte S)) = (-1) → (C_wrong E q (d + 2) 1 (s_place0 S) S (fun r7 S8 => P r7 S8))))) ∧ ((mDigit S) = true → (C_readsNumber E q (d + 2) 99999 S (fun r9 S10 => (r9 = true → (C_says E q (d + 2) 0 (s_number0 S10) S10 (fun S13 => P true S13))) ∧ (r9 = false → (P false S10))))))) ∧ ((mByte S) = 91 → (C_opens E q (d + 2) 14 S (fun r14 S15 => (r14 = true → (T_readsFactor_0 E q (d + 3) P S15)) ∧ (r14 = false → (P false S15))))))) : C_readsFactor E q (d + 3) S P := by
  refine Cn.of rfl (Nat.le_of_ble_eq_true rfl) (ls := [(0, .ref (q 0))]) rfl ?_
  refine r_aload_n 0 dX12_readsFactor_0 rfl rfl ?_
  obtain ⟨b1, h⟩ := h
  refine KP_byteHere (d := d + 2) b1 rfl (Nat.le_of_ble_eq_true rfl) dX12_readsFactor_1 ?_
  refine r_bipush_91 dX12_readsFactor_4 ?_
  refine r_icmp_ne (tgt := 20) dX12_readsFactor_6 (by decide) (fun c2 => ?_) (fun c2 => ?_)
  · have h := h.1 c2
    refine r_aload_n 0 dX12_readsFactor_20 rfl rfl ?_
    refine KP_isDigit (d := d + 1) b1 rfl (Nat.le_of_ble_eq_true rfl) dX12_readsFactor_21 ?_
    refine r_if_eqb (tgt := 50) dX12_readsFactor_24 (by decide) (fun c3 => ?_) (fun c3 => ?_)
    · have h := h.1 c3
      refine r_aload_n 0 dX12_readsFactor_50 rfl rfl ?_
      refine KP_byteHere (d := d + 2) b1 rfl (Nat.le_of_ble_eq_true rfl) dX12_readsFactor_51 ?_
      refine KP_factOf (d := d + 2)  rfl (Nat.le_of_ble_eq_true rfl) dX12_readsFactor_54 ?_
      refine r_istore_n [(1, .int ((mFact (mByte S)))), (0, .ref (q 0))] dX12_readsFactor_57 rfl (Nat.le_of_ble_eq_true rfl) rfl ?_
      refine r_iload_n 0 dX12_readsFactor_58 rfl rfl ?_
      refine r_iconst_m1 dX12_readsFactor_59 ?_
      refine r_icmp_ne (tgt := 73) dX12_readsFactor_60 (by decide) (fun c4 => ?_) (fun c4 => ?_)
      · have h := h.1 c4
        refine r_aload_n 1 dX12_readsFactor_73 rfl rfl ?_
        refine r_iconst_1 dX12_readsFactor_74 ?_
        refine r_iload_n 0 dX12_readsFactor_75 rfl rfl ?_
        refine K_says rfl (Nat.le_of_ble_eq_true rfl) dX12_readsFactor_76 (mV h (fun S6 h => ?_))
        refine r_aload_n 1 dX12_readsFactor_79 rfl rfl ?_
        refine r_aload_n 1 dX12_readsFactor_80 rfl rfl ?_
        refine mg_29 rfl dX12_readsFactor_81 ?_
        refine r_iconst_1 dX12_readsFactor_84 ?_
        refine r_iadd dX12_readsFactor_85 ?_
        refine mq_29 rfl dX12_readsFactor_86 ?_
        refine r_iconst_1 dX12_readsFactor_89 ?_
        exact r_zret1 dX12_readsFactor_90 rfl (Nat.le_refl _) (Nat.le_refl _) ⟨_, _, rfl, rfl, h⟩
      · have h := h.2 c4
        refine r_aload_n 1 dX12_readsFactor_63 rfl rfl ?_
        refine r_iconst_1 dX12_readsFactor_64 ?_
        refine r_aload_n 1 dX12_readsFactor_65 rfl rfl ?_
        refine mg_29 rfl dX12_readsFactor_66 ?_
        refine K_wrong rfl (Nat.le_of_ble_eq_true rfl) dX12_readsFactor_69 (mB h (fun r7 S8 h => ?_))
        exact r_zret dX12_readsFactor_72 rfl (Nat.le_refl _) (Nat.le_refl _) ⟨_, _, rfl, rfl, h⟩
    · have h := h.2 c3
      refine r_aload_n 0 dX12_readsFactor_27 rfl rfl ?_
      refine r_ldcw w8_188 dX12_readsFactor_28 ?_
      refine K_readsNumber rfl (Nat.le_of_ble_eq_true rfl) dX12_readsFactor_31 (mB h (fun r9 S10 h => ?_))
      refine r_if_neb (tgt := 39) dX12_readsFactor_34 (by decide) (fun c11 => ?_) (fun c11 => ?_)
      · have h := h.1 c11
        refine r_aload_n 0 dX12_readsFactor_39 rfl rfl ?_
        refine r_iconst_0 dX12_readsFactor_40 ?_
        refine r_aload_n 0 dX12_readsFactor_41 rfl rfl ?_
        refine mg_32 rfl dX12_readsFactor_42 ?_
        refine K_says rfl (Nat.le_of_ble_eq_true rfl) dX12_readsFactor_45 (mV h (fun S13 h => ?_))
        refine r_iconst_1 dX12_readsFactor_48 ?_
        exact r_zret1 dX12_readsFactor_49 rfl (Nat.le_refl _) (Nat.le_refl _) ⟨_, _, rfl, rfl, h⟩
      · have h := h.2 c11
        refine r_iconst_0 dX12_readsFactor_37 ?_
        exact r_zret0 dX12_readsFactor_38 rfl (Nat.le_refl _) (Nat.le_refl _) ⟨_, _, rfl, rfl, h⟩
  · have h := h.2 c2
    refine r_aload_n 0 dX12_readsFactor_9 rfl rfl ?_
    refine r_bipush_14 dX12_readsFactor_10 ?_
    refine K_opens rfl (Nat.le_of_ble_eq_true rfl) dX12_readsFactor_12 (mB h (fun r14 S15 h => ?_))
    refine r_if_neb (tgt := 0) dX12_readsFactor_15 (by decide) (fun c16 => ?_) (fun c16 => ?_)
    · have h := h.1 c16
      refine r_ls [0] (ls2 := [(0, .ref (q 0))]) rfl ?_
      exact h
    · have h := h.2 c16
      refine r_iconst_0 dX12_readsFactor_18 ?_
      exact r_zret0 dX12_readsFactor_19 rfl (Nat.le_refl _) (Nat.le_refl _) ⟨_, _, rfl, rfl, h⟩
set_option maxRecDepth 20000 in
theorem sg_readsFactor_0 {E : EvT} {q : Nat → Nat} {d : Nat} {S : StM} {P : Bool → StM → Prop}  (h : (s_place0 S < s_length0 S → 0 ≤ s_place0 S ∧ s_place0 S < 400) ∧ ((¬ (mByte S) = 91 → (((mDigit S) = false → ((¬ (mFact (mByte S)) = (-1) → (C_says E q (d + 2) 1 (mFact (mByte S)) S (fun S6 => P true (sI S6 29 ((s_place0 S6) + 1))))) ∧ ((mFact (mByte S)) = (-1) → (C_wrong E q (d + 2) 1 (s_place0 S) S (fun r7 S8 => P r7 S8))))) ∧ ((mDigit S) = true → (C_readsNumber E q (d + 2) 99999 S (fun r9 S10 => (r9 = true → (C_says E q (d + 2) 0 (s_number0 S10) S10 (fun S13 => P true S13))) ∧ (r9 = false → (P false S10))))))) ∧ ((mByte S) = 91 → (C_opens E q (d + 2) 14 S (fun r14 S15 => (r14 = true → (T_readsFactor_0 E q (d + 3) P S15)) ∧ (r14 = false → (P false S15))))))) : T_readsFactor_0 E q (d + 3) P S  := by
  refine r_aload_n 0 dX12_readsFactor_0 rfl rfl ?_
  obtain ⟨b1, h⟩ := h
  refine KP_byteHere (d := d + 2) b1 rfl (Nat.le_of_ble_eq_true rfl) dX12_readsFactor_1 ?_
  refine r_bipush_91 dX12_readsFactor_4 ?_
  refine r_icmp_ne (tgt := 20) dX12_readsFactor_6 (by decide) (fun c2 => ?_) (fun c2 => ?_)
  · have h := h.1 c2
    refine r_aload_n 0 dX12_readsFactor_20 rfl rfl ?_
    refine KP_isDigit (d := d + 1) b1 rfl (Nat.le_of_ble_eq_true rfl) dX12_readsFactor_21 ?_
    refine r_if_eqb (tgt := 50) dX12_readsFactor_24 (by decide) (fun c3 => ?_) (fun c3 => ?_)
    · have h := h.1 c3
      refine r_aload_n 0 dX12_readsFactor_50 rfl rfl ?_
      refine KP_byteHere (d := d + 2) b1 rfl (Nat.le_of_ble_eq_true rfl) dX12_readsFactor_51 ?_
      refine KP_factOf (d := d + 2)  rfl (Nat.le_of_ble_eq_true rfl) dX12_readsFactor_54 ?_
      refine r_istore_n [(1, .int ((mFact (mByte S)))), (0, .ref (q 0))] dX12_readsFactor_57 rfl (Nat.le_of_ble_eq_true rfl) rfl ?_
      refine r_iload_n 0 dX12_readsFactor_58 rfl rfl ?_
      refine r_iconst_m1 dX12_readsFactor_59 ?_
      refine r_icmp_ne (tgt := 73) dX12_readsFactor_60 (by decide) (fun c4 => ?_) (fun c4 => ?_)
      · have h := h.1 c4
        refine r_aload_n 1 dX12_readsFactor_73 rfl rfl ?_
        refine r_iconst_1 dX12_readsFactor_74 ?_
        refine r_iload_n 0 dX12_readsFactor_75 rfl rfl ?_
        refine K_says rfl (Nat.le_of_ble_eq_true rfl) dX12_readsFactor_76 (mV h (fun S6 h => ?_))
        refine r_aload_n 1 dX12_readsFactor_79 rfl rfl ?_
        refine r_aload_n 1 dX12_readsFactor_80 rfl rfl ?_
        refine mg_29 rfl dX12_readsFactor_81 ?_
        refine r_iconst_1 dX12_readsFactor_84 ?_
        refine r_iadd dX12_readsFactor_85 ?_
        refine mq_29 rfl dX12_readsFactor_86 ?_
        refine r_iconst_1 dX12_readsFactor_89 ?_
        exact r_zret1 dX12_readsFactor_90 rfl (Nat.le_refl _) (Nat.le_refl _) ⟨_, _, rfl, rfl, h⟩
      · have h := h.2 c4
        refine r_aload_n 1 dX12_readsFactor_63 rfl rfl ?_
        refine r_iconst_1 dX12_readsFactor_64 ?_
        refine r_aload_n 1 dX12_readsFactor_65 rfl rfl ?_
        refine mg_29 rfl dX12_readsFactor_66 ?_
        refine K_wrong rfl (Nat.le_of_ble_eq_true rfl) dX12_readsFactor_69 (mB h (fun r7 S8 h => ?_))
        exact r_zret dX12_readsFactor_72 rfl (Nat.le_refl _) (Nat.le_refl _) ⟨_, _, rfl, rfl, h⟩
    · have h := h.2 c3
      refine r_aload_n 0 dX12_readsFactor_27 rfl rfl ?_
      refine r_ldcw w8_188 dX12_readsFactor_28 ?_
      refine K_readsNumber rfl (Nat.le_of_ble_eq_true rfl) dX12_readsFactor_31 (mB h (fun r9 S10 h => ?_))
      refine r_if_neb (tgt := 39) dX12_readsFactor_34 (by decide) (fun c11 => ?_) (fun c11 => ?_)
      · have h := h.1 c11
        refine r_aload_n 0 dX12_readsFactor_39 rfl rfl ?_
        refine r_iconst_0 dX12_readsFactor_40 ?_
        refine r_aload_n 0 dX12_readsFactor_41 rfl rfl ?_
        refine mg_32 rfl dX12_readsFactor_42 ?_
        refine K_says rfl (Nat.le_of_ble_eq_true rfl) dX12_readsFactor_45 (mV h (fun S13 h => ?_))
        refine r_iconst_1 dX12_readsFactor_48 ?_
        exact r_zret1 dX12_readsFactor_49 rfl (Nat.le_refl _) (Nat.le_refl _) ⟨_, _, rfl, rfl, h⟩
      · have h := h.2 c11
        refine r_iconst_0 dX12_readsFactor_37 ?_
        exact r_zret0 dX12_readsFactor_38 rfl (Nat.le_refl _) (Nat.le_refl _) ⟨_, _, rfl, rfl, h⟩
  · have h := h.2 c2
    refine r_aload_n 0 dX12_readsFactor_9 rfl rfl ?_
    refine r_bipush_14 dX12_readsFactor_10 ?_
    refine K_opens rfl (Nat.le_of_ble_eq_true rfl) dX12_readsFactor_12 (mB h (fun r14 S15 h => ?_))
    refine r_if_neb (tgt := 0) dX12_readsFactor_15 (by decide) (fun c16 => ?_) (fun c16 => ?_)
    · have h := h.1 c16
      refine r_ls [0] (ls2 := [(0, .ref (q 0))]) rfl ?_
      exact h
    · have h := h.2 c16
      refine r_iconst_0 dX12_readsFactor_18 ?_
      exact r_zret0 dX12_readsFactor_19 rfl (Nat.le_refl _) (Nat.le_refl _) ⟨_, _, rfl, rfl, h⟩
abbrev T_hasOpenSum_2 (E : EvT) (q : Nat → Nat) (D : Nat) (P : Bool → StM → Prop) (S : StM) (y2 : Int32) : Prop := RM E q iM_hasOpenSum D (qB E q P) S [(0, .ref (q 0)), (2, .int (y2))] [] 2
set_option maxRecDepth 20000 in
theorem en_hasOpenSum {E : EvT} {q : Nat → Nat} {d : Nat} {x1 : Int32} {S : StM} {P : Bool → StM → Prop} (h : T_hasOpenSum_2 E q d P S x1) : C_hasOpenSum E q d x1 S P := by
  refine Cn.of rfl (Nat.le_of_ble_eq_true rfl) (ls := [(0, .ref (q 0)), (1, .int (x1))]) rfl ?_
  refine r_iload_n 1 dX12_hasOpenSum_0 rfl rfl ?_
  refine r_istore_n [(2, .int (x1)), (0, .ref (q 0)), (1, .int (x1))] dX12_hasOpenSum_1 rfl (Nat.le_of_ble_eq_true rfl) rfl ?_
  refine r_ls [1, 0] (ls2 := [(0, .ref (q 0)), (2, .int (x1))]) rfl ?_
  exact h
set_option maxRecDepth 20000 in
theorem sg_hasOpenSum_2 {E : EvT} {q : Nat → Nat} {d : Nat} {S : StM} {P : Bool → StM → Prop} {y2 : Int32} (h : ((s_waiting S) ≤ y2 → (P false S)) ∧ (¬ (s_waiting S) ≤ y2 → ((0 ≤ y2 ∧ y2 < 180) ∧ ((¬ ((a_waits S (ix y2)) / 1048576) = 14 → (T_hasOpenSum_2 E q d P S (y2 + 1))) ∧ (((a_waits S (ix y2)) / 1048576) = 14 → (P true S)))))) : T_hasOpenSum_2 E q d P S y2 := by
  refine r_iload_n 1 dX12_hasOpenSum_2 rfl rfl ?_
  refine r_aload_n 0 dX12_hasOpenSum_3 rfl rfl ?_
  refine mg_35 rfl dX12_hasOpenSum_4 ?_
  refine r_icmp_ge (tgt := 33) dX12_hasOpenSum_7 (by decide) (fun c1 => ?_) (fun c1 => ?_)
  · have h := h.1 c1
    refine r_iconst_0 dX12_hasOpenSum_33 ?_
    exact r_zret0 dX12_hasOpenSum_34 rfl (Nat.le_refl _) (Nat.le_refl _) ⟨_, _, rfl, rfl, h⟩
  · have h := h.2 c1
    refine r_aload_n 0 dX12_hasOpenSum_10 rfl rfl ?_
    refine mg_38 rfl dX12_hasOpenSum_11 ?_
    refine r_iload_n 1 dX12_hasOpenSum_14 rfl rfl ?_
    obtain ⟨b2, h⟩ := h
    refine ml_38 b2 dX12_hasOpenSum_15 ?_
    refine r_ldcw w8_175 dX12_hasOpenSum_16 ?_
    refine r_idiv dX12_hasOpenSum_19 (by decide) ?_
    refine r_bipush_14 dX12_hasOpenSum_20 ?_
    refine r_icmp_ne (tgt := 27) dX12_hasOpenSum_22 (by decide) (fun c3 => ?_) (fun c3 => ?_)
    · have h := h.1 c3
      refine r_iinc 1 [(2, .int (y2 + 1)), (0, .ref (q 0))] dX12_hasOpenSum_27 rfl rfl (Nat.le_of_ble_eq_true rfl) rfl ?_
      refine r_goto (tgt := 2) dX12_hasOpenSum_30 (by decide) ?_
      refine r_ls [1, 0] (ls2 := [(0, .ref (q 0)), (2, .int (y2 + 1))]) rfl ?_
      exact h
    · have h := h.2 c3
      refine r_iconst_1 dX12_hasOpenSum_25 ?_
      exact r_zret1 dX12_hasOpenSum_26 rfl (Nat.le_refl _) (Nat.le_refl _) ⟨_, _, rfl, rfl, h⟩
abbrev T_readsSum_14 (E : EvT) (q : Nat → Nat) (D : Nat) (P : Bool → StM → Prop) (S : StM) (y1 : Int32) : Prop := RM E q iM_readsSum D (qB E q P) S [(0, .ref (q 0)), (1, .int (y1))] [] 14
set_option maxRecDepth 20000 in
theorem en_readsSum {E : EvT} {q : Nat → Nat} {d : Nat} {S : StM} {P : Bool → StM → Prop} (h : C_readsFactor E q (d + 3) S (fun r1 S2 => (r1 = true → (T_readsSum_14 E q (d + 4) P S2 (s_waiting S))) ∧ (r1 = false → (P false S2)))) : C_readsSum E q (d + 4) S P := by
  refine Cn.of rfl (Nat.le_of_ble_eq_true rfl) (ls := [(0, .ref (q 0))]) rfl ?_
  refine r_aload_n 0 dX12_readsSum_0 rfl rfl ?_
  refine mg_35 rfl dX12_readsSum_1 ?_
  refine r_istore_n [(1, .int (s_waiting S)), (0, .ref (q 0))] dX12_readsSum_4 rfl (Nat.le_of_ble_eq_true rfl) rfl ?_
  refine r_aload_n 1 dX12_readsSum_5 rfl rfl ?_
  refine K_readsFactor rfl (Nat.le_of_ble_eq_true rfl) dX12_readsSum_6 (mB h (fun r1 S2 h => ?_))
  refine r_if_neb (tgt := 14) dX12_readsSum_9 (by decide) (fun c3 => ?_) (fun c3 => ?_)
  · have h := h.1 c3
    refine r_ls [1, 0] (ls2 := [(0, .ref (q 0)), (1, .int (s_waiting S))]) rfl ?_
    exact h
  · have h := h.2 c3
    refine r_iconst_0 dX12_readsSum_12 ?_
    exact r_zret0 dX12_readsSum_13 rfl (Nat.le_refl _) (Nat.le_refl _) ⟨_, _, rfl, rfl, h⟩
set_option maxRecDepth 20000 in
theorem sg_readsSum_14 {E : EvT} {q : Nat → Nat} {d : Nat} {S : StM} {P : Bool → StM → Prop} {y1 : Int32} (h : (s_place0 S < s_length0 S → 0 ≤ s_place0 S ∧ s_place0 S < 400) ∧ (((mSumSign (mByte S)) = (-1) → ((¬ (mByte S) = 93 → (C_hasOpenSum E q (d + 3) y1 S (fun r4 S5 => (r4 = false → (C_closesSums E q (d + 3) 1 S5 (fun S8 => P true S8))) ∧ (r4 = true → (C_wrong E q (d + 3) 1 (s_place0 S5) S5 (fun r9 S10 => P r9 S10)))))) ∧ ((mByte S) = 93 → (C_hasOpenSum E q (d + 3) y1 S (fun r11 S12 => (r11 = false → (C_hasOpenSum E q (d + 3) y1 S12 (fun r14 S15 => (r14 = false → (C_closesSums E q (d + 3) 1 S15 (fun S18 => P true S18))) ∧ (r14 = true → (C_wrong E q (d + 3) 1 (s_place0 S15) S15 (fun r19 S20 => P r19 S20)))))) ∧ (r11 = true → (C_closesSums E q (d + 3) 1 S12 (fun S22 => T_readsSum_14 E q (d + 4) P (sI (sI (sI S22 35 ((s_waiting S22) - 1)) 33 ((s_open S22) - 1)) 29 ((s_place0 S22) + 1)) y1)))))))) ∧ (¬ (mSumSign (mByte S)) = (-1) → ((4 ≤ (mSumSign (mByte S)) → (C_closesSums E q (d + 3) 0 S (fun S25 => (0 ≤ (s_waiting S25) ∧ (s_waiting S25) < 180) ∧ (C_readsFactor E q (d + 3) (sI (sI (sA S25 38 (upd (a_waits S25) (ix (s_waiting S25)) (1048576 * (mSumSign (mByte S))))) 35 ((s_waiting S25) + 1)) 29 ((s_place0 S25) + 1)) (fun r27 S28 => (r27 = true → (T_readsSum_14 E q (d + 4) P S28 y1)) ∧ (r27 = false → (P false S28))))))) ∧ (¬ 4 ≤ (mSumSign (mByte S)) → (C_closesSums E q (d + 3) 1 S (fun S31 => (0 ≤ (s_waiting S31) ∧ (s_waiting S31) < 180) ∧ (C_readsFactor E q (d + 3) (sI (sI (sA S31 38 (upd (a_waits S31) (ix (s_waiting S31)) (1048576 * (mSumSign (mByte S))))) 35 ((s_waiting S31) + 1)) 29 ((s_place0 S31) + 1)) (fun r33 S34 => (r33 = true → (T_readsSum_14 E q (d + 4) P S34 y1)) ∧ (r33 = false → (P false S34))))))))))) : T_readsSum_14 E q (d + 4) P S y1 := by
  refine r_aload_n 0 dX12_readsSum_14 rfl rfl ?_
  obtain ⟨b1, h⟩ := h
  refine KP_byteHere (d := d + 3) b1 rfl (Nat.le_of_ble_eq_true rfl) dX12_readsSum_15 ?_
  refine KP_sumSign (d := d + 3)  rfl (Nat.le_of_ble_eq_true rfl) dX12_readsSum_18 ?_
  refine r_istore_n [(2, .int ((mSumSign (mByte S)))), (0, .ref (q 0)), (1, .int (y1))] dX12_readsSum_21 rfl (Nat.le_of_ble_eq_true rfl) rfl ?_
  refine r_iload_n 0 dX12_readsSum_22 rfl rfl ?_
  refine r_iconst_m1 dX12_readsSum_23 ?_
  refine r_icmp_eq (tgt := 84) dX12_readsSum_24 (by decide) (fun c2 => ?_) (fun c2 => ?_)
  · have h := h.1 c2
    refine r_aload_n 1 dX12_readsSum_84 rfl rfl ?_
    refine KP_byteHere (d := d + 3) b1 rfl (Nat.le_of_ble_eq_true rfl) dX12_readsSum_85 ?_
    refine r_bipush_93 dX12_readsSum_88 ?_
    refine r_icmp_ne (tgt := 139) dX12_readsSum_90 (by decide) (fun c3 => ?_) (fun c3 => ?_)
    · have h := h.1 c3
      refine r_aload_n 1 dX12_readsSum_139 rfl rfl ?_
      refine r_iload_n 2 dX12_readsSum_140 rfl rfl ?_
      refine K_hasOpenSum rfl (Nat.le_of_ble_eq_true rfl) dX12_readsSum_141 (mB h (fun r4 S5 h => ?_))
      refine r_if_eqb (tgt := 157) dX12_readsSum_144 (by decide) (fun c6 => ?_) (fun c6 => ?_)
      · have h := h.1 c6
        refine r_aload_n 1 dX12_readsSum_157 rfl rfl ?_
        refine r_iconst_1 dX12_readsSum_158 ?_
        refine K_closesSums rfl (Nat.le_of_ble_eq_true rfl) dX12_readsSum_159 (mV h (fun S8 h => ?_))
        refine r_iconst_1 dX12_readsSum_162 ?_
        exact r_zret1 dX12_readsSum_163 rfl (Nat.le_refl _) (Nat.le_refl _) ⟨_, _, rfl, rfl, h⟩
      · have h := h.2 c6
        refine r_aload_n 1 dX12_readsSum_147 rfl rfl ?_
        refine r_iconst_1 dX12_readsSum_148 ?_
        refine r_aload_n 1 dX12_readsSum_149 rfl rfl ?_
        refine mg_29 rfl dX12_readsSum_150 ?_
        refine K_wrong rfl (Nat.le_of_ble_eq_true rfl) dX12_readsSum_153 (mB h (fun r9 S10 h => ?_))
        exact r_zret dX12_readsSum_156 rfl (Nat.le_refl _) (Nat.le_refl _) ⟨_, _, rfl, rfl, h⟩
    · have h := h.2 c3
      refine r_aload_n 1 dX12_readsSum_93 rfl rfl ?_
      refine r_iload_n 2 dX12_readsSum_94 rfl rfl ?_
      refine K_hasOpenSum rfl (Nat.le_of_ble_eq_true rfl) dX12_readsSum_95 (mB h (fun r11 S12 h => ?_))
      refine r_if_eqb (tgt := 139) dX12_readsSum_98 (by decide) (fun c13 => ?_) (fun c13 => ?_)
      · have h := h.1 c13
        refine r_aload_n 1 dX12_readsSum_139 rfl rfl ?_
        refine r_iload_n 2 dX12_readsSum_140 rfl rfl ?_
        refine K_hasOpenSum rfl (Nat.le_of_ble_eq_true rfl) dX12_readsSum_141 (mB h (fun r14 S15 h => ?_))
        refine r_if_eqb (tgt := 157) dX12_readsSum_144 (by decide) (fun c16 => ?_) (fun c16 => ?_)
        · have h := h.1 c16
          refine r_aload_n 1 dX12_readsSum_157 rfl rfl ?_
          refine r_iconst_1 dX12_readsSum_158 ?_
          refine K_closesSums rfl (Nat.le_of_ble_eq_true rfl) dX12_readsSum_159 (mV h (fun S18 h => ?_))
          refine r_iconst_1 dX12_readsSum_162 ?_
          exact r_zret1 dX12_readsSum_163 rfl (Nat.le_refl _) (Nat.le_refl _) ⟨_, _, rfl, rfl, h⟩
        · have h := h.2 c16
          refine r_aload_n 1 dX12_readsSum_147 rfl rfl ?_
          refine r_iconst_1 dX12_readsSum_148 ?_
          refine r_aload_n 1 dX12_readsSum_149 rfl rfl ?_
          refine mg_29 rfl dX12_readsSum_150 ?_
          refine K_wrong rfl (Nat.le_of_ble_eq_true rfl) dX12_readsSum_153 (mB h (fun r19 S20 h => ?_))
          exact r_zret dX12_readsSum_156 rfl (Nat.le_refl _) (Nat.le_refl _) ⟨_, _, rfl, rfl, h⟩
      · have h := h.2 c13
        refine r_aload_n 1 dX12_readsSum_101 rfl rfl ?_
        refine r_iconst_1 dX12_readsSum_102 ?_
        refine K_closesSums rfl (Nat.le_of_ble_eq_true rfl) dX12_readsSum_103 (mV h (fun S22 h => ?_))
        refine r_aload_n 1 dX12_readsSum_106 rfl rfl ?_
        refine r_aload_n 1 dX12_readsSum_107 rfl rfl ?_
        refine mg_35 rfl dX12_readsSum_108 ?_
        refine r_iconst_1 dX12_readsSum_111 ?_
        refine r_isub dX12_readsSum_112 ?_
        refine mq_35 rfl dX12_readsSum_113 ?_
        refine r_aload_n 1 dX12_readsSum_116 rfl rfl ?_
        refine r_aload_n 1 dX12_readsSum_117 rfl rfl ?_
        refine mg_33 rfl dX12_readsSum_118 ?_
        refine r_iconst_1 dX12_readsSum_121 ?_
        refine r_isub dX12_readsSum_122 ?_
        refine mq_33 rfl dX12_readsSum_123 ?_
        refine r_aload_n 1 dX12_readsSum_126 rfl rfl ?_
        refine r_aload_n 1 dX12_readsSum_127 rfl rfl ?_
        refine mg_29 rfl dX12_readsSum_128 ?_
        refine r_iconst_1 dX12_readsSum_131 ?_
        refine r_iadd dX12_readsSum_132 ?_
        refine mq_29 rfl dX12_readsSum_133 ?_
        refine r_goto (tgt := 164) dX12_readsSum_136 (by decide) ?_
        refine r_goto (tgt := 14) dX12_readsSum_164 (by decide) ?_
        refine r_ls [1, 2] (ls2 := [(0, .ref (q 0)), (1, .int (y1))]) rfl ?_
        exact h
  · have h := h.2 c2
    refine r_aload_n 1 dX12_readsSum_27 rfl rfl ?_
    refine r_iload_n 0 dX12_readsSum_28 rfl rfl ?_
    refine r_iconst_4 dX12_readsSum_29 ?_
    refine r_icmp_ge (tgt := 37) dX12_readsSum_30 (by decide) (fun c23 => ?_) (fun c23 => ?_)
    · have h := h.1 c23
      refine r_iconst_0 dX12_readsSum_37 ?_
      refine K_closesSums rfl (Nat.le_of_ble_eq_true rfl) dX12_readsSum_38 (mV h (fun S25 h => ?_))
      refine r_aload_n 1 dX12_readsSum_41 rfl rfl ?_
      refine mg_38 rfl dX12_readsSum_42 ?_
      refine r_aload_n 1 dX12_readsSum_45 rfl rfl ?_
      refine mg_35 rfl dX12_readsSum_46 ?_
      refine r_ldcw w8_175 dX12_readsSum_49 ?_
      refine r_iload_n 0 dX12_readsSum_52 rfl rfl ?_
      refine r_imul dX12_readsSum_53 ?_
      obtain ⟨b26, h⟩ := h
      refine mt_38 b26 dX12_readsSum_54 ?_
      refine r_aload_n 1 dX12_readsSum_55 rfl rfl ?_
      refine r_aload_n 1 dX12_readsSum_56 rfl rfl ?_
      refine mg_35 rfl dX12_readsSum_57 ?_
      refine r_iconst_1 dX12_readsSum_60 ?_
      refine r_iadd dX12_readsSum_61 ?_
      refine mq_35 rfl dX12_readsSum_62 ?_
      refine r_aload_n 1 dX12_readsSum_65 rfl rfl ?_
      refine r_aload_n 1 dX12_readsSum_66 rfl rfl ?_
      refine mg_29 rfl dX12_readsSum_67 ?_
      refine r_iconst_1 dX12_readsSum_70 ?_
      refine r_iadd dX12_readsSum_71 ?_
      refine mq_29 rfl dX12_readsSum_72 ?_
      refine r_aload_n 1 dX12_readsSum_75 rfl rfl ?_
      refine K_readsFactor rfl (Nat.le_of_ble_eq_true rfl) dX12_readsSum_76 (mB h (fun r27 S28 h => ?_))
      refine r_if_neb (tgt := 164) dX12_readsSum_79 (by decide) (fun c29 => ?_) (fun c29 => ?_)
      · have h := h.1 c29
        refine r_goto (tgt := 14) dX12_readsSum_164 (by decide) ?_
        refine r_ls [1, 2] (ls2 := [(0, .ref (q 0)), (1, .int (y1))]) rfl ?_
        exact h
      · have h := h.2 c29
        refine r_iconst_0 dX12_readsSum_82 ?_
        exact r_zret0 dX12_readsSum_83 rfl (Nat.le_refl _) (Nat.le_refl _) ⟨_, _, rfl, rfl, h⟩
    · have h := h.2 c23
      refine r_iconst_1 dX12_readsSum_33 ?_
      refine r_goto (tgt := 38) dX12_readsSum_34 (by decide) ?_
      refine K_closesSums rfl (Nat.le_of_ble_eq_true rfl) dX12_readsSum_38 (mV h (fun S31 h => ?_))
      refine r_aload_n 1 dX12_readsSum_41 rfl rfl ?_
      refine mg_38 rfl dX12_readsSum_42 ?_
      refine r_aload_n 1 dX12_readsSum_45 rfl rfl ?_
      refine mg_35 rfl dX12_readsSum_46 ?_
      refine r_ldcw w8_175 dX12_readsSum_49 ?_
      refine r_iload_n 0 dX12_readsSum_52 rfl rfl ?_
      refine r_imul dX12_readsSum_53 ?_
      obtain ⟨b32, h⟩ := h
      refine mt_38 b32 dX12_readsSum_54 ?_
      refine r_aload_n 1 dX12_readsSum_55 rfl rfl ?_
      refine r_aload_n 1 dX12_readsSum_56 rfl rfl ?_
      refine mg_35 rfl dX12_readsSum_57 ?_
      refine r_iconst_1 dX12_readsSum_60 ?_
      refine r_iadd dX12_readsSum_61 ?_
      refine mq_35 rfl dX12_readsSum_62 ?_
      refine r_aload_n 1 dX12_readsSum_65 rfl rfl ?_
      refine r_aload_n 1 dX12_readsSum_66 rfl rfl ?_
      refine mg_29 rfl dX12_readsSum_67 ?_
      refine r_iconst_1 dX12_readsSum_70 ?_
      refine r_iadd dX12_readsSum_71 ?_
      refine mq_29 rfl dX12_readsSum_72 ?_
      refine r_aload_n 1 dX12_readsSum_75 rfl rfl ?_
      refine K_readsFactor rfl (Nat.le_of_ble_eq_true rfl) dX12_readsSum_76 (mB h (fun r33 S34 h => ?_))
      refine r_if_neb (tgt := 164) dX12_readsSum_79 (by decide) (fun c35 => ?_) (fun c35 => ?_)
      · have h := h.1 c35
        refine r_goto (tgt := 14) dX12_readsSum_164 (by decide) ?_
        refine r_ls [1, 2] (ls2 := [(0, .ref (q 0)), (1, .int (y1))]) rfl ?_
        exact h
      · have h := h.2 c35
        refine r_iconst_0 dX12_readsSum_82 ?_
        exact r_zret0 dX12_readsSum_83 rfl (Nat.le_refl _) (Nat.le_refl _) ⟨_, _, rfl, rfl, h⟩
abbrev T_endsPiece_0 (E : EvT) (q : Nat → Nat) (D : Nat) (P : StM → Prop) (S : StM)  : Prop := RM E q iM_endsPiece D (qV E q P) S [(0, .ref (q 0))] [] 0
set_option maxRecDepth 20000 in
theorem en_endsPiece {E : EvT} {q : Nat → Nat} {d : Nat} {S : StM} {P : StM → Prop} (h : (¬ s_waiting S = 0 → 0 ≤ s_waiting S - 1 ∧ s_waiting S - 1 < 180) ∧ ((¬ (mTop S) = 10 → (P S)) ∧ ((mTop S) = 10 → (C_says E q d 10 0 S (fun S4 => T_endsPiece_0 E q (d + 1) P (sI (sI S4 35 ((s_waiting S4) - 1)) 33 ((s_open S4) - 1))))))) : C_endsPiece E q (d + 1) S P := by
  refine Cn.of rfl (Nat.le_of_ble_eq_true rfl) (ls := [(0, .ref (q 0))]) rfl ?_
  refine r_aload_n 0 dX12_endsPiece_0 rfl rfl ?_
  obtain ⟨b1, h⟩ := h
  refine KP_top (d := d + 0) b1 rfl (Nat.le_of_ble_eq_true rfl) dX12_endsPiece_1 ?_
  refine r_bipush_10 dX12_endsPiece_4 ?_
  refine r_icmp_ne (tgt := 39) dX12_endsPiece_6 (by decide) (fun c2 => ?_) (fun c2 => ?_)
  · have h := h.1 c2
    exact r_vret dX12_endsPiece_39 rfl (Nat.le_refl _) (Nat.le_refl _) ⟨_, rfl, rfl, h⟩
  · have h := h.2 c2
    refine r_aload_n 0 dX12_endsPiece_9 rfl rfl ?_
    refine r_bipush_10 dX12_endsPiece_10 ?_
    refine r_iconst_0 dX12_endsPiece_12 ?_
    refine K_says rfl (Nat.le_of_ble_eq_true rfl) dX12_endsPiece_13 (mV h (fun S4 h => ?_))
    refine r_aload_n 0 dX12_endsPiece_16 rfl rfl ?_
    refine r_aload_n 0 dX12_endsPiece_17 rfl rfl ?_
    refine mg_35 rfl dX12_endsPiece_18 ?_
    refine r_iconst_1 dX12_endsPiece_21 ?_
    refine r_isub dX12_endsPiece_22 ?_
    refine mq_35 rfl dX12_endsPiece_23 ?_
    refine r_aload_n 0 dX12_endsPiece_26 rfl rfl ?_
    refine r_aload_n 0 dX12_endsPiece_27 rfl rfl ?_
    refine mg_33 rfl dX12_endsPiece_28 ?_
    refine r_iconst_1 dX12_endsPiece_31 ?_
    refine r_isub dX12_endsPiece_32 ?_
    refine mq_33 rfl dX12_endsPiece_33 ?_
    refine r_goto (tgt := 0) dX12_endsPiece_36 (by decide) ?_
    refine r_ls [0] (ls2 := [(0, .ref (q 0))]) rfl ?_
    exact h
set_option maxRecDepth 20000 in
theorem sg_endsPiece_0 {E : EvT} {q : Nat → Nat} {d : Nat} {S : StM} {P : StM → Prop}  (h : (¬ s_waiting S = 0 → 0 ≤ s_waiting S - 1 ∧ s_waiting S - 1 < 180) ∧ ((¬ (mTop S) = 10 → (P S)) ∧ ((mTop S) = 10 → (C_says E q d 10 0 S (fun S4 => T_endsPiece_0 E q (d + 1) P (sI (sI S4 35 ((s_waiting S4) - 1)) 33 ((s_open S4) - 1))))))) : T_endsPiece_0 E q (d + 1) P S  := by
  refine r_aload_n 0 dX12_endsPiece_0 rfl rfl ?_
  obtain ⟨b1, h⟩ := h
  refine KP_top (d := d + 0) b1 rfl (Nat.le_of_ble_eq_true rfl) dX12_endsPiece_1 ?_
  refine r_bipush_10 dX12_endsPiece_4 ?_
  refine r_icmp_ne (tgt := 39) dX12_endsPiece_6 (by decide) (fun c2 => ?_) (fun c2 => ?_)
  · have h := h.1 c2
    exact r_vret dX12_endsPiece_39 rfl (Nat.le_refl _) (Nat.le_refl _) ⟨_, rfl, rfl, h⟩
  · have h := h.2 c2
    refine r_aload_n 0 dX12_endsPiece_9 rfl rfl ?_
    refine r_bipush_10 dX12_endsPiece_10 ?_
    refine r_iconst_0 dX12_endsPiece_12 ?_
    refine K_says rfl (Nat.le_of_ble_eq_true rfl) dX12_endsPiece_13 (mV h (fun S4 h => ?_))
    refine r_aload_n 0 dX12_endsPiece_16 rfl rfl ?_
    refine r_aload_n 0 dX12_endsPiece_17 rfl rfl ?_
    refine mg_35 rfl dX12_endsPiece_18 ?_
    refine r_iconst_1 dX12_endsPiece_21 ?_
    refine r_isub dX12_endsPiece_22 ?_
    refine mq_35 rfl dX12_endsPiece_23 ?_
    refine r_aload_n 0 dX12_endsPiece_26 rfl rfl ?_
    refine r_aload_n 0 dX12_endsPiece_27 rfl rfl ?_
    refine mg_33 rfl dX12_endsPiece_28 ?_
    refine r_iconst_1 dX12_endsPiece_31 ?_
    refine r_isub dX12_endsPiece_32 ?_
    refine mq_33 rfl dX12_endsPiece_33 ?_
    refine r_goto (tgt := 0) dX12_endsPiece_36 (by decide) ?_
    refine r_ls [0] (ls2 := [(0, .ref (q 0))]) rfl ?_
    exact h
abbrev T_lands_0 (E : EvT) (q : Nat → Nat) (D : Nat) (P : StM → Prop) (S : StM) (y1 : Int32) : Prop := RM E q iM_lands D (qV E q P) S [(0, .ref (q 0)), (1, .int (y1))] [] 0
set_option maxRecDepth 20000 in
theorem en_lands {E : EvT} {q : Nat → Nat} {d : Nat} {x1 : Int32} {S : StM} {P : StM → Prop} (h : (¬ s_waiting S = 0 → 0 ≤ s_waiting S - 1 ∧ s_waiting S - 1 < 180) ∧ (((mTop S) = 11 → ((0 ≤ ((s_waiting S) - 1) ∧ ((s_waiting S) - 1) < 180) ∧ (∀ v4, v4 = (a_waits S (ix ((s_waiting S) - 1))) - (a_waits S (ix ((s_waiting S) - 1))) / 1048576 * 1048576 → ((0 ≤ v4 ∧ v4 < 180) ∧ (T_lands_0 E q (d + 1) P (sI (sA S 37 (upd (a_said S) (ix v4) ((1048576 * ((a_said S (ix v4)) / 1048576)) + (s_codeMany S)))) 35 ((s_waiting S) - 1)) x1))))) ∧ (¬ (mTop S) = 11 → ((x1 = 0 → (P S)) ∧ (¬ x1 = 0 → ((¬ (mTop S) = 12 → (P S)) ∧ ((mTop S) = 12 → ((0 ≤ ((s_waiting S) - 1) ∧ ((s_waiting S) - 1) < 180) ∧ (∀ v9, v9 = (a_waits S (ix ((s_waiting S) - 1))) - (a_waits S (ix ((s_waiting S) - 1))) / 1048576 * 1048576 → ((0 ≤ v9 ∧ v9 < 180) ∧ (T_lands_0 E q (d + 1) P (sI (sA S 37 (upd (a_said S) (ix v9) ((1048576 * ((a_said S (ix v9)) / 1048576)) + (s_codeMany S)))) 35 ((s_waiting S) - 1)) x1))))))))))) : C_lands E q (d + 1) x1 S P := by
  refine Cn.of rfl (Nat.le_of_ble_eq_true rfl) (ls := [(0, .ref (q 0)), (1, .int (x1))]) rfl ?_
  refine r_aload_n 0 dX12_lands_0 rfl rfl ?_
  obtain ⟨b1, h⟩ := h
  refine KP_top (d := d + 0) b1 rfl (Nat.le_of_ble_eq_true rfl) dX12_lands_1 ?_
  refine r_bipush_11 dX12_lands_4 ?_
  refine r_icmp_eq (tgt := 22) dX12_lands_6 (by decide) (fun c2 => ?_) (fun c2 => ?_)
  · have h := h.1 c2
    refine r_aload_n 0 dX12_lands_22 rfl rfl ?_
    refine mg_38 rfl dX12_lands_23 ?_
    refine r_aload_n 0 dX12_lands_26 rfl rfl ?_
    refine mg_35 rfl dX12_lands_27 ?_
    refine r_iconst_1 dX12_lands_30 ?_
    refine r_isub dX12_lands_31 ?_
    obtain ⟨b3, h⟩ := h
    refine ml_38 b3 dX12_lands_32 ?_
    refine r_ldcw w8_175 dX12_lands_33 ?_
    refine r_irem dX12_lands_36 (by decide) ?_
    refine r_nm (fun v4 ev4 => ?_)
    have h := h v4 ev4
    refine r_istore_n [(2, .int (v4)), (0, .ref (q 0)), (1, .int (x1))] dX12_lands_37 rfl (Nat.le_of_ble_eq_true rfl) rfl ?_
    refine r_aload_n 1 dX12_lands_38 rfl rfl ?_
    refine mg_37 rfl dX12_lands_39 ?_
    refine r_iload_n 0 dX12_lands_42 rfl rfl ?_
    refine r_ldcw w8_175 dX12_lands_43 ?_
    refine r_aload_n 1 dX12_lands_46 rfl rfl ?_
    refine mg_37 rfl dX12_lands_47 ?_
    refine r_iload_n 0 dX12_lands_50 rfl rfl ?_
    obtain ⟨b5, h⟩ := h
    refine ml_37 b5 dX12_lands_51 ?_
    refine r_ldcw w8_175 dX12_lands_52 ?_
    refine r_idiv dX12_lands_55 (by decide) ?_
    refine r_imul dX12_lands_56 ?_
    refine r_aload_n 1 dX12_lands_57 rfl rfl ?_
    refine mg_34 rfl dX12_lands_58 ?_
    refine r_iadd dX12_lands_61 ?_
    refine mt_37 b5 dX12_lands_62 ?_
    refine r_aload_n 1 dX12_lands_63 rfl rfl ?_
    refine r_aload_n 1 dX12_lands_64 rfl rfl ?_
    refine mg_35 rfl dX12_lands_65 ?_
    refine r_iconst_1 dX12_lands_68 ?_
    refine r_isub dX12_lands_69 ?_
    refine mq_35 rfl dX12_lands_70 ?_
    refine r_goto (tgt := 0) dX12_lands_73 (by decide) ?_
    refine r_ls [1, 2] (ls2 := [(0, .ref (q 0)), (1, .int (x1))]) rfl ?_
    exact h
  · have h := h.2 c2
    refine r_iload_n 1 dX12_lands_9 rfl rfl ?_
    refine r_if_eq (tgt := 76) dX12_lands_10 (by decide) (fun c6 => ?_) (fun c6 => ?_)
    · have h := h.1 c6
      exact r_vret dX12_lands_76 rfl (Nat.le_refl _) (Nat.le_refl _) ⟨_, rfl, rfl, h⟩
    · have h := h.2 c6
      refine r_aload_n 0 dX12_lands_13 rfl rfl ?_
      refine KP_top (d := d + 0) b1 rfl (Nat.le_of_ble_eq_true rfl) dX12_lands_14 ?_
      refine r_bipush_12 dX12_lands_17 ?_
      refine r_icmp_ne (tgt := 76) dX12_lands_19 (by decide) (fun c7 => ?_) (fun c7 => ?_)
      · have h := h.1 c7
        exact r_vret dX12_lands_76 rfl (Nat.le_refl _) (Nat.le_refl _) ⟨_, rfl, rfl, h⟩
      · have h := h.2 c7
        refine r_aload_n 0 dX12_lands_22 rfl rfl ?_
        refine mg_38 rfl dX12_lands_23 ?_
        refine r_aload_n 0 dX12_lands_26 rfl rfl ?_
        refine mg_35 rfl dX12_lands_27 ?_
        refine r_iconst_1 dX12_lands_30 ?_
        refine r_isub dX12_lands_31 ?_
        obtain ⟨b8, h⟩ := h
        refine ml_38 b8 dX12_lands_32 ?_
        refine r_ldcw w8_175 dX12_lands_33 ?_
        refine r_irem dX12_lands_36 (by decide) ?_
        refine r_nm (fun v9 ev9 => ?_)
        have h := h v9 ev9
        refine r_istore_n [(2, .int (v9)), (0, .ref (q 0)), (1, .int (x1))] dX12_lands_37 rfl (Nat.le_of_ble_eq_true rfl) rfl ?_
        refine r_aload_n 1 dX12_lands_38 rfl rfl ?_
        refine mg_37 rfl dX12_lands_39 ?_
        refine r_iload_n 0 dX12_lands_42 rfl rfl ?_
        refine r_ldcw w8_175 dX12_lands_43 ?_
        refine r_aload_n 1 dX12_lands_46 rfl rfl ?_
        refine mg_37 rfl dX12_lands_47 ?_
        refine r_iload_n 0 dX12_lands_50 rfl rfl ?_
        obtain ⟨b10, h⟩ := h
        refine ml_37 b10 dX12_lands_51 ?_
        refine r_ldcw w8_175 dX12_lands_52 ?_
        refine r_idiv dX12_lands_55 (by decide) ?_
        refine r_imul dX12_lands_56 ?_
        refine r_aload_n 1 dX12_lands_57 rfl rfl ?_
        refine mg_34 rfl dX12_lands_58 ?_
        refine r_iadd dX12_lands_61 ?_
        refine mt_37 b10 dX12_lands_62 ?_
        refine r_aload_n 1 dX12_lands_63 rfl rfl ?_
        refine r_aload_n 1 dX12_lands_64 rfl rfl ?_
        refine mg_35 rfl dX12_lands_65 ?_
        refine r_iconst_1 dX12_lands_68 ?_
        refine r_isub dX12_lands_69 ?_
        refine mq_35 rfl dX12_lands_70 ?_
        refine r_goto (tgt := 0) dX12_lands_73 (by decide) ?_
        refine r_ls [1, 2] (ls2 := [(0, .ref (q 0)), (1, .int (x1))]) rfl ?_
        exact h
set_option maxRecDepth 20000 in
theorem sg_lands_0 {E : EvT} {q : Nat → Nat} {d : Nat} {S : StM} {P : StM → Prop} {y1 : Int32} (h : (¬ s_waiting S = 0 → 0 ≤ s_waiting S - 1 ∧ s_waiting S - 1 < 180) ∧ (((mTop S) = 11 → ((0 ≤ ((s_waiting S) - 1) ∧ ((s_waiting S) - 1) < 180) ∧ (∀ v4, v4 = (a_waits S (ix ((s_waiting S) - 1))) - (a_waits S (ix ((s_waiting S) - 1))) / 1048576 * 1048576 → ((0 ≤ v4 ∧ v4 < 180) ∧ (T_lands_0 E q (d + 1) P (sI (sA S 37 (upd (a_said S) (ix v4) ((1048576 * ((a_said S (ix v4)) / 1048576)) + (s_codeMany S)))) 35 ((s_waiting S) - 1)) y1))))) ∧ (¬ (mTop S) = 11 → ((y1 = 0 → (P S)) ∧ (¬ y1 = 0 → ((¬ (mTop S) = 12 → (P S)) ∧ ((mTop S) = 12 → ((0 ≤ ((s_waiting S) - 1) ∧ ((s_waiting S) - 1) < 180) ∧ (∀ v9, v9 = (a_waits S (ix ((s_waiting S) - 1))) - (a_waits S (ix ((s_waiting S) - 1))) / 1048576 * 1048576 → ((0 ≤ v9 ∧ v9 < 180) ∧ (T_lands_0 E q (d + 1) P (sI (sA S 37 (upd (a_said S) (ix v9) ((1048576 * ((a_said S (ix v9)) / 1048576)) + (s_codeMany S)))) 35 ((s_waiting S) - 1)) y1))))))))))) : T_lands_0 E q (d + 1) P S y1 := by
  refine r_aload_n 0 dX12_lands_0 rfl rfl ?_
  obtain ⟨b1, h⟩ := h
  refine KP_top (d := d + 0) b1 rfl (Nat.le_of_ble_eq_true rfl) dX12_lands_1 ?_
  refine r_bipush_11 dX12_lands_4 ?_
  refine r_icmp_eq (tgt := 22) dX12_lands_6 (by decide) (fun c2 => ?_) (fun c2 => ?_)
  · have h := h.1 c2
    refine r_aload_n 0 dX12_lands_22 rfl rfl ?_
    refine mg_38 rfl dX12_lands_23 ?_
    refine r_aload_n 0 dX12_lands_26 rfl rfl ?_
    refine mg_35 rfl dX12_lands_27 ?_
    refine r_iconst_1 dX12_lands_30 ?_
    refine r_isub dX12_lands_31 ?_
    obtain ⟨b3, h⟩ := h
    refine ml_38 b3 dX12_lands_32 ?_
    refine r_ldcw w8_175 dX12_lands_33 ?_
    refine r_irem dX12_lands_36 (by decide) ?_
    refine r_nm (fun v4 ev4 => ?_)
    have h := h v4 ev4
    refine r_istore_n [(2, .int (v4)), (0, .ref (q 0)), (1, .int (y1))] dX12_lands_37 rfl (Nat.le_of_ble_eq_true rfl) rfl ?_
    refine r_aload_n 1 dX12_lands_38 rfl rfl ?_
    refine mg_37 rfl dX12_lands_39 ?_
    refine r_iload_n 0 dX12_lands_42 rfl rfl ?_
    refine r_ldcw w8_175 dX12_lands_43 ?_
    refine r_aload_n 1 dX12_lands_46 rfl rfl ?_
    refine mg_37 rfl dX12_lands_47 ?_
    refine r_iload_n 0 dX12_lands_50 rfl rfl ?_
    obtain ⟨b5, h⟩ := h
    refine ml_37 b5 dX12_lands_51 ?_
    refine r_ldcw w8_175 dX12_lands_52 ?_
    refine r_idiv dX12_lands_55 (by decide) ?_
    refine r_imul dX12_lands_56 ?_
    refine r_aload_n 1 dX12_lands_57 rfl rfl ?_
    refine mg_34 rfl dX12_lands_58 ?_
    refine r_iadd dX12_lands_61 ?_
    refine mt_37 b5 dX12_lands_62 ?_
    refine r_aload_n 1 dX12_lands_63 rfl rfl ?_
    refine r_aload_n 1 dX12_lands_64 rfl rfl ?_
    refine mg_35 rfl dX12_lands_65 ?_
    refine r_iconst_1 dX12_lands_68 ?_
    refine r_isub dX12_lands_69 ?_
    refine mq_35 rfl dX12_lands_70 ?_
    refine r_goto (tgt := 0) dX12_lands_73 (by decide) ?_
    refine r_ls [1, 2] (ls2 := [(0, .ref (q 0)), (1, .int (y1))]) rfl ?_
    exact h
  · have h := h.2 c2
    refine r_iload_n 1 dX12_lands_9 rfl rfl ?_
    refine r_if_eq (tgt := 76) dX12_lands_10 (by decide) (fun c6 => ?_) (fun c6 => ?_)
    · have h := h.1 c6
      exact r_vret dX12_lands_76 rfl (Nat.le_refl _) (Nat.le_refl _) ⟨_, rfl, rfl, h⟩
    · have h := h.2 c6
      refine r_aload_n 0 dX12_lands_13 rfl rfl ?_
      refine KP_top (d := d + 0) b1 rfl (Nat.le_of_ble_eq_true rfl) dX12_lands_14 ?_
      refine r_bipush_12 dX12_lands_17 ?_
      refine r_icmp_ne (tgt := 76) dX12_lands_19 (by decide) (fun c7 => ?_) (fun c7 => ?_)
      · have h := h.1 c7
        exact r_vret dX12_lands_76 rfl (Nat.le_refl _) (Nat.le_refl _) ⟨_, rfl, rfl, h⟩
      · have h := h.2 c7
        refine r_aload_n 0 dX12_lands_22 rfl rfl ?_
        refine mg_38 rfl dX12_lands_23 ?_
        refine r_aload_n 0 dX12_lands_26 rfl rfl ?_
        refine mg_35 rfl dX12_lands_27 ?_
        refine r_iconst_1 dX12_lands_30 ?_
        refine r_isub dX12_lands_31 ?_
        obtain ⟨b8, h⟩ := h
        refine ml_38 b8 dX12_lands_32 ?_
        refine r_ldcw w8_175 dX12_lands_33 ?_
        refine r_irem dX12_lands_36 (by decide) ?_
        refine r_nm (fun v9 ev9 => ?_)
        have h := h v9 ev9
        refine r_istore_n [(2, .int (v9)), (0, .ref (q 0)), (1, .int (y1))] dX12_lands_37 rfl (Nat.le_of_ble_eq_true rfl) rfl ?_
        refine r_aload_n 1 dX12_lands_38 rfl rfl ?_
        refine mg_37 rfl dX12_lands_39 ?_
        refine r_iload_n 0 dX12_lands_42 rfl rfl ?_
        refine r_ldcw w8_175 dX12_lands_43 ?_
        refine r_aload_n 1 dX12_lands_46 rfl rfl ?_
        refine mg_37 rfl dX12_lands_47 ?_
        refine r_iload_n 0 dX12_lands_50 rfl rfl ?_
        obtain ⟨b10, h⟩ := h
        refine ml_37 b10 dX12_lands_51 ?_
        refine r_ldcw w8_175 dX12_lands_52 ?_
        refine r_idiv dX12_lands_55 (by decide) ?_
        refine r_imul dX12_lands_56 ?_
        refine r_aload_n 1 dX12_lands_57 rfl rfl ?_
        refine mg_34 rfl dX12_lands_58 ?_
        refine r_iadd dX12_lands_61 ?_
        refine mt_37 b10 dX12_lands_62 ?_
        refine r_aload_n 1 dX12_lands_63 rfl rfl ?_
        refine r_aload_n 1 dX12_lands_64 rfl rfl ?_
        refine mg_35 rfl dX12_lands_65 ?_
        refine r_iconst_1 dX12_lands_68 ?_
        refine r_isub dX12_lands_69 ?_
        refine mq_35 rfl dX12_lands_70 ?_
        refine r_goto (tgt := 0) dX12_lands_73 (by decide) ?_
        refine r_ls [1, 2] (ls2 := [(0, .ref (q 0)), (1, .int (y1))]) rfl ?_
        exact h
set_option maxRecDepth 20000 in
theorem en_jumps {E : EvT} {q : Nat → Nat} {d : Nat} {x1 : Int32} {S : StM} {P : StM → Prop} (h : (0 ≤ (s_waiting S) ∧ (s_waiting S) < 180) ∧ (C_says E q d x1 0 (sI (sA S 38 (upd (a_waits S) (ix (s_waiting S)) ((1048576 * x1) + (s_codeMany S)))) 35 ((s_waiting S) + 1)) (fun S3 => P (sI S3 29 ((s_place0 S3) + 1))))) : C_jumps E q (d + 1) x1 S P := by
  refine Cn.of rfl (Nat.le_of_ble_eq_true rfl) (ls := [(0, .ref (q 0)), (1, .int (x1))]) rfl ?_
  refine r_aload_n 0 dX12_jumps_0 rfl rfl ?_
  refine mg_38 rfl dX12_jumps_1 ?_
  refine r_aload_n 0 dX12_jumps_4 rfl rfl ?_
  refine mg_35 rfl dX12_jumps_5 ?_
  refine r_ldcw w8_175 dX12_jumps_8 ?_
  refine r_iload_n 1 dX12_jumps_11 rfl rfl ?_
  refine r_imul dX12_jumps_12 ?_
  refine r_aload_n 0 dX12_jumps_13 rfl rfl ?_
  refine mg_34 rfl dX12_jumps_14 ?_
  refine r_iadd dX12_jumps_17 ?_
  obtain ⟨b1, h⟩ := h
  refine mt_38 b1 dX12_jumps_18 ?_
  refine r_aload_n 0 dX12_jumps_19 rfl rfl ?_
  refine r_aload_n 0 dX12_jumps_20 rfl rfl ?_
  refine mg_35 rfl dX12_jumps_21 ?_
  refine r_iconst_1 dX12_jumps_24 ?_
  refine r_iadd dX12_jumps_25 ?_
  refine mq_35 rfl dX12_jumps_26 ?_
  refine r_aload_n 0 dX12_jumps_29 rfl rfl ?_
  refine r_iload_n 1 dX12_jumps_30 rfl rfl ?_
  refine r_iconst_0 dX12_jumps_31 ?_
  refine K_says rfl (Nat.le_of_ble_eq_true rfl) dX12_jumps_32 (mV h (fun S3 h => ?_))
  refine r_aload_n 0 dX12_jumps_35 rfl rfl ?_
  refine r_aload_n 0 dX12_jumps_36 rfl rfl ?_
  refine mg_29 rfl dX12_jumps_37 ?_
  refine r_iconst_1 dX12_jumps_40 ?_
  refine r_iadd dX12_jumps_41 ?_
  refine mq_29 rfl dX12_jumps_42 ?_
  exact r_vret dX12_jumps_45 rfl (Nat.le_refl _) (Nat.le_refl _) ⟨_, rfl, rfl, h⟩
set_option maxRecDepth 20000 in
theorem en_readsCompared {E : EvT} {q : Nat → Nat} {d : Nat} {S : StM} {P : Bool → StM → Prop} (h : C_readsSum E q (d + 4) S (fun r1 S2 => (r1 = true → ((s_place0 S2 < s_length0 S2 → 0 ≤ s_place0 S2 ∧ s_place0 S2 < 400) ∧ ((¬ (mByte S2) = 60 → ((¬ (mByte S2) = 62 → ((¬ (mByte S2) = 61 → (C_wrong E q (d + 4) 1 (s_place0 S2) S2 (fun r9 S10 => P r9 S10))) ∧ ((mByte S2) = 61 → (C_readsSum E q (d + 4) (sI S2 29 ((s_place0 S2) + 1)) (fun r12 S13 => (r12 = true → (C_says E q (d + 4) 9 0 S13 (fun S16 => C_endsPiece E q (d + 4) S16 (fun S18 => P true S18)))) ∧ (r12 = false → (P false S13))))))) ∧ ((mByte S2) = 62 → (C_readsSum E q (d + 4) (sI S2 29 ((s_place0 S2) + 1)) (fun r20 S21 => (r20 = true → (C_says E q (d + 4) 8 0 S21 (fun S24 => C_endsPiece E q (d + 4) S24 (fun S26 => P true S26)))) ∧ (r20 = false → (P false S21))))))) ∧ ((mByte S2) = 60 → (C_readsSum E q (d + 4) (sI S2 29 ((s_place0 S2) + 1)) (fun r28 S29 => (r28 = true → (C_says E q (d + 4) 7 0 S29 (fun S32 => C_endsPiece E q (d + 4) S32 (fun S34 => P true S34)))) ∧ (r28 = false → (P false S29)))))))) ∧ (r1 = false → (P false S2)))) : C_readsCompared E q (d + 5) S P := by
  refine Cn.of rfl (Nat.le_of_ble_eq_true rfl) (ls := [(0, .ref (q 0))]) rfl ?_
  refine r_aload_n 0 dX12_readsCompared_0 rfl rfl ?_
  refine K_readsSum rfl (Nat.le_of_ble_eq_true rfl) dX12_readsCompared_1 (mB h (fun r1 S2 h => ?_))
  refine r_if_neb (tgt := 9) dX12_readsCompared_4 (by decide) (fun c3 => ?_) (fun c3 => ?_)
  · have h := h.1 c3
    refine r_aload_n 0 dX12_readsCompared_9 rfl rfl ?_
    obtain ⟨b4, h⟩ := h
    refine KP_byteHere (d := d + 4) b4 rfl (Nat.le_of_ble_eq_true rfl) dX12_readsCompared_10 ?_
    refine r_bipush_60 dX12_readsCompared_13 ?_
    refine r_icmp_ne (tgt := 23) dX12_readsCompared_15 (by decide) (fun c5 => ?_) (fun c5 => ?_)
    · have h := h.1 c5
      refine r_aload_n 0 dX12_readsCompared_23 rfl rfl ?_
      refine KP_byteHere (d := d + 4) b4 rfl (Nat.le_of_ble_eq_true rfl) dX12_readsCompared_24 ?_
      refine r_bipush_62 dX12_readsCompared_27 ?_
      refine r_icmp_ne (tgt := 37) dX12_readsCompared_29 (by decide) (fun c6 => ?_) (fun c6 => ?_)
      · have h := h.1 c6
        refine r_aload_n 0 dX12_readsCompared_37 rfl rfl ?_
        refine KP_byteHere (d := d + 4) b4 rfl (Nat.le_of_ble_eq_true rfl) dX12_readsCompared_38 ?_
        refine r_bipush_61 dX12_readsCompared_41 ?_
        refine r_icmp_ne (tgt := 51) dX12_readsCompared_43 (by decide) (fun c7 => ?_) (fun c7 => ?_)
        · have h := h.1 c7
          refine r_iconst_m1 dX12_readsCompared_51 ?_
          refine r_istore_n [(1, .int ((-1))), (0, .ref (q 0))] dX12_readsCompared_52 rfl (Nat.le_of_ble_eq_true rfl) rfl ?_
          refine r_iload_n 0 dX12_readsCompared_53 rfl rfl ?_
          refine r_iconst_m1 dX12_readsCompared_54 ?_
          refine r_icmp_ne (tgt := 68) dX12_readsCompared_55 (by decide) (fun z => absurd z (by decide)) (fun _ => ?_)
          refine r_aload_n 1 dX12_readsCompared_58 rfl rfl ?_
          refine r_iconst_1 dX12_readsCompared_59 ?_
          refine r_aload_n 1 dX12_readsCompared_60 rfl rfl ?_
          refine mg_29 rfl dX12_readsCompared_61 ?_
          refine K_wrong rfl (Nat.le_of_ble_eq_true rfl) dX12_readsCompared_64 (mB h (fun r9 S10 h => ?_))
          exact r_zret dX12_readsCompared_67 rfl (Nat.le_refl _) (Nat.le_refl _) ⟨_, _, rfl, rfl, h⟩
        · have h := h.2 c7
          refine r_bipush_9 dX12_readsCompared_46 ?_
          refine r_goto (tgt := 52) dX12_readsCompared_48 (by decide) ?_
          refine r_istore_n [(1, .int (9)), (0, .ref (q 0))] dX12_readsCompared_52 rfl (Nat.le_of_ble_eq_true rfl) rfl ?_
          refine r_iload_n 0 dX12_readsCompared_53 rfl rfl ?_
          refine r_iconst_m1 dX12_readsCompared_54 ?_
          refine r_icmp_ne (tgt := 68) dX12_readsCompared_55 (by decide) (fun _ => ?_) (fun z => absurd z (by decide))
          refine r_aload_n 1 dX12_readsCompared_68 rfl rfl ?_
          refine r_aload_n 1 dX12_readsCompared_69 rfl rfl ?_
          refine mg_29 rfl dX12_readsCompared_70 ?_
          refine r_iconst_1 dX12_readsCompared_73 ?_
          refine r_iadd dX12_readsCompared_74 ?_
          refine mq_29 rfl dX12_readsCompared_75 ?_
          refine r_aload_n 1 dX12_readsCompared_78 rfl rfl ?_
          refine K_readsSum rfl (Nat.le_of_ble_eq_true rfl) dX12_readsCompared_79 (mB h (fun r12 S13 h => ?_))
          refine r_if_neb (tgt := 87) dX12_readsCompared_82 (by decide) (fun c14 => ?_) (fun c14 => ?_)
          · have h := h.1 c14
            refine r_aload_n 1 dX12_readsCompared_87 rfl rfl ?_
            refine r_iload_n 0 dX12_readsCompared_88 rfl rfl ?_
            refine r_iconst_0 dX12_readsCompared_89 ?_
            refine K_says rfl (Nat.le_of_ble_eq_true rfl) dX12_readsCompared_90 (mV h (fun S16 h => ?_))
            refine r_aload_n 1 dX12_readsCompared_93 rfl rfl ?_
            refine K_endsPiece rfl (Nat.le_of_ble_eq_true rfl) dX12_readsCompared_94 (mV h (fun S18 h => ?_))
            refine r_iconst_1 dX12_readsCompared_97 ?_
            exact r_zret1 dX12_readsCompared_98 rfl (Nat.le_refl _) (Nat.le_refl _) ⟨_, _, rfl, rfl, h⟩
          · have h := h.2 c14
            refine r_iconst_0 dX12_readsCompared_85 ?_
            exact r_zret0 dX12_readsCompared_86 rfl (Nat.le_refl _) (Nat.le_refl _) ⟨_, _, rfl, rfl, h⟩
      · have h := h.2 c6
        refine r_bipush_8 dX12_readsCompared_32 ?_
        refine r_goto (tgt := 52) dX12_readsCompared_34 (by decide) ?_
        refine r_istore_n [(1, .int (8)), (0, .ref (q 0))] dX12_readsCompared_52 rfl (Nat.le_of_ble_eq_true rfl) rfl ?_
        refine r_iload_n 0 dX12_readsCompared_53 rfl rfl ?_
        refine r_iconst_m1 dX12_readsCompared_54 ?_
        refine r_icmp_ne (tgt := 68) dX12_readsCompared_55 (by decide) (fun _ => ?_) (fun z => absurd z (by decide))
        refine r_aload_n 1 dX12_readsCompared_68 rfl rfl ?_
        refine r_aload_n 1 dX12_readsCompared_69 rfl rfl ?_
        refine mg_29 rfl dX12_readsCompared_70 ?_
        refine r_iconst_1 dX12_readsCompared_73 ?_
        refine r_iadd dX12_readsCompared_74 ?_
        refine mq_29 rfl dX12_readsCompared_75 ?_
        refine r_aload_n 1 dX12_readsCompared_78 rfl rfl ?_
        refine K_readsSum rfl (Nat.le_of_ble_eq_true rfl) dX12_readsCompared_79 (mB h (fun r20 S21 h => ?_))
        refine r_if_neb (tgt := 87) dX12_readsCompared_82 (by decide) (fun c22 => ?_) (fun c22 => ?_)
        · have h := h.1 c22
          refine r_aload_n 1 dX12_readsCompared_87 rfl rfl ?_
          refine r_iload_n 0 dX12_readsCompared_88 rfl rfl ?_
          refine r_iconst_0 dX12_readsCompared_89 ?_
          refine K_says rfl (Nat.le_of_ble_eq_true rfl) dX12_readsCompared_90 (mV h (fun S24 h => ?_))
          refine r_aload_n 1 dX12_readsCompared_93 rfl rfl ?_
          refine K_endsPiece rfl (Nat.le_of_ble_eq_true rfl) dX12_readsCompared_94 (mV h (fun S26 h => ?_))
          refine r_iconst_1 dX12_readsCompared_97 ?_
          exact r_zret1 dX12_readsCompared_98 rfl (Nat.le_refl _) (Nat.le_refl _) ⟨_, _, rfl, rfl, h⟩
        · have h := h.2 c22
          refine r_iconst_0 dX12_readsCompared_85 ?_
          exact r_zret0 dX12_readsCompared_86 rfl (Nat.le_refl _) (Nat.le_refl _) ⟨_, _, rfl, rfl, h⟩
    · have h := h.2 c5
      refine r_bipush_7 dX12_readsCompared_18 ?_
      refine r_goto (tgt := 52) dX12_readsCompared_20 (by decide) ?_
      refine r_istore_n [(1, .int (7)), (0, .ref (q 0))] dX12_readsCompared_52 rfl (Nat.le_of_ble_eq_true rfl) rfl ?_
      refine r_iload_n 0 dX12_readsCompared_53 rfl rfl ?_
      refine r_iconst_m1 dX12_readsCompared_54 ?_
      refine r_icmp_ne (tgt := 68) dX12_readsCompared_55 (by decide) (fun _ => ?_) (fun z => absurd z (by decide))
      refine r_aload_n 1 dX12_readsCompared_68 rfl rfl ?_
      refine r_aload_n 1 dX12_readsCompared_69 rfl rfl ?_
      refine mg_29 rfl dX12_readsCompared_70 ?_
      refine r_iconst_1 dX12_readsCompared_73 ?_
      refine r_iadd dX12_readsCompared_74 ?_
      refine mq_29 rfl dX12_readsCompared_75 ?_
      refine r_aload_n 1 dX12_readsCompared_78 rfl rfl ?_
      refine K_readsSum rfl (Nat.le_of_ble_eq_true rfl) dX12_readsCompared_79 (mB h (fun r28 S29 h => ?_))
      refine r_if_neb (tgt := 87) dX12_readsCompared_82 (by decide) (fun c30 => ?_) (fun c30 => ?_)
      · have h := h.1 c30
        refine r_aload_n 1 dX12_readsCompared_87 rfl rfl ?_
        refine r_iload_n 0 dX12_readsCompared_88 rfl rfl ?_
        refine r_iconst_0 dX12_readsCompared_89 ?_
        refine K_says rfl (Nat.le_of_ble_eq_true rfl) dX12_readsCompared_90 (mV h (fun S32 h => ?_))
        refine r_aload_n 1 dX12_readsCompared_93 rfl rfl ?_
        refine K_endsPiece rfl (Nat.le_of_ble_eq_true rfl) dX12_readsCompared_94 (mV h (fun S34 h => ?_))
        refine r_iconst_1 dX12_readsCompared_97 ?_
        exact r_zret1 dX12_readsCompared_98 rfl (Nat.le_refl _) (Nat.le_refl _) ⟨_, _, rfl, rfl, h⟩
      · have h := h.2 c30
        refine r_iconst_0 dX12_readsCompared_85 ?_
        exact r_zret0 dX12_readsCompared_86 rfl (Nat.le_refl _) (Nat.le_refl _) ⟨_, _, rfl, rfl, h⟩
  · have h := h.2 c3
    refine r_iconst_0 dX12_readsCompared_7 ?_
    exact r_zret0 dX12_readsCompared_8 rfl (Nat.le_refl _) (Nat.le_refl _) ⟨_, _, rfl, rfl, h⟩
abbrev T_readsCondition_21 (E : EvT) (q : Nat → Nat) (D : Nat) (P : Bool → StM → Prop) (S : StM)  : Prop := RM E q iM_readsCondition D (qB E q P) S [(0, .ref (q 0))] [] 21
abbrev T_readsCondition_73 (E : EvT) (q : Nat → Nat) (D : Nat) (P : Bool → StM → Prop) (S : StM)  : Prop := RM E q iM_readsCondition D (qB E q P) S [(0, .ref (q 0))] [] 73
set_option maxRecDepth 20000 in
theorem en_readsCondition {E : EvT} {q : Nat → Nat} {d : Nat} {S : StM} {P : Bool → StM → Prop} (h : C_opens E q (d + 5) 13 (sI (sI S 33 0) 35 0) (fun r1 S2 => (r1 = true → (T_readsCondition_21 E q (d + 6) P S2)) ∧ (r1 = false → (P false S2)))) : C_readsCondition E q (d + 6) S P := by
  refine Cn.of rfl (Nat.le_of_ble_eq_true rfl) (ls := [(0, .ref (q 0))]) rfl ?_
  refine r_aload_n 0 dX12_readsCondition_0 rfl rfl ?_
  refine r_iconst_0 dX12_readsCondition_1 ?_
  refine mq_33 rfl dX12_readsCondition_2 ?_
  refine r_aload_n 0 dX12_readsCondition_5 rfl rfl ?_
  refine r_iconst_0 dX12_readsCondition_6 ?_
  refine mq_35 rfl dX12_readsCondition_7 ?_
  refine r_aload_n 0 dX12_readsCondition_10 rfl rfl ?_
  refine r_bipush_13 dX12_readsCondition_11 ?_
  refine K_opens rfl (Nat.le_of_ble_eq_true rfl) dX12_readsCondition_13 (mB h (fun r1 S2 h => ?_))
  refine r_if_neb (tgt := 21) dX12_readsCondition_16 (by decide) (fun c3 => ?_) (fun c3 => ?_)
  · have h := h.1 c3
    refine r_ls [0] (ls2 := [(0, .ref (q 0))]) rfl ?_
    exact h
  · have h := h.2 c3
    refine r_iconst_0 dX12_readsCondition_19 ?_
    exact r_zret0 dX12_readsCondition_20 rfl (Nat.le_refl _) (Nat.le_refl _) ⟨_, _, rfl, rfl, h⟩
set_option maxRecDepth 20000 in
theorem sg_readsCondition_21 {E : EvT} {q : Nat → Nat} {d : Nat} {S : StM} {P : Bool → StM → Prop}  (h : (s_place0 S < s_length0 S → 0 ≤ s_place0 S ∧ s_place0 S < 400) ∧ (((mByte S) = 33 → ((¬ (mByte S) = 33 → (C_opens E q (d + 5) 13 S (fun r4 S5 => (r4 = true → (T_readsCondition_21 E q (d + 6) P S5)) ∧ (r4 = false → (P false S5))))) ∧ ((mByte S) = 33 → (C_opens E q (d + 5) 10 S (fun r7 S8 => (r7 = true → (T_readsCondition_21 E q (d + 6) P S8)) ∧ (r7 = false → (P false S8))))))) ∧ (¬ (mByte S) = 33 → ((¬ (mByte S) = 40 → (C_readsCompared E q (d + 5) S (fun r11 S12 => (r11 = true → (T_readsCondition_73 E q (d + 6) P S12)) ∧ (r11 = false → (P false S12))))) ∧ ((mByte S) = 40 → ((¬ (mByte S) = 33 → (C_opens E q (d + 5) 13 S (fun r15 S16 => (r15 = true → (T_readsCondition_21 E q (d + 6) P S16)) ∧ (r15 = false → (P false S16))))) ∧ ((mByte S) = 33 → (C_opens E q (d + 5) 10 S (fun r18 S19 => (r18 = true → (T_readsCondition_21 E q (d + 6) P S19)) ∧ (r18 = false → (P false S19))))))))))) : T_readsCondition_21 E q (d + 6) P S  := by
  refine r_aload_n 0 dX12_readsCondition_21 rfl rfl ?_
  obtain ⟨b1, h⟩ := h
  refine KP_byteHere (d := d + 5) b1 rfl (Nat.le_of_ble_eq_true rfl) dX12_readsCondition_22 ?_
  refine r_bipush_33 dX12_readsCondition_25 ?_
  refine r_icmp_eq (tgt := 39) dX12_readsCondition_27 (by decide) (fun c2 => ?_) (fun c2 => ?_)
  · have h := h.1 c2
    refine r_aload_n 0 dX12_readsCondition_39 rfl rfl ?_
    refine r_aload_n 0 dX12_readsCondition_40 rfl rfl ?_
    refine KP_byteHere (d := d + 5) b1 rfl (Nat.le_of_ble_eq_true rfl) dX12_readsCondition_41 ?_
    refine r_bipush_33 dX12_readsCondition_44 ?_
    refine r_icmp_ne (tgt := 54) dX12_readsCondition_46 (by decide) (fun c3 => ?_) (fun c3 => ?_)
    · have h := h.1 c3
      refine r_bipush_13 dX12_readsCondition_54 ?_
      refine K_opens rfl (Nat.le_of_ble_eq_true rfl) dX12_readsCondition_56 (mB h (fun r4 S5 h => ?_))
      refine r_if_neb (tgt := 21) dX12_readsCondition_59 (by decide) (fun c6 => ?_) (fun c6 => ?_)
      · have h := h.1 c6
        refine r_ls [0] (ls2 := [(0, .ref (q 0))]) rfl ?_
        exact h
      · have h := h.2 c6
        refine r_iconst_0 dX12_readsCondition_62 ?_
        exact r_zret0 dX12_readsCondition_63 rfl (Nat.le_refl _) (Nat.le_refl _) ⟨_, _, rfl, rfl, h⟩
    · have h := h.2 c3
      refine r_bipush_10 dX12_readsCondition_49 ?_
      refine r_goto (tgt := 56) dX12_readsCondition_51 (by decide) ?_
      refine K_opens rfl (Nat.le_of_ble_eq_true rfl) dX12_readsCondition_56 (mB h (fun r7 S8 h => ?_))
      refine r_if_neb (tgt := 21) dX12_readsCondition_59 (by decide) (fun c9 => ?_) (fun c9 => ?_)
      · have h := h.1 c9
        refine r_ls [0] (ls2 := [(0, .ref (q 0))]) rfl ?_
        exact h
      · have h := h.2 c9
        refine r_iconst_0 dX12_readsCondition_62 ?_
        exact r_zret0 dX12_readsCondition_63 rfl (Nat.le_refl _) (Nat.le_refl _) ⟨_, _, rfl, rfl, h⟩
  · have h := h.2 c2
    refine r_aload_n 0 dX12_readsCondition_30 rfl rfl ?_
    refine KP_byteHere (d := d + 5) b1 rfl (Nat.le_of_ble_eq_true rfl) dX12_readsCondition_31 ?_
    refine r_bipush_40 dX12_readsCondition_34 ?_
    refine r_icmp_ne (tgt := 64) dX12_readsCondition_36 (by decide) (fun c10 => ?_) (fun c10 => ?_)
    · have h := h.1 c10
      refine r_aload_n 0 dX12_readsCondition_64 rfl rfl ?_
      refine K_readsCompared rfl (Nat.le_of_ble_eq_true rfl) dX12_readsCondition_65 (mB h (fun r11 S12 h => ?_))
      refine r_if_neb (tgt := 73) dX12_readsCondition_68 (by decide) (fun c13 => ?_) (fun c13 => ?_)
      · have h := h.1 c13
        refine r_ls [0] (ls2 := [(0, .ref (q 0))]) rfl ?_
        exact h
      · have h := h.2 c13
        refine r_iconst_0 dX12_readsCondition_71 ?_
        exact r_zret0 dX12_readsCondition_72 rfl (Nat.le_refl _) (Nat.le_refl _) ⟨_, _, rfl, rfl, h⟩
    · have h := h.2 c10
      refine r_aload_n 0 dX12_readsCondition_39 rfl rfl ?_
      refine r_aload_n 0 dX12_readsCondition_40 rfl rfl ?_
      refine KP_byteHere (d := d + 5) b1 rfl (Nat.le_of_ble_eq_true rfl) dX12_readsCondition_41 ?_
      refine r_bipush_33 dX12_readsCondition_44 ?_
      refine r_icmp_ne (tgt := 54) dX12_readsCondition_46 (by decide) (fun c14 => ?_) (fun c14 => ?_)
      · have h := h.1 c14
        refine r_bipush_13 dX12_readsCondition_54 ?_
        refine K_opens rfl (Nat.le_of_ble_eq_true rfl) dX12_readsCondition_56 (mB h (fun r15 S16 h => ?_))
        refine r_if_neb (tgt := 21) dX12_readsCondition_59 (by decide) (fun c17 => ?_) (fun c17 => ?_)
        · have h := h.1 c17
          refine r_ls [0] (ls2 := [(0, .ref (q 0))]) rfl ?_
          exact h
        · have h := h.2 c17
          refine r_iconst_0 dX12_readsCondition_62 ?_
          exact r_zret0 dX12_readsCondition_63 rfl (Nat.le_refl _) (Nat.le_refl _) ⟨_, _, rfl, rfl, h⟩
      · have h := h.2 c14
        refine r_bipush_10 dX12_readsCondition_49 ?_
        refine r_goto (tgt := 56) dX12_readsCondition_51 (by decide) ?_
        refine K_opens rfl (Nat.le_of_ble_eq_true rfl) dX12_readsCondition_56 (mB h (fun r18 S19 h => ?_))
        refine r_if_neb (tgt := 21) dX12_readsCondition_59 (by decide) (fun c20 => ?_) (fun c20 => ?_)
        · have h := h.1 c20
          refine r_ls [0] (ls2 := [(0, .ref (q 0))]) rfl ?_
          exact h
        · have h := h.2 c20
          refine r_iconst_0 dX12_readsCondition_62 ?_
          exact r_zret0 dX12_readsCondition_63 rfl (Nat.le_refl _) (Nat.le_refl _) ⟨_, _, rfl, rfl, h⟩
set_option maxRecDepth 20000 in
theorem sg_readsCondition_73 {E : EvT} {q : Nat → Nat} {d : Nat} {S : StM} {P : Bool → StM → Prop}  (h : (s_place0 S < s_length0 S → 0 ≤ s_place0 S ∧ s_place0 S < 400) ∧ ((¬ (mByte S) = 41 → (((mByte S) = 38 → ((¬ (mByte S) = 124 → (C_lands E q (d + 5) 0 S (fun S6 => (s_place0 S6 < s_length0 S6 → 0 ≤ s_place0 S6 ∧ s_place0 S6 < 400) ∧ ((¬ (mByte S6) = 38 → (C_jumps E q (d + 5) 12 S6 (fun S10 => T_readsCondition_21 E q (d + 6) P S10))) ∧ ((mByte S6) = 38 → (C_jumps E q (d + 5) 11 S6 (fun S12 => T_readsCondition_21 E q (d + 6) P S12))))))) ∧ ((mByte S) = 124 → (C_lands E q (d + 5) 1 S (fun S14 => (s_place0 S14 < s_length0 S14 → 0 ≤ s_place0 S14 ∧ s_place0 S14 < 400) ∧ ((¬ (mByte S14) = 38 → (C_jumps E q (d + 5) 12 S14 (fun S18 => T_readsCondition_21 E q (d + 6) P S18))) ∧ ((mByte S14) = 38 → (C_jumps E q (d + 5) 11 S14 (fun S20 => T_readsCondition_21 E q (d + 6) P S20))))))))) ∧ (¬ (mByte S) = 38 → (((mByte S) = 124 → ((¬ (mByte S) = 124 → (C_lands E q (d + 5) 0 S (fun S24 => (s_place0 S24 < s_length0 S24 → 0 ≤ s_place0 S24 ∧ s_place0 S24 < 400) ∧ ((¬ (mByte S24) = 38 → (C_jumps E q (d + 5) 12 S24 (fun S28 => T_readsCondition_21 E q (d + 6) P S28))) ∧ ((mByte S24) = 38 → (C_jumps E q (d + 5) 11 S24 (fun S30 => T_readsCondition_21 E q (d + 6) P S30))))))) ∧ ((mByte S) = 124 → (C_lands E q (d + 5) 1 S (fun S32 => (s_place0 S32 < s_length0 S32 → 0 ≤ s_place0 S32 ∧ s_place0 S32 < 400) ∧ ((¬ (mByte S32) = 38 → (C_jumps E q (d + 5) 12 S32 (fun S36 => T_readsCondition_21 E q (d + 6) P S36))) ∧ ((mByte S32) = 38 → (C_jumps E q (d + 5) 11 S32 (fun S38 => T_readsCondition_21 E q (d + 6) P S38))))))))) ∧ (¬ (mByte S) = 124 → (C_wrong E q (d + 5) 1 (s_place0 S) S (fun r39 S40 => P r39 S40))))))) ∧ ((mByte S) = 41 → (C_lands E q (d + 5) 1 S (fun S42 => (¬ ((s_waiting S42) - 1) = 0 → (C_endsPiece E q (d + 5) (sI (sI (sI S42 35 ((s_waiting S42) - 1)) 33 ((s_open S42) - 1)) 29 ((s_place0 S42) + 1)) (fun S45 => T_readsCondition_73 E q (d + 6) P S45))) ∧ (((s_waiting S42) - 1) = 0 → (P true (sI (sI (sI S42 35 ((s_waiting S42) - 1)) 33 ((s_open S42) - 1)) 29 ((s_place0 S42) + 1))))))))) : T_readsCondition_73 E q (d + 6) P S  := by
  refine r_aload_n 0 dX12_readsCondition_73 rfl rfl ?_
  obtain ⟨b1, h⟩ := h
  refine KP_byteHere (d := d + 5) b1 rfl (Nat.le_of_ble_eq_true rfl) dX12_readsCondition_74 ?_
  refine r_bipush_41 dX12_readsCondition_77 ?_
  refine r_icmp_ne (tgt := 133) dX12_readsCondition_79 (by decide) (fun c2 => ?_) (fun c2 => ?_)
  · have h := h.1 c2
    refine r_aload_n 0 dX12_readsCondition_133 rfl rfl ?_
    refine KP_byteHere (d := d + 5) b1 rfl (Nat.le_of_ble_eq_true rfl) dX12_readsCondition_134 ?_
    refine r_bipush_38 dX12_readsCondition_137 ?_
    refine r_icmp_eq (tgt := 161) dX12_readsCondition_139 (by decide) (fun c3 => ?_) (fun c3 => ?_)
    · have h := h.1 c3
      refine r_aload_n 0 dX12_readsCondition_161 rfl rfl ?_
      refine r_aload_n 0 dX12_readsCondition_162 rfl rfl ?_
      refine KP_byteHere (d := d + 5) b1 rfl (Nat.le_of_ble_eq_true rfl) dX12_readsCondition_163 ?_
      refine r_bipush_124 dX12_readsCondition_166 ?_
      refine r_icmp_ne (tgt := 175) dX12_readsCondition_168 (by decide) (fun c4 => ?_) (fun c4 => ?_)
      · have h := h.1 c4
        refine r_iconst_0 dX12_readsCondition_175 ?_
        refine K_lands rfl (Nat.le_of_ble_eq_true rfl) dX12_readsCondition_176 (mV h (fun S6 h => ?_))
        refine r_aload_n 0 dX12_readsCondition_179 rfl rfl ?_
        refine r_aload_n 0 dX12_readsCondition_180 rfl rfl ?_
        obtain ⟨b7, h⟩ := h
        refine KP_byteHere (d := d + 5) b7 rfl (Nat.le_of_ble_eq_true rfl) dX12_readsCondition_181 ?_
        refine r_bipush_38 dX12_readsCondition_184 ?_
        refine r_icmp_ne (tgt := 194) dX12_readsCondition_186 (by decide) (fun c8 => ?_) (fun c8 => ?_)
        · have h := h.1 c8
          refine r_bipush_12 dX12_readsCondition_194 ?_
          refine K_jumps rfl (Nat.le_of_ble_eq_true rfl) dX12_readsCondition_196 (mV h (fun S10 h => ?_))
          refine r_goto (tgt := 21) dX12_readsCondition_199 (by decide) ?_
          refine r_ls [0] (ls2 := [(0, .ref (q 0))]) rfl ?_
          exact h
        · have h := h.2 c8
          refine r_bipush_11 dX12_readsCondition_189 ?_
          refine r_goto (tgt := 196) dX12_readsCondition_191 (by decide) ?_
          refine K_jumps rfl (Nat.le_of_ble_eq_true rfl) dX12_readsCondition_196 (mV h (fun S12 h => ?_))
          refine r_goto (tgt := 21) dX12_readsCondition_199 (by decide) ?_
          refine r_ls [0] (ls2 := [(0, .ref (q 0))]) rfl ?_
          exact h
      · have h := h.2 c4
        refine r_iconst_1 dX12_readsCondition_171 ?_
        refine r_goto (tgt := 176) dX12_readsCondition_172 (by decide) ?_
        refine K_lands rfl (Nat.le_of_ble_eq_true rfl) dX12_readsCondition_176 (mV h (fun S14 h => ?_))
        refine r_aload_n 0 dX12_readsCondition_179 rfl rfl ?_
        refine r_aload_n 0 dX12_readsCondition_180 rfl rfl ?_
        obtain ⟨b15, h⟩ := h
        refine KP_byteHere (d := d + 5) b15 rfl (Nat.le_of_ble_eq_true rfl) dX12_readsCondition_181 ?_
        refine r_bipush_38 dX12_readsCondition_184 ?_
        refine r_icmp_ne (tgt := 194) dX12_readsCondition_186 (by decide) (fun c16 => ?_) (fun c16 => ?_)
        · have h := h.1 c16
          refine r_bipush_12 dX12_readsCondition_194 ?_
          refine K_jumps rfl (Nat.le_of_ble_eq_true rfl) dX12_readsCondition_196 (mV h (fun S18 h => ?_))
          refine r_goto (tgt := 21) dX12_readsCondition_199 (by decide) ?_
          refine r_ls [0] (ls2 := [(0, .ref (q 0))]) rfl ?_
          exact h
        · have h := h.2 c16
          refine r_bipush_11 dX12_readsCondition_189 ?_
          refine r_goto (tgt := 196) dX12_readsCondition_191 (by decide) ?_
          refine K_jumps rfl (Nat.le_of_ble_eq_true rfl) dX12_readsCondition_196 (mV h (fun S20 h => ?_))
          refine r_goto (tgt := 21) dX12_readsCondition_199 (by decide) ?_
          refine r_ls [0] (ls2 := [(0, .ref (q 0))]) rfl ?_
          exact h
    · have h := h.2 c3
      refine r_aload_n 0 dX12_readsCondition_142 rfl rfl ?_
      refine KP_byteHere (d := d + 5) b1 rfl (Nat.le_of_ble_eq_true rfl) dX12_readsCondition_143 ?_
      refine r_bipush_124 dX12_readsCondition_146 ?_
      refine r_icmp_eq (tgt := 161) dX12_readsCondition_148 (by decide) (fun c21 => ?_) (fun c21 => ?_)
      · have h := h.1 c21
        refine r_aload_n 0 dX12_readsCondition_161 rfl rfl ?_
        refine r_aload_n 0 dX12_readsCondition_162 rfl rfl ?_
        refine KP_byteHere (d := d + 5) b1 rfl (Nat.le_of_ble_eq_true rfl) dX12_readsCondition_163 ?_
        refine r_bipush_124 dX12_readsCondition_166 ?_
        refine r_icmp_ne (tgt := 175) dX12_readsCondition_168 (by decide) (fun c22 => ?_) (fun c22 => ?_)
        · have h := h.1 c22
          refine r_iconst_0 dX12_readsCondition_175 ?_
          refine K_lands rfl (Nat.le_of_ble_eq_true rfl) dX12_readsCondition_176 (mV h (fun S24 h => ?_))
          refine r_aload_n 0 dX12_readsCondition_179 rfl rfl ?_
          refine r_aload_n 0 dX12_readsCondition_180 rfl rfl ?_
          obtain ⟨b25, h⟩ := h
          refine KP_byteHere (d := d + 5) b25 rfl (Nat.le_of_ble_eq_true rfl) dX12_readsCondition_181 ?_
          refine r_bipush_38 dX12_readsCondition_184 ?_
          refine r_icmp_ne (tgt := 194) dX12_readsCondition_186 (by decide) (fun c26 => ?_) (fun c26 => ?_)
          · have h := h.1 c26
            refine r_bipush_12 dX12_readsCondition_194 ?_
            refine K_jumps rfl (Nat.le_of_ble_eq_true rfl) dX12_readsCondition_196 (mV h (fun S28 h => ?_))
            refine r_goto (tgt := 21) dX12_readsCondition_199 (by decide) ?_
            refine r_ls [0] (ls2 := [(0, .ref (q 0))]) rfl ?_
            exact h
          · have h := h.2 c26
            refine r_bipush_11 dX12_readsCondition_189 ?_
            refine r_goto (tgt := 196) dX12_readsCondition_191 (by decide) ?_
            refine K_jumps rfl (Nat.le_of_ble_eq_true rfl) dX12_readsCondition_196 (mV h (fun S30 h => ?_))
            refine r_goto (tgt := 21) dX12_readsCondition_199 (by decide) ?_
            refine r_ls [0] (ls2 := [(0, .ref (q 0))]) rfl ?_
            exact h
        · have h := h.2 c22
          refine r_iconst_1 dX12_readsCondition_171 ?_
          refine r_goto (tgt := 176) dX12_readsCondition_172 (by decide) ?_
          refine K_lands rfl (Nat.le_of_ble_eq_true rfl) dX12_readsCondition_176 (mV h (fun S32 h => ?_))
          refine r_aload_n 0 dX12_readsCondition_179 rfl rfl ?_
          refine r_aload_n 0 dX12_readsCondition_180 rfl rfl ?_
          obtain ⟨b33, h⟩ := h
          refine KP_byteHere (d := d + 5) b33 rfl (Nat.le_of_ble_eq_true rfl) dX12_readsCondition_181 ?_
          refine r_bipush_38 dX12_readsCondition_184 ?_
          refine r_icmp_ne (tgt := 194) dX12_readsCondition_186 (by decide) (fun c34 => ?_) (fun c34 => ?_)
          · have h := h.1 c34
            refine r_bipush_12 dX12_readsCondition_194 ?_
            refine K_jumps rfl (Nat.le_of_ble_eq_true rfl) dX12_readsCondition_196 (mV h (fun S36 h => ?_))
            refine r_goto (tgt := 21) dX12_readsCondition_199 (by decide) ?_
            refine r_ls [0] (ls2 := [(0, .ref (q 0))]) rfl ?_
            exact h
          · have h := h.2 c34
            refine r_bipush_11 dX12_readsCondition_189 ?_
            refine r_goto (tgt := 196) dX12_readsCondition_191 (by decide) ?_
            refine K_jumps rfl (Nat.le_of_ble_eq_true rfl) dX12_readsCondition_196 (mV h (fun S38 h => ?_))
            refine r_goto (tgt := 21) dX12_readsCondition_199 (by decide) ?_
            refine r_ls [0] (ls2 := [(0, .ref (q 0))]) rfl ?_
            exact h
      · have h := h.2 c21
        refine r_aload_n 0 dX12_readsCondition_151 rfl rfl ?_
        refine r_iconst_1 dX12_readsCondition_152 ?_
        refine r_aload_n 0 dX12_readsCondition_153 rfl rfl ?_
        refine mg_29 rfl dX12_readsCondition_154 ?_
        refine K_wrong rfl (Nat.le_of_ble_eq_true rfl) dX12_readsCondition_157 (mB h (fun r39 S40 h => ?_))
        exact r_zret dX12_readsCondition_160 rfl (Nat.le_refl _) (Nat.le_refl _) ⟨_, _, rfl, rfl, h⟩
  · have h := h.2 c2
    refine r_aload_n 0 dX12_readsCondition_82 rfl rfl ?_
    refine r_iconst_1 dX12_readsCondition_83 ?_
    refine K_lands rfl (Nat.le_of_ble_eq_true rfl) dX12_readsCondition_84 (mV h (fun S42 h => ?_))
    refine r_aload_n 0 dX12_readsCondition_87 rfl rfl ?_
    refine r_aload_n 0 dX12_readsCondition_88 rfl rfl ?_
    refine mg_35 rfl dX12_readsCondition_89 ?_
    refine r_iconst_1 dX12_readsCondition_92 ?_
    refine r_isub dX12_readsCondition_93 ?_
    refine mq_35 rfl dX12_readsCondition_94 ?_
    refine r_aload_n 0 dX12_readsCondition_97 rfl rfl ?_
    refine r_aload_n 0 dX12_readsCondition_98 rfl rfl ?_
    refine mg_33 rfl dX12_readsCondition_99 ?_
    refine r_iconst_1 dX12_readsCondition_102 ?_
    refine r_isub dX12_readsCondition_103 ?_
    refine mq_33 rfl dX12_readsCondition_104 ?_
    refine r_aload_n 0 dX12_readsCondition_107 rfl rfl ?_
    refine r_aload_n 0 dX12_readsCondition_108 rfl rfl ?_
    refine mg_29 rfl dX12_readsCondition_109 ?_
    refine r_iconst_1 dX12_readsCondition_112 ?_
    refine r_iadd dX12_readsCondition_113 ?_
    refine mq_29 rfl dX12_readsCondition_114 ?_
    refine r_aload_n 0 dX12_readsCondition_117 rfl rfl ?_
    refine mg_35 rfl dX12_readsCondition_118 ?_
    refine r_if_ne (tgt := 126) dX12_readsCondition_121 (by decide) (fun c43 => ?_) (fun c43 => ?_)
    · have h := h.1 c43
      refine r_aload_n 0 dX12_readsCondition_126 rfl rfl ?_
      refine K_endsPiece rfl (Nat.le_of_ble_eq_true rfl) dX12_readsCondition_127 (mV h (fun S45 h => ?_))
      refine r_goto (tgt := 73) dX12_readsCondition_130 (by decide) ?_
      refine r_ls [0] (ls2 := [(0, .ref (q 0))]) rfl ?_
      exact h
    · have h := h.2 c43
      refine r_iconst_1 dX12_readsCondition_124 ?_
      exact r_zret1 dX12_readsCondition_125 rfl (Nat.le_refl _) (Nat.le_refl _) ⟨_, _, rfl, rfl, h⟩
set_option maxRecDepth 20000 in
theorem en_readsClause {E : EvT} {q : Nat → Nat} {d : Nat} {S : StM} {P : Bool → StM → Prop} (h : (s_place0 S < s_length0 S → 0 ≤ s_place0 S ∧ s_place0 S < 400) ∧ (((mLetter (mByte S)) = true → ((¬ (s_saidClauses S) = 10 → (C_readsNumber E q (d + 6) (mMost (mByte S)) (sI S 29 ((s_place0 S) + 1)) (fun r4 S5 => (r4 = true → ((0 ≤ (s_saidClauses S5) ∧ (s_saidClauses S5) < 10) ∧ ((¬ (mByte S) = 120 → ((s_place0 (sA (sA (sA (sA S5 39 (upd (a_saidLetter S5) (ix (s_saidClauses S5)) (mByte S))) 42 (upd (a_saidN S5) (ix (s_saidClauses S5)) (s_number0 S5))) 43 (upd (a_saidJ S5) (ix (s_saidClauses S5)) 0)) 40 (upd (a_saidFrom S5) (ix (s_saidClauses S5)) (s_codeMany S5))) < s_length0 (sA (sA (sA (sA S5 39 (upd (a_saidLetter S5) (ix (s_saidClauses S5)) (mByte S))) 42 (upd (a_saidN S5) (ix (s_saidClauses S5)) (s_number0 S5))) 43 (upd (a_saidJ S5) (ix (s_saidClauses S5)) 0)) 40 (upd (a_saidFrom S5) (ix (s_saidClauses S5)) (s_codeMany S5))) → 0 ≤ s_place0 (sA (sA (sA (sA S5 39 (upd (a_saidLetter S5) (ix (s_saidClauses S5)) (mByte S))) 42 (upd (a_saidN S5) (ix (s_saidClauses S5)) (s_number0 S5))) 43 (upd (a_saidJ S5) (ix (s_saidClauses S5)) 0)) 40 (upd (a_saidFrom S5) (ix (s_saidClauses S5)) (s_codeMany S5))) ∧ s_place0 (sA (sA (sA (sA S5 39 (upd (a_saidLetter S5) (ix (s_saidClauses S5)) (mByte S))) 42 (upd (a_saidN S5) (ix (s_saidClauses S5)) (s_number0 S5))) 43 (upd (a_saidJ S5) (ix (s_saidClauses S5)) 0)) 40 (upd (a_saidFrom S5) (ix (s_saidClauses S5)) (s_codeMany S5))) < 400) ∧ ((¬ (mByte (sA (sA (sA (sA S5 39 (upd (a_saidLetter S5) (ix (s_saidClauses S5)) (mByte S))) 42 (upd (a_saidN S5) (ix (s_saidClauses S5)) (s_number0 S5))) 43 (upd (a_saidJ S5) (ix (s_saidClauses S5)) 0)) 40 (upd (a_saidFrom S5) (ix (s_saidClauses S5)) (s_codeMany S5)))) = 40 → (P true (sI (sA (sA (sA (sA (sA S5 39 (upd (a_saidLetter S5) (ix (s_saidClauses S5)) (mByte S))) 42 (upd (a_saidN S5) (ix (s_saidClauses S5)) (s_number0 S5))) 43 (upd (a_saidJ S5) (ix (s_saidClauses S5)) 0)) 40 (upd (a_saidFrom S5) (ix (s_saidClauses S5)) (s_codeMany S5))) 41 (upd (a_saidTo S5) (ix (s_saidClauses S5)) (s_codeMany S5))) 36 ((s_saidClauses S5) + 1)))) ∧ ((mByte (sA (sA (sA (sA S5 39 (upd (a_saidLetter S5) (ix (s_saidClauses S5)) (mByte S))) 42 (upd (a_saidN S5) (ix (s_saidClauses S5)) (s_number0 S5))) 43 (upd (a_saidJ S5) (ix (s_saidClauses S5)) 0)) 40 (upd (a_saidFrom S5) (ix (s_saidClauses S5)) (s_codeMany S5)))) = 40 → (C_readsCondition E q (d + 6) (sA (sA (sA (sA S5 39 (upd (a_saidLetter S5) (ix (s_saidClauses S5)) (mByte S))) 42 (upd (a_saidN S5) (ix (s_saidClauses S5)) (s_number0 S5))) 43 (upd (a_saidJ S5) (ix (s_saidClauses S5)) 0)) 40 (upd (a_saidFrom S5) (ix (s_saidClauses S5)) (s_codeMany S5))) (fun r11 S12 => (r11 = true → (P true (sI (sA S12 41 (upd (a_saidTo S12) (ix (s_saidClauses S5)) (s_codeMany S12))) 36 ((s_saidClauses S12) + 1)))) ∧ (r11 = false → (P false S12)))))))) ∧ ((mByte S) = 120 → (C_takes E q (d + 6) 46 (sA (sA (sA (sA S5 39 (upd (a_saidLetter S5) (ix (s_saidClauses S5)) (mByte S))) 42 (upd (a_saidN S5) (ix (s_saidClauses S5)) (s_number0 S5))) 43 (upd (a_saidJ S5) (ix (s_saidClauses S5)) 0)) 40 (upd (a_saidFrom S5) (ix (s_saidClauses S5)) (s_codeMany S5))) (fun r14 S15 => (r14 = false → (P false S15)) ∧ (r14 = true → (C_readsNumber E q (d + 6) 9 S15 (fun r17 S18 => (r17 = true → (P true (sI (sA (sA S18 43 (upd (a_saidJ S18) (ix (s_saidClauses S5)) (s_number0 S18))) 41 (upd (a_saidTo S18) (ix (s_saidClauses S5)) (s_codeMany S18))) 36 ((s_saidClauses S18) + 1)))) ∧ (r17 = false → (P false S18))))))))))) ∧ (r4 = false → (P false S5))))) ∧ ((s_saidClauses S) = 10 → (C_wrong E q (d + 6) 4 (s_place0 S) S (fun r20 S21 => P r20 S21))))) ∧ ((mLetter (mByte S)) = false → (C_wrong E q (d + 6) 1 (s_place0 S) S (fun r22 S23 => P r22 S23))))) : C_readsClause E q (d + 7) S P := by
  refine Cn.of rfl (Nat.le_of_ble_eq_true rfl) (ls := [(0, .ref (q 0))]) rfl ?_
  refine r_aload_n 0 dX12_readsClause_0 rfl rfl ?_
  obtain ⟨b1, h⟩ := h
  refine KP_byteHere (d := d + 6) b1 rfl (Nat.le_of_ble_eq_true rfl) dX12_readsClause_1 ?_
  refine r_istore_n [(1, .int ((mByte S))), (0, .ref (q 0))] dX12_readsClause_4 rfl (Nat.le_of_ble_eq_true rfl) rfl ?_
  refine r_iload_n 0 dX12_readsClause_5 rfl rfl ?_
  refine KP_isLetter (d := d + 6)  rfl (Nat.le_of_ble_eq_true rfl) dX12_readsClause_6 ?_
  refine r_if_neb (tgt := 22) dX12_readsClause_9 (by decide) (fun c2 => ?_) (fun c2 => ?_)
  · have h := h.1 c2
    refine r_aload_n 1 dX12_readsClause_22 rfl rfl ?_
    refine mg_36 rfl dX12_readsClause_23 ?_
    refine r_bipush_10 dX12_readsClause_26 ?_
    refine r_icmp_ne (tgt := 41) dX12_readsClause_28 (by decide) (fun c3 => ?_) (fun c3 => ?_)
    · have h := h.1 c3
      refine r_aload_n 1 dX12_readsClause_41 rfl rfl ?_
      refine r_aload_n 1 dX12_readsClause_42 rfl rfl ?_
      refine mg_29 rfl dX12_readsClause_43 ?_
      refine r_iconst_1 dX12_readsClause_46 ?_
      refine r_iadd dX12_readsClause_47 ?_
      refine mq_29 rfl dX12_readsClause_48 ?_
      refine r_aload_n 1 dX12_readsClause_51 rfl rfl ?_
      refine r_iload_n 0 dX12_readsClause_52 rfl rfl ?_
      refine KP_mostOf (d := d + 6)  rfl (Nat.le_of_ble_eq_true rfl) dX12_readsClause_53 ?_
      refine K_readsNumber rfl (Nat.le_of_ble_eq_true rfl) dX12_readsClause_56 (mB h (fun r4 S5 h => ?_))
      refine r_if_neb (tgt := 64) dX12_readsClause_59 (by decide) (fun c6 => ?_) (fun c6 => ?_)
      · have h := h.1 c6
        refine r_aload_n 1 dX12_readsClause_64 rfl rfl ?_
        refine mg_36 rfl dX12_readsClause_65 ?_
        refine r_istore_n [(2, .int (s_saidClauses S5)), (1, .int ((mByte S))), (0, .ref (q 0))] dX12_readsClause_68 rfl (Nat.le_of_ble_eq_true rfl) rfl ?_
        refine r_aload_n 2 dX12_readsClause_69 rfl rfl ?_
        refine mg_39 rfl dX12_readsClause_70 ?_
        refine r_iload_n 0 dX12_readsClause_73 rfl rfl ?_
        refine r_iload_n 1 dX12_readsClause_74 rfl rfl ?_
        obtain ⟨b7, h⟩ := h
        refine mt_39 b7 dX12_readsClause_75 ?_
        refine r_aload_n 2 dX12_readsClause_76 rfl rfl ?_
        refine mg_42 rfl dX12_readsClause_77 ?_
        refine r_iload_n 0 dX12_readsClause_80 rfl rfl ?_
        refine r_aload_n 2 dX12_readsClause_81 rfl rfl ?_
        refine mg_32 rfl dX12_readsClause_82 ?_
        refine mt_42 b7 dX12_readsClause_85 ?_
        refine r_aload_n 2 dX12_readsClause_86 rfl rfl ?_
        refine mg_43 rfl dX12_readsClause_87 ?_
        refine r_iload_n 0 dX12_readsClause_90 rfl rfl ?_
        refine r_iconst_0 dX12_readsClause_91 ?_
        refine mt_43 b7 dX12_readsClause_92 ?_
        refine r_aload_n 2 dX12_readsClause_93 rfl rfl ?_
        refine mg_40 rfl dX12_readsClause_94 ?_
        refine r_iload_n 0 dX12_readsClause_97 rfl rfl ?_
        refine r_aload_n 2 dX12_readsClause_98 rfl rfl ?_
        refine mg_34 rfl dX12_readsClause_99 ?_
        refine mt_40 b7 dX12_readsClause_102 ?_
        refine r_iload_n 1 dX12_readsClause_103 rfl rfl ?_
        refine r_bipush_120 dX12_readsClause_104 ?_
        refine r_icmp_ne (tgt := 142) dX12_readsClause_106 (by decide) (fun c8 => ?_) (fun c8 => ?_)
        · have h := h.1 c8
          refine r_aload_n 2 dX12_readsClause_142 rfl rfl ?_
          obtain ⟨b9, h⟩ := h
          refine KP_byteHere (d := d + 6) b9 rfl (Nat.le_of_ble_eq_true rfl) dX12_readsClause_143 ?_
          refine r_bipush_40 dX12_readsClause_146 ?_
          refine r_icmp_ne (tgt := 160) dX12_readsClause_148 (by decide) (fun c10 => ?_) (fun c10 => ?_)
          · have h := h.1 c10
            refine r_aload_n 2 dX12_readsClause_160 rfl rfl ?_
            refine mg_41 rfl dX12_readsClause_161 ?_
            refine r_iload_n 0 dX12_readsClause_164 rfl rfl ?_
            refine r_aload_n 2 dX12_readsClause_165 rfl rfl ?_
            refine mg_34 rfl dX12_readsClause_166 ?_
            refine mt_41 b7 dX12_readsClause_169 ?_
            refine r_aload_n 2 dX12_readsClause_170 rfl rfl ?_
            refine r_aload_n 2 dX12_readsClause_171 rfl rfl ?_
            refine mg_36 rfl dX12_readsClause_172 ?_
            refine r_iconst_1 dX12_readsClause_175 ?_
            refine r_iadd dX12_readsClause_176 ?_
            refine mq_36 rfl dX12_readsClause_177 ?_
            refine r_iconst_1 dX12_readsClause_180 ?_
            exact r_zret1 dX12_readsClause_181 rfl (Nat.le_refl _) (Nat.le_refl _) ⟨_, _, rfl, rfl, h⟩
          · have h := h.2 c10
            refine r_aload_n 2 dX12_readsClause_151 rfl rfl ?_
            refine K_readsCondition rfl (Nat.le_of_ble_eq_true rfl) dX12_readsClause_152 (mB h (fun r11 S12 h => ?_))
            refine r_if_neb (tgt := 160) dX12_readsClause_155 (by decide) (fun c13 => ?_) (fun c13 => ?_)
            · have h := h.1 c13
              refine r_aload_n 2 dX12_readsClause_160 rfl rfl ?_
              refine mg_41 rfl dX12_readsClause_161 ?_
              refine r_iload_n 0 dX12_readsClause_164 rfl rfl ?_
              refine r_aload_n 2 dX12_readsClause_165 rfl rfl ?_
              refine mg_34 rfl dX12_readsClause_166 ?_
              refine mt_41 b7 dX12_readsClause_169 ?_
              refine r_aload_n 2 dX12_readsClause_170 rfl rfl ?_
              refine r_aload_n 2 dX12_readsClause_171 rfl rfl ?_
              refine mg_36 rfl dX12_readsClause_172 ?_
              refine r_iconst_1 dX12_readsClause_175 ?_
              refine r_iadd dX12_readsClause_176 ?_
              refine mq_36 rfl dX12_readsClause_177 ?_
              refine r_iconst_1 dX12_readsClause_180 ?_
              exact r_zret1 dX12_readsClause_181 rfl (Nat.le_refl _) (Nat.le_refl _) ⟨_, _, rfl, rfl, h⟩
            · have h := h.2 c13
              refine r_iconst_0 dX12_readsClause_158 ?_
              exact r_zret0 dX12_readsClause_159 rfl (Nat.le_refl _) (Nat.le_refl _) ⟨_, _, rfl, rfl, h⟩
        · have h := h.2 c8
          refine r_aload_n 2 dX12_readsClause_109 rfl rfl ?_
          refine r_bipush_46 dX12_readsClause_110 ?_
          refine K_takes rfl (Nat.le_of_ble_eq_true rfl) dX12_readsClause_112 (mB h (fun r14 S15 h => ?_))
          refine r_if_eqb (tgt := 127) dX12_readsClause_115 (by decide) (fun c16 => ?_) (fun c16 => ?_)
          · have h := h.1 c16
            refine r_iconst_0 dX12_readsClause_127 ?_
            exact r_zret0 dX12_readsClause_128 rfl (Nat.le_refl _) (Nat.le_refl _) ⟨_, _, rfl, rfl, h⟩
          · have h := h.2 c16
            refine r_aload_n 2 dX12_readsClause_118 rfl rfl ?_
            refine r_bipush_9 dX12_readsClause_119 ?_
            refine K_readsNumber rfl (Nat.le_of_ble_eq_true rfl) dX12_readsClause_121 (mB h (fun r17 S18 h => ?_))
            refine r_if_neb (tgt := 129) dX12_readsClause_124 (by decide) (fun c19 => ?_) (fun c19 => ?_)
            · have h := h.1 c19
              refine r_aload_n 2 dX12_readsClause_129 rfl rfl ?_
              refine mg_43 rfl dX12_readsClause_130 ?_
              refine r_iload_n 0 dX12_readsClause_133 rfl rfl ?_
              refine r_aload_n 2 dX12_readsClause_134 rfl rfl ?_
              refine mg_32 rfl dX12_readsClause_135 ?_
              refine mt_43 b7 dX12_readsClause_138 ?_
              refine r_goto (tgt := 160) dX12_readsClause_139 (by decide) ?_
              refine r_aload_n 2 dX12_readsClause_160 rfl rfl ?_
              refine mg_41 rfl dX12_readsClause_161 ?_
              refine r_iload_n 0 dX12_readsClause_164 rfl rfl ?_
              refine r_aload_n 2 dX12_readsClause_165 rfl rfl ?_
              refine mg_34 rfl dX12_readsClause_166 ?_
              refine mt_41 b7 dX12_readsClause_169 ?_
              refine r_aload_n 2 dX12_readsClause_170 rfl rfl ?_
              refine r_aload_n 2 dX12_readsClause_171 rfl rfl ?_
              refine mg_36 rfl dX12_readsClause_172 ?_
              refine r_iconst_1 dX12_readsClause_175 ?_
              refine r_iadd dX12_readsClause_176 ?_
              refine mq_36 rfl dX12_readsClause_177 ?_
              refine r_iconst_1 dX12_readsClause_180 ?_
              exact r_zret1 dX12_readsClause_181 rfl (Nat.le_refl _) (Nat.le_refl _) ⟨_, _, rfl, rfl, h⟩
            · have h := h.2 c19
              refine r_iconst_0 dX12_readsClause_127 ?_
              exact r_zret0 dX12_readsClause_128 rfl (Nat.le_refl _) (Nat.le_refl _) ⟨_, _, rfl, rfl, h⟩
      · have h := h.2 c6
        refine r_iconst_0 dX12_readsClause_62 ?_
        exact r_zret0 dX12_readsClause_63 rfl (Nat.le_refl _) (Nat.le_refl _) ⟨_, _, rfl, rfl, h⟩
    · have h := h.2 c3
      refine r_aload_n 1 dX12_readsClause_31 rfl rfl ?_
      refine r_iconst_4 dX12_readsClause_32 ?_
      refine r_aload_n 1 dX12_readsClause_33 rfl rfl ?_
      refine mg_29 rfl dX12_readsClause_34 ?_
      refine K_wrong rfl (Nat.le_of_ble_eq_true rfl) dX12_readsClause_37 (mB h (fun r20 S21 h => ?_))
      exact r_zret dX12_readsClause_40 rfl (Nat.le_refl _) (Nat.le_refl _) ⟨_, _, rfl, rfl, h⟩
  · have h := h.2 c2
    refine r_aload_n 1 dX12_readsClause_12 rfl rfl ?_
    refine r_iconst_1 dX12_readsClause_13 ?_
    refine r_aload_n 1 dX12_readsClause_14 rfl rfl ?_
    refine mg_29 rfl dX12_readsClause_15 ?_
    refine K_wrong rfl (Nat.le_of_ble_eq_true rfl) dX12_readsClause_18 (mB h (fun r22 S23 h => ?_))
    exact r_zret dX12_readsClause_21 rfl (Nat.le_refl _) (Nat.le_refl _) ⟨_, _, rfl, rfl, h⟩
abbrev T_rules_74 (E : EvT) (q : Nat → Nat) (D : Nat) (P : Int32 → StM → Prop) (S : StM) (y1 : Int32) (y2 : Int32) (y4 : Int32) : Prop := RM E q iM_rules D (qI E q P) S [(0, .ref (q 0)), (1, .int (y1)), (2, .int (y2)), (4, .int (y4))] [] 74
abbrev T_rules_167 (E : EvT) (q : Nat → Nat) (D : Nat) (P : Int32 → StM → Prop) (S : StM) (y5 : Int32) : Prop := RM E q iM_rules D (qI E q P) S [(0, .ref (q 0)), (5, .int (y5))] [] 167
abbrev T_rules_208 (E : EvT) (q : Nat → Nat) (D : Nat) (P : Int32 → StM → Prop) (S : StM) (y5 : Int32) : Prop := RM E q iM_rules D (qI E q P) S [(0, .ref (q 0)), (5, .int (y5))] [] 208
set_option maxRecDepth 20000 in
theorem en_rules {E : EvT} {q : Nat → Nat} {d : Nat} {x1 : Int32} {x2 : Int32} {x3 : Int32} {S : StM} {P : Int32 → StM → Prop} (h : ((mWeek x1) = false → (P (-1) S)) ∧ ((mWeek x1) = true → (((mIn x2 x1 9999) = false → (P (-1) S)) ∧ ((mIn x2 x1 9999) = true → (((mIn x3 1 160) = false → (P (-1) S)) ∧ ((mIn x3 1 160) = true → (((s_taped S) < x3 → (P (-1) S)) ∧ (¬ (s_taped S) < x3 → ((¬ (s_ruleMany0 S) = 20 → (C_readsClause E q (d + 7) (sI (sI (sI (sI S 29 0) 30 x3) 34 0) 36 0) (fun r6 S7 => T_rules_74 E q (d + 8) P S7 x1 x2 (b2i r6)))) ∧ ((s_ruleMany0 S) = 20 → (P (-1) S))))))))))) : C_rules E q (d + 8) x1 x2 x3 S P := by
  refine Cn.of rfl (Nat.le_of_ble_eq_true rfl) (ls := [(0, .ref (q 0)), (1, .int (x1)), (2, .int (x2)), (3, .int (x3))]) rfl ?_
  refine r_iload_n 1 dX12_rules_0 rfl rfl ?_
  refine KP_isWeek (d := d + 7)  rfl (Nat.le_of_ble_eq_true rfl) dX12_rules_1 ?_
  refine r_if_eqb (tgt := 46) dX12_rules_4 (by decide) (fun c1 => ?_) (fun c1 => ?_)
  · have h := h.1 c1
    refine r_iconst_m1 dX12_rules_46 ?_
    exact r_iret dX12_rules_47 rfl (Nat.le_refl _) (Nat.le_refl _) ⟨_, _, rfl, rfl, h⟩
  · have h := h.2 c1
    refine r_iload_n 2 dX12_rules_7 rfl rfl ?_
    refine r_iload_n 1 dX12_rules_8 rfl rfl ?_
    refine r_sipush_9999 dX12_rules_9 ?_
    refine KP_in (d := d + 7)  rfl (Nat.le_of_ble_eq_true rfl) dX12_rules_12 ?_
    refine r_if_eqb (tgt := 46) dX12_rules_15 (by decide) (fun c2 => ?_) (fun c2 => ?_)
    · have h := h.1 c2
      refine r_iconst_m1 dX12_rules_46 ?_
      exact r_iret dX12_rules_47 rfl (Nat.le_refl _) (Nat.le_refl _) ⟨_, _, rfl, rfl, h⟩
    · have h := h.2 c2
      refine r_iload_n 3 dX12_rules_18 rfl rfl ?_
      refine r_iconst_1 dX12_rules_19 ?_
      refine r_sipush_160 dX12_rules_20 ?_
      refine KP_in (d := d + 7)  rfl (Nat.le_of_ble_eq_true rfl) dX12_rules_23 ?_
      refine r_if_eqb (tgt := 46) dX12_rules_26 (by decide) (fun c3 => ?_) (fun c3 => ?_)
      · have h := h.1 c3
        refine r_iconst_m1 dX12_rules_46 ?_
        exact r_iret dX12_rules_47 rfl (Nat.le_refl _) (Nat.le_refl _) ⟨_, _, rfl, rfl, h⟩
      · have h := h.2 c3
        refine r_iload_n 3 dX12_rules_29 rfl rfl ?_
        refine r_aload_n 0 dX12_rules_30 rfl rfl ?_
        refine mg_28 rfl dX12_rules_31 ?_
        refine r_icmp_gt (tgt := 46) dX12_rules_34 (by decide) (fun c4 => ?_) (fun c4 => ?_)
        · have h := h.1 c4
          refine r_iconst_m1 dX12_rules_46 ?_
          exact r_iret dX12_rules_47 rfl (Nat.le_refl _) (Nat.le_refl _) ⟨_, _, rfl, rfl, h⟩
        · have h := h.2 c4
          refine r_aload_n 0 dX12_rules_37 rfl rfl ?_
          refine mg_44 rfl dX12_rules_38 ?_
          refine r_bipush_20 dX12_rules_41 ?_
          refine r_icmp_ne (tgt := 48) dX12_rules_43 (by decide) (fun c5 => ?_) (fun c5 => ?_)
          · have h := h.1 c5
            refine r_aload_n 0 dX12_rules_48 rfl rfl ?_
            refine r_iconst_0 dX12_rules_49 ?_
            refine mq_29 rfl dX12_rules_50 ?_
            refine r_aload_n 0 dX12_rules_53 rfl rfl ?_
            refine r_iload_n 3 dX12_rules_54 rfl rfl ?_
            refine mq_30 rfl dX12_rules_55 ?_
            refine r_aload_n 0 dX12_rules_58 rfl rfl ?_
            refine r_iconst_0 dX12_rules_59 ?_
            refine mq_34 rfl dX12_rules_60 ?_
            refine r_aload_n 0 dX12_rules_63 rfl rfl ?_
            refine r_iconst_0 dX12_rules_64 ?_
            refine mq_36 rfl dX12_rules_65 ?_
            refine r_aload_n 0 dX12_rules_68 rfl rfl ?_
            refine K_readsClause rfl (Nat.le_of_ble_eq_true rfl) dX12_rules_69 (mB h (fun r6 S7 h => ?_))
            refine r_istore [(4, .int (b2i r6)), (0, .ref (q 0)), (1, .int (x1)), (2, .int (x2)), (3, .int (x3))] dX12_rules_72 (Nat.le_of_ble_eq_true rfl) rfl ?_
            refine r_ls [1, 2, 3, 0] (ls2 := [(0, .ref (q 0)), (1, .int (x1)), (2, .int (x2)), (4, .int (b2i r6))]) rfl ?_
            exact h
          · have h := h.2 c5
            refine r_iconst_m1 dX12_rules_46 ?_
            exact r_iret dX12_rules_47 rfl (Nat.le_refl _) (Nat.le_refl _) ⟨_, _, rfl, rfl, h⟩
set_option maxRecDepth 20000 in
theorem sg_rules_74 {E : EvT} {q : Nat → Nat} {d : Nat} {S : StM} {P : Int32 → StM → Prop} {y1 : Int32} {y2 : Int32} {y4 : Int32} (h : (y4 = 0 → ((¬ y4 = 0 → ((0 ≤ (s_ruleMany0 S) ∧ (s_ruleMany0 S) < 20) ∧ (T_rules_167 E q (d + 8) P (sA (sA (sA (sI S 28 0) 46 (upd (a_ruleFrom S) (ix (s_ruleMany0 S)) y1)) 47 (upd (a_ruleTo S) (ix (s_ruleMany0 S)) y2)) 48 (upd (a_clauseMany S) (ix (s_ruleMany0 S)) (s_saidClauses S))) 0))) ∧ (y4 = 0 → (P (s_fault S) (sI S 28 0))))) ∧ (¬ y4 = 0 → (((s_length0 S) ≤ (s_place0 S) → ((¬ y4 = 0 → ((0 ≤ (s_ruleMany0 S) ∧ (s_ruleMany0 S) < 20) ∧ (T_rules_167 E q (d + 8) P (sA (sA (sA (sI S 28 0) 46 (upd (a_ruleFrom S) (ix (s_ruleMany0 S)) y1)) 47 (upd (a_ruleTo S) (ix (s_ruleMany0 S)) y2)) 48 (upd (a_clauseMany S) (ix (s_ruleMany0 S)) (s_saidClauses S))) 0))) ∧ (y4 = 0 → (P (s_fault S) (sI S 28 0))))) ∧ (¬ (s_length0 S) ≤ (s_place0 S) → (C_takes E q (d + 7) 59 S (fun r7 S8 => (r7 = false → (T_rules_74 E q (d + 8) P S8 y1 y2 0)) ∧ (r7 = true → (C_readsClause E q (d + 7) S8 (fun r10 S11 => (r10 = false → (T_rules_74 E q (d + 8) P S11 y1 y2 0)) ∧ (r10 = true → (T_rules_74 E q (d + 8) P S11 y1 y2 1))))))))))) : T_rules_74 E q (d + 8) P S y1 y2 y4 := by
  refine r_iload 3 dX12_rules_74 rfl ?_
  refine r_if_eq (tgt := 116) dX12_rules_76 (by decide) (fun c1 => ?_) (fun c1 => ?_)
  · have h := h.1 c1
    refine r_aload_n 0 dX12_rules_116 rfl rfl ?_
    refine r_iconst_0 dX12_rules_117 ?_
    refine mq_28 rfl dX12_rules_118 ?_
    refine r_iload 3 dX12_rules_121 rfl ?_
    refine r_if_ne (tgt := 131) dX12_rules_123 (by decide) (fun c2 => ?_) (fun c2 => ?_)
    · have h := h.1 c2
      refine r_aload_n 0 dX12_rules_131 rfl rfl ?_
      refine mg_46 rfl dX12_rules_132 ?_
      refine r_aload_n 0 dX12_rules_135 rfl rfl ?_
      refine mg_44 rfl dX12_rules_136 ?_
      refine r_iload_n 1 dX12_rules_139 rfl rfl ?_
      obtain ⟨b3, h⟩ := h
      refine mt_46 b3 dX12_rules_140 ?_
      refine r_aload_n 0 dX12_rules_141 rfl rfl ?_
      refine mg_47 rfl dX12_rules_142 ?_
      refine r_aload_n 0 dX12_rules_145 rfl rfl ?_
      refine mg_44 rfl dX12_rules_146 ?_
      refine r_iload_n 2 dX12_rules_149 rfl rfl ?_
      refine mt_47 b3 dX12_rules_150 ?_
      refine r_aload_n 0 dX12_rules_151 rfl rfl ?_
      refine mg_48 rfl dX12_rules_152 ?_
      refine r_aload_n 0 dX12_rules_155 rfl rfl ?_
      refine mg_44 rfl dX12_rules_156 ?_
      refine r_aload_n 0 dX12_rules_159 rfl rfl ?_
      refine mg_36 rfl dX12_rules_160 ?_
      refine mt_48 b3 dX12_rules_163 ?_
      refine r_iconst_0 dX12_rules_164 ?_
      refine r_istore [(5, .int (0)), (0, .ref (q 0)), (1, .int (y1)), (2, .int (y2)), (4, .int (y4))] dX12_rules_165 (Nat.le_of_ble_eq_true rfl) rfl ?_
      refine r_ls [1, 0] (ls2 := [(0, .ref (q 0)), (5, .int (0))]) rfl ?_
      exact h
    · have h := h.2 c2
      refine r_aload_n 0 dX12_rules_126 rfl rfl ?_
      refine mg_31 rfl dX12_rules_127 ?_
      exact r_iret dX12_rules_130 rfl (Nat.le_refl _) (Nat.le_refl _) ⟨_, _, rfl, rfl, h⟩
  · have h := h.2 c1
    refine r_aload_n 0 dX12_rules_79 rfl rfl ?_
    refine mg_29 rfl dX12_rules_80 ?_
    refine r_aload_n 0 dX12_rules_83 rfl rfl ?_
    refine mg_30 rfl dX12_rules_84 ?_
    refine r_icmp_ge (tgt := 116) dX12_rules_87 (by decide) (fun c4 => ?_) (fun c4 => ?_)
    · have h := h.1 c4
      refine r_aload_n 0 dX12_rules_116 rfl rfl ?_
      refine r_iconst_0 dX12_rules_117 ?_
      refine mq_28 rfl dX12_rules_118 ?_
      refine r_iload 3 dX12_rules_121 rfl ?_
      refine r_if_ne (tgt := 131) dX12_rules_123 (by decide) (fun c5 => ?_) (fun c5 => ?_)
      · have h := h.1 c5
        refine r_aload_n 0 dX12_rules_131 rfl rfl ?_
        refine mg_46 rfl dX12_rules_132 ?_
        refine r_aload_n 0 dX12_rules_135 rfl rfl ?_
        refine mg_44 rfl dX12_rules_136 ?_
        refine r_iload_n 1 dX12_rules_139 rfl rfl ?_
        obtain ⟨b6, h⟩ := h
        refine mt_46 b6 dX12_rules_140 ?_
        refine r_aload_n 0 dX12_rules_141 rfl rfl ?_
        refine mg_47 rfl dX12_rules_142 ?_
        refine r_aload_n 0 dX12_rules_145 rfl rfl ?_
        refine mg_44 rfl dX12_rules_146 ?_
        refine r_iload_n 2 dX12_rules_149 rfl rfl ?_
        refine mt_47 b6 dX12_rules_150 ?_
        refine r_aload_n 0 dX12_rules_151 rfl rfl ?_
        refine mg_48 rfl dX12_rules_152 ?_
        refine r_aload_n 0 dX12_rules_155 rfl rfl ?_
        refine mg_44 rfl dX12_rules_156 ?_
        refine r_aload_n 0 dX12_rules_159 rfl rfl ?_
        refine mg_36 rfl dX12_rules_160 ?_
        refine mt_48 b6 dX12_rules_163 ?_
        refine r_iconst_0 dX12_rules_164 ?_
        refine r_istore [(5, .int (0)), (0, .ref (q 0)), (1, .int (y1)), (2, .int (y2)), (4, .int (y4))] dX12_rules_165 (Nat.le_of_ble_eq_true rfl) rfl ?_
        refine r_ls [1, 0] (ls2 := [(0, .ref (q 0)), (5, .int (0))]) rfl ?_
        exact h
      · have h := h.2 c5
        refine r_aload_n 0 dX12_rules_126 rfl rfl ?_
        refine mg_31 rfl dX12_rules_127 ?_
        exact r_iret dX12_rules_130 rfl (Nat.le_refl _) (Nat.le_refl _) ⟨_, _, rfl, rfl, h⟩
    · have h := h.2 c4
      refine r_aload_n 0 dX12_rules_90 rfl rfl ?_
      refine r_bipush_59 dX12_rules_91 ?_
      refine K_takes rfl (Nat.le_of_ble_eq_true rfl) dX12_rules_93 (mB h (fun r7 S8 h => ?_))
      refine r_if_eqb (tgt := 110) dX12_rules_96 (by decide) (fun c9 => ?_) (fun c9 => ?_)
      · have h := h.1 c9
        refine r_iconst_0 dX12_rules_110 ?_
        refine r_istore [(4, .int (0)), (0, .ref (q 0)), (1, .int (y1)), (2, .int (y2))] dX12_rules_111 (Nat.le_of_ble_eq_true rfl) rfl ?_
        refine r_goto (tgt := 74) dX12_rules_113 (by decide) ?_
        refine r_ls [1, 2, 3, 0] (ls2 := [(0, .ref (q 0)), (1, .int (y1)), (2, .int (y2)), (4, .int (0))]) rfl ?_
        exact h
      · have h := h.2 c9
        refine r_aload_n 0 dX12_rules_99 rfl rfl ?_
        refine K_readsClause rfl (Nat.le_of_ble_eq_true rfl) dX12_rules_100 (mB h (fun r10 S11 h => ?_))
        refine r_if_eqb (tgt := 110) dX12_rules_103 (by decide) (fun c12 => ?_) (fun c12 => ?_)
        · have h := h.1 c12
          refine r_iconst_0 dX12_rules_110 ?_
          refine r_istore [(4, .int (0)), (0, .ref (q 0)), (1, .int (y1)), (2, .int (y2))] dX12_rules_111 (Nat.le_of_ble_eq_true rfl) rfl ?_
          refine r_goto (tgt := 74) dX12_rules_113 (by decide) ?_
          refine r_ls [1, 2, 3, 0] (ls2 := [(0, .ref (q 0)), (1, .int (y1)), (2, .int (y2)), (4, .int (0))]) rfl ?_
          exact h
        · have h := h.2 c12
          refine r_iconst_1 dX12_rules_106 ?_
          refine r_goto (tgt := 111) dX12_rules_107 (by decide) ?_
          refine r_istore [(4, .int (1)), (0, .ref (q 0)), (1, .int (y1)), (2, .int (y2))] dX12_rules_111 (Nat.le_of_ble_eq_true rfl) rfl ?_
          refine r_goto (tgt := 74) dX12_rules_113 (by decide) ?_
          refine r_ls [1, 2, 3, 0] (ls2 := [(0, .ref (q 0)), (1, .int (y1)), (2, .int (y2)), (4, .int (1))]) rfl ?_
          exact h
set_option maxRecDepth 20000 in
theorem sg_rules_167 {E : EvT} {q : Nat → Nat} {d : Nat} {S : StM} {P : Int32 → StM → Prop} {y5 : Int32} (h : ((s_codeMany S) ≤ y5 → (T_rules_208 E q (d + 8) P S 0)) ∧ (¬ (s_codeMany S) ≤ y5 → ((0 ≤ y5 ∧ y5 < 180) ∧ ((0 ≤ ((180 * (s_ruleMany0 S)) + y5) ∧ ((180 * (s_ruleMany0 S)) + y5) < 3600) ∧ (T_rules_167 E q (d + 8) P (sA S 45 (upd (a_codes S) (ix ((180 * (s_ruleMany0 S)) + y5)) (a_said S (ix y5)))) (y5 + 1)))))) : T_rules_167 E q (d + 8) P S y5 := by
  refine r_iload 1 dX12_rules_167 rfl ?_
  refine r_aload_n 0 dX12_rules_169 rfl rfl ?_
  refine mg_34 rfl dX12_rules_170 ?_
  refine r_icmp_ge (tgt := 205) dX12_rules_173 (by decide) (fun c1 => ?_) (fun c1 => ?_)
  · have h := h.1 c1
    refine r_iconst_0 dX12_rules_205 ?_
    refine r_istore [(5, .int (0)), (0, .ref (q 0))] dX12_rules_206 (Nat.le_of_ble_eq_true rfl) rfl ?_
    refine r_ls [1, 0] (ls2 := [(0, .ref (q 0)), (5, .int (0))]) rfl ?_
    exact h
  · have h := h.2 c1
    refine r_aload_n 0 dX12_rules_176 rfl rfl ?_
    refine mg_45 rfl dX12_rules_177 ?_
    refine r_sipush_180 dX12_rules_180 ?_
    refine r_aload_n 0 dX12_rules_183 rfl rfl ?_
    refine mg_44 rfl dX12_rules_184 ?_
    refine r_imul dX12_rules_187 ?_
    refine r_iload 1 dX12_rules_188 rfl ?_
    refine r_iadd dX12_rules_190 ?_
    refine r_aload_n 0 dX12_rules_191 rfl rfl ?_
    refine mg_37 rfl dX12_rules_192 ?_
    refine r_iload 1 dX12_rules_195 rfl ?_
    obtain ⟨b2, h⟩ := h
    refine ml_37 b2 dX12_rules_197 ?_
    obtain ⟨b3, h⟩ := h
    refine mt_45 b3 dX12_rules_198 ?_
    refine r_iinc 1 [(5, .int (y5 + 1)), (0, .ref (q 0))] dX12_rules_199 rfl rfl (Nat.le_of_ble_eq_true rfl) rfl ?_
    refine r_goto (tgt := 167) dX12_rules_202 (by decide) ?_
    refine r_ls [1, 0] (ls2 := [(0, .ref (q 0)), (5, .int (y5 + 1))]) rfl ?_
    exact h
set_option maxRecDepth 20000 in
theorem sg_rules_208 {E : EvT} {q : Nat → Nat} {d : Nat} {S : StM} {P : Int32 → StM → Prop} {y5 : Int32} (h : ((s_saidClauses S) ≤ y5 → (P (((s_ruleMany0 S) + 1) - 1) (sI S 44 ((s_ruleMany0 S) + 1)))) ∧ (¬ (s_saidClauses S) ≤ y5 → ((0 ≤ y5 ∧ y5 < 10) ∧ ((0 ≤ ((10 * (s_ruleMany0 S)) + y5) ∧ ((10 * (s_ruleMany0 S)) + y5) < 200) ∧ (T_rules_208 E q (d + 8) P (sA (sA (sA (sA (sA S 49 (upd (a_letterOf S) (ix ((10 * (s_ruleMany0 S)) + y5)) (a_saidLetter S (ix y5)))) 52 (upd (a_nOf S) (ix ((10 * (s_ruleMany0 S)) + y5)) (a_saidN S (ix y5)))) 53 (upd (a_jOf S) (ix ((10 * (s_ruleMany0 S)) + y5)) (a_saidJ S (ix y5)))) 50 (upd (a_codeFrom S) (ix ((10 * (s_ruleMany0 S)) + y5)) ((180 * (s_ruleMany0 S)) + (a_saidFrom S (ix y5))))) 51 (upd (a_codeTo S) (ix ((10 * (s_ruleMany0 S)) + y5)) ((180 * (s_ruleMany0 S)) + (a_saidTo S (ix y5))))) (y5 + 1)))))) : T_rules_208 E q (d + 8) P S y5 := by
  refine r_iload 1 dX12_rules_208 rfl ?_
  refine r_aload_n 0 dX12_rules_210 rfl rfl ?_
  refine mg_36 rfl dX12_rules_211 ?_
  refine r_icmp_ge (tgt := 323) dX12_rules_214 (by decide) (fun c1 => ?_) (fun c1 => ?_)
  · have h := h.1 c1
    refine r_aload_n 0 dX12_rules_323 rfl rfl ?_
    refine r_aload_n 0 dX12_rules_324 rfl rfl ?_
    refine mg_44 rfl dX12_rules_325 ?_
    refine r_iconst_1 dX12_rules_328 ?_
    refine r_iadd dX12_rules_329 ?_
    refine mq_44 rfl dX12_rules_330 ?_
    refine r_aload_n 0 dX12_rules_333 rfl rfl ?_
    refine mg_44 rfl dX12_rules_334 ?_
    refine r_iconst_1 dX12_rules_337 ?_
    refine r_isub dX12_rules_338 ?_
    exact r_iret dX12_rules_339 rfl (Nat.le_refl _) (Nat.le_refl _) ⟨_, _, rfl, rfl, h⟩
  · have h := h.2 c1
    refine r_bipush_10 dX12_rules_217 ?_
    refine r_aload_n 0 dX12_rules_219 rfl rfl ?_
    refine mg_44 rfl dX12_rules_220 ?_
    refine r_imul dX12_rules_223 ?_
    refine r_iload 1 dX12_rules_224 rfl ?_
    refine r_iadd dX12_rules_226 ?_
    refine r_istore [(6, .int ((10 * (s_ruleMany0 S)) + y5)), (0, .ref (q 0)), (5, .int (y5))] dX12_rules_227 (Nat.le_of_ble_eq_true rfl) rfl ?_
    refine r_aload_n 1 dX12_rules_229 rfl rfl ?_
    refine mg_49 rfl dX12_rules_230 ?_
    refine r_iload 0 dX12_rules_233 rfl ?_
    refine r_aload_n 1 dX12_rules_235 rfl rfl ?_
    refine mg_39 rfl dX12_rules_236 ?_
    refine r_iload 2 dX12_rules_239 rfl ?_
    obtain ⟨b2, h⟩ := h
    refine ml_39 b2 dX12_rules_241 ?_
    obtain ⟨b3, h⟩ := h
    refine mt_49 b3 dX12_rules_242 ?_
    refine r_aload_n 1 dX12_rules_243 rfl rfl ?_
    refine mg_52 rfl dX12_rules_244 ?_
    refine r_iload 0 dX12_rules_247 rfl ?_
    refine r_aload_n 1 dX12_rules_249 rfl rfl ?_
    refine mg_42 rfl dX12_rules_250 ?_
    refine r_iload 2 dX12_rules_253 rfl ?_
    refine ml_42 b2 dX12_rules_255 ?_
    refine mt_52 b3 dX12_rules_256 ?_
    refine r_aload_n 1 dX12_rules_257 rfl rfl ?_
    refine mg_53 rfl dX12_rules_258 ?_
    refine r_iload 0 dX12_rules_261 rfl ?_
    refine r_aload_n 1 dX12_rules_263 rfl rfl ?_
    refine mg_43 rfl dX12_rules_264 ?_
    refine r_iload 2 dX12_rules_267 rfl ?_
    refine ml_43 b2 dX12_rules_269 ?_
    refine mt_53 b3 dX12_rules_270 ?_
    refine r_aload_n 1 dX12_rules_271 rfl rfl ?_
    refine mg_50 rfl dX12_rules_272 ?_
    refine r_iload 0 dX12_rules_275 rfl ?_
    refine r_sipush_180 dX12_rules_277 ?_
    refine r_aload_n 1 dX12_rules_280 rfl rfl ?_
    refine mg_44 rfl dX12_rules_281 ?_
    refine r_imul dX12_rules_284 ?_
    refine r_aload_n 1 dX12_rules_285 rfl rfl ?_
    refine mg_40 rfl dX12_rules_286 ?_
    refine r_iload 2 dX12_rules_289 rfl ?_
    refine ml_40 b2 dX12_rules_291 ?_
    refine r_iadd dX12_rules_292 ?_
    refine mt_50 b3 dX12_rules_293 ?_
    refine r_aload_n 1 dX12_rules_294 rfl rfl ?_
    refine mg_51 rfl dX12_rules_295 ?_
    refine r_iload 0 dX12_rules_298 rfl ?_
    refine r_sipush_180 dX12_rules_300 ?_
    refine r_aload_n 1 dX12_rules_303 rfl rfl ?_
    refine mg_44 rfl dX12_rules_304 ?_
    refine r_imul dX12_rules_307 ?_
    refine r_aload_n 1 dX12_rules_308 rfl rfl ?_
    refine mg_41 rfl dX12_rules_309 ?_
    refine r_iload 2 dX12_rules_312 rfl ?_
    refine ml_41 b2 dX12_rules_314 ?_
    refine r_iadd dX12_rules_315 ?_
    refine mt_51 b3 dX12_rules_316 ?_
    refine r_iinc 2 [(5, .int (y5 + 1)), (6, .int ((10 * (s_ruleMany0 S)) + y5)), (0, .ref (q 0))] dX12_rules_317 rfl rfl (Nat.le_of_ble_eq_true rfl) rfl ?_
    refine r_goto (tgt := 208) dX12_rules_320 (by decide) ?_
    refine r_ls [2, 0] (ls2 := [(0, .ref (q 0)), (5, .int (y5 + 1))]) rfl ?_
    exact h
abbrev T_strikes_2 (E : EvT) (q : Nat → Nat) (D : Nat) (P : StM → Prop) (S : StM) (y1 : Int32) (y2 : Int32) : Prop := RM E q iM_strikes D (qV E q P) S [(0, .ref (q 0)), (1, .int (y1)), (2, .int (y2))] [] 2
abbrev T_strikes_33 (E : EvT) (q : Nat → Nat) (D : Nat) (P : StM → Prop) (S : StM) (y1 : Int32) (y2 : Int32) : Prop := RM E q iM_strikes D (qV E q P) S [(0, .ref (q 0)), (1, .int (y1)), (2, .int (y2))] [] 33
abbrev T_strikes_39 (E : EvT) (q : Nat → Nat) (D : Nat) (P : StM → Prop) (S : StM) (y1 : Int32) (y2 : Int32) (y3 : Int32) : Prop := RM E q iM_strikes D (qV E q P) S [(0, .ref (q 0)), (1, .int (y1)), (2, .int (y2)), (3, .int (y3))] [] 39
set_option maxRecDepth 20000 in
theorem en_strikes {E : EvT} {q : Nat → Nat} {d : Nat} {x1 : Int32} {S : StM} {P : StM → Prop} (h : T_strikes_2 E q (d + 2) P S x1 0) : C_strikes E q (d + 2) x1 S P := by
  refine Cn.of rfl (Nat.le_of_ble_eq_true rfl) (ls := [(0, .ref (q 0)), (1, .int (x1))]) rfl ?_
  refine r_iconst_0 dX12_strikes_0 ?_
  refine r_istore_n [(2, .int (0)), (0, .ref (q 0)), (1, .int (x1))] dX12_strikes_1 rfl (Nat.le_of_ble_eq_true rfl) rfl ?_
  refine r_ls [1, 2, 0] (ls2 := [(0, .ref (q 0)), (1, .int (x1)), (2, .int (0))]) rfl ?_
  exact h
set_option maxRecDepth 20000 in
theorem sg_strikes_2 {E : EvT} {q : Nat → Nat} {d : Nat} {S : StM} {P : StM → Prop} {y1 : Int32} {y2 : Int32} (h : ((10 * (s_ruleMany0 S)) ≤ y2 → (T_strikes_33 E q (d + 2) P S y1 ((s_ruleMany0 S) - 1))) ∧ (¬ (10 * (s_ruleMany0 S)) ≤ y2 → ((0 ≤ y2 ∧ y2 < 200) ∧ (T_strikes_2 E q (d + 2) P (sA S 54 (upd (a_isStruck S) (ix y2) (vp_nar .boolean 0))) y1 (y2 + 1))))) : T_strikes_2 E q (d + 2) P S y1 y2 := by
  refine r_iload_n 2 dX12_strikes_2 rfl rfl ?_
  refine r_bipush_10 dX12_strikes_3 ?_
  refine r_aload_n 0 dX12_strikes_5 rfl rfl ?_
  refine mg_44 rfl dX12_strikes_6 ?_
  refine r_imul dX12_strikes_9 ?_
  refine r_icmp_ge (tgt := 26) dX12_strikes_10 (by decide) (fun c1 => ?_) (fun c1 => ?_)
  · have h := h.1 c1
    refine r_aload_n 0 dX12_strikes_26 rfl rfl ?_
    refine mg_44 rfl dX12_strikes_27 ?_
    refine r_iconst_1 dX12_strikes_30 ?_
    refine r_isub dX12_strikes_31 ?_
    refine r_istore_n [(2, .int ((s_ruleMany0 S) - 1)), (0, .ref (q 0)), (1, .int (y1))] dX12_strikes_32 rfl (Nat.le_of_ble_eq_true rfl) rfl ?_
    refine r_ls [1, 2, 0] (ls2 := [(0, .ref (q 0)), (1, .int (y1)), (2, .int ((s_ruleMany0 S) - 1))]) rfl ?_
    exact h
  · have h := h.2 c1
    refine r_aload_n 0 dX12_strikes_13 rfl rfl ?_
    refine mg_54 rfl dX12_strikes_14 ?_
    refine r_iload_n 2 dX12_strikes_17 rfl rfl ?_
    refine r_iconst_0 dX12_strikes_18 ?_
    obtain ⟨b2, h⟩ := h
    refine mt_54 b2 dX12_strikes_19 ?_
    refine r_iinc 2 [(2, .int (y2 + 1)), (0, .ref (q 0)), (1, .int (y1))] dX12_strikes_20 rfl rfl (Nat.le_of_ble_eq_true rfl) rfl ?_
    refine r_goto (tgt := 2) dX12_strikes_23 (by decide) ?_
    refine r_ls [1, 2, 0] (ls2 := [(0, .ref (q 0)), (1, .int (y1)), (2, .int (y2 + 1))]) rfl ?_
    exact h
set_option maxRecDepth 20000 in
theorem sg_strikes_33 {E : EvT} {q : Nat → Nat} {d : Nat} {S : StM} {P : StM → Prop} {y1 : Int32} {y2 : Int32} (h : (y2 < 0 → (P S)) ∧ (¬ y2 < 0 → (T_strikes_39 E q (d + 2) P S y1 y2 0))) : T_strikes_33 E q (d + 2) P S y1 y2 := by
  refine r_iload_n 2 dX12_strikes_33 rfl rfl ?_
  refine r_if_lt (tgt := 150) dX12_strikes_34 (by decide) (fun c1 => ?_) (fun c1 => ?_)
  · have h := h.1 c1
    exact r_vret dX12_strikes_150 rfl (Nat.le_refl _) (Nat.le_refl _) ⟨_, rfl, rfl, h⟩
  · have h := h.2 c1
    refine r_iconst_0 dX12_strikes_37 ?_
    refine r_istore_n [(3, .int (0)), (0, .ref (q 0)), (1, .int (y1)), (2, .int (y2))] dX12_strikes_38 rfl (Nat.le_of_ble_eq_true rfl) rfl ?_
    refine r_ls [1, 2, 3, 0] (ls2 := [(0, .ref (q 0)), (1, .int (y1)), (2, .int (y2)), (3, .int (0))]) rfl ?_
    exact h
set_option maxRecDepth 20000 in
theorem sg_strikes_39 {E : EvT} {q : Nat → Nat} {d : Nat} {S : StM} {P : StM → Prop} {y1 : Int32} {y2 : Int32} {y3 : Int32} (h : (0 ≤ y2 ∧ y2 < 20) ∧ (((a_clauseMany S (ix y2)) ≤ y3 → (T_strikes_33 E q (d + 2) P S y1 (y2 + (-1)))) ∧ (¬ (a_clauseMany S (ix y2)) ≤ y3 → ((0 ≤ y2 ∧ y2 < 20) ∧ (((mForce S y2 y1) = false → (T_strikes_33 E q (d + 2) P S y1 (y2 + (-1)))) ∧ ((mForce S y2 y1) = true → ((0 ≤ ((10 * y2) + y3) ∧ ((10 * y2) + y3) < 200) ∧ ((¬ (a_letterOf S (ix ((10 * y2) + y3))) = 120 → (T_strikes_39 E q (d + 2) P S y1 y2 (y3 + 1))) ∧ ((a_letterOf S (ix ((10 * y2) + y3))) = 120 → ((¬ (a_isStruck S (ix ((10 * y2) + y3))) = 0 → (T_strikes_39 E q (d + 2) P S y1 y2 (y3 + 1))) ∧ ((a_isStruck S (ix ((10 * y2) + y3))) = 0 → ((y2 ≤ (a_nOf S (ix ((10 * y2) + y3))) → (T_strikes_39 E q (d + 2) P S y1 y2 (y3 + 1))) ∧ (¬ y2 ≤ (a_nOf S (ix ((10 * y2) + y3))) → ((0 ≤ (a_nOf S (ix ((10 * y2) + y3))) ∧ (a_nOf S (ix ((10 * y2) + y3))) < 20) ∧ (((mForce S (a_nOf S (ix ((10 * y2) + y3))) y1) = false → (T_strikes_39 E q (d + 2) P S y1 y2 (y3 + 1))) ∧ ((mForce S (a_nOf S (ix ((10 * y2) + y3))) y1) = true → ((0 ≤ ((10 * (a_nOf S (ix ((10 * y2) + y3)))) + (a_jOf S (ix ((10 * y2) + y3)))) ∧ ((10 * (a_nOf S (ix ((10 * y2) + y3)))) + (a_jOf S (ix ((10 * y2) + y3)))) < 200) ∧ (T_strikes_39 E q (d + 2) P (sA S 54 (upd (a_isStruck S) (ix ((10 * (a_nOf S (ix ((10 * y2) + y3)))) + (a_jOf S (ix ((10 * y2) + y3))))) (vp_nar .boolean 1))) y1 y2 (y3 + 1))))))))))))))))))) : T_strikes_39 E q (d + 2) P S y1 y2 y3 := by
  refine r_iload_n 3 dX12_strikes_39 rfl rfl ?_
  refine r_aload_n 0 dX12_strikes_40 rfl rfl ?_
  refine mg_48 rfl dX12_strikes_41 ?_
  refine r_iload_n 2 dX12_strikes_44 rfl rfl ?_
  obtain ⟨b1, h⟩ := h
  refine ml_48 b1 dX12_strikes_45 ?_
  refine r_icmp_ge (tgt := 144) dX12_strikes_46 (by decide) (fun c2 => ?_) (fun c2 => ?_)
  · have h := h.1 c2
    refine r_iinc 2 [(2, .int (y2 + (-1))), (0, .ref (q 0)), (1, .int (y1)), (3, .int (y3))] dX12_strikes_144 rfl rfl (Nat.le_of_ble_eq_true rfl) rfl ?_
    refine r_goto (tgt := 33) dX12_strikes_147 (by decide) ?_
    refine r_ls [1, 2, 0] (ls2 := [(0, .ref (q 0)), (1, .int (y1)), (2, .int (y2 + (-1)))]) rfl ?_
    exact h
  · have h := h.2 c2
    refine r_aload_n 0 dX12_strikes_49 rfl rfl ?_
    refine r_iload_n 2 dX12_strikes_50 rfl rfl ?_
    refine r_iload_n 1 dX12_strikes_51 rfl rfl ?_
    obtain ⟨b3, h⟩ := h
    refine KP_isForce (d := d + 0) b3 rfl (Nat.le_of_ble_eq_true rfl) dX12_strikes_52 ?_
    refine r_if_eqb (tgt := 144) dX12_strikes_55 (by decide) (fun c4 => ?_) (fun c4 => ?_)
    · have h := h.1 c4
      refine r_iinc 2 [(2, .int (y2 + (-1))), (0, .ref (q 0)), (1, .int (y1)), (3, .int (y3))] dX12_strikes_144 rfl rfl (Nat.le_of_ble_eq_true rfl) rfl ?_
      refine r_goto (tgt := 33) dX12_strikes_147 (by decide) ?_
      refine r_ls [1, 2, 0] (ls2 := [(0, .ref (q 0)), (1, .int (y1)), (2, .int (y2 + (-1)))]) rfl ?_
      exact h
    · have h := h.2 c4
      refine r_bipush_10 dX12_strikes_58 ?_
      refine r_iload_n 2 dX12_strikes_60 rfl rfl ?_
      refine r_imul dX12_strikes_61 ?_
      refine r_iload_n 3 dX12_strikes_62 rfl rfl ?_
      refine r_iadd dX12_strikes_63 ?_
      refine r_istore [(4, .int ((10 * y2) + y3)), (0, .ref (q 0)), (1, .int (y1)), (2, .int (y2)), (3, .int (y3))] dX12_strikes_64 (Nat.le_of_ble_eq_true rfl) rfl ?_
      refine r_aload_n 1 dX12_strikes_66 rfl rfl ?_
      refine mg_49 rfl dX12_strikes_67 ?_
      refine r_iload 0 dX12_strikes_70 rfl ?_
      obtain ⟨b5, h⟩ := h
      refine ml_49 b5 dX12_strikes_72 ?_
      refine r_bipush_120 dX12_strikes_73 ?_
      refine r_icmp_ne (tgt := 138) dX12_strikes_75 (by decide) (fun c6 => ?_) (fun c6 => ?_)
      · have h := h.1 c6
        refine r_iinc 4 [(3, .int (y3 + 1)), (4, .int ((10 * y2) + y3)), (0, .ref (q 0)), (1, .int (y1)), (2, .int (y2))] dX12_strikes_138 rfl rfl (Nat.le_of_ble_eq_true rfl) rfl ?_
        refine r_goto (tgt := 39) dX12_strikes_141 (by decide) ?_
        refine r_ls [2, 3, 4, 0] (ls2 := [(0, .ref (q 0)), (1, .int (y1)), (2, .int (y2)), (3, .int (y3 + 1))]) rfl ?_
        exact h
      · have h := h.2 c6
        refine r_aload_n 1 dX12_strikes_78 rfl rfl ?_
        refine mg_54 rfl dX12_strikes_79 ?_
        refine r_iload 0 dX12_strikes_82 rfl ?_
        refine ml_54 b5 dX12_strikes_84 ?_
        refine r_if_ne (tgt := 138) dX12_strikes_85 (by decide) (fun c7 => ?_) (fun c7 => ?_)
        · have h := h.1 c7
          refine r_iinc 4 [(3, .int (y3 + 1)), (4, .int ((10 * y2) + y3)), (0, .ref (q 0)), (1, .int (y1)), (2, .int (y2))] dX12_strikes_138 rfl rfl (Nat.le_of_ble_eq_true rfl) rfl ?_
          refine r_goto (tgt := 39) dX12_strikes_141 (by decide) ?_
          refine r_ls [2, 3, 4, 0] (ls2 := [(0, .ref (q 0)), (1, .int (y1)), (2, .int (y2)), (3, .int (y3 + 1))]) rfl ?_
          exact h
        · have h := h.2 c7
          refine r_aload_n 1 dX12_strikes_88 rfl rfl ?_
          refine mg_52 rfl dX12_strikes_89 ?_
          refine r_iload 0 dX12_strikes_92 rfl ?_
          refine ml_52 b5 dX12_strikes_94 ?_
          refine r_iload_n 3 dX12_strikes_95 rfl rfl ?_
          refine r_icmp_ge (tgt := 138) dX12_strikes_96 (by decide) (fun c8 => ?_) (fun c8 => ?_)
          · have h := h.1 c8
            refine r_iinc 4 [(3, .int (y3 + 1)), (4, .int ((10 * y2) + y3)), (0, .ref (q 0)), (1, .int (y1)), (2, .int (y2))] dX12_strikes_138 rfl rfl (Nat.le_of_ble_eq_true rfl) rfl ?_
            refine r_goto (tgt := 39) dX12_strikes_141 (by decide) ?_
            refine r_ls [2, 3, 4, 0] (ls2 := [(0, .ref (q 0)), (1, .int (y1)), (2, .int (y2)), (3, .int (y3 + 1))]) rfl ?_
            exact h
          · have h := h.2 c8
            refine r_aload_n 1 dX12_strikes_99 rfl rfl ?_
            refine r_aload_n 1 dX12_strikes_100 rfl rfl ?_
            refine mg_52 rfl dX12_strikes_101 ?_
            refine r_iload 0 dX12_strikes_104 rfl ?_
            refine ml_52 b5 dX12_strikes_106 ?_
            refine r_iload_n 2 dX12_strikes_107 rfl rfl ?_
            obtain ⟨b9, h⟩ := h
            refine KP_isForce (d := d + 0) b9 rfl (Nat.le_of_ble_eq_true rfl) dX12_strikes_108 ?_
            refine r_if_eqb (tgt := 138) dX12_strikes_111 (by decide) (fun c10 => ?_) (fun c10 => ?_)
            · have h := h.1 c10
              refine r_iinc 4 [(3, .int (y3 + 1)), (4, .int ((10 * y2) + y3)), (0, .ref (q 0)), (1, .int (y1)), (2, .int (y2))] dX12_strikes_138 rfl rfl (Nat.le_of_ble_eq_true rfl) rfl ?_
              refine r_goto (tgt := 39) dX12_strikes_141 (by decide) ?_
              refine r_ls [2, 3, 4, 0] (ls2 := [(0, .ref (q 0)), (1, .int (y1)), (2, .int (y2)), (3, .int (y3 + 1))]) rfl ?_
              exact h
            · have h := h.2 c10
              refine r_aload_n 1 dX12_strikes_114 rfl rfl ?_
              refine mg_54 rfl dX12_strikes_115 ?_
              refine r_bipush_10 dX12_strikes_118 ?_
              refine r_aload_n 1 dX12_strikes_120 rfl rfl ?_
              refine mg_52 rfl dX12_strikes_121 ?_
              refine r_iload 0 dX12_strikes_124 rfl ?_
              refine ml_52 b5 dX12_strikes_126 ?_
              refine r_imul dX12_strikes_127 ?_
              refine r_aload_n 1 dX12_strikes_128 rfl rfl ?_
              refine mg_53 rfl dX12_strikes_129 ?_
              refine r_iload 0 dX12_strikes_132 rfl ?_
              refine ml_53 b5 dX12_strikes_134 ?_
              refine r_iadd dX12_strikes_135 ?_
              refine r_iconst_1 dX12_strikes_136 ?_
              obtain ⟨b11, h⟩ := h
              refine mt_54 b11 dX12_strikes_137 ?_
              refine r_iinc 4 [(3, .int (y3 + 1)), (4, .int ((10 * y2) + y3)), (0, .ref (q 0)), (1, .int (y1)), (2, .int (y2))] dX12_strikes_138 rfl rfl (Nat.le_of_ble_eq_true rfl) rfl ?_
              refine r_goto (tgt := 39) dX12_strikes_141 (by decide) ?_
              refine r_ls [2, 3, 4, 0] (ls2 := [(0, .ref (q 0)), (1, .int (y1)), (2, .int (y2)), (3, .int (y3 + 1))]) rfl ?_
              exact h
abbrev T_isTrue_19 (E : EvT) (q : Nat → Nat) (D : Nat) (P : Bool → StM → Prop) (S : StM) (y1 : Int32) (y2 : Int32) (y3 : Int32) (y4 : Int32) : Prop := RM E q iM_isTrue D (qB E q P) S [(0, .ref (q 0)), (1, .int (y1)), (2, .int (y2)), (3, .int (y3)), (4, .int (y4))] [] 19
set_option maxRecDepth 20000 in
theorem en_isTrue {E : EvT} {q : Nat → Nat} {d : Nat} {x1 : Int32} {S : StM} {P : Bool → StM → Prop} (h : (0 ≤ x1 ∧ x1 < 200) ∧ (T_isTrue_19 E q (d + 1) P S x1 0 (180 * (x1 / 10)) (a_codeFrom S (ix x1)))) : C_isTrue E q (d + 1) x1 S P := by
  refine Cn.of rfl (Nat.le_of_ble_eq_true rfl) (ls := [(0, .ref (q 0)), (1, .int (x1))]) rfl ?_
  refine r_iconst_0 dX12_isTrue_0 ?_
  refine r_istore_n [(2, .int (0)), (0, .ref (q 0)), (1, .int (x1))] dX12_isTrue_1 rfl (Nat.le_of_ble_eq_true rfl) rfl ?_
  refine r_sipush_180 dX12_isTrue_2 ?_
  refine r_iload_n 2 dX12_isTrue_5 rfl rfl ?_
  refine r_bipush_10 dX12_isTrue_6 ?_
  refine r_idiv dX12_isTrue_8 (by decide) ?_
  refine r_imul dX12_isTrue_9 ?_
  refine r_istore_n [(3, .int (180 * (x1 / 10))), (2, .int (0)), (0, .ref (q 0)), (1, .int (x1))] dX12_isTrue_10 rfl (Nat.le_of_ble_eq_true rfl) rfl ?_
  refine r_aload_n 2 dX12_isTrue_11 rfl rfl ?_
  refine mg_50 rfl dX12_isTrue_12 ?_
  refine r_iload_n 3 dX12_isTrue_15 rfl rfl ?_
  obtain ⟨b1, h⟩ := h
  refine ml_50 b1 dX12_isTrue_16 ?_
  refine r_istore [(4, .int (a_codeFrom S (ix x1))), (3, .int (180 * (x1 / 10))), (2, .int (0)), (0, .ref (q 0)), (1, .int (x1))] dX12_isTrue_17 (Nat.le_of_ble_eq_true rfl) rfl ?_
  refine r_ls [3, 4, 2, 1, 0] (ls2 := [(0, .ref (q 0)), (1, .int (x1)), (2, .int (0)), (3, .int (180 * (x1 / 10))), (4, .int (a_codeFrom S (ix x1)))]) rfl ?_
  exact h
set_option maxRecDepth 20000 in
theorem sg_isTrue_19 {E : EvT} {q : Nat → Nat} {d : Nat} {S : StM} {P : Bool → StM → Prop} {y1 : Int32} {y2 : Int32} {y3 : Int32} {y4 : Int32} (h : (0 ≤ y1 ∧ y1 < 200) ∧ (((a_codeTo S (ix y1)) ≤ y4 → ((y2 = 0 → (P true S)) ∧ (¬ y2 = 0 → ((¬ (a_stack S (ix 0)) = 1 → (P false S)) ∧ ((a_stack S (ix 0)) = 1 → (P true S)))))) ∧ (¬ (a_codeTo S (ix y1)) ≤ y4 → ((0 ≤ y4 ∧ y4 < 3600) ∧ ((((a_codes S (ix y4)) / 1048576) = 0 → ((¬ ((a_codes S (ix y4)) / 1048576) = 0 → ((0 ≤ ((a_codes S (ix y4)) - (a_codes S (ix y4)) / 1048576 * 1048576) ∧ ((a_codes S (ix y4)) - (a_codes S (ix y4)) / 1048576 * 1048576) < 5) ∧ ((0 ≤ y2 ∧ y2 < 180) ∧ (T_isTrue_19 E q (d + 1) P (sA S 55 (upd (a_stack S) (ix y2) (a_facts S (ix ((a_codes S (ix y4)) - (a_codes S (ix y4)) / 1048576 * 1048576))))) y1 (y2 + 1) y3 (y4 + 1))))) ∧ (((a_codes S (ix y4)) / 1048576) = 0 → ((0 ≤ y2 ∧ y2 < 180) ∧ (T_isTrue_19 E q (d + 1) P (sA S 55 (upd (a_stack S) (ix y2) ((a_codes S (ix y4)) - (a_codes S (ix y4)) / 1048576 * 1048576))) y1 (y2 + 1) y3 (y4 + 1)))))) ∧ (¬ ((a_codes S (ix y4)) / 1048576) = 0 → ((¬ ((a_codes S (ix y4)) / 1048576) = 1 → ((¬ ((a_codes S (ix y4)) / 1048576) = 10 → ((((a_codes S (ix y4)) / 1048576) = 11 → ((0 ≤ (y2 - 1) ∧ (y2 - 1) < 180) ∧ ((¬ ((a_codes S (ix y4)) / 1048576) = 12 → ((¬ (a_stack S (ix (y2 - 1))) = 0 → (T_isTrue_19 E q (d + 1) P S y1 (y2 - 1) y3 (y4 + 1))) ∧ ((a_stack S (ix (y2 - 1))) = 0 → (T_isTrue_19 E q (d + 1) P S y1 y2 y3 (y3 + ((a_codes S (ix y4)) - (a_codes S (ix y4)) / 1048576 * 1048576)))))) ∧ (((a_codes S (ix y4)) / 1048576) = 12 → ((¬ (a_stack S (ix (y2 - 1))) = 1 → (T_isTrue_19 E q (d + 1) P S y1 (y2 - 1) y3 (y4 + 1))) ∧ ((a_stack S (ix (y2 - 1))) = 1 → (T_isTrue_19 E q (d + 1) P S y1 y2 y3 (y3 + ((a_codes S (ix y4)) - (a_codes S (ix y4)) / 1048576 * 1048576))))))))) ∧ (¬ ((a_codes S (ix y4)) / 1048576) = 11 → ((¬ ((a_codes S (ix y4)) / 1048576) = 12 → ((((a_codes S (ix y4)) / 1048576) = 5 → ((0 ≤ (y2 - 1) ∧ (y2 - 1) < 180) ∧ ((¬ (a_stack S (ix (y2 - 1))) = 0 → ((0 ≤ ((y2 - 1) - 1) ∧ ((y2 - 1) - 1) < 180) ∧ (((((a_codes S (ix y4)) / 1048576) = 5 ∨ ((a_codes S (ix y4)) / 1048576) = 6) → ¬ (a_stack S (ix (y2 - 1))) = 0) ∧ (T_isTrue_19 E q (d + 1) P (sA S 55 (upd (a_stack S) (ix ((y2 - 1) - 1)) (mReck ((a_codes S (ix y4)) / 1048576) (a_stack S (ix ((y2 - 1) - 1))) (a_stack S (ix (y2 - 1)))))) y1 (y2 - 1) y3 (y4 + 1))))) ∧ ((a_stack S (ix (y2 - 1))) = 0 → (P false S))))) ∧ (¬ ((a_codes S (ix y4)) / 1048576) = 5 → ((¬ ((a_codes S (ix y4)) / 1048576) = 6 → ((0 ≤ ((y2 - 1) - 1) ∧ ((y2 - 1) - 1) < 180) ∧ ((0 ≤ (y2 - 1) ∧ (y2 - 1) < 180) ∧ (((((a_codes S (ix y4)) / 1048576) = 5 ∨ ((a_codes S (ix y4)) / 1048576) = 6) → ¬ (a_stack S (ix (y2 - 1))) = 0) ∧ (T_isTrue_19 E q (d + 1) P (sA S 55 (upd (a_stack S) (ix ((y2 - 1) - 1)) (mReck ((a_codes S (ix y4)) / 1048576) (a_stack S (ix ((y2 - 1) - 1))) (a_stack S (ix (y2 - 1)))))) y1 (y2 - 1) y3 (y4 + 1)))))) ∧ (((a_codes S (ix y4)) / 1048576) = 6 → ((0 ≤ (y2 - 1) ∧ (y2 - 1) < 180) ∧ ((¬ (a_stack S (ix (y2 - 1))) = 0 → ((0 ≤ ((y2 - 1) - 1) ∧ ((y2 - 1) - 1) < 180) ∧ (((((a_codes S (ix y4)) / 1048576) = 5 ∨ ((a_codes S (ix y4)) / 1048576) = 6) → ¬ (a_stack S (ix (y2 - 1))) = 0) ∧ (T_isTrue_19 E q (d + 1) P (sA S 55 (upd (a_stack S) (ix ((y2 - 1) - 1)) (mReck ((a_codes S (ix y4)) / 1048576) (a_stack S (ix ((y2 - 1) - 1))) (a_stack S (ix (y2 - 1)))))) y1 (y2 - 1) y3 (y4 + 1))))) ∧ ((a_stack S (ix (y2 - 1))) = 0 → (P false S))))))))) ∧ (((a_codes S (ix y4)) / 1048576) = 12 → ((0 ≤ (y2 - 1) ∧ (y2 - 1) < 180) ∧ ((¬ ((a_codes S (ix y4)) / 1048576) = 12 → ((¬ (a_stack S (ix (y2 - 1))) = 0 → (T_isTrue_19 E q (d + 1) P S y1 (y2 - 1) y3 (y4 + 1))) ∧ ((a_stack S (ix (y2 - 1))) = 0 → (T_isTrue_19 E q (d + 1) P S y1 y2 y3 (y3 + ((a_codes S (ix y4)) - (a_codes S (ix y4)) / 1048576 * 1048576)))))) ∧ (((a_codes S (ix y4)) / 1048576) = 12 → ((¬ (a_stack S (ix (y2 - 1))) = 1 → (T_isTrue_19 E q (d + 1) P S y1 (y2 - 1) y3 (y4 + 1))) ∧ ((a_stack S (ix (y2 - 1))) = 1 → (T_isTrue_19 E q (d + 1) P S y1 y2 y3 (y3 + ((a_codes S (ix y4)) - (a_codes S (ix y4)) / 1048576 * 1048576))))))))))))) ∧ (((a_codes S (ix y4)) / 1048576) = 10 → ((0 ≤ (y2 - 1) ∧ (y2 - 1) < 180) ∧ (T_isTrue_19 E q (d + 1) P (sA S 55 (upd (a_stack S) (ix (y2 - 1)) (1 - (a_stack S (ix (y2 - 1)))))) y1 y2 y3 (y4 + 1)))))) ∧ (((a_codes S (ix y4)) / 1048576) = 1 → ((¬ ((a_codes S (ix y4)) / 1048576) = 0 → ((0 ≤ ((a_codes S (ix y4)) - (a_codes S (ix y4)) / 1048576 * 1048576) ∧ ((a_codes S (ix y4)) - (a_codes S (ix y4)) / 1048576 * 1048576) < 5) ∧ ((0 ≤ y2 ∧ y2 < 180) ∧ (T_isTrue_19 E q (d + 1) P (sA S 55 (upd (a_stack S) (ix y2) (a_facts S (ix ((a_codes S (ix y4)) - (a_codes S (ix y4)) / 1048576 * 1048576))))) y1 (y2 + 1) y3 (y4 + 1))))) ∧ (((a_codes S (ix y4)) / 1048576) = 0 → ((0 ≤ y2 ∧ y2 < 180) ∧ (T_isTrue_19 E q (d + 1) P (sA S 55 (upd (a_stack S) (ix y2) ((a_codes S (ix y4)) - (a_codes S (ix y4)) / 1048576 * 1048576))) y1 (y2 + 1) y3 (y4 + 1))))))))))))) : T_isTrue_19 E q (d + 1) P S y1 y2 y3 y4 := by
  refine r_iload 4 dX12_isTrue_19 rfl ?_
  refine r_aload_n 0 dX12_isTrue_21 rfl rfl ?_
  refine mg_51 rfl dX12_isTrue_22 ?_
  refine r_iload_n 1 dX12_isTrue_25 rfl rfl ?_
  obtain ⟨b1, h⟩ := h
  refine ml_51 b1 dX12_isTrue_26 ?_
  refine r_icmp_ge (tgt := 242) dX12_isTrue_27 (by decide) (fun c2 => ?_) (fun c2 => ?_)
  · have h := h.1 c2
    refine r_iload_n 2 dX12_isTrue_242 rfl rfl ?_
    refine r_if_eq (tgt := 256) dX12_isTrue_243 (by decide) (fun c3 => ?_) (fun c3 => ?_)
    · have h := h.1 c3
      refine r_iconst_1 dX12_isTrue_256 ?_
      refine r_goto (tgt := 261) dX12_isTrue_257 (by decide) ?_
      exact r_zret1 dX12_isTrue_261 rfl (Nat.le_refl _) (Nat.le_refl _) ⟨_, _, rfl, rfl, h⟩
    · have h := h.2 c3
      refine r_aload_n 0 dX12_isTrue_246 rfl rfl ?_
      refine mg_55 rfl dX12_isTrue_247 ?_
      refine r_iconst_0 dX12_isTrue_250 ?_
      refine ml_55 (by decide) dX12_isTrue_251 ?_
      refine r_iconst_1 dX12_isTrue_252 ?_
      refine r_icmp_ne (tgt := 260) dX12_isTrue_253 (by decide) (fun c4 => ?_) (fun c4 => ?_)
      · have h := h.1 c4
        refine r_iconst_0 dX12_isTrue_260 ?_
        exact r_zret0 dX12_isTrue_261 rfl (Nat.le_refl _) (Nat.le_refl _) ⟨_, _, rfl, rfl, h⟩
      · have h := h.2 c4
        refine r_iconst_1 dX12_isTrue_256 ?_
        refine r_goto (tgt := 261) dX12_isTrue_257 (by decide) ?_
        exact r_zret1 dX12_isTrue_261 rfl (Nat.le_refl _) (Nat.le_refl _) ⟨_, _, rfl, rfl, h⟩
  · have h := h.2 c2
    refine r_aload_n 0 dX12_isTrue_30 rfl rfl ?_
    refine mg_45 rfl dX12_isTrue_31 ?_
    refine r_iload 4 dX12_isTrue_34 rfl ?_
    obtain ⟨b5, h⟩ := h
    refine ml_45 b5 dX12_isTrue_36 ?_
    refine r_ldcw w8_175 dX12_isTrue_37 ?_
    refine r_idiv dX12_isTrue_40 (by decide) ?_
    refine r_istore [(5, .int ((a_codes S (ix y4)) / 1048576)), (0, .ref (q 0)), (1, .int (y1)), (2, .int (y2)), (3, .int (y3)), (4, .int (y4))] dX12_isTrue_41 (Nat.le_of_ble_eq_true rfl) rfl ?_
    refine r_aload_n 1 dX12_isTrue_43 rfl rfl ?_
    refine mg_45 rfl dX12_isTrue_44 ?_
    refine r_iload 5 dX12_isTrue_47 rfl ?_
    refine ml_45 b5 dX12_isTrue_49 ?_
    refine r_ldcw w8_175 dX12_isTrue_50 ?_
    refine r_irem dX12_isTrue_53 (by decide) ?_
    refine r_istore [(6, .int ((a_codes S (ix y4)) - (a_codes S (ix y4)) / 1048576 * 1048576)), (5, .int ((a_codes S (ix y4)) / 1048576)), (0, .ref (q 0)), (1, .int (y1)), (2, .int (y2)), (3, .int (y3)), (4, .int (y4))] dX12_isTrue_54 (Nat.le_of_ble_eq_true rfl) rfl ?_
    refine r_iload 6 dX12_isTrue_56 rfl ?_
    refine r_iconst_1 dX12_isTrue_58 ?_
    refine r_iadd dX12_isTrue_59 ?_
    refine r_istore [(4, .int (y4 + 1)), (6, .int ((a_codes S (ix y4)) - (a_codes S (ix y4)) / 1048576 * 1048576)), (5, .int ((a_codes S (ix y4)) / 1048576)), (0, .ref (q 0)), (1, .int (y1)), (2, .int (y2)), (3, .int (y3))] dX12_isTrue_60 (Nat.le_of_ble_eq_true rfl) rfl ?_
    refine r_iload 2 dX12_isTrue_62 rfl ?_
    refine r_if_eq (tgt := 73) dX12_isTrue_64 (by decide) (fun c6 => ?_) (fun c6 => ?_)
    · have h := h.1 c6
      refine r_aload_n 3 dX12_isTrue_73 rfl rfl ?_
      refine mg_55 rfl dX12_isTrue_74 ?_
      refine r_iload_n 5 dX12_isTrue_77 rfl rfl ?_
      refine r_iload 2 dX12_isTrue_78 rfl ?_
      refine r_if_ne (tgt := 88) dX12_isTrue_80 (by decide) (fun c7 => ?_) (fun c7 => ?_)
      · have h := h.1 c7
        refine r_aload_n 3 dX12_isTrue_88 rfl rfl ?_
        refine mg_56 rfl dX12_isTrue_89 ?_
        refine r_iload 1 dX12_isTrue_92 rfl ?_
        obtain ⟨b8, h⟩ := h
        refine ml_56 b8 dX12_isTrue_94 ?_
        obtain ⟨b9, h⟩ := h
        refine mt_55 b9 dX12_isTrue_95 ?_
        refine r_iload_n 5 dX12_isTrue_96 rfl rfl ?_
        refine r_iconst_1 dX12_isTrue_97 ?_
        refine r_iadd dX12_isTrue_98 ?_
        refine r_istore_n [(2, .int (y2 + 1)), (4, .int (y4 + 1)), (6, .int ((a_codes S (ix y4)) - (a_codes S (ix y4)) / 1048576 * 1048576)), (5, .int ((a_codes S (ix y4)) / 1048576)), (0, .ref (q 0)), (1, .int (y1)), (3, .int (y3))] dX12_isTrue_99 rfl (Nat.le_of_ble_eq_true rfl) rfl ?_
        refine r_goto (tgt := 239) dX12_isTrue_100 (by decide) ?_
        refine r_goto (tgt := 19) dX12_isTrue_239 (by decide) ?_
        refine r_ls [4, 5, 0, 6, 1] (ls2 := [(0, .ref (q 0)), (1, .int (y1)), (2, .int (y2 + 1)), (3, .int (y3)), (4, .int (y4 + 1))]) rfl ?_
        exact h
      · have h := h.2 c7
        refine r_iload 1 dX12_isTrue_83 rfl ?_
        refine r_goto (tgt := 95) dX12_isTrue_85 (by decide) ?_
        obtain ⟨b10, h⟩ := h
        refine mt_55 b10 dX12_isTrue_95 ?_
        refine r_iload_n 5 dX12_isTrue_96 rfl rfl ?_
        refine r_iconst_1 dX12_isTrue_97 ?_
        refine r_iadd dX12_isTrue_98 ?_
        refine r_istore_n [(2, .int (y2 + 1)), (4, .int (y4 + 1)), (6, .int ((a_codes S (ix y4)) - (a_codes S (ix y4)) / 1048576 * 1048576)), (5, .int ((a_codes S (ix y4)) / 1048576)), (0, .ref (q 0)), (1, .int (y1)), (3, .int (y3))] dX12_isTrue_99 rfl (Nat.le_of_ble_eq_true rfl) rfl ?_
        refine r_goto (tgt := 239) dX12_isTrue_100 (by decide) ?_
        refine r_goto (tgt := 19) dX12_isTrue_239 (by decide) ?_
        refine r_ls [4, 5, 0, 6, 1] (ls2 := [(0, .ref (q 0)), (1, .int (y1)), (2, .int (y2 + 1)), (3, .int (y3)), (4, .int (y4 + 1))]) rfl ?_
        exact h
    · have h := h.2 c6
      refine r_iload 2 dX12_isTrue_67 rfl ?_
      refine r_iconst_1 dX12_isTrue_69 ?_
      refine r_icmp_ne (tgt := 103) dX12_isTrue_70 (by decide) (fun c11 => ?_) (fun c11 => ?_)
      · have h := h.1 c11
        refine r_iload 2 dX12_isTrue_103 rfl ?_
        refine r_bipush_10 dX12_isTrue_105 ?_
        refine r_icmp_ne (tgt := 131) dX12_isTrue_107 (by decide) (fun c12 => ?_) (fun c12 => ?_)
        · have h := h.1 c12
          refine r_iload 2 dX12_isTrue_131 rfl ?_
          refine r_bipush_11 dX12_isTrue_133 ?_
          refine r_icmp_eq (tgt := 145) dX12_isTrue_135 (by decide) (fun c13 => ?_) (fun c13 => ?_)
          · have h := h.1 c13
            refine r_aload_n 3 dX12_isTrue_145 rfl rfl ?_
            refine mg_55 rfl dX12_isTrue_146 ?_
            refine r_iload_n 5 dX12_isTrue_149 rfl rfl ?_
            refine r_iconst_1 dX12_isTrue_150 ?_
            refine r_isub dX12_isTrue_151 ?_
            obtain ⟨b14, h⟩ := h
            refine ml_55 b14 dX12_isTrue_152 ?_
            refine r_iload 2 dX12_isTrue_153 rfl ?_
            refine r_bipush_12 dX12_isTrue_155 ?_
            refine r_icmp_ne (tgt := 164) dX12_isTrue_157 (by decide) (fun c15 => ?_) (fun c15 => ?_)
            · have h := h.1 c15
              refine r_iconst_0 dX12_isTrue_164 ?_
              refine r_icmp_ne (tgt := 177) dX12_isTrue_165 (by decide) (fun c16 => ?_) (fun c16 => ?_)
              · have h := h.1 c16
                refine r_iload_n 5 dX12_isTrue_177 rfl rfl ?_
                refine r_iconst_1 dX12_isTrue_178 ?_
                refine r_isub dX12_isTrue_179 ?_
                refine r_istore_n [(2, .int (y2 - 1)), (4, .int (y4 + 1)), (6, .int ((a_codes S (ix y4)) - (a_codes S (ix y4)) / 1048576 * 1048576)), (5, .int ((a_codes S (ix y4)) / 1048576)), (0, .ref (q 0)), (1, .int (y1)), (3, .int (y3))] dX12_isTrue_180 rfl (Nat.le_of_ble_eq_true rfl) rfl ?_
                refine r_goto (tgt := 239) dX12_isTrue_181 (by decide) ?_
                refine r_goto (tgt := 19) dX12_isTrue_239 (by decide) ?_
                refine r_ls [4, 5, 0, 6, 1] (ls2 := [(0, .ref (q 0)), (1, .int (y1)), (2, .int (y2 - 1)), (3, .int (y3)), (4, .int (y4 + 1))]) rfl ?_
                exact h
              · have h := h.2 c16
                refine r_iload_n 6 dX12_isTrue_168 rfl rfl ?_
                refine r_iload 1 dX12_isTrue_169 rfl ?_
                refine r_iadd dX12_isTrue_171 ?_
                refine r_istore [(4, .int (y3 + ((a_codes S (ix y4)) - (a_codes S (ix y4)) / 1048576 * 1048576))), (6, .int ((a_codes S (ix y4)) - (a_codes S (ix y4)) / 1048576 * 1048576)), (5, .int ((a_codes S (ix y4)) / 1048576)), (0, .ref (q 0)), (1, .int (y1)), (2, .int (y2)), (3, .int (y3))] dX12_isTrue_172 (Nat.le_of_ble_eq_true rfl) rfl ?_
                refine r_goto (tgt := 239) dX12_isTrue_174 (by decide) ?_
                refine r_goto (tgt := 19) dX12_isTrue_239 (by decide) ?_
                refine r_ls [3, 4, 5, 6, 0] (ls2 := [(0, .ref (q 0)), (1, .int (y1)), (2, .int (y2)), (3, .int (y3)), (4, .int (y3 + ((a_codes S (ix y4)) - (a_codes S (ix y4)) / 1048576 * 1048576)))]) rfl ?_
                exact h
            · have h := h.2 c15
              refine r_iconst_1 dX12_isTrue_160 ?_
              refine r_goto (tgt := 165) dX12_isTrue_161 (by decide) ?_
              refine r_icmp_ne (tgt := 177) dX12_isTrue_165 (by decide) (fun c17 => ?_) (fun c17 => ?_)
              · have h := h.1 c17
                refine r_iload_n 5 dX12_isTrue_177 rfl rfl ?_
                refine r_iconst_1 dX12_isTrue_178 ?_
                refine r_isub dX12_isTrue_179 ?_
                refine r_istore_n [(2, .int (y2 - 1)), (4, .int (y4 + 1)), (6, .int ((a_codes S (ix y4)) - (a_codes S (ix y4)) / 1048576 * 1048576)), (5, .int ((a_codes S (ix y4)) / 1048576)), (0, .ref (q 0)), (1, .int (y1)), (3, .int (y3))] dX12_isTrue_180 rfl (Nat.le_of_ble_eq_true rfl) rfl ?_
                refine r_goto (tgt := 239) dX12_isTrue_181 (by decide) ?_
                refine r_goto (tgt := 19) dX12_isTrue_239 (by decide) ?_
                refine r_ls [4, 5, 0, 6, 1] (ls2 := [(0, .ref (q 0)), (1, .int (y1)), (2, .int (y2 - 1)), (3, .int (y3)), (4, .int (y4 + 1))]) rfl ?_
                exact h
              · have h := h.2 c17
                refine r_iload_n 6 dX12_isTrue_168 rfl rfl ?_
                refine r_iload 1 dX12_isTrue_169 rfl ?_
                refine r_iadd dX12_isTrue_171 ?_
                refine r_istore [(4, .int (y3 + ((a_codes S (ix y4)) - (a_codes S (ix y4)) / 1048576 * 1048576))), (6, .int ((a_codes S (ix y4)) - (a_codes S (ix y4)) / 1048576 * 1048576)), (5, .int ((a_codes S (ix y4)) / 1048576)), (0, .ref (q 0)), (1, .int (y1)), (2, .int (y2)), (3, .int (y3))] dX12_isTrue_172 (Nat.le_of_ble_eq_true rfl) rfl ?_
                refine r_goto (tgt := 239) dX12_isTrue_174 (by decide) ?_
                refine r_goto (tgt := 19) dX12_isTrue_239 (by decide) ?_
                refine r_ls [3, 4, 5, 6, 0] (ls2 := [(0, .ref (q 0)), (1, .int (y1)), (2, .int (y2)), (3, .int (y3)), (4, .int (y3 + ((a_codes S (ix y4)) - (a_codes S (ix y4)) / 1048576 * 1048576)))]) rfl ?_
                exact h
          · have h := h.2 c13
            refine r_iload 2 dX12_isTrue_138 rfl ?_
            refine r_bipush_12 dX12_isTrue_140 ?_
            refine r_icmp_ne (tgt := 184) dX12_isTrue_142 (by decide) (fun c18 => ?_) (fun c18 => ?_)
            · have h := h.1 c18
              refine r_iload_n 5 dX12_isTrue_184 rfl rfl ?_
              refine r_iconst_1 dX12_isTrue_185 ?_
              refine r_isub dX12_isTrue_186 ?_
              refine r_istore_n [(2, .int (y2 - 1)), (4, .int (y4 + 1)), (6, .int ((a_codes S (ix y4)) - (a_codes S (ix y4)) / 1048576 * 1048576)), (5, .int ((a_codes S (ix y4)) / 1048576)), (0, .ref (q 0)), (1, .int (y1)), (3, .int (y3))] dX12_isTrue_187 rfl (Nat.le_of_ble_eq_true rfl) rfl ?_
              refine r_iload 3 dX12_isTrue_188 rfl ?_
              refine r_iconst_5 dX12_isTrue_190 ?_
              refine r_icmp_eq (tgt := 201) dX12_isTrue_191 (by decide) (fun c19 => ?_) (fun c19 => ?_)
              · have h := h.1 c19
                refine r_aload_n 4 dX12_isTrue_201 rfl rfl ?_
                refine mg_55 rfl dX12_isTrue_202 ?_
                refine r_iload_n 0 dX12_isTrue_205 rfl rfl ?_
                obtain ⟨b20, h⟩ := h
                refine ml_55 b20 dX12_isTrue_206 ?_
                refine r_if_ne (tgt := 212) dX12_isTrue_207 (by decide) (fun c21 => ?_) (fun c21 => ?_)
                · have h := h.1 c21
                  refine r_aload_n 4 dX12_isTrue_212 rfl rfl ?_
                  refine mg_55 rfl dX12_isTrue_213 ?_
                  refine r_iload_n 0 dX12_isTrue_216 rfl rfl ?_
                  refine r_iconst_1 dX12_isTrue_217 ?_
                  refine r_isub dX12_isTrue_218 ?_
                  refine r_iload 3 dX12_isTrue_219 rfl ?_
                  refine r_aload_n 4 dX12_isTrue_221 rfl rfl ?_
                  refine mg_55 rfl dX12_isTrue_222 ?_
                  refine r_iload_n 0 dX12_isTrue_225 rfl rfl ?_
                  refine r_iconst_1 dX12_isTrue_226 ?_
                  refine r_isub dX12_isTrue_227 ?_
                  obtain ⟨b22, h⟩ := h
                  refine ml_55 b22 dX12_isTrue_228 ?_
                  refine r_aload_n 4 dX12_isTrue_229 rfl rfl ?_
                  refine mg_55 rfl dX12_isTrue_230 ?_
                  refine r_iload_n 0 dX12_isTrue_233 rfl rfl ?_
                  refine ml_55 b20 dX12_isTrue_234 ?_
                  obtain ⟨b23, h⟩ := h
                  refine KP_reckon (d := d + 0) b23 rfl (Nat.le_of_ble_eq_true rfl) dX12_isTrue_235 ?_
                  refine mt_55 b22 dX12_isTrue_238 ?_
                  refine r_goto (tgt := 19) dX12_isTrue_239 (by decide) ?_
                  refine r_ls [4, 5, 0, 6, 1] (ls2 := [(0, .ref (q 0)), (1, .int (y1)), (2, .int (y2 - 1)), (3, .int (y3)), (4, .int (y4 + 1))]) rfl ?_
                  exact h
                · have h := h.2 c21
                  refine r_iconst_0 dX12_isTrue_210 ?_
                  exact r_zret0 dX12_isTrue_211 rfl (Nat.le_refl _) (Nat.le_refl _) ⟨_, _, rfl, rfl, h⟩
              · have h := h.2 c19
                refine r_iload 3 dX12_isTrue_194 rfl ?_
                refine r_bipush_6 dX12_isTrue_196 ?_
                refine r_icmp_ne (tgt := 212) dX12_isTrue_198 (by decide) (fun c24 => ?_) (fun c24 => ?_)
                · have h := h.1 c24
                  refine r_aload_n 4 dX12_isTrue_212 rfl rfl ?_
                  refine mg_55 rfl dX12_isTrue_213 ?_
                  refine r_iload_n 0 dX12_isTrue_216 rfl rfl ?_
                  refine r_iconst_1 dX12_isTrue_217 ?_
                  refine r_isub dX12_isTrue_218 ?_
                  refine r_iload 3 dX12_isTrue_219 rfl ?_
                  refine r_aload_n 4 dX12_isTrue_221 rfl rfl ?_
                  refine mg_55 rfl dX12_isTrue_222 ?_
                  refine r_iload_n 0 dX12_isTrue_225 rfl rfl ?_
                  refine r_iconst_1 dX12_isTrue_226 ?_
                  refine r_isub dX12_isTrue_227 ?_
                  obtain ⟨b25, h⟩ := h
                  refine ml_55 b25 dX12_isTrue_228 ?_
                  refine r_aload_n 4 dX12_isTrue_229 rfl rfl ?_
                  refine mg_55 rfl dX12_isTrue_230 ?_
                  refine r_iload_n 0 dX12_isTrue_233 rfl rfl ?_
                  obtain ⟨b26, h⟩ := h
                  refine ml_55 b26 dX12_isTrue_234 ?_
                  obtain ⟨b27, h⟩ := h
                  refine KP_reckon (d := d + 0) b27 rfl (Nat.le_of_ble_eq_true rfl) dX12_isTrue_235 ?_
                  refine mt_55 b25 dX12_isTrue_238 ?_
                  refine r_goto (tgt := 19) dX12_isTrue_239 (by decide) ?_
                  refine r_ls [4, 5, 0, 6, 1] (ls2 := [(0, .ref (q 0)), (1, .int (y1)), (2, .int (y2 - 1)), (3, .int (y3)), (4, .int (y4 + 1))]) rfl ?_
                  exact h
                · have h := h.2 c24
                  refine r_aload_n 4 dX12_isTrue_201 rfl rfl ?_
                  refine mg_55 rfl dX12_isTrue_202 ?_
                  refine r_iload_n 0 dX12_isTrue_205 rfl rfl ?_
                  obtain ⟨b28, h⟩ := h
                  refine ml_55 b28 dX12_isTrue_206 ?_
                  refine r_if_ne (tgt := 212) dX12_isTrue_207 (by decide) (fun c29 => ?_) (fun c29 => ?_)
                  · have h := h.1 c29
                    refine r_aload_n 4 dX12_isTrue_212 rfl rfl ?_
                    refine mg_55 rfl dX12_isTrue_213 ?_
                    refine r_iload_n 0 dX12_isTrue_216 rfl rfl ?_
                    refine r_iconst_1 dX12_isTrue_217 ?_
                    refine r_isub dX12_isTrue_218 ?_
                    refine r_iload 3 dX12_isTrue_219 rfl ?_
                    refine r_aload_n 4 dX12_isTrue_221 rfl rfl ?_
                    refine mg_55 rfl dX12_isTrue_222 ?_
                    refine r_iload_n 0 dX12_isTrue_225 rfl rfl ?_
                    refine r_iconst_1 dX12_isTrue_226 ?_
                    refine r_isub dX12_isTrue_227 ?_
                    obtain ⟨b30, h⟩ := h
                    refine ml_55 b30 dX12_isTrue_228 ?_
                    refine r_aload_n 4 dX12_isTrue_229 rfl rfl ?_
                    refine mg_55 rfl dX12_isTrue_230 ?_
                    refine r_iload_n 0 dX12_isTrue_233 rfl rfl ?_
                    refine ml_55 b28 dX12_isTrue_234 ?_
                    obtain ⟨b31, h⟩ := h
                    refine KP_reckon (d := d + 0) b31 rfl (Nat.le_of_ble_eq_true rfl) dX12_isTrue_235 ?_
                    refine mt_55 b30 dX12_isTrue_238 ?_
                    refine r_goto (tgt := 19) dX12_isTrue_239 (by decide) ?_
                    refine r_ls [4, 5, 0, 6, 1] (ls2 := [(0, .ref (q 0)), (1, .int (y1)), (2, .int (y2 - 1)), (3, .int (y3)), (4, .int (y4 + 1))]) rfl ?_
                    exact h
                  · have h := h.2 c29
                    refine r_iconst_0 dX12_isTrue_210 ?_
                    exact r_zret0 dX12_isTrue_211 rfl (Nat.le_refl _) (Nat.le_refl _) ⟨_, _, rfl, rfl, h⟩
            · have h := h.2 c18
              refine r_aload_n 3 dX12_isTrue_145 rfl rfl ?_
              refine mg_55 rfl dX12_isTrue_146 ?_
              refine r_iload_n 5 dX12_isTrue_149 rfl rfl ?_
              refine r_iconst_1 dX12_isTrue_150 ?_
              refine r_isub dX12_isTrue_151 ?_
              obtain ⟨b32, h⟩ := h
              refine ml_55 b32 dX12_isTrue_152 ?_
              refine r_iload 2 dX12_isTrue_153 rfl ?_
              refine r_bipush_12 dX12_isTrue_155 ?_
              refine r_icmp_ne (tgt := 164) dX12_isTrue_157 (by decide) (fun c33 => ?_) (fun c33 => ?_)
              · have h := h.1 c33
                refine r_iconst_0 dX12_isTrue_164 ?_
                refine r_icmp_ne (tgt := 177) dX12_isTrue_165 (by decide) (fun c34 => ?_) (fun c34 => ?_)
                · have h := h.1 c34
                  refine r_iload_n 5 dX12_isTrue_177 rfl rfl ?_
                  refine r_iconst_1 dX12_isTrue_178 ?_
                  refine r_isub dX12_isTrue_179 ?_
                  refine r_istore_n [(2, .int (y2 - 1)), (4, .int (y4 + 1)), (6, .int ((a_codes S (ix y4)) - (a_codes S (ix y4)) / 1048576 * 1048576)), (5, .int ((a_codes S (ix y4)) / 1048576)), (0, .ref (q 0)), (1, .int (y1)), (3, .int (y3))] dX12_isTrue_180 rfl (Nat.le_of_ble_eq_true rfl) rfl ?_
                  refine r_goto (tgt := 239) dX12_isTrue_181 (by decide) ?_
                  refine r_goto (tgt := 19) dX12_isTrue_239 (by decide) ?_
                  refine r_ls [4, 5, 0, 6, 1] (ls2 := [(0, .ref (q 0)), (1, .int (y1)), (2, .int (y2 - 1)), (3, .int (y3)), (4, .int (y4 + 1))]) rfl ?_
                  exact h
                · have h := h.2 c34
                  refine r_iload_n 6 dX12_isTrue_168 rfl rfl ?_
                  refine r_iload 1 dX12_isTrue_169 rfl ?_
                  refine r_iadd dX12_isTrue_171 ?_
                  refine r_istore [(4, .int (y3 + ((a_codes S (ix y4)) - (a_codes S (ix y4)) / 1048576 * 1048576))), (6, .int ((a_codes S (ix y4)) - (a_codes S (ix y4)) / 1048576 * 1048576)), (5, .int ((a_codes S (ix y4)) / 1048576)), (0, .ref (q 0)), (1, .int (y1)), (2, .int (y2)), (3, .int (y3))] dX12_isTrue_172 (Nat.le_of_ble_eq_true rfl) rfl ?_
                  refine r_goto (tgt := 239) dX12_isTrue_174 (by decide) ?_
                  refine r_goto (tgt := 19) dX12_isTrue_239 (by decide) ?_
                  refine r_ls [3, 4, 5, 6, 0] (ls2 := [(0, .ref (q 0)), (1, .int (y1)), (2, .int (y2)), (3, .int (y3)), (4, .int (y3 + ((a_codes S (ix y4)) - (a_codes S (ix y4)) / 1048576 * 1048576)))]) rfl ?_
                  exact h
              · have h := h.2 c33
                refine r_iconst_1 dX12_isTrue_160 ?_
                refine r_goto (tgt := 165) dX12_isTrue_161 (by decide) ?_
                refine r_icmp_ne (tgt := 177) dX12_isTrue_165 (by decide) (fun c35 => ?_) (fun c35 => ?_)
                · have h := h.1 c35
                  refine r_iload_n 5 dX12_isTrue_177 rfl rfl ?_
                  refine r_iconst_1 dX12_isTrue_178 ?_
                  refine r_isub dX12_isTrue_179 ?_
                  refine r_istore_n [(2, .int (y2 - 1)), (4, .int (y4 + 1)), (6, .int ((a_codes S (ix y4)) - (a_codes S (ix y4)) / 1048576 * 1048576)), (5, .int ((a_codes S (ix y4)) / 1048576)), (0, .ref (q 0)), (1, .int (y1)), (3, .int (y3))] dX12_isTrue_180 rfl (Nat.le_of_ble_eq_true rfl) rfl ?_
                  refine r_goto (tgt := 239) dX12_isTrue_181 (by decide) ?_
                  refine r_goto (tgt := 19) dX12_isTrue_239 (by decide) ?_
                  refine r_ls [4, 5, 0, 6, 1] (ls2 := [(0, .ref (q 0)), (1, .int (y1)), (2, .int (y2 - 1)), (3, .int (y3)), (4, .int (y4 + 1))]) rfl ?_
                  exact h
                · have h := h.2 c35
                  refine r_iload_n 6 dX12_isTrue_168 rfl rfl ?_
                  refine r_iload 1 dX12_isTrue_169 rfl ?_
                  refine r_iadd dX12_isTrue_171 ?_
                  refine r_istore [(4, .int (y3 + ((a_codes S (ix y4)) - (a_codes S (ix y4)) / 1048576 * 1048576))), (6, .int ((a_codes S (ix y4)) - (a_codes S (ix y4)) / 1048576 * 1048576)), (5, .int ((a_codes S (ix y4)) / 1048576)), (0, .ref (q 0)), (1, .int (y1)), (2, .int (y2)), (3, .int (y3))] dX12_isTrue_172 (Nat.le_of_ble_eq_true rfl) rfl ?_
                  refine r_goto (tgt := 239) dX12_isTrue_174 (by decide) ?_
                  refine r_goto (tgt := 19) dX12_isTrue_239 (by decide) ?_
                  refine r_ls [3, 4, 5, 6, 0] (ls2 := [(0, .ref (q 0)), (1, .int (y1)), (2, .int (y2)), (3, .int (y3)), (4, .int (y3 + ((a_codes S (ix y4)) - (a_codes S (ix y4)) / 1048576 * 1048576)))]) rfl ?_
                  exact h
        · have h := h.2 c12
          refine r_aload_n 3 dX12_isTrue_110 rfl rfl ?_
          refine mg_55 rfl dX12_isTrue_111 ?_
          refine r_iload_n 5 dX12_isTrue_114 rfl rfl ?_
          refine r_iconst_1 dX12_isTrue_115 ?_
          refine r_isub dX12_isTrue_116 ?_
          refine r_iconst_1 dX12_isTrue_117 ?_
          refine r_aload_n 3 dX12_isTrue_118 rfl rfl ?_
          refine mg_55 rfl dX12_isTrue_119 ?_
          refine r_iload_n 5 dX12_isTrue_122 rfl rfl ?_
          refine r_iconst_1 dX12_isTrue_123 ?_
          refine r_isub dX12_isTrue_124 ?_
          obtain ⟨b36, h⟩ := h
          refine ml_55 b36 dX12_isTrue_125 ?_
          refine r_isub dX12_isTrue_126 ?_
          refine mt_55 b36 dX12_isTrue_127 ?_
          refine r_goto (tgt := 239) dX12_isTrue_128 (by decide) ?_
          refine r_goto (tgt := 19) dX12_isTrue_239 (by decide) ?_
          refine r_ls [3, 4, 5, 6, 0] (ls2 := [(0, .ref (q 0)), (1, .int (y1)), (2, .int (y2)), (3, .int (y3)), (4, .int (y4 + 1))]) rfl ?_
          exact h
      · have h := h.2 c11
        refine r_aload_n 3 dX12_isTrue_73 rfl rfl ?_
        refine mg_55 rfl dX12_isTrue_74 ?_
        refine r_iload_n 5 dX12_isTrue_77 rfl rfl ?_
        refine r_iload 2 dX12_isTrue_78 rfl ?_
        refine r_if_ne (tgt := 88) dX12_isTrue_80 (by decide) (fun c37 => ?_) (fun c37 => ?_)
        · have h := h.1 c37
          refine r_aload_n 3 dX12_isTrue_88 rfl rfl ?_
          refine mg_56 rfl dX12_isTrue_89 ?_
          refine r_iload 1 dX12_isTrue_92 rfl ?_
          obtain ⟨b38, h⟩ := h
          refine ml_56 b38 dX12_isTrue_94 ?_
          obtain ⟨b39, h⟩ := h
          refine mt_55 b39 dX12_isTrue_95 ?_
          refine r_iload_n 5 dX12_isTrue_96 rfl rfl ?_
          refine r_iconst_1 dX12_isTrue_97 ?_
          refine r_iadd dX12_isTrue_98 ?_
          refine r_istore_n [(2, .int (y2 + 1)), (4, .int (y4 + 1)), (6, .int ((a_codes S (ix y4)) - (a_codes S (ix y4)) / 1048576 * 1048576)), (5, .int ((a_codes S (ix y4)) / 1048576)), (0, .ref (q 0)), (1, .int (y1)), (3, .int (y3))] dX12_isTrue_99 rfl (Nat.le_of_ble_eq_true rfl) rfl ?_
          refine r_goto (tgt := 239) dX12_isTrue_100 (by decide) ?_
          refine r_goto (tgt := 19) dX12_isTrue_239 (by decide) ?_
          refine r_ls [4, 5, 0, 6, 1] (ls2 := [(0, .ref (q 0)), (1, .int (y1)), (2, .int (y2 + 1)), (3, .int (y3)), (4, .int (y4 + 1))]) rfl ?_
          exact h
        · have h := h.2 c37
          refine r_iload 1 dX12_isTrue_83 rfl ?_
          refine r_goto (tgt := 95) dX12_isTrue_85 (by decide) ?_
          obtain ⟨b40, h⟩ := h
          refine mt_55 b40 dX12_isTrue_95 ?_
          refine r_iload_n 5 dX12_isTrue_96 rfl rfl ?_
          refine r_iconst_1 dX12_isTrue_97 ?_
          refine r_iadd dX12_isTrue_98 ?_
          refine r_istore_n [(2, .int (y2 + 1)), (4, .int (y4 + 1)), (6, .int ((a_codes S (ix y4)) - (a_codes S (ix y4)) / 1048576 * 1048576)), (5, .int ((a_codes S (ix y4)) / 1048576)), (0, .ref (q 0)), (1, .int (y1)), (3, .int (y3))] dX12_isTrue_99 rfl (Nat.le_of_ble_eq_true rfl) rfl ?_
          refine r_goto (tgt := 239) dX12_isTrue_100 (by decide) ?_
          refine r_goto (tgt := 19) dX12_isTrue_239 (by decide) ?_
          refine r_ls [4, 5, 0, 6, 1] (ls2 := [(0, .ref (q 0)), (1, .int (y1)), (2, .int (y2 + 1)), (3, .int (y3)), (4, .int (y4 + 1))]) rfl ?_
          exact h
