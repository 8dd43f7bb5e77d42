abbrev T_way_38 (E : EvT) (q : Nat → Nat) (D : Nat) (P : Int32 → StM → Prop) (S : StM) (y1 : Int32) (y2 : Int32) (y3 : Int32) (y4 : Int32) : Prop := RM E q iM_way D (qI E q P) S [(0, .ref (q 0)), (1, .int (y1)), (2, .int (y2)), (3, .int (y3)), (4, .int (y4))] [] 38
abbrev T_way_73 (E : EvT) (q : Nat → Nat) (D : Nat) (P : Int32 → StM → Prop) (S : StM) (y1 : Int32) (y3 : Int32) (y4 : Int32) : Prop := RM E q iM_way D (qI E q P) S [(0, .ref (q 0)), (1, .int (y1)), (3, .int (y3)), (4, .int (y4))] [] 73
abbrev T_way_134 (E : EvT) (q : Nat → Nat) (D : Nat) (P : Int32 → StM → Prop) (S : StM) (y3 : Int32) (y4 : Int32) : Prop := RM E q iM_way D (qI E q P) S [(0, .ref (q 0)), (3, .int (y3)), (4, .int (y4))] [] 134
abbrev T_way_151 (E : EvT) (q : Nat → Nat) (D : Nat) (P : Int32 → StM → Prop) (S : StM) (y3 : Int32) (y4 : Int32) (y5 : Int32) : Prop := RM E q iM_way D (qI E q P) S [(0, .ref (q 0)), (3, .int (y3)), (4, .int (y4)), (5, .int (y5))] [] 151
abbrev T_way_193 (E : EvT) (q : Nat → Nat) (D : Nat) (P : Int32 → StM → Prop) (S : StM) (y3 : Int32) (y4 : Int32) (y5 : Int32) (y6 : Int32) : Prop := RM E q iM_way D (qI E q P) S [(0, .ref (q 0)), (3, .int (y3)), (4, .int (y4)), (5, .int (y5)), (6, .int (y6))] [] 193
set_option maxRecDepth 20000 in
theorem en_way {E : EvT} {q : Nat → Nat} {d : Nat} {x1 : Int32} {S : StM} {P : Int32 → StM → Prop} (h : (x1 < 0 → (P (-1) S)) ∧ (¬ x1 < 0 → (((s_hollows S) ≤ x1 → (P (-1) S)) ∧ (¬ (s_hollows S) ≤ x1 → (C_hours E q (d + 1) S (fun r3 S4 => (r3 = true → ((0 ≤ x1 ∧ x1 < 40) ∧ ((0 ≤ (a_hollowLayer S4 (ix x1)) ∧ (a_hollowLayer S4 (ix x1)) < 8) ∧ (T_way_38 E q (d + 2) P S4 x1 (a_early S4 (ix (a_hollowLayer S4 (ix x1)))) 0 0)))) ∧ (r3 = false → (P (-1) S4)))))))) : C_way E q (d + 2) x1 S P := by
  refine Cn.of rfl (Nat.le_of_ble_eq_true rfl) (ls := [(0, .ref (q 0)), (1, .int (x1))]) rfl ?_
  refine r_iload_n 1 dX12_way_0 rfl rfl ?_
  refine r_if_lt (tgt := 19) dX12_way_1 (by decide) (fun c1 => ?_) (fun c1 => ?_)
  · have h := h.1 c1
    refine r_iconst_m1 dX12_way_19 ?_
    exact r_iret dX12_way_20 rfl (Nat.le_refl _) (Nat.le_refl _) ⟨_, _, rfl, rfl, h⟩
  · have h := h.2 c1
    refine r_iload_n 1 dX12_way_4 rfl rfl ?_
    refine r_aload_n 0 dX12_way_5 rfl rfl ?_
    refine mg_90 rfl dX12_way_6 ?_
    refine r_icmp_ge (tgt := 19) dX12_way_9 (by decide) (fun c2 => ?_) (fun c2 => ?_)
    · have h := h.1 c2
      refine r_iconst_m1 dX12_way_19 ?_
      exact r_iret dX12_way_20 rfl (Nat.le_refl _) (Nat.le_refl _) ⟨_, _, rfl, rfl, h⟩
    · have h := h.2 c2
      refine r_aload_n 0 dX12_way_12 rfl rfl ?_
      refine K_hours rfl (Nat.le_of_ble_eq_true rfl) dX12_way_13 (mB h (fun r3 S4 h => ?_))
      refine r_if_neb (tgt := 21) dX12_way_16 (by decide) (fun c5 => ?_) (fun c5 => ?_)
      · have h := h.1 c5
        refine r_aload_n 0 dX12_way_21 rfl rfl ?_
        refine mg_95 rfl dX12_way_22 ?_
        refine r_aload_n 0 dX12_way_25 rfl rfl ?_
        refine mg_98 rfl dX12_way_26 ?_
        refine r_iload_n 1 dX12_way_29 rfl rfl ?_
        obtain ⟨b6, h⟩ := h
        refine ml_98 b6 dX12_way_30 ?_
        obtain ⟨b7, h⟩ := h
        refine ml_95 b7 dX12_way_31 ?_
        refine r_istore_n [(2, .int (a_early S4 (ix (a_hollowLayer S4 (ix x1))))), (0, .ref (q 0)), (1, .int (x1))] dX12_way_32 rfl (Nat.le_of_ble_eq_true rfl) rfl ?_
        refine r_iconst_0 dX12_way_33 ?_
        refine r_istore_n [(3, .int (0)), (2, .int (a_early S4 (ix (a_hollowLayer S4 (ix x1))))), (0, .ref (q 0)), (1, .int (x1))] dX12_way_34 rfl (Nat.le_of_ble_eq_true rfl) rfl ?_
        refine r_iconst_0 dX12_way_35 ?_
        refine r_istore [(4, .int (0)), (3, .int (0)), (2, .int (a_early S4 (ix (a_hollowLayer S4 (ix x1))))), (0, .ref (q 0)), (1, .int (x1))] dX12_way_36 (Nat.le_of_ble_eq_true rfl) rfl ?_
        refine r_ls [3, 4, 2, 1, 0] (ls2 := [(0, .ref (q 0)), (1, .int (x1)), (2, .int (a_early S4 (ix (a_hollowLayer S4 (ix x1))))), (3, .int (0)), (4, .int (0))]) rfl ?_
        exact h
      · have h := h.2 c5
        refine r_iconst_m1 dX12_way_19 ?_
        exact r_iret dX12_way_20 rfl (Nat.le_refl _) (Nat.le_refl _) ⟨_, _, rfl, rfl, h⟩
set_option maxRecDepth 20000 in
theorem sg_way_38 {E : EvT} {q : Nat → Nat} {d : Nat} {S : StM} {P : Int32 → StM → Prop} {y1 : Int32} {y2 : Int32} {y3 : Int32} {y4 : Int32} (h : (8 ≤ y4 → (T_way_73 E q (d + 2) P S y1 y3 0)) ∧ (¬ 8 ≤ y4 → ((0 ≤ y4 ∧ y4 < 8) ∧ ((y2 < (a_late S (ix y4)) → (T_way_38 E q (d + 2) P S y1 y2 (y3 + 0) (y4 + 1))) ∧ (¬ y2 < (a_late S (ix y4)) → (T_way_38 E q (d + 2) P S y1 y2 (y3 + 1) (y4 + 1))))))) : T_way_38 E q (d + 2) P S y1 y2 y3 y4 := by
  refine r_iload 4 dX12_way_38 rfl ?_
  refine r_bipush_8 dX12_way_40 ?_
  refine r_icmp_ge (tgt := 70) dX12_way_42 (by decide) (fun c1 => ?_) (fun c1 => ?_)
  · have h := h.1 c1
    refine r_iconst_0 dX12_way_70 ?_
    refine r_istore [(4, .int (0)), (0, .ref (q 0)), (1, .int (y1)), (2, .int (y2)), (3, .int (y3))] dX12_way_71 (Nat.le_of_ble_eq_true rfl) rfl ?_
    refine r_ls [1, 2, 4, 0] (ls2 := [(0, .ref (q 0)), (1, .int (y1)), (3, .int (y3)), (4, .int (0))]) rfl ?_
    exact h
  · have h := h.2 c1
    refine r_iload_n 3 dX12_way_45 rfl rfl ?_
    refine r_aload_n 0 dX12_way_46 rfl rfl ?_
    refine mg_96 rfl dX12_way_47 ?_
    refine r_iload 4 dX12_way_50 rfl ?_
    obtain ⟨b2, h⟩ := h
    refine ml_96 b2 dX12_way_52 ?_
    refine r_iload_n 2 dX12_way_53 rfl rfl ?_
    refine r_icmp_gt (tgt := 61) dX12_way_54 (by decide) (fun c3 => ?_) (fun c3 => ?_)
    · have h := h.1 c3
      refine r_iconst_0 dX12_way_61 ?_
      refine r_iadd dX12_way_62 ?_
      refine r_istore_n [(3, .int (y3 + 0)), (0, .ref (q 0)), (1, .int (y1)), (2, .int (y2)), (4, .int (y4))] dX12_way_63 rfl (Nat.le_of_ble_eq_true rfl) rfl ?_
      refine r_iinc 4 [(4, .int (y4 + 1)), (3, .int (y3 + 0)), (0, .ref (q 0)), (1, .int (y1)), (2, .int (y2))] dX12_way_64 rfl rfl (Nat.le_of_ble_eq_true rfl) rfl ?_
      refine r_goto (tgt := 38) dX12_way_67 (by decide) ?_
      refine r_ls [2, 3, 4, 1, 0] (ls2 := [(0, .ref (q 0)), (1, .int (y1)), (2, .int (y2)), (3, .int (y3 + 0)), (4, .int (y4 + 1))]) rfl ?_
      exact h
    · have h := h.2 c3
      refine r_iconst_1 dX12_way_57 ?_
      refine r_goto (tgt := 62) dX12_way_58 (by decide) ?_
      refine r_iadd dX12_way_62 ?_
      refine r_istore_n [(3, .int (y3 + 1)), (0, .ref (q 0)), (1, .int (y1)), (2, .int (y2)), (4, .int (y4))] dX12_way_63 rfl (Nat.le_of_ble_eq_true rfl) rfl ?_
      refine r_iinc 4 [(4, .int (y4 + 1)), (3, .int (y3 + 1)), (0, .ref (q 0)), (1, .int (y1)), (2, .int (y2))] dX12_way_64 rfl rfl (Nat.le_of_ble_eq_true rfl) rfl ?_
      refine r_goto (tgt := 38) dX12_way_67 (by decide) ?_
      refine r_ls [2, 3, 4, 1, 0] (ls2 := [(0, .ref (q 0)), (1, .int (y1)), (2, .int (y2)), (3, .int (y3 + 1)), (4, .int (y4 + 1))]) rfl ?_
      exact h
set_option maxRecDepth 20000 in
theorem sg_way_73 {E : EvT} {q : Nat → Nat} {d : Nat} {S : StM} {P : Int32 → StM → Prop} {y1 : Int32} {y3 : Int32} {y4 : Int32} (h : (((s_wide S) * (s_high S)) ≤ y4 → ((0 ≤ y1 ∧ y1 < 40) ∧ (¬ s_wide S = 0 ∧ (((mBorder S (a_hollowCell S (ix y1))) = false → (T_way_134 E q (d + 2) P S y3 1)) ∧ ((mBorder S (a_hollowCell S (ix y1))) = true → (P 0 S)))))) ∧ (¬ ((s_wide S) * (s_high S)) ≤ y4 → ((0 ≤ y1 ∧ y1 < 40) ∧ ((¬ y4 = (a_hollowCell S (ix y1)) → ((0 ≤ y4 ∧ y4 < 100) ∧ (T_way_73 E q (d + 2) P (sA S 99 (upd (a_steps S) (ix y4) (-1))) y1 y3 (y4 + 1)))) ∧ (y4 = (a_hollowCell S (ix y1)) → ((0 ≤ y4 ∧ y4 < 100) ∧ (T_way_73 E q (d + 2) P (sA S 99 (upd (a_steps S) (ix y4) 0)) y1 y3 (y4 + 1)))))))) : T_way_73 E q (d + 2) P S y1 y3 y4 := by
  refine r_iload 3 dX12_way_73 rfl ?_
  refine r_aload_n 0 dX12_way_75 rfl rfl ?_
  refine mg_0 rfl dX12_way_76 ?_
  refine r_aload_n 0 dX12_way_79 rfl rfl ?_
  refine mg_1 rfl dX12_way_80 ?_
  refine r_imul dX12_way_83 ?_
  refine r_icmp_ge (tgt := 116) dX12_way_84 (by decide) (fun c1 => ?_) (fun c1 => ?_)
  · have h := h.1 c1
    refine r_aload_n 0 dX12_way_116 rfl rfl ?_
    refine r_aload_n 0 dX12_way_117 rfl rfl ?_
    refine mg_97 rfl dX12_way_118 ?_
    refine r_iload_n 1 dX12_way_121 rfl rfl ?_
    obtain ⟨b2, h⟩ := h
    refine ml_97 b2 dX12_way_122 ?_
    obtain ⟨b3, h⟩ := h
    refine KP_isBorder (d := d + 1) b3 rfl (Nat.le_of_ble_eq_true rfl) dX12_way_123 ?_
    refine r_if_eqb (tgt := 131) dX12_way_126 (by decide) (fun c4 => ?_) (fun c4 => ?_)
    · have h := h.1 c4
      refine r_iconst_1 dX12_way_131 ?_
      refine r_istore [(4, .int (1)), (0, .ref (q 0)), (1, .int (y1)), (3, .int (y3))] dX12_way_132 (Nat.le_of_ble_eq_true rfl) rfl ?_
      refine r_ls [1, 3, 0] (ls2 := [(0, .ref (q 0)), (3, .int (y3)), (4, .int (1))]) rfl ?_
      exact h
    · have h := h.2 c4
      refine r_iconst_0 dX12_way_129 ?_
      exact r_iret dX12_way_130 rfl (Nat.le_refl _) (Nat.le_refl _) ⟨_, _, rfl, rfl, h⟩
  · have h := h.2 c1
    refine r_aload_n 0 dX12_way_87 rfl rfl ?_
    refine mg_99 rfl dX12_way_88 ?_
    refine r_iload 3 dX12_way_91 rfl ?_
    refine r_iload 3 dX12_way_93 rfl ?_
    refine r_aload_n 0 dX12_way_95 rfl rfl ?_
    refine mg_97 rfl dX12_way_96 ?_
    refine r_iload_n 1 dX12_way_99 rfl rfl ?_
    obtain ⟨b5, h⟩ := h
    refine ml_97 b5 dX12_way_100 ?_
    refine r_icmp_ne (tgt := 108) dX12_way_101 (by decide) (fun c6 => ?_) (fun c6 => ?_)
    · have h := h.1 c6
      refine r_iconst_m1 dX12_way_108 ?_
      obtain ⟨b7, h⟩ := h
      refine mt_99 b7 dX12_way_109 ?_
      refine r_iinc 3 [(4, .int (y4 + 1)), (0, .ref (q 0)), (1, .int (y1)), (3, .int (y3))] dX12_way_110 rfl rfl (Nat.le_of_ble_eq_true rfl) rfl ?_
      refine r_goto (tgt := 73) dX12_way_113 (by decide) ?_
      refine r_ls [1, 2, 3, 0] (ls2 := [(0, .ref (q 0)), (1, .int (y1)), (3, .int (y3)), (4, .int (y4 + 1))]) rfl ?_
      exact h
    · have h := h.2 c6
      refine r_iconst_0 dX12_way_104 ?_
      refine r_goto (tgt := 109) dX12_way_105 (by decide) ?_
      obtain ⟨b8, h⟩ := h
      refine mt_99 b8 dX12_way_109 ?_
      refine r_iinc 3 [(4, .int (y4 + 1)), (0, .ref (q 0)), (1, .int (y1)), (3, .int (y3))] dX12_way_110 rfl rfl (Nat.le_of_ble_eq_true rfl) rfl ?_
      refine r_goto (tgt := 73) dX12_way_113 (by decide) ?_
      refine r_ls [1, 2, 3, 0] (ls2 := [(0, .ref (q 0)), (1, .int (y1)), (3, .int (y3)), (4, .int (y4 + 1))]) rfl ?_
      exact h
set_option maxRecDepth 20000 in
theorem sg_way_134 {E : EvT} {q : Nat → Nat} {d : Nat} {S : StM} {P : Int32 → StM → Prop} {y3 : Int32} {y4 : Int32} (h : (((s_wide S) * (s_high S)) ≤ y4 → (P (-2) S)) ∧ (¬ ((s_wide S) * (s_high S)) ≤ y4 → (T_way_151 E q (d + 2) P S y3 y4 0))) : T_way_134 E q (d + 2) P S y3 y4 := by
  refine r_iload 2 dX12_way_134 rfl ?_
  refine r_aload_n 0 dX12_way_136 rfl rfl ?_
  refine mg_0 rfl dX12_way_137 ?_
  refine r_aload_n 0 dX12_way_140 rfl rfl ?_
  refine mg_1 rfl dX12_way_141 ?_
  refine r_imul dX12_way_144 ?_
  refine r_icmp_ge (tgt := 294) dX12_way_145 (by decide) (fun c1 => ?_) (fun c1 => ?_)
  · have h := h.1 c1
    refine r_bipush_m2 dX12_way_294 ?_
    exact r_iret dX12_way_296 rfl (Nat.le_refl _) (Nat.le_refl _) ⟨_, _, rfl, rfl, h⟩
  · have h := h.2 c1
    refine r_iconst_0 dX12_way_148 ?_
    refine r_istore [(5, .int (0)), (0, .ref (q 0)), (3, .int (y3)), (4, .int (y4))] dX12_way_149 (Nat.le_of_ble_eq_true rfl) rfl ?_
    refine r_ls [1, 2, 3, 0] (ls2 := [(0, .ref (q 0)), (3, .int (y3)), (4, .int (y4)), (5, .int (0))]) rfl ?_
    exact h
set_option maxRecDepth 20000 in
theorem sg_way_151 {E : EvT} {q : Nat → Nat} {d : Nat} {S : StM} {P : Int32 → StM → Prop} {y3 : Int32} {y4 : Int32} {y5 : Int32} (h : (((s_wide S) * (s_high S)) ≤ y5 → (T_way_134 E q (d + 2) P S y3 (y4 + 1))) ∧ (¬ ((s_wide S) * (s_high S)) ≤ y5 → ((0 ≤ y5 ∧ y5 < 100) ∧ ((¬ (a_steps S (ix y5)) = (-1) → (T_way_151 E q (d + 2) P S y3 y4 (y5 + 1))) ∧ ((a_steps S (ix y5)) = (-1) → ((y3 < (a_heightOf S (ix y5)) → (T_way_193 E q (d + 2) P S y3 y4 y5 0)) ∧ (¬ y3 < (a_heightOf S (ix y5)) → (T_way_151 E q (d + 2) P S y3 y4 (y5 + 1))))))))) : T_way_151 E q (d + 2) P S y3 y4 y5 := by
  refine r_iload 3 dX12_way_151 rfl ?_
  refine r_aload_n 0 dX12_way_153 rfl rfl ?_
  refine mg_0 rfl dX12_way_154 ?_
  refine r_aload_n 0 dX12_way_157 rfl rfl ?_
  refine mg_1 rfl dX12_way_158 ?_
  refine r_imul dX12_way_161 ?_
  refine r_icmp_ge (tgt := 288) dX12_way_162 (by decide) (fun c1 => ?_) (fun c1 => ?_)
  · have h := h.1 c1
    refine r_iinc 2 [(4, .int (y4 + 1)), (0, .ref (q 0)), (3, .int (y3)), (5, .int (y5))] dX12_way_288 rfl rfl (Nat.le_of_ble_eq_true rfl) rfl ?_
    refine r_goto (tgt := 134) dX12_way_291 (by decide) ?_
    refine r_ls [1, 2, 0] (ls2 := [(0, .ref (q 0)), (3, .int (y3)), (4, .int (y4 + 1))]) rfl ?_
    exact h
  · have h := h.2 c1
    refine r_aload_n 0 dX12_way_165 rfl rfl ?_
    refine mg_99 rfl dX12_way_166 ?_
    refine r_iload 3 dX12_way_169 rfl ?_
    obtain ⟨b2, h⟩ := h
    refine ml_99 b2 dX12_way_171 ?_
    refine r_iconst_m1 dX12_way_172 ?_
    refine r_icmp_ne (tgt := 282) dX12_way_173 (by decide) (fun c3 => ?_) (fun c3 => ?_)
    · have h := h.1 c3
      refine r_iinc 3 [(5, .int (y5 + 1)), (0, .ref (q 0)), (3, .int (y3)), (4, .int (y4))] dX12_way_282 rfl rfl (Nat.le_of_ble_eq_true rfl) rfl ?_
      refine r_goto (tgt := 151) dX12_way_285 (by decide) ?_
      refine r_ls [1, 2, 3, 0] (ls2 := [(0, .ref (q 0)), (3, .int (y3)), (4, .int (y4)), (5, .int (y5 + 1))]) rfl ?_
      exact h
    · have h := h.2 c3
      refine r_iload_n 1 dX12_way_176 rfl rfl ?_
      refine r_aload_n 0 dX12_way_177 rfl rfl ?_
      refine mg_5 rfl dX12_way_178 ?_
      refine r_iload 3 dX12_way_181 rfl ?_
      refine ml_5 b2 dX12_way_183 ?_
      refine r_icmp_lt (tgt := 190) dX12_way_184 (by decide) (fun c4 => ?_) (fun c4 => ?_)
      · have h := h.1 c4
        refine r_iconst_0 dX12_way_190 ?_
        refine r_istore [(6, .int (0)), (0, .ref (q 0)), (3, .int (y3)), (4, .int (y4)), (5, .int (y5))] dX12_way_191 (Nat.le_of_ble_eq_true rfl) rfl ?_
        refine r_ls [1, 2, 3, 4, 0] (ls2 := [(0, .ref (q 0)), (3, .int (y3)), (4, .int (y4)), (5, .int (y5)), (6, .int (0))]) rfl ?_
        exact h
      · have h := h.2 c4
        refine r_goto (tgt := 282) dX12_way_187 (by decide) ?_
        refine r_iinc 3 [(5, .int (y5 + 1)), (0, .ref (q 0)), (3, .int (y3)), (4, .int (y4))] dX12_way_282 rfl rfl (Nat.le_of_ble_eq_true rfl) rfl ?_
        refine r_goto (tgt := 151) dX12_way_285 (by decide) ?_
        refine r_ls [1, 2, 3, 0] (ls2 := [(0, .ref (q 0)), (3, .int (y3)), (4, .int (y4)), (5, .int (y5 + 1))]) rfl ?_
        exact h
set_option maxRecDepth 20000 in
theorem sg_way_193 {E : EvT} {q : Nat → Nat} {d : Nat} {S : StM} {P : Int32 → StM → Prop} {y3 : Int32} {y4 : Int32} {y5 : Int32} {y6 : Int32} (h : (((s_wide S) * (s_high S)) ≤ y6 → ((0 ≤ y5 ∧ y5 < 100) ∧ ((¬ (a_steps S (ix y5)) = y4 → (T_way_151 E q (d + 2) P S y3 y4 (y5 + 1))) ∧ ((a_steps S (ix y5)) = y4 → (¬ s_wide S = 0 ∧ (((mBorder S y5) = false → (T_way_151 E q (d + 2) P S y3 y4 (y5 + 1))) ∧ ((mBorder S y5) = true → (P y4 S)))))))) ∧ (¬ ((s_wide S) * (s_high S)) ≤ y6 → ((0 ≤ y5 ∧ y5 < 100) ∧ ((¬ (a_steps S (ix y5)) = (-1) → ((¬ (a_steps S (ix y5)) = y4 → (T_way_151 E q (d + 2) P S y3 y4 (y5 + 1))) ∧ ((a_steps S (ix y5)) = y4 → (¬ s_wide S = 0 ∧ (((mBorder S y5) = false → (T_way_151 E q (d + 2) P S y3 y4 (y5 + 1))) ∧ ((mBorder S y5) = true → (P y4 S))))))) ∧ ((a_steps S (ix y5)) = (-1) → ((0 ≤ y6 ∧ y6 < 100) ∧ ((¬ (a_steps S (ix y6)) = (y4 - 1) → (T_way_193 E q (d + 2) P S y3 y4 y5 (y6 + 1))) ∧ ((a_steps S (ix y6)) = (y4 - 1) → (¬ s_wide S = 0 ∧ (((mBeside S y6 y5) = false → (T_way_193 E q (d + 2) P S y3 y4 y5 (y6 + 1))) ∧ ((mBeside S y6 y5) = true → (T_way_193 E q (d + 2) P (sA S 99 (upd (a_steps S) (ix y5) y4)) y3 y4 y5 (y6 + 1))))))))))))) : T_way_193 E q (d + 2) P S y3 y4 y5 y6 := by
  refine r_iload 4 dX12_way_193 rfl ?_
  refine r_aload_n 0 dX12_way_195 rfl rfl ?_
  refine mg_0 rfl dX12_way_196 ?_
  refine r_aload_n 0 dX12_way_199 rfl rfl ?_
  refine mg_1 rfl dX12_way_200 ?_
  refine r_imul dX12_way_203 ?_
  refine r_icmp_ge (tgt := 258) dX12_way_204 (by decide) (fun c1 => ?_) (fun c1 => ?_)
  · have h := h.1 c1
    refine r_aload_n 0 dX12_way_258 rfl rfl ?_
    refine mg_99 rfl dX12_way_259 ?_
    refine r_iload 3 dX12_way_262 rfl ?_
    obtain ⟨b2, h⟩ := h
    refine ml_99 b2 dX12_way_264 ?_
    refine r_iload 2 dX12_way_265 rfl ?_
    refine r_icmp_ne (tgt := 282) dX12_way_267 (by decide) (fun c3 => ?_) (fun c3 => ?_)
    · have h := h.1 c3
      refine r_iinc 3 [(5, .int (y5 + 1)), (0, .ref (q 0)), (3, .int (y3)), (4, .int (y4)), (6, .int (y6))] dX12_way_282 rfl rfl (Nat.le_of_ble_eq_true rfl) rfl ?_
      refine r_goto (tgt := 151) dX12_way_285 (by decide) ?_
      refine r_ls [1, 2, 3, 0] (ls2 := [(0, .ref (q 0)), (3, .int (y3)), (4, .int (y4)), (5, .int (y5 + 1))]) rfl ?_
      exact h
    · have h := h.2 c3
      refine r_aload_n 0 dX12_way_270 rfl rfl ?_
      refine r_iload 3 dX12_way_271 rfl ?_
      obtain ⟨b4, h⟩ := h
      refine KP_isBorder (d := d + 1) b4 rfl (Nat.le_of_ble_eq_true rfl) dX12_way_273 ?_
      refine r_if_eqb (tgt := 282) dX12_way_276 (by decide) (fun c5 => ?_) (fun c5 => ?_)
      · have h := h.1 c5
        refine r_iinc 3 [(5, .int (y5 + 1)), (0, .ref (q 0)), (3, .int (y3)), (4, .int (y4)), (6, .int (y6))] dX12_way_282 rfl rfl (Nat.le_of_ble_eq_true rfl) rfl ?_
        refine r_goto (tgt := 151) dX12_way_285 (by decide) ?_
        refine r_ls [1, 2, 3, 0] (ls2 := [(0, .ref (q 0)), (3, .int (y3)), (4, .int (y4)), (5, .int (y5 + 1))]) rfl ?_
        exact h
      · have h := h.2 c5
        refine r_iload 2 dX12_way_279 rfl ?_
        exact r_iret dX12_way_281 rfl (Nat.le_refl _) (Nat.le_refl _) ⟨_, _, rfl, rfl, h⟩
  · have h := h.2 c1
    refine r_aload_n 0 dX12_way_207 rfl rfl ?_
    refine mg_99 rfl dX12_way_208 ?_
    refine r_iload 3 dX12_way_211 rfl ?_
    obtain ⟨b6, h⟩ := h
    refine ml_99 b6 dX12_way_213 ?_
    refine r_iconst_m1 dX12_way_214 ?_
    refine r_icmp_ne (tgt := 258) dX12_way_215 (by decide) (fun c7 => ?_) (fun c7 => ?_)
    · have h := h.1 c7
      refine r_aload_n 0 dX12_way_258 rfl rfl ?_
      refine mg_99 rfl dX12_way_259 ?_
      refine r_iload 3 dX12_way_262 rfl ?_
      refine ml_99 b6 dX12_way_264 ?_
      refine r_iload 2 dX12_way_265 rfl ?_
      refine r_icmp_ne (tgt := 282) dX12_way_267 (by decide) (fun c8 => ?_) (fun c8 => ?_)
      · have h := h.1 c8
        refine r_iinc 3 [(5, .int (y5 + 1)), (0, .ref (q 0)), (3, .int (y3)), (4, .int (y4)), (6, .int (y6))] dX12_way_282 rfl rfl (Nat.le_of_ble_eq_true rfl) rfl ?_
        refine r_goto (tgt := 151) dX12_way_285 (by decide) ?_
        refine r_ls [1, 2, 3, 0] (ls2 := [(0, .ref (q 0)), (3, .int (y3)), (4, .int (y4)), (5, .int (y5 + 1))]) rfl ?_
        exact h
      · have h := h.2 c8
        refine r_aload_n 0 dX12_way_270 rfl rfl ?_
        refine r_iload 3 dX12_way_271 rfl ?_
        obtain ⟨b9, h⟩ := h
        refine KP_isBorder (d := d + 1) b9 rfl (Nat.le_of_ble_eq_true rfl) dX12_way_273 ?_
        refine r_if_eqb (tgt := 282) dX12_way_276 (by decide) (fun c10 => ?_) (fun c10 => ?_)
        · have h := h.1 c10
          refine r_iinc 3 [(5, .int (y5 + 1)), (0, .ref (q 0)), (3, .int (y3)), (4, .int (y4)), (6, .int (y6))] dX12_way_282 rfl rfl (Nat.le_of_ble_eq_true rfl) rfl ?_
          refine r_goto (tgt := 151) dX12_way_285 (by decide) ?_
          refine r_ls [1, 2, 3, 0] (ls2 := [(0, .ref (q 0)), (3, .int (y3)), (4, .int (y4)), (5, .int (y5 + 1))]) rfl ?_
          exact h
        · have h := h.2 c10
          refine r_iload 2 dX12_way_279 rfl ?_
          exact r_iret dX12_way_281 rfl (Nat.le_refl _) (Nat.le_refl _) ⟨_, _, rfl, rfl, h⟩
    · have h := h.2 c7
      refine r_aload_n 0 dX12_way_218 rfl rfl ?_
      refine mg_99 rfl dX12_way_219 ?_
      refine r_iload 4 dX12_way_222 rfl ?_
      obtain ⟨b11, h⟩ := h
      refine ml_99 b11 dX12_way_224 ?_
      refine r_iload 2 dX12_way_225 rfl ?_
      refine r_iconst_1 dX12_way_227 ?_
      refine r_isub dX12_way_228 ?_
      refine r_icmp_ne (tgt := 252) dX12_way_229 (by decide) (fun c12 => ?_) (fun c12 => ?_)
      · have h := h.1 c12
        refine r_iinc 4 [(6, .int (y6 + 1)), (0, .ref (q 0)), (3, .int (y3)), (4, .int (y4)), (5, .int (y5))] dX12_way_252 rfl rfl (Nat.le_of_ble_eq_true rfl) rfl ?_
        refine r_goto (tgt := 193) dX12_way_255 (by decide) ?_
        refine r_ls [1, 2, 3, 4, 0] (ls2 := [(0, .ref (q 0)), (3, .int (y3)), (4, .int (y4)), (5, .int (y5)), (6, .int (y6 + 1))]) rfl ?_
        exact h
      · have h := h.2 c12
        refine r_aload_n 0 dX12_way_232 rfl rfl ?_
        refine r_iload 4 dX12_way_233 rfl ?_
        refine r_iload 3 dX12_way_235 rfl ?_
        obtain ⟨b13, h⟩ := h
        refine KP_areBeside (d := d + 0) b13 rfl (Nat.le_of_ble_eq_true rfl) dX12_way_237 ?_
        refine r_if_eqb (tgt := 252) dX12_way_240 (by decide) (fun c14 => ?_) (fun c14 => ?_)
        · have h := h.1 c14
          refine r_iinc 4 [(6, .int (y6 + 1)), (0, .ref (q 0)), (3, .int (y3)), (4, .int (y4)), (5, .int (y5))] dX12_way_252 rfl rfl (Nat.le_of_ble_eq_true rfl) rfl ?_
          refine r_goto (tgt := 193) dX12_way_255 (by decide) ?_
          refine r_ls [1, 2, 3, 4, 0] (ls2 := [(0, .ref (q 0)), (3, .int (y3)), (4, .int (y4)), (5, .int (y5)), (6, .int (y6 + 1))]) rfl ?_
          exact h
        · have h := h.2 c14
          refine r_aload_n 0 dX12_way_243 rfl rfl ?_
          refine mg_99 rfl dX12_way_244 ?_
          refine r_iload 3 dX12_way_247 rfl ?_
          refine r_iload 2 dX12_way_249 rfl ?_
          refine mt_99 b6 dX12_way_251 ?_
          refine r_iinc 4 [(6, .int (y6 + 1)), (0, .ref (q 0)), (3, .int (y3)), (4, .int (y4)), (5, .int (y5))] dX12_way_252 rfl rfl (Nat.le_of_ble_eq_true rfl) rfl ?_
          refine r_goto (tgt := 193) dX12_way_255 (by decide) ?_
          refine r_ls [1, 2, 3, 4, 0] (ls2 := [(0, .ref (q 0)), (3, .int (y3)), (4, .int (y4)), (5, .int (y5)), (6, .int (y6 + 1))]) rfl ?_
          exact h
set_option maxRecDepth 20000 in
theorem en_sign {E : EvT} {q : Nat → Nat} {d : Nat} {x1 : Int32} {x2 : Int32} {x3 : Int32} {x4 : Int32} {S : StM} {P : Bool → StM → Prop} (h : ((mIn x1 0 29) = false → (P false S)) ∧ ((mIn x1 0 29) = true → (((mIn x2 0 7) = false → (P false S)) ∧ ((mIn x2 0 7) = true → (((mPlace S x3) = false → (P false S)) ∧ ((mPlace S x3) = true → (((mIn x4 0 (s_now S)) = false → (P false S)) ∧ ((mIn x4 0 (s_now S)) = true → ((¬ (s_signs S) = 100 → ((0 ≤ (s_signs S) ∧ (s_signs S) < 100) ∧ (P true (sI (sA (sA (sA (sA S 102 (upd (a_signName S) (ix (s_signs S)) x1)) 103 (upd (a_signKind S) (ix (s_signs S)) x2)) 104 (upd (a_signPlace S) (ix (s_signs S)) x3)) 105 (upd (a_signWeek S) (ix (s_signs S)) x4)) 100 ((s_signs S) + 1))))) ∧ ((s_signs S) = 100 → (P false S))))))))))) : C_sign E q (d + 1) x1 x2 x3 x4 S P := by
  refine Cn.of rfl (Nat.le_of_ble_eq_true rfl) (ls := [(0, .ref (q 0)), (1, .int (x1)), (2, .int (x2)), (3, .int (x3)), (4, .int (x4))]) rfl ?_
  refine r_iload_n 1 dX12_sign_0 rfl rfl ?_
  refine r_iconst_0 dX12_sign_1 ?_
  refine r_bipush_29 dX12_sign_2 ?_
  refine KP_in (d := d + 0)  rfl (Nat.le_of_ble_eq_true rfl) dX12_sign_4 ?_
  refine r_if_eqb (tgt := 50) dX12_sign_7 (by decide) (fun c1 => ?_) (fun c1 => ?_)
  · have h := h.1 c1
    refine r_iconst_0 dX12_sign_50 ?_
    exact r_zret0 dX12_sign_51 rfl (Nat.le_refl _) (Nat.le_refl _) ⟨_, _, rfl, rfl, h⟩
  · have h := h.2 c1
    refine r_iload_n 2 dX12_sign_10 rfl rfl ?_
    refine r_iconst_0 dX12_sign_11 ?_
    refine r_bipush_7 dX12_sign_12 ?_
    refine KP_in (d := d + 0)  rfl (Nat.le_of_ble_eq_true rfl) dX12_sign_14 ?_
    refine r_if_eqb (tgt := 50) dX12_sign_17 (by decide) (fun c2 => ?_) (fun c2 => ?_)
    · have h := h.1 c2
      refine r_iconst_0 dX12_sign_50 ?_
      exact r_zret0 dX12_sign_51 rfl (Nat.le_refl _) (Nat.le_refl _) ⟨_, _, rfl, rfl, h⟩
    · have h := h.2 c2
      refine r_aload_n 0 dX12_sign_20 rfl rfl ?_
      refine r_iload_n 3 dX12_sign_21 rfl rfl ?_
      refine KP_isPlace (d := d + 0)  rfl (Nat.le_of_ble_eq_true rfl) dX12_sign_22 ?_
      refine r_if_eqb (tgt := 50) dX12_sign_25 (by decide) (fun c3 => ?_) (fun c3 => ?_)
      · have h := h.1 c3
        refine r_iconst_0 dX12_sign_50 ?_
        exact r_zret0 dX12_sign_51 rfl (Nat.le_refl _) (Nat.le_refl _) ⟨_, _, rfl, rfl, h⟩
      · have h := h.2 c3
        refine r_iload 4 dX12_sign_28 rfl ?_
        refine r_iconst_0 dX12_sign_30 ?_
        refine r_aload_n 0 dX12_sign_31 rfl rfl ?_
        refine mg_2 rfl dX12_sign_32 ?_
        refine KP_in (d := d + 0)  rfl (Nat.le_of_ble_eq_true rfl) dX12_sign_35 ?_
        refine r_if_eqb (tgt := 50) dX12_sign_38 (by decide) (fun c4 => ?_) (fun c4 => ?_)
        · have h := h.1 c4
          refine r_iconst_0 dX12_sign_50 ?_
          exact r_zret0 dX12_sign_51 rfl (Nat.le_refl _) (Nat.le_refl _) ⟨_, _, rfl, rfl, h⟩
        · have h := h.2 c4
          refine r_aload_n 0 dX12_sign_41 rfl rfl ?_
          refine mg_100 rfl dX12_sign_42 ?_
          refine r_bipush_100 dX12_sign_45 ?_
          refine r_icmp_ne (tgt := 52) dX12_sign_47 (by decide) (fun c5 => ?_) (fun c5 => ?_)
          · have h := h.1 c5
            refine r_aload_n 0 dX12_sign_52 rfl rfl ?_
            refine mg_102 rfl dX12_sign_53 ?_
            refine r_aload_n 0 dX12_sign_56 rfl rfl ?_
            refine mg_100 rfl dX12_sign_57 ?_
            refine r_iload_n 1 dX12_sign_60 rfl rfl ?_
            obtain ⟨b6, h⟩ := h
            refine mt_102 b6 dX12_sign_61 ?_
            refine r_aload_n 0 dX12_sign_62 rfl rfl ?_
            refine mg_103 rfl dX12_sign_63 ?_
            refine r_aload_n 0 dX12_sign_66 rfl rfl ?_
            refine mg_100 rfl dX12_sign_67 ?_
            refine r_iload_n 2 dX12_sign_70 rfl rfl ?_
            refine mt_103 b6 dX12_sign_71 ?_
            refine r_aload_n 0 dX12_sign_72 rfl rfl ?_
            refine mg_104 rfl dX12_sign_73 ?_
            refine r_aload_n 0 dX12_sign_76 rfl rfl ?_
            refine mg_100 rfl dX12_sign_77 ?_
            refine r_iload_n 3 dX12_sign_80 rfl rfl ?_
            refine mt_104 b6 dX12_sign_81 ?_
            refine r_aload_n 0 dX12_sign_82 rfl rfl ?_
            refine mg_105 rfl dX12_sign_83 ?_
            refine r_aload_n 0 dX12_sign_86 rfl rfl ?_
            refine mg_100 rfl dX12_sign_87 ?_
            refine r_iload 4 dX12_sign_90 rfl ?_
            refine mt_105 b6 dX12_sign_92 ?_
            refine r_aload_n 0 dX12_sign_93 rfl rfl ?_
            refine r_aload_n 0 dX12_sign_94 rfl rfl ?_
            refine mg_100 rfl dX12_sign_95 ?_
            refine r_iconst_1 dX12_sign_98 ?_
            refine r_iadd dX12_sign_99 ?_
            refine mq_100 rfl dX12_sign_100 ?_
            refine r_iconst_1 dX12_sign_103 ?_
            exact r_zret1 dX12_sign_104 rfl (Nat.le_refl _) (Nat.le_refl _) ⟨_, _, rfl, rfl, h⟩
          · have h := h.2 c5
            refine r_iconst_0 dX12_sign_50 ?_
            exact r_zret0 dX12_sign_51 rfl (Nat.le_refl _) (Nat.le_refl _) ⟨_, _, rfl, rfl, h⟩
abbrev T_who_21 (E : EvT) (q : Nat → Nat) (D : Nat) (P : Int32 → StM → Prop) (S : StM) (y1 : Int32) (y2 : Int32) (y3 : Int32) : Prop := RM E q iM_who D (qI E q P) S [(0, .ref (q 0)), (1, .int (y1)), (2, .int (y2)), (3, .int (y3))] [] 21
abbrev T_who_49 (E : EvT) (q : Nat → Nat) (D : Nat) (P : Int32 → StM → Prop) (S : StM) (y1 : Int32) (y2 : Int32) (y3 : Int32) : Prop := RM E q iM_who D (qI E q P) S [(0, .ref (q 0)), (1, .int (y1)), (2, .int (y2)), (3, .int (y3))] [] 49
abbrev T_who_157 (E : EvT) (q : Nat → Nat) (D : Nat) (P : Int32 → StM → Prop) (S : StM) (y2 : Int32) (y3 : Int32) (y4 : Int32) (y5 : Int32) : Prop := RM E q iM_who D (qI E q P) S [(0, .ref (q 0)), (2, .int (y2)), (3, .int (y3)), (4, .int (y4)), (5, .int (y5))] [] 157
abbrev T_who_233 (E : EvT) (q : Nat → Nat) (D : Nat) (P : Int32 → StM → Prop) (S : StM) (y4 : Int32) (y5 : Int32) (y6 : Int32) : Prop := RM E q iM_who D (qI E q P) S [(0, .ref (q 0)), (4, .int (y4)), (5, .int (y5)), (6, .int (y6))] [] 233
set_option maxRecDepth 20000 in
theorem en_who {E : EvT} {q : Nat → Nat} {d : Nat} {x1 : Int32} {x2 : Int32} {S : StM} {P : Int32 → StM → Prop} (h : ((mPlace S x1) = false → (P (-1) S)) ∧ ((mPlace S x1) = true → (((mIn x2 0 2) = true → (T_who_21 E q (d + 4) P S x1 x2 0)) ∧ ((mIn x2 0 2) = false → (P (-1) S))))) : C_who E q (d + 4) x1 x2 S P := by
  refine Cn.of rfl (Nat.le_of_ble_eq_true rfl) (ls := [(0, .ref (q 0)), (1, .int (x1)), (2, .int (x2))]) rfl ?_
  refine r_aload_n 0 dX12_who_0 rfl rfl ?_
  refine r_iload_n 1 dX12_who_1 rfl rfl ?_
  refine KP_isPlace (d := d + 3)  rfl (Nat.le_of_ble_eq_true rfl) dX12_who_2 ?_
  refine r_if_eqb (tgt := 17) dX12_who_5 (by decide) (fun c1 => ?_) (fun c1 => ?_)
  · have h := h.1 c1
    refine r_iconst_m1 dX12_who_17 ?_
    exact r_iret dX12_who_18 rfl (Nat.le_refl _) (Nat.le_refl _) ⟨_, _, rfl, rfl, h⟩
  · have h := h.2 c1
    refine r_iload_n 2 dX12_who_8 rfl rfl ?_
    refine r_iconst_0 dX12_who_9 ?_
    refine r_iconst_2 dX12_who_10 ?_
    refine KP_in (d := d + 3)  rfl (Nat.le_of_ble_eq_true rfl) dX12_who_11 ?_
    refine r_if_neb (tgt := 19) dX12_who_14 (by decide) (fun c2 => ?_) (fun c2 => ?_)
    · have h := h.1 c2
      refine r_iconst_0 dX12_who_19 ?_
      refine r_istore_n [(3, .int (0)), (0, .ref (q 0)), (1, .int (x1)), (2, .int (x2))] dX12_who_20 rfl (Nat.le_of_ble_eq_true rfl) rfl ?_
      refine r_ls [1, 2, 3, 0] (ls2 := [(0, .ref (q 0)), (1, .int (x1)), (2, .int (x2)), (3, .int (0))]) rfl ?_
      exact h
    · have h := h.2 c2
      refine r_iconst_m1 dX12_who_17 ?_
      exact r_iret dX12_who_18 rfl (Nat.le_refl _) (Nat.le_refl _) ⟨_, _, rfl, rfl, h⟩
set_option maxRecDepth 20000 in
theorem sg_who_21 {E : EvT} {q : Nat → Nat} {d : Nat} {S : StM} {P : Int32 → StM → Prop} {y1 : Int32} {y2 : Int32} {y3 : Int32} (h : (30 ≤ y3 → (T_who_49 E q (d + 4) P S y1 y2 0)) ∧ (¬ 30 ≤ y3 → ((0 ≤ y3 ∧ y3 < 30) ∧ (T_who_21 E q (d + 4) P (sA (sA S 109 (upd (a_nameMany S) (ix y3) 0)) 110 (upd (a_nameWorth S) (ix y3) 0)) y1 y2 (y3 + 1))))) : T_who_21 E q (d + 4) P S y1 y2 y3 := by
  refine r_iload_n 3 dX12_who_21 rfl rfl ?_
  refine r_bipush_30 dX12_who_22 ?_
  refine r_icmp_ge (tgt := 47) dX12_who_24 (by decide) (fun c1 => ?_) (fun c1 => ?_)
  · have h := h.1 c1
    refine r_iconst_0 dX12_who_47 ?_
    refine r_istore_n [(3, .int (0)), (0, .ref (q 0)), (1, .int (y1)), (2, .int (y2))] dX12_who_48 rfl (Nat.le_of_ble_eq_true rfl) rfl ?_
    refine r_ls [1, 2, 3, 0] (ls2 := [(0, .ref (q 0)), (1, .int (y1)), (2, .int (y2)), (3, .int (0))]) rfl ?_
    exact h
  · have h := h.2 c1
    refine r_aload_n 0 dX12_who_27 rfl rfl ?_
    refine mg_109 rfl dX12_who_28 ?_
    refine r_iload_n 3 dX12_who_31 rfl rfl ?_
    refine r_iconst_0 dX12_who_32 ?_
    obtain ⟨b2, h⟩ := h
    refine mt_109 b2 dX12_who_33 ?_
    refine r_aload_n 0 dX12_who_34 rfl rfl ?_
    refine mg_110 rfl dX12_who_35 ?_
    refine r_iload_n 3 dX12_who_38 rfl rfl ?_
    refine r_iconst_0 dX12_who_39 ?_
    refine mt_110 b2 dX12_who_40 ?_
    refine r_iinc 3 [(3, .int (y3 + 1)), (0, .ref (q 0)), (1, .int (y1)), (2, .int (y2))] dX12_who_41 rfl rfl (Nat.le_of_ble_eq_true rfl) rfl ?_
    refine r_goto (tgt := 21) dX12_who_44 (by decide) ?_
    refine r_ls [1, 2, 3, 0] (ls2 := [(0, .ref (q 0)), (1, .int (y1)), (2, .int (y2)), (3, .int (y3 + 1))]) rfl ?_
    exact h
set_option maxRecDepth 20000 in
theorem sg_who_49 {E : EvT} {q : Nat → Nat} {d : Nat} {S : StM} {P : Int32 → StM → Prop} {y1 : Int32} {y2 : Int32} {y3 : Int32} (h : ((s_signs S) ≤ y3 → (T_who_157 E q (d + 4) P S y2 (-1) 0 0)) ∧ (¬ (s_signs S) ≤ y3 → ((0 ≤ y3 ∧ y3 < 100) ∧ (((a_signPlace S (ix y3)) = y1 → (C_setsFacts E q (d + 3) (a_signWeek S (ix y3)) 0 (a_signKind S (ix y3)) 0 y1 S (fun S5 => (0 ≤ (a_signName S5 (ix y3)) ∧ (a_signName S5 (ix y3)) < 30) ∧ (C_numberBy E q (d + 3) 118 0 (sA S5 109 (upd (a_nameMany S5) (ix (a_signName S5 (ix y3))) ((a_nameMany S5 (ix (a_signName S5 (ix y3)))) + 1))) (fun r7 S8 => T_who_49 E q (d + 4) P (sA S8 110 (upd (a_nameWorth S8) (ix (a_signName S5 (ix y3))) ((a_nameWorth S5 (ix (a_signName S5 (ix y3)))) + r7))) y1 y2 (y3 + 1)))))) ∧ (¬ (a_signPlace S (ix y3)) = y1 → (T_who_49 E q (d + 4) P S y1 y2 (y3 + 1))))))) : T_who_49 E q (d + 4) P S y1 y2 y3 := by
  refine r_iload_n 3 dX12_who_49 rfl rfl ?_
  refine r_aload_n 0 dX12_who_50 rfl rfl ?_
  refine mg_100 rfl dX12_who_51 ?_
  refine r_icmp_ge (tgt := 149) dX12_who_54 (by decide) (fun c1 => ?_) (fun c1 => ?_)
  · have h := h.1 c1
    refine r_iconst_m1 dX12_who_149 ?_
    refine r_istore_n [(3, .int ((-1))), (0, .ref (q 0)), (1, .int (y1)), (2, .int (y2))] dX12_who_150 rfl (Nat.le_of_ble_eq_true rfl) rfl ?_
    refine r_iconst_0 dX12_who_151 ?_
    refine r_istore [(4, .int (0)), (3, .int ((-1))), (0, .ref (q 0)), (1, .int (y1)), (2, .int (y2))] dX12_who_152 (Nat.le_of_ble_eq_true rfl) rfl ?_
    refine r_iconst_0 dX12_who_154 ?_
    refine r_istore [(5, .int (0)), (4, .int (0)), (3, .int ((-1))), (0, .ref (q 0)), (1, .int (y1)), (2, .int (y2))] dX12_who_155 (Nat.le_of_ble_eq_true rfl) rfl ?_
    refine r_ls [3, 5, 2, 1, 0] (ls2 := [(0, .ref (q 0)), (2, .int (y2)), (3, .int ((-1))), (4, .int (0)), (5, .int (0))]) rfl ?_
    exact h
  · have h := h.2 c1
    refine r_aload_n 0 dX12_who_57 rfl rfl ?_
    refine mg_104 rfl dX12_who_58 ?_
    refine r_iload_n 3 dX12_who_61 rfl rfl ?_
    obtain ⟨b2, h⟩ := h
    refine ml_104 b2 dX12_who_62 ?_
    refine r_iload_n 1 dX12_who_63 rfl rfl ?_
    refine r_icmp_eq (tgt := 70) dX12_who_64 (by decide) (fun c3 => ?_) (fun c3 => ?_)
    · have h := h.1 c3
      refine r_aload_n 0 dX12_who_70 rfl rfl ?_
      refine r_aload_n 0 dX12_who_71 rfl rfl ?_
      refine mg_105 rfl dX12_who_72 ?_
      refine r_iload_n 3 dX12_who_75 rfl rfl ?_
      refine ml_105 b2 dX12_who_76 ?_
      refine r_iconst_0 dX12_who_77 ?_
      refine r_aload_n 0 dX12_who_78 rfl rfl ?_
      refine mg_103 rfl dX12_who_79 ?_
      refine r_iload_n 3 dX12_who_82 rfl rfl ?_
      refine ml_103 b2 dX12_who_83 ?_
      refine r_iconst_0 dX12_who_84 ?_
      refine r_iload_n 1 dX12_who_85 rfl rfl ?_
      refine K_setsFacts rfl (Nat.le_of_ble_eq_true rfl) dX12_who_86 (mV h (fun S5 h => ?_))
      refine r_aload_n 0 dX12_who_89 rfl rfl ?_
      refine mg_109 rfl dX12_who_90 ?_
      refine r_aload_n 0 dX12_who_93 rfl rfl ?_
      refine mg_102 rfl dX12_who_94 ?_
      refine r_iload_n 3 dX12_who_97 rfl rfl ?_
      refine ml_102 b2 dX12_who_98 ?_
      refine r_aload_n 0 dX12_who_99 rfl rfl ?_
      refine mg_109 rfl dX12_who_100 ?_
      refine r_aload_n 0 dX12_who_103 rfl rfl ?_
      refine mg_102 rfl dX12_who_104 ?_
      refine r_iload_n 3 dX12_who_107 rfl rfl ?_
      refine ml_102 b2 dX12_who_108 ?_
      obtain ⟨b6, h⟩ := h
      refine ml_109 b6 dX12_who_109 ?_
      refine r_iconst_1 dX12_who_110 ?_
      refine r_iadd dX12_who_111 ?_
      refine mt_109 b6 dX12_who_112 ?_
      refine r_aload_n 0 dX12_who_113 rfl rfl ?_
      refine mg_110 rfl dX12_who_114 ?_
      refine r_aload_n 0 dX12_who_117 rfl rfl ?_
      refine mg_102 rfl dX12_who_118 ?_
      refine r_iload_n 3 dX12_who_121 rfl rfl ?_
      refine ml_102 b2 dX12_who_122 ?_
      refine r_aload_n 0 dX12_who_123 rfl rfl ?_
      refine mg_110 rfl dX12_who_124 ?_
      refine r_aload_n 0 dX12_who_127 rfl rfl ?_
      refine mg_102 rfl dX12_who_128 ?_
      refine r_iload_n 3 dX12_who_131 rfl rfl ?_
      refine ml_102 b2 dX12_who_132 ?_
      refine ml_110 b6 dX12_who_133 ?_
      refine r_aload_n 0 dX12_who_134 rfl rfl ?_
      refine r_bipush_118 dX12_who_135 ?_
      refine r_iconst_0 dX12_who_137 ?_
      refine K_numberBy rfl (Nat.le_of_ble_eq_true rfl) dX12_who_138 (mI h (fun r7 S8 h => ?_))
      refine r_iadd dX12_who_141 ?_
      refine mt_110 b6 dX12_who_142 ?_
      refine r_iinc 3 [(3, .int (y3 + 1)), (0, .ref (q 0)), (1, .int (y1)), (2, .int (y2))] dX12_who_143 rfl rfl (Nat.le_of_ble_eq_true rfl) rfl ?_
      refine r_goto (tgt := 49) dX12_who_146 (by decide) ?_
      refine r_ls [1, 2, 3, 0] (ls2 := [(0, .ref (q 0)), (1, .int (y1)), (2, .int (y2)), (3, .int (y3 + 1))]) rfl ?_
      exact h
    · have h := h.2 c3
      refine r_goto (tgt := 143) dX12_who_67 (by decide) ?_
      refine r_iinc 3 [(3, .int (y3 + 1)), (0, .ref (q 0)), (1, .int (y1)), (2, .int (y2))] dX12_who_143 rfl rfl (Nat.le_of_ble_eq_true rfl) rfl ?_
      refine r_goto (tgt := 49) dX12_who_146 (by decide) ?_
      refine r_ls [1, 2, 3, 0] (ls2 := [(0, .ref (q 0)), (1, .int (y1)), (2, .int (y2)), (3, .int (y3 + 1))]) rfl ?_
      exact h
set_option maxRecDepth 20000 in
theorem sg_who_157 {E : EvT} {q : Nat → Nat} {d : Nat} {S : StM} {P : Int32 → StM → Prop} {y2 : Int32} {y3 : Int32} {y4 : Int32} {y5 : Int32} (h : (30 ≤ y5 → ((y3 = (-1) → (P y3 S)) ∧ (¬ y3 = (-1) → ((¬ y2 = 0 → ((¬ y2 = 1 → (T_who_233 E q (d + 4) P S y4 0 0)) ∧ (y2 = 1 → (P y4 S)))) ∧ (y2 = 0 → (P y3 S)))))) ∧ (¬ 30 ≤ y5 → ((0 ≤ y5 ∧ y5 < 30) ∧ (((a_nameMany S (ix y5)) < 2 → (T_who_157 E q (d + 4) P S y2 y3 y4 (y5 + 1))) ∧ (¬ (a_nameMany S (ix y5)) < 2 → ((y4 < (a_nameWorth S (ix y5)) → (T_who_157 E q (d + 4) P S y2 y5 (a_nameWorth S (ix y5)) (y5 + 1))) ∧ (¬ y4 < (a_nameWorth S (ix y5)) → (T_who_157 E q (d + 4) P S y2 y3 y4 (y5 + 1))))))))) : T_who_157 E q (d + 4) P S y2 y3 y4 y5 := by
  refine r_iload 4 dX12_who_157 rfl ?_
  refine r_bipush_30 dX12_who_159 ?_
  refine r_icmp_ge (tgt := 208) dX12_who_161 (by decide) (fun c1 => ?_) (fun c1 => ?_)
  · have h := h.1 c1
    refine r_iload_n 2 dX12_who_208 rfl rfl ?_
    refine r_iconst_m1 dX12_who_209 ?_
    refine r_icmp_eq (tgt := 217) dX12_who_210 (by decide) (fun c2 => ?_) (fun c2 => ?_)
    · have h := h.1 c2
      refine r_iload_n 2 dX12_who_217 rfl rfl ?_
      exact r_iret dX12_who_218 rfl (Nat.le_refl _) (Nat.le_refl _) ⟨_, _, rfl, rfl, h⟩
    · have h := h.2 c2
      refine r_iload_n 1 dX12_who_213 rfl rfl ?_
      refine r_if_ne (tgt := 219) dX12_who_214 (by decide) (fun c3 => ?_) (fun c3 => ?_)
      · have h := h.1 c3
        refine r_iload_n 1 dX12_who_219 rfl rfl ?_
        refine r_iconst_1 dX12_who_220 ?_
        refine r_icmp_ne (tgt := 227) dX12_who_221 (by decide) (fun c4 => ?_) (fun c4 => ?_)
        · have h := h.1 c4
          refine r_iconst_0 dX12_who_227 ?_
          refine r_istore [(5, .int (0)), (0, .ref (q 0)), (2, .int (y2)), (3, .int (y3)), (4, .int (y4))] dX12_who_228 (Nat.le_of_ble_eq_true rfl) rfl ?_
          refine r_iconst_0 dX12_who_230 ?_
          refine r_istore [(6, .int (0)), (5, .int (0)), (0, .ref (q 0)), (2, .int (y2)), (3, .int (y3)), (4, .int (y4))] dX12_who_231 (Nat.le_of_ble_eq_true rfl) rfl ?_
          refine r_ls [2, 5, 1, 0] (ls2 := [(0, .ref (q 0)), (4, .int (y4)), (5, .int (0)), (6, .int (0))]) rfl ?_
          exact h
        · have h := h.2 c4
          refine r_iload 3 dX12_who_224 rfl ?_
          exact r_iret dX12_who_226 rfl (Nat.le_refl _) (Nat.le_refl _) ⟨_, _, rfl, rfl, h⟩
      · have h := h.2 c3
        refine r_iload_n 2 dX12_who_217 rfl rfl ?_
        exact r_iret dX12_who_218 rfl (Nat.le_refl _) (Nat.le_refl _) ⟨_, _, rfl, rfl, h⟩
  · have h := h.2 c1
    refine r_aload_n 0 dX12_who_164 rfl rfl ?_
    refine mg_109 rfl dX12_who_165 ?_
    refine r_iload 4 dX12_who_168 rfl ?_
    obtain ⟨b5, h⟩ := h
    refine ml_109 b5 dX12_who_170 ?_
    refine r_iconst_2 dX12_who_171 ?_
    refine r_icmp_lt (tgt := 202) dX12_who_172 (by decide) (fun c6 => ?_) (fun c6 => ?_)
    · have h := h.1 c6
      refine r_iinc 4 [(5, .int (y5 + 1)), (0, .ref (q 0)), (2, .int (y2)), (3, .int (y3)), (4, .int (y4))] dX12_who_202 rfl rfl (Nat.le_of_ble_eq_true rfl) rfl ?_
      refine r_goto (tgt := 157) dX12_who_205 (by decide) ?_
      refine r_ls [1, 2, 3, 4, 0] (ls2 := [(0, .ref (q 0)), (2, .int (y2)), (3, .int (y3)), (4, .int (y4)), (5, .int (y5 + 1))]) rfl ?_
      exact h
    · have h := h.2 c6
      refine r_aload_n 0 dX12_who_175 rfl rfl ?_
      refine mg_110 rfl dX12_who_176 ?_
      refine r_iload 4 dX12_who_179 rfl ?_
      refine ml_110 b5 dX12_who_181 ?_
      refine r_iload 3 dX12_who_182 rfl ?_
      refine r_icmp_gt (tgt := 190) dX12_who_184 (by decide) (fun c7 => ?_) (fun c7 => ?_)
      · have h := h.1 c7
        refine r_iload 4 dX12_who_190 rfl ?_
        refine r_istore_n [(3, .int (y5)), (0, .ref (q 0)), (2, .int (y2)), (4, .int (y4)), (5, .int (y5))] dX12_who_192 rfl (Nat.le_of_ble_eq_true rfl) rfl ?_
        refine r_aload_n 1 dX12_who_193 rfl rfl ?_
        refine mg_110 rfl dX12_who_194 ?_
        refine r_iload 4 dX12_who_197 rfl ?_
        refine ml_110 b5 dX12_who_199 ?_
        refine r_istore [(4, .int (a_nameWorth S (ix y5))), (3, .int (y5)), (0, .ref (q 0)), (2, .int (y2)), (5, .int (y5))] dX12_who_200 (Nat.le_of_ble_eq_true rfl) rfl ?_
        refine r_iinc 4 [(5, .int (y5 + 1)), (4, .int (a_nameWorth S (ix y5))), (3, .int (y5)), (0, .ref (q 0)), (2, .int (y2))] dX12_who_202 rfl rfl (Nat.le_of_ble_eq_true rfl) rfl ?_
        refine r_goto (tgt := 157) dX12_who_205 (by decide) ?_
        refine r_ls [3, 4, 2, 1, 0] (ls2 := [(0, .ref (q 0)), (2, .int (y2)), (3, .int (y5)), (4, .int (a_nameWorth S (ix y5))), (5, .int (y5 + 1))]) rfl ?_
        exact h
      · have h := h.2 c7
        refine r_goto (tgt := 202) dX12_who_187 (by decide) ?_
        refine r_iinc 4 [(5, .int (y5 + 1)), (0, .ref (q 0)), (2, .int (y2)), (3, .int (y3)), (4, .int (y4))] dX12_who_202 rfl rfl (Nat.le_of_ble_eq_true rfl) rfl ?_
        refine r_goto (tgt := 157) dX12_who_205 (by decide) ?_
        refine r_ls [1, 2, 3, 4, 0] (ls2 := [(0, .ref (q 0)), (2, .int (y2)), (3, .int (y3)), (4, .int (y4)), (5, .int (y5 + 1))]) rfl ?_
        exact h
set_option maxRecDepth 20000 in
theorem sg_who_233 {E : EvT} {q : Nat → Nat} {d : Nat} {S : StM} {P : Int32 → StM → Prop} {y4 : Int32} {y5 : Int32} {y6 : Int32} (h : (30 ≤ y6 → (P y5 S)) ∧ (¬ 30 ≤ y6 → ((0 ≤ y6 ∧ y6 < 30) ∧ (((a_nameMany S (ix y6)) < 2 → (T_who_233 E q (d + 4) P S y4 (y5 + 0) (y6 + 1))) ∧ (¬ (a_nameMany S (ix y6)) < 2 → (((2 * (a_nameWorth S (ix y6))) < y4 → (T_who_233 E q (d + 4) P S y4 (y5 + 0) (y6 + 1))) ∧ (¬ (2 * (a_nameWorth S (ix y6))) < y4 → (T_who_233 E q (d + 4) P S y4 (y5 + 1) (y6 + 1))))))))) : T_who_233 E q (d + 4) P S y4 y5 y6 := by
  refine r_iload 3 dX12_who_233 rfl ?_
  refine r_bipush_30 dX12_who_235 ?_
  refine r_icmp_ge (tgt := 281) dX12_who_237 (by decide) (fun c1 => ?_) (fun c1 => ?_)
  · have h := h.1 c1
    refine r_iload 2 dX12_who_281 rfl ?_
    exact r_iret dX12_who_283 rfl (Nat.le_refl _) (Nat.le_refl _) ⟨_, _, rfl, rfl, h⟩
  · have h := h.2 c1
    refine r_iload 2 dX12_who_240 rfl ?_
    refine r_aload_n 0 dX12_who_242 rfl rfl ?_
    refine mg_109 rfl dX12_who_243 ?_
    refine r_iload 3 dX12_who_246 rfl ?_
    obtain ⟨b2, h⟩ := h
    refine ml_109 b2 dX12_who_248 ?_
    refine r_iconst_2 dX12_who_249 ?_
    refine r_icmp_lt (tgt := 271) dX12_who_250 (by decide) (fun c3 => ?_) (fun c3 => ?_)
    · have h := h.1 c3
      refine r_iconst_0 dX12_who_271 ?_
      refine r_iadd dX12_who_272 ?_
      refine r_istore [(5, .int (y5 + 0)), (0, .ref (q 0)), (4, .int (y4)), (6, .int (y6))] dX12_who_273 (Nat.le_of_ble_eq_true rfl) rfl ?_
      refine r_iinc 3 [(6, .int (y6 + 1)), (5, .int (y5 + 0)), (0, .ref (q 0)), (4, .int (y4))] dX12_who_275 rfl rfl (Nat.le_of_ble_eq_true rfl) rfl ?_
      refine r_goto (tgt := 233) dX12_who_278 (by decide) ?_
      refine r_ls [2, 3, 1, 0] (ls2 := [(0, .ref (q 0)), (4, .int (y4)), (5, .int (y5 + 0)), (6, .int (y6 + 1))]) rfl ?_
      exact h
    · have h := h.2 c3
      refine r_iconst_2 dX12_who_253 ?_
      refine r_aload_n 0 dX12_who_254 rfl rfl ?_
      refine mg_110 rfl dX12_who_255 ?_
      refine r_iload 3 dX12_who_258 rfl ?_
      refine ml_110 b2 dX12_who_260 ?_
      refine r_imul dX12_who_261 ?_
      refine r_iload 1 dX12_who_262 rfl ?_
      refine r_icmp_lt (tgt := 271) dX12_who_264 (by decide) (fun c4 => ?_) (fun c4 => ?_)
      · have h := h.1 c4
        refine r_iconst_0 dX12_who_271 ?_
        refine r_iadd dX12_who_272 ?_
        refine r_istore [(5, .int (y5 + 0)), (0, .ref (q 0)), (4, .int (y4)), (6, .int (y6))] dX12_who_273 (Nat.le_of_ble_eq_true rfl) rfl ?_
        refine r_iinc 3 [(6, .int (y6 + 1)), (5, .int (y5 + 0)), (0, .ref (q 0)), (4, .int (y4))] dX12_who_275 rfl rfl (Nat.le_of_ble_eq_true rfl) rfl ?_
        refine r_goto (tgt := 233) dX12_who_278 (by decide) ?_
        refine r_ls [2, 3, 1, 0] (ls2 := [(0, .ref (q 0)), (4, .int (y4)), (5, .int (y5 + 0)), (6, .int (y6 + 1))]) rfl ?_
        exact h
      · have h := h.2 c4
        refine r_iconst_1 dX12_who_267 ?_
        refine r_goto (tgt := 272) dX12_who_268 (by decide) ?_
        refine r_iadd dX12_who_272 ?_
        refine r_istore [(5, .int (y5 + 1)), (0, .ref (q 0)), (4, .int (y4)), (6, .int (y6))] dX12_who_273 (Nat.le_of_ble_eq_true rfl) rfl ?_
        refine r_iinc 3 [(6, .int (y6 + 1)), (5, .int (y5 + 1)), (0, .ref (q 0)), (4, .int (y4))] dX12_who_275 rfl rfl (Nat.le_of_ble_eq_true rfl) rfl ?_
        refine r_goto (tgt := 233) dX12_who_278 (by decide) ?_
        refine r_ls [2, 3, 1, 0] (ls2 := [(0, .ref (q 0)), (4, .int (y4)), (5, .int (y5 + 1)), (6, .int (y6 + 1))]) rfl ?_
        exact h
set_option maxRecDepth 20000 in
theorem en_work {E : EvT} {q : Nat → Nat} {d : Nat} {x1 : Int32} {x2 : Int32} {x3 : Int32} {S : StM} {P : Int32 → StM → Prop} (h : ((mWall S x1) = false → (P (-1) S)) ∧ ((mWall S x1) = true → (((mIn x2 1 10000) = false → (P (-1) S)) ∧ ((mIn x2 1 10000) = true → (((mIn x3 1 100) = false → (P (-1) S)) ∧ ((mIn x3 1 100) = true → ((¬ (s_works S) = 9 → ((0 ≤ (s_works S) ∧ (s_works S) < 9) ∧ (P (((s_works S) + 1) - 1) (sI (sA (sA (sA S 106 (upd (a_workWall S) (ix (s_works S)) x1)) 107 (upd (a_workCost S) (ix (s_works S)) x2)) 108 (upd (a_workPart S) (ix (s_works S)) x3)) 101 ((s_works S) + 1))))) ∧ ((s_works S) = 9 → (P (-1) S))))))))) : C_work E q (d + 1) x1 x2 x3 S P := by
  refine Cn.of rfl (Nat.le_of_ble_eq_true rfl) (ls := [(0, .ref (q 0)), (1, .int (x1)), (2, .int (x2)), (3, .int (x3))]) rfl ?_
  refine r_aload_n 0 dX12_work_0 rfl rfl ?_
  refine r_iload_n 1 dX12_work_1 rfl rfl ?_
  refine KP_isWall (d := d + 0)  rfl (Nat.le_of_ble_eq_true rfl) dX12_work_2 ?_
  refine r_if_eqb (tgt := 38) dX12_work_5 (by decide) (fun c1 => ?_) (fun c1 => ?_)
  · have h := h.1 c1
    refine r_iconst_m1 dX12_work_38 ?_
    exact r_iret dX12_work_39 rfl (Nat.le_refl _) (Nat.le_refl _) ⟨_, _, rfl, rfl, h⟩
  · have h := h.2 c1
    refine r_iload_n 2 dX12_work_8 rfl rfl ?_
    refine r_iconst_1 dX12_work_9 ?_
    refine r_sipush_10000 dX12_work_10 ?_
    refine KP_in (d := d + 0)  rfl (Nat.le_of_ble_eq_true rfl) dX12_work_13 ?_
    refine r_if_eqb (tgt := 38) dX12_work_16 (by decide) (fun c2 => ?_) (fun c2 => ?_)
    · have h := h.1 c2
      refine r_iconst_m1 dX12_work_38 ?_
      exact r_iret dX12_work_39 rfl (Nat.le_refl _) (Nat.le_refl _) ⟨_, _, rfl, rfl, h⟩
    · have h := h.2 c2
      refine r_iload_n 3 dX12_work_19 rfl rfl ?_
      refine r_iconst_1 dX12_work_20 ?_
      refine r_bipush_100 dX12_work_21 ?_
      refine KP_in (d := d + 0)  rfl (Nat.le_of_ble_eq_true rfl) dX12_work_23 ?_
      refine r_if_eqb (tgt := 38) dX12_work_26 (by decide) (fun c3 => ?_) (fun c3 => ?_)
      · have h := h.1 c3
        refine r_iconst_m1 dX12_work_38 ?_
        exact r_iret dX12_work_39 rfl (Nat.le_refl _) (Nat.le_refl _) ⟨_, _, rfl, rfl, h⟩
      · have h := h.2 c3
        refine r_aload_n 0 dX12_work_29 rfl rfl ?_
        refine mg_101 rfl dX12_work_30 ?_
        refine r_bipush_9 dX12_work_33 ?_
        refine r_icmp_ne (tgt := 40) dX12_work_35 (by decide) (fun c4 => ?_) (fun c4 => ?_)
        · have h := h.1 c4
          refine r_aload_n 0 dX12_work_40 rfl rfl ?_
          refine mg_106 rfl dX12_work_41 ?_
          refine r_aload_n 0 dX12_work_44 rfl rfl ?_
          refine mg_101 rfl dX12_work_45 ?_
          refine r_iload_n 1 dX12_work_48 rfl rfl ?_
          obtain ⟨b5, h⟩ := h
          refine mt_106 b5 dX12_work_49 ?_
          refine r_aload_n 0 dX12_work_50 rfl rfl ?_
          refine mg_107 rfl dX12_work_51 ?_
          refine r_aload_n 0 dX12_work_54 rfl rfl ?_
          refine mg_101 rfl dX12_work_55 ?_
          refine r_iload_n 2 dX12_work_58 rfl rfl ?_
          refine mt_107 b5 dX12_work_59 ?_
          refine r_aload_n 0 dX12_work_60 rfl rfl ?_
          refine mg_108 rfl dX12_work_61 ?_
          refine r_aload_n 0 dX12_work_64 rfl rfl ?_
          refine mg_101 rfl dX12_work_65 ?_
          refine r_iload_n 3 dX12_work_68 rfl rfl ?_
          refine mt_108 b5 dX12_work_69 ?_
          refine r_aload_n 0 dX12_work_70 rfl rfl ?_
          refine r_aload_n 0 dX12_work_71 rfl rfl ?_
          refine mg_101 rfl dX12_work_72 ?_
          refine r_iconst_1 dX12_work_75 ?_
          refine r_iadd dX12_work_76 ?_
          refine mq_101 rfl dX12_work_77 ?_
          refine r_aload_n 0 dX12_work_80 rfl rfl ?_
          refine mg_101 rfl dX12_work_81 ?_
          refine r_iconst_1 dX12_work_84 ?_
          refine r_isub dX12_work_85 ?_
          exact r_iret dX12_work_86 rfl (Nat.le_refl _) (Nat.le_refl _) ⟨_, _, rfl, rfl, h⟩
        · have h := h.2 c4
          refine r_iconst_m1 dX12_work_38 ?_
          exact r_iret dX12_work_39 rfl (Nat.le_refl _) (Nat.le_refl _) ⟨_, _, rfl, rfl, h⟩
abbrev T_saved_4 (E : EvT) (q : Nat → Nat) (D : Nat) (P : Int32 → StM → Prop) (S : StM) (y1 : Int32) (y2 : Int32) (y3 : Int32) : Prop := RM E q iM_saved D (qI E q P) S [(0, .ref (q 0)), (1, .int (y1)), (2, .int (y2)), (3, .int (y3))] [] 4
abbrev T_saved_18 (E : EvT) (q : Nat → Nat) (D : Nat) (P : Int32 → StM → Prop) (S : StM) (y1 : Int32) (y2 : Int32) (y3 : Int32) (y4 : Int32) (y5 : Int32) : Prop := RM E q iM_saved D (qI E q P) S [(0, .ref (q 0)), (1, .int (y1)), (2, .int (y2)), (3, .int (y3)), (4, .int (y4)), (5, .int (y5))] [] 18
set_option maxRecDepth 20000 in
theorem en_saved {E : EvT} {q : Nat → Nat} {d : Nat} {x1 : Int32} {S : StM} {P : Int32 → StM → Prop} (h : T_saved_4 E q d P S x1 0 0) : C_saved E q d x1 S P := by
  refine Cn.of rfl (Nat.le_of_ble_eq_true rfl) (ls := [(0, .ref (q 0)), (1, .int (x1))]) rfl ?_
  refine r_iconst_0 dX12_saved_0 ?_
  refine r_istore_n [(2, .int (0)), (0, .ref (q 0)), (1, .int (x1))] dX12_saved_1 rfl (Nat.le_of_ble_eq_true rfl) rfl ?_
  refine r_iconst_0 dX12_saved_2 ?_
  refine r_istore_n [(3, .int (0)), (2, .int (0)), (0, .ref (q 0)), (1, .int (x1))] dX12_saved_3 rfl (Nat.le_of_ble_eq_true rfl) rfl ?_
  refine r_ls [2, 3, 1, 0] (ls2 := [(0, .ref (q 0)), (1, .int (x1)), (2, .int (0)), (3, .int (0))]) rfl ?_
  exact h
set_option maxRecDepth 20000 in
theorem sg_saved_4 {E : EvT} {q : Nat → Nat} {d : Nat} {S : StM} {P : Int32 → StM → Prop} {y1 : Int32} {y2 : Int32} {y3 : Int32} (h : ((s_walls S) ≤ y3 → (P y2 S)) ∧ (¬ (s_walls S) ≤ y3 → (T_saved_18 E q d P S y1 y2 y3 0 0))) : T_saved_4 E q d P S y1 y2 y3 := by
  refine r_iload_n 3 dX12_saved_4 rfl rfl ?_
  refine r_aload_n 0 dX12_saved_5 rfl rfl ?_
  refine mg_79 rfl dX12_saved_6 ?_
  refine r_icmp_ge (tgt := 111) dX12_saved_9 (by decide) (fun c1 => ?_) (fun c1 => ?_)
  · have h := h.1 c1
    refine r_iload_n 2 dX12_saved_111 rfl rfl ?_
    exact r_iret dX12_saved_112 rfl (Nat.le_refl _) (Nat.le_refl _) ⟨_, _, rfl, rfl, h⟩
  · have h := h.2 c1
    refine r_iconst_0 dX12_saved_12 ?_
    refine r_istore [(4, .int (0)), (0, .ref (q 0)), (1, .int (y1)), (2, .int (y2)), (3, .int (y3))] dX12_saved_13 (Nat.le_of_ble_eq_true rfl) rfl ?_
    refine r_iconst_0 dX12_saved_15 ?_
    refine r_istore [(5, .int (0)), (4, .int (0)), (0, .ref (q 0)), (1, .int (y1)), (2, .int (y2)), (3, .int (y3))] dX12_saved_16 (Nat.le_of_ble_eq_true rfl) rfl ?_
    refine r_ls [2, 3, 4, 5, 1, 0] (ls2 := [(0, .ref (q 0)), (1, .int (y1)), (2, .int (y2)), (3, .int (y3)), (4, .int (0)), (5, .int (0))]) rfl ?_
    exact h
set_option maxRecDepth 20000 in
theorem sg_saved_18 {E : EvT} {q : Nat → Nat} {d : Nat} {S : StM} {P : Int32 → StM → Prop} {y1 : Int32} {y2 : Int32} {y3 : Int32} {y4 : Int32} {y5 : Int32} (h : ((s_works S) ≤ y5 → ((0 ≤ y3 ∧ y3 < 30) ∧ (((a_wallWorth S (ix y3)) ≤ y4 → (T_saved_4 E q d P S y1 (y2 + (a_wallWorth S (ix y3))) (y3 + 1))) ∧ (¬ (a_wallWorth S (ix y3)) ≤ y4 → (T_saved_4 E q d P S y1 (y2 + y4) (y3 + 1)))))) ∧ (¬ (s_works S) ≤ y5 → ((¬ ((y1 >>> (y5 &&& 31)) &&& 1) = 1 → (T_saved_18 E q d P S y1 y2 y3 (y4 + 0) (y5 + 1))) ∧ (((y1 >>> (y5 &&& 31)) &&& 1) = 1 → ((0 ≤ y5 ∧ y5 < 9) ∧ ((¬ (a_workWall S (ix y5)) = y3 → (T_saved_18 E q d P S y1 y2 y3 (y4 + 0) (y5 + 1))) ∧ ((a_workWall S (ix y5)) = y3 → ((0 ≤ y3 ∧ y3 < 30) ∧ (T_saved_18 E q d P S y1 y2 y3 (y4 + (((a_wallWorth S (ix y3)) * (a_workPart S (ix y5))) / 100)) (y5 + 1)))))))))) : T_saved_18 E q d P S y1 y2 y3 y4 y5 := by
  refine r_iload 5 dX12_saved_18 rfl ?_
  refine r_aload_n 0 dX12_saved_20 rfl rfl ?_
  refine mg_101 rfl dX12_saved_21 ?_
  refine r_icmp_ge (tgt := 80) dX12_saved_24 (by decide) (fun c1 => ?_) (fun c1 => ?_)
  · have h := h.1 c1
    refine r_iload_n 2 dX12_saved_80 rfl rfl ?_
    refine r_iload 4 dX12_saved_81 rfl ?_
    refine r_aload_n 0 dX12_saved_83 rfl rfl ?_
    refine mg_82 rfl dX12_saved_84 ?_
    refine r_iload_n 3 dX12_saved_87 rfl rfl ?_
    obtain ⟨b2, h⟩ := h
    refine ml_82 b2 dX12_saved_88 ?_
    refine r_icmp_ge (tgt := 97) dX12_saved_89 (by decide) (fun c3 => ?_) (fun c3 => ?_)
    · have h := h.1 c3
      refine r_aload_n 0 dX12_saved_97 rfl rfl ?_
      refine mg_82 rfl dX12_saved_98 ?_
      refine r_iload_n 3 dX12_saved_101 rfl rfl ?_
      refine ml_82 b2 dX12_saved_102 ?_
      refine r_iadd dX12_saved_103 ?_
      refine r_istore_n [(2, .int (y2 + (a_wallWorth S (ix y3)))), (0, .ref (q 0)), (1, .int (y1)), (3, .int (y3)), (4, .int (y4)), (5, .int (y5))] dX12_saved_104 rfl (Nat.le_of_ble_eq_true rfl) rfl ?_
      refine r_iinc 3 [(3, .int (y3 + 1)), (2, .int (y2 + (a_wallWorth S (ix y3)))), (0, .ref (q 0)), (1, .int (y1)), (4, .int (y4)), (5, .int (y5))] dX12_saved_105 rfl rfl (Nat.le_of_ble_eq_true rfl) rfl ?_
      refine r_goto (tgt := 4) dX12_saved_108 (by decide) ?_
      refine r_ls [2, 3, 1, 0] (ls2 := [(0, .ref (q 0)), (1, .int (y1)), (2, .int (y2 + (a_wallWorth S (ix y3)))), (3, .int (y3 + 1))]) rfl ?_
      exact h
    · have h := h.2 c3
      refine r_iload 4 dX12_saved_92 rfl ?_
      refine r_goto (tgt := 103) dX12_saved_94 (by decide) ?_
      refine r_iadd dX12_saved_103 ?_
      refine r_istore_n [(2, .int (y2 + y4)), (0, .ref (q 0)), (1, .int (y1)), (3, .int (y3)), (4, .int (y4)), (5, .int (y5))] dX12_saved_104 rfl (Nat.le_of_ble_eq_true rfl) rfl ?_
      refine r_iinc 3 [(3, .int (y3 + 1)), (2, .int (y2 + y4)), (0, .ref (q 0)), (1, .int (y1)), (4, .int (y4)), (5, .int (y5))] dX12_saved_105 rfl rfl (Nat.le_of_ble_eq_true rfl) rfl ?_
      refine r_goto (tgt := 4) dX12_saved_108 (by decide) ?_
      refine r_ls [2, 3, 1, 0] (ls2 := [(0, .ref (q 0)), (1, .int (y1)), (2, .int (y2 + y4)), (3, .int (y3 + 1))]) rfl ?_
      exact h
  · have h := h.2 c1
    refine r_iload 4 dX12_saved_27 rfl ?_
    refine r_iload_n 1 dX12_saved_29 rfl rfl ?_
    refine r_iload 5 dX12_saved_30 rfl ?_
    refine r_ishr dX12_saved_32 ?_
    refine r_iconst_1 dX12_saved_33 ?_
    refine r_iand dX12_saved_34 ?_
    refine r_iconst_1 dX12_saved_35 ?_
    refine r_icmp_ne (tgt := 70) dX12_saved_36 (by decide) (fun c4 => ?_) (fun c4 => ?_)
    · have h := h.1 c4
      refine r_iconst_0 dX12_saved_70 ?_
      refine r_iadd dX12_saved_71 ?_
      refine r_istore [(4, .int (y4 + 0)), (0, .ref (q 0)), (1, .int (y1)), (2, .int (y2)), (3, .int (y3)), (5, .int (y5))] dX12_saved_72 (Nat.le_of_ble_eq_true rfl) rfl ?_
      refine r_iinc 5 [(5, .int (y5 + 1)), (4, .int (y4 + 0)), (0, .ref (q 0)), (1, .int (y1)), (2, .int (y2)), (3, .int (y3))] dX12_saved_74 rfl rfl (Nat.le_of_ble_eq_true rfl) rfl ?_
      refine r_goto (tgt := 18) dX12_saved_77 (by decide) ?_
      refine r_ls [2, 3, 4, 5, 1, 0] (ls2 := [(0, .ref (q 0)), (1, .int (y1)), (2, .int (y2)), (3, .int (y3)), (4, .int (y4 + 0)), (5, .int (y5 + 1))]) rfl ?_
      exact h
    · have h := h.2 c4
      refine r_aload_n 0 dX12_saved_39 rfl rfl ?_
      refine mg_106 rfl dX12_saved_40 ?_
      refine r_iload 5 dX12_saved_43 rfl ?_
      obtain ⟨b5, h⟩ := h
      refine ml_106 b5 dX12_saved_45 ?_
      refine r_iload_n 3 dX12_saved_46 rfl rfl ?_
      refine r_icmp_ne (tgt := 70) dX12_saved_47 (by decide) (fun c6 => ?_) (fun c6 => ?_)
      · have h := h.1 c6
        refine r_iconst_0 dX12_saved_70 ?_
        refine r_iadd dX12_saved_71 ?_
        refine r_istore [(4, .int (y4 + 0)), (0, .ref (q 0)), (1, .int (y1)), (2, .int (y2)), (3, .int (y3)), (5, .int (y5))] dX12_saved_72 (Nat.le_of_ble_eq_true rfl) rfl ?_
        refine r_iinc 5 [(5, .int (y5 + 1)), (4, .int (y4 + 0)), (0, .ref (q 0)), (1, .int (y1)), (2, .int (y2)), (3, .int (y3))] dX12_saved_74 rfl rfl (Nat.le_of_ble_eq_true rfl) rfl ?_
        refine r_goto (tgt := 18) dX12_saved_77 (by decide) ?_
        refine r_ls [2, 3, 4, 5, 1, 0] (ls2 := [(0, .ref (q 0)), (1, .int (y1)), (2, .int (y2)), (3, .int (y3)), (4, .int (y4 + 0)), (5, .int (y5 + 1))]) rfl ?_
        exact h
      · have h := h.2 c6
        refine r_aload_n 0 dX12_saved_50 rfl rfl ?_
        refine mg_82 rfl dX12_saved_51 ?_
        refine r_iload_n 3 dX12_saved_54 rfl rfl ?_
        obtain ⟨b7, h⟩ := h
        refine ml_82 b7 dX12_saved_55 ?_
        refine r_aload_n 0 dX12_saved_56 rfl rfl ?_
        refine mg_108 rfl dX12_saved_57 ?_
        refine r_iload 5 dX12_saved_60 rfl ?_
        refine ml_108 b5 dX12_saved_62 ?_
        refine r_imul dX12_saved_63 ?_
        refine r_bipush_100 dX12_saved_64 ?_
        refine r_idiv dX12_saved_66 (by decide) ?_
        refine r_goto (tgt := 71) dX12_saved_67 (by decide) ?_
        refine r_iadd dX12_saved_71 ?_
        refine r_istore [(4, .int (y4 + (((a_wallWorth S (ix y3)) * (a_workPart S (ix y5))) / 100))), (0, .ref (q 0)), (1, .int (y1)), (2, .int (y2)), (3, .int (y3)), (5, .int (y5))] dX12_saved_72 (Nat.le_of_ble_eq_true rfl) rfl ?_
        refine r_iinc 5 [(5, .int (y5 + 1)), (4, .int (y4 + (((a_wallWorth S (ix y3)) * (a_workPart S (ix y5))) / 100))), (0, .ref (q 0)), (1, .int (y1)), (2, .int (y2)), (3, .int (y3))] dX12_saved_74 rfl rfl (Nat.le_of_ble_eq_true rfl) rfl ?_
        refine r_goto (tgt := 18) dX12_saved_77 (by decide) ?_
        refine r_ls [2, 3, 4, 5, 1, 0] (ls2 := [(0, .ref (q 0)), (1, .int (y1)), (2, .int (y2)), (3, .int (y3)), (4, .int (y4 + (((a_wallWorth S (ix y3)) * (a_workPart S (ix y5))) / 100))), (5, .int (y5 + 1))]) rfl ?_
        exact h
abbrev T_costs_4 (E : EvT) (q : Nat → Nat) (D : Nat) (P : Int32 → StM → Prop) (S : StM) (y1 : Int32) (y2 : Int32) (y3 : Int32) : Prop := RM E q iM_costs D (qI E q P) S [(0, .ref (q 0)), (1, .int (y1)), (2, .int (y2)), (3, .int (y3))] [] 4
set_option maxRecDepth 20000 in
theorem en_costs {E : EvT} {q : Nat → Nat} {d : Nat} {x1 : Int32} {S : StM} {P : Int32 → StM → Prop} (h : T_costs_4 E q d P S x1 0 0) : C_costs E q d x1 S P := by
  refine Cn.of rfl (Nat.le_of_ble_eq_true rfl) (ls := [(0, .ref (q 0)), (1, .int (x1))]) rfl ?_
  refine r_iconst_0 dX12_costs_0 ?_
  refine r_istore_n [(2, .int (0)), (0, .ref (q 0)), (1, .int (x1))] dX12_costs_1 rfl (Nat.le_of_ble_eq_true rfl) rfl ?_
  refine r_iconst_0 dX12_costs_2 ?_
  refine r_istore_n [(3, .int (0)), (2, .int (0)), (0, .ref (q 0)), (1, .int (x1))] dX12_costs_3 rfl (Nat.le_of_ble_eq_true rfl) rfl ?_
  refine r_ls [2, 3, 1, 0] (ls2 := [(0, .ref (q 0)), (1, .int (x1)), (2, .int (0)), (3, .int (0))]) rfl ?_
  exact h
set_option maxRecDepth 20000 in
theorem sg_costs_4 {E : EvT} {q : Nat → Nat} {d : Nat} {S : StM} {P : Int32 → StM → Prop} {y1 : Int32} {y2 : Int32} {y3 : Int32} (h : ((s_works S) ≤ y3 → (P y2 S)) ∧ (¬ (s_works S) ≤ y3 → ((¬ ((y1 >>> (y3 &&& 31)) &&& 1) = 1 → (T_costs_4 E q d P S y1 (y2 + 0) (y3 + 1))) ∧ (((y1 >>> (y3 &&& 31)) &&& 1) = 1 → ((0 ≤ y3 ∧ y3 < 9) ∧ (T_costs_4 E q d P S y1 (y2 + (a_workCost S (ix y3))) (y3 + 1))))))) : T_costs_4 E q d P S y1 y2 y3 := by
  refine r_iload_n 3 dX12_costs_4 rfl rfl ?_
  refine r_aload_n 0 dX12_costs_5 rfl rfl ?_
  refine mg_101 rfl dX12_costs_6 ?_
  refine r_icmp_ge (tgt := 40) dX12_costs_9 (by decide) (fun c1 => ?_) (fun c1 => ?_)
  · have h := h.1 c1
    refine r_iload_n 2 dX12_costs_40 rfl rfl ?_
    exact r_iret dX12_costs_41 rfl (Nat.le_refl _) (Nat.le_refl _) ⟨_, _, rfl, rfl, h⟩
  · have h := h.2 c1
    refine r_iload_n 2 dX12_costs_12 rfl rfl ?_
    refine r_iload_n 1 dX12_costs_13 rfl rfl ?_
    refine r_iload_n 3 dX12_costs_14 rfl rfl ?_
    refine r_ishr dX12_costs_15 ?_
    refine r_iconst_1 dX12_costs_16 ?_
    refine r_iand dX12_costs_17 ?_
    refine r_iconst_1 dX12_costs_18 ?_
    refine r_icmp_ne (tgt := 31) dX12_costs_19 (by decide) (fun c2 => ?_) (fun c2 => ?_)
    · have h := h.1 c2
      refine r_iconst_0 dX12_costs_31 ?_
      refine r_iadd dX12_costs_32 ?_
      refine r_istore_n [(2, .int (y2 + 0)), (0, .ref (q 0)), (1, .int (y1)), (3, .int (y3))] dX12_costs_33 rfl (Nat.le_of_ble_eq_true rfl) rfl ?_
      refine r_iinc 3 [(3, .int (y3 + 1)), (2, .int (y2 + 0)), (0, .ref (q 0)), (1, .int (y1))] dX12_costs_34 rfl rfl (Nat.le_of_ble_eq_true rfl) rfl ?_
      refine r_goto (tgt := 4) dX12_costs_37 (by decide) ?_
      refine r_ls [2, 3, 1, 0] (ls2 := [(0, .ref (q 0)), (1, .int (y1)), (2, .int (y2 + 0)), (3, .int (y3 + 1))]) rfl ?_
      exact h
    · have h := h.2 c2
      refine r_aload_n 0 dX12_costs_22 rfl rfl ?_
      refine mg_107 rfl dX12_costs_23 ?_
      refine r_iload_n 3 dX12_costs_26 rfl rfl ?_
      obtain ⟨b3, h⟩ := h
      refine ml_107 b3 dX12_costs_27 ?_
      refine r_goto (tgt := 32) dX12_costs_28 (by decide) ?_
      refine r_iadd dX12_costs_32 ?_
      refine r_istore_n [(2, .int (y2 + (a_workCost S (ix y3)))), (0, .ref (q 0)), (1, .int (y1)), (3, .int (y3))] dX12_costs_33 rfl (Nat.le_of_ble_eq_true rfl) rfl ?_
      refine r_iinc 3 [(3, .int (y3 + 1)), (2, .int (y2 + (a_workCost S (ix y3)))), (0, .ref (q 0)), (1, .int (y1))] dX12_costs_34 rfl rfl (Nat.le_of_ble_eq_true rfl) rfl ?_
      refine r_goto (tgt := 4) dX12_costs_37 (by decide) ?_
      refine r_ls [2, 3, 1, 0] (ls2 := [(0, .ref (q 0)), (1, .int (y1)), (2, .int (y2 + (a_workCost S (ix y3)))), (3, .int (y3 + 1))]) rfl ?_
      exact h
abbrev T_best_17 (E : EvT) (q : Nat → Nat) (D : Nat) (P : Int32 → StM → Prop) (S : StM) (y1 : Int32) (y2 : Int32) (y3 : Int32) : Prop := RM E q iM_best D (qI E q P) S [(0, .ref (q 0)), (1, .int (y1)), (2, .int (y2)), (3, .int (y3))] [] 17
set_option maxRecDepth 20000 in
theorem en_best {E : EvT} {q : Nat → Nat} {d : Nat} {x1 : Int32} {S : StM} {P : Int32 → StM → Prop} (h : ((mIn x1 0 100000) = true → (T_best_17 E q (d + 1) P S x1 0 1)) ∧ ((mIn x1 0 100000) = false → (P (-1) S))) : C_best E q (d + 1) x1 S P := by
  refine Cn.of rfl (Nat.le_of_ble_eq_true rfl) (ls := [(0, .ref (q 0)), (1, .int (x1))]) rfl ?_
  refine r_iload_n 1 dX12_best_0 rfl rfl ?_
  refine r_iconst_0 dX12_best_1 ?_
  refine r_ldcw w9_202 dX12_best_2 ?_
  refine KP_in (d := d + 0)  rfl (Nat.le_of_ble_eq_true rfl) dX12_best_5 ?_
  refine r_if_neb (tgt := 13) dX12_best_8 (by decide) (fun c1 => ?_) (fun c1 => ?_)
  · have h := h.1 c1
    refine r_iconst_0 dX12_best_13 ?_
    refine r_istore_n [(2, .int (0)), (0, .ref (q 0)), (1, .int (x1))] dX12_best_14 rfl (Nat.le_of_ble_eq_true rfl) rfl ?_
    refine r_iconst_1 dX12_best_15 ?_
    refine r_istore_n [(3, .int (1)), (2, .int (0)), (0, .ref (q 0)), (1, .int (x1))] dX12_best_16 rfl (Nat.le_of_ble_eq_true rfl) rfl ?_
    refine r_ls [2, 3, 1, 0] (ls2 := [(0, .ref (q 0)), (1, .int (x1)), (2, .int (0)), (3, .int (1))]) rfl ?_
    exact h
  · have h := h.2 c1
    refine r_iconst_m1 dX12_best_11 ?_
    exact r_iret dX12_best_12 rfl (Nat.le_refl _) (Nat.le_refl _) ⟨_, _, rfl, rfl, h⟩
set_option maxRecDepth 20000 in
theorem sg_best_17 {E : EvT} {q : Nat → Nat} {d : Nat} {S : StM} {P : Int32 → StM → Prop} {y1 : Int32} {y2 : Int32} {y3 : Int32} (h : (((1 : Int32) <<< ((s_works S) &&& 31)) ≤ y3 → (P y2 S)) ∧ (¬ ((1 : Int32) <<< ((s_works S) &&& 31)) ≤ y3 → (C_costs E q d y3 S (fun r2 S3 => (r2 ≤ y1 → (C_saved E q d y3 S3 (fun r5 S6 => C_saved E q d y2 S6 (fun r7 S8 => (0 < (r5 - r7) → (T_best_17 E q (d + 1) P S8 y1 y3 (y3 + 1))) ∧ (¬ 0 < (r5 - r7) → ((¬ (r5 - r7) = 0 → (T_best_17 E q (d + 1) P S8 y1 y2 (y3 + 1))) ∧ ((r5 - r7) = 0 → (C_costs E q d y3 S8 (fun r11 S12 => C_costs E q d y2 S12 (fun r13 S14 => (r13 ≤ r11 → (T_best_17 E q (d + 1) P S14 y1 y2 (y3 + 1))) ∧ (¬ r13 ≤ r11 → (T_best_17 E q (d + 1) P S14 y1 y3 (y3 + 1))))))))))))) ∧ (¬ r2 ≤ y1 → (T_best_17 E q (d + 1) P S3 y1 y2 (y3 + 1))))))) : T_best_17 E q (d + 1) P S y1 y2 y3 := by
  refine r_iload_n 3 dX12_best_17 rfl rfl ?_
  refine r_iconst_1 dX12_best_18 ?_
  refine r_aload_n 0 dX12_best_19 rfl rfl ?_
  refine mg_101 rfl dX12_best_20 ?_
  refine r_ishl dX12_best_23 ?_
  refine r_icmp_ge (tgt := 83) dX12_best_24 (by decide) (fun c1 => ?_) (fun c1 => ?_)
  · have h := h.1 c1
    refine r_iload_n 2 dX12_best_83 rfl rfl ?_
    exact r_iret dX12_best_84 rfl (Nat.le_refl _) (Nat.le_refl _) ⟨_, _, rfl, rfl, h⟩
  · have h := h.2 c1
    refine r_aload_n 0 dX12_best_27 rfl rfl ?_
    refine r_iload_n 3 dX12_best_28 rfl rfl ?_
    refine K_costs rfl (Nat.le_of_ble_eq_true rfl) dX12_best_29 (mI h (fun r2 S3 h => ?_))
    refine r_iload_n 1 dX12_best_32 rfl rfl ?_
    refine r_icmp_le (tgt := 39) dX12_best_33 (by decide) (fun c4 => ?_) (fun c4 => ?_)
    · have h := h.1 c4
      refine r_aload_n 0 dX12_best_39 rfl rfl ?_
      refine r_iload_n 3 dX12_best_40 rfl rfl ?_
      refine K_saved rfl (Nat.le_of_ble_eq_true rfl) dX12_best_41 (mI h (fun r5 S6 h => ?_))
      refine r_aload_n 0 dX12_best_44 rfl rfl ?_
      refine r_iload_n 2 dX12_best_45 rfl rfl ?_
      refine K_saved rfl (Nat.le_of_ble_eq_true rfl) dX12_best_46 (mI h (fun r7 S8 h => ?_))
      refine r_isub dX12_best_49 ?_
      refine r_istore [(4, .int (r5 - r7)), (0, .ref (q 0)), (1, .int (y1)), (2, .int (y2)), (3, .int (y3))] dX12_best_50 (Nat.le_of_ble_eq_true rfl) rfl ?_
      refine r_iload 0 dX12_best_52 rfl ?_
      refine r_if_gt (tgt := 75) dX12_best_54 (by decide) (fun c9 => ?_) (fun c9 => ?_)
      · have h := h.1 c9
        refine r_iload_n 4 dX12_best_75 rfl rfl ?_
        refine r_istore_n [(2, .int (y3)), (4, .int (r5 - r7)), (0, .ref (q 0)), (1, .int (y1)), (3, .int (y3))] dX12_best_76 rfl (Nat.le_of_ble_eq_true rfl) rfl ?_
        refine r_iinc 4 [(3, .int (y3 + 1)), (2, .int (y3)), (4, .int (r5 - r7)), (0, .ref (q 0)), (1, .int (y1))] dX12_best_77 rfl rfl (Nat.le_of_ble_eq_true rfl) rfl ?_
        refine r_goto (tgt := 17) dX12_best_80 (by decide) ?_
        refine r_ls [3, 4, 1, 0] (ls2 := [(0, .ref (q 0)), (1, .int (y1)), (2, .int (y3)), (3, .int (y3 + 1))]) rfl ?_
        exact h
      · have h := h.2 c9
        refine r_iload 0 dX12_best_57 rfl ?_
        refine r_if_ne (tgt := 77) dX12_best_59 (by decide) (fun c10 => ?_) (fun c10 => ?_)
        · have h := h.1 c10
          refine r_iinc 4 [(3, .int (y3 + 1)), (4, .int (r5 - r7)), (0, .ref (q 0)), (1, .int (y1)), (2, .int (y2))] dX12_best_77 rfl rfl (Nat.le_of_ble_eq_true rfl) rfl ?_
          refine r_goto (tgt := 17) dX12_best_80 (by decide) ?_
          refine r_ls [2, 3, 4, 0] (ls2 := [(0, .ref (q 0)), (1, .int (y1)), (2, .int (y2)), (3, .int (y3 + 1))]) rfl ?_
          exact h
        · have h := h.2 c10
          refine r_aload_n 1 dX12_best_62 rfl rfl ?_
          refine r_iload_n 4 dX12_best_63 rfl rfl ?_
          refine K_costs rfl (Nat.le_of_ble_eq_true rfl) dX12_best_64 (mI h (fun r11 S12 h => ?_))
          refine r_aload_n 1 dX12_best_67 rfl rfl ?_
          refine r_iload_n 3 dX12_best_68 rfl rfl ?_
          refine K_costs rfl (Nat.le_of_ble_eq_true rfl) dX12_best_69 (mI h (fun r13 S14 h => ?_))
          refine r_icmp_ge (tgt := 77) dX12_best_72 (by decide) (fun c15 => ?_) (fun c15 => ?_)
          · have h := h.1 c15
            refine r_iinc 4 [(3, .int (y3 + 1)), (4, .int (r5 - r7)), (0, .ref (q 0)), (1, .int (y1)), (2, .int (y2))] dX12_best_77 rfl rfl (Nat.le_of_ble_eq_true rfl) rfl ?_
            refine r_goto (tgt := 17) dX12_best_80 (by decide) ?_
            refine r_ls [2, 3, 4, 0] (ls2 := [(0, .ref (q 0)), (1, .int (y1)), (2, .int (y2)), (3, .int (y3 + 1))]) rfl ?_
            exact h
          · have h := h.2 c15
            refine r_iload_n 4 dX12_best_75 rfl rfl ?_
            refine r_istore_n [(2, .int (y3)), (4, .int (r5 - r7)), (0, .ref (q 0)), (1, .int (y1)), (3, .int (y3))] dX12_best_76 rfl (Nat.le_of_ble_eq_true rfl) rfl ?_
            refine r_iinc 4 [(3, .int (y3 + 1)), (2, .int (y3)), (4, .int (r5 - r7)), (0, .ref (q 0)), (1, .int (y1))] dX12_best_77 rfl rfl (Nat.le_of_ble_eq_true rfl) rfl ?_
            refine r_goto (tgt := 17) dX12_best_80 (by decide) ?_
            refine r_ls [3, 4, 1, 0] (ls2 := [(0, .ref (q 0)), (1, .int (y1)), (2, .int (y3)), (3, .int (y3 + 1))]) rfl ?_
            exact h
    · have h := h.2 c4
      refine r_goto (tgt := 77) dX12_best_36 (by decide) ?_
      refine r_iinc 3 [(3, .int (y3 + 1)), (0, .ref (q 0)), (1, .int (y1)), (2, .int (y2))] dX12_best_77 rfl rfl (Nat.le_of_ble_eq_true rfl) rfl ?_
      refine r_goto (tgt := 17) dX12_best_80 (by decide) ?_
      refine r_ls [1, 2, 3, 0] (ls2 := [(0, .ref (q 0)), (1, .int (y1)), (2, .int (y2)), (3, .int (y3 + 1))]) rfl ?_
      exact h
set_option maxRecDepth 20000 in
theorem en_saves {E : EvT} {q : Nat → Nat} {d : Nat} {x1 : Int32} {S : StM} {P : Int32 → StM → Prop} (h : ((mIn x1 0 (((1 : Int32) <<< ((s_works S) &&& 31)) - 1)) = false → (P (-1) S)) ∧ ((mIn x1 0 (((1 : Int32) <<< ((s_works S) &&& 31)) - 1)) = true → (C_saved E q d x1 S (fun r2 S3 => P r2 S3)))) : C_saves E q (d + 1) x1 S P := by
  refine Cn.of rfl (Nat.le_of_ble_eq_true rfl) (ls := [(0, .ref (q 0)), (1, .int (x1))]) rfl ?_
  refine r_iload_n 1 dX12_saves_0 rfl rfl ?_
  refine r_iconst_0 dX12_saves_1 ?_
  refine r_iconst_1 dX12_saves_2 ?_
  refine r_aload_n 0 dX12_saves_3 rfl rfl ?_
  refine mg_101 rfl dX12_saves_4 ?_
  refine r_ishl dX12_saves_7 ?_
  refine r_iconst_1 dX12_saves_8 ?_
  refine r_isub dX12_saves_9 ?_
  refine KP_in (d := d + 0)  rfl (Nat.le_of_ble_eq_true rfl) dX12_saves_10 ?_
  refine r_if_eqb (tgt := 24) dX12_saves_13 (by decide) (fun c1 => ?_) (fun c1 => ?_)
  · have h := h.1 c1
    refine r_iconst_m1 dX12_saves_24 ?_
    exact r_iret dX12_saves_25 rfl (Nat.le_refl _) (Nat.le_refl _) ⟨_, _, rfl, rfl, h⟩
  · have h := h.2 c1
    refine r_aload_n 0 dX12_saves_16 rfl rfl ?_
    refine r_iload_n 1 dX12_saves_17 rfl rfl ?_
    refine K_saved rfl (Nat.le_of_ble_eq_true rfl) dX12_saves_18 (mI h (fun r2 S3 h => ?_))
    refine r_goto (tgt := 25) dX12_saves_21 (by decide) ?_
    exact r_iret dX12_saves_25 rfl (Nat.le_refl _) (Nat.le_refl _) ⟨_, _, rfl, rfl, h⟩
abbrev T_tapeNumber_6 (E : EvT) (q : Nat → Nat) (D : Nat) (P : Int32 → StM → Prop) (S : StM) (y1 : Int32) (y2 : Int32) (y3 : Int32) : Prop := RM E q iM_tapeNumber D (qI E q P) S [(0, .ref (q 0)), (1, .int (y1)), (2, .int (y2)), (3, .int (y3))] [] 6
set_option maxRecDepth 20000 in
theorem en_tapeNumber {E : EvT} {q : Nat → Nat} {d : Nat} {x1 : Int32} {S : StM} {P : Int32 → StM → Prop} (h : T_tapeNumber_6 E q d P S x1 0 (4 * x1)) : C_tapeNumber E q d x1 S P := by
  refine Cn.of rfl (Nat.le_of_ble_eq_true rfl) (ls := [(0, .ref (q 0)), (1, .int (x1))]) rfl ?_
  refine r_iconst_0 dX12_tapeNumber_0 ?_
  refine r_istore_n [(2, .int (0)), (0, .ref (q 0)), (1, .int (x1))] dX12_tapeNumber_1 rfl (Nat.le_of_ble_eq_true rfl) rfl ?_
  refine r_iconst_4 dX12_tapeNumber_2 ?_
  refine r_iload_n 2 dX12_tapeNumber_3 rfl rfl ?_
  refine r_imul dX12_tapeNumber_4 ?_
  refine r_istore_n [(3, .int (4 * x1)), (2, .int (0)), (0, .ref (q 0)), (1, .int (x1))] dX12_tapeNumber_5 rfl (Nat.le_of_ble_eq_true rfl) rfl ?_
  refine r_ls [2, 3, 1, 0] (ls2 := [(0, .ref (q 0)), (1, .int (x1)), (2, .int (0)), (3, .int (4 * x1))]) rfl ?_
  exact h
set_option maxRecDepth 20000 in
theorem sg_tapeNumber_6 {E : EvT} {q : Nat → Nat} {d : Nat} {S : StM} {P : Int32 → StM → Prop} {y1 : Int32} {y2 : Int32} {y3 : Int32} (h : (((4 * y1) + 4) ≤ y3 → (P y2 S)) ∧ (¬ ((4 * y1) + 4) ≤ y3 → ((0 ≤ y3 ∧ y3 < 400) ∧ (T_tapeNumber_6 E q d P S y1 ((y2 <<< (8 &&& 31)) ||| ((a_tape S (ix y3)) &&& 255)) (y3 + 1))))) : T_tapeNumber_6 E q d P S y1 y2 y3 := by
  refine r_iload_n 3 dX12_tapeNumber_6 rfl rfl ?_
  refine r_iconst_4 dX12_tapeNumber_7 ?_
  refine r_iload_n 1 dX12_tapeNumber_8 rfl rfl ?_
  refine r_imul dX12_tapeNumber_9 ?_
  refine r_iconst_4 dX12_tapeNumber_10 ?_
  refine r_iadd dX12_tapeNumber_11 ?_
  refine r_icmp_ge (tgt := 37) dX12_tapeNumber_12 (by decide) (fun c1 => ?_) (fun c1 => ?_)
  · have h := h.1 c1
    refine r_iload_n 2 dX12_tapeNumber_37 rfl rfl ?_
    exact r_iret dX12_tapeNumber_38 rfl (Nat.le_refl _) (Nat.le_refl _) ⟨_, _, rfl, rfl, h⟩
  · have h := h.2 c1
    refine r_iload_n 2 dX12_tapeNumber_15 rfl rfl ?_
    refine r_bipush_8 dX12_tapeNumber_16 ?_
    refine r_ishl dX12_tapeNumber_18 ?_
    refine r_aload_n 0 dX12_tapeNumber_19 rfl rfl ?_
    refine mg_27 rfl dX12_tapeNumber_20 ?_
    refine r_iload_n 3 dX12_tapeNumber_23 rfl rfl ?_
    obtain ⟨b2, h⟩ := h
    refine ml_27 b2 dX12_tapeNumber_24 ?_
    refine r_sipush_255 dX12_tapeNumber_25 ?_
    refine r_iand dX12_tapeNumber_28 ?_
    refine r_ior dX12_tapeNumber_29 ?_
    refine r_istore_n [(2, .int ((y2 <<< (8 &&& 31)) ||| ((a_tape S (ix y3)) &&& 255))), (0, .ref (q 0)), (1, .int (y1)), (3, .int (y3))] dX12_tapeNumber_30 rfl (Nat.le_of_ble_eq_true rfl) rfl ?_
    refine r_iinc 3 [(3, .int (y3 + 1)), (2, .int ((y2 <<< (8 &&& 31)) ||| ((a_tape S (ix y3)) &&& 255))), (0, .ref (q 0)), (1, .int (y1))] dX12_tapeNumber_31 rfl rfl (Nat.le_of_ble_eq_true rfl) rfl ?_
    refine r_goto (tgt := 6) dX12_tapeNumber_34 (by decide) ?_
    refine r_ls [2, 3, 1, 0] (ls2 := [(0, .ref (q 0)), (1, .int (y1)), (2, .int ((y2 <<< (8 &&& 31)) ||| ((a_tape S (ix y3)) &&& 255))), (3, .int (y3 + 1))]) rfl ?_
    exact h
abbrev T_check_27 (E : EvT) (q : Nat → Nat) (D : Nat) (P : Int32 → StM → Prop) (S : StM) (y1 : Int32) (y2 : Int32) (y3 : Int32) : Prop := RM E q iM_check D (qI E q P) S [(0, .ref (q 0)), (1, .int (y1)), (2, .int (y2)), (3, .int (y3))] [] 27
abbrev T_check_43 (E : EvT) (q : Nat → Nat) (D : Nat) (P : Int32 → StM → Prop) (S : StM) (y1 : Int32) (y2 : Int32) (y3 : Int32) (y4 : Int32) : Prop := RM E q iM_check D (qI E q P) S [(0, .ref (q 0)), (1, .int (y1)), (2, .int (y2)), (3, .int (y3)), (4, .int (y4))] [] 43
set_option maxRecDepth 20000 in
theorem en_check {E : EvT} {q : Nat → Nat} {d : Nat} {x1 : Int32} {S : StM} {P : Int32 → StM → Prop} (h : (x1 < 0 → (P (-2) S)) ∧ (¬ x1 < 0 → ((x1 ≤ ((s_taped S) / 12) → (T_check_27 E q (d + 4) P (sI S 28 0) x1 0 0)) ∧ (¬ x1 ≤ ((s_taped S) / 12) → (P (-2) S))))) : C_check E q (d + 4) x1 S P := by
  refine Cn.of rfl (Nat.le_of_ble_eq_true rfl) (ls := [(0, .ref (q 0)), (1, .int (x1))]) rfl ?_
  refine r_iload_n 1 dX12_check_0 rfl rfl ?_
  refine r_if_lt (tgt := 15) dX12_check_1 (by decide) (fun c1 => ?_) (fun c1 => ?_)
  · have h := h.1 c1
    refine r_bipush_m2 dX12_check_15 ?_
    exact r_iret dX12_check_17 rfl (Nat.le_refl _) (Nat.le_refl _) ⟨_, _, rfl, rfl, h⟩
  · have h := h.2 c1
    refine r_iload_n 1 dX12_check_4 rfl rfl ?_
    refine r_aload_n 0 dX12_check_5 rfl rfl ?_
    refine mg_28 rfl dX12_check_6 ?_
    refine r_bipush_12 dX12_check_9 ?_
    refine r_idiv dX12_check_11 (by decide) ?_
    refine r_icmp_le (tgt := 18) dX12_check_12 (by decide) (fun c2 => ?_) (fun c2 => ?_)
    · have h := h.1 c2
      refine r_aload_n 0 dX12_check_18 rfl rfl ?_
      refine r_iconst_0 dX12_check_19 ?_
      refine mq_28 rfl dX12_check_20 ?_
      refine r_iconst_0 dX12_check_23 ?_
      refine r_istore_n [(2, .int (0)), (0, .ref (q 0)), (1, .int (x1))] dX12_check_24 rfl (Nat.le_of_ble_eq_true rfl) rfl ?_
      refine r_iconst_0 dX12_check_25 ?_
      refine r_istore_n [(3, .int (0)), (2, .int (0)), (0, .ref (q 0)), (1, .int (x1))] dX12_check_26 rfl (Nat.le_of_ble_eq_true rfl) rfl ?_
      refine r_ls [2, 3, 1, 0] (ls2 := [(0, .ref (q 0)), (1, .int (x1)), (2, .int (0)), (3, .int (0))]) rfl ?_
      exact h
    · have h := h.2 c2
      refine r_bipush_m2 dX12_check_15 ?_
      exact r_iret dX12_check_17 rfl (Nat.le_refl _) (Nat.le_refl _) ⟨_, _, rfl, rfl, h⟩
set_option maxRecDepth 20000 in
theorem sg_check_27 {E : EvT} {q : Nat → Nat} {d : Nat} {S : StM} {P : Int32 → StM → Prop} {y1 : Int32} {y2 : Int32} {y3 : Int32} (h : (((s_wide S) * (s_high S)) ≤ y3 → (((3 * y1) ≤ y2 → (P (-1) S)) ∧ (¬ (3 * y1) ≤ y2 → (P y2 S)))) ∧ (¬ ((s_wide S) * (s_high S)) ≤ y3 → (T_check_43 E q (d + 4) P S y1 y2 y3 0))) : T_check_27 E q (d + 4) P S y1 y2 y3 := by
  refine r_iload_n 3 dX12_check_27 rfl rfl ?_
  refine r_aload_n 0 dX12_check_28 rfl rfl ?_
  refine mg_0 rfl dX12_check_29 ?_
  refine r_aload_n 0 dX12_check_32 rfl rfl ?_
  refine mg_1 rfl dX12_check_33 ?_
  refine r_imul dX12_check_36 ?_
  refine r_icmp_ge (tgt := 141) dX12_check_37 (by decide) (fun c1 => ?_) (fun c1 => ?_)
  · have h := h.1 c1
    refine r_iload_n 2 dX12_check_141 rfl rfl ?_
    refine r_iconst_3 dX12_check_142 ?_
    refine r_iload_n 1 dX12_check_143 rfl rfl ?_
    refine r_imul dX12_check_144 ?_
    refine r_icmp_ge (tgt := 152) dX12_check_145 (by decide) (fun c2 => ?_) (fun c2 => ?_)
    · have h := h.1 c2
      refine r_iconst_m1 dX12_check_152 ?_
      exact r_iret dX12_check_153 rfl (Nat.le_refl _) (Nat.le_refl _) ⟨_, _, rfl, rfl, h⟩
    · have h := h.2 c2
      refine r_iload_n 2 dX12_check_148 rfl rfl ?_
      refine r_goto (tgt := 153) dX12_check_149 (by decide) ?_
      exact r_iret dX12_check_153 rfl (Nat.le_refl _) (Nat.le_refl _) ⟨_, _, rfl, rfl, h⟩
  · have h := h.2 c1
    refine r_iconst_0 dX12_check_40 ?_
    refine r_istore [(4, .int (0)), (0, .ref (q 0)), (1, .int (y1)), (2, .int (y2)), (3, .int (y3))] dX12_check_41 (Nat.le_of_ble_eq_true rfl) rfl ?_
    refine r_ls [1, 2, 3, 4, 0] (ls2 := [(0, .ref (q 0)), (1, .int (y1)), (2, .int (y2)), (3, .int (y3)), (4, .int (0))]) rfl ?_
    exact h
set_option maxRecDepth 20000 in
theorem sg_check_43 {E : EvT} {q : Nat → Nat} {d : Nat} {S : StM} {P : Int32 → StM → Prop} {y1 : Int32} {y2 : Int32} {y3 : Int32} {y4 : Int32} (h : (8 ≤ y4 → (T_check_27 E q (d + 4) P S y1 y2 (y3 + 1))) ∧ (¬ 8 ≤ y4 → (C_groundOf E q (d + 3) y3 y4 (s_now S) (s_now S) S (fun r2 S3 => (¬ r2 = 0 → ((y2 = (3 * y1) → (P y2 S3)) ∧ (¬ y2 = (3 * y1) → (C_tapeNumber E q (d + 3) y2 S3 (fun r6 S7 => (r6 = y3 → (C_tapeNumber E q (d + 3) (y2 + 1) S7 (fun r9 S10 => (r9 = y4 → (C_tapeNumber E q (d + 3) (y2 + 2) S10 (fun r12 S13 => (r12 = r2 → (T_check_43 E q (d + 4) P S13 y1 (y2 + 3) y3 (y4 + 1))) ∧ (¬ r12 = r2 → (P (y2 + 2) S13))))) ∧ (¬ r9 = y4 → (P (y2 + 1) S10))))) ∧ (¬ r6 = y3 → (P y2 S7))))))) ∧ (r2 = 0 → (T_check_43 E q (d + 4) P S3 y1 y2 y3 (y4 + 1))))))) : T_check_43 E q (d + 4) P S y1 y2 y3 y4 := by
  refine r_iload 4 dX12_check_43 rfl ?_
  refine r_bipush_8 dX12_check_45 ?_
  refine r_icmp_ge (tgt := 135) dX12_check_47 (by decide) (fun c1 => ?_) (fun c1 => ?_)
  · have h := h.1 c1
    refine r_iinc 3 [(3, .int (y3 + 1)), (0, .ref (q 0)), (1, .int (y1)), (2, .int (y2)), (4, .int (y4))] dX12_check_135 rfl rfl (Nat.le_of_ble_eq_true rfl) rfl ?_
    refine r_goto (tgt := 27) dX12_check_138 (by decide) ?_
    refine r_ls [1, 2, 3, 0] (ls2 := [(0, .ref (q 0)), (1, .int (y1)), (2, .int (y2)), (3, .int (y3 + 1))]) rfl ?_
    exact h
  · have h := h.2 c1
    refine r_aload_n 0 dX12_check_50 rfl rfl ?_
    refine r_iload_n 3 dX12_check_51 rfl rfl ?_
    refine r_iload 4 dX12_check_52 rfl ?_
    refine r_aload_n 0 dX12_check_54 rfl rfl ?_
    refine mg_2 rfl dX12_check_55 ?_
    refine r_aload_n 0 dX12_check_58 rfl rfl ?_
    refine mg_2 rfl dX12_check_59 ?_
    refine K_groundOf rfl (Nat.le_of_ble_eq_true rfl) dX12_check_62 (mI h (fun r2 S3 h => ?_))
    refine r_istore [(5, .int (r2)), (0, .ref (q 0)), (1, .int (y1)), (2, .int (y2)), (3, .int (y3)), (4, .int (y4))] dX12_check_65 (Nat.le_of_ble_eq_true rfl) rfl ?_
    refine r_iload 0 dX12_check_67 rfl ?_
    refine r_if_ne (tgt := 75) dX12_check_69 (by decide) (fun c4 => ?_) (fun c4 => ?_)
    · have h := h.1 c4
      refine r_iload_n 3 dX12_check_75 rfl rfl ?_
      refine r_iconst_3 dX12_check_76 ?_
      refine r_iload_n 2 dX12_check_77 rfl rfl ?_
      refine r_imul dX12_check_78 ?_
      refine r_icmp_eq (tgt := 91) dX12_check_79 (by decide) (fun c5 => ?_) (fun c5 => ?_)
      · have h := h.1 c5
        refine r_iload_n 3 dX12_check_91 rfl rfl ?_
        exact r_iret dX12_check_92 rfl (Nat.le_refl _) (Nat.le_refl _) ⟨_, _, rfl, rfl, h⟩
      · have h := h.2 c5
        refine r_aload_n 1 dX12_check_82 rfl rfl ?_
        refine r_iload_n 3 dX12_check_83 rfl rfl ?_
        refine K_tapeNumber rfl (Nat.le_of_ble_eq_true rfl) dX12_check_84 (mI h (fun r6 S7 h => ?_))
        refine r_iload_n 4 dX12_check_87 rfl rfl ?_
        refine r_icmp_eq (tgt := 93) dX12_check_88 (by decide) (fun c8 => ?_) (fun c8 => ?_)
        · have h := h.1 c8
          refine r_aload_n 1 dX12_check_93 rfl rfl ?_
          refine r_iload_n 3 dX12_check_94 rfl rfl ?_
          refine r_iconst_1 dX12_check_95 ?_
          refine r_iadd dX12_check_96 ?_
          refine K_tapeNumber rfl (Nat.le_of_ble_eq_true rfl) dX12_check_97 (mI h (fun r9 S10 h => ?_))
          refine r_iload 5 dX12_check_100 rfl ?_
          refine r_icmp_eq (tgt := 109) dX12_check_102 (by decide) (fun c11 => ?_) (fun c11 => ?_)
          · have h := h.1 c11
            refine r_aload_n 1 dX12_check_109 rfl rfl ?_
            refine r_iload_n 3 dX12_check_110 rfl rfl ?_
            refine r_iconst_2 dX12_check_111 ?_
            refine r_iadd dX12_check_112 ?_
            refine K_tapeNumber rfl (Nat.le_of_ble_eq_true rfl) dX12_check_113 (mI h (fun r12 S13 h => ?_))
            refine r_iload 0 dX12_check_116 rfl ?_
            refine r_icmp_eq (tgt := 125) dX12_check_118 (by decide) (fun c14 => ?_) (fun c14 => ?_)
            · have h := h.1 c14
              refine r_iload_n 3 dX12_check_125 rfl rfl ?_
              refine r_iconst_3 dX12_check_126 ?_
              refine r_iadd dX12_check_127 ?_
              refine r_istore_n [(2, .int (y2 + 3)), (5, .int (r2)), (0, .ref (q 0)), (1, .int (y1)), (3, .int (y3)), (4, .int (y4))] dX12_check_128 rfl (Nat.le_of_ble_eq_true rfl) rfl ?_
              refine r_iinc 5 [(4, .int (y4 + 1)), (2, .int (y2 + 3)), (5, .int (r2)), (0, .ref (q 0)), (1, .int (y1)), (3, .int (y3))] dX12_check_129 rfl rfl (Nat.le_of_ble_eq_true rfl) rfl ?_
              refine r_goto (tgt := 43) dX12_check_132 (by decide) ?_
              refine r_ls [3, 4, 1, 5, 0] (ls2 := [(0, .ref (q 0)), (1, .int (y1)), (2, .int (y2 + 3)), (3, .int (y3)), (4, .int (y4 + 1))]) rfl ?_
              exact h
            · have h := h.2 c14
              refine r_iload_n 3 dX12_check_121 rfl rfl ?_
              refine r_iconst_2 dX12_check_122 ?_
              refine r_iadd dX12_check_123 ?_
              exact r_iret dX12_check_124 rfl (Nat.le_refl _) (Nat.le_refl _) ⟨_, _, rfl, rfl, h⟩
          · have h := h.2 c11
            refine r_iload_n 3 dX12_check_105 rfl rfl ?_
            refine r_iconst_1 dX12_check_106 ?_
            refine r_iadd dX12_check_107 ?_
            exact r_iret dX12_check_108 rfl (Nat.le_refl _) (Nat.le_refl _) ⟨_, _, rfl, rfl, h⟩
        · have h := h.2 c8
          refine r_iload_n 3 dX12_check_91 rfl rfl ?_
          exact r_iret dX12_check_92 rfl (Nat.le_refl _) (Nat.le_refl _) ⟨_, _, rfl, rfl, h⟩
    · have h := h.2 c4
      refine r_goto (tgt := 129) dX12_check_72 (by decide) ?_
      refine r_iinc 5 [(4, .int (y4 + 1)), (5, .int (r2)), (0, .ref (q 0)), (1, .int (y1)), (2, .int (y2)), (3, .int (y3))] dX12_check_129 rfl rfl (Nat.le_of_ble_eq_true rfl) rfl ?_
      refine r_goto (tgt := 43) dX12_check_132 (by decide) ?_
      refine r_ls [2, 3, 4, 5, 0] (ls2 := [(0, .ref (q 0)), (1, .int (y1)), (2, .int (y2)), (3, .int (y3)), (4, .int (y4 + 1))]) rfl ?_
      exact h
set_option maxRecDepth 20000 in
theorem en_count {E : EvT} {q : Nat → Nat} {d : Nat} {x1 : Int32} {S : StM} {P : Int32 → StM → Prop} (h : (x1 = 0 → (P (s_now S) S)) ∧ (¬ x1 = 0 → ((x1 = 1 → (P (s_wide S) S)) ∧ (¬ x1 = 1 → ((x1 = 2 → (P (s_high S) S)) ∧ (¬ x1 = 2 → ((x1 = 3 → (P (s_places S) S)) ∧ (¬ x1 = 3 → ((x1 = 4 → (P (s_digs S) S)) ∧ (¬ x1 = 4 → ((x1 = 5 → (P (s_ruleMany0 S) S)) ∧ (¬ x1 = 5 → ((x1 = 6 → (P (s_finds S) S)) ∧ (¬ x1 = 6 → ((x1 = 7 → (P (s_things S) S)) ∧ (¬ x1 = 7 → ((x1 = 8 → (P (s_walls S) S)) ∧ (¬ x1 = 8 → ((x1 = 9 → (P (s_drawings S) S)) ∧ (¬ x1 = 9 → ((x1 = 10 → (P (s_cuts S) S)) ∧ (¬ x1 = 10 → ((x1 = 11 → (P (s_hollows S) S)) ∧ (¬ x1 = 11 → ((x1 = 12 → (P (s_signs S) S)) ∧ (¬ x1 = 12 → ((x1 = 13 → (P (s_works S) S)) ∧ (¬ x1 = 13 → ((x1 = 14 → (P (s_taped S) S)) ∧ (¬ x1 = 14 → ((x1 = 15 → (P (s_meanings S) S)) ∧ (¬ x1 = 15 → (((mIn x1 20 (19 + (s_ruleMany0 S))) = false → (P (-1) S)) ∧ ((mIn x1 20 (19 + (s_ruleMany0 S))) = true → ((0 ≤ (x1 - 20) ∧ (x1 - 20) < 20) ∧ (P (a_clauseMany S (ix (x1 - 20))) S)))))))))))))))))))))))))))))))))))) : C_count E q (d + 1) x1 S P := by
  refine Cn.of rfl (Nat.le_of_ble_eq_true rfl) (ls := [(0, .ref (q 0)), (1, .int (x1))]) rfl ?_
  refine r_iload_n 1 dX12_count_0 rfl rfl ?_
  by_cases c1 : x1 = 0
  · have h := h.1 c1
    refine r_tableIn (tgt := 80) dX12_count_1 (by rw [c1]; decide) (by rw [c1]; decide) (by rw [c1]; rfl) (by decide) ?_
    refine r_aload_n 0 dX12_count_80 rfl rfl ?_
    refine mg_2 rfl dX12_count_81 ?_
    exact r_iret dX12_count_84 rfl (Nat.le_refl _) (Nat.le_refl _) ⟨_, _, rfl, rfl, h⟩
  · have h := h.2 c1
    by_cases c2 : x1 = 1
    · have h := h.1 c2
      refine r_tableIn (tgt := 85) dX12_count_1 (by rw [c2]; decide) (by rw [c2]; decide) (by rw [c2]; rfl) (by decide) ?_
      refine r_aload_n 0 dX12_count_85 rfl rfl ?_
      refine mg_0 rfl dX12_count_86 ?_
      exact r_iret dX12_count_89 rfl (Nat.le_refl _) (Nat.le_refl _) ⟨_, _, rfl, rfl, h⟩
    · have h := h.2 c2
      by_cases c3 : x1 = 2
      · have h := h.1 c3
        refine r_tableIn (tgt := 90) dX12_count_1 (by rw [c3]; decide) (by rw [c3]; decide) (by rw [c3]; rfl) (by decide) ?_
        refine r_aload_n 0 dX12_count_90 rfl rfl ?_
        refine mg_1 rfl dX12_count_91 ?_
        exact r_iret dX12_count_94 rfl (Nat.le_refl _) (Nat.le_refl _) ⟨_, _, rfl, rfl, h⟩
      · have h := h.2 c3
        by_cases c4 : x1 = 3
        · have h := h.1 c4
          refine r_tableIn (tgt := 95) dX12_count_1 (by rw [c4]; decide) (by rw [c4]; decide) (by rw [c4]; rfl) (by decide) ?_
          refine r_aload_n 0 dX12_count_95 rfl rfl ?_
          refine mg_3 rfl dX12_count_96 ?_
          exact r_iret dX12_count_99 rfl (Nat.le_refl _) (Nat.le_refl _) ⟨_, _, rfl, rfl, h⟩
        · have h := h.2 c4
          by_cases c5 : x1 = 4
          · have h := h.1 c5
            refine r_tableIn (tgt := 100) dX12_count_1 (by rw [c5]; decide) (by rw [c5]; decide) (by rw [c5]; rfl) (by decide) ?_
            refine r_aload_n 0 dX12_count_100 rfl rfl ?_
            refine mg_4 rfl dX12_count_101 ?_
            exact r_iret dX12_count_104 rfl (Nat.le_refl _) (Nat.le_refl _) ⟨_, _, rfl, rfl, h⟩
          · have h := h.2 c5
            by_cases c6 : x1 = 5
            · have h := h.1 c6
              refine r_tableIn (tgt := 105) dX12_count_1 (by rw [c6]; decide) (by rw [c6]; decide) (by rw [c6]; rfl) (by decide) ?_
              refine r_aload_n 0 dX12_count_105 rfl rfl ?_
              refine mg_44 rfl dX12_count_106 ?_
              exact r_iret dX12_count_109 rfl (Nat.le_refl _) (Nat.le_refl _) ⟨_, _, rfl, rfl, h⟩
            · have h := h.2 c6
              by_cases c7 : x1 = 6
              · have h := h.1 c7
                refine r_tableIn (tgt := 110) dX12_count_1 (by rw [c7]; decide) (by rw [c7]; decide) (by rw [c7]; rfl) (by decide) ?_
                refine r_aload_n 0 dX12_count_110 rfl rfl ?_
                refine mg_57 rfl dX12_count_111 ?_
                exact r_iret dX12_count_114 rfl (Nat.le_refl _) (Nat.le_refl _) ⟨_, _, rfl, rfl, h⟩
              · have h := h.2 c7
                by_cases c8 : x1 = 7
                · have h := h.1 c8
                  refine r_tableIn (tgt := 115) dX12_count_1 (by rw [c8]; decide) (by rw [c8]; decide) (by rw [c8]; rfl) (by decide) ?_
                  refine r_aload_n 0 dX12_count_115 rfl rfl ?_
                  refine mg_68 rfl dX12_count_116 ?_
                  exact r_iret dX12_count_119 rfl (Nat.le_refl _) (Nat.le_refl _) ⟨_, _, rfl, rfl, h⟩
                · have h := h.2 c8
                  by_cases c9 : x1 = 8
                  · have h := h.1 c9
                    refine r_tableIn (tgt := 120) dX12_count_1 (by rw [c9]; decide) (by rw [c9]; decide) (by rw [c9]; rfl) (by decide) ?_
                    refine r_aload_n 0 dX12_count_120 rfl rfl ?_
                    refine mg_79 rfl dX12_count_121 ?_
                    exact r_iret dX12_count_124 rfl (Nat.le_refl _) (Nat.le_refl _) ⟨_, _, rfl, rfl, h⟩
                  · have h := h.2 c9
                    by_cases c10 : x1 = 9
                    · have h := h.1 c10
                      refine r_tableIn (tgt := 125) dX12_count_1 (by rw [c10]; decide) (by rw [c10]; decide) (by rw [c10]; rfl) (by decide) ?_
                      refine r_aload_n 0 dX12_count_125 rfl rfl ?_
                      refine mg_80 rfl dX12_count_126 ?_
                      exact r_iret dX12_count_129 rfl (Nat.le_refl _) (Nat.le_refl _) ⟨_, _, rfl, rfl, h⟩
                    · have h := h.2 c10
                      by_cases c11 : x1 = 10
                      · have h := h.1 c11
                        refine r_tableIn (tgt := 130) dX12_count_1 (by rw [c11]; decide) (by rw [c11]; decide) (by rw [c11]; rfl) (by decide) ?_
                        refine r_aload_n 0 dX12_count_130 rfl rfl ?_
                        refine mg_89 rfl dX12_count_131 ?_
                        exact r_iret dX12_count_134 rfl (Nat.le_refl _) (Nat.le_refl _) ⟨_, _, rfl, rfl, h⟩
                      · have h := h.2 c11
                        by_cases c12 : x1 = 11
                        · have h := h.1 c12
                          refine r_tableIn (tgt := 135) dX12_count_1 (by rw [c12]; decide) (by rw [c12]; decide) (by rw [c12]; rfl) (by decide) ?_
                          refine r_aload_n 0 dX12_count_135 rfl rfl ?_
                          refine mg_90 rfl dX12_count_136 ?_
                          exact r_iret dX12_count_139 rfl (Nat.le_refl _) (Nat.le_refl _) ⟨_, _, rfl, rfl, h⟩
                        · have h := h.2 c12
                          by_cases c13 : x1 = 12
                          · have h := h.1 c13
                            refine r_tableIn (tgt := 140) dX12_count_1 (by rw [c13]; decide) (by rw [c13]; decide) (by rw [c13]; rfl) (by decide) ?_
                            refine r_aload_n 0 dX12_count_140 rfl rfl ?_
                            refine mg_100 rfl dX12_count_141 ?_
                            exact r_iret dX12_count_144 rfl (Nat.le_refl _) (Nat.le_refl _) ⟨_, _, rfl, rfl, h⟩
                          · have h := h.2 c13
                            by_cases c14 : x1 = 13
                            · have h := h.1 c14
                              refine r_tableIn (tgt := 145) dX12_count_1 (by rw [c14]; decide) (by rw [c14]; decide) (by rw [c14]; rfl) (by decide) ?_
                              refine r_aload_n 0 dX12_count_145 rfl rfl ?_
                              refine mg_101 rfl dX12_count_146 ?_
                              exact r_iret dX12_count_149 rfl (Nat.le_refl _) (Nat.le_refl _) ⟨_, _, rfl, rfl, h⟩
                            · have h := h.2 c14
                              by_cases c15 : x1 = 14
                              · have h := h.1 c15
                                refine r_tableIn (tgt := 150) dX12_count_1 (by rw [c15]; decide) (by rw [c15]; decide) (by rw [c15]; rfl) (by decide) ?_
                                refine r_aload_n 0 dX12_count_150 rfl rfl ?_
                                refine mg_28 rfl dX12_count_151 ?_
                                exact r_iret dX12_count_154 rfl (Nat.le_refl _) (Nat.le_refl _) ⟨_, _, rfl, rfl, h⟩
                              · have h := h.2 c15
                                by_cases c16 : x1 = 15
                                · have h := h.1 c16
                                  refine r_tableIn (tgt := 155) dX12_count_1 (by rw [c16]; decide) (by rw [c16]; decide) (by rw [c16]; rfl) (by decide) ?_
                                  refine r_aload_n 0 dX12_count_155 rfl rfl ?_
                                  refine mg_21 rfl dX12_count_156 ?_
                                  exact r_iret dX12_count_159 rfl (Nat.le_refl _) (Nat.le_refl _) ⟨_, _, rfl, rfl, h⟩
                                · have h := h.2 c16
                                  refine r_tableOut (tgt := 160) dX12_count_1 (by have e0 : (x1).toInt ≠ 0 := sw_ne c1; have e1 : (x1).toInt ≠ 1 := sw_ne c2; have e2 : (x1).toInt ≠ 2 := sw_ne c3; have e3 : (x1).toInt ≠ 3 := sw_ne c4; have e4 : (x1).toInt ≠ 4 := sw_ne c5; have e5 : (x1).toInt ≠ 5 := sw_ne c6; have e6 : (x1).toInt ≠ 6 := sw_ne c7; have e7 : (x1).toInt ≠ 7 := sw_ne c8; have e8 : (x1).toInt ≠ 8 := sw_ne c9; have e9 : (x1).toInt ≠ 9 := sw_ne c10; have e10 : (x1).toInt ≠ 10 := sw_ne c11; have e11 : (x1).toInt ≠ 11 := sw_ne c12; have e12 : (x1).toInt ≠ 12 := sw_ne c13; have e13 : (x1).toInt ≠ 13 := sw_ne c14; have e14 : (x1).toInt ≠ 14 := sw_ne c15; have e15 : (x1).toInt ≠ 15 := sw_ne c16; omega) (by decide) ?_
                                  refine r_iload_n 1 dX12_count_160 rfl rfl ?_
                                  refine r_bipush_20 dX12_count_161 ?_
                                  refine r_bipush_19 dX12_count_163 ?_
                                  refine r_aload_n 0 dX12_count_165 rfl rfl ?_
                                  refine mg_44 rfl dX12_count_166 ?_
                                  refine r_iadd dX12_count_169 ?_
                                  refine KP_in (d := d + 0)  rfl (Nat.le_of_ble_eq_true rfl) dX12_count_170 ?_
                                  refine r_if_eqb (tgt := 188) dX12_count_173 (by decide) (fun c17 => ?_) (fun c17 => ?_)
                                  · have h := h.1 c17
                                    refine r_iconst_m1 dX12_count_188 ?_
                                    exact r_iret dX12_count_189 rfl (Nat.le_refl _) (Nat.le_refl _) ⟨_, _, rfl, rfl, h⟩
                                  · have h := h.2 c17
                                    refine r_aload_n 0 dX12_count_176 rfl rfl ?_
                                    refine mg_48 rfl dX12_count_177 ?_
                                    refine r_iload_n 1 dX12_count_180 rfl rfl ?_
                                    refine r_bipush_20 dX12_count_181 ?_
                                    refine r_isub dX12_count_183 ?_
                                    obtain ⟨b18, h⟩ := h
                                    refine ml_48 b18 dX12_count_184 ?_
                                    refine r_goto (tgt := 189) dX12_count_185 (by decide) ?_
                                    exact r_iret dX12_count_189 rfl (Nat.le_refl _) (Nat.le_refl _) ⟨_, _, rfl, rfl, h⟩
