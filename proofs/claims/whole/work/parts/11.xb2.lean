set_option maxRecDepth 20000 in
theorem en_Jbits {E : EvT} {q : Nat → Nat} {d : Nat} {x0 : Int32} {S : StX} {P : Int32 → StX → Prop} (h : ∀ v1, v1 = x0 - (((x0.toUInt32 >>> ((1 : Int32).toUInt32 &&& Int32.toUInt32 31)).toInt32) &&& 1431655765) → (∀ v2, v2 = (v1 &&& 858993459) + (((v1.toUInt32 >>> ((2 : Int32).toUInt32 &&& Int32.toUInt32 31)).toInt32) &&& 858993459) → (∀ v3, v3 = (v2 + ((v2.toUInt32 >>> ((4 : Int32).toUInt32 &&& Int32.toUInt32 31)).toInt32)) &&& 252645135 → (∀ v4, v4 = v3 + ((v3.toUInt32 >>> ((8 : Int32).toUInt32 &&& Int32.toUInt32 31)).toInt32) → (∀ v5, v5 = v4 + ((v4.toUInt32 >>> ((16 : Int32).toUInt32 &&& Int32.toUInt32 31)).toInt32) → (P (v5 &&& 63) S)))))) : C_Jbits E q d x0 S P := by
  refine Cn.of rfl (Nat.le_of_ble_eq_true rfl) (ls := [(0, .int (x0))]) rfl ?_
  refine r_iload_n 0 dJ6_bitCount_0f7a4_0 rfl rfl ?_
  refine r_iload_n 0 dJ6_bitCount_0f7a4_1 rfl rfl ?_
  refine r_iconst_1 dJ6_bitCount_0f7a4_2 ?_
  refine r_iushr dJ6_bitCount_0f7a4_3 ?_
  refine r_ldcw w5_104 dJ6_bitCount_0f7a4_4 ?_
  refine r_iand dJ6_bitCount_0f7a4_7 ?_
  refine r_isub dJ6_bitCount_0f7a4_8 ?_
  refine r_nm (fun v1 ev1 => ?_)
  have h := h v1 ev1
  refine r_istore_n [(0, .int (v1))] dJ6_bitCount_0f7a4_9 rfl (Nat.le_of_ble_eq_true rfl) rfl ?_
  refine r_iload_n 0 dJ6_bitCount_0f7a4_10 rfl rfl ?_
  refine r_ldcw w5_105 dJ6_bitCount_0f7a4_11 ?_
  refine r_iand dJ6_bitCount_0f7a4_14 ?_
  refine r_iload_n 0 dJ6_bitCount_0f7a4_15 rfl rfl ?_
  refine r_iconst_2 dJ6_bitCount_0f7a4_16 ?_
  refine r_iushr dJ6_bitCount_0f7a4_17 ?_
  refine r_ldcw w5_105 dJ6_bitCount_0f7a4_18 ?_
  refine r_iand dJ6_bitCount_0f7a4_21 ?_
  refine r_iadd dJ6_bitCount_0f7a4_22 ?_
  refine r_nm (fun v2 ev2 => ?_)
  have h := h v2 ev2
  refine r_istore_n [(0, .int (v2))] dJ6_bitCount_0f7a4_23 rfl (Nat.le_of_ble_eq_true rfl) rfl ?_
  refine r_iload_n 0 dJ6_bitCount_0f7a4_24 rfl rfl ?_
  refine r_iload_n 0 dJ6_bitCount_0f7a4_25 rfl rfl ?_
  refine r_iconst_4 dJ6_bitCount_0f7a4_26 ?_
  refine r_iushr dJ6_bitCount_0f7a4_27 ?_
  refine r_iadd dJ6_bitCount_0f7a4_28 ?_
  refine r_ldcw w5_106 dJ6_bitCount_0f7a4_29 ?_
  refine r_iand dJ6_bitCount_0f7a4_32 ?_
  refine r_nm (fun v3 ev3 => ?_)
  have h := h v3 ev3
  refine r_istore_n [(0, .int (v3))] dJ6_bitCount_0f7a4_33 rfl (Nat.le_of_ble_eq_true rfl) rfl ?_
  refine r_iload_n 0 dJ6_bitCount_0f7a4_34 rfl rfl ?_
  refine r_iload_n 0 dJ6_bitCount_0f7a4_35 rfl rfl ?_
  refine r_bipush_8 dJ6_bitCount_0f7a4_36 ?_
  refine r_iushr dJ6_bitCount_0f7a4_38 ?_
  refine r_iadd dJ6_bitCount_0f7a4_39 ?_
  refine r_nm (fun v4 ev4 => ?_)
  have h := h v4 ev4
  refine r_istore_n [(0, .int (v4))] dJ6_bitCount_0f7a4_40 rfl (Nat.le_of_ble_eq_true rfl) rfl ?_
  refine r_iload_n 0 dJ6_bitCount_0f7a4_41 rfl rfl ?_
  refine r_iload_n 0 dJ6_bitCount_0f7a4_42 rfl rfl ?_
  refine r_bipush_16 dJ6_bitCount_0f7a4_43 ?_
  refine r_iushr dJ6_bitCount_0f7a4_45 ?_
  refine r_iadd dJ6_bitCount_0f7a4_46 ?_
  refine r_nm (fun v5 ev5 => ?_)
  have h := h v5 ev5
  refine r_istore_n [(0, .int (v5))] dJ6_bitCount_0f7a4_47 rfl (Nat.le_of_ble_eq_true rfl) rfl ?_
  refine r_iload_n 0 dJ6_bitCount_0f7a4_48 rfl rfl ?_
  refine r_bipush_63 dJ6_bitCount_0f7a4_49 ?_
  refine r_iand dJ6_bitCount_0f7a4_51 ?_
  exact r_iret dJ6_bitCount_0f7a4_52 rfl (Nat.le_refl _) (Nat.le_refl _) ⟨_, _, rfl, rfl, h⟩
