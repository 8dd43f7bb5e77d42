/-! the constructors of the class that make no others -/
theorem df_Jx4a65c : ∀ j, j < 3 → defaultValue (tyJx4a65c j) = vp_V [.int 0, .null, .int 0] j := by
  intro j hj
  rcases (show j = 0 ∨ j = 1 ∨ j = 2 by omega) with rfl | rfl | rfl <;> rfl
theorem df_X0 : ∀ j, j < 15 → defaultValue (tyX0 j) = vp_V [.null, .null, .null, .null, .null, .int 0, .null, .null, .null, .int 0, .null, .null, .int 0, .null, .null] j := by
  intro j hj
  rcases (show j = 0 ∨ j = 1 ∨ j = 2 ∨ j = 3 ∨ j = 4 ∨ j = 5 ∨ j = 6 ∨ j = 7 ∨ j = 8 ∨ j = 9 ∨ j = 10 ∨ j = 11 ∨ j = 12 ∨ j = 13 ∨ j = 14 by omega) with rfl | rfl | rfl | rfl | rfl | rfl | rfl | rfl | rfl | rfl | rfl | rfl | rfl | rfl | rfl <;> rfl
theorem df_X1 : ∀ j, j < 14 → defaultValue (tyX1 j) = vp_V [.null, .int 0, .null, .null, .null, .null, .null, .null, .null, .null, .null, .null, .null, .null] j := by
  intro j hj
  rcases (show j = 0 ∨ j = 1 ∨ j = 2 ∨ j = 3 ∨ j = 4 ∨ j = 5 ∨ j = 6 ∨ j = 7 ∨ j = 8 ∨ j = 9 ∨ j = 10 ∨ j = 11 ∨ j = 12 ∨ j = 13 by omega) with rfl | rfl | rfl | rfl | rfl | rfl | rfl | rfl | rfl | rfl | rfl | rfl | rfl | rfl <;> rfl
theorem df_X2 : ∀ j, j < 15 → defaultValue (tyX2 j) = vp_V [.null, .null, .null, .int 0, .null, .null, .null, .null, .null, .null, .null, .null, .null, .null, .null] j := by
  intro j hj
  rcases (show j = 0 ∨ j = 1 ∨ j = 2 ∨ j = 3 ∨ j = 4 ∨ j = 5 ∨ j = 6 ∨ j = 7 ∨ j = 8 ∨ j = 9 ∨ j = 10 ∨ j = 11 ∨ j = 12 ∨ j = 13 ∨ j = 14 by omega) with rfl | rfl | rfl | rfl | rfl | rfl | rfl | rfl | rfl | rfl | rfl | rfl | rfl | rfl | rfl <;> rfl
theorem df_X3 : ∀ j, j < 15 → defaultValue (tyX3 j) = vp_V [.null, .null, .int 0, .null, .null, .null, .null, .int 0, .null, .null, .int 0, .null, .null, .null, .null] j := by
  intro j hj
  rcases (show j = 0 ∨ j = 1 ∨ j = 2 ∨ j = 3 ∨ j = 4 ∨ j = 5 ∨ j = 6 ∨ j = 7 ∨ j = 8 ∨ j = 9 ∨ j = 10 ∨ j = 11 ∨ j = 12 ∨ j = 13 ∨ j = 14 by omega) with rfl | rfl | rfl | rfl | rfl | rfl | rfl | rfl | rfl | rfl | rfl | rfl | rfl | rfl | rfl <;> rfl
theorem df_X4 : ∀ j, j < 11 → defaultValue (tyX4 j) = vp_V [.int 0, .int 0, .int 0, .null, .null, .null, .int 0, .null, .null, .null, .null] j := by
  intro j hj
  rcases (show j = 0 ∨ j = 1 ∨ j = 2 ∨ j = 3 ∨ j = 4 ∨ j = 5 ∨ j = 6 ∨ j = 7 ∨ j = 8 ∨ j = 9 ∨ j = 10 by omega) with rfl | rfl | rfl | rfl | rfl | rfl | rfl | rfl | rfl | rfl | rfl <;> rfl
theorem df_X5 : ∀ j, j < 6 → defaultValue (tyX5 j) = vp_V [.null, .null, .null, .null, .null, .null] j := by
  intro j hj
  rcases (show j = 0 ∨ j = 1 ∨ j = 2 ∨ j = 3 ∨ j = 4 ∨ j = 5 by omega) with rfl | rfl | rfl | rfl | rfl | rfl <;> rfl
theorem df_X6 : ∀ j, j < 11 → defaultValue (tyX6 j) = vp_V [.null, .int 0, .int 0, .int 0, .int 0, .int 0, .null, .null, .null, .null, .null] j := by
  intro j hj
  rcases (show j = 0 ∨ j = 1 ∨ j = 2 ∨ j = 3 ∨ j = 4 ∨ j = 5 ∨ j = 6 ∨ j = 7 ∨ j = 8 ∨ j = 9 ∨ j = 10 by omega) with rfl | rfl | rfl | rfl | rfl | rfl | rfl | rfl | rfl | rfl | rfl <;> rfl
theorem df_X7 : ∀ j, j < 5 → defaultValue (tyX7 j) = vp_V [.null, .null, .null, .null, .null] j := by
  intro j hj
  rcases (show j = 0 ∨ j = 1 ∨ j = 2 ∨ j = 3 ∨ j = 4 by omega) with rfl | rfl | rfl | rfl | rfl <;> rfl
theorem df_X8 : ∀ j, j < 9 → defaultValue (tyX8 j) = vp_V [.null, .null, .int 0, .null, .null, .null, .null, .null, .null] j := by
  intro j hj
  rcases (show j = 0 ∨ j = 1 ∨ j = 2 ∨ j = 3 ∨ j = 4 ∨ j = 5 ∨ j = 6 ∨ j = 7 ∨ j = 8 by omega) with rfl | rfl | rfl | rfl | rfl | rfl | rfl | rfl | rfl <;> rfl
theorem df_X9 : ∀ j, j < 2 → defaultValue (tyX9 j) = vp_V [.null, .int 0] j := by
  intro j hj
  rcases (show j = 0 ∨ j = 1 by omega) with rfl | rfl <;> rfl
theorem df_X10 : ∀ j, j < 18 → defaultValue (tyX10 j) = vp_V [.int 0, .null, .int 0, .null, .null, .null, .null, .int 0, .null, .int 0, .int 0, .int 0, .int 0, .int 0, .null, .null, .null, .null] j := by
  intro j hj
  rcases (show j = 0 ∨ j = 1 ∨ j = 2 ∨ j = 3 ∨ j = 4 ∨ j = 5 ∨ j = 6 ∨ j = 7 ∨ j = 8 ∨ j = 9 ∨ j = 10 ∨ j = 11 ∨ j = 12 ∨ j = 13 ∨ j = 14 ∨ j = 15 ∨ j = 16 ∨ j = 17 by omega) with rfl | rfl | rfl | rfl | rfl | rfl | rfl | rfl | rfl | rfl | rfl | rfl | rfl | rfl | rfl | rfl | rfl | rfl <;> rfl
theorem df_X11 : ∀ j, j < 11 → defaultValue (tyX11 j) = vp_V [.null, .null, .null, .null, .null, .null, .null, .null, .null, .null, .int 0] j := by
  intro j hj
  rcases (show j = 0 ∨ j = 1 ∨ j = 2 ∨ j = 3 ∨ j = 4 ∨ j = 5 ∨ j = 6 ∨ j = 7 ∨ j = 8 ∨ j = 9 ∨ j = 10 by omega) with rfl | rfl | rfl | rfl | rfl | rfl | rfl | rfl | rfl | rfl | rfl <;> rfl
theorem df_X12 : ∀ j, j < 111 → defaultValue (tyX12 j) = vp_V [.int 0, .int 0, .int 0, .int 0, .int 0, .null, .null, .null, .null, .null, .null, .null, .null, .null, .null, .null, .null, .null, .null, .null, .int 0, .int 0, .null, .null, .null, .null, .null, .null, .int 0, .int 0, .int 0, .int 0, .int 0, .int 0, .int 0, .int 0, .int 0, .null, .null, .null, .null, .null, .null, .null, .int 0, .null, .null, .null, .null, .null, .null, .null, .null, .null, .null, .null, .null, .int 0, .int 0, .null, .null, .null, .null, .null, .null, .null, .null, .null, .int 0, .int 0, .null, .null, .null, .null, .null, .null, .null, .null, .null, .int 0, .int 0, .null, .null, .null, .null, .null, .null, .null, .null, .int 0, .int 0, .null, .null, .null, .null, .null, .null, .null, .null, .null, .int 0, .int 0, .null, .null, .null, .null, .null, .null, .null, .null, .null] j := by
  intro j hj
  rcases (show j = 0 ∨ j = 1 ∨ j = 2 ∨ j = 3 ∨ j = 4 ∨ j = 5 ∨ j = 6 ∨ j = 7 ∨ j = 8 ∨ j = 9 ∨ j = 10 ∨ j = 11 ∨ j = 12 ∨ j = 13 ∨ j = 14 ∨ j = 15 ∨ j = 16 ∨ j = 17 ∨ j = 18 ∨ j = 19 ∨ j = 20 ∨ j = 21 ∨ j = 22 ∨ j = 23 ∨ j = 24 ∨ j = 25 ∨ j = 26 ∨ j = 27 ∨ j = 28 ∨ j = 29 ∨ j = 30 ∨ j = 31 ∨ j = 32 ∨ j = 33 ∨ j = 34 ∨ j = 35 ∨ j = 36 ∨ j = 37 ∨ j = 38 ∨ j = 39 ∨ j = 40 ∨ j = 41 ∨ j = 42 ∨ j = 43 ∨ j = 44 ∨ j = 45 ∨ j = 46 ∨ j = 47 ∨ j = 48 ∨ j = 49 ∨ j = 50 ∨ j = 51 ∨ j = 52 ∨ j = 53 ∨ j = 54 ∨ j = 55 ∨ j = 56 ∨ j = 57 ∨ j = 58 ∨ j = 59 ∨ j = 60 ∨ j = 61 ∨ j = 62 ∨ j = 63 ∨ j = 64 ∨ j = 65 ∨ j = 66 ∨ j = 67 ∨ j = 68 ∨ j = 69 ∨ j = 70 ∨ j = 71 ∨ j = 72 ∨ j = 73 ∨ j = 74 ∨ j = 75 ∨ j = 76 ∨ j = 77 ∨ j = 78 ∨ j = 79 ∨ j = 80 ∨ j = 81 ∨ j = 82 ∨ j = 83 ∨ j = 84 ∨ j = 85 ∨ j = 86 ∨ j = 87 ∨ j = 88 ∨ j = 89 ∨ j = 90 ∨ j = 91 ∨ j = 92 ∨ j = 93 ∨ j = 94 ∨ j = 95 ∨ j = 96 ∨ j = 97 ∨ j = 98 ∨ j = 99 ∨ j = 100 ∨ j = 101 ∨ j = 102 ∨ j = 103 ∨ j = 104 ∨ j = 105 ∨ j = 106 ∨ j = 107 ∨ j = 108 ∨ j = 109 ∨ j = 110 by omega) with rfl | rfl | rfl | rfl | rfl | rfl | rfl | rfl | rfl | rfl | rfl | rfl | rfl | rfl | rfl | rfl | rfl | rfl | rfl | rfl | rfl | rfl | rfl | rfl | rfl | rfl | rfl | rfl | rfl | rfl | rfl | rfl | rfl | rfl | rfl | rfl | rfl | rfl | rfl | rfl | rfl | rfl | rfl | rfl | rfl | rfl | rfl | rfl | rfl | rfl | rfl | rfl | rfl | rfl | rfl | rfl | rfl | rfl | rfl | rfl | rfl | rfl | rfl | rfl | rfl | rfl | rfl | rfl | rfl | rfl | rfl | rfl | rfl | rfl | rfl | rfl | rfl | rfl | rfl | rfl | rfl | rfl | rfl | rfl | rfl | rfl | rfl | rfl | rfl | rfl | rfl | rfl | rfl | rfl | rfl | rfl | rfl | rfl | rfl | rfl | rfl | rfl | rfl | rfl | rfl | rfl | rfl | rfl | rfl | rfl | rfl <;> rfl
abbrev iI_X9 : MI := (yX9_init, cX9_init, 1, none)
set_option maxRecDepth 100000 in
set_option maxHeartbeats 4000000 in
theorem ci_X9 {E : EvT} {d a : Nat} : Cn E iI_X9 (d + 4) 1 400 [.ref a] [(a, .inr (10, [.null, .int 0]))] (fun v w => v = none ∧ ∃ b1 : Nat, w = [(a, .inr (10, [.ref b1, .int 0])), (b1, .inl (E.2.2.1 1, 400, .inl (fun _ => 0)))]) := by
  refine Cn.of rfl (Nat.le_of_ble_eq_true rfl) (ls := [(0, .ref a)]) rfl ?_
  refine r_aload_n 0 dX9_init_0 rfl rfl ?_
  refine r_objInit w1_37 dX9_init_1 (by decide) ?_
  refine r_aload_n 0 dX9_init_4 rfl rfl ?_
  refine r_sipush (v := 400) dX9_init_5 (by decide) ?_
  refine r_newB (N := 400) (by decide) (by decide) (Nat.le_of_ble_eq_true rfl) (Nat.le_of_ble_eq_true rfl) (Nat.le_of_ble_eq_true rfl) dX9_init_8 (fun b1 => ?_)
  refine r_putF (T := TX9) (f := 0) (ci := 10) (q0 := 0) tyX9 tyX9_ok nmX9 inwX9 rfl (by decide) w1_38 rfl rfl rfl rfl rfl rfl (Nat.le_of_ble_eq_true rfl) (w2 := [(a, .inr (10, [.ref b1, .int 0])), (b1, .inl (E.2.2.1 1, 400, .inl (fun _ => 0)))]) rfl dX9_init_10 ?_
  exact r_vret dX9_init_13 rfl (Nat.le_of_ble_eq_true rfl) (Nat.le_of_ble_eq_true rfl) ⟨rfl, b1, rfl⟩
abbrev iI_X4 : MI := (yX4_init, cX4_init, 1, none)
set_option maxRecDepth 100000 in
set_option maxHeartbeats 4000000 in
theorem ci_X4 {E : EvT} {d a : Nat} : Cn E iI_X4 (d + 4) 7 890 [.ref a] [(a, .inr (5, [.int 0, .int 0, .int 0, .null, .null, .null, .int 0, .null, .null, .null, .null]))] (fun v w => v = none ∧ ∃ b1 b2 b3 b4 b5 b6 b7 : Nat, w = [(a, .inr (5, [.int 8, .int 8, .int 0, .ref b1, .ref b2, .ref b3, .int 0, .ref b4, .ref b5, .ref b6, .ref b7])), (b1, .inl (E.2.2.1 0, 30, .inl (fun _ => 0))), (b2, .inl (E.2.2.1 0, 30, .inl (fun _ => 0))), (b3, .inl (E.2.2.1 0, 30, .inl (fun _ => 0))), (b4, .inl (E.2.2.1 0, 200, .inl (fun _ => 0))), (b5, .inl (E.2.2.1 0, 200, .inl (fun _ => 0))), (b6, .inl (E.2.2.1 0, 200, .inl (fun _ => 0))), (b7, .inl (E.2.2.1 0, 200, .inl (fun _ => 0)))]) := by
  refine Cn.of rfl (Nat.le_of_ble_eq_true rfl) (ls := [(0, .ref a)]) rfl ?_
  refine r_aload_n 0 dX4_init_0 rfl rfl ?_
  refine r_objInit w1_53 dX4_init_1 (by decide) ?_
  refine r_aload_n 0 dX4_init_4 rfl rfl ?_
  refine r_bipush (v := 8) dX4_init_5 (by decide) ?_
  refine r_put (T := TX4) (f := 0) (ci := 5) (q0 := 0) tyX4 tyX4_ok nmX4 inwX4 rfl (by decide) w1_54 rfl rfl rfl rfl (Nat.le_of_ble_eq_true rfl) (w2 := [(a, .inr (5, [.int 8, .int 0, .int 0, .null, .null, .null, .int 0, .null, .null, .null, .null]))]) rfl dX4_init_7 ?_
  refine r_aload_n 0 dX4_init_10 rfl rfl ?_
  refine r_bipush (v := 8) dX4_init_11 (by decide) ?_
  refine r_put (T := TX4) (f := 1) (ci := 5) (q0 := 0) tyX4 tyX4_ok nmX4 inwX4 rfl (by decide) w1_57 rfl rfl rfl rfl (Nat.le_of_ble_eq_true rfl) (w2 := [(a, .inr (5, [.int 8, .int 8, .int 0, .null, .null, .null, .int 0, .null, .null, .null, .null]))]) rfl dX4_init_13 ?_
  refine r_aload_n 0 dX4_init_16 rfl rfl ?_
  refine r_bipush (v := 30) dX4_init_17 (by decide) ?_
  refine r_newI (N := 30) (by decide) (by decide) (Nat.le_of_ble_eq_true rfl) (Nat.le_of_ble_eq_true rfl) (Nat.le_of_ble_eq_true rfl) dX4_init_19 (fun b1 => ?_)
  refine r_putF (T := TX4) (f := 3) (ci := 5) (q0 := 0) tyX4 tyX4_ok nmX4 inwX4 rfl (by decide) w1_62 rfl rfl rfl rfl rfl rfl (Nat.le_of_ble_eq_true rfl) (w2 := [(a, .inr (5, [.int 8, .int 8, .int 0, .ref b1, .null, .null, .int 0, .null, .null, .null, .null])), (b1, .inl (E.2.2.1 0, 30, .inl (fun _ => 0)))]) rfl dX4_init_21 ?_
  refine r_aload_n 0 dX4_init_24 rfl rfl ?_
  refine r_bipush (v := 30) dX4_init_25 (by decide) ?_
  refine r_newI (N := 30) (by decide) (by decide) (Nat.le_of_ble_eq_true rfl) (Nat.le_of_ble_eq_true rfl) (Nat.le_of_ble_eq_true rfl) dX4_init_27 (fun b2 => ?_)
  refine r_putF (T := TX4) (f := 4) (ci := 5) (q0 := 0) tyX4 tyX4_ok nmX4 inwX4 rfl (by decide) w1_66 rfl rfl rfl rfl rfl rfl (Nat.le_of_ble_eq_true rfl) (w2 := [(a, .inr (5, [.int 8, .int 8, .int 0, .ref b1, .ref b2, .null, .int 0, .null, .null, .null, .null])), (b1, .inl (E.2.2.1 0, 30, .inl (fun _ => 0))), (b2, .inl (E.2.2.1 0, 30, .inl (fun _ => 0)))]) rfl dX4_init_29 ?_
  refine r_aload_n 0 dX4_init_32 rfl rfl ?_
  refine r_bipush (v := 30) dX4_init_33 (by decide) ?_
  refine r_newI (N := 30) (by decide) (by decide) (Nat.le_of_ble_eq_true rfl) (Nat.le_of_ble_eq_true rfl) (Nat.le_of_ble_eq_true rfl) dX4_init_35 (fun b3 => ?_)
  refine r_putF (T := TX4) (f := 5) (ci := 5) (q0 := 0) tyX4 tyX4_ok nmX4 inwX4 rfl (by decide) w1_67 rfl rfl rfl rfl rfl rfl (Nat.le_of_ble_eq_true rfl) (w2 := [(a, .inr (5, [.int 8, .int 8, .int 0, .ref b1, .ref b2, .ref b3, .int 0, .null, .null, .null, .null])), (b1, .inl (E.2.2.1 0, 30, .inl (fun _ => 0))), (b2, .inl (E.2.2.1 0, 30, .inl (fun _ => 0))), (b3, .inl (E.2.2.1 0, 30, .inl (fun _ => 0)))]) rfl dX4_init_37 ?_
  refine r_aload_n 0 dX4_init_40 rfl rfl ?_
  refine r_sipush (v := 200) dX4_init_41 (by decide) ?_
  refine r_newI (N := 200) (by decide) (by decide) (Nat.le_of_ble_eq_true rfl) (Nat.le_of_ble_eq_true rfl) (Nat.le_of_ble_eq_true rfl) dX4_init_44 (fun b4 => ?_)
  refine r_putF (T := TX4) (f := 7) (ci := 5) (q0 := 0) tyX4 tyX4_ok nmX4 inwX4 rfl (by decide) w1_70 rfl rfl rfl rfl rfl rfl (Nat.le_of_ble_eq_true rfl) (w2 := [(a, .inr (5, [.int 8, .int 8, .int 0, .ref b1, .ref b2, .ref b3, .int 0, .ref b4, .null, .null, .null])), (b1, .inl (E.2.2.1 0, 30, .inl (fun _ => 0))), (b2, .inl (E.2.2.1 0, 30, .inl (fun _ => 0))), (b3, .inl (E.2.2.1 0, 30, .inl (fun _ => 0))), (b4, .inl (E.2.2.1 0, 200, .inl (fun _ => 0)))]) rfl dX4_init_46 ?_
  refine r_aload_n 0 dX4_init_49 rfl rfl ?_
  refine r_sipush (v := 200) dX4_init_50 (by decide) ?_
  refine r_newI (N := 200) (by decide) (by decide) (Nat.le_of_ble_eq_true rfl) (Nat.le_of_ble_eq_true rfl) (Nat.le_of_ble_eq_true rfl) dX4_init_53 (fun b5 => ?_)
  refine r_putF (T := TX4) (f := 8) (ci := 5) (q0 := 0) tyX4 tyX4_ok nmX4 inwX4 rfl (by decide) w1_71 rfl rfl rfl rfl rfl rfl (Nat.le_of_ble_eq_true rfl) (w2 := [(a, .inr (5, [.int 8, .int 8, .int 0, .ref b1, .ref b2, .ref b3, .int 0, .ref b4, .ref b5, .null, .null])), (b1, .inl (E.2.2.1 0, 30, .inl (fun _ => 0))), (b2, .inl (E.2.2.1 0, 30, .inl (fun _ => 0))), (b3, .inl (E.2.2.1 0, 30, .inl (fun _ => 0))), (b4, .inl (E.2.2.1 0, 200, .inl (fun _ => 0))), (b5, .inl (E.2.2.1 0, 200, .inl (fun _ => 0)))]) rfl dX4_init_55 ?_
  refine r_aload_n 0 dX4_init_58 rfl rfl ?_
  refine r_sipush (v := 200) dX4_init_59 (by decide) ?_
  refine r_newI (N := 200) (by decide) (by decide) (Nat.le_of_ble_eq_true rfl) (Nat.le_of_ble_eq_true rfl) (Nat.le_of_ble_eq_true rfl) dX4_init_62 (fun b6 => ?_)
  refine r_putF (T := TX4) (f := 9) (ci := 5) (q0 := 0) tyX4 tyX4_ok nmX4 inwX4 rfl (by decide) w1_72 rfl rfl rfl rfl rfl rfl (Nat.le_of_ble_eq_true rfl) (w2 := [(a, .inr (5, [.int 8, .int 8, .int 0, .ref b1, .ref b2, .ref b3, .int 0, .ref b4, .ref b5, .ref b6, .null])), (b1, .inl (E.2.2.1 0, 30, .inl (fun _ => 0))), (b2, .inl (E.2.2.1 0, 30, .inl (fun _ => 0))), (b3, .inl (E.2.2.1 0, 30, .inl (fun _ => 0))), (b4, .inl (E.2.2.1 0, 200, .inl (fun _ => 0))), (b5, .inl (E.2.2.1 0, 200, .inl (fun _ => 0))), (b6, .inl (E.2.2.1 0, 200, .inl (fun _ => 0)))]) rfl dX4_init_64 ?_
  refine r_aload_n 0 dX4_init_67 rfl rfl ?_
  refine r_sipush (v := 200) dX4_init_68 (by decide) ?_
  refine r_newI (N := 200) (by decide) (by decide) (Nat.le_of_ble_eq_true rfl) (Nat.le_of_ble_eq_true rfl) (Nat.le_of_ble_eq_true rfl) dX4_init_71 (fun b7 => ?_)
  refine r_putF (T := TX4) (f := 10) (ci := 5) (q0 := 0) tyX4 tyX4_ok nmX4 inwX4 rfl (by decide) w1_73 rfl rfl rfl rfl rfl rfl (Nat.le_of_ble_eq_true rfl) (w2 := [(a, .inr (5, [.int 8, .int 8, .int 0, .ref b1, .ref b2, .ref b3, .int 0, .ref b4, .ref b5, .ref b6, .ref b7])), (b1, .inl (E.2.2.1 0, 30, .inl (fun _ => 0))), (b2, .inl (E.2.2.1 0, 30, .inl (fun _ => 0))), (b3, .inl (E.2.2.1 0, 30, .inl (fun _ => 0))), (b4, .inl (E.2.2.1 0, 200, .inl (fun _ => 0))), (b5, .inl (E.2.2.1 0, 200, .inl (fun _ => 0))), (b6, .inl (E.2.2.1 0, 200, .inl (fun _ => 0))), (b7, .inl (E.2.2.1 0, 200, .inl (fun _ => 0)))]) rfl dX4_init_73 ?_
  exact r_vret dX4_init_76 rfl (Nat.le_of_ble_eq_true rfl) (Nat.le_of_ble_eq_true rfl) ⟨rfl, b1, b2, b3, b4, b5, b6, b7, rfl⟩
abbrev iI_X1 : MI := (yX1_init, cX1_init, 2, none)
set_option maxRecDepth 100000 in
set_option maxHeartbeats 4000000 in
theorem ci_X1 {E : EvT} {d a x1 : Nat} : Cn E iI_X1 (d + 4) 12 1200 [.ref a, .ref x1] [(a, .inr (2, [.null, .int 0, .null, .null, .null, .null, .null, .null, .null, .null, .null, .null, .null, .null]))] (fun v w => v = none ∧ ∃ b1 b2 b3 b4 b5 b6 b7 b8 b9 b10 b11 b12 : Nat, w = [(a, .inr (2, [.ref x1, .int 0, .ref b1, .ref b2, .ref b3, .ref b4, .ref b5, .ref b6, .ref b7, .ref b8, .ref b9, .ref b10, .ref b11, .ref b12])), (b1, .inl (E.2.2.1 0, 100, .inl (fun _ => 0))), (b2, .inl (E.2.2.1 0, 100, .inl (fun _ => 0))), (b3, .inl (E.2.2.1 0, 100, .inl (fun _ => 0))), (b4, .inl (E.2.2.1 0, 100, .inl (fun _ => 0))), (b5, .inl (E.2.2.1 0, 100, .inl (fun _ => 0))), (b6, .inl (E.2.2.1 0, 100, .inl (fun _ => 0))), (b7, .inl (E.2.2.1 0, 100, .inl (fun _ => 0))), (b8, .inl (E.2.2.1 0, 100, .inl (fun _ => 0))), (b9, .inl (E.2.2.1 0, 100, .inl (fun _ => 0))), (b10, .inl (E.2.2.1 0, 100, .inl (fun _ => 0))), (b11, .inl (E.2.2.1 0, 100, .inl (fun _ => 0))), (b12, .inl (E.2.2.1 0, 100, .inl (fun _ => 0)))]) := by
  refine Cn.of rfl (Nat.le_of_ble_eq_true rfl) (ls := [(0, .ref a), (1, .ref x1)]) rfl ?_
  refine r_aload_n 0 dX1_init_0 rfl rfl ?_
  refine r_objInit w1_103 dX1_init_1 (by decide) ?_
  refine r_aload_n 0 dX1_init_4 rfl rfl ?_
  refine r_bipush (v := 100) dX1_init_5 (by decide) ?_
  refine r_newI (N := 100) (by decide) (by decide) (Nat.le_of_ble_eq_true rfl) (Nat.le_of_ble_eq_true rfl) (Nat.le_of_ble_eq_true rfl) dX1_init_7 (fun b1 => ?_)
  refine r_putF (T := TX1) (f := 2) (ci := 2) (q0 := 0) tyX1 tyX1_ok nmX1 inwX1 rfl (by decide) w1_108 rfl rfl rfl rfl rfl rfl (Nat.le_of_ble_eq_true rfl) (w2 := [(a, .inr (2, [.null, .int 0, .ref b1, .null, .null, .null, .null, .null, .null, .null, .null, .null, .null, .null])), (b1, .inl (E.2.2.1 0, 100, .inl (fun _ => 0)))]) rfl dX1_init_9 ?_
  refine r_aload_n 0 dX1_init_12 rfl rfl ?_
  refine r_bipush (v := 100) dX1_init_13 (by decide) ?_
  refine r_newI (N := 100) (by decide) (by decide) (Nat.le_of_ble_eq_true rfl) (Nat.le_of_ble_eq_true rfl) (Nat.le_of_ble_eq_true rfl) dX1_init_15 (fun b2 => ?_)
  refine r_putF (T := TX1) (f := 3) (ci := 2) (q0 := 0) tyX1 tyX1_ok nmX1 inwX1 rfl (by decide) w1_110 rfl rfl rfl rfl rfl rfl (Nat.le_of_ble_eq_true rfl) (w2 := [(a, .inr (2, [.null, .int 0, .ref b1, .ref b2, .null, .null, .null, .null, .null, .null, .null, .null, .null, .null])), (b1, .inl (E.2.2.1 0, 100, .inl (fun _ => 0))), (b2, .inl (E.2.2.1 0, 100, .inl (fun _ => 0)))]) rfl dX1_init_17 ?_
  refine r_aload_n 0 dX1_init_20 rfl rfl ?_
  refine r_bipush (v := 100) dX1_init_21 (by decide) ?_
  refine r_newI (N := 100) (by decide) (by decide) (Nat.le_of_ble_eq_true rfl) (Nat.le_of_ble_eq_true rfl) (Nat.le_of_ble_eq_true rfl) dX1_init_23 (fun b3 => ?_)
  refine r_putF (T := TX1) (f := 4) (ci := 2) (q0 := 0) tyX1 tyX1_ok nmX1 inwX1 rfl (by decide) w1_112 rfl rfl rfl rfl rfl rfl (Nat.le_of_ble_eq_true rfl) (w2 := [(a, .inr (2, [.null, .int 0, .ref b1, .ref b2, .ref b3, .null, .null, .null, .null, .null, .null, .null, .null, .null])), (b1, .inl (E.2.2.1 0, 100, .inl (fun _ => 0))), (b2, .inl (E.2.2.1 0, 100, .inl (fun _ => 0))), (b3, .inl (E.2.2.1 0, 100, .inl (fun _ => 0)))]) rfl dX1_init_25 ?_
  refine r_aload_n 0 dX1_init_28 rfl rfl ?_
  refine r_bipush (v := 100) dX1_init_29 (by decide) ?_
  refine r_newI (N := 100) (by decide) (by decide) (Nat.le_of_ble_eq_true rfl) (Nat.le_of_ble_eq_true rfl) (Nat.le_of_ble_eq_true rfl) dX1_init_31 (fun b4 => ?_)
  refine r_putF (T := TX1) (f := 5) (ci := 2) (q0 := 0) tyX1 tyX1_ok nmX1 inwX1 rfl (by decide) w1_113 rfl rfl rfl rfl rfl rfl (Nat.le_of_ble_eq_true rfl) (w2 := [(a, .inr (2, [.null, .int 0, .ref b1, .ref b2, .ref b3, .ref b4, .null, .null, .null, .null, .null, .null, .null, .null])), (b1, .inl (E.2.2.1 0, 100, .inl (fun _ => 0))), (b2, .inl (E.2.2.1 0, 100, .inl (fun _ => 0))), (b3, .inl (E.2.2.1 0, 100, .inl (fun _ => 0))), (b4, .inl (E.2.2.1 0, 100, .inl (fun _ => 0)))]) rfl dX1_init_33 ?_
  refine r_aload_n 0 dX1_init_36 rfl rfl ?_
  refine r_bipush (v := 100) dX1_init_37 (by decide) ?_
  refine r_newI (N := 100) (by decide) (by decide) (Nat.le_of_ble_eq_true rfl) (Nat.le_of_ble_eq_true rfl) (Nat.le_of_ble_eq_true rfl) dX1_init_39 (fun b5 => ?_)
  refine r_putF (T := TX1) (f := 6) (ci := 2) (q0 := 0) tyX1 tyX1_ok nmX1 inwX1 rfl (by decide) w1_114 rfl rfl rfl rfl rfl rfl (Nat.le_of_ble_eq_true rfl) (w2 := [(a, .inr (2, [.null, .int 0, .ref b1, .ref b2, .ref b3, .ref b4, .ref b5, .null, .null, .null, .null, .null, .null, .null])), (b1, .inl (E.2.2.1 0, 100, .inl (fun _ => 0))), (b2, .inl (E.2.2.1 0, 100, .inl (fun _ => 0))), (b3, .inl (E.2.2.1 0, 100, .inl (fun _ => 0))), (b4, .inl (E.2.2.1 0, 100, .inl (fun _ => 0))), (b5, .inl (E.2.2.1 0, 100, .inl (fun _ => 0)))]) rfl dX1_init_41 ?_
  refine r_aload_n 0 dX1_init_44 rfl rfl ?_
  refine r_bipush (v := 100) dX1_init_45 (by decide) ?_
  refine r_newI (N := 100) (by decide) (by decide) (Nat.le_of_ble_eq_true rfl) (Nat.le_of_ble_eq_true rfl) (Nat.le_of_ble_eq_true rfl) dX1_init_47 (fun b6 => ?_)
  refine r_putF (T := TX1) (f := 7) (ci := 2) (q0 := 0) tyX1 tyX1_ok nmX1 inwX1 rfl (by decide) w1_115 rfl rfl rfl rfl rfl rfl (Nat.le_of_ble_eq_true rfl) (w2 := [(a, .inr (2, [.null, .int 0, .ref b1, .ref b2, .ref b3, .ref b4, .ref b5, .ref b6, .null, .null, .null, .null, .null, .null])), (b1, .inl (E.2.2.1 0, 100, .inl (fun _ => 0))), (b2, .inl (E.2.2.1 0, 100, .inl (fun _ => 0))), (b3, .inl (E.2.2.1 0, 100, .inl (fun _ => 0))), (b4, .inl (E.2.2.1 0, 100, .inl (fun _ => 0))), (b5, .inl (E.2.2.1 0, 100, .inl (fun _ => 0))), (b6, .inl (E.2.2.1 0, 100, .inl (fun _ => 0)))]) rfl dX1_init_49 ?_
  refine r_aload_n 0 dX1_init_52 rfl rfl ?_
  refine r_bipush (v := 100) dX1_init_53 (by decide) ?_
  refine r_newI (N := 100) (by decide) (by decide) (Nat.le_of_ble_eq_true rfl) (Nat.le_of_ble_eq_true rfl) (Nat.le_of_ble_eq_true rfl) dX1_init_55 (fun b7 => ?_)
  refine r_putF (T := TX1) (f := 8) (ci := 2) (q0 := 0) tyX1 tyX1_ok nmX1 inwX1 rfl (by decide) w1_117 rfl rfl rfl rfl rfl rfl (Nat.le_of_ble_eq_true rfl) (w2 := [(a, .inr (2, [.null, .int 0, .ref b1, .ref b2, .ref b3, .ref b4, .ref b5, .ref b6, .ref b7, .null, .null, .null, .null, .null])), (b1, .inl (E.2.2.1 0, 100, .inl (fun _ => 0))), (b2, .inl (E.2.2.1 0, 100, .inl (fun _ => 0))), (b3, .inl (E.2.2.1 0, 100, .inl (fun _ => 0))), (b4, .inl (E.2.2.1 0, 100, .inl (fun _ => 0))), (b5, .inl (E.2.2.1 0, 100, .inl (fun _ => 0))), (b6, .inl (E.2.2.1 0, 100, .inl (fun _ => 0))), (b7, .inl (E.2.2.1 0, 100, .inl (fun _ => 0)))]) rfl dX1_init_57 ?_
  refine r_aload_n 0 dX1_init_60 rfl rfl ?_
  refine r_bipush (v := 100) dX1_init_61 (by decide) ?_
  refine r_newI (N := 100) (by decide) (by decide) (Nat.le_of_ble_eq_true rfl) (Nat.le_of_ble_eq_true rfl) (Nat.le_of_ble_eq_true rfl) dX1_init_63 (fun b8 => ?_)
  refine r_putF (T := TX1) (f := 9) (ci := 2) (q0 := 0) tyX1 tyX1_ok nmX1 inwX1 rfl (by decide) w1_120 rfl rfl rfl rfl rfl rfl (Nat.le_of_ble_eq_true rfl) (w2 := [(a, .inr (2, [.null, .int 0, .ref b1, .ref b2, .ref b3, .ref b4, .ref b5, .ref b6, .ref b7, .ref b8, .null, .null, .null, .null])), (b1, .inl (E.2.2.1 0, 100, .inl (fun _ => 0))), (b2, .inl (E.2.2.1 0, 100, .inl (fun _ => 0))), (b3, .inl (E.2.2.1 0, 100, .inl (fun _ => 0))), (b4, .inl (E.2.2.1 0, 100, .inl (fun _ => 0))), (b5, .inl (E.2.2.1 0, 100, .inl (fun _ => 0))), (b6, .inl (E.2.2.1 0, 100, .inl (fun _ => 0))), (b7, .inl (E.2.2.1 0, 100, .inl (fun _ => 0))), (b8, .inl (E.2.2.1 0, 100, .inl (fun _ => 0)))]) rfl dX1_init_65 ?_
  refine r_aload_n 0 dX1_init_68 rfl rfl ?_
  refine r_bipush (v := 100) dX1_init_69 (by decide) ?_
  refine r_newI (N := 100) (by decide) (by decide) (Nat.le_of_ble_eq_true rfl) (Nat.le_of_ble_eq_true rfl) (Nat.le_of_ble_eq_true rfl) dX1_init_71 (fun b9 => ?_)
  refine r_putF (T := TX1) (f := 10) (ci := 2) (q0 := 0) tyX1 tyX1_ok nmX1 inwX1 rfl (by decide) w1_122 rfl rfl rfl rfl rfl rfl (Nat.le_of_ble_eq_true rfl) (w2 := [(a, .inr (2, [.null, .int 0, .ref b1, .ref b2, .ref b3, .ref b4, .ref b5, .ref b6, .ref b7, .ref b8, .ref b9, .null, .null, .null])), (b1, .inl (E.2.2.1 0, 100, .inl (fun _ => 0))), (b2, .inl (E.2.2.1 0, 100, .inl (fun _ => 0))), (b3, .inl (E.2.2.1 0, 100, .inl (fun _ => 0))), (b4, .inl (E.2.2.1 0, 100, .inl (fun _ => 0))), (b5, .inl (E.2.2.1 0, 100, .inl (fun _ => 0))), (b6, .inl (E.2.2.1 0, 100, .inl (fun _ => 0))), (b7, .inl (E.2.2.1 0, 100, .inl (fun _ => 0))), (b8, .inl (E.2.2.1 0, 100, .inl (fun _ => 0))), (b9, .inl (E.2.2.1 0, 100, .inl (fun _ => 0)))]) rfl dX1_init_73 ?_
  refine r_aload_n 0 dX1_init_76 rfl rfl ?_
  refine r_bipush (v := 100) dX1_init_77 (by decide) ?_
  refine r_newI (N := 100) (by decide) (by decide) (Nat.le_of_ble_eq_true rfl) (Nat.le_of_ble_eq_true rfl) (Nat.le_of_ble_eq_true rfl) dX1_init_79 (fun b10 => ?_)
  refine r_putF (T := TX1) (f := 11) (ci := 2) (q0 := 0) tyX1 tyX1_ok nmX1 inwX1 rfl (by decide) w1_123 rfl rfl rfl rfl rfl rfl (Nat.le_of_ble_eq_true rfl) (w2 := [(a, .inr (2, [.null, .int 0, .ref b1, .ref b2, .ref b3, .ref b4, .ref b5, .ref b6, .ref b7, .ref b8, .ref b9, .ref b10, .null, .null])), (b1, .inl (E.2.2.1 0, 100, .inl (fun _ => 0))), (b2, .inl (E.2.2.1 0, 100, .inl (fun _ => 0))), (b3, .inl (E.2.2.1 0, 100, .inl (fun _ => 0))), (b4, .inl (E.2.2.1 0, 100, .inl (fun _ => 0))), (b5, .inl (E.2.2.1 0, 100, .inl (fun _ => 0))), (b6, .inl (E.2.2.1 0, 100, .inl (fun _ => 0))), (b7, .inl (E.2.2.1 0, 100, .inl (fun _ => 0))), (b8, .inl (E.2.2.1 0, 100, .inl (fun _ => 0))), (b9, .inl (E.2.2.1 0, 100, .inl (fun _ => 0))), (b10, .inl (E.2.2.1 0, 100, .inl (fun _ => 0)))]) rfl dX1_init_81 ?_
  refine r_aload_n 0 dX1_init_84 rfl rfl ?_
  refine r_bipush (v := 100) dX1_init_85 (by decide) ?_
  refine r_newI (N := 100) (by decide) (by decide) (Nat.le_of_ble_eq_true rfl) (Nat.le_of_ble_eq_true rfl) (Nat.le_of_ble_eq_true rfl) dX1_init_87 (fun b11 => ?_)
  refine r_putF (T := TX1) (f := 12) (ci := 2) (q0 := 0) tyX1 tyX1_ok nmX1 inwX1 rfl (by decide) w1_124 rfl rfl rfl rfl rfl rfl (Nat.le_of_ble_eq_true rfl) (w2 := [(a, .inr (2, [.null, .int 0, .ref b1, .ref b2, .ref b3, .ref b4, .ref b5, .ref b6, .ref b7, .ref b8, .ref b9, .ref b10, .ref b11, .null])), (b1, .inl (E.2.2.1 0, 100, .inl (fun _ => 0))), (b2, .inl (E.2.2.1 0, 100, .inl (fun _ => 0))), (b3, .inl (E.2.2.1 0, 100, .inl (fun _ => 0))), (b4, .inl (E.2.2.1 0, 100, .inl (fun _ => 0))), (b5, .inl (E.2.2.1 0, 100, .inl (fun _ => 0))), (b6, .inl (E.2.2.1 0, 100, .inl (fun _ => 0))), (b7, .inl (E.2.2.1 0, 100, .inl (fun _ => 0))), (b8, .inl (E.2.2.1 0, 100, .inl (fun _ => 0))), (b9, .inl (E.2.2.1 0, 100, .inl (fun _ => 0))), (b10, .inl (E.2.2.1 0, 100, .inl (fun _ => 0))), (b11, .inl (E.2.2.1 0, 100, .inl (fun _ => 0)))]) rfl dX1_init_89 ?_
  refine r_aload_n 0 dX1_init_92 rfl rfl ?_
  refine r_bipush (v := 100) dX1_init_93 (by decide) ?_
  refine r_newI (N := 100) (by decide) (by decide) (Nat.le_of_ble_eq_true rfl) (Nat.le_of_ble_eq_true rfl) (Nat.le_of_ble_eq_true rfl) dX1_init_95 (fun b12 => ?_)
  refine r_putF (T := TX1) (f := 13) (ci := 2) (q0 := 0) tyX1 tyX1_ok nmX1 inwX1 rfl (by decide) w1_126 rfl rfl rfl rfl rfl rfl (Nat.le_of_ble_eq_true rfl) (w2 := [(a, .inr (2, [.null, .int 0, .ref b1, .ref b2, .ref b3, .ref b4, .ref b5, .ref b6, .ref b7, .ref b8, .ref b9, .ref b10, .ref b11, .ref b12])), (b1, .inl (E.2.2.1 0, 100, .inl (fun _ => 0))), (b2, .inl (E.2.2.1 0, 100, .inl (fun _ => 0))), (b3, .inl (E.2.2.1 0, 100, .inl (fun _ => 0))), (b4, .inl (E.2.2.1 0, 100, .inl (fun _ => 0))), (b5, .inl (E.2.2.1 0, 100, .inl (fun _ => 0))), (b6, .inl (E.2.2.1 0, 100, .inl (fun _ => 0))), (b7, .inl (E.2.2.1 0, 100, .inl (fun _ => 0))), (b8, .inl (E.2.2.1 0, 100, .inl (fun _ => 0))), (b9, .inl (E.2.2.1 0, 100, .inl (fun _ => 0))), (b10, .inl (E.2.2.1 0, 100, .inl (fun _ => 0))), (b11, .inl (E.2.2.1 0, 100, .inl (fun _ => 0))), (b12, .inl (E.2.2.1 0, 100, .inl (fun _ => 0)))]) rfl dX1_init_97 ?_
  refine r_aload_n 0 dX1_init_100 rfl rfl ?_
  refine r_aload_n 1 dX1_init_101 rfl rfl ?_
  refine r_putF (T := TX1) (f := 0) (ci := 2) (q0 := 0) tyX1 tyX1_ok nmX1 inwX1 rfl (by decide) w1_104 rfl rfl rfl rfl rfl rfl (Nat.le_of_ble_eq_true rfl) (w2 := [(a, .inr (2, [.ref x1, .int 0, .ref b1, .ref b2, .ref b3, .ref b4, .ref b5, .ref b6, .ref b7, .ref b8, .ref b9, .ref b10, .ref b11, .ref b12])), (b1, .inl (E.2.2.1 0, 100, .inl (fun _ => 0))), (b2, .inl (E.2.2.1 0, 100, .inl (fun _ => 0))), (b3, .inl (E.2.2.1 0, 100, .inl (fun _ => 0))), (b4, .inl (E.2.2.1 0, 100, .inl (fun _ => 0))), (b5, .inl (E.2.2.1 0, 100, .inl (fun _ => 0))), (b6, .inl (E.2.2.1 0, 100, .inl (fun _ => 0))), (b7, .inl (E.2.2.1 0, 100, .inl (fun _ => 0))), (b8, .inl (E.2.2.1 0, 100, .inl (fun _ => 0))), (b9, .inl (E.2.2.1 0, 100, .inl (fun _ => 0))), (b10, .inl (E.2.2.1 0, 100, .inl (fun _ => 0))), (b11, .inl (E.2.2.1 0, 100, .inl (fun _ => 0))), (b12, .inl (E.2.2.1 0, 100, .inl (fun _ => 0)))]) rfl dX1_init_102 ?_
  exact r_vret dX1_init_105 rfl (Nat.le_of_ble_eq_true rfl) (Nat.le_of_ble_eq_true rfl) ⟨rfl, b1, b2, b3, b4, b5, b6, b7, b8, b9, b10, b11, b12, rfl⟩
abbrev iI_X6 : MI := (yX6_init, cX6_init, 1, none)
set_option maxRecDepth 100000 in
set_option maxHeartbeats 4000000 in
theorem ci_X6 {E : EvT} {d a : Nat} : Cn E iI_X6 (d + 4) 6 200 [.ref a] [(a, .inr (7, [.null, .int 0, .int 0, .int 0, .int 0, .int 0, .null, .null, .null, .null, .null]))] (fun v w => v = none ∧ ∃ b1 b2 b3 b4 b5 b6 : Nat, w = [(a, .inr (7, [.ref b1, .int 0, .int 0, .int 0, .int 0, .int 0, .ref b2, .ref b3, .ref b4, .ref b5, .ref b6])), (b1, .inl (E.2.2.1 1, 0, .inl (fun _ => 0))), (b2, .inl (E.2.2.1 0, 10, .inl (fun _ => 0))), (b3, .inl (E.2.2.1 0, 10, .inl (fun _ => 0))), (b4, .inl (E.2.2.1 0, 10, .inl (fun _ => 0))), (b5, .inl (E.2.2.1 0, 10, .inl (fun _ => 0))), (b6, .inl (E.2.2.1 0, 160, .inl (fun _ => 0)))]) := by
  refine Cn.of rfl (Nat.le_of_ble_eq_true rfl) (ls := [(0, .ref a)]) rfl ?_
  refine r_aload_n 0 dX6_init_0 rfl rfl ?_
  refine r_objInit w1_161 dX6_init_1 (by decide) ?_
  refine r_aload_n 0 dX6_init_4 rfl rfl ?_
  refine r_iconst (v := 0) dX6_init_5 (by decide) ?_
  refine r_newB (N := 0) (by decide) (by decide) (Nat.le_of_ble_eq_true rfl) (Nat.le_of_ble_eq_true rfl) (Nat.le_of_ble_eq_true rfl) dX6_init_6 (fun b1 => ?_)
  refine r_put (T := TX6) (f := 0) (ci := 7) (q0 := 0) tyX6 tyX6_ok nmX6 inwX6 rfl (by decide) w1_162 rfl rfl rfl rfl (Nat.le_of_ble_eq_true rfl) (w2 := [(a, .inr (7, [.ref b1, .int 0, .int 0, .int 0, .int 0, .int 0, .null, .null, .null, .null, .null])), (b1, .inl (E.2.2.1 1, 0, .inl (fun _ => 0)))]) rfl dX6_init_8 ?_
  refine r_aload_n 0 dX6_init_11 rfl rfl ?_
  refine r_bipush (v := 10) dX6_init_12 (by decide) ?_
  refine r_newI (N := 10) (by decide) (by decide) (Nat.le_of_ble_eq_true rfl) (Nat.le_of_ble_eq_true rfl) (Nat.le_of_ble_eq_true rfl) dX6_init_14 (fun b2 => ?_)
  refine r_putF (T := TX6) (f := 6) (ci := 7) (q0 := 0) tyX6 tyX6_ok nmX6 inwX6 rfl (by decide) w1_168 rfl rfl rfl rfl rfl rfl (Nat.le_of_ble_eq_true rfl) (w2 := [(a, .inr (7, [.ref b1, .int 0, .int 0, .int 0, .int 0, .int 0, .ref b2, .null, .null, .null, .null])), (b1, .inl (E.2.2.1 1, 0, .inl (fun _ => 0))), (b2, .inl (E.2.2.1 0, 10, .inl (fun _ => 0)))]) rfl dX6_init_16 ?_
  refine r_aload_n 0 dX6_init_19 rfl rfl ?_
  refine r_bipush (v := 10) dX6_init_20 (by decide) ?_
  refine r_newI (N := 10) (by decide) (by decide) (Nat.le_of_ble_eq_true rfl) (Nat.le_of_ble_eq_true rfl) (Nat.le_of_ble_eq_true rfl) dX6_init_22 (fun b3 => ?_)
  refine r_putF (T := TX6) (f := 7) (ci := 7) (q0 := 0) tyX6 tyX6_ok nmX6 inwX6 rfl (by decide) w1_169 rfl rfl rfl rfl rfl rfl (Nat.le_of_ble_eq_true rfl) (w2 := [(a, .inr (7, [.ref b1, .int 0, .int 0, .int 0, .int 0, .int 0, .ref b2, .ref b3, .null, .null, .null])), (b1, .inl (E.2.2.1 1, 0, .inl (fun _ => 0))), (b2, .inl (E.2.2.1 0, 10, .inl (fun _ => 0))), (b3, .inl (E.2.2.1 0, 10, .inl (fun _ => 0)))]) rfl dX6_init_24 ?_
  refine r_aload_n 0 dX6_init_27 rfl rfl ?_
  refine r_bipush (v := 10) dX6_init_28 (by decide) ?_
  refine r_newI (N := 10) (by decide) (by decide) (Nat.le_of_ble_eq_true rfl) (Nat.le_of_ble_eq_true rfl) (Nat.le_of_ble_eq_true rfl) dX6_init_30 (fun b4 => ?_)
  refine r_putF (T := TX6) (f := 8) (ci := 7) (q0 := 0) tyX6 tyX6_ok nmX6 inwX6 rfl (by decide) w1_170 rfl rfl rfl rfl rfl rfl (Nat.le_of_ble_eq_true rfl) (w2 := [(a, .inr (7, [.ref b1, .int 0, .int 0, .int 0, .int 0, .int 0, .ref b2, .ref b3, .ref b4, .null, .null])), (b1, .inl (E.2.2.1 1, 0, .inl (fun _ => 0))), (b2, .inl (E.2.2.1 0, 10, .inl (fun _ => 0))), (b3, .inl (E.2.2.1 0, 10, .inl (fun _ => 0))), (b4, .inl (E.2.2.1 0, 10, .inl (fun _ => 0)))]) rfl dX6_init_32 ?_
  refine r_aload_n 0 dX6_init_35 rfl rfl ?_
  refine r_bipush (v := 10) dX6_init_36 (by decide) ?_
  refine r_newI (N := 10) (by decide) (by decide) (Nat.le_of_ble_eq_true rfl) (Nat.le_of_ble_eq_true rfl) (Nat.le_of_ble_eq_true rfl) dX6_init_38 (fun b5 => ?_)
  refine r_putF (T := TX6) (f := 9) (ci := 7) (q0 := 0) tyX6 tyX6_ok nmX6 inwX6 rfl (by decide) w1_171 rfl rfl rfl rfl rfl rfl (Nat.le_of_ble_eq_true rfl) (w2 := [(a, .inr (7, [.ref b1, .int 0, .int 0, .int 0, .int 0, .int 0, .ref b2, .ref b3, .ref b4, .ref b5, .null])), (b1, .inl (E.2.2.1 1, 0, .inl (fun _ => 0))), (b2, .inl (E.2.2.1 0, 10, .inl (fun _ => 0))), (b3, .inl (E.2.2.1 0, 10, .inl (fun _ => 0))), (b4, .inl (E.2.2.1 0, 10, .inl (fun _ => 0))), (b5, .inl (E.2.2.1 0, 10, .inl (fun _ => 0)))]) rfl dX6_init_40 ?_
  refine r_aload_n 0 dX6_init_43 rfl rfl ?_
  refine r_sipush (v := 160) dX6_init_44 (by decide) ?_
  refine r_newI (N := 160) (by decide) (by decide) (Nat.le_of_ble_eq_true rfl) (Nat.le_of_ble_eq_true rfl) (Nat.le_of_ble_eq_true rfl) dX6_init_47 (fun b6 => ?_)
  refine r_putF (T := TX6) (f := 10) (ci := 7) (q0 := 0) tyX6 tyX6_ok nmX6 inwX6 rfl (by decide) w1_172 rfl rfl rfl rfl rfl rfl (Nat.le_of_ble_eq_true rfl) (w2 := [(a, .inr (7, [.ref b1, .int 0, .int 0, .int 0, .int 0, .int 0, .ref b2, .ref b3, .ref b4, .ref b5, .ref b6])), (b1, .inl (E.2.2.1 1, 0, .inl (fun _ => 0))), (b2, .inl (E.2.2.1 0, 10, .inl (fun _ => 0))), (b3, .inl (E.2.2.1 0, 10, .inl (fun _ => 0))), (b4, .inl (E.2.2.1 0, 10, .inl (fun _ => 0))), (b5, .inl (E.2.2.1 0, 10, .inl (fun _ => 0))), (b6, .inl (E.2.2.1 0, 160, .inl (fun _ => 0)))]) rfl dX6_init_49 ?_
  exact r_vret dX6_init_52 rfl (Nat.le_of_ble_eq_true rfl) (Nat.le_of_ble_eq_true rfl) ⟨rfl, b1, b2, b3, b4, b5, b6, rfl⟩
abbrev iI_X2 : MI := (yX2_init, cX2_init, 4, none)
set_option maxRecDepth 100000 in
set_option maxHeartbeats 4000000 in
theorem ci_X2 {E : EvT} {d a x1 x2 x3 : Nat} : Cn E iI_X2 (d + 4) 11 1373 [.ref a, .ref x1, .ref x2, .ref x3] [(a, .inr (3, [.null, .null, .null, .int 0, .null, .null, .null, .null, .null, .null, .null, .null, .null, .null, .null]))] (fun v w => v = none ∧ ∃ b1 b2 b3 b4 b5 b6 b7 b8 b9 b10 b11 : Nat, w = [(a, .inr (3, [.ref x1, .ref x2, .ref x3, .int 0, .ref b1, .ref b2, .ref b3, .ref b4, .ref b5, .ref b6, .ref b7, .ref b8, .ref b9, .ref b10, .ref b11])), (b1, .inl (E.2.2.1 0, 150, .inl (fun _ => 0))), (b2, .inl (E.2.2.1 0, 150, .inl (fun _ => 0))), (b3, .inl (E.2.2.1 0, 150, .inl (fun _ => 0))), (b4, .inl (E.2.2.1 0, 150, .inl (fun _ => 0))), (b5, .inl (E.2.2.1 0, 150, .inl (fun _ => 0))), (b6, .inl (E.2.2.1 0, 150, .inl (fun _ => 0))), (b7, .inl (E.2.2.1 0, 150, .inl (fun _ => 0))), (b8, .inl (E.2.2.1 0, 150, .inl (fun _ => 0))), (b9, .inl (E.2.2.1 0, 150, .inl (fun _ => 0))), (b10, .inl (E.2.2.1 0, 20, .inl (fun _ => 0))), (b11, .inl (E.2.2.1 0, 3, .inl (fun _ => 0)))]) := by
  refine Cn.of rfl (Nat.le_of_ble_eq_true rfl) (ls := [(0, .ref a), (1, .ref x1), (2, .ref x2), (3, .ref x3)]) rfl ?_
  refine r_aload_n 0 dX2_init_0 rfl rfl ?_
  refine r_objInit w2_12 dX2_init_1 (by decide) ?_
  refine r_aload_n 0 dX2_init_4 rfl rfl ?_
  refine r_sipush (v := 150) dX2_init_5 (by decide) ?_
  refine r_newI (N := 150) (by decide) (by decide) (Nat.le_of_ble_eq_true rfl) (Nat.le_of_ble_eq_true rfl) (Nat.le_of_ble_eq_true rfl) dX2_init_8 (fun b1 => ?_)
  refine r_putF (T := TX2) (f := 4) (ci := 3) (q0 := 0) tyX2 tyX2_ok nmX2 inwX2 rfl (by decide) w2_19 rfl rfl rfl rfl rfl rfl (Nat.le_of_ble_eq_true rfl) (w2 := [(a, .inr (3, [.null, .null, .null, .int 0, .ref b1, .null, .null, .null, .null, .null, .null, .null, .null, .null, .null])), (b1, .inl (E.2.2.1 0, 150, .inl (fun _ => 0)))]) rfl dX2_init_10 ?_
  refine r_aload_n 0 dX2_init_13 rfl rfl ?_
  refine r_sipush (v := 150) dX2_init_14 (by decide) ?_
  refine r_newI (N := 150) (by decide) (by decide) (Nat.le_of_ble_eq_true rfl) (Nat.le_of_ble_eq_true rfl) (Nat.le_of_ble_eq_true rfl) dX2_init_17 (fun b2 => ?_)
  refine r_putF (T := TX2) (f := 5) (ci := 3) (q0 := 0) tyX2 tyX2_ok nmX2 inwX2 rfl (by decide) w2_20 rfl rfl rfl rfl rfl rfl (Nat.le_of_ble_eq_true rfl) (w2 := [(a, .inr (3, [.null, .null, .null, .int 0, .ref b1, .ref b2, .null, .null, .null, .null, .null, .null, .null, .null, .null])), (b1, .inl (E.2.2.1 0, 150, .inl (fun _ => 0))), (b2, .inl (E.2.2.1 0, 150, .inl (fun _ => 0)))]) rfl dX2_init_19 ?_
  refine r_aload_n 0 dX2_init_22 rfl rfl ?_
  refine r_sipush (v := 150) dX2_init_23 (by decide) ?_
  refine r_newI (N := 150) (by decide) (by decide) (Nat.le_of_ble_eq_true rfl) (Nat.le_of_ble_eq_true rfl) (Nat.le_of_ble_eq_true rfl) dX2_init_26 (fun b3 => ?_)
  refine r_putF (T := TX2) (f := 6) (ci := 3) (q0 := 0) tyX2 tyX2_ok nmX2 inwX2 rfl (by decide) w2_21 rfl rfl rfl rfl rfl rfl (Nat.le_of_ble_eq_true rfl) (w2 := [(a, .inr (3, [.null, .null, .null, .int 0, .ref b1, .ref b2, .ref b3, .null, .null, .null, .null, .null, .null, .null, .null])), (b1, .inl (E.2.2.1 0, 150, .inl (fun _ => 0))), (b2, .inl (E.2.2.1 0, 150, .inl (fun _ => 0))), (b3, .inl (E.2.2.1 0, 150, .inl (fun _ => 0)))]) rfl dX2_init_28 ?_
  refine r_aload_n 0 dX2_init_31 rfl rfl ?_
  refine r_sipush (v := 150) dX2_init_32 (by decide) ?_
  refine r_newI (N := 150) (by decide) (by decide) (Nat.le_of_ble_eq_true rfl) (Nat.le_of_ble_eq_true rfl) (Nat.le_of_ble_eq_true rfl) dX2_init_35 (fun b4 => ?_)
  refine r_putF (T := TX2) (f := 7) (ci := 3) (q0 := 0) tyX2 tyX2_ok nmX2 inwX2 rfl (by decide) w2_22 rfl rfl rfl rfl rfl rfl (Nat.le_of_ble_eq_true rfl) (w2 := [(a, .inr (3, [.null, .null, .null, .int 0, .ref b1, .ref b2, .ref b3, .ref b4, .null, .null, .null, .null, .null, .null, .null])), (b1, .inl (E.2.2.1 0, 150, .inl (fun _ => 0))), (b2, .inl (E.2.2.1 0, 150, .inl (fun _ => 0))), (b3, .inl (E.2.2.1 0, 150, .inl (fun _ => 0))), (b4, .inl (E.2.2.1 0, 150, .inl (fun _ => 0)))]) rfl dX2_init_37 ?_
  refine r_aload_n 0 dX2_init_40 rfl rfl ?_
  refine r_sipush (v := 150) dX2_init_41 (by decide) ?_
  refine r_newI (N := 150) (by decide) (by decide) (Nat.le_of_ble_eq_true rfl) (Nat.le_of_ble_eq_true rfl) (Nat.le_of_ble_eq_true rfl) dX2_init_44 (fun b5 => ?_)
  refine r_putF (T := TX2) (f := 8) (ci := 3) (q0 := 0) tyX2 tyX2_ok nmX2 inwX2 rfl (by decide) w2_23 rfl rfl rfl rfl rfl rfl (Nat.le_of_ble_eq_true rfl) (w2 := [(a, .inr (3, [.null, .null, .null, .int 0, .ref b1, .ref b2, .ref b3, .ref b4, .ref b5, .null, .null, .null, .null, .null, .null])), (b1, .inl (E.2.2.1 0, 150, .inl (fun _ => 0))), (b2, .inl (E.2.2.1 0, 150, .inl (fun _ => 0))), (b3, .inl (E.2.2.1 0, 150, .inl (fun _ => 0))), (b4, .inl (E.2.2.1 0, 150, .inl (fun _ => 0))), (b5, .inl (E.2.2.1 0, 150, .inl (fun _ => 0)))]) rfl dX2_init_46 ?_
  refine r_aload_n 0 dX2_init_49 rfl rfl ?_
  refine r_sipush (v := 150) dX2_init_50 (by decide) ?_
  refine r_newI (N := 150) (by decide) (by decide) (Nat.le_of_ble_eq_true rfl) (Nat.le_of_ble_eq_true rfl) (Nat.le_of_ble_eq_true rfl) dX2_init_53 (fun b6 => ?_)
  refine r_putF (T := TX2) (f := 9) (ci := 3) (q0 := 0) tyX2 tyX2_ok nmX2 inwX2 rfl (by decide) w2_24 rfl rfl rfl rfl rfl rfl (Nat.le_of_ble_eq_true rfl) (w2 := [(a, .inr (3, [.null, .null, .null, .int 0, .ref b1, .ref b2, .ref b3, .ref b4, .ref b5, .ref b6, .null, .null, .null, .null, .null])), (b1, .inl (E.2.2.1 0, 150, .inl (fun _ => 0))), (b2, .inl (E.2.2.1 0, 150, .inl (fun _ => 0))), (b3, .inl (E.2.2.1 0, 150, .inl (fun _ => 0))), (b4, .inl (E.2.2.1 0, 150, .inl (fun _ => 0))), (b5, .inl (E.2.2.1 0, 150, .inl (fun _ => 0))), (b6, .inl (E.2.2.1 0, 150, .inl (fun _ => 0)))]) rfl dX2_init_55 ?_
  refine r_aload_n 0 dX2_init_58 rfl rfl ?_
  refine r_sipush (v := 150) dX2_init_59 (by decide) ?_
  refine r_newI (N := 150) (by decide) (by decide) (Nat.le_of_ble_eq_true rfl) (Nat.le_of_ble_eq_true rfl) (Nat.le_of_ble_eq_true rfl) dX2_init_62 (fun b7 => ?_)
  refine r_putF (T := TX2) (f := 10) (ci := 3) (q0 := 0) tyX2 tyX2_ok nmX2 inwX2 rfl (by decide) w2_25 rfl rfl rfl rfl rfl rfl (Nat.le_of_ble_eq_true rfl) (w2 := [(a, .inr (3, [.null, .null, .null, .int 0, .ref b1, .ref b2, .ref b3, .ref b4, .ref b5, .ref b6, .ref b7, .null, .null, .null, .null])), (b1, .inl (E.2.2.1 0, 150, .inl (fun _ => 0))), (b2, .inl (E.2.2.1 0, 150, .inl (fun _ => 0))), (b3, .inl (E.2.2.1 0, 150, .inl (fun _ => 0))), (b4, .inl (E.2.2.1 0, 150, .inl (fun _ => 0))), (b5, .inl (E.2.2.1 0, 150, .inl (fun _ => 0))), (b6, .inl (E.2.2.1 0, 150, .inl (fun _ => 0))), (b7, .inl (E.2.2.1 0, 150, .inl (fun _ => 0)))]) rfl dX2_init_64 ?_
  refine r_aload_n 0 dX2_init_67 rfl rfl ?_
  refine r_sipush (v := 150) dX2_init_68 (by decide) ?_
  refine r_newI (N := 150) (by decide) (by decide) (Nat.le_of_ble_eq_true rfl) (Nat.le_of_ble_eq_true rfl) (Nat.le_of_ble_eq_true rfl) dX2_init_71 (fun b8 => ?_)
  refine r_putF (T := TX2) (f := 11) (ci := 3) (q0 := 0) tyX2 tyX2_ok nmX2 inwX2 rfl (by decide) w2_27 rfl rfl rfl rfl rfl rfl (Nat.le_of_ble_eq_true rfl) (w2 := [(a, .inr (3, [.null, .null, .null, .int 0, .ref b1, .ref b2, .ref b3, .ref b4, .ref b5, .ref b6, .ref b7, .ref b8, .null, .null, .null])), (b1, .inl (E.2.2.1 0, 150, .inl (fun _ => 0))), (b2, .inl (E.2.2.1 0, 150, .inl (fun _ => 0))), (b3, .inl (E.2.2.1 0, 150, .inl (fun _ => 0))), (b4, .inl (E.2.2.1 0, 150, .inl (fun _ => 0))), (b5, .inl (E.2.2.1 0, 150, .inl (fun _ => 0))), (b6, .inl (E.2.2.1 0, 150, .inl (fun _ => 0))), (b7, .inl (E.2.2.1 0, 150, .inl (fun _ => 0))), (b8, .inl (E.2.2.1 0, 150, .inl (fun _ => 0)))]) rfl dX2_init_73 ?_
  refine r_aload_n 0 dX2_init_76 rfl rfl ?_
  refine r_sipush (v := 150) dX2_init_77 (by decide) ?_
  refine r_newI (N := 150) (by decide) (by decide) (Nat.le_of_ble_eq_true rfl) (Nat.le_of_ble_eq_true rfl) (Nat.le_of_ble_eq_true rfl) dX2_init_80 (fun b9 => ?_)
  refine r_putF (T := TX2) (f := 12) (ci := 3) (q0 := 0) tyX2 tyX2_ok nmX2 inwX2 rfl (by decide) w2_29 rfl rfl rfl rfl rfl rfl (Nat.le_of_ble_eq_true rfl) (w2 := [(a, .inr (3, [.null, .null, .null, .int 0, .ref b1, .ref b2, .ref b3, .ref b4, .ref b5, .ref b6, .ref b7, .ref b8, .ref b9, .null, .null])), (b1, .inl (E.2.2.1 0, 150, .inl (fun _ => 0))), (b2, .inl (E.2.2.1 0, 150, .inl (fun _ => 0))), (b3, .inl (E.2.2.1 0, 150, .inl (fun _ => 0))), (b4, .inl (E.2.2.1 0, 150, .inl (fun _ => 0))), (b5, .inl (E.2.2.1 0, 150, .inl (fun _ => 0))), (b6, .inl (E.2.2.1 0, 150, .inl (fun _ => 0))), (b7, .inl (E.2.2.1 0, 150, .inl (fun _ => 0))), (b8, .inl (E.2.2.1 0, 150, .inl (fun _ => 0))), (b9, .inl (E.2.2.1 0, 150, .inl (fun _ => 0)))]) rfl dX2_init_82 ?_
  refine r_aload_n 0 dX2_init_85 rfl rfl ?_
  refine r_bipush (v := 20) dX2_init_86 (by decide) ?_
  refine r_newI (N := 20) (by decide) (by decide) (Nat.le_of_ble_eq_true rfl) (Nat.le_of_ble_eq_true rfl) (Nat.le_of_ble_eq_true rfl) dX2_init_88 (fun b10 => ?_)
  refine r_putF (T := TX2) (f := 13) (ci := 3) (q0 := 0) tyX2 tyX2_ok nmX2 inwX2 rfl (by decide) w2_30 rfl rfl rfl rfl rfl rfl (Nat.le_of_ble_eq_true rfl) (w2 := [(a, .inr (3, [.null, .null, .null, .int 0, .ref b1, .ref b2, .ref b3, .ref b4, .ref b5, .ref b6, .ref b7, .ref b8, .ref b9, .ref b10, .null])), (b1, .inl (E.2.2.1 0, 150, .inl (fun _ => 0))), (b2, .inl (E.2.2.1 0, 150, .inl (fun _ => 0))), (b3, .inl (E.2.2.1 0, 150, .inl (fun _ => 0))), (b4, .inl (E.2.2.1 0, 150, .inl (fun _ => 0))), (b5, .inl (E.2.2.1 0, 150, .inl (fun _ => 0))), (b6, .inl (E.2.2.1 0, 150, .inl (fun _ => 0))), (b7, .inl (E.2.2.1 0, 150, .inl (fun _ => 0))), (b8, .inl (E.2.2.1 0, 150, .inl (fun _ => 0))), (b9, .inl (E.2.2.1 0, 150, .inl (fun _ => 0))), (b10, .inl (E.2.2.1 0, 20, .inl (fun _ => 0)))]) rfl dX2_init_90 ?_
  refine r_aload_n 0 dX2_init_93 rfl rfl ?_
  refine r_iconst (v := 3) dX2_init_94 (by decide) ?_
  refine r_newI (N := 3) (by decide) (by decide) (Nat.le_of_ble_eq_true rfl) (Nat.le_of_ble_eq_true rfl) (Nat.le_of_ble_eq_true rfl) dX2_init_95 (fun b11 => ?_)
  refine r_putF (T := TX2) (f := 14) (ci := 3) (q0 := 0) tyX2 tyX2_ok nmX2 inwX2 rfl (by decide) w2_31 rfl rfl rfl rfl rfl rfl (Nat.le_of_ble_eq_true rfl) (w2 := [(a, .inr (3, [.null, .null, .null, .int 0, .ref b1, .ref b2, .ref b3, .ref b4, .ref b5, .ref b6, .ref b7, .ref b8, .ref b9, .ref b10, .ref b11])), (b1, .inl (E.2.2.1 0, 150, .inl (fun _ => 0))), (b2, .inl (E.2.2.1 0, 150, .inl (fun _ => 0))), (b3, .inl (E.2.2.1 0, 150, .inl (fun _ => 0))), (b4, .inl (E.2.2.1 0, 150, .inl (fun _ => 0))), (b5, .inl (E.2.2.1 0, 150, .inl (fun _ => 0))), (b6, .inl (E.2.2.1 0, 150, .inl (fun _ => 0))), (b7, .inl (E.2.2.1 0, 150, .inl (fun _ => 0))), (b8, .inl (E.2.2.1 0, 150, .inl (fun _ => 0))), (b9, .inl (E.2.2.1 0, 150, .inl (fun _ => 0))), (b10, .inl (E.2.2.1 0, 20, .inl (fun _ => 0))), (b11, .inl (E.2.2.1 0, 3, .inl (fun _ => 0)))]) rfl dX2_init_97 ?_
  refine r_aload_n 0 dX2_init_100 rfl rfl ?_
  refine r_aload_n 1 dX2_init_101 rfl rfl ?_
  refine r_putF (T := TX2) (f := 0) (ci := 3) (q0 := 0) tyX2 tyX2_ok nmX2 inwX2 rfl (by decide) w2_13 rfl rfl rfl rfl rfl rfl (Nat.le_of_ble_eq_true rfl) (w2 := [(a, .inr (3, [.ref x1, .null, .null, .int 0, .ref b1, .ref b2, .ref b3, .ref b4, .ref b5, .ref b6, .ref b7, .ref b8, .ref b9, .ref b10, .ref b11])), (b1, .inl (E.2.2.1 0, 150, .inl (fun _ => 0))), (b2, .inl (E.2.2.1 0, 150, .inl (fun _ => 0))), (b3, .inl (E.2.2.1 0, 150, .inl (fun _ => 0))), (b4, .inl (E.2.2.1 0, 150, .inl (fun _ => 0))), (b5, .inl (E.2.2.1 0, 150, .inl (fun _ => 0))), (b6, .inl (E.2.2.1 0, 150, .inl (fun _ => 0))), (b7, .inl (E.2.2.1 0, 150, .inl (fun _ => 0))), (b8, .inl (E.2.2.1 0, 150, .inl (fun _ => 0))), (b9, .inl (E.2.2.1 0, 150, .inl (fun _ => 0))), (b10, .inl (E.2.2.1 0, 20, .inl (fun _ => 0))), (b11, .inl (E.2.2.1 0, 3, .inl (fun _ => 0)))]) rfl dX2_init_102 ?_
  refine r_aload_n 0 dX2_init_105 rfl rfl ?_
  refine r_aload_n 2 dX2_init_106 rfl rfl ?_
  refine r_putF (T := TX2) (f := 1) (ci := 3) (q0 := 0) tyX2 tyX2_ok nmX2 inwX2 rfl (by decide) w2_14 rfl rfl rfl rfl rfl rfl (Nat.le_of_ble_eq_true rfl) (w2 := [(a, .inr (3, [.ref x1, .ref x2, .null, .int 0, .ref b1, .ref b2, .ref b3, .ref b4, .ref b5, .ref b6, .ref b7, .ref b8, .ref b9, .ref b10, .ref b11])), (b1, .inl (E.2.2.1 0, 150, .inl (fun _ => 0))), (b2, .inl (E.2.2.1 0, 150, .inl (fun _ => 0))), (b3, .inl (E.2.2.1 0, 150, .inl (fun _ => 0))), (b4, .inl (E.2.2.1 0, 150, .inl (fun _ => 0))), (b5, .inl (E.2.2.1 0, 150, .inl (fun _ => 0))), (b6, .inl (E.2.2.1 0, 150, .inl (fun _ => 0))), (b7, .inl (E.2.2.1 0, 150, .inl (fun _ => 0))), (b8, .inl (E.2.2.1 0, 150, .inl (fun _ => 0))), (b9, .inl (E.2.2.1 0, 150, .inl (fun _ => 0))), (b10, .inl (E.2.2.1 0, 20, .inl (fun _ => 0))), (b11, .inl (E.2.2.1 0, 3, .inl (fun _ => 0)))]) rfl dX2_init_107 ?_
  refine r_aload_n 0 dX2_init_110 rfl rfl ?_
  refine r_aload_n 3 dX2_init_111 rfl rfl ?_
  refine r_putF (T := TX2) (f := 2) (ci := 3) (q0 := 0) tyX2 tyX2_ok nmX2 inwX2 rfl (by decide) w2_15 rfl rfl rfl rfl rfl rfl (Nat.le_of_ble_eq_true rfl) (w2 := [(a, .inr (3, [.ref x1, .ref x2, .ref x3, .int 0, .ref b1, .ref b2, .ref b3, .ref b4, .ref b5, .ref b6, .ref b7, .ref b8, .ref b9, .ref b10, .ref b11])), (b1, .inl (E.2.2.1 0, 150, .inl (fun _ => 0))), (b2, .inl (E.2.2.1 0, 150, .inl (fun _ => 0))), (b3, .inl (E.2.2.1 0, 150, .inl (fun _ => 0))), (b4, .inl (E.2.2.1 0, 150, .inl (fun _ => 0))), (b5, .inl (E.2.2.1 0, 150, .inl (fun _ => 0))), (b6, .inl (E.2.2.1 0, 150, .inl (fun _ => 0))), (b7, .inl (E.2.2.1 0, 150, .inl (fun _ => 0))), (b8, .inl (E.2.2.1 0, 150, .inl (fun _ => 0))), (b9, .inl (E.2.2.1 0, 150, .inl (fun _ => 0))), (b10, .inl (E.2.2.1 0, 20, .inl (fun _ => 0))), (b11, .inl (E.2.2.1 0, 3, .inl (fun _ => 0)))]) rfl dX2_init_112 ?_
  exact r_vret dX2_init_115 rfl (Nat.le_of_ble_eq_true rfl) (Nat.le_of_ble_eq_true rfl) ⟨rfl, b1, b2, b3, b4, b5, b6, b7, b8, b9, b10, b11, rfl⟩
abbrev iI_X3 : MI := (yX3_init, cX3_init, 3, none)
set_option maxRecDepth 100000 in
set_option maxHeartbeats 4000000 in
theorem ci_X3 {E : EvT} {d a x1 x2 : Nat} : Cn E iI_X3 (d + 4) 10 722 [.ref a, .ref x1, .ref x2] [(a, .inr (4, [.null, .null, .int 0, .null, .null, .null, .null, .int 0, .null, .null, .int 0, .null, .null, .null, .null]))] (fun v w => v = none ∧ ∃ b1 b2 b3 b4 b5 b6 b7 b8 b9 b10 : Nat, w = [(a, .inr (4, [.ref x1, .ref x2, .int 0, .ref b1, .ref b2, .ref b3, .ref b4, .int 0, .ref b5, .ref b6, .int 0, .ref b7, .ref b8, .ref b9, .ref b10])), (b1, .inl (E.2.2.1 0, 60, .inl (fun _ => 0))), (b2, .inl (E.2.2.1 0, 60, .inl (fun _ => 0))), (b3, .inl (E.2.2.1 0, 60, .inl (fun _ => 0))), (b4, .inl (E.2.2.1 2, 60, .inl (fun _ => 0))), (b5, .inl (E.2.2.1 0, 100, .inl (fun _ => 0))), (b6, .inl (E.2.2.1 0, 100, .inl (fun _ => 0))), (b7, .inl (E.2.2.1 0, 8, .inl (fun _ => 0))), (b8, .inl (E.2.2.1 3, 8, .inr (.inl (fun _ => 0)))), (b9, .inl (E.2.2.1 3, 256, .inr (.inl (fun _ => 0)))), (b10, .inl (E.2.2.1 0, 10, .inl (fun _ => 0)))]) := by
  refine Cn.of rfl (Nat.le_of_ble_eq_true rfl) (ls := [(0, .ref a), (1, .ref x1), (2, .ref x2)]) rfl ?_
  refine r_aload_n 0 dX3_init_0 rfl rfl ?_
  refine r_objInit w2_68 dX3_init_1 (by decide) ?_
  refine r_aload_n 0 dX3_init_4 rfl rfl ?_
  refine r_bipush (v := 60) dX3_init_5 (by decide) ?_
  refine r_newI (N := 60) (by decide) (by decide) (Nat.le_of_ble_eq_true rfl) (Nat.le_of_ble_eq_true rfl) (Nat.le_of_ble_eq_true rfl) dX3_init_7 (fun b1 => ?_)
  refine r_putF (T := TX3) (f := 3) (ci := 4) (q0 := 0) tyX3 tyX3_ok nmX3 inwX3 rfl (by decide) w2_73 rfl rfl rfl rfl rfl rfl (Nat.le_of_ble_eq_true rfl) (w2 := [(a, .inr (4, [.null, .null, .int 0, .ref b1, .null, .null, .null, .int 0, .null, .null, .int 0, .null, .null, .null, .null])), (b1, .inl (E.2.2.1 0, 60, .inl (fun _ => 0)))]) rfl dX3_init_9 ?_
  refine r_aload_n 0 dX3_init_12 rfl rfl ?_
  refine r_bipush (v := 60) dX3_init_13 (by decide) ?_
  refine r_newI (N := 60) (by decide) (by decide) (Nat.le_of_ble_eq_true rfl) (Nat.le_of_ble_eq_true rfl) (Nat.le_of_ble_eq_true rfl) dX3_init_15 (fun b2 => ?_)
  refine r_putF (T := TX3) (f := 4) (ci := 4) (q0 := 0) tyX3 tyX3_ok nmX3 inwX3 rfl (by decide) w2_74 rfl rfl rfl rfl rfl rfl (Nat.le_of_ble_eq_true rfl) (w2 := [(a, .inr (4, [.null, .null, .int 0, .ref b1, .ref b2, .null, .null, .int 0, .null, .null, .int 0, .null, .null, .null, .null])), (b1, .inl (E.2.2.1 0, 60, .inl (fun _ => 0))), (b2, .inl (E.2.2.1 0, 60, .inl (fun _ => 0)))]) rfl dX3_init_17 ?_
  refine r_aload_n 0 dX3_init_20 rfl rfl ?_
  refine r_bipush (v := 60) dX3_init_21 (by decide) ?_
  refine r_newI (N := 60) (by decide) (by decide) (Nat.le_of_ble_eq_true rfl) (Nat.le_of_ble_eq_true rfl) (Nat.le_of_ble_eq_true rfl) dX3_init_23 (fun b3 => ?_)
  refine r_putF (T := TX3) (f := 5) (ci := 4) (q0 := 0) tyX3 tyX3_ok nmX3 inwX3 rfl (by decide) w2_75 rfl rfl rfl rfl rfl rfl (Nat.le_of_ble_eq_true rfl) (w2 := [(a, .inr (4, [.null, .null, .int 0, .ref b1, .ref b2, .ref b3, .null, .int 0, .null, .null, .int 0, .null, .null, .null, .null])), (b1, .inl (E.2.2.1 0, 60, .inl (fun _ => 0))), (b2, .inl (E.2.2.1 0, 60, .inl (fun _ => 0))), (b3, .inl (E.2.2.1 0, 60, .inl (fun _ => 0)))]) rfl dX3_init_25 ?_
  refine r_aload_n 0 dX3_init_28 rfl rfl ?_
  refine r_bipush (v := 60) dX3_init_29 (by decide) ?_
  refine r_newZ (N := 60) (by decide) (by decide) (Nat.le_of_ble_eq_true rfl) (Nat.le_of_ble_eq_true rfl) (Nat.le_of_ble_eq_true rfl) dX3_init_31 (fun b4 => ?_)
  refine r_putF (T := TX3) (f := 6) (ci := 4) (q0 := 0) tyX3 tyX3_ok nmX3 inwX3 rfl (by decide) w2_76 rfl rfl rfl rfl rfl rfl (Nat.le_of_ble_eq_true rfl) (w2 := [(a, .inr (4, [.null, .null, .int 0, .ref b1, .ref b2, .ref b3, .ref b4, .int 0, .null, .null, .int 0, .null, .null, .null, .null])), (b1, .inl (E.2.2.1 0, 60, .inl (fun _ => 0))), (b2, .inl (E.2.2.1 0, 60, .inl (fun _ => 0))), (b3, .inl (E.2.2.1 0, 60, .inl (fun _ => 0))), (b4, .inl (E.2.2.1 2, 60, .inl (fun _ => 0)))]) rfl dX3_init_33 ?_
  refine r_aload_n 0 dX3_init_36 rfl rfl ?_
  refine r_bipush (v := 100) dX3_init_37 (by decide) ?_
  refine r_newI (N := 100) (by decide) (by decide) (Nat.le_of_ble_eq_true rfl) (Nat.le_of_ble_eq_true rfl) (Nat.le_of_ble_eq_true rfl) dX3_init_39 (fun b5 => ?_)
  refine r_putF (T := TX3) (f := 8) (ci := 4) (q0 := 0) tyX3 tyX3_ok nmX3 inwX3 rfl (by decide) w2_80 rfl rfl rfl rfl rfl rfl (Nat.le_of_ble_eq_true rfl) (w2 := [(a, .inr (4, [.null, .null, .int 0, .ref b1, .ref b2, .ref b3, .ref b4, .int 0, .ref b5, .null, .int 0, .null, .null, .null, .null])), (b1, .inl (E.2.2.1 0, 60, .inl (fun _ => 0))), (b2, .inl (E.2.2.1 0, 60, .inl (fun _ => 0))), (b3, .inl (E.2.2.1 0, 60, .inl (fun _ => 0))), (b4, .inl (E.2.2.1 2, 60, .inl (fun _ => 0))), (b5, .inl (E.2.2.1 0, 100, .inl (fun _ => 0)))]) rfl dX3_init_41 ?_
  refine r_aload_n 0 dX3_init_44 rfl rfl ?_
  refine r_bipush (v := 100) dX3_init_45 (by decide) ?_
  refine r_newI (N := 100) (by decide) (by decide) (Nat.le_of_ble_eq_true rfl) (Nat.le_of_ble_eq_true rfl) (Nat.le_of_ble_eq_true rfl) dX3_init_47 (fun b6 => ?_)
  refine r_putF (T := TX3) (f := 9) (ci := 4) (q0 := 0) tyX3 tyX3_ok nmX3 inwX3 rfl (by decide) w2_81 rfl rfl rfl rfl rfl rfl (Nat.le_of_ble_eq_true rfl) (w2 := [(a, .inr (4, [.null, .null, .int 0, .ref b1, .ref b2, .ref b3, .ref b4, .int 0, .ref b5, .ref b6, .int 0, .null, .null, .null, .null])), (b1, .inl (E.2.2.1 0, 60, .inl (fun _ => 0))), (b2, .inl (E.2.2.1 0, 60, .inl (fun _ => 0))), (b3, .inl (E.2.2.1 0, 60, .inl (fun _ => 0))), (b4, .inl (E.2.2.1 2, 60, .inl (fun _ => 0))), (b5, .inl (E.2.2.1 0, 100, .inl (fun _ => 0))), (b6, .inl (E.2.2.1 0, 100, .inl (fun _ => 0)))]) rfl dX3_init_49 ?_
  refine r_aload_n 0 dX3_init_52 rfl rfl ?_
  refine r_bipush (v := 8) dX3_init_53 (by decide) ?_
  refine r_newI (N := 8) (by decide) (by decide) (Nat.le_of_ble_eq_true rfl) (Nat.le_of_ble_eq_true rfl) (Nat.le_of_ble_eq_true rfl) dX3_init_55 (fun b7 => ?_)
  refine r_putF (T := TX3) (f := 11) (ci := 4) (q0 := 0) tyX3 tyX3_ok nmX3 inwX3 rfl (by decide) w2_84 rfl rfl rfl rfl rfl rfl (Nat.le_of_ble_eq_true rfl) (w2 := [(a, .inr (4, [.null, .null, .int 0, .ref b1, .ref b2, .ref b3, .ref b4, .int 0, .ref b5, .ref b6, .int 0, .ref b7, .null, .null, .null])), (b1, .inl (E.2.2.1 0, 60, .inl (fun _ => 0))), (b2, .inl (E.2.2.1 0, 60, .inl (fun _ => 0))), (b3, .inl (E.2.2.1 0, 60, .inl (fun _ => 0))), (b4, .inl (E.2.2.1 2, 60, .inl (fun _ => 0))), (b5, .inl (E.2.2.1 0, 100, .inl (fun _ => 0))), (b6, .inl (E.2.2.1 0, 100, .inl (fun _ => 0))), (b7, .inl (E.2.2.1 0, 8, .inl (fun _ => 0)))]) rfl dX3_init_57 ?_
  refine r_aload_n 0 dX3_init_60 rfl rfl ?_
  refine r_bipush (v := 8) dX3_init_61 (by decide) ?_
  refine r_newL (N := 8) (by decide) (by decide) (Nat.le_of_ble_eq_true rfl) (Nat.le_of_ble_eq_true rfl) (Nat.le_of_ble_eq_true rfl) dX3_init_63 (fun b8 => ?_)
  refine r_putF (T := TX3) (f := 12) (ci := 4) (q0 := 0) tyX3 tyX3_ok nmX3 inwX3 rfl (by decide) w2_86 rfl rfl rfl rfl rfl rfl (Nat.le_of_ble_eq_true rfl) (w2 := [(a, .inr (4, [.null, .null, .int 0, .ref b1, .ref b2, .ref b3, .ref b4, .int 0, .ref b5, .ref b6, .int 0, .ref b7, .ref b8, .null, .null])), (b1, .inl (E.2.2.1 0, 60, .inl (fun _ => 0))), (b2, .inl (E.2.2.1 0, 60, .inl (fun _ => 0))), (b3, .inl (E.2.2.1 0, 60, .inl (fun _ => 0))), (b4, .inl (E.2.2.1 2, 60, .inl (fun _ => 0))), (b5, .inl (E.2.2.1 0, 100, .inl (fun _ => 0))), (b6, .inl (E.2.2.1 0, 100, .inl (fun _ => 0))), (b7, .inl (E.2.2.1 0, 8, .inl (fun _ => 0))), (b8, .inl (E.2.2.1 3, 8, .inr (.inl (fun _ => 0))))]) rfl dX3_init_65 ?_
  refine r_aload_n 0 dX3_init_68 rfl rfl ?_
  refine r_sipush (v := 256) dX3_init_69 (by decide) ?_
  refine r_newL (N := 256) (by decide) (by decide) (Nat.le_of_ble_eq_true rfl) (Nat.le_of_ble_eq_true rfl) (Nat.le_of_ble_eq_true rfl) dX3_init_72 (fun b9 => ?_)
  refine r_putF (T := TX3) (f := 13) (ci := 4) (q0 := 0) tyX3 tyX3_ok nmX3 inwX3 rfl (by decide) w2_87 rfl rfl rfl rfl rfl rfl (Nat.le_of_ble_eq_true rfl) (w2 := [(a, .inr (4, [.null, .null, .int 0, .ref b1, .ref b2, .ref b3, .ref b4, .int 0, .ref b5, .ref b6, .int 0, .ref b7, .ref b8, .ref b9, .null])), (b1, .inl (E.2.2.1 0, 60, .inl (fun _ => 0))), (b2, .inl (E.2.2.1 0, 60, .inl (fun _ => 0))), (b3, .inl (E.2.2.1 0, 60, .inl (fun _ => 0))), (b4, .inl (E.2.2.1 2, 60, .inl (fun _ => 0))), (b5, .inl (E.2.2.1 0, 100, .inl (fun _ => 0))), (b6, .inl (E.2.2.1 0, 100, .inl (fun _ => 0))), (b7, .inl (E.2.2.1 0, 8, .inl (fun _ => 0))), (b8, .inl (E.2.2.1 3, 8, .inr (.inl (fun _ => 0)))), (b9, .inl (E.2.2.1 3, 256, .inr (.inl (fun _ => 0))))]) rfl dX3_init_74 ?_
  refine r_aload_n 0 dX3_init_77 rfl rfl ?_
  refine r_bipush (v := 10) dX3_init_78 (by decide) ?_
  refine r_newI (N := 10) (by decide) (by decide) (Nat.le_of_ble_eq_true rfl) (Nat.le_of_ble_eq_true rfl) (Nat.le_of_ble_eq_true rfl) dX3_init_80 (fun b10 => ?_)
  refine r_putF (T := TX3) (f := 14) (ci := 4) (q0 := 0) tyX3 tyX3_ok nmX3 inwX3 rfl (by decide) w2_88 rfl rfl rfl rfl rfl rfl (Nat.le_of_ble_eq_true rfl) (w2 := [(a, .inr (4, [.null, .null, .int 0, .ref b1, .ref b2, .ref b3, .ref b4, .int 0, .ref b5, .ref b6, .int 0, .ref b7, .ref b8, .ref b9, .ref b10])), (b1, .inl (E.2.2.1 0, 60, .inl (fun _ => 0))), (b2, .inl (E.2.2.1 0, 60, .inl (fun _ => 0))), (b3, .inl (E.2.2.1 0, 60, .inl (fun _ => 0))), (b4, .inl (E.2.2.1 2, 60, .inl (fun _ => 0))), (b5, .inl (E.2.2.1 0, 100, .inl (fun _ => 0))), (b6, .inl (E.2.2.1 0, 100, .inl (fun _ => 0))), (b7, .inl (E.2.2.1 0, 8, .inl (fun _ => 0))), (b8, .inl (E.2.2.1 3, 8, .inr (.inl (fun _ => 0)))), (b9, .inl (E.2.2.1 3, 256, .inr (.inl (fun _ => 0)))), (b10, .inl (E.2.2.1 0, 10, .inl (fun _ => 0)))]) rfl dX3_init_82 ?_
  refine r_aload_n 0 dX3_init_85 rfl rfl ?_
  refine r_aload_n 1 dX3_init_86 rfl rfl ?_
  refine r_putF (T := TX3) (f := 0) (ci := 4) (q0 := 0) tyX3 tyX3_ok nmX3 inwX3 rfl (by decide) w2_69 rfl rfl rfl rfl rfl rfl (Nat.le_of_ble_eq_true rfl) (w2 := [(a, .inr (4, [.ref x1, .null, .int 0, .ref b1, .ref b2, .ref b3, .ref b4, .int 0, .ref b5, .ref b6, .int 0, .ref b7, .ref b8, .ref b9, .ref b10])), (b1, .inl (E.2.2.1 0, 60, .inl (fun _ => 0))), (b2, .inl (E.2.2.1 0, 60, .inl (fun _ => 0))), (b3, .inl (E.2.2.1 0, 60, .inl (fun _ => 0))), (b4, .inl (E.2.2.1 2, 60, .inl (fun _ => 0))), (b5, .inl (E.2.2.1 0, 100, .inl (fun _ => 0))), (b6, .inl (E.2.2.1 0, 100, .inl (fun _ => 0))), (b7, .inl (E.2.2.1 0, 8, .inl (fun _ => 0))), (b8, .inl (E.2.2.1 3, 8, .inr (.inl (fun _ => 0)))), (b9, .inl (E.2.2.1 3, 256, .inr (.inl (fun _ => 0)))), (b10, .inl (E.2.2.1 0, 10, .inl (fun _ => 0)))]) rfl dX3_init_87 ?_
  refine r_aload_n 0 dX3_init_90 rfl rfl ?_
  refine r_aload_n 2 dX3_init_91 rfl rfl ?_
  refine r_putF (T := TX3) (f := 1) (ci := 4) (q0 := 0) tyX3 tyX3_ok nmX3 inwX3 rfl (by decide) w2_70 rfl rfl rfl rfl rfl rfl (Nat.le_of_ble_eq_true rfl) (w2 := [(a, .inr (4, [.ref x1, .ref x2, .int 0, .ref b1, .ref b2, .ref b3, .ref b4, .int 0, .ref b5, .ref b6, .int 0, .ref b7, .ref b8, .ref b9, .ref b10])), (b1, .inl (E.2.2.1 0, 60, .inl (fun _ => 0))), (b2, .inl (E.2.2.1 0, 60, .inl (fun _ => 0))), (b3, .inl (E.2.2.1 0, 60, .inl (fun _ => 0))), (b4, .inl (E.2.2.1 2, 60, .inl (fun _ => 0))), (b5, .inl (E.2.2.1 0, 100, .inl (fun _ => 0))), (b6, .inl (E.2.2.1 0, 100, .inl (fun _ => 0))), (b7, .inl (E.2.2.1 0, 8, .inl (fun _ => 0))), (b8, .inl (E.2.2.1 3, 8, .inr (.inl (fun _ => 0)))), (b9, .inl (E.2.2.1 3, 256, .inr (.inl (fun _ => 0)))), (b10, .inl (E.2.2.1 0, 10, .inl (fun _ => 0)))]) rfl dX3_init_92 ?_
  exact r_vret dX3_init_95 rfl (Nat.le_of_ble_eq_true rfl) (Nat.le_of_ble_eq_true rfl) ⟨rfl, b1, b2, b3, b4, b5, b6, b7, b8, b9, b10, rfl⟩
abbrev iI_X10 : MI := (yX10_init, cX10_init, 1, none)
set_option maxRecDepth 100000 in
set_option maxHeartbeats 4000000 in
theorem ci_X10 {E : EvT} {d a : Nat} : Cn E iI_X10 (d + 4) 10 587 [.ref a] [(a, .inr (11, [.int 0, .null, .int 0, .null, .null, .null, .null, .int 0, .null, .int 0, .int 0, .int 0, .int 0, .int 0, .null, .null, .null, .null]))] (fun v w => v = none ∧ ∃ b1 b2 b3 b4 b5 b6 b7 b8 b9 b10 : Nat, w = [(a, .inr (11, [.int 0, .ref b1, .int 0, .ref b2, .ref b3, .ref b4, .ref b5, .int 0, .ref b6, .int 0, .int 0, .int 0, .int 0, .int 0, .ref b7, .ref b8, .ref b9, .ref b10])), (b1, .inl (E.2.2.1 0, 30, .inl (fun _ => 0))), (b2, .inl (E.2.2.1 0, 100, .inl (fun _ => 0))), (b3, .inl (E.2.2.1 0, 100, .inl (fun _ => 0))), (b4, .inl (E.2.2.1 0, 100, .inl (fun _ => 0))), (b5, .inl (E.2.2.1 0, 100, .inl (fun _ => 0))), (b6, .inl (E.2.2.1 0, 100, .inl (fun _ => 0))), (b7, .inl (E.2.2.1 0, 9, .inl (fun _ => 0))), (b8, .inl (E.2.2.1 0, 9, .inl (fun _ => 0))), (b9, .inl (E.2.2.1 0, 9, .inl (fun _ => 0))), (b10, .inl (E.2.2.1 0, 30, .inl (fun _ => 0)))]) := by
  refine Cn.of rfl (Nat.le_of_ble_eq_true rfl) (ls := [(0, .ref a)]) rfl ?_
  refine r_aload_n 0 dX10_init_0 rfl rfl ?_
  refine r_objInit w2_127 dX10_init_1 (by decide) ?_
  refine r_aload_n 0 dX10_init_4 rfl rfl ?_
  refine r_bipush (v := 30) dX10_init_5 (by decide) ?_
  refine r_newI (N := 30) (by decide) (by decide) (Nat.le_of_ble_eq_true rfl) (Nat.le_of_ble_eq_true rfl) (Nat.le_of_ble_eq_true rfl) dX10_init_7 (fun b1 => ?_)
  refine r_putF (T := TX10) (f := 1) (ci := 11) (q0 := 0) tyX10 tyX10_ok nmX10 inwX10 rfl (by decide) w2_130 rfl rfl rfl rfl rfl rfl (Nat.le_of_ble_eq_true rfl) (w2 := [(a, .inr (11, [.int 0, .ref b1, .int 0, .null, .null, .null, .null, .int 0, .null, .int 0, .int 0, .int 0, .int 0, .int 0, .null, .null, .null, .null])), (b1, .inl (E.2.2.1 0, 30, .inl (fun _ => 0)))]) rfl dX10_init_9 ?_
  refine r_aload_n 0 dX10_init_12 rfl rfl ?_
  refine r_bipush (v := 100) dX10_init_13 (by decide) ?_
  refine r_newI (N := 100) (by decide) (by decide) (Nat.le_of_ble_eq_true rfl) (Nat.le_of_ble_eq_true rfl) (Nat.le_of_ble_eq_true rfl) dX10_init_15 (fun b2 => ?_)
  refine r_putF (T := TX10) (f := 3) (ci := 11) (q0 := 0) tyX10 tyX10_ok nmX10 inwX10 rfl (by decide) w2_133 rfl rfl rfl rfl rfl rfl (Nat.le_of_ble_eq_true rfl) (w2 := [(a, .inr (11, [.int 0, .ref b1, .int 0, .ref b2, .null, .null, .null, .int 0, .null, .int 0, .int 0, .int 0, .int 0, .int 0, .null, .null, .null, .null])), (b1, .inl (E.2.2.1 0, 30, .inl (fun _ => 0))), (b2, .inl (E.2.2.1 0, 100, .inl (fun _ => 0)))]) rfl dX10_init_17 ?_
  refine r_aload_n 0 dX10_init_20 rfl rfl ?_
  refine r_bipush (v := 100) dX10_init_21 (by decide) ?_
  refine r_newI (N := 100) (by decide) (by decide) (Nat.le_of_ble_eq_true rfl) (Nat.le_of_ble_eq_true rfl) (Nat.le_of_ble_eq_true rfl) dX10_init_23 (fun b3 => ?_)
  refine r_putF (T := TX10) (f := 4) (ci := 11) (q0 := 0) tyX10 tyX10_ok nmX10 inwX10 rfl (by decide) w2_134 rfl rfl rfl rfl rfl rfl (Nat.le_of_ble_eq_true rfl) (w2 := [(a, .inr (11, [.int 0, .ref b1, .int 0, .ref b2, .ref b3, .null, .null, .int 0, .null, .int 0, .int 0, .int 0, .int 0, .int 0, .null, .null, .null, .null])), (b1, .inl (E.2.2.1 0, 30, .inl (fun _ => 0))), (b2, .inl (E.2.2.1 0, 100, .inl (fun _ => 0))), (b3, .inl (E.2.2.1 0, 100, .inl (fun _ => 0)))]) rfl dX10_init_25 ?_
  refine r_aload_n 0 dX10_init_28 rfl rfl ?_
  refine r_bipush (v := 100) dX10_init_29 (by decide) ?_
  refine r_newI (N := 100) (by decide) (by decide) (Nat.le_of_ble_eq_true rfl) (Nat.le_of_ble_eq_true rfl) (Nat.le_of_ble_eq_true rfl) dX10_init_31 (fun b4 => ?_)
  refine r_putF (T := TX10) (f := 5) (ci := 11) (q0 := 0) tyX10 tyX10_ok nmX10 inwX10 rfl (by decide) w2_135 rfl rfl rfl rfl rfl rfl (Nat.le_of_ble_eq_true rfl) (w2 := [(a, .inr (11, [.int 0, .ref b1, .int 0, .ref b2, .ref b3, .ref b4, .null, .int 0, .null, .int 0, .int 0, .int 0, .int 0, .int 0, .null, .null, .null, .null])), (b1, .inl (E.2.2.1 0, 30, .inl (fun _ => 0))), (b2, .inl (E.2.2.1 0, 100, .inl (fun _ => 0))), (b3, .inl (E.2.2.1 0, 100, .inl (fun _ => 0))), (b4, .inl (E.2.2.1 0, 100, .inl (fun _ => 0)))]) rfl dX10_init_33 ?_
  refine r_aload_n 0 dX10_init_36 rfl rfl ?_
  refine r_bipush (v := 100) dX10_init_37 (by decide) ?_
  refine r_newI (N := 100) (by decide) (by decide) (Nat.le_of_ble_eq_true rfl) (Nat.le_of_ble_eq_true rfl) (Nat.le_of_ble_eq_true rfl) dX10_init_39 (fun b5 => ?_)
  refine r_putF (T := TX10) (f := 6) (ci := 11) (q0 := 0) tyX10 tyX10_ok nmX10 inwX10 rfl (by decide) w2_136 rfl rfl rfl rfl rfl rfl (Nat.le_of_ble_eq_true rfl) (w2 := [(a, .inr (11, [.int 0, .ref b1, .int 0, .ref b2, .ref b3, .ref b4, .ref b5, .int 0, .null, .int 0, .int 0, .int 0, .int 0, .int 0, .null, .null, .null, .null])), (b1, .inl (E.2.2.1 0, 30, .inl (fun _ => 0))), (b2, .inl (E.2.2.1 0, 100, .inl (fun _ => 0))), (b3, .inl (E.2.2.1 0, 100, .inl (fun _ => 0))), (b4, .inl (E.2.2.1 0, 100, .inl (fun _ => 0))), (b5, .inl (E.2.2.1 0, 100, .inl (fun _ => 0)))]) rfl dX10_init_41 ?_
  refine r_aload_n 0 dX10_init_44 rfl rfl ?_
  refine r_bipush (v := 100) dX10_init_45 (by decide) ?_
  refine r_newI (N := 100) (by decide) (by decide) (Nat.le_of_ble_eq_true rfl) (Nat.le_of_ble_eq_true rfl) (Nat.le_of_ble_eq_true rfl) dX10_init_47 (fun b6 => ?_)
  refine r_putF (T := TX10) (f := 8) (ci := 11) (q0 := 0) tyX10 tyX10_ok nmX10 inwX10 rfl (by decide) w2_138 rfl rfl rfl rfl rfl rfl (Nat.le_of_ble_eq_true rfl) (w2 := [(a, .inr (11, [.int 0, .ref b1, .int 0, .ref b2, .ref b3, .ref b4, .ref b5, .int 0, .ref b6, .int 0, .int 0, .int 0, .int 0, .int 0, .null, .null, .null, .null])), (b1, .inl (E.2.2.1 0, 30, .inl (fun _ => 0))), (b2, .inl (E.2.2.1 0, 100, .inl (fun _ => 0))), (b3, .inl (E.2.2.1 0, 100, .inl (fun _ => 0))), (b4, .inl (E.2.2.1 0, 100, .inl (fun _ => 0))), (b5, .inl (E.2.2.1 0, 100, .inl (fun _ => 0))), (b6, .inl (E.2.2.1 0, 100, .inl (fun _ => 0)))]) rfl dX10_init_49 ?_
  refine r_aload_n 0 dX10_init_52 rfl rfl ?_
  refine r_bipush (v := 9) dX10_init_53 (by decide) ?_
  refine r_newI (N := 9) (by decide) (by decide) (Nat.le_of_ble_eq_true rfl) (Nat.le_of_ble_eq_true rfl) (Nat.le_of_ble_eq_true rfl) dX10_init_55 (fun b7 => ?_)
  refine r_putF (T := TX10) (f := 14) (ci := 11) (q0 := 0) tyX10 tyX10_ok nmX10 inwX10 rfl (by decide) w2_149 rfl rfl rfl rfl rfl rfl (Nat.le_of_ble_eq_true rfl) (w2 := [(a, .inr (11, [.int 0, .ref b1, .int 0, .ref b2, .ref b3, .ref b4, .ref b5, .int 0, .ref b6, .int 0, .int 0, .int 0, .int 0, .int 0, .ref b7, .null, .null, .null])), (b1, .inl (E.2.2.1 0, 30, .inl (fun _ => 0))), (b2, .inl (E.2.2.1 0, 100, .inl (fun _ => 0))), (b3, .inl (E.2.2.1 0, 100, .inl (fun _ => 0))), (b4, .inl (E.2.2.1 0, 100, .inl (fun _ => 0))), (b5, .inl (E.2.2.1 0, 100, .inl (fun _ => 0))), (b6, .inl (E.2.2.1 0, 100, .inl (fun _ => 0))), (b7, .inl (E.2.2.1 0, 9, .inl (fun _ => 0)))]) rfl dX10_init_57 ?_
  refine r_aload_n 0 dX10_init_60 rfl rfl ?_
  refine r_bipush (v := 9) dX10_init_61 (by decide) ?_
  refine r_newI (N := 9) (by decide) (by decide) (Nat.le_of_ble_eq_true rfl) (Nat.le_of_ble_eq_true rfl) (Nat.le_of_ble_eq_true rfl) dX10_init_63 (fun b8 => ?_)
  refine r_putF (T := TX10) (f := 15) (ci := 11) (q0 := 0) tyX10 tyX10_ok nmX10 inwX10 rfl (by decide) w2_150 rfl rfl rfl rfl rfl rfl (Nat.le_of_ble_eq_true rfl) (w2 := [(a, .inr (11, [.int 0, .ref b1, .int 0, .ref b2, .ref b3, .ref b4, .ref b5, .int 0, .ref b6, .int 0, .int 0, .int 0, .int 0, .int 0, .ref b7, .ref b8, .null, .null])), (b1, .inl (E.2.2.1 0, 30, .inl (fun _ => 0))), (b2, .inl (E.2.2.1 0, 100, .inl (fun _ => 0))), (b3, .inl (E.2.2.1 0, 100, .inl (fun _ => 0))), (b4, .inl (E.2.2.1 0, 100, .inl (fun _ => 0))), (b5, .inl (E.2.2.1 0, 100, .inl (fun _ => 0))), (b6, .inl (E.2.2.1 0, 100, .inl (fun _ => 0))), (b7, .inl (E.2.2.1 0, 9, .inl (fun _ => 0))), (b8, .inl (E.2.2.1 0, 9, .inl (fun _ => 0)))]) rfl dX10_init_65 ?_
  refine r_aload_n 0 dX10_init_68 rfl rfl ?_
  refine r_bipush (v := 9) dX10_init_69 (by decide) ?_
  refine r_newI (N := 9) (by decide) (by decide) (Nat.le_of_ble_eq_true rfl) (Nat.le_of_ble_eq_true rfl) (Nat.le_of_ble_eq_true rfl) dX10_init_71 (fun b9 => ?_)
  refine r_putF (T := TX10) (f := 16) (ci := 11) (q0 := 0) tyX10 tyX10_ok nmX10 inwX10 rfl (by decide) w2_151 rfl rfl rfl rfl rfl rfl (Nat.le_of_ble_eq_true rfl) (w2 := [(a, .inr (11, [.int 0, .ref b1, .int 0, .ref b2, .ref b3, .ref b4, .ref b5, .int 0, .ref b6, .int 0, .int 0, .int 0, .int 0, .int 0, .ref b7, .ref b8, .ref b9, .null])), (b1, .inl (E.2.2.1 0, 30, .inl (fun _ => 0))), (b2, .inl (E.2.2.1 0, 100, .inl (fun _ => 0))), (b3, .inl (E.2.2.1 0, 100, .inl (fun _ => 0))), (b4, .inl (E.2.2.1 0, 100, .inl (fun _ => 0))), (b5, .inl (E.2.2.1 0, 100, .inl (fun _ => 0))), (b6, .inl (E.2.2.1 0, 100, .inl (fun _ => 0))), (b7, .inl (E.2.2.1 0, 9, .inl (fun _ => 0))), (b8, .inl (E.2.2.1 0, 9, .inl (fun _ => 0))), (b9, .inl (E.2.2.1 0, 9, .inl (fun _ => 0)))]) rfl dX10_init_73 ?_
  refine r_aload_n 0 dX10_init_76 rfl rfl ?_
  refine r_bipush (v := 30) dX10_init_77 (by decide) ?_
  refine r_newI (N := 30) (by decide) (by decide) (Nat.le_of_ble_eq_true rfl) (Nat.le_of_ble_eq_true rfl) (Nat.le_of_ble_eq_true rfl) dX10_init_79 (fun b10 => ?_)
  refine r_putF (T := TX10) (f := 17) (ci := 11) (q0 := 0) tyX10 tyX10_ok nmX10 inwX10 rfl (by decide) w2_152 rfl rfl rfl rfl rfl rfl (Nat.le_of_ble_eq_true rfl) (w2 := [(a, .inr (11, [.int 0, .ref b1, .int 0, .ref b2, .ref b3, .ref b4, .ref b5, .int 0, .ref b6, .int 0, .int 0, .int 0, .int 0, .int 0, .ref b7, .ref b8, .ref b9, .ref b10])), (b1, .inl (E.2.2.1 0, 30, .inl (fun _ => 0))), (b2, .inl (E.2.2.1 0, 100, .inl (fun _ => 0))), (b3, .inl (E.2.2.1 0, 100, .inl (fun _ => 0))), (b4, .inl (E.2.2.1 0, 100, .inl (fun _ => 0))), (b5, .inl (E.2.2.1 0, 100, .inl (fun _ => 0))), (b6, .inl (E.2.2.1 0, 100, .inl (fun _ => 0))), (b7, .inl (E.2.2.1 0, 9, .inl (fun _ => 0))), (b8, .inl (E.2.2.1 0, 9, .inl (fun _ => 0))), (b9, .inl (E.2.2.1 0, 9, .inl (fun _ => 0))), (b10, .inl (E.2.2.1 0, 30, .inl (fun _ => 0)))]) rfl dX10_init_81 ?_
  exact r_vret dX10_init_84 rfl (Nat.le_of_ble_eq_true rfl) (Nat.le_of_ble_eq_true rfl) ⟨rfl, b1, b2, b3, b4, b5, b6, b7, b8, b9, b10, rfl⟩
abbrev iI_X8 : MI := (yX8_init, cX8_init, 3, none)
set_option maxRecDepth 100000 in
set_option maxHeartbeats 4000000 in
theorem ci_X8 {E : EvT} {d a x1 x2 : Nat} : Cn E iI_X8 (d + 4) 6 460 [.ref a, .ref x1, .ref x2] [(a, .inr (9, [.null, .null, .int 0, .null, .null, .null, .null, .null, .null]))] (fun v w => v = none ∧ ∃ b1 b2 b3 b4 b5 b6 : Nat, w = [(a, .inr (9, [.ref x1, .ref x2, .int 0, .ref b1, .ref b2, .ref b3, .ref b4, .ref b5, .ref b6])), (b1, .inl (E.2.2.1 0, 100, .inl (fun _ => 0))), (b2, .inl (E.2.2.1 0, 100, .inl (fun _ => 0))), (b3, .inl (E.2.2.1 0, 100, .inl (fun _ => 0))), (b4, .inl (E.2.2.1 0, 100, .inl (fun _ => 0))), (b5, .inl (E.2.2.1 0, 30, .inl (fun _ => 0))), (b6, .inl (E.2.2.1 0, 30, .inl (fun _ => 0)))]) := by
  refine Cn.of rfl (Nat.le_of_ble_eq_true rfl) (ls := [(0, .ref a), (1, .ref x1), (2, .ref x2)]) rfl ?_
  refine r_aload_n 0 dX8_init_0 rfl rfl ?_
  refine r_objInit w3_17 dX8_init_1 (by decide) ?_
  refine r_aload_n 0 dX8_init_4 rfl rfl ?_
  refine r_bipush (v := 100) dX8_init_5 (by decide) ?_
  refine r_newI (N := 100) (by decide) (by decide) (Nat.le_of_ble_eq_true rfl) (Nat.le_of_ble_eq_true rfl) (Nat.le_of_ble_eq_true rfl) dX8_init_7 (fun b1 => ?_)
  refine r_putF (T := TX8) (f := 3) (ci := 9) (q0 := 0) tyX8 tyX8_ok nmX8 inwX8 rfl (by decide) w3_22 rfl rfl rfl rfl rfl rfl (Nat.le_of_ble_eq_true rfl) (w2 := [(a, .inr (9, [.null, .null, .int 0, .ref b1, .null, .null, .null, .null, .null])), (b1, .inl (E.2.2.1 0, 100, .inl (fun _ => 0)))]) rfl dX8_init_9 ?_
  refine r_aload_n 0 dX8_init_12 rfl rfl ?_
  refine r_bipush (v := 100) dX8_init_13 (by decide) ?_
  refine r_newI (N := 100) (by decide) (by decide) (Nat.le_of_ble_eq_true rfl) (Nat.le_of_ble_eq_true rfl) (Nat.le_of_ble_eq_true rfl) dX8_init_15 (fun b2 => ?_)
  refine r_putF (T := TX8) (f := 4) (ci := 9) (q0 := 0) tyX8 tyX8_ok nmX8 inwX8 rfl (by decide) w3_23 rfl rfl rfl rfl rfl rfl (Nat.le_of_ble_eq_true rfl) (w2 := [(a, .inr (9, [.null, .null, .int 0, .ref b1, .ref b2, .null, .null, .null, .null])), (b1, .inl (E.2.2.1 0, 100, .inl (fun _ => 0))), (b2, .inl (E.2.2.1 0, 100, .inl (fun _ => 0)))]) rfl dX8_init_17 ?_
  refine r_aload_n 0 dX8_init_20 rfl rfl ?_
  refine r_bipush (v := 100) dX8_init_21 (by decide) ?_
  refine r_newI (N := 100) (by decide) (by decide) (Nat.le_of_ble_eq_true rfl) (Nat.le_of_ble_eq_true rfl) (Nat.le_of_ble_eq_true rfl) dX8_init_23 (fun b3 => ?_)
  refine r_putF (T := TX8) (f := 5) (ci := 9) (q0 := 0) tyX8 tyX8_ok nmX8 inwX8 rfl (by decide) w3_24 rfl rfl rfl rfl rfl rfl (Nat.le_of_ble_eq_true rfl) (w2 := [(a, .inr (9, [.null, .null, .int 0, .ref b1, .ref b2, .ref b3, .null, .null, .null])), (b1, .inl (E.2.2.1 0, 100, .inl (fun _ => 0))), (b2, .inl (E.2.2.1 0, 100, .inl (fun _ => 0))), (b3, .inl (E.2.2.1 0, 100, .inl (fun _ => 0)))]) rfl dX8_init_25 ?_
  refine r_aload_n 0 dX8_init_28 rfl rfl ?_
  refine r_bipush (v := 100) dX8_init_29 (by decide) ?_
  refine r_newI (N := 100) (by decide) (by decide) (Nat.le_of_ble_eq_true rfl) (Nat.le_of_ble_eq_true rfl) (Nat.le_of_ble_eq_true rfl) dX8_init_31 (fun b4 => ?_)
  refine r_putF (T := TX8) (f := 6) (ci := 9) (q0 := 0) tyX8 tyX8_ok nmX8 inwX8 rfl (by decide) w3_25 rfl rfl rfl rfl rfl rfl (Nat.le_of_ble_eq_true rfl) (w2 := [(a, .inr (9, [.null, .null, .int 0, .ref b1, .ref b2, .ref b3, .ref b4, .null, .null])), (b1, .inl (E.2.2.1 0, 100, .inl (fun _ => 0))), (b2, .inl (E.2.2.1 0, 100, .inl (fun _ => 0))), (b3, .inl (E.2.2.1 0, 100, .inl (fun _ => 0))), (b4, .inl (E.2.2.1 0, 100, .inl (fun _ => 0)))]) rfl dX8_init_33 ?_
  refine r_aload_n 0 dX8_init_36 rfl rfl ?_
  refine r_bipush (v := 30) dX8_init_37 (by decide) ?_
  refine r_newI (N := 30) (by decide) (by decide) (Nat.le_of_ble_eq_true rfl) (Nat.le_of_ble_eq_true rfl) (Nat.le_of_ble_eq_true rfl) dX8_init_39 (fun b5 => ?_)
  refine r_putF (T := TX8) (f := 7) (ci := 9) (q0 := 0) tyX8 tyX8_ok nmX8 inwX8 rfl (by decide) w3_26 rfl rfl rfl rfl rfl rfl (Nat.le_of_ble_eq_true rfl) (w2 := [(a, .inr (9, [.null, .null, .int 0, .ref b1, .ref b2, .ref b3, .ref b4, .ref b5, .null])), (b1, .inl (E.2.2.1 0, 100, .inl (fun _ => 0))), (b2, .inl (E.2.2.1 0, 100, .inl (fun _ => 0))), (b3, .inl (E.2.2.1 0, 100, .inl (fun _ => 0))), (b4, .inl (E.2.2.1 0, 100, .inl (fun _ => 0))), (b5, .inl (E.2.2.1 0, 30, .inl (fun _ => 0)))]) rfl dX8_init_41 ?_
  refine r_aload_n 0 dX8_init_44 rfl rfl ?_
  refine r_bipush (v := 30) dX8_init_45 (by decide) ?_
  refine r_newI (N := 30) (by decide) (by decide) (Nat.le_of_ble_eq_true rfl) (Nat.le_of_ble_eq_true rfl) (Nat.le_of_ble_eq_true rfl) dX8_init_47 (fun b6 => ?_)
  refine r_putF (T := TX8) (f := 8) (ci := 9) (q0 := 0) tyX8 tyX8_ok nmX8 inwX8 rfl (by decide) w3_28 rfl rfl rfl rfl rfl rfl (Nat.le_of_ble_eq_true rfl) (w2 := [(a, .inr (9, [.null, .null, .int 0, .ref b1, .ref b2, .ref b3, .ref b4, .ref b5, .ref b6])), (b1, .inl (E.2.2.1 0, 100, .inl (fun _ => 0))), (b2, .inl (E.2.2.1 0, 100, .inl (fun _ => 0))), (b3, .inl (E.2.2.1 0, 100, .inl (fun _ => 0))), (b4, .inl (E.2.2.1 0, 100, .inl (fun _ => 0))), (b5, .inl (E.2.2.1 0, 30, .inl (fun _ => 0))), (b6, .inl (E.2.2.1 0, 30, .inl (fun _ => 0)))]) rfl dX8_init_49 ?_
  refine r_aload_n 0 dX8_init_52 rfl rfl ?_
  refine r_aload_n 1 dX8_init_53 rfl rfl ?_
  refine r_putF (T := TX8) (f := 0) (ci := 9) (q0 := 0) tyX8 tyX8_ok nmX8 inwX8 rfl (by decide) w3_18 rfl rfl rfl rfl rfl rfl (Nat.le_of_ble_eq_true rfl) (w2 := [(a, .inr (9, [.ref x1, .null, .int 0, .ref b1, .ref b2, .ref b3, .ref b4, .ref b5, .ref b6])), (b1, .inl (E.2.2.1 0, 100, .inl (fun _ => 0))), (b2, .inl (E.2.2.1 0, 100, .inl (fun _ => 0))), (b3, .inl (E.2.2.1 0, 100, .inl (fun _ => 0))), (b4, .inl (E.2.2.1 0, 100, .inl (fun _ => 0))), (b5, .inl (E.2.2.1 0, 30, .inl (fun _ => 0))), (b6, .inl (E.2.2.1 0, 30, .inl (fun _ => 0)))]) rfl dX8_init_54 ?_
  refine r_aload_n 0 dX8_init_57 rfl rfl ?_
  refine r_aload_n 2 dX8_init_58 rfl rfl ?_
  refine r_putF (T := TX8) (f := 1) (ci := 9) (q0 := 0) tyX8 tyX8_ok nmX8 inwX8 rfl (by decide) w3_19 rfl rfl rfl rfl rfl rfl (Nat.le_of_ble_eq_true rfl) (w2 := [(a, .inr (9, [.ref x1, .ref x2, .int 0, .ref b1, .ref b2, .ref b3, .ref b4, .ref b5, .ref b6])), (b1, .inl (E.2.2.1 0, 100, .inl (fun _ => 0))), (b2, .inl (E.2.2.1 0, 100, .inl (fun _ => 0))), (b3, .inl (E.2.2.1 0, 100, .inl (fun _ => 0))), (b4, .inl (E.2.2.1 0, 100, .inl (fun _ => 0))), (b5, .inl (E.2.2.1 0, 30, .inl (fun _ => 0))), (b6, .inl (E.2.2.1 0, 30, .inl (fun _ => 0)))]) rfl dX8_init_59 ?_
  exact r_vret dX8_init_62 rfl (Nat.le_of_ble_eq_true rfl) (Nat.le_of_ble_eq_true rfl) ⟨rfl, b1, b2, b3, b4, b5, b6, rfl⟩
abbrev iI_X7 : MI := (yX7_init, cX7_init, 6, none)
set_option maxRecDepth 100000 in
set_option maxHeartbeats 4000000 in
theorem ci_X7 {E : EvT} {d a x1 x2 x3 x4 x5 : Nat} : Cn E iI_X7 (d + 4) 0 0 [.ref a, .ref x1, .ref x2, .ref x3, .ref x4, .ref x5] [(a, .inr (8, [.null, .null, .null, .null, .null]))] (fun v w => v = none ∧ w = [(a, .inr (8, [.ref x1, .ref x2, .ref x3, .ref x4, .ref x5]))]) := by
  refine Cn.of rfl (Nat.le_of_ble_eq_true rfl) (ls := [(0, .ref a), (1, .ref x1), (2, .ref x2), (3, .ref x3), (4, .ref x4), (5, .ref x5)]) rfl ?_
  refine r_aload_n 0 dX7_init_0 rfl rfl ?_
  refine r_objInit w4_137 dX7_init_1 (by decide) ?_
  refine r_aload_n 0 dX7_init_4 rfl rfl ?_
  refine r_aload_n 1 dX7_init_5 rfl rfl ?_
  refine r_putF (T := TX7) (f := 0) (ci := 8) (q0 := 0) tyX7 tyX7_ok nmX7 inwX7 rfl (by decide) w4_138 rfl rfl rfl rfl rfl rfl (Nat.le_of_ble_eq_true rfl) (w2 := [(a, .inr (8, [.ref x1, .null, .null, .null, .null]))]) rfl dX7_init_6 ?_
  refine r_aload_n 0 dX7_init_9 rfl rfl ?_
  refine r_aload_n 2 dX7_init_10 rfl rfl ?_
  refine r_putF (T := TX7) (f := 1) (ci := 8) (q0 := 0) tyX7 tyX7_ok nmX7 inwX7 rfl (by decide) w4_139 rfl rfl rfl rfl rfl rfl (Nat.le_of_ble_eq_true rfl) (w2 := [(a, .inr (8, [.ref x1, .ref x2, .null, .null, .null]))]) rfl dX7_init_11 ?_
  refine r_aload_n 0 dX7_init_14 rfl rfl ?_
  refine r_aload_n 3 dX7_init_15 rfl rfl ?_
  refine r_putF (T := TX7) (f := 2) (ci := 8) (q0 := 0) tyX7 tyX7_ok nmX7 inwX7 rfl (by decide) w4_140 rfl rfl rfl rfl rfl rfl (Nat.le_of_ble_eq_true rfl) (w2 := [(a, .inr (8, [.ref x1, .ref x2, .ref x3, .null, .null]))]) rfl dX7_init_16 ?_
  refine r_aload_n 0 dX7_init_19 rfl rfl ?_
  refine r_aload 4 dX7_init_20 rfl ?_
  refine r_putF (T := TX7) (f := 3) (ci := 8) (q0 := 0) tyX7 tyX7_ok nmX7 inwX7 rfl (by decide) w4_141 rfl rfl rfl rfl rfl rfl (Nat.le_of_ble_eq_true rfl) (w2 := [(a, .inr (8, [.ref x1, .ref x2, .ref x3, .ref x4, .null]))]) rfl dX7_init_22 ?_
  refine r_aload_n 0 dX7_init_25 rfl rfl ?_
  refine r_aload 5 dX7_init_26 rfl ?_
  refine r_putF (T := TX7) (f := 4) (ci := 8) (q0 := 0) tyX7 tyX7_ok nmX7 inwX7 rfl (by decide) w4_142 rfl rfl rfl rfl rfl rfl (Nat.le_of_ble_eq_true rfl) (w2 := [(a, .inr (8, [.ref x1, .ref x2, .ref x3, .ref x4, .ref x5]))]) rfl dX7_init_28 ?_
  exact r_vret dX7_init_31 rfl (Nat.le_of_ble_eq_true rfl) (Nat.le_of_ble_eq_true rfl) ⟨rfl, rfl⟩
abbrev iI_X0 : MI := (yX0_init, cX0_init, 2, none)
set_option maxRecDepth 100000 in
set_option maxHeartbeats 4000000 in
theorem ci_X0 {E : EvT} {d a x1 : Nat} : Cn E iI_X0 (d + 4) 11 492 [.ref a, .ref x1] [(a, .inr (1, [.null, .null, .null, .null, .null, .int 0, .null, .null, .null, .int 0, .null, .null, .int 0, .null, .null]))] (fun v w => v = none ∧ ∃ b1 b2 b3 b4 b5 b6 b7 b8 b9 b10 b11 : Nat, w = [(a, .inr (1, [.ref x1, .ref b1, .ref b2, .ref b3, .ref b4, .int 0, .ref b5, .ref b6, .ref b7, .int 0, .ref b8, .ref b9, .int 0, .ref b10, .ref b11])), (b1, .inl (E.2.2.1 0, 8, .inl (fun _ => 0))), (b2, .inl (E.2.2.1 0, 8, .inl (fillF 8 99 (fun _ => 0)))), (b3, .inl (E.2.2.1 0, 8, .inl (fun _ => 0))), (b4, .inl (E.2.2.1 0, 8, .inl (fun _ => 0))), (b5, .inl (E.2.2.1 0, 40, .inl (fun _ => 0))), (b6, .inl (E.2.2.1 0, 40, .inl (fun _ => 0))), (b7, .inl (E.2.2.1 0, 100, .inl (fillF 100 8 (fun _ => 0)))), (b8, .inl (E.2.2.1 0, 40, .inl (fun _ => 0))), (b9, .inl (E.2.2.1 0, 40, .inl (fun _ => 0))), (b10, .inl (E.2.2.1 0, 100, .inl (fun _ => 0))), (b11, .inl (E.2.2.1 0, 100, .inl (fun _ => 0)))]) := by
  refine Cn.of rfl (Nat.le_of_ble_eq_true rfl) (ls := [(0, .ref a), (1, .ref x1)]) rfl ?_
  refine r_aload_n 0 dX0_init_0 rfl rfl ?_
  refine r_objInit w2_195 dX0_init_1 (by decide) ?_
  refine r_aload_n 0 dX0_init_4 rfl rfl ?_
  refine r_bipush (v := 8) dX0_init_5 (by decide) ?_
  refine r_newI (N := 8) (by decide) (by decide) (Nat.le_of_ble_eq_true rfl) (Nat.le_of_ble_eq_true rfl) (Nat.le_of_ble_eq_true rfl) dX0_init_7 (fun b1 => ?_)
  refine r_putF (T := TX0) (f := 1) (ci := 1) (q0 := 0) tyX0 tyX0_ok nmX0 inwX0 rfl (by decide) w2_200 rfl rfl rfl rfl rfl rfl (Nat.le_of_ble_eq_true rfl) (w2 := [(a, .inr (1, [.null, .ref b1, .null, .null, .null, .int 0, .null, .null, .null, .int 0, .null, .null, .int 0, .null, .null])), (b1, .inl (E.2.2.1 0, 8, .inl (fun _ => 0)))]) rfl dX0_init_9 ?_
  refine r_aload_n 0 dX0_init_12 rfl rfl ?_
  refine r_bipush (v := 8) dX0_init_13 (by decide) ?_
  refine r_newI (N := 8) (by decide) (by decide) (Nat.le_of_ble_eq_true rfl) (Nat.le_of_ble_eq_true rfl) (Nat.le_of_ble_eq_true rfl) dX0_init_15 (fun b2 => ?_)
  refine r_putF (T := TX0) (f := 2) (ci := 1) (q0 := 0) tyX0 tyX0_ok nmX0 inwX0 rfl (by decide) w2_202 rfl rfl rfl rfl rfl rfl (Nat.le_of_ble_eq_true rfl) (w2 := [(a, .inr (1, [.null, .ref b1, .ref b2, .null, .null, .int 0, .null, .null, .null, .int 0, .null, .null, .int 0, .null, .null])), (b1, .inl (E.2.2.1 0, 8, .inl (fun _ => 0))), (b2, .inl (E.2.2.1 0, 8, .inl (fun _ => 0)))]) rfl dX0_init_17 ?_
  refine r_aload_n 0 dX0_init_20 rfl rfl ?_
  refine r_bipush (v := 8) dX0_init_21 (by decide) ?_
  refine r_newI (N := 8) (by decide) (by decide) (Nat.le_of_ble_eq_true rfl) (Nat.le_of_ble_eq_true rfl) (Nat.le_of_ble_eq_true rfl) dX0_init_23 (fun b3 => ?_)
  refine r_putF (T := TX0) (f := 3) (ci := 1) (q0 := 0) tyX0 tyX0_ok nmX0 inwX0 rfl (by decide) w2_204 rfl rfl rfl rfl rfl rfl (Nat.le_of_ble_eq_true rfl) (w2 := [(a, .inr (1, [.null, .ref b1, .ref b2, .ref b3, .null, .int 0, .null, .null, .null, .int 0, .null, .null, .int 0, .null, .null])), (b1, .inl (E.2.2.1 0, 8, .inl (fun _ => 0))), (b2, .inl (E.2.2.1 0, 8, .inl (fun _ => 0))), (b3, .inl (E.2.2.1 0, 8, .inl (fun _ => 0)))]) rfl dX0_init_25 ?_
  refine r_aload_n 0 dX0_init_28 rfl rfl ?_
  refine r_bipush (v := 8) dX0_init_29 (by decide) ?_
  refine r_newI (N := 8) (by decide) (by decide) (Nat.le_of_ble_eq_true rfl) (Nat.le_of_ble_eq_true rfl) (Nat.le_of_ble_eq_true rfl) dX0_init_31 (fun b4 => ?_)
  refine r_putF (T := TX0) (f := 4) (ci := 1) (q0 := 0) tyX0 tyX0_ok nmX0 inwX0 rfl (by decide) w2_206 rfl rfl rfl rfl rfl rfl (Nat.le_of_ble_eq_true rfl) (w2 := [(a, .inr (1, [.null, .ref b1, .ref b2, .ref b3, .ref b4, .int 0, .null, .null, .null, .int 0, .null, .null, .int 0, .null, .null])), (b1, .inl (E.2.2.1 0, 8, .inl (fun _ => 0))), (b2, .inl (E.2.2.1 0, 8, .inl (fun _ => 0))), (b3, .inl (E.2.2.1 0, 8, .inl (fun _ => 0))), (b4, .inl (E.2.2.1 0, 8, .inl (fun _ => 0)))]) rfl dX0_init_33 ?_
  refine r_aload_n 0 dX0_init_36 rfl rfl ?_
  refine r_bipush (v := 40) dX0_init_37 (by decide) ?_
  refine r_newI (N := 40) (by decide) (by decide) (Nat.le_of_ble_eq_true rfl) (Nat.le_of_ble_eq_true rfl) (Nat.le_of_ble_eq_true rfl) dX0_init_39 (fun b5 => ?_)
  refine r_putF (T := TX0) (f := 6) (ci := 1) (q0 := 0) tyX0 tyX0_ok nmX0 inwX0 rfl (by decide) w2_210 rfl rfl rfl rfl rfl rfl (Nat.le_of_ble_eq_true rfl) (w2 := [(a, .inr (1, [.null, .ref b1, .ref b2, .ref b3, .ref b4, .int 0, .ref b5, .null, .null, .int 0, .null, .null, .int 0, .null, .null])), (b1, .inl (E.2.2.1 0, 8, .inl (fun _ => 0))), (b2, .inl (E.2.2.1 0, 8, .inl (fun _ => 0))), (b3, .inl (E.2.2.1 0, 8, .inl (fun _ => 0))), (b4, .inl (E.2.2.1 0, 8, .inl (fun _ => 0))), (b5, .inl (E.2.2.1 0, 40, .inl (fun _ => 0)))]) rfl dX0_init_41 ?_
  refine r_aload_n 0 dX0_init_44 rfl rfl ?_
  refine r_bipush (v := 40) dX0_init_45 (by decide) ?_
  refine r_newI (N := 40) (by decide) (by decide) (Nat.le_of_ble_eq_true rfl) (Nat.le_of_ble_eq_true rfl) (Nat.le_of_ble_eq_true rfl) dX0_init_47 (fun b6 => ?_)
  refine r_putF (T := TX0) (f := 7) (ci := 1) (q0 := 0) tyX0 tyX0_ok nmX0 inwX0 rfl (by decide) w2_211 rfl rfl rfl rfl rfl rfl (Nat.le_of_ble_eq_true rfl) (w2 := [(a, .inr (1, [.null, .ref b1, .ref b2, .ref b3, .ref b4, .int 0, .ref b5, .ref b6, .null, .int 0, .null, .null, .int 0, .null, .null])), (b1, .inl (E.2.2.1 0, 8, .inl (fun _ => 0))), (b2, .inl (E.2.2.1 0, 8, .inl (fun _ => 0))), (b3, .inl (E.2.2.1 0, 8, .inl (fun _ => 0))), (b4, .inl (E.2.2.1 0, 8, .inl (fun _ => 0))), (b5, .inl (E.2.2.1 0, 40, .inl (fun _ => 0))), (b6, .inl (E.2.2.1 0, 40, .inl (fun _ => 0)))]) rfl dX0_init_49 ?_
  refine r_aload_n 0 dX0_init_52 rfl rfl ?_
  refine r_bipush (v := 100) dX0_init_53 (by decide) ?_
  refine r_newI (N := 100) (by decide) (by decide) (Nat.le_of_ble_eq_true rfl) (Nat.le_of_ble_eq_true rfl) (Nat.le_of_ble_eq_true rfl) dX0_init_55 (fun b7 => ?_)
  refine r_putF (T := TX0) (f := 8) (ci := 1) (q0 := 0) tyX0 tyX0_ok nmX0 inwX0 rfl (by decide) w2_212 rfl rfl rfl rfl rfl rfl (Nat.le_of_ble_eq_true rfl) (w2 := [(a, .inr (1, [.null, .ref b1, .ref b2, .ref b3, .ref b4, .int 0, .ref b5, .ref b6, .ref b7, .int 0, .null, .null, .int 0, .null, .null])), (b1, .inl (E.2.2.1 0, 8, .inl (fun _ => 0))), (b2, .inl (E.2.2.1 0, 8, .inl (fun _ => 0))), (b3, .inl (E.2.2.1 0, 8, .inl (fun _ => 0))), (b4, .inl (E.2.2.1 0, 8, .inl (fun _ => 0))), (b5, .inl (E.2.2.1 0, 40, .inl (fun _ => 0))), (b6, .inl (E.2.2.1 0, 40, .inl (fun _ => 0))), (b7, .inl (E.2.2.1 0, 100, .inl (fun _ => 0)))]) rfl dX0_init_57 ?_
  refine r_aload_n 0 dX0_init_60 rfl rfl ?_
  refine r_bipush (v := 40) dX0_init_61 (by decide) ?_
  refine r_newI (N := 40) (by decide) (by decide) (Nat.le_of_ble_eq_true rfl) (Nat.le_of_ble_eq_true rfl) (Nat.le_of_ble_eq_true rfl) dX0_init_63 (fun b8 => ?_)
  refine r_putF (T := TX0) (f := 10) (ci := 1) (q0 := 0) tyX0 tyX0_ok nmX0 inwX0 rfl (by decide) w2_216 rfl rfl rfl rfl rfl rfl (Nat.le_of_ble_eq_true rfl) (w2 := [(a, .inr (1, [.null, .ref b1, .ref b2, .ref b3, .ref b4, .int 0, .ref b5, .ref b6, .ref b7, .int 0, .ref b8, .null, .int 0, .null, .null])), (b1, .inl (E.2.2.1 0, 8, .inl (fun _ => 0))), (b2, .inl (E.2.2.1 0, 8, .inl (fun _ => 0))), (b3, .inl (E.2.2.1 0, 8, .inl (fun _ => 0))), (b4, .inl (E.2.2.1 0, 8, .inl (fun _ => 0))), (b5, .inl (E.2.2.1 0, 40, .inl (fun _ => 0))), (b6, .inl (E.2.2.1 0, 40, .inl (fun _ => 0))), (b7, .inl (E.2.2.1 0, 100, .inl (fun _ => 0))), (b8, .inl (E.2.2.1 0, 40, .inl (fun _ => 0)))]) rfl dX0_init_65 ?_
  refine r_aload_n 0 dX0_init_68 rfl rfl ?_
  refine r_bipush (v := 40) dX0_init_69 (by decide) ?_
  refine r_newI (N := 40) (by decide) (by decide) (Nat.le_of_ble_eq_true rfl) (Nat.le_of_ble_eq_true rfl) (Nat.le_of_ble_eq_true rfl) dX0_init_71 (fun b9 => ?_)
  refine r_putF (T := TX0) (f := 11) (ci := 1) (q0 := 0) tyX0 tyX0_ok nmX0 inwX0 rfl (by decide) w2_217 rfl rfl rfl rfl rfl rfl (Nat.le_of_ble_eq_true rfl) (w2 := [(a, .inr (1, [.null, .ref b1, .ref b2, .ref b3, .ref b4, .int 0, .ref b5, .ref b6, .ref b7, .int 0, .ref b8, .ref b9, .int 0, .null, .null])), (b1, .inl (E.2.2.1 0, 8, .inl (fun _ => 0))), (b2, .inl (E.2.2.1 0, 8, .inl (fun _ => 0))), (b3, .inl (E.2.2.1 0, 8, .inl (fun _ => 0))), (b4, .inl (E.2.2.1 0, 8, .inl (fun _ => 0))), (b5, .inl (E.2.2.1 0, 40, .inl (fun _ => 0))), (b6, .inl (E.2.2.1 0, 40, .inl (fun _ => 0))), (b7, .inl (E.2.2.1 0, 100, .inl (fun _ => 0))), (b8, .inl (E.2.2.1 0, 40, .inl (fun _ => 0))), (b9, .inl (E.2.2.1 0, 40, .inl (fun _ => 0)))]) rfl dX0_init_73 ?_
  refine r_aload_n 0 dX0_init_76 rfl rfl ?_
  refine r_bipush (v := 100) dX0_init_77 (by decide) ?_
  refine r_newI (N := 100) (by decide) (by decide) (Nat.le_of_ble_eq_true rfl) (Nat.le_of_ble_eq_true rfl) (Nat.le_of_ble_eq_true rfl) dX0_init_79 (fun b10 => ?_)
  refine r_putF (T := TX0) (f := 13) (ci := 1) (q0 := 0) tyX0 tyX0_ok nmX0 inwX0 rfl (by decide) w2_219 rfl rfl rfl rfl rfl rfl (Nat.le_of_ble_eq_true rfl) (w2 := [(a, .inr (1, [.null, .ref b1, .ref b2, .ref b3, .ref b4, .int 0, .ref b5, .ref b6, .ref b7, .int 0, .ref b8, .ref b9, .int 0, .ref b10, .null])), (b1, .inl (E.2.2.1 0, 8, .inl (fun _ => 0))), (b2, .inl (E.2.2.1 0, 8, .inl (fun _ => 0))), (b3, .inl (E.2.2.1 0, 8, .inl (fun _ => 0))), (b4, .inl (E.2.2.1 0, 8, .inl (fun _ => 0))), (b5, .inl (E.2.2.1 0, 40, .inl (fun _ => 0))), (b6, .inl (E.2.2.1 0, 40, .inl (fun _ => 0))), (b7, .inl (E.2.2.1 0, 100, .inl (fun _ => 0))), (b8, .inl (E.2.2.1 0, 40, .inl (fun _ => 0))), (b9, .inl (E.2.2.1 0, 40, .inl (fun _ => 0))), (b10, .inl (E.2.2.1 0, 100, .inl (fun _ => 0)))]) rfl dX0_init_81 ?_
  refine r_aload_n 0 dX0_init_84 rfl rfl ?_
  refine r_bipush (v := 100) dX0_init_85 (by decide) ?_
  refine r_newI (N := 100) (by decide) (by decide) (Nat.le_of_ble_eq_true rfl) (Nat.le_of_ble_eq_true rfl) (Nat.le_of_ble_eq_true rfl) dX0_init_87 (fun b11 => ?_)
  refine r_putF (T := TX0) (f := 14) (ci := 1) (q0 := 0) tyX0 tyX0_ok nmX0 inwX0 rfl (by decide) w2_220 rfl rfl rfl rfl rfl rfl (Nat.le_of_ble_eq_true rfl) (w2 := [(a, .inr (1, [.null, .ref b1, .ref b2, .ref b3, .ref b4, .int 0, .ref b5, .ref b6, .ref b7, .int 0, .ref b8, .ref b9, .int 0, .ref b10, .ref b11])), (b1, .inl (E.2.2.1 0, 8, .inl (fun _ => 0))), (b2, .inl (E.2.2.1 0, 8, .inl (fun _ => 0))), (b3, .inl (E.2.2.1 0, 8, .inl (fun _ => 0))), (b4, .inl (E.2.2.1 0, 8, .inl (fun _ => 0))), (b5, .inl (E.2.2.1 0, 40, .inl (fun _ => 0))), (b6, .inl (E.2.2.1 0, 40, .inl (fun _ => 0))), (b7, .inl (E.2.2.1 0, 100, .inl (fun _ => 0))), (b8, .inl (E.2.2.1 0, 40, .inl (fun _ => 0))), (b9, .inl (E.2.2.1 0, 40, .inl (fun _ => 0))), (b10, .inl (E.2.2.1 0, 100, .inl (fun _ => 0))), (b11, .inl (E.2.2.1 0, 100, .inl (fun _ => 0)))]) rfl dX0_init_89 ?_
  refine r_aload_n 0 dX0_init_92 rfl rfl ?_
  refine r_aload_n 1 dX0_init_93 rfl rfl ?_
  refine r_putF (T := TX0) (f := 0) (ci := 1) (q0 := 0) tyX0 tyX0_ok nmX0 inwX0 rfl (by decide) w2_199 rfl rfl rfl rfl rfl rfl (Nat.le_of_ble_eq_true rfl) (w2 := [(a, .inr (1, [.ref x1, .ref b1, .ref b2, .ref b3, .ref b4, .int 0, .ref b5, .ref b6, .ref b7, .int 0, .ref b8, .ref b9, .int 0, .ref b10, .ref b11])), (b1, .inl (E.2.2.1 0, 8, .inl (fun _ => 0))), (b2, .inl (E.2.2.1 0, 8, .inl (fun _ => 0))), (b3, .inl (E.2.2.1 0, 8, .inl (fun _ => 0))), (b4, .inl (E.2.2.1 0, 8, .inl (fun _ => 0))), (b5, .inl (E.2.2.1 0, 40, .inl (fun _ => 0))), (b6, .inl (E.2.2.1 0, 40, .inl (fun _ => 0))), (b7, .inl (E.2.2.1 0, 100, .inl (fun _ => 0))), (b8, .inl (E.2.2.1 0, 40, .inl (fun _ => 0))), (b9, .inl (E.2.2.1 0, 40, .inl (fun _ => 0))), (b10, .inl (E.2.2.1 0, 100, .inl (fun _ => 0))), (b11, .inl (E.2.2.1 0, 100, .inl (fun _ => 0)))]) rfl dX0_init_94 ?_
  refine r_aload_n 0 dX0_init_97 rfl rfl ?_
  refine r_get (T := TX0) (f := 2) (ci := 1) (q0 := 0) inwX0 rfl (by decide) w2_202 rfl rfl dX0_init_98 ?_
  refine r_bipush (v := 99) dX0_init_101 (by decide) ?_
  refine r_sub (w2 := [(a, .inr (1, [.ref x1, .ref b1, .ref b2, .ref b3, .ref b4, .int 0, .ref b5, .ref b6, .ref b7, .int 0, .ref b8, .ref b9, .int 0, .ref b10, .ref b11])), (b1, .inl (E.2.2.1 0, 8, .inl (fun _ => 0))), (b3, .inl (E.2.2.1 0, 8, .inl (fun _ => 0))), (b4, .inl (E.2.2.1 0, 8, .inl (fun _ => 0))), (b5, .inl (E.2.2.1 0, 40, .inl (fun _ => 0))), (b6, .inl (E.2.2.1 0, 40, .inl (fun _ => 0))), (b7, .inl (E.2.2.1 0, 100, .inl (fun _ => 0))), (b8, .inl (E.2.2.1 0, 40, .inl (fun _ => 0))), (b9, .inl (E.2.2.1 0, 40, .inl (fun _ => 0))), (b10, .inl (E.2.2.1 0, 100, .inl (fun _ => 0))), (b11, .inl (E.2.2.1 0, 100, .inl (fun _ => 0))), (b2, .inl (E.2.2.1 0, 8, .inl (fun _ => 0)))]) [0, 1, 3, 4, 5, 6, 7, 8, 9, 10, 11, 2] rfl rfl ?_
  refine r_callS (J := iX_Jfill) (As := [.ref b2, .int 99]) w2_196 w2_197 w1_14 w2_198 (nA := 2) (by decide +kernel) rfl (by decide) (by decide) dX0_init_103 ⟨(Nat.le_of_ble_eq_true rfl), (Nat.le_of_ble_eq_true rfl)⟩ rfl ((ct_fill (N := 8) (by decide)).frame [(a, .inr (1, [.ref x1, .ref b1, .ref b2, .ref b3, .ref b4, .int 0, .ref b5, .ref b6, .ref b7, .int 0, .ref b8, .ref b9, .int 0, .ref b10, .ref b11])), (b1, .inl (E.2.2.1 0, 8, .inl (fun _ => 0))), (b3, .inl (E.2.2.1 0, 8, .inl (fun _ => 0))), (b4, .inl (E.2.2.1 0, 8, .inl (fun _ => 0))), (b5, .inl (E.2.2.1 0, 40, .inl (fun _ => 0))), (b6, .inl (E.2.2.1 0, 40, .inl (fun _ => 0))), (b7, .inl (E.2.2.1 0, 100, .inl (fun _ => 0))), (b8, .inl (E.2.2.1 0, 40, .inl (fun _ => 0))), (b9, .inl (E.2.2.1 0, 40, .inl (fun _ => 0))), (b10, .inl (E.2.2.1 0, 100, .inl (fun _ => 0))), (b11, .inl (E.2.2.1 0, 100, .inl (fun _ => 0)))]) ?_
  intro v w9 h9; obtain ⟨w8, h8, h7, h6⟩ := h9; subst h8; subst h7; subst h6
  refine r_sub (w2 := [(a, .inr (1, [.ref x1, .ref b1, .ref b2, .ref b3, .ref b4, .int 0, .ref b5, .ref b6, .ref b7, .int 0, .ref b8, .ref b9, .int 0, .ref b10, .ref b11])), (b1, .inl (E.2.2.1 0, 8, .inl (fun _ => 0))), (b2, .inl (E.2.2.1 0, 8, .inl (fillF 8 99 (fun _ => 0)))), (b3, .inl (E.2.2.1 0, 8, .inl (fun _ => 0))), (b4, .inl (E.2.2.1 0, 8, .inl (fun _ => 0))), (b5, .inl (E.2.2.1 0, 40, .inl (fun _ => 0))), (b6, .inl (E.2.2.1 0, 40, .inl (fun _ => 0))), (b7, .inl (E.2.2.1 0, 100, .inl (fun _ => 0))), (b8, .inl (E.2.2.1 0, 40, .inl (fun _ => 0))), (b9, .inl (E.2.2.1 0, 40, .inl (fun _ => 0))), (b10, .inl (E.2.2.1 0, 100, .inl (fun _ => 0))), (b11, .inl (E.2.2.1 0, 100, .inl (fun _ => 0)))]) [0, 1, 11, 2, 3, 4, 5, 6, 7, 8, 9, 10] rfl rfl ?_
  refine r_aload_n 0 dX0_init_106 rfl rfl ?_
  refine r_get (T := TX0) (f := 8) (ci := 1) (q0 := 0) inwX0 rfl (by decide) w2_212 rfl rfl dX0_init_107 ?_
  refine r_bipush (v := 8) dX0_init_110 (by decide) ?_
  refine r_sub (w2 := [(a, .inr (1, [.ref x1, .ref b1, .ref b2, .ref b3, .ref b4, .int 0, .ref b5, .ref b6, .ref b7, .int 0, .ref b8, .ref b9, .int 0, .ref b10, .ref b11])), (b1, .inl (E.2.2.1 0, 8, .inl (fun _ => 0))), (b2, .inl (E.2.2.1 0, 8, .inl (fillF 8 99 (fun _ => 0)))), (b3, .inl (E.2.2.1 0, 8, .inl (fun _ => 0))), (b4, .inl (E.2.2.1 0, 8, .inl (fun _ => 0))), (b5, .inl (E.2.2.1 0, 40, .inl (fun _ => 0))), (b6, .inl (E.2.2.1 0, 40, .inl (fun _ => 0))), (b8, .inl (E.2.2.1 0, 40, .inl (fun _ => 0))), (b9, .inl (E.2.2.1 0, 40, .inl (fun _ => 0))), (b10, .inl (E.2.2.1 0, 100, .inl (fun _ => 0))), (b11, .inl (E.2.2.1 0, 100, .inl (fun _ => 0))), (b7, .inl (E.2.2.1 0, 100, .inl (fun _ => 0)))]) [0, 1, 2, 3, 4, 5, 6, 8, 9, 10, 11, 7] rfl rfl ?_
  refine r_callS (J := iX_Jfill) (As := [.ref b7, .int 8]) w2_196 w2_197 w1_14 w2_198 (nA := 2) (by decide +kernel) rfl (by decide) (by decide) dX0_init_112 ⟨(Nat.le_of_ble_eq_true rfl), (Nat.le_of_ble_eq_true rfl)⟩ rfl ((ct_fill (N := 100) (by decide)).frame [(a, .inr (1, [.ref x1, .ref b1, .ref b2, .ref b3, .ref b4, .int 0, .ref b5, .ref b6, .ref b7, .int 0, .ref b8, .ref b9, .int 0, .ref b10, .ref b11])), (b1, .inl (E.2.2.1 0, 8, .inl (fun _ => 0))), (b2, .inl (E.2.2.1 0, 8, .inl (fillF 8 99 (fun _ => 0)))), (b3, .inl (E.2.2.1 0, 8, .inl (fun _ => 0))), (b4, .inl (E.2.2.1 0, 8, .inl (fun _ => 0))), (b5, .inl (E.2.2.1 0, 40, .inl (fun _ => 0))), (b6, .inl (E.2.2.1 0, 40, .inl (fun _ => 0))), (b8, .inl (E.2.2.1 0, 40, .inl (fun _ => 0))), (b9, .inl (E.2.2.1 0, 40, .inl (fun _ => 0))), (b10, .inl (E.2.2.1 0, 100, .inl (fun _ => 0))), (b11, .inl (E.2.2.1 0, 100, .inl (fun _ => 0)))]) ?_
  intro v w9 h9; obtain ⟨w8, h8, h7, h6⟩ := h9; subst h8; subst h7; subst h6
  refine r_sub (w2 := [(a, .inr (1, [.ref x1, .ref b1, .ref b2, .ref b3, .ref b4, .int 0, .ref b5, .ref b6, .ref b7, .int 0, .ref b8, .ref b9, .int 0, .ref b10, .ref b11])), (b1, .inl (E.2.2.1 0, 8, .inl (fun _ => 0))), (b2, .inl (E.2.2.1 0, 8, .inl (fillF 8 99 (fun _ => 0)))), (b3, .inl (E.2.2.1 0, 8, .inl (fun _ => 0))), (b4, .inl (E.2.2.1 0, 8, .inl (fun _ => 0))), (b5, .inl (E.2.2.1 0, 40, .inl (fun _ => 0))), (b6, .inl (E.2.2.1 0, 40, .inl (fun _ => 0))), (b7, .inl (E.2.2.1 0, 100, .inl (fillF 100 8 (fun _ => 0)))), (b8, .inl (E.2.2.1 0, 40, .inl (fun _ => 0))), (b9, .inl (E.2.2.1 0, 40, .inl (fun _ => 0))), (b10, .inl (E.2.2.1 0, 100, .inl (fun _ => 0))), (b11, .inl (E.2.2.1 0, 100, .inl (fun _ => 0)))]) [0, 1, 2, 3, 4, 5, 6, 11, 7, 8, 9, 10] rfl rfl ?_
  exact r_vret dX0_init_115 rfl (Nat.le_of_ble_eq_true rfl) (Nat.le_of_ble_eq_true rfl) ⟨rfl, b1, b2, b3, b4, b5, b6, b7, b8, b9, b10, b11, rfl⟩
abbrev iI_X5 : MI := (yX5_init, cX5_init, 1, none)
set_option maxRecDepth 100000 in
set_option maxHeartbeats 4000000 in
theorem ci_X5 {E : EvT} {d a z mi : Nat} (hE : EOq E z mi) : Cn E iI_X5 (d + 4) 6 100 [.ref a] [(a, .inr (6, [.null, .null, .null, .null, .null, .null]))] (fun v w => v = none ∧ ∃ b1 b2 b3 b4 b5 b6 : Nat, w = [(a, .inr (6, [.ref b1, .ref b2, .ref b3, .ref b4, .ref b5, .ref b6])), (b1, .inr (0, [.int 0, .ref z, .int 0])), (b2, .inl (E.2.2.1 0, 20, .inl (fun _ => 0))), (b3, .inl (E.2.2.1 0, 20, .inl (fun _ => 0))), (b4, .inl (E.2.2.1 0, 20, .inl (fun _ => 0))), (b5, .inl (E.2.2.1 0, 5, .inl (fun _ => 0))), (b6, .inl (E.2.2.1 0, 32, .inl (fun _ => 0)))]) := by
  refine Cn.of rfl (Nat.le_of_ble_eq_true rfl) (ls := [(0, .ref a)]) rfl ?_
  refine r_aload_n 0 dX5_init_0 rfl rfl ?_
  refine r_objInit w1_201 dX5_init_1 (by decide) ?_
  refine r_aload_n 0 dX5_init_4 rfl rfl ?_
  refine r_new (T := TJx4a65c) (ci := 0) [.int 0, .null, .int 0] tyJx4a65c tyJx4a65c_ok inwJx4a65c rfl w1_202 w1_203 w1_9 (df_Jx4a65c) (Nat.le_of_ble_eq_true rfl) (Nat.le_of_ble_eq_true rfl) dX5_init_5 (fun b1 => ?_)
  refine r_dup dX5_init_8 rfl ?_
  refine r_callI (J := iI_AL) (As := []) w1_204 w1_205 w1_9 w1_206 rfl rfl (nA := 0) (by decide +kernel) rfl (by decide) (Nat.le_of_ble_eq_true rfl) dX5_init_9 ⟨(Nat.le_of_ble_eq_true rfl), (Nat.le_of_ble_eq_true rfl)⟩ rfl ((ci_AL hE).frame [(a, .inr (6, [.null, .null, .null, .null, .null, .null]))]) ?_
  intro v w9 h9; obtain ⟨w8, h8, h7, h6⟩ := h9; subst h8; subst h7; subst h6
  refine r_eqw (w2 := [(a, .inr (6, [.null, .null, .null, .null, .null, .null])), (b1, .inr (0, [.int 0, .ref z, .int 0]))]) rfl ?_
  refine r_putF (T := TX5) (f := 0) (ci := 6) (q0 := 0) tyX5 tyX5_ok nmX5 inwX5 rfl (by decide) w1_228 rfl rfl rfl rfl rfl rfl (Nat.le_of_ble_eq_true rfl) (w2 := [(a, .inr (6, [.ref b1, .null, .null, .null, .null, .null])), (b1, .inr (0, [.int 0, .ref z, .int 0]))]) rfl dX5_init_12 ?_
  refine r_aload_n 0 dX5_init_15 rfl rfl ?_
  refine r_bipush (v := 20) dX5_init_16 (by decide) ?_
  refine r_newI (N := 20) (by decide) (by decide) (Nat.le_of_ble_eq_true rfl) (Nat.le_of_ble_eq_true rfl) (Nat.le_of_ble_eq_true rfl) dX5_init_18 (fun b2 => ?_)
  refine r_putF (T := TX5) (f := 1) (ci := 6) (q0 := 0) tyX5 tyX5_ok nmX5 inwX5 rfl (by decide) w1_229 rfl rfl rfl rfl rfl rfl (Nat.le_of_ble_eq_true rfl) (w2 := [(a, .inr (6, [.ref b1, .ref b2, .null, .null, .null, .null])), (b1, .inr (0, [.int 0, .ref z, .int 0])), (b2, .inl (E.2.2.1 0, 20, .inl (fun _ => 0)))]) rfl dX5_init_20 ?_
  refine r_aload_n 0 dX5_init_23 rfl rfl ?_
  refine r_bipush (v := 20) dX5_init_24 (by decide) ?_
  refine r_newI (N := 20) (by decide) (by decide) (Nat.le_of_ble_eq_true rfl) (Nat.le_of_ble_eq_true rfl) (Nat.le_of_ble_eq_true rfl) dX5_init_26 (fun b3 => ?_)
  refine r_putF (T := TX5) (f := 2) (ci := 6) (q0 := 0) tyX5 tyX5_ok nmX5 inwX5 rfl (by decide) w1_230 rfl rfl rfl rfl rfl rfl (Nat.le_of_ble_eq_true rfl) (w2 := [(a, .inr (6, [.ref b1, .ref b2, .ref b3, .null, .null, .null])), (b1, .inr (0, [.int 0, .ref z, .int 0])), (b2, .inl (E.2.2.1 0, 20, .inl (fun _ => 0))), (b3, .inl (E.2.2.1 0, 20, .inl (fun _ => 0)))]) rfl dX5_init_28 ?_
  refine r_aload_n 0 dX5_init_31 rfl rfl ?_
  refine r_bipush (v := 20) dX5_init_32 (by decide) ?_
  refine r_newI (N := 20) (by decide) (by decide) (Nat.le_of_ble_eq_true rfl) (Nat.le_of_ble_eq_true rfl) (Nat.le_of_ble_eq_true rfl) dX5_init_34 (fun b4 => ?_)
  refine r_putF (T := TX5) (f := 3) (ci := 6) (q0 := 0) tyX5 tyX5_ok nmX5 inwX5 rfl (by decide) w1_231 rfl rfl rfl rfl rfl rfl (Nat.le_of_ble_eq_true rfl) (w2 := [(a, .inr (6, [.ref b1, .ref b2, .ref b3, .ref b4, .null, .null])), (b1, .inr (0, [.int 0, .ref z, .int 0])), (b2, .inl (E.2.2.1 0, 20, .inl (fun _ => 0))), (b3, .inl (E.2.2.1 0, 20, .inl (fun _ => 0))), (b4, .inl (E.2.2.1 0, 20, .inl (fun _ => 0)))]) rfl dX5_init_36 ?_
  refine r_aload_n 0 dX5_init_39 rfl rfl ?_
  refine r_iconst (v := 5) dX5_init_40 (by decide) ?_
  refine r_newI (N := 5) (by decide) (by decide) (Nat.le_of_ble_eq_true rfl) (Nat.le_of_ble_eq_true rfl) (Nat.le_of_ble_eq_true rfl) dX5_init_41 (fun b5 => ?_)
  refine r_putF (T := TX5) (f := 4) (ci := 6) (q0 := 0) tyX5 tyX5_ok nmX5 inwX5 rfl (by decide) w1_232 rfl rfl rfl rfl rfl rfl (Nat.le_of_ble_eq_true rfl) (w2 := [(a, .inr (6, [.ref b1, .ref b2, .ref b3, .ref b4, .ref b5, .null])), (b1, .inr (0, [.int 0, .ref z, .int 0])), (b2, .inl (E.2.2.1 0, 20, .inl (fun _ => 0))), (b3, .inl (E.2.2.1 0, 20, .inl (fun _ => 0))), (b4, .inl (E.2.2.1 0, 20, .inl (fun _ => 0))), (b5, .inl (E.2.2.1 0, 5, .inl (fun _ => 0)))]) rfl dX5_init_43 ?_
  refine r_aload_n 0 dX5_init_46 rfl rfl ?_
  refine r_bipush (v := 32) dX5_init_47 (by decide) ?_
  refine r_newI (N := 32) (by decide) (by decide) (Nat.le_of_ble_eq_true rfl) (Nat.le_of_ble_eq_true rfl) (Nat.le_of_ble_eq_true rfl) dX5_init_49 (fun b6 => ?_)
  refine r_putF (T := TX5) (f := 5) (ci := 6) (q0 := 0) tyX5 tyX5_ok nmX5 inwX5 rfl (by decide) w1_233 rfl rfl rfl rfl rfl rfl (Nat.le_of_ble_eq_true rfl) (w2 := [(a, .inr (6, [.ref b1, .ref b2, .ref b3, .ref b4, .ref b5, .ref b6])), (b1, .inr (0, [.int 0, .ref z, .int 0])), (b2, .inl (E.2.2.1 0, 20, .inl (fun _ => 0))), (b3, .inl (E.2.2.1 0, 20, .inl (fun _ => 0))), (b4, .inl (E.2.2.1 0, 20, .inl (fun _ => 0))), (b5, .inl (E.2.2.1 0, 5, .inl (fun _ => 0))), (b6, .inl (E.2.2.1 0, 32, .inl (fun _ => 0)))]) rfl dX5_init_51 ?_
  exact r_vret dX5_init_54 rfl (Nat.le_of_ble_eq_true rfl) (Nat.le_of_ble_eq_true rfl) ⟨rfl, b1, b2, b3, b4, b5, b6, rfl⟩
