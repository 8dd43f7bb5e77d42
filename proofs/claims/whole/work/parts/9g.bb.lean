/-! RuleBook.add -/
theorem nI_m1 (n : Nat) : nI (n + 1) - 1 = nI n := by
  rw [← nI_1]
  exact Int32.add_sub_cancel _ _
set_option maxRecDepth 20000 in
set_option maxHeartbeats 4000000 in
theorem cb_add {E : EvT} {q : Nat → Nat} {d mi : Nat} {S : StX} {t : TxT} {x1 x2 : Int32} (hE : EOq E (q 15) mi) (hB : EOr E) (hn : nTx S < 20) (hc : nTx S ≤ capX S) (hc2 : capX S ≤ 1000) (hr : rbX S < 1000 ∧ rbX S ≠ 13) : Cn E iX_Book_add (d + 8) 1 64 [.ref (q 5), .int x1, .int x2, .ref (q (1000 + 10 * nTx S))] (wX E q S ++ txC E q (nTx S) t) (fun v w => ∃ (q2 : Nat → Nat) (cap2 : Nat), v = some (.int (nI (nTx S))) ∧ (∀ i, i < 1000 → i ≠ 13 → q2 i = q i) ∧ nTx S + 1 ≤ cap2 ∧ cap2 ≤ 1000 ∧ w = wX E q2 (xDy (xA (xA S 101 (upd (S.2.1 101) (nTx S) x1)) 102 (upd (S.2.1 102) (nTx S) x2)) (S.2.2.2.2.1 + 1, cap2, txs S ++ [t]))) := by
  have hin : vp_in (nI (nTx S)) 20 := by
    rw [vp_in_iff, nI_toInt (by omega)]
    omega
  refine Cn.of rfl (Nat.le_of_ble_eq_true rfl) (ls := [(0, .ref (q 5)), (1, .int x1), (2, .int x2), (3, .ref (q (1000 + 10 * nTx S)))]) rfl ?_
  refine r_aload_n 0 dX5_add_0 rfl rfl ?_
  refine r_get (T := TX5) (f := 1) (q0 := 5) (ci := 6) inwX5 rfl (by decide) w1_229 rfl rfl dX5_add_1 ?_
  refine r_aload_n 0 dX5_add_4 rfl rfl ?_
  refine r_get (T := TX5) (f := 0) (q0 := 5) (ci := 6) inwX5 rfl (by decide) w1_228 rfl rfl dX5_add_5 ?_
  refine r_callV (J := iX_Lsize) (As := []) (T := TJx4a65c) (q0 := 90) w4_30 w4_31 w4_32 w1_9 w4_33 (nA := 0) (by decide +kernel) rfl (by decide) rfl rfl (Nat.le_of_ble_eq_true rfl) dX5_add_8 ⟨Nat.le_of_ble_eq_true rfl, Nat.le_of_ble_eq_true rfl⟩ rfl (cj_size.one 90 rfl) ?_
  intro v w' h
  obtain ⟨w1, rfl, rfl, rfl⟩ := h
  refine r_perm (pm_one (w := wX E q S ++ txC E q (nTx S) t) (q0 := 90) rfl) ?_
  refine r_iload_n 1 dX5_add_11 rfl rfl ?_
  refine r_iast (q0 := 62) rfl hin (w2 := wX E q (xA S 101 (upd (S.2.1 101) (ix (nI (nTx S))) x1)) ++ txC E q (nTx S) t) rfl dX5_add_12 ?_
  rw [show ix (nI (nTx S)) = nTx S from nI_clamp (by omega)]
  refine r_aload_n 0 dX5_add_13 rfl rfl ?_
  refine r_get (T := TX5) (f := 2) (q0 := 5) (ci := 6) inwX5 rfl (by decide) w1_230 rfl rfl dX5_add_14 ?_
  refine r_aload_n 0 dX5_add_17 rfl rfl ?_
  refine r_get (T := TX5) (f := 0) (q0 := 5) (ci := 6) inwX5 rfl (by decide) w1_228 rfl rfl dX5_add_18 ?_
  refine r_callV (J := iX_Lsize) (As := []) (T := TJx4a65c) (q0 := 90) w4_30 w4_31 w4_32 w1_9 w4_33 (nA := 0) (by decide +kernel) rfl (by decide) rfl rfl (Nat.le_of_ble_eq_true rfl) dX5_add_21 ⟨Nat.le_of_ble_eq_true rfl, Nat.le_of_ble_eq_true rfl⟩ rfl (cj_size.one 90 rfl) ?_
  intro v w' h
  obtain ⟨w1, rfl, rfl, rfl⟩ := h
  refine r_perm (pm_one (w := wX E q (xA S 101 (upd (S.2.1 101) (nTx S) x1)) ++ txC E q (nTx S) t) (q0 := 90) rfl) ?_
  refine r_iload_n 2 dX5_add_24 rfl rfl ?_
  refine r_iast (q0 := 63) rfl hin (w2 := wX E q (xA (xA S 101 (upd (S.2.1 101) (nTx S) x1)) 102 (upd (S.2.1 102) (ix (nI (nTx S))) x2)) ++ txC E q (nTx S) t) rfl dX5_add_25 ?_
  rw [show ix (nI (nTx S)) = nTx S from nI_clamp (by omega)]
  refine r_aload_n 0 dX5_add_26 rfl rfl ?_
  refine r_get (T := TX5) (f := 0) (q0 := 5) (ci := 6) inwX5 rfl (by decide) w1_228 rfl rfl dX5_add_27 ?_
  refine r_aload_n 3 dX5_add_30 rfl rfl ?_
  refine r_callV (J := iJ_ad1) (As := [.ref (q (1000 + 10 * nTx S))]) (T := TJx4a65c) (q0 := 90) w4_158 w4_159 w4_160 w1_9 w4_161 (nA := 1) (by decide +kernel) rfl (by decide) rfl rfl (Nat.le_of_ble_eq_true rfl) dX5_add_31 ⟨Nat.le_of_ble_eq_true rfl, Nat.le_of_ble_eq_true rfl⟩ rfl (cb_list (d := d) (A := wP E q (xA (xA S 101 (upd (S.2.1 101) (nTx S) x1)) 102 (upd (S.2.1 102) (nTx S) x2))) (D := S.2.2.2.2) (t := t) hE hB hn hc hc2) ?_
  intro v w' h
  obtain ⟨rfl, b2, cap2, rest, g1, g2, hp⟩ := h
  refine r_permd rest hp ?_
  have hq2 : ∀ i, i < 1000 → i ≠ 13 → (fun i => if i = 13 then b2 else q i) i = q i := fun i _ h => if_neg h
  refine r_eqw (w2 := wX E (fun i => if i = 13 then b2 else q i) (xDy (xA (xA S 101 (upd (S.2.1 101) (nTx S) x1)) 102 (upd (S.2.1 102) (nTx S) x2)) (S.2.2.2.2.1 + 1, cap2, txs S ++ [t]))) ?_ ?_
  · rw [← wP_q (E := E) (S := xA (xA S 101 (upd (S.2.1 101) (nTx S) x1)) 102 (upd (S.2.1 102) (nTx S) x2)) hq2 hr]
    rfl
  refine r_pop dX5_add_34 rfl ?_
  refine r_aload_n 0 dX5_add_35 rfl rfl ?_
  refine r_get (T := TX5) (f := 0) (q0 := 5) (ci := 6) inwX5 rfl (by decide) w1_228 rfl rfl dX5_add_36 ?_
  refine r_callV (J := iX_Lsize) (As := []) (T := TJx4a65c) (q0 := 90) w4_30 w4_31 w4_32 w1_9 w4_33 (nA := 0) (by decide +kernel) rfl (by decide) rfl rfl (Nat.le_of_ble_eq_true rfl) dX5_add_39 ⟨Nat.le_of_ble_eq_true rfl, Nat.le_of_ble_eq_true rfl⟩ rfl (cj_size.one 90 rfl) ?_
  intro v w' h
  obtain ⟨w1, rfl, rfl, rfl⟩ := h
  refine r_perm (pm_one (w := wX E (fun i => if i = 13 then b2 else q i) (xDy (xA (xA S 101 (upd (S.2.1 101) (nTx S) x1)) 102 (upd (S.2.1 102) (nTx S) x2)) (S.2.2.2.2.1 + 1, cap2, txs S ++ [t]))) (q0 := 90) rfl) ?_
  refine r_iconst_1 dX5_add_42 ?_
  refine r_isub dX5_add_43 ?_
  exact r_iret dX5_add_44 rfl (Nat.le_of_ble_eq_true rfl) (Nat.le_of_ble_eq_true rfl) ⟨_, cap2, congrArg (fun z => some (Value.int z)) (show nI (txs S ++ [t]).length - 1 = nI (nTx S) from by rw [show (txs S ++ [t]).length = nTx S + 1 from by simp]; exact nI_m1 _), hq2, g1, g2, rfl⟩
