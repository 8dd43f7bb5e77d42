/-! AshCity.rules on the machine's level -/
def qWx (E : EvT) (q : Nat → Nat) (P : Int32 → StX → Prop) : Option Value → va_W → Prop := fun v w => ∃ (r : Int32) (q2 : Nat → Nat) (S : StX), v = some (.int r) ∧ w = wX E q2 S ∧ (∀ i, i < 1000 → i ≠ 13 → q2 i = q i) ∧ P r S
/-- what must hold behind a text without fault: any new text that has the reader's rows -/
def rulN (x1 x2 : Int32) (P : Int32 → StX → Prop) (Y : StX) : Prop := ∃ nC nS : Nat, xs_Read_clauses Y = nI nC ∧ xs_Read_steps Y = nI nS ∧ nC ≤ 10 ∧ nS ≤ 160 ∧ (rbX Y < 1000 ∧ rbX Y ≠ 13) ∧ nTx Y < 20 ∧ nTx Y ≤ capX Y ∧ capX Y ≤ 1000 ∧ ∀ (g1 g2 g3 g4 g5 : Nat → Int32) (cap2 : Nat), (∀ k, k < nC → g1 k = xa_Read_letter Y k ∧ g2 k = xa_Read_value Y k ∧ g3 k = xa_Read_target Y k ∧ g4 k = xa_Read_codeEnd Y k) → (∀ k, k < nS → g5 k = xa_Read_code Y k) → nTx Y + 1 ≤ cap2 → cap2 ≤ 1000 → P (nI (nTx Y)) (xDy (xA (xA Y 101 (upd (Y.2.1 101) (nTx Y) x1)) 102 (upd (Y.2.1 102) (nTx Y) x2)) (Y.2.2.2.2.1 + 1, cap2, txs Y ++ [(nC, g1, g2, g3, g4, nS, g5)]))
set_option maxRecDepth 20000 in
set_option maxHeartbeats 4000000 in
theorem cx_rules {E : EvT} {q : Nat → Nat} {d mi : Nat} {x1 x2 x3 : Int32} {S : StX} {P : Int32 → StX → Prop} (hQ : EOq E (q 15) mi) (hB : EOr E) (h1 : ¬ (pSpan x1 x2 9999 = true ∧ mIn x3 1 160 = true ∧ ¬ 20 ≤ nI (nTx S) ∧ x3 ≤ xs_Tape_length S) → P (-1) S) (h2 : (pSpan x1 x2 9999 = true ∧ mIn x3 1 160 = true ∧ ¬ 20 ≤ nI (nTx S) ∧ x3 ≤ xs_Tape_length S) → C_Read_read E q (d + 25) x3 (xI S 181 0) (fun r Y => (¬ r = 0 → P r Y) ∧ (r = 0 → rulN x1 x2 P Y))) : Cn E iX_City_rules (d + 26) 7 269 [.ref (q 11), .int x1, .int x2, .int x3] (wX E q S) (qWx E q P) := by
  have ret1 : ∀ (pc : Nat) (hd : decode cX11_rules pc = .ok (.ireturn, 1)), (¬ (pSpan x1 x2 9999 = true ∧ mIn x3 1 160 = true ∧ ¬ 20 ≤ nI (nTx S) ∧ x3 ≤ xs_Tape_length S)) → RR E iX_City_rules (d + 26) 7 269 (qWx E q P) (wX E q S) 0 0 [(0, .ref (q 11)), (1, .int x1), (2, .int x2), (3, .int x3)] [.int (-1)] pc := fun pc hd hn => r_iret hd rfl (Nat.zero_le _) (Nat.zero_le _) ⟨_, q, S, rfl, rfl, fun _ _ _ => rfl, h1 hn⟩
  refine Cn.of rfl (Nat.le_of_ble_eq_true rfl) (ls := [(0, .ref (q 11)), (1, .int x1), (2, .int x2), (3, .int x3)]) rfl ?_
  refine r_iload_n 1 dX11_rules_0 rfl rfl ?_
  refine r_iload_n 2 dX11_rules_1 rfl rfl ?_
  refine r_sipush (v := 9999) dX11_rules_2 (by decide) ?_
  refine r_callS (J := iX_City_isSpan) (As := [.int x1, .int x2, .int 9999]) w3_166 w3_167 w1_1 w3_168 (nA := 3) (by decide +kernel) rfl (by decide) (Nat.le_of_ble_eq_true rfl) dX11_rules_5 ⟨Nat.le_of_ble_eq_true rfl, Nat.le_of_ble_eq_true rfl⟩ rfl (ct_City_isSpan (d := d + 25)) ?_
  intro v w' h
  obtain ⟨r, S1, hv, hw, hr1, hs1⟩ := h
  rw [hs1] at hw
  subst hv; subst hw; subst hr1
  refine r_if_eqb (tgt := 22) dX11_rules_8 (by decide) (fun c1 => ?_) (fun c1 => ?_)
  · refine r_iconst (v := -1) dX11_rules_22 (by decide) ?_
    exact ret1 23 dX11_rules_23 (fun h => by rw [c1] at h; exact absurd h.1 (by decide))
  refine r_iload_n 3 dX11_rules_11 rfl rfl ?_
  refine r_iconst_1 dX11_rules_12 ?_
  refine r_sipush (v := 160) dX11_rules_13 (by decide) ?_
  refine r_callS (J := iX_City_within) (As := [.int x3, .int 1, .int 160]) w3_86 w3_87 w1_1 w3_88 (nA := 3) (by decide +kernel) rfl (by decide) (Nat.le_of_ble_eq_true rfl) dX11_rules_16 ⟨Nat.le_of_ble_eq_true rfl, Nat.le_of_ble_eq_true rfl⟩ rfl (ct_City_within (d := d + 25)) ?_
  intro v w' h
  obtain ⟨r, S1, hv, hw, hr1, hs1⟩ := h
  rw [hs1] at hw
  subst hv; subst hw; subst hr1
  refine r_if_neb (tgt := 24) dX11_rules_19 (by decide) (fun c2 => ?_) (fun c2 => ?_)
  case refine_2 =>
    refine r_iconst (v := -1) dX11_rules_22 (by decide) ?_
    exact ret1 23 dX11_rules_23 (fun h => by rw [c2] at h; exact absurd h.2.1 (by decide))
  refine r_aload_n 0 dX11_rules_24 rfl rfl ?_
  refine r_get (T := TX11) (f := 4) inwX11 rfl (by decide) w3_52 wX_11 rfl dX11_rules_25 ?_
  refine r_callV (J := iX_Book_size) (As := []) (T := TX5) w4_26 w4_27 w4_28 w1_6 w4_29 (nA := 0) (by decide +kernel) rfl (by decide) wX_5 rfl (Nat.le_of_ble_eq_true rfl) dX11_rules_28 ⟨Nat.le_of_ble_eq_true rfl, Nat.le_of_ble_eq_true rfl⟩ rfl (en_Book_size (d := d + 24) (P := fun r S1 => r = nI (nTx S) ∧ S1 = S) ⟨rfl, rfl⟩) ?_
  intro v w' h
  obtain ⟨r, S1, hv, hw, hr1, hs1⟩ := h
  rw [hs1] at hw
  subst hv; subst hw; subst hr1
  refine r_bipush (v := 20) dX11_rules_31 (by decide) ?_
  refine r_icmp_ge (tgt := 47) dX11_rules_33 (by decide) (fun c3 => ?_) (fun c3 => ?_)
  · refine r_iconst (v := -1) dX11_rules_47 (by decide) ?_
    exact ret1 48 dX11_rules_48 (fun h => h.2.2.1 c3)
  refine r_iload_n 3 dX11_rules_36 rfl rfl ?_
  refine r_aload_n 0 dX11_rules_37 rfl rfl ?_
  refine r_get (T := TX11) (f := 0) inwX11 rfl (by decide) w3_48 wX_11 rfl dX11_rules_38 ?_
  refine r_get (T := TX9) (f := 1) inwX9 rfl (by decide) w1_41 wX_9 rfl dX11_rules_41 ?_
  refine r_icmp_le (tgt := 49) dX11_rules_44 (by decide) (fun c4 => ?_) (fun c4 => ?_)
  case refine_2 =>
    refine r_iconst (v := -1) dX11_rules_47 (by decide) ?_
    exact ret1 48 dX11_rules_48 (fun h => c4 h.2.2.2)
  have hr := h2 ⟨c1, c2, c3, c4⟩
  refine r_aload_n 0 dX11_rules_49 rfl rfl ?_
  refine r_get (T := TX11) (f := 0) inwX11 rfl (by decide) w3_48 wX_11 rfl dX11_rules_50 ?_
  refine r_callV (J := iX_Tape_clear) (As := []) (T := TX9) w4_34 w4_35 w4_36 w1_2 w4_37 (nA := 0) (by decide +kernel) rfl (by decide) wX_9 rfl (Nat.le_of_ble_eq_true rfl) dX11_rules_53 ⟨Nat.le_of_ble_eq_true rfl, Nat.le_of_ble_eq_true rfl⟩ rfl (en_Tape_clear (d := d + 25) (P := fun S1 => S1 = xI S 181 0) rfl) ?_
  intro v w' h
  obtain ⟨S1, hv, hw, hs1⟩ := h
  rw [hs1] at hw
  subst hv; subst hw
  refine r_aload_n 0 dX11_rules_56 rfl rfl ?_
  refine r_get (T := TX11) (f := 3) inwX11 rfl (by decide) w3_51 wX_11 rfl dX11_rules_57 ?_
  refine r_aload_n 0 dX11_rules_60 rfl rfl ?_
  refine r_get (T := TX11) (f := 0) inwX11 rfl (by decide) w3_48 wX_11 rfl dX11_rules_61 ?_
  refine r_get (T := TX9) (f := 0) inwX9 rfl (by decide) w1_39 wX_9 rfl dX11_rules_64 ?_
  refine r_iload_n 3 dX11_rules_67 rfl rfl ?_
  refine r_callV (J := iX_Read_read) (As := [.ref (q 280), .int x3]) (T := TX6) w4_38 w4_39 w4_40 w1_5 w4_41 (nA := 2) (by decide +kernel) rfl (by decide) wX_6 rfl (Nat.le_of_ble_eq_true rfl) dX11_rules_68 ⟨Nat.le_of_ble_eq_true rfl, Nat.le_of_ble_eq_true rfl⟩ rfl hr ?_
  intro v w' h
  obtain ⟨r, Y, rfl, rfl, k1, k2⟩ := h
  refine r_istore [(4, .int r), (0, .ref (q 11)), (1, .int x1), (2, .int x2), (3, .int x3)] dX11_rules_71 (Nat.le_of_ble_eq_true rfl) rfl ?_
  refine r_iload 0 dX11_rules_73 rfl ?_
  refine r_if_eq (tgt := 83) dX11_rules_75 (by decide) (fun c5 => ?_) (fun c5 => ?_)
  case refine_2 =>
    refine r_iload 0 dX11_rules_78 rfl ?_
    refine r_goto (tgt := 99) dX11_rules_80 (by decide) ?_
    exact r_iret dX11_rules_99 rfl (Nat.zero_le _) (Nat.zero_le _) ⟨r, q, Y, rfl, rfl, fun _ _ _ => rfl, k1 c5⟩
  obtain ⟨nC, nS, y1, y2, y3, y4, y5, y6, y7, y8, y9⟩ := k2 c5
  refine r_aload_n 1 dX11_rules_83 rfl rfl ?_
  refine r_get (T := TX11) (f := 4) inwX11 rfl (by decide) w3_52 wX_11 rfl dX11_rules_84 ?_
  refine r_iload_n 2 dX11_rules_87 rfl rfl ?_
  refine r_iload_n 3 dX11_rules_88 rfl rfl ?_
  refine r_aload_n 1 dX11_rules_89 rfl rfl ?_
  refine r_get (T := TX11) (f := 3) inwX11 rfl (by decide) w3_51 wX_11 rfl dX11_rules_90 ?_
  refine r_callV (J := iX_Read_text) (As := []) (T := TX6) w4_114 w4_115 w4_116 w1_5 w4_117 (nA := 0) (by decide +kernel) rfl (by decide) wX_6 rfl (Nat.le_of_ble_eq_true rfl) dX11_rules_93 ⟨Nat.le_of_ble_eq_true rfl, Nat.le_of_ble_eq_true rfl⟩ rfl (ct_text (d := d + 19) hB y1 y2 y3 y4) ?_
  intro v w' h
  obtain ⟨t, e1, e2, e3, e4, e5, g1, g2, g3, g4, g5, rfl, m1, m2, rfl⟩ := h
  refine r_eqw (w2 := wX E (qT q (nTx Y) t e1 e2 e3 e4 e5) Y ++ txC E (qT q (nTx Y) t e1 e2 e3 e4 e5) (nTx Y) (nC, g1, g2, g3, g4, nS, g5)) ?_ ?_
  · rw [wX_q (q := q) (fun i hi => qT_lo hi) y5]
    simp only [txC, qT_0, qT_1, qT_2, qT_3, qT_4, qT_5]
  have con := cb_add (E := E) (q := qT q (nTx Y) t e1 e2 e3 e4 e5) (d := d + 17) (mi := mi) (S := Y) (t := (nC, g1, g2, g3, g4, nS, g5)) (x1 := x1) (x2 := x2) (by rw [qT_lo (by omega)]; exact hQ) hB y6 y7 y8 y5
  have h5 : wX E (qT q (nTx Y) t e1 e2 e3 e4 e5) Y ++ txC E (qT q (nTx Y) t e1 e2 e3 e4 e5) (nTx Y) (nC, g1, g2, g3, g4, nS, g5) = wX E (qT q (nTx Y) t e1 e2 e3 e4 e5) Y ++ txC E (qT q (nTx Y) t e1 e2 e3 e4 e5) (nTx Y) (nC, g1, g2, g3, g4, nS, g5) := rfl
  have hb5 : (wX E (qT q (nTx Y) t e1 e2 e3 e4 e5) Y ++ txC E (qT q (nTx Y) t e1 e2 e3 e4 e5) (nTx Y) (nC, g1, g2, g3, g4, nS, g5))[5]? = some (q 5, .inr (6, fX5 (qT q (nTx Y) t e1 e2 e3 e4 e5) Y)) := by
    rw [← qT_lo (q := q) (n := nTx Y) (t := t) (c1 := e1) (c2 := e2) (c3 := e3) (c4 := e4) (c5 := e5) (i := 5) (by omega)]
    rfl
  rw [qT_0, qT_lo (i := 5) (by omega)] at con
  refine r_callV (J := iX_Book_add) (As := [.int x1, .int x2, .ref t]) (T := TX5) (q0 := 5) w4_154 w4_155 w4_156 w1_6 w4_157 (nA := 3) (by decide +kernel) rfl (by decide) hb5 rfl (Nat.le_of_ble_eq_true rfl) dX11_rules_96 ⟨Nat.le_of_ble_eq_true rfl, Nat.le_of_ble_eq_true rfl⟩ rfl con ?_
  intro v w' h
  obtain ⟨q2, cap2, rfl, z1, z2, z3, rfl⟩ := h
  exact r_iret dX11_rules_99 rfl (Nat.le_of_ble_eq_true rfl) (Nat.le_of_ble_eq_true rfl) ⟨_, q2, _, rfl, rfl, fun i hi hj => (z1 i hi hj).trans (qT_lo (by omega)), y9 g1 g2 g3 g4 g5 cap2 m1 m2 z2 z3⟩
