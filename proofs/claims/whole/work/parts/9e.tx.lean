/-! the reader's text: a new text of rules, made of the reader's rows -/
abbrev iX_Read_text : MI := (yX6_text, cX6_text, 1, (some (.object "AshCity$RuleText")))
theorem pm_mid {x : Nat × va_E} {a c : va_W} : (a ++ x :: c).Perm ((a ++ c) ++ [x]) := by
  rw [List.append_assoc]
  exact (List.perm_append_comm (l₁ := [x]) (l₂ := c)).append_left a
set_option maxRecDepth 20000 in
set_option maxHeartbeats 4000000 in
theorem ct_text {E : EvT} {q : Nat → Nat} {d nC nS : Nat} {S : StX} (hB : EOr E) (hC : xs_Read_clauses S = nI nC) (hS : xs_Read_steps S = nI nS) (h1 : nC ≤ 10) (h2 : nS ≤ 160) : Cn E iX_Read_text (d + 6) 6 205 [.ref (q 6)] (wX E q S) (fun v w => ∃ (t c1 c2 c3 c4 c5 : Nat) (g1 g2 g3 g4 g5 : Nat → Int32), v = some (.ref t) ∧ (∀ k, k < nC → g1 k = xa_Read_letter S k ∧ g2 k = xa_Read_value S k ∧ g3 k = xa_Read_target S k ∧ g4 k = xa_Read_codeEnd S k) ∧ (∀ k, k < nS → g5 k = xa_Read_code S k) ∧ w = wX E q S ++ [(t, .inr (8, [.ref c1, .ref c2, .ref c3, .ref c4, .ref c5])), (c1, .inl (E.2.2.1 0, nC, .inl g1)), (c2, .inl (E.2.2.1 0, nC, .inl g2)), (c3, .inl (E.2.2.1 0, nC, .inl g3)), (c4, .inl (E.2.2.1 0, nC, .inl g4)), (c5, .inl (E.2.2.1 0, nS, .inl g5))]) := by
  refine Cn.of rfl (Nat.le_of_ble_eq_true rfl) (ls := [(0, .ref (q 6))]) rfl ?_
  refine r_new (T := TX7) (ci := 8) [.null, .null, .null, .null, .null] tyX7 tyX7_ok inwX7 rfl w4_118 w4_119 w1_19 df_X7 (Nat.le_of_ble_eq_true rfl) (Nat.le_of_ble_eq_true rfl) dX6_text_0 (fun t => ?_)
  refine r_dup dX6_text_3 rfl ?_
  refine r_aload_n 0 dX6_text_4 rfl rfl ?_
  refine r_get (T := TX6) (f := 6) (q0 := 6) (ci := 7) inwX6 rfl (by decide) w1_168 rfl rfl dX6_text_5 ?_
  refine r_aload_n 0 dX6_text_8 rfl rfl ?_
  refine r_get (T := TX6) (f := 4) (q0 := 6) (ci := 7) (v := .int (nI nC)) inwX6 rfl (by decide) w1_166 rfl (by rw [← hC]; rfl) dX6_text_9 ?_
  refine r_callS (J := iJ_cpI) (As := [.ref (q 226), .int (nI nC)]) w4_120 w4_121 w1_14 w4_122 (nA := 2) (by decide +kernel) rfl (by decide) (Nat.le_of_ble_eq_true rfl) dX6_text_12 ⟨by omega, by omega⟩ rfl ((cj_cpI (d := d + 3) (b := q 226) (n0 := 10) (N := nC) (f := S.2.1 126) hB (by omega) (by omega)).one 67 rfl) ?_
  intro v w' h
  obtain ⟨w1, rfl, c1, g1, rfl, hg1, rfl⟩ := h
  refine r_perm (pm_back (w := wX E q S ++ [(t, .inr (8, [.null, .null, .null, .null, .null]))]) (q0 := 67) (x := (q 226, .inl (E.2.2.1 0, 10, .inl (S.2.1 126)))) rfl [(c1, .inl (E.2.2.1 0, nC, .inl g1))]) ?_
  refine r_eqw (w2 := wX E q S ++ [(t, .inr (8, [.null, .null, .null, .null, .null])), (c1, .inl (E.2.2.1 0, nC, .inl g1))]) (List.append_assoc _ _ _) ?_
  refine r_aload_n 0 dX6_text_15 rfl rfl ?_
  refine r_get (T := TX6) (f := 7) (q0 := 6) (ci := 7) inwX6 rfl (by decide) w1_169 rfl rfl dX6_text_16 ?_
  refine r_aload_n 0 dX6_text_19 rfl rfl ?_
  refine r_get (T := TX6) (f := 4) (q0 := 6) (ci := 7) (v := .int (nI nC)) inwX6 rfl (by decide) w1_166 rfl (by rw [← hC]; rfl) dX6_text_20 ?_
  refine r_callS (J := iJ_cpI) (As := [.ref (q 227), .int (nI nC)]) w4_120 w4_121 w1_14 w4_122 (nA := 2) (by decide +kernel) rfl (by decide) (Nat.le_of_ble_eq_true rfl) dX6_text_23 ⟨by omega, by omega⟩ rfl ((cj_cpI (d := d + 3) (b := q 227) (n0 := 10) (N := nC) (f := S.2.1 127) hB (by omega) (by omega)).one 68 rfl) ?_
  intro v w' h
  obtain ⟨w1, rfl, c2, g2, rfl, hg2, rfl⟩ := h
  refine r_perm (pm_back (w := wX E q S ++ [(t, .inr (8, [.null, .null, .null, .null, .null])), (c1, .inl (E.2.2.1 0, nC, .inl g1))]) (q0 := 68) (x := (q 227, .inl (E.2.2.1 0, 10, .inl (S.2.1 127)))) rfl [(c2, .inl (E.2.2.1 0, nC, .inl g2))]) ?_
  refine r_eqw (w2 := wX E q S ++ [(t, .inr (8, [.null, .null, .null, .null, .null])), (c1, .inl (E.2.2.1 0, nC, .inl g1)), (c2, .inl (E.2.2.1 0, nC, .inl g2))]) (List.append_assoc _ _ _) ?_
  refine r_aload_n 0 dX6_text_26 rfl rfl ?_
  refine r_get (T := TX6) (f := 8) (q0 := 6) (ci := 7) inwX6 rfl (by decide) w1_170 rfl rfl dX6_text_27 ?_
  refine r_aload_n 0 dX6_text_30 rfl rfl ?_
  refine r_get (T := TX6) (f := 4) (q0 := 6) (ci := 7) (v := .int (nI nC)) inwX6 rfl (by decide) w1_166 rfl (by rw [← hC]; rfl) dX6_text_31 ?_
  refine r_callS (J := iJ_cpI) (As := [.ref (q 228), .int (nI nC)]) w4_120 w4_121 w1_14 w4_122 (nA := 2) (by decide +kernel) rfl (by decide) (Nat.le_of_ble_eq_true rfl) dX6_text_34 ⟨by omega, by omega⟩ rfl ((cj_cpI (d := d + 3) (b := q 228) (n0 := 10) (N := nC) (f := S.2.1 128) hB (by omega) (by omega)).one 69 rfl) ?_
  intro v w' h
  obtain ⟨w1, rfl, c3, g3, rfl, hg3, rfl⟩ := h
  refine r_perm (pm_back (w := wX E q S ++ [(t, .inr (8, [.null, .null, .null, .null, .null])), (c1, .inl (E.2.2.1 0, nC, .inl g1)), (c2, .inl (E.2.2.1 0, nC, .inl g2))]) (q0 := 69) (x := (q 228, .inl (E.2.2.1 0, 10, .inl (S.2.1 128)))) rfl [(c3, .inl (E.2.2.1 0, nC, .inl g3))]) ?_
  refine r_eqw (w2 := wX E q S ++ [(t, .inr (8, [.null, .null, .null, .null, .null])), (c1, .inl (E.2.2.1 0, nC, .inl g1)), (c2, .inl (E.2.2.1 0, nC, .inl g2)), (c3, .inl (E.2.2.1 0, nC, .inl g3))]) (List.append_assoc _ _ _) ?_
  refine r_aload_n 0 dX6_text_37 rfl rfl ?_
  refine r_get (T := TX6) (f := 9) (q0 := 6) (ci := 7) inwX6 rfl (by decide) w1_171 rfl rfl dX6_text_38 ?_
  refine r_aload_n 0 dX6_text_41 rfl rfl ?_
  refine r_get (T := TX6) (f := 4) (q0 := 6) (ci := 7) (v := .int (nI nC)) inwX6 rfl (by decide) w1_166 rfl (by rw [← hC]; rfl) dX6_text_42 ?_
  refine r_callS (J := iJ_cpI) (As := [.ref (q 229), .int (nI nC)]) w4_120 w4_121 w1_14 w4_122 (nA := 2) (by decide +kernel) rfl (by decide) (Nat.le_of_ble_eq_true rfl) dX6_text_45 ⟨by omega, by omega⟩ rfl ((cj_cpI (d := d + 3) (b := q 229) (n0 := 10) (N := nC) (f := S.2.1 129) hB (by omega) (by omega)).one 70 rfl) ?_
  intro v w' h
  obtain ⟨w1, rfl, c4, g4, rfl, hg4, rfl⟩ := h
  refine r_perm (pm_back (w := wX E q S ++ [(t, .inr (8, [.null, .null, .null, .null, .null])), (c1, .inl (E.2.2.1 0, nC, .inl g1)), (c2, .inl (E.2.2.1 0, nC, .inl g2)), (c3, .inl (E.2.2.1 0, nC, .inl g3))]) (q0 := 70) (x := (q 229, .inl (E.2.2.1 0, 10, .inl (S.2.1 129)))) rfl [(c4, .inl (E.2.2.1 0, nC, .inl g4))]) ?_
  refine r_eqw (w2 := wX E q S ++ [(t, .inr (8, [.null, .null, .null, .null, .null])), (c1, .inl (E.2.2.1 0, nC, .inl g1)), (c2, .inl (E.2.2.1 0, nC, .inl g2)), (c3, .inl (E.2.2.1 0, nC, .inl g3)), (c4, .inl (E.2.2.1 0, nC, .inl g4))]) (List.append_assoc _ _ _) ?_
  refine r_aload_n 0 dX6_text_48 rfl rfl ?_
  refine r_get (T := TX6) (f := 10) (q0 := 6) (ci := 7) inwX6 rfl (by decide) w1_172 rfl rfl dX6_text_49 ?_
  refine r_aload_n 0 dX6_text_52 rfl rfl ?_
  refine r_get (T := TX6) (f := 5) (q0 := 6) (ci := 7) (v := .int (nI nS)) inwX6 rfl (by decide) w1_167 rfl (by rw [← hS]; rfl) dX6_text_53 ?_
  refine r_callS (J := iJ_cpI) (As := [.ref (q 230), .int (nI nS)]) w4_120 w4_121 w1_14 w4_122 (nA := 2) (by decide +kernel) rfl (by decide) (Nat.le_of_ble_eq_true rfl) dX6_text_56 ⟨by omega, by omega⟩ rfl ((cj_cpI (d := d + 3) (b := q 230) (n0 := 160) (N := nS) (f := S.2.1 130) hB (by omega) (by omega)).one 71 rfl) ?_
  intro v w' h
  obtain ⟨w1, rfl, c5, g5, rfl, hg5, rfl⟩ := h
  refine r_perm (pm_back (w := wX E q S ++ [(t, .inr (8, [.null, .null, .null, .null, .null])), (c1, .inl (E.2.2.1 0, nC, .inl g1)), (c2, .inl (E.2.2.1 0, nC, .inl g2)), (c3, .inl (E.2.2.1 0, nC, .inl g3)), (c4, .inl (E.2.2.1 0, nC, .inl g4))]) (q0 := 71) (x := (q 230, .inl (E.2.2.1 0, 160, .inl (S.2.1 130)))) rfl [(c5, .inl (E.2.2.1 0, nS, .inl g5))]) ?_
  refine r_eqw (w2 := wX E q S ++ [(t, .inr (8, [.null, .null, .null, .null, .null])), (c1, .inl (E.2.2.1 0, nC, .inl g1)), (c2, .inl (E.2.2.1 0, nC, .inl g2)), (c3, .inl (E.2.2.1 0, nC, .inl g3)), (c4, .inl (E.2.2.1 0, nC, .inl g4)), (c5, .inl (E.2.2.1 0, nS, .inl g5))]) (List.append_assoc _ _ _) ?_
  refine r_callI (J := iI_X7) (As := [.ref c1, .ref c2, .ref c3, .ref c4, .ref c5]) w4_134 w4_135 w1_19 w4_136 rfl rfl (nA := 5) (by decide +kernel) rfl (by decide) (Nat.le_of_ble_eq_true rfl) dX6_text_59 ⟨by omega, by omega⟩ rfl (((ci_X7 (d := d + 1)).frame (wX E q S ++ [(c1, .inl (E.2.2.1 0, nC, .inl g1)), (c2, .inl (E.2.2.1 0, nC, .inl g2)), (c3, .inl (E.2.2.1 0, nC, .inl g3)), (c4, .inl (E.2.2.1 0, nC, .inl g4)), (c5, .inl (E.2.2.1 0, nS, .inl g5))])).perm pm_mid) ?_
  intro v w' h
  obtain ⟨w1, rfl, rfl, rfl⟩ := h
  refine r_perm (w2 := wX E q S ++ [(t, .inr (8, [.ref c1, .ref c2, .ref c3, .ref c4, .ref c5])), (c1, .inl (E.2.2.1 0, nC, .inl g1)), (c2, .inl (E.2.2.1 0, nC, .inl g2)), (c3, .inl (E.2.2.1 0, nC, .inl g3)), (c4, .inl (E.2.2.1 0, nC, .inl g4)), (c5, .inl (E.2.2.1 0, nS, .inl g5))]) pm_mid.symm ?_
  exact r_aret dX6_text_62 rfl (Or.inl ⟨_, rfl⟩) (by omega) (by omega) ⟨t, c1, c2, c3, c4, c5, g1, g2, g3, g4, g5, rfl, fun k hk => ⟨hg1 k hk, hg2 k hk, hg3 k hk, hg4 k hk⟩, hg5, rfl⟩
