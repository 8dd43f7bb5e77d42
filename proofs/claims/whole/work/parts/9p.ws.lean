/-! the start of the law -/
def XtC (u z mi : Nat) : XtT := fun A s => (va_Z RX3 "UNITS" "[J" (.ref u) A s s.heap ∧ va_T .long u 8 (fun j => .long (unitF j)) A s s.heap ∧ va_Nw (.methodLinkNest RX6 126 yX11_within RX11) s) ∧ XA z mi A s ∧ XB s
theorem nwM {a : String} {i : Nat} {x : MethodName} {h : String} {s U : State} (hw : s.WarmedH U.vm ∨ s.vm = U.vm) (hZ : va_Nw (.methodLinkNest a i x h) s) : va_Nw (.methodLinkNest a i x h) U := by
  rcases hw with hw | hw
  · exact va_Nw.warmM hw hZ
  · exact va_Nw.same rfl hw hZ
theorem nwC {a h : String} {s U : State} (hw : s.WarmedH U.vm ∨ s.vm = U.vm) (hZ : va_Nw (.castable a h) s) : va_Nw (.castable a h) U := by
  rcases hw with hw | hw
  · exact va_Nw.warmC hw hZ
  · exact va_Nw.same rfl hw hZ
theorem XtC_ok {u z mi : Nat} : XtOk (XtC u z mi) := by
  intro A B s U h hz hk hw hAB
  have hal : s.vm.Alike U.vm := by
    rcases hw with hw | hw
    · exact hw.alike
    · rw [← hw]; exact Vm.Alike.refl _
  obtain ⟨⟨a1, a2, a3⟩, ⟨b1, b2, b3, b4, b5, b6, b7, b8, b9, b10⟩, c1, c2⟩ := h
  exact ⟨⟨((a1.kept hk).moved hal).narrow hAB, ((a2.kept hk).moved hal).narrow hAB, nwM hw a3⟩, ⟨((b1.kept hk).moved hal).narrow hAB, ((b2.kept hk).moved hal).narrow hAB, b3.moved hal, b4.moved hal, b5.moved hal, nwM hw b6, nwM hw b7, nwM hw b8, nwM hw b9, nwM hw b10⟩, nwC hw c1, nwC hw c2⟩
theorem arr_start {s : State} {args : Array Value} {ty : FieldType} (h : (Cond.arrayClass ty).before args s = true) (hn : ∀ C, ty ≠ .object C) : ∃ cA : ClassId, ArrOfT s cA ty ∧ va_RA s cA ty := by
  obtain ⟨c, k, comp, h1, h2, h3⟩ := Cond.arrayClass_spec h
  refine ⟨c, fun n z => ⟨fun k h => (by cases h), k, h2, comp, h3⟩, ?_⟩
  cases ty with
  | object C => exact absurd rfl (hn C)
  | _ => exact h1
theorem arr_startQ {s : State} {args : Array Value} {C : String} (h : (Cond.arrayOver (.object C)).before args s = true) : ∃ cA : ClassId, ArrOfT s cA (.object C) ∧ va_RA s cA (.object C) := by
  obtain ⟨comp, c, k, h1, h2, h3, h4, h5⟩ := Cond.arrayOver_spec h
  exact ⟨c, fun n z => ⟨fun k h => (by cases h), k, h3, comp, h4⟩, k, comp, h3, h4, h1, h5⟩
set_option maxHeartbeats 4000000 in
set_option maxRecDepth 100000 in
theorem Xt_start {p : Program} {s : State} {m : MethodId} {meth : Method} {c : Code} {b L : Nat} {xs : Nat → Int32} (C0 : lw_At p s m meth c b L xs) : ∃ u z mi : Nat, XtC u z mi (aL s) s := by
  obtain ⟨hx, hb, hr, hml, hown, hts, hX, hbl, hlocks, hgv⟩ := id C0
  have hA : ∀ a : Nat, a < s.heap.size → ¬ aL s a := fun a h => Nat.not_le.mpr h
  have hs := flat_of_before _ hgv
  obtain ⟨u, hu, hTu⟩ := va_Tof (tm := .static "AshCity$Museums" "UNITS" "[J") (N := 8) (f := fun j => .long (unitF j)) (A := aL s) (by decide) (hs (.arrayOf (.static "AshCity$Museums" "UNITS" "[J") .long) (by decide +kernel)) (va_eqt (hs (.eq (.length (.static "AshCity$Museums" "UNITS" "[J")) (.int 8)) (by decide +kernel))) (fun j hj => by
    rcases (show j = 0 ∨ j = 1 ∨ j = 2 ∨ j = 3 ∨ j = 4 ∨ j = 5 ∨ j = 6 ∨ j = 7 by omega) with rfl | rfl | rfl | rfl | rfl | rfl | rfl | rfl
    · exact va_eqtl (hs (.eq (.elem (.static "AshCity$Museums" "UNITS" "[J") (.int 0)) (.long 3142742836021)) (by decide +kernel))
    · exact va_eqtl (hs (.eq (.elem (.static "AshCity$Museums" "UNITS" "[J") (.int 1)) (.long 51520374361)) (by decide +kernel))
    · exact va_eqtl (hs (.eq (.elem (.static "AshCity$Museums" "UNITS" "[J") (.int 2)) (.long 844596301)) (by decide +kernel))
    · exact va_eqtl (hs (.eq (.elem (.static "AshCity$Museums" "UNITS" "[J") (.int 3)) (.long 13845841)) (by decide +kernel))
    · exact va_eqtl (hs (.eq (.elem (.static "AshCity$Museums" "UNITS" "[J") (.int 4)) (.long 226981)) (by decide +kernel))
    · exact va_eqtl (hs (.eq (.elem (.static "AshCity$Museums" "UNITS" "[J") (.int 5)) (.long 3721)) (by decide +kernel))
    · exact va_eqtl (hs (.eq (.elem (.static "AshCity$Museums" "UNITS" "[J") (.int 6)) (.long 61)) (by decide +kernel))
    · exact va_eqtl (hs (.eq (.elem (.static "AshCity$Museums" "UNITS" "[J") (.int 7)) (.long 1)) (by decide +kernel))) hA
  obtain ⟨z, hz, hTz⟩ := va_Tof (tm := .static "java/util/ArrayList" "DEFAULTCAPACITY_EMPTY_ELEMENTDATA" "[Ljava/lang/Object;") (N := 0) (f := fun _ => .null) (A := aL s) (by decide) (hs (.arrayOf (.static "java/util/ArrayList" "DEFAULTCAPACITY_EMPTY_ELEMENTDATA" "[Ljava/lang/Object;") (.object "java/lang/Object")) (by decide +kernel)) (va_eqt (hs (.eq (.length (.static "java/util/ArrayList" "DEFAULTCAPACITY_EMPTY_ELEMENTDATA" "[Ljava/lang/Object;")) (.int 0)) (by decide +kernel))) (fun j hj => absurd hj (Nat.not_lt_zero _)) hA
  obtain ⟨mi, hmi⟩ := va_Mi.of (hs (.isRef (.mirror "[Ljava/lang/Object;")) (by decide +kernel))
  refine ⟨u, z, mi, ⟨va_Zof (hts (.laysStatic RX3 "UNITS" "[J") (by decide +kernel)) (hts (.initialized RX3) (by decide +kernel)) hu hA, hTu, va_Nw.of rfl (hts (.methodLinkNest RX6 126 yX11_within RX11) (by decide +kernel))⟩, ⟨va_Zof (hts (.laysStatic RJx4a65c "DEFAULTCAPACITY_EMPTY_ELEMENTDATA" "[Ljava/lang/Object;") (by decide +kernel)) (hts (.initialized RJx4a65c) (by decide +kernel)) hz hA, hTz, va_AO.of (hts (.arrayOver (.object "java/lang/Object")) (by decide +kernel)), va_Dc.of (hts (.declares ⟨"java/lang/Object", "getClass", "()Ljava/lang/Class;"⟩) (by decide +kernel)), hmi, va_Nw.of rfl (hts (.methodLinkNest RX11 9 yX9_init RX11) (by decide +kernel)), va_Nw.of rfl (hts (.methodLinkNest RX11 18 yX4_init RX11) (by decide +kernel)), va_Nw.of rfl (hts (.methodLinkNest RX11 34 yX6_init RX11) (by decide +kernel)), va_Nw.of rfl (hts (.methodLinkNest RX11 41 yX5_init RX11) (by decide +kernel)), va_Nw.of rfl (hts (.methodLinkNest RX11 66 yX10_init RX11) (by decide +kernel))⟩, va_Nw.of rfl (hts (.castable "[I" "java/lang/Cloneable") (by decide +kernel)), va_Nw.of rfl (hts (.castable RX7 "java/lang/Object") (by decide +kernel))⟩
set_option maxHeartbeats 4000000 in
set_option maxRecDepth 100000 in
theorem K_start {p : Program} {s : State} {m : MethodId} {meth : Method} {c : Code} {b L : Nat} {xs : Nat → Int32} (C0 : lw_At p s m meth c b L xs) : ∃ (D : va_G) (ty : Nat → ClassId), ∀ (l : Launch) (Xt : XtT), va_K D vwCl (tysE (l, D, ty, Xt)) s := by
  obtain ⟨hx, hb, hr, hml, hown, hts, hX, hbl, hlocks, hgv⟩ := id C0
  have hw : ∀ w ∈ WS, w.before #[Value.ref b] s = true := fun w h => hts w (ws_tbl w h)
  obtain ⟨c0, iS0, hKn0⟩ := u_known (C := RJx4a65c) (T := TJx4a65c) (N := 3) (n := 3) hw inwJx4a65c (hw _ w1_203)
  obtain ⟨c1, iS1, hKn1⟩ := u_known (C := RX0) (T := TX0) (N := 15) (n := 15) hw inwX0 (hw _ w2_191)
  obtain ⟨c2, iS2, hKn2⟩ := u_known (C := RX1) (T := TX1) (N := 14) (n := 14) hw inwX1 (hw _ w1_99)
  obtain ⟨c3, iS3, hKn3⟩ := u_known (C := RX2) (T := TX2) (N := 15) (n := 15) hw inwX2 (hw _ w2_8)
  obtain ⟨c4, iS4, hKn4⟩ := u_known (C := RX3) (T := TX3) (N := 15) (n := 15) hw inwX3 (hw _ w2_64)
  obtain ⟨c5, iS5, hKn5⟩ := u_known (C := RX4) (T := TX4) (N := 11) (n := 11) hw inwX4 (hw _ w1_49)
  obtain ⟨c6, iS6, hKn6⟩ := u_known (C := RX5) (T := TX5) (N := 6) (n := 6) hw inwX5 (hw _ w1_197)
  obtain ⟨c7, iS7, hKn7⟩ := u_known (C := RX6) (T := TX6) (N := 11) (n := 11) hw inwX6 (hw _ w1_157)
  obtain ⟨c8, iS8, hKn8⟩ := u_known (C := RX7) (T := TX7) (N := 5) (n := 5) hw inwX7 (hw _ w4_119)
  obtain ⟨c9, iS9, hKn9⟩ := u_known (C := RX8) (T := TX8) (N := 9) (n := 9) hw inwX8 (hw _ w3_13)
  obtain ⟨c10, iS10, hKn10⟩ := u_known (C := RX9) (T := TX9) (N := 2) (n := 2) hw inwX9 (hw _ w1_33)
  obtain ⟨c11, iS11, hKn11⟩ := u_known (C := RX10) (T := TX10) (N := 18) (n := 18) hw inwX10 (hw _ w2_123)
  obtain ⟨c12, iS12, hKn12⟩ := u_known (C := RX11) (T := TX11) (N := 11) (n := 11) hw inwX11 (hw _ w1_25)
  obtain ⟨c13, iS13, hKn13⟩ := u_known (C := RX12) (T := TX12) (N := 111) (n := 111) hw inwX12 (hw _ w6_173)
  obtain ⟨aI, haI⟩ := arr_start (hw _ w1_97) (fun _ h => by cases h)
  obtain ⟨aB, haB⟩ := arr_start (hw _ w1_47) (fun _ h => by cases h)
  obtain ⟨aZ, haZ⟩ := arr_start (hw _ w2_120) (fun _ h => by cases h)
  obtain ⟨aJ, haJ⟩ := arr_start (hw _ w2_121) (fun _ h => by cases h)
  obtain ⟨aQ, haQ⟩ := arr_startQ (hts (.arrayOver (.object "java/lang/Object")) (by decide +kernel))
  refine ⟨(fun k => [c0, c1, c2, c3, c4, c5, c6, c7, c8, c9, c10, c11, c12, c13].getD k c0, fun k => [iS0, iS1, iS2, iS3, iS4, iS5, iS6, iS7, iS8, iS9, iS10, iS11, iS12, iS13].getD k iS0), fun k => [aI, aB, aZ, aJ, aQ].getD k aI, fun l Xt => ⟨fun k q hq => ?_, fun k q hq => ?_⟩⟩
  · have hk : k < 14 := (List.getElem?_eq_some_iff.mp hq).1
    rcases (show k = 0 ∨ k = 1 ∨ k = 2 ∨ k = 3 ∨ k = 4 ∨ k = 5 ∨ k = 6 ∨ k = 7 ∨ k = 8 ∨ k = 9 ∨ k = 10 ∨ k = 11 ∨ k = 12 ∨ k = 13 by omega) with rfl | rfl | rfl | rfl | rfl | rfl | rfl | rfl | rfl | rfl | rfl | rfl | rfl | rfl
    · cases hq; exact hKn0
    · cases hq; exact hKn1
    · cases hq; exact hKn2
    · cases hq; exact hKn3
    · cases hq; exact hKn4
    · cases hq; exact hKn5
    · cases hq; exact hKn6
    · cases hq; exact hKn7
    · cases hq; exact hKn8
    · cases hq; exact hKn9
    · cases hq; exact hKn10
    · cases hq; exact hKn11
    · cases hq; exact hKn12
    · cases hq; exact hKn13
  · have hk : k < 5 := (List.getElem?_eq_some_iff.mp hq).1
    rcases (show k = 0 ∨ k = 1 ∨ k = 2 ∨ k = 3 ∨ k = 4 by omega) with rfl | rfl | rfl | rfl | rfl
    · cases hq; exact haI
    · cases hq; exact haB
    · cases hq; exact haZ
    · cases hq; exact haJ
    · cases hq; exact haQ
set_option maxHeartbeats 4000000 in
set_option maxRecDepth 100000 in
theorem whole_start {p : Program} {e : Env} {s : State} {m : MethodId} {below : List Frame} {meth : Method} {c : Code} (l : Launch) {b L : Nat} {xs : Nat → Int32} (hL : L ≤ 4608) (C0 : lw_At p s m meth c b L xs) : W p l e room_1 s m #[Value.ref b] below meth c s.heap [] 0 0 (lw_Z below #[Value.ref b] s) (entryFrame m ([Value.ref b] : List Value).toArray 4) := by
  obtain ⟨u, z, mi, hXt⟩ := Xt_start C0
  obtain ⟨D, ty, hK⟩ := K_start C0
  obtain ⟨hx, hb, hr, hml, hown, hts, hX, hbl, hlocks, hgv⟩ := id C0
  have C : CL (l, D, ty, XtC u z mi) p s m meth c b L xs := ⟨⟨hx, hb, hml, hown, fun w hw => hts w (ws_tbl w hw)⟩, hr, hlocks, hK l _, hXt, XtC_ok, hX, hbl, hL⟩
  have hl := lv_entry ([.ref b]) (n := 4) (Nat.le_of_ble_eq_true rfl)
  rw [lg_entry_eq]
  have hP : va_P D vwCl [] s.heap := fun k q h => by simp at h
  have hD : va_D (aL s) [] := ⟨fun i j p q h => by simp at h, fun k q h => by simp at h⟩
  have main : RW p e s m below meth c (l, D, ty, XtC u z mi) b [] 0 0 [(0, .ref b)] [] 0 := by
    have hE0 : EOq (l, D, ty, XtC u z mi) z mi := fun A s h => h.2.1
    refine w_new C (T := TX11) (ci := 12) [.null, .null, .null, .null, .null, .null, .null, .null, .null, .null, .int 0] tyX11 tyX11_ok inwX11 rfl w1_24 w1_25 w1_1 df_X11 (Nat.le_of_ble_eq_true rfl) (Nat.le_of_ble_eq_true rfl) dL_law_0 (fun a => ?_)
    refine w_dup C dL_law_3 rfl ?_
    refine w_callI C (I9 := iI_X11) w1_26 w1_27 w1_1 w1_28 rfl rfl (by decide +kernel) (by decide) (Nat.le_of_ble_eq_true rfl) dL_law_4 ⟨(Nat.le_of_ble_eq_true rfl), (Nat.le_of_ble_eq_true rfl)⟩ (ci_X11 (d := 995) u hE0) ?_
    intro v w' h
    obtain ⟨rfl, q, rfl, qa, qz, qu⟩ := h
    refine w_astore C [(1, .ref a), (0, .ref b)] dL_law_7 rfl (by decide) rfl ?_
    refine w_new C (T := TX12) (ci := 13) [.int 0, .int 0, .int 0, .int 0, .int 0, .null, .null, .null, .null, .null, .null, .null, .null, .null, .null, .null, .null, .null, .null, .null, .int 0, .int 0, .null, .null, .null, .null, .null, .null, .int 0, .int 0, .int 0, .int 0, .int 0, .int 0, .int 0, .int 0, .int 0, .null, .null, .null, .null, .null, .null, .null, .int 0, .null, .null, .null, .null, .null, .null, .null, .null, .null, .null, .null, .null, .int 0, .int 0, .null, .null, .null, .null, .null, .null, .null, .null, .null, .int 0, .int 0, .null, .null, .null, .null, .null, .null, .null, .null, .null, .int 0, .int 0, .null, .null, .null, .null, .null, .null, .null, .null, .int 0, .int 0, .null, .null, .null, .null, .null, .null, .null, .null, .null, .int 0, .int 0, .null, .null, .null, .null, .null, .null, .null, .null, .null] tyX12 tyX12_ok inwX12 rfl w6_172 w6_173 w1_16 df_X12 (Nat.le_of_ble_eq_true rfl) (Nat.le_of_ble_eq_true rfl) dL_law_8 (fun a2 => ?_)
    refine w_dup C dL_law_11 rfl ?_
    refine w_callI C (I9 := iI_X12) w6_174 w6_175 w1_16 w6_176 rfl rfl (by decide +kernel) (by decide) (Nat.le_of_ble_eq_true rfl) dL_law_12 ⟨(Nat.le_of_ble_eq_true rfl), (Nat.le_of_ble_eq_true rfl)⟩ ((ci_X12 (d := 995)).frame (wX (l, D, ty, XtC u z mi) q S0X)) ?_
    intro v w' h
    obtain ⟨w1, rfl, rfl, q2, rfl, qb⟩ := h
    refine w_astore C [(2, .ref a2), (1, .ref a), (0, .ref b)] dL_law_15 rfl (by decide) rfl ?_
    refine w_iconst C (v := 0) dL_law_16 (by decide) ?_
    refine w_istore C [(3, .int 0), (2, .ref a2), (1, .ref a), (0, .ref b)] dL_law_17 rfl (by decide) rfl ?_
    refine w_perm List.perm_append_comm ?_
    refine w_ls [3, 2, 1, 0] (ls2 := [(0, .ref b), (1, .ref a), (2, .ref a2), (3, .int (nI 0))]) rfl ?_
    subst qb
    exact l_loop (mi := mi) C (L + 1) 0 _ _ q S0X (S1M 8) (by omega) (Nat.zero_le _) OK_start ⟨fun A s h => by rw [qu]; exact h.1, by rw [qz]; exact hE0, fun A s h => h.2.2⟩ qa (Nat.le_of_ble_eq_true rfl) (Nat.le_of_ble_eq_true rfl)
  exact main s.heap [] _ hP hD va_S.rf hl
