/-! Math.min, max, newLength, Arrays.copyOf, ArrayList.grow and add, over any world -/
abbrev iJ_min : MI := (yJ9_min_7cf53, cJ9_min_7cf53, 2, (some .int))
abbrev iJ_max : MI := (yJ9_max_7cf53, cJ9_max_7cf53, 2, (some .int))
abbrev iJ_nl : MI := (yJ8_newLength_cabcc, cJ8_newLength_cabcc, 4, (some .int))
abbrev iJ_cpI : MI := (yJ7_copyOf_59c91, cJ7_copyOf_59c91, 3, (some (.array .int)))
abbrev iJ_cp2 : MI := (yJ7_copyOf_1904c, cJ7_copyOf_1904c, 2, (some (.array (.object "java/lang/Object"))))
abbrev iJ_cp3 : MI := (yJ7_copyOf_6403c, cJ7_copyOf_6403c, 4, (some (.array (.object "java/lang/Object"))))
abbrev iJ_gr1 : MI := (yJx4a65c_grow_92f84, cJx4a65c_grow_92f84, 4, (some (.array (.object "java/lang/Object"))))
abbrev iJ_gr0 : MI := (yJx4a65c_grow_d5877, cJx4a65c_grow_d5877, 1, (some (.array (.object "java/lang/Object"))))
abbrev iJ_ad3 : MI := (yJx4a65c_add_72be8, cJx4a65c_add_72be8, 4, none)
abbrev iJ_ad1 : MI := (yJx4a65c_add_9ea2d, cJx4a65c_add_9ea2d, 2, (some .boolean))
abbrev LE0 : (0 : Nat) ≤ 0 := Nat.le_refl 0
theorem r_min {E : EvT} {I : MI} {d mc ms : Nat} {Q : Option Value → va_W → Prop} {w : va_W} {k n : Nat} {ls : List (Nat × Value)} {st : List Value} {pc ix : Nat} {x y : Int32} (hl0 : Cond.methodLink I.1.cls ix yJ9_min_7cf53 ∈ WS) (hW : (st.map fun v => v.category).sum ≤ 8) (hk : k ≤ mc) (hn : n ≤ ms) (hd : decode I.2.1 pc = .ok (.invokestatic ix, 3)) (kk : RR E I (d + 1) mc ms Q w k n ls (.int (jMin x y) :: st) (pc + 3)) : RR E I (d + 1) mc ms Q w k n ls (.int y :: .int x :: st) pc :=
  fun p e s m args below meth c A H locs la C hP hD hS hl => va_mmin C.1.1 C.1.2.1 (C.1.2.2.1.trans hl.1.symm) C.1.2.2.2.1 (C.1.2.2.2.2 _ hl0) (C.1.2.2.2.2 _ w4_43) (C.1.2.2.2.2 _ w1_18) (C.1.2.2.2.2 _ w4_44) (by show 1 ≤ d + 1; omega) (by show _ ≤ 64 * (d + 1); omega) hk hn hd (kk p e s m args below meth c A H locs la C hP hD hS hl)
theorem r_max {E : EvT} {I : MI} {d mc ms : Nat} {Q : Option Value → va_W → Prop} {w : va_W} {k n : Nat} {ls : List (Nat × Value)} {st : List Value} {pc ix : Nat} {x y : Int32} (hl0 : Cond.methodLink I.1.cls ix yJ9_max_7cf53 ∈ WS) (hW : (st.map fun v => v.category).sum ≤ 8) (hk : k ≤ mc) (hn : n ≤ ms) (hd : decode I.2.1 pc = .ok (.invokestatic ix, 3)) (kk : RR E I (d + 1) mc ms Q w k n ls (.int (jMax x y) :: st) (pc + 3)) : RR E I (d + 1) mc ms Q w k n ls (.int y :: .int x :: st) pc :=
  fun p e s m args below meth c A H locs la C hP hD hS hl => va_mmax C.1.1 C.1.2.1 (C.1.2.2.1.trans hl.1.symm) C.1.2.2.2.1 (C.1.2.2.2.2 _ hl0) (C.1.2.2.2.2 _ w4_178) (C.1.2.2.2.2 _ w1_18) (C.1.2.2.2.2 _ w4_179) (by show 1 ≤ d + 1; omega) (by show _ ≤ 64 * (d + 1); omega) hk hn hd (kk p e s m args below meth c A H locs la C hP hD hS hl)
def gN (n : Nat) : Nat := n + (if n / 2 = 0 then 1 else n / 2)
theorem gN_facts : ∀ n, n < 32 → nI n + jMax 1 (nI (n / 2)) = nI (gN n) ∧ ¬ (0 : Int32) ≥ nI (gN n) ∧ ¬ nI (gN n) > 2147483639 ∧ nI n >>> ((1 : Int32) &&& 31) = nI (n / 2) ∧ nI n + 1 - nI n = 1 := by decide +kernel
theorem cj_nl {E : EvT} {d n : Nat} (hn : n < 32) {w : va_W} : Cn E iJ_nl (d + 1) 0 0 [.int (nI n), .int 1, .int (nI (n / 2))] w (fun v w' => v = some (.int (nI (gN n))) ∧ w' = w) := by
  obtain ⟨g1, g2, g3, -, -⟩ := gN_facts n hn
  refine Cn.of rfl (Nat.le_of_ble_eq_true rfl) (ls := [(0, .int (nI n)), (1, .int 1), (2, .int (nI (n / 2)))]) rfl ?_
  refine r_iload_n 0 dJ8_newLength_cabcc_0 rfl rfl ?_
  refine r_iload_n 1 dJ8_newLength_cabcc_1 rfl rfl ?_
  refine r_iload_n 2 dJ8_newLength_cabcc_2 rfl rfl ?_
  refine r_max w4_177 (Nat.le_of_ble_eq_true rfl) (Nat.le_refl _) (Nat.le_refl _) dJ8_newLength_cabcc_3 ?_
  refine r_iadd dJ8_newLength_cabcc_6 ?_
  rw [g1]
  refine r_istore_n [(3, .int (nI (gN n))), (0, .int (nI n)), (1, .int 1), (2, .int (nI (n / 2)))] dJ8_newLength_cabcc_7 rfl (Nat.le_of_ble_eq_true rfl) rfl ?_
  refine r_iconst_0 dJ8_newLength_cabcc_8 ?_
  refine r_iload_n 0 dJ8_newLength_cabcc_9 rfl rfl ?_
  refine r_icmp_ge (tgt := 21) dJ8_newLength_cabcc_10 (by decide) (fun c => absurd c g2) (fun c => ?_)
  refine r_iload_n 0 dJ8_newLength_cabcc_13 rfl rfl ?_
  refine r_ldc w4_180 dJ8_newLength_cabcc_14 ?_
  refine r_icmp_gt (tgt := 21) dJ8_newLength_cabcc_16 (by decide) (fun c => absurd c g3) (fun c => ?_)
  refine r_iload_n 0 dJ8_newLength_cabcc_19 rfl rfl ?_
  exact r_iret dJ8_newLength_cabcc_20 rfl (Nat.le_refl _) (Nat.le_refl _) ⟨rfl, rfl⟩
theorem jMin_nI {n0 N : Nat} (h : N ≤ n0) (h0 : n0 < 100000) : jMin (nI n0) (nI N) = nI N := by
  unfold jMin
  by_cases c : nI N < nI n0
  · rw [if_pos c]
  · rw [if_neg c]
    rcases Nat.lt_or_ge N n0 with h1 | h1
    · exact absurd (nI_lt (b := n0) h1 (by omega)) c
    · rw [show n0 = N by omega]
theorem nI_nn {N : Nat} (h : N < 100000) : ¬ nI N < 0 := Int32.not_lt.mpr (nI_pos' (by omega))
theorem cj_cpI {E : EvT} {d b n0 N : Nat} {f : Nat → Int32} (hB : EOr E) (hN : N ≤ n0) (h0 : n0 < 100000) : Cn E iJ_cpI (d + 2) 1 N [.ref b, .int (nI N)] [(b, .inl (E.2.2.1 0, n0, .inl f))] (fun v w => ∃ (b2 : Nat) (g : Nat → Int32), v = some (.ref b2) ∧ (∀ k, k < N → g k = f k) ∧ w = [(b, .inl (E.2.2.1 0, n0, .inl f)), (b2, .inl (E.2.2.1 0, N, .inl g))]) := by
  refine Cn.of rfl (Nat.le_of_ble_eq_true rfl) (ls := [(0, .ref b), (1, .int (nI N))]) rfl ?_
  refine r_iload_n 1 dJ7_copyOf_59c91_0 rfl rfl ?_
  refine r_aload_n 0 dJ7_copyOf_59c91_1 rfl rfl ?_
  refine r_alen (q0 := 0) 0 rfl rfl (v := nI n0) rfl dJ7_copyOf_59c91_2 ?_
  refine r_icmp_ne (tgt := 14) dJ7_copyOf_59c91_3 (by decide) (fun c => ?_) (fun c => ?_)
  · refine r_iload_n 1 dJ7_copyOf_59c91_14 rfl rfl ?_
    refine r_newI (N := N) (nI_nn (by omega)) (nI_clamp (by omega)) (by omega) (by omega) (by omega) dJ7_copyOf_59c91_15 (fun b2 => ?_)
    refine r_astore_n [(2, .ref b2), (0, .ref b), (1, .int (nI N))] dJ7_copyOf_59c91_17 rfl (Nat.le_of_ble_eq_true rfl) rfl ?_
    refine r_aload_n 1 dJ7_copyOf_59c91_18 rfl rfl ?_
    refine r_iconst_0 dJ7_copyOf_59c91_19 ?_
    refine r_aload_n 0 dJ7_copyOf_59c91_20 rfl rfl ?_
    refine r_iconst_0 dJ7_copyOf_59c91_21 ?_
    refine r_aload_n 1 dJ7_copyOf_59c91_22 rfl rfl ?_
    refine r_alen (q0 := 0) 0 rfl rfl (v := nI n0) rfl dJ7_copyOf_59c91_23 ?_
    refine r_iload_n 2 dJ7_copyOf_59c91_24 rfl rfl ?_
    refine r_min w4_130 (Nat.le_of_ble_eq_true rfl) (by omega) (by omega) dJ7_copyOf_59c91_25 ?_
    rw [jMin_nI hN h0]
    refine r_copyI (q0 := 0) (q1 := 1) (n0 := n0) (n1 := N) (f := f) rfl rfl rfl (nI_nn (by omega)) (by rw [nI_clamp (by omega)]; exact hN) (by rw [nI_clamp (by omega)]; exact Nat.le_refl _) (Nat.le_of_ble_eq_true rfl) dJ7_copyOf_59c91_28 ?_
    refine r_aload_n 0 dJ7_copyOf_59c91_31 rfl rfl ?_
    refine r_aret dJ7_copyOf_59c91_32 rfl (Or.inr ⟨_, rfl⟩) (by omega) (by omega) ⟨b2, _, rfl, ?_, rfl⟩
    intro k hk
    rw [nI_clamp (by omega)]
    simp only [va_cpy]
    rw [if_pos ⟨Nat.zero_le _, by omega⟩]
    congr 1
    omega
  · have c2 : N = n0 := by
      have h1 : nI N = nI n0 := c
      have h2 := congrArg Int32.toNatClampNeg h1
      rw [nI_clamp (by omega), nI_clamp (by omega)] at h2
      exact h2
    subst c2
    refine r_aload_n 0 dJ7_copyOf_59c91_6 rfl rfl ?_
    refine r_cloneI hB (q0 := 0) rfl rfl (Nat.le_of_ble_eq_true rfl) (by omega) (by omega) dJ7_copyOf_59c91_7 (fun b2 => ?_)
    refine r_castI (q0 := 1) rfl rfl dJ7_copyOf_59c91_10 ?_
    exact r_aret dJ7_copyOf_59c91_13 rfl (Or.inr ⟨_, rfl⟩) (by omega) (by omega) ⟨b2, f, rfl, fun _ _ => rfl, rfl⟩
/-- the elements of a row of texts are texts of the world -/
def isTx (f : Nat → Option Nat) (n : Nat) (w : va_W) : Prop := ∀ i, i < n → ∀ y, f i = some y → ∃ (j : Nat) (vs : List Value), w[j]? = some (y, .inr (8, vs))
theorem isTx.app {f : Nat → Option Nat} {n : Nat} {w w2 : va_W} (h : isTx f n w) : isTx f n (w ++ w2) := fun i hi y hy => by
  obtain ⟨j, vs, hj⟩ := h i hi y hy
  exact ⟨j, vs, by rw [List.getElem?_append_left (List.getElem?_eq_some_iff.mp hj).1]; exact hj⟩
theorem cj_cp3 {E : EvT} {d b n0 N z mi : Nat} {f : Nat → Option Nat} {w : va_W} (hE : EOq E z mi) (hB : EOr E) (hN : n0 ≤ N) (h0 : N < 100000) (hT : isTx f n0 ((b, .inl (E.2.2.1 4, n0, .inr (.inr (.inr (.inr f))))) :: w)) : Cn E iJ_cp3 (d + 2) 1 N [.ref b, .int (nI N), .ref mi] ((b, .inl (E.2.2.1 4, n0, .inr (.inr (.inr (.inr f))))) :: w) (fun v w' => ∃ b2 : Nat, v = some (.ref b2) ∧ w' = ((b, .inl (E.2.2.1 4, n0, .inr (.inr (.inr (.inr f))))) :: w) ++ [(b2, .inl (E.2.2.1 4, N, .inr (.inr (.inr (.inr (va_cpy f (fun _ => none) 0 0 n0))))))]) := by
  refine Cn.of rfl (Nat.le_of_ble_eq_true rfl) (ls := [(0, .ref b), (1, .int (nI N)), (2, .ref mi)]) rfl ?_
  refine r_aload_n 2 dJ7_copyOf_6403c_0 rfl rfl ?_
  refine r_ldcM hE rfl dJ7_copyOf_6403c_1 ?_
  refine r_acmp_ne0 (tgt := 13) dJ7_copyOf_6403c_3 (by decide) ?_
  refine r_iload_n 1 dJ7_copyOf_6403c_6 rfl rfl ?_
  refine r_newQ (N := N) (fun A s h => (hE A s h).2.2.1) w4_210 (nI_nn (by omega)) (nI_clamp (by omega)) (by omega) (by omega) (by omega) dJ7_copyOf_6403c_7 (fun b2 => ?_)
  refine r_goto (tgt := 24) dJ7_copyOf_6403c_10 (by decide) ?_
  refine r_astore_n [(3, .ref b2), (0, .ref b), (1, .int (nI N)), (2, .ref mi)] dJ7_copyOf_6403c_24 rfl (Nat.le_of_ble_eq_true rfl) rfl ?_
  refine r_aload_n 1 dJ7_copyOf_6403c_25 rfl rfl ?_
  refine r_iconst_0 dJ7_copyOf_6403c_26 ?_
  refine r_aload_n 0 dJ7_copyOf_6403c_27 rfl rfl ?_
  refine r_iconst_0 dJ7_copyOf_6403c_28 ?_
  refine r_aload_n 1 dJ7_copyOf_6403c_29 rfl rfl ?_
  refine r_alen (q0 := 0) 4 rfl rfl (v := nI n0) rfl dJ7_copyOf_6403c_30 ?_
  refine r_iload_n 2 dJ7_copyOf_6403c_31 rfl rfl ?_
  refine r_min w4_130 (Nat.le_of_ble_eq_true rfl) (by omega) (by omega) dJ7_copyOf_6403c_32 ?_
  have hm : jMin (nI n0) (nI N) = nI n0 := by
    unfold jMin
    rw [if_neg]
    intro c
    have c1 := Int32.lt_iff_toInt_lt.mp c
    rw [nI_toInt (by omega), nI_toInt (by omega)] at c1
    omega
  rw [hm]
  have hq1 : (((b, .inl (E.2.2.1 4, n0, .inr (.inr (.inr (.inr f))))) :: w) ++ [(b2, .inl (E.2.2.1 4, N, .inr (.inr (.inr (.inr (fun _ => none))))))] : va_W)[w.length + 1]? = some (b2, .inl (E.2.2.1 4, N, .inr (.inr (.inr (.inr (fun _ => none)))))) := by
    rw [List.getElem?_append_right (by simp)]
    simp
  refine r_copyQ hB (q0 := 0) (q1 := w.length + 1) (n0 := n0) (n1 := N) (f := f) rfl hq1 rfl (nI_nn (by omega)) (by rw [nI_clamp (by omega)]; exact Nat.le_refl _) (by rw [nI_clamp (by omega)]; exact hN) (fun i hi => hT.app i (by rw [nI_clamp (by omega)] at hi; exact hi)) (Nat.le_of_ble_eq_true rfl) dJ7_copyOf_6403c_35 ?_
  refine r_aload_n 0 dJ7_copyOf_6403c_38 rfl rfl ?_
  refine r_aret dJ7_copyOf_6403c_39 rfl (Or.inr ⟨_, rfl⟩) (by omega) (by omega) ⟨b2, rfl, ?_⟩
  rw [nI_clamp (by omega), List.set_append_right _ _ (by simp)]
  simp
theorem cj_cp2 {E : EvT} {d b n0 N z mi : Nat} {f : Nat → Option Nat} {w : va_W} (hE : EOq E z mi) (hB : EOr E) (hN : n0 ≤ N) (h0 : N < 100000) (hT : isTx f n0 ((b, .inl (E.2.2.1 4, n0, .inr (.inr (.inr (.inr f))))) :: w)) : Cn E iJ_cp2 (d + 3) 1 N [.ref b, .int (nI N)] ((b, .inl (E.2.2.1 4, n0, .inr (.inr (.inr (.inr f))))) :: w) (fun v w' => ∃ b2 : Nat, v = some (.ref b2) ∧ w' = ((b, .inl (E.2.2.1 4, n0, .inr (.inr (.inr (.inr f))))) :: w) ++ [(b2, .inl (E.2.2.1 4, N, .inr (.inr (.inr (.inr (va_cpy f (fun _ => none) 0 0 n0))))))]) := by
  refine Cn.of rfl (Nat.le_of_ble_eq_true rfl) (ls := [(0, .ref b), (1, .int (nI N))]) rfl ?_
  refine r_aload_n 0 dJ7_copyOf_1904c_0 rfl rfl ?_
  refine r_iload_n 1 dJ7_copyOf_1904c_1 rfl rfl ?_
  refine r_aload_n 0 dJ7_copyOf_1904c_2 rfl rfl ?_
  refine r_getC (q0 := 0) hE rfl rfl (Nat.le_of_ble_eq_true rfl) dJ7_copyOf_1904c_3 ?_
  refine r_callS (J := iJ_cp3) (As := [.ref b, .int (nI N), .ref mi]) w4_205 w4_206 w1_14 w4_207 (nA := 3) (by decide +kernel) rfl (by decide) (Nat.le_of_ble_eq_true rfl) dJ7_copyOf_1904c_6 ⟨by omega, by omega⟩ rfl (cj_cp3 hE hB hN h0 hT) ?_
  intro v w' h
  obtain ⟨b2, rfl, rfl⟩ := h
  exact r_aret dJ7_copyOf_1904c_9 rfl (Or.inr ⟨_, rfl⟩) (by omega) (by omega) ⟨b2, rfl, rfl⟩
