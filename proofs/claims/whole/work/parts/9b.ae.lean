/-! ArrayList.grow and add -/
theorem r_permd {E : EvT} {I : MI} {d mc ms : Nat} {Q : Option Value → va_W → Prop} {w w2 : va_W} {k n : Nat} {ls : List (Nat × Value)} {st : List Value} {pc : Nat} (rest : va_W) (h : w.Perm (w2 ++ rest)) (kk : RR E I d mc ms Q w2 k n ls st pc) : RR E I d mc ms Q w k n ls st pc := by
  intro p e s m args below meth c A H locs la C hP hD hS hl
  have h1 := vaP_perm h hP
  have h2 := vaD_perm h hD
  have hin : ∀ (k : Nat) (q : Nat × va_E), w2[k]? = some q → (w2 ++ rest)[k]? = some q := fun k q hk => by
    rw [List.getElem?_append_left (List.getElem?_eq_some_iff.mp hk).1]; exact hk
  exact kk p e s m args below meth c A H locs la C (fun k q hk => h1 k q (hin k q hk)) ⟨fun i j p q g1 g2 g3 => h2.1 i j p q (hin i p g1) (hin j q g2) g3, fun k q hk => h2.2 k q (hin k q hk)⟩ hS hl
section AE
variable {E : EvT} {I : MI} {d mc ms : Nat} {Q : Option Value → va_W → Prop} {w : va_W} {k n : Nat} {ls : List (Nat × Value)} {st : List Value} {pc : Nat}
theorem r_getM {q0 a : Nat} {v0 v1 v2 : Value} (hI : I.1.cls = RJx4a65c) (he : w[q0]? = some (a, .inr (0, [v0, v1, v2]))) (hd : decode I.2.1 pc = .ok (.getfield 63, 3)) (kk : RR E I d mc ms Q w k n ls (v0 :: st) (pc + 3)) : RR E I d mc ms Q w k n ls (.ref a :: st) pc :=
  fun p e s m args below meth c A H locs la C hP hD hS hl => va_get (D := E.2.1) (ref := RJx4a65c) (T := TJx4a65c) C.1.1 C.1.2.1 C.1.2.2.2.2 inwJx4a65c C.1.2.2.2.1 C.2.2.2.2.1 hP q0 he rfl 0 (by decide) (C.1.2.2.2.2 _ (by rw [hI]; exact w1_219)) (fun x h => u_same (C.1.2.2.2.2 _ w1_220) x h) rfl hd (kk p e s m args below meth c A H locs la C hP hD hS hl)
theorem r_putM {q0 a : Nat} {v0 v1 v2 : Value} {x : Int32} (hI : I.1.cls = RJx4a65c) (he : w[q0]? = some (a, .inr (0, [v0, v1, v2]))) {w2 : va_W} (hw2 : w.set q0 (a, .inr (0, [.int x, v1, v2])) = w2) (hd : decode I.2.1 pc = .ok (.putfield 63, 3)) (kk : RR E I d mc ms Q w2 k n ls st (pc + 3)) : RR E I d mc ms Q w k n ls (.int x :: .ref a :: st) pc :=
  fun p e s m args below meth c A H locs la C hP hD hS hl => va_put (D := E.2.1) (ref := RJx4a65c) (T := TJx4a65c) C.1.1 C.1.2.1 C.1.2.2.2.2 inwJx4a65c tyJx4a65c tyJx4a65c_ok nmJx4a65c C.1.2.2.2.1 C.2.2.2.2.1 hP hD hS q0 he rfl 0 (by decide) (C.1.2.2.2.2 _ (by rw [hI]; exact w1_219)) (fun x h => u_same (C.1.2.2.2.2 _ w1_220) x h) rfl (tyJx4a65c_ok 0 (by decide)) rfl rfl (Nat.le_of_ble_eq_true rfl) hd (fun H locs hP hD hS => by subst hw2; exact kk p e s m args below meth c A H locs la C hP hD hS hl)
theorem r_getD {q0 a : Nat} {v0 v1 v2 : Value} (hI : I.1.cls = RJx4a65c) (he : w[q0]? = some (a, .inr (0, [v0, v1, v2]))) (hd : decode I.2.1 pc = .ok (.getfield 9, 3)) (kk : RR E I d mc ms Q w k n ls (v1 :: st) (pc + 3)) : RR E I d mc ms Q w k n ls (.ref a :: st) pc := r_get (T := TJx4a65c) (f := 1) inwJx4a65c rfl (by decide) (by rw [hI]; exact w1_216) he rfl hd kk
theorem r_getN {q0 a : Nat} {v0 v1 v2 : Value} (hI : I.1.cls = RJx4a65c) (he : w[q0]? = some (a, .inr (0, [v0, v1, v2]))) (hd : decode I.2.1 pc = .ok (.getfield 48, 3)) (kk : RR E I d mc ms Q w k n ls (v2 :: st) (pc + 3)) : RR E I d mc ms Q w k n ls (.ref a :: st) pc := r_get (T := TJx4a65c) (f := 2) inwJx4a65c rfl (by decide) (by rw [hI]; exact w1_217) he rfl hd kk
theorem r_putD {q0 a b : Nat} {v0 v1 v2 : Value} (hI : I.1.cls = RJx4a65c) (he : w[q0]? = some (a, .inr (0, [v0, v1, v2]))) {w2 : va_W} (hw2 : w.set q0 (a, .inr (0, [v0, .ref b, v2])) = w2) (hd : decode I.2.1 pc = .ok (.putfield 9, 3)) (kk : RR E I d mc ms Q w2 k n ls st (pc + 3)) : RR E I d mc ms Q w k n ls (.ref b :: .ref a :: st) pc := r_put (T := TJx4a65c) (f := 1) tyJx4a65c tyJx4a65c_ok nmJx4a65c inwJx4a65c rfl (by decide) (by rw [hI]; exact w1_216) rfl he rfl rfl (Nat.le_of_ble_eq_true rfl) hw2 hd kk
theorem r_putN {q0 a : Nat} {v0 v1 v2 : Value} {x : Int32} (hI : I.1.cls = RJx4a65c) (he : w[q0]? = some (a, .inr (0, [v0, v1, v2]))) {w2 : va_W} (hw2 : w.set q0 (a, .inr (0, [v0, v1, .int x])) = w2) (hd : decode I.2.1 pc = .ok (.putfield 48, 3)) (kk : RR E I d mc ms Q w2 k n ls st (pc + 3)) : RR E I d mc ms Q w k n ls (.int x :: .ref a :: st) pc := r_put (T := TJx4a65c) (f := 2) tyJx4a65c tyJx4a65c_ok nmJx4a65c inwJx4a65c rfl (by decide) (by rw [hI]; exact w1_217) rfl he rfl rfl (Nat.le_of_ble_eq_true rfl) hw2 hd kk
end AE
abbrev obA (E : EvT) (b n : Nat) (f : Nat → Option Nat) : Nat × va_E := (b, .inl (E.2.2.1 4, n, .inr (.inr (.inr (.inr f)))))
theorem cj_gr1z {E : EvT} {d l z mi : Nat} {m : Int32} {w : va_W} (hE : EOq E z mi) : Cn E iJ_gr1 (d + 1) 1 10 [.ref l, .int 1] ((l, .inr (0, [.int m, .ref z, .int 0])) :: w) (fun v w' => ∃ b : Nat, v = some (.ref b) ∧ w' = (l, .inr (0, [.int m, .ref b, .int 0])) :: (w ++ [obA E b 10 (fun _ => none)])) := by
  refine Cn.of rfl (Nat.le_of_ble_eq_true rfl) (ls := [(0, .ref l), (1, .int 1)]) rfl ?_
  refine r_aload_n 0 dJx4a65c_grow_92f84_0 rfl rfl ?_
  refine r_getD (q0 := 0) rfl rfl dJx4a65c_grow_92f84_1 ?_
  refine r_lenZ hE dJx4a65c_grow_92f84_4 ?_
  refine r_istore_n [(2, .int 0), (0, .ref l), (1, .int 1)] dJx4a65c_grow_92f84_5 rfl (Nat.le_of_ble_eq_true rfl) rfl ?_
  refine r_iload_n 0 dJx4a65c_grow_92f84_6 rfl rfl ?_
  refine r_if_gt (tgt := 20) dJx4a65c_grow_92f84_7 (by decide) (fun c => absurd c (by decide)) (fun c => ?_)
  refine r_aload_n 1 dJx4a65c_grow_92f84_10 rfl rfl ?_
  refine r_getD (q0 := 0) rfl rfl dJx4a65c_grow_92f84_11 ?_
  refine r_getZ hE rfl dJx4a65c_grow_92f84_14 ?_
  refine r_acmp_eq1 (tgt := 45) dJx4a65c_grow_92f84_17 (by decide) ?_
  refine r_aload_n 1 dJx4a65c_grow_92f84_45 rfl rfl ?_
  refine r_bipush (v := 10) dJx4a65c_grow_92f84_46 (by decide) ?_
  refine r_iload_n 2 dJx4a65c_grow_92f84_48 rfl rfl ?_
  refine r_max w4_211 (Nat.le_of_ble_eq_true rfl) (Nat.le_of_ble_eq_true rfl) (Nat.le_of_ble_eq_true rfl) dJx4a65c_grow_92f84_49 ?_
  rw [show jMax 10 1 = 10 from by decide]
  refine r_newQ (N := 10) (fun A s h => (hE A s h).2.2.1) w4_212 (by decide) (by decide) (by decide) (by decide) (by decide) dJx4a65c_grow_92f84_52 (fun b => ?_)
  refine r_dupx1 dJx4a65c_grow_92f84_55 rfl rfl ?_
  refine r_putD (q0 := 0) rfl rfl rfl dJx4a65c_grow_92f84_56 ?_
  exact r_aret dJx4a65c_grow_92f84_59 rfl (Or.inr ⟨_, rfl⟩) (Nat.le_refl _) (Nat.le_refl _) ⟨b, rfl, rfl⟩
theorem isTx.cons {f : Nat → Option Nat} {n : Nat} {w : va_W} {x : Nat × va_E} (h : isTx f n w) : isTx f n (x :: w) := fun i hi y hy => by
  obtain ⟨j, vs, hj⟩ := h i hi y hy
  exact ⟨j + 1, vs, hj⟩
theorem gN_b {n : Nat} (hn : n < 32) : n ≤ gN n ∧ gN n < 64 ∧ n < gN n := by
  unfold gN
  split <;> omega
theorem cj_gr1n {E : EvT} {d l b n z mi : Nat} {m : Int32} {f : Nat → Option Nat} {w : va_W} (hE : EOq E z mi) (hB : EOr E) (h1 : 1 ≤ n) (hn : n < 32) (hT : isTx f n w) : Cn E iJ_gr1 (d + 4) 1 (gN n) [.ref l, .int (nI n + 1)] ((l, .inr (0, [.int m, .ref b, .int (nI n)])) :: obA E b n f :: w) (fun v w' => ∃ b2 : Nat, v = some (.ref b2) ∧ w' = (l, .inr (0, [.int m, .ref b2, .int (nI n)])) :: obA E b n f :: (w ++ [obA E b2 (gN n) (va_cpy f (fun _ => none) 0 0 n)])) := by
  obtain ⟨-, -, -, g4, g5⟩ := gN_facts n hn
  obtain ⟨b1, b2, -⟩ := gN_b hn
  refine Cn.of rfl (Nat.le_of_ble_eq_true rfl) (ls := [(0, .ref l), (1, .int (nI n + 1))]) rfl ?_
  refine r_aload_n 0 dJx4a65c_grow_92f84_0 rfl rfl ?_
  refine r_getD (q0 := 0) rfl rfl dJx4a65c_grow_92f84_1 ?_
  refine r_alen (q0 := 1) 4 rfl rfl (v := nI n) rfl dJx4a65c_grow_92f84_4 ?_
  refine r_istore_n [(2, .int (nI n)), (0, .ref l), (1, .int (nI n + 1))] dJx4a65c_grow_92f84_5 rfl (Nat.le_of_ble_eq_true rfl) rfl ?_
  refine r_iload_n 0 dJx4a65c_grow_92f84_6 rfl rfl ?_
  refine r_if_gt (tgt := 20) dJx4a65c_grow_92f84_7 (by decide) (fun c => ?_) (fun c => absurd (show (0 : Int32) < nI n from nI_lt (a := 0) (b := n) (by omega) (by omega)) c)
  refine r_iload_n 0 dJx4a65c_grow_92f84_20 rfl rfl ?_
  refine r_iload_n 2 dJx4a65c_grow_92f84_21 rfl rfl ?_
  refine r_iload_n 0 dJx4a65c_grow_92f84_22 rfl rfl ?_
  refine r_isub dJx4a65c_grow_92f84_23 ?_
  rw [g5]
  refine r_iload_n 0 dJx4a65c_grow_92f84_24 rfl rfl ?_
  refine r_iconst_1 dJx4a65c_grow_92f84_25 ?_
  refine r_ishr dJx4a65c_grow_92f84_26 ?_
  rw [g4]
  refine r_callS (J := iJ_nl) (As := [.int (nI n), .int 1, .int (nI (n / 2))]) w4_174 w4_175 w1_21 w4_176 (nA := 3) (by decide +kernel) rfl (by decide) (Nat.le_of_ble_eq_true rfl) dJx4a65c_grow_92f84_27 ⟨by omega, by omega⟩ rfl (cj_nl hn) ?_
  intro v w' h
  obtain ⟨rfl, rfl⟩ := h
  refine r_istore_n [(3, .int (nI (gN n))), (2, .int (nI n)), (0, .ref l), (1, .int (nI n + 1))] dJx4a65c_grow_92f84_30 rfl (Nat.le_of_ble_eq_true rfl) rfl ?_
  refine r_aload_n 2 dJx4a65c_grow_92f84_31 rfl rfl ?_
  refine r_aload_n 2 dJx4a65c_grow_92f84_32 rfl rfl ?_
  refine r_getD (q0 := 0) rfl rfl dJx4a65c_grow_92f84_33 ?_
  refine r_iload_n 0 dJx4a65c_grow_92f84_36 rfl rfl ?_
  refine r_callS (J := iJ_cp2) (As := [.ref b, .int (nI (gN n))]) w4_184 w4_185 w1_14 w4_186 (nA := 2) (by decide +kernel) rfl (by decide) (Nat.le_of_ble_eq_true rfl) dJx4a65c_grow_92f84_37 ⟨by omega, by omega⟩ rfl ((cj_cp2 (f := f) (w := (l, .inr (0, [.int m, .ref b, .int (nI n)])) :: w) hE hB b1 (by omega) hT.cons.cons).perm (List.Perm.swap _ _ _)) ?_
  intro v w' h
  obtain ⟨b2, rfl, rfl⟩ := h
  refine r_perm (w2 := (l, .inr (0, [.int m, .ref b, .int (nI n)])) :: obA E b n f :: (w ++ [obA E b2 (gN n) (va_cpy f (fun _ => none) 0 0 n)])) (List.Perm.swap _ _ _) ?_
  refine r_dupx1 dJx4a65c_grow_92f84_40 rfl rfl ?_
  refine r_putD (q0 := 0) rfl rfl rfl dJx4a65c_grow_92f84_41 ?_
  exact r_aret dJx4a65c_grow_92f84_44 rfl (Or.inr ⟨_, rfl⟩) (by omega) (by omega) ⟨b2, rfl, rfl⟩
theorem cj_gr0 {E : EvT} {d l mc ms : Nat} {v0 v1 : Value} {x : Int32} {w : va_W} {Q : Option Value → va_W → Prop} (hq : ∀ v w', Q v w' → ∃ b : Nat, v = some (.ref b)) (h : Cn E iJ_gr1 d mc ms [.ref l, .int (x + 1)] ((l, .inr (0, [v0, v1, .int x])) :: w) Q) : Cn E iJ_gr0 (d + 1) mc ms [.ref l] ((l, .inr (0, [v0, v1, .int x])) :: w) Q := by
  refine Cn.of rfl (Nat.le_of_ble_eq_true rfl) (ls := [(0, .ref l)]) rfl ?_
  refine r_aload_n 0 dJx4a65c_grow_d5877_0 rfl rfl ?_
  refine r_aload_n 0 dJx4a65c_grow_d5877_1 rfl rfl ?_
  refine r_getN (q0 := 0) rfl rfl dJx4a65c_grow_d5877_2 ?_
  refine r_iconst_1 dJx4a65c_grow_d5877_5 ?_
  refine r_iadd dJx4a65c_grow_d5877_6 ?_
  refine r_callV (J := iJ_gr1) (As := [.int (x + 1)]) (T := TJx4a65c) (q0 := 0) w4_170 w4_172 v2_5 w1_9 w4_173 (nA := 1) (by decide +kernel) rfl (by decide) rfl rfl (Nat.le_of_ble_eq_true rfl) dJx4a65c_grow_d5877_7 ⟨by omega, by omega⟩ rfl h ?_
  intro v w' h
  obtain ⟨b, rfl⟩ := hq v w' h
  exact r_aret dJx4a65c_grow_d5877_10 rfl (Or.inr ⟨_, rfl⟩) (by omega) (by omega) h
