/-! ArrayList.add -/
def fT (f : Nat → Option Nat) (n t : Nat) : Nat → Option Nat := fun k => if k < n then f k else if k = n then some t else none
theorem fT_b {f : Nat → Option Nat} {n t : Nat} (hf : ∀ k, n ≤ k → f k = none) : va_up f n (some t) = fT f n t := by
  funext k
  simp only [va_up, fT]
  by_cases h1 : k < n
  · rw [if_neg (by omega), if_pos h1]
  · rw [if_neg h1]
    by_cases h2 : k = n
    · rw [if_pos h2, if_pos h2]
    · rw [if_neg h2, if_neg h2]; exact hf k (by omega)
theorem fT_c {f : Nat → Option Nat} {n t : Nat} : va_up (va_cpy f (fun _ => none) 0 0 n) n (some t) = fT f n t := by
  funext k
  simp only [va_up, fT, va_cpy]
  by_cases h1 : k < n
  · rw [if_neg (by omega), if_pos ⟨Nat.zero_le _, by omega⟩, if_pos h1]; congr 1; omega
  · rw [if_neg h1]
    by_cases h2 : k = n
    · rw [if_pos h2, if_pos h2]
    · rw [if_neg h2, if_neg h2, if_neg (by omega)]
theorem ad3t {E : EvT} {d mc ms k0 n0 l b t cap n q1 qk : Nat} {v0 v1 v2 : Value} {vs : List Value} {f : Nat → Option Nat} {w : va_W} {Q : Option Value → va_W → Prop} (hB : EOr E) (h0 : w[0]? = some (l, .inr (0, [v0, v1, v2]))) (hq1 : w[q1]? = some (obA E b cap f)) (hqk : w[qk]? = some (t, .inr (8, vs))) (hn : n < cap) (hc : cap < 100000) (hne : q1 ≠ 0) (hk : k0 ≤ mc) (hm : n0 ≤ ms) (hq : Q none ((w.set q1 (obA E b cap (va_up f n (some t)))).set 0 (l, .inr (0, [v0, v1, .int (nI n + 1)])))) {ls : List (Nat × Value)} (hls : lv_pick ls [0, 1, 2, 3] = [(0, .ref l), (1, .ref t), (2, .ref b), (3, .int (nI n))]) : RR E iJ_ad3 d mc ms Q w k0 n0 ls [] 11 := by
  refine r_ls [0, 1, 2, 3] hls ?_
  refine r_aload_n 2 dJx4a65c_add_72be8_11 rfl rfl ?_
  refine r_iload_n 3 dJx4a65c_add_72be8_12 rfl rfl ?_
  refine r_aload_n 1 dJx4a65c_add_72be8_13 rfl rfl ?_
  have hin : vp_in (nI n) cap := by
    rw [vp_in_iff, nI_toInt (by omega)]
    omega
  refine r_astQ hB hq1 hqk hin rfl dJx4a65c_add_72be8_14 ?_
  rw [nI_clamp (by omega)]
  refine r_aload_n 0 dJx4a65c_add_72be8_15 rfl rfl ?_
  refine r_iload_n 3 dJx4a65c_add_72be8_16 rfl rfl ?_
  refine r_iconst_1 dJx4a65c_add_72be8_17 ?_
  refine r_iadd dJx4a65c_add_72be8_18 ?_
  refine r_putN (q0 := 0) (v0 := v0) (v1 := v1) (v2 := v2) rfl (by rw [List.getElem?_set_ne hne]; exact h0) rfl dJx4a65c_add_72be8_19 ?_
  exact r_vret dJx4a65c_add_72be8_22 rfl hk hm hq
abbrev alO (l : Nat) (m : Int32) (e : Nat) (n : Nat) : Nat × va_E := (l, .inr (0, [.int m, .ref e, .int (nI n)]))
/-- what add leaves -/
def adQ (E : EvT) (l t n : Nat) (m : Int32) (f : Nat → Option Nat) (vs : List Value) (w : va_W) (w' : va_W) : Prop := ∃ (b2 cap2 : Nat) (rest : va_W), n + 1 ≤ cap2 ∧ cap2 ≤ 1000 ∧ w'.Perm ((alO l m b2 (n + 1) :: obA E b2 cap2 (fT f n t) :: (t, .inr (8, vs)) :: w) ++ rest)
theorem ad_pm {a b c : Nat × va_E} {w : va_W} : (a :: b :: (w ++ [c])).Perm ((a :: c :: b :: w) ++ []) := by
  rw [List.append_nil]
  refine List.Perm.cons a ?_
  exact ((List.perm_append_comm (l₁ := w) (l₂ := [c])).cons b).trans (List.Perm.swap _ _ _)
theorem ad_pm2 {a b c x : Nat × va_E} {w : va_W} : (a :: x :: b :: (w ++ [c])).Perm ((a :: c :: b :: w) ++ [x]) := by
  refine List.Perm.cons a ?_
  have h1 : (x :: b :: (w ++ [c])).Perm (b :: (w ++ [c]) ++ [x]) := List.perm_append_comm (l₁ := [x]) (l₂ := b :: (w ++ [c]))
  refine h1.trans ?_
  exact List.Perm.append_right [x] (((List.perm_append_comm (l₁ := w) (l₂ := [c])).cons b).trans (List.Perm.swap _ _ _))
theorem cj_ad3a {E : EvT} {d l t z mi : Nat} {m : Int32} {f : Nat → Option Nat} {vs : List Value} {w : va_W} (hE : EOq E z mi) (hB : EOr E) (hf : ∀ k, 0 ≤ k → f k = none) : Cn E iJ_ad3 (d + 6) 1 64 [.ref l, .ref t, .ref z, .int (nI 0)] (alO l m z 0 :: (t, .inr (8, vs)) :: w) (fun v w' => v = none ∧ adQ E l t 0 m f vs w w') := by
  refine Cn.of rfl (Nat.le_of_ble_eq_true rfl) (ls := [(0, .ref l), (1, .ref t), (2, .ref z), (3, .int (nI 0))]) rfl ?_
  refine r_iload_n 3 dJx4a65c_add_72be8_0 rfl rfl ?_
  refine r_aload_n 2 dJx4a65c_add_72be8_1 rfl rfl ?_
  refine r_lenZ hE dJx4a65c_add_72be8_2 ?_
  refine r_icmp_ne (tgt := 11) dJx4a65c_add_72be8_3 (by decide) (fun c => absurd rfl c) (fun c => ?_)
  refine r_aload_n 0 dJx4a65c_add_72be8_6 rfl rfl ?_
  refine r_callV (J := iJ_gr0) (As := []) (T := TJx4a65c) (q0 := 0) w4_166 w4_168 v2_4 w1_9 w4_169 (nA := 0) (by decide +kernel) rfl (by decide) rfl rfl (Nat.le_of_ble_eq_true rfl) dJx4a65c_add_72be8_7 (mc1 := 1) (ms1 := 10) ⟨Nat.le_of_ble_eq_true rfl, Nat.le_of_ble_eq_true rfl⟩ rfl (cj_gr0 (d := d + 4) (fun v w' ⟨b, h, _⟩ => ⟨b, h⟩) (cj_gr1z (d := d + 3) (m := m) (w := (t, .inr (8, vs)) :: w) hE)) ?_
  intro v w' h
  obtain ⟨b, rfl, rfl⟩ := h
  refine r_astore_n [(2, .ref b), (0, .ref l), (1, .ref t), (3, .int (nI 0))] dJx4a65c_add_72be8_10 rfl (Nat.le_of_ble_eq_true rfl) rfl ?_
  refine r_perm (w2 := alO l m b 0 :: obA E b 10 (fun _ => none) :: (t, .inr (8, vs)) :: w) (by have h := @ad_pm (alO l m b 0) (t, .inr (8, vs)) (obA E b 10 (fun _ => none)) w; rw [List.append_nil] at h; exact h) ?_
  refine r_ls [1, 2, 0, 3] (ls2 := [(0, .ref l), (1, .ref t), (2, .ref b), (3, .int (nI 0))]) rfl ?_
  refine ad3t (q1 := 1) (qk := 2) (n := 0) (cap := 10) hB rfl rfl rfl (by decide) (by decide) (by decide) (Nat.le_of_ble_eq_true rfl) (Nat.le_of_ble_eq_true rfl) ⟨rfl, b, 10, [], by decide, by decide, ?_⟩ rfl
  rw [fT_b (fun _ _ => rfl), show fT (fun _ => none) 0 t = fT f 0 t from by funext k; simp [fT], nI_1, List.append_nil]
  exact List.Perm.refl _
theorem cj_ad3b {E : EvT} {d l b t n cap : Nat} {m : Int32} {f : Nat → Option Nat} {vs : List Value} {w : va_W} (hB : EOr E) (hn : n < cap) (hc : cap ≤ 1000) (hf : ∀ k, n ≤ k → f k = none) : Cn E iJ_ad3 (d + 6) 1 64 [.ref l, .ref t, .ref b, .int (nI n)] (alO l m b n :: obA E b cap f :: (t, .inr (8, vs)) :: w) (fun v w' => v = none ∧ adQ E l t n m f vs w w') := by
  refine Cn.of rfl (Nat.le_of_ble_eq_true rfl) (ls := [(0, .ref l), (1, .ref t), (2, .ref b), (3, .int (nI n))]) rfl ?_
  refine r_iload_n 3 dJx4a65c_add_72be8_0 rfl rfl ?_
  refine r_aload_n 2 dJx4a65c_add_72be8_1 rfl rfl ?_
  refine r_alen (q0 := 1) 4 rfl rfl (v := nI cap) rfl dJx4a65c_add_72be8_2 ?_
  refine r_icmp_ne (tgt := 11) dJx4a65c_add_72be8_3 (by decide) (fun c => ?_) (fun c => ?_)
  · refine ad3t (q1 := 1) (qk := 2) (n := n) (cap := cap) hB rfl rfl rfl hn (by omega) (by decide) (Nat.le_of_ble_eq_true rfl) (Nat.le_of_ble_eq_true rfl) ⟨rfl, b, cap, [], by omega, hc, ?_⟩ rfl
    rw [fT_b hf, nI_1, List.append_nil]
    exact List.Perm.refl _
  · have h2 := congrArg Int32.toNatClampNeg c
    rw [nI_clamp (by omega), nI_clamp (by omega)] at h2
    omega
theorem cj_ad3c {E : EvT} {d l b t n z mi : Nat} {m : Int32} {f : Nat → Option Nat} {vs : List Value} {w : va_W} (hE : EOq E z mi) (hB : EOr E) (h1 : 1 ≤ n) (hn : n < 32) (hT : isTx f n w) : Cn E iJ_ad3 (d + 6) 1 64 [.ref l, .ref t, .ref b, .int (nI n)] (alO l m b n :: obA E b n f :: (t, .inr (8, vs)) :: w) (fun v w' => v = none ∧ adQ E l t n m f vs w w') := by
  obtain ⟨b1, b2, b3⟩ := gN_b hn
  refine Cn.of rfl (Nat.le_of_ble_eq_true rfl) (ls := [(0, .ref l), (1, .ref t), (2, .ref b), (3, .int (nI n))]) rfl ?_
  refine r_iload_n 3 dJx4a65c_add_72be8_0 rfl rfl ?_
  refine r_aload_n 2 dJx4a65c_add_72be8_1 rfl rfl ?_
  refine r_alen (q0 := 1) 4 rfl rfl (v := nI n) rfl dJx4a65c_add_72be8_2 ?_
  refine r_icmp_ne (tgt := 11) dJx4a65c_add_72be8_3 (by decide) (fun c => absurd rfl c) (fun c => ?_)
  refine r_aload_n 0 dJx4a65c_add_72be8_6 rfl rfl ?_
  refine r_callV (J := iJ_gr0) (As := []) (T := TJx4a65c) (q0 := 0) w4_166 w4_168 v2_4 w1_9 w4_169 (nA := 0) (by decide +kernel) rfl (by decide) rfl rfl (Nat.le_of_ble_eq_true rfl) dJx4a65c_add_72be8_7 (mc1 := 1) (ms1 := gN n) ⟨by omega, by omega⟩ rfl (cj_gr0 (d := d + 4) (fun v w' ⟨b, h, _⟩ => ⟨b, h⟩) (cj_gr1n (d := d) (m := m) (f := f) (b := b) (w := (t, .inr (8, vs)) :: w) hE hB h1 hn hT.cons)) ?_
  intro v w' h
  obtain ⟨b2, rfl, rfl⟩ := h
  refine r_astore_n [(2, .ref b2), (0, .ref l), (1, .ref t), (3, .int (nI n))] dJx4a65c_add_72be8_10 rfl (Nat.le_of_ble_eq_true rfl) rfl ?_
  refine r_perm (w2 := (alO l m b2 n :: obA E b2 (gN n) (va_cpy f (fun _ => none) 0 0 n) :: (t, .inr (8, vs)) :: w) ++ [obA E b n f]) ad_pm2 ?_
  refine r_ls [1, 2, 0, 3] (ls2 := [(0, .ref l), (1, .ref t), (2, .ref b2), (3, .int (nI n))]) rfl ?_
  refine ad3t (q1 := 1) (qk := 2) (n := n) (cap := gN n) hB rfl rfl rfl b3 (by omega) (by decide) (by omega) (by omega) ⟨rfl, b2, gN n, [obA E b n f], by omega, by omega, ?_⟩ rfl
  rw [fT_c, nI_1]
  exact List.Perm.refl _
theorem cj_ad1 {E : EvT} {d l e t n : Nat} {m : Int32} {w : va_W} {P : va_W → Prop} (h : Cn E iJ_ad3 (d + 6) 1 64 [.ref l, .ref t, .ref e, .int (nI n)] (alO l (m + 1) e n :: w) (fun v w' => v = none ∧ P w')) : Cn E iJ_ad1 (d + 7) 1 64 [.ref l, .ref t] (alO l m e n :: w) (fun v w' => v = some (.int (b2i true)) ∧ P w') := by
  refine Cn.of rfl (Nat.le_of_ble_eq_true rfl) (ls := [(0, .ref l), (1, .ref t)]) rfl ?_
  refine r_aload_n 0 dJx4a65c_add_9ea2d_0 rfl rfl ?_
  refine r_dup dJx4a65c_add_9ea2d_1 rfl ?_
  refine r_getM (q0 := 0) rfl rfl dJx4a65c_add_9ea2d_2 ?_
  refine r_iconst_1 dJx4a65c_add_9ea2d_5 ?_
  refine r_iadd dJx4a65c_add_9ea2d_6 ?_
  refine r_putM (q0 := 0) rfl rfl (w2 := alO l (m + 1) e n :: w) rfl dJx4a65c_add_9ea2d_7 ?_
  refine r_aload_n 0 dJx4a65c_add_9ea2d_10 rfl rfl ?_
  refine r_aload_n 1 dJx4a65c_add_9ea2d_11 rfl rfl ?_
  refine r_aload_n 0 dJx4a65c_add_9ea2d_12 rfl rfl ?_
  refine r_getD (q0 := 0) rfl rfl dJx4a65c_add_9ea2d_13 ?_
  refine r_aload_n 0 dJx4a65c_add_9ea2d_16 rfl rfl ?_
  refine r_getN (q0 := 0) rfl rfl dJx4a65c_add_9ea2d_17 ?_
  refine r_callV (J := iJ_ad3) (As := [.ref t, .ref e, .int (nI n)]) (T := TJx4a65c) (q0 := 0) w4_162 w4_164 v2_3 w1_9 w4_165 (nA := 3) (by decide +kernel) rfl (by decide) rfl rfl (Nat.le_of_ble_eq_true rfl) dJx4a65c_add_9ea2d_20 ⟨Nat.le_of_ble_eq_true rfl, Nat.le_of_ble_eq_true rfl⟩ rfl h ?_
  intro v w' h
  obtain ⟨rfl, h⟩ := h
  refine r_iconst_1 dJx4a65c_add_9ea2d_23 ?_
  exact r_zret1 dJx4a65c_add_9ea2d_24 rfl (Nat.le_of_ble_eq_true rfl) (Nat.le_of_ble_eq_true rfl) ⟨rfl, h⟩
