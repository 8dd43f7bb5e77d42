/-! check -/
def tw (y b : Int32) : Int32 := (y <<< (8 &&& 31)) ||| (b &&& 255)
def tv (b : Nat → Int32) (i : Nat) : Int32 := tw (tw (tw (tw 0 (b (4 * i))) (b (4 * i + 1))) (b (4 * i + 2))) (b (4 * i + 3))
theorem m4 (i : Nat) : 4 * nI i = nI (4 * i) := by rw [show (4 : Int32) = nI 4 from rfl, pk_mul]
theorem m3 (i : Nat) : 3 * nI i = nI (3 * i) := by rw [show (3 : Int32) = nI 3 from rfl, pk_mul]
theorem ct_tapeNumber {E : EvT} {q : Nat → Nat} {d : Nat} {M : StM} {i : Nat} (hi : i ≤ 99) : C_tapeNumber E q d (nI i) M (fun r M1 => r = tv (a_tape M) i ∧ M1 = M) := by
  refine en_tapeNumber ?_
  have e4 : 4 * nI i + 4 = nI (4 * i + 4) := by rw [m4, show (4 : Int32) = nI 4 from rfl, nI_add]
  have st : ∀ (k : Nat) (y : Int32), k < 4 → T_tapeNumber_6 E q d (fun r M1 => r = tv (a_tape M) i ∧ M1 = M) M (nI i) (tw y (a_tape M (4 * i + k))) (nI (4 * i + k + 1)) → T_tapeNumber_6 E q d (fun r M1 => r = tv (a_tape M) i ∧ M1 = M) M (nI i) y (nI (4 * i + k)) := by
    intro k y hk h
    refine sg_tapeNumber_6 ?_
    rw [e4]
    refine ⟨fun z => absurd z (nI_ge (by omega) (by omega)), fun _ => ⟨bnd (n := 400) (by omega) (by omega) rfl, ?_⟩⟩
    rw [ixn (by omega), nI_s]
    exact h
  rw [m4]
  refine st 0 0 (by omega) (st 1 _ (by omega) (st 2 _ (by omega) (st 3 _ (by omega) ?_)))
  refine sg_tapeNumber_6 ?_
  rw [e4]
  exact ⟨fun _ => ⟨rfl, rfl⟩, fun z => absurd (Int32.le_refl _) z⟩
theorem ct_Tape_whole {E : EvT} {q : Nat → Nat} {d : Nat} {X : StX} {i : Nat} (hi : i ≤ 99) : C_Tape_whole E q d (nI i) X (fun r X1 => r = tv (xa_Tape_bytes X) i ∧ X1 = X) := by
  refine en_Tape_whole ⟨fun z => absurd z (nI_pos (by omega)), fun _ => ⟨fun _ => ?_, fun z => absurd (nI_le (b := 99) hi (by omega)) z⟩⟩
  have st : ∀ (k : Nat) (y : Int32), k < 4 → T_Tape_whole_16 E q d (fun r X1 => r = tv (xa_Tape_bytes X) i ∧ X1 = X) X (nI i) (tw y (xa_Tape_bytes X (4 * i + k))) (nI (k + 1)) → T_Tape_whole_16 E q d (fun r X1 => r = tv (xa_Tape_bytes X) i ∧ X1 = X) X (nI i) y (nI k) := by
    intro k y hk h
    refine sg_Tape_whole_16 ?_
    rw [m4, nI_add, ixn (by omega), nI_s]
    refine ⟨fun z => absurd z (nle_nI (n := 4) hk (by omega) rfl), fun _ => ⟨bnd (n := 400) (by omega) (by omega) rfl, fun v hv => ?_⟩⟩
    subst hv
    exact h
  refine st 0 0 (by omega) (st 1 _ (by omega) (st 2 _ (by omega) (st 3 _ (by omega) ?_)))
  exact sg_Tape_whole_16 ⟨fun _ => ⟨rfl, rfl⟩, fun z => absurd (by decide) z⟩
/-- the walk of check from spot k on, a told -/
def ckF (g tv : Nat → Int32) (n : Nat) : Nat → Nat → Nat → Int32
  | 0, _, a => if a < n then nI (3 * a) else -1
  | m + 1, k, a => if g k = 0 then ckF g tv n m (k + 1) a else if a = n then nI (3 * a) else if ¬ tv (3 * a) = nI (k / 8) then nI (3 * a) else if ¬ tv (3 * a + 1) = nI (k % 8) then nI (3 * a + 1) else if ¬ tv (3 * a + 2) = g k then nI (3 * a + 2) else ckF g tv n m (k + 1) (a + 1)
def ckG (X : StX) (M : StM) (k : Nat) : Int32 := (groundV X M (nI (k / 8)) (nI (k % 8)) (s_now M) (s_now M)).1
def ckV (X : StX) (M : StM) (n : Nat) : Int32 := ckF (ckG X M) (tv (a_tape M)) n (8 * (nW M * nH M)) 0 0
theorem ckF_0 {g tv : Nat → Int32} {n m k a : Nat} (h : g k = 0) : ckF g tv n (m + 1) k a = ckF g tv n m (k + 1) a := by rw [ckF, if_pos h]
theorem ckF_1 {g tv : Nat → Int32} {n m k a : Nat} (h : ¬ g k = 0) (h1 : a = n) : ckF g tv n (m + 1) k a = nI (3 * a) := by rw [ckF, if_neg h, if_pos h1]
theorem ckF_2 {g tv : Nat → Int32} {n m k a : Nat} (h : ¬ g k = 0) (h1 : ¬ a = n) (h2 : ¬ tv (3 * a) = nI (k / 8)) : ckF g tv n (m + 1) k a = nI (3 * a) := by rw [ckF, if_neg h, if_neg h1, if_pos h2]
theorem ckF_3 {g tv : Nat → Int32} {n m k a : Nat} (h : ¬ g k = 0) (h1 : ¬ a = n) (h2 : tv (3 * a) = nI (k / 8)) (h3 : ¬ tv (3 * a + 1) = nI (k % 8)) : ckF g tv n (m + 1) k a = nI (3 * a + 1) := by rw [ckF, if_neg h, if_neg h1, if_neg (fun z => z h2), if_pos h3]
theorem ckF_4 {g tv : Nat → Int32} {n m k a : Nat} (h : ¬ g k = 0) (h1 : ¬ a = n) (h2 : tv (3 * a) = nI (k / 8)) (h3 : tv (3 * a + 1) = nI (k % 8)) (h4 : ¬ tv (3 * a + 2) = g k) : ckF g tv n (m + 1) k a = nI (3 * a + 2) := by rw [ckF, if_neg h, if_neg h1, if_neg (fun z => z h2), if_neg (fun z => z h3), if_pos h4]
theorem ckF_5 {g tv : Nat → Int32} {n m k a : Nat} (h : ¬ g k = 0) (h1 : ¬ a = n) (h2 : tv (3 * a) = nI (k / 8)) (h3 : tv (3 * a + 1) = nI (k % 8)) (h4 : tv (3 * a + 2) = g k) : ckF g tv n (m + 1) k a = ckF g tv n m (k + 1) (a + 1) := by rw [ckF, if_neg h, if_neg h1, if_neg (fun z => z h2), if_neg (fun z => z h3), if_neg (fun z => z h4)]
def ckOk (M : StM) (x : Int32) : Prop := 0 ≤ x ∧ x ≤ s_taped M / 12
theorem ckN {X : StX} {M : StM} (hT : RTp X M) {x : Int32} (h : ckOk M x) : ∃ n, n ≤ 33 ∧ x = nI n := by
  obtain ⟨en, n400⟩ := hT.n
  refine ⟨ix x, ?_, (nix h.1).symm⟩
  have := h.2
  rw [en, show (12 : Int32) = nI 12 from rfl, div_n (by omega) (by omega) (by omega)] at this
  have := ix_le h.1 this (by omega)
  omega
theorem ckG_n {X : StX} {M : StM} {c l : Nat} (hl : l < 8) : ckG X M (8 * c + l) = (groundV X M (nI c) (nI l) (s_now M) (s_now M)).1 ∧ (8 * c + l) / 8 = c ∧ (8 * c + l) % 8 = l := by
  have e1 : (8 * c + l) / 8 = c := by omega
  have e2 : (8 * c + l) % 8 = l := by omega
  rw [ckG, e1, e2]
  exact ⟨rfl, rfl, rfl⟩
def mCk (M : StM) (f : Int32) : StM := sI (sI M 28 0) 20 f
theorem mCk_tw (M : StM) (f g : Int32) : sI (mCk M f) 20 g = mCk M g := by rw [mCk, sI_tw, ← mCk]
theorem ct_check {E : EvT} {q : Nat → Nat} {d : Nat} {X : StX} {M : StM} (hB : RB X M) (hD : RDg X M) (hT : RTp X M) {x : Int32} : C_check E q (d + 4) x M (fun r M1 => (¬ ckOk M x → r = -2 ∧ M1 = M) ∧ (ckOk M x → (∀ n, n ≤ 33 → x = nI n → r = ckV X M n) ∧ ∃ f, M1 = mCk M f)) := by
  obtain ⟨eN, N100, w0⟩ := hB.wh
  refine en_check ⟨fun z => ⟨fun _ => ⟨rfl, rfl⟩, fun y => absurd z (Int32.not_lt.mpr y.1)⟩, fun z1 => ⟨fun z2 => ?_, fun z => ⟨fun _ => ⟨rfl, rfl⟩, fun y => absurd y.2 z⟩⟩⟩
  have ok : ckOk M x := ⟨Int32.not_lt.mp z1, z2⟩
  obtain ⟨n, n33, rfl⟩ := ckN hT ok
  have fin : ∀ r f, r = ckV X M n → (¬ ckOk M (nI n) → r = -2 ∧ mCk M f = M) ∧ (ckOk M (nI n) → (∀ n', n' ≤ 33 → nI n = nI n' → r = ckV X M n') ∧ ∃ f', mCk M f = mCk M f') := by
    intro r f h
    refine ⟨fun z => absurd ok z, fun _ => ⟨fun n' h1 h2 => ?_, f, rfl⟩⟩
    rw [← (nI_eq (by omega) (by omega)).mp h2]; exact h
  have e0 : sI M 28 0 = mCk M (s_firstDig M) := by
    rw [mCk]
    exact (sI_self (sI M 28 0) 20).symm
  rw [e0]
  have outer := up_s (W := nW M * nH M) (T := fun c (y : Nat × Int32) => T_check_27 E q (d + 4) (fun r M1 => (¬ ckOk M (nI n) → r = -2 ∧ M1 = M) ∧ (ckOk M (nI n) → (∀ n', n' ≤ 33 → nI n = nI n' → r = ckV X M n') ∧ ∃ f, M1 = mCk M f)) (mCk M y.2) (nI n) (nI (3 * y.1)) (nI c)) (J := fun c y => y.1 ≤ n ∧ ckF (ckG X M) (tv (a_tape M)) n (8 * (nW M * nH M - c)) (8 * c) y.1 = ckV X M n) ?_ ?_ 0 (0, s_firstDig M) (by omega) ⟨by omega, rfl⟩
  · exact outer
  · rintro ⟨a, f⟩ ⟨ha, hv⟩
    rw [Nat.sub_self, Nat.mul_zero, ckF] at hv
    refine sg_check_27 ⟨fun _ => ?_, fun z => absurd (by show s_wide M * s_high M ≤ _; rw [eN]; exact Int32.le_refl _) z⟩
    rw [m3]
    refine ⟨fun z => fin _ _ ?_, fun z => fin _ _ ?_⟩
    · have := (nI_leI (by omega) (by omega)).mp z
      rw [← hv, if_neg (by omega)]
    · have : ¬ 3 * n ≤ 3 * a := fun y => z (nI_le y (by omega))
      rw [← hv, if_pos (by omega)]
  · rintro c ⟨a, f⟩ hc ⟨ha, hv⟩ kk
    refine sg_check_27 ⟨fun z => absurd z (by show ¬ s_wide M * s_high M ≤ _; exact nle_nI hc (by omega) eN), fun _ => ?_⟩
    have inner := up_s (W := 8) (T := fun l (y : Nat × Int32) => T_check_43 E q (d + 4) (fun r M1 => (¬ ckOk M (nI n) → r = -2 ∧ M1 = M) ∧ (ckOk M (nI n) → (∀ n', n' ≤ 33 → nI n = nI n' → r = ckV X M n') ∧ ∃ f, M1 = mCk M f)) (mCk M y.2) (nI n) (nI (3 * y.1)) (nI c) (nI l)) (J := fun l y => y.1 ≤ n ∧ ckF (ckG X M) (tv (a_tape M)) n (8 * (nW M * nH M - c) - l) (8 * c + l) y.1 = ckV X M n) ?_ ?_ 0 (a, f) (by omega) ⟨ha, hv⟩
    · exact inner
    · rintro ⟨a, f⟩ ⟨ha, hv⟩
      refine sg_check_43 ⟨fun _ => ?_, fun z => absurd (by decide) z⟩
      rw [nI_s]
      refine kk (a, f) ⟨ha, ?_⟩
      rw [show 8 * (nW M * nH M - (c + 1)) = 8 * (nW M * nH M - c) - 8 by omega]
      exact hv
    · rintro l ⟨a, f⟩ hl ⟨ha, hv⟩ kk2
      obtain ⟨m, hm⟩ : ∃ m, 8 * (nW M * nH M - c) - l = m + 1 := ⟨8 * (nW M * nH M - c) - l - 1, by omega⟩
      obtain ⟨g1, g2, g3⟩ := ckG_n (X := X) (M := M) (c := c) hl
      rw [hm] at hv
      refine sg_check_43 ⟨fun z => absurd z (nle_nI (n := 8) hl (by omega) rfl), fun _ => ?_⟩
      refine mI (ctM_groundOf (show RB X (mCk M f) from hB) (show RDg X (mCk M f) from hD) (nI c) (nI l) (s_now M) (s_now M)) (fun r M1 h => ?_)
      obtain ⟨er, rfl⟩ := h
      have er : r = ckG X M (8 * c + l) := er.trans g1.symm
      subst er
      rw [mCk_tw]
      have nx : ∀ a' f', a' ≤ n → ckF (ckG X M) (tv (a_tape M)) n m (8 * c + l + 1) a' = ckV X M n → T_check_43 E q (d + 4) (fun r M1 => (¬ ckOk M (nI n) → r = -2 ∧ M1 = M) ∧ (ckOk M (nI n) → (∀ n', n' ≤ 33 → nI n = nI n' → r = ckV X M n') ∧ ∃ f, M1 = mCk M f)) (mCk M f') (nI n) (nI (3 * a')) (nI c) (nI l + 1) := by
        intro a' f' h1 h2
        rw [nI_s]
        exact kk2 (a', f') ⟨h1, by rw [show 8 * (nW M * nH M - c) - (l + 1) = m by omega]; exact h2⟩
      refine ⟨fun gz => ⟨fun z => ?_, fun z => ?_⟩, fun gz => nx a _ ha (by rw [← hv, ckF_0 gz])⟩
      · rw [m3] at z
        have : a = n := by have := (nI_eq (by omega) (by omega)).mp z; omega
        exact fin _ _ (by rw [← hv, ckF_1 gz this])
      · rw [m3] at z
        have an : ¬ a = n := fun y => z (by rw [y])
        refine mI (ct_tapeNumber (i := 3 * a) (by omega)) (fun r M1 h => ?_)
        obtain ⟨rfl, rfl⟩ := h
        show (tv (a_tape M) (3 * a) = nI c → _) ∧ (¬ tv (a_tape M) (3 * a) = nI c → _)
        refine ⟨fun c1 => ?_, fun c1 => fin _ _ (by rw [← hv, ckF_2 gz an (by rw [g2]; exact c1)])⟩
        rw [nI_s]
        refine mI (ct_tapeNumber (i := 3 * a + 1) (by omega)) (fun r M1 h => ?_)
        obtain ⟨rfl, rfl⟩ := h
        show (tv (a_tape M) (3 * a + 1) = nI l → _) ∧ (¬ tv (a_tape M) (3 * a + 1) = nI l → _)
        refine ⟨fun c2 => ?_, fun c2 => fin _ _ (by rw [← hv, ckF_3 gz an (by rw [g2]; exact c1) (by rw [g3]; exact c2)])⟩
        rw [show nI (3 * a) + 2 = nI (3 * a + 2) from nI_add (3 * a) 2]
        refine mI (ct_tapeNumber (i := 3 * a + 2) (by omega)) (fun r M1 h => ?_)
        obtain ⟨rfl, rfl⟩ := h
        show (tv (a_tape M) (3 * a + 2) = ckG X M (8 * c + l) → _) ∧ (¬ tv (a_tape M) (3 * a + 2) = ckG X M (8 * c + l) → _)
        refine ⟨fun c3 => ?_, fun c3 => fin _ _ (by rw [← hv, ckF_4 gz an (by rw [g2]; exact c1) (by rw [g3]; exact c2) c3])⟩
        rw [show nI (3 * a) + 3 = nI (3 * (a + 1)) from nI_add (3 * a) 3]
        exact nx (a + 1) _ (by omega) (by rw [← hv, ckF_5 gz an (by rw [g2]; exact c1) (by rw [g3]; exact c2) c3])
theorem ct_City_check {E : EvT} {q : Nat → Nat} {d : Nat} {X : StX} {M : StM} (hB : RB X M) (hD : RDg X M) (hT : RTp X M) {x : Int32} : C_City_check E q (d + 4) x X (fun r X1 => (¬ ckOk M x → r = -2 ∧ X1 = X) ∧ (ckOk M x → (∀ n, n ≤ 33 → x = nI n → r = ckV X M n) ∧ X1 = xI X 181 0)) := by
  obtain ⟨eN, N100, w0⟩ := hB.wh
  obtain ⟨ew, w4, w10⟩ := hB.w
  obtain ⟨eh, h4, h10⟩ := hB.h
  have et : xs_Tape_length X = s_taped M := hT.1.1
  have eb : xa_Tape_bytes X = a_tape M := hT.1.2
  have en := hB.2.2.1
  have n9 := hB.2.2.2.2.2.1.2
  refine en_City_check ?_
  rw [et]
  refine ⟨fun z => ⟨fun _ => ⟨rfl, rfl⟩, fun y => absurd z (Int32.not_lt.mpr y.1)⟩, fun z1 => ⟨fun z2 => ?_, fun z => ⟨fun _ => ⟨rfl, rfl⟩, fun y => absurd y.2 z⟩⟩⟩
  have ok : ckOk M x := ⟨Int32.not_lt.mp z1, z2⟩
  obtain ⟨n, n33, rfl⟩ := ckN hT ok
  have fin : ∀ r, r = ckV X M n → (¬ ckOk M (nI n) → r = -2 ∧ xI X 181 0 = X) ∧ (ckOk M (nI n) → (∀ n', n' ≤ 33 → nI n = nI n' → r = ckV X M n') ∧ xI X 181 0 = xI X 181 0) := by
    intro r h
    refine ⟨fun z => absurd ok z, fun _ => ⟨fun n' h1 h2 => ?_, rfl⟩⟩
    rw [← (nI_eq (by omega) (by omega)).mp h2]; exact h
  refine en_Tape_clear ?_
  have outer := up_s (W := nW M * nH M) (T := fun c (a : Nat) => T_City_check_32 E q (d + 4) (fun r X1 => (¬ ckOk M (nI n) → r = -2 ∧ X1 = X) ∧ (ckOk M (nI n) → (∀ n', n' ≤ 33 → nI n = nI n' → r = ckV X M n') ∧ X1 = xI X 181 0)) (xI X 181 0) (nI n) (nI a) (nI c)) (J := fun c a => a ≤ n ∧ ckF (ckG X M) (tv (a_tape M)) n (8 * (nW M * nH M - c)) (8 * c) a = ckV X M n) ?_ ?_ 0 0 (by omega) ⟨by omega, rfl⟩
  · exact outer
  · rintro a ⟨ha, hv⟩
    rw [Nat.sub_self, Nat.mul_zero, ckF] at hv
    refine sg_City_check_32 ⟨fun _ => ?_, fun z => absurd (by show xs_Plan_width X * xs_Plan_height X ≤ _; rw [hB.xwh]; exact Int32.le_refl _) z⟩
    rw [m3]
    refine ⟨fun z => fin _ ?_, fun z => fin _ ?_⟩
    · have := (nI_leI (by omega) (by omega)).mp z
      rw [← hv, if_neg (by omega)]
    · have : ¬ n ≤ a := fun y => z (nI_le y (by omega))
      rw [← hv, if_pos (by omega)]
  · rintro c a hc ⟨ha, hv⟩ kk
    refine sg_City_check_32 ⟨fun z => absurd z (by show ¬ xs_Plan_width X * xs_Plan_height X ≤ _; exact nle_nI hc (by omega) hB.xwh), fun _ => ?_⟩
    have inner := up_s (W := 8) (T := fun l (a : Nat) => T_City_check_46 E q (d + 4) (fun r X1 => (¬ ckOk M (nI n) → r = -2 ∧ X1 = X) ∧ (ckOk M (nI n) → (∀ n', n' ≤ 33 → nI n = nI n' → r = ckV X M n') ∧ X1 = xI X 181 0)) (xI X 181 0) (nI n) (nI a) (nI c) (nI l)) (J := fun l a => a ≤ n ∧ ckF (ckG X M) (tv (a_tape M)) n (8 * (nW M * nH M - c) - l) (8 * c + l) a = ckV X M n) ?_ ?_ 0 a (by omega) ⟨ha, hv⟩
    · exact inner
    · rintro a ⟨ha, hv⟩
      refine sg_City_check_46 ⟨fun _ => ?_, fun z => absurd (by decide) z⟩
      rw [nI_s]
      refine kk a ⟨ha, ?_⟩
      rw [show 8 * (nW M * nH M - (c + 1)) = 8 * (nW M * nH M - c) - 8 by omega]
      exact hv
    · rintro l a hl ⟨ha, hv⟩ kk2
      obtain ⟨m, hm⟩ : ∃ m, 8 * (nW M * nH M - c) - l = m + 1 := ⟨8 * (nW M * nH M - c) - l - 1, by omega⟩
      obtain ⟨g1, g2, g3⟩ := ckG_n (X := X) (M := M) (c := c) hl
      rw [hm] at hv
      refine sg_City_check_46 ⟨fun z => absurd z (nle_nI (n := 8) hl (by omega) rfl), fun _ => ?_⟩
      rw [show xs_City_today (xI X 181 0) = s_now M from en]
      refine mIx (ct_Digs_state (show RB (xI X 181 0) M from hB) (show RDg (xI X 181 0) M from hD) ((mCell_n ew eh w10 h10).mpr ⟨c, hc, rfl⟩) n9) (fun r X1 h => ?_)
      obtain ⟨er, rfl⟩ := h
      have er : r = ckG X M (8 * c + l) := er.trans g1.symm
      subst er
      have nx : ∀ a', a' ≤ n → ckF (ckG X M) (tv (a_tape M)) n m (8 * c + l + 1) a' = ckV X M n → T_City_check_46 E q (d + 4) (fun r X1 => (¬ ckOk M (nI n) → r = -2 ∧ X1 = X) ∧ (ckOk M (nI n) → (∀ n', n' ≤ 33 → nI n = nI n' → r = ckV X M n') ∧ X1 = xI X 181 0)) (xI X 181 0) (nI n) (nI a') (nI c) (nI l + 1) := by
        intro a' h1 h2
        rw [nI_s]
        exact kk2 a' ⟨h1, by rw [show 8 * (nW M * nH M - c) - (l + 1) = m by omega]; exact h2⟩
      rw [nI_leI (by omega) (by omega)]
      refine ⟨fun gz => ⟨fun z => ?_, fun z => ?_⟩, fun gz => nx a ha (by rw [← hv, ckF_0 gz])⟩
      · rw [m3, show nI (3 * a) + 0 = nI (3 * a) from nI_add (3 * a) 0]
        exact fin _ (by rw [← hv, ckF_1 gz (by omega)])
      · have an : ¬ a = n := by omega
        refine en_City_firstWrong ?_
        rw [m3]
        refine mIx (ct_Tape_whole (i := 3 * a) (by omega)) (fun r X1 h => ?_)
        obtain ⟨er, rfl⟩ := h
        have er : r = tv (a_tape M) (3 * a) := by rw [er]; show tv (xa_Tape_bytes X) _ = _; rw [eb]
        subst er
        refine ⟨fun c1 => ?_, fun c1 => ⟨fun z => absurd z (by decide), fun _ => fin _ (by rw [show nI (3 * a) + 0 = nI (3 * a) from nI_add (3 * a) 0, ← hv, ckF_2 gz an (by rw [g2]; exact c1)])⟩⟩
        rw [nI_s]
        refine mIx (ct_Tape_whole (i := 3 * a + 1) (by omega)) (fun r X1 h => ?_)
        obtain ⟨er, rfl⟩ := h
        have er : r = tv (a_tape M) (3 * a + 1) := by rw [er]; show tv (xa_Tape_bytes X) _ = _; rw [eb]
        subst er
        refine ⟨fun c2 => ?_, fun c2 => ⟨fun z => absurd z (by decide), fun _ => fin _ (by rw [← hv, ckF_3 gz an (by rw [g2]; exact c1) (by rw [g3]; exact c2)])⟩⟩
        rw [show nI (3 * a) + 2 = nI (3 * a + 2) from nI_add (3 * a) 2]
        refine mIx (ct_Tape_whole (i := 3 * a + 2) (by omega)) (fun r X1 h => ?_)
        obtain ⟨er, rfl⟩ := h
        have er : r = tv (a_tape M) (3 * a + 2) := by rw [er]; show tv (xa_Tape_bytes X) _ = _; rw [eb]
        subst er
        refine ⟨fun c3 => ⟨fun _ => ?_, fun z => absurd rfl z⟩, fun c3 => ⟨fun z => absurd z (by decide), fun _ => fin _ (by rw [← hv, ckF_4 gz an (by rw [g2]; exact c1) (by rw [g3]; exact c2) c3])⟩⟩
        rw [nI_s]
        exact nx (a + 1) (by omega) (by rw [← hv, ckF_5 gz an (by rw [g2]; exact c1) (by rw [g3]; exact c2) c3])
