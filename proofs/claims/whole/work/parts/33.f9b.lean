/-! best, saves -/
def bestN (sv cs : Nat → Nat) (mo : Nat) : Nat → Nat
  | 0 => 0
  | n + 1 => if cs (n + 1) ≤ mo ∧ (sv (bestN sv cs mo n) < sv (n + 1) ∨ (sv (n + 1) = sv (bestN sv cs mo n) ∧ cs (n + 1) < cs (bestN sv cs mo n))) then n + 1 else bestN sv cs mo n
theorem bestN_le (sv cs : Nat → Nat) (mo : Nat) : ∀ n, bestN sv cs mo n ≤ n := by
  intro n
  induction n with
  | zero => exact Nat.le_refl _
  | succ n ih => rw [bestN]; split <;> omega
def svS (M : StM) (n : Nat) : Nat := savedN M (nI n)
def csS (M : StM) (n : Nat) : Nat := costN M (nI n) (nWk M)
theorem smN_0 : ∀ n, smN (fun _ => 0) n = 0 := by
  intro n
  induction n with
  | zero => rfl
  | succ n ih => rw [smN, ih]
theorem bitS_0 : ∀ k, k < 31 → bitS (nI 0) k = false := by decide +kernel
theorem cs0 {X : StX} {M : StM} (hW : RWa X M) : csS M 0 = 0 := by
  obtain ⟨ewk, n9⟩ := hW.wk
  rw [csS, costN, smN_cong (g := fun _ => 0) (fun k hk => by show (if _ then _ else _) = 0; rw [bitS_0 k (by omega)]; rfl)]
  exact smN_0 _
theorem sv0 {X : StX} {M : StM} (hW : RWa X M) : svS M 0 = 0 := by
  obtain ⟨ewk, n9⟩ := hW.wk
  rw [svS, savedN, smN_cong (g := fun _ => 0) (fun w hw => by
    show min (perW M (nI 0) w (nWk M)) _ = 0
    rw [perW, smN_cong (g := fun _ => 0) (fun k hk => by rw [inS, if_neg (fun z => by rw [bitS_0 k (by omega)] at z; exact absurd z.1 (by decide))]), smN_0]
    omega)]
  exact smN_0 _
theorem svS_le {X : StX} {M : StM} (hW : RWa X M) (n : Nat) : svS M n ≤ 300000 := saved_le hW _ (Nat.le_refl _)
theorem csS_le {X : StX} {M : StM} (hW : RWa X M) (n : Nat) : csS M n ≤ 90000 := cost_le hW _ (Nat.le_refl _)
theorem sub_pos {a b : Nat} (ha : a < 2 ^ 30) (hb : b < 2 ^ 30) : 0 < nI a - nI b ↔ b < a := by
  rw [Int32.lt_iff_toInt_lt, pk_sub_toInt ha hb]
  show (0 : Int) < _ ↔ _
  omega
theorem sub_zero' {a b : Nat} (ha : a < 2 ^ 30) (hb : b < 2 ^ 30) : nI a - nI b = 0 ↔ a = b := by
  rw [← Int32.toInt_inj, pk_sub_toInt ha hb]
  show _ = (0 : Int) ↔ _
  omega
def bestV (M : StM) (money : Int32) : Int32 := nI (bestN (svS M) (csS M) (ix money) (2 ^ nWk M - 1))
theorem pow9 {n : Nat} (h : n ≤ 9) : 2 ^ n ≤ 512 ∧ 1 ≤ 2 ^ n := ⟨by have := Nat.pow_le_pow_right (n := 2) (by omega) h; omega, Nat.one_le_two_pow⟩
theorem ct_best {E : EvT} {q : Nat → Nat} {d : Nat} {X : StX} {M : StM} (hW : RWa X M) {money : Int32} : C_best E q (d + 1) money M (fun r M1 => r = (if mIn money 0 100000 = true then bestV M money else -1) ∧ M1 = M) := by
  obtain ⟨ewk, n9⟩ := hW.wk
  obtain ⟨p1, p2⟩ := pow9 n9
  have e1 : (1 : Int32) <<< (s_works M &&& 31) = nI (2 ^ nWk M) := by rw [ewk]; exact sh1 _ (by omega)
  refine en_best ⟨fun hm => ?_, fun hm => ⟨by rw [if_neg (by rw [hm]; decide)], rfl⟩⟩
  rw [if_pos hm]
  have hm0 : 0 ≤ money ∧ money ≤ 100000 := by simpa [mIn] using hm
  have em : money = nI (ix money) := (nix hm0.1).symm
  have lm : ix money ≤ 100000 := ix_le (n := 100000) hm0.1 hm0.2 (by omega)
  have key := up_s (W := 2 ^ nWk M - 1) (T := fun n y => T_best_17 E q (d + 1) (fun r M1 => r = bestV M money ∧ M1 = M) M money y (nI (n + 1))) (J := fun n y => y = nI (bestN (svS M) (csS M) (ix money) n)) ?_ ?_ 0 0 (by omega) rfl
  · exact key
  · intro y hy
    refine sg_best_17 ⟨fun _ => ⟨hy, rfl⟩, fun z => absurd (by rw [e1]; exact nI_le (by omega) (by omega)) z⟩
  · intro n y hn hy kk
    have hb := bestN_le (svS M) (csS M) (ix money) n
    have k1 := svS_le hW (n + 1)
    have k2 := csS_le hW (n + 1)
    have k3 := svS_le hW (bestN (svS M) (csS M) (ix money) n)
    have k4 := csS_le hW (bestN (svS M) (csS M) (ix money) n)
    refine sg_best_17 ⟨fun z => absurd z (by rw [e1]; exact nI_ge (by omega) (by omega)), fun _ => ?_⟩
    rw [nI_s]
    refine mI (ct_costs hW) (fun r M1 h => ?_)
    obtain ⟨rfl, rfl⟩ := h
    have eC : nI (costN M1 (nI (n + 1)) (nWk M1)) ≤ money ↔ csS M1 (n + 1) ≤ ix money := by
      rw [em, ixn (by omega), nI_leI (by show csS M1 (n + 1) < _; omega) (by omega)]
      rfl
    rw [eC]
    refine ⟨fun c1 => ?_, fun c1 => kk _ ?_⟩
    · refine mI (ct_saved hW) (fun r M2 h => ?_)
      obtain ⟨rfl, rfl⟩ := h
      refine mI (ct_saved hW) (fun r M3 h => ?_)
      obtain ⟨rfl, rfl⟩ := h
      subst hy
      rw [show savedN M3 (nI (n + 1)) = svS M3 (n + 1) from rfl, show savedN M3 (nI (bestN (svS M3) (csS M3) (ix money) n)) = svS M3 (bestN (svS M3) (csS M3) (ix money) n) from rfl, sub_pos (by omega) (by omega), sub_zero' (by omega) (by omega)]
      refine ⟨fun c2 => kk _ ?_, fun c2 => ⟨fun c3 => kk _ ?_, fun c3 => ?_⟩⟩
      · rw [bestN, if_pos ⟨c1, Or.inl c2⟩]
      · rw [bestN, if_neg (fun z => by rcases z.2 with y | y <;> omega)]
      · refine mI (ct_costs hW) (fun r M4 h => ?_)
        obtain ⟨rfl, rfl⟩ := h
        refine mI (ct_costs hW) (fun r M5 h => ?_)
        obtain ⟨rfl, rfl⟩ := h
        rw [show costN M5 (nI (n + 1)) (nWk M5) = csS M5 (n + 1) from rfl, show costN M5 (nI (bestN (svS M5) (csS M5) (ix money) n)) (nWk M5) = csS M5 (bestN (svS M5) (csS M5) (ix money) n) from rfl, nI_leI (by omega) (by omega)]
        refine ⟨fun c4 => kk _ ?_, fun c4 => kk _ ?_⟩
        · rw [bestN, if_neg (fun z => by rcases z.2 with y | y <;> omega)]
        · rw [bestN, if_pos ⟨c1, Or.inr ⟨c3, by omega⟩⟩]
    · rw [hy, bestN, if_neg (fun z => c1 z.1)]
theorem RWa.scr {X : StX} {M : StM} (hW : RWa X M) (a : Nat → Int32) : RWa (xA X 217 a) M := hW
theorem xA_tw (X : StX) (k : Nat) (a b : Nat → Int32) : xA (xA X k a) k b = xA X k b := by
  simp only [xA]
  congr 2
  funext j
  simp only [va_up]
  split <;> rfl
theorem ct_Wall_bestSet {E : EvT} {q : Nat → Nat} {d : Nat} {X : StX} {M : StM} (hW : RWa X M) {money : Int32} (hm0 : 0 ≤ money ∧ money ≤ 100000) : C_Wall_bestSet E q (d + 2) money X (fun r X1 => r = bestV M money ∧ ∃ a, X1 = xA X 217 a) := by
  obtain ⟨ewk, n9⟩ := hW.wk
  obtain ⟨p1, p2⟩ := pow9 n9
  have e1 : ∀ a, (1 : Int32) <<< (xs_Wall_works (xA X 217 a) &&& 31) = nI (2 ^ nWk M) := by
    intro a
    show (1 : Int32) <<< (xs_Wall_works X &&& 31) = _
    rw [hW.1.2.2.1, ewk]
    exact sh1 _ (by omega)
  have em : money = nI (ix money) := (nix hm0.1).symm
  have lm : ix money ≤ 100000 := ix_le (n := 100000) hm0.1 hm0.2 (by omega)
  refine en_Wall_bestSet ?_
  have key := up_s (W := 2 ^ nWk M - 1) (T := fun n (y : (Nat → Int32) × Int32 × Int32 × Int32) => T_Wall_bestSet_10 E q (d + 2) (fun r X1 => r = bestV M money ∧ ∃ a, X1 = xA X 217 a) (xA X 217 y.1) money y.2.1 y.2.2.1 y.2.2.2 (nI (n + 1))) (J := fun n y => y.2.1 = nI (bestN (svS M) (csS M) (ix money) n) ∧ y.2.2.1 = nI (svS M (bestN (svS M) (csS M) (ix money) n)) ∧ y.2.2.2 = nI (csS M (bestN (svS M) (csS M) (ix money) n))) ?_ ?_ 0 (xa_Wall_savedOf X, 0, 0, 0) (by omega) ⟨rfl, ?_, ?_⟩
  · rw [show xA X 217 ((xa_Wall_savedOf X, (0 : Int32), (0 : Int32), (0 : Int32)).1) = X from xA_self X 217] at key
    exact key
  · intro y hy
    exact sg_Wall_bestSet_10 ⟨fun _ => ⟨hy.1, y.1, rfl⟩, fun z => absurd (by rw [e1]; exact nI_le (by omega) (by omega)) z⟩
  · intro n y hn hy kk
    obtain ⟨a, y2, y3, y4⟩ := y
    obtain ⟨hy2, hy3, hy4⟩ := hy
    have hy2 : y2 = nI (bestN (svS M) (csS M) (ix money) n) := hy2
    have hy3 : y3 = nI (svS M (bestN (svS M) (csS M) (ix money) n)) := hy3
    have hy4 : y4 = nI (csS M (bestN (svS M) (csS M) (ix money) n)) := hy4
    have k1 := svS_le hW (n + 1)
    have k2 := csS_le hW (n + 1)
    have k3 := svS_le hW (bestN (svS M) (csS M) (ix money) n)
    have k4 := csS_le hW (bestN (svS M) (csS M) (ix money) n)
    refine sg_Wall_bestSet_10 ⟨fun z => absurd z (by rw [e1]; exact nI_ge (by omega) (by omega)), fun _ => ?_⟩
    show C_Wall_costOf E q (d + 1) (nI (n + 1)) (xA X 217 a) _
    refine mIx (ct_Wall_costOf (hW.scr a) (by omega)) (fun r X1 h => ?_)
    obtain ⟨rfl, rfl⟩ := h
    have eC : nI (costN M (nI (n + 1)) (nWk M)) ≤ money ↔ csS M (n + 1) ≤ ix money := by
      rw [em, ixn (by omega), nI_leI (by show csS M (n + 1) < _; omega) (by omega)]
      rfl
    rw [eC]
    have en2 : nI (n + 1) + 1 = nI (n + 1 + 1) := nI_s _
    refine ⟨fun c1 => ?_, fun c1 => ?_⟩
    · refine mIx (ct_Wall_savedBy (hW.scr a)) (fun r X1 h => ?_)
      obtain ⟨rfl, b, rfl⟩ := h
      rw [xA_tw, en2]
      show (y3 < nI (savedN M (nI (n + 1))) → _) ∧ _
      rw [hy3, hy4, show savedN M (nI (n + 1)) = svS M (n + 1) from rfl, show costN M (nI (n + 1)) (nWk M) = csS M (n + 1) from rfl, nI_ltI (by omega) (by omega), nI_eq (by omega) (by omega), nI_leI (by omega) (by omega)]
      refine ⟨fun c2 => kk (b, _, _, _) ?_, fun c2 => ⟨fun c3 => kk (b, _, _, _) ?_, fun c3 => ⟨fun c4 => kk (b, _, _, _) ?_, fun c4 => kk (b, _, _, _) ?_⟩⟩⟩
      · have z : bestN (svS M) (csS M) (ix money) (n + 1) = n + 1 := by rw [bestN, if_pos ⟨c1, Or.inl c2⟩]
        show _ ∧ _ ∧ _
        rw [z]
        exact ⟨rfl, rfl, rfl⟩
      · have z : bestN (svS M) (csS M) (ix money) (n + 1) = bestN (svS M) (csS M) (ix money) n := by rw [bestN, if_neg (fun z => by rcases z.2 with y | y <;> omega)]
        show _ ∧ _ ∧ _
        rw [z]
        exact ⟨hy2, rfl, rfl⟩
      · have z : bestN (svS M) (csS M) (ix money) (n + 1) = bestN (svS M) (csS M) (ix money) n := by rw [bestN, if_neg (fun z => by rcases z.2 with y | y <;> omega)]
        show _ ∧ _ ∧ _
        rw [z]
        exact ⟨hy2, rfl, rfl⟩
      · have z : bestN (svS M) (csS M) (ix money) (n + 1) = n + 1 := by rw [bestN, if_pos ⟨c1, Or.inr ⟨c3, by omega⟩⟩]
        show _ ∧ _ ∧ _
        rw [z]
        exact ⟨rfl, rfl, rfl⟩
    · rw [en2]
      have z : bestN (svS M) (csS M) (ix money) (n + 1) = bestN (svS M) (csS M) (ix money) n := by rw [bestN, if_neg (fun z => c1 z.1)]
      refine kk (a, y2, y3, y4) ?_
      show _ ∧ _ ∧ _
      rw [z]
      exact ⟨hy2, hy3, hy4⟩
  · show (0 : Int32) = nI (svS M 0)
    rw [sv0 hW]
    rfl
  · show (0 : Int32) = nI (csS M 0)
    rw [cs0 hW]
    rfl
theorem ct_City_best {E : EvT} {q : Nat → Nat} {d : Nat} {X : StX} {M : StM} (hW : RWa X M) {money : Int32} : C_City_best E q (d + 3) money X (fun r X1 => r = (if mIn money 0 100000 = true then bestV M money else -1) ∧ ∃ a, X1 = xA X 217 a) := by
  refine en_City_best ⟨fun hm => ⟨by rw [if_neg (by rw [hm]; decide)], _, (xA_self X 217).symm⟩, fun hm => ?_⟩
  rw [if_pos hm]
  exact ct_Wall_bestSet hW (by simpa [mIn] using hm)
def savesV (M : StM) (s : Int32) : Int32 := if mIn s 0 (nI (2 ^ nWk M) - 1) = true then nI (savedN M s) else -1
theorem ct_saves {E : EvT} {q : Nat → Nat} {d : Nat} {X : StX} {M : StM} (hW : RWa X M) {s : Int32} : C_saves E q (d + 1) s M (fun r M1 => r = savesV M s ∧ M1 = M) := by
  obtain ⟨ewk, n9⟩ := hW.wk
  have e1 : (1 : Int32) <<< (s_works M &&& 31) = nI (2 ^ nWk M) := by rw [ewk]; exact sh1 _ (by omega)
  refine en_saves ?_
  rw [e1]
  refine ⟨fun h => ⟨by rw [savesV, if_neg (by rw [h]; decide)], rfl⟩, fun h => ?_⟩
  rw [savesV, if_pos h]
  exact ct_saved hW
theorem ct_City_saves {E : EvT} {q : Nat → Nat} {d : Nat} {X : StX} {M : StM} (hW : RWa X M) {s : Int32} : C_City_saves E q (d + 2) s X (fun r X1 => r = savesV M s ∧ ∃ a, X1 = xA X 217 a) := by
  obtain ⟨ewk, n9⟩ := hW.wk
  have e1 : (1 : Int32) <<< (xs_Wall_works X &&& 31) = nI (2 ^ nWk M) := by rw [hW.1.2.2.1, ewk]; exact sh1 _ (by omega)
  refine en_City_saves ?_
  rw [e1]
  refine ⟨fun h => ⟨by rw [savesV, if_neg (by rw [h]; decide)], _, (xA_self X 217).symm⟩, fun h => ?_⟩
  rw [savesV, if_pos h]
  exact ct_Wall_savedBy hW
