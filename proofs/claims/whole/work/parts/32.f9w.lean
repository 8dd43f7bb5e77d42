/-! works: what a set saves and costs -/
def smN (f : Nat → Nat) : Nat → Nat
  | 0 => 0
  | n + 1 => smN f n + f n
theorem smN_cong {f g : Nat → Nat} : ∀ {n : Nat}, (∀ k, k < n → f k = g k) → smN f n = smN g n := by
  intro n
  induction n with
  | zero => intro _; rfl
  | succ n ih => intro h; rw [smN, smN, ih (fun k hk => h k (by omega)), h n (by omega)]
theorem smN_upd {f g : Nat → Nat} {a : Nat} : ∀ {n : Nat}, a < n → (∀ k, k < n → k ≠ a → g k = f k) → smN g n + f a = smN f n + g a := by
  intro n
  induction n with
  | zero => intro h; omega
  | succ n ih =>
    intro h hg
    rw [smN, smN]
    by_cases e : a = n
    · subst e
      rw [smN_cong (f := g) (g := f) (fun k hk => hg k (by omega) (by omega))]
      omega
    · have := ih (by omega) (fun k hk hne => hg k (by omega) hne)
      rw [hg n (by omega) (fun z => e z.symm)]
      omega
theorem smN_le {f : Nat → Nat} {c : Nat} : ∀ {n : Nat}, (∀ k, k < n → f k ≤ c) → smN f n ≤ n * c := by
  intro n
  induction n with
  | zero => intro _; simp [smN]
  | succ n ih =>
    intro h
    rw [smN, Nat.add_mul]
    have := ih (fun k hk => h k (by omega))
    have := h n (by omega)
    omega
def bitS (s : Int32) (k : Nat) : Bool := decide (((s >>> (nI k &&& 31)) &&& 1) = 1)
theorem bitS_t {s : Int32} {k : Nat} : ((s >>> (nI k &&& 31)) &&& 1) = 1 ↔ bitS s k = true := by rw [bitS, decide_eq_true_eq]
def wtN (M : StM) (w : Nat) : Nat := ix (a_wallWorth M w)
def wwN (M : StM) (k : Nat) : Nat := ix (a_workWall M k)
def svN (M : StM) (k : Nat) : Nat := wtN M (wwN M k) * ix (a_workPart M k) / 100
def csN (M : StM) (k : Nat) : Nat := ix (a_workCost M k)
def inS (M : StM) (s : Int32) (w k : Nat) : Nat := if bitS s k = true ∧ wwN M k = w then svN M k else 0
def perW (M : StM) (s : Int32) (w n : Nat) : Nat := smN (inS M s w) n
def savedN (M : StM) (s : Int32) : Nat := smN (fun w => min (perW M s w (nWk M)) (wtN M w)) (nWa M)
def costN (M : StM) (s : Int32) (n : Nat) : Nat := smN (fun k => if bitS s k = true then csN M k else 0) n
theorem wt_le {X : StX} {M : StM} (hW : RWa X M) {w : Nat} (hw : w < nWa M) : a_wallWorth M w = nI (wtN M w) ∧ wtN M w ≤ 10000 := by
  obtain ⟨h1, h2⟩ := hW.2.2.1 w hw
  exact ⟨(nix h1).symm, ix_le (n := 10000) h1 h2 (by omega)⟩
theorem wk_f {X : StX} {M : StM} (hW : RWa X M) {k : Nat} (hk : k < nWk M) : a_workWall M k = nI (wwN M k) ∧ wwN M k < nWa M ∧ a_workCost M k = nI (csN M k) ∧ csN M k ≤ 10000 ∧ a_wallWorth M (wwN M k) * a_workPart M k / 100 = nI (svN M k) ∧ svN M k ≤ 10000 := by
  obtain ⟨en, n30⟩ := hW.wa
  obtain ⟨⟨a1, a2⟩, ⟨b1, b2⟩, ⟨c1, c2⟩, -⟩ := hW.2.2.2.2.1 k hk
  have hw : wwN M k < nWa M := ix_lt a1 (by rw [← en]; exact a2) (by omega)
  obtain ⟨e1, e2⟩ := wt_le hW hw
  have hp : ix (a_workPart M k) ≤ 100 := ix_le (n := 100) (by grind) c2 (by omega)
  have hm : wtN M (wwN M k) * ix (a_workPart M k) ≤ 10000 * 100 := Nat.mul_le_mul e2 hp
  refine ⟨(nix a1).symm, hw, (nix (by grind)).symm, ix_le (n := 10000) (by grind) b2 (by omega), ?_, ?_⟩
  · rw [e1, ← nix (show 0 ≤ a_workPart M k by grind), pk_mul]
    exact pk_div (d := 100) (by omega) (by omega) (by omega)
  · rw [svN]
    omega
theorem perW_le {X : StX} {M : StM} (hW : RWa X M) (s : Int32) (w : Nat) {n : Nat} (hn : n ≤ nWk M) : perW M s w n ≤ 90000 := by
  obtain ⟨-, n9⟩ := hW.wk
  have := smN_le (f := inS M s w) (c := 10000) (n := n) (fun k hk => by
    rw [inS]
    split
    · exact (wk_f hW (by omega)).2.2.2.2.2
    · omega)
  have h2 : n * 10000 ≤ 9 * 10000 := Nat.mul_le_mul_right _ (by omega)
  show smN (inS M s w) n ≤ _
  omega
theorem saved_le {X : StX} {M : StM} (hW : RWa X M) (g : Nat → Nat) {n : Nat} (hn : n ≤ nWa M) : smN (fun w => min (g w) (wtN M w)) n ≤ 300000 := by
  obtain ⟨-, n30⟩ := hW.wa
  have := smN_le (f := fun w => min (g w) (wtN M w)) (c := 10000) (n := n) (fun k hk => by
    have := (wt_le hW (show k < nWa M by omega)).2
    show min _ _ ≤ _
    omega)
  have h2 : n * 10000 ≤ 30 * 10000 := Nat.mul_le_mul_right _ (by omega)
  omega
theorem cost_le {X : StX} {M : StM} (hW : RWa X M) (s : Int32) {n : Nat} (hn : n ≤ nWk M) : costN M s n ≤ 90000 := by
  obtain ⟨-, n9⟩ := hW.wk
  have := smN_le (f := fun k => if bitS s k = true then csN M k else 0) (c := 10000) (n := n) (fun k hk => by
    show (if _ then _ else _) ≤ _
    split
    · exact (wk_f hW (by omega)).2.2.2.1
    · omega)
  have h2 : n * 10000 ≤ 9 * 10000 := Nat.mul_le_mul_right _ (by omega)
  show smN _ n ≤ _
  omega
theorem add0 (x : Int32) : x + 0 = x := by grind
theorem ct_saved {E : EvT} {q : Nat → Nat} {d : Nat} {X : StX} {M : StM} (hW : RWa X M) {s : Int32} : C_saved E q d s M (fun r M1 => r = nI (savedN M s) ∧ M1 = M) := by
  obtain ⟨ewa, n30⟩ := hW.wa
  obtain ⟨ewk, n9⟩ := hW.wk
  refine en_saved ?_
  refine up_s (W := nWa M) (T := fun w y => T_saved_4 E q d (fun r M1 => r = nI (savedN M s) ∧ M1 = M) M s y (nI w)) (J := fun w y => y = nI (smN (fun w => min (perW M s w (nWk M)) (wtN M w)) w)) ?_ ?_ 0 0 (by omega) rfl
  · intro y hy
    exact sg_saved_4 ⟨fun _ => ⟨hy, rfl⟩, fun z => absurd (by rw [ewa]; exact Int32.le_refl _) z⟩
  · intro w y hw hy kk
    refine sg_saved_4 ⟨fun z => absurd z (nle_nI hw (by omega) ewa), fun _ => ?_⟩
    obtain ⟨ew, w4⟩ := wt_le hW hw
    have bw : (0 : Int32) ≤ nI w ∧ nI w < 30 := bnd (n := 30) (by omega) (by omega) rfl
    refine up_s (W := nWk M) (T := fun k z => T_saved_18 E q d (fun r M1 => r = nI (savedN M s) ∧ M1 = M) M s y (nI w) z (nI k)) (J := fun k z => z = nI (perW M s w k)) ?_ ?_ 0 0 (by omega) rfl
    · intro z hz
      have hp := perW_le hW s w (Nat.le_refl (nWk M))
      refine sg_saved_18 ⟨fun _ => ⟨bw, ?_⟩, fun c => absurd (by rw [ewk]; exact Int32.le_refl _) c⟩
      rw [ixn (by omega), ew, hz, nI_leI (by omega) (by omega), nI_s]
      refine ⟨fun c => kk _ ?_, fun c => kk _ ?_⟩
      · rw [hy, nI_add, smN]
        congr 2
        omega
      · rw [hy, nI_add, smN]
        congr 2
        omega
    · intro k z hk hz kk2
      obtain ⟨f1, f2, f3, f4, f5, f6⟩ := wk_f hW hk
      have hp := perW_le hW s w (n := k) (by omega)
      refine sg_saved_18 ⟨fun c => absurd c (nle_nI hk (by omega) ewk), fun _ => ?_⟩
      rw [bitS_t, ixn (show k < 2 ^ 31 by omega), nI_s, add0, ixn (show w < 2 ^ 31 by omega), f1]
      refine ⟨fun c => kk2 _ ?_, fun c => ⟨bnd (n := 9) (by omega) (by omega) rfl, fun c2 => kk2 _ ?_, fun c2 => ⟨bw, kk2 _ ?_⟩⟩⟩
      · rw [hz, perW, perW, smN, inS, if_neg (fun q => c q.1), Nat.add_zero]
      · rw [hz, perW, perW, smN, inS, if_neg (fun q => c2 (by rw [q.2])), Nat.add_zero]
      · have e : wwN M k = w := (nI_eq (by omega) (by omega)).mp c2
        rw [hz, ← e, f5, nI_add, perW, perW, smN, inS, if_pos ⟨c, rfl⟩]
theorem ct_costs {E : EvT} {q : Nat → Nat} {d : Nat} {X : StX} {M : StM} (hW : RWa X M) {s : Int32} : C_costs E q d s M (fun r M1 => r = nI (costN M s (nWk M)) ∧ M1 = M) := by
  obtain ⟨ewk, n9⟩ := hW.wk
  refine en_costs ?_
  refine up_s (W := nWk M) (T := fun k y => T_costs_4 E q d (fun r M1 => r = nI (costN M s (nWk M)) ∧ M1 = M) M s y (nI k)) (J := fun k y => y = nI (costN M s k)) ?_ ?_ 0 0 (by omega) rfl
  · intro y hy
    exact sg_costs_4 ⟨fun _ => ⟨hy, rfl⟩, fun z => absurd (by rw [ewk]; exact Int32.le_refl _) z⟩
  · intro k y hk hy kk
    obtain ⟨f1, f2, f3, f4, f5, f6⟩ := wk_f hW hk
    refine sg_costs_4 ⟨fun z => absurd z (nle_nI hk (by omega) ewk), fun _ => ?_⟩
    rw [bitS_t, ixn (by omega), nI_s, add0]
    refine ⟨fun c => kk _ ?_, fun c => ⟨bnd (n := 9) (by omega) (by omega) rfl, kk _ ?_⟩⟩
    · rw [hy, costN, costN, smN, if_neg c, Nat.add_zero]
    · rw [hy, f3, nI_add, costN, costN, smN, if_pos c]
theorem ct_Wall_costOf {E : EvT} {q : Nat → Nat} {d : Nat} {X : StX} {M : StM} (hW : RWa X M) {n : Nat} (hn : n < 512) : C_Wall_costOf E q d (nI n) X (fun r X1 => r = nI (costN M (nI n) (nWk M)) ∧ X1 = X) := by
  obtain ⟨ewk, n9⟩ := hW.wk
  have ex : xs_Wall_works X = nI (nWk M) := hW.1.2.2.1.trans ewk
  refine en_Wall_costOf ?_
  refine up_s (W := nWk M) (T := fun k y => T_Wall_costOf_4 E q d (fun r X1 => r = nI (costN M (nI n) (nWk M)) ∧ X1 = X) X (nI n) y (nI k)) (J := fun k y => y = nI (costN M (nI n) k)) ?_ ?_ 0 0 (by omega) rfl
  · intro y hy
    exact sg_Wall_costOf_4 ⟨fun _ => ⟨hy, rfl⟩, fun z => absurd (by rw [ex]; exact Int32.le_refl _) z⟩
  · intro k y hk hy kk
    obtain ⟨f1, f2, f3, f4, f5, f6⟩ := wk_f hW hk
    refine sg_Wall_costOf_4 ⟨fun z => absurd z (nle_nI hk (by omega) ex), fun _ => ⟨bnd (n := 9) (by omega) (by omega) rfl, ?_⟩⟩
    rw [ixn (show k < 2 ^ 31 by omega), nI_s, hW.1.2.2.2.2.2, f3]
    refine kk _ ?_
    by_cases c : bitS (nI n) k = true
    · rw [bitS_t.mpr c, hy, costN, costN, smN, if_pos c, ← nI_add]
      grind
    · have : ((nI n >>> (nI k &&& 31)) &&& 1) = 0 := by
        rw [bit_0 (by omega) (by omega)]
        have h2 : ¬ ((nI n >>> (nI k &&& 31)) &&& 1) = 1 := fun z => c (bitS_t.mp z)
        rw [bit_1 (by omega) (by omega)] at h2
        simpa using h2
      rw [this, hy, costN, costN, smN, if_neg c, Nat.add_zero]
      grind
theorem ct_Wall_savedBy {E : EvT} {q : Nat → Nat} {d : Nat} {X : StX} {M : StM} (hW : RWa X M) {s : Int32} : C_Wall_savedBy E q (d + 1) s X (fun r X1 => r = nI (savedN M s) ∧ ∃ a, X1 = xA X 217 a) := by
  obtain ⟨ewa, n30⟩ := hW.wa
  obtain ⟨ewk, n9⟩ := hW.wk
  have ex : xs_Wall_works X = nI (nWk M) := hW.1.2.2.1.trans ewk
  refine en_Wall_savedBy ?_
  refine up_s (W := nWk M) (T := fun k (y : Int32 × (Nat → Int32)) => T_Wall_savedBy_12 E q (d + 1) (fun r X1 => r = nI (savedN M s) ∧ ∃ a, X1 = xA X 217 a) (xA X 217 y.2) s y.1 (nI k)) (J := fun k y => y.1 = nI (smN (fun w => min (perW M s w k) (wtN M w)) (nWa M)) ∧ ∀ w, w < nWa M → y.2 w = nI (min (perW M s w k) (wtN M w))) ?_ ?_ 0 (0, fillF 30 0 (xa_Wall_savedOf X)) (by omega) ⟨?_, fun w hw => ?_⟩
  · intro y hy
    exact sg_Wall_savedBy_12 ⟨fun _ => ⟨hy.1, y.2, rfl⟩, fun z => absurd (by show xs_Wall_works X ≤ _; rw [ex]; exact Int32.le_refl _) z⟩
  · intro k y hk hy kk
    obtain ⟨y1, y2⟩ := y
    obtain ⟨hy1, hy2⟩ := hy
    have hy1 : y1 = nI (smN (fun w => min (perW M s w k) (wtN M w)) (nWa M)) := hy1
    have hy2 : ∀ w, w < nWa M → y2 w = nI (min (perW M s w k) (wtN M w)) := hy2
    obtain ⟨f1, f2, f3, f4, f5, f6⟩ := wk_f hW hk
    have hsv : xa_Wall_saving X k = nI (svN M k) := (hW.2.2.2.2.1 k hk).2.2.2.trans f5
    obtain ⟨ew, w4⟩ := wt_le hW f2
    refine sg_Wall_savedBy_12 ⟨fun z => absurd z (by show ¬ xs_Wall_works X ≤ _; exact nle_nI hk (by omega) ex), fun _ => ?_⟩
    rw [bitS_t, ixn (show k < 2 ^ 31 by omega), nI_s]
    have eww : xa_Wall_workWall (xA X 217 y2) k = nI (wwN M k) := by
      show xa_Wall_workWall X k = _
      rw [hW.1.2.2.2.2.1]
      exact f1
    rw [eww, ixn (show wwN M k < 2 ^ 31 by omega)]
    refine ⟨fun c => kk (y1, y2) ⟨?_, fun w hw => ?_⟩, fun c => ⟨bnd (n := 9) (by omega) (by omega) rfl, bnd (n := 30) (by omega) (by omega) rfl, fun v ev => ?_⟩⟩
    · show y1 = _
      rw [hy1]
      congr 1
      refine smN_cong (fun w hw => ?_)
      rw [perW, perW, smN, inS, if_neg (fun q => c q.1), Nat.add_zero]
    · show y2 w = _
      rw [hy2 w hw, perW, perW, smN, inS, if_neg (fun q => c q.1), Nat.add_zero]
    · have hp := perW_le hW s (wwN M k) (n := k) (by omega)
      have ev2 : v = nI (min (perW M s (wwN M k) k + svN M k) (wtN M (wwN M k)) - min (perW M s (wwN M k) k) (wtN M (wwN M k))) := by
        rw [ev]
        show jMin (xa_Wall_saving X k) (xa_Wall_worth X (wwN M k) - y2 (wwN M k)) = _
        rw [hsv, hW.1.2.2.2.1, ew, hy2 _ f2, pk_sub (by omega), jMin]
        by_cases z : wtN M (wwN M k) - min (perW M s (wwN M k) k) (wtN M (wwN M k)) < svN M k
        · rw [if_pos (nI_lt z (by omega))]
          congr 1
          omega
        · rw [if_neg (nI_nlt (by omega) (by omega))]
          congr 1
          omega
      have e217 : xA (xA X 217 y2) 217 (upd (xa_Wall_savedOf (xA X 217 y2)) (wwN M k) (xa_Wall_savedOf (xA X 217 y2) (wwN M k) + v)) = xA X 217 (upd y2 (wwN M k) (y2 (wwN M k) + v)) := by
        show xA (xA X 217 y2) 217 (upd y2 (wwN M k) (y2 (wwN M k) + v)) = _
        simp only [xA]
        congr 2
        funext j
        simp only [va_up]
        split <;> rfl
      rw [e217]
      have hper : ∀ w, perW M s w (k + 1) = if w = wwN M k then perW M s w k + svN M k else perW M s w k := by
        intro w
        rw [perW, perW, smN, inS]
        by_cases z : wwN M k = w
        · rw [if_pos ⟨c, z⟩, if_pos z.symm]
        · rw [if_neg (fun q => z q.2), if_neg (fun q => z q.symm), Nat.add_zero]
      refine kk (y1 + v, upd y2 (wwN M k) (y2 (wwN M k) + v)) ⟨?_, fun w hw => ?_⟩
      · show y1 + v = _
        rw [hy1, ev2, nI_add]
        congr 1
        have := smN_upd (f := fun w => min (perW M s w k) (wtN M w)) (g := fun w => min (perW M s w (k + 1)) (wtN M w)) (a := wwN M k) (n := nWa M) f2 (fun w hw hne => by
          show min (perW M s w (k + 1)) _ = min (perW M s w k) _
          rw [hper w, if_neg hne])
        simp only [hper (wwN M k), if_true] at this
        omega
      · show upd y2 (wwN M k) (y2 (wwN M k) + v) w = _
        by_cases z : w = wwN M k
        · subst z
          rw [upd_eq, hy2 _ f2, ev2, nI_add, hper, if_pos rfl]
          congr 1
          omega
        · rw [upd_ne z, hy2 w hw, hper, if_neg z]
  · show (0 : Int32) = nI (smN (fun w => min (perW M s w 0) (wtN M w)) (nWa M))
    rw [smN_cong (g := fun _ => 0) (fun w hw => by show min (perW M s w 0) _ = 0; rw [perW, smN]; omega)]
    have : ∀ n, smN (fun _ => 0) n = 0 := by
      intro n
      induction n with
      | zero => rfl
      | succ n ih => rw [smN, ih]
    rw [this]
    rfl
  · show fillF 30 0 (xa_Wall_savedOf X) w = _
    rw [fillF, if_pos (by omega), perW, smN]
    simp
    rfl
