/-! the hours of the ash: both programs -/
def rE8 (x y : Int32) : Bool := decide (x + 1 ≤ y)
def fE (x : Int32) : Int32 := x + 1
def rL8 (x y : Int32) : Bool := decide (y ≤ x - 1)
def fL (x : Int32) : Int32 := x - 1
theorem le_q {x y : Int32} (h : x = y) : x ≤ y := h ▸ Int32.le_refl _
theorem gokE : GOK rE8 fE (fun x y => x < y) := by
  refine ⟨fun x => ?_, fun x y z h1 h2 => ?_, fun x y h => ?_, fun x y z => Int32.lt_trans, fun x => Int32.lt_irrefl⟩
  · rw [rE8, fE, decide_eq_true_eq]; exact Int32.le_refl _
  · rw [rE8, decide_eq_true_eq] at h1 ⊢; exact Int32.le_of_lt (Int32.lt_of_le_of_lt h1 h2)
  · rw [rE8, decide_eq_true_eq] at h; exact Int32.not_le.mp h
theorem gokL : GOK rL8 fL (fun x y => y < x) := by
  refine ⟨fun x => ?_, fun x y z h1 h2 => ?_, fun x y h => ?_, fun x y z h1 h2 => Int32.lt_trans h2 h1, fun x => Int32.lt_irrefl⟩
  · rw [rL8, fL, decide_eq_true_eq]; exact Int32.le_refl _
  · rw [rL8, decide_eq_true_eq] at h1 ⊢; exact Int32.le_of_lt (Int32.lt_of_lt_of_le h2 h1)
  · rw [rL8, decide_eq_true_eq] at h; exact Int32.not_le.mp h
def nCu (M : StM) : Nat := ix (s_cuts M)
def cA (M : StM) (i : Nat) : Nat := ix (a_cutA M i)
def cB (M : StM) (i : Nat) : Nat := ix (a_cutB M i)
def hE (M : StM) (p : Nat) : Nat → Int32 := itG rE8 fE (cA M) (cB M) (nCu M) (a_hourFrom M) p
def hL (M : StM) (p : Nat) : Nat → Int32 := itG rL8 fL (cB M) (cA M) (nCu M) (a_hourTo M) p
def hOk (M : StM) (p : Nat) : Prop := okG rE8 (cA M) (cB M) (nCu M) (hE M p) ∧ okG rL8 (cB M) (cA M) (nCu M) (hL M p)
def hGood (M : StM) (p : Nat) : Prop := ∀ v, v < 8 → hE M p v ≤ hL M p v
def HrOK (M : StM) : Prop := hOk M 7 ∧ hGood M 7
def CuOK (M : StM) (i : Nat) : Prop := (0 ≤ a_cutA M i ∧ a_cutA M i < 8) ∧ (0 ≤ a_cutB M i ∧ a_cutB M i < 8)
def HoOK (M : StM) (i : Nat) : Prop := mCell M (a_hollowCell M i) = true ∧ (0 ≤ a_hollowLayer M i ∧ a_hollowLayer M i < 8)
def RAs (X : StX) (M : StM) : Prop := (xs_Fall_cuts X = s_cuts M ∧ xa_Fall_upper X = a_cutA M ∧ xa_Fall_lower X = a_cutB M ∧ xa_Fall_from X = a_hourFrom M ∧ xa_Fall_to X = a_hourTo M ∧ xa_Fall_height X = a_heightOf M ∧ xs_Fall_hollows X = s_hollows M ∧ xa_Fall_hollowCell X = a_hollowCell M ∧ xa_Fall_hollowLayer X = a_hollowLayer M) ∧ ((0 ≤ s_cuts M ∧ s_cuts M ≤ 40) ∧ (0 ≤ s_hollows M ∧ s_hollows M ≤ 40)) ∧ (∀ i, i < ix (s_cuts M) → CuOK M i) ∧ (∀ v, v < 8 → 0 ≤ a_hourFrom M v ∧ a_hourFrom M v ≤ a_hourTo M v ∧ a_hourTo M v ≤ 99) ∧ (∀ i, i < ix (s_hollows M) → HoOK M i) ∧ (∀ c, c < 100 → 0 ≤ a_heightOf M c ∧ a_heightOf M c ≤ 8)
theorem RAs.cu {X : StX} {M : StM} (h : RAs X M) : s_cuts M = nI (nCu M) ∧ nCu M ≤ 40 := cnt (n := 40) rfl (by omega) h.2.1.1.1 h.2.1.1.2
theorem RAs.lt8 {X : StX} {M : StM} (h : RAs X M) {i : Nat} (hi : i < nCu M) : cA M i < 8 ∧ cB M i < 8 := by
  obtain ⟨⟨a1, a2⟩, ⟨b1, b2⟩⟩ := h.2.2.1 i hi
  exact ⟨ix_lt a1 a2 (by omega), ix_lt b1 b2 (by omega)⟩
theorem hE_up {M : StM} (v p m : Nat) : hE M p v ≤ hE M (p + m) v := by
  rcases itG_le gokE (A := cA M) (B := cB M) (n := nCu M) (a_hourFrom M) v p m with z | z
  · rw [hE, hE, z]; exact Int32.le_refl _
  · exact Int32.le_of_lt z
theorem hL_dn {M : StM} (v p m : Nat) : hL M (p + m) v ≤ hL M p v := by
  rcases itG_le gokL (A := cB M) (B := cA M) (n := nCu M) (a_hourTo M) v p m with z | z
  · rw [hL, hL, z]; exact Int32.le_refl _
  · exact Int32.le_of_lt z
theorem hOk_st {M : StM} {k : Nat} (h : hOk M k) (m : Nat) : hE M (k + m) = hE M k ∧ hL M (k + m) = hL M k := ⟨itG_ok h.1 m, itG_ok h.2 m⟩
theorem hOk_eq {M : StM} {j k : Nat} (h : hOk M j) (h' : hOk M k) : hE M j = hE M k ∧ hL M j = hL M k := by
  rcases Nat.le_total j k with z | z
  · have := hOk_st h (k - j)
    rw [show j + (k - j) = k by omega] at this
    exact ⟨this.1.symm, this.2.symm⟩
  · have := hOk_st h' (j - k)
    rw [show k + (j - k) = j by omega] at this
    exact this
/-- who stands at last stands after seven passes -/
theorem hOk_7 {X : StX} {M : StM} (hA : RAs X M) {k : Nat} (h : hOk M k) (g : hGood M k) : HrOK M := by
  have top : ∀ v, v < 8 → hE M k v ≤ 99 := by
    intro v hv
    have a := g v hv
    have b := hL_dn (M := M) v 0 k
    rw [Nat.zero_add] at b
    have c := (hA.2.2.2.1 v hv).2.2
    have b : hL M k v ≤ a_hourTo M v := b
    exact Int32.le_trans a (Int32.le_trans b c)
  have lt : ∀ i, i < nCu M → hE M k (cB M i) < hE M k (cA M i) := by
    intro i hi
    have a := h.1 i hi
    rw [rE8, decide_eq_true_eq] at a
    have b := top _ (hA.lt8 hi).2
    grind
  obtain ⟨rho, r1, r2⟩ := rank_of (A := cA M) (B := cB M) (n := nCu M) (fun i hi => (hA.lt8 hi).1) (fun i hi => (hA.lt8 hi).2) lt
  have q1 : okG rE8 (cA M) (cB M) (nCu M) (itG rE8 fE (cA M) (cB M) (nCu M) (a_hourFrom M) 7) := okG_of_rk gokE r1 (fun i hi => r2 _ (hA.lt8 hi).1) _
  have r3 := rank_rev (A := cA M) (B := cB M) (n := nCu M) (fun i hi => (hA.lt8 hi).1) (fun i hi => (hA.lt8 hi).2) r1 r2
  have q2 : okG rL8 (cB M) (cA M) (nCu M) (itG rL8 fL (cB M) (cA M) (nCu M) (a_hourTo M) 7) := okG_of_rk gokL (rho := fun v => 7 - rho v) r3 (fun i hi => Nat.lt_of_le_of_lt (Nat.sub_le 7 (rho (cB M i))) (by decide)) _
  have o7 : hOk M 7 := by
    unfold hOk hE hL
    exact ⟨q1, q2⟩
  refine ⟨o7, fun v hv => ?_⟩
  rw [(hOk_eq o7 h).1, (hOk_eq o7 h).2]
  exact g v hv
/-- after i cuts of a pass -/
def hEi (M : StM) (p i : Nat) : Nat → Int32 := psG rE8 fE (cA M) (cB M) i (hE M p)
def hLi (M : StM) (p i : Nat) : Nat → Int32 := psG rL8 fL (cB M) (cA M) i (hL M p)
theorem hEi_up {M : StM} {v p i : Nat} (hi : i ≤ nCu M) : hE M p v ≤ hEi M p i v ∧ hEi M p i v ≤ hE M (p + 1) v := by
  constructor
  · rcases psG_le gokE (A := cA M) (B := cB M) (hE M p) v 0 i with z | z
    · rw [Nat.zero_add] at z; exact le_q z
    · rw [Nat.zero_add] at z; exact Int32.le_of_lt z
  · have := psG_le gokE (A := cA M) (B := cB M) (hE M p) v i (nCu M - i)
    rw [show i + (nCu M - i) = nCu M by omega] at this
    rcases this with z | z
    · exact le_q z
    · exact Int32.le_of_lt z
theorem hLi_dn {M : StM} {v p i : Nat} (hi : i ≤ nCu M) : hLi M p i v ≤ hL M p v ∧ hL M (p + 1) v ≤ hLi M p i v := by
  constructor
  · rcases psG_le gokL (A := cB M) (B := cA M) (hL M p) v 0 i with z | z
    · rw [Nat.zero_add] at z; exact le_q z.symm
    · rw [Nat.zero_add] at z; exact Int32.le_of_lt z
  · have := psG_le gokL (A := cB M) (B := cA M) (hL M p) v i (nCu M - i)
    rw [show i + (nCu M - i) = nCu M by omega] at this
    rcases this with z | z
    · exact le_q z.symm
    · exact Int32.le_of_lt z
/-- what crosses in a pass never stands -/
theorem hCross {M : StM} {v p i : Nat} (hi : i ≤ nCu M) (hv : v < 8) (h : hLi M p i v < hEi M p i v) : ¬ HrOK M := by
  rintro ⟨o, g⟩
  rcases Nat.lt_or_ge p 7 with z | z
  · have a := (hEi_up (v := v) (p := p) hi).2
    have b := (hLi_dn (v := v) (p := p) hi).2
    have c := hE_up (M := M) v (p + 1) (7 - (p + 1))
    have d := hL_dn (M := M) v (p + 1) (7 - (p + 1))
    rw [show p + 1 + (7 - (p + 1)) = 7 by omega] at c d
    have e := g v hv
    exact absurd (Int32.lt_of_lt_of_le (Int32.lt_of_le_of_lt (Int32.le_trans d b) h) (Int32.le_trans a c)) (Int32.not_lt.mpr e)
  · obtain ⟨e1, e2⟩ := hOk_st o (p - 7)
    rw [show 7 + (p - 7) = p by omega] at e1 e2
    have f1 : hEi M p i = hE M 7 := by
      rw [hEi, e1]
      exact psG_ok (fun j hj => o.1 j (by omega))
    have f2 : hLi M p i = hL M 7 := by
      rw [hLi, e2]
      exact psG_ok (fun j hj => o.2 j (by omega))
    rw [f1, f2] at h
    exact absurd h (Int32.not_lt.mpr (g v hv))
/-- a flag of a pass: 0 while all stood, else something moved -/
def FlI (M : StM) (p i : Nat) (fl : Int32) : Prop := (fl = 0 ∧ ∀ j, j < i → rE8 (hE M p (cB M j)) (hE M p (cA M j)) = true ∧ rL8 (hL M p (cA M j)) (hL M p (cB M j)) = true) ∨ (fl = 1 ∧ ∃ v, v < 8 ∧ (hE M p v < hEi M p i v ∨ hLi M p i v < hL M p v))
theorem FlI.mv {X : StX} {M : StM} {p i : Nat} {v : Nat} (hv : v < 8) (h : hE M p v < hEi M p i v ∨ hLi M p i v < hL M p v) : FlI M p i 1 := Or.inr ⟨rfl, v, hv, h⟩
theorem FlI.no {M : StM} {p : Nat} (h : FlI M p (nCu M) 0) : hOk M p := by
  rcases h with ⟨-, h⟩ | ⟨z, -⟩
  · exact ⟨fun i hi => (h i hi).1, fun i hi => (h i hi).2⟩
  · exact absurd z (by decide)
theorem FlI.yes {M : StM} {p : Nat} (h : FlI M p (nCu M) 1) : ¬ hOk M p ∧ ∃ v, v < 8 ∧ (hE M p v < hE M (p + 1) v ∨ hL M (p + 1) v < hL M p v) := by
  rcases h with ⟨z, -⟩ | ⟨-, v, hv, h⟩
  · exact absurd z (by decide)
  · refine ⟨fun o => ?_, v, hv, h⟩
    have := hOk_st o 1
    rcases h with z | z
    · rw [show hEi M p (nCu M) = hE M (p + 1) from rfl, this.1] at z
      exact Int32.lt_irrefl z
    · rw [show hLi M p (nCu M) = hL M (p + 1) from rfl, this.2] at z
      exact Int32.lt_irrefl z
/-- one cut: its flag -/
theorem FlI.step {X : StX} {M : StM} (hA : RAs X M) {p i : Nat} (hi : i < nCu M) {fl : Int32} (h : FlI M p i fl) {s1 s2 : Bool} (e1 : s1 = rE8 (hEi M p i (cB M i)) (hEi M p i (cA M i))) (e2 : s2 = rL8 (hLi M p i (cA M i)) (hLi M p i (cB M i))) : FlI M p (i + 1) (if s1 = true ∧ s2 = true then fl else 1) := by
  have sE : hEi M p (i + 1) = stG rE8 fE (cA M i) (cB M i) (hEi M p i) := rfl
  have sL : hLi M p (i + 1) = stG rL8 fL (cB M i) (cA M i) (hLi M p i) := rfl
  by_cases c : s1 = true ∧ s2 = true
  · rw [if_pos c]
    obtain ⟨c1, c2⟩ := c
    rw [e1] at c1
    rw [e2] at c2
    rcases h with ⟨z, h⟩ | ⟨z, v, hv, h⟩
    · refine Or.inl ⟨z, fun j hj => ?_⟩
      by_cases y : j = i
      · subst y
        have f1 : hEi M p j = hE M p := psG_ok (fun k hk => (h k hk).1)
        have f2 : hLi M p j = hL M p := psG_ok (fun k hk => (h k hk).2)
        rw [f1] at c1
        rw [f2] at c2
        exact ⟨c1, c2⟩
      · exact h j (by omega)
    · refine Or.inr ⟨z, v, hv, ?_⟩
      rw [sE, sL, stG, stG, if_pos c1, if_pos c2]
      exact h
  · rw [if_neg c]
    have lt8 := hA.lt8 hi
    by_cases d : s1 = true
    · have d2 : ¬ s2 = true := fun y => c ⟨d, y⟩
      rw [e2] at d2
      refine Or.inr ⟨rfl, cB M i, lt8.2, Or.inr ?_⟩
      rw [sL, stG, if_neg d2, upd_eq]
      exact Int32.lt_of_lt_of_le (gokL.2.2.1 _ _ d2) (hLi_dn (by omega)).1
    · rw [e1] at d
      refine Or.inr ⟨rfl, cA M i, lt8.1, Or.inl ?_⟩
      rw [sE, stG, if_neg d, upd_eq]
      exact Int32.lt_of_le_of_lt (hEi_up (by omega)).1 (gokE.2.2.1 _ _ d)
