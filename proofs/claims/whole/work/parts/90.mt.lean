/-! behind a fault the rest stands -/
theorem FLt.keep {S N : StM} {L : Nat} {x : Nat × Nat} (h : FLt (sI S 30 (nI L)) x N) : (∀ j, ¬ (28 ≤ j ∧ j ≤ 36) → (sI N 28 0).1 j = S.1 j) ∧ (∀ j, ¬ (37 ≤ j ∧ j ≤ 43) → (sI N 28 0).2 j = S.2 j) ∧ s_taped (sI N 28 0) = 0 := by
  obtain ⟨le, fr, to, nn, jj, n, p, nu, o, c, w, sd, wt, rfl⟩ := h
  refine ⟨fun j hj => ?_, fun j hj => ?_, rfl⟩
  · have n28 : ¬ j = 28 := by omega
    have n29 : ¬ j = 29 := by omega
    have n30 : ¬ j = 30 := by omega
    have n31 : ¬ j = 31 := by omega
    have n32 : ¬ j = 32 := by omega
    have n33 : ¬ j = 33 := by omega
    have n34 : ¬ j = 34 := by omega
    have n35 : ¬ j = 35 := by omega
    have n36 : ¬ j = 36 := by omega
    simp [mRd, mCl, sI, sA, va_up, n28, n29, n30, n31, n32, n33, n34, n35, n36]
  · have n37 : ¬ j = 37 := by omega
    have n38 : ¬ j = 38 := by omega
    have n39 : ¬ j = 39 := by omega
    have n40 : ¬ j = 40 := by omega
    have n41 : ¬ j = 41 := by omega
    have n42 : ¬ j = 42 := by omega
    have n43 : ¬ j = 43 := by omega
    simp [mRd, mCl, sI, sA, va_up, n37, n38, n39, n40, n41, n42, n43]
theorem RRu.fault {B : BkT} {X : StX} {S N : StM} {L : Nat} {x : Nat × Nat} (hR : RRu B X S) (h : FLt (sI S 30 (nI L)) x N) : RRu B X (sI N 28 0) := by
  obtain ⟨k1, k2, -⟩ := h.keep
  obtain ⟨⟨a1, a2, a3⟩, ⟨b1, b2⟩, c1, d1⟩ := hR
  have e44 : s_ruleMany0 (sI N 28 0) = s_ruleMany0 S := k1 44 (by omega)
  have e45 : a_codes (sI N 28 0) = a_codes S := k2 45 (by omega)
  have e46 : a_ruleFrom (sI N 28 0) = a_ruleFrom S := k2 46 (by omega)
  have e47 : a_ruleTo (sI N 28 0) = a_ruleTo S := k2 47 (by omega)
  have e48 : a_clauseMany (sI N 28 0) = a_clauseMany S := k2 48 (by omega)
  have e49 : a_letterOf (sI N 28 0) = a_letterOf S := k2 49 (by omega)
  have e50 : a_codeFrom (sI N 28 0) = a_codeFrom S := k2 50 (by omega)
  have e51 : a_codeTo (sI N 28 0) = a_codeTo S := k2 51 (by omega)
  have e52 : a_nOf (sI N 28 0) = a_nOf S := k2 52 (by omega)
  have e53 : a_jOf (sI N 28 0) = a_jOf S := k2 53 (by omega)
  refine ⟨⟨a1, e44.trans a2, a3⟩, ⟨b1.trans e46.symm, b2.trans e47.symm⟩, c1, fun i hi => ?_⟩
  obtain ⟨t1, t2, t3⟩ := d1 i hi
  refine ⟨t1, t2, ?_⟩
  rw [TxM] at t3 ⊢
  rw [e45, e48, e49, e50, e51, e52, e53]
  exact t3
