/-! the class's new text -/
theorem TxA.txx {T : List Cl} {le va ta ce cd le' va' ta' ce' cd' : Nat → Int32} (h : TxA T le va ta ce cd) (h1 : ∀ c, c < T.length → le' c = le c ∧ va' c = va c ∧ ta' c = ta c ∧ ce' c = ce c) (h2 : ∀ k, k < offT T T.length → cd' k = cd k) : TxX T (T.length, le', va', ta', ce', offT T T.length, cd') := by
  refine ⟨rfl, rfl, fun c hc => ?_⟩
  obtain ⟨a1, a2, a3, a4, a5⟩ := h c hc
  obtain ⟨b1, b2, b3, b4⟩ := h1 c hc
  refine ⟨b1.trans a1, b2.trans a2, b3.trans a3, b4.trans a4, hlX_c (fun k _ hk => h2 k ?_) a5⟩
  have k4 : offT T (c + 1) = offT T c + (clT T c).2.2.2.length := rfl
  have k5 := offT_le T (show c + 1 ≤ T.length by omega)
  omega
