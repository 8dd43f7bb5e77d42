/-! one text more in the book -/
theorem txB_l {B : BkT} {T : List Cl} {i : Nat} (h : i < B.length) : txB (B ++ [T]) i = txB B i := by
  rw [txB, txB, List.getD_eq_getElem?_getD, List.getD_eq_getElem?_getD, List.getElem?_append_left h]
theorem txB_n {B : BkT} {T : List Cl} : txB (B ++ [T]) B.length = T := by
  rw [txB, List.getD_eq_getElem?_getD, List.getElem?_concat_length]
  rfl
theorem RRu.add {B : BkT} {X Y : StX} {S N : StM} {L : Nat} {T : List Cl} {x1 x2 : Int32} (hR : RRu B X S) (hB : B.length < 20) (hT : TxOK T) (hN : RuN S L x1 x2 B.length T N) (y1 : nTx Y = B.length + 1) (y2 : xa_Book_from Y = upd (xa_Book_from X) B.length x1) (y3 : xa_Book_to Y = upd (xa_Book_to X) B.length x2) (y4 : B.length + 1 ≤ capX Y) (y5 : ∀ i, i < B.length → tx Y i = tx X i) (y6 : TxX T (tx Y B.length)) : RRu (B ++ [T]) Y N := by
  obtain ⟨⟨a1, a2, a3⟩, ⟨b1, b2⟩, c1, d1⟩ := hR
  have hN' := hN
  obtain ⟨-, -, -, n4, n5, n6, -, -, -, n10⟩ := hN'
  have el : (B ++ [T]).length = B.length + 1 := by rw [List.length_append]; rfl
  refine ⟨⟨by rw [el]; exact y1, by rw [el]; exact n4, by omega⟩, ⟨by rw [y2, n5, b1], by rw [y3, n6, b2]⟩, by rw [el]; exact y4, fun i hi => ?_⟩
  rw [el] at hi
  by_cases e : i = B.length
  · subst e
    rw [txB_n]
    exact ⟨hT, y6, n10⟩
  · have i1 : i < B.length := by omega
    obtain ⟨t1, t2, t3⟩ := d1 i i1
    rw [txB_l i1, y5 i i1]
    exact ⟨t1, t2, hN.old i1 t1 t3⟩
