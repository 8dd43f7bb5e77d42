/-! a text that is read is a text of the book -/
def TxP (T : List Cl) (p : Nat) : Prop := T.length ≤ 10 ∧ offT T T.length ≤ p ∧ ∀ c, c < T.length → ClOK (clT T c)
theorem TxP.add {T : List Cl} {p p' : Nat} {cl : Cl} (h : TxP T p) (h1 : T.length < 10) (h2 : cl.2.2.2.length + p ≤ p') (h3 : ClOK cl) : TxP (T ++ [cl]) p' := by
  have el : (T ++ [cl]).length = T.length + 1 := by rw [List.length_append]; rfl
  obtain ⟨a, b, c⟩ := h
  refine ⟨by omega, by rw [el, offT_new]; omega, fun k hk => ?_⟩
  rw [el] at hk
  by_cases e : k = T.length
  · rw [e, clT_new]; exact h3
  · rw [clT_app (by omega)]
    exact c k (by omega)
theorem pTx_ok {L : Nat} {bt : Nat → Nat} {f : Nat} : ∀ g p T T', pTx L bt f g p T = .inr T' → p ≤ L → TxP T p → TxP T' L := by
  intro g
  induction g with
  | zero => intro p T T' h; rw [pTx] at h; cases h
  | succ g ih =>
    intro p T T' h hp hT
    rw [pTx] at h
    split at h
    · split at h
      · split at h
        · cases h
        · next p1 cl e =>
          obtain ⟨r1, r2, r3, r4, r5⟩ := pCl_r (by omega) e
          exact ih _ _ _ h r2 (hT.add r5 (by omega) r4)
      · cases h
    · cases h
      exact ⟨hT.1, Nat.le_trans hT.2.1 hp, hT.2.2⟩
theorem pText_ok {L : Nat} {bt : Nat → Nat} {T : List Cl} (h : pText L bt = .inr T) (hL : L ≤ 160) : TxOK T := by
  rw [pText] at h
  split at h
  · cases h
  · next p1 cl e =>
    obtain ⟨r1, r2, r3, r4, r5⟩ := pCl_r (Nat.zero_le _) e
    have t0 : TxP [] 0 := ⟨Nat.zero_le _, Nat.le_refl _, fun c hc => absurd hc (Nat.not_lt_zero _)⟩
    have := pTx_ok _ _ _ _ h r2 (t0.add (cl := cl) (by show 0 < 10; omega) (by omega) r4)
    exact ⟨this.1, Nat.le_trans this.2.1 hL, this.2.2⟩
/-- older texts stand -/
theorem hlM_congr {f g : Nat → Int32} {b : Nat} : ∀ (l : List Ins) (o : Nat), (∀ z, z < b + o + l.length → g z = f z) → hlM f b o l → hlM g b o l := by
  intro l
  induction l with
  | nil => intro o _ _; trivial
  | cons i l ih =>
    intro o h hl
    rw [List.length_cons] at h
    exact ⟨by rw [h _ (by omega)]; exact hl.1, ih (o + 1) (fun z hz => h z (by omega)) hl.2⟩
theorem RuN.old {S N : StM} {L : Nat} {x1 x2 : Int32} {i : Nat} {T : List Cl} (h : RuN S L x1 x2 i T N) {k : Nat} (hk : k < i) {T' : List Cl} (hT : TxOK T') (h' : TxM T' S k) : TxM T' N k := by
  obtain ⟨-, -, -, -, -, -, n1, n2, n3, -⟩ := h
  obtain ⟨a1, a2⟩ := h'
  refine ⟨by rw [n1 k (by omega)]; exact a1, fun c hc => ?_⟩
  obtain ⟨b1, b2, b3, b4, b5, b6⟩ := a2 c hc
  have h10 := hT.1
  obtain ⟨m1, m2, m3, m4, m5⟩ := n3 (10 * k + c) (by omega)
  refine ⟨m1.trans b1, m2.trans b2, m3.trans b3, m4.trans b4, m5.trans b5, hlM_congr _ _ (fun z hz => n2 z ?_) b6⟩
  have k4 : offT T' (c + 1) = offT T' c + (clT T' c).2.2.2.length := rfl
  have k5 := offT_le T' (show c + 1 ≤ T'.length by omega)
  have k6 := hT.2.1
  omega
