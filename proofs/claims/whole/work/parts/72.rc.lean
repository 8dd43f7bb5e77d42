/-! clauses and texts -/
def mosN (c : Nat) : Nat := if c = 97 then 8 else if c = 102 then 7 else if c = 110 then 3 else if c = 118 then 99 else if c = 120 then 19 else 200
abbrev CR : Type := (Nat × Nat) ⊕ (Nat × Cl)
def pCl (L : Nat) (bt : Nat → Nat) (f p n : Nat) : CR :=
  if mosN (ch L bt p) = 200 then .inl (1, p) else if 10 ≤ n then .inl (4, p) else (match rNum L bt (mosN (ch L bt p)) (p + 1) with
    | .inl e => .inl e
    | .inr (p1, v) => if ch L bt p = 120 then (if ch L bt p1 = 46 then (match rNum L bt 9 (p1 + 1) with
        | .inl e => .inl e
        | .inr (p2, j) => .inr (p2, (120, v, j, []))) else .inl (1, p1))
      else if ch L bt p1 = 40 then (match bndR (pz L bt f 9 1 (p1 + 1) []) (clsR L bt 41) with
        | .inl e => .inl e
        | .inr (p2, s) => .inr (p2, (ch L bt p, v, 0, s)))
      else .inr (p1, (ch L bt p, v, 0, [])))
def pTx (L : Nat) (bt : Nat → Nat) (f : Nat) : Nat → Nat → List Cl → (Nat × Nat) ⊕ List Cl
  | 0, _, _ => .inl (9, 0)
  | g + 1, p, T => if p < L then (if ch L bt p = 59 then (match pCl L bt f (p + 1) T.length with
      | .inl e => .inl e
      | .inr (p', cl) => pTx L bt f g p' (T ++ [cl])) else .inl (1, p)) else .inr T
def fu (L : Nat) : Nat := 10 * (L + 2)
def pText (L : Nat) (bt : Nat → Nat) : (Nat × Nat) ⊕ List Cl := match pCl L bt (fu L) 0 0 with
  | .inl e => .inl e
  | .inr (p', cl) => pTx L bt (fu L) (L + 1) p' [cl]
def okF4 (L : Nat) (x : Nat × Nat) : Prop := (x.1 = 1 ∨ x.1 = 2 ∨ x.1 = 3 ∨ x.1 = 5 ∨ x.1 = 4) ∧ x.2 ≤ L
theorem okF.to4 {L : Nat} {x : Nat × Nat} (h : okF L x) : okF4 L x := ⟨by rcases h.1 with a | a | a | a <;> simp [a], h.2⟩
theorem fv_ne4 {L : Nat} {x : Nat × Nat} (h : okF4 L x) (hL : L ≤ 160) : ¬ fvI x = 0 := by
  obtain ⟨k, w⟩ := x
  have hw : w < 161 := by have : w ≤ L := h.2; omega
  obtain ⟨a, b, c, e, g⟩ := fv_all w hw
  have h1 : k = 1 ∨ k = 2 ∨ k = 3 ∨ k = 5 ∨ k = 4 := h.1
  rcases h1 with rfl | rfl | rfl | rfl | rfl
  · exact a
  · exact b
  · exact c
  · exact e
  · exact g
theorem mos_lt {L : Nat} {bt : Nat → Nat} {p : Nat} (h : ¬ mosN (ch L bt p) = 200) : p < L := by
  rw [ch] at h
  split at h
  · assumption
  · exact absurd (by decide) h
theorem mos_b {c : Nat} (h : ¬ mosN c = 200) : mosN c ≤ 99 ∧ c < 128 ∧ (c = 110 → mosN c = 3) ∧ (c = 120 → mosN c = 19) := by
  rw [mosN] at *
  by_cases c1 : c = 97
  · subst c1; decide
  · by_cases c2 : c = 102
    · subst c2; decide
    · by_cases c3 : c = 110
      · subst c3; decide
      · by_cases c4 : c = 118
        · subst c4; decide
        · by_cases c5 : c = 120
          · subst c5; decide
          · rw [if_neg c1, if_neg c2, if_neg c3, if_neg c4, if_neg c5] at h; exact absurd rfl h
theorem pCl_l {L : Nat} {bt : Nat → Nat} {f p n : Nat} {x : Nat × Nat} (hf : 10 * (L + 1) + 9 < f) (hp : p ≤ L) (h : pCl L bt f p n = .inl x) : okF4 L x := by
  rw [pCl] at h
  split at h
  · cases h; exact ⟨Or.inl rfl, hp⟩
  · next c0 =>
    have pl := mos_lt c0
    split at h
    · cases h; exact ⟨Or.inr (Or.inr (Or.inr (Or.inr rfl))), hp⟩
    · split at h
      · next e => cases h; exact (rNum_l e (by omega)).to4
      · next p1 v e =>
        obtain ⟨k1, k2, -⟩ := rNum_r e (by omega)
        split at h
        · split at h
          · next c2 =>
            have := ch_lt c2 (by decide)
            split at h
            · next e2 => cases h; exact (rNum_l e2 (by omega)).to4
            · cases h
          · cases h; exact ⟨Or.inl rfl, k2⟩
        · split at h
          · next c2 =>
            have := ch_lt c2 (by decide)
            split at h
            · next e2 =>
              cases h
              rcases bndR_l e2 with e3 | ⟨p2, s2, e3, e4⟩
              · exact (pz_l _ _ _ _ _ _ e3 (by omega) (by omega) (by omega)).to4
              · have := (pz_r _ _ _ _ _ _ _ e3 (by omega)).1
                rw [clsR] at e4
                split at e4
                · cases e4
                · cases e4; exact ⟨Or.inl rfl, this⟩
            · cases h
          · cases h
theorem pCl_r {L : Nat} {bt : Nat → Nat} {f p n p' : Nat} {cl : Cl} (hp : p ≤ L) (h : pCl L bt f p n = .inr (p', cl)) : p < p' ∧ p' ≤ L ∧ cl.2.2.2.length + p ≤ p' ∧ ClOK cl ∧ n < 10 := by
  rw [pCl] at h
  split at h
  · cases h
  · next c0 =>
    have pl := mos_lt c0
    obtain ⟨m1, m2, m3, m4⟩ := mos_b c0
    split at h
    · cases h
    · next hn =>
      split at h
      · cases h
      · next p1 v e =>
        obtain ⟨k1, k2, k3, -⟩ := rNum_r e (by omega)
        split at h
        · next cx =>
          split at h
          · next c2 =>
            have := ch_lt c2 (by decide)
            split at h
            · cases h
            · next p2 j e2 =>
              obtain ⟨j1, j2, j3, -⟩ := rNum_r e2 (by omega)
              cases h
              have := m4 cx
              exact ⟨by omega, j2, by show 0 + p ≤ _; omega, ⟨by show 120 < 128; omega, by show v ≤ 99; omega, fun z => absurd z (by show ¬ 120 = 110; omega), fun _ => (by show v ≤ 19; omega), by show j ≤ 9; omega, 0, by omega, rfl⟩, by omega⟩
          · cases h
        · next cx =>
          split at h
          · next c2 =>
            have := ch_lt c2 (by decide)
            split at h
            · cases h
            · next p2 s e2 =>
              obtain ⟨q1, t1, e3, e4⟩ := bndR_r e2
              obtain ⟨j1, j2, -⟩ := pz_r _ _ _ _ _ _ _ e3 (by omega)
              obtain ⟨j3, j4⟩ := j2 rfl
              have ty := (pz_t _ _ _ _ _ _ _ e3 (by omega) (by omega) (by omega)).2 (by omega) (by omega) (fun z => by cases z)
              rw [clsR] at e4
              split at e4
              · next c3 =>
                cases e4
                cases h
                have := ch_lt c3 (by decide)
                exact ⟨by omega, by omega, by show s.length + p ≤ _; omega, ⟨m2, by show v ≤ 99; omega, fun z => by have := m3 z; show v ≤ 3; omega, fun z => absurd z cx, by show 0 ≤ 9; omega, 1, Nat.le_refl _, ty⟩, by omega⟩
              · cases e4
          · cases h
            exact ⟨by omega, k2, by show 0 + p ≤ _; omega, ⟨m2, by show v ≤ 99; omega, fun z => by have := m3 z; show v ≤ 3; omega, fun z => absurd z cx, by show 0 ≤ 9; omega, 0, by omega, rfl⟩, by omega⟩
/-! the class's state beside the reader's -/
def xCl (X : StX) (le va ta ce : Nat → Int32) (n : Nat) : StX := xI (xA (xA (xA (xA X 126 le) 127 va) 128 ta) 129 ce) 124 (nI n)
theorem xRd_A (X : StX) (a fl st : Int32) (cd v : Nat → Int32) (k : Nat) (hk : k ≠ 130) : xA (xRd X a fl st cd) k v = xRd (xA X k v) a fl st cd := by
  refine Prod.ext rfl (Prod.ext ?_ rfl)
  funext j
  simp only [xRd, xI, xA, va_up]
  by_cases c1 : j = k
  · subst c1; simp [hk]
  · by_cases c2 : j = 130
    · subst c2; simp [c1]
    · simp [c1, c2]
theorem xRd_I (X : StX) (a fl st v : Int32) (cd : Nat → Int32) : xI (xRd X a fl st cd) 124 v = xRd (xI X 124 v) a fl st cd := by
  refine Prod.ext ?_ rfl
  funext j
  simp only [xRd, xI, xA, va_up]
  by_cases c1 : j = 124
  · simp [c1]
  · simp [c1]
theorem xCl_126 (X : StX) (le va ta ce x : Nat → Int32) (n : Nat) : xA (xCl X le va ta ce n) 126 x = xCl X x va ta ce n := by
  refine Prod.ext rfl (Prod.ext ?_ rfl)
  funext j
  simp only [xCl, xI, xA, va_up]
  by_cases c : j = 126
  · simp [c]
  · simp [c]
theorem xCl_127 (X : StX) (le va ta ce x : Nat → Int32) (n : Nat) : xA (xCl X le va ta ce n) 127 x = xCl X le x ta ce n := by
  refine Prod.ext rfl (Prod.ext ?_ rfl)
  funext j
  simp only [xCl, xI, xA, va_up]
  by_cases c : j = 127
  · simp [c]
  · simp [c]
theorem xCl_128 (X : StX) (le va ta ce x : Nat → Int32) (n : Nat) : xA (xCl X le va ta ce n) 128 x = xCl X le va x ce n := by
  refine Prod.ext rfl (Prod.ext ?_ rfl)
  funext j
  simp only [xCl, xI, xA, va_up]
  by_cases c : j = 128
  · simp [c]
  · simp [c]
theorem xCl_e (X : StX) (le va ta ce x : Nat → Int32) (n m : Nat) : xI (xA (xCl X le va ta ce n) 129 x) 124 (nI m) = xCl X le va ta x m := by
  refine Prod.ext ?_ (Prod.ext ?_ rfl)
  · funext j
    simp only [xCl, xI, xA, va_up]
    by_cases c : j = 124
    · simp [c]
    · simp [c]
  · funext j
    simp only [xCl, xI, xA, va_up]
    by_cases c : j = 129
    · simp [c]
    · simp [c]
def TxA (T : List Cl) (le va ta ce cd : Nat → Int32) : Prop := ∀ c, c < T.length → le c = nI (clT T c).1 ∧ va c = nI (clT T c).2.1 ∧ ta c = nI (clT T c).2.2.1 ∧ ce c = nI (offT T (c + 1)) ∧ hlX cd (offT T c) (clT T c).2.2.2
theorem clT_app {T : List Cl} {cl : Cl} {c : Nat} (h : c < T.length) : clT (T ++ [cl]) c = clT T c := by
  rw [clT, clT, List.getD_eq_getElem?_getD, List.getD_eq_getElem?_getD, List.getElem?_append_left h]
theorem clT_new {T : List Cl} {cl : Cl} : clT (T ++ [cl]) T.length = cl := by
  rw [clT, List.getD_eq_getElem?_getD, List.getElem?_concat_length]
  rfl
theorem offT_app {T : List Cl} {cl : Cl} : ∀ {c : Nat}, c ≤ T.length → offT (T ++ [cl]) c = offT T c := by
  intro c
  induction c with
  | zero => intro _; rfl
  | succ c ih => intro h; rw [offT, offT, ih (by omega), clT_app (by omega)]
theorem offT_new {T : List Cl} {cl : Cl} : offT (T ++ [cl]) (T.length + 1) = offT T T.length + cl.2.2.2.length := by
  rw [offT, offT_app (Nat.le_refl _), clT_new]
theorem TxA.add {T : List Cl} {cl : Cl} {le va ta ce cd le' va' ta' ce' cd' : Nat → Int32} (h : TxA T le va ta ce cd) (h1 : ∀ c, c < T.length → le' c = le c ∧ va' c = va c ∧ ta' c = ta c ∧ ce' c = ce c) (h2 : ∀ k, k < offT T T.length → cd' k = cd k) (h3 : le' T.length = nI cl.1 ∧ va' T.length = nI cl.2.1 ∧ ta' T.length = nI cl.2.2.1 ∧ ce' T.length = nI (offT T T.length + cl.2.2.2.length)) (h4 : hlX cd' (offT T T.length) cl.2.2.2) : TxA (T ++ [cl]) le' va' ta' ce' cd' := by
  intro c hc
  rw [List.length_append] at hc
  have hc : c < T.length + 1 := hc
  by_cases e : c = T.length
  · subst e
    rw [clT_new, offT_new, offT_app (Nat.le_refl _)]
    exact ⟨h3.1, h3.2.1, h3.2.2.1, h3.2.2.2, h4⟩
  · have hc2 : c < T.length := by omega
    obtain ⟨a1, a2, a3, a4, a5⟩ := h c hc2
    obtain ⟨b1, b2, b3, b4⟩ := h1 c hc2
    rw [clT_app hc2, offT_app (by omega), offT_app (by omega), b1, b2, b3, b4]
    refine ⟨a1, a2, a3, a4, hlX_c (fun k k1 k2 => h2 k ?_) a5⟩
    have e1 : offT T (c + 1) = offT T c + (clT T c).2.2.2.length := rfl
    have := offT_le T (c := c + 1) (e := T.length) (by omega)
    omega
