/-! the class's numbers by rules -/
def xNb (X : StX) (u s : Nat → Int32) : StX := xA (xA X 103 u) 105 s
theorem xNb_105 (X : StX) (u s x : Nat → Int32) : xA (xNb X u s) 105 x = xNb X u x := by rw [xNb, xA_tw, ← xNb]
theorem xNb_103 (X : StX) (u s x : Nat → Int32) : xA (xNb X u s) 103 x = xNb X x s := by rw [xNb, xA_cm _ (j := 105) (k := 103) (by decide), xA_tw, ← xNb]
def stBit (S : Nat → Nat → Bool) (u : Nat → Int32) : Prop := ∀ a, a < 20 → u a = bitsP (S a) 10
theorem pForce_eq {B : BkT} {X : StX} {M : StM} (hR : RRu B X M) {fc : Nat → Int32} (hfc : xa_Book_letters X 0 = fc 0) (i : Nat) : pForce X (nI i) = frM M (fc 0) i := by
  rw [pForce, frM, mForce, hR.2.1.1, hR.2.1.2, hfc, mIn]
  by_cases h1 : a_ruleFrom M (ix (nI i)) ≤ fc 0 <;> by_cases h2 : fc 0 ≤ a_ruleTo M (ix (nI i)) <;> simp [h1, h2]
theorem ct_Text_strikeIn {E : EvT} {q : Nat → Nat} {d : Nat} {X : StX} {T : List Cl} {i : Nat} (hT : TxOK T) (hX : TxX T (tx X i)) (hi : i < nTx X) (h20 : i < 20) {S : Nat → Nat → Bool} {u s : Nat → Int32} (hu : stBit S u) : C_Text_strikeIn E q d i (nI i) (xNb X u s) (fun X1 => ∃ u, X1 = xNb X u s ∧ stBit (sk1 T i S T.length) u) := by
  obtain ⟨t10, t160, tcl⟩ := hT
  obtain ⟨x1, x2, x3⟩ := hX
  refine en_Text_strikeIn ?_
  refine up_s (W := T.length) (T := fun c u => T_Text_strikeIn_2 E q d i (fun X1 => ∃ u, X1 = xNb X u s ∧ stBit (sk1 T i S T.length) u) (xNb X u s) (nI i) (nI c)) (J := fun c u => stBit (sk1 T i S c) u) ?_ ?_ 0 u (by omega) hu
  · intro u hu
    refine sg_Text_strikeIn_2 ⟨hi, fun _ => ⟨u, rfl, hu⟩, fun z => absurd (by rw [show t_n (xNb X u s) i = T.length from x1]; exact Int32.le_refl _) z⟩
  · intro c u hc hu k
    obtain ⟨k1, k2, k3, k4, k5⟩ := x3 c hc
    obtain ⟨z1, z2, z3, z4, z5, -⟩ := tcl c hc
    have nx : stBit (sk1 T i S (c + 1)) u → T_Text_strikeIn_2 E q d i (fun X1 => ∃ u, X1 = xNb X u s ∧ stBit (sk1 T i S T.length) u) (xNb X u s) (nI i) (nI c + 1) := by
      intro h; rw [nI_s]; exact k u h
    rw [sk1, skS] at nx
    refine sg_Text_strikeIn_2 ⟨hi, fun z => absurd z (by rw [show t_n (xNb X u s) i = T.length from x1]; exact nI_ge hc (by omega)), fun _ => ⟨⟨nI_pos' (by omega), by rw [ixn (by omega), show t_n (xNb X u s) i = T.length from x1]; exact hc⟩, ?_⟩⟩
    rw [ixn (show c < 2 ^ 31 by omega), ixn (show i < 2 ^ 31 by omega), show t_letter (xNb X u s) i c = nI (clT T c).1 from k1, show t_value (xNb X u s) i c = nI (clT T c).2.1 from k2, show t_target (xNb X u s) i c = nI (clT T c).2.2.1 from k3, show xa_Book_struck (xNb X u s) i = bitsP (sk1 T i S c i) 10 from hu i h20, bitsP_00 (by omega) (by omega), show (120 : Int32) = nI 120 from rfl, nI_eq (by omega) (by omega), nI_leI (by omega) (by omega), xNb_103, ixn (show (clT T c).2.1 < 2 ^ 31 by omega)]
    refine ⟨fun n1 => nx (by rw [if_neg (fun y => n1 y.1)]; exact hu), fun y1 => ⟨bnd (n := 20) h20 (by omega) rfl, fun n2 => nx (by rw [if_neg (fun y => n2 y.2.1)]; exact hu), fun y2 => ⟨fun n3 => nx (by rw [if_neg (fun y => by have := y.2.2; omega)]; exact hu), fun y3 => ⟨bnd (n := 20) (by omega) (by omega) rfl, ?_⟩⟩⟩⟩
    rw [nI_s]
    refine k _ ?_
    rw [sk1, skS, if_pos ⟨y1, y2, by omega⟩]
    intro a ha
    show upd u (clT T c).2.1 _ a = _
    by_cases e : a = (clT T c).2.1
    · subst e
      rw [upd_eq, show xa_Book_struck (xNb X u s) (clT T c).2.1 = bitsP (sk1 T i S c (clT T c).2.1) 10 from hu _ ha, bitsP_or (by omega) (by omega)]
      apply bitsP_cong
      intro j _
      simp
    · rw [upd_ne e, hu a ha]
      apply bitsP_cong
      intro j _
      simp [e]
theorem ct_Text_lastOf {E : EvT} {q : Nat → Nat} {d : Nat} {X : StX} {T : List Cl} {i : Nat} (hT : TxOK T) (hX : TxX T (tx X i)) (hi : i < nTx X) {fc : Nat → Int32} (hfc : ∀ k, k < 5 → xa_Book_letters X k = fc k) {row : Nat → Bool} {L : Nat} (hL : L < 128) {u s : Nat → Int32} : C_Text_lastOf E q (d + 2) i (nI L) (bitsP row 10) (xNb X u s) (fun r X1 => r = lastC T row fc L T.length ∧ ∃ s, X1 = xNb X u s) := by
  have hT0 := hT
  have hX0 := hX
  obtain ⟨t10, t160, tcl⟩ := hT
  obtain ⟨x1, x2, x3⟩ := hX
  refine en_Text_lastOf ⟨hi, ?_⟩
  rw [show t_n (xNb X u s) i = T.length from x1]
  have key : ∀ c, c ≤ T.length → lastC T row fc L c = lastC T row fc L T.length → ∀ s, T_Text_lastOf_9 E q (d + 2) i (fun r X1 => r = lastC T row fc L T.length ∧ ∃ s, X1 = xNb X u s) (xNb X u s) (nI L) (bitsP row 10) (nI c - 1) := by
    intro c
    induction c with
    | zero =>
      intro _ hv s
      exact sg_Text_lastOf_9 ⟨fun _ => ⟨hv, s, rfl⟩, fun z => absurd (by decide) z⟩
    | succ c ih =>
      intro hc hv s
      obtain ⟨k1, k2, k3, k4, k5⟩ := x3 c (by omega)
      obtain ⟨z1, z2, z3, z4, z5, -⟩ := tcl c (by omega)
      have bc : ∀ s, (0 : Int32) ≤ nI c ∧ ix (nI c) < t_n (xNb X u s) i := fun s => ⟨nI_pos' (by omega), by rw [ixn (by omega), show t_n (xNb X u s) i = T.length from x1]; omega⟩
      have nx : ¬ ((clT T c).1 = L ∧ row c = false ∧ evC fc (clT T c).2.2.2 = true) → ∀ s, T_Text_lastOf_9 E q (d + 2) i (fun r X1 => r = lastC T row fc L T.length ∧ ∃ s, X1 = xNb X u s) (xNb X u s) (nI L) (bitsP row 10) (nI c + (-1)) := by
        intro n s
        rw [nmi]
        refine ih (by omega) ?_ s
        rw [← hv, lastC, if_neg n]
      rw [nI_p']
      refine sg_Text_lastOf_9 ⟨fun z => absurd z (nI_pos (by omega)), fun _ => ⟨hi, bc s, ?_⟩⟩
      rw [ixn (show c < 2 ^ 31 by omega), show t_letter (xNb X u s) i c = nI (clT T c).1 from k1, bitsP_00 (by omega) (by omega), nI_eq (by omega) (by omega)]
      refine ⟨fun n1 => nx (fun y => n1 y.1) s, fun y1 => ⟨fun n2 => nx (fun y => n2 y.2.1) s, fun y2 => ?_⟩⟩
      refine mBx (ct_Text_holds (X := xNb X u s) hT0 hX0 hi (by omega) (fun k hk => hfc k hk)) (fun b X1 h => ?_)
      obtain ⟨rfl, s', rfl⟩ := h
      rw [xNb_105]
      refine ⟨fun n3 => nx (fun y => by rw [n3] at y; exact Bool.noConfusion y.2.2) s', fun y3 => ⟨hi, ?_, ?_, s', rfl⟩⟩
      · have := bc s'; rw [ixn (show c < 2 ^ 31 by omega)] at this; exact this
      · rw [show t_value (xNb X u s') i c = nI (clT T c).2.1 from k2]
        have e0 : lastC T row fc L (c + 1) = nI (clT T c).2.1 := by rw [lastC, if_pos ⟨y1, y2, y3⟩]
        rw [← hv, e0]
  exact key T.length (Nat.le_refl _) rfl s
theorem ct_Text_lines {E : EvT} {q : Nat → Nat} {d : Nat} {X : StX} {T : List Cl} {i : Nat} (hT : TxOK T) (hX : TxX T (tx X i)) (hi : i < nTx X) {fc : Nat → Int32} (hfc : ∀ k, k < 5 → xa_Book_letters X k = fc k) {row : Nat → Bool} {u s : Nat → Int32} : C_Text_lines E q (d + 2) i (bitsP row 10) (xNb X u s) (fun r X1 => isB (fun v => ∃ c, c < T.length ∧ linC T row fc c v) r ∧ ∃ s, X1 = xNb X u s) := by
  have hT0 := hT
  have hX0 := hX
  obtain ⟨t10, t160, tcl⟩ := hT
  obtain ⟨x1, x2, x3⟩ := hX
  refine en_Text_lines ?_
  refine up_s (W := T.length) (T := fun c (z : Int32 × (Nat → Int32)) => T_Text_lines_6 E q (d + 2) i (fun r X1 => isB (fun v => ∃ c, c < T.length ∧ linC T row fc c v) r ∧ ∃ s, X1 = xNb X u s) (xNb X u z.2) (bitsP row 10) z.1 (nI c)) (J := fun c z => isB (fun v => ∃ c', c' < c ∧ linC T row fc c' v) z.1) ?_ ?_ 0 (0, s) (by omega) (isB.zero (fun v ⟨i', h, _⟩ => absurd h (Nat.not_lt_zero i')))
  · rintro ⟨y, s⟩ hy
    exact sg_Text_lines_6 ⟨hi, fun _ => ⟨hy, s, rfl⟩, fun z => absurd (by rw [show t_n (xNb X u s) i = T.length from x1]; exact Int32.le_refl _) z⟩
  · rintro c ⟨y, s⟩ hc hy kk
    obtain ⟨k1, k2, k3, k4, k5⟩ := x3 c hc
    obtain ⟨z1, z2, z3, z4, z5, -⟩ := tcl c hc
    have bc : ∀ s, (0 : Int32) ≤ nI c ∧ ix (nI c) < t_n (xNb X u s) i := fun s => ⟨nI_pos' (by omega), by rw [ixn (by omega), show t_n (xNb X u s) i = T.length from x1]; omega⟩
    have nx : ¬ ((clT T c).1 = 110 ∧ row c = false ∧ evC fc (clT T c).2.2.2 = true) → ∀ s, T_Text_lines_6 E q (d + 2) i (fun r X1 => isB (fun v => ∃ c, c < T.length ∧ linC T row fc c v) r ∧ ∃ s, X1 = xNb X u s) (xNb X u s) (bitsP row 10) y (nI c + 1) := by
      intro n s
      rw [nI_s]
      refine kk (y, s) (hy.cong (fun v => ⟨fun ⟨c', h, h2⟩ => ⟨c', by omega, h2⟩, fun ⟨c', h, h2⟩ => ?_⟩))
      by_cases e : c' = c
      · subst e; exact absurd ⟨h2.1, h2.2.1, h2.2.2.1⟩ n
      · exact ⟨c', by omega, h2⟩
    refine sg_Text_lines_6 ⟨hi, fun z => absurd z (by rw [show t_n (xNb X u s) i = T.length from x1]; exact nI_ge hc (by omega)), fun _ => ⟨bc s, ?_⟩⟩
    rw [ixn (show c < 2 ^ 31 by omega), show t_letter (xNb X u s) i c = nI (clT T c).1 from k1, bitsP_00 (by omega) (by omega), show (110 : Int32) = nI 110 from rfl, nI_eq (by omega) (by omega)]
    refine ⟨fun n1 => nx (fun y => n1 y.1) s, fun y1 => ⟨fun n2 => nx (fun y => n2 y.2.1) s, fun y2 => ?_⟩⟩
    refine mBx (ct_Text_holds (X := xNb X u s) hT0 hX0 hi (by omega) (fun k hk => hfc k hk)) (fun b X1 h => ?_)
    obtain ⟨rfl, s', rfl⟩ := h
    rw [xNb_105]
    refine ⟨fun n3 => nx (fun y => by rw [n3] at y; exact Bool.noConfusion y.2.2) s', fun y3 => ⟨hi, ?_, ?_⟩⟩
    · have := bc s'; rw [ixn (show c < 2 ^ 31 by omega)] at this; exact this
    · have v3 := z3 y1
      rw [show t_value (xNb X u s') i c = nI (clT T c).2.1 from k2, nI_s]
      refine kk (_, s') ((hy.add (v := (clT T c).2.1) (by omega)).cong (fun v => ⟨fun h => ?_, fun ⟨c', h, h2⟩ => ?_⟩))
      · rcases h with h | ⟨c', h, h2⟩
        · exact ⟨c, by omega, y1, y2, y3, h.symm⟩
        · exact ⟨c', by omega, h2⟩
      · by_cases e : c' = c
        · subst e; exact Or.inl h2.2.2.2.symm
        · exact Or.inr ⟨c', by omega, h2⟩
theorem fill0_bit {f : Nat → Int32} {fr : Nat → Bool} {B : BkT} : stBit (SKt fr B B.length) (fillF 20 0 f) := by
  intro a ha
  rw [SKt_top, fillF, if_pos ha]
  exact ((bitsP_0 (p := fun _ => false) (n := 10) (by omega)).mpr (fun _ _ => rfl)).symm
theorem xNb_self (X : StX) (u : Nat → Int32) : xA X 103 u = xNb X u (xa_Book_stack X) := by
  rw [xNb]
  show xA X 103 u = xA (xA X 103 u) 105 ((xA X 103 u).2.1 105)
  rw [xA_self]
theorem ct_Book_highestOf {E : EvT} {q : Nat → Nat} {d : Nat} {B : BkT} {X : StX} {M : StM} (hR : RRu B X M) {fc : Nat → Int32} (hfc : ∀ k, k < 5 → xa_Book_letters X k = fc k) {L : Nat} (hL : L < 128) {wo : Int32} : C_Book_highestOf E q (d + 4) (nI L) wo X (fun r X1 => r = numV B M fc L wo ∧ ∃ u s, X1 = xNb X u s) := by
  have pf := fun X' (h : RRu B X' M) (h2 : xa_Book_letters X' 0 = fc 0) i => pForce_eq h h2 i
  have hR0 := hR
  obtain ⟨⟨r1, r2, r3⟩, rf, rc, r4⟩ := hR
  refine en_Book_highestOf ?_
  rw [xNb_self, show nTx X = B.length from r1]
  have outer : ∀ i, i ≤ B.length → numD B (frM M (fc 0)) fc L wo i = numV B M fc L wo → ∀ u s, stBit (SKt (frM M (fc 0)) B i) u → T_Book_highestOf_18 E q (d + 4) (fun r X1 => r = numV B M fc L wo ∧ ∃ u s, X1 = xNb X u s) (xNb X u s) (nI L) wo (nI i - 1) := by
    intro i
    induction i with
    | zero =>
      intro _ hv u s _
      exact sg_Book_highestOf_18 ⟨fun _ => ⟨hv, u, s, rfl⟩, fun z => absurd (by decide) z⟩
    | succ i ih =>
      intro hi hv u s hu
      obtain ⟨o1, o2, o3⟩ := r4 i (by omega)
      have bi : (0 : Int32) ≤ nI i ∧ nI i < 20 := bnd (n := 20) (by omega) (by omega) rfl
      have bt : ∀ u s, ¬ capX (xNb X u s) = 0 ∧ 0 ≤ nI i ∧ nI i < nI (nTx (xNb X u s)) ∧ ix (nI i) < nTx (xNb X u s) ∧ nTx (xNb X u s) ≤ capX (xNb X u s) := by
        intro u s
        show ¬ capX X = 0 ∧ 0 ≤ nI i ∧ nI i < nI (nTx X) ∧ ix (nI i) < nTx X ∧ nTx X ≤ capX X
        rw [show nTx X = B.length from r1, ixn (show i < 2 ^ 31 by omega)]
        exact ⟨by omega, bi.1, nI_lt (by omega) (by omega), by omega, rc⟩
      rw [nI_p']
      refine sg_Book_highestOf_18 ⟨fun z => absurd z (nI_pos (by omega)), fun _ => ⟨bi, ?_⟩⟩
      rw [pf (xNb X u s) hR0 (hfc 0 (by omega))]
      rw [numD] at hv
      refine ⟨fun hfr => ?_, fun hfr => ⟨bt u s, ?_⟩⟩
      · rw [if_neg (fun y => by rw [hfr] at y; exact Bool.noConfusion y.1)] at hv
        rw [nmi]
        refine ih (by omega) hv u s ?_
        rw [SKt_s (show i < B.length by omega), if_neg (by rw [hfr]; decide)]
        exact hu
      · rw [ixn (show i < 2 ^ 31 by omega)]
        refine mVx (ct_Text_strikeIn o1 o2 (by show i < nTx X; rw [r1]; omega) (by omega) hu) (fun X1 h => ?_)
        obtain ⟨u', rfl, hu'⟩ := h
        have hb := bt u' s
        rw [ixn (show i < 2 ^ 31 by omega)] at hb
        refine ⟨hb, bi, ?_⟩
        have hu2 : stBit (SKt (frM M (fc 0)) B i) u' := by
          rw [SKt_s (show i < B.length by omega), if_pos hfr]; exact hu'
        have erow : xa_Book_struck (xNb X u' s) i = bitsP (skF (frM M (fc 0)) B i) 10 := by
          rw [show xa_Book_struck (xNb X u' s) i = bitsP (SKt (frM M (fc 0)) B i i) 10 from hu2 i (by omega)]
          apply bitsP_cong
          intro j _
          rw [skF, SKt_row (show i < B.length by omega) i (by omega), SKt_row (show i < B.length by omega) 0 (by omega)]
        rw [erow]
        refine mIx (ct_Text_lastOf o1 o2 (by show i < nTx X; rw [r1]; omega) hfc hL) (fun r X1 h => ?_)
        obtain ⟨rfl, s', rfl⟩ := h
        refine ⟨fun e => ?_, fun e => ⟨?_, u', s', rfl⟩⟩
        · rw [if_neg (fun y => y.2 e)] at hv
          rw [nmi]
          exact ih (by omega) hv u' s' hu2
        · rw [if_pos ⟨hfr, e⟩] at hv
          exact hv
  exact outer B.length (Nat.le_refl _) rfl _ _ fill0_bit
theorem ct_Book_lines {E : EvT} {q : Nat → Nat} {d : Nat} {B : BkT} {X : StX} {M : StM} (hR : RRu B X M) {fc : Nat → Int32} (hfc : ∀ k, k < 5 → xa_Book_letters X k = fc k) : C_Book_lines E q (d + 4) X (fun r X1 => r = linV B M fc ∧ ∃ u s, X1 = xNb X u s) := by
  have pf := fun X' (h : RRu B X' M) (h2 : xa_Book_letters X' 0 = fc 0) i => pForce_eq h h2 i
  have hR0 := hR
  obtain ⟨⟨r1, r2, r3⟩, rf, rc, r4⟩ := hR
  refine en_Book_lines ?_
  rw [xNb_self, show nTx X = B.length from r1]
  have outer : ∀ i, i ≤ B.length → ∀ y u s, stBit (SKt (frM M (fc 0)) B i) u → isB (fun v => ∃ i', i ≤ i' ∧ ∃ c, linQ B (frM M (fc 0)) fc i' c v) y → T_Book_lines_20 E q (d + 4) (fun r X1 => r = linV B M fc ∧ ∃ u s, X1 = xNb X u s) (xNb X u s) y (nI i - 1) := by
    intro i
    induction i with
    | zero =>
      intro _ y u s _ hy
      have hy : isB (linP B (frM M (fc 0)) fc) y := hy.cong (fun v => ⟨fun ⟨i, _, c, h⟩ => ⟨i, c, h⟩, fun ⟨i, c, h⟩ => ⟨i, Nat.zero_le _, c, h⟩⟩)
      rw [isB] at hy
      refine sg_Book_lines_20 ⟨fun _ => ⟨fun z => ⟨?_, u, s, rfl⟩, fun z => ⟨?_, u, s, rfl⟩⟩, fun z => absurd (by decide) z⟩
      · rw [linV, ← hy, if_neg z]
      · rw [linV, ← hy, if_pos z]
    | succ i ih =>
      intro hi y u s hu hy
      obtain ⟨o1, o2, o3⟩ := r4 i (by omega)
      have bi : (0 : Int32) ≤ nI i ∧ nI i < 20 := bnd (n := 20) (by omega) (by omega) rfl
      have bt : ∀ u s, ¬ capX (xNb X u s) = 0 ∧ 0 ≤ nI i ∧ nI i < nI (nTx (xNb X u s)) ∧ ix (nI i) < nTx (xNb X u s) ∧ nTx (xNb X u s) ≤ capX (xNb X u s) := by
        intro u s
        show ¬ capX X = 0 ∧ 0 ≤ nI i ∧ nI i < nI (nTx X) ∧ ix (nI i) < nTx X ∧ nTx X ≤ capX X
        rw [show nTx X = B.length from r1, ixn (show i < 2 ^ 31 by omega)]
        exact ⟨by omega, bi.1, nI_lt (by omega) (by omega), by omega, rc⟩
      rw [nI_p']
      refine sg_Book_lines_20 ⟨fun z => absurd z (nI_pos (by omega)), fun _ => ⟨bi, ?_⟩⟩
      rw [pf (xNb X u s) hR0 (hfc 0 (by omega))]
      refine ⟨fun hfr => ?_, fun hfr => ⟨bt u s, ?_⟩⟩
      · rw [nmi]
        refine ih (by omega) y u s ?_ (hy.cong (fun v => ⟨fun ⟨i', h, h2⟩ => ⟨i', by omega, h2⟩, fun ⟨i', h, c, h2⟩ => ?_⟩))
        · rw [SKt_s (show i < B.length by omega), if_neg (by rw [hfr]; decide)]
          exact hu
        · by_cases e : i' = i
          · subst e; exact absurd (hfr.symm.trans h2.2.1) (by decide)
          · exact ⟨i', by omega, c, h2⟩
      · rw [ixn (show i < 2 ^ 31 by omega)]
        refine mVx (ct_Text_strikeIn o1 o2 (by show i < nTx X; rw [r1]; omega) (by omega) hu) (fun X1 h => ?_)
        obtain ⟨u', rfl, hu'⟩ := h
        have hb := bt u' s
        rw [ixn (show i < 2 ^ 31 by omega)] at hb
        refine ⟨hb, bi, ?_⟩
        have hu2 : stBit (SKt (frM M (fc 0)) B i) u' := by
          rw [SKt_s (show i < B.length by omega), if_pos hfr]; exact hu'
        have erow : xa_Book_struck (xNb X u' s) i = bitsP (skF (frM M (fc 0)) B i) 10 := by
          rw [show xa_Book_struck (xNb X u' s) i = bitsP (SKt (frM M (fc 0)) B i i) 10 from hu2 i (by omega)]
          apply bitsP_cong
          intro j _
          rw [skF, SKt_row (show i < B.length by omega) i (by omega), SKt_row (show i < B.length by omega) 0 (by omega)]
        rw [erow]
        refine mIx (ct_Text_lines o1 o2 (by show i < nTx X; rw [r1]; omega) hfc) (fun r X1 h => ?_)
        obtain ⟨hr, s', rfl⟩ := h
        rw [nmi]
        refine ih (by omega) _ u' s' hu2 ((hy.or hr).cong (fun v => ⟨fun h => ?_, fun ⟨i', h, c, h2⟩ => ?_⟩))
        · rcases h with ⟨i', h, h2⟩ | ⟨c, h, h2⟩
          · exact ⟨i', by omega, h2⟩
          · exact ⟨i, by omega, c, by omega, hfr, h, h2⟩
        · by_cases e : i' = i
          · subst e; exact Or.inr ⟨c, h2.2.2.1, h2.2.2.2⟩
          · exact Or.inl ⟨i', by omega, c, h2⟩
  exact outer B.length (Nat.le_refl _) _ _ _ fill0_bit (isB.zero (fun v ⟨i', h, c, h2⟩ => by have := h2.1; omega))
