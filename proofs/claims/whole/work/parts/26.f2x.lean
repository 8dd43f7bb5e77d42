/-! the class's ground -/
theorem pKnown_eq {X : StX} {M : StM} (hD : RDg X M) {i : Nat} (hi : i < nD M) {t : Int32} (ht : t ≤ 9999) : pKnown X (nI i) t = mKnown M (nI i) t := by
  obtain ⟨d1, d2, d3, d4⟩ := hD
  obtain ⟨g1, g2, g3, g4, g5, g6, g7, g8⟩ := d3 i hi
  have h100 : nD M ≤ 100 := (RDg.n ⟨d1, d2, d3, d4⟩).2
  rw [pKnown, mKnown, ixn (by omega), d1.2.2.2.2.2.2.2.2.2]
  rcases g7 with ⟨e1, e2⟩ | ⟨e1, e2, e3⟩
  · rw [e1, e2]
    have : t < 10000 := by grind
    simp [this]
  · rw [e3]
    have : ¬ a_digStruck M i = -1 := by grind
    simp [this]
theorem pCuts_eq {X : StX} {M : StM} (hB : RB X M) (hD : RDg X M) {i : Nat} (hi : i < nD M) {c l : Int32} (hc : mCell M c = true) : pCuts X (nI i) c l = mHas M (nI i) c l := by
  have h100 : nD M ≤ 100 := hD.n.2
  obtain ⟨d1, d2, d3, d4⟩ := hD
  obtain ⟨g1, g2, g3, g4, g5, g6, g7, g8⟩ := d3 i hi
  obtain ⟨ew, w4, w10⟩ := hB.w
  obtain ⟨eh, h4, h10⟩ := hB.h
  obtain ⟨-, wh, w0⟩ := hB.wh
  obtain ⟨k, hk, rfl⟩ := (mCell_n ew eh w10 h10).mp hc
  obtain ⟨u, v, e1, e2, ok2⟩ := (mRect_n ew eh w0 w10 h10).mp g1
  have b3 : u < 2 ^ 31 := by have := ok2.1; omega
  have b4 : v < 2 ^ 31 := by have := ok2.2.1; omega
  have z : pMeet X (nI k) (nI k) (a_digA M i) (a_digB M i) = mIsIn M (nI k) (a_digA M i) (a_digB M i) := by
    rw [Bool.eq_iff_iff, e1, e2, pMeet_n hB.xw w0 w10 (by omega) (by omega) b3 b4, mIsIn_n ew w0 w10 b3 b4 (by omega), meet_one]
  rw [pCuts, mHas, ixn (by omega), d1.2.2.2.1, d1.2.2.2.2.1, d1.2.2.2.2.2.1, d1.2.2.2.2.2.2.1, z, mIn]
  rw [Bool.eq_iff_iff]
  simp only [Bool.and_eq_true, decide_eq_true_eq]
  constructor
  · rintro ⟨⟨h1, h2⟩, h3⟩
    exact ⟨h3, h1, h2⟩
  · rintro ⟨h3, h1, h2⟩
    exact ⟨⟨h1, h2⟩, h3⟩
def oX (X : StX) : Nat → Nat := fun j => ix (xa_Digs_order X j)
theorem RDg.lex {X : StX} {M : StM} (hD : RDg X M) : LexO (oX X) (a_digFrom M) (nD M) := hD.2.2.2.lex hD.n.2
theorem oX_ord {X : StX} {M : StM} (hD : RDg X M) {j : Nat} (hj : j < nD M) : xa_Digs_order X j = nI (oX X j) ∧ oX X j < nD M := by
  obtain ⟨i, hi, e⟩ := hD.2.2.2.1 j hj
  have h100 : nD M ≤ 100 := hD.n.2
  have hi' : i < nD M := hi
  refine ⟨?_, ?_⟩
  · show _ = nI (ix (xa_Digs_order X j))
    rw [e, ixn (by omega)]
  · show ix (xa_Digs_order X j) < _
    rw [e, ixn (by omega)]
    exact hi'
theorem sel_late {X : StX} {M : StM} (hD : RDg X M) {c l w t : Int32} {j : Nat} (hj : j < nD M) (hw : w < a_digFrom M (oX X j)) : ∀ i, j ≤ i → i < nD M → selG M c l w t (oX X i) = false := by
  intro i h1 h2
  have : ¬ a_digFrom M (oX X i) ≤ w := by
    rcases Nat.lt_or_eq_of_le h1 with q | q
    · rcases hD.lex.2.2 j i q h2 with r | r
      · exact Int32.not_le.mpr (Int32.lt_trans hw r)
      · rw [← r.1]; exact Int32.not_le.mpr hw
    · subst q
      exact Int32.not_le.mpr hw
  simp [selG, this]
theorem ct_Digs_state {E : EvT} {q : Nat → Nat} {d : Nat} {X : StX} {M : StM} (hB : RB X M) (hD : RDg X M) {c l w t : Int32} (hc : mCell M c = true) (ht : t ≤ 9999) : C_Digs_state E q (d + 3) c l w t X (fun r X1 => r = (gF (oX X) (selG M c l w t) (a_digKind M) (nD M)).1 ∧ X1 = X) := by
  obtain ⟨en, n100⟩ := hD.n
  have hn : xs_Digs_size X = nI (nD M) := hD.1.1.trans en
  refine en_Digs_state ?_
  refine up_s (W := nD M) (T := fun j y => T_Digs_state_6 E q (d + 3) (fun r X1 => r = (gF (oX X) (selG M c l w t) (a_digKind M) (nD M)).1 ∧ X1 = X) X c l w t y (nI j)) (J := fun j y => y = (gF (oX X) (selG M c l w t) (a_digKind M) j).1) ?_ ?_ 0 0 (by omega) rfl
  · intro y hy
    exact sg_Digs_state_6 ⟨fun _ => ⟨hy, rfl⟩, fun z => absurd (by rw [hn]; exact Int32.le_refl _) z⟩
  · intro j y hj hy k
    obtain ⟨eo, lo⟩ := oX_ord hD hj
    have bo : (0 : Int32) ≤ nI (oX X j) ∧ nI (oX X j) < 100 := bnd (n := 100) (by omega) (by omega) rfl
    refine sg_Digs_state_6 ⟨fun z => absurd z (nle_nI hj (by omega) hn), fun _ => ⟨bnd (n := 100) (by omega) (by omega) rfl, ?_⟩⟩
    rw [ixn (show j < 2 ^ 31 by omega), eo, ixn (show oX X j < 2 ^ 31 by omega), nI_s, pKnown_eq hD lo ht, pCuts_eq hB hD lo hc, hD.1.2.2.2.2.2.2.2.1, hD.1.2.2.1]
    refine ⟨bo, fun e1 => ⟨?_, rfl⟩, fun e1 => ⟨bo, fun e2 => k _ ?_, fun e2 => ⟨fun e3 => k _ ?_, fun e3 => k _ ?_⟩⟩⟩
    · have := gF_skip (o := oX X) (kd := a_digKind M) (j := j) (nD M - j) (fun i h1 h2 => sel_late (c := c) (l := l) (t := t) hD hj e1 i h1 (by omega))
      rw [show j + (nD M - j) = nD M by omega] at this
      rw [this]
      exact hy
    · rw [gF, if_neg (by simp [selG, e2])]
      exact hy
    · rw [gF, if_neg (by simp [selG, e3])]
      exact hy
    · have e1' : a_digFrom M (oX X j) ≤ w := Int32.not_lt.mp e1
      rw [gF, if_pos (by simp [selG, e2, e3, e1']), hy]
theorem gF_first {o : Nat → Nat} {sel : Nat → Bool} {kd : Nat → Int32} {n : Nat} (hkd : ∀ i, i < n → 0 ≤ kd (o i) ∧ kd (o i) ≤ 2) : ∀ j, j ≤ n → ((∀ i, i < j → sel (o i) = true → kd (o i) = 2) ∧ gF o sel kd j = (0, -1)) ∨ (∃ i, i < j ∧ sel (o i) = true ∧ ¬ kd (o i) = 2 ∧ (∀ m, m < i → sel (o m) = true → kd (o m) = 2) ∧ ¬ (gF o sel kd j).1 = 0 ∧ (gF o sel kd j).2 = nI (o i)) := by
  intro j
  induction j with
  | zero => exact fun _ => Or.inl ⟨fun i hi => absurd hi (by omega), rfl⟩
  | succ j ih =>
    intro hjn
    have ih := ih (by omega)
    have hkj := hkd j (by omega)
    by_cases hs : sel (o j) = true
    · rcases ih with ⟨h1, h2⟩ | ⟨i, hi, h1, h2, h3, h4, h5⟩
      · by_cases hk : kd (o j) = 2
        · refine Or.inl ⟨fun i hi hsi => ?_, ?_⟩
          · by_cases z : i = j
            · subst z; exact hk
            · exact h1 i (by omega) hsi
          · rw [gF, if_pos hs, h2, hk]
            rfl
        · refine Or.inr ⟨j, by omega, hs, hk, fun m hm hsm => h1 m hm hsm, ?_, ?_⟩
          · rw [gF, if_pos hs, h2]
            show ¬ pAfter 0 (kd (o j)) = 0
            grind [pAfter]
          · rw [gF, if_pos hs, h2]
            show (if (0 : Int32) = 0 ∧ ¬ kd (o j) = 2 then nI (o j) else (-1 : Int32)) = nI (o j)
            rw [if_pos ⟨rfl, hk⟩]
      · refine Or.inr ⟨i, by omega, h1, h2, h3, ?_, ?_⟩
        · rw [gF, if_pos hs]
          show ¬ pAfter (gF o sel kd j).1 (kd (o j)) = 0
          grind [pAfter]
        · rw [gF, if_pos hs]
          show (if (gF o sel kd j).1 = 0 ∧ ¬ kd (o j) = 2 then nI (o j) else (gF o sel kd j).2) = nI (o i)
          rw [if_neg (fun z => h4 z.1)]
          exact h5
    · rw [gF, if_neg hs]
      rcases ih with ⟨h1, h2⟩ | ⟨i, hi, h1, h2⟩
      · refine Or.inl ⟨fun i hi hsi => ?_, h2⟩
        by_cases z : i = j
        · subst z; exact absurd hsi hs
        · exact h1 i (by omega) hsi
      · exact Or.inr ⟨i, by omega, h1, h2⟩
def firstG (g : Int32 × Int32) : Int32 := if g.1 = 0 then -1 else g.2
theorem ct_Digs_opener {E : EvT} {q : Nat → Nat} {d : Nat} {X : StX} {M : StM} (hB : RB X M) (hD : RDg X M) {c l w t : Int32} (hc : mCell M c = true) (ht : t ≤ 9999) : C_Digs_opener E q (d + 3) c l w t X (fun r X1 => r = firstG (gF (oX X) (selG M c l w t) (a_digKind M) (nD M)) ∧ X1 = X) := by
  obtain ⟨en, n100⟩ := hD.n
  have hn : xs_Digs_size X = nI (nD M) := hD.1.1.trans en
  refine en_Digs_opener ?_
  have hnone : (∀ i, i < nD M → selG M c l w t (oX X i) = true → a_digKind M (oX X i) = 2) → (-1 : Int32) = firstG (gF (oX X) (selG M c l w t) (a_digKind M) (nD M)) := by
    intro h
    rcases gF_first (o := oX X) (sel := selG M c l w t) (kd := a_digKind M) (n := nD M) (fun i hi => (hD.2.2.1 _ (oX_ord hD hi).2).2.1) (nD M) (Nat.le_refl _) with ⟨-, h2⟩ | ⟨i, hi, h1, h2, -⟩
    · rw [h2]; rfl
    · exact absurd (h i hi h1) h2
  refine up_l (W := nD M) (T := fun j => T_Digs_opener_3 E q (d + 3) (fun r X1 => r = firstG (gF (oX X) (selG M c l w t) (a_digKind M) (nD M)) ∧ X1 = X) X c l w t (nI j)) (J := fun j => ∀ i, i < j → selG M c l w t (oX X i) = true → a_digKind M (oX X i) = 2) ?_ ?_ 0 (by omega) (fun i hi => absurd hi (by omega))
  · intro hJ
    exact sg_Digs_opener_3 ⟨fun _ => ⟨hnone hJ, rfl⟩, fun z => absurd (by rw [hn]; exact Int32.le_refl _) z⟩
  · intro j hj hJ k
    obtain ⟨eo, lo⟩ := oX_ord hD hj
    have bo : (0 : Int32) ≤ nI (oX X j) ∧ nI (oX X j) < 100 := bnd (n := 100) (by omega) (by omega) rfl
    have ext : (selG M c l w t (oX X j) = true → a_digKind M (oX X j) = 2) → ∀ i, i < j + 1 → selG M c l w t (oX X i) = true → a_digKind M (oX X i) = 2 := by
      intro h i hi hs
      by_cases z : i = j
      · subst z; exact h hs
      · exact hJ i (by omega) hs
    refine sg_Digs_opener_3 ⟨fun z => absurd z (nle_nI hj (by omega) hn), fun _ => ⟨bnd (n := 100) (by omega) (by omega) rfl, ?_⟩⟩
    rw [ixn (show j < 2 ^ 31 by omega), eo, ixn (show oX X j < 2 ^ 31 by omega), nI_s, pKnown_eq hD lo ht, pCuts_eq hB hD lo hc, hD.1.2.2.2.2.2.2.2.1, hD.1.2.2.1]
    refine ⟨bo, fun e1 => ⟨hnone (fun i hi hs => ?_), rfl⟩, fun e1 => ⟨fun e2 => k (ext (fun _ => e2)), fun e2 => ⟨bo, fun e3 => k (ext (fun hs => by simp [selG, e3] at hs)), fun e3 => ⟨fun e4 => k (ext (fun hs => by simp [selG, e4] at hs)), fun e4 => ⟨?_, rfl⟩⟩⟩⟩⟩
    · rcases Nat.lt_or_ge i j with z | z
      · exact hJ i z hs
      · rw [sel_late (c := c) (l := l) (t := t) hD hj e1 i z hi] at hs
        cases hs
    · have e1' : a_digFrom M (oX X j) ≤ w := Int32.not_lt.mp e1
      have hs : selG M c l w t (oX X j) = true := by simp [selG, e3, e4, e1']
      rcases gF_first (o := oX X) (sel := selG M c l w t) (kd := a_digKind M) (n := nD M) (fun i hi => (hD.2.2.1 _ (oX_ord hD hi).2).2.1) (nD M) (Nat.le_refl _) with ⟨h1, -⟩ | ⟨i, hi, h1, h2, h3, h4, h5⟩
      · exact absurd (h1 j hj hs) e2
      · rw [firstG, if_neg h4, h5]
        have : i = j := by
          rcases Nat.lt_trichotomy i j with z | z | z
          · exact absurd (hJ i z h1) h2
          · exact z
          · exact absurd (h3 j z hs) e2
        rw [this]
/-! ground and first, both sides -/
def mSame (M M1 : StM) : Prop := ∃ f, M1 = sI M 20 f
def groundV (X : StX) (M : StM) (c l w t : Int32) : Int32 × Int32 := gF (oX X) (selG M c l w t) (a_digKind M) (nD M)
theorem ctM_groundOf {E : EvT} {q : Nat → Nat} {d : Nat} {X : StX} {M : StM} (hB : RB X M) (hD : RDg X M) (c l w t : Int32) : C_groundOf E q (d + 3) c l w t M (fun r M1 => r = (groundV X M c l w t).1 ∧ M1 = sI M 20 (groundV X M c l w t).2) :=
  ct_groundOf hD.n.1 hD.n.2 hB.wne hD.lex (fun i hi => (hD.2.2.1 i hi).2.1) (fun i hi => (hD.2.2.1 i hi).2.2.2.2.1.1) c l w t
theorem mGround_iff {X : StX} {M : StM} (hB : RB X M) {c l w t : Int32} : mGround M c l w t = (pSpot X c l && mWeek w && mWeek t) := by rw [mGround, pSpot, pCell_eq hB]
theorem ct_ground {E : EvT} {q : Nat → Nat} {d : Nat} {X : StX} {M : StM} (hB : RB X M) (hD : RDg X M) (c l w t : Int32) : C_ground E q (d + 4) c l w t M (fun r M1 => r = (if mGround M c l w t = true then (groundV X M c l w t).1 else -1) ∧ (M1 = M ∨ M1 = sI M 20 (groundV X M c l w t).2)) := by
  refine en_ground ⟨fun e => ⟨by rw [if_neg (by rw [e]; decide)], Or.inl rfl⟩, fun e => mI (ctM_groundOf hB hD c l w t) (fun r M1 h => ?_)⟩
  obtain ⟨rfl, rfl⟩ := h
  exact ⟨by rw [if_pos e], Or.inr rfl⟩
theorem ct_City_ground {E : EvT} {q : Nat → Nat} {d : Nat} {X : StX} {M : StM} (hB : RB X M) (hD : RDg X M) (c l w t : Int32) : C_City_ground E q (d + 4) c l w t X (fun r X1 => r = (if mGround M c l w t = true then (groundV X M c l w t).1 else -1) ∧ X1 = X) := by
  rw [mGround_iff hB]
  refine en_City_ground ⟨fun e => ⟨by rw [e]; rfl, rfl⟩, fun e1 => ⟨fun e => ⟨by rw [e]; simp, rfl⟩, fun e2 => ⟨fun e => ⟨by rw [e]; simp, rfl⟩, fun e3 => ?_⟩⟩⟩
  rw [e1, e2, e3]
  have hc : mCell M c = true := by
    rw [pSpot, pCell_eq hB, Bool.and_eq_true] at e1
    exact e1.1
  refine mIx (ct_Digs_state hB hD hc (by rw [mWeek, decide_eq_true_eq] at e3; exact e3.2)) (fun r X1 h => ?_)
  obtain ⟨rfl, rfl⟩ := h
  exact ⟨rfl, rfl⟩
theorem ct_first {E : EvT} {q : Nat → Nat} {d : Nat} {X : StX} {M : StM} (hB : RB X M) (hD : RDg X M) (c l w t : Int32) : C_first E q (d + 4) c l w t M (fun r M1 => r = (if mGround M c l w t = true then firstG (groundV X M c l w t) else -1) ∧ (M1 = M ∨ M1 = sI M 20 (groundV X M c l w t).2)) := by
  refine en_first ⟨fun e => ⟨by rw [if_neg (by rw [e]; decide)], Or.inl rfl⟩, fun e => mI (ctM_groundOf hB hD c l w t) (fun r M1 h => ?_)⟩
  obtain ⟨rfl, rfl⟩ := h
  rw [if_pos e]
  exact ⟨fun z => ⟨by rw [firstG, if_pos z], Or.inr rfl⟩, fun z => ⟨by rw [firstG, if_neg z]; rfl, Or.inr rfl⟩⟩
theorem ct_City_first {E : EvT} {q : Nat → Nat} {d : Nat} {X : StX} {M : StM} (hB : RB X M) (hD : RDg X M) (c l w t : Int32) : C_City_first E q (d + 4) c l w t X (fun r X1 => r = (if mGround M c l w t = true then firstG (groundV X M c l w t) else -1) ∧ X1 = X) := by
  rw [mGround_iff hB]
  refine en_City_first ⟨fun e => ⟨by rw [e]; rfl, rfl⟩, fun e1 => ⟨fun e => ⟨by rw [e]; simp, rfl⟩, fun e2 => ⟨fun e => ⟨by rw [e]; simp, rfl⟩, fun e3 => ?_⟩⟩⟩
  rw [e1, e2, e3]
  have hc : mCell M c = true := by
    rw [pSpot, pCell_eq hB, Bool.and_eq_true] at e1
    exact e1.1
  refine mIx (ct_Digs_opener hB hD hc (by rw [mWeek, decide_eq_true_eq] at e3; exact e3.2)) (fun r X1 h => ?_)
  obtain ⟨rfl, rfl⟩ := h
  exact ⟨rfl, rfl⟩
