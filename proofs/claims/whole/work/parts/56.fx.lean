/-! finds: the class -/
def hfO (M : StM) (o : Int32) (i : Nat) : Int32 := if o = -1 then a_findHand M i else o
theorem bitsP_andn {p p' : Nat → Bool} {n : Nat} : bitsP p n &&& (bitsP p' n ^^^ (-1)) = bitsP (fun j => p j && !p' j) n := by
  apply Int32.toBitVec_inj.1
  show BitVec.ofNat 32 (bitsN p n) &&& (BitVec.ofNat 32 (bitsN p' n) ^^^ BitVec.allOnes 32) = BitVec.ofNat 32 (bitsN (fun j => p j && !p' j) n)
  apply BitVec.eq_of_getLsbD_eq
  intro i hi
  simp only [BitVec.getLsbD_and, BitVec.getLsbD_xor, BitVec.getLsbD_ofNat, BitVec.getLsbD_allOnes, bitsN_tb, hi]
  cases decide (i < n) <;> cases p i <;> cases p' i <;> simp
theorem bitsP_any0 {p : Nat → Bool} {n j : Nat} (hn : n ≤ 31) (hj : j < 31) : ((bitsP p n >>> (nI j &&& 31)) &&& 1 = 0) ↔ ¬ (j < n ∧ p j = true) := by
  rw [bitsP, bit_0 (bitsN_31 hn) hj, bitsN_tb]
  cases p j <;> simp
theorem linV_ne {B : BkT} {M : StM} {fc : Nat → Int32} : ¬ linV B M fc = -1 := by
  rw [linV]
  split
  · decide
  · rw [bitsP]; exact nI_ne1 (bitsN_31 (by omega))
theorem pServes_iff {X : StX} {M : StM} (hD : RDg X M) {e : Nat} (he : e < nD M) {h u l t : Int32} (ht : t ≤ 9999) : pServes X (nI e) h u l t = true ↔ a_digHand M e = h ∧ ¬ a_digKind M e = 2 ∧ a_digTop M e ≤ l ∧ u ≤ a_digBottom M e ∧ mKnown M (nI e) t = true := by
  have h100 := hD.n.2
  rw [pServes, pKnown_eq hD he ht, ixn (by omega), hD.1.2.1, hD.1.2.2.1, hD.1.2.2.2.2.2.1, hD.1.2.2.2.2.2.2.1]
  simp only [Bool.and_eq_true, decide_eq_true_eq]
  constructor
  · rintro ⟨⟨⟨⟨h1, h2⟩, h3⟩, h4⟩, h5⟩; exact ⟨h1, h2, h3, h4, h5⟩
  · rintro ⟨h1, h2, h3, h4, h5⟩; exact ⟨⟨⟨⟨h1, h2⟩, h3⟩, h4⟩, h5⟩
def dgJ (M : StM) (i f g : Nat) (t : Int32) (n : Nat) (u : Nat → Int32) : Prop := ∀ j, f + j ≤ g → u j = bitsP (fun p => dcd (dugD M i p (nI (f + j)) t n)) (nP M)
theorem ct_Finds_gatherDug {E : EvT} {q : Nat → Nat} {d : Nat} {B : BkT} {X : StX} {M : StM} (hF : FH B X M) {i f g : Nat} (hi : i < nFi M) (e1 : a_findFrom M i = nI f) (e2 : a_findTo M i = nI g) (fg : f ≤ g) (g19 : g ≤ f + 19) (g9 : g ≤ 9999) {t : Int32} (ht : t ≤ 9999) : C_Finds_gatherDug E q (d + 2) (nI i) t X (fun X1 => keptX X X1 ∧ dgJ M i f g t (nD M) (xa_Finds_dugIn X1)) := by
  obtain ⟨hG, hP, hD, hMe, hFi, hR⟩ := hF
  obtain ⟨ef, f150⟩ := hFi.n
  obtain ⟨en, n100⟩ := hD.n
  have bi : (0 : Int32) ≤ nI i ∧ nI i < 150 := bnd (n := 150) (by omega) (by omega) rfl
  refine en_Finds_gatherDug ?_
  refine up_s (W := nD M) (T := fun e Y => T_Finds_gatherDug_10 E q (d + 2) (fun X1 => keptX X X1 ∧ dgJ M i f g t (nD M) (xa_Finds_dugIn X1)) Y (nI i) t (nI e)) (J := fun e Y => keptX X Y ∧ dgJ M i f g t e (xa_Finds_dugIn Y)) ?_ ?_ 0 _ (by omega) ⟨(keptX.rf X).xA rfl _, fun j hj => ?_⟩
  · rintro Y ⟨hk, hJ⟩
    exact sg_Finds_gatherDug_10 ⟨fun _ => ⟨hk, hJ⟩, fun z => absurd (by rw [show xs_Digs_size Y = xs_Digs_size X from hk.s rfl, hD.1.1, en]; exact Int32.le_refl _) z⟩
  · rintro e Y he ⟨hk, hJ⟩ kk
    have hDY : RDg Y M := hk.to (fun Y => RDg Y M) hD
    have be : (0 : Int32) ≤ nI e ∧ nI e < 100 := bnd (n := 100) (by omega) (by omega) rfl
    have c2 : xa_Finds_hand Y = a_findHand M := (hk.a rfl).trans hFi.1.2.1
    have c3 : xa_Finds_from Y = a_findFrom M := (hk.a rfl).trans hFi.1.2.2.1
    have c4 : xa_Finds_to Y = a_findTo M := (hk.a rfl).trans hFi.1.2.2.2.1
    have c6 : xa_Finds_top Y = a_findTop M := (hk.a rfl).trans hFi.1.2.2.2.2.2.1
    have c7 : xa_Finds_bottom Y = a_findBottom M := (hk.a rfl).trans hFi.1.2.2.2.2.2.2.1
    have c8 : xa_Digs_from Y = a_digFrom M := (hk.a rfl).trans hD.1.2.2.2.2.2.2.2.1
    have c9 : xa_Digs_to Y = a_digTo M := (hk.a rfl).trans hD.1.2.2.2.2.2.2.2.2.1
    obtain ⟨g1, g2, g3, g4, ⟨g5, g6, g7⟩, g8, g10, g11⟩ := hD.2.2.1 e he
    have c10 : xa_Digs_touched Y e = bitsP (meetsP M (a_digA M e) (a_digB M e)) (nP M) := by rw [show xa_Digs_touched Y = xa_Digs_touched X from hk.a rfl]; exact g11
    have t0 : (0 : Int32) ≤ a_digTo M e := Int32.le_trans g5 g6
    have ea := (nix g5).symm
    have eb := (nix t0).symm
    have lb := ix_le (n := 9999) t0 g7 (by omega)
    have lab := le_ix g5 g6
    generalize ix (a_digFrom M e) = a0 at ea lab
    generalize ix (a_digTo M e) = b0 at eb lb lab
    refine sg_Finds_gatherDug_10 ⟨fun z => absurd z (by rw [show xs_Digs_size Y = xs_Digs_size X from hk.s rfl, hD.1.1, en]; exact nI_ge he (by omega)), fun _ => ⟨bi, be, ?_⟩⟩
    rw [ixn (show i < 2 ^ 31 by omega), ixn (show e < 2 ^ 31 by omega), c2, c3, c4, c6, c7, c8, c9, e1, e2, ea, eb, nI_s]
    have stp : ∀ j p, dugD M i p (nI (f + j)) t (e + 1) ↔ (dugD M i p (nI (f + j)) t e ∨ dugC M i p (nI (f + j)) t e) := by
      intro j p
      constructor
      · rintro ⟨e', h, h2⟩
        by_cases y : e' = e
        · subst y; exact Or.inr h2
        · exact Or.inl ⟨e', by omega, h2⟩
      · rintro (⟨e', h, h2⟩ | h)
        · exact ⟨e', by omega, h2⟩
        · exact ⟨e, by omega, h⟩
    refine ⟨fun z => kk Y ⟨hk, fun j hj => ?_⟩, fun z => ⟨be, ?_⟩⟩
    · rw [hJ j hj]
      apply bitsP_cong
      intro p _
      refine dcd_c ?_
      rw [stp]
      constructor
      · exact Or.inl
      · rintro (h | h)
        · exact h
        · have := (pServes_iff hDY he ht).mpr ⟨h.2.2.1, h.2.1, h.2.2.2.2.1, h.2.2.2.2.2.1, h.1⟩
          rw [this] at z; cases z
    · obtain ⟨z1, z2, z3, z4, z5⟩ := (pServes_iff hDY he ht).mp z
      have dC : ∀ j p, f + j ≤ g → (dugC M i p (nI (f + j)) t e ↔ (a0 ≤ f + j ∧ f + j ≤ b0) ∧ meetsP M (a_digA M e) (a_digB M e) p = true) := by
        intro j p hj
        constructor
        · intro h
          have := h.2.2.2.1
          rw [ea, eb, mIn_n (by omega) (by omega) (by omega)] at this
          exact ⟨this, h.2.2.2.2.2.2⟩
        · rintro ⟨h, h2⟩
          exact ⟨z5, z2, z1, by rw [ea, eb, mIn_n (by omega) (by omega) (by omega)]; exact h, z3, z4, h2⟩
      have emin : jMin (nI g) (nI b0) = nI (min g b0) := by
        by_cases y : b0 < g
        · rw [jMin, if_pos (nI_lt y (by omega)), Nat.min_eq_right (by omega)]
        · rw [jMin, if_neg (nI_nlt (by omega) (by omega)), Nat.min_eq_left (by omega)]
      have emax : jMax (nI f) (nI a0) = nI (max f a0) := by
        by_cases y : f < a0
        · rw [jMax, if_pos (nI_lt y (by omega)), Nat.max_eq_right (by omega)]
        · rw [jMax, if_neg (nI_nlt (by omega) (by omega)), Nat.max_eq_left (by omega)]
      rw [emin, emax]
      have loop : ∀ m c Y, c + m = min g b0 + 1 ∨ (min g b0 + 1 ≤ c ∧ m = 0) → max f a0 ≤ c → c ≤ 10000 → keptX X Y → (∀ j, f + j ≤ g → xa_Finds_dugIn Y j = bitsP (fun p => dcd (dugD M i p (nI (f + j)) t e ∨ ((a0 ≤ f + j ∧ f + j ≤ b0 ∧ f + j < c) ∧ meetsP M (a_digA M e) (a_digB M e) p = true))) (nP M)) → T_Finds_gatherDug_91 E q (d + 2) (fun X1 => keptX X X1 ∧ dgJ M i f g t (nD M) (xa_Finds_dugIn X1)) Y (nI i) t (nI e) (nI (min g b0)) (nI c) := by
        intro m
        induction m with
        | zero =>
          intro c Y hc hmc c4 hk hJ
          · refine sg_Finds_gatherDug_91 ⟨fun _ => ?_, fun z => absurd (nI_lt (by omega) (by omega)) z⟩
            rw [nI_s]
            refine kk Y ⟨hk, fun j hj => ?_⟩
            rw [hJ j hj]
            apply bitsP_cong
            intro p _
            refine dcd_c ?_
            rw [stp, dC j p hj]
            constructor
            · rintro (h | ⟨⟨h1, h2, h3⟩, h4⟩)
              · exact Or.inl h
              · exact Or.inr ⟨⟨h1, h2⟩, h4⟩
            · rintro (h | ⟨⟨h1, h2⟩, h4⟩)
              · exact Or.inl h
              · exact Or.inr ⟨⟨h1, h2, by omega⟩, h4⟩
        | succ m ih =>
          intro c Y hc hmc c4 hk hJ
          have hc : c + (m + 1) = min g b0 + 1 := by omega
          have c3 : xa_Finds_from Y = a_findFrom M := (hk.a rfl).trans hFi.1.2.2.1
          have c10 : xa_Digs_touched Y e = bitsP (meetsP M (a_digA M e) (a_digB M e)) (nP M) := by rw [show xa_Digs_touched Y = xa_Digs_touched X from hk.a rfl]; exact g11
          refine sg_Finds_gatherDug_91 ⟨fun z => absurd z (nI_nlt (by omega) (by omega)), fun _ => ?_⟩
          rw [ixn (show i < 2 ^ 31 by omega), ixn (show e < 2 ^ 31 by omega), c3, e1, pk_sub (show f ≤ c by omega), ixn (show c - f < 2 ^ 31 by omega), c10, nI_s]
          refine ⟨bi, bnd (n := 20) (by omega) (by omega) rfl, be, ih (c + 1) _ (by omega) (by omega) (by omega) (hk.xA rfl _) (fun j hj => ?_)⟩
          show upd (xa_Finds_dugIn Y) (c - f) _ j = _
          by_cases ej : j = c - f
          · subst ej
            rw [upd_eq, hJ _ hj, bitsP_oo]
            apply bitsP_cong
            intro p _
            rw [Bool.eq_iff_iff, Bool.or_eq_true, dcd_t, dcd_t]
            constructor
            · rintro ((h | ⟨⟨h1, h2, h3⟩, h4⟩) | h)
              · exact Or.inl h
              · exact Or.inr ⟨⟨h1, h2, by omega⟩, h4⟩
              · exact Or.inr ⟨⟨by omega, by omega, by omega⟩, h⟩
            · rintro (h | ⟨⟨h1, h2, h3⟩, h4⟩)
              · exact Or.inl (Or.inl h)
              · exact Or.inr h4
          · rw [upd_ne ej, hJ j hj]
            apply bitsP_cong
            intro p _
            refine dcd_c ?_
            constructor
            · rintro (h | ⟨⟨h1, h2, h3⟩, h4⟩)
              · exact Or.inl h
              · exact Or.inr ⟨⟨h1, h2, by omega⟩, h4⟩
            · rintro (h | ⟨⟨h1, h2, h3⟩, h4⟩)
              · exact Or.inl h
              · exact Or.inr ⟨⟨h1, h2, by omega⟩, h4⟩
      refine loop (min g b0 + 1 - max f a0) (max f a0) Y (by omega) (Nat.le_refl _) (by omega) hk (fun j hj => ?_)
      rw [hJ j hj]
      apply bitsP_cong
      intro p _
      refine dcd_c ?_
      constructor
      · exact Or.inl
      · rintro (h | ⟨⟨h1, h2, h3⟩, h4⟩)
        · exact h
        · omega
  · show fillF 20 0 (xa_Finds_dugIn X) j = _
    rw [fillF, if_pos (by omega)]
    exact ((bitsP_0 (by have := hP.n.2; omega)).mpr (fun p _ => dcd_f.mpr (fun ⟨e, he, _⟩ => absurd he (Nat.not_lt_zero e)))).symm
