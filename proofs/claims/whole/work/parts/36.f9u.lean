/-! stood: the reference -/
theorem FL.uni {h : Nat → Bool} {n f l f' l' : Nat} (A : FL h n f l) (B : FL h n f' l') : f = f' ∧ l = l' := by
  obtain ⟨a1, a2, a3, a4, a5, a6⟩ := A
  obtain ⟨b1, b2, b3, b4, b5, b6⟩ := B
  constructor
  · rcases Nat.lt_trichotomy f f' with z | z | z
    · exact absurd ((b3 f z).symm.trans a2) (by decide)
    · exact z
    · exact absurd ((a3 f' z).symm.trans b2) (by decide)
  · rcases Nat.lt_trichotomy l l' with z | z | z
    · exact absurd ((a6 l' z b4).symm.trans b5) (by decide)
    · exact z
    · exact absurd ((b6 l z a4).symm.trans a5) (by decide)
theorem ct_stood_163 {E : EvT} {q : Nat → Nat} {d : Nat} {M : StM} {h : Nat → Bool} {f what : Int32} {P : Int32 → StM → Prop} {n l : Nat} {fs : Nat} (n100 : n ≤ 100) (hl : l < n) (hfl : fs ≤ l) (hh : ∀ j, j < n → mShows M (nI j) f = h j) (hb : ∀ j, j < n → 0 ≤ a_lookOf M j ∧ a_lookOf M j < 100) (hhl : h l = true) (hlow : h fs = true) (h1 : (∀ i, fs ≤ i → i < l → h i = true) → P (-1) M) (h2 : ∀ b c, fs ≤ b → b < c → c ≤ l → h b = false → (∀ i, fs ≤ i → i < b → h i = true) → h c = true → (∀ i, b ≤ i → i < c → h i = false) → P (if what = 2 then a_lookOf M b else a_lookOf M c) M) : T_stood_163 E q (d + 1) P M f what (nI l) (nI fs) := by
  have bj : ∀ j, j < n → (0 ≤ nI j ∧ nI j < 100) ∧ 0 ≤ a_lookOf M (ix (nI j)) ∧ a_lookOf M (ix (nI j)) < 100 := by
    intro j hj
    rw [ixn (by omega)]
    exact ⟨bnd (n := 100) (by omega) (by omega) rfl, hb j hj⟩
  have two : ∀ b, fs ≤ b → b < l → h b = false → (∀ i, fs ≤ i → i < b → h i = true) → ∀ m c, c + m = l → b ≤ c → (∀ i, b ≤ i → i < c → h i = false) → T_stood_202 E q (d + 1) P M f what (nI b) (nI c) := by
    intro b hb1 hb2 hb3 hb4 m
    induction m with
    | zero =>
      intro c hc hbc hs
      have : c = l := by omega
      subst this
      refine sg_stood_202 ⟨bj c hl, fun _ => ?_, fun z => absurd z (by rw [hh c hl, hhl]; decide)⟩
      have := h2 b c hb1 (by omega) (Nat.le_refl _) hb3 hb4 hhl hs
      refine ⟨fun z => ⟨(bj c hl).1, ?_⟩, fun z => ⟨(bj b (by omega)).1, ?_⟩⟩
      · rw [if_neg z] at this; rw [ixn (by omega)]; exact this
      · rw [if_pos z] at this; rw [ixn (by omega)]; exact this
    | succ m ih =>
      intro c hc hbc hs
      refine sg_stood_202 ⟨bj c (by omega), fun z => ?_, fun z => ?_⟩
      · rw [hh c (by omega)] at z
        have hbc' : b < c := by
          rcases Nat.lt_or_eq_of_le hbc with y | y
          · exact y
          · subst y; rw [hb3] at z; cases z
        have := h2 b c hb1 hbc' (by omega) hb3 hb4 z hs
        refine ⟨fun z => ⟨(bj c (by omega)).1, ?_⟩, fun z => ⟨(bj b (by omega)).1, ?_⟩⟩
        · rw [if_neg z] at this; rw [ixn (by omega)]; exact this
        · rw [if_pos z] at this; rw [ixn (by omega)]; exact this
      · rw [hh c (by omega)] at z
        rw [nI_s]
        refine ih (c + 1) (by omega) (by omega) (fun i h1 h2 => ?_)
        by_cases y : i = c
        · rw [y]; exact z
        · exact hs i h1 (by omega)
  have one : ∀ m b, b + m = l → fs ≤ b → (∀ i, fs ≤ i → i < b → h i = true) → T_stood_163 E q (d + 1) P M f what (nI l) (nI b) := by
    intro m
    induction m with
    | zero =>
      intro b hb1 hb2 hs
      have : b = l := by omega
      subst this
      exact sg_stood_163 ⟨fun _ => ⟨fun z => absurd rfl z, fun _ => h1 hs⟩, fun z => absurd (Int32.le_refl _) z⟩
    | succ m ih =>
      intro b hb1 hb2 hs
      refine sg_stood_163 ⟨fun z => absurd z (nle_nI (by omega) (by omega) rfl), fun _ => ⟨bj b (by omega), fun z => ?_, fun z => ?_⟩⟩
      · rw [hh b (by omega)] at z
        refine ⟨fun _ => two b hb2 (by omega) z hs (l - b) b (by omega) (Nat.le_refl _) (fun i h1 h2 => by omega), fun y => absurd ((nI_eq (by omega) (by omega)).mp y) (by omega)⟩
      · rw [hh b (by omega)] at z
        rw [nI_s]
        refine ih (b + 1) (by omega) (by omega) (fun i h1 h2 => ?_)
        by_cases y : i = b
        · rw [y]; exact z
        · exact hs i h1 (by omega)
  exact one (l - fs) fs (by omega) (Nat.le_refl _) (fun i h1 h2 => by omega)
theorem ct_stood {E : EvT} {q : Nat → Nat} {d : Nat} {X : StX} {M : StM} (hW : RWa X M) {w f t what r' : Int32} (hr : StR M w f t what r') : C_stood E q (d + 1) w f t what M (fun r M1 => r = r' ∧ ∃ a, M1 = sA M 87 a) := by
  obtain ⟨en, n100⟩ := hW.dr
  have bad : ¬ stOk M w f t what → (-1 = r' ∧ ∃ a, M = sA M 87 a) := fun z => ⟨(hr.1 z).symm, _, (sA_self M 87).symm⟩
  refine en_stood ⟨fun z => bad (fun y => by rw [y.1] at z; simp at z), fun o1 => ⟨fun z => bad (fun y => by rw [y.2.1] at z; simp at z), fun o2 => ⟨fun z => bad (fun y => by rw [y.2.2.1] at z; simp at z), fun o3 => ⟨fun o4 => ?_, fun z => bad (fun y => by rw [y.2.2.2] at z; simp at z)⟩⟩⟩⟩
  have ok : stOk M w f t what := ⟨o1, o2, o3, o4⟩
  have hw : what = 0 ∨ what = 1 ∨ what = 2 ∨ what = 3 := by
    have := o4
    simp [mIn] at this
    grind
  refine ct_looksAt hW _ (fun n a hn hL => ?_)
  obtain ⟨fl, ls, nl, qL, qH, R, er⟩ := hr.2 ok a n hn hL
  have hx : ∀ j, j < n → ∃ x, x < 100 ∧ a j = nI x ∧ ix (a j) = x ∧ x < nDr M := by
    intro j hj
    obtain ⟨x, hx, -, ex⟩ := hL.1 j hj
    exact ⟨x, by omega, ex, by rw [ex, ixn (by omega)], hx⟩
  have hb : ∀ j, j < n → 0 ≤ a_lookOf (sA M 87 a) j ∧ a_lookOf (sA M 87 a) j < 100 := by
    intro j hj
    obtain ⟨x, hx, ex, -⟩ := hx j hj
    show 0 ≤ a j ∧ a j < 100
    rw [ex]
    exact bnd (n := 100) hx (by omega) rfl
  have hh : ∀ j, j < n → mShows (sA M 87 a) (nI j) f = (fun j => shB M f (ix (a j))) j := by
    intro j hj
    rw [mShows, ixn (by omega)]
    rfl
  have wk : ∀ j, j < n → wkOf M (nI (ix (a j))) = a_drawWeek M (ix (a j)) := by
    intro j hj
    obtain ⟨x, hx, ex, ei, -⟩ := hx j hj
    rw [ei, wkOf, if_neg (nI_ne1 (by omega)), ixn (by omega)]
  have fin : ∀ r, r = stAns M what ls nl qL qH → r = r' ∧ ∃ b, sA M 87 a = sA M 87 b := fun r e => ⟨by rw [e, er], a, rfl⟩
  have key := up_s (W := n) (T := fun i (y : Int32 × Int32) => T_stood_54 E q (d + 1) (fun r M1 => r = r' ∧ ∃ a, M1 = sA M 87 a) (sA M 87 a) f what (nI n) y.1 y.2 (nI i)) (J := fun i y => ((∀ k, k < i → shB M f (ix (a k)) = false) ∧ y.1 = -1 ∧ y.2 = -1) ∨ ∃ f1 l1, FL (fun j => shB M f (ix (a j))) i f1 l1 ∧ y.1 = nI l1 ∧ y.2 = nI f1) ?_ ?_ 0 (-1, -1) (by omega) (Or.inl ⟨fun k hk => absurd hk (Nat.not_lt_zero k), rfl, rfl⟩)
  · exact key
  · rintro ⟨y6, y7⟩ hJ
    refine sg_stood_54 ⟨fun _ => ⟨fun c0 => ?_, fun c0 => ?_⟩, fun z => absurd (Int32.le_refl _) z⟩
    · rcases hJ with ⟨-, z, -⟩ | ⟨f1, l1, hF, e6, e7⟩
      · exact absurd z c0
      have e6 : y6 = nI l1 := e6
      have e7 : y7 = nI f1 := e7
      subst e6 e7
      rcases R with ⟨z, -⟩ | ⟨f2, l2, hF2, els, enl, eq⟩
      · have := z l1 hF.2.2.2.1
        rw [hF.2.2.2.2.1] at this
        cases this
      obtain ⟨rfl, rfl⟩ := hF.uni hF2
      obtain ⟨g1, g2, g3, g4, g5, g6⟩ := hF
      have hfl : f1 ≤ l1 := by
        rcases Nat.lt_or_ge l1 f1 with z | z
        · exact absurd ((g6 f1 z g1).symm.trans g2) (by decide)
        · exact z
      refine ⟨fun c1 => ⟨fun c2 => ?_, fun c2 => ⟨fun c3 => ?_, fun c3 => ?_⟩⟩, fun c1 => ?_⟩
      · refine ct_stood_163 (h := fun j => shB M f (ix (a j))) (n := n) (by omega) g4 hfl hh hb g5 g2 (fun A => fin _ ?_) (fun b c k1 k2 k3 k4 k5 k6 k7 => ?_)
        · have : qL = -1 ∧ qH = -1 := by
            rcases eq with ⟨-, -, e1, e2⟩ | ⟨b, b1, b2, b3, b4, -, b6⟩
            · exact ⟨e1, e2⟩
            · rcases b6 with ⟨-, e1, e2⟩ | ⟨c, d1, d2, d3, -⟩
              · exact ⟨e1, e2⟩
              · exfalso
                rcases Nat.lt_or_ge b l1 with y | y
                · exact absurd ((A b b1 y).symm.trans b3) (by decide)
                · rcases Nat.lt_or_eq_of_le d1 with x | x
                  · exact absurd ((g6 c (by omega) d2).symm.trans d3) (by decide)
                  · subst x; rw [b3] at d3; cases d3
          rw [stAns, if_neg c1, if_neg c2]
          split
          · exact this.1.symm
          · exact this.2.symm
        · rcases eq with ⟨A, -⟩ | ⟨b', b1, b2, b3, b4, -, b6⟩
          · exact absurd ((A b k1 (by omega)).symm.trans k4) (by decide)
          · have eb : b = b' := by
              rcases Nat.lt_trichotomy b b' with z | z | z
              · exact absurd ((b4 b k1 z).symm.trans k4) (by decide)
              · exact z
              · exact absurd ((k5 b' b1 z).symm.trans b3) (by decide)
            subst eb
            rcases b6 with ⟨A, -⟩ | ⟨c', d1, d2, d3, d4, d5, d6⟩
            · exact absurd ((A c (by omega) (by omega)).symm.trans k6) (by decide)
            · have ec : c = c' := by
                rcases Nat.lt_trichotomy c c' with z | z | z
                · exact absurd ((d4 c (by omega) z).symm.trans k6) (by decide)
                · exact z
                · exact absurd ((k7 c' d1 z).symm.trans d3) (by decide)
              subst ec
              refine fin _ ?_
              rw [stAns, if_neg c1, if_neg c2, d5, d6]
              obtain ⟨x, hx1, ex1, ei1, -⟩ := hx b (by omega)
              obtain ⟨y, hy1, ey1, ey2, -⟩ := hx c (by omega)
              show (if what = 2 then a b else a c) = (if what = 2 then nI (ix (a b)) else nI (ix (a c)))
              rw [ei1, ey2, ex1, ey1]
      · rw [nI_s] at c3
        rcases enl with ⟨u1, u2⟩ | ⟨u1, u2⟩
        · refine fin _ ?_
          rw [stAns, if_neg c1, if_pos c2, u2]
          rfl
        · exact absurd c3 (nle_nI u1 (by omega) rfl)
      · rw [nI_s] at c3 ⊢
        rcases enl with ⟨u1, u2⟩ | ⟨u1, u2⟩
        · exact absurd (by rw [u1]; exact Int32.le_refl _) c3
        · rw [ixn (show l1 + 1 < 2 ^ 31 by omega)]
          refine ⟨bnd (n := 100) (by omega) (by omega) rfl, hb _ u1, fin _ ?_⟩
          rw [stAns, if_neg c1, if_pos c2, u2]
          exact (wk _ u1).symm
      · rw [ixn (show l1 < 2 ^ 31 by omega)]
        refine ⟨bnd (n := 100) (by omega) (by omega) rfl, hb _ g4, fin _ ?_⟩
        rw [stAns, if_pos c1, els]
        exact (wk _ g4).symm
    · rcases hJ with ⟨A, -, -⟩ | ⟨f1, l1, hF, e6, e7⟩
      · rcases R with ⟨-, -, e1, e2, e3, e4⟩ | ⟨f2, l2, hF2, -⟩
        · refine fin _ ?_
          rw [stAns, e1, e2, e3, e4]
          rcases hw with rfl | rfl | rfl | rfl <;> rfl
        · have := A f2 hF2.1
          rw [show shB M f (ix (a f2)) = true from hF2.2.1] at this
          cases this
      · exact absurd (e6.symm.trans c0) (nI_ne1 (by have := hF.2.2.2.1; omega))
  · rintro i ⟨y6, y7⟩ hi hJ kk
    refine sg_stood_54 ⟨fun z => absurd z (nle_nI hi (by omega) rfl), fun _ => ⟨?_, fun z => ?_, fun z => ?_⟩⟩
    · rw [ixn (by omega)]
      exact ⟨bnd (n := 100) (by omega) (by omega) rfl, hb i hi⟩
    · rw [hh i hi] at z
      rw [nI_s]
      rcases hJ with ⟨A, e6, e7⟩ | ⟨f1, l1, ⟨g1, g2, g3, g4, g5, g6⟩, e6, e7⟩
      · refine ⟨fun y => absurd e7 y, fun _ => kk (nI i, nI i) (Or.inr ⟨i, i, ⟨by omega, z, A, by omega, z, fun k h1 h2 => by omega⟩, rfl, rfl⟩)⟩
      · refine ⟨fun _ => kk (nI i, y7) (Or.inr ⟨f1, i, ⟨by omega, g2, g3, by omega, z, fun k h1 h2 => by omega⟩, rfl, e7⟩), fun y => absurd (e7.symm.trans y) (nI_ne1 (by omega))⟩
    · rw [hh i hi] at z
      rw [nI_s]
      refine kk (y6, y7) ?_
      rcases hJ with ⟨A, e6, e7⟩ | ⟨f1, l1, ⟨g1, g2, g3, g4, g5, g6⟩, e6, e7⟩
      · refine Or.inl ⟨fun k hk => ?_, e6, e7⟩
        by_cases y : k = i
        · rw [y]; exact z
        · exact A k (by omega)
      · refine Or.inr ⟨f1, l1, ⟨by omega, g2, g3, by omega, g5, fun k h1 h2 => ?_⟩, e6, e7⟩
        by_cases y : k = i
        · rw [y]; exact z
        · exact g6 k h1 (by omega)
