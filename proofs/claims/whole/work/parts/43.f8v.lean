/-! the way out: the reference -/
theorem mWy_99 (M : StM) (e l s x : Nat → Int32) : sA (mWy M e l s) 99 x = mWy M e l x := by rw [mWy, sA_tw, ← mWy]
def bdTo (rc : Nat → Nat → Prop) (bd : Nat → Bool) (k : Nat) : Prop := ∀ c, rc k c → bd c = false
def mI9 (rc : Nat → Nat → Prop) (N k m : Nat) (st : Nat → Int32) : Prop := (∀ c, c < N → c < m → stC rc st c (k + 1)) ∧ (∀ c, c < N → m ≤ c → stC rc st c k)
theorem stC_u {rc : Nat → Nat → Prop} {st : Nat → Int32} {c k m : Nat} {z : Int32} (hc : c ≠ m) (h : stC rc st c k) : stC rc (upd st m z) c k := by
  rw [stC, upd_ne hc]
  exact h
theorem wayRc_up {M : StM} {i : Int32} {j k c : Nat} (hj : j ≤ k) (h : wayRc M i j c) : wayRc M i k c := rch_le hj h
theorem ct_way {E : EvT} {q : Nat → Nat} {d : Nat} {X : StX} {M : StM} (hB : RB X M) (hA : RAs X M) {i : Int32} : C_way E q (d + 2) i M (fun r M1 => WayV M i r ∧ ∃ e l s, M1 = mWy M e l s) := by
  obtain ⟨eN, N100, w0⟩ := hB.wh
  obtain ⟨ew, w4, w10⟩ := hB.w
  obtain ⟨eh, h4, h10⟩ := hB.h
  have bad : ¬ wayOk M i → WayV M i (-1) := fun z => ⟨fun _ => rfl, fun y => absurd y z⟩
  have self : ∀ e l, mH M e l = mWy M e l (a_steps M) := by
    intro e l
    rw [mWy]
    exact (sA_self (mH M e l) 99).symm
  have self0 : M = mWy M (a_early M) (a_late M) (a_steps M) := by rw [← self, mH_self]
  have wne : ¬ s_wide M = 0 := by
    have := hB.2.2.2.1
    grind
  refine en_way ⟨fun z => ⟨bad (fun y => absurd z (Int32.not_lt.mpr y.1)), _, _, _, self0⟩, fun z0 => ⟨fun z => ⟨bad (fun y => absurd y.2.1 (Int32.not_lt.mpr z)), _, _, _, self0⟩, fun z1 => ?_⟩⟩
  have i0 : 0 ≤ i := Int32.not_lt.mp z0
  have i1 : i < s_hollows M := Int32.not_le.mp z1
  obtain ⟨en, n40⟩ := cnt (n := 40) rfl (by omega) hA.2.1.2.1 hA.2.1.2.2
  have hi : ix i < ix (s_hollows M) := ix_lt i0 (by rw [← en]; exact i1) (by omega)
  have bi : 0 ≤ i ∧ i < 40 := by have := hA.2.1.2; exact ⟨i0, Int32.lt_of_lt_of_le i1 this.2⟩
  obtain ⟨ho1, ho2⟩ := hA.2.2.2.2.1 (ix i) hi
  obtain ⟨c0, hc0, ec0⟩ := (mCell_n ew eh w10 h10).mp ho1
  have hwc : wayC M i = c0 := by rw [wayC, ec0, ixn (by omega)]
  refine ct_hours hA _ (fun H e l => ⟨fun z => Bool.noConfusion z, fun _ => ⟨bad (fun y => H y.2.2), e, l, _, self e l⟩⟩) (fun H e l he hl => ⟨fun _ => ?_, fun z => Bool.noConfusion z⟩)
  have ok : wayOk M i := ⟨i0, i1, H⟩
  have fin : ∀ s r, WayR (wayRc M i) (bdM M) r → WayV M i r ∧ ∃ e' l' s', mWy M e l s = mWy M e' l' s' := fun s r h => ⟨⟨fun z => absurd ok z, fun _ => h⟩, e, l, s, rfl⟩
  refine ⟨bi, ho2, ?_⟩
  have et : a_early (mH M e l) (ix (a_hollowLayer (mH M e l) (ix i))) = wayT M i := he _ (ix_lt ho2.1 ho2.2 (by omega))
  rw [et, self]
  have hN0 : 0 < nW M * nH M := by omega
  have scut : wayRc M i 0 c0 := hwc.symm
  -- the rounds
  have rounds : ∀ st, (∀ c, c < nW M * nH M → stC (wayRc M i) st c 0) → bdTo (wayRc M i) (bdM M) 0 → T_way_134 E q (d + 2) (fun r M1 => WayV M i r ∧ ∃ e l s, M1 = mWy M e l s) (mWy M e l st) (nI (laidN (hL M 7) (wayT M i) 8)) 1 := by
    intro st hst hbd
    have key := up_s (W := nW M * nH M) (T := fun j st => T_way_134 E q (d + 2) (fun r M1 => WayV M i r ∧ ∃ e l s, M1 = mWy M e l s) (mWy M e l st) (nI (laidN (hL M 7) (wayT M i) 8)) (nI j)) (J := fun j st => 1 ≤ j ∧ (∀ c, c < nW M * nH M → stC (wayRc M i) st c (j - 1)) ∧ bdTo (wayRc M i) (bdM M) (j - 1)) ?_ ?_ 1 st (by omega) ⟨Nat.le_refl _, hst, hbd⟩
    · exact key
    · rintro st ⟨-, -, hb⟩
      refine sg_way_134 ⟨fun _ => fin _ _ (Or.inr ⟨fun k c hk => hb c (rch_end (by rw [hwc]; exact hc0) k c hk), rfl⟩), fun z => absurd (by show s_wide M * s_high M ≤ _; rw [eN]; exact Int32.le_refl _) z⟩
    · rintro j st hj ⟨j1, hst, hb⟩ kk
      obtain ⟨k, rfl⟩ : ∃ k, j = k + 1 := ⟨j - 1, by omega⟩
      rw [Nat.add_sub_cancel] at hst hb
      refine sg_way_134 ⟨fun z => absurd z (by show ¬ s_wide M * s_high M ≤ _; exact nle_nI hj (by omega) eN), fun _ => ?_⟩
      have low : ∀ a, a ≤ k → ∀ c, wayRc M i a c → bdM M c = false := fun a ha c hc => hb c (wayRc_up ha hc)
      have inner := up_s (W := nW M * nH M) (T := fun m st => T_way_151 E q (d + 2) (fun r M1 => WayV M i r ∧ ∃ e l s, M1 = mWy M e l s) (mWy M e l st) (nI (laidN (hL M 7) (wayT M i) 8)) (nI (k + 1)) (nI m)) (J := fun m st => mI9 (wayRc M i) (nW M * nH M) k m st ∧ ∀ c, c < m → wayRc M i (k + 1) c → bdM M c = false) ?_ ?_ 0 st (by omega) ⟨⟨fun c _ hc => absurd hc (Nat.not_lt_zero c), fun c hc _ => hst c hc⟩, fun c hc => absurd hc (Nat.not_lt_zero c)⟩
      · exact inner
      · rintro st ⟨⟨m1, -⟩, m3⟩
        refine sg_way_151 ⟨fun _ => ?_, fun z => absurd (by show s_wide M * s_high M ≤ _; rw [eN]; exact Int32.le_refl _) z⟩
        rw [nI_s]
        exact kk st ⟨by omega, fun c hc => m1 c hc hc, fun c hc => m3 c (rch_N (by rw [hwc]; exact hc0) _ _ hc) hc⟩
      · rintro m st hm ⟨⟨m1, m2⟩, m3⟩ kk2
        have bm : (0 : Int32) ≤ nI m ∧ nI m < 100 := bnd (n := 100) (by omega) (by omega) rfl
        -- go on with m as it is
        have goon : stC (wayRc M i) st m (k + 1) → (wayRc M i (k + 1) m → bdM M m = false) → T_way_151 E q (d + 2) (fun r M1 => WayV M i r ∧ ∃ e l s, M1 = mWy M e l s) (mWy M e l st) (nI (laidN (hL M 7) (wayT M i) 8)) (nI (k + 1)) (nI m + 1) := by
          intro g1 g2
          rw [nI_s]
          refine kk2 st ⟨⟨fun c hc hcm => ?_, fun c hc hcm => m2 c hc (by omega)⟩, fun c hcm => ?_⟩
          · by_cases y : c = m
            · rw [y]; exact g1
            · exact m1 c hc (by omega)
          · by_cases y : c = m
            · rw [y]; exact g2
            · exact m3 c (by omega)
        have sm := m2 m hm (Nat.le_refl _)
        refine sg_way_151 ⟨fun z => absurd z (by show ¬ s_wide M * s_high M ≤ _; exact nle_nI hm (by omega) eN), fun _ => ⟨bm, ?_⟩⟩
        rw [ixn (show m < 2 ^ 31 by omega)]
        show (¬ st m = -1 → _) ∧ (st m = -1 → (nI (laidN (hL M 7) (wayT M i) 8) < a_heightOf M m → _) ∧ (¬ nI (laidN (hL M 7) (wayT M i) 8) < a_heightOf M m → _))
        refine ⟨fun c1 => goon (sm.more (fun z => absurd z c1)) (fun _ => ?_), fun c1 => ⟨fun c2 => ?_, fun c2 => ?_⟩⟩
        · rcases sm with ⟨z, -⟩ | ⟨a, ha, -, ra, -⟩
          · exact absurd z c1
          · exact low a ha m ra
        · have hop : opM M (wayT M i) m = true := decide_eq_true c2
          have nk : ¬ wayRc M i k m := by
            rcases sm with ⟨-, z⟩ | ⟨a, ha, z, -⟩
            · exact z
            · exact absurd (z.symm.trans c1) (nI_ne1 (by omega))
          -- found: steps set
          have found : wayRc M i (k + 1) m → ∀ y, y ≤ nW M * nH M → T_way_193 E q (d + 2) (fun r M1 => WayV M i r ∧ ∃ e l s, M1 = mWy M e l s) (mWy M e l (upd st m (nI (k + 1)))) (nI (laidN (hL M 7) (wayT M i) 8)) (nI (k + 1)) (nI m) (nI y) := by
            intro hr y hy
            have ex : (¬ a_steps (mWy M e l (upd st m (nI (k + 1)))) m = nI (k + 1) → T_way_151 E q (d + 2) (fun r M1 => WayV M i r ∧ ∃ e l s, M1 = mWy M e l s) (mWy M e l (upd st m (nI (k + 1)))) (nI (laidN (hL M 7) (wayT M i) 8)) (nI (k + 1)) (nI m + 1)) ∧ (a_steps (mWy M e l (upd st m (nI (k + 1)))) m = nI (k + 1) → ¬ s_wide M = 0 ∧ ((mBorder M (nI m)) = false → T_way_151 E q (d + 2) (fun r M1 => WayV M i r ∧ ∃ e l s, M1 = mWy M e l s) (mWy M e l (upd st m (nI (k + 1)))) (nI (laidN (hL M 7) (wayT M i) 8)) (nI (k + 1)) (nI m + 1)) ∧ ((mBorder M (nI m)) = true → WayV M i (nI (k + 1)) ∧ ∃ e' l' s', mWy M e l (upd st m (nI (k + 1))) = mWy M e' l' s')) := by
              refine ⟨fun z => absurd (show upd st m (nI (k + 1)) m = nI (k + 1) from upd_eq) z, fun _ => ⟨wne, fun nb => ?_, fun yb => fin _ _ (Or.inl ⟨k + 1, m, hr, yb, fun a ha c hc => low a (by omega) c hc, rfl⟩)⟩⟩
              rw [nI_s]
              refine kk2 _ ⟨⟨fun c hc hcm => ?_, fun c hc hcm => stC_u (by omega) (m2 c hc (by omega))⟩, fun c hcm => ?_⟩
              · by_cases y : c = m
                · subst y
                  refine Or.inr ⟨k + 1, Nat.le_refl _, upd_eq, hr, fun a ha ra => nk (wayRc_up (by omega) ra)⟩
                · exact stC_u y (m1 c hc (by omega))
              · by_cases y : c = m
                · rw [y]; exact fun _ => nb
                · exact m3 c (by omega)
            refine sg_way_193 ⟨fun _ => ⟨bm, ?_⟩, fun _ => ⟨bm, fun _ => ?_, fun z => ?_⟩⟩
            · rw [ixn (show m < 2 ^ 31 by omega)]; exact ex
            · rw [ixn (show m < 2 ^ 31 by omega)]; exact ex
            · rw [ixn (show m < 2 ^ 31 by omega)] at z
              exact absurd ((show nI (k + 1) = upd st m (nI (k + 1)) m from upd_eq.symm).trans z) (nI_ne1 (by omega))
          have seek := up_s (W := nW M * nH M) (T := fun y (_ : Unit) => T_way_193 E q (d + 2) (fun r M1 => WayV M i r ∧ ∃ e l s, M1 = mWy M e l s) (mWy M e l st) (nI (laidN (hL M 7) (wayT M i) 8)) (nI (k + 1)) (nI m) (nI y)) (J := fun y _ => ∀ a, a < y → ¬ (st a = nI k ∧ nbM M a m = true)) ?_ ?_ 0 () (by omega) (fun a ha => absurd ha (Nat.not_lt_zero a))
          · exact seek
          · rintro - hno
            refine sg_way_193 ⟨fun _ => ⟨bm, ?_⟩, fun z => absurd (by show s_wide M * s_high M ≤ _; rw [eN]; exact Int32.le_refl _) z⟩
            rw [ixn (show m < 2 ^ 31 by omega)]
            have nr : ¬ wayRc M i (k + 1) m := by
              rintro (z | ⟨-, -, a, ra, nb⟩)
              · exact nk z
              · have aN := rch_N (by rw [hwc]; exact hc0) _ _ ra
                have : ∃ b, b ≤ k ∧ st a = nI b ∧ wayRc M i b a := by
                  rcases Nat.lt_or_ge a m with y | y
                  · rcases m1 a aN y with ⟨-, z⟩ | ⟨b, hb, eb, rb, mb⟩
                    · exact absurd (Or.inl ra) z
                    · refine ⟨b, ?_, eb, rb⟩
                      rcases Nat.lt_or_ge k b with x | x
                      · exact absurd ra (mb k x)
                      · exact x
                  · rcases m2 a aN y with ⟨-, z⟩ | ⟨b, hb, eb, rb, mb⟩
                    · exact absurd ra z
                    · exact ⟨b, hb, eb, rb⟩
                obtain ⟨b, hb, eb, rb⟩ := this
                rcases Nat.lt_or_eq_of_le hb with x | x
                · exact nk (wayRc_up (j := b + 1) (by omega) (Or.inr ⟨hm, hop, a, rb, nb⟩))
                · subst x; exact hno a aN ⟨eb, nb⟩
            exact ⟨fun _ => goon (Or.inl ⟨c1, nr⟩) (fun z => absurd z nr), fun z => absurd (z.symm.trans c1) (nI_ne1 (by omega))⟩
          · rintro y - hy hno kk3
            refine sg_way_193 ⟨fun z => absurd z (by show ¬ s_wide M * s_high M ≤ _; exact nle_nI hy (by omega) eN), fun _ => ⟨bm, fun z => ?_, fun _ => ⟨bnd (n := 100) (by omega) (by omega) rfl, ?_⟩⟩⟩
            · rw [ixn (show m < 2 ^ 31 by omega)] at z
              exact absurd c1 z
            · rw [ixn (show y < 2 ^ 31 by omega), ixn (show m < 2 ^ 31 by omega), nI_p', nI_s]
              have next : ¬ (st y = nI k ∧ nbM M y m = true) → T_way_193 E q (d + 2) (fun r M1 => WayV M i r ∧ ∃ e l s, M1 = mWy M e l s) (mWy M e l st) (nI (laidN (hL M 7) (wayT M i) 8)) (nI (k + 1)) (nI m) (nI (y + 1)) := by
                intro z
                refine kk3 () (fun a ha => ?_)
                by_cases x : a = y
                · rw [x]; exact z
                · exact hno a (by omega)
              refine ⟨fun z => next (fun w => z w.1), fun z => ⟨wne, fun z2 => next (fun w => ?_), fun z2 => ?_⟩⟩
              · have : nbM M y m = false := z2
                rw [this] at w
                exact Bool.noConfusion w.2
              · rw [mWy_99]
                have sy : st y = nI k := z
                have ry : wayRc M i k y := by
                  rcases Nat.lt_or_ge y m with x | x
                  · rcases m1 y hy x with ⟨w, -⟩ | ⟨b, hb, eb, rb, -⟩
                    · exact absurd (sy.symm.trans w) (nI_ne1 (by omega))
                    · have : b = k := ((nI_eq (by omega) (by omega)).mp (sy.symm.trans eb)).symm
                      rw [← this]; exact rb
                  · rcases m2 y hy x with ⟨w, -⟩ | ⟨b, hb, eb, rb, -⟩
                    · exact absurd (sy.symm.trans w) (nI_ne1 (by omega))
                    · exact wayRc_up hb rb
                exact found (Or.inr ⟨hm, hop, y, ry, z2⟩) (y + 1) hy
        · have hop : opM M (wayT M i) m = false := decide_eq_false c2
          have nr : ¬ wayRc M i (k + 1) m := by
            rintro (z | ⟨-, z, -⟩)
            · rcases sm with ⟨-, w⟩ | ⟨a, ha, w, -⟩
              · exact w z
              · exact absurd (w.symm.trans c1) (nI_ne1 (by omega))
            · rw [hop] at z; cases z
          exact goon (Or.inl ⟨c1, nr⟩) (fun z => absurd z nr)
  -- the first steps
  have firsts := up_s (W := nW M * nH M) (T := fun j st => T_way_73 E q (d + 2) (fun r M1 => WayV M i r ∧ ∃ e l s, M1 = mWy M e l s) (mWy M e l st) i (nI (laidN (hL M 7) (wayT M i) 8)) (nI j)) (J := fun j st => ∀ c, c < j → st c = if c = c0 then 0 else -1) ?_ ?_ 0 (a_steps M) (by omega) (fun c hc => absurd hc (Nat.not_lt_zero c))
  · have count := up_s (W := 8) (T := fun v (_ : Unit) => T_way_38 E q (d + 2) (fun r M1 => WayV M i r ∧ ∃ e l s, M1 = mWy M e l s) (mWy M e l (a_steps M)) i (wayT M i) (nI (laidN (hL M 7) (wayT M i) v)) (nI v)) (J := fun _ _ => True) ?_ ?_ 0 () (by omega) trivial
    · exact count
    · rintro - -
      exact sg_way_38 ⟨fun _ => firsts, fun z => absurd (by decide) z⟩
    · rintro v - hv - kk
      refine sg_way_38 ⟨fun z => absurd z (nle_nI (n := 8) hv (by omega) rfl), fun _ => ⟨bnd (n := 8) hv (by omega) rfl, ?_⟩⟩
      rw [ixn (show v < 2 ^ 31 by omega), show a_late (mWy M e l (a_steps M)) v = hL M 7 v from hl v hv, nI_s]
      have := kk () trivial
      rw [laidN_s] at this
      refine ⟨fun z => ?_, fun z => ?_⟩
      · rw [if_pos z] at this
        rw [show ∀ x : Int32, x + 0 = x from fun x => by grind]
        exact this
      · rw [if_neg z] at this
        rw [nI_s]
        exact this
  · intro st hst
    refine sg_way_73 ⟨fun _ => ⟨bi, wne, ?_⟩, fun z => absurd (by show s_wide M * s_high M ≤ _; rw [eN]; exact Int32.le_refl _) z⟩
    rw [show a_hollowCell (mWy M e l st) (ix i) = nI c0 from ec0]
    refine ⟨fun nb => rounds st (fun c hc => ?_) (fun c hc => ?_), fun yb => fin _ _ (Or.inl ⟨0, c0, scut, yb, fun j hj => absurd hj (Nat.not_lt_zero j), rfl⟩)⟩
    · by_cases y : c = c0
      · subst y
        exact Or.inr ⟨0, Nat.le_refl _, by rw [hst c hc, if_pos rfl]; rfl, scut, fun a ha => absurd ha (Nat.not_lt_zero a)⟩
      · exact Or.inl ⟨by rw [hst c hc, if_neg y], fun z => y (by rw [← hwc]; exact z)⟩
    · have : c = c0 := by rw [← hwc]; exact hc
      rw [this]
      exact nb
  · intro j st hj hst kk
    refine sg_way_73 ⟨fun z => absurd z (by show ¬ s_wide M * s_high M ≤ _; exact nle_nI hj (by omega) eN), fun _ => ⟨bi, ?_⟩⟩
    rw [show a_hollowCell (mWy M e l st) (ix i) = nI c0 from ec0, ixn (show j < 2 ^ 31 by omega), mWy_99, mWy_99, nI_s, nI_eq (by omega) (by omega)]
    have go : ∀ z, (z = if j = c0 then (0 : Int32) else -1) → T_way_73 E q (d + 2) (fun r M1 => WayV M i r ∧ ∃ e l s, M1 = mWy M e l s) (mWy M e l (upd st j z)) i (nI (laidN (hL M 7) (wayT M i) 8)) (nI (j + 1)) := by
      intro z ez
      refine kk _ (fun c hc => ?_)
      by_cases y : c = j
      · subst y; rw [upd_eq]; exact ez
      · rw [upd_ne y]; exact hst c (by omega)
    refine ⟨fun y => ⟨bnd (n := 100) (by omega) (by omega) rfl, go _ (by rw [if_neg y])⟩, fun y => ⟨bnd (n := 100) (by omega) (by omega) rfl, go _ (by rw [if_pos y])⟩⟩
