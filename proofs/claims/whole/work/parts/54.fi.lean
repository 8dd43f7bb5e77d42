/-! finds -/
def FiOK (M : StM) (i : Nat) : Prop := (0 ≤ a_findHand M i ∧ a_findHand M i ≤ 7) ∧ (0 ≤ a_findFrom M i ∧ a_findFrom M i ≤ a_findTo M i ∧ a_findTo M i ≤ 9999 ∧ a_findTo M i - a_findFrom M i ≤ 19) ∧ (0 ≤ a_findNumber M i ∧ a_findNumber M i ≤ 99) ∧ (0 ≤ a_findKind M i ∧ a_findKind M i ≤ 7) ∧ (0 ≤ a_findMarks M i ∧ a_findMarks M i ≤ 255)
def RFi (X : StX) (M : StM) : Prop := (xs_Finds_size X = s_finds M ∧ xa_Finds_hand X = a_findHand M ∧ xa_Finds_from X = a_findFrom M ∧ xa_Finds_to X = a_findTo M ∧ xa_Finds_number X = a_findNumber M ∧ xa_Finds_top X = a_findTop M ∧ xa_Finds_bottom X = a_findBottom M ∧ xa_Finds_kind X = a_findKind M ∧ xa_Finds_marks X = a_findMarks M ∧ xa_Finds_told X = a_findTold M) ∧ (0 ≤ s_finds M ∧ s_finds M ≤ 150) ∧ ∀ i, i < ix (s_finds M) → FiOK M i
def nFi (M : StM) : Nat := ix (s_finds M)
theorem RFi.n {X : StX} {M : StM} (h : RFi X M) : s_finds M = nI (nFi M) ∧ nFi M ≤ 150 := cnt (n := 150) rfl (by omega) h.2.1.1 h.2.1.2
def Geo (M : StM) : Prop := s_wide M * s_high M = nI (nW M * nH M) ∧ nW M * nH M ≤ 100 ∧ ¬ s_wide M = 0
theorem RB.geo {X : StX} {M : StM} (h : RB X M) : Geo M := ⟨h.wh.1, h.wh.2.1, h.wne⟩
def FH (B : BkT) (X : StX) (M : StM) : Prop := Geo M ∧ RPl X M ∧ RDg X M ∧ RMe X M ∧ RFi X M ∧ RRu B X M
theorem FH.kp {B : BkT} {X Y : StX} {M N : StM} (hR : FH B X M) (h : kept M N) (h2 : keptX X Y) : FH B Y N := h.to (FH B Y) (h2.to (fun Y => FH B Y (kpM M N)) hR)
def dugC (M : StM) (i p : Nat) (w t : Int32) (d : Nat) : Prop := mKnown M (nI d) t = true ∧ ¬ a_digKind M d = 2 ∧ a_digHand M d = a_findHand M i ∧ mIn w (a_digFrom M d) (a_digTo M d) = true ∧ a_digTop M d ≤ a_findBottom M i ∧ a_findTop M i ≤ a_digBottom M d ∧ meetsP M (a_digA M d) (a_digB M d) p = true
def dugD (M : StM) (i p : Nat) (w t : Int32) (n : Nat) : Prop := ∃ d, d < n ∧ dugC M i p w t d
def dugP (M : StM) (i p : Nat) (w t : Int32) : Prop := dugD M i p w t (nD M)
def hdM (M : StM) (i : Nat) : Int32 := if s_asHand M = -1 then a_findHand M i else s_asHand M
def linB (B : BkT) (M : StM) (h w : Int32) (i : Nat) (k : Int32) (n : Nat) : Prop := ((linV B M (fcF w h (a_findKind M i) (a_findMarks M i) k) >>> (nI n &&& 31)) &&& 1) = 1
def meantP (B : BkT) (M : StM) (h : Int32) (i p : Nat) (w : Int32) : Prop := a_findNumber M i = 0 ∨ ∃ n, n < 4 ∧ linB B M h w i (a_placeKind M p) n ∧ meanV M (nI n) (a_findNumber M i) w = nI p
def mayP (B : BkT) (M : StM) (h : Int32) (i : Nat) (t : Int32) (p : Nat) : Prop := ∃ w : Int32, a_findFrom M i ≤ w ∧ w ≤ a_findTo M i ∧ dugP M i p w t ∧ meantP B M h i p w
noncomputable def mayV (B : BkT) (M : StM) (h : Int32) (i : Nat) (t : Int32) : Int32 := bitsP (fun p => dcd (mayP B M h i t p)) (nP M)
theorem ct_meets {E : EvT} {q : Nat → Nat} {d : Nat} {M : StM} (hG : Geo M) {e p : Nat} (he : e < 100) : C_meets E q (d + 2) (nI e) (nI p) M (fun r M1 => r = meetsP M (a_digA M e) (a_digB M e) p ∧ M1 = M) := by
  obtain ⟨eN, N100, wne⟩ := hG
  refine en_meets ?_
  refine up_s (W := nW M * nH M) (T := fun c (_ : Unit) => T_meets_2 E q (d + 2) (fun r M1 => r = meetsP M (a_digA M e) (a_digB M e) p ∧ M1 = M) M (nI e) (nI p) (nI c)) (J := fun c _ => ∀ c', c' < c → ¬ (mIsIn M (nI c') (a_digA M e) (a_digB M e) = true ∧ a_placeAt M c' = nI p)) ?_ ?_ 0 () (by omega) (fun c hc => absurd hc (Nat.not_lt_zero c))
  · rintro - hn
    refine sg_meets_2 ⟨fun _ => ⟨?_, rfl⟩, fun z => absurd (by rw [eN]; exact Int32.le_refl _) z⟩
    rw [meetsP, eq_comm, decide_eq_false_iff_not]
    rintro ⟨c, hc, h1, h2⟩
    exact hn c hc ⟨h1, h2⟩
  · rintro c - hc hn k
    have nx : ¬ (mIsIn M (nI c) (a_digA M e) (a_digB M e) = true ∧ a_placeAt M c = nI p) → T_meets_2 E q (d + 2) (fun r M1 => r = meetsP M (a_digA M e) (a_digB M e) p ∧ M1 = M) M (nI e) (nI p) (nI c + 1) := by
      intro z
      rw [nI_s]
      refine k () (fun c' hc' => ?_)
      by_cases y : c' = c
      · rw [y]; exact z
      · exact hn c' (by omega)
    refine sg_meets_2 ⟨fun z => absurd z (by rw [eN]; exact nI_ge hc (by omega)), fun _ => ⟨bnd (n := 100) (by omega) (by omega) rfl, ?_⟩⟩
    rw [ixn (show c < 2 ^ 31 by omega), ixn (show e < 2 ^ 31 by omega)]
    refine ⟨fun z => nx (fun y => z y.2), fun z => ⟨bnd (n := 100) he (by omega) rfl, wne, fun y => nx (fun x => by rw [x.1] at y; cases y), fun y => ⟨?_, rfl⟩⟩⟩
    rw [meetsP, eq_comm, decide_eq_true_eq]
    exact ⟨c, hc, y, z⟩
theorem ct_isDug {E : EvT} {q : Nat → Nat} {d : Nat} {B : BkT} {X : StX} {M : StM} (hF : FH B X M) {i p : Nat} (hi : i < 150) {w t : Int32} : C_isDug E q (d + 3) (nI i) (nI p) w t M (fun r M1 => r = dcd (dugP M i p w t) ∧ M1 = M) := by
  obtain ⟨hG, -, hD, -⟩ := hF
  obtain ⟨en, n100⟩ := hD.n
  refine en_isDug ?_
  refine up_s (W := nD M) (T := fun e (_ : Unit) => T_isDug_3 E q (d + 3) (fun r M1 => r = dcd (dugP M i p w t) ∧ M1 = M) M (nI i) (nI p) w t (nI e)) (J := fun e _ => ¬ dugD M i p w t e) ?_ ?_ 0 () (by omega) (fun ⟨e, he, _⟩ => absurd he (Nat.not_lt_zero e))
  · rintro - hn
    exact sg_isDug_3 ⟨fun _ => ⟨(dcd_f.mpr hn).symm, rfl⟩, fun z => absurd (by rw [en]; exact Int32.le_refl _) z⟩
  · rintro e - he hn k
    have nx : ¬ dugC M i p w t e → T_isDug_3 E q (d + 3) (fun r M1 => r = dcd (dugP M i p w t) ∧ M1 = M) M (nI i) (nI p) w t (nI e + 1) := by
      intro z
      rw [nI_s]
      refine k () (fun ⟨e', he', h⟩ => ?_)
      by_cases y : e' = e
      · subst y; exact z h
      · exact hn ⟨e', by omega, h⟩
    have be : (0 : Int32) ≤ nI e ∧ nI e < 100 := bnd (n := 100) (by omega) (by omega) rfl
    refine sg_isDug_3 ⟨fun z => absurd z (by rw [en]; exact nI_ge he (by omega)), fun _ => ⟨be, ?_⟩⟩
    rw [ixn (show e < 2 ^ 31 by omega), ixn (show i < 2 ^ 31 by omega)]
    refine ⟨fun z => nx (fun y => by rw [y.1] at z; cases z), fun y1 => ⟨be, fun z => nx (fun y => y.2.1 z), fun y2 => ⟨bnd (n := 150) hi (by omega) rfl, fun z => nx (fun y => z y.2.2.1), fun y3 => ⟨fun y4 => ⟨fun z => nx (fun y => absurd y.2.2.2.2.1 (Int32.not_le.mpr z)), fun y5 => ⟨fun z => nx (fun y => absurd y.2.2.2.2.2.1 (Int32.not_le.mpr z)), fun y6 => ?_⟩⟩, fun z => nx (fun y => by rw [y.2.2.2.1] at z; cases z)⟩⟩⟩⟩
    refine mB (ct_meets hG (by omega)) (fun r M1 h => ?_)
    obtain ⟨rfl, rfl⟩ := h
    refine ⟨fun z => nx (fun y => by rw [y.2.2.2.2.2.2] at z; cases z), fun y7 => ⟨?_, rfl⟩⟩
    rw [eq_comm, dcd_t]
    exact ⟨e, he, y1, y2, y3, y4, Int32.not_lt.mp y5, Int32.not_lt.mp y6, y7⟩
theorem ct_isMeant {E : EvT} {q : Nat → Nat} {d : Nat} {B : BkT} {X : StX} {M : StM} (hF : FH B X M) {i p : Nat} (hi : i < 150) (hp : p < nP M) {w : Int32} : C_isMeant E q (d + 4) (nI i) (nI p) w M (fun r M1 => r = dcd (meantP B M (hdM M i) i p w) ∧ kept M M1) := by
  obtain ⟨hG, hP, hD, hMe, hFi, hR⟩ := hF
  obtain ⟨-, p30⟩ := hP.n
  have loop : ∀ (N : StM), kept M N → ¬ a_findNumber M i = 0 → T_isMeant_59 E q (d + 4) (fun r M1 => r = dcd (meantP B M (hdM M i) i p w) ∧ kept M M1) N (nI i) (nI p) w (linV B M (fcF w (hdM M i) (a_findKind M i) (a_findMarks M i) (a_placeKind M p))) 0 := by
    intro N hk h0
    refine up_s (W := 4) (T := fun n (_ : Unit) => T_isMeant_59 E q (d + 4) (fun r M1 => r = dcd (meantP B M (hdM M i) i p w) ∧ kept M M1) N (nI i) (nI p) w (linV B M (fcF w (hdM M i) (a_findKind M i) (a_findMarks M i) (a_placeKind M p))) (nI n)) (J := fun n _ => ∀ n', n' < n → ¬ (linB B M (hdM M i) w i (a_placeKind M p) n' ∧ meanV M (nI n') (a_findNumber M i) w = nI p)) ?_ ?_ 0 () (by omega) (fun c hc => absurd hc (Nat.not_lt_zero c))
    · rintro - hn
      refine sg_isMeant_59 ⟨fun _ => ⟨?_, hk⟩, fun z => absurd (by decide) z⟩
      rw [eq_comm, dcd_f]
      rintro (z | ⟨n, hn4, z⟩)
      · exact h0 z
      · exact hn n hn4 z
    · rintro n - hn4 hn k
      have nx : ¬ (linB B M (hdM M i) w i (a_placeKind M p) n ∧ meanV M (nI n) (a_findNumber M i) w = nI p) → T_isMeant_59 E q (d + 4) (fun r M1 => r = dcd (meantP B M (hdM M i) i p w) ∧ kept M M1) N (nI i) (nI p) w (linV B M (fcF w (hdM M i) (a_findKind M i) (a_findMarks M i) (a_placeKind M p))) (nI n + 1) := by
        intro z
        rw [nI_s]
        refine k () (fun n' hn' => ?_)
        by_cases y : n' = n
        · rw [y]; exact z
        · exact hn n' (by omega)
      refine sg_isMeant_59 ⟨fun z => absurd z (nle_nI (n := 4) hn4 (by omega) rfl), fun _ => ⟨fun z => nx (fun y => z y.1), fun y1 => ⟨bnd (n := 150) hi (by omega) rfl, ?_⟩⟩⟩
      rw [ixn (show i < 2 ^ 31 by omega), show a_findNumber N = a_findNumber M from hk.a rfl]
      refine mI (ct_meaningOf (by rw [show s_meanings N = s_meanings M from hk.s 21]; exact hMe.2.1.1) (by rw [show s_meanings N = s_meanings M from hk.s 21]; exact hMe.2.1.2)) (fun r M1 h => ?_)
      obtain ⟨er, rfl⟩ := h
      have er : r = meanV M (nI n) (a_findNumber M i) w := er.trans (hk.to (fun N => meanV N (nI n) (a_findNumber M i) w = meanV M (nI n) (a_findNumber M i) w) rfl)
      refine ⟨fun z => nx (fun y => z (er.trans y.2)), fun z => ⟨?_, hk⟩⟩
      rw [eq_comm, dcd_t]
      exact Or.inr ⟨n, hn4, y1, er.symm.trans z⟩
  have pne : ¬ nI p = -1 := nI_ne1 (by omega)
  have epk : pkM M (nI p) = a_placeKind M p := by rw [pkM, if_neg pne, ixn (by omega)]
  refine en_isMeant ⟨bnd (n := 150) hi (by omega) rfl, ?_⟩
  rw [ixn (show i < 2 ^ 31 by omega)]
  refine ⟨fun z => ⟨fun z2 => ?_, fun z2 => ?_⟩, fun z => ⟨(dcd_t.mpr (Or.inl z)).symm, kept.rf M⟩⟩
  · refine mV (ct_setsFacts (Or.inr (bnd (n := 30) (by omega) (by omega) rfl))) (fun M1 h1 => ?_)
    obtain ⟨l, rfl, hl⟩ := h1
    rw [epk] at hl
    refine mI (ct_numberings (show RRu B X (sA M 56 l) from hR) hl) (fun r M1 h => ?_)
    obtain ⟨er, t, s, rfl⟩ := h
    have er : r = linV B M (fcF w (hdM M i) (a_findKind M i) (a_findMarks M i) (a_placeKind M p)) := by rw [er, hdM, if_neg z2]; rfl
    subst er
    exact loop _ (((kept.rf M).sA rfl l).nb t s) z
  · refine mV (ct_setsFacts (Or.inr (bnd (n := 30) (by omega) (by omega) rfl))) (fun M1 h1 => ?_)
    obtain ⟨l, rfl, hl⟩ := h1
    rw [epk] at hl
    refine mI (ct_numberings (show RRu B X (sA M 56 l) from hR) hl) (fun r M1 h => ?_)
    obtain ⟨er, t, s, rfl⟩ := h
    have er : r = linV B M (fcF w (hdM M i) (a_findKind M i) (a_findMarks M i) (a_placeKind M p)) := by rw [er, hdM, if_pos z2]; rfl
    subst er
    exact loop _ (((kept.rf M).sA rfl l).nb t s) z
/-- the weeks of a find -/
theorem FiOK.wk {M : StM} {i : Nat} (h : FiOK M i) : ∃ f g, a_findFrom M i = nI f ∧ a_findTo M i = nI g ∧ f ≤ g ∧ g ≤ f + 19 ∧ g ≤ 9999 := by
  obtain ⟨h1, h2, h3, h4⟩ := h.2.1
  have t0 : (0 : Int32) ≤ a_findTo M i := Int32.le_trans h1 h2
  have e1 := (nix h1).symm
  have e2 := (nix t0).symm
  have l1 := le_ix h1 h2
  have l2 := ix_le (n := 9999) t0 h3 (by omega)
  refine ⟨ix (a_findFrom M i), ix (a_findTo M i), e1, e2, l1, ?_, l2⟩
  rw [e2, e1, pk_sub l1, show (19 : Int32) = nI 19 from rfl, nI_leI (by omega) (by omega)] at h4
  omega
theorem ct_mayBe {E : EvT} {q : Nat → Nat} {d : Nat} {B : BkT} {X : StX} {M : StM} (hF : FH B X M) {i : Nat} (hi : i < nFi M) {t : Int32} : C_mayBe E q (d + 5) (nI i) t M (fun r M1 => r = mayV B M (hdM M i) i t ∧ kept M M1) := by
  have hF0 := hF
  obtain ⟨hG, hP, hD, hMe, hFi, hR⟩ := hF
  obtain ⟨ep, p30⟩ := hP.n
  obtain ⟨ef, f150⟩ := hFi.n
  obtain ⟨f, g, e1, e2, fg, g19, g9⟩ := (hFi.2.2 i hi).wk
  have bi : (0 : Int32) ≤ nI i ∧ nI i < 150 := bnd (n := 150) (by omega) (by omega) rfl
  refine en_mayBe ?_
  refine up_s (W := nP M) (T := fun p (z : Int32 × StM) => T_mayBe_5 E q (d + 5) (fun r M1 => r = mayV B M (hdM M i) i t ∧ kept M M1) z.2 (nI i) t z.1 (nI p)) (J := fun p z => kept M z.2 ∧ z.1 = bitsP (fun p => dcd (mayP B M (hdM M i) i t p)) p) ?_ ?_ 0 (0, M) (by omega) ⟨kept.rf M, rfl⟩
  · rintro ⟨y, N⟩ ⟨hk, hy⟩
    exact sg_mayBe_5 ⟨fun _ => ⟨hy, hk⟩, fun z => absurd (by rw [show s_places N = s_places M from hk.s 3, ep]; exact Int32.le_refl _) z⟩
  · rintro p ⟨y, N⟩ hp ⟨hk, hy⟩ kk
    have hk : kept M N := hk
    have hy : y = bitsP (fun p => dcd (mayP B M (hdM M i) i t p)) p := hy
    subst hy
    have eF : a_findFrom N = a_findFrom M := hk.a rfl
    refine sg_mayBe_5 ⟨fun z => absurd z (by rw [show s_places N = s_places M from hk.s 3, ep]; exact nI_ge hp (by omega)), fun _ => ⟨bi, ?_⟩⟩
    rw [ixn (show i < 2 ^ 31 by omega), eF, e1]
    -- found already
    have done : mayP B M (hdM M i) i t p → ∀ j N, kept M N → T_mayBe_22 E q (d + 5) (fun r M1 => r = mayV B M (hdM M i) i t ∧ kept M M1) N (nI i) t (bitsP (fun p => dcd (mayP B M (hdM M i) i t p)) (p + 1)) (nI p) j := by
      intro hm j N hk
      have nx : T_mayBe_5 E q (d + 5) (fun r M1 => r = mayV B M (hdM M i) i t ∧ kept M M1) N (nI i) t (bitsP (fun p => dcd (mayP B M (hdM M i) i t p)) (p + 1)) (nI p + 1) := by
        rw [nI_s]; exact kk (_, N) ⟨hk, rfl⟩
      refine sg_mayBe_22 ⟨bi, fun _ => nx, fun _ => ⟨fun _ => nx, fun z => ?_⟩⟩
      rw [bitsP_00 (by omega) (by omega)] at z
      exact absurd hm (dcd_f.mp z)
    have loop : ∀ m j N, j + m = g + 1 → f ≤ j → kept M N → (∀ j', f ≤ j' → j' < j → ¬ (dugP M i p (nI j') t ∧ meantP B M (hdM M i) i p (nI j'))) → T_mayBe_22 E q (d + 5) (fun r M1 => r = mayV B M (hdM M i) i t ∧ kept M M1) N (nI i) t (bitsP (fun p => dcd (mayP B M (hdM M i) i t p)) p) (nI p) (nI j) := by
      intro m
      induction m with
      | zero =>
        intro j N hj hf hk hn
        have eT : a_findTo N = a_findTo M := hk.a rfl
        refine sg_mayBe_22 ⟨bi, fun _ => ?_, fun z => absurd ?_ z⟩
        · rw [nI_s]
          refine kk (_, N) ⟨hk, bitsP_f (dcd_f.mpr ?_)⟩
          rintro ⟨w, h1, h2, h3, h4⟩
          have w0 : 0 ≤ w := Int32.le_trans (by rw [e1]; exact nI_pos' (by omega)) h1
          rw [e1] at h1
          rw [e2] at h2
          have ew := (nix w0).symm
          have a1 : f ≤ ix w := by rw [ew, nI_leI (by omega) (ix_31 w)] at h1; exact h1
          have a2 := ix_le w0 h2 (by omega)
          rw [ew] at h3 h4
          exact hn (ix w) a1 (by omega) ⟨h3, h4⟩
        · rw [ixn (show i < 2 ^ 31 by omega), eT, e2]; exact nI_lt (by omega) (by omega)
      | succ m ih =>
        intro j N hj hf hk hn
        have eT : a_findTo N = a_findTo M := hk.a rfl
        have nx : ∀ N, kept M N → ¬ (dugP M i p (nI j) t ∧ meantP B M (hdM M i) i p (nI j)) → T_mayBe_22 E q (d + 5) (fun r M1 => r = mayV B M (hdM M i) i t ∧ kept M M1) N (nI i) t (bitsP (fun p => dcd (mayP B M (hdM M i) i t p)) p) (nI p) (nI j + 1) := by
          intro N hk z
          rw [nI_s]
          refine ih (j + 1) N (by omega) (by omega) hk (fun j' h1 h2 => ?_)
          by_cases y : j' = j
          · rw [y]; exact z
          · exact hn j' h1 (by omega)
        have hF2 := hF0.kp hk (keptX.rf X)
        refine sg_mayBe_22 ⟨bi, fun z => absurd z ?_, fun _ => ⟨fun z => absurd ?_ z, fun _ => ?_⟩⟩
        · rw [ixn (show i < 2 ^ 31 by omega), eT, e2]; exact nI_nlt (by omega) (by omega)
        · rw [bitsP, bit_0 (bitsN_31 (by omega)) (by omega), bitsN_tb]
          simp
        · refine mB (ct_isDug hF2 (by omega)) (fun r N1 h => ?_)
          obtain ⟨er, rfl⟩ := h
          have er : r = dcd (dugP M i p (nI j) t) := er.trans (hk.to (fun N => dcd (dugP N i p (nI j) t) = dcd (dugP M i p (nI j) t)) rfl)
          subst er
          refine ⟨fun z => nx _ hk (fun y => dcd_f.mp z y.1), fun z => ?_⟩
          refine mB (ct_isMeant hF2 (by omega) (by rw [show nP N1 = nP M by rw [nP, nP, show s_places N1 = s_places M from hk.s 3]]; exact hp)) (fun r N2 h => ?_)
          obtain ⟨er, hk2⟩ := h
          have er : r = dcd (meantP B M (hdM M i) i p (nI j)) := er.trans (hk.to (fun N => dcd (meantP B N (hdM N i) i p (nI j)) = dcd (meantP B M (hdM M i) i p (nI j))) rfl)
          subst er
          refine ⟨fun z2 => nx _ (hk.tr hk2) (fun y => dcd_f.mp z2 y.2), fun z2 => ?_⟩
          have hm : mayP B M (hdM M i) i t p := ⟨nI j, by rw [e1]; exact nI_le hf (by omega), by rw [e2]; exact nI_le (by omega) (by omega), dcd_t.mp z, dcd_t.mp z2⟩
          rw [bitsP_t (by omega) (dcd_t.mpr hm)]
          exact done hm _ _ (hk.tr hk2)
    exact loop (g + 1 - f) f N (by omega) (Nat.le_refl _) hk (fun j' h1 h2 => by omega)
