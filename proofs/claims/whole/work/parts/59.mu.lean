/-! museums -/
def ThOK (M : StM) (k : Nat) : Prop := (0 ≤ a_museumOf M k ∧ a_museumOf M k ≤ 9) ∧ (0 ≤ a_thingMarks M k ∧ a_thingMarks M k ≤ 255)
def RTh (X : StX) (M : StM) : Prop := (xs_Mus_things X = s_things M ∧ xa_Mus_museum X = a_museumOf M ∧ xa_Mus_kind X = a_thingKind M ∧ xa_Mus_marks X = a_thingMarks M ∧ xa_Mus_missing X = a_isGone M ∧ xs_Mus_rowSize X = s_joinMany M) ∧ ((0 ≤ s_things M ∧ s_things M ≤ 60) ∧ (0 ≤ s_joinMany M ∧ s_joinMany M ≤ 8)) ∧ (∀ k, k < ix (s_things M) → ThOK M k) ∧ (∀ k, ix (s_things M) ≤ k → a_isGone M k = 0) ∧ (∀ p, p < ix (s_joinMany M) → xa_Mus_row X p = a_rowOf M p)
def nTh (M : StM) : Nat := ix (s_things M)
theorem RTh.n {X : StX} {M : StM} (h : RTh X M) : s_things M = nI (nTh M) ∧ nTh M ≤ 60 := cnt (n := 60) rfl (by omega) h.2.1.1.1 h.2.1.1.2
def thingOk (M : StM) (m k a : Int32) : Prop := mIn m 0 9 = true ∧ mIn k 0 7 = true ∧ mIn a 0 255 = true ∧ ¬ s_things M = 60
def mAddTh (M : StM) (m k a : Int32) : StM := sI (sA (sA (sA M 70 (upd (a_museumOf M) (ix (s_things M)) m)) 71 (upd (a_thingKind M) (ix (s_things M)) k)) 72 (upd (a_thingMarks M) (ix (s_things M)) a)) 68 (s_things M + 1)
def xAddTh (X : StX) (m k a : Int32) : StX := xI (xA (xA (xA (xA X 63 (upd (xa_Mus_museum X) (ix (xs_Mus_things X)) m)) 64 (upd (xa_Mus_kind X) (ix (xs_Mus_things X)) k)) 65 (upd (xa_Mus_marks X) (ix (xs_Mus_things X)) a)) 66 (upd (xa_Mus_missing X) (ix (xs_Mus_things X)) (vp_nar .boolean 0))) 62 (xs_Mus_things X + 1)
theorem ct_thing {E : EvT} {q : Nat → Nat} {d : Nat} {X : StX} {M : StM} (hT : RTh X M) {m k a : Int32} (P : Int32 → StM → Prop) (h1 : ¬ thingOk M m k a → P (-1) M) (h2 : thingOk M m k a → P (s_things M + 1 - 1) (mAddTh M m k a)) : C_thing E q (d + 1) m k a M P := by
  have hn := hT.2.1.1
  exact en_thing ⟨fun e => h1 (fun z => by rw [z.1] at e; cases e), fun e1 => ⟨fun e => h1 (fun z => by rw [z.2.1] at e; cases e), fun e2 => ⟨fun e => h1 (fun z => by rw [z.2.2.1] at e; cases e), fun e3 => ⟨fun e4 => ⟨by grind, h2 ⟨e1, e2, e3, e4⟩⟩, fun e => h1 (fun z => z.2.2.2 e)⟩⟩⟩⟩
theorem ct_City_thing {E : EvT} {q : Nat → Nat} {d : Nat} {X : StX} {M : StM} (hT : RTh X M) {m k a : Int32} (P : Int32 → StX → Prop) (h1 : ¬ thingOk M m k a → P (-1) X) (h2 : thingOk M m k a → P (s_things M + 1 - 1) (xAddTh X m k a)) : C_City_thing E q (d + 1) m k a X P := by
  have hn := hT.2.1.1
  have es := hT.1.1
  refine en_City_thing ⟨fun e => h1 (fun z => by rw [z.1] at e; cases e), fun e1 => ⟨fun e2 => ⟨fun e => h1 (fun z => by rw [z.2.2.1] at e; cases e), fun e3 => ⟨fun e4 => en_Mus_add ⟨?_, ?_⟩, fun e => h1 (fun z => ?_)⟩⟩, fun e => h1 (fun z => by rw [z.2.1] at e; cases e)⟩⟩
  · rw [es] at e4 ⊢; exact ⟨hn.1, e4⟩
  · have := h2 ⟨e1, e2, e3, by rw [es] at e4; grind⟩
    rw [← es] at this
    exact this
  · rw [es] at e; have := z.2.2.2; grind
theorem RTh.add {X : StX} {M : StM} (hT : RTh X M) {m k a : Int32} (ok : thingOk M m k a) : RTh (xAddTh X m k a) (mAddTh M m k a) := by
  obtain ⟨en, n60⟩ := hT.n
  obtain ⟨⟨c1, c2, c3, c4, c5, c6⟩, ⟨⟨n0, n1⟩, j⟩, hok, hg, hr⟩ := hT
  obtain ⟨k1, k2, k3, k4⟩ := ok
  have hlt : nTh M < 60 := by
    rcases Nat.lt_or_ge (nTh M) 60 with z | z
    · exact z
    · exact absurd (by rw [en, show nTh M = 60 by omega]; rfl) k4
  have hs : ix (s_things M + 1) = nTh M + 1 := by rw [en, nI_s, ixn (by omega)]
  refine ⟨⟨?_, ?_, ?_, ?_, ?_, c6⟩, ⟨⟨?_, ?_⟩, j⟩, fun i hi => ?_, fun i hi => ?_, hr⟩
  · show xs_Mus_things X + 1 = s_things M + 1
    rw [c1]
  · show upd (xa_Mus_museum X) (ix (xs_Mus_things X)) m = upd (a_museumOf M) (ix (s_things M)) m
    rw [c1, c2]
  · show upd (xa_Mus_kind X) (ix (xs_Mus_things X)) k = upd (a_thingKind M) (ix (s_things M)) k
    rw [c1, c3]
  · show upd (xa_Mus_marks X) (ix (xs_Mus_things X)) a = upd (a_thingMarks M) (ix (s_things M)) a
    rw [c1, c4]
  · show upd (xa_Mus_missing X) (ix (xs_Mus_things X)) (vp_nar .boolean 0) = a_isGone M
    rw [c1, c5, nb01.2]
    funext i
    by_cases e : i = ix (s_things M)
    · subst e; rw [upd_eq]; exact (hg _ (Nat.le_refl _)).symm
    · rw [upd_ne e]
  · show 0 ≤ s_things M + 1
    grind
  · show s_things M + 1 ≤ 60
    grind
  · have hi : i < ix (s_things M + 1) := hi
    rw [hs] at hi
    show (0 ≤ upd (a_museumOf M) (nTh M) m i ∧ upd (a_museumOf M) (nTh M) m i ≤ 9) ∧ (0 ≤ upd (a_thingMarks M) (nTh M) a i ∧ upd (a_thingMarks M) (nTh M) a i ≤ 255)
    by_cases e : i = nTh M
    · subst e
      rw [upd_eq, upd_eq]
      simp only [mIn, decide_eq_true_eq] at k1 k3
      exact ⟨k1, k3⟩
    · rw [upd_ne e, upd_ne e]
      exact hok i (by show i < nTh M; omega)
  · have hi : ix (s_things M + 1) ≤ i := hi
    rw [hs] at hi
    exact hg i (by show nTh M ≤ i; omega)
/-! gone -/
def goneOk (M : StM) (k v : Int32) : Prop := mThing M k = true ∧ ¬ a_isGone M (ix k) = v
theorem mThing_n {X : StX} {M : StM} (hT : RTh X M) {i : Int32} (h : mThing M i = true) : ix i < nTh M ∧ i = nI (ix i) ∧ (0 ≤ i ∧ i < 60) := by
  obtain ⟨en, n60⟩ := hT.n
  rw [mThing, decide_eq_true_eq] at h
  exact ⟨ix_lt h.1 (by rw [← en]; exact h.2) (by omega), (nix h.1).symm, h.1, Int32.lt_of_lt_of_le h.2 hT.2.1.1.2⟩
theorem pThing_eq {X : StX} {M : StM} (hT : RTh X M) (i : Int32) : mIn i 0 (xs_Mus_things X - 1) = mThing M i := by
  have := hT.2.1.1
  rw [mThing, hT.1.1, mIn]
  grind
theorem ct_gone {E : EvT} {q : Nat → Nat} {d : Nat} {X : StX} {M : StM} (hT : RTh X M) {k v : Int32} (P : Bool → StM → Prop) (h1 : ¬ goneOk M k v → P false M) (h2 : goneOk M k v → P true (sA M 76 (upd (a_isGone M) (ix k) (vp_nar .boolean v)))) : C_gone E q (d + 1) k v M P :=
  en_gone ⟨fun e => h1 (fun z => by rw [z.1] at e; cases e), fun e1 => ⟨(mThing_n hT e1).2.2, fun e2 => h2 ⟨e1, e2⟩, fun e2 => h1 (fun z => z.2 e2)⟩⟩
theorem ct_City_gone {E : EvT} {q : Nat → Nat} {d : Nat} {X : StX} {M : StM} (hT : RTh X M) {k v : Int32} (P : Bool → StX → Prop) (h1 : ¬ goneOk M k v → P false X) (h2 : goneOk M k v → P true (xA X 66 (upd (xa_Mus_missing X) (ix k) (vp_nar .boolean v)))) : C_City_gone E q (d + 1) k v X P := by
  refine en_City_gone ?_
  rw [pThing_eq hT]
  refine ⟨fun e => h1 (fun z => by rw [z.1] at e; cases e), fun e1 => ⟨(mThing_n hT e1).2.2, ?_⟩⟩
  rw [hT.1.2.2.2.2.1] at h2 ⊢
  exact ⟨fun e2 => h2 ⟨e1, e2⟩, fun e2 => h1 (fun z => z.2 e2)⟩
theorem RTh.gone {X : StX} {M : StM} (hT : RTh X M) {k v : Int32} (ok : goneOk M k v) : RTh (xA X 66 (upd (xa_Mus_missing X) (ix k) (vp_nar .boolean v))) (sA M 76 (upd (a_isGone M) (ix k) (vp_nar .boolean v))) := by
  obtain ⟨k1, k2, k3⟩ := mThing_n hT ok.1
  obtain ⟨⟨c1, c2, c3, c4, c5, c6⟩, n, hok, hg, hr⟩ := hT
  refine ⟨⟨c1, c2, c3, c4, ?_, c6⟩, n, hok, fun i hi => ?_, hr⟩
  · show upd (xa_Mus_missing X) (ix k) _ = upd (a_isGone M) (ix k) _
    rw [c5]
  · have hi : nTh M ≤ i := hi
    show upd (a_isGone M) (ix k) _ i = 0
    rw [upd_ne (by omega)]
    exact hg i hi
/-! like -/
def tmN (M : StM) (i k : Nat) : Nat := ix (a_findMarks M i) ^^^ ix (a_thingMarks M k)
def agV (M : StM) (i k : Nat) : Int32 := nI (8 - pcB 32 (tmN M i k))
def agS (x : Int32) : Nat → Int32
  | 0 => 8
  | b + 1 => agS x b - ((x >>> (nI b &&& 31)) &&& 1)
theorem agS_8 : ∀ v, v < 256 → agS (nI v) 8 = nI (8 - pcB 32 v) ∧ pcB 32 v ≤ 8 := by decide +kernel
def MH (B : BkT) (X : StX) (M : StM) : Prop := RFi X M ∧ RTh X M ∧ RRu B X M
theorem MH.kp {B : BkT} {X Y : StX} {M N : StM} (hR : MH B X M) (h : kept M N) (h2 : keptX X Y) : MH B Y N := h.to (MH B Y) (h2.to (fun Y => MH B Y (kpM M N)) hR)
theorem MH.mk {B : BkT} {X : StX} {M : StM} (h : MH B X M) {i k : Nat} (hi : i < nFi M) (hk : k < nTh M) : a_findMarks M i ^^^ a_thingMarks M k = nI (tmN M i k) ∧ tmN M i k < 256 := by
  obtain ⟨-, -, -, -, a1, a2⟩ := h.1.2.2 i hi
  obtain ⟨-, b1, b2⟩ := h.2.1.2.2.1 k hk
  have e1 := (nix a1).symm
  have e2 := (nix b1).symm
  have l1 := ix_le (n := 255) a1 a2 (by omega)
  have l2 := ix_le (n := 255) b1 b2 (by omega)
  refine ⟨?_, Nat.xor_lt_two_pow (n := 8) (by omega) (by omega)⟩
  rw [e1, e2, nxor, tmN]
def wantV (B : BkT) (M : StM) (i : Nat) : Int32 := numV B M (fcF (a_findFrom M i) (a_findHand M i) (a_findKind M i) (a_findMarks M i) (-1)) 97 8
def cbP (B : BkT) (M : StM) (i k : Nat) : Prop := a_findKind M i = a_thingKind M k ∧ ¬ agV M i k < wantV B M i
def likeP (B : BkT) (M : StM) (i k : Nat) : Prop := a_isGone M k = 0 ∧ cbP B M i k
theorem ct_agreeing {E : EvT} {q : Nat → Nat} {d : Nat} {B : BkT} {X : StX} {M : StM} (h : MH B X M) {i k : Nat} (hi : i < nFi M) (hk : k < nTh M) : C_agreeing E q d (nI i) (nI k) M (fun r M1 => r = agV M i k ∧ M1 = M) := by
  obtain ⟨e1, e2⟩ := h.mk hi hk
  have n1 := h.1.n.2
  have n2 := h.2.1.n.2
  refine en_agreeing ?_
  refine up_s (W := 8) (T := fun b y => T_agreeing_6 E q d (fun r M1 => r = agV M i k ∧ M1 = M) M (nI i) (nI k) y (nI b)) (J := fun b y => y = agS (nI (tmN M i k)) b) ?_ ?_ 0 8 (by omega) rfl
  · intro y hy
    exact sg_agreeing_6 ⟨fun _ => ⟨hy.trans (agS_8 _ e2).1, rfl⟩, fun z => absurd (by decide) z⟩
  · intro b y hb hy kk
    refine sg_agreeing_6 ⟨fun z => absurd z (nle_nI (n := 8) hb (by omega) rfl), fun _ => ⟨bnd (n := 150) (by omega) (by omega) rfl, bnd (n := 60) (by omega) (by omega) rfl, fun v hv => ?_⟩⟩
    rw [ixn (show i < 2 ^ 31 by omega), ixn (show k < 2 ^ 31 by omega), e1, hy] at hv
    rw [nI_s]
    exact kk v hv
theorem ct_Mus_agreeing {E : EvT} {q : Nat → Nat} {d : Nat} {B : BkT} {X : StX} {M : StM} (h : MH B X M) {i k : Nat} (hi : i < nFi M) (hk : k < nTh M) : C_Mus_agreeing E q (d + 1) (nI i) (nI k) X (fun r X1 => r = agV M i k ∧ X1 = X) := by
  obtain ⟨e1, e2⟩ := h.mk hi hk
  have n1 := h.1.n.2
  have n2 := h.2.1.n.2
  refine en_Mus_agreeing ⟨bnd (n := 150) (by omega) (by omega) rfl, bnd (n := 60) (by omega) (by omega) rfl, ?_⟩
  rw [ixn (show i < 2 ^ 31 by omega), ixn (show k < 2 ^ 31 by omega), h.1.1.2.2.2.2.2.2.2.2.1, h.2.1.1.2.2.2.1, e1]
  refine mIx (ct_Jbits (by omega)) (fun r X1 hh => ?_)
  obtain ⟨rfl, rfl⟩ := hh
  refine ⟨?_, rfl⟩
  rw [agV, show (8 : Int32) = nI 8 from rfl, pk_sub (agS_8 _ e2).2]
theorem ct_couldBe {E : EvT} {q : Nat → Nat} {d : Nat} {B : BkT} {X : StX} {M : StM} (h : MH B X M) {i k : Nat} (hi : i < nFi M) (hk : k < nTh M) : C_couldBe E q (d + 4) (nI i) (nI k) M (fun r M1 => r = dcd (cbP B M i k) ∧ ∃ l t s, M1 = mFx M l t s) := by
  have n1 := h.1.n.2
  have n2 := h.2.1.n.2
  refine en_couldBe ⟨bnd (n := 150) (by omega) (by omega) rfl, bnd (n := 60) (by omega) (by omega) rfl, ?_⟩
  rw [ixn (show i < 2 ^ 31 by omega), ixn (show k < 2 ^ 31 by omega)]
  refine ⟨fun e => ?_, fun e => ⟨(dcd_f.mpr (fun z => e z.1)).symm, _, _, _, mFx_self M⟩⟩
  refine mV (ct_setsFacts (Or.inl rfl)) (fun M1 h1 => ?_)
  obtain ⟨l, rfl, hl⟩ := h1
  refine mI (ct_agreeing (show MH B X (sA M 56 l) from h) hi hk) (fun r M1 h1 => ?_)
  obtain ⟨er, rfl⟩ := h1
  refine mI (ct_numberBy (show RRu B X (sA M 56 l) from h.2.2) hl (L := 97) (by omega)) (fun r2 M1 h2 => ?_)
  obtain ⟨er2, t, s, rfl⟩ := h2
  have er : r = agV M i k := er
  have er2 : r2 = wantV B M i := er2
  rw [er, er2]
  exact ⟨fun z => ⟨(dcd_f.mpr (fun y => y.2 z)).symm, l, t, s, rfl⟩, fun z => ⟨(dcd_t.mpr ⟨e, z⟩).symm, l, t, s, rfl⟩⟩
theorem mFx_kp {M N : StM} (h : kept M N) (l t s : Nat → Int32) : kept M (mFx N l t s) := (h.sA rfl l).nb t s
theorem xFx_kp {X Y : StX} (h : keptX X Y) (l u s : Nat → Int32) : keptX X (xFx Y l u s) := (h.xA rfl l).nb u s
theorem ct_isLike {E : EvT} {q : Nat → Nat} {d : Nat} {B : BkT} {X : StX} {M : StM} (h : MH B X M) {i k : Nat} (hi : i < nFi M) (hk : k < nTh M) : C_isLike E q (d + 5) (nI i) (nI k) M (fun r M1 => r = dcd (likeP B M i k) ∧ ∃ l t s, M1 = mFx M l t s) := by
  have n2 := h.2.1.n.2
  refine en_isLike ⟨bnd (n := 60) (by omega) (by omega) rfl, ?_⟩
  rw [ixn (show k < 2 ^ 31 by omega)]
  refine ⟨fun e => ⟨(dcd_f.mpr (fun z => e z.1)).symm, _, _, _, mFx_self M⟩, fun e => mB (ct_couldBe h hi hk) (fun r M1 h1 => ?_)⟩
  obtain ⟨rfl, h2⟩ := h1
  exact ⟨fun z => ⟨(dcd_f.mpr (fun y => dcd_f.mp z y.2)).symm, h2⟩, fun z => ⟨(dcd_t.mpr ⟨e, dcd_t.mp z⟩).symm, h2⟩⟩
theorem ct_Mus_marksNeeded {E : EvT} {q : Nat → Nat} {d : Nat} {B : BkT} {X : StX} {M : StM} (h : MH B X M) {i : Nat} (hi : i < nFi M) : C_Mus_marksNeeded E q (d + 6) (nI i) X (fun r X1 => r = wantV B M i ∧ ∃ l u s, X1 = xFx X l u s) := by
  have n1 := h.1.n.2
  obtain ⟨c1, c2, c3, c4, c5, c6, c7, c8, c9, c10⟩ := h.1.1
  refine en_Mus_marksNeeded (en_Finds_askFor ⟨bnd (n := 150) (by omega) (by omega) rfl, ?_⟩)
  rw [ixn (show i < 2 ^ 31 by omega), c2, c3, c8, c9]
  refine mVx ct_Book_ask (fun X1 h1 => ?_)
  obtain ⟨l, rfl, hl⟩ := h1
  refine mIx (ct_Book_marksWanted (show RRu B (xA X 104 l) M from h.2.2) hl) (fun r X1 h1 => ?_)
  obtain ⟨er, u, s, rfl⟩ := h1
  exact ⟨er, l, u, s, rfl⟩
theorem ct_Mus_fits {E : EvT} {q : Nat → Nat} {d : Nat} {B : BkT} {X : StX} {M : StM} (h : MH B X M) {i k : Nat} (hi : i < nFi M) (hk : k < nTh M) : C_Mus_fits E q (d + 2) (nI i) (nI k) (wantV B M i) X (fun r X1 => r = dcd (cbP B M i k) ∧ X1 = X) := by
  have n1 := h.1.n.2
  have n2 := h.2.1.n.2
  refine en_Mus_fits ⟨bnd (n := 150) (by omega) (by omega) rfl, bnd (n := 60) (by omega) (by omega) rfl, ?_⟩
  rw [ixn (show i < 2 ^ 31 by omega), ixn (show k < 2 ^ 31 by omega), h.1.1.2.2.2.2.2.2.2.1, h.2.1.1.2.2.1]
  refine ⟨fun e => ⟨(dcd_f.mpr (fun z => e z.1)).symm, rfl⟩, fun e => mIx (ct_Mus_agreeing h hi hk) (fun r X1 h1 => ?_)⟩
  obtain ⟨rfl, rfl⟩ := h1
  exact ⟨fun z => ⟨(dcd_f.mpr (fun y => y.2 z)).symm, rfl⟩, fun z => ⟨(dcd_t.mpr ⟨e, z⟩).symm, rfl⟩⟩
def lkOk (M : StM) (i k : Int32) : Prop := mFind M i = true ∧ mThing M k = true
noncomputable def lkV (B : BkT) (M : StM) (i k : Int32) : Int32 := b2i (dcd (likeP B M (ix i) (ix k)))
def likR (B : BkT) (M : StM) (i k r : Int32) : Prop := (¬ lkOk M i k → r = -1) ∧ (lkOk M i k → r = lkV B M i k)
theorem likR.one {B : BkT} {M : StM} {i k r r' : Int32} (h1 : likR B M i k r) (h2 : likR B M i k r') : r = r' := by
  rcases Classical.em (lkOk M i k) with z | z
  · rw [h1.2 z, h2.2 z]
  · rw [h1.1 z, h2.1 z]
theorem ct_like {E : EvT} {q : Nat → Nat} {d : Nat} {B : BkT} {X : StX} {M : StM} (h : MH B X M) {i k : Int32} : C_like E q (d + 6) i k M (fun r M1 => likR B M i k r ∧ kept M M1) := by
  have bad : ¬ lkOk M i k → likR B M i k (-1) ∧ kept M M := fun z => ⟨⟨fun _ => rfl, fun y => absurd y z⟩, kept.rf M⟩
  refine en_like ⟨fun e => bad (fun z => by rw [z.1] at e; cases e), fun e1 => ⟨fun e2 => ?_, fun e => bad (fun z => by rw [z.2] at e; cases e)⟩⟩
  obtain ⟨a1, a2, a3⟩ := mFind_n h.1 e1
  obtain ⟨b1, b2, b3⟩ := mThing_n h.2.1 e2
  have := ct_isLike (E := E) (q := q) (d := d) h a1 b1
  rw [← a2, ← b2] at this
  refine mB this (fun r M1 h1 => ?_)
  obtain ⟨rfl, l, t, s, rfl⟩ := h1
  have hk := mFx_kp (kept.rf M) l t s
  refine ⟨fun z => ⟨⟨fun y => absurd ⟨e1, e2⟩ y, fun _ => ?_⟩, hk⟩, fun z => ⟨⟨fun y => absurd ⟨e1, e2⟩ y, fun _ => ?_⟩, hk⟩⟩
  · rw [lkV, z]; rfl
  · rw [lkV, z]; rfl
theorem ct_City_like {E : EvT} {q : Nat → Nat} {d : Nat} {B : BkT} {X : StX} {M : StM} (h : MH B X M) {i k : Int32} : C_City_like E q (d + 7) i k X (fun r X1 => likR B M i k r ∧ keptX X X1) := by
  have bad : ¬ lkOk M i k → likR B M i k (-1) ∧ keptX X X := fun z => ⟨⟨fun _ => rfl, fun y => absurd y z⟩, keptX.rf X⟩
  refine en_City_like ?_
  rw [pFind_eq h.1, pThing_eq h.2.1, h.2.1.1.2.2.2.2.1]
  refine ⟨fun e => bad (fun z => by rw [z.1] at e; cases e), fun e1 => ⟨fun e2 => ?_, fun e => bad (fun z => by rw [z.2] at e; cases e)⟩⟩
  obtain ⟨a1, a2, a3⟩ := mFind_n h.1 e1
  obtain ⟨b1, b2, b3⟩ := mThing_n h.2.1 e2
  have fin : ∀ r X1, keptX X X1 → r = lkV B M i k → likR B M i k r ∧ keptX X X1 := fun r X1 hk hr => ⟨⟨fun y => absurd ⟨e1, e2⟩ y, fun _ => hr⟩, hk⟩
  refine ⟨b3, fun e3 => fin _ _ (keptX.rf X) ?_, fun e3 => ?_⟩
  · rw [lkV, dcd_f.mpr (fun z => e3 z.1)]; rfl
  · have := ct_Mus_marksNeeded (E := E) (q := q) (d := d) h a1
    rw [← a2] at this
    refine mIx this (fun r X1 h1 => ?_)
    obtain ⟨rfl, l, u, s, rfl⟩ := h1
    have hk := xFx_kp (keptX.rf X) l u s
    have := ct_Mus_fits (E := E) (q := q) (d := d + 4) (h.kp (kept.rf M) hk) a1 b1
    rw [← a2, ← b2] at this
    refine mBx this (fun r X1 h1 => ?_)
    obtain ⟨rfl, rfl⟩ := h1
    refine ⟨fun z => fin _ _ hk ?_, fun z => fin _ _ hk ?_⟩
    · rw [lkV, dcd_f.mpr (fun y => dcd_f.mp z y.2)]; rfl
    · rw [lkV, dcd_t.mpr ⟨e3, dcd_t.mp z⟩]; rfl
/-! joined -/
def jdV (M : StM) (i : Int32) : Int32 := if 0 ≤ i ∧ i < s_joinMany M then a_rowOf M (ix i) else -1
theorem ct_joined {E : EvT} {q : Nat → Nat} {d : Nat} {X : StX} {M : StM} (hT : RTh X M) {i : Int32} : C_joined E q d i M (fun r M1 => r = jdV M i ∧ M1 = M) := by
  have := hT.2.1.2.2
  refine en_joined ⟨fun e => ⟨?_, rfl⟩, fun e1 => ⟨fun e => ⟨?_, rfl⟩, fun e2 => ⟨⟨Int32.not_lt.mp e1, Int32.lt_of_lt_of_le (Int32.not_le.mp e2) this⟩, ?_, rfl⟩⟩⟩
  · rw [jdV, if_neg (fun z => absurd z.1 (Int32.not_le.mpr e))]
  · rw [jdV, if_neg (fun z => absurd z.2 (Int32.not_lt.mpr e))]
  · rw [jdV, if_pos ⟨Int32.not_lt.mp e1, Int32.not_le.mp e2⟩]
theorem ct_City_joined {E : EvT} {q : Nat → Nat} {d : Nat} {X : StX} {M : StM} (hT : RTh X M) {i : Int32} : C_City_joined E q (d + 1) i X (fun r X1 => r = jdV M i ∧ X1 = X) := by
  have hj := hT.2.1.2
  refine en_City_joined ?_
  rw [hT.1.2.2.2.2.2]
  have iff : mIn i 0 (s_joinMany M - 1) = true ↔ (0 ≤ i ∧ i < s_joinMany M) := by rw [mIn, decide_eq_true_eq]; grind
  refine ⟨fun e => ⟨?_, rfl⟩, fun e => ?_⟩
  · rw [jdV, if_neg (fun z => by rw [iff.mpr z] at e; cases e)]
  · have z := iff.mp e
    refine ⟨⟨z.1, Int32.lt_of_lt_of_le z.2 hj.2⟩, ?_, rfl⟩
    rw [jdV, if_pos z]
    obtain ⟨en, n8⟩ := cnt (n := 8) rfl (by omega) hj.1 hj.2
    exact hT.2.2.2.2 _ (ix_lt z.1 (by rw [← en]; exact z.2) (by omega))
