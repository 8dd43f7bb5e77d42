/-! ash, above, height, hollow, hour -/
def ashOk (l f t : Int32) : Prop := mLayer l = true ∧ mIn f 0 99 = true ∧ mIn t f 99 = true
def mAsh (M : StM) (l f t : Int32) : StM := sA (sA M 91 (upd (a_hourFrom M) (ix l) f)) 92 (upd (a_hourTo M) (ix l) t)
def xAsh (X : StX) (l f t : Int32) : StX := xA (xA X 1 (upd (xa_Fall_from X) (ix l) f)) 2 (upd (xa_Fall_to X) (ix l) t)
theorem mLayer_b {l : Int32} (h : mLayer l = true) : 0 ≤ l ∧ l < 8 := by
  rw [mLayer, decide_eq_true_eq] at h; exact h
theorem ct_ash {E : EvT} {q : Nat → Nat} {d : Nat} {M : StM} {l f t : Int32} (P : Bool → StM → Prop) (h1 : ¬ ashOk l f t → P false M) (h2 : ashOk l f t → P true (mAsh M l f t)) : C_ash E q (d + 1) l f t M P :=
  en_ash ⟨fun e => h1 (fun z => by rw [z.1] at e; cases e), fun e1 => ⟨fun e => h1 (fun z => by rw [z.2.1] at e; cases e), fun e2 => ⟨fun e3 => ⟨mLayer_b e1, h2 ⟨e1, e2, e3⟩⟩, fun e => h1 (fun z => by rw [z.2.2] at e; cases e)⟩⟩⟩
theorem pSpan_iff {f t : Int32} : pSpan f t 99 = true ↔ mIn f 0 99 = true ∧ mIn t f 99 = true := by
  grind [pSpan, mIn]
theorem ct_City_ash {E : EvT} {q : Nat → Nat} {d : Nat} {X : StX} {l f t : Int32} (P : Bool → StX → Prop) (h1 : ¬ ashOk l f t → P false X) (h2 : ashOk l f t → P true (xAsh X l f t)) : C_City_ash E q (d + 2) l f t X P :=
  en_City_ash ⟨fun e => h1 (fun z => by rw [z.1] at e; cases e), fun e1 => ⟨fun e2 => ⟨mLayer_b e1, h2 ⟨e1, (pSpan_iff.mp e2).1, (pSpan_iff.mp e2).2⟩⟩, fun e => h1 (fun z => by rw [pSpan_iff.mpr ⟨z.2.1, z.2.2⟩] at e; cases e)⟩⟩
theorem RAs.ash {X : StX} {M : StM} (hA : RAs X M) {l f t : Int32} (ok : ashOk l f t) : RAs (xAsh X l f t) (mAsh M l f t) := by
  obtain ⟨⟨c1, c2, c3, c4, c5, c6, c7, c8, c9⟩, n, g1, g2, g3, g4⟩ := hA
  refine ⟨⟨c1, c2, c3, ?_, ?_, c6, c7, c8, c9⟩, n, g1, fun v hv => ?_, g3, g4⟩
  · show upd (xa_Fall_from X) (ix l) f = upd (a_hourFrom M) (ix l) f
    rw [c4]
  · show upd (xa_Fall_to X) (ix l) t = upd (a_hourTo M) (ix l) t
    rw [c5]
  · show 0 ≤ upd (a_hourFrom M) (ix l) f v ∧ upd (a_hourFrom M) (ix l) f v ≤ upd (a_hourTo M) (ix l) t v ∧ upd (a_hourTo M) (ix l) t v ≤ 99
    by_cases c : v = ix l
    · subst c
      rw [upd_eq, upd_eq]
      obtain ⟨-, k2, k3⟩ := ok
      grind [mIn]
    · rw [upd_ne c, upd_ne c]
      exact g2 v hv
def aboveOk (M : StM) (a b : Int32) : Prop := mLayer a = true ∧ mLayer b = true ∧ ¬ a = b ∧ ¬ s_cuts M = 40
def mCut (M : StM) (a b : Int32) : StM := sI (sA (sA M 93 (upd (a_cutA M) (ix (s_cuts M)) a)) 94 (upd (a_cutB M) (ix (s_cuts M)) b)) 89 (s_cuts M + 1)
def xCut (X : StX) (a b : Int32) : StX := xI (xA (xA X 6 (upd (xa_Fall_upper X) (ix (xs_Fall_cuts X)) a)) 7 (upd (xa_Fall_lower X) (ix (xs_Fall_cuts X)) b)) 5 (xs_Fall_cuts X + 1)
theorem ct_above {E : EvT} {q : Nat → Nat} {d : Nat} {X : StX} {M : StM} (hA : RAs X M) {a b : Int32} (P : Bool → StM → Prop) (h1 : ¬ aboveOk M a b → P false M) (h2 : aboveOk M a b → P true (mCut M a b)) : C_above E q (d + 1) a b M P := by
  have := hA.2.1.1
  exact en_above ⟨fun e => h1 (fun z => by rw [z.1] at e; cases e), fun e1 => ⟨fun e => h1 (fun z => by rw [z.2.1] at e; cases e), fun e2 => ⟨fun e => h1 (fun z => z.2.2.1 e), fun e3 => ⟨fun e4 => ⟨by grind, h2 ⟨e1, e2, e3, e4⟩⟩, fun e => h1 (fun z => z.2.2.2 e)⟩⟩⟩⟩
theorem ct_City_above {E : EvT} {q : Nat → Nat} {d : Nat} {X : StX} {M : StM} (hA : RAs X M) {a b : Int32} (P : Bool → StX → Prop) (h1 : ¬ aboveOk M a b → P false X) (h2 : aboveOk M a b → P true (xCut X a b)) : C_City_above E q (d + 2) a b X P := by
  have hn := hA.2.1.1
  have ec := hA.1.1
  exact en_City_above ⟨fun e => h1 (fun z => by rw [z.1] at e; cases e), fun e1 => ⟨fun e => h1 (fun z => by rw [z.2.1] at e; cases e), fun e2 => ⟨fun e => h1 (fun z => z.2.2.1 e), fun e3 => ⟨fun e4 => en_Fall_cut ⟨by rw [ec] at e4 ⊢; exact ⟨hn.1, e4⟩, h2 ⟨e1, e2, e3, fun z => by rw [ec, z] at e4; exact absurd e4 (by decide)⟩⟩, fun e => h1 (fun z => by rw [ec] at e; have := z.2.2.2; grind)⟩⟩⟩⟩
theorem RAs.above {X : StX} {M : StM} (hA : RAs X M) {a b : Int32} (ok : aboveOk M a b) : RAs (xCut X a b) (mCut M a b) := by
  obtain ⟨en, n40⟩ := hA.cu
  obtain ⟨⟨c1, c2, c3, c4, c5, c6, c7, c8, c9⟩, ⟨n1, n2⟩, g1, g2, g3, g4⟩ := hA
  obtain ⟨k1, k2, k3, k4⟩ := ok
  have hlt : nCu M < 40 := by
    rcases Nat.lt_or_ge (nCu M) 40 with z | z
    · exact z
    · exact absurd (by rw [en, show nCu M = 40 by omega]; rfl) k4
  have hs : ix (s_cuts M + 1) = nCu M + 1 := by rw [en, nI_s, ixn (by omega)]
  refine ⟨⟨?_, ?_, ?_, c4, c5, c6, c7, c8, c9⟩, ⟨?_, n2⟩, fun i hi => ?_, g2, g3, g4⟩
  · show xs_Fall_cuts X + 1 = s_cuts M + 1
    rw [c1]
  · show upd (xa_Fall_upper X) (ix (xs_Fall_cuts X)) a = upd (a_cutA M) (ix (s_cuts M)) a
    rw [c1, c2]
  · show upd (xa_Fall_lower X) (ix (xs_Fall_cuts X)) b = upd (a_cutB M) (ix (s_cuts M)) b
    rw [c1, c3]
  · show 0 ≤ s_cuts M + 1 ∧ s_cuts M + 1 ≤ 40
    grind
  · have hi : i < ix (s_cuts M + 1) := hi
    rw [hs] at hi
    show (0 ≤ upd (a_cutA M) (nCu M) a i ∧ upd (a_cutA M) (nCu M) a i < 8) ∧ (0 ≤ upd (a_cutB M) (nCu M) b i ∧ upd (a_cutB M) (nCu M) b i < 8)
    by_cases c : i = nCu M
    · subst c
      rw [upd_eq, upd_eq]
      exact ⟨mLayer_b k1, mLayer_b k2⟩
    · rw [upd_ne c, upd_ne c]
      exact g1 i (by show i < nCu M; omega)
def heightOk (M : StM) (c h : Int32) : Prop := mCell M c = true ∧ mIn h 0 8 = true
def mHei (M : StM) (c h : Int32) : StM := sA M 5 (upd (a_heightOf M) (ix c) h)
def xHei (X : StX) (c h : Int32) : StX := xA X 8 (upd (xa_Fall_height X) (ix c) h)
theorem mCell_b {X : StX} {M : StM} (hB : RB X M) {c : Int32} (h : mCell M c = true) : 0 ≤ c ∧ c < 100 := by
  obtain ⟨ew, w4, w10⟩ := hB.w
  obtain ⟨eh, h4, h10⟩ := hB.h
  obtain ⟨k, hk, rfl⟩ := (mCell_n ew eh w10 h10).mp h
  have : nW M * nH M ≤ 100 := Nat.mul_le_mul w10 h10
  exact bnd (n := 100) (by omega) (by omega) rfl
theorem ct_height {E : EvT} {q : Nat → Nat} {d : Nat} {X : StX} {M : StM} (hB : RB X M) {c h : Int32} (P : Bool → StM → Prop) (h1 : ¬ heightOk M c h → P false M) (h2 : heightOk M c h → P true (mHei M c h)) : C_height E q (d + 1) c h M P :=
  en_height ⟨fun e => h1 (fun z => by rw [z.1] at e; cases e), fun e1 => ⟨fun e2 => ⟨mCell_b hB e1, h2 ⟨e1, e2⟩⟩, fun e => h1 (fun z => by rw [z.2] at e; cases e)⟩⟩
theorem ct_City_height {E : EvT} {q : Nat → Nat} {d : Nat} {X : StX} {M : StM} (hB : RB X M) {c h : Int32} (P : Bool → StX → Prop) (h1 : ¬ heightOk M c h → P false X) (h2 : heightOk M c h → P true (xHei X c h)) : C_City_height E q (d + 2) c h X P := by
  refine en_City_height ?_
  rw [pCell_eq hB]
  exact ⟨fun e => h1 (fun z => by rw [z.1] at e; cases e), fun e1 => ⟨fun e2 => ⟨mCell_b hB e1, h2 ⟨e1, e2⟩⟩, fun e => h1 (fun z => by rw [z.2] at e; cases e)⟩⟩
theorem RAs.height {X : StX} {M : StM} (hA : RAs X M) {c h : Int32} (ok : heightOk M c h) : RAs (xHei X c h) (mHei M c h) := by
  obtain ⟨⟨c1, c2, c3, c4, c5, c6, c7, c8, c9⟩, n, g1, g2, g3, g4⟩ := hA
  refine ⟨⟨c1, c2, c3, c4, c5, ?_, c7, c8, c9⟩, n, g1, g2, g3, fun v hv => ?_⟩
  · show upd (xa_Fall_height X) (ix c) h = upd (a_heightOf M) (ix c) h
    rw [c6]
  · show 0 ≤ upd (a_heightOf M) (ix c) h v ∧ upd (a_heightOf M) (ix c) h v ≤ 8
    by_cases e : v = ix c
    · subst e
      rw [upd_eq]
      have := ok.2
      grind [mIn]
    · rw [upd_ne e]
      exact g4 v hv
def hollowOk (M : StM) (c l : Int32) : Prop := mCell M c = true ∧ mLayer l = true ∧ ¬ s_hollows M = 40
def mHol (M : StM) (c l : Int32) : StM := sI (sA (sA M 97 (upd (a_hollowCell M) (ix (s_hollows M)) c)) 98 (upd (a_hollowLayer M) (ix (s_hollows M)) l)) 90 (s_hollows M + 1)
def xHol (X : StX) (c l : Int32) : StX := xI (xA (xA X 10 (upd (xa_Fall_hollowCell X) (ix (xs_Fall_hollows X)) c)) 11 (upd (xa_Fall_hollowLayer X) (ix (xs_Fall_hollows X)) l)) 9 (xs_Fall_hollows X + 1)
theorem ct_hollow {E : EvT} {q : Nat → Nat} {d : Nat} {X : StX} {M : StM} (hA : RAs X M) {c l : Int32} (P : Int32 → StM → Prop) (h1 : ¬ hollowOk M c l → P (-1) M) (h2 : hollowOk M c l → P (s_hollows M + 1 - 1) (mHol M c l)) : C_hollow E q (d + 1) c l M P := by
  have := hA.2.1.2
  exact en_hollow ⟨fun e => h1 (fun z => by rw [z.1] at e; cases e), fun e1 => ⟨fun e => h1 (fun z => by rw [z.2.1] at e; cases e), fun e2 => ⟨fun e4 => ⟨by grind, h2 ⟨e1, e2, e4⟩⟩, fun e => h1 (fun z => z.2.2 e)⟩⟩⟩
theorem ct_City_hollow {E : EvT} {q : Nat → Nat} {d : Nat} {X : StX} {M : StM} (hB : RB X M) (hA : RAs X M) {c l : Int32} (P : Int32 → StX → Prop) (h1 : ¬ hollowOk M c l → P (-1) X) (h2 : hollowOk M c l → P (s_hollows M + 1 - 1) (xHol X c l)) : C_City_hollow E q (d + 3) c l X P := by
  have hn := hA.2.1.2
  obtain ⟨-, -, -, -, -, -, c7, -⟩ := hA.1
  refine en_City_hollow ?_
  rw [pSpot, pCell_eq hB, Bool.and_eq_true, Bool.and_eq_false_iff]
  refine ⟨fun e => h1 (fun z => ?_), fun e => ⟨fun e1 => h1 (fun z => ?_), fun e1 => en_Fall_add ⟨?_, ?_⟩⟩⟩
  · rcases e with e | e
    · rw [z.1] at e; cases e
    · rw [z.2.1] at e; cases e
  · rw [c7] at e1
    have := z.2.2
    grind
  · rw [c7] at e1 ⊢
    grind
  · rw [c7] at e1
    have := h2 ⟨e.1, e.2, by grind⟩
    rw [← c7] at this
    exact this
theorem RAs.hollow {X : StX} {M : StM} (hA : RAs X M) {c l : Int32} (ok : hollowOk M c l) : RAs (xHol X c l) (mHol M c l) := by
  obtain ⟨⟨c1, c2, c3, c4, c5, c6, c7, c8, c9⟩, ⟨n1, n2⟩, g1, g2, g3, g4⟩ := hA
  obtain ⟨en, n40⟩ := cnt (n := 40) rfl (by omega) n2.1 n2.2
  obtain ⟨k1, k2, k4⟩ := ok
  have hlt : ix (s_hollows M) < 40 := by
    rcases Nat.lt_or_ge (ix (s_hollows M)) 40 with z | z
    · exact z
    · exact absurd (by rw [en, show ix (s_hollows M) = 40 by omega]; rfl) k4
  have hs : ix (s_hollows M + 1) = ix (s_hollows M) + 1 := by
    have : s_hollows M + 1 = nI (ix (s_hollows M) + 1) := by rw [← nI_s, ← en]
    rw [this, ixn (by omega)]
  refine ⟨⟨c1, c2, c3, c4, c5, c6, ?_, ?_, ?_⟩, ⟨n1, ?_⟩, g1, g2, fun i hi => ?_, g4⟩
  · show xs_Fall_hollows X + 1 = s_hollows M + 1
    rw [c7]
  · show upd (xa_Fall_hollowCell X) (ix (xs_Fall_hollows X)) c = upd (a_hollowCell M) (ix (s_hollows M)) c
    rw [c7, c8]
  · show upd (xa_Fall_hollowLayer X) (ix (xs_Fall_hollows X)) l = upd (a_hollowLayer M) (ix (s_hollows M)) l
    rw [c7, c9]
  · show 0 ≤ s_hollows M + 1 ∧ s_hollows M + 1 ≤ 40
    grind
  · have hi : i < ix (s_hollows M + 1) := hi
    rw [hs] at hi
    show mCell M (upd (a_hollowCell M) (ix (s_hollows M)) c i) = true ∧ (0 ≤ upd (a_hollowLayer M) (ix (s_hollows M)) l i ∧ upd (a_hollowLayer M) (ix (s_hollows M)) l i < 8)
    by_cases e : i = ix (s_hollows M)
    · subst e
      rw [upd_eq, upd_eq]
      exact ⟨k1, mLayer_b k2⟩
    · rw [upd_ne e, upd_ne e]
      exact g3 i (by omega)
theorem RAs.city {X : StX} {M : StM} (hA : RAs X M) {w h : Int32} (ok : mCityOk M w h) : RAs (xBegins X w h) (mBegins M w h) := by
  obtain ⟨⟨c1, c2, c3, c4, c5, c6, c7, c8, c9⟩, ⟨n1, n2⟩, g1, g2, g3, g4⟩ := hA
  have z0 : s_hollows M = 0 := by
    have := ok.2.2.2.2
    grind
  refine ⟨⟨c1, c2, c3, c4, c5, ?_, c7, c8, c9⟩, ⟨n1, n2⟩, g1, g2, fun i hi => ?_, fun v hv => ?_⟩
  · show fillF 100 8 (xa_Fall_height X) = fillF 100 8 (a_heightOf M)
    rw [c6]
  · have hi : i < ix (s_hollows M) := hi
    rw [z0] at hi
    exact absurd hi (Nat.not_lt_zero i)
  · show 0 ≤ fillF 100 8 (a_heightOf M) v ∧ fillF 100 8 (a_heightOf M) v ≤ 8
    rw [fillF, if_pos hv]
    decide
theorem RAs.now {X : StX} {M : StM} (hA : RAs X M) {w : Int32} : RAs (xI X 230 w) (sI M 2 w) := hA
def hourV (M : StM) (l what r : Int32) : Prop := (¬ (mLayer l = true ∧ mIn what 0 1 = true ∧ HrOK M) → r = -1) ∧ ((mLayer l = true ∧ mIn what 0 1 = true ∧ HrOK M) → r = if what = 0 then hE M 7 (ix l) else hL M 7 (ix l))
theorem hourV.one {M : StM} {l what r r' : Int32} (h : hourV M l what r) (h' : hourV M l what r') : r = r' := by
  rcases Classical.em (mLayer l = true ∧ mIn what 0 1 = true ∧ HrOK M) with z | z
  · rw [h.2 z, h'.2 z]
  · rw [h.1 z, h'.1 z]
theorem ct_hour {E : EvT} {q : Nat → Nat} {d : Nat} {X : StX} {M : StM} (hA : RAs X M) {l what : Int32} : C_hour E q (d + 1) l what M (fun r M1 => hourV M l what r ∧ ∃ e l, M1 = mH M e l) := by
  have bad : ¬ (mLayer l = true ∧ mIn what 0 1 = true ∧ HrOK M) → hourV M l what (-1) := fun z => ⟨fun _ => rfl, fun y => absurd y z⟩
  refine en_hour ⟨fun e => ⟨bad (fun z => by rw [z.1] at e; cases e), _, _, (mH_self M).symm⟩, fun e1 => ⟨fun e => ⟨bad (fun z => by rw [z.2.1] at e; cases e), _, _, (mH_self M).symm⟩, fun e2 => ?_⟩⟩
  obtain ⟨b1, b2⟩ := mLayer_b e1
  refine ct_hours hA _ (fun H e l => ⟨fun z => (by cases z), fun _ => ⟨bad (fun z => H z.2.2), e, l, rfl⟩⟩) (fun H e l' he hl => ⟨fun _ => ⟨fun c => ⟨⟨b1, b2⟩, ⟨fun z => absurd ⟨e1, e2, H⟩ z, fun _ => ?_⟩, e, l', rfl⟩, fun c => ⟨⟨b1, b2⟩, ⟨fun z => absurd ⟨e1, e2, H⟩ z, fun _ => ?_⟩, e, l', rfl⟩⟩, fun z => (by cases z)⟩)
  · rw [if_neg c]
    exact hl _ (ix_lt b1 b2 (by omega))
  · rw [if_pos c]
    exact he _ (ix_lt b1 b2 (by omega))
theorem xH_self (X : StX) : xH X (xa_Fall_earliest X) (xa_Fall_latest X) = X := by
  rw [xH]
  show xA (xA X 3 (X.2.1 3)) 4 (X.2.1 4) = X
  rw [xA_self, xA_self]
theorem ct_City_hour {E : EvT} {q : Nat → Nat} {d : Nat} {X : StX} {M : StM} (hA : RAs X M) {l what : Int32} : C_City_hour E q (d + 2) l what X (fun r X1 => hourV M l what r ∧ ∃ e l, X1 = xH X e l) := by
  have bad : ¬ (mLayer l = true ∧ mIn what 0 1 = true ∧ HrOK M) → hourV M l what (-1) := fun z => ⟨fun _ => rfl, fun y => absurd y z⟩
  refine en_City_hour ⟨fun e => ⟨bad (fun z => by rw [z.1] at e; cases e), _, _, (xH_self X).symm⟩, fun e1 => ⟨fun e => ⟨bad (fun z => by rw [z.2.1] at e; cases e), _, _, (xH_self X).symm⟩, fun e2 => ?_⟩⟩
  obtain ⟨b1, b2⟩ := mLayer_b e1
  refine ct_Fall_reckon hA _ (fun H e l => ⟨fun z => (by cases z), fun _ => ⟨bad (fun z => H z.2.2), e, l, rfl⟩⟩) (fun H e l' he hl => ⟨fun _ => ⟨fun c => ⟨⟨b1, b2⟩, ⟨fun z => absurd ⟨e1, e2, H⟩ z, fun _ => ?_⟩, e, l', rfl⟩, fun c => ⟨⟨b1, b2⟩, ⟨fun z => absurd ⟨e1, e2, H⟩ z, fun _ => ?_⟩, e, l', rfl⟩⟩, fun z => (by cases z)⟩)
  · rw [if_neg c]
    exact hl _ (ix_lt b1 b2 (by omega))
  · rw [if_pos c]
    exact he _ (ix_lt b1 b2 (by omega))
