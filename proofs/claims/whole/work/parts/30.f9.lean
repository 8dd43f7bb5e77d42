/-! walls, drawings, works: the relation -/
def LkOK (ord wk : Nat → Int32) (cp : Nat → Int32) (n m : Nat) : Prop :=
  (∀ j, j < n → ∃ i, i < m ∧ cp i = 0 ∧ ord j = nI i) ∧ (∀ i, i < m → cp i = 0 → ∃ j, j < n ∧ ord j = nI i) ∧ (∀ j k, j < k → k < n → wk (ix (ord j)) < wk (ix (ord k)) ∨ (wk (ix (ord j)) = wk (ix (ord k)) ∧ ix (ord j) < ix (ord k)))
def DrOK (X : StX) (M : StM) (i : Nat) : Prop := (0 ≤ a_drawWeek M i ∧ a_drawWeek M i ≤ 9999) ∧ (a_isCopy M i = 0 ∨ a_isCopy M i = 1) ∧ (a_isCopy M i = 0 → xa_Wall_wallOf X i = a_drawWall M i ∧ xa_Wall_drawn X i = a_drawWeek M i ∧ xa_Wall_features X i = a_drawFeatures M i ∧ xa_Wall_told X i = a_drawTold M i)
def WkOK (X : StX) (M : StM) (i : Nat) : Prop := (0 ≤ a_workWall M i ∧ a_workWall M i < s_walls M) ∧ (1 ≤ a_workCost M i ∧ a_workCost M i ≤ 10000) ∧ (1 ≤ a_workPart M i ∧ a_workPart M i ≤ 100) ∧ xa_Wall_saving X i = a_wallWorth M (ix (a_workWall M i)) * a_workPart M i / 100
def RWa (X : StX) (M : StM) : Prop := (xs_Wall_size X = s_walls M ∧ xs_Wall_drawings X = s_drawings M ∧ xs_Wall_works X = s_works M ∧ xa_Wall_worth X = a_wallWorth M ∧ xa_Wall_workWall X = a_workWall M ∧ xa_Wall_cost X = a_workCost M) ∧ ((0 ≤ s_walls M ∧ s_walls M ≤ 30) ∧ (0 ≤ s_drawings M ∧ s_drawings M ≤ 100) ∧ (0 ≤ s_works M ∧ s_works M ≤ 9)) ∧ (∀ i, i < ix (s_walls M) → 0 ≤ a_wallWorth M i ∧ a_wallWorth M i ≤ 10000) ∧ (∀ i, i < ix (s_drawings M) → DrOK X M i) ∧ (∀ i, i < ix (s_works M) → WkOK X M i) ∧ (∃ n, xs_Wall_looks X = nI n ∧ n ≤ ix (s_drawings M) ∧ LkOK (xa_Wall_lookOrder X) (a_drawWeek M) (a_isCopy M) n (ix (s_drawings M)))
def nWa (M : StM) : Nat := ix (s_walls M)
def nDr (M : StM) : Nat := ix (s_drawings M)
def nWk (M : StM) : Nat := ix (s_works M)
theorem RWa.wa {X : StX} {M : StM} (h : RWa X M) : s_walls M = nI (nWa M) ∧ nWa M ≤ 30 := cnt (n := 30) rfl (by omega) h.2.1.1.1 h.2.1.1.2
theorem RWa.dr {X : StX} {M : StM} (h : RWa X M) : s_drawings M = nI (nDr M) ∧ nDr M ≤ 100 := cnt (n := 100) rfl (by omega) h.2.1.2.1.1 h.2.1.2.1.2
theorem RWa.wk {X : StX} {M : StM} (h : RWa X M) : s_works M = nI (nWk M) ∧ nWk M ≤ 9 := cnt (n := 9) rfl (by omega) h.2.1.2.2.1 h.2.1.2.2.2
theorem pWall_eq {X : StX} {M : StM} (h : RWa X M) (w : Int32) : pWall X w = mWall M w := by
  have := h.2.1.1
  rw [pWall, mWall, h.1.1]
  grind [mIn]
theorem mWall_n {X : StX} {M : StM} (h : RWa X M) {i : Int32} : mWall M i = true ↔ ∃ k, k < nWa M ∧ i = nI k := by
  obtain ⟨en, n30⟩ := h.wa
  rw [mWall, decide_eq_true_eq, en]
  constructor
  · rintro ⟨h1, h2⟩
    exact ⟨ix i, ix_lt h1 h2 (by omega), (nix h1).symm⟩
  · rintro ⟨k, hk, rfl⟩
    exact ⟨nI_pos' (by omega), nI_lt hk (by omega)⟩
/-! wall -/
def wallOk (M : StM) (p v : Int32) : Prop := mPlace M p = true ∧ mIn v 0 10000 = true ∧ ¬ s_walls M = 30
def mAddWa (M : StM) (p v : Int32) : StM := sI (sA (sA M 81 (upd (a_wallPlace M) (ix (s_walls M)) p)) 82 (upd (a_wallWorth M) (ix (s_walls M)) v)) 79 (s_walls M + 1)
def xAddWa (X : StX) (v : Int32) : StX := xI (xA X 201 (upd (xa_Wall_worth X) (ix (xs_Wall_size X)) v)) 200 (xs_Wall_size X + 1)
theorem ct_wall {E : EvT} {q : Nat → Nat} {d : Nat} {X : StX} {M : StM} (hW : RWa X M) {p v : Int32} (P : Int32 → StM → Prop) (h1 : ¬ wallOk M p v → P (-1) M) (h2 : wallOk M p v → P (s_walls M) (mAddWa M p v)) : C_wall E q (d + 1) p v M P := by
  have n0 := hW.2.1.1
  refine en_wall ⟨fun e => h1 (fun z => by rw [z.1] at e; cases e), fun e1 => ⟨fun e => h1 (fun z => by rw [z.2.1] at e; cases e), fun e2 => ⟨fun e3 => ⟨⟨n0.1, by grind⟩, ?_⟩, fun e => h1 (fun z => z.2.2 e)⟩⟩⟩
  rw [show s_walls M + 1 - 1 = s_walls M by grind]
  exact h2 ⟨e1, e2, e3⟩
theorem ct_City_wall {E : EvT} {q : Nat → Nat} {d : Nat} {X : StX} {M : StM} (hP : RPl X M) (hW : RWa X M) {p v : Int32} (P : Int32 → StX → Prop) (h1 : ¬ wallOk M p v → P (-1) X) (h2 : wallOk M p v → P (s_walls M) (xAddWa X v)) : C_City_wall E q (d + 2) p v X P := by
  have n0 := hW.2.1.1
  have c1 := hW.1.1
  refine en_City_wall ?_
  rw [pPlace_eq hP, c1]
  refine ⟨fun e => h1 (fun z => by rw [z.1] at e; cases e), fun e1 => ⟨fun e => h1 (fun z => by rw [z.2.1] at e; cases e), fun e2 => ⟨fun e3 => en_Wall_add ?_, fun e3 => h1 (fun z => by have := z.2.2; grind)⟩⟩⟩
  have := h2 ⟨e1, e2, by grind⟩
  rw [xAddWa, c1] at this
  rw [c1, show s_walls M + 1 - 1 = s_walls M by grind]
  exact ⟨⟨n0.1, e3⟩, this⟩
theorem RWa.addWa {X : StX} {M : StM} (hW : RWa X M) {p v : Int32} (ok : wallOk M p v) : RWa (xAddWa X v) (mAddWa M p v) := by
  obtain ⟨en, n30⟩ := hW.wa
  obtain ⟨ewk, n9⟩ := hW.wk
  obtain ⟨k1, k2, k3⟩ := ok
  have hlt : nWa M < 30 := by
    rcases Nat.lt_or_ge (nWa M) 30 with z | z
    · exact z
    · exact absurd (by rw [en, show nWa M = 30 by omega]; rfl) k3
  have hs : ix (s_walls M + 1) = nWa M + 1 := by rw [en, nI_s, ixn (by omega)]
  obtain ⟨⟨c1, c2, c3, c4, c5, c6⟩, ⟨n1, n2, n3⟩, g1, g2, g3, g4⟩ := hW
  refine ⟨⟨?_, c2, c3, ?_, c5, c6⟩, ⟨?_, n2, n3⟩, fun i hi => ?_, g2, fun i hi => ?_, g4⟩
  · show xs_Wall_size X + 1 = s_walls M + 1
    rw [c1]
  · show upd (xa_Wall_worth X) (ix (xs_Wall_size X)) v = upd (a_wallWorth M) (ix (s_walls M)) v
    rw [c1, c4]
  · show 0 ≤ s_walls M + 1 ∧ s_walls M + 1 ≤ 30
    grind
  · have hi : i < nWa M + 1 := by rw [← hs]; exact hi
    show 0 ≤ upd (a_wallWorth M) (nWa M) v i ∧ upd (a_wallWorth M) (nWa M) v i ≤ 10000
    by_cases e : i = nWa M
    · subst e
      rw [upd_eq]
      grind [mIn]
    · rw [upd_ne e]
      exact g1 i (by show i < nWa M; omega)
  · obtain ⟨q1, q2, q3, q4⟩ := g3 i hi
    refine ⟨?_, q2, q3, ?_⟩
    · show 0 ≤ a_workWall M i ∧ a_workWall M i < s_walls M + 1
      grind
    · show xa_Wall_saving X i = upd (a_wallWorth M) (nWa M) v (ix (a_workWall M i)) * a_workPart M i / 100
      have : ix (a_workWall M i) < nWa M := ix_lt q1.1 (by rw [← en]; exact q1.2) (by omega)
      rw [upd_ne (by omega)]
      exact q4
/-! work -/
def workOk (M : StM) (w c h : Int32) : Prop := mWall M w = true ∧ mIn c 1 10000 = true ∧ mIn h 1 100 = true ∧ ¬ s_works M = 9
def mAddWk (M : StM) (w c h : Int32) : StM := sI (sA (sA (sA M 106 (upd (a_workWall M) (ix (s_works M)) w)) 107 (upd (a_workCost M) (ix (s_works M)) c)) 108 (upd (a_workPart M) (ix (s_works M)) h)) 101 (s_works M + 1)
def xAddWk (X : StX) (w c h : Int32) : StX := xI (xA (xA (xA X 214 (upd (xa_Wall_workWall X) (ix (xs_Wall_works X)) w)) 215 (upd (xa_Wall_cost X) (ix (xs_Wall_works X)) c)) 216 (upd (xa_Wall_saving X) (ix (xs_Wall_works X)) (xa_Wall_worth X (ix w) * h / 100))) 213 (xs_Wall_works X + 1)
theorem ct_work {E : EvT} {q : Nat → Nat} {d : Nat} {X : StX} {M : StM} (hW : RWa X M) {w c h : Int32} (P : Int32 → StM → Prop) (h1 : ¬ workOk M w c h → P (-1) M) (h2 : workOk M w c h → P (s_works M) (mAddWk M w c h)) : C_work E q (d + 1) w c h M P := by
  have n0 := hW.2.1.2.2
  refine en_work ⟨fun e => h1 (fun z => by rw [z.1] at e; cases e), fun e1 => ⟨fun e => h1 (fun z => by rw [z.2.1] at e; cases e), fun e2 => ⟨fun e => h1 (fun z => by rw [z.2.2.1] at e; cases e), fun e3 => ⟨fun e4 => ⟨⟨n0.1, by grind⟩, ?_⟩, fun e => h1 (fun z => z.2.2.2 e)⟩⟩⟩⟩
  rw [show s_works M + 1 - 1 = s_works M by grind]
  exact h2 ⟨e1, e2, e3, e4⟩
theorem ct_City_work {E : EvT} {q : Nat → Nat} {d : Nat} {X : StX} {M : StM} (hW : RWa X M) {w c h : Int32} (P : Int32 → StX → Prop) (h1 : ¬ workOk M w c h → P (-1) X) (h2 : workOk M w c h → P (s_works M) (xAddWk X w c h)) : C_City_work E q (d + 2) w c h X P := by
  have n0 := hW.2.1.2.2
  have c1 := hW.1.2.2.1
  obtain ⟨en, n30⟩ := hW.wa
  refine en_City_work ?_
  rw [pWall_eq hW, c1]
  refine ⟨fun e => h1 (fun z => by rw [z.1] at e; cases e), fun e1 => ⟨fun e => h1 (fun z => by rw [z.2.1] at e; cases e), fun e2 => ⟨fun e3 => ⟨fun e4 => h1 (fun z => by have := z.2.2.2; grind), fun e4 => en_Wall_undertake ?_⟩, fun e => h1 (fun z => by rw [z.2.2.1] at e; cases e)⟩⟩⟩
  have := h2 ⟨e1, e2, e3, by grind⟩
  rw [xAddWk, c1] at this
  rw [c1, show s_works M + 1 - 1 = s_works M by grind]
  refine ⟨⟨n0.1, by grind⟩, ?_, this⟩
  obtain ⟨k, hk, rfl⟩ := (mWall_n hW).mp e1
  exact bnd (n := 30) (by omega) (by omega) rfl
theorem RWa.addWk {X : StX} {M : StM} (hW : RWa X M) {w c h : Int32} (ok : workOk M w c h) : RWa (xAddWk X w c h) (mAddWk M w c h) := by
  obtain ⟨en, n9⟩ := hW.wk
  obtain ⟨k1, k2, k3, k4⟩ := ok
  have hlt : nWk M < 9 := by
    rcases Nat.lt_or_ge (nWk M) 9 with z | z
    · exact z
    · exact absurd (by rw [en, show nWk M = 9 by omega]; rfl) k4
  have hs : ix (s_works M + 1) = nWk M + 1 := by rw [en, nI_s, ixn (by omega)]
  obtain ⟨⟨c1, c2, c3, c4, c5, c6⟩, ⟨n1, n2, n3⟩, g1, g2, g3, g4⟩ := hW
  refine ⟨⟨c1, c2, ?_, c4, ?_, ?_⟩, ⟨n1, n2, ?_⟩, g1, g2, fun i hi => ?_, g4⟩
  · show xs_Wall_works X + 1 = s_works M + 1
    rw [c3]
  · show upd (xa_Wall_workWall X) (ix (xs_Wall_works X)) w = upd (a_workWall M) (ix (s_works M)) w
    rw [c3, c5]
  · show upd (xa_Wall_cost X) (ix (xs_Wall_works X)) c = upd (a_workCost M) (ix (s_works M)) c
    rw [c3, c6]
  · show 0 ≤ s_works M + 1 ∧ s_works M + 1 ≤ 9
    grind
  · have hi : i < nWk M + 1 := by rw [← hs]; exact hi
    show (0 ≤ upd (a_workWall M) (nWk M) w i ∧ upd (a_workWall M) (nWk M) w i < s_walls M) ∧ (1 ≤ upd (a_workCost M) (nWk M) c i ∧ upd (a_workCost M) (nWk M) c i ≤ 10000) ∧ (1 ≤ upd (a_workPart M) (nWk M) h i ∧ upd (a_workPart M) (nWk M) h i ≤ 100) ∧ upd (xa_Wall_saving X) (ix (xs_Wall_works X)) (xa_Wall_worth X (ix w) * h / 100) i = a_wallWorth M (ix (upd (a_workWall M) (nWk M) w i)) * upd (a_workPart M) (nWk M) h i / 100
    rw [c3, show ix (s_works M) = nWk M from rfl]
    by_cases e : i = nWk M
    · subst e
      simp only [upd_eq]
      refine ⟨by grind [mWall], by grind [mIn], by grind [mIn], by rw [c4]⟩
    · simp only [upd_ne e]
      exact g3 i (by show i < nWk M; omega)
/-! draw and copy -/
def drawOk (M : StM) (w k f : Int32) : Prop := mWall M w = true ∧ mIn k 0 (s_now M) = true ∧ mIn f 0 255 = true ∧ ¬ 100 ≤ s_drawings M
def mDraws (M : StM) (w k f c : Int32) : StM := sI (sA (sA (sA (sA (sA M 83 (upd (a_drawWall M) (ix (s_drawings M)) w)) 84 (upd (a_drawWeek M) (ix (s_drawings M)) k)) 85 (upd (a_drawFeatures M) (ix (s_drawings M)) f)) 86 (upd (a_drawTold M) (ix (s_drawings M)) (s_now M))) 88 (upd (a_isCopy M) (ix (s_drawings M)) (vp_nar .boolean c))) 80 (s_drawings M + 1)
theorem ct_draw {E : EvT} {q : Nat → Nat} {d : Nat} {X : StX} {M : StM} (hW : RWa X M) {w k f : Int32} (P : Int32 → StM → Prop) (h1 : ¬ drawOk M w k f → P (-1) M) (h2 : drawOk M w k f → P (s_drawings M) (mDraws M w k f 0)) : C_draw E q (d + 1) w k f M P := by
  have n0 := hW.2.1.2.1
  refine en_draw ⟨fun e => h1 (fun z => by rw [z.1] at e; cases e), fun e1 => ⟨fun e => h1 (fun z => by rw [z.2.1] at e; cases e), fun e2 => ⟨fun e => h1 (fun z => by rw [z.2.2.1] at e; cases e), fun e3 => ⟨fun e => h1 (fun z => z.2.2.2 e), fun e4 => en_draws ⟨⟨n0.1, by grind⟩, ?_⟩⟩⟩⟩⟩
  rw [show s_drawings M + 1 - 1 = s_drawings M by grind]
  exact h2 ⟨e1, e2, e3, e4⟩
def copyOk (M : StM) (i k : Int32) : Prop := (0 ≤ i ∧ i < s_drawings M) ∧ mIn k 0 (s_now M) = true ∧ ¬ 100 ≤ s_drawings M
theorem ct_copy {E : EvT} {q : Nat → Nat} {d : Nat} {X : StX} {M : StM} (hW : RWa X M) {i k : Int32} (P : Int32 → StM → Prop) (h1 : ¬ copyOk M i k → P (-1) M) (h2 : copyOk M i k → P (s_drawings M) (mDraws M (a_drawWall M (ix i)) k (a_drawFeatures M (ix i)) 1)) : C_copy E q (d + 1) i k M P := by
  have n0 := hW.2.1.2.1
  refine en_copy ⟨fun e => h1 (fun z => by have := z.1; grind), fun e1 => ⟨fun e => h1 (fun z => by have := z.1; grind), fun e2 => ⟨fun e => h1 (fun z => by rw [z.2.1] at e; cases e), fun e3 => ⟨fun e => h1 (fun z => z.2.2 e), fun e4 => ⟨by grind, en_draws ⟨⟨n0.1, by grind⟩, ?_⟩⟩⟩⟩⟩⟩
  rw [show s_drawings M + 1 - 1 = s_drawings M by grind]
  exact h2 ⟨by grind, e3, e4⟩
theorem ct_City_copy {E : EvT} {q : Nat → Nat} {d : Nat} {X : StX} {M : StM} (hB : RB X M) (hW : RWa X M) {i k : Int32} (P : Int32 → StX → Prop) (h1 : ¬ copyOk M i k → P (-1) X) (h2 : copyOk M i k → P (s_drawings M) (xI X 202 (s_drawings M + 1))) : C_City_copy E q (d + 1) i k X P := by
  have n0 := hW.2.1.2.1
  refine en_City_copy ?_
  rw [hW.1.2.1, hB.2.2.1]
  refine ⟨fun e => h1 (fun z => by have := z.1; grind [mIn]), fun e1 => ⟨fun e2 => ⟨fun e3 => h1 (fun z => z.2.2 e3), fun e3 => en_Wall_trace ?_⟩, fun e2 => h1 (fun z => by rw [z.2.1] at e2; cases e2)⟩⟩
  rw [hW.1.2.1, show s_drawings M + 1 - 1 = s_drawings M by grind]
  exact h2 ⟨by grind [mIn], e2, e3⟩
