/-! the plan: city, now, place, placeOf -/
def RB (X : StX) (M : StM) : Prop := xs_Plan_width X = s_wide M ∧ xs_Plan_height X = s_high M ∧ xs_City_today X = s_now M ∧ (4 ≤ s_wide M ∧ s_wide M ≤ 10) ∧ (4 ≤ s_high M ∧ s_high M ≤ 10) ∧ (0 ≤ s_now M ∧ s_now M ≤ 9999) ∧ s_asHand M = -1
def nW (M : StM) : Nat := ix (s_wide M)
def nH (M : StM) : Nat := ix (s_high M)
theorem RB.w {X : StX} {M : StM} (h : RB X M) : s_wide M = nI (nW M) ∧ 4 ≤ nW M ∧ nW M ≤ 10 := by
  obtain ⟨-, -, -, ⟨h1, h2⟩, -⟩ := h
  have h0 : (0 : Int32) ≤ s_wide M := by grind
  exact ⟨(nix h0).symm, le_ix (x := 4) (by decide) h1, ix_le (n := 10) h0 h2 (by omega)⟩
theorem RB.h {X : StX} {M : StM} (h : RB X M) : s_high M = nI (nH M) ∧ 4 ≤ nH M ∧ nH M ≤ 10 := by
  obtain ⟨-, -, -, -, ⟨h1, h2⟩, -⟩ := h
  have h0 : (0 : Int32) ≤ s_high M := by grind
  exact ⟨(nix h0).symm, le_ix (x := 4) (by decide) h1, ix_le (n := 10) h0 h2 (by omega)⟩
theorem RB.wh {X : StX} {M : StM} (h : RB X M) : s_wide M * s_high M = nI (nW M * nH M) ∧ nW M * nH M ≤ 100 ∧ 0 < nW M := by
  obtain ⟨e1, a1, b1⟩ := h.w
  obtain ⟨e2, a2, b2⟩ := h.h
  exact ⟨by rw [e1, e2, pk_mul], Nat.mul_le_mul b1 b2, by omega⟩
theorem RB.xw {X : StX} {M : StM} (h : RB X M) : xs_Plan_width X = nI (nW M) := by rw [h.1, ← h.w.1]
theorem RB.xwh {X : StX} {M : StM} (h : RB X M) : xs_Plan_width X * xs_Plan_height X = nI (nW M * nH M) := by rw [h.1, h.2.1, h.wh.1]
theorem pCell_eq {X : StX} {M : StM} (h : RB X M) (c : Int32) : pCell X c = mCell M c := by rw [pCell, mCell, h.1, h.2.1]
theorem pCol_eq {X : StX} {M : StM} (h : RB X M) (c : Int32) : pCol X c = rmd c (s_wide M) := by
  have : (0 : Int32) < s_wide M := by have := h.2.2.2.1.1; grind
  rw [pCol, h.1, if_pos this]
theorem pRow_eq {X : StX} {M : StM} (h : RB X M) (c : Int32) : pRow X c = c / s_wide M := by
  have : (0 : Int32) < s_wide M := by have := h.2.2.2.1.1; grind
  rw [pRow, h.1, if_pos this]
theorem pArea_eq {X : StX} {M : StM} (h : RB X M) (a b : Int32) : pArea X a b = mRect M a b := by
  rw [pArea, mRect, pCell_eq h, pCell_eq h, pCol_eq h, pCol_eq h, pRow_eq h, pRow_eq h]
theorem RB.wne {X : StX} {M : StM} (h : RB X M) : ¬ s_wide M = 0 := by have := h.2.2.2.1.1; grind
/-- places: the same, and placeAt tells the place of each cell -/
def RPl (X : StX) (M : StM) : Prop := xs_Plan_places X = s_places M ∧ xa_Plan_kind X = a_placeKind M ∧ xa_Plan_upperLeft X = a_placeA M ∧ xa_Plan_lowerRight X = a_placeB M ∧ (0 ≤ s_places M ∧ s_places M ≤ 30) ∧
  (∀ p, p < ix (s_places M) → mRect M (a_placeA M p) (a_placeB M p) = true ∧ 0 ≤ a_placeKind M p ∧ a_placeKind M p ≤ 2) ∧
  (∀ c, c < nW M * nH M → (a_placeAt M c = -1 ∨ ∃ p, p < ix (s_places M) ∧ a_placeAt M c = nI p) ∧ ∀ p, p < ix (s_places M) → (a_placeAt M c = nI p ↔ mIsIn M (nI c) (a_placeA M p) (a_placeB M p) = true))
def nP (M : StM) : Nat := ix (s_places M)
theorem RPl.n {X : StX} {M : StM} (h : RPl X M) : s_places M = nI (nP M) ∧ nP M ≤ 30 := cnt (n := 30) rfl (by omega) h.2.2.2.2.1.1 h.2.2.2.2.1.2
/-- which places a rectangle meets -/
def meetsP (M : StM) (a b : Int32) (p : Nat) : Bool := decide (∃ c, c < nW M * nH M ∧ mIsIn M (nI c) a b = true ∧ a_placeAt M c = nI p)
theorem pMeet_meets {X : StX} {M : StM} (hB : RB X M) (hP : RPl X M) {a b : Int32} (hr : mRect M a b = true) {p : Nat} (hp : p < nP M) : pMeet X a b (xa_Plan_upperLeft X p) (xa_Plan_lowerRight X p) = meetsP M a b p := by
  obtain ⟨ew, w4, w10⟩ := hB.w
  obtain ⟨eh, h4, h10⟩ := hB.h
  obtain ⟨-, wh, w0⟩ := hB.wh
  obtain ⟨x, y, rfl, rfl, ok1⟩ := (mRect_n ew eh w0 w10 h10).mp hr
  obtain ⟨hr2, -, -⟩ := hP.2.2.2.2.2.1 p hp
  obtain ⟨u, v, e1, e2, ok2⟩ := (mRect_n ew eh w0 w10 h10).mp hr2
  rw [hP.2.2.1, hP.2.2.2.1, e1, e2]
  have b1 : x < 2 ^ 31 := by have := ok1.1; omega
  have b2 : y < 2 ^ 31 := by have := ok1.2.1; omega
  have b3 : u < 2 ^ 31 := by have := ok2.1; omega
  have b4 : v < 2 ^ 31 := by have := ok2.2.1; omega
  rw [Bool.eq_iff_iff, pMeet_n hB.xw w0 w10 b1 b2 b3 b4, meet_cell w0 ok1 ok2, meetsP, decide_eq_true_eq]
  constructor
  · rintro ⟨c, hc, i1, i2⟩
    refine ⟨c, hc, (mIsIn_n ew w0 w10 b1 b2 (by omega)).mpr i1, ((hP.2.2.2.2.2.2 c hc).2 p hp).mpr ?_⟩
    rw [e1, e2]
    exact (mIsIn_n ew w0 w10 b3 b4 (by omega)).mpr i2
  · rintro ⟨c, hc, i1, i2⟩
    refine ⟨c, hc, (mIsIn_n ew w0 w10 b1 b2 (by omega)).mp i1, ?_⟩
    have := ((hP.2.2.2.2.2.2 c hc).2 p hp).mp i2
    rw [e1, e2] at this
    exact (mIsIn_n ew w0 w10 b3 b4 (by omega)).mp this
theorem ct_Plan_placesIn {E : EvT} {q : Nat → Nat} {d : Nat} {X : StX} {M : StM} (hB : RB X M) (hP : RPl X M) {a b : Int32} (hr : mRect M a b = true) : C_Plan_placesIn E q (d + 2) a b X (fun r X1 => r = bitsP (meetsP M a b) (nP M) ∧ X1 = X) := by
  obtain ⟨en, n30⟩ := hP.n
  refine en_Plan_placesIn ?_
  have hx : xs_Plan_places X = nI (nP M) := hP.1.trans en
  refine up_s (W := nP M) (T := fun i (y : Int32) => T_Plan_placesIn_5 E q (d + 2) (fun r X1 => r = bitsP (meetsP M a b) (nP M) ∧ X1 = X) X a b y (nI i)) (J := fun i y => y = bitsP (meetsP M a b) i) ?_ ?_ 0 0 (by omega) rfl
  · intro y hy
    exact sg_Plan_placesIn_5 ⟨fun _ => ⟨hy, rfl⟩, fun c => absurd (by rw [hx]; exact Int32.le_refl _) c⟩
  · intro i y hi hy k
    refine sg_Plan_placesIn_5 ⟨fun c => absurd c (nle_nI hi (by omega) hx), fun _ => ⟨bnd (n := 30) (by omega) (by omega) rfl, ?_⟩⟩
    rw [ixn (by omega), pMeet_meets hB hP hr hi, nI_s]
    subst hy
    exact ⟨fun e => k _ (bitsP_f e), fun e => k _ (bitsP_t (by omega) e)⟩
theorem meets_any {X : StX} {M : StM} (hB : RB X M) (hP : RPl X M) {a b : Int32} : bitsP (meetsP M a b) (nP M) = 0 ↔ ∀ c, c < nW M * nH M → mIsIn M (nI c) a b = true → a_placeAt M c = -1 := by
  obtain ⟨en, n30⟩ := hP.n
  rw [bitsP_0 (by omega)]
  constructor
  · intro h c hc hi
    rcases (hP.2.2.2.2.2.2 c hc).1 with e | ⟨p, hp, e⟩
    · exact e
    · have := h p hp
      rw [meetsP, decide_eq_false_iff_not] at this
      exact absurd ⟨c, hc, hi, e⟩ this
  · intro h p hp
    rw [meetsP, decide_eq_false_iff_not]
    rintro ⟨c, hc, hi, e⟩
    have e2 := h c hc hi
    rw [e] at e2
    exact absurd e2 (by
      intro z
      have : (nI p).toInt = -1 := by rw [z]; rfl
      rw [nI_toInt (by omega)] at this
      omega)
/-! the reference's place -/
def atF (M : StM) (a b : Int32) (n : Nat) : Nat → Int32 := fun c => if c < n ∧ mIsIn M (nI c) a b = true then s_places M else a_placeAt M c
def mAddPl (M : StM) (k a b : Int32) : StM := sI (sA (sA (sA (sA M 6 (atF M a b (nW M * nH M))) 7 (upd (a_placeKind M) (ix (s_places M)) k)) 8 (upd (a_placeA M) (ix (s_places M)) a)) 9 (upd (a_placeB M) (ix (s_places M)) b)) 3 (s_places M + 1)
def freeP (M : StM) (a b : Int32) : Prop := ∀ c, c < nW M * nH M → mIsIn M (nI c) a b = true → a_placeAt M c = -1
theorem atF_0 (M : StM) (a b : Int32) : atF M a b 0 = a_placeAt M := by funext c; simp [atF]
theorem atF_t {M : StM} {a b : Int32} {i : Nat} (h : mIsIn M (nI i) a b = true) : upd (atF M a b i) i (s_places M) = atF M a b (i + 1) := by
  funext c
  by_cases e : c = i
  · subst e; simp [upd, atF, h]
  · rw [upd_ne e]
    have : (c < i + 1) = (c < i) := by apply propext; omega
    simp [atF, this]
theorem atF_f {M : StM} {a b : Int32} {i : Nat} (h : mIsIn M (nI i) a b = false) : atF M a b i = atF M a b (i + 1) := by
  funext c
  by_cases e : c = i
  · subst e; simp [atF, h]
  · have : (c < i + 1) = (c < i) := by apply propext; omega
    simp [atF, this]
theorem ct_place {E : EvT} {q : Nat → Nat} {d : Nat} {X : StX} {M : StM} (hB : RB X M) (hP : RPl X M) {k a b : Int32} (P : Int32 → StM → Prop)
    (h1 : (mIn k 0 2 = false ∨ mRect M a b = false ∨ s_places M = 30 ∨ ¬ freeP M a b) → P (-1) M)
    (h2 : mIn k 0 2 = true → mRect M a b = true → ¬ s_places M = 30 → freeP M a b → P (s_places M) (mAddPl M k a b)) : C_place E q (d + 2) k a b M P := by
  obtain ⟨ewh, wh, w0⟩ := hB.wh
  obtain ⟨en, n30⟩ := hP.n
  have hn0 := hP.2.2.2.2.1.1
  have hn1 := hP.2.2.2.2.1.2
  have wne := hB.wne
  refine en_place ⟨fun e => h1 (Or.inl e), fun e1 => ⟨wne, fun e => h1 (Or.inr (Or.inl e)), fun e2 => ⟨fun e3 => ?_, fun e => h1 (Or.inr (Or.inr (Or.inl e)))⟩⟩⟩
  have k2 : freeP M a b → T_place_79 E q (d + 2) P M k a b 0 := by
    intro hf
    refine up_s (W := nW M * nH M) (T := fun i T => T_place_79 E q (d + 2) P T k a b (nI i)) (J := fun i T => T = sA M 6 (atF M a b i)) ?_ ?_ 0 M (by omega) (by rw [atF_0, sA_self])
    · intro T hT
      subst hT
      refine sg_place_79 ⟨fun _ => ⟨⟨hn0, by show s_places M < 30; grind⟩, ?_⟩, fun c => absurd (by show s_wide M * s_high M ≤ _; rw [ewh]; exact Int32.le_refl _) c⟩
      have := h2 e1 e2 e3 hf
      rw [show s_places M = s_places M + 1 - 1 by grind] at this
      exact this
    · intro i T hi hT kk
      subst hT
      refine sg_place_79 ⟨fun c => absurd c (by show ¬ s_wide M * s_high M ≤ _; exact nle_nI hi (by omega) ewh), fun _ => ⟨wne, fun e => ?_, fun e => ⟨bnd (n := 100) (by omega) (by omega) rfl, ?_⟩⟩⟩
      · rw [nI_s]
        exact kk _ (by rw [atF_f (M := M) e])
      · rw [nI_s, ixn (by omega)]
        refine kk _ ?_
        show sA (sA M 6 (atF M a b i)) 6 (upd (atF M a b i) i (s_places M)) = _
        rw [atF_t (M := M) e]
        simp only [sA]
        congr 1
        funext j
        simp only [va_up]
        split <;> rfl
  refine up_l (W := nW M * nH M) (T := fun i => T_place_32 E q (d + 2) P M k a b (nI i)) (J := fun i => ∀ c, c < i → mIsIn M (nI c) a b = true → a_placeAt M c = -1) ?_ ?_ 0 (by omega) (fun c hc => absurd hc (by omega))
  · intro hJ
    exact sg_place_32 ⟨fun _ => k2 hJ, fun c => absurd (by rw [ewh]; exact Int32.le_refl _) c⟩
  · intro i hi hJ kk
    refine sg_place_32 ⟨fun c => absurd c (nle_nI hi (by omega) ewh), fun _ => ⟨wne, fun e => ?_, fun e => ⟨bnd (n := 100) (by omega) (by omega) rfl, ?_⟩⟩⟩
    · rw [nI_s]
      refine kk (fun c hc hh => ?_)
      by_cases z : c = i
      · subst z; rw [e] at hh; cases hh
      · exact hJ c (by omega) hh
    · rw [nI_s, ixn (by omega)]
      refine ⟨fun e5 => kk (fun c hc hh => ?_), fun e5 => h1 (Or.inr (Or.inr (Or.inr (fun hf => e5 (hf i hi e)))))⟩
      by_cases z : c = i
      · subst z; exact e5
      · exact hJ c (by omega) hh
