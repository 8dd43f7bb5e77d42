/-! digs: the relation -/
def OrdOK (ord fr : Nat → Int32) (n : Nat) : Prop :=
  (∀ j, j < n → ∃ i, i < n ∧ ord j = nI i) ∧ (∀ i, i < n → ∃ j, j < n ∧ ord j = nI i) ∧ (∀ j k, j < k → k < n → fr (ix (ord j)) < fr (ix (ord k)) ∨ (fr (ix (ord j)) = fr (ix (ord k)) ∧ ix (ord j) < ix (ord k)))
def DigOK (X : StX) (M : StM) (i : Nat) : Prop := mRect M (a_digA M i) (a_digB M i) = true ∧ (0 ≤ a_digKind M i ∧ a_digKind M i ≤ 2) ∧ (0 ≤ a_digHand M i ∧ a_digHand M i ≤ 7) ∧ (0 ≤ a_digTop M i ∧ a_digTop M i ≤ a_digBottom M i ∧ a_digBottom M i ≤ 7) ∧ (0 ≤ a_digFrom M i ∧ a_digFrom M i ≤ a_digTo M i ∧ a_digTo M i ≤ 9999) ∧ (0 ≤ a_digTold M i ∧ a_digTold M i ≤ 9999) ∧ ((a_digStruck M i = -1 ∧ xa_Digs_struck X i = 10000) ∨ (0 ≤ a_digStruck M i ∧ a_digStruck M i ≤ 9999 ∧ xa_Digs_struck X i = a_digStruck M i)) ∧ xa_Digs_touched X i = bitsP (meetsP M (a_digA M i) (a_digB M i)) (nP M)
def RDg (X : StX) (M : StM) : Prop := (xs_Digs_size X = s_digs M ∧ xa_Digs_hand X = a_digHand M ∧ xa_Digs_kind X = a_digKind M ∧ xa_Digs_upperLeft X = a_digA M ∧ xa_Digs_lowerRight X = a_digB M ∧ xa_Digs_top X = a_digTop M ∧ xa_Digs_bottom X = a_digBottom M ∧ xa_Digs_from X = a_digFrom M ∧ xa_Digs_to X = a_digTo M ∧ xa_Digs_told X = a_digTold M) ∧ (0 ≤ s_digs M ∧ s_digs M ≤ 100) ∧ (∀ i, i < ix (s_digs M) → DigOK X M i) ∧ OrdOK (xa_Digs_order X) (a_digFrom M) (ix (s_digs M))
def nD (M : StM) : Nat := ix (s_digs M)
theorem RDg.n {X : StX} {M : StM} (h : RDg X M) : s_digs M = nI (nD M) ∧ nD M ≤ 100 := cnt (n := 100) rfl (by omega) h.2.1.1 h.2.1.2
/-! the class's place -/
def tchF (X : StX) (pl a b : Int32) (n : Nat) : Nat → Int32 := fun i => if i < n ∧ pMeet X a b (xa_Digs_upperLeft X i) (xa_Digs_lowerRight X i) = true then xa_Digs_touched X i ||| ((1 : Int32) <<< (pl &&& 31)) else xa_Digs_touched X i
theorem tchF_0 (X : StX) (pl a b : Int32) : tchF X pl a b 0 = xa_Digs_touched X := by funext c; simp [tchF]
theorem tchF_t {X : StX} {pl a b : Int32} {i : Nat} (h : pMeet X a b (xa_Digs_upperLeft X i) (xa_Digs_lowerRight X i) = true) : upd (tchF X pl a b i) i (tchF X pl a b i i ||| ((1 : Int32) <<< (pl &&& 31))) = tchF X pl a b (i + 1) := by
  funext c
  by_cases e : c = i
  · subst e; simp [upd, tchF, h]
  · rw [upd_ne e]
    have : (c < i + 1) = (c < i) := by apply propext; omega
    simp [tchF, this]
theorem tchF_f {X : StX} {pl a b : Int32} {i : Nat} (h : pMeet X a b (xa_Digs_upperLeft X i) (xa_Digs_lowerRight X i) = false) : tchF X pl a b i = tchF X pl a b (i + 1) := by
  funext c
  by_cases e : c = i
  · subst e; simp [tchF, h]
  · have : (c < i + 1) = (c < i) := by apply propext; omega
    simp [tchF, this]
theorem ct_Digs_noteArea {E : EvT} {q : Nat → Nat} {d : Nat} {X : StX} {n : Nat} (hn : xs_Digs_size X = nI n) (h100 : n ≤ 100) {pl a b : Int32} : C_Digs_noteArea E q (d + 2) pl a b X (fun X1 => X1 = xA X 32 (tchF X pl a b n)) := by
  refine en_Digs_noteArea ?_
  refine up_s (W := n) (T := fun i Y => T_Digs_noteArea_3 E q (d + 2) (fun X1 => X1 = xA X 32 (tchF X pl a b n)) Y pl a b (nI i)) (J := fun i Y => Y = xA X 32 (tchF X pl a b i)) ?_ ?_ 0 X (by omega) (by rw [tchF_0]; exact (xA_self X 32).symm)
  · intro Y hY
    subst hY
    exact sg_Digs_noteArea_3 ⟨fun _ => rfl, fun c => absurd (by show xs_Digs_size X ≤ _; rw [hn]; exact Int32.le_refl _) c⟩
  · intro i Y hi hY k
    subst hY
    refine sg_Digs_noteArea_3 ⟨fun c => absurd c (by show ¬ xs_Digs_size X ≤ _; exact nle_nI hi (by omega) hn), fun _ => ⟨bnd (n := 100) (by omega) (by omega) rfl, ?_⟩⟩
    rw [nI_s, ixn (by omega)]
    refine ⟨fun e => k _ (by rw [tchF_f (X := X) e]), fun e => k _ ?_⟩
    show xA (xA X 32 (tchF X pl a b i)) 32 (upd (tchF X pl a b i) i (tchF X pl a b i i ||| ((1 : Int32) <<< (pl &&& 31)))) = _
    rw [tchF_t (X := X) e]
    simp only [xA]
    congr 2
    funext j
    simp only [va_up]
    split <;> rfl
def xAddPl (X : StX) (n : Nat) (k a b : Int32) : StX := xI (xA (xA (xA (xA X 32 (tchF X (xs_Plan_places X) a b n)) 83 (upd (xa_Plan_kind X) (ix (xs_Plan_places X)) k)) 84 (upd (xa_Plan_upperLeft X) (ix (xs_Plan_places X)) a)) 85 (upd (xa_Plan_lowerRight X) (ix (xs_Plan_places X)) b)) 82 (xs_Plan_places X + 1)
theorem ct_City_place {E : EvT} {q : Nat → Nat} {d : Nat} {X : StX} {M : StM} (hB : RB X M) (hP : RPl X M) (hD : RDg X M) {k a b : Int32} (P : Int32 → StX → Prop)
    (h1 : (mIn k 0 2 = false ∨ mRect M a b = false ∨ s_places M = 30 ∨ ¬ freeP M a b) → P (-1) X)
    (h2 : mIn k 0 2 = true → mRect M a b = true → ¬ s_places M = 30 → freeP M a b → P (s_places M) (xAddPl X (nD M) k a b)) : C_City_place E q (d + 4) k a b X P := by
  have hn0 := hP.2.2.2.2.1.1
  have hn1 := hP.2.2.2.2.1.2
  refine en_City_place ⟨fun e => h1 (Or.inl e), fun e1 => ?_⟩
  rw [pArea_eq hB]
  refine ⟨fun e2 => ⟨fun e3 => h1 (Or.inr (Or.inr (Or.inl (by rw [hP.1] at e3; grind)))), fun e3 => ?_⟩, fun e => h1 (Or.inr (Or.inl e))⟩
  rw [hP.1] at e3
  refine en_Plan_isTaken (d := d) (mIx (ct_Plan_placesIn hB hP e2) (fun r X1 hr => ?_))
  obtain ⟨rfl, rfl⟩ := hr
  rw [meets_any hB hP]
  refine ⟨fun hf => ⟨fun _ => ?_, fun z => by cases z⟩, fun hf => ⟨fun z => by (cases z), fun _ => h1 (Or.inr (Or.inr (Or.inr hf)))⟩⟩
  refine mVx (ct_Digs_noteArea (d := d + 1) (hD.1.1.trans hD.n.1) hD.n.2) (fun X2 hX2 => ?_)
  subst hX2
  refine en_Plan_add ⟨⟨by show 0 ≤ xs_Plan_places X1; rw [hP.1]; exact hn0, by show xs_Plan_places X1 < 30; rw [hP.1]; grind⟩, ?_⟩
  have := h2 e1 e2 (by grind) hf
  rw [← hP.1, show xs_Plan_places X1 = xs_Plan_places X1 + 1 - 1 by rw [hP.1]; grind] at this
  exact this
/-! the class's placeOf -/
theorem inR_self {w c x : Nat} (h0 : 0 < w) : inR w x c c ↔ x = c := by
  rw [inR]
  constructor
  · rintro ⟨⟨h1, h2⟩, h3, h4⟩
    have e1 : x % w = c % w := by omega
    have e2 : x / w = c / w := by omega
    rw [← Nat.div_add_mod x w, ← Nat.div_add_mod c w, e1, e2]
  · rintro rfl
    exact ⟨⟨Nat.le_refl _, Nat.le_refl _⟩, Nat.le_refl _, Nat.le_refl _⟩
theorem meets_cell {X : StX} {M : StM} (hB : RB X M) {c : Nat} (hc : c < nW M * nH M) (p : Nat) : meetsP M (nI c) (nI c) p = decide (a_placeAt M c = nI p) := by
  obtain ⟨ew, w4, w10⟩ := hB.w
  obtain ⟨-, wh, w0⟩ := hB.wh
  rw [meetsP, decide_eq_decide]
  constructor
  · rintro ⟨x, hx, h1, h2⟩
    rw [mIsIn_n ew w0 w10 (by omega) (by omega) (by omega), inR_self w0] at h1
    rw [← h1]
    exact h2
  · intro h
    exact ⟨c, hc, (mIsIn_n ew w0 w10 (by omega) (by omega) (by omega)).mpr ((inR_self w0).mpr rfl), h⟩
theorem bitsN_one {n p : Nat} (hp : p < n) : bitsN (fun j => decide (j = p)) n = 2 ^ p := by
  apply Nat.eq_of_testBit_eq
  intro j
  rw [bitsN_tb, Nat.testBit_two_pow]
  by_cases e : j = p
  · subst e; simp [hp]
  · have : ¬ p = j := fun z => e z.symm
    simp [e, this]
theorem ct_City_placeOf {E : EvT} {q : Nat → Nat} {d : Nat} {X : StX} {M : StM} (hB : RB X M) (hP : RPl X M) {c : Int32} : C_City_placeOf E q (d + 4) c X (fun r X1 => r = (if mCell M c = true then a_placeAt M (ix c) else -1) ∧ X1 = X) := by
  obtain ⟨ew, w4, w10⟩ := hB.w
  obtain ⟨eh, h4, h10⟩ := hB.h
  obtain ⟨-, wh, w0⟩ := hB.wh
  obtain ⟨en, n30⟩ := hP.n
  refine en_City_placeOf ?_
  rw [pCell_eq hB]
  refine ⟨fun e => ⟨by rw [if_neg (by rw [e]; decide)], rfl⟩, fun e => ?_⟩
  obtain ⟨k, hk, rfl⟩ := (mCell_n ew eh w10 h10).mp e
  rw [if_pos e, ixn (by omega)]
  have hr : mRect M (nI k) (nI k) = true := (mRect_n ew eh w0 w10 h10).mpr ⟨k, k, rfl, rfl, hk, hk, Nat.le_refl _, Nat.le_refl _⟩
  refine en_Plan_owner (d := d) (mIx (ct_Plan_placesIn hB hP hr) (fun r X1 hr => ?_))
  obtain ⟨rfl, rfl⟩ := hr
  rcases (hP.2.2.2.2.2.2 k hk).1 with e1 | ⟨p, hp, e1⟩
  · have z : bitsP (meetsP M (nI k) (nI k)) (nP M) = 0 := by
      rw [bitsP_0 (by omega)]
      intro j hj
      rw [meets_cell hB hk, e1, decide_eq_false_iff_not]
      intro z
      have : (nI j).toInt = -1 := by rw [← z]; rfl
      rw [nI_toInt (by omega)] at this
      omega
    exact ⟨fun c => absurd z c, fun _ => ⟨e1.symm, rfl⟩⟩
  · have hp' : p < nP M := hp
    have z : bitsP (meetsP M (nI k) (nI k)) (nP M) = nI (2 ^ p) := by
      rw [bitsP, bitsN_cong (p' := fun j => decide (j = p)) (fun j hj => by
        rw [meets_cell hB hk, e1, decide_eq_decide, nI_eq (by omega) (by omega)]
        exact ⟨fun z => z.symm, fun z => z.symm⟩), bitsN_one hp']
    rw [z]
    refine ⟨fun _ => mIx ct_Jntz (fun r X2 hr => ?_), fun c => ?_⟩
    · obtain ⟨rfl, rfl⟩ := hr
      exact ⟨by rw [ntz_2 p (by omega), e1], rfl⟩
    · exfalso
      have : (nI (2 ^ p)).toInt = 0 := by rw [c]; rfl
      rw [nI_toInt (Nat.pow_lt_pow_right (by omega) (by omega))] at this
      have := Nat.two_pow_pos p
      omega
