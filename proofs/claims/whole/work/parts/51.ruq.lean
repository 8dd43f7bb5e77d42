/-! number, barred, count -/
def fcF (w h k m p : Int32) (j : Nat) : Int32 := if j = 0 then w else if j = 1 then h else if j = 2 then k else if j = 3 then m else p
def u5 (f : Nat → Int32) (w h k m p : Int32) : Nat → Int32 := upd (upd (upd (upd (upd f 0 w) 1 h) 2 k) 3 m) 4 p
theorem u5_fc {f : Nat → Int32} {w h k m p : Int32} : ∀ j, j < 5 → u5 f w h k m p j = fcF w h k m p j := by
  intro j hj
  have : j = 0 ∨ j = 1 ∨ j = 2 ∨ j = 3 ∨ j = 4 := by omega
  rcases this with rfl | rfl | rfl | rfl | rfl <;> rfl
def pkM (M : StM) (p : Int32) : Int32 := if p = -1 then -1 else a_placeKind M (ix p)
theorem ct_setsFacts {E : EvT} {q : Nat → Nat} {d : Nat} {M : StM} {w h k m p : Int32} (hp : p = -1 ∨ (0 ≤ p ∧ p < 30)) : C_setsFacts E q d w h k m p M (fun M1 => ∃ l, M1 = sA M 56 l ∧ ∀ j, j < 5 → l j = fcF w h k m (pkM M p) j) := by
  refine en_setsFacts ?_
  simp only [sA_tw]
  refine ⟨fun z => ⟨?_, _, rfl, fun j hj => ?_⟩, fun z => ⟨_, rfl, fun j hj => ?_⟩⟩
  · rcases hp with y | y
    · exact absurd y z
    · exact y
  · rw [pkM, if_neg z]; exact u5_fc j hj
  · rw [pkM, if_pos z]; exact u5_fc j hj
theorem ct_Book_ask {E : EvT} {q : Nat → Nat} {d : Nat} {X : StX} {w h k m p : Int32} : C_Book_ask E q d w h k m p X (fun X1 => ∃ l, X1 = xA X 104 l ∧ ∀ j, j < 5 → l j = fcF w h k m p j) := by
  refine en_Book_ask ?_
  simp only [xA_tw]
  exact ⟨_, rfl, fun j hj => u5_fc j hj⟩
theorem mPlace_b {X : StX} {M : StM} (hP : RPl X M) {p : Int32} (h : mPlace M p = true) : 0 ≤ p ∧ p < 30 := by
  have := hP.2.2.2.2.1.2
  rw [mPlace, decide_eq_true_eq] at h
  exact ⟨h.1, Int32.lt_of_lt_of_le h.2 this⟩
def mFx (M : StM) (l t s : Nat → Int32) : StM := mNb (sA M 56 l) t s
def xFx (X : StX) (l u s : Nat → Int32) : StX := xNb (xA X 104 l) u s
theorem mFx_self (M : StM) : M = mFx M (a_facts M) (a_isStruck M) (a_stack M) := by
  rw [mFx, mNb]
  show M = sA (sA (sA M 56 (M.2 56)) 54 (M.2 54)) 55 (M.2 55)
  rw [sA_self, sA_self, sA_self]
theorem xFx_self (X : StX) : X = xFx X (xa_Book_letters X) (xa_Book_struck X) (xa_Book_stack X) := by
  rw [xFx, xNb]
  show X = xA (xA (xA X 104 (X.2.1 104)) 103 (X.2.1 103)) 105 (X.2.1 105)
  rw [xA_self, xA_self, xA_self]
theorem ct_Book_marksWanted {E : EvT} {q : Nat → Nat} {d : Nat} {B : BkT} {X : StX} {M : StM} (hR : RRu B X M) {fc : Nat → Int32} (hfc : ∀ k, k < 5 → xa_Book_letters X k = fc k) : C_Book_marksWanted E q (d + 5) X (fun r X1 => r = numV B M fc 97 8 ∧ ∃ u s, X1 = xNb X u s) := en_Book_marksWanted (ct_Book_highestOf hR hfc (L := 97) (by omega))
theorem ct_Book_signWorth {E : EvT} {q : Nat → Nat} {d : Nat} {B : BkT} {X : StX} {M : StM} (hR : RRu B X M) {fc : Nat → Int32} (hfc : ∀ k, k < 5 → xa_Book_letters X k = fc k) : C_Book_signWorth E q (d + 5) X (fun r X1 => r = numV B M fc 118 0 ∧ ∃ u s, X1 = xNb X u s) := en_Book_signWorth (ct_Book_highestOf hR hfc (L := 118) (by omega))
theorem ct_Book_deepest {E : EvT} {q : Nat → Nat} {d : Nat} {B : BkT} {X : StX} {M : StM} (hR : RRu B X M) {fc : Nat → Int32} (hfc : ∀ k, k < 5 → xa_Book_letters X k = fc k) : C_Book_deepest E q (d + 5) X (fun r X1 => r = numV B M fc 102 7 ∧ ∃ u s, X1 = xNb X u s) := en_Book_deepest (ct_Book_highestOf hR hfc (L := 102) (by omega))
def numOk (M : StM) (wh we h k m p : Int32) : Prop := mIn wh 0 3 = true ∧ mWeek we = true ∧ mIn h 0 7 = true ∧ mIn k 0 7 = true ∧ mIn m 0 255 = true ∧ (p = -1 ∨ mPlace M p = true)
noncomputable def numQ (B : BkT) (M : StM) (wh we h k m p : Int32) : Int32 := if wh = 0 then numV B M (fcF we h k m (pkM M p)) 97 8 else if wh = 1 then numV B M (fcF we h k m (pkM M p)) 118 0 else if wh = 2 then numV B M (fcF we h k m (pkM M p)) 102 7 else linV B M (fcF we h k m (pkM M p))
def numR (B : BkT) (M : StM) (wh we h k m p r : Int32) : Prop := (¬ numOk M wh we h k m p → r = -1) ∧ (numOk M wh we h k m p → r = numQ B M wh we h k m p)
theorem numR.one {B : BkT} {M : StM} {wh we h k m p r r' : Int32} (h1 : numR B M wh we h k m p r) (h2 : numR B M wh we h k m p r') : r = r' := by
  rcases Classical.em (numOk M wh we h k m p) with z | z
  · rw [h1.2 z, h2.2 z]
  · rw [h1.1 z, h2.1 z]
theorem ct_number {E : EvT} {q : Nat → Nat} {d : Nat} {B : BkT} {X : StX} {M : StM} (hP : RPl X M) (hR : RRu B X M) {wh we h k m p : Int32} : C_number E q (d + 4) wh we h k m p M (fun r M1 => numR B M wh we h k m p r ∧ ∃ l t s, M1 = mFx M l t s) := by
  have bad : ¬ numOk M wh we h k m p → numR B M wh we h k m p (-1) ∧ ∃ l t s, M = mFx M l t s := fun z => ⟨⟨fun _ => rfl, fun y => absurd y z⟩, _, _, _, mFx_self M⟩
  have good : numOk M wh we h k m p → C_setsFacts E q (d + 3) we h k m p M (fun S8 => (¬ wh = 0 → ((¬ wh = 1 → ((¬ wh = 2 → (C_numberings E q (d + 3) S8 (fun r M1 => numR B M wh we h k m p r ∧ ∃ l t s, M1 = mFx M l t s))) ∧ (wh = 2 → (C_numberBy E q (d + 3) 102 7 S8 (fun r M1 => numR B M wh we h k m p r ∧ ∃ l t s, M1 = mFx M l t s))))) ∧ (wh = 1 → (C_numberBy E q (d + 3) 118 0 S8 (fun r M1 => numR B M wh we h k m p r ∧ ∃ l t s, M1 = mFx M l t s))))) ∧ (wh = 0 → (C_numberBy E q (d + 3) 97 8 S8 (fun r M1 => numR B M wh we h k m p r ∧ ∃ l t s, M1 = mFx M l t s)))) := by
    intro ok
    refine mV (ct_setsFacts (by rcases ok.2.2.2.2.2 with y | y; exact Or.inl y; exact Or.inr (mPlace_b hP y))) (fun M1 h1 => ?_)
    obtain ⟨l, rfl, hl⟩ := h1
    have fin : ∀ r M1, r = numQ B M wh we h k m p → (∃ t s, M1 = mNb (sA M 56 l) t s) → numR B M wh we h k m p r ∧ ∃ l t s, M1 = mFx M l t s := by
      rintro r M1 e ⟨t, s, rfl⟩
      exact ⟨⟨fun z => absurd ok z, fun _ => e⟩, l, t, s, rfl⟩
    refine ⟨fun n0 => ⟨fun n1 => ⟨fun n2 => ?_, fun y2 => ?_⟩, fun y1 => ?_⟩, fun y0 => ?_⟩
    · refine mI (ct_numberings (show RRu B X (sA M 56 l) from hR) hl) (fun r M1 h => fin r M1 ?_ h.2)
      rw [numQ, if_neg n0, if_neg n1, if_neg n2]; exact h.1
    · refine mI (ct_numberBy (show RRu B X (sA M 56 l) from hR) hl (L := 102) (by omega)) (fun r M1 h => fin r M1 ?_ h.2)
      rw [numQ, if_neg n0, if_neg n1, if_pos y2]; exact h.1
    · refine mI (ct_numberBy (show RRu B X (sA M 56 l) from hR) hl (L := 118) (by omega)) (fun r M1 h => fin r M1 ?_ h.2)
      rw [numQ, if_neg n0, if_pos y1]; exact h.1
    · refine mI (ct_numberBy (show RRu B X (sA M 56 l) from hR) hl (L := 97) (by omega)) (fun r M1 h => fin r M1 ?_ h.2)
      rw [numQ, if_pos y0]; exact h.1
  refine en_number ⟨fun e => bad (fun z => by rw [z.1] at e; cases e), fun e1 => ⟨fun e => bad (fun z => by rw [z.2.1] at e; cases e), fun e2 => ⟨fun e => bad (fun z => by rw [z.2.2.1] at e; cases e), fun e3 => ⟨fun e => bad (fun z => by rw [z.2.2.2.1] at e; cases e), fun e4 => ⟨fun e => bad (fun z => by rw [z.2.2.2.2.1] at e; cases e), fun e5 => ⟨fun e6 => good ⟨e1, e2, e3, e4, e5, Or.inl e6⟩, fun e6 => ⟨fun e7 => good ⟨e1, e2, e3, e4, e5, Or.inr e7⟩, fun e7 => bad (fun z => ?_)⟩⟩⟩⟩⟩⟩⟩
  rcases z.2.2.2.2.2 with y | y
  · exact e6 y
  · rw [y] at e7; cases e7
theorem ct_City_number {E : EvT} {q : Nat → Nat} {d : Nat} {B : BkT} {X : StX} {M : StM} (hP : RPl X M) (hR : RRu B X M) {wh we h k m p : Int32} : C_City_number E q (d + 6) wh we h k m p X (fun r X1 => numR B M wh we h k m p r ∧ ∃ l u s, X1 = xFx X l u s) := by
  have bad : ¬ numOk M wh we h k m p → numR B M wh we h k m p (-1) ∧ ∃ l u s, X = xFx X l u s := fun z => ⟨⟨fun _ => rfl, fun y => absurd y z⟩, _, _, _, xFx_self X⟩
  have good : numOk M wh we h k m p → ∀ v, v = pkM M p → C_Book_ask E q (d + 5) we h k m v X (fun S10 => (wh = 0 → (C_Book_marksWanted E q (d + 5) S10 (fun r X1 => numR B M wh we h k m p r ∧ ∃ l u s, X1 = xFx X l u s))) ∧ (¬ wh = 0 → ((wh = 1 → (C_Book_signWorth E q (d + 5) S10 (fun r X1 => numR B M wh we h k m p r ∧ ∃ l u s, X1 = xFx X l u s))) ∧ (¬ wh = 1 → ((wh = 2 → (C_Book_deepest E q (d + 5) S10 (fun r X1 => numR B M wh we h k m p r ∧ ∃ l u s, X1 = xFx X l u s))) ∧ (¬ wh = 2 → (C_Book_lines E q (d + 5) S10 (fun r X1 => numR B M wh we h k m p r ∧ ∃ l u s, X1 = xFx X l u s)))))))) := by
    intro ok v ev
    subst ev
    refine mVx ct_Book_ask (fun X1 h1 => ?_)
    obtain ⟨l, rfl, hl⟩ := h1
    have fin : ∀ r X1, r = numQ B M wh we h k m p → (∃ u s, X1 = xNb (xA X 104 l) u s) → numR B M wh we h k m p r ∧ ∃ l u s, X1 = xFx X l u s := by
      rintro r M1 e ⟨t, s, rfl⟩
      exact ⟨⟨fun z => absurd ok z, fun _ => e⟩, l, t, s, rfl⟩
    refine ⟨fun y0 => ?_, fun n0 => ⟨fun y1 => ?_, fun n1 => ⟨fun y2 => ?_, fun n2 => ?_⟩⟩⟩
    · refine mIx (ct_Book_marksWanted (show RRu B (xA X 104 l) M from hR) hl) (fun r M1 h => fin r M1 ?_ h.2)
      rw [numQ, if_pos y0]; exact h.1
    · refine mIx (ct_Book_signWorth (show RRu B (xA X 104 l) M from hR) hl) (fun r M1 h => fin r M1 ?_ h.2)
      rw [numQ, if_neg n0, if_pos y1]; exact h.1
    · refine mIx (ct_Book_deepest (show RRu B (xA X 104 l) M from hR) hl) (fun r M1 h => fin r M1 ?_ h.2)
      rw [numQ, if_neg n0, if_neg n1, if_pos y2]; exact h.1
    · refine mIx (ct_Book_lines (show RRu B (xA X 104 l) M from hR) hl) (fun r M1 h => fin r M1 ?_ h.2)
      rw [numQ, if_neg n0, if_neg n1, if_neg n2]; exact h.1
  refine en_City_number ⟨fun e => bad (fun z => by rw [z.1] at e; cases e), fun e1 => ⟨fun e => bad (fun z => by rw [z.2.1] at e; cases e), fun e2 => ⟨fun e3 => ⟨fun e => bad (fun z => by rw [z.2.2.2.1] at e; cases e), fun e4 => ⟨fun e => bad (fun z => by rw [z.2.2.2.2.1] at e; cases e), fun e5 => ⟨fun e6 => ⟨fun z => absurd e6 z, fun _ => good ⟨e1, e2, e3, e4, e5, Or.inl e6⟩ _ (by rw [pkM, if_pos e6])⟩, fun e6 => ?_⟩⟩⟩, fun e => bad (fun z => by rw [z.2.2.1] at e; cases e)⟩⟩⟩
  rw [pPlace_eq hP]
  refine ⟨fun e7 => ⟨fun _ => ⟨mPlace_b hP e7, good ⟨e1, e2, e3, e4, e5, Or.inr e7⟩ _ (by rw [pkM, if_neg e6, hP.2.1])⟩, fun z => absurd z e6⟩, fun e7 => bad (fun z => ?_)⟩
  rcases z.2.2.2.2.2 with y | y
  · exact e6 y
  · rw [y] at e7; cases e7
/-! barred -/
def barOk (M : StM) (i : Int32) : Prop := mDig M i = true ∧ ¬ a_digKind M (ix i) = 2
def barR (B : BkT) (M : StM) (i r : Int32) : Prop := (¬ barOk M i → r = -1) ∧ (barOk M i → r = if a_digBottom M (ix i) ≤ numV B M (fcF (a_digFrom M (ix i)) (a_digHand M (ix i)) (a_digKind M (ix i)) 0 (-1)) 102 7 then 0 else 1)
theorem barR.one {B : BkT} {M : StM} {i r r' : Int32} (h1 : barR B M i r) (h2 : barR B M i r') : r = r' := by
  rcases Classical.em (barOk M i) with z | z
  · rw [h1.2 z, h2.2 z]
  · rw [h1.1 z, h2.1 z]
theorem mDig_b {X : StX} {M : StM} (hD : RDg X M) {i : Int32} (h : mDig M i = true) : 0 ≤ i ∧ i < 100 := by
  have := hD.2.1.2
  rw [mDig, decide_eq_true_eq] at h
  exact ⟨h.1, Int32.lt_of_lt_of_le h.2 this⟩
theorem ct_barred {E : EvT} {q : Nat → Nat} {d : Nat} {B : BkT} {X : StX} {M : StM} (hD : RDg X M) (hR : RRu B X M) {i : Int32} : C_barred E q (d + 4) i M (fun r M1 => barR B M i r ∧ ∃ l t s, M1 = mFx M l t s) := by
  have bad : ¬ barOk M i → barR B M i (-1) ∧ ∃ l t s, M = mFx M l t s := fun z => ⟨⟨fun _ => rfl, fun y => absurd y z⟩, _, _, _, mFx_self M⟩
  refine en_barred ⟨fun e => bad (fun z => by rw [z.1] at e; cases e), fun e1 => ⟨mDig_b hD e1, fun e2 => ?_, fun e2 => bad (fun z => z.2 e2)⟩⟩
  have ok : barOk M i := ⟨e1, e2⟩
  refine mV (ct_setsFacts (Or.inl rfl)) (fun M1 h1 => ?_)
  obtain ⟨l, rfl, hl⟩ := h1
  refine mI (ct_numberBy (show RRu B X (sA M 56 l) from hR) hl (L := 102) (by omega)) (fun r M1 h => ?_)
  obtain ⟨er, t, s, rfl⟩ := h
  refine ⟨fun z => ⟨⟨fun y => absurd ok y, fun _ => ?_⟩, l, t, s, rfl⟩, fun z => ⟨⟨fun y => absurd ok y, fun _ => ?_⟩, l, t, s, rfl⟩⟩
  · rw [if_pos (by rw [er] at z; exact z)]
  · rw [if_neg (by rw [er] at z; exact z)]
theorem ct_City_barred {E : EvT} {q : Nat → Nat} {d : Nat} {B : BkT} {X : StX} {M : StM} (hD : RDg X M) (hR : RRu B X M) {i : Int32} : C_City_barred E q (d + 6) i X (fun r X1 => barR B M i r ∧ ∃ l u s, X1 = xFx X l u s) := by
  have bad : ¬ barOk M i → barR B M i (-1) ∧ ∃ l u s, X = xFx X l u s := fun z => ⟨⟨fun _ => rfl, fun y => absurd y z⟩, _, _, _, xFx_self X⟩
  obtain ⟨d1, d2, d3, d4⟩ := hD
  have hD : RDg X M := ⟨d1, d2, d3, d4⟩
  have em : mIn i 0 (xs_Digs_size X - 1) = mDig M i := by
    have := d2
    rw [d1.1, mIn, mDig]
    grind
  refine en_City_barred ?_
  rw [em]
  refine ⟨fun e => bad (fun z => by rw [z.1] at e; cases e), fun e1 => ⟨mDig_b hD e1, ?_⟩⟩
  obtain ⟨f1, f2, f3, f4, f5, f6, f7, f8, f9, f10⟩ := d1
  rw [f2, f3, f8]
  refine ⟨fun e2 => ?_, fun e2 => bad (fun z => z.2 e2)⟩
  have ok : barOk M i := ⟨e1, e2⟩
  refine mVx ct_Book_ask (fun X1 h1 => ?_)
  obtain ⟨l, rfl, hl⟩ := h1
  refine mIx (ct_Book_deepest (show RRu B (xA X 104 l) M from hR) hl) (fun r M1 h => ?_)
  obtain ⟨er, t, s, rfl⟩ := h
  rw [show xa_Digs_bottom (xA X 104 l) = a_digBottom M from f7]
  refine ⟨fun z => ⟨⟨fun y => absurd ok y, fun _ => ?_⟩, l, t, s, rfl⟩, fun z => ⟨⟨fun y => absurd ok y, fun _ => ?_⟩, l, t, s, rfl⟩⟩
  · rw [if_pos (by rw [er] at z; exact z)]
  · rw [if_neg (by rw [er] at z; exact z)]
/-! count -/
def cntV (M : StM) (x : Int32) : Int32 := if x = 0 then s_now M else if x = 1 then s_wide M else if x = 2 then s_high M else if x = 3 then s_places M else if x = 4 then s_digs M else if x = 5 then s_ruleMany0 M else if x = 6 then s_finds M else if x = 7 then s_things M else if x = 8 then s_walls M else if x = 9 then s_drawings M else if x = 10 then s_cuts M else if x = 11 then s_hollows M else if x = 12 then s_signs M else if x = 13 then s_works M else if x = 14 then s_taped M else if x = 15 then s_meanings M else if mIn x 20 (19 + s_ruleMany0 M) = true then a_clauseMany M (ix (x - 20)) else -1
def CntE (X : StX) (M : StM) : Prop := xs_City_today X = s_now M ∧ xs_Plan_width X = s_wide M ∧ xs_Plan_height X = s_high M ∧ xs_Plan_places X = s_places M ∧ xs_Digs_size X = s_digs M ∧ xs_Finds_size X = s_finds M ∧ xs_Mus_things X = s_things M ∧ xs_Wall_size X = s_walls M ∧ xs_Wall_drawings X = s_drawings M ∧ xs_Fall_cuts X = s_cuts M ∧ xs_Fall_hollows X = s_hollows M ∧ xs_Sign_size X = s_signs M ∧ xs_Wall_works X = s_works M ∧ xs_Tape_length X = s_taped M ∧ xs_Plan_tellings X = s_meanings M
theorem cnt_b {x y : Int32} (h : mIn x 20 (19 + y) = true) (h0 : 0 ≤ y) (h1 : y ≤ 20) : 0 ≤ x - 20 ∧ x - 20 < y ∧ x - 20 < 20 ∧ 20 ≤ x := by
  rw [mIn, decide_eq_true_eq] at h
  obtain ⟨h2, h3⟩ := h
  obtain ⟨ey, m20⟩ := cnt (n := 20) rfl (by omega) h0 h1
  have x0 : (0 : Int32) ≤ x := Int32.le_trans (by decide) h2
  have ex : x = nI (ix x) := (nix x0).symm
  rw [ey, show (19 : Int32) = nI 19 from rfl, nI_add] at h3
  have k2 := ix_le x0 h3 (by omega)
  have k1 := le_ix (x := 20) (by decide) h2
  have k1 : 20 ≤ ix x := k1
  have es : x - 20 = nI (ix x - 20) := by
    rw [← pk_sub k1, ← ex]; rfl
  rw [es]
  exact ⟨nI_pos' (by omega), by rw [ey]; exact nI_lt (by omega) (by omega), nI_lt (b := 20) (by omega) (by omega), h2⟩
theorem ct_count {E : EvT} {q : Nat → Nat} {d : Nat} {B : BkT} {X : StX} {M : StM} (hR : RRu B X M) {x : Int32} : C_count E q (d + 1) x M (fun r M1 => r = cntV M x ∧ M1 = M) := by
  have h20 := hR.1.2.2
  have er := hR.1.2.1
  have b20 : 0 ≤ s_ruleMany0 M ∧ s_ruleMany0 M ≤ 20 := by rw [er]; exact ⟨nI_pos' (by omega), nI_le (b := 20) h20 (by omega)⟩
  refine en_count ⟨fun e => ⟨by simp [cntV, e], rfl⟩, fun e0 => ⟨fun e => ⟨by simp [cntV, e], rfl⟩, fun e1 => ⟨fun e => ⟨by simp [cntV, e], rfl⟩, fun e2 => ⟨fun e => ⟨by simp [cntV, e], rfl⟩, fun e3 => ⟨fun e => ⟨by simp [cntV, e], rfl⟩, fun e4 => ⟨fun e => ⟨by simp [cntV, e], rfl⟩, fun e5 => ⟨fun e => ⟨by simp [cntV, e], rfl⟩, fun e6 => ⟨fun e => ⟨by simp [cntV, e], rfl⟩, fun e7 => ⟨fun e => ⟨by simp [cntV, e], rfl⟩, fun e8 => ⟨fun e => ⟨by simp [cntV, e], rfl⟩, fun e9 => ⟨fun e => ⟨by simp [cntV, e], rfl⟩, fun e10 => ⟨fun e => ⟨by simp [cntV, e], rfl⟩, fun e11 => ⟨fun e => ⟨by simp [cntV, e], rfl⟩, fun e12 => ⟨fun e => ⟨by simp [cntV, e], rfl⟩, fun e13 => ⟨fun e => ⟨by simp [cntV, e], rfl⟩, fun e14 => ⟨fun e => ⟨by simp [cntV, e], rfl⟩, fun e15 => ⟨fun e => ⟨?_, rfl⟩, fun e => ⟨?_, ?_, rfl⟩⟩⟩⟩⟩⟩⟩⟩⟩⟩⟩⟩⟩⟩⟩⟩⟩⟩
  · rw [cntV, if_neg e0, if_neg e1, if_neg e2, if_neg e3, if_neg e4, if_neg e5, if_neg e6, if_neg e7, if_neg e8, if_neg e9, if_neg e10, if_neg e11, if_neg e12, if_neg e13, if_neg e14, if_neg e15, if_neg (by rw [e]; decide)]
  · obtain ⟨k1, k2, k3, k4⟩ := cnt_b e b20.1 b20.2; exact ⟨k1, k3⟩
  · rw [cntV, if_neg e0, if_neg e1, if_neg e2, if_neg e3, if_neg e4, if_neg e5, if_neg e6, if_neg e7, if_neg e8, if_neg e9, if_neg e10, if_neg e11, if_neg e12, if_neg e13, if_neg e14, if_neg e15, if_pos e]
theorem ct_City_count {E : EvT} {q : Nat → Nat} {d : Nat} {B : BkT} {X : StX} {M : StM} (hC : CntE X M) (hR : RRu B X M) {x : Int32} : C_City_count E q (d + 5) x X (fun r X1 => r = cntV M x ∧ X1 = X) := by
  obtain ⟨c0, c1, c2, c3, c4, c6, c7, c8, c9, c10, c11, c12, c13, c14, c15⟩ := hC
  obtain ⟨⟨r1, r2, r3⟩, -, rc, r4⟩ := hR
  have b20 : 0 ≤ s_ruleMany0 M ∧ s_ruleMany0 M ≤ 20 := by rw [r2]; exact ⟨nI_pos' (by omega), nI_le (b := 20) r3 (by omega)⟩
  have et : nI (nTx X) = s_ruleMany0 M := by rw [r1, r2]
  refine en_City_count (en_Book_size ?_)
  rw [et, show 20 + s_ruleMany0 M - 1 = 19 + s_ruleMany0 M by grind]
  refine ⟨fun e => ?_, fun e => ?_⟩
  · have hf : ¬ mIn x 20 (19 + s_ruleMany0 M) = true := by rw [e]; decide
    refine ⟨fun e => ⟨by simp [cntV, e, c0], rfl⟩, fun e0 => ⟨fun e => ⟨by simp [cntV, e, c1], rfl⟩, fun e1 => ⟨fun e => ⟨by simp [cntV, e, c2], rfl⟩, fun e2 => ⟨fun e => ⟨by simp [cntV, e, c3], rfl⟩, fun e3 => ⟨fun e => ⟨by simp [cntV, e, c4], rfl⟩, fun e4 => ⟨fun e => en_Book_size ⟨by rw [et]; simp [cntV, e], rfl⟩, fun e5 => ⟨fun e => ⟨by simp [cntV, e, c6], rfl⟩, fun e6 => ⟨fun e => ⟨by simp [cntV, e, c7], rfl⟩, fun e7 => en_City_countLater ?_⟩⟩⟩⟩⟩⟩⟩⟩
    refine ⟨fun e => ⟨by simp [cntV, e, c8], rfl⟩, fun e8 => ⟨fun e => ⟨by simp [cntV, e, c9], rfl⟩, fun e9 => ⟨fun e => ⟨by simp [cntV, e, c10], rfl⟩, fun e10 => ⟨fun e => ⟨by simp [cntV, e, c11], rfl⟩, fun e11 => ⟨fun e => ⟨by simp [cntV, e, c12], rfl⟩, fun e12 => ⟨fun e => ⟨by simp [cntV, e, c13], rfl⟩, fun e13 => ⟨fun e => ⟨by simp [cntV, e, c14], rfl⟩, fun e14 => ⟨fun e => ⟨by simp [cntV, e, c15], rfl⟩, fun e15 => ⟨?_, rfl⟩⟩⟩⟩⟩⟩⟩⟩⟩
    rw [cntV, if_neg e0, if_neg e1, if_neg e2, if_neg e3, if_neg e4, if_neg e5, if_neg e6, if_neg e7, if_neg e8, if_neg e9, if_neg e10, if_neg e11, if_neg e12, if_neg e13, if_neg e14, if_neg e15, if_neg hf]
  · obtain ⟨hx1, hx2, -, hx4⟩ := cnt_b e b20.1 b20.2
    have hx : 0 ≤ x - 20 ∧ x - 20 < s_ruleMany0 M := ⟨hx1, hx2⟩
    have hi : ix (x - 20) < B.length := ix_lt hx.1 (by rw [← r2]; exact hx.2) (by omega)
    obtain ⟨o1, o2, o3⟩ := r4 _ hi
    refine en_Book_clauses ⟨⟨by omega, hx.1, by rw [et]; exact hx.2, by rw [r1]; exact hi, by rw [r1]; exact rc⟩, en_Text_clauses ⟨by rw [r1]; exact hi, ?_, rfl⟩⟩
    rw [show t_n X (ix (x - 20)) = (txB B (ix (x - 20))).length from o2.1, ← o3.1]
    have n : ∀ k : Int32, 0 ≤ k → k < 20 → ¬ x = k := by
      intro k h1 h2 h3
      subst h3
      exact absurd (Int32.lt_of_lt_of_le h2 hx4) Int32.lt_irrefl
    simp only [cntV, n 0 (by decide) (by decide), n 1 (by decide) (by decide), n 2 (by decide) (by decide), n 3 (by decide) (by decide), n 4 (by decide) (by decide), n 5 (by decide) (by decide), n 6 (by decide) (by decide), n 7 (by decide) (by decide), n 8 (by decide) (by decide), n 9 (by decide) (by decide), n 10 (by decide) (by decide), n 11 (by decide) (by decide), n 12 (by decide) (by decide), n 13 (by decide) (by decide), n 14 (by decide) (by decide), n 15 (by decide) (by decide), if_false, e, if_true]
