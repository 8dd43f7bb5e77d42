/-! means, meaning -/
def MeanOK (X : StX) (M : StM) (i : Nat) : Prop := xa_Plan_toldKey X i = a_meansBy M i * 100 + a_meansNumber M i ∧ (0 ≤ a_meansBy M i ∧ a_meansBy M i ≤ 3) ∧ (1 ≤ a_meansNumber M i ∧ a_meansNumber M i ≤ 99) ∧ (0 ≤ a_meansPlace M i ∧ a_meansPlace M i < 30)
def RMe (X : StX) (M : StM) : Prop := (xs_Plan_tellings X = s_meanings M ∧ xa_Plan_toldPlace X = a_meansPlace M ∧ xa_Plan_from X = a_meansFrom M ∧ xa_Plan_to X = a_meansTo M) ∧ (0 ≤ s_meanings M ∧ s_meanings M ≤ 200) ∧ ∀ i, i < ix (s_meanings M) → MeanOK X M i
def nMe (M : StM) : Nat := ix (s_meanings M)
theorem RMe.n {X : StX} {M : StM} (h : RMe X M) : s_meanings M = nI (nMe M) ∧ nMe M ≤ 200 := cnt (n := 200) rfl (by omega) h.2.1.1 h.2.1.2
def meanF (by' nu pl fr to : Nat → Int32) (x y w : Int32) : Nat → Int32
  | 0 => -1
  | i + 1 => if by' i = x ∧ nu i = y ∧ fr i ≤ w ∧ w ≤ to i then pl i else meanF by' nu pl fr to x y w i
def meanV (M : StM) (x y w : Int32) : Int32 := meanF (a_meansBy M) (a_meansNumber M) (a_meansPlace M) (a_meansFrom M) (a_meansTo M) x y w (nMe M)
theorem neg_nI (i : Nat) : nI 0 - 1 < 0 := by decide
theorem ct_meaningOf {E : EvT} {q : Nat → Nat} {d : Nat} {M : StM} (h0 : 0 ≤ s_meanings M) (h1 : s_meanings M ≤ 200) {x y w : Int32} : C_meaningOf E q (d + 1) x y w M (fun r M1 => r = meanV M x y w ∧ M1 = M) := by
  obtain ⟨en, n200⟩ : s_meanings M = nI (nMe M) ∧ nMe M ≤ 200 := cnt (n := 200) rfl (by omega) h0 h1
  refine en_meaningOf ?_
  rw [en]
  have key : ∀ i, i ≤ nMe M → meanF (a_meansBy M) (a_meansNumber M) (a_meansPlace M) (a_meansFrom M) (a_meansTo M) x y w i = meanV M x y w → T_meaningOf_8 E q (d + 1) (fun r M1 => r = meanV M x y w ∧ M1 = M) M x y w (nI i - 1) := by
    intro i
    induction i with
    | zero =>
      intro _ he
      exact sg_meaningOf_8 ⟨fun _ => ⟨he, rfl⟩, fun z => absurd (by decide) z⟩
    | succ i ih =>
      intro hi he
      rw [nI_p']
      refine sg_meaningOf_8 ⟨fun z => absurd z (nI_pos (by omega)), fun _ => ⟨bnd (n := 200) (by omega) (by omega) rfl, ?_⟩⟩
      rw [ixn (by omega)]
      have nx : ¬ (a_meansBy M i = x ∧ a_meansNumber M i = y ∧ a_meansFrom M i ≤ w ∧ w ≤ a_meansTo M i) → T_meaningOf_8 E q (d + 1) (fun r M1 => r = meanV M x y w ∧ M1 = M) M x y w (nI i + (-1)) := by
        intro z
        rw [show nI i + (-1) = nI i - 1 by grind]
        refine ih (by omega) ?_
        rw [← he, meanF, if_neg z]
      refine ⟨fun e => nx (fun z => e z.1), fun e1 => ⟨fun e => nx (fun z => e z.2.1), fun e2 => ⟨fun e => nx (fun z => by simp [mIn, z.2.2] at e), fun e3 => ?_⟩⟩⟩
      rw [mIn, decide_eq_true_eq] at e3
      refine ⟨?_, rfl⟩
      rw [← he, meanF, if_pos ⟨e1, e2, e3⟩]
  exact key (nMe M) (Nat.le_refl _) rfl
theorem ct_Plan_meant {E : EvT} {q : Nat → Nat} {d : Nat} {X : StX} {M : StM} (hM : RMe X M) {x y w : Int32} (hx : 0 ≤ x ∧ x ≤ 3) (hy : 1 ≤ y ∧ y ≤ 99) : C_Plan_meant E q (d + 1) x y w X (fun r X1 => r = meanV M x y w ∧ X1 = X) := by
  obtain ⟨en, n200⟩ := hM.n
  obtain ⟨⟨c1, c2, c3, c4⟩, -, hok⟩ := hM
  refine en_Plan_meant ?_
  rw [c1, en]
  have key : ∀ i, i ≤ nMe M → meanF (a_meansBy M) (a_meansNumber M) (a_meansPlace M) (a_meansFrom M) (a_meansTo M) x y w i = meanV M x y w → T_Plan_meant_15 E q (d + 1) (fun r X1 => r = meanV M x y w ∧ X1 = X) X w (pKey x y) (nI i - 1) := by
    intro i
    induction i with
    | zero =>
      intro _ he
      exact sg_Plan_meant_15 ⟨fun _ => ⟨he, rfl⟩, fun z => absurd (by decide) z⟩
    | succ i ih =>
      intro hi he
      rw [nI_p']
      obtain ⟨k1, k2, k3, k4⟩ := hok i (by show i < nMe M; omega)
      have hkey : xa_Plan_toldKey X i = pKey x y ↔ a_meansBy M i = x ∧ a_meansNumber M i = y := by
        rw [k1, pKey]
        grind
      refine sg_Plan_meant_15 ⟨fun z => absurd z (nI_pos (by omega)), fun _ => ⟨bnd (n := 200) (by omega) (by omega) rfl, ?_⟩⟩
      rw [ixn (by omega), hkey, c2, c3, c4]
      have nx : ¬ (a_meansBy M i = x ∧ a_meansNumber M i = y ∧ a_meansFrom M i ≤ w ∧ w ≤ a_meansTo M i) → T_Plan_meant_15 E q (d + 1) (fun r X1 => r = meanV M x y w ∧ X1 = X) X w (pKey x y) (nI i + (-1)) := by
        intro z
        rw [show nI i + (-1) = nI i - 1 by grind]
        refine ih (by omega) ?_
        rw [← he, meanF, if_neg z]
      refine ⟨fun e => nx (fun z => e ⟨z.1, z.2.1⟩), fun e1 => ⟨fun e => nx (fun z => absurd z.2.2.1 (Int32.not_le.mpr e)), fun e2 => ⟨fun e => nx (fun z => absurd z.2.2.2 (Int32.not_le.mpr e)), fun e3 => ⟨?_, rfl⟩⟩⟩⟩
      rw [← he, meanF, if_pos ⟨e1.1, e1.2, Int32.not_lt.mp e2, Int32.not_lt.mp e3⟩]
  exact key (nMe M) (Nat.le_refl _) rfl
def meaningV (M : StM) (x y w : Int32) : Int32 := if pNum x y = true ∧ mWeek w = true then meanV M x y w else -1
theorem ct_meaning {E : EvT} {q : Nat → Nat} {d : Nat} {X : StX} {M : StM} (hM : RMe X M) {x y w : Int32} : C_meaning E q (d + 2) x y w M (fun r M1 => r = meaningV M x y w ∧ M1 = M) := by
  refine en_meaning ⟨fun e => ⟨by simp [meaningV, pNum, e], rfl⟩, fun e1 => ⟨fun e => ⟨by simp [meaningV, pNum, e], rfl⟩, fun e2 => ⟨fun e => ⟨by simp [meaningV, e], rfl⟩, fun e3 => ?_⟩⟩⟩
  refine mI (ct_meaningOf hM.2.1.1 hM.2.1.2) (fun r M1 h => ?_)
  obtain ⟨rfl, rfl⟩ := h
  exact ⟨by simp [meaningV, pNum, e1, e2, e3], rfl⟩
theorem ct_City_meaning {E : EvT} {q : Nat → Nat} {d : Nat} {X : StX} {M : StM} (hM : RMe X M) {x y w : Int32} : C_City_meaning E q (d + 2) x y w X (fun r X1 => r = meaningV M x y w ∧ X1 = X) := by
  refine en_City_meaning ⟨fun e => ⟨by simp [meaningV, e], rfl⟩, fun e1 => ⟨fun e => ⟨by simp [meaningV, e], rfl⟩, fun e2 => ?_⟩⟩
  refine mIx (ct_Plan_meant hM (by grind [pNum, mIn]) (by grind [pNum, mIn])) (fun r M1 h => ?_)
  obtain ⟨rfl, rfl⟩ := h
  exact ⟨by simp [meaningV, e1, e2], rfl⟩
def meansOk (M : StM) (x y p f g : Int32) : Prop := pNum x y = true ∧ mPlace M p = true ∧ (0 ≤ f ∧ f ≤ g ∧ g ≤ 9999) ∧ ¬ s_meanings M = 200
def mAddMe (M : StM) (x y p f g : Int32) : StM := sI (sA (sA (sA (sA (sA M 22 (upd (a_meansBy M) (ix (s_meanings M)) x)) 23 (upd (a_meansNumber M) (ix (s_meanings M)) y)) 24 (upd (a_meansPlace M) (ix (s_meanings M)) p)) 25 (upd (a_meansFrom M) (ix (s_meanings M)) f)) 26 (upd (a_meansTo M) (ix (s_meanings M)) g)) 21 (s_meanings M + 1)
def xAddMe (X : StX) (x y p f g : Int32) : StX := xI (xA (xA (xA (xA X 87 (upd (xa_Plan_toldKey X) (ix (xs_Plan_tellings X)) (pKey x y))) 88 (upd (xa_Plan_toldPlace X) (ix (xs_Plan_tellings X)) p)) 89 (upd (xa_Plan_from X) (ix (xs_Plan_tellings X)) f)) 90 (upd (xa_Plan_to X) (ix (xs_Plan_tellings X)) g)) 86 (xs_Plan_tellings X + 1)
theorem ct_means {E : EvT} {q : Nat → Nat} {d : Nat} {X : StX} {M : StM} (hM : RMe X M) {x y p f g : Int32} (P : Bool → StM → Prop) (h1 : ¬ meansOk M x y p f g → P false M) (h2 : meansOk M x y p f g → P true (mAddMe M x y p f g)) : C_means E q (d + 1) x y p f g M P := by
  have n0 := hM.2.1.1
  have n1 := hM.2.1.2
  refine en_means ⟨fun e => h1 (fun z => by have := z.1; simp [pNum, e] at this), fun e1 => ⟨fun e => h1 (fun z => by have := z.1; simp [pNum, e] at this), fun e2 => ⟨fun e => h1 (fun z => by have := z.2.1; simp [e] at this), fun e3 => ⟨fun e => h1 (fun z => by have := z.2.2.1; grind [mWeek]), fun e4 => ⟨fun e => h1 (fun z => by have := z.2.2.1; grind [mIn]), fun e5 => ⟨fun e6 => ⟨⟨n0, by grind⟩, h2 ⟨by simp [pNum, e1, e2], e3, by grind [mWeek, mIn], e6⟩⟩, fun e6 => h1 (fun z => z.2.2.2 e6)⟩⟩⟩⟩⟩⟩
theorem pPlace_eq {X : StX} {M : StM} (hP : RPl X M) (p : Int32) : pPlace X p = mPlace M p := by
  have := hP.2.2.2.2.1
  rw [pPlace, mPlace, hP.1]
  grind [mIn]
theorem ct_City_means {E : EvT} {q : Nat → Nat} {d : Nat} {X : StX} {M : StM} (hP : RPl X M) (hM : RMe X M) {x y p f g : Int32} (P : Bool → StX → Prop) (h1 : ¬ meansOk M x y p f g → P false X) (h2 : meansOk M x y p f g → P true (xAddMe X x y p f g)) : C_City_means E q (d + 2) x y p f g X P := by
  have n0 := hM.2.1.1
  have n1 := hM.2.1.2
  have c1 := hM.1.1
  refine en_City_means ?_
  rw [pPlace_eq hP, c1]
  refine ⟨fun e => h1 (fun z => by have := z.1; simp [e] at this), fun e1 => ⟨fun e => h1 (fun z => by have := z.2.1; simp [e] at this), fun e2 => ⟨fun e3 => ⟨fun e4 => en_Plan_tell (d := d) ?_, fun e4 => h1 (fun z => by have := z.2.2.2; grind)⟩, fun e => h1 (fun z => by have := z.2.2.1; simp [pSpan, this] at e)⟩⟩⟩
  rw [c1]
  have := h2 ⟨e1, e2, by simpa [pSpan] using e3, by grind⟩
  rw [xAddMe, c1] at this
  exact ⟨⟨n0, e4⟩, this⟩
theorem RMe.add {X : StX} {M : StM} (hP : RPl X M) (hM : RMe X M) {x y p f g : Int32} (ok : meansOk M x y p f g) : RMe (xAddMe X x y p f g) (mAddMe M x y p f g) := by
  obtain ⟨en, n200⟩ := hM.n
  have hp5 := hP.2.2.2.2.1
  obtain ⟨⟨c1, c2, c3, c4⟩, ⟨n0, n1⟩, hok⟩ := hM
  obtain ⟨k1, k2, k3, k4⟩ := ok
  have hlt : nMe M < 200 := by
    rcases Nat.lt_or_ge (nMe M) 200 with z | z
    · exact z
    · exact absurd (by rw [en, show nMe M = 200 by omega]; rfl) k4
  have hs : ix (s_meanings M + 1) = nMe M + 1 := by rw [en, nI_s, ixn (by omega)]
  refine ⟨⟨?_, ?_, ?_, ?_⟩, ⟨?_, ?_⟩, fun i hi => ?_⟩
  · show xs_Plan_tellings X + 1 = s_meanings M + 1
    rw [c1]
  · show upd (xa_Plan_toldPlace X) (ix (xs_Plan_tellings X)) p = upd (a_meansPlace M) (ix (s_meanings M)) p
    rw [c1, c2]
  · show upd (xa_Plan_from X) (ix (xs_Plan_tellings X)) f = upd (a_meansFrom M) (ix (s_meanings M)) f
    rw [c1, c3]
  · show upd (xa_Plan_to X) (ix (xs_Plan_tellings X)) g = upd (a_meansTo M) (ix (s_meanings M)) g
    rw [c1, c4]
  · show 0 ≤ s_meanings M + 1
    grind
  · show s_meanings M + 1 ≤ 200
    grind
  · have hi : i < nMe M + 1 := by rw [← hs]; exact hi
    show upd (xa_Plan_toldKey X) (ix (xs_Plan_tellings X)) (pKey x y) i = upd (a_meansBy M) (nMe M) x i * 100 + upd (a_meansNumber M) (nMe M) y i ∧ (0 ≤ upd (a_meansBy M) (nMe M) x i ∧ upd (a_meansBy M) (nMe M) x i ≤ 3) ∧ (1 ≤ upd (a_meansNumber M) (nMe M) y i ∧ upd (a_meansNumber M) (nMe M) y i ≤ 99) ∧ (0 ≤ upd (a_meansPlace M) (nMe M) p i ∧ upd (a_meansPlace M) (nMe M) p i < 30)
    rw [c1, show ix (s_meanings M) = nMe M from rfl]
    by_cases e : i = nMe M
    · subst e
      simp only [upd_eq]
      refine ⟨rfl, ?_, ?_, ?_⟩
      · grind [pNum, mIn]
      · grind [pNum, mIn]
      · grind [mPlace]
    · simp only [upd_ne e]
      exact hok i (by show i < nMe M; omega)
/-! the tape -/
def RTp (X : StX) (M : StM) : Prop := (xs_Tape_length X = s_taped M ∧ xa_Tape_bytes X = a_tape M) ∧ (0 ≤ s_taped M ∧ s_taped M ≤ 400)
def nT (M : StM) : Nat := ix (s_taped M)
theorem RTp.n {X : StX} {M : StM} (h : RTp X M) : s_taped M = nI (nT M) ∧ nT M ≤ 400 := cnt (n := 400) rfl (by omega) h.2.1 h.2.2
def byt (v k : Int32) : Int32 := vp_nar .byte ((v >>> (k &&& 31)).toInt8.toInt32)
def tp4 (a : Nat → Int32) (n : Nat) (v : Int32) : Nat → Int32 := upd (upd (upd (upd a n (byt v 24)) (n + 1) (byt v 16)) (n + 2) (byt v 8)) (n + 3) (byt v 0)
def mTp (M : StM) (a : Nat → Int32) (n : Nat) : StM := sI (sA M 27 a) 28 (nI n)
def xTp (X : StX) (a : Nat → Int32) (n : Nat) : StX := xI (xA X 180 a) 181 (nI n)
theorem mTp_tw (M : StM) (a b : Nat → Int32) (m n : Nat) (x : Int32) : sI (sA (mTp M a m) 27 b) 28 x = sI (sA M 27 b) 28 x := by
  simp only [mTp, sI, sA]
  congr 1 <;> (funext j; simp only [va_up]; split <;> rfl)
theorem xTp_tw (X : StX) (a b : Nat → Int32) (m : Nat) (x : Int32) : xI (xA (xTp X a m) 180 b) 181 x = xI (xA X 180 b) 181 x := by
  simp only [xTp, xI, xA]
  congr 1
  · funext j; simp only [va_up]; split <;> rfl
  · congr 1
    funext j; simp only [va_up]; split <;> rfl
theorem ct_types {E : EvT} {q : Nat → Nat} {d : Nat} {M : StM} {a : Nat → Int32} {n : Nat} (hn : n + 4 ≤ 400) {v : Int32} : C_types E q d v (mTp M a n) (fun M1 => M1 = mTp M (tp4 a n v) (n + 4)) := by
  refine en_types ?_
  have st : ∀ (b : Nat → Int32) (m : Nat) (y : Int32), m < 400 → ¬ y < 0 → T_types_2 E q d (fun M1 => M1 = mTp M (tp4 a n v) (n + 4)) (mTp M (upd b m (byt v (8 * y))) (m + 1)) v (y + (-1)) → T_types_2 E q d (fun M1 => M1 = mTp M (tp4 a n v) (n + 4)) (mTp M b m) v y := by
    intro b m y hm hy h
    refine sg_types_2 ⟨fun z => absurd z hy, fun _ => ⟨by show 0 ≤ nI m ∧ nI m < 400; exact bnd (n := 400) hm (by omega) rfl, ?_⟩⟩
    rw [mTp_tw (n := m)]
    show T_types_2 E q d _ (sI (sA M 27 (upd b (ix (nI m)) (byt v (8 * y)))) 28 (nI m + 1)) v (y + (-1))
    rw [ixn (by omega), nI_s]
    exact h
  refine st a n 3 (by omega) (by decide) (st _ _ 2 (by omega) (by decide) (st _ _ 1 (by omega) (by decide) (st _ _ 0 (by omega) (by decide) ?_)))
  exact sg_types_2 ⟨fun _ => rfl, fun z => absurd (by decide) z⟩
theorem ct_Tape_append {E : EvT} {q : Nat → Nat} {d : Nat} {X : StX} {a : Nat → Int32} {n : Nat} (hn : n + 4 ≤ 400) {v : Int32} : C_Tape_append E q d v (xTp X a n) (fun X1 => X1 = xTp X (tp4 a n v) (n + 4)) := by
  refine en_Tape_append ?_
  have st : ∀ (b : Nat → Int32) (m : Nat) (y : Int32), m < 400 → ¬ y < 0 → T_Tape_append_3 E q d (fun X1 => X1 = xTp X (tp4 a n v) (n + 4)) (xTp X (upd b m (byt v y)) (m + 1)) v (y + (-8)) → T_Tape_append_3 E q d (fun X1 => X1 = xTp X (tp4 a n v) (n + 4)) (xTp X b m) v y := by
    intro b m y hm hy h
    refine sg_Tape_append_3 ⟨fun z => absurd z hy, fun _ => ⟨fun z => absurd z (by show ¬ 400 ≤ nI m; exact nle_nI hm (by omega) rfl), fun _ => ⟨by show 0 ≤ nI m ∧ nI m < 400; exact bnd (n := 400) hm (by omega) rfl, ?_⟩⟩⟩
    rw [xTp_tw]
    show T_Tape_append_3 E q d _ (xI (xA X 180 (upd b (ix (nI m)) (byt v y))) 181 (nI m + 1)) v (y + (-8))
    rw [ixn (by omega), nI_s]
    exact h
  refine st a n 24 (by omega) (by decide) (st _ _ 16 (by omega) (by decide) (st _ _ 8 (by omega) (by decide) (st _ _ 0 (by omega) (by decide) ?_)))
  exact sg_Tape_append_3 ⟨fun _ => rfl, fun z => absurd (by decide) z⟩
def tp20 (a : Nat → Int32) (n : Nat) (v w x y z : Int32) : Nat → Int32 := tp4 (tp4 (tp4 (tp4 (tp4 a n v) (n + 4) w) (n + 8) x) (n + 12) y) (n + 16) z
theorem mTp_self {M : StM} {n : Nat} (h : s_taped M = nI n) : mTp M (a_tape M) n = M := by
  rw [mTp, ← h]
  show sI (sA M 27 (M.2 27)) 28 ((sA M 27 (M.2 27)).1 28) = M
  rw [sI_self, sA_self]
theorem xI_self (S : StX) (i : Nat) : xI S i (S.1 i) = S := by
  obtain ⟨a, b⟩ := S
  have : va_up a i (a i) = a := by
    funext j
    simp only [va_up]
    split
    · next hj => rw [hj]
    · rfl
  simp only [xI, this]
theorem xTp_self {X : StX} {n : Nat} (h : xs_Tape_length X = nI n) : xTp X (xa_Tape_bytes X) n = X := by
  rw [xTp, ← h]
  show xI (xA X 180 (X.2.1 180)) 181 ((xA X 180 (X.2.1 180)).1 181) = X
  rw [xI_self, xA_self]
theorem ct_feed {E : EvT} {q : Nat → Nat} {d : Nat} {X : StX} {M : StM} (hT : RTp X M) {v w x y z : Int32} (P : Int32 → StM → Prop) (h1 : ¬ nT M + 20 ≤ 400 → P (-1) M) (h2 : nT M + 20 ≤ 400 → P (nI (nT M + 20)) (mTp M (tp20 (a_tape M) (nT M) v w x y z) (nT M + 20))) : C_feed E q (d + 1) v w x y z M P := by
  obtain ⟨en, n400⟩ := hT.n
  have he : s_taped M + 20 ≤ 400 ↔ nT M + 20 ≤ 400 := by
    rw [en, show (20 : Int32) = nI 20 from rfl, nI_add, show (400 : Int32) = nI 400 from rfl, nI_leI (by omega) (by omega)]
  refine en_feed ?_
  rw [he]
  refine ⟨fun hk => ?_, h1⟩
  have hself := mTp_self en
  have := ct_types (E := E) (q := q) (d := d) (M := M) (a := a_tape M) (n := nT M) (by omega) (v := v)
  rw [hself] at this
  refine mV this (fun M1 e1 => ?_)
  subst e1
  refine mV (ct_types (by omega)) (fun M1 e1 => ?_)
  subst e1
  refine mV (ct_types (by omega)) (fun M1 e1 => ?_)
  subst e1
  refine mV (ct_types (by omega)) (fun M1 e1 => ?_)
  subst e1
  refine mV (ct_types (by omega)) (fun M1 e1 => ?_)
  subst e1
  exact h2 hk
theorem ct_City_feed {E : EvT} {q : Nat → Nat} {d : Nat} {X : StX} {M : StM} (hT : RTp X M) {v w x y z : Int32} (P : Int32 → StX → Prop) (h1 : ¬ nT M + 20 ≤ 400 → P (-1) X) (h2 : nT M + 20 ≤ 400 → P (nI (nT M + 20)) (xTp X (tp20 (a_tape M) (nT M) v w x y z) (nT M + 20))) : C_City_feed E q (d + 1) v w x y z X P := by
  obtain ⟨en, n400⟩ := hT.n
  have ex : xs_Tape_length X = nI (nT M) := hT.1.1.trans en
  have he : xs_Tape_length X ≤ 380 ↔ nT M + 20 ≤ 400 := by
    rw [ex, show (380 : Int32) = nI 380 from rfl, nI_leI (by omega) (by omega)]
    omega
  refine en_City_feed ?_
  rw [he]
  refine ⟨fun hk => ?_, h1⟩
  have hself := xTp_self ex
  have := ct_Tape_append (E := E) (q := q) (d := d) (X := X) (a := xa_Tape_bytes X) (n := nT M) (by omega) (v := v)
  rw [hself] at this
  refine mVx this (fun M1 e1 => ?_)
  subst e1
  refine mVx (ct_Tape_append (by omega)) (fun M1 e1 => ?_)
  subst e1
  refine mVx (ct_Tape_append (by omega)) (fun M1 e1 => ?_)
  subst e1
  refine mVx (ct_Tape_append (by omega)) (fun M1 e1 => ?_)
  subst e1
  refine mVx (ct_Tape_append (by omega)) (fun M1 e1 => ?_)
  subst e1
  have := h2 hk
  rw [← hT.1.2] at this
  exact this
theorem RTp.feed {X : StX} {M : StM} (_hT : RTp X M) {a : Nat → Int32} {n : Nat} (hn : n ≤ 400) : RTp (xTp X a n) (mTp M a n) := ⟨⟨rfl, rfl⟩, by show 0 ≤ nI n; exact nI_pos' (by omega), by show nI n ≤ 400; exact nI_le (b := 400) hn (by omega)⟩
