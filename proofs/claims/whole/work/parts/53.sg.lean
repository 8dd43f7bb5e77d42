/-! signs -/
def RSi (X : StX) (M : StM) : Prop := (xs_Sign_size X = s_signs M ∧ xa_Sign_name X = a_signName M ∧ xa_Sign_kind X = a_signKind M ∧ xa_Sign_place X = a_signPlace M ∧ xa_Sign_week X = a_signWeek M) ∧ (0 ≤ s_signs M ∧ s_signs M ≤ 100) ∧ ∀ i, i < ix (s_signs M) → 0 ≤ a_signName M i ∧ a_signName M i < 30
def nSi (M : StM) : Nat := ix (s_signs M)
theorem RSi.n {X : StX} {M : StM} (h : RSi X M) : s_signs M = nI (nSi M) ∧ nSi M ≤ 100 := cnt (n := 100) rfl (by omega) h.2.1.1 h.2.1.2
def signOk (M : StM) (n k p w : Int32) : Prop := mIn n 0 29 = true ∧ mIn k 0 7 = true ∧ mPlace M p = true ∧ mIn w 0 (s_now M) = true ∧ ¬ s_signs M = 100
def mAddSi (M : StM) (n k p w : Int32) : StM := sI (sA (sA (sA (sA M 102 (upd (a_signName M) (ix (s_signs M)) n)) 103 (upd (a_signKind M) (ix (s_signs M)) k)) 104 (upd (a_signPlace M) (ix (s_signs M)) p)) 105 (upd (a_signWeek M) (ix (s_signs M)) w)) 100 (s_signs M + 1)
def xAddSi (X : StX) (n k p w : Int32) : StX := xI (xA (xA (xA (xA X 163 (upd (xa_Sign_name X) (ix (xs_Sign_size X)) n)) 164 (upd (xa_Sign_kind X) (ix (xs_Sign_size X)) k)) 165 (upd (xa_Sign_place X) (ix (xs_Sign_size X)) p)) 166 (upd (xa_Sign_week X) (ix (xs_Sign_size X)) w)) 162 (xs_Sign_size X + 1)
theorem ct_sign {E : EvT} {q : Nat → Nat} {d : Nat} {X : StX} {M : StM} (hS : RSi X M) {n k p w : Int32} (P : Bool → StM → Prop) (h1 : ¬ signOk M n k p w → P false M) (h2 : signOk M n k p w → P true (mAddSi M n k p w)) : C_sign E q (d + 1) n k p w M P := by
  have hn := hS.2.1
  exact en_sign ⟨fun e => h1 (fun z => by rw [z.1] at e; cases e), fun e1 => ⟨fun e => h1 (fun z => by rw [z.2.1] at e; cases e), fun e2 => ⟨fun e => h1 (fun z => by rw [z.2.2.1] at e; cases e), fun e3 => ⟨fun e => h1 (fun z => by rw [z.2.2.2.1] at e; cases e), fun e4 => ⟨fun e5 => ⟨by grind, h2 ⟨e1, e2, e3, e4, e5⟩⟩, fun e => h1 (fun z => z.2.2.2.2 e)⟩⟩⟩⟩⟩
theorem ct_City_sign {E : EvT} {q : Nat → Nat} {d : Nat} {X : StX} {M : StM} (hB : RB X M) (hP : RPl X M) (hS : RSi X M) {n k p w : Int32} (P : Bool → StX → Prop) (h1 : ¬ signOk M n k p w → P false X) (h2 : signOk M n k p w → P true (xAddSi X n k p w)) : C_City_sign E q (d + 2) n k p w X P := by
  have hn := hS.2.1
  have es := hS.1.1
  refine en_City_sign ?_
  rw [pPlace_eq hP, hB.2.2.1]
  refine ⟨fun e => h1 (fun z => by rw [z.1] at e; cases e), fun e1 => ⟨fun e => h1 (fun z => by rw [z.2.1] at e; cases e), fun e2 => ⟨fun e3 => ⟨fun e => h1 (fun z => by rw [z.2.2.2.1] at e; cases e), fun e4 => ⟨fun e5 => en_Sign_add ⟨?_, h2 ⟨e1, e2, e3, e4, ?_⟩⟩, fun e => h1 (fun z => ?_)⟩⟩, fun e => h1 (fun z => by rw [z.2.2.1] at e; cases e)⟩⟩⟩
  · rw [es] at e5 ⊢; exact ⟨hn.1, e5⟩
  · rw [es] at e5; grind
  · rw [es] at e; have := z.2.2.2.2; grind
theorem RSi.add {X : StX} {M : StM} (hS : RSi X M) {n k p w : Int32} (ok : signOk M n k p w) : RSi (xAddSi X n k p w) (mAddSi M n k p w) := by
  obtain ⟨en, n100⟩ := hS.n
  obtain ⟨⟨c1, c2, c3, c4, c5⟩, ⟨n0, n1⟩, hok⟩ := hS
  obtain ⟨k1, k2, k3, k4, k5⟩ := ok
  have hlt : nSi M < 100 := by
    rcases Nat.lt_or_ge (nSi M) 100 with z | z
    · exact z
    · exact absurd (by rw [en, show nSi M = 100 by omega]; rfl) k5
  have hs : ix (s_signs M + 1) = nSi M + 1 := by rw [en, nI_s, ixn (by omega)]
  refine ⟨⟨?_, ?_, ?_, ?_, ?_⟩, ⟨?_, ?_⟩, fun i hi => ?_⟩
  · show xs_Sign_size X + 1 = s_signs M + 1
    rw [c1]
  · show upd (xa_Sign_name X) (ix (xs_Sign_size X)) n = upd (a_signName M) (ix (s_signs M)) n
    rw [c1, c2]
  · show upd (xa_Sign_kind X) (ix (xs_Sign_size X)) k = upd (a_signKind M) (ix (s_signs M)) k
    rw [c1, c3]
  · show upd (xa_Sign_place X) (ix (xs_Sign_size X)) p = upd (a_signPlace M) (ix (s_signs M)) p
    rw [c1, c4]
  · show upd (xa_Sign_week X) (ix (xs_Sign_size X)) w = upd (a_signWeek M) (ix (s_signs M)) w
    rw [c1, c5]
  · show 0 ≤ s_signs M + 1
    grind
  · show s_signs M + 1 ≤ 100
    grind
  · have hi : i < ix (s_signs M + 1) := hi
    rw [hs] at hi
    show 0 ≤ upd (a_signName M) (nSi M) n i ∧ upd (a_signName M) (nSi M) n i < 30
    by_cases e : i = nSi M
    · subst e
      rw [upd_eq]
      grind [mIn]
    · rw [upd_ne e]
      exact hok i (by show i < nSi M; omega)
/-! who -/
def whM (M : StM) (p : Int32) : Nat → (Nat → Int32)
  | 0 => fun _ => 0
  | i + 1 => if a_signPlace M i = p then upd (whM M p i) (ix (a_signName M i)) (whM M p i (ix (a_signName M i)) + 1) else whM M p i
def whW (B : BkT) (M : StM) (p : Int32) : Nat → (Nat → Int32)
  | 0 => fun _ => 0
  | i + 1 => if a_signPlace M i = p then upd (whW B M p i) (ix (a_signName M i)) (whW B M p i (ix (a_signName M i)) + numV B M (fcF (a_signWeek M i) 0 (a_signKind M i) 0 (pkM M p)) 118 0) else whW B M p i
def whB (mn wo : Nat → Int32) : Nat → Int32 × Int32
  | 0 => (-1, 0)
  | n + 1 => if ¬ mn n < 2 ∧ (whB mn wo n).2 < wo n then (nI n, wo n) else whB mn wo n
def whR (mn wo : Nat → Int32) (w : Int32) : Nat → Int32
  | 0 => 0
  | n + 1 => if ¬ mn n < 2 ∧ ¬ 2 * wo n < w then whR mn wo w n + 1 else whR mn wo w n
theorem whB_c {mn wo mn' wo' : Nat → Int32} : ∀ {n : Nat}, (∀ j, j < n → mn j = mn' j ∧ wo j = wo' j) → whB mn wo n = whB mn' wo' n := by
  intro n
  induction n with
  | zero => intro _; rfl
  | succ n ih =>
    intro h
    obtain ⟨h1, h2⟩ := h n (by omega)
    rw [whB, whB, ih (fun j hj => h j (by omega)), h1, h2]
theorem whR_c {mn wo mn' wo' : Nat → Int32} {w : Int32} : ∀ {n : Nat}, (∀ j, j < n → mn j = mn' j ∧ wo j = wo' j) → whR mn wo w n = whR mn' wo' w n := by
  intro n
  induction n with
  | zero => intro _; rfl
  | succ n ih =>
    intro h
    obtain ⟨h1, h2⟩ := h n (by omega)
    rw [whR, whR, ih (fun j hj => h j (by omega)), h1, h2]
def whV (B : BkT) (M : StM) (p what : Int32) : Int32 := if (whB (whM M p (nSi M)) (whW B M p (nSi M)) 30).1 = -1 ∨ what = 0 then (whB (whM M p (nSi M)) (whW B M p (nSi M)) 30).1 else if what = 1 then (whB (whM M p (nSi M)) (whW B M p (nSi M)) 30).2 else whR (whM M p (nSi M)) (whW B M p (nSi M)) (whB (whM M p (nSi M)) (whW B M p (nSi M)) 30).2 30
def whOk (M : StM) (p what : Int32) : Prop := mPlace M p = true ∧ mIn what 0 2 = true
def whoR (B : BkT) (M : StM) (p what r : Int32) : Prop := (¬ whOk M p what → r = -1) ∧ (whOk M p what → r = whV B M p what)
theorem whoR.one {B : BkT} {M : StM} {p w r r' : Int32} (h1 : whoR B M p w r) (h2 : whoR B M p w r') : r = r' := by
  rcases Classical.em (whOk M p w) with z | z
  · rw [h1.2 z, h2.2 z]
  · rw [h1.1 z, h2.1 z]
theorem ct_who {E : EvT} {q : Nat → Nat} {d : Nat} {B : BkT} {X : StX} {M : StM} (hP : RPl X M) (hS : RSi X M) (hR : RRu B X M) {p what : Int32} : C_who E q (d + 4) p what M (fun r M1 => whoR B M p what r ∧ kept M M1) := by
  obtain ⟨en, n100⟩ := hS.n
  have bad : ¬ whOk M p what → whoR B M p what (-1) ∧ kept M M := fun z => ⟨⟨fun _ => rfl, fun y => absurd y z⟩, kept.rf M⟩
  refine en_who ⟨fun e => bad (fun z => by rw [z.1] at e; cases e), fun e1 => ⟨fun e2 => ?_, fun e => bad (fun z => by rw [z.2] at e; cases e)⟩⟩
  have ok : whOk M p what := ⟨e1, e2⟩
  have fin : ∀ r N, kept M N → r = whV B M p what → whoR B M p what r ∧ kept M N := fun r N h1 h2 => ⟨⟨fun z => absurd ok z, fun _ => h2⟩, h1⟩
  -- rivals
  have riv : ∀ N, kept M N → (∀ j, j < 30 → a_nameMany N j = whM M p (nSi M) j ∧ a_nameWorth N j = whW B M p (nSi M) j) → ¬ (whB (whM M p (nSi M)) (whW B M p (nSi M)) 30).1 = -1 → ¬ what = 0 → ¬ what = 1 → T_who_233 E q (d + 4) (fun r M1 => whoR B M p what r ∧ kept M M1) N (whB (whM M p (nSi M)) (whW B M p (nSi M)) 30).2 0 0 := by
    intro N hk hN z1 z2 z3
    refine up_s (W := 30) (T := fun i y => T_who_233 E q (d + 4) (fun r M1 => whoR B M p what r ∧ kept M M1) N (whB (whM M p (nSi M)) (whW B M p (nSi M)) 30).2 y (nI i)) (J := fun i y => y = whR (whM M p (nSi M)) (whW B M p (nSi M)) (whB (whM M p (nSi M)) (whW B M p (nSi M)) 30).2 i) ?_ ?_ 0 0 (by omega) rfl
    · intro y hy
      refine sg_who_233 ⟨fun _ => fin _ _ hk ?_, fun z => absurd (by decide) z⟩
      rw [whV, if_neg (fun z => z.elim z1 z2), if_neg z3]; exact hy
    · intro i y hi hy k
      obtain ⟨n1, n2⟩ := hN i hi
      refine sg_who_233 ⟨fun z => absurd z (nle_nI (n := 30) hi (by omega) rfl), fun _ => ⟨bnd (n := 30) hi (by omega) rfl, ?_⟩⟩
      rw [ixn (show i < 2 ^ 31 by omega), n1, n2, add0, nI_s]
      refine ⟨fun c => k _ ?_, fun c => ⟨fun c2 => k _ ?_, fun c2 => k _ ?_⟩⟩
      · rw [whR, if_neg (fun z => z.1 c)]; exact hy
      · rw [whR, if_neg (fun z => z.2 c2)]; exact hy
      · rw [whR, if_pos ⟨c, c2⟩, hy]
  -- the strongest
  have str : ∀ N, kept M N → (∀ j, j < 30 → a_nameMany N j = whM M p (nSi M) j ∧ a_nameWorth N j = whW B M p (nSi M) j) → T_who_157 E q (d + 4) (fun r M1 => whoR B M p what r ∧ kept M M1) N what (-1) 0 0 := by
    intro N hk hN
    refine up_s (W := 30) (T := fun i (y : Int32 × Int32) => T_who_157 E q (d + 4) (fun r M1 => whoR B M p what r ∧ kept M M1) N what y.1 y.2 (nI i)) (J := fun i y => y = whB (whM M p (nSi M)) (whW B M p (nSi M)) i) ?_ ?_ 0 (-1, 0) (by omega) rfl
    · intro y hy
      subst hy
      refine sg_who_157 ⟨fun _ => ⟨fun z => fin _ _ hk ?_, fun z => ⟨fun z2 => ⟨fun z3 => riv N hk hN z z2 z3, fun z3 => fin _ _ hk ?_⟩, fun z2 => fin _ _ hk ?_⟩⟩, fun z => absurd (by decide) z⟩
      · rw [whV, if_pos (Or.inl z)]
      · rw [whV, if_neg (fun y => y.elim z z2), if_pos z3]
      · rw [whV, if_pos (Or.inr z2)]
    · intro i y hi hy k
      subst hy
      obtain ⟨n1, n2⟩ := hN i hi
      refine sg_who_157 ⟨fun z => absurd z (nle_nI (n := 30) hi (by omega) rfl), fun _ => ⟨bnd (n := 30) hi (by omega) rfl, ?_⟩⟩
      rw [ixn (show i < 2 ^ 31 by omega), n1, n2, nI_s]
      refine ⟨fun c => k _ ?_, fun c => ⟨fun c2 => k (nI i, whW B M p (nSi M) i) ?_, fun c2 => k _ ?_⟩⟩
      · rw [whB, if_neg (fun z => z.1 c)]
      · rw [whB, if_pos ⟨c, c2⟩]
      · rw [whB, if_neg (fun z => c2 z.2)]
  -- the signs
  have sgs : ∀ N, kept M N → (∀ j, j < 30 → a_nameMany N j = 0 ∧ a_nameWorth N j = 0) → T_who_49 E q (d + 4) (fun r M1 => whoR B M p what r ∧ kept M M1) N p what 0 := by
    intro N hk hN
    refine up_s (W := nSi M) (T := fun i N => T_who_49 E q (d + 4) (fun r M1 => whoR B M p what r ∧ kept M M1) N p what (nI i)) (J := fun i N => kept M N ∧ ∀ j, j < 30 → a_nameMany N j = whM M p i j ∧ a_nameWorth N j = whW B M p i j) ?_ ?_ 0 N (by omega) ⟨hk, hN⟩
    · rintro N ⟨hk, hN⟩
      refine sg_who_49 ⟨fun _ => str N hk hN, fun z => absurd (by rw [show s_signs N = s_signs M from hk.s 100, en]; exact Int32.le_refl _) z⟩
    · rintro i N hi ⟨hk, hN⟩ k
      have e2 : a_signName N = a_signName M := hk.a rfl
      have e3 : a_signKind N = a_signKind M := hk.a rfl
      have e4 : a_signPlace N = a_signPlace M := hk.a rfl
      have e5 : a_signWeek N = a_signWeek M := hk.a rfl
      obtain ⟨nm0, nm1⟩ := hS.2.2 i hi
      refine sg_who_49 ⟨fun z => absurd z (by rw [show s_signs N = s_signs M from hk.s 100, en]; exact nI_ge hi (by omega)), fun _ => ⟨bnd (n := 100) (by omega) (by omega) rfl, ?_⟩⟩
      rw [ixn (show i < 2 ^ 31 by omega), e3, e4, e5, nI_s]
      refine ⟨fun c => ?_, fun c => k N ⟨hk, fun j hj => ?_⟩⟩
      · refine mV (ct_setsFacts (Or.inr (mPlace_b hP e1))) (fun M1 h1 => ?_)
        obtain ⟨l, rfl, hl⟩ := h1
        rw [show a_signName (sA N 56 l) = a_signName M from e2]
        have hk2 : kept M (sA N 56 l) := hk.sA rfl l
        have hk3 := hk2.sA (k := 109) rfl (upd (a_nameMany (sA N 56 l)) (ix (a_signName M i)) (a_nameMany (sA N 56 l) (ix (a_signName M i)) + 1))
        rw [pkM_kp hk] at hl
        refine ⟨⟨nm0, nm1⟩, mI (ct_numberBy (hR.kp hk3 (keptX.rf X)) hl (L := 118) (by omega)) (fun r M1 h => ?_)⟩
        obtain ⟨er, t, s, rfl⟩ := h
        rw [numV_kp hk3] at er
        refine k _ ⟨(hk3.nb t s).sA rfl _, fun j hj => ?_⟩
        obtain ⟨n1, n2⟩ := hN (ix (a_signName M i)) (ix_lt (n := 30) nm0 nm1 (by omega))
        show upd (a_nameMany N) (ix (a_signName M i)) (a_nameMany N (ix (a_signName M i)) + 1) j = _ ∧ upd (a_nameWorth N) (ix (a_signName M i)) (a_nameWorth N (ix (a_signName M i)) + r) j = _
        rw [n1, n2, er, whM, whW, if_pos c, if_pos c]
        by_cases e : j = ix (a_signName M i)
        · subst e
          rw [upd_eq, upd_eq, upd_eq, upd_eq]
          exact ⟨rfl, rfl⟩
        · rw [upd_ne e, upd_ne e, upd_ne e, upd_ne e]
          exact hN j hj
      · rw [whM, whW, if_neg c, if_neg c]
        exact hN j hj
  refine up_s (W := 30) (T := fun i N => T_who_21 E q (d + 4) (fun r M1 => whoR B M p what r ∧ kept M M1) N p what (nI i)) (J := fun i N => kept M N ∧ ∀ j, j < i → a_nameMany N j = 0 ∧ a_nameWorth N j = 0) ?_ ?_ 0 M (by omega) ⟨kept.rf M, fun j hj => absurd hj (Nat.not_lt_zero j)⟩
  · rintro N ⟨hk, hN⟩
    exact sg_who_21 ⟨fun _ => sgs N hk hN, fun z => absurd (by decide) z⟩
  · rintro i N hi ⟨hk, hN⟩ k
    refine sg_who_21 ⟨fun z => absurd z (nle_nI (n := 30) hi (by omega) rfl), fun _ => ⟨bnd (n := 30) hi (by omega) rfl, ?_⟩⟩
    rw [ixn (show i < 2 ^ 31 by omega), nI_s]
    refine k _ ⟨(hk.sA rfl _).sA rfl _, fun j hj => ?_⟩
    show upd (a_nameMany N) i 0 j = 0 ∧ upd (a_nameWorth N) i 0 j = 0
    by_cases e : j = i
    · subst e; rw [upd_eq, upd_eq]; exact ⟨rfl, rfl⟩
    · rw [upd_ne e, upd_ne e]; exact hN j (by omega)
theorem whB_w (mn wo : Nat → Int32) : ∀ n, n ≤ 30 → ((whB mn wo n).1 = -1 ∧ (whB mn wo n).2 = 0) ∨ ∃ j, j < n ∧ (whB mn wo n).1 = nI j ∧ (whB mn wo n).2 = wo j := by
  intro n
  induction n with
  | zero => intro _; exact Or.inl ⟨rfl, rfl⟩
  | succ n ih =>
    intro hn
    rw [whB]
    split
    · exact Or.inr ⟨n, by omega, rfl, rfl⟩
    · rcases ih (by omega) with h | ⟨j, h, h2⟩
      · exact Or.inl h
      · exact Or.inr ⟨j, by omega, h2⟩
theorem ct_Sign_strongest {E : EvT} {q : Nat → Nat} {d : Nat} {X : StX} : C_Sign_strongest E q d X (fun r X1 => r = (whB (xa_Sign_seen X) (xa_Sign_worth X) 30).1 ∧ X1 = X) := by
  refine en_Sign_strongest ?_
  refine up_s (W := 30) (T := fun i y => T_Sign_strongest_4 E q d (fun r X1 => r = (whB (xa_Sign_seen X) (xa_Sign_worth X) 30).1 ∧ X1 = X) X y (nI i)) (J := fun i y => y = (whB (xa_Sign_seen X) (xa_Sign_worth X) i).1) ?_ ?_ 0 (-1) (by omega) rfl
  · intro y hy
    exact sg_Sign_strongest_4 ⟨fun _ => ⟨hy, rfl⟩, fun z => absurd (by decide) z⟩
  · intro i y hi hy k
    refine sg_Sign_strongest_4 ⟨fun z => absurd z (nle_nI (n := 30) hi (by omega) rfl), fun _ => ⟨bnd (n := 30) hi (by omega) rfl, ?_⟩⟩
    rw [ixn (show i < 2 ^ 31 by omega), nI_s]
    have no : ¬ (¬ xa_Sign_seen X i < 2 ∧ (whB (xa_Sign_seen X) (xa_Sign_worth X) i).2 < xa_Sign_worth X i) → y = (whB (xa_Sign_seen X) (xa_Sign_worth X) (i + 1)).1 := fun z => by rw [whB, if_neg z]; exact hy
    have yes : (¬ xa_Sign_seen X i < 2 ∧ (whB (xa_Sign_seen X) (xa_Sign_worth X) i).2 < xa_Sign_worth X i) → nI i = (whB (xa_Sign_seen X) (xa_Sign_worth X) (i + 1)).1 := fun z => by rw [whB, if_pos z]
    refine ⟨fun c => k _ (no (fun z => z.1 c)), fun c => ⟨fun c1 => ?_, fun c1 => ?_⟩⟩
    · rcases whB_w (xa_Sign_seen X) (xa_Sign_worth X) i (by omega) with ⟨w1, w2⟩ | ⟨j, hj, w1, w2⟩
      · exact absurd (hy.trans w1) c1
      · have ey : y = nI j := hy.trans w1
        rw [ey, ixn (show j < 2 ^ 31 by omega)]
        refine ⟨bnd (n := 30) (by omega) (by omega) rfl, fun c2 => k _ (by rw [← ey]; exact no (fun z => absurd z.2 (by rw [w2]; exact Int32.not_lt.mpr c2))), fun c2 => k _ (yes ⟨c, by rw [w2]; exact Int32.not_le.mp c2⟩)⟩
    · rcases whB_w (xa_Sign_seen X) (xa_Sign_worth X) i (by omega) with ⟨w1, w2⟩ | ⟨j, hj, w1, w2⟩
      · exact ⟨fun c2 => k _ (no (fun z => absurd z.2 (by rw [w2]; exact Int32.not_lt.mpr c2))), fun c2 => k _ (yes ⟨c, by rw [w2]; exact Int32.not_le.mp c2⟩)⟩
      · exact absurd ((hy.trans w1).symm.trans c1) (nI_ne1 (by omega))
theorem ct_Sign_rivals {E : EvT} {q : Nat → Nat} {d : Nat} {X : StX} {w : Int32} : C_Sign_rivals E q d w X (fun r X1 => r = whR (xa_Sign_seen X) (xa_Sign_worth X) w 30 ∧ X1 = X) := by
  refine en_Sign_rivals ?_
  refine up_s (W := 30) (T := fun i y => T_Sign_rivals_4 E q d (fun r X1 => r = whR (xa_Sign_seen X) (xa_Sign_worth X) w 30 ∧ X1 = X) X w y (nI i)) (J := fun i y => y = whR (xa_Sign_seen X) (xa_Sign_worth X) w i) ?_ ?_ 0 0 (by omega) rfl
  · intro y hy
    exact sg_Sign_rivals_4 ⟨fun _ => ⟨hy, rfl⟩, fun z => absurd (by decide) z⟩
  · intro i y hi hy k
    refine sg_Sign_rivals_4 ⟨fun z => absurd z (nle_nI (n := 30) hi (by omega) rfl), fun _ => ⟨bnd (n := 30) hi (by omega) rfl, ?_⟩⟩
    rw [ixn (show i < 2 ^ 31 by omega), nI_s]
    refine ⟨fun c => k _ ?_, fun c => ⟨fun c2 => k _ ?_, fun c2 => k _ ?_⟩⟩
    · rw [whR, if_neg (fun z => z.1 c)]; exact hy
    · rw [whR, if_neg (fun z => z.2 c2)]; exact hy
    · rw [whR, if_pos ⟨c, c2⟩, hy]
theorem ct_Sign_weigh {E : EvT} {q : Nat → Nat} {d : Nat} {B : BkT} {X : StX} {M : StM} (hP : RPl X M) (hS : RSi X M) (hR : RRu B X M) {p : Int32} (hp : mPlace M p = true) : C_Sign_weigh E q (d + 6) p X (fun X1 => keptX X X1 ∧ ∀ j, j < 30 → xa_Sign_seen X1 j = whM M p (nSi M) j ∧ xa_Sign_worth X1 j = whW B M p (nSi M) j) := by
  obtain ⟨en, n100⟩ := hS.n
  obtain ⟨⟨c1, c2, c3, c4, c5⟩, -, hok⟩ := hS
  have pne : ¬ p = -1 := by have := (mPlace_b hP hp).1; grind
  refine en_Sign_weigh ?_
  refine up_s (W := nSi M) (T := fun i Y => T_Sign_weigh_18 E q (d + 6) (fun X1 => keptX X X1 ∧ ∀ j, j < 30 → xa_Sign_seen X1 j = whM M p (nSi M) j ∧ xa_Sign_worth X1 j = whW B M p (nSi M) j) Y p (nI i)) (J := fun i Y => keptX X Y ∧ ∀ j, j < 30 → xa_Sign_seen Y j = whM M p i j ∧ xa_Sign_worth Y j = whW B M p i j) ?_ ?_ 0 _ (by omega) ⟨((keptX.rf X).xA rfl _).xA rfl _, fun j hj => ?_⟩
  · rintro Y ⟨hk, hN⟩
    exact sg_Sign_weigh_18 ⟨fun _ => ⟨hk, hN⟩, fun z => absurd (by rw [show xs_Sign_size Y = xs_Sign_size X from hk.s rfl, c1, en]; exact Int32.le_refl _) z⟩
  · rintro i Y hi ⟨hk, hN⟩ k
    have e2 : xa_Sign_name Y = a_signName M := (hk.a rfl).trans c2
    have e3 : xa_Sign_kind Y = a_signKind M := (hk.a rfl).trans c3
    have e4 : xa_Sign_place Y = a_signPlace M := (hk.a rfl).trans c4
    have e5 : xa_Sign_week Y = a_signWeek M := (hk.a rfl).trans c5
    have e6 : xa_Plan_kind Y = a_placeKind M := (hk.a rfl).trans hP.2.1
    obtain ⟨nm0, nm1⟩ := hok i hi
    refine sg_Sign_weigh_18 ⟨fun z => absurd z (by rw [show xs_Sign_size Y = xs_Sign_size X from hk.s rfl, c1, en]; exact nI_ge hi (by omega)), fun _ => ⟨bnd (n := 100) (by omega) (by omega) rfl, ?_⟩⟩
    rw [ixn (show i < 2 ^ 31 by omega), e3, e4, e5, e6, nI_s]
    refine ⟨fun c => k Y ⟨hk, fun j hj => ?_⟩, fun c => ⟨mPlace_b hP hp, ?_⟩⟩
    · rw [whM, whW, if_neg c, if_neg c]
      exact hN j hj
    · refine mVx ct_Book_ask (fun X1 h1 => ?_)
      obtain ⟨l, rfl, hl⟩ := h1
      rw [show xa_Sign_name (xA Y 104 l) = a_signName M from e2]
      have hk2 : keptX X (xA Y 104 l) := hk.xA rfl l
      refine ⟨⟨nm0, nm1⟩, mIx (ct_Book_signWorth (hR.kp (kept.rf M) hk2) hl) (fun r X1 h => ?_)⟩
      obtain ⟨er, u, s, rfl⟩ := h
      rw [show xa_Sign_name (xNb (xA Y 104 l) u s) = a_signName M from e2]
      refine ⟨⟨nm0, nm1⟩, k _ ⟨((hk2.nb u s).xA rfl _).xA rfl _, fun j hj => ?_⟩⟩
      obtain ⟨n1, n2⟩ := hN (ix (a_signName M i)) (ix_lt (n := 30) nm0 nm1 (by omega))
      show upd (xa_Sign_seen Y) (ix (a_signName M i)) (xa_Sign_seen Y (ix (a_signName M i)) + 1) j = _ ∧ upd (xa_Sign_worth Y) (ix (a_signName M i)) (xa_Sign_worth Y (ix (a_signName M i)) + r) j = _
      rw [n1, n2, er, whM, whW, if_pos c, if_pos c, pkM, if_neg pne]
      by_cases e : j = ix (a_signName M i)
      · subst e
        rw [upd_eq, upd_eq, upd_eq, upd_eq]
        exact ⟨rfl, rfl⟩
      · rw [upd_ne e, upd_ne e, upd_ne e, upd_ne e]
        exact hN j hj
  · show fillF 30 0 (xa_Sign_seen X) j = 0 ∧ fillF 30 0 (xa_Sign_worth X) j = 0
    rw [fillF, fillF, if_pos hj, if_pos hj]
    exact ⟨rfl, rfl⟩
theorem ct_City_who {E : EvT} {q : Nat → Nat} {d : Nat} {B : BkT} {X : StX} {M : StM} (hP : RPl X M) (hS : RSi X M) (hR : RRu B X M) {p what : Int32} : C_City_who E q (d + 7) p what X (fun r X1 => whoR B M p what r ∧ keptX X X1) := by
  have bad : ¬ whOk M p what → whoR B M p what (-1) ∧ keptX X X := fun z => ⟨⟨fun _ => rfl, fun y => absurd y z⟩, keptX.rf X⟩
  refine en_City_who ?_
  rw [pPlace_eq hP]
  refine ⟨fun e => bad (fun z => by rw [z.1] at e; cases e), fun e1 => ⟨fun e2 => ?_, fun e => bad (fun z => by rw [z.2] at e; cases e)⟩⟩
  have ok : whOk M p what := ⟨e1, e2⟩
  refine mVx (ct_Sign_weigh hP hS hR e1) (fun Y h => ?_)
  obtain ⟨hk, hN⟩ := h
  have eB := whB_c (n := 30) hN
  have fin : ∀ r, r = whV B M p what → whoR B M p what r ∧ keptX X Y := fun r h2 => ⟨⟨fun z => absurd ok z, fun _ => h2⟩, hk⟩
  refine mIx ct_Sign_strongest (fun r Y1 h => ?_)
  obtain ⟨rfl, rfl⟩ := h
  rcases whB_w (xa_Sign_seen Y1) (xa_Sign_worth Y1) 30 (by omega) with ⟨w1, w2⟩ | ⟨j, hj, w1, w2⟩
  · refine ⟨fun z => fin _ ?_, fun z => absurd w1 z⟩
    rw [eB] at *
    rw [whV, if_pos (Or.inl w1)]
  · have ne : ¬ (whB (xa_Sign_seen Y1) (xa_Sign_worth Y1) 30).1 = -1 := by rw [w1]; exact nI_ne1 (by omega)
    have ew : xa_Sign_worth Y1 (ix (whB (xa_Sign_seen Y1) (xa_Sign_worth Y1) 30).1) = (whB (xa_Sign_seen Y1) (xa_Sign_worth Y1) 30).2 := by rw [w1, ixn (by omega), w2]
    rw [ew]
    have bj : 0 ≤ (whB (xa_Sign_seen Y1) (xa_Sign_worth Y1) 30).1 ∧ (whB (xa_Sign_seen Y1) (xa_Sign_worth Y1) 30).1 < 30 := by rw [w1]; exact bnd (n := 30) hj (by omega) rfl
    refine ⟨fun z => absurd z ne, fun _ => ⟨fun z2 => ⟨fun z3 => ⟨bj, mIx ct_Sign_rivals (fun r Y2 h => ?_)⟩, fun z3 => ⟨bj, fin _ ?_⟩⟩, fun z2 => fin _ ?_⟩⟩
    · obtain ⟨rfl, rfl⟩ := h
      refine fin _ ?_
      rw [whR_c (n := 30) hN, eB]
      rw [eB] at ne
      rw [whV, if_neg (fun y => y.elim ne z2), if_neg z3]
    · rw [eB] at ne ⊢
      rw [whV, if_neg (fun y => y.elim ne z2), if_pos z3]
    · rw [eB] at ne ⊢
      rw [whV, if_pos (Or.inr z2)]
