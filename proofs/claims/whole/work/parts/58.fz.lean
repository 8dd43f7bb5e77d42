/-! find, may, sure, nowhere, beside -/
def findOk (M : StM) (h f t n u l k m : Int32) : Prop := mIn h 0 7 = true ∧ (mIn f 0 (s_now M) = true ∧ mIn t f (s_now M) = true) ∧ ¬ 19 < t - f ∧ mIn n 0 99 = true ∧ (mLayer u = true ∧ mIn l u 7 = true) ∧ mIn k 0 7 = true ∧ mIn m 0 255 = true ∧ ¬ s_finds M = 150
def mAddFi (M : StM) (h f t n u l k m : Int32) : StM := sI (sA (sA (sA (sA (sA (sA (sA (sA (sA M 59 (upd (a_findHand M) (ix (s_finds M)) h)) 60 (upd (a_findFrom M) (ix (s_finds M)) f)) 61 (upd (a_findTo M) (ix (s_finds M)) t)) 62 (upd (a_findNumber M) (ix (s_finds M)) n)) 63 (upd (a_findTop M) (ix (s_finds M)) u)) 64 (upd (a_findBottom M) (ix (s_finds M)) l)) 65 (upd (a_findKind M) (ix (s_finds M)) k)) 66 (upd (a_findMarks M) (ix (s_finds M)) m)) 67 (upd (a_findTold M) (ix (s_finds M)) (s_now M))) 57 (s_finds M + 1)
def xAddFi (X : StX) (h f t n u l k m : Int32) : StX := xI (xA (xA (xA (xA (xA (xA (xA (xA (xA X 44 (upd (xa_Finds_hand X) (ix (xs_Finds_size X)) h)) 47 (upd (xa_Finds_number X) (ix (xs_Finds_size X)) n)) 50 (upd (xa_Finds_kind X) (ix (xs_Finds_size X)) k)) 51 (upd (xa_Finds_marks X) (ix (xs_Finds_size X)) m)) 48 (upd (xa_Finds_top X) (ix (xs_Finds_size X)) u)) 49 (upd (xa_Finds_bottom X) (ix (xs_Finds_size X)) l)) 45 (upd (xa_Finds_from X) (ix (xs_Finds_size X)) f)) 46 (upd (xa_Finds_to X) (ix (xs_Finds_size X)) t)) 52 (upd (xa_Finds_told X) (ix (xs_Finds_size X)) (xs_City_today X))) 43 (xs_Finds_size X + 1)
theorem ct_find {E : EvT} {q : Nat → Nat} {d : Nat} {X : StX} {M : StM} (hF : RFi X M) {h f t n u l k m : Int32} (P : Int32 → StM → Prop) (h1 : ¬ findOk M h f t n u l k m → P (-1) M) (h2 : findOk M h f t n u l k m → P (s_finds M + 1 - 1) (mAddFi M h f t n u l k m)) : C_find E q (d + 1) h f t n u l k m M P := by
  have hn := hF.2.1
  exact en_find ⟨fun e => h1 (fun z => by rw [z.1] at e; cases e), fun e1 => ⟨fun e => h1 (fun z => by rw [z.2.1.1] at e; cases e), fun e2 => ⟨fun e => h1 (fun z => by rw [z.2.1.2] at e; cases e), fun e3 => ⟨fun e => h1 (fun z => z.2.2.1 e), fun e4 => ⟨fun e => h1 (fun z => by rw [z.2.2.2.1] at e; cases e), fun e5 => ⟨fun e => h1 (fun z => by rw [z.2.2.2.2.1.1] at e; cases e), fun e6 => ⟨fun e => h1 (fun z => by rw [z.2.2.2.2.1.2] at e; cases e), fun e7 => ⟨fun e => h1 (fun z => by rw [z.2.2.2.2.2.1] at e; cases e), fun e8 => ⟨fun e => h1 (fun z => by rw [z.2.2.2.2.2.2.1] at e; cases e), fun e9 => ⟨fun e10 => ⟨by grind, h2 ⟨e1, ⟨e2, e3⟩, e4, e5, ⟨e6, e7⟩, e8, e9, e10⟩⟩, fun e => h1 (fun z => z.2.2.2.2.2.2.2 e)⟩⟩⟩⟩⟩⟩⟩⟩⟩⟩
theorem pSpan_l {f t l : Int32} : pSpan f t l = true ↔ mIn f 0 l = true ∧ mIn t f l = true := by
  rw [pSpan, mIn, mIn, decide_eq_true_eq, decide_eq_true_eq, decide_eq_true_eq]
  constructor
  · rintro ⟨h1, h2, h3⟩; exact ⟨⟨h1, Int32.le_trans h2 h3⟩, h2, h3⟩
  · rintro ⟨⟨h1, _⟩, h2, h3⟩; exact ⟨h1, h2, h3⟩
theorem pSpan_7 {u l : Int32} : pSpan u l 7 = true ↔ mLayer u = true ∧ mIn l u 7 = true := by
  rw [pSpan, mIn, mLayer, decide_eq_true_eq, decide_eq_true_eq, decide_eq_true_eq]
  constructor
  · rintro ⟨h1, h2, h3⟩; exact ⟨⟨h1, by have := Int32.le_trans h2 h3; grind⟩, h2, h3⟩
  · rintro ⟨⟨h1, _⟩, h2, h3⟩; exact ⟨h1, h2, h3⟩
theorem lt20 (x : Int32) : x < 20 ↔ ¬ 19 < x := by grind
theorem ct_City_find {E : EvT} {q : Nat → Nat} {d : Nat} {X : StX} {M : StM} (hB : RB X M) (hF : RFi X M) {h f t n u l k m : Int32} (P : Int32 → StX → Prop) (h1 : ¬ findOk M h f t n u l k m → P (-1) X) (h2 : findOk M h f t n u l k m → P (s_finds M + 1 - 1) (xAddFi X h f t n u l k m)) : C_City_find E q (d + 1) h f t n u l k m X P := by
  have hn := hF.2.1
  have es := hF.1.1
  refine en_City_find ?_
  rw [hB.2.2.1, lt20]
  refine ⟨fun e => h1 (fun z => by rw [z.1] at e; cases e), fun e1 => ⟨fun e => h1 (fun z => by rw [pSpan_l.mpr z.2.1] at e; cases e), fun e2 => ⟨fun e3 => ⟨fun e => h1 (fun z => by rw [z.2.2.2.1] at e; cases e), fun e4 => ⟨fun e5 => ⟨fun e => h1 (fun z => by rw [z.2.2.2.2.2.1] at e; cases e), fun e6 => ⟨fun e => h1 (fun z => by rw [z.2.2.2.2.2.2.1] at e; cases e), fun e7 => ⟨fun e8 => ?_, fun e8 => h1 (fun z => ?_)⟩⟩⟩, fun e => h1 (fun z => by rw [pSpan_7.mpr z.2.2.2.2.1] at e; cases e)⟩⟩, fun e => h1 (fun z => e z.2.2.1)⟩⟩⟩
  · have bs : 0 ≤ xs_Finds_size X ∧ xs_Finds_size X < 150 := by rw [es] at e8 ⊢; exact ⟨hn.1, e8⟩
    have := h2 ⟨e1, pSpan_l.mp e2, e3, e4, pSpan_7.mp e5, e6, e7, by rw [es] at e8; grind⟩
    rw [← es] at this
    exact en_Finds_begin ⟨bs, en_Finds_reach ⟨bs, en_Finds_finish ⟨bs, this⟩⟩⟩
  · rw [es] at e8; have := z.2.2.2.2.2.2.2; grind
theorem RFi.add {X : StX} {M : StM} (hB : RB X M) (hF : RFi X M) {h f t n u l k m : Int32} (ok : findOk M h f t n u l k m) : RFi (xAddFi X h f t n u l k m) (mAddFi M h f t n u l k m) := by
  obtain ⟨en, n150⟩ := hF.n
  obtain ⟨⟨c1, c2, c3, c4, c5, c6, c7, c8, c9, c10⟩, ⟨n0, n1⟩, hok⟩ := hF
  obtain ⟨k1, k2, k3, k4, k5, k6, k7, k8⟩ := ok
  have hlt : nFi M < 150 := by
    rcases Nat.lt_or_ge (nFi M) 150 with z | z
    · exact z
    · exact absurd (by rw [en, show nFi M = 150 by omega]; rfl) k8
  have hs : ix (s_finds M + 1) = nFi M + 1 := by rw [en, nI_s, ixn (by omega)]
  refine ⟨⟨?_, ?_, ?_, ?_, ?_, ?_, ?_, ?_, ?_, ?_⟩, ⟨?_, ?_⟩, fun i hi => ?_⟩
  · show xs_Finds_size X + 1 = s_finds M + 1
    rw [c1]
  · show upd (xa_Finds_hand X) (ix (xs_Finds_size X)) h = upd (a_findHand M) (ix (s_finds M)) h
    rw [c1, c2]
  · show upd (xa_Finds_from X) (ix (xs_Finds_size X)) f = upd (a_findFrom M) (ix (s_finds M)) f
    rw [c1, c3]
  · show upd (xa_Finds_to X) (ix (xs_Finds_size X)) t = upd (a_findTo M) (ix (s_finds M)) t
    rw [c1, c4]
  · show upd (xa_Finds_number X) (ix (xs_Finds_size X)) n = upd (a_findNumber M) (ix (s_finds M)) n
    rw [c1, c5]
  · show upd (xa_Finds_top X) (ix (xs_Finds_size X)) u = upd (a_findTop M) (ix (s_finds M)) u
    rw [c1, c6]
  · show upd (xa_Finds_bottom X) (ix (xs_Finds_size X)) l = upd (a_findBottom M) (ix (s_finds M)) l
    rw [c1, c7]
  · show upd (xa_Finds_kind X) (ix (xs_Finds_size X)) k = upd (a_findKind M) (ix (s_finds M)) k
    rw [c1, c8]
  · show upd (xa_Finds_marks X) (ix (xs_Finds_size X)) m = upd (a_findMarks M) (ix (s_finds M)) m
    rw [c1, c9]
  · show upd (xa_Finds_told X) (ix (xs_Finds_size X)) (xs_City_today X) = upd (a_findTold M) (ix (s_finds M)) (s_now M)
    rw [c1, c10, hB.2.2.1]
  · show 0 ≤ s_finds M + 1
    grind
  · show s_finds M + 1 ≤ 150
    grind
  · have hi : i < ix (s_finds M + 1) := hi
    rw [hs] at hi
    show (0 ≤ upd (a_findHand M) (nFi M) h i ∧ upd (a_findHand M) (nFi M) h i ≤ 7) ∧ (0 ≤ upd (a_findFrom M) (nFi M) f i ∧ upd (a_findFrom M) (nFi M) f i ≤ upd (a_findTo M) (nFi M) t i ∧ upd (a_findTo M) (nFi M) t i ≤ 9999 ∧ upd (a_findTo M) (nFi M) t i - upd (a_findFrom M) (nFi M) f i ≤ 19) ∧ (0 ≤ upd (a_findNumber M) (nFi M) n i ∧ upd (a_findNumber M) (nFi M) n i ≤ 99) ∧ (0 ≤ upd (a_findKind M) (nFi M) k i ∧ upd (a_findKind M) (nFi M) k i ≤ 7) ∧ (0 ≤ upd (a_findMarks M) (nFi M) m i ∧ upd (a_findMarks M) (nFi M) m i ≤ 255)
    by_cases e : i = nFi M
    · subst e
      simp only [upd_eq]
      have n9 := hB.2.2.2.2.2.1.2
      simp only [mIn, decide_eq_true_eq] at k1 k2 k4 k6 k7
      exact ⟨k1, ⟨k2.1.1, k2.2.1, Int32.le_trans k2.2.2 n9, Int32.not_lt.mp k3⟩, k4, k6, k7⟩
    · simp only [upd_ne e]
      exact hok i (by show i < nFi M; omega)
def mayOk (M : StM) (i t : Int32) : Prop := mFind M i = true ∧ mWeek t = true ∧ ¬ t < a_findTold M (ix i)
def mayR (B : BkT) (M : StM) (i t r : Int32) : Prop := (¬ mayOk M i t → r = -1) ∧ (mayOk M i t → r = mayV B M (hfO M (-1) (ix i)) (ix i) t)
theorem mayR.one {B : BkT} {M : StM} {i t r r' : Int32} (h1 : mayR B M i t r) (h2 : mayR B M i t r') : r = r' := by
  rcases Classical.em (mayOk M i t) with z | z
  · rw [h1.2 z, h2.2 z]
  · rw [h1.1 z, h2.1 z]
theorem mFind_n {X : StX} {M : StM} (hF : RFi X M) {i : Int32} (h : mFind M i = true) : ix i < nFi M ∧ i = nI (ix i) ∧ (0 ≤ i ∧ i < 150) := by
  obtain ⟨en, n150⟩ := hF.n
  rw [mFind, decide_eq_true_eq] at h
  exact ⟨ix_lt h.1 (by rw [← en]; exact h.2) (by omega), (nix h.1).symm, h.1, Int32.lt_of_lt_of_le h.2 hF.2.1.2⟩
theorem ct_may {E : EvT} {q : Nat → Nat} {d : Nat} {B : BkT} {X : StX} {M : StM} (hF : FH B X M) (hh : s_asHand M = -1) {i t : Int32} : C_may E q (d + 6) i t M (fun r M1 => mayR B M i t r ∧ kept M M1) := by
  have bad : ¬ mayOk M i t → mayR B M i t (-1) ∧ kept M M := fun z => ⟨⟨fun _ => rfl, fun y => absurd y z⟩, kept.rf M⟩
  refine en_may ⟨fun e => bad (fun z => by rw [z.1] at e; cases e), fun e1 => ⟨fun e => bad (fun z => by rw [z.2.1] at e; cases e), fun e2 => ?_⟩⟩
  obtain ⟨k1, k2, k3⟩ := mFind_n hF.2.2.2.2.1 e1
  refine ⟨k3, fun e => bad (fun z => z.2.2 e), fun e3 => ?_⟩
  have ok : mayOk M i t := ⟨e1, e2, e3⟩
  have := ct_mayBe (E := E) (q := q) (d := d) hF k1 (t := t)
  rw [← k2] at this
  refine mI this (fun r M1 h => ⟨⟨fun z => absurd ok z, fun _ => ?_⟩, h.2⟩)
  rw [h.1, hdM, hh]; rfl
theorem pFind_eq {X : StX} {M : StM} (hF : RFi X M) (i : Int32) : pFind X i = mFind M i := by
  have := hF.2.1
  rw [pFind, mFind, hF.1.1, mIn]
  grind
theorem ct_City_may {E : EvT} {q : Nat → Nat} {d : Nat} {B : BkT} {X : StX} {M : StM} (hF : FH B X M) {i t : Int32} : C_City_may E q (d + 7) i t X (fun r X1 => mayR B M i t r ∧ keptX X X1) := by
  have bad : ¬ mayOk M i t → mayR B M i t (-1) ∧ keptX X X := fun z => ⟨⟨fun _ => rfl, fun y => absurd y z⟩, keptX.rf X⟩
  have hFi := hF.2.2.2.2.1
  refine en_City_may ?_
  rw [pFind_eq hFi, pFKnown, hFi.1.2.2.2.2.2.2.2.2.2]
  refine ⟨fun e => bad (fun z => by rw [z.1] at e; cases e), fun e1 => ⟨fun e => bad (fun z => by rw [z.2.1] at e; cases e), fun e2 => ?_⟩⟩
  obtain ⟨k1, k2, k3⟩ := mFind_n hFi e1
  have t9 : t ≤ 9999 := by rw [mWeek, decide_eq_true_eq] at e2; exact e2.2
  rw [decide_eq_true_eq, decide_eq_false_iff_not]
  refine ⟨k3, fun e3 => ?_, fun e => bad (fun z => e (Int32.not_lt.mp z.2.2))⟩
  have ok : mayOk M i t := ⟨e1, e2, Int32.not_lt.mpr e3⟩
  have := ct_Finds_placesOf (E := E) (q := q) (d := d) hF k1 (t := t) (o := -1) t9
  rw [← k2] at this
  exact mIx this (fun r M1 h => ⟨⟨fun z => absurd ok z, fun _ => h.1⟩, h.2⟩)
/-! sure -/
def one1 (x : Int32) : Prop := ¬ x = 0 ∧ x &&& (x - 1) = 0
theorem pcB_le : ∀ n x, pcB n x ≤ n := by
  intro n
  induction n with
  | zero => intro x; exact Nat.le_refl _
  | succ n ih =>
    intro x
    rw [pcB]
    have := ih (x / 2)
    omega
theorem one1_pc {m : Nat} (hm : m < 2 ^ 31) : nI (pcB 32 m) = 1 ↔ one1 (nI m) := by
  have l := pcB_le 32 m
  rw [show (1 : Int32) = nI 1 from rfl, nI_eq (by omega) (by omega), one1, show (0 : Int32) = nI 0 from rfl, nI_eq hm (by omega)]
  constructor
  · intro h
    have h0 : ¬ m = 0 := fun y => by
      have := (pcB_0 32 m (by omega)).mpr y
      omega
    refine ⟨h0, ?_⟩
    rw [show (1 : Int32) = nI 1 from rfl, pk_sub (by omega), nand, (pcB_1 32 m (by omega) h0).mpr h]
  · rintro ⟨h0, h1⟩
    rw [show (1 : Int32) = nI 1 from rfl, pk_sub (by omega), nand, nI_eq (Nat.lt_of_le_of_lt Nat.and_le_left hm) (by omega)] at h1
    exact (pcB_1 32 m (by omega) h0).mp h1
noncomputable def sureN (B : BkT) (M : StM) (o t : Int32) : Nat → Int32
  | 0 => 0
  | i + 1 => if dcd (a_findTold M i ≤ t ∧ one1 (mayV B M (hfO M o i) i t)) = true then sureN B M o t i + 1 else sureN B M o t i
theorem sureN_c {B : BkT} {M N : StM} {o t : Int32} (h1 : a_findTold N = a_findTold M) (h2 : ∀ i, mayV B N (hfO N o i) i t = mayV B M (hfO M o i) i t) : ∀ n, sureN B N o t n = sureN B M o t n := by
  intro n
  induction n with
  | zero => rfl
  | succ n ih => rw [sureN, sureN, ih, h1, h2]
theorem ct_sureOf {E : EvT} {q : Nat → Nat} {d : Nat} {B : BkT} {X : StX} {M : StM} (hF : FH B X M) {t : Int32} : C_sureOf E q (d + 6) t M (fun r M1 => r = sureN B M (s_asHand M) t (nFi M) ∧ kept M M1) := by
  have hFi := hF.2.2.2.2.1
  obtain ⟨en, n150⟩ := hFi.n
  refine en_sureOf ?_
  refine up_s (W := nFi M) (T := fun i (z : Int32 × StM) => T_sureOf_4 E q (d + 6) (fun r M1 => r = sureN B M (s_asHand M) t (nFi M) ∧ kept M M1) z.2 t z.1 (nI i)) (J := fun i z => kept M z.2 ∧ z.1 = sureN B M (s_asHand M) t i) ?_ ?_ 0 (0, M) (by omega) ⟨kept.rf M, rfl⟩
  · rintro ⟨y, N⟩ ⟨hk, hy⟩
    exact sg_sureOf_4 ⟨fun _ => ⟨hy, hk⟩, fun z => absurd (by rw [show s_finds N = s_finds M from hk.s 57, en]; exact Int32.le_refl _) z⟩
  · rintro i ⟨y, N⟩ hi ⟨hk, hy⟩ kk
    have hk : kept M N := hk
    have hyy : y = sureN B M (s_asHand M) t i := hy
    refine sg_sureOf_4 ⟨fun z => absurd z (by rw [show s_finds N = s_finds M from hk.s 57, en]; exact nI_ge hi (by omega)), fun _ => ⟨bnd (n := 150) (by omega) (by omega) rfl, ?_⟩⟩
    rw [ixn (show i < 2 ^ 31 by omega), show a_findTold N = a_findTold M from hk.a rfl]
    have no : ∀ N, kept M N → ¬ (a_findTold M i ≤ t ∧ one1 (mayV B M (hfO M (s_asHand M) i) i t)) → T_sureOf_4 E q (d + 6) (fun r M1 => r = sureN B M (s_asHand M) t (nFi M) ∧ kept M M1) N t y (nI i + 1) := by
      intro N hk z
      rw [nI_s]
      refine kk (y, N) ⟨hk, ?_⟩
      rw [sureN, if_neg (fun x => z (dcd_t.mp x))]; exact hyy
    refine ⟨fun c => ?_, fun c => no N hk (fun z => c z.1)⟩
    refine mI (ct_mayBe (hF.kp hk (keptX.rf X)) (by rw [show nFi N = nFi M by rw [nFi, nFi, show s_finds N = s_finds M from hk.s 57]]; exact hi)) (fun r N1 h => ?_)
    obtain ⟨er, hk1⟩ := h
    have er : r = mayV B M (hfO M (s_asHand M) i) i t := er.trans (hk.to (fun N => mayV B N (hdM N i) i t = mayV B M (hfO M (s_asHand M) i) i t) rfl)
    rw [er, add0]
    refine ⟨fun z => no _ (hk.tr hk1) (fun x => x.2.1 z), fun z => ⟨fun z2 => no _ (hk.tr hk1) (fun x => z2 x.2.2), fun z2 => ?_⟩⟩
    rw [nI_s]
    refine kk (y + 1, N1) ⟨hk.tr hk1, ?_⟩
    show y + 1 = _
    rw [sureN, if_pos (dcd_t.mpr ⟨c, z, z2⟩), hyy]
theorem ct_Finds_countSure {E : EvT} {q : Nat → Nat} {d : Nat} {B : BkT} {X : StX} {M : StM} (hF : FH B X M) {t o : Int32} (t9 : t ≤ 9999) : C_Finds_countSure E q (d + 7) t o X (fun r X1 => r = sureN B M o t (nFi M) ∧ keptX X X1) := by
  have hFi := hF.2.2.2.2.1
  obtain ⟨en, n150⟩ := hFi.n
  have p30 := hF.2.1.n.2
  refine en_Finds_countSure ?_
  refine up_s (W := nFi M) (T := fun i (z : Int32 × StX) => T_Finds_countSure_5 E q (d + 7) (fun r X1 => r = sureN B M o t (nFi M) ∧ keptX X X1) z.2 t o z.1 (nI i)) (J := fun i z => keptX X z.2 ∧ z.1 = sureN B M o t i) ?_ ?_ 0 (0, X) (by omega) ⟨keptX.rf X, rfl⟩
  · rintro ⟨y, N⟩ ⟨hk, hy⟩
    exact sg_Finds_countSure_5 ⟨fun _ => ⟨hy, hk⟩, fun z => absurd (by rw [show xs_Finds_size N = xs_Finds_size X from hk.s rfl, hFi.1.1, en]; exact Int32.le_refl _) z⟩
  · rintro i ⟨y, N⟩ hi ⟨hk, hy⟩ kk
    have hk : keptX X N := hk
    have hyy : y = sureN B M o t i := hy
    refine sg_Finds_countSure_5 ⟨fun z => absurd z (by rw [show xs_Finds_size N = xs_Finds_size X from hk.s rfl, hFi.1.1, en]; exact nI_ge hi (by omega)), fun _ => ⟨bnd (n := 150) (by omega) (by omega) rfl, ?_⟩⟩
    rw [pFKnown, ixn (show i < 2 ^ 31 by omega), show xa_Finds_told N = a_findTold M from (hk.a rfl).trans hFi.1.2.2.2.2.2.2.2.2.2, decide_eq_true_eq, decide_eq_false_iff_not]
    have no : ∀ N, keptX X N → ¬ (a_findTold M i ≤ t ∧ one1 (mayV B M (hfO M o i) i t)) → T_Finds_countSure_5 E q (d + 7) (fun r X1 => r = sureN B M o t (nFi M) ∧ keptX X X1) N t o y (nI i + 1) := by
      intro N hk z
      rw [nI_s]
      refine kk (y, N) ⟨hk, ?_⟩
      rw [sureN, if_neg (fun x => z (dcd_t.mp x))]; exact hyy
    refine ⟨fun c => no N hk (fun z => c z.1), fun c => ?_⟩
    refine mIx (ct_Finds_placesOf (hF.kp (kept.rf M) hk) hi t9) (fun r N1 h => ?_)
    obtain ⟨er, hk1⟩ := h
    subst er
    rw [mayV, bitsP]
    refine mIx (ct_Jbits (bitsN_31 (by omega))) (fun r N2 h => ?_)
    obtain ⟨rfl, rfl⟩ := h
    rw [one1_pc (bitsN_31 (by omega))]
    refine ⟨fun z => no _ (hk.tr hk1) (fun x => z x.2), fun z => ?_⟩
    rw [nI_s]
    refine kk (y + 1, _) ⟨hk.tr hk1, ?_⟩
    show y + 1 = _
    rw [sureN, if_pos (dcd_t.mpr ⟨c, z⟩), hyy]
def sureR (B : BkT) (M : StM) (t r : Int32) : Prop := (mWeek t = false → r = -1) ∧ (mWeek t = true → r = sureN B M (-1) t (nFi M))
theorem sureR.one {B : BkT} {M : StM} {t r r' : Int32} (h1 : sureR B M t r) (h2 : sureR B M t r') : r = r' := by
  cases e : mWeek t with
  | true => rw [h1.2 e, h2.2 e]
  | false => rw [h1.1 e, h2.1 e]
theorem ct_sure {E : EvT} {q : Nat → Nat} {d : Nat} {B : BkT} {X : StX} {M : StM} (hF : FH B X M) (hh : s_asHand M = -1) {t : Int32} : C_sure E q (d + 7) t M (fun r M1 => sureR B M t r ∧ kept M M1) := by
  refine en_sure ⟨fun e => ⟨⟨fun _ => rfl, fun z => by rw [e] at z; cases z⟩, kept.rf M⟩, fun e => ?_⟩
  refine mI (ct_sureOf hF) (fun r M1 h => ⟨⟨fun z => (by rw [e] at z; cases z), fun _ => ?_⟩, h.2⟩)
  rw [h.1, hh]
theorem ct_City_sure {E : EvT} {q : Nat → Nat} {d : Nat} {B : BkT} {X : StX} {M : StM} (hF : FH B X M) {t : Int32} : C_City_sure E q (d + 8) t X (fun r X1 => sureR B M t r ∧ keptX X X1) := by
  refine en_City_sure ⟨fun e => ⟨⟨fun _ => rfl, fun z => by rw [e] at z; cases z⟩, keptX.rf X⟩, fun e => ?_⟩
  exact mIx (ct_Finds_countSure hF (by rw [mWeek, decide_eq_true_eq] at e; exact e.2)) (fun r M1 h => ⟨⟨fun z => (by rw [e] at z; cases z), fun _ => h.1⟩, h.2⟩)
def besR (B : BkT) (M : StM) (x r : Int32) : Prop := (mIn x 0 7 = false → r = -1) ∧ (mIn x 0 7 = true → r = sureN B M x (s_now M) (nFi M))
theorem besR.one {B : BkT} {M : StM} {x r r' : Int32} (h1 : besR B M x r) (h2 : besR B M x r') : r = r' := by
  cases e : mIn x 0 7 with
  | true => rw [h1.2 e, h2.2 e]
  | false => rw [h1.1 e, h2.1 e]
theorem ct_beside {E : EvT} {q : Nat → Nat} {d : Nat} {B : BkT} {X : StX} {M : StM} (hF : FH B X M) (hh : s_asHand M = -1) {x : Int32} : C_beside E q (d + 7) x M (fun r M1 => besR B M x r ∧ kept M M1) := by
  refine en_beside ⟨fun e => ?_, fun e => ⟨⟨fun _ => rfl, fun z => by rw [e] at z; cases z⟩, kept.rf M⟩⟩
  refine mI (ct_sureOf (show FH B X (sI M 58 x) from hF)) (fun r M1 h => ⟨⟨fun z => (by rw [e] at z; cases z), fun _ => ?_⟩, ?_⟩)
  · rw [h.1]
    exact sureN_c (N := sI M 58 x) (M := M) rfl (fun i => rfl) _
  · have := kept_iff.mp h.2
    refine kept_iff.mpr ⟨?_, fun k hk => this.2 k hk⟩
    show va_up M1.1 58 (-1) = M.1
    rw [this.1]
    funext j
    show va_up (va_up M.1 58 x) 58 (-1) j = M.1 j
    by_cases c : j = 58
    · subst c
      rw [up_eq]; exact hh.symm
    · rw [up_ne c, up_ne c]
theorem ct_City_beside {E : EvT} {q : Nat → Nat} {d : Nat} {B : BkT} {X : StX} {M : StM} (hB : RB X M) (hF : FH B X M) {x : Int32} : C_City_beside E q (d + 8) x X (fun r X1 => besR B M x r ∧ keptX X X1) := by
  refine en_City_beside ⟨fun e => ⟨⟨fun _ => rfl, fun z => by rw [e] at z; cases z⟩, keptX.rf X⟩, fun e => ?_⟩
  rw [hB.2.2.1]
  exact mIx (ct_Finds_countSure hF hB.2.2.2.2.2.1.2) (fun r M1 h => ⟨⟨fun z => (by rw [e] at z; cases z), fun _ => h.1⟩, h.2⟩)
/-! nowhere -/
noncomputable def nwF (B : BkT) (M : StM) (t : Int32) : Nat → Nat → Nat → Int32
  | 0, _, _ => -1
  | m + 1, i, k => if dcd (¬ t < a_findTold M i ∧ mayV B M (hfO M (-1) i) i t = 0) = true then (if k = 0 then nI i else nwF B M t m (i + 1) (k - 1)) else nwF B M t m (i + 1) k
def nwOk (k t : Int32) : Prop := 0 ≤ k ∧ mWeek t = true
def nwR (B : BkT) (M : StM) (k t r : Int32) : Prop := (¬ nwOk k t → r = -1) ∧ (nwOk k t → r = nwF B M t (nFi M) 0 (ix k))
theorem nwR.one {B : BkT} {M : StM} {k t r r' : Int32} (h1 : nwR B M k t r) (h2 : nwR B M k t r') : r = r' := by
  rcases Classical.em (nwOk k t) with z | z
  · rw [h1.2 z, h2.2 z]
  · rw [h1.1 z, h2.1 z]
theorem ct_nowhere {E : EvT} {q : Nat → Nat} {d : Nat} {B : BkT} {X : StX} {M : StM} (hF : FH B X M) (hh : s_asHand M = -1) {k t : Int32} : C_nowhere E q (d + 6) k t M (fun r M1 => nwR B M k t r ∧ kept M M1) := by
  have hFi := hF.2.2.2.2.1
  obtain ⟨en, n150⟩ := hFi.n
  have bad : ¬ nwOk k t → nwR B M k t (-1) ∧ kept M M := fun z => ⟨⟨fun _ => rfl, fun y => absurd y z⟩, kept.rf M⟩
  refine en_nowhere ⟨fun e => bad (fun z => absurd z.1 (Int32.not_le.mpr e)), fun e1 => ⟨fun e2 => ?_, fun e => bad (fun z => by rw [z.2] at e; cases e)⟩⟩
  have ok : nwOk k t := ⟨Int32.not_lt.mp e1, e2⟩
  have fin : ∀ r N, kept M N → r = nwF B M t (nFi M) 0 (ix k) → nwR B M k t r ∧ kept M N := fun r N hk h => ⟨⟨fun z => absurd ok z, fun _ => h⟩, hk⟩
  have kl := ix_31 k
  have ek : k = nI (ix k) := (nix ok.1).symm
  refine up_s (W := nFi M) (T := fun i (z : Nat × StM) => T_nowhere_18 E q (d + 6) (fun r M1 => nwR B M k t r ∧ kept M M1) z.2 k t (nI z.1) (nI i)) (J := fun i z => kept M z.2 ∧ z.1 ≤ i ∧ z.1 ≤ ix k ∧ nwF B M t (nFi M - i) i (ix k - z.1) = nwF B M t (nFi M) 0 (ix k)) ?_ ?_ 0 (0, M) (by omega) ⟨kept.rf M, Nat.le_refl _, Nat.zero_le _, rfl⟩
  · rintro ⟨y, N⟩ ⟨hk, -, -, hy⟩
    rw [Nat.sub_self, nwF] at hy
    exact sg_nowhere_18 ⟨fun _ => fin _ _ hk hy, fun z => absurd (by rw [show s_finds N = s_finds M from hk.s 57, en]; exact Int32.le_refl _) z⟩
  · rintro i ⟨y, N⟩ hi ⟨hk, hyi, hyk, hy⟩ kk
    have hk : kept M N := hk
    have hyi : y ≤ i := hyi
    have hyk : y ≤ ix k := hyk
    rw [show nFi M - i = (nFi M - (i + 1)) + 1 by omega, nwF] at hy
    refine sg_nowhere_18 ⟨fun z => absurd z (by rw [show s_finds N = s_finds M from hk.s 57, en]; exact nI_ge hi (by omega)), fun _ => ⟨bnd (n := 150) (by omega) (by omega) rfl, ?_⟩⟩
    rw [ixn (show i < 2 ^ 31 by omega), show a_findTold N = a_findTold M from hk.a rfl]
    have no : ∀ N, kept M N → ¬ (¬ t < a_findTold M i ∧ mayV B M (hfO M (-1) i) i t = 0) → T_nowhere_18 E q (d + 6) (fun r M1 => nwR B M k t r ∧ kept M M1) N k t (nI y) (nI i + 1) := by
      intro N hk z
      rw [if_neg (fun x => z (dcd_t.mp x))] at hy
      rw [nI_s]
      exact kk (y, N) ⟨hk, by show y ≤ i + 1; omega, hyk, hy⟩
    refine ⟨fun c => no N hk (fun z => z.1 c), fun c => ?_⟩
    refine mI (ct_mayBe (hF.kp hk (keptX.rf X)) (by rw [show nFi N = nFi M by rw [nFi, nFi, show s_finds N = s_finds M from hk.s 57]]; exact hi)) (fun r N1 h => ?_)
    obtain ⟨er, hk1⟩ := h
    have er : r = mayV B M (hfO M (-1) i) i t := er.trans ((hk.to (fun N => mayV B N (hdM N i) i t = mayV B M (hfO M (s_asHand M) i) i t) rfl).trans (by rw [hh]))
    rw [er]
    refine ⟨fun z => ?_, fun z => no _ (hk.tr hk1) (fun x => z x.2)⟩
    rw [if_pos (dcd_t.mpr ⟨c, z⟩)] at hy
    have hyk2 : nI y = k ↔ y = ix k := by
      have : (nI y = k) ↔ (nI y = nI (ix k)) := by rw [← ek]
      rw [this, nI_eq (by omega) kl]
    show (¬ nI y = k → _) ∧ (nI y = k → _)
    rw [hyk2]
    refine ⟨fun z2 => ?_, fun z2 => fin _ _ (hk.tr hk1) ?_⟩
    · rw [if_neg (by omega)] at hy
      rw [nI_s, nI_s]
      exact kk (y + 1, N1) ⟨hk.tr hk1, by show y + 1 ≤ i + 1; omega, by show y + 1 ≤ ix k; omega, by rw [show ix k - (y + 1) = ix k - y - 1 by omega]; exact hy⟩
    · rw [if_pos (by omega)] at hy
      exact hy
theorem ct_City_nowhere {E : EvT} {q : Nat → Nat} {d : Nat} {B : BkT} {X : StX} {M : StM} (hF : FH B X M) {k t : Int32} : C_City_nowhere E q (d + 8) k t X (fun r X1 => nwR B M k t r ∧ keptX X X1) := by
  have hFi := hF.2.2.2.2.1
  obtain ⟨en, n150⟩ := hFi.n
  have bad : ¬ nwOk k t → nwR B M k t (-1) ∧ keptX X X := fun z => ⟨⟨fun _ => rfl, fun y => absurd y z⟩, keptX.rf X⟩
  refine en_City_nowhere ⟨fun e => bad (fun z => absurd z.1 (Int32.not_le.mpr e)), fun e1 => ⟨fun e => bad (fun z => by rw [z.2] at e; cases e), fun e2 => ?_⟩⟩
  have ok : nwOk k t := ⟨Int32.not_lt.mp e1, e2⟩
  have t9 : t ≤ 9999 := by rw [mWeek, decide_eq_true_eq] at e2; exact e2.2
  have fin : ∀ r N, keptX X N → r = nwF B M t (nFi M) 0 (ix k) → nwR B M k t r ∧ keptX X N := fun r N hk h => ⟨⟨fun z => absurd ok z, fun _ => h⟩, hk⟩
  have kl := ix_31 k
  have ek : k = nI (ix k) := (nix ok.1).symm
  refine en_Finds_unplaced ?_
  have key := up_s (W := nFi M) (T := fun i (z : Nat × StX) => T_Finds_unplaced_5 E q (d + 7) (fun r X1 => nwR B M k t r ∧ keptX X X1) z.2 t (nI z.1) (nI i)) (J := fun i z => keptX X z.2 ∧ z.1 ≤ ix k ∧ nwF B M t (nFi M - i) i z.1 = nwF B M t (nFi M) 0 (ix k)) ?_ ?_ 0 (ix k, X) (by omega) ⟨keptX.rf X, Nat.le_refl _, rfl⟩
  · rw [show nI (ix k, X).1 = k from ek.symm] at key
    exact key
  · rintro ⟨y, N⟩ ⟨hk, -, hy⟩
    rw [Nat.sub_self, nwF] at hy
    exact sg_Finds_unplaced_5 ⟨fun _ => fin _ _ hk hy, fun z => absurd (by rw [show xs_Finds_size N = xs_Finds_size X from hk.s rfl, hFi.1.1, en]; exact Int32.le_refl _) z⟩
  · rintro i ⟨y, N⟩ hi ⟨hk, hyk, hy⟩ kk
    have hk : keptX X N := hk
    have hyk : y ≤ ix k := hyk
    rw [show nFi M - i = (nFi M - (i + 1)) + 1 by omega, nwF] at hy
    refine sg_Finds_unplaced_5 ⟨fun z => absurd z (by rw [show xs_Finds_size N = xs_Finds_size X from hk.s rfl, hFi.1.1, en]; exact nI_ge hi (by omega)), fun _ => ⟨bnd (n := 150) (by omega) (by omega) rfl, ?_⟩⟩
    rw [pFKnown, ixn (show i < 2 ^ 31 by omega), show xa_Finds_told N = a_findTold M from (hk.a rfl).trans hFi.1.2.2.2.2.2.2.2.2.2, decide_eq_true_eq, decide_eq_false_iff_not]
    have no : ∀ N, keptX X N → ¬ (¬ t < a_findTold M i ∧ mayV B M (hfO M (-1) i) i t = 0) → T_Finds_unplaced_5 E q (d + 7) (fun r X1 => nwR B M k t r ∧ keptX X X1) N t (nI y) (nI i + 1) := by
      intro N hk z
      rw [if_neg (fun x => z (dcd_t.mp x))] at hy
      rw [nI_s]
      exact kk (y, N) ⟨hk, hyk, hy⟩
    refine ⟨fun c => no N hk (fun z => c (Int32.not_lt.mp z.1)), fun c => ?_⟩
    refine mIx (ct_Finds_placesOf (hF.kp (kept.rf M) hk) hi t9) (fun r N1 h => ?_)
    obtain ⟨er, hk1⟩ := h
    rw [er]
    refine ⟨fun z => no _ (hk.tr hk1) (fun x => z x.2), fun z => ?_⟩
    rw [if_pos (dcd_t.mpr ⟨Int32.not_lt.mpr c, z⟩)] at hy
    have y0 : nI y = 0 ↔ y = 0 := by rw [show (0 : Int32) = nI 0 from rfl, nI_eq (by omega) (by omega)]
    show (¬ nI y = 0 → _) ∧ (nI y = 0 → _)
    rw [y0]
    refine ⟨fun z2 => ?_, fun z2 => fin _ _ (hk.tr hk1) ?_⟩
    · have hy2 : (if y = 0 then nI i else nwF B M t (nFi M - (i + 1)) (i + 1) (y - 1)) = nwF B M t (nFi M) 0 (ix k) := hy
      rw [if_neg z2] at hy2
      rw [nI_s]
      show T_Finds_unplaced_5 E q (d + 7) _ N1 t (nI y + (-1)) _
      rw [show nI y + (-1) = nI (y - 1) by rw [show y = (y - 1) + 1 by omega, nI_p]; rfl]
      exact kk (y - 1, N1) ⟨hk.tr hk1, by show y - 1 ≤ ix k; omega, hy2⟩
    · have hy2 : (if y = 0 then nI i else nwF B M t (nFi M - (i + 1)) (i + 1) (y - 1)) = nwF B M t (nFi M) 0 (ix k) := hy
      rw [if_pos z2] at hy2
      exact hy2
