/-! dig and strike keep the relation -/
theorem RDg.add {X : StX} {M : StM} (hB : RB X M) (hP : RPl X M) (hD : RDg X M) {h k a b t u f g : Int32} (ok : digOk M h k a b t u f g) {m : Nat} (hm : insAt X M f m) : RDg (xAddDg X M m h k a b t u f g) (mAddDg M h k a b t u f g) := by
  obtain ⟨en, n100⟩ := hD.n
  have hlt : nD M < 100 := by
    rcases Nat.lt_or_ge (nD M) 100 with z | z
    · exact z
    · exact absurd (by rw [en, show nD M = 100 by omega]; rfl) ok.2.2.2.2.2.2
  have hs : ix (s_digs M + 1) = nD M + 1 := by rw [en, nI_s, ixn (by omega)]
  have hB6 := hB.2.2.2.2.2.1
  obtain ⟨⟨c1, c2, c3, c4, c5, c6, c7, c8, c9, c10⟩, ⟨d1, d2⟩, d3, d4⟩ := hD
  obtain ⟨k1, k2, k3, k4, k5, k6, k7⟩ := ok
  refine ⟨⟨?_, ?_, ?_, ?_, ?_, ?_, ?_, ?_, ?_, ?_⟩, ⟨?_, ?_⟩, ?_, ?_⟩
  · show nI (nD M) + 1 = s_digs M + 1
    rw [en]
  · show upd (xa_Digs_hand X) (nD M) h = upd (a_digHand M) (nD M) h
    rw [c2]
  · show upd (xa_Digs_kind X) (nD M) k = upd (a_digKind M) (nD M) k
    rw [c3]
  · show upd (xa_Digs_upperLeft X) (nD M) a = upd (a_digA M) (nD M) a
    rw [c4]
  · show upd (xa_Digs_lowerRight X) (nD M) b = upd (a_digB M) (nD M) b
    rw [c5]
  · show upd (xa_Digs_top X) (nD M) t = upd (a_digTop M) (nD M) t
    rw [c6]
  · show upd (xa_Digs_bottom X) (nD M) u = upd (a_digBottom M) (nD M) u
    rw [c7]
  · show upd (xa_Digs_from X) (nD M) f = upd (a_digFrom M) (nD M) f
    rw [c8]
  · show upd (xa_Digs_to X) (nD M) g = upd (a_digTo M) (nD M) g
    rw [c9]
  · show upd (xa_Digs_told X) (nD M) (s_now M) = upd (a_digTold M) (nD M) (s_now M)
    rw [c10]
  · show 0 ≤ s_digs M + 1
    grind
  · show s_digs M + 1 ≤ 100
    grind
  · intro i hi
    have hi : i < nD M + 1 := by rw [← hs]; exact hi
    show mRect M (upd (a_digA M) (nD M) a i) (upd (a_digB M) (nD M) b i) = true ∧ (0 ≤ upd (a_digKind M) (nD M) k i ∧ upd (a_digKind M) (nD M) k i ≤ 2) ∧ (0 ≤ upd (a_digHand M) (nD M) h i ∧ upd (a_digHand M) (nD M) h i ≤ 7) ∧ (0 ≤ upd (a_digTop M) (nD M) t i ∧ upd (a_digTop M) (nD M) t i ≤ upd (a_digBottom M) (nD M) u i ∧ upd (a_digBottom M) (nD M) u i ≤ 7) ∧ (0 ≤ upd (a_digFrom M) (nD M) f i ∧ upd (a_digFrom M) (nD M) f i ≤ upd (a_digTo M) (nD M) g i ∧ upd (a_digTo M) (nD M) g i ≤ 9999) ∧ (0 ≤ upd (a_digTold M) (nD M) (s_now M) i ∧ upd (a_digTold M) (nD M) (s_now M) i ≤ 9999) ∧ ((upd (a_digStruck M) (nD M) (-1) i = -1 ∧ upd (xa_Digs_struck X) (nD M) 10000 i = 10000) ∨ (0 ≤ upd (a_digStruck M) (nD M) (-1) i ∧ upd (a_digStruck M) (nD M) (-1) i ≤ 9999 ∧ upd (xa_Digs_struck X) (nD M) 10000 i = upd (a_digStruck M) (nD M) (-1) i)) ∧ upd (xa_Digs_touched X) (nD M) (bitsP (meetsP M a b) (nP M)) i = bitsP (meetsP M (upd (a_digA M) (nD M) a i) (upd (a_digB M) (nD M) b i)) (nP M)
    by_cases e : i = nD M
    · subst e
      simp only [upd_eq]
      refine ⟨k3, ?_, ?_, k4, ⟨k6.1, k6.2.1, ?_⟩, hB6, Or.inl ⟨trivial, trivial⟩, trivial⟩
      · simpa [mIn] using k2
      · simpa [mIn] using k1
      · have := k6.2.2
        grind
    · simp only [upd_ne e]
      exact d3 i (by show i < nD M; omega)
  · show OrdOK (insF (xa_Digs_order X) (nD M) m) (upd (a_digFrom M) (nD M) f) (ix (s_digs M + 1))
    rw [hs]
    exact d4.ins hlt hm.1 hm.2.1 hm.2.2
theorem RB.addDg {X : StX} {M : StM} (hB : RB X M) {h k a b t u f g : Int32} (m : Nat) : RB (xAddDg X M m h k a b t u f g) (mAddDg M h k a b t u f g) := hB
theorem RPl.addDg {X : StX} {M : StM} (hP : RPl X M) {h k a b t u f g : Int32} (m : Nat) : RPl (xAddDg X M m h k a b t u f g) (mAddDg M h k a b t u f g) := hP
/-! strike -/
def strOk (M : StM) (i : Int32) : Prop := mDig M i = true ∧ a_digStruck M (ix i) = -1
def mStr (M : StM) (i : Int32) : StM := sA M 19 (upd (a_digStruck M) (ix i) (s_now M))
def xStr (X : StX) (i : Int32) : StX := xA X 31 (upd (xa_Digs_struck X) (ix i) (xs_City_today X))
theorem mDig_n {X : StX} {M : StM} (hD : RDg X M) {i : Int32} : mDig M i = true ↔ ∃ k, k < nD M ∧ i = nI k := by
  obtain ⟨en, n100⟩ := hD.n
  rw [mDig, decide_eq_true_eq, en]
  constructor
  · rintro ⟨h1, h2⟩
    exact ⟨ix i, ix_lt h1 h2 (by omega), (nix h1).symm⟩
  · rintro ⟨k, hk, rfl⟩
    exact ⟨nI_pos' (by omega), nI_lt hk (by omega)⟩
theorem ct_strike {E : EvT} {q : Nat → Nat} {d : Nat} {X : StX} {M : StM} (hD : RDg X M) {i : Int32} (P : Bool → StM → Prop) (h1 : ¬ strOk M i → P false M) (h2 : strOk M i → P true (mStr M i)) : C_strike E q (d + 1) i M P := by
  refine en_strike ⟨fun e => h1 (fun z => by rw [z.1] at e; cases e), fun e => ⟨?_, fun e2 => h2 ⟨e, e2⟩, fun e2 => h1 (fun z => e2 z.2)⟩⟩
  obtain ⟨en, n100⟩ := hD.n
  obtain ⟨k, hk, rfl⟩ := (mDig_n hD).mp e
  exact bnd (n := 100) (by omega) (by omega) rfl
theorem pStruck_eq {X : StX} {M : StM} (hD : RDg X M) {i : Int32} (hi : mDig M i = true) : pStruck X i = decide (¬ a_digStruck M (ix i) = -1) := by
  obtain ⟨en, n100⟩ := hD.n
  obtain ⟨k, hk, rfl⟩ := (mDig_n hD).mp hi
  obtain ⟨g1, g2, g3, g4, g5, g6, g7, g8⟩ := hD.2.2.1 k hk
  rw [pStruck, ixn (by omega), decide_eq_decide]
  rcases g7 with ⟨e1, e2⟩ | ⟨e1, e2, e3⟩
  · rw [e1, e2]; simp
  · rw [e3]
    grind
theorem ct_City_strike {E : EvT} {q : Nat → Nat} {d : Nat} {X : StX} {M : StM} (hD : RDg X M) {i : Int32} (P : Bool → StX → Prop) (h1 : ¬ strOk M i → P false X) (h2 : strOk M i → P true (xStr X i)) : C_City_strike E q (d + 1) i X P := by
  obtain ⟨en, n100⟩ := hD.n
  have n0 := hD.2.1.1
  have n1 := hD.2.1.2
  refine en_City_strike ?_
  rw [show mIn i 0 (xs_Digs_size X - 1) = mDig M i by rw [hD.1.1]; grind [mIn, mDig]]
  refine ⟨fun e => h1 (fun z => by rw [z.1] at e; cases e), fun e => ?_⟩
  have hb : 0 ≤ i ∧ i < 100 := by
    obtain ⟨k, hk, rfl⟩ := (mDig_n hD).mp e
    exact bnd (n := 100) (by omega) (by omega) rfl
  rw [pStruck_eq hD e]
  exact ⟨hb, fun e2 => en_Digs_cross ⟨hb, h2 ⟨e, by simpa using e2⟩⟩, fun e2 => h1 (fun z => by simp [z.2] at e2)⟩
theorem RDg.str {X : StX} {M : StM} (hB : RB X M) (hD : RDg X M) {i : Int32} (ok : strOk M i) : RDg (xStr X i) (mStr M i) := by
  obtain ⟨en, n100⟩ := hD.n
  obtain ⟨c, hc, rfl⟩ := (mDig_n hD).mp ok.1
  have hB6 := hB.2.2.2.2.2.1
  have hB3 := hB.2.2.1
  obtain ⟨d1, d2, d3, d4⟩ := hD
  refine ⟨d1, d2, fun i hi => ?_, d4⟩
  obtain ⟨g1, g2, g3, g4, g5, g6, g7, g8⟩ := d3 i hi
  refine ⟨g1, g2, g3, g4, g5, g6, ?_, g8⟩
  show (upd (a_digStruck M) (ix (nI c)) (s_now M) i = -1 ∧ upd (xa_Digs_struck X) (ix (nI c)) (xs_City_today X) i = 10000) ∨ (0 ≤ upd (a_digStruck M) (ix (nI c)) (s_now M) i ∧ upd (a_digStruck M) (ix (nI c)) (s_now M) i ≤ 9999 ∧ upd (xa_Digs_struck X) (ix (nI c)) (xs_City_today X) i = upd (a_digStruck M) (ix (nI c)) (s_now M) i)
  rw [ixn (by omega)]
  by_cases e : i = c
  · subst e
    simp only [upd_eq]
    exact Or.inr ⟨hB6.1, hB6.2, hB3⟩
  · simp only [upd_ne e]
    exact g7
theorem RB.str {X : StX} {M : StM} (hB : RB X M) (i : Int32) : RB (xStr X i) (mStr M i) := hB
theorem RPl.str {X : StX} {M : StM} (hP : RPl X M) (i : Int32) : RPl (xStr X i) (mStr M i) := hP
/-! city, now keep plan and digs -/
theorem RB.city {X : StX} {M : StM} (hB : RB X M) {w h : Int32} (ok : mCityOk M w h) : RB (xBegins X w h) (mBegins M w h) := by
  obtain ⟨b1, b2, b3, b4, b5, b6, b7⟩ := hB
  refine ⟨rfl, rfl, b3, ?_, ?_, b6, b7⟩
  · show 4 ≤ w ∧ w ≤ 10
    have := ok.1
    grind [mIn]
  · show 4 ≤ h ∧ h ≤ 10
    have := ok.2.1
    grind [mIn]
theorem RPl.city {X : StX} {M : StM} (hP : RPl X M) {w h : Int32} (ok : mCityOk M w h) : RPl (xBegins X w h) (mBegins M w h) := by
  obtain ⟨p1, p2, p3, p4, p5, p6, p7⟩ := hP
  have z : s_places M = 0 := by have := ok.2.2.1; grind
  have z2 : ix (s_places M) = 0 := by rw [z]; rfl
  have hw := ok.1
  have hh := ok.2.1
  refine ⟨p1, p2, p3, p4, p5, fun p hp => ?_, fun c hc => ?_⟩
  · have : p < ix (s_places M) := hp
    omega
  · have hc : c < ix w * ix h := hc
    have l1 : ix w ≤ 10 := ix_le (n := 10) (by grind [mIn]) (show w ≤ 10 by grind [mIn]) (by omega)
    have l2 : ix h ≤ 10 := ix_le (n := 10) (by grind [mIn]) (show h ≤ 10 by grind [mIn]) (by omega)
    have l3 : ix w * ix h ≤ 100 := Nat.mul_le_mul l1 l2
    refine ⟨Or.inl ?_, fun p hp => ?_⟩
    · show fillF 100 (-1) (a_placeAt M) c = -1
      rw [fillF, if_pos (by omega)]
    · have : p < ix (s_places M) := hp
      omega
theorem RDg.city {X : StX} {M : StM} (hD : RDg X M) {w h : Int32} (ok : mCityOk M w h) : RDg (xBegins X w h) (mBegins M w h) := by
  have z : s_digs M = 0 := by have := ok.2.2.2.1; have := hD.2.1.1; grind
  have z2 : ix (s_digs M) = 0 := by rw [z]; rfl
  obtain ⟨d1, d2, d3, d4⟩ := hD
  refine ⟨d1, d2, fun i hi => ?_, d4⟩
  have : i < ix (s_digs M) := hi
  omega
theorem RPl.now {X : StX} {M : StM} (hP : RPl X M) (w : Int32) : RPl (xI X 230 w) (sI M 2 w) := hP
theorem RDg.now {X : StX} {M : StM} (hD : RDg X M) (w : Int32) : RDg (xI X 230 w) (sI M 2 w) := hD
