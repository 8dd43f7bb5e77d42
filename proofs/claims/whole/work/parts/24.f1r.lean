/-! place keeps the relation -/
theorem neg1_nI {p : Nat} (hp : p < 2 ^ 31) : ¬ (-1 : Int32) = nI p := by
  intro z
  have : (nI p).toInt = -1 := by rw [← z]; rfl
  rw [nI_toInt hp] at this
  omega
theorem RPl.add {X : StX} {M : StM} (hB : RB X M) (hP : RPl X M) {k a b : Int32} (nd : Nat) (h1 : mIn k 0 2 = true) (h2 : mRect M a b = true) (h3 : ¬ s_places M = 30) (h4 : freeP M a b) : RPl (xAddPl X nd k a b) (mAddPl M k a b) := by
  obtain ⟨en, n30⟩ := hP.n
  obtain ⟨p1, p2, p3, p4, ⟨p5, p6⟩, p7, p8⟩ := hP
  have hlt : nP M < 30 := by
    rcases Nat.lt_or_ge (nP M) 30 with z | z
    · exact z
    · exact absurd (by rw [en, show nP M = 30 by omega]; rfl) h3
  have hs : ix (s_places M + 1) = nP M + 1 := by rw [en, nI_s, ixn (by omega)]
  have hi : ix (s_places M) = nP M := rfl
  refine ⟨?_, ?_, ?_, ?_, ⟨?_, ?_⟩, ?_, ?_⟩
  · show xs_Plan_places X + 1 = s_places M + 1
    rw [p1]
  · show upd (xa_Plan_kind X) (ix (xs_Plan_places X)) k = upd (a_placeKind M) (ix (s_places M)) k
    rw [p1, p2]
  · show upd (xa_Plan_upperLeft X) (ix (xs_Plan_places X)) a = upd (a_placeA M) (ix (s_places M)) a
    rw [p1, p3]
  · show upd (xa_Plan_lowerRight X) (ix (xs_Plan_places X)) b = upd (a_placeB M) (ix (s_places M)) b
    rw [p1, p4]
  · show 0 ≤ s_places M + 1
    grind
  · show s_places M + 1 ≤ 30
    grind
  · intro p hp
    have hp : p < nP M + 1 := by rw [← hs]; exact hp
    show mRect M (upd (a_placeA M) (nP M) a p) (upd (a_placeB M) (nP M) b p) = true ∧ 0 ≤ upd (a_placeKind M) (nP M) k p ∧ upd (a_placeKind M) (nP M) k p ≤ 2
    by_cases e : p = nP M
    · subst e
      rw [upd_eq, upd_eq, upd_eq]
      rw [mIn, decide_eq_true_eq] at h1
      exact ⟨h2, h1⟩
    · rw [upd_ne e, upd_ne e, upd_ne e]
      exact p7 p (by rw [hi]; omega)
  · intro c hc
    have hc : c < nW M * nH M := hc
    obtain ⟨q1, q2⟩ := p8 c hc
    show (atF M a b (nW M * nH M) c = -1 ∨ ∃ p, p < ix (s_places M + 1) ∧ atF M a b (nW M * nH M) c = nI p) ∧ ∀ p, p < ix (s_places M + 1) → (atF M a b (nW M * nH M) c = nI p ↔ mIsIn M (nI c) (upd (a_placeA M) (nP M) a p) (upd (a_placeB M) (nP M) b p) = true)
    rw [hs]
    by_cases hin : mIsIn M (nI c) a b = true
    · have e0 := h4 c hc hin
      have e1 : atF M a b (nW M * nH M) c = nI (nP M) := by rw [atF, if_pos ⟨hc, hin⟩, en]
      rw [e1]
      refine ⟨Or.inr ⟨nP M, by omega, rfl⟩, fun p hp => ?_⟩
      by_cases e : p = nP M
      · subst e
        rw [upd_eq, upd_eq]
        exact ⟨fun _ => hin, fun _ => rfl⟩
      · rw [upd_ne e, upd_ne e, ← q2 p (by rw [hi]; omega), e0, nI_eq (by omega) (by omega)]
        exact ⟨fun z => absurd z.symm e, fun z => absurd z (neg1_nI (by omega))⟩
    · have e1 : atF M a b (nW M * nH M) c = a_placeAt M c := by rw [atF, if_neg (fun z => hin z.2)]
      rw [e1]
      refine ⟨?_, fun p hp => ?_⟩
      · rcases q1 with q | ⟨p, hp, q⟩
        · exact Or.inl q
        · exact Or.inr ⟨p, by rw [hi] at hp; omega, q⟩
      · by_cases e : p = nP M
        · subst e
          rw [upd_eq, upd_eq]
          refine ⟨fun z => ?_, fun z => absurd z hin⟩
          rcases q1 with q | ⟨p, hp, q⟩
          · rw [q] at z
            exact absurd z (neg1_nI (by omega))
          · rw [q, nI_eq (by rw [hi] at hp; omega) (by omega)] at z
            rw [hi] at hp
            omega
        · rw [upd_ne e, upd_ne e]
          exact q2 p (by rw [hi]; omega)
theorem meetsP_old {X : StX} {M : StM} (hP : RPl X M) {k a b : Int32} (h4 : freeP M a b) {u v : Int32} {p : Nat} (hp : p < nP M) : meetsP (mAddPl M k a b) u v p = meetsP M u v p := by
  obtain ⟨en, n30⟩ := hP.n
  rw [meetsP, meetsP, decide_eq_decide]
  show (∃ c, c < nW M * nH M ∧ mIsIn M (nI c) u v = true ∧ atF M a b (nW M * nH M) c = nI p) ↔ _
  constructor
  · rintro ⟨c, hc, h1, h2⟩
    refine ⟨c, hc, h1, ?_⟩
    by_cases hin : mIsIn M (nI c) a b = true
    · rw [atF, if_pos ⟨hc, hin⟩, en, nI_eq (by omega) (by omega)] at h2
      omega
    · rw [atF, if_neg (fun z => hin z.2)] at h2
      exact h2
  · rintro ⟨c, hc, h1, h2⟩
    refine ⟨c, hc, h1, ?_⟩
    by_cases hin : mIsIn M (nI c) a b = true
    · have := h4 c hc hin
      rw [h2] at this
      exact absurd this.symm (neg1_nI (by omega))
    · rw [atF, if_neg (fun z => hin z.2)]
      exact h2
theorem meetsP_new {X : StX} {M : StM} (hB : RB X M) (hP : RPl X M) {k a b : Int32} (h3 : ¬ s_places M = 30) {u v : Int32} (hr1 : mRect M a b = true) (hr2 : mRect M u v = true) : meetsP (mAddPl M k a b) u v (nP M) = pMeet X a b u v := by
  obtain ⟨en, n30⟩ := hP.n
  obtain ⟨ew, w4, w10⟩ := hB.w
  obtain ⟨eh, g4, g10⟩ := hB.h
  obtain ⟨-, wh, w0⟩ := hB.wh
  obtain ⟨x, y, rfl, rfl, ok1⟩ := (mRect_n ew eh w0 w10 g10).mp hr1
  obtain ⟨u, v, rfl, rfl, ok2⟩ := (mRect_n ew eh w0 w10 g10).mp hr2
  have b1 : x < 2 ^ 31 := by have := ok1.1; omega
  have b2 : y < 2 ^ 31 := by have := ok1.2.1; omega
  have b3 : u < 2 ^ 31 := by have := ok2.1; omega
  have b4 : v < 2 ^ 31 := by have := ok2.2.1; omega
  rw [Bool.eq_iff_iff, pMeet_n hB.xw w0 w10 b1 b2 b3 b4, meet_cell w0 ok1 ok2, meetsP, decide_eq_true_eq]
  show (∃ c, c < nW M * nH M ∧ mIsIn M (nI c) (nI u) (nI v) = true ∧ atF M (nI x) (nI y) (nW M * nH M) c = nI (nP M)) ↔ _
  constructor
  · rintro ⟨c, hc, h1, h2⟩
    refine ⟨c, hc, ?_, (mIsIn_n ew w0 w10 b3 b4 (by omega)).mp h1⟩
    by_cases hin : mIsIn M (nI c) (nI x) (nI y) = true
    · exact (mIsIn_n ew w0 w10 b1 b2 (by omega)).mp hin
    · rw [atF, if_neg (fun z => hin z.2)] at h2
      exfalso
      rcases (hP.2.2.2.2.2.2 c hc).1 with q | ⟨p, hp, q⟩
      · rw [q] at h2
        exact neg1_nI (by omega) h2
      · have hp' : p < nP M := hp
        rw [q, nI_eq (by omega) (by omega)] at h2
        omega
  · rintro ⟨c, hc, h1, h2⟩
    refine ⟨c, hc, (mIsIn_n ew w0 w10 b3 b4 (by omega)).mpr h2, ?_⟩
    rw [atF, if_pos ⟨hc, (mIsIn_n ew w0 w10 b1 b2 (by omega)).mpr h1⟩, en]
theorem RDg.addPl {X : StX} {M : StM} (hB : RB X M) (hP : RPl X M) (hD : RDg X M) {k a b : Int32} (h2 : mRect M a b = true) (h3 : ¬ s_places M = 30) (h4 : freeP M a b) : RDg (xAddPl X (nD M) k a b) (mAddPl M k a b) := by
  obtain ⟨en, n30⟩ := hP.n
  have hlt : nP M < 30 := by
    rcases Nat.lt_or_ge (nP M) 30 with z | z
    · exact z
    · exact absurd (by rw [en, show nP M = 30 by omega]; rfl) h3
  obtain ⟨d1, d2, d3, d4⟩ := hD
  refine ⟨d1, d2, fun i hi => ?_, d4⟩
  obtain ⟨g1, g2, g3, g4, g5, g6, g7, g8⟩ := d3 i hi
  refine ⟨g1, g2, g3, g4, g5, g6, g7, ?_⟩
  show tchF X (xs_Plan_places X) a b (nD M) i = bitsP (meetsP (mAddPl M k a b) (a_digA M i) (a_digB M i)) (ix (s_places M + 1))
  have hi' : i < nD M := hi
  have e3 : bitsP (meetsP (mAddPl M k a b) (a_digA M i) (a_digB M i)) (nP M) = bitsP (meetsP M (a_digA M i) (a_digB M i)) (nP M) := bitsP_cong (fun j hj => meetsP_old hP h4 hj)
  rw [show ix (s_places M + 1) = nP M + 1 by rw [en, nI_s, ixn (by omega)]]
  have e4 := meetsP_new (k := k) hB hP h3 h2 g1
  by_cases hm : pMeet X a b (a_digA M i) (a_digB M i) = true
  · rw [← bitsP_t (by omega) (by rw [e4]; exact hm), e3, tchF, if_pos ⟨hi', by rw [d1.2.2.2.1, d1.2.2.2.2.1]; exact hm⟩, g8, hP.1, en]
  · have hm' : pMeet X a b (a_digA M i) (a_digB M i) = false := by simpa using hm
    rw [← bitsP_f (by rw [e4]; exact hm'), e3, tchF, if_neg (fun z => hm (by rw [d1.2.2.2.1, d1.2.2.2.2.1] at z; exact z.2)), g8]
theorem RB.addPl {X : StX} {M : StM} (hB : RB X M) {k a b : Int32} (nd : Nat) : RB (xAddPl X nd k a b) (mAddPl M k a b) := hB
/-! city: W and H anew -/
def mCityOk (M : StM) (w h : Int32) : Prop := mIn w 4 10 = true ∧ mIn h 4 10 = true ∧ ¬ 0 < s_places M ∧ ¬ 0 < s_digs M ∧ s_hollows M ≤ 0
theorem ct_city {E : EvT} {q : Nat → Nat} {d : Nat} {M : StM} {w h : Int32} (P : Bool → StM → Prop) (h1 : ¬ mCityOk M w h → P false M) (h2 : mCityOk M w h → P true (mBegins M w h)) : C_city E q (d + 1) w h M P := by
  refine en_city ⟨fun e => h1 (fun z => by rw [z.1] at e; cases e), fun e1 => ⟨fun e => h1 (fun z => by rw [z.2.1] at e; cases e), fun e2 => ⟨fun e => h1 (fun z => z.2.2.1 e), fun e3 => ⟨fun e => h1 (fun z => z.2.2.2.1 e), fun e4 => ⟨fun e5 => ?_, fun e => h1 (fun z => e z.2.2.2.2)⟩⟩⟩⟩⟩
  refine mV ct_begins (fun S1 hS => ?_)
  subst hS
  exact h2 ⟨e1, e2, e3, e4, e5⟩
def xBegins (X : StX) (w h : Int32) : StX := xA (xI (xI X 80 w) 81 h) 8 (fillF 100 8 (xa_Fall_height X))
theorem ct_City_city {E : EvT} {q : Nat → Nat} {d : Nat} {X : StX} {M : StM} {w h : Int32} (e1 : xs_Plan_places X = s_places M) (e2 : xs_Digs_size X = s_digs M) (e3 : xs_Fall_hollows X = s_hollows M) (P : Bool → StX → Prop) (h1 : ¬ mCityOk M w h → P false X) (h2 : mCityOk M w h → P true (xBegins X w h)) : C_City_city E q (d + 2) w h X P := by
  refine en_City_city ⟨fun e => h1 (fun z => by rw [z.1] at e; cases e), fun c1 => ⟨fun c2 => ?_, fun e => h1 (fun z => by rw [z.2.1] at e; cases e)⟩⟩
  rw [e1, e2, e3]
  exact ⟨fun e => h1 (fun z => z.2.2.1 e), fun c3 => ⟨fun e => h1 (fun z => z.2.2.2.1 e), fun c4 => ⟨fun c5 => en_Plan_resize (en_Fall_level (d := d) (h2 ⟨c1, c2, c3, c4, c5⟩)), fun e => h1 (fun z => e z.2.2.2.2)⟩⟩⟩
theorem ct_now {E : EvT} {q : Nat → Nat} {d : Nat} {X : StX} {M : StM} (hB : RB X M) {w : Int32} (P : Bool → StM → Prop) (h1 : mIn w (s_now M) 9999 = false → P false M) (h2 : mIn w (s_now M) 9999 = true → P true (sI M 2 w)) : C_now E q (d + 1) w M P := en_now ⟨h2, h1⟩
theorem ct_City_now {E : EvT} {q : Nat → Nat} {d : Nat} {X : StX} {M : StM} (hB : RB X M) {w : Int32} (P : Bool → StX → Prop) (h1 : mIn w (s_now M) 9999 = false → P false X) (h2 : mIn w (s_now M) 9999 = true → P true (xI X 230 w)) : C_City_now E q (d + 2) w X P := by
  have := hB.2.2.2.2.2.1
  refine en_City_now ?_
  rw [hB.2.2.1]
  grind [mWeek, mIn]
theorem RB.now {X : StX} {M : StM} (hB : RB X M) {w : Int32} (h : mIn w (s_now M) 9999 = true) : RB (xI X 230 w) (sI M 2 w) := by
  obtain ⟨b1, b2, b3, b4, b5, b6, b7⟩ := hB
  refine ⟨b1, b2, rfl, b4, b5, ?_, b7⟩
  show 0 ≤ w ∧ w ≤ 9999
  grind [mIn]
theorem ct_placeOf {E : EvT} {q : Nat → Nat} {d : Nat} {X : StX} {M : StM} (hB : RB X M) {c : Int32} : C_placeOf E q (d + 1) c M (fun r M1 => r = (if mCell M c = true then a_placeAt M (ix c) else -1) ∧ M1 = M) := by
  obtain ⟨ew, w4, w10⟩ := hB.w
  obtain ⟨eh, h4, h10⟩ := hB.h
  obtain ⟨-, wh, w0⟩ := hB.wh
  refine en_placeOf ⟨fun e => ⟨by rw [if_neg (by rw [e]; decide)], rfl⟩, fun e => ⟨?_, by rw [if_pos e], rfl⟩⟩
  obtain ⟨k, hk, rfl⟩ := (mCell_n ew eh w10 h10).mp e
  exact bnd (n := 100) (by omega) (by omega) rfl
