/-! join: the class, on -/
theorem q62 {n w : Nat} (hn : n ≤ 8) (h : w ≤ n * (74 * 61 ^ 8)) : w < 2 ^ 61 := by
  have : n * (74 * 61 ^ 8) ≤ 8 * (74 * 61 ^ 8) := Nat.mul_le_mul_right _ hn
  exact Nat.lt_of_le_of_lt (Nat.le_trans h this) (by decide)
theorem lN_p (a b : Nat) : lN a + lN b = lN (a + b) := lN_add a b
theorem ct_Mus_bestWithLast {E : EvT} {q : Nat → Nat} {d : Nat} {B : BkT} {X : StX} {M : StM} {n k s : Nat} (hn : n ≤ 8) (hkT : k < 60) (hs : s < 2 ^ n) (h1 : xs_Mus_chosen X = nI n) (hg : gainP B M n k (xa_Mus_gain X)) (hb : ∀ f, f < n → s.testBit f = true → ∃ o, xa_Mus_best X (s ^^^ 2 ^ f) = encL o ∧ IsM n (jOk B M) (gX (jAg M)) k (s ^^^ 2 ^ f) o) : C_Mus_bestWithLast E q (d + 1) (nI s) X (fun r X1 => ∃ c, r = encL c ∧ IsQ n (jOk B M) (gX (jAg M)) k s n c ∧ X1 = X) := by
  have p256 : 2 ^ n ≤ 256 := Nat.pow_le_pow_right (by omega) hn (n := 2)
  have gl : ∀ p k, gX (jAg M) p k ≤ 74 * 61 ^ 8 := gX_le (jAg_8 M)
  refine en_Mus_bestWithLast ?_
  refine up_s (W := n) (T := fun f (c : Option Nat) => T_Mus_bestWithLast_7 E q (d + 1) (fun r X1 => ∃ c, r = encL c ∧ IsQ n (jOk B M) (gX (jAg M)) k s n c ∧ X1 = X) X (nI s) (encL c) (nI f)) (J := fun f c => IsQ n (jOk B M) (gX (jAg M)) k s f c) ?_ ?_ 0 none (by omega) IsQ.zero
  · intro c hc
    exact sg_Mus_bestWithLast_7 ⟨fun _ => ⟨c, rfl, hc, rfl⟩, fun z => absurd (by rw [h1]; exact Int32.le_refl _) z⟩
  · intro f c hf hc kk
    refine sg_Mus_bestWithLast_7 ⟨fun z => absurd z (by rw [h1]; exact nI_ge hf (by omega)), fun _ => ?_⟩
    have hx : (nI s ^^^ ((1 : Int32) <<< (nI f &&& 31))) = nI (s ^^^ 2 ^ f) := by rw [sh1 f (by omega), nxor]
    rw [bit_1 (show s < 2 ^ 31 by omega) (show f < 31 by omega), hx, ixn (show f < 2 ^ 31 by omega), nI_s]
    refine ⟨fun y => kk c (hc.skip (fun r hr e => y ((hr.1 f hf).mpr (by omega)))), fun y => ⟨bnd (n := 8) (by omega) (by omega) rfl, ?_⟩⟩
    have x8 : s ^^^ 2 ^ f < 2 ^ n := Nat.xor_lt_two_pow hs (Nat.pow_lt_pow_right (by omega) hf)
    obtain ⟨o, e1, ho⟩ := hb f hf y
    have oL : ∀ w, o = some w → w < 2 ^ 61 := fun w e => by subst e; exact q62 hn (ho.le gl)
    have cL : ∀ w, c = some w → w < 2 ^ 61 := fun w e => by subst e; exact q62 hn (hc.le gl)
    have gb : gX (jAg M) f k < 2 ^ 61 := Nat.lt_of_le_of_lt (gl f k) (by decide)
    rcases Classical.em (jOk B M f k) with c1 | c1
    · rw [(hg f hf).1 c1, cmp_le0 (Nat.lt_trans gb (by decide))]
      refine ⟨fun z => absurd z (Nat.ne_of_gt (gX_pos f k)), fun _ => ⟨bnd (n := 256) (by omega) (by omega) rfl, ?_⟩⟩
      rw [ixn (show s ^^^ 2 ^ f < 2 ^ 31 by omega), e1, cmp_lt0 (fun w e => Nat.lt_trans (oL w e) (by decide))]
      refine ⟨fun z => ?_, fun z v hv => ?_⟩
      · subst z
        exact kk c (hc.skip (fun r hr e => by
          obtain ⟨w, e2, -⟩ := ho.1 _ (hr.rem hf hkT e)
          cases e2))
      · cases o with
        | none => exact absurd rfl z
        | some w =>
          have hw := oL w rfl
          rw [show encL (some w) = lN w from rfl, lN_add] at hv
          have e3 : lN (w + gX (jAg M) f k) = encL (some (w + gX (jAg M) f k)) := rfl
          rw [e3, jMaxl_e (fun w e => Nat.lt_trans (cL w e) (by decide)) (fun u e => by cases e; omega)] at hv
          subst hv
          exact kk _ (hc.add hf hkT y c1 ho)
    · rw [(hg f hf).2 c1]
      refine ⟨fun _ => kk c (hc.skip (fun r hr e => ?_)), fun z => absurd (by decide) z⟩
      have := (hr.2.1 f hf (by omega)).2
      rw [e] at this
      exact c1 this
/-- what the class's join comes to -/
def JoinX (B : BkT) (M : StM) (n : Nat) (a : Nat → Nat) : Prop := VA n (jOk B M) (nTh M) a ∧ ∀ s, VA n (jOk B M) (nTh M) s → sumW (gX (jAg M)) s n ≤ sumW (gX (jAg M)) a n
theorem ct_Mus_readRow {E : EvT} {q : Nat → Nat} {d : Nat} {X : StX} (hE : EOk E q) {n : Nat} (hn : n ≤ 8) (h1 : xs_Mus_chosen X = nI n) {a : Nat → Nat} (ha : ∀ p, p < n → a p ≤ 60) : C_Mus_readRow E q d (lN (hrn a n * 61 ^ (8 - n))) X (fun r X1 => r = nI (cM a n) ∧ ∃ rw, X1 = xA (xI X 70 (nI n)) 71 rw ∧ ∀ p, p < n → rw p = nI (a p)) := by
  have cl := code_lt a hn
  have c61 : hrn a n * 61 ^ (8 - n) < 2 ^ 61 := Nat.lt_trans cl (by decide)
  refine en_Mus_readRow hE ?_
  rw [h1]
  have key := up_s (W := n) (T := fun p (z : Nat → Int32) => T_Mus_readRow_13 E q d (fun r X1 => r = nI (cM a n) ∧ ∃ rw, X1 = xA (xI X 70 (nI n)) 71 rw ∧ ∀ p, p < n → rw p = nI (a p)) (xA (xI X 70 (nI n)) 71 z) (lN (hrn a n * 61 ^ (8 - n))) (nI (cM a p)) (nI p)) (J := fun p z => ∀ p', p' < p → z p' = nI (a p')) ?_ ?_ 0 (xa_Mus_row X) (by omega) (fun p hp => absurd hp (Nat.not_lt_zero p))
  · rw [show xA (xI X 70 (nI n)) 71 (xa_Mus_row X) = xI X 70 (nI n) from xA_self (xI X 70 (nI n)) 71] at key
    exact key
  · intro z hz
    exact sg_Mus_readRow_13 hE ⟨fun _ => ⟨rfl, z, rfl, hz⟩, fun y => absurd (by show xs_Mus_chosen X ≤ _; rw [h1]; exact Int32.le_refl _) y⟩
  · intro p z hp hz kk
    have a60 := ha p hp
    have up : 0 < 61 ^ (7 - p) := Nat.pow_pos (by decide)
    have ul : 61 ^ (7 - p) < 2 ^ 61 := Nat.lt_of_le_of_lt (Nat.pow_le_pow_right (by decide) (Nat.sub_le 7 p) : 61 ^ (7 - p) ≤ 61 ^ 7) (by decide)
    have ed : lN (hrn a n * 61 ^ (8 - n)) / unitF p = lN (hrn a n * 61 ^ (8 - n) / 61 ^ (7 - p)) := by
      rw [unit_e p (by omega), pk_lDiv (by omega) up (by omega)]
    have dl : hrn a n * 61 ^ (8 - n) / 61 ^ (7 - p) < 2 ^ 61 := Nat.lt_of_le_of_lt (Nat.div_le_self _ _) c61
    have er : 60 - ((lN (hrn a n * 61 ^ (8 - n)) / unitF p) - (lN (hrn a n * 61 ^ (8 - n)) / unitF p) / 61 * 61).toInt32 = nI (a p) := by
      rw [ed, show (61 : Int64) = lN 61 from rfl, pk_lRem (by omega) (by omega) (by omega), lN_i, digit hn hp, show (60 : Int32) = nI 60 from rfl, pk_sub (by omega)]
      congr 1
      omega
    refine sg_Mus_readRow_13 hE ⟨fun y => absurd y (by show ¬ xs_Mus_chosen X ≤ _; rw [h1]; exact nI_ge hp (by omega)), fun _ => ⟨bnd (n := 8) (by omega) (by omega) rfl, ?_⟩⟩
    rw [ixn (show p < 2 ^ 31 by omega), er, xA_tw, upd_eq, nI_s, show (60 : Int32) = nI 60 from rfl, nI_leI (by omega) (by omega)]
    have rowz : ∀ p', p' < p + 1 → upd (xa_Mus_row (xA (xI X 70 (nI n)) 71 z)) p (nI (a p)) p' = nI (a p') := by
      intro p' hp'
      by_cases c : p' = p
      · subst c; rw [upd_eq]
      · rw [upd_ne c]; exact hz p' (by omega)
    refine ⟨?_, fun y => ?_, fun y => ?_⟩
    · rw [unit_e p (by omega), show (0 : Int64) = lN 0 from rfl, pk_lEQ (by omega) (by omega)]
      omega
    · have := kk _ rowz
      rw [show cM a (p + 1) = cM a p by rw [cM, sumW, if_pos (show a p = 60 by omega)]; rfl] at this
      exact this
    · have := kk _ rowz
      rw [show cM a (p + 1) = cM a p + 1 by rw [cM, sumW, if_neg (show ¬ a p = 60 by omega)]] at this
      rw [nI_s]
      exact this
theorem ct_Mus_match {E : EvT} {q : Nat → Nat} {d : Nat} {B : BkT} {X Y : StX} {M : StM} (hE : EOk E q) (h : MH B X M) (hk : keptX X Y) {n : Nat} (hn : n ≤ 8) (hH : Hears M n) (hC : ChX B M n Y) : C_Mus_match E q (d + 4) Y (fun r X1 => ∃ a, JoinX B M n a ∧ r = nI (cM a n) ∧ ∃ Z rw, keptX X Z ∧ X1 = xA (xI Z 70 (nI n)) 71 rw ∧ ∀ p, p < n → rw p = nI (a p)) := by
  obtain ⟨en, n60⟩ := h.2.1.n
  have p256 : 2 ^ n ≤ 256 := Nat.pow_le_pow_right (by omega) hn (n := 2)
  have p1 : 1 ≤ 2 ^ n := Nat.one_le_two_pow
  have gl : ∀ p k, gX (jAg M) p k ≤ 74 * 61 ^ 8 := gX_le (jAg_8 M)
  have wl : ∀ {t set w}, IsM n (jOk B M) (gX (jAg M)) t set (some w) → w < 2 ^ 61 := fun h => q62 hn (h.le gl)
  generalize hPd : (fun (r : Int32) (X1 : StX) => ∃ a, JoinX B M n a ∧ r = nI (cM a n) ∧ ∃ Z rw, keptX X Z ∧ X1 = xA (xI Z 70 (nI n)) 71 rw ∧ ∀ p, p < n → rw p = nI (a p)) = Pd
  refine en_Mus_match ?_
  rw [hC.1, sh1 n (by omega), xL_tw]
  -- the best of the sets
  have last : ∀ Z, keptX X Z → ChX B M n Z → (∀ set, set < 2 ^ n → ∃ o, xa_Mus_best Z set = encL o ∧ IsM n (jOk B M) (gX (jAg M)) (nTh M) set o) → T_Mus_match_87 E q (d + 4) Pd Z (nI (2 ^ n)) 0 1 := by
    intro Z hk hC hZ
    have key := up_s (W := 2 ^ n) (T := fun s (b : Nat) => T_Mus_match_87 E q (d + 4) Pd Z (nI (2 ^ n)) (lN b) (nI s)) (J := fun s b => b < 2 ^ 61 ∧ (∀ set, set < s → ∀ w, IsM n (jOk B M) (gX (jAg M)) (nTh M) set (some w) → w ≤ b) ∧ (∃ set, set < 2 ^ n ∧ IsM n (jOk B M) (gX (jAg M)) (nTh M) set (some b))) ?_ ?_ 1 0 p1 ⟨by decide, fun set hs w hw => ?_, 0, by omega, IsM.zero⟩
    · exact key
    · rintro b ⟨b8, b1, set, hs, hb⟩
      refine sg_Mus_match_87 ⟨fun _ => ?_, fun z => absurd (Int32.le_refl _) z⟩
      obtain ⟨a, a1, a2⟩ := hb.2 b rfl
      have av : VA n (jOk B M) (nTh M) a := ⟨a1.2.1, a1.2.2⟩
      have hJ : JoinX B M n a := by
        refine ⟨av, fun s hs => ?_⟩
        obtain ⟨set', hs', hv⟩ := hs.set
        obtain ⟨o, -, ho⟩ := hZ set' hs'
        obtain ⟨w, e1, e2⟩ := ho.1 s hv
        subst e1
        have := b1 set' hs' w ho
        rw [a2]
        omega
      have a60 : ∀ p, p < n → a p ≤ 60 := by
        intro p hp
        by_cases c : a p = 60
        · omega
        · have := (av.1 p hp c).1; omega
      have ec : b % 61 ^ 8 = hrn a n * 61 ^ (8 - n) := by
        rw [← a2, sumW_X _ _ hn, Nat.mul_comm _ (61 ^ 8), Nat.mul_add_mod]
        exact Nat.mod_eq_of_lt (code_lt a hn)
      rw [rw_e, pk_lRem (by omega) (Nat.pow_pos (by decide)) (by decide), ec]
      refine mIx (ct_Mus_readRow hE hn hC.1 a60) (fun r X1 hh => ?_)
      obtain ⟨rfl, rw', rfl, hrw⟩ := hh
      rw [← hPd]
      exact ⟨a, hJ, rfl, Z, rw', hk, rfl, hrw⟩
    · rintro s b hs ⟨b8, b1, b2⟩ kk
      obtain ⟨o, e1, ho⟩ := hZ s hs
      have uniq : ∀ w, IsM n (jOk B M) (gX (jAg M)) (nTh M) s (some w) → o = some w := by
        intro w hw
        obtain ⟨r, r1, r2⟩ := hw.2 w rfl
        obtain ⟨w', e3, e4⟩ := ho.1 r r1
        obtain ⟨r', r1', r2'⟩ := ho.2 w' e3
        obtain ⟨w2, e5, e6⟩ := hw.1 r' r1'
        cases e5
        rw [e3]; congr 1; omega
      refine sg_Mus_match_87 ⟨fun z => absurd z (nI_ge hs (by omega)), fun _ => ⟨bnd (n := 256) (by omega) (by omega) rfl, ?_⟩⟩
      rw [ixn (show s < 2 ^ 31 by omega), e1, nI_s, show lN b = encL (some b) from rfl, jMaxl_e (fun w e => by cases e; omega) (fun w e => by subst e; have := wl ho; omega)]
      cases o with
      | none =>
        refine kk b ⟨b8, fun set hset w hw => ?_, b2⟩
        by_cases c : set = s
        · subst c; have := uniq w hw; cases this
        · exact b1 set (by omega) w hw
      | some v =>
        have v8 := wl ho
        show T_Mus_match_87 E q (d + 4) Pd Z (nI (2 ^ n)) (lN (if b < v then v else b)) (nI (s + 1))
        refine kk _ ?_
        by_cases c : b < v
        · rw [if_pos c]
          refine ⟨v8, fun set hset w hw => ?_, s, hs, ho⟩
          by_cases c2 : set = s
          · subst c2; have := uniq w hw; cases this; exact Nat.le_refl _
          · have := b1 set (by omega) w hw; omega
        · rw [if_neg c]
          refine ⟨b8, fun set hset w hw => ?_, b2⟩
          by_cases c2 : set = s
          · subst c2; have := uniq w hw; cases this; omega
          · exact b1 set (by omega) w hw
    · have : set = 0 := by omega
      subst this
      obtain ⟨r, r1, r2⟩ := hw.2 w rfl
      obtain ⟨w', e3, e4⟩ := (IsM.zero (m := n) (ok := jOk B M) (g := gX (jAg M)) (t := nTh M)).1 r r1
      cases e3
      omega
  refine up_s (W := nTh M) (T := fun k Z => T_Mus_match_26 E q (d + 4) Pd Z (nI (2 ^ n)) (nI k)) (J := fun k Z => keptX X Z ∧ ChX B M n Z ∧ ∀ set, set < 2 ^ n → ∃ o, xa_Mus_best Z set = encL o ∧ IsM n (jOk B M) (gX (jAg M)) k set o) ?_ ?_ 0 _ (by omega) ⟨hk.xL _, hC, fun set hs => ?_⟩
  · rintro Z ⟨hk, hC, hZ⟩
    exact sg_Mus_match_26 ⟨fun _ => last Z hk hC hZ, fun z => absurd (by rw [show xs_Mus_things Z = s_things M from (hk.s rfl).trans h.2.1.1.1, en]; exact Int32.le_refl _) z⟩
  · rintro k Z hkT ⟨hk, hC, hZ⟩ kk
    refine sg_Mus_match_26 ⟨fun z => absurd z (by rw [show xs_Mus_things Z = s_things M from (hk.s rfl).trans h.2.1.1.1, en]; exact nI_ge hkT (by omega)), fun _ => ?_⟩
    refine mBx (ct_Mus_offer hE h hk hn hkT hH hC) (fun r Z1 hh => ?_)
    obtain ⟨rfl, gn, rfl, hgn⟩ := hh
    have hk1 : keptX X (xL Z 72 gn) := hk.xL gn
    refine ⟨fun z => ?_, fun z => ?_⟩
    · rw [nI_s]
      refine kk _ ⟨hk1, hC, fun set hs => ?_⟩
      obtain ⟨o, e1, ho⟩ := hZ set hs
      exact ⟨o, e1, ho.no (fun p hp y => dcd_f.mp z ⟨p, hp, y⟩)⟩
    · -- the sets, from above
      have sets : ∀ s, s < 2 ^ n → ∀ Z, keptX X Z → ChX B M n Z → gainP B M n k (xa_Mus_gain Z) → (∀ set, set < 2 ^ n → ∃ o, xa_Mus_best Z set = encL o ∧ IsM n (jOk B M) (gX (jAg M)) (if s < set then k + 1 else k) set o) → T_Mus_match_46 E q (d + 4) Pd Z (nI (2 ^ n)) (nI k) (nI s) := by
        intro s
        induction s with
        | zero =>
          intro _ Z hk hC hg hZ
          refine sg_Mus_match_46 ⟨fun _ => ?_, fun z => absurd (by decide) z⟩
          rw [nI_s]
          refine kk Z ⟨hk, hC, fun set hs => ?_⟩
          obtain ⟨o, e1, ho⟩ := hZ set hs
          by_cases c : 0 < set
          · rw [if_pos c] at ho; exact ⟨o, e1, ho⟩
          · have : set = 0 := by omega
            subst this
            rw [if_neg c] at ho
            obtain ⟨w, e2, -⟩ := ho.1 _ (Classical.choose_spec ((IsM.zero (m := n) (ok := jOk B M) (g := gX (jAg M)) (t := k)).2 0 rfl)).1
            have : w = 0 := by
              obtain ⟨r, r1, r2⟩ := ho.2 w e2
              obtain ⟨w', e3, e4⟩ := (IsM.zero (m := n) (ok := jOk B M) (g := gX (jAg M)) (t := k)).1 r r1
              cases e3; omega
            subst this
            rw [e2] at e1
            exact ⟨some 0, e1, IsM.zero⟩
        | succ s ih =>
          intro hs Z hk hC hg hZ
          refine sg_Mus_match_46 ⟨fun z => absurd z (nI_nle (by omega) (by omega)), fun _ => ⟨bnd (n := 256) (by omega) (by omega) rfl, ?_⟩⟩
          have below : ∀ f, f < n → (s + 1).testBit f = true → ∃ o, xa_Mus_best Z ((s + 1) ^^^ 2 ^ f) = encL o ∧ IsM n (jOk B M) (gX (jAg M)) k ((s + 1) ^^^ 2 ^ f) o := by
            intro f hf hb
            have x8 : (s + 1) ^^^ 2 ^ f < 2 ^ n := Nat.xor_lt_two_pow hs (Nat.pow_lt_pow_right (by omega) hf)
            have xle : (s + 1) ^^^ 2 ^ f ≤ s + 1 := by
              have e1 : ((s + 1) ^^^ 2 ^ f) &&& (s + 1) = (s + 1) ^^^ 2 ^ f := by
                apply Nat.eq_of_testBit_eq
                intro j
                rw [Nat.testBit_and, tb_x]
                by_cases cj : j = f
                · subst cj; rw [if_pos rfl, hb]; rfl
                · rw [if_neg cj, Bool.and_self]
              have := Nat.and_le_right (n := (s + 1) ^^^ 2 ^ f) (m := s + 1)
              omega
            obtain ⟨o, e1, ho⟩ := hZ _ x8
            rw [if_neg (by omega)] at ho
            exact ⟨o, e1, ho⟩
          refine mJx (ct_Mus_bestWithLast hn (by omega) hs hC.1 hg below) (fun r Z1 hh => ?_)
          obtain ⟨c, rfl, hc, rfl⟩ := hh
          obtain ⟨o, e1, ho⟩ := hZ (s + 1) hs
          rw [if_neg (Nat.lt_irrefl _)] at ho
          have oL : ∀ w, o = some w → w < 2 ^ 62 := fun w e => by subst e; have := wl ho; omega
          have cL : ∀ w, c = some w → w < 2 ^ 62 := fun w e => by subst e; have := q62 hn (hc.le gl); omega
          rw [ixn (show s + 1 < 2 ^ 31 by omega), e1, jMaxl_e oL cL, nI_p]
          refine ih (by omega) _ (hk.xL _) hC hg (fun set hset => ?_)
          show ∃ o', vp_updL (xa_Mus_best Z1) (s + 1) (encL (omx o c)) set = encL o' ∧ _
          by_cases e : set = s + 1
          · rw [e, updL_eq, if_pos (Nat.lt_succ_self s)]
            exact ⟨_, rfl, hc.fin ho⟩
          · rw [updL_ne e]
            obtain ⟨o2, e2, ho2⟩ := hZ set hset
            refine ⟨o2, e2, ?_⟩
            by_cases c2 : s + 1 < set
            · rw [if_pos c2] at ho2; rw [if_pos (by omega)]; exact ho2
            · rw [if_neg c2] at ho2; rw [if_neg (by omega)]; exact ho2
      have := sets (2 ^ n - 1) (by omega) (xL Z 72 gn) hk1 hC hgn (fun set hs => by rw [if_neg (by omega)]; exact hZ set hs)
      rw [show nI (2 ^ n - 1) = nI (2 ^ n) - 1 by rw [show 2 ^ n = (2 ^ n - 1) + 1 by omega, nI_p']; rfl] at this
      exact this
  · show ∃ o, vp_updL (fillL 256 (-1) (xa_Mus_best Y)) (ix 0) 0 set = encL o ∧ _
    by_cases c : set = 0
    · subst c
      exact ⟨some 0, rfl, IsM.zero⟩
    · rw [updL_ne (show set ≠ ix 0 from c), fillL, if_pos (by omega)]
      exact ⟨none, rfl, IsM.none0 c hs⟩
def joiX (B : BkT) (X : StX) (M : StM) (n : Nat) (r : Int32) (X1 : StX) : Prop := (¬ Hears M n → r = -2 ∧ keptX (xI X 181 0) X1) ∧ (Hears M n → ∃ a, JoinX B M n a ∧ r = nI (cM a n) ∧ ∃ Z rw, keptX (xI X 181 0) Z ∧ X1 = xA (xI Z 70 (nI n)) 71 rw ∧ ∀ p, p < n → rw p = nI (a p))
theorem ct_City_join {E : EvT} {q : Nat → Nat} {d : Nat} {B : BkT} {X : StX} {M : StM} (hE : EOk E q) (hT : RTp X M) (h : MH B X M) {x : Int32} : C_City_join E q (d + 8) x X (fun r X1 => (¬ joiOk M x → r = -1 ∧ X1 = X) ∧ (joiOk M x → joiX B X M (ix x) r X1)) := by
  have bad : ¬ joiOk M x → (¬ joiOk M x → (-1 : Int32) = -1 ∧ X = X) ∧ (joiOk M x → joiX B X M (ix x) (-1) X) := fun z => ⟨fun _ => ⟨rfl, rfl⟩, fun y => absurd y z⟩
  refine en_City_join ?_
  rw [hT.1.1]
  refine ⟨fun e => bad (fun z => by rw [z.1] at e; cases e), fun e1 => ⟨fun e2 => en_Tape_clear ?_, fun e2 => bad (fun z => e2 z.2)⟩⟩
  have ok : joiOk M x := ⟨e1, e2⟩
  obtain ⟨n, n8, rfl⟩ : ∃ n, n ≤ 8 ∧ x = nI n := by
    rw [mIn, decide_eq_true_eq] at e1
    exact ⟨ix x, ix_le (n := 8) e1.1 e1.2 (by omega), (nix e1.1).symm⟩
  have fin : ∀ r N, joiX B X M n r N → (¬ joiOk M (nI n) → r = -1 ∧ N = X) ∧ (joiOk M (nI n) → joiX B X M (ix (nI n)) r N) := fun r N hj => ⟨fun z => absurd ok z, fun _ => by rw [ixn (by omega)]; exact hj⟩
  have hz : MH B (xI X 181 0) M := h
  refine mBx (ct_Mus_choose hz hT.1.2 (by omega)) (fun r Y hh => ?_)
  obtain ⟨er, hk, hC⟩ := hh
  subst er
  refine ⟨fun hr => fin _ _ ⟨fun _ => ⟨rfl, hk⟩, fun y => absurd y (dcd_f.mp hr)⟩, fun hr => ?_⟩
  have hH : Hears M n := dcd_t.mp hr
  refine mIx (ct_Mus_match hE hz hk n8 hH (hC hH)) (fun r Z hh => fin _ _ ⟨fun y => absurd hH y, fun _ => hh⟩)
/-- both sides' joins are one -/
theorem join_one {B : BkT} {M : StM} {n : Nat} (hn : n ≤ 8) (ht : nTh M ≤ 60) {a b : Nat → Nat} (ha : JoinR B M n a) (hb : JoinX B M n b) : (∀ p, p < n → b p = a p) ∧ cM b n = cM a n := by
  have := rows_one hn ht (jAg_8 M) ha.1 ha.2.1 ha.2.2 hb.1 hb.2
  exact ⟨this, sumW_c this⟩
