/-! dig -/
def digOk (M : StM) (h k a b t u f g : Int32) : Prop := mIn h 0 7 = true ∧ mIn k 0 2 = true ∧ mRect M a b = true ∧ (0 ≤ t ∧ t ≤ u ∧ u ≤ 7) ∧ (k = 0 → t = 0) ∧ (0 ≤ f ∧ f ≤ g ∧ g ≤ s_now M) ∧ ¬ s_digs M = 100
def mAddDg (M : StM) (h k a b t u f g : Int32) : StM := sI (sA (sA (sA (sA (sA (sA (sA (sA (sA (sA M 10 (upd (a_digHand M) (ix (s_digs M)) h)) 11 (upd (a_digKind M) (ix (s_digs M)) k)) 12 (upd (a_digA M) (ix (s_digs M)) a)) 13 (upd (a_digB M) (ix (s_digs M)) b)) 14 (upd (a_digTop M) (ix (s_digs M)) t)) 15 (upd (a_digBottom M) (ix (s_digs M)) u)) 16 (upd (a_digFrom M) (ix (s_digs M)) f)) 17 (upd (a_digTo M) (ix (s_digs M)) g)) 18 (upd (a_digTold M) (ix (s_digs M)) (s_now M))) 19 (upd (a_digStruck M) (ix (s_digs M)) (-1))) 4 (s_digs M + 1)
theorem ct_dig {E : EvT} {q : Nat → Nat} {d : Nat} {X : StX} {M : StM} (hB : RB X M) (hD : RDg X M) {h k a b t u f g : Int32} (P : Int32 → StM → Prop) (h1 : ¬ digOk M h k a b t u f g → P (-1) M) (h2 : digOk M h k a b t u f g → P (s_digs M) (mAddDg M h k a b t u f g)) : C_dig E q (d + 2) h k a b t u f g M P := by
  have wne := hB.wne
  have n0 := hD.2.1.1
  have n1 := hD.2.1.2
  have b6 := hB.2.2.2.2.2.1
  have fin : digOk M h k a b t u f g → (0 ≤ s_digs M ∧ s_digs M < 100) ∧ P (s_digs M + 1 - 1) (mAddDg M h k a b t u f g) := by
    intro ok
    have := h2 ok
    refine ⟨⟨n0, by have := ok.2.2.2.2.2.2; grind⟩, ?_⟩
    rw [show s_digs M + 1 - 1 = s_digs M by grind]
    exact this
  refine en_dig ⟨fun e => h1 (fun z => by rw [z.1] at e; cases e), fun e1 => ⟨fun e => h1 (fun z => by rw [z.2.1] at e; cases e), fun e2 => ⟨wne, fun e => h1 (fun z => by rw [z.2.2.1] at e; cases e), fun e3 => ⟨fun e => h1 (fun z => by have := z.2.2.2.1; grind [mLayer]), fun e4 => ⟨fun e => h1 (fun z => by have := z.2.2.2.1; grind [mIn]), fun e5 => ⟨fun e6 => ⟨fun e => h1 (fun z => by have := z.2.2.2.2.2.1; grind [mIn]), fun e7 => ⟨fun e => h1 (fun z => by have := z.2.2.2.2.2.1; grind [mIn]), fun e8 => ⟨fun e9 => fin ⟨e1, e2, e3, by grind [mLayer, mIn], fun z => absurd z e6, by grind [mIn], e9⟩, fun e => h1 (fun z => z.2.2.2.2.2.2 e)⟩⟩⟩, fun e6 => ⟨fun e => h1 (fun z => e (z.2.2.2.2.1 e6)), fun e6' => ⟨fun e => h1 (fun z => by have := z.2.2.2.2.2.1; grind [mIn]), fun e7 => ⟨fun e => h1 (fun z => by have := z.2.2.2.2.2.1; grind [mIn]), fun e8 => ⟨fun e9 => fin ⟨e1, e2, e3, by grind [mLayer, mIn], fun _ => e6', by grind [mIn], e9⟩, fun e => h1 (fun z => z.2.2.2.2.2.2 e)⟩⟩⟩⟩⟩⟩⟩⟩⟩⟩
/-! the class's dig: the order by insertion -/
def shF (ord : Nat → Int32) (n m : Nat) : Nat → Int32 := fun k => if m < k ∧ k ≤ n then ord (k - 1) else ord k
theorem shF_n (ord : Nat → Int32) (n : Nat) : shF ord n n = ord := by
  funext k
  rw [shF, if_neg (by omega)]
theorem shF_s {ord : Nat → Int32} {n m : Nat} (hm : m + 1 ≤ n) : upd (shF ord n (m + 1)) (m + 1) (shF ord n (m + 1) m) = shF ord n m := by
  funext k
  by_cases e : k = m + 1
  · subst e
    rw [upd_eq, shF, if_neg (by omega), shF, if_pos (by omega)]
    rfl
  · rw [upd_ne e, shF, shF]
    by_cases z : m + 1 < k ∧ k ≤ n
    · rw [if_pos z, if_pos (by omega)]
    · rw [if_neg z, if_neg (by omega)]
def insF (ord : Nat → Int32) (n m : Nat) : Nat → Int32 := upd (shF ord n m) m (nI n)
theorem insF_lt {ord : Nat → Int32} {n m k : Nat} (h : k < m) : insF ord n m k = ord k := by rw [insF, upd_ne (by omega), shF, if_neg (by omega)]
theorem insF_eq {ord : Nat → Int32} {n m : Nat} : insF ord n m m = nI n := upd_eq
theorem insF_gt {ord : Nat → Int32} {n m k : Nat} (h : m < k) (hk : k ≤ n) : insF ord n m k = ord (k - 1) := by rw [insF, upd_ne (by omega), shF, if_pos ⟨h, hk⟩]
theorem OrdOK.ins {ord fr : Nat → Int32} {n m : Nat} {f : Int32} (h : OrdOK ord fr n) (hn : n < 100) (hm : m ≤ n) (h1 : m = 0 ∨ fr (ix (ord (m - 1))) ≤ f) (h2 : ∀ j, m ≤ j → j < n → f < fr (ix (ord j))) : OrdOK (insF ord n m) (upd fr n f) (n + 1) := by
  obtain ⟨a1, a2, a3⟩ := h
  have old : ∀ j, j < n → ix (ord j) < n ∧ upd fr n f (ix (ord j)) = fr (ix (ord j)) := by
    intro j hj
    obtain ⟨i, hi, e⟩ := a1 j hj
    have : ix (ord j) < n := by rw [e, ixn (by omega)]; exact hi
    exact ⟨this, upd_ne (by omega)⟩
  have hnn : ix (nI n) = n := ixn (by omega)
  refine ⟨fun j hj => ?_, fun i hi => ?_, fun j k hjk hk => ?_⟩
  · rcases Nat.lt_trichotomy j m with z | z | z
    · rw [insF_lt z]
      obtain ⟨i, hi, e⟩ := a1 j (by omega)
      exact ⟨i, by omega, e⟩
    · subst z
      exact ⟨n, by omega, insF_eq⟩
    · rw [insF_gt z (by omega)]
      obtain ⟨i, hi, e⟩ := a1 (j - 1) (by omega)
      exact ⟨i, by omega, e⟩
  · by_cases z : i = n
    · subst z
      exact ⟨m, by omega, insF_eq⟩
    · obtain ⟨j, hj, e⟩ := a2 i (by omega)
      rcases Nat.lt_or_ge j m with y | y
      · exact ⟨j, by omega, by rw [insF_lt y]; exact e⟩
      · exact ⟨j + 1, by omega, by rw [insF_gt (by omega) (by omega)]; exact e⟩
  · rcases Nat.lt_trichotomy j m with y | y | y
    · rw [insF_lt y]
      obtain ⟨o1, o2⟩ := old j (by omega)
      rcases Nat.lt_trichotomy k m with z | z | z
      · rw [insF_lt z]
        obtain ⟨p1, p2⟩ := old k (by omega)
        rw [o2, p2]
        exact a3 j k hjk (by omega)
      · subst z
        rw [insF_eq, o2, hnn, upd_eq]
        rcases h1 with h1 | h1
        · omega
        · have hle : fr (ix (ord j)) ≤ f := by
            by_cases e : j = k - 1
            · subst e; exact h1
            · rcases a3 j (k - 1) (by omega) (by omega) with r | r
              · exact Int32.le_trans (Int32.le_of_lt r) h1
              · rw [r.1]; exact h1
          by_cases e : fr (ix (ord j)) = f
          · exact Or.inr ⟨e, o1⟩
          · exact Or.inl (by grind)
      · rw [insF_gt z (by omega)]
        obtain ⟨p1, p2⟩ := old (k - 1) (by omega)
        rw [o2, p2]
        exact a3 j (k - 1) (by omega) (by omega)
    · subst y
      rw [insF_eq, hnn, upd_eq, insF_gt hjk (by omega)]
      obtain ⟨p1, p2⟩ := old (k - 1) (by omega)
      rw [p2]
      exact Or.inl (h2 (k - 1) (by omega) (by omega))
    · rw [insF_gt y (by omega), insF_gt (by omega) (by omega)]
      obtain ⟨o1, o2⟩ := old (j - 1) (by omega)
      obtain ⟨p1, p2⟩ := old (k - 1) (by omega)
      rw [o2, p2]
      exact a3 (j - 1) (k - 1) (by omega) (by omega)
theorem lp_finish {E : EvT} {q : Nat → Nat} {d : Nat} {Y : StX} {ord fr : Nat → Int32} {n : Nat} {f : Int32} {P : Int32 → StX → Prop} (hO : OrdOK ord fr n) (hn : n < 100) (hs : xs_Digs_size Y = nI n) (hf : ∀ i, i < n → xa_Digs_from Y i = fr i)
    (h : ∀ m, m ≤ n → (m = 0 ∨ fr (ix (ord (m - 1))) ≤ f) → (∀ j, m ≤ j → j < n → f < fr (ix (ord j))) → P (nI n) (xI (xA Y 33 (insF ord n m)) 21 (nI n + 1))) :
    ∀ m, m ≤ n → (∀ j, m ≤ j → j < n → f < fr (ix (ord j))) → T_Digs_finish_48 E q d P (xA Y 33 (shF ord n m)) f (nI m) := by
  have fin : ∀ m, m ≤ n → (m = 0 ∨ fr (ix (ord (m - 1))) ≤ f) → (∀ j, m ≤ j → j < n → f < fr (ix (ord j))) → (0 ≤ nI m ∧ nI m < 100) ∧ P (xs_Digs_size (xA Y 33 (shF ord n m)) + 1 - 1) (xI (xA (xA Y 33 (shF ord n m)) 33 (upd (xa_Digs_order (xA Y 33 (shF ord n m))) (ix (nI m)) (xs_Digs_size (xA Y 33 (shF ord n m))))) 21 (xs_Digs_size (xA Y 33 (shF ord n m)) + 1)) := by
    intro m hm h1 h2
    refine ⟨bnd (n := 100) (by omega) (by omega) rfl, ?_⟩
    have := h m hm h1 h2
    show P (xs_Digs_size Y + 1 - 1) (xI (xA (xA Y 33 (shF ord n m)) 33 (upd (shF ord n m) (ix (nI m)) (xs_Digs_size Y))) 21 (xs_Digs_size Y + 1))
    rw [hs, nI_s, nI_p', ixn (by omega), ← nI_s]
    have e : xA (xA Y 33 (shF ord n m)) 33 (upd (shF ord n m) m (nI n)) = xA Y 33 (insF ord n m) := by
      simp only [xA, insF]
      congr 2
      funext j
      simp only [va_up]
      split <;> rfl
    rw [e]
    exact this
  intro m
  induction m with
  | zero =>
    intro hm h2
    exact sg_Digs_finish_48 ⟨fun _ => fin 0 hm (Or.inl rfl) h2, fun z => absurd (by decide) z⟩
  | succ m ih =>
    intro hm h2
    obtain ⟨i, hi, e⟩ := hO.1 m (by omega)
    have eo : xa_Digs_order (xA Y 33 (shF ord n (m + 1))) m = nI i := by
      show shF ord n (m + 1) m = nI i
      rw [shF, if_neg (by omega)]
      exact e
    refine sg_Digs_finish_48 ⟨fun z => absurd z (nI_nle (by omega) (by omega)), fun _ => ?_⟩
    rw [nI_p', ixn (by omega), eo, ixn (show i < 2 ^ 31 by omega), ixn (show m + 1 < 2 ^ 31 by omega), nI_p]
    refine ⟨bnd (n := 100) (by omega) (by omega) rfl, bnd (n := 100) (by omega) (by omega) rfl, ?_⟩
    rw [show xa_Digs_from (xA Y 33 (shF ord n (m + 1))) i = fr i from hf i hi]
    have ei : ix (ord m) = i := by rw [e, ixn (by omega)]
    refine ⟨fun z => ?_, fun z => ⟨bnd (n := 100) (by omega) (by omega) rfl, ?_⟩⟩
    · have := fin (m + 1) hm (Or.inr (by rw [Nat.add_sub_cancel, ei]; exact z)) h2
      rw [ixn (show m + 1 < 2 ^ 31 by omega)] at this
      exact this
    · have h3 : ∀ j, m ≤ j → j < n → f < fr (ix (ord j)) := by
        intro j hj1 hj2
        by_cases y : j = m
        · subst y; rw [ei]; exact Int32.not_le.mp z
        · exact h2 j (by omega) hj2
      have := ih (by omega) h3
      have ee : xA (xA Y 33 (shF ord n (m + 1))) 33 (upd (xa_Digs_order (xA Y 33 (shF ord n (m + 1)))) (m + 1) (nI i)) = xA Y 33 (shF ord n m) := by
        have : upd (shF ord n (m + 1)) (m + 1) (nI i) = shF ord n m := by
          rw [← shF_s (ord := ord) hm, show shF ord n (m + 1) m = nI i from eo]
        show xA (xA Y 33 (shF ord n (m + 1))) 33 (upd (shF ord n (m + 1)) (m + 1) (nI i)) = _
        rw [this]
        simp only [xA]
        congr 2
        funext j
        simp only [va_up]
        split <;> rfl
      rw [ee]
      exact this
def xAddDg (X : StX) (M : StM) (m : Nat) (h k a b t u f g : Int32) : StX := xI (xA (xA (xA (xA (xA (xA (xA (xA (xA (xA (xA (xA X 22 (upd (xa_Digs_hand X) (nD M) h)) 23 (upd (xa_Digs_kind X) (nD M) k)) 24 (upd (xa_Digs_upperLeft X) (nD M) a)) 25 (upd (xa_Digs_lowerRight X) (nD M) b)) 32 (upd (xa_Digs_touched X) (nD M) (bitsP (meetsP M a b) (nP M)))) 26 (upd (xa_Digs_top X) (nD M) t)) 27 (upd (xa_Digs_bottom X) (nD M) u)) 28 (upd (xa_Digs_from X) (nD M) f)) 29 (upd (xa_Digs_to X) (nD M) g)) 30 (upd (xa_Digs_told X) (nD M) (s_now M))) 31 (upd (xa_Digs_struck X) (nD M) 10000)) 33 (insF (xa_Digs_order X) (nD M) m)) 21 (nI (nD M) + 1)
def insAt (X : StX) (M : StM) (f : Int32) (m : Nat) : Prop := m ≤ nD M ∧ (m = 0 ∨ a_digFrom M (oX X (m - 1)) ≤ f) ∧ ∀ j, m ≤ j → j < nD M → f < a_digFrom M (oX X j)
theorem ct_City_dig {E : EvT} {q : Nat → Nat} {d : Nat} {X : StX} {M : StM} (hB : RB X M) (hP : RPl X M) (hD : RDg X M) {h k a b t u f g : Int32} (P : Int32 → StX → Prop) (h1 : ¬ digOk M h k a b t u f g → P (-1) X) (h2 : digOk M h k a b t u f g → ∀ m, insAt X M f m → P (s_digs M) (xAddDg X M m h k a b t u f g)) : C_City_dig E q (d + 4) h k a b t u f g X P := by
  obtain ⟨en, n100⟩ := hD.n
  have n0 := hD.2.1.1
  have n1 := hD.2.1.2
  have ex : xs_Digs_size X = nI (nD M) := hD.1.1.trans en
  have fin : digOk M h k a b t u f g → C_Digs_begin E q (d + 3) h k a b X (fun S9 => C_Digs_reach E q (d + 3) t u S9 (fun S11 => C_Digs_finish E q (d + 3) f g (xs_City_today S11) S11 (fun r12 S13 => P r12 S13))) := by
    intro ok
    have hlt : nD M < 100 := by
      rcases Nat.lt_or_ge (nD M) 100 with z | z
      · exact z
      · exact absurd (by rw [en, show nD M = 100 by omega]; rfl) ok.2.2.2.2.2.2
    have bn : (0 : Int32) ≤ nI (nD M) ∧ nI (nD M) < 100 := bnd (n := 100) (by omega) (by omega) rfl
    refine en_Digs_begin ?_
    rw [ex, ixn (by omega)]
    have hB1 : RB (xA (xA (xA (xA X 22 (upd (xa_Digs_hand X) (nD M) h)) 23 (upd (xa_Digs_kind X) (nD M) k)) 24 (upd (xa_Digs_upperLeft X) (nD M) a)) 25 (upd (xa_Digs_lowerRight X) (nD M) b)) M := hB
    have hP1 : RPl (xA (xA (xA (xA X 22 (upd (xa_Digs_hand X) (nD M) h)) 23 (upd (xa_Digs_kind X) (nD M) k)) 24 (upd (xa_Digs_upperLeft X) (nD M) a)) 25 (upd (xa_Digs_lowerRight X) (nD M) b)) M := hP
    refine ⟨bn, mIx (ct_Plan_placesIn hB1 hP1 ok.2.2.1) (fun r X1 hr => ?_)⟩
    obtain ⟨rfl, rfl⟩ := hr
    refine en_Digs_reach ?_
    have xA1 : ∀ (Z : StX) (k : Nat) (a : Nat → Int32), (xA Z k a).1 = Z.1 := fun _ _ _ => rfl
    simp only [xs_Digs_size, xA1, show X.1 21 = nI (nD M) from ex, ixn (show nD M < 2 ^ 31 by omega)]
    refine ⟨bn, en_Digs_finish ?_⟩
    simp only [xs_Digs_size, xA1, show X.1 21 = nI (nD M) from ex, ixn (show nD M < 2 ^ 31 by omega)]
    refine ⟨bn, ?_⟩
    obtain ⟨Y, hY⟩ : ∃ Y, Y = xA (xA (xA (xA (xA (xA (xA (xA (xA (xA (xA X 22 (upd (xa_Digs_hand X) (nD M) h)) 23 (upd (xa_Digs_kind X) (nD M) k)) 24 (upd (xa_Digs_upperLeft X) (nD M) a)) 25 (upd (xa_Digs_lowerRight X) (nD M) b)) 32 (upd (xa_Digs_touched X) (nD M) (bitsP (meetsP M a b) (nP M)))) 26 (upd (xa_Digs_top X) (nD M) t)) 27 (upd (xa_Digs_bottom X) (nD M) u)) 28 (upd (xa_Digs_from X) (nD M) f)) 29 (upd (xa_Digs_to X) (nD M) g)) 30 (upd (xa_Digs_told X) (nD M) (xs_City_today X))) 31 (upd (xa_Digs_struck X) (nD M) 10000) := ⟨_, rfl⟩
    have key := lp_finish (E := E) (q := q) (d := d + 3) (P := P) (f := f) (n := nD M) (ord := xa_Digs_order X) (fr := a_digFrom M) (Y := Y) hD.2.2.2 hlt (by rw [hY]; exact ex) (fun i hi => by
        rw [hY]
        show upd (xa_Digs_from X) (nD M) f i = _
        rw [upd_ne (by omega), hD.1.2.2.2.2.2.2.2.1]) (fun m hm g1 g2 => by
        have := h2 ok m ⟨hm, g1, g2⟩
        rw [en] at this
        rw [hY, show xs_City_today X = s_now M from hB.2.2.1]
        exact this) (nD M) (Nat.le_refl _) (fun j h1 h2 => absurd h2 (by omega))
    have hself : xA Y 33 (xa_Digs_order X) = Y := by
      have := xA_self Y 33
      rw [show Y.2.1 33 = xa_Digs_order X by rw [hY]; rfl] at this
      exact this
    rw [shF_n, hself, hY] at key
    exact key
  refine en_City_dig ?_
  rw [pArea_eq hB, hB.2.2.1, hD.1.1]
  have hn : ¬ s_digs M = 100 ↔ s_digs M < 100 := by grind
  refine ⟨fun e => h1 (fun z => by rw [z.1] at e; cases e), fun e1 => ⟨fun e => h1 (fun z => by rw [z.2.1] at e; cases e), fun e2 => ⟨fun e3 => ⟨fun e => h1 (fun z => by have := z.2.2.2.1; simp [pSpan, this] at e), fun e4 => ⟨fun e5 => ⟨fun e => h1 (fun z => by have := z.2.2.2.2.2.1; simp [pSpan, this] at e), fun e6 => ⟨fun e7 => fin ⟨e1, e2, e3, by simpa [pSpan] using e4, fun z => absurd z e5, by simpa [pSpan] using e6, hn.mpr e7⟩, fun e7 => h1 (fun z => e7 (hn.mp z.2.2.2.2.2.2))⟩⟩, fun e5 => ⟨fun e5' => ⟨fun e => h1 (fun z => by have := z.2.2.2.2.2.1; simp [pSpan, this] at e), fun e6 => ⟨fun e7 => fin ⟨e1, e2, e3, by simpa [pSpan] using e4, fun _ => e5', by simpa [pSpan] using e6, hn.mpr e7⟩, fun e7 => h1 (fun z => e7 (hn.mp z.2.2.2.2.2.2))⟩⟩, fun e5' => h1 (fun z => e5' (z.2.2.2.2.1 e5))⟩⟩⟩, fun e => h1 (fun z => by rw [z.2.2.1] at e; cases e)⟩⟩⟩
