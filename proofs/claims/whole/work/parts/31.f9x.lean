/-! the class's draw: looks in order by insertion -/
def insG (ord : Nat → Int32) (n m : Nat) (v : Int32) : Nat → Int32 := upd (shF ord n m) m v
theorem insG_lt {ord : Nat → Int32} {n m k : Nat} {v : Int32} (h : k < m) : insG ord n m v k = ord k := by rw [insG, upd_ne (by omega), shF, if_neg (by omega)]
theorem insG_eq {ord : Nat → Int32} {n m : Nat} {v : Int32} : insG ord n m v m = v := upd_eq
theorem insG_gt {ord : Nat → Int32} {n m k : Nat} {v : Int32} (h : m < k) (hk : k ≤ n) : insG ord n m v k = ord (k - 1) := by rw [insG, upd_ne (by omega), shF, if_pos ⟨h, hk⟩]
theorem LkOK.ins {ord wk cp : Nat → Int32} {n m p : Nat} {f c : Int32} (h : LkOK ord wk cp n m) (hm : m < 100) (hn : n ≤ m) (hp : p ≤ n) (hc : c = 0) (h1 : p = 0 ∨ wk (ix (ord (p - 1))) ≤ f) (h2 : ∀ j, p ≤ j → j < n → f < wk (ix (ord j))) : LkOK (insG ord n p (nI m)) (upd wk m f) (upd cp m c) (n + 1) (m + 1) := by
  obtain ⟨a1, a2, a3⟩ := h
  have old : ∀ j, j < n → ix (ord j) < m ∧ upd wk m f (ix (ord j)) = wk (ix (ord j)) := by
    intro j hj
    obtain ⟨i, hi, -, e⟩ := a1 j hj
    have : ix (ord j) < m := by rw [e, ixn (by omega)]; exact hi
    exact ⟨this, upd_ne (by omega)⟩
  have hnn : ix (nI m) = m := ixn (by omega)
  refine ⟨fun j hj => ?_, fun i hi hci => ?_, fun j k hjk hk => ?_⟩
  · rcases Nat.lt_trichotomy j p with z | z | z
    · rw [insG_lt z]
      obtain ⟨i, hi, e0, e⟩ := a1 j (by omega)
      exact ⟨i, by omega, by rw [upd_ne (by omega)]; exact e0, e⟩
    · subst z
      exact ⟨m, by omega, by rw [upd_eq]; exact hc, insG_eq⟩
    · rw [insG_gt z (by omega)]
      obtain ⟨i, hi, e0, e⟩ := a1 (j - 1) (by omega)
      exact ⟨i, by omega, by rw [upd_ne (by omega)]; exact e0, e⟩
  · by_cases z : i = m
    · subst z
      exact ⟨p, by omega, insG_eq⟩
    · rw [upd_ne z] at hci
      obtain ⟨j, hj, e⟩ := a2 i (by omega) hci
      rcases Nat.lt_or_ge j p with y | y
      · exact ⟨j, by omega, by rw [insG_lt y]; exact e⟩
      · exact ⟨j + 1, by omega, by rw [insG_gt (by omega) (by omega)]; exact e⟩
  · rcases Nat.lt_trichotomy j p with y | y | y
    · rw [insG_lt y]
      obtain ⟨o1, o2⟩ := old j (by omega)
      rcases Nat.lt_trichotomy k p with z | z | z
      · rw [insG_lt z]
        obtain ⟨p1, p2⟩ := old k (by omega)
        rw [o2, p2]
        exact a3 j k hjk (by omega)
      · subst z
        rw [insG_eq, o2, hnn, upd_eq]
        rcases h1 with h1 | h1
        · omega
        · have hle : wk (ix (ord j)) ≤ f := by
            by_cases e : j = k - 1
            · subst e; exact h1
            · rcases a3 j (k - 1) (by omega) (by omega) with r | r
              · exact Int32.le_trans (Int32.le_of_lt r) h1
              · rw [r.1]; exact h1
          by_cases e : wk (ix (ord j)) = f
          · exact Or.inr ⟨e, o1⟩
          · exact Or.inl (by grind)
      · rw [insG_gt z (by omega)]
        obtain ⟨p1, p2⟩ := old (k - 1) (by omega)
        rw [o2, p2]
        exact a3 j (k - 1) (by omega) (by omega)
    · subst y
      rw [insG_eq, hnn, upd_eq, insG_gt hjk (by omega)]
      obtain ⟨p1, p2⟩ := old (k - 1) (by omega)
      rw [p2]
      exact Or.inl (h2 (k - 1) (by omega) (by omega))
    · rw [insG_gt y (by omega), insG_gt (by omega) (by omega)]
      obtain ⟨o1, o2⟩ := old (j - 1) (by omega)
      obtain ⟨p1, p2⟩ := old (k - 1) (by omega)
      rw [o2, p2]
      exact a3 (j - 1) (k - 1) (by omega) (by omega)
theorem LkOK.copy {ord wk cp : Nat → Int32} {n m : Nat} {f c : Int32} (h : LkOK ord wk cp n m) (hm : m < 100) (hc : ¬ c = 0) : LkOK ord (upd wk m f) (upd cp m c) n (m + 1) := by
  obtain ⟨a1, a2, a3⟩ := h
  have old : ∀ j, j < n → upd wk m f (ix (ord j)) = wk (ix (ord j)) := by
    intro j hj
    obtain ⟨i, hi, -, e⟩ := a1 j hj
    have : ix (ord j) < m := by rw [e, ixn (by omega)]; exact hi
    exact upd_ne (by omega)
  refine ⟨fun j hj => ?_, fun i hi hci => ?_, fun j k hjk hk => ?_⟩
  · obtain ⟨i, hi, e0, e⟩ := a1 j hj
    exact ⟨i, by omega, by rw [upd_ne (by omega)]; exact e0, e⟩
  · by_cases z : i = m
    · subst z
      rw [upd_eq] at hci
      exact absurd hci hc
    · rw [upd_ne z] at hci
      exact a2 i (by omega) hci
  · rw [old j (by omega), old k hk]
    exact a3 j k hjk hk
theorem lp_look {E : EvT} {q : Nat → Nat} {d : Nat} {Y : StX} {ord wk cp : Nat → Int32} {n m : Nat} {f : Int32} {P : Int32 → StX → Prop} (hO : LkOK ord wk cp n m) (hm : m < 100) (hnm : n ≤ m) (hs : xs_Wall_looks Y = nI n) (hd : xs_Wall_drawings Y = nI m) (hf : ∀ i, i < m → cp i = 0 → xa_Wall_drawn Y i = wk i)
    (h : ∀ p, p ≤ n → (p = 0 ∨ wk (ix (ord (p - 1))) ≤ f) → (∀ j, p ≤ j → j < n → f < wk (ix (ord j))) → P (nI m) (xI (xI (xA Y 208 (insG ord n p (nI m))) 207 (nI n + 1)) 202 (nI m + 1))) :
    ∀ p, p ≤ n → (∀ j, p ≤ j → j < n → f < wk (ix (ord j))) → T_Wall_look_47 E q (d + 1) P (xA Y 208 (shF ord n p)) f (nI p) := by
  have fin : ∀ p, p ≤ n → (p = 0 ∨ wk (ix (ord (p - 1))) ≤ f) → (∀ j, p ≤ j → j < n → f < wk (ix (ord j))) → (0 ≤ nI p ∧ nI p < 100) ∧ C_Wall_trace E q d (xI (xA (xA Y 208 (shF ord n p)) 208 (upd (xa_Wall_lookOrder (xA Y 208 (shF ord n p))) (ix (nI p)) (xs_Wall_drawings (xA Y 208 (shF ord n p))))) 207 (xs_Wall_looks (xA Y 208 (shF ord n p)) + 1)) (fun r S => P r S) := by
    intro p hp h1 h2
    refine ⟨bnd (n := 100) (by omega) (by omega) rfl, en_Wall_trace ?_⟩
    have := h p hp h1 h2
    show P (xs_Wall_drawings Y + 1 - 1) (xI (xI (xA (xA Y 208 (shF ord n p)) 208 (upd (shF ord n p) (ix (nI p)) (xs_Wall_drawings Y))) 207 (xs_Wall_looks Y + 1)) 202 (xs_Wall_drawings Y + 1))
    rw [hs, hd, nI_s m, nI_p', ixn (by omega), ← nI_s m]
    have e : xA (xA Y 208 (shF ord n p)) 208 (upd (shF ord n p) p (nI m)) = xA Y 208 (insG ord n p (nI m)) := by
      simp only [xA, insG]
      congr 2
      funext j
      simp only [va_up]
      split <;> rfl
    rw [e]
    exact this
  intro p
  induction p with
  | zero =>
    intro hp h2
    exact sg_Wall_look_47 ⟨fun _ => fin 0 hp (Or.inl rfl) h2, fun z => absurd (by decide) z⟩
  | succ p ih =>
    intro hp h2
    obtain ⟨i, hi, e0, e⟩ := hO.1 p (by omega)
    have eo : xa_Wall_lookOrder (xA Y 208 (shF ord n (p + 1))) p = nI i := by
      show shF ord n (p + 1) p = nI i
      rw [shF, if_neg (by omega)]
      exact e
    refine sg_Wall_look_47 ⟨fun z => absurd z (nI_nle (by omega) (by omega)), fun _ => ?_⟩
    rw [nI_p', ixn (by omega), eo, ixn (show i < 2 ^ 31 by omega), ixn (show p + 1 < 2 ^ 31 by omega), nI_p]
    refine ⟨bnd (n := 100) (by omega) (by omega) rfl, bnd (n := 100) (by omega) (by omega) rfl, ?_⟩
    rw [show xa_Wall_drawn (xA Y 208 (shF ord n (p + 1))) i = wk i from hf i hi e0]
    have ei : ix (ord p) = i := by rw [e, ixn (by omega)]
    refine ⟨fun z => ?_, fun z => ⟨bnd (n := 100) (by omega) (by omega) rfl, ?_⟩⟩
    · have := fin (p + 1) hp (Or.inr (by rw [Nat.add_sub_cancel, ei]; exact z)) h2
      rw [ixn (show p + 1 < 2 ^ 31 by omega)] at this
      exact this
    · have h3 : ∀ j, p ≤ j → j < n → f < wk (ix (ord j)) := by
        intro j hj1 hj2
        by_cases y : j = p
        · subst y; rw [ei]; exact Int32.not_le.mp z
        · exact h2 j (by omega) hj2
      have := ih (by omega) h3
      have ee : xA (xA Y 208 (shF ord n (p + 1))) 208 (upd (xa_Wall_lookOrder (xA Y 208 (shF ord n (p + 1)))) (p + 1) (nI i)) = xA Y 208 (shF ord n p) := by
        have : upd (shF ord n (p + 1)) (p + 1) (nI i) = shF ord n p := by
          rw [← shF_s (ord := ord) hp, show shF ord n (p + 1) p = nI i from eo]
        show xA (xA Y 208 (shF ord n (p + 1))) 208 (upd (shF ord n (p + 1)) (p + 1) (nI i)) = _
        rw [this]
        simp only [xA]
        congr 2
        funext j
        simp only [va_up]
        split <;> rfl
      rw [ee]
      exact this
def xLook (X : StX) (M : StM) (n p : Nat) (w k f : Int32) : StX := xI (xI (xA (xA (xA (xA (xA X 203 (upd (xa_Wall_wallOf X) (nDr M) w)) 204 (upd (xa_Wall_drawn X) (nDr M) k)) 205 (upd (xa_Wall_features X) (nDr M) f)) 206 (upd (xa_Wall_told X) (nDr M) (s_now M))) 208 (insG (xa_Wall_lookOrder X) n p (nI (nDr M)))) 207 (nI n + 1)) 202 (nI (nDr M) + 1)
def lookAt (X : StX) (M : StM) (k : Int32) (n p : Nat) : Prop := (xs_Wall_looks X = nI n ∧ n ≤ nDr M ∧ LkOK (xa_Wall_lookOrder X) (a_drawWeek M) (a_isCopy M) n (nDr M)) ∧ p ≤ n ∧ (p = 0 ∨ a_drawWeek M (ix (xa_Wall_lookOrder X (p - 1))) ≤ k) ∧ ∀ j, p ≤ j → j < n → k < a_drawWeek M (ix (xa_Wall_lookOrder X j))
theorem ct_City_draw {E : EvT} {q : Nat → Nat} {d : Nat} {X : StX} {M : StM} (hB : RB X M) (hW : RWa X M) {w k f : Int32} (P : Int32 → StX → Prop) (h1 : ¬ drawOk M w k f → P (-1) X) (h2 : drawOk M w k f → ∀ n p, lookAt X M k n p → P (s_drawings M) (xLook X M n p w k f)) : C_City_draw E q (d + 2) w k f X P := by
  obtain ⟨en, n100⟩ := hW.dr
  have n0 := hW.2.1.2.1
  have c2 := hW.1.2.1
  obtain ⟨n, g1, g2, g3⟩ := hW.2.2.2.2.2
  refine en_City_draw ?_
  rw [pWall_eq hW, c2, hB.2.2.1]
  refine ⟨fun e => h1 (fun z => by rw [z.1] at e; cases e), fun e1 => ⟨fun e => h1 (fun z => by rw [z.2.1] at e; cases e), fun e2 => ⟨fun e3 => ⟨fun e4 => h1 (fun z => z.2.2.2 e4), fun e4 => en_Wall_look ?_⟩, fun e => h1 (fun z => by rw [z.2.2.1] at e; cases e)⟩⟩⟩
  have hlt : nDr M < 100 := by
    rcases Nat.lt_or_ge (nDr M) 100 with z | z
    · exact z
    · exact absurd (by rw [en, show nDr M = 100 by omega]; decide) e4
  rw [c2, en, ixn (by omega), g1]
  refine ⟨bnd (n := 100) hlt (by omega) rfl, ?_⟩
  obtain ⟨Y, hY⟩ : ∃ Y, Y = xA (xA (xA (xA X 203 (upd (xa_Wall_wallOf X) (nDr M) w)) 204 (upd (xa_Wall_drawn X) (nDr M) k)) 205 (upd (xa_Wall_features X) (nDr M) f)) 206 (upd (xa_Wall_told X) (nDr M) (s_now M)) := ⟨_, rfl⟩
  have key := lp_look (E := E) (q := q) (d := d) (P := P) (f := k) (n := n) (m := nDr M) (ord := xa_Wall_lookOrder X) (wk := a_drawWeek M) (cp := a_isCopy M) (Y := Y) g3 hlt g2 (by rw [hY]; exact g1) (by rw [hY]; exact c2.trans en) (fun i hi hc => by
      rw [hY]
      show upd (xa_Wall_drawn X) (nDr M) k i = _
      rw [upd_ne (by omega)]
      exact ((hW.2.2.2.1 i hi).2.2 hc).2.1) (fun p hp a1 a2 => by
      have := h2 ⟨e1, e2, e3, e4⟩ n p ⟨⟨g1, g2, g3⟩, hp, a1, a2⟩
      rw [en] at this
      rw [hY]
      exact this) n (Nat.le_refl _) (fun j h1 h2 => absurd h2 (by omega))
  have hself : xA Y 208 (xa_Wall_lookOrder X) = Y := by
    have := xA_self Y 208
    rw [show Y.2.1 208 = xa_Wall_lookOrder X by rw [hY]; rfl] at this
    exact this
  rw [shF_n, hself, hY] at key
  exact key
theorem RWa.look {X : StX} {M : StM} (hB : RB X M) (hW : RWa X M) {w k f : Int32} (ok : drawOk M w k f) {n p : Nat} (hl : lookAt X M k n p) : RWa (xLook X M n p w k f) (mDraws M w k f 0) := by
  obtain ⟨en, n100⟩ := hW.dr
  obtain ⟨k1, k2, k3, k4⟩ := ok
  have hB6 := hB.2.2.2.2.2.1
  have hlt : nDr M < 100 := by
    rcases Nat.lt_or_ge (nDr M) 100 with z | z
    · exact z
    · exact absurd (by rw [en, show nDr M = 100 by omega]; decide) k4
  have hs : ix (s_drawings M + 1) = nDr M + 1 := by rw [en, nI_s, ixn (by omega)]
  obtain ⟨⟨c1, c2, c3, c4, c5, c6⟩, ⟨n1, n2, n3⟩, g1, g2, g3, -⟩ := hW
  obtain ⟨⟨l1, l2, l3⟩, l4, l5, l6⟩ := hl
  refine ⟨⟨c1, ?_, c3, c4, c5, c6⟩, ⟨n1, ?_, n3⟩, g1, fun i hi => ?_, g3, ⟨n + 1, ?_, ?_, ?_⟩⟩
  · show nI (nDr M) + 1 = s_drawings M + 1
    rw [en]
  · show 0 ≤ s_drawings M + 1 ∧ s_drawings M + 1 ≤ 100
    grind
  · have hi : i < nDr M + 1 := by rw [← hs]; exact hi
    show (0 ≤ upd (a_drawWeek M) (nDr M) k i ∧ upd (a_drawWeek M) (nDr M) k i ≤ 9999) ∧ (upd (a_isCopy M) (nDr M) (vp_nar .boolean 0) i = 0 ∨ upd (a_isCopy M) (nDr M) (vp_nar .boolean 0) i = 1) ∧ (upd (a_isCopy M) (nDr M) (vp_nar .boolean 0) i = 0 → upd (xa_Wall_wallOf X) (nDr M) w i = upd (a_drawWall M) (nDr M) w i ∧ upd (xa_Wall_drawn X) (nDr M) k i = upd (a_drawWeek M) (nDr M) k i ∧ upd (xa_Wall_features X) (nDr M) f i = upd (a_drawFeatures M) (nDr M) f i ∧ upd (xa_Wall_told X) (nDr M) (s_now M) i = upd (a_drawTold M) (nDr M) (s_now M) i)
    by_cases e : i = nDr M
    · subst e
      simp only [upd_eq]
      refine ⟨by grind [mIn], Or.inl rfl, fun _ => ⟨trivial, trivial, trivial, trivial⟩⟩
    · simp only [upd_ne e]
      exact g2 i (by show i < nDr M; omega)
  · show nI n + 1 = nI (n + 1)
    exact nI_s n
  · show n + 1 ≤ ix (s_drawings M + 1)
    rw [hs]
    omega
  · show LkOK (insG (xa_Wall_lookOrder X) n p (nI (nDr M))) (upd (a_drawWeek M) (nDr M) k) (upd (a_isCopy M) (nDr M) (vp_nar .boolean 0)) (n + 1) (ix (s_drawings M + 1))
    rw [hs]
    exact l3.ins hlt l2 l4 rfl l5 l6
theorem RWa.copy {X : StX} {M : StM} (hB : RB X M) (hW : RWa X M) {i k : Int32} (ok : copyOk M i k) : RWa (xI X 202 (s_drawings M + 1)) (mDraws M (a_drawWall M (ix i)) k (a_drawFeatures M (ix i)) 1) := by
  obtain ⟨en, n100⟩ := hW.dr
  obtain ⟨k1, k2, k4⟩ := ok
  have hB6 := hB.2.2.2.2.2.1
  have hlt : nDr M < 100 := by
    rcases Nat.lt_or_ge (nDr M) 100 with z | z
    · exact z
    · exact absurd (by rw [en, show nDr M = 100 by omega]; decide) k4
  have hs : ix (s_drawings M + 1) = nDr M + 1 := by rw [en, nI_s, ixn (by omega)]
  obtain ⟨⟨c1, c2, c3, c4, c5, c6⟩, ⟨n1, n2, n3⟩, g1, g2, g3, ⟨n, l1, l2, l3⟩⟩ := hW
  have l2 : n ≤ nDr M := l2
  refine ⟨⟨c1, rfl, c3, c4, c5, c6⟩, ⟨n1, ?_, n3⟩, g1, fun j hj => ?_, g3, ⟨n, l1, ?_, ?_⟩⟩
  · show 0 ≤ s_drawings M + 1 ∧ s_drawings M + 1 ≤ 100
    grind
  · have hj : j < nDr M + 1 := by rw [← hs]; exact hj
    show (0 ≤ upd (a_drawWeek M) (nDr M) k j ∧ upd (a_drawWeek M) (nDr M) k j ≤ 9999) ∧ (upd (a_isCopy M) (nDr M) (vp_nar .boolean 1) j = 0 ∨ upd (a_isCopy M) (nDr M) (vp_nar .boolean 1) j = 1) ∧ (upd (a_isCopy M) (nDr M) (vp_nar .boolean 1) j = 0 → xa_Wall_wallOf X j = upd (a_drawWall M) (nDr M) (a_drawWall M (ix i)) j ∧ xa_Wall_drawn X j = upd (a_drawWeek M) (nDr M) k j ∧ xa_Wall_features X j = upd (a_drawFeatures M) (nDr M) (a_drawFeatures M (ix i)) j ∧ xa_Wall_told X j = upd (a_drawTold M) (nDr M) (s_now M) j)
    by_cases e : j = nDr M
    · subst e
      simp only [upd_eq]
      refine ⟨by grind [mIn], Or.inr rfl, fun z => absurd z (by decide)⟩
    · simp only [upd_ne e]
      exact g2 j (by show j < nDr M; omega)
  · show n ≤ ix (s_drawings M + 1)
    rw [hs]
    omega
  · show LkOK (xa_Wall_lookOrder X) (upd (a_drawWeek M) (nDr M) k) (upd (a_isCopy M) (nDr M) (vp_nar .boolean 1)) n (ix (s_drawings M + 1))
    rw [hs]
    exact l3.copy hlt (by decide)
