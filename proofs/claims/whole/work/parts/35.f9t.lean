/-! stood: the looks one after another -/
def FL (h : Nat → Bool) (n f l : Nat) : Prop := f < n ∧ h f = true ∧ (∀ i, i < f → h i = false) ∧ l < n ∧ h l = true ∧ (∀ i, l < i → i < n → h i = false)
def RvI (v : Nat → Nat) (h : Nat → Bool) (n : Nat) (fl ls nl qL qH : Int32) : Prop :=
  ((∀ i, i < n → h i = false) ∧ fl = -1 ∧ ls = -1 ∧ nl = -1 ∧ qL = -1 ∧ qH = -1) ∨
  (∃ f l, FL h n f l ∧ ls = nI (v l) ∧ ((l + 1 = n ∧ nl = -1) ∨ (l + 1 < n ∧ nl = nI (v (l + 1)))) ∧
    (((∀ i, f ≤ i → i < n → h i = true) ∧ fl = -1 ∧ qL = -1 ∧ qH = -1) ∨
     (∃ b, f ≤ b ∧ b < n ∧ h b = false ∧ (∀ i, f ≤ i → i < b → h i = true) ∧ fl = nI (v b) ∧
       (((∀ i, b ≤ i → i < n → h i = false) ∧ qL = -1 ∧ qH = -1) ∨
        (∃ c, b ≤ c ∧ c < n ∧ h c = true ∧ (∀ i, b ≤ i → i < c → h i = false) ∧ qL = nI (v b) ∧ qH = nI (v c))))))
theorem nI_ne1 {n : Nat} (h : n < 2 ^ 31) : ¬ nI n = -1 := by
  intro z
  have h0 := ixn h
  rw [z, show ix (-1) = 0 from by decide] at h0
  subst h0
  exact absurd z (by decide)
theorem RvI.lack0 {v : Nat → Nat} {h : Nat → Bool} {j : Nat} {fl ls nl qL qH : Int32} (hv : ∀ k, k < j → v k < 100) (H : RvI v h j fl ls nl qL qH) (hj : h j = false) (e : ls = -1) : RvI v h (j + 1) fl ls nl qL qH := by
  rcases H with ⟨h0, h1⟩ | ⟨f, l, hfl, h1, -⟩
  · refine Or.inl ⟨fun i hi => ?_, h1⟩
    by_cases z : i = j
    · rw [z]; exact hj
    · exact h0 i (by omega)
  · exact absurd (h1.symm.trans e) (nI_ne1 (by have := hv l hfl.2.2.2.1; omega))
theorem RvI.lack {v : Nat → Nat} {h : Nat → Bool} {j : Nat} {fl ls nl qL qH : Int32} (hv : ∀ k, k < j → v k < 100) (H : RvI v h j fl ls nl qL qH) (hj : h j = false) (e : ¬ ls = -1) : RvI v h (j + 1) (if fl = -1 then nI (v j) else fl) ls (if nl = -1 then nI (v j) else nl) qL qH := by
  rcases H with ⟨h0, h1, h2, -⟩ | ⟨f, l, ⟨f1, f2, f3, f4, f5, f6⟩, h1, h2, h3⟩
  · exact absurd h2 e
  · refine Or.inr ⟨f, l, ⟨by omega, f2, f3, by omega, f5, fun i h1 h2 => ?_⟩, h1, ?_, ?_⟩
    · by_cases z : i = j
      · rw [z]; exact hj
      · exact f6 i h1 (by omega)
    · right
      rcases h2 with ⟨g1, g2⟩ | ⟨g1, g2⟩
      · rw [if_pos g2, g1]
        exact ⟨by omega, rfl⟩
      · rw [if_neg (by rw [g2]; exact nI_ne1 (by have := hv (l + 1) g1; omega))]
        exact ⟨by omega, g2⟩
    · right
      rcases h3 with ⟨g1, g2, g3⟩ | ⟨b, g1, g2, g3, g4, g5, g6⟩
      · rw [if_pos g2]
        refine ⟨j, by omega, by omega, hj, g1, rfl, Or.inl ⟨fun i h1 h2 => ?_, g3⟩⟩
        rw [show i = j by omega]; exact hj
      · rw [if_neg (by rw [g5]; exact nI_ne1 (by have := hv b g2; omega))]
        refine ⟨b, g1, by omega, g3, g4, g5, ?_⟩
        rcases g6 with ⟨k1, k2⟩ | ⟨c, k1, k2, k3⟩
        · refine Or.inl ⟨fun i h1 h2 => ?_, k2⟩
          by_cases z : i = j
          · rw [z]; exact hj
          · exact k1 i h1 (by omega)
        · exact Or.inr ⟨c, k1, by omega, k3⟩
theorem RvI.shown {v : Nat → Nat} {h : Nat → Bool} {j : Nat} {fl ls nl qL qH : Int32} (hv : ∀ k, k < j → v k < 100) (H : RvI v h j fl ls nl qL qH) (hj : h j = true) : RvI v h (j + 1) fl (nI (v j)) (-1) (if fl = -1 ∨ ¬ qH = -1 then qL else fl) (if fl = -1 ∨ ¬ qH = -1 then qH else nI (v j)) := by
  rcases H with ⟨h0, h1, -, -, h2⟩ | ⟨f, l, ⟨f1, f2, f3, f4, f5, f6⟩, h1, h2, h3⟩
  · refine Or.inr ⟨j, j, ⟨by omega, hj, h0, by omega, hj, fun i h1 h2 => by omega⟩, rfl, Or.inl ⟨rfl, rfl⟩, Or.inl ⟨fun i h1 h2 => ?_, h1, ?_⟩⟩
    · rw [show i = j by omega]; exact hj
    · rw [if_pos (Or.inl h1), if_pos (Or.inl h1)]
      exact h2
  · refine Or.inr ⟨f, j, ⟨by omega, f2, f3, by omega, hj, fun i h1 h2 => by omega⟩, rfl, Or.inl ⟨rfl, rfl⟩, ?_⟩
    rcases h3 with ⟨g1, g2, g3⟩ | ⟨b, g1, g2, g3, g4, g5, g6⟩
    · refine Or.inl ⟨fun i h1 h2 => ?_, g2, ?_⟩
      · by_cases z : i = j
        · rw [z]; exact hj
        · exact g1 i h1 (by omega)
      · rw [if_pos (Or.inl g2), if_pos (Or.inl g2)]
        exact g3
    · refine Or.inr ⟨b, g1, by omega, g3, g4, g5, Or.inr ?_⟩
      have nf : ¬ fl = -1 := by rw [g5]; exact nI_ne1 (by have := hv b g2; omega)
      rcases g6 with ⟨k1, k2, k3⟩ | ⟨c, k1, k2, k3, k4, k5, k6⟩
      · rw [if_neg (fun z => z.elim nf (fun y => y k3)), if_neg (fun z => z.elim nf (fun y => y k3))]
        exact ⟨j, by omega, by omega, hj, k1, g5, rfl⟩
      · have nq : ¬ qH = -1 := by rw [k6]; exact nI_ne1 (by have := hv c k2; omega)
        rw [if_pos (Or.inr nq), if_pos (Or.inr nq)]
        exact ⟨c, k1, by omega, k3, k4, k5, k6⟩
/-- whether a drawing shows a feature -/
def shB (M : StM) (f : Int32) (i : Nat) : Bool := decide ((a_drawFeatures M i >>> (f &&& 31)) &&& 1 = 1)
def wkOf (M : StM) (i : Int32) : Int32 := if i = -1 then -1 else a_drawWeek M (ix i)
def stAns (M : StM) (what ls nl qL qH : Int32) : Int32 := if what = 0 then wkOf M ls else if what = 1 then wkOf M nl else if what = 2 then qL else qH
def StA (M : StM) (w f t what r : Int32) : Prop := ∀ a n, n ≤ nDr M → LkOK a (a_drawWeek M) (cpW M w t) n (nDr M) → ∃ fl ls nl qL qH, RvI (fun j => ix (a j)) (fun j => shB M f (ix (a j))) n fl ls nl qL qH ∧ r = stAns M what ls nl qL qH
def stOk (M : StM) (w f t what : Int32) : Prop := mWall M w = true ∧ mIn f 0 7 = true ∧ mWeek t = true ∧ mIn what 0 3 = true
def StR (M : StM) (w f t what r : Int32) : Prop := (¬ stOk M w f t what → r = -1) ∧ (stOk M w f t what → StA M w f t what r)
def xV (X : StX) (ls nl qL qH : Int32) : StX := xI (xI (xI (xI X 209 ls) 210 nl) 211 qL) 212 qH
theorem xI_tw (S : StX) (j : Nat) (u v : Int32) : xI (xI S j u) j v = xI S j v := by
  simp only [xI]
  congr 1
  funext i
  simp only [va_up]
  split <;> rfl
theorem xI_cm (S : StX) {j k : Nat} (h : j ≠ k) (u v : Int32) : xI (xI S j u) k v = xI (xI S k v) j u := by
  simp only [xI]
  congr 1
  funext i
  simp only [va_up]
  split
  · split
    · omega
    · rfl
  · rfl
theorem xV_9 (X : StX) (a b c d z : Int32) : xI (xV X a b c d) 209 z = xV X z b c d := by
  rw [xV, xI_cm _ (j := 212) (k := 209) (by decide), xI_cm _ (j := 211) (k := 209) (by decide), xI_cm _ (j := 210) (k := 209) (by decide), xI_tw, ← xV]
theorem xV_10 (X : StX) (a b c d z : Int32) : xI (xV X a b c d) 210 z = xV X a z c d := by
  rw [xV, xI_cm _ (j := 212) (k := 210) (by decide), xI_cm _ (j := 211) (k := 210) (by decide), xI_tw, ← xV]
theorem xV_11 (X : StX) (a b c d z : Int32) : xI (xV X a b c d) 211 z = xV X a b z d := by
  rw [xV, xI_cm _ (j := 212) (k := 211) (by decide), xI_tw, ← xV]
theorem xV_12 (X : StX) (a b c d z : Int32) : xI (xV X a b c d) 212 z = xV X a b c z := by
  rw [xV, xI_tw, ← xV]
/-- where the loop over all looks stands in the list of some -/
def PosJ (X : StX) (a : Nat → Int32) (sel : Nat → Bool) (i j : Nat) : Prop := (∀ k, k < j → ∃ p, p < i ∧ xa_Wall_lookOrder X p = a k) ∧ (∀ p x, p < i → xa_Wall_lookOrder X p = nI x → x < 100 → sel x = true → ∃ k, k < j ∧ a k = nI x)
def StJ (X : StX) (M : StM) (w f t : Int32) (i : Nat) (fl ls nl qL qH : Int32) : Prop := ∀ a n, n ≤ nDr M → LkOK a (a_drawWeek M) (cpW M w t) n (nDr M) → ∃ j, j ≤ n ∧ PosJ X a (selW M w t) i j ∧ RvI (fun j => ix (a j)) (fun j => shB M f (ix (a j))) j fl ls nl qL qH
theorem StJ.skip {X : StX} {M : StM} {w f t : Int32} {i : Nat} {fl ls nl qL qH : Int32} (H : StJ X M w f t i fl ls nl qL qH) {x : Nat} (hx : x < 100) (e : xa_Wall_lookOrder X i = nI x) (hs : ¬ selW M w t x = true) : StJ X M w f t (i + 1) fl ls nl qL qH := by
  intro a n hn hL
  obtain ⟨j, hj, ⟨p1, p2⟩, hR⟩ := H a n hn hL
  refine ⟨j, hj, ⟨fun k hk => ?_, fun p y hp ey hy hsy => ?_⟩, hR⟩
  · obtain ⟨p, hp, ep⟩ := p1 k hk
    exact ⟨p, by omega, ep⟩
  · by_cases z : p = i
    · subst z
      have : nI x = nI y := e.symm.trans ey
      have : x = y := (nI_eq (by omega) (by omega)).mp this
      subst this
      exact absurd hsy hs
    · exact p2 p y (by omega) ey hy hsy
theorem StJ.take {X : StX} {M : StM} (hW : RWa X M) {w f t : Int32} {i N : Nat} (hN : LkOK (xa_Wall_lookOrder X) (a_drawWeek M) (a_isCopy M) N (nDr M)) (hi : i < N) {fl ls nl qL qH fl' ls' nl' qL' qH' : Int32} (H : StJ X M w f t i fl ls nl qL qH) {x : Nat} (hx : x < nDr M) (e : xa_Wall_lookOrder X i = nI x) (hs : selW M w t x = true) (st : ∀ (v : Nat → Nat) (h : Nat → Bool) j, (∀ k, k < j → v k < 100) → v j = x → h j = shB M f x → RvI v h j fl ls nl qL qH → RvI v h (j + 1) fl' ls' nl' qL' qH') : StJ X M w f t (i + 1) fl' ls' nl' qL' qH' := by
  obtain ⟨en, n100⟩ := hW.dr
  intro a n hn hL
  obtain ⟨j, hj, ⟨p1, p2⟩, hR⟩ := H a n hn hL
  obtain ⟨k, hk, ek⟩ := hL.2.1 x hx (cpW_0.mpr hs)
  have irr : ∀ y, ¬ lxI (a_drawWeek M) y y := lxI_irr _
  have hkj : k = j := by
    rcases Nat.lt_trichotomy k j with z | z | z
    · exfalso
      obtain ⟨p, hp, ep⟩ := p1 k z
      have := hN.2.2 p i hp hi
      rw [ep, ek, e] at this
      exact irr _ this
    · exact z
    · exfalso
      obtain ⟨y, hy, cy, ey⟩ := hL.1 j (by omega)
      have sy : selW M w t y = true := cpW_0.mp cy
      have cy0 : a_isCopy M y = 0 := by
        simp [selW] at sy
        exact sy.1.2
      obtain ⟨p, hp, ep⟩ := hN.2.1 y hy cy0
      have l1 := hL.2.2 j k z hk
      rw [ey, ek] at l1
      rcases Nat.lt_trichotomy p i with c | c | c
      · obtain ⟨k', hk', ek'⟩ := p2 p y c ep (by omega) sy
        have := hL.2.2 k' j hk' (by omega)
        rw [ek', ey] at this
        exact irr _ this
      · subst c
        rw [← ep, e] at l1
        exact irr _ l1
      · have l2 := hN.2.2 i p c hp
        rw [e, ep] at l2
        exact irr _ (lxI_tr _ _ _ _ l1 l2)
  subst hkj
  refine ⟨k + 1, hk, ⟨fun k' hk' => ?_, fun p y hp ey hy hsy => ?_⟩, ?_⟩
  · by_cases z : k' = k
    · subst z
      exact ⟨i, by omega, by rw [e, ek]⟩
    · obtain ⟨p, hp, ep⟩ := p1 k' (by omega)
      exact ⟨p, by omega, ep⟩
  · by_cases z : p = i
    · subst z
      refine ⟨k, by omega, ?_⟩
      rw [ek, ← ey, e]
    · obtain ⟨k', hk', ek'⟩ := p2 p y (by omega) ey hy hsy
      exact ⟨k', by omega, ek'⟩
  · have vk : ix (a k) = x := by rw [ek, ixn (by omega)]
    refine st _ _ k (fun k' hk' => ?_) vk (by show shB M f (ix (a k)) = _; rw [vk]) hR
    obtain ⟨y, hy, -, ey⟩ := hL.1 k' (by omega)
    show ix (a k') < 100
    rw [ey, ixn (by omega)]
    omega
theorem StJ.done {X : StX} {M : StM} (hW : RWa X M) {w f t : Int32} {N : Nat} (hN : LkOK (xa_Wall_lookOrder X) (a_drawWeek M) (a_isCopy M) N (nDr M)) {fl ls nl qL qH : Int32} (H : StJ X M w f t N fl ls nl qL qH) (a : Nat → Int32) (n : Nat) (hn : n ≤ nDr M) (hL : LkOK a (a_drawWeek M) (cpW M w t) n (nDr M)) : RvI (fun j => ix (a j)) (fun j => shB M f (ix (a j))) n fl ls nl qL qH := by
  obtain ⟨en, n100⟩ := hW.dr
  obtain ⟨j, hj, ⟨p1, p2⟩, hR⟩ := H a n hn hL
  rcases Nat.lt_or_ge j n with z | z
  · exfalso
    obtain ⟨y, hy, cy, ey⟩ := hL.1 j z
    have sy : selW M w t y = true := cpW_0.mp cy
    have cy0 : a_isCopy M y = 0 := by
      simp [selW] at sy
      exact sy.1.2
    obtain ⟨p, hp, ep⟩ := hN.2.1 y hy cy0
    obtain ⟨k', hk', ek'⟩ := p2 p y hp ep (by omega) sy
    have := hL.2.2 k' j hk' z
    rw [ek', ey] at this
    exact lxI_irr (a_drawWeek M) _ this
  · rw [show n = j by omega]
    exact hR

/-- no look, or one -/
def GdI (M : StM) (z : Int32) : Prop := z = -1 ∨ ∃ x, x < nDr M ∧ a_isCopy M x = 0 ∧ z = nI x
theorem ct_Wall_review {E : EvT} {q : Nat → Nat} {d : Nat} {X : StX} {M : StM} (hW : RWa X M) {w f t : Int32} : C_Wall_review E q d w f t X (fun X1 => ∃ ls nl qL qH, X1 = xV X ls nl qL qH ∧ (GdI M ls ∧ GdI M nl) ∧ ∀ what, StA M w f t what (stAns M what ls nl qL qH)) := by
  obtain ⟨en, n100⟩ := hW.dr
  have hD := hW.2.2.2.1
  obtain ⟨N, eN, hNd, hN⟩ := hW.2.2.2.2.2
  have hNd : N ≤ nDr M := hNd
  have hN : LkOK (xa_Wall_lookOrder X) (a_drawWeek M) (a_isCopy M) N (nDr M) := hN
  refine en_Wall_review ?_
  have key := up_s (W := N) (T := fun i (y : Int32 × Int32 × Int32 × Int32 × Int32) => T_Wall_review_26 E q d (fun X1 => ∃ ls nl qL qH, X1 = xV X ls nl qL qH ∧ (GdI M ls ∧ GdI M nl) ∧ ∀ what, StA M w f t what (stAns M what ls nl qL qH)) (xV X y.2.1 y.2.2.1 y.2.2.2.1 y.2.2.2.2) w f t y.1 (nI i)) (J := fun i y => (GdI M y.2.1 ∧ GdI M y.2.2.1) ∧ StJ X M w f t i y.1 y.2.1 y.2.2.1 y.2.2.2.1 y.2.2.2.2) ?_ ?_ 0 (-1, -1, -1, -1, -1) (by omega) ⟨⟨Or.inl rfl, Or.inl rfl⟩, ?_⟩
  · exact key
  · rintro ⟨fl, ls, nl, qL, qH⟩ ⟨hG, hJ⟩
    refine sg_Wall_review_26 ⟨fun _ => ⟨ls, nl, qL, qH, rfl, hG, fun what a n hn hL => ⟨fl, ls, nl, qL, qH, StJ.done hW hN hJ a n hn hL, rfl⟩⟩, fun z => absurd (by show xs_Wall_looks X ≤ _; rw [eN]; exact Int32.le_refl _) z⟩
  · rintro i ⟨fl, ls, nl, qL, qH⟩ hi ⟨⟨hGl, hGn⟩, hJ⟩ kk
    have hGl : GdI M ls := hGl
    have hGn : GdI M nl := hGn
    have hJ : StJ X M w f t i fl ls nl qL qH := hJ
    obtain ⟨x, hx, cx, ex⟩ := hN.1 i hi
    obtain ⟨-, -, dx⟩ := hD x hx
    have hGx : GdI M (nI x) := Or.inr ⟨x, hx, cx, rfl⟩
    have hG1 : GdI M (-1) := Or.inl rfl
    obtain ⟨d1, d2, d3, d4⟩ := dx cx
    refine sg_Wall_review_26 ⟨fun z => absurd z (by show ¬ xs_Wall_looks X ≤ _; exact nle_nI hi (by omega) eN), fun _ => ⟨bnd (n := 100) (by omega) (by omega) rfl, ?_⟩⟩
    rw [ixn (show i < 2 ^ 31 by omega), show xa_Wall_lookOrder (xV X ls nl qL qH) i = nI x from ex, ixn (show x < 2 ^ 31 by omega), nI_s]
    refine ⟨bnd (n := 100) (by omega) (by omega) rfl, ?_⟩
    show (¬ xa_Wall_wallOf X x = w → _) ∧ (xa_Wall_wallOf X x = w → (xa_Wall_told X x ≤ t → (¬ (xa_Wall_features X x >>> (f &&& 31)) &&& 1 = 1 → (ls = -1 → _) ∧ (¬ ls = -1 → (¬ fl = -1 → (¬ nl = -1 → _) ∧ (nl = -1 → _)) ∧ (fl = -1 → (¬ nl = -1 → _) ∧ (nl = -1 → _)))) ∧ ((xa_Wall_features X x >>> (f &&& 31)) &&& 1 = 1 → (fl = -1 → _) ∧ (¬ fl = -1 → (¬ qH = -1 → _) ∧ (qH = -1 → _)))) ∧ (¬ xa_Wall_told X x ≤ t → _))
    rw [d1, d3, d4]
    rw [show xs_Wall_nextLacking (xV X ls nl qL qH) = nl from rfl]
    simp only [xV_9, xV_10, xV_11, xV_12]
    refine ⟨fun c1 => kk (fl, ls, nl, qL, qH) ⟨⟨hGl, hGn⟩, StJ.skip hJ (by omega) ex (fun z => ?_)⟩, fun c1 => ⟨fun c2 => ?_, fun c2 => kk (fl, ls, nl, qL, qH) ⟨⟨hGl, hGn⟩, StJ.skip hJ (by omega) ex (fun z => ?_)⟩⟩⟩
    · simp [selW, c1] at z
    · have hs : selW M w t x = true := by simp [selW, c1, cx, c2]
      refine ⟨fun c3 => ?_, fun c3 => ?_⟩
      · have hb : shB M f x = false := by rw [shB]; simp [c3]
        refine ⟨fun c4 => kk (fl, ls, nl, qL, qH) ⟨⟨hGl, hGn⟩, StJ.take hW hN hi hJ hx ex hs (fun v h j hv ej hh R => R.lack0 hv (hh.trans hb) c4)⟩, fun c4 => ?_⟩
        have st : StJ X M w f t (i + 1) (if fl = -1 then nI x else fl) ls (if nl = -1 then nI x else nl) qL qH := StJ.take hW hN hi hJ hx ex hs (fun v h j hv ej hh R => by have := R.lack hv (hh.trans hb) c4; rwa [ej] at this)
        refine ⟨fun c5 => ⟨fun c6 => kk (fl, ls, nl, qL, qH) ⟨⟨hGl, hGn⟩, ?_⟩, fun c6 => kk (fl, ls, nI x, qL, qH) ⟨⟨hGl, hGx⟩, ?_⟩⟩, fun c5 => ⟨fun c6 => kk (nI x, ls, nl, qL, qH) ⟨⟨hGl, hGn⟩, ?_⟩, fun c6 => kk (nI x, ls, nI x, qL, qH) ⟨⟨hGl, hGx⟩, ?_⟩⟩⟩
        · rw [if_neg c5, if_neg c6] at st; exact st
        · rw [if_neg c5, if_pos c6] at st; exact st
        · rw [if_pos c5, if_neg c6] at st; exact st
        · rw [if_pos c5, if_pos c6] at st; exact st
      · have hb : shB M f x = true := by rw [shB]; simp [c3]
        have st : StJ X M w f t (i + 1) fl (nI x) (-1) (if fl = -1 ∨ ¬ qH = -1 then qL else fl) (if fl = -1 ∨ ¬ qH = -1 then qH else nI x) := StJ.take hW hN hi hJ hx ex hs (fun v h j hv ej hh R => by have := R.shown hv (hh.trans hb); rwa [ej] at this)
        refine ⟨fun c5 => kk (fl, nI x, -1, qL, qH) ⟨⟨hGx, hG1⟩, ?_⟩, fun c5 => ⟨fun c6 => kk (fl, nI x, -1, qL, qH) ⟨⟨hGx, hG1⟩, ?_⟩, fun c6 => kk (fl, nI x, -1, fl, nI x) ⟨⟨hGx, hG1⟩, ?_⟩⟩⟩
        · rw [if_pos (Or.inl c5), if_pos (Or.inl c5)] at st; exact st
        · rw [if_pos (Or.inr c6), if_pos (Or.inr c6)] at st; exact st
        · rw [if_neg (fun z => z.elim c5 (fun y => y c6)), if_neg (fun z => z.elim c5 (fun y => y c6))] at st; exact st
    · simp [selW] at z
      exact c2 z.2
  · intro a n hn hL
    exact ⟨0, by omega, ⟨fun k hk => absurd hk (Nat.not_lt_zero k), fun p x hp => absurd hp (Nat.not_lt_zero p)⟩, Or.inl ⟨fun k hk => absurd hk (Nat.not_lt_zero k), rfl, rfl, rfl, rfl, rfl⟩⟩

theorem RWa.xV {X : StX} {M : StM} (h : RWa X M) (a b c d : Int32) : RWa (xV X a b c d) M := h
theorem stP {M : StM} {w f t what : Int32} : ¬ stOk M w f t what ∨ stOk M w f t what := (Classical.em _).symm
theorem GdI.b {X : StX} {M : StM} (hW : RWa X M) {z : Int32} (h : GdI M z) : (¬ z = -1 → 0 ≤ z ∧ z < 100) ∧ pWeekOf X z = wkOf M z := by
  obtain ⟨en, n100⟩ := hW.dr
  rcases h with h | ⟨x, hx, cx, e⟩
  · subst h
    exact ⟨fun z => absurd rfl z, rfl⟩
  · subst e
    refine ⟨fun _ => bnd (n := 100) (by omega) (by omega) rfl, ?_⟩
    rw [pWeekOf, wkOf, if_neg (nI_ne1 (by omega)), if_neg (nI_ne1 (by omega)), ixn (by omega)]
    exact ((hW.2.2.2.1 x hx).2.2 cx).2.1
theorem ct_City_stood {E : EvT} {q : Nat → Nat} {d : Nat} {X : StX} {M : StM} (hW : RWa X M) {w f t what : Int32} : C_City_stood E q (d + 2) w f t what X (fun r X1 => StR M w f t what r ∧ ∃ a b c d, X1 = xV X a b c d) := by
  have self : X = xV X (X.1 209) (X.1 210) (X.1 211) (X.1 212) := by
    show X = xI (xI (xI (xI X 209 (X.1 209)) 210 (X.1 210)) 211 (X.1 211)) 212 (X.1 212)
    rw [xI_self, xI_self, xI_self, xI_self]
  have bad : ¬ stOk M w f t what → StR M w f t what (-1) ∧ ∃ a b c d, X = xV X a b c d := fun z => ⟨⟨fun _ => rfl, fun y => absurd y z⟩, _, _, _, _, self⟩
  refine en_City_stood ?_
  rw [pWall_eq hW]
  refine ⟨fun z => bad (fun y => by rw [y.1] at z; simp at z), fun o1 => ⟨fun z => bad (fun y => by rw [y.2.1] at z; simp at z), fun o2 => ⟨fun z => bad (fun y => by rw [y.2.2.1] at z; simp at z), fun o3 => ⟨fun o4 => ?_, fun z => bad (fun y => by rw [y.2.2.2] at z; simp at z)⟩⟩⟩⟩
  have ok : stOk M w f t what := ⟨o1, o2, o3, o4⟩
  refine mVx (ct_Wall_review hW) (fun X1 h => ?_)
  obtain ⟨ls, nl, qL, qH, rfl, ⟨g1, g2⟩, hA⟩ := h
  have hA := hA what
  have fin : ∀ r, r = stAns M what ls nl qL qH → StR M w f t what r ∧ ∃ a b c d, xV X ls nl qL qH = xV X a b c d := by
    intro r e
    subst e
    exact ⟨⟨fun y => absurd ok y, fun _ => hA⟩, _, _, _, _, rfl⟩
  have k1 := GdI.b (hW.xV ls nl qL qH) g1
  have k2 := GdI.b (hW.xV ls nl qL qH) g2
  refine ⟨fun c => ⟨k1.1, fin _ ?_⟩, fun c => ⟨fun c1 => ⟨k2.1, fin _ ?_⟩, fun c1 => ⟨fun c2 => fin _ ?_, fun c2 => fin _ ?_⟩⟩⟩
  · rw [stAns, if_pos c]; exact k1.2
  · rw [stAns, if_neg c, if_pos c1]; exact k2.2
  · rw [stAns, if_neg c, if_neg c1, if_pos c2]; rfl
  · rw [stAns, if_neg c, if_neg c1, if_neg c2]; rfl
