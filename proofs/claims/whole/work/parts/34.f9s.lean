/-! stood: enumerations in order are one -/
def Inc (lt : Nat → Nat → Prop) (o : Nat → Nat) (n : Nat) : Prop := ∀ j k, j < k → k < n → lt (o j) (o k)
theorem inc_one {lt : Nat → Nat → Prop} (irr : ∀ a, ¬ lt a a) (tr : ∀ a b c, lt a b → lt b c → lt a c) {o1 o2 : Nat → Nat} {n1 n2 : Nat} (h1 : Inc lt o1 n1) (h2 : Inc lt o2 n2) (e1 : ∀ j, j < n1 → ∃ k, k < n2 ∧ o2 k = o1 j) (e2 : ∀ j, j < n2 → ∃ k, k < n1 ∧ o1 k = o2 j) : n1 = n2 ∧ ∀ j, j < n1 → o1 j = o2 j := by
  have inj1 : ∀ j k, j < n1 → k < n1 → o1 j = o1 k → j = k := by
    intro j k hj hk e
    rcases Nat.lt_trichotomy j k with z | z | z
    · exact absurd (e ▸ h1 j k z hk) (irr _)
    · exact z
    · exact absurd (e ▸ h1 k j z hj) (irr _)
  have inj2 : ∀ j k, j < n2 → k < n2 → o2 j = o2 k → j = k := by
    intro j k hj hk e
    rcases Nat.lt_trichotomy j k with z | z | z
    · exact absurd (e ▸ h2 j k z hk) (irr _)
    · exact z
    · exact absurd (e ▸ h2 k j z hj) (irr _)
  have key : ∀ m j, j < m → (j < n1 ↔ j < n2) ∧ (j < n1 → o1 j = o2 j) := by
    intro m
    induction m with
    | zero => intro j hj; omega
    | succ m ih =>
      intro j hj
      by_cases z : j < m
      · exact ih j z
      · have hjm : j = m := by omega
        subst hjm
        have low1 : ∀ k, j < n1 → k < n2 → o2 k = o1 j → j ≤ k := by
          intro k hj1 hk e
          rcases Nat.lt_or_ge k j with y | y
          · obtain ⟨i1, i2⟩ := ih k y
            have := i2 (i1.mpr hk)
            have := inj1 k j (i1.mpr hk) hj1 (by rw [this, e])
            omega
          · exact y
        have low2 : ∀ k, j < n2 → k < n1 → o1 k = o2 j → j ≤ k := by
          intro k hj1 hk e
          rcases Nat.lt_or_ge k j with y | y
          · obtain ⟨i1, i2⟩ := ih k y
            have h3 := i2 hk
            have := inj2 k j (i1.mp hk) hj1 (by rw [← h3, e])
            omega
          · exact y
        have a1 : j < n1 → j < n2 := by
          intro hj1
          obtain ⟨k, hk, e⟩ := e1 j hj1
          have := low1 k hj1 hk e
          omega
        have a2 : j < n2 → j < n1 := by
          intro hj1
          obtain ⟨k, hk, e⟩ := e2 j hj1
          have := low2 k hj1 hk e
          omega
        refine ⟨⟨a1, a2⟩, fun hj1 => ?_⟩
        obtain ⟨k, hk, e⟩ := e1 j hj1
        have l1 := low1 k hj1 hk e
        rcases Nat.lt_or_eq_of_le l1 with y | y
        · obtain ⟨p, hp, f⟩ := e2 j (a1 hj1)
          have l2 := low2 p (a1 hj1) hp f
          rcases Nat.lt_or_eq_of_le l2 with x | x
          · exfalso
            have t1 := h2 j k y hk
            have t2 := h1 j p x hp
            rw [e] at t1
            rw [f] at t2
            exact irr _ (tr _ _ _ t1 t2)
          · subst x; exact f
        · subst y; exact e.symm
  refine ⟨?_, fun j hj => (key (j + 1) j (by omega)).2 hj⟩
  rcases Nat.lt_trichotomy n1 n2 with z | z | z
  · have := (key (n1 + 1) n1 (by omega)).1.mpr z
    omega
  · exact z
  · have := (key (n2 + 1) n2 (by omega)).1.mp z
    omega
theorem lxI_irr (fr : Nat → Int32) (a : Nat) : ¬ lxI fr a a := by
  rintro (z | z)
  · exact Int32.lt_irrefl z
  · omega
theorem lxI_tr (fr : Nat → Int32) (a b c : Nat) (h1 : lxI fr a b) (h2 : lxI fr b c) : lxI fr a c := by
  rcases h1 with z | z <;> rcases h2 with y | y
  · exact Or.inl (Int32.lt_trans z y)
  · exact Or.inl (by rw [← y.1]; exact z)
  · exact Or.inl (by rw [z.1]; exact y)
  · exact Or.inr ⟨z.1.trans y.1, by omega⟩
/-- the looks of a wall as known on t -/
def selW (M : StM) (w t : Int32) (i : Nat) : Bool := decide (a_drawWall M i = w) && decide (a_isCopy M i = 0) && decide (a_drawTold M i ≤ t)
def cpW (M : StM) (w t : Int32) : Nat → Int32 := fun i => if selW M w t i = true then 0 else 1
theorem cpW_0 {M : StM} {w t : Int32} {i : Nat} : cpW M w t i = 0 ↔ selW M w t i = true := by
  rw [cpW]
  split
  · next h => simp [h]
  · next h => simp [h]
theorem upd_self {f : Nat → Int32} {i : Nat} : upd f i (f i) = f := by
  funext j
  by_cases e : j = i
  · subst e; rw [upd_eq]
  · rw [upd_ne e]
theorem sA_tw (M : StM) (k : Nat) (a b : Nat → Int32) : sA (sA M k a) k b = sA M k b := by
  simp only [sA]
  congr 1
  funext j
  simp only [va_up]
  split <;> rfl
theorem LkOK.skip {ord wk cp : Nat → Int32} {n m : Nat} (h : LkOK ord wk cp n m) (hm : m < 100) (hc : ¬ cp m = 0) : LkOK ord wk cp n (m + 1) := by
  have := h.copy (f := wk m) (c := cp m) hm hc
  rwa [upd_self, upd_self] at this
theorem ct_looksAt {E : EvT} {q : Nat → Nat} {d : Nat} {X : StX} {M : StM} (hW : RWa X M) {w t : Int32} (P : Int32 → StM → Prop) (h : ∀ n a, n ≤ nDr M → LkOK a (a_drawWeek M) (cpW M w t) n (nDr M) → P (nI n) (sA M 87 a)) : C_looksAt E q d w t M P := by
  obtain ⟨en, n100⟩ := hW.dr
  refine en_looksAt ?_
  have key := up_s (W := nDr M) (T := fun i (y : (Nat → Int32) × Nat) => T_looksAt_5 E q d P (sA M 87 y.1) w t (nI y.2) (nI i)) (J := fun i y => y.2 ≤ i ∧ LkOK y.1 (a_drawWeek M) (cpW M w t) y.2 i) ?_ ?_ 0 (a_lookOf M, 0) (by omega) ⟨Nat.le_refl _, fun j hj => absurd hj (Nat.not_lt_zero j), fun i hi => absurd hi (by omega), fun j k _ hk => absurd hk (Nat.not_lt_zero k)⟩
  · rw [show sA M 87 (a_lookOf M, (0 : Nat)).1 = M from sA_self M 87] at key
    exact key
  · intro y hy
    exact sg_looksAt_5 ⟨fun _ => h y.2 y.1 hy.1 hy.2, fun z => absurd (by show s_drawings M ≤ _; rw [en]; exact Int32.le_refl _) z⟩
  · intro i y hi hy kk
    obtain ⟨a, n⟩ := y
    obtain ⟨hn, hL⟩ := hy
    have hn : n ≤ i := hn
    have hL : LkOK a (a_drawWeek M) (cpW M w t) n i := hL
    have bi : (0 : Int32) ≤ nI i ∧ nI i < 100 := bnd (n := 100) (by omega) (by omega) rfl
    have skip : ¬ selW M w t i = true → T_looksAt_5 E q d P (sA M 87 a) w t (nI n) (nI i + 1) := by
      intro z
      rw [nI_s]
      exact kk (a, n) ⟨by show n ≤ i + 1; omega, hL.skip (by omega) (fun y => z (cpW_0.mp y))⟩
    refine sg_looksAt_5 ⟨fun z => absurd z (by show ¬ s_drawings M ≤ _; exact nle_nI hi (by omega) en), fun _ => ⟨bi, ?_⟩⟩
    rw [ixn (show i < 2 ^ 31 by omega)]
    refine ⟨fun e => skip (fun z => ?_), fun e1 => ⟨fun e => skip (fun z => ?_), fun e2 => ⟨fun e3 => ?_, fun e => skip (fun z => ?_)⟩⟩⟩
    · have e' : ¬ a_drawWall M i = w := e
      simp [selW, e'] at z
    · have e' : ¬ a_isCopy M i = 0 := e
      simp [selW, e'] at z
    rotate_left
    · have e' : ¬ a_drawTold M i ≤ t := e
      simp [selW] at z
      exact e' z.2
    have hsel : selW M w t i = true := by
      have e1' : a_drawWall M i = w := e1
      have e2' : a_isCopy M i = 0 := e2
      have e3' : a_drawTold M i ≤ t := e3
      simp [selW, e1', e2', e3']
    have fin : ∀ p, p ≤ n → (p = 0 ∨ a_drawWeek M (ix (a (p - 1))) ≤ a_drawWeek M i) → (∀ j, p ≤ j → j < n → a_drawWeek M i < a_drawWeek M (ix (a j))) → (0 ≤ nI p ∧ nI p < 100) ∧ T_looksAt_5 E q d P (sA (sA M 87 (shF a n p)) 87 (upd (a_lookOf (sA M 87 (shF a n p))) (ix (nI p)) (nI i))) w t (nI n + 1) (nI i + 1) := by
      intro p hp g1 g2
      refine ⟨bnd (n := 100) (by omega) (by omega) rfl, ?_⟩
      rw [sA_tw, ixn (by omega), nI_s, nI_s]
      have := hL.ins (f := a_drawWeek M i) (c := cpW M w t i) (by omega) hn hp (cpW_0.mpr hsel) g1 g2
      rw [upd_self, upd_self] at this
      exact kk (insG a n p (nI i), n + 1) ⟨by show n + 1 ≤ i + 1; omega, this⟩
    have ins : ∀ p, p ≤ n → (∀ j, p ≤ j → j < n → a_drawWeek M i < a_drawWeek M (ix (a j))) → T_looksAt_52 E q d P (sA M 87 (shF a n p)) w t (nI n) (nI i) (nI p) := by
      intro p
      induction p with
      | zero =>
        intro hp g2
        exact sg_looksAt_52 ⟨fun _ => fin 0 hp (Or.inl rfl) g2, fun z => absurd (by decide) z⟩
      | succ p ih =>
        intro hp g2
        obtain ⟨x, hx, -, e⟩ := hL.1 p (by omega)
        have eo : a_lookOf (sA M 87 (shF a n (p + 1))) p = nI x := by
          show shF a n (p + 1) p = nI x
          rw [shF, if_neg (by omega)]
          exact e
        refine sg_looksAt_52 ⟨fun z => absurd z (nI_nle (by omega) (by omega)), fun _ => ?_⟩
        rw [nI_p', ixn (show p < 2 ^ 31 by omega), eo, ixn (show x < 2 ^ 31 by omega), ixn (show p + 1 < 2 ^ 31 by omega), ixn (show i < 2 ^ 31 by omega)]
        refine ⟨bnd (n := 100) (by omega) (by omega) rfl, bnd (n := 100) (by omega) (by omega) rfl, bi, ?_⟩
        have ei : ix (a p) = x := by rw [e, ixn (by omega)]
        refine ⟨fun z => ?_, fun z => ⟨bnd (n := 100) (by omega) (by omega) rfl, ?_⟩⟩
        · have := fin (p + 1) hp (Or.inr (by rw [Nat.add_sub_cancel, ei]; exact z)) g2
          rw [ixn (show p + 1 < 2 ^ 31 by omega)] at this
          exact this
        · have g3 : ∀ j, p ≤ j → j < n → a_drawWeek M i < a_drawWeek M (ix (a j)) := by
            intro j hj1 hj2
            by_cases y : j = p
            · subst y; rw [ei]; exact Int32.not_le.mp z
            · exact g2 j (by omega) hj2
          have := ih (by omega) g3
          have ee : sA (sA M 87 (shF a n (p + 1))) 87 (upd (a_lookOf (sA M 87 (shF a n (p + 1)))) (p + 1) (nI x)) = sA M 87 (shF a n p) := by
            rw [sA_tw]
            show sA M 87 (upd (shF a n (p + 1)) (p + 1) (nI x)) = _
            rw [← shF_s (ord := a) hp, show shF a n (p + 1) p = nI x from eo]
          rw [ee]
          exact this
    have := ins n (Nat.le_refl _) (fun j h1 h2 => absurd h2 (by omega))
    rw [shF_n] at this
    exact this
