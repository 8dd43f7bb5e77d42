/-! the ground: digs in order of weeks, then numbers -/
def gF (o : Nat → Nat) (sel : Nat → Bool) (kd : Nat → Int32) : Nat → Int32 × Int32
  | 0 => (0, -1)
  | j + 1 => if sel (o j) = true then (pAfter (gF o sel kd j).1 (kd (o j)), if (gF o sel kd j).1 = 0 ∧ ¬ kd (o j) = 2 then nI (o j) else (gF o sel kd j).2) else gF o sel kd j
def LexO (o : Nat → Nat) (fr : Nat → Int32) (n : Nat) : Prop := (∀ j, j < n → o j < n) ∧ (∀ i, i < n → ∃ j, j < n ∧ o j = i) ∧ (∀ j k, j < k → k < n → fr (o j) < fr (o k) ∨ (fr (o j) = fr (o k) ∧ o j < o k))
theorem OrdOK.lex {ord fr : Nat → Int32} {n : Nat} (h : OrdOK ord fr n) (hn : n ≤ 100) : LexO (fun j => ix (ord j)) fr n := by
  obtain ⟨h1, h2, h3⟩ := h
  refine ⟨fun j hj => ?_, fun i hi => ?_, h3⟩
  · obtain ⟨i, hi, e⟩ := h1 j hj
    show ix (ord j) < n
    rw [e, ixn (by omega)]
    exact hi
  · obtain ⟨j, hj, e⟩ := h2 i hi
    exact ⟨j, hj, by show ix (ord j) = i; rw [e, ixn (by omega)]⟩
theorem gF_rng {o : Nat → Nat} {sel : Nat → Bool} {kd : Nat → Int32} : ∀ j, 0 ≤ (gF o sel kd j).1 ∧ (gF o sel kd j).1 ≤ 3 := by
  intro j
  induction j with
  | zero => exact (by decide : (0 : Int32) ≤ 0 ∧ (0 : Int32) ≤ 3)
  | succ j ih =>
    rw [gF]
    split
    · grind [pAfter]
    · exact ih
theorem gF_skip {o : Nat → Nat} {sel : Nat → Bool} {kd : Nat → Int32} {j : Nat} : ∀ m, (∀ i, j ≤ i → i < j + m → sel (o i) = false) → gF o sel kd (j + m) = gF o sel kd j := by
  intro m
  induction m with
  | zero => intro _; rfl
  | succ m ih =>
    intro h
    rw [← Nat.add_assoc, gF, if_neg (by rw [h (j + m) (by omega) (by omega)]; decide)]
    exact ih (fun i h1 h2 => h i h1 (by omega))
def selG (M : StM) (c l w t : Int32) (i : Nat) : Bool := mKnown M (nI i) t && mHas M (nI i) c l && decide (a_digFrom M i ≤ w)
def bhd (fr : Nat → Int32) (y6 y7 : Int32) (i : Nat) : Prop := y6 < fr i ∨ (fr i = y6 ∧ y7 < nI i)
theorem gr_body {T : StM → Int32 → Prop} {S : StM} {y5 k y9 : Int32} (hy : 0 ≤ y5 ∧ y5 ≤ 3) (hk : 0 ≤ k ∧ k ≤ 2) (h1 : (y5 = 0 ∧ ¬ k = 2) → T (sI S 20 y9) (pAfter y5 k)) (h2 : ¬ (y5 = 0 ∧ ¬ k = 2) → T S (pAfter y5 k)) : ((¬ y5 = 0 → ((¬ k = 0 → ((¬ k = 1 → ((y5 = 1 → (T S 3)) ∧ (¬ y5 = 1 → ((¬ y5 = 2 → (T S y5)) ∧ (y5 = 2 → (T S 3)))))) ∧ (k = 1 → ((¬ y5 = 0 → (T S y5)) ∧ (y5 = 0 → (T S 1)))))) ∧ (k = 0 → (T S 2)))) ∧ (y5 = 0 → ((k = 2 → ((¬ k = 0 → ((¬ k = 1 → ((y5 = 1 → (T S 3)) ∧ (¬ y5 = 1 → ((¬ y5 = 2 → (T S y5)) ∧ (y5 = 2 → (T S 3)))))) ∧ (k = 1 → ((¬ y5 = 0 → (T S y5)) ∧ (y5 = 0 → (T S 1)))))) ∧ (k = 0 → (T S 2)))) ∧ (¬ k = 2 → ((¬ k = 0 → ((¬ k = 1 → ((y5 = 1 → (T (sI S 20 y9) 3)) ∧ (¬ y5 = 1 → ((¬ y5 = 2 → (T (sI S 20 y9) y5)) ∧ (y5 = 2 → (T (sI S 20 y9) 3)))))) ∧ (k = 1 → ((¬ y5 = 0 → (T (sI S 20 y9) y5)) ∧ (y5 = 0 → (T (sI S 20 y9) 1)))))) ∧ (k = 0 → (T (sI S 20 y9) 2))))))) := by
  have k3 : k = 0 ∨ k = 1 ∨ k = 2 := by grind
  have y4 : y5 = 0 ∨ y5 = 1 ∨ y5 = 2 ∨ y5 = 3 := by grind
  rcases k3 with rfl | rfl | rfl <;> rcases y4 with rfl | rfl | rfl | rfl <;> first | simpa [pAfter] using h1 (by decide) | simpa [pAfter] using h2 (by decide)
def lxI (fr : Nat → Int32) (i j : Nat) : Prop := fr i < fr j ∨ (fr i = fr j ∧ i < j)
def JB (fr : Nat → Int32) (sel : Nat → Bool) (B : Nat → Prop) (i : Nat) (y : Int32) : Prop := (y = -1 ∧ ∀ k, k < i → sel k = true → ¬ B k) ∨ (∃ b, b < i ∧ y = nI b ∧ sel b = true ∧ B b ∧ ∀ k, k < i → sel k = true → B k → ¬ lxI fr k b)
theorem JB.keep {fr : Nat → Int32} {sel : Nat → Bool} {B : Nat → Prop} {i : Nat} {y : Int32} (h : JB fr sel B i y) (hn : sel i = true → ¬ B i) : JB fr sel B (i + 1) y := by
  rcases h with ⟨e, h⟩ | ⟨b, hb, e, h1, h2, h3⟩
  · refine Or.inl ⟨e, fun k hk hs => ?_⟩
    by_cases z : k = i
    · subst z; exact hn hs
    · exact h k (by omega) hs
  · refine Or.inr ⟨b, by omega, e, h1, h2, fun k hk hs hB => ?_⟩
    by_cases z : k = i
    · subst z; exact absurd hB (hn hs)
    · exact h3 k (by omega) hs hB
theorem JB.take {fr : Nat → Int32} {sel : Nat → Bool} {B : Nat → Prop} {i : Nat} {y : Int32} (hi : i < 100) (h : JB fr sel B i y) (hs : sel i = true) (hB : B i) {T : Int32 → Prop} (k : ∀ y', JB fr sel B (i + 1) y' → T y') :
    (y = -1 → T (nI i)) ∧ (¬ y = -1 → ((0 ≤ y ∧ y < 100) ∧ ((fr (ix y) ≤ fr i → T y) ∧ (¬ fr (ix y) ≤ fr i → T (nI i))))) := by
  rcases h with ⟨e, h⟩ | ⟨b, hb, e, h1, h2, h3⟩
  · refine ⟨fun _ => k _ (Or.inr ⟨i, by omega, rfl, hs, hB, fun j hj hs' hB' => ?_⟩), fun c => absurd e c⟩
    by_cases z : j = i
    · subst z
      rintro (z | z)
      · exact Int32.lt_irrefl z
      · omega
    · exact absurd hB' (h j (by omega) hs')
  · subst e
    refine ⟨fun c => absurd c.symm (neg1_nI (by omega)), fun _ => ⟨bnd (n := 100) (by omega) (by omega) rfl, ?_⟩⟩
    rw [ixn (by omega)]
    refine ⟨fun c => k _ (Or.inr ⟨b, by omega, rfl, h1, h2, fun j hj hs' hB' => ?_⟩), fun c => k _ (Or.inr ⟨i, by omega, rfl, hs, hB, fun j hj hs' hB' => ?_⟩)⟩
    · by_cases z : j = i
      · subst z
        rintro (z | z)
        · exact absurd c (Int32.not_le.mpr z)
        · omega
      · exact h3 j (by omega) hs' hB'
    · by_cases z : j = i
      · subst z
        rintro (z | z)
        · exact Int32.lt_irrefl z
        · omega
      · have q := h3 j (by omega) hs' hB'
        rintro (z | z)
        · exact q (Or.inl (Int32.lt_trans z (Int32.not_le.mp c)))
        · exact q (Or.inl (by rw [z.1]; exact Int32.not_le.mp c))
theorem sI_tw (M : StM) (k : Nat) (a b : Int32) : sI (sI M k a) k b = sI M k b := by
  simp only [sI]
  congr 1
  funext j
  simp only [va_up]
  split <;> rfl
theorem ct_groundOf {E : EvT} {q : Nat → Nat} {d : Nat} {M : StM} {n : Nat} (hn : s_digs M = nI n) (h100 : n ≤ 100) (hw : ¬ s_wide M = 0) {o : Nat → Nat} (hL : LexO o (a_digFrom M) n) (hk : ∀ i, i < n → 0 ≤ a_digKind M i ∧ a_digKind M i ≤ 2) (hf : ∀ i, i < n → 0 ≤ a_digFrom M i) (c l w t : Int32) : C_groundOf E q (d + 3) c l w t M (fun r M1 => r = (gF o (selG M c l w t) (a_digKind M) n).1 ∧ M1 = sI M 20 (gF o (selG M c l w t) (a_digKind M) n).2) := by
  refine en_groundOf ?_
  obtain ⟨L1, L2, L3⟩ := hL
  generalize hsel : selG M c l w t = sel
  generalize hP : (fun r M1 => r = (gF o sel (a_digKind M) n).1 ∧ M1 = sI M 20 (gF o sel (a_digKind M) n).2) = P
  have key : ∀ m j, n - j ≤ m → j ≤ n → ∀ y6 y7 : Int32, (∀ k, k < n → sel (o k) = true → (bhd (a_digFrom M) y6 y7 (o k) ↔ j ≤ k)) → T_groundOf_17 E q (d + 3) P (sI M 20 (gF o sel (a_digKind M) j).2) c l w t (gF o sel (a_digKind M) j).1 y6 y7 1 := by
    intro m
    induction m with
    | zero =>
      intro j hm hj y6 y7 hb
      have : j = n := by omega
      subst this
      refine sg_groundOf_17 ⟨fun z => absurd z (by decide), fun _ => ?_⟩
      refine up_s (W := j) (T := fun i y => T_groundOf_28 E q (d + 3) P (sI M 20 (gF o sel (a_digKind M) j).2) c l w t (gF o sel (a_digKind M) j).1 y6 y7 y (nI i)) (J := JB (a_digFrom M) sel (bhd (a_digFrom M) y6 y7)) ?_ ?_ 0 (-1) (by omega) (Or.inl ⟨rfl, fun k hk => absurd hk (by omega)⟩)
      · intro y hy
        refine sg_groundOf_28 ⟨fun _ => ⟨fun e => sg_groundOf_17 ⟨fun _ => ?_, fun z => absurd rfl z⟩, fun e => ?_⟩, fun z => absurd (by show s_digs M ≤ _; rw [hn]; exact Int32.le_refl _) z⟩
        · rw [← hP]
          exact ⟨rfl, rfl⟩
        · rcases hy with ⟨z, -⟩ | ⟨b, hb1, -, hb2, hb3, -⟩
          · exact absurd z e
          · obtain ⟨k, hk1, hk2⟩ := L2 b hb1
            subst hk2
            have := (hb k hk1 hb2).mp hb3
            omega
      · intro i y hi hy k
        have ek : ∀ y', JB (a_digFrom M) sel (bhd (a_digFrom M) y6 y7) (i + 1) y' → T_groundOf_28 E q (d + 3) P (sI M 20 (gF o sel (a_digKind M) j).2) c l w t (gF o sel (a_digKind M) j).1 y6 y7 y' (nI i + 1) := by
          intro y' h'
          rw [nI_s]
          exact k y' h'
        have b1 : (0 : Int32) ≤ nI i ∧ nI i < 100 := bnd (n := 100) (by omega) (by omega) rfl
        have hs : sel i = (mKnown M (nI i) t && mHas M (nI i) c l && decide (a_digFrom M i ≤ w)) := by rw [← hsel]; rfl
        refine sg_groundOf_28 ⟨fun z => absurd z (by show ¬ s_digs M ≤ _; exact nle_nI hi (by omega) hn), fun _ => ⟨b1, fun e1 => ?_, fun e1 => ⟨⟨hw, b1⟩, fun e2 => ?_, fun e2 => ⟨b1, fun e3 => ?_, fun e3 => ?_⟩⟩⟩⟩
        · exact ek _ (hy.keep (fun z => by rw [hs, show mKnown M (nI i) t = false from e1] at z; simp at z))
        · exact ek _ (hy.keep (fun z => by rw [hs, show mHas M (nI i) c l = false from e2] at z; simp at z))
        · rw [ixn (by omega)] at e3 ⊢
          have hs1 : sel i = true := by
            rw [hs, show mKnown M (nI i) t = true from e1, show mHas M (nI i) c l = true from e2]
            have e3' : a_digFrom M i ≤ w := e3
            simpa using e3'
          refine ⟨fun e4 => hy.take (by omega) hs1 (Or.inl e4) ek, fun e4 => ⟨fun e5 => ek _ (hy.keep (fun _ z => ?_)), fun e5 => ⟨fun e6 => ek _ (hy.keep (fun _ z => ?_)), fun e6 => hy.take (by omega) hs1 (Or.inr ⟨e5, Int32.not_le.mp e6⟩) ek⟩⟩⟩
          · rcases z with z | z
            · exact e4 z
            · exact e5 z.1
          · rcases z with z | z
            · exact e4 z
            · exact absurd e6 (Int32.not_le.mpr z.2)
        · exact ek _ (hy.keep (fun z => by rw [hs] at z; rw [ixn (by omega)] at e3; simp [e3] at z; exact absurd z.2 e3))
    | succ m ih =>
      intro j hm hj y6 y7 hb
      refine sg_groundOf_17 ⟨fun z => absurd z (by decide), fun _ => ?_⟩
      refine up_s (W := n) (T := fun i y => T_groundOf_28 E q (d + 3) P (sI M 20 (gF o sel (a_digKind M) j).2) c l w t (gF o sel (a_digKind M) j).1 y6 y7 y (nI i)) (J := JB (a_digFrom M) sel (bhd (a_digFrom M) y6 y7)) ?_ ?_ 0 (-1) (by omega) (Or.inl ⟨rfl, fun k hk => absurd hk (by omega)⟩)
      · intro y hy
        refine sg_groundOf_28 ⟨fun _ => ⟨fun e => sg_groundOf_17 ⟨fun _ => ?_, fun z => absurd rfl z⟩, fun e => ?_⟩, fun z => absurd (by show s_digs M ≤ _; rw [hn]; exact Int32.le_refl _) z⟩
        · have hno : ∀ i, j ≤ i → i < j + (n - j) → sel (o i) = false := by
            intro i h1 h2
            by_cases z : sel (o i) = true
            · have hB := (hb i (by omega) z).mpr h1
              rcases hy with ⟨-, hy⟩ | ⟨b, hb1, hb0, -⟩
              · exact absurd hB (hy (o i) (L1 i (by omega)) z)
              · rw [e] at hb0
                exact absurd hb0 (neg1_nI (by omega))
            · simpa using z
          have hg := gF_skip (kd := a_digKind M) (n - j) hno
          rw [show j + (n - j) = n by omega] at hg
          rw [← hP, hg]
          exact ⟨rfl, rfl⟩
        · rcases hy with ⟨z, -⟩ | ⟨b, hb1, rfl, hb2, hb3, hb4⟩
          · exact absurd z e
          · obtain ⟨k, hk1, hk2⟩ := L2 b hb1
            subst hk2
            have hjk := (hb k hk1 hb2).mp hb3
            have hno : ∀ i, j ≤ i → i < j + (k - j) → sel (o i) = false := by
              intro i h1 h2
              by_cases z : sel (o i) = true
              · have hB := (hb i (by omega) z).mpr h1
                exact absurd (L3 i k (by omega) hk1) (hb4 (o i) (L1 i (by omega)) z hB)
              · simpa using z
            have hg := gF_skip (kd := a_digKind M) (k - j) hno
            rw [show j + (k - j) = k by omega] at hg
            refine ⟨bnd (n := 100) (by omega) (by omega) rfl, ?_⟩
            refine gr_body (T := fun S v => T_groundOf_17 E q (d + 3) P S c l w t v (a_digFrom M (ix (nI (o k)))) (nI (o k)) 1) (gF_rng j) (by show 0 ≤ a_digKind M (ix (nI (o k))) ∧ a_digKind M (ix (nI (o k))) ≤ 2; rw [ixn (by omega)]; exact hk (o k) hb1) ?_ ?_ <;> (show _ → T_groundOf_17 E q (d + 3) P _ c l w t (pAfter _ (a_digKind M (ix (nI (o k))))) (a_digFrom M (ix (nI (o k)))) (nI (o k)) 1) <;> rw [show a_digKind (sI M 20 (gF o sel (a_digKind M) j).2) (ix (nI (o k))) = a_digKind M (o k) from by rw [ixn (by omega)]; rfl] <;> rw [ixn (by omega)] <;> intro z
            all_goals
              have h1 := ih (k + 1) (by omega) (by omega) (a_digFrom M (o k)) (nI (o k)) (fun i hi hs => by
                have hoi := L1 i hi
                constructor
                · intro z
                  rcases Nat.lt_or_ge k i with q | q
                  · exact q
                  · exfalso
                    rcases Nat.lt_or_eq_of_le q with q | q
                    · rcases z with z | z <;> rcases L3 i k q hk1 with r | r
                      · exact Int32.lt_irrefl (Int32.lt_trans z r)
                      · rw [r.1] at z; exact Int32.lt_irrefl z
                      · rw [z.1] at r; exact Int32.lt_irrefl r
                      · have := (nI_ltI (a := o k) (b := o i) (by omega) (by omega)).mp z.2
                        omega
                    · subst q
                      rcases z with z | z
                      · exact Int32.lt_irrefl z
                      · exact Int32.lt_irrefl z.2
                · intro z
                  rcases L3 k i (by omega) hi with r | r
                  · exact Or.inl r
                  · exact Or.inr ⟨r.1.symm, nI_lt r.2 (by omega)⟩)
              have hg1 : gF o sel (a_digKind M) (k + 1) = (pAfter (gF o sel (a_digKind M) j).1 (a_digKind M (o k)), if (gF o sel (a_digKind M) j).1 = 0 ∧ ¬ a_digKind M (o k) = 2 then nI (o k) else (gF o sel (a_digKind M) j).2) := by
                rw [gF, if_pos hb2, hg]
              rw [hg1] at h1
            · rw [if_pos z] at h1
              rw [sI_tw]
              exact h1
            · rw [if_neg z] at h1
              exact h1
      · intro i y hi hy k
        have ek : ∀ y', JB (a_digFrom M) sel (bhd (a_digFrom M) y6 y7) (i + 1) y' → T_groundOf_28 E q (d + 3) P (sI M 20 (gF o sel (a_digKind M) j).2) c l w t (gF o sel (a_digKind M) j).1 y6 y7 y' (nI i + 1) := by
          intro y' h'
          rw [nI_s]
          exact k y' h'
        have b1 : (0 : Int32) ≤ nI i ∧ nI i < 100 := bnd (n := 100) (by omega) (by omega) rfl
        have hs : sel i = (mKnown M (nI i) t && mHas M (nI i) c l && decide (a_digFrom M i ≤ w)) := by rw [← hsel]; rfl
        refine sg_groundOf_28 ⟨fun z => absurd z (by show ¬ s_digs M ≤ _; exact nle_nI hi (by omega) hn), fun _ => ⟨b1, fun e1 => ?_, fun e1 => ⟨⟨hw, b1⟩, fun e2 => ?_, fun e2 => ⟨b1, fun e3 => ?_, fun e3 => ?_⟩⟩⟩⟩
        · exact ek _ (hy.keep (fun z => by rw [hs, show mKnown M (nI i) t = false from e1] at z; simp at z))
        · exact ek _ (hy.keep (fun z => by rw [hs, show mHas M (nI i) c l = false from e2] at z; simp at z))
        · rw [ixn (by omega)] at e3 ⊢
          have hs1 : sel i = true := by
            rw [hs, show mKnown M (nI i) t = true from e1, show mHas M (nI i) c l = true from e2]
            have e3' : a_digFrom M i ≤ w := e3
            simpa using e3'
          refine ⟨fun e4 => hy.take (by omega) hs1 (Or.inl e4) ek, fun e4 => ⟨fun e5 => ek _ (hy.keep (fun _ z => ?_)), fun e5 => ⟨fun e6 => ek _ (hy.keep (fun _ z => ?_)), fun e6 => hy.take (by omega) hs1 (Or.inr ⟨e5, Int32.not_le.mp e6⟩) ek⟩⟩⟩
          · rcases z with z | z
            · exact e4 z
            · exact e5 z.1
          · rcases z with z | z
            · exact e4 z
            · exact absurd e6 (Int32.not_le.mpr z.2)
        · exact ek _ (hy.keep (fun z => by rw [hs] at z; rw [ixn (by omega)] at e3; simp [e3] at z; exact absurd z.2 e3))
  refine key n 0 (by omega) (by omega) (-1) (-1) (fun k hk hs => ⟨fun _ => by omega, fun _ => Or.inl ?_⟩)
  have := hf (o k) (L1 k hk)
  grind
