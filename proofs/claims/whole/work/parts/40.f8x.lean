/-! the hours of the ash: the class -/
def xH (X : StX) (e l : Nat → Int32) : StX := xA (xA X 3 e) 4 l
theorem xA_cm (S : StX) {j k : Nat} (h : j ≠ k) (u v : Nat → Int32) : xA (xA S j u) k v = xA (xA S k v) j u := by
  simp only [xA]
  congr 2
  funext i
  simp only [va_up]
  split
  · split
    · omega
    · rfl
  · rfl
theorem xH_3 (X : StX) (e l x : Nat → Int32) : xA (xH X e l) 3 x = xH X x l := by
  rw [xH, xA_cm _ (j := 4) (k := 3) (by decide), xA_tw, ← xH]
theorem xH_4 (X : StX) (e l x : Nat → Int32) : xA (xH X e l) 4 x = xH X e x := by
  rw [xH, xA_tw, ← xH]
theorem ct_Fall_push {E : EvT} {q : Nat → Nat} {d : Nat} {X : StX} {M : StM} (hA : RAs X M) {p : Nat} {e l : Nat → Int32} (he : eq8 e (hE M p)) (hl : eq8 l (hL M p)) : C_Fall_push E q d (xH X e l) (fun r X1 => (r = false ↔ hOk M p) ∧ ∃ e' l', X1 = xH X e' l' ∧ eq8 e' (hE M (p + 1)) ∧ eq8 l' (hL M (p + 1))) := by
  obtain ⟨en, n40⟩ := hA.cu
  obtain ⟨f1, f2, f3, -⟩ := hA.1
  refine en_Fall_push ?_
  have key := up_s (W := nCu M) (T := fun i (y : (Nat → Int32) × (Nat → Int32) × Int32) => T_Fall_push_4 E q d (fun r X1 => (r = false ↔ hOk M p) ∧ ∃ e' l', X1 = xH X e' l' ∧ eq8 e' (hE M (p + 1)) ∧ eq8 l' (hL M (p + 1))) (xH X y.1 y.2.1) y.2.2 (nI i)) (J := fun i y => eq8 y.1 (hEi M p i) ∧ eq8 y.2.1 (hLi M p i) ∧ FlI M p i y.2.2) ?_ ?_ 0 (e, l, 0) (by omega) ⟨he, hl, Or.inl ⟨rfl, fun j hj => absurd hj (Nat.not_lt_zero j)⟩⟩
  · exact key
  · rintro ⟨e', l', fl'⟩ ⟨je, jl, jf⟩
    have jf : FlI M p (nCu M) fl' := jf
    refine sg_Fall_push_4 ⟨fun _ => ?_, fun z => absurd (by show xs_Fall_cuts X ≤ _; rw [f1, en]; exact Int32.le_refl _) z⟩
    rcases Classical.em (fl' = 0) with c | c
    · subst c
      exact ⟨false, rfl, ⟨fun _ => jf.no, fun _ => rfl⟩, e', l', rfl, je, jl⟩
    · have c1 : fl' = 1 := by
        rcases jf with ⟨z, -⟩ | ⟨z, -⟩
        · exact absurd z c
        · exact z
      subst c1
      exact ⟨true, rfl, ⟨fun z => Bool.noConfusion z, fun z => absurd z jf.yes.1⟩, e', l', rfl, je, jl⟩
  · rintro i ⟨e', l', fl'⟩ hi ⟨je, jl, jf⟩ kk
    have je : eq8 e' (hEi M p i) := je
    have jl : eq8 l' (hLi M p i) := jl
    have jf : FlI M p i fl' := jf
    obtain ⟨ba, bb⟩ := hA.2.2.1 i hi
    obtain ⟨a8, b8⟩ := hA.lt8 hi
    have sE : eq8 (stG rE8 fE (cA M i) (cB M i) e') (hEi M p (i + 1)) := stG_c a8 b8 je
    have sL : eq8 (stG rL8 fL (cB M i) (cA M i) l') (hLi M p (i + 1)) := stG_c b8 a8 jl
    have fl1 := FlI.step hA hi jf (s1 := rE8 (e' (cB M i)) (e' (cA M i))) (s2 := rL8 (l' (cA M i)) (l' (cB M i))) (by rw [je _ a8, je _ b8]) (by rw [jl _ a8, jl _ b8])
    refine sg_Fall_push_4 ⟨fun z => absurd z (by show ¬ xs_Fall_cuts X ≤ _; exact nle_nI hi (by omega) (f1.trans en)), fun _ => ⟨bnd (n := 40) (by omega) (by omega) rfl, ?_⟩⟩
    rw [ixn (show i < 2 ^ 31 by omega), show xa_Fall_upper (xH X e' l') = a_cutA M from f2, show xa_Fall_lower (xH X e' l') = a_cutB M from f3, nI_s]
    refine ⟨ba, bb, ?_⟩
    show (e' (cB M i) + 1 ≤ e' (cA M i) → (l' (cB M i) ≤ l' (cA M i) - 1 → _) ∧ (¬ l' (cB M i) ≤ l' (cA M i) - 1 → _)) ∧ (¬ e' (cB M i) + 1 ≤ e' (cA M i) → (l' (cB M i) ≤ l' (cA M i) - 1 → _) ∧ (¬ l' (cB M i) ≤ l' (cA M i) - 1 → _))
    simp only [xH_3, xH_4]
    refine ⟨fun c1 => ⟨fun c2 => ?_, fun c2 => ?_⟩, fun c1 => ⟨fun c2 => ?_, fun c2 => ?_⟩⟩
    · have d1 : rE8 (e' (cB M i)) (e' (cA M i)) = true := decide_eq_true c1
      have d2 : rL8 (l' (cA M i)) (l' (cB M i)) = true := decide_eq_true c2
      rw [stG, if_pos d1] at sE
      rw [stG, if_pos d2] at sL
      rw [if_pos ⟨d1, d2⟩] at fl1
      exact kk (e', l', fl') ⟨sE, sL, fl1⟩
    · have d1 : rE8 (e' (cB M i)) (e' (cA M i)) = true := decide_eq_true c1
      have d2 : ¬ rL8 (l' (cA M i)) (l' (cB M i)) = true := fun z => c2 (of_decide_eq_true z)
      rw [stG, if_pos d1] at sE
      rw [stG, if_neg d2] at sL
      rw [if_neg (fun z => d2 z.2)] at fl1
      exact kk (e', _, 1) ⟨sE, sL, fl1⟩
    · have d1 : ¬ rE8 (e' (cB M i)) (e' (cA M i)) = true := fun z => c1 (of_decide_eq_true z)
      have d2 : rL8 (l' (cA M i)) (l' (cB M i)) = true := decide_eq_true c2
      rw [stG, if_neg d1] at sE
      rw [stG, if_pos d2] at sL
      rw [if_neg (fun z => d1 z.1)] at fl1
      exact kk (_, l', 1) ⟨sE, sL, fl1⟩
    · have d1 : ¬ rE8 (e' (cB M i)) (e' (cA M i)) = true := fun z => c1 (of_decide_eq_true z)
      have d2 : ¬ rL8 (l' (cA M i)) (l' (cB M i)) = true := fun z => c2 (of_decide_eq_true z)
      rw [stG, if_neg d1] at sE
      rw [stG, if_neg d2] at sL
      rw [if_neg (fun z => d1 z.1)] at fl1
      exact kk (_, _, 1) ⟨sE, sL, fl1⟩
theorem ct_Fall_reckon {E : EvT} {q : Nat → Nat} {d : Nat} {X : StX} {M : StM} (hA : RAs X M) (P : Bool → StX → Prop) (h1 : ¬ HrOK M → ∀ e l, P false (xH X e l)) (h2 : HrOK M → ∀ e l, eq8 e (hE M 7) → eq8 l (hL M 7) → P true (xH X e l)) : C_Fall_reckon E q (d + 1) X P := by
  obtain ⟨-, -, -, f4, f5, -⟩ := hA.1
  have last : ∀ k e l fl, eq8 e (hE M k) → eq8 l (hL M k) → (fl = 0 ∧ hOk M k ∨ fl = 1 ∧ ¬ HrOK M) → T_Fall_reckon_57 E q (d + 1) P (xH X e l) fl 0 := by
    intro k e l fl he hl hf
    have key := up_s (W := 8) (T := fun i (y : Int32) => T_Fall_reckon_57 E q (d + 1) P (xH X e l) y (nI i)) (J := fun i y => (y = 0 ∧ hOk M k ∧ ∀ v, v < i → hE M k v ≤ hL M k v) ∨ (y = 1 ∧ ¬ HrOK M)) ?_ ?_ 0 fl (by omega) ?_
    · exact key
    · intro y hJ
      refine sg_Fall_reckon_57 ⟨fun _ => ⟨fun z => ?_, fun z => ?_⟩, fun z => absurd (by decide) z⟩
      · rcases hJ with ⟨c, -⟩ | ⟨-, c⟩
        · exact absurd c z
        · exact h1 c e l
      · rcases hJ with ⟨-, o, g⟩ | ⟨c, -⟩
        · have H := hOk_7 hA o g
          obtain ⟨q1, q2⟩ := hOk_eq o H.1
          exact h2 H e l (by rw [← q1]; exact he) (by rw [← q2]; exact hl)
        · exact absurd (c.symm.trans z) (by decide)
    · intro i y hi hJ kk
      refine sg_Fall_reckon_57 ⟨fun z => absurd z (nle_nI (n := 8) hi (by omega) rfl), fun _ => ⟨bnd (n := 8) hi (by omega) rfl, ?_⟩⟩
      rw [ixn (show i < 2 ^ 31 by omega), nI_s]
      show (e i ≤ l i → _) ∧ (¬ e i ≤ l i → _)
      rw [he i hi, hl i hi]
      refine ⟨fun z => kk _ ?_, fun z => kk _ ?_⟩
      · rcases hJ with ⟨c, o, g⟩ | ⟨c, g⟩
        · subst c
          refine Or.inl ⟨by decide, o, fun v hv => ?_⟩
          by_cases y : v = i
          · subst y; exact z
          · exact g v (by omega)
        · subst c
          exact Or.inr ⟨by decide, g⟩
      · rcases hJ with ⟨c, o, g⟩ | ⟨c, g⟩
        · subst c
          refine Or.inr ⟨by decide, fun H => ?_⟩
          obtain ⟨q1, q2⟩ := hOk_eq o H.1
          have := H.2 i hi
          rw [← q1, ← q2] at this
          exact z this
        · subst c
          exact Or.inr ⟨by decide, g⟩
    · rcases hf with ⟨c, o⟩ | c
      · exact Or.inl ⟨c, o, fun v hv => absurd hv (Nat.not_lt_zero v)⟩
      · exact Or.inr c
  refine en_Fall_reckon ?_
  have key := up_s (W := 8) (T := fun i (y : (Nat → Int32) × (Nat → Int32) × Int32) => T_Fall_reckon_34 E q (d + 1) P (xH X y.1 y.2.1) y.2.2 (nI i)) (J := fun i y => eq8 y.1 (hE M i) ∧ eq8 y.2.1 (hL M i) ∧ (y.2.2 = 0 ∧ hOk M i ∨ y.2.2 = 1 ∧ ∀ j, j < i → ¬ hOk M j)) ?_ ?_ 0 (va_cpy (xa_Fall_from X) (xa_Fall_earliest X) 0 0 8, va_cpy (xa_Fall_to X) (xa_Fall_latest X) 0 0 8, 1) (by omega) ⟨?_, ?_, Or.inr ⟨rfl, fun j hj => absurd hj (Nat.not_lt_zero j)⟩⟩
  · exact key
  · rintro ⟨e, l, fl⟩ ⟨je, jl, jf⟩
    refine sg_Fall_reckon_34 ⟨fun _ => last 8 e l fl je jl ?_, fun z => absurd (by decide) z⟩
    rcases jf with c | ⟨c, o⟩
    · exact Or.inl c
    · exact Or.inr ⟨c, fun H => o 7 (by omega) H.1⟩
  · rintro i ⟨e, l, fl⟩ hi ⟨je, jl, jf⟩ kk
    refine sg_Fall_reckon_34 ⟨fun z => absurd z (nle_nI (n := 8) hi (by omega) rfl), fun _ => ⟨fun z => ?_, fun z => ?_⟩⟩
    · rcases jf with c | ⟨c, o⟩
      · exact last i e l fl je jl (Or.inl c)
      · exact absurd (c.symm.trans z) (by decide)
    · refine mBx (ct_Fall_push hA je jl) (fun r X1 h => ?_)
      obtain ⟨hr, e', l', rfl, he', hl'⟩ := h
      rw [nI_s]
      refine kk (e', l', b2i r) ⟨he', hl', ?_⟩
      rcases jf with ⟨c, -⟩ | ⟨-, o⟩
      · exact absurd c z
      · cases r with
        | false =>
          have o := hr.mp rfl
          obtain ⟨q1, q2⟩ := hOk_st o 1
          refine Or.inl ⟨rfl, ?_⟩
          rw [hOk, q1, q2]
          exact o
        | true =>
          refine Or.inr ⟨rfl, fun j hj => ?_⟩
          by_cases y : j = i
          · subst y; exact fun w => by have := hr.mpr w; cases this
          · exact o j (by omega)
  · intro v hv
    show va_cpy (xa_Fall_from X) (xa_Fall_earliest X) 0 0 8 v = a_hourFrom M v
    rw [va_cpy, if_pos ⟨by omega, by omega⟩, f4, Nat.zero_add, Nat.sub_zero]
  · intro v hv
    show va_cpy (xa_Fall_to X) (xa_Fall_latest X) 0 0 8 v = a_hourTo M v
    rw [va_cpy, if_pos ⟨by omega, by omega⟩, f5, Nat.zero_add, Nat.sub_zero]
