/-! finds: named, placesOf -/
def nmP (B : BkT) (M : StM) (h w : Int32) (i p n : Nat) : Prop := ∃ n', n' < n ∧ linB B M h w i (a_placeKind M p) n' ∧ meanV M (nI n') (a_findNumber M i) w = nI p
theorem meanF_ok {X : StX} {M : StM} (hMe : RMe X M) {x y w : Int32} : meanV M x y w = -1 ∨ ∃ p, p < 30 ∧ meanV M x y w = nI p := by
  have key : ∀ n, n ≤ nMe M → meanF (a_meansBy M) (a_meansNumber M) (a_meansPlace M) (a_meansFrom M) (a_meansTo M) x y w n = -1 ∨ ∃ p, p < 30 ∧ meanF (a_meansBy M) (a_meansNumber M) (a_meansPlace M) (a_meansFrom M) (a_meansTo M) x y w n = nI p := by
    intro n
    induction n with
    | zero => intro _; exact Or.inl rfl
    | succ n ih =>
      intro hn
      rw [meanF]
      split
      · obtain ⟨-, -, -, k1, k2⟩ := hMe.2.2 n hn
        exact Or.inr ⟨ix (a_meansPlace M n), ix_lt (n := 30) k1 k2 (by omega), (nix k1).symm⟩
      · exact ih (by omega)
  exact key (nMe M) (Nat.le_refl _)
theorem ct_Finds_named {E : EvT} {q : Nat → Nat} {d : Nat} {B : BkT} {X : StX} {M : StM} (hF : FH B X M) {i : Nat} (hi : i < nFi M) (h0 : ¬ a_findNumber M i = 0) {w h : Int32} {dg : Nat → Bool} : C_Finds_named E q (d + 5) (nI i) w (bitsP dg (nP M)) h X (fun r X1 => r = bitsP (fun p => dg p && dcd (nmP B M h w i p 4)) (nP M) ∧ keptX X X1 ∧ xa_Finds_dugIn X1 = xa_Finds_dugIn X) := by
  obtain ⟨hG, hP, hD, hMe, hFi, hR⟩ := hF
  obtain ⟨ef, f150⟩ := hFi.n
  obtain ⟨en, n30⟩ := hP.n
  have bi : (0 : Int32) ≤ nI i ∧ nI i < 150 := bnd (n := 150) (by omega) (by omega) rfl
  refine en_Finds_named ?_
  refine up_s (W := 4) (T := fun n (z : Int32 × StX) => T_Finds_named_14 E q (d + 5) (fun r X1 => r = bitsP (fun p => dg p && dcd (nmP B M h w i p 4)) (nP M) ∧ keptX X X1 ∧ xa_Finds_dugIn X1 = xa_Finds_dugIn X) z.2 (nI i) w (bitsP dg (nP M)) h z.1 (nI n)) (J := fun n z => (keptX X z.2 ∧ xa_Finds_dugIn z.2 = xa_Finds_dugIn X) ∧ z.1 = bitsP (fun p => dg p && dcd (nmP B M h w i p n)) (nP M) ∧ ∀ k, k < 3 → xa_Finds_linesOfKind z.2 k = -1 ∨ xa_Finds_linesOfKind z.2 k = linV B M (fcF w h (a_findKind M i) (a_findMarks M i) (nI k))) ?_ ?_ 0 (0, _) (by omega) ⟨⟨(keptX.rf X).xA rfl _, rfl⟩, ?_, fun k hk => Or.inl ?_⟩
  · rintro ⟨y, Y⟩ ⟨⟨hk, hdu⟩, hy, -⟩
    exact sg_Finds_named_14 ⟨fun _ => ⟨hy, hk, hdu⟩, fun z => absurd (by decide) z⟩
  · rintro n ⟨y, Y⟩ hn ⟨⟨hk, hdu⟩, hy, hl⟩ kk
    have hk : keptX X Y := hk
    have hdu : xa_Finds_dugIn Y = xa_Finds_dugIn X := hdu
    have hyy : y = bitsP (fun p => dg p && dcd (nmP B M h w i p n)) (nP M) := hy
    have hl : ∀ k, k < 3 → xa_Finds_linesOfKind Y k = -1 ∨ xa_Finds_linesOfKind Y k = linV B M (fcF w h (a_findKind M i) (a_findMarks M i) (nI k)) := hl
    have c5 : xa_Finds_number Y = a_findNumber M := (hk.a rfl).trans hFi.1.2.2.2.2.1
    have c8 : xa_Finds_kind Y = a_findKind M := (hk.a rfl).trans hFi.1.2.2.2.2.2.2.2.1
    have c9 : xa_Finds_marks Y = a_findMarks M := (hk.a rfl).trans hFi.1.2.2.2.2.2.2.2.2.1
    have c1 : xa_Plan_kind Y = a_placeKind M := (hk.a rfl).trans hP.2.1
    have nob := (hFi.2.2 i hi).2.2.1
    have stp : ∀ p, nmP B M h w i p (n + 1) ↔ (nmP B M h w i p n ∨ (linB B M h w i (a_placeKind M p) n ∧ meanV M (nI n) (a_findNumber M i) w = nI p)) := by
      intro p
      constructor
      · rintro ⟨n', a, b⟩
        by_cases e : n' = n
        · subst e; exact Or.inr b
        · exact Or.inl ⟨n', by omega, b⟩
      · rintro (⟨n', a, b⟩ | b)
        · exact ⟨n', by omega, b⟩
        · exact ⟨n, by omega, b⟩
    -- nothing new
    have same : ∀ Z, keptX X Z → xa_Finds_dugIn Z = xa_Finds_dugIn X → (∀ k, k < 3 → xa_Finds_linesOfKind Z k = -1 ∨ xa_Finds_linesOfKind Z k = linV B M (fcF w h (a_findKind M i) (a_findMarks M i) (nI k))) → (∀ p, p < nP M → dg p = true → ¬ (linB B M h w i (a_placeKind M p) n ∧ meanV M (nI n) (a_findNumber M i) w = nI p)) → T_Finds_named_14 E q (d + 5) (fun r X1 => r = bitsP (fun p => dg p && dcd (nmP B M h w i p 4)) (nP M) ∧ keptX X X1 ∧ xa_Finds_dugIn X1 = xa_Finds_dugIn X) Z (nI i) w (bitsP dg (nP M)) h y (nI n + 1) := by
      intro Z hk hdu hl hno
      rw [nI_s]
      refine kk (y, Z) ⟨⟨hk, hdu⟩, ?_, hl⟩
      show y = _
      rw [hyy]
      apply bitsP_cong
      intro p hp
      by_cases e : dg p = true
      · rw [e, Bool.true_and, Bool.true_and]
        refine dcd_c ?_
        rw [stp]
        exact ⟨Or.inl, fun z => z.elim id (fun x => absurd x (hno p hp e))⟩
      · rw [Bool.not_eq_true] at e
        rw [e]; rfl
    refine sg_Finds_named_14 ⟨fun z => absurd z (nle_nI (n := 4) hn (by omega) rfl), fun _ => ⟨bi, ?_⟩⟩
    rw [ixn (show i < 2 ^ 31 by omega), c5]
    have hn3 : (0 : Int32) ≤ nI n ∧ nI n ≤ 3 := ⟨nI_pos' (by omega), nI_le (b := 3) (by omega) (by omega)⟩
    have hno : 1 ≤ a_findNumber M i ∧ a_findNumber M i ≤ 99 := ⟨by
      have e := (nix nob.1).symm
      have : ¬ ix (a_findNumber M i) = 0 := fun y => h0 (by rw [e, y]; rfl)
      rw [e]
      exact nI_le (a := 1) (by omega) (ix_31 _), nob.2⟩
    refine mIx (ct_Plan_meant (hk.to (fun Y => RMe Y M) hMe) hn3 hno) (fun r Y1 hh => ?_)
    obtain ⟨rfl, rfl⟩ := hh
    refine ⟨fun z => same _ hk hdu hl (fun p hp _ x => by rw [z] at x; exact nI_ne1 (by omega) x.2.symm), fun z => ?_⟩
    rcases meanF_ok hMe (x := nI n) (y := a_findNumber M i) (w := w) with e | ⟨p, p30, ep⟩
    · exact absurd e z
    rw [ep, ixn (show p < 2 ^ 31 by omega), c1, c8, c9]
    have un : ∀ p', meanV M (nI n) (a_findNumber M i) w = nI p' → p' < 30 → p' = p := by
      intro p' h1 h2
      rw [ep] at h1
      exact ((nI_eq (by omega) (by omega)).mp h1).symm
    refine ⟨fun zb => ?_, fun zb => same _ hk hdu hl (fun p' hp' dp' x => ?_)⟩
    · have hb : p < nP M ∧ dg p = true := Classical.byContradiction (fun y => zb ((bitsP_any0 (by omega) (by omega)).mpr y))
      obtain ⟨-, kb1, kb2⟩ := hP.2.2.2.2.2.1 p hb.1
      have kb3 : a_placeKind M p < 3 := Int32.lt_of_le_of_lt kb2 (by decide)
      have ekd := (nix kb1).symm
      have lkd := ix_lt (n := 3) kb1 kb3 (by omega)
      refine ⟨bnd (n := 30) p30 (by omega) rfl, ⟨kb1, kb3⟩, ?_⟩
      -- what is added
      have yes : linB B M h w i (a_placeKind M p) n → y ||| ((1 : Int32) <<< (nI p &&& 31)) = bitsP (fun p => dg p && dcd (nmP B M h w i p (n + 1))) (nP M) := by
        intro hlb
        rw [hyy, bitsP_or (by omega) hb.1]
        apply bitsP_cong
        intro p' hp'
        rw [Bool.eq_iff_iff, Bool.or_eq_true, Bool.and_eq_true, Bool.and_eq_true, decide_eq_true_eq, dcd_t, dcd_t, stp]
        constructor
        · rintro (e | ⟨e1, e2⟩)
          · subst e; exact ⟨hb.2, Or.inr ⟨hlb, ep⟩⟩
          · exact ⟨e1, Or.inl e2⟩
        · rintro ⟨e1, e2 | e2⟩
          · exact Or.inr ⟨e1, e2⟩
          · exact Or.inl (un p' e2.2 (by omega))
      have no : ¬ linB B M h w i (a_placeKind M p) n → ∀ p', p' < nP M → dg p' = true → ¬ (linB B M h w i (a_placeKind M p') n ∧ meanV M (nI n) (a_findNumber M i) w = nI p') := by
        intro hlb p' hp' _ x
        have := un p' x.2 (by omega)
        subst this
        exact hlb x.1
      have elb : ∀ v, v = linV B M (fcF w h (a_findKind M i) (a_findMarks M i) (a_placeKind M p)) → ((((v >>> (nI n &&& 31)) &&& 1) = 1) ↔ linB B M h w i (a_placeKind M p) n) := by
        intro v hv; rw [hv]; exact Iff.rfl
      have hlk := hl _ lkd
      rw [← ekd] at hlk
      refine ⟨fun z1 => ?_, fun z1 => ?_⟩
      · rcases hlk with z2 | z2
        · exact absurd z2 z1
        · rw [elb _ z2]
          refine ⟨fun z3 => same _ hk hdu hl (no z3), fun z3 => ?_⟩
          rw [nI_s]
          exact kk (_, _) ⟨⟨hk, hdu⟩, yes z3, hl⟩
      · refine mVx ct_Book_ask (fun Y2 h1 => ?_)
        obtain ⟨l, rfl, hll⟩ := h1
        refine mIx (ct_Book_lines (hR.kp (kept.rf M) (hk.xA (k := 104) rfl l)) hll) (fun r Y3 h2 => ?_)
        obtain ⟨er, u, s, rfl⟩ := h2
        rw [upd_eq, elb r er]
        have hk3 : keptX X (xA (xNb (xA Y1 104 l) u s) 54 (upd (xa_Finds_linesOfKind (xNb (xA Y1 104 l) u s)) (ix (a_placeKind M p)) r)) := ((hk.xA rfl l).nb u s).xA rfl _
        have hl3 : ∀ k, k < 3 → xa_Finds_linesOfKind (xA (xNb (xA Y1 104 l) u s) 54 (upd (xa_Finds_linesOfKind (xNb (xA Y1 104 l) u s)) (ix (a_placeKind M p)) r)) k = -1 ∨ xa_Finds_linesOfKind (xA (xNb (xA Y1 104 l) u s) 54 (upd (xa_Finds_linesOfKind (xNb (xA Y1 104 l) u s)) (ix (a_placeKind M p)) r)) k = linV B M (fcF w h (a_findKind M i) (a_findMarks M i) (nI k)) := by
          intro k hk'
          show upd (xa_Finds_linesOfKind Y1) (ix (a_placeKind M p)) r k = -1 ∨ upd (xa_Finds_linesOfKind Y1) (ix (a_placeKind M p)) r k = _
          by_cases e : k = ix (a_placeKind M p)
          · subst e
            rw [upd_eq, ← ekd]
            exact Or.inr er
          · rw [upd_ne e]; exact hl k hk'
        refine ⟨fun z3 => same _ hk3 hdu hl3 (no z3), fun z3 => ?_⟩
        rw [nI_s]
        exact kk (_, _) ⟨⟨hk3, hdu⟩, yes z3, hl3⟩
    · have := un p' x.2 (by omega)
      subst this
      exact (bitsP_any0 (by omega) (by omega)).mp zb ⟨hp', dp'⟩
  · exact ((bitsP_0 (by omega)).mpr (fun p _ => by rw [dcd_f.mpr (fun ⟨n', hn', _⟩ => absurd hn' (Nat.not_lt_zero n')), Bool.and_false])).symm
  · show fillF 3 (-1) (xa_Finds_linesOfKind X) k = -1
    rw [fillF, if_pos hk]
theorem ct_Finds_placesOf {E : EvT} {q : Nat → Nat} {d : Nat} {B : BkT} {X : StX} {M : StM} (hF : FH B X M) {i : Nat} (hi : i < nFi M) {t o : Int32} (ht : t ≤ 9999) : C_Finds_placesOf E q (d + 6) (nI i) t o X (fun r X1 => r = mayV B M (hfO M o i) i t ∧ keptX X X1) := by
  have hF0 := hF
  obtain ⟨hG, hP, hD, hMe, hFi, hR⟩ := hF
  obtain ⟨ef, f150⟩ := hFi.n
  obtain ⟨en, n30⟩ := hP.n
  obtain ⟨f, g, e1, e2, fg, g19, g9⟩ := (hFi.2.2 i hi).wk
  have bi : (0 : Int32) ≤ nI i ∧ nI i < 150 := bnd (n := 150) (by omega) (by omega) rfl
  have loop : ∀ (h : Int32) (Y : StX), keptX X Y → dgJ M i f g t (nD M) (xa_Finds_dugIn Y) → ∀ m j y Z, j + m = g + 1 → f ≤ j → keptX X Z → xa_Finds_dugIn Z = xa_Finds_dugIn Y → y = bitsP (fun p => dcd (∃ j', f ≤ j' ∧ j' < j ∧ dugP M i p (nI j') t ∧ meantP B M h i p (nI j'))) (nP M) → T_Finds_placesOf_34 E q (d + 6) (fun r X1 => r = mayV B M h i t ∧ keptX X X1) Z (nI i) h y (nI j) := by
    intro h Y hkY hdg m
    induction m with
    | zero =>
      intro j y Z hj hf hk hdu hy
      have c4 : xa_Finds_to Z = a_findTo M := (hk.a rfl).trans hFi.1.2.2.2.1
      refine sg_Finds_placesOf_34 ⟨bi, fun _ => ⟨?_, hk⟩, fun z => absurd ?_ z⟩
      · rw [hy, mayV]
        apply bitsP_cong
        intro p _
        refine dcd_c ⟨fun ⟨j', h1, h2, h3, h4⟩ => ⟨nI j', by rw [e1]; exact nI_le h1 (by omega), by rw [e2]; exact nI_le (by omega) (by omega), h3, h4⟩, ?_⟩
        rintro ⟨w, h1, h2, h3, h4⟩
        have w0 : 0 ≤ w := Int32.le_trans (by rw [e1]; exact nI_pos' (by omega)) h1
        rw [e1] at h1
        rw [e2] at h2
        have ew := (nix w0).symm
        have a1 : f ≤ ix w := by rw [ew, nI_leI (by omega) (ix_31 w)] at h1; exact h1
        have a2 := ix_le w0 h2 (by omega)
        rw [ew] at h3 h4
        exact ⟨ix w, a1, by omega, h3, h4⟩
      · rw [ixn (show i < 2 ^ 31 by omega), c4, e2]; exact nI_lt (by omega) (by omega)
    | succ m ih =>
      intro j y Z hj hf hk hdu hy
      have c3 : xa_Finds_from Z = a_findFrom M := (hk.a rfl).trans hFi.1.2.2.1
      have c4 : xa_Finds_to Z = a_findTo M := (hk.a rfl).trans hFi.1.2.2.2.1
      have c5 : xa_Finds_number Z = a_findNumber M := (hk.a rfl).trans hFi.1.2.2.2.2.1
      refine sg_Finds_placesOf_34 ⟨bi, fun z => absurd z ?_, fun _ => ?_⟩
      · rw [ixn (show i < 2 ^ 31 by omega), c4, e2]; exact nI_nlt (by omega) (by omega)
      rw [ixn (show i < 2 ^ 31 by omega), c3, c5, e1, pk_sub hf, ixn (show j - f < 2 ^ 31 by omega), hdu, hdg (j - f) (by omega), show f + (j - f) = j by omega]
      refine ⟨bnd (n := 20) (by omega) (by omega) rfl, fun v4 hv => ?_⟩
      rw [hy, bitsP_andn] at hv
      rw [nI_s]
      have stp : ∀ p, (∃ j', f ≤ j' ∧ j' < j + 1 ∧ dugP M i p (nI j') t ∧ meantP B M h i p (nI j')) ↔ ((∃ j', f ≤ j' ∧ j' < j ∧ dugP M i p (nI j') t ∧ meantP B M h i p (nI j')) ∨ (dugP M i p (nI j) t ∧ meantP B M h i p (nI j))) := by
        intro p
        constructor
        · rintro ⟨j', a, b, c⟩
          by_cases e : j' = j
          · subst e; exact Or.inr c
          · exact Or.inl ⟨j', a, by omega, c⟩
        · rintro (⟨j', a, b, c⟩ | c)
          · exact ⟨j', a, by omega, c⟩
          · exact ⟨j, hf, by omega, c⟩
      refine ⟨fun z => ih (j + 1) y Z (by omega) (by omega) hk hdu ?_, fun z => ⟨fun z2 => ?_, fun z2 => ?_⟩⟩
      · rw [hv, bitsP_0 (by omega)] at z
        rw [hy]
        apply bitsP_cong
        intro p hp
        have := z p hp
        refine dcd_c ?_
        rw [stp]
        refine ⟨Or.inl, fun x => x.elim id (fun x => ?_)⟩
        rw [Bool.and_eq_false_iff, dcd_f, Bool.not_eq_false', dcd_t] at this
        exact this.elim (fun b => absurd x.1 b) id
      · subst hv
        refine mIx (ct_Finds_named (hF0.kp (kept.rf M) hk) hi z2) (fun r Z1 hh => ?_)
        obtain ⟨er, hk1, hdu1⟩ := hh
        refine ih (j + 1) _ Z1 (by omega) (by omega) (hk.tr hk1) (hdu1.trans hdu) ?_
        rw [hy, er, bitsP_oo]
        apply bitsP_cong
        intro p hp
        rw [Bool.eq_iff_iff, Bool.or_eq_true, Bool.and_eq_true, Bool.and_eq_true, dcd_t, dcd_t, dcd_t, dcd_t, Bool.not_eq_true', dcd_f, stp]
        constructor
        · rintro (a | ⟨⟨a, b⟩, c⟩)
          · exact Or.inl a
          · exact Or.inr ⟨a, Or.inr c⟩
        · rintro (a | ⟨a, b⟩)
          · exact Or.inl a
          · rcases Classical.em (∃ j', f ≤ j' ∧ j' < j ∧ dugP M i p (nI j') t ∧ meantP B M h i p (nI j')) with c | c
            · exact Or.inl c
            · rcases b with b | b
              · exact absurd b z2
              · exact Or.inr ⟨⟨a, c⟩, b⟩
      · refine ih (j + 1) _ Z (by omega) (by omega) hk hdu ?_
        rw [hy, hv, bitsP_oo]
        apply bitsP_cong
        intro p hp
        rw [Bool.eq_iff_iff, Bool.or_eq_true, Bool.and_eq_true, dcd_t, dcd_t, dcd_t, Bool.not_eq_true', dcd_f, stp]
        constructor
        · rintro (a | ⟨a, b⟩)
          · exact Or.inl a
          · exact Or.inr ⟨a, Or.inl z2⟩
        · rintro (a | ⟨a, b⟩)
          · exact Or.inl a
          · rcases Classical.em (∃ j', f ≤ j' ∧ j' < j ∧ dugP M i p (nI j') t ∧ meantP B M h i p (nI j')) with c | c
            · exact Or.inl c
            · exact Or.inr ⟨a, c⟩
  refine en_Finds_placesOf ?_
  refine mVx (ct_Finds_gatherDug hF0 hi e1 e2 fg g19 g9 ht) (fun Y hh => ?_)
  obtain ⟨hk, hdg⟩ := hh
  have c2 : xa_Finds_hand Y = a_findHand M := (hk.a rfl).trans hFi.1.2.1
  have c3 : xa_Finds_from Y = a_findFrom M := (hk.a rfl).trans hFi.1.2.2.1
  have z0 : (0 : Int32) = bitsP (fun p => dcd (∃ j', f ≤ j' ∧ j' < f ∧ dugP M i p (nI j') t ∧ meantP B M (hfO M o i) i p (nI j'))) (nP M) := ((bitsP_0 (by omega)).mpr (fun p _ => dcd_f.mpr (fun ⟨j', a, b, _⟩ => by omega))).symm
  have := loop (hfO M o i) Y hk hdg (g + 1 - f) f 0 Y (by omega) (Nat.le_refl _) hk rfl z0
  rw [ixn (show i < 2 ^ 31 by omega), c2, c3, e1]
  refine ⟨fun z => ⟨bi, ?_⟩, fun z => ⟨bi, ?_⟩⟩
  · rw [show hfO M o i = o by rw [hfO, if_neg z]] at this
    rw [show hfO M o i = o by rw [hfO, if_neg z]]
    exact this
  · rw [show hfO M o i = a_findHand M i by rw [hfO, if_pos z]] at this
    rw [show hfO M o i = a_findHand M i by rw [hfO, if_pos z]]
    exact this
