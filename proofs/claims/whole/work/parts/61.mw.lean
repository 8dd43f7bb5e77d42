/-! lost: both sides -/
theorem mFx_tw (M : StM) (l t s l' t' s' : Nat → Int32) : mFx (mFx M l t s) l' t' s' = mFx M l' t' s' := by
  refine Prod.ext rfl ?_
  funext j
  simp only [mFx, mNb, sA, va_up]
  by_cases c1 : j = 55
  · simp [c1]
  · by_cases c2 : j = 54
    · simp [c2]
    · by_cases c3 : j = 56
      · simp [c3]
      · simp [c1, c2, c3]
theorem ct_wouldHave {E : EvT} {q : Nat → Nat} {d : Nat} {B : BkT} {X : StX} {M : StM} (h : MH B X M) {m i : Nat} (hi : i < nFi M) : C_wouldHave E q (d + 5) (nI m) (nI i) M (fun r M1 => r = dcd (wouP B M m i) ∧ ∃ l t s, M1 = mFx M l t s) := by
  obtain ⟨en, n60⟩ := h.2.1.n
  refine en_wouldHave ?_
  have key := up_s (W := nTh M) (T := fun k (z : (Nat → Int32) × (Nat → Int32) × (Nat → Int32)) => T_wouldHave_2 E q (d + 5) (fun r M1 => r = dcd (wouP B M m i) ∧ ∃ l t s, M1 = mFx M l t s) (mFx M z.1 z.2.1 z.2.2) (nI m) (nI i) (nI k)) (J := fun k _ => ∀ k', k' < k → ¬ (a_museumOf M k' = nI m ∧ cbP B M i k')) ?_ ?_ 0 (a_facts M, a_isStruck M, a_stack M) (by omega) (fun i hi => absurd hi (Nat.not_lt_zero i))
  · rw [show mFx M (a_facts M, a_isStruck M, a_stack M).1 (a_facts M, a_isStruck M, a_stack M).2.1 (a_facts M, a_isStruck M, a_stack M).2.2 = M from (mFx_self M).symm] at key
    exact key
  · rintro ⟨l, t, s⟩ hno
    exact sg_wouldHave_2 ⟨fun _ => ⟨(dcd_f.mpr (fun ⟨k, hk, z⟩ => hno k hk z)).symm, l, t, s, rfl⟩, fun z => absurd (by show s_things M ≤ _; rw [en]; exact Int32.le_refl _) z⟩
  · rintro k ⟨l, t, s⟩ hk hno kk
    have nx : ∀ l t s, ¬ (a_museumOf M k = nI m ∧ cbP B M i k) → T_wouldHave_2 E q (d + 5) (fun r M1 => r = dcd (wouP B M m i) ∧ ∃ l t s, M1 = mFx M l t s) (mFx M l t s) (nI m) (nI i) (nI k + 1) := by
      intro l t s z
      rw [nI_s]
      refine kk (l, t, s) (fun k' hk' => ?_)
      by_cases e : k' = k
      · rw [e]; exact z
      · exact hno k' (by omega)
    refine sg_wouldHave_2 ⟨fun z => absurd z (by show ¬ s_things M ≤ _; rw [en]; exact nI_ge hk (by omega)), fun _ => ⟨bnd (n := 60) (by omega) (by omega) rfl, ?_⟩⟩
    rw [ixn (show k < 2 ^ 31 by omega)]
    refine ⟨fun z => nx _ _ _ (fun y => z y.1), fun z => ?_⟩
    refine mB (ct_couldBe (h.kp (mFx_kp (kept.rf M) l t s) (keptX.rf X)) hi hk) (fun r M1 hh => ?_)
    obtain ⟨er, l', t', s', rfl⟩ := hh
    have er : r = dcd (cbP B M i k) := er
    rw [er, mFx_tw]
    exact ⟨fun z2 => nx _ _ _ (fun y => dcd_f.mp z2 y.2), fun z2 => ⟨(dcd_t.mpr ⟨k, hk, z, dcd_t.mp z2⟩).symm, l', t', s', rfl⟩⟩
def losOk (M : StM) (n w : Int32) : Prop := mIn n 0 100 = true ∧ mIn w 0 1 = true ∧ n ≤ s_taped M
noncomputable def losV (B : BkT) (M : StM) (n : Nat) (w : Int32) : Int32 := if dcd (Hears M n) = false then -2 else if w = 0 then nI (cntD (lsF B M) n) else (whB (fun _ => 2) (fun m => nI (cntD (lmF B M m) n)) 10).1
theorem losN {M : StM} {n w : Int32} (h : losOk M n w) : ix n ≤ 100 ∧ n = nI (ix n) := by
  have := h.1
  rw [mIn, decide_eq_true_eq] at this
  exact ⟨ix_le (n := 100) this.1 this.2 (by omega), (nix this.1).symm⟩
theorem ct_lost {E : EvT} {q : Nat → Nat} {d : Nat} {B : BkT} {X : StX} {M : StM} (h : MH B X M) {x w : Int32} : C_lost E q (d + 7) x w M (fun r M1 => (¬ losOk M x w → r = -1 ∧ M1 = M) ∧ (losOk M x w → r = losV B M (ix x) w ∧ kept (sI M 28 0) M1)) := by
  have bad : ¬ losOk M x w → (¬ losOk M x w → (-1 : Int32) = -1 ∧ M = M) ∧ (losOk M x w → (-1 : Int32) = losV B M (ix x) w ∧ kept (sI M 28 0) M) := fun z => ⟨fun _ => ⟨rfl, rfl⟩, fun y => absurd y z⟩
  refine en_lost ⟨fun e => bad (fun z => by rw [z.1] at e; cases e), fun e1 => ⟨fun e => bad (fun z => by rw [z.2.1] at e; cases e), fun e2 => ⟨fun e3 => ?_, fun e3 => bad (fun z => e3 z.2.2)⟩⟩⟩
  have ok : losOk M x w := ⟨e1, e2, e3⟩
  obtain ⟨n100, en⟩ := losN ok
  generalize hnn : ix x = n at *
  subst en
  have fin : ∀ r N, kept (sI M 28 0) N → r = losV B M n w → (¬ losOk M (nI n) w → r = -1 ∧ N = M) ∧ (losOk M (nI n) w → r = losV B M n w ∧ kept (sI M 28 0) N) := fun r N hk hr => ⟨fun z => absurd ok z, fun _ => ⟨hr, hk⟩⟩
  have hz : MH B X (sI M 28 0) := h
  refine mB (ct_hearsFinds hz.1 n100) (fun r M1 hh => ?_)
  obtain ⟨er, tl, rfl, htl⟩ := hh
  have er : r = dcd (Hears M n) := er
  have htl : Hears M n → ∀ p, p < n → tl p = nI (tpN M p) := htl
  have hk0 : kept (sI M 28 0) (sA (sI M 28 0) 73 tl) := (kept.rf _).sA rfl tl
  subst er
  refine ⟨fun hr => ?_, fun hr => fin _ _ hk0 (by rw [losV, if_pos hr])⟩
  have hH : Hears M n := dcd_t.mp hr
  have htl := htl hH
  have hk1 : ∀ l t s, kept (sI M 28 0) (mFx (sA (sI M 28 0) 73 tl) l t s) := fun l t s => mFx_kp hk0 l t s
  have hm : ∀ l t s, MH B X (mFx (sA (sI M 28 0) 73 tl) l t s) := fun l t s => hz.kp (hk1 l t s) (keptX.rf X)
  have nr : ¬ dcd (Hears M n) = false := by rw [hr]; decide
  -- the museums
  have mus : ¬ w = 0 → ∀ l t s, T_lost_99 E q (d + 7) (fun r M1 => (¬ losOk M (nI n) w → r = -1 ∧ M1 = M) ∧ (losOk M (nI n) w → r = losV B M n w ∧ kept (sI M 28 0) M1)) (mFx (sA (sI M 28 0) 73 tl) l t s) (nI n) (-1) 0 0 := by
    intro w0 l t s
    refine up_s (W := 10) (T := fun m (z : (Int32 × Int32) × (Nat → Int32) × (Nat → Int32) × (Nat → Int32)) => T_lost_99 E q (d + 7) (fun r M1 => (¬ losOk M (nI n) w → r = -1 ∧ M1 = M) ∧ (losOk M (nI n) w → r = losV B M n w ∧ kept (sI M 28 0) M1)) (mFx (sA (sI M 28 0) 73 tl) z.2.1 z.2.2.1 z.2.2.2) (nI n) z.1.1 z.1.2 (nI m)) (J := fun m z => z.1 = whB (fun _ => 2) (fun m => nI (cntD (lmF B M m) n)) m) ?_ ?_ 0 ((-1, 0), l, t, s) (by omega) rfl
    · rintro ⟨y, l, t, s⟩ hy
      have hy : y = whB (fun _ => 2) (fun m => nI (cntD (lmF B M m) n)) 10 := hy
      refine sg_lost_99 ⟨fun _ => fin _ _ (hk1 l t s) ?_, fun z => absurd (by decide) z⟩
      rw [losV, if_neg nr, if_neg w0, ← hy]
    · rintro m ⟨y, l, t, s⟩ hm10 hy kk
      have hy : y = whB (fun _ => 2) (fun m => nI (cntD (lmF B M m) n)) m := hy
      refine sg_lost_99 ⟨fun z => absurd z (nle_nI (n := 10) hm10 (by omega) rfl), fun _ => ?_⟩
      refine up_s (W := n) (T := fun p (z : Nat × (Nat → Int32) × (Nat → Int32) × (Nat → Int32)) => T_lost_112 E q (d + 7) (fun r M1 => (¬ losOk M (nI n) w → r = -1 ∧ M1 = M) ∧ (losOk M (nI n) w → r = losV B M n w ∧ kept (sI M 28 0) M1)) (mFx (sA (sI M 28 0) 73 tl) z.2.1 z.2.2.1 z.2.2.2) (nI n) y.1 y.2 (nI m) (nI z.1) (nI p)) (J := fun p z => z.1 = cntD (lmF B M m) p) ?_ ?_ 0 (0, l, t, s) (by omega) rfl
      · rintro ⟨c, l, t, s⟩ hc
        have hc : c = cntD (lmF B M m) n := hc
        subst hc
        refine sg_lost_112 ⟨fun _ => ⟨fun z => ?_, fun z => ?_⟩, fun z => absurd (Int32.le_refl _) z⟩
        · rw [nI_s]
          refine kk ((nI m, nI (cntD (lmF B M m) n)), l, t, s) ?_
          rw [whB, if_pos ⟨by decide, by rw [← hy]; exact z⟩]
        · rw [nI_s]
          refine kk (y, l, t, s) ?_
          rw [whB, if_neg (fun u => z (by rw [hy]; exact u.2))]
          exact hy
      · rintro p ⟨c, l, t, s⟩ hp hc kk2
        have hc : c = cntD (lmF B M m) p := hc
        have pl := (hH p hp).1
        have no : ∀ l t s, lmF B M m p = false → T_lost_112 E q (d + 7) (fun r M1 => (¬ losOk M (nI n) w → r = -1 ∧ M1 = M) ∧ (losOk M (nI n) w → r = losV B M n w ∧ kept (sI M 28 0) M1)) (mFx (sA (sI M 28 0) 73 tl) l t s) (nI n) y.1 y.2 (nI m) (nI c + 0) (nI p + 1) := by
          intro l t s z
          rw [add0, nI_s]
          refine kk2 (c, l, t, s) ?_
          show c = cntD (lmF B M m) (p + 1)
          rw [cntD, if_neg (by rw [z]; decide)]; exact hc
        refine sg_lost_112 ⟨fun z => absurd z (nI_ge hp (by omega)), fun _ => ⟨bnd (n := 100) (by omega) (by omega) rfl, ?_⟩⟩
        rw [ixn (show p < 2 ^ 31 by omega), show a_told (mFx (sA (sI M 28 0) 73 tl) l t s) p = nI (tpN M p) from htl p hp]
        refine mB (ct_isLost (hm l t s) pl) (fun r N hh => ?_)
        obtain ⟨er, l', t', s', rfl⟩ := hh
        have er : r = dcd (lostP B M (tpN M p)) := er
        rw [er, mFx_tw]
        refine ⟨fun z => no _ _ _ (dcd_f.mpr (fun y => dcd_f.mp z y.1)), fun z => ?_⟩
        rw [show a_told (mFx (sA (sI M 28 0) 73 tl) l' t' s') p = nI (tpN M p) from htl p hp]
        refine mB (ct_wouldHave (hm l' t' s') pl) (fun r N hh => ?_)
        obtain ⟨er, l2, t2, s2, rfl⟩ := hh
        have er : r = dcd (wouP B M m (tpN M p)) := er
        rw [er, mFx_tw]
        refine ⟨fun z2 => no _ _ _ (dcd_f.mpr (fun y => dcd_f.mp z2 y.2)), fun z2 => ?_⟩
        show T_lost_112 E q (d + 7) _ _ _ _ _ _ (nI c + 1) _
        rw [nI_s, nI_s]
        refine kk2 (c + 1, l2, t2, s2) ?_
        show c + 1 = cntD (lmF B M m) (p + 1)
        rw [cntD, if_pos (show lmF B M m p = true from dcd_t.mpr ⟨dcd_t.mp z, dcd_t.mp z2⟩), hc]
  have e0 : sA (sI M 28 0) 73 tl = mFx (sA (sI M 28 0) 73 tl) (a_facts (sA (sI M 28 0) 73 tl)) (a_isStruck (sA (sI M 28 0) 73 tl)) (a_stack (sA (sI M 28 0) 73 tl)) := mFx_self _
  have key := up_s (W := n) (T := fun p (z : Nat × (Nat → Int32) × (Nat → Int32) × (Nat → Int32)) => T_lost_50 E q (d + 7) (fun r M1 => (¬ losOk M (nI n) w → r = -1 ∧ M1 = M) ∧ (losOk M (nI n) w → r = losV B M n w ∧ kept (sI M 28 0) M1)) (mFx (sA (sI M 28 0) 73 tl) z.2.1 z.2.2.1 z.2.2.2) (nI n) w (nI z.1) (nI p)) (J := fun p z => z.1 = cntD (lsF B M) p) ?_ ?_ 0 (0, a_facts (sA (sI M 28 0) 73 tl), a_isStruck (sA (sI M 28 0) 73 tl), a_stack (sA (sI M 28 0) 73 tl)) (by omega) rfl
  · rw [show mFx (sA (sI M 28 0) 73 tl) ((0 : Nat), a_facts (sA (sI M 28 0) 73 tl), a_isStruck (sA (sI M 28 0) 73 tl), a_stack (sA (sI M 28 0) 73 tl)).2.1 ((0 : Nat), a_facts (sA (sI M 28 0) 73 tl), a_isStruck (sA (sI M 28 0) 73 tl), a_stack (sA (sI M 28 0) 73 tl)).2.2.1 ((0 : Nat), a_facts (sA (sI M 28 0) 73 tl), a_isStruck (sA (sI M 28 0) 73 tl), a_stack (sA (sI M 28 0) 73 tl)).2.2.2 = sA (sI M 28 0) 73 tl from e0.symm] at key
    exact key
  · rintro ⟨c, l, t, s⟩ hc
    have hc : c = cntD (lsF B M) n := hc
    refine sg_lost_50 ⟨fun _ => ⟨fun z => mus z l t s, fun z => fin _ _ (hk1 l t s) ?_⟩, fun z => absurd (Int32.le_refl _) z⟩
    rw [losV, if_neg nr, if_pos z, ← hc]
  · rintro p ⟨c, l, t, s⟩ hp hc kk
    have hc : c = cntD (lsF B M) p := hc
    have pl := (hH p hp).1
    refine sg_lost_50 ⟨fun z => absurd z (nI_ge hp (by omega)), fun _ => ⟨bnd (n := 100) (by omega) (by omega) rfl, ?_⟩⟩
    rw [ixn (show p < 2 ^ 31 by omega), show a_told (mFx (sA (sI M 28 0) 73 tl) l t s) p = nI (tpN M p) from htl p hp]
    refine mB (ct_isLost (hm l t s) pl) (fun r N hh => ?_)
    obtain ⟨er, l', t', s', rfl⟩ := hh
    have er : r = lsF B M p := er
    rw [er, mFx_tw, add0]
    refine ⟨fun z => ?_, fun z => ?_⟩
    · rw [nI_s]
      refine kk (c, l', t', s') ?_
      show c = cntD (lsF B M) (p + 1)
      rw [cntD, if_neg (by rw [z]; decide)]; exact hc
    · show T_lost_50 E q (d + 7) _ _ _ _ (nI c + 1) _
      rw [nI_s, nI_s]
      refine kk (c + 1, l', t', s') ?_
      show c + 1 = cntD (lsF B M) (p + 1)
      rw [cntD, if_pos z, hc]
/-! lost: the class -/
theorem cntD_rank (f : Nat → Bool) : ∀ n j, j < cntD f n → ∃ p, p < n ∧ f p = true ∧ cntD f p = j := by
  intro n
  induction n with
  | zero => intro j h; exact absurd h (Nat.not_lt_zero j)
  | succ n ih =>
    intro j h
    rw [cntD] at h
    by_cases e : j < cntD f n
    · obtain ⟨p, h1, h2⟩ := ih j e
      exact ⟨p, by omega, h2⟩
    · split at h
      · next z => exact ⟨n, by omega, z, by omega⟩
      · omega
theorem cntD_mono (f : Nat → Bool) {p n : Nat} (h : p ≤ n) : cntD f p ≤ cntD f n := by
  induction n with
  | zero => rw [show p = 0 by omega]; exact Nat.le_refl _
  | succ n ih =>
    by_cases e : p = n + 1
    · rw [e]; exact Nat.le_refl _
    · have := ih (by omega)
      rw [cntD]; omega
theorem cntD_lt (f : Nat → Bool) {p n : Nat} (h : p < n) (hp : f p = true) : cntD f p < cntD f n := by
  have := cntD_mono f (p := p + 1) (n := n) h
  rw [cntD, if_pos hp] at this
  omega
theorem cntD_re {f g : Nat → Bool} {h : Nat → Bool} : ∀ {n : Nat}, (∀ p, p < n → f p = true → g (cntD f p) = h p) → cntD g (cntD f n) = cntD (fun p => f p && h p) n := by
  intro n
  induction n with
  | zero => intro _; rfl
  | succ n ih =>
    intro hh
    have i := ih (fun p hp => hh p (by omega))
    by_cases e : f n = true
    · rw [cntD, if_pos e, cntD, i, cntD, hh n (by omega) e, e, Bool.true_and]
    · rw [cntD, if_neg e, cntD]
      rw [Bool.not_eq_true] at e
      rw [e, Bool.false_and, if_neg (by decide)]
      exact i
theorem cntD_c {f g : Nat → Bool} : ∀ {n : Nat}, (∀ p, p < n → f p = g p) → cntD f n = cntD g n := by
  intro n
  induction n with
  | zero => intro _; rfl
  | succ n ih => intro h; rw [cntD, cntD, ih (fun p hp => h p (by omega)), h n (by omega)]
theorem ct_Mus_isLost {E : EvT} {q : Nat → Nat} {d : Nat} {B : BkT} {X : StX} {M : StM} (h : MH B X M) {p i : Nat} (hp : p < 100) (hi : i < nFi M) (e1 : xa_Mus_choice X p = nI i) (e2 : xa_Mus_wanted X p = wantV B M i) : C_Mus_isLost E q (d + 3) (nI p) X (fun r X1 => r = dcd (lostP B M i) ∧ X1 = X) := by
  obtain ⟨en, n60⟩ := h.2.1.n
  refine en_Mus_isLost ?_
  refine up_s (W := nTh M) (T := fun k (_ : Unit) => T_Mus_isLost_2 E q (d + 3) (fun r X1 => r = dcd (lostP B M i) ∧ X1 = X) X (nI p) (nI k)) (J := fun k _ => ∀ k', k' < k → ¬ likeP B M i k') ?_ ?_ 0 () (by omega) (fun i hi => absurd hi (Nat.not_lt_zero i))
  · rintro - hno
    exact sg_Mus_isLost_2 ⟨fun _ => ⟨(dcd_t.mpr hno).symm, rfl⟩, fun z => absurd (by rw [h.2.1.1.1, en]; exact Int32.le_refl _) z⟩
  · rintro k - hk hno kk
    have nx : ¬ likeP B M i k → T_Mus_isLost_2 E q (d + 3) (fun r X1 => r = dcd (lostP B M i) ∧ X1 = X) X (nI p) (nI k + 1) := by
      intro z
      rw [nI_s]
      refine kk () (fun k' hk' => ?_)
      by_cases e : k' = k
      · rw [e]; exact z
      · exact hno k' (by omega)
    refine sg_Mus_isLost_2 ⟨fun z => absurd z (by rw [h.2.1.1.1, en]; exact nI_ge hk (by omega)), fun _ => ⟨bnd (n := 60) (by omega) (by omega) rfl, ?_⟩⟩
    rw [ixn (show k < 2 ^ 31 by omega), ixn (show p < 2 ^ 31 by omega), h.2.1.1.2.2.2.2.1, e1, e2]
    refine ⟨fun z => nx (fun y => z y.1), fun z => ⟨bnd (n := 100) hp (by omega) rfl, mBx (ct_Mus_fits h hi hk) (fun r X1 hh => ?_)⟩⟩
    obtain ⟨rfl, rfl⟩ := hh
    exact ⟨fun z2 => nx (fun y => dcd_f.mp z2 y.2), fun z2 => ⟨(dcd_f.mpr (fun y => y k hk ⟨z, dcd_t.mp z2⟩)).symm, rfl⟩⟩
def KpX (B : BkT) (M : StM) (n : Nat) (X : StX) : Prop := ∀ p, p < n → lsF B M p = true → xa_Mus_choice X (cntD (lsF B M) p) = nI (tpN M p) ∧ xa_Mus_wanted X (cntD (lsF B M) p) = wantV B M (tpN M p)
theorem ct_Mus_keepLost {E : EvT} {q : Nat → Nat} {d : Nat} {B : BkT} {X Y : StX} {M : StM} (h : MH B X M) (hk : keptX X Y) {n : Nat} (hn : n ≤ 100) (hH : Hears M n) (hC : ChX B M n Y) : C_Mus_keepLost E q (d + 4) Y (fun X1 => keptX X X1 ∧ xs_Mus_chosen X1 = nI (cntD (lsF B M) n) ∧ KpX B M n X1) := by
  refine en_Mus_keepLost ?_
  refine up_s (W := n) (T := fun p (z : Nat × StX) => T_Mus_keepLost_4 E q (d + 4) (fun X1 => keptX X X1 ∧ xs_Mus_chosen X1 = nI (cntD (lsF B M) n) ∧ KpX B M n X1) z.2 (nI z.1) (nI p)) (J := fun p z => z.1 = cntD (lsF B M) p ∧ keptX X z.2 ∧ xs_Mus_chosen z.2 = nI n ∧ (∀ p', p ≤ p' → p' < n → xa_Mus_choice z.2 p' = nI (tpN M p') ∧ xa_Mus_wanted z.2 p' = wantV B M (tpN M p')) ∧ KpX B M p z.2) ?_ ?_ 0 (0, Y) (by omega) ⟨rfl, hk, hC.1, fun p' _ hp' => hC.2 p' hp', fun p hp => absurd hp (Nat.not_lt_zero p)⟩
  · rintro ⟨c, Z⟩ ⟨hc, h1, h2, h3, h4⟩
    have hc : c = cntD (lsF B M) n := hc
    subst hc
    exact sg_Mus_keepLost_4 ⟨fun _ => ⟨h1.xI rfl _, rfl, h4⟩, fun z => absurd (by rw [h2]; exact Int32.le_refl _) z⟩
  · rintro p ⟨c, Z⟩ hp ⟨hc, h1, h2, h3, h4⟩ kk
    have hcc : c = cntD (lsF B M) p := hc
    have h1 : keptX X Z := h1
    have h2 : xs_Mus_chosen Z = nI n := h2
    have cp := cntD_le (lsF B M) p
    obtain ⟨f1, f2⟩ := h3 p (Nat.le_refl _) hp
    refine sg_Mus_keepLost_4 ⟨fun z => absurd z (by rw [h2]; exact nI_ge hp (by omega)), fun _ => ?_⟩
    refine mBx (ct_Mus_isLost (h.kp (kept.rf M) h1) (by omega) (hH p hp).1 f1 f2) (fun r Z1 hh => ?_)
    obtain ⟨er, rfl⟩ := hh
    have er : r = lsF B M p := er
    rw [er]
    refine ⟨fun z => ?_, fun z => ⟨bnd (n := 100) (by omega) (by omega) rfl, bnd (n := 100) (by omega) (by omega) rfl, ?_⟩⟩
    · rw [nI_s]
      refine kk (c, Z1) ⟨?_, h1, h2, fun p' a b => h3 p' (by omega) b, fun p' hp' y => ?_⟩
      · show c = cntD (lsF B M) (p + 1)
        rw [cntD, if_neg (by rw [z]; decide)]; exact hcc
      · by_cases e : p' = p
        · rw [e, z] at y; cases y
        · exact h4 p' (by omega) y
    · show T_Mus_keepLost_4 E q (d + 4) _ (xA (xA Z1 68 (upd (xa_Mus_choice Z1) (ix (nI c)) (xa_Mus_choice Z1 (ix (nI p))))) 69 (upd (xa_Mus_wanted Z1) (ix (nI c)) (xa_Mus_wanted Z1 (ix (nI p))))) (nI c + 1) (nI p + 1)
      rw [ixn (show p < 2 ^ 31 by omega), ixn (show c < 2 ^ 31 by omega), f1, f2, nI_s, nI_s]
      refine kk (c + 1, _) ⟨?_, (h1.xA rfl _).xA rfl _, h2, fun p' a b => ?_, fun p' hp' y => ?_⟩
      · show c + 1 = cntD (lsF B M) (p + 1)
        rw [cntD, if_pos z, hcc]
      · show upd (xa_Mus_choice Z1) c _ p' = _ ∧ upd (xa_Mus_wanted Z1) c _ p' = _
        rw [upd_ne (by omega), upd_ne (by omega)]
        exact h3 p' (by omega) b
      · show upd (xa_Mus_choice Z1) c _ _ = _ ∧ upd (xa_Mus_wanted Z1) c _ _ = _
        by_cases e : p' = p
        · subst e
          rw [← hcc, upd_eq, upd_eq]
          exact ⟨rfl, rfl⟩
        · have := cntD_lt (lsF B M) (p := p') (n := p) (by omega) y
          rw [upd_ne (by omega), upd_ne (by omega)]
          exact h4 p' (by omega) y
theorem bitsP_bit {p : Nat → Bool} {n j : Nat} (hn : n ≤ 31) (hj : j < n) : (bitsP p n >>> (nI j &&& 31)) &&& 1 = nI (if p j = true then 1 else 0) := by
  by_cases e : p j = true
  · rw [if_pos e]
    exact (bitsP_1 hn hj).mpr e
  · rw [if_neg e]
    rw [Bool.not_eq_true] at e
    exact (bitsP_00 hn hj).mpr e
theorem ct_Mus_museumsWithLike {E : EvT} {q : Nat → Nat} {d : Nat} {B : BkT} {X : StX} {M : StM} (h : MH B X M) {p i : Nat} (hp : p < 100) (hi : i < nFi M) (e1 : xa_Mus_choice X p = nI i) (e2 : xa_Mus_wanted X p = wantV B M i) : C_Mus_museumsWithLike E q (d + 3) (nI p) X (fun r X1 => r = bitsP (fun m => dcd (wouP B M m i)) 10 ∧ X1 = X) := by
  obtain ⟨en, n60⟩ := h.2.1.n
  refine en_Mus_museumsWithLike ?_
  refine up_s (W := nTh M) (T := fun k y => T_Mus_museumsWithLike_4 E q (d + 3) (fun r X1 => r = bitsP (fun m => dcd (wouP B M m i)) 10 ∧ X1 = X) X (nI p) y (nI k)) (J := fun k y => y = bitsP (fun m => dcd (∃ k', k' < k ∧ a_museumOf M k' = nI m ∧ cbP B M i k')) 10) ?_ ?_ 0 0 (by omega) ?_
  · intro y hy
    exact sg_Mus_museumsWithLike_4 ⟨fun _ => ⟨hy, rfl⟩, fun z => absurd (by rw [h.2.1.1.1, en]; exact Int32.le_refl _) z⟩
  · intro k y hk hy kk
    obtain ⟨⟨m1, m2⟩, -⟩ := h.2.1.2.2.1 k hk
    have em := (nix m1).symm
    have lm := ix_le (n := 9) m1 m2 (by omega)
    refine sg_Mus_museumsWithLike_4 ⟨fun z => absurd z (by rw [h.2.1.1.1, en]; exact nI_ge hk (by omega)), fun _ => ⟨bnd (n := 100) hp (by omega) rfl, ?_⟩⟩
    rw [ixn (show p < 2 ^ 31 by omega), e1, e2]
    refine mBx (ct_Mus_fits h hi hk) (fun r X1 hh => ?_)
    obtain ⟨rfl, rfl⟩ := hh
    rw [ixn (show k < 2 ^ 31 by omega), nI_s, h.2.1.1.2.1]
    refine ⟨fun z => kk _ ?_, fun z => ⟨bnd (n := 60) (by omega) (by omega) rfl, kk _ ?_⟩⟩
    · rw [hy]
      apply bitsP_cong
      intro m _
      refine dcd_c ⟨fun ⟨k', a, b⟩ => ⟨k', by omega, b⟩, fun ⟨k', a, b⟩ => ?_⟩
      by_cases e : k' = k
      · subst e; exact absurd b.2 (dcd_f.mp z)
      · exact ⟨k', by omega, b⟩
    · rw [hy, em, bitsP_or (by omega) (by omega)]
      apply bitsP_cong
      intro m hm
      rw [Bool.eq_iff_iff, Bool.or_eq_true, decide_eq_true_eq, dcd_t, dcd_t]
      constructor
      · rintro (e | ⟨k', a, b⟩)
        · exact ⟨k, by omega, by rw [e]; exact em, dcd_t.mp z⟩
        · exact ⟨k', by omega, b⟩
      · rintro ⟨k', a, b⟩
        by_cases e : k' = k
        · subst e
          left
          have := b.1
          rw [em] at this
          exact ((nI_eq (by omega) (by omega)).mp this).symm
        · exact Or.inr ⟨k', by omega, b⟩
  · exact ((bitsP_0 (by omega)).mpr (fun m _ => dcd_f.mpr (fun ⟨k', a, _⟩ => absurd a (Nat.not_lt_zero k')))).symm
theorem ct_Mus_nextToLook {E : EvT} {q : Nat → Nat} {d : Nat} {B : BkT} {X Y : StX} {M : StM} (h : MH B X M) (hk : keptX X Y) {n : Nat} (hn : n ≤ 100) (hH : Hears M n) (hc : xs_Mus_chosen Y = nI (cntD (lsF B M) n)) (hK : KpX B M n Y) : C_Mus_nextToLook E q (d + 4) Y (fun r X1 => r = (whB (fun _ => 2) (fun m => nI (cntD (lmF B M m) n)) 10).1 ∧ keptX X X1) := by
  have cn := cntD_le (lsF B M) n
  have hG : ∀ j, j < cntD (lsF B M) n → ∃ p, p < n ∧ lsF B M p = true ∧ cntD (lsF B M) p = j := cntD_rank (lsF B M) n
  -- the finds that are kept, by their places
  have hg : ∃ G : Nat → Nat, ∀ p, p < n → lsF B M p = true → G (cntD (lsF B M) p) = tpN M p := by
    refine ⟨fun j => ix (xa_Mus_choice Y j), fun p hp y => ?_⟩
    show ix (xa_Mus_choice Y (cntD (lsF B M) p)) = _
    rw [(hK p hp y).1, ixn (by have := (tpN_e M p).2; omega)]
  obtain ⟨G, hG2⟩ := hg
  have hG3 : ∀ j, j < cntD (lsF B M) n → G j < nFi M ∧ xa_Mus_choice Y j = nI (G j) ∧ xa_Mus_wanted Y j = wantV B M (G j) := by
    intro j hj
    obtain ⟨p, h1, h2, h3⟩ := hG j hj
    subst h3
    rw [hG2 p h1 h2]
    exact ⟨(hH p h1).1, hK p h1 h2⟩
  have cnt : ∀ m, cntD (fun j => dcd (wouP B M m (G j))) (cntD (lsF B M) n) = cntD (lmF B M m) n := by
    intro m
    rw [cntD_re (h := fun p => dcd (wouP B M m (tpN M p))) (fun p hp y => by rw [hG2 p hp y])]
    apply cntD_c
    intro p _
    rw [Bool.eq_iff_iff, Bool.and_eq_true, lmF, lsF, dcd_t, dcd_t, dcd_t]
  refine en_Mus_nextToLook ?_
  refine up_s (W := cntD (lsF B M) n) (T := fun j Z => T_Mus_nextToLook_10 E q (d + 4) (fun r X1 => r = (whB (fun _ => 2) (fun m => nI (cntD (lmF B M m) n)) 10).1 ∧ keptX X X1) Z (nI j)) (J := fun j Z => keptX X Z ∧ (xs_Mus_chosen Z = nI (cntD (lsF B M) n) ∧ xa_Mus_choice Z = xa_Mus_choice Y ∧ xa_Mus_wanted Z = xa_Mus_wanted Y) ∧ ∀ m, m < 10 → xa_Mus_helped Z m = nI (cntD (fun j => dcd (wouP B M m (G j))) j)) ?_ ?_ 0 _ (by omega) ⟨hk.xA rfl _, ⟨hc, rfl, rfl⟩, fun m hm => ?_⟩
  · rintro Z ⟨h1, ⟨h2, h3, h4⟩, h5⟩
    refine sg_Mus_nextToLook_10 ⟨fun _ => ?_, fun z => absurd (by rw [h2]; exact Int32.le_refl _) z⟩
    have h5 : ∀ m, m < 10 → xa_Mus_helped Z m = nI (cntD (lmF B M m) n) := fun m hm => by rw [h5 m hm, cnt]
    refine up_s (W := 10) (T := fun m y => T_Mus_nextToLook_62 E q (d + 4) (fun r X1 => r = (whB (fun _ => 2) (fun m => nI (cntD (lmF B M m) n)) 10).1 ∧ keptX X X1) Z y (nI m)) (J := fun m y => y = (whB (fun _ => 2) (fun m => nI (cntD (lmF B M m) n)) m).1) ?_ ?_ 0 (-1) (by omega) rfl
    · intro y hy
      exact sg_Mus_nextToLook_62 ⟨fun _ => ⟨hy, h1⟩, fun z => absurd (by decide) z⟩
    · intro m y hm hy kk
      refine sg_Mus_nextToLook_62 ⟨fun z => absurd z (nle_nI (n := 10) hm (by omega) rfl), fun _ => ⟨bnd (n := 10) hm (by omega) rfl, ?_⟩⟩
      rw [ixn (show m < 2 ^ 31 by omega), h5 m hm, nI_s]
      have no : ¬ (whB (fun _ => 2) (fun m => nI (cntD (lmF B M m) n)) m).2 < nI (cntD (lmF B M m) n) → y = (whB (fun _ => 2) (fun m => nI (cntD (lmF B M m) n)) (m + 1)).1 := fun z => by rw [whB, if_neg (fun u => z u.2)]; exact hy
      have yes : (whB (fun _ => 2) (fun m => nI (cntD (lmF B M m) n)) m).2 < nI (cntD (lmF B M m) n) → nI m = (whB (fun _ => 2) (fun m => nI (cntD (lmF B M m) n)) (m + 1)).1 := fun z => by rw [whB, if_pos ⟨by decide, z⟩]
      rcases whB_w (fun _ => 2) (fun m => nI (cntD (lmF B M m) n)) m (by omega) with ⟨w1, w2⟩ | ⟨j, hj, w1, w2⟩
      · refine ⟨fun z => absurd (hy.trans w1) z, fun _ => ⟨fun z => kk _ (no (by rw [w2]; exact Int32.not_lt.mpr z)), fun z => kk _ (yes (by rw [w2]; exact Int32.not_le.mp z))⟩⟩
      · have ey : y = nI j := hy.trans w1
        refine ⟨fun _ => ?_, fun z => absurd (ey.symm.trans z) (nI_ne1 (by omega))⟩
        rw [ey, ixn (show j < 2 ^ 31 by omega), h5 j (by omega)]
        exact ⟨bnd (n := 10) (by omega) (by omega) rfl, fun z => kk _ (by rw [← ey]; exact no (by rw [w2]; exact Int32.not_lt.mpr z)), fun z => kk _ (yes (by rw [w2]; exact Int32.not_le.mp z))⟩
  · rintro j Z hj ⟨h1, ⟨h2, h3, h4⟩, h5⟩ kk
    obtain ⟨g1, g2, g3⟩ := hG3 j hj
    refine sg_Mus_nextToLook_10 ⟨fun z => absurd z (by rw [h2]; exact nI_ge hj (by omega)), fun _ => ?_⟩
    refine mIx (ct_Mus_museumsWithLike (h.kp (kept.rf M) h1) (by omega) g1 (by rw [h3]; exact g2) (by rw [h4]; exact g3)) (fun r Z1 hh => ?_)
    obtain ⟨er, rfl⟩ := hh
    subst er
    refine up_s (W := 10) (T := fun m Z => T_Mus_nextToLook_26 E q (d + 4) (fun r X1 => r = (whB (fun _ => 2) (fun m => nI (cntD (lmF B M m) n)) 10).1 ∧ keptX X X1) Z (nI j) (bitsP (fun m => dcd (wouP B M m (G j))) 10) (nI m)) (J := fun m Z => keptX X Z ∧ (xs_Mus_chosen Z = nI (cntD (lsF B M) n) ∧ xa_Mus_choice Z = xa_Mus_choice Y ∧ xa_Mus_wanted Z = xa_Mus_wanted Y) ∧ ∀ m', m' < 10 → xa_Mus_helped Z m' = nI (cntD (fun j => dcd (wouP B M m' (G j))) (if m' < m then j + 1 else j))) ?_ ?_ 0 Z1 (by omega) ⟨h1, ⟨h2, h3, h4⟩, fun m' hm' => by rw [if_neg (Nat.not_lt_zero m')]; exact h5 m' hm'⟩
    · rintro Z ⟨h1, h2, h5⟩
      refine sg_Mus_nextToLook_26 ⟨fun _ => ?_, fun z => absurd (by decide) z⟩
      rw [nI_s]
      exact kk Z ⟨h1, h2, fun m hm => by have := h5 m hm; rw [if_pos hm] at this; exact this⟩
    · rintro m Z hm ⟨h1, h2, h5⟩ kk2
      refine sg_Mus_nextToLook_26 ⟨fun z => absurd z (nle_nI (n := 10) hm (by omega) rfl), fun _ => ⟨bnd (n := 10) hm (by omega) rfl, ?_⟩⟩
      rw [ixn (show m < 2 ^ 31 by omega), bitsP_bit (by omega) hm, nI_s]
      refine kk2 _ ⟨h1.xA rfl _, h2, fun m' hm' => ?_⟩
      show upd (xa_Mus_helped Z) m (xa_Mus_helped Z m + _) m' = _
      by_cases e : m' = m
      · subst e
        have := h5 m' hm'
        rw [if_neg (Nat.lt_irrefl m')] at this
        rw [upd_eq, this, nI_add, if_pos (Nat.lt_succ_self m'), cntD]
      · rw [upd_ne e, h5 m' hm']
        by_cases c : m' < m
        · rw [if_pos c, if_pos (by omega)]
        · rw [if_neg c, if_neg (by omega)]
  · show fillF 10 0 (xa_Mus_helped Y) m = _
    rw [fillF, if_pos hm]
    rfl
theorem ct_City_lost {E : EvT} {q : Nat → Nat} {d : Nat} {B : BkT} {X : StX} {M : StM} (hT : RTp X M) (h : MH B X M) {x w : Int32} : C_City_lost E q (d + 8) x w X (fun r X1 => (¬ losOk M x w → r = -1 ∧ X1 = X) ∧ (losOk M x w → r = losV B M (ix x) w ∧ keptX (xI X 181 0) X1)) := by
  have bad : ¬ losOk M x w → (¬ losOk M x w → (-1 : Int32) = -1 ∧ X = X) ∧ (losOk M x w → (-1 : Int32) = losV B M (ix x) w ∧ keptX (xI X 181 0) X) := fun z => ⟨fun _ => ⟨rfl, rfl⟩, fun y => absurd y z⟩
  refine en_City_lost ?_
  rw [hT.1.1]
  refine ⟨fun e => bad (fun z => by rw [z.1] at e; cases e), fun e1 => ⟨fun e => bad (fun z => by rw [z.2.1] at e; cases e), fun e2 => ⟨fun e3 => en_Tape_clear ?_, fun e3 => bad (fun z => e3 z.2.2)⟩⟩⟩
  have ok : losOk M x w := ⟨e1, e2, e3⟩
  obtain ⟨n100, en⟩ := losN ok
  generalize hnn : ix x = n at *
  subst en
  have fin : ∀ r N, keptX (xI X 181 0) N → r = losV B M n w → (¬ losOk M (nI n) w → r = -1 ∧ N = X) ∧ (losOk M (nI n) w → r = losV B M n w ∧ keptX (xI X 181 0) N) := fun r N hk hr => ⟨fun z => absurd ok z, fun _ => ⟨hr, hk⟩⟩
  have hz : MH B (xI X 181 0) M := h
  refine mBx (ct_Mus_choose hz hT.1.2 n100) (fun r Y hh => ?_)
  obtain ⟨er, hk, hC⟩ := hh
  subst er
  refine ⟨fun hr => ?_, fun hr => fin _ _ hk (by rw [losV, if_pos hr])⟩
  have hH : Hears M n := dcd_t.mp hr
  have nr : ¬ dcd (Hears M n) = false := by rw [hr]; decide
  refine mVx (ct_Mus_keepLost hz hk n100 hH (hC hH)) (fun Z hh => ?_)
  obtain ⟨hk2, hc, hK⟩ := hh
  refine ⟨fun w0 => mIx (ct_Mus_nextToLook hz hk2 n100 hH hc hK) (fun r Z1 hh => fin _ _ hh.2 ?_), fun w0 => fin _ _ hk2 ?_⟩
  · rw [losV, if_neg nr, if_neg w0]; exact hh.1
  · rw [losV, if_neg nr, if_pos w0]; exact hc
