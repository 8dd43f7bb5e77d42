/-! finds told by bytes; lost -/
def tpN (M : StM) (p : Nat) : Nat := ix (a_tape M p &&& 255)
theorem tpN_e (M : StM) (p : Nat) : a_tape M p &&& 255 = nI (tpN M p) ∧ tpN M p < 256 := by
  obtain ⟨j, hj, e⟩ := pk_andE (a_tape M p) (m := 255) 8 (by decide)
  have : tpN M p = j := by rw [tpN, e, ixn (by omega)]
  rw [this]
  exact ⟨e, by omega⟩
def Hears (M : StM) (n : Nat) : Prop := ∀ p, p < n → tpN M p < nFi M ∧ ∀ p', p' < p → ¬ tpN M p' = tpN M p
theorem Hears.s {M : StM} {p : Nat} (h : Hears M p) (h1 : tpN M p < nFi M) (h2 : ∀ p', p' < p → ¬ tpN M p' = tpN M p) : Hears M (p + 1) := by
  intro i hi
  by_cases e : i = p
  · subst e; exact ⟨h1, h2⟩
  · exact h i (by omega)
theorem ct_hearsFinds {E : EvT} {q : Nat → Nat} {d : Nat} {X : StX} {M : StM} (hF : RFi X M) {n : Nat} (hn : n ≤ 100) : C_hearsFinds E q (d + 1) (nI n) M (fun r M1 => r = dcd (Hears M n) ∧ ∃ tl, M1 = sA M 73 tl ∧ (Hears M n → ∀ p, p < n → tl p = nI (tpN M p))) := by
  obtain ⟨en, n150⟩ := hF.n
  refine en_hearsFinds ?_
  have key := up_s (W := n) (T := fun p tl => T_hearsFinds_2 E q (d + 1) (fun r M1 => r = dcd (Hears M n) ∧ ∃ tl, M1 = sA M 73 tl ∧ (Hears M n → ∀ p, p < n → tl p = nI (tpN M p))) (sA M 73 tl) (nI n) (nI p)) (J := fun p tl => Hears M p ∧ ∀ p', p' < p → tl p' = nI (tpN M p')) ?_ ?_ 0 (a_told M) (by omega) ⟨fun i hi => absurd hi (Nat.not_lt_zero i), fun i hi => absurd hi (Nat.not_lt_zero i)⟩
  · rw [show sA M 73 (a_told M) = M from sA_self M 73] at key
    exact key
  · rintro tl ⟨h1, h2⟩
    exact sg_hearsFinds_2 ⟨fun _ => ⟨(dcd_t.mpr h1).symm, tl, rfl, fun _ => h2⟩, fun z => absurd (Int32.le_refl _) z⟩
  · rintro p tl hp ⟨h1, h2⟩ kk
    obtain ⟨t1, t2⟩ := tpN_e M p
    have bad : ∀ tl, ¬ Hears M n → dcd (Hears M n) = false ∧ ∃ tl', sA M 73 tl = sA M 73 tl' ∧ (Hears M n → ∀ p, p < n → tl' p = nI (tpN M p)) := fun tl z => ⟨dcd_f.mpr z, tl, rfl, fun y => absurd y z⟩
    refine sg_hearsFinds_2 ⟨fun z => absurd z (nI_ge hp (by omega)), fun _ => ⟨bnd (n := 400) (by omega) (by omega) rfl, bnd (n := 100) (by omega) (by omega) rfl, ?_⟩⟩
    rw [ixn (show p < 2 ^ 31 by omega), sA_tw, show a_tape (sA M 73 tl) p &&& 255 = nI (tpN M p) from t1, upd_eq]
    have em : mFind (sA M 73 (upd (a_told (sA M 73 tl)) p (nI (tpN M p)))) (nI (tpN M p)) = true ↔ tpN M p < nFi M := by
      rw [mFind, decide_eq_true_eq]
      show (0 ≤ nI (tpN M p) ∧ nI (tpN M p) < s_finds M) ↔ _
      rw [en, nI_ltI (by omega) (by omega)]
      exact ⟨fun z => z.2, fun z => ⟨nI_pos' (by omega), z⟩⟩
    refine ⟨fun z => ?_, fun z => ?_⟩
    · have hlt := em.mp z
      refine up_s (W := p) (T := fun c (_ : Unit) => T_hearsFinds_40 E q (d + 1) (fun r M1 => r = dcd (Hears M n) ∧ ∃ tl, M1 = sA M 73 tl ∧ (Hears M n → ∀ p, p < n → tl p = nI (tpN M p))) (sA M 73 (upd (a_told (sA M 73 tl)) p (nI (tpN M p)))) (nI n) (nI p) (nI c)) (J := fun c _ => ∀ p', p' < c → ¬ tpN M p' = tpN M p) ?_ ?_ 0 () (by omega) (fun i hi => absurd hi (Nat.not_lt_zero i))
      · rintro - hno
        refine sg_hearsFinds_40 ⟨fun _ => ?_, fun z => absurd (Int32.le_refl _) z⟩
        rw [nI_s]
        refine kk _ ⟨h1.s hlt hno, fun p' hp' => ?_⟩
        show upd tl p (nI (tpN M p)) p' = _
        by_cases e : p' = p
        · subst e; rw [upd_eq]
        · rw [upd_ne e]; exact h2 p' (by omega)
      · rintro c - hc hno kk2
        have c2 := (tpN_e M c).2
        refine sg_hearsFinds_40 ⟨fun z => absurd z (nI_ge hc (by omega)), fun _ => ⟨bnd (n := 100) (by omega) (by omega) rfl, bnd (n := 100) (by omega) (by omega) rfl, ?_⟩⟩
        rw [ixn (show c < 2 ^ 31 by omega), ixn (show p < 2 ^ 31 by omega)]
        show (¬ upd tl p (nI (tpN M p)) c = upd tl p (nI (tpN M p)) p → _) ∧ (upd tl p (nI (tpN M p)) c = upd tl p (nI (tpN M p)) p → _)
        rw [upd_eq, upd_ne (by omega), h2 c hc, nI_eq (by omega) (by omega), nI_s]
        refine ⟨fun z => kk2 () (fun p' hp' => ?_), fun z => ?_⟩
        · by_cases e : p' = c
          · rw [e]; exact z
          · exact hno p' (by omega)
        · obtain ⟨k1, k2⟩ := bad (upd (a_told (sA M 73 tl)) p (nI (tpN M p))) (fun y => (y p hp).2 c hc z)
          exact ⟨k1.symm, k2⟩
    · obtain ⟨k1, k2⟩ := bad (upd (a_told (sA M 73 tl)) p (nI (tpN M p))) (fun y => by rw [em.mpr (y p hp).1] at z; cases z)
      exact ⟨k1.symm, k2⟩
def ChX (B : BkT) (M : StM) (n : Nat) (X : StX) : Prop := xs_Mus_chosen X = nI n ∧ ∀ p, p < n → xa_Mus_choice X p = nI (tpN M p) ∧ xa_Mus_wanted X p = wantV B M (tpN M p)
theorem ct_Mus_isChosen {E : EvT} {q : Nat → Nat} {d : Nat} {X : StX} {n : Nat} (hn : n ≤ 100) {f : Nat → Nat} {i : Nat} (hi : i < 256) (h1 : xs_Mus_chosen X = nI n) (h2 : ∀ p, p < n → xa_Mus_choice X p = nI (f p) ∧ f p < 256) : C_Mus_isChosen E q d (nI i) X (fun r X1 => r = dcd (∃ p, p < n ∧ f p = i) ∧ X1 = X) := by
  refine en_Mus_isChosen ?_
  refine up_s (W := n) (T := fun c (_ : Unit) => T_Mus_isChosen_2 E q d (fun r X1 => r = dcd (∃ p, p < n ∧ f p = i) ∧ X1 = X) X (nI i) (nI c)) (J := fun c _ => ∀ p, p < c → ¬ f p = i) ?_ ?_ 0 () (by omega) (fun i hi => absurd hi (Nat.not_lt_zero i))
  · rintro - hno
    exact sg_Mus_isChosen_2 ⟨fun _ => ⟨(dcd_f.mpr (fun ⟨p, hp, e⟩ => hno p hp e)).symm, rfl⟩, fun z => absurd (by rw [h1]; exact Int32.le_refl _) z⟩
  · rintro c - hc hno kk
    obtain ⟨e1, e2⟩ := h2 c hc
    refine sg_Mus_isChosen_2 ⟨fun z => absurd z (by rw [h1]; exact nI_ge hc (by omega)), fun _ => ⟨bnd (n := 100) (by omega) (by omega) rfl, ?_⟩⟩
    rw [ixn (show c < 2 ^ 31 by omega), e1, nI_eq (by omega) (by omega), nI_s]
    refine ⟨fun z => kk () (fun p hp => ?_), fun z => ⟨(dcd_t.mpr ⟨c, hc, z⟩).symm, rfl⟩⟩
    by_cases e : p = c
    · rw [e]; exact z
    · exact hno p (by omega)
theorem ct_Mus_choose {E : EvT} {q : Nat → Nat} {d : Nat} {B : BkT} {X : StX} {M : StM} (h : MH B X M) (hb : xa_Tape_bytes X = a_tape M) {n : Nat} (hn : n ≤ 100) : C_Mus_choose E q (d + 7) (nI n) X (fun r X1 => r = dcd (Hears M n) ∧ keptX X X1 ∧ (Hears M n → ChX B M n X1)) := by
  obtain ⟨en, n150⟩ := h.1.n
  refine en_Mus_choose ?_
  refine up_s (W := n) (T := fun p Y => T_Mus_choose_7 E q (d + 7) (fun r X1 => r = dcd (Hears M n) ∧ keptX X X1 ∧ (Hears M n → ChX B M n X1)) Y (nI n) (nI p)) (J := fun p Y => Hears M p ∧ keptX X Y ∧ ChX B M p Y) ?_ ?_ 0 _ (by omega) ⟨fun i hi => absurd hi (Nat.not_lt_zero i), (keptX.rf X).xI rfl _, rfl, fun i hi => absurd hi (Nat.not_lt_zero i)⟩
  · rintro Y ⟨h1, h2, h3⟩
    exact sg_Mus_choose_7 ⟨fun _ => ⟨(dcd_t.mpr h1).symm, h2, fun _ => h3⟩, fun z => absurd (Int32.le_refl _) z⟩
  · rintro p Y hp ⟨h1, h2, h3, h4⟩ kk
    obtain ⟨t1, t2⟩ := tpN_e M p
    have bad : ∀ Z, keptX X Z → ¬ Hears M n → false = dcd (Hears M n) ∧ keptX X Z ∧ (Hears M n → ChX B M n Z) := fun Z hk z => ⟨(dcd_f.mpr z).symm, hk, fun y => absurd y z⟩
    have et : xa_Tape_bytes Y p &&& 255 = nI (tpN M p) := by rw [show xa_Tape_bytes Y = a_tape M from (h2.a rfl).trans hb]; exact t1
    refine sg_Mus_choose_7 ⟨fun z => absurd z (nI_ge hp (by omega)), fun _ => ⟨fun z => absurd z (nle_nI (n := 100) (by omega) (by omega) rfl), fun _ => ⟨bnd (n := 400) (by omega) (by omega) rfl, ?_⟩⟩⟩
    rw [ixn (show p < 2 ^ 31 by omega), et, show xs_Finds_size Y = s_finds M from (h2.s rfl).trans h.1.1.1, en, nI_leI (by omega) (by omega)]
    refine ⟨fun z => bad Y h2 (fun y => by have := (y p hp).1; omega), fun z => ?_⟩
    have hlt : tpN M p < nFi M := by omega
    refine mBx (ct_Mus_isChosen (f := tpN M) (by omega) t2 h3 (fun p' hp' => ⟨(h4 p' hp').1, (tpN_e M p').2⟩)) (fun r Y1 hh => ?_)
    obtain ⟨rfl, rfl⟩ := hh
    rw [h3, ixn (show p < 2 ^ 31 by omega)]
    refine ⟨fun z2 => ⟨bnd (n := 100) (by omega) (by omega) rfl, ?_⟩, fun z2 => bad _ h2 (fun y => ?_)⟩
    · have hno : ∀ p', p' < p → ¬ tpN M p' = tpN M p := fun p' hp' e => dcd_f.mp z2 ⟨p', hp', e⟩
      have hk2 : keptX X (xA Y1 68 (upd (xa_Mus_choice Y1) p (nI (tpN M p)))) := h2.xA rfl _
      refine mIx (ct_Mus_marksNeeded (h.kp (kept.rf M) hk2) hlt) (fun r Y2 hh => ?_)
      obtain ⟨er, l, u, s, rfl⟩ := hh
      rw [nI_s]
      refine kk _ ⟨h1.s hlt hno, ((xFx_kp hk2 l u s).xA rfl _).xI rfl _, ?_, fun p' hp' => ?_⟩
      · show xs_Mus_chosen Y1 + 1 = nI (p + 1)
        rw [h3, nI_s]
      · show upd (xa_Mus_choice Y1) p (nI (tpN M p)) p' = _ ∧ upd (xa_Mus_wanted Y1) p r p' = _
        by_cases e : p' = p
        · subst e; rw [upd_eq, upd_eq]; exact ⟨rfl, er⟩
        · rw [upd_ne e, upd_ne e]; exact h4 p' (by omega)
    · obtain ⟨p', hp', e⟩ := dcd_t.mp z2
      exact (y p hp).2 p' hp' e
/-! lost -/
def lostP (B : BkT) (M : StM) (i : Nat) : Prop := ∀ k, k < nTh M → ¬ likeP B M i k
def wouP (B : BkT) (M : StM) (m i : Nat) : Prop := ∃ k, k < nTh M ∧ a_museumOf M k = nI m ∧ cbP B M i k
def cntD (f : Nat → Bool) : Nat → Nat
  | 0 => 0
  | n + 1 => cntD f n + if f n = true then 1 else 0
theorem cntD_le (f : Nat → Bool) : ∀ n, cntD f n ≤ n := by
  intro n
  induction n with
  | zero => exact Nat.le_refl _
  | succ n ih => rw [cntD]; split <;> omega
noncomputable def lsF (B : BkT) (M : StM) (p : Nat) : Bool := dcd (lostP B M (tpN M p))
noncomputable def lmF (B : BkT) (M : StM) (m p : Nat) : Bool := dcd (lostP B M (tpN M p) ∧ wouP B M m (tpN M p))
theorem ct_isLost {E : EvT} {q : Nat → Nat} {d : Nat} {B : BkT} {X : StX} {M : StM} (h : MH B X M) {i : Nat} (hi : i < nFi M) : C_isLost E q (d + 6) (nI i) M (fun r M1 => r = dcd (lostP B M i) ∧ ∃ l t s, M1 = mFx M l t s) := by
  obtain ⟨en, n60⟩ := h.2.1.n
  refine en_isLost ?_
  have key := up_s (W := nTh M) (T := fun k (z : (Nat → Int32) × (Nat → Int32) × (Nat → Int32)) => T_isLost_2 E q (d + 6) (fun r M1 => r = dcd (lostP B M i) ∧ ∃ l t s, M1 = mFx M l t s) (mFx M z.1 z.2.1 z.2.2) (nI i) (nI k)) (J := fun k _ => ∀ k', k' < k → ¬ likeP B M i k') ?_ ?_ 0 (a_facts M, a_isStruck M, a_stack M) (by omega) (fun i hi => absurd hi (Nat.not_lt_zero i))
  · rw [show mFx M (a_facts M, a_isStruck M, a_stack M).1 (a_facts M, a_isStruck M, a_stack M).2.1 (a_facts M, a_isStruck M, a_stack M).2.2 = M from (mFx_self M).symm] at key
    exact key
  · rintro ⟨l, t, s⟩ hno
    exact sg_isLost_2 ⟨fun _ => ⟨(dcd_t.mpr hno).symm, l, t, s, rfl⟩, fun z => absurd (by show s_things M ≤ _; rw [en]; exact Int32.le_refl _) z⟩
  · rintro k ⟨l, t, s⟩ hk hno kk
    refine sg_isLost_2 ⟨fun z => absurd z (by show ¬ s_things M ≤ _; rw [en]; exact nI_ge hk (by omega)), fun _ => ?_⟩
    refine mB (ct_isLike (h.kp (mFx_kp (kept.rf M) l t s) (keptX.rf X)) hi hk) (fun r M1 hh => ?_)
    obtain ⟨er, l', t', s', rfl⟩ := hh
    have er : r = dcd (likeP B M i k) := er
    have e3 : mFx (mFx M l t s) l' t' s' = mFx M l' t' s' := by
      have a1 := kept_iff.mp (mFx_kp (kept.rf M) l t s)
      refine Prod.ext rfl ?_
      funext j
      simp only [mFx, mNb, sA, va_up]
      by_cases c1 : j = 55
      · simp [c1]
      · by_cases c2 : j = 54
        · simp [c2]
        · by_cases c3 : j = 56
          · simp [c3]
          · simp [c1, c2, c3]
    rw [er, nI_s]
    refine ⟨fun z => ?_, fun z => ⟨?_, l', t', s', e3⟩⟩
    · show T_isLost_2 E q (d + 6) _ (mFx (mFx M l t s) l' t' s') _ _
      rw [e3]
      refine kk (l', t', s') (fun k' hk' => ?_)
      by_cases e : k' = k
      · rw [e]; exact dcd_f.mp z
      · exact hno k' (by omega)
    · exact (dcd_f.mpr (fun y => y k hk (dcd_t.mp z))).symm
