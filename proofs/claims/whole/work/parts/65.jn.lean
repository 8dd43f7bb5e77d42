/-! join: the reference -/
theorem IsB.cong {m : Nat} {ok ok' : Nat → Nat → Prop} {g g' : Nat → Nat → Nat} {t b : Nat} (h : IsB m ok g t b) (e : ∀ p, p < m → ∀ k, k < t → (ok p k ↔ ok' p k) ∧ (ok p k → g p k = g' p k)) : IsB m ok' g' t b := by
  have va : ∀ r, VA m ok t r ↔ VA m ok' t r := by
    intro r
    constructor
    · intro v
      exact ⟨fun p hp h60 => by
        obtain ⟨a1, a2⟩ := v.1 p hp h60
        exact ⟨a1, (e p hp _ a1).1.mp a2⟩, v.2⟩
    · intro v
      exact ⟨fun p hp h60 => by
        obtain ⟨a1, a2⟩ := v.1 p hp h60
        exact ⟨a1, (e p hp _ a1).1.mpr a2⟩, v.2⟩
  have sw : ∀ r, VA m ok t r → ∀ n, n ≤ m → sumW g r n = sumW g' r n := by
    intro r v n
    induction n with
    | zero => intro _; rfl
    | succ n ih =>
      intro hn
      rw [sumW, sumW, ih (by omega)]
      by_cases c : r n = 60
      · rw [if_pos c, if_pos c]
      · obtain ⟨a1, a2⟩ := v.1 n (by omega) c
        rw [if_neg c, if_neg c, (e n (by omega) _ a1).2 a2]
  refine ⟨fun r hr => ?_, ?_⟩
  · rw [← sw r ((va r).mpr hr) m (Nat.le_refl _)]
    exact h.1 r ((va r).mpr hr)
  · obtain ⟨r, r1, r2⟩ := h.2
    exact ⟨r, (va r).mp r1, by rw [← sw r r1 m (Nat.le_refl _)]; exact r2⟩
theorem ex_max {P : Nat → Prop} : ∀ N, (∃ x, P x) → (∀ x, P x → x ≤ N) → ∃ b, P b ∧ ∀ x, P x → x ≤ b := by
  intro N
  induction N with
  | zero => rintro ⟨x, hx⟩ h; have := h x hx; have : x = 0 := by omega
            subst this; exact ⟨0, hx, h⟩
  | succ N ih =>
    intro hx h
    rcases Classical.em (P (N + 1)) with c | c
    · exact ⟨N + 1, c, h⟩
    · refine ih hx (fun x px => ?_)
      have := h x px
      by_cases e : x = N + 1
      · subst e; exact absurd px c
      · omega
theorem IsB.ex {m : Nat} {ok : Nat → Nat → Prop} {g : Nat → Nat → Nat} {t G : Nat} (hg : ∀ p k, g p k ≤ G) : ∃ b, IsB m ok g t b := by
  obtain ⟨b, ⟨r, r1, r2⟩, h⟩ := ex_max (P := fun x => ∃ r, VA m ok t r ∧ sumW g r m = x) (m * G) ⟨_, fun _ => 60, ⟨fun p _ h => absurd rfl h, fun _ _ _ _ _ _ => rfl⟩, rfl⟩ (fun x ⟨r, _, e⟩ => by rw [← e]; exact sumW_le hg m)
  exact ⟨b, fun r' hr' => h _ ⟨r', hr', rfl⟩, r, r1, r2⟩
def jOk (B : BkT) (M : StM) (p k : Nat) : Prop := likeP B M (tpN M p) k
def jAg (M : StM) (p k : Nat) : Nat := 8 - pcB 32 (tmN M (tpN M p) k)
theorem jAg_8 (M : StM) (p k : Nat) : jAg M p k ≤ 8 := Nat.sub_le _ _
def JoinR (B : BkT) (M : StM) (n : Nat) (a : Nat → Nat) : Prop := VA n (jOk B M) (nTh M) a ∧ (∀ s, VA n (jOk B M) (nTh M) s → sumW (gM (jAg M)) s n ≤ sumW (gM (jAg M)) a n) ∧ (∀ s, VA n (jOk B M) (nTh M) s → sumW (gM (jAg M)) s n = sumW (gM (jAg M)) a n → Lex n a s)
def joiOk (M : StM) (x : Int32) : Prop := mIn x 0 8 = true ∧ x ≤ s_taped M
def joiM (B : BkT) (M : StM) (n : Nat) (r : Int32) (M1 : StM) : Prop := (¬ Hears M n → r = -2 ∧ kept (sI M 28 0) M1) ∧ (Hears M n → ∃ a ro, JoinR B M n a ∧ r = nI (cM a n) ∧ kept (sA (sI (sI M 28 0) 69 (nI n)) 74 ro) M1 ∧ ∀ p, p < n → ro p = nI (a p))
def agSp (B : BkT) (M : StM) (p k : Nat) (A : Nat → Int32) : Prop := (likeP B M (tpN M p) k → A (60 * p + k) = nI (jAg M p k)) ∧ (¬ likeP B M (tpN M p) k → A (60 * p + k) = -1)
theorem ct_join {E : EvT} {q : Nat → Nat} {d : Nat} {B : BkT} {X : StX} {M : StM} (h : MH B X M) {x : Int32} : C_join E q (d + 6) x M (fun r M1 => (¬ joiOk M x → r = -1 ∧ M1 = M) ∧ (joiOk M x → joiM B M (ix x) r M1)) := by
  obtain ⟨en, n60⟩ := h.2.1.n
  have bad : ¬ joiOk M x → (¬ joiOk M x → (-1 : Int32) = -1 ∧ M = M) ∧ (joiOk M x → joiM B M (ix x) (-1) M) := fun z => ⟨fun _ => ⟨rfl, rfl⟩, fun y => absurd y z⟩
  refine en_join ⟨fun e => bad (fun z => by rw [z.1] at e; cases e), fun e1 => ⟨fun e2 => ?_, fun e2 => bad (fun z => e2 z.2)⟩⟩
  have ok : joiOk M x := ⟨e1, e2⟩
  obtain ⟨n, n8, rfl⟩ : ∃ n, n ≤ 8 ∧ x = nI n := by
    rw [mIn, decide_eq_true_eq] at e1
    exact ⟨ix x, ix_le (n := 8) e1.1 e1.2 (by omega), (nix e1.1).symm⟩
  have fin : ∀ r N, joiM B M n r N → (¬ joiOk M (nI n) → r = -1 ∧ N = M) ∧ (joiOk M (nI n) → joiM B M (ix (nI n)) r N) := fun r N hj => ⟨fun z => absurd ok z, fun _ => by rw [ixn (by omega)]; exact hj⟩
  have hz : MH B X (sI M 28 0) := h
  refine mB (ct_hearsFinds hz.1 (by omega)) (fun r M1 hh => ?_)
  obtain ⟨er, tl, rfl, htl⟩ := hh
  have er : r = dcd (Hears M n) := er
  have htl : Hears M n → ∀ p, p < n → tl p = nI (tpN M p) := htl
  have hk0 : kept (sI M 28 0) (sA (sI M 28 0) 73 tl) := (kept.rf _).sA rfl tl
  subst er
  refine ⟨fun hr => ?_, fun hr => fin _ _ ⟨fun _ => ⟨rfl, hk0⟩, fun y => absurd y (dcd_f.mp hr)⟩⟩
  have hH : Hears M n := dcd_t.mp hr
  have htl := htl hH
  generalize hPd : (fun (r : Int32) (M1 : StM) => (¬ joiOk M (nI n) → r = -1 ∧ M1 = M) ∧ (joiOk M (nI n) → joiM B M (ix (nI n)) r M1)) = Pd
  have finP : ∀ r N, joiM B M n r N → Pd r N := fun r N hj => by rw [← hPd]; exact fin r N hj
  -- the row, find by find
  have rows : ∀ A, (∀ p, p < n → ∀ k, k < nTh M → agSp B M p k A) → ∀ W, (∀ s, VA n (jOk B M) (nTh M) s → sumW (gM (jAg M)) s n ≤ W) → ∀ i a U b ro N, i ≤ n → kept (sA (sI (sI M 28 0) 69 (nI n)) 74 ro) N → a_agree N = A → (∀ k, k < 60 → a_isUsed N k = b2i (U k)) → GrI n (jOk B M) (gM (jAg M)) (nTh M) W i a U b → W ≤ 8064 → (∀ p, p < i → ro p = nI (a p)) → T_join_147 E q (d + 6) Pd N (nI n) (nI b) (nI (W / 1000)) (nI i) := by
    intro A hA W hWb
    have aOK : agOK A n (nTh M) := by
      intro p hp k hk
      rcases Classical.em (likeP B M (tpN M p) k) with c | c
      · right
        have := jAg_8 M p k
        rw [(hA p hp k hk).1 c]
        exact ⟨nI_pos' (by omega), nI_le (b := 8) this (by omega)⟩
      · exact Or.inl ((hA p hp k hk).2 c)
    have okE : ∀ p, p < n → ∀ k, k < nTh M → ((okA A p k ↔ jOk B M p k) ∧ (okA A p k → agA A p k = jAg M p k)) := by
      intro p hp k hk
      have j8 := jAg_8 M p k
      have h1 : okA A p k ↔ jOk B M p k := by
        constructor
        · intro z
          exact Classical.byContradiction (fun c => z ((hA p hp k hk).2 c))
        · intro c z
          rw [(hA p hp k hk).1 c] at z
          exact nI_ne1 (by omega) z
      refine ⟨h1, fun z => ?_⟩
      rw [agA, (hA p hp k hk).1 (h1.mp z), ixn (by omega), Nat.min_eq_left j8]
    have conv : ∀ i, i ≤ n → ∀ U b, IsB (n - i) (okT (okA A) i U) (gT (gM (agA A)) i) (nTh M) b → IsB (n - i) (okT (jOk B M) i U) (gT (gM (jAg M)) i) (nTh M) b := by
      intro i hi U b hb
      refine hb.cong (fun p hp k hk => ?_)
      obtain ⟨o1, o2⟩ := okE (i + p) (by omega) k hk
      refine ⟨⟨fun z => ⟨o1.mp z.1, z.2⟩, fun z => ⟨o1.mpr z.1, z.2⟩⟩, fun z => ?_⟩
      show 1000 + agA A (i + p) k = 1000 + jAg M (i + p) k
      rw [o2 z.1]
    have m : ∀ j i, i + j = n → ∀ a U b ro N, kept (sA (sI (sI M 28 0) 69 (nI n)) 74 ro) N → a_agree N = A → (∀ k, k < 60 → a_isUsed N k = b2i (U k)) → GrI n (jOk B M) (gM (jAg M)) (nTh M) W i a U b → W ≤ 8064 → (∀ p, p < i → ro p = nI (a p)) → T_join_147 E q (d + 6) Pd N (nI n) (nI b) (nI (W / 1000)) (nI i) := by
      intro j
      induction j with
      | zero =>
        intro i hij a U b ro N hk hAg hU hG hW hro
        have : i = n := by omega
        subst this
        obtain ⟨g1, g2, g3, g4, g5⟩ := hG
        have b0 : b = 0 := by
          obtain ⟨r, -, e⟩ := g3.2
          rw [Nat.sub_self, sumW] at e
          exact e.symm
        have eW : sumW (gM (jAg M)) a i = W := by omega
        have hmax := hWb
        refine sg_join_147 ⟨fun _ => finP _ _ ⟨fun y => absurd hH y, fun _ => ⟨a, ro, ⟨g1, fun s hs => by rw [eW]; exact hmax s hs, fun s hs e => g5 s hs (by rw [e, eW])⟩, ?_, hk, hro⟩⟩, fun z => absurd (Int32.le_refl _) z⟩
        congr 1
        have q1 : sumW (jAg M) a i ≤ 64 := by have := sumW_le (r := a) (jAg_8 M) i; omega
        rw [← eW, sumW_M]
        omega
      | succ j ih =>
        intro i hij a U b ro N hk hAg hU hG hW hro
        have hin : i < n := by omega
        have bi : (0 : Int32) ≤ nI i ∧ nI i < 8 := bnd (n := 8) (by omega) (by omega) rfl
        have bW : b ≤ 8064 := by have := hG.2.2.2.1; omega
        refine sg_join_147 ⟨fun z => absurd z (nI_ge hin (by omega)), fun _ => ?_⟩
        -- taken
        have taken : ∀ k U' b' N y6, k < nTh M → jOk B M i k → U k = false → (∀ j, U' j = (U j || decide (j = k))) → IsB (n - (i + 1)) (okT (jOk B M) (i + 1) U') (gT (gM (jAg M)) (i + 1)) (nTh M) b' → gM (jAg M) i k + b' = b → (∀ k', k' < k → jOk B M i k' → U k' = false → ∀ U2 b2, (∀ j, U2 j = (U j || decide (j = k'))) → IsB (n - (i + 1)) (okT (jOk B M) (i + 1) U2) (gT (gM (jAg M)) (i + 1)) (nTh M) b2 → ¬ gM (jAg M) i k' + b2 = b) → kept (sA (sI (sI M 28 0) 69 (nI n)) 74 ro) N → a_agree N = A → (∀ k, k < 60 → a_isUsed N k = b2i (U' k)) → y6 ≤ nTh M → T_join_160 E q (d + 6) Pd N (nI n) (nI b) (nI (W / 1000)) (nI i) (nI k) (nI y6) := by
          intro k U' b' N y6 hkT hok hUk hU' hB hbb hno hk hAg hU hy6
          have j8 := jAg_8 M i k
          have st := hG.step n60 hin (Or.inr ⟨hkT, hok, hUk⟩) hU' hB (by rw [if_neg (show ¬ k = 60 by omega)]; exact hbb) (fun k' h1 h2 h3 h4 => hno k' h2 h3 h4)
          have ne : ¬ nI k = 60 := by rw [show (60 : Int32) = nI 60 from rfl, nI_eq (by omega) (by omega)]; omega
          have hidx : (60 * nI i) + nI k = nI (60 * i + k) := by rw [show (60 : Int32) = nI 60 from rfl, pk_mul, nI_add]
          have go : (0 ≤ nI (60 * i + k) ∧ nI (60 * i + k) < 480) ∧ T_join_147 E q (d + 6) Pd (sA N 74 (upd (a_rowOf N) (ix (nI i)) (nI k))) (nI n) ((nI b - 1000) - a_agree N (ix (nI (60 * i + k)))) (nI (W / 1000)) (nI i + 1) := by
            refine ⟨bnd (n := 480) (by omega) (by omega) rfl, ?_⟩
            have gv : gM (jAg M) i k = 1000 + jAg M i k := rfl
            rw [ixn (show i < 2 ^ 31 by omega), ixn (show 60 * i + k < 2 ^ 31 by omega), hAg, (hA i hin k hkT).1 hok, show (1000 : Int32) = nI 1000 from rfl, pk_sub (show 1000 ≤ b by omega), pk_sub (show jAg M i k ≤ b - 1000 by omega), show b - 1000 - jAg M i k = b' by omega, nI_s]
            have hro2 : a_rowOf N = ro := by rw [show a_rowOf N = a_rowOf (sA (sI (sI M 28 0) 69 (nI n)) 74 ro) from hk.a rfl]; rfl
            rw [hro2]
            refine ih (i + 1) (by omega) (va_up a i k) U' b' (upd ro i (nI k)) _ ?_ hAg hU st hW (fun p hp => ?_)
            · have kk := kept_iff.mp hk
              refine kept_iff.mpr ⟨kk.1, fun j hj => ?_⟩
              show va_up N.2 74 (upd ro i (nI k)) j = va_up (sI (sI M 28 0) 69 (nI n)).2 74 (upd ro i (nI k)) j
              by_cases c : j = 74
              · subst c; rw [up_eq, up_eq]
              · rw [up_ne c, up_ne c]
                have := kk.2 j hj
                rw [this]
                show va_up (sI (sI M 28 0) 69 (nI n)).2 74 ro j = _
                rw [up_ne c]
            · by_cases c : p = i
              · subst c; rw [upd_eq, up_eq]
              · rw [upd_ne c, up_ne c]; exact hro p (by omega)
          refine sg_join_160 ?_
          rw [hidx]
          exact ⟨fun _ => ⟨bi, fun _ => go, fun z => absurd z ne⟩, fun _ => ⟨fun _ => ⟨bi, fun _ => go, fun z => absurd z ne⟩, fun z => absurd z ne⟩⟩
        refine up_s (W := nTh M) (T := fun k N => T_join_160 E q (d + 6) Pd N (nI n) (nI b) (nI (W / 1000)) (nI i) 60 (nI k)) (J := fun k N => kept (sA (sI (sI M 28 0) 69 (nI n)) 74 ro) N ∧ a_agree N = A ∧ (∀ k, k < 60 → a_isUsed N k = b2i (U k)) ∧ ∀ k', k' < k → jOk B M i k' → U k' = false → ∀ U2 b2, (∀ j, U2 j = (U j || decide (j = k'))) → IsB (n - (i + 1)) (okT (jOk B M) (i + 1) U2) (gT (gM (jAg M)) (i + 1)) (nTh M) b2 → ¬ gM (jAg M) i k' + b2 = b) ?_ ?_ 0 N (by omega) ⟨hk, hAg, hU, fun k' hk' => absurd hk' (Nat.not_lt_zero k')⟩
        · rintro N ⟨hk, hAg, hU, hno⟩
          -- no thing will do
          obtain ⟨b', hB⟩ := IsB.ex (m := n - (i + 1)) (ok := okT (jOk B M) (i + 1) U) (g := gT (gM (jAg M)) (i + 1)) (t := nTh M) (G := 1008) (fun p k => by have := jAg_8 M (i + 1 + p) k; show 1000 + jAg M (i + 1 + p) k ≤ 1008; omega)
          have eb := best_skip n60 hin hG.2.2.1 hB (fun k hk ho hu b2 hb2 => hno k hk ho hu _ b2 (fun j => rfl) hb2)
          subst eb
          have hB2 : IsB (n - (i + 1)) (okT (jOk B M) (i + 1) (fun j => U j || decide (j = 60))) (gT (gM (jAg M)) (i + 1)) (nTh M) b' := hB.cong (fun p hp k hk => ⟨⟨fun z => ⟨z.1, by show (U k || decide (k = 60)) = false; rw [z.2, Bool.false_or, decide_eq_false_iff_not]; omega⟩, fun z => ⟨z.1, by have := z.2; rw [Bool.or_eq_false_iff] at this; exact this.1⟩⟩, fun _ => rfl⟩)
          have st := hG.step n60 hin (k := 60) (Or.inl rfl) (fun j => rfl) hB2 (by rw [if_pos rfl]; omega) (fun k' h1 h2 h3 h4 => hno k' h1 h3 h4)
          refine sg_join_160 ⟨fun _ => ⟨bi, fun z => absurd rfl z, fun _ => ?_⟩, fun z => absurd (by rw [show s_things N = s_things M from hk.s 68, en]; exact Int32.le_refl _) z⟩
          have hro2 : a_rowOf N = ro := by rw [show a_rowOf N = a_rowOf (sA (sI (sI M 28 0) 69 (nI n)) 74 ro) from hk.a rfl]; rfl
          rw [ixn (show i < 2 ^ 31 by omega), hro2, nI_s]
          refine ih (i + 1) (by omega) (va_up a i 60) (fun j => U j || decide (j = 60)) b' (upd ro i 60) _ ?_ hAg (fun k hk => ?_) st hW (fun p hp => ?_)
          · have kk := kept_iff.mp hk
            refine kept_iff.mpr ⟨kk.1, fun j hj => ?_⟩
            show va_up N.2 74 (upd ro i 60) j = va_up (sI (sI M 28 0) 69 (nI n)).2 74 (upd ro i 60) j
            by_cases c : j = 74
            · subst c; rw [up_eq, up_eq]
            · rw [up_ne c, up_ne c]
              have := kk.2 j hj
              rw [this]
              show va_up (sI (sI M 28 0) 69 (nI n)).2 74 ro j = _
              rw [up_ne c]
          · rw [show decide (k = 60) = false from decide_eq_false (by omega), Bool.or_false]; exact hU k hk
          · by_cases c : p = i
            · subst c; rw [upd_eq, up_eq]; rfl
            · rw [upd_ne c, up_ne c]; exact hro p (by omega)
        · rintro k N hkT ⟨hk, hAg, hU, hno⟩ kk
          have hidx : (60 * nI i) + nI k = nI (60 * i + k) := by rw [show (60 : Int32) = nI 60 from rfl, pk_mul, nI_add]
          have j8 := jAg_8 M i k
          have nx : ∀ N, kept (sA (sI (sI M 28 0) 69 (nI n)) 74 ro) N → a_agree N = A → (∀ k, k < 60 → a_isUsed N k = b2i (U k)) → (jOk B M i k → U k = false → ∀ U2 b2, (∀ j, U2 j = (U j || decide (j = k))) → IsB (n - (i + 1)) (okT (jOk B M) (i + 1) U2) (gT (gM (jAg M)) (i + 1)) (nTh M) b2 → ¬ gM (jAg M) i k + b2 = b) → T_join_160 E q (d + 6) Pd N (nI n) (nI b) (nI (W / 1000)) (nI i) 60 (nI k + 1) := by
            intro N hk hAg hU h
            rw [nI_s]
            refine kk N ⟨hk, hAg, hU, fun k' hk' => ?_⟩
            by_cases c : k' = k
            · subst c; exact h
            · exact hno k' (by omega)
          refine sg_join_160 ⟨fun z => absurd z (by rw [show s_things N = s_things M from hk.s 68, en]; exact nI_ge hkT (by omega)), fun _ => ⟨fun z => absurd rfl z, fun _ => ?_⟩⟩
          rw [hidx, ixn (show 60 * i + k < 2 ^ 31 by omega), ixn (show k < 2 ^ 31 by omega), hAg, hU k (by omega), b2i_0]
          refine ⟨bnd (n := 480) (by omega) (by omega) rfl, bnd (n := 60) (by omega) (by omega) rfl, fun z => nx N hk hAg hU (fun _ u => absurd u z), fun hUk => ⟨fun z => ?_, fun z => nx N hk hAg hU (fun ho => absurd z ?_)⟩⟩
          · have hok : jOk B M i k := (okE i hin k hkT).1.mp z
            have hk2 : kept (sA (sI (sI M 28 0) 69 (nI n)) 74 ro) (sA N 77 (upd (a_isUsed N) k (vp_nar .boolean 1))) := hk.sA rfl _
            have hU2 : ∀ k', k' < 60 → a_isUsed (sA N 77 (upd (a_isUsed N) k (vp_nar .boolean 1))) k' = b2i ((fun j => U j || decide (j = k)) k') := by
              intro k' hk'
              show upd (a_isUsed N) k (vp_nar .boolean 1) k' = b2i (U k' || decide (k' = k))
              by_cases c : k' = k
              · subst c; rw [upd_eq, nb01.1]; simp [b2i]
              · rw [upd_ne c, hU k' hk', show decide (k' = k) = false from decide_eq_false c, Bool.or_false]
            have enT : nTh (sA N 77 (upd (a_isUsed N) k (vp_nar .boolean 1))) = nTh M := by
              show ix (s_things N) = ix (s_things M)
              rw [show s_things N = s_things M from hk.s 68]
            rw [nI_s]
            refine mI (ct_bestFrom (M := sA N 77 (upd (a_isUsed N) k (vp_nar .boolean 1))) ⟨by rw [enT]; exact (hk.s 68).trans en, by rw [enT]; exact n60⟩ (i := i + 1) (n := n) (by omega) n8 (by rw [enT, show a_agree (sA N 77 (upd (a_isUsed N) k (vp_nar .boolean 1))) = A from hAg]; exact aOK) hU2) (fun r N1 hh => ?_)
            obtain ⟨b2, rfl, hB2, b28, mb, rfl⟩ := hh
            rw [enT, show a_agree (sA N 77 (upd (a_isUsed N) k (vp_nar .boolean 1))) = A from hAg] at hB2
            have hB3 := conv (i + 1) (by omega) _ b2 hB2
            have gv : gM (jAg M) i k = 1000 + jAg M i k := rfl
            rw [(hA i hin k hkT).1 hok, show (1000 : Int32) = nI 1000 from rfl, nI_add, nI_add, nI_eq (by omega) (by omega)]
            have hk3 : kept (sA (sI (sI M 28 0) 69 (nI n)) 74 ro) (sA (sA N 77 (upd (a_isUsed N) k (vp_nar .boolean 1))) 75 mb) := hk2.sA rfl mb
            refine ⟨fun y => nx _ (hk3.sA rfl _) hAg (fun k' hk' => ?_) (fun _ _ U2 b3 hU3 hB4 e => ?_), fun y => ?_⟩
            · show upd (upd (a_isUsed N) k (vp_nar .boolean 1)) k (vp_nar .boolean 0) k' = _
              by_cases c : k' = k
              · subst c; rw [upd_eq, nb01.2, hUk]; rfl
              · rw [upd_ne c, upd_ne c]; exact hU k' hk'
            · have : U2 = (fun j => U j || decide (j = k)) := funext hU3
              subst this
              have := hB4.one hB3
              omega
            · rw [nI_s]
              exact taken k (fun j => U j || decide (j = k)) b2 _ (k + 1) hkT hok hUk (fun j => rfl) hB3 (by omega) hno hk3 hAg hU2 (by omega)
          · rw [(hA i hin k hkT).1 ho]; exact nI_ne1 (by omega)
    intro i a U b ro N hi
    exact m (n - i) i (by omega) a U b ro N
  -- the things are free
  have free : ∀ A, (∀ p, p < n → ∀ k, k < nTh M → agSp B M p k A) → ∀ N, kept (sI M 28 0) N → a_agree N = A → T_join_107 E q (d + 6) Pd N (nI n) 0 := by
    intro A hA N hk hAg
    refine up_s (W := 60) (T := fun k N => T_join_107 E q (d + 6) Pd N (nI n) (nI k)) (J := fun k N => kept (sI M 28 0) N ∧ a_agree N = A ∧ ∀ k', k' < k → a_isUsed N k' = 0) ?_ ?_ 0 N (by omega) ⟨hk, hAg, fun k hk => absurd hk (Nat.not_lt_zero k)⟩
    · rintro N ⟨hk, hAg, hU⟩
      refine sg_join_107 ⟨fun _ => ?_, fun z => absurd (by decide) z⟩
      have enT : nTh N = nTh M := by
        show ix (s_things N) = ix (s_things M)
        rw [show s_things N = s_things M from hk.s 68]
      have aOK : agOK A n (nTh M) := by
        intro p hp k hk
        rcases Classical.em (likeP B M (tpN M p) k) with c | c
        · right
          have := jAg_8 M p k
          rw [(hA p hp k hk).1 c]
          exact ⟨nI_pos' (by omega), nI_le (b := 8) this (by omega)⟩
        · exact Or.inl ((hA p hp k hk).2 c)
      refine mI (ct_bestFrom (M := N) ⟨by rw [enT]; exact (hk.s 68).trans en, by rw [enT]; exact n60⟩ (i := 0) (n := n) (by omega) n8 (by rw [enT, hAg]; exact aOK) (U := fun _ => false) (fun k hk => hU k hk)) (fun r N1 hh => ?_)
      obtain ⟨W, rfl, hB, W8, mb, rfl⟩ := hh
      rw [enT, hAg] at hB
      have hB2 : IsB n (okT (jOk B M) 0 (fun _ => false)) (gT (gM (jAg M)) 0) (nTh M) W := by
        refine hB.cong (fun p hp k hk => ?_)
        have hp : p < n := hp
        have j8 := jAg_8 M p k
        have h1 : okA A (0 + p) k ↔ jOk B M (0 + p) k := by
          rw [Nat.zero_add]
          constructor
          · intro z
            exact Classical.byContradiction (fun c => z ((hA p hp k hk).2 c))
          · intro c z
            rw [(hA p hp k hk).1 c] at z
            exact nI_ne1 (by omega) z
        refine ⟨⟨fun z => ⟨h1.mp z.1, z.2⟩, fun z => ⟨h1.mpr z.1, z.2⟩⟩, fun z => ?_⟩
        show 1000 + agA A (0 + p) k = 1000 + jAg M (0 + p) k
        have := h1.mp z.1
        rw [Nat.zero_add] at this ⊢
        rw [agA, (hA p hp k hk).1 this, ixn (by omega), Nat.min_eq_left j8]
      have eg : gT (gM (jAg M)) 0 = gM (jAg M) := by
        funext p k
        show gM (jAg M) (0 + p) k = _
        rw [Nat.zero_add]
      have ediv : nI W / 1000 = nI (W / 1000) := by rw [show (1000 : Int32) = nI 1000 from rfl, div_n (by omega) (by omega) (by omega)]
      rw [ediv]
      refine rows A hA W (fun s hs => ?_) 0 (fun _ => 60) (fun _ => false) W (a_rowOf M) _ (by omega) ?_ hAg (fun k hk => hU k hk) (GrI.zero hB2) W8 (fun p hp => absurd hp (Nat.not_lt_zero p))
      · have := hB2.1 s ⟨fun p hp h60 => by
          obtain ⟨a1, a2⟩ := hs.1 p hp h60
          exact ⟨a1, by rw [show 0 + p = p from Nat.zero_add p]; exact a2, rfl⟩, hs.2⟩
        rw [eg] at this
        exact this
      · have kk := kept_iff.mp hk
        refine kept_iff.mpr ⟨?_, fun j hj => ?_⟩
        · show va_up N.1 69 (nI n) = va_up (sI M 28 0).1 69 (nI n)
          rw [kk.1]
        · show va_up N.2 75 mb j = va_up M.2 74 (M.2 74) j
          rw [up_ne (fun e => by rw [e] at hj; cases hj), kk.2 j hj]
          show M.2 j = _
          by_cases c : j = 74
          · subst c; rw [up_eq]
          · rw [up_ne c]
    · rintro k N hk60 ⟨hk, hAg, hU⟩ kk
      refine sg_join_107 ⟨fun z => absurd z (nle_nI (n := 60) hk60 (by omega) rfl), fun _ => ⟨bnd (n := 60) hk60 (by omega) rfl, ?_⟩⟩
      rw [ixn (show k < 2 ^ 31 by omega), nI_s, nb01.2]
      refine kk _ ⟨hk.sA rfl _, hAg, fun k' hk' => ?_⟩
      show upd (a_isUsed N) k 0 k' = 0
      by_cases c : k' = k
      · rw [c, upd_eq]
      · rw [upd_ne c]; exact hU k' (by omega)
  -- who is like what
  refine up_s (W := n) (T := fun p N => T_join_38 E q (d + 6) Pd N (nI n) (nI p)) (J := fun p N => kept (sI M 28 0) N ∧ (∀ p, p < n → a_told N p = nI (tpN M p)) ∧ ∀ p', p' < p → ∀ k, k < nTh M → agSp B M p' k (a_agree N)) ?_ ?_ 0 _ (by omega) ⟨hk0, htl, fun p hp => absurd hp (Nat.not_lt_zero p)⟩
  · rintro N ⟨hk, -, hAg⟩
    exact sg_join_38 ⟨fun _ => free (a_agree N) hAg N hk rfl, fun z => absurd (Int32.le_refl _) z⟩
  · rintro p N hp ⟨hk, hto, hAg⟩ kk
    refine sg_join_38 ⟨fun z => absurd z (nI_ge hp (by omega)), fun _ => ?_⟩
    refine up_s (W := nTh M) (T := fun k N => T_join_45 E q (d + 6) Pd N (nI n) (nI p) (nI k)) (J := fun k N => kept (sI M 28 0) N ∧ (∀ p, p < n → a_told N p = nI (tpN M p)) ∧ (∀ p', p' < p → ∀ k, k < nTh M → agSp B M p' k (a_agree N)) ∧ ∀ k', k' < k → agSp B M p k' (a_agree N)) ?_ ?_ 0 N (by omega) ⟨hk, hto, hAg, fun k hk => absurd hk (Nat.not_lt_zero k)⟩
    · rintro N ⟨hk, hto, hAg, hAg2⟩
      refine sg_join_45 ⟨fun _ => ?_, fun z => absurd (by rw [show s_things N = s_things M from hk.s 68, en]; exact Int32.le_refl _) z⟩
      rw [nI_s]
      refine kk N ⟨hk, hto, fun p' hp' k hk' => ?_⟩
      by_cases c : p' = p
      · subst c; exact hAg2 k hk'
      · exact hAg p' (by omega) k hk'
    · rintro k N hkT ⟨hk, hto, hAg, hAg2⟩ kk2
      have pl := (hH p hp).1
      have enF : nFi N = nFi M := by
        show ix (s_finds N) = ix (s_finds M)
        rw [show s_finds N = s_finds M from hk.s 57]
      have enT : nTh N = nTh M := by
        show ix (s_things N) = ix (s_things M)
        rw [show s_things N = s_things M from hk.s 68]
      have hidx : (60 * nI p) + nI k = nI (60 * p + k) := by rw [show (60 : Int32) = nI 60 from rfl, pk_mul, nI_add]
      have set : ∀ N v, kept (sI M 28 0) N → (∀ p, p < n → a_told N p = nI (tpN M p)) → (∀ p', p' < p → ∀ k, k < nTh M → agSp B M p' k (a_agree N)) → (∀ k', k' < k → agSp B M p k' (a_agree N)) → (likeP B M (tpN M p) k → v = nI (jAg M p k)) → (¬ likeP B M (tpN M p) k → v = -1) → (0 ≤ nI (60 * p + k) ∧ nI (60 * p + k) < 480) ∧ T_join_45 E q (d + 6) Pd (sA N 78 (upd (a_agree N) (ix (nI (60 * p + k))) v)) (nI n) (nI p) (nI k + 1) := by
        intro N v hk hto hAg hAg2 v1 v2
        refine ⟨bnd (n := 480) (by omega) (by omega) rfl, ?_⟩
        rw [ixn (show 60 * p + k < 2 ^ 31 by omega), nI_s]
        have old : ∀ p' k', (60 * p' + k') ≠ 60 * p + k → agSp B M p' k' (a_agree N) → agSp B M p' k' (upd (a_agree N) (60 * p + k) v) := by
          intro p' k' hne ha
          refine ⟨fun z => ?_, fun z => ?_⟩
          · rw [upd_ne hne]; exact ha.1 z
          · rw [upd_ne hne]; exact ha.2 z
        refine kk2 _ ⟨hk.sA rfl _, hto, fun p' hp' k' hk' => old p' k' (by omega) (hAg p' hp' k' hk'), fun k' hk' => ?_⟩
        by_cases c : k' = k
        · subst c
          exact ⟨fun z => (show upd (a_agree N) (60 * p + k') v (60 * p + k') = _ from upd_eq).trans (v1 z), fun z => (show upd (a_agree N) (60 * p + k') v (60 * p + k') = _ from upd_eq).trans (v2 z)⟩
        · exact old p k' (by omega) (hAg2 k' (by omega))
      refine sg_join_45 ⟨fun z => absurd z (by rw [show s_things N = s_things M from hk.s 68, en]; exact nI_ge hkT (by omega)), fun _ => ⟨bnd (n := 100) (by omega) (by omega) rfl, ?_⟩⟩
      rw [ixn (show p < 2 ^ 31 by omega), hto p hp, hidx]
      refine mB (ct_isLike (hz.kp hk (keptX.rf X)) (by rw [enF]; exact pl) (by rw [enT]; exact hkT)) (fun r N1 hh => ?_)
      obtain ⟨er, l, t, s, rfl⟩ := hh
      have er : r = dcd (likeP B M (tpN M p) k) := er.trans (hk.to (fun N => dcd (likeP B N (tpN M p) k) = dcd (likeP B M (tpN M p) k)) rfl)
      rw [er]
      have hk2 := mFx_kp hk l t s
      refine ⟨fun z => set _ _ hk2 hto hAg hAg2 (fun y => absurd y (dcd_f.mp z)) (fun _ => rfl), fun z => ?_⟩
      rw [show a_told (mFx N l t s) p = nI (tpN M p) from hto p hp]
      refine mI (ct_agreeing (hz.kp hk2 (keptX.rf X)) (by show tpN M p < nFi N; rw [enF]; exact pl) (by show k < nTh N; rw [enT]; exact hkT)) (fun r N2 hh => ?_)
      obtain ⟨er2, rfl⟩ := hh
      have er2 : r = agV M (tpN M p) k := er2.trans (hk.to (fun N => agV N (tpN M p) k = agV M (tpN M p) k) rfl)
      exact set _ _ hk2 hto hAg hAg2 (fun _ => er2) (fun y => absurd (dcd_t.mp z) y)
