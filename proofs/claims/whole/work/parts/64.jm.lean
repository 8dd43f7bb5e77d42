/-! joining: the reference -/
def enc (o : Option Nat) : Int32 := match o with
  | none => -1
  | some w => nI w
theorem IsM.le {m : Nat} {ok : Nat → Nat → Prop} {g : Nat → Nat → Nat} {t set w G : Nat} (h : IsM m ok g t set (some w)) (hg : ∀ p k, g p k ≤ G) : w ≤ m * G := by
  obtain ⟨r, -, e⟩ := h.2 w rfl
  rw [← e]
  exact sumW_le hg m
theorem IsP.le {m : Nat} {ok : Nat → Nat → Prop} {g : Nat → Nat → Nat} {t set f w G : Nat} (h : IsP m ok g t set f (some w)) (hg : ∀ p k, g p k ≤ G) : w ≤ m * G := by
  obtain ⟨r, -, e⟩ := h.2 w rfl
  rw [← e]
  exact sumW_le hg m
def okA (A : Nat → Int32) (p k : Nat) : Prop := ¬ A (60 * p + k) = -1
def agA (A : Nat → Int32) (p k : Nat) : Nat := min (ix (A (60 * p + k))) 8
def agOK (A : Nat → Int32) (n T : Nat) : Prop := ∀ p, p < n → ∀ k, k < T → A (60 * p + k) = -1 ∨ (0 ≤ A (60 * p + k) ∧ A (60 * p + k) ≤ 8)
theorem agA_e {A : Nat → Int32} {n T p k : Nat} (h : agOK A n T) (hp : p < n) (hk : k < T) (ho : okA A p k) : A (60 * p + k) = nI (agA A p k) := by
  rcases h p hp k hk with y | ⟨y1, y2⟩
  · exact absurd y ho
  · have := ix_le (n := 8) y1 y2 (by omega)
    rw [agA, Nat.min_eq_left this, nix y1]
theorem agA_8 (A : Nat → Int32) (p k : Nat) : agA A p k ≤ 8 := Nat.min_le_right _ _
theorem enc_ne {o : Option Nat} : ¬ enc o = -1 → ∃ w, o = some w := by
  intro h
  cases o with
  | none => exact absurd rfl h
  | some w => exact ⟨w, rfl⟩
theorem ct_bestFrom {E : EvT} {q : Nat → Nat} {d : Nat} {M : StM} (hT : s_things M = nI (nTh M) ∧ nTh M ≤ 60) {i n : Nat} (hi : i ≤ n) (hn : n ≤ 8) (hA : agOK (a_agree M) n (nTh M)) {U : Nat → Bool} (hU : ∀ k, k < 60 → a_isUsed M k = b2i (U k)) : C_bestFrom E q d (nI i) (nI n) M (fun r M1 => ∃ b, r = nI b ∧ IsB (n - i) (okT (okA (a_agree M)) i U) (gT (gM (agA (a_agree M))) i) (nTh M) b ∧ b ≤ 8064 ∧ ∃ mb, M1 = sA M 75 mb) := by
  obtain ⟨en, n60⟩ := hT
  obtain ⟨m, hm⟩ : ∃ m, n - i = m := ⟨_, rfl⟩
  have hni : nI n - nI i = nI m := by rw [pk_sub hi, hm]
  have m8 : m ≤ 8 := by omega
  have p256 : 2 ^ m ≤ 256 := Nat.pow_le_pow_right (by omega) m8 (n := 2)
  have p1 : 1 ≤ 2 ^ m := Nat.one_le_two_pow
  rw [hm]
  generalize hok : okT (okA (a_agree M)) i U = ok
  generalize hg : gT (gM (agA (a_agree M))) i = g
  have g8 : ∀ p k, g p k ≤ 1008 := by
    intro p k
    rw [← hg]
    have := agA_8 (a_agree M) (i + p) k
    show 1000 + agA (a_agree M) (i + p) k ≤ 1008
    omega
  have wl : ∀ {t set w}, IsM m ok g t set (some w) → w ≤ 8064 := by
    intro t set w h
    have := h.le g8
    have : m * 1008 ≤ 8 * 1008 := Nat.mul_le_mul_right _ m8
    omega
  have wlp : ∀ {t set f w}, IsP m ok g t set f (some w) → w ≤ 8064 := by
    intro t set f w h
    have := h.le g8
    have : m * 1008 ≤ 8 * 1008 := Nat.mul_le_mul_right _ m8
    omega
  refine en_bestFrom ?_
  rw [hni, sh1 m (by omega)]
  -- the end
  have last : ∀ mb, (∀ set, set < 2 ^ m → ∃ o, mb set = enc o ∧ IsM m ok g (nTh M) set o) → T_bestFrom_218 E q d (fun r M1 => ∃ b, r = nI b ∧ IsB m ok g (nTh M) b ∧ b ≤ 8064 ∧ ∃ mb, M1 = sA M 75 mb) (sA M 75 mb) (nI (2 ^ m)) 0 0 := by
    intro mb hmb
    have key := up_s (W := 2 ^ m) (T := fun s (b : Nat) => T_bestFrom_218 E q d (fun r M1 => ∃ b, r = nI b ∧ IsB m ok g (nTh M) b ∧ b ≤ 8064 ∧ ∃ mb, M1 = sA M 75 mb) (sA M 75 mb) (nI (2 ^ m)) (nI b) (nI s)) (J := fun s b => b ≤ 8064 ∧ (∀ set, set < s → ∀ w, IsM m ok g (nTh M) set (some w) → w ≤ b) ∧ (b = 0 ∨ ∃ set, set < 2 ^ m ∧ IsM m ok g (nTh M) set (some b))) ?_ ?_ 0 0 (by omega) ⟨by omega, fun set h => absurd h (Nat.not_lt_zero set), Or.inl rfl⟩
    · exact key
    · rintro b ⟨b8, h1, h2⟩
      refine sg_bestFrom_218 ⟨fun _ => ⟨b, rfl, ?_, b8, mb, rfl⟩, fun z => absurd (Int32.le_refl _) z⟩
      refine ⟨fun r hr => ?_, ?_⟩
      · obtain ⟨set, hs, hv⟩ := hr.set
        obtain ⟨o, -, ho⟩ := hmb set hs
        obtain ⟨w, e1, e2⟩ := ho.1 r hv
        subst e1
        have := h1 set hs w ho
        omega
      · rcases h2 with rfl | ⟨set, hs, ho⟩
        · obtain ⟨r, r1, r2⟩ := (IsM.zero (m := m) (ok := ok) (g := g) (t := nTh M)).2 0 rfl
          exact ⟨r, ⟨r1.2.1, r1.2.2⟩, r2⟩
        · obtain ⟨r, r1, r2⟩ := ho.2 b rfl
          exact ⟨r, ⟨r1.2.1, r1.2.2⟩, r2⟩
    · rintro s b hs ⟨b8, h1, h2⟩ kk
      obtain ⟨o, e1, ho⟩ := hmb s hs
      have uniq : ∀ w, IsM m ok g (nTh M) s (some w) → o = some w := by
        intro w hw
        obtain ⟨r, r1, r2⟩ := hw.2 w rfl
        obtain ⟨w', e3, e4⟩ := ho.1 r r1
        obtain ⟨r', r1', r2'⟩ := ho.2 w' e3
        obtain ⟨w2, e5, e6⟩ := hw.1 r' r1'
        cases e5
        rw [e3]; congr 1; omega
      refine sg_bestFrom_218 ⟨fun z => absurd z (nI_ge hs (by omega)), fun _ => ⟨bnd (n := 256) (by omega) (by omega) rfl, ?_⟩⟩
      rw [ixn (show s < 2 ^ 31 by omega), show a_mostBy (sA M 75 mb) s = enc o from e1, nI_s]
      cases o with
      | none =>
        refine ⟨fun _ => kk b ⟨b8, fun set hset w hw => ?_, h2⟩, fun z => absurd (by show (-1 : Int32) ≤ nI b; exact Int32.le_trans (by decide) (nI_pos' (by omega))) z⟩
        by_cases c : set = s
        · subst c; have := uniq w hw; cases this
        · exact h1 set (by omega) w hw
      | some v =>
        have v8 := wl ho
        show (nI v ≤ nI b → _) ∧ (¬ nI v ≤ nI b → _)
        rw [nI_leI (by omega) (by omega)]
        refine ⟨fun z => kk b ⟨b8, fun set hset w hw => ?_, h2⟩, fun z => kk v ⟨v8, fun set hset w hw => ?_, Or.inr ⟨s, hs, ho⟩⟩⟩
        · by_cases c : set = s
          · subst c; have := uniq w hw; cases this; exact z
          · exact h1 set (by omega) w hw
        · by_cases c : set = s
          · subst c; have := uniq w hw; cases this; exact Nat.le_refl _
          · have := h1 set (by omega) w hw; omega
  -- the things
  have things : ∀ mb, (∀ set, set < 2 ^ m → ∃ o, mb set = enc o ∧ IsM m ok g 0 set o) → T_bestFrom_41 E q d (fun r M1 => ∃ b, r = nI b ∧ IsB m ok g (nTh M) b ∧ b ≤ 8064 ∧ ∃ mb, M1 = sA M 75 mb) (sA M 75 mb) (nI i) (nI n) (nI (2 ^ m)) 0 := by
    intro mb hmb
    refine up_s (W := nTh M) (T := fun k mb => T_bestFrom_41 E q d (fun r M1 => ∃ b, r = nI b ∧ IsB m ok g (nTh M) b ∧ b ≤ 8064 ∧ ∃ mb, M1 = sA M 75 mb) (sA M 75 mb) (nI i) (nI n) (nI (2 ^ m)) (nI k)) (J := fun k mb => ∀ set, set < 2 ^ m → ∃ o, mb set = enc o ∧ IsM m ok g k set o) ?_ ?_ 0 mb (by omega) hmb
    · intro mb hmb
      exact sg_bestFrom_41 ⟨fun _ => last mb hmb, fun z => absurd (by show s_things M ≤ _; rw [en]; exact Int32.le_refl _) z⟩
    · intro k mb hk hmb kk
      refine sg_bestFrom_41 ⟨fun z => absurd z (by show ¬ s_things M ≤ _; rw [en]; exact nI_ge hk (by omega)), fun _ => ?_⟩
      have bk : (0 : Int32) ≤ nI k ∧ nI k < 60 := bnd (n := 60) (by omega) (by omega) rfl
      cases hUk : U k with
      | true =>
        have go : T_bestFrom_41 E q d (fun r M1 => ∃ b, r = nI b ∧ IsB m ok g (nTh M) b ∧ b ≤ 8064 ∧ ∃ mb, M1 = sA M 75 mb) (sA M 75 mb) (nI i) (nI n) (nI (2 ^ m)) (nI k + 1) := by
          rw [nI_s]
          refine kk mb (fun set hs => ?_)
          obtain ⟨o, e1, ho⟩ := hmb set hs
          refine ⟨o, e1, ho.no (fun p _ z => ?_)⟩
          rw [← hok] at z
          have := z.2
          rw [hUk] at this; cases this
        refine sg_bestFrom_55 ⟨fun _ => go, fun _ => ⟨bk, fun _ => go, fun z => absurd z ?_⟩⟩
        rw [ixn (by omega), show a_isUsed (sA M 75 mb) k = b2i (U k) from hU k (by omega), hUk]; decide
      | false =>
        -- the sets, from above
        have sets : ∀ s, s < 2 ^ m → ∀ mb, (∀ set, set < 2 ^ m → ∃ o, mb set = enc o ∧ IsM m ok g (if s < set then k + 1 else k) set o) → T_bestFrom_55 E q d (fun r M1 => ∃ b, r = nI b ∧ IsB m ok g (nTh M) b ∧ b ≤ 8064 ∧ ∃ mb, M1 = sA M 75 mb) (sA M 75 mb) (nI i) (nI n) (nI (2 ^ m)) (nI k) (nI s) := by
          intro s
          induction s with
          | zero =>
            intro _ mb hmb
            refine sg_bestFrom_55 ⟨fun _ => ?_, fun z => absurd (by decide) z⟩
            rw [nI_s]
            refine kk mb (fun set hs => ?_)
            obtain ⟨o, e1, ho⟩ := hmb set hs
            by_cases c : 0 < set
            · rw [if_pos c] at ho; exact ⟨o, e1, ho⟩
            · have : set = 0 := by omega
              subst this
              rw [if_neg c] at ho
              obtain ⟨w, e2, -⟩ := ho.1 _ (Classical.choose_spec ((IsM.zero (m := m) (ok := ok) (g := g) (t := k)).2 0 rfl)).1
              have : w = 0 := by
                obtain ⟨r, r1, r2⟩ := ho.2 w e2
                obtain ⟨w', e3, e4⟩ := (IsM.zero (m := m) (ok := ok) (g := g) (t := k)).1 r r1
                cases e3; omega
              subst this
              rw [e2] at e1
              exact ⟨some 0, e1, IsM.zero⟩
          | succ s ih =>
            intro hs mb hmb
            refine sg_bestFrom_55 ⟨fun z => absurd z (nI_nle (by omega) (by omega)), fun _ => ⟨bk, fun z => absurd ?_ z, fun _ => ?_⟩⟩
            · rw [ixn (by omega), show a_isUsed (sA M 75 mb) k = b2i (U k) from hU k (by omega), hUk]; rfl
            -- one set
            obtain ⟨o0, e0, ho0⟩ := hmb (s + 1) hs
            rw [if_neg (Nat.lt_irrefl _)] at ho0
            have loop := up_s (W := m) (T := fun f (z : Option Nat) => T_bestFrom_73 E q d (fun r M1 => ∃ b, r = nI b ∧ IsB m ok g (nTh M) b ∧ b ≤ 8064 ∧ ∃ mb, M1 = sA M 75 mb) (sA M 75 (upd mb (s + 1) (enc z))) (nI i) (nI n) (nI (2 ^ m)) (nI k) (nI (s + 1)) (nI f)) (J := fun f z => IsP m ok g k (s + 1) f z) ?_ ?_ 0 o0 (by omega) ho0.p
            · rw [show upd mb (s + 1) (enc o0) = mb by
                funext j
                by_cases c : j = s + 1
                · rw [c, upd_eq, e0]
                · rw [upd_ne c]] at loop
              exact loop
            · intro z hz
              refine sg_bestFrom_73 ⟨fun _ => ?_, fun y => absurd (by rw [hni]; exact Int32.le_refl _) y⟩
              rw [nI_p]
              refine ih (by omega) _ (fun set hset => ?_)
              by_cases c : set = s + 1
              · rw [c, if_pos (Nat.lt_succ_self s), upd_eq]
                exact ⟨z, rfl, hz.m⟩
              · rw [upd_ne c]
                obtain ⟨o, e1, ho⟩ := hmb set hset
                refine ⟨o, e1, ?_⟩
                by_cases c2 : s + 1 < set
                · rw [if_pos c2] at ho; rw [if_pos (by omega)]; exact ho
                · rw [if_neg c2] at ho; rw [if_neg (by omega)]; exact ho
            · intro f z hf hz kk2
              refine sg_bestFrom_73 ⟨fun y => absurd y (by rw [hni]; exact nI_ge hf (by omega)), fun _ => ?_⟩
              rw [bit_0 (show s + 1 < 2 ^ 31 by omega) (show f < 31 by omega), nI_s]
              have hx : (nI (s + 1) ^^^ ((1 : Int32) <<< (nI f &&& 31))) = nI ((s + 1) ^^^ 2 ^ f) := by rw [sh1 f (by omega), nxor]
              have hidx : (60 * (nI i + nI f)) + nI k = nI (60 * (i + f) + k) := by
                rw [nI_add, show (60 : Int32) = nI 60 from rfl, pk_mul, nI_add]
              rw [hx, hidx, ixn (show 60 * (i + f) + k < 2 ^ 31 by omega)]
              refine ⟨fun y => kk2 z (hz.no_bit hf (by omega) y), fun y => ?_⟩
              have hb : (s + 1).testBit f = true := by simpa using y
              have x8 : (s + 1) ^^^ 2 ^ f < 2 ^ m := Nat.xor_lt_two_pow hs (Nat.pow_lt_pow_right (by omega) hf)
              have xne : ¬ (s + 1) ^^^ 2 ^ f = s + 1 := by
                intro e
                have := tb_x (set := s + 1) (f := f) (p := f)
                rw [e, if_pos rfl, hb] at this
                cases this
              have xlt : (s + 1) ^^^ 2 ^ f ≤ s + 1 := by
                apply Nat.le_of_lt_succ
                rcases Nat.lt_or_ge ((s + 1) ^^^ 2 ^ f) (s + 1 + 1) with c | c
                · exact c
                · exfalso
                  have e1 : ((s + 1) ^^^ 2 ^ f) &&& (s + 1) = (s + 1) ^^^ 2 ^ f := by
                    apply Nat.eq_of_testBit_eq
                    intro j
                    rw [Nat.testBit_and, tb_x]
                    by_cases cj : j = f
                    · subst cj; rw [if_pos rfl, hb]; rfl
                    · rw [if_neg cj, Bool.and_self]
                  have := Nat.and_le_right (n := (s + 1) ^^^ 2 ^ f) (m := s + 1)
                  omega
              refine ⟨bnd (n := 480) (by omega) (by omega) rfl, fun y1 => kk2 z (hz.no_ok hf (by omega) ?_), fun y1 => ⟨bnd (n := 256) (by omega) (by omega) rfl, ?_⟩⟩
              · rw [← hok]; exact fun w => w.1 y1
              obtain ⟨o1, e1, ho1⟩ := hmb _ x8
              rw [if_neg (by omega)] at ho1
              rw [ixn (show (s + 1) ^^^ 2 ^ f < 2 ^ 31 by omega), ixn (show s + 1 < 2 ^ 31 by omega)]
              have em : a_mostBy (sA M 75 (upd mb (s + 1) (enc z))) ((s + 1) ^^^ 2 ^ f) = enc o1 := by
                show upd mb (s + 1) (enc z) _ = _
                rw [upd_ne xne]; exact e1
              rw [em]
              refine ⟨fun y2 v hv => ?_, fun y2 => ?_⟩
              · obtain ⟨w, rfl⟩ := enc_ne y2
                have w8 := wl ho1
                have okk : ok f k := by rw [← hok]; exact ⟨y1, hUk⟩
                have eg : g f k = 1000 + agA (a_agree M) (i + f) k := by rw [← hg]; rfl
                have ag8 := agA_8 (a_agree M) (i + f) k
                rw [show a_agree (sA M 75 (upd mb (s + 1) (enc z))) (60 * (i + f) + k) = nI (agA (a_agree M) (i + f) k) from agA_e hA (by omega) hk y1, show enc (some w) = nI w from rfl, show (1000 : Int32) = nI 1000 from rfl, nI_add, nI_add, show w + 1000 + agA (a_agree M) (i + f) k = w + g f k by omega] at hv
                subst hv
                have hp := hz.add hf (by omega) hb okk ho1
                rw [show a_mostBy (sA M 75 (upd mb (s + 1) (enc z))) (s + 1) = enc z from upd_eq, sA_tw, sA_tw]
                refine ⟨bnd (n := 256) (by omega) (by omega) rfl, ?_⟩
                have eup : ∀ x, upd (a_mostBy (sA M 75 (upd mb (s + 1) (enc z)))) (s + 1) x = upd mb (s + 1) x := by
                  intro x
                  funext j
                  by_cases c : j = s + 1
                  · rw [c, upd_eq, upd_eq]
                  · rw [upd_ne c, upd_ne c]; show upd mb (s + 1) (enc z) j = _; rw [upd_ne c]
                rw [eup, eup]
                cases z with
                | none =>
                  refine ⟨fun y3 => absurd y3 (by show ¬ nI (w + g f k) ≤ -1; intro c; exact absurd (Int32.le_trans (nI_pos' (n := w + g f k) (by omega)) c) (by decide)), fun _ => kk2 (some (w + g f k)) hp⟩
                | some u =>
                  have u8 := wlp hz
                  show (nI (w + g f k) ≤ nI u → _) ∧ (¬ nI (w + g f k) ≤ nI u → _)
                  rw [nI_leI (by omega) (by omega)]
                  have ho : omax (some u) (w + g f k) = if u < w + g f k then w + g f k else u := rfl
                  rw [ho] at hp
                  refine ⟨fun y3 => ?_, fun y3 => ?_⟩
                  · rw [if_neg (by omega)] at hp; exact kk2 (some u) hp
                  · rw [if_pos (by omega)] at hp; exact kk2 (some (w + g f k)) hp
              · cases o1 with
                | none => exact kk2 z (hz.no_old hf (by omega) ho1)
                | some w => exact absurd y2 (nI_ne1 (by have := wl ho1; omega))
        have := sets (2 ^ m - 1) (by omega) mb (fun set hs => by rw [if_neg (by omega)]; exact hmb set hs)
        rw [show nI (2 ^ m - 1) = nI (2 ^ m) - 1 by rw [show 2 ^ m = (2 ^ m - 1) + 1 by omega, nI_p']; rfl] at this
        exact this
  -- the rows at first
  have key := up_s (W := 2 ^ m) (T := fun s mb => T_bestFrom_9 E q d (fun r M1 => ∃ b, r = nI b ∧ IsB m ok g (nTh M) b ∧ b ≤ 8064 ∧ ∃ mb, M1 = sA M 75 mb) (sA M 75 mb) (nI i) (nI n) (nI (2 ^ m)) (nI s)) (J := fun s mb => ∀ set, set < s → mb set = if set = 0 then 0 else -1) ?_ ?_ 0 (a_mostBy M) (by omega) (fun s h => absurd h (Nat.not_lt_zero s))
  · rw [show sA M 75 (a_mostBy M) = M from sA_self M 75] at key
    exact key
  · intro mb hmb
    refine sg_bestFrom_9 ⟨fun _ => things mb (fun set hs => ?_), fun z => absurd (Int32.le_refl _) z⟩
    rw [hmb set hs]
    by_cases c : set = 0
    · subst c; rw [if_pos rfl]; exact ⟨some 0, rfl, IsM.zero⟩
    · rw [if_neg c]; exact ⟨none, rfl, IsM.none0 c hs⟩
  · intro s mb hs hmb kk
    refine sg_bestFrom_9 ⟨fun z => absurd z (nI_ge hs (by omega)), fun _ => ?_⟩
    have bs : (0 : Int32) ≤ nI s ∧ nI s < 256 := bnd (n := 256) (by omega) (by omega) rfl
    rw [ixn (show s < 2 ^ 31 by omega), sA_tw, sA_tw, nI_s, show (nI s = 0 ↔ s = 0) by rw [show (0 : Int32) = nI 0 from rfl, nI_eq (by omega) (by omega)]]
    refine ⟨fun z => ⟨bs, kk _ (fun set hset => ?_)⟩, fun z => ⟨bs, kk _ (fun set hset => ?_)⟩⟩
    · show upd mb s (-1) set = _
      by_cases c : set = s
      · rw [c, upd_eq, if_neg z]
      · rw [upd_ne c]; exact hmb set (by omega)
    · show upd mb s 0 set = _
      by_cases c : set = s
      · rw [c, upd_eq, if_pos z]
      · rw [upd_ne c]; exact hmb set (by omega)
