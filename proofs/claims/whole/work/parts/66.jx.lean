/-! join: the class -/
def IsQ (m : Nat) (ok : Nat → Nat → Prop) (g : Nat → Nat → Nat) (t set f : Nat) (c : Option Nat) : Prop := (∀ r, VM m ok (t + 1) set r → (∃ f', f' < f ∧ f' < m ∧ r f' = t) → ∃ w, c = some w ∧ sumW g r m ≤ w) ∧ (∀ w, c = some w → ∃ r, VM m ok (t + 1) set r ∧ sumW g r m = w)
theorem IsQ.zero {m : Nat} {ok : Nat → Nat → Prop} {g : Nat → Nat → Nat} {t set : Nat} : IsQ m ok g t set 0 none := ⟨fun r _ ⟨f', h, _⟩ => absurd h (Nat.not_lt_zero f'), fun w hw => by cases hw⟩
theorem IsQ.skip {m : Nat} {ok : Nat → Nat → Prop} {g : Nat → Nat → Nat} {t set f : Nat} {c : Option Nat} (h : IsQ m ok g t set f c) (hno : ∀ r, VM m ok (t + 1) set r → ¬ r f = t) : IsQ m ok g t set (f + 1) c := by
  refine ⟨fun r hr ⟨f', h1, h2, h3⟩ => h.1 r hr ⟨f', ?_, h2, h3⟩, h.2⟩
  by_cases e : f' = f
  · subst e; exact absurd h3 (hno r hr)
  · omega
theorem IsQ.add {m : Nat} {ok : Nat → Nat → Prop} {g : Nat → Nat → Nat} {t set f w : Nat} {c : Option Nat} (h : IsQ m ok g t set f c) (hf : f < m) (ht : t < 60) (hb : set.testBit f = true) (hok : ok f t) (h2 : IsM m ok g t (set ^^^ 2 ^ f) (some w)) : IsQ m ok g t set (f + 1) (some (omax c (w + g f t))) := by
  refine ⟨fun r hr ⟨f', p1, p2, p3⟩ => ⟨_, rfl, ?_⟩, fun v hv => ?_⟩
  · by_cases e : r f = t
    · obtain ⟨w', e1, e2⟩ := h2.1 _ (hr.rem hf ht e)
      cases e1
      have := sumW_up (g := g) (r := va_up r f 60) (f := f) (k := r f) (by omega) up_eq m
      rw [up_60, if_pos hf, e] at this
      have : sumW g r m ≤ w + g f t := by omega
      cases c with
      | none => exact this
      | some v => show _ ≤ if v < w + g f t then _ else _; split <;> omega
    · have : ¬ f' = f := fun y => e (by rw [← y]; exact p3)
      obtain ⟨w', e1, e2⟩ := h.1 r hr ⟨f', by omega, p2, p3⟩
      subst e1
      show _ ≤ if w' < w + g f t then _ else _
      split <;> omega
  · have hv : omax c (w + g f t) = v := by cases hv; rfl
    have new : v = w + g f t → ∃ r, VM m ok (t + 1) set r ∧ sumW g r m = v := by
      intro e
      obtain ⟨r, r1, r2⟩ := h2.2 w rfl
      obtain ⟨k1, k2⟩ := r1.ins hf ht hb hok
      refine ⟨_, k2, ?_⟩
      rw [sumW_up (by omega) k1, if_pos hf, r2, e]
    cases c with
    | none => exact new hv.symm
    | some u =>
      have hv : (if u < w + g f t then w + g f t else u) = v := hv
      split at hv
      · exact new hv.symm
      · exact h.2 v (by rw [hv])
def omx (o c : Option Nat) : Option Nat := match c with
  | none => o
  | some w => some (omax o w)
theorem IsQ.fin {m : Nat} {ok : Nat → Nat → Prop} {g : Nat → Nat → Nat} {t set : Nat} {o c : Option Nat} (h : IsQ m ok g t set m c) (h2 : IsM m ok g t set o) : IsM m ok g (t + 1) set (omx o c) := by
  refine ⟨fun r hr => ?_, fun v hv => ?_⟩
  · rcases Classical.em (∃ f', f' < m ∧ r f' = t) with ⟨f', a, b⟩ | z
    · obtain ⟨w, e1, e2⟩ := h.1 r hr ⟨f', a, a, b⟩
      subst e1
      refine ⟨_, rfl, ?_⟩
      cases o with
      | none => exact e2
      | some u => show _ ≤ if u < w then w else u; split <;> omega
    · obtain ⟨w, e1, e2⟩ := h2.1 r ⟨hr.1, fun p hp h60 => by
        obtain ⟨k1, k2⟩ := hr.2.1 p hp h60
        have : ¬ r p = t := fun e => z ⟨p, hp, e⟩
        exact ⟨by omega, k2⟩, hr.2.2⟩
      subst e1
      cases c with
      | none => exact ⟨w, rfl, e2⟩
      | some u => exact ⟨_, rfl, by show _ ≤ if w < u then u else w; split <;> omega⟩
  · have old : ∀ v, o = some v → ∃ r, VM m ok (t + 1) set r ∧ sumW g r m = v := fun v e => by
      obtain ⟨r, r1, r2⟩ := h2.2 v e
      exact ⟨r, r1.mono, r2⟩
    cases c with
    | none => exact old v hv
    | some w =>
      cases o with
      | none => exact h.2 v hv
      | some u =>
        have hv : (if u < w then w else u) = v := by cases hv; rfl
        split at hv
        · exact h.2 v (by rw [hv])
        · exact old v (by rw [hv])
theorem IsQ.le {m : Nat} {ok : Nat → Nat → Prop} {g : Nat → Nat → Nat} {t set f w G : Nat} (h : IsQ m ok g t set f (some w)) (hg : ∀ p k, g p k ≤ G) : w ≤ m * G := by
  obtain ⟨r, -, e⟩ := h.2 w rfl
  rw [← e]
  exact sumW_le hg m
def encL (o : Option Nat) : Int64 := match o with
  | none => -1
  | some w => lN w
theorem jMaxl_e {o c : Option Nat} (ho : ∀ w, o = some w → w < 2 ^ 62) (hc : ∀ w, c = some w → w < 2 ^ 62) : jMaxl (encL o) (encL c) = encL (omx o c) := by
  cases c with
  | none =>
    cases o with
    | none => rfl
    | some w =>
      have := ho w rfl
      show (if (-1 : Int64) < lN w then lN w else -1) = lN w
      rw [if_pos]
      rw [Int64.lt_iff_toInt_lt, pk_lT (by omega)]
      show (-1 : Int) < _
      omega
  | some v =>
    have hv := hc v rfl
    cases o with
    | none =>
      show (if lN v < (-1 : Int64) then -1 else lN v) = lN v
      rw [if_neg]
      rw [Int64.lt_iff_toInt_lt, pk_lT (by omega)]
      show ¬ _ < (-1 : Int)
      omega
    | some w =>
      have hw := ho w rfl
      show (if lN v < lN w then lN w else lN v) = lN (if w < v then v else w)
      by_cases e : v < w
      · rw [if_pos ((pk_lLT (by omega) (by omega)).mpr e), if_neg (by omega)]
      · rw [if_neg (fun y => e ((pk_lLT (by omega) (by omega)).mp y))]
        by_cases e2 : w < v
        · rw [if_pos e2]
        · rw [if_neg e2, show v = w by omega]
theorem cmp_le0 {x : Nat} (hx : x < 2 ^ 62) : lg_cmp (lN x) 0 ≤ 0 ↔ x = 0 := by
  rw [lg_cmp, show (0 : Int64) = lN 0 from rfl]
  constructor
  · intro h
    apply Classical.byContradiction
    intro z
    rw [if_pos ((pk_lLT (a := 0) (b := x) (by omega) (by omega)).mpr (by omega))] at h
    exact absurd h (by decide)
  · intro h
    subst h
    decide
theorem cmp_lt0 {o : Option Nat} (ho : ∀ w, o = some w → w < 2 ^ 62) : lg_cmp (encL o) 0 < 0 ↔ o = none := by
  cases o with
  | none => exact ⟨fun _ => rfl, fun _ => by decide⟩
  | some w =>
    have hw := ho w rfl
    refine ⟨fun h => ?_, fun h => by cases h⟩
    exfalso
    have h : lg_cmp (lN w) 0 < 0 := h
    rw [lg_cmp, show (0 : Int64) = lN 0 from rfl] at h
    by_cases c : w = 0
    · subst c; exact absurd h (by decide)
    · rw [if_pos ((pk_lLT (a := 0) (b := w) (by omega) (by omega)).mpr (by omega))] at h
      exact absurd h (by decide)
theorem unit_e : ∀ p, p < 8 → unitF p = lN (61 ^ (7 - p)) := by
  intro p hp
  have : p = 0 ∨ p = 1 ∨ p = 2 ∨ p = 3 ∨ p = 4 ∨ p = 5 ∨ p = 6 ∨ p = 7 := by omega
  rcases this with rfl | rfl | rfl | rfl | rfl | rfl | rfl | rfl <;> decide
theorem rw_e : (191707312997281 : Int64) = lN (61 ^ 8) := by decide
theorem gX_le {ag : Nat → Nat → Nat} (h : ∀ p k, ag p k ≤ 8) (p k : Nat) : gX ag p k ≤ 74 * 61 ^ 8 := by
  have h1 := h p k
  have h2 : 61 ^ (7 - p) ≤ 61 ^ 7 := Nat.pow_le_pow_right (by decide) (Nat.sub_le _ _)
  have h3 : (60 - k) * 61 ^ (7 - p) ≤ 60 * 61 ^ 7 := Nat.mul_le_mul (Nat.sub_le _ _) h2
  have h4 : (65 + ag p k) * 61 ^ 8 ≤ 73 * 61 ^ 8 := Nat.mul_le_mul_right _ (by omega)
  have h5 : (60 - k) * 61 ^ (7 - p) ≤ 61 ^ 8 := Nat.le_trans h3 (by decide)
  have h6 := Nat.add_le_add h4 h5
  show (65 + ag p k) * 61 ^ 8 + (60 - k) * 61 ^ (7 - p) ≤ _
  rw [show 74 * 61 ^ 8 = 73 * 61 ^ 8 + 61 ^ 8 by decide]
  exact h6
theorem gX_pos {ag : Nat → Nat → Nat} (p k : Nat) : 0 < gX ag p k := by
  have : 0 < (65 + ag p k) * 61 ^ 8 := Nat.mul_pos (by omega) (by decide)
  show 0 < (65 + ag p k) * 61 ^ 8 + _
  exact Nat.lt_of_lt_of_le this (Nat.le_add_right _ _)
theorem xL_tw (S : StX) (k : Nat) (a b : Nat → Int64) : xL (xL S k a) k b = xL S k b := by
  simp only [xL]
  refine Prod.ext rfl (Prod.ext rfl (Prod.ext ?_ rfl))
  funext j
  simp only [va_up]
  split <;> rfl
theorem updL_eq {f : Nat → Int64} {k : Nat} {x : Int64} : vp_updL f k x k = x := pk_uLs
theorem updL_ne {f : Nat → Int64} {k j : Nat} {x : Int64} (h : j ≠ k) : vp_updL f k x j = f j := pk_uLn h
def gainP (B : BkT) (M : StM) (n k : Nat) (gn : Nat → Int64) : Prop := ∀ p, p < n → (jOk B M p k → gn p = lN (gX (jAg M) p k)) ∧ (¬ jOk B M p k → gn p = 0)
theorem ct_Mus_offer {E : EvT} {q : Nat → Nat} {d : Nat} {B : BkT} {X Y : StX} {M : StM} (hE : EOk E q) (h : MH B X M) (hk : keptX X Y) {n k : Nat} (hn : n ≤ 8) (hkT : k < nTh M) (hH : Hears M n) (hC : ChX B M n Y) : C_Mus_offer E q (d + 3) (nI k) Y (fun r X1 => r = dcd (∃ p, p < n ∧ jOk B M p k) ∧ ∃ gn, X1 = xL Y 72 gn ∧ gainP B M n k gn) := by
  obtain ⟨en, n60⟩ := h.2.1.n
  refine en_Mus_offer hE ?_
  have key := up_s (W := n) (T := fun p (z : Nat → Int64) => T_Mus_offer_4 E q (d + 3) (fun r X1 => r = dcd (∃ p, p < n ∧ jOk B M p k) ∧ ∃ gn, X1 = xL Y 72 gn ∧ gainP B M n k gn) (xL Y 72 z) (nI k) (b2i (dcd (∃ p', p' < p ∧ jOk B M p' k))) (nI p)) (J := fun p z => gainP B M p k z) ?_ ?_ 0 (xa_Mus_gain Y) (by omega) (fun p hp => absurd hp (Nat.not_lt_zero p))
  · rw [show xL Y 72 (xa_Mus_gain Y) = Y by
      simp only [xL]
      refine Prod.ext rfl (Prod.ext rfl (Prod.ext ?_ rfl))
      funext j
      simp only [va_up]
      split
      · next e => rw [e]
      · rfl, show b2i (dcd (∃ p', p' < 0 ∧ jOk B M p' k)) = 0 by rw [dcd_f.mpr (fun ⟨p', a, _⟩ => absurd a (Nat.not_lt_zero p'))]; rfl] at key
    exact key
  · intro z hz
    exact sg_Mus_offer_4 hE ⟨fun _ => ⟨_, rfl, rfl, z, rfl, hz⟩, fun y => absurd (by show xs_Mus_chosen Y ≤ _; rw [hC.1]; exact Int32.le_refl _) y⟩
  · intro p z hp hz kk
    obtain ⟨c1, c2⟩ := hC.2 p hp
    have pl := (hH p hp).1
    have j8 := jAg_8 M p k
    have hk2 : ∀ z, keptX X (xL Y 72 z) := fun z => hk.xL z
    have ext : ∀ v, (jOk B M p k → v = lN (gX (jAg M) p k)) → (¬ jOk B M p k → v = 0) → gainP B M (p + 1) k (vp_updL z p v) := by
      intro v v1 v2 p' hp'
      by_cases c : p' = p
      · subst c; rw [updL_eq]; exact ⟨v1, v2⟩
      · rw [updL_ne c]; exact hz p' (by omega)
    have fl0 : ¬ jOk B M p k → b2i (dcd (∃ p', p' < p ∧ jOk B M p' k)) = b2i (dcd (∃ p', p' < p + 1 ∧ jOk B M p' k)) := by
      intro no
      congr 1
      refine dcd_c ⟨fun ⟨p', a, b⟩ => ⟨p', by omega, b⟩, fun ⟨p', a, b⟩ => ?_⟩
      by_cases c : p' = p
      · subst c; exact absurd b no
      · exact ⟨p', by omega, b⟩
    refine sg_Mus_offer_4 hE ⟨fun y => absurd y (by show ¬ xs_Mus_chosen Y ≤ _; rw [hC.1]; exact nI_ge hp (by omega)), fun _ => ⟨bnd (n := 100) (by omega) (by omega) rfl, bnd (n := 8) (by omega) (by omega) rfl, bnd (n := 60) (by omega) (by omega) rfl, ?_⟩⟩
    rw [ixn (show p < 2 ^ 31 by omega), ixn (show k < 2 ^ 31 by omega), show xa_Mus_missing (xL Y 72 z) = a_isGone M from (hk.a rfl).trans h.2.1.1.2.2.2.2.1, show xa_Mus_choice (xL Y 72 z) p = nI (tpN M p) from c1, show xa_Mus_wanted (xL Y 72 z) p = wantV B M (tpN M p) from c2, xL_tw, nI_s]
    refine ⟨fun y => ?_, fun y => ?_⟩
    · have no : ¬ jOk B M p k := fun w => y w.1
      rw [fl0 no]
      exact kk _ (ext 0 (fun w => absurd w no) (fun _ => rfl))
    · refine mBx (ct_Mus_fits (h.kp (kept.rf M) (hk2 _)) pl hkT) (fun r Y1 hh => ?_)
      obtain ⟨rfl, rfl⟩ := hh
      refine ⟨fun y2 => ?_, fun y2 => ?_⟩
      · have no : ¬ jOk B M p k := fun w => dcd_f.mp y2 w.2
        rw [fl0 no]
        exact kk _ (ext 0 (fun w => absurd w no) (fun _ => rfl))
      · have yes : jOk B M p k := ⟨y, dcd_t.mp y2⟩
        refine mIx (ct_Mus_agreeing (h.kp (kept.rf M) (hk2 _)) pl hkT) (fun r Y1 hh => ?_)
        obtain ⟨rfl, rfl⟩ := hh
        have e1 : (65 + agV M (tpN M p) k).toInt64 = lN (65 + jAg M p k) := by
          rw [show agV M (tpN M p) k = nI (jAg M p k) from rfl, show (65 : Int32) = nI 65 from rfl, nI_add, nI_l (by omega)]
        have e2 : (60 - nI k).toInt64 = lN (60 - k) := by
          rw [show (60 : Int32) = nI 60 from rfl, pk_sub (by omega), nI_l (by omega)]
        rw [e1, e2, unit_e p (by omega), rw_e, lN_mul, lN_mul, lN_add, xL_tw]
        have e3 : (1 : Int32) = b2i (dcd (∃ p', p' < p + 1 ∧ jOk B M p' k)) := by
          rw [dcd_t.mpr ⟨p, by omega, yes⟩]; rfl
        have e4 : vp_updL (xa_Mus_gain (xL Y 72 (vp_updL (xa_Mus_gain (xL Y 72 z)) p 0))) p (lN ((65 + jAg M p k) * 61 ^ 8 + (60 - k) * 61 ^ (7 - p))) = vp_updL z p (lN (gX (jAg M) p k)) := by
          funext j
          by_cases c : j = p
          · rw [c, updL_eq, updL_eq]; rfl
          · rw [updL_ne c, updL_ne c]; show vp_updL z p 0 j = _; rw [updL_ne c]
        rw [e4, e3]
        exact kk _ (ext _ (fun _ => rfl) (fun w => absurd yes w))
