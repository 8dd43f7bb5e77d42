/-! joining: rows of things for finds -/
def sumW (g : Nat → Nat → Nat) (r : Nat → Nat) : Nat → Nat
  | 0 => 0
  | p + 1 => sumW g r p + if r p = 60 then 0 else g p (r p)
def VM (m : Nat) (ok : Nat → Nat → Prop) (t set : Nat) (r : Nat → Nat) : Prop := (∀ p, p < m → (set.testBit p = true ↔ ¬ r p = 60)) ∧ (∀ p, p < m → ¬ r p = 60 → r p < t ∧ ok p (r p)) ∧ (∀ p p', p < m → p' < m → ¬ p = p' → r p = r p' → r p = 60)
def IsM (m : Nat) (ok : Nat → Nat → Prop) (g : Nat → Nat → Nat) (t set : Nat) (o : Option Nat) : Prop := (∀ r, VM m ok t set r → ∃ w, o = some w ∧ sumW g r m ≤ w) ∧ (∀ w, o = some w → ∃ r, VM m ok t set r ∧ sumW g r m = w)
def IsP (m : Nat) (ok : Nat → Nat → Prop) (g : Nat → Nat → Nat) (t set f : Nat) (o : Option Nat) : Prop := (∀ r, VM m ok (t + 1) set r → (∀ f', f ≤ f' → f' < m → ¬ r f' = t) → ∃ w, o = some w ∧ sumW g r m ≤ w) ∧ (∀ w, o = some w → ∃ r, VM m ok (t + 1) set r ∧ sumW g r m = w)
theorem sumW_c {g : Nat → Nat → Nat} {r r' : Nat → Nat} : ∀ {n : Nat}, (∀ p, p < n → r p = r' p) → sumW g r n = sumW g r' n := by
  intro n
  induction n with
  | zero => intro _; rfl
  | succ n ih => intro h; rw [sumW, sumW, ih (fun p hp => h p (by omega)), h n (by omega)]
theorem sumW_up {g : Nat → Nat → Nat} {r : Nat → Nat} {f k : Nat} (hk : ¬ k = 60) (h : r f = 60) : ∀ n, sumW g (va_up r f k) n = sumW g r n + if f < n then g f k else 0 := by
  intro n
  induction n with
  | zero => rfl
  | succ n ih =>
    rw [sumW, sumW, ih]
    by_cases e : n = f
    · subst e
      rw [up_eq, if_neg hk, h, if_pos rfl, if_neg (Nat.lt_irrefl n), if_pos (Nat.lt_succ_self n)]
    · rw [up_ne e]
      by_cases c : f < n
      · rw [if_pos c, if_pos (show f < n + 1 by omega)]; omega
      · rw [if_neg c, if_neg (show ¬ f < n + 1 by omega)]; omega
theorem sumW_le {g : Nat → Nat → Nat} {r : Nat → Nat} {G : Nat} (h : ∀ p k, g p k ≤ G) : ∀ n, sumW g r n ≤ n * G := by
  intro n
  induction n with
  | zero => rw [sumW]; omega
  | succ n ih =>
    rw [sumW, Nat.add_mul, Nat.one_mul]
    have := h n (r n)
    split <;> omega
theorem VM.mono {m : Nat} {ok : Nat → Nat → Prop} {t set : Nat} {r : Nat → Nat} (h : VM m ok t set r) : VM m ok (t + 1) set r := ⟨h.1, fun p hp hr => ⟨by have := (h.2.1 p hp hr).1; omega, (h.2.1 p hp hr).2⟩, h.2.2⟩
theorem IsM.p {m : Nat} {ok : Nat → Nat → Prop} {g : Nat → Nat → Nat} {t set : Nat} {o : Option Nat} (h : IsM m ok g t set o) : IsP m ok g t set 0 o := by
  refine ⟨fun r hr hno => h.1 r ⟨hr.1, fun p hp h60 => ?_, hr.2.2⟩, fun w hw => ?_⟩
  · have := hr.2.1 p hp h60
    have := hno p (Nat.zero_le _) hp
    exact ⟨by omega, (hr.2.1 p hp h60).2⟩
  · obtain ⟨r, h1, h2⟩ := h.2 w hw
    exact ⟨r, h1.mono, h2⟩
theorem IsP.m {m : Nat} {ok : Nat → Nat → Prop} {g : Nat → Nat → Nat} {t set : Nat} {o : Option Nat} (h : IsP m ok g t set m o) : IsM m ok g (t + 1) set o := ⟨fun r hr => h.1 r hr (fun f' h1 h2 => by omega), h.2⟩
theorem IsP.skip {m : Nat} {ok : Nat → Nat → Prop} {g : Nat → Nat → Nat} {t set f : Nat} {o : Option Nat} (h : IsP m ok g t set f o) (hno : ∀ r, VM m ok (t + 1) set r → ¬ r f = t) : IsP m ok g t set (f + 1) o := by
  refine ⟨fun r hr hn => h.1 r hr (fun f' h1 h2 => ?_), h.2⟩
  by_cases e : f' = f
  · rw [e]; exact hno r hr
  · exact hn f' (by omega) h2
theorem tb_x {set f p : Nat} : (set ^^^ 2 ^ f).testBit p = (if p = f then !set.testBit f else set.testBit p) := by
  rw [Nat.testBit_xor, Nat.testBit_two_pow]
  by_cases e : p = f
  · subst e; simp
  · have : ¬ f = p := fun y => e y.symm
    simp [e, this]
theorem VM.rem {m : Nat} {ok : Nat → Nat → Prop} {t set f : Nat} {r : Nat → Nat} (h : VM m ok (t + 1) set r) (hf : f < m) (ht : t < 60) (e : r f = t) : VM m ok t (set ^^^ 2 ^ f) (va_up r f 60) := by
  have hb : set.testBit f = true := (h.1 f hf).mpr (by omega)
  refine ⟨fun p hp => ?_, fun p hp h60 => ?_, fun p p' hp hp' hne he => ?_⟩
  · rw [tb_x]
    by_cases c : p = f
    · subst c; rw [if_pos rfl, up_eq, hb]; simp
    · rw [if_neg c, up_ne c]; exact h.1 p hp
  · by_cases c : p = f
    · subst c; rw [up_eq] at h60; exact absurd rfl h60
    · rw [up_ne c] at h60 ⊢
      have h2 := h.2.1 p hp h60
      have : ¬ r p = t := fun y => h60 (h.2.2 p f hp hf c (by rw [y, e]))
      exact ⟨by omega, h2.2⟩
  · by_cases c : p = f
    · subst c; rw [up_eq]
    · rw [up_ne c] at he ⊢
      by_cases c2 : p' = f
      · subst c2; rw [up_eq] at he; exact he
      · rw [up_ne c2] at he
        exact h.2.2 p p' hp hp' hne he
theorem VM.ins {m : Nat} {ok : Nat → Nat → Prop} {t set f : Nat} {r : Nat → Nat} (h : VM m ok t (set ^^^ 2 ^ f) r) (hf : f < m) (ht : t < 60) (hb : set.testBit f = true) (hok : ok f t) : r f = 60 ∧ VM m ok (t + 1) set (va_up r f t) := by
  have h60 : r f = 60 := by
    have := h.1 f hf
    rw [tb_x, if_pos rfl, hb] at this
    exact Classical.byContradiction (fun z => by have := this.mpr z; cases this)
  refine ⟨h60, fun p hp => ?_, fun p hp hr => ?_, fun p p' hp hp' hne he => ?_⟩
  · by_cases c : p = f
    · subst c; rw [up_eq, hb]; simp; omega
    · rw [up_ne c]
      have := h.1 p hp
      rw [tb_x, if_neg c] at this
      exact this
  · by_cases c : p = f
    · subst c; rw [up_eq]; exact ⟨by omega, hok⟩
    · rw [up_ne c] at hr ⊢
      have := h.2.1 p hp hr
      exact ⟨by omega, this.2⟩
  · by_cases c : p = f
    · subst c
      rw [up_eq, up_ne (fun y => hne y.symm)] at he
      have : r p' = 60 := by
        by_cases z : r p' = 60
        · exact z
        · have := (h.2.1 p' hp' z).1; omega
      rw [up_eq]; omega
    · rw [up_ne c] at he ⊢
      by_cases c2 : p' = f
      · subst c2; rw [up_eq] at he
        by_cases z : r p = 60
        · exact z
        · have := (h.2.1 p hp z).1; omega
      · rw [up_ne c2] at he
        exact h.2.2 p p' hp hp' hne he
def omax (o : Option Nat) (w : Nat) : Nat := match o with
  | none => w
  | some v => if v < w then w else v
theorem up_60 {r : Nat → Nat} {f : Nat} : va_up (va_up r f 60) f (r f) = r := by
  funext j
  by_cases e : j = f
  · subst e; rw [up_eq]
  · rw [up_ne e, up_ne e]
theorem IsP.add {m : Nat} {ok : Nat → Nat → Prop} {g : Nat → Nat → Nat} {t set f w : Nat} {o : Option Nat} (h : IsP m ok g t set f o) (hf : f < m) (ht : t < 60) (hb : set.testBit f = true) (hok : ok f t) (h2 : IsM m ok g t (set ^^^ 2 ^ f) (some w)) : IsP m ok g t set (f + 1) (some (omax o (w + g f t))) := by
  refine ⟨fun r hr hno => ⟨_, rfl, ?_⟩, fun v hv => ?_⟩
  · by_cases e : r f = t
    · obtain ⟨w', e1, e2⟩ := h2.1 _ (hr.rem hf ht e)
      cases e1
      have := sumW_up (g := g) (r := va_up r f 60) (f := f) (k := r f) (by omega) up_eq m
      rw [up_60, if_pos hf, e] at this
      have : sumW g r m ≤ w + g f t := by omega
      cases o with
      | none => exact this
      | some v => show _ ≤ if v < w + g f t then _ else _; split <;> omega
    · obtain ⟨w', e1, e2⟩ := h.1 r hr (fun f' h1 h3 => by
        by_cases c : f' = f
        · rw [c]; exact e
        · exact hno f' (by omega) h3)
      subst e1
      show _ ≤ if w' < w + g f t then _ else _
      split <;> omega
  · have hv : omax o (w + g f t) = v := by cases hv; rfl
    have new : v = w + g f t → ∃ r, VM m ok (t + 1) set r ∧ sumW g r m = v := by
      intro e
      obtain ⟨r, r1, r2⟩ := h2.2 w rfl
      obtain ⟨k1, k2⟩ := r1.ins hf ht hb hok
      refine ⟨_, k2, ?_⟩
      rw [sumW_up (by omega) k1, if_pos hf, r2, e]
    cases o with
    | none => exact new hv.symm
    | some u =>
      have hv : (if u < w + g f t then w + g f t else u) = v := hv
      split at hv
      · exact new hv.symm
      · exact h.2 v (by rw [hv])
theorem IsP.no_bit {m : Nat} {ok : Nat → Nat → Prop} {g : Nat → Nat → Nat} {t set f : Nat} {o : Option Nat} (h : IsP m ok g t set f o) (hf : f < m) (ht : t < 60) (hb : set.testBit f = false) : IsP m ok g t set (f + 1) o := h.skip (fun r hr e => by
  have := (hr.1 f hf).mpr (by omega)
  rw [hb] at this; cases this)
theorem IsP.no_ok {m : Nat} {ok : Nat → Nat → Prop} {g : Nat → Nat → Nat} {t set f : Nat} {o : Option Nat} (h : IsP m ok g t set f o) (hf : f < m) (ht : t < 60) (hb : ¬ ok f t) : IsP m ok g t set (f + 1) o := h.skip (fun r hr e => by
  have := (hr.2.1 f hf (by omega)).2
  rw [e] at this; exact hb this)
theorem IsP.no_old {m : Nat} {ok : Nat → Nat → Prop} {g : Nat → Nat → Nat} {t set f : Nat} {o : Option Nat} (h : IsP m ok g t set f o) (hf : f < m) (ht : t < 60) (h2 : IsM m ok g t (set ^^^ 2 ^ f) none) : IsP m ok g t set (f + 1) o := h.skip (fun r hr e => by
  obtain ⟨w, e1, _⟩ := h2.1 _ (hr.rem hf ht e)
  cases e1)
/-- things that nobody may have -/
theorem IsM.no {m : Nat} {ok : Nat → Nat → Prop} {g : Nat → Nat → Nat} {t set : Nat} {o : Option Nat} (h : IsM m ok g t set o) (hno : ∀ p, p < m → ¬ ok p t) : IsM m ok g (t + 1) set o := by
  refine ⟨fun r hr => h.1 r ⟨hr.1, fun p hp h60 => ?_, hr.2.2⟩, fun w hw => ?_⟩
  · obtain ⟨k1, k2⟩ := hr.2.1 p hp h60
    have : ¬ r p = t := fun e => hno p hp (by rw [← e]; exact k2)
    exact ⟨by omega, k2⟩
  · obtain ⟨r, h1, h2⟩ := h.2 w hw
    exact ⟨r, h1.mono, h2⟩
theorem sumW_60 {g : Nat → Nat → Nat} {r : Nat → Nat} : ∀ {n : Nat}, (∀ p, p < n → r p = 60) → sumW g r n = 0 := by
  intro n
  induction n with
  | zero => intro _; rfl
  | succ n ih => intro h; rw [sumW, ih (fun p hp => h p (by omega)), if_pos (h n (by omega))]
theorem IsM.zero {m : Nat} {ok : Nat → Nat → Prop} {g : Nat → Nat → Nat} {t : Nat} : IsM m ok g t 0 (some 0) := by
  refine ⟨fun r hr => ⟨0, rfl, ?_⟩, fun w hw => ⟨fun _ => 60, ⟨fun p hp => by simp, fun p hp h => absurd rfl h, fun _ _ _ _ _ _ => rfl⟩, ?_⟩⟩
  · rw [sumW_60 (fun p hp => ?_)]
    · exact Nat.le_refl 0
    · have := hr.1 p hp
      rw [Nat.zero_testBit] at this
      exact Classical.byContradiction (fun z => by have := this.mpr z; cases this)
  · cases hw
    exact sumW_60 (fun _ _ => rfl)
theorem IsM.none0 {m : Nat} {ok : Nat → Nat → Prop} {g : Nat → Nat → Nat} {set : Nat} (h0 : ¬ set = 0) (hs : set < 2 ^ m) : IsM m ok g 0 set none := by
  refine ⟨fun r hr => ?_, fun w hw => by cases hw⟩
  exfalso
  apply h0
  apply Nat.eq_of_testBit_eq
  intro p
  rw [Nat.zero_testBit]
  by_cases c : p < m
  · cases e : set.testBit p with
    | false => rfl
    | true =>
      have := hr.2.1 p c ((hr.1 p c).mp e)
      exact absurd this.1 (Nat.not_lt_zero _)
  · exact Nat.testBit_lt_two_pow (Nat.lt_of_lt_of_le hs (Nat.pow_le_pow_right (by omega) (by omega)))
/-- rows at all -/
def VA (m : Nat) (ok : Nat → Nat → Prop) (t : Nat) (r : Nat → Nat) : Prop := (∀ p, p < m → ¬ r p = 60 → r p < t ∧ ok p (r p)) ∧ (∀ p p', p < m → p' < m → ¬ p = p' → r p = r p' → r p = 60)
def IsB (m : Nat) (ok : Nat → Nat → Prop) (g : Nat → Nat → Nat) (t b : Nat) : Prop := (∀ r, VA m ok t r → sumW g r m ≤ b) ∧ ∃ r, VA m ok t r ∧ sumW g r m = b
theorem VA.set {m : Nat} {ok : Nat → Nat → Prop} {t : Nat} {r : Nat → Nat} (h : VA m ok t r) : ∃ set, set < 2 ^ m ∧ VM m ok t set r := by
  refine ⟨bitsN (fun p => decide (¬ r p = 60)) m, bitsN_lt _ m, fun p hp => ?_, h.1, h.2⟩
  rw [bitsN_tb]
  simp [hp]
theorem IsB.of {m : Nat} {ok : Nat → Nat → Prop} {g : Nat → Nat → Nat} {t b : Nat} {v : Nat → Option Nat} (h : ∀ set, set < 2 ^ m → IsM m ok g t set (v set)) (h1 : ∀ set, set < 2 ^ m → ∀ w, v set = some w → w ≤ b) (h2 : ∃ set, set < 2 ^ m ∧ v set = some b) : IsB m ok g t b := by
  refine ⟨fun r hr => ?_, ?_⟩
  · obtain ⟨set, hs, hv⟩ := hr.set
    obtain ⟨w, e1, e2⟩ := (h set hs).1 r hv
    have := h1 set hs w e1
    omega
  · obtain ⟨set, hs, e⟩ := h2
    obtain ⟨r, r1, r2⟩ := (h set hs).2 b e
    exact ⟨r, ⟨r1.2.1, r1.2.2⟩, r2⟩
theorem IsB.one {m : Nat} {ok : Nat → Nat → Prop} {g : Nat → Nat → Nat} {t b b' : Nat} (h : IsB m ok g t b) (h' : IsB m ok g t b') : b = b' := by
  obtain ⟨r, r1, r2⟩ := h.2
  obtain ⟨r', r1', r2'⟩ := h'.2
  have := h.1 r' r1'
  have := h'.1 r r1
  omega
/-! the least of the best rows -/
def okT (ok : Nat → Nat → Prop) (i : Nat) (U : Nat → Bool) : Nat → Nat → Prop := fun f k => ok (i + f) k ∧ U k = false
def gT (g : Nat → Nat → Nat) (i : Nat) : Nat → Nat → Nat := fun f k => g (i + f) k
def tlR (r : Nat → Nat) (i : Nat) : Nat → Nat := fun f => r (i + f)
theorem sumW_tl {g : Nat → Nat → Nat} {r : Nat → Nat} {i : Nat} : ∀ m, sumW g r (i + m) = sumW g r i + sumW (gT g i) (tlR r i) m := by
  intro m
  induction m with
  | zero => rw [sumW]; rfl
  | succ m ih =>
    rw [show i + (m + 1) = (i + m) + 1 by omega, sumW, ih, sumW]
    show _ = sumW g r i + (_ + if r (i + m) = 60 then 0 else g (i + m) (r (i + m)))
    omega
def Lex (n : Nat) (a r : Nat → Nat) : Prop := (∀ p, p < n → r p = a p) ∨ ∃ p, p < n ∧ a p < r p ∧ ∀ p', p' < p → r p' = a p'
/-- the row so far: a for the finds below i, U its things, b what is still to be had -/
def GrI (n : Nat) (ok : Nat → Nat → Prop) (g : Nat → Nat → Nat) (t W i : Nat) (a : Nat → Nat) (U : Nat → Bool) (b : Nat) : Prop := VA i ok t a ∧ (∀ k, k < 60 → (U k = true ↔ ∃ p, p < i ∧ a p = k)) ∧ IsB (n - i) (okT ok i U) (gT g i) t b ∧ sumW g a i + b = W ∧ ∀ r, VA n ok t r → sumW g r n = W → Lex i a r
theorem VA.tl {n : Nat} {ok : Nat → Nat → Prop} {t i : Nat} {r a : Nat → Nat} {U : Nat → Bool} (h : VA n ok t r) (ht : t ≤ 60) (hi : i ≤ n) (ha : ∀ p, p < i → r p = a p) (hU : ∀ k, k < 60 → (U k = true ↔ ∃ p, p < i ∧ a p = k)) : VA (n - i) (okT ok i U) t (tlR r i) := by
  refine ⟨fun f hf h60 => ?_, fun f f' hf hf' hne he => h.2 (i + f) (i + f') (by omega) (by omega) (by omega) he⟩
  obtain ⟨k1, k2⟩ := h.1 (i + f) (by omega) h60
  refine ⟨k1, k2, ?_⟩
  cases e : U (tlR r i f) with
  | false => rfl
  | true =>
    have k1 : r (i + f) < t := k1
    obtain ⟨p, hp, ep⟩ := (hU (r (i + f)) (by omega)).mp e
    exact absurd (h.2 (i + f) p (by omega) (by omega) (by omega) (by rw [ha p hp, ep])) h60
def cnsR (k : Nat) (s : Nat → Nat) : Nat → Nat := fun f => if f = 0 then k else s (f - 1)
theorem cnsR_0 (k : Nat) (s : Nat → Nat) : cnsR k s 0 = k := rfl
theorem cnsR_s {k : Nat} {s : Nat → Nat} {f : Nat} (h : ¬ f = 0) : cnsR k s f = s (f - 1) := if_neg h
theorem VA.cons {m : Nat} {ok : Nat → Nat → Prop} {t i k : Nat} {s : Nat → Nat} {U U' : Nat → Bool} (h : VA m (okT ok (i + 1) U') t s) (hk : k = 60 ∨ (k < t ∧ ok i k ∧ U k = false)) (hU : ∀ j, U' j = (U j || decide (j = k))) (ht : t ≤ 60) : VA (m + 1) (okT ok i U) t (cnsR k s) := by
  refine ⟨fun f hf h60 => ?_, fun f f' hf hf' hne he => ?_⟩
  · by_cases c : f = 0
    · subst c
      rw [cnsR_0] at h60 ⊢
      rcases hk with y | ⟨y1, y2, y3⟩
      · exact absurd y h60
      · exact ⟨y1, y2, y3⟩
    · rw [cnsR_s c] at h60 ⊢
      obtain ⟨k1, k2, k3⟩ := h.1 (f - 1) (by omega) h60
      rw [hU, Bool.or_eq_false_iff] at k3
      refine ⟨k1, ?_, k3.1⟩
      rw [show i + 1 + (f - 1) = i + f by omega] at k2
      exact k2
  · have apart : ∀ f, f < m → k = s f → k = 60 := by
      intro f hf e
      apply Classical.byContradiction
      intro z
      have := (h.1 f hf (by rw [← e]; exact z)).2.2
      rw [hU, ← e] at this
      simp at this
    by_cases c : f = 0
    · subst c
      rw [cnsR_0] at he ⊢
      rw [cnsR_s (fun y => hne y.symm)] at he
      exact apart (f' - 1) (by omega) he
    · rw [cnsR_s c] at he ⊢
      by_cases c2 : f' = 0
      · subst c2
        rw [cnsR_0] at he
        rw [he]
        exact apart (f - 1) (by omega) he.symm
      · rw [cnsR_s c2] at he
        exact h.2 (f - 1) (f' - 1) (by omega) (by omega) (by omega) he
theorem sumW_cons {g : Nat → Nat → Nat} {i k : Nat} {s : Nat → Nat} : ∀ m, sumW (gT g i) (cnsR k s) (m + 1) = (if k = 60 then 0 else g i k) + sumW (gT g (i + 1)) s m := by
  intro m
  induction m with
  | zero =>
    rw [sumW, sumW, sumW, cnsR_0]
    show 0 + (if k = 60 then 0 else g i k) = _
    omega
  | succ m ih =>
    rw [sumW, ih, sumW, cnsR_s (by omega), Nat.add_sub_cancel]
    show _ + (if s m = 60 then 0 else g (i + (m + 1)) (s m)) = _ + (_ + (if s m = 60 then 0 else g (i + 1 + m) (s m)))
    rw [show i + 1 + m = i + (m + 1) by omega]
    omega
/-- a tail of best, split at its first find -/
theorem tail_1 {ok : Nat → Nat → Prop} {t i m k : Nat} {s : Nat → Nat} {U U' : Nat → Bool} (h : VA (m + 1) (okT ok i U) t s) (hk : s 0 = k) (hU : ∀ j, U' j = (U j || decide (j = k))) : VA m (okT ok (i + 1) U') t (fun f => s (f + 1)) := by
  refine ⟨fun f hf h60 => ?_, fun f f' hf hf' hne he => h.2 (f + 1) (f' + 1) (by omega) (by omega) (by omega) he⟩
  obtain ⟨k1, k2, k3⟩ := h.1 (f + 1) (by omega) h60
  refine ⟨k1, by rw [show i + 1 + f = i + (f + 1) by omega]; exact k2, ?_⟩
  rw [hU, k3, Bool.false_or, decide_eq_false_iff_not]
  intro e
  exact h60 (h.2 (f + 1) 0 (by omega) (by omega) (by omega) (by rw [hk]; exact e))
theorem tail_s {g : Nat → Nat → Nat} {i : Nat} {s : Nat → Nat} (m : Nat) : sumW (gT g i) s (m + 1) = (if s 0 = 60 then 0 else g i (s 0)) + sumW (gT g (i + 1)) (fun f => s (f + 1)) m := by
  have := sumW_cons (g := g) (i := i) (k := s 0) (s := fun f => s (f + 1)) m
  rw [← this]
  apply sumW_c
  intro p _
  by_cases c : p = 0
  · rw [c, cnsR_0]
  · rw [cnsR_s c]; show s p = s (p - 1 + 1); rw [show p - 1 + 1 = p by omega]
/-- a step of the greedy row -/
theorem GrI.step {n : Nat} {ok : Nat → Nat → Prop} {g : Nat → Nat → Nat} {t W i k b b' : Nat} {a : Nat → Nat} {U U' : Nat → Bool} (h : GrI n ok g t W i a U b) (ht : t ≤ 60) (hi : i < n) (hk : k = 60 ∨ (k < t ∧ ok i k ∧ U k = false)) (hU : ∀ j, U' j = (U j || decide (j = k))) (hb : IsB (n - (i + 1)) (okT ok (i + 1) U') (gT g (i + 1)) t b') (hbb : (if k = 60 then 0 else g i k) + b' = b) (hno : ∀ k', k' < t → k' < k → ok i k' → U k' = false → ∀ U2 b2, (∀ j, U2 j = (U j || decide (j = k'))) → IsB (n - (i + 1)) (okT ok (i + 1) U2) (gT g (i + 1)) t b2 → ¬ g i k' + b2 = b) : GrI n ok g t W (i + 1) (va_up a i k) U' b' := by
  obtain ⟨h1, h2, h3, h4, h5⟩ := h
  have k60 : k ≤ 60 := by rcases hk with y | y <;> omega
  refine ⟨⟨fun p hp h60 => ?_, fun p p' hp hp' hne he => ?_⟩, fun j hj => ?_, hb, ?_, fun r hr hW => ?_⟩
  · by_cases c : p = i
    · subst c; rw [up_eq] at h60 ⊢
      rcases hk with y | y
      · exact absurd y h60
      · exact ⟨y.1, y.2.1⟩
    · rw [up_ne c] at h60 ⊢; exact h1.1 p (by omega) h60
  · have apart : ∀ p, p < i → a p = k → k = 60 := by
      intro p hp e
      rcases hk with y | y
      · exact y
      · have := (h2 k (by omega)).mpr ⟨p, hp, e⟩
        rw [y.2.2] at this; cases this
    by_cases c : p = i
    · subst c
      rw [up_eq] at he ⊢
      rw [up_ne (fun y => hne y.symm)] at he
      exact apart p' (by omega) he.symm
    · rw [up_ne c] at he ⊢
      by_cases c2 : p' = i
      · subst c2; rw [up_eq] at he; rw [he]; exact apart p (by omega) he
      · rw [up_ne c2] at he; exact h1.2 p p' (by omega) (by omega) hne he
  · rw [hU, Bool.or_eq_true, decide_eq_true_eq, h2 j hj]
    constructor
    · rintro (⟨p, hp, e⟩ | e)
      · exact ⟨p, by omega, by rw [up_ne (by omega)]; exact e⟩
      · exact ⟨i, by omega, by rw [up_eq, e]⟩
    · rintro ⟨p, hp, e⟩
      by_cases c : p = i
      · subst c; rw [up_eq] at e; exact Or.inr e.symm
      · rw [up_ne c] at e; exact Or.inl ⟨p, by omega, e⟩
  · rw [sumW, up_eq, sumW_c (r' := a) (fun p hp => up_ne (by omega))]
    omega
  · rcases h5 r hr hW with y | ⟨p, hp, y1, y2⟩
    · -- it goes with a so far
      have hi2 : n - i = (n - (i + 1)) + 1 := by omega
      have tv := hr.tl ht (by omega) y h2
      have e1 : sumW g r n = sumW g a i + sumW (gT g i) (tlR r i) (n - i) := by
        have := sumW_tl (g := g) (r := r) (i := i) (n - i)
        rw [show i + (n - i) = n by omega, sumW_c y] at this
        exact this
      have e2 : sumW (gT g i) (tlR r i) (n - i) = b := by omega
      rw [hi2] at tv e2
      rw [tail_s] at e2
      by_cases c : r i = k
      · left
        intro p hp
        by_cases cp : p = i
        · subst cp; rw [up_eq, c]
        · rw [up_ne cp]; exact y p (by omega)
      · right
        refine ⟨i, by omega, ?_, fun p' hp' => by rw [up_ne (by omega)]; exact y p' (by omega)⟩
        rw [up_eq]
        by_cases c6 : r i = 60
        · rw [c6]; omega
        · apply Classical.byContradiction
          intro z
          have hlt : r i < k := by omega
          obtain ⟨q1, q2, q3⟩ := tv.1 0 (by omega) c6
          have q3 : U (r i) = false := q3
          -- the best behind it
          obtain ⟨s, s1, s2⟩ := hb.2
          have tl2 := tail_1 (U' := fun j => U j || decide (j = r i)) tv (k := r i) rfl (fun j => rfl)
          -- any best b2 for that choice
          have fb : ∃ b2, IsB (n - (i + 1)) (okT ok (i + 1) (fun j => U j || decide (j = r i))) (gT g (i + 1)) t b2 ∧ g i (r i) + b2 = b := by
            refine ⟨sumW (gT g (i + 1)) (fun f => tlR r i (f + 1)) (n - (i + 1)), ⟨fun s hs => ?_, _, tl2, rfl⟩, ?_⟩
            · have cv := VA.cons (U := U) (k := r i) hs (Or.inr ⟨q1, q2, q3⟩) (fun j => rfl) ht
              have := h3.1 _ (by rw [hi2]; exact cv)
              rw [hi2, sumW_cons, if_neg c6] at this
              have e3 : (if tlR r i 0 = 60 then 0 else g i (tlR r i 0)) = g i (r i) := if_neg c6
              rw [e3] at e2
              omega
            · have e3 : (if tlR r i 0 = 60 then 0 else g i (tlR r i 0)) = g i (r i) := if_neg c6
              rw [e3] at e2
              exact e2
          obtain ⟨b2, w1, w2⟩ := fb
          exact hno (r i) q1 hlt q2 q3 _ b2 (fun j => rfl) w1 w2
    · right
      exact ⟨p, by omega, by rw [up_ne (by omega)]; exact y1, fun p' hp' => by rw [up_ne (by omega)]; exact y2 p' hp'⟩
/-- where no thing will do, the best is had without -/
theorem best_skip {n : Nat} {ok : Nat → Nat → Prop} {g : Nat → Nat → Nat} {t i b b' : Nat} {U : Nat → Bool} (ht : t ≤ 60) (hi : i < n) (h : IsB (n - i) (okT ok i U) (gT g i) t b) (hb : IsB (n - (i + 1)) (okT ok (i + 1) U) (gT g (i + 1)) t b') (hno : ∀ k, k < t → ok i k → U k = false → ∀ b2, IsB (n - (i + 1)) (okT ok (i + 1) (fun j => U j || decide (j = k))) (gT g (i + 1)) t b2 → ¬ g i k + b2 = b) : b' = b := by
  have hi2 : n - i = (n - (i + 1)) + 1 := by omega
  rw [hi2] at h
  obtain ⟨s, s1, s2⟩ := hb.2
  have U60 : ∀ (V : Nat → Bool) (m : Nat) (r : Nat → Nat) (j : Nat), VA m (okT ok j V) t r ↔ VA m (okT ok j (fun x => V x || decide (x = 60))) t r := by
    intro V m r j
    constructor
    · intro v
      exact ⟨fun f hf h60 => by
        obtain ⟨a1, a2, a3⟩ := v.1 f hf h60
        exact ⟨a1, a2, by show (V (r f) || decide (r f = 60)) = false; rw [a3, Bool.false_or, decide_eq_false_iff_not]; exact h60⟩, v.2⟩
    · intro v
      exact ⟨fun f hf h60 => by
        obtain ⟨a1, a2, a3⟩ := v.1 f hf h60
        rw [Bool.or_eq_false_iff] at a3
        exact ⟨a1, a2, a3.1⟩, v.2⟩
  have le1 : b' ≤ b := by
    have := h.1 _ (VA.cons (U := U) (k := 60) ((U60 U _ _ _).mp s1) (Or.inl rfl) (fun j => rfl) ht)
    rw [sumW_cons, if_pos rfl] at this
    omega
  have le2 : b ≤ b' := by
    obtain ⟨r, r1, r2⟩ := h.2
    rw [tail_s] at r2
    by_cases c : r 0 = 60
    · rw [if_pos c] at r2
      have := hb.1 _ ((U60 U _ _ _).mpr (tail_1 (U' := fun x => U x || decide (x = 60)) r1 c (fun j => rfl)))
      omega
    · exfalso
      rw [if_neg c] at r2
      obtain ⟨q1, q2, q3⟩ := r1.1 0 (by omega) c
      have tl2 := tail_1 (U' := fun j => U j || decide (j = r 0)) r1 (k := r 0) rfl (fun j => rfl)
      refine hno (r 0) q1 q2 q3 (sumW (gT g (i + 1)) (fun f => r (f + 1)) (n - (i + 1))) ⟨fun s hs => ?_, _, tl2, rfl⟩ r2
      have cv := VA.cons (U := U) (k := r 0) hs (Or.inr ⟨q1, q2, q3⟩) (fun j => rfl) ht
      have := h.1 _ cv
      rw [sumW_cons, if_neg c] at this
      omega
  omega
theorem GrI.zero {n : Nat} {ok : Nat → Nat → Prop} {g : Nat → Nat → Nat} {t W : Nat} {a : Nat → Nat} (h : IsB n (okT ok 0 (fun _ => false)) (gT g 0) t W) : GrI n ok g t W 0 a (fun _ => false) W := by
  refine ⟨⟨fun p hp => absurd hp (Nat.not_lt_zero p), fun p _ hp => absurd hp (Nat.not_lt_zero p)⟩, fun k _ => ⟨fun z => (by cases z), fun ⟨p, hp, _⟩ => absurd hp (Nat.not_lt_zero p)⟩, h, by rw [sumW]; omega, fun r _ _ => Or.inl (fun p hp => absurd hp (Nat.not_lt_zero p))⟩
