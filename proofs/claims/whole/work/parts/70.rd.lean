/-! the class's reader -/
def xRd (X : StX) (a fl st : Int32) (cd : Nat → Int32) : StX := xI (xI (xI (xA X 130 cd) 122 a) 123 fl) 125 st
theorem xRd_tac (X : StX) (j : Nat) (f g : Nat → Int32) (h : ∀ i, f i = g i) : ((f, X.2) : StX) = (g, X.2) := by rw [funext h]
theorem xRd_122 (X : StX) (a fl st a' : Int32) (cd : Nat → Int32) : xI (xRd X a fl st cd) 122 a' = xRd X a' fl st cd := by
  refine Prod.ext ?_ rfl
  funext j
  simp only [xRd, xI, xA, va_up]
  by_cases c1 : j = 122
  · simp [c1]
  · simp [c1]
theorem xRd_123 (X : StX) (a fl st f' : Int32) (cd : Nat → Int32) : xI (xRd X a fl st cd) 123 f' = xRd X a f' st cd := by
  refine Prod.ext ?_ rfl
  funext j
  simp only [xRd, xI, xA, va_up]
  by_cases c1 : j = 123
  · simp [c1]
  · simp [c1]
theorem xRd_130 (X : StX) (a fl st : Int32) (cd c' : Nat → Int32) : xA (xRd X a fl st cd) 130 c' = xRd X a fl st c' := by
  refine Prod.ext rfl (Prod.ext ?_ rfl)
  funext j
  simp only [xRd, xI, xA, va_up]
  by_cases c1 : j = 130
  · simp [c1]
  · simp [c1]
theorem xRd_w (X : StX) (a fl st s' : Int32) (cd c' : Nat → Int32) : xI (xA (xRd X a fl st cd) 130 c') 125 s' = xRd X a fl s' c' := by
  rw [xRd_130]
  refine Prod.ext ?_ rfl
  funext j
  simp only [xRd, xI, xA, va_up]
  by_cases c1 : j = 125
  · simp [c1]
  · simp [c1]
def PB (X : StX) (L : Nat) (bt : Nat → Nat) : Prop := rbX X = 280 ∧ xs_Read_length X = nI L ∧ L ≤ 160 ∧ ∀ p, p < L → xa_Tape_bytes X p &&& 255 = nI (bt p) ∧ bt p < 256
def pkI (L : Nat) (bt : Nat → Nat) (p : Nat) : Int32 := if p < L then nI (bt p) else -1
theorem ch_le {X : StX} {L : Nat} {bt : Nat → Nat} (h : PB X L bt) (p : Nat) : ch L bt p ≤ 256 := by
  rw [ch]
  split
  · next z => have := (h.2.2.2 p z).2; omega
  · exact Nat.le_refl _
theorem pkI_e {X : StX} {L : Nat} {bt : Nat → Nat} (h : PB X L bt) {p c : Nat} (hc : c < 256) : pkI L bt p = nI c ↔ ch L bt p = c := by
  rw [pkI, ch]
  split
  · next z => exact nI_eq (by have := (h.2.2.2 p z).2; omega) (by omega)
  · exact ⟨fun y => absurd y.symm (nI_ne1 (by omega)), fun y => by omega⟩
theorem pkI_b {X : StX} {L : Nat} {bt : Nat → Nat} (h : PB X L bt) {p : Nat} (hp : p < L) : pkI L bt p = nI (ch L bt p) ∧ ch L bt p < 256 := by
  rw [pkI, ch, if_pos hp, if_pos hp]
  exact ⟨rfl, (h.2.2.2 p hp).2⟩
theorem peek_ok {X : StX} {L : Nat} {bt : Nat → Nat} (h : PB X L bt) {p : Nat} (hp : p ≤ L) (st : Int32) (cd : Nat → Int32) : pPeek (xRd X (nI p) 0 st cd) = pkI L bt p := by
  obtain ⟨h1, h2, h3, h4⟩ := h
  rw [pPeek]
  show (if (0 : Int32) = 0 ∧ nI p < xs_Read_length X then xa_Tape_bytes X (ix (nI p)) &&& 255 else -1) = _
  rw [h2, ixn (by omega), pkI]
  by_cases c : p < L
  · rw [if_pos ⟨rfl, nI_lt c (by omega)⟩, if_pos c, (h4 p c).1]
  · rw [if_neg (fun y => by have := (nI_ltI (by omega) (by omega)).mp y.2; omega), if_neg c]
theorem peek_f {X : StX} {a fl st : Int32} {cd : Nat → Int32} (hf : ¬ fl = 0) : pPeek (xRd X a fl st cd) = -1 := by
  rw [pPeek]
  exact if_neg (fun y => hf y.1)
theorem peek_b {X : StX} {L : Nat} {bt : Nat → Nat} (h : PB X L bt) {p : Nat} (hp : p ≤ L) (fl st : Int32) (cd : Nat → Int32) : xs_Read_fault (xRd X (nI p) fl st cd) = 0 → xs_Read_at (xRd X (nI p) fl st cd) < xs_Read_length (xRd X (nI p) fl st cd) → rbX (xRd X (nI p) fl st cd) = 280 ∧ 0 ≤ xs_Read_at (xRd X (nI p) fl st cd) ∧ xs_Read_at (xRd X (nI p) fl st cd) < 400 := by
  intro _ _
  have := h.2.2.1
  exact ⟨h.1, bnd (n := 400) (by omega) (by omega) rfl⟩
theorem peek_bf {X : StX} {a fl st : Int32} {cd : Nat → Int32} (hf : ¬ fl = 0) : xs_Read_fault (xRd X a fl st cd) = 0 → xs_Read_at (xRd X a fl st cd) < xs_Read_length (xRd X a fl st cd) → rbX (xRd X a fl st cd) = 280 ∧ 0 ≤ xs_Read_at (xRd X a fl st cd) ∧ xs_Read_at (xRd X a fl st cd) < 400 := fun z => absurd z hf
def fvI (x : Nat × Nat) : Int32 := (-1000) * nI x.1 - nI x.2
theorem fv_all : ∀ w, w < 161 → (¬ fvI (1, w) = 0 ∧ ¬ fvI (2, w) = 0 ∧ ¬ fvI (3, w) = 0 ∧ ¬ fvI (5, w) = 0 ∧ ¬ fvI (4, w) = 0) := by decide +kernel
theorem fv_ne {L : Nat} {x : Nat × Nat} (h : okF L x) (hL : L ≤ 160) : ¬ fvI x = 0 := by
  obtain ⟨k, w⟩ := x
  have hw : w < 161 := by have : w ≤ L := h.2; omega
  obtain ⟨a, b, c, e, -⟩ := fv_all w hw
  have h1 : k = 1 ∨ k = 2 ∨ k = 3 ∨ k = 5 := h.1
  rcases h1 with rfl | rfl | rfl | rfl
  · exact a
  · exact b
  · exact c
  · exact e
/-- what a reading comes to -/
def okP (X : StX) (c : Nat) (cd : Nat → Int32) (p : Nat) (s : List Ins) (Y : StX) : Prop := ∃ cd', Y = xRd X (nI p) 0 (nI (c + s.length)) cd' ∧ (∀ k, k < c → cd' k = cd k) ∧ hlX cd' c s
def flP (X : StX) (x : Nat × Nat) (Y : StX) : Prop := ∃ a st cd', Y = xRd X a (fvI x) (nI st) cd' ∧ st ≤ 160
def KP (X : StX) (c : Nat) (cd : Nat → Int32) (r : PR) (P : StX → Prop) : Prop := (∀ p s, r = .inr (p, s) → ∀ Y, okP X c cd p s Y → P Y) ∧ (∀ x, r = .inl x → ∀ Y, flP X x Y → P Y)
theorem hlX_app {f : Nat → Int32} : ∀ {a b : List Ins} {o : Nat}, hlX f o (a ++ b) ↔ hlX f o a ∧ hlX f (o + a.length) b := by
  intro a
  induction a with
  | nil => intro b o; exact ⟨fun h => ⟨trivial, h⟩, fun h => h.2⟩
  | cons i a ih =>
    intro b o
    rw [List.length_cons, show o + (a.length + 1) = (o + 1) + a.length by omega]
    constructor
    · intro h; exact ⟨⟨h.1, (ih.mp h.2).1⟩, (ih.mp h.2).2⟩
    · intro h; exact ⟨h.1.1, ih.mpr ⟨h.1.2, h.2⟩⟩
theorem hlX_c {f g : Nat → Int32} : ∀ {a : List Ins} {o : Nat}, (∀ k, o ≤ k → k < o + a.length → g k = f k) → hlX f o a → hlX g o a := by
  intro a
  induction a with
  | nil => intro o _ _; trivial
  | cons i a ih =>
    intro o hk h
    rw [List.length_cons] at hk
    exact ⟨(hk o (by omega) (by omega)).trans h.1, ih (fun k h1 h2 => hk k (by omega) (by omega)) h.2⟩
/-! small steps -/
section
variable {E : EvT} {q : Nat → Nat} {d : Nat} {X : StX} {L : Nat} {bt : Nat → Nat} {P : StX → Prop} {PB2 : Bool → StX → Prop} {PI : Int32 → StX → Prop}
theorem rd_take (h : PB X L bt) {p c : Nat} (hp : p ≤ L) (hc : c < 256) {st : Int32} {cd : Nat → Int32} (h1 : ch L bt p = c → PB2 true (xRd X (nI (p + 1)) 0 st cd)) (h2 : ¬ ch L bt p = c → PB2 false (xRd X (nI p) 0 st cd)) : C_Read_take E q (d + 1) (nI c) (xRd X (nI p) 0 st cd) PB2 := by
  refine en_Read_take ⟨peek_b h hp _ _ _, ?_⟩
  rw [peek_ok h hp, pkI_e h hc, xRd_122]
  show (_ → PB2 true (xRd X (nI p + 1) 0 st cd)) ∧ _
  rw [nI_s]
  exact ⟨h1, h2⟩
theorem rd_takeF {a fl st : Int32} {cd : Nat → Int32} (hf : ¬ fl = 0) {c : Nat} (hc : c < 256) (h2 : PB2 false (xRd X a fl st cd)) : C_Read_take E q (d + 1) (nI c) (xRd X a fl st cd) PB2 := by
  refine en_Read_take ⟨peek_bf hf, ?_⟩
  rw [peek_f hf]
  exact ⟨fun z => absurd z.symm (nI_ne1 (by omega)), fun _ => h2⟩
theorem rd_refuse {k p : Nat} {st : Int32} {cd : Nat → Int32} {a : Int32} (h1 : P (xRd X a (fvI (k, p)) st cd)) : C_Read_refuse E q d (nI k) (nI p) (xRd X a 0 st cd) P := by
  refine en_Read_refuse ⟨fun z => absurd rfl z, fun _ => ?_⟩
  rw [xRd_123]
  exact h1
theorem rd_refuseF {k p a fl st : Int32} {cd : Nat → Int32} (hf : ¬ fl = 0) (h1 : P (xRd X a fl st cd)) : C_Read_refuse E q d k p (xRd X a fl st cd) P := en_Read_refuse ⟨fun _ => h1, fun z => absurd z hf⟩
theorem rd_expect (h : PB X L bt) {p c : Nat} (hp : p ≤ L) (hc : c < 256) {st : Int32} {cd : Nat → Int32} (h1 : ch L bt p = c → P (xRd X (nI (p + 1)) 0 st cd)) (h2 : ¬ ch L bt p = c → P (xRd X (nI p) (fvI (1, p)) st cd)) : C_Read_expect E q (d + 2) (nI c) (xRd X (nI p) 0 st cd) P :=
  en_Read_expect (rd_take h hp hc (fun z => ⟨fun _ => h1 z, fun y => by cases y⟩) (fun z => ⟨fun y => (by cases y), fun _ => rd_refuse (k := 1) (h2 z)⟩))
theorem rd_expectF {a fl st : Int32} {cd : Nat → Int32} (hf : ¬ fl = 0) {c : Nat} (hc : c < 256) (h2 : P (xRd X a fl st cd)) : C_Read_expect E q (d + 2) (nI c) (xRd X a fl st cd) P :=
  en_Read_expect (rd_takeF hf hc ⟨fun y => (by cases y), fun _ => rd_refuseF hf h2⟩)
theorem rd_opens {o p : Nat} (ho : o ≤ 6) {st : Int32} {cd : Nat → Int32} (h1 : ¬ 6 ≤ o → PB2 true (xRd X (nI (p + 1)) 0 st cd)) (h2 : 6 ≤ o → PB2 false (xRd X (nI p) (fvI (5, p)) st cd)) : C_Read_opens E q (d + 1) (nI o) (xRd X (nI p) 0 st cd) PB2 := by
  refine en_Read_opens ⟨fun z => ?_, fun z => rd_refuse (k := 5) (h2 ?_)⟩
  · rw [xRd_122]
    show PB2 true (xRd X (nI p + 1) 0 st cd)
    rw [nI_s]
    have := (nI_ltI (b := 6) (by omega) (by omega)).mp z
    exact h1 (by omega)
  · exact Nat.le_of_not_lt (fun y => z (nI_lt (b := 6) y (by omega)))
theorem rd_write {c : Nat} (hc : c < 160) {a fl v : Int32} {cd : Nat → Int32} (h1 : PI (nI c) (xRd X a fl (nI (c + 1)) (upd cd c v))) : C_Read_write E q d v (xRd X a fl (nI c) cd) PI := by
  refine en_Read_write ?_
  show (160 ≤ nI c → _) ∧ (¬ 160 ≤ nI c → (0 ≤ nI c ∧ nI c < 160) ∧ PI (nI c + 1 - 1) (xI (xA (xRd X a fl (nI c) cd) 130 (upd cd (ix (nI c)) v)) 125 (nI c + 1)))
  rw [xRd_w, ixn (by omega), nI_s, nI_p']
  exact ⟨fun z => absurd z (nI_ge (b := 160) hc (by omega)), fun _ => ⟨bnd (n := 160) hc (by omega) rfl, h1⟩⟩
theorem rd_writeF {c : Nat} (hc : c ≤ 160) {a fl v : Int32} {cd : Nat → Int32} (h1 : ∀ (r : Int32) c' cd', c' ≤ 160 → (r = nI c' - 1) → PI r (xRd X a fl (nI c') cd')) : C_Read_write E q d v (xRd X a fl (nI c) cd) PI := by
  by_cases y : c < 160
  · refine rd_write y (h1 _ (c + 1) _ (by omega) ?_)
    rw [nI_p']
  · have : c = 160 := by omega
    subst this
    exact en_Read_write ⟨fun _ => h1 _ 160 _ (by omega) rfl, fun z => absurd (Int32.le_refl _) z⟩
theorem rd_land {k n : Nat} (hn : k < n) (hc : n ≤ 160) {a fl : Int32} {cd : Nat → Int32} (h1 : P (xRd X a fl (nI n) (upd cd k (cd k - nI (n - 1 - k) * 256)))) : C_Read_land E q d (nI k) (xRd X a fl (nI n) cd) P := by
  refine en_Read_land ⟨fun z => absurd z (nI_pos (by omega)), fun _ => ?_⟩
  show (nI n ≤ nI k → _) ∧ (¬ nI n ≤ nI k → (0 ≤ nI k ∧ nI k < 160) ∧ P (xA (xRd X a fl (nI n) cd) 130 (upd cd (ix (nI k)) (cd (ix (nI k)) - (nI n - 1 - nI k) * 256))))
  rw [xRd_130, ixn (by omega), show nI n - 1 = nI (n - 1) from pk_sub (b := 1) (by omega), pk_sub (show k ≤ n - 1 by omega)]
  exact ⟨fun z => absurd z (nI_ge hn (by omega)), fun _ => ⟨bnd (n := 160) (by omega) (by omega) rfl, h1⟩⟩
theorem rd_landF {n : Nat} (hc : n ≤ 160) {a fl r : Int32} {cd : Nat → Int32} {n0 : Nat} (hr : r = nI n0 - 1) (h0 : n0 ≤ 160) (h1 : ∀ cd', P (xRd X a fl (nI n) cd')) : C_Read_land E q d r (xRd X a fl (nI n) cd) P := by
  cases n0 with
  | zero => subst hr; exact en_Read_land ⟨fun _ => h1 _, fun z => absurd (by decide) z⟩
  | succ m =>
    rw [nI_p'] at hr
    subst hr
    by_cases y : m < n
    · exact rd_land y hc (h1 _)
    · refine en_Read_land ⟨fun z => absurd z (nI_pos (by omega)), fun _ => ⟨fun _ => h1 _, fun z => absurd (show nI n ≤ nI m from nI_le (by omega) (by omega)) z⟩⟩
end
theorem dgt_I {X : StX} {L : Nat} {bt : Nat → Nat} (h : PB X L bt) (p : Nat) : mIn (pkI L bt p) 48 57 = dgt (ch L bt p) := by
  rw [pkI, ch, dgt]
  split
  · next z =>
    have := (h.2.2.2 p z).2
    rw [Bool.eq_iff_iff, decide_eq_true_eq, show (48 : Int32) = nI 48 from rfl, show (57 : Int32) = nI 57 from rfl, mIn_n (by omega) (by omega) (by omega)]
  · decide
/-- what digits come to -/
def digP (X : StX) (st : Int32) (cd : Nat → Int32) (r : (Nat × Nat) ⊕ (Nat × Nat)) (PI : Int32 → StX → Prop) : Prop := (∀ p v, r = .inr (p, v) → PI (nI v) (xRd X (nI p) 0 st cd)) ∧ (∀ x, r = .inl x → ∀ v a, PI v (xRd X a (fvI x) st cd))
theorem rd_digits {E : EvT} {q : Nat → Nat} {d : Nat} {X : StX} {L : Nat} {bt : Nat → Nat} (hE : EOk E q) (h : PB X L bt) {most p : Nat} (hm : most ≤ 99999) (hp : p ≤ L) {st : Int32} {cd : Nat → Int32} {PI : Int32 → StX → Prop} (hK : digP X st cd (rNum L bt most p) PI) : C_Read_digits E q (d + 1) (nI most) (xRd X (nI p) 0 st cd) PI := by
  have L160 := h.2.2.1
  refine en_Read_digits hE ?_
  have loop : ∀ k i p' v, i + k = 5 → p' = p + i → p' ≤ L → v < 10 ^ i → (i = 0 → dgt (ch L bt p) = true) → (∀ e, pDig L bt k p' v = .inl e → ∀ u a, PI u (xRd X a (fvI e) st cd)) → (∀ p2 w, pDig L bt k p' v = .inr (p2, w) → (w ≤ most → PI (nI w) (xRd X (nI p2) 0 st cd)) ∧ (¬ w ≤ most → ∀ u a, PI u (xRd X a (fvI (3, p)) st cd))) → T_Read_digits_10 E q (d + 1) PI (xRd X (nI p') 0 st cd) (nI most) (nI p) (nI v) (nI i) := by
    intro k
    induction k with
    | zero =>
      intro i p' v hik e hp' hv h0 k1 k2
      have i5 : i = 5 := by omega
      subst i5
      rw [pDig] at k1 k2
      have v5 : v < 100000 := hv
      refine sg_Read_digits_10 hE ⟨fun z => absurd z (by decide), fun _ => ⟨peek_b h hp' _ _ _, ?_⟩⟩
      rw [peek_ok h hp', dgt_I h]
      show (_ → (¬ nI p' = nI p → _) ∧ (nI p' = nI p → _)) ∧ _
      rw [nI_eq (by omega) (by omega), nI_leI (by omega) (by omega)]
      refine ⟨fun z => ⟨fun _ => ?_, fun y => by omega⟩, fun z => ⟨fun y => absurd rfl y, fun _ => rd_refuse (k := 2) ?_⟩⟩
      · rw [if_neg (by rw [z]; decide)] at k2
        obtain ⟨a1, a2⟩ := k2 _ _ rfl
        exact ⟨fun y => a1 y, fun y => rd_refuse (k := 3) (a2 y _ _)⟩
      · rw [if_pos z] at k1
        exact k1 _ rfl _ _
    | succ k ih =>
      intro i p' v hik e hp' hv h0 k1 k2
      rw [pDig] at k1 k2
      have v5 : v < 100000 := Nat.lt_of_lt_of_le hv (Nat.pow_le_pow_right (by omega) (by omega : i ≤ 5))
      refine sg_Read_digits_10 hE ⟨fun z => absurd z (nI_nlt (b := i) (a := 5) (by omega) (by omega)), fun _ => ⟨peek_b h hp' _ _ _, ?_⟩⟩
      rw [peek_ok h hp', dgt_I h]
      show (_ → (¬ nI p' = nI p → _) ∧ (nI p' = nI p → _)) ∧ (_ → (¬ nI i = 5 → _) ∧ (nI i = 5 → _))
      rw [nI_eq (by omega) (by omega), nI_leI (by omega) (by omega), show (5 : Int32) = nI 5 from rfl, nI_eq (by omega) (by omega)]
      refine ⟨fun z => ⟨fun y => ?_, fun y => ?_⟩, fun z => ⟨fun _ => ?_, fun y => by omega⟩⟩
      · rw [if_neg (by rw [z]; decide)] at k2
        obtain ⟨a1, a2⟩ := k2 _ _ rfl
        exact ⟨fun y => a1 y, fun y => rd_refuse (k := 3) (a2 y _ _)⟩
      · have : i = 0 := by omega
        have := h0 this
        rw [show p' = p by omega] at z
        rw [this] at z; cases z
      · have pl := dgt_lt z
        obtain ⟨b1, b2⟩ := pkI_b h pl
        rw [if_pos z] at k1 k2
        have zz := z
        rw [dgt, decide_eq_true_eq] at zz
        have ev : nI v * 10 + pkI L bt p' - 48 = nI (10 * v + (ch L bt p' - 48)) := by
          rw [b1, show (10 : Int32) = nI 10 from rfl, pk_mul, nI_add, show (48 : Int32) = nI 48 from rfl, pk_sub (by omega)]
          congr 1
          omega
        rw [ev, xRd_122]
        show T_Read_digits_10 E q (d + 1) PI (xRd X (nI p' + 1) 0 st cd) _ _ _ (nI i + 1)
        rw [nI_s, nI_s]
        refine ih (i + 1) (p' + 1) _ (by omega) (by omega) (by omega) ?_ (fun y => by omega) k1 k2
        rw [Nat.pow_succ]
        omega
  rw [rNum] at hK
  by_cases z : dgt (ch L bt p) = true
  · rw [if_pos z] at hK
    refine loop 5 0 p 0 rfl rfl hp (by decide) (fun _ => z) (fun e he u a => ?_) (fun p2 w he => ?_)
    · rw [he] at hK
      exact hK.2 e rfl u a
    · rw [he] at hK
      refine ⟨fun y => ?_, fun y u a => ?_⟩
      · have := hK.1 p2 w (by show (if w ≤ most then _ else _) = _; rw [if_pos y])
        exact this
      · exact hK.2 (3, p) (by show (if w ≤ most then _ else _) = _; rw [if_neg y]) u a
  · rw [if_neg z] at hK
    have zf : dgt (ch L bt p) = false := by simpa using z
    refine sg_Read_digits_10 hE ⟨fun y => absurd y (by decide), fun _ => ⟨peek_b h hp _ _ _, ?_⟩⟩
    rw [peek_ok h hp, dgt_I h]
    refine ⟨fun _ => ⟨fun y => absurd rfl y, fun _ => rd_refuse (k := 1) (hK.2 _ rfl _ _)⟩, fun y => absurd (zf.symm.trans y) (by decide)⟩
theorem rd_digitsF {E : EvT} {q : Nat → Nat} {d : Nat} {X : StX} (hE : EOk E q) {a fl st most : Int32} (hf : ¬ fl = 0) {cd : Nat → Int32} {PI : Int32 → StX → Prop} (hK : ∀ v, PI v (xRd X a fl st cd)) : C_Read_digits E q (d + 1) most (xRd X a fl st cd) PI := by
  refine en_Read_digits hE (sg_Read_digits_10 hE ⟨fun y => absurd y (by decide), fun _ => ⟨peek_bf hf, ?_⟩⟩)
  rw [peek_f hf]
  exact ⟨fun _ => ⟨fun y => absurd rfl y, fun _ => rd_refuseF hf (hK _)⟩, fun y => absurd y (by decide)⟩
