/-! the class's reader: conditions -/
section
variable (E : EvT) (q : Nat → Nat) (X : StX) (L : Nat) (bt : Nat → Nat)
def SF (f : Nat) : Prop := ∀ d o p c cd P, o ≤ 6 → p ≤ L → c ≤ p → 10 * (L + 1 - p) + 0 < f → KP X c cd (pz L bt f 0 o p []) P → C_Read_factor E q (d + 3 * (6 - o) + 3) (nI o) (xRd X (nI p) 0 (nI c) cd) P
def STr (f : Nat) : Prop := ∀ d o p i c0 cd0 acc cd P, o ≤ 6 → p ≤ L → c0 + List.length acc ≤ p → i ≤ p → (∀ k, k < c0 → cd k = cd0 k) → hlX cd c0 acc → 10 * (L + 1 - p) + 1 < f → KP X c0 cd0 (pz L bt f 1 o p acc) P → T_Read_term_7 E q (d + 3 * (6 - o) + 4) P (xRd X (nI p) 0 (nI (c0 + acc.length)) cd) (nI o) (nI i)
def ST (f : Nat) : Prop := ∀ d o p c cd P, o ≤ 6 → p ≤ L → c ≤ p → 10 * (L + 1 - p) + 2 < f → KP X c cd (pz L bt f 2 o p []) P → C_Read_term E q (d + 3 * (6 - o) + 4) (nI o) (xRd X (nI p) 0 (nI c) cd) P
def SSr (f : Nat) : Prop := ∀ d o p i c0 cd0 acc cd P, o ≤ 6 → p ≤ L → c0 + List.length acc ≤ p → i ≤ p → (∀ k, k < c0 → cd k = cd0 k) → hlX cd c0 acc → 10 * (L + 1 - p) + 3 < f → KP X c0 cd0 (pz L bt f 3 o p acc) P → T_Read_sum_7 E q (d + 3 * (6 - o) + 5) P (xRd X (nI p) 0 (nI (c0 + acc.length)) cd) (nI o) (nI i)
def SS (f : Nat) : Prop := ∀ d o p c cd P, o ≤ 6 → p ≤ L → c ≤ p → 10 * (L + 1 - p) + 4 < f → KP X c cd (pz L bt f 4 o p []) P → C_Read_sum E q (d + 3 * (6 - o) + 5) (nI o) (xRd X (nI p) 0 (nI c) cd) P
def SPi (f : Nat) : Prop := ∀ d o p c cd P, o ≤ 6 → p ≤ L → c ≤ p → 10 * (L + 1 - p) + 5 < f → KP X c cd (pz L bt f 5 o p []) P → C_Read_piece E q (d + 3 * (6 - o) + 6) (nI o) (xRd X (nI p) 0 (nI c) cd) P
def SPr (f : Nat) : Prop := ∀ d o p i c0 cd0 acc cd P, o ≤ 6 → p ≤ L → c0 + List.length acc ≤ p → i ≤ p → (∀ k, k < c0 → cd k = cd0 k) → hlX cd c0 acc → 10 * (L + 1 - p) + 6 < f → KP X c0 cd0 (pz L bt f 6 o p acc) P → T_Read_part_7 E q (d + 3 * (6 - o) + 7) P (xRd X (nI p) 0 (nI (c0 + acc.length)) cd) (nI o) (nI i)
def SPa (f : Nat) : Prop := ∀ d o p c cd P, o ≤ 6 → p ≤ L → c ≤ p → 10 * (L + 1 - p) + 7 < f → KP X c cd (pz L bt f 7 o p []) P → C_Read_part E q (d + 3 * (6 - o) + 7) (nI o) (xRd X (nI p) 0 (nI c) cd) P
def SCr (f : Nat) : Prop := ∀ d o p i c0 cd0 acc cd P, o ≤ 6 → p ≤ L → c0 + List.length acc ≤ p → i ≤ p → (∀ k, k < c0 → cd k = cd0 k) → hlX cd c0 acc → 10 * (L + 1 - p) + 8 < f → KP X c0 cd0 (pz L bt f 8 o p acc) P → T_Read_condition_7 E q (d + 3 * (6 - o) + 8) P (xRd X (nI p) 0 (nI (c0 + acc.length)) cd) (nI o) (nI i)
def SCo (f : Nat) : Prop := ∀ d o p c cd P, o ≤ 6 → p ≤ L → c ≤ p → 10 * (L + 1 - p) + 9 < f → KP X c cd (pz L bt f 9 o p []) P → C_Read_condition E q (d + 3 * (6 - o) + 8) (nI o) (xRd X (nI p) 0 (nI c) cd) P
end
section
variable {E : EvT} {q : Nat → Nat} {X : StX} {L : Nat} {bt : Nat → Nat}
/-- behind a fault -/
theorem tf_term {d : Nat} {a fl st y1 y2 : Int32} {cd : Nat → Int32} {P : StX → Prop} (hf : ¬ fl = 0) (h : P (xRd X a fl st cd)) : T_Read_term_7 E q (d + 4) P (xRd X a fl st cd) y1 y2 := by
  refine sg_Read_term_7 ⟨fun _ => h, fun _ => ⟨peek_bf hf, ?_⟩⟩
  rw [peek_f hf]
  exact ⟨fun z => absurd z (by decide), fun _ => ⟨fun z => absurd z (by decide), fun _ => ⟨fun _ => h, fun z => absurd z (by decide)⟩⟩⟩
theorem tf_sum {d : Nat} {a fl st y1 y2 : Int32} {cd : Nat → Int32} {P : StX → Prop} (hf : ¬ fl = 0) (h : P (xRd X a fl st cd)) : T_Read_sum_7 E q (d + 5) P (xRd X a fl st cd) y1 y2 := by
  refine sg_Read_sum_7 ⟨fun _ => h, fun _ => ⟨peek_bf hf, ?_⟩⟩
  rw [peek_f hf]
  exact ⟨fun z => absurd z (by decide), fun _ => ⟨fun _ => h, fun z => absurd z (by decide)⟩⟩
theorem tf_part {d : Nat} {a fl st y1 y2 : Int32} {cd : Nat → Int32} {P : StX → Prop} (hf : ¬ fl = 0) (h : P (xRd X a fl st cd)) : T_Read_part_7 E q (d + 7) P (xRd X a fl st cd) y1 y2 :=
  sg_Read_part_7 ⟨fun _ => h, fun _ => rd_takeF (c := 38) hf (by decide) ⟨fun _ => h, fun z => (by cases z)⟩⟩
theorem tf_cond {d : Nat} {a fl st y1 y2 : Int32} {cd : Nat → Int32} {P : StX → Prop} (hf : ¬ fl = 0) (h : P (xRd X a fl st cd)) : T_Read_condition_7 E q (d + 8) P (xRd X a fl st cd) y1 y2 :=
  sg_Read_condition_7 ⟨fun _ => h, fun _ => rd_takeF (c := 124) hf (by decide) ⟨fun _ => h, fun z => (by cases z)⟩⟩
theorem KP.bnd {c : Nat} {cd : Nat → Int32} {r : PR} {k : Nat → List Ins → PR} {P : StX → Prop} (h : KP X c cd (bndR r k) P) {x : Nat × Nat} (hx : r = .inl x) : ∀ Y, flP X x Y → P Y := h.2 x (by rw [hx]; rfl)
theorem KP.nxt {c : Nat} {cd : Nat → Int32} {r : PR} {k : Nat → List Ins → PR} {P : StX → Prop} (h : KP X c cd (bndR r k) P) {p : Nat} {s : List Ins} (hx : r = .inr (p, s)) : KP X c cd (k p s) P := by
  rw [hx] at h; exact h
theorem encX_bin {op : Nat} (h : 2 ≤ op ∧ op ≤ 9) : encX (op, 0) = -(sgn op) := by
  show (if op = 0 then _ else if op = 1 then _ else if 11 ≤ op then _ else _) = _
  rw [if_neg (by omega), if_neg (by omega), if_neg (by omega)]
/-- the sign that is written -/
theorem sgn_t {L : Nat} {bt : Nat → Nat} {p : Nat} (h : PB X L bt) (hp : p < L) : (¬ tOp (ch L bt p) = 0 → sgn (tOp (ch L bt p)) = pkI L bt p) ∧ (¬ sOp (ch L bt p) = 0 → sgn (sOp (ch L bt p)) = pkI L bt p) ∧ (¬ cOp (ch L bt p) = 0 → sgn (cOp (ch L bt p)) = pkI L bt p) := by
  obtain ⟨e, l⟩ := pkI_b h hp
  rw [e]
  generalize ch L bt p = c at *
  refine ⟨fun z => ?_, fun z => ?_, fun z => ?_⟩
  · rw [tOp] at *
    by_cases c1 : c = 42
    · subst c1; rfl
    · by_cases c2 : c = 47
      · subst c2; rfl
      · by_cases c3 : c = 37
        · subst c3; rfl
        · rw [if_neg c1, if_neg c2, if_neg c3] at z; exact absurd rfl z
  · rw [sOp] at *
    by_cases c1 : c = 43
    · subst c1; rfl
    · by_cases c2 : c = 45
      · subst c2; rfl
      · rw [if_neg c1, if_neg c2] at z; exact absurd rfl z
  · rw [cOp] at *
    by_cases c1 : c = 60
    · subst c1; rfl
    · by_cases c2 : c = 62
      · subst c2; rfl
      · by_cases c3 : c = 61
        · subst c3; rfl
        · rw [if_neg c1, if_neg c2, if_neg c3] at z; exact absurd rfl z
/-- behind a reading: a sign is written -/
theorem wr_ok {c0 : Nat} {cd0 cd cd' : Nat → Int32} {acc s : List Ins} {i : Ins} (h1 : ∀ k, k < c0 → cd k = cd0 k) (h2 : hlX cd c0 acc) (h3 : ∀ k, k < c0 + acc.length → cd' k = cd k) (h4 : hlX cd' (c0 + acc.length) s) : (∀ k, k < c0 → upd cd' (c0 + acc.length + s.length) (encX i) k = cd0 k) ∧ hlX (upd cd' (c0 + acc.length + s.length) (encX i)) c0 (acc ++ (s ++ [i])) := by
  refine ⟨fun k hk => ?_, ?_⟩
  · rw [upd_ne (by omega), h3 k (by omega), h1 k hk]
  · rw [hlX_app, hlX_app]
    refine ⟨hlX_c (fun k k1 k2 => ?_) h2, hlX_c (fun k k1 k2 => ?_) h4, upd_eq, trivial⟩
    · rw [upd_ne (by omega), h3 k (by omega)]
    · rw [upd_ne (by omega)]
/-- behind a fork's right side: it lands -/
theorem fk_ok {c0 : Nat} {cd0 cd cd' : Nat → Int32} {acc s : List Ins} {op : Nat} {v : Int32} (hv : v - nI s.length * 256 = encX (op, s.length)) (h1 : ∀ k, k < c0 → cd k = cd0 k) (h2 : hlX cd c0 acc) (h3 : ∀ k, k < c0 + acc.length + 1 → cd' k = upd cd (c0 + acc.length) v k) (h4 : hlX cd' (c0 + acc.length + 1) s) : (∀ k, k < c0 → upd cd' (c0 + acc.length) (cd' (c0 + acc.length) - nI s.length * 256) k = cd0 k) ∧ hlX (upd cd' (c0 + acc.length) (cd' (c0 + acc.length) - nI s.length * 256)) c0 (acc ++ (op, s.length) :: s) := by
  refine ⟨fun k hk => ?_, ?_⟩
  · rw [upd_ne (by omega), h3 k (by omega), upd_ne (by omega), h1 k hk]
  · rw [hlX_app]
    refine ⟨hlX_c (fun k k1 k2 => ?_) h2, ?_, hlX_c (fun k k1 k2 => ?_) h4⟩
    · rw [upd_ne (by omega), h3 k (by omega), upd_ne (by omega)]
    · rw [upd_eq, h3 _ (by omega), upd_eq]; exact hv
    · rw [upd_ne (by omega)]
theorem rd_F {f : Nat} (hE : EOk E q) (h : PB X L bt) (hS : SS E q X L bt f) : SF E q X L bt (f + 1) := by
  have L160 := h.2.2.1
  intro d o p c cd P ho hp hc hf hK
  refine en_Read_factor ⟨peek_b h hp _ _ _, ?_⟩
  rw [peek_ok h hp]
  have okS : ∀ i p', KP X c cd (.inr (p', [i])) P → P (xRd X (nI p') 0 (nI (c + 1)) (upd cd c (encX i))) := by
    intro i p' hk
    exact hk.1 p' [i] rfl _ ⟨_, rfl, fun k hk => upd_ne (by omega), upd_eq, trivial⟩
  rw [pz] at hK
  have letter : ∀ (r2 : Int32), (fctN (ch L bt p) < 5 → r2 = nI (fctN (ch L bt p))) → (¬ fctN (ch L bt p) < 5 → r2 = -1) → (¬ pkI L bt p = 91 → ((r2 = (-1) → (C_Read_digits E q (d + 3 * (6 - o) + 2) 99999 (xRd X (nI p) 0 (nI c) cd) (fun r6 S7 => C_Read_write E q (d + 3 * (6 - o) + 2) r6 S7 (fun r8 S9 => P S9)))) ∧ (¬ r2 = (-1) → (C_Read_write E q (d + 3 * (6 - o) + 2) (100000 + r2) (xI (xRd X (nI p) 0 (nI c) cd) 122 ((xs_Read_at (xRd X (nI p) 0 (nI c) cd)) + 1)) (fun r10 S11 => P S11))))) ∧ (pkI L bt p = 91 → (C_Read_opens E q (d + 3 * (6 - o) + 2) (nI o) (xRd X (nI p) 0 (nI c) cd) (fun r12 S13 => (r12 = false → (P S13)) ∧ (r12 = true → (C_Read_sum E q (d + 3 * (6 - o) + 2) (nI o + 1) S13 (fun S16 => C_Read_expect E q (d + 3 * (6 - o) + 2) 93 S16 (fun S18 => P S18))))))) := by
    intro r2 hr1 hr2
    rw [show (91 : Int32) = nI 91 from rfl, pkI_e h (by decide)]
    refine ⟨fun z => ⟨fun z2 => ?_, fun z2 => ?_⟩, fun z => ?_⟩
    · have nf : ¬ fctN (ch L bt p) < 5 := fun y => by rw [hr1 y] at z2; exact nI_ne1 (by omega) z2
      rw [if_neg z, if_neg nf] at hK
      refine rd_digits hE h (most := 99999) (by omega) hp ⟨fun p' v e => ?_, fun x e v a => ?_⟩
      · obtain ⟨k1, k2, k3, k4⟩ := rNum_r e hp
        rw [e] at hK
        exact rd_write (by omega) (okS (0, v) p' hK)
      · have of := rNum_l e hp
        rw [e] at hK
        exact rd_writeF (by omega) (fun r c' cd' hc' _ => hK.2 x rfl _ ⟨_, c', cd', rfl, hc'⟩)
    · have yf : fctN (ch L bt p) < 5 := Classical.byContradiction (fun y => z2 (hr2 y))
      have pl := op_lt.2.2.2 yf
      rw [if_neg z, if_pos yf] at hK
      rw [xRd_122, hr1 yf]
      show C_Read_write E q _ _ (xRd X (nI p + 1) 0 (nI c) cd) _
      rw [nI_s, show (100000 : Int32) = nI 100000 from rfl, nI_add]
      exact rd_write (by omega) (okS (1, fctN (ch L bt p)) (p + 1) hK)
    · have pl := ch_lt z (by decide)
      rw [if_pos z] at hK
      refine rd_opens ho (fun y => ⟨fun w => (by cases w), fun _ => ?_⟩) (fun y => ⟨fun _ => ?_, fun w => (by cases w)⟩)
      · rw [if_neg y] at hK
        rw [nI_s, show d + 3 * (6 - o) + 2 = d + 3 * (6 - (o + 1)) + 5 by omega]
        refine hS d (o + 1) (p + 1) c cd _ (by omega) (by omega) (by omega) (by omega) ⟨fun p1 s1 e Y hY => ?_, fun x e Y hY => ?_⟩
        · obtain ⟨k1, k2, -⟩ := pz_r _ _ _ _ _ _ _ e (by omega)
          have hK2 := hK.nxt e
          rw [clsR] at hK2
          obtain ⟨cd', rfl, a1, a2⟩ := hY
          refine rd_expect (c := 93) h k1 (by decide) (fun w => ?_) (fun w => ?_)
          · rw [if_pos w] at hK2
            exact hK2.1 _ _ rfl _ ⟨cd', rfl, a1, a2⟩
          · rw [if_neg w] at hK2
            exact hK2.2 _ rfl _ ⟨_, _, cd', rfl, by have := (k2 rfl).2; omega⟩
        · have of := pz_l _ _ _ _ _ _ e (by omega) (by omega) (by omega)
          obtain ⟨a, st, cd', rfl, hst⟩ := hY
          exact rd_expectF (c := 93) (fv_ne of L160) (by decide) (hK.bnd e _ ⟨a, st, cd', rfl, hst⟩)
      · rw [if_pos y] at hK
        exact hK.2 _ rfl _ ⟨_, c, cd, rfl, by omega⟩
  -- the letter
  have fI : ∀ c, c < 256 → (pkI L bt p = nI c ↔ ch L bt p = c) := fun c hc => pkI_e h hc
  refine en_Read_letterOf ?_
  rw [show (104 : Int32) = nI 104 from rfl, show (107 : Int32) = nI 107 from rfl, show (109 : Int32) = nI 109 from rfl, show (112 : Int32) = nI 112 from rfl, show (119 : Int32) = nI 119 from rfl, fI 104 (by decide), fI 107 (by decide), fI 109 (by decide), fI 112 (by decide), fI 119 (by decide)]
  refine ⟨fun z => letter 1 (fun _ => by rw [z]; rfl) (fun w => absurd (by rw [z]; decide) w), fun z1 => ⟨fun z => letter 2 (fun _ => by rw [z]; rfl) (fun w => absurd (by rw [z]; decide) w), fun z2 => ⟨fun z => letter 3 (fun _ => by rw [z]; rfl) (fun w => absurd (by rw [z]; decide) w), fun z3 => ⟨fun z => letter 4 (fun _ => by rw [z]; rfl) (fun w => absurd (by rw [z]; decide) w), fun z4 => ⟨fun z => letter 0 (fun _ => by rw [z]; rfl) (fun w => absurd (by rw [z]; decide) w), fun z5 => letter (-1) (fun w => ?_) (fun _ => rfl)⟩⟩⟩⟩⟩
  exfalso
  rw [fctN, if_neg z5, if_neg z1, if_neg z2, if_neg z3, if_neg z4] at w
  omega
theorem rd_Tr {f : Nat} (h : PB X L bt) (hF : SF E q X L bt f) (hT : STr E q X L bt f) : STr E q X L bt (f + 1) := by
  have L160 := h.2.2.1
  intro d o p i c0 cd0 acc cd P ho hp hc hi a1 a2 hf hK
  rw [pz] at hK
  have stop : tOp (ch L bt p) = 0 → P (xRd X (nI p) 0 (nI (c0 + acc.length)) cd) := by
    intro z
    rw [if_pos z] at hK
    exact hK.1 _ _ rfl _ ⟨cd, rfl, a1, a2⟩
  have go : ¬ tOp (ch L bt p) = 0 → C_Read_factor E q (d + 3 * (6 - o) + 3) (nI o) (xI (xRd X (nI p) 0 (nI (c0 + acc.length)) cd) 122 ((xs_Read_at (xRd X (nI p) 0 (nI (c0 + acc.length)) cd)) + 1)) (fun S5 => C_Read_write E q (d + 3 * (6 - o) + 3) (-(pkI L bt p)) S5 (fun r6 S7 => T_Read_term_7 E q (d + 3 * (6 - o) + 4) P S7 (nI o) (nI i + 1))) := by
    intro z
    have pl := op_lt.1 z
    rw [if_neg z] at hK
    rw [xRd_122]
    show C_Read_factor E q _ _ (xRd X (nI p + 1) 0 _ cd) _
    rw [nI_s]
    refine hF d o (p + 1) _ cd _ ho (by omega) (by omega) (by omega) ⟨fun p1 s1 e Y hY => ?_, fun x e Y hY => ?_⟩
    · obtain ⟨k1, k2, -⟩ := pz_r _ _ _ _ _ _ _ e (by omega)
      obtain ⟨k3, k4⟩ := k2 rfl
      obtain ⟨cd', rfl, b1, b2⟩ := hY
      refine rd_write (by omega) ?_
      have ev : -(pkI L bt p) = encX (tOp (ch L bt p), 0) := by rw [encX_bin (op_b.1 z), (sgn_t h pl).1 z]
      rw [ev, nI_s]
      obtain ⟨w1, w2⟩ := wr_ok (i := (tOp (ch L bt p), 0)) a1 a2 b1 b2
      have := hT d o p1 (i + 1) c0 cd0 _ _ P ho k1 (by simp only [List.length_append, List.length_cons, List.length_nil]; omega) (by omega) w1 w2 (by omega) (hK.nxt e)
      simp only [List.length_append, List.length_cons, List.length_nil] at this
      rw [show c0 + (acc.length + (s1.length + (0 + 1))) = c0 + acc.length + s1.length + 1 by omega] at this
      exact this
    · have of := pz_l _ _ _ _ _ _ e (by omega) (by omega) (by omega)
      obtain ⟨a, st, cd', rfl, hst⟩ := hY
      refine rd_writeF hst (fun r c' cd'' hc' _ => tf_term (fv_ne of L160) (hK.bnd e _ ⟨a, c', cd'', rfl, hc'⟩))
  refine sg_Read_term_7 ⟨fun z => stop ?_, fun _ => ⟨peek_b h hp _ _ _, ?_⟩⟩
  · have z : nI L ≤ nI i := by rw [← h.2.1]; exact z
    have := (nI_leI (by omega) (by omega)).mp z
    rw [ch, if_neg (by omega)]
    rfl
  · rw [peek_ok h hp, show (42 : Int32) = nI 42 from rfl, show (47 : Int32) = nI 47 from rfl, show (37 : Int32) = nI 37 from rfl, pkI_e h (by decide), pkI_e h (by decide), pkI_e h (by decide)]
    refine ⟨fun z => go (by rw [z]; decide), fun z1 => ⟨fun z => go (by rw [z]; decide), fun z2 => ⟨fun z3 => stop ?_, fun z => go (by rw [z]; decide)⟩⟩⟩
    rw [tOp, if_neg z1, if_neg z2, if_neg z3]
theorem rd_T {f : Nat} (h : PB X L bt) (hF : SF E q X L bt f) (hT : STr E q X L bt f) : ST E q X L bt (f + 1) := by
  have L160 := h.2.2.1
  intro d o p c cd P ho hp hc hf hK
  rw [pz] at hK
  refine en_Read_term (hF d o p c cd _ ho hp hc (by omega) ⟨fun p1 s1 e Y hY => ?_, fun x e Y hY => ?_⟩)
  · obtain ⟨k1, k2, -⟩ := pz_r _ _ _ _ _ _ _ e hp
    obtain ⟨k3, k4⟩ := k2 rfl
    obtain ⟨cd', rfl, b1, b2⟩ := hY
    exact hT d o p1 0 c cd s1 cd' P ho k1 (by omega) (by omega) b1 b2 (by omega) (hK.nxt e)
  · have of := pz_l _ _ _ _ _ _ e (by omega) (by omega) (by omega)
    obtain ⟨a, st, cd', rfl, hst⟩ := hY
    exact tf_term (fv_ne of L160) (hK.bnd e _ ⟨a, st, cd', rfl, hst⟩)
theorem rd_Sr {f : Nat} (h : PB X L bt) (hF : ST E q X L bt f) (hT : SSr E q X L bt f) : SSr E q X L bt (f + 1) := by
  have L160 := h.2.2.1
  intro d o p i c0 cd0 acc cd P ho hp hc hi a1 a2 hf hK
  rw [pz] at hK
  have stop : sOp (ch L bt p) = 0 → P (xRd X (nI p) 0 (nI (c0 + acc.length)) cd) := by
    intro z
    rw [if_pos z] at hK
    exact hK.1 _ _ rfl _ ⟨cd, rfl, a1, a2⟩
  have go : ¬ sOp (ch L bt p) = 0 → C_Read_term E q (d + 3 * (6 - o) + 4) (nI o) (xI (xRd X (nI p) 0 (nI (c0 + acc.length)) cd) 122 ((xs_Read_at (xRd X (nI p) 0 (nI (c0 + acc.length)) cd)) + 1)) (fun S5 => C_Read_write E q (d + 3 * (6 - o) + 4) (-(pkI L bt p)) S5 (fun r6 S7 => T_Read_sum_7 E q (d + 3 * (6 - o) + 5) P S7 (nI o) (nI i + 1))) := by
    intro z
    have pl := op_lt.2.1 z
    rw [if_neg z] at hK
    rw [xRd_122]
    show C_Read_term E q _ _ (xRd X (nI p + 1) 0 _ cd) _
    rw [nI_s]
    refine hF d o (p + 1) _ cd _ ho (by omega) (by omega) (by omega) ⟨fun p1 s1 e Y hY => ?_, fun x e Y hY => ?_⟩
    · obtain ⟨k1, k2, -⟩ := pz_r _ _ _ _ _ _ _ e (by omega)
      obtain ⟨k3, k4⟩ := k2 rfl
      obtain ⟨cd', rfl, b1, b2⟩ := hY
      refine rd_write (by omega) ?_
      have ev : -(pkI L bt p) = encX (sOp (ch L bt p), 0) := by rw [encX_bin (op_b.2.1 z), (sgn_t h pl).2.1 z]
      rw [ev, nI_s]
      obtain ⟨w1, w2⟩ := wr_ok (i := (sOp (ch L bt p), 0)) a1 a2 b1 b2
      have := hT d o p1 (i + 1) c0 cd0 _ _ P ho k1 (by simp only [List.length_append, List.length_cons, List.length_nil]; omega) (by omega) w1 w2 (by omega) (hK.nxt e)
      simp only [List.length_append, List.length_cons, List.length_nil] at this
      rw [show c0 + (acc.length + (s1.length + (0 + 1))) = c0 + acc.length + s1.length + 1 by omega] at this
      exact this
    · have of := pz_l _ _ _ _ _ _ e (by omega) (by omega) (by omega)
      obtain ⟨a, st, cd', rfl, hst⟩ := hY
      refine rd_writeF hst (fun r c' cd'' hc' _ => tf_sum (fv_ne of L160) (hK.bnd e _ ⟨a, c', cd'', rfl, hc'⟩))
  refine sg_Read_sum_7 ⟨fun z => stop ?_, fun _ => ⟨peek_b h hp _ _ _, ?_⟩⟩
  · have z : nI L ≤ nI i := by rw [← h.2.1]; exact z
    have := (nI_leI (by omega) (by omega)).mp z
    rw [ch, if_neg (by omega)]
    rfl
  · rw [peek_ok h hp, show (43 : Int32) = nI 43 from rfl, show (45 : Int32) = nI 45 from rfl, pkI_e h (by decide), pkI_e h (by decide)]
    refine ⟨fun z => go (by rw [z]; decide), fun z1 => ⟨fun z3 => stop ?_, fun z => go (by rw [z]; decide)⟩⟩
    rw [sOp, if_neg z1, if_neg z3]
theorem rd_S {f : Nat} (h : PB X L bt) (hF : ST E q X L bt f) (hT : SSr E q X L bt f) : SS E q X L bt (f + 1) := by
  have L160 := h.2.2.1
  intro d o p c cd P ho hp hc hf hK
  rw [pz] at hK
  refine en_Read_sum (hF d o p c cd _ ho hp hc (by omega) ⟨fun p1 s1 e Y hY => ?_, fun x e Y hY => ?_⟩)
  · obtain ⟨k1, k2, -⟩ := pz_r _ _ _ _ _ _ _ e hp
    obtain ⟨k3, k4⟩ := k2 rfl
    obtain ⟨cd', rfl, b1, b2⟩ := hY
    exact hT d o p1 0 c cd s1 cd' P ho k1 (by omega) (by omega) b1 b2 (by omega) (hK.nxt e)
  · have of := pz_l _ _ _ _ _ _ e (by omega) (by omega) (by omega)
    obtain ⟨a, st, cd', rfl, hst⟩ := hY
    exact tf_sum (fv_ne of L160) (hK.bnd e _ ⟨a, st, cd', rfl, hst⟩)
theorem rd_Pi {f : Nat} (h : PB X L bt) (hS : SS E q X L bt f) (hPi : SPi E q X L bt f) (hC : SCo E q X L bt f) : SPi E q X L bt (f + 1) := by
  have L160 := h.2.2.1
  intro d o p c cd P ho hp hc hf hK
  rw [pz] at hK
  refine en_Read_piece ⟨peek_b h hp _ _ _, ?_⟩
  rw [peek_ok h hp, show (33 : Int32) = nI 33 from rfl, show (40 : Int32) = nI 40 from rfl, pkI_e h (by decide), pkI_e h (by decide)]
  refine ⟨fun z1 => ⟨fun z2 => ?_, fun z2 => ?_⟩, fun z => ?_⟩
  · rw [if_neg z1, if_neg z2] at hK
    refine hS d o p c cd _ ho hp hc (by omega) ⟨fun p1 s1 e Y hY => ?_, fun x e Y hY => ?_⟩
    · obtain ⟨k1, k2, -⟩ := pz_r _ _ _ _ _ _ _ e hp
      obtain ⟨k3, k4⟩ := k2 rfl
      obtain ⟨cd', rfl, b1, b2⟩ := hY
      have hK2 := hK.nxt e
      refine ⟨peek_b h k1 _ _ _, ?_⟩
      rw [peek_ok h k1, show (60 : Int32) = nI 60 from rfl, show (62 : Int32) = nI 62 from rfl, show (61 : Int32) = nI 61 from rfl, pkI_e h (by decide), pkI_e h (by decide), pkI_e h (by decide)]
      have go : ¬ cOp (ch L bt p1) = 0 → C_Read_sum E q (d + 3 * (6 - o) + 5) (nI o) (xI (xRd X (nI p1) 0 (nI (c + s1.length)) cd') 122 ((xs_Read_at (xRd X (nI p1) 0 (nI (c + s1.length)) cd')) + 1)) (fun S9 => C_Read_write E q (d + 3 * (6 - o) + 5) (-(pkI L bt p1)) S9 (fun r10 S11 => P S11)) := by
        intro w
        have pl := op_lt.2.2.1 w
        rw [if_neg w] at hK2
        rw [xRd_122]
        show C_Read_sum E q _ _ (xRd X (nI p1 + 1) 0 _ cd') _
        rw [nI_s]
        refine hS d o (p1 + 1) _ cd' _ ho (by omega) (by omega) (by omega) ⟨fun p2 s2 e2 Y hY => ?_, fun x e2 Y hY => ?_⟩
        · obtain ⟨j1, j2, -⟩ := pz_r _ _ _ _ _ _ _ e2 (by omega)
          obtain ⟨j3, j4⟩ := j2 rfl
          obtain ⟨cd2, rfl, f1, f2⟩ := hY
          refine rd_write (by omega) ?_
          have ev : -(pkI L bt p1) = encX (cOp (ch L bt p1), 0) := by rw [encX_bin (op_b.2.2 w), (sgn_t h pl).2.2 w]
          rw [ev]
          obtain ⟨w1, w2⟩ := wr_ok (i := (cOp (ch L bt p1), 0)) b1 b2 f1 f2
          refine (hK2.nxt e2).1 _ _ rfl _ ⟨_, ?_, w1, w2⟩
          simp only [List.length_append, List.length_cons, List.length_nil]
          rw [show c + (s1.length + (s2.length + (0 + 1))) = c + s1.length + s2.length + 1 by omega]
        · have of := pz_l _ _ _ _ _ _ e2 (by omega) (by omega) (by omega)
          obtain ⟨a, st, cd2, rfl, hst⟩ := hY
          exact rd_writeF hst (fun r c' cd'' hc' _ => hK2.bnd e2 _ ⟨a, c', cd'', rfl, hc'⟩)
      refine ⟨fun z => go (by rw [z]; decide), fun y1 => ⟨fun z => go (by rw [z]; decide), fun y2 => ⟨fun y3 => rd_refuse (k := 1) (p := p1) ?_, fun z => go (by rw [z]; decide)⟩⟩⟩
      have w0 : cOp (ch L bt p1) = 0 := by rw [cOp, if_neg y1, if_neg y2, if_neg y3]
      rw [if_pos w0] at hK2
      exact hK2.2 _ rfl _ ⟨_, _, cd', rfl, by omega⟩
    · have of := pz_l _ _ _ _ _ _ e (by omega) (by omega) (by omega)
      obtain ⟨a, st, cd', rfl, hst⟩ := hY
      have hne := fv_ne of L160
      have fin := hK.bnd e _ ⟨a, st, cd', rfl, hst⟩
      refine ⟨peek_bf hne, ?_⟩
      rw [peek_f hne]
      exact ⟨fun y => absurd y (by decide), fun _ => ⟨fun y => absurd y (by decide), fun _ => ⟨fun _ => rd_refuseF hne fin, fun y => absurd y (by decide)⟩⟩⟩
  · have pl := ch_lt z2 (by decide)
    rw [if_neg z1, if_pos z2] at hK
    refine rd_opens ho (fun y => ⟨fun w => (by cases w), fun _ => ?_⟩) (fun y => ⟨fun _ => ?_, fun w => (by cases w)⟩)
    · rw [if_neg y] at hK
      rw [nI_s, show d + 3 * (6 - o) + 5 = d + 3 * (6 - (o + 1)) + 8 by omega]
      refine hC d (o + 1) (p + 1) c cd _ (by omega) (by omega) (by omega) (by omega) ⟨fun p1 s1 e Y hY => ?_, fun x e Y hY => ?_⟩
      · obtain ⟨k1, k2, -⟩ := pz_r _ _ _ _ _ _ _ e (by omega)
        have hK2 := hK.nxt e
        rw [clsR] at hK2
        obtain ⟨cd', rfl, a1, a2⟩ := hY
        refine rd_expect (c := 41) h k1 (by decide) (fun w => ?_) (fun w => ?_)
        · rw [if_pos w] at hK2
          exact hK2.1 _ _ rfl _ ⟨cd', rfl, a1, a2⟩
        · rw [if_neg w] at hK2
          exact hK2.2 _ rfl _ ⟨_, _, cd', rfl, by have := (k2 rfl).2; omega⟩
      · have of := pz_l _ _ _ _ _ _ e (by omega) (by omega) (by omega)
        obtain ⟨a, st, cd', rfl, hst⟩ := hY
        exact rd_expectF (c := 41) (fv_ne of L160) (by decide) (hK.bnd e _ ⟨a, st, cd', rfl, hst⟩)
    · rw [if_pos y] at hK
      exact hK.2 _ rfl _ ⟨_, c, cd, rfl, by omega⟩
  · have pl := ch_lt z (by decide)
    rw [if_pos z] at hK
    refine rd_opens ho (fun y => ⟨fun w => (by cases w), fun _ => ?_⟩) (fun y => ⟨fun _ => ?_, fun w => (by cases w)⟩)
    · rw [if_neg y] at hK
      rw [nI_s, show d + 3 * (6 - o) + 5 = (d + 2) + 3 * (6 - (o + 1)) + 6 by omega]
      refine hPi (d + 2) (o + 1) (p + 1) c cd _ (by omega) (by omega) (by omega) (by omega) ⟨fun p1 s1 e Y hY => ?_, fun x e Y hY => ?_⟩
      · obtain ⟨k1, k2, -⟩ := pz_r _ _ _ _ _ _ _ e (by omega)
        obtain ⟨k3, k4⟩ := k2 rfl
        have hK2 := hK.nxt e
        obtain ⟨cd', rfl, a1, a2⟩ := hY
        refine rd_write (by omega) (hK2.1 _ _ rfl _ ⟨upd cd' (c + s1.length) (-(nI 33)), ?_, fun k hk => ?_, ?_⟩)
        · rw [List.length_append]; rfl
        · rw [upd_ne (by omega)]; exact a1 k hk
        · rw [hlX_app]
          exact ⟨hlX_c (fun k h1 h2 => upd_ne (by omega)) a2, upd_eq, trivial⟩
      · have of := pz_l _ _ _ _ _ _ e (by omega) (by omega) (by omega)
        obtain ⟨a, st, cd', rfl, hst⟩ := hY
        exact rd_writeF hst (fun r c' cd'' hc' _ => hK.bnd e _ ⟨a, c', cd'', rfl, hc'⟩)
    · rw [if_pos y] at hK
      exact hK.2 _ rfl _ ⟨_, c, cd, rfl, by omega⟩
theorem rd_Pr {f : Nat} (h : PB X L bt) (hF : SPi E q X L bt f) (hT : SPr E q X L bt f) : SPr E q X L bt (f + 1) := by
  have L160 := h.2.2.1
  intro d o p i c0 cd0 acc cd P ho hp hc hi a1 a2 hf hK
  rw [pz] at hK
  have stop : ¬ ch L bt p = 38 → P (xRd X (nI p) 0 (nI (c0 + acc.length)) cd) := by
    intro z
    rw [if_neg z] at hK
    exact hK.1 _ _ rfl _ ⟨cd, rfl, a1, a2⟩
  refine sg_Read_part_7 ⟨fun z => stop ?_, fun _ => rd_take (c := 38) h hp (by decide) (fun z => ⟨fun y => (by cases y), fun _ => ?_⟩) (fun z => ⟨fun _ => stop z, fun y => (by cases y)⟩)⟩
  · have z : nI L ≤ nI i := by rw [← h.2.1]; exact z
    have := (nI_leI (by omega) (by omega)).mp z
    rw [ch, if_neg (by omega)]
    decide
  · have pl := ch_lt z (by decide)
    rw [if_pos z] at hK
    refine rd_write (by omega) ?_
    refine hF d o (p + 1) (c0 + acc.length + 1) _ _ ho (by omega) (by omega) (by omega) ⟨fun p1 s1 e Y hY => ?_, fun x e Y hY => ?_⟩
    · obtain ⟨k1, k2, -⟩ := pz_r _ _ _ _ _ _ _ e (by omega)
      obtain ⟨k3, k4⟩ := k2 rfl
      obtain ⟨cd', rfl, b1, b2⟩ := hY
      refine rd_land (by omega) (by omega) ?_
      rw [show c0 + acc.length + 1 + s1.length - 1 - (c0 + acc.length) = s1.length by omega, nI_s]
      obtain ⟨w1, w2⟩ := fk_ok (op := 11) (v := -38) rfl a1 a2 b1 b2
      have := hT d o p1 (i + 1) c0 cd0 _ _ P ho k1 (by simp only [List.length_append, List.length_cons]; omega) (by omega) w1 w2 (by omega) (hK.nxt e)
      simp only [List.length_append, List.length_cons] at this
      rw [show c0 + (acc.length + (s1.length + 1)) = c0 + acc.length + 1 + s1.length by omega] at this
      exact this
    · have of := pz_l _ _ _ _ _ _ e (by omega) (by omega) (by omega)
      obtain ⟨a, st, cd', rfl, hst⟩ := hY
      refine rd_landF hst (n0 := c0 + acc.length + 1) (by rw [nI_p']) (by omega) (fun cd'' => tf_part (fv_ne of L160) (hK.bnd e _ ⟨a, st, cd'', rfl, hst⟩))
theorem rd_Pa {f : Nat} (h : PB X L bt) (hF : SPi E q X L bt f) (hT : SPr E q X L bt f) : SPa E q X L bt (f + 1) := by
  have L160 := h.2.2.1
  intro d o p c cd P ho hp hc hf hK
  rw [pz] at hK
  refine en_Read_part (hF d o p c cd _ ho hp hc (by omega) ⟨fun p1 s1 e Y hY => ?_, fun x e Y hY => ?_⟩)
  · obtain ⟨k1, k2, -⟩ := pz_r _ _ _ _ _ _ _ e hp
    obtain ⟨k3, k4⟩ := k2 rfl
    obtain ⟨cd', rfl, b1, b2⟩ := hY
    exact hT d o p1 0 c cd s1 cd' P ho k1 (by omega) (by omega) b1 b2 (by omega) (hK.nxt e)
  · have of := pz_l _ _ _ _ _ _ e (by omega) (by omega) (by omega)
    obtain ⟨a, st, cd', rfl, hst⟩ := hY
    exact tf_part (fv_ne of L160) (hK.bnd e _ ⟨a, st, cd', rfl, hst⟩)
theorem rd_Cr {f : Nat} (h : PB X L bt) (hF : SPa E q X L bt f) (hT : SCr E q X L bt f) : SCr E q X L bt (f + 1) := by
  have L160 := h.2.2.1
  intro d o p i c0 cd0 acc cd P ho hp hc hi a1 a2 hf hK
  rw [pz] at hK
  have stop : ¬ ch L bt p = 124 → P (xRd X (nI p) 0 (nI (c0 + acc.length)) cd) := by
    intro z
    rw [if_neg z] at hK
    exact hK.1 _ _ rfl _ ⟨cd, rfl, a1, a2⟩
  refine sg_Read_condition_7 ⟨fun z => stop ?_, fun _ => rd_take (c := 124) h hp (by decide) (fun z => ⟨fun y => (by cases y), fun _ => ?_⟩) (fun z => ⟨fun _ => stop z, fun y => (by cases y)⟩)⟩
  · have z : nI L ≤ nI i := by rw [← h.2.1]; exact z
    have := (nI_leI (by omega) (by omega)).mp z
    rw [ch, if_neg (by omega)]
    decide
  · have pl := ch_lt z (by decide)
    rw [if_pos z] at hK
    refine rd_write (by omega) ?_
    refine hF d o (p + 1) (c0 + acc.length + 1) _ _ ho (by omega) (by omega) (by omega) ⟨fun p1 s1 e Y hY => ?_, fun x e Y hY => ?_⟩
    · obtain ⟨k1, k2, -⟩ := pz_r _ _ _ _ _ _ _ e (by omega)
      obtain ⟨k3, k4⟩ := k2 rfl
      obtain ⟨cd', rfl, b1, b2⟩ := hY
      refine rd_land (by omega) (by omega) ?_
      rw [show c0 + acc.length + 1 + s1.length - 1 - (c0 + acc.length) = s1.length by omega, nI_s]
      obtain ⟨w1, w2⟩ := fk_ok (op := 12) (v := -124) rfl a1 a2 b1 b2
      have := hT d o p1 (i + 1) c0 cd0 _ _ P ho k1 (by simp only [List.length_append, List.length_cons]; omega) (by omega) w1 w2 (by omega) (hK.nxt e)
      simp only [List.length_append, List.length_cons] at this
      rw [show c0 + (acc.length + (s1.length + 1)) = c0 + acc.length + 1 + s1.length by omega] at this
      exact this
    · have of := pz_l _ _ _ _ _ _ e (by omega) (by omega) (by omega)
      obtain ⟨a, st, cd', rfl, hst⟩ := hY
      refine rd_landF hst (n0 := c0 + acc.length + 1) (by rw [nI_p']) (by omega) (fun cd'' => tf_cond (fv_ne of L160) (hK.bnd e _ ⟨a, st, cd'', rfl, hst⟩))
theorem rd_Co {f : Nat} (h : PB X L bt) (hF : SPa E q X L bt f) (hT : SCr E q X L bt f) : SCo E q X L bt (f + 1) := by
  have L160 := h.2.2.1
  intro d o p c cd P ho hp hc hf hK
  have hK : KP X c cd (bndR (pz L bt f 7 o p []) (fun p' s => pz L bt f 8 o p' s)) P := by rw [pz] at hK <;> first | exact hK | (intros; omega)
  refine en_Read_condition (hF d o p c cd _ ho hp hc (by omega) ⟨fun p1 s1 e Y hY => ?_, fun x e Y hY => ?_⟩)
  · obtain ⟨k1, k2, -⟩ := pz_r _ _ _ _ _ _ _ e hp
    obtain ⟨k3, k4⟩ := k2 rfl
    obtain ⟨cd', rfl, b1, b2⟩ := hY
    exact hT d o p1 0 c cd s1 cd' P ho k1 (by omega) (by omega) b1 b2 (by omega) (hK.nxt e)
  · have of := pz_l _ _ _ _ _ _ e (by omega) (by omega) (by omega)
    obtain ⟨a, st, cd', rfl, hst⟩ := hY
    exact tf_cond (fv_ne of L160) (hK.bnd e _ ⟨a, st, cd', rfl, hst⟩)
theorem rd_all (hE : EOk E q) (h : PB X L bt) : ∀ f, (SF E q X L bt f ∧ STr E q X L bt f ∧ ST E q X L bt f ∧ SSr E q X L bt f ∧ SS E q X L bt f) ∧ (SPi E q X L bt f ∧ SPr E q X L bt f ∧ SPa E q X L bt f ∧ SCr E q X L bt f ∧ SCo E q X L bt f) := by
  intro f
  induction f with
  | zero => exact ⟨⟨fun _ _ _ _ _ _ _ _ _ h => by omega, fun _ _ _ _ _ _ _ _ _ _ _ _ _ _ _ h => by omega, fun _ _ _ _ _ _ _ _ _ h => by omega, fun _ _ _ _ _ _ _ _ _ _ _ _ _ _ _ h => by omega, fun _ _ _ _ _ _ _ _ _ h => by omega⟩, fun _ _ _ _ _ _ _ _ _ h => by omega, fun _ _ _ _ _ _ _ _ _ _ _ _ _ _ _ h => by omega, fun _ _ _ _ _ _ _ _ _ h => by omega, fun _ _ _ _ _ _ _ _ _ _ _ _ _ _ _ h => by omega, fun _ _ _ _ _ _ _ _ _ h => by omega⟩
  | succ f ih =>
    obtain ⟨⟨i1, i2, i3, i4, i5⟩, i6, i7, i8, i9, i10⟩ := ih
    exact ⟨⟨rd_F hE h i5, rd_Tr h i1 i2, rd_T h i1 i2, rd_Sr h i3 i4, rd_S h i3 i4⟩, rd_Pi h i5 i6 i10, rd_Pr h i6 i7, rd_Pa h i6 i7, rd_Cr h i8 i9, rd_Co h i8 i9⟩
end
