/-! the book of rules -/
abbrev Cl : Type := Nat × Nat × Nat × List Ins
def cl0 : Cl := (0, 0, 0, [])
abbrev BkT : Type := List (List Cl)
def txB (B : BkT) (i : Nat) : List Cl := B.getD i []
def clT (T : List Cl) (c : Nat) : Cl := T.getD c cl0
def offT (T : List Cl) : Nat → Nat
  | 0 => 0
  | c + 1 => offT T c + (clT T c).2.2.2.length
def ClOK (cl : Cl) : Prop := cl.1 < 128 ∧ cl.2.1 ≤ 99 ∧ (cl.1 = 110 → cl.2.1 ≤ 3) ∧ (cl.1 = 120 → cl.2.1 ≤ 19) ∧ cl.2.2.1 ≤ 9 ∧ ∃ m, m ≤ 1 ∧ tyS cl.2.2.2 0 m
def TxOK (T : List Cl) : Prop := T.length ≤ 10 ∧ offT T T.length ≤ 160 ∧ ∀ c, c < T.length → ClOK (clT T c)
def TxX (T : List Cl) (t : TxT) : Prop := t.1 = T.length ∧ t.2.2.2.2.2.1 = offT T T.length ∧ ∀ c, c < T.length → t.2.1 c = nI (clT T c).1 ∧ t.2.2.1 c = nI (clT T c).2.1 ∧ t.2.2.2.1 c = nI (clT T c).2.2.1 ∧ t.2.2.2.2.1 c = nI (offT T (c + 1)) ∧ hlX t.2.2.2.2.2.2 (offT T c) (clT T c).2.2.2
def TxM (T : List Cl) (M : StM) (i : Nat) : Prop := a_clauseMany M i = nI T.length ∧ ∀ c, c < T.length → a_letterOf M (10 * i + c) = nI (clT T c).1 ∧ a_nOf M (10 * i + c) = nI (clT T c).2.1 ∧ a_jOf M (10 * i + c) = nI (clT T c).2.2.1 ∧ a_codeFrom M (10 * i + c) = nI (180 * i + offT T c) ∧ a_codeTo M (10 * i + c) = nI (180 * i + offT T (c + 1)) ∧ hlM (a_codes M) (180 * i) (offT T c) (clT T c).2.2.2
def RRu (B : BkT) (X : StX) (M : StM) : Prop := (nTx X = B.length ∧ s_ruleMany0 M = nI B.length ∧ B.length ≤ 20) ∧ (xa_Book_from X = a_ruleFrom M ∧ xa_Book_to X = a_ruleTo M) ∧ B.length ≤ capX X ∧ ∀ i, i < B.length → TxOK (txB B i) ∧ TxX (txB B i) (tx X i) ∧ TxM (txB B i) M i
theorem offT_le (T : List Cl) : ∀ {c e : Nat}, c ≤ e → offT T c ≤ offT T e := by
  intro c e h
  induction e with
  | zero => have : c = 0 := by omega
            subst this; exact Nat.le_refl _
  | succ e ih =>
    by_cases x : c = e + 1
    · rw [x]; exact Nat.le_refl _
    · have := ih (by omega)
      rw [offT]
      omega
theorem ct_isTrue {E : EvT} {q : Nat → Nat} {d : Nat} {M : StM} {T : List Cl} {i c : Nat} (hT : TxOK T) (hM : TxM T M i) (hi : i < 20) (hc : c < T.length) {fc : Nat → Int32} (hfc : ∀ k, k < 5 → a_facts M k = fc k) : C_isTrue E q (d + 1) (nI (10 * i + c)) M (fun b M1 => b = evC fc (clT T c).2.2.2 ∧ ∃ s, M1 = sA M 55 s) := by
  obtain ⟨t10, t160, tcl⟩ := hT
  obtain ⟨-, m2⟩ := hM
  obtain ⟨k1, k2, k3, k4, k5, k6⟩ := m2 c hc
  obtain ⟨-, -, -, -, -, m, hm, hty⟩ := tcl c hc
  refine en_isTrue ⟨bnd (n := 200) (by omega) (by omega) rfl, ?_⟩
  have e1 : 180 * (nI (10 * i + c) / 10) = nI (180 * i) := by
    rw [show (10 : Int32) = nI 10 from rfl, div_n (by omega) (by omega) (by omega), show (10 * i + c) / 10 = i by omega, show (180 : Int32) = nI 180 from rfl, pk_mul]
  rw [e1, ixn (by omega), k4]
  have e2 : M = sA M 55 (a_stack M) := (sA_self M 55).symm
  have hle := offT_le T (c := c + 1) (e := T.length) (by omega)
  have := isTrue_loop (E := E) (q := q) (d := d) (M := M) (i := i) (x := 10 * i + c) (hi := offT T (c + 1)) (by omega) hi k5 (by omega) hfc (evC fc (clT T c).2.2.2) ((clT T c).2.2.2.length + 1) (clT T c).2.2.2 (offT T c) [] (a_stack M) m (by omega) rfl k6 trivial hty hm (by simp) rfl
  rw [← e2] at this
  exact this
theorem ct_Text_holds {E : EvT} {q : Nat → Nat} {d : Nat} {X : StX} {T : List Cl} {i c : Nat} (hT : TxOK T) (hX : TxX T (tx X i)) (hi : i < nTx X) (hc : c < T.length) {fc : Nat → Int32} (hfc : ∀ k, k < 5 → xa_Book_letters X k = fc k) : C_Text_holds E q (d + 1) i (nI c) X (fun b X1 => b = evC fc (clT T c).2.2.2 ∧ ∃ s, X1 = xA X 105 s) := by
  obtain ⟨t10, t160, tcl⟩ := hT
  obtain ⟨x1, x2, x3⟩ := hX
  obtain ⟨k1, k2, k3, k4, k5⟩ := x3 c hc
  obtain ⟨-, -, -, -, -, m, hm, hty⟩ := tcl c hc
  have hle := offT_le T (c := c + 1) (e := T.length) (by omega)
  have e2 : X = xA X 105 (xa_Book_stack X) := (xA_self X 105).symm
  have key := holds_loop (E := E) (q := q) (d := d) (X := X) (k := i) (c := c) (hi := offT T (c + 1)) hi (by show c < t_n X i; rw [show t_n X i = T.length from x1]; exact hc) (by show t_n X i ≤ 10; rw [show t_n X i = T.length from x1]; exact t10) k4 (by omega) (by show _ ≤ t_steps X i; rw [show t_steps X i = offT T T.length from x2]; exact hle) hfc (evC fc (clT T c).2.2.2) ((clT T c).2.2.2.length + 1) (clT T c).2.2.2 (offT T c) [] (xa_Book_stack X) m (by omega) rfl k5 trivial hty hm (by simp) rfl
  rw [← e2] at key
  refine en_Text_holds ⟨fun z => ⟨hi, ?_⟩, fun z => ?_⟩
  · cases c with
    | zero => exact absurd rfl z
    | succ c =>
      rw [nI_p', ixn (by omega), show t_codeEnd X i c = nI (offT T (c + 1)) from (x3 c (by omega)).2.2.2.1]
      exact ⟨⟨nI_pos' (by omega), by show c < t_n X i; rw [show t_n X i = T.length from x1]; omega⟩, key⟩
  · cases c with
    | zero => exact key
    | succ c => exact absurd z (nI_ne0 (by omega) (by omega))
/-! which clauses are struck -/
def skS (own : Nat) (cl : Cl) (c : Nat) (S : Nat → Nat → Bool) : Nat → Nat → Bool := if cl.1 = 120 ∧ S own c = false ∧ cl.2.1 < own then (fun a b => decide (a = cl.2.1 ∧ b = cl.2.2.1) || S a b) else S
def sk1 (T : List Cl) (own : Nat) (S : Nat → Nat → Bool) : Nat → (Nat → Nat → Bool)
  | 0 => S
  | c + 1 => skS own (clT T c) c (sk1 T own S c)
def skU (fr : Nat → Bool) (B : BkT) : Nat → (Nat → Nat → Bool)
  | 0 => fun _ _ => false
  | j + 1 => if fr (B.length - 1 - j) = true then sk1 (txB B (B.length - 1 - j)) (B.length - 1 - j) (skU fr B j) (txB B (B.length - 1 - j)).length else skU fr B j
def SKt (fr : Nat → Bool) (B : BkT) (k : Nat) : Nat → Nat → Bool := skU fr B (B.length - k)
theorem SKt_top (fr : Nat → Bool) (B : BkT) : SKt fr B B.length = fun _ _ => false := by rw [SKt, Nat.sub_self]; rfl
theorem SKt_s {fr : Nat → Bool} {B : BkT} {i : Nat} (hi : i < B.length) : SKt fr B i = if fr i = true then sk1 (txB B i) i (SKt fr B (i + 1)) (txB B i).length else SKt fr B (i + 1) := by
  have e1 : B.length - i = (B.length - (i + 1)) + 1 := by omega
  have e2 : B.length - 1 - (B.length - (i + 1)) = i := by omega
  rw [SKt, e1, skU, e2]
  rfl
theorem skS_row {own : Nat} {cl : Cl} {c : Nat} {S : Nat → Nat → Bool} {a b : Nat} (h : own ≤ a) : skS own cl c S a b = S a b := by
  rw [skS]
  split
  · next z =>
    have : ¬ (a = cl.2.1 ∧ b = cl.2.2.1) := by omega
    simp [this]
  · rfl
theorem sk1_row {T : List Cl} {own : Nat} {S : Nat → Nat → Bool} {a b : Nat} (h : own ≤ a) : ∀ c, sk1 T own S c a b = S a b := by
  intro c
  induction c with
  | zero => rfl
  | succ c ih => rw [sk1, skS_row h, ih]
theorem SKt_row {fr : Nat → Bool} {B : BkT} {a b : Nat} (ha : a < B.length) : ∀ k, k ≤ a + 1 → SKt fr B k a b = SKt fr B (a + 1) a b := by
  have key : ∀ n k, k + n = a + 1 → SKt fr B k a b = SKt fr B (a + 1) a b := by
    intro n
    induction n with
    | zero => intro k h; rw [show k = a + 1 by omega]
    | succ n ih =>
      intro k h
      rw [SKt_s (show k < B.length by omega)]
      split
      · rw [sk1_row (by omega), ih (k + 1) (by omega)]
      · exact ih (k + 1) (by omega)
  intro k hk
  exact key (a + 1 - k) k (by omega)
def skF (fr : Nat → Bool) (B : BkT) (a b : Nat) : Bool := SKt fr B 0 a b
def frM (M : StM) (w : Int32) (i : Nat) : Bool := mForce M (nI i) w
/-! strikes -/
def stRow (S : Nat → Nat → Bool) (fr : Nat → Bool) (N : Nat) (t : Nat → Int32) : Prop := ∀ a, a < N → ∀ b, b < 10 → t (10 * a + b) = b2i (S a b && fr a)
theorem m10 (i : Nat) : 10 * nI i = nI (10 * i) := by rw [show (10 : Int32) = nI 10 from rfl, pk_mul]
theorem nb01 : vp_nar .boolean 1 = 1 ∧ vp_nar .boolean 0 = 0 := by decide
theorem b2i_0 {b : Bool} : b2i b = 0 ↔ b = false := by cases b <;> decide
theorem nmi (i : Nat) : nI i + (-1) = nI i - 1 := by grind
theorem ct_strikes {E : EvT} {q : Nat → Nat} {d : Nat} {B : BkT} {X : StX} {M : StM} (hR : RRu B X M) {w : Int32} : C_strikes E q (d + 2) w M (fun M1 => ∃ t, M1 = sA M 54 t ∧ stRow (skF (frM M w) B) (frM M w) B.length t) := by
  obtain ⟨⟨r1, r2, r3⟩, -, -, r4⟩ := hR
  have outer : ∀ i, i ≤ B.length → ∀ t, stRow (SKt (frM M w) B i) (frM M w) B.length t → T_strikes_33 E q (d + 2) (fun M1 => ∃ t, M1 = sA M 54 t ∧ stRow (skF (frM M w) B) (frM M w) B.length t) (sA M 54 t) w (nI i - 1) := by
    intro i
    induction i with
    | zero =>
      intro _ t ht
      exact sg_strikes_33 ⟨fun _ => ⟨t, rfl, ht⟩, fun z => absurd (by decide) z⟩
    | succ i ih =>
      intro hi t ht
      obtain ⟨o1, o2, o3, o4⟩ := r4 i (by omega)
      obtain ⟨t10, t160, tcl⟩ := o1
      rw [nI_p']
      refine sg_strikes_33 ⟨fun z => absurd z (nI_pos (by omega)), fun _ => ?_⟩
      have bi : (0 : Int32) ≤ nI i ∧ nI i < 20 := bnd (n := 20) (by omega) (by omega) rfl
      rw [SKt_s (show i < B.length by omega)] at ih
      by_cases hfr : frM M w i = true
      · rw [if_pos hfr] at ih
        refine up_s (W := (txB B i).length) (T := fun c t => T_strikes_39 E q (d + 2) (fun M1 => ∃ t, M1 = sA M 54 t ∧ stRow (skF (frM M w) B) (frM M w) B.length t) (sA M 54 t) w (nI i) (nI c)) (J := fun c t => stRow (sk1 (txB B i) i (SKt (frM M w) B (i + 1)) c) (frM M w) B.length t) ?_ ?_ 0 t (by omega) ht
        · intro t ht
          refine sg_strikes_39 ⟨bi, fun _ => ?_, fun z => absurd ?_ z⟩
          · rw [nmi]; exact ih (by omega) t ht
          · rw [ixn (by omega), show a_clauseMany (sA M 54 t) i = nI (txB B i).length from o3]; exact Int32.le_refl _
        · intro c t hc ht k
          obtain ⟨l1, l2, l3, l4, l5, l6⟩ := o4 c hc
          obtain ⟨z1, z2, z3, z4, z5, -⟩ := tcl c hc
          have nx : stRow (sk1 (txB B i) i (SKt (frM M w) B (i + 1)) (c + 1)) (frM M w) B.length t → T_strikes_39 E q (d + 2) (fun M1 => ∃ t, M1 = sA M 54 t ∧ stRow (skF (frM M w) B) (frM M w) B.length t) (sA M 54 t) w (nI i) (nI c + 1) := by
            intro h; rw [nI_s]; exact k t h
          refine sg_strikes_39 ⟨bi, fun z => absurd z ?_, fun _ => ⟨bi, fun z => ?_, fun _ => ?_⟩⟩
          · rw [ixn (by omega), show a_clauseMany (sA M 54 t) i = nI (txB B i).length from o3]; exact nI_ge hc (by omega)
          · exact absurd (hfr.symm.trans z) (by decide)
          rw [m10, nI_add, ixn (show 10 * i + c < 2 ^ 31 by omega), show a_letterOf (sA M 54 t) (10 * i + c) = nI (clT (txB B i) c).1 from l1, show a_nOf (sA M 54 t) (10 * i + c) = nI (clT (txB B i) c).2.1 from l2, show a_jOf (sA M 54 t) (10 * i + c) = nI (clT (txB B i) c).2.2.1 from l3, show a_isStruck (sA M 54 t) (10 * i + c) = b2i (sk1 (txB B i) i (SKt (frM M w) B (i + 1)) c i c) from (ht i (by omega) c (by omega)).trans (by rw [hfr, Bool.and_true]), b2i_0, show (120 : Int32) = nI 120 from rfl, nI_eq (by omega) (by omega), nI_leI (by omega) (by omega)]
          rw [sk1, skS] at nx
          refine ⟨bnd (n := 200) (by omega) (by omega) rfl, fun n1 => nx (by rw [if_neg (fun y => n1 y.1)]; exact ht), fun y1 => ⟨fun n2 => nx (by rw [if_neg (fun y => n2 y.2.1)]; exact ht), fun y2 => ⟨fun n3 => nx (by rw [if_neg (fun y => by have := y.2.2; omega)]; exact ht), fun y3 => ⟨bnd (n := 20) (by omega) (by omega) rfl, fun n4 => nx ?_, fun y4 => ?_⟩⟩⟩⟩
          · rw [if_pos ⟨y1, y2, by omega⟩]
            intro a ha b hb
            rw [ht a ha b hb]
            congr 1
            by_cases ea : a = (clT (txB B i) c).2.1
            · subst ea
              have : frM M w (clT (txB B i) c).2.1 = false := n4
              rw [this, Bool.and_false, Bool.and_false]
            · simp [ea]
          · rw [m10, nI_add, ixn (show 10 * (clT (txB B i) c).2.1 + (clT (txB B i) c).2.2.1 < 2 ^ 31 by omega), sA_tw, nI_s, nb01.1]
            refine ⟨bnd (n := 200) (by omega) (by omega) rfl, k _ ?_⟩
            rw [sk1, skS, if_pos ⟨y1, y2, by omega⟩]
            intro a ha b hb
            show upd t (10 * (clT (txB B i) c).2.1 + (clT (txB B i) c).2.2.1) 1 (10 * a + b) = _
            by_cases ea : a = (clT (txB B i) c).2.1 ∧ b = (clT (txB B i) c).2.2.1
            · rw [ea.1, ea.2, upd_eq]
              have : frM M w (clT (txB B i) c).2.1 = true := y4
              rw [this]
              simp [b2i]
            · rw [upd_ne (by omega), ht a ha b hb]
              simp [ea]
      · have hfr : frM M w i = false := by simpa using hfr
        rw [if_neg (by rw [hfr]; decide)] at ih
        refine sg_strikes_39 ⟨bi, fun _ => ?_, fun _ => ⟨bi, fun _ => ?_, fun z => ?_⟩⟩
        · rw [nmi]; exact ih (by omega) t ht
        · rw [nmi]; exact ih (by omega) t ht
        · exact absurd (hfr.symm.trans z) (by decide)
  refine en_strikes ?_
  have zero := up_s (W := 10 * B.length) (T := fun i t => T_strikes_2 E q (d + 2) (fun M1 => ∃ t, M1 = sA M 54 t ∧ stRow (skF (frM M w) B) (frM M w) B.length t) (sA M 54 t) w (nI i)) (J := fun i t => ∀ j, j < i → t j = 0) ?_ ?_ 0 (a_isStruck M) (by omega) (fun j hj => absurd hj (Nat.not_lt_zero j))
  · rw [show sA M 54 (a_isStruck M) = M from sA_self M 54] at zero
    exact zero
  · intro t ht
    refine sg_strikes_2 ⟨fun _ => ?_, fun z => absurd ?_ z⟩
    · rw [show s_ruleMany0 (sA M 54 t) = nI B.length from r2]
      refine outer B.length (Nat.le_refl _) t (fun a ha b hb => ?_)
      rw [SKt_top, ht _ (by omega)]
      rfl
    · rw [show s_ruleMany0 (sA M 54 t) = nI B.length from r2, m10]; exact Int32.le_refl _
  · intro i t hi ht k
    refine sg_strikes_2 ⟨fun z => absurd z ?_, fun _ => ⟨bnd (n := 200) (by omega) (by omega) rfl, ?_⟩⟩
    · rw [show s_ruleMany0 (sA M 54 t) = nI B.length from r2, m10]; exact nI_ge hi (by omega)
    · rw [sA_tw, ixn (by omega), nI_s, nb01.2]
      refine k _ (fun j hj => ?_)
      show upd t i 0 j = 0
      by_cases e : j = i
      · rw [e, upd_eq]
      · rw [upd_ne e]; exact ht j (by omega)
