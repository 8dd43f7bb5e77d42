/-! the class's reader: clauses, texts -/
def flC (X : StX) (x : Nat × Nat) (Y : StX) : Prop := ∃ le va ta ce n a st cd, Y = xRd (xCl X le va ta ce n) a (fvI x) (nI st) cd ∧ n ≤ 10 ∧ st ≤ 160
theorem rc_clause {E : EvT} {q : Nat → Nat} {d : Nat} {X : StX} {L : Nat} {bt : Nat → Nat} (hE : EOk E q) (h : PB X L bt) {T : List Cl} {le va ta ce cd : Nat → Int32} {p : Nat} (hT : T.length ≤ 10) (hA : TxA T le va ta ce cd) (hp : p ≤ L) (hof : offT T T.length ≤ p) {P : StX → Prop} (h1 : ∀ p' cl, pCl L bt (fu L) p T.length = .inr (p', cl) → ∀ le' va' ta' ce' cd', TxA (T ++ [cl]) le' va' ta' ce' cd' → P (xRd (xCl X le' va' ta' ce' (T.length + 1)) (nI p') 0 (nI (offT (T ++ [cl]) (T.length + 1))) cd')) (h2 : ∀ x, pCl L bt (fu L) p T.length = .inl x → ∀ Y, flC X x Y → P Y) : C_Read_clause E q (d + 24) (xRd (xCl X le va ta ce T.length) (nI p) 0 (nI (offT T T.length)) cd) P := by
  have L160 := h.2.2.1
  have hX : ∀ le va ta ce n, PB (xCl X le va ta ce n) L bt := fun _ _ _ _ _ => h
  have hfu : 10 * (L + 1) + 9 < fu L := by rw [fu]; omega
  refine en_Read_clause ⟨peek_b (hX _ _ _ _ _) hp _ _ _, ?_⟩
  rw [peek_ok (hX _ _ _ _ _) hp]
  -- all letters alike
  have all : ∀ r2 : Int32, (¬ mosN (ch L bt p) = 200 → r2 = nI (mosN (ch L bt p))) → (mosN (ch L bt p) = 200 → r2 = -1) → (¬ r2 = (-1) → (((xs_Read_clauses (xRd (xCl X le va ta ce T.length) (nI p) 0 (nI (offT T T.length)) cd)) < 10 → ((0 ≤ (xs_Read_clauses (xRd (xCl X le va ta ce T.length) (nI p) 0 (nI (offT T T.length)) cd)) ∧ (xs_Read_clauses (xRd (xCl X le va ta ce T.length) (nI p) 0 (nI (offT T T.length)) cd)) < 10) ∧ (C_Read_digits E q (d + 23) r2 (xA (xI (xRd (xCl X le va ta ce T.length) (nI p) 0 (nI (offT T T.length)) cd) 122 ((xs_Read_at (xRd (xCl X le va ta ce T.length) (nI p) 0 (nI (offT T T.length)) cd)) + 1)) 126 (upd (xa_Read_letter (xRd (xCl X le va ta ce T.length) (nI p) 0 (nI (offT T T.length)) cd)) (ix (xs_Read_clauses (xRd (xCl X le va ta ce T.length) (nI p) 0 (nI (offT T T.length)) cd))) (pkI L bt p))) (fun r7 S8 => (0 ≤ (xs_Read_clauses S8) ∧ (xs_Read_clauses S8) < 10) ∧ ((¬ (pkI L bt p) = 120 → (C_Read_take E q (d + 23) 40 (xA (xA S8 127 (upd (xa_Read_value S8) (ix (xs_Read_clauses (xRd (xCl X le va ta ce T.length) (nI p) 0 (nI (offT T T.length)) cd))) r7)) 128 (upd (xa_Read_target S8) (ix (xs_Read_clauses S8)) 0)) (fun r11 S12 => (r11 = false → ((0 ≤ (xs_Read_clauses S12) ∧ (xs_Read_clauses S12) < 10) ∧ (P (xI (xA S12 129 (upd (xa_Read_codeEnd S12) (ix (xs_Read_clauses S12)) (xs_Read_steps S12))) 124 ((xs_Read_clauses S12) + 1))))) ∧ (r11 = true → (C_Read_condition E q (d + 23) 1 S12 (fun S16 => C_Read_expect E q (d + 23) 41 S16 (fun S18 => (0 ≤ (xs_Read_clauses S18) ∧ (xs_Read_clauses S18) < 10) ∧ (P (xI (xA S18 129 (upd (xa_Read_codeEnd S18) (ix (xs_Read_clauses S18)) (xs_Read_steps S18))) 124 ((xs_Read_clauses S18) + 1)))))))))) ∧ ((pkI L bt p) = 120 → (C_Read_expect E q (d + 23) 46 (xA (xA S8 127 (upd (xa_Read_value S8) (ix (xs_Read_clauses (xRd (xCl X le va ta ce T.length) (nI p) 0 (nI (offT T T.length)) cd))) r7)) 128 (upd (xa_Read_target S8) (ix (xs_Read_clauses S8)) 0)) (fun S21 => C_Read_digits E q (d + 23) 9 S21 (fun r22 S23 => (0 ≤ (xs_Read_clauses S21) ∧ (xs_Read_clauses S21) < 10) ∧ ((0 ≤ (xs_Read_clauses S23) ∧ (xs_Read_clauses S23) < 10) ∧ (P (xI (xA (xA S23 128 (upd (xa_Read_target S23) (ix (xs_Read_clauses S21)) r22)) 129 (upd (xa_Read_codeEnd S23) (ix (xs_Read_clauses S23)) (xs_Read_steps S23))) 124 ((xs_Read_clauses S23) + 1))))))))))))) ∧ (¬ (xs_Read_clauses (xRd (xCl X le va ta ce T.length) (nI p) 0 (nI (offT T T.length)) cd)) < 10 → (C_Read_refuse E q (d + 23) 4 (xs_Read_at (xRd (xCl X le va ta ce T.length) (nI p) 0 (nI (offT T T.length)) cd)) (xRd (xCl X le va ta ce T.length) (nI p) 0 (nI (offT T T.length)) cd) (fun S27 => P S27))))) ∧ (r2 = (-1) → (C_Read_refuse E q (d + 23) 1 (xs_Read_at (xRd (xCl X le va ta ce T.length) (nI p) 0 (nI (offT T T.length)) cd)) (xRd (xCl X le va ta ce T.length) (nI p) 0 (nI (offT T T.length)) cd) (fun S29 => P S29))) := by
    intro r2 hr1 hr2
    rw [pCl] at h1 h2
    refine ⟨fun z => ?_, fun z => rd_refuse (k := 1) (p := p) ?_⟩
    · have nm : ¬ mosN (ch L bt p) = 200 := fun y => z (hr2 y)
      rw [if_neg nm] at h1 h2
      have pl := mos_lt nm
      obtain ⟨m99, c128, -, -⟩ := mos_b nm
      obtain ⟨pk1, pk2⟩ := pkI_b h pl
      have ec : xs_Read_clauses (xRd (xCl X le va ta ce T.length) (nI p) 0 (nI (offT T T.length)) cd) = nI T.length := rfl
      rw [ec]
      refine ⟨fun z2 => ?_, fun z2 => rd_refuse (k := 4) (p := p) ?_⟩
      · have n10 : T.length < 10 := (nI_ltI (b := 10) (by omega) (by omega)).mp z2
        rw [if_neg (by omega)] at h1 h2
        have bn : (0 : Int32) ≤ nI T.length ∧ nI T.length < 10 := bnd (n := 10) n10 (by omega) rfl
        refine ⟨bn, ?_⟩
        rw [xRd_122, xRd_A _ _ _ _ _ _ 126 (by decide), xCl_126, ixn (show T.length < 2 ^ 31 by omega), hr1 nm]
        show C_Read_digits E q (d + 23) (nI (mosN (ch L bt p))) (xRd (xCl X (upd le T.length (pkI L bt p)) va ta ce T.length) (nI p + 1) 0 (nI (offT T T.length)) cd) _
        rw [nI_s, pk1]
        have c120 : nI (ch L bt p) = 120 ↔ ch L bt p = 120 := by rw [show (120 : Int32) = nI 120 from rfl, nI_eq (by omega) (by omega)]
        -- behind a fault: what is left of the clause
        have ffin : ∀ x, (∀ Y, flC X x Y → P Y) → ∀ le va ta ce a (st : Nat) cd, st ≤ 160 → (0 ≤ xs_Read_clauses (xRd (xCl X le va ta ce T.length) a (fvI x) (nI st) cd) ∧ xs_Read_clauses (xRd (xCl X le va ta ce T.length) a (fvI x) (nI st) cd) < 10) ∧ P (xI (xA (xRd (xCl X le va ta ce T.length) a (fvI x) (nI st) cd) 129 (upd (xa_Read_codeEnd (xRd (xCl X le va ta ce T.length) a (fvI x) (nI st) cd)) (ix (xs_Read_clauses (xRd (xCl X le va ta ce T.length) a (fvI x) (nI st) cd))) (xs_Read_steps (xRd (xCl X le va ta ce T.length) a (fvI x) (nI st) cd)))) 124 ((xs_Read_clauses (xRd (xCl X le va ta ce T.length) a (fvI x) (nI st) cd)) + 1)) := by
          intro x hx le va ta ce a st cd hst
          refine ⟨bn, hx _ ⟨le, va, ta, upd ce (ix (nI T.length)) (nI st), T.length + 1, a, st, cd, ?_, by omega, hst⟩⟩
          show xI (xA (xRd (xCl X le va ta ce T.length) a (fvI x) (nI st) cd) 129 (upd ce (ix (nI T.length)) (nI st))) 124 (nI T.length + 1) = _
          rw [xRd_A _ _ _ _ _ _ 129 (by decide), xRd_I, nI_s, xCl_e]
        refine rd_digits hE (hX _ _ _ _ _) (by omega) (by omega) ⟨fun p1 v e => ?_, fun x e v a => ?_⟩
        · -- the number is there
          obtain ⟨k1, k2, k3, k4⟩ := rNum_r e (by omega)
          rw [e] at h1 h2
          dsimp only at h1 h2
          refine ⟨bn, ?_⟩
          rw [c120, xRd_A _ _ _ _ _ _ 127 (by decide), xCl_127, xRd_A _ _ _ _ _ _ 128 (by decide), xCl_128]
          show (_ → C_Read_take E q (d + 23) 40 (xRd (xCl X (upd le T.length (nI (ch L bt p))) (upd va T.length (nI v)) (upd ta (ix (nI T.length)) 0) ce T.length) (nI p1) 0 (nI (offT T T.length)) cd) _) ∧ (_ → C_Read_expect E q (d + 23) 46 (xRd (xCl X (upd le T.length (nI (ch L bt p))) (upd va T.length (nI v)) (upd ta (ix (nI T.length)) 0) ce T.length) (nI p1) 0 (nI (offT T T.length)) cd) _)
          rw [ixn (show T.length < 2 ^ 31 by omega)]
          -- a clause that is whole
          have whole : ∀ p2 (cl : Cl) cd' (tv : Int32), cl.1 = ch L bt p → cl.2.1 = v → tv = nI cl.2.2.1 → (∀ k, k < offT T T.length → cd' k = cd k) → hlX cd' (offT T T.length) cl.2.2.2 → (∀ le' va' ta' ce' cd', TxA (T ++ [cl]) le' va' ta' ce' cd' → P (xRd (xCl X le' va' ta' ce' (T.length + 1)) (nI p2) 0 (nI (offT (T ++ [cl]) (T.length + 1))) cd')) → P (xI (xA (xRd (xCl X (upd le T.length (nI (ch L bt p))) (upd va T.length (nI v)) (upd ta T.length tv) ce T.length) (nI p2) 0 (nI (offT T T.length + cl.2.2.2.length)) cd') 129 (upd ce T.length (nI (offT T T.length + cl.2.2.2.length)))) 124 (nI (T.length + 1))) := by
            intro p2 cl cd' tv e1 e2 e3 w1 w2 hP
            rw [xRd_A _ _ _ _ _ _ 129 (by decide), xRd_I, xCl_e, ← offT_new]
            refine hP _ _ _ _ _ (hA.add (fun c hc => ⟨upd_ne (by omega), upd_ne (by omega), upd_ne (by omega), upd_ne (by omega)⟩) w1 ⟨by rw [upd_eq, e1], by rw [upd_eq, e2], by rw [upd_eq, e3], by rw [upd_eq, offT_new]⟩ w2)
          refine ⟨fun nx => ?_, fun yx => ?_⟩
          · rw [if_neg nx] at h1 h2
            refine rd_take (c := 40) (hX _ _ _ _ _) k2 (by decide) (fun y => ⟨fun w => (by cases w), fun _ => ?_⟩) (fun y => ⟨fun _ => ⟨bn, ?_⟩, fun w => (by cases w)⟩)
            · have pl1 := ch_lt y (by decide)
              rw [if_pos y] at h1 h2
              refine (rd_all hE (hX _ _ _ _ _) (fu L)).2.2.2.2.2 d 1 (p1 + 1) (offT T T.length) cd _ (by omega) (by omega) (by omega) (by omega) ⟨fun p2 s e2 Y hY => ?_, fun x e2 Y hY => ?_⟩
              · obtain ⟨j1, j2, -⟩ := pz_r _ _ _ _ _ _ _ e2 (by omega)
                obtain ⟨j3, j4⟩ := j2 rfl
                obtain ⟨cd', rfl, b1, b2⟩ := hY
                rw [e2] at h1 h2
                dsimp only [bndR] at h1 h2
                rw [clsR] at h1 h2
                refine rd_expect (c := 41) (hX _ _ _ _ _) j1 (by decide) (fun y2 => ?_) (fun y2 => ?_)
                · rw [if_pos y2] at h1 h2
                  refine ⟨bn, ?_⟩
                  have := whole (p2 + 1) (ch L bt p, v, 0, s) cd' 0 rfl rfl rfl b1 b2 (h1 _ _ rfl)
                  show P (xI (xA (xRd _ _ 0 _ cd') 129 (upd ce (ix (nI T.length)) (nI (offT T T.length + s.length)))) 124 (nI T.length + 1))
                  rw [ixn (show T.length < 2 ^ 31 by omega), nI_s]
                  exact this
                · rw [if_neg y2] at h1 h2
                  exact ffin _ (h2 _ rfl) _ _ _ _ _ _ _ (by omega)
              · have of := pz_l _ _ _ _ _ _ e2 (by omega) (by omega) (by omega)
                obtain ⟨a, st, cd', rfl, hst⟩ := hY
                rw [e2] at h1 h2
                exact rd_expectF (c := 41) (fv_ne of L160) (by decide) (ffin _ (h2 _ rfl) _ _ _ _ _ _ _ hst)
            · rw [if_neg y] at h1 h2
              have := whole p1 (ch L bt p, v, 0, []) cd 0 rfl rfl rfl (fun _ _ => rfl) trivial (h1 _ _ rfl)
              show P (xI (xA (xRd _ _ 0 _ cd) 129 (upd ce (ix (nI T.length)) (nI (offT T T.length)))) 124 (nI T.length + 1))
              rw [ixn (show T.length < 2 ^ 31 by omega), nI_s]
              exact this
          · rw [if_pos yx] at h1 h2
            refine rd_expect (c := 46) (hX _ _ _ _ _) k2 (by decide) (fun y => ?_) (fun y => ?_)
            · have pl1 := ch_lt y (by decide)
              rw [if_pos y] at h1 h2
              refine rd_digits hE (hX _ _ _ _ _) (most := 9) (by omega) (by omega) ⟨fun p2 j e2 => ?_, fun x e2 v2 a => ?_⟩
              · rw [e2] at h1 h2
                refine ⟨bn, bn, ?_⟩
                rw [xRd_A _ _ _ _ _ _ 128 (by decide), xCl_128]
                have := whole p2 (120, v, j, []) cd (nI j) yx.symm rfl rfl (fun _ _ => rfl) trivial (h1 _ _ rfl)
                show P (xI (xA (xRd (xCl X _ _ (upd (upd ta T.length 0) (ix (nI T.length)) (nI j)) ce T.length) _ 0 _ cd) 129 (upd ce (ix (nI T.length)) (nI (offT T T.length)))) 124 (nI T.length + 1))
                rw [ixn (show T.length < 2 ^ 31 by omega), nI_s, show upd (upd ta T.length 0) T.length (nI j) = upd ta T.length (nI j) by
                  funext i
                  by_cases c : i = T.length
                  · rw [c, upd_eq, upd_eq]
                  · rw [upd_ne c, upd_ne c, upd_ne c]]
                exact this
              · rw [e2] at h1 h2
                refine ⟨bn, bn, ?_⟩
                rw [xRd_A _ _ _ _ _ _ 128 (by decide), xCl_128]
                exact (ffin _ (h2 _ rfl) _ _ _ _ _ _ _ (by omega)).2
            · rw [if_neg y] at h1 h2
              have hne := fv_ne4 (L := L) (x := (1, p1)) ⟨Or.inl rfl, k2⟩ L160
              refine rd_digitsF hE hne (fun v2 => ⟨bn, bn, ?_⟩)
              rw [xRd_A _ _ _ _ _ _ 128 (by decide), xCl_128]
              exact (ffin _ (h2 _ rfl) _ _ _ _ _ _ _ (by omega)).2
        · -- no number
          have of := rNum_l e (by omega)
          have hne := fv_ne of L160
          rw [e] at h1 h2
          have h2 := h2 _ rfl
          refine ⟨bn, ?_⟩
          rw [c120, xRd_A _ _ _ _ _ _ 127 (by decide), xCl_127, xRd_A _ _ _ _ _ _ 128 (by decide), xCl_128]
          refine ⟨fun _ => rd_takeF (c := 40) hne (by decide) ⟨fun _ => ffin _ h2 _ _ _ _ _ _ _ (by omega), fun w => (by cases w)⟩, fun _ => rd_expectF (c := 46) hne (by decide) (rd_digitsF hE hne (fun v2 => ⟨bn, bn, ?_⟩))⟩
          rw [xRd_A _ _ _ _ _ _ 128 (by decide), xCl_128]
          exact (ffin _ h2 _ _ _ _ _ _ _ (by omega)).2
      · have n10 : ¬ T.length < 10 := fun y => z2 (nI_lt (b := 10) y (by omega))
        rw [if_pos (by omega)] at h1 h2
        exact h2 _ rfl _ ⟨le, va, ta, ce, T.length, _, _, cd, rfl, hT, by omega⟩
    · have nm : mosN (ch L bt p) = 200 := Classical.byContradiction (fun y => by rw [hr1 y] at z; exact nI_ne1 (by have := (mos_b y).1; omega) z)
      rw [if_pos nm] at h1 h2
      exact h2 _ rfl _ ⟨le, va, ta, ce, T.length, _, _, cd, rfl, hT, by omega⟩
  have fI : ∀ c, c < 256 → (pkI L bt p = nI c ↔ ch L bt p = c) := fun c hc => pkI_e h hc
  have one : ∀ c r, c < 256 → mosN c = r → ¬ r = 200 → pkI L bt p = nI c → (¬ mosN (ch L bt p) = 200 → nI r = nI (mosN (ch L bt p))) ∧ (mosN (ch L bt p) = 200 → nI r = -1) := by
    intro c r hc hr hr2 z
    have e := (fI c hc).mp z
    rw [e, hr]
    exact ⟨fun _ => rfl, fun w => absurd w hr2⟩
  refine en_Read_highestOf ⟨fun z => all 8 (one 97 8 (by decide) rfl (by decide) z).1 (one 97 8 (by decide) rfl (by decide) z).2, fun z1 => ⟨fun z => all 7 (one 102 7 (by decide) rfl (by decide) z).1 (one 102 7 (by decide) rfl (by decide) z).2, fun z2 => ⟨fun z => all 3 (one 110 3 (by decide) rfl (by decide) z).1 (one 110 3 (by decide) rfl (by decide) z).2, fun z3 => ⟨fun z => all 99 (one 118 99 (by decide) rfl (by decide) z).1 (one 118 99 (by decide) rfl (by decide) z).2, fun z4 => ⟨fun z => all 19 (one 120 19 (by decide) rfl (by decide) z).1 (one 120 19 (by decide) rfl (by decide) z).2, fun z5 => all (-1) (fun w => absurd ?_ w) (fun _ => rfl)⟩⟩⟩⟩⟩
  rw [mosN, if_neg (fun y => z1 ((fI 97 (by decide)).mpr y)), if_neg (fun y => z2 ((fI 102 (by decide)).mpr y)), if_neg (fun y => z3 ((fI 110 (by decide)).mpr y)), if_neg (fun y => z4 ((fI 118 (by decide)).mpr y)), if_neg (fun y => z5 ((fI 120 (by decide)).mpr y))]
/-- the class's text -/
theorem rc_loop {E : EvT} {q : Nat → Nat} {d : Nat} {X : StX} {L : Nat} {bt : Nat → Nat} (hE : EOk E q) (h : PB X L bt) {P : Int32 → StX → Prop} : ∀ g p T le va ta ce cd i, L - p < g → p ≤ L → i < p → T.length ≤ 10 → TxA T le va ta ce cd → offT T T.length ≤ p → (∀ T', pTx L bt (fu L) g p T = .inr T' → ∀ le va ta ce cd, TxA T' le va ta ce cd → P 0 (xRd (xCl X le va ta ce T'.length) (nI L) 0 (nI (offT T' T'.length)) cd)) → (∀ x, pTx L bt (fu L) g p T = .inl x → ∀ Y, flC X x Y → P (fvI x) Y) → T_Read_read_41 E q (d + 25) P (xRd (xCl X le va ta ce T.length) (nI p) 0 (nI (offT T T.length)) cd) (nI i) := by
  have L160 := h.2.2.1
  have hX : ∀ le va ta ce n, PB (xCl X le va ta ce n) L bt := fun _ _ _ _ _ => h
  have hfu : 10 * (L + 1) + 9 < fu L := by rw [fu]; omega
  intro g
  induction g with
  | zero => intro p T le va ta ce cd i hg; omega
  | succ g ih =>
    intro p T le va ta ce cd i hg hp hi hT hA hof h1 h2
    rw [pTx] at h1 h2
    -- the end
    have fin : ¬ ch L bt p = 59 → ((xs_Read_length (xRd (xCl X le va ta ce T.length) (nI p) 0 (nI (offT T T.length)) cd)) ≤ (xs_Read_at (xRd (xCl X le va ta ce T.length) (nI p) 0 (nI (offT T T.length)) cd)) → (P (xs_Read_fault (xRd (xCl X le va ta ce T.length) (nI p) 0 (nI (offT T T.length)) cd)) (xRd (xCl X le va ta ce T.length) (nI p) 0 (nI (offT T T.length)) cd))) ∧ (¬ (xs_Read_length (xRd (xCl X le va ta ce T.length) (nI p) 0 (nI (offT T T.length)) cd)) ≤ (xs_Read_at (xRd (xCl X le va ta ce T.length) (nI p) 0 (nI (offT T T.length)) cd)) → (C_Read_refuse E q (d + 24) 1 (xs_Read_at (xRd (xCl X le va ta ce T.length) (nI p) 0 (nI (offT T T.length)) cd)) (xRd (xCl X le va ta ce T.length) (nI p) 0 (nI (offT T T.length)) cd) (fun S4 => P (xs_Read_fault S4) S4))) := by
      intro z
      have el : xs_Read_length (xRd (xCl X le va ta ce T.length) (nI p) 0 (nI (offT T T.length)) cd) = nI L := h.2.1
      rw [el]
      show (nI L ≤ nI p → _) ∧ (¬ nI L ≤ nI p → _)
      rw [nI_leI (by omega) (by omega)]
      refine ⟨fun y => ?_, fun y => rd_refuse (k := 1) (p := p) ?_⟩
      · have : p = L := by omega
        subst this
        rw [if_neg (Nat.lt_irrefl p)] at h1
        exact h1 T rfl le va ta ce cd hA
      · rw [if_pos (show p < L by omega), if_neg z] at h2
        exact h2 _ rfl _ ⟨le, va, ta, ce, T.length, _, _, cd, rfl, hT, by omega⟩
    refine sg_Read_read_41 ⟨fun z => ?_, fun z => ?_⟩
    · have z : nI L ≤ nI i := by rw [← h.2.1]; exact z
      have := (nI_leI (by omega) (by omega)).mp z
      omega
    · refine rd_take (c := 59) (hX _ _ _ _ _) hp (by decide) (fun y => ⟨fun w => (by cases w), fun _ => ?_⟩) (fun y => ⟨fun _ => fin y, fun w => (by cases w)⟩)
      have pl := ch_lt y (by decide)
      rw [if_pos pl, if_pos y] at h1 h2
      refine rc_clause hE h hT hA (by omega) (by omega) (fun p' cl e le' va' ta' ce' cd' hA' => ?_) (fun x e Y hY => ?_)
      · obtain ⟨k1, k2, k3, k4, k5⟩ := pCl_r (by omega) e
        rw [e] at h1 h2
        rw [nI_s]
        have el : (T ++ [cl]).length = T.length + 1 := by rw [List.length_append]; rfl
        have := ih p' (T ++ [cl]) le' va' ta' ce' cd' (i + 1) (by omega) k2 (by omega) (by rw [el]; omega) hA' (by rw [el, offT_new]; omega) h1 h2
        rw [el] at this
        exact this
      · have of := pCl_l hfu (by omega) e
        have hne := fv_ne4 of L160
        rw [e] at h2
        have h2 := h2 _ rfl _ hY
        obtain ⟨le', va', ta', ce', n', a, st, cd', rfl, hn', hst⟩ := hY
        have fin2 : ((xs_Read_length (xRd (xCl X le' va' ta' ce' n') a (fvI x) (nI st) cd')) ≤ (xs_Read_at (xRd (xCl X le' va' ta' ce' n') a (fvI x) (nI st) cd')) → (P (xs_Read_fault (xRd (xCl X le' va' ta' ce' n') a (fvI x) (nI st) cd')) (xRd (xCl X le' va' ta' ce' n') a (fvI x) (nI st) cd'))) ∧ (¬ (xs_Read_length (xRd (xCl X le' va' ta' ce' n') a (fvI x) (nI st) cd')) ≤ (xs_Read_at (xRd (xCl X le' va' ta' ce' n') a (fvI x) (nI st) cd')) → (C_Read_refuse E q (d + 24) 1 (xs_Read_at (xRd (xCl X le' va' ta' ce' n') a (fvI x) (nI st) cd')) (xRd (xCl X le' va' ta' ce' n') a (fvI x) (nI st) cd') (fun S4 => P (xs_Read_fault S4) S4))) := ⟨fun _ => h2, fun _ => rd_refuseF hne h2⟩
        refine sg_Read_read_41 ⟨fun _ => fin2, fun _ => rd_takeF (c := 59) hne (by decide) ⟨fun _ => fin2, fun w => (by cases w)⟩⟩
theorem rc_read {E : EvT} {q : Nat → Nat} {d : Nat} {X : StX} {L : Nat} {bt : Nat → Nat} (hE : EOk E q) (hL : 1 ≤ L ∧ L ≤ 160) (hb : ∀ p, p < L → xa_Tape_bytes X p &&& 255 = nI (bt p) ∧ bt p < 256) {P : Int32 → StX → Prop} (h1 : ∀ T, pText L bt = .inr T → ∀ le va ta ce cd, TxA T le va ta ce cd → P 0 (xRd (xCl (xI (xR X 280) 121 (nI L)) le va ta ce T.length) (nI L) 0 (nI (offT T T.length)) cd)) (h2 : ∀ x, pText L bt = .inl x → ∀ Y, flC (xI (xR X 280) 121 (nI L)) x Y → P (fvI x) Y) : C_Read_read E q (d + 25) (nI L) X P := by
  have hfu : 10 * (L + 1) + 9 < fu L := by rw [fu]; omega
  have h : PB (xI (xR X 280) 121 (nI L)) L bt := ⟨rfl, rfl, hL.2, hb⟩
  refine en_Read_read ?_
  have ej : jMin (nI L) 400 = nI L := by rw [jMin, if_neg (show ¬ (400 : Int32) < nI L from nI_nlt (b := L) (a := 400) (by omega) (by omega))]
  rw [ej]
  have e0 : xI (xI (xI (xI (xI (xR X 280) 121 (nI L)) 122 0) 123 0) 124 0) 125 0 = xRd (xCl (xI (xR X 280) 121 (nI L)) (xa_Read_letter X) (xa_Read_value X) (xa_Read_target X) (xa_Read_codeEnd X) ([] : List Cl).length) (nI 0) 0 (nI (offT [] ([] : List Cl).length)) (xa_Read_code X) := by
    refine Prod.ext ?_ (Prod.ext ?_ rfl)
    · funext j
      simp only [xRd, xCl, xI, xA, va_up, xR]
      by_cases c1 : j = 125
      · simp [c1]; rfl
      · by_cases c2 : j = 124
        · simp [c2]; rfl
        · by_cases c3 : j = 123
          · simp [c3]
          · by_cases c4 : j = 122
            · simp [c4]; rfl
            · simp [c1, c2, c3, c4]
    · funext j
      simp only [xRd, xCl, xI, xA, va_up, xR]
      by_cases c1 : j = 130
      · simp [c1]
      · by_cases c2 : j = 129
        · simp [c2]
        · by_cases c3 : j = 128
          · simp [c3]
          · by_cases c4 : j = 127
            · simp [c4]
            · by_cases c5 : j = 126
              · simp [c5]
              · simp [c1, c2, c3, c4, c5]
  rw [e0]
  rw [pText] at h1 h2
  refine rc_clause hE h (T := []) (Nat.zero_le _) (fun c hc => absurd hc (Nat.not_lt_zero c)) (Nat.zero_le _) (Nat.zero_le _) (fun p' cl e le' va' ta' ce' cd' hA' => ?_) (fun x e Y hY => ?_)
  · obtain ⟨k1, k2, k3, k4, k5⟩ := pCl_r (Nat.zero_le _) e
    rw [show pCl L bt (fu L) 0 0 = .inr (p', cl) from e] at h1 h2
    have el : ([] ++ [cl] : List Cl).length = 1 := rfl
    have := rc_loop hE h (d := d) (P := P) (L + 1) p' [cl] le' va' ta' ce' cd' 0 (by omega) k2 (by omega) (by show 1 ≤ 10; omega) hA' (by show offT ([] ++ [cl]) (([] : List Cl).length + 1) ≤ p'; rw [offT_new]; show 0 + _ ≤ _; omega) h1 h2
    exact this
  · have of := pCl_l hfu (Nat.zero_le _) e
    have hne := fv_ne4 of hL.2
    rw [show pCl L bt (fu L) 0 0 = .inl x from e] at h2
    have h2 := h2 _ rfl _ hY
    obtain ⟨le', va', ta', ce', n', a, st, cd', rfl, hn', hst⟩ := hY
    have fin2 : ((xs_Read_length (xRd (xCl (xI (xR X 280) 121 (nI L)) le' va' ta' ce' n') a (fvI x) (nI st) cd')) ≤ (xs_Read_at (xRd (xCl (xI (xR X 280) 121 (nI L)) le' va' ta' ce' n') a (fvI x) (nI st) cd')) → (P (xs_Read_fault (xRd (xCl (xI (xR X 280) 121 (nI L)) le' va' ta' ce' n') a (fvI x) (nI st) cd')) (xRd (xCl (xI (xR X 280) 121 (nI L)) le' va' ta' ce' n') a (fvI x) (nI st) cd'))) ∧ (¬ (xs_Read_length (xRd (xCl (xI (xR X 280) 121 (nI L)) le' va' ta' ce' n') a (fvI x) (nI st) cd')) ≤ (xs_Read_at (xRd (xCl (xI (xR X 280) 121 (nI L)) le' va' ta' ce' n') a (fvI x) (nI st) cd')) → (C_Read_refuse E q (d + 24) 1 (xs_Read_at (xRd (xCl (xI (xR X 280) 121 (nI L)) le' va' ta' ce' n') a (fvI x) (nI st) cd')) (xRd (xCl (xI (xR X 280) 121 (nI L)) le' va' ta' ce' n') a (fvI x) (nI st) cd') (fun S4 => P (xs_Read_fault S4) S4))) := ⟨fun _ => h2, fun _ => rd_refuseF hne h2⟩
    exact sg_Read_read_41 ⟨fun _ => fin2, fun _ => rd_takeF (c := 59) hne (by decide) ⟨fun _ => fin2, fun w => (by cases w)⟩⟩
