/-! rules on both sides -/
theorem pTx_f {L : Nat} {bt : Nat → Nat} {f : Nat} (hf : 10 * (L + 1) + 9 < f) : ∀ g p T x, pTx L bt f g p T = .inl x → p ≤ L → okF4 L x ∨ x = (9, 0) := by
  intro g
  induction g with
  | zero => intro p T x h _; rw [pTx] at h; cases h; exact Or.inr rfl
  | succ g ih =>
    intro p T x h hp
    rw [pTx] at h
    split at h
    · split at h
      · split at h
        · next e1 e => cases h; exact Or.inl (pCl_l hf (by omega) e)
        · next p1 cl e =>
          obtain ⟨r1, r2, r3, r4, r5⟩ := pCl_r (by omega) e
          exact ih _ _ _ h r2
      · cases h; exact Or.inl ⟨Or.inl rfl, hp⟩
    · cases h
theorem pText_f {L : Nat} {bt : Nat → Nat} {x : Nat × Nat} (hL : L ≤ 160) (h : pText L bt = .inl x) : ¬ fvI x = 0 := by
  have hfu : 10 * (L + 1) + 9 < fu L := by rw [fu]; omega
  have k : okF4 L x ∨ x = (9, 0) := by
    rw [pText] at h
    split at h
    · next e1 e => cases h; exact Or.inl (pCl_l hfu (by omega) e)
    · next p1 cl e =>
      obtain ⟨r1, r2, r3, r4, r5⟩ := pCl_r (by omega) e
      exact pTx_f hfu _ _ _ _ h r2
  rcases k with k | k
  · exact fv_ne4 k hL
  · subst k; decide
theorem ru_same {X : StX} {M : StM} {B : BkT} {x1 x2 x3 : Int32} (hT : RTp X M) (hR : RRu B X M) : (pSpan x1 x2 9999 = true ∧ mIn x3 1 160 = true ∧ ¬ 20 ≤ nI (nTx X) ∧ x3 ≤ xs_Tape_length X) ↔ ruOk M B.length x1 x2 x3 := by
  have e1 : nTx X = B.length := hR.1.1
  have e2 : B.length ≤ 20 := hR.1.2.2
  have e3 : (¬ (20 : Int32) ≤ nI (nTx X)) ↔ ¬ B.length = 20 := by
    rw [e1]
    constructor
    · intro h z
      rw [z] at h
      exact h (by decide)
    · intro h z
      have z1 := Int32.le_iff_toInt_le.mp z
      rw [nI_toInt (by omega), show (20 : Int32).toInt = 20 by decide] at z1
      omega
  have e4 : (x3 ≤ xs_Tape_length X) ↔ ¬ s_taped M < x3 := by
    rw [hT.1.1]
    exact Int32.not_lt.symm
  have e5 : pSpan x1 x2 9999 = true ↔ mWeek x1 = true ∧ mIn x2 x1 9999 = true := by
    simp only [pSpan, mWeek, mIn, decide_eq_true_eq]
    constructor
    · intro h
      exact ⟨⟨h.1, Int32.le_trans h.2.1 h.2.2⟩, h.2⟩
    · intro h
      exact ⟨h.1.1, h.2⟩
  unfold ruOk
  rw [e3, e4, e5]
  constructor
  · intro h; exact ⟨h.1.1, h.1.2, h.2.1, h.2.2.2, h.2.2.1⟩
  · intro h; exact ⟨⟨h.1, h.2.1⟩, h.2.2.1, h.2.2.2.2, h.2.2.2.1⟩
set_option maxRecDepth 20000 in
set_option maxHeartbeats 4000000 in
theorem st_rules {E : EvT} {q q2 : Nat → Nat} {mi : Nat} {X : StX} {M : StM} {x1 x2 x3 : Int32} (hE : EOk E q) (hQ : EOq E (q 15) mi) (hG : EOr E) (h : OK X M) : Cn E iX_City_rules 1000 7 269 [.ref (q 11), .int x1, .int x2, .int x3] (wX E q X) (qWx E q (fun r X1 => C_rules E q2 1000 x1 x2 x3 M (fun r2 M1 => r2 = r ∧ OK X1 M1))) := by
  have h0 := h
  obtain ⟨B, hB, hP, hD, hM, hT, hW, hA, hR, hF, hU, hS, hc, hr⟩ := h
  have hok := ru_same (x1 := x1) (x2 := x2) (x3 := x3) hT hR
  refine cx_rules (d := 974) hQ hG (fun no => ?_) (fun ok => ?_)
  · exact ru_rules (d := 992) (i := B.length) hR.1.2.1 hR.1.2.2 (fun _ => ⟨rfl, h0⟩) (fun k => absurd (hok.mpr k) no)
  · obtain ⟨L, rfl, l1, l2⟩ := ru_len ok.2.1
    have ok2 := hok.mp ok
    have hlt : B.length < 20 := Nat.lt_of_le_of_ne hR.1.2.2 ok2.2.2.2.2
    have hn : nTx X = B.length := hR.1.1
    obtain ⟨bt, hbt⟩ := tp_bytes (a_tape M)
    have htp : xa_Tape_bytes X = a_tape M := hT.1.2
    refine rc_read (d := 974) hE ⟨l1, l2⟩ (fun p _ => by show xa_Tape_bytes X p &&& 255 = _ ∧ _; rw [htp]; exact hbt p) ?_ ?_
    · intro T eT le va ta ce cd hTx
      have hOK := pText_ok eT l2
      refine ⟨fun z => absurd rfl z, fun _ => ⟨T.length, offT T T.length, rfl, rfl, hOK.1, hOK.2.1, ⟨show 280 < 1000 by decide, show ¬ 280 = 13 by decide⟩, show nTx X < 20 by omega, show nTx X ≤ capX X by rw [hn]; exact hR.2.2.1, hc, ?_⟩⟩
      intro g1 g2 g3 g4 g5 cap2 m1 m2 z1 z2
      have z1 : nTx X + 1 ≤ cap2 := z1
      refine ru_rules (d := 992) (i := B.length) hR.1.2.1 hR.1.2.2 (fun no => absurd ok2 no) (fun _ => ?_)
      refine ru_read (d := 992) ⟨l1, l2⟩ (fun p _ => hbt p) hR.1.2.1 hlt ?_ ?_
      · intro T2 N eT2 hN
        have e2 : T2 = T := by rw [eT] at eT2; cases eT2; rfl
        subst e2
        refine ⟨?_, B ++ [T2], ?_⟩
        · show nI B.length = nI (nTx X)
          rw [hn]
        · have hRu : RRu (B ++ [T2]) (xDy (xA (xA (xRd (xCl (xI (xR (xI X 181 0) 280) 121 (nI L)) le va ta ce T2.length) (nI L) 0 (nI (offT T2 T2.length)) cd) 101 (upd (X.2.1 101) (nTx X) x1)) 102 (upd (X.2.1 102) (nTx X) x2)) (X.2.2.2.2.1 + 1, cap2, txs X ++ [(T2.length, g1, g2, g3, g4, offT T2 T2.length, g5)])) N := by
            refine RRu.add hR hlt hOK hN ?_ ?_ ?_ ?_ ?_ ?_
            · show (txs X ++ [(T2.length, g1, g2, g3, g4, offT T2 T2.length, g5)]).length = B.length + 1
              rw [List.length_append, show (txs X).length = B.length from hn]
              rfl
            · show upd (X.2.1 101) (nTx X) x1 = upd (X.2.1 101) B.length x1
              rw [hn]
            · show upd (X.2.1 102) (nTx X) x2 = upd (X.2.1 102) B.length x2
              rw [hn]
            · show B.length + 1 ≤ cap2
              omega
            · intro i hi
              show (txs X ++ [(T2.length, g1, g2, g3, g4, offT T2 T2.length, g5)]).getD i tx0 = (txs X).getD i tx0
              rw [List.getD_eq_getElem?_getD, List.getD_eq_getElem?_getD, List.getElem?_append_left (by rw [show (txs X).length = B.length from hn]; exact hi)]
            · show TxX T2 ((txs X ++ [(T2.length, g1, g2, g3, g4, offT T2 T2.length, g5)]).getD B.length tx0)
              rw [List.getD_eq_getElem?_getD, List.getElem?_append_right (by rw [show (txs X).length = B.length from hn]; exact Nat.le_refl _), show (txs X).length = B.length from hn, Nat.sub_self]
              exact hTx.txx (fun c hcl => m1 c hcl) (fun k hk => m2 k hk)
          have hTp : xa_Tape_bytes X = a_tape N := by rw [show a_tape N = a_tape M from hN.2.1 27 (by omega)]; exact htp
          exact ⟨ru_to hN.1 hN.2.1 (RB _) hB, ru_to hN.1 hN.2.1 (RPl _) hP, ru_to hN.1 hN.2.1 (RDg _) hD, ru_to hN.1 hN.2.1 (RMe _) hM, ⟨⟨show (0 : Int32) = s_taped N from hN.2.2.1.symm, hTp⟩, by rw [hN.2.2.1]; decide, by rw [hN.2.2.1]; decide⟩, ru_to hN.1 hN.2.1 (RWa _) hW, ru_to hN.1 hN.2.1 (RAs _) hA, hRu, ru_to hN.1 hN.2.1 (RFi _) hF, ru_to hN.1 hN.2.1 (RTh _) hU, ru_to hN.1 hN.2.1 (RSi _) hS, z2, show 280 < 1000 by decide, show ¬ 280 = 13 by decide⟩
      · intro x ex
        rw [eT] at ex; cases ex
    · intro x ex Y hY
      refine ⟨fun _ => ?_, fun z => absurd z (pText_f l2 ex)⟩
      obtain ⟨le, va, ta, ce, n, a, st, cd, rfl, -, -⟩ := hY
      refine ru_rules (d := 992) (i := B.length) hR.1.2.1 hR.1.2.2 (fun no => absurd ok2 no) (fun _ => ?_)
      refine ru_read (d := 992) ⟨l1, l2⟩ (fun p _ => hbt p) hR.1.2.1 hlt ?_ ?_
      · intro T2 N eT2 hN
        rw [ex] at eT2; cases eT2
      · intro x2' ex2 N hN
        have e2 : x2' = x := by rw [ex] at ex2; cases ex2; rfl
        subst e2
        obtain ⟨k1, k2, k3⟩ := hN.keep
        have kk1 : ∀ j, ¬ (28 ≤ j ∧ j ≤ 36) → ¬ j = 44 → (sI N 28 0).1 j = M.1 j := fun j h _ => k1 j h
        have kk2 : ∀ j, ¬ (37 ≤ j ∧ j ≤ 53) → (sI N 28 0).2 j = M.2 j := fun j h => k2 j (fun z => h ⟨z.1, by omega⟩)
        have hRu : RRu B X (sI N 28 0) := RRu.fault hR hN
        have hTp : xa_Tape_bytes X = a_tape (sI N 28 0) := by rw [show a_tape (sI N 28 0) = a_tape M from kk2 27 (by omega)]; exact htp
        refine ⟨rfl, B, ru_to kk1 kk2 (RB _) hB, ru_to kk1 kk2 (RPl _) hP, ru_to kk1 kk2 (RDg _) hD, ru_to kk1 kk2 (RMe _) hM, ⟨⟨show (0 : Int32) = s_taped (sI N 28 0) from k3.symm, hTp⟩, show (0 : Int32) ≤ 0 by decide, show (0 : Int32) ≤ 400 by decide⟩, ru_to kk1 kk2 (RWa _) hW, ru_to kk1 kk2 (RAs _) hA, hRu, ru_to kk1 kk2 (RFi _) hF, ru_to kk1 kk2 (RTh _) hU, ru_to kk1 kk2 (RSi _) hS, hc, show 280 < 1000 by decide, show ¬ 280 = 13 by decide⟩
