/-! the reference's rules, whole -/
theorem nI_sur (x : Int32) : ∃ n, nI n = x := ⟨x.toUInt32.toNat, by show Int32.ofNat _ = x; exact (show Int32.ofUInt32 (UInt32.ofNat x.toUInt32.toNat) = Int32.ofUInt32 x.toUInt32 by rw [UInt32.ofNat_toNat])⟩
def RuN (S : StM) (L : Nat) (x1 x2 : Int32) (i : Nat) (T : List Cl) (N : StM) : Prop := (∀ j, ¬ (28 ≤ j ∧ j ≤ 36) → ¬ j = 44 → N.1 j = S.1 j) ∧ (∀ j, ¬ (37 ≤ j ∧ j ≤ 53) → N.2 j = S.2 j) ∧ s_taped N = 0 ∧ s_ruleMany0 N = nI (i + 1) ∧ a_ruleFrom N = upd (a_ruleFrom S) i x1 ∧ a_ruleTo N = upd (a_ruleTo S) i x2 ∧ (∀ z, ¬ z = i → a_clauseMany N z = a_clauseMany S z) ∧ (∀ z, z < 180 * i → a_codes N z = a_codes S z) ∧ (∀ z, z < 10 * i → a_letterOf N z = a_letterOf S z ∧ a_nOf N z = a_nOf S z ∧ a_jOf N z = a_jOf S z ∧ a_codeFrom N z = a_codeFrom S z ∧ a_codeTo N z = a_codeTo S z) ∧ TxM T N i
theorem ru_start (S : StM) (L : Nat) : TSt (sI S 30 (nI L)) L 0 [] (sI (sI (sI (sI S 29 0) 30 (nI L)) 34 0) 36 0) := by
  obtain ⟨o, ho⟩ := nI_sur (s_open S)
  obtain ⟨w, hw⟩ := nI_sur (s_waiting S)
  refine ⟨[], a_saidLetter S, a_saidFrom S, a_saidTo S, a_saidN S, a_saidJ S, ⟨s_number0 S, o, w, a_said S, a_waits S, ?_, (fun k hk => absurd hk (Nat.not_lt_zero _)), Nat.zero_le _, Nat.zero_le _⟩, (fun c hc => absurd hc (Nat.not_lt_zero _)), rfl, (fun c hc => absurd hc (Nat.not_lt_zero _))⟩
  refine Prod.ext ?_ ?_
  · funext j
    simp only [mRd, mCl, sI, sA, va_up, ho, hw]
    by_cases e1 : j = 29
    · simp [e1]; rfl
    · by_cases e2 : j = 30
      · simp [e2]
      · by_cases e3 : j = 34
        · simp [e3]; rfl
        · by_cases e4 : j = 36
          · simp [e4]; rfl
          · by_cases e5 : j = 32
            · simp [e5]
            · by_cases e6 : j = 33
              · simp [e6]
              · by_cases e7 : j = 35
                · simp [e7]
                · simp [e1, e2, e3, e4, e5, e6, e7]
  · funext j
    simp only [mRd, mCl, sI, sA, va_up]
    by_cases e1 : j = 37
    · simp [e1]
    · by_cases e2 : j = 38
      · simp [e2]
      · by_cases e3 : j = 39
        · simp [e3]
        · by_cases e4 : j = 40
          · simp [e4]
          · by_cases e5 : j = 41
            · simp [e5]
            · by_cases e6 : j = 42
              · simp [e6]
              · by_cases e7 : j = 43
                · simp [e7]
                · simp [e1, e2, e3, e4, e5, e6, e7]
theorem ru_read {E : EvT} {q : Nat → Nat} {d : Nat} {S : StM} {L : Nat} {bt : Nat → Nat} (hL : 1 ≤ L ∧ L ≤ 160) (hbt : ∀ p, p < L → a_tape S p &&& 255 = nI (bt p) ∧ bt p < 256) {i : Nat} (hi : s_ruleMany0 S = nI i) (i20 : i < 20) {x1 x2 : Int32} {P : Int32 → StM → Prop} (h1 : ∀ T N', pText L bt = .inr T → RuN S L x1 x2 i T N' → P (nI i) N') (h2 : ∀ x, pText L bt = .inl x → ∀ N', FLt (sI S 30 (nI L)) x N' → P (fvI x) (sI N' 28 0)) : C_readsClause E q (d + 7) (sI (sI (sI (sI S 29 0) 30 (nI L)) 34 0) 36 0) (fun r6 S7 => T_rules_74 E q (d + 8) P S7 x1 x2 (b2i r6)) := by
  have hb : MB (sI S 30 (nI L)) L bt := ⟨rfl, hL.2, hbt⟩
  rw [pText] at h1 h2
  refine ts_clause hb (ru_start S L) (Nat.zero_le _) (fun p' cl N1 e l => ?_) (fun x e N1 hN => ?_)
  · have e : pCl L bt (fu L) 0 0 = .inr (p', cl) := e
    rw [e] at h1 h2
    obtain ⟨r1, r2, r3, r4, r5⟩ := pCl_r (Nat.zero_le _) e
    refine rt_loop hb (L + 1) p' [cl] N1 l (by show 1 ≤ 10; omega) r2 (by omega) (fun T N2 e2 l2 hT => ?_) (fun x e2 N2 hN => h2 x e2 N2 hN)
    obtain ⟨C, le, fr, to, nn, jj, ⟨nu, o, w, sd, wt, rfl, hs, hCL, -⟩, k2, k3⟩ := l2
    show (0 ≤ s_ruleMany0 S ∧ s_ruleMany0 S < 20) ∧ T_rules_167 E q (d + 8) P (sA (sA (sA (sI (mRd (mCl (sI S 30 (nI L)) le fr to nn jj T.length) L nu o C.length w sd wt) 28 0) 46 (upd (a_ruleFrom S) (ix (s_ruleMany0 S)) x1)) 47 (upd (a_ruleTo S) (ix (s_ruleMany0 S)) x2)) 48 (upd (a_clauseMany S) (ix (s_ruleMany0 S)) (nI T.length))) 0
    rw [hi, ixn (by omega)]
    refine ⟨bnd (n := 20) i20 (by omega) rfl, ?_⟩
    generalize hR : sA (sA (sA (sI (mRd (mCl (sI S 30 (nI L)) le fr to nn jj T.length) L nu o C.length w sd wt) 28 0) 46 (upd (a_ruleFrom S) i x1)) 47 (upd (a_ruleTo S) i x2)) 48 (upd (a_clauseMany S) i (nI T.length)) = R
    have q1 : s_ruleMany0 R = nI i := by rw [← hR]; exact hi
    have q2 : s_codeMany R = nI C.length := by rw [← hR]; rfl
    have q3 : s_saidClauses R = nI T.length := by rw [← hR]; rfl
    have q4 : a_said R = sd := by rw [← hR]; rfl
    have q5 : a_codes R = a_codes S := by rw [← hR]; rfl
    have q6 : a_saidLetter R = le ∧ a_saidN R = nn ∧ a_saidJ R = jj ∧ a_saidFrom R = fr ∧ a_saidTo R = to := by rw [← hR]; exact ⟨rfl, rfl, rfl, rfl, rfl⟩
    have q7 : a_letterOf R = a_letterOf S ∧ a_nOf R = a_nOf S ∧ a_jOf R = a_jOf S ∧ a_codeFrom R = a_codeFrom S ∧ a_codeTo R = a_codeTo S := by rw [← hR]; exact ⟨rfl, rfl, rfl, rfl, rfl⟩
    have q8 : s_taped R = 0 ∧ a_ruleFrom R = upd (a_ruleFrom S) i x1 ∧ a_ruleTo R = upd (a_ruleTo S) i x2 ∧ a_clauseMany R = upd (a_clauseMany S) i (nI T.length) := by rw [← hR]; exact ⟨rfl, rfl, rfl, rfl⟩
    have q9 : ∀ j, ¬ (28 ≤ j ∧ j ≤ 36) → ¬ j = 44 → R.1 j = S.1 j := by
      intro j hj h44
      rw [← hR]
      have n28 : ¬ j = 28 := by omega
      have n29 : ¬ j = 29 := by omega
      have n30 : ¬ j = 30 := by omega
      have n32 : ¬ j = 32 := by omega
      have n33 : ¬ j = 33 := by omega
      have n34 : ¬ j = 34 := by omega
      have n35 : ¬ j = 35 := by omega
      have n36 : ¬ j = 36 := by omega
      simp [mRd, mCl, sI, sA, va_up, n28, n29, n30, n32, n33, n34, n35, n36]
    have q10 : ∀ j, ¬ (37 ≤ j ∧ j ≤ 53) → R.2 j = S.2 j := by
      intro j hj
      rw [← hR]
      have n37 : ¬ j = 37 := by omega
      have n38 : ¬ j = 38 := by omega
      have n39 : ¬ j = 39 := by omega
      have n40 : ¬ j = 40 := by omega
      have n41 : ¬ j = 41 := by omega
      have n42 : ¬ j = 42 := by omega
      have n43 : ¬ j = 43 := by omega
      have n46 : ¬ j = 46 := by omega
      have n47 : ¬ j = 47 := by omega
      have n48 : ¬ j = 48 := by omega
      simp [mRd, mCl, sI, sA, va_up, n37, n38, n39, n40, n41, n42, n43, n46, n47, n48]
    clear hR
    have start := cp_167 (E := E) (q := q) (d := d) (S := R) (P := P) (m := C.length) q1 q2 i20 (by omega) ?_ C.length 0 (a_codes R) (by omega) (fun j hj => absurd hj (Nat.not_lt_zero _)) (fun z _ => rfl)
    · have es : sA R 45 (a_codes R) = R := by
        refine Prod.ext rfl ?_
        funext j
        simp only [sA, va_up]
        by_cases e : j = 45
        · simp [e]
        · simp [e]
      rw [es] at start
      exact start
    · intro co c1 c2
      have fin := cp_208 (E := E) (q := q) (d := d) (S := sA R 45 co) (P := P) (m := T.length) q1 q3 i20 hT ?_ T.length 0 (a_letterOf R) (a_nOf R) (a_jOf R) (a_codeFrom R) (a_codeTo R) (by omega) ⟨fun j hj => absurd hj (Nat.not_lt_zero _), fun z _ => rfl⟩ ⟨fun j hj => absurd hj (Nat.not_lt_zero _), fun z _ => rfl⟩ ⟨fun j hj => absurd hj (Nat.not_lt_zero _), fun z _ => rfl⟩ ⟨fun j hj => absurd hj (Nat.not_lt_zero _), fun z _ => rfl⟩ ⟨fun j hj => absurd hj (Nat.not_lt_zero _), fun z _ => rfl⟩
      · have es : mBk (sA R 45 co) (a_letterOf R) (a_nOf R) (a_jOf R) (a_codeFrom R) (a_codeTo R) = sA R 45 co := by
          refine Prod.ext rfl ?_
          funext j
          simp only [mBk, sA, va_up]
          by_cases e1 : j = 49
          · simp [e1]
          · by_cases e2 : j = 50
            · simp [e2]
            · by_cases e3 : j = 51
              · simp [e3]
              · by_cases e4 : j = 52
                · simp [e4]
                · by_cases e5 : j = 53
                  · simp [e5]
                  · simp [e1, e2, e3, e4, e5]
        rw [es] at fin
        exact fin
      · intro lo no jo cf ct f1 f2 f3 f4 f5
        refine h1 T _ e2 ⟨fun j hj h44 => ?_, fun j hj => ?_, q8.1, rfl, q8.2.1, q8.2.2.1, fun z hz => ?_, fun z hz => ?_, fun z hz => ?_, ?_, fun c hc => ?_⟩
        · have := q9 j hj h44
          simp [mBk, sI, sA, va_up, h44, this]
        · have := q10 j hj
          have n45 : ¬ j = 45 := by omega
          have n49 : ¬ j = 49 := by omega
          have n50 : ¬ j = 50 := by omega
          have n51 : ¬ j = 51 := by omega
          have n52 : ¬ j = 52 := by omega
          have n53 : ¬ j = 53 := by omega
          simp [mBk, sI, sA, va_up, n45, n49, n50, n51, n52, n53, this]
        · show a_clauseMany R z = _
          rw [q8.2.2.2, upd_ne hz]
        · show co z = _
          rw [c2 z hz, q5]
        · refine ⟨(f1.2 z hz).trans (congrFun q7.1 z), (f2.2 z hz).trans (congrFun q7.2.1 z), (f3.2 z hz).trans (congrFun q7.2.2.1 z), (f4.2 z hz).trans (congrFun q7.2.2.2.1 z), (f5.2 z hz).trans (congrFun q7.2.2.2.2 z)⟩
        · show a_clauseMany R i = _
          rw [q8.2.2.2, upd_eq]
        · obtain ⟨t1, t2, t3, t4, t5⟩ := k2 c hc
          refine ⟨(f1.1 c hc).trans ((congrFun q6.1 c).trans t1), (f2.1 c hc).trans ((congrFun q6.2.1 c).trans t2), (f3.1 c hc).trans ((congrFun q6.2.2.1 c).trans t3), (f4.1 c hc).trans ?_, (f5.1 c hc).trans ?_, hlM_of _ _ (fun j hj => ?_)⟩
          · show nI (180 * i) + a_saidFrom R c = _
            rw [q6.2.2.2.1, t4, nI_add]
          · show nI (180 * i) + a_saidTo R c = _
            rw [q6.2.2.2.2, t5, nI_add]
          · show co (180 * i + offT T c + j) = _
            have k4 : offT T (c + 1) = offT T c + (clT T c).2.2.2.length := rfl
            have k5 := offT_le T (show c + 1 ≤ T.length by omega)
            have k6 := k3.1
            rw [show 180 * i + offT T c + j = 180 * i + (offT T c + j) by omega, c1 _ (by omega), q4, hs _ (by omega), if_neg (by show ¬ false = true; decide), k3.2 c hc j hj]
  · have e : pCl L bt (fu L) 0 0 = .inl x := e
    rw [e] at h2
    exact rt_bad hN (h2 x rfl N1 hN)
