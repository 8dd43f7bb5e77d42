/-! the reference's text: it is copied into the book -/
theorem sA_two (S : StM) (j : Nat) (x y : Nat → Int32) : sA (sA S j x) j y = sA S j y := by
  refine Prod.ext rfl ?_
  funext i
  simp only [sA, va_up]
  by_cases e : i = j
  · simp [e]
  · simp [e]
theorem hlM_of {f : Nat → Int32} {b : Nat} : ∀ (l : List Ins) (o : Nat), (∀ j, j < l.length → f (b + o + j) = encM (o + j) (l.getD j i0)) → hlM f b o l := by
  intro l
  induction l with
  | nil => intro o _; trivial
  | cons i l ih =>
    intro o h
    refine ⟨h 0 (by rw [List.length_cons]; omega), ih (o + 1) (fun j hj => ?_)⟩
    have := h (j + 1) (by rw [List.length_cons]; omega)
    rw [show b + (o + 1) + j = b + o + (j + 1) by omega, show o + 1 + j = o + (j + 1) by omega]
    exact this
theorem cp_167 {E : EvT} {q : Nat → Nat} {d : Nat} {S : StM} {P : Int32 → StM → Prop} {i m : Nat} (hi : s_ruleMany0 S = nI i) (hm : s_codeMany S = nI m) (i20 : i < 20) (m180 : m ≤ 180) (hP : ∀ co, (∀ j, j < m → co (180 * i + j) = a_said S j) → (∀ z, z < 180 * i → co z = a_codes S z) → T_rules_208 E q (d + 8) P (sA S 45 co) 0) : ∀ n k co, k + n = m → (∀ j, j < k → co (180 * i + j) = a_said S j) → (∀ z, z < 180 * i → co z = a_codes S z) → T_rules_167 E q (d + 8) P (sA S 45 co) (nI k) := by
  intro n
  induction n with
  | zero =>
    intro k co hk h1 h2
    have : k = m := by omega
    subst this
    refine sg_rules_167 ⟨fun _ => hP co h1 h2, fun z => absurd ?_ z⟩
    show s_codeMany S ≤ nI k
    rw [hm]
    exact Int32.le_refl _
  | succ n ih =>
    intro k co hk h1 h2
    refine sg_rules_167 ⟨fun z => ?_, fun _ => ⟨bnd (n := 180) (by omega) (by omega) rfl, ?_⟩⟩
    · exfalso
      have z : s_codeMany S ≤ nI k := z
      rw [hm, nI_leI (by omega) (by omega)] at z
      omega
    · show (0 ≤ 180 * s_ruleMany0 S + nI k ∧ 180 * s_ruleMany0 S + nI k < 3600) ∧ T_rules_167 E q (d + 8) P (sA (sA S 45 co) 45 (upd co (ix (180 * s_ruleMany0 S + nI k)) (a_said S (ix (nI k))))) (nI k + 1)
      rw [hi, show (180 : Int32) = nI 180 from rfl, pk_mul, nI_add, ixn (by omega), ixn (by omega), sA_two, nI_s]
      refine ⟨bnd (n := 3600) (by omega) (by omega) rfl, ih (k + 1) _ (by omega) (fun j hj => ?_) (fun z hz => ?_)⟩
      · by_cases e : j = k
        · rw [e, upd_eq]
        · rw [upd_ne (by omega)]
          exact h1 j (by omega)
      · rw [upd_ne (by omega)]
        exact h2 z hz
def mBk (N : StM) (lo no jo cf ct : Nat → Int32) : StM := sA (sA (sA (sA (sA N 49 lo) 52 no) 53 jo) 50 cf) 51 ct
theorem mBk_two (N : StM) (lo no jo cf ct a b c d e : Nat → Int32) : sA (sA (sA (sA (sA (mBk N lo no jo cf ct) 49 a) 52 b) 53 c) 50 d) 51 e = mBk N a b c d e := by
  refine Prod.ext rfl ?_
  funext i
  simp only [mBk, sA, va_up]
  by_cases e1 : i = 49
  · simp [e1]
  · by_cases e2 : i = 50
    · simp [e2]
    · by_cases e3 : i = 51
      · simp [e3]
      · by_cases e4 : i = 52
        · simp [e4]
        · by_cases e5 : i = 53
          · simp [e5]
          · simp [e1, e2, e3, e4, e5]
def cpR (i k : Nat) (f g old : Nat → Int32) : Prop := (∀ j, j < k → f (10 * i + j) = g j) ∧ ∀ z, z < 10 * i → f z = old z
theorem cpR.add {i k : Nat} {f g old : Nat → Int32} (h : cpR i k f g old) {v : Int32} (hv : v = g k) : cpR i (k + 1) (upd f (10 * i + k) v) g old := by
  refine ⟨fun j hj => ?_, fun z hz => ?_⟩
  · by_cases e : j = k
    · rw [e, upd_eq, hv]
    · rw [upd_ne (by omega)]
      exact h.1 j (by omega)
  · rw [upd_ne (by omega)]
    exact h.2 z hz
theorem cp_208 {E : EvT} {q : Nat → Nat} {d : Nat} {S : StM} {P : Int32 → StM → Prop} {i m : Nat} (hi : s_ruleMany0 S = nI i) (hm : s_saidClauses S = nI m) (i20 : i < 20) (m10 : m ≤ 10) (hP : ∀ lo no jo cf ct, cpR i m lo (a_saidLetter S) (a_letterOf S) → cpR i m no (a_saidN S) (a_nOf S) → cpR i m jo (a_saidJ S) (a_jOf S) → cpR i m cf (fun c => nI (180 * i) + a_saidFrom S c) (a_codeFrom S) → cpR i m ct (fun c => nI (180 * i) + a_saidTo S c) (a_codeTo S) → P (nI i) (sI (mBk S lo no jo cf ct) 44 (nI (i + 1)))) : ∀ n k lo no jo cf ct, k + n = m → cpR i k lo (a_saidLetter S) (a_letterOf S) → cpR i k no (a_saidN S) (a_nOf S) → cpR i k jo (a_saidJ S) (a_jOf S) → cpR i k cf (fun c => nI (180 * i) + a_saidFrom S c) (a_codeFrom S) → cpR i k ct (fun c => nI (180 * i) + a_saidTo S c) (a_codeTo S) → T_rules_208 E q (d + 8) P (mBk S lo no jo cf ct) (nI k) := by
  intro n
  induction n with
  | zero =>
    intro k lo no jo cf ct hk h1 h2 h3 h4 h5
    have : k = m := by omega
    subst this
    refine sg_rules_208 ⟨fun _ => ?_, fun z => absurd ?_ z⟩
    · show P (s_ruleMany0 S + 1 - 1) (sI (mBk S lo no jo cf ct) 44 (s_ruleMany0 S + 1))
      rw [hi, nI_s, nI_p']
      exact hP lo no jo cf ct h1 h2 h3 h4 h5
    · show s_saidClauses S ≤ nI k
      rw [hm]
      exact Int32.le_refl _
  | succ n ih =>
    intro k lo no jo cf ct hk h1 h2 h3 h4 h5
    refine sg_rules_208 ⟨fun z => ?_, fun _ => ⟨bnd (n := 10) (by omega) (by omega) rfl, ?_⟩⟩
    · exfalso
      have z : s_saidClauses S ≤ nI k := z
      rw [hm, nI_leI (by omega) (by omega)] at z
      omega
    · show (0 ≤ 10 * s_ruleMany0 S + nI k ∧ 10 * s_ruleMany0 S + nI k < 200) ∧ T_rules_208 E q (d + 8) P (sA (sA (sA (sA (sA (mBk S lo no jo cf ct) 49 (upd lo (ix (10 * s_ruleMany0 S + nI k)) (a_saidLetter S (ix (nI k))))) 52 (upd no (ix (10 * s_ruleMany0 S + nI k)) (a_saidN S (ix (nI k))))) 53 (upd jo (ix (10 * s_ruleMany0 S + nI k)) (a_saidJ S (ix (nI k))))) 50 (upd cf (ix (10 * s_ruleMany0 S + nI k)) (180 * s_ruleMany0 S + a_saidFrom S (ix (nI k))))) 51 (upd ct (ix (10 * s_ruleMany0 S + nI k)) (180 * s_ruleMany0 S + a_saidTo S (ix (nI k))))) (nI k + 1)
      rw [mBk_two, hi, show (10 : Int32) = nI 10 from rfl, show (180 : Int32) = nI 180 from rfl, pk_mul, pk_mul, nI_add, ixn (show 10 * i + k < 2 ^ 31 by omega), ixn (show k < 2 ^ 31 by omega), nI_s]
      exact ⟨bnd (n := 200) (by omega) (by omega) rfl, ih (k + 1) _ _ _ _ _ (by omega) (h1.add rfl) (h2.add rfl) (h3.add rfl) (h4.add rfl) (h5.add rfl)⟩
