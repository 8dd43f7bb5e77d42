/-! small facts: Int32 and Nat, loops -/
theorem ixn {n : Nat} (h : n < 2 ^ 31) : ix (nI n) = n := nI_clamp h
theorem nix {x : Int32} (h : 0 ≤ x) : nI (ix x) = x := by
  obtain ⟨j, hj, rfl⟩ := nI_of (Int32.not_lt.mpr h)
  rw [ixn hj]
theorem ixI {x : Int32} (h : 0 ≤ x) : ((ix x : Nat) : Int) = x.toInt := by
  obtain ⟨j, hj, rfl⟩ := nI_of (Int32.not_lt.mpr h)
  rw [ixn hj, nI_toInt hj]
theorem ix_lt {x : Int32} {n : Nat} (h : 0 ≤ x) (h2 : x < nI n) (hn : n < 2 ^ 31) : ix x < n := by
  have h3 := Int32.lt_iff_toInt_lt.mp h2
  rw [nI_toInt hn, ← ixI h] at h3
  omega
theorem ix_le {x : Int32} {n : Nat} (h : 0 ≤ x) (h2 : x ≤ nI n) (hn : n < 2 ^ 31) : ix x ≤ n := by
  have h3 := Int32.le_iff_toInt_le.mp h2
  rw [nI_toInt hn, ← ixI h] at h3
  omega
theorem ix_31 (x : Int32) : ix x < 2 ^ 31 := by
  by_cases h : 0 ≤ x
  · have := ixI h
    have h2 : x.toInt < 2147483648 := by
      have := x.toInt_lt
      simpa using this
    omega
  · have h1 : x < 0 := Int32.not_le.mp h
    have : x.toInt < 0 := Int32.lt_iff_toInt_lt.mp h1
    have h2 : ix x = 0 := by
      show x.toInt.toNat = 0
      omega
    omega
theorem lt_ix {x y : Int32} (h : 0 ≤ x) (h2 : x < y) : ix x < ix y := by
  have h3 := Int32.lt_iff_toInt_lt.mp h2
  have h4 : (0 : Int32) ≤ y := by
    rw [Int32.le_iff_toInt_le] at *
    show (0 : Int) ≤ _
    have : (0 : Int) ≤ x.toInt := h
    omega
  have a := ixI h
  have b := ixI h4
  omega
theorem le_ix {x y : Int32} (h : 0 ≤ x) (h2 : x ≤ y) : ix x ≤ ix y := by
  have h3 := Int32.le_iff_toInt_le.mp h2
  have h4 : (0 : Int32) ≤ y := by
    rw [Int32.le_iff_toInt_le] at *
    show (0 : Int) ≤ _
    have : (0 : Int) ≤ x.toInt := h
    omega
  have a := ixI h
  have b := ixI h4
  omega
theorem ix_inj {x y : Int32} (h : 0 ≤ x) (h2 : 0 ≤ y) (e : ix x = ix y) : x = y := by rw [← nix h, ← nix h2, e]
/-- a count x of at most n things -/
theorem cnt {x : Int32} {m : Int32} {n : Nat} (hm : m = nI n) (hn : n < 2 ^ 31) (h : 0 ≤ x) (h2 : x ≤ m) : x = nI (ix x) ∧ ix x ≤ n := ⟨(nix h).symm, ix_le h (by rw [← hm]; exact h2) hn⟩
/-- a loop that goes up to W, with a state -/
theorem up_s {σ : Type} {T : Nat → σ → Prop} {J : Nat → σ → Prop} {W : Nat} (h0 : ∀ s, J W s → T W s) (hs : ∀ i s, i < W → J i s → (∀ s', J (i + 1) s' → T (i + 1) s') → T i s) : ∀ i s, i ≤ W → J i s → T i s := by
  have key : ∀ n i s, i + n = W → J i s → T i s := by
    intro n
    induction n with
    | zero =>
      intro i s hi hj
      have : i = W := by omega
      subst this
      exact h0 s hj
    | succ n ih =>
      intro i s hi hj
      exact hs i s (by omega) hj (fun s' hj' => ih (i + 1) s' (by omega) hj')
  intro i s hi
  exact key (W - i) i s (by omega)
theorem up_l {T : Nat → Prop} {J : Nat → Prop} {W : Nat} (h0 : J W → T W) (hs : ∀ i, i < W → J i → (J (i + 1) → T (i + 1)) → T i) : ∀ i, i ≤ W → J i → T i := fun i hi hj => up_s (σ := Unit) (T := fun i _ => T i) (J := fun i _ => J i) (fun _ h => h0 h) (fun i _ hi hj k => hs i hi hj (k ())) i () hi hj
/-- a loop that goes down to 0 (the counter stands at i - 1), with a state -/
theorem dn_s {σ : Type} {T : Nat → σ → Prop} {J : Nat → σ → Prop} (h0 : ∀ s, J 0 s → T 0 s) (hs : ∀ i s, J (i + 1) s → (∀ s', J i s' → T i s') → T (i + 1) s) : ∀ i s, J i s → T i s := by
  intro i
  induction i with
  | zero => exact h0
  | succ i ih => exact fun s hj => hs i s hj ih
theorem nI_s (i : Nat) : nI i + 1 = nI (i + 1) := nI_1 i
theorem nI_p (i : Nat) : nI (i + 1) + (-1) = nI i := pk_m1 i
theorem nI_p' (i : Nat) : nI (i + 1) - 1 = nI i := nI_pred i
theorem bnd {i n : Nat} (h : i < n) (hn : n < 2 ^ 31) {m : Int32} (hm : m = nI n) : 0 ≤ nI i ∧ nI i < m := by
  subst hm
  exact ⟨nI_pos' (by omega), nI_lt h hn⟩
theorem nle_nI {i n : Nat} (h : i < n) (hn : n < 2 ^ 31) {m : Int32} (hm : m = nI n) : ¬ m ≤ nI i := by
  subst hm
  exact nI_ge h hn
theorem le_nI {i n : Nat} (h : n ≤ i) (hn : i < 2 ^ 31) {m : Int32} (hm : m = nI n) : m ≤ nI i := by
  subst hm
  exact nI_le h hn
theorem up_ne {α : Type} {f : Nat → α} {k j : Nat} {x : α} (h : j ≠ k) : va_up f k x j = f j := if_neg h
theorem up_eq {α : Type} {f : Nat → α} {k : Nat} {x : α} : va_up f k x k = x := if_pos rfl
theorem upd_ne {f : Nat → Int32} {k j : Nat} {x : Int32} (h : j ≠ k) : upd f k x j = f j := pk_un h
theorem upd_eq {f : Nat → Int32} {k : Nat} {x : Int32} : upd f k x k = x := pk_us
theorem sA_self (S : StM) (i : Nat) : sA S i (S.2 i) = S := by
  obtain ⟨a, b⟩ := S
  have : va_up b i (b i) = b := by
    funext j
    simp only [va_up]
    split
    · next hj => rw [hj]
    · rfl
  simp only [sA, this]
theorem sI_self (S : StM) (i : Nat) : sI S i (S.1 i) = S := by
  obtain ⟨a, b⟩ := S
  have : va_up a i (a i) = a := by
    funext j
    simp only [va_up]
    split
    · next hj => rw [hj]
    · rfl
  simp only [sI, this]
/-- begins -/
def mBegins (S : StM) (w h : Int32) : StM := sA (sA (sI (sI S 0 w) 1 h) 5 (fillF 100 8 (a_heightOf S))) 6 (fillF 100 (-1) (a_placeAt S))
theorem ct_begins {E : EvT} {q : Nat → Nat} {d : Nat} {S : StM} {x1 x2 : Int32} : C_begins E q d x1 x2 S (fun S1 => S1 = mBegins S x1 x2) := by
  refine en_begins ?_
  have key := up_s (W := 100) (T := fun i T => T_begins_12 E q d (fun S1 => S1 = mBegins S x1 x2) T (nI i))
    (J := fun i T => T = sA (sA (sI (sI S 0 x1) 1 x2) 5 (fillF i 8 (a_heightOf S))) 6 (fillF i (-1) (a_placeAt S))) ?_ ?_ 0 (sI (sI S 0 x1) 1 x2) (by omega) ?_
  · exact key
  · intro T hT
    exact sg_begins_12 ⟨fun _ => hT, fun c => absurd (by decide) c⟩
  · intro i T hi hT k
    refine sg_begins_12 ⟨fun c => absurd c (nle_nI hi (by omega) rfl), fun _ => ⟨bnd hi (by omega) rfl, ?_⟩⟩
    rw [nI_s]
    apply k
    rw [ixn (by omega)]
    subst hT
    show sA (sA (sA (sA _ 5 _) 6 _) 5 (upd (fillF i 8 _) i 8)) 6 (upd (fillF i (-1) _) i (-1)) = _
    rw [fill_s, fill_s]
    simp only [sA, sI]
    congr 1
    funext k
    simp only [va_up]
    split
    · rfl
    · split
      · rfl
      · rfl
  · rw [fill_0, fill_0]
    show _ = sA (sA (sI (sI S 0 x1) 1 x2) 5 ((sI (sI S 0 x1) 1 x2).2 5)) 6 ((sA (sI (sI S 0 x1) 1 x2) 5 ((sI (sI S 0 x1) 1 x2).2 5)).2 6)
    rw [sA_self, sA_self]
