/-! the hours of the ash: passes over the cuts, both ways -/
/-- an order, with what a cut asks and what it gives -/
def GOK (R : Int32 → Int32 → Bool) (f : Int32 → Int32) (lt : Int32 → Int32 → Prop) : Prop := (∀ x, R x (f x) = true) ∧ (∀ x y z, R x y = true → lt y z → R x z = true) ∧ (∀ x y, ¬ R x y = true → lt y (f x)) ∧ (∀ x y z, lt x y → lt y z → lt x z) ∧ (∀ x, ¬ lt x x)
def stG (R : Int32 → Int32 → Bool) (f : Int32 → Int32) (a b : Nat) (e : Nat → Int32) : Nat → Int32 := if R (e b) (e a) = true then e else upd e a (f (e b))
def psG (R : Int32 → Int32 → Bool) (f : Int32 → Int32) (A B : Nat → Nat) : Nat → (Nat → Int32) → Nat → Int32
  | 0, e => e
  | n + 1, e => stG R f (A n) (B n) (psG R f A B n e)
def itG (R : Int32 → Int32 → Bool) (f : Int32 → Int32) (A B : Nat → Nat) (n : Nat) (e : Nat → Int32) : Nat → Nat → Int32
  | 0 => e
  | p + 1 => psG R f A B n (itG R f A B n e p)
def okG (R : Int32 → Int32 → Bool) (A B : Nat → Nat) (n : Nat) (e : Nat → Int32) : Prop := ∀ i, i < n → R (e (B i)) (e (A i)) = true
def eq8 (e g : Nat → Int32) : Prop := ∀ v, v < 8 → e v = g v
theorem stG_le {R : Int32 → Int32 → Bool} {f : Int32 → Int32} {lt : Int32 → Int32 → Prop} (H : GOK R f lt) (a b : Nat) (e : Nat → Int32) (v : Nat) : e v = stG R f a b e v ∨ lt (e v) (stG R f a b e v) := by
  rw [stG]
  split
  · exact Or.inl rfl
  · next z =>
    by_cases c : v = a
    · subst c; rw [upd_eq]; exact Or.inr (H.2.2.1 _ _ z)
    · rw [upd_ne c]; exact Or.inl rfl
theorem psG_le {R : Int32 → Int32 → Bool} {f : Int32 → Int32} {lt : Int32 → Int32 → Prop} (H : GOK R f lt) {A B : Nat → Nat} (e : Nat → Int32) (v i : Nat) : ∀ m, psG R f A B i e v = psG R f A B (i + m) e v ∨ lt (psG R f A B i e v) (psG R f A B (i + m) e v) := by
  intro m
  induction m with
  | zero => exact Or.inl rfl
  | succ m ih =>
    have st := stG_le H (A (i + m)) (B (i + m)) (psG R f A B (i + m) e) v
    show psG R f A B i e v = stG R f (A (i + m)) (B (i + m)) (psG R f A B (i + m) e) v ∨ lt (psG R f A B i e v) (stG R f (A (i + m)) (B (i + m)) (psG R f A B (i + m) e) v)
    rcases ih with y | y <;> rcases st with z | z
    · exact Or.inl (y.trans z)
    · exact Or.inr (by rw [y]; exact z)
    · exact Or.inr (by rw [← z]; exact y)
    · exact Or.inr (H.2.2.2.1 _ _ _ y z)
theorem psG_ok {R : Int32 → Int32 → Bool} {f : Int32 → Int32} {A B : Nat → Nat} {e : Nat → Int32} : ∀ {i : Nat}, (∀ j, j < i → R (e (B j)) (e (A j)) = true) → psG R f A B i e = e := by
  intro i
  induction i with
  | zero => intro _; rfl
  | succ i ih =>
    intro h
    show stG R f (A i) (B i) (psG R f A B i e) = e
    rw [ih (fun j hj => h j (by omega)), stG, if_pos (h i (by omega))]
theorem itG_le {R : Int32 → Int32 → Bool} {f : Int32 → Int32} {lt : Int32 → Int32 → Prop} (H : GOK R f lt) {A B : Nat → Nat} {n : Nat} (e : Nat → Int32) (v p : Nat) : ∀ m, itG R f A B n e p v = itG R f A B n e (p + m) v ∨ lt (itG R f A B n e p v) (itG R f A B n e (p + m) v) := by
  intro m
  induction m with
  | zero => exact Or.inl rfl
  | succ m ih =>
    have st := psG_le H (A := A) (B := B) (itG R f A B n e (p + m)) v 0 n
    rw [Nat.zero_add] at st
    have st : itG R f A B n e (p + m) v = itG R f A B n e (p + (m + 1)) v ∨ lt (itG R f A B n e (p + m) v) (itG R f A B n e (p + (m + 1)) v) := st
    rcases ih with y | y <;> rcases st with z | z
    · exact Or.inl (y.trans z)
    · exact Or.inr (by rw [y]; exact z)
    · exact Or.inr (by rw [← z]; exact y)
    · exact Or.inr (H.2.2.2.1 _ _ _ y z)
theorem itG_ok {R : Int32 → Int32 → Bool} {f : Int32 → Int32} {A B : Nat → Nat} {n : Nat} {e : Nat → Int32} {k : Nat} (h : okG R A B n (itG R f A B n e k)) : ∀ m, itG R f A B n e (k + m) = itG R f A B n e k := by
  intro m
  induction m with
  | zero => rfl
  | succ m ih =>
    show psG R f A B n (itG R f A B n e (k + m)) = _
    rw [ih]
    exact psG_ok h
theorem stG_c {R : Int32 → Int32 → Bool} {f : Int32 → Int32} {a b : Nat} {e g : Nat → Int32} (ha : a < 8) (hb : b < 8) (h : eq8 e g) : eq8 (stG R f a b e) (stG R f a b g) := by
  intro v hv
  rw [stG, stG, h a ha, h b hb]
  split
  · exact h v hv
  · by_cases c : v = a
    · subst c; rw [upd_eq, upd_eq]
    · rw [upd_ne c, upd_ne c]; exact h v hv
/-- Bellman and Ford, with a rank -/
def rkI (R : Int32 → Int32 → Bool) (A B : Nat → Nat) (n : Nat) (rho : Nat → Nat) (k : Nat) (e : Nat → Int32) : Prop := ∀ i, i < n → rho (A i) < k → R (e (B i)) (e (A i)) = true
theorem rkI.st {R : Int32 → Int32 → Bool} {f : Int32 → Int32} {A B : Nat → Nat} {n : Nat} {rho : Nat → Nat} (hr : ∀ i, i < n → rho (B i) < rho (A i)) {k : Nat} {e : Nat → Int32} (h : rkI R A B n rho k e) {i : Nat} (hi : i < n) : rkI R A B n rho k (stG R f (A i) (B i) e) := by
  intro j hj hk
  rw [stG]
  split
  · exact h j hj hk
  · next z =>
    have nk : ¬ rho (A i) < k := fun y => z (h i hi y)
    have c1 : B j ≠ A i := fun y => by have := hr j hj; rw [y] at this; omega
    have c2 : A j ≠ A i := fun y => by rw [y] at hk; omega
    rw [upd_ne c1, upd_ne c2]
    exact h j hj hk
theorem rkI.ps {R : Int32 → Int32 → Bool} {f : Int32 → Int32} {lt : Int32 → Int32 → Prop} (H : GOK R f lt) {A B : Nat → Nat} {n : Nat} {rho : Nat → Nat} (hr : ∀ i, i < n → rho (B i) < rho (A i)) {k : Nat} {e : Nat → Int32} (h : rkI R A B n rho k e) : rkI R A B n rho (k + 1) (psG R f A B n e) := by
  have key : ∀ i, i ≤ n → rkI R A B n rho k (psG R f A B i e) ∧ ∀ j, j < i → rho (A j) < k + 1 → R (psG R f A B i e (B j)) (psG R f A B i e (A j)) = true := by
    intro i
    induction i with
    | zero => intro _; exact ⟨h, fun j hj => absurd hj (Nat.not_lt_zero j)⟩
    | succ i ih =>
      intro hi
      obtain ⟨h1, h2⟩ := ih (by omega)
      refine ⟨h1.st hr (by omega), fun j hj hk => ?_⟩
      show R (stG R f (A i) (B i) (psG R f A B i e) (B j)) (stG R f (A i) (B i) (psG R f A B i e) (A j)) = true
      have ne : B i ≠ A i := fun y => by have := hr i (by omega); rw [y] at this; omega
      rw [stG]
      split
      · next z =>
        by_cases c : j = i
        · subst c; exact z
        · exact h2 j (by omega) hk
      · next z =>
        by_cases c : j = i
        · subst c
          rw [upd_ne ne, upd_eq]
          exact H.1 _
        · have hrj := hr j (by omega)
          have c1 : B j ≠ A i := by
            intro y
            exact z (h1 i (by omega) (by rw [← y]; omega))
          rw [upd_ne c1]
          have old := h2 j (by omega) hk
          by_cases c2 : A j = A i
          · rw [c2, upd_eq]
            rw [c2] at old
            exact H.2.1 _ _ _ old (H.2.2.1 _ _ z)
          · rw [upd_ne c2]
            exact old
  have := (key n (Nat.le_refl _)).2
  exact fun i hi hk => this i hi hk
theorem okG_of_rk {R : Int32 → Int32 → Bool} {f : Int32 → Int32} {lt : Int32 → Int32 → Prop} (H : GOK R f lt) {A B : Nat → Nat} {n : Nat} {rho : Nat → Nat} (hr : ∀ i, i < n → rho (B i) < rho (A i)) (h8 : ∀ i, i < n → rho (A i) < 8) (e : Nat → Int32) : okG R A B n (itG R f A B n e 7) := by
  have key : ∀ p, rkI R A B n rho (p + 1) (itG R f A B n e p) := by
    intro p
    induction p with
    | zero =>
      intro i hi hk
      have := hr i hi
      omega
    | succ p ih => exact rkI.ps H hr ih
  exact fun i hi => key 7 i hi (h8 i hi)
/-- how many below n keep a condition -/
def cnN (p : Nat → Prop) [DecidablePred p] : Nat → Nat
  | 0 => 0
  | n + 1 => cnN p n + if p n then 1 else 0
theorem cnN_le (p r : Nat → Prop) [DecidablePred p] [DecidablePred r] (h : ∀ i, p i → r i) : ∀ n, cnN p n ≤ cnN r n ∧ ((∃ i, i < n ∧ r i ∧ ¬ p i) → cnN p n < cnN r n) := by
  intro n
  induction n with
  | zero => exact ⟨Nat.le_refl _, fun ⟨i, hi, _⟩ => absurd hi (Nat.not_lt_zero i)⟩
  | succ n ih =>
    have t : (if p n then 1 else 0) ≤ (if r n then 1 else 0) := by
      by_cases c : p n
      · rw [if_pos c, if_pos (h n c)]; exact Nat.le_refl _
      · rw [if_neg c]; exact Nat.zero_le _
    refine ⟨?_, fun ⟨i, hi, h1, h2⟩ => ?_⟩
    · rw [cnN, cnN]; omega
    · rw [cnN, cnN]
      by_cases c : i = n
      · subst c
        rw [if_neg h2, if_pos h1]
        omega
      · have := ih.2 ⟨i, by omega, h1, h2⟩
        omega
theorem cnN_n (p : Nat → Prop) [DecidablePred p] : ∀ n, cnN p n ≤ n := by
  intro n
  induction n with
  | zero => exact Nat.le_refl _
  | succ n ih =>
    rw [cnN]
    split <;> omega
theorem cnN_lt (p : Nat → Prop) [DecidablePred p] {n i : Nat} (hi : i < n) (h : ¬ p i) : cnN p n < n := by
  have := (cnN_le p (fun _ => True) (fun _ _ => trivial) n).2 ⟨i, hi, trivial, h⟩
  have := cnN_n (fun _ => True) n
  omega
/-- a rank out of a solution -/
theorem rank_of {A B : Nat → Nat} {n : Nat} (hA : ∀ i, i < n → A i < 8) (hB : ∀ i, i < n → B i < 8) {e : Nat → Int32} (h : ∀ i, i < n → e (B i) < e (A i)) : ∃ rho : Nat → Nat, (∀ i, i < n → rho (B i) < rho (A i)) ∧ (∀ v, v < 8 → rho v < 8) := by
  refine ⟨fun v => cnN (fun u => e u < e v) 8, fun i hi => ?_, fun v hv => ?_⟩
  · exact (cnN_le (fun u => e u < e (B i)) (fun u => e u < e (A i)) (fun u hu => Int32.lt_trans hu (h i hi)) 8).2 ⟨B i, hB i hi, h i hi, Int32.lt_irrefl⟩
  · exact cnN_lt _ hv Int32.lt_irrefl
theorem rank_rev {A B : Nat → Nat} {n : Nat} (hA : ∀ i, i < n → A i < 8) (hB : ∀ i, i < n → B i < 8) {rho : Nat → Nat} (h1 : ∀ i, i < n → rho (B i) < rho (A i)) (h2 : ∀ v, v < 8 → rho v < 8) : ∀ i, i < n → (fun v => 7 - rho v) (A i) < (fun v => 7 - rho v) (B i) := by
  intro i hi
  have a := h1 i hi
  have b := h2 _ (hA i hi)
  show 7 - rho (A i) < 7 - rho (B i)
  omega
