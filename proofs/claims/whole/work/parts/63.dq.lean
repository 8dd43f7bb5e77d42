/-! one number for a row -/
theorem sumW_add {g h : Nat → Nat → Nat} {r : Nat → Nat} : ∀ n, sumW (fun p k => g p k + h p k) r n = sumW g r n + sumW h r n := by
  intro n
  induction n with
  | zero => rfl
  | succ n ih =>
    rw [sumW, sumW, sumW, ih]
    split <;> omega
theorem sumW_mul {g : Nat → Nat → Nat} {r : Nat → Nat} (c : Nat) : ∀ n, sumW (fun p k => g p k * c) r n = sumW g r n * c := by
  intro n
  induction n with
  | zero => rw [sumW, sumW, Nat.zero_mul]
  | succ n ih =>
    rw [sumW, sumW, ih]
    split
    · rfl
    · rw [Nat.add_mul]
def cM (r : Nat → Nat) : Nat → Nat := sumW (fun _ _ => 1) r
theorem sumW_con (c : Nat) {r : Nat → Nat} (n : Nat) : sumW (fun _ _ => c) r n = cM r n * c := by
  have := sumW_mul (g := fun _ _ => 1) (r := r) c n
  rw [show (fun (_ : Nat) (_ : Nat) => 1 * c) = (fun (_ : Nat) (_ : Nat) => c) by funext _ _; rw [Nat.one_mul]] at this
  exact this
def hrn (r : Nat → Nat) : Nat → Nat
  | 0 => 0
  | p + 1 => 61 * hrn r p + (60 - r p)
theorem hrn_lt (r : Nat → Nat) : ∀ n, hrn r n < 61 ^ n := by
  intro n
  induction n with
  | zero => rw [hrn, Nat.pow_zero]; exact Nat.lt_succ_self 0
  | succ n ih =>
    rw [hrn, Nat.pow_succ]
    have : 61 * hrn r n + 61 ≤ 61 * 61 ^ n := by
      have := Nat.mul_le_mul_left 61 (show hrn r n + 1 ≤ 61 ^ n from ih)
      omega
    omega
theorem hrn_div (r : Nat → Nat) (p : Nat) : ∀ j, hrn r (p + j) / 61 ^ j = hrn r p := by
  intro j
  induction j with
  | zero => rw [Nat.pow_zero, Nat.div_one]; rfl
  | succ j ih =>
    rw [show p + (j + 1) = (p + j) + 1 by omega, hrn, Nat.pow_succ, Nat.mul_comm (61 ^ j) 61, ← Nat.div_div_eq_div_mul]
    have : (61 * hrn r (p + j) + (60 - r (p + j))) / 61 = hrn r (p + j) := by omega
    rw [this, ih]
theorem hrn_gt {a r : Nat → Nat} {n p : Nat} (hp : p < n) (hr : r p ≤ 60) (h1 : a p < r p) (h2 : ∀ p', p' < p → r p' = a p') : hrn r n < hrn a n := by
  have e : hrn r p = hrn a p := by
    have : ∀ j, j ≤ p → hrn r j = hrn a j := by
      intro j
      induction j with
      | zero => intro _; rfl
      | succ j ih => intro hj; rw [hrn, hrn, ih (by omega), h2 j (by omega)]
    exact this p (Nat.le_refl _)
  have key : ∀ m, hrn r (p + 1 + m) < hrn a (p + 1 + m) := by
    intro m
    induction m with
    | zero => rw [Nat.add_zero, hrn, hrn, e]; omega
    | succ m ih =>
      rw [show p + 1 + (m + 1) = (p + 1 + m) + 1 by omega, hrn, hrn]
      omega
  have := key (n - (p + 1))
  rw [show p + 1 + (n - (p + 1)) = n by omega] at this
  exact this
def gC : Nat → Nat → Nat := fun p k => (60 - k) * 61 ^ (7 - p)
theorem sumW_C {r : Nat → Nat} : ∀ n, n ≤ 8 → sumW gC r n = hrn r n * 61 ^ (8 - n) := by
  intro n
  induction n with
  | zero => intro _; rw [sumW, hrn, Nat.zero_mul]
  | succ n ih =>
    intro hn
    rw [sumW, ih (by omega), hrn, show 8 - n = (7 - n) + 1 by omega, show 8 - (n + 1) = 7 - n by omega, Nat.pow_succ, Nat.add_mul]
    have e : (if r n = 60 then 0 else gC n (r n)) = (60 - r n) * 61 ^ (7 - n) := by
      split
      · next z => rw [z]; rw [Nat.sub_self, Nat.zero_mul]
      · rfl
    rw [e, Nat.mul_comm (61 ^ (7 - n)) 61, ← Nat.mul_assoc, Nat.mul_comm (hrn r n) 61]
def gM (ag : Nat → Nat → Nat) : Nat → Nat → Nat := fun p k => 1000 + ag p k
def gX (ag : Nat → Nat → Nat) : Nat → Nat → Nat := fun p k => (65 + ag p k) * 61 ^ 8 + gC p k
theorem sumW_M (ag : Nat → Nat → Nat) (r : Nat → Nat) (n : Nat) : sumW (gM ag) r n = cM r n * 1000 + sumW ag r n := by
  rw [← sumW_con 1000, ← sumW_add]; rfl
theorem sumW_X (ag : Nat → Nat → Nat) (r : Nat → Nat) {n : Nat} (hn : n ≤ 8) : sumW (gX ag) r n = (cM r n * 65 + sumW ag r n) * 61 ^ 8 + hrn r n * 61 ^ (8 - n) := by
  rw [← sumW_C n hn, ← sumW_con 65, ← sumW_add, ← sumW_mul, ← sumW_add]; rfl
theorem cM_le (r : Nat → Nat) : ∀ n, cM r n ≤ n := by
  intro n
  have := sumW_le (g := fun _ _ => 1) (r := r) (G := 1) (fun _ _ => Nat.le_refl _) n
  rw [Nat.mul_one] at this
  exact this
theorem code_lt (r : Nat → Nat) {n : Nat} (hn : n ≤ 8) : hrn r n * 61 ^ (8 - n) < 61 ^ 8 := by
  have h := hrn_lt r n
  have : 61 ^ 8 = 61 ^ n * 61 ^ (8 - n) := by rw [← Nat.pow_add, show n + (8 - n) = 8 by omega]
  rw [this]
  exact Nat.mul_lt_mul_of_pos_right h (Nat.pow_pos (by decide))
/-- the best sum tells the least row of the best -/
theorem rows_one {n : Nat} {ok : Nat → Nat → Prop} {ag : Nat → Nat → Nat} {t : Nat} {a r : Nat → Nat} (hn : n ≤ 8) (ht : t ≤ 60) (hag : ∀ p k, ag p k ≤ 8) (ha : VA n ok t a) (h1 : ∀ s, VA n ok t s → sumW (gM ag) s n ≤ sumW (gM ag) a n) (h2 : ∀ s, VA n ok t s → sumW (gM ag) s n = sumW (gM ag) a n → Lex n a s) (hr : VA n ok t r) (h3 : ∀ s, VA n ok t s → sumW (gX ag) s n ≤ sumW (gX ag) r n) : ∀ p, p < n → r p = a p := by
  have b1 := h1 r hr
  have b2 := h3 a ha
  have l1 := code_lt a hn
  have l2 := code_lt r hn
  have q1 : sumW ag a n ≤ 64 := by have := sumW_le (r := a) hag n; omega
  have q2 : sumW ag r n ≤ 64 := by have := sumW_le (r := r) hag n; omega
  rw [sumW_X ag r hn, sumW_X ag a hn] at b2
  have e : sumW (gM ag) r n = sumW (gM ag) a n := by
    rw [sumW_M, sumW_M] at b1 ⊢
    generalize sumW ag r n = x at *
    generalize sumW ag a n = y at *
    generalize cM r n = u at *
    generalize cM a n = v at *
    generalize hrn r n * 61 ^ (8 - n) = c at *
    generalize hrn a n * 61 ^ (8 - n) = d at *
    have : u * 65 + x ≤ v * 65 + y := by omega
    omega
  have e2 : hrn a n ≤ hrn r n := by
    rw [sumW_M, sumW_M] at e
    have ec : cM r n = cM a n ∧ sumW ag r n = sumW ag a n := by omega
    rw [ec.1, ec.2] at b2
    have b3 : hrn a n * 61 ^ (8 - n) ≤ hrn r n * 61 ^ (8 - n) := by omega
    exact Nat.le_of_mul_le_mul_right b3 (Nat.pow_pos (by decide))
  rcases h2 r hr e with z | ⟨p, hp, z1, z2⟩
  · exact z
  · have : r p ≤ 60 := by
      by_cases c : r p = 60
      · omega
      · have := (hr.1 p hp c).1; omega
    have := hrn_gt hp this z1 z2
    omega
theorem digit {r : Nat → Nat} {n p : Nat} (hn : n ≤ 8) (hp : p < n) : hrn r n * 61 ^ (8 - n) / 61 ^ (7 - p) % 61 = 60 - r p := by
  have e1 : 61 ^ (7 - p) = 61 ^ (n - (p + 1)) * 61 ^ (8 - n) := by rw [← Nat.pow_add]; congr 1; omega
  rw [e1, Nat.mul_div_mul_right _ _ (Nat.pow_pos (by decide))]
  have := hrn_div r (p + 1) (n - (p + 1))
  rw [show p + 1 + (n - (p + 1)) = n by omega] at this
  rw [this, hrn]
  omega
