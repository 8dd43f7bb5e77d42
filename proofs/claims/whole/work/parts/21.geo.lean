/-! bits of places -/
theorem nor (a b : Nat) : nI a ||| nI b = nI (a ||| b) := by
  apply Int32.toBitVec_inj.1
  show BitVec.ofNat 32 a ||| BitVec.ofNat 32 b = BitVec.ofNat 32 (a ||| b)
  apply BitVec.eq_of_getLsbD_eq
  intro i hi
  simp [hi]
def bitsN (p : Nat → Bool) : Nat → Nat
  | 0 => 0
  | n + 1 => if p n then bitsN p n ||| 2 ^ n else bitsN p n
theorem bitsN_tb (p : Nat → Bool) (j : Nat) : ∀ n, (bitsN p n).testBit j = (decide (j < n) && p j) := by
  intro n
  induction n with
  | zero => simp [bitsN]
  | succ n ih =>
    rw [bitsN]
    split
    · next h =>
      rw [Nat.testBit_or, ih, Nat.testBit_two_pow]
      by_cases e : n = j
      · subst e; simp [h]
      · have : (j < n + 1) = (j < n) := by apply propext; omega
        simp [e, this]
    · next h =>
      rw [ih]
      by_cases e : n = j
      · subst e; simp [h]
      · have : (j < n + 1) = (j < n) := by apply propext; omega
        simp [this]
theorem bitsN_lt (p : Nat → Bool) : ∀ n, bitsN p n < 2 ^ n := by
  intro n
  induction n with
  | zero => simp [bitsN]
  | succ n ih =>
    rw [bitsN, Nat.pow_succ]
    split
    · exact Nat.or_lt_two_pow (n := n + 1) (by rw [Nat.pow_succ]; omega) (by rw [Nat.pow_succ]; have := Nat.two_pow_pos n; omega)
    · omega
theorem bitsN_cong {p p' : Nat → Bool} : ∀ {n : Nat}, (∀ j, j < n → p j = p' j) → bitsN p n = bitsN p' n := by
  intro n
  induction n with
  | zero => intro _; rfl
  | succ n ih =>
    intro h
    rw [bitsN, bitsN, ih (fun j hj => h j (by omega)), h n (by omega)]
def bitsP (p : Nat → Bool) (n : Nat) : Int32 := nI (bitsN p n)
theorem bitsP_cong {p p' : Nat → Bool} {n : Nat} (h : ∀ j, j < n → p j = p' j) : bitsP p n = bitsP p' n := by rw [bitsP, bitsP, bitsN_cong h]
theorem sh1 : ∀ n, n < 31 → (1 : Int32) <<< (nI n &&& 31) = nI (2 ^ n) := by decide +kernel
theorem shn : ∀ n, n < 32 → ((nI n &&& 31).toBitVec.smod 32).toNat = n := by decide +kernel
theorem bitsP_t {p : Nat → Bool} {n : Nat} (hn : n < 31) (h : p n = true) : bitsP p n ||| ((1 : Int32) <<< (nI n &&& 31)) = bitsP p (n + 1) := by
  rw [sh1 n hn, bitsP, nor, bitsP, bitsN, if_pos h]
theorem bitsP_f {p : Nat → Bool} {n : Nat} (h : p n = false) : bitsP p n = bitsP p (n + 1) := by
  rw [bitsP, bitsP, bitsN, if_neg (by rw [h]; decide)]
theorem tb_dm (m j : Nat) : m.testBit j = decide (m / 2 ^ j % 2 = 1) := Nat.testBit_eq_decide_div_mod_eq
theorem bit_sh {m j : Nat} (hm : m < 2 ^ 31) (hj : j < 31) : (nI m >>> (nI j &&& 31)) &&& 1 = nI (m / 2 ^ j % 2) := by
  rw [pk_shrN hm _ j (shn j (by omega))]
  exact pk_andN (m := 1) (by have := Nat.div_le_self m (2 ^ j); omega) 1 rfl
theorem bit_1 {m j : Nat} (hm : m < 2 ^ 31) (hj : j < 31) : ((nI m >>> (nI j &&& 31)) &&& 1 = 1) ↔ m.testBit j = true := by
  rw [bit_sh hm hj, tb_dm, show (1 : Int32) = nI 1 from rfl, nI_eq (by omega) (by omega), decide_eq_true_eq]
theorem bit_0 {m j : Nat} (hm : m < 2 ^ 31) (hj : j < 31) : ((nI m >>> (nI j &&& 31)) &&& 1 = 0) ↔ m.testBit j = false := by
  rw [bit_sh hm hj, tb_dm, show (0 : Int32) = nI 0 from rfl, nI_eq (by omega) (by omega), decide_eq_false_iff_not]
  omega
theorem bitsN_31 {p : Nat → Bool} {n : Nat} (hn : n ≤ 31) : bitsN p n < 2 ^ 31 := Nat.lt_of_lt_of_le (bitsN_lt p n) (Nat.pow_le_pow_right (by omega) hn)
theorem bitsP_1 {p : Nat → Bool} {n j : Nat} (hn : n ≤ 31) (hj : j < n) : ((bitsP p n >>> (nI j &&& 31)) &&& 1 = 1) ↔ p j = true := by
  rw [bitsP, bit_1 (bitsN_31 hn) (by omega), bitsN_tb]
  simp [hj]
theorem bitsP_00 {p : Nat → Bool} {n j : Nat} (hn : n ≤ 31) (hj : j < n) : ((bitsP p n >>> (nI j &&& 31)) &&& 1 = 0) ↔ p j = false := by
  rw [bitsP, bit_0 (bitsN_31 hn) (by omega), bitsN_tb]
  simp [hj]
theorem bitsN_0 {p : Nat → Bool} : ∀ {n : Nat}, bitsN p n = 0 ↔ ∀ j, j < n → p j = false := by
  intro n
  constructor
  · intro h j hj
    have := bitsN_tb p j n
    rw [h] at this
    simpa [hj] using this.symm
  · intro h
    apply Nat.eq_of_testBit_eq
    intro j
    rw [bitsN_tb, Nat.zero_testBit]
    by_cases hj : j < n
    · simp [h j hj]
    · simp [hj]
theorem bitsP_0 {p : Nat → Bool} {n : Nat} (hn : n ≤ 31) : bitsP p n = 0 ↔ ∀ j, j < n → p j = false := by
  rw [bitsP, show (0 : Int32) = nI 0 from rfl, nI_eq (bitsN_31 hn) (by omega), bitsN_0]
/-! the plan's geometry -/
def inR (w c a b : Nat) : Prop := (a % w ≤ c % w ∧ c % w ≤ b % w) ∧ (a / w ≤ c / w ∧ c / w ≤ b / w)
def okR (w h a b : Nat) : Prop := a < w * h ∧ b < w * h ∧ a % w ≤ b % w ∧ a / w ≤ b / w
def meetR (w a b c e : Nat) : Prop := (a % w ≤ e % w ∧ c % w ≤ b % w) ∧ (a / w ≤ e / w ∧ c / w ≤ b / w)
theorem rmd_n {a w : Nat} (ha : a < 2 ^ 31) (hw : 0 < w) (hw2 : w < 2 ^ 31) : rmd (nI a) (nI w) = nI (a % w) := pk_rem ha hw hw2
theorem div_n {a w : Nat} (ha : a < 2 ^ 31) (hw : 0 < w) (hw2 : w < 2 ^ 31) : nI a / nI w = nI (a / w) := pk_div ha hw hw2
theorem modlt {a w : Nat} (hw : 0 < w) (hw2 : w ≤ 10) : a % w < 2 ^ 31 := by have := Nat.mod_lt a hw; omega
theorem divlt {a w : Nat} (ha : a < 2 ^ 31) : a / w < 2 ^ 31 := Nat.lt_of_le_of_lt (Nat.div_le_self a w) ha
theorem mIn_n {a b c : Nat} (ha : a < 2 ^ 31) (hb : b < 2 ^ 31) (hc : c < 2 ^ 31) : mIn (nI c) (nI a) (nI b) = true ↔ a ≤ c ∧ c ≤ b := by
  rw [mIn, decide_eq_true_eq, nI_leI ha hc, nI_leI hc hb]
theorem mIsIn_n {M : StM} {w a b c : Nat} (hw : s_wide M = nI w) (h0 : 0 < w) (h10 : w ≤ 10) (ha : a < 2 ^ 31) (hb : b < 2 ^ 31) (hc : c < 2 ^ 31) : mIsIn M (nI c) (nI a) (nI b) = true ↔ inR w c a b := by
  have hw2 : w < 2 ^ 31 := by omega
  rw [mIsIn, hw, rmd_n ha h0 hw2, rmd_n hb h0 hw2, rmd_n hc h0 hw2, div_n ha h0 hw2, div_n hb h0 hw2, div_n hc h0 hw2, Bool.and_eq_true, mIn_n (modlt h0 h10) (modlt h0 h10) (modlt h0 h10), mIn_n (divlt ha) (divlt hb) (divlt hc), inR]
theorem mCell_n {M : StM} {w h : Nat} (hw : s_wide M = nI w) (hh : s_high M = nI h) (hw2 : w ≤ 10) (hh2 : h ≤ 10) {c : Int32} : mCell M c = true ↔ ∃ k, k < w * h ∧ c = nI k := by
  have hwh : w * h ≤ 100 := Nat.mul_le_mul hw2 hh2
  rw [mCell, hw, hh, pk_mul, decide_eq_true_eq]
  constructor
  · intro ⟨h1, h2⟩
    exact ⟨ix c, ix_lt h1 h2 (by omega), (nix h1).symm⟩
  · rintro ⟨k, hk, rfl⟩
    exact ⟨nI_pos' (by omega), nI_lt hk (by omega)⟩
theorem mRect_n {M : StM} {w h : Nat} (hw : s_wide M = nI w) (hh : s_high M = nI h) (h0 : 0 < w) (hw2 : w ≤ 10) (hh2 : h ≤ 10) {a b : Int32} : mRect M a b = true ↔ ∃ x y, a = nI x ∧ b = nI y ∧ okR w h x y := by
  have hwh : w * h ≤ 100 := Nat.mul_le_mul hw2 hh2
  rw [mRect, Bool.and_eq_true, Bool.and_eq_true, Bool.and_eq_true, mCell_n hw hh hw2 hh2, mCell_n hw hh hw2 hh2, decide_eq_true_eq, decide_eq_true_eq]
  constructor
  · rintro ⟨⟨⟨⟨x, hx, rfl⟩, ⟨y, hy, rfl⟩⟩, h1⟩, h2⟩
    rw [hw, rmd_n (by omega) h0 (by omega), rmd_n (by omega) h0 (by omega), nI_leI (modlt h0 hw2) (modlt h0 hw2)] at h1
    rw [hw, div_n (by omega) h0 (by omega), div_n (by omega) h0 (by omega), nI_leI (divlt (by omega)) (divlt (by omega))] at h2
    exact ⟨x, y, rfl, rfl, hx, hy, h1, h2⟩
  · rintro ⟨x, y, rfl, rfl, hx, hy, h1, h2⟩
    refine ⟨⟨⟨⟨x, hx, rfl⟩, ⟨y, hy, rfl⟩⟩, ?_⟩, ?_⟩
    · rw [hw, rmd_n (by omega) h0 (by omega), rmd_n (by omega) h0 (by omega), nI_leI (modlt h0 hw2) (modlt h0 hw2)]
      exact h1
    · rw [hw, div_n (by omega) h0 (by omega), div_n (by omega) h0 (by omega), nI_leI (divlt (by omega)) (divlt (by omega))]
      exact h2
theorem pCol_n {X : StX} {w a : Nat} (hw : xs_Plan_width X = nI w) (h0 : 0 < w) (h10 : w ≤ 10) (ha : a < 2 ^ 31) : pCol X (nI a) = nI (a % w) := by
  rw [pCol, hw, if_pos (show (0 : Int32) < nI w from nI_lt h0 (by omega)), rmd_n ha h0 (by omega)]
theorem pRow_n {X : StX} {w a : Nat} (hw : xs_Plan_width X = nI w) (h0 : 0 < w) (h10 : w ≤ 10) (ha : a < 2 ^ 31) : pRow X (nI a) = nI (a / w) := by
  rw [pRow, hw, if_pos (show (0 : Int32) < nI w from nI_lt h0 (by omega)), div_n ha h0 (by omega)]
theorem pMeet_n {X : StX} {w a b c e : Nat} (hw : xs_Plan_width X = nI w) (h0 : 0 < w) (h10 : w ≤ 10) (ha : a < 2 ^ 31) (hb : b < 2 ^ 31) (hc : c < 2 ^ 31) (he : e < 2 ^ 31) : pMeet X (nI a) (nI b) (nI c) (nI e) = true ↔ meetR w a b c e := by
  rw [pMeet, pCol_n hw h0 h10 ha, pCol_n hw h0 h10 hb, pCol_n hw h0 h10 hc, pCol_n hw h0 h10 he, pRow_n hw h0 h10 ha, pRow_n hw h0 h10 hb, pRow_n hw h0 h10 hc, pRow_n hw h0 h10 he, Bool.and_eq_true, Bool.and_eq_true, Bool.and_eq_true, decide_eq_true_eq, decide_eq_true_eq, decide_eq_true_eq, decide_eq_true_eq, nI_leI (modlt h0 h10) (modlt h0 h10), nI_leI (modlt h0 h10) (modlt h0 h10), nI_leI (divlt ha) (divlt he), nI_leI (divlt hc) (divlt hb), meetR]
  constructor
  · rintro ⟨⟨⟨h1, h2⟩, h3⟩, h4⟩
    exact ⟨⟨h1, h2⟩, h3, h4⟩
  · rintro ⟨⟨h1, h2⟩, h3, h4⟩
    exact ⟨⟨⟨h1, h2⟩, h3⟩, h4⟩
theorem meet_cell {w h a b c e : Nat} (h0 : 0 < w) (h1 : okR w h a b) (h2 : okR w h c e) : meetR w a b c e ↔ ∃ x, x < w * h ∧ inR w x a b ∧ inR w x c e := by
  obtain ⟨ha, hb, hab, hab2⟩ := h1
  obtain ⟨hc, he, hce, hce2⟩ := h2
  constructor
  · rintro ⟨⟨m1, m2⟩, m3, m4⟩
    have l1 : max (a % w) (c % w) < w := by have := Nat.mod_lt a h0; have := Nat.mod_lt c h0; omega
    have r1 : max (a / w) (c / w) < h := by
      have e1 : a / w < h := Nat.div_lt_of_lt_mul ha
      have e2 : c / w < h := Nat.div_lt_of_lt_mul hc
      omega
    refine ⟨w * max (a / w) (c / w) + max (a % w) (c % w), ?_, ?_⟩
    · calc w * max (a / w) (c / w) + max (a % w) (c % w) < w * max (a / w) (c / w) + w := by omega
        _ = w * (max (a / w) (c / w) + 1) := by rw [Nat.mul_add, Nat.mul_one]
        _ ≤ w * h := Nat.mul_le_mul_left w r1
    · have em : (w * max (a / w) (c / w) + max (a % w) (c % w)) % w = max (a % w) (c % w) := by
        rw [Nat.mul_add_mod, Nat.mod_eq_of_lt l1]
      have ed : (w * max (a / w) (c / w) + max (a % w) (c % w)) / w = max (a / w) (c / w) := by
        rw [Nat.mul_add_div h0, Nat.div_eq_of_lt l1, Nat.add_zero]
      rw [inR, inR, em, ed]
      omega
  · rintro ⟨x, -, ⟨⟨i1, i2⟩, i3, i4⟩, ⟨j1, j2⟩, j3, j4⟩
    refine ⟨⟨?_, ?_⟩, ?_, ?_⟩ <;> omega
theorem meet_one {w c a b : Nat} : meetR w c c a b ↔ inR w c a b := by
  rw [meetR, inR]
  omega
