/-! how many bits are set -/
theorem nand (a b : Nat) : nI a &&& nI b = nI (a &&& b) := by
  apply Int32.toBitVec_inj.1
  show BitVec.ofNat 32 a &&& BitVec.ofNat 32 b = BitVec.ofNat 32 (a &&& b)
  apply BitVec.eq_of_getLsbD_eq
  intro i hi
  simp [hi]
theorem nxor (a b : Nat) : nI a ^^^ nI b = nI (a ^^^ b) := by
  apply Int32.toBitVec_inj.1
  show BitVec.ofNat 32 a ^^^ BitVec.ofNat 32 b = BitVec.ofNat 32 (a ^^^ b)
  apply BitVec.eq_of_getLsbD_eq
  intro i hi
  simp [hi]
theorem and_sp {k a b c e : Nat} (ha : a < 2 ^ k) (hc : c < 2 ^ k) : (a + 2 ^ k * b) &&& (c + 2 ^ k * e) = (a &&& c) + 2 ^ k * (b &&& e) := by
  have hac : a &&& c < 2 ^ k := Nat.and_lt_two_pow a hc
  apply Nat.eq_of_testBit_eq
  intro j
  rw [Nat.testBit_and, Nat.add_comm a, Nat.add_comm c, Nat.add_comm (a &&& c), Nat.testBit_two_pow_mul_add _ ha, Nat.testBit_two_pow_mul_add _ hc, Nat.testBit_two_pow_mul_add _ hac]
  split
  · rw [Nat.testBit_and]
  · rw [Nat.testBit_and]
def pcB : Nat → Nat → Nat
  | 0, _ => 0
  | n + 1, x => x % 2 + pcB n (x / 2)
theorem pcB_0 : ∀ n x, x < 2 ^ n → (pcB n x = 0 ↔ x = 0) := by
  intro n
  induction n with
  | zero => intro x h; rw [pcB]; simp at h; omega
  | succ n ih =>
    intro x h
    rw [Nat.pow_succ] at h
    rw [pcB]
    have := ih (x / 2) (by omega)
    omega
theorem pcB_1 : ∀ n x, x < 2 ^ n → ¬ x = 0 → (x &&& (x - 1) = 0 ↔ pcB n x = 1) := by
  intro n
  induction n with
  | zero => intro x h; simp at h; omega
  | succ n ih =>
    intro x h h0
    rw [Nat.pow_succ] at h
    rw [pcB]
    obtain ⟨y, hy⟩ : ∃ y, x = 2 * y ∨ x = 2 * y + 1 := ⟨x / 2, by omega⟩
    rcases hy with hy | hy
    · have y0 : ¬ y = 0 := by omega
      have e1 : x = 0 + 2 ^ 1 * y := by omega
      have e2 : x - 1 = 1 + 2 ^ 1 * (y - 1) := by omega
      have e3 : x &&& (x - 1) = 2 * (y &&& (y - 1)) := by
        rw [e2, e1, and_sp (by omega) (by omega)]
        simp
      have := ih y (by omega) y0
      rw [e3, show x / 2 = y by omega, show x % 2 = 0 by omega]
      omega
    · have e1 : x = 1 + 2 ^ 1 * y := by omega
      have e2 : x - 1 = 0 + 2 ^ 1 * y := by omega
      have e3 : x &&& (x - 1) = 2 * y := by
        rw [e2, e1, and_sp (by omega) (by omega), Nat.and_self]
        simp
      have := pcB_0 n y (by omega)
      rw [e3, show x / 2 = y by omega, show x % 2 = 1 by omega]
      omega
/-- one hex digit -/
def pch (h : Nat) : Nat := h % 2 + (h / 2 % 2 + (h / 4 % 2 + h / 8 % 2))
theorem pcB_hex {n h m : Nat} (hh : h < 16) : pcB (n + 4) (h + 16 * m) = pch h + pcB n m := by
  rw [pcB, pcB, pcB, pcB, pch]
  have e1 : (h + 16 * m) / 2 / 2 / 2 / 2 = m := by omega
  rw [e1]
  have e2 : (h + 16 * m) % 2 = h % 2 := by omega
  have e3 : (h + 16 * m) / 2 % 2 = h / 2 % 2 := by omega
  have e4 : (h + 16 * m) / 2 / 2 % 2 = h / 4 % 2 := by omega
  have e5 : (h + 16 * m) / 2 / 2 / 2 % 2 = h / 8 % 2 := by omega
  rw [e2, e3, e4, e5]
  omega
theorem dg1 : ∀ h, h < 16 → ∀ e, e < 2 → (h / 2 + 8 * e) &&& 5 = (h / 2) &&& 5 ∧ (h / 2) &&& 5 ≤ h := by decide +kernel
theorem dg2 : ∀ d, d < 16 → ∀ e, e < 4 → (d / 4 + 4 * e) &&& 3 = (d / 4) &&& 3 := by decide +kernel
theorem dg3 : ∀ h, h < 16 → h - ((h / 2) &&& 5) < 16 ∧ ((h - ((h / 2) &&& 5)) &&& 3) + (((h - ((h / 2) &&& 5)) / 4) &&& 3) = pch h := by decide +kernel
theorem pch4 : ∀ h, h < 16 → pch h ≤ 4 := by decide +kernel
theorem st1 {h m k : Nat} (hh : h < 16) (hk : (m / 2) &&& k ≤ m) : ((h + 16 * m) / 2) &&& (5 + 16 * k) = ((h / 2) &&& 5) + 16 * ((m / 2) &&& k) ∧ ((h + 16 * m) / 2) &&& (5 + 16 * k) ≤ h + 16 * m ∧ (h + 16 * m) - (((h + 16 * m) / 2) &&& (5 + 16 * k)) = (h - ((h / 2) &&& 5)) + 16 * (m - ((m / 2) &&& k)) := by
  have e : (h + 16 * m) / 2 = (h / 2 + 8 * (m % 2)) + 2 ^ 4 * (m / 2) := by omega
  obtain ⟨d1, d2⟩ := dg1 h hh (m % 2) (by omega)
  have e2 : ((h + 16 * m) / 2) &&& (5 + 16 * k) = ((h / 2) &&& 5) + 16 * ((m / 2) &&& k) := by
    rw [e, show 5 + 16 * k = 5 + 2 ^ 4 * k by omega, and_sp (by omega) (by omega), d1]
  rw [e2]
  generalize (h / 2) &&& 5 = u at *
  generalize (m / 2) &&& k = v at *
  omega
theorem st2 {d m k : Nat} (hd : d < 16) : ((d + 16 * m) &&& (3 + 16 * k)) = (d &&& 3) + 16 * (m &&& k) ∧ (((d + 16 * m) / 4) &&& (3 + 16 * k)) = ((d / 4) &&& 3) + 16 * ((m / 4) &&& k) := by
  refine ⟨?_, ?_⟩
  · rw [show d + 16 * m = d + 2 ^ 4 * m by omega, show 3 + 16 * k = 3 + 2 ^ 4 * k by omega, and_sp (by omega) (by omega)]
  · have e : (d + 16 * m) / 4 = (d / 4 + 4 * (m % 4)) + 2 ^ 4 * (m / 4) := by omega
    rw [e, show 3 + 16 * k = 3 + 2 ^ 4 * k by omega, and_sp (by omega) (by omega), dg2 d hd _ (by omega)]
def mk5 : Nat → Nat
  | 0 => 0
  | n + 1 => 5 + 16 * mk5 n
def mk3 : Nat → Nat
  | 0 => 0
  | n + 1 => 3 + 16 * mk3 n
/-- hex digits' counts, as a number -/
def hexC : Nat → Nat → Nat
  | 0, _ => 0
  | n + 1, x => pch (x % 16) + 16 * hexC n (x / 16)
def v1N (n x : Nat) : Nat := x - ((x / 2) &&& mk5 n)
def v2N (n x : Nat) : Nat := (v1N n x &&& mk3 n) + ((v1N n x / 4) &&& mk3 n)
theorem v12 : ∀ n x, x < 16 ^ n → ((x / 2) &&& mk5 n ≤ x ∧ v2N n x = hexC n x) := by
  intro n
  induction n with
  | zero => intro x h; simp at h; subst h; exact ⟨by decide, by decide⟩
  | succ n ih =>
    intro x h
    rw [Nat.pow_succ] at h
    have hx : x = x % 16 + 16 * (x / 16) := by omega
    have hh : x % 16 < 16 := Nat.mod_lt _ (by omega)
    obtain ⟨i1, i2⟩ := ih (x / 16) (by omega)
    obtain ⟨s1, s2, s3⟩ := st1 (h := x % 16) (m := x / 16) (k := mk5 n) hh i1
    obtain ⟨d1, d2⟩ := dg3 _ hh
    rw [← hx] at s1 s2 s3
    refine ⟨by rw [mk5]; exact s2, ?_⟩
    have e1 : v1N (n + 1) x = (x % 16 - ((x % 16 / 2) &&& 5)) + 16 * v1N n (x / 16) := by rw [v1N, mk5, s3, v1N]
    obtain ⟨t1, t2⟩ := st2 (d := x % 16 - ((x % 16 / 2) &&& 5)) (m := v1N n (x / 16)) (k := mk3 n) d1
    rw [v2N, e1, mk3, t1, t2, hexC, ← i2, v2N, ← d2]
    omega
theorem hex8 {x : Nat} (hx : x < 16 ^ 8) : ∃ p0 p1 p2 p3 p4 p5 p6 p7, (p0 ≤ 4 ∧ p1 ≤ 4 ∧ p2 ≤ 4 ∧ p3 ≤ 4 ∧ p4 ≤ 4 ∧ p5 ≤ 4 ∧ p6 ≤ 4 ∧ p7 ≤ 4) ∧ hexC 8 x = p0 + 16 * (p1 + 16 * (p2 + 16 * (p3 + 16 * (p4 + 16 * (p5 + 16 * (p6 + 16 * p7)))))) ∧ pcB 32 x = p0 + (p1 + (p2 + (p3 + (p4 + (p5 + (p6 + p7)))))) := by
  refine ⟨pch (x % 16), pch (x / 16 % 16), pch (x / 16 / 16 % 16), pch (x / 16 / 16 / 16 % 16), pch (x / 16 / 16 / 16 / 16 % 16), pch (x / 16 / 16 / 16 / 16 / 16 % 16), pch (x / 16 / 16 / 16 / 16 / 16 / 16 % 16), pch (x / 16 / 16 / 16 / 16 / 16 / 16 / 16 % 16), ⟨pch4 _ (Nat.mod_lt _ (by omega)), pch4 _ (Nat.mod_lt _ (by omega)), pch4 _ (Nat.mod_lt _ (by omega)), pch4 _ (Nat.mod_lt _ (by omega)), pch4 _ (Nat.mod_lt _ (by omega)), pch4 _ (Nat.mod_lt _ (by omega)), pch4 _ (Nat.mod_lt _ (by omega)), pch4 _ (Nat.mod_lt _ (by omega))⟩, rfl, ?_⟩
  have st : ∀ n y, pcB (n + 4) y = pch (y % 16) + pcB n (y / 16) := by
    intro n y
    have := pcB_hex (n := n) (h := y % 16) (m := y / 16) (Nat.mod_lt _ (by omega))
    rw [show y % 16 + 16 * (y / 16) = y by omega] at this
    exact this
  rw [st 28, st 24, st 20, st 16, st 12, st 8, st 4, st 0]
  rfl
theorem sum8 {p0 p1 p2 p3 p4 p5 p6 p7 : Nat} (h : p0 ≤ 4 ∧ p1 ≤ 4 ∧ p2 ≤ 4 ∧ p3 ≤ 4 ∧ p4 ≤ 4 ∧ p5 ≤ 4 ∧ p6 ≤ 4 ∧ p7 ≤ 4) {v2 v3 v4 v5 : Nat} (e2 : v2 = p0 + 16 * (p1 + 16 * (p2 + 16 * (p3 + 16 * (p4 + 16 * (p5 + 16 * (p6 + 16 * p7))))))) (e3 : v3 = (v2 + v2 / 16) &&& 252645135) (e4 : v4 = v3 + v3 / 256) (e5 : v5 = v4 + v4 / 65536) : v3 < 2 ^ 28 ∧ v4 < 2 ^ 29 ∧ v5 < 2 ^ 30 ∧ v5 &&& 63 = p0 + (p1 + (p2 + (p3 + (p4 + (p5 + (p6 + p7)))))) := by
  have f3 : v3 = (p0 + p1) + 256 * ((p2 + p3) + 256 * ((p4 + p5) + 256 * (p6 + p7))) := by
    have a0 : v2 / 16 = p1 + 16 * (p2 + 16 * (p3 + 16 * (p4 + 16 * (p5 + 16 * (p6 + 16 * p7))))) := by
      rw [e2]
      generalize p1 + 16 * (p2 + 16 * (p3 + 16 * (p4 + 16 * (p5 + 16 * (p6 + 16 * p7))))) = r
      omega
    have a1 : v2 + v2 / 16 = (p0 + p1 + 16 * (p1 + p2)) + 2 ^ 8 * ((p2 + p3 + 16 * (p3 + p4)) + 2 ^ 8 * ((p4 + p5 + 16 * (p5 + p6)) + 2 ^ 8 * (p6 + p7 + 16 * p7))) := by
      rw [a0, e2]
      omega
    have am : (252645135 : Nat) = 15 + 2 ^ 8 * (15 + 2 ^ 8 * (15 + 2 ^ 8 * 15)) := by decide +kernel
    have lo : ∀ u v : Nat, u ≤ 8 → v ≤ 8 → (u + 16 * v) &&& 15 = u := by
      intro u v hu hv
      rw [show u + 16 * v = u + 2 ^ 4 * v by omega, show (15 : Nat) = 15 + 2 ^ 4 * 0 by decide, and_sp (by omega) (by decide), Nat.and_zero, Nat.mul_zero, Nat.add_zero, show (15 : Nat) = 2 ^ 4 - 1 by decide, Nat.and_two_pow_sub_one_eq_mod]
      omega
    rw [e3, a1, am, and_sp (by omega) (by decide), and_sp (by omega) (by decide), and_sp (by omega) (by decide), lo _ _ (by omega) (by omega), lo _ _ (by omega) (by omega), lo _ _ (by omega) (by omega), lo _ _ (by omega) (by omega)]
  clear e2 e3
  obtain ⟨a, ha⟩ : ∃ a, a = p0 + p1 := ⟨_, rfl⟩
  obtain ⟨b, hb⟩ : ∃ b, b = p2 + p3 := ⟨_, rfl⟩
  obtain ⟨c, hc⟩ : ∃ c, c = p4 + p5 := ⟨_, rfl⟩
  obtain ⟨e, he⟩ : ∃ e, e = p6 + p7 := ⟨_, rfl⟩
  have la : a ≤ 8 := by omega
  have lb : b ≤ 8 := by omega
  have lc : c ≤ 8 := by omega
  have le : e ≤ 8 := by omega
  have sm : p0 + (p1 + (p2 + (p3 + (p4 + (p5 + (p6 + p7)))))) = a + b + c + e := by omega
  rw [← ha, ← hb, ← hc, ← he] at f3
  rw [sm]
  clear ha hb hc he sm h
  have g3 : v3 / 256 = b + 256 * (c + 256 * e) := by omega
  have f4 : v4 = (a + b) + 256 * ((b + c) + 256 * ((c + e) + 256 * e)) := by omega
  have g4 : v4 / 65536 = (c + e) + 256 * e := by omega
  have f5 : v5 = (a + b + c + e) + 256 * ((b + c + e) + 256 * ((c + e) + 256 * e)) := by omega
  have b3 : v3 < 2 ^ 28 := by omega
  have b4 : v4 < 2 ^ 29 := by omega
  have b5 : v5 < 2 ^ 30 := by omega
  refine ⟨b3, b4, b5, ?_⟩
  rw [show (63 : Nat) = 2 ^ 6 - 1 by decide, Nat.and_two_pow_sub_one_eq_mod, f5]
  clear f3 f4 f5 g3 g4 e4 e5 b3 b4 b5
  generalize (b + c + e) + 256 * ((c + e) + 256 * e) = r
  omega
theorem ct_Jbits {E : EvT} {q : Nat → Nat} {d : Nat} {X : StX} {x : Nat} (hx : x < 2 ^ 31) : C_Jbits E q d (nI x) X (fun r X1 => r = nI (pcB 32 x) ∧ X1 = X) := by
  have hx16 : x < 16 ^ 8 := by omega
  obtain ⟨s1, s2⟩ := v12 8 x hx16
  obtain ⟨p0, p1, p2, p3, p4, p5, p6, p7, hp, eh, epc⟩ := hex8 hx16
  have m5 : mk5 8 = 1431655765 := by decide +kernel
  have m3 : mk3 8 = 858993459 := by decide +kernel
  refine en_Jbits (fun w1 h1 w2 h2 w3 h3 w4 h4 w5 h5 => ?_)
  have a1 : w1 = nI (v1N 8 x) := by
    rw [h1, pk_ushrN (k := 1) (by omega) _ (by decide), show (1431655765 : Int32) = nI 1431655765 from rfl, nand, ← m5, pk_sub (by simpa using s1)]
    rfl
  have hv1 : v1N 8 x < 2 ^ 31 := by rw [v1N]; omega
  have a2 : w2 = nI (hexC 8 x) := by
    rw [h2, a1, pk_ushrN (k := 2) (by omega) _ (by decide), show (858993459 : Int32) = nI 858993459 from rfl, nand, nand, nI_add, ← m3, ← s2]
    rfl
  have hv2 : hexC 8 x < 2 ^ 31 := by rw [eh]; omega
  obtain ⟨b3, b4, b5, b6⟩ := sum8 hp eh rfl rfl rfl
  have a3 : w3 = nI ((hexC 8 x + hexC 8 x / 16) &&& 252645135) := by
    rw [h3, a2, pk_ushrN (k := 4) (by omega) _ (by decide), nI_add, show (252645135 : Int32) = nI 252645135 from rfl, nand]
  have a4 : w4 = nI (((hexC 8 x + hexC 8 x / 16) &&& 252645135) + ((hexC 8 x + hexC 8 x / 16) &&& 252645135) / 256) := by
    rw [h4, a3, pk_ushrN (k := 8) (by omega) _ (by decide), nI_add]
  refine ⟨?_, rfl⟩
  rw [h5, a4, pk_ushrN (k := 16) (by omega) _ (by decide), nI_add, show (63 : Int32) = nI 63 from rfl, nand, epc, ← b6]
