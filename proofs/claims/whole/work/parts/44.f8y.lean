/-! the way out: the class -/
def WQ (N : Nat) (nb : Nat → Nat → Bool) (op bd : Nat → Bool) (s : Nat) (st qu : Nat → Int32) (n t : Nat) (g D : Nat → Nat) : Prop :=
  t = cnN (fun c => ¬ st c = -1) N ∧
  (∀ j, j < t → g j < N ∧ qu j = nI (g j) ∧ st (g j) = nI (D j) ∧ rch N nb op s (D j) (g j) ∧ (∀ a, a < D j → ¬ rch N nb op s a (g j)) ∧ D j ≤ j) ∧
  (∀ c, c < N → ¬ st c = -1 → ∃ j, j < t ∧ g j = c) ∧
  (∀ j k, j ≤ k → k < t → D j ≤ D k) ∧
  (∀ j, j < n → j < t → bd (g j) = false ∧ ∀ c, c < N → op c = true → nb (g j) c = true → ¬ st c = -1) ∧
  (n < t → ∀ j, j < t → D j ≤ D n + 1) ∧
  s < N ∧ ¬ st s = -1
theorem WQ.vis {N : Nat} {nb : Nat → Nat → Bool} {op bd : Nat → Bool} {s : Nat} {st qu : Nat → Int32} {n t : Nat} {g D : Nat → Nat} (h : WQ N nb op bd s st qu n t g D) (hn : n < t) : ∀ k c, k ≤ D n → rch N nb op s k c → ¬ st c = -1 := by
  obtain ⟨h1, h2, h3, h4, h5, h6, h7, h8⟩ := h
  intro k
  induction k with
  | zero => intro c _ hc; rw [show c = s from hc]; exact h8
  | succ k ih =>
    rintro c hk (hc | ⟨cN, oc, a, ra, nba⟩)
    · exact ih c (by omega) hc
    · have va := ih a (by omega) ra
      obtain ⟨j, hj, rfl⟩ := h3 a (rch_N h7 _ _ ra) va
      have dj : D j ≤ k := by
        rcases Nat.lt_or_ge k (D j) with z | z
        · exact absurd ra ((h2 j hj).2.2.2.2.1 k z)
        · exact z
      have jn : j < n := by
        rcases Nat.lt_or_ge j n with z | z
        · exact z
        · have := h4 n j z hj; omega
      exact (h5 j jn hj).2 c cN oc nba
theorem WQ.low {N : Nat} {nb : Nat → Nat → Bool} {op bd : Nat → Bool} {s : Nat} {st qu : Nat → Int32} {n t : Nat} {g D : Nat → Nat} (h : WQ N nb op bd s st qu n t g D) (hn : n < t) : ∀ k, k < D n → ∀ c, rch N nb op s k c → bd c = false := by
  intro k hk c hc
  have v := h.vis hn k c (by omega) hc
  obtain ⟨h1, h2, h3, h4, h5, h6, h7, h8⟩ := h
  obtain ⟨j, hj, rfl⟩ := h3 c (rch_N h7 _ _ hc) v
  have dj : D j ≤ k := by
    rcases Nat.lt_or_ge k (D j) with z | z
    · exact absurd hc ((h2 j hj).2.2.2.2.1 k z)
    · exact z
  have jn : j < n := by
    rcases Nat.lt_or_ge j n with z | z
    · exact z
    · have := h4 n j z hj; omega
  exact (h5 j jn hj).1
theorem WQ.fin {N : Nat} {nb : Nat → Nat → Bool} {op bd : Nat → Bool} {s : Nat} {st qu : Nat → Int32} {n t : Nat} {g D : Nat → Nat} (h : WQ N nb op bd s st qu n t g D) (hn : t ≤ n) : ∀ k c, rch N nb op s k c → bd c = false := by
  obtain ⟨h1, h2, h3, h4, h5, h6, h7, h8⟩ := h
  have key : ∀ k c, rch N nb op s k c → ¬ st c = -1 := by
    intro k
    induction k with
    | zero => intro c hc; rw [show c = s from hc]; exact h8
    | succ k ih =>
      rintro c (hc | ⟨cN, oc, a, ra, nba⟩)
      · exact ih c hc
      · obtain ⟨j, hj, rfl⟩ := h3 a (rch_N h7 _ _ ra) (ih a ra)
        exact (h5 j (by omega) hj).2 c cN oc nba
  intro k c hc
  obtain ⟨j, hj, rfl⟩ := h3 c (rch_N h7 _ _ hc) (key k c hc)
  exact (h5 j (by omega) hj).1
theorem cnN_upd {st : Nat → Int32} {b : Nat} {z : Int32} (hb : st b = -1) (hz : ¬ z = -1) : ∀ N, cnN (fun c => ¬ upd st b z c = -1) N = cnN (fun c => ¬ st c = -1) N + if b < N then 1 else 0 := by
  intro N
  induction N with
  | zero => rfl
  | succ N ih =>
    rw [cnN, cnN, ih]
    by_cases e : b = N
    · subst e
      rw [if_neg (Nat.lt_irrefl b), if_pos (show ¬ upd st b z b = -1 by rw [upd_eq]; exact hz), if_neg (show ¬ ¬ st b = -1 from fun y => y hb), if_pos (Nat.lt_succ_self b)]
    · have e1 : (if ¬ upd st b z N = -1 then 1 else 0) = (if ¬ st N = -1 then 1 else 0) := by rw [upd_ne (fun y => e y.symm)]
      have e2 : (if b < N + 1 then 1 else 0) = (if b < N then 1 else 0) := by
        by_cases y : b < N
        · rw [if_pos y, if_pos (by omega)]
        · rw [if_neg y, if_neg (by omega)]
      rw [e1, e2]
      omega
theorem WQ.add {N : Nat} {nb : Nat → Nat → Bool} {op bd : Nat → Bool} {s : Nat} {st qu : Nat → Int32} {n t : Nat} {g D : Nat → Nat} (h : WQ N nb op bd s st qu n t g D) (hN : N ≤ 100) (hn : n < t) {b : Nat} (hb : b < N) (ob : op b = true) (nbb : nb (g n) b = true) (sb : st b = -1) : WQ N nb op bd s (upd st b (nI (D n) + 1)) (upd qu t (nI b)) n (t + 1) (va_up g t b) (va_up D t (D n + 1)) ∧ t < 100 := by
  have hv := h.vis hn
  obtain ⟨h1, h2, h3, h4, h5, h6, h7, h8⟩ := h
  have t100 : t < 100 := by
    have := cnN_lt (fun c => ¬ st c = -1) hb (fun y => y sb)
    omega
  have dn := (h2 n hn).2.2.2.2.2
  have zne : ¬ nI (D n) + 1 = -1 := by rw [nI_s]; exact nI_ne1 (by omega)
  refine ⟨⟨?_, ?_, ?_, ?_, ?_, ?_, h7, ?_⟩, t100⟩
  · rw [cnN_upd sb zne, if_pos hb, ← h1]
  · intro j hj
    by_cases e : j = t
    · subst e
      rw [up_eq, up_eq, upd_eq, upd_eq, nI_s]
      refine ⟨hb, rfl, rfl, Or.inr ⟨hb, ob, g n, (h2 n hn).2.2.2.1, nbb⟩, fun a ha ra => ?_, by omega⟩
      exact hv a b (by omega) ra sb
    · have hj : j < t := by omega
      rw [up_ne e, up_ne e, upd_ne e]
      obtain ⟨k1, k2, k3, k4, k5, k6⟩ := h2 j hj
      have gb : g j ≠ b := by
        intro y
        rw [y, sb] at k3
        exact nI_ne1 (by omega) k3.symm
      rw [upd_ne gb]
      exact ⟨k1, k2, k3, k4, k5, k6⟩
  · intro c hc sc
    by_cases e : c = b
    · exact ⟨t, by omega, by rw [up_eq, e]⟩
    · rw [upd_ne e] at sc
      obtain ⟨j, hj, ej⟩ := h3 c hc sc
      exact ⟨j, by omega, by rw [up_ne (by omega)]; exact ej⟩
  · intro j k hjk hk
    by_cases e : k = t
    · subst e
      rw [up_eq]
      by_cases e2 : j = k
      · rw [e2, up_eq]; exact Nat.le_refl _
      · rw [up_ne e2]
        exact h6 hn j (by omega)
    · rw [up_ne e, up_ne (by omega)]
      exact h4 j k hjk (by omega)
  · intro j hj _
    have jt : j < t := by omega
    rw [up_ne (by omega)]
    refine ⟨(h5 j hj jt).1, fun c hc oc nc => ?_⟩
    by_cases e : c = b
    · rw [e, upd_eq]; exact zne
    · rw [upd_ne e]; exact (h5 j hj jt).2 c hc oc nc
  · intro _ j hj
    rw [up_ne (show n ≠ t by omega)]
    by_cases e : j = t
    · rw [e, up_eq]; exact Nat.le_refl _
    · rw [up_ne e]; exact h6 hn j (by omega)
  · by_cases e : s = b
    · rw [e, upd_eq]; exact zne
    · rw [upd_ne e]; exact h8
theorem WQ.next {N : Nat} {nb : Nat → Nat → Bool} {op bd : Nat → Bool} {s : Nat} {st qu : Nat → Int32} {n t : Nat} {g D : Nat → Nat} (h : WQ N nb op bd s st qu n t g D) (hn : n < t) (hb : bd (g n) = false) (ha : ∀ c, c < N → op c = true → nb (g n) c = true → ¬ st c = -1) : WQ N nb op bd s st qu (n + 1) t g D := by
  obtain ⟨h1, h2, h3, h4, h5, h6, h7, h8⟩ := h
  refine ⟨h1, h2, h3, h4, fun j hj jt => ?_, fun ht j hj => ?_, h7, h8⟩
  · by_cases e : j = n
    · subst e; exact ⟨hb, ha⟩
    · exact h5 j (by omega) jt
  · have := h6 hn j hj
    have := h4 n (n + 1) (by omega) ht
    omega
/-! cells beside -/
theorem bd_n {X : StX} {M : StM} (hB : RB X M) {a : Nat} (ha : a < nW M * nH M) : mBorder M (nI a) = false → (1 ≤ a % nW M ∧ a % nW M + 2 ≤ nW M) ∧ (1 ≤ a / nW M ∧ a / nW M + 2 ≤ nH M) := by
  obtain ⟨ew, w4, w10⟩ := hB.w
  obtain ⟨eh, h4, h10⟩ := hB.h
  obtain ⟨-, N100, w0⟩ := hB.wh
  have m1 := Nat.mod_lt a w0
  have m2 : a / nW M < nH M := Nat.div_lt_of_lt_mul ha
  have p1 : nI (nW M) - 1 = nI (nW M - 1) := by rw [show nW M = nW M - 1 + 1 by omega, nI_p']; rfl
  have p2 : nI (nH M) - 1 = nI (nH M - 1) := by rw [show nH M = nH M - 1 + 1 by omega, nI_p']; rfl
  rw [mBorder, ew, eh, rmd_n (by omega) w0 (by omega), div_n (by omega) w0 (by omega), p1, p2, show (0 : Int32) = nI 0 from rfl, Bool.or_eq_false_iff, Bool.or_eq_false_iff, Bool.or_eq_false_iff, decide_eq_false_iff_not, decide_eq_false_iff_not, decide_eq_false_iff_not, decide_eq_false_iff_not, nI_eq (by omega) (by omega), nI_eq (by omega) (by omega), nI_eq (divlt (by omega)) (by omega), nI_eq (divlt (by omega)) (by omega)]
  generalize a / nW M = u at *
  generalize a % nW M = v at *
  omega
theorem in11 : ∀ x, x < 11 → ∀ y, y < 11 → (mIn (nI x - nI y) (-1) 1 = true ↔ x ≤ y + 1 ∧ y ≤ x + 1) := by decide +kernel
theorem nb_n {X : StX} {M : StM} (hB : RB X M) {a b : Nat} (ha : a < nW M * nH M) (hb : b < nW M * nH M) : nbM M a b = true ↔ (a % nW M ≤ b % nW M + 1 ∧ b % nW M ≤ a % nW M + 1) ∧ (a / nW M ≤ b / nW M + 1 ∧ b / nW M ≤ a / nW M + 1) := by
  obtain ⟨ew, w4, w10⟩ := hB.w
  obtain ⟨eh, h4, h10⟩ := hB.h
  obtain ⟨-, N100, w0⟩ := hB.wh
  have m1 := Nat.mod_lt a w0
  have m2 : a / nW M < nH M := Nat.div_lt_of_lt_mul ha
  have m3 := Nat.mod_lt b w0
  have m4 : b / nW M < nH M := Nat.div_lt_of_lt_mul hb
  rw [nbM, mBeside, ew, rmd_n (by omega) w0 (by omega), rmd_n (by omega) w0 (by omega), div_n (by omega) w0 (by omega), div_n (by omega) w0 (by omega), Bool.and_eq_true, in11 _ (by omega) _ (by omega), in11 _ (by omega) _ (by omega)]
/-- the cell x - 1 rows down, y - 1 columns on -/
def bes (w a x y : Nat) : Nat := w * (a / w + x - 1) + (a % w + y - 1)
theorem bes_md {w a x y : Nat} (h1 : 1 ≤ a % w ∧ a % w + 2 ≤ w) (hy : y < 3) : bes w a x y % w = a % w + y - 1 ∧ bes w a x y / w = a / w + x - 1 := by
  have l : a % w + y - 1 < w := by omega
  have w0 : 0 < w := by omega
  rw [bes, Nat.mul_add_mod, Nat.mod_eq_of_lt l, Nat.mul_add_div w0, Nat.div_eq_of_lt l]
  exact ⟨rfl, by omega⟩
theorem bes_i {w a x y : Nat} (h1 : 1 ≤ a % w) (h2 : 1 ≤ a / w) : nI a + (nI x - 1) * nI w + (nI y - 1) = nI (bes w a x y) := by
  obtain ⟨r, hr⟩ : ∃ r, a / w = r + 1 := ⟨a / w - 1, by omega⟩
  obtain ⟨c, hc⟩ : ∃ c, a % w = c + 1 := ⟨a % w - 1, by omega⟩
  have ea : a = w * (r + 1) + (c + 1) := by rw [← hr, ← hc]; exact (Nat.div_add_mod a w).symm
  have eb : bes w a x y = w * (r + x) + (c + y) := by
    rw [bes, hr, hc, show r + 1 + x - 1 = r + x by omega, show c + 1 + y - 1 = c + y by omega]
  rw [eb, ea, ← nI_add, ← nI_add (w * (r + x)), ← pk_mul, ← pk_mul, ← nI_add r x, ← nI_add c y, ← nI_s r, ← nI_s c]
  grind
theorem bes_of {w a b : Nat} (h : (a % w ≤ b % w + 1 ∧ b % w ≤ a % w + 1) ∧ (a / w ≤ b / w + 1 ∧ b / w ≤ a / w + 1)) : ∃ x y, x < 3 ∧ y < 3 ∧ b = bes w a x y := by
  have key : ∀ u v : Nat, u ≤ v + 1 ∧ v ≤ u + 1 → v + 1 - u < 3 ∧ u + (v + 1 - u) - 1 = v := by omega
  obtain ⟨k1, k2⟩ := key _ _ h.1
  obtain ⟨k3, k4⟩ := key _ _ h.2
  refine ⟨b / w + 1 - a / w, b % w + 1 - a % w, k3, k1, ?_⟩
  rw [bes, k2, k4]
  exact (Nat.div_add_mod b w).symm
theorem pBorder_eq {X : StX} {M : StM} (hB : RB X M) (c : Int32) : pBorder X c = mBorder M c := by
  rw [pBorder, mBorder, pCol_eq hB, pRow_eq hB, hB.1, hB.2.1]
  ac_rfl
def xWy (X : StX) (e l s qu : Nat → Int32) (t : Nat) : StX := xI (xA (xA (xH X e l) 14 s) 13 qu) 12 (nI t)
theorem xWy_tw (X : StX) (e l s qu s' qu' : Nat → Int32) (t : Nat) (z : Int32) : xI (xA (xA (xWy X e l s qu t) 14 s') 13 qu') 12 z = xI (xA (xA (xH X e l) 14 s') 13 qu') 12 z := by
  simp only [xWy, xI, xA]
  congr 1
  · funext j; simp only [va_up]; split <;> rfl
  · congr 1
    funext j
    simp only [va_up]
    by_cases c : j = 13
    · simp [c]
    · by_cases c2 : j = 14
      · simp [c2]
      · simp [c, c2]
theorem m13 {x : Nat} (h : x < 3) : ¬ (1 : Int32) < nI x - 1 := by
  have : x = 0 ∨ x = 1 ∨ x = 2 := by omega
  rcases this with rfl | rfl | rfl <;> decide
theorem m1s (x : Nat) : nI x - 1 + 1 = nI (x + 1) - 1 := by rw [← nI_s]; grind
/-- a state within the spreading from a -/
def SpJ (M : StM) (op : Nat → Bool) (s n a k : Nat) (v : Nat → Prop) (st qu : Nat → Int32) (t : Nat) : Prop := ∃ g D, WQ (nW M * nH M) (nbM M) op (bdM M) s st qu n t g D ∧ n < t ∧ g n = a ∧ D n = k ∧ ∀ b, b < nW M * nH M → v b → op b = true → ¬ st b = -1
theorem ct_Fall_spread {E : EvT} {q : Nat → Nat} {d : Nat} {X : StX} {M : StM} (hB : RB X M) (hA : RAs X M) {L s n a k t : Nat} {e l st qu : Nat → Int32} (ha : a < nW M * nH M) (hb : bdM M a = false) (h : SpJ M (fun c => decide (nI L < a_heightOf M c)) s n a k (fun _ => False) st qu t) : C_Fall_spread E q (d + 2) (nI a) (nI L) (xWy X e l st qu t) (fun X1 => ∃ st' qu' t' g D, X1 = xWy X e l st' qu' t' ∧ WQ (nW M * nH M) (nbM M) (fun c => decide (nI L < a_heightOf M c)) (bdM M) s st' qu' (n + 1) t' g D) := by
  obtain ⟨ew, w4, w10⟩ := hB.w
  obtain ⟨eh, h4, h10⟩ := hB.h
  obtain ⟨eN, N100, w0⟩ := hB.wh
  obtain ⟨⟨b1, b2⟩, b3, b4⟩ := bd_n hB ha hb
  have xw := hB.xw
  have bN : ∀ x y, x < 3 → y < 3 → bes (nW M) a x y < nW M * nH M := by
    intro x y hx hy
    have := (bes_md (a := a) (x := x) ⟨b1, b2⟩ hy).2
    have z : bes (nW M) a x y / nW M < nH M := by omega
    rwa [Nat.div_lt_iff_lt_mul w0, Nat.mul_comm] at z
  have nbB : ∀ x y, x < 3 → y < 3 → nbM M a (bes (nW M) a x y) = true := by
    intro x y hx hy
    obtain ⟨z1, z2⟩ := bes_md (a := a) (x := x) ⟨b1, b2⟩ hy
    rw [nb_n hB ha (bN x y hx hy), z1, z2]
    omega
  refine en_Fall_spread ?_
  have outer := up_s (W := 3) (T := fun x (z : (Nat → Int32) × (Nat → Int32) × Nat) => T_Fall_spread_2 E q (d + 2) (fun X1 => ∃ st' qu' t' g D, X1 = xWy X e l st' qu' t' ∧ WQ (nW M * nH M) (nbM M) (fun c => decide (nI L < a_heightOf M c)) (bdM M) s st' qu' (n + 1) t' g D) (xWy X e l z.1 z.2.1 z.2.2) (nI a) (nI L) (nI x - 1)) (J := fun x z => SpJ M (fun c => decide (nI L < a_heightOf M c)) s n a k (fun b => ∃ x' y, x' < x ∧ y < 3 ∧ b = bes (nW M) a x' y) z.1 z.2.1 z.2.2) ?_ ?_ 0 (st, qu, t) (by omega) ?_
  · exact outer
  · rintro ⟨st, qu, t⟩ ⟨g, D, hw, hn, rfl, rfl, hv⟩
    refine sg_Fall_spread_2 ⟨fun _ => ⟨st, qu, t, g, D, rfl, hw.next hn hb (fun c hc oc nc => ?_)⟩, fun z => absurd (by decide) z⟩
    obtain ⟨x, y, hx, hy, eb⟩ := bes_of ((nb_n hB ha hc).mp nc)
    exact hv c hc ⟨x, y, hx, hy, eb⟩ oc
  · rintro x ⟨st, qu, t⟩ hx hJ kk
    refine sg_Fall_spread_2 ⟨fun z => absurd z (m13 hx), fun _ => ?_⟩
    have inner := up_s (W := 3) (T := fun y (z : (Nat → Int32) × (Nat → Int32) × Nat) => T_Fall_spread_10 E q (d + 2) (fun X1 => ∃ st' qu' t' g D, X1 = xWy X e l st' qu' t' ∧ WQ (nW M * nH M) (nbM M) (fun c => decide (nI L < a_heightOf M c)) (bdM M) s st' qu' (n + 1) t' g D) (xWy X e l z.1 z.2.1 z.2.2) (nI a) (nI L) (nI x - 1) (nI y - 1)) (J := fun y z => SpJ M (fun c => decide (nI L < a_heightOf M c)) s n a k (fun b => (∃ x' y, x' < x ∧ y < 3 ∧ b = bes (nW M) a x' y) ∨ ∃ y', y' < y ∧ b = bes (nW M) a x y') z.1 z.2.1 z.2.2) ?_ ?_ 0 (st, qu, t) (by omega) ?_
    · exact inner
    · rintro ⟨st, qu, t⟩ ⟨g, D, hw, hn, e1, e2, hv⟩
      refine sg_Fall_spread_10 ⟨fun _ => ?_, fun z => absurd (by decide) z⟩
      rw [m1s]
      refine kk (st, qu, t) ⟨g, D, hw, hn, e1, e2, fun b hb y ob => hv b hb ?_ ob⟩
      obtain ⟨x', y, hx', hy, eb⟩ := y
      by_cases c : x' = x
      · subst c; exact Or.inr ⟨y, hy, eb⟩
      · exact Or.inl ⟨x', y, by omega, hy, eb⟩
    · rintro y ⟨st, qu, t⟩ hy ⟨g, D, hw, hn, e1, e2, hv⟩ kk2
      have hw : WQ (nW M * nH M) (nbM M) (fun c => decide (nI L < a_heightOf M c)) (bdM M) s st qu n t g D := hw
      have hn : n < t := hn
      have bb := bN x y hx hy
      have skip : (op : (fun c => decide (nI L < a_heightOf M c)) (bes (nW M) a x y) = true → ¬ st (bes (nW M) a x y) = -1) → T_Fall_spread_10 E q (d + 2) (fun X1 => ∃ st' qu' t' g D, X1 = xWy X e l st' qu' t' ∧ WQ (nW M * nH M) (nbM M) (fun c => decide (nI L < a_heightOf M c)) (bdM M) s st' qu' (n + 1) t' g D) (xWy X e l st qu t) (nI a) (nI L) (nI x - 1) (nI y - 1 + 1) := by
        intro z
        rw [m1s]
        refine kk2 (st, qu, t) ⟨g, D, hw, hn, e1, e2, fun b hb y' ob => ?_⟩
        rcases y' with y' | ⟨y', h1, h2⟩
        · exact hv b hb (Or.inl y') ob
        · by_cases c : y' = y
          · subst c; subst h2; exact z ob
          · exact hv b hb (Or.inr ⟨y', by omega, h2⟩) ob
      refine sg_Fall_spread_10 ?_
      rw [show xs_Plan_width (xWy X e l st qu t) = nI (nW M) from xw, bes_i b1 b3, ixn (show bes (nW M) a x y < 2 ^ 31 by omega), ixn (show a < 2 ^ 31 by omega), pCell_eq (show RB (xWy X e l st qu t) M from hB)]
      show (_ → _) ∧ (_ → ((100 ≤ nI t → _) ∧ (¬ 100 ≤ nI t → _)))
      have pc : mCell M (nI (bes (nW M) a x y)) = true := (mCell_n ew eh w10 h10).mpr ⟨_, bb, rfl⟩
      have ht : t ≤ 100 := by
        have := cnN_n (fun c => ¬ st c = -1) (nW M * nH M)
        have := hw.1
        omega
      refine ⟨fun z => absurd z (m13 hy), fun _ => ⟨fun z => skip (fun _ sb => ?_), fun z => ⟨fun y => absurd (pc.symm.trans y) (by decide), fun _ => ⟨bnd (n := 100) (by omega) (by omega) rfl, fun y => skip (fun _ => y), fun sb => ⟨fun hy2 => skip (fun ob => ?_), fun hy2 => ?_⟩⟩⟩⟩⟩
      · have := cnN_lt (fun c => ¬ st c = -1) bb (fun y => y sb)
        have h1 := hw.1
        exact absurd z (nle_nI (n := 100) (by omega) (by omega) rfl)
      · have hy3 : a_heightOf M (bes (nW M) a x y) ≤ nI L := by have := hA.1.2.2.2.2.2.1; rw [← this]; exact hy2
        exact absurd (of_decide_eq_true ob) (Int32.not_lt.mpr hy3)
      · have hy3 : ¬ a_heightOf M (bes (nW M) a x y) ≤ nI L := by have := hA.1.2.2.2.2.2.1; rw [← this]; exact hy2
        obtain ⟨w2, t100⟩ := hw.add N100 hn bb (decide_eq_true (Int32.not_le.mp hy3)) (by rw [e1]; exact nbB x y hx hy) sb
        refine ⟨bnd (n := 100) (by omega) (by omega) rfl, bnd (n := 100) t100 (by omega) rfl, ?_⟩
        rw [m1s, xWy_tw]
        show T_Fall_spread_10 E q (d + 2) _ (xI (xA (xA (xH X e l) 14 (upd st (bes (nW M) a x y) (st a + 1))) 13 (upd qu (ix (nI t)) (nI (bes (nW M) a x y)))) 12 (nI t + 1)) _ _ _ _
        have sa : st a = nI (D n) := by rw [← e1]; exact (hw.2.1 n hn).2.2.1
        rw [ixn (show t < 2 ^ 31 by omega), nI_s, sa]
        refine kk2 (_, _, t + 1) ⟨_, _, w2, by show n < t + 1; omega, by rw [up_ne (by omega)]; exact e1, by rw [up_ne (by omega)]; exact e2, fun b hb y' ob => ?_⟩
        have dn := (hw.2.1 n hn).2.2.2.2.2
        by_cases c : b = bes (nW M) a x y
        · subst c
          show ¬ upd st _ _ _ = -1
          rw [upd_eq, nI_s]
          exact nI_ne1 (by omega)
        · show ¬ upd st _ _ _ = -1
          rw [upd_ne c]
          rcases y' with y' | ⟨y', h1, h2⟩
          · exact hv b hb (Or.inl y') ob
          · by_cases c2 : y' = y
            · subst c2; exact absurd h2 c
            · exact hv b hb (Or.inr ⟨y', by omega, h2⟩) ob
    · obtain ⟨g, D, hw, hn, e1, e2, hv⟩ := hJ
      refine ⟨g, D, hw, hn, e1, e2, fun b hb y ob => ?_⟩
      rcases y with y | ⟨y', h1, -⟩
      · exact hv b hb y ob
      · exact absurd h1 (Nat.not_lt_zero _)
  · obtain ⟨g, D, hw, hn, e1, e2, hv⟩ := h
    refine ⟨g, D, hw, hn, e1, e2, fun b hb y ob => ?_⟩
    obtain ⟨x', y, hx', -⟩ := y
    exact absurd hx' (Nat.not_lt_zero _)
theorem ct_Fall_laidBy {E : EvT} {q : Nat → Nat} {d : Nat} {X : StX} {t : Int32} : C_Fall_laidBy E q d t X (fun r X1 => r = nI (laidN (xa_Fall_latest X) t 8) ∧ X1 = X) := by
  refine en_Fall_laidBy ?_
  have count := up_s (W := 8) (T := fun v (_ : Unit) => T_Fall_laidBy_4 E q d (fun r X1 => r = nI (laidN (xa_Fall_latest X) t 8) ∧ X1 = X) X t (nI (laidN (xa_Fall_latest X) t v)) (nI v)) (J := fun _ _ => True) ?_ ?_ 0 () (by omega) trivial
  · exact count
  · rintro - -
    exact sg_Fall_laidBy_4 ⟨fun _ => ⟨rfl, rfl⟩, fun z => absurd (by decide) z⟩
  · rintro v - hv - kk
    refine sg_Fall_laidBy_4 ⟨fun z => absurd z (nle_nI (n := 8) hv (by omega) rfl), fun _ => ⟨bnd (n := 8) hv (by omega) rfl, ?_⟩⟩
    rw [ixn (show v < 2 ^ 31 by omega), nI_s]
    have := kk () trivial
    rw [laidN_s (n := v)] at this
    refine ⟨fun z => ?_, fun z => ?_⟩
    · rw [if_pos z] at this
      exact this
    · rw [if_neg z] at this
      rw [nI_s]
      exact this
theorem ct_City_way {E : EvT} {q : Nat → Nat} {d : Nat} {X : StX} {M : StM} (hB : RB X M) (hA : RAs X M) {i : Int32} : C_City_way E q (d + 4) i X (fun r X1 => WayV M i r ∧ ∃ e l s qu t, X1 = xI (xA (xA (xH X e l) 14 s) 13 qu) 12 t) := by
  obtain ⟨eN, N100, w0⟩ := hB.wh
  obtain ⟨ew, w4, w10⟩ := hB.w
  obtain ⟨eh, h4, h10⟩ := hB.h
  have bad : ¬ wayOk M i → WayV M i (-1) := fun z => ⟨fun _ => rfl, fun y => absurd y z⟩
  have self : ∀ e l, xH X e l = xI (xA (xA (xH X e l) 14 (xa_Fall_steps (xH X e l))) 13 (xa_Fall_queue (xH X e l))) 12 (xs_Fall_queued (xH X e l)) := by
    intro e l
    show xH X e l = xI (xA (xA (xH X e l) 14 ((xH X e l).2.1 14)) 13 ((xH X e l).2.1 13)) 12 ((xH X e l).1 12)
    rw [xA_self, xA_self, xI_self]
  have e7 := hA.1.2.2.2.2.2.2.1
  have e8 := hA.1.2.2.2.2.2.2.2.1
  have e9 := hA.1.2.2.2.2.2.2.2.2
  have hn := hA.2.1.2
  refine en_City_way ⟨fun z => ⟨bad (fun y => ?_), _, _, _, _, _, by rw [← self, xH_self]⟩, fun z => ?_⟩
  · rw [e7] at z
    have h1 := y.1
    have h2 := y.2.1
    grind [mIn]
  rw [e7] at z
  have i0 : 0 ≤ i := by grind [mIn]
  have i1 : i < s_hollows M := by grind [mIn]
  obtain ⟨en, n40⟩ := cnt (n := 40) rfl (by omega) hn.1 hn.2
  have hi : ix i < ix (s_hollows M) := ix_lt i0 (by rw [← en]; exact i1) (by omega)
  have bi : 0 ≤ i ∧ i < 40 := ⟨i0, Int32.lt_of_lt_of_le i1 hn.2⟩
  obtain ⟨ho1, ho2⟩ := hA.2.2.2.2.1 (ix i) hi
  obtain ⟨c0, hc0, ec0⟩ := (mCell_n ew eh w10 h10).mp ho1
  have hwc : wayC M i = c0 := by rw [wayC, ec0, ixn (by omega)]
  refine ct_Fall_reckon hA _ (fun H e l => ⟨fun _ => ⟨bad (fun y => H y.2.2), _, _, _, _, _, self e l⟩, fun z => Bool.noConfusion z⟩) (fun H e l he hl => ⟨fun z => Bool.noConfusion z, fun _ => ?_⟩)
  have ok : wayOk M i := ⟨i0, i1, H⟩
  refine en_Fall_stepsOut ?_
  rw [show xa_Fall_hollowLayer (xH X e l) = a_hollowLayer M from e9]
  refine ⟨bi, ho2, ?_⟩
  rw [show xa_Fall_earliest (xH X e l) (ix (a_hollowLayer M (ix i))) = wayT M i from he _ (ix_lt ho2.1 ho2.2 (by omega))]
  refine mIx ct_Fall_laidBy (fun r X1 h => ?_)
  obtain ⟨rfl, rfl⟩ := h
  rw [show laidN (xa_Fall_latest (xH X e l)) (wayT M i) 8 = laidN (hL M 7) (wayT M i) 8 from laid8 _ (fun v hv => hl v hv), show xa_Fall_hollowCell (xH X e l) (ix i) = nI c0 from (congrFun e8 _).trans ec0, xA_tw, ixn (show c0 < 2 ^ 31 by omega)]
  refine ⟨bnd (n := 100) (by omega) (by omega) rfl, ?_⟩
  have fin : ∀ s qu t r, WayR (wayRc M i) (bdM M) r → WayV M i r ∧ ∃ e' l' s' qu' t', xWy X e l s qu t = xI (xA (xA (xH X e' l') 14 s') 13 qu') 12 t' := fun s qu t r h => ⟨⟨fun z => absurd ok z, fun _ => h⟩, e, l, s, qu, _, rfl⟩
  have loop : ∀ m n st qu t g D, n + m = 101 → WQ (nW M * nH M) (nbM M) (opM M (wayT M i)) (bdM M) (wayC M i) st qu n t g D → T_Fall_stepsOut_55 E q (d + 3) (fun r X1 => WayV M i r ∧ ∃ e l s qu t, X1 = xI (xA (xA (xH X e l) 14 s) 13 qu) 12 t) (xWy X e l st qu t) (nI (laidN (hL M 7) (wayT M i) 8)) (nI n) := by
    intro m
    induction m with
    | zero =>
      intro n st qu t g D hnm hw
      have := cnN_n (fun c => ¬ st c = -1) (nW M * nH M)
      have h1 := hw.1
      refine sg_Fall_stepsOut_55 ⟨fun _ => fin _ _ _ _ (Or.inr ⟨hw.fin (by omega), rfl⟩), fun z => absurd (by show nI t ≤ nI n; exact nI_le (by omega) (by omega)) z⟩
    | succ m ih =>
      intro n st qu t g D hnm hw
      have := cnN_n (fun c => ¬ st c = -1) (nW M * nH M)
      have h1 := hw.1
      refine sg_Fall_stepsOut_55 ⟨fun z => fin _ _ _ _ (Or.inr ⟨hw.fin ?_, rfl⟩), fun z => ?_⟩
      · exact (nI_leI (by omega) (by omega)).mp (show nI t ≤ nI n from z)
      have hnt : n < t := by
        rcases Nat.lt_or_ge n t with y | y
        · exact y
        · exact absurd (show xs_Fall_queued (xWy X e l st qu t) ≤ nI n from nI_le y (by omega)) z
      obtain ⟨k1, k2, k3, k4, k5, k6⟩ := hw.2.1 n hnt
      refine ⟨fun y => absurd y (nle_nI (n := 100) (by omega) (by omega) rfl), fun _ => ⟨bnd (n := 100) (by omega) (by omega) rfl, ?_⟩⟩
      rw [ixn (show n < 2 ^ 31 by omega), show xa_Fall_queue (xWy X e l st qu t) n = nI (g n) from k2, pBorder_eq (show RB (xWy X e l st qu t) M from hB), ixn (show g n < 2 ^ 31 by omega)]
      refine ⟨fun nb => ?_, fun yb => ⟨bnd (n := 100) (by omega) (by omega) rfl, ?_⟩⟩
      · refine mVx (ct_Fall_spread hB hA (s := wayC M i) (n := n) (a := g n) (k := D n) k1 nb ⟨g, D, hw, hnt, rfl, rfl, fun b _ z => z.elim⟩) (fun X1 h => ?_)
        obtain ⟨st', qu', t', g', D', rfl, hw'⟩ := h
        rw [nI_s]
        exact ih (n + 1) st' qu' t' g' D' (by omega) hw'
      · rw [show xa_Fall_steps (xWy X e l st qu t) (g n) = nI (D n) from k3]
        exact fin _ _ _ _ (Or.inl ⟨D n, g n, k4, yb, fun j hj c hc => hw.low hnt j hj c hc, rfl⟩)
  refine loop 101 0 _ _ 1 (fun _ => c0) (fun _ => 0) rfl ⟨?_, ?_, ?_, ?_, ?_, ?_, ?_, ?_⟩
  · have key : ∀ N, N ≤ 100 → cnN (fun c => ¬ upd (fillF 100 (-1) (xa_Fall_steps (xH X e l))) c0 0 c = -1) N = if c0 < N then 1 else 0 := by
      intro N
      induction N with
      | zero => intro _; rfl
      | succ N ih =>
        intro hN
        rw [cnN, ih (by omega)]
        by_cases y : N = c0
        · subst y
          rw [if_neg (Nat.lt_irrefl N), if_pos (show ¬ upd (fillF 100 (-1) (xa_Fall_steps (xH X e l))) N 0 N = -1 by rw [upd_eq]; decide), if_pos (Nat.lt_succ_self _)]
        · rw [if_neg (show ¬ ¬ upd (fillF 100 (-1) (xa_Fall_steps (xH X e l))) c0 0 N = -1 by rw [upd_ne y, fillF, if_pos (by omega)]; decide)]
          by_cases y2 : c0 < N
          · rw [if_pos y2, if_pos (by omega)]
          · rw [if_neg y2, if_neg (by omega)]
    rw [key _ N100, if_pos hc0]
  · intro j hj
    have : j = 0 := by omega
    subst this
    exact ⟨hc0, upd_eq, upd_eq, hwc.symm, fun a ha => absurd ha (Nat.not_lt_zero a), Nat.le_refl _⟩
  · intro c hc sc
    by_cases y : c = c0
    · exact ⟨0, by omega, y.symm⟩
    · exact absurd (by rw [upd_ne y, fillF, if_pos (by omega)]) sc
  · intro j k _ _; exact Nat.le_refl _
  · intro j hj; exact absurd hj (Nat.not_lt_zero j)
  · intro _ j _; exact Nat.zero_le _
  · rw [hwc]; exact hc0
  · rw [hwc, upd_eq]; decide
