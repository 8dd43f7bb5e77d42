/-! the way out: by layers -/
def rch (N : Nat) (nb : Nat → Nat → Bool) (op : Nat → Bool) (s : Nat) : Nat → Nat → Prop
  | 0, c => c = s
  | k + 1, c => rch N nb op s k c ∨ (c < N ∧ op c = true ∧ ∃ a, rch N nb op s k a ∧ nb a c = true)
theorem rch_up {N : Nat} {nb : Nat → Nat → Bool} {op : Nat → Bool} {s k c : Nat} (m : Nat) (h : rch N nb op s k c) : rch N nb op s (k + m) c := by
  induction m with
  | zero => exact h
  | succ m ih => exact Or.inl ih
theorem rch_le {N : Nat} {nb : Nat → Nat → Bool} {op : Nat → Bool} {s j k c : Nat} (hj : j ≤ k) (h : rch N nb op s j c) : rch N nb op s k c := by
  have := rch_up (k - j) h
  rwa [show j + (k - j) = k by omega] at this
theorem rch_N {N : Nat} {nb : Nat → Nat → Bool} {op : Nat → Bool} {s : Nat} (hs : s < N) : ∀ k c, rch N nb op s k c → c < N := by
  intro k
  induction k with
  | zero => intro c h; rw [show c = s from h]; exact hs
  | succ k ih =>
    rintro c (h | h)
    · exact ih c h
    · exact h.1
theorem rch_st {N : Nat} {nb : Nat → Nat → Bool} {op : Nat → Bool} {s j : Nat} (h : ∀ c, rch N nb op s (j + 1) c → rch N nb op s j c) : ∀ m c, rch N nb op s (j + m) c → rch N nb op s j c := by
  intro m
  induction m with
  | zero => intro c h; exact h
  | succ m ih =>
    rintro c (y | ⟨y1, y2, a, y3, y4⟩)
    · exact ih c y
    · exact h c (Or.inr ⟨y1, y2, a, ih a y3, y4⟩)
theorem rch_end {N : Nat} {nb : Nat → Nat → Bool} {op : Nat → Bool} {s : Nat} (hs : s < N) (k c : Nat) (h : rch N nb op s k c) : rch N nb op s (N - 1) c := by
  have dec : ∀ k, DecidablePred (rch N nb op s k) := fun k c => Classical.propDecidable _
  have key : ∀ k, (∃ j, j < k ∧ ∀ c, rch N nb op s (j + 1) c → rch N nb op s j c) ∨ k + 1 ≤ @cnN (rch N nb op s k) (dec k) N := by
    intro k
    induction k with
    | zero =>
      right
      have := (@cnN_le (fun _ => False) (rch N nb op s 0) (fun _ => instDecidableFalse) (dec 0) (fun _ z => z.elim) N).2 ⟨s, hs, rfl, fun z => z⟩
      omega
    | succ k ih =>
      rcases ih with ⟨j, hj, h⟩ | h
      · exact Or.inl ⟨j, by omega, h⟩
      · rcases Classical.em (∀ c, rch N nb op s (k + 1) c → rch N nb op s k c) with z | z
        · exact Or.inl ⟨k, by omega, z⟩
        · right
          have : ∃ c, c < N ∧ rch N nb op s (k + 1) c ∧ ¬ rch N nb op s k c := by
            apply Classical.byContradiction
            intro y
            apply z
            intro c hc
            apply Classical.byContradiction
            intro x
            exact y ⟨c, rch_N hs _ c hc, hc, x⟩
          have := (@cnN_le (rch N nb op s k) (rch N nb op s (k + 1)) (dec k) (dec (k + 1)) (fun _ z => Or.inl z) N).2 this
          omega
  rcases key (N - 1) with ⟨j, hj, z⟩ | z
  · rcases Nat.le_total k j with y | y
    · exact rch_le (by omega) (rch_le y h)
    · have := rch_st z (k - j) c (by rwa [show j + (k - j) = k by omega])
      exact rch_le (by omega) this
  · apply Classical.byContradiction
    intro y
    have := @cnN_lt (rch N nb op s (N - 1)) (dec (N - 1)) N c (rch_N hs k c h) y
    omega
def WayR (rc : Nat → Nat → Prop) (bd : Nat → Bool) (r : Int32) : Prop := (∃ k c, rc k c ∧ bd c = true ∧ (∀ j, j < k → ∀ c, rc j c → bd c = false) ∧ r = nI k) ∨ ((∀ k c, rc k c → bd c = false) ∧ r = -2)
theorem WayR.one {rc : Nat → Nat → Prop} {bd : Nat → Bool} {r r' : Int32} (h : WayR rc bd r) (h' : WayR rc bd r') : r = r' := by
  rcases h with ⟨k, c, h1, h2, h3, rfl⟩ | ⟨h1, rfl⟩ <;> rcases h' with ⟨k', c', g1, g2, g3, rfl⟩ | ⟨g1, rfl⟩
  · rcases Nat.lt_trichotomy k k' with z | z | z
    · exact absurd ((g3 k z c h1).symm.trans h2) (by decide)
    · rw [z]
    · exact absurd ((h3 k' z c' g1).symm.trans g2) (by decide)
  · exact absurd ((g1 k c h1).symm.trans h2) (by decide)
  · exact absurd ((h1 k' c' g1).symm.trans g2) (by decide)
  · rfl
/-- a cell's steps, known up to layer k -/
def stC (rc : Nat → Nat → Prop) (st : Nat → Int32) (c k : Nat) : Prop := (st c = -1 ∧ ¬ rc k c) ∨ ∃ j, j ≤ k ∧ st c = nI j ∧ rc j c ∧ ∀ i, i < j → ¬ rc i c
theorem stC.rc {rc : Nat → Nat → Prop} {st : Nat → Int32} {c k : Nat} (up : ∀ j k c, j ≤ k → rc j c → rc k c) (h : stC rc st c k) (hr : rc k c) : ∃ j, j ≤ k ∧ st c = nI j ∧ rc j c ∧ ∀ i, i < j → ¬ rc i c := by
  rcases h with ⟨-, h⟩ | h
  · exact absurd hr h
  · exact h
theorem stC.more {rc : Nat → Nat → Prop} {st : Nat → Int32} {c k : Nat} (h : stC rc st c k) (h2 : st c = -1 → ¬ rc (k + 1) c) : stC rc st c (k + 1) := by
  rcases h with ⟨h, -⟩ | ⟨j, h⟩
  · exact Or.inl ⟨h, h2 h⟩
  · exact Or.inr ⟨j, by omega, h.2⟩
/-- how many layers lie for sure by an hour -/
def laidN (l : Nat → Int32) (t : Int32) (n : Nat) : Nat := cnN (fun v => ¬ t < l v) n
theorem laidN_s {l : Nat → Int32} {t : Int32} {n : Nat} : laidN l t (n + 1) = laidN l t n + if t < l n then 0 else 1 := by
  rw [laidN, cnN, laidN]
  by_cases c : t < l n
  · rw [if_pos c, if_neg (fun z => z c)]
  · rw [if_neg c, if_pos c]
def nbM (M : StM) (a b : Nat) : Bool := mBeside M (nI a) (nI b)
def opM (M : StM) (t : Int32) (c : Nat) : Bool := decide (nI (laidN (hL M 7) t 8) < a_heightOf M c)
def bdM (M : StM) (c : Nat) : Bool := mBorder M (nI c)
def wayT (M : StM) (i : Int32) : Int32 := hE M 7 (ix (a_hollowLayer M (ix i)))
def wayC (M : StM) (i : Int32) : Nat := ix (a_hollowCell M (ix i))
def wayRc (M : StM) (i : Int32) : Nat → Nat → Prop := rch (nW M * nH M) (nbM M) (opM M (wayT M i)) (wayC M i)
def wayOk (M : StM) (i : Int32) : Prop := 0 ≤ i ∧ i < s_hollows M ∧ HrOK M
def WayV (M : StM) (i r : Int32) : Prop := (¬ wayOk M i → r = -1) ∧ (wayOk M i → WayR (wayRc M i) (bdM M) r)
theorem WayV.one {M : StM} {i r r' : Int32} (h : WayV M i r) (h' : WayV M i r') : r = r' := by
  rcases Classical.em (wayOk M i) with z | z
  · exact (h.2 z).one (h'.2 z)
  · rw [h.1 z, h'.1 z]
def mWy (M : StM) (e l s : Nat → Int32) : StM := sA (mH M e l) 99 s
theorem laid8 {l l' : Nat → Int32} (t : Int32) : ∀ {n : Nat}, (∀ v, v < n → l v = l' v) → laidN l t n = laidN l' t n := by
  intro n
  induction n with
  | zero => intro _; rw [laidN, laidN, cnN, cnN]
  | succ n ih =>
    intro h
    have e := h n (Nat.lt_succ_self n)
    have i := ih (fun v hv => h v (Nat.lt_succ_of_lt hv))
    rw [laidN_s, laidN_s, i]
    by_cases c : t < l' n
    · rw [if_pos c, if_pos (by rw [e]; exact c)]
    · rw [if_neg c, if_neg (by rw [e]; exact c)]
theorem laid_le {l : Nat → Int32} (t : Int32) (n : Nat) : laidN l t n ≤ n := cnN_n _ n
