/-! reading a text of rules: a plain descent -/
abbrev PR : Type := (Nat × Nat) ⊕ (Nat × List Ins)
def ch (L : Nat) (bt : Nat → Nat) (p : Nat) : Nat := if p < L then bt p else 256
def dgt (c : Nat) : Bool := decide (48 ≤ c ∧ c ≤ 57)
def pDig (L : Nat) (bt : Nat → Nat) : Nat → Nat → Nat → (Nat × Nat) ⊕ (Nat × Nat)
  | 0, p, v => if dgt (ch L bt p) = true then .inl (2, p) else .inr (p, v)
  | k + 1, p, v => if dgt (ch L bt p) = true then pDig L bt k (p + 1) (10 * v + (ch L bt p - 48)) else .inr (p, v)
def rNum (L : Nat) (bt : Nat → Nat) (most p : Nat) : (Nat × Nat) ⊕ (Nat × Nat) :=
  if dgt (ch L bt p) = true then (match pDig L bt 5 p 0 with
    | .inl e => .inl e
    | .inr (p', v) => if v ≤ most then .inr (p', v) else .inl (3, p)) else .inl (1, p)
def fctN (c : Nat) : Nat := if c = 119 then 0 else if c = 104 then 1 else if c = 107 then 2 else if c = 109 then 3 else if c = 112 then 4 else 5
def tOp (c : Nat) : Nat := if c = 42 then 4 else if c = 47 then 5 else if c = 37 then 6 else 0
def sOp (c : Nat) : Nat := if c = 43 then 2 else if c = 45 then 3 else 0
def cOp (c : Nat) : Nat := if c = 60 then 7 else if c = 62 then 8 else if c = 61 then 9 else 0
def bndR (r : PR) (k : Nat → List Ins → PR) : PR := match r with
  | .inl e => .inl e
  | .inr (p, s) => k p s
def clsR (L : Nat) (bt : Nat → Nat) (c : Nat) (p : Nat) (s : List Ins) : PR := if ch L bt p = c then .inr (p + 1, s) else .inl (1, p)
def pz (L : Nat) (bt : Nat → Nat) : Nat → Nat → Nat → Nat → List Ins → PR
  | 0, _, _, _, _ => .inl (9, 0)
  | f + 1, 0, o, p, _ => if ch L bt p = 91 then (if 6 ≤ o then .inl (5, p) else bndR (pz L bt f 4 (o + 1) (p + 1) []) (clsR L bt 93)) else if fctN (ch L bt p) < 5 then .inr (p + 1, [(1, fctN (ch L bt p))]) else (match rNum L bt 99999 p with
    | .inl e => .inl e
    | .inr (p', v) => .inr (p', [(0, v)]))
  | f + 1, 1, o, p, acc => if tOp (ch L bt p) = 0 then .inr (p, acc) else bndR (pz L bt f 0 o (p + 1) []) (fun p' s => pz L bt f 1 o p' (acc ++ (s ++ [(tOp (ch L bt p), 0)])))
  | f + 1, 2, o, p, _ => bndR (pz L bt f 0 o p []) (fun p' s => pz L bt f 1 o p' s)
  | f + 1, 3, o, p, acc => if sOp (ch L bt p) = 0 then .inr (p, acc) else bndR (pz L bt f 2 o (p + 1) []) (fun p' s => pz L bt f 3 o p' (acc ++ (s ++ [(sOp (ch L bt p), 0)])))
  | f + 1, 4, o, p, _ => bndR (pz L bt f 2 o p []) (fun p' s => pz L bt f 3 o p' s)
  | f + 1, 5, o, p, _ => if ch L bt p = 33 then (if 6 ≤ o then .inl (5, p) else bndR (pz L bt f 5 (o + 1) (p + 1) []) (fun p' s => .inr (p', s ++ [(10, 0)]))) else if ch L bt p = 40 then (if 6 ≤ o then .inl (5, p) else bndR (pz L bt f 9 (o + 1) (p + 1) []) (clsR L bt 41)) else bndR (pz L bt f 4 o p []) (fun p1 s1 => if cOp (ch L bt p1) = 0 then .inl (1, p1) else bndR (pz L bt f 4 o (p1 + 1) []) (fun p2 s2 => .inr (p2, s1 ++ (s2 ++ [(cOp (ch L bt p1), 0)]))))
  | f + 1, 6, o, p, acc => if ch L bt p = 38 then bndR (pz L bt f 5 o (p + 1) []) (fun p' s => pz L bt f 6 o p' (acc ++ (11, s.length) :: s)) else .inr (p, acc)
  | f + 1, 7, o, p, _ => bndR (pz L bt f 5 o p []) (fun p' s => pz L bt f 6 o p' s)
  | f + 1, 8, o, p, acc => if ch L bt p = 124 then bndR (pz L bt f 7 o (p + 1) []) (fun p' s => pz L bt f 8 o p' (acc ++ (12, s.length) :: s)) else .inr (p, acc)
  | f + 1, _, o, p, _ => bndR (pz L bt f 7 o p []) (fun p' s => pz L bt f 8 o p' s)
theorem bndR_r {r : PR} {k : Nat → List Ins → PR} {x : Nat × List Ins} (h : bndR r k = .inr x) : ∃ p s, r = .inr (p, s) ∧ k p s = .inr x := by
  cases r with
  | inl e => cases h
  | inr y => exact ⟨y.1, y.2, rfl, h⟩
theorem bndR_l {r : PR} {k : Nat → List Ins → PR} {x : Nat × Nat} (h : bndR r k = .inl x) : r = .inl x ∨ ∃ p s, r = .inr (p, s) ∧ k p s = .inl x := by
  cases r with
  | inl e => exact Or.inl h
  | inr y => exact Or.inr ⟨y.1, y.2, rfl, h⟩
theorem ch_lt {L : Nat} {bt : Nat → Nat} {p c : Nat} (h : ch L bt p = c) (hc : c < 256) : p < L := by
  rw [ch] at h
  split at h
  · assumption
  · omega
theorem dgt_lt {L : Nat} {bt : Nat → Nat} {p : Nat} (h : dgt (ch L bt p) = true) : p < L := by
  rw [dgt, decide_eq_true_eq] at h
  exact ch_lt (bt := bt) rfl (by omega)
theorem pDig_r {L : Nat} {bt : Nat → Nat} : ∀ k p v p' w, pDig L bt k p v = .inr (p', w) → p ≤ L → p ≤ p' ∧ p' ≤ L ∧ p' ≤ p + k ∧ (dgt (ch L bt p) = true → p < p') ∧ w + 1 ≤ (v + 1) * 10 ^ (p' - p) := by
  intro k
  induction k with
  | zero =>
    intro p v p' w h hp
    rw [pDig] at h
    split at h
    · cases h
    · next z => cases h; exact ⟨Nat.le_refl _, hp, by omega, fun y => absurd y z, by rw [Nat.sub_self, Nat.pow_zero, Nat.mul_one]; omega⟩
  | succ k ih =>
    intro p v p' w h hp
    rw [pDig] at h
    split at h
    · next z =>
      have hl := dgt_lt z
      obtain ⟨a, b, c, _, e⟩ := ih _ _ _ _ h (by omega)
      refine ⟨by omega, b, by omega, fun _ => by omega, Nat.le_trans e ?_⟩
      rw [dgt, decide_eq_true_eq] at z
      rw [show p' - p = (p' - (p + 1)) + 1 by omega, Nat.pow_succ, Nat.mul_comm _ 10, ← Nat.mul_assoc]
      exact Nat.mul_le_mul_right _ (by omega)
    · next z => cases h; exact ⟨Nat.le_refl _, hp, by omega, fun y => absurd y z, by rw [Nat.sub_self, Nat.pow_zero, Nat.mul_one]; omega⟩
theorem rNum_r {L : Nat} {bt : Nat → Nat} {most p p' v : Nat} (h : rNum L bt most p = .inr (p', v)) (hp : p ≤ L) : p < p' ∧ p' ≤ L ∧ v ≤ most ∧ v ≤ 99999 := by
  rw [rNum] at h
  split at h
  · next z =>
    split at h
    · cases h
    · next q w e =>
      obtain ⟨a, b, c, d, e2⟩ := pDig_r 5 p 0 _ _ e hp
      have d := d z
      split at h
      · next y =>
        cases h
        have : 10 ^ (p' - p) ≤ 10 ^ 5 := Nat.pow_le_pow_right (by omega) (by omega)
        have : (0 + 1) * 10 ^ (p' - p) ≤ 10 ^ 5 := by rw [Nat.zero_add, Nat.one_mul]; exact this
        exact ⟨d, b, y, by omega⟩
      · cases h
  · cases h
theorem pDig_9 {L : Nat} {bt : Nat → Nat} : ∀ k p v x, pDig L bt k p v = .inl x → x.1 = 2 := by
  intro k
  induction k with
  | zero =>
    intro p v x h
    rw [pDig] at h
    split at h
    · cases h; rfl
    · cases h
  | succ k ih =>
    intro p v x h
    rw [pDig] at h
    split at h
    · exact ih _ _ _ h
    · cases h
theorem rNum_9 {L : Nat} {bt : Nat → Nat} {most p : Nat} {x : Nat × Nat} (h : rNum L bt most p = .inl x) : x.1 = 1 ∨ x.1 = 2 ∨ x.1 = 3 := by
  rw [rNum] at h
  split at h
  · split at h
    · next e => cases h; exact Or.inr (Or.inl (pDig_9 _ _ _ _ e))
    · split at h
      · cases h
      · cases h; exact Or.inr (Or.inr rfl)
  · cases h; exact Or.inl rfl
def rst (m : Nat) : Bool := m == 1 || m == 3 || m == 6 || m == 8
theorem op_lt {L : Nat} {bt : Nat → Nat} {p : Nat} : (¬ tOp (ch L bt p) = 0 → p < L) ∧ (¬ sOp (ch L bt p) = 0 → p < L) ∧ (¬ cOp (ch L bt p) = 0 → p < L) ∧ (fctN (ch L bt p) < 5 → p < L) := by
  refine ⟨fun h => ?_, fun h => ?_, fun h => ?_, fun h => ?_⟩ <;> (
    rw [ch] at h
    split at h
    · assumption
    · exact absurd h (by decide))
theorem pz_r {L : Nat} {bt : Nat → Nat} : ∀ f m o p acc p' s, pz L bt f m o p acc = .inr (p', s) → p ≤ L → p' ≤ L ∧ (rst m = false → p < p' ∧ s.length ≤ p' - p) ∧ (rst m = true → p ≤ p' ∧ s.length ≤ acc.length + (p' - p)) := by
  intro f
  induction f with
  | zero => intro m o p acc p' s h; rw [pz] at h; cases h
  | succ f ih =>
    intro m o p acc p' s h hp
    have two : ∀ (a b : Nat), rst a = false → rst b = true → bndR (pz L bt f a o p []) (fun p' s => pz L bt f b o p' s) = .inr (p', s) → p' ≤ L ∧ (p < p' ∧ s.length ≤ p' - p) := by
      intro a b ha hb h
      obtain ⟨p1, s1, e1, e2⟩ := bndR_r h
      obtain ⟨k1, k2, -⟩ := ih _ _ _ _ _ _ e1 hp
      obtain ⟨k3, k4⟩ := k2 ha
      obtain ⟨j1, -, j2⟩ := ih _ _ _ _ _ _ e2 k1
      obtain ⟨j3, j4⟩ := j2 hb
      exact ⟨j1, by omega, by omega⟩
    match m, h with
    | 0, h =>
      rw [pz] at h
      refine ⟨?_, fun _ => ?_, fun z => by cases z⟩ <;> (
        split at h
        · next c1 =>
          have := ch_lt c1 (by decide)
          split at h
          · cases h
          · obtain ⟨p1, s1, e1, e2⟩ := bndR_r h
            obtain ⟨k1, k2, -⟩ := ih _ _ _ _ _ _ e1 (by omega)
            obtain ⟨k3, k4⟩ := k2 rfl
            rw [clsR] at e2
            split at e2
            · next c2 => cases e2; have := ch_lt c2 (by decide); first | omega | exact ⟨by omega, by omega⟩
            · cases e2
        · split at h
          · next c2 => cases h; have := op_lt.2.2.2 c2; first | omega | exact ⟨by omega, by simp⟩
          · split at h
            · cases h
            · next e => cases h; obtain ⟨k1, k2, -⟩ := rNum_r e hp; first | omega | exact ⟨k1, by simp; omega⟩)
    | 1, h =>
      rw [pz] at h
      split at h
      · cases h; exact ⟨hp, fun z => (by cases z), fun _ => ⟨Nat.le_refl _, by omega⟩⟩
      · next c1 =>
        have := op_lt.1 c1
        obtain ⟨p1, s1, e1, e2⟩ := bndR_r h
        obtain ⟨k1, k2, -⟩ := ih _ _ _ _ _ _ e1 (by omega)
        obtain ⟨k3, k4⟩ := k2 rfl
        obtain ⟨j1, -, j2⟩ := ih _ _ _ _ _ _ e2 k1
        obtain ⟨j3, j4⟩ := j2 rfl
        simp only [List.length_append, List.length_cons, List.length_nil] at j4
        exact ⟨j1, fun z => (by cases z), fun _ => ⟨by omega, by omega⟩⟩
    | 2, h => rw [pz] at h; obtain ⟨a, b⟩ := two 0 1 rfl rfl h; exact ⟨a, fun _ => b, fun z => by cases z⟩
    | 3, h =>
      rw [pz] at h
      split at h
      · cases h; exact ⟨hp, fun z => (by cases z), fun _ => ⟨Nat.le_refl _, by omega⟩⟩
      · next c1 =>
        have := op_lt.2.1 c1
        obtain ⟨p1, s1, e1, e2⟩ := bndR_r h
        obtain ⟨k1, k2, -⟩ := ih _ _ _ _ _ _ e1 (by omega)
        obtain ⟨k3, k4⟩ := k2 rfl
        obtain ⟨j1, -, j2⟩ := ih _ _ _ _ _ _ e2 k1
        obtain ⟨j3, j4⟩ := j2 rfl
        simp only [List.length_append, List.length_cons, List.length_nil] at j4
        exact ⟨j1, fun z => (by cases z), fun _ => ⟨by omega, by omega⟩⟩
    | 4, h => rw [pz] at h; obtain ⟨a, b⟩ := two 2 3 rfl rfl h; exact ⟨a, fun _ => b, fun z => by cases z⟩
    | 5, h =>
      rw [pz] at h
      split at h
      · next c1 =>
        have := ch_lt c1 (by decide)
        split at h
        · cases h
        · obtain ⟨p1, s1, e1, e2⟩ := bndR_r h
          obtain ⟨k1, k2, -⟩ := ih _ _ _ _ _ _ e1 (by omega)
          obtain ⟨k3, k4⟩ := k2 rfl
          cases e2
          exact ⟨k1, fun _ => ⟨by omega, by simp only [List.length_append, List.length_cons, List.length_nil]; omega⟩, fun z => by cases z⟩
      · split at h
        · next c1 =>
          have := ch_lt c1 (by decide)
          split at h
          · cases h
          · obtain ⟨p1, s1, e1, e2⟩ := bndR_r h
            obtain ⟨k1, k2, -⟩ := ih _ _ _ _ _ _ e1 (by omega)
            obtain ⟨k3, k4⟩ := k2 rfl
            rw [clsR] at e2
            split at e2
            · next c2 => cases e2; have := ch_lt c2 (by decide); exact ⟨by omega, fun _ => ⟨by omega, by omega⟩, fun z => by cases z⟩
            · cases e2
        · obtain ⟨p1, s1, e1, e2⟩ := bndR_r h
          obtain ⟨k1, k2, -⟩ := ih _ _ _ _ _ _ e1 hp
          obtain ⟨k3, k4⟩ := k2 rfl
          split at e2
          · cases e2
          · next c2 =>
            have := op_lt.2.2.1 c2
            obtain ⟨p2, s2, e3, e4⟩ := bndR_r e2
            obtain ⟨j1, j2, -⟩ := ih _ _ _ _ _ _ e3 (by omega)
            obtain ⟨j3, j4⟩ := j2 rfl
            cases e4
            exact ⟨j1, fun _ => ⟨by omega, by simp only [List.length_append, List.length_cons, List.length_nil]; omega⟩, fun z => by cases z⟩
    | 6, h =>
      rw [pz] at h
      split at h
      · next c1 =>
        have := ch_lt c1 (by decide)
        obtain ⟨p1, s1, e1, e2⟩ := bndR_r h
        obtain ⟨k1, k2, -⟩ := ih _ _ _ _ _ _ e1 (by omega)
        obtain ⟨k3, k4⟩ := k2 rfl
        obtain ⟨j1, -, j2⟩ := ih _ _ _ _ _ _ e2 k1
        obtain ⟨j3, j4⟩ := j2 rfl
        simp only [List.length_append, List.length_cons] at j4
        exact ⟨j1, fun z => (by cases z), fun _ => ⟨by omega, by omega⟩⟩
      · cases h; exact ⟨hp, fun z => (by cases z), fun _ => ⟨Nat.le_refl _, by omega⟩⟩
    | 7, h => rw [pz] at h; obtain ⟨a, b⟩ := two 5 6 rfl rfl h; exact ⟨a, fun _ => b, fun z => by cases z⟩
    | 8, h =>
      rw [pz] at h
      split at h
      · next c1 =>
        have := ch_lt c1 (by decide)
        obtain ⟨p1, s1, e1, e2⟩ := bndR_r h
        obtain ⟨k1, k2, -⟩ := ih _ _ _ _ _ _ e1 (by omega)
        obtain ⟨k3, k4⟩ := k2 rfl
        obtain ⟨j1, -, j2⟩ := ih _ _ _ _ _ _ e2 k1
        obtain ⟨j3, j4⟩ := j2 rfl
        simp only [List.length_append, List.length_cons] at j4
        exact ⟨j1, fun z => (by cases z), fun _ => ⟨by omega, by omega⟩⟩
      · cases h; exact ⟨hp, fun z => (by cases z), fun _ => ⟨Nat.le_refl _, by omega⟩⟩
    | m + 9, h =>
      have h : bndR (pz L bt f 7 o p []) (fun p' s => pz L bt f 8 o p' s) = .inr (p', s) := by rw [pz] at h <;> first | exact h | (intros; omega)
      obtain ⟨a, b⟩ := two 7 8 rfl rfl h
      have : rst (m + 9) = false := by simp [rst]
      exact ⟨a, fun _ => b, fun z => by rw [this] at z; cases z⟩
