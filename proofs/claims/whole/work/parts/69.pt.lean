/-! the descent ends; its steps are well typed -/
def okF (L : Nat) (x : Nat × Nat) : Prop := (x.1 = 1 ∨ x.1 = 2 ∨ x.1 = 3 ∨ x.1 = 5) ∧ x.2 ≤ L
theorem pDig_l {L : Nat} {bt : Nat → Nat} : ∀ k p v x, pDig L bt k p v = .inl x → p ≤ L → x.1 = 2 ∧ x.2 ≤ L := by
  intro k
  induction k with
  | zero =>
    intro p v x h hp
    rw [pDig] at h
    split at h
    · cases h; exact ⟨rfl, hp⟩
    · cases h
  | succ k ih =>
    intro p v x h hp
    rw [pDig] at h
    split at h
    · next z => exact ih _ _ _ h (by have := dgt_lt z; omega)
    · cases h
theorem rNum_l {L : Nat} {bt : Nat → Nat} {most p : Nat} {x : Nat × Nat} (h : rNum L bt most p = .inl x) (hp : p ≤ L) : okF L x := by
  rw [rNum] at h
  split at h
  · split at h
    · next e => cases h; obtain ⟨a, b⟩ := pDig_l _ _ _ _ e hp; exact ⟨Or.inr (Or.inl a), b⟩
    · split at h
      · cases h
      · cases h; exact ⟨Or.inr (Or.inr (Or.inl rfl)), hp⟩
  · cases h; exact ⟨Or.inl rfl, hp⟩
theorem pz_l {L : Nat} {bt : Nat → Nat} : ∀ f m o p acc x, pz L bt f m o p acc = .inl x → p ≤ L → m ≤ 9 → 10 * (L + 1 - p) + m < f → okF L x := by
  intro f
  induction f with
  | zero => intro m o p acc x h hp hm hf; omega
  | succ f ih =>
    intro m o p acc x h hp hm hf
    have two : ∀ (a b : Nat), rst a = false → a < m → b < m + 10 → a ≤ 9 → b ≤ 9 → bndR (pz L bt f a o p []) (fun p' s => pz L bt f b o p' s) = .inl x → okF L x := by
      intro a b ha h1 h2 h3 h4 h
      rcases bndR_l h with e | ⟨p1, s1, e1, e2⟩
      · exact ih _ _ _ _ _ e hp h3 (by omega)
      · obtain ⟨k1, k2, -⟩ := pz_r _ _ _ _ _ _ _ e1 hp
        obtain ⟨k3, -⟩ := k2 ha
        exact ih _ _ _ _ _ e2 k1 h4 (by omega)
    have cls : ∀ (a c : Nat), rst a = false → a ≤ 9 → p < L → bndR (pz L bt f a (o + 1) (p + 1) []) (clsR L bt c) = .inl x → okF L x := by
      intro a c ha h3 hpl h
      rcases bndR_l h with e | ⟨p1, s1, e1, e2⟩
      · exact ih _ _ _ _ _ e (by omega) h3 (by omega)
      · obtain ⟨k1, -⟩ := pz_r _ _ _ _ _ _ _ e1 (by omega)
        rw [clsR] at e2
        split at e2
        · cases e2
        · cases e2; exact ⟨Or.inl rfl, k1⟩
    have five : ∀ {p}, p ≤ L → okF L (5, p) := fun h => ⟨Or.inr (Or.inr (Or.inr rfl)), h⟩
    have rest : ∀ (a b : Nat) (g : List Ins → List Ins), rst a = false → a ≤ 9 → b ≤ 9 → b = m → p < L → bndR (pz L bt f a o (p + 1) []) (fun p' s => pz L bt f b o p' (g s)) = .inl x → okF L x := by
      intro a b g ha h3 h4 hbm hpl h
      rcases bndR_l h with e | ⟨p1, s1, e1, e2⟩
      · exact ih _ _ _ _ _ e (by omega) h3 (by omega)
      · obtain ⟨k1, k2, -⟩ := pz_r _ _ _ _ _ _ _ e1 (by omega)
        obtain ⟨k3, -⟩ := k2 ha
        exact ih _ _ _ _ _ e2 k1 h4 (by omega)
    match m, h, hm, two, rest, hf with
    | 0, h, _, _, _, hf =>
      rw [pz] at h
      split at h
      · next c1 =>
        have := ch_lt c1 (by decide)
        split at h
        · cases h; exact five hp
        · exact cls 4 93 rfl (by omega) this h
      · split at h
        · cases h
        · split at h
          · next e => cases h; exact rNum_l e hp
          · cases h
    | 1, h, _, _, rest, hf =>
      rw [pz] at h
      split at h
      · cases h
      · next c1 => exact rest 0 1 (fun s => acc ++ (s ++ [(tOp (ch L bt p), 0)])) rfl (by omega) (by omega) rfl (op_lt.1 c1) h
    | 2, h, _, two, _, hf => rw [pz] at h; exact two 0 1 rfl (by omega) (by omega) (by omega) (by omega) h
    | 3, h, _, _, rest, hf =>
      rw [pz] at h
      split at h
      · cases h
      · next c1 => exact rest 2 3 (fun s => acc ++ (s ++ [(sOp (ch L bt p), 0)])) rfl (by omega) (by omega) rfl (op_lt.2.1 c1) h
    | 4, h, _, two, _, hf => rw [pz] at h; exact two 2 3 rfl (by omega) (by omega) (by omega) (by omega) h
    | 5, h, _, _, _, hf =>
      rw [pz] at h
      split at h
      · next c1 =>
        have := ch_lt c1 (by decide)
        split at h
        · cases h; exact five hp
        · rcases bndR_l h with e | ⟨p1, s1, e1, e2⟩
          · exact ih _ _ _ _ _ e (by omega) (by omega) (by omega)
          · cases e2
      · split at h
        · next c1 =>
          have := ch_lt c1 (by decide)
          split at h
          · cases h; exact five hp
          · exact cls 9 41 rfl (by omega) this h
        · rcases bndR_l h with e | ⟨p1, s1, e1, e2⟩
          · exact ih _ _ _ _ _ e hp (by omega) (by omega)
          · obtain ⟨k1, k2, -⟩ := pz_r _ _ _ _ _ _ _ e1 hp
            obtain ⟨k3, -⟩ := k2 rfl
            split at e2
            · cases e2; exact ⟨Or.inl rfl, k1⟩
            · next c2 =>
              have := op_lt.2.2.1 c2
              rcases bndR_l e2 with e | ⟨p2, s2, e3, e4⟩
              · exact ih _ _ _ _ _ e (by omega) (by omega) (by omega)
              · cases e4
    | 6, h, _, _, rest, hf =>
      rw [pz] at h
      split at h
      · next c1 => exact rest 5 6 (fun s => acc ++ (11, s.length) :: s) rfl (by omega) (by omega) rfl (ch_lt c1 (by decide)) h
      · cases h
    | 7, h, _, two, _, hf => rw [pz] at h; exact two 5 6 rfl (by omega) (by omega) (by omega) (by omega) h
    | 8, h, _, _, rest, hf =>
      rw [pz] at h
      split at h
      · next c1 => exact rest 7 8 (fun s => acc ++ (12, s.length) :: s) rfl (by omega) (by omega) rfl (ch_lt c1 (by decide)) h
      · cases h
    | 9, h, _, two, _, hf =>
      rw [pz] at h
      · exact two 7 8 rfl (by omega) (by omega) (by omega) (by omega) h
      all_goals (intros; omega)
    | m + 10, _, hm, _, _, _ => exact absurd hm (by omega)
/-! typing -/
theorem ty_num {v n : Nat} (h : v ≤ 99999) (hn : n < 32) : tyS [(0, v)] n (n + 1) := by
  refine ⟨?_, rfl⟩
  simp [insOK]
  omega
theorem ty_let {v n : Nat} (h : v < 5) (hn : n < 32) : tyS [(1, v)] n (n + 1) := by
  refine ⟨?_, rfl⟩
  simp [insOK]
  omega
theorem ty_bin {op n : Nat} (h : 2 ≤ op ∧ op ≤ 9) : tyS [(op, 0)] (n + 2) (n + 1) := by
  refine ⟨⟨by show op ≤ 12; omega, fun z => ?_, fun z => ?_, fun z => ?_, fun _ => ⟨by omega, rfl⟩, fun z => ?_, fun z => ?_, fun z => ?_⟩, ?_⟩
  · have : op = 0 := z; omega
  · have : op = 1 := z; omega
  · have : op ≤ 1 := z; omega
  · have : 10 ≤ op := z; omega
  · have : op = 10 := z; omega
  · have : 11 ≤ op := z; omega
  · show eff op (n + 2) = n + 1
    rw [eff, if_neg (by omega), if_neg (by omega)]
    omega
theorem ty_not {n : Nat} : tyS [(10, 0)] (n + 1) (n + 1) := by
  refine ⟨?_, rfl⟩
  simp [insOK]
theorem ty_fork {op : Nat} {s : List Ins} (h : op = 11 ∨ op = 12) (hs : tyS s 0 1) : tyS ((op, s.length) :: s) 1 1 := by
  refine ⟨⟨by show op ≤ 12; omega, fun z => ?_, fun z => ?_, fun z => ?_, fun z => ?_, fun _ => Nat.le_refl _, fun z => ?_, fun _ => ⟨Nat.le_refl _, ?_⟩⟩, ?_⟩
  · have : op = 0 := z; omega
  · have : op = 1 := z; omega
  · have : op ≤ 1 := z; omega
  · have : op ≤ 9 := z.2; omega
  · have : op = 10 := z; omega
  · show dpt (s.take s.length) (1 - 1) = 1
    rw [List.take_length]
    exact tyS_dpt s 0 1 hs
  · have : eff op 1 = 0 := by rw [eff, if_neg (by omega), if_neg (by omega)]
    show tyS s (eff op 1) 1
    rw [this]
    exact hs
def ndM (m : Nat) : Nat := if m = 0 then 1 else if m ≤ 2 then 2 else 3
theorem op_b {c : Nat} : (¬ tOp c = 0 → 2 ≤ tOp c ∧ tOp c ≤ 9) ∧ (¬ sOp c = 0 → 2 ≤ sOp c ∧ sOp c ≤ 9) ∧ (¬ cOp c = 0 → 2 ≤ cOp c ∧ cOp c ≤ 9) := by
  refine ⟨fun h => ?_, fun h => ?_, fun h => ?_⟩
  · rw [tOp] at *; split <;> (try split) <;> (try split) <;> simp_all
  · rw [sOp] at *; split <;> (try split) <;> simp_all
  · rw [cOp] at *; split <;> (try split) <;> (try split) <;> simp_all
theorem pz_t {L : Nat} {bt : Nat → Nat} : ∀ f m o p acc p' s, pz L bt f m o p acc = .inr (p', s) → p ≤ L → m ≤ 9 → o ≤ 6 → (m ≤ 4 → ∀ n, n + ndM m + 2 * (6 - o) ≤ 32 → (rst m = true → tyS acc n (n + 1)) → tyS s n (n + 1)) ∧ (5 ≤ m → 1 ≤ o → (rst m = true → tyS acc 0 1) → tyS s 0 1) := by
  intro f
  induction f with
  | zero => intro m o p acc p' s h; rw [pz] at h; cases h
  | succ f ih =>
    intro m o p acc p' s h hp hm ho
    match m, h, hm with
    | 0, h, _ =>
      rw [pz] at h
      refine ⟨fun _ n hn _ => ?_, fun z => absurd z (by decide)⟩
      have hn : n + 1 + 2 * (6 - o) ≤ 32 := hn
      split at h
      · next c1 =>
        have := ch_lt c1 (by decide)
        split at h
        · cases h
        · obtain ⟨p1, s1, e1, e2⟩ := bndR_r h
          rw [clsR] at e2
          split at e2
          · cases e2
            exact (ih _ _ _ _ _ _ e1 (by omega) (by omega) (by omega)).1 (by omega) n (by show n + 3 + 2 * (6 - (o + 1)) ≤ 32; omega) (fun z => by cases z)
          · cases e2
      · split at h
        · next c2 => cases h; exact ty_let c2 (by omega)
        · split at h
          · cases h
          · next e => cases h; exact ty_num (rNum_r e hp).2.2.2 (by omega)
    | 1, h, _ =>
      rw [pz] at h
      refine ⟨fun _ n hn ha => ?_, fun z => absurd z (by decide)⟩
      have hn : n + 2 + 2 * (6 - o) ≤ 32 := hn
      split at h
      · cases h; exact ha rfl
      · next c1 =>
        obtain ⟨p1, s1, e1, e2⟩ := bndR_r h
        have pl := op_lt.1 c1
        have k1 := (pz_r _ _ _ _ _ _ _ e1 (by omega)).1
        have t1 := (ih _ _ _ _ _ _ e1 (by omega) (by omega) ho).1 (by omega) (n + 1) (by show n + 1 + 1 + 2 * (6 - o) ≤ 32; omega) (fun z => by cases z)
        exact (ih _ _ _ _ _ _ e2 k1 (by omega) ho).1 (by omega) n hn (fun _ => tyS_app _ _ _ _ _ (ha rfl) (tyS_app _ _ _ _ _ t1 (ty_bin (op_b.1 c1))))
    | 2, h, _ =>
      rw [pz] at h
      refine ⟨fun _ n hn _ => ?_, fun z => absurd z (by decide)⟩
      have hn : n + 2 + 2 * (6 - o) ≤ 32 := hn
      obtain ⟨p1, s1, e1, e2⟩ := bndR_r h
      have k1 := (pz_r _ _ _ _ _ _ _ e1 hp).1
      have t1 := (ih _ _ _ _ _ _ e1 hp (by omega) ho).1 (by omega) n (by show n + 1 + 2 * (6 - o) ≤ 32; omega) (fun z => by cases z)
      exact (ih _ _ _ _ _ _ e2 k1 (by omega) ho).1 (by omega) n hn (fun _ => t1)
    | 3, h, _ =>
      rw [pz] at h
      refine ⟨fun _ n hn ha => ?_, fun z => absurd z (by decide)⟩
      have hn : n + 3 + 2 * (6 - o) ≤ 32 := hn
      split at h
      · cases h; exact ha rfl
      · next c1 =>
        obtain ⟨p1, s1, e1, e2⟩ := bndR_r h
        have pl := op_lt.2.1 c1
        have k1 := (pz_r _ _ _ _ _ _ _ e1 (by omega)).1
        have t1 := (ih _ _ _ _ _ _ e1 (by omega) (by omega) ho).1 (by omega) (n + 1) (by show n + 1 + 2 + 2 * (6 - o) ≤ 32; omega) (fun z => by cases z)
        exact (ih _ _ _ _ _ _ e2 k1 (by omega) ho).1 (by omega) n hn (fun _ => tyS_app _ _ _ _ _ (ha rfl) (tyS_app _ _ _ _ _ t1 (ty_bin (op_b.2.1 c1))))
    | 4, h, _ =>
      rw [pz] at h
      refine ⟨fun _ n hn _ => ?_, fun z => absurd z (by decide)⟩
      have hn : n + 3 + 2 * (6 - o) ≤ 32 := hn
      obtain ⟨p1, s1, e1, e2⟩ := bndR_r h
      have k1 := (pz_r _ _ _ _ _ _ _ e1 hp).1
      have t1 := (ih _ _ _ _ _ _ e1 hp (by omega) ho).1 (by omega) n (by show n + 2 + 2 * (6 - o) ≤ 32; omega) (fun z => by cases z)
      exact (ih _ _ _ _ _ _ e2 k1 (by omega) ho).1 (by omega) n hn (fun _ => t1)
    | 5, h, _ =>
      rw [pz] at h
      refine ⟨fun z => absurd z (by decide), fun _ ho1 _ => ?_⟩
      split at h
      · next c1 =>
        have := ch_lt c1 (by decide)
        split at h
        · cases h
        · obtain ⟨p1, s1, e1, e2⟩ := bndR_r h
          cases e2
          exact tyS_app _ _ _ _ _ ((ih _ _ _ _ _ _ e1 (by omega) (by omega) (by omega)).2 (by omega) (by omega) (fun z => by cases z)) ty_not
      · split at h
        · next c1 =>
          have := ch_lt c1 (by decide)
          split at h
          · cases h
          · obtain ⟨p1, s1, e1, e2⟩ := bndR_r h
            rw [clsR] at e2
            split at e2
            · cases e2
              exact (ih _ _ _ _ _ _ e1 (by omega) (by omega) (by omega)).2 (by omega) (by omega) (fun z => by cases z)
            · cases e2
        · obtain ⟨p1, s1, e1, e2⟩ := bndR_r h
          have k1 := (pz_r _ _ _ _ _ _ _ e1 hp).1
          split at e2
          · cases e2
          · next c2 =>
            have pl := op_lt.2.2.1 c2
            obtain ⟨p2, s2, e3, e4⟩ := bndR_r e2
            cases e4
            have t1 := (ih _ _ _ _ _ _ e1 hp (by omega) ho).1 (by omega) 0 (by show 0 + 3 + 2 * (6 - o) ≤ 32; omega) (fun z => by cases z)
            have t2 := (ih _ _ _ _ _ _ e3 (by omega) (by omega) ho).1 (by omega) 1 (by show 1 + 3 + 2 * (6 - o) ≤ 32; omega) (fun z => by cases z)
            exact tyS_app _ _ _ _ _ t1 (tyS_app _ _ _ _ _ t2 (ty_bin (op_b.2.2 c2)))
    | 6, h, _ =>
      rw [pz] at h
      refine ⟨fun z => absurd z (by decide), fun _ ho1 ha => ?_⟩
      split at h
      · next c1 =>
        have := ch_lt c1 (by decide)
        obtain ⟨p1, s1, e1, e2⟩ := bndR_r h
        have k1 := (pz_r _ _ _ _ _ _ _ e1 (by omega)).1
        have t1 := (ih _ _ _ _ _ _ e1 (by omega) (by omega) ho).2 (by omega) ho1 (fun z => by cases z)
        exact (ih _ _ _ _ _ _ e2 k1 (by omega) ho).2 (by omega) ho1 (fun _ => tyS_app _ _ _ _ _ (ha rfl) (ty_fork (Or.inl rfl) t1))
      · cases h; exact ha rfl
    | 7, h, _ =>
      rw [pz] at h
      refine ⟨fun z => absurd z (by decide), fun _ ho1 _ => ?_⟩
      obtain ⟨p1, s1, e1, e2⟩ := bndR_r h
      have k1 := (pz_r _ _ _ _ _ _ _ e1 hp).1
      have t1 := (ih _ _ _ _ _ _ e1 hp (by omega) ho).2 (by omega) ho1 (fun z => by cases z)
      exact (ih _ _ _ _ _ _ e2 k1 (by omega) ho).2 (by omega) ho1 (fun _ => t1)
    | 8, h, _ =>
      rw [pz] at h
      refine ⟨fun z => absurd z (by decide), fun _ ho1 ha => ?_⟩
      split at h
      · next c1 =>
        have := ch_lt c1 (by decide)
        obtain ⟨p1, s1, e1, e2⟩ := bndR_r h
        have k1 := (pz_r _ _ _ _ _ _ _ e1 (by omega)).1
        have t1 := (ih _ _ _ _ _ _ e1 (by omega) (by omega) ho).2 (by omega) ho1 (fun z => by cases z)
        exact (ih _ _ _ _ _ _ e2 k1 (by omega) ho).2 (by omega) ho1 (fun _ => tyS_app _ _ _ _ _ (ha rfl) (ty_fork (Or.inr rfl) t1))
      · cases h; exact ha rfl
    | 9, h, _ =>
      have h : bndR (pz L bt f 7 o p []) (fun p' s => pz L bt f 8 o p' s) = .inr (p', s) := by rw [pz] at h <;> first | exact h | (intros; omega)
      refine ⟨fun z => absurd z (by decide), fun _ ho1 _ => ?_⟩
      obtain ⟨p1, s1, e1, e2⟩ := bndR_r h
      have k1 := (pz_r _ _ _ _ _ _ _ e1 hp).1
      have t1 := (ih _ _ _ _ _ _ e1 hp (by omega) ho).2 (by omega) ho1 (fun z => by cases z)
      exact (ih _ _ _ _ _ _ e2 k1 (by omega) ho).2 (by omega) ho1 (fun _ => t1)
    | m + 10, _, hm => exact absurd hm (by omega)
