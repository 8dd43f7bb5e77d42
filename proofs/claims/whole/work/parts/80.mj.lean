/-! the reference's conditions, whole -/
def CAe (E : EvT) (q : Nat → Nat) (d : Nat) (M : StM) (L : Nat) (bt : Nat → Nat) (P : Bool → StM → Prop) (f m k : Nat) : Prop := ∀ o p C W N, MC M L p o C W N → o ≤ 6 → HC W → HE k W → ¬ W.length = 0 → pz L bt f m o p [] ≠ .inl (9, 0) → (∀ p' s N', pz L bt f m o p [] = .inr (p', s) → LY M L k p' o (C ++ s) W N' → (C ++ s).length + p ≤ C.length + p' → T_readsCondition_73 E q (d + 6) P N') → (∀ x, pz L bt f m o p [] = .inl x → ∀ N', FLs M x N' → P false N') → T_readsCondition_21 E q (d + 6) P N
def CPc (E : EvT) (q : Nat → Nat) (d : Nat) (M : StM) (L : Nat) (bt : Nat → Nat) (P : Bool → StM → Prop) (f : Nat) : Prop := ∀ o p C W N, MC M L p o C W N → o ≤ 6 → HC W → ¬ W.length = 0 → pz L bt f 5 o p [] ≠ .inl (9, 0) → (∀ p' s N', pz L bt f 5 o p [] = .inr (p', s) → MC M L p' o (C ++ s) W N' → (C ++ s).length + p ≤ C.length + p' → EX E q d P N') → (∀ x, pz L bt f 5 o p [] = .inl x → ∀ N', FLs M x N' → P false N') → T_readsCondition_21 E q (d + 6) P N
def CRe (E : EvT) (q : Nat → Nat) (d : Nat) (M : StM) (L : Nat) (bt : Nat → Nat) (P : Bool → StM → Prop) (f m k : Nat) : Prop := ∀ o p C acc W N, LY M L k p o (C ++ acc) W N → o ≤ 6 → HC W → HE k W → ¬ W.length = 0 → pz L bt f m o p acc ≠ .inl (9, 0) → (∀ p' s N', pz L bt f m o p acc = .inr (p', s) → LY M L k p' o (C ++ s) W N' → (C ++ s).length + p ≤ (C ++ acc).length + p' → T_readsCondition_73 E q (d + 6) P N') → (∀ x, pz L bt f m o p acc = .inl x → ∀ N', FLs M x N' → P false N') → T_readsCondition_73 E q (d + 6) P N
def vl (r : PR) : Nat := match r with
  | .inl _ => 0
  | .inr (_, s) => s.length
theorem MC.ly {M N : StM} {L p o : Nat} {C : List Ins} {W : List (Nat × Nat)} (h : MC M L p o C W N) (k : Nat) : LY M L k p o C W N := ⟨[], (fun e he => nomatch he), h⟩
theorem LY.up {M N : StM} {L k k' p o : Nat} {C : List Ins} {W : List (Nat × Nat)} (h : LY M L k p o C W N) (hk : k ≤ k') : LY M L k' p o C W N := by
  obtain ⟨U, h0, h1⟩ := h
  refine ⟨U, fun e he => ?_, h1⟩
  obtain ⟨a, b⟩ := h0 e he
  exact ⟨by omega, b⟩
theorem LY.b {M N : StM} {L : Nat} {bt : Nat → Nat} {k p o : Nat} {C : List Ins} {W : List (Nat × Nat)} (h : LY M L k p o C W N) (hb : MB M L bt) : mByte N = pkI L bt p ∧ (s_place0 N < s_length0 N → 0 ≤ s_place0 N ∧ s_place0 N < 400) ∧ mDigit N = dgt (ch L bt p) ∧ s_place0 N = nI p := by
  obtain ⟨U, -, h⟩ := h
  exact h.lz.b hb
theorem LY.pl {M N : StM} {L k p o : Nat} {C : List Ins} {W : List (Nat × Nat)} (h : LY M L k p o C W N) : p ≤ L ∧ C.length ≤ p := by
  obtain ⟨U, -, h⟩ := h
  exact ⟨h.2.2.2.1, h.2.1⟩
theorem LY.ms {M N : StM} {L k p o : Nat} {C : List Ins} {W : List (Nat × Nat)} (h : LY M L k p o C W N) : ∃ pd W', MS M p o C pd W' N := by
  obtain ⟨U, -, h⟩ := h
  exact ⟨_, _, h.1⟩
/-- the fork below counts as set -/
theorem LY.fork {M N : StM} {L k k' p o op : Nat} {A s : List Ins} {W : List (Nat × Nat)} (h : LY M L k p o (A ++ [(op, s.length)] ++ s) ((op, A.length) :: W) N) (hk : k ≤ k') (hop : (1 ≤ k' ∧ op = 11) ∨ (2 ≤ k' ∧ op = 12)) : LY M L k' p o (A ++ (op, s.length) :: s) W N := by
  have ea : A ++ [(op, s.length)] ++ s = A ++ (op, s.length) :: s := by simp
  rw [ea] at h
  obtain ⟨U, h0, h1⟩ := h.up hk
  refine ⟨U ++ [(op, A.length)], fun e he => ?_, by rw [List.append_assoc]; exact h1⟩
  rw [List.mem_append] at he
  rcases he with he | he
  · exact h0 e he
  · rw [List.mem_singleton] at he
    subst he
    refine ⟨hop, s.length, ?_, ?_⟩
    · show (A ++ (op, s.length) :: s).getD A.length i0 = _
      rw [List.getD_eq_getElem?_getD, List.getElem?_append_right (Nat.le_refl _), Nat.sub_self]
      rfl
    · rw [List.length_append, List.length_cons]
      show A.length + 1 + s.length = _
      omega
theorem cn_7 {E : EvT} {q : Nat → Nat} {d : Nat} {M : StM} {L : Nat} {bt : Nat → Nat} {P : Bool → StM → Prop} (hb : MB M L bt) {f : Nat} (i5 : CPc E q d M L bt P f) (i6 : CRe E q d M L bt P f 6 1) : CAe E q d M L bt P (f + 1) 7 1 := by
  intro o p C W N h ho hW hn hw h9 h1 h2
  rw [pz] at h9 h1 h2
  exact i5 o p C W N h ho hW hw (bnd9 h9).1 (fun p' s N' e l g => ex_end l hb.2.1 hW (fun e he => (hn e he).1) (i6 o p' C s W N' (l.ly 1) ho hW hn hw ((bnd9 h9).2 _ _ e) (fun p2 s2 N2 e2 l2 g2 => h1 p2 s2 N2 (by rw [e]; exact e2) l2 (by omega)) (fun x ex => h2 x (by rw [e]; exact ex)))) (fun x e => h2 x (by rw [e]; rfl))
theorem cn_9 {E : EvT} {q : Nat → Nat} {d : Nat} {M : StM} {L : Nat} {bt : Nat → Nat} {P : Bool → StM → Prop} {f : Nat} (i7 : CAe E q d M L bt P f 7 1) (i8 : CRe E q d M L bt P f 8 2) : CAe E q d M L bt P (f + 1) 9 2 := by
  intro o p C W N h ho hW hn hw h9 h1 h2
  have e9 : pz L bt (f + 1) 9 o p [] = bndR (pz L bt f 7 o p []) (fun p' s => pz L bt f 8 o p' s) := by rw [pz] <;> intros <;> omega
  rw [e9] at h9 h1 h2
  exact i7 o p C W N h ho hW (fun e he => ⟨(hn e he).1, (hn e he).2.1, fun x => by omega⟩) hw (bnd9 h9).1 (fun p' s N' e l g => i8 o p' C s W N' (l.up (by omega)) ho hW hn hw ((bnd9 h9).2 _ _ e) (fun p2 s2 N2 e2 l2 g2 => h1 p2 s2 N2 (by rw [e]; exact e2) l2 (by omega)) (fun x ex => h2 x (by rw [e]; exact ex))) (fun x e => h2 x (by rw [e]; rfl))
theorem cn_6 {E : EvT} {q : Nat → Nat} {d : Nat} {M : StM} {L : Nat} {bt : Nat → Nat} {P : Bool → StM → Prop} (hb : MB M L bt) {f : Nat} (i5 : CPc E q d M L bt P f) (i6 : CRe E q d M L bt P f 6 1) : CRe E q d M L bt P (f + 1) 6 1 := by
  intro o p C acc W N h ho hW hn hw h9 h1 h2
  have hL := hb.2.1
  rw [pz] at h9 h1 h2
  by_cases z : ch L bt p = 38
  · rw [if_pos z] at h9 h1 h2
    have pl := ch_lt z (by omega)
    have hpl := h.pl
    obtain ⟨b1, b2, b3, b4⟩ := h.b hb
    have bb : mByte N = 38 := b1.trans ((mb_ch (c := 38) hb (by omega)).mpr z)
    refine sg_readsCondition_73 ⟨b2, ?_⟩
    rw [bb]
    refine ⟨fun _ => ⟨fun _ => ⟨fun _ => ?_, fun y => absurd y (by decide)⟩, fun y => absurd rfl y⟩, fun y => absurd y (by decide)⟩
    refine h.land (k := 1) hL (by omega) hW hn (fun N1 m1 => ?_)
    obtain ⟨c1, c2, c3, c4⟩ := m1.lz.b hb
    have cb : mByte N1 = 38 := c1.trans ((mb_ch (c := 38) hb (by omega)).mpr z)
    rw [cb]
    refine ⟨c2, fun y => absurd rfl y, fun _ => mc_jump (op := 11) (v := vl (pz L bt f 5 o (p + 1) [])) m1 hL pl (Or.inl rfl) (fun N2 m2 => ?_)⟩
    have hW2 : HC ((11, (C ++ acc).length) :: W) := hW.cons (by omega) (by omega)
    refine i5 o (p + 1) _ _ N2 m2 ho hW2 (by rw [List.length_cons]; omega) (bnd9 h9).1 (fun p' s N' e l g => ?_) (fun x e => h2 x (by rw [e]; rfl))
    refine ex_end l hL hW2 (fun e he => by cases he; show ¬ 11 = 10; decide) ?_
    rw [show vl (pz L bt f 5 o (p + 1) []) = s.length by rw [e]; rfl] at l g
    have l2 := (l.ly 0).fork (k' := 1) (by omega) (Or.inl ⟨by omega, rfl⟩)
    have ea : C ++ acc ++ (11, s.length) :: s = C ++ (acc ++ (11, s.length) :: s) := by simp
    rw [List.length_append (as := C ++ acc)] at g
    have g : (C ++ acc ++ [(11, s.length)] ++ s).length + (p + 1) ≤ (C ++ acc).length + 1 + p' := g
    have el : (C ++ acc ++ [(11, s.length)] ++ s).length = (C ++ (acc ++ (11, s.length) :: s)).length := by simp; try omega
    rw [ea] at l2
    exact i6 o p' C _ W N' l2 ho hW hn hw ((bnd9 h9).2 _ _ e) (fun p2 s2 N2 e2 l2 g2 => h1 p2 s2 N2 (by rw [e]; exact e2) l2 (by omega)) (fun x ex => h2 x (by rw [e]; exact ex))
  · rw [if_neg z] at h1
    exact h1 p acc N rfl h (Nat.le_refl _)
theorem cn_8 {E : EvT} {q : Nat → Nat} {d : Nat} {M : StM} {L : Nat} {bt : Nat → Nat} {P : Bool → StM → Prop} (hb : MB M L bt) {f : Nat} (i7 : CAe E q d M L bt P f 7 1) (i8 : CRe E q d M L bt P f 8 2) : CRe E q d M L bt P (f + 1) 8 2 := by
  intro o p C acc W N h ho hW hn hw h9 h1 h2
  have hL := hb.2.1
  rw [pz] at h9 h1 h2
  by_cases z : ch L bt p = 124
  · rw [if_pos z] at h9 h1 h2
    have pl := ch_lt z (by omega)
    have hpl := h.pl
    obtain ⟨b1, b2, b3, b4⟩ := h.b hb
    have bb : mByte N = 124 := b1.trans ((mb_ch (c := 124) hb (by omega)).mpr z)
    refine sg_readsCondition_73 ⟨b2, ?_⟩
    rw [bb]
    refine ⟨fun _ => ⟨fun y => absurd y (by decide), fun _ => ⟨fun _ => ⟨fun y => absurd rfl y, fun _ => ?_⟩, fun y => absurd rfl y⟩⟩, fun y => absurd y (by decide)⟩
    refine h.land (k := 2) hL (by omega) hW hn (fun N1 m1 => ?_)
    obtain ⟨c1, c2, c3, c4⟩ := m1.lz.b hb
    have cb : mByte N1 = 124 := c1.trans ((mb_ch (c := 124) hb (by omega)).mpr z)
    rw [cb]
    refine ⟨c2, fun _ => mc_jump (op := 12) (v := vl (pz L bt f 7 o (p + 1) [])) m1 hL pl (Or.inr rfl) (fun N2 m2 => ?_), fun y => absurd y (by decide)⟩
    have hW2 : HC ((12, (C ++ acc).length) :: W) := hW.cons (by omega) (by omega)
    refine i7 o (p + 1) _ _ N2 m2 ho hW2 (fun e he => by cases he; show ¬ 12 = 10 ∧ ¬ 12 = 11 ∧ (1 = 2 → ¬ 12 = 12); decide) (by rw [List.length_cons]; omega) (bnd9 h9).1 (fun p' s N' e l g => ?_) (fun x e => h2 x (by rw [e]; rfl))
    rw [show vl (pz L bt f 7 o (p + 1) []) = s.length by rw [e]; rfl] at l g
    have l2 := l.fork (k' := 2) (by omega) (Or.inr ⟨by omega, rfl⟩)
    have ea : C ++ acc ++ (12, s.length) :: s = C ++ (acc ++ (12, s.length) :: s) := by simp
    rw [List.length_append (as := C ++ acc)] at g
    have g : (C ++ acc ++ [(12, s.length)] ++ s).length + (p + 1) ≤ (C ++ acc).length + 1 + p' := g
    have el : (C ++ acc ++ [(12, s.length)] ++ s).length = (C ++ (acc ++ (12, s.length) :: s)).length := by simp; try omega
    rw [ea] at l2
    exact i8 o p' C _ W N' l2 ho hW hn hw ((bnd9 h9).2 _ _ e) (fun p2 s2 N2 e2 l2 g2 => h1 p2 s2 N2 (by rw [e]; exact e2) l2 (by omega)) (fun x ex => h2 x (by rw [e]; exact ex))
  · rw [if_neg z] at h1
    exact h1 p acc N rfl h (Nat.le_refl _)
