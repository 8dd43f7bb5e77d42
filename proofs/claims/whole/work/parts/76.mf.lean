/-! the reference's sums -/
def UOK (k : Nat) (U : List Ins) : Prop := ∀ e, e ∈ U → e.2 = 0 ∧ ((1 ≤ k ∧ 4 ≤ e.1 ∧ e.1 ≤ 6) ∨ (2 ≤ k ∧ (e.1 = 2 ∨ e.1 = 3)))
def LZ (M : StM) (L : Nat) (pd : Nat → Bool) (k p o : Nat) (C : List Ins) (W : List (Nat × Nat)) (N : StM) : Prop := ∃ U C0, C = C0 ++ U ∧ UOK k U ∧ MS M p o C0 pd (U ++ W) N ∧ C.length ≤ p ∧ U.length + W.length ≤ p ∧ p ≤ L ∧ (∀ j, C0.length ≤ j → pd j = false)
def xk (k : Nat) : Int32 := if k = 2 then 1 else 0
def HW (W : List (Nat × Nat)) : Prop := ∀ e, e ∈ W → e.1 ≤ 14 ∧ e.2 < 1048576
def HD (k : Nat) (W : List (Nat × Nat)) : Prop := 1 ≤ k → ∀ e, e ∈ W.head? → ¬ cls1 (xk k) e.1
theorem uok_cls {k : Nat} {U : List Ins} (h : UOK k U) (hk : k ≤ 2) : ∀ e, e ∈ U → e.2 = 0 ∧ cls1 (xk k) e.1 := by
  intro e he
  obtain ⟨a, b⟩ := h e he
  refine ⟨a, ?_⟩
  rcases b with b | b
  · exact Or.inl b.2
  · have : k = 2 := by omega
    subst this
    exact Or.inr ⟨by decide, b.2⟩
theorem uok_six {k : Nat} {U : List Ins} (h : UOK k U) : ∀ e, e ∈ U → e.2 = 0 ∧ e.1 ≤ 6 := by
  intro e he
  obtain ⟨a, b⟩ := h e he
  exact ⟨a, by rcases b with b | b <;> omega⟩
theorem LZ.b {M N : StM} {L : Nat} {bt : Nat → Nat} {pd : Nat → Bool} {k p o : Nat} {C : List Ins} {W : List (Nat × Nat)} (h : LZ M L pd k p o C W N) (hb : MB M L bt) : mByte N = pkI L bt p ∧ (s_place0 N < s_length0 N → 0 ≤ s_place0 N ∧ s_place0 N < 400) ∧ mDigit N = dgt (ch L bt p) ∧ s_place0 N = nI p := by
  obtain ⟨U, C0, -, -, ⟨nu, sd, wt, rfl, -, -⟩, -, -, hp, -⟩ := h
  exact ⟨mb_byte hb hp .., mb_b hb hp _ _ _ _ _ _, mb_dg hb hp .., rfl⟩
theorem LZ.pl {M N : StM} {L : Nat} {pd : Nat → Bool} {k p o : Nat} {C : List Ins} {W : List (Nat × Nat)} (h : LZ M L pd k p o C W N) : p ≤ L ∧ C.length ≤ p ∧ W.length ≤ p := by
  obtain ⟨U, C0, -, -, -, h1, h2, h3, -⟩ := h
  exact ⟨h3, h1, by omega⟩
theorem LZ.zero {M N : StM} {L : Nat} {pd : Nat → Bool} {p o : Nat} {C : List Ins} {W : List (Nat × Nat)} (h : LZ M L pd 0 p o C W N) : MS M p o C pd W N ∧ (∀ j, C.length ≤ j → pd j = false) := by
  obtain ⟨U, C0, rfl, h0, h1, h2, h3, h4, h5⟩ := h
  cases U with
  | nil => rw [List.append_nil]; exact ⟨h1, h5⟩
  | cons u U =>
    have := (h0 u (List.mem_cons_self ..)).2
    omega
theorem MS.lz {M N : StM} {L : Nat} {pd : Nat → Bool} {p o : Nat} {C : List Ins} {W : List (Nat × Nat)} (h : MS M p o C pd W N) (h1 : C.length ≤ p) (h2 : W.length ≤ p) (h3 : p ≤ L) (h4 : ∀ j, C.length ≤ j → pd j = false) : LZ M L pd 0 p o C W N := ⟨[], C, by simp, (fun e he => nomatch he), h, h1, by simpa using h2, h3, h4⟩
theorem LZ.up {M N : StM} {L : Nat} {pd : Nat → Bool} {k k' p o : Nat} {C : List Ins} {W : List (Nat × Nat)} (h : LZ M L pd k p o C W N) (hk : k ≤ k') : LZ M L pd k' p o C W N := by
  obtain ⟨U, C0, e, h0, h1⟩ := h
  refine ⟨U, C0, e, fun e he => ?_, h1⟩
  obtain ⟨a, b⟩ := h0 e he
  refine ⟨a, ?_⟩
  rcases b with b | b
  · exact Or.inl ⟨by omega, b.2⟩
  · exact Or.inr ⟨by omega, b.2⟩
/-- a sign that waits counts as said -/
theorem LZ.sign {M N : StM} {L : Nat} {pd : Nat → Bool} {k k' p o t : Nat} {C : List Ins} {W : List (Nat × Nat)} (h : LZ M L pd k p o C ((t, 0) :: W) N) (hk : k ≤ k') (ht : (1 ≤ k' ∧ 4 ≤ t ∧ t ≤ 6) ∨ (2 ≤ k' ∧ (t = 2 ∨ t = 3))) (hc : C.length < p) : LZ M L pd k' p o (C ++ [(t, 0)]) W N := by
  obtain ⟨U, C0, e, h0, h1, h2, h3, h4, h5⟩ := h.up hk
  refine ⟨U ++ [(t, 0)], C0, by rw [e, List.append_assoc], fun e he => ?_, by rw [List.append_assoc]; exact h1, by rw [List.length_append]; exact hc, ?_, h4, h5⟩
  · rw [List.mem_append] at he
    rcases he with he | he
    · exact h0 e he
    · rw [List.mem_singleton] at he
      subst he
      exact ⟨rfl, ht⟩
  · rw [List.length_append]
    rw [List.length_cons] at h3
    show U.length + 1 + _ ≤ _
    omega
theorem LZ.close {E : EvT} {q : Nat → Nat} {d : Nat} {M N : StM} {L : Nat} {pd : Nat → Bool} {k p o : Nat} {C : List Ins} {W : List (Nat × Nat)} (h : LZ M L pd k p o C W N) (hk0 : 1 ≤ k) (hk : k ≤ 2) (hL : L ≤ 160) (hW : HW W) (hd : HD k W) {P : StM → Prop} (hP : ∀ N', LZ M L pd 0 p o C W N' → P N') : C_closesSums E q (d + 1) (xk k) N P := by
  obtain ⟨U, C0, e, h0, h1, h2, h3, h4, h5⟩ := h
  rw [e, List.length_append] at h2
  refine (ms_cls_T hW (hd hk0) U C0 N (uok_cls h0 hk) h5 h1 (by omega) (by rw [List.length_append]; omega) (fun N' h' => hP N' ?_)).2
  rw [← e] at h'
  refine h'.lz (by rw [e, List.length_append]; exact h2) (by omega) h4 (fun j hj => h5 j ?_)
  rw [e, List.length_append] at hj
  omega
theorem LZ.push {M N : StM} {L : Nat} {pd : Nat → Bool} {p o t : Nat} {C : List Ins} {W : List (Nat × Nat)} (h : LZ M L pd 0 p o C W N) (hL : L ≤ 160) (hp : p < L) : (0 ≤ s_waiting N ∧ s_waiting N < 180) ∧ LZ M L pd 0 (p + 1) o C ((t, 0) :: W) (sI (sI (sA N 38 (upd (a_waits N) (ix (s_waiting N)) (1048576 * nI t))) 35 (s_waiting N + 1)) 29 (s_place0 N + 1)) := by
  obtain ⟨a1, a2, a3⟩ := h.pl
  obtain ⟨⟨nu, sd, wt, rfl, hs, hw⟩, h5⟩ := h.zero
  refine ⟨bnd (n := 180) (by omega) (by omega) rfl, MS.lz ⟨nu, sd, upd wt W.length (nI (1048576 * t)), ?_, hs, ?_, hwt_upd W hw (Nat.le_refl _)⟩ (by omega) (by rw [List.length_cons]; omega) (by omega) h5⟩
  · show sI (sI (sA (mRd M p nu o C.length W.length sd wt) 38 (upd wt (ix (nI W.length)) (1048576 * nI t))) 35 (nI W.length + 1)) 29 (nI p + 1) = _
    rw [ixn (by omega), nI_s, nI_s, mRd_38, mRd_35, mRd_29, show (1048576 : Int32) = nI 1048576 from rfl, pk_mul]
    rfl
  · rw [upd_eq]; rfl
theorem LZ.pop {M N : StM} {L : Nat} {pd : Nat → Bool} {p o : Nat} {C : List Ins} {e : Nat × Nat} {W : List (Nat × Nat)} (h : LZ M L pd 0 p (o + 1) C (e :: W) N) (hp : p < L) : LZ M L pd 0 (p + 1) o C W (sI (sI (sI N 35 (s_waiting N - 1)) 33 (s_open N - 1)) 29 (s_place0 N + 1)) := by
  obtain ⟨a1, a2, a3⟩ := h.pl
  obtain ⟨⟨nu, sd, wt, rfl, hs, hw⟩, h5⟩ := h.zero
  rw [List.length_cons] at a3
  refine MS.lz ⟨nu, sd, wt, ?_, hs, hw.2⟩ (by omega) (by omega) (by omega) h5
  show sI (sI (sI (mRd M p nu (o + 1) C.length (W.length + 1) sd wt) 35 (nI (W.length + 1) - 1)) 33 (nI (o + 1) - 1)) 29 (nI p + 1) = _
  rw [nI_p', nI_p', nI_s, mRd_35, mRd_33, mRd_29]
theorem LZ.says {E : EvT} {q : Nat → Nat} {d : Nat} {M N : StM} {L : Nat} {pd : Nat → Bool} {p o : Nat} {C : List Ins} {W : List (Nat × Nat)} (h : LZ M L pd 0 p o C W N) (hL : L ≤ 160) {i : Ins} (hi : i.1 ≤ 10) {P : StM → Prop} (hP : ∀ N', MS M p o (C ++ [i]) pd W N' → P N') : C_says E q d (nI i.1) (nI i.2) N P := by
  obtain ⟨a1, a2, a3⟩ := h.pl
  obtain ⟨h1, h5⟩ := h.zero
  refine ms_says h1 (by omega) ?_ hP
  rw [h5 _ (Nat.le_refl _), if_neg (by decide), encM, if_neg (by omega), show (1048576 : Int32) = nI 1048576 from rfl, pk_mul, nI_add]
theorem ss_t {M : StM} {L : Nat} {bt : Nat → Nat} (h : MB M L bt) {p : Nat} (hz : ¬ tOp (ch L bt p) = 0) : mSumSign (pkI L bt p) = nI (tOp (ch L bt p)) ∧ (4 ≤ tOp (ch L bt p) ∧ tOp (ch L bt p) ≤ 6) ∧ p < L := by
  rw [tOp] at hz ⊢
  split at hz
  · next z => rw [if_pos z, (mb_ch h (by omega)).mpr z]; exact ⟨by decide, by omega, ch_lt z (by omega)⟩
  · split at hz
    · next y z => rw [if_neg y, if_pos z, (mb_ch h (by omega)).mpr z]; exact ⟨by decide, by omega, ch_lt z (by omega)⟩
    · split at hz
      · next x y z => rw [if_neg x, if_neg y, if_pos z, (mb_ch h (by omega)).mpr z]; exact ⟨by decide, by omega, ch_lt z (by omega)⟩
      · exact absurd rfl hz
theorem ss_s {M : StM} {L : Nat} {bt : Nat → Nat} (h : MB M L bt) {p : Nat} (hz : ¬ sOp (ch L bt p) = 0) : mSumSign (pkI L bt p) = nI (sOp (ch L bt p)) ∧ (2 ≤ sOp (ch L bt p) ∧ sOp (ch L bt p) ≤ 3) ∧ p < L := by
  rw [sOp] at hz ⊢
  split at hz
  · next z => rw [if_pos z, (mb_ch h (by omega)).mpr z]; exact ⟨by decide, by omega, ch_lt z (by omega)⟩
  · split at hz
    · next y z => rw [if_neg y, if_pos z, (mb_ch h (by omega)).mpr z]; exact ⟨by decide, by omega, ch_lt z (by omega)⟩
    · exact absurd rfl hz
theorem ss_0 {M : StM} {L : Nat} {bt : Nat → Nat} (h : MB M L bt) {p : Nat} (h1 : tOp (ch L bt p) = 0) (h2 : sOp (ch L bt p) = 0) : mSumSign (pkI L bt p) = -1 := by
  have f : ∀ c, c < 256 → ¬ ch L bt p = c → ¬ pkI L bt p = nI c := fun c hc z y => z ((mb_ch h hc).mp y)
  have k : ¬ ch L bt p = 43 ∧ ¬ ch L bt p = 45 ∧ ¬ ch L bt p = 42 ∧ ¬ ch L bt p = 47 ∧ ¬ ch L bt p = 37 := by
    refine ⟨fun z => ?_, fun z => ?_, fun z => ?_, fun z => ?_, fun z => ?_⟩
    all_goals rw [z] at h1 h2
    all_goals revert h1 h2
    all_goals decide
  obtain ⟨k1, k2, k3, k4, k5⟩ := k
  rw [mSumSign, show (43 : Int32) = nI 43 from rfl, show (45 : Int32) = nI 45 from rfl, show (42 : Int32) = nI 42 from rfl, show (47 : Int32) = nI 47 from rfl, show (37 : Int32) = nI 37 from rfl, if_neg (f 43 (by omega) k1), if_neg (f 45 (by omega) k2), if_neg (f 42 (by omega) k3), if_neg (f 47 (by omega) k4), if_neg (f 37 (by omega) k5)]
theorem ff_t {M : StM} {L : Nat} {bt : Nat → Nat} (h : MB M L bt) {p : Nat} (hz : fctN (ch L bt p) < 5) : mFact (pkI L bt p) = nI (fctN (ch L bt p)) ∧ p < L ∧ dgt (ch L bt p) = false := by
  rw [fctN] at hz ⊢
  split at hz
  · next z => rw [if_pos z, (mb_ch h (by omega)).mpr z]; exact ⟨by decide, ch_lt z (by omega), by rw [z]; decide⟩
  · split at hz
    · next y z => rw [if_neg y, if_pos z, (mb_ch h (by omega)).mpr z]; exact ⟨by decide, ch_lt z (by omega), by rw [z]; decide⟩
    · split at hz
      · next x y z => rw [if_neg x, if_neg y, if_pos z, (mb_ch h (by omega)).mpr z]; exact ⟨by decide, ch_lt z (by omega), by rw [z]; decide⟩
      · split at hz
        · next w x y z => rw [if_neg w, if_neg x, if_neg y, if_pos z, (mb_ch h (by omega)).mpr z]; exact ⟨by decide, ch_lt z (by omega), by rw [z]; decide⟩
        · split at hz
          · next v w x y z => rw [if_neg v, if_neg w, if_neg x, if_neg y, if_pos z, (mb_ch h (by omega)).mpr z]; exact ⟨by decide, ch_lt z (by omega), by rw [z]; decide⟩
          · omega
theorem ff_0 {M : StM} {L : Nat} {bt : Nat → Nat} (h : MB M L bt) {p : Nat} (h1 : ¬ fctN (ch L bt p) < 5) : mFact (pkI L bt p) = -1 := by
  have f : ∀ c, c < 256 → ¬ ch L bt p = c → ¬ pkI L bt p = nI c := fun c hc z y => z ((mb_ch h hc).mp y)
  have k : ¬ ch L bt p = 119 ∧ ¬ ch L bt p = 104 ∧ ¬ ch L bt p = 107 ∧ ¬ ch L bt p = 109 ∧ ¬ ch L bt p = 112 := by
    refine ⟨fun z => ?_, fun z => ?_, fun z => ?_, fun z => ?_, fun z => ?_⟩
    all_goals rw [z] at h1
    all_goals revert h1
    all_goals decide
  obtain ⟨k1, k2, k3, k4, k5⟩ := k
  rw [mFact, show (119 : Int32) = nI 119 from rfl, show (104 : Int32) = nI 104 from rfl, show (107 : Int32) = nI 107 from rfl, show (109 : Int32) = nI 109 from rfl, show (112 : Int32) = nI 112 from rfl, if_neg (f 119 (by omega) k1), if_neg (f 104 (by omega) k2), if_neg (f 107 (by omega) k3), if_neg (f 109 (by omega) k4), if_neg (f 112 (by omega) k5)]
theorem bnd9 {r : PR} {k : Nat → List Ins → PR} (h : bndR r k ≠ .inl (9, 0)) : r ≠ .inl (9, 0) ∧ ∀ p s, r = .inr (p, s) → k p s ≠ .inl (9, 0) := ⟨fun z => h (by rw [z]; rfl), fun p s z y => h (by rw [z]; exact y)⟩
def RQ (E : EvT) (q : Nat → Nat) (d base : Nat) (P : Bool → StM → Prop) (r : Bool) (S : StM) : Prop := (r = true → T_readsSum_14 E q (d + 4) P S (nI base)) ∧ (r = false → P false S)
def RA (E : EvT) (q : Nat → Nat) (d : Nat) (M : StM) (L : Nat) (bt : Nat → Nat) (pd : Nat → Bool) (base : Nat) (P : Bool → StM → Prop) (f m k : Nat) : Prop := ∀ o p C W N, LZ M L pd 0 p o C W N → base ≤ W.length → o ≤ 6 → HW W → HD k W → pz L bt f m o p [] ≠ .inl (9, 0) → (∀ p' s N', pz L bt f m o p [] = .inr (p', s) → LZ M L pd k p' o (C ++ s) W N' → (C ++ s).length + p ≤ C.length + p' → T_readsSum_14 E q (d + 4) P N' (nI base)) → (∀ x, pz L bt f m o p [] = .inl x → ∀ N', FLs M x N' → P false N') → T_readsFactor_0 E q (d + 3) (RQ E q d base P) N ∧ C_readsFactor E q (d + 3) N (RQ E q d base P)
def RR1 (E : EvT) (q : Nat → Nat) (d : Nat) (M : StM) (L : Nat) (bt : Nat → Nat) (pd : Nat → Bool) (base : Nat) (P : Bool → StM → Prop) (f m k : Nat) : Prop := ∀ o p C acc W N, LZ M L pd k p o (C ++ acc) W N → base ≤ W.length → o ≤ 6 → HW W → HD k W → pz L bt f m o p acc ≠ .inl (9, 0) → (∀ p' s N', pz L bt f m o p acc = .inr (p', s) → LZ M L pd k p' o (C ++ s) W N' → (C ++ s).length + p ≤ (C ++ acc).length + p' → T_readsSum_14 E q (d + 4) P N' (nI base)) → (∀ x, pz L bt f m o p acc = .inl x → ∀ N', FLs M x N' → P false N') → T_readsSum_14 E q (d + 4) P N (nI base)
