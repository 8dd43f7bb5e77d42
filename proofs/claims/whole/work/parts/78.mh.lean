/-! the reference's conditions: forks that wait -/
def frk (e : Nat × Nat) : Bool := decide (e.1 = 11 ∨ e.1 = 12)
def pdW : List (Nat × Nat) → Nat → Bool
  | [], _ => false
  | e :: r, j => (frk e && decide (e.2 = j)) || pdW r j
def FR : Nat → List (Nat × Nat) → Prop
  | _, [] => True
  | c, e :: r => (frk e = true → e.2 < c ∧ FR e.2 r) ∧ (frk e = false → FR c r)
theorem FR.mono : ∀ {W : List (Nat × Nat)} {c c' : Nat}, FR c W → c ≤ c' → FR c' W := by
  intro W
  induction W with
  | nil => intro c c' _ _; trivial
  | cons e r ih =>
    intro c c' h hc
    exact ⟨fun z => ⟨Nat.lt_of_lt_of_le (h.1 z).1 hc, (h.1 z).2⟩, fun z => ih (h.2 z) hc⟩
theorem FR.pd : ∀ {W : List (Nat × Nat)} {c j : Nat}, FR c W → c ≤ j → pdW W j = false := by
  intro W
  induction W with
  | nil => intro c j _ _; rfl
  | cons e r ih =>
    intro c j h hj
    rw [pdW]
    by_cases z : frk e = true
    · obtain ⟨a, b⟩ := h.1 z
      rw [ih b (by omega), decide_eq_false (by omega : ¬ e.2 = j)]
      simp
    · have z : frk e = false := by simpa using z
      rw [ih (h.2 z) hj, z]
      rfl
def MC (M : StM) (L p o : Nat) (C : List Ins) (W : List (Nat × Nat)) (N : StM) : Prop := MS M p o C (pdW W) W N ∧ C.length ≤ p ∧ W.length ≤ p ∧ p ≤ L ∧ FR C.length W
def HC (W : List (Nat × Nat)) : Prop := ∀ e, e ∈ W → 10 ≤ e.1 ∧ e.1 ≤ 13 ∧ e.2 < 1048576
theorem HC.hw {W : List (Nat × Nat)} (h : HC W) : HW W := fun e he => by have := h e he; omega
theorem HC.hd {W : List (Nat × Nat)} (h : HC W) (k : Nat) : HD k W := by
  intro _ e he c
  have := h e (List.mem_of_mem_head? he)
  rcases c with c | c <;> omega
theorem HC.cons {t v : Nat} {W : List (Nat × Nat)} (h : HC W) (ht : 10 ≤ t ∧ t ≤ 13) (hv : v < 1048576) : HC ((t, v) :: W) := by
  intro e he
  rw [List.mem_cons] at he
  rcases he with rfl | he
  · exact ⟨ht.1, ht.2, hv⟩
  · exact h e he
theorem MC.lz {M N : StM} {L p o : Nat} {C : List Ins} {W : List (Nat × Nat)} (h : MC M L p o C W N) : LZ M L (pdW W) 0 p o C W N := h.1.lz h.2.1 h.2.2.1 h.2.2.2.1 (fun _ hj => h.2.2.2.2.pd hj)
theorem LZ.mc {M N : StM} {L p o : Nat} {C : List Ins} {W : List (Nat × Nat)} (h : LZ M L (pdW W) 0 p o C W N) (hf : FR C.length W) : MC M L p o C W N := ⟨h.zero.1, h.pl.2.1, h.pl.2.2, h.pl.1, hf⟩
/-- one fork lands -/
theorem mc_land {M N : StM} {L p o : Nat} {C : List Ins} {op fr v : Nat} {W : List (Nat × Nat)} (hL : L ≤ 160) (h : MC M L p o C ((op, fr) :: W) N) (hop : op = 11 ∨ op = 12) (hc : C.getD fr i0 = (op, v)) (hv : fr + 1 + v = C.length) : (0 ≤ s_waiting N - 1 ∧ s_waiting N - 1 < 180) ∧ (a_waits N (ix (s_waiting N - 1))) - (a_waits N (ix (s_waiting N - 1))) / 1048576 * 1048576 = nI fr ∧ (0 ≤ nI fr ∧ nI fr < 180) ∧ MC M L p o C W (sI (sA N 37 (upd (a_said N) (ix (nI fr)) ((1048576 * ((a_said N (ix (nI fr))) / 1048576)) + (s_codeMany N)))) 35 (s_waiting N - 1)) := by
  obtain ⟨⟨nu, sd, wt, rfl, hs, hw⟩, h1, h2, h3, h4⟩ := h
  rw [List.length_cons] at h2
  have e1 : s_waiting (mRd M p nu o C.length ((op, fr) :: W).length sd wt) = nI (W.length + 1) := rfl
  have hf : frk (op, fr) = true := decide_eq_true hop
  obtain ⟨g1, g2⟩ := h4.1 hf
  have g1 : fr < C.length := g1
  have g2 : FR fr W := g2
  rw [e1, nI_p', ixn (by omega), ixn (by omega)]
  have hw1 : wt W.length = nI (1048576 * op + fr) := hw.1
  have o12 : op ≤ 12 := by omega
  refine ⟨bnd (n := 180) (by omega) (by omega) rfl, ?_, bnd (n := 180) (by omega) (by omega) rfl, ⟨nu, upd sd fr (encM fr (op, v)), wt, ?_, ?_, hw.2⟩, h1, by omega, h3, g2.mono (by omega)⟩
  · show wt W.length - wt W.length / 1048576 * 1048576 = nI fr
    rw [hw1, show (1048576 : Int32) = nI 1048576 from rfl, div_n (by omega) (by omega) (by omega), pk_mul, pk_sub (by omega)]
    congr 1
    omega
  · show sI (sA (mRd M p nu o C.length (W.length + 1) sd wt) 37 (upd sd fr (1048576 * (sd fr / 1048576) + nI C.length))) 35 (nI W.length) = _
    have es : sd fr = nI (1048576 * op) := by
      have := hs fr g1
      rw [this, hc, if_pos]
      rw [pdW, hf, decide_eq_true (rfl : fr = fr)]
      rfl
    rw [es, show (1048576 : Int32) = nI 1048576 from rfl, div_n (by omega) (by omega) (by omega), pk_mul, nI_add, mRd_37, mRd_35]
    congr 2
    rw [encM, if_pos (show 11 ≤ op by omega)]
    congr 1
    show _ = 1048576 * op + (fr + 1 + v)
    omega
  · intro k hk
    by_cases e : k = fr
    · subst e
      rw [upd_eq, g2.pd (Nat.le_refl _), if_neg (by decide), hc]
    · rw [upd_ne e, hs k hk]
      have : pdW ((op, fr) :: W) k = pdW W k := by
        rw [pdW, decide_eq_false (fun z => e (Eq.symm z))]
        simp
      rw [this]
/-- forks on top whose end is here -/
def VOK (k : Nat) (C : List Ins) (U : List (Nat × Nat)) : Prop := ∀ e, e ∈ U → ((1 ≤ k ∧ e.1 = 11) ∨ (2 ≤ k ∧ e.1 = 12)) ∧ ∃ v, C.getD e.2 i0 = (e.1, v) ∧ e.2 + 1 + v = C.length
def LY (M : StM) (L k p o : Nat) (C : List Ins) (W : List (Nat × Nat)) (N : StM) : Prop := ∃ U, VOK k C U ∧ MC M L p o C (U ++ W) N
def HE (k : Nat) (W : List (Nat × Nat)) : Prop := ∀ e, e ∈ W.head? → ¬ e.1 = 10 ∧ ¬ e.1 = 11 ∧ (k = 2 → ¬ e.1 = 12)
theorem lands_T {E : EvT} {q : Nat → Nat} {d : Nat} {M : StM} {L k p o : Nat} {C : List Ins} {W : List (Nat × Nat)} (hL : L ≤ 160) (hk : 1 ≤ k ∧ k ≤ 2) (hW : HC W) (hn : HE k W) {P : StM → Prop} (hP : ∀ N', MC M L p o C W N' → P N') : ∀ (U : List (Nat × Nat)) (N : StM), VOK k C U → MC M L p o C (U ++ W) N → T_lands_0 E q (d + 1) P N (xk k) ∧ C_lands E q (d + 1) (xk k) N P := by
  intro U
  induction U with
  | nil =>
    intro N _ h
    have hlen := h.2.2.1
    have hl3 := h.2.2.2.1
    have hW0 := hW.hw
    obtain ⟨t1, t2⟩ := ms_top h.1 hW0 (by rw [List.nil_append] at hlen ⊢; omega)
    have t1 : mTop N = topW W := t1
    have hp := hP N h
    have f : (mTop N = 11 → False) ∧ (¬ xk k = 0 → mTop N = 12 → False) := by
      rw [t1]
      cases W with
      | nil => exact ⟨fun z => absurd z (by show ¬ (-1 : Int32) = 11; decide), fun _ z => absurd z (by show ¬ (-1 : Int32) = 12; decide)⟩
      | cons e r =>
        have h13 := hW e (List.mem_cons_self ..)
        obtain ⟨n1, n2, n3⟩ := hn e rfl
        show (nI e.1 = nI 11 → False) ∧ (_ → nI e.1 = nI 12 → False)
        rw [nI_eq (by omega) (by omega), nI_eq (by omega) (by omega)]
        refine ⟨n2, fun y z => n3 ?_ z⟩
        refine Decidable.byContradiction (fun w => y ?_)
        rw [xk, if_neg w]
    exact (fun F => ⟨sg_lands_0 F, en_lands F⟩) ⟨t2, fun z => (f.1 z).elim, fun _ => ⟨fun _ => hp, fun y => ⟨fun _ => hp, fun z => (f.2 y z).elim⟩⟩⟩
  | cons u U ih =>
    intro N hU h
    obtain ⟨u1, v, u2, u3⟩ := hU u (List.mem_cons_self ..)
    have hlen := h.2.2.1
    have hl3 := h.2.2.2.1
    have hl4 := h.2.1
    have hop : u.1 = 11 ∨ u.1 = 12 := by omega
    have hWU : HW (u :: U ++ W) := by
      intro e he
      rw [List.mem_append] at he
      rcases he with he | he
      · obtain ⟨a, w, b, c⟩ := hU e he
        omega
      · exact hW.hw e he
    obtain ⟨t1, t2⟩ := ms_top h.1 hWU (by omega)
    have t1 : mTop N = nI u.1 := t1
    obtain ⟨l1, l2, l3, l4⟩ := mc_land (op := u.1) (fr := u.2) (W := U ++ W) hL h hop u2 u3
    have go := (ih _ (fun e he => hU e (List.mem_cons_of_mem _ he)) l4).1
    refine (fun F => ⟨sg_lands_0 F, en_lands F⟩) ⟨t2, fun _ => ⟨l1, fun w hw => ?_⟩, fun z => ⟨fun y => ?_, fun y => ⟨fun w => ?_, fun _ => ⟨l1, fun w hw => ?_⟩⟩⟩⟩
    · rw [hw, l2]
      exact ⟨l3, go⟩
    · exfalso
      have k1 : k = 1 := by
        refine Decidable.byContradiction (fun w => ?_)
        rw [show k = 2 by omega] at y
        revert y
        decide
      exact z (by rw [t1, show u.1 = 11 by omega]; rfl)
    · exfalso
      rcases hop with e | e
      · exact z (by rw [t1, e]; rfl)
      · exact w (by rw [t1, e]; rfl)
    · rw [hw, l2]
      exact ⟨l3, go⟩
theorem LY.land {E : EvT} {q : Nat → Nat} {d : Nat} {M N : StM} {L k p o : Nat} {C : List Ins} {W : List (Nat × Nat)} (h : LY M L k p o C W N) (hL : L ≤ 160) (hk : 1 ≤ k ∧ k ≤ 2) (hW : HC W) (hn : HE k W) {P : StM → Prop} (hP : ∀ N', MC M L p o C W N' → P N') : C_lands E q (d + 1) (xk k) N P := by
  obtain ⟨U, hU, h⟩ := h
  exact (lands_T hL hk hW hn hP U N hU h).2
/-- a new fork -/
theorem mc_jump {E : EvT} {q : Nat → Nat} {d : Nat} {M N : StM} {L p o : Nat} {C : List Ins} {W : List (Nat × Nat)} (h : MC M L p o C W N) (hL : L ≤ 160) (hp : p < L) {op v : Nat} (hop : op = 11 ∨ op = 12) {P : StM → Prop} (hP : ∀ N', MC M L (p + 1) o (C ++ [(op, v)]) ((op, C.length) :: W) N' → P N') : C_jumps E q (d + 1) (nI op) N P := by
  obtain ⟨⟨nu, sd, wt, rfl, hs, hw⟩, h1, h2, h3, h4⟩ := h
  have hf : frk (op, C.length) = true := decide_eq_true hop
  refine en_jumps ⟨bnd (n := 180) (by omega) (by omega) rfl, ?_⟩
  have hm : MS M p o C (pdW ((op, C.length) :: W)) ((op, C.length) :: W) (sI (sA (mRd M p nu o C.length W.length sd wt) 38 (upd wt (ix (nI W.length)) (1048576 * nI op + nI C.length))) 35 (nI W.length + 1)) := by
    refine ⟨nu, sd, upd wt W.length (nI (1048576 * op + C.length)), ?_, ?_, ?_, hwt_upd W hw (Nat.le_refl _)⟩
    · rw [ixn (by omega), nI_s, mRd_38, mRd_35, show (1048576 : Int32) = nI 1048576 from rfl, pk_mul, nI_add]
      rfl
    · intro k hk
      rw [hs k hk]
      have : pdW ((op, C.length) :: W) k = pdW W k := by
        rw [pdW, decide_eq_false (by show ¬ C.length = k; omega)]
        simp
      rw [this]
    · rw [upd_eq]
  refine ms_says (i := (op, v)) (x1 := nI op) (x2 := 0) hm (by omega) ?_ (fun N' h' => hP _ ⟨h'.adv, ?_, ?_, by omega, ?_⟩)
  · rw [pdW, hf, decide_eq_true (rfl : C.length = C.length), if_pos (show (true && true || pdW W C.length) = true from rfl), show (1048576 : Int32) = nI 1048576 from rfl, pk_mul, show (0 : Int32) = nI 0 from rfl, nI_add]
    rfl
  · rw [List.length_append]; show C.length + 1 ≤ _; omega
  · rw [List.length_cons]; omega
  · refine ⟨fun _ => ⟨?_, h4⟩, fun z => absurd hf (by rw [z]; decide)⟩
    rw [List.length_append]; show C.length < C.length + 1; omega
