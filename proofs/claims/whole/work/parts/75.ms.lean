/-! where the descent stops -/
theorem pz_e {L : Nat} {bt : Nat → Nat} : ∀ f m o p acc p' s, pz L bt f m o p acc = .inr (p', s) → ((m = 1 ∨ m = 2) → tOp (ch L bt p') = 0) ∧ (m = 3 → tOp (ch L bt p) = 0 → tOp (ch L bt p') = 0 ∧ sOp (ch L bt p') = 0) ∧ (m = 4 → tOp (ch L bt p') = 0 ∧ sOp (ch L bt p') = 0) ∧ ((m = 6 ∨ m = 7) → ¬ ch L bt p' = 38) ∧ (m = 8 → ¬ ch L bt p = 38 → ¬ ch L bt p' = 38 ∧ ¬ ch L bt p' = 124) ∧ (m = 9 → ¬ ch L bt p' = 38 ∧ ¬ ch L bt p' = 124) := by
  intro f
  induction f with
  | zero => intro m o p acc p' s h; rw [pz] at h; cases h
  | succ f ih =>
    intro m o p acc p' s h
    refine ⟨?_, ?_, ?_, ?_, ?_, ?_⟩
    · rintro (rfl | rfl)
      · rw [pz] at h
        split at h
        · next z => cases h; exact z
        · obtain ⟨p1, s1, e1, e2⟩ := bndR_r h
          exact (ih _ _ _ _ _ _ e2).1 (Or.inl rfl)
      · rw [pz] at h
        obtain ⟨p1, s1, e1, e2⟩ := bndR_r h
        exact (ih _ _ _ _ _ _ e2).1 (Or.inl rfl)
    · rintro rfl h0
      rw [pz] at h
      split at h
      · next z => cases h; exact ⟨h0, z⟩
      · obtain ⟨p1, s1, e1, e2⟩ := bndR_r h
        exact (ih _ _ _ _ _ _ e2).2.1 rfl ((ih _ _ _ _ _ _ e1).1 (Or.inr rfl))
    · rintro rfl
      rw [pz] at h
      obtain ⟨p1, s1, e1, e2⟩ := bndR_r h
      exact (ih _ _ _ _ _ _ e2).2.1 rfl ((ih _ _ _ _ _ _ e1).1 (Or.inr rfl))
    · rintro (rfl | rfl)
      · rw [pz] at h
        split at h
        · obtain ⟨p1, s1, e1, e2⟩ := bndR_r h
          exact (ih _ _ _ _ _ _ e2).2.2.2.1 (Or.inl rfl)
        · next z => cases h; exact z
      · rw [pz] at h
        obtain ⟨p1, s1, e1, e2⟩ := bndR_r h
        exact (ih _ _ _ _ _ _ e2).2.2.2.1 (Or.inl rfl)
    · rintro rfl h0
      rw [pz] at h
      split at h
      · obtain ⟨p1, s1, e1, e2⟩ := bndR_r h
        exact (ih _ _ _ _ _ _ e2).2.2.2.2.1 rfl ((ih _ _ _ _ _ _ e1).2.2.2.1 (Or.inr rfl))
      · next z => cases h; exact ⟨h0, z⟩
    · rintro rfl
      have h : bndR (pz L bt f 7 o p []) (fun p' s => pz L bt f 8 o p' s) = .inr (p', s) := by rw [pz] at h <;> first | exact h | (intros; omega)
      obtain ⟨p1, s1, e1, e2⟩ := bndR_r h
      exact (ih _ _ _ _ _ _ e2).2.2.2.2.1 rfl ((ih _ _ _ _ _ _ e1).2.2.2.1 (Or.inr rfl))
/-! the reference's small steps -/
theorem ms_wrong {E : EvT} {q : Nat → Nat} {d : Nat} {M N : StM} {p o : Nat} {C : List Ins} {pd : Nat → Bool} {W : List (Nat × Nat)} (h : MS M p o C pd W N) {k p' : Nat} {P : Bool → StM → Prop} (hP : ∀ N', FLs M (k, p') N' → P false N') : C_wrong E q d (nI k) (nI p') N P := by
  obtain ⟨nu, sd, wt, rfl, -, -⟩ := h
  exact en_wrong (hP _ ⟨p, nu, o, _, _, sd, wt, rfl⟩)
theorem mr_wrong {E : EvT} {q : Nat → Nat} {d : Nat} {M : StM} {p : Nat} {nu : Int32} {o c w : Nat} {sd wt : Nat → Int32} {k p' : Nat} {P : Bool → StM → Prop} (hP : ∀ N', FLs M (k, p') N' → P false N') : C_wrong E q d (nI k) (nI p') (mRd M p nu o c w sd wt) P := en_wrong (hP _ ⟨p, nu, o, c, w, sd, wt, rfl⟩)
theorem mb_dg {M : StM} {L : Nat} {bt : Nat → Nat} (h : MB M L bt) {p : Nat} (hp : p ≤ L) (nu : Int32) (o c w : Nat) (sd wt : Nat → Int32) : mDigit (mRd M p nu o c w sd wt) = dgt (ch L bt p) := by
  rw [mDigit, mb_byte h hp, pkI, ch, dgt]
  split
  · next z =>
    have := (h.2.2 p z).2
    rw [Bool.eq_iff_iff, decide_eq_true_eq, decide_eq_true_eq, show (48 : Int32) = nI 48 from rfl, show (57 : Int32) = nI 57 from rfl, nI_leI (by omega) (by omega), nI_leI (by omega) (by omega)]
  · decide
theorem mr_num {E : EvT} {q : Nat → Nat} {d : Nat} {M : StM} {L : Nat} {bt : Nat → Nat} (h : MB M L bt) {most p : Nat} (hm : most ≤ 99999) (hp : p ≤ L) {nu : Int32} {o c w : Nat} {sd wt : Nat → Int32} {P : Bool → StM → Prop} (h1 : ∀ p' v, rNum L bt most p = .inr (p', v) → P true (mRd M p' (nI v) o c w sd wt)) (h2 : ∀ x, rNum L bt most p = .inl x → ∀ N, FLs M x N → P false N) : C_readsNumber E q (d + 2) (nI most) (mRd M p nu o c w sd wt) P := by
  have L160 := h.2.1
  have loop : ∀ k i p' v, i + k = 5 → p' = p + i → p' ≤ L → v < 10 ^ i → (∀ e, pDig L bt k p' v = .inl e → ∀ N, FLs M e N → P false N) → (∀ p2 u, pDig L bt k p' v = .inr (p2, u) → (u ≤ most → P true (mRd M p2 (nI u) o c w sd wt)) ∧ (¬ u ≤ most → ∀ N, FLs M (3, p) N → P false N)) → T_readsNumber_27 E q (d + 2) P (mRd M p' (nI v) o c w sd wt) (nI most) (nI p) := by
    intro k
    induction k with
    | zero =>
      intro i p' v hik e hp' hv k1 k2
      have i5 : i = 5 := by omega
      subst i5
      rw [pDig] at k1 k2
      have v5 : v < 100000 := hv
      refine sg_readsNumber_27 ⟨mb_b h hp' _ _ _ _ _ _, ?_⟩
      rw [mb_dg h hp']
      refine ⟨fun z => ?_, fun z => ⟨fun y => absurd ?_ y, fun _ => mr_wrong (k := 2) (p' := p') (fun N' hN => ?_)⟩⟩
      · rw [if_neg (by rw [z]; decide)] at k2
        obtain ⟨a1, a2⟩ := k2 _ _ rfl
        show (nI v ≤ nI most → _) ∧ (¬ nI v ≤ nI most → _)
        rw [nI_leI (by omega) (by omega)]
        exact ⟨fun y => a1 y, fun y => mr_wrong (k := 3) (p' := p) (fun N' hN => ⟨fun _ => a2 y N' hN, fun w => (by cases w)⟩)⟩
      · show nI p' = nI p + 5
        rw [show (5 : Int32) = nI 5 from rfl, nI_add, e]
      · rw [if_pos z] at k1
        exact k1 _ rfl N' hN
    | succ k ih =>
      intro i p' v hik e hp' hv k1 k2
      rw [pDig] at k1 k2
      have v5 : v < 100000 := Nat.lt_of_lt_of_le hv (Nat.pow_le_pow_right (by omega) (by omega : i ≤ 5))
      refine sg_readsNumber_27 ⟨mb_b h hp' _ _ _ _ _ _, ?_⟩
      rw [mb_dg h hp', mb_byte h hp']
      refine ⟨fun z => ?_, fun z => ⟨fun _ => ?_, fun y => ?_⟩⟩
      · rw [if_neg (by rw [z]; decide)] at k2
        obtain ⟨a1, a2⟩ := k2 _ _ rfl
        show (nI v ≤ nI most → _) ∧ (¬ nI v ≤ nI most → _)
        rw [nI_leI (by omega) (by omega)]
        exact ⟨fun y => a1 y, fun y => mr_wrong (k := 3) (p' := p) (fun N' hN => ⟨fun _ => a2 y N' hN, fun w => (by cases w)⟩)⟩
      · have pl := dgt_lt z
        obtain ⟨b1, b2⟩ := mb_lt h pl
        rw [if_pos z] at k1 k2
        have zz := z
        rw [dgt, decide_eq_true_eq] at zz
        have ev : 10 * nI v + pkI L bt p' - 48 = nI (10 * v + (ch L bt p' - 48)) := by
          rw [b1, show (10 : Int32) = nI 10 from rfl, pk_mul, nI_add, show (48 : Int32) = nI 48 from rfl, pk_sub (by omega)]
          congr 1
          omega
        show T_readsNumber_27 E q (d + 2) P (sI (sI (mRd M p' (nI v) o c w sd wt) 32 (10 * nI v + pkI L bt p' - 48)) 29 (nI p' + 1)) _ _
        rw [ev, nI_s, mRd_32, mRd_29]
        refine ih (i + 1) (p' + 1) _ (by omega) (by omega) (by omega) ?_ k1 k2
        rw [Nat.pow_succ]
        omega
      · exfalso
        have y : nI p' = nI p + 5 := y
        rw [show (5 : Int32) = nI 5 from rfl, nI_add, nI_eq (by omega) (by omega)] at y
        omega
  rw [rNum] at h1 h2
  refine en_readsNumber ?_
  rw [mRd_32, mb_dg h hp]
  refine ⟨mb_b h hp _ _ _ _ _ _, fun z => ?_, fun z => mr_wrong (k := 1) (p' := p) (fun N' hN => ?_)⟩
  · rw [if_pos z] at h1 h2
    refine loop 5 0 p 0 rfl rfl hp (by decide) (fun e he N hN => ?_) (fun p2 u he => ?_)
    · rw [he] at h2
      exact h2 e rfl N hN
    · rw [he] at h1 h2
      refine ⟨fun y => ?_, fun y N hN => ?_⟩
      · exact h1 p2 u (by show (if u ≤ most then _ else _) = _; rw [if_pos y])
      · exact h2 (3, p) (by show (if u ≤ most then _ else _) = _; rw [if_neg y]) N hN
  · rw [if_neg (by rw [z]; decide)] at h2
    exact h2 _ rfl N' hN
theorem ms_opens {E : EvT} {q : Nat → Nat} {d : Nat} {M N : StM} {p o : Nat} {C : List Ins} {pd : Nat → Bool} {W : List (Nat × Nat)} (h : MS M p o C pd W N) (ho : o ≤ 6) (hw : W.length < 180) {k : Nat} {P : Bool → StM → Prop} (h1 : ¬ 6 ≤ o → ∀ N', MS M (p + 1) (o + 1) C pd ((k, 0) :: W) N' → P true N') (h2 : 6 ≤ o → ∀ N', FLs M (5, p) N' → P false N') : C_opens E q (d + 1) (nI k) N P := by
  obtain ⟨nu, sd, wt, rfl, hs, hwt0⟩ := h
  refine en_opens ⟨fun z => ⟨bnd (n := 180) hw (by omega) rfl, h1 ?_ _ ⟨nu, sd, upd wt W.length (nI (1048576 * k)), ?_, hs, ?_, hwt_upd W hwt0 (Nat.le_refl _)⟩⟩, fun z => mr_wrong (k := 5) (p' := p) (h2 ?_)⟩
  · intro y
    exact z (by show nI o = 6; rw [show o = 6 by omega]; rfl)
  · show sI (sI (sA (sI (mRd M p nu o C.length W.length sd wt) 33 (nI o + 1)) 38 (upd wt (ix (nI W.length)) (1048576 * nI k))) 35 (nI W.length + 1)) 29 (nI p + 1) = _
    rw [ixn (by omega), nI_s, nI_s, nI_s, mRd_33, mRd_38, mRd_35, mRd_29, show (1048576 : Int32) = nI 1048576 from rfl, pk_mul]
    rfl
  · rw [upd_eq]; rfl
  · have z : nI o = nI 6 := z
    have := (nI_eq (by omega) (by omega)).mp z
    omega
theorem hwt_get {wt : Nat → Int32} : ∀ (U W : List (Nat × Nat)) (e : Nat × Nat), hwt wt (U ++ e :: W) → wt W.length = nI (1048576 * e.1 + e.2) := by
  intro U
  induction U with
  | nil => intro W e h; exact h.1
  | cons u U ih => intro W e h; exact ih W e h.2
/-- an open bracket above base -/
theorem ms_hos_t {E : EvT} {q : Nat → Nat} {d : Nat} {M N : StM} {p o : Nat} {C : List Ins} {pd : Nat → Bool} {U W : List (Nat × Nat)} (h : MS M p o C pd (U ++ (14, 0) :: W) N) {base : Nat} (hb : base ≤ W.length) (hl : (U ++ (14, 0) :: W).length < 180) {P : Bool → StM → Prop} (hP : P true N) : C_hasOpenSum E q d (nI base) N P := by
  have hl2 := hl
  rw [List.length_append, List.length_cons] at hl2
  obtain ⟨nu, sd, wt, rfl, hs, hw⟩ := h
  refine en_hasOpenSum ?_
  have key : ∀ m k, k + m = W.length → T_hasOpenSum_2 E q d P (mRd M p nu o C.length (U ++ (14, 0) :: W).length sd wt) (nI k) := by
    intro m
    induction m with
    | zero =>
      intro k hk
      have : k = W.length := by omega
      subst this
      refine sg_hasOpenSum_2 ⟨fun z => absurd z (nI_ge (by rw [List.length_append, List.length_cons]; omega) (by omega)), fun _ => ⟨bnd (n := 180) (by omega) (by omega) rfl, ?_⟩⟩
      rw [ixn (show W.length < 2 ^ 31 by omega)]
      have e : a_waits (mRd M p nu o C.length (U ++ (14, 0) :: W).length sd wt) W.length / 1048576 = 14 := by
        show wt W.length / 1048576 = 14
        rw [hwt_get U W (14, 0) hw]
        decide
      exact ⟨fun z => absurd e z, fun _ => hP⟩
    | succ m ih =>
      intro k hk
      refine sg_hasOpenSum_2 ⟨fun z => absurd z (nI_ge (by rw [List.length_append, List.length_cons]; omega) (by omega)), fun _ => ⟨bnd (n := 180) (by omega) (by omega) rfl, ?_⟩⟩
      rw [nI_s]
      exact ⟨fun _ => ih (k + 1) (by omega), fun _ => hP⟩
  exact key (W.length - base) base (by omega)
theorem ms_hos_f {E : EvT} {q : Nat → Nat} {d : Nat} {M N : StM} {p o : Nat} {C : List Ins} {pd : Nat → Bool} {U W : List (Nat × Nat)} (h : MS M p o C pd (U ++ W) N) (hU : ∀ e, e ∈ U → e.2 = 0 ∧ e.1 ≤ 6) (hl : (U ++ W).length < 180) {P : Bool → StM → Prop} (hP : P false N) : C_hasOpenSum E q d (nI W.length) N P := by
  have hl2 := hl
  rw [List.length_append] at hl2
  obtain ⟨nu, sd, wt, rfl, hs, hw⟩ := h
  refine en_hasOpenSum ?_
  have key : ∀ (R B : List (Nat × Nat)), U = R.reverse ++ B → T_hasOpenSum_2 E q d P (mRd M p nu o C.length (U ++ W).length sd wt) (nI (B ++ W).length) := by
    intro R
    induction R with
    | nil => intro B e; subst e; exact sg_hasOpenSum_2 ⟨fun _ => hP, fun z => absurd (Int32.le_refl _) z⟩
    | cons a R ih =>
      intro B e
      rw [List.reverse_cons] at e
      have ha := hU a (by rw [e]; simp)
      have hlen : (B ++ W).length < (U ++ W).length := by rw [e]; simp only [List.length_append, List.length_cons, List.length_nil]; omega
      refine sg_hasOpenSum_2 ⟨fun z => absurd z (nI_ge hlen (by omega)), fun _ => ⟨bnd (n := 180) (by omega) (by omega) rfl, ?_⟩⟩
      rw [ixn (show (B ++ W).length < 2 ^ 31 by omega)]
      have eg : a_waits (mRd M p nu o C.length (U ++ W).length sd wt) (B ++ W).length / 1048576 = nI a.1 := by
        show wt (B ++ W).length / 1048576 = _
        have : U ++ W = R.reverse ++ a :: (B ++ W) := by rw [e]; simp
        rw [this] at hw
        rw [hwt_get R.reverse (B ++ W) a hw, ha.1, Nat.add_zero, show (1048576 : Int32) = nI 1048576 from rfl, div_n (by omega) (by omega) (by omega)]
        congr 1
        omega
      rw [eg, nI_s]
      refine ⟨fun _ => ?_, fun z => ?_⟩
      · have := ih (a :: B) (by rw [e]; simp)
        exact this
      · exfalso
        rw [show (14 : Int32) = nI 14 from rfl, nI_eq (by omega) (by omega)] at z
        omega
  have := key U.reverse [] (by simp)
  exact this
