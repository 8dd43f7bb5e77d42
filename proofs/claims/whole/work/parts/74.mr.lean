/-! the reference's reader -/
def mRd (M : StM) (p : Nat) (nu : Int32) (o c w : Nat) (sd wt : Nat → Int32) : StM := sI (sI (sI (sI (sI (sA (sA M 37 sd) 38 wt) 29 (nI p)) 32 nu) 33 (nI o)) 34 (nI c)) 35 (nI w)
theorem mRd_29 (M : StM) (p : Nat) (nu : Int32) (o c w : Nat) (sd wt : Nat → Int32) (p' : Nat) : sI (mRd M p nu o c w sd wt) 29 (nI p') = mRd M p' nu o c w sd wt := by
  refine Prod.ext ?_ rfl
  funext j
  simp only [mRd, sI, sA, va_up]
  by_cases e : j = 29
  · simp [e]
  · simp [e]
theorem mRd_32 (M : StM) (p : Nat) (nu : Int32) (o c w : Nat) (sd wt : Nat → Int32) (n' : Int32) : sI (mRd M p nu o c w sd wt) 32 n' = mRd M p n' o c w sd wt := by
  refine Prod.ext ?_ rfl
  funext j
  simp only [mRd, sI, sA, va_up]
  by_cases e : j = 32
  · simp [e]
  · simp [e]
theorem mRd_33 (M : StM) (p : Nat) (nu : Int32) (o c w : Nat) (sd wt : Nat → Int32) (o' : Nat) : sI (mRd M p nu o c w sd wt) 33 (nI o') = mRd M p nu o' c w sd wt := by
  refine Prod.ext ?_ rfl
  funext j
  simp only [mRd, sI, sA, va_up]
  by_cases e : j = 33
  · simp [e]
  · simp [e]
theorem mRd_34 (M : StM) (p : Nat) (nu : Int32) (o c w : Nat) (sd wt : Nat → Int32) (c' : Nat) : sI (mRd M p nu o c w sd wt) 34 (nI c') = mRd M p nu o c' w sd wt := by
  refine Prod.ext ?_ rfl
  funext j
  simp only [mRd, sI, sA, va_up]
  by_cases e : j = 34
  · simp [e]
  · simp [e]
theorem mRd_35 (M : StM) (p : Nat) (nu : Int32) (o c w : Nat) (sd wt : Nat → Int32) (w' : Nat) : sI (mRd M p nu o c w sd wt) 35 (nI w') = mRd M p nu o c w' sd wt := by
  refine Prod.ext ?_ rfl
  funext j
  simp only [mRd, sI, sA, va_up]
  by_cases e : j = 35
  · simp [e]
  · simp [e]
theorem mRd_37 (M : StM) (p : Nat) (nu : Int32) (o c w : Nat) (sd wt x : Nat → Int32) : sA (mRd M p nu o c w sd wt) 37 x = mRd M p nu o c w x wt := by
  refine Prod.ext rfl ?_
  funext j
  simp only [mRd, sI, sA, va_up]
  by_cases e : j = 37
  · simp [e]
  · simp [e]
theorem mRd_38 (M : StM) (p : Nat) (nu : Int32) (o c w : Nat) (sd wt x : Nat → Int32) : sA (mRd M p nu o c w sd wt) 38 x = mRd M p nu o c w sd x := by
  refine Prod.ext rfl ?_
  funext j
  simp only [mRd, sI, sA, va_up]
  by_cases e : j = 38
  · simp [e]
  · simp [e]
def MB (M : StM) (L : Nat) (bt : Nat → Nat) : Prop := s_length0 M = nI L ∧ L ≤ 160 ∧ ∀ p, p < L → a_tape M p &&& 255 = nI (bt p) ∧ bt p < 256
theorem mb_ch {M : StM} {L : Nat} {bt : Nat → Nat} (h : MB M L bt) {p c : Nat} (hc : c < 256) : pkI L bt p = nI c ↔ ch L bt p = c := by
  rw [pkI, ch]
  split
  · next z => exact nI_eq (by have := (h.2.2 p z).2; omega) (by omega)
  · exact ⟨fun y => absurd y.symm (nI_ne1 (by omega)), fun y => by omega⟩
theorem mb_lt {M : StM} {L : Nat} {bt : Nat → Nat} (h : MB M L bt) {p : Nat} (hp : p < L) : pkI L bt p = nI (ch L bt p) ∧ ch L bt p < 256 := by
  rw [pkI, ch, if_pos hp, if_pos hp]
  exact ⟨rfl, (h.2.2 p hp).2⟩
theorem mb_byte {M : StM} {L : Nat} {bt : Nat → Nat} (h : MB M L bt) {p : Nat} (hp : p ≤ L) (nu : Int32) (o c w : Nat) (sd wt : Nat → Int32) : mByte (mRd M p nu o c w sd wt) = pkI L bt p := by
  obtain ⟨h2, h3, h4⟩ := h
  rw [mByte]
  show (if nI p < s_length0 M then a_tape M (ix (nI p)) &&& 255 else -1) = _
  rw [h2, ixn (by omega), pkI]
  by_cases y : p < L
  · rw [if_pos (nI_lt y (by omega)), if_pos y, (h4 p y).1]
  · rw [if_neg (fun z => by have := (nI_ltI (by omega) (by omega)).mp z; omega), if_neg y]
theorem mb_b {M : StM} {L : Nat} {bt : Nat → Nat} (h : MB M L bt) {p : Nat} (hp : p ≤ L) (nu : Int32) (o c w : Nat) (sd wt : Nat → Int32) : s_place0 (mRd M p nu o c w sd wt) < s_length0 (mRd M p nu o c w sd wt) → 0 ≤ s_place0 (mRd M p nu o c w sd wt) ∧ s_place0 (mRd M p nu o c w sd wt) < 400 := by
  intro _
  have := h.2.1
  exact bnd (n := 400) (by omega) (by omega) rfl
/-- what was said -/
def i0 : Ins := (0, 0)
def SaidOK (sd : Nat → Int32) (C : List Ins) (pd : Nat → Bool) : Prop := ∀ k, k < C.length → sd k = if pd k = true then nI (1048576 * (C.getD k i0).1) else encM k (C.getD k i0)
def hwt (wt : Nat → Int32) : List (Nat × Nat) → Prop
  | [] => True
  | e :: r => wt r.length = nI (1048576 * e.1 + e.2) ∧ hwt wt r
theorem hwt_upd {s : Nat → Int32} {n : Nat} {z : Int32} : ∀ (W : List (Nat × Nat)), hwt s W → W.length ≤ n → hwt (upd s n z) W := by
  intro W
  induction W with
  | nil => intro _ _; trivial
  | cons a W ih =>
    intro h hn
    rw [List.length_cons] at hn
    exact ⟨by rw [upd_ne (by omega)]; exact h.1, ih h.2 (by omega)⟩
theorem gD_l {C : List Ins} {i : Ins} {k : Nat} (h : k < C.length) : (C ++ [i]).getD k i0 = C.getD k i0 := by
  rw [List.getD_eq_getElem?_getD, List.getD_eq_getElem?_getD, List.getElem?_append_left h]
theorem gD_n {C : List Ins} {i : Ins} : (C ++ [i]).getD C.length i0 = i := by
  rw [List.getD_eq_getElem?_getD, List.getElem?_concat_length]
  rfl
theorem SaidOK.add {sd : Nat → Int32} {C : List Ins} {pd : Nat → Bool} (h : SaidOK sd C pd) {i : Ins} {v : Int32} (hv : v = if pd C.length = true then nI (1048576 * i.1) else encM C.length i) : SaidOK (upd sd C.length v) (C ++ [i]) pd := by
  intro k hk
  rw [List.length_append] at hk
  have hk : k < C.length + 1 := hk
  by_cases e : k = C.length
  · subst e
    rw [upd_eq, gD_n]; exact hv
  · rw [upd_ne e, gD_l (by omega)]
    exact h k (by omega)
def MS (M : StM) (p o : Nat) (C : List Ins) (pd : Nat → Bool) (W : List (Nat × Nat)) (N : StM) : Prop := ∃ nu sd wt, N = mRd M p nu o C.length W.length sd wt ∧ SaidOK sd C pd ∧ hwt wt W
def FLs (M : StM) (x : Nat × Nat) (N : StM) : Prop := ∃ p nu o c w sd wt, N = sI (mRd M p nu o c w sd wt) 31 (fvI x)
def topW : List (Nat × Nat) → Int32
  | [] => -1
  | e :: _ => nI e.1
theorem ms_top {M N : StM} {p o : Nat} {C : List Ins} {pd : Nat → Bool} {W : List (Nat × Nat)} (h : MS M p o C pd W N) (hW : ∀ e, e ∈ W → e.1 ≤ 14 ∧ e.2 < 1048576) (hl : W.length < 180) : mTop N = topW W ∧ (¬ s_waiting N = 0 → 0 ≤ s_waiting N - 1 ∧ s_waiting N - 1 < 180) := by
  obtain ⟨nu, sd, wt, rfl, -, hw⟩ := h
  cases W with
  | nil => exact ⟨by rw [mTop]; exact if_pos rfl, fun z => absurd rfl z⟩
  | cons e r =>
    rw [List.length_cons] at hl
    have e1 : s_waiting (mRd M p nu o C.length (e :: r).length sd wt) = nI (r.length + 1) := rfl
    obtain ⟨k1, k2⟩ := hW e (List.mem_cons_self ..)
    rw [e1, nI_p']
    refine ⟨?_, fun _ => bnd (n := 180) (by omega) (by omega) rfl⟩
    rw [mTop, e1, if_neg (nI_ne0 (by omega) (by omega)), nI_p', ixn (by omega)]
    show wt r.length / 1048576 = nI e.1
    rw [hw.1, show (1048576 : Int32) = nI 1048576 from rfl, div_n (by omega) (by omega) (by omega)]
    congr 1
    omega
theorem ms_says {E : EvT} {q : Nat → Nat} {d : Nat} {M N : StM} {p o : Nat} {C : List Ins} {pd : Nat → Bool} {W : List (Nat × Nat)} (h : MS M p o C pd W N) {i : Ins} {x1 x2 : Int32} (hc : C.length < 180) (hv : 1048576 * x1 + x2 = if pd C.length = true then nI (1048576 * i.1) else encM C.length i) {P : StM → Prop} (hP : ∀ N', MS M p o (C ++ [i]) pd W N' → P N') : C_says E q d x1 x2 N P := by
  obtain ⟨nu, sd, wt, rfl, hs, hw⟩ := h
  refine en_says ⟨bnd (n := 180) hc (by omega) rfl, hP _ ⟨nu, upd sd C.length (1048576 * x1 + x2), wt, ?_, hs.add hv, hw⟩⟩
  show sI (sA (mRd M p nu o C.length W.length sd wt) 37 (upd sd (ix (nI C.length)) (1048576 * x1 + x2))) 34 (nI C.length + 1) = _
  rw [ixn (by omega), nI_s, mRd_37, mRd_34, List.length_append]
  rfl
theorem ms_pop {M N : StM} {p o : Nat} {C : List Ins} {pd : Nat → Bool} {e : Nat × Nat} {W : List (Nat × Nat)} (h : MS M p o C pd (e :: W) N) : MS M p o C pd W (sI N 35 (s_waiting N - 1)) := by
  obtain ⟨nu, sd, wt, rfl, hs, hw⟩ := h
  refine ⟨nu, sd, wt, ?_, hs, hw.2⟩
  show sI (mRd M p nu o C.length (W.length + 1) sd wt) 35 (nI (W.length + 1) - 1) = _
  rw [nI_p', mRd_35]
def cls1 (x1 : Int32) (op : Nat) : Prop := (4 ≤ op ∧ op ≤ 6) ∨ (¬ x1 = 0 ∧ (op = 2 ∨ op = 3))
theorem ms_cls_T {E : EvT} {q : Nat → Nat} {d : Nat} {M : StM} {p o : Nat} {pd : Nat → Bool} {W : List (Nat × Nat)} {x1 : Int32} {P : StM → Prop} (hW : ∀ e, e ∈ W → e.1 ≤ 14 ∧ e.2 < 1048576) (hn : ∀ e, e ∈ W.head? → ¬ cls1 x1 e.1) : ∀ (U : List Ins) (C : List Ins) (N : StM), (∀ e, e ∈ U → e.2 = 0 ∧ cls1 x1 e.1) → (∀ k, C.length ≤ k → pd k = false) → MS M p o C pd (U ++ W) N → C.length + U.length ≤ 180 → (U ++ W).length < 180 → (∀ N', MS M p o (C ++ U) pd W N' → P N') → (T_closesSums_0 E q (d + 1) P N x1 ∧ C_closesSums E q (d + 1) x1 N P) := by
  intro U
  induction U with
  | nil =>
    intro C N hU hp h hc hl hP
    have hQ : P N := hP N (by rw [List.append_nil]; exact h)
    obtain ⟨t1, t2⟩ := ms_top h hW hl
    have t1 : mTop N = topW W := t1
    clear hP
    have hP : P N := hQ
    clear h hl
    have stop : (¬ s_waiting N = 0 → 0 ≤ s_waiting N - 1 ∧ s_waiting N - 1 < 180) ∧ ((mTop N < 4 → ((x1 = 0 → P N) ∧ (¬ x1 = 0 → ((mTop N = 2 → False) ∧ (mTop N = 3 → False))))) ∧ (¬ mTop N < 4 → ((mTop N ≤ 6 → False) ∧ (¬ mTop N ≤ 6 → ((mTop N = 2 → False) ∧ (mTop N = 3 → False)))))) := by
      refine ⟨t2, ?_⟩
      rw [t1]
      cases W with
      | nil =>
        show ((-1 : Int32) < 4 → _) ∧ (¬ (-1 : Int32) < 4 → _)
        exact ⟨fun _ => ⟨fun _ => hP, fun _ => ⟨fun z => absurd z (by decide), fun z => absurd z (by decide)⟩⟩, fun z => absurd (by decide) z⟩
      | cons e r =>
        obtain ⟨k1, k2⟩ := hW e (List.mem_cons_self ..)
        have hn := hn e rfl
        have e14 : e.1 < 2 ^ 31 := by omega
        rw [show topW (e :: r) = nI e.1 from rfl]
        rw [show (4 : Int32) = nI 4 from rfl, show (2 : Int32) = nI 2 from rfl, show (3 : Int32) = nI 3 from rfl, show (6 : Int32) = nI 6 from rfl, nI_ltI e14 (by omega), nI_eq e14 (by omega), nI_eq e14 (by omega), nI_leI e14 (by omega)]
        refine ⟨fun z => ⟨fun _ => hP, fun y => ⟨fun w => hn (Or.inr ⟨y, Or.inl w⟩), fun w => hn (Or.inr ⟨y, Or.inr w⟩)⟩⟩, fun z => ⟨fun w => hn (Or.inl ⟨by omega, w⟩), fun w => ⟨fun w2 => by omega, fun w2 => by omega⟩⟩⟩
    obtain ⟨s1, s2, s3⟩ := stop
    exact ⟨sg_closesSums_0 ⟨s1, fun z => ⟨fun _ => hP, fun y => ⟨fun w => ((s2 z).2 y).1 w |>.elim, fun _ => ⟨fun _ => hP, fun w => ((s2 z).2 y).2 w |>.elim⟩⟩⟩, fun z => ⟨fun w => ((s3 z).1 w).elim, fun w => ⟨fun _ => hP, fun _ => ⟨fun w2 => (((s3 z).2 w).1 w2).elim, fun _ => ⟨fun _ => hP, fun w2 => (((s3 z).2 w).2 w2).elim⟩⟩⟩⟩⟩, en_closesSums ⟨s1, fun z => ⟨fun _ => hP, fun y => ⟨fun w => ((s2 z).2 y).1 w |>.elim, fun _ => ⟨fun _ => hP, fun w => ((s2 z).2 y).2 w |>.elim⟩⟩⟩, fun z => ⟨fun w => ((s3 z).1 w).elim, fun w => ⟨fun _ => hP, fun _ => ⟨fun w2 => (((s3 z).2 w).1 w2).elim, fun _ => ⟨fun _ => hP, fun w2 => (((s3 z).2 w).2 w2).elim⟩⟩⟩⟩⟩⟩
  | cons u U ih =>
    intro C N hU hp h hc hl hP
    rw [List.length_cons] at hc
    have hl2 : (U ++ W).length < 180 := by rw [List.cons_append, List.length_cons] at hl; omega
    obtain ⟨u1, u2⟩ := hU u (List.mem_cons_self ..)
    have hW2 : ∀ e, e ∈ u :: U ++ W → e.1 ≤ 14 ∧ e.2 < 1048576 := by
      intro e he
      rw [List.mem_append] at he
      rcases he with he | he
      · obtain ⟨a, b⟩ := hU e he
        rw [a]
        rcases b with b | b <;> omega
      · exact hW e he
    obtain ⟨t1, t2⟩ := ms_top h hW2 hl
    have t1 : mTop N = nI u.1 := t1
    have u6 : u.1 ≤ 6 ∧ 2 ≤ u.1 := by rcases u2 with b | b <;> omega
    have go : C_says E q d (mTop N) 0 N (fun S6 => T_closesSums_0 E q (d + 1) P (sI S6 35 ((s_waiting S6) - 1)) x1) := by
      rw [t1]
      refine ms_says (i := u) h (by omega) ?_ (fun N' h' => ?_)
      · rw [hp _ (Nat.le_refl _), if_neg (by decide), encM, if_neg (by omega), u1, show (1048576 : Int32) = nI 1048576 from rfl, pk_mul, show (0 : Int32) = nI 0 from rfl, nI_add]
      · have := ih (C ++ [u]) _ (fun e he => hU e (List.mem_cons_of_mem _ he)) (fun k hk => hp k (by rw [List.length_append] at hk; omega)) (ms_pop h') (by rw [List.length_append]; show C.length + 1 + _ ≤ 180; omega) hl2 (fun N'' h'' => hP N'' (by rw [List.append_assoc] at h''; exact h''))
        exact this.1
    have e14 : u.1 < 2 ^ 31 := by omega
    have f : (mTop N < 4 → (¬ x1 = 0 ∧ (mTop N = 2 ∨ mTop N = 3))) ∧ (¬ mTop N < 4 → mTop N ≤ 6) := by
      rw [t1, show (4 : Int32) = nI 4 from rfl, show (2 : Int32) = nI 2 from rfl, show (3 : Int32) = nI 3 from rfl, show (6 : Int32) = nI 6 from rfl, nI_ltI e14 (by omega), nI_eq e14 (by omega), nI_eq e14 (by omega), nI_leI e14 (by omega)]
      refine ⟨fun z => ?_, fun _ => u6.1⟩
      rcases u2 with b | b
      · omega
      · exact b
    exact ⟨sg_closesSums_0 ⟨t2, fun z => ⟨fun y => absurd y (f.1 z).1, fun y => ⟨fun _ => go, fun w => ⟨fun w2 => ((f.1 z).2.elim w w2).elim, fun _ => go⟩⟩⟩, fun z => ⟨fun _ => go, fun w => absurd (f.2 z) w⟩⟩, en_closesSums ⟨t2, fun z => ⟨fun y => absurd y (f.1 z).1, fun y => ⟨fun _ => go, fun w => ⟨fun w2 => ((f.1 z).2.elim w w2).elim, fun _ => go⟩⟩⟩, fun z => ⟨fun _ => go, fun w => absurd (f.2 z) w⟩⟩⟩
