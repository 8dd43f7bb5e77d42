/-! the reference's condition of a clause -/
def MTq (M : StM) (L p : Nat) (C : List Ins) (N : StM) : Prop := ∃ nu o w sd wt, N = mRd M p nu o C.length w sd wt ∧ SaidOK sd C (pdW []) ∧ C.length ≤ p ∧ p ≤ L
theorem MTq.b {M N : StM} {L : Nat} {bt : Nat → Nat} {p : Nat} {C : List Ins} (h : MTq M L p C N) (hb : MB M L bt) : mByte N = pkI L bt p ∧ (s_place0 N < s_length0 N → 0 ≤ s_place0 N ∧ s_place0 N < 400) ∧ s_place0 N = nI p ∧ s_codeMany N = nI C.length := by
  obtain ⟨nu, o, w, sd, wt, rfl, -, -, hp⟩ := h
  exact ⟨mb_byte hb hp _ _ _ _ _ _, mb_b hb hp _ _ _ _ _ _, rfl, rfl⟩
theorem mq_cond {E : EvT} {q : Nat → Nat} {d : Nat} {M N : StM} {L : Nat} {bt : Nat → Nat} {P : Bool → StM → Prop} (hb : MB M L bt) {f p : Nat} {C : List Ins} (h : MTq M L p C N) (hp : p < L) (h9 : pz L bt f 9 1 (p + 1) [] ≠ .inl (9, 0)) (h1 : ∀ p' s N', bndR (pz L bt f 9 1 (p + 1) []) (clsR L bt 41) = .inr (p', s) → MTq M L p' (C ++ s) N' → P true N') (h2 : ∀ x, bndR (pz L bt f 9 1 (p + 1) []) (clsR L bt 41) = .inl x → ∀ N', FLs M x N' → P false N') : C_readsCondition E q (d + 6) N P := by
  have hL := hb.2.1
  obtain ⟨nu, o, w, sd, wt, rfl, hs, ha, hpL⟩ := h
  refine en_readsCondition ?_
  have m0 : MS M p 0 C (pdW []) [] (sI (sI (mRd M p nu o C.length w sd wt) 33 0) 35 0) := by
    refine ⟨nu, sd, wt, ?_, hs, trivial⟩
    show sI (sI (mRd M p nu o C.length w sd wt) 33 (nI 0)) 35 (nI 0) = _
    rw [mRd_33, mRd_35]
    rfl
  refine ms_opens (k := 13) m0 (by omega) (by show 0 < 180; omega) (fun y N1 m1 => ⟨fun _ => ?_, (fun x => nomatch x)⟩) (fun y => absurd y (by omega))
  have m2 : MC M L (p + 1) 1 C [(13, 0)] N1 := MC.push rfl m1 rfl (by omega) (by show 0 + 1 ≤ _; omega) (by omega) trivial
  have hC0 : HC [] := fun e he => nomatch he
  refine (cn_all hb f).2.2.2.2 1 (p + 1) C _ N1 m2 (by omega) (hC0.cons (by omega) (by omega)) (fun e he => by cases he; show ¬ 13 = 10 ∧ ¬ 13 = 11 ∧ (2 = 2 → ¬ 13 = 12); decide) (by show ¬ 1 = 0; omega) h9 (fun p' s N' e l g => ?_) (fun x e => h2 x (by rw [e]; rfl))
  obtain ⟨n1, n2⟩ := (pz_e _ _ _ _ _ _ _ e).2.2.2.2.2 rfl
  refine cn_close hb (o := 0) l hC0 n1 n2 (fun y N3 m3 => ⟨fun w => absurd rfl w, fun _ => h1 (p' + 1) s N3 (by rw [e]; show clsR _ _ _ _ _ = _; rw [clsR, if_pos y]) ?_⟩) (fun y N3 hN => h2 (1, p') (by rw [e]; show clsR _ _ _ _ _ = _; rw [clsR, if_neg y]) N3 hN)
  obtain ⟨⟨nu, sd, wt, k1, k2, -⟩, k3, -, k4, -⟩ := m3
  exact ⟨nu, _, _, sd, wt, k1, k2, k3, k4⟩
/-! the other slots -/
theorem mRd_A (M : StM) (p : Nat) (nu : Int32) (o c w : Nat) (sd wt x : Nat → Int32) {j : Nat} (h1 : ¬ j = 37) (h2 : ¬ j = 38) : sA (mRd M p nu o c w sd wt) j x = mRd (sA M j x) p nu o c w sd wt := by
  refine Prod.ext rfl ?_
  funext i
  simp only [mRd, sI, sA, va_up]
  by_cases e : i = j
  · simp [e, h1, h2]
  · simp [e]
theorem mRd_I (M : StM) (p : Nat) (nu : Int32) (o c w : Nat) (sd wt : Nat → Int32) (x : Int32) {j : Nat} (h : ¬ j = 29 ∧ ¬ j = 32 ∧ ¬ j = 33 ∧ ¬ j = 34 ∧ ¬ j = 35) : sI (mRd M p nu o c w sd wt) j x = mRd (sI M j x) p nu o c w sd wt := by
  refine Prod.ext ?_ rfl
  obtain ⟨a, b, c, d, e⟩ := h
  funext i
  simp only [mRd, sI, sA, va_up]
  by_cases e : i = j
  · simp [e, a, b, c, d, *]
  · simp [e]
theorem MTq.setA {M N : StM} {L p : Nat} {C : List Ins} (h : MTq M L p C N) {j : Nat} {x : Nat → Int32} (h1 : ¬ j = 37) (h2 : ¬ j = 38) : MTq (sA M j x) L p C (sA N j x) := by
  obtain ⟨nu, o, w, sd, wt, rfl, k⟩ := h
  exact ⟨nu, o, w, sd, wt, mRd_A _ _ _ _ _ _ _ _ _ h1 h2, k⟩
theorem MTq.setI {M N : StM} {L p : Nat} {C : List Ins} (h : MTq M L p C N) {j : Nat} {x : Int32} (h1 : ¬ j = 29 ∧ ¬ j = 32 ∧ ¬ j = 33 ∧ ¬ j = 34 ∧ ¬ j = 35) : MTq (sI M j x) L p C (sI N j x) := by
  obtain ⟨nu, o, w, sd, wt, rfl, k⟩ := h
  exact ⟨nu, o, w, sd, wt, mRd_I _ _ _ _ _ _ _ _ _ h1, k⟩
theorem MTq.num {E : EvT} {q : Nat → Nat} {d : Nat} {M N : StM} {L : Nat} {bt : Nat → Nat} {p : Nat} {C : List Ins} (h : MTq M L p C N) (hb : MB M L bt) {most : Nat} (hm : most ≤ 99999) {P : Bool → StM → Prop} (h1 : ∀ p' v N', rNum L bt most p = .inr (p', v) → MTq M L p' C N' → s_number0 N' = nI v → P true N') (h2 : ∀ x, rNum L bt most p = .inl x → ∀ N', FLs M x N' → P false N') : C_readsNumber E q (d + 2) (nI most) N P := by
  obtain ⟨nu, o, w, sd, wt, rfl, hs, ha, hp⟩ := h
  refine mr_num hb hm hp (fun p' v e => ?_) h2
  have := rNum_r e hp
  exact h1 p' v _ e ⟨nI v, o, w, sd, wt, rfl, hs, by omega, by omega⟩ rfl
theorem MTq.adv {M N : StM} {L p : Nat} {C : List Ins} (h : MTq M L p C N) (hp : p < L) : MTq M L (p + 1) C (sI N 29 (s_place0 N + 1)) := by
  obtain ⟨nu, o, w, sd, wt, rfl, hs, ha, -⟩ := h
  refine ⟨nu, o, w, sd, wt, ?_, hs, by omega, by omega⟩
  show sI (mRd M p nu o C.length w sd wt) 29 (nI p + 1) = _
  rw [nI_s, mRd_29]
theorem MTq.wrong {E : EvT} {q : Nat → Nat} {d : Nat} {M N : StM} {L p : Nat} {C : List Ins} (h : MTq M L p C N) {k p' : Nat} {P : Bool → StM → Prop} (hP : ∀ N', FLs M (k, p') N' → P false N') : C_wrong E q d (nI k) (nI p') N P := by
  obtain ⟨nu, o, w, sd, wt, rfl, -⟩ := h
  exact mr_wrong hP
theorem MTq.takes {E : EvT} {q : Nat → Nat} {d : Nat} {M N : StM} {L : Nat} {bt : Nat → Nat} {p : Nat} {C : List Ins} (h : MTq M L p C N) (hb : MB M L bt) {c : Nat} (hc : c < 256) {P : Bool → StM → Prop} (h1 : ch L bt p = c → ∀ N', MTq M L (p + 1) C N' → P true N') (h2 : ¬ ch L bt p = c → ∀ N', FLs M (1, p) N' → P false N') : C_takes E q (d + 1) (nI c) N P := by
  obtain ⟨b1, b2, b3, b4⟩ := h.b hb
  refine en_takes ⟨b2, ?_⟩
  rw [b1, mb_ch hb hc]
  refine ⟨fun z => h1 z _ (h.adv (ch_lt z hc)), fun z => ?_⟩
  rw [b3]
  exact h.wrong (k := 1) (h2 z)
