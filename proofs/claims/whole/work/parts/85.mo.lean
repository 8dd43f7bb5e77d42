/-! the reference's text: its clauses -/
def ClA (T : List Cl) (le fr to nn jj : Nat → Int32) : Prop := ∀ c, c < T.length → le c = nI (clT T c).1 ∧ nn c = nI (clT T c).2.1 ∧ jj c = nI (clT T c).2.2.1 ∧ fr c = nI (offT T c) ∧ to c = nI (offT T (c + 1))
def SG (T : List Cl) (C : List Ins) : Prop := C.length = offT T T.length ∧ ∀ c, c < T.length → ∀ j, j < (clT T c).2.2.2.length → C.getD (offT T c + j) i0 = (clT T c).2.2.2.getD j i0
def TSt (M : StM) (L p : Nat) (T : List Cl) (N : StM) : Prop := ∃ C le fr to nn jj, MTq (mCl M le fr to nn jj T.length) L p C N ∧ ClA T le fr to nn jj ∧ SG T C
theorem gD_al {C D : List Ins} {k : Nat} (h : k < C.length) : (C ++ D).getD k i0 = C.getD k i0 := by
  rw [List.getD_eq_getElem?_getD, List.getD_eq_getElem?_getD, List.getElem?_append_left h]
theorem gD_ar {C D : List Ins} {k : Nat} : (C ++ D).getD (C.length + k) i0 = D.getD k i0 := by
  rw [List.getD_eq_getElem?_getD, List.getD_eq_getElem?_getD, List.getElem?_append_right (by omega), Nat.add_sub_cancel_left]
theorem SG.add {T : List Cl} {C : List Ins} (h : SG T C) (cl : Cl) : SG (T ++ [cl]) (C ++ cl.2.2.2) := by
  obtain ⟨h0, h1⟩ := h
  have el : (T ++ [cl]).length = T.length + 1 := by rw [List.length_append]; rfl
  refine ⟨by rw [el, offT_new, List.length_append, h0], fun c hc j hj => ?_⟩
  rw [el] at hc
  by_cases e : c = T.length
  · subst e
    rw [clT_new] at hj ⊢
    rw [offT_app (Nat.le_refl _), ← h0, gD_ar]
  · have c1 : c < T.length := by omega
    rw [clT_app c1] at hj ⊢
    rw [offT_app (by omega)]
    have k2 : offT T (c + 1) = offT T c + (clT T c).2.2.2.length := rfl
    have k3 := offT_le T (show c + 1 ≤ T.length by omega)
    rw [gD_al (by omega)]
    exact h1 c c1 j hj
theorem ClA.add {T : List Cl} {le fr to nn jj : Nat → Int32} (h : ClA T le fr to nn jj) (cl : Cl) : ClA (T ++ [cl]) (upd le T.length (nI cl.1)) (upd fr T.length (nI (offT T T.length))) (upd to T.length (nI (offT T T.length + cl.2.2.2.length))) (upd nn T.length (nI cl.2.1)) (upd jj T.length (nI cl.2.2.1)) := by
  intro c hc
  have el : (T ++ [cl]).length = T.length + 1 := by rw [List.length_append]; rfl
  rw [el] at hc
  by_cases e : c = T.length
  · subst e
    rw [clT_new, offT_app (Nat.le_refl _), offT_new, upd_eq, upd_eq, upd_eq, upd_eq, upd_eq]
    exact ⟨rfl, rfl, rfl, rfl, rfl⟩
  · have c1 : c < T.length := by omega
    rw [clT_app c1, offT_app (by omega), offT_app (by omega), upd_ne e, upd_ne e, upd_ne e, upd_ne e, upd_ne e]
    exact h c c1
theorem TSt.b {M N : StM} {L : Nat} {bt : Nat → Nat} {p : Nat} {T : List Cl} (h : TSt M L p T N) (hb : MB M L bt) : s_place0 N = nI p ∧ s_length0 N = nI L := by
  obtain ⟨C, le, fr, to, nn, jj, h1, -⟩ := h
  refine ⟨(h1.b (mcl_mb hb ..)).2.2.1, ?_⟩
  obtain ⟨nu, o, w, sd, wt, rfl, -⟩ := h1
  exact hb.1
theorem ts_clause {E : EvT} {q : Nat → Nat} {d : Nat} {M N : StM} {L : Nat} {bt : Nat → Nat} {P : Bool → StM → Prop} (hb : MB M L bt) {p : Nat} {T : List Cl} (h : TSt M L p T N) (hT : T.length ≤ 10) (h1 : ∀ p' cl N', pCl L bt (fu L) p T.length = .inr (p', cl) → TSt M L p' (T ++ [cl]) N' → P true N') (h2 : ∀ x, pCl L bt (fu L) p T.length = .inl x → ∀ N', FLt M x N' → P false N') : C_readsClause E q (d + 7) N P := by
  obtain ⟨C, le, fr, to, nn, jj, k1, k2, k3⟩ := h
  refine mc_clause (f := fu L) hb k1 hT (fun p1 hp e => ?_) (fun p' cl N' e l => h1 p' cl N' e ?_) h2
  · have := (pz_l _ _ _ _ _ _ e (by omega) (by omega) (by rw [fu]; omega)).1
    revert this
    simp
  · refine ⟨_, _, _, _, _, _, ?_, k2.add cl, k3.add cl⟩
    rw [List.length_append, k3.1] at l
    rw [List.length_append]
    exact l
theorem rt_bad {E : EvT} {q : Nat → Nat} {d : Nat} {M N : StM} {x : Nat × Nat} {P : Int32 → StM → Prop} {y1 y2 : Int32} (h : FLt M x N) (hP : P (fvI x) (sI N 28 0)) : T_rules_74 E q (d + 8) P N y1 y2 0 := by
  obtain ⟨le, fr, to, nn, jj, n, p, nu, o, c, w, sd, wt, rfl⟩ := h
  exact sg_rules_74 ⟨fun _ => ⟨fun y => absurd rfl y, fun _ => hP⟩, fun y => absurd rfl y⟩
theorem rt_loop {E : EvT} {q : Nat → Nat} {d : Nat} {M : StM} {L : Nat} {bt : Nat → Nat} {P : Int32 → StM → Prop} {y1 y2 : Int32} (hb : MB M L bt) : ∀ g p T N, TSt M L p T N → T.length ≤ 10 → p ≤ L → L - p < g → (∀ T' N', pTx L bt (fu L) g p T = .inr T' → TSt M L L T' N' → T'.length ≤ 10 → (0 ≤ s_ruleMany0 N' ∧ s_ruleMany0 N' < 20) ∧ T_rules_167 E q (d + 8) P (sA (sA (sA (sI N' 28 0) 46 (upd (a_ruleFrom N') (ix (s_ruleMany0 N')) y1)) 47 (upd (a_ruleTo N') (ix (s_ruleMany0 N')) y2)) 48 (upd (a_clauseMany N') (ix (s_ruleMany0 N')) (s_saidClauses N'))) 0) → (∀ x, pTx L bt (fu L) g p T = .inl x → ∀ N', FLt M x N' → P (fvI x) (sI N' 28 0)) → T_rules_74 E q (d + 8) P N y1 y2 1 := by
  have hL := hb.2.1
  intro g
  induction g with
  | zero => intro p T N _ _ _ hg; omega
  | succ g ih =>
    intro p T N h hT hp hg h1 h2
    rw [pTx] at h1 h2
    obtain ⟨b1, b2⟩ := h.b hb
    refine sg_rules_74 ⟨fun y => absurd y (by decide), fun _ => ?_⟩
    rw [b1, b2, nI_leI (by omega) (by omega)]
    refine ⟨fun y => ⟨fun _ => ?_, fun y => absurd y (by decide)⟩, fun y => ?_⟩
    · have : p = L := by omega
      subst this
      rw [if_neg (by omega)] at h1
      exact h1 T N rfl h hT
    · rw [if_pos (by omega)] at h1 h2
      obtain ⟨C, le, fr, to, nn, jj, k1, k2, k3⟩ := h
      refine k1.takes (c := 59) (mcl_mb hb ..) (by omega) (fun z N1 l1 => ⟨(fun x => nomatch x), fun _ => ?_⟩) (fun z N1 hN => ⟨fun _ => ?_, (fun x => nomatch x)⟩)
      · rw [if_pos z] at h1 h2
        refine ts_clause hb (p := p + 1) (T := T) ⟨C, le, fr, to, nn, jj, l1, k2, k3⟩ hT (fun p' cl N2 e l2 => ⟨(fun x => nomatch x), fun _ => ?_⟩) (fun x e N2 hN => ⟨fun _ => ?_, (fun x => nomatch x)⟩)
        · rw [e] at h1 h2
          obtain ⟨r1, r2, r3, r4, r5⟩ := pCl_r (by omega) e
          exact ih p' (T ++ [cl]) N2 l2 (by rw [List.length_append]; show T.length + 1 ≤ 10; omega) r2 (by omega) h1 h2
        · rw [e] at h2
          exact rt_bad hN (h2 x rfl N2 hN)
      · rw [if_neg z] at h2
        exact rt_bad ⟨_, _, _, _, _, _, hN⟩ (h2 _ rfl N1 ⟨_, _, _, _, _, _, hN⟩)
