/-! the reference's conditions: the descent -/
def EX (E : EvT) (q : Nat → Nat) (d : Nat) (P : Bool → StM → Prop) (N : StM) : Prop := (C_endsPiece E q (d + 4) N (fun S => (true = true → T_readsCondition_73 E q (d + 6) P S) ∧ (true = false → P false S)) ∧ T_endsPiece_0 E q (d + 4) (fun S => (true = true → T_readsCondition_73 E q (d + 6) P S) ∧ (true = false → P false S)) N) ∧ (C_endsPiece E q (d + 5) N (fun S => T_readsCondition_73 E q (d + 6) P S) ∧ T_endsPiece_0 E q (d + 5) (fun S => T_readsCondition_73 E q (d + 6) P S) N)
theorem HC.top {M N : StM} {L p o : Nat} {C : List Ins} {W : List (Nat × Nat)} (h : MC M L p o C W N) (hL : L ≤ 160) (hW : HC W) : mTop N = topW W ∧ (¬ s_waiting N = 0 → 0 ≤ s_waiting N - 1 ∧ s_waiting N - 1 < 180) := ms_top h.1 hW.hw (by have := h.2.2; omega)
theorem ex_end {E : EvT} {q : Nat → Nat} {d : Nat} {M N : StM} {L p o : Nat} {C : List Ins} {W : List (Nat × Nat)} {P : Bool → StM → Prop} (h : MC M L p o C W N) (hL : L ≤ 160) (hW : HC W) (hn : ∀ e, e ∈ W.head? → ¬ e.1 = 10) (hP : T_readsCondition_73 E q (d + 6) P N) : EX E q d P N := by
  obtain ⟨t1, t2⟩ := HC.top h hL hW
  have f : mTop N = 10 → False := by
    rw [t1]
    cases W with
    | nil => show (-1 : Int32) = 10 → False; decide
    | cons e r =>
      have := hW e (List.mem_cons_self ..)
      have n1 := hn e rfl
      show nI e.1 = nI 10 → False
      rw [nI_eq (by omega) (by omega)]
      exact n1
  have F : (¬ s_waiting N = 0 → 0 ≤ s_waiting N - 1 ∧ s_waiting N - 1 < 180) ∧ (¬ mTop N = 10 → T_readsCondition_73 E q (d + 6) P N) := ⟨t2, fun _ => hP⟩
  have G : ¬ mTop N = 10 → ((true = true → T_readsCondition_73 E q (d + 6) P N) ∧ (true = false → P false N)) := fun _ => ⟨fun _ => hP, (fun x => nomatch x)⟩
  exact ⟨⟨en_endsPiece ⟨F.1, G, fun z => (f z).elim⟩, sg_endsPiece_0 ⟨F.1, G, fun z => (f z).elim⟩⟩, ⟨en_endsPiece ⟨F.1, F.2, fun z => (f z).elim⟩, sg_endsPiece_0 ⟨F.1, F.2, fun z => (f z).elim⟩⟩⟩
theorem pdW_nf {t v : Nat} {W : List (Nat × Nat)} (h : frk (t, v) = false) : pdW ((t, v) :: W) = pdW W := by
  funext j
  rw [pdW, h]
  rfl
theorem MC.push {M N : StM} {L p o c t : Nat} {C : List Ins} {W : List (Nat × Nat)} (hc : c = p) (h : MS M p o C (pdW W) ((t, 0) :: W) N) (ht : frk (t, 0) = false) (h1 : C.length ≤ p) (h2 : W.length + 1 ≤ p) (h3 : p ≤ L) (h4 : FR C.length W) : MC M L p o C ((t, 0) :: W) N := ⟨by rw [pdW_nf ht]; exact h, h1, h2, h3, ⟨fun z => absurd z (by rw [ht]; decide), fun _ => h4⟩⟩
theorem ex_not {E : EvT} {q : Nat → Nat} {d : Nat} {M N : StM} {L p o : Nat} {C : List Ins} {W : List (Nat × Nat)} {P : Bool → StM → Prop} (h : MC M L p (o + 1) C ((10, 0) :: W) N) (hL : L ≤ 160) (hW : HC W) (hc : C.length < p) (hP : ∀ N', MC M L p o (C ++ [(10, 0)]) W N' → EX E q d P N') : EX E q d P N := by
  obtain ⟨t1, t2⟩ := HC.top h hL (hW.cons (by omega) (by omega))
  have t1 : mTop N = 10 := t1
  have hpd := h.lz.zero.2
  obtain ⟨h0, h1, h2, h3, h4⟩ := h
  rw [List.length_cons] at h2
  have h4 : FR C.length W := h4.2 rfl
  have step : ∀ d' {K : StM → Prop}, (∀ N', MC M L p o (C ++ [(10, 0)]) W N' → K N') → C_says E q d' 10 0 N (fun S4 => K (sI (sI S4 35 ((s_waiting S4) - 1)) 33 ((s_open S4) - 1))) := by
    intro d' K hK
    refine ms_says (i := (10, 0)) h0 (by omega) ?_ (fun N' h' => hK _ ?_)
    · rw [hpd _ (Nat.le_refl _), if_neg (by decide), encM, if_neg (by decide)]
      rfl
    · rw [pdW_nf rfl] at h'
      obtain ⟨nu, sd, wt, rfl, hs, hw⟩ := h'
      refine ⟨⟨nu, sd, wt, ?_, hs, hw.2⟩, ?_, by omega, h3, h4.mono ?_⟩
      · show sI (sI (mRd M p nu (o + 1) (C ++ [(10, 0)]).length (W.length + 1) sd wt) 35 (nI (W.length + 1) - 1)) 33 (nI (o + 1) - 1) = _
        rw [nI_p', nI_p', mRd_35, mRd_33]
      · rw [List.length_append]; show C.length + 1 ≤ _; omega
      · rw [List.length_append]; omega
  exact ⟨⟨en_endsPiece ⟨t2, fun z => absurd t1 z, fun _ => step _ (fun N' h' => (hP N' h').1.2)⟩, sg_endsPiece_0 ⟨t2, fun z => absurd t1 z, fun _ => step _ (fun N' h' => (hP N' h').1.2)⟩⟩, ⟨en_endsPiece ⟨t2, fun z => absurd t1 z, fun _ => step _ (fun N' h' => (hP N' h').2.2)⟩, sg_endsPiece_0 ⟨t2, fun z => absurd t1 z, fun _ => step _ (fun N' h' => (hP N' h').2.2)⟩⟩⟩
