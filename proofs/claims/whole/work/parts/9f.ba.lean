/-! the book takes one text more -/
abbrev iX_Book_add : MI := (yX5_add, cX5_add, 4, (some .int))
theorem cj_size {E : EvT} {d l e n : Nat} {m : Int32} : Cn E iX_Lsize d 0 0 [.ref l] [alO l m e n] (fun v w' => v = some (.int (nI n)) ∧ w' = [alO l m e n]) := by
  refine Cn.of rfl (Nat.le_of_ble_eq_true rfl) (ls := [(0, .ref l)]) rfl ?_
  refine r_aload_n 0 dJx4a65c_size_8abf5_0 rfl rfl ?_
  refine r_getN (q0 := 0) rfl rfl dJx4a65c_size_8abf5_1 ?_
  exact r_iret dJx4a65c_size_8abf5_4 rfl (Nat.le_refl _) (Nat.le_refl _) ⟨rfl, rfl⟩
theorem pm_one {w : va_W} {q0 : Nat} {x : Nat × va_E} (hw : w[q0]? = some x) : (w.eraseIdx q0 ++ [x]).Perm w := (pm_get w q0 x hw).symm
theorem ba_in {a x : Nat × va_E} {A e T N : va_W} : ((A ++ a :: (e ++ T)) ++ x :: N).Perm ((A ++ N) ++ a :: (e ++ x :: T)) := by
  rw [List.append_assoc, List.append_assoc]
  refine List.Perm.append_left A ?_
  have h1 : (a :: (e ++ T) ++ x :: N).Perm (a :: (e ++ x :: T) ++ N) := by
    refine List.Perm.cons a ?_
    show ((e ++ T) ++ x :: N).Perm ((e ++ x :: T) ++ N)
    rw [List.append_assoc, List.append_assoc]
    exact List.Perm.append_left e List.perm_middle
  exact h1.trans List.perm_append_comm
theorem ba_out {a x o : Nat × va_E} {A T N rest : va_W} : ((A ++ N) ++ ((a :: o :: x :: T) ++ rest)).Perm ((A ++ a :: ([o] ++ (T ++ x :: N))) ++ rest) := by
  rw [← List.append_assoc]
  refine List.Perm.append_right rest ?_
  rw [List.append_assoc]
  refine List.Perm.append_left A ?_
  refine List.perm_append_comm.trans ?_
  refine List.Perm.cons a (List.Perm.cons o ?_)
  show (x :: (T ++ N)).Perm (T ++ x :: N)
  exact List.perm_middle.symm
theorem Cn.permQ {E : EvT} {I : MI} {d mc ms : Nat} {av : List Value} {w : va_W} {Q : Option Value → va_W → Prop} (h : Cn E I d mc ms av w Q) {w2 : va_W} (hw : w = w2) : Cn E I d mc ms av w2 Q := hw ▸ h
/-- the book's list gets the text at its place -/
theorem cb_list {E : EvT} {q : Nat → Nat} {d mi : Nat} {A : va_W} {D : DyT} {t : TxT} (hE : EOq E (q 15) mi) (hB : EOr E) (hn : D.2.2.length < 20) (hc : D.2.2.length ≤ D.2.1) (hc2 : D.2.1 ≤ 1000) : Cn E iJ_ad1 (d + 7) 1 64 [.ref (q 12), .ref (q (1000 + 10 * D.2.2.length))] ((A ++ dyX E q D) ++ txC E q D.2.2.length t) (fun v w' => v = some (.int (b2i true)) ∧ ∃ (b2 cap2 : Nat) (rest : va_W), D.2.2.length + 1 ≤ cap2 ∧ cap2 ≤ 1000 ∧ w'.Perm ((A ++ dyX E (fun i => if i = 13 then b2 else q i) (D.1 + 1, cap2, D.2.2 ++ [t])) ++ rest)) := by
  obtain ⟨m, cap, l⟩ := D
  have hn1 : l.length < 20 := hn
  have hf : ∀ k, l.length ≤ k → (fun k => if k < l.length then some (q (1000 + 10 * k)) else none) k = none := fun k hk => if_neg (by omega)
  have hT : isTx (fun k => if k < l.length then some (q (1000 + 10 * k)) else none) l.length (txW E q 0 l) := fun i hi y hy => by
    have hy1 : some (q (1000 + 10 * i)) = some y := by rw [← hy]; exact (if_pos hi).symm
    cases hy1
    obtain ⟨j, vs, hj⟩ := txW_in (E := E) (q := q) l 0 i hi
    rw [Nat.zero_add] at hj
    exact ⟨j, vs, hj⟩
  -- what the list's own contract leaves is the book's new list
  have out : ∀ (w1 : va_W), adQ E (q 12) (q (1000 + 10 * l.length)) l.length (m + 1) (fun k => if k < l.length then some (q (1000 + 10 * k)) else none) [.ref (q (1001 + 10 * l.length)), .ref (q (1002 + 10 * l.length)), .ref (q (1003 + 10 * l.length)), .ref (q (1004 + 10 * l.length)), .ref (q (1005 + 10 * l.length))] (txW E q 0 l) w1 → ∃ (b2 cap2 : Nat) (rest : va_W), l.length + 1 ≤ cap2 ∧ cap2 ≤ 1000 ∧ ((A ++ (txC E q l.length t).tail) ++ w1).Perm ((A ++ dyX E (fun i => if i = 13 then b2 else q i) (m + 1, cap2, l ++ [t])) ++ rest) := by
    intro w1 h
    obtain ⟨b2, cap2, rest, g1, g2, g3⟩ := h
    refine ⟨b2, cap2, rest, g1, g2, ?_⟩
    refine (List.Perm.append_left _ g3).trans ?_
    refine ba_out.trans ?_
    refine List.Perm.append_right rest (List.Perm.append_left A ?_)
    have hne : ¬ cap2 = 0 := by omega
    have e1 : dyX E (fun i => if i = 13 then b2 else q i) (m + 1, cap2, l ++ [t]) = alO (q 12) (m + 1) b2 (l.length + 1) :: ([obA E b2 cap2 (fT (fun k => if k < l.length then some (q (1000 + 10 * k)) else none) l.length (q (1000 + 10 * l.length)))] ++ (txW E q 0 l ++ txC E q l.length t)) := by
      unfold dyX
      rw [if_neg hne, if_neg hne]
      have e2 : txW E (fun i => if i = 13 then b2 else q i) 0 (l ++ [t]) = txW E q 0 l ++ txC E q l.length t := by
        rw [txW_q (q := q) (l ++ [t]) 0 (fun i h1 _ => if_neg (by omega)), txW_app, Nat.zero_add]
      have e3 : (fun k => if k < (l ++ [t]).length then some (if 1000 + 10 * k = 13 then b2 else q (1000 + 10 * k)) else none) = fT (fun k => if k < l.length then some (q (1000 + 10 * k)) else none) l.length (q (1000 + 10 * l.length)) := by
        funext k
        simp only [fT, List.length_append, List.length_cons, List.length_nil]
        rw [if_neg (show ¬ 1000 + 10 * k = 13 by omega)]
        by_cases h1 : k < l.length
        · rw [if_pos (by omega), if_pos h1, if_pos h1]
        · rw [if_neg h1]
          by_cases h2 : k = l.length
          · subst h2; rw [if_pos (by omega), if_pos rfl]
          · rw [if_neg (by omega), if_neg h2]
      show _ :: ([(if 13 = 13 then b2 else q 13, _)] ++ txW E (fun i => if i = 13 then b2 else q i) 0 (l ++ [t])) = _
      rw [e2, e3, if_pos rfl, show (l ++ [t]).length = l.length + 1 by simp]
      rfl
    rw [e1]
    exact List.Perm.refl _
  by_cases h0 : cap = 0
  · have hl : l.length = 0 := by have := hc; simp only at this; omega
    have hl2 : l = [] := List.length_eq_zero_iff.mp hl
    subst hl2
    subst h0
    refine ((((cj_ad1 (cj_ad3a (l := q 12) (t := q (1000 + 10 * 0)) (m := m + 1) (vs := [.ref (q (1001 + 10 * 0)), .ref (q (1002 + 10 * 0)), .ref (q (1003 + 10 * 0)), .ref (q (1004 + 10 * 0)), .ref (q (1005 + 10 * 0))]) (w := []) hE hB (fun k _ => hf k (Nat.zero_le _)))).frame (A ++ (txC E q 0 t).tail)).perm (ba_in (e := []))).mono ?_)
    intro v w' h
    obtain ⟨w1, rfl, hv, h⟩ := h
    exact ⟨hv, out w1 h⟩
  · have hd1 : dyX E q (m, cap, l) = alO (q 12) m (q 13) l.length :: ([obA E (q 13) cap (fun k => if k < l.length then some (q (1000 + 10 * k)) else none)] ++ txW E q 0 l) := by
      unfold dyX
      rw [if_neg h0, if_neg h0]
    rw [hd1]
    by_cases h1 : l.length = cap
    · subst h1
      refine ((((cj_ad1 (cj_ad3c (l := q 12) (b := q 13) (t := q (1000 + 10 * l.length)) (m := m + 1) (vs := [.ref (q (1001 + 10 * l.length)), .ref (q (1002 + 10 * l.length)), .ref (q (1003 + 10 * l.length)), .ref (q (1004 + 10 * l.length)), .ref (q (1005 + 10 * l.length))]) hE hB (by omega) (by omega) hT)).frame (A ++ (txC E q l.length t).tail)).perm ba_in).mono ?_)
      intro v w' h
      obtain ⟨w1, rfl, hv, h⟩ := h
      exact ⟨hv, out w1 h⟩
    · refine ((((cj_ad1 (cj_ad3b (l := q 12) (b := q 13) (t := q (1000 + 10 * l.length)) (m := m + 1) (vs := [.ref (q (1001 + 10 * l.length)), .ref (q (1002 + 10 * l.length)), .ref (q (1003 + 10 * l.length)), .ref (q (1004 + 10 * l.length)), .ref (q (1005 + 10 * l.length))]) (w := txW E q 0 l) hB (show l.length < cap by have := hc; simp only at this; omega) hc2 hf)).frame (A ++ (txC E q l.length t).tail)).perm ba_in).mono ?_)
      intro v w' h
      obtain ⟨w1, rfl, hv, h⟩ := h
      exact ⟨hv, out w1 h⟩
