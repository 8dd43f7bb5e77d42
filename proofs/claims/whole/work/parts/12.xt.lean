abbrev txs (S : StX) : List TxT := S.2.2.2.2.2.2
abbrev nTx (S : StX) : Nat := (txs S).length
abbrev capX (S : StX) : Nat := S.2.2.2.2.2.1
def tx0 : TxT := (0, fun _ => 0, fun _ => 0, fun _ => 0, fun _ => 0, 0, fun _ => 0)
def tx (S : StX) (k : Nat) : TxT := (txs S).getD k tx0
abbrev t_n (S : StX) (k : Nat) : Nat := (tx S k).1
abbrev t_letter (S : StX) (k : Nat) : Nat → Int32 := (tx S k).2.1
abbrev t_value (S : StX) (k : Nat) : Nat → Int32 := (tx S k).2.2.1
abbrev t_target (S : StX) (k : Nat) : Nat → Int32 := (tx S k).2.2.2.1
abbrev t_codeEnd (S : StX) (k : Nat) : Nat → Int32 := (tx S k).2.2.2.2.1
abbrev t_steps (S : StX) (k : Nat) : Nat := (tx S k).2.2.2.2.2.1
abbrev t_code (S : StX) (k : Nat) : Nat → Int32 := (tx S k).2.2.2.2.2.2
theorem txC_len (E : EvT) (q : Nat → Nat) (k : Nat) (t : TxT) : (txC E q k t).length = 6 := rfl
theorem txW_get (E : EvT) (q : Nat → Nat) {j : Nat} {c : Nat × va_E} : ∀ (l : List TxT) (k0 k : Nat) (t : TxT), l[k]? = some t → (txC E q (k0 + k) t)[j]? = some c → (txW E q k0 l)[6 * k + j]? = some c := by
  intro l
  induction l with
  | nil => intro k0 k t h; simp at h
  | cons t0 l ih =>
    intro k0 k t h hc
    have hj : j < 6 := by
      have := (List.getElem?_eq_some_iff.mp hc).1
      rwa [txC_len] at this
    cases k with
    | zero =>
      simp at h
      subst h
      rw [txW, List.getElem?_append_left (by rw [txC_len]; omega)]
      simpa using hc
    | succ k =>
      rw [txW, List.getElem?_append_right (by rw [txC_len]; omega), txC_len, show 6 * (k + 1) + j - 6 = 6 * k + j by omega]
      refine ih (k0 + 1) k t (by simpa using h) ?_
      rw [show k0 + 1 + k = k0 + (k + 1) by omega]
      exact hc
def tpos (S : StX) (k j : Nat) : Nat := 90 + (1 + ((if capX S = 0 then 0 else 1) + (6 * k + j)))
theorem wX_app (E : EvT) (q : Nat → Nat) (S : StX) : ∃ l : va_W, l.length = 90 ∧ wX E q S = l ++ dyX E q S.2.2.2.2 := ⟨_, rfl, rfl⟩
theorem wX_tx {E : EvT} {q : Nat → Nat} {S : StX} {k j : Nat} {c : Nat × va_E} (hk : k < nTx S) (hc : (txC E q k (tx S k))[j]? = some c) : (wX E q S)[tpos S k j]? = some c := by
  obtain ⟨l, hl, he⟩ := wX_app E q S
  unfold tpos
  rw [he, List.getElem?_append_right (by rw [hl]; exact Nat.le_add_right _ _), hl, Nat.add_sub_cancel_left]
  unfold dyX
  rw [Nat.add_comm 1, List.getElem?_cons_succ]
  have h0 : (txs S)[k]? = some (tx S k) := by
    rw [tx, List.getD_eq_getElem?_getD, List.getElem?_eq_getElem hk]
    rfl
  have h1 := txW_get E q (txs S) 0 k (tx S k) h0 (by rw [Nat.zero_add]; exact hc)
  by_cases hz : capX S = 0
  · rw [if_pos hz, if_pos hz, List.nil_append, Nat.zero_add]
    exact h1
  · rw [if_neg hz, if_neg hz, Nat.add_comm 1]
    exact h1
theorem wX_li {E : EvT} {q : Nat → Nat} {S : StX} : (wX E q S)[90]? = some (q 12, .inr (0, [.int S.2.2.2.2.1, .ref (if capX S = 0 then q 15 else q 13), .int (nI (nTx S))])) := rfl
theorem wX_el {E : EvT} {q : Nat → Nat} {S : StX} (hc : ¬ capX S = 0) : (wX E q S)[91]? = some (q 13, .inl (E.2.2.1 4, capX S, .inr (.inr (.inr (.inr (fun k => if k < nTx S then some (q (1000 + 10 * k)) else none)))))) := by
  show ((if capX S = 0 then [] else [(q 13, .inl (E.2.2.1 4, capX S, .inr (.inr (.inr (.inr (fun k => if k < nTx S then some (q (1000 + 10 * k)) else none))))))]) ++ txW E q 0 (txs S))[0]? = _
  rw [if_neg hc]
  rfl
theorem vinN {i : Int32} {n : Nat} (h : 0 ≤ i ∧ ix i < n) : vp_in i n := by
  intro hh
  rcases hh with hh | hh
  · exact absurd hh (Int32.not_lt.mpr h.1)
  · exact absurd h.2 (Nat.not_lt.mpr hh)
section XT
variable {E : EvT} {q : Nat → Nat} {I : MI} {d : Nat} {Qw : Option Value → va_W → Prop} {S : StX} {ls : List (Nat × Value)} {st : List Value} {pc : Nat} {k : Nat}
theorem tg_letter (hk : k < nTx S) (hI : I.1.cls = RX7) (hd : decode I.2.1 pc = .ok (.getfield 9, 3)) (kk : RX E q I d Qw S ls (.ref (q (1001 + 10 * k)) :: st) (pc + 3)) : RX E q I d Qw S ls (.ref (q (1000 + 10 * k)) :: st) pc := r_get (T := TX7) (f := 0) inwX7 rfl (by decide) (by rw [hI]; exact w4_138) (wX_tx (j := 0) hk rfl) rfl hd kk
theorem tl_letter {i : Int32} (hk : k < nTx S) (hb : 0 ≤ i ∧ ix i < t_n S k) (hd : decode I.2.1 pc = .ok (.iaload, 1)) (kk : RX E q I d Qw S ls (.int (t_letter S k (ix i)) :: st) (pc + 1)) : RX E q I d Qw S ls (.int i :: .ref (q (1001 + 10 * k)) :: st) pc := r_iald (wX_tx (j := 1) hk rfl) (vinN hb) hd kk
theorem tn_letter (hk : k < nTx S) (hd : decode I.2.1 pc = .ok (.arraylength, 1)) (kk : RX E q I d Qw S ls (.int (nI (t_n S k)) :: st) (pc + 1)) : RX E q I d Qw S ls (.ref (q (1001 + 10 * k)) :: st) pc := r_alen 0 (wX_tx (j := 1) hk rfl) rfl rfl hd kk
theorem tg_value (hk : k < nTx S) (hI : I.1.cls = RX7) (hd : decode I.2.1 pc = .ok (.getfield 15, 3)) (kk : RX E q I d Qw S ls (.ref (q (1002 + 10 * k)) :: st) (pc + 3)) : RX E q I d Qw S ls (.ref (q (1000 + 10 * k)) :: st) pc := r_get (T := TX7) (f := 1) inwX7 rfl (by decide) (by rw [hI]; exact w4_139) (wX_tx (j := 0) hk rfl) rfl hd kk
theorem tl_value {i : Int32} (hk : k < nTx S) (hb : 0 ≤ i ∧ ix i < t_n S k) (hd : decode I.2.1 pc = .ok (.iaload, 1)) (kk : RX E q I d Qw S ls (.int (t_value S k (ix i)) :: st) (pc + 1)) : RX E q I d Qw S ls (.int i :: .ref (q (1002 + 10 * k)) :: st) pc := r_iald (wX_tx (j := 2) hk rfl) (vinN hb) hd kk
theorem tn_value (hk : k < nTx S) (hd : decode I.2.1 pc = .ok (.arraylength, 1)) (kk : RX E q I d Qw S ls (.int (nI (t_n S k)) :: st) (pc + 1)) : RX E q I d Qw S ls (.ref (q (1002 + 10 * k)) :: st) pc := r_alen 0 (wX_tx (j := 2) hk rfl) rfl rfl hd kk
theorem tg_target (hk : k < nTx S) (hI : I.1.cls = RX7) (hd : decode I.2.1 pc = .ok (.getfield 18, 3)) (kk : RX E q I d Qw S ls (.ref (q (1003 + 10 * k)) :: st) (pc + 3)) : RX E q I d Qw S ls (.ref (q (1000 + 10 * k)) :: st) pc := r_get (T := TX7) (f := 2) inwX7 rfl (by decide) (by rw [hI]; exact w4_140) (wX_tx (j := 0) hk rfl) rfl hd kk
theorem tl_target {i : Int32} (hk : k < nTx S) (hb : 0 ≤ i ∧ ix i < t_n S k) (hd : decode I.2.1 pc = .ok (.iaload, 1)) (kk : RX E q I d Qw S ls (.int (t_target S k (ix i)) :: st) (pc + 1)) : RX E q I d Qw S ls (.int i :: .ref (q (1003 + 10 * k)) :: st) pc := r_iald (wX_tx (j := 3) hk rfl) (vinN hb) hd kk
theorem tn_target (hk : k < nTx S) (hd : decode I.2.1 pc = .ok (.arraylength, 1)) (kk : RX E q I d Qw S ls (.int (nI (t_n S k)) :: st) (pc + 1)) : RX E q I d Qw S ls (.ref (q (1003 + 10 * k)) :: st) pc := r_alen 0 (wX_tx (j := 3) hk rfl) rfl rfl hd kk
theorem tg_codeEnd (hk : k < nTx S) (hI : I.1.cls = RX7) (hd : decode I.2.1 pc = .ok (.getfield 21, 3)) (kk : RX E q I d Qw S ls (.ref (q (1004 + 10 * k)) :: st) (pc + 3)) : RX E q I d Qw S ls (.ref (q (1000 + 10 * k)) :: st) pc := r_get (T := TX7) (f := 3) inwX7 rfl (by decide) (by rw [hI]; exact w4_141) (wX_tx (j := 0) hk rfl) rfl hd kk
theorem tl_codeEnd {i : Int32} (hk : k < nTx S) (hb : 0 ≤ i ∧ ix i < t_n S k) (hd : decode I.2.1 pc = .ok (.iaload, 1)) (kk : RX E q I d Qw S ls (.int (t_codeEnd S k (ix i)) :: st) (pc + 1)) : RX E q I d Qw S ls (.int i :: .ref (q (1004 + 10 * k)) :: st) pc := r_iald (wX_tx (j := 4) hk rfl) (vinN hb) hd kk
theorem tn_codeEnd (hk : k < nTx S) (hd : decode I.2.1 pc = .ok (.arraylength, 1)) (kk : RX E q I d Qw S ls (.int (nI (t_n S k)) :: st) (pc + 1)) : RX E q I d Qw S ls (.ref (q (1004 + 10 * k)) :: st) pc := r_alen 0 (wX_tx (j := 4) hk rfl) rfl rfl hd kk
theorem tg_code (hk : k < nTx S) (hI : I.1.cls = RX7) (hd : decode I.2.1 pc = .ok (.getfield 24, 3)) (kk : RX E q I d Qw S ls (.ref (q (1005 + 10 * k)) :: st) (pc + 3)) : RX E q I d Qw S ls (.ref (q (1000 + 10 * k)) :: st) pc := r_get (T := TX7) (f := 4) inwX7 rfl (by decide) (by rw [hI]; exact w4_142) (wX_tx (j := 0) hk rfl) rfl hd kk
theorem tl_code {i : Int32} (hk : k < nTx S) (hb : 0 ≤ i ∧ ix i < t_steps S k) (hd : decode I.2.1 pc = .ok (.iaload, 1)) (kk : RX E q I d Qw S ls (.int (t_code S k (ix i)) :: st) (pc + 1)) : RX E q I d Qw S ls (.int i :: .ref (q (1005 + 10 * k)) :: st) pc := r_iald (wX_tx (j := 5) hk rfl) (vinN hb) hd kk
theorem tn_code (hk : k < nTx S) (hd : decode I.2.1 pc = .ok (.arraylength, 1)) (kk : RX E q I d Qw S ls (.int (nI (t_steps S k)) :: st) (pc + 1)) : RX E q I d Qw S ls (.ref (q (1005 + 10 * k)) :: st) pc := r_alen 0 (wX_tx (j := 5) hk rfl) rfl rfl hd kk
end XT

abbrev iX_Text_clauses : MI := (yX7_clauses, cX7_clauses, 1, (some .int))
abbrev C_Text_clauses (E : EvT) (q : Nat → Nat) (d : Nat) (k : Nat) (S : StX) (P : Int32 → StX → Prop) : Prop := Cn E iX_Text_clauses d 0 0 [.ref (q (1000 + 10 * k))] (wX E q S) (qIx E q P)
theorem KT5_Text_clauses {E : EvT} {q : Nat → Nat} {I : MI} {d : Nat} {Qw : Option Value → va_W → Prop} {S : StX} {ls : List (Nat × Value)} {st : List Value} {pc : Nat} {k : Nat} (hk : k < nTx S) (hI : I.1.cls = RX5) (hW : (st.map fun v => v.category).sum ≤ 8) (hd : decode I.2.1 pc = .ok (.invokevirtual 44, 3)) (con : C_Text_clauses E q d k S (fun r S1 => RX E q I (d + 1) Qw S1 ls (.int r :: st) (pc + 3))) : RX E q I (d + 1) Qw S ls (.ref (q (1000 + 10 * k)) :: st) pc := r_callV (J := iX_Text_clauses) (As := []) (T := TX7) (by rw [hI]; exact w6_164) w6_165 w6_166 w1_19 w6_167 (nA := 0) (by decide +kernel) rfl (by decide) (wX_tx (j := 0) hk rfl) rfl hW hd ⟨Nat.le_refl _, Nat.le_refl _⟩ rfl con (fun v w ⟨r, S1, hv, hw, h⟩ => by subst hv; subst hw; exact h)
abbrev iX_Text_strikeIn : MI := (yX7_strikeIn, cX7_strikeIn, 4, none)
abbrev C_Text_strikeIn (E : EvT) (q : Nat → Nat) (d : Nat) (k : Nat) (x2 : Int32) (S : StX) (P : StX → Prop) : Prop := Cn E iX_Text_strikeIn d 0 0 [.ref (q (1000 + 10 * k)), .ref (q 203), .int x2] (wX E q S) (qVx E q P)
theorem KT5_Text_strikeIn {E : EvT} {q : Nat → Nat} {I : MI} {d : Nat} {Qw : Option Value → va_W → Prop} {S : StX} {ls : List (Nat × Value)} {st : List Value} {pc : Nat} {x2 : Int32} {k : Nat} (hk : k < nTx S) (hI : I.1.cls = RX5) (hW : (st.map fun v => v.category).sum ≤ 8) (hd : decode I.2.1 pc = .ok (.invokevirtual 65, 3)) (con : C_Text_strikeIn E q d k x2 S (fun S1 => RX E q I (d + 1) Qw S1 ls st (pc + 3))) : RX E q I (d + 1) Qw S ls (.int x2 :: .ref (q 203) :: .ref (q (1000 + 10 * k)) :: st) pc := r_callV (J := iX_Text_strikeIn) (As := [.ref (q 203), .int x2]) (T := TX7) (by rw [hI]; exact w5_9) w5_10 w5_11 w1_19 w5_12 (nA := 2) (by decide +kernel) rfl (by decide) (wX_tx (j := 0) hk rfl) rfl hW hd ⟨Nat.le_refl _, Nat.le_refl _⟩ rfl con (fun v w ⟨S1, hv, hw, h⟩ => by subst hv; subst hw; exact h)
abbrev iX_Text_lastOf : MI := (yX7_lastOf, cX7_lastOf, 6, (some .int))
abbrev C_Text_lastOf (E : EvT) (q : Nat → Nat) (d : Nat) (k : Nat) (x1 : Int32) (x2 : Int32) (S : StX) (P : Int32 → StX → Prop) : Prop := Cn E iX_Text_lastOf d 0 0 [.ref (q (1000 + 10 * k)), .int x1, .int x2, .ref (q 204), .ref (q 205)] (wX E q S) (qIx E q P)
theorem KT5_Text_lastOf {E : EvT} {q : Nat → Nat} {I : MI} {d : Nat} {Qw : Option Value → va_W → Prop} {S : StX} {ls : List (Nat × Value)} {st : List Value} {pc : Nat} {x1 : Int32} {x2 : Int32} {k : Nat} (hk : k < nTx S) (hI : I.1.cls = RX5) (hW : (st.map fun v => v.category).sum ≤ 8) (hd : decode I.2.1 pc = .ok (.invokevirtual 72, 3)) (con : C_Text_lastOf E q d k x1 x2 S (fun r S1 => RX E q I (d + 1) Qw S1 ls (.int r :: st) (pc + 3))) : RX E q I (d + 1) Qw S ls (.ref (q 205) :: .ref (q 204) :: .int x2 :: .int x1 :: .ref (q (1000 + 10 * k)) :: st) pc := r_callV (J := iX_Text_lastOf) (As := [.int x1, .int x2, .ref (q 204), .ref (q 205)]) (T := TX7) (by rw [hI]; exact w5_13) w5_14 w5_15 w1_19 w5_16 (nA := 4) (by decide +kernel) rfl (by decide) (wX_tx (j := 0) hk rfl) rfl hW hd ⟨Nat.le_refl _, Nat.le_refl _⟩ rfl con (fun v w ⟨r, S1, hv, hw, h⟩ => by subst hv; subst hw; exact h)
abbrev iX_Text_lines : MI := (yX7_lines, cX7_lines, 6, (some .int))
abbrev C_Text_lines (E : EvT) (q : Nat → Nat) (d : Nat) (k : Nat) (x1 : Int32) (S : StX) (P : Int32 → StX → Prop) : Prop := Cn E iX_Text_lines d 0 0 [.ref (q (1000 + 10 * k)), .int x1, .ref (q 204), .ref (q 205)] (wX E q S) (qIx E q P)
theorem KT5_Text_lines {E : EvT} {q : Nat → Nat} {I : MI} {d : Nat} {Qw : Option Value → va_W → Prop} {S : StX} {ls : List (Nat × Value)} {st : List Value} {pc : Nat} {x1 : Int32} {k : Nat} (hk : k < nTx S) (hI : I.1.cls = RX5) (hW : (st.map fun v => v.category).sum ≤ 8) (hd : decode I.2.1 pc = .ok (.invokevirtual 68, 3)) (con : C_Text_lines E q d k x1 S (fun r S1 => RX E q I (d + 1) Qw S1 ls (.int r :: st) (pc + 3))) : RX E q I (d + 1) Qw S ls (.ref (q 205) :: .ref (q 204) :: .int x1 :: .ref (q (1000 + 10 * k)) :: st) pc := r_callV (J := iX_Text_lines) (As := [.int x1, .ref (q 204), .ref (q 205)]) (T := TX7) (by rw [hI]; exact w5_37) w5_38 w5_39 w1_19 w5_40 (nA := 3) (by decide +kernel) rfl (by decide) (wX_tx (j := 0) hk rfl) rfl hW hd ⟨Nat.le_refl _, Nat.le_refl _⟩ rfl con (fun v w ⟨r, S1, hv, hw, h⟩ => by subst hv; subst hw; exact h)
abbrev iX_Text_holds : MI := (yX7_holds, cX7_holds, 10, (some .boolean))
abbrev C_Text_holds (E : EvT) (q : Nat → Nat) (d : Nat) (k : Nat) (x1 : Int32) (S : StX) (P : Bool → StX → Prop) : Prop := Cn E iX_Text_holds d 0 0 [.ref (q (1000 + 10 * k)), .int x1, .ref (q 204), .ref (q 205)] (wX E q S) (qBx E q P)
theorem KT7_Text_holds {E : EvT} {q : Nat → Nat} {I : MI} {d : Nat} {Qw : Option Value → va_W → Prop} {S : StX} {ls : List (Nat × Value)} {st : List Value} {pc : Nat} {x1 : Int32} {k : Nat} (hk : k < nTx S) (hI : I.1.cls = RX7) (hW : (st.map fun v => v.category).sum ≤ 8) (hd : decode I.2.1 pc = .ok (.invokevirtual 27, 3)) (con : C_Text_holds E q d k x1 S (fun r S1 => RX E q I (d + 1) Qw S1 ls (.int (b2i r) :: st) (pc + 3))) : RX E q I (d + 1) Qw S ls (.ref (q 205) :: .ref (q 204) :: .int x1 :: .ref (q (1000 + 10 * k)) :: st) pc := r_callV (J := iX_Text_holds) (As := [.int x1, .ref (q 204), .ref (q 205)]) (T := TX7) (by rw [hI]; exact w5_17) w5_19 v2_8 w1_19 w5_20 (nA := 3) (by decide +kernel) rfl (by decide) (wX_tx (j := 0) hk rfl) rfl hW hd ⟨Nat.le_refl _, Nat.le_refl _⟩ rfl con (fun v w ⟨r, S1, hv, hw, h⟩ => by subst hv; subst hw; exact h)
abbrev iX_Text_reckon : MI := (yX7_reckon, cX7_reckon, 3, (some .int))
abbrev C_Text_reckon (E : EvT) (q : Nat → Nat) (d : Nat) (x0 : Int32) (x1 : Int32) (x2 : Int32) (S : StX) (P : Int32 → StX → Prop) : Prop := Cn E iX_Text_reckon d 0 0 [.int x0, .int x1, .int x2] (wX E q S) (qIx E q P)
theorem K7_Text_reckon {E : EvT} {q : Nat → Nat} {I : MI} {d : Nat} {Qw : Option Value → va_W → Prop} {S : StX} {ls : List (Nat × Value)} {st : List Value} {pc : Nat} {x0 : Int32} {x1 : Int32} {x2 : Int32} (hI : I.1.cls = RX7) (hW : (st.map fun v => v.category).sum ≤ 8) (hd : decode I.2.1 pc = .ok (.invokestatic 32, 3)) (con : C_Text_reckon E q d x0 x1 x2 S (fun r S1 => RX E q I (d + 1) Qw S1 ls (.int r :: st) (pc + 3))) : RX E q I (d + 1) Qw S ls (.int x2 :: .int x1 :: .int x0 :: st) pc := r_callS (J := iX_Text_reckon) (As := [.int x0, .int x1, .int x2]) (by rw [hI]; exact w5_22) w5_23 w1_19 w5_24 (nA := 3) (by decide +kernel) rfl (by decide) hW hd ⟨Nat.le_refl _, Nat.le_refl _⟩ rfl con (fun v w ⟨r, S1, hv, hw, h⟩ => by subst hv; subst hw; exact h)


def pReck (s a b : Int32) : Int32 := if s = 37 then (if b = 0 then 0 else rmd a b) else if s = 42 then a * b else if s = 43 then a + b else if s = 45 then a - b else if s = 47 then (if b = 0 then 0 else a / b) else if s = 60 then (if a < b then 1 else 0) else if s = 62 then (if b < a then 1 else 0) else (if a = b then 1 else 0)

set_option maxRecDepth 20000 in
theorem en_Text_reckon {E : EvT} {q : Nat → Nat} {d : Nat} {x0 : Int32} {x1 : Int32} {x2 : Int32} {S : StX} {P : Int32 → StX → Prop} (h : (x0 = 37 → ((¬ x2 = 0 → (¬ x2 = 0 ∧ (P (x1 - x1 / x2 * x2) S))) ∧ (x2 = 0 → (P 0 S)))) ∧ (¬ x0 = 37 → ((x0 = 42 → (P (x1 * x2) S)) ∧ (¬ x0 = 42 → ((x0 = 43 → (P (x1 + x2) S)) ∧ (¬ x0 = 43 → ((x0 = 45 → (P (x1 - x2) S)) ∧ (¬ x0 = 45 → ((x0 = 47 → ((¬ x2 = 0 → (¬ x2 = 0 ∧ (P (x1 / x2) S))) ∧ (x2 = 0 → (P 0 S)))) ∧ (¬ x0 = 47 → ((x0 = 60 → ((x2 ≤ x1 → (P 0 S)) ∧ (¬ x2 ≤ x1 → (P 1 S)))) ∧ (¬ x0 = 60 → ((x0 = 62 → ((x1 ≤ x2 → (P 0 S)) ∧ (¬ x1 ≤ x2 → (P 1 S)))) ∧ (¬ x0 = 62 → ((¬ x1 = x2 → (P 0 S)) ∧ (x1 = x2 → (P 1 S))))))))))))))))) : C_Text_reckon E q d x0 x1 x2 S P := by
  refine Cn.of rfl (Nat.le_of_ble_eq_true rfl) (ls := [(0, .int (x0)), (1, .int (x1)), (2, .int (x2))]) rfl ?_
  refine r_iload_n 0 dX7_reckon_0 rfl rfl ?_
  by_cases c1 : x0 = 37
  · have h := h.1 c1
    refine r_lookup (tgt := 92) (off := 91) dX7_reckon_1 (by decide) (by rw [c1]; rfl) (by decide) ?_
    refine r_iload_n 2 dX7_reckon_92 rfl rfl ?_
    refine r_if_ne (tgt := 100) dX7_reckon_93 (by decide) (fun c2 => ?_) (fun c2 => ?_)
    · have h := h.1 c2
      refine r_iload_n 1 dX7_reckon_100 rfl rfl ?_
      refine r_iload_n 2 dX7_reckon_101 rfl rfl ?_
      obtain ⟨b3, h⟩ := h
      refine r_irem dX7_reckon_102 b3 ?_
      exact r_iret dX7_reckon_103 rfl (Nat.le_refl _) (Nat.le_refl _) ⟨_, _, rfl, rfl, h⟩
    · have h := h.2 c2
      refine r_iconst_0 dX7_reckon_96 ?_
      refine r_goto (tgt := 103) dX7_reckon_97 (by decide) ?_
      exact r_iret dX7_reckon_103 rfl (Nat.le_refl _) (Nat.le_refl _) ⟨_, _, rfl, rfl, h⟩
  · have h := h.2 c1
    by_cases c4 : x0 = 42
    · have h := h.1 c4
      refine r_lookup (tgt := 76) (off := 75) dX7_reckon_1 (by decide) (by rw [c4]; rfl) (by decide) ?_
      refine r_iload_n 1 dX7_reckon_76 rfl rfl ?_
      refine r_iload_n 2 dX7_reckon_77 rfl rfl ?_
      refine r_imul dX7_reckon_78 ?_
      exact r_iret dX7_reckon_79 rfl (Nat.le_refl _) (Nat.le_refl _) ⟨_, _, rfl, rfl, h⟩
    · have h := h.2 c4
      by_cases c5 : x0 = 43
      · have h := h.1 c5
        refine r_lookup (tgt := 68) (off := 67) dX7_reckon_1 (by decide) (by rw [c5]; rfl) (by decide) ?_
        refine r_iload_n 1 dX7_reckon_68 rfl rfl ?_
        refine r_iload_n 2 dX7_reckon_69 rfl rfl ?_
        refine r_iadd dX7_reckon_70 ?_
        exact r_iret dX7_reckon_71 rfl (Nat.le_refl _) (Nat.le_refl _) ⟨_, _, rfl, rfl, h⟩
      · have h := h.2 c5
        by_cases c6 : x0 = 45
        · have h := h.1 c6
          refine r_lookup (tgt := 72) (off := 71) dX7_reckon_1 (by decide) (by rw [c6]; rfl) (by decide) ?_
          refine r_iload_n 1 dX7_reckon_72 rfl rfl ?_
          refine r_iload_n 2 dX7_reckon_73 rfl rfl ?_
          refine r_isub dX7_reckon_74 ?_
          exact r_iret dX7_reckon_75 rfl (Nat.le_refl _) (Nat.le_refl _) ⟨_, _, rfl, rfl, h⟩
        · have h := h.2 c6
          by_cases c7 : x0 = 47
          · have h := h.1 c7
            refine r_lookup (tgt := 80) (off := 79) dX7_reckon_1 (by decide) (by rw [c7]; rfl) (by decide) ?_
            refine r_iload_n 2 dX7_reckon_80 rfl rfl ?_
            refine r_if_ne (tgt := 88) dX7_reckon_81 (by decide) (fun c8 => ?_) (fun c8 => ?_)
            · have h := h.1 c8
              refine r_iload_n 1 dX7_reckon_88 rfl rfl ?_
              refine r_iload_n 2 dX7_reckon_89 rfl rfl ?_
              obtain ⟨b9, h⟩ := h
              refine r_idiv dX7_reckon_90 b9 ?_
              exact r_iret dX7_reckon_91 rfl (Nat.le_refl _) (Nat.le_refl _) ⟨_, _, rfl, rfl, h⟩
            · have h := h.2 c8
              refine r_iconst_0 dX7_reckon_84 ?_
              refine r_goto (tgt := 91) dX7_reckon_85 (by decide) ?_
              exact r_iret dX7_reckon_91 rfl (Nat.le_refl _) (Nat.le_refl _) ⟨_, _, rfl, rfl, h⟩
          · have h := h.2 c7
            by_cases c10 : x0 = 60
            · have h := h.1 c10
              refine r_lookup (tgt := 104) (off := 103) dX7_reckon_1 (by decide) (by rw [c10]; rfl) (by decide) ?_
              refine r_iload_n 1 dX7_reckon_104 rfl rfl ?_
              refine r_iload_n 2 dX7_reckon_105 rfl rfl ?_
              refine r_icmp_ge (tgt := 113) dX7_reckon_106 (by decide) (fun c11 => ?_) (fun c11 => ?_)
              · have h := h.1 c11
                refine r_iconst_0 dX7_reckon_113 ?_
                exact r_iret dX7_reckon_114 rfl (Nat.le_refl _) (Nat.le_refl _) ⟨_, _, rfl, rfl, h⟩
              · have h := h.2 c11
                refine r_iconst_1 dX7_reckon_109 ?_
                refine r_goto (tgt := 114) dX7_reckon_110 (by decide) ?_
                exact r_iret dX7_reckon_114 rfl (Nat.le_refl _) (Nat.le_refl _) ⟨_, _, rfl, rfl, h⟩
            · have h := h.2 c10
              by_cases c12 : x0 = 62
              · have h := h.1 c12
                refine r_lookup (tgt := 115) (off := 114) dX7_reckon_1 (by decide) (by rw [c12]; rfl) (by decide) ?_
                refine r_iload_n 1 dX7_reckon_115 rfl rfl ?_
                refine r_iload_n 2 dX7_reckon_116 rfl rfl ?_
                refine r_icmp_le (tgt := 124) dX7_reckon_117 (by decide) (fun c13 => ?_) (fun c13 => ?_)
                · have h := h.1 c13
                  refine r_iconst_0 dX7_reckon_124 ?_
                  exact r_iret dX7_reckon_125 rfl (Nat.le_refl _) (Nat.le_refl _) ⟨_, _, rfl, rfl, h⟩
                · have h := h.2 c13
                  refine r_iconst_1 dX7_reckon_120 ?_
                  refine r_goto (tgt := 125) dX7_reckon_121 (by decide) ?_
                  exact r_iret dX7_reckon_125 rfl (Nat.le_refl _) (Nat.le_refl _) ⟨_, _, rfl, rfl, h⟩
              · have h := h.2 c12
                refine r_lookup (tgt := 126) (off := 125) dX7_reckon_1 (by decide) (by have e0 : (x0).toInt ≠ 37 := sw_ne c1; have e1 : (x0).toInt ≠ 42 := sw_ne c4; have e2 : (x0).toInt ≠ 43 := sw_ne c5; have e3 : (x0).toInt ≠ 45 := sw_ne c6; have e4 : (x0).toInt ≠ 47 := sw_ne c7; have e5 : (x0).toInt ≠ 60 := sw_ne c10; have e6 : (x0).toInt ≠ 62 := sw_ne c12; simp [Op.lookupswitch.offset, e0, e0.symm, e1, e1.symm, e2, e2.symm, e3, e3.symm, e4, e4.symm, e5, e5.symm, e6, e6.symm]) (by decide) ?_
                refine r_iload_n 1 dX7_reckon_126 rfl rfl ?_
                refine r_iload_n 2 dX7_reckon_127 rfl rfl ?_
                refine r_icmp_ne (tgt := 135) dX7_reckon_128 (by decide) (fun c14 => ?_) (fun c14 => ?_)
                · have h := h.1 c14
                  refine r_iconst_0 dX7_reckon_135 ?_
                  exact r_iret dX7_reckon_136 rfl (Nat.le_refl _) (Nat.le_refl _) ⟨_, _, rfl, rfl, h⟩
                · have h := h.2 c14
                  refine r_iconst_1 dX7_reckon_131 ?_
                  refine r_goto (tgt := 136) dX7_reckon_132 (by decide) ?_
                  exact r_iret dX7_reckon_136 rfl (Nat.le_refl _) (Nat.le_refl _) ⟨_, _, rfl, rfl, h⟩

theorem ct_Text_reckon {E : EvT} {q : Nat → Nat} {d : Nat} {S : StX} {x0 x1 x2 : Int32} : C_Text_reckon E q d x0 x1 x2 S (fun r S1 => r = pReck x0 x1 x2 ∧ S1 = S) := by
  refine en_Text_reckon ?_
  grind (splits := 40) [pReck, rmd]

theorem KP7_Text_reckon {E : EvT} {q : Nat → Nat} {I : MI} {d : Nat} {Qw : Option Value → va_W → Prop} {S : StX} {ls : List (Nat × Value)} {st : List Value} {pc : Nat} {x0 x1 x2 : Int32} (hI : I.1.cls = RX7) (hW : (st.map fun v => v.category).sum ≤ 8) (hd : decode I.2.1 pc = .ok (.invokestatic 32, 3)) (kk : RX E q I (d + 1) Qw S ls (.int (pReck x0 x1 x2) :: st) (pc + 3)) : RX E q I (d + 1) Qw S ls (.int x2 :: .int x1 :: .int x0 :: st) pc := K7_Text_reckon hI hW hd (mIx (ct_Text_reckon (E := E) (q := q) (d := d)) (fun r S1 hs => by obtain ⟨hr, hs⟩ := hs; subst hr; subst hs; exact kk))
set_option maxRecDepth 20000 in
theorem en_Text_clauses {E : EvT} {q : Nat → Nat} {d : Nat} {k : Nat} {S : StX} {P : Int32 → StX → Prop} (h : k < nTx S ∧ (P (nI (t_n S k)) S)) : C_Text_clauses E q d k S P := by
  refine Cn.of rfl (Nat.le_of_ble_eq_true rfl) (ls := [(0, .ref (q (1000 + 10 * k)))]) rfl ?_
  refine r_aload_n 0 dX7_clauses_0 rfl rfl ?_
  obtain ⟨b1, h⟩ := h
  refine tg_letter b1 rfl dX7_clauses_1 ?_
  refine tn_letter b1 dX7_clauses_4 ?_
  exact r_iret dX7_clauses_5 rfl (Nat.le_refl _) (Nat.le_refl _) ⟨_, _, rfl, rfl, h⟩

abbrev T_Text_strikeIn_2 (E : EvT) (q : Nat → Nat) (D : Nat) (k : Nat) (P : StX → Prop) (S : StX) (y2 : Int32) (y3 : Int32) : Prop := RX E q iX_Text_strikeIn D (qVx E q P) S [(0, .ref (q (1000 + 10 * k))), (1, .ref (q 203)), (2, .int (y2)), (3, .int (y3))] [] 2
set_option maxRecDepth 20000 in
theorem en_Text_strikeIn {E : EvT} {q : Nat → Nat} {d : Nat} {k : Nat} {x2 : Int32} {S : StX} {P : StX → Prop} (h : T_Text_strikeIn_2 E q d k P S x2 0) : C_Text_strikeIn E q d k x2 S P := by
  refine Cn.of rfl (Nat.le_of_ble_eq_true rfl) (ls := [(0, .ref (q (1000 + 10 * k))), (1, .ref (q 203)), (2, .int (x2))]) rfl ?_
  refine r_iconst_0 dX7_strikeIn_0 ?_
  refine r_istore_n [(3, .int (0)), (0, .ref (q (1000 + 10 * k))), (1, .ref (q 203)), (2, .int (x2))] dX7_strikeIn_1 rfl (Nat.le_of_ble_eq_true rfl) rfl ?_
  refine r_ls [1, 2, 3, 0] (ls2 := [(0, .ref (q (1000 + 10 * k))), (1, .ref (q 203)), (2, .int (x2)), (3, .int (0))]) rfl ?_
  exact h
set_option maxRecDepth 20000 in
theorem sg_Text_strikeIn_2 {E : EvT} {q : Nat → Nat} {d : Nat} {k : Nat} {S : StX} {P : StX → Prop} {y2 : Int32} {y3 : Int32} (h : k < nTx S ∧ (((nI (t_n S k)) ≤ y3 → (P S)) ∧ (¬ (nI (t_n S k)) ≤ y3 → ((0 ≤ y3 ∧ ix y3 < t_n S k) ∧ ((¬ (t_letter S k (ix y3)) = 120 → (T_Text_strikeIn_2 E q d k P S y2 (y3 + 1))) ∧ ((t_letter S k (ix y3)) = 120 → ((0 ≤ y2 ∧ y2 < 20) ∧ ((¬ (((xa_Book_struck S (ix y2)) >>> (y3 &&& 31)) &&& 1) = 0 → (T_Text_strikeIn_2 E q d k P S y2 (y3 + 1))) ∧ ((((xa_Book_struck S (ix y2)) >>> (y3 &&& 31)) &&& 1) = 0 → ((y2 ≤ (t_value S k (ix y3)) → (T_Text_strikeIn_2 E q d k P S y2 (y3 + 1))) ∧ (¬ y2 ≤ (t_value S k (ix y3)) → ((0 ≤ (t_value S k (ix y3)) ∧ (t_value S k (ix y3)) < 20) ∧ (T_Text_strikeIn_2 E q d k P (xA S 103 (upd (xa_Book_struck S) (ix (t_value S k (ix y3))) ((xa_Book_struck S (ix (t_value S k (ix y3)))) ||| ((1 : Int32) <<< ((t_target S k (ix y3)) &&& 31))))) y2 (y3 + 1)))))))))))))) : T_Text_strikeIn_2 E q d k P S y2 y3 := by
  refine r_iload_n 3 dX7_strikeIn_2 rfl rfl ?_
  refine r_aload_n 0 dX7_strikeIn_3 rfl rfl ?_
  obtain ⟨b1, h⟩ := h
  refine tg_letter b1 rfl dX7_strikeIn_4 ?_
  refine tn_letter b1 dX7_strikeIn_7 ?_
  refine r_icmp_ge (tgt := 67) dX7_strikeIn_8 (by decide) (fun c2 => ?_) (fun c2 => ?_)
  · have h := h.1 c2
    exact r_vret dX7_strikeIn_67 rfl (Nat.le_refl _) (Nat.le_refl _) ⟨_, rfl, rfl, h⟩
  · have h := h.2 c2
    refine r_aload_n 0 dX7_strikeIn_11 rfl rfl ?_
    refine tg_letter b1 rfl dX7_strikeIn_12 ?_
    refine r_iload_n 3 dX7_strikeIn_15 rfl rfl ?_
    obtain ⟨b3, h⟩ := h
    refine tl_letter b1 b3 dX7_strikeIn_16 ?_
    refine r_bipush_120 dX7_strikeIn_17 ?_
    refine r_icmp_ne (tgt := 61) dX7_strikeIn_19 (by decide) (fun c4 => ?_) (fun c4 => ?_)
    · have h := h.1 c4
      refine r_iinc 3 [(3, .int (y3 + 1)), (0, .ref (q (1000 + 10 * k))), (1, .ref (q 203)), (2, .int (y2))] dX7_strikeIn_61 rfl rfl (Nat.le_of_ble_eq_true rfl) rfl ?_
      refine r_goto (tgt := 2) dX7_strikeIn_64 (by decide) ?_
      refine r_ls [1, 2, 3, 0] (ls2 := [(0, .ref (q (1000 + 10 * k))), (1, .ref (q 203)), (2, .int (y2)), (3, .int (y3 + 1))]) rfl ?_
      exact h
    · have h := h.2 c4
      refine r_aload_n 1 dX7_strikeIn_22 rfl rfl ?_
      refine r_iload_n 2 dX7_strikeIn_23 rfl rfl ?_
      obtain ⟨b5, h⟩ := h
      refine xl_103 b5 dX7_strikeIn_24 ?_
      refine r_iload_n 3 dX7_strikeIn_25 rfl rfl ?_
      refine r_ishr dX7_strikeIn_26 ?_
      refine r_iconst_1 dX7_strikeIn_27 ?_
      refine r_iand dX7_strikeIn_28 ?_
      refine r_if_ne (tgt := 61) dX7_strikeIn_29 (by decide) (fun c6 => ?_) (fun c6 => ?_)
      · have h := h.1 c6
        refine r_iinc 3 [(3, .int (y3 + 1)), (0, .ref (q (1000 + 10 * k))), (1, .ref (q 203)), (2, .int (y2))] dX7_strikeIn_61 rfl rfl (Nat.le_of_ble_eq_true rfl) rfl ?_
        refine r_goto (tgt := 2) dX7_strikeIn_64 (by decide) ?_
        refine r_ls [1, 2, 3, 0] (ls2 := [(0, .ref (q (1000 + 10 * k))), (1, .ref (q 203)), (2, .int (y2)), (3, .int (y3 + 1))]) rfl ?_
        exact h
      · have h := h.2 c6
        refine r_aload_n 0 dX7_strikeIn_32 rfl rfl ?_
        refine tg_value b1 rfl dX7_strikeIn_33 ?_
        refine r_iload_n 3 dX7_strikeIn_36 rfl rfl ?_
        refine tl_value b1 b3 dX7_strikeIn_37 ?_
        refine r_iload_n 2 dX7_strikeIn_38 rfl rfl ?_
        refine r_icmp_ge (tgt := 61) dX7_strikeIn_39 (by decide) (fun c7 => ?_) (fun c7 => ?_)
        · have h := h.1 c7
          refine r_iinc 3 [(3, .int (y3 + 1)), (0, .ref (q (1000 + 10 * k))), (1, .ref (q 203)), (2, .int (y2))] dX7_strikeIn_61 rfl rfl (Nat.le_of_ble_eq_true rfl) rfl ?_
          refine r_goto (tgt := 2) dX7_strikeIn_64 (by decide) ?_
          refine r_ls [1, 2, 3, 0] (ls2 := [(0, .ref (q (1000 + 10 * k))), (1, .ref (q 203)), (2, .int (y2)), (3, .int (y3 + 1))]) rfl ?_
          exact h
        · have h := h.2 c7
          refine r_aload_n 1 dX7_strikeIn_42 rfl rfl ?_
          refine r_aload_n 0 dX7_strikeIn_43 rfl rfl ?_
          refine tg_value b1 rfl dX7_strikeIn_44 ?_
          refine r_iload_n 3 dX7_strikeIn_47 rfl rfl ?_
          refine tl_value b1 b3 dX7_strikeIn_48 ?_
          refine r_dup2 dX7_strikeIn_49 rfl rfl ?_
          obtain ⟨b8, h⟩ := h
          refine xl_103 b8 dX7_strikeIn_50 ?_
          refine r_iconst_1 dX7_strikeIn_51 ?_
          refine r_aload_n 0 dX7_strikeIn_52 rfl rfl ?_
          refine tg_target b1 rfl dX7_strikeIn_53 ?_
          refine r_iload_n 3 dX7_strikeIn_56 rfl rfl ?_
          refine tl_target b1 b3 dX7_strikeIn_57 ?_
          refine r_ishl dX7_strikeIn_58 ?_
          refine r_ior dX7_strikeIn_59 ?_
          refine xt_103 b8 dX7_strikeIn_60 ?_
          refine r_iinc 3 [(3, .int (y3 + 1)), (0, .ref (q (1000 + 10 * k))), (1, .ref (q 203)), (2, .int (y2))] dX7_strikeIn_61 rfl rfl (Nat.le_of_ble_eq_true rfl) rfl ?_
          refine r_goto (tgt := 2) dX7_strikeIn_64 (by decide) ?_
          refine r_ls [1, 2, 3, 0] (ls2 := [(0, .ref (q (1000 + 10 * k))), (1, .ref (q 203)), (2, .int (y2)), (3, .int (y3 + 1))]) rfl ?_
          exact h

abbrev T_Text_holds_25 (E : EvT) (q : Nat → Nat) (D : Nat) (k : Nat) (P : Bool → StX → Prop) (S : StX) (y1 : Int32) (y5 : Int32) (y6 : Int32) : Prop := RX E q iX_Text_holds D (qBx E q P) S [(0, .ref (q (1000 + 10 * k))), (1, .int (y1)), (2, .ref (q 204)), (3, .ref (q 205)), (5, .int (y5)), (6, .int (y6))] [] 25
set_option maxRecDepth 20000 in
theorem en_Text_holds {E : EvT} {q : Nat → Nat} {d : Nat} {k : Nat} {x1 : Int32} {S : StX} {P : Bool → StX → Prop} (h : (¬ x1 = 0 → (k < nTx S ∧ ((0 ≤ (x1 - 1) ∧ ix (x1 - 1) < t_n S k) ∧ (T_Text_holds_25 E q (d + 1) k P S x1 0 (t_codeEnd S k (ix (x1 - 1))))))) ∧ (x1 = 0 → (T_Text_holds_25 E q (d + 1) k P S x1 0 0))) : C_Text_holds E q (d + 1) k x1 S P := by
  refine Cn.of rfl (Nat.le_of_ble_eq_true rfl) (ls := [(0, .ref (q (1000 + 10 * k))), (1, .int (x1)), (2, .ref (q 204)), (3, .ref (q 205))]) rfl ?_
  refine r_iload_n 1 dX7_holds_0 rfl rfl ?_
  refine r_if_ne (tgt := 8) dX7_holds_1 (by decide) (fun c1 => ?_) (fun c1 => ?_)
  · have h := h.1 c1
    refine r_aload_n 0 dX7_holds_8 rfl rfl ?_
    obtain ⟨b2, h⟩ := h
    refine tg_codeEnd b2 rfl dX7_holds_9 ?_
    refine r_iload_n 1 dX7_holds_12 rfl rfl ?_
    refine r_iconst_1 dX7_holds_13 ?_
    refine r_isub dX7_holds_14 ?_
    obtain ⟨b3, h⟩ := h
    refine tl_codeEnd b2 b3 dX7_holds_15 ?_
    refine r_istore [(4, .int (t_codeEnd S k (ix (x1 - 1)))), (0, .ref (q (1000 + 10 * k))), (1, .int (x1)), (2, .ref (q 204)), (3, .ref (q 205))] dX7_holds_16 (Nat.le_of_ble_eq_true rfl) rfl ?_
    refine r_iconst_0 dX7_holds_18 ?_
    refine r_istore [(5, .int (0)), (4, .int (t_codeEnd S k (ix (x1 - 1)))), (0, .ref (q (1000 + 10 * k))), (1, .int (x1)), (2, .ref (q 204)), (3, .ref (q 205))] dX7_holds_19 (Nat.le_of_ble_eq_true rfl) rfl ?_
    refine r_iload 1 dX7_holds_21 rfl ?_
    refine r_istore [(6, .int (t_codeEnd S k (ix (x1 - 1)))), (5, .int (0)), (4, .int (t_codeEnd S k (ix (x1 - 1)))), (0, .ref (q (1000 + 10 * k))), (1, .int (x1)), (2, .ref (q 204)), (3, .ref (q 205))] dX7_holds_23 (Nat.le_of_ble_eq_true rfl) rfl ?_
    refine r_ls [3, 4, 5, 6, 1, 0] (ls2 := [(0, .ref (q (1000 + 10 * k))), (1, .int (x1)), (2, .ref (q 204)), (3, .ref (q 205)), (5, .int (0)), (6, .int (t_codeEnd S k (ix (x1 - 1))))]) rfl ?_
    exact h
  · have h := h.2 c1
    refine r_iconst_0 dX7_holds_4 ?_
    refine r_goto (tgt := 16) dX7_holds_5 (by decide) ?_
    refine r_istore [(4, .int (0)), (0, .ref (q (1000 + 10 * k))), (1, .int (x1)), (2, .ref (q 204)), (3, .ref (q 205))] dX7_holds_16 (Nat.le_of_ble_eq_true rfl) rfl ?_
    refine r_iconst_0 dX7_holds_18 ?_
    refine r_istore [(5, .int (0)), (4, .int (0)), (0, .ref (q (1000 + 10 * k))), (1, .int (x1)), (2, .ref (q 204)), (3, .ref (q 205))] dX7_holds_19 (Nat.le_of_ble_eq_true rfl) rfl ?_
    refine r_iload 1 dX7_holds_21 rfl ?_
    refine r_istore [(6, .int (0)), (5, .int (0)), (4, .int (0)), (0, .ref (q (1000 + 10 * k))), (1, .int (x1)), (2, .ref (q 204)), (3, .ref (q 205))] dX7_holds_23 (Nat.le_of_ble_eq_true rfl) rfl ?_
    refine r_ls [3, 4, 5, 6, 1, 0] (ls2 := [(0, .ref (q (1000 + 10 * k))), (1, .int (x1)), (2, .ref (q 204)), (3, .ref (q 205)), (5, .int (0)), (6, .int (0))]) rfl ?_
    exact h
set_option maxRecDepth 20000 in
theorem sg_Text_holds_25 {E : EvT} {q : Nat → Nat} {d : Nat} {k : Nat} {S : StX} {P : Bool → StX → Prop} {y1 : Int32} {y5 : Int32} {y6 : Int32} (h : k < nTx S ∧ ((0 ≤ y1 ∧ ix y1 < t_n S k) ∧ (((t_codeEnd S k (ix y1)) ≤ y6 → ((y5 = 0 → (P true S)) ∧ (¬ y5 = 0 → ((¬ (xa_Book_stack S (ix 0)) = 1 → (P false S)) ∧ ((xa_Book_stack S (ix 0)) = 1 → (P true S)))))) ∧ (¬ (t_codeEnd S k (ix y1)) ≤ y6 → ((0 ≤ y6 ∧ ix y6 < t_steps S k) ∧ (((t_code S k (ix y6)) < 0 → ((1 ≤ y5 → ((¬ ((-(t_code S k (ix y6))) &&& 255) = 33 → ((((-(t_code S k (ix y6))) &&& 255) = 38 → ((¬ ((-(t_code S k (ix y6))) &&& 255) = 124 → ((0 ≤ (y5 - 1) ∧ (y5 - 1) < 32) ∧ ((¬ (xa_Book_stack S (ix (y5 - 1))) = 0 → (T_Text_holds_25 E q (d + 1) k P S y1 (y5 + (-1)) (y6 + 1))) ∧ ((xa_Book_stack S (ix (y5 - 1))) = 0 → (T_Text_holds_25 E q (d + 1) k P S y1 y5 ((y6 + ((-(t_code S k (ix y6))) / 256)) + 1)))))) ∧ (((-(t_code S k (ix y6))) &&& 255) = 124 → ((0 ≤ (y5 - 1) ∧ (y5 - 1) < 32) ∧ ((¬ (xa_Book_stack S (ix (y5 - 1))) = 1 → (T_Text_holds_25 E q (d + 1) k P S y1 (y5 + (-1)) (y6 + 1))) ∧ ((xa_Book_stack S (ix (y5 - 1))) = 1 → (T_Text_holds_25 E q (d + 1) k P S y1 y5 ((y6 + ((-(t_code S k (ix y6))) / 256)) + 1)))))))) ∧ (¬ ((-(t_code S k (ix y6))) &&& 255) = 38 → ((¬ ((-(t_code S k (ix y6))) &&& 255) = 124 → ((y5 < 2 → (P false S)) ∧ (¬ y5 < 2 → ((0 ≤ (y5 - 1) ∧ (y5 - 1) < 32) ∧ ((¬ (xa_Book_stack S (ix (y5 - 1))) = 0 → ((0 ≤ ((y5 + (-1)) - 1) ∧ ((y5 + (-1)) - 1) < 32) ∧ ((0 ≤ (y5 + (-1)) ∧ (y5 + (-1)) < 32) ∧ (T_Text_holds_25 E q (d + 1) k P (xA S 105 (upd (xa_Book_stack S) (ix ((y5 + (-1)) - 1)) (pReck ((-(t_code S k (ix y6))) &&& 255) (xa_Book_stack S (ix ((y5 + (-1)) - 1))) (xa_Book_stack S (ix (y5 + (-1))))))) y1 (y5 + (-1)) (y6 + 1))))) ∧ ((xa_Book_stack S (ix (y5 - 1))) = 0 → ((((-(t_code S k (ix y6))) &&& 255) = 47 → (P false S)) ∧ (¬ ((-(t_code S k (ix y6))) &&& 255) = 47 → ((¬ ((-(t_code S k (ix y6))) &&& 255) = 37 → ((0 ≤ ((y5 + (-1)) - 1) ∧ ((y5 + (-1)) - 1) < 32) ∧ ((0 ≤ (y5 + (-1)) ∧ (y5 + (-1)) < 32) ∧ (T_Text_holds_25 E q (d + 1) k P (xA S 105 (upd (xa_Book_stack S) (ix ((y5 + (-1)) - 1)) (pReck ((-(t_code S k (ix y6))) &&& 255) (xa_Book_stack S (ix ((y5 + (-1)) - 1))) (xa_Book_stack S (ix (y5 + (-1))))))) y1 (y5 + (-1)) (y6 + 1))))) ∧ (((-(t_code S k (ix y6))) &&& 255) = 37 → (P false S))))))))))) ∧ (((-(t_code S k (ix y6))) &&& 255) = 124 → ((¬ ((-(t_code S k (ix y6))) &&& 255) = 124 → ((0 ≤ (y5 - 1) ∧ (y5 - 1) < 32) ∧ ((¬ (xa_Book_stack S (ix (y5 - 1))) = 0 → (T_Text_holds_25 E q (d + 1) k P S y1 (y5 + (-1)) (y6 + 1))) ∧ ((xa_Book_stack S (ix (y5 - 1))) = 0 → (T_Text_holds_25 E q (d + 1) k P S y1 y5 ((y6 + ((-(t_code S k (ix y6))) / 256)) + 1)))))) ∧ (((-(t_code S k (ix y6))) &&& 255) = 124 → ((0 ≤ (y5 - 1) ∧ (y5 - 1) < 32) ∧ ((¬ (xa_Book_stack S (ix (y5 - 1))) = 1 → (T_Text_holds_25 E q (d + 1) k P S y1 (y5 + (-1)) (y6 + 1))) ∧ ((xa_Book_stack S (ix (y5 - 1))) = 1 → (T_Text_holds_25 E q (d + 1) k P S y1 y5 ((y6 + ((-(t_code S k (ix y6))) / 256)) + 1)))))))))))) ∧ (((-(t_code S k (ix y6))) &&& 255) = 33 → ((0 ≤ (y5 - 1) ∧ (y5 - 1) < 32) ∧ (T_Text_holds_25 E q (d + 1) k P (xA S 105 (upd (xa_Book_stack S) (ix (y5 - 1)) (1 - (xa_Book_stack S (ix (y5 - 1)))))) y1 y5 (y6 + 1)))))) ∧ (¬ 1 ≤ y5 → (P false S)))) ∧ (¬ (t_code S k (ix y6)) < 0 → ((y5 < 32 → ((100000 ≤ (t_code S k (ix y6)) → ((0 ≤ ((t_code S k (ix y6)) - 100000) ∧ ((t_code S k (ix y6)) - 100000) < 5) ∧ ((0 ≤ y5 ∧ y5 < 32) ∧ (T_Text_holds_25 E q (d + 1) k P (xA S 105 (upd (xa_Book_stack S) (ix y5) (xa_Book_letters S (ix ((t_code S k (ix y6)) - 100000))))) y1 (y5 + 1) (y6 + 1))))) ∧ (¬ 100000 ≤ (t_code S k (ix y6)) → ((0 ≤ y5 ∧ y5 < 32) ∧ (T_Text_holds_25 E q (d + 1) k P (xA S 105 (upd (xa_Book_stack S) (ix y5) (t_code S k (ix y6)))) y1 (y5 + 1) (y6 + 1)))))) ∧ (¬ y5 < 32 → (P false S)))))))))) : T_Text_holds_25 E q (d + 1) k P S y1 y5 y6 := by
  refine r_iload 5 dX7_holds_25 rfl ?_
  refine r_aload_n 0 dX7_holds_27 rfl rfl ?_
  obtain ⟨b1, h⟩ := h
  refine tg_codeEnd b1 rfl dX7_holds_28 ?_
  refine r_iload_n 1 dX7_holds_31 rfl rfl ?_
  obtain ⟨b2, h⟩ := h
  refine tl_codeEnd b1 b2 dX7_holds_32 ?_
  refine r_icmp_ge (tgt := 250) dX7_holds_33 (by decide) (fun c3 => ?_) (fun c3 => ?_)
  · have h := h.1 c3
    refine r_iload 4 dX7_holds_250 rfl ?_
    refine r_if_eq (tgt := 262) dX7_holds_252 (by decide) (fun c4 => ?_) (fun c4 => ?_)
    · have h := h.1 c4
      refine r_iconst_1 dX7_holds_262 ?_
      refine r_goto (tgt := 267) dX7_holds_263 (by decide) ?_
      exact r_zret1 dX7_holds_267 rfl (Nat.le_refl _) (Nat.le_refl _) ⟨_, _, rfl, rfl, h⟩
    · have h := h.2 c4
      refine r_aload_n 3 dX7_holds_255 rfl rfl ?_
      refine r_iconst_0 dX7_holds_256 ?_
      refine xl_105 (by decide) dX7_holds_257 ?_
      refine r_iconst_1 dX7_holds_258 ?_
      refine r_icmp_ne (tgt := 266) dX7_holds_259 (by decide) (fun c5 => ?_) (fun c5 => ?_)
      · have h := h.1 c5
        refine r_iconst_0 dX7_holds_266 ?_
        exact r_zret0 dX7_holds_267 rfl (Nat.le_refl _) (Nat.le_refl _) ⟨_, _, rfl, rfl, h⟩
      · have h := h.2 c5
        refine r_iconst_1 dX7_holds_262 ?_
        refine r_goto (tgt := 267) dX7_holds_263 (by decide) ?_
        exact r_zret1 dX7_holds_267 rfl (Nat.le_refl _) (Nat.le_refl _) ⟨_, _, rfl, rfl, h⟩
  · have h := h.2 c3
    refine r_aload_n 0 dX7_holds_36 rfl rfl ?_
    refine tg_code b1 rfl dX7_holds_37 ?_
    refine r_iload 5 dX7_holds_40 rfl ?_
    obtain ⟨b6, h⟩ := h
    refine tl_code b1 b6 dX7_holds_42 ?_
    refine r_istore [(7, .int (t_code S k (ix y6))), (0, .ref (q (1000 + 10 * k))), (1, .int (y1)), (2, .ref (q 204)), (3, .ref (q 205)), (5, .int (y5)), (6, .int (y6))] dX7_holds_43 (Nat.le_of_ble_eq_true rfl) rfl ?_
    refine r_iload 0 dX7_holds_45 rfl ?_
    refine r_ineg dX7_holds_47 ?_
    refine r_sipush_255 dX7_holds_48 ?_
    refine r_iand dX7_holds_51 ?_
    refine r_istore [(8, .int ((-(t_code S k (ix y6))) &&& 255)), (7, .int (t_code S k (ix y6))), (0, .ref (q (1000 + 10 * k))), (1, .int (y1)), (2, .ref (q 204)), (3, .ref (q 205)), (5, .int (y5)), (6, .int (y6))] dX7_holds_52 (Nat.le_of_ble_eq_true rfl) rfl ?_
    refine r_iload 1 dX7_holds_54 rfl ?_
    refine r_if_lt (tgt := 97) dX7_holds_56 (by decide) (fun c7 => ?_) (fun c7 => ?_)
    · have h := h.1 c7
      refine r_iload 6 dX7_holds_97 rfl ?_
      refine r_iconst_1 dX7_holds_99 ?_
      refine r_icmp_ge (tgt := 105) dX7_holds_100 (by decide) (fun c8 => ?_) (fun c8 => ?_)
      · have h := h.1 c8
        refine r_iload 0 dX7_holds_105 rfl ?_
        refine r_bipush_33 dX7_holds_107 ?_
        refine r_icmp_ne (tgt := 129) dX7_holds_109 (by decide) (fun c9 => ?_) (fun c9 => ?_)
        · have h := h.1 c9
          refine r_iload 0 dX7_holds_129 rfl ?_
          refine r_bipush_38 dX7_holds_131 ?_
          refine r_icmp_eq (tgt := 143) dX7_holds_133 (by decide) (fun c10 => ?_) (fun c10 => ?_)
          · have h := h.1 c10
            refine r_iload 0 dX7_holds_143 rfl ?_
            refine r_bipush_124 dX7_holds_145 ?_
            refine r_icmp_ne (tgt := 154) dX7_holds_147 (by decide) (fun c11 => ?_) (fun c11 => ?_)
            · have h := h.1 c11
              refine r_iconst_0 dX7_holds_154 ?_
              refine r_istore [(9, .int (0)), (8, .int ((-(t_code S k (ix y6))) &&& 255)), (7, .int (t_code S k (ix y6))), (0, .ref (q (1000 + 10 * k))), (1, .int (y1)), (2, .ref (q 204)), (3, .ref (q 205)), (5, .int (y5)), (6, .int (y6))] dX7_holds_155 (Nat.le_of_ble_eq_true rfl) rfl ?_
              refine r_aload_n 6 dX7_holds_157 rfl rfl ?_
              refine r_iload 7 dX7_holds_158 rfl ?_
              refine r_iconst_1 dX7_holds_160 ?_
              refine r_isub dX7_holds_161 ?_
              obtain ⟨b12, h⟩ := h
              refine xl_105 b12 dX7_holds_162 ?_
              refine r_iload 0 dX7_holds_163 rfl ?_
              refine r_icmp_ne (tgt := 183) dX7_holds_165 (by decide) (fun c13 => ?_) (fun c13 => ?_)
              · have h := h.1 c13
                refine r_iinc 7 [(5, .int (y5 + (-1))), (9, .int (0)), (8, .int ((-(t_code S k (ix y6))) &&& 255)), (7, .int (t_code S k (ix y6))), (0, .ref (q (1000 + 10 * k))), (1, .int (y1)), (2, .ref (q 204)), (3, .ref (q 205)), (6, .int (y6))] dX7_holds_183 rfl rfl (Nat.le_of_ble_eq_true rfl) rfl ?_
                refine r_goto (tgt := 244) dX7_holds_186 (by decide) ?_
                refine r_iinc 8 [(6, .int (y6 + 1)), (5, .int (y5 + (-1))), (9, .int (0)), (8, .int ((-(t_code S k (ix y6))) &&& 255)), (7, .int (t_code S k (ix y6))), (0, .ref (q (1000 + 10 * k))), (1, .int (y1)), (2, .ref (q 204)), (3, .ref (q 205))] dX7_holds_244 rfl rfl (Nat.le_of_ble_eq_true rfl) rfl ?_
                refine r_goto (tgt := 25) dX7_holds_247 (by decide) ?_
                refine r_ls [5, 6, 7, 8, 1, 0] (ls2 := [(0, .ref (q (1000 + 10 * k))), (1, .int (y1)), (2, .ref (q 204)), (3, .ref (q 205)), (5, .int (y5 + (-1))), (6, .int (y6 + 1))]) rfl ?_
                exact h
              · have h := h.2 c13
                refine r_iload 8 dX7_holds_168 rfl ?_
                refine r_iload 2 dX7_holds_170 rfl ?_
                refine r_ineg dX7_holds_172 ?_
                refine r_sipush_256 dX7_holds_173 ?_
                refine r_idiv dX7_holds_176 (by decide) ?_
                refine r_iadd dX7_holds_177 ?_
                refine r_istore [(6, .int (y6 + ((-(t_code S k (ix y6))) / 256))), (9, .int (0)), (8, .int ((-(t_code S k (ix y6))) &&& 255)), (7, .int (t_code S k (ix y6))), (0, .ref (q (1000 + 10 * k))), (1, .int (y1)), (2, .ref (q 204)), (3, .ref (q 205)), (5, .int (y5))] dX7_holds_178 (Nat.le_of_ble_eq_true rfl) rfl ?_
                refine r_goto (tgt := 186) dX7_holds_180 (by decide) ?_
                refine r_goto (tgt := 244) dX7_holds_186 (by decide) ?_
                refine r_iinc 0 [(6, .int ((y6 + ((-(t_code S k (ix y6))) / 256)) + 1)), (9, .int (0)), (8, .int ((-(t_code S k (ix y6))) &&& 255)), (7, .int (t_code S k (ix y6))), (0, .ref (q (1000 + 10 * k))), (1, .int (y1)), (2, .ref (q 204)), (3, .ref (q 205)), (5, .int (y5))] dX7_holds_244 rfl rfl (Nat.le_of_ble_eq_true rfl) rfl ?_
                refine r_goto (tgt := 25) dX7_holds_247 (by decide) ?_
                refine r_ls [4, 5, 6, 7, 8, 0] (ls2 := [(0, .ref (q (1000 + 10 * k))), (1, .int (y1)), (2, .ref (q 204)), (3, .ref (q 205)), (5, .int (y5)), (6, .int ((y6 + ((-(t_code S k (ix y6))) / 256)) + 1))]) rfl ?_
                exact h
            · have h := h.2 c11
              refine r_iconst_1 dX7_holds_150 ?_
              refine r_goto (tgt := 155) dX7_holds_151 (by decide) ?_
              refine r_istore [(9, .int (1)), (8, .int ((-(t_code S k (ix y6))) &&& 255)), (7, .int (t_code S k (ix y6))), (0, .ref (q (1000 + 10 * k))), (1, .int (y1)), (2, .ref (q 204)), (3, .ref (q 205)), (5, .int (y5)), (6, .int (y6))] dX7_holds_155 (Nat.le_of_ble_eq_true rfl) rfl ?_
              refine r_aload_n 6 dX7_holds_157 rfl rfl ?_
              refine r_iload 7 dX7_holds_158 rfl ?_
              refine r_iconst_1 dX7_holds_160 ?_
              refine r_isub dX7_holds_161 ?_
              obtain ⟨b14, h⟩ := h
              refine xl_105 b14 dX7_holds_162 ?_
              refine r_iload 0 dX7_holds_163 rfl ?_
              refine r_icmp_ne (tgt := 183) dX7_holds_165 (by decide) (fun c15 => ?_) (fun c15 => ?_)
              · have h := h.1 c15
                refine r_iinc 7 [(5, .int (y5 + (-1))), (9, .int (1)), (8, .int ((-(t_code S k (ix y6))) &&& 255)), (7, .int (t_code S k (ix y6))), (0, .ref (q (1000 + 10 * k))), (1, .int (y1)), (2, .ref (q 204)), (3, .ref (q 205)), (6, .int (y6))] dX7_holds_183 rfl rfl (Nat.le_of_ble_eq_true rfl) rfl ?_
                refine r_goto (tgt := 244) dX7_holds_186 (by decide) ?_
                refine r_iinc 8 [(6, .int (y6 + 1)), (5, .int (y5 + (-1))), (9, .int (1)), (8, .int ((-(t_code S k (ix y6))) &&& 255)), (7, .int (t_code S k (ix y6))), (0, .ref (q (1000 + 10 * k))), (1, .int (y1)), (2, .ref (q 204)), (3, .ref (q 205))] dX7_holds_244 rfl rfl (Nat.le_of_ble_eq_true rfl) rfl ?_
                refine r_goto (tgt := 25) dX7_holds_247 (by decide) ?_
                refine r_ls [5, 6, 7, 8, 1, 0] (ls2 := [(0, .ref (q (1000 + 10 * k))), (1, .int (y1)), (2, .ref (q 204)), (3, .ref (q 205)), (5, .int (y5 + (-1))), (6, .int (y6 + 1))]) rfl ?_
                exact h
              · have h := h.2 c15
                refine r_iload 8 dX7_holds_168 rfl ?_
                refine r_iload 2 dX7_holds_170 rfl ?_
                refine r_ineg dX7_holds_172 ?_
                refine r_sipush_256 dX7_holds_173 ?_
                refine r_idiv dX7_holds_176 (by decide) ?_
                refine r_iadd dX7_holds_177 ?_
                refine r_istore [(6, .int (y6 + ((-(t_code S k (ix y6))) / 256))), (9, .int (1)), (8, .int ((-(t_code S k (ix y6))) &&& 255)), (7, .int (t_code S k (ix y6))), (0, .ref (q (1000 + 10 * k))), (1, .int (y1)), (2, .ref (q 204)), (3, .ref (q 205)), (5, .int (y5))] dX7_holds_178 (Nat.le_of_ble_eq_true rfl) rfl ?_
                refine r_goto (tgt := 186) dX7_holds_180 (by decide) ?_
                refine r_goto (tgt := 244) dX7_holds_186 (by decide) ?_
                refine r_iinc 0 [(6, .int ((y6 + ((-(t_code S k (ix y6))) / 256)) + 1)), (9, .int (1)), (8, .int ((-(t_code S k (ix y6))) &&& 255)), (7, .int (t_code S k (ix y6))), (0, .ref (q (1000 + 10 * k))), (1, .int (y1)), (2, .ref (q 204)), (3, .ref (q 205)), (5, .int (y5))] dX7_holds_244 rfl rfl (Nat.le_of_ble_eq_true rfl) rfl ?_
                refine r_goto (tgt := 25) dX7_holds_247 (by decide) ?_
                refine r_ls [4, 5, 6, 7, 8, 0] (ls2 := [(0, .ref (q (1000 + 10 * k))), (1, .int (y1)), (2, .ref (q 204)), (3, .ref (q 205)), (5, .int (y5)), (6, .int ((y6 + ((-(t_code S k (ix y6))) / 256)) + 1))]) rfl ?_
                exact h
          · have h := h.2 c10
            refine r_iload 0 dX7_holds_136 rfl ?_
            refine r_bipush_124 dX7_holds_138 ?_
            refine r_icmp_ne (tgt := 189) dX7_holds_140 (by decide) (fun c16 => ?_) (fun c16 => ?_)
            · have h := h.1 c16
              refine r_iload 6 dX7_holds_189 rfl ?_
              refine r_iconst_2 dX7_holds_191 ?_
              refine r_icmp_lt (tgt := 218) dX7_holds_192 (by decide) (fun c17 => ?_) (fun c17 => ?_)
              · have h := h.1 c17
                refine r_iconst_0 dX7_holds_218 ?_
                exact r_zret0 dX7_holds_219 rfl (Nat.le_refl _) (Nat.le_refl _) ⟨_, _, rfl, rfl, h⟩
              · have h := h.2 c17
                refine r_aload_n 5 dX7_holds_195 rfl rfl ?_
                refine r_iload 6 dX7_holds_196 rfl ?_
                refine r_iconst_1 dX7_holds_198 ?_
                refine r_isub dX7_holds_199 ?_
                obtain ⟨b18, h⟩ := h
                refine xl_105 b18 dX7_holds_200 ?_
                refine r_if_ne (tgt := 220) dX7_holds_201 (by decide) (fun c19 => ?_) (fun c19 => ?_)
                · have h := h.1 c19
                  refine r_iinc 6 [(5, .int (y5 + (-1))), (8, .int ((-(t_code S k (ix y6))) &&& 255)), (7, .int (t_code S k (ix y6))), (0, .ref (q (1000 + 10 * k))), (1, .int (y1)), (2, .ref (q 204)), (3, .ref (q 205)), (6, .int (y6))] dX7_holds_220 rfl rfl (Nat.le_of_ble_eq_true rfl) rfl ?_
                  refine r_aload_n 6 dX7_holds_223 rfl rfl ?_
                  refine r_iload 0 dX7_holds_224 rfl ?_
                  refine r_iconst_1 dX7_holds_226 ?_
                  refine r_isub dX7_holds_227 ?_
                  refine r_iload 1 dX7_holds_228 rfl ?_
                  refine r_aload_n 6 dX7_holds_230 rfl rfl ?_
                  refine r_iload 0 dX7_holds_231 rfl ?_
                  refine r_iconst_1 dX7_holds_233 ?_
                  refine r_isub dX7_holds_234 ?_
                  obtain ⟨b20, h⟩ := h
                  refine xl_105 b20 dX7_holds_235 ?_
                  refine r_aload_n 6 dX7_holds_236 rfl rfl ?_
                  refine r_iload 0 dX7_holds_237 rfl ?_
                  obtain ⟨b21, h⟩ := h
                  refine xl_105 b21 dX7_holds_239 ?_
                  refine KP7_Text_reckon (d := d + 0)  rfl (Nat.le_of_ble_eq_true rfl) dX7_holds_240 ?_
                  refine xt_105 b20 dX7_holds_243 ?_
                  refine r_iinc 7 [(6, .int (y6 + 1)), (5, .int (y5 + (-1))), (8, .int ((-(t_code S k (ix y6))) &&& 255)), (7, .int (t_code S k (ix y6))), (0, .ref (q (1000 + 10 * k))), (1, .int (y1)), (2, .ref (q 204)), (3, .ref (q 205))] dX7_holds_244 rfl rfl (Nat.le_of_ble_eq_true rfl) rfl ?_
                  refine r_goto (tgt := 25) dX7_holds_247 (by decide) ?_
                  refine r_ls [4, 5, 6, 7, 1, 0] (ls2 := [(0, .ref (q (1000 + 10 * k))), (1, .int (y1)), (2, .ref (q 204)), (3, .ref (q 205)), (5, .int (y5 + (-1))), (6, .int (y6 + 1))]) rfl ?_
                  exact h
                · have h := h.2 c19
                  refine r_iload 0 dX7_holds_204 rfl ?_
                  refine r_bipush_47 dX7_holds_206 ?_
                  refine r_icmp_eq (tgt := 218) dX7_holds_208 (by decide) (fun c22 => ?_) (fun c22 => ?_)
                  · have h := h.1 c22
                    refine r_iconst_0 dX7_holds_218 ?_
                    exact r_zret0 dX7_holds_219 rfl (Nat.le_refl _) (Nat.le_refl _) ⟨_, _, rfl, rfl, h⟩
                  · have h := h.2 c22
                    refine r_iload 0 dX7_holds_211 rfl ?_
                    refine r_bipush_37 dX7_holds_213 ?_
                    refine r_icmp_ne (tgt := 220) dX7_holds_215 (by decide) (fun c23 => ?_) (fun c23 => ?_)
                    · have h := h.1 c23
                      refine r_iinc 6 [(5, .int (y5 + (-1))), (8, .int ((-(t_code S k (ix y6))) &&& 255)), (7, .int (t_code S k (ix y6))), (0, .ref (q (1000 + 10 * k))), (1, .int (y1)), (2, .ref (q 204)), (3, .ref (q 205)), (6, .int (y6))] dX7_holds_220 rfl rfl (Nat.le_of_ble_eq_true rfl) rfl ?_
                      refine r_aload_n 6 dX7_holds_223 rfl rfl ?_
                      refine r_iload 0 dX7_holds_224 rfl ?_
                      refine r_iconst_1 dX7_holds_226 ?_
                      refine r_isub dX7_holds_227 ?_
                      refine r_iload 1 dX7_holds_228 rfl ?_
                      refine r_aload_n 6 dX7_holds_230 rfl rfl ?_
                      refine r_iload 0 dX7_holds_231 rfl ?_
                      refine r_iconst_1 dX7_holds_233 ?_
                      refine r_isub dX7_holds_234 ?_
                      obtain ⟨b24, h⟩ := h
                      refine xl_105 b24 dX7_holds_235 ?_
                      refine r_aload_n 6 dX7_holds_236 rfl rfl ?_
                      refine r_iload 0 dX7_holds_237 rfl ?_
                      obtain ⟨b25, h⟩ := h
                      refine xl_105 b25 dX7_holds_239 ?_
                      refine KP7_Text_reckon (d := d + 0)  rfl (Nat.le_of_ble_eq_true rfl) dX7_holds_240 ?_
                      refine xt_105 b24 dX7_holds_243 ?_
                      refine r_iinc 7 [(6, .int (y6 + 1)), (5, .int (y5 + (-1))), (8, .int ((-(t_code S k (ix y6))) &&& 255)), (7, .int (t_code S k (ix y6))), (0, .ref (q (1000 + 10 * k))), (1, .int (y1)), (2, .ref (q 204)), (3, .ref (q 205))] dX7_holds_244 rfl rfl (Nat.le_of_ble_eq_true rfl) rfl ?_
                      refine r_goto (tgt := 25) dX7_holds_247 (by decide) ?_
                      refine r_ls [4, 5, 6, 7, 1, 0] (ls2 := [(0, .ref (q (1000 + 10 * k))), (1, .int (y1)), (2, .ref (q 204)), (3, .ref (q 205)), (5, .int (y5 + (-1))), (6, .int (y6 + 1))]) rfl ?_
                      exact h
                    · have h := h.2 c23
                      refine r_iconst_0 dX7_holds_218 ?_
                      exact r_zret0 dX7_holds_219 rfl (Nat.le_refl _) (Nat.le_refl _) ⟨_, _, rfl, rfl, h⟩
            · have h := h.2 c16
              refine r_iload 0 dX7_holds_143 rfl ?_
              refine r_bipush_124 dX7_holds_145 ?_
              refine r_icmp_ne (tgt := 154) dX7_holds_147 (by decide) (fun c26 => ?_) (fun c26 => ?_)
              · have h := h.1 c26
                refine r_iconst_0 dX7_holds_154 ?_
                refine r_istore [(9, .int (0)), (8, .int ((-(t_code S k (ix y6))) &&& 255)), (7, .int (t_code S k (ix y6))), (0, .ref (q (1000 + 10 * k))), (1, .int (y1)), (2, .ref (q 204)), (3, .ref (q 205)), (5, .int (y5)), (6, .int (y6))] dX7_holds_155 (Nat.le_of_ble_eq_true rfl) rfl ?_
                refine r_aload_n 6 dX7_holds_157 rfl rfl ?_
                refine r_iload 7 dX7_holds_158 rfl ?_
                refine r_iconst_1 dX7_holds_160 ?_
                refine r_isub dX7_holds_161 ?_
                obtain ⟨b27, h⟩ := h
                refine xl_105 b27 dX7_holds_162 ?_
                refine r_iload 0 dX7_holds_163 rfl ?_
                refine r_icmp_ne (tgt := 183) dX7_holds_165 (by decide) (fun c28 => ?_) (fun c28 => ?_)
                · have h := h.1 c28
                  refine r_iinc 7 [(5, .int (y5 + (-1))), (9, .int (0)), (8, .int ((-(t_code S k (ix y6))) &&& 255)), (7, .int (t_code S k (ix y6))), (0, .ref (q (1000 + 10 * k))), (1, .int (y1)), (2, .ref (q 204)), (3, .ref (q 205)), (6, .int (y6))] dX7_holds_183 rfl rfl (Nat.le_of_ble_eq_true rfl) rfl ?_
                  refine r_goto (tgt := 244) dX7_holds_186 (by decide) ?_
                  refine r_iinc 8 [(6, .int (y6 + 1)), (5, .int (y5 + (-1))), (9, .int (0)), (8, .int ((-(t_code S k (ix y6))) &&& 255)), (7, .int (t_code S k (ix y6))), (0, .ref (q (1000 + 10 * k))), (1, .int (y1)), (2, .ref (q 204)), (3, .ref (q 205))] dX7_holds_244 rfl rfl (Nat.le_of_ble_eq_true rfl) rfl ?_
                  refine r_goto (tgt := 25) dX7_holds_247 (by decide) ?_
                  refine r_ls [5, 6, 7, 8, 1, 0] (ls2 := [(0, .ref (q (1000 + 10 * k))), (1, .int (y1)), (2, .ref (q 204)), (3, .ref (q 205)), (5, .int (y5 + (-1))), (6, .int (y6 + 1))]) rfl ?_
                  exact h
                · have h := h.2 c28
                  refine r_iload 8 dX7_holds_168 rfl ?_
                  refine r_iload 2 dX7_holds_170 rfl ?_
                  refine r_ineg dX7_holds_172 ?_
                  refine r_sipush_256 dX7_holds_173 ?_
                  refine r_idiv dX7_holds_176 (by decide) ?_
                  refine r_iadd dX7_holds_177 ?_
                  refine r_istore [(6, .int (y6 + ((-(t_code S k (ix y6))) / 256))), (9, .int (0)), (8, .int ((-(t_code S k (ix y6))) &&& 255)), (7, .int (t_code S k (ix y6))), (0, .ref (q (1000 + 10 * k))), (1, .int (y1)), (2, .ref (q 204)), (3, .ref (q 205)), (5, .int (y5))] dX7_holds_178 (Nat.le_of_ble_eq_true rfl) rfl ?_
                  refine r_goto (tgt := 186) dX7_holds_180 (by decide) ?_
                  refine r_goto (tgt := 244) dX7_holds_186 (by decide) ?_
                  refine r_iinc 0 [(6, .int ((y6 + ((-(t_code S k (ix y6))) / 256)) + 1)), (9, .int (0)), (8, .int ((-(t_code S k (ix y6))) &&& 255)), (7, .int (t_code S k (ix y6))), (0, .ref (q (1000 + 10 * k))), (1, .int (y1)), (2, .ref (q 204)), (3, .ref (q 205)), (5, .int (y5))] dX7_holds_244 rfl rfl (Nat.le_of_ble_eq_true rfl) rfl ?_
                  refine r_goto (tgt := 25) dX7_holds_247 (by decide) ?_
                  refine r_ls [4, 5, 6, 7, 8, 0] (ls2 := [(0, .ref (q (1000 + 10 * k))), (1, .int (y1)), (2, .ref (q 204)), (3, .ref (q 205)), (5, .int (y5)), (6, .int ((y6 + ((-(t_code S k (ix y6))) / 256)) + 1))]) rfl ?_
                  exact h
              · have h := h.2 c26
                refine r_iconst_1 dX7_holds_150 ?_
                refine r_goto (tgt := 155) dX7_holds_151 (by decide) ?_
                refine r_istore [(9, .int (1)), (8, .int ((-(t_code S k (ix y6))) &&& 255)), (7, .int (t_code S k (ix y6))), (0, .ref (q (1000 + 10 * k))), (1, .int (y1)), (2, .ref (q 204)), (3, .ref (q 205)), (5, .int (y5)), (6, .int (y6))] dX7_holds_155 (Nat.le_of_ble_eq_true rfl) rfl ?_
                refine r_aload_n 6 dX7_holds_157 rfl rfl ?_
                refine r_iload 7 dX7_holds_158 rfl ?_
                refine r_iconst_1 dX7_holds_160 ?_
                refine r_isub dX7_holds_161 ?_
                obtain ⟨b29, h⟩ := h
                refine xl_105 b29 dX7_holds_162 ?_
                refine r_iload 0 dX7_holds_163 rfl ?_
                refine r_icmp_ne (tgt := 183) dX7_holds_165 (by decide) (fun c30 => ?_) (fun c30 => ?_)
                · have h := h.1 c30
                  refine r_iinc 7 [(5, .int (y5 + (-1))), (9, .int (1)), (8, .int ((-(t_code S k (ix y6))) &&& 255)), (7, .int (t_code S k (ix y6))), (0, .ref (q (1000 + 10 * k))), (1, .int (y1)), (2, .ref (q 204)), (3, .ref (q 205)), (6, .int (y6))] dX7_holds_183 rfl rfl (Nat.le_of_ble_eq_true rfl) rfl ?_
                  refine r_goto (tgt := 244) dX7_holds_186 (by decide) ?_
                  refine r_iinc 8 [(6, .int (y6 + 1)), (5, .int (y5 + (-1))), (9, .int (1)), (8, .int ((-(t_code S k (ix y6))) &&& 255)), (7, .int (t_code S k (ix y6))), (0, .ref (q (1000 + 10 * k))), (1, .int (y1)), (2, .ref (q 204)), (3, .ref (q 205))] dX7_holds_244 rfl rfl (Nat.le_of_ble_eq_true rfl) rfl ?_
                  refine r_goto (tgt := 25) dX7_holds_247 (by decide) ?_
                  refine r_ls [5, 6, 7, 8, 1, 0] (ls2 := [(0, .ref (q (1000 + 10 * k))), (1, .int (y1)), (2, .ref (q 204)), (3, .ref (q 205)), (5, .int (y5 + (-1))), (6, .int (y6 + 1))]) rfl ?_
                  exact h
                · have h := h.2 c30
                  refine r_iload 8 dX7_holds_168 rfl ?_
                  refine r_iload 2 dX7_holds_170 rfl ?_
                  refine r_ineg dX7_holds_172 ?_
                  refine r_sipush_256 dX7_holds_173 ?_
                  refine r_idiv dX7_holds_176 (by decide) ?_
                  refine r_iadd dX7_holds_177 ?_
                  refine r_istore [(6, .int (y6 + ((-(t_code S k (ix y6))) / 256))), (9, .int (1)), (8, .int ((-(t_code S k (ix y6))) &&& 255)), (7, .int (t_code S k (ix y6))), (0, .ref (q (1000 + 10 * k))), (1, .int (y1)), (2, .ref (q 204)), (3, .ref (q 205)), (5, .int (y5))] dX7_holds_178 (Nat.le_of_ble_eq_true rfl) rfl ?_
                  refine r_goto (tgt := 186) dX7_holds_180 (by decide) ?_
                  refine r_goto (tgt := 244) dX7_holds_186 (by decide) ?_
                  refine r_iinc 0 [(6, .int ((y6 + ((-(t_code S k (ix y6))) / 256)) + 1)), (9, .int (1)), (8, .int ((-(t_code S k (ix y6))) &&& 255)), (7, .int (t_code S k (ix y6))), (0, .ref (q (1000 + 10 * k))), (1, .int (y1)), (2, .ref (q 204)), (3, .ref (q 205)), (5, .int (y5))] dX7_holds_244 rfl rfl (Nat.le_of_ble_eq_true rfl) rfl ?_
                  refine r_goto (tgt := 25) dX7_holds_247 (by decide) ?_
                  refine r_ls [4, 5, 6, 7, 8, 0] (ls2 := [(0, .ref (q (1000 + 10 * k))), (1, .int (y1)), (2, .ref (q 204)), (3, .ref (q 205)), (5, .int (y5)), (6, .int ((y6 + ((-(t_code S k (ix y6))) / 256)) + 1))]) rfl ?_
                  exact h
        · have h := h.2 c9
          refine r_aload_n 5 dX7_holds_112 rfl rfl ?_
          refine r_iload 6 dX7_holds_113 rfl ?_
          refine r_iconst_1 dX7_holds_115 ?_
          refine r_isub dX7_holds_116 ?_
          refine r_iconst_1 dX7_holds_117 ?_
          refine r_aload_n 5 dX7_holds_118 rfl rfl ?_
          refine r_iload 6 dX7_holds_119 rfl ?_
          refine r_iconst_1 dX7_holds_121 ?_
          refine r_isub dX7_holds_122 ?_
          obtain ⟨b31, h⟩ := h
          refine xl_105 b31 dX7_holds_123 ?_
          refine r_isub dX7_holds_124 ?_
          refine xt_105 b31 dX7_holds_125 ?_
          refine r_goto (tgt := 244) dX7_holds_126 (by decide) ?_
          refine r_iinc 7 [(6, .int (y6 + 1)), (8, .int ((-(t_code S k (ix y6))) &&& 255)), (7, .int (t_code S k (ix y6))), (0, .ref (q (1000 + 10 * k))), (1, .int (y1)), (2, .ref (q 204)), (3, .ref (q 205)), (5, .int (y5))] dX7_holds_244 rfl rfl (Nat.le_of_ble_eq_true rfl) rfl ?_
          refine r_goto (tgt := 25) dX7_holds_247 (by decide) ?_
          refine r_ls [3, 4, 5, 6, 7, 0] (ls2 := [(0, .ref (q (1000 + 10 * k))), (1, .int (y1)), (2, .ref (q 204)), (3, .ref (q 205)), (5, .int (y5)), (6, .int (y6 + 1))]) rfl ?_
          exact h
      · have h := h.2 c8
        refine r_iconst_0 dX7_holds_103 ?_
        exact r_zret0 dX7_holds_104 rfl (Nat.le_refl _) (Nat.le_refl _) ⟨_, _, rfl, rfl, h⟩
    · have h := h.2 c7
      refine r_iload 6 dX7_holds_59 rfl ?_
      refine r_aload_n 5 dX7_holds_61 rfl rfl ?_
      refine xn_105 dX7_holds_62 ?_
      refine r_icmp_lt (tgt := 68) dX7_holds_63 (by decide) (fun c32 => ?_) (fun c32 => ?_)
      · have h := h.1 c32
        refine r_aload_n 5 dX7_holds_68 rfl rfl ?_
        refine r_iload 6 dX7_holds_69 rfl ?_
        refine r_iload 1 dX7_holds_71 rfl ?_
        refine r_ldc w5_21 dX7_holds_73 ?_
        refine r_icmp_ge (tgt := 83) dX7_holds_75 (by decide) (fun c33 => ?_) (fun c33 => ?_)
        · have h := h.1 c33
          refine r_aload_n 4 dX7_holds_83 rfl rfl ?_
          refine r_iload 1 dX7_holds_84 rfl ?_
          refine r_ldc w5_21 dX7_holds_86 ?_
          refine r_isub dX7_holds_88 ?_
          obtain ⟨b34, h⟩ := h
          refine xl_104 b34 dX7_holds_89 ?_
          obtain ⟨b35, h⟩ := h
          refine xt_105 b35 dX7_holds_90 ?_
          refine r_iinc 6 [(5, .int (y5 + 1)), (8, .int ((-(t_code S k (ix y6))) &&& 255)), (7, .int (t_code S k (ix y6))), (0, .ref (q (1000 + 10 * k))), (1, .int (y1)), (2, .ref (q 204)), (3, .ref (q 205)), (6, .int (y6))] dX7_holds_91 rfl rfl (Nat.le_of_ble_eq_true rfl) rfl ?_
          refine r_goto (tgt := 244) dX7_holds_94 (by decide) ?_
          refine r_iinc 7 [(6, .int (y6 + 1)), (5, .int (y5 + 1)), (8, .int ((-(t_code S k (ix y6))) &&& 255)), (7, .int (t_code S k (ix y6))), (0, .ref (q (1000 + 10 * k))), (1, .int (y1)), (2, .ref (q 204)), (3, .ref (q 205))] dX7_holds_244 rfl rfl (Nat.le_of_ble_eq_true rfl) rfl ?_
          refine r_goto (tgt := 25) dX7_holds_247 (by decide) ?_
          refine r_ls [4, 5, 6, 7, 1, 0] (ls2 := [(0, .ref (q (1000 + 10 * k))), (1, .int (y1)), (2, .ref (q 204)), (3, .ref (q 205)), (5, .int (y5 + 1)), (6, .int (y6 + 1))]) rfl ?_
          exact h
        · have h := h.2 c33
          refine r_iload 1 dX7_holds_78 rfl ?_
          refine r_goto (tgt := 90) dX7_holds_80 (by decide) ?_
          obtain ⟨b36, h⟩ := h
          refine xt_105 b36 dX7_holds_90 ?_
          refine r_iinc 6 [(5, .int (y5 + 1)), (8, .int ((-(t_code S k (ix y6))) &&& 255)), (7, .int (t_code S k (ix y6))), (0, .ref (q (1000 + 10 * k))), (1, .int (y1)), (2, .ref (q 204)), (3, .ref (q 205)), (6, .int (y6))] dX7_holds_91 rfl rfl (Nat.le_of_ble_eq_true rfl) rfl ?_
          refine r_goto (tgt := 244) dX7_holds_94 (by decide) ?_
          refine r_iinc 7 [(6, .int (y6 + 1)), (5, .int (y5 + 1)), (8, .int ((-(t_code S k (ix y6))) &&& 255)), (7, .int (t_code S k (ix y6))), (0, .ref (q (1000 + 10 * k))), (1, .int (y1)), (2, .ref (q 204)), (3, .ref (q 205))] dX7_holds_244 rfl rfl (Nat.le_of_ble_eq_true rfl) rfl ?_
          refine r_goto (tgt := 25) dX7_holds_247 (by decide) ?_
          refine r_ls [4, 5, 6, 7, 1, 0] (ls2 := [(0, .ref (q (1000 + 10 * k))), (1, .int (y1)), (2, .ref (q 204)), (3, .ref (q 205)), (5, .int (y5 + 1)), (6, .int (y6 + 1))]) rfl ?_
          exact h
      · have h := h.2 c32
        refine r_iconst_0 dX7_holds_66 ?_
        exact r_zret0 dX7_holds_67 rfl (Nat.le_refl _) (Nat.le_refl _) ⟨_, _, rfl, rfl, h⟩

abbrev T_Text_lastOf_9 (E : EvT) (q : Nat → Nat) (D : Nat) (k : Nat) (P : Int32 → StX → Prop) (S : StX) (y1 : Int32) (y2 : Int32) (y5 : Int32) : Prop := RX E q iX_Text_lastOf D (qIx E q P) S [(0, .ref (q (1000 + 10 * k))), (1, .int (y1)), (2, .int (y2)), (3, .ref (q 204)), (4, .ref (q 205)), (5, .int (y5))] [] 9
set_option maxRecDepth 20000 in
theorem en_Text_lastOf {E : EvT} {q : Nat → Nat} {d : Nat} {k : Nat} {x1 : Int32} {x2 : Int32} {S : StX} {P : Int32 → StX → Prop} (h : k < nTx S ∧ (T_Text_lastOf_9 E q (d + 2) k P S x1 x2 ((nI (t_n S k)) - 1))) : C_Text_lastOf E q (d + 2) k x1 x2 S P := by
  refine Cn.of rfl (Nat.le_of_ble_eq_true rfl) (ls := [(0, .ref (q (1000 + 10 * k))), (1, .int (x1)), (2, .int (x2)), (3, .ref (q 204)), (4, .ref (q 205))]) rfl ?_
  refine r_aload_n 0 dX7_lastOf_0 rfl rfl ?_
  obtain ⟨b1, h⟩ := h
  refine tg_letter b1 rfl dX7_lastOf_1 ?_
  refine tn_letter b1 dX7_lastOf_4 ?_
  refine r_iconst_1 dX7_lastOf_5 ?_
  refine r_isub dX7_lastOf_6 ?_
  refine r_istore [(5, .int ((nI (t_n S k)) - 1)), (0, .ref (q (1000 + 10 * k))), (1, .int (x1)), (2, .int (x2)), (3, .ref (q 204)), (4, .ref (q 205))] dX7_lastOf_7 (Nat.le_of_ble_eq_true rfl) rfl ?_
  refine r_ls [1, 2, 3, 4, 5, 0] (ls2 := [(0, .ref (q (1000 + 10 * k))), (1, .int (x1)), (2, .int (x2)), (3, .ref (q 204)), (4, .ref (q 205)), (5, .int ((nI (t_n S k)) - 1))]) rfl ?_
  exact h
set_option maxRecDepth 20000 in
theorem sg_Text_lastOf_9 {E : EvT} {q : Nat → Nat} {d : Nat} {k : Nat} {S : StX} {P : Int32 → StX → Prop} {y1 : Int32} {y2 : Int32} {y5 : Int32} (h : (y5 < 0 → (P (-1) S)) ∧ (¬ y5 < 0 → (k < nTx S ∧ ((0 ≤ y5 ∧ ix y5 < t_n S k) ∧ ((¬ (t_letter S k (ix y5)) = y1 → (T_Text_lastOf_9 E q (d + 2) k P S y1 y2 (y5 + (-1)))) ∧ ((t_letter S k (ix y5)) = y1 → ((¬ ((y2 >>> (y5 &&& 31)) &&& 1) = 0 → (T_Text_lastOf_9 E q (d + 2) k P S y1 y2 (y5 + (-1)))) ∧ (((y2 >>> (y5 &&& 31)) &&& 1) = 0 → (C_Text_holds E q (d + 1) k y5 S (fun r6 S7 => (r6 = false → (T_Text_lastOf_9 E q (d + 2) k P S7 y1 y2 (y5 + (-1)))) ∧ (r6 = true → (k < nTx S7 ∧ ((0 ≤ y5 ∧ ix y5 < t_n S7 k) ∧ (P (t_value S7 k (ix y5)) S7)))))))))))))) : T_Text_lastOf_9 E q (d + 2) k P S y1 y2 y5 := by
  refine r_iload 5 dX7_lastOf_9 rfl ?_
  refine r_if_lt (tgt := 60) dX7_lastOf_11 (by decide) (fun c1 => ?_) (fun c1 => ?_)
  · have h := h.1 c1
    refine r_iconst_m1 dX7_lastOf_60 ?_
    exact r_iret dX7_lastOf_61 rfl (Nat.le_refl _) (Nat.le_refl _) ⟨_, _, rfl, rfl, h⟩
  · have h := h.2 c1
    refine r_aload_n 0 dX7_lastOf_14 rfl rfl ?_
    obtain ⟨b2, h⟩ := h
    refine tg_letter b2 rfl dX7_lastOf_15 ?_
    refine r_iload 5 dX7_lastOf_18 rfl ?_
    obtain ⟨b3, h⟩ := h
    refine tl_letter b2 b3 dX7_lastOf_20 ?_
    refine r_iload_n 1 dX7_lastOf_21 rfl rfl ?_
    refine r_icmp_ne (tgt := 54) dX7_lastOf_22 (by decide) (fun c4 => ?_) (fun c4 => ?_)
    · have h := h.1 c4
      refine r_iinc 5 [(5, .int (y5 + (-1))), (0, .ref (q (1000 + 10 * k))), (1, .int (y1)), (2, .int (y2)), (3, .ref (q 204)), (4, .ref (q 205))] dX7_lastOf_54 rfl rfl (Nat.le_of_ble_eq_true rfl) rfl ?_
      refine r_goto (tgt := 9) dX7_lastOf_57 (by decide) ?_
      refine r_ls [1, 2, 3, 4, 5, 0] (ls2 := [(0, .ref (q (1000 + 10 * k))), (1, .int (y1)), (2, .int (y2)), (3, .ref (q 204)), (4, .ref (q 205)), (5, .int (y5 + (-1)))]) rfl ?_
      exact h
    · have h := h.2 c4
      refine r_iload_n 2 dX7_lastOf_25 rfl rfl ?_
      refine r_iload 5 dX7_lastOf_26 rfl ?_
      refine r_ishr dX7_lastOf_28 ?_
      refine r_iconst_1 dX7_lastOf_29 ?_
      refine r_iand dX7_lastOf_30 ?_
      refine r_if_ne (tgt := 54) dX7_lastOf_31 (by decide) (fun c5 => ?_) (fun c5 => ?_)
      · have h := h.1 c5
        refine r_iinc 5 [(5, .int (y5 + (-1))), (0, .ref (q (1000 + 10 * k))), (1, .int (y1)), (2, .int (y2)), (3, .ref (q 204)), (4, .ref (q 205))] dX7_lastOf_54 rfl rfl (Nat.le_of_ble_eq_true rfl) rfl ?_
        refine r_goto (tgt := 9) dX7_lastOf_57 (by decide) ?_
        refine r_ls [1, 2, 3, 4, 5, 0] (ls2 := [(0, .ref (q (1000 + 10 * k))), (1, .int (y1)), (2, .int (y2)), (3, .ref (q 204)), (4, .ref (q 205)), (5, .int (y5 + (-1)))]) rfl ?_
        exact h
      · have h := h.2 c5
        refine r_aload_n 0 dX7_lastOf_34 rfl rfl ?_
        refine r_iload 5 dX7_lastOf_35 rfl ?_
        refine r_aload_n 3 dX7_lastOf_37 rfl rfl ?_
        refine r_aload 4 dX7_lastOf_38 rfl ?_
        refine KT7_Text_holds b2 rfl (Nat.le_of_ble_eq_true rfl) dX7_lastOf_40 (mBx h (fun r6 S7 h => ?_))
        refine r_if_eqb (tgt := 54) dX7_lastOf_43 (by decide) (fun c8 => ?_) (fun c8 => ?_)
        · have h := h.1 c8
          refine r_iinc 5 [(5, .int (y5 + (-1))), (0, .ref (q (1000 + 10 * k))), (1, .int (y1)), (2, .int (y2)), (3, .ref (q 204)), (4, .ref (q 205))] dX7_lastOf_54 rfl rfl (Nat.le_of_ble_eq_true rfl) rfl ?_
          refine r_goto (tgt := 9) dX7_lastOf_57 (by decide) ?_
          refine r_ls [1, 2, 3, 4, 5, 0] (ls2 := [(0, .ref (q (1000 + 10 * k))), (1, .int (y1)), (2, .int (y2)), (3, .ref (q 204)), (4, .ref (q 205)), (5, .int (y5 + (-1)))]) rfl ?_
          exact h
        · have h := h.2 c8
          refine r_aload_n 0 dX7_lastOf_46 rfl rfl ?_
          obtain ⟨b9, h⟩ := h
          refine tg_value b9 rfl dX7_lastOf_47 ?_
          refine r_iload 5 dX7_lastOf_50 rfl ?_
          obtain ⟨b10, h⟩ := h
          refine tl_value b9 b10 dX7_lastOf_52 ?_
          exact r_iret dX7_lastOf_53 rfl (Nat.le_refl _) (Nat.le_refl _) ⟨_, _, rfl, rfl, h⟩

abbrev T_Text_lines_6 (E : EvT) (q : Nat → Nat) (D : Nat) (k : Nat) (P : Int32 → StX → Prop) (S : StX) (y1 : Int32) (y4 : Int32) (y5 : Int32) : Prop := RX E q iX_Text_lines D (qIx E q P) S [(0, .ref (q (1000 + 10 * k))), (1, .int (y1)), (2, .ref (q 204)), (3, .ref (q 205)), (4, .int (y4)), (5, .int (y5))] [] 6
set_option maxRecDepth 20000 in
theorem en_Text_lines {E : EvT} {q : Nat → Nat} {d : Nat} {k : Nat} {x1 : Int32} {S : StX} {P : Int32 → StX → Prop} (h : T_Text_lines_6 E q (d + 2) k P S x1 0 0) : C_Text_lines E q (d + 2) k x1 S P := by
  refine Cn.of rfl (Nat.le_of_ble_eq_true rfl) (ls := [(0, .ref (q (1000 + 10 * k))), (1, .int (x1)), (2, .ref (q 204)), (3, .ref (q 205))]) rfl ?_
  refine r_iconst_0 dX7_lines_0 ?_
  refine r_istore [(4, .int (0)), (0, .ref (q (1000 + 10 * k))), (1, .int (x1)), (2, .ref (q 204)), (3, .ref (q 205))] dX7_lines_1 (Nat.le_of_ble_eq_true rfl) rfl ?_
  refine r_iconst_0 dX7_lines_3 ?_
  refine r_istore [(5, .int (0)), (4, .int (0)), (0, .ref (q (1000 + 10 * k))), (1, .int (x1)), (2, .ref (q 204)), (3, .ref (q 205))] dX7_lines_4 (Nat.le_of_ble_eq_true rfl) rfl ?_
  refine r_ls [2, 3, 4, 5, 1, 0] (ls2 := [(0, .ref (q (1000 + 10 * k))), (1, .int (x1)), (2, .ref (q 204)), (3, .ref (q 205)), (4, .int (0)), (5, .int (0))]) rfl ?_
  exact h
set_option maxRecDepth 20000 in
theorem sg_Text_lines_6 {E : EvT} {q : Nat → Nat} {d : Nat} {k : Nat} {S : StX} {P : Int32 → StX → Prop} {y1 : Int32} {y4 : Int32} {y5 : Int32} (h : k < nTx S ∧ (((nI (t_n S k)) ≤ y5 → (P y4 S)) ∧ (¬ (nI (t_n S k)) ≤ y5 → ((0 ≤ y5 ∧ ix y5 < t_n S k) ∧ ((¬ (t_letter S k (ix y5)) = 110 → (T_Text_lines_6 E q (d + 2) k P S y1 y4 (y5 + 1))) ∧ ((t_letter S k (ix y5)) = 110 → ((¬ ((y1 >>> (y5 &&& 31)) &&& 1) = 0 → (T_Text_lines_6 E q (d + 2) k P S y1 y4 (y5 + 1))) ∧ (((y1 >>> (y5 &&& 31)) &&& 1) = 0 → (C_Text_holds E q (d + 1) k y5 S (fun r6 S7 => (r6 = false → (T_Text_lines_6 E q (d + 2) k P S7 y1 y4 (y5 + 1))) ∧ (r6 = true → (k < nTx S7 ∧ ((0 ≤ y5 ∧ ix y5 < t_n S7 k) ∧ (T_Text_lines_6 E q (d + 2) k P S7 y1 (y4 ||| ((1 : Int32) <<< ((t_value S7 k (ix y5)) &&& 31))) (y5 + 1))))))))))))))) : T_Text_lines_6 E q (d + 2) k P S y1 y4 y5 := by
  refine r_iload 5 dX7_lines_6 rfl ?_
  refine r_aload_n 0 dX7_lines_8 rfl rfl ?_
  obtain ⟨b1, h⟩ := h
  refine tg_letter b1 rfl dX7_lines_9 ?_
  refine tn_letter b1 dX7_lines_12 ?_
  refine r_icmp_ge (tgt := 68) dX7_lines_13 (by decide) (fun c2 => ?_) (fun c2 => ?_)
  · have h := h.1 c2
    refine r_iload 4 dX7_lines_68 rfl ?_
    exact r_iret dX7_lines_70 rfl (Nat.le_refl _) (Nat.le_refl _) ⟨_, _, rfl, rfl, h⟩
  · have h := h.2 c2
    refine r_aload_n 0 dX7_lines_16 rfl rfl ?_
    refine tg_letter b1 rfl dX7_lines_17 ?_
    refine r_iload 5 dX7_lines_20 rfl ?_
    obtain ⟨b3, h⟩ := h
    refine tl_letter b1 b3 dX7_lines_22 ?_
    refine r_bipush_110 dX7_lines_23 ?_
    refine r_icmp_ne (tgt := 62) dX7_lines_25 (by decide) (fun c4 => ?_) (fun c4 => ?_)
    · have h := h.1 c4
      refine r_iinc 5 [(5, .int (y5 + 1)), (0, .ref (q (1000 + 10 * k))), (1, .int (y1)), (2, .ref (q 204)), (3, .ref (q 205)), (4, .int (y4))] dX7_lines_62 rfl rfl (Nat.le_of_ble_eq_true rfl) rfl ?_
      refine r_goto (tgt := 6) dX7_lines_65 (by decide) ?_
      refine r_ls [1, 2, 3, 4, 5, 0] (ls2 := [(0, .ref (q (1000 + 10 * k))), (1, .int (y1)), (2, .ref (q 204)), (3, .ref (q 205)), (4, .int (y4)), (5, .int (y5 + 1))]) rfl ?_
      exact h
    · have h := h.2 c4
      refine r_iload_n 1 dX7_lines_28 rfl rfl ?_
      refine r_iload 5 dX7_lines_29 rfl ?_
      refine r_ishr dX7_lines_31 ?_
      refine r_iconst_1 dX7_lines_32 ?_
      refine r_iand dX7_lines_33 ?_
      refine r_if_ne (tgt := 62) dX7_lines_34 (by decide) (fun c5 => ?_) (fun c5 => ?_)
      · have h := h.1 c5
        refine r_iinc 5 [(5, .int (y5 + 1)), (0, .ref (q (1000 + 10 * k))), (1, .int (y1)), (2, .ref (q 204)), (3, .ref (q 205)), (4, .int (y4))] dX7_lines_62 rfl rfl (Nat.le_of_ble_eq_true rfl) rfl ?_
        refine r_goto (tgt := 6) dX7_lines_65 (by decide) ?_
        refine r_ls [1, 2, 3, 4, 5, 0] (ls2 := [(0, .ref (q (1000 + 10 * k))), (1, .int (y1)), (2, .ref (q 204)), (3, .ref (q 205)), (4, .int (y4)), (5, .int (y5 + 1))]) rfl ?_
        exact h
      · have h := h.2 c5
        refine r_aload_n 0 dX7_lines_37 rfl rfl ?_
        refine r_iload 5 dX7_lines_38 rfl ?_
        refine r_aload_n 2 dX7_lines_40 rfl rfl ?_
        refine r_aload_n 3 dX7_lines_41 rfl rfl ?_
        refine KT7_Text_holds b1 rfl (Nat.le_of_ble_eq_true rfl) dX7_lines_42 (mBx h (fun r6 S7 h => ?_))
        refine r_if_eqb (tgt := 62) dX7_lines_45 (by decide) (fun c8 => ?_) (fun c8 => ?_)
        · have h := h.1 c8
          refine r_iinc 5 [(5, .int (y5 + 1)), (0, .ref (q (1000 + 10 * k))), (1, .int (y1)), (2, .ref (q 204)), (3, .ref (q 205)), (4, .int (y4))] dX7_lines_62 rfl rfl (Nat.le_of_ble_eq_true rfl) rfl ?_
          refine r_goto (tgt := 6) dX7_lines_65 (by decide) ?_
          refine r_ls [1, 2, 3, 4, 5, 0] (ls2 := [(0, .ref (q (1000 + 10 * k))), (1, .int (y1)), (2, .ref (q 204)), (3, .ref (q 205)), (4, .int (y4)), (5, .int (y5 + 1))]) rfl ?_
          exact h
        · have h := h.2 c8
          refine r_iload 4 dX7_lines_48 rfl ?_
          refine r_iconst_1 dX7_lines_50 ?_
          refine r_aload_n 0 dX7_lines_51 rfl rfl ?_
          obtain ⟨b9, h⟩ := h
          refine tg_value b9 rfl dX7_lines_52 ?_
          refine r_iload 5 dX7_lines_55 rfl ?_
          obtain ⟨b10, h⟩ := h
          refine tl_value b9 b10 dX7_lines_57 ?_
          refine r_ishl dX7_lines_58 ?_
          refine r_ior dX7_lines_59 ?_
          refine r_istore [(4, .int (y4 ||| ((1 : Int32) <<< ((t_value S7 k (ix y5)) &&& 31)))), (0, .ref (q (1000 + 10 * k))), (1, .int (y1)), (2, .ref (q 204)), (3, .ref (q 205)), (5, .int (y5))] dX7_lines_60 (Nat.le_of_ble_eq_true rfl) rfl ?_
          refine r_iinc 5 [(5, .int (y5 + 1)), (4, .int (y4 ||| ((1 : Int32) <<< ((t_value S7 k (ix y5)) &&& 31)))), (0, .ref (q (1000 + 10 * k))), (1, .int (y1)), (2, .ref (q 204)), (3, .ref (q 205))] dX7_lines_62 rfl rfl (Nat.le_of_ble_eq_true rfl) rfl ?_
          refine r_goto (tgt := 6) dX7_lines_65 (by decide) ?_
          refine r_ls [2, 3, 4, 5, 1, 0] (ls2 := [(0, .ref (q (1000 + 10 * k))), (1, .int (y1)), (2, .ref (q 204)), (3, .ref (q 205)), (4, .int (y4 ||| ((1 : Int32) <<< ((t_value S7 k (ix y5)) &&& 31)))), (5, .int (y5 + 1))]) rfl ?_
          exact h

section XL
variable {E : EvT} {q : Nat → Nat} {I : MI} {d : Nat} {Qw : Option Value → va_W → Prop} {S : StX} {ls : List (Nat × Value)} {st : List Value} {pc : Nat}
theorem lg_size (hI : I.1.cls = RJx4a65c) (hd : decode I.2.1 pc = .ok (.getfield 48, 3)) (kk : RX E q I d Qw S ls (.int (nI (nTx S)) :: st) (pc + 3)) : RX E q I d Qw S ls (.ref (q 12) :: st) pc := r_get (T := TJx4a65c) (f := 2) inwJx4a65c rfl (by decide) (by rw [hI]; exact w1_217) wX_li rfl hd kk
theorem lg_data (hc : ¬ capX S = 0) (hI : I.1.cls = RJx4a65c) (hd : decode I.2.1 pc = .ok (.getfield 9, 3)) (kk : RX E q I d Qw S ls (.ref (q 13) :: st) (pc + 3)) : RX E q I d Qw S ls (.ref (q 12) :: st) pc := r_get (T := TJx4a65c) (f := 1) (v := .ref (q 13)) inwJx4a65c rfl (by decide) (by rw [hI]; exact w1_216) wX_li (by show some (Value.ref (if capX S = 0 then q 15 else q 13)) = _; rw [if_neg hc]) hd kk
theorem ll_data (hc : ¬ capX S = 0) {i : Int32} (hb : 0 ≤ i ∧ ix i < nTx S ∧ nTx S ≤ capX S) (hd : decode I.2.1 pc = .ok (.aaload, 1)) (kk : RX E q I d Qw S ls (.ref (q (1000 + 10 * ix i)) :: st) (pc + 1)) : RX E q I d Qw S ls (.int i :: .ref (q 13) :: st) pc :=
  fun p e s m args below meth c A H locs la C hP hD hS hl => va_aldq (D := E.2.1) C.1.1 C.1.2.1 C.2.2.2.2.1 hP 91 4 (wX_el hc) rfl (vinN ⟨hb.1, Nat.lt_of_lt_of_le hb.2.1 hb.2.2⟩) hd (by
    show W p E.1 e (rmD d 0 0) s m args below meth c H locs 0 0 (MQ below (rr_Post E Qw A) args s 0 0 A) (F0 m (pc + 1) la (va_rf (if ix i < nTx S then some (q (1000 + 10 * ix i)) else none) :: st))
    rw [if_pos hb.2.1]
    exact kk p e s m args below meth c A H locs la C hP hD hS hl)
theorem r_aret {v : Nat} {rt : FieldType} {mc ms k n : Nat} {Q : Option Value → va_W → Prop} {w : va_W} (hd : decode I.2.1 pc = .ok (.areturn, 1)) (hr : I.2.2.2 = some rt) (ho : (∃ n, rt = .object n) ∨ ∃ t, rt = .array t) (hk : k ≤ mc) (hn : n ≤ ms) (hq : Q (some (.ref v)) w) : RR E I d mc ms Q w k n ls [.ref v] pc := fun p e s m args below meth c A H locs la C hP hD hS hl => W.widen hk hn (W.aret C.1.1 C.1.2.1 (C.2.1.trans hr) ho (Or.inr ⟨v, rfl⟩) (fun t ht hW => ⟨⟨some (.ref v), w, rfl, hq, by rw [ht]; exact hP, va_K.moved hW.alike C.2.2.2.2.1, hD⟩, hS.F ht⟩) hS.2.2 hd C.2.2.1)
theorem xcast {k : Nat} (hk : k < nTx S) (hI : I.1.cls = RX5) (hd : decode I.2.1 pc = .ok (.checkcast 28, 3)) (kk : RX E q I d Qw S ls (.ref (q (1000 + 10 * k)) :: st) (pc + 3)) : RX E q I d Qw S ls (.ref (q (1000 + 10 * k)) :: st) pc :=
  fun p e s m args below meth c A H locs la C hP hD hS hl => va_castS C.1.1 C.1.2.1 C.1.2.2.2.1 (C.1.2.2.2.2 _ (by rw [hI]; exact w5_8)) (C.2.2.2.2.1.1 8 _ rfl).2 (va_recv C.2.2.2.2.1 hP (ci := 8) rfl (wX_tx (j := 0) hk rfl)) hd (kk p e s m args below meth c A H locs la C hP hD hS hl)
end XL
def qRx (E : EvT) (q : Nat → Nat) (P : Nat → StX → Prop) : Option Value → va_W → Prop := fun v w => ∃ (r : Nat) (S : StX), v = some (.ref r) ∧ w = wX E q S ∧ P r S
abbrev iX_Lchk3 : MI := (yJ3_checkIndex_8e157, cJ3_checkIndex_8e157, 3, (some .int))
abbrev C_Lchk3 (E : EvT) (q : Nat → Nat) (d : Nat) (x0 : Int32) (x1 : Int32) (S : StX) (P : Int32 → StX → Prop) : Prop := Cn E iX_Lchk3 d 0 0 [.int (x0), .int (x1), .null] (wX E q S) (qIx E q P)
set_option maxRecDepth 20000 in
theorem en_Lchk3 {E : EvT} {q : Nat → Nat} {d : Nat} {x0 : Int32} {x1 : Int32} {S : StX} {P : Int32 → StX → Prop} (h : (x0 < 0 → False) ∧ (¬ x0 < 0 → ((x0 < x1 → (P x0 S)) ∧ (¬ x0 < x1 → False)))) : C_Lchk3 E q d x0 x1 S P := by
  refine Cn.of rfl (Nat.le_of_ble_eq_true rfl) (ls := [(0, .int (x0)), (1, .int (x1)), (2, .null)]) rfl ?_
  refine r_iload_n 0 dJ3_checkIndex_8e157_0 rfl rfl ?_
  refine r_if_lt (tgt := 9) dJ3_checkIndex_8e157_1 (by decide) (fun c1 => ?_) (fun c1 => ?_)
  · have h := h.1 c1
    exact h.elim
  · have h := h.2 c1
    refine r_iload_n 0 dJ3_checkIndex_8e157_4 rfl rfl ?_
    refine r_iload_n 1 dJ3_checkIndex_8e157_5 rfl rfl ?_
    refine r_icmp_lt (tgt := 16) dJ3_checkIndex_8e157_6 (by decide) (fun c2 => ?_) (fun c2 => ?_)
    · have h := h.1 c2
      refine r_iload_n 0 dJ3_checkIndex_8e157_16 rfl rfl ?_
      exact r_iret dJ3_checkIndex_8e157_17 rfl (Nat.le_refl _) (Nat.le_refl _) ⟨_, _, rfl, rfl, h⟩
    · have h := h.2 c2
      exact h.elim

theorem ct_Lchk3 {E : EvT} {q : Nat → Nat} {d : Nat} {S : StX} {x0 : Int32} {x1 : Int32} (hp : 0 ≤ x0 ∧ x0 < x1) : C_Lchk3 E q d x0 x1 S (fun r S1 => r = x0 ∧ S1 = S) := by
  refine en_Lchk3 ?_
  grind
theorem KP_Lchk3 {E : EvT} {q : Nat → Nat} {I : MI} {d : Nat} {Qw : Option Value → va_W → Prop} {S : StX} {ls : List (Nat × Value)} {st : List Value} {pc : Nat} {x0 : Int32} {x1 : Int32} (hp : 0 ≤ x0 ∧ x0 < x1) (hI : I.1.cls = RJ15) (hW : (st.map fun v => v.category).sum ≤ 8) (hd : decode I.2.1 pc = .ok (.invokestatic 105, 3)) (kk : RX E q I (d + 1) Qw S ls (.int (x0) :: st) (pc + 3)) : RX E q I (d + 1) Qw S ls (.null :: .int (x1) :: .int (x0) :: st) pc := r_callS (J := iX_Lchk3) (As := [.int (x0), .int (x1), .null]) (by rw [hI]; exact w5_1) w5_2 w1_23 w5_3 (nA := 3) (by decide +kernel) rfl (by decide) hW hd ⟨Nat.le_refl _, Nat.le_refl _⟩ rfl (ct_Lchk3 hp) (fun v w ⟨r, S1, hv, hw, hr, hs⟩ => by subst hv; subst hw; subst hr; subst hs; exact kk)
abbrev iX_Lchk : MI := (yJ15_checkIndex_7cf53, cJ15_checkIndex_7cf53, 2, (some .int))
abbrev C_Lchk (E : EvT) (q : Nat → Nat) (d : Nat) (x0 : Int32) (x1 : Int32) (S : StX) (P : Int32 → StX → Prop) : Prop := Cn E iX_Lchk d 0 0 [.int (x0), .int (x1)] (wX E q S) (qIx E q P)
set_option maxRecDepth 20000 in
theorem en_Lchk {E : EvT} {q : Nat → Nat} {d : Nat} {x0 : Int32} {x1 : Int32} {S : StX} {P : Int32 → StX → Prop} (h : (0 ≤ x0 ∧ x0 < x1) ∧ (P x0 S)) : C_Lchk E q (d + 1) x0 x1 S P := by
  refine Cn.of rfl (Nat.le_of_ble_eq_true rfl) (ls := [(0, .int (x0)), (1, .int (x1))]) rfl ?_
  refine r_iload_n 0 dJ15_checkIndex_7cf53_0 rfl rfl ?_
  refine r_iload_n 1 dJ15_checkIndex_7cf53_1 rfl rfl ?_
  refine r_null dJ15_checkIndex_7cf53_2 ?_
  obtain ⟨b1, h⟩ := h
  refine KP_Lchk3 b1 rfl (Nat.le_of_ble_eq_true rfl) dJ15_checkIndex_7cf53_3 ?_
  exact r_iret dJ15_checkIndex_7cf53_6 rfl (Nat.le_refl _) (Nat.le_refl _) ⟨_, _, rfl, rfl, h⟩

theorem ct_Lchk {E : EvT} {q : Nat → Nat} {d : Nat} {S : StX} {x0 : Int32} {x1 : Int32} (hp : 0 ≤ x0 ∧ x0 < x1) : C_Lchk E q (d + 1) x0 x1 S (fun r S1 => r = x0 ∧ S1 = S) := by
  refine en_Lchk ?_
  exact ⟨hp, rfl, rfl⟩
theorem KP_Lchk {E : EvT} {q : Nat → Nat} {I : MI} {d : Nat} {Qw : Option Value → va_W → Prop} {S : StX} {ls : List (Nat × Value)} {st : List Value} {pc : Nat} {x0 : Int32} {x1 : Int32} (hp : 0 ≤ x0 ∧ x0 < x1) (hI : I.1.cls = RJx4a65c) (hW : (st.map fun v => v.category).sum ≤ 8) (hd : decode I.2.1 pc = .ok (.invokestatic 118, 3)) (kk : RX E q I (d + 2) Qw S ls (.int (x0) :: st) (pc + 3)) : RX E q I (d + 2) Qw S ls (.int (x1) :: .int (x0) :: st) pc := r_callS (J := iX_Lchk) (As := [.int (x0), .int (x1)]) (by rw [hI]; exact w4_238) w4_239 w1_22 w5_0 (nA := 2) (by decide +kernel) rfl (by decide) hW hd ⟨Nat.le_refl _, Nat.le_refl _⟩ rfl (ct_Lchk hp) (fun v w ⟨r, S1, hv, hw, hr, hs⟩ => by subst hv; subst hw; subst hr; subst hs; exact kk)
abbrev iX_Ldata : MI := (yJx4a65c_elementData_915e3, cJx4a65c_elementData_915e3, 2, (some (.object "java/lang/Object")))
abbrev C_Ldata (E : EvT) (q : Nat → Nat) (d : Nat) (x1 : Int32) (S : StX) (P : Nat → StX → Prop) : Prop := Cn E iX_Ldata d 0 0 [.ref (q 12), .int (x1)] (wX E q S) (qRx E q P)
set_option maxRecDepth 20000 in
theorem en_Ldata {E : EvT} {q : Nat → Nat} {d : Nat} {x1 : Int32} {S : StX} {P : Nat → StX → Prop} (h : ¬ capX S = 0 ∧ ((0 ≤ x1 ∧ ix x1 < nTx S ∧ nTx S ≤ capX S) ∧ (P (q (1000 + 10 * ix x1)) S))) : C_Ldata E q d x1 S P := by
  refine Cn.of rfl (Nat.le_of_ble_eq_true rfl) (ls := [(0, .ref (q 12)), (1, .int (x1))]) rfl ?_
  refine r_aload_n 0 dJx4a65c_elementData_915e3_0 rfl rfl ?_
  obtain ⟨b1, h⟩ := h
  refine lg_data b1 rfl dJx4a65c_elementData_915e3_1 ?_
  refine r_iload_n 1 dJx4a65c_elementData_915e3_4 rfl rfl ?_
  obtain ⟨b2, h⟩ := h
  refine ll_data b1 b2 dJx4a65c_elementData_915e3_5 ?_
  exact r_aret dJx4a65c_elementData_915e3_6 rfl (Or.inl ⟨_, rfl⟩) (Nat.le_refl _) (Nat.le_refl _) ⟨_, _, rfl, rfl, h⟩

theorem ct_Ldata {E : EvT} {q : Nat → Nat} {d : Nat} {S : StX} {x1 : Int32} (hp : ¬ capX S = 0 ∧ 0 ≤ x1 ∧ ix x1 < nTx S ∧ nTx S ≤ capX S) : C_Ldata E q d x1 S (fun r S1 => r = q (1000 + 10 * ix x1) ∧ S1 = S) := by
  refine en_Ldata ?_
  exact ⟨hp.1, hp.2, rfl, rfl⟩
theorem KP_Ldata {E : EvT} {q : Nat → Nat} {I : MI} {d : Nat} {Qw : Option Value → va_W → Prop} {S : StX} {ls : List (Nat × Value)} {st : List Value} {pc : Nat} {x1 : Int32} (hp : ¬ capX S = 0 ∧ 0 ≤ x1 ∧ ix x1 < nTx S ∧ nTx S ≤ capX S) (hI : I.1.cls = RJx4a65c) (hW : (st.map fun v => v.category).sum ≤ 8) (hd : decode I.2.1 pc = .ok (.invokevirtual 123, 3)) (kk : RX E q I (d + 1) Qw S ls (.ref (q (1000 + 10 * ix x1)) :: st) (pc + 3)) : RX E q I (d + 1) Qw S ls (.int (x1) :: .ref (q 12) :: st) pc := r_callV (J := iX_Ldata) (As := [.int (x1)]) (T := TJx4a65c) (by rw [hI]; exact w5_4) w5_5 w5_6 w1_9 w5_7 (nA := 1) (by decide +kernel) rfl (by decide) wX_li rfl hW hd ⟨Nat.le_refl _, Nat.le_refl _⟩ rfl (ct_Ldata hp) (fun v w ⟨r, S1, hv, hw, hr, hs⟩ => by subst hv; subst hw; subst hr; subst hs; exact kk)
abbrev iX_Lget : MI := (yJx4a65c_get_915e3, cJx4a65c_get_915e3, 2, (some (.object "java/lang/Object")))
abbrev C_Lget (E : EvT) (q : Nat → Nat) (d : Nat) (x1 : Int32) (S : StX) (P : Nat → StX → Prop) : Prop := Cn E iX_Lget d 0 0 [.ref (q 12), .int (x1)] (wX E q S) (qRx E q P)
set_option maxRecDepth 20000 in
theorem en_Lget {E : EvT} {q : Nat → Nat} {d : Nat} {x1 : Int32} {S : StX} {P : Nat → StX → Prop} (h : (0 ≤ x1 ∧ x1 < (nI (nTx S))) ∧ ((¬ capX S = 0 ∧ 0 ≤ x1 ∧ ix x1 < nTx S ∧ nTx S ≤ capX S) ∧ (P (q (1000 + 10 * ix x1)) S))) : C_Lget E q (d + 2) x1 S P := by
  refine Cn.of rfl (Nat.le_of_ble_eq_true rfl) (ls := [(0, .ref (q 12)), (1, .int (x1))]) rfl ?_
  refine r_iload_n 1 dJx4a65c_get_915e3_0 rfl rfl ?_
  refine r_aload_n 0 dJx4a65c_get_915e3_1 rfl rfl ?_
  refine lg_size rfl dJx4a65c_get_915e3_2 ?_
  obtain ⟨b1, h⟩ := h
  refine KP_Lchk b1 rfl (Nat.le_of_ble_eq_true rfl) dJx4a65c_get_915e3_5 ?_
  refine r_pop dJx4a65c_get_915e3_8 rfl ?_
  refine r_aload_n 0 dJx4a65c_get_915e3_9 rfl rfl ?_
  refine r_iload_n 1 dJx4a65c_get_915e3_10 rfl rfl ?_
  obtain ⟨b2, h⟩ := h
  refine KP_Ldata b2 rfl (Nat.le_of_ble_eq_true rfl) dJx4a65c_get_915e3_11 ?_
  exact r_aret dJx4a65c_get_915e3_14 rfl (Or.inl ⟨_, rfl⟩) (Nat.le_refl _) (Nat.le_refl _) ⟨_, _, rfl, rfl, h⟩

theorem ct_Lget {E : EvT} {q : Nat → Nat} {d : Nat} {S : StX} {x1 : Int32} (hp : ¬ capX S = 0 ∧ 0 ≤ x1 ∧ x1 < nI (nTx S) ∧ ix x1 < nTx S ∧ nTx S ≤ capX S) : C_Lget E q (d + 2) x1 S (fun r S1 => r = q (1000 + 10 * ix x1) ∧ S1 = S) := by
  refine en_Lget ?_
  exact ⟨⟨hp.2.1, hp.2.2.1⟩, ⟨hp.1, hp.2.1, hp.2.2.2.1, hp.2.2.2.2⟩, rfl, rfl⟩
theorem KP5_Lget {E : EvT} {q : Nat → Nat} {I : MI} {d : Nat} {Qw : Option Value → va_W → Prop} {S : StX} {ls : List (Nat × Value)} {st : List Value} {pc : Nat} {x1 : Int32} (hp : ¬ capX S = 0 ∧ 0 ≤ x1 ∧ x1 < nI (nTx S) ∧ ix x1 < nTx S ∧ nTx S ≤ capX S) (hI : I.1.cls = RX5) (hW : (st.map fun v => v.category).sum ≤ 8) (hd : decode I.2.1 pc = .ok (.invokevirtual 40, 3)) (kk : RX E q I (d + 3) Qw S ls (.ref (q (1000 + 10 * ix x1)) :: st) (pc + 3)) : RX E q I (d + 3) Qw S ls (.int (x1) :: .ref (q 12) :: st) pc := r_callV (J := iX_Lget) (As := [.int (x1)]) (T := TJx4a65c) (by rw [hI]; exact w4_234) w4_235 w4_236 w1_9 w4_237 (nA := 1) (by decide +kernel) rfl (by decide) wX_li rfl hW hd ⟨Nat.le_refl _, Nat.le_refl _⟩ rfl (ct_Lget hp) (fun v w ⟨r, S1, hv, hw, hr, hs⟩ => by subst hv; subst hw; subst hr; subst hs; exact kk)
abbrev iX_Lsize : MI := (yJx4a65c_size_8abf5, cJx4a65c_size_8abf5, 1, (some .int))
abbrev C_Lsize (E : EvT) (q : Nat → Nat) (d : Nat) (S : StX) (P : Int32 → StX → Prop) : Prop := Cn E iX_Lsize d 0 0 [.ref (q 12)] (wX E q S) (qIx E q P)
set_option maxRecDepth 20000 in
theorem en_Lsize {E : EvT} {q : Nat → Nat} {d : Nat} {S : StX} {P : Int32 → StX → Prop} (h : P (nI (nTx S)) S) : C_Lsize E q d S P := by
  refine Cn.of rfl (Nat.le_of_ble_eq_true rfl) (ls := [(0, .ref (q 12))]) rfl ?_
  refine r_aload_n 0 dJx4a65c_size_8abf5_0 rfl rfl ?_
  refine lg_size rfl dJx4a65c_size_8abf5_1 ?_
  exact r_iret dJx4a65c_size_8abf5_4 rfl (Nat.le_refl _) (Nat.le_refl _) ⟨_, _, rfl, rfl, h⟩

theorem ct_Lsize {E : EvT} {q : Nat → Nat} {d : Nat} {S : StX}  : C_Lsize E q d S (fun r S1 => r = nI (nTx S) ∧ S1 = S) := by
  refine en_Lsize ?_
  exact ⟨rfl, rfl⟩
theorem KP5_Lsize {E : EvT} {q : Nat → Nat} {I : MI} {d : Nat} {Qw : Option Value → va_W → Prop} {S : StX} {ls : List (Nat × Value)} {st : List Value} {pc : Nat}  (hI : I.1.cls = RX5) (hW : (st.map fun v => v.category).sum ≤ 8) (hd : decode I.2.1 pc = .ok (.invokevirtual 36, 3)) (kk : RX E q I (d + 1) Qw S ls (.int (nI (nTx S)) :: st) (pc + 3)) : RX E q I (d + 1) Qw S ls (.ref (q 12) :: st) pc := r_callV (J := iX_Lsize) (As := []) (T := TJx4a65c) (by rw [hI]; exact w4_30) w4_31 w4_32 w1_9 w4_33 (nA := 0) (by decide +kernel) rfl (by decide) wX_li rfl hW hd ⟨Nat.le_refl _, Nat.le_refl _⟩ rfl (ct_Lsize) (fun v w ⟨r, S1, hv, hw, hr, hs⟩ => by subst hv; subst hw; subst hr; subst hs; exact kk)

set_option maxRecDepth 20000 in
theorem en_Book_size {E : EvT} {q : Nat → Nat} {d : Nat} {S : StX} {P : Int32 → StX → Prop} (h : P (nI (nTx S)) S) : C_Book_size E q (d + 1) S P := by
  refine Cn.of rfl (Nat.le_of_ble_eq_true rfl) (ls := [(0, .ref (q 5))]) rfl ?_
  refine r_aload_n 0 dX5_size_0 rfl rfl ?_
  refine xg_5_12 rfl dX5_size_1 ?_
  refine KP5_Lsize (d := d + 0) rfl (Nat.le_of_ble_eq_true rfl) dX5_size_4 ?_
  exact r_iret dX5_size_7 rfl (Nat.le_refl _) (Nat.le_refl _) ⟨_, _, rfl, rfl, h⟩

set_option maxRecDepth 20000 in
theorem en_Book_clauses {E : EvT} {q : Nat → Nat} {d : Nat} {x1 : Int32} {S : StX} {P : Int32 → StX → Prop} (h : (¬ capX S = 0 ∧ 0 ≤ x1 ∧ x1 < nI (nTx S) ∧ ix x1 < nTx S ∧ nTx S ≤ capX S) ∧ (C_Text_clauses E q (d + 2) (ix x1) S (fun r2 S3 => P r2 S3))) : C_Book_clauses E q (d + 3) x1 S P := by
  refine Cn.of rfl (Nat.le_of_ble_eq_true rfl) (ls := [(0, .ref (q 5)), (1, .int (x1))]) rfl ?_
  refine r_aload_n 0 dX5_clauses_0 rfl rfl ?_
  refine xg_5_12 rfl dX5_clauses_1 ?_
  refine r_iload_n 1 dX5_clauses_4 rfl rfl ?_
  obtain ⟨b1, h⟩ := h
  refine KP5_Lget (d := d + 0) b1 rfl (Nat.le_of_ble_eq_true rfl) dX5_clauses_5 ?_
  refine xcast b1.2.2.2.1 rfl dX5_clauses_8 ?_
  refine KT5_Text_clauses b1.2.2.2.1 rfl (Nat.le_of_ble_eq_true rfl) dX5_clauses_11 (mIx h (fun r2 S3 h => ?_))
  exact r_iret dX5_clauses_14 rfl (Nat.le_refl _) (Nat.le_refl _) ⟨_, _, rfl, rfl, h⟩

abbrev T_Book_lines_20 (E : EvT) (q : Nat → Nat) (D : Nat) (P : Int32 → StX → Prop) (S : StX) (y1 : Int32) (y2 : Int32) : Prop := RX E q iX_Book_lines D (qIx E q P) S [(0, .ref (q 5)), (1, .int (y1)), (2, .int (y2))] [] 20
set_option maxRecDepth 20000 in
theorem en_Book_lines {E : EvT} {q : Nat → Nat} {d : Nat} {S : StX} {P : Int32 → StX → Prop} (h : T_Book_lines_20 E q (d + 3) P (xA S 103 (fillF 20 0 (xa_Book_struck S))) 0 ((nI (nTx S)) - 1)) : C_Book_lines E q (d + 3) S P := by
  refine Cn.of rfl (Nat.le_of_ble_eq_true rfl) (ls := [(0, .ref (q 5))]) rfl ?_
  refine r_iconst_0 dX5_lines_0 ?_
  refine r_istore_n [(1, .int (0)), (0, .ref (q 5))] dX5_lines_1 rfl (Nat.le_of_ble_eq_true rfl) rfl ?_
  refine r_aload_n 1 dX5_lines_2 rfl rfl ?_
  refine xg_5_25 rfl dX5_lines_3 ?_
  refine r_iconst_0 dX5_lines_6 ?_
  refine KP5_Jfill_103 (d := d + 2) rfl (Nat.le_of_ble_eq_true rfl) dX5_lines_7 ?_
  refine r_aload_n 1 dX5_lines_10 rfl rfl ?_
  refine xg_5_12 rfl dX5_lines_11 ?_
  refine KP5_Lsize (d := d + 2) rfl (Nat.le_of_ble_eq_true rfl) dX5_lines_14 ?_
  refine r_iconst_1 dX5_lines_17 ?_
  refine r_isub dX5_lines_18 ?_
  refine r_istore_n [(2, .int ((nI (nTx S)) - 1)), (1, .int (0)), (0, .ref (q 5))] dX5_lines_19 rfl (Nat.le_of_ble_eq_true rfl) rfl ?_
  refine r_ls [2, 1, 0] (ls2 := [(0, .ref (q 5)), (1, .int (0)), (2, .int ((nI (nTx S)) - 1))]) rfl ?_
  exact h
set_option maxRecDepth 20000 in
theorem sg_Book_lines_20 {E : EvT} {q : Nat → Nat} {d : Nat} {S : StX} {P : Int32 → StX → Prop} {y1 : Int32} {y2 : Int32} (h : (y2 < 0 → ((¬ y1 = 0 → (P y1 S)) ∧ (y1 = 0 → (P 15 S)))) ∧ (¬ y2 < 0 → ((0 ≤ y2 ∧ y2 < 20) ∧ (((pForce S y2) = false → (T_Book_lines_20 E q (d + 3) P S y1 (y2 + (-1)))) ∧ ((pForce S y2) = true → ((¬ capX S = 0 ∧ 0 ≤ y2 ∧ y2 < nI (nTx S) ∧ ix y2 < nTx S ∧ nTx S ≤ capX S) ∧ (C_Text_strikeIn E q (d + 2) (ix y2) y2 S (fun S7 => (¬ capX S7 = 0 ∧ 0 ≤ y2 ∧ y2 < nI (nTx S7) ∧ ix y2 < nTx S7 ∧ nTx S7 ≤ capX S7) ∧ ((0 ≤ y2 ∧ y2 < 20) ∧ (C_Text_lines E q (d + 2) (ix y2) (xa_Book_struck S7 (ix y2)) S7 (fun r10 S11 => T_Book_lines_20 E q (d + 3) P S11 (y1 ||| r10) (y2 + (-1))))))))))))) : T_Book_lines_20 E q (d + 3) P S y1 y2 := by
  refine r_iload_n 2 dX5_lines_20 rfl rfl ?_
  refine r_if_lt (tgt := 88) dX5_lines_21 (by decide) (fun c1 => ?_) (fun c1 => ?_)
  · have h := h.1 c1
    refine r_iload_n 1 dX5_lines_88 rfl rfl ?_
    refine r_if_ne (tgt := 97) dX5_lines_89 (by decide) (fun c2 => ?_) (fun c2 => ?_)
    · have h := h.1 c2
      refine r_iload_n 1 dX5_lines_97 rfl rfl ?_
      exact r_iret dX5_lines_98 rfl (Nat.le_refl _) (Nat.le_refl _) ⟨_, _, rfl, rfl, h⟩
    · have h := h.2 c2
      refine r_bipush_15 dX5_lines_92 ?_
      refine r_goto (tgt := 98) dX5_lines_94 (by decide) ?_
      exact r_iret dX5_lines_98 rfl (Nat.le_refl _) (Nat.le_refl _) ⟨_, _, rfl, rfl, h⟩
  · have h := h.2 c1
    refine r_aload_n 0 dX5_lines_24 rfl rfl ?_
    refine r_iload_n 2 dX5_lines_25 rfl rfl ?_
    obtain ⟨b3, h⟩ := h
    refine KP5_Book_isInForce (d := d + 2) b3 rfl (Nat.le_of_ble_eq_true rfl) dX5_lines_26 ?_
    refine r_if_eqb (tgt := 82) dX5_lines_29 (by decide) (fun c4 => ?_) (fun c4 => ?_)
    · have h := h.1 c4
      refine r_iinc 2 [(2, .int (y2 + (-1))), (0, .ref (q 5)), (1, .int (y1))] dX5_lines_82 rfl rfl (Nat.le_of_ble_eq_true rfl) rfl ?_
      refine r_goto (tgt := 20) dX5_lines_85 (by decide) ?_
      refine r_ls [1, 2, 0] (ls2 := [(0, .ref (q 5)), (1, .int (y1)), (2, .int (y2 + (-1)))]) rfl ?_
      exact h
    · have h := h.2 c4
      refine r_aload_n 0 dX5_lines_32 rfl rfl ?_
      refine xg_5_12 rfl dX5_lines_33 ?_
      refine r_iload_n 2 dX5_lines_36 rfl rfl ?_
      obtain ⟨b5, h⟩ := h
      refine KP5_Lget (d := d + 0) b5 rfl (Nat.le_of_ble_eq_true rfl) dX5_lines_37 ?_
      refine xcast b5.2.2.2.1 rfl dX5_lines_40 ?_
      refine r_aload_n 0 dX5_lines_43 rfl rfl ?_
      refine xg_5_25 rfl dX5_lines_44 ?_
      refine r_iload_n 2 dX5_lines_47 rfl rfl ?_
      refine KT5_Text_strikeIn b5.2.2.2.1 rfl (Nat.le_of_ble_eq_true rfl) dX5_lines_48 (mVx h (fun S7 h => ?_))
      refine r_iload_n 1 dX5_lines_51 rfl rfl ?_
      refine r_aload_n 0 dX5_lines_52 rfl rfl ?_
      refine xg_5_12 rfl dX5_lines_53 ?_
      refine r_iload_n 2 dX5_lines_56 rfl rfl ?_
      obtain ⟨b8, h⟩ := h
      refine KP5_Lget (d := d + 0) b8 rfl (Nat.le_of_ble_eq_true rfl) dX5_lines_57 ?_
      refine xcast b8.2.2.2.1 rfl dX5_lines_60 ?_
      refine r_aload_n 0 dX5_lines_63 rfl rfl ?_
      refine xg_5_25 rfl dX5_lines_64 ?_
      refine r_iload_n 2 dX5_lines_67 rfl rfl ?_
      obtain ⟨b9, h⟩ := h
      refine xl_103 b9 dX5_lines_68 ?_
      refine r_aload_n 0 dX5_lines_69 rfl rfl ?_
      refine xg_5_30 rfl dX5_lines_70 ?_
      refine r_aload_n 0 dX5_lines_73 rfl rfl ?_
      refine xg_5_33 rfl dX5_lines_74 ?_
      refine KT5_Text_lines b8.2.2.2.1 rfl (Nat.le_of_ble_eq_true rfl) dX5_lines_77 (mIx h (fun r10 S11 h => ?_))
      refine r_ior dX5_lines_80 ?_
      refine r_istore_n [(1, .int (y1 ||| r10)), (0, .ref (q 5)), (2, .int (y2))] dX5_lines_81 rfl (Nat.le_of_ble_eq_true rfl) rfl ?_
      refine r_iinc 2 [(2, .int (y2 + (-1))), (1, .int (y1 ||| r10)), (0, .ref (q 5))] dX5_lines_82 rfl rfl (Nat.le_of_ble_eq_true rfl) rfl ?_
      refine r_goto (tgt := 20) dX5_lines_85 (by decide) ?_
      refine r_ls [2, 1, 0] (ls2 := [(0, .ref (q 5)), (1, .int (y1 ||| r10)), (2, .int (y2 + (-1)))]) rfl ?_
      exact h

abbrev T_Book_highestOf_18 (E : EvT) (q : Nat → Nat) (D : Nat) (P : Int32 → StX → Prop) (S : StX) (y1 : Int32) (y2 : Int32) (y3 : Int32) : Prop := RX E q iX_Book_highestOf D (qIx E q P) S [(0, .ref (q 5)), (1, .int (y1)), (2, .int (y2)), (3, .int (y3))] [] 18
set_option maxRecDepth 20000 in
theorem en_Book_highestOf {E : EvT} {q : Nat → Nat} {d : Nat} {x1 : Int32} {x2 : Int32} {S : StX} {P : Int32 → StX → Prop} (h : T_Book_highestOf_18 E q (d + 3) P (xA S 103 (fillF 20 0 (xa_Book_struck S))) x1 x2 ((nI (nTx S)) - 1)) : C_Book_highestOf E q (d + 3) x1 x2 S P := by
  refine Cn.of rfl (Nat.le_of_ble_eq_true rfl) (ls := [(0, .ref (q 5)), (1, .int (x1)), (2, .int (x2))]) rfl ?_
  refine r_aload_n 0 dX5_highestOf_0 rfl rfl ?_
  refine xg_5_25 rfl dX5_highestOf_1 ?_
  refine r_iconst_0 dX5_highestOf_4 ?_
  refine KP5_Jfill_103 (d := d + 2) rfl (Nat.le_of_ble_eq_true rfl) dX5_highestOf_5 ?_
  refine r_aload_n 0 dX5_highestOf_8 rfl rfl ?_
  refine xg_5_12 rfl dX5_highestOf_9 ?_
  refine KP5_Lsize (d := d + 2) rfl (Nat.le_of_ble_eq_true rfl) dX5_highestOf_12 ?_
  refine r_iconst_1 dX5_highestOf_15 ?_
  refine r_isub dX5_highestOf_16 ?_
  refine r_istore_n [(3, .int ((nI (nTx S)) - 1)), (0, .ref (q 5)), (1, .int (x1)), (2, .int (x2))] dX5_highestOf_17 rfl (Nat.le_of_ble_eq_true rfl) rfl ?_
  refine r_ls [1, 2, 3, 0] (ls2 := [(0, .ref (q 5)), (1, .int (x1)), (2, .int (x2)), (3, .int ((nI (nTx S)) - 1))]) rfl ?_
  exact h
set_option maxRecDepth 20000 in
theorem sg_Book_highestOf_18 {E : EvT} {q : Nat → Nat} {d : Nat} {S : StX} {P : Int32 → StX → Prop} {y1 : Int32} {y2 : Int32} {y3 : Int32} (h : (y3 < 0 → (P y2 S)) ∧ (¬ y3 < 0 → ((0 ≤ y3 ∧ y3 < 20) ∧ (((pForce S y3) = false → (T_Book_highestOf_18 E q (d + 3) P S y1 y2 (y3 + (-1)))) ∧ ((pForce S y3) = true → ((¬ capX S = 0 ∧ 0 ≤ y3 ∧ y3 < nI (nTx S) ∧ ix y3 < nTx S ∧ nTx S ≤ capX S) ∧ (C_Text_strikeIn E q (d + 2) (ix y3) y3 S (fun S6 => (¬ capX S6 = 0 ∧ 0 ≤ y3 ∧ y3 < nI (nTx S6) ∧ ix y3 < nTx S6 ∧ nTx S6 ≤ capX S6) ∧ ((0 ≤ y3 ∧ y3 < 20) ∧ (C_Text_lastOf E q (d + 2) (ix y3) y1 (xa_Book_struck S6 (ix y3)) S6 (fun r9 S10 => (r9 = (-1) → (T_Book_highestOf_18 E q (d + 3) P S10 y1 y2 (y3 + (-1)))) ∧ (¬ r9 = (-1) → (P r9 S10))))))))))))) : T_Book_highestOf_18 E q (d + 3) P S y1 y2 y3 := by
  refine r_iload_n 3 dX5_highestOf_18 rfl rfl ?_
  refine r_if_lt (tgt := 95) dX5_highestOf_19 (by decide) (fun c1 => ?_) (fun c1 => ?_)
  · have h := h.1 c1
    refine r_iload_n 2 dX5_highestOf_95 rfl rfl ?_
    exact r_iret dX5_highestOf_96 rfl (Nat.le_refl _) (Nat.le_refl _) ⟨_, _, rfl, rfl, h⟩
  · have h := h.2 c1
    refine r_aload_n 0 dX5_highestOf_22 rfl rfl ?_
    refine r_iload_n 3 dX5_highestOf_23 rfl rfl ?_
    obtain ⟨b2, h⟩ := h
    refine KP5_Book_isInForce (d := d + 2) b2 rfl (Nat.le_of_ble_eq_true rfl) dX5_highestOf_24 ?_
    refine r_if_eqb (tgt := 89) dX5_highestOf_27 (by decide) (fun c3 => ?_) (fun c3 => ?_)
    · have h := h.1 c3
      refine r_iinc 3 [(3, .int (y3 + (-1))), (0, .ref (q 5)), (1, .int (y1)), (2, .int (y2))] dX5_highestOf_89 rfl rfl (Nat.le_of_ble_eq_true rfl) rfl ?_
      refine r_goto (tgt := 18) dX5_highestOf_92 (by decide) ?_
      refine r_ls [1, 2, 3, 0] (ls2 := [(0, .ref (q 5)), (1, .int (y1)), (2, .int (y2)), (3, .int (y3 + (-1)))]) rfl ?_
      exact h
    · have h := h.2 c3
      refine r_aload_n 0 dX5_highestOf_30 rfl rfl ?_
      refine xg_5_12 rfl dX5_highestOf_31 ?_
      refine r_iload_n 3 dX5_highestOf_34 rfl rfl ?_
      obtain ⟨b4, h⟩ := h
      refine KP5_Lget (d := d + 0) b4 rfl (Nat.le_of_ble_eq_true rfl) dX5_highestOf_35 ?_
      refine xcast b4.2.2.2.1 rfl dX5_highestOf_38 ?_
      refine r_aload_n 0 dX5_highestOf_41 rfl rfl ?_
      refine xg_5_25 rfl dX5_highestOf_42 ?_
      refine r_iload_n 3 dX5_highestOf_45 rfl rfl ?_
      refine KT5_Text_strikeIn b4.2.2.2.1 rfl (Nat.le_of_ble_eq_true rfl) dX5_highestOf_46 (mVx h (fun S6 h => ?_))
      refine r_aload_n 0 dX5_highestOf_49 rfl rfl ?_
      refine xg_5_12 rfl dX5_highestOf_50 ?_
      refine r_iload_n 3 dX5_highestOf_53 rfl rfl ?_
      obtain ⟨b7, h⟩ := h
      refine KP5_Lget (d := d + 0) b7 rfl (Nat.le_of_ble_eq_true rfl) dX5_highestOf_54 ?_
      refine xcast b7.2.2.2.1 rfl dX5_highestOf_57 ?_
      refine r_iload_n 1 dX5_highestOf_60 rfl rfl ?_
      refine r_aload_n 0 dX5_highestOf_61 rfl rfl ?_
      refine xg_5_25 rfl dX5_highestOf_62 ?_
      refine r_iload_n 3 dX5_highestOf_65 rfl rfl ?_
      obtain ⟨b8, h⟩ := h
      refine xl_103 b8 dX5_highestOf_66 ?_
      refine r_aload_n 0 dX5_highestOf_67 rfl rfl ?_
      refine xg_5_30 rfl dX5_highestOf_68 ?_
      refine r_aload_n 0 dX5_highestOf_71 rfl rfl ?_
      refine xg_5_33 rfl dX5_highestOf_72 ?_
      refine KT5_Text_lastOf b7.2.2.2.1 rfl (Nat.le_of_ble_eq_true rfl) dX5_highestOf_75 (mIx h (fun r9 S10 h => ?_))
      refine r_istore [(4, .int (r9)), (0, .ref (q 5)), (1, .int (y1)), (2, .int (y2)), (3, .int (y3))] dX5_highestOf_78 (Nat.le_of_ble_eq_true rfl) rfl ?_
      refine r_iload 0 dX5_highestOf_80 rfl ?_
      refine r_iconst_m1 dX5_highestOf_82 ?_
      refine r_icmp_eq (tgt := 89) dX5_highestOf_83 (by decide) (fun c11 => ?_) (fun c11 => ?_)
      · have h := h.1 c11
        refine r_iinc 4 [(3, .int (y3 + (-1))), (4, .int (r9)), (0, .ref (q 5)), (1, .int (y1)), (2, .int (y2))] dX5_highestOf_89 rfl rfl (Nat.le_of_ble_eq_true rfl) rfl ?_
        refine r_goto (tgt := 18) dX5_highestOf_92 (by decide) ?_
        refine r_ls [2, 3, 4, 0] (ls2 := [(0, .ref (q 5)), (1, .int (y1)), (2, .int (y2)), (3, .int (y3 + (-1)))]) rfl ?_
        exact h
      · have h := h.2 c11
        refine r_iload 0 dX5_highestOf_86 rfl ?_
        exact r_iret dX5_highestOf_88 rfl (Nat.le_refl _) (Nat.le_refl _) ⟨_, _, rfl, rfl, h⟩
