/-! the world of the class: its fixed part, its texts; other addresses for what it does not name -/
def wP (E : EvT) (q : Nat → Nat) (S : StX) : va_W := [(q 0, .inr (1, fX0 q S)), (q 1, .inr (2, fX1 q S)), (q 2, .inr (3, fX2 q S)), (q 3, .inr (4, fX3 q S)), (q 4, .inr (5, fX4 q S)), (q 5, .inr (6, fX5 q S)), (q 6, .inr (7, fX6 q S)), (q 8, .inr (9, fX8 q S)), (q 9, .inr (10, fX9 q S)), (q 10, .inr (11, fX10 q S)), (q 11, .inr (12, fX11 q S)), (q 101, .inl (E.2.2.1 0, 8, .inl (S.2.1 1))), (q 102, .inl (E.2.2.1 0, 8, .inl (S.2.1 2))), (q 103, .inl (E.2.2.1 0, 8, .inl (S.2.1 3))), (q 104, .inl (E.2.2.1 0, 8, .inl (S.2.1 4))), (q 106, .inl (E.2.2.1 0, 40, .inl (S.2.1 6))), (q 107, .inl (E.2.2.1 0, 40, .inl (S.2.1 7))), (q 108, .inl (E.2.2.1 0, 100, .inl (S.2.1 8))), (q 110, .inl (E.2.2.1 0, 40, .inl (S.2.1 10))), (q 111, .inl (E.2.2.1 0, 40, .inl (S.2.1 11))), (q 113, .inl (E.2.2.1 0, 100, .inl (S.2.1 13))), (q 114, .inl (E.2.2.1 0, 100, .inl (S.2.1 14))), (q 122, .inl (E.2.2.1 0, 100, .inl (S.2.1 22))), (q 123, .inl (E.2.2.1 0, 100, .inl (S.2.1 23))), (q 124, .inl (E.2.2.1 0, 100, .inl (S.2.1 24))), (q 125, .inl (E.2.2.1 0, 100, .inl (S.2.1 25))), (q 126, .inl (E.2.2.1 0, 100, .inl (S.2.1 26))), (q 127, .inl (E.2.2.1 0, 100, .inl (S.2.1 27))), (q 128, .inl (E.2.2.1 0, 100, .inl (S.2.1 28))), (q 129, .inl (E.2.2.1 0, 100, .inl (S.2.1 29))), (q 130, .inl (E.2.2.1 0, 100, .inl (S.2.1 30))), (q 131, .inl (E.2.2.1 0, 100, .inl (S.2.1 31))), (q 132, .inl (E.2.2.1 0, 100, .inl (S.2.1 32))), (q 133, .inl (E.2.2.1 0, 100, .inl (S.2.1 33))), (q 144, .inl (E.2.2.1 0, 150, .inl (S.2.1 44))), (q 145, .inl (E.2.2.1 0, 150, .inl (S.2.1 45))), (q 146, .inl (E.2.2.1 0, 150, .inl (S.2.1 46))), (q 147, .inl (E.2.2.1 0, 150, .inl (S.2.1 47))), (q 148, .inl (E.2.2.1 0, 150, .inl (S.2.1 48))), (q 149, .inl (E.2.2.1 0, 150, .inl (S.2.1 49))), (q 150, .inl (E.2.2.1 0, 150, .inl (S.2.1 50))), (q 151, .inl (E.2.2.1 0, 150, .inl (S.2.1 51))), (q 152, .inl (E.2.2.1 0, 150, .inl (S.2.1 52))), (q 153, .inl (E.2.2.1 0, 20, .inl (S.2.1 53))), (q 154, .inl (E.2.2.1 0, 3, .inl (S.2.1 54))), (q 163, .inl (E.2.2.1 0, 60, .inl (S.2.1 63))), (q 164, .inl (E.2.2.1 0, 60, .inl (S.2.1 64))), (q 165, .inl (E.2.2.1 0, 60, .inl (S.2.1 65))), (q 166, .inl (E.2.2.1 2, 60, .inl (S.2.1 66))), (q 168, .inl (E.2.2.1 0, 100, .inl (S.2.1 68))), (q 169, .inl (E.2.2.1 0, 100, .inl (S.2.1 69))), (q 171, .inl (E.2.2.1 0, 8, .inl (S.2.1 71))), (q 172, .inl (E.2.2.1 3, 8, .inr (.inl (S.2.2.1 72)))), (q 173, .inl (E.2.2.1 3, 256, .inr (.inl (S.2.2.1 73)))), (q 174, .inl (E.2.2.1 0, 10, .inl (S.2.1 74))), (q 183, .inl (E.2.2.1 0, 30, .inl (S.2.1 83))), (q 184, .inl (E.2.2.1 0, 30, .inl (S.2.1 84))), (q 185, .inl (E.2.2.1 0, 30, .inl (S.2.1 85))), (q 187, .inl (E.2.2.1 0, 200, .inl (S.2.1 87))), (q 188, .inl (E.2.2.1 0, 200, .inl (S.2.1 88))), (q 189, .inl (E.2.2.1 0, 200, .inl (S.2.1 89))), (q 190, .inl (E.2.2.1 0, 200, .inl (S.2.1 90))), (q 201, .inl (E.2.2.1 0, 20, .inl (S.2.1 101))), (q 202, .inl (E.2.2.1 0, 20, .inl (S.2.1 102))), (q 203, .inl (E.2.2.1 0, 20, .inl (S.2.1 103))), (q 204, .inl (E.2.2.1 0, 5, .inl (S.2.1 104))), (q 205, .inl (E.2.2.1 0, 32, .inl (S.2.1 105))), (q 226, .inl (E.2.2.1 0, 10, .inl (S.2.1 126))), (q 227, .inl (E.2.2.1 0, 10, .inl (S.2.1 127))), (q 228, .inl (E.2.2.1 0, 10, .inl (S.2.1 128))), (q 229, .inl (E.2.2.1 0, 10, .inl (S.2.1 129))), (q 230, .inl (E.2.2.1 0, 160, .inl (S.2.1 130))), (q 263, .inl (E.2.2.1 0, 100, .inl (S.2.1 163))), (q 264, .inl (E.2.2.1 0, 100, .inl (S.2.1 164))), (q 265, .inl (E.2.2.1 0, 100, .inl (S.2.1 165))), (q 266, .inl (E.2.2.1 0, 100, .inl (S.2.1 166))), (q 267, .inl (E.2.2.1 0, 30, .inl (S.2.1 167))), (q 268, .inl (E.2.2.1 0, 30, .inl (S.2.1 168))), (q 280, .inl (E.2.2.1 1, 400, .inl (S.2.1 180))), (q 301, .inl (E.2.2.1 0, 30, .inl (S.2.1 201))), (q 303, .inl (E.2.2.1 0, 100, .inl (S.2.1 203))), (q 304, .inl (E.2.2.1 0, 100, .inl (S.2.1 204))), (q 305, .inl (E.2.2.1 0, 100, .inl (S.2.1 205))), (q 306, .inl (E.2.2.1 0, 100, .inl (S.2.1 206))), (q 308, .inl (E.2.2.1 0, 100, .inl (S.2.1 208))), (q 314, .inl (E.2.2.1 0, 9, .inl (S.2.1 214))), (q 315, .inl (E.2.2.1 0, 9, .inl (S.2.1 215))), (q 316, .inl (E.2.2.1 0, 9, .inl (S.2.1 216))), (q 317, .inl (E.2.2.1 0, 30, .inl (S.2.1 217))), (q 14, .inl (E.2.2.1 1, 0, .inl (fun _ => 0)))]
theorem wX_eq {E : EvT} {q : Nat → Nat} {S : StX} : wX E q S = wP E q S ++ dyX E q S.2.2.2.2 := rfl
theorem wP_len {E : EvT} {q : Nat → Nat} {S : StX} : (wP E q S).length = 90 := rfl
set_option maxRecDepth 20000 in
set_option maxHeartbeats 4000000 in
theorem wP_q {E : EvT} {q q2 : Nat → Nat} {S : StX} (h : ∀ i, i < 1000 → i ≠ 13 → q2 i = q i) (hr : rbX S < 1000 ∧ rbX S ≠ 13) : wP E q2 S = wP E q S := by
  have hrb : q2 S.2.2.2.1 = q S.2.2.2.1 := h _ hr.1 hr.2
  have h0 := h 0 (by decide) (by decide)
  have h1 := h 1 (by decide) (by decide)
  have h2 := h 2 (by decide) (by decide)
  have h3 := h 3 (by decide) (by decide)
  have h4 := h 4 (by decide) (by decide)
  have h5 := h 5 (by decide) (by decide)
  have h6 := h 6 (by decide) (by decide)
  have h8 := h 8 (by decide) (by decide)
  have h9 := h 9 (by decide) (by decide)
  have h10 := h 10 (by decide) (by decide)
  have h11 := h 11 (by decide) (by decide)
  have h12 := h 12 (by decide) (by decide)
  have h14 := h 14 (by decide) (by decide)
  have h101 := h 101 (by decide) (by decide)
  have h102 := h 102 (by decide) (by decide)
  have h103 := h 103 (by decide) (by decide)
  have h104 := h 104 (by decide) (by decide)
  have h106 := h 106 (by decide) (by decide)
  have h107 := h 107 (by decide) (by decide)
  have h108 := h 108 (by decide) (by decide)
  have h110 := h 110 (by decide) (by decide)
  have h111 := h 111 (by decide) (by decide)
  have h113 := h 113 (by decide) (by decide)
  have h114 := h 114 (by decide) (by decide)
  have h122 := h 122 (by decide) (by decide)
  have h123 := h 123 (by decide) (by decide)
  have h124 := h 124 (by decide) (by decide)
  have h125 := h 125 (by decide) (by decide)
  have h126 := h 126 (by decide) (by decide)
  have h127 := h 127 (by decide) (by decide)
  have h128 := h 128 (by decide) (by decide)
  have h129 := h 129 (by decide) (by decide)
  have h130 := h 130 (by decide) (by decide)
  have h131 := h 131 (by decide) (by decide)
  have h132 := h 132 (by decide) (by decide)
  have h133 := h 133 (by decide) (by decide)
  have h144 := h 144 (by decide) (by decide)
  have h145 := h 145 (by decide) (by decide)
  have h146 := h 146 (by decide) (by decide)
  have h147 := h 147 (by decide) (by decide)
  have h148 := h 148 (by decide) (by decide)
  have h149 := h 149 (by decide) (by decide)
  have h150 := h 150 (by decide) (by decide)
  have h151 := h 151 (by decide) (by decide)
  have h152 := h 152 (by decide) (by decide)
  have h153 := h 153 (by decide) (by decide)
  have h154 := h 154 (by decide) (by decide)
  have h163 := h 163 (by decide) (by decide)
  have h164 := h 164 (by decide) (by decide)
  have h165 := h 165 (by decide) (by decide)
  have h166 := h 166 (by decide) (by decide)
  have h168 := h 168 (by decide) (by decide)
  have h169 := h 169 (by decide) (by decide)
  have h171 := h 171 (by decide) (by decide)
  have h172 := h 172 (by decide) (by decide)
  have h173 := h 173 (by decide) (by decide)
  have h174 := h 174 (by decide) (by decide)
  have h183 := h 183 (by decide) (by decide)
  have h184 := h 184 (by decide) (by decide)
  have h185 := h 185 (by decide) (by decide)
  have h187 := h 187 (by decide) (by decide)
  have h188 := h 188 (by decide) (by decide)
  have h189 := h 189 (by decide) (by decide)
  have h190 := h 190 (by decide) (by decide)
  have h201 := h 201 (by decide) (by decide)
  have h202 := h 202 (by decide) (by decide)
  have h203 := h 203 (by decide) (by decide)
  have h204 := h 204 (by decide) (by decide)
  have h205 := h 205 (by decide) (by decide)
  have h226 := h 226 (by decide) (by decide)
  have h227 := h 227 (by decide) (by decide)
  have h228 := h 228 (by decide) (by decide)
  have h229 := h 229 (by decide) (by decide)
  have h230 := h 230 (by decide) (by decide)
  have h263 := h 263 (by decide) (by decide)
  have h264 := h 264 (by decide) (by decide)
  have h265 := h 265 (by decide) (by decide)
  have h266 := h 266 (by decide) (by decide)
  have h267 := h 267 (by decide) (by decide)
  have h268 := h 268 (by decide) (by decide)
  have h280 := h 280 (by decide) (by decide)
  have h301 := h 301 (by decide) (by decide)
  have h303 := h 303 (by decide) (by decide)
  have h304 := h 304 (by decide) (by decide)
  have h305 := h 305 (by decide) (by decide)
  have h306 := h 306 (by decide) (by decide)
  have h308 := h 308 (by decide) (by decide)
  have h314 := h 314 (by decide) (by decide)
  have h315 := h 315 (by decide) (by decide)
  have h316 := h 316 (by decide) (by decide)
  have h317 := h 317 (by decide) (by decide)
  simp only [wP, fX0, fX1, fX2, fX3, fX4, fX5, fX6, fX8, fX9, fX10, fX11, hrb, h0, h1, h2, h3, h4, h5, h6, h8, h9, h10, h11, h12, h14, h101, h102, h103, h104, h106, h107, h108, h110, h111, h113, h114, h122, h123, h124, h125, h126, h127, h128, h129, h130, h131, h132, h133, h144, h145, h146, h147, h148, h149, h150, h151, h152, h153, h154, h163, h164, h165, h166, h168, h169, h171, h172, h173, h174, h183, h184, h185, h187, h188, h189, h190, h201, h202, h203, h204, h205, h226, h227, h228, h229, h230, h263, h264, h265, h266, h267, h268, h280, h301, h303, h304, h305, h306, h308, h314, h315, h316, h317]
theorem txC_q {E : EvT} {q q2 : Nat → Nat} {k : Nat} {t : TxT} (h : ∀ i, 1000 + 10 * k ≤ i → i < 1000 + 10 * k + 10 → q2 i = q i) : txC E q2 k t = txC E q k t := by
  simp only [txC, h (1000 + 10 * k) (by omega) (by omega), h (1001 + 10 * k) (by omega) (by omega), h (1002 + 10 * k) (by omega) (by omega), h (1003 + 10 * k) (by omega) (by omega), h (1004 + 10 * k) (by omega) (by omega), h (1005 + 10 * k) (by omega) (by omega)]
theorem txW_q {E : EvT} {q q2 : Nat → Nat} : ∀ (l : List TxT) (k : Nat), (∀ i, 1000 + 10 * k ≤ i → i < 1000 + 10 * (k + l.length) → q2 i = q i) → txW E q2 k l = txW E q k l
  | [], _, _ => rfl
  | t :: l, k, h => by
    show txC E q2 k t ++ txW E q2 (k + 1) l = txC E q k t ++ txW E q (k + 1) l
    rw [txC_q (fun i h1 h2 => h i h1 (by simp only [List.length_cons]; omega)), txW_q l (k + 1) (fun i h1 h2 => h i (by omega) (by simp only [List.length_cons]; omega))]
theorem txW_app {E : EvT} {q : Nat → Nat} : ∀ (l : List TxT) (k : Nat) (t : TxT), txW E q k (l ++ [t]) = txW E q k l ++ txC E q (k + l.length) t
  | [], k, t => by show txC E q k t ++ [] = _; rw [List.append_nil]; rfl
  | x :: l, k, t => by
    show txC E q k x ++ txW E q (k + 1) (l ++ [t]) = (txC E q k x ++ txW E q (k + 1) l) ++ _
    rw [txW_app l (k + 1) t, List.append_assoc, List.length_cons, show k + 1 + l.length = k + (l.length + 1) by omega]
theorem txW_in {E : EvT} {q : Nat → Nat} : ∀ (l : List TxT) (k i : Nat), i < l.length → ∃ (j : Nat) (vs : List Value), (txW E q k l)[j]? = some (q (1000 + 10 * (k + i)), .inr (8, vs))
  | [], _, _, h => absurd h (Nat.not_lt_zero _)
  | t :: l, k, 0, _ => ⟨0, _, rfl⟩
  | t :: l, k, i + 1, h => by
    obtain ⟨j, vs, hj⟩ := txW_in l (k + 1) i (Nat.lt_of_succ_lt_succ h)
    refine ⟨6 + j, vs, ?_⟩
    show (txC E q k t ++ txW E q (k + 1) l)[6 + j]? = _
    rw [List.getElem?_append_right (by show 6 ≤ 6 + j; omega)]
    show (txW E q (k + 1) l)[6 + j - 6]? = _
    rw [show 6 + j - 6 = j by omega, hj, show k + 1 + i = k + (i + 1) by omega]
def xDy (S : StX) (D : DyT) : StX := (S.1, S.2.1, S.2.2.1, S.2.2.2.1, D)
/-- the text's own address and rows at the place n of the book -/
def qT (q : Nat → Nat) (n t c1 c2 c3 c4 c5 : Nat) (i : Nat) : Nat := if i = 1000 + 10 * n then t else if i = 1001 + 10 * n then c1 else if i = 1002 + 10 * n then c2 else if i = 1003 + 10 * n then c3 else if i = 1004 + 10 * n then c4 else if i = 1005 + 10 * n then c5 else q i
theorem qT_lo {q : Nat → Nat} {n t c1 c2 c3 c4 c5 i : Nat} (h : i < 1000 + 10 * n) : qT q n t c1 c2 c3 c4 c5 i = q i := by
  unfold qT
  rw [if_neg (by omega), if_neg (by omega), if_neg (by omega), if_neg (by omega), if_neg (by omega), if_neg (by omega)]
theorem qT_0 {q : Nat → Nat} {n t c1 c2 c3 c4 c5 : Nat} : qT q n t c1 c2 c3 c4 c5 (1000 + 10 * n) = t := by unfold qT; rw [if_pos rfl]
theorem qT_1 {q : Nat → Nat} {n t c1 c2 c3 c4 c5 : Nat} : qT q n t c1 c2 c3 c4 c5 (1001 + 10 * n) = c1 := by unfold qT; rw [if_neg (by omega), if_pos rfl]
theorem qT_2 {q : Nat → Nat} {n t c1 c2 c3 c4 c5 : Nat} : qT q n t c1 c2 c3 c4 c5 (1002 + 10 * n) = c2 := by unfold qT; rw [if_neg (by omega), if_neg (by omega), if_pos rfl]
theorem qT_3 {q : Nat → Nat} {n t c1 c2 c3 c4 c5 : Nat} : qT q n t c1 c2 c3 c4 c5 (1003 + 10 * n) = c3 := by unfold qT; rw [if_neg (by omega), if_neg (by omega), if_neg (by omega), if_pos rfl]
theorem qT_4 {q : Nat → Nat} {n t c1 c2 c3 c4 c5 : Nat} : qT q n t c1 c2 c3 c4 c5 (1004 + 10 * n) = c4 := by unfold qT; rw [if_neg (by omega), if_neg (by omega), if_neg (by omega), if_neg (by omega), if_pos rfl]
theorem qT_5 {q : Nat → Nat} {n t c1 c2 c3 c4 c5 : Nat} : qT q n t c1 c2 c3 c4 c5 (1005 + 10 * n) = c5 := by unfold qT; rw [if_neg (by omega), if_neg (by omega), if_neg (by omega), if_neg (by omega), if_neg (by omega), if_pos rfl]
theorem dyX_q {E : EvT} {q q2 : Nat → Nat} {D : DyT} (h : ∀ i, i < 1000 + 10 * D.2.2.length → q2 i = q i) : dyX E q2 D = dyX E q D := by
  have hf : (fun k => if k < D.2.2.length then some (q2 (1000 + 10 * k)) else none) = (fun k => if k < D.2.2.length then some (q (1000 + 10 * k)) else none) := by
    funext k
    by_cases hk : k < D.2.2.length
    · rw [if_pos hk, if_pos hk, h _ (by omega)]
    · rw [if_neg hk, if_neg hk]
  unfold dyX
  rw [hf, h 12 (by omega), h 13 (by omega), h 15 (by omega), txW_q D.2.2 0 (fun i _ h2 => h i (by omega))]
theorem wX_q {E : EvT} {q q2 : Nat → Nat} {S : StX} (h : ∀ i, i < 1000 + 10 * nTx S → q2 i = q i) (hr : rbX S < 1000 ∧ rbX S ≠ 13) : wX E q2 S = wX E q S := by
  rw [wX_eq, wX_eq, wP_q (fun i h1 _ => h i (by omega)) hr, dyX_q h]
