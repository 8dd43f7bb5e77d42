
def mIn (x lo hi : Int32) : Bool := decide (lo ≤ x ∧ x ≤ hi)
def mWeek (w : Int32) : Bool := decide (0 ≤ w ∧ w ≤ 9999)
def mCell (S : StM) (c : Int32) : Bool := decide (0 ≤ c ∧ c < s_wide S * s_high S)
def mLayer (l : Int32) : Bool := decide (0 ≤ l ∧ l < 8)
def rmd (x y : Int32) : Int32 := x - x / y * y
def mRect (S : StM) (a b : Int32) : Bool := mCell S a && mCell S b && decide (rmd a (s_wide S) ≤ rmd b (s_wide S)) && decide (a / s_wide S ≤ b / s_wide S)
def mIsIn (S : StM) (c a b : Int32) : Bool := mIn (rmd c (s_wide S)) (rmd a (s_wide S)) (rmd b (s_wide S)) && mIn (c / s_wide S) (a / s_wide S) (b / s_wide S)
def mPlace (S : StM) (p : Int32) : Bool := decide (0 ≤ p ∧ p < s_places S)
def mDig (S : StM) (i : Int32) : Bool := decide (0 ≤ i ∧ i < s_digs S)
def mKnown (S : StM) (i t : Int32) : Bool := decide (a_digTold S (ix i) ≤ t) && (decide (a_digStruck S (ix i) = -1) || decide (t < a_digStruck S (ix i)))
def mHas (S : StM) (i c l : Int32) : Bool := mIsIn S c (a_digA S (ix i)) (a_digB S (ix i)) && mIn l (a_digTop S (ix i)) (a_digBottom S (ix i))
def mGround (S : StM) (c l w t : Int32) : Bool := mCell S c && mLayer l && mWeek w && mWeek t
def mForce (S : StM) (i w : Int32) : Bool := mIn w (a_ruleFrom S (ix i)) (a_ruleTo S (ix i))
def mFind (S : StM) (i : Int32) : Bool := decide (0 ≤ i ∧ i < s_finds S)
def mThing (S : StM) (i : Int32) : Bool := decide (0 ≤ i ∧ i < s_things S)
def mWall (S : StM) (i : Int32) : Bool := decide (0 ≤ i ∧ i < s_walls S)
def mShows (S : StM) (k f : Int32) : Bool := decide ((a_drawFeatures S (ix (a_lookOf S (ix k))) >>> (f &&& 31)) &&& 1 = 1)
def mBorder (S : StM) (c : Int32) : Bool := decide (rmd c (s_wide S) = 0) || decide (rmd c (s_wide S) = s_wide S - 1) || decide (c / s_wide S = 0) || decide (c / s_wide S = s_high S - 1)
def mBeside (S : StM) (a b : Int32) : Bool := mIn (rmd a (s_wide S) - rmd b (s_wide S)) (-1) 1 && mIn (a / s_wide S - b / s_wide S) (-1) 1
def mReck (op x y : Int32) : Int32 := if op = 2 then x + y else if op = 3 then x - y else if op = 4 then x * y else if op = 5 then x / y else if op = 6 then rmd x y else if op = 7 then (if x < y then 1 else 0) else if op = 8 then (if y < x then 1 else 0) else (if x = y then 1 else 0)
def mFact (c : Int32) : Int32 := if c = 119 then 0 else if c = 104 then 1 else if c = 107 then 2 else if c = 109 then 3 else if c = 112 then 4 else -1
def mSumSign (c : Int32) : Int32 := if c = 43 then 2 else if c = 45 then 3 else if c = 42 then 4 else if c = 47 then 5 else if c = 37 then 6 else -1
def mLetter (c : Int32) : Bool := decide (c = 110 ∨ c = 97 ∨ c = 118 ∨ c = 102 ∨ c = 120)
def mMost (c : Int32) : Int32 := if c = 110 then 3 else if c = 97 then 8 else if c = 118 then 99 else if c = 102 then 7 else 19
def mByte (S : StM) : Int32 := if s_place0 S < s_length0 S then a_tape S (ix (s_place0 S)) &&& 255 else -1
def mDigit (S : StM) : Bool := decide (48 ≤ mByte S ∧ mByte S ≤ 57)
def mTop (S : StM) : Int32 := if s_waiting S = 0 then -1 else a_waits S (ix (s_waiting S - 1)) / 1048576
def mSays (S : StM) (op v : Int32) : StM := sI (sA S 37 (upd (a_said S) (ix (s_codeMany S)) (1048576 * op + v))) 34 (s_codeMany S + 1)

set_option maxRecDepth 20000 in
theorem en_in {E : EvT} {q : Nat → Nat} {d : Nat} {x0 : Int32} {x1 : Int32} {x2 : Int32} {S : StM} {P : Bool → StM → Prop} (h : (x0 < x1 → (P false S)) ∧ (¬ x0 < x1 → ((x2 < x0 → (P false S)) ∧ (¬ x2 < x0 → (P true S))))) : C_in E q d x0 x1 x2 S P := by
  refine Cn.of rfl (Nat.le_of_ble_eq_true rfl) (ls := [(0, .int (x0)), (1, .int (x1)), (2, .int (x2))]) rfl ?_
  refine r_iload_n 0 dX12_in_0 rfl rfl ?_
  refine r_iload_n 1 dX12_in_1 rfl rfl ?_
  refine r_icmp_lt (tgt := 14) dX12_in_2 (by decide) (fun c1 => ?_) (fun c1 => ?_)
  · have h := h.1 c1
    refine r_iconst_0 dX12_in_14 ?_
    exact r_zret0 dX12_in_15 rfl (Nat.le_refl _) (Nat.le_refl _) ⟨_, _, rfl, rfl, h⟩
  · have h := h.2 c1
    refine r_iload_n 0 dX12_in_5 rfl rfl ?_
    refine r_iload_n 2 dX12_in_6 rfl rfl ?_
    refine r_icmp_gt (tgt := 14) dX12_in_7 (by decide) (fun c2 => ?_) (fun c2 => ?_)
    · have h := h.1 c2
      refine r_iconst_0 dX12_in_14 ?_
      exact r_zret0 dX12_in_15 rfl (Nat.le_refl _) (Nat.le_refl _) ⟨_, _, rfl, rfl, h⟩
    · have h := h.2 c2
      refine r_iconst_1 dX12_in_10 ?_
      refine r_goto (tgt := 15) dX12_in_11 (by decide) ?_
      exact r_zret1 dX12_in_15 rfl (Nat.le_refl _) (Nat.le_refl _) ⟨_, _, rfl, rfl, h⟩

theorem ct_in {E : EvT} {q : Nat → Nat} {d : Nat} {S : StM} {x0 x1 x2 : Int32} : C_in E q d x0 x1 x2 S (fun r S1 => r = mIn x0 x1 x2 ∧ S1 = S) := by
  refine en_in ?_
  grind [mIn]

theorem KP_in {E : EvT} {q : Nat → Nat} {I : MI} {d : Nat} {Qw : Option Value → va_W → Prop} {S : StM} {ls : List (Nat × Value)} {st : List Value} {pc : Nat} {x0 x1 x2 : Int32} (hI : I.1.cls = RX12) (hW : (st.map fun v => v.category).sum ≤ 8) (hd : decode I.2.1 pc = .ok (.invokestatic 278, 3)) (kk : RM E q I (d + 1) Qw (S) ls (.int (b2i (mIn x0 x1 x2)) :: st) (pc + 3)) : RM E q I (d + 1) Qw S ls (.int x2 :: .int x1 :: .int x0 :: st) pc := K_in hI hW hd (mB (ct_in (E := E) (q := q) (d := d)) (fun r S1 hs => by obtain ⟨hr, hs⟩ := hs; subst hr; subst hs; exact kk))

set_option maxRecDepth 20000 in
theorem en_isWeek {E : EvT} {q : Nat → Nat} {d : Nat} {x0 : Int32} {S : StM} {P : Bool → StM → Prop} (h : (x0 < 0 → (P false S)) ∧ (¬ x0 < 0 → ((9999 < x0 → (P false S)) ∧ (¬ 9999 < x0 → (P true S))))) : C_isWeek E q d x0 S P := by
  refine Cn.of rfl (Nat.le_of_ble_eq_true rfl) (ls := [(0, .int (x0))]) rfl ?_
  refine r_iload_n 0 dX12_isWeek_0 rfl rfl ?_
  refine r_if_lt (tgt := 15) dX12_isWeek_1 (by decide) (fun c1 => ?_) (fun c1 => ?_)
  · have h := h.1 c1
    refine r_iconst_0 dX12_isWeek_15 ?_
    exact r_zret0 dX12_isWeek_16 rfl (Nat.le_refl _) (Nat.le_refl _) ⟨_, _, rfl, rfl, h⟩
  · have h := h.2 c1
    refine r_iload_n 0 dX12_isWeek_4 rfl rfl ?_
    refine r_sipush_9999 dX12_isWeek_5 ?_
    refine r_icmp_gt (tgt := 15) dX12_isWeek_8 (by decide) (fun c2 => ?_) (fun c2 => ?_)
    · have h := h.1 c2
      refine r_iconst_0 dX12_isWeek_15 ?_
      exact r_zret0 dX12_isWeek_16 rfl (Nat.le_refl _) (Nat.le_refl _) ⟨_, _, rfl, rfl, h⟩
    · have h := h.2 c2
      refine r_iconst_1 dX12_isWeek_11 ?_
      refine r_goto (tgt := 16) dX12_isWeek_12 (by decide) ?_
      exact r_zret1 dX12_isWeek_16 rfl (Nat.le_refl _) (Nat.le_refl _) ⟨_, _, rfl, rfl, h⟩

theorem ct_isWeek {E : EvT} {q : Nat → Nat} {d : Nat} {S : StM} {x0 : Int32} : C_isWeek E q d x0 S (fun r S1 => r = mWeek x0 ∧ S1 = S) := by
  refine en_isWeek ?_
  grind [mWeek]

theorem KP_isWeek {E : EvT} {q : Nat → Nat} {I : MI} {d : Nat} {Qw : Option Value → va_W → Prop} {S : StM} {ls : List (Nat × Value)} {st : List Value} {pc : Nat} {x0 : Int32} (hI : I.1.cls = RX12) (hW : (st.map fun v => v.category).sum ≤ 8) (hd : decode I.2.1 pc = .ok (.invokestatic 320, 3)) (kk : RM E q I (d + 1) Qw (S) ls (.int (b2i (mWeek x0)) :: st) (pc + 3)) : RM E q I (d + 1) Qw S ls (.int x0 :: st) pc := K_isWeek hI hW hd (mB (ct_isWeek (E := E) (q := q) (d := d)) (fun r S1 hs => by obtain ⟨hr, hs⟩ := hs; subst hr; subst hs; exact kk))

set_option maxRecDepth 20000 in
theorem en_isCell {E : EvT} {q : Nat → Nat} {d : Nat} {x1 : Int32} {S : StM} {P : Bool → StM → Prop} (h : (x1 < 0 → (P false S)) ∧ (¬ x1 < 0 → ((((s_wide S) * (s_high S)) ≤ x1 → (P false S)) ∧ (¬ ((s_wide S) * (s_high S)) ≤ x1 → (P true S))))) : C_isCell E q d x1 S P := by
  refine Cn.of rfl (Nat.le_of_ble_eq_true rfl) (ls := [(0, .ref (q 0)), (1, .int (x1))]) rfl ?_
  refine r_iload_n 1 dX12_isCell_0 rfl rfl ?_
  refine r_if_lt (tgt := 21) dX12_isCell_1 (by decide) (fun c1 => ?_) (fun c1 => ?_)
  · have h := h.1 c1
    refine r_iconst_0 dX12_isCell_21 ?_
    exact r_zret0 dX12_isCell_22 rfl (Nat.le_refl _) (Nat.le_refl _) ⟨_, _, rfl, rfl, h⟩
  · have h := h.2 c1
    refine r_iload_n 1 dX12_isCell_4 rfl rfl ?_
    refine r_aload_n 0 dX12_isCell_5 rfl rfl ?_
    refine mg_0 rfl dX12_isCell_6 ?_
    refine r_aload_n 0 dX12_isCell_9 rfl rfl ?_
    refine mg_1 rfl dX12_isCell_10 ?_
    refine r_imul dX12_isCell_13 ?_
    refine r_icmp_ge (tgt := 21) dX12_isCell_14 (by decide) (fun c2 => ?_) (fun c2 => ?_)
    · have h := h.1 c2
      refine r_iconst_0 dX12_isCell_21 ?_
      exact r_zret0 dX12_isCell_22 rfl (Nat.le_refl _) (Nat.le_refl _) ⟨_, _, rfl, rfl, h⟩
    · have h := h.2 c2
      refine r_iconst_1 dX12_isCell_17 ?_
      refine r_goto (tgt := 22) dX12_isCell_18 (by decide) ?_
      exact r_zret1 dX12_isCell_22 rfl (Nat.le_refl _) (Nat.le_refl _) ⟨_, _, rfl, rfl, h⟩

theorem ct_isCell {E : EvT} {q : Nat → Nat} {d : Nat} {S : StM} {x1 : Int32} : C_isCell E q d x1 S (fun r S1 => r = mCell S x1 ∧ S1 = S) := by
  refine en_isCell ?_
  grind [mCell]

theorem KP_isCell {E : EvT} {q : Nat → Nat} {I : MI} {d : Nat} {Qw : Option Value → va_W → Prop} {S : StM} {ls : List (Nat × Value)} {st : List Value} {pc : Nat} {x1 : Int32} (hI : I.1.cls = RX12) (hW : (st.map fun v => v.category).sum ≤ 8) (hd : decode I.2.1 pc = .ok (.invokevirtual 294, 3)) (kk : RM E q I (d + 1) Qw (S) ls (.int (b2i (mCell S x1)) :: st) (pc + 3)) : RM E q I (d + 1) Qw S ls (.int x1 :: .ref (q 0) :: st) pc := K_isCell hI hW hd (mB (ct_isCell (E := E) (q := q) (d := d)) (fun r S1 hs => by obtain ⟨hr, hs⟩ := hs; subst hr; subst hs; exact kk))

set_option maxRecDepth 20000 in
theorem en_isLayer {E : EvT} {q : Nat → Nat} {d : Nat} {x0 : Int32} {S : StM} {P : Bool → StM → Prop} (h : (x0 < 0 → (P false S)) ∧ (¬ x0 < 0 → ((8 ≤ x0 → (P false S)) ∧ (¬ 8 ≤ x0 → (P true S))))) : C_isLayer E q d x0 S P := by
  refine Cn.of rfl (Nat.le_of_ble_eq_true rfl) (ls := [(0, .int (x0))]) rfl ?_
  refine r_iload_n 0 dX12_isLayer_0 rfl rfl ?_
  refine r_if_lt (tgt := 14) dX12_isLayer_1 (by decide) (fun c1 => ?_) (fun c1 => ?_)
  · have h := h.1 c1
    refine r_iconst_0 dX12_isLayer_14 ?_
    exact r_zret0 dX12_isLayer_15 rfl (Nat.le_refl _) (Nat.le_refl _) ⟨_, _, rfl, rfl, h⟩
  · have h := h.2 c1
    refine r_iload_n 0 dX12_isLayer_4 rfl rfl ?_
    refine r_bipush_8 dX12_isLayer_5 ?_
    refine r_icmp_ge (tgt := 14) dX12_isLayer_7 (by decide) (fun c2 => ?_) (fun c2 => ?_)
    · have h := h.1 c2
      refine r_iconst_0 dX12_isLayer_14 ?_
      exact r_zret0 dX12_isLayer_15 rfl (Nat.le_refl _) (Nat.le_refl _) ⟨_, _, rfl, rfl, h⟩
    · have h := h.2 c2
      refine r_iconst_1 dX12_isLayer_10 ?_
      refine r_goto (tgt := 15) dX12_isLayer_11 (by decide) ?_
      exact r_zret1 dX12_isLayer_15 rfl (Nat.le_refl _) (Nat.le_refl _) ⟨_, _, rfl, rfl, h⟩

theorem ct_isLayer {E : EvT} {q : Nat → Nat} {d : Nat} {S : StM} {x0 : Int32} : C_isLayer E q d x0 S (fun r S1 => r = mLayer x0 ∧ S1 = S) := by
  refine en_isLayer ?_
  grind [mLayer]

theorem KP_isLayer {E : EvT} {q : Nat → Nat} {I : MI} {d : Nat} {Qw : Option Value → va_W → Prop} {S : StM} {ls : List (Nat × Value)} {st : List Value} {pc : Nat} {x0 : Int32} (hI : I.1.cls = RX12) (hW : (st.map fun v => v.category).sum ≤ 8) (hd : decode I.2.1 pc = .ok (.invokestatic 305, 3)) (kk : RM E q I (d + 1) Qw (S) ls (.int (b2i (mLayer x0)) :: st) (pc + 3)) : RM E q I (d + 1) Qw S ls (.int x0 :: st) pc := K_isLayer hI hW hd (mB (ct_isLayer (E := E) (q := q) (d := d)) (fun r S1 hs => by obtain ⟨hr, hs⟩ := hs; subst hr; subst hs; exact kk))

set_option maxRecDepth 20000 in
theorem en_isRectangle {E : EvT} {q : Nat → Nat} {d : Nat} {x1 : Int32} {x2 : Int32} {S : StM} {P : Bool → StM → Prop} (h : ((mCell S x1) = false → (P false S)) ∧ ((mCell S x1) = true → (((mCell S x2) = false → (P false S)) ∧ ((mCell S x2) = true → (¬ (s_wide S) = 0 ∧ (((x2 - x2 / (s_wide S) * (s_wide S)) < (x1 - x1 / (s_wide S) * (s_wide S)) → (P false S)) ∧ (¬ (x2 - x2 / (s_wide S) * (s_wide S)) < (x1 - x1 / (s_wide S) * (s_wide S)) → (((x2 / (s_wide S)) < (x1 / (s_wide S)) → (P false S)) ∧ (¬ (x2 / (s_wide S)) < (x1 / (s_wide S)) → (P true S)))))))))) : C_isRectangle E q (d + 1) x1 x2 S P := by
  refine Cn.of rfl (Nat.le_of_ble_eq_true rfl) (ls := [(0, .ref (q 0)), (1, .int (x1)), (2, .int (x2))]) rfl ?_
  refine r_aload_n 0 dX12_isRectangle_0 rfl rfl ?_
  refine r_iload_n 1 dX12_isRectangle_1 rfl rfl ?_
  refine KP_isCell (d := d + 0)  rfl (Nat.le_of_ble_eq_true rfl) dX12_isRectangle_2 ?_
  refine r_if_eqb (tgt := 50) dX12_isRectangle_5 (by decide) (fun c1 => ?_) (fun c1 => ?_)
  · have h := h.1 c1
    refine r_iconst_0 dX12_isRectangle_50 ?_
    exact r_zret0 dX12_isRectangle_51 rfl (Nat.le_refl _) (Nat.le_refl _) ⟨_, _, rfl, rfl, h⟩
  · have h := h.2 c1
    refine r_aload_n 0 dX12_isRectangle_8 rfl rfl ?_
    refine r_iload_n 2 dX12_isRectangle_9 rfl rfl ?_
    refine KP_isCell (d := d + 0)  rfl (Nat.le_of_ble_eq_true rfl) dX12_isRectangle_10 ?_
    refine r_if_eqb (tgt := 50) dX12_isRectangle_13 (by decide) (fun c2 => ?_) (fun c2 => ?_)
    · have h := h.1 c2
      refine r_iconst_0 dX12_isRectangle_50 ?_
      exact r_zret0 dX12_isRectangle_51 rfl (Nat.le_refl _) (Nat.le_refl _) ⟨_, _, rfl, rfl, h⟩
    · have h := h.2 c2
      refine r_iload_n 1 dX12_isRectangle_16 rfl rfl ?_
      refine r_aload_n 0 dX12_isRectangle_17 rfl rfl ?_
      refine mg_0 rfl dX12_isRectangle_18 ?_
      obtain ⟨b3, h⟩ := h
      refine r_irem dX12_isRectangle_21 b3 ?_
      refine r_iload_n 2 dX12_isRectangle_22 rfl rfl ?_
      refine r_aload_n 0 dX12_isRectangle_23 rfl rfl ?_
      refine mg_0 rfl dX12_isRectangle_24 ?_
      refine r_irem dX12_isRectangle_27 b3 ?_
      refine r_icmp_gt (tgt := 50) dX12_isRectangle_28 (by decide) (fun c4 => ?_) (fun c4 => ?_)
      · have h := h.1 c4
        refine r_iconst_0 dX12_isRectangle_50 ?_
        exact r_zret0 dX12_isRectangle_51 rfl (Nat.le_refl _) (Nat.le_refl _) ⟨_, _, rfl, rfl, h⟩
      · have h := h.2 c4
        refine r_iload_n 1 dX12_isRectangle_31 rfl rfl ?_
        refine r_aload_n 0 dX12_isRectangle_32 rfl rfl ?_
        refine mg_0 rfl dX12_isRectangle_33 ?_
        refine r_idiv dX12_isRectangle_36 b3 ?_
        refine r_iload_n 2 dX12_isRectangle_37 rfl rfl ?_
        refine r_aload_n 0 dX12_isRectangle_38 rfl rfl ?_
        refine mg_0 rfl dX12_isRectangle_39 ?_
        refine r_idiv dX12_isRectangle_42 b3 ?_
        refine r_icmp_gt (tgt := 50) dX12_isRectangle_43 (by decide) (fun c5 => ?_) (fun c5 => ?_)
        · have h := h.1 c5
          refine r_iconst_0 dX12_isRectangle_50 ?_
          exact r_zret0 dX12_isRectangle_51 rfl (Nat.le_refl _) (Nat.le_refl _) ⟨_, _, rfl, rfl, h⟩
        · have h := h.2 c5
          refine r_iconst_1 dX12_isRectangle_46 ?_
          refine r_goto (tgt := 51) dX12_isRectangle_47 (by decide) ?_
          exact r_zret1 dX12_isRectangle_51 rfl (Nat.le_refl _) (Nat.le_refl _) ⟨_, _, rfl, rfl, h⟩

theorem ct_isRectangle {E : EvT} {q : Nat → Nat} {d : Nat} {S : StM} {x1 x2 : Int32} (hp : ¬ s_wide S = 0) : C_isRectangle E q (d + 1) x1 x2 S (fun r S1 => r = mRect S x1 x2 ∧ S1 = S) := by
  refine en_isRectangle ?_
  grind [mRect, rmd]

theorem KP_isRectangle {E : EvT} {q : Nat → Nat} {I : MI} {d : Nat} {Qw : Option Value → va_W → Prop} {S : StM} {ls : List (Nat × Value)} {st : List Value} {pc : Nat} {x1 x2 : Int32} (hp : ¬ s_wide S = 0) (hI : I.1.cls = RX12) (hW : (st.map fun v => v.category).sum ≤ 8) (hd : decode I.2.1 pc = .ok (.invokevirtual 298, 3)) (kk : RM E q I (d + 2) Qw (S) ls (.int (b2i (mRect S x1 x2)) :: st) (pc + 3)) : RM E q I (d + 2) Qw S ls (.int x2 :: .int x1 :: .ref (q 0) :: st) pc := K_isRectangle hI hW hd (mB (ct_isRectangle (E := E) (q := q) (d := d) hp) (fun r S1 hs => by obtain ⟨hr, hs⟩ := hs; subst hr; subst hs; exact kk))

set_option maxRecDepth 20000 in
theorem en_isIn {E : EvT} {q : Nat → Nat} {d : Nat} {x1 : Int32} {x2 : Int32} {x3 : Int32} {S : StM} {P : Bool → StM → Prop} (h : ¬ (s_wide S) = 0 ∧ (((mIn (x1 - x1 / (s_wide S) * (s_wide S)) (x2 - x2 / (s_wide S) * (s_wide S)) (x3 - x3 / (s_wide S) * (s_wide S))) = false → (P false S)) ∧ ((mIn (x1 - x1 / (s_wide S) * (s_wide S)) (x2 - x2 / (s_wide S) * (s_wide S)) (x3 - x3 / (s_wide S) * (s_wide S))) = true → (((mIn (x1 / (s_wide S)) (x2 / (s_wide S)) (x3 / (s_wide S))) = false → (P false S)) ∧ ((mIn (x1 / (s_wide S)) (x2 / (s_wide S)) (x3 / (s_wide S))) = true → (P true S)))))) : C_isIn E q (d + 1) x1 x2 x3 S P := by
  refine Cn.of rfl (Nat.le_of_ble_eq_true rfl) (ls := [(0, .ref (q 0)), (1, .int (x1)), (2, .int (x2)), (3, .int (x3))]) rfl ?_
  refine r_iload_n 1 dX12_isIn_0 rfl rfl ?_
  refine r_aload_n 0 dX12_isIn_1 rfl rfl ?_
  refine mg_0 rfl dX12_isIn_2 ?_
  obtain ⟨b1, h⟩ := h
  refine r_irem dX12_isIn_5 b1 ?_
  refine r_iload_n 2 dX12_isIn_6 rfl rfl ?_
  refine r_aload_n 0 dX12_isIn_7 rfl rfl ?_
  refine mg_0 rfl dX12_isIn_8 ?_
  refine r_irem dX12_isIn_11 b1 ?_
  refine r_iload_n 3 dX12_isIn_12 rfl rfl ?_
  refine r_aload_n 0 dX12_isIn_13 rfl rfl ?_
  refine mg_0 rfl dX12_isIn_14 ?_
  refine r_irem dX12_isIn_17 b1 ?_
  refine KP_in (d := d + 0)  rfl (Nat.le_of_ble_eq_true rfl) dX12_isIn_18 ?_
  refine r_if_eqb (tgt := 52) dX12_isIn_21 (by decide) (fun c2 => ?_) (fun c2 => ?_)
  · have h := h.1 c2
    refine r_iconst_0 dX12_isIn_52 ?_
    exact r_zret0 dX12_isIn_53 rfl (Nat.le_refl _) (Nat.le_refl _) ⟨_, _, rfl, rfl, h⟩
  · have h := h.2 c2
    refine r_iload_n 1 dX12_isIn_24 rfl rfl ?_
    refine r_aload_n 0 dX12_isIn_25 rfl rfl ?_
    refine mg_0 rfl dX12_isIn_26 ?_
    refine r_idiv dX12_isIn_29 b1 ?_
    refine r_iload_n 2 dX12_isIn_30 rfl rfl ?_
    refine r_aload_n 0 dX12_isIn_31 rfl rfl ?_
    refine mg_0 rfl dX12_isIn_32 ?_
    refine r_idiv dX12_isIn_35 b1 ?_
    refine r_iload_n 3 dX12_isIn_36 rfl rfl ?_
    refine r_aload_n 0 dX12_isIn_37 rfl rfl ?_
    refine mg_0 rfl dX12_isIn_38 ?_
    refine r_idiv dX12_isIn_41 b1 ?_
    refine KP_in (d := d + 0)  rfl (Nat.le_of_ble_eq_true rfl) dX12_isIn_42 ?_
    refine r_if_eqb (tgt := 52) dX12_isIn_45 (by decide) (fun c3 => ?_) (fun c3 => ?_)
    · have h := h.1 c3
      refine r_iconst_0 dX12_isIn_52 ?_
      exact r_zret0 dX12_isIn_53 rfl (Nat.le_refl _) (Nat.le_refl _) ⟨_, _, rfl, rfl, h⟩
    · have h := h.2 c3
      refine r_iconst_1 dX12_isIn_48 ?_
      refine r_goto (tgt := 53) dX12_isIn_49 (by decide) ?_
      exact r_zret1 dX12_isIn_53 rfl (Nat.le_refl _) (Nat.le_refl _) ⟨_, _, rfl, rfl, h⟩

theorem ct_isIn {E : EvT} {q : Nat → Nat} {d : Nat} {S : StM} {x1 x2 x3 : Int32} (hp : ¬ s_wide S = 0) : C_isIn E q (d + 1) x1 x2 x3 S (fun r S1 => r = mIsIn S x1 x2 x3 ∧ S1 = S) := by
  refine en_isIn ?_
  grind [mIsIn, rmd]

theorem KP_isIn {E : EvT} {q : Nat → Nat} {I : MI} {d : Nat} {Qw : Option Value → va_W → Prop} {S : StM} {ls : List (Nat × Value)} {st : List Value} {pc : Nat} {x1 x2 x3 : Int32} (hp : ¬ s_wide S = 0) (hI : I.1.cls = RX12) (hW : (st.map fun v => v.category).sum ≤ 8) (hd : decode I.2.1 pc = .ok (.invokevirtual 302, 3)) (kk : RM E q I (d + 2) Qw (S) ls (.int (b2i (mIsIn S x1 x2 x3)) :: st) (pc + 3)) : RM E q I (d + 2) Qw S ls (.int x3 :: .int x2 :: .int x1 :: .ref (q 0) :: st) pc := K_isIn hI hW hd (mB (ct_isIn (E := E) (q := q) (d := d) hp) (fun r S1 hs => by obtain ⟨hr, hs⟩ := hs; subst hr; subst hs; exact kk))

set_option maxRecDepth 20000 in
theorem en_isPlace {E : EvT} {q : Nat → Nat} {d : Nat} {x1 : Int32} {S : StM} {P : Bool → StM → Prop} (h : (x1 < 0 → (P false S)) ∧ (¬ x1 < 0 → (((s_places S) ≤ x1 → (P false S)) ∧ (¬ (s_places S) ≤ x1 → (P true S))))) : C_isPlace E q d x1 S P := by
  refine Cn.of rfl (Nat.le_of_ble_eq_true rfl) (ls := [(0, .ref (q 0)), (1, .int (x1))]) rfl ?_
  refine r_iload_n 1 dX12_isPlace_0 rfl rfl ?_
  refine r_if_lt (tgt := 16) dX12_isPlace_1 (by decide) (fun c1 => ?_) (fun c1 => ?_)
  · have h := h.1 c1
    refine r_iconst_0 dX12_isPlace_16 ?_
    exact r_zret0 dX12_isPlace_17 rfl (Nat.le_refl _) (Nat.le_refl _) ⟨_, _, rfl, rfl, h⟩
  · have h := h.2 c1
    refine r_iload_n 1 dX12_isPlace_4 rfl rfl ?_
    refine r_aload_n 0 dX12_isPlace_5 rfl rfl ?_
    refine mg_3 rfl dX12_isPlace_6 ?_
    refine r_icmp_ge (tgt := 16) dX12_isPlace_9 (by decide) (fun c2 => ?_) (fun c2 => ?_)
    · have h := h.1 c2
      refine r_iconst_0 dX12_isPlace_16 ?_
      exact r_zret0 dX12_isPlace_17 rfl (Nat.le_refl _) (Nat.le_refl _) ⟨_, _, rfl, rfl, h⟩
    · have h := h.2 c2
      refine r_iconst_1 dX12_isPlace_12 ?_
      refine r_goto (tgt := 17) dX12_isPlace_13 (by decide) ?_
      exact r_zret1 dX12_isPlace_17 rfl (Nat.le_refl _) (Nat.le_refl _) ⟨_, _, rfl, rfl, h⟩

theorem ct_isPlace {E : EvT} {q : Nat → Nat} {d : Nat} {S : StM} {x1 : Int32} : C_isPlace E q d x1 S (fun r S1 => r = mPlace S x1 ∧ S1 = S) := by
  refine en_isPlace ?_
  grind [mPlace]

theorem KP_isPlace {E : EvT} {q : Nat → Nat} {I : MI} {d : Nat} {Qw : Option Value → va_W → Prop} {S : StM} {ls : List (Nat × Value)} {st : List Value} {pc : Nat} {x1 : Int32} (hI : I.1.cls = RX12) (hW : (st.map fun v => v.category).sum ≤ 8) (hd : decode I.2.1 pc = .ok (.invokevirtual 331, 3)) (kk : RM E q I (d + 1) Qw (S) ls (.int (b2i (mPlace S x1)) :: st) (pc + 3)) : RM E q I (d + 1) Qw S ls (.int x1 :: .ref (q 0) :: st) pc := K_isPlace hI hW hd (mB (ct_isPlace (E := E) (q := q) (d := d)) (fun r S1 hs => by obtain ⟨hr, hs⟩ := hs; subst hr; subst hs; exact kk))

set_option maxRecDepth 20000 in
theorem en_isDig {E : EvT} {q : Nat → Nat} {d : Nat} {x1 : Int32} {S : StM} {P : Bool → StM → Prop} (h : (x1 < 0 → (P false S)) ∧ (¬ x1 < 0 → (((s_digs S) ≤ x1 → (P false S)) ∧ (¬ (s_digs S) ≤ x1 → (P true S))))) : C_isDig E q d x1 S P := by
  refine Cn.of rfl (Nat.le_of_ble_eq_true rfl) (ls := [(0, .ref (q 0)), (1, .int (x1))]) rfl ?_
  refine r_iload_n 1 dX12_isDig_0 rfl rfl ?_
  refine r_if_lt (tgt := 16) dX12_isDig_1 (by decide) (fun c1 => ?_) (fun c1 => ?_)
  · have h := h.1 c1
    refine r_iconst_0 dX12_isDig_16 ?_
    exact r_zret0 dX12_isDig_17 rfl (Nat.le_refl _) (Nat.le_refl _) ⟨_, _, rfl, rfl, h⟩
  · have h := h.2 c1
    refine r_iload_n 1 dX12_isDig_4 rfl rfl ?_
    refine r_aload_n 0 dX12_isDig_5 rfl rfl ?_
    refine mg_4 rfl dX12_isDig_6 ?_
    refine r_icmp_ge (tgt := 16) dX12_isDig_9 (by decide) (fun c2 => ?_) (fun c2 => ?_)
    · have h := h.1 c2
      refine r_iconst_0 dX12_isDig_16 ?_
      exact r_zret0 dX12_isDig_17 rfl (Nat.le_refl _) (Nat.le_refl _) ⟨_, _, rfl, rfl, h⟩
    · have h := h.2 c2
      refine r_iconst_1 dX12_isDig_12 ?_
      refine r_goto (tgt := 17) dX12_isDig_13 (by decide) ?_
      exact r_zret1 dX12_isDig_17 rfl (Nat.le_refl _) (Nat.le_refl _) ⟨_, _, rfl, rfl, h⟩

theorem ct_isDig {E : EvT} {q : Nat → Nat} {d : Nat} {S : StM} {x1 : Int32} : C_isDig E q d x1 S (fun r S1 => r = mDig S x1 ∧ S1 = S) := by
  refine en_isDig ?_
  grind [mDig]

theorem KP_isDig {E : EvT} {q : Nat → Nat} {I : MI} {d : Nat} {Qw : Option Value → va_W → Prop} {S : StM} {ls : List (Nat × Value)} {st : List Value} {pc : Nat} {x1 : Int32} (hI : I.1.cls = RX12) (hW : (st.map fun v => v.category).sum ≤ 8) (hd : decode I.2.1 pc = .ok (.invokevirtual 308, 3)) (kk : RM E q I (d + 1) Qw (S) ls (.int (b2i (mDig S x1)) :: st) (pc + 3)) : RM E q I (d + 1) Qw S ls (.int x1 :: .ref (q 0) :: st) pc := K_isDig hI hW hd (mB (ct_isDig (E := E) (q := q) (d := d)) (fun r S1 hs => by obtain ⟨hr, hs⟩ := hs; subst hr; subst hs; exact kk))

set_option maxRecDepth 20000 in
theorem en_isKnown {E : EvT} {q : Nat → Nat} {d : Nat} {x1 : Int32} {x2 : Int32} {S : StM} {P : Bool → StM → Prop} (h : (0 ≤ x1 ∧ x1 < 100) ∧ ((x2 < (a_digTold S (ix x1)) → (P false S)) ∧ (¬ x2 < (a_digTold S (ix x1)) → (((a_digStruck S (ix x1)) = (-1) → (P true S)) ∧ (¬ (a_digStruck S (ix x1)) = (-1) → (((a_digStruck S (ix x1)) ≤ x2 → (P false S)) ∧ (¬ (a_digStruck S (ix x1)) ≤ x2 → (P true S)))))))) : C_isKnown E q d x1 x2 S P := by
  refine Cn.of rfl (Nat.le_of_ble_eq_true rfl) (ls := [(0, .ref (q 0)), (1, .int (x1)), (2, .int (x2))]) rfl ?_
  refine r_aload_n 0 dX12_isKnown_0 rfl rfl ?_
  refine mg_18 rfl dX12_isKnown_1 ?_
  refine r_iload_n 1 dX12_isKnown_4 rfl rfl ?_
  obtain ⟨b1, h⟩ := h
  refine ml_18 b1 dX12_isKnown_5 ?_
  refine r_iload_n 2 dX12_isKnown_6 rfl rfl ?_
  refine r_icmp_gt (tgt := 34) dX12_isKnown_7 (by decide) (fun c2 => ?_) (fun c2 => ?_)
  · have h := h.1 c2
    refine r_iconst_0 dX12_isKnown_34 ?_
    exact r_zret0 dX12_isKnown_35 rfl (Nat.le_refl _) (Nat.le_refl _) ⟨_, _, rfl, rfl, h⟩
  · have h := h.2 c2
    refine r_aload_n 0 dX12_isKnown_10 rfl rfl ?_
    refine mg_19 rfl dX12_isKnown_11 ?_
    refine r_iload_n 1 dX12_isKnown_14 rfl rfl ?_
    refine ml_19 b1 dX12_isKnown_15 ?_
    refine r_iconst_m1 dX12_isKnown_16 ?_
    refine r_icmp_eq (tgt := 30) dX12_isKnown_17 (by decide) (fun c3 => ?_) (fun c3 => ?_)
    · have h := h.1 c3
      refine r_iconst_1 dX12_isKnown_30 ?_
      refine r_goto (tgt := 35) dX12_isKnown_31 (by decide) ?_
      exact r_zret1 dX12_isKnown_35 rfl (Nat.le_refl _) (Nat.le_refl _) ⟨_, _, rfl, rfl, h⟩
    · have h := h.2 c3
      refine r_aload_n 0 dX12_isKnown_20 rfl rfl ?_
      refine mg_19 rfl dX12_isKnown_21 ?_
      refine r_iload_n 1 dX12_isKnown_24 rfl rfl ?_
      refine ml_19 b1 dX12_isKnown_25 ?_
      refine r_iload_n 2 dX12_isKnown_26 rfl rfl ?_
      refine r_icmp_le (tgt := 34) dX12_isKnown_27 (by decide) (fun c4 => ?_) (fun c4 => ?_)
      · have h := h.1 c4
        refine r_iconst_0 dX12_isKnown_34 ?_
        exact r_zret0 dX12_isKnown_35 rfl (Nat.le_refl _) (Nat.le_refl _) ⟨_, _, rfl, rfl, h⟩
      · have h := h.2 c4
        refine r_iconst_1 dX12_isKnown_30 ?_
        refine r_goto (tgt := 35) dX12_isKnown_31 (by decide) ?_
        exact r_zret1 dX12_isKnown_35 rfl (Nat.le_refl _) (Nat.le_refl _) ⟨_, _, rfl, rfl, h⟩

theorem ct_isKnown {E : EvT} {q : Nat → Nat} {d : Nat} {S : StM} {x1 x2 : Int32} (hp : (0 ≤ x1 ∧ x1 < 100)) : C_isKnown E q d x1 x2 S (fun r S1 => r = mKnown S x1 x2 ∧ S1 = S) := by
  refine en_isKnown ?_
  grind [mKnown]

theorem KP_isKnown {E : EvT} {q : Nat → Nat} {I : MI} {d : Nat} {Qw : Option Value → va_W → Prop} {S : StM} {ls : List (Nat × Value)} {st : List Value} {pc : Nat} {x1 x2 : Int32} (hp : (0 ≤ x1 ∧ x1 < 100)) (hI : I.1.cls = RX12) (hW : (st.map fun v => v.category).sum ≤ 8) (hd : decode I.2.1 pc = .ok (.invokevirtual 314, 3)) (kk : RM E q I (d + 1) Qw (S) ls (.int (b2i (mKnown S x1 x2)) :: st) (pc + 3)) : RM E q I (d + 1) Qw S ls (.int x2 :: .int x1 :: .ref (q 0) :: st) pc := K_isKnown hI hW hd (mB (ct_isKnown (E := E) (q := q) (d := d) hp) (fun r S1 hs => by obtain ⟨hr, hs⟩ := hs; subst hr; subst hs; exact kk))

set_option maxRecDepth 20000 in
theorem en_has {E : EvT} {q : Nat → Nat} {d : Nat} {x1 : Int32} {x2 : Int32} {x3 : Int32} {S : StM} {P : Bool → StM → Prop} (h : (0 ≤ x1 ∧ x1 < 100) ∧ (¬ s_wide S = 0 ∧ (((mIsIn S x2 (a_digA S (ix x1)) (a_digB S (ix x1))) = false → (P false S)) ∧ ((mIsIn S x2 (a_digA S (ix x1)) (a_digB S (ix x1))) = true → (((mIn x3 (a_digTop S (ix x1)) (a_digBottom S (ix x1))) = false → (P false S)) ∧ ((mIn x3 (a_digTop S (ix x1)) (a_digBottom S (ix x1))) = true → (P true S))))))) : C_has E q (d + 2) x1 x2 x3 S P := by
  refine Cn.of rfl (Nat.le_of_ble_eq_true rfl) (ls := [(0, .ref (q 0)), (1, .int (x1)), (2, .int (x2)), (3, .int (x3))]) rfl ?_
  refine r_aload_n 0 dX12_has_0 rfl rfl ?_
  refine r_iload_n 2 dX12_has_1 rfl rfl ?_
  refine r_aload_n 0 dX12_has_2 rfl rfl ?_
  refine mg_12 rfl dX12_has_3 ?_
  refine r_iload_n 1 dX12_has_6 rfl rfl ?_
  obtain ⟨b1, h⟩ := h
  refine ml_12 b1 dX12_has_7 ?_
  refine r_aload_n 0 dX12_has_8 rfl rfl ?_
  refine mg_13 rfl dX12_has_9 ?_
  refine r_iload_n 1 dX12_has_12 rfl rfl ?_
  refine ml_13 b1 dX12_has_13 ?_
  obtain ⟨b2, h⟩ := h
  refine KP_isIn (d := d + 0) b2 rfl (Nat.le_of_ble_eq_true rfl) dX12_has_14 ?_
  refine r_if_eqb (tgt := 43) dX12_has_17 (by decide) (fun c3 => ?_) (fun c3 => ?_)
  · have h := h.1 c3
    refine r_iconst_0 dX12_has_43 ?_
    exact r_zret0 dX12_has_44 rfl (Nat.le_refl _) (Nat.le_refl _) ⟨_, _, rfl, rfl, h⟩
  · have h := h.2 c3
    refine r_iload_n 3 dX12_has_20 rfl rfl ?_
    refine r_aload_n 0 dX12_has_21 rfl rfl ?_
    refine mg_14 rfl dX12_has_22 ?_
    refine r_iload_n 1 dX12_has_25 rfl rfl ?_
    refine ml_14 b1 dX12_has_26 ?_
    refine r_aload_n 0 dX12_has_27 rfl rfl ?_
    refine mg_15 rfl dX12_has_28 ?_
    refine r_iload_n 1 dX12_has_31 rfl rfl ?_
    refine ml_15 b1 dX12_has_32 ?_
    refine KP_in (d := d + 1)  rfl (Nat.le_of_ble_eq_true rfl) dX12_has_33 ?_
    refine r_if_eqb (tgt := 43) dX12_has_36 (by decide) (fun c4 => ?_) (fun c4 => ?_)
    · have h := h.1 c4
      refine r_iconst_0 dX12_has_43 ?_
      exact r_zret0 dX12_has_44 rfl (Nat.le_refl _) (Nat.le_refl _) ⟨_, _, rfl, rfl, h⟩
    · have h := h.2 c4
      refine r_iconst_1 dX12_has_39 ?_
      refine r_goto (tgt := 44) dX12_has_40 (by decide) ?_
      exact r_zret1 dX12_has_44 rfl (Nat.le_refl _) (Nat.le_refl _) ⟨_, _, rfl, rfl, h⟩

theorem ct_has {E : EvT} {q : Nat → Nat} {d : Nat} {S : StM} {x1 x2 x3 : Int32} (hp : (¬ s_wide S = 0 ∧ 0 ≤ x1 ∧ x1 < 100)) : C_has E q (d + 2) x1 x2 x3 S (fun r S1 => r = mHas S x1 x2 x3 ∧ S1 = S) := by
  refine en_has ?_
  grind [mHas]

theorem KP_has {E : EvT} {q : Nat → Nat} {I : MI} {d : Nat} {Qw : Option Value → va_W → Prop} {S : StM} {ls : List (Nat × Value)} {st : List Value} {pc : Nat} {x1 x2 x3 : Int32} (hp : (¬ s_wide S = 0 ∧ 0 ≤ x1 ∧ x1 < 100)) (hI : I.1.cls = RX12) (hW : (st.map fun v => v.category).sum ≤ 8) (hd : decode I.2.1 pc = .ok (.invokevirtual 317, 3)) (kk : RM E q I (d + 3) Qw (S) ls (.int (b2i (mHas S x1 x2 x3)) :: st) (pc + 3)) : RM E q I (d + 3) Qw S ls (.int x3 :: .int x2 :: .int x1 :: .ref (q 0) :: st) pc := K_has hI hW hd (mB (ct_has (E := E) (q := q) (d := d) hp) (fun r S1 hs => by obtain ⟨hr, hs⟩ := hs; subst hr; subst hs; exact kk))

set_option maxRecDepth 20000 in
theorem en_isGround {E : EvT} {q : Nat → Nat} {d : Nat} {x1 : Int32} {x2 : Int32} {x3 : Int32} {x4 : Int32} {S : StM} {P : Bool → StM → Prop} (h : ((mCell S x1) = false → (P false S)) ∧ ((mCell S x1) = true → (((mLayer x2) = false → (P false S)) ∧ ((mLayer x2) = true → (((mWeek x3) = false → (P false S)) ∧ ((mWeek x3) = true → (((mWeek x4) = false → (P false S)) ∧ ((mWeek x4) = true → (P true S))))))))) : C_isGround E q (d + 1) x1 x2 x3 x4 S P := by
  refine Cn.of rfl (Nat.le_of_ble_eq_true rfl) (ls := [(0, .ref (q 0)), (1, .int (x1)), (2, .int (x2)), (3, .int (x3)), (4, .int (x4))]) rfl ?_
  refine r_aload_n 0 dX12_isGround_0 rfl rfl ?_
  refine r_iload_n 1 dX12_isGround_1 rfl rfl ?_
  refine KP_isCell (d := d + 0)  rfl (Nat.le_of_ble_eq_true rfl) dX12_isGround_2 ?_
  refine r_if_eqb (tgt := 34) dX12_isGround_5 (by decide) (fun c1 => ?_) (fun c1 => ?_)
  · have h := h.1 c1
    refine r_iconst_0 dX12_isGround_34 ?_
    exact r_zret0 dX12_isGround_35 rfl (Nat.le_refl _) (Nat.le_refl _) ⟨_, _, rfl, rfl, h⟩
  · have h := h.2 c1
    refine r_iload_n 2 dX12_isGround_8 rfl rfl ?_
    refine KP_isLayer (d := d + 0)  rfl (Nat.le_of_ble_eq_true rfl) dX12_isGround_9 ?_
    refine r_if_eqb (tgt := 34) dX12_isGround_12 (by decide) (fun c2 => ?_) (fun c2 => ?_)
    · have h := h.1 c2
      refine r_iconst_0 dX12_isGround_34 ?_
      exact r_zret0 dX12_isGround_35 rfl (Nat.le_refl _) (Nat.le_refl _) ⟨_, _, rfl, rfl, h⟩
    · have h := h.2 c2
      refine r_iload_n 3 dX12_isGround_15 rfl rfl ?_
      refine KP_isWeek (d := d + 0)  rfl (Nat.le_of_ble_eq_true rfl) dX12_isGround_16 ?_
      refine r_if_eqb (tgt := 34) dX12_isGround_19 (by decide) (fun c3 => ?_) (fun c3 => ?_)
      · have h := h.1 c3
        refine r_iconst_0 dX12_isGround_34 ?_
        exact r_zret0 dX12_isGround_35 rfl (Nat.le_refl _) (Nat.le_refl _) ⟨_, _, rfl, rfl, h⟩
      · have h := h.2 c3
        refine r_iload 4 dX12_isGround_22 rfl ?_
        refine KP_isWeek (d := d + 0)  rfl (Nat.le_of_ble_eq_true rfl) dX12_isGround_24 ?_
        refine r_if_eqb (tgt := 34) dX12_isGround_27 (by decide) (fun c4 => ?_) (fun c4 => ?_)
        · have h := h.1 c4
          refine r_iconst_0 dX12_isGround_34 ?_
          exact r_zret0 dX12_isGround_35 rfl (Nat.le_refl _) (Nat.le_refl _) ⟨_, _, rfl, rfl, h⟩
        · have h := h.2 c4
          refine r_iconst_1 dX12_isGround_30 ?_
          refine r_goto (tgt := 35) dX12_isGround_31 (by decide) ?_
          exact r_zret1 dX12_isGround_35 rfl (Nat.le_refl _) (Nat.le_refl _) ⟨_, _, rfl, rfl, h⟩

theorem ct_isGround {E : EvT} {q : Nat → Nat} {d : Nat} {S : StM} {x1 x2 x3 x4 : Int32} : C_isGround E q (d + 1) x1 x2 x3 x4 S (fun r S1 => r = mGround S x1 x2 x3 x4 ∧ S1 = S) := by
  refine en_isGround ?_
  grind [mGround]

theorem KP_isGround {E : EvT} {q : Nat → Nat} {I : MI} {d : Nat} {Qw : Option Value → va_W → Prop} {S : StM} {ls : List (Nat × Value)} {st : List Value} {pc : Nat} {x1 x2 x3 x4 : Int32} (hI : I.1.cls = RX12) (hW : (st.map fun v => v.category).sum ≤ 8) (hd : decode I.2.1 pc = .ok (.invokevirtual 323, 3)) (kk : RM E q I (d + 2) Qw (S) ls (.int (b2i (mGround S x1 x2 x3 x4)) :: st) (pc + 3)) : RM E q I (d + 2) Qw S ls (.int x4 :: .int x3 :: .int x2 :: .int x1 :: .ref (q 0) :: st) pc := K_isGround hI hW hd (mB (ct_isGround (E := E) (q := q) (d := d)) (fun r S1 hs => by obtain ⟨hr, hs⟩ := hs; subst hr; subst hs; exact kk))

set_option maxRecDepth 20000 in
theorem en_isForce {E : EvT} {q : Nat → Nat} {d : Nat} {x1 : Int32} {x2 : Int32} {S : StM} {P : Bool → StM → Prop} (h : (0 ≤ x1 ∧ x1 < 20) ∧ (P (mIn x2 (a_ruleFrom S (ix x1)) (a_ruleTo S (ix x1))) S)) : C_isForce E q (d + 1) x1 x2 S P := by
  refine Cn.of rfl (Nat.le_of_ble_eq_true rfl) (ls := [(0, .ref (q 0)), (1, .int (x1)), (2, .int (x2))]) rfl ?_
  refine r_iload_n 2 dX12_isForce_0 rfl rfl ?_
  refine r_aload_n 0 dX12_isForce_1 rfl rfl ?_
  refine mg_46 rfl dX12_isForce_2 ?_
  refine r_iload_n 1 dX12_isForce_5 rfl rfl ?_
  obtain ⟨b1, h⟩ := h
  refine ml_46 b1 dX12_isForce_6 ?_
  refine r_aload_n 0 dX12_isForce_7 rfl rfl ?_
  refine mg_47 rfl dX12_isForce_8 ?_
  refine r_iload_n 1 dX12_isForce_11 rfl rfl ?_
  refine ml_47 b1 dX12_isForce_12 ?_
  refine KP_in (d := d + 0)  rfl (Nat.le_of_ble_eq_true rfl) dX12_isForce_13 ?_
  exact r_zret dX12_isForce_16 rfl (Nat.le_refl _) (Nat.le_refl _) ⟨_, _, rfl, rfl, h⟩

theorem ct_isForce {E : EvT} {q : Nat → Nat} {d : Nat} {S : StM} {x1 x2 : Int32} (hp : (0 ≤ x1 ∧ x1 < 20)) : C_isForce E q (d + 1) x1 x2 S (fun r S1 => r = mForce S x1 x2 ∧ S1 = S) := by
  refine en_isForce ?_
  grind [mForce]

theorem KP_isForce {E : EvT} {q : Nat → Nat} {I : MI} {d : Nat} {Qw : Option Value → va_W → Prop} {S : StM} {ls : List (Nat × Value)} {st : List Value} {pc : Nat} {x1 x2 : Int32} (hp : (0 ≤ x1 ∧ x1 < 20)) (hI : I.1.cls = RX12) (hW : (st.map fun v => v.category).sum ≤ 8) (hd : decode I.2.1 pc = .ok (.invokevirtual 447, 3)) (kk : RM E q I (d + 2) Qw (S) ls (.int (b2i (mForce S x1 x2)) :: st) (pc + 3)) : RM E q I (d + 2) Qw S ls (.int x2 :: .int x1 :: .ref (q 0) :: st) pc := K_isForce hI hW hd (mB (ct_isForce (E := E) (q := q) (d := d) hp) (fun r S1 hs => by obtain ⟨hr, hs⟩ := hs; subst hr; subst hs; exact kk))

set_option maxRecDepth 20000 in
theorem en_isFind {E : EvT} {q : Nat → Nat} {d : Nat} {x1 : Int32} {S : StM} {P : Bool → StM → Prop} (h : (x1 < 0 → (P false S)) ∧ (¬ x1 < 0 → (((s_finds S) ≤ x1 → (P false S)) ∧ (¬ (s_finds S) ≤ x1 → (P true S))))) : C_isFind E q d x1 S P := by
  refine Cn.of rfl (Nat.le_of_ble_eq_true rfl) (ls := [(0, .ref (q 0)), (1, .int (x1))]) rfl ?_
  refine r_iload_n 1 dX12_isFind_0 rfl rfl ?_
  refine r_if_lt (tgt := 16) dX12_isFind_1 (by decide) (fun c1 => ?_) (fun c1 => ?_)
  · have h := h.1 c1
    refine r_iconst_0 dX12_isFind_16 ?_
    exact r_zret0 dX12_isFind_17 rfl (Nat.le_refl _) (Nat.le_refl _) ⟨_, _, rfl, rfl, h⟩
  · have h := h.2 c1
    refine r_iload_n 1 dX12_isFind_4 rfl rfl ?_
    refine r_aload_n 0 dX12_isFind_5 rfl rfl ?_
    refine mg_57 rfl dX12_isFind_6 ?_
    refine r_icmp_ge (tgt := 16) dX12_isFind_9 (by decide) (fun c2 => ?_) (fun c2 => ?_)
    · have h := h.1 c2
      refine r_iconst_0 dX12_isFind_16 ?_
      exact r_zret0 dX12_isFind_17 rfl (Nat.le_refl _) (Nat.le_refl _) ⟨_, _, rfl, rfl, h⟩
    · have h := h.2 c2
      refine r_iconst_1 dX12_isFind_12 ?_
      refine r_goto (tgt := 17) dX12_isFind_13 (by decide) ?_
      exact r_zret1 dX12_isFind_17 rfl (Nat.le_refl _) (Nat.le_refl _) ⟨_, _, rfl, rfl, h⟩

theorem ct_isFind {E : EvT} {q : Nat → Nat} {d : Nat} {S : StM} {x1 : Int32} : C_isFind E q d x1 S (fun r S1 => r = mFind S x1 ∧ S1 = S) := by
  refine en_isFind ?_
  grind [mFind]

theorem KP_isFind {E : EvT} {q : Nat → Nat} {I : MI} {d : Nat} {Qw : Option Value → va_W → Prop} {S : StM} {ls : List (Nat × Value)} {st : List Value} {pc : Nat} {x1 : Int32} (hI : I.1.cls = RX12) (hW : (st.map fun v => v.category).sum ≤ 8) (hd : decode I.2.1 pc = .ok (.invokevirtual 482, 3)) (kk : RM E q I (d + 1) Qw (S) ls (.int (b2i (mFind S x1)) :: st) (pc + 3)) : RM E q I (d + 1) Qw S ls (.int x1 :: .ref (q 0) :: st) pc := K_isFind hI hW hd (mB (ct_isFind (E := E) (q := q) (d := d)) (fun r S1 hs => by obtain ⟨hr, hs⟩ := hs; subst hr; subst hs; exact kk))

set_option maxRecDepth 20000 in
theorem en_isThing {E : EvT} {q : Nat → Nat} {d : Nat} {x1 : Int32} {S : StM} {P : Bool → StM → Prop} (h : (x1 < 0 → (P false S)) ∧ (¬ x1 < 0 → (((s_things S) ≤ x1 → (P false S)) ∧ (¬ (s_things S) ≤ x1 → (P true S))))) : C_isThing E q d x1 S P := by
  refine Cn.of rfl (Nat.le_of_ble_eq_true rfl) (ls := [(0, .ref (q 0)), (1, .int (x1))]) rfl ?_
  refine r_iload_n 1 dX12_isThing_0 rfl rfl ?_
  refine r_if_lt (tgt := 16) dX12_isThing_1 (by decide) (fun c1 => ?_) (fun c1 => ?_)
  · have h := h.1 c1
    refine r_iconst_0 dX12_isThing_16 ?_
    exact r_zret0 dX12_isThing_17 rfl (Nat.le_refl _) (Nat.le_refl _) ⟨_, _, rfl, rfl, h⟩
  · have h := h.2 c1
    refine r_iload_n 1 dX12_isThing_4 rfl rfl ?_
    refine r_aload_n 0 dX12_isThing_5 rfl rfl ?_
    refine mg_68 rfl dX12_isThing_6 ?_
    refine r_icmp_ge (tgt := 16) dX12_isThing_9 (by decide) (fun c2 => ?_) (fun c2 => ?_)
    · have h := h.1 c2
      refine r_iconst_0 dX12_isThing_16 ?_
      exact r_zret0 dX12_isThing_17 rfl (Nat.le_refl _) (Nat.le_refl _) ⟨_, _, rfl, rfl, h⟩
    · have h := h.2 c2
      refine r_iconst_1 dX12_isThing_12 ?_
      refine r_goto (tgt := 17) dX12_isThing_13 (by decide) ?_
      exact r_zret1 dX12_isThing_17 rfl (Nat.le_refl _) (Nat.le_refl _) ⟨_, _, rfl, rfl, h⟩

theorem ct_isThing {E : EvT} {q : Nat → Nat} {d : Nat} {S : StM} {x1 : Int32} : C_isThing E q d x1 S (fun r S1 => r = mThing S x1 ∧ S1 = S) := by
  refine en_isThing ?_
  grind [mThing]

theorem KP_isThing {E : EvT} {q : Nat → Nat} {I : MI} {d : Nat} {Qw : Option Value → va_W → Prop} {S : StM} {ls : List (Nat × Value)} {st : List Value} {pc : Nat} {x1 : Int32} (hI : I.1.cls = RX12) (hW : (st.map fun v => v.category).sum ≤ 8) (hd : decode I.2.1 pc = .ok (.invokevirtual 494, 3)) (kk : RM E q I (d + 1) Qw (S) ls (.int (b2i (mThing S x1)) :: st) (pc + 3)) : RM E q I (d + 1) Qw S ls (.int x1 :: .ref (q 0) :: st) pc := K_isThing hI hW hd (mB (ct_isThing (E := E) (q := q) (d := d)) (fun r S1 hs => by obtain ⟨hr, hs⟩ := hs; subst hr; subst hs; exact kk))

set_option maxRecDepth 20000 in
theorem en_isWall {E : EvT} {q : Nat → Nat} {d : Nat} {x1 : Int32} {S : StM} {P : Bool → StM → Prop} (h : (x1 < 0 → (P false S)) ∧ (¬ x1 < 0 → (((s_walls S) ≤ x1 → (P false S)) ∧ (¬ (s_walls S) ≤ x1 → (P true S))))) : C_isWall E q d x1 S P := by
  refine Cn.of rfl (Nat.le_of_ble_eq_true rfl) (ls := [(0, .ref (q 0)), (1, .int (x1))]) rfl ?_
  refine r_iload_n 1 dX12_isWall_0 rfl rfl ?_
  refine r_if_lt (tgt := 16) dX12_isWall_1 (by decide) (fun c1 => ?_) (fun c1 => ?_)
  · have h := h.1 c1
    refine r_iconst_0 dX12_isWall_16 ?_
    exact r_zret0 dX12_isWall_17 rfl (Nat.le_refl _) (Nat.le_refl _) ⟨_, _, rfl, rfl, h⟩
  · have h := h.2 c1
    refine r_iload_n 1 dX12_isWall_4 rfl rfl ?_
    refine r_aload_n 0 dX12_isWall_5 rfl rfl ?_
    refine mg_79 rfl dX12_isWall_6 ?_
    refine r_icmp_ge (tgt := 16) dX12_isWall_9 (by decide) (fun c2 => ?_) (fun c2 => ?_)
    · have h := h.1 c2
      refine r_iconst_0 dX12_isWall_16 ?_
      exact r_zret0 dX12_isWall_17 rfl (Nat.le_refl _) (Nat.le_refl _) ⟨_, _, rfl, rfl, h⟩
    · have h := h.2 c2
      refine r_iconst_1 dX12_isWall_12 ?_
      refine r_goto (tgt := 17) dX12_isWall_13 (by decide) ?_
      exact r_zret1 dX12_isWall_17 rfl (Nat.le_refl _) (Nat.le_refl _) ⟨_, _, rfl, rfl, h⟩

theorem ct_isWall {E : EvT} {q : Nat → Nat} {d : Nat} {S : StM} {x1 : Int32} : C_isWall E q d x1 S (fun r S1 => r = mWall S x1 ∧ S1 = S) := by
  refine en_isWall ?_
  grind [mWall]

theorem KP_isWall {E : EvT} {q : Nat → Nat} {I : MI} {d : Nat} {Qw : Option Value → va_W → Prop} {S : StM} {ls : List (Nat × Value)} {st : List Value} {pc : Nat} {x1 : Int32} (hI : I.1.cls = RX12) (hW : (st.map fun v => v.category).sum ≤ 8) (hd : decode I.2.1 pc = .ok (.invokevirtual 527, 3)) (kk : RM E q I (d + 1) Qw (S) ls (.int (b2i (mWall S x1)) :: st) (pc + 3)) : RM E q I (d + 1) Qw S ls (.int x1 :: .ref (q 0) :: st) pc := K_isWall hI hW hd (mB (ct_isWall (E := E) (q := q) (d := d)) (fun r S1 hs => by obtain ⟨hr, hs⟩ := hs; subst hr; subst hs; exact kk))

set_option maxRecDepth 20000 in
theorem en_shows {E : EvT} {q : Nat → Nat} {d : Nat} {x1 : Int32} {x2 : Int32} {S : StM} {P : Bool → StM → Prop} (h : (0 ≤ x1 ∧ x1 < 100) ∧ ((0 ≤ (a_lookOf S (ix x1)) ∧ (a_lookOf S (ix x1)) < 100) ∧ ((¬ (((a_drawFeatures S (ix (a_lookOf S (ix x1)))) >>> (x2 &&& 31)) &&& 1) = 1 → (P false S)) ∧ ((((a_drawFeatures S (ix (a_lookOf S (ix x1)))) >>> (x2 &&& 31)) &&& 1) = 1 → (P true S))))) : C_shows E q d x1 x2 S P := by
  refine Cn.of rfl (Nat.le_of_ble_eq_true rfl) (ls := [(0, .ref (q 0)), (1, .int (x1)), (2, .int (x2))]) rfl ?_
  refine r_aload_n 0 dX12_shows_0 rfl rfl ?_
  refine mg_85 rfl dX12_shows_1 ?_
  refine r_aload_n 0 dX12_shows_4 rfl rfl ?_
  refine mg_87 rfl dX12_shows_5 ?_
  refine r_iload_n 1 dX12_shows_8 rfl rfl ?_
  obtain ⟨b1, h⟩ := h
  refine ml_87 b1 dX12_shows_9 ?_
  obtain ⟨b2, h⟩ := h
  refine ml_85 b2 dX12_shows_10 ?_
  refine r_iload_n 2 dX12_shows_11 rfl rfl ?_
  refine r_ishr dX12_shows_12 ?_
  refine r_iconst_1 dX12_shows_13 ?_
  refine r_iand dX12_shows_14 ?_
  refine r_iconst_1 dX12_shows_15 ?_
  refine r_icmp_ne (tgt := 23) dX12_shows_16 (by decide) (fun c3 => ?_) (fun c3 => ?_)
  · have h := h.1 c3
    refine r_iconst_0 dX12_shows_23 ?_
    exact r_zret0 dX12_shows_24 rfl (Nat.le_refl _) (Nat.le_refl _) ⟨_, _, rfl, rfl, h⟩
  · have h := h.2 c3
    refine r_iconst_1 dX12_shows_19 ?_
    refine r_goto (tgt := 24) dX12_shows_20 (by decide) ?_
    exact r_zret1 dX12_shows_24 rfl (Nat.le_refl _) (Nat.le_refl _) ⟨_, _, rfl, rfl, h⟩

theorem ct_shows {E : EvT} {q : Nat → Nat} {d : Nat} {S : StM} {x1 x2 : Int32} (hp : ((0 ≤ x1 ∧ x1 < 100) ∧ 0 ≤ a_lookOf S (ix x1) ∧ a_lookOf S (ix x1) < 100)) : C_shows E q d x1 x2 S (fun r S1 => r = mShows S x1 x2 ∧ S1 = S) := by
  refine en_shows ?_
  grind [mShows]

theorem KP_shows {E : EvT} {q : Nat → Nat} {I : MI} {d : Nat} {Qw : Option Value → va_W → Prop} {S : StM} {ls : List (Nat × Value)} {st : List Value} {pc : Nat} {x1 x2 : Int32} (hp : ((0 ≤ x1 ∧ x1 < 100) ∧ 0 ≤ a_lookOf S (ix x1) ∧ a_lookOf S (ix x1) < 100)) (hI : I.1.cls = RX12) (hW : (st.map fun v => v.category).sum ≤ 8) (hd : decode I.2.1 pc = .ok (.invokevirtual 537, 3)) (kk : RM E q I (d + 1) Qw (S) ls (.int (b2i (mShows S x1 x2)) :: st) (pc + 3)) : RM E q I (d + 1) Qw S ls (.int x2 :: .int x1 :: .ref (q 0) :: st) pc := K_shows hI hW hd (mB (ct_shows (E := E) (q := q) (d := d) hp) (fun r S1 hs => by obtain ⟨hr, hs⟩ := hs; subst hr; subst hs; exact kk))

set_option maxRecDepth 20000 in
theorem en_isBorder {E : EvT} {q : Nat → Nat} {d : Nat} {x1 : Int32} {S : StM} {P : Bool → StM → Prop} (h : ¬ (s_wide S) = 0 ∧ (((x1 - x1 / (s_wide S) * (s_wide S)) = 0 → (P true S)) ∧ (¬ (x1 - x1 / (s_wide S) * (s_wide S)) = 0 → (((x1 - x1 / (s_wide S) * (s_wide S)) = ((s_wide S) - 1) → (P true S)) ∧ (¬ (x1 - x1 / (s_wide S) * (s_wide S)) = ((s_wide S) - 1) → (((x1 / (s_wide S)) = 0 → (P true S)) ∧ (¬ (x1 / (s_wide S)) = 0 → ((¬ (x1 / (s_wide S)) = ((s_high S) - 1) → (P false S)) ∧ ((x1 / (s_wide S)) = ((s_high S) - 1) → (P true S)))))))))) : C_isBorder E q d x1 S P := by
  refine Cn.of rfl (Nat.le_of_ble_eq_true rfl) (ls := [(0, .ref (q 0)), (1, .int (x1))]) rfl ?_
  refine r_iload_n 1 dX12_isBorder_0 rfl rfl ?_
  refine r_aload_n 0 dX12_isBorder_1 rfl rfl ?_
  refine mg_0 rfl dX12_isBorder_2 ?_
  obtain ⟨b1, h⟩ := h
  refine r_irem dX12_isBorder_5 b1 ?_
  refine r_if_eq (tgt := 48) dX12_isBorder_6 (by decide) (fun c2 => ?_) (fun c2 => ?_)
  · have h := h.1 c2
    refine r_iconst_1 dX12_isBorder_48 ?_
    refine r_goto (tgt := 53) dX12_isBorder_49 (by decide) ?_
    exact r_zret1 dX12_isBorder_53 rfl (Nat.le_refl _) (Nat.le_refl _) ⟨_, _, rfl, rfl, h⟩
  · have h := h.2 c2
    refine r_iload_n 1 dX12_isBorder_9 rfl rfl ?_
    refine r_aload_n 0 dX12_isBorder_10 rfl rfl ?_
    refine mg_0 rfl dX12_isBorder_11 ?_
    refine r_irem dX12_isBorder_14 b1 ?_
    refine r_aload_n 0 dX12_isBorder_15 rfl rfl ?_
    refine mg_0 rfl dX12_isBorder_16 ?_
    refine r_iconst_1 dX12_isBorder_19 ?_
    refine r_isub dX12_isBorder_20 ?_
    refine r_icmp_eq (tgt := 48) dX12_isBorder_21 (by decide) (fun c3 => ?_) (fun c3 => ?_)
    · have h := h.1 c3
      refine r_iconst_1 dX12_isBorder_48 ?_
      refine r_goto (tgt := 53) dX12_isBorder_49 (by decide) ?_
      exact r_zret1 dX12_isBorder_53 rfl (Nat.le_refl _) (Nat.le_refl _) ⟨_, _, rfl, rfl, h⟩
    · have h := h.2 c3
      refine r_iload_n 1 dX12_isBorder_24 rfl rfl ?_
      refine r_aload_n 0 dX12_isBorder_25 rfl rfl ?_
      refine mg_0 rfl dX12_isBorder_26 ?_
      refine r_idiv dX12_isBorder_29 b1 ?_
      refine r_if_eq (tgt := 48) dX12_isBorder_30 (by decide) (fun c4 => ?_) (fun c4 => ?_)
      · have h := h.1 c4
        refine r_iconst_1 dX12_isBorder_48 ?_
        refine r_goto (tgt := 53) dX12_isBorder_49 (by decide) ?_
        exact r_zret1 dX12_isBorder_53 rfl (Nat.le_refl _) (Nat.le_refl _) ⟨_, _, rfl, rfl, h⟩
      · have h := h.2 c4
        refine r_iload_n 1 dX12_isBorder_33 rfl rfl ?_
        refine r_aload_n 0 dX12_isBorder_34 rfl rfl ?_
        refine mg_0 rfl dX12_isBorder_35 ?_
        refine r_idiv dX12_isBorder_38 b1 ?_
        refine r_aload_n 0 dX12_isBorder_39 rfl rfl ?_
        refine mg_1 rfl dX12_isBorder_40 ?_
        refine r_iconst_1 dX12_isBorder_43 ?_
        refine r_isub dX12_isBorder_44 ?_
        refine r_icmp_ne (tgt := 52) dX12_isBorder_45 (by decide) (fun c5 => ?_) (fun c5 => ?_)
        · have h := h.1 c5
          refine r_iconst_0 dX12_isBorder_52 ?_
          exact r_zret0 dX12_isBorder_53 rfl (Nat.le_refl _) (Nat.le_refl _) ⟨_, _, rfl, rfl, h⟩
        · have h := h.2 c5
          refine r_iconst_1 dX12_isBorder_48 ?_
          refine r_goto (tgt := 53) dX12_isBorder_49 (by decide) ?_
          exact r_zret1 dX12_isBorder_53 rfl (Nat.le_refl _) (Nat.le_refl _) ⟨_, _, rfl, rfl, h⟩

theorem ct_isBorder {E : EvT} {q : Nat → Nat} {d : Nat} {S : StM} {x1 : Int32} (hp : ¬ s_wide S = 0) : C_isBorder E q d x1 S (fun r S1 => r = mBorder S x1 ∧ S1 = S) := by
  refine en_isBorder ?_
  grind [mBorder, rmd]

theorem KP_isBorder {E : EvT} {q : Nat → Nat} {I : MI} {d : Nat} {Qw : Option Value → va_W → Prop} {S : StM} {ls : List (Nat × Value)} {st : List Value} {pc : Nat} {x1 : Int32} (hp : ¬ s_wide S = 0) (hI : I.1.cls = RX12) (hW : (st.map fun v => v.category).sum ≤ 8) (hd : decode I.2.1 pc = .ok (.invokevirtual 546, 3)) (kk : RM E q I (d + 1) Qw (S) ls (.int (b2i (mBorder S x1)) :: st) (pc + 3)) : RM E q I (d + 1) Qw S ls (.int x1 :: .ref (q 0) :: st) pc := K_isBorder hI hW hd (mB (ct_isBorder (E := E) (q := q) (d := d) hp) (fun r S1 hs => by obtain ⟨hr, hs⟩ := hs; subst hr; subst hs; exact kk))

set_option maxRecDepth 20000 in
theorem en_areBeside {E : EvT} {q : Nat → Nat} {d : Nat} {x1 : Int32} {x2 : Int32} {S : StM} {P : Bool → StM → Prop} (h : ¬ (s_wide S) = 0 ∧ (((mIn ((x1 - x1 / (s_wide S) * (s_wide S)) - (x2 - x2 / (s_wide S) * (s_wide S))) (-1) 1) = false → (P false S)) ∧ ((mIn ((x1 - x1 / (s_wide S) * (s_wide S)) - (x2 - x2 / (s_wide S) * (s_wide S))) (-1) 1) = true → (((mIn ((x1 / (s_wide S)) - (x2 / (s_wide S))) (-1) 1) = false → (P false S)) ∧ ((mIn ((x1 / (s_wide S)) - (x2 / (s_wide S))) (-1) 1) = true → (P true S)))))) : C_areBeside E q (d + 1) x1 x2 S P := by
  refine Cn.of rfl (Nat.le_of_ble_eq_true rfl) (ls := [(0, .ref (q 0)), (1, .int (x1)), (2, .int (x2))]) rfl ?_
  refine r_iload_n 1 dX12_areBeside_0 rfl rfl ?_
  refine r_aload_n 0 dX12_areBeside_1 rfl rfl ?_
  refine mg_0 rfl dX12_areBeside_2 ?_
  obtain ⟨b1, h⟩ := h
  refine r_irem dX12_areBeside_5 b1 ?_
  refine r_iload_n 2 dX12_areBeside_6 rfl rfl ?_
  refine r_aload_n 0 dX12_areBeside_7 rfl rfl ?_
  refine mg_0 rfl dX12_areBeside_8 ?_
  refine r_irem dX12_areBeside_11 b1 ?_
  refine r_isub dX12_areBeside_12 ?_
  refine r_iconst_m1 dX12_areBeside_13 ?_
  refine r_iconst_1 dX12_areBeside_14 ?_
  refine KP_in (d := d + 0)  rfl (Nat.le_of_ble_eq_true rfl) dX12_areBeside_15 ?_
  refine r_if_eqb (tgt := 46) dX12_areBeside_18 (by decide) (fun c2 => ?_) (fun c2 => ?_)
  · have h := h.1 c2
    refine r_iconst_0 dX12_areBeside_46 ?_
    exact r_zret0 dX12_areBeside_47 rfl (Nat.le_refl _) (Nat.le_refl _) ⟨_, _, rfl, rfl, h⟩
  · have h := h.2 c2
    refine r_iload_n 1 dX12_areBeside_21 rfl rfl ?_
    refine r_aload_n 0 dX12_areBeside_22 rfl rfl ?_
    refine mg_0 rfl dX12_areBeside_23 ?_
    refine r_idiv dX12_areBeside_26 b1 ?_
    refine r_iload_n 2 dX12_areBeside_27 rfl rfl ?_
    refine r_aload_n 0 dX12_areBeside_28 rfl rfl ?_
    refine mg_0 rfl dX12_areBeside_29 ?_
    refine r_idiv dX12_areBeside_32 b1 ?_
    refine r_isub dX12_areBeside_33 ?_
    refine r_iconst_m1 dX12_areBeside_34 ?_
    refine r_iconst_1 dX12_areBeside_35 ?_
    refine KP_in (d := d + 0)  rfl (Nat.le_of_ble_eq_true rfl) dX12_areBeside_36 ?_
    refine r_if_eqb (tgt := 46) dX12_areBeside_39 (by decide) (fun c3 => ?_) (fun c3 => ?_)
    · have h := h.1 c3
      refine r_iconst_0 dX12_areBeside_46 ?_
      exact r_zret0 dX12_areBeside_47 rfl (Nat.le_refl _) (Nat.le_refl _) ⟨_, _, rfl, rfl, h⟩
    · have h := h.2 c3
      refine r_iconst_1 dX12_areBeside_42 ?_
      refine r_goto (tgt := 47) dX12_areBeside_43 (by decide) ?_
      exact r_zret1 dX12_areBeside_47 rfl (Nat.le_refl _) (Nat.le_refl _) ⟨_, _, rfl, rfl, h⟩

theorem ct_areBeside {E : EvT} {q : Nat → Nat} {d : Nat} {S : StM} {x1 x2 : Int32} (hp : ¬ s_wide S = 0) : C_areBeside E q (d + 1) x1 x2 S (fun r S1 => r = mBeside S x1 x2 ∧ S1 = S) := by
  refine en_areBeside ?_
  grind [mBeside, rmd]

theorem KP_areBeside {E : EvT} {q : Nat → Nat} {I : MI} {d : Nat} {Qw : Option Value → va_W → Prop} {S : StM} {ls : List (Nat × Value)} {st : List Value} {pc : Nat} {x1 x2 : Int32} (hp : ¬ s_wide S = 0) (hI : I.1.cls = RX12) (hW : (st.map fun v => v.category).sum ≤ 8) (hd : decode I.2.1 pc = .ok (.invokevirtual 549, 3)) (kk : RM E q I (d + 2) Qw (S) ls (.int (b2i (mBeside S x1 x2)) :: st) (pc + 3)) : RM E q I (d + 2) Qw S ls (.int x2 :: .int x1 :: .ref (q 0) :: st) pc := K_areBeside hI hW hd (mB (ct_areBeside (E := E) (q := q) (d := d) hp) (fun r S1 hs => by obtain ⟨hr, hs⟩ := hs; subst hr; subst hs; exact kk))

set_option maxRecDepth 20000 in
theorem en_reckon {E : EvT} {q : Nat → Nat} {d : Nat} {x0 : Int32} {x1 : Int32} {x2 : Int32} {S : StM} {P : Int32 → StM → Prop} (h : (x0 = 2 → (P (x1 + x2) S)) ∧ (¬ x0 = 2 → ((x0 = 3 → (P (x1 - x2) S)) ∧ (¬ x0 = 3 → ((x0 = 4 → (P (x1 * x2) S)) ∧ (¬ x0 = 4 → ((x0 = 5 → (¬ x2 = 0 ∧ (P (x1 / x2) S))) ∧ (¬ x0 = 5 → ((x0 = 6 → (¬ x2 = 0 ∧ (P (x1 - x1 / x2 * x2) S))) ∧ (¬ x0 = 6 → ((x0 = 7 → ((x2 ≤ x1 → (P 0 S)) ∧ (¬ x2 ≤ x1 → (P 1 S)))) ∧ (¬ x0 = 7 → ((x0 = 8 → ((x1 ≤ x2 → (P 0 S)) ∧ (¬ x1 ≤ x2 → (P 1 S)))) ∧ (¬ x0 = 8 → ((¬ x1 = x2 → (P 0 S)) ∧ (x1 = x2 → (P 1 S))))))))))))))))) : C_reckon E q d x0 x1 x2 S P := by
  refine Cn.of rfl (Nat.le_of_ble_eq_true rfl) (ls := [(0, .int (x0)), (1, .int (x1)), (2, .int (x2))]) rfl ?_
  refine r_iload_n 0 dX12_reckon_0 rfl rfl ?_
  by_cases c1 : x0 = 2
  · have h := h.1 c1
    refine r_tableIn (tgt := 44) dX12_reckon_1 (by rw [c1]; decide) (by rw [c1]; decide) (by rw [c1]; rfl) (by decide) ?_
    refine r_iload_n 1 dX12_reckon_44 rfl rfl ?_
    refine r_iload_n 2 dX12_reckon_45 rfl rfl ?_
    refine r_iadd dX12_reckon_46 ?_
    exact r_iret dX12_reckon_47 rfl (Nat.le_refl _) (Nat.le_refl _) ⟨_, _, rfl, rfl, h⟩
  · have h := h.2 c1
    by_cases c2 : x0 = 3
    · have h := h.1 c2
      refine r_tableIn (tgt := 48) dX12_reckon_1 (by rw [c2]; decide) (by rw [c2]; decide) (by rw [c2]; rfl) (by decide) ?_
      refine r_iload_n 1 dX12_reckon_48 rfl rfl ?_
      refine r_iload_n 2 dX12_reckon_49 rfl rfl ?_
      refine r_isub dX12_reckon_50 ?_
      exact r_iret dX12_reckon_51 rfl (Nat.le_refl _) (Nat.le_refl _) ⟨_, _, rfl, rfl, h⟩
    · have h := h.2 c2
      by_cases c3 : x0 = 4
      · have h := h.1 c3
        refine r_tableIn (tgt := 52) dX12_reckon_1 (by rw [c3]; decide) (by rw [c3]; decide) (by rw [c3]; rfl) (by decide) ?_
        refine r_iload_n 1 dX12_reckon_52 rfl rfl ?_
        refine r_iload_n 2 dX12_reckon_53 rfl rfl ?_
        refine r_imul dX12_reckon_54 ?_
        exact r_iret dX12_reckon_55 rfl (Nat.le_refl _) (Nat.le_refl _) ⟨_, _, rfl, rfl, h⟩
      · have h := h.2 c3
        by_cases c4 : x0 = 5
        · have h := h.1 c4
          refine r_tableIn (tgt := 56) dX12_reckon_1 (by rw [c4]; decide) (by rw [c4]; decide) (by rw [c4]; rfl) (by decide) ?_
          refine r_iload_n 1 dX12_reckon_56 rfl rfl ?_
          refine r_iload_n 2 dX12_reckon_57 rfl rfl ?_
          obtain ⟨b5, h⟩ := h
          refine r_idiv dX12_reckon_58 b5 ?_
          exact r_iret dX12_reckon_59 rfl (Nat.le_refl _) (Nat.le_refl _) ⟨_, _, rfl, rfl, h⟩
        · have h := h.2 c4
          by_cases c6 : x0 = 6
          · have h := h.1 c6
            refine r_tableIn (tgt := 60) dX12_reckon_1 (by rw [c6]; decide) (by rw [c6]; decide) (by rw [c6]; rfl) (by decide) ?_
            refine r_iload_n 1 dX12_reckon_60 rfl rfl ?_
            refine r_iload_n 2 dX12_reckon_61 rfl rfl ?_
            obtain ⟨b7, h⟩ := h
            refine r_irem dX12_reckon_62 b7 ?_
            exact r_iret dX12_reckon_63 rfl (Nat.le_refl _) (Nat.le_refl _) ⟨_, _, rfl, rfl, h⟩
          · have h := h.2 c6
            by_cases c8 : x0 = 7
            · have h := h.1 c8
              refine r_tableIn (tgt := 64) dX12_reckon_1 (by rw [c8]; decide) (by rw [c8]; decide) (by rw [c8]; rfl) (by decide) ?_
              refine r_iload_n 1 dX12_reckon_64 rfl rfl ?_
              refine r_iload_n 2 dX12_reckon_65 rfl rfl ?_
              refine r_icmp_ge (tgt := 73) dX12_reckon_66 (by decide) (fun c9 => ?_) (fun c9 => ?_)
              · have h := h.1 c9
                refine r_iconst_0 dX12_reckon_73 ?_
                exact r_iret dX12_reckon_74 rfl (Nat.le_refl _) (Nat.le_refl _) ⟨_, _, rfl, rfl, h⟩
              · have h := h.2 c9
                refine r_iconst_1 dX12_reckon_69 ?_
                refine r_goto (tgt := 74) dX12_reckon_70 (by decide) ?_
                exact r_iret dX12_reckon_74 rfl (Nat.le_refl _) (Nat.le_refl _) ⟨_, _, rfl, rfl, h⟩
            · have h := h.2 c8
              by_cases c10 : x0 = 8
              · have h := h.1 c10
                refine r_tableIn (tgt := 75) dX12_reckon_1 (by rw [c10]; decide) (by rw [c10]; decide) (by rw [c10]; rfl) (by decide) ?_
                refine r_iload_n 1 dX12_reckon_75 rfl rfl ?_
                refine r_iload_n 2 dX12_reckon_76 rfl rfl ?_
                refine r_icmp_le (tgt := 84) dX12_reckon_77 (by decide) (fun c11 => ?_) (fun c11 => ?_)
                · have h := h.1 c11
                  refine r_iconst_0 dX12_reckon_84 ?_
                  exact r_iret dX12_reckon_85 rfl (Nat.le_refl _) (Nat.le_refl _) ⟨_, _, rfl, rfl, h⟩
                · have h := h.2 c11
                  refine r_iconst_1 dX12_reckon_80 ?_
                  refine r_goto (tgt := 85) dX12_reckon_81 (by decide) ?_
                  exact r_iret dX12_reckon_85 rfl (Nat.le_refl _) (Nat.le_refl _) ⟨_, _, rfl, rfl, h⟩
              · have h := h.2 c10
                refine r_tableOut (tgt := 86) dX12_reckon_1 (by have e0 : (x0).toInt ≠ 2 := sw_ne c1; have e1 : (x0).toInt ≠ 3 := sw_ne c2; have e2 : (x0).toInt ≠ 4 := sw_ne c3; have e3 : (x0).toInt ≠ 5 := sw_ne c4; have e4 : (x0).toInt ≠ 6 := sw_ne c6; have e5 : (x0).toInt ≠ 7 := sw_ne c8; have e6 : (x0).toInt ≠ 8 := sw_ne c10; omega) (by decide) ?_
                refine r_iload_n 1 dX12_reckon_86 rfl rfl ?_
                refine r_iload_n 2 dX12_reckon_87 rfl rfl ?_
                refine r_icmp_ne (tgt := 95) dX12_reckon_88 (by decide) (fun c12 => ?_) (fun c12 => ?_)
                · have h := h.1 c12
                  refine r_iconst_0 dX12_reckon_95 ?_
                  exact r_iret dX12_reckon_96 rfl (Nat.le_refl _) (Nat.le_refl _) ⟨_, _, rfl, rfl, h⟩
                · have h := h.2 c12
                  refine r_iconst_1 dX12_reckon_91 ?_
                  refine r_goto (tgt := 96) dX12_reckon_92 (by decide) ?_
                  exact r_iret dX12_reckon_96 rfl (Nat.le_refl _) (Nat.le_refl _) ⟨_, _, rfl, rfl, h⟩

theorem ct_reckon {E : EvT} {q : Nat → Nat} {d : Nat} {S : StM} {x0 x1 x2 : Int32} (hp : ((x0 = 5 ∨ x0 = 6) → ¬ x2 = 0)) : C_reckon E q d x0 x1 x2 S (fun r S1 => r = mReck x0 x1 x2 ∧ S1 = S) := by
  refine en_reckon ?_
  grind (splits := 40) [mReck, rmd]

theorem KP_reckon {E : EvT} {q : Nat → Nat} {I : MI} {d : Nat} {Qw : Option Value → va_W → Prop} {S : StM} {ls : List (Nat × Value)} {st : List Value} {pc : Nat} {x0 x1 x2 : Int32} (hp : ((x0 = 5 ∨ x0 = 6) → ¬ x2 = 0)) (hI : I.1.cls = RX12) (hW : (st.map fun v => v.category).sum ≤ 8) (hd : decode I.2.1 pc = .ok (.invokestatic 450, 3)) (kk : RM E q I (d + 1) Qw (S) ls (.int (mReck x0 x1 x2) :: st) (pc + 3)) : RM E q I (d + 1) Qw S ls (.int x2 :: .int x1 :: .int x0 :: st) pc := K_reckon hI hW hd (mI (ct_reckon (E := E) (q := q) (d := d) hp) (fun r S1 hs => by obtain ⟨hr, hs⟩ := hs; subst hr; subst hs; exact kk))

set_option maxRecDepth 20000 in
theorem en_factOf {E : EvT} {q : Nat → Nat} {d : Nat} {x0 : Int32} {S : StM} {P : Int32 → StM → Prop} (h : (¬ x0 = 119 → ((¬ x0 = 104 → ((¬ x0 = 107 → ((¬ x0 = 109 → ((¬ x0 = 112 → (P (-1) S)) ∧ (x0 = 112 → (P 4 S)))) ∧ (x0 = 109 → (P 3 S)))) ∧ (x0 = 107 → (P 2 S)))) ∧ (x0 = 104 → (P 1 S)))) ∧ (x0 = 119 → (P 0 S))) : C_factOf E q d x0 S P := by
  refine Cn.of rfl (Nat.le_of_ble_eq_true rfl) (ls := [(0, .int (x0))]) rfl ?_
  refine r_iload_n 0 dX12_factOf_0 rfl rfl ?_
  refine r_bipush_119 dX12_factOf_1 ?_
  refine r_icmp_ne (tgt := 10) dX12_factOf_3 (by decide) (fun c1 => ?_) (fun c1 => ?_)
  · have h := h.1 c1
    refine r_iload_n 0 dX12_factOf_10 rfl rfl ?_
    refine r_bipush_104 dX12_factOf_11 ?_
    refine r_icmp_ne (tgt := 20) dX12_factOf_13 (by decide) (fun c2 => ?_) (fun c2 => ?_)
    · have h := h.1 c2
      refine r_iload_n 0 dX12_factOf_20 rfl rfl ?_
      refine r_bipush_107 dX12_factOf_21 ?_
      refine r_icmp_ne (tgt := 30) dX12_factOf_23 (by decide) (fun c3 => ?_) (fun c3 => ?_)
      · have h := h.1 c3
        refine r_iload_n 0 dX12_factOf_30 rfl rfl ?_
        refine r_bipush_109 dX12_factOf_31 ?_
        refine r_icmp_ne (tgt := 40) dX12_factOf_33 (by decide) (fun c4 => ?_) (fun c4 => ?_)
        · have h := h.1 c4
          refine r_iload_n 0 dX12_factOf_40 rfl rfl ?_
          refine r_bipush_112 dX12_factOf_41 ?_
          refine r_icmp_ne (tgt := 50) dX12_factOf_43 (by decide) (fun c5 => ?_) (fun c5 => ?_)
          · have h := h.1 c5
            refine r_iconst_m1 dX12_factOf_50 ?_
            exact r_iret dX12_factOf_51 rfl (Nat.le_refl _) (Nat.le_refl _) ⟨_, _, rfl, rfl, h⟩
          · have h := h.2 c5
            refine r_iconst_4 dX12_factOf_46 ?_
            refine r_goto (tgt := 51) dX12_factOf_47 (by decide) ?_
            exact r_iret dX12_factOf_51 rfl (Nat.le_refl _) (Nat.le_refl _) ⟨_, _, rfl, rfl, h⟩
        · have h := h.2 c4
          refine r_iconst_3 dX12_factOf_36 ?_
          refine r_goto (tgt := 51) dX12_factOf_37 (by decide) ?_
          exact r_iret dX12_factOf_51 rfl (Nat.le_refl _) (Nat.le_refl _) ⟨_, _, rfl, rfl, h⟩
      · have h := h.2 c3
        refine r_iconst_2 dX12_factOf_26 ?_
        refine r_goto (tgt := 51) dX12_factOf_27 (by decide) ?_
        exact r_iret dX12_factOf_51 rfl (Nat.le_refl _) (Nat.le_refl _) ⟨_, _, rfl, rfl, h⟩
    · have h := h.2 c2
      refine r_iconst_1 dX12_factOf_16 ?_
      refine r_goto (tgt := 51) dX12_factOf_17 (by decide) ?_
      exact r_iret dX12_factOf_51 rfl (Nat.le_refl _) (Nat.le_refl _) ⟨_, _, rfl, rfl, h⟩
  · have h := h.2 c1
    refine r_iconst_0 dX12_factOf_6 ?_
    refine r_goto (tgt := 51) dX12_factOf_7 (by decide) ?_
    exact r_iret dX12_factOf_51 rfl (Nat.le_refl _) (Nat.le_refl _) ⟨_, _, rfl, rfl, h⟩

theorem ct_factOf {E : EvT} {q : Nat → Nat} {d : Nat} {S : StM} {x0 : Int32} : C_factOf E q d x0 S (fun r S1 => r = mFact x0 ∧ S1 = S) := by
  refine en_factOf ?_
  grind [mFact]

theorem KP_factOf {E : EvT} {q : Nat → Nat} {I : MI} {d : Nat} {Qw : Option Value → va_W → Prop} {S : StM} {ls : List (Nat × Value)} {st : List Value} {pc : Nat} {x0 : Int32} (hI : I.1.cls = RX12) (hW : (st.map fun v => v.category).sum ≤ 8) (hd : decode I.2.1 pc = .ok (.invokestatic 394, 3)) (kk : RM E q I (d + 1) Qw (S) ls (.int (mFact x0) :: st) (pc + 3)) : RM E q I (d + 1) Qw S ls (.int x0 :: st) pc := K_factOf hI hW hd (mI (ct_factOf (E := E) (q := q) (d := d)) (fun r S1 hs => by obtain ⟨hr, hs⟩ := hs; subst hr; subst hs; exact kk))

set_option maxRecDepth 20000 in
theorem en_sumSign {E : EvT} {q : Nat → Nat} {d : Nat} {x0 : Int32} {S : StM} {P : Int32 → StM → Prop} (h : (¬ x0 = 43 → ((¬ x0 = 45 → ((¬ x0 = 42 → ((¬ x0 = 47 → ((¬ x0 = 37 → (P (-1) S)) ∧ (x0 = 37 → (P 6 S)))) ∧ (x0 = 47 → (P 5 S)))) ∧ (x0 = 42 → (P 4 S)))) ∧ (x0 = 45 → (P 3 S)))) ∧ (x0 = 43 → (P 2 S))) : C_sumSign E q d x0 S P := by
  refine Cn.of rfl (Nat.le_of_ble_eq_true rfl) (ls := [(0, .int (x0))]) rfl ?_
  refine r_iload_n 0 dX12_sumSign_0 rfl rfl ?_
  refine r_bipush_43 dX12_sumSign_1 ?_
  refine r_icmp_ne (tgt := 10) dX12_sumSign_3 (by decide) (fun c1 => ?_) (fun c1 => ?_)
  · have h := h.1 c1
    refine r_iload_n 0 dX12_sumSign_10 rfl rfl ?_
    refine r_bipush_45 dX12_sumSign_11 ?_
    refine r_icmp_ne (tgt := 20) dX12_sumSign_13 (by decide) (fun c2 => ?_) (fun c2 => ?_)
    · have h := h.1 c2
      refine r_iload_n 0 dX12_sumSign_20 rfl rfl ?_
      refine r_bipush_42 dX12_sumSign_21 ?_
      refine r_icmp_ne (tgt := 30) dX12_sumSign_23 (by decide) (fun c3 => ?_) (fun c3 => ?_)
      · have h := h.1 c3
        refine r_iload_n 0 dX12_sumSign_30 rfl rfl ?_
        refine r_bipush_47 dX12_sumSign_31 ?_
        refine r_icmp_ne (tgt := 40) dX12_sumSign_33 (by decide) (fun c4 => ?_) (fun c4 => ?_)
        · have h := h.1 c4
          refine r_iload_n 0 dX12_sumSign_40 rfl rfl ?_
          refine r_bipush_37 dX12_sumSign_41 ?_
          refine r_icmp_ne (tgt := 51) dX12_sumSign_43 (by decide) (fun c5 => ?_) (fun c5 => ?_)
          · have h := h.1 c5
            refine r_iconst_m1 dX12_sumSign_51 ?_
            exact r_iret dX12_sumSign_52 rfl (Nat.le_refl _) (Nat.le_refl _) ⟨_, _, rfl, rfl, h⟩
          · have h := h.2 c5
            refine r_bipush_6 dX12_sumSign_46 ?_
            refine r_goto (tgt := 52) dX12_sumSign_48 (by decide) ?_
            exact r_iret dX12_sumSign_52 rfl (Nat.le_refl _) (Nat.le_refl _) ⟨_, _, rfl, rfl, h⟩
        · have h := h.2 c4
          refine r_iconst_5 dX12_sumSign_36 ?_
          refine r_goto (tgt := 52) dX12_sumSign_37 (by decide) ?_
          exact r_iret dX12_sumSign_52 rfl (Nat.le_refl _) (Nat.le_refl _) ⟨_, _, rfl, rfl, h⟩
      · have h := h.2 c3
        refine r_iconst_4 dX12_sumSign_26 ?_
        refine r_goto (tgt := 52) dX12_sumSign_27 (by decide) ?_
        exact r_iret dX12_sumSign_52 rfl (Nat.le_refl _) (Nat.le_refl _) ⟨_, _, rfl, rfl, h⟩
    · have h := h.2 c2
      refine r_iconst_3 dX12_sumSign_16 ?_
      refine r_goto (tgt := 52) dX12_sumSign_17 (by decide) ?_
      exact r_iret dX12_sumSign_52 rfl (Nat.le_refl _) (Nat.le_refl _) ⟨_, _, rfl, rfl, h⟩
  · have h := h.2 c1
    refine r_iconst_2 dX12_sumSign_6 ?_
    refine r_goto (tgt := 52) dX12_sumSign_7 (by decide) ?_
    exact r_iret dX12_sumSign_52 rfl (Nat.le_refl _) (Nat.le_refl _) ⟨_, _, rfl, rfl, h⟩

theorem ct_sumSign {E : EvT} {q : Nat → Nat} {d : Nat} {S : StM} {x0 : Int32} : C_sumSign E q d x0 S (fun r S1 => r = mSumSign x0 ∧ S1 = S) := by
  refine en_sumSign ?_
  grind [mSumSign]

theorem KP_sumSign {E : EvT} {q : Nat → Nat} {I : MI} {d : Nat} {Qw : Option Value → va_W → Prop} {S : StM} {ls : List (Nat × Value)} {st : List Value} {pc : Nat} {x0 : Int32} (hI : I.1.cls = RX12) (hW : (st.map fun v => v.category).sum ≤ 8) (hd : decode I.2.1 pc = .ok (.invokestatic 401, 3)) (kk : RM E q I (d + 1) Qw (S) ls (.int (mSumSign x0) :: st) (pc + 3)) : RM E q I (d + 1) Qw S ls (.int x0 :: st) pc := K_sumSign hI hW hd (mI (ct_sumSign (E := E) (q := q) (d := d)) (fun r S1 hs => by obtain ⟨hr, hs⟩ := hs; subst hr; subst hs; exact kk))

set_option maxRecDepth 20000 in
theorem en_isLetter {E : EvT} {q : Nat → Nat} {d : Nat} {x0 : Int32} {S : StM} {P : Bool → StM → Prop} (h : (x0 = 110 → (P true S)) ∧ (¬ x0 = 110 → ((x0 = 97 → (P true S)) ∧ (¬ x0 = 97 → ((x0 = 118 → (P true S)) ∧ (¬ x0 = 118 → ((x0 = 102 → (P true S)) ∧ (¬ x0 = 102 → ((¬ x0 = 120 → (P false S)) ∧ (x0 = 120 → (P true S))))))))))) : C_isLetter E q d x0 S P := by
  refine Cn.of rfl (Nat.le_of_ble_eq_true rfl) (ls := [(0, .int (x0))]) rfl ?_
  refine r_iload_n 0 dX12_isLetter_0 rfl rfl ?_
  refine r_bipush_110 dX12_isLetter_1 ?_
  refine r_icmp_eq (tgt := 30) dX12_isLetter_3 (by decide) (fun c1 => ?_) (fun c1 => ?_)
  · have h := h.1 c1
    refine r_iconst_1 dX12_isLetter_30 ?_
    refine r_goto (tgt := 35) dX12_isLetter_31 (by decide) ?_
    exact r_zret1 dX12_isLetter_35 rfl (Nat.le_refl _) (Nat.le_refl _) ⟨_, _, rfl, rfl, h⟩
  · have h := h.2 c1
    refine r_iload_n 0 dX12_isLetter_6 rfl rfl ?_
    refine r_bipush_97 dX12_isLetter_7 ?_
    refine r_icmp_eq (tgt := 30) dX12_isLetter_9 (by decide) (fun c2 => ?_) (fun c2 => ?_)
    · have h := h.1 c2
      refine r_iconst_1 dX12_isLetter_30 ?_
      refine r_goto (tgt := 35) dX12_isLetter_31 (by decide) ?_
      exact r_zret1 dX12_isLetter_35 rfl (Nat.le_refl _) (Nat.le_refl _) ⟨_, _, rfl, rfl, h⟩
    · have h := h.2 c2
      refine r_iload_n 0 dX12_isLetter_12 rfl rfl ?_
      refine r_bipush_118 dX12_isLetter_13 ?_
      refine r_icmp_eq (tgt := 30) dX12_isLetter_15 (by decide) (fun c3 => ?_) (fun c3 => ?_)
      · have h := h.1 c3
        refine r_iconst_1 dX12_isLetter_30 ?_
        refine r_goto (tgt := 35) dX12_isLetter_31 (by decide) ?_
        exact r_zret1 dX12_isLetter_35 rfl (Nat.le_refl _) (Nat.le_refl _) ⟨_, _, rfl, rfl, h⟩
      · have h := h.2 c3
        refine r_iload_n 0 dX12_isLetter_18 rfl rfl ?_
        refine r_bipush_102 dX12_isLetter_19 ?_
        refine r_icmp_eq (tgt := 30) dX12_isLetter_21 (by decide) (fun c4 => ?_) (fun c4 => ?_)
        · have h := h.1 c4
          refine r_iconst_1 dX12_isLetter_30 ?_
          refine r_goto (tgt := 35) dX12_isLetter_31 (by decide) ?_
          exact r_zret1 dX12_isLetter_35 rfl (Nat.le_refl _) (Nat.le_refl _) ⟨_, _, rfl, rfl, h⟩
        · have h := h.2 c4
          refine r_iload_n 0 dX12_isLetter_24 rfl rfl ?_
          refine r_bipush_120 dX12_isLetter_25 ?_
          refine r_icmp_ne (tgt := 34) dX12_isLetter_27 (by decide) (fun c5 => ?_) (fun c5 => ?_)
          · have h := h.1 c5
            refine r_iconst_0 dX12_isLetter_34 ?_
            exact r_zret0 dX12_isLetter_35 rfl (Nat.le_refl _) (Nat.le_refl _) ⟨_, _, rfl, rfl, h⟩
          · have h := h.2 c5
            refine r_iconst_1 dX12_isLetter_30 ?_
            refine r_goto (tgt := 35) dX12_isLetter_31 (by decide) ?_
            exact r_zret1 dX12_isLetter_35 rfl (Nat.le_refl _) (Nat.le_refl _) ⟨_, _, rfl, rfl, h⟩

theorem ct_isLetter {E : EvT} {q : Nat → Nat} {d : Nat} {S : StM} {x0 : Int32} : C_isLetter E q d x0 S (fun r S1 => r = mLetter x0 ∧ S1 = S) := by
  refine en_isLetter ?_
  grind [mLetter]

theorem KP_isLetter {E : EvT} {q : Nat → Nat} {I : MI} {d : Nat} {Qw : Option Value → va_W → Prop} {S : StM} {ls : List (Nat × Value)} {st : List Value} {pc : Nat} {x0 : Int32} (hI : I.1.cls = RX12) (hW : (st.map fun v => v.category).sum ≤ 8) (hd : decode I.2.1 pc = .ok (.invokestatic 426, 3)) (kk : RM E q I (d + 1) Qw (S) ls (.int (b2i (mLetter x0)) :: st) (pc + 3)) : RM E q I (d + 1) Qw S ls (.int x0 :: st) pc := K_isLetter hI hW hd (mB (ct_isLetter (E := E) (q := q) (d := d)) (fun r S1 hs => by obtain ⟨hr, hs⟩ := hs; subst hr; subst hs; exact kk))

set_option maxRecDepth 20000 in
theorem en_mostOf {E : EvT} {q : Nat → Nat} {d : Nat} {x0 : Int32} {S : StM} {P : Int32 → StM → Prop} (h : (¬ x0 = 110 → ((¬ x0 = 97 → ((¬ x0 = 118 → ((¬ x0 = 102 → (P 19 S)) ∧ (x0 = 102 → (P 7 S)))) ∧ (x0 = 118 → (P 99 S)))) ∧ (x0 = 97 → (P 8 S)))) ∧ (x0 = 110 → (P 3 S))) : C_mostOf E q d x0 S P := by
  refine Cn.of rfl (Nat.le_of_ble_eq_true rfl) (ls := [(0, .int (x0))]) rfl ?_
  refine r_iload_n 0 dX12_mostOf_0 rfl rfl ?_
  refine r_bipush_110 dX12_mostOf_1 ?_
  refine r_icmp_ne (tgt := 10) dX12_mostOf_3 (by decide) (fun c1 => ?_) (fun c1 => ?_)
  · have h := h.1 c1
    refine r_iload_n 0 dX12_mostOf_10 rfl rfl ?_
    refine r_bipush_97 dX12_mostOf_11 ?_
    refine r_icmp_ne (tgt := 21) dX12_mostOf_13 (by decide) (fun c2 => ?_) (fun c2 => ?_)
    · have h := h.1 c2
      refine r_iload_n 0 dX12_mostOf_21 rfl rfl ?_
      refine r_bipush_118 dX12_mostOf_22 ?_
      refine r_icmp_ne (tgt := 32) dX12_mostOf_24 (by decide) (fun c3 => ?_) (fun c3 => ?_)
      · have h := h.1 c3
        refine r_iload_n 0 dX12_mostOf_32 rfl rfl ?_
        refine r_bipush_102 dX12_mostOf_33 ?_
        refine r_icmp_ne (tgt := 43) dX12_mostOf_35 (by decide) (fun c4 => ?_) (fun c4 => ?_)
        · have h := h.1 c4
          refine r_bipush_19 dX12_mostOf_43 ?_
          exact r_iret dX12_mostOf_45 rfl (Nat.le_refl _) (Nat.le_refl _) ⟨_, _, rfl, rfl, h⟩
        · have h := h.2 c4
          refine r_bipush_7 dX12_mostOf_38 ?_
          refine r_goto (tgt := 45) dX12_mostOf_40 (by decide) ?_
          exact r_iret dX12_mostOf_45 rfl (Nat.le_refl _) (Nat.le_refl _) ⟨_, _, rfl, rfl, h⟩
      · have h := h.2 c3
        refine r_bipush_99 dX12_mostOf_27 ?_
        refine r_goto (tgt := 45) dX12_mostOf_29 (by decide) ?_
        exact r_iret dX12_mostOf_45 rfl (Nat.le_refl _) (Nat.le_refl _) ⟨_, _, rfl, rfl, h⟩
    · have h := h.2 c2
      refine r_bipush_8 dX12_mostOf_16 ?_
      refine r_goto (tgt := 45) dX12_mostOf_18 (by decide) ?_
      exact r_iret dX12_mostOf_45 rfl (Nat.le_refl _) (Nat.le_refl _) ⟨_, _, rfl, rfl, h⟩
  · have h := h.2 c1
    refine r_iconst_3 dX12_mostOf_6 ?_
    refine r_goto (tgt := 45) dX12_mostOf_7 (by decide) ?_
    exact r_iret dX12_mostOf_45 rfl (Nat.le_refl _) (Nat.le_refl _) ⟨_, _, rfl, rfl, h⟩

theorem ct_mostOf {E : EvT} {q : Nat → Nat} {d : Nat} {S : StM} {x0 : Int32} : C_mostOf E q d x0 S (fun r S1 => r = mMost x0 ∧ S1 = S) := by
  refine en_mostOf ?_
  grind [mMost]

theorem KP_mostOf {E : EvT} {q : Nat → Nat} {I : MI} {d : Nat} {Qw : Option Value → va_W → Prop} {S : StM} {ls : List (Nat × Value)} {st : List Value} {pc : Nat} {x0 : Int32} (hI : I.1.cls = RX12) (hW : (st.map fun v => v.category).sum ≤ 8) (hd : decode I.2.1 pc = .ok (.invokestatic 432, 3)) (kk : RM E q I (d + 1) Qw (S) ls (.int (mMost x0) :: st) (pc + 3)) : RM E q I (d + 1) Qw S ls (.int x0 :: st) pc := K_mostOf hI hW hd (mI (ct_mostOf (E := E) (q := q) (d := d)) (fun r S1 hs => by obtain ⟨hr, hs⟩ := hs; subst hr; subst hs; exact kk))

set_option maxRecDepth 20000 in
theorem en_byteHere {E : EvT} {q : Nat → Nat} {d : Nat} {S : StM} {P : Int32 → StM → Prop} (h : ((s_length0 S) ≤ (s_place0 S) → (P (-1) S)) ∧ (¬ (s_length0 S) ≤ (s_place0 S) → ((0 ≤ (s_place0 S) ∧ (s_place0 S) < 400) ∧ (P ((a_tape S (ix (s_place0 S))) &&& 255) S)))) : C_byteHere E q d S P := by
  refine Cn.of rfl (Nat.le_of_ble_eq_true rfl) (ls := [(0, .ref (q 0))]) rfl ?_
  refine r_aload_n 0 dX12_byteHere_0 rfl rfl ?_
  refine mg_29 rfl dX12_byteHere_1 ?_
  refine r_aload_n 0 dX12_byteHere_4 rfl rfl ?_
  refine mg_30 rfl dX12_byteHere_5 ?_
  refine r_icmp_ge (tgt := 27) dX12_byteHere_8 (by decide) (fun c1 => ?_) (fun c1 => ?_)
  · have h := h.1 c1
    refine r_iconst_m1 dX12_byteHere_27 ?_
    exact r_iret dX12_byteHere_28 rfl (Nat.le_refl _) (Nat.le_refl _) ⟨_, _, rfl, rfl, h⟩
  · have h := h.2 c1
    refine r_aload_n 0 dX12_byteHere_11 rfl rfl ?_
    refine mg_27 rfl dX12_byteHere_12 ?_
    refine r_aload_n 0 dX12_byteHere_15 rfl rfl ?_
    refine mg_29 rfl dX12_byteHere_16 ?_
    obtain ⟨b2, h⟩ := h
    refine ml_27 b2 dX12_byteHere_19 ?_
    refine r_sipush_255 dX12_byteHere_20 ?_
    refine r_iand dX12_byteHere_23 ?_
    refine r_goto (tgt := 28) dX12_byteHere_24 (by decide) ?_
    exact r_iret dX12_byteHere_28 rfl (Nat.le_refl _) (Nat.le_refl _) ⟨_, _, rfl, rfl, h⟩

theorem ct_byteHere {E : EvT} {q : Nat → Nat} {d : Nat} {S : StM} (hp : (s_place0 S < s_length0 S → 0 ≤ s_place0 S ∧ s_place0 S < 400)) : C_byteHere E q d S (fun r S1 => r = mByte S ∧ S1 = S) := by
  refine en_byteHere ?_
  grind [mByte]

theorem KP_byteHere {E : EvT} {q : Nat → Nat} {I : MI} {d : Nat} {Qw : Option Value → va_W → Prop} {S : StM} {ls : List (Nat × Value)} {st : List Value} {pc : Nat} (hp : (s_place0 S < s_length0 S → 0 ≤ s_place0 S ∧ s_place0 S < 400)) (hI : I.1.cls = RX12) (hW : (st.map fun v => v.category).sum ≤ 8) (hd : decode I.2.1 pc = .ok (.invokevirtual 354, 3)) (kk : RM E q I (d + 1) Qw (S) ls (.int (mByte S) :: st) (pc + 3)) : RM E q I (d + 1) Qw S ls (.ref (q 0) :: st) pc := K_byteHere hI hW hd (mI (ct_byteHere (E := E) (q := q) (d := d) hp) (fun r S1 hs => by obtain ⟨hr, hs⟩ := hs; subst hr; subst hs; exact kk))

set_option maxRecDepth 20000 in
theorem en_isDigit {E : EvT} {q : Nat → Nat} {d : Nat} {S : StM} {P : Bool → StM → Prop} (h : (s_place0 S < s_length0 S → 0 ≤ s_place0 S ∧ s_place0 S < 400) ∧ (((mByte S) < 48 → (P false S)) ∧ (¬ (mByte S) < 48 → ((57 < (mByte S) → (P false S)) ∧ (¬ 57 < (mByte S) → (P true S)))))) : C_isDigit E q (d + 1) S P := by
  refine Cn.of rfl (Nat.le_of_ble_eq_true rfl) (ls := [(0, .ref (q 0))]) rfl ?_
  refine r_aload_n 0 dX12_isDigit_0 rfl rfl ?_
  obtain ⟨b1, h⟩ := h
  refine KP_byteHere (d := d + 0) b1 rfl (Nat.le_of_ble_eq_true rfl) dX12_isDigit_1 ?_
  refine r_bipush_48 dX12_isDigit_4 ?_
  refine r_icmp_lt (tgt := 22) dX12_isDigit_6 (by decide) (fun c2 => ?_) (fun c2 => ?_)
  · have h := h.1 c2
    refine r_iconst_0 dX12_isDigit_22 ?_
    exact r_zret0 dX12_isDigit_23 rfl (Nat.le_refl _) (Nat.le_refl _) ⟨_, _, rfl, rfl, h⟩
  · have h := h.2 c2
    refine r_aload_n 0 dX12_isDigit_9 rfl rfl ?_
    refine KP_byteHere (d := d + 0) b1 rfl (Nat.le_of_ble_eq_true rfl) dX12_isDigit_10 ?_
    refine r_bipush_57 dX12_isDigit_13 ?_
    refine r_icmp_gt (tgt := 22) dX12_isDigit_15 (by decide) (fun c3 => ?_) (fun c3 => ?_)
    · have h := h.1 c3
      refine r_iconst_0 dX12_isDigit_22 ?_
      exact r_zret0 dX12_isDigit_23 rfl (Nat.le_refl _) (Nat.le_refl _) ⟨_, _, rfl, rfl, h⟩
    · have h := h.2 c3
      refine r_iconst_1 dX12_isDigit_18 ?_
      refine r_goto (tgt := 23) dX12_isDigit_19 (by decide) ?_
      exact r_zret1 dX12_isDigit_23 rfl (Nat.le_refl _) (Nat.le_refl _) ⟨_, _, rfl, rfl, h⟩

theorem ct_isDigit {E : EvT} {q : Nat → Nat} {d : Nat} {S : StM} (hp : (s_place0 S < s_length0 S → 0 ≤ s_place0 S ∧ s_place0 S < 400)) : C_isDigit E q (d + 1) S (fun r S1 => r = mDigit S ∧ S1 = S) := by
  refine en_isDigit ?_
  grind [mDigit]

theorem KP_isDigit {E : EvT} {q : Nat → Nat} {I : MI} {d : Nat} {Qw : Option Value → va_W → Prop} {S : StM} {ls : List (Nat × Value)} {st : List Value} {pc : Nat} (hp : (s_place0 S < s_length0 S → 0 ≤ s_place0 S ∧ s_place0 S < 400)) (hI : I.1.cls = RX12) (hW : (st.map fun v => v.category).sum ≤ 8) (hd : decode I.2.1 pc = .ok (.invokevirtual 367, 3)) (kk : RM E q I (d + 2) Qw (S) ls (.int (b2i (mDigit S)) :: st) (pc + 3)) : RM E q I (d + 2) Qw S ls (.ref (q 0) :: st) pc := K_isDigit hI hW hd (mB (ct_isDigit (E := E) (q := q) (d := d) hp) (fun r S1 hs => by obtain ⟨hr, hs⟩ := hs; subst hr; subst hs; exact kk))

set_option maxRecDepth 20000 in
theorem en_top {E : EvT} {q : Nat → Nat} {d : Nat} {S : StM} {P : Int32 → StM → Prop} (h : (¬ (s_waiting S) = 0 → ((0 ≤ ((s_waiting S) - 1) ∧ ((s_waiting S) - 1) < 180) ∧ (P ((a_waits S (ix ((s_waiting S) - 1))) / 1048576) S))) ∧ ((s_waiting S) = 0 → (P (-1) S))) : C_top E q d S P := by
  refine Cn.of rfl (Nat.le_of_ble_eq_true rfl) (ls := [(0, .ref (q 0))]) rfl ?_
  refine r_aload_n 0 dX12_top_0 rfl rfl ?_
  refine mg_35 rfl dX12_top_1 ?_
  refine r_if_ne (tgt := 11) dX12_top_4 (by decide) (fun c1 => ?_) (fun c1 => ?_)
  · have h := h.1 c1
    refine r_aload_n 0 dX12_top_11 rfl rfl ?_
    refine mg_38 rfl dX12_top_12 ?_
    refine r_aload_n 0 dX12_top_15 rfl rfl ?_
    refine mg_35 rfl dX12_top_16 ?_
    refine r_iconst_1 dX12_top_19 ?_
    refine r_isub dX12_top_20 ?_
    obtain ⟨b2, h⟩ := h
    refine ml_38 b2 dX12_top_21 ?_
    refine r_ldcw w8_175 dX12_top_22 ?_
    refine r_idiv dX12_top_25 (by decide) ?_
    exact r_iret dX12_top_26 rfl (Nat.le_refl _) (Nat.le_refl _) ⟨_, _, rfl, rfl, h⟩
  · have h := h.2 c1
    refine r_iconst_m1 dX12_top_7 ?_
    refine r_goto (tgt := 26) dX12_top_8 (by decide) ?_
    exact r_iret dX12_top_26 rfl (Nat.le_refl _) (Nat.le_refl _) ⟨_, _, rfl, rfl, h⟩

theorem ct_top {E : EvT} {q : Nat → Nat} {d : Nat} {S : StM} (hp : (¬ s_waiting S = 0 → 0 ≤ s_waiting S - 1 ∧ s_waiting S - 1 < 180)) : C_top E q d S (fun r S1 => r = mTop S ∧ S1 = S) := by
  refine en_top ?_
  grind [mTop]

theorem KP_top {E : EvT} {q : Nat → Nat} {I : MI} {d : Nat} {Qw : Option Value → va_W → Prop} {S : StM} {ls : List (Nat × Value)} {st : List Value} {pc : Nat} (hp : (¬ s_waiting S = 0 → 0 ≤ s_waiting S - 1 ∧ s_waiting S - 1 < 180)) (hI : I.1.cls = RX12) (hW : (st.map fun v => v.category).sum ≤ 8) (hd : decode I.2.1 pc = .ok (.invokevirtual 381, 3)) (kk : RM E q I (d + 1) Qw (S) ls (.int (mTop S) :: st) (pc + 3)) : RM E q I (d + 1) Qw S ls (.ref (q 0) :: st) pc := K_top hI hW hd (mI (ct_top (E := E) (q := q) (d := d) hp) (fun r S1 hs => by obtain ⟨hr, hs⟩ := hs; subst hr; subst hs; exact kk))
