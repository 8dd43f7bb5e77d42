def unitF : Nat → Int64 := fun j => match j with
  | 0 => 3142742836021 | 1 => 51520374361 | 2 => 844596301 | 3 => 13845841 | 4 => 226981 | 5 => 3721 | 6 => 61 | _ => 1
/-- what the start gives, and what every call keeps: the class's constants, a nest mate's link -/
def EOk (E : EvT) (q : Nat → Nat) : Prop := ∀ (A : Nat → Prop) (s : State), E.2.2.2 A s → va_Z RX3 "UNITS" "[J" (.ref (q 16)) A s s.heap ∧ va_T .long (q 16) 8 (fun j => .long (unitF j)) A s s.heap ∧ va_Nw (.methodLinkNest RX6 126 yX11_within RX11) s
section XS
variable {E : EvT} {q : Nat → Nat} {I : MI} {d : Nat} {Qw : Option Value → va_W → Prop} {S : StX} {ls : List (Nat × Value)} {st : List Value} {pc : Nat}
theorem xgs_UNITS (hE : EOk E q) (hI : I.1.cls = RX3) (hd : decode I.2.1 pc = .ok (.getstatic 124, 3)) (kk : RX E q I d Qw S ls (.ref (q 16) :: st) (pc + 3)) : RX E q I d Qw S ls st pc :=
  fun p e s m args below meth c A H locs la C hP hD hS hl => va_gets C.1.1 C.1.2.1 (hE A s C.2.2.2.2.2.2.1).1 hS C.1.2.2.2.1 (C.1.2.2.2.2 _ (by rw [hI]; exact w5_180)) (fun _ h9 => h9) hd (kk p e s m args below meth c A H locs la C hP hD hS hl)
theorem xlu (hE : EOk E q) {i : Int32} (hb : 0 ≤ i ∧ i < 8) (hd : decode I.2.1 pc = .ok (.laload, 1)) (kk : RX E q I d Qw S ls (.long (unitF (ix i)) :: st) (pc + 1)) : RX E q I d Qw S ls (.int i :: .ref (q 16) :: st) pc :=
  fun p e s m args below meth c A H locs la C hP hD hS hl => va_tl C.1.1 C.1.2.1 (hE A s C.2.2.2.2.2.2.1).2.1 hS (vin rfl hb) rfl hd (kk p e s m args below meth c A H locs la C hP hD hS hl)
theorem xcp_room (hW : (st.map fun v => v.category).sum ≤ 8) : (st.map fun v => v.category).sum + (nativeFrameWords "java/lang/System" "arraycopy" 5 + 11) ≤ (rmD (d + 1) 0 0).locals := by
  have h1 : nativeFrameWords "java/lang/System" "arraycopy" 5 + 11 ≤ 50 := by decide +kernel
  show _ ≤ 64 * (d + 1)
  omega
theorem r_callSN {mc ms k n : Nat} {Q : Option Value → va_W → Prop} {w : va_W} {J : MI} {As : List Value} {ix nA mc1 ms1 : Nat} {host : String} {Q1 : Option Value → va_W → Prop} (hN : ∀ (A : Nat → Prop) (s : State), E.2.2.2 A s → va_Nw (.methodLinkNest I.1.cls ix J.1 host) s) (hi0 : Cond.static J.1 ∈ WS) (hn0 : Cond.initialized J.1.cls ∈ WS) (hc0 : Cond.code J.1 J.2.1 J.2.2.1 J.2.2.2 ∈ WS) (hd0 : J.1.cls ≠ "java/lang/invoke/MethodHandle" ∧ J.1.cls ≠ "java/lang/invoke/VarHandle" ∧ (parseMethodDescriptor J.1.desc).map (fun d => d.parameters.length) = some nA) (hA0 : As.length = nA) (hL : J.2.2.1 ≤ 45)
    (hW : (st.map fun v => v.category).sum ≤ 8) (hd : decode I.2.1 pc = .ok (.invokestatic ix, 3)) (hf : k + mc1 ≤ mc ∧ n + ms1 ≤ ms) {stk : List Value} (hst : As.reverse ++ st = stk)
    (con : Cn E J d mc1 ms1 As w Q1) (kk : ∀ v w', Q1 v w' → RR E I (d + 1) mc ms Q w' (k + mc1) (n + ms1) ls (v.toList ++ st) (pc + 3)) : RR E I (d + 1) mc ms Q w k n ls stk pc := by
  intro p e s m args below meth c A H locs la C hP hD hS hl
  subst hst
  have hG : GoodIn WS (Cond.code J.1 J.2.1 J.2.2.1 J.2.2.2 :: WS) := by
    intro w hw
    refine ws_good w ?_
    rcases List.mem_cons.mp hw with rfl | h
    · exact hc0
    · exact h
  have cw := va_cnB (R := rmD (d + 1) mc ms) (rm := rmD d mc1 ms1) (mc := mc1) (ms := ms1) nA C.1.2.2.2.2 hG rfl rfl rfl (hN A s C.2.2.2.2.2.2.1) (C.1.2.2.2.2 _ hn0) hd0 ⟨Nat.le_refl _, by show 8 + (J.2.2.1 + 11) + 64 * d ≤ 64 * (d + 1); omega⟩
  refine rr_call (va_runSN (As := As) (rest := st) C.1 (con H.size C.2.2.2.2.2.2.2) ⟨cw, C.1.2.2.2.2 _ hi0, trivial⟩ ⟨rr_blind C.2.2.2.2.2.2.2, rr_pre C hP hD hS⟩ rfl hA0 hl.1 rfl (lv_room hW) hd hf) hS (rr_free hD hS C.2.2.2.2.2.1) (rr_free hD hS C.2.2.2.2.2.1) ?_
  intro v w1 H1 locs1 hq hP1 hD1 hS1
  exact kk v w1 hq p e s m args below meth c A H1 locs1 la C hP1 hD1 hS1 hl
theorem xcp_1_3 (hI : I.1.cls = RX0) (hW : (st.map fun v => v.category).sum ≤ 8) (hd : decode I.2.1 pc = .ok (.invokestatic 62, 3)) (kk : RX E q I (d + 1) Qw (xA S 3 (va_cpy (S.2.1 1) (S.2.1 3) 0 0 8)) ls st (pc + 3)) : RX E q I (d + 1) Qw S ls (.int 8 :: .int 0 :: .ref (q 103) :: .int 0 :: .ref (q 101) :: st) pc :=
  fun p e s m args below meth c A H locs la C hP hD hS hl => va_copyi (D := E.2.1) (ty := .int) C.1.1 C.1.2.1 (C.1.2.2.1.trans hl.1.symm) C.1.2.2.2.1 (C.1.2.2.2.2 _ (by rw [hI]; exact w6_40)) (C.1.2.2.2.2 _ w4_133) (C.1.2.2.2.2 _ w4_132) (C.1.2.2.2.2 _ w1_20) C.2.2.2.2.1 hP hD hS 11 13 0 0 xp_1 xp_3 rfl rfl rfl (by decide) (by decide) (by decide) (by decide) (by decide) (fun _ _ => rfl) (by show 1 ≤ d + 1; omega) (xcp_room hW) hd (fun H1 locs1 hP1 hD1 hS1 => kk p e s m args below meth c A H1 locs1 la C hP1 hD1 hS1 hl)
theorem xcp_2_4 (hI : I.1.cls = RX0) (hW : (st.map fun v => v.category).sum ≤ 8) (hd : decode I.2.1 pc = .ok (.invokestatic 62, 3)) (kk : RX E q I (d + 1) Qw (xA S 4 (va_cpy (S.2.1 2) (S.2.1 4) 0 0 8)) ls st (pc + 3)) : RX E q I (d + 1) Qw S ls (.int 8 :: .int 0 :: .ref (q 104) :: .int 0 :: .ref (q 102) :: st) pc :=
  fun p e s m args below meth c A H locs la C hP hD hS hl => va_copyi (D := E.2.1) (ty := .int) C.1.1 C.1.2.1 (C.1.2.2.1.trans hl.1.symm) C.1.2.2.2.1 (C.1.2.2.2.2 _ (by rw [hI]; exact w6_40)) (C.1.2.2.2.2 _ w4_133) (C.1.2.2.2.2 _ w4_132) (C.1.2.2.2.2 _ w1_20) C.2.2.2.2.1 hP hD hS 12 14 0 0 xp_2 xp_4 rfl rfl rfl (by decide) (by decide) (by decide) (by decide) (by decide) (fun _ _ => rfl) (by show 1 ≤ d + 1; omega) (xcp_room hW) hd (fun H1 locs1 hP1 hD1 hS1 => kk p e s m args below meth c A H1 locs1 la C hP1 hD1 hS1 hl)
end XS
def fillF (n : Nat) (x : Int32) (a : Nat → Int32) : Nat → Int32 := fun i => if i < n then x else a i
def fillL (n : Nat) (x : Int64) (a : Nat → Int64) : Nat → Int64 := fun i => if i < n then x else a i
theorem fill_0 (x : Int32) (a : Nat → Int32) : fillF 0 x a = a := by funext i; simp [fillF]
theorem fill_s (n : Nat) (x : Int32) (a : Nat → Int32) : upd (fillF n x a) n x = fillF (n + 1) x a := by funext i; simp only [upd, fillF]; split <;> split <;> simp_all <;> omega
theorem fillL_0 (x : Int64) (a : Nat → Int64) : fillL 0 x a = a := by funext i; simp [fillL]
theorem fillL_s (n : Nat) (x : Int64) (a : Nat → Int64) : vp_updL (fillL n x a) n x = fillL (n + 1) x a := by funext i; simp only [vp_updL, fillL]; split <;> split <;> simp_all <;> omega

def jMin (x y : Int32) : Int32 := if y < x then y else x
def jMax (x y : Int32) : Int32 := if x < y then y else x
def jMaxl (x y : Int64) : Int64 := if y < x then x else y
theorem xL_self (S : StX) (i : Nat) : xL S i (S.2.2.1 i) = S := by
  obtain ⟨a, b, c, d, e⟩ := S
  have : va_up c i (c i) = c := by
    funext j
    simp only [va_up]
    split
    · next hj => rw [hj]
    · rfl
  simp only [xL, this]
theorem xA_self (S : StX) (i : Nat) : xA S i (S.2.1 i) = S := by
  obtain ⟨a, b, c, d, e⟩ := S
  have : va_up b i (b i) = b := by
    funext j
    simp only [va_up]
    split
    · next hj => rw [hj]
    · rfl
  simp only [xA, this]
theorem KP10_Jmin {E : EvT} {q : Nat → Nat} {I : MI} {d : Nat} {Qw : Option Value → va_W → Prop} {S : StX} {ls : List (Nat × Value)} {st : List Value} {pc : Nat} {x y : Int32} (hI : I.1.cls = RX10) (hW : (st.map fun v => v.category).sum ≤ 8) (hd : decode I.2.1 pc = .ok (.invokestatic 77, 3)) (kk : RX E q I (d + 1) Qw S ls (.int (jMin x y) :: st) (pc + 3)) : RX E q I (d + 1) Qw S ls (.int y :: .int x :: st) pc :=
  fun p e s m args below meth c A H locs la C hP hD hS hl => va_mmin C.1.1 C.1.2.1 (C.1.2.2.1.trans hl.1.symm) C.1.2.2.2.1 (C.1.2.2.2.2 _ (by rw [hI]; exact w6_133)) (C.1.2.2.2.2 _ w4_43) (C.1.2.2.2.2 _ w1_18) (C.1.2.2.2.2 _ w4_44) (by show 1 ≤ d + 1; omega) (by show _ ≤ 64 * (d + 1); omega) (Nat.le_refl _) (Nat.le_refl _) hd (kk p e s m args below meth c A H locs la C hP hD hS hl)
theorem KP2_Jmin {E : EvT} {q : Nat → Nat} {I : MI} {d : Nat} {Qw : Option Value → va_W → Prop} {S : StX} {ls : List (Nat × Value)} {st : List Value} {pc : Nat} {x y : Int32} (hI : I.1.cls = RX2) (hW : (st.map fun v => v.category).sum ≤ 8) (hd : decode I.2.1 pc = .ok (.invokestatic 91, 3)) (kk : RX E q I (d + 1) Qw S ls (.int (jMin x y) :: st) (pc + 3)) : RX E q I (d + 1) Qw S ls (.int y :: .int x :: st) pc :=
  fun p e s m args below meth c A H locs la C hP hD hS hl => va_mmin C.1.1 C.1.2.1 (C.1.2.2.1.trans hl.1.symm) C.1.2.2.2.1 (C.1.2.2.2.2 _ (by rw [hI]; exact w5_82)) (C.1.2.2.2.2 _ w4_43) (C.1.2.2.2.2 _ w1_18) (C.1.2.2.2.2 _ w4_44) (by show 1 ≤ d + 1; omega) (by show _ ≤ 64 * (d + 1); omega) (Nat.le_refl _) (Nat.le_refl _) hd (kk p e s m args below meth c A H locs la C hP hD hS hl)
theorem KP6_Jmin {E : EvT} {q : Nat → Nat} {I : MI} {d : Nat} {Qw : Option Value → va_W → Prop} {S : StX} {ls : List (Nat × Value)} {st : List Value} {pc : Nat} {x y : Int32} (hI : I.1.cls = RX6) (hW : (st.map fun v => v.category).sum ≤ 8) (hd : decode I.2.1 pc = .ok (.invokestatic 31, 3)) (kk : RX E q I (d + 1) Qw S ls (.int (jMin x y) :: st) (pc + 3)) : RX E q I (d + 1) Qw S ls (.int y :: .int x :: st) pc :=
  fun p e s m args below meth c A H locs la C hP hD hS hl => va_mmin C.1.1 C.1.2.1 (C.1.2.2.1.trans hl.1.symm) C.1.2.2.2.1 (C.1.2.2.2.2 _ (by rw [hI]; exact w4_42)) (C.1.2.2.2.2 _ w4_43) (C.1.2.2.2.2 _ w1_18) (C.1.2.2.2.2 _ w4_44) (by show 1 ≤ d + 1; omega) (by show _ ≤ 64 * (d + 1); omega) (Nat.le_refl _) (Nat.le_refl _) hd (kk p e s m args below meth c A H locs la C hP hD hS hl)
theorem KP2_Jmax {E : EvT} {q : Nat → Nat} {I : MI} {d : Nat} {Qw : Option Value → va_W → Prop} {S : StX} {ls : List (Nat × Value)} {st : List Value} {pc : Nat} {x y : Int32} (hI : I.1.cls = RX2) (hW : (st.map fun v => v.category).sum ≤ 8) (hd : decode I.2.1 pc = .ok (.invokestatic 98, 3)) (kk : RX E q I (d + 1) Qw S ls (.int (jMax x y) :: st) (pc + 3)) : RX E q I (d + 1) Qw S ls (.int y :: .int x :: st) pc :=
  fun p e s m args below meth c A H locs la C hP hD hS hl => va_mmax C.1.1 C.1.2.1 (C.1.2.2.1.trans hl.1.symm) C.1.2.2.2.1 (C.1.2.2.2.2 _ (by rw [hI]; exact w5_83)) (C.1.2.2.2.2 _ w4_178) (C.1.2.2.2.2 _ w1_18) (C.1.2.2.2.2 _ w4_179) (by show 1 ≤ d + 1; omega) (by show _ ≤ 64 * (d + 1); omega) (Nat.le_refl _) (Nat.le_refl _) hd (kk p e s m args below meth c A H locs la C hP hD hS hl)
theorem KP3_Jmaxl {E : EvT} {q : Nat → Nat} {I : MI} {d : Nat} {Qw : Option Value → va_W → Prop} {S : StX} {ls : List (Nat × Value)} {st : List Value} {pc : Nat} {x y : Int64} (hI : I.1.cls = RX3) (hW : (st.map fun v => v.category).sum ≤ 8) (hd : decode I.2.1 pc = .ok (.invokestatic 108, 3)) (kk : RX E q I (d + 1) Qw S ls (.long (jMaxl x y) :: st) (pc + 3)) : RX E q I (d + 1) Qw S ls (.long y :: .long x :: st) pc :=
  fun p e s m args below meth c A H locs la C hP hD hS hl => va_mmax_long C.1.1 C.1.2.1 (C.1.2.2.1.trans hl.1.symm) C.1.2.2.2.1 (C.1.2.2.2.2 _ (by rw [hI]; exact w5_186)) (C.1.2.2.2.2 _ w5_187) (C.1.2.2.2.2 _ w1_18) (C.1.2.2.2.2 _ w5_188) (by show 1 ≤ d + 1; omega) (by show _ ≤ 64 * (d + 1); omega) (Nat.le_refl _) (Nat.le_refl _) hd (kk p e s m args below meth c A H locs la C hP hD hS hl)
abbrev iX_Jfill_8 : MI := (yJ7_fill_53178, cJ7_fill_53178, 4, none)
abbrev C_Jfill_8 (E : EvT) (q : Nat → Nat) (d : Nat) (x1 : Int32) (S : StX) (P : StX → Prop) : Prop := Cn E iX_Jfill_8 d 0 0 [.ref (q 108), .int x1] (wX E q S) (qVx E q P)
abbrev T_Jfill_8_5 (E : EvT) (q : Nat → Nat) (D : Nat) (P : StX → Prop) (S : StX) (y1 : Int32) (y2 : Int32) (y3 : Int32) : Prop := RX E q iX_Jfill_8 D (qVx E q P) S [(0, .ref (q 108)), (1, .int (y1)), (2, .int (y2)), (3, .int (y3))] [] 5
set_option maxRecDepth 20000 in
theorem en_Jfill_8 {E : EvT} {q : Nat → Nat} {d : Nat} {x1 : Int32} {S : StX} {P : StX → Prop} (h : T_Jfill_8_5 E q d P S x1 0 100) : C_Jfill_8 E q d x1 S P := by
  refine Cn.of rfl (Nat.le_of_ble_eq_true rfl) (ls := [(0, .ref (q 108)), (1, .int (x1))]) rfl ?_
  refine r_iconst_0 dJ7_fill_53178_0 ?_
  refine r_istore_n [(2, .int (0)), (0, .ref (q 108)), (1, .int (x1))] dJ7_fill_53178_1 rfl (Nat.le_of_ble_eq_true rfl) rfl ?_
  refine r_aload_n 1 dJ7_fill_53178_2 rfl rfl ?_
  refine xn_8 dJ7_fill_53178_3 ?_
  refine r_istore_n [(3, .int (100)), (2, .int (0)), (0, .ref (q 108)), (1, .int (x1))] dJ7_fill_53178_4 rfl (Nat.le_of_ble_eq_true rfl) rfl ?_
  refine r_ls [2, 3, 1, 0] (ls2 := [(0, .ref (q 108)), (1, .int (x1)), (2, .int (0)), (3, .int (100))]) rfl ?_
  exact h
set_option maxRecDepth 20000 in
theorem sg_Jfill_8_5 {E : EvT} {q : Nat → Nat} {d : Nat} {S : StX} {P : StX → Prop} {y1 : Int32} {y2 : Int32} {y3 : Int32} (h : (y3 ≤ y2 → (P S)) ∧ (¬ y3 ≤ y2 → ((0 ≤ y2 ∧ y2 < 100) ∧ (T_Jfill_8_5 E q d P (xA S 8 (upd (xa_Fall_height S) (ix y2) y1)) y1 (y2 + 1) y3)))) : T_Jfill_8_5 E q d P S y1 y2 y3 := by
  refine r_iload_n 2 dJ7_fill_53178_5 rfl rfl ?_
  refine r_iload_n 3 dJ7_fill_53178_6 rfl rfl ?_
  refine r_icmp_ge (tgt := 20) dJ7_fill_53178_7 (by decide) (fun c1 => ?_) (fun c1 => ?_)
  · have h := h.1 c1
    exact r_vret dJ7_fill_53178_20 rfl (Nat.le_refl _) (Nat.le_refl _) ⟨_, rfl, rfl, h⟩
  · have h := h.2 c1
    refine r_aload_n 0 dJ7_fill_53178_10 rfl rfl ?_
    refine r_iload_n 2 dJ7_fill_53178_11 rfl rfl ?_
    refine r_iload_n 1 dJ7_fill_53178_12 rfl rfl ?_
    obtain ⟨b2, h⟩ := h
    refine xt_8 b2 dJ7_fill_53178_13 ?_
    refine r_iinc 2 [(2, .int (y2 + 1)), (0, .ref (q 108)), (1, .int (y1)), (3, .int (y3))] dJ7_fill_53178_14 rfl rfl (Nat.le_of_ble_eq_true rfl) rfl ?_
    refine r_goto (tgt := 5) dJ7_fill_53178_17 (by decide) ?_
    refine r_ls [1, 2, 0, 3] (ls2 := [(0, .ref (q 108)), (1, .int (y1)), (2, .int (y2 + 1)), (3, .int (y3))]) rfl ?_
    exact h

theorem lp_Jfill_8 {E : EvT} {q : Nat → Nat} {d : Nat} {P : StX → Prop} {x : Int32} {S : StX} (h : P (xA S 8 (fillF 100 x (S.2.1 8)))) : ∀ (m i : Nat), i + m = 100 → T_Jfill_8_5 E q d P (xA S 8 (fillF i x (S.2.1 8))) x (nI i) 100 := by
  intro m
  induction m with
  | zero =>
    intro i hi
    have : i = 100 := by omega
    subst this
    exact sg_Jfill_8_5 ⟨fun _ => h, fun c => absurd (by decide) c⟩
  | succ m ih =>
    intro i hi
    refine sg_Jfill_8_5 ⟨fun c => absurd c (nI_ge (a := i) (b := 100) (by omega) (by omega)), fun _ => ?_⟩
    have hin : (0 : Int32) ≤ nI i ∧ nI i < 100 := ⟨nI_pos' (by omega), nI_lt (b := 100) (by omega) (by omega)⟩
    refine ⟨hin, ?_⟩
    have h1 := ih (i + 1) (by omega)
    rw [← fill_s, ← nI_1] at h1
    show T_Jfill_8_5 E q d P (xA S 8 (upd (fillF i x (S.2.1 8)) (ix (nI i)) x)) x (nI i + 1) 100
    rw [show ix (nI i) = i from nI_clamp (by omega)]
    exact h1
theorem ct_Jfill_8 {E : EvT} {q : Nat → Nat} {d : Nat} {x1 : Int32} {S : StX} : C_Jfill_8 E q d x1 S (fun S1 => S1 = xA S 8 (fillF 100 x1 (S.2.1 8))) := by
  refine en_Jfill_8 ?_
  have h := lp_Jfill_8 (E := E) (q := q) (d := d) (P := fun S1 => S1 = xA S 8 (fillF 100 x1 (S.2.1 8))) (x := x1) (S := S) rfl 100 0 (by omega)
  rw [fill_0, xA_self] at h
  exact h
theorem KP0_Jfill_8 {E : EvT} {q : Nat → Nat} {I : MI} {d : Nat} {Qw : Option Value → va_W → Prop} {S : StX} {ls : List (Nat × Value)} {st : List Value} {pc : Nat} {x1 : Int32} (hI : I.1.cls = RX0) (hW : (st.map fun v => v.category).sum ≤ 8) (hd : decode I.2.1 pc = .ok (.invokestatic 49, 3)) (kk : RX E q I (d + 1) Qw (xA S 8 (fillF 100 x1 (S.2.1 8))) ls st (pc + 3)) : RX E q I (d + 1) Qw S ls (.int x1 :: .ref (q 108) :: st) pc := r_callS (J := iX_Jfill_8) (As := [.ref (q 108), .int x1]) (by rw [hI]; exact w2_196) w2_197 w1_14 w2_198 (nA := 2) (by decide +kernel) rfl (by decide) hW hd ⟨Nat.le_refl _, Nat.le_refl _⟩ rfl ct_Jfill_8 (fun v w ⟨S1, hv, hw, h⟩ => by subst hv; subst hw; subst h; exact kk)
abbrev iX_Jfill_14 : MI := (yJ7_fill_53178, cJ7_fill_53178, 4, none)
abbrev C_Jfill_14 (E : EvT) (q : Nat → Nat) (d : Nat) (x1 : Int32) (S : StX) (P : StX → Prop) : Prop := Cn E iX_Jfill_14 d 0 0 [.ref (q 114), .int x1] (wX E q S) (qVx E q P)
abbrev T_Jfill_14_5 (E : EvT) (q : Nat → Nat) (D : Nat) (P : StX → Prop) (S : StX) (y1 : Int32) (y2 : Int32) (y3 : Int32) : Prop := RX E q iX_Jfill_14 D (qVx E q P) S [(0, .ref (q 114)), (1, .int (y1)), (2, .int (y2)), (3, .int (y3))] [] 5
set_option maxRecDepth 20000 in
theorem en_Jfill_14 {E : EvT} {q : Nat → Nat} {d : Nat} {x1 : Int32} {S : StX} {P : StX → Prop} (h : T_Jfill_14_5 E q d P S x1 0 100) : C_Jfill_14 E q d x1 S P := by
  refine Cn.of rfl (Nat.le_of_ble_eq_true rfl) (ls := [(0, .ref (q 114)), (1, .int (x1))]) rfl ?_
  refine r_iconst_0 dJ7_fill_53178_0 ?_
  refine r_istore_n [(2, .int (0)), (0, .ref (q 114)), (1, .int (x1))] dJ7_fill_53178_1 rfl (Nat.le_of_ble_eq_true rfl) rfl ?_
  refine r_aload_n 1 dJ7_fill_53178_2 rfl rfl ?_
  refine xn_14 dJ7_fill_53178_3 ?_
  refine r_istore_n [(3, .int (100)), (2, .int (0)), (0, .ref (q 114)), (1, .int (x1))] dJ7_fill_53178_4 rfl (Nat.le_of_ble_eq_true rfl) rfl ?_
  refine r_ls [2, 3, 1, 0] (ls2 := [(0, .ref (q 114)), (1, .int (x1)), (2, .int (0)), (3, .int (100))]) rfl ?_
  exact h
set_option maxRecDepth 20000 in
theorem sg_Jfill_14_5 {E : EvT} {q : Nat → Nat} {d : Nat} {S : StX} {P : StX → Prop} {y1 : Int32} {y2 : Int32} {y3 : Int32} (h : (y3 ≤ y2 → (P S)) ∧ (¬ y3 ≤ y2 → ((0 ≤ y2 ∧ y2 < 100) ∧ (T_Jfill_14_5 E q d P (xA S 14 (upd (xa_Fall_steps S) (ix y2) y1)) y1 (y2 + 1) y3)))) : T_Jfill_14_5 E q d P S y1 y2 y3 := by
  refine r_iload_n 2 dJ7_fill_53178_5 rfl rfl ?_
  refine r_iload_n 3 dJ7_fill_53178_6 rfl rfl ?_
  refine r_icmp_ge (tgt := 20) dJ7_fill_53178_7 (by decide) (fun c1 => ?_) (fun c1 => ?_)
  · have h := h.1 c1
    exact r_vret dJ7_fill_53178_20 rfl (Nat.le_refl _) (Nat.le_refl _) ⟨_, rfl, rfl, h⟩
  · have h := h.2 c1
    refine r_aload_n 0 dJ7_fill_53178_10 rfl rfl ?_
    refine r_iload_n 2 dJ7_fill_53178_11 rfl rfl ?_
    refine r_iload_n 1 dJ7_fill_53178_12 rfl rfl ?_
    obtain ⟨b2, h⟩ := h
    refine xt_14 b2 dJ7_fill_53178_13 ?_
    refine r_iinc 2 [(2, .int (y2 + 1)), (0, .ref (q 114)), (1, .int (y1)), (3, .int (y3))] dJ7_fill_53178_14 rfl rfl (Nat.le_of_ble_eq_true rfl) rfl ?_
    refine r_goto (tgt := 5) dJ7_fill_53178_17 (by decide) ?_
    refine r_ls [1, 2, 0, 3] (ls2 := [(0, .ref (q 114)), (1, .int (y1)), (2, .int (y2 + 1)), (3, .int (y3))]) rfl ?_
    exact h

theorem lp_Jfill_14 {E : EvT} {q : Nat → Nat} {d : Nat} {P : StX → Prop} {x : Int32} {S : StX} (h : P (xA S 14 (fillF 100 x (S.2.1 14)))) : ∀ (m i : Nat), i + m = 100 → T_Jfill_14_5 E q d P (xA S 14 (fillF i x (S.2.1 14))) x (nI i) 100 := by
  intro m
  induction m with
  | zero =>
    intro i hi
    have : i = 100 := by omega
    subst this
    exact sg_Jfill_14_5 ⟨fun _ => h, fun c => absurd (by decide) c⟩
  | succ m ih =>
    intro i hi
    refine sg_Jfill_14_5 ⟨fun c => absurd c (nI_ge (a := i) (b := 100) (by omega) (by omega)), fun _ => ?_⟩
    have hin : (0 : Int32) ≤ nI i ∧ nI i < 100 := ⟨nI_pos' (by omega), nI_lt (b := 100) (by omega) (by omega)⟩
    refine ⟨hin, ?_⟩
    have h1 := ih (i + 1) (by omega)
    rw [← fill_s, ← nI_1] at h1
    show T_Jfill_14_5 E q d P (xA S 14 (upd (fillF i x (S.2.1 14)) (ix (nI i)) x)) x (nI i + 1) 100
    rw [show ix (nI i) = i from nI_clamp (by omega)]
    exact h1
theorem ct_Jfill_14 {E : EvT} {q : Nat → Nat} {d : Nat} {x1 : Int32} {S : StX} : C_Jfill_14 E q d x1 S (fun S1 => S1 = xA S 14 (fillF 100 x1 (S.2.1 14))) := by
  refine en_Jfill_14 ?_
  have h := lp_Jfill_14 (E := E) (q := q) (d := d) (P := fun S1 => S1 = xA S 14 (fillF 100 x1 (S.2.1 14))) (x := x1) (S := S) rfl 100 0 (by omega)
  rw [fill_0, xA_self] at h
  exact h
theorem KP0_Jfill_14 {E : EvT} {q : Nat → Nat} {I : MI} {d : Nat} {Qw : Option Value → va_W → Prop} {S : StX} {ls : List (Nat × Value)} {st : List Value} {pc : Nat} {x1 : Int32} (hI : I.1.cls = RX0) (hW : (st.map fun v => v.category).sum ≤ 8) (hd : decode I.2.1 pc = .ok (.invokestatic 49, 3)) (kk : RX E q I (d + 1) Qw (xA S 14 (fillF 100 x1 (S.2.1 14))) ls st (pc + 3)) : RX E q I (d + 1) Qw S ls (.int x1 :: .ref (q 114) :: st) pc := r_callS (J := iX_Jfill_14) (As := [.ref (q 114), .int x1]) (by rw [hI]; exact w2_196) w2_197 w1_14 w2_198 (nA := 2) (by decide +kernel) rfl (by decide) hW hd ⟨Nat.le_refl _, Nat.le_refl _⟩ rfl ct_Jfill_14 (fun v w ⟨S1, hv, hw, h⟩ => by subst hv; subst hw; subst h; exact kk)
abbrev iX_Jfill_53 : MI := (yJ7_fill_53178, cJ7_fill_53178, 4, none)
abbrev C_Jfill_53 (E : EvT) (q : Nat → Nat) (d : Nat) (x1 : Int32) (S : StX) (P : StX → Prop) : Prop := Cn E iX_Jfill_53 d 0 0 [.ref (q 153), .int x1] (wX E q S) (qVx E q P)
abbrev T_Jfill_53_5 (E : EvT) (q : Nat → Nat) (D : Nat) (P : StX → Prop) (S : StX) (y1 : Int32) (y2 : Int32) (y3 : Int32) : Prop := RX E q iX_Jfill_53 D (qVx E q P) S [(0, .ref (q 153)), (1, .int (y1)), (2, .int (y2)), (3, .int (y3))] [] 5
set_option maxRecDepth 20000 in
theorem en_Jfill_53 {E : EvT} {q : Nat → Nat} {d : Nat} {x1 : Int32} {S : StX} {P : StX → Prop} (h : T_Jfill_53_5 E q d P S x1 0 20) : C_Jfill_53 E q d x1 S P := by
  refine Cn.of rfl (Nat.le_of_ble_eq_true rfl) (ls := [(0, .ref (q 153)), (1, .int (x1))]) rfl ?_
  refine r_iconst_0 dJ7_fill_53178_0 ?_
  refine r_istore_n [(2, .int (0)), (0, .ref (q 153)), (1, .int (x1))] dJ7_fill_53178_1 rfl (Nat.le_of_ble_eq_true rfl) rfl ?_
  refine r_aload_n 1 dJ7_fill_53178_2 rfl rfl ?_
  refine xn_53 dJ7_fill_53178_3 ?_
  refine r_istore_n [(3, .int (20)), (2, .int (0)), (0, .ref (q 153)), (1, .int (x1))] dJ7_fill_53178_4 rfl (Nat.le_of_ble_eq_true rfl) rfl ?_
  refine r_ls [2, 3, 1, 0] (ls2 := [(0, .ref (q 153)), (1, .int (x1)), (2, .int (0)), (3, .int (20))]) rfl ?_
  exact h
set_option maxRecDepth 20000 in
theorem sg_Jfill_53_5 {E : EvT} {q : Nat → Nat} {d : Nat} {S : StX} {P : StX → Prop} {y1 : Int32} {y2 : Int32} {y3 : Int32} (h : (y3 ≤ y2 → (P S)) ∧ (¬ y3 ≤ y2 → ((0 ≤ y2 ∧ y2 < 20) ∧ (T_Jfill_53_5 E q d P (xA S 53 (upd (xa_Finds_dugIn S) (ix y2) y1)) y1 (y2 + 1) y3)))) : T_Jfill_53_5 E q d P S y1 y2 y3 := by
  refine r_iload_n 2 dJ7_fill_53178_5 rfl rfl ?_
  refine r_iload_n 3 dJ7_fill_53178_6 rfl rfl ?_
  refine r_icmp_ge (tgt := 20) dJ7_fill_53178_7 (by decide) (fun c1 => ?_) (fun c1 => ?_)
  · have h := h.1 c1
    exact r_vret dJ7_fill_53178_20 rfl (Nat.le_refl _) (Nat.le_refl _) ⟨_, rfl, rfl, h⟩
  · have h := h.2 c1
    refine r_aload_n 0 dJ7_fill_53178_10 rfl rfl ?_
    refine r_iload_n 2 dJ7_fill_53178_11 rfl rfl ?_
    refine r_iload_n 1 dJ7_fill_53178_12 rfl rfl ?_
    obtain ⟨b2, h⟩ := h
    refine xt_53 b2 dJ7_fill_53178_13 ?_
    refine r_iinc 2 [(2, .int (y2 + 1)), (0, .ref (q 153)), (1, .int (y1)), (3, .int (y3))] dJ7_fill_53178_14 rfl rfl (Nat.le_of_ble_eq_true rfl) rfl ?_
    refine r_goto (tgt := 5) dJ7_fill_53178_17 (by decide) ?_
    refine r_ls [1, 2, 0, 3] (ls2 := [(0, .ref (q 153)), (1, .int (y1)), (2, .int (y2 + 1)), (3, .int (y3))]) rfl ?_
    exact h

theorem lp_Jfill_53 {E : EvT} {q : Nat → Nat} {d : Nat} {P : StX → Prop} {x : Int32} {S : StX} (h : P (xA S 53 (fillF 20 x (S.2.1 53)))) : ∀ (m i : Nat), i + m = 20 → T_Jfill_53_5 E q d P (xA S 53 (fillF i x (S.2.1 53))) x (nI i) 20 := by
  intro m
  induction m with
  | zero =>
    intro i hi
    have : i = 20 := by omega
    subst this
    exact sg_Jfill_53_5 ⟨fun _ => h, fun c => absurd (by decide) c⟩
  | succ m ih =>
    intro i hi
    refine sg_Jfill_53_5 ⟨fun c => absurd c (nI_ge (a := i) (b := 20) (by omega) (by omega)), fun _ => ?_⟩
    have hin : (0 : Int32) ≤ nI i ∧ nI i < 20 := ⟨nI_pos' (by omega), nI_lt (b := 20) (by omega) (by omega)⟩
    refine ⟨hin, ?_⟩
    have h1 := ih (i + 1) (by omega)
    rw [← fill_s, ← nI_1] at h1
    show T_Jfill_53_5 E q d P (xA S 53 (upd (fillF i x (S.2.1 53)) (ix (nI i)) x)) x (nI i + 1) 20
    rw [show ix (nI i) = i from nI_clamp (by omega)]
    exact h1
theorem ct_Jfill_53 {E : EvT} {q : Nat → Nat} {d : Nat} {x1 : Int32} {S : StX} : C_Jfill_53 E q d x1 S (fun S1 => S1 = xA S 53 (fillF 20 x1 (S.2.1 53))) := by
  refine en_Jfill_53 ?_
  have h := lp_Jfill_53 (E := E) (q := q) (d := d) (P := fun S1 => S1 = xA S 53 (fillF 20 x1 (S.2.1 53))) (x := x1) (S := S) rfl 20 0 (by omega)
  rw [fill_0, xA_self] at h
  exact h
theorem KP2_Jfill_53 {E : EvT} {q : Nat → Nat} {I : MI} {d : Nat} {Qw : Option Value → va_W → Prop} {S : StX} {ls : List (Nat × Value)} {st : List Value} {pc : Nat} {x1 : Int32} (hI : I.1.cls = RX2) (hW : (st.map fun v => v.category).sum ≤ 8) (hd : decode I.2.1 pc = .ok (.invokestatic 77, 3)) (kk : RX E q I (d + 1) Qw (xA S 53 (fillF 20 x1 (S.2.1 53))) ls st (pc + 3)) : RX E q I (d + 1) Qw S ls (.int x1 :: .ref (q 153) :: st) pc := r_callS (J := iX_Jfill_53) (As := [.ref (q 153), .int x1]) (by rw [hI]; exact w5_77) w2_197 w1_14 w2_198 (nA := 2) (by decide +kernel) rfl (by decide) hW hd ⟨Nat.le_refl _, Nat.le_refl _⟩ rfl ct_Jfill_53 (fun v w ⟨S1, hv, hw, h⟩ => by subst hv; subst hw; subst h; exact kk)
abbrev iX_Jfill_54 : MI := (yJ7_fill_53178, cJ7_fill_53178, 4, none)
abbrev C_Jfill_54 (E : EvT) (q : Nat → Nat) (d : Nat) (x1 : Int32) (S : StX) (P : StX → Prop) : Prop := Cn E iX_Jfill_54 d 0 0 [.ref (q 154), .int x1] (wX E q S) (qVx E q P)
abbrev T_Jfill_54_5 (E : EvT) (q : Nat → Nat) (D : Nat) (P : StX → Prop) (S : StX) (y1 : Int32) (y2 : Int32) (y3 : Int32) : Prop := RX E q iX_Jfill_54 D (qVx E q P) S [(0, .ref (q 154)), (1, .int (y1)), (2, .int (y2)), (3, .int (y3))] [] 5
set_option maxRecDepth 20000 in
theorem en_Jfill_54 {E : EvT} {q : Nat → Nat} {d : Nat} {x1 : Int32} {S : StX} {P : StX → Prop} (h : T_Jfill_54_5 E q d P S x1 0 3) : C_Jfill_54 E q d x1 S P := by
  refine Cn.of rfl (Nat.le_of_ble_eq_true rfl) (ls := [(0, .ref (q 154)), (1, .int (x1))]) rfl ?_
  refine r_iconst_0 dJ7_fill_53178_0 ?_
  refine r_istore_n [(2, .int (0)), (0, .ref (q 154)), (1, .int (x1))] dJ7_fill_53178_1 rfl (Nat.le_of_ble_eq_true rfl) rfl ?_
  refine r_aload_n 1 dJ7_fill_53178_2 rfl rfl ?_
  refine xn_54 dJ7_fill_53178_3 ?_
  refine r_istore_n [(3, .int (3)), (2, .int (0)), (0, .ref (q 154)), (1, .int (x1))] dJ7_fill_53178_4 rfl (Nat.le_of_ble_eq_true rfl) rfl ?_
  refine r_ls [2, 3, 1, 0] (ls2 := [(0, .ref (q 154)), (1, .int (x1)), (2, .int (0)), (3, .int (3))]) rfl ?_
  exact h
set_option maxRecDepth 20000 in
theorem sg_Jfill_54_5 {E : EvT} {q : Nat → Nat} {d : Nat} {S : StX} {P : StX → Prop} {y1 : Int32} {y2 : Int32} {y3 : Int32} (h : (y3 ≤ y2 → (P S)) ∧ (¬ y3 ≤ y2 → ((0 ≤ y2 ∧ y2 < 3) ∧ (T_Jfill_54_5 E q d P (xA S 54 (upd (xa_Finds_linesOfKind S) (ix y2) y1)) y1 (y2 + 1) y3)))) : T_Jfill_54_5 E q d P S y1 y2 y3 := by
  refine r_iload_n 2 dJ7_fill_53178_5 rfl rfl ?_
  refine r_iload_n 3 dJ7_fill_53178_6 rfl rfl ?_
  refine r_icmp_ge (tgt := 20) dJ7_fill_53178_7 (by decide) (fun c1 => ?_) (fun c1 => ?_)
  · have h := h.1 c1
    exact r_vret dJ7_fill_53178_20 rfl (Nat.le_refl _) (Nat.le_refl _) ⟨_, rfl, rfl, h⟩
  · have h := h.2 c1
    refine r_aload_n 0 dJ7_fill_53178_10 rfl rfl ?_
    refine r_iload_n 2 dJ7_fill_53178_11 rfl rfl ?_
    refine r_iload_n 1 dJ7_fill_53178_12 rfl rfl ?_
    obtain ⟨b2, h⟩ := h
    refine xt_54 b2 dJ7_fill_53178_13 ?_
    refine r_iinc 2 [(2, .int (y2 + 1)), (0, .ref (q 154)), (1, .int (y1)), (3, .int (y3))] dJ7_fill_53178_14 rfl rfl (Nat.le_of_ble_eq_true rfl) rfl ?_
    refine r_goto (tgt := 5) dJ7_fill_53178_17 (by decide) ?_
    refine r_ls [1, 2, 0, 3] (ls2 := [(0, .ref (q 154)), (1, .int (y1)), (2, .int (y2 + 1)), (3, .int (y3))]) rfl ?_
    exact h

theorem lp_Jfill_54 {E : EvT} {q : Nat → Nat} {d : Nat} {P : StX → Prop} {x : Int32} {S : StX} (h : P (xA S 54 (fillF 3 x (S.2.1 54)))) : ∀ (m i : Nat), i + m = 3 → T_Jfill_54_5 E q d P (xA S 54 (fillF i x (S.2.1 54))) x (nI i) 3 := by
  intro m
  induction m with
  | zero =>
    intro i hi
    have : i = 3 := by omega
    subst this
    exact sg_Jfill_54_5 ⟨fun _ => h, fun c => absurd (by decide) c⟩
  | succ m ih =>
    intro i hi
    refine sg_Jfill_54_5 ⟨fun c => absurd c (nI_ge (a := i) (b := 3) (by omega) (by omega)), fun _ => ?_⟩
    have hin : (0 : Int32) ≤ nI i ∧ nI i < 3 := ⟨nI_pos' (by omega), nI_lt (b := 3) (by omega) (by omega)⟩
    refine ⟨hin, ?_⟩
    have h1 := ih (i + 1) (by omega)
    rw [← fill_s, ← nI_1] at h1
    show T_Jfill_54_5 E q d P (xA S 54 (upd (fillF i x (S.2.1 54)) (ix (nI i)) x)) x (nI i + 1) 3
    rw [show ix (nI i) = i from nI_clamp (by omega)]
    exact h1
theorem ct_Jfill_54 {E : EvT} {q : Nat → Nat} {d : Nat} {x1 : Int32} {S : StX} : C_Jfill_54 E q d x1 S (fun S1 => S1 = xA S 54 (fillF 3 x1 (S.2.1 54))) := by
  refine en_Jfill_54 ?_
  have h := lp_Jfill_54 (E := E) (q := q) (d := d) (P := fun S1 => S1 = xA S 54 (fillF 3 x1 (S.2.1 54))) (x := x1) (S := S) rfl 3 0 (by omega)
  rw [fill_0, xA_self] at h
  exact h
theorem KP2_Jfill_54 {E : EvT} {q : Nat → Nat} {I : MI} {d : Nat} {Qw : Option Value → va_W → Prop} {S : StX} {ls : List (Nat × Value)} {st : List Value} {pc : Nat} {x1 : Int32} (hI : I.1.cls = RX2) (hW : (st.map fun v => v.category).sum ≤ 8) (hd : decode I.2.1 pc = .ok (.invokestatic 77, 3)) (kk : RX E q I (d + 1) Qw (xA S 54 (fillF 3 x1 (S.2.1 54))) ls st (pc + 3)) : RX E q I (d + 1) Qw S ls (.int x1 :: .ref (q 154) :: st) pc := r_callS (J := iX_Jfill_54) (As := [.ref (q 154), .int x1]) (by rw [hI]; exact w5_77) w2_197 w1_14 w2_198 (nA := 2) (by decide +kernel) rfl (by decide) hW hd ⟨Nat.le_refl _, Nat.le_refl _⟩ rfl ct_Jfill_54 (fun v w ⟨S1, hv, hw, h⟩ => by subst hv; subst hw; subst h; exact kk)
abbrev iX_Jfill_73 : MI := (yJ7_fill_d0a16, cJ7_fill_d0a16, 5, none)
abbrev C_Jfill_73 (E : EvT) (q : Nat → Nat) (d : Nat) (x1 : Int64) (S : StX) (P : StX → Prop) : Prop := Cn E iX_Jfill_73 d 0 0 [.ref (q 173), .long x1] (wX E q S) (qVx E q P)
abbrev T_Jfill_73_6 (E : EvT) (q : Nat → Nat) (D : Nat) (P : StX → Prop) (S : StX) (y1 : Int64) (y3 : Int32) (y4 : Int32) : Prop := RX E q iX_Jfill_73 D (qVx E q P) S [(0, .ref (q 173)), (1, .long (y1)), (3, .int (y3)), (4, .int (y4))] [] 6
set_option maxRecDepth 20000 in
theorem en_Jfill_73 {E : EvT} {q : Nat → Nat} {d : Nat} {x1 : Int64} {S : StX} {P : StX → Prop} (h : T_Jfill_73_6 E q d P S x1 0 256) : C_Jfill_73 E q d x1 S P := by
  refine Cn.of rfl (Nat.le_of_ble_eq_true rfl) (ls := [(0, .ref (q 173)), (1, .long (x1))]) rfl ?_
  refine r_iconst_0 dJ7_fill_d0a16_0 ?_
  refine r_istore_n [(3, .int (0)), (0, .ref (q 173)), (1, .long (x1))] dJ7_fill_d0a16_1 rfl (Nat.le_of_ble_eq_true rfl) rfl ?_
  refine r_aload_n 1 dJ7_fill_d0a16_2 rfl rfl ?_
  refine xn_73 dJ7_fill_d0a16_3 ?_
  refine r_istore [(4, .int (256)), (3, .int (0)), (0, .ref (q 173)), (1, .long (x1))] dJ7_fill_d0a16_4 (Nat.le_of_ble_eq_true rfl) rfl ?_
  refine r_ls [2, 3, 1, 0] (ls2 := [(0, .ref (q 173)), (1, .long (x1)), (3, .int (0)), (4, .int (256))]) rfl ?_
  exact h
set_option maxRecDepth 20000 in
theorem sg_Jfill_73_6 {E : EvT} {q : Nat → Nat} {d : Nat} {S : StX} {P : StX → Prop} {y1 : Int64} {y3 : Int32} {y4 : Int32} (h : (y4 ≤ y3 → (P S)) ∧ (¬ y4 ≤ y3 → ((0 ≤ y3 ∧ y3 < 256) ∧ (T_Jfill_73_6 E q d P (xL S 73 (vp_updL (xa_Mus_best S) (ix y3) y1)) y1 (y3 + 1) y4)))) : T_Jfill_73_6 E q d P S y1 y3 y4 := by
  refine r_iload_n 2 dJ7_fill_d0a16_6 rfl rfl ?_
  refine r_iload 3 dJ7_fill_d0a16_7 rfl ?_
  refine r_icmp_ge (tgt := 22) dJ7_fill_d0a16_9 (by decide) (fun c1 => ?_) (fun c1 => ?_)
  · have h := h.1 c1
    exact r_vret dJ7_fill_d0a16_22 rfl (Nat.le_refl _) (Nat.le_refl _) ⟨_, rfl, rfl, h⟩
  · have h := h.2 c1
    refine r_aload_n 0 dJ7_fill_d0a16_12 rfl rfl ?_
    refine r_iload_n 2 dJ7_fill_d0a16_13 rfl rfl ?_
    refine r_lload_n 1 dJ7_fill_d0a16_14 rfl rfl ?_
    obtain ⟨b2, h⟩ := h
    refine xt_73 b2 dJ7_fill_d0a16_15 ?_
    refine r_iinc 2 [(3, .int (y3 + 1)), (0, .ref (q 173)), (1, .long (y1)), (4, .int (y4))] dJ7_fill_d0a16_16 rfl rfl (Nat.le_of_ble_eq_true rfl) rfl ?_
    refine r_goto (tgt := 6) dJ7_fill_d0a16_19 (by decide) ?_
    refine r_ls [1, 2, 0, 3] (ls2 := [(0, .ref (q 173)), (1, .long (y1)), (3, .int (y3 + 1)), (4, .int (y4))]) rfl ?_
    exact h

theorem lp_Jfill_73 {E : EvT} {q : Nat → Nat} {d : Nat} {P : StX → Prop} {x : Int64} {S : StX} (h : P (xL S 73 (fillL 256 x (S.2.2.1 73)))) : ∀ (m i : Nat), i + m = 256 → T_Jfill_73_6 E q d P (xL S 73 (fillL i x (S.2.2.1 73))) x (nI i) 256 := by
  intro m
  induction m with
  | zero =>
    intro i hi
    have : i = 256 := by omega
    subst this
    exact sg_Jfill_73_6 ⟨fun _ => h, fun c => absurd (by decide) c⟩
  | succ m ih =>
    intro i hi
    refine sg_Jfill_73_6 ⟨fun c => absurd c (nI_ge (a := i) (b := 256) (by omega) (by omega)), fun _ => ?_⟩
    have hin : (0 : Int32) ≤ nI i ∧ nI i < 256 := ⟨nI_pos' (by omega), nI_lt (b := 256) (by omega) (by omega)⟩
    refine ⟨hin, ?_⟩
    have h1 := ih (i + 1) (by omega)
    rw [← fillL_s, ← nI_1] at h1
    show T_Jfill_73_6 E q d P (xL S 73 (vp_updL (fillL i x (S.2.2.1 73)) (ix (nI i)) x)) x (nI i + 1) 256
    rw [show ix (nI i) = i from nI_clamp (by omega)]
    exact h1
theorem ct_Jfill_73 {E : EvT} {q : Nat → Nat} {d : Nat} {x1 : Int64} {S : StX} : C_Jfill_73 E q d x1 S (fun S1 => S1 = xL S 73 (fillL 256 x1 (S.2.2.1 73))) := by
  refine en_Jfill_73 ?_
  have h := lp_Jfill_73 (E := E) (q := q) (d := d) (P := fun S1 => S1 = xL S 73 (fillL 256 x1 (S.2.2.1 73))) (x := x1) (S := S) rfl 256 0 (by omega)
  rw [fillL_0, xL_self] at h
  exact h
theorem KP3_Jfill_73 {E : EvT} {q : Nat → Nat} {I : MI} {d : Nat} {Qw : Option Value → va_W → Prop} {S : StX} {ls : List (Nat × Value)} {st : List Value} {pc : Nat} {x1 : Int64} (hI : I.1.cls = RX3) (hW : (st.map fun v => v.category).sum ≤ 8) (hd : decode I.2.1 pc = .ok (.invokestatic 95, 3)) (kk : RX E q I (d + 1) Qw (xL S 73 (fillL 256 x1 (S.2.2.1 73))) ls st (pc + 3)) : RX E q I (d + 1) Qw S ls (.long x1 :: .ref (q 173) :: st) pc := r_callS (J := iX_Jfill_73) (As := [.ref (q 173), .long x1]) (by rw [hI]; exact w5_171) w5_172 w1_14 w5_173 (nA := 2) (by decide +kernel) rfl (by decide) hW hd ⟨Nat.le_refl _, Nat.le_refl _⟩ rfl ct_Jfill_73 (fun v w ⟨S1, hv, hw, h⟩ => by subst hv; subst hw; subst h; exact kk)
abbrev iX_Jfill_74 : MI := (yJ7_fill_53178, cJ7_fill_53178, 4, none)
abbrev C_Jfill_74 (E : EvT) (q : Nat → Nat) (d : Nat) (x1 : Int32) (S : StX) (P : StX → Prop) : Prop := Cn E iX_Jfill_74 d 0 0 [.ref (q 174), .int x1] (wX E q S) (qVx E q P)
abbrev T_Jfill_74_5 (E : EvT) (q : Nat → Nat) (D : Nat) (P : StX → Prop) (S : StX) (y1 : Int32) (y2 : Int32) (y3 : Int32) : Prop := RX E q iX_Jfill_74 D (qVx E q P) S [(0, .ref (q 174)), (1, .int (y1)), (2, .int (y2)), (3, .int (y3))] [] 5
set_option maxRecDepth 20000 in
theorem en_Jfill_74 {E : EvT} {q : Nat → Nat} {d : Nat} {x1 : Int32} {S : StX} {P : StX → Prop} (h : T_Jfill_74_5 E q d P S x1 0 10) : C_Jfill_74 E q d x1 S P := by
  refine Cn.of rfl (Nat.le_of_ble_eq_true rfl) (ls := [(0, .ref (q 174)), (1, .int (x1))]) rfl ?_
  refine r_iconst_0 dJ7_fill_53178_0 ?_
  refine r_istore_n [(2, .int (0)), (0, .ref (q 174)), (1, .int (x1))] dJ7_fill_53178_1 rfl (Nat.le_of_ble_eq_true rfl) rfl ?_
  refine r_aload_n 1 dJ7_fill_53178_2 rfl rfl ?_
  refine xn_74 dJ7_fill_53178_3 ?_
  refine r_istore_n [(3, .int (10)), (2, .int (0)), (0, .ref (q 174)), (1, .int (x1))] dJ7_fill_53178_4 rfl (Nat.le_of_ble_eq_true rfl) rfl ?_
  refine r_ls [2, 3, 1, 0] (ls2 := [(0, .ref (q 174)), (1, .int (x1)), (2, .int (0)), (3, .int (10))]) rfl ?_
  exact h
set_option maxRecDepth 20000 in
theorem sg_Jfill_74_5 {E : EvT} {q : Nat → Nat} {d : Nat} {S : StX} {P : StX → Prop} {y1 : Int32} {y2 : Int32} {y3 : Int32} (h : (y3 ≤ y2 → (P S)) ∧ (¬ y3 ≤ y2 → ((0 ≤ y2 ∧ y2 < 10) ∧ (T_Jfill_74_5 E q d P (xA S 74 (upd (xa_Mus_helped S) (ix y2) y1)) y1 (y2 + 1) y3)))) : T_Jfill_74_5 E q d P S y1 y2 y3 := by
  refine r_iload_n 2 dJ7_fill_53178_5 rfl rfl ?_
  refine r_iload_n 3 dJ7_fill_53178_6 rfl rfl ?_
  refine r_icmp_ge (tgt := 20) dJ7_fill_53178_7 (by decide) (fun c1 => ?_) (fun c1 => ?_)
  · have h := h.1 c1
    exact r_vret dJ7_fill_53178_20 rfl (Nat.le_refl _) (Nat.le_refl _) ⟨_, rfl, rfl, h⟩
  · have h := h.2 c1
    refine r_aload_n 0 dJ7_fill_53178_10 rfl rfl ?_
    refine r_iload_n 2 dJ7_fill_53178_11 rfl rfl ?_
    refine r_iload_n 1 dJ7_fill_53178_12 rfl rfl ?_
    obtain ⟨b2, h⟩ := h
    refine xt_74 b2 dJ7_fill_53178_13 ?_
    refine r_iinc 2 [(2, .int (y2 + 1)), (0, .ref (q 174)), (1, .int (y1)), (3, .int (y3))] dJ7_fill_53178_14 rfl rfl (Nat.le_of_ble_eq_true rfl) rfl ?_
    refine r_goto (tgt := 5) dJ7_fill_53178_17 (by decide) ?_
    refine r_ls [1, 2, 0, 3] (ls2 := [(0, .ref (q 174)), (1, .int (y1)), (2, .int (y2 + 1)), (3, .int (y3))]) rfl ?_
    exact h

theorem lp_Jfill_74 {E : EvT} {q : Nat → Nat} {d : Nat} {P : StX → Prop} {x : Int32} {S : StX} (h : P (xA S 74 (fillF 10 x (S.2.1 74)))) : ∀ (m i : Nat), i + m = 10 → T_Jfill_74_5 E q d P (xA S 74 (fillF i x (S.2.1 74))) x (nI i) 10 := by
  intro m
  induction m with
  | zero =>
    intro i hi
    have : i = 10 := by omega
    subst this
    exact sg_Jfill_74_5 ⟨fun _ => h, fun c => absurd (by decide) c⟩
  | succ m ih =>
    intro i hi
    refine sg_Jfill_74_5 ⟨fun c => absurd c (nI_ge (a := i) (b := 10) (by omega) (by omega)), fun _ => ?_⟩
    have hin : (0 : Int32) ≤ nI i ∧ nI i < 10 := ⟨nI_pos' (by omega), nI_lt (b := 10) (by omega) (by omega)⟩
    refine ⟨hin, ?_⟩
    have h1 := ih (i + 1) (by omega)
    rw [← fill_s, ← nI_1] at h1
    show T_Jfill_74_5 E q d P (xA S 74 (upd (fillF i x (S.2.1 74)) (ix (nI i)) x)) x (nI i + 1) 10
    rw [show ix (nI i) = i from nI_clamp (by omega)]
    exact h1
theorem ct_Jfill_74 {E : EvT} {q : Nat → Nat} {d : Nat} {x1 : Int32} {S : StX} : C_Jfill_74 E q d x1 S (fun S1 => S1 = xA S 74 (fillF 10 x1 (S.2.1 74))) := by
  refine en_Jfill_74 ?_
  have h := lp_Jfill_74 (E := E) (q := q) (d := d) (P := fun S1 => S1 = xA S 74 (fillF 10 x1 (S.2.1 74))) (x := x1) (S := S) rfl 10 0 (by omega)
  rw [fill_0, xA_self] at h
  exact h
theorem KP3_Jfill_74 {E : EvT} {q : Nat → Nat} {I : MI} {d : Nat} {Qw : Option Value → va_W → Prop} {S : StX} {ls : List (Nat × Value)} {st : List Value} {pc : Nat} {x1 : Int32} (hI : I.1.cls = RX3) (hW : (st.map fun v => v.category).sum ≤ 8) (hd : decode I.2.1 pc = .ok (.invokestatic 135, 3)) (kk : RX E q I (d + 1) Qw (xA S 74 (fillF 10 x1 (S.2.1 74))) ls st (pc + 3)) : RX E q I (d + 1) Qw S ls (.int x1 :: .ref (q 174) :: st) pc := r_callS (J := iX_Jfill_74) (As := [.ref (q 174), .int x1]) (by rw [hI]; exact w5_214) w2_197 w1_14 w2_198 (nA := 2) (by decide +kernel) rfl (by decide) hW hd ⟨Nat.le_refl _, Nat.le_refl _⟩ rfl ct_Jfill_74 (fun v w ⟨S1, hv, hw, h⟩ => by subst hv; subst hw; subst h; exact kk)
abbrev iX_Jfill_103 : MI := (yJ7_fill_53178, cJ7_fill_53178, 4, none)
abbrev C_Jfill_103 (E : EvT) (q : Nat → Nat) (d : Nat) (x1 : Int32) (S : StX) (P : StX → Prop) : Prop := Cn E iX_Jfill_103 d 0 0 [.ref (q 203), .int x1] (wX E q S) (qVx E q P)
abbrev T_Jfill_103_5 (E : EvT) (q : Nat → Nat) (D : Nat) (P : StX → Prop) (S : StX) (y1 : Int32) (y2 : Int32) (y3 : Int32) : Prop := RX E q iX_Jfill_103 D (qVx E q P) S [(0, .ref (q 203)), (1, .int (y1)), (2, .int (y2)), (3, .int (y3))] [] 5
set_option maxRecDepth 20000 in
theorem en_Jfill_103 {E : EvT} {q : Nat → Nat} {d : Nat} {x1 : Int32} {S : StX} {P : StX → Prop} (h : T_Jfill_103_5 E q d P S x1 0 20) : C_Jfill_103 E q d x1 S P := by
  refine Cn.of rfl (Nat.le_of_ble_eq_true rfl) (ls := [(0, .ref (q 203)), (1, .int (x1))]) rfl ?_
  refine r_iconst_0 dJ7_fill_53178_0 ?_
  refine r_istore_n [(2, .int (0)), (0, .ref (q 203)), (1, .int (x1))] dJ7_fill_53178_1 rfl (Nat.le_of_ble_eq_true rfl) rfl ?_
  refine r_aload_n 1 dJ7_fill_53178_2 rfl rfl ?_
  refine xn_103 dJ7_fill_53178_3 ?_
  refine r_istore_n [(3, .int (20)), (2, .int (0)), (0, .ref (q 203)), (1, .int (x1))] dJ7_fill_53178_4 rfl (Nat.le_of_ble_eq_true rfl) rfl ?_
  refine r_ls [2, 3, 1, 0] (ls2 := [(0, .ref (q 203)), (1, .int (x1)), (2, .int (0)), (3, .int (20))]) rfl ?_
  exact h
set_option maxRecDepth 20000 in
theorem sg_Jfill_103_5 {E : EvT} {q : Nat → Nat} {d : Nat} {S : StX} {P : StX → Prop} {y1 : Int32} {y2 : Int32} {y3 : Int32} (h : (y3 ≤ y2 → (P S)) ∧ (¬ y3 ≤ y2 → ((0 ≤ y2 ∧ y2 < 20) ∧ (T_Jfill_103_5 E q d P (xA S 103 (upd (xa_Book_struck S) (ix y2) y1)) y1 (y2 + 1) y3)))) : T_Jfill_103_5 E q d P S y1 y2 y3 := by
  refine r_iload_n 2 dJ7_fill_53178_5 rfl rfl ?_
  refine r_iload_n 3 dJ7_fill_53178_6 rfl rfl ?_
  refine r_icmp_ge (tgt := 20) dJ7_fill_53178_7 (by decide) (fun c1 => ?_) (fun c1 => ?_)
  · have h := h.1 c1
    exact r_vret dJ7_fill_53178_20 rfl (Nat.le_refl _) (Nat.le_refl _) ⟨_, rfl, rfl, h⟩
  · have h := h.2 c1
    refine r_aload_n 0 dJ7_fill_53178_10 rfl rfl ?_
    refine r_iload_n 2 dJ7_fill_53178_11 rfl rfl ?_
    refine r_iload_n 1 dJ7_fill_53178_12 rfl rfl ?_
    obtain ⟨b2, h⟩ := h
    refine xt_103 b2 dJ7_fill_53178_13 ?_
    refine r_iinc 2 [(2, .int (y2 + 1)), (0, .ref (q 203)), (1, .int (y1)), (3, .int (y3))] dJ7_fill_53178_14 rfl rfl (Nat.le_of_ble_eq_true rfl) rfl ?_
    refine r_goto (tgt := 5) dJ7_fill_53178_17 (by decide) ?_
    refine r_ls [1, 2, 0, 3] (ls2 := [(0, .ref (q 203)), (1, .int (y1)), (2, .int (y2 + 1)), (3, .int (y3))]) rfl ?_
    exact h

theorem lp_Jfill_103 {E : EvT} {q : Nat → Nat} {d : Nat} {P : StX → Prop} {x : Int32} {S : StX} (h : P (xA S 103 (fillF 20 x (S.2.1 103)))) : ∀ (m i : Nat), i + m = 20 → T_Jfill_103_5 E q d P (xA S 103 (fillF i x (S.2.1 103))) x (nI i) 20 := by
  intro m
  induction m with
  | zero =>
    intro i hi
    have : i = 20 := by omega
    subst this
    exact sg_Jfill_103_5 ⟨fun _ => h, fun c => absurd (by decide) c⟩
  | succ m ih =>
    intro i hi
    refine sg_Jfill_103_5 ⟨fun c => absurd c (nI_ge (a := i) (b := 20) (by omega) (by omega)), fun _ => ?_⟩
    have hin : (0 : Int32) ≤ nI i ∧ nI i < 20 := ⟨nI_pos' (by omega), nI_lt (b := 20) (by omega) (by omega)⟩
    refine ⟨hin, ?_⟩
    have h1 := ih (i + 1) (by omega)
    rw [← fill_s, ← nI_1] at h1
    show T_Jfill_103_5 E q d P (xA S 103 (upd (fillF i x (S.2.1 103)) (ix (nI i)) x)) x (nI i + 1) 20
    rw [show ix (nI i) = i from nI_clamp (by omega)]
    exact h1
theorem ct_Jfill_103 {E : EvT} {q : Nat → Nat} {d : Nat} {x1 : Int32} {S : StX} : C_Jfill_103 E q d x1 S (fun S1 => S1 = xA S 103 (fillF 20 x1 (S.2.1 103))) := by
  refine en_Jfill_103 ?_
  have h := lp_Jfill_103 (E := E) (q := q) (d := d) (P := fun S1 => S1 = xA S 103 (fillF 20 x1 (S.2.1 103))) (x := x1) (S := S) rfl 20 0 (by omega)
  rw [fill_0, xA_self] at h
  exact h
theorem KP5_Jfill_103 {E : EvT} {q : Nat → Nat} {I : MI} {d : Nat} {Qw : Option Value → va_W → Prop} {S : StX} {ls : List (Nat × Value)} {st : List Value} {pc : Nat} {x1 : Int32} (hI : I.1.cls = RX5) (hW : (st.map fun v => v.category).sum ≤ 8) (hd : decode I.2.1 pc = .ok (.invokestatic 55, 3)) (kk : RX E q I (d + 1) Qw (xA S 103 (fillF 20 x1 (S.2.1 103))) ls st (pc + 3)) : RX E q I (d + 1) Qw S ls (.int x1 :: .ref (q 203) :: st) pc := r_callS (J := iX_Jfill_103) (As := [.ref (q 203), .int x1]) (by rw [hI]; exact w4_229) w2_197 w1_14 w2_198 (nA := 2) (by decide +kernel) rfl (by decide) hW hd ⟨Nat.le_refl _, Nat.le_refl _⟩ rfl ct_Jfill_103 (fun v w ⟨S1, hv, hw, h⟩ => by subst hv; subst hw; subst h; exact kk)
abbrev iX_Jfill_167 : MI := (yJ7_fill_53178, cJ7_fill_53178, 4, none)
abbrev C_Jfill_167 (E : EvT) (q : Nat → Nat) (d : Nat) (x1 : Int32) (S : StX) (P : StX → Prop) : Prop := Cn E iX_Jfill_167 d 0 0 [.ref (q 267), .int x1] (wX E q S) (qVx E q P)
abbrev T_Jfill_167_5 (E : EvT) (q : Nat → Nat) (D : Nat) (P : StX → Prop) (S : StX) (y1 : Int32) (y2 : Int32) (y3 : Int32) : Prop := RX E q iX_Jfill_167 D (qVx E q P) S [(0, .ref (q 267)), (1, .int (y1)), (2, .int (y2)), (3, .int (y3))] [] 5
set_option maxRecDepth 20000 in
theorem en_Jfill_167 {E : EvT} {q : Nat → Nat} {d : Nat} {x1 : Int32} {S : StX} {P : StX → Prop} (h : T_Jfill_167_5 E q d P S x1 0 30) : C_Jfill_167 E q d x1 S P := by
  refine Cn.of rfl (Nat.le_of_ble_eq_true rfl) (ls := [(0, .ref (q 267)), (1, .int (x1))]) rfl ?_
  refine r_iconst_0 dJ7_fill_53178_0 ?_
  refine r_istore_n [(2, .int (0)), (0, .ref (q 267)), (1, .int (x1))] dJ7_fill_53178_1 rfl (Nat.le_of_ble_eq_true rfl) rfl ?_
  refine r_aload_n 1 dJ7_fill_53178_2 rfl rfl ?_
  refine xn_167 dJ7_fill_53178_3 ?_
  refine r_istore_n [(3, .int (30)), (2, .int (0)), (0, .ref (q 267)), (1, .int (x1))] dJ7_fill_53178_4 rfl (Nat.le_of_ble_eq_true rfl) rfl ?_
  refine r_ls [2, 3, 1, 0] (ls2 := [(0, .ref (q 267)), (1, .int (x1)), (2, .int (0)), (3, .int (30))]) rfl ?_
  exact h
set_option maxRecDepth 20000 in
theorem sg_Jfill_167_5 {E : EvT} {q : Nat → Nat} {d : Nat} {S : StX} {P : StX → Prop} {y1 : Int32} {y2 : Int32} {y3 : Int32} (h : (y3 ≤ y2 → (P S)) ∧ (¬ y3 ≤ y2 → ((0 ≤ y2 ∧ y2 < 30) ∧ (T_Jfill_167_5 E q d P (xA S 167 (upd (xa_Sign_worth S) (ix y2) y1)) y1 (y2 + 1) y3)))) : T_Jfill_167_5 E q d P S y1 y2 y3 := by
  refine r_iload_n 2 dJ7_fill_53178_5 rfl rfl ?_
  refine r_iload_n 3 dJ7_fill_53178_6 rfl rfl ?_
  refine r_icmp_ge (tgt := 20) dJ7_fill_53178_7 (by decide) (fun c1 => ?_) (fun c1 => ?_)
  · have h := h.1 c1
    exact r_vret dJ7_fill_53178_20 rfl (Nat.le_refl _) (Nat.le_refl _) ⟨_, rfl, rfl, h⟩
  · have h := h.2 c1
    refine r_aload_n 0 dJ7_fill_53178_10 rfl rfl ?_
    refine r_iload_n 2 dJ7_fill_53178_11 rfl rfl ?_
    refine r_iload_n 1 dJ7_fill_53178_12 rfl rfl ?_
    obtain ⟨b2, h⟩ := h
    refine xt_167 b2 dJ7_fill_53178_13 ?_
    refine r_iinc 2 [(2, .int (y2 + 1)), (0, .ref (q 267)), (1, .int (y1)), (3, .int (y3))] dJ7_fill_53178_14 rfl rfl (Nat.le_of_ble_eq_true rfl) rfl ?_
    refine r_goto (tgt := 5) dJ7_fill_53178_17 (by decide) ?_
    refine r_ls [1, 2, 0, 3] (ls2 := [(0, .ref (q 267)), (1, .int (y1)), (2, .int (y2 + 1)), (3, .int (y3))]) rfl ?_
    exact h

theorem lp_Jfill_167 {E : EvT} {q : Nat → Nat} {d : Nat} {P : StX → Prop} {x : Int32} {S : StX} (h : P (xA S 167 (fillF 30 x (S.2.1 167)))) : ∀ (m i : Nat), i + m = 30 → T_Jfill_167_5 E q d P (xA S 167 (fillF i x (S.2.1 167))) x (nI i) 30 := by
  intro m
  induction m with
  | zero =>
    intro i hi
    have : i = 30 := by omega
    subst this
    exact sg_Jfill_167_5 ⟨fun _ => h, fun c => absurd (by decide) c⟩
  | succ m ih =>
    intro i hi
    refine sg_Jfill_167_5 ⟨fun c => absurd c (nI_ge (a := i) (b := 30) (by omega) (by omega)), fun _ => ?_⟩
    have hin : (0 : Int32) ≤ nI i ∧ nI i < 30 := ⟨nI_pos' (by omega), nI_lt (b := 30) (by omega) (by omega)⟩
    refine ⟨hin, ?_⟩
    have h1 := ih (i + 1) (by omega)
    rw [← fill_s, ← nI_1] at h1
    show T_Jfill_167_5 E q d P (xA S 167 (upd (fillF i x (S.2.1 167)) (ix (nI i)) x)) x (nI i + 1) 30
    rw [show ix (nI i) = i from nI_clamp (by omega)]
    exact h1
theorem ct_Jfill_167 {E : EvT} {q : Nat → Nat} {d : Nat} {x1 : Int32} {S : StX} : C_Jfill_167 E q d x1 S (fun S1 => S1 = xA S 167 (fillF 30 x1 (S.2.1 167))) := by
  refine en_Jfill_167 ?_
  have h := lp_Jfill_167 (E := E) (q := q) (d := d) (P := fun S1 => S1 = xA S 167 (fillF 30 x1 (S.2.1 167))) (x := x1) (S := S) rfl 30 0 (by omega)
  rw [fill_0, xA_self] at h
  exact h
theorem KP8_Jfill_167 {E : EvT} {q : Nat → Nat} {I : MI} {d : Nat} {Qw : Option Value → va_W → Prop} {S : StX} {ls : List (Nat × Value)} {st : List Value} {pc : Nat} {x1 : Int32} (hI : I.1.cls = RX8) (hW : (st.map fun v => v.category).sum ≤ 8) (hd : decode I.2.1 pc = .ok (.invokestatic 42, 3)) (kk : RX E q I (d + 1) Qw (xA S 167 (fillF 30 x1 (S.2.1 167))) ls st (pc + 3)) : RX E q I (d + 1) Qw S ls (.int x1 :: .ref (q 267) :: st) pc := r_callS (J := iX_Jfill_167) (As := [.ref (q 267), .int x1]) (by rw [hI]; exact w6_96) w2_197 w1_14 w2_198 (nA := 2) (by decide +kernel) rfl (by decide) hW hd ⟨Nat.le_refl _, Nat.le_refl _⟩ rfl ct_Jfill_167 (fun v w ⟨S1, hv, hw, h⟩ => by subst hv; subst hw; subst h; exact kk)
abbrev iX_Jfill_168 : MI := (yJ7_fill_53178, cJ7_fill_53178, 4, none)
abbrev C_Jfill_168 (E : EvT) (q : Nat → Nat) (d : Nat) (x1 : Int32) (S : StX) (P : StX → Prop) : Prop := Cn E iX_Jfill_168 d 0 0 [.ref (q 268), .int x1] (wX E q S) (qVx E q P)
abbrev T_Jfill_168_5 (E : EvT) (q : Nat → Nat) (D : Nat) (P : StX → Prop) (S : StX) (y1 : Int32) (y2 : Int32) (y3 : Int32) : Prop := RX E q iX_Jfill_168 D (qVx E q P) S [(0, .ref (q 268)), (1, .int (y1)), (2, .int (y2)), (3, .int (y3))] [] 5
set_option maxRecDepth 20000 in
theorem en_Jfill_168 {E : EvT} {q : Nat → Nat} {d : Nat} {x1 : Int32} {S : StX} {P : StX → Prop} (h : T_Jfill_168_5 E q d P S x1 0 30) : C_Jfill_168 E q d x1 S P := by
  refine Cn.of rfl (Nat.le_of_ble_eq_true rfl) (ls := [(0, .ref (q 268)), (1, .int (x1))]) rfl ?_
  refine r_iconst_0 dJ7_fill_53178_0 ?_
  refine r_istore_n [(2, .int (0)), (0, .ref (q 268)), (1, .int (x1))] dJ7_fill_53178_1 rfl (Nat.le_of_ble_eq_true rfl) rfl ?_
  refine r_aload_n 1 dJ7_fill_53178_2 rfl rfl ?_
  refine xn_168 dJ7_fill_53178_3 ?_
  refine r_istore_n [(3, .int (30)), (2, .int (0)), (0, .ref (q 268)), (1, .int (x1))] dJ7_fill_53178_4 rfl (Nat.le_of_ble_eq_true rfl) rfl ?_
  refine r_ls [2, 3, 1, 0] (ls2 := [(0, .ref (q 268)), (1, .int (x1)), (2, .int (0)), (3, .int (30))]) rfl ?_
  exact h
set_option maxRecDepth 20000 in
theorem sg_Jfill_168_5 {E : EvT} {q : Nat → Nat} {d : Nat} {S : StX} {P : StX → Prop} {y1 : Int32} {y2 : Int32} {y3 : Int32} (h : (y3 ≤ y2 → (P S)) ∧ (¬ y3 ≤ y2 → ((0 ≤ y2 ∧ y2 < 30) ∧ (T_Jfill_168_5 E q d P (xA S 168 (upd (xa_Sign_seen S) (ix y2) y1)) y1 (y2 + 1) y3)))) : T_Jfill_168_5 E q d P S y1 y2 y3 := by
  refine r_iload_n 2 dJ7_fill_53178_5 rfl rfl ?_
  refine r_iload_n 3 dJ7_fill_53178_6 rfl rfl ?_
  refine r_icmp_ge (tgt := 20) dJ7_fill_53178_7 (by decide) (fun c1 => ?_) (fun c1 => ?_)
  · have h := h.1 c1
    exact r_vret dJ7_fill_53178_20 rfl (Nat.le_refl _) (Nat.le_refl _) ⟨_, rfl, rfl, h⟩
  · have h := h.2 c1
    refine r_aload_n 0 dJ7_fill_53178_10 rfl rfl ?_
    refine r_iload_n 2 dJ7_fill_53178_11 rfl rfl ?_
    refine r_iload_n 1 dJ7_fill_53178_12 rfl rfl ?_
    obtain ⟨b2, h⟩ := h
    refine xt_168 b2 dJ7_fill_53178_13 ?_
    refine r_iinc 2 [(2, .int (y2 + 1)), (0, .ref (q 268)), (1, .int (y1)), (3, .int (y3))] dJ7_fill_53178_14 rfl rfl (Nat.le_of_ble_eq_true rfl) rfl ?_
    refine r_goto (tgt := 5) dJ7_fill_53178_17 (by decide) ?_
    refine r_ls [1, 2, 0, 3] (ls2 := [(0, .ref (q 268)), (1, .int (y1)), (2, .int (y2 + 1)), (3, .int (y3))]) rfl ?_
    exact h

theorem lp_Jfill_168 {E : EvT} {q : Nat → Nat} {d : Nat} {P : StX → Prop} {x : Int32} {S : StX} (h : P (xA S 168 (fillF 30 x (S.2.1 168)))) : ∀ (m i : Nat), i + m = 30 → T_Jfill_168_5 E q d P (xA S 168 (fillF i x (S.2.1 168))) x (nI i) 30 := by
  intro m
  induction m with
  | zero =>
    intro i hi
    have : i = 30 := by omega
    subst this
    exact sg_Jfill_168_5 ⟨fun _ => h, fun c => absurd (by decide) c⟩
  | succ m ih =>
    intro i hi
    refine sg_Jfill_168_5 ⟨fun c => absurd c (nI_ge (a := i) (b := 30) (by omega) (by omega)), fun _ => ?_⟩
    have hin : (0 : Int32) ≤ nI i ∧ nI i < 30 := ⟨nI_pos' (by omega), nI_lt (b := 30) (by omega) (by omega)⟩
    refine ⟨hin, ?_⟩
    have h1 := ih (i + 1) (by omega)
    rw [← fill_s, ← nI_1] at h1
    show T_Jfill_168_5 E q d P (xA S 168 (upd (fillF i x (S.2.1 168)) (ix (nI i)) x)) x (nI i + 1) 30
    rw [show ix (nI i) = i from nI_clamp (by omega)]
    exact h1
theorem ct_Jfill_168 {E : EvT} {q : Nat → Nat} {d : Nat} {x1 : Int32} {S : StX} : C_Jfill_168 E q d x1 S (fun S1 => S1 = xA S 168 (fillF 30 x1 (S.2.1 168))) := by
  refine en_Jfill_168 ?_
  have h := lp_Jfill_168 (E := E) (q := q) (d := d) (P := fun S1 => S1 = xA S 168 (fillF 30 x1 (S.2.1 168))) (x := x1) (S := S) rfl 30 0 (by omega)
  rw [fill_0, xA_self] at h
  exact h
theorem KP8_Jfill_168 {E : EvT} {q : Nat → Nat} {I : MI} {d : Nat} {Qw : Option Value → va_W → Prop} {S : StX} {ls : List (Nat × Value)} {st : List Value} {pc : Nat} {x1 : Int32} (hI : I.1.cls = RX8) (hW : (st.map fun v => v.category).sum ≤ 8) (hd : decode I.2.1 pc = .ok (.invokestatic 42, 3)) (kk : RX E q I (d + 1) Qw (xA S 168 (fillF 30 x1 (S.2.1 168))) ls st (pc + 3)) : RX E q I (d + 1) Qw S ls (.int x1 :: .ref (q 268) :: st) pc := r_callS (J := iX_Jfill_168) (As := [.ref (q 268), .int x1]) (by rw [hI]; exact w6_96) w2_197 w1_14 w2_198 (nA := 2) (by decide +kernel) rfl (by decide) hW hd ⟨Nat.le_refl _, Nat.le_refl _⟩ rfl ct_Jfill_168 (fun v w ⟨S1, hv, hw, h⟩ => by subst hv; subst hw; subst h; exact kk)
abbrev iX_Jfill_217 : MI := (yJ7_fill_53178, cJ7_fill_53178, 4, none)
abbrev C_Jfill_217 (E : EvT) (q : Nat → Nat) (d : Nat) (x1 : Int32) (S : StX) (P : StX → Prop) : Prop := Cn E iX_Jfill_217 d 0 0 [.ref (q 317), .int x1] (wX E q S) (qVx E q P)
abbrev T_Jfill_217_5 (E : EvT) (q : Nat → Nat) (D : Nat) (P : StX → Prop) (S : StX) (y1 : Int32) (y2 : Int32) (y3 : Int32) : Prop := RX E q iX_Jfill_217 D (qVx E q P) S [(0, .ref (q 317)), (1, .int (y1)), (2, .int (y2)), (3, .int (y3))] [] 5
set_option maxRecDepth 20000 in
theorem en_Jfill_217 {E : EvT} {q : Nat → Nat} {d : Nat} {x1 : Int32} {S : StX} {P : StX → Prop} (h : T_Jfill_217_5 E q d P S x1 0 30) : C_Jfill_217 E q d x1 S P := by
  refine Cn.of rfl (Nat.le_of_ble_eq_true rfl) (ls := [(0, .ref (q 317)), (1, .int (x1))]) rfl ?_
  refine r_iconst_0 dJ7_fill_53178_0 ?_
  refine r_istore_n [(2, .int (0)), (0, .ref (q 317)), (1, .int (x1))] dJ7_fill_53178_1 rfl (Nat.le_of_ble_eq_true rfl) rfl ?_
  refine r_aload_n 1 dJ7_fill_53178_2 rfl rfl ?_
  refine xn_217 dJ7_fill_53178_3 ?_
  refine r_istore_n [(3, .int (30)), (2, .int (0)), (0, .ref (q 317)), (1, .int (x1))] dJ7_fill_53178_4 rfl (Nat.le_of_ble_eq_true rfl) rfl ?_
  refine r_ls [2, 3, 1, 0] (ls2 := [(0, .ref (q 317)), (1, .int (x1)), (2, .int (0)), (3, .int (30))]) rfl ?_
  exact h
set_option maxRecDepth 20000 in
theorem sg_Jfill_217_5 {E : EvT} {q : Nat → Nat} {d : Nat} {S : StX} {P : StX → Prop} {y1 : Int32} {y2 : Int32} {y3 : Int32} (h : (y3 ≤ y2 → (P S)) ∧ (¬ y3 ≤ y2 → ((0 ≤ y2 ∧ y2 < 30) ∧ (T_Jfill_217_5 E q d P (xA S 217 (upd (xa_Wall_savedOf S) (ix y2) y1)) y1 (y2 + 1) y3)))) : T_Jfill_217_5 E q d P S y1 y2 y3 := by
  refine r_iload_n 2 dJ7_fill_53178_5 rfl rfl ?_
  refine r_iload_n 3 dJ7_fill_53178_6 rfl rfl ?_
  refine r_icmp_ge (tgt := 20) dJ7_fill_53178_7 (by decide) (fun c1 => ?_) (fun c1 => ?_)
  · have h := h.1 c1
    exact r_vret dJ7_fill_53178_20 rfl (Nat.le_refl _) (Nat.le_refl _) ⟨_, rfl, rfl, h⟩
  · have h := h.2 c1
    refine r_aload_n 0 dJ7_fill_53178_10 rfl rfl ?_
    refine r_iload_n 2 dJ7_fill_53178_11 rfl rfl ?_
    refine r_iload_n 1 dJ7_fill_53178_12 rfl rfl ?_
    obtain ⟨b2, h⟩ := h
    refine xt_217 b2 dJ7_fill_53178_13 ?_
    refine r_iinc 2 [(2, .int (y2 + 1)), (0, .ref (q 317)), (1, .int (y1)), (3, .int (y3))] dJ7_fill_53178_14 rfl rfl (Nat.le_of_ble_eq_true rfl) rfl ?_
    refine r_goto (tgt := 5) dJ7_fill_53178_17 (by decide) ?_
    refine r_ls [1, 2, 0, 3] (ls2 := [(0, .ref (q 317)), (1, .int (y1)), (2, .int (y2 + 1)), (3, .int (y3))]) rfl ?_
    exact h

theorem lp_Jfill_217 {E : EvT} {q : Nat → Nat} {d : Nat} {P : StX → Prop} {x : Int32} {S : StX} (h : P (xA S 217 (fillF 30 x (S.2.1 217)))) : ∀ (m i : Nat), i + m = 30 → T_Jfill_217_5 E q d P (xA S 217 (fillF i x (S.2.1 217))) x (nI i) 30 := by
  intro m
  induction m with
  | zero =>
    intro i hi
    have : i = 30 := by omega
    subst this
    exact sg_Jfill_217_5 ⟨fun _ => h, fun c => absurd (by decide) c⟩
  | succ m ih =>
    intro i hi
    refine sg_Jfill_217_5 ⟨fun c => absurd c (nI_ge (a := i) (b := 30) (by omega) (by omega)), fun _ => ?_⟩
    have hin : (0 : Int32) ≤ nI i ∧ nI i < 30 := ⟨nI_pos' (by omega), nI_lt (b := 30) (by omega) (by omega)⟩
    refine ⟨hin, ?_⟩
    have h1 := ih (i + 1) (by omega)
    rw [← fill_s, ← nI_1] at h1
    show T_Jfill_217_5 E q d P (xA S 217 (upd (fillF i x (S.2.1 217)) (ix (nI i)) x)) x (nI i + 1) 30
    rw [show ix (nI i) = i from nI_clamp (by omega)]
    exact h1
theorem ct_Jfill_217 {E : EvT} {q : Nat → Nat} {d : Nat} {x1 : Int32} {S : StX} : C_Jfill_217 E q d x1 S (fun S1 => S1 = xA S 217 (fillF 30 x1 (S.2.1 217))) := by
  refine en_Jfill_217 ?_
  have h := lp_Jfill_217 (E := E) (q := q) (d := d) (P := fun S1 => S1 = xA S 217 (fillF 30 x1 (S.2.1 217))) (x := x1) (S := S) rfl 30 0 (by omega)
  rw [fill_0, xA_self] at h
  exact h
theorem KP10_Jfill_217 {E : EvT} {q : Nat → Nat} {I : MI} {d : Nat} {Qw : Option Value → va_W → Prop} {S : StX} {ls : List (Nat × Value)} {st : List Value} {pc : Nat} {x1 : Int32} (hI : I.1.cls = RX10) (hW : (st.map fun v => v.category).sum ≤ 8) (hd : decode I.2.1 pc = .ok (.invokestatic 71, 3)) (kk : RX E q I (d + 1) Qw (xA S 217 (fillF 30 x1 (S.2.1 217))) ls st (pc + 3)) : RX E q I (d + 1) Qw S ls (.int x1 :: .ref (q 317) :: st) pc := r_callS (J := iX_Jfill_217) (As := [.ref (q 317), .int x1]) (by rw [hI]; exact w6_132) w2_197 w1_14 w2_198 (nA := 2) (by decide +kernel) rfl (by decide) hW hd ⟨Nat.le_refl _, Nat.le_refl _⟩ rfl ct_Jfill_217 (fun v w ⟨S1, hv, hw, h⟩ => by subst hv; subst hw; subst h; exact kk)

def pSpan (a b l : Int32) : Bool := decide (0 ≤ a ∧ a ≤ b ∧ b ≤ l)
def pNum (a b : Int32) : Bool := mIn a 0 3 && mIn b 1 99
def pCell (S : StX) (c : Int32) : Bool := decide (0 ≤ c ∧ c < xs_Plan_width S * xs_Plan_height S)
def pCol (S : StX) (c : Int32) : Int32 := if 0 < xs_Plan_width S then rmd c (xs_Plan_width S) else 0
def pRow (S : StX) (c : Int32) : Int32 := if 0 < xs_Plan_width S then c / xs_Plan_width S else 0
def pArea (S : StX) (a b : Int32) : Bool := pCell S a && pCell S b && decide (pCol S a ≤ pCol S b) && decide (pRow S a ≤ pRow S b)
def pMeet (S : StX) (a b c e : Int32) : Bool := decide (pCol S a ≤ pCol S e) && decide (pCol S c ≤ pCol S b) && decide (pRow S a ≤ pRow S e) && decide (pRow S c ≤ pRow S b)
def pKey (a b : Int32) : Int32 := a * 100 + b
def pSpot (S : StX) (c l : Int32) : Bool := pCell S c && mLayer l
def pPlace (S : StX) (p : Int32) : Bool := mIn p 0 (xs_Plan_places S - 1)
def pFind (S : StX) (p : Int32) : Bool := mIn p 0 (xs_Finds_size S - 1)
def pWall (S : StX) (p : Int32) : Bool := mIn p 0 (xs_Wall_size S - 1)
def pStruck (S : StX) (i : Int32) : Bool := decide (¬ xa_Digs_struck S (ix i) = 10000)
def pKnown (S : StX) (i t : Int32) : Bool := decide (xa_Digs_told S (ix i) ≤ t) && decide (t < xa_Digs_struck S (ix i))
def pServes (S : StX) (i h u l t : Int32) : Bool := decide (xa_Digs_hand S (ix i) = h) && decide (¬ xa_Digs_kind S (ix i) = 2) && decide (xa_Digs_top S (ix i) ≤ l) && decide (u ≤ xa_Digs_bottom S (ix i)) && pKnown S i t
def pCuts (S : StX) (i c l : Int32) : Bool := decide (xa_Digs_top S (ix i) ≤ l) && decide (l ≤ xa_Digs_bottom S (ix i)) && pMeet S c c (xa_Digs_upperLeft S (ix i)) (xa_Digs_lowerRight S (ix i))
def pAfter (s k : Int32) : Int32 := if k = 0 then 2 else if k = 1 then (if s = 0 then 1 else s) else (if s = 0 then 0 else 3)
def pFKnown (S : StX) (i t : Int32) : Bool := decide (xa_Finds_told S (ix i) ≤ t)
def pForce (S : StX) (i : Int32) : Bool := decide (xa_Book_from S (ix i) ≤ xa_Book_letters S 0) && decide (xa_Book_letters S 0 ≤ xa_Book_to S (ix i))
def pBorder (S : StX) (c : Int32) : Bool := decide (pCol S c = 0) || decide (pRow S c = 0) || decide (pCol S c = xs_Plan_width S - 1) || decide (pRow S c = xs_Plan_height S - 1)
def pWeekOf (S : StX) (i : Int32) : Int32 := if i = -1 then -1 else xa_Wall_drawn S (ix i)
def pPeek (S : StX) : Int32 := if xs_Read_fault S = 0 ∧ xs_Read_at S < xs_Read_length S then xa_Tape_bytes S (ix (xs_Read_at S)) &&& 255 else -1

set_option maxRecDepth 20000 in
theorem en_City_within {E : EvT} {q : Nat → Nat} {d : Nat} {x0 : Int32} {x1 : Int32} {x2 : Int32} {S : StX} {P : Bool → StX → Prop} (h : (x0 < x1 → (P false S)) ∧ (¬ x0 < x1 → ((x2 < x0 → (P false S)) ∧ (¬ x2 < x0 → (P true S))))) : C_City_within E q d x0 x1 x2 S P := by
  refine Cn.of rfl (Nat.le_of_ble_eq_true rfl) (ls := [(0, .int (x0)), (1, .int (x1)), (2, .int (x2))]) rfl ?_
  refine r_iload_n 1 dX11_within_0 rfl rfl ?_
  refine r_iload_n 0 dX11_within_1 rfl rfl ?_
  refine r_icmp_gt (tgt := 14) dX11_within_2 (by decide) (fun c1 => ?_) (fun c1 => ?_)
  · have h := h.1 c1
    refine r_iconst_0 dX11_within_14 ?_
    exact r_zret0 dX11_within_15 rfl (Nat.le_refl _) (Nat.le_refl _) ⟨_, _, rfl, rfl, h⟩
  · have h := h.2 c1
    refine r_iload_n 0 dX11_within_5 rfl rfl ?_
    refine r_iload_n 2 dX11_within_6 rfl rfl ?_
    refine r_icmp_gt (tgt := 14) dX11_within_7 (by decide) (fun c2 => ?_) (fun c2 => ?_)
    · have h := h.1 c2
      refine r_iconst_0 dX11_within_14 ?_
      exact r_zret0 dX11_within_15 rfl (Nat.le_refl _) (Nat.le_refl _) ⟨_, _, rfl, rfl, h⟩
    · have h := h.2 c2
      refine r_iconst_1 dX11_within_10 ?_
      refine r_goto (tgt := 15) dX11_within_11 (by decide) ?_
      exact r_zret1 dX11_within_15 rfl (Nat.le_refl _) (Nat.le_refl _) ⟨_, _, rfl, rfl, h⟩

theorem ct_City_within {E : EvT} {q : Nat → Nat} {d : Nat} {S : StX} {x0 : Int32} {x1 : Int32} {x2 : Int32} : C_City_within E q d x0 x1 x2 S (fun r S1 => r = mIn x0 x1 x2 ∧ S1 = S) := by
  refine en_City_within ?_
  grind [mIn]

theorem KP11_City_within {E : EvT} {q : Nat → Nat} {I : MI} {d : Nat} {Qw : Option Value → va_W → Prop} {S : StX} {ls : List (Nat × Value)} {st : List Value} {pc : Nat} {x0 : Int32} {x1 : Int32} {x2 : Int32} (hI : I.1.cls = RX11) (hW : (st.map fun v => v.category).sum ≤ 8) (hd : decode I.2.1 pc = .ok (.invokestatic 91, 3)) (kk : RX E q I (d + 1) Qw (S) ls (.int (b2i (mIn x0 x1 x2)) :: st) (pc + 3)) : RX E q I (d + 1) Qw S ls (.int x2 :: .int x1 :: .int x0 :: st) pc := K11_City_within hI hW hd (mBx (ct_City_within (E := E) (q := q) (d := d)) (fun r S1 hs => by obtain ⟨hr, hs⟩ := hs; subst hr; subst hs; exact kk))

theorem KN6_City_within {E : EvT} {q : Nat → Nat} {I : MI} {d : Nat} {Qw : Option Value → va_W → Prop} {S : StX} {ls : List (Nat × Value)} {st : List Value} {pc : Nat} {x0 x1 x2 : Int32} (hE : EOk E q) (hI : I.1.cls = RX6) (hW : (st.map fun v => v.category).sum ≤ 8) (hd : decode I.2.1 pc = .ok (.invokestatic 126, 3)) (kk : RX E q I (d + 1) Qw S ls (.int (b2i (mIn x0 x1 x2)) :: st) (pc + 3)) : RX E q I (d + 1) Qw S ls (.int x2 :: .int x1 :: .int x0 :: st) pc := r_callSN (J := iX_City_within) (As := [.int x0, .int x1, .int x2]) (host := RX11) (by rw [hI]; exact fun A s h => (hE A s h).2.2) w3_87 w1_1 w3_88 (nA := 3) (by decide +kernel) rfl (by decide) hW hd ⟨Nat.le_refl _, Nat.le_refl _⟩ rfl ct_City_within (fun v w ⟨r, S1, hv, hw, hr, hs⟩ => by subst hv; subst hw; subst hr; subst hs; exact kk)
set_option maxRecDepth 20000 in
theorem en_City_isSpan {E : EvT} {q : Nat → Nat} {d : Nat} {x0 : Int32} {x1 : Int32} {x2 : Int32} {S : StX} {P : Bool → StX → Prop} (h : (x0 < 0 → (P false S)) ∧ (¬ x0 < 0 → ((x1 < x0 → (P false S)) ∧ (¬ x1 < x0 → ((x2 < x1 → (P false S)) ∧ (¬ x2 < x1 → (P true S))))))) : C_City_isSpan E q d x0 x1 x2 S P := by
  refine Cn.of rfl (Nat.le_of_ble_eq_true rfl) (ls := [(0, .int (x0)), (1, .int (x1)), (2, .int (x2))]) rfl ?_
  refine r_iconst_0 dX11_isSpan_0 ?_
  refine r_iload_n 0 dX11_isSpan_1 rfl rfl ?_
  refine r_icmp_gt (tgt := 19) dX11_isSpan_2 (by decide) (fun c1 => ?_) (fun c1 => ?_)
  · have h := h.1 c1
    refine r_iconst_0 dX11_isSpan_19 ?_
    exact r_zret0 dX11_isSpan_20 rfl (Nat.le_refl _) (Nat.le_refl _) ⟨_, _, rfl, rfl, h⟩
  · have h := h.2 c1
    refine r_iload_n 0 dX11_isSpan_5 rfl rfl ?_
    refine r_iload_n 1 dX11_isSpan_6 rfl rfl ?_
    refine r_icmp_gt (tgt := 19) dX11_isSpan_7 (by decide) (fun c2 => ?_) (fun c2 => ?_)
    · have h := h.1 c2
      refine r_iconst_0 dX11_isSpan_19 ?_
      exact r_zret0 dX11_isSpan_20 rfl (Nat.le_refl _) (Nat.le_refl _) ⟨_, _, rfl, rfl, h⟩
    · have h := h.2 c2
      refine r_iload_n 1 dX11_isSpan_10 rfl rfl ?_
      refine r_iload_n 2 dX11_isSpan_11 rfl rfl ?_
      refine r_icmp_gt (tgt := 19) dX11_isSpan_12 (by decide) (fun c3 => ?_) (fun c3 => ?_)
      · have h := h.1 c3
        refine r_iconst_0 dX11_isSpan_19 ?_
        exact r_zret0 dX11_isSpan_20 rfl (Nat.le_refl _) (Nat.le_refl _) ⟨_, _, rfl, rfl, h⟩
      · have h := h.2 c3
        refine r_iconst_1 dX11_isSpan_15 ?_
        refine r_goto (tgt := 20) dX11_isSpan_16 (by decide) ?_
        exact r_zret1 dX11_isSpan_20 rfl (Nat.le_refl _) (Nat.le_refl _) ⟨_, _, rfl, rfl, h⟩

theorem ct_City_isSpan {E : EvT} {q : Nat → Nat} {d : Nat} {S : StX} {x0 : Int32} {x1 : Int32} {x2 : Int32} : C_City_isSpan E q d x0 x1 x2 S (fun r S1 => r = pSpan x0 x1 x2 ∧ S1 = S) := by
  refine en_City_isSpan ?_
  grind [pSpan]

theorem KP11_City_isSpan {E : EvT} {q : Nat → Nat} {I : MI} {d : Nat} {Qw : Option Value → va_W → Prop} {S : StX} {ls : List (Nat × Value)} {st : List Value} {pc : Nat} {x0 : Int32} {x1 : Int32} {x2 : Int32} (hI : I.1.cls = RX11) (hW : (st.map fun v => v.category).sum ≤ 8) (hd : decode I.2.1 pc = .ok (.invokestatic 137, 3)) (kk : RX E q I (d + 1) Qw (S) ls (.int (b2i (pSpan x0 x1 x2)) :: st) (pc + 3)) : RX E q I (d + 1) Qw S ls (.int x2 :: .int x1 :: .int x0 :: st) pc := K11_City_isSpan hI hW hd (mBx (ct_City_isSpan (E := E) (q := q) (d := d)) (fun r S1 hs => by obtain ⟨hr, hs⟩ := hs; subst hr; subst hs; exact kk))

set_option maxRecDepth 20000 in
theorem en_City_isWeek {E : EvT} {q : Nat → Nat} {d : Nat} {x0 : Int32} {S : StX} {P : Bool → StX → Prop} (h : P (mIn x0 0 9999) S) : C_City_isWeek E q (d + 1) x0 S P := by
  refine Cn.of rfl (Nat.le_of_ble_eq_true rfl) (ls := [(0, .int (x0))]) rfl ?_
  refine r_iload_n 0 dX11_isWeek_0 rfl rfl ?_
  refine r_iconst_0 dX11_isWeek_1 ?_
  refine r_sipush_9999 dX11_isWeek_2 ?_
  refine KP11_City_within (d := d + 0)  rfl (Nat.le_of_ble_eq_true rfl) dX11_isWeek_5 ?_
  exact r_zret dX11_isWeek_8 rfl (Nat.le_refl _) (Nat.le_refl _) ⟨_, _, rfl, rfl, h⟩

theorem ct_City_isWeek {E : EvT} {q : Nat → Nat} {d : Nat} {S : StX} {x0 : Int32} : C_City_isWeek E q (d + 1) x0 S (fun r S1 => r = mWeek x0 ∧ S1 = S) := by
  refine en_City_isWeek ?_
  grind [mWeek, mIn]

theorem KP11_City_isWeek {E : EvT} {q : Nat → Nat} {I : MI} {d : Nat} {Qw : Option Value → va_W → Prop} {S : StX} {ls : List (Nat × Value)} {st : List Value} {pc : Nat} {x0 : Int32} (hI : I.1.cls = RX11) (hW : (st.map fun v => v.category).sum ≤ 8) (hd : decode I.2.1 pc = .ok (.invokestatic 111, 3)) (kk : RX E q I (d + 2) Qw (S) ls (.int (b2i (mWeek x0)) :: st) (pc + 3)) : RX E q I (d + 2) Qw S ls (.int x0 :: st) pc := K11_City_isWeek hI hW hd (mBx (ct_City_isWeek (E := E) (q := q) (d := d)) (fun r S1 hs => by obtain ⟨hr, hs⟩ := hs; subst hr; subst hs; exact kk))

set_option maxRecDepth 20000 in
theorem en_City_isLayer {E : EvT} {q : Nat → Nat} {d : Nat} {x0 : Int32} {S : StX} {P : Bool → StX → Prop} (h : P (mIn x0 0 7) S) : C_City_isLayer E q (d + 1) x0 S P := by
  refine Cn.of rfl (Nat.le_of_ble_eq_true rfl) (ls := [(0, .int (x0))]) rfl ?_
  refine r_iload_n 0 dX11_isLayer_0 rfl rfl ?_
  refine r_iconst_0 dX11_isLayer_1 ?_
  refine r_bipush_7 dX11_isLayer_2 ?_
  refine KP11_City_within (d := d + 0)  rfl (Nat.le_of_ble_eq_true rfl) dX11_isLayer_4 ?_
  exact r_zret dX11_isLayer_7 rfl (Nat.le_refl _) (Nat.le_refl _) ⟨_, _, rfl, rfl, h⟩

theorem ct_City_isLayer {E : EvT} {q : Nat → Nat} {d : Nat} {S : StX} {x0 : Int32} : C_City_isLayer E q (d + 1) x0 S (fun r S1 => r = mLayer x0 ∧ S1 = S) := by
  refine en_City_isLayer ?_
  grind [mLayer, mIn]

theorem KP11_City_isLayer {E : EvT} {q : Nat → Nat} {I : MI} {d : Nat} {Qw : Option Value → va_W → Prop} {S : StX} {ls : List (Nat × Value)} {st : List Value} {pc : Nat} {x0 : Int32} (hI : I.1.cls = RX11) (hW : (st.map fun v => v.category).sum ≤ 8) (hd : decode I.2.1 pc = .ok (.invokestatic 328, 3)) (kk : RX E q I (d + 2) Qw (S) ls (.int (b2i (mLayer x0)) :: st) (pc + 3)) : RX E q I (d + 2) Qw S ls (.int x0 :: st) pc := K11_City_isLayer hI hW hd (mBx (ct_City_isLayer (E := E) (q := q) (d := d)) (fun r S1 hs => by obtain ⟨hr, hs⟩ := hs; subst hr; subst hs; exact kk))

set_option maxRecDepth 20000 in
theorem en_City_isNumber {E : EvT} {q : Nat → Nat} {d : Nat} {x0 : Int32} {x1 : Int32} {S : StX} {P : Bool → StX → Prop} (h : ((mIn x0 0 3) = false → (P false S)) ∧ ((mIn x0 0 3) = true → (((mIn x1 1 99) = false → (P false S)) ∧ ((mIn x1 1 99) = true → (P true S))))) : C_City_isNumber E q (d + 1) x0 x1 S P := by
  refine Cn.of rfl (Nat.le_of_ble_eq_true rfl) (ls := [(0, .int (x0)), (1, .int (x1))]) rfl ?_
  refine r_iload_n 0 dX11_isNumber_0 rfl rfl ?_
  refine r_iconst_0 dX11_isNumber_1 ?_
  refine r_iconst_3 dX11_isNumber_2 ?_
  refine KP11_City_within (d := d + 0)  rfl (Nat.le_of_ble_eq_true rfl) dX11_isNumber_3 ?_
  refine r_if_eqb (tgt := 23) dX11_isNumber_6 (by decide) (fun c1 => ?_) (fun c1 => ?_)
  · have h := h.1 c1
    refine r_iconst_0 dX11_isNumber_23 ?_
    exact r_zret0 dX11_isNumber_24 rfl (Nat.le_refl _) (Nat.le_refl _) ⟨_, _, rfl, rfl, h⟩
  · have h := h.2 c1
    refine r_iload_n 1 dX11_isNumber_9 rfl rfl ?_
    refine r_iconst_1 dX11_isNumber_10 ?_
    refine r_bipush_99 dX11_isNumber_11 ?_
    refine KP11_City_within (d := d + 0)  rfl (Nat.le_of_ble_eq_true rfl) dX11_isNumber_13 ?_
    refine r_if_eqb (tgt := 23) dX11_isNumber_16 (by decide) (fun c2 => ?_) (fun c2 => ?_)
    · have h := h.1 c2
      refine r_iconst_0 dX11_isNumber_23 ?_
      exact r_zret0 dX11_isNumber_24 rfl (Nat.le_refl _) (Nat.le_refl _) ⟨_, _, rfl, rfl, h⟩
    · have h := h.2 c2
      refine r_iconst_1 dX11_isNumber_19 ?_
      refine r_goto (tgt := 24) dX11_isNumber_20 (by decide) ?_
      exact r_zret1 dX11_isNumber_24 rfl (Nat.le_refl _) (Nat.le_refl _) ⟨_, _, rfl, rfl, h⟩

theorem ct_City_isNumber {E : EvT} {q : Nat → Nat} {d : Nat} {S : StX} {x0 : Int32} {x1 : Int32} : C_City_isNumber E q (d + 1) x0 x1 S (fun r S1 => r = pNum x0 x1 ∧ S1 = S) := by
  refine en_City_isNumber ?_
  grind [pNum]

theorem KP11_City_isNumber {E : EvT} {q : Nat → Nat} {I : MI} {d : Nat} {Qw : Option Value → va_W → Prop} {S : StX} {ls : List (Nat × Value)} {st : List Value} {pc : Nat} {x0 : Int32} {x1 : Int32} (hI : I.1.cls = RX11) (hW : (st.map fun v => v.category).sum ≤ 8) (hd : decode I.2.1 pc = .ok (.invokestatic 166, 3)) (kk : RX E q I (d + 2) Qw (S) ls (.int (b2i (pNum x0 x1)) :: st) (pc + 3)) : RX E q I (d + 2) Qw S ls (.int x1 :: .int x0 :: st) pc := K11_City_isNumber hI hW hd (mBx (ct_City_isNumber (E := E) (q := q) (d := d)) (fun r S1 hs => by obtain ⟨hr, hs⟩ := hs; subst hr; subst hs; exact kk))

set_option maxRecDepth 20000 in
theorem en_Plan_cells {E : EvT} {q : Nat → Nat} {d : Nat} {S : StX} {P : Int32 → StX → Prop} (h : P ((xs_Plan_width S) * (xs_Plan_height S)) S) : C_Plan_cells E q d S P := by
  refine Cn.of rfl (Nat.le_of_ble_eq_true rfl) (ls := [(0, .ref (q 4))]) rfl ?_
  refine r_aload_n 0 dX4_cells_0 rfl rfl ?_
  refine xg_4_9 rfl dX4_cells_1 ?_
  refine r_aload_n 0 dX4_cells_4 rfl rfl ?_
  refine xg_4_15 rfl dX4_cells_5 ?_
  refine r_imul dX4_cells_8 ?_
  exact r_iret dX4_cells_9 rfl (Nat.le_refl _) (Nat.le_refl _) ⟨_, _, rfl, rfl, h⟩

theorem ct_Plan_cells {E : EvT} {q : Nat → Nat} {d : Nat} {S : StX} : C_Plan_cells E q d S (fun r S1 => r = xs_Plan_width S * xs_Plan_height S ∧ S1 = S) := by
  refine en_Plan_cells ?_
  exact ⟨rfl, rfl⟩

theorem KP11_Plan_cells {E : EvT} {q : Nat → Nat} {I : MI} {d : Nat} {Qw : Option Value → va_W → Prop} {S : StX} {ls : List (Nat × Value)} {st : List Value} {pc : Nat} (hI : I.1.cls = RX11) (hW : (st.map fun v => v.category).sum ≤ 8) (hd : decode I.2.1 pc = .ok (.invokevirtual 387, 3)) (kk : RX E q I (d + 1) Qw (S) ls (.int (xs_Plan_width S * xs_Plan_height S) :: st) (pc + 3)) : RX E q I (d + 1) Qw S ls (.ref (q 4) :: st) pc := K11_Plan_cells hI hW hd (mIx (ct_Plan_cells (E := E) (q := q) (d := d)) (fun r S1 hs => by obtain ⟨hr, hs⟩ := hs; subst hr; subst hs; exact kk))
theorem KP4_Plan_cells {E : EvT} {q : Nat → Nat} {I : MI} {d : Nat} {Qw : Option Value → va_W → Prop} {S : StX} {ls : List (Nat × Value)} {st : List Value} {pc : Nat} (hI : I.1.cls = RX4) (hW : (st.map fun v => v.category).sum ≤ 8) (hd : decode I.2.1 pc = .ok (.invokevirtual 40, 3)) (kk : RX E q I (d + 1) Qw (S) ls (.int (xs_Plan_width S * xs_Plan_height S) :: st) (pc + 3)) : RX E q I (d + 1) Qw S ls (.ref (q 4) :: st) pc := K4_Plan_cells hI hW hd (mIx (ct_Plan_cells (E := E) (q := q) (d := d)) (fun r S1 hs => by obtain ⟨hr, hs⟩ := hs; subst hr; subst hs; exact kk))

set_option maxRecDepth 20000 in
theorem en_Plan_isCell {E : EvT} {q : Nat → Nat} {d : Nat} {x1 : Int32} {S : StX} {P : Bool → StX → Prop} (h : (x1 < 0 → (P false S)) ∧ (¬ x1 < 0 → (((xs_Plan_width S * xs_Plan_height S) ≤ x1 → (P false S)) ∧ (¬ (xs_Plan_width S * xs_Plan_height S) ≤ x1 → (P true S))))) : C_Plan_isCell E q (d + 1) x1 S P := by
  refine Cn.of rfl (Nat.le_of_ble_eq_true rfl) (ls := [(0, .ref (q 4)), (1, .int (x1))]) rfl ?_
  refine r_iconst_0 dX4_isCell_0 ?_
  refine r_iload_n 1 dX4_isCell_1 rfl rfl ?_
  refine r_icmp_gt (tgt := 17) dX4_isCell_2 (by decide) (fun c1 => ?_) (fun c1 => ?_)
  · have h := h.1 c1
    refine r_iconst_0 dX4_isCell_17 ?_
    exact r_zret0 dX4_isCell_18 rfl (Nat.le_refl _) (Nat.le_refl _) ⟨_, _, rfl, rfl, h⟩
  · have h := h.2 c1
    refine r_iload_n 1 dX4_isCell_5 rfl rfl ?_
    refine r_aload_n 0 dX4_isCell_6 rfl rfl ?_
    refine KP4_Plan_cells (d := d + 0)  rfl (Nat.le_of_ble_eq_true rfl) dX4_isCell_7 ?_
    refine r_icmp_ge (tgt := 17) dX4_isCell_10 (by decide) (fun c2 => ?_) (fun c2 => ?_)
    · have h := h.1 c2
      refine r_iconst_0 dX4_isCell_17 ?_
      exact r_zret0 dX4_isCell_18 rfl (Nat.le_refl _) (Nat.le_refl _) ⟨_, _, rfl, rfl, h⟩
    · have h := h.2 c2
      refine r_iconst_1 dX4_isCell_13 ?_
      refine r_goto (tgt := 18) dX4_isCell_14 (by decide) ?_
      exact r_zret1 dX4_isCell_18 rfl (Nat.le_refl _) (Nat.le_refl _) ⟨_, _, rfl, rfl, h⟩

theorem ct_Plan_isCell {E : EvT} {q : Nat → Nat} {d : Nat} {S : StX} {x1 : Int32} : C_Plan_isCell E q (d + 1) x1 S (fun r S1 => r = pCell S x1 ∧ S1 = S) := by
  refine en_Plan_isCell ?_
  grind [pCell]

theorem KP0_Plan_isCell {E : EvT} {q : Nat → Nat} {I : MI} {d : Nat} {Qw : Option Value → va_W → Prop} {S : StX} {ls : List (Nat × Value)} {st : List Value} {pc : Nat} {x1 : Int32} (hI : I.1.cls = RX0) (hW : (st.map fun v => v.category).sum ≤ 8) (hd : decode I.2.1 pc = .ok (.invokevirtual 100, 3)) (kk : RX E q I (d + 2) Qw (S) ls (.int (b2i (pCell S x1)) :: st) (pc + 3)) : RX E q I (d + 2) Qw S ls (.int x1 :: .ref (q 4) :: st) pc := K0_Plan_isCell hI hW hd (mBx (ct_Plan_isCell (E := E) (q := q) (d := d)) (fun r S1 hs => by obtain ⟨hr, hs⟩ := hs; subst hr; subst hs; exact kk))
theorem KP11_Plan_isCell {E : EvT} {q : Nat → Nat} {I : MI} {d : Nat} {Qw : Option Value → va_W → Prop} {S : StX} {ls : List (Nat × Value)} {st : List Value} {pc : Nat} {x1 : Int32} (hI : I.1.cls = RX11) (hW : (st.map fun v => v.category).sum ≤ 8) (hd : decode I.2.1 pc = .ok (.invokevirtual 130, 3)) (kk : RX E q I (d + 2) Qw (S) ls (.int (b2i (pCell S x1)) :: st) (pc + 3)) : RX E q I (d + 2) Qw S ls (.int x1 :: .ref (q 4) :: st) pc := K11_Plan_isCell hI hW hd (mBx (ct_Plan_isCell (E := E) (q := q) (d := d)) (fun r S1 hs => by obtain ⟨hr, hs⟩ := hs; subst hr; subst hs; exact kk))
theorem KP4_Plan_isCell {E : EvT} {q : Nat → Nat} {I : MI} {d : Nat} {Qw : Option Value → va_W → Prop} {S : StX} {ls : List (Nat × Value)} {st : List Value} {pc : Nat} {x1 : Int32} (hI : I.1.cls = RX4) (hW : (st.map fun v => v.category).sum ≤ 8) (hd : decode I.2.1 pc = .ok (.invokevirtual 44, 3)) (kk : RX E q I (d + 2) Qw (S) ls (.int (b2i (pCell S x1)) :: st) (pc + 3)) : RX E q I (d + 2) Qw S ls (.int x1 :: .ref (q 4) :: st) pc := K4_Plan_isCell hI hW hd (mBx (ct_Plan_isCell (E := E) (q := q) (d := d)) (fun r S1 hs => by obtain ⟨hr, hs⟩ := hs; subst hr; subst hs; exact kk))

set_option maxRecDepth 20000 in
theorem en_Plan_column {E : EvT} {q : Nat → Nat} {d : Nat} {x1 : Int32} {S : StX} {P : Int32 → StX → Prop} (h : ((xs_Plan_width S) ≤ 0 → (P 0 S)) ∧ (¬ (xs_Plan_width S) ≤ 0 → (¬ (xs_Plan_width S) = 0 ∧ (P (x1 - x1 / (xs_Plan_width S) * (xs_Plan_width S)) S)))) : C_Plan_column E q d x1 S P := by
  refine Cn.of rfl (Nat.le_of_ble_eq_true rfl) (ls := [(0, .ref (q 4)), (1, .int (x1))]) rfl ?_
  refine r_aload_n 0 dX4_column_0 rfl rfl ?_
  refine xg_4_9 rfl dX4_column_1 ?_
  refine r_if_le (tgt := 16) dX4_column_4 (by decide) (fun c1 => ?_) (fun c1 => ?_)
  · have h := h.1 c1
    refine r_iconst_0 dX4_column_16 ?_
    exact r_iret dX4_column_17 rfl (Nat.le_refl _) (Nat.le_refl _) ⟨_, _, rfl, rfl, h⟩
  · have h := h.2 c1
    refine r_iload_n 1 dX4_column_7 rfl rfl ?_
    refine r_aload_n 0 dX4_column_8 rfl rfl ?_
    refine xg_4_9 rfl dX4_column_9 ?_
    obtain ⟨b2, h⟩ := h
    refine r_irem dX4_column_12 b2 ?_
    refine r_goto (tgt := 17) dX4_column_13 (by decide) ?_
    exact r_iret dX4_column_17 rfl (Nat.le_refl _) (Nat.le_refl _) ⟨_, _, rfl, rfl, h⟩

theorem ct_Plan_column {E : EvT} {q : Nat → Nat} {d : Nat} {S : StX} {x1 : Int32} : C_Plan_column E q d x1 S (fun r S1 => r = pCol S x1 ∧ S1 = S) := by
  refine en_Plan_column ?_
  grind [pCol, rmd]

theorem KP0_Plan_column {E : EvT} {q : Nat → Nat} {I : MI} {d : Nat} {Qw : Option Value → va_W → Prop} {S : StX} {ls : List (Nat × Value)} {st : List Value} {pc : Nat} {x1 : Int32} (hI : I.1.cls = RX0) (hW : (st.map fun v => v.category).sum ≤ 8) (hd : decode I.2.1 pc = .ok (.invokevirtual 87, 3)) (kk : RX E q I (d + 1) Qw (S) ls (.int (pCol S x1) :: st) (pc + 3)) : RX E q I (d + 1) Qw S ls (.int x1 :: .ref (q 4) :: st) pc := K0_Plan_column hI hW hd (mIx (ct_Plan_column (E := E) (q := q) (d := d)) (fun r S1 hs => by obtain ⟨hr, hs⟩ := hs; subst hr; subst hs; exact kk))
theorem KP4_Plan_column {E : EvT} {q : Nat → Nat} {I : MI} {d : Nat} {Qw : Option Value → va_W → Prop} {S : StX} {ls : List (Nat × Value)} {st : List Value} {pc : Nat} {x1 : Int32} (hI : I.1.cls = RX4) (hW : (st.map fun v => v.category).sum ≤ 8) (hd : decode I.2.1 pc = .ok (.invokevirtual 48, 3)) (kk : RX E q I (d + 1) Qw (S) ls (.int (pCol S x1) :: st) (pc + 3)) : RX E q I (d + 1) Qw S ls (.int x1 :: .ref (q 4) :: st) pc := K4_Plan_column hI hW hd (mIx (ct_Plan_column (E := E) (q := q) (d := d)) (fun r S1 hs => by obtain ⟨hr, hs⟩ := hs; subst hr; subst hs; exact kk))

set_option maxRecDepth 20000 in
theorem en_Plan_row {E : EvT} {q : Nat → Nat} {d : Nat} {x1 : Int32} {S : StX} {P : Int32 → StX → Prop} (h : ((xs_Plan_width S) ≤ 0 → (P 0 S)) ∧ (¬ (xs_Plan_width S) ≤ 0 → (¬ (xs_Plan_width S) = 0 ∧ (P (x1 / (xs_Plan_width S)) S)))) : C_Plan_row E q d x1 S P := by
  refine Cn.of rfl (Nat.le_of_ble_eq_true rfl) (ls := [(0, .ref (q 4)), (1, .int (x1))]) rfl ?_
  refine r_aload_n 0 dX4_row_0 rfl rfl ?_
  refine xg_4_9 rfl dX4_row_1 ?_
  refine r_if_le (tgt := 16) dX4_row_4 (by decide) (fun c1 => ?_) (fun c1 => ?_)
  · have h := h.1 c1
    refine r_iconst_0 dX4_row_16 ?_
    exact r_iret dX4_row_17 rfl (Nat.le_refl _) (Nat.le_refl _) ⟨_, _, rfl, rfl, h⟩
  · have h := h.2 c1
    refine r_iload_n 1 dX4_row_7 rfl rfl ?_
    refine r_aload_n 0 dX4_row_8 rfl rfl ?_
    refine xg_4_9 rfl dX4_row_9 ?_
    obtain ⟨b2, h⟩ := h
    refine r_idiv dX4_row_12 b2 ?_
    refine r_goto (tgt := 17) dX4_row_13 (by decide) ?_
    exact r_iret dX4_row_17 rfl (Nat.le_refl _) (Nat.le_refl _) ⟨_, _, rfl, rfl, h⟩

theorem ct_Plan_row {E : EvT} {q : Nat → Nat} {d : Nat} {S : StX} {x1 : Int32} : C_Plan_row E q d x1 S (fun r S1 => r = pRow S x1 ∧ S1 = S) := by
  refine en_Plan_row ?_
  grind [pRow]

theorem KP0_Plan_row {E : EvT} {q : Nat → Nat} {I : MI} {d : Nat} {Qw : Option Value → va_W → Prop} {S : StX} {ls : List (Nat × Value)} {st : List Value} {pc : Nat} {x1 : Int32} (hI : I.1.cls = RX0) (hW : (st.map fun v => v.category).sum ≤ 8) (hd : decode I.2.1 pc = .ok (.invokevirtual 92, 3)) (kk : RX E q I (d + 1) Qw (S) ls (.int (pRow S x1) :: st) (pc + 3)) : RX E q I (d + 1) Qw S ls (.int x1 :: .ref (q 4) :: st) pc := K0_Plan_row hI hW hd (mIx (ct_Plan_row (E := E) (q := q) (d := d)) (fun r S1 hs => by obtain ⟨hr, hs⟩ := hs; subst hr; subst hs; exact kk))
theorem KP4_Plan_row {E : EvT} {q : Nat → Nat} {I : MI} {d : Nat} {Qw : Option Value → va_W → Prop} {S : StX} {ls : List (Nat × Value)} {st : List Value} {pc : Nat} {x1 : Int32} (hI : I.1.cls = RX4) (hW : (st.map fun v => v.category).sum ≤ 8) (hd : decode I.2.1 pc = .ok (.invokevirtual 52, 3)) (kk : RX E q I (d + 1) Qw (S) ls (.int (pRow S x1) :: st) (pc + 3)) : RX E q I (d + 1) Qw S ls (.int x1 :: .ref (q 4) :: st) pc := K4_Plan_row hI hW hd (mIx (ct_Plan_row (E := E) (q := q) (d := d)) (fun r S1 hs => by obtain ⟨hr, hs⟩ := hs; subst hr; subst hs; exact kk))

set_option maxRecDepth 20000 in
theorem en_Plan_isArea {E : EvT} {q : Nat → Nat} {d : Nat} {x1 : Int32} {x2 : Int32} {S : StX} {P : Bool → StX → Prop} (h : ((pCell S x1) = false → (P false S)) ∧ ((pCell S x1) = true → (((pCell S x2) = false → (P false S)) ∧ ((pCell S x2) = true → (((pCol S x2) < (pCol S x1) → (P false S)) ∧ (¬ (pCol S x2) < (pCol S x1) → (((pRow S x2) < (pRow S x1) → (P false S)) ∧ (¬ (pRow S x2) < (pRow S x1) → (P true S))))))))) : C_Plan_isArea E q (d + 2) x1 x2 S P := by
  refine Cn.of rfl (Nat.le_of_ble_eq_true rfl) (ls := [(0, .ref (q 4)), (1, .int (x1)), (2, .int (x2))]) rfl ?_
  refine r_aload_n 0 dX4_isArea_0 rfl rfl ?_
  refine r_iload_n 1 dX4_isArea_1 rfl rfl ?_
  refine KP4_Plan_isCell (d := d + 0)  rfl (Nat.le_of_ble_eq_true rfl) dX4_isArea_2 ?_
  refine r_if_eqb (tgt := 46) dX4_isArea_5 (by decide) (fun c1 => ?_) (fun c1 => ?_)
  · have h := h.1 c1
    refine r_iconst_0 dX4_isArea_46 ?_
    exact r_zret0 dX4_isArea_47 rfl (Nat.le_refl _) (Nat.le_refl _) ⟨_, _, rfl, rfl, h⟩
  · have h := h.2 c1
    refine r_aload_n 0 dX4_isArea_8 rfl rfl ?_
    refine r_iload_n 2 dX4_isArea_9 rfl rfl ?_
    refine KP4_Plan_isCell (d := d + 0)  rfl (Nat.le_of_ble_eq_true rfl) dX4_isArea_10 ?_
    refine r_if_eqb (tgt := 46) dX4_isArea_13 (by decide) (fun c2 => ?_) (fun c2 => ?_)
    · have h := h.1 c2
      refine r_iconst_0 dX4_isArea_46 ?_
      exact r_zret0 dX4_isArea_47 rfl (Nat.le_refl _) (Nat.le_refl _) ⟨_, _, rfl, rfl, h⟩
    · have h := h.2 c2
      refine r_aload_n 0 dX4_isArea_16 rfl rfl ?_
      refine r_iload_n 1 dX4_isArea_17 rfl rfl ?_
      refine KP4_Plan_column (d := d + 1)  rfl (Nat.le_of_ble_eq_true rfl) dX4_isArea_18 ?_
      refine r_aload_n 0 dX4_isArea_21 rfl rfl ?_
      refine r_iload_n 2 dX4_isArea_22 rfl rfl ?_
      refine KP4_Plan_column (d := d + 1)  rfl (Nat.le_of_ble_eq_true rfl) dX4_isArea_23 ?_
      refine r_icmp_gt (tgt := 46) dX4_isArea_26 (by decide) (fun c3 => ?_) (fun c3 => ?_)
      · have h := h.1 c3
        refine r_iconst_0 dX4_isArea_46 ?_
        exact r_zret0 dX4_isArea_47 rfl (Nat.le_refl _) (Nat.le_refl _) ⟨_, _, rfl, rfl, h⟩
      · have h := h.2 c3
        refine r_aload_n 0 dX4_isArea_29 rfl rfl ?_
        refine r_iload_n 1 dX4_isArea_30 rfl rfl ?_
        refine KP4_Plan_row (d := d + 1)  rfl (Nat.le_of_ble_eq_true rfl) dX4_isArea_31 ?_
        refine r_aload_n 0 dX4_isArea_34 rfl rfl ?_
        refine r_iload_n 2 dX4_isArea_35 rfl rfl ?_
        refine KP4_Plan_row (d := d + 1)  rfl (Nat.le_of_ble_eq_true rfl) dX4_isArea_36 ?_
        refine r_icmp_gt (tgt := 46) dX4_isArea_39 (by decide) (fun c4 => ?_) (fun c4 => ?_)
        · have h := h.1 c4
          refine r_iconst_0 dX4_isArea_46 ?_
          exact r_zret0 dX4_isArea_47 rfl (Nat.le_refl _) (Nat.le_refl _) ⟨_, _, rfl, rfl, h⟩
        · have h := h.2 c4
          refine r_iconst_1 dX4_isArea_42 ?_
          refine r_goto (tgt := 47) dX4_isArea_43 (by decide) ?_
          exact r_zret1 dX4_isArea_47 rfl (Nat.le_refl _) (Nat.le_refl _) ⟨_, _, rfl, rfl, h⟩

theorem ct_Plan_isArea {E : EvT} {q : Nat → Nat} {d : Nat} {S : StX} {x1 : Int32} {x2 : Int32} : C_Plan_isArea E q (d + 2) x1 x2 S (fun r S1 => r = pArea S x1 x2 ∧ S1 = S) := by
  refine en_Plan_isArea ?_
  grind [pArea]

theorem KP11_Plan_isArea {E : EvT} {q : Nat → Nat} {I : MI} {d : Nat} {Qw : Option Value → va_W → Prop} {S : StX} {ls : List (Nat × Value)} {st : List Value} {pc : Nat} {x1 : Int32} {x2 : Int32} (hI : I.1.cls = RX11) (hW : (st.map fun v => v.category).sum ≤ 8) (hd : decode I.2.1 pc = .ok (.invokevirtual 115, 3)) (kk : RX E q I (d + 3) Qw (S) ls (.int (b2i (pArea S x1 x2)) :: st) (pc + 3)) : RX E q I (d + 3) Qw S ls (.int x2 :: .int x1 :: .ref (q 4) :: st) pc := K11_Plan_isArea hI hW hd (mBx (ct_Plan_isArea (E := E) (q := q) (d := d)) (fun r S1 hs => by obtain ⟨hr, hs⟩ := hs; subst hr; subst hs; exact kk))

set_option maxRecDepth 20000 in
theorem en_Plan_meet {E : EvT} {q : Nat → Nat} {d : Nat} {x1 : Int32} {x2 : Int32} {x3 : Int32} {x4 : Int32} {S : StX} {P : Bool → StX → Prop} (h : ((pCol S x4) < (pCol S x1) → (P false S)) ∧ (¬ (pCol S x4) < (pCol S x1) → (((pCol S x2) < (pCol S x3) → (P false S)) ∧ (¬ (pCol S x2) < (pCol S x3) → (((pRow S x4) < (pRow S x1) → (P false S)) ∧ (¬ (pRow S x4) < (pRow S x1) → (((pRow S x2) < (pRow S x3) → (P false S)) ∧ (¬ (pRow S x2) < (pRow S x3) → (P true S))))))))) : C_Plan_meet E q (d + 1) x1 x2 x3 x4 S P := by
  refine Cn.of rfl (Nat.le_of_ble_eq_true rfl) (ls := [(0, .ref (q 4)), (1, .int (x1)), (2, .int (x2)), (3, .int (x3)), (4, .int (x4))]) rfl ?_
  refine r_aload_n 0 dX4_meet_0 rfl rfl ?_
  refine r_iload_n 1 dX4_meet_1 rfl rfl ?_
  refine KP4_Plan_column (d := d + 0)  rfl (Nat.le_of_ble_eq_true rfl) dX4_meet_2 ?_
  refine r_aload_n 0 dX4_meet_5 rfl rfl ?_
  refine r_iload 4 dX4_meet_6 rfl ?_
  refine KP4_Plan_column (d := d + 0)  rfl (Nat.le_of_ble_eq_true rfl) dX4_meet_8 ?_
  refine r_icmp_gt (tgt := 58) dX4_meet_11 (by decide) (fun c1 => ?_) (fun c1 => ?_)
  · have h := h.1 c1
    refine r_iconst_0 dX4_meet_58 ?_
    exact r_zret0 dX4_meet_59 rfl (Nat.le_refl _) (Nat.le_refl _) ⟨_, _, rfl, rfl, h⟩
  · have h := h.2 c1
    refine r_aload_n 0 dX4_meet_14 rfl rfl ?_
    refine r_iload_n 3 dX4_meet_15 rfl rfl ?_
    refine KP4_Plan_column (d := d + 0)  rfl (Nat.le_of_ble_eq_true rfl) dX4_meet_16 ?_
    refine r_aload_n 0 dX4_meet_19 rfl rfl ?_
    refine r_iload_n 2 dX4_meet_20 rfl rfl ?_
    refine KP4_Plan_column (d := d + 0)  rfl (Nat.le_of_ble_eq_true rfl) dX4_meet_21 ?_
    refine r_icmp_gt (tgt := 58) dX4_meet_24 (by decide) (fun c2 => ?_) (fun c2 => ?_)
    · have h := h.1 c2
      refine r_iconst_0 dX4_meet_58 ?_
      exact r_zret0 dX4_meet_59 rfl (Nat.le_refl _) (Nat.le_refl _) ⟨_, _, rfl, rfl, h⟩
    · have h := h.2 c2
      refine r_aload_n 0 dX4_meet_27 rfl rfl ?_
      refine r_iload_n 1 dX4_meet_28 rfl rfl ?_
      refine KP4_Plan_row (d := d + 0)  rfl (Nat.le_of_ble_eq_true rfl) dX4_meet_29 ?_
      refine r_aload_n 0 dX4_meet_32 rfl rfl ?_
      refine r_iload 4 dX4_meet_33 rfl ?_
      refine KP4_Plan_row (d := d + 0)  rfl (Nat.le_of_ble_eq_true rfl) dX4_meet_35 ?_
      refine r_icmp_gt (tgt := 58) dX4_meet_38 (by decide) (fun c3 => ?_) (fun c3 => ?_)
      · have h := h.1 c3
        refine r_iconst_0 dX4_meet_58 ?_
        exact r_zret0 dX4_meet_59 rfl (Nat.le_refl _) (Nat.le_refl _) ⟨_, _, rfl, rfl, h⟩
      · have h := h.2 c3
        refine r_aload_n 0 dX4_meet_41 rfl rfl ?_
        refine r_iload_n 3 dX4_meet_42 rfl rfl ?_
        refine KP4_Plan_row (d := d + 0)  rfl (Nat.le_of_ble_eq_true rfl) dX4_meet_43 ?_
        refine r_aload_n 0 dX4_meet_46 rfl rfl ?_
        refine r_iload_n 2 dX4_meet_47 rfl rfl ?_
        refine KP4_Plan_row (d := d + 0)  rfl (Nat.le_of_ble_eq_true rfl) dX4_meet_48 ?_
        refine r_icmp_gt (tgt := 58) dX4_meet_51 (by decide) (fun c4 => ?_) (fun c4 => ?_)
        · have h := h.1 c4
          refine r_iconst_0 dX4_meet_58 ?_
          exact r_zret0 dX4_meet_59 rfl (Nat.le_refl _) (Nat.le_refl _) ⟨_, _, rfl, rfl, h⟩
        · have h := h.2 c4
          refine r_iconst_1 dX4_meet_54 ?_
          refine r_goto (tgt := 59) dX4_meet_55 (by decide) ?_
          exact r_zret1 dX4_meet_59 rfl (Nat.le_refl _) (Nat.le_refl _) ⟨_, _, rfl, rfl, h⟩

theorem ct_Plan_meet {E : EvT} {q : Nat → Nat} {d : Nat} {S : StX} {x1 : Int32} {x2 : Int32} {x3 : Int32} {x4 : Int32} : C_Plan_meet E q (d + 1) x1 x2 x3 x4 S (fun r S1 => r = pMeet S x1 x2 x3 x4 ∧ S1 = S) := by
  refine en_Plan_meet ?_
  grind [pMeet]

theorem KP1_Plan_meet {E : EvT} {q : Nat → Nat} {I : MI} {d : Nat} {Qw : Option Value → va_W → Prop} {S : StX} {ls : List (Nat × Value)} {st : List Value} {pc : Nat} {x1 : Int32} {x2 : Int32} {x3 : Int32} {x4 : Int32} (hI : I.1.cls = RX1) (hW : (st.map fun v => v.category).sum ≤ 8) (hd : decode I.2.1 pc = .ok (.invokevirtual 62, 3)) (kk : RX E q I (d + 2) Qw (S) ls (.int (b2i (pMeet S x1 x2 x3 x4)) :: st) (pc + 3)) : RX E q I (d + 2) Qw S ls (.int x4 :: .int x3 :: .int x2 :: .int x1 :: .ref (q 4) :: st) pc := K1_Plan_meet hI hW hd (mBx (ct_Plan_meet (E := E) (q := q) (d := d)) (fun r S1 hs => by obtain ⟨hr, hs⟩ := hs; subst hr; subst hs; exact kk))
theorem KP4_Plan_meet {E : EvT} {q : Nat → Nat} {I : MI} {d : Nat} {Qw : Option Value → va_W → Prop} {S : StX} {ls : List (Nat × Value)} {st : List Value} {pc : Nat} {x1 : Int32} {x2 : Int32} {x3 : Int32} {x4 : Int32} (hI : I.1.cls = RX4) (hW : (st.map fun v => v.category).sum ≤ 8) (hd : decode I.2.1 pc = .ok (.invokevirtual 62, 3)) (kk : RX E q I (d + 2) Qw (S) ls (.int (b2i (pMeet S x1 x2 x3 x4)) :: st) (pc + 3)) : RX E q I (d + 2) Qw S ls (.int x4 :: .int x3 :: .int x2 :: .int x1 :: .ref (q 4) :: st) pc := K4_Plan_meet hI hW hd (mBx (ct_Plan_meet (E := E) (q := q) (d := d)) (fun r S1 hs => by obtain ⟨hr, hs⟩ := hs; subst hr; subst hs; exact kk))

set_option maxRecDepth 20000 in
theorem en_Plan_key {E : EvT} {q : Nat → Nat} {d : Nat} {x0 : Int32} {x1 : Int32} {S : StX} {P : Int32 → StX → Prop} (h : P ((x0 * 100) + x1) S) : C_Plan_key E q d x0 x1 S P := by
  refine Cn.of rfl (Nat.le_of_ble_eq_true rfl) (ls := [(0, .int (x0)), (1, .int (x1))]) rfl ?_
  refine r_iload_n 0 dX4_key_0 rfl rfl ?_
  refine r_bipush_100 dX4_key_1 ?_
  refine r_imul dX4_key_3 ?_
  refine r_iload_n 1 dX4_key_4 rfl rfl ?_
  refine r_iadd dX4_key_5 ?_
  exact r_iret dX4_key_6 rfl (Nat.le_refl _) (Nat.le_refl _) ⟨_, _, rfl, rfl, h⟩

theorem ct_Plan_key {E : EvT} {q : Nat → Nat} {d : Nat} {S : StX} {x0 : Int32} {x1 : Int32} : C_Plan_key E q d x0 x1 S (fun r S1 => r = pKey x0 x1 ∧ S1 = S) := by
  refine en_Plan_key ?_
  exact ⟨rfl, rfl⟩

theorem KP4_Plan_key {E : EvT} {q : Nat → Nat} {I : MI} {d : Nat} {Qw : Option Value → va_W → Prop} {S : StX} {ls : List (Nat × Value)} {st : List Value} {pc : Nat} {x0 : Int32} {x1 : Int32} (hI : I.1.cls = RX4) (hW : (st.map fun v => v.category).sum ≤ 8) (hd : decode I.2.1 pc = .ok (.invokestatic 74, 3)) (kk : RX E q I (d + 1) Qw (S) ls (.int (pKey x0 x1) :: st) (pc + 3)) : RX E q I (d + 1) Qw S ls (.int x1 :: .int x0 :: st) pc := K4_Plan_key hI hW hd (mIx (ct_Plan_key (E := E) (q := q) (d := d)) (fun r S1 hs => by obtain ⟨hr, hs⟩ := hs; subst hr; subst hs; exact kk))

set_option maxRecDepth 20000 in
theorem en_City_isSpot {E : EvT} {q : Nat → Nat} {d : Nat} {x1 : Int32} {x2 : Int32} {S : StX} {P : Bool → StX → Prop} (h : ((pCell S x1) = false → (P false S)) ∧ ((pCell S x1) = true → (((mLayer x2) = false → (P false S)) ∧ ((mLayer x2) = true → (P true S))))) : C_City_isSpot E q (d + 2) x1 x2 S P := by
  refine Cn.of rfl (Nat.le_of_ble_eq_true rfl) (ls := [(0, .ref (q 11)), (1, .int (x1)), (2, .int (x2))]) rfl ?_
  refine r_aload_n 0 dX11_isSpot_0 rfl rfl ?_
  refine xg_11_19 rfl dX11_isSpot_1 ?_
  refine r_iload_n 1 dX11_isSpot_4 rfl rfl ?_
  refine KP11_Plan_isCell (d := d + 0)  rfl (Nat.le_of_ble_eq_true rfl) dX11_isSpot_5 ?_
  refine r_if_eqb (tgt := 22) dX11_isSpot_8 (by decide) (fun c1 => ?_) (fun c1 => ?_)
  · have h := h.1 c1
    refine r_iconst_0 dX11_isSpot_22 ?_
    exact r_zret0 dX11_isSpot_23 rfl (Nat.le_refl _) (Nat.le_refl _) ⟨_, _, rfl, rfl, h⟩
  · have h := h.2 c1
    refine r_iload_n 2 dX11_isSpot_11 rfl rfl ?_
    refine KP11_City_isLayer (d := d + 0)  rfl (Nat.le_of_ble_eq_true rfl) dX11_isSpot_12 ?_
    refine r_if_eqb (tgt := 22) dX11_isSpot_15 (by decide) (fun c2 => ?_) (fun c2 => ?_)
    · have h := h.1 c2
      refine r_iconst_0 dX11_isSpot_22 ?_
      exact r_zret0 dX11_isSpot_23 rfl (Nat.le_refl _) (Nat.le_refl _) ⟨_, _, rfl, rfl, h⟩
    · have h := h.2 c2
      refine r_iconst_1 dX11_isSpot_18 ?_
      refine r_goto (tgt := 23) dX11_isSpot_19 (by decide) ?_
      exact r_zret1 dX11_isSpot_23 rfl (Nat.le_refl _) (Nat.le_refl _) ⟨_, _, rfl, rfl, h⟩

theorem ct_City_isSpot {E : EvT} {q : Nat → Nat} {d : Nat} {S : StX} {x1 : Int32} {x2 : Int32} : C_City_isSpot E q (d + 2) x1 x2 S (fun r S1 => r = pSpot S x1 x2 ∧ S1 = S) := by
  refine en_City_isSpot ?_
  grind [pSpot]

theorem KP11_City_isSpot {E : EvT} {q : Nat → Nat} {I : MI} {d : Nat} {Qw : Option Value → va_W → Prop} {S : StX} {ls : List (Nat × Value)} {st : List Value} {pc : Nat} {x1 : Int32} {x2 : Int32} (hI : I.1.cls = RX11) (hW : (st.map fun v => v.category).sum ≤ 8) (hd : decode I.2.1 pc = .ok (.invokevirtual 156, 3)) (kk : RX E q I (d + 3) Qw (S) ls (.int (b2i (pSpot S x1 x2)) :: st) (pc + 3)) : RX E q I (d + 3) Qw S ls (.int x2 :: .int x1 :: .ref (q 11) :: st) pc := K11_City_isSpot hI hW hd (mBx (ct_City_isSpot (E := E) (q := q) (d := d)) (fun r S1 hs => by obtain ⟨hr, hs⟩ := hs; subst hr; subst hs; exact kk))

set_option maxRecDepth 20000 in
theorem en_City_isPlace {E : EvT} {q : Nat → Nat} {d : Nat} {x1 : Int32} {S : StX} {P : Bool → StX → Prop} (h : P (mIn x1 0 ((xs_Plan_places S) - 1)) S) : C_City_isPlace E q (d + 1) x1 S P := by
  refine Cn.of rfl (Nat.le_of_ble_eq_true rfl) (ls := [(0, .ref (q 11)), (1, .int (x1))]) rfl ?_
  refine r_iload_n 1 dX11_isPlace_0 rfl rfl ?_
  refine r_iconst_0 dX11_isPlace_1 ?_
  refine r_aload_n 0 dX11_isPlace_2 rfl rfl ?_
  refine xg_11_19 rfl dX11_isPlace_3 ?_
  refine xg_11_95 rfl dX11_isPlace_6 ?_
  refine r_iconst_1 dX11_isPlace_9 ?_
  refine r_isub dX11_isPlace_10 ?_
  refine KP11_City_within (d := d + 0)  rfl (Nat.le_of_ble_eq_true rfl) dX11_isPlace_11 ?_
  exact r_zret dX11_isPlace_14 rfl (Nat.le_refl _) (Nat.le_refl _) ⟨_, _, rfl, rfl, h⟩

theorem ct_City_isPlace {E : EvT} {q : Nat → Nat} {d : Nat} {S : StX} {x1 : Int32} : C_City_isPlace E q (d + 1) x1 S (fun r S1 => r = pPlace S x1 ∧ S1 = S) := by
  refine en_City_isPlace ?_
  exact ⟨rfl, rfl⟩

theorem KP11_City_isPlace {E : EvT} {q : Nat → Nat} {I : MI} {d : Nat} {Qw : Option Value → va_W → Prop} {S : StX} {ls : List (Nat × Value)} {st : List Value} {pc : Nat} {x1 : Int32} (hI : I.1.cls = RX11) (hW : (st.map fun v => v.category).sum ≤ 8) (hd : decode I.2.1 pc = .ok (.invokevirtual 169, 3)) (kk : RX E q I (d + 2) Qw (S) ls (.int (b2i (pPlace S x1)) :: st) (pc + 3)) : RX E q I (d + 2) Qw S ls (.int x1 :: .ref (q 11) :: st) pc := K11_City_isPlace hI hW hd (mBx (ct_City_isPlace (E := E) (q := q) (d := d)) (fun r S1 hs => by obtain ⟨hr, hs⟩ := hs; subst hr; subst hs; exact kk))

set_option maxRecDepth 20000 in
theorem en_City_isFind {E : EvT} {q : Nat → Nat} {d : Nat} {x1 : Int32} {S : StX} {P : Bool → StX → Prop} (h : P (mIn x1 0 ((xs_Finds_size S) - 1)) S) : C_City_isFind E q (d + 1) x1 S P := by
  refine Cn.of rfl (Nat.le_of_ble_eq_true rfl) (ls := [(0, .ref (q 11)), (1, .int (x1))]) rfl ?_
  refine r_iload_n 1 dX11_isFind_0 rfl rfl ?_
  refine r_iconst_0 dX11_isFind_1 ?_
  refine r_aload_n 0 dX11_isFind_2 rfl rfl ?_
  refine xg_11_51 rfl dX11_isFind_3 ?_
  refine xg_11_229 rfl dX11_isFind_6 ?_
  refine r_iconst_1 dX11_isFind_9 ?_
  refine r_isub dX11_isFind_10 ?_
  refine KP11_City_within (d := d + 0)  rfl (Nat.le_of_ble_eq_true rfl) dX11_isFind_11 ?_
  exact r_zret dX11_isFind_14 rfl (Nat.le_refl _) (Nat.le_refl _) ⟨_, _, rfl, rfl, h⟩

theorem ct_City_isFind {E : EvT} {q : Nat → Nat} {d : Nat} {S : StX} {x1 : Int32} : C_City_isFind E q (d + 1) x1 S (fun r S1 => r = pFind S x1 ∧ S1 = S) := by
  refine en_City_isFind ?_
  exact ⟨rfl, rfl⟩

theorem KP11_City_isFind {E : EvT} {q : Nat → Nat} {I : MI} {d : Nat} {Qw : Option Value → va_W → Prop} {S : StX} {ls : List (Nat × Value)} {st : List Value} {pc : Nat} {x1 : Int32} (hI : I.1.cls = RX11) (hW : (st.map fun v => v.category).sum ≤ 8) (hd : decode I.2.1 pc = .ok (.invokevirtual 233, 3)) (kk : RX E q I (d + 2) Qw (S) ls (.int (b2i (pFind S x1)) :: st) (pc + 3)) : RX E q I (d + 2) Qw S ls (.int x1 :: .ref (q 11) :: st) pc := K11_City_isFind hI hW hd (mBx (ct_City_isFind (E := E) (q := q) (d := d)) (fun r S1 hs => by obtain ⟨hr, hs⟩ := hs; subst hr; subst hs; exact kk))

set_option maxRecDepth 20000 in
theorem en_City_isWall {E : EvT} {q : Nat → Nat} {d : Nat} {x1 : Int32} {S : StX} {P : Bool → StX → Prop} (h : P (mIn x1 0 ((xs_Wall_size S) - 1)) S) : C_City_isWall E q (d + 1) x1 S P := by
  refine Cn.of rfl (Nat.le_of_ble_eq_true rfl) (ls := [(0, .ref (q 11)), (1, .int (x1))]) rfl ?_
  refine r_iload_n 1 dX11_isWall_0 rfl rfl ?_
  refine r_iconst_0 dX11_isWall_1 ?_
  refine r_aload_n 0 dX11_isWall_2 rfl rfl ?_
  refine xg_11_67 rfl dX11_isWall_3 ?_
  refine xg_11_295 rfl dX11_isWall_6 ?_
  refine r_iconst_1 dX11_isWall_9 ?_
  refine r_isub dX11_isWall_10 ?_
  refine KP11_City_within (d := d + 0)  rfl (Nat.le_of_ble_eq_true rfl) dX11_isWall_11 ?_
  exact r_zret dX11_isWall_14 rfl (Nat.le_refl _) (Nat.le_refl _) ⟨_, _, rfl, rfl, h⟩

theorem ct_City_isWall {E : EvT} {q : Nat → Nat} {d : Nat} {S : StX} {x1 : Int32} : C_City_isWall E q (d + 1) x1 S (fun r S1 => r = pWall S x1 ∧ S1 = S) := by
  refine en_City_isWall ?_
  exact ⟨rfl, rfl⟩

theorem KP11_City_isWall {E : EvT} {q : Nat → Nat} {I : MI} {d : Nat} {Qw : Option Value → va_W → Prop} {S : StX} {ls : List (Nat × Value)} {st : List Value} {pc : Nat} {x1 : Int32} (hI : I.1.cls = RX11) (hW : (st.map fun v => v.category).sum ≤ 8) (hd : decode I.2.1 pc = .ok (.invokevirtual 298, 3)) (kk : RX E q I (d + 2) Qw (S) ls (.int (b2i (pWall S x1)) :: st) (pc + 3)) : RX E q I (d + 2) Qw S ls (.int x1 :: .ref (q 11) :: st) pc := K11_City_isWall hI hW hd (mBx (ct_City_isWall (E := E) (q := q) (d := d)) (fun r S1 hs => by obtain ⟨hr, hs⟩ := hs; subst hr; subst hs; exact kk))

set_option maxRecDepth 20000 in
theorem en_Digs_isStruck {E : EvT} {q : Nat → Nat} {d : Nat} {x1 : Int32} {S : StX} {P : Bool → StX → Prop} (h : (0 ≤ x1 ∧ x1 < 100) ∧ (((xa_Digs_struck S (ix x1)) = 10000 → (P false S)) ∧ (¬ (xa_Digs_struck S (ix x1)) = 10000 → (P true S)))) : C_Digs_isStruck E q d x1 S P := by
  refine Cn.of rfl (Nat.le_of_ble_eq_true rfl) (ls := [(0, .ref (q 1)), (1, .int (x1))]) rfl ?_
  refine r_aload_n 0 dX1_isStruck_0 rfl rfl ?_
  refine xg_1_39 rfl dX1_isStruck_1 ?_
  refine r_iload_n 1 dX1_isStruck_4 rfl rfl ?_
  obtain ⟨b1, h⟩ := h
  refine xl_31 b1 dX1_isStruck_5 ?_
  refine r_sipush_10000 dX1_isStruck_6 ?_
  refine r_icmp_eq (tgt := 16) dX1_isStruck_9 (by decide) (fun c2 => ?_) (fun c2 => ?_)
  · have h := h.1 c2
    refine r_iconst_0 dX1_isStruck_16 ?_
    exact r_zret0 dX1_isStruck_17 rfl (Nat.le_refl _) (Nat.le_refl _) ⟨_, _, rfl, rfl, h⟩
  · have h := h.2 c2
    refine r_iconst_1 dX1_isStruck_12 ?_
    refine r_goto (tgt := 17) dX1_isStruck_13 (by decide) ?_
    exact r_zret1 dX1_isStruck_17 rfl (Nat.le_refl _) (Nat.le_refl _) ⟨_, _, rfl, rfl, h⟩

theorem ct_Digs_isStruck {E : EvT} {q : Nat → Nat} {d : Nat} {S : StX} {x1 : Int32} (hp : (0 ≤ x1 ∧ x1 < 100)) : C_Digs_isStruck E q d x1 S (fun r S1 => r = pStruck S x1 ∧ S1 = S) := by
  refine en_Digs_isStruck ?_
  grind [pStruck]

theorem KP11_Digs_isStruck {E : EvT} {q : Nat → Nat} {I : MI} {d : Nat} {Qw : Option Value → va_W → Prop} {S : StX} {ls : List (Nat × Value)} {st : List Value} {pc : Nat} {x1 : Int32} (hp : (0 ≤ x1 ∧ x1 < 100)) (hI : I.1.cls = RX11) (hW : (st.map fun v => v.category).sum ≤ 8) (hd : decode I.2.1 pc = .ok (.invokevirtual 150, 3)) (kk : RX E q I (d + 1) Qw (S) ls (.int (b2i (pStruck S x1)) :: st) (pc + 3)) : RX E q I (d + 1) Qw S ls (.int x1 :: .ref (q 1) :: st) pc := K11_Digs_isStruck hI hW hd (mBx (ct_Digs_isStruck (E := E) (q := q) (d := d) hp) (fun r S1 hs => by obtain ⟨hr, hs⟩ := hs; subst hr; subst hs; exact kk))

set_option maxRecDepth 20000 in
theorem en_Digs_isKnown {E : EvT} {q : Nat → Nat} {d : Nat} {x1 : Int32} {x2 : Int32} {S : StX} {P : Bool → StX → Prop} (h : (0 ≤ x1 ∧ x1 < 100) ∧ ((x2 < (xa_Digs_told S (ix x1)) → (P false S)) ∧ (¬ x2 < (xa_Digs_told S (ix x1)) → (((xa_Digs_struck S (ix x1)) ≤ x2 → (P false S)) ∧ (¬ (xa_Digs_struck S (ix x1)) ≤ x2 → (P true S)))))) : C_Digs_isKnown E q d x1 x2 S P := by
  refine Cn.of rfl (Nat.le_of_ble_eq_true rfl) (ls := [(0, .ref (q 1)), (1, .int (x1)), (2, .int (x2))]) rfl ?_
  refine r_aload_n 0 dX1_isKnown_0 rfl rfl ?_
  refine xg_1_36 rfl dX1_isKnown_1 ?_
  refine r_iload_n 1 dX1_isKnown_4 rfl rfl ?_
  obtain ⟨b1, h⟩ := h
  refine xl_30 b1 dX1_isKnown_5 ?_
  refine r_iload_n 2 dX1_isKnown_6 rfl rfl ?_
  refine r_icmp_gt (tgt := 24) dX1_isKnown_7 (by decide) (fun c2 => ?_) (fun c2 => ?_)
  · have h := h.1 c2
    refine r_iconst_0 dX1_isKnown_24 ?_
    exact r_zret0 dX1_isKnown_25 rfl (Nat.le_refl _) (Nat.le_refl _) ⟨_, _, rfl, rfl, h⟩
  · have h := h.2 c2
    refine r_iload_n 2 dX1_isKnown_10 rfl rfl ?_
    refine r_aload_n 0 dX1_isKnown_11 rfl rfl ?_
    refine xg_1_39 rfl dX1_isKnown_12 ?_
    refine r_iload_n 1 dX1_isKnown_15 rfl rfl ?_
    refine xl_31 b1 dX1_isKnown_16 ?_
    refine r_icmp_ge (tgt := 24) dX1_isKnown_17 (by decide) (fun c3 => ?_) (fun c3 => ?_)
    · have h := h.1 c3
      refine r_iconst_0 dX1_isKnown_24 ?_
      exact r_zret0 dX1_isKnown_25 rfl (Nat.le_refl _) (Nat.le_refl _) ⟨_, _, rfl, rfl, h⟩
    · have h := h.2 c3
      refine r_iconst_1 dX1_isKnown_20 ?_
      refine r_goto (tgt := 25) dX1_isKnown_21 (by decide) ?_
      exact r_zret1 dX1_isKnown_25 rfl (Nat.le_refl _) (Nat.le_refl _) ⟨_, _, rfl, rfl, h⟩

theorem ct_Digs_isKnown {E : EvT} {q : Nat → Nat} {d : Nat} {S : StX} {x1 : Int32} {x2 : Int32} (hp : (0 ≤ x1 ∧ x1 < 100)) : C_Digs_isKnown E q d x1 x2 S (fun r S1 => r = pKnown S x1 x2 ∧ S1 = S) := by
  refine en_Digs_isKnown ?_
  grind [pKnown]

theorem KP1_Digs_isKnown {E : EvT} {q : Nat → Nat} {I : MI} {d : Nat} {Qw : Option Value → va_W → Prop} {S : StX} {ls : List (Nat × Value)} {st : List Value} {pc : Nat} {x1 : Int32} {x2 : Int32} (hp : (0 ≤ x1 ∧ x1 < 100)) (hI : I.1.cls = RX1) (hW : (st.map fun v => v.category).sum ≤ 8) (hd : decode I.2.1 pc = .ok (.invokevirtual 66, 3)) (kk : RX E q I (d + 1) Qw (S) ls (.int (b2i (pKnown S x1 x2)) :: st) (pc + 3)) : RX E q I (d + 1) Qw S ls (.int x2 :: .int x1 :: .ref (q 1) :: st) pc := K1_Digs_isKnown hI hW hd (mBx (ct_Digs_isKnown (E := E) (q := q) (d := d) hp) (fun r S1 hs => by obtain ⟨hr, hs⟩ := hs; subst hr; subst hs; exact kk))

set_option maxRecDepth 20000 in
theorem en_Digs_serves {E : EvT} {q : Nat → Nat} {d : Nat} {x1 : Int32} {x2 : Int32} {x3 : Int32} {x4 : Int32} {x5 : Int32} {S : StX} {P : Bool → StX → Prop} (h : (0 ≤ x1 ∧ x1 < 100) ∧ ((¬ (xa_Digs_hand S (ix x1)) = x2 → (P false S)) ∧ ((xa_Digs_hand S (ix x1)) = x2 → (((xa_Digs_kind S (ix x1)) = 2 → (P false S)) ∧ (¬ (xa_Digs_kind S (ix x1)) = 2 → ((x4 < (xa_Digs_top S (ix x1)) → (P false S)) ∧ (¬ x4 < (xa_Digs_top S (ix x1)) → (((xa_Digs_bottom S (ix x1)) < x3 → (P false S)) ∧ (¬ (xa_Digs_bottom S (ix x1)) < x3 → ((0 ≤ x1 ∧ x1 < 100) ∧ (((pKnown S x1 x5) = false → (P false S)) ∧ ((pKnown S x1 x5) = true → (P true S))))))))))))) : C_Digs_serves E q (d + 1) x1 x2 x3 x4 x5 S P := by
  refine Cn.of rfl (Nat.le_of_ble_eq_true rfl) (ls := [(0, .ref (q 1)), (1, .int (x1)), (2, .int (x2)), (3, .int (x3)), (4, .int (x4)), (5, .int (x5))]) rfl ?_
  refine r_aload_n 0 dX1_serves_0 rfl rfl ?_
  refine xg_1_11 rfl dX1_serves_1 ?_
  refine r_iload_n 1 dX1_serves_4 rfl rfl ?_
  obtain ⟨b1, h⟩ := h
  refine xl_22 b1 dX1_serves_5 ?_
  refine r_iload_n 2 dX1_serves_6 rfl rfl ?_
  refine r_icmp_ne (tgt := 55) dX1_serves_7 (by decide) (fun c2 => ?_) (fun c2 => ?_)
  · have h := h.1 c2
    refine r_iconst_0 dX1_serves_55 ?_
    exact r_zret0 dX1_serves_56 rfl (Nat.le_refl _) (Nat.le_refl _) ⟨_, _, rfl, rfl, h⟩
  · have h := h.2 c2
    refine r_aload_n 0 dX1_serves_10 rfl rfl ?_
    refine xg_1_15 rfl dX1_serves_11 ?_
    refine r_iload_n 1 dX1_serves_14 rfl rfl ?_
    refine xl_23 b1 dX1_serves_15 ?_
    refine r_iconst_2 dX1_serves_16 ?_
    refine r_icmp_eq (tgt := 55) dX1_serves_17 (by decide) (fun c3 => ?_) (fun c3 => ?_)
    · have h := h.1 c3
      refine r_iconst_0 dX1_serves_55 ?_
      exact r_zret0 dX1_serves_56 rfl (Nat.le_refl _) (Nat.le_refl _) ⟨_, _, rfl, rfl, h⟩
    · have h := h.2 c3
      refine r_aload_n 0 dX1_serves_20 rfl rfl ?_
      refine xg_1_24 rfl dX1_serves_21 ?_
      refine r_iload_n 1 dX1_serves_24 rfl rfl ?_
      refine xl_26 b1 dX1_serves_25 ?_
      refine r_iload 4 dX1_serves_26 rfl ?_
      refine r_icmp_gt (tgt := 55) dX1_serves_28 (by decide) (fun c4 => ?_) (fun c4 => ?_)
      · have h := h.1 c4
        refine r_iconst_0 dX1_serves_55 ?_
        exact r_zret0 dX1_serves_56 rfl (Nat.le_refl _) (Nat.le_refl _) ⟨_, _, rfl, rfl, h⟩
      · have h := h.2 c4
        refine r_iload_n 3 dX1_serves_31 rfl rfl ?_
        refine r_aload_n 0 dX1_serves_32 rfl rfl ?_
        refine xg_1_27 rfl dX1_serves_33 ?_
        refine r_iload_n 1 dX1_serves_36 rfl rfl ?_
        refine xl_27 b1 dX1_serves_37 ?_
        refine r_icmp_gt (tgt := 55) dX1_serves_38 (by decide) (fun c5 => ?_) (fun c5 => ?_)
        · have h := h.1 c5
          refine r_iconst_0 dX1_serves_55 ?_
          exact r_zret0 dX1_serves_56 rfl (Nat.le_refl _) (Nat.le_refl _) ⟨_, _, rfl, rfl, h⟩
        · have h := h.2 c5
          refine r_aload_n 0 dX1_serves_41 rfl rfl ?_
          refine r_iload_n 1 dX1_serves_42 rfl rfl ?_
          refine r_iload 5 dX1_serves_43 rfl ?_
          obtain ⟨b6, h⟩ := h
          refine KP1_Digs_isKnown (d := d + 0) b6 rfl (Nat.le_of_ble_eq_true rfl) dX1_serves_45 ?_
          refine r_if_eqb (tgt := 55) dX1_serves_48 (by decide) (fun c7 => ?_) (fun c7 => ?_)
          · have h := h.1 c7
            refine r_iconst_0 dX1_serves_55 ?_
            exact r_zret0 dX1_serves_56 rfl (Nat.le_refl _) (Nat.le_refl _) ⟨_, _, rfl, rfl, h⟩
          · have h := h.2 c7
            refine r_iconst_1 dX1_serves_51 ?_
            refine r_goto (tgt := 56) dX1_serves_52 (by decide) ?_
            exact r_zret1 dX1_serves_56 rfl (Nat.le_refl _) (Nat.le_refl _) ⟨_, _, rfl, rfl, h⟩

theorem ct_Digs_serves {E : EvT} {q : Nat → Nat} {d : Nat} {S : StX} {x1 : Int32} {x2 : Int32} {x3 : Int32} {x4 : Int32} {x5 : Int32} (hp : (0 ≤ x1 ∧ x1 < 100)) : C_Digs_serves E q (d + 1) x1 x2 x3 x4 x5 S (fun r S1 => r = pServes S x1 x2 x3 x4 x5 ∧ S1 = S) := by
  refine en_Digs_serves ?_
  grind [pServes]

theorem KP2_Digs_serves {E : EvT} {q : Nat → Nat} {I : MI} {d : Nat} {Qw : Option Value → va_W → Prop} {S : StX} {ls : List (Nat × Value)} {st : List Value} {pc : Nat} {x1 : Int32} {x2 : Int32} {x3 : Int32} {x4 : Int32} {x5 : Int32} (hp : (0 ≤ x1 ∧ x1 < 100)) (hI : I.1.cls = RX2) (hW : (st.map fun v => v.category).sum ≤ 8) (hd : decode I.2.1 pc = .ok (.invokevirtual 86, 3)) (kk : RX E q I (d + 2) Qw (S) ls (.int (b2i (pServes S x1 x2 x3 x4 x5)) :: st) (pc + 3)) : RX E q I (d + 2) Qw S ls (.int x5 :: .int x4 :: .int x3 :: .int x2 :: .int x1 :: .ref (q 1) :: st) pc := K2_Digs_serves hI hW hd (mBx (ct_Digs_serves (E := E) (q := q) (d := d) hp) (fun r S1 hs => by obtain ⟨hr, hs⟩ := hs; subst hr; subst hs; exact kk))

set_option maxRecDepth 20000 in
theorem en_Digs_cuts {E : EvT} {q : Nat → Nat} {d : Nat} {x1 : Int32} {x2 : Int32} {x3 : Int32} {S : StX} {P : Bool → StX → Prop} (h : (0 ≤ x1 ∧ x1 < 100) ∧ ((x3 < (xa_Digs_top S (ix x1)) → (P false S)) ∧ (¬ x3 < (xa_Digs_top S (ix x1)) → (((xa_Digs_bottom S (ix x1)) < x3 → (P false S)) ∧ (¬ (xa_Digs_bottom S (ix x1)) < x3 → (((pMeet S x2 x2 (xa_Digs_upperLeft S (ix x1)) (xa_Digs_lowerRight S (ix x1))) = false → (P false S)) ∧ ((pMeet S x2 x2 (xa_Digs_upperLeft S (ix x1)) (xa_Digs_lowerRight S (ix x1))) = true → (P true S)))))))) : C_Digs_cuts E q (d + 2) x1 x2 x3 S P := by
  refine Cn.of rfl (Nat.le_of_ble_eq_true rfl) (ls := [(0, .ref (q 1)), (1, .int (x1)), (2, .int (x2)), (3, .int (x3))]) rfl ?_
  refine r_aload_n 0 dX1_cuts_0 rfl rfl ?_
  refine xg_1_24 rfl dX1_cuts_1 ?_
  refine r_iload_n 1 dX1_cuts_4 rfl rfl ?_
  obtain ⟨b1, h⟩ := h
  refine xl_26 b1 dX1_cuts_5 ?_
  refine r_iload_n 3 dX1_cuts_6 rfl rfl ?_
  refine r_icmp_gt (tgt := 48) dX1_cuts_7 (by decide) (fun c2 => ?_) (fun c2 => ?_)
  · have h := h.1 c2
    refine r_iconst_0 dX1_cuts_48 ?_
    exact r_zret0 dX1_cuts_49 rfl (Nat.le_refl _) (Nat.le_refl _) ⟨_, _, rfl, rfl, h⟩
  · have h := h.2 c2
    refine r_iload_n 3 dX1_cuts_10 rfl rfl ?_
    refine r_aload_n 0 dX1_cuts_11 rfl rfl ?_
    refine xg_1_27 rfl dX1_cuts_12 ?_
    refine r_iload_n 1 dX1_cuts_15 rfl rfl ?_
    refine xl_27 b1 dX1_cuts_16 ?_
    refine r_icmp_gt (tgt := 48) dX1_cuts_17 (by decide) (fun c3 => ?_) (fun c3 => ?_)
    · have h := h.1 c3
      refine r_iconst_0 dX1_cuts_48 ?_
      exact r_zret0 dX1_cuts_49 rfl (Nat.le_refl _) (Nat.le_refl _) ⟨_, _, rfl, rfl, h⟩
    · have h := h.2 c3
      refine r_aload_n 0 dX1_cuts_20 rfl rfl ?_
      refine xg_1_48 rfl dX1_cuts_21 ?_
      refine r_iload_n 2 dX1_cuts_24 rfl rfl ?_
      refine r_iload_n 2 dX1_cuts_25 rfl rfl ?_
      refine r_aload_n 0 dX1_cuts_26 rfl rfl ?_
      refine xg_1_18 rfl dX1_cuts_27 ?_
      refine r_iload_n 1 dX1_cuts_30 rfl rfl ?_
      refine xl_24 b1 dX1_cuts_31 ?_
      refine r_aload_n 0 dX1_cuts_32 rfl rfl ?_
      refine xg_1_21 rfl dX1_cuts_33 ?_
      refine r_iload_n 1 dX1_cuts_36 rfl rfl ?_
      refine xl_25 b1 dX1_cuts_37 ?_
      refine KP1_Plan_meet (d := d + 0)  rfl (Nat.le_of_ble_eq_true rfl) dX1_cuts_38 ?_
      refine r_if_eqb (tgt := 48) dX1_cuts_41 (by decide) (fun c4 => ?_) (fun c4 => ?_)
      · have h := h.1 c4
        refine r_iconst_0 dX1_cuts_48 ?_
        exact r_zret0 dX1_cuts_49 rfl (Nat.le_refl _) (Nat.le_refl _) ⟨_, _, rfl, rfl, h⟩
      · have h := h.2 c4
        refine r_iconst_1 dX1_cuts_44 ?_
        refine r_goto (tgt := 49) dX1_cuts_45 (by decide) ?_
        exact r_zret1 dX1_cuts_49 rfl (Nat.le_refl _) (Nat.le_refl _) ⟨_, _, rfl, rfl, h⟩

theorem ct_Digs_cuts {E : EvT} {q : Nat → Nat} {d : Nat} {S : StX} {x1 : Int32} {x2 : Int32} {x3 : Int32} (hp : (0 ≤ x1 ∧ x1 < 100)) : C_Digs_cuts E q (d + 2) x1 x2 x3 S (fun r S1 => r = pCuts S x1 x2 x3 ∧ S1 = S) := by
  refine en_Digs_cuts ?_
  grind [pCuts]

theorem KP1_Digs_cuts {E : EvT} {q : Nat → Nat} {I : MI} {d : Nat} {Qw : Option Value → va_W → Prop} {S : StX} {ls : List (Nat × Value)} {st : List Value} {pc : Nat} {x1 : Int32} {x2 : Int32} {x3 : Int32} (hp : (0 ≤ x1 ∧ x1 < 100)) (hI : I.1.cls = RX1) (hW : (st.map fun v => v.category).sum ≤ 8) (hd : decode I.2.1 pc = .ok (.invokevirtual 70, 3)) (kk : RX E q I (d + 3) Qw (S) ls (.int (b2i (pCuts S x1 x2 x3)) :: st) (pc + 3)) : RX E q I (d + 3) Qw S ls (.int x3 :: .int x2 :: .int x1 :: .ref (q 1) :: st) pc := K1_Digs_cuts hI hW hd (mBx (ct_Digs_cuts (E := E) (q := q) (d := d) hp) (fun r S1 hs => by obtain ⟨hr, hs⟩ := hs; subst hr; subst hs; exact kk))

set_option maxRecDepth 20000 in
theorem en_Digs_after {E : EvT} {q : Nat → Nat} {d : Nat} {x0 : Int32} {x1 : Int32} {S : StX} {P : Int32 → StX → Prop} (h : (¬ x1 = 0 → ((¬ x1 = 1 → ((¬ x0 = 0 → (P 3 S)) ∧ (x0 = 0 → (P 0 S)))) ∧ (x1 = 1 → ((¬ x0 = 0 → (P x0 S)) ∧ (x0 = 0 → (P 1 S)))))) ∧ (x1 = 0 → (P 2 S))) : C_Digs_after E q d x0 x1 S P := by
  refine Cn.of rfl (Nat.le_of_ble_eq_true rfl) (ls := [(0, .int (x0)), (1, .int (x1))]) rfl ?_
  refine r_iload_n 1 dX1_after_0 rfl rfl ?_
  refine r_if_ne (tgt := 6) dX1_after_1 (by decide) (fun c1 => ?_) (fun c1 => ?_)
  · have h := h.1 c1
    refine r_iload_n 1 dX1_after_6 rfl rfl ?_
    refine r_iconst_1 dX1_after_7 ?_
    refine r_icmp_ne (tgt := 21) dX1_after_8 (by decide) (fun c2 => ?_) (fun c2 => ?_)
    · have h := h.1 c2
      refine r_iload_n 0 dX1_after_21 rfl rfl ?_
      refine r_if_ne (tgt := 29) dX1_after_22 (by decide) (fun c3 => ?_) (fun c3 => ?_)
      · have h := h.1 c3
        refine r_iconst_3 dX1_after_29 ?_
        exact r_iret dX1_after_30 rfl (Nat.le_refl _) (Nat.le_refl _) ⟨_, _, rfl, rfl, h⟩
      · have h := h.2 c3
        refine r_iconst_0 dX1_after_25 ?_
        refine r_goto (tgt := 30) dX1_after_26 (by decide) ?_
        exact r_iret dX1_after_30 rfl (Nat.le_refl _) (Nat.le_refl _) ⟨_, _, rfl, rfl, h⟩
    · have h := h.2 c2
      refine r_iload_n 0 dX1_after_11 rfl rfl ?_
      refine r_if_ne (tgt := 19) dX1_after_12 (by decide) (fun c4 => ?_) (fun c4 => ?_)
      · have h := h.1 c4
        refine r_iload_n 0 dX1_after_19 rfl rfl ?_
        exact r_iret dX1_after_20 rfl (Nat.le_refl _) (Nat.le_refl _) ⟨_, _, rfl, rfl, h⟩
      · have h := h.2 c4
        refine r_iconst_1 dX1_after_15 ?_
        refine r_goto (tgt := 20) dX1_after_16 (by decide) ?_
        exact r_iret dX1_after_20 rfl (Nat.le_refl _) (Nat.le_refl _) ⟨_, _, rfl, rfl, h⟩
  · have h := h.2 c1
    refine r_iconst_2 dX1_after_4 ?_
    exact r_iret dX1_after_5 rfl (Nat.le_refl _) (Nat.le_refl _) ⟨_, _, rfl, rfl, h⟩

theorem ct_Digs_after {E : EvT} {q : Nat → Nat} {d : Nat} {S : StX} {x0 : Int32} {x1 : Int32} : C_Digs_after E q d x0 x1 S (fun r S1 => r = pAfter x0 x1 ∧ S1 = S) := by
  refine en_Digs_after ?_
  grind [pAfter]

theorem KP1_Digs_after {E : EvT} {q : Nat → Nat} {I : MI} {d : Nat} {Qw : Option Value → va_W → Prop} {S : StX} {ls : List (Nat × Value)} {st : List Value} {pc : Nat} {x0 : Int32} {x1 : Int32} (hI : I.1.cls = RX1) (hW : (st.map fun v => v.category).sum ≤ 8) (hd : decode I.2.1 pc = .ok (.invokestatic 74, 3)) (kk : RX E q I (d + 1) Qw (S) ls (.int (pAfter x0 x1) :: st) (pc + 3)) : RX E q I (d + 1) Qw S ls (.int x1 :: .int x0 :: st) pc := K1_Digs_after hI hW hd (mIx (ct_Digs_after (E := E) (q := q) (d := d)) (fun r S1 hs => by obtain ⟨hr, hs⟩ := hs; subst hr; subst hs; exact kk))

set_option maxRecDepth 20000 in
theorem en_Finds_isKnown {E : EvT} {q : Nat → Nat} {d : Nat} {x1 : Int32} {x2 : Int32} {S : StX} {P : Bool → StX → Prop} (h : (0 ≤ x1 ∧ x1 < 150) ∧ ((x2 < (xa_Finds_told S (ix x1)) → (P false S)) ∧ (¬ x2 < (xa_Finds_told S (ix x1)) → (P true S)))) : C_Finds_isKnown E q d x1 x2 S P := by
  refine Cn.of rfl (Nat.le_of_ble_eq_true rfl) (ls := [(0, .ref (q 2)), (1, .int (x1)), (2, .int (x2))]) rfl ?_
  refine r_aload_n 0 dX2_isKnown_0 rfl rfl ?_
  refine xg_2_36 rfl dX2_isKnown_1 ?_
  refine r_iload_n 1 dX2_isKnown_4 rfl rfl ?_
  obtain ⟨b1, h⟩ := h
  refine xl_52 b1 dX2_isKnown_5 ?_
  refine r_iload_n 2 dX2_isKnown_6 rfl rfl ?_
  refine r_icmp_gt (tgt := 14) dX2_isKnown_7 (by decide) (fun c2 => ?_) (fun c2 => ?_)
  · have h := h.1 c2
    refine r_iconst_0 dX2_isKnown_14 ?_
    exact r_zret0 dX2_isKnown_15 rfl (Nat.le_refl _) (Nat.le_refl _) ⟨_, _, rfl, rfl, h⟩
  · have h := h.2 c2
    refine r_iconst_1 dX2_isKnown_10 ?_
    refine r_goto (tgt := 15) dX2_isKnown_11 (by decide) ?_
    exact r_zret1 dX2_isKnown_15 rfl (Nat.le_refl _) (Nat.le_refl _) ⟨_, _, rfl, rfl, h⟩

theorem ct_Finds_isKnown {E : EvT} {q : Nat → Nat} {d : Nat} {S : StX} {x1 : Int32} {x2 : Int32} (hp : (0 ≤ x1 ∧ x1 < 150)) : C_Finds_isKnown E q d x1 x2 S (fun r S1 => r = pFKnown S x1 x2 ∧ S1 = S) := by
  refine en_Finds_isKnown ?_
  grind [pFKnown]

theorem KP11_Finds_isKnown {E : EvT} {q : Nat → Nat} {I : MI} {d : Nat} {Qw : Option Value → va_W → Prop} {S : StX} {ls : List (Nat × Value)} {st : List Value} {pc : Nat} {x1 : Int32} {x2 : Int32} (hp : (0 ≤ x1 ∧ x1 < 150)) (hI : I.1.cls = RX11) (hW : (st.map fun v => v.category).sum ≤ 8) (hd : decode I.2.1 pc = .ok (.invokevirtual 236, 3)) (kk : RX E q I (d + 1) Qw (S) ls (.int (b2i (pFKnown S x1 x2)) :: st) (pc + 3)) : RX E q I (d + 1) Qw S ls (.int x2 :: .int x1 :: .ref (q 2) :: st) pc := K11_Finds_isKnown hI hW hd (mBx (ct_Finds_isKnown (E := E) (q := q) (d := d) hp) (fun r S1 hs => by obtain ⟨hr, hs⟩ := hs; subst hr; subst hs; exact kk))
theorem KP2_Finds_isKnown {E : EvT} {q : Nat → Nat} {I : MI} {d : Nat} {Qw : Option Value → va_W → Prop} {S : StX} {ls : List (Nat × Value)} {st : List Value} {pc : Nat} {x1 : Int32} {x2 : Int32} (hp : (0 ≤ x1 ∧ x1 < 150)) (hI : I.1.cls = RX2) (hW : (st.map fun v => v.category).sum ≤ 8) (hd : decode I.2.1 pc = .ok (.invokevirtual 113, 3)) (kk : RX E q I (d + 1) Qw (S) ls (.int (b2i (pFKnown S x1 x2)) :: st) (pc + 3)) : RX E q I (d + 1) Qw S ls (.int x2 :: .int x1 :: .ref (q 2) :: st) pc := K2_Finds_isKnown hI hW hd (mBx (ct_Finds_isKnown (E := E) (q := q) (d := d) hp) (fun r S1 hs => by obtain ⟨hr, hs⟩ := hs; subst hr; subst hs; exact kk))

set_option maxRecDepth 20000 in
theorem en_Book_isInForce {E : EvT} {q : Nat → Nat} {d : Nat} {x1 : Int32} {S : StX} {P : Bool → StX → Prop} (h : (0 ≤ x1 ∧ x1 < 20) ∧ (((xa_Book_letters S (ix 0)) < (xa_Book_from S (ix x1)) → (P false S)) ∧ (¬ (xa_Book_letters S (ix 0)) < (xa_Book_from S (ix x1)) → (((xa_Book_to S (ix x1)) < (xa_Book_letters S (ix 0)) → (P false S)) ∧ (¬ (xa_Book_to S (ix x1)) < (xa_Book_letters S (ix 0)) → (P true S)))))) : C_Book_isInForce E q d x1 S P := by
  refine Cn.of rfl (Nat.le_of_ble_eq_true rfl) (ls := [(0, .ref (q 5)), (1, .int (x1))]) rfl ?_
  refine r_aload_n 0 dX5_isInForce_0 rfl rfl ?_
  refine xg_5_18 rfl dX5_isInForce_1 ?_
  refine r_iload_n 1 dX5_isInForce_4 rfl rfl ?_
  obtain ⟨b1, h⟩ := h
  refine xl_101 b1 dX5_isInForce_5 ?_
  refine r_aload_n 0 dX5_isInForce_6 rfl rfl ?_
  refine xg_5_30 rfl dX5_isInForce_7 ?_
  refine r_iconst_0 dX5_isInForce_10 ?_
  refine xl_104 (by decide) dX5_isInForce_11 ?_
  refine r_icmp_gt (tgt := 34) dX5_isInForce_12 (by decide) (fun c2 => ?_) (fun c2 => ?_)
  · have h := h.1 c2
    refine r_iconst_0 dX5_isInForce_34 ?_
    exact r_zret0 dX5_isInForce_35 rfl (Nat.le_refl _) (Nat.le_refl _) ⟨_, _, rfl, rfl, h⟩
  · have h := h.2 c2
    refine r_aload_n 0 dX5_isInForce_15 rfl rfl ?_
    refine xg_5_30 rfl dX5_isInForce_16 ?_
    refine r_iconst_0 dX5_isInForce_19 ?_
    refine xl_104 (by decide) dX5_isInForce_20 ?_
    refine r_aload_n 0 dX5_isInForce_21 rfl rfl ?_
    refine xg_5_22 rfl dX5_isInForce_22 ?_
    refine r_iload_n 1 dX5_isInForce_25 rfl rfl ?_
    refine xl_102 b1 dX5_isInForce_26 ?_
    refine r_icmp_gt (tgt := 34) dX5_isInForce_27 (by decide) (fun c3 => ?_) (fun c3 => ?_)
    · have h := h.1 c3
      refine r_iconst_0 dX5_isInForce_34 ?_
      exact r_zret0 dX5_isInForce_35 rfl (Nat.le_refl _) (Nat.le_refl _) ⟨_, _, rfl, rfl, h⟩
    · have h := h.2 c3
      refine r_iconst_1 dX5_isInForce_30 ?_
      refine r_goto (tgt := 35) dX5_isInForce_31 (by decide) ?_
      exact r_zret1 dX5_isInForce_35 rfl (Nat.le_refl _) (Nat.le_refl _) ⟨_, _, rfl, rfl, h⟩

theorem ct_Book_isInForce {E : EvT} {q : Nat → Nat} {d : Nat} {S : StX} {x1 : Int32} (hp : (0 ≤ x1 ∧ x1 < 20)) : C_Book_isInForce E q d x1 S (fun r S1 => r = pForce S x1 ∧ S1 = S) := by
  refine en_Book_isInForce ?_
  grind [pForce]

theorem KP5_Book_isInForce {E : EvT} {q : Nat → Nat} {I : MI} {d : Nat} {Qw : Option Value → va_W → Prop} {S : StX} {ls : List (Nat × Value)} {st : List Value} {pc : Nat} {x1 : Int32} (hp : (0 ≤ x1 ∧ x1 < 20)) (hI : I.1.cls = RX5) (hW : (st.map fun v => v.category).sum ≤ 8) (hd : decode I.2.1 pc = .ok (.invokevirtual 61, 3)) (kk : RX E q I (d + 1) Qw (S) ls (.int (b2i (pForce S x1)) :: st) (pc + 3)) : RX E q I (d + 1) Qw S ls (.int x1 :: .ref (q 5) :: st) pc := K5_Book_isInForce hI hW hd (mBx (ct_Book_isInForce (E := E) (q := q) (d := d) hp) (fun r S1 hs => by obtain ⟨hr, hs⟩ := hs; subst hr; subst hs; exact kk))

set_option maxRecDepth 20000 in
theorem en_Fall_isBorder {E : EvT} {q : Nat → Nat} {d : Nat} {x1 : Int32} {S : StX} {P : Bool → StX → Prop} (h : ((pCol S x1) = 0 → (P true S)) ∧ (¬ (pCol S x1) = 0 → (((pRow S x1) = 0 → (P true S)) ∧ (¬ (pRow S x1) = 0 → (((pCol S x1) = ((xs_Plan_width S) - 1) → (P true S)) ∧ (¬ (pCol S x1) = ((xs_Plan_width S) - 1) → ((¬ (pRow S x1) = ((xs_Plan_height S) - 1) → (P false S)) ∧ ((pRow S x1) = ((xs_Plan_height S) - 1) → (P true S))))))))) : C_Fall_isBorder E q (d + 1) x1 S P := by
  refine Cn.of rfl (Nat.le_of_ble_eq_true rfl) (ls := [(0, .ref (q 0)), (1, .int (x1))]) rfl ?_
  refine r_aload_n 0 dX0_isBorder_0 rfl rfl ?_
  refine xg_0_45 rfl dX0_isBorder_1 ?_
  refine r_iload_n 1 dX0_isBorder_4 rfl rfl ?_
  refine KP0_Plan_column (d := d + 0)  rfl (Nat.le_of_ble_eq_true rfl) dX0_isBorder_5 ?_
  refine r_istore_n [(2, .int ((pCol S x1))), (0, .ref (q 0)), (1, .int (x1))] dX0_isBorder_8 rfl (Nat.le_of_ble_eq_true rfl) rfl ?_
  refine r_aload_n 1 dX0_isBorder_9 rfl rfl ?_
  refine xg_0_45 rfl dX0_isBorder_10 ?_
  refine r_iload_n 2 dX0_isBorder_13 rfl rfl ?_
  refine KP0_Plan_row (d := d + 0)  rfl (Nat.le_of_ble_eq_true rfl) dX0_isBorder_14 ?_
  refine r_istore_n [(3, .int ((pRow S x1))), (2, .int ((pCol S x1))), (0, .ref (q 0)), (1, .int (x1))] dX0_isBorder_17 rfl (Nat.le_of_ble_eq_true rfl) rfl ?_
  refine r_iload_n 1 dX0_isBorder_18 rfl rfl ?_
  refine r_if_eq (tgt := 52) dX0_isBorder_19 (by decide) (fun c1 => ?_) (fun c1 => ?_)
  · have h := h.1 c1
    refine r_iconst_1 dX0_isBorder_52 ?_
    refine r_goto (tgt := 57) dX0_isBorder_53 (by decide) ?_
    exact r_zret1 dX0_isBorder_57 rfl (Nat.le_refl _) (Nat.le_refl _) ⟨_, _, rfl, rfl, h⟩
  · have h := h.2 c1
    refine r_iload_n 0 dX0_isBorder_22 rfl rfl ?_
    refine r_if_eq (tgt := 52) dX0_isBorder_23 (by decide) (fun c2 => ?_) (fun c2 => ?_)
    · have h := h.1 c2
      refine r_iconst_1 dX0_isBorder_52 ?_
      refine r_goto (tgt := 57) dX0_isBorder_53 (by decide) ?_
      exact r_zret1 dX0_isBorder_57 rfl (Nat.le_refl _) (Nat.le_refl _) ⟨_, _, rfl, rfl, h⟩
    · have h := h.2 c2
      refine r_iload_n 1 dX0_isBorder_26 rfl rfl ?_
      refine r_aload_n 2 dX0_isBorder_27 rfl rfl ?_
      refine xg_0_45 rfl dX0_isBorder_28 ?_
      refine xg_0_95 rfl dX0_isBorder_31 ?_
      refine r_iconst_1 dX0_isBorder_34 ?_
      refine r_isub dX0_isBorder_35 ?_
      refine r_icmp_eq (tgt := 52) dX0_isBorder_36 (by decide) (fun c3 => ?_) (fun c3 => ?_)
      · have h := h.1 c3
        refine r_iconst_1 dX0_isBorder_52 ?_
        refine r_goto (tgt := 57) dX0_isBorder_53 (by decide) ?_
        exact r_zret1 dX0_isBorder_57 rfl (Nat.le_refl _) (Nat.le_refl _) ⟨_, _, rfl, rfl, h⟩
      · have h := h.2 c3
        refine r_iload_n 0 dX0_isBorder_39 rfl rfl ?_
        refine r_aload_n 2 dX0_isBorder_40 rfl rfl ?_
        refine xg_0_45 rfl dX0_isBorder_41 ?_
        refine xg_0_98 rfl dX0_isBorder_44 ?_
        refine r_iconst_1 dX0_isBorder_47 ?_
        refine r_isub dX0_isBorder_48 ?_
        refine r_icmp_ne (tgt := 56) dX0_isBorder_49 (by decide) (fun c4 => ?_) (fun c4 => ?_)
        · have h := h.1 c4
          refine r_iconst_0 dX0_isBorder_56 ?_
          exact r_zret0 dX0_isBorder_57 rfl (Nat.le_refl _) (Nat.le_refl _) ⟨_, _, rfl, rfl, h⟩
        · have h := h.2 c4
          refine r_iconst_1 dX0_isBorder_52 ?_
          refine r_goto (tgt := 57) dX0_isBorder_53 (by decide) ?_
          exact r_zret1 dX0_isBorder_57 rfl (Nat.le_refl _) (Nat.le_refl _) ⟨_, _, rfl, rfl, h⟩

theorem ct_Fall_isBorder {E : EvT} {q : Nat → Nat} {d : Nat} {S : StX} {x1 : Int32} : C_Fall_isBorder E q (d + 1) x1 S (fun r S1 => r = pBorder S x1 ∧ S1 = S) := by
  refine en_Fall_isBorder ?_
  grind [pBorder]

theorem KP0_Fall_isBorder {E : EvT} {q : Nat → Nat} {I : MI} {d : Nat} {Qw : Option Value → va_W → Prop} {S : StX} {ls : List (Nat × Value)} {st : List Value} {pc : Nat} {x1 : Int32} (hI : I.1.cls = RX0) (hW : (st.map fun v => v.category).sum ≤ 8) (hd : decode I.2.1 pc = .ok (.invokevirtual 79, 3)) (kk : RX E q I (d + 2) Qw (S) ls (.int (b2i (pBorder S x1)) :: st) (pc + 3)) : RX E q I (d + 2) Qw S ls (.int x1 :: .ref (q 0) :: st) pc := K0_Fall_isBorder hI hW hd (mBx (ct_Fall_isBorder (E := E) (q := q) (d := d)) (fun r S1 hs => by obtain ⟨hr, hs⟩ := hs; subst hr; subst hs; exact kk))

set_option maxRecDepth 20000 in
theorem en_Wall_weekOf {E : EvT} {q : Nat → Nat} {d : Nat} {x1 : Int32} {S : StX} {P : Int32 → StX → Prop} (h : (¬ x1 = (-1) → ((0 ≤ x1 ∧ x1 < 100) ∧ (P (xa_Wall_drawn S (ix x1)) S))) ∧ (x1 = (-1) → (P (-1) S))) : C_Wall_weekOf E q d x1 S P := by
  refine Cn.of rfl (Nat.le_of_ble_eq_true rfl) (ls := [(0, .ref (q 10)), (1, .int (x1))]) rfl ?_
  refine r_iload_n 1 dX10_weekOf_0 rfl rfl ?_
  refine r_iconst_m1 dX10_weekOf_1 ?_
  refine r_icmp_ne (tgt := 9) dX10_weekOf_2 (by decide) (fun c1 => ?_) (fun c1 => ?_)
  · have h := h.1 c1
    refine r_aload_n 0 dX10_weekOf_9 rfl rfl ?_
    refine xg_10_18 rfl dX10_weekOf_10 ?_
    refine r_iload_n 1 dX10_weekOf_13 rfl rfl ?_
    obtain ⟨b2, h⟩ := h
    refine xl_204 b2 dX10_weekOf_14 ?_
    exact r_iret dX10_weekOf_15 rfl (Nat.le_refl _) (Nat.le_refl _) ⟨_, _, rfl, rfl, h⟩
  · have h := h.2 c1
    refine r_iconst_m1 dX10_weekOf_5 ?_
    refine r_goto (tgt := 15) dX10_weekOf_6 (by decide) ?_
    exact r_iret dX10_weekOf_15 rfl (Nat.le_refl _) (Nat.le_refl _) ⟨_, _, rfl, rfl, h⟩

theorem ct_Wall_weekOf {E : EvT} {q : Nat → Nat} {d : Nat} {S : StX} {x1 : Int32} (hp : (¬ x1 = -1 → 0 ≤ x1 ∧ x1 < 100)) : C_Wall_weekOf E q d x1 S (fun r S1 => r = pWeekOf S x1 ∧ S1 = S) := by
  refine en_Wall_weekOf ?_
  grind [pWeekOf]

theorem KP11_Wall_weekOf {E : EvT} {q : Nat → Nat} {I : MI} {d : Nat} {Qw : Option Value → va_W → Prop} {S : StX} {ls : List (Nat × Value)} {st : List Value} {pc : Nat} {x1 : Int32} (hp : (¬ x1 = -1 → 0 ≤ x1 ∧ x1 < 100)) (hI : I.1.cls = RX11) (hW : (st.map fun v => v.category).sum ≤ 8) (hd : decode I.2.1 pc = .ok (.invokevirtual 316, 3)) (kk : RX E q I (d + 1) Qw (S) ls (.int (pWeekOf S x1) :: st) (pc + 3)) : RX E q I (d + 1) Qw S ls (.int x1 :: .ref (q 10) :: st) pc := K11_Wall_weekOf hI hW hd (mIx (ct_Wall_weekOf (E := E) (q := q) (d := d) hp) (fun r S1 hs => by obtain ⟨hr, hs⟩ := hs; subst hr; subst hs; exact kk))

set_option maxRecDepth 20000 in
theorem en_Read_peek {E : EvT} {q : Nat → Nat} {d : Nat} {S : StX} {P : Int32 → StX → Prop} (h : (¬ (xs_Read_fault S) = 0 → (P (-1) S)) ∧ ((xs_Read_fault S) = 0 → (((xs_Read_length S) ≤ (xs_Read_at S) → (P (-1) S)) ∧ (¬ (xs_Read_length S) ≤ (xs_Read_at S) → (rbX S = 280 ∧ ((0 ≤ (xs_Read_at S) ∧ (xs_Read_at S) < 400) ∧ (P ((xa_Tape_bytes S (ix (xs_Read_at S))) &&& 255) S))))))) : C_Read_peek E q d S P := by
  refine Cn.of rfl (Nat.le_of_ble_eq_true rfl) (ls := [(0, .ref (q 6))]) rfl ?_
  refine r_aload_n 0 dX6_peek_0 rfl rfl ?_
  refine xg_6_44 rfl dX6_peek_1 ?_
  refine r_if_ne (tgt := 34) dX6_peek_4 (by decide) (fun c1 => ?_) (fun c1 => ?_)
  · have h := h.1 c1
    refine r_iconst_m1 dX6_peek_34 ?_
    exact r_iret dX6_peek_35 rfl (Nat.le_refl _) (Nat.le_refl _) ⟨_, _, rfl, rfl, h⟩
  · have h := h.2 c1
    refine r_aload_n 0 dX6_peek_7 rfl rfl ?_
    refine xg_6_41 rfl dX6_peek_8 ?_
    refine r_aload_n 0 dX6_peek_11 rfl rfl ?_
    refine xg_6_37 rfl dX6_peek_12 ?_
    refine r_icmp_ge (tgt := 34) dX6_peek_15 (by decide) (fun c2 => ?_) (fun c2 => ?_)
    · have h := h.1 c2
      refine r_iconst_m1 dX6_peek_34 ?_
      exact r_iret dX6_peek_35 rfl (Nat.le_refl _) (Nat.le_refl _) ⟨_, _, rfl, rfl, h⟩
    · have h := h.2 c2
      refine r_aload_n 0 dX6_peek_18 rfl rfl ?_
      obtain ⟨b3, h⟩ := h
      refine xg_6_9 b3 rfl dX6_peek_19 ?_
      refine r_aload_n 0 dX6_peek_22 rfl rfl ?_
      refine xg_6_41 rfl dX6_peek_23 ?_
      obtain ⟨b4, h⟩ := h
      refine xl_180 b4 dX6_peek_26 ?_
      refine r_sipush_255 dX6_peek_27 ?_
      refine r_iand dX6_peek_30 ?_
      refine r_goto (tgt := 35) dX6_peek_31 (by decide) ?_
      exact r_iret dX6_peek_35 rfl (Nat.le_refl _) (Nat.le_refl _) ⟨_, _, rfl, rfl, h⟩

theorem ct_Read_peek {E : EvT} {q : Nat → Nat} {d : Nat} {S : StX} (hp : (xs_Read_fault S = 0 → xs_Read_at S < xs_Read_length S → rbX S = 280 ∧ 0 ≤ xs_Read_at S ∧ xs_Read_at S < 400)) : C_Read_peek E q d S (fun r S1 => r = pPeek S ∧ S1 = S) := by
  refine en_Read_peek ?_
  grind [pPeek]

theorem KP6_Read_peek {E : EvT} {q : Nat → Nat} {I : MI} {d : Nat} {Qw : Option Value → va_W → Prop} {S : StX} {ls : List (Nat × Value)} {st : List Value} {pc : Nat} (hp : (xs_Read_fault S = 0 → xs_Read_at S < xs_Read_length S → rbX S = 280 ∧ 0 ≤ xs_Read_at S ∧ xs_Read_at S < 400)) (hI : I.1.cls = RX6) (hW : (st.map fun v => v.category).sum ≤ 8) (hd : decode I.2.1 pc = .ok (.invokevirtual 75, 3)) (kk : RX E q I (d + 1) Qw (S) ls (.int (pPeek S) :: st) (pc + 3)) : RX E q I (d + 1) Qw S ls (.ref (q 6) :: st) pc := K6_Read_peek hI hW hd (mIx (ct_Read_peek (E := E) (q := q) (d := d) hp) (fun r S1 hs => by obtain ⟨hr, hs⟩ := hs; subst hr; subst hs; exact kk))
