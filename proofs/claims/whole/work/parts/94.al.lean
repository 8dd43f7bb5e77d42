/-! a world in another order; fill; ArrayList's constructor -/
theorem r_sub {E : EvT} {I : MI} {d mc ms : Nat} {Q : Option Value → va_W → Prop} {w w2 : va_W} {k n : Nat} {ls : List (Nat × Value)} {st : List Value} {pc : Nat} (is : List Nat) (hn : va_nd is = true) (hs : is.map (fun i => w[i]?) = w2.map some) (kk : RR E I d mc ms Q w2 k n ls st pc) : RR E I d mc ms Q w k n ls st pc := by
  intro p e s m args below meth c A H locs la C hP hD hS hl
  refine kk p e s m args below meth c A H locs la C (hP.sub is ?_) (hD.sub is hn hs) hS hl
  have h : ∀ (is : List Nat) (w2 : va_W), is.map (fun i => w[i]?) = w2.map some → is.filterMap (fun i => w[i]?) = w2 := by
    intro is
    induction is with
    | nil => intro w2 h; cases w2 with
      | nil => rfl
      | cons x l => cases h
    | cons i is ih => intro w2 h; cases w2 with
      | nil => cases h
      | cons x l =>
        have h1 := (List.cons.inj h).1
        have h2 := (List.cons.inj h).2
        rw [List.filterMap_cons_some h1, ih l h2]
  exact h is w2 hs
abbrev iX_Jfill : MI := (yJ7_fill_53178, cJ7_fill_53178, 4, none)
set_option maxRecDepth 20000 in
theorem ct_fill {E : EvT} {d b N : Nat} {x : Int32} {g : Nat → Int32} (hN : N < 100000) : Cn E iX_Jfill d 0 0 [.ref b, .int x] [(b, .inl (E.2.2.1 0, N, .inl g))] (fun v w => v = none ∧ w = [(b, .inl (E.2.2.1 0, N, .inl (fillF N x g)))]) := by
  have lp : ∀ (m i : Nat), i + m = N → RR E iX_Jfill d 0 0 (fun v w => v = none ∧ w = [(b, .inl (E.2.2.1 0, N, .inl (fillF N x g)))]) [(b, .inl (E.2.2.1 0, N, .inl (fillF i x g)))] 0 0 [(0, .ref b), (1, .int x), (2, .int (nI i)), (3, .int (nI N))] [] 5 := by
    intro m
    induction m with
    | zero =>
      intro i hi
      have : i = N := by omega
      subst this
      refine r_iload_n 2 dJ7_fill_53178_5 rfl rfl ?_
      refine r_iload_n 3 dJ7_fill_53178_6 rfl rfl ?_
      refine r_icmp_ge (tgt := 20) dJ7_fill_53178_7 (by decide) (fun c1 => ?_) (fun c1 => ?_)
      · exact r_vret dJ7_fill_53178_20 rfl (Nat.le_refl _) (Nat.le_refl _) ⟨rfl, rfl⟩
      · exact absurd (Int32.le_refl _) c1
    | succ m ih =>
      intro i hi
      refine r_iload_n 2 dJ7_fill_53178_5 rfl rfl ?_
      refine r_iload_n 3 dJ7_fill_53178_6 rfl rfl ?_
      refine r_icmp_ge (tgt := 20) dJ7_fill_53178_7 (by decide) (fun c1 => ?_) (fun c1 => ?_)
      · exact absurd c1 (nI_ge (a := i) (b := N) (by omega) (by omega))
      · refine r_aload_n 0 dJ7_fill_53178_10 rfl rfl ?_
        refine r_iload_n 2 dJ7_fill_53178_11 rfl rfl ?_
        refine r_iload_n 1 dJ7_fill_53178_12 rfl rfl ?_
        have hin : vp_in (nI i) N := by
          rw [vp_in_iff]
          have h1 : (0 : Int32) ≤ nI i := nI_pos' (by omega)
          have h2 : nI i < nI N := nI_lt (b := N) (by omega) (by omega)
          have h3 : (nI N).toInt = N := nI_toInt (by omega)
          rw [← h3]
          exact ⟨Int32.le_iff_toInt_le.mp h1, Int32.lt_iff_toInt_lt.mp h2⟩
        refine r_iast (q0 := 0) rfl hin (w2 := [(b, .inl (E.2.2.1 0, N, .inl (upd (fillF i x g) (ix (nI i)) x)))]) rfl dJ7_fill_53178_13 ?_
        refine r_iinc 2 [(2, .int (nI i + 1)), (0, .ref b), (1, .int x), (3, .int (nI N))] dJ7_fill_53178_14 rfl rfl (Nat.le_of_ble_eq_true rfl) rfl ?_
        refine r_goto (tgt := 5) dJ7_fill_53178_17 (by decide) ?_
        refine r_ls [1, 2, 0, 3] (ls2 := [(0, .ref b), (1, .int x), (2, .int (nI i + 1)), (3, .int (nI N))]) rfl ?_
        have h1 := ih (i + 1) (by omega)
        rw [← fill_s, ← nI_1] at h1
        rw [show ix (nI i) = i from nI_clamp (by omega)]
        exact h1
  refine Cn.of rfl (Nat.le_of_ble_eq_true rfl) (ls := [(0, .ref b), (1, .int x)]) rfl ?_
  refine r_iconst_0 dJ7_fill_53178_0 ?_
  refine r_istore_n [(2, .int 0), (0, .ref b), (1, .int x)] dJ7_fill_53178_1 rfl (Nat.le_of_ble_eq_true rfl) rfl ?_
  refine r_aload_n 1 dJ7_fill_53178_2 rfl rfl ?_
  refine r_alen (q0 := 0) 0 rfl rfl (v := nI N) rfl dJ7_fill_53178_3 ?_
  refine r_istore_n [(3, .int (nI N)), (2, .int 0), (0, .ref b), (1, .int x)] dJ7_fill_53178_4 rfl (Nat.le_of_ble_eq_true rfl) rfl ?_
  refine r_ls [2, 3, 1, 0] (ls2 := [(0, .ref b), (1, .int x), (2, .int 0), (3, .int (nI N))]) rfl ?_
  have h := lp N 0 (by omega)
  rw [fill_0] at h
  exact h
/-- what stands outside the world: ArrayList's empty row z, Object[]'s class object mi, nest links -/
def XA (z mi : Nat) (A : Nat → Prop) (s : State) : Prop := va_Z RJx4a65c "DEFAULTCAPACITY_EMPTY_ELEMENTDATA" "[Ljava/lang/Object;" (.ref z) A s s.heap ∧ va_T (.object "java/lang/Object") z 0 (fun _ => .null) A s s.heap ∧ va_AO "java/lang/Object" s ∧ va_Dc s ∧ va_Mi "[Ljava/lang/Object;" mi s ∧ va_Nw (.methodLinkNest RX11 9 yX9_init RX11) s ∧ va_Nw (.methodLinkNest RX11 18 yX4_init RX11) s ∧ va_Nw (.methodLinkNest RX11 34 yX6_init RX11) s ∧ va_Nw (.methodLinkNest RX11 41 yX5_init RX11) s ∧ va_Nw (.methodLinkNest RX11 66 yX10_init RX11) s
def EOq (E : EvT) (z mi : Nat) : Prop := ∀ (A : Nat → Prop) (s : State), E.2.2.2 A s → XA z mi A s
section NN
variable {E : EvT} {z mi : Nat} (hE : EOq E z mi)
theorem hN_9 (hE : EOq E z mi) : ∀ (A : Nat → Prop) (s : State), E.2.2.2 A s → va_Nw (.methodLinkNest RX11 9 yX9_init RX11) s := fun A s h => (hE A s h).2.2.2.2.2.1
theorem hN_4 (hE : EOq E z mi) : ∀ (A : Nat → Prop) (s : State), E.2.2.2 A s → va_Nw (.methodLinkNest RX11 18 yX4_init RX11) s := fun A s h => (hE A s h).2.2.2.2.2.2.1
theorem hN_6 (hE : EOq E z mi) : ∀ (A : Nat → Prop) (s : State), E.2.2.2 A s → va_Nw (.methodLinkNest RX11 34 yX6_init RX11) s := fun A s h => (hE A s h).2.2.2.2.2.2.2.1
theorem hN_5 (hE : EOq E z mi) : ∀ (A : Nat → Prop) (s : State), E.2.2.2 A s → va_Nw (.methodLinkNest RX11 41 yX5_init RX11) s := fun A s h => (hE A s h).2.2.2.2.2.2.2.2.1
theorem hN_10 (hE : EOq E z mi) : ∀ (A : Nat → Prop) (s : State), E.2.2.2 A s → va_Nw (.methodLinkNest RX11 66 yX10_init RX11) s := fun A s h => (hE A s h).2.2.2.2.2.2.2.2.2
end NN
section AL
variable {E : EvT} {I : MI} {d mc ms z mi : Nat} {Q : Option Value → va_W → Prop} {w : va_W} {k n : Nat} {ls : List (Nat × Value)} {st : List Value} {pc : Nat}
theorem r_getZ (hE : EOq E z mi) (hI : I.1.cls = RJx4a65c) (hd : decode I.2.1 pc = .ok (.getstatic 39, 3)) (kk : RR E I d mc ms Q w k n ls (.ref z :: st) (pc + 3)) : RR E I d mc ms Q w k n ls st pc :=
  fun p e s m args below meth c A H locs la C hP hD hS hl => va_gets (ref := RJx4a65c) C.1.1 C.1.2.1 (hE A s C.2.2.2.2.2.2.1).1 hS C.1.2.2.2.1 (C.1.2.2.2.2 _ (by rw [hI]; exact w1_214)) (fun _ h => h) hd (kk p e s m args below meth c A H locs la C hP hD hS hl)
theorem r_lenZ (hE : EOq E z mi) (hd : decode I.2.1 pc = .ok (.arraylength, 1)) (kk : RR E I d mc ms Q w k n ls (.int 0 :: st) (pc + 1)) : RR E I d mc ms Q w k n ls (.ref z :: st) pc :=
  fun p e s m args below meth c A H locs la C hP hD hS hl => va_tlen C.1.1 C.1.2.1 (hE A s C.2.2.2.2.2.2.1).2.1 hS rfl hd (kk p e s m args below meth c A H locs la C hP hD hS hl)
end AL
abbrev iI_AC : MI := (yJxa1e45_init_da8c8, cJxa1e45_init_da8c8, 1, none)
abbrev iI_AB : MI := (yJxc12de_init_da8c8, cJxc12de_init_da8c8, 1, none)
abbrev iI_AL : MI := (yJx4a65c_init_da8c8, cJx4a65c_init_da8c8, 1, none)
theorem ci_AC {E : EvT} {d a : Nat} {w : va_W} : Cn E iI_AC (d + 1) 0 0 [.ref a] w (fun v w' => v = none ∧ w' = w) := by
  refine Cn.of rfl (Nat.le_of_ble_eq_true rfl) (ls := [(0, .ref a)]) rfl ?_
  refine r_aload_n 0 dJxa1e45_init_da8c8_0 rfl rfl ?_
  refine r_objInit w1_213 dJxa1e45_init_da8c8_1 (by decide) ?_
  exact r_vret dJxa1e45_init_da8c8_4 rfl (Nat.le_refl _) (Nat.le_refl _) ⟨rfl, rfl⟩
theorem ci_AB {E : EvT} {d a : Nat} {v1 v2 v3 : Value} : Cn E iI_AB (d + 2) 0 0 [.ref a] [(a, .inr (0, [v1, v2, v3]))] (fun v w' => v = none ∧ w' = [(a, .inr (0, [.int 0, v2, v3]))]) := by
  refine Cn.of rfl (Nat.le_of_ble_eq_true rfl) (ls := [(0, .ref a)]) rfl ?_
  refine r_aload_n 0 dJxc12de_init_da8c8_0 rfl rfl ?_
  refine r_callI (J := iI_AC) (As := []) w1_210 w1_211 w1_7 w1_212 rfl rfl (nA := 0) (by decide +kernel) rfl (by decide) (by decide) dJxc12de_init_da8c8_1 ⟨Nat.le_refl _, Nat.le_refl _⟩ rfl ci_AC ?_
  intro v w' h
  obtain ⟨rfl, rfl⟩ := h
  refine r_aload_n 0 dJxc12de_init_da8c8_4 rfl rfl ?_
  refine r_iconst_0 dJxc12de_init_da8c8_5 ?_
  refine r_put (T := TJx4a65c) (f := 0) (ci := 0) (q0 := 0) tyJx4a65c tyJx4a65c_ok nmJx4a65c inwJx4a65c rfl (by decide) w1_218 rfl rfl rfl rfl (Nat.le_of_ble_eq_true rfl) (w2 := [(a, .inr (0, [.int 0, v2, v3]))]) rfl dJxc12de_init_da8c8_6 ?_
  exact r_vret dJxc12de_init_da8c8_9 rfl (Nat.le_refl _) (Nat.le_refl _) ⟨rfl, rfl⟩
theorem ci_AL {E : EvT} {d a z mi : Nat} (hE : EOq E z mi) : Cn E iI_AL (d + 3) 0 0 [.ref a] [(a, .inr (0, [.int 0, .null, .int 0]))] (fun v w' => v = none ∧ w' = [(a, .inr (0, [.int 0, .ref z, .int 0]))]) := by
  refine Cn.of rfl (Nat.le_of_ble_eq_true rfl) (ls := [(0, .ref a)]) rfl ?_
  refine r_aload_n 0 dJx4a65c_init_da8c8_0 rfl rfl ?_
  refine r_callI (J := iI_AB) (As := []) w1_207 w1_208 w1_8 w1_209 rfl rfl (nA := 0) (by decide +kernel) rfl (by decide) (by decide) dJx4a65c_init_da8c8_1 ⟨Nat.le_refl _, Nat.le_refl _⟩ rfl ci_AB ?_
  intro v w' h
  obtain ⟨rfl, rfl⟩ := h
  refine r_aload_n 0 dJx4a65c_init_da8c8_4 rfl rfl ?_
  refine r_getZ hE rfl dJx4a65c_init_da8c8_5 ?_
  refine r_put (T := TJx4a65c) (f := 1) (ci := 0) (q0 := 0) tyJx4a65c tyJx4a65c_ok nmJx4a65c inwJx4a65c rfl (by decide) w1_216 rfl rfl rfl rfl (Nat.le_of_ble_eq_true rfl) (w2 := [(a, .inr (0, [.int 0, .ref z, .int 0]))]) rfl dJx4a65c_init_da8c8_8 ?_
  exact r_vret dJx4a65c_init_da8c8_11 rfl (Nat.le_refl _) (Nat.le_refl _) ⟨rfl, rfl⟩
