/-! rows for what makes new cells, for constructors, copies and class objects; the frame of a contract -/
theorem ra_one {U : State} {a b : ClassId} {ty : FieldType} (h1 : va_RA U a ty) (h2 : va_RA U b ty) : a = b := by
  cases ty with
  | object C =>
    obtain ⟨_, _, _, _, _, g1⟩ := h1
    obtain ⟨_, _, _, _, _, g2⟩ := h2
    exact Option.some.inj (g1.symm.trans g2)
  | _ => exact Option.some.inj (h1.symm.trans h2)
theorem ka_one {E : EvT} {U : State} {cA cE : ClassId} {ty : FieldType} (t0 : Nat) (ht : (tysE E)[t0]? = some (cE, ty)) (h : va_K E.2.1 vwCl (tysE E ++ [(cA, ty)]) U) : cA = cE := by
  have h1 := (h.2 t0 (cE, ty) (by rw [List.getElem?_append_left (List.getElem?_eq_some_iff.mp ht).1]; exact ht)).2
  have h2 := (h.2 5 (cA, ty) (by rw [List.getElem?_append_right (Nat.le_of_ble_eq_true rfl)]; rfl)).2
  exact ra_one h2 h1
section RN
variable {E : EvT} {I : MI} {d mc ms : Nat} {Q : Option Value → va_W → Prop} {w : va_W} {k n : Nat} {ls : List (Nat × Value)} {st : List Value} {pc : Nat}
theorem r_new {ix ci N : Nat} {T : u_T} {C0 : String} (fs : List Value) (ty0 : Nat → FieldType) (hty : ∀ k, k < N → parseFieldDescriptor (T k).2.2.1 = some (ty0 k)) (hin : ∀ w ∈ u_ws C0 T N, w ∈ WS) (hc : vwCl[ci]? = some (C0, T, N)) (hcl : Cond.classLink I.1.cls ix C0 ∈ WS) (hinst : Cond.instantiable C0 N ∈ WS) (hini : Cond.initialized C0 ∈ WS) (hfs : ∀ j, j < N → defaultValue (ty0 j) = vp_V fs j) (hk : k + 1 ≤ mc) (hn : n + N ≤ ms) (hd : decode I.2.1 pc = .ok (.new ix, 3)) (kk : ∀ a : Nat, RR E I d mc ms Q (w ++ [(a, .inr (ci, fs))]) (k + 1) (n + N) ls (.ref a :: st) (pc + 3)) : RR E I d mc ms Q w k n ls st pc :=
  fun p e s m args below meth c A H locs la C hP hD hS hl => va_new (D := E.2.1) C.1.1 C.1.2.1 C.1.2.2.2.2 hin ty0 hty C.1.2.2.2.1 (C.1.2.2.2.2 _ hcl) (C.1.2.2.2.2 _ hinst) (C.1.2.2.2.2 _ hini) C.2.2.2.2.1 hP hD hS C.2.2.2.2.2.1 hc hfs hk hn hd (fun a H1 hP1 hD1 hS1 => kk a p e s m args below meth c A H1 locs la C hP1 hD1 hS1 hl)
theorem r_newI {z : Int32} {N : Nat} (hn0 : ¬ z < 0) (hN : z.toNatClampNeg = N) (hb : N * 4 ≤ 536870912) (hk : k + 1 ≤ mc) (hn : n + N ≤ ms) (hd : decode I.2.1 pc = .ok (.newarray .int, 2)) (kk : ∀ a : Nat, RR E I d mc ms Q (w ++ [(a, .inl (E.2.2.1 0, N, .inl (fun _ => 0)))]) (k + 1) (n + N) ls (.ref a :: st) (pc + 2)) : RR E I d mc ms Q w k n ls (.int z :: st) pc :=
  fun p e s m args below meth c A H locs la C hP hD hS hl => va_newa (D := E.2.1) (atype := .int) (a0 := (N, .inl (fun _ => 0))) C.1.1 C.1.2.1 (C.1.2.2.2.2 _ w1_97) rfl C.2.2.2.2.1 hP hD hS C.2.2.2.2.2.1 (fun _ => rfl) hn0 hN hb hk hn hd (fun a cA H1 hK1 hP1 hD1 hS1 => by
    have h := ka_one 0 rfl hK1
    subst h
    exact kk a p e s m args below meth c A H1 locs la C hP1 hD1 hS1 hl)
theorem r_newB {z : Int32} {N : Nat} (hn0 : ¬ z < 0) (hN : z.toNatClampNeg = N) (hb : N * 1 ≤ 536870912) (hk : k + 1 ≤ mc) (hn : n + N ≤ ms) (hd : decode I.2.1 pc = .ok (.newarray .byte, 2)) (kk : ∀ a : Nat, RR E I d mc ms Q (w ++ [(a, .inl (E.2.2.1 1, N, .inl (fun _ => 0)))]) (k + 1) (n + N) ls (.ref a :: st) (pc + 2)) : RR E I d mc ms Q w k n ls (.int z :: st) pc :=
  fun p e s m args below meth c A H locs la C hP hD hS hl => va_newa (D := E.2.1) (atype := .byte) (a0 := (N, .inl (fun _ => 0))) C.1.1 C.1.2.1 (C.1.2.2.2.2 _ w1_47) rfl C.2.2.2.2.1 hP hD hS C.2.2.2.2.2.1 (fun _ => rfl) hn0 hN hb hk hn hd (fun a cA H1 hK1 hP1 hD1 hS1 => by
    have h := ka_one 1 rfl hK1
    subst h
    exact kk a p e s m args below meth c A H1 locs la C hP1 hD1 hS1 hl)
theorem r_newZ {z : Int32} {N : Nat} (hn0 : ¬ z < 0) (hN : z.toNatClampNeg = N) (hb : N * 1 ≤ 536870912) (hk : k + 1 ≤ mc) (hn : n + N ≤ ms) (hd : decode I.2.1 pc = .ok (.newarray .boolean, 2)) (kk : ∀ a : Nat, RR E I d mc ms Q (w ++ [(a, .inl (E.2.2.1 2, N, .inl (fun _ => 0)))]) (k + 1) (n + N) ls (.ref a :: st) (pc + 2)) : RR E I d mc ms Q w k n ls (.int z :: st) pc :=
  fun p e s m args below meth c A H locs la C hP hD hS hl => va_newa (D := E.2.1) (atype := .boolean) (a0 := (N, .inl (fun _ => 0))) C.1.1 C.1.2.1 (C.1.2.2.2.2 _ w2_120) rfl C.2.2.2.2.1 hP hD hS C.2.2.2.2.2.1 (fun _ => rfl) hn0 hN hb hk hn hd (fun a cA H1 hK1 hP1 hD1 hS1 => by
    have h := ka_one 2 rfl hK1
    subst h
    exact kk a p e s m args below meth c A H1 locs la C hP1 hD1 hS1 hl)
theorem r_newL {z : Int32} {N : Nat} (hn0 : ¬ z < 0) (hN : z.toNatClampNeg = N) (hb : N * 8 ≤ 536870912) (hk : k + 1 ≤ mc) (hn : n + N ≤ ms) (hd : decode I.2.1 pc = .ok (.newarray .long, 2)) (kk : ∀ a : Nat, RR E I d mc ms Q (w ++ [(a, .inl (E.2.2.1 3, N, .inr (.inl (fun _ => 0))))]) (k + 1) (n + N) ls (.ref a :: st) (pc + 2)) : RR E I d mc ms Q w k n ls (.int z :: st) pc :=
  fun p e s m args below meth c A H locs la C hP hD hS hl => va_newa (D := E.2.1) (atype := .long) (a0 := (N, .inr (.inl (fun _ => 0)))) C.1.1 C.1.2.1 (C.1.2.2.2.2 _ w2_121) rfl C.2.2.2.2.1 hP hD hS C.2.2.2.2.2.1 (fun _ => rfl) hn0 hN hb hk hn hd (fun a cA H1 hK1 hP1 hD1 hS1 => by
    have h := ka_one 3 rfl hK1
    subst h
    exact kk a p e s m args below meth c A H1 locs la C hP1 hD1 hS1 hl)
theorem r_newQ {z : Int32} {N ix : Nat} (hAO : ∀ (A : Nat → Prop) (s : State), E.2.2.2 A s → va_AO "java/lang/Object" s) (hcl : Cond.classLink I.1.cls ix "java/lang/Object" ∈ WS) (hn0 : ¬ z < 0) (hN : z.toNatClampNeg = N) (hb : N * 4 ≤ 536870912) (hk : k + 1 ≤ mc) (hn : n + N ≤ ms) (hd : decode I.2.1 pc = .ok (.anewarray ix, 3)) (kk : ∀ a : Nat, RR E I d mc ms Q (w ++ [(a, .inl (E.2.2.1 4, N, .inr (.inr (.inr (.inr (fun _ => none))))))]) (k + 1) (n + N) ls (.ref a :: st) (pc + 3)) : RR E I d mc ms Q w k n ls (.int z :: st) pc :=
  fun p e s m args below meth c A H locs la C hP hD hS hl => va_newq (D := E.2.1) C.1.1 C.1.2.1 C.1.2.2.2.1 (C.1.2.2.2.2 _ hcl) (hAO A s C.2.2.2.2.2.2.1) C.2.2.2.2.1 hP hD hS C.2.2.2.2.2.1 hn0 hN hb hk hn hd (fun a cA H1 hK1 hP1 hD1 hS1 => by
    have h := ka_one 4 rfl hK1
    subst h
    exact kk a p e s m args below meth c A H1 locs la C hP1 hD1 hS1 hl)
theorem r_putF {ix ci f N q0 a : Nat} {T : u_T} {C0 : String} {fs : List Value} {v : Value} (ty0 : Nat → FieldType) (hty : ∀ k, k < N → parseFieldDescriptor (T k).2.2.1 = some (ty0 k)) (hnm : ∀ a, a < N → ∀ b, b < N → a ≠ b → (T a).2.1 ≠ (T b).2.1) (hin : ∀ w ∈ u_ws C0 T N, w ∈ WS) (hc : vwCl[ci]? = some (C0, T, N)) (hf : f < N) (hl0 : Cond.fieldLink I.1.cls ix (T f).1 (T f).2.1 (T f).2.2.1 ∈ WS) (hfin : (T f).2.2.2 = true) (hini : I.1.name = "<init>") (hown : (T f).1 = I.1.cls) (he : w[q0]? = some (a, .inr (ci, fs))) (hn : narrow (ty0 f) v = v) (hfit : fits (ty0 f) v = true) (hl1 : f < fs.length) {w2 : va_W} (hw2 : w.set q0 (a, .inr (ci, fs.set f v)) = w2) (hd : decode I.2.1 pc = .ok (.putfield ix, 3)) (kk : RR E I d mc ms Q w2 k n ls st (pc + 3)) : RR E I d mc ms Q w k n ls (v :: .ref a :: st) pc :=
  fun p e s m args below meth c A H locs la C hP hD hS hl => va_putF (D := E.2.1) (ref := (T f).1) C.1.1 C.1.2.1 C.1.2.2.2.2 hin ty0 hty hnm C.1.2.2.2.1 C.2.2.2.2.1 hP hD hS q0 he hc f hf (C.1.2.2.2.2 _ hl0) (fun _ h9 => h9) hfin (C.2.2.2.1.trans hini) hown (hty f hf) hn hfit hl1 hd (fun H locs hP hD hS => by subst hw2; exact kk p e s m args below meth c A H locs la C hP hD hS hl)
theorem r_objInit {ix a : Nat} (hl0 : Cond.methodLink I.1.cls ix Lib.objectInit ∈ WS) (hd : decode I.2.1 pc = .ok (.invokespecial ix, 3)) (hW : (st.map fun v => v.category).sum ≤ 8) (kk : RR E I (d + 1) mc ms Q w k n ls st (pc + 3)) : RR E I (d + 1) mc ms Q w k n ls (.ref a :: st) pc :=
  fun p e s m args below meth c A H locs la C hP hD hS hl => W.objInit C.1.1 C.1.2.1 C.1.2.2.2.1 (C.1.2.2.2.2 _ hl0) (C.1.2.2.2.2 _ w1_30) (C.1.2.2.2.2 _ w1_31) rfl (hl.1.trans C.1.2.2.1.symm) rfl hd (by show 1 ≤ d + 1; omega) (by show 2 * 0 + (st.map fun v => v.category).sum + 12 ≤ 64 * (d + 1); omega) (kk p e s m args below meth c A H locs la C hP hD hS hl)
theorem r_callI {J : MI} {As : List Value} {b ix nA mc1 ms1 : Nat} {Q1 : Option Value → va_W → Prop} (hl0 : Cond.methodLink I.1.cls ix J.1 ∈ WS) (hi0 : Cond.instanceMethod J.1 ∈ WS) (hn0 : Cond.initialized J.1.cls ∈ WS) (hc0 : Cond.code J.1 J.2.1 J.2.2.1 none ∈ WS) (hJ : J.2.2.2 = none) (hy : J.1.name = "<init>") (hd0 : J.1.cls ≠ "java/lang/invoke/MethodHandle" ∧ J.1.cls ≠ "java/lang/invoke/VarHandle" ∧ (parseMethodDescriptor J.1.desc).map (fun d => d.parameters.length) = some nA) (hA0 : As.length = nA) (hL : J.2.2.1 ≤ 45)
    (hW : (st.map fun v => v.category).sum ≤ 8) (hd : decode I.2.1 pc = .ok (.invokespecial ix, 3)) (hf : k + mc1 ≤ mc ∧ n + ms1 ≤ ms) {stk : List Value} (hst : As.reverse ++ .ref b :: st = stk)
    (con : Cn E J d mc1 ms1 (.ref b :: As) w Q1) (kk : ∀ v w', Q1 v w' → RR E I (d + 1) mc ms Q w' (k + mc1) (n + ms1) ls (v.toList ++ st) (pc + 3)) : RR E I (d + 1) mc ms Q w k n ls stk pc := by
  intro p e s m args below meth c A H locs la C hP hD hS hl
  subst hst
  have hG : GoodIn WS (Cond.code J.1 J.2.1 J.2.2.1 none :: WS) := by
    intro w hw
    refine ws_good w ?_
    rcases List.mem_cons.mp hw with rfl | h
    · exact hc0
    · exact h
  have cw := cwI (R := rmD (d + 1) mc ms) (rm := rmD d mc1 ms1) (mc := mc1) (ms := ms1) nA C.1.2.2.2.2 hG rfl rfl rfl (C.1.2.2.2.2 _ hn0) (C.1.2.2.2.2 _ hl0) (C.1.2.2.2.2 _ hi0) hy hd0 ⟨Nat.le_refl _, by show 8 + (J.2.2.1 + 11) + 64 * d ≤ 64 * (d + 1); omega⟩
  have con1 := con H.size C.2.2.2.2.2.2.2
  rw [hJ] at con1
  refine rr_call (va_runI (As := As) (rest := st) C.1 con1 cw ⟨rr_blind C.2.2.2.2.2.2.2, rr_pre C hP hD hS⟩ rfl hA0 hl.1 rfl (lv_room hW) hd hf) hS (rr_free hD hS C.2.2.2.2.2.1) (rr_free hD hS C.2.2.2.2.2.1) ?_
  intro v w1 H1 locs1 hq hP1 hD1 hS1
  exact kk v w1 hq p e s m args below meth c A H1 locs1 la C hP1 hD1 hS1 hl
theorem r_callIN {J : MI} {As : List Value} {b ix nA mc1 ms1 : Nat} {host : String} {Q1 : Option Value → va_W → Prop} (hN : ∀ (A : Nat → Prop) (s : State), E.2.2.2 A s → va_Nw (.methodLinkNest I.1.cls ix J.1 host) s) (hi0 : Cond.instanceMethod J.1 ∈ WS) (hn0 : Cond.initialized J.1.cls ∈ WS) (hc0 : Cond.code J.1 J.2.1 J.2.2.1 none ∈ WS) (hJ : J.2.2.2 = none) (hy : J.1.name = "<init>") (hd0 : J.1.cls ≠ "java/lang/invoke/MethodHandle" ∧ J.1.cls ≠ "java/lang/invoke/VarHandle" ∧ (parseMethodDescriptor J.1.desc).map (fun d => d.parameters.length) = some nA) (hA0 : As.length = nA) (hL : J.2.2.1 ≤ 45)
    (hW : (st.map fun v => v.category).sum ≤ 8) (hd : decode I.2.1 pc = .ok (.invokespecial ix, 3)) (hf : k + mc1 ≤ mc ∧ n + ms1 ≤ ms) {stk : List Value} (hst : As.reverse ++ .ref b :: st = stk)
    (con : Cn E J d mc1 ms1 (.ref b :: As) w Q1) (kk : ∀ v w', Q1 v w' → RR E I (d + 1) mc ms Q w' (k + mc1) (n + ms1) ls (v.toList ++ st) (pc + 3)) : RR E I (d + 1) mc ms Q w k n ls stk pc := by
  intro p e s m args below meth c A H locs la C hP hD hS hl
  subst hst
  have hG : GoodIn WS (Cond.code J.1 J.2.1 J.2.2.1 none :: WS) := by
    intro w hw
    refine ws_good w ?_
    rcases List.mem_cons.mp hw with rfl | h
    · exact hc0
    · exact h
  have cw := va_cnB (R := rmD (d + 1) mc ms) (rm := rmD d mc1 ms1) (mc := mc1) (ms := ms1) nA C.1.2.2.2.2 hG rfl rfl rfl (hN A s C.2.2.2.2.2.2.1) (C.1.2.2.2.2 _ hn0) hd0 ⟨Nat.le_refl _, by show 8 + (J.2.2.1 + 11) + 64 * d ≤ 64 * (d + 1); omega⟩
  have con1 := con H.size C.2.2.2.2.2.2.2
  rw [hJ] at con1
  refine rr_call (va_runIN (As := As) (rest := st) C.1 con1 ⟨cw, hy, C.1.2.2.2.2 _ hi0⟩ ⟨rr_blind C.2.2.2.2.2.2.2, rr_pre C hP hD hS⟩ rfl hA0 hl.1 rfl (lv_room hW) hd hf) hS (rr_free hD hS C.2.2.2.2.2.1) (rr_free hD hS C.2.2.2.2.2.1) ?_
  intro v w1 H1 locs1 hq hP1 hD1 hS1
  exact kk v w1 hq p e s m args below meth c A H1 locs1 la C hP1 hD1 hS1 hl
end RN
/-- the frame: what a method doesn't name stays as it is -/
theorem Cn.frame {E : EvT} {I : MI} {d mc ms : Nat} {av : List Value} {w : va_W} {Q : Option Value → va_W → Prop} (h : Cn E I d mc ms av w Q) (w0 : va_W) : Cn E I d mc ms av (w0 ++ w) (fun v w' => ∃ w1, w' = w0 ++ w1 ∧ Q v w1) := by
  intro sz hXt p e ha hc hk s m args below hf happ hP hK
  obtain ⟨hav, hsz, hP, hKs, hD, hX⟩ := hP
  have hin : ∀ (k : Nat) (q : Nat × va_E), w[k]? = some q → (w0 ++ w)[w0.length + k]? = some q := fun k q hk => by
    rw [List.getElem?_append_right (Nat.le_add_right _ _), Nat.add_sub_cancel_left]; exact hk
  have hin0 : ∀ (k : Nat) (q : Nat × va_E), w0[k]? = some q → (w0 ++ w)[k]? = some q := fun k q hk => by
    rw [List.getElem?_append_left (List.getElem?_eq_some_iff.mp hk).1]; exact hk
  have hPw : va_P E.2.1 vwCl w s.heap := fun k q hk => hP _ q (hin k q hk)
  have hP0 : va_P E.2.1 vwCl w0 s.heap := fun k q hk => hP _ q (hin0 k q hk)
  have hDw : va_D (fun _ => True) w := ⟨fun i j p q h1 h2 h3 => Nat.add_left_cancel (hD.1 _ _ p q (hin i p h1) (hin j q h2) h3), fun _ _ _ => trivial⟩
  have hAA : ∀ q, va_A w sz q → va_A (w0 ++ w) sz q := fun q hq => by
    rcases hq with ⟨k, e, hk⟩ | hq
    · exact Or.inl ⟨_, e, hin k _ hk⟩
    · exact Or.inr hq
  have hlt : ∀ (k : Nat) (q : Nat × va_E), w0[k]? = some q → q.1 < s.heap.size := fun k q hk => (hP0 k q hk).lt
  have hout : ∀ (k : Nat) (q : Nat × va_E), w0[k]? = some q → ¬ va_A w sz q.1 := fun k q hk hA => by
    rcases hA with ⟨j, e, hj⟩ | hj
    · have h1 := hD.1 _ _ _ _ (hin0 k q hk) (hin j _ hj) rfl
      have h2 := (List.getElem?_eq_some_iff.mp hk).1
      omega
    · have h2 := hlt k q hk
      omega
  obtain ⟨t, o, h1, h2, h3, ⟨⟨⟨v, w', e1, e2, eP, eK, eD⟩, eF⟩, L, hFE, hL⟩⟩ := h sz hXt p e ha hc hk s m args below hf happ ⟨hav, hsz, hPw, hKs, hDw, hXt _ _ s s hX (Nat.le_refl _) (fun _ _ _ => rfl) (Or.inr rfl) hAA⟩ hK
  refine ⟨t, o, h1, h2, h3, ⟨⟨⟨v, w0 ++ w', e1, ⟨w', rfl, e2⟩, ?_, eK, ?_⟩, eF.1, fun q g1 g2 => eF.2 q g1 (fun z => g2 (hAA q z))⟩, L, hFE, fun q hq => hAA _ (hL q hq)⟩⟩
  · exact (hP0.kept (fun k q hk => eF.2 q.1 (hlt k q hk) (hout k q hk))).app eP
  · refine va_D.app ⟨fun i j p q g1 g2 g3 => hD.1 _ _ p q (hin0 i p g1) (hin0 j q g2) g3, fun k q hk => Or.inl ⟨k, q.2, hin0 k q hk⟩⟩ (eD.weaken (fun _ _ _ hz => hAA _ hz)) ?_
    intro i j p q g1 g2 g3
    exact hout i p g1 (by rw [g3]; exact eD.2 j q g2)
