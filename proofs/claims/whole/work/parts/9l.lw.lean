/-! the law: its judgement and its rows -/
abbrev aL (s : State) : Nat → Prop := fun q => s.heap.size ≤ q
def CL (E : EvT) (p : Program) (s : State) (m : MethodId) (meth : Method) (c : Code) (b L : Nat) (xs : Nat → Int32) : Prop := CallFix p m c code 4 s #[Value.ref b] WS RL ∧ meth.sig.returnType = ret ∧ meth.locks = false ∧ va_K E.2.1 vwCl (tysE E) s ∧ E.2.2.2 (aL s) s ∧ XtOk E.2.2.2 ∧ va_X b L xs s s.heap ∧ b < s.heap.size ∧ L ≤ 4608
def RW (p : Program) (e : Env) (s : State) (m : MethodId) (below : List Frame) (meth : Method) (c : Code) (E : EvT) (b : Nat) (w : va_W) (k n : Nat) (ls : List (Nat × Value)) (st : List Value) (pc : Nat) : Prop := ∀ (H : Heap) (locs : List Loc) (la : Array Slot), va_P E.2.1 vwCl w H → va_D (aL s) w → va_S (aL s) s.heap H locs → lv_has la 4 ls → W p E.1 e room_1 s m #[Value.ref b] below meth c H locs k n (lw_Z below #[Value.ref b] s) (F0 m pc la st)
section LW
variable {p : Program} {e : Env} {s : State} {m : MethodId} {below : List Frame} {meth : Method} {c : Code} {E : EvT} {b L : Nat} {xs : Nat → Int32} {w : va_W} {k n : Nat} {ls : List (Nat × Value)} {st : List Value} {pc : Nat}
theorem w_aload (C : CL E p s m meth c b L xs) {jj : Fin 4} {i x : Nat} (k0 : Nat) (hd : decode code pc = .ok (.aload_n jj, 1)) (hi : (jj : Nat) = i) (h0 : ls[k0]? = some (i, .ref x)) (kk : RW p e s m below meth c E b w k n ls (.ref x :: st) (pc + 1)) : RW p e s m below meth c E b w k n ls st pc := fun H locs la hP hD hS hl => lv_aload_n C.1.1 C.1.2.1 hd hi (lv_at hl k0 h0) (kk H locs la hP hD hS hl)
theorem w_iload (C : CL E p s m meth c b L xs) {jj : Fin 4} {i : Nat} {x : Int32} (k0 : Nat) (hd : decode code pc = .ok (.iload_n jj, 1)) (hi : (jj : Nat) = i) (h0 : ls[k0]? = some (i, .int x)) (kk : RW p e s m below meth c E b w k n ls (.int x :: st) (pc + 1)) : RW p e s m below meth c E b w k n ls st pc := fun H locs la hP hD hS hl => lv_iload_n C.1.1 C.1.2.1 hd hi (lv_at hl k0 h0) (kk H locs la hP hD hS hl)
theorem w_iconst (C : CL E p s m meth c b L xs) {z : Int} {v : Int32} (hd : decode code pc = .ok (.iconst z, 1)) (hv : Int32.ofInt z = v) (kk : RW p e s m below meth c E b w k n ls (.int v :: st) (pc + 1)) : RW p e s m below meth c E b w k n ls st pc := fun H locs la hP hD hS hl => lv_iconst C.1.1 C.1.2.1 hd hv (kk H locs la hP hD hS hl)
theorem w_bipush (C : CL E p s m meth c b L xs) {z : Int} {v : Int32} (hd : decode code pc = .ok (.bipush z, 2)) (hv : (Int8.ofInt z).toInt32 = v) (kk : RW p e s m below meth c E b w k n ls (.int v :: st) (pc + 2)) : RW p e s m below meth c E b w k n ls st pc := fun H locs la hP hD hS hl => lv_bipush C.1.1 C.1.2.1 hd hv (kk H locs la hP hD hS hl)
theorem w_iadd (C : CL E p s m meth c b L xs) {x y : Int32} (hd : decode code pc = .ok (.iadd, 1)) (kk : RW p e s m below meth c E b w k n ls (.int (x + y) :: st) (pc + 1)) : RW p e s m below meth c E b w k n ls (.int y :: .int x :: st) pc := fun H locs la hP hD hS hl => lv_iadd C.1.1 C.1.2.1 hd (kk H locs la hP hD hS hl)
theorem w_isub (C : CL E p s m meth c b L xs) {x y : Int32} (hd : decode code pc = .ok (.isub, 1)) (kk : RW p e s m below meth c E b w k n ls (.int (x - y) :: st) (pc + 1)) : RW p e s m below meth c E b w k n ls (.int y :: .int x :: st) pc := fun H locs la hP hD hS hl => lv_isub C.1.1 C.1.2.1 hd (kk H locs la hP hD hS hl)
theorem w_iand (C : CL E p s m meth c b L xs) {x y : Int32} (hd : decode code pc = .ok (.iand, 1)) (kk : RW p e s m below meth c E b w k n ls (.int (x &&& y) :: st) (pc + 1)) : RW p e s m below meth c E b w k n ls (.int y :: .int x :: st) pc := fun H locs la hP hD hS hl => lv_iand C.1.1 C.1.2.1 hd (kk H locs la hP hD hS hl)
theorem w_sld (C : CL E p s m meth c b L xs) {i : Int32} (hin : vp_in i L) (hd : decode code pc = .ok (.iaload, 1)) (kk : RW p e s m below meth c E b w k n ls (.int (xs i.toNatClampNeg) :: st) (pc + 1)) : RW p e s m below meth c E b w k n ls (.int i :: .ref b :: st) pc := fun H locs la hP hD hS hl => va_sld C.1.1 C.1.2.1 C.2.2.2.2.2.2.1 C.2.2.2.2.2.2.2.1 (Nat.not_le.mpr C.2.2.2.2.2.2.2.1) hS hin hd (kk H locs la hP hD hS hl)
theorem w_slen (C : CL E p s m meth c b L xs) (hd : decode code pc = .ok (.arraylength, 1)) (kk : RW p e s m below meth c E b w k n ls (.int (Int32.ofNat L) :: st) (pc + 1)) : RW p e s m below meth c E b w k n ls (.ref b :: st) pc := fun H locs la hP hD hS hl => va_slen C.1.1 C.1.2.1 C.2.2.2.2.2.2.1 C.2.2.2.2.2.2.2.1 (Nat.not_le.mpr C.2.2.2.2.2.2.2.1) hS hd (kk H locs la hP hD hS hl)
theorem w_gt (C : CL E p s m meth c b L xs) {x y : Int32} {off : Int} {tgt : Nat} (hd : decode code pc = .ok (.if_icmp .gt off, 3)) (ht : (pc : Int) + off = (tgt : Int)) (kt : y < x → RW p e s m below meth c E b w k n ls st tgt) (kf : ¬ y < x → RW p e s m below meth c E b w k n ls st (pc + 3)) : RW p e s m below meth c E b w k n ls (.int y :: .int x :: st) pc := fun H locs la hP hD hS hl => lv_icmp_gt C.1.1 C.1.2.1 hd ht (fun q => kt q H locs la hP hD hS hl) (fun q => kf q H locs la hP hD hS hl)
theorem w_eq (C : CL E p s m meth c b L xs) {x : Int32} {off : Int} {tgt : Nat} (hd : decode code pc = .ok (.if_icmp .eq off, 3)) (ht : (pc : Int) + off = (tgt : Int)) (kt : RW p e s m below meth c E b w k n ls st tgt) : RW p e s m below meth c E b w k n ls (.int x :: .int x :: st) pc := fun H locs la hP hD hS hl => lv_icmp_eq C.1.1 C.1.2.1 hd ht (fun _ => kt H locs la hP hD hS hl) (fun q => absurd rfl q)
theorem w_if0 (C : CL E p s m meth c b L xs) {x : Int32} {off : Int} {tgt : Nat} (hd : decode code pc = .ok (.ifCond .eq off, 3)) (ht : (pc : Int) + off = (tgt : Int)) (kt : x = 0 → RW p e s m below meth c E b w k n ls st tgt) (kf : ¬ x = 0 → RW p e s m below meth c E b w k n ls st (pc + 3)) : RW p e s m below meth c E b w k n ls (.int x :: st) pc := fun H locs la hP hD hS hl => lv_if_eq C.1.1 C.1.2.1 hd ht (fun q => kt q H locs la hP hD hS hl) (fun q => kf q H locs la hP hD hS hl)
theorem w_goto (C : CL E p s m meth c b L xs) {off : Int} {tgt : Nat} (hd : decode code pc = .ok (.goto off, 3)) (ht : (pc : Int) + off = (tgt : Int)) (kk : RW p e s m below meth c E b w k n ls st tgt) : RW p e s m below meth c E b w k n ls st pc := fun H locs la hP hD hS hl => lv_goto C.1.1 C.1.2.1 hd ht (kk H locs la hP hD hS hl)
theorem w_tIn (C : CL E p s m meth c b L xs) {dflt lo hi : Int} {offs : Array Int} {len : Nat} {x : Int32} {off : Int} {tgt : Nat} (hd : decode code pc = .ok (.tableswitch dflt lo hi offs, len)) (h1 : ¬ x.toInt < lo) (h2 : ¬ hi < x.toInt) (ho : offs[(x.toInt - lo).toNat]? = some off) (ht : (pc : Int) + off = (tgt : Int)) (kk : RW p e s m below meth c E b w k n ls st tgt) : RW p e s m below meth c E b w k n ls (.int x :: st) pc := fun H locs la hP hD hS hl => lv_tableIn C.1.1 C.1.2.1 hd h1 h2 ho ht (kk H locs la hP hD hS hl)
theorem w_tOut (C : CL E p s m meth c b L xs) {dflt lo hi : Int} {offs : Array Int} {len : Nat} {x : Int32} {tgt : Nat} (hd : decode code pc = .ok (.tableswitch dflt lo hi offs, len)) (h : x.toInt < lo ∨ hi < x.toInt) (ht : (pc : Int) + dflt = (tgt : Int)) (kk : RW p e s m below meth c E b w k n ls st tgt) : RW p e s m below meth c E b w k n ls (.int x :: st) pc := fun H locs la hP hD hS hl => lv_tableOut C.1.1 C.1.2.1 hd h ht (kk H locs la hP hD hS hl)
theorem w_iinc (C : CL E p s m meth c b L xs) {i : Nat} {z : Int} {x v : Int32} (k0 : Nat) (ls2 : List (Nat × Value)) (hd : decode code pc = .ok (.iinc i z, 3)) (h0 : ls[k0]? = some (i, .int x)) (hv : x + Int32.ofInt z = v) (hn : i < 4) (h1 : (i, Value.int v) :: ls.filter (fun q => !(q.1 == i) && !(q.1 + 1 == i && q.2.category == 2)) = ls2) (kk : RW p e s m below meth c E b w k n ls2 st (pc + 3)) : RW p e s m below meth c E b w k n ls st pc := fun H locs la hP hD hS hl => lv_iinc C.1.1 C.1.2.1 hd hl h0 hv hn h1 (fun la2 hl2 => kk H locs la2 hP hD hS hl2)
theorem w_istore (C : CL E p s m meth c b L xs) {jj : Fin 4} {i : Nat} {x : Int32} (ls2 : List (Nat × Value)) (hd : decode code pc = .ok (.istore_n jj, 1)) (hi : (jj : Nat) = i) (hn : i < 4) (h0 : (i, Value.int x) :: ls.filter (fun q => !(q.1 == i) && !(q.1 + 1 == i && q.2.category == 2)) = ls2) (kk : RW p e s m below meth c E b w k n ls2 st (pc + 1)) : RW p e s m below meth c E b w k n ls (.int x :: st) pc := fun H locs la hP hD hS hl => lv_istore_n C.1.1 C.1.2.1 hd hi hl hn h0 (fun la2 hl2 => kk H locs la2 hP hD hS hl2)
theorem w_astore (C : CL E p s m meth c b L xs) {jj : Fin 4} {i x : Nat} (ls2 : List (Nat × Value)) (hd : decode code pc = .ok (.astore_n jj, 1)) (hi : (jj : Nat) = i) (hn : i < 4) (h0 : (i, Value.ref x) :: ls.filter (fun q => !(q.1 == i) && !(q.1 + 1 == i && q.2.category == 2)) = ls2) (kk : RW p e s m below meth c E b w k n ls2 st (pc + 1)) : RW p e s m below meth c E b w k n ls (.ref x :: st) pc := fun H locs la hP hD hS hl => lv_astore_n C.1.1 C.1.2.1 hd hi hl hn h0 (fun la2 hl2 => kk H locs la2 hP hD hS hl2)
theorem w_dup (C : CL E p s m meth c b L xs) {v : Value} (hd : decode code pc = .ok (.dup, 1)) (hc : v.category = 1) (kk : RW p e s m below meth c E b w k n ls (v :: v :: st) (pc + 1)) : RW p e s m below meth c E b w k n ls (v :: st) pc := fun H locs la hP hD hS hl => lv_dup C.1.1 C.1.2.1 hd hc (kk H locs la hP hD hS hl)
theorem w_ls {ls2 : List (Nat × Value)} (ks : List Nat) (h : lv_pick ls ks = ls2) (kk : RW p e s m below meth c E b w k n ls2 st pc) : RW p e s m below meth c E b w k n ls st pc := fun H locs la hP hD hS hl => kk H locs la hP hD hS (lv_sub hl ks h)
theorem w_perm {w2 : va_W} (h : w.Perm w2) (kk : RW p e s m below meth c E b w2 k n ls st pc) : RW p e s m below meth c E b w k n ls st pc := fun H locs la hP hD hS hl => kk H locs la (vaP_perm h hP) (vaD_perm h hD) hS hl
theorem w_widen {k2 n2 : Nat} (hk : k ≤ k2) (hn : n ≤ n2) (kk : RW p e s m below meth c E b w k2 n2 ls st pc) : RW p e s m below meth c E b w k n ls st pc := fun H locs la hP hD hS hl => W.widen hk hn (kk H locs la hP hD hS hl)
theorem w_new (C : CL E p s m meth c b L xs) {ix ci N : Nat} {T : u_T} {C0 : String} (fs : List Value) (ty0 : Nat → FieldType) (hty : ∀ k, k < N → parseFieldDescriptor (T k).2.2.1 = some (ty0 k)) (hin : ∀ w ∈ u_ws C0 T N, w ∈ WS) (hc : vwCl[ci]? = some (C0, T, N)) (hcl : Cond.classLink RL ix C0 ∈ WS) (hinst : Cond.instantiable C0 N ∈ WS) (hini : Cond.initialized C0 ∈ WS) (hfs : ∀ j, j < N → defaultValue (ty0 j) = vp_V fs j) (hk : k + 1 ≤ 600000) (hn : n + N ≤ 7302250) (hd : decode code pc = .ok (.new ix, 3)) (kk : ∀ a : Nat, RW p e s m below meth c E b (w ++ [(a, .inr (ci, fs))]) (k + 1) (n + N) ls (.ref a :: st) (pc + 3)) : RW p e s m below meth c E b w k n ls st pc := fun H locs la hP hD hS hl => va_new (D := E.2.1) C.1.1 C.1.2.1 C.1.2.2.2.2 hin ty0 hty C.1.2.2.2.1 (C.1.2.2.2.2 _ hcl) (C.1.2.2.2.2 _ hinst) (C.1.2.2.2.2 _ hini) C.2.2.2.1 hP hD hS (fun _ h => h) hc hfs hk hn hd (fun a H1 hP1 hD1 hS1 => kk a H1 locs la hP1 hD1 hS1 hl)
theorem w_end (C : CL E p s m meth c b L xs) (hd : decode code pc = .ok (.ireturn, 1)) (hk : k ≤ 600000) (hn : n ≤ 7302250) : RW p e s m below meth c E b w k n ls [.int 1] pc := fun H locs la hP hD hS hl => va_forget (fun q hq => hS.2.2 q hq) (W.widen hk hn (lw_ret C.1.1 C.1.2.1 C.2.1 C.2.2.1 hd))
theorem w_pre (C : CL E p s m meth c b L xs) {H : Heap} {locs : List Loc} (hP : va_P E.2.1 vwCl w H) (hD : va_D (aL s) w) (hS : va_S (aL s) s.heap H locs) {av : List Value} : ∀ U : State, U.heap = H → s.WarmedH U.vm → va_Pc av (rr_Pre E w H.size) av.toArray U := by
  intro U hU hW
  refine ⟨rfl, by rw [hU], by rw [hU]; exact hP, va_K.moved hW.alike C.2.2.2.1, hD.weaken (fun _ _ _ _ => trivial), ?_⟩
  exact C.2.2.2.2.2.1 (aL s) _ s U C.2.2.2.2.1 (by rw [hU]; exact hS.1) (fun a h1 h2 => by rw [hU]; exact hS.2.1 a h1 h2) (Or.inl hW) (rr_free hD hS (fun _ h => h))
theorem w_callV (C : CL E p s m meth c b L xs) {I9 : MI} {As : List Value} {a ix q0 ci N nA mc1 ms1 : Nat} {T : u_T} {fs : List Value} {Q1 : Option Value → va_W → Prop} (hl0 : Cond.methodLink RL ix I9.1 ∈ WS) (hi0 : Cond.instanceMethod I9.1 ∈ WS) (hs0 : Cond.selects I9.1.cls I9.1 I9.1 ∈ WS) (hn0 : Cond.initialized I9.1.cls ∈ WS) (hc0 : Cond.code I9.1 I9.2.1 I9.2.2.1 I9.2.2.2 ∈ WS) (hd0 : I9.1.cls ≠ "java/lang/invoke/MethodHandle" ∧ I9.1.cls ≠ "java/lang/invoke/VarHandle" ∧ (parseMethodDescriptor I9.1.desc).map (fun d => d.parameters.length) = some nA) (hA0 : As.length = nA) (hL : I9.2.2.1 ≤ 45)
    (he : w[q0]? = some (a, .inr (ci, fs))) (hci : vwCl[ci]? = some (I9.1.cls, T, N)) (hW : (st.map fun v => v.category).sum ≤ 8) (hd : decode code pc = .ok (.invokevirtual ix, 3)) (hf : k + mc1 ≤ 600000 ∧ n + ms1 ≤ 7302250) {stk : List Value} (hst : As.reverse ++ .ref a :: st = stk)
    (con : Cn E I9 1000 mc1 ms1 (.ref a :: As) w Q1) (kk : ∀ v w', Q1 v w' → RW p e s m below meth c E b w' (k + mc1) (n + ms1) ls (v.toList ++ st) (pc + 3)) : RW p e s m below meth c E b w k n ls stk pc := by
  intro H locs la hP hD hS hl
  subst hst
  have hG : GoodIn WS (wsV RL ix I9.1.cls I9.1 (Cond.code I9.1 I9.2.1 I9.2.2.1 I9.2.2.2 :: WS)) := by
    intro w hw
    refine ws_good w ?_
    simp only [wsV, List.mem_append, List.mem_cons, List.not_mem_nil, or_false] at hw
    rcases hw with (rfl | rfl | rfl | rfl) | rfl | h
    · exact hl0
    · exact hi0
    · exact hs0
    · exact hn0
    · exact hc0
    · exact h
  have cw := cwV (R := room_1) (rm := rmD 1000 mc1 ms1) (mc := mc1) (ms := ms1) nA C.1.2.2.2.2 hG rfl rfl rfl ⟨rfl, hd0⟩ ⟨by show 1000 + 1 ≤ 2048; decide, by show 8 + (I9.2.2.1 + 11) + 64 * 1000 ≤ 84000; omega⟩
  refine rr_call (va_runV (As := As) (rest := st) C.1 (con H.size C.2.2.2.2.2.1) cw ⟨rr_blind C.2.2.2.2.2.1, va_recv C.2.2.2.1 hP hci he, w_pre C hP hD hS⟩ rfl hA0 hl.1 rfl (lv_room hW) hd hf) hS (rr_free hD hS (fun _ h => h)) (rr_free hD hS (fun _ h => h)) ?_
  intro v w1 H1 locs1 hq hP1 hD1 hS1
  exact kk v w1 hq H1 locs1 la hP1 hD1 hS1 hl
theorem w_callI (C : CL E p s m meth c b L xs) {I9 : MI} {a ix mc1 ms1 : Nat} {Q1 : Option Value → va_W → Prop} (hl0 : Cond.methodLink RL ix I9.1 ∈ WS) (hi0 : Cond.instanceMethod I9.1 ∈ WS) (hn0 : Cond.initialized I9.1.cls ∈ WS) (hc0 : Cond.code I9.1 I9.2.1 I9.2.2.1 none ∈ WS) (hJ : I9.2.2.2 = none) (hy : I9.1.name = "<init>") (hd0 : I9.1.cls ≠ "java/lang/invoke/MethodHandle" ∧ I9.1.cls ≠ "java/lang/invoke/VarHandle" ∧ (parseMethodDescriptor I9.1.desc).map (fun d => d.parameters.length) = some 0) (hL : I9.2.2.1 ≤ 45)
    (hW : (st.map fun v => v.category).sum ≤ 8) (hd : decode code pc = .ok (.invokespecial ix, 3)) (hf : k + mc1 ≤ 600000 ∧ n + ms1 ≤ 7302250)
    (con : Cn E I9 1000 mc1 ms1 [.ref a] w Q1) (kk : ∀ v w', Q1 v w' → RW p e s m below meth c E b w' (k + mc1) (n + ms1) ls (v.toList ++ st) (pc + 3)) : RW p e s m below meth c E b w k n ls (.ref a :: st) pc := by
  intro H locs la hP hD hS hl
  have hG : GoodIn WS (Cond.code I9.1 I9.2.1 I9.2.2.1 none :: WS) := by
    intro w hw
    refine ws_good w ?_
    rcases List.mem_cons.mp hw with rfl | h
    · exact hc0
    · exact h
  have cw := cwI (R := room_1) (rm := rmD 1000 mc1 ms1) (mc := mc1) (ms := ms1) 0 C.1.2.2.2.2 hG rfl rfl rfl (C.1.2.2.2.2 _ hn0) (C.1.2.2.2.2 _ hl0) (C.1.2.2.2.2 _ hi0) hy hd0 ⟨by show 1000 + 1 ≤ 2048; decide, by show 8 + (I9.2.2.1 + 11) + 64 * 1000 ≤ 84000; omega⟩
  have con1 := con H.size C.2.2.2.2.2.1
  rw [hJ] at con1
  refine rr_call (va_runI (As := []) (rest := st) C.1 con1 cw ⟨rr_blind C.2.2.2.2.2.1, w_pre C hP hD hS⟩ rfl rfl hl.1 rfl (lv_room hW) hd hf) hS (rr_free hD hS (fun _ h => h)) (rr_free hD hS (fun _ h => h)) ?_
  intro v w1 H1 locs1 hq hP1 hD1 hS1
  exact kk v w1 hq H1 locs1 la hP1 hD1 hS1 hl
theorem sc_ix {i jj L : Nat} (h : i + 9 ≤ L) (hL : L ≤ 4608) (hj : jj ≤ 8) : vp_in (nI i + nI jj) L ∧ (nI i + nI jj).toNatClampNeg = i + jj := by
  have e : nI i + nI jj = nI (i + jj) := (nI_add i jj)
  rw [e]
  refine ⟨?_, nI_clamp (by omega)⟩
  rw [vp_in_iff, nI_toInt (by omega)]
  omega
/-- one number of the script -/
theorem w_arg (C : CL E p s m meth c b L xs) {i jj a1 a2 : Nat} {z : Int} (h : i + 9 ≤ L) (hj : jj ≤ 8) (hz : Int32.ofInt z = nI jj) (d0 : decode code pc = .ok (.aload_n 0, 1)) (d1 : decode code (pc + 1) = .ok (.iload_n 3, 1)) (d2 : decode code (pc + 2) = .ok (.iconst z, 1)) (d3 : decode code (pc + 3) = .ok (.iadd, 1)) (d4 : decode code (pc + 4) = .ok (.iaload, 1)) (kk : RW p e s m below meth c E b w k n [(0, .ref b), (1, .ref a1), (2, .ref a2), (3, .int (nI i))] (.int (xs (i + jj)) :: st) (pc + 5)) : RW p e s m below meth c E b w k n [(0, .ref b), (1, .ref a1), (2, .ref a2), (3, .int (nI i))] st pc := by
  obtain ⟨g1, g2⟩ := sc_ix h C.2.2.2.2.2.2.2.2 hj
  refine w_aload C 0 d0 rfl rfl (w_iload C 3 d1 rfl rfl (w_iconst C d2 hz (w_iadd C d3 (w_sld C g1 d4 ?_))))
  rw [g2]
  exact kk
theorem w_argb (C : CL E p s m meth c b L xs) {i jj a1 a2 : Nat} {z : Int} (h : i + 9 ≤ L) (hj : jj ≤ 8) (hz : (Int8.ofInt z).toInt32 = nI jj) (d0 : decode code pc = .ok (.aload_n 0, 1)) (d1 : decode code (pc + 1) = .ok (.iload_n 3, 1)) (d2 : decode code (pc + 2) = .ok (.bipush z, 2)) (d3 : decode code (pc + 4) = .ok (.iadd, 1)) (d4 : decode code (pc + 5) = .ok (.iaload, 1)) (kk : RW p e s m below meth c E b w k n [(0, .ref b), (1, .ref a1), (2, .ref a2), (3, .int (nI i))] (.int (xs (i + jj)) :: st) (pc + 6)) : RW p e s m below meth c E b w k n [(0, .ref b), (1, .ref a1), (2, .ref a2), (3, .int (nI i))] st pc := by
  obtain ⟨g1, g2⟩ := sc_ix h C.2.2.2.2.2.2.2.2 hj
  refine w_aload C 0 d0 rfl rfl (w_iload C 3 d1 rfl rfl (w_bipush C d2 hz (w_iadd C d3 (w_sld C g1 d4 ?_))))
  rw [g2]
  exact kk
end LW
