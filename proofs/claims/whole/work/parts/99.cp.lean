/-! worlds up to order; copies; class objects -/
theorem vaP_perm {D : va_G} {cl : List vw_C} {w w2 : va_W} {H : Heap} (h : w.Perm w2) (hP : va_P D cl w H) : va_P D cl w2 H := by
  intro k q hk
  have h1 : q ∈ w := h.mem_iff.mpr (List.mem_of_getElem? hk)
  obtain ⟨i, hi⟩ := List.mem_iff_getElem?.mp h1
  exact hP i q hi
theorem vaD_nd {A : Nat → Prop} {w : va_W} : va_D A w ↔ (w.map Prod.fst).Nodup ∧ ∀ q ∈ w, A q.1 := by
  constructor
  · intro h
    refine ⟨?_, fun q hq => ?_⟩
    · rw [List.Nodup, List.pairwise_iff_getElem]
      intro i j hi hj hij he
      rw [List.getElem_map, List.getElem_map] at he
      rw [List.length_map] at hi hj
      have h1 := h.1 i j w[i] w[j] (List.getElem?_eq_getElem hi) (List.getElem?_eq_getElem hj) he
      omega
    · obtain ⟨i, hi⟩ := List.mem_iff_getElem?.mp hq
      exact h.2 i q hi
  · intro ⟨h1, h2⟩
    refine ⟨fun i j p q hi hj he => ?_, fun k q hk => h2 q (List.mem_of_getElem? hk)⟩
    obtain ⟨hi1, hi2⟩ := List.getElem?_eq_some_iff.mp hi
    obtain ⟨hj1, hj2⟩ := List.getElem?_eq_some_iff.mp hj
    rw [List.Nodup, List.pairwise_iff_getElem] at h1
    rcases Nat.lt_trichotomy i j with hh | hh | hh
    · exact absurd (by rw [List.getElem_map, List.getElem_map, hi2, hj2]; exact he) (h1 i j (by rw [List.length_map]; exact hi1) (by rw [List.length_map]; exact hj1) hh)
    · exact hh
    · exact absurd (by rw [List.getElem_map, List.getElem_map, hi2, hj2]; exact he.symm) (h1 j i (by rw [List.length_map]; exact hj1) (by rw [List.length_map]; exact hi1) hh)
theorem vaD_perm {A : Nat → Prop} {w w2 : va_W} (h : w.Perm w2) (hD : va_D A w) : va_D A w2 := by
  rw [vaD_nd] at hD ⊢
  exact ⟨((h.map Prod.fst).nodup_iff).mp hD.1, fun q hq => hD.2 q (h.mem_iff.mpr hq)⟩
theorem r_perm {E : EvT} {I : MI} {d mc ms : Nat} {Q : Option Value → va_W → Prop} {w w2 : va_W} {k n : Nat} {ls : List (Nat × Value)} {st : List Value} {pc : Nat} (h : w.Perm w2) (kk : RR E I d mc ms Q w2 k n ls st pc) : RR E I d mc ms Q w k n ls st pc :=
  fun p e s m args below meth c A H locs la C hP hD hS hl => kk p e s m args below meth c A H locs la C (vaP_perm h hP) (vaD_perm h hD) hS hl
theorem Cn.perm {E : EvT} {I : MI} {d mc ms : Nat} {av : List Value} {w w2 : va_W} {Q : Option Value → va_W → Prop} (h : w2.Perm w) (hc : Cn E I d mc ms av w Q) : Cn E I d mc ms av w2 Q := by
  intro sz hXt
  have hA : va_A w sz = va_A w2 sz := by
    funext q
    refine propext ⟨fun hq => ?_, fun hq => ?_⟩
    · rcases hq with ⟨k, e, hk⟩ | hq
      · obtain ⟨i, hi⟩ := List.mem_iff_getElem?.mp (h.mem_iff.mpr (List.mem_of_getElem? hk))
        exact Or.inl ⟨i, e, hi⟩
      · exact Or.inr hq
    · rcases hq with ⟨k, e, hk⟩ | hq
      · obtain ⟨i, hi⟩ := List.mem_iff_getElem?.mp (h.mem_iff.mp (List.mem_of_getElem? hk))
        exact Or.inl ⟨i, e, hi⟩
      · exact Or.inr hq
  have h1 := hc sz hXt
  rw [hA] at h1
  intro p e ha hc hk s m args below hf happ hP hK
  obtain ⟨hav, hsz, hP, hKs, hD, hX⟩ := hP
  exact h1 p e ha hc hk s m args below hf happ ⟨hav, hsz, vaP_perm h hP, hKs, vaD_perm h hD, by rw [hA]; exact hX⟩ hK
theorem pm_get : ∀ (w : va_W) (q0 : Nat) (x : Nat × va_E), w[q0]? = some x → w.Perm (w.eraseIdx q0 ++ [x])
  | [], _, _, h => by cases h
  | y :: l, 0, x, h => by cases h; exact List.perm_append_comm (l₁ := [y]) (l₂ := l)
  | y :: l, k + 1, x, h => (pm_get l k x h).cons y
theorem pm_set : ∀ (w : va_W) (q0 : Nat) (x : Nat × va_E), q0 < w.length → (w.eraseIdx q0 ++ [x]).Perm (w.set q0 x)
  | [], _, _, h => absurd h (Nat.not_lt_zero _)
  | y :: l, 0, x, _ => List.perm_append_comm (l₁ := l) (l₂ := [x])
  | y :: l, k + 1, x, h => (pm_set l k x (Nat.lt_of_succ_lt_succ h)).cons y
theorem set_same : ∀ (w : va_W) (q0 : Nat) (x : Nat × va_E), w[q0]? = some x → w.set q0 x = w
  | [], _, _, h => by cases h
  | y :: l, 0, x, h => by cases h; rfl
  | y :: l, k + 1, x, h => congrArg (y :: ·) (set_same l k x h)
/-- a contract of one cell, used in a world that holds it at q0; the cell stays, new ones come behind -/
theorem Cn.one {E : EvT} {I : MI} {d mc ms : Nat} {av : List Value} {w : va_W} {x : Nat × va_E} {Q : Option Value → va_W → Prop} (q0 : Nat) (hw : w[q0]? = some x) (h : Cn E I d mc ms av [x] Q) : Cn E I d mc ms av w (fun v w' => ∃ w1, w' = w.eraseIdx q0 ++ w1 ∧ Q v w1) := (h.frame (w.eraseIdx q0)).perm (pm_get w q0 x hw)
theorem pm_back {w : va_W} {q0 : Nat} {x : Nat × va_E} (hw : w[q0]? = some x) (new : va_W) : (w.eraseIdx q0 ++ x :: new).Perm (w ++ new) := by
  have h1 : (w.eraseIdx q0 ++ [x]) ++ new = w.eraseIdx q0 ++ x :: new := by simp
  rw [← h1]
  exact ((pm_get w q0 x hw).symm).append_right new
def XB (s : State) : Prop := va_Nw (.castable "[I" "java/lang/Cloneable") s ∧ va_Nw (.castable RX7 "java/lang/Object") s
def EOr (E : EvT) : Prop := ∀ (A : Nat → Prop) (s : State), E.2.2.2 A s → XB s
section CP
variable {E : EvT} {I : MI} {d mc ms : Nat} {Q : Option Value → va_W → Prop} {w : va_W} {k n : Nat} {ls : List (Nat × Value)} {st : List Value} {pc : Nat}
theorem r_cloneI (hB : EOr E) {q0 a N : Nat} {f : Nat → Int32} (ha : w[q0]? = some (a, .inl (E.2.2.1 0, N, .inl f))) (hI : I.1.cls = RJ7) (hW : (st.map fun v => v.category).sum ≤ 8) (hk : k + 1 ≤ mc) (hn : n + N ≤ ms) (hd : decode I.2.1 pc = .ok (.invokevirtual 316, 3)) (kk : ∀ b : Nat, RR E I (d + 1) mc ms Q (w ++ [(b, .inl (E.2.2.1 0, N, .inl f))]) (k + 1) (n + N) ls (.ref b :: st) (pc + 3)) : RR E I (d + 1) mc ms Q w k n ls (.ref a :: st) pc :=
  fun p e s m args below meth c A H locs la C hP hD hS hl => va_clone (D := E.2.1) (ad := "[I") (x := (N, .inl f)) (ty := .int) C.1.1 C.1.2.1 (C.1.2.2.1.trans hl.1.symm) C.1.2.2.2.1 (C.1.2.2.2.2 _ (by rw [hI]; exact w4_123)) (C.1.2.2.2.2 _ w4_124) (C.1.2.2.2.2 _ w4_125) (C.1.2.2.2.2 _ w4_126) (C.1.2.2.2.2 _ w4_127) (hB A s C.2.2.2.2.2.2.1).1 C.2.2.2.2.1 hP hD hS C.2.2.2.2.2.1 q0 0 ha rfl (va_nm_int (C.2.2.2.2.1.2 0 _ rfl).2) (va_fit (fun _ _ => rfl)) (by show 1 ≤ d + 1; omega) (by show _ ≤ 64 * (d + 1); omega) hk hn hd (fun b H1 _ hP1 hD1 hS1 => kk b p e s m args below meth c A H1 locs la C hP1 hD1 hS1 hl)
theorem r_castI {q0 a N : Nat} {f : Nat → Int32} (ha : w[q0]? = some (a, .inl (E.2.2.1 0, N, .inl f))) (hI : I.1.cls = RJ7) (hd : decode I.2.1 pc = .ok (.checkcast 317, 3)) (kk : RR E I d mc ms Q w k n ls (.ref a :: st) (pc + 3)) : RR E I d mc ms Q w k n ls (.ref a :: st) pc :=
  fun p e s m args below meth c A H locs la C hP hD hS hl => va_castA (D := E.2.1) C.1.1 C.1.2.1 C.1.2.2.2.1 (C.1.2.2.2.2 _ (by rw [hI]; exact w4_129)) hP q0 ha (va_nm_int (C.2.2.2.2.1.2 0 _ rfl).2) hd (kk p e s m args below meth c A H locs la C hP hD hS hl)
theorem r_copyI {q0 q1 a0 a n0 n1 : Nat} {f g : Nat → Int32} {z : Int32} (ha0 : w[q0]? = some (a0, .inl (E.2.2.1 0, n0, .inl f))) (ha1 : w[q1]? = some (a, .inl (E.2.2.1 0, n1, .inl g))) (hI : I.1.cls = RJ7) (h3 : ¬ z < 0) (h4 : z.toNatClampNeg ≤ n0) (h5 : z.toNatClampNeg ≤ n1) (hW : (st.map fun v => v.category).sum ≤ 8) (hd : decode I.2.1 pc = .ok (.invokestatic 150, 3)) (kk : RR E I (d + 1) mc ms Q (w.set q1 (a, .inl (E.2.2.1 0, n1, .inl (va_cpy f g 0 0 z.toNatClampNeg)))) k n ls st (pc + 3)) : RR E I (d + 1) mc ms Q w k n ls (.int z :: .int 0 :: .ref a :: .int 0 :: .ref a0 :: st) pc :=
  fun p e s m args below meth c A H locs la C hP hD hS hl => va_copyi (D := E.2.1) (ty := .int) C.1.1 C.1.2.1 (C.1.2.2.1.trans hl.1.symm) C.1.2.2.2.1 (C.1.2.2.2.2 _ (by rw [hI]; exact w4_131)) (C.1.2.2.2.2 _ w4_133) (C.1.2.2.2.2 _ w4_132) (C.1.2.2.2.2 _ w1_20) C.2.2.2.2.1 hP hD hS q0 q1 0 0 ha0 ha1 rfl rfl rfl (by decide) (by decide) h3 (by rw [show (0 : Int32).toNatClampNeg = 0 from by decide]; omega) (by rw [show (0 : Int32).toNatClampNeg = 0 from by decide]; omega) (fun _ _ => rfl) (by show 1 ≤ d + 1; omega) (xcp_room hW) hd (fun H1 locs1 hP1 hD1 hS1 => kk p e s m args below meth c A H1 locs1 la C hP1 hD1 hS1 hl)
theorem r_dupx1 {u v : Value} (hd : decode I.2.1 pc = .ok (.dup_x1, 1)) (hu : u.category = 1) (hv : v.category = 1) (kk : RR E I d mc ms Q w k n ls (u :: v :: u :: st) (pc + 1)) : RR E I d mc ms Q w k n ls (u :: v :: st) pc :=
  fun p e s m args below meth c A H locs la C hP hD hS hl => lv_dup_x1 C.1.1 C.1.2.1 hd hu hv (kk p e s m args below meth c A H locs la C hP hD hS hl)
theorem r_acmp_ne0 {a : Nat} {off : Int} {tgt : Nat} (hd : decode I.2.1 pc = .ok (.if_acmp .ne off, 3)) (ht : (pc : Int) + off = (tgt : Int)) (kk : RR E I d mc ms Q w k n ls st (pc + 3)) : RR E I d mc ms Q w k n ls (.ref a :: .ref a :: st) pc :=
  fun p e s m args below meth c A H locs la C hP hD hS hl => lv_acmp_ne (rx := some a) (ry := some a) C.1.1 C.1.2.1 hd ht (fun h => absurd rfl h) (fun _ => kk p e s m args below meth c A H locs la C hP hD hS hl)
theorem r_acmp_eq1 {a : Nat} {off : Int} {tgt : Nat} (hd : decode I.2.1 pc = .ok (.if_acmp .eq off, 3)) (ht : (pc : Int) + off = (tgt : Int)) (kk : RR E I d mc ms Q w k n ls st tgt) : RR E I d mc ms Q w k n ls (.ref a :: .ref a :: st) pc :=
  fun p e s m args below meth c A H locs la C hP hD hS hl => lv_acmp_eq (rx := some a) (ry := some a) C.1.1 C.1.2.1 hd ht (fun _ => kk p e s m args below meth c A H locs la C hP hD hS hl) (fun h => absurd rfl h)
theorem r_ldcM {z mi : Nat} (hE : EOq E z mi) (hI : I.1.cls = RJ7) (hd : decode I.2.1 pc = .ok (.ldc 110, 2)) (kk : RR E I d mc ms Q w k n ls (.ref mi :: st) (pc + 2)) : RR E I d mc ms Q w k n ls st pc :=
  fun p e s m args below meth c A H locs la C hP hD hS hl => va_ldcM C.1.1 C.1.2.1 C.1.2.2.2.1 (C.1.2.2.2.2 _ (by rw [hI]; exact w4_208)) (hE A s C.2.2.2.2.2.2.1).2.2.2.2.1 hd (kk p e s m args below meth c A H locs la C hP hD hS hl)
theorem r_getC {z mi q0 a N : Nat} {f : Nat → Option Nat} (hE : EOq E z mi) (ha : w[q0]? = some (a, .inl (E.2.2.1 4, N, .inr (.inr (.inr (.inr f)))))) (hI : I.1.cls = RJ7) (hW : (st.map fun v => v.category).sum ≤ 8) (hd : decode I.2.1 pc = .ok (.invokevirtual 86, 3)) (kk : RR E I (d + 1) mc ms Q w k n ls (.ref mi :: st) (pc + 3)) : RR E I (d + 1) mc ms Q w k n ls (.ref a :: st) pc := by
  intro p e s m args below meth c A H locs la C hP hD hS hl
  obtain ⟨kA, comp, k1, k2, k3, k4⟩ := (C.2.2.2.2.1.2 4 _ rfl).2
  have e4 : "[" ++ (FieldType.object "java/lang/Object").toString = "[Ljava/lang/Object;" := by decide +kernel
  rw [e4] at k4
  refine va_getC (C := "[Ljava/lang/Object;") C.1.1 C.1.2.1 (C.1.2.2.1.trans hl.1.symm) C.1.2.2.2.1 (C.1.2.2.2.2 _ (by rw [hI]; exact w4_187)) (va_Dc.use (hE A s C.2.2.2.2.2.2.1).2.2.2.1) (C.1.2.2.2.2 _ w10_2) (C.1.2.2.2.2 _ w4_188) (C.1.2.2.2.2 _ w4_204) (hE A s C.2.2.2.2.2.2.1).2.2.2.2.1 ⟨_, hP q0 _ ha, rfl, k4⟩ (by show 1 ≤ d + 1; omega) (by show _ ≤ 64 * (d + 1); omega) hd (kk p e s m args below meth c A H locs la C hP hD hS hl)
theorem r_astQ (hB : EOr E) {q0 qk a v N : Nat} {f : Nat → Option Nat} {vs : List Value} {i : Int32} (ha : w[q0]? = some (a, .inl (E.2.2.1 4, N, .inr (.inr (.inr (.inr f)))))) (hv : w[qk]? = some (v, .inr (8, vs))) (hb : vp_in i N) {w2 : va_W} (hw2 : w.set q0 (a, .inl (E.2.2.1 4, N, .inr (.inr (.inr (.inr (va_up f i.toNatClampNeg (some v))))))) = w2) (hd : decode I.2.1 pc = .ok (.aastore, 1)) (kk : RR E I d mc ms Q w2 k n ls st (pc + 1)) : RR E I d mc ms Q w k n ls (.ref v :: .int i :: .ref a :: st) pc :=
  fun p e s m args below meth c A H locs la C hP hD hS hl => va_astqO (D := E.2.1) (E := "java/lang/Object") (r := (RX7, TX7, 5)) C.1.1 C.1.2.1 C.2.2.2.2.1 hP hD hS q0 4 qk 8 ha rfl (hB A s C.2.2.2.2.2.2.1).2 hv rfl hb hd (fun H locs hP hD hS => by subst hw2; exact kk p e s m args below meth c A H locs la C hP hD hS hl)
theorem r_copyQ (hB : EOr E) {q0 q1 a0 a n0 n1 : Nat} {f g : Nat → Option Nat} {z : Int32} (ha0 : w[q0]? = some (a0, .inl (E.2.2.1 4, n0, .inr (.inr (.inr (.inr f)))))) (ha1 : w[q1]? = some (a, .inl (E.2.2.1 4, n1, .inr (.inr (.inr (.inr g)))))) (hI : I.1.cls = RJ7) (h3 : ¬ z < 0) (h4 : z.toNatClampNeg ≤ n0) (h5 : z.toNatClampNeg ≤ n1) (hel : ∀ i, i < z.toNatClampNeg → ∀ y, f i = some y → ∃ (j : Nat) (vs : List Value), w[j]? = some (y, .inr (8, vs))) (hW : (st.map fun v => v.category).sum ≤ 8) (hd : decode I.2.1 pc = .ok (.invokestatic 150, 3)) (kk : RR E I (d + 1) mc ms Q (w.set q1 (a, .inl (E.2.2.1 4, n1, .inr (.inr (.inr (.inr (va_cpy f g 0 0 z.toNatClampNeg))))))) k n ls st (pc + 3)) : RR E I (d + 1) mc ms Q w k n ls (.int z :: .int 0 :: .ref a :: .int 0 :: .ref a0 :: st) pc := by
  intro p e s m args below meth c A H locs la C hP hD hS hl
  have h0 : (0 : Int32).toNatClampNeg = 0 := by decide
  have hc8 : vwCl[8]? = some (RX7, TX7, 5) := rfl
  refine va_copyq (D := E.2.1) (E0 := "java/lang/Object") (E1 := "java/lang/Object") (C := RX7) C.1.1 C.1.2.1 (C.1.2.2.1.trans hl.1.symm) C.1.2.2.2.1 (C.1.2.2.2.2 _ (by rw [hI]; exact w4_131)) (C.1.2.2.2.2 _ w4_133) (C.1.2.2.2.2 _ w4_132) (C.1.2.2.2.2 _ w1_20) C.2.2.2.2.1 hP hD hS q0 q1 4 4 ha0 ha1 rfl rfl (by decide) (by decide) h3 (by rw [h0]; omega) (by rw [h0]; omega) ?_ ?_ (by show 1 ≤ d + 1; omega) (xcp_room hW) hd (fun H1 locs1 hP1 hD1 hS1 => kk p e s m args below meth c A H1 locs1 la C hP1 hD1 hS1 hl)
  · intro i hi y hy
    rw [h0, Nat.zero_add] at hy
    obtain ⟨j, vs, hj⟩ := hel i hi y hy
    obtain ⟨r', hr', cellV, g1, g2, g3, -⟩ := hP j _ hj
    have hcls := (C.2.2.2.2.1.1 8 _ hc8).2
    exact ⟨cellV, g1, by rw [g3]; rfl, by rw [g2]; exact hcls.1⟩
  · intro comp c0 e1 e2
    obtain ⟨c1, t1, f1, f2, f3⟩ := Cond.castable_spec (va_Nw.use (A := args) rfl (hB A s C.2.2.2.2.2.2.1).2)
    cases e2.symm.trans f1
    cases e1.symm.trans f2
    exact f3
end CP
