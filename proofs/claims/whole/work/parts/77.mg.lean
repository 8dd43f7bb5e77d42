/-! the reference's sums: the descent -/
theorem MS.adv {M N : StM} {p o : Nat} {C : List Ins} {pd : Nat → Bool} {W : List (Nat × Nat)} (h : MS M p o C pd W N) : MS M (p + 1) o C pd W (sI N 29 (s_place0 N + 1)) := by
  obtain ⟨nu, sd, wt, rfl, hs, hw⟩ := h
  refine ⟨nu, sd, wt, ?_, hs, hw⟩
  show sI (mRd M p nu o C.length W.length sd wt) 29 (nI p + 1) = _
  rw [nI_s, mRd_29]
theorem HW.cons {t : Nat} {W : List (Nat × Nat)} (h : HW W) (ht : t ≤ 14) : HW ((t, 0) :: W) := by
  intro e he
  rw [List.mem_cons] at he
  rcases he with rfl | he
  · exact ⟨ht, Nat.zero_lt_succ _⟩
  · exact h e he
theorem rs_0 {E : EvT} {q : Nat → Nat} {d : Nat} {M : StM} {L : Nat} {bt : Nat → Nat} {pd : Nat → Bool} {base : Nat} {P : Bool → StM → Prop} (hb : MB M L bt) {f : Nat} (ih : RA E q d M L bt pd base P f 4 2) : RA E q d M L bt pd base P (f + 1) 0 0 := by
  intro o p C W N h hbs ho hW hd h9 h1 h2
  have hL := hb.2.1
  rw [pz] at h9 h1 h2
  obtain ⟨b1, b2, b3, b4⟩ := h.b hb
  obtain ⟨a1, a2, a3⟩ := h.pl
  obtain ⟨hm, hpd⟩ := h.zero
  refine (fun F => ⟨sg_readsFactor_0 F, en_readsFactor F⟩) ?_
  rw [b1, b3, b4]
  refine ⟨b4 ▸ b2, fun z => ?_, fun z => ?_⟩
  · have z' : ¬ ch L bt p = 91 := fun y => z ((mb_ch (c := 91) hb (by omega)).mpr y)
    rw [if_neg z'] at h9 h1 h2
    refine ⟨fun y => ⟨fun w => ?_, fun w => ?_⟩, fun y => ?_⟩
    · have hf : fctN (ch L bt p) < 5 := Decidable.byContradiction (fun x => w (ff_0 hb x))
      rw [if_pos hf] at h1
      obtain ⟨f1, f2, f3⟩ := ff_t hb hf
      rw [f1]
      refine h.says (i := (1, fctN (ch L bt p))) hL (Nat.le_of_ble_eq_true rfl) (fun N' h' => ⟨fun _ => h1 _ _ _ rfl (h'.adv.lz ?_ (by omega) (by omega) (fun j hj => hpd j ?_)) ?_, (fun x => nomatch x)⟩)
      · rw [List.length_append]; show C.length + 1 ≤ _; omega
      · rw [List.length_append] at hj; omega
      · rw [List.length_append]; show C.length + 1 + p ≤ _; omega
    · have hf : ¬ fctN (ch L bt p) < 5 := fun x => nI_ne1 (by omega) ((ff_t hb x).1.symm.trans w)
      rw [if_neg hf, rNum, if_neg (by rw [y]; decide)] at h2
      exact ms_wrong hm (k := 1) (p' := p) (fun N' hN => ⟨(fun x => nomatch x), fun _ => h2 _ rfl N' hN⟩)
    · have hf : ¬ fctN (ch L bt p) < 5 := fun x => by rw [(ff_t hb x).2.2] at y; cases y
      rw [if_neg hf] at h1 h2
      obtain ⟨nu, sd, wt, rfl, hs, hw⟩ := hm
      refine mr_num (most := 99999) hb (by omega) a1 (fun p' v hr => ⟨fun _ => ?_, (fun x => nomatch x)⟩) (fun x hr N' hN => ⟨(fun x => nomatch x), fun _ => ⟨(fun x => nomatch x), fun _ => ?_⟩⟩)
      · rw [hr] at h1
        obtain ⟨r1, r2, r3, r4⟩ := rNum_r hr a1
        have hm2 : MS M p' o C pd W (mRd M p' (nI v) o C.length W.length sd wt) := ⟨_, _, _, rfl, hs, hw⟩
        refine (hm2.lz (by omega) (by omega) r2 hpd).says (i := (0, v)) hL (Nat.zero_le _) (fun N' h' => ⟨fun _ => h1 _ _ _ rfl (h'.lz ?_ (by omega) (by omega) (fun j hj => hpd j ?_)) ?_, (fun x => nomatch x)⟩)
        · rw [List.length_append]; show C.length + 1 ≤ _; omega
        · rw [List.length_append] at hj; omega
        · rw [List.length_append]; show C.length + 1 + p ≤ _; omega
      · rw [hr] at h2
        exact h2 _ rfl N' hN
  · have z' : ch L bt p = 91 := (mb_ch hb (by omega)).mp z
    have pl := ch_lt z' (by omega)
    rw [if_pos z'] at h9 h1 h2
    refine ms_opens (k := 14) hm ho (by omega) (fun y N1 m1 => ⟨fun _ => ?_, (fun x => nomatch x)⟩) (fun y N1 hN => ⟨(fun x => nomatch x), fun _ => ⟨(fun x => nomatch x), fun _ => ?_⟩⟩)
    · rw [if_neg y] at h9 h1 h2
      refine (ih (o + 1) (p + 1) C ((14, 0) :: W) N1 (m1.lz (by omega) (by rw [List.length_cons]; omega) (by omega) hpd) (by rw [List.length_cons]; omega) (by omega) (hW.cons (by omega)) (fun _ e he => ?_) (bnd9 h9).1 (fun p1 s1 N2 e1 l1 g1 => ?_) (fun x e => h2 x (by rw [e]; rfl))).1
      · cases he
        intro c
        rcases c with c | c <;> omega
      · obtain ⟨t0, s0⟩ := (pz_e _ _ _ _ _ _ _ e1).2.2.1 rfl
        obtain ⟨c1, c2, c3, c4⟩ := l1.b hb
        refine sg_readsSum_14 ⟨c2, ?_⟩
        rw [c1, ss_0 hb t0 s0]
        have l1' := l1
        obtain ⟨U, C0, -, -, ms, -, hlen, hpL, -⟩ := l1'
        have hlw : (U ++ (14, 0) :: W).length < 180 := by rw [List.length_append]; omega
        refine ⟨fun _ => ⟨fun y => ?_, fun y => ?_⟩, fun z => absurd rfl z⟩
        · have y' : ¬ ch L bt p1 = 93 := fun x => y ((mb_ch (c := 93) hb (by omega)).mpr x)
          refine ms_hos_t ms hbs hlw ⟨(fun x => nomatch x), fun _ => ?_⟩
          rw [c4]
          refine ms_wrong ms (k := 1) (p' := p1) (fun N3 hN => ?_)
          exact h2 (1, p1) (by rw [e1]; show clsR _ _ _ _ _ = _; rw [clsR, if_neg y']) N3 hN
        · have y' : ch L bt p1 = 93 := (mb_ch hb (by omega)).mp y
          refine ms_hos_t ms hbs hlw ⟨(fun x => nomatch x), fun _ => ?_⟩
          refine l1.close (by omega) (by omega) hL (hW.cons (by omega)) (fun _ e he => ?_) (fun N3 l3 => ?_)
          · cases he
            intro c
            rcases c with c | c <;> omega
          · exact h1 (p1 + 1) s1 _ (by rw [e1]; show clsR _ _ _ _ _ = _; rw [clsR, if_pos y']) (l3.pop (ch_lt y' (by omega))) (by omega)
    · rw [if_pos y] at h2
      exact h2 _ rfl N1 hN
theorem rs_1 {E : EvT} {q : Nat → Nat} {d : Nat} {M : StM} {L : Nat} {bt : Nat → Nat} {pd : Nat → Bool} {base : Nat} {P : Bool → StM → Prop} (hb : MB M L bt) {f : Nat} (i0 : RA E q d M L bt pd base P f 0 0) (i1 : RR1 E q d M L bt pd base P f 1 1) : RR1 E q d M L bt pd base P (f + 1) 1 1 := by
  intro o p C acc W N h hbs ho hW hd h9 h1 h2
  have hL := hb.2.1
  rw [pz] at h9 h1 h2
  by_cases z : tOp (ch L bt p) = 0
  · rw [if_pos z] at h1
    exact h1 p acc N rfl h (Nat.le_refl _)
  · rw [if_neg z] at h9 h1 h2
    obtain ⟨t1, t2, pl⟩ := ss_t hb z
    obtain ⟨c1, c2, c3, c4⟩ := h.b hb
    refine sg_readsSum_14 ⟨c2, ?_⟩
    rw [c1, t1]
    refine ⟨fun y => absurd y (nI_ne1 (by omega)), fun _ => ⟨fun _ => ?_, fun y => absurd ((nI_leI (a := 4) (by omega) (by omega)).mpr t2.1) y⟩⟩
    refine h.close (by omega) (by omega) hL hW hd (fun N1 l1 => ?_)
    obtain ⟨w1, l2⟩ := l1.push (t := tOp (ch L bt p)) hL pl
    refine ⟨w1, (i0 o (p + 1) (C ++ acc) _ _ l2 (by rw [List.length_cons]; omega) ho (hW.cons (by omega)) (fun x => by omega) (bnd9 h9).1 (fun p' s N' e l g => ?_) (fun x e => h2 x (by rw [e]; rfl))).2⟩
    have ea : C ++ (acc ++ (s ++ [(tOp (ch L bt p), 0)])) = C ++ acc ++ s ++ [(tOp (ch L bt p), 0)] := by simp
    have hc := h.pl
    have gl : (C ++ acc ++ s).length < p' := by omega
    refine i1 o p' C _ W N' (by rw [ea]; exact l.sign (by omega) (Or.inl ⟨by omega, t2⟩) gl) hbs ho hW hd ((bnd9 h9).2 _ _ e) (fun p2 s2 N2 e2 l2 g2 => h1 p2 s2 N2 (by rw [e]; exact e2) l2 ?_) (fun x ex => h2 x (by rw [e]; exact ex))
    rw [ea, List.length_append (as := C ++ acc ++ s)] at g2
    have g2 : (C ++ s2).length + p' ≤ (C ++ acc ++ s).length + 1 + p2 := g2
    omega
theorem rs_2 {E : EvT} {q : Nat → Nat} {d : Nat} {M : StM} {L : Nat} {bt : Nat → Nat} {pd : Nat → Bool} {base : Nat} {P : Bool → StM → Prop} {f : Nat} (i0 : RA E q d M L bt pd base P f 0 0) (i1 : RR1 E q d M L bt pd base P f 1 1) : RA E q d M L bt pd base P (f + 1) 2 1 := by
  intro o p C W N h hbs ho hW hd h9 h1 h2
  rw [pz] at h9 h1 h2
  exact i0 o p C W N h hbs ho hW (fun x => by omega) (bnd9 h9).1 (fun p' s N' e l g => i1 o p' C s W N' (l.up (by omega)) hbs ho hW hd ((bnd9 h9).2 _ _ e) (fun p2 s2 N2 e2 l2 g2 => h1 p2 s2 N2 (by rw [e]; exact e2) l2 (by omega)) (fun x ex => h2 x (by rw [e]; exact ex))) (fun x e => h2 x (by rw [e]; rfl))
theorem rs_3 {E : EvT} {q : Nat → Nat} {d : Nat} {M : StM} {L : Nat} {bt : Nat → Nat} {pd : Nat → Bool} {base : Nat} {P : Bool → StM → Prop} (hb : MB M L bt) {f : Nat} (i2 : RA E q d M L bt pd base P f 2 1) (i3 : RR1 E q d M L bt pd base P f 3 2) : RR1 E q d M L bt pd base P (f + 1) 3 2 := by
  intro o p C acc W N h hbs ho hW hd h9 h1 h2
  have hL := hb.2.1
  rw [pz] at h9 h1 h2
  by_cases z : sOp (ch L bt p) = 0
  · rw [if_pos z] at h1
    exact h1 p acc N rfl h (Nat.le_refl _)
  · rw [if_neg z] at h9 h1 h2
    obtain ⟨t1, t2, pl⟩ := ss_s hb z
    obtain ⟨c1, c2, c3, c4⟩ := h.b hb
    refine sg_readsSum_14 ⟨c2, ?_⟩
    rw [c1, t1]
    refine ⟨fun y => absurd y (nI_ne1 (by omega)), fun _ => ⟨fun y => ?_, fun _ => ?_⟩⟩
    · have := (nI_leI (a := 4) (by omega) (by omega)).mp y
      omega
    refine h.close (by omega) (by omega) hL hW hd (fun N1 l1 => ?_)
    obtain ⟨w1, l2⟩ := l1.push (t := sOp (ch L bt p)) hL pl
    refine ⟨w1, (i2 o (p + 1) (C ++ acc) _ _ l2 (by rw [List.length_cons]; omega) ho (hW.cons (by omega)) (fun _ e he => ?_) (bnd9 h9).1 (fun p' s N' e l g => ?_) (fun x e => h2 x (by rw [e]; rfl))).2⟩
    · cases he
      intro c
      rcases c with c | c
      · have c : 4 ≤ sOp (ch L bt p) ∧ _ := c
        omega
      · exact c.1 rfl
    have ea : C ++ (acc ++ (s ++ [(sOp (ch L bt p), 0)])) = C ++ acc ++ s ++ [(sOp (ch L bt p), 0)] := by simp
    have hc := h.pl
    have gl : (C ++ acc ++ s).length < p' := by omega
    refine i3 o p' C _ W N' (by rw [ea]; exact l.sign (by omega) (Or.inr ⟨by omega, by omega⟩) gl) hbs ho hW hd ((bnd9 h9).2 _ _ e) (fun p2 s2 N2 e2 l2 g2 => h1 p2 s2 N2 (by rw [e]; exact e2) l2 ?_) (fun x ex => h2 x (by rw [e]; exact ex))
    rw [ea, List.length_append (as := C ++ acc ++ s)] at g2
    have g2 : (C ++ s2).length + p' ≤ (C ++ acc ++ s).length + 1 + p2 := g2
    omega
theorem rs_4 {E : EvT} {q : Nat → Nat} {d : Nat} {M : StM} {L : Nat} {bt : Nat → Nat} {pd : Nat → Bool} {base : Nat} {P : Bool → StM → Prop} {f : Nat} (i2 : RA E q d M L bt pd base P f 2 1) (i3 : RR1 E q d M L bt pd base P f 3 2) : RA E q d M L bt pd base P (f + 1) 4 2 := by
  intro o p C W N h hbs ho hW hd h9 h1 h2
  rw [pz] at h9 h1 h2
  have hd1 : HD 1 W := fun _ e he c => hd (by omega) e he (c.elim Or.inl (fun c => absurd rfl c.1))
  exact i2 o p C W N h hbs ho hW hd1 (bnd9 h9).1 (fun p' s N' e l g => i3 o p' C s W N' (l.up (by omega)) hbs ho hW hd ((bnd9 h9).2 _ _ e) (fun p2 s2 N2 e2 l2 g2 => h1 p2 s2 N2 (by rw [e]; exact e2) l2 (by omega)) (fun x ex => h2 x (by rw [e]; exact ex))) (fun x e => h2 x (by rw [e]; rfl))
theorem rs_all {E : EvT} {q : Nat → Nat} {d : Nat} {M : StM} {L : Nat} {bt : Nat → Nat} {pd : Nat → Bool} {base : Nat} {P : Bool → StM → Prop} (hb : MB M L bt) : ∀ f, RA E q d M L bt pd base P f 0 0 ∧ RR1 E q d M L bt pd base P f 1 1 ∧ RA E q d M L bt pd base P f 2 1 ∧ RR1 E q d M L bt pd base P f 3 2 ∧ RA E q d M L bt pd base P f 4 2 := by
  intro f
  induction f with
  | zero => exact ⟨fun o p C W N h _ _ _ _ h9 => absurd (by rw [pz]) h9, fun o p C acc W N h _ _ _ _ h9 => absurd (by rw [pz]) h9, fun o p C W N h _ _ _ _ h9 => absurd (by rw [pz]) h9, fun o p C acc W N h _ _ _ _ h9 => absurd (by rw [pz]) h9, fun o p C W N h _ _ _ _ h9 => absurd (by rw [pz]) h9⟩
  | succ f ih =>
    obtain ⟨i0, i1, i2, i3, i4⟩ := ih
    exact ⟨rs_0 hb i4, rs_1 hb i0 i1, rs_2 i0 i1, rs_3 hb i2 i3, rs_4 i2 i3⟩
/-- a sum, whole -/
theorem rs_sum {E : EvT} {q : Nat → Nat} {d : Nat} {M N : StM} {L : Nat} {bt : Nat → Nat} {pd : Nat → Bool} {p o f : Nat} {C : List Ins} {W : List (Nat × Nat)} {P : Bool → StM → Prop} (hb : MB M L bt) (h : LZ M L pd 0 p o C W N) (ho : o ≤ 6) (hW : HW W) (hd : HD 2 W) (h9 : pz L bt f 4 o p [] ≠ .inl (9, 0)) (h1 : ∀ p' s N', pz L bt f 4 o p [] = .inr (p', s) → LZ M L pd 0 p' o (C ++ s) W N' → (C ++ s).length + p ≤ C.length + p' → P true N') (h2 : ∀ x, pz L bt f 4 o p [] = .inl x → ∀ N', FLs M x N' → P false N') : C_readsSum E q (d + 4) N P := by
  have hL := hb.2.1
  have hw : s_waiting N = nI W.length := by
    obtain ⟨⟨nu, sd, wt, rfl, -, -⟩, -⟩ := h.zero
    rfl
  refine en_readsSum ?_
  rw [hw]
  refine ((rs_all (base := W.length) hb f).2.2.2.2 o p C W N h (Nat.le_refl _) ho hW hd h9 (fun p' s N' e l g => ?_) h2).2
  obtain ⟨t0, s0⟩ := (pz_e _ _ _ _ _ _ _ e).2.2.1 rfl
  obtain ⟨c1, c2, c3, c4⟩ := l.b hb
  refine sg_readsSum_14 ⟨c2, ?_⟩
  rw [c1, ss_0 hb t0 s0]
  have l' := l
  obtain ⟨U, C0, -, u0, ms, -, hlen, hpL, -⟩ := l'
  have hlw : (U ++ W).length < 180 := by rw [List.length_append]; omega
  have fin : C_closesSums E q (d + 3) 1 N' (fun S8 => P true S8) := l.close (k := 2) (by omega) (by omega) hL hW hd (fun N3 l3 => h1 p' s N3 e l3 g)
  refine ⟨fun _ => ⟨fun y => ?_, fun y => ?_⟩, fun z => absurd rfl z⟩
  · exact ms_hos_f ms (uok_six u0) hlw ⟨fun _ => fin, (fun x => nomatch x)⟩
  · exact ms_hos_f ms (uok_six u0) hlw ⟨fun _ => ms_hos_f ms (uok_six u0) hlw ⟨fun _ => fin, (fun x => nomatch x)⟩, (fun x => nomatch x)⟩
