/-! the reference's conditions: brackets and nots -/
theorem cn_close {E : EvT} {q : Nat → Nat} {d : Nat} {M N : StM} {L : Nat} {bt : Nat → Nat} {P : Bool → StM → Prop} (hb : MB M L bt) {o p : Nat} {C : List Ins} {W : List (Nat × Nat)} (h : LY M L 2 p (o + 1) C ((13, 0) :: W) N) (hW : HC W) (n1 : ¬ ch L bt p = 38) (n2 : ¬ ch L bt p = 124) (h1 : ch L bt p = 41 → ∀ N', MC M L (p + 1) o C W N' → (¬ W.length = 0 → EX E q d P N') ∧ (W.length = 0 → P true N')) (h2 : ¬ ch L bt p = 41 → ∀ N', FLs M (1, p) N' → P false N') : T_readsCondition_73 E q (d + 6) P N := by
  have hL := hb.2.1
  obtain ⟨b1, b2, b3, b4⟩ := h.b hb
  refine sg_readsCondition_73 ⟨b2, ?_⟩
  by_cases z : ch L bt p = 41
  · have pl := ch_lt z (by omega)
    rw [b1, show pkI L bt p = 41 from (mb_ch (c := 41) hb (by omega)).mpr z]
    refine ⟨fun y => absurd rfl y, fun _ => ?_⟩
    refine h.land (k := 2) hL (by omega) (hW.cons (by omega) (by omega)) (fun e he => by cases he; show ¬ 13 = 10 ∧ ¬ 13 = 11 ∧ (2 = 2 → ¬ 13 = 12); decide) (fun N1 m1 => ?_)
    have hwl := m1.2.2.1
    rw [List.length_cons] at hwl
    have m2 := m1.lz.pop pl
    rw [pdW_nf rfl] at m2
    have m3 := m2.mc (m1.2.2.2.2.2 rfl)
    have ew : s_waiting N1 - 1 = nI W.length := by
      obtain ⟨⟨nu, sd, wt, rfl, -, -⟩, -⟩ := m1
      show nI (W.length + 1) - 1 = _
      rw [nI_p']
    obtain ⟨k1, k2⟩ := h1 z _ m3
    refine ⟨fun y => (k1 (fun w => y (by rw [ew, w]; rfl))).2.1, fun y => k2 ?_⟩
    rw [ew] at y
    exact (nI_eq (b := 0) (by omega) (by omega)).mp y
  · have f : ∀ c, c < 256 → ¬ ch L bt p = c → ¬ pkI L bt p = nI c := fun c hc z y => z ((mb_ch hb hc).mp y)
    rw [b1, b4]
    obtain ⟨pd, W', hm⟩ := h.ms
    exact ⟨fun _ => ⟨fun y => absurd y (f 38 (by omega) n1), fun _ => ⟨fun y => absurd y (f 124 (by omega) n2), fun _ => ms_wrong hm (k := 1) (p' := p) (h2 z)⟩⟩, fun y => absurd y (f 41 (by omega) z)⟩
theorem cn_5 {E : EvT} {q : Nat → Nat} {d : Nat} {M : StM} {L : Nat} {bt : Nat → Nat} {P : Bool → StM → Prop} (hb : MB M L bt) {f : Nat} (i5 : CPc E q d M L bt P f) (i9 : CAe E q d M L bt P f 9 2) : CPc E q d M L bt P (f + 1) := by
  intro o p C W N h ho hW hw h9 h1 h2
  have hL := hb.2.1
  rw [pz] at h9 h1 h2
  obtain ⟨b1, b2, b3, b4⟩ := h.lz.b hb
  obtain ⟨hm, a2, a3, a1, hf⟩ := h
  refine sg_readsCondition_21 ⟨b2, ?_⟩
  by_cases z : ch L bt p = 33
  · have pl := ch_lt z (by omega)
    rw [if_pos z] at h9 h1 h2
    rw [b1, show pkI L bt p = 33 from (mb_ch (c := 33) hb (by omega)).mpr z]
    refine ⟨fun _ => ⟨fun y => absurd rfl y, fun _ => ?_⟩, fun y => absurd rfl y⟩
    refine ms_opens (k := 10) hm ho (by omega) (fun y N1 m1 => ⟨fun _ => ?_, (fun x => nomatch x)⟩) (fun y N1 hN => ⟨(fun x => nomatch x), fun _ => ?_⟩)
    · rw [if_neg y] at h9 h1 h2
      have m2 : MC M L (p + 1) (o + 1) C ((10, 0) :: W) N1 := MC.push rfl m1 rfl (by omega) (by omega) (by omega) hf
      refine i5 (o + 1) (p + 1) C _ N1 m2 (by omega) (hW.cons (by omega) (by omega)) (by rw [List.length_cons]; omega) (bnd9 h9).1 (fun p' s N' e l g => ?_) (fun x e => h2 x (by rw [e]; rfl))
      refine ex_not l hL hW (by omega) (fun N3 m3 => ?_)
      have ea : C ++ s ++ [(10, 0)] = C ++ (s ++ [(10, 0)]) := by simp
      have el : (C ++ s ++ [(10, 0)]).length = (C ++ s).length + 1 := by rw [List.length_append (as := C ++ s)]; rfl
      rw [ea] at m3 el
      exact h1 p' (s ++ [(10, 0)]) N3 (by rw [e]; rfl) m3 (by omega)
    · rw [if_pos y] at h2
      exact h2 _ rfl N1 hN
  · rw [if_neg z] at h9 h1 h2
    have n33 : ¬ pkI L bt p = 33 := fun y => z ((mb_ch (c := 33) hb (by omega)).mp y)
    rw [b1]
    refine ⟨fun y => absurd y n33, fun _ => ?_⟩
    by_cases z2 : ch L bt p = 40
    · have pl := ch_lt z2 (by omega)
      rw [if_pos z2] at h9 h1 h2
      rw [show pkI L bt p = 40 from (mb_ch (c := 40) hb (by omega)).mpr z2]
      refine ⟨fun y => absurd rfl y, fun _ => ⟨fun _ => ?_, fun y => absurd y (by decide)⟩⟩
      refine ms_opens (k := 13) hm ho (by omega) (fun y N1 m1 => ⟨fun _ => ?_, (fun x => nomatch x)⟩) (fun y N1 hN => ⟨(fun x => nomatch x), fun _ => ?_⟩)
      · rw [if_neg y] at h9 h1 h2
        have m2 : MC M L (p + 1) (o + 1) C ((13, 0) :: W) N1 := MC.push rfl m1 rfl (by omega) (by omega) (by omega) hf
        refine i9 (o + 1) (p + 1) C _ N1 m2 (by omega) (hW.cons (by omega) (by omega)) (fun e he => by cases he; show ¬ 13 = 10 ∧ ¬ 13 = 11 ∧ (2 = 2 → ¬ 13 = 12); decide) (by rw [List.length_cons]; omega) (bnd9 h9).1 (fun p' s N' e l g => ?_) (fun x e => h2 x (by rw [e]; rfl))
        obtain ⟨n1, n2⟩ := (pz_e _ _ _ _ _ _ _ e).2.2.2.2.2 rfl
        refine cn_close hb l hW n1 n2 (fun y N3 m3 => ⟨fun _ => h1 (p' + 1) s N3 (by rw [e]; show clsR _ _ _ _ _ = _; rw [clsR, if_pos y]) m3 (by omega), fun y => absurd y hw⟩) (fun y N3 hN => h2 (1, p') (by rw [e]; show clsR _ _ _ _ _ = _; rw [clsR, if_neg y]) N3 hN)
      · rw [if_pos y] at h2
        exact h2 _ rfl N1 hN
    · rw [if_neg z2] at h9 h1 h2
      have n40 : ¬ pkI L bt p = 40 := fun y => z2 ((mb_ch (c := 40) hb (by omega)).mp y)
      exact ⟨fun _ => cn_c hb ⟨hm, a2, a3, a1, hf⟩ ho hW h9 h1 h2, fun y => absurd y n40⟩
theorem cn_all {E : EvT} {q : Nat → Nat} {d : Nat} {M : StM} {L : Nat} {bt : Nat → Nat} {P : Bool → StM → Prop} (hb : MB M L bt) : ∀ f, CPc E q d M L bt P f ∧ CRe E q d M L bt P f 6 1 ∧ CAe E q d M L bt P f 7 1 ∧ CRe E q d M L bt P f 8 2 ∧ CAe E q d M L bt P f 9 2 := by
  intro f
  induction f with
  | zero => exact ⟨fun o p C W N _ _ _ _ h9 => absurd (by rw [pz]) h9, fun o p C acc W N _ _ _ _ _ h9 => absurd (by rw [pz]) h9, fun o p C W N _ _ _ _ _ h9 => absurd (by rw [pz]) h9, fun o p C acc W N _ _ _ _ _ h9 => absurd (by rw [pz]) h9, fun o p C W N _ _ _ _ _ h9 => absurd (by rw [pz]) h9⟩
  | succ f ih =>
    obtain ⟨i5, i6, i7, i8, i9⟩ := ih
    exact ⟨cn_5 hb i5 i9, cn_6 hb i5 i6, cn_7 hb i5 i6, cn_8 hb i7 i8, cn_9 i7 i8⟩
