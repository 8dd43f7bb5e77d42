/-! the reference's pieces -/
theorem cOp_e {c : Nat} (h : ¬ cOp c = 0) : (c = 60 ∧ cOp c = 7) ∨ (c = 62 ∧ cOp c = 8) ∨ (c = 61 ∧ cOp c = 9) := by
  rw [cOp] at h ⊢
  split at h
  · next z => exact Or.inl ⟨z, if_pos z⟩
  · split at h
    · next y z => exact Or.inr (Or.inl ⟨z, by rw [if_neg y, if_pos z]⟩)
    · split at h
      · next x y z => exact Or.inr (Or.inr ⟨z, by rw [if_neg x, if_neg y, if_pos z]⟩)
      · exact absurd rfl h
theorem cn_c {E : EvT} {q : Nat → Nat} {d : Nat} {M : StM} {L : Nat} {bt : Nat → Nat} {P : Bool → StM → Prop} (hb : MB M L bt) {f o p : Nat} {C : List Ins} {W : List (Nat × Nat)} {N : StM} (h : MC M L p o C W N) (ho : o ≤ 6) (hW : HC W) (h9 : bndR (pz L bt f 4 o p []) (fun p1 s1 => if cOp (ch L bt p1) = 0 then .inl (1, p1) else bndR (pz L bt f 4 o (p1 + 1) []) (fun p2 s2 => .inr (p2, s1 ++ (s2 ++ [(cOp (ch L bt p1), 0)])))) ≠ .inl (9, 0)) (h1 : ∀ p' s N', bndR (pz L bt f 4 o p []) (fun p1 s1 => if cOp (ch L bt p1) = 0 then .inl (1, p1) else bndR (pz L bt f 4 o (p1 + 1) []) (fun p2 s2 => .inr (p2, s1 ++ (s2 ++ [(cOp (ch L bt p1), 0)])))) = .inr (p', s) → MC M L p' o (C ++ s) W N' → (C ++ s).length + p ≤ C.length + p' → EX E q d P N') (h2 : ∀ x, bndR (pz L bt f 4 o p []) (fun p1 s1 => if cOp (ch L bt p1) = 0 then .inl (1, p1) else bndR (pz L bt f 4 o (p1 + 1) []) (fun p2 s2 => .inr (p2, s1 ++ (s2 ++ [(cOp (ch L bt p1), 0)])))) = .inl x → ∀ N', FLs M x N' → P false N') : C_readsCompared E q (d + 5) N (fun r11 S12 => (r11 = true → (T_readsCondition_73 E q (d + 6) P S12)) ∧ (r11 = false → (P false S12))) := by
  have hL := hb.2.1
  refine en_readsCompared ?_
  refine rs_sum hb h.lz ho hW.hw (hW.hd 2) (bnd9 h9).1 (fun p1 s1 N1 e1 l1 g1 => ⟨fun _ => ?_, (fun x => nomatch x)⟩) (fun x ex N' hN => ⟨(fun x => nomatch x), fun _ => ⟨(fun x => nomatch x), fun _ => h2 x (by rw [ex]; rfl) N' hN⟩⟩)
  have h9b : (if cOp (ch L bt p1) = 0 then (.inl (1, p1) : PR) else bndR (pz L bt f 4 o (p1 + 1) []) (fun p2 s2 => .inr (p2, s1 ++ (s2 ++ [(cOp (ch L bt p1), 0)])))) ≠ .inl (9, 0) := (bnd9 h9).2 _ _ e1
  rw [e1] at h1 h2
  have h1 : ∀ p' s N', (if cOp (ch L bt p1) = 0 then (.inl (1, p1) : PR) else bndR (pz L bt f 4 o (p1 + 1) []) (fun p2 s2 => .inr (p2, s1 ++ (s2 ++ [(cOp (ch L bt p1), 0)])))) = .inr (p', s) → MC M L p' o (C ++ s) W N' → (C ++ s).length + p ≤ C.length + p' → EX E q d P N' := h1
  have h2 : ∀ x, (if cOp (ch L bt p1) = 0 then (.inl (1, p1) : PR) else bndR (pz L bt f 4 o (p1 + 1) []) (fun p2 s2 => .inr (p2, s1 ++ (s2 ++ [(cOp (ch L bt p1), 0)])))) = .inl x → ∀ N', FLs M x N' → P false N' := h2
  obtain ⟨b1, b2, b3, b4⟩ := l1.b hb
  have snd : ∀ op, (7 ≤ op ∧ op ≤ 9) → cOp (ch L bt p1) = op → p1 < L → C_readsSum E q (d + 4) (sI N1 29 (s_place0 N1 + 1)) (fun r S => (r = true → C_says E q (d + 4) (nI op) 0 S (fun S16 => C_endsPiece E q (d + 4) S16 (fun S18 => (true = true → T_readsCondition_73 E q (d + 6) P S18) ∧ (true = false → P false S18)))) ∧ (r = false → ((false = true → T_readsCondition_73 E q (d + 6) P S) ∧ (false = false → P false S)))) := by
    intro op hop ec pl
    have hpl := l1.pl
    have nz : ¬ op = 0 := by omega
    rw [ec, if_neg nz] at h9b h1 h2
    have l' : LZ M L (pdW W) 0 (p1 + 1) o (C ++ s1) W (sI N1 29 (s_place0 N1 + 1)) := l1.zero.1.adv.lz (by omega) (by omega) (by omega) l1.zero.2
    refine rs_sum hb l' ho hW.hw (hW.hd 2) (bnd9 h9b).1 (fun p2 s2 N2 e2 l2 g2 => ⟨fun _ => ?_, (fun x => nomatch x)⟩) (fun x ex N' hN => ⟨(fun x => nomatch x), fun _ => ⟨(fun x => nomatch x), fun _ => h2 x (by rw [ex]; rfl) N' hN⟩⟩)
    have hpl2 := l2.pl
    refine l2.says (i := (op, 0)) hL (by show op ≤ 10; omega) (fun N3 m3 => ?_)
    have ea : C ++ s1 ++ s2 ++ [(op, 0)] = C ++ (s1 ++ (s2 ++ [(op, 0)])) := by simp
    have el : (C ++ s1 ++ s2 ++ [(op, 0)]).length = (C ++ s1 ++ s2).length + 1 := by rw [List.length_append (as := C ++ s1 ++ s2)]; rfl
    have ec2 : C.length ≤ (C ++ (s1 ++ (s2 ++ [(op, 0)]))).length := by rw [List.length_append]; omega
    rw [ea] at m3 el
    exact (h1 p2 (s1 ++ (s2 ++ [(op, 0)])) N3 (by rw [e2]; rfl) ⟨m3, by omega, by omega, by omega, h.2.2.2.2.mono ec2⟩ (by omega)).1.1
  refine ⟨b2, ?_⟩
  rw [b1, b4]
  rw [b4] at snd
  by_cases z : cOp (ch L bt p1) = 0
  · have n60 : ¬ pkI L bt p1 = 60 := fun y => by rw [(mb_ch (c := 60) hb (by omega)).mp y] at z; cases z
    have n62 : ¬ pkI L bt p1 = 62 := fun y => by rw [(mb_ch (c := 62) hb (by omega)).mp y] at z; cases z
    have n61 : ¬ pkI L bt p1 = 61 := fun y => by rw [(mb_ch (c := 61) hb (by omega)).mp y] at z; cases z
    rw [if_pos z] at h2
    exact ⟨fun _ => ⟨fun _ => ⟨fun _ => ms_wrong l1.zero.1 (k := 1) (p' := p1) (fun N' hN => ⟨(fun x => nomatch x), fun _ => h2 _ rfl N' hN⟩), fun y => absurd y n61⟩, fun y => absurd y n62⟩, fun y => absurd y n60⟩
  · rcases cOp_e z with ⟨c1, c2⟩ | ⟨c1, c2⟩ | ⟨c1, c2⟩
    · have pl := ch_lt c1 (by omega)
      rw [show pkI L bt p1 = 60 from (mb_ch (c := 60) hb (by omega)).mpr c1]
      exact ⟨fun y => absurd rfl y, fun _ => snd 7 (by omega) c2 pl⟩
    · have pl := ch_lt c1 (by omega)
      rw [show pkI L bt p1 = 62 from (mb_ch (c := 62) hb (by omega)).mpr c1]
      exact ⟨fun _ => ⟨fun y => absurd rfl y, fun _ => snd 8 (by omega) c2 pl⟩, fun y => absurd y (by decide)⟩
    · have pl := ch_lt c1 (by omega)
      rw [show pkI L bt p1 = 61 from (mb_ch (c := 61) hb (by omega)).mpr c1]
      exact ⟨fun _ => ⟨fun _ => ⟨fun y => absurd rfl y, fun _ => snd 9 (by omega) c2 pl⟩, fun y => absurd y (by decide)⟩, fun y => absurd y (by decide)⟩
