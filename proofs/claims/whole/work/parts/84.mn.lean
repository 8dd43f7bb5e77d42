/-! the reference's clause -/
def mCl (M : StM) (le fr to nn jj : Nat → Int32) (n : Nat) : StM := sI (sA (sA (sA (sA (sA M 39 le) 40 fr) 41 to) 42 nn) 43 jj) 36 (nI n)
theorem mCl_39 (M : StM) (le fr to nn jj x : Nat → Int32) (n : Nat) : sA (mCl M le fr to nn jj n) 39 x = mCl M x fr to nn jj n := by
  refine Prod.ext rfl ?_
  funext j
  simp only [mCl, sI, sA, va_up]
  by_cases e : j = 39
  · simp [e]
  · simp [e]
theorem mCl_40 (M : StM) (le fr to nn jj x : Nat → Int32) (n : Nat) : sA (mCl M le fr to nn jj n) 40 x = mCl M le x to nn jj n := by
  refine Prod.ext rfl ?_
  funext j
  simp only [mCl, sI, sA, va_up]
  by_cases e : j = 40
  · simp [e]
  · simp [e]
theorem mCl_41 (M : StM) (le fr to nn jj x : Nat → Int32) (n : Nat) : sA (mCl M le fr to nn jj n) 41 x = mCl M le fr x nn jj n := by
  refine Prod.ext rfl ?_
  funext j
  simp only [mCl, sI, sA, va_up]
  by_cases e : j = 41
  · simp [e]
  · simp [e]
theorem mCl_42 (M : StM) (le fr to nn jj x : Nat → Int32) (n : Nat) : sA (mCl M le fr to nn jj n) 42 x = mCl M le fr to x jj n := by
  refine Prod.ext rfl ?_
  funext j
  simp only [mCl, sI, sA, va_up]
  by_cases e : j = 42
  · simp [e]
  · simp [e]
theorem mCl_43 (M : StM) (le fr to nn jj x : Nat → Int32) (n : Nat) : sA (mCl M le fr to nn jj n) 43 x = mCl M le fr to nn x n := by
  refine Prod.ext rfl ?_
  funext j
  simp only [mCl, sI, sA, va_up]
  by_cases e : j = 43
  · simp [e]
  · simp [e]
theorem mCl_36 (M : StM) (le fr to nn jj : Nat → Int32) (n n' : Nat) : sI (mCl M le fr to nn jj n) 36 (nI n') = mCl M le fr to nn jj n' := by
  refine Prod.ext ?_ rfl
  funext j
  simp only [mCl, sI, sA, va_up]
  by_cases e : j = 36
  · simp [e]
  · simp [e]
def FLt (M : StM) (x : Nat × Nat) (N : StM) : Prop := ∃ le fr to nn jj n, FLs (mCl M le fr to nn jj n) x N
theorem mcl_mb {M : StM} {L : Nat} {bt : Nat → Nat} (h : MB M L bt) (le fr to nn jj : Nat → Int32) (n : Nat) : MB (mCl M le fr to nn jj n) L bt := h
theorem mcl_acc {M N : StM} {le fr to nn jj : Nat → Int32} {n L p : Nat} {C : List Ins} (h : MTq (mCl M le fr to nn jj n) L p C N) : s_saidClauses N = nI n ∧ a_saidLetter N = le ∧ a_saidN N = nn ∧ a_saidJ N = jj ∧ a_saidFrom N = fr ∧ a_saidTo N = to := by
  obtain ⟨nu, o, w, sd, wt, rfl, -⟩ := h
  exact ⟨rfl, rfl, rfl, rfl, rfl, rfl⟩
theorem mos_e {c : Nat} (h : ¬ mosN c = 200) : c = 97 ∨ c = 102 ∨ c = 110 ∨ c = 118 ∨ c = 120 := by
  rw [mosN] at h
  repeat' split at h
  all_goals omega
theorem ml_t {M : StM} {L : Nat} {bt : Nat → Nat} (h : MB M L bt) {p : Nat} (hz : ¬ mosN (ch L bt p) = 200) : mLetter (pkI L bt p) = true ∧ mMost (pkI L bt p) = nI (mosN (ch L bt p)) ∧ p < L ∧ mosN (ch L bt p) ≤ 99 := by
  rcases mos_e hz with z | z | z | z | z
  all_goals rw [(mb_ch h (by omega)).mpr z, z]
  all_goals exact ⟨by decide, by decide, ch_lt z (by omega), by decide⟩
theorem ml_f {M : StM} {L : Nat} {bt : Nat → Nat} (h : MB M L bt) {p : Nat} (hz : mosN (ch L bt p) = 200) : mLetter (pkI L bt p) = false := by
  have f : ∀ c, c < 256 → ¬ mosN c = 200 → ¬ pkI L bt p = nI c := fun c hc z y => z (by rw [← (mb_ch h hc).mp y]; exact hz)
  rw [mLetter, decide_eq_false_iff_not]
  rintro (y | y | y | y | y)
  · exact f 110 (by omega) (by decide) y
  · exact f 97 (by omega) (by decide) y
  · exact f 118 (by omega) (by decide) y
  · exact f 102 (by omega) (by decide) y
  · exact f 120 (by omega) (by decide) y
theorem mc_clause {E : EvT} {q : Nat → Nat} {d : Nat} {M N : StM} {L : Nat} {bt : Nat → Nat} {P : Bool → StM → Prop} (hb : MB M L bt) {f p n : Nat} {le fr to nn jj : Nat → Int32} {C : List Ins} (h : MTq (mCl M le fr to nn jj n) L p C N) (hn : n ≤ 10) (h9 : ∀ p1, p1 < L → pz L bt f 9 1 (p1 + 1) [] ≠ .inl (9, 0)) (h1 : ∀ p' cl N', pCl L bt f p n = .inr (p', cl) → MTq (mCl M (upd le n (nI cl.1)) (upd fr n (nI C.length)) (upd to n (nI (C ++ cl.2.2.2).length)) (upd nn n (nI cl.2.1)) (upd jj n (nI cl.2.2.1)) (n + 1)) L p' (C ++ cl.2.2.2) N' → P true N') (h2 : ∀ x, pCl L bt f p n = .inl x → ∀ N', FLt M x N' → P false N') : C_readsClause E q (d + 7) N P := by
  have hL := hb.2.1
  obtain ⟨b1, b2, b3, b4⟩ := h.b (mcl_mb hb ..)
  obtain ⟨a1, a2, a3, a4, a5, a6⟩ := mcl_acc h
  rw [pCl] at h1 h2
  refine en_readsClause ⟨b2, ?_⟩
  by_cases z : mosN (ch L bt p) = 200
  · rw [if_pos z] at h2
    rw [b1, ml_f hb z, b3]
    exact ⟨fun y => absurd y (by decide), fun _ => h.wrong (k := 1) (fun N' hN => h2 _ rfl N' ⟨_, _, _, _, _, _, hN⟩)⟩
  · obtain ⟨m1, m2, pl, m3⟩ := ml_t hb z
    obtain ⟨k1, k2⟩ := mb_lt hb pl
    rw [if_neg z] at h1 h2
    rw [b1, m1, m2, a1]
    refine ⟨fun _ => ⟨fun y => ?_, fun y => ?_⟩, fun y => absurd y (by decide)⟩
    · have n10 : ¬ 10 ≤ n := fun w => y (by rw [show n = 10 by omega]; rfl)
      rw [if_neg n10] at h1 h2
      refine (h.adv pl).num (mcl_mb hb ..) (by omega) (fun p1 v N1 e l ev => ⟨fun _ => ?_, (fun x => nomatch x)⟩) (fun x e N' hN => ⟨(fun x => nomatch x), fun _ => h2 x (by rw [e]) N' ⟨_, _, _, _, _, _, hN⟩⟩)
      rw [e] at h1 h2
      dsimp only at h1 h2
      obtain ⟨c1, c2, c3, c4, c5, c6⟩ := mcl_acc l
      obtain ⟨d1, d2, d3, d4⟩ := l.b (mcl_mb hb ..)
      rw [c1, c2, c3, c4, c5, c6, d4, ev, ixn (show n < 2 ^ 31 by omega), k1]
      refine ⟨bnd (n := 10) (by omega) (by omega) rfl, ?_⟩
      have g := ((((l.setA (j := 39) (x := upd le n (nI (ch L bt p))) (by omega) (by omega)).setA (j := 42) (x := upd nn n (nI v)) (by omega) (by omega)).setA (j := 43) (x := upd jj n 0) (by omega) (by omega)).setA (j := 40) (x := upd fr n (nI C.length)) (by omega) (by omega))
      rw [mCl_39, mCl_42, mCl_43, mCl_40] at g
      have en : nI n + 1 = nI (n + 1) := nI_s n
      refine ⟨fun w => ?_, fun w => ?_⟩
      · have w' : ¬ ch L bt p = 120 := fun y => w (by rw [y]; rfl)
        rw [if_neg w'] at h1 h2
        obtain ⟨g1, g2, g3, g4⟩ := g.b (mcl_mb hb ..)
        refine ⟨g2, ?_⟩
        rw [g1]
        refine ⟨fun x => ?_, fun x => ?_⟩
        · have x' : ¬ ch L bt p1 = 40 := fun y => x ((mb_ch (c := 40) hb (by omega)).mpr y)
          rw [if_neg x'] at h1
          have g5 := (g.setA (j := 41) (x := upd to n (nI C.length)) (by omega) (by omega)).setI (j := 36) (x := nI (n + 1)) (by omega)
          rw [mCl_41, mCl_36] at g5
          rw [en]
          refine h1 _ _ _ rfl ?_
          show MTq _ L p1 (C ++ []) _
          rw [List.append_nil]
          exact g5
        · have x' : ch L bt p1 = 40 := (mb_ch (c := 40) hb (by omega)).mp x
          rw [if_pos x'] at h1 h2
          refine mq_cond (mcl_mb hb ..) g (ch_lt x' (by omega)) (h9 p1 (ch_lt x' (by omega))) (fun p2 s N2 e2 l2 => ⟨fun _ => ?_, (fun x => nomatch x)⟩) (fun x e2 N' hN => ⟨(fun x => nomatch x), fun _ => h2 x (by rw [e2]) N' ⟨_, _, _, _, _, _, hN⟩⟩)
          rw [e2] at h1
          obtain ⟨r1, r2, r3, r4, r5, r6⟩ := mcl_acc l2
          obtain ⟨t1, t2, t3, t4⟩ := l2.b (mcl_mb hb ..)
          rw [r1, r6, t4, en]
          have g5 := (l2.setA (j := 41) (x := upd to n (nI (C ++ s).length)) (by omega) (by omega)).setI (j := 36) (x := nI (n + 1)) (by omega)
          rw [mCl_41, mCl_36] at g5
          exact h1 _ _ _ rfl g5
      · have w' : ch L bt p = 120 := (nI_eq (b := 120) (by omega) (by omega)).mp w
        rw [if_pos w'] at h1 h2
        refine g.takes (c := 46) (mcl_mb hb ..) (by omega) (fun x N2 l2 => ⟨(fun x => nomatch x), fun _ => ?_⟩) (fun x N' hN => ⟨fun _ => ?_, (fun x => nomatch x)⟩)
        · rw [if_pos x] at h1 h2
          refine l2.num (most := 9) (mcl_mb hb ..) (by omega) (fun p2 j N3 e3 l3 ej => ⟨fun _ => ?_, (fun x => nomatch x)⟩) (fun x e3 N' hN => ⟨(fun x => nomatch x), fun _ => h2 x (by rw [e3]) N' ⟨_, _, _, _, _, _, hN⟩⟩)
          rw [e3] at h1
          obtain ⟨r1, r2, r3, r4, r5, r6⟩ := mcl_acc l3
          obtain ⟨t1, t2, t3, t4⟩ := l3.b (mcl_mb hb ..)
          rw [r1, r4, r6, t4, ej, en]
          have g5 := ((l3.setA (j := 43) (x := upd (upd jj n 0) n (nI j)) (by omega) (by omega)).setA (j := 41) (x := upd to n (nI C.length)) (by omega) (by omega)).setI (j := 36) (x := nI (n + 1)) (by omega)
          rw [mCl_43, mCl_41, mCl_36] at g5
          refine h1 _ _ _ rfl ?_
          have uu : upd (upd jj n 0) n (nI j) = upd jj n (nI j) := by
            funext i
            by_cases e : i = n
            · rw [e, upd_eq, upd_eq]
            · rw [upd_ne e, upd_ne e, upd_ne e]
          rw [uu, w'] at g5
          show MTq _ L p2 (C ++ []) _
          rw [List.append_nil]
          rw [uu]
          exact g5
        · rw [if_neg x] at h2
          exact h2 _ rfl N' ⟨_, _, _, _, _, _, hN⟩
    · have n10 : 10 ≤ n := by
        have := (nI_eq (b := 10) (by omega) (by omega)).mp y
        omega
      rw [if_pos n10] at h2
      rw [b3]
      exact h.wrong (k := 4) (fun N' hN => h2 _ rfl N' ⟨_, _, _, _, _, _, hN⟩)
