/-! the class's clauses -/
theorem eX11 : ∀ v, v < 181 → ((-38 - nI v * 256 : Int32) < 0 ∧ (-(-38 - nI v * 256)) &&& 255 = (38 : Int32) ∧ (-(-38 - nI v * 256)) / 256 = nI v) := by decide +kernel
theorem eX12 : ∀ v, v < 181 → ((-124 - nI v * 256 : Int32) < 0 ∧ (-(-124 - nI v * 256)) &&& 255 = (124 : Int32) ∧ (-(-124 - nI v * 256)) / 256 = nI v) := by decide +kernel
theorem nI_cp {α : Type} (a : α) (st : List α) : nI (a :: st).length + (-1) = nI st.length := by rw [List.length_cons, nI_p]
theorem holds_loop {E : EvT} {q : Nat → Nat} {d : Nat} {X : StX} {k c hi : Nat} (hk : k < nTx X) (hc : c < t_n X k) (h10 : t_n X k ≤ 10) (hto : t_codeEnd X k c = nI hi) (hhi : hi ≤ 160) (hst : hi ≤ t_steps X k) {fc : Nat → Int32} (hfc : ∀ j, j < 5 → xa_Book_letters X j = fc j) (V : Bool) : ∀ (f : Nat) (r : List Ins) (o : Nat) (st : List Int32) (s : Nat → Int32) (m : Nat), r.length < f → o + r.length = hi → hlX (t_code X k) o r → stkH s st → tyS r st.length m → m ≤ 1 → st.length ≤ 32 → ev fc f r st = V → T_Text_holds_25 E q (d + 1) k (fun b X1 => b = V ∧ ∃ s, X1 = xA X 105 s) (xA X 105 s) (nI c) (nI st.length) (nI o) := by
  intro f
  induction f with
  | zero => intro r o st s m h; exact absurd h (Nat.not_lt_zero _)
  | succ f ih =>
    intro r o st s m hf ho hcc hs ht hm h32 hV
    have bc : (0 : Int32) ≤ nI c ∧ ix (nI c) < t_n (xA X 105 s) k := ⟨nI_pos' (by omega), by rw [ixn (by omega)]; exact hc⟩
    have hto' : t_codeEnd (xA X 105 s) k (ix (nI c)) = nI hi := by rw [ixn (by omega)]; exact hto
    cases r with
    | nil =>
      rw [List.length_nil, Nat.add_zero] at ho
      subst ho
      refine sg_Text_holds_25 ⟨hk, bc, fun _ => ?_, fun z => absurd (by rw [hto']; exact Int32.le_refl _) z⟩
      cases st with
      | nil => exact ⟨fun _ => ⟨hV, s, rfl⟩, fun z => absurd rfl z⟩
      | cons a st =>
        have e0 : st.length = 0 := by have : (a :: st).length = m := ht; rw [List.length_cons] at this; omega
        have ea : s 0 = a := by rw [← e0]; exact hs.1
        refine ⟨fun z => absurd z (by rw [List.length_cons]; exact nI_ne0 (by omega) (by omega)), fun _ => ?_⟩
        show (¬ s 0 = 1 → _) ∧ (s 0 = 1 → _)
        rw [ea]
        exact ⟨fun z => ⟨by rw [← hV]; exact (decide_eq_false z).symm, s, rfl⟩, fun z => ⟨by rw [← hV]; exact (decide_eq_true z).symm, s, rfl⟩⟩
    | cons ins r =>
      obtain ⟨op, v⟩ := ins
      rw [List.length_cons] at hf ho
      obtain ⟨hc1, hc2⟩ := hcc
      obtain ⟨⟨c1, c2, c3, c4, c5, c6, c7, c8⟩, ht2⟩ := ht
      have c1 : op ≤ 12 := c1
      have hcd : t_code (xA X 105 s) k (ix (nI o)) = encX (op, v) := by rw [ixn (by omega)]; exact hc1
      refine sg_Text_holds_25 ⟨hk, bc, fun z => absurd z (by rw [hto']; exact nI_ge (by omega) (by omega)), fun _ => ⟨⟨nI_pos' (by omega), by rw [ixn (by omega)]; show o < t_steps X k; omega⟩, ?_⟩⟩
      have hcase : op = 0 ∨ op = 1 ∨ op = 2 ∨ op = 3 ∨ op = 4 ∨ op = 5 ∨ op = 6 ∨ op = 7 ∨ op = 8 ∨ op = 9 ∨ op = 10 ∨ op = 11 ∨ op = 12 := by omega
      have push : ∀ z, op ≤ 1 → ev fc f r (z :: st) = V → (0 ≤ nI st.length ∧ nI st.length < 32) ∧ T_Text_holds_25 E q (d + 1) k (fun b X1 => b = V ∧ ∃ s, X1 = xA X 105 s) (xA (xA X 105 s) 105 (upd (xa_Book_stack (xA X 105 s)) (ix (nI st.length)) z)) (nI c) (nI st.length + 1) (nI o + 1) := by
        intro z h1 h2
        have n32 : st.length < 32 := c4 h1
        refine ⟨bnd (n := 32) (by omega) (by omega) rfl, ?_⟩
        rw [xA_tw, ixn (by omega), nI_s, nI_s]
        have ht3 : tyS r (eff op st.length) m := ht2
        rw [eff, if_pos h1] at ht3
        exact ih r (o + 1) (z :: st) (upd s st.length z) m (by omega) (by omega) hc2 (stkH_push hs) ht3 hm (by rw [List.length_cons]; omega) h2
      have bin : (2 ≤ op ∧ op ≤ 9) → ∀ a b st2 z, st = a :: b :: st2 → z = mReck (nI op) b a → ev fc f r (mReck (nI op) b a :: st2) = V → (0 ≤ nI (b :: st2).length - 1 ∧ nI (b :: st2).length - 1 < 32) ∧ (0 ≤ nI (b :: st2).length ∧ nI (b :: st2).length < 32) ∧ T_Text_holds_25 E q (d + 1) k (fun b X1 => b = V ∧ ∃ s, X1 = xA X 105 s) (xA (xA X 105 s) 105 (upd (xa_Book_stack (xA X 105 s)) (ix (nI (b :: st2).length - 1)) z)) (nI c) (nI (b :: st2).length) (nI o + 1) := by
        intro h1 a b st2 z h2 hz h3
        subst h2
        subst hz
        rw [List.length_cons, List.length_cons] at h32
        refine ⟨by rw [nI_l1]; exact bnd (n := 32) (by omega) (by omega) rfl, bnd (n := 32) (by rw [List.length_cons]; omega) (by omega) rfl, ?_⟩
        rw [xA_tw, nI_l1, ixn (by omega), nI_s]
        have ht3 : tyS r (eff op (a :: b :: st2).length) m := ht2
        rw [eff, if_neg (by omega), if_neg (by omega), List.length_cons, Nat.add_sub_cancel] at ht3
        exact ih r (o + 1) (mReck (nI op) b a :: st2) _ m (by omega) (by omega) hc2 (stkH_push hs.2.2) ht3 hm (by rw [List.length_cons]; omega) h3
      have pop : 11 ≤ op → ∀ a st1, st = a :: st1 → ev fc f r st1 = V → T_Text_holds_25 E q (d + 1) k (fun b X1 => b = V ∧ ∃ s, X1 = xA X 105 s) (xA X 105 s) (nI c) (nI st.length + (-1)) (nI o + 1) := by
        intro h1 a st1 h2 h3
        subst h2
        rw [nI_cp, nI_s]
        have ht3 : tyS r (eff op (a :: st1).length) m := ht2
        rw [eff, if_neg (by omega), if_neg (by omega), List.length_cons, Nat.add_sub_cancel] at ht3
        rw [List.length_cons] at h32
        exact ih r (o + 1) st1 s m (by omega) (by omega) hc2 hs.2 ht3 hm (by omega) h3
      have jmp : 11 ≤ op → ev fc f (r.drop v) st = V → T_Text_holds_25 E q (d + 1) k (fun b X1 => b = V ∧ ∃ s, X1 = xA X 105 s) (xA X 105 s) (nI c) (nI st.length) (nI o + nI v + 1) := by
        intro h1 h3
        obtain ⟨k1, k2⟩ := c8 h1
        have k1 : v ≤ r.length := k1
        have k2 : dpt (r.take v) (st.length - 1) = st.length := k2
        have k3 : 1 ≤ st.length := c6 (by show 10 ≤ op; omega)
        have ht3 : tyS r (eff op st.length) m := ht2
        rw [eff, if_neg (by omega), if_neg (by omega)] at ht3
        have ht4 := tyS_drop r v _ m ht3 k1
        rw [k2] at ht4
        rw [nI_add, nI_s, show o + v + 1 = o + 1 + v by omega]
        exact ih (r.drop v) (o + 1 + v) st s m (by rw [List.length_drop]; omega) (by rw [List.length_drop]; omega) (hlX_drop _ r v _ hc2 k1) hs ht4 hm h32 h3
      have one : 10 ≤ op → ∃ a st1, st = a :: st1 := by
        intro h1
        have := c6 h1
        cases st with
        | nil => exact absurd this (by decide)
        | cons a st1 => exact ⟨a, st1, rfl⟩
      have two : (2 ≤ op ∧ op ≤ 9) → ∃ a b st2, st = a :: b :: st2 := by
        intro h1
        have := (c5 h1).1
        cases st with
        | nil => exact absurd this (by simp)
        | cons a st1 =>
          cases st1 with
          | nil => exact absurd this (by simp)
          | cons b st2 => exact ⟨a, b, st2, rfl⟩
      have le1 : ∀ {α : Type} (a : α) (l : List α), l.length < 40 → ((1 : Int32) ≤ nI (a :: l).length) := fun a l h => by rw [List.length_cons]; exact nI_le (a := 1) (by omega) (by omega)
      have le2 : ∀ {α : Type} (a b : α) (l : List α), l.length < 40 → ¬ nI (a :: b :: l).length < 2 := fun a b l h => by rw [List.length_cons, List.length_cons]; exact nI_nlt (b := 2) (by omega) (by omega)
      rcases hcase with rfl | rfl | rfl | rfl | rfl | rfl | rfl | rfl | rfl | rfl | rfl | rfl | rfl
      · have hcd : t_code (xA X 105 s) k (ix (nI o)) = nI v := hcd
        have hv : v ≤ 99999 := c2 rfl
        have n32 : st.length < 32 := c4 (by show 0 ≤ 1; omega)
        rw [hcd]
        refine ⟨fun z => absurd z (nI_pos (by omega)), fun _ => ⟨fun _ => ⟨fun z => absurd z (nI_ge (b := 100000) (by omega) (by omega)), fun _ => push _ (by omega) hV⟩, fun z => absurd (nI_lt (b := 32) n32 (by omega)) z⟩⟩
      · have hcd : t_code (xA X 105 s) k (ix (nI o)) = nI (100000 + v) := hcd
        have v5 : v < 5 := c3 rfl
        have n32 : st.length < 32 := c4 (by show 1 ≤ 1; omega)
        have esub : nI (100000 + v) - 100000 = nI v := by rw [← nI_add, show nI 100000 = (100000 : Int32) from rfl]; grind
        rw [hcd, esub]
        refine ⟨fun z => absurd z (nI_pos (by omega)), fun _ => ⟨fun _ => ⟨fun _ => ⟨bnd (n := 5) v5 (by omega) rfl, ?_⟩, fun z => absurd (nI_le (a := 100000) (by omega) (by omega)) z⟩, fun z => absurd (nI_lt (b := 32) n32 (by omega)) z⟩⟩
        rw [ixn (show v < 2 ^ 31 by omega), show xa_Book_letters (xA X 105 s) v = fc v from hfc v v5]
        exact push _ (by omega) hV
      · have hcd : t_code (xA X 105 s) k (ix (nI o)) = -43 := hcd
        obtain ⟨a, b, st2, rfl⟩ := two ⟨by omega, by omega⟩
        simp (decide := true) only [hcd, not_true_eq_false, not_false_eq_true, false_implies, true_implies, and_true, true_and, ↓reduceIte]
        rw [List.length_cons, List.length_cons] at h32
        have ea : xa_Book_stack (xA X 105 s) (ix (nI (a :: b :: st2).length - 1)) = a := by rw [nI_l1, ixn (by rw [List.length_cons]; omega)]; exact hs.1
        have ea2 : xa_Book_stack (xA X 105 s) (ix (nI (b :: st2).length)) = a := by rw [ixn (by rw [List.length_cons]; omega)]; exact hs.1
        have eb : xa_Book_stack (xA X 105 s) (ix (nI (b :: st2).length - 1)) = b := by rw [nI_l1, ixn (by omega)]; exact hs.2.1
        refine ⟨fun _ => ⟨fun z => absurd z (le2 a b st2 (by omega)), fun _ => ⟨by rw [nI_l1]; exact bnd (n := 32) (by rw [List.length_cons]; omega) (by omega) rfl, ?_⟩⟩, fun z => absurd (le1 a (b :: st2) (by rw [List.length_cons]; omega)) z⟩
        rw [ea, nI_cp, ea2, eb]
        have hb := bin ⟨by omega, by omega⟩ a b st2 (pReck 43 b a) rfl rfl hV
        exact ⟨fun _ => hb, fun _ => hb⟩
      · have hcd : t_code (xA X 105 s) k (ix (nI o)) = -45 := hcd
        obtain ⟨a, b, st2, rfl⟩ := two ⟨by omega, by omega⟩
        simp (decide := true) only [hcd, not_true_eq_false, not_false_eq_true, false_implies, true_implies, and_true, true_and, ↓reduceIte]
        rw [List.length_cons, List.length_cons] at h32
        have ea : xa_Book_stack (xA X 105 s) (ix (nI (a :: b :: st2).length - 1)) = a := by rw [nI_l1, ixn (by rw [List.length_cons]; omega)]; exact hs.1
        have ea2 : xa_Book_stack (xA X 105 s) (ix (nI (b :: st2).length)) = a := by rw [ixn (by rw [List.length_cons]; omega)]; exact hs.1
        have eb : xa_Book_stack (xA X 105 s) (ix (nI (b :: st2).length - 1)) = b := by rw [nI_l1, ixn (by omega)]; exact hs.2.1
        refine ⟨fun _ => ⟨fun z => absurd z (le2 a b st2 (by omega)), fun _ => ⟨by rw [nI_l1]; exact bnd (n := 32) (by rw [List.length_cons]; omega) (by omega) rfl, ?_⟩⟩, fun z => absurd (le1 a (b :: st2) (by rw [List.length_cons]; omega)) z⟩
        rw [ea, nI_cp, ea2, eb]
        have hb := bin ⟨by omega, by omega⟩ a b st2 (pReck 45 b a) rfl rfl hV
        exact ⟨fun _ => hb, fun _ => hb⟩
      · have hcd : t_code (xA X 105 s) k (ix (nI o)) = -42 := hcd
        obtain ⟨a, b, st2, rfl⟩ := two ⟨by omega, by omega⟩
        simp (decide := true) only [hcd, not_true_eq_false, not_false_eq_true, false_implies, true_implies, and_true, true_and, ↓reduceIte]
        rw [List.length_cons, List.length_cons] at h32
        have ea : xa_Book_stack (xA X 105 s) (ix (nI (a :: b :: st2).length - 1)) = a := by rw [nI_l1, ixn (by rw [List.length_cons]; omega)]; exact hs.1
        have ea2 : xa_Book_stack (xA X 105 s) (ix (nI (b :: st2).length)) = a := by rw [ixn (by rw [List.length_cons]; omega)]; exact hs.1
        have eb : xa_Book_stack (xA X 105 s) (ix (nI (b :: st2).length - 1)) = b := by rw [nI_l1, ixn (by omega)]; exact hs.2.1
        refine ⟨fun _ => ⟨fun z => absurd z (le2 a b st2 (by omega)), fun _ => ⟨by rw [nI_l1]; exact bnd (n := 32) (by rw [List.length_cons]; omega) (by omega) rfl, ?_⟩⟩, fun z => absurd (le1 a (b :: st2) (by rw [List.length_cons]; omega)) z⟩
        rw [ea, nI_cp, ea2, eb]
        have hb := bin ⟨by omega, by omega⟩ a b st2 (pReck 42 b a) rfl rfl hV
        exact ⟨fun _ => hb, fun _ => hb⟩
      · have hcd : t_code (xA X 105 s) k (ix (nI o)) = -47 := hcd
        obtain ⟨a, b, st2, rfl⟩ := two ⟨by omega, by omega⟩
        simp (decide := true) only [hcd, not_true_eq_false, not_false_eq_true, false_implies, true_implies, and_true, true_and, ↓reduceIte]
        rw [List.length_cons, List.length_cons] at h32
        have ea : xa_Book_stack (xA X 105 s) (ix (nI (a :: b :: st2).length - 1)) = a := by rw [nI_l1, ixn (by rw [List.length_cons]; omega)]; exact hs.1
        have ea2 : xa_Book_stack (xA X 105 s) (ix (nI (b :: st2).length)) = a := by rw [ixn (by rw [List.length_cons]; omega)]; exact hs.1
        have eb : xa_Book_stack (xA X 105 s) (ix (nI (b :: st2).length - 1)) = b := by rw [nI_l1, ixn (by omega)]; exact hs.2.1
        refine ⟨fun _ => ⟨fun z => absurd z (le2 a b st2 (by omega)), fun _ => ⟨by rw [nI_l1]; exact bnd (n := 32) (by rw [List.length_cons]; omega) (by omega) rfl, ?_⟩⟩, fun z => absurd (le1 a (b :: st2) (by rw [List.length_cons]; omega)) z⟩
        rw [ea, nI_cp, ea2, eb]
        have hV2 : ev fc (f + 1) ((5, v) :: r) (a :: b :: st2) = if (5 = 5 ∨ 5 = 6) ∧ a = 0 then false else ev fc f r (mReck (nI 5) b a :: st2) := rfl
        rw [hV2] at hV
        refine ⟨fun z => ?_, fun z => ?_⟩
        · rw [if_neg (fun y => z y.2)] at hV
          exact bin ⟨by omega, by omega⟩ a b st2 _ rfl (by show pReck 47 b a = mReck 5 b a; simp [pReck, mReck, z]) hV
        · rw [if_pos ⟨by decide, z⟩] at hV
          exact ⟨hV, s, rfl⟩
      · have hcd : t_code (xA X 105 s) k (ix (nI o)) = -37 := hcd
        obtain ⟨a, b, st2, rfl⟩ := two ⟨by omega, by omega⟩
        simp (decide := true) only [hcd, not_true_eq_false, not_false_eq_true, false_implies, true_implies, and_true, true_and, ↓reduceIte]
        rw [List.length_cons, List.length_cons] at h32
        have ea : xa_Book_stack (xA X 105 s) (ix (nI (a :: b :: st2).length - 1)) = a := by rw [nI_l1, ixn (by rw [List.length_cons]; omega)]; exact hs.1
        have ea2 : xa_Book_stack (xA X 105 s) (ix (nI (b :: st2).length)) = a := by rw [ixn (by rw [List.length_cons]; omega)]; exact hs.1
        have eb : xa_Book_stack (xA X 105 s) (ix (nI (b :: st2).length - 1)) = b := by rw [nI_l1, ixn (by omega)]; exact hs.2.1
        refine ⟨fun _ => ⟨fun z => absurd z (le2 a b st2 (by omega)), fun _ => ⟨by rw [nI_l1]; exact bnd (n := 32) (by rw [List.length_cons]; omega) (by omega) rfl, ?_⟩⟩, fun z => absurd (le1 a (b :: st2) (by rw [List.length_cons]; omega)) z⟩
        rw [ea, nI_cp, ea2, eb]
        have hV2 : ev fc (f + 1) ((6, v) :: r) (a :: b :: st2) = if (6 = 5 ∨ 6 = 6) ∧ a = 0 then false else ev fc f r (mReck (nI 6) b a :: st2) := rfl
        rw [hV2] at hV
        refine ⟨fun z => ?_, fun z => ?_⟩
        · rw [if_neg (fun y => z y.2)] at hV
          exact bin ⟨by omega, by omega⟩ a b st2 _ rfl (by show pReck 37 b a = mReck 6 b a; simp [pReck, mReck, z]) hV
        · rw [if_pos ⟨by decide, z⟩] at hV
          exact ⟨hV, s, rfl⟩
      · have hcd : t_code (xA X 105 s) k (ix (nI o)) = -60 := hcd
        obtain ⟨a, b, st2, rfl⟩ := two ⟨by omega, by omega⟩
        simp (decide := true) only [hcd, not_true_eq_false, not_false_eq_true, false_implies, true_implies, and_true, true_and, ↓reduceIte]
        rw [List.length_cons, List.length_cons] at h32
        have ea : xa_Book_stack (xA X 105 s) (ix (nI (a :: b :: st2).length - 1)) = a := by rw [nI_l1, ixn (by rw [List.length_cons]; omega)]; exact hs.1
        have ea2 : xa_Book_stack (xA X 105 s) (ix (nI (b :: st2).length)) = a := by rw [ixn (by rw [List.length_cons]; omega)]; exact hs.1
        have eb : xa_Book_stack (xA X 105 s) (ix (nI (b :: st2).length - 1)) = b := by rw [nI_l1, ixn (by omega)]; exact hs.2.1
        refine ⟨fun _ => ⟨fun z => absurd z (le2 a b st2 (by omega)), fun _ => ⟨by rw [nI_l1]; exact bnd (n := 32) (by rw [List.length_cons]; omega) (by omega) rfl, ?_⟩⟩, fun z => absurd (le1 a (b :: st2) (by rw [List.length_cons]; omega)) z⟩
        rw [ea, nI_cp, ea2, eb]
        have hb := bin ⟨by omega, by omega⟩ a b st2 (pReck 60 b a) rfl rfl hV
        exact ⟨fun _ => hb, fun _ => hb⟩
      · have hcd : t_code (xA X 105 s) k (ix (nI o)) = -62 := hcd
        obtain ⟨a, b, st2, rfl⟩ := two ⟨by omega, by omega⟩
        simp (decide := true) only [hcd, not_true_eq_false, not_false_eq_true, false_implies, true_implies, and_true, true_and, ↓reduceIte]
        rw [List.length_cons, List.length_cons] at h32
        have ea : xa_Book_stack (xA X 105 s) (ix (nI (a :: b :: st2).length - 1)) = a := by rw [nI_l1, ixn (by rw [List.length_cons]; omega)]; exact hs.1
        have ea2 : xa_Book_stack (xA X 105 s) (ix (nI (b :: st2).length)) = a := by rw [ixn (by rw [List.length_cons]; omega)]; exact hs.1
        have eb : xa_Book_stack (xA X 105 s) (ix (nI (b :: st2).length - 1)) = b := by rw [nI_l1, ixn (by omega)]; exact hs.2.1
        refine ⟨fun _ => ⟨fun z => absurd z (le2 a b st2 (by omega)), fun _ => ⟨by rw [nI_l1]; exact bnd (n := 32) (by rw [List.length_cons]; omega) (by omega) rfl, ?_⟩⟩, fun z => absurd (le1 a (b :: st2) (by rw [List.length_cons]; omega)) z⟩
        rw [ea, nI_cp, ea2, eb]
        have hb := bin ⟨by omega, by omega⟩ a b st2 (pReck 62 b a) rfl rfl hV
        exact ⟨fun _ => hb, fun _ => hb⟩
      · have hcd : t_code (xA X 105 s) k (ix (nI o)) = -61 := hcd
        obtain ⟨a, b, st2, rfl⟩ := two ⟨by omega, by omega⟩
        simp (decide := true) only [hcd, not_true_eq_false, not_false_eq_true, false_implies, true_implies, and_true, true_and, ↓reduceIte]
        rw [List.length_cons, List.length_cons] at h32
        have ea : xa_Book_stack (xA X 105 s) (ix (nI (a :: b :: st2).length - 1)) = a := by rw [nI_l1, ixn (by rw [List.length_cons]; omega)]; exact hs.1
        have ea2 : xa_Book_stack (xA X 105 s) (ix (nI (b :: st2).length)) = a := by rw [ixn (by rw [List.length_cons]; omega)]; exact hs.1
        have eb : xa_Book_stack (xA X 105 s) (ix (nI (b :: st2).length - 1)) = b := by rw [nI_l1, ixn (by omega)]; exact hs.2.1
        refine ⟨fun _ => ⟨fun z => absurd z (le2 a b st2 (by omega)), fun _ => ⟨by rw [nI_l1]; exact bnd (n := 32) (by rw [List.length_cons]; omega) (by omega) rfl, ?_⟩⟩, fun z => absurd (le1 a (b :: st2) (by rw [List.length_cons]; omega)) z⟩
        rw [ea, nI_cp, ea2, eb]
        have hb := bin ⟨by omega, by omega⟩ a b st2 (pReck 61 b a) rfl rfl hV
        exact ⟨fun _ => hb, fun _ => hb⟩
      · have hcd : t_code (xA X 105 s) k (ix (nI o)) = -33 := hcd
        obtain ⟨a, st1, rfl⟩ := one (by omega)
        simp (decide := true) only [hcd, not_true_eq_false, not_false_eq_true, false_implies, true_implies, and_true, true_and, ↓reduceIte]
        rw [List.length_cons] at h32
        refine ⟨fun _ => ?_, fun z => absurd (le1 a st1 (by omega)) z⟩
        rw [nI_l1, xA_tw, ixn (show st1.length < 2 ^ 31 by omega), nI_s, show xa_Book_stack (xA X 105 s) st1.length = a from hs.1]
        refine ⟨bnd (n := 32) (by omega) (by omega) rfl, ?_⟩
        exact ih r (o + 1) ((1 - a) :: st1) _ m (by omega) (by omega) hc2 (stkH_push hs.2) ht2 hm (by rw [List.length_cons]; omega) hV
      · have hcd : t_code (xA X 105 s) k (ix (nI o)) = -38 - nI v * 256 := hcd
        obtain ⟨a, st1, rfl⟩ := one (by omega)
        have kv : v ≤ r.length := (c8 (by show 11 ≤ 11; omega)).1
        obtain ⟨x1, x2, x3⟩ := eX11 v (by omega)
        simp (decide := true) only [hcd, x1, x2, x3, not_true_eq_false, not_false_eq_true, false_implies, true_implies, and_true, true_and, ↓reduceIte]
        rw [List.length_cons] at h32
        have ea : xa_Book_stack (xA X 105 s) (ix (nI (a :: st1).length - 1)) = a := by rw [nI_l1, ixn (by omega)]; exact hs.1
        have hV2 : ev fc (f + 1) ((11, v) :: r) (a :: st1) = if a = 0 then ev fc f (r.drop v) (a :: st1) else ev fc f r st1 := rfl
        rw [hV2] at hV
        refine ⟨fun _ => ⟨by rw [nI_l1]; exact bnd (n := 32) (by omega) (by omega) rfl, fun z => ?_, fun z => ?_⟩, fun z => absurd (le1 a st1 (by omega)) z⟩
        · rw [if_neg (fun y => z (by rw [ea]; exact y))] at hV
          exact pop (by omega) a st1 rfl hV
        · rw [if_pos (by rw [← ea]; exact z)] at hV
          exact jmp (by omega) hV
      · have hcd : t_code (xA X 105 s) k (ix (nI o)) = -124 - nI v * 256 := hcd
        obtain ⟨a, st1, rfl⟩ := one (by omega)
        have kv : v ≤ r.length := (c8 (by show 11 ≤ 12; omega)).1
        obtain ⟨x1, x2, x3⟩ := eX12 v (by omega)
        simp (decide := true) only [hcd, x1, x2, x3, not_true_eq_false, not_false_eq_true, false_implies, true_implies, and_true, true_and, ↓reduceIte]
        rw [List.length_cons] at h32
        have ea : xa_Book_stack (xA X 105 s) (ix (nI (a :: st1).length - 1)) = a := by rw [nI_l1, ixn (by omega)]; exact hs.1
        have hV2 : ev fc (f + 1) ((12, v) :: r) (a :: st1) = if a = 1 then ev fc f (r.drop v) (a :: st1) else ev fc f r st1 := rfl
        rw [hV2] at hV
        refine ⟨fun _ => ⟨by rw [nI_l1]; exact bnd (n := 32) (by omega) (by omega) rfl, fun z => ?_, fun z => ?_⟩, fun z => absurd (le1 a st1 (by omega)) z⟩
        · rw [if_neg (fun y => z (by rw [ea]; exact y))] at hV
          exact pop (by omega) a st1 rfl hV
        · rw [if_pos (by rw [← ea]; exact z)] at hV
          exact jmp (by omega) hV
