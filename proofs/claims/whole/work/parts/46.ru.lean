/-! rules: a clause as a list of steps -/
abbrev Ins : Type := Nat × Nat
def sgn (op : Nat) : Int32 := if op = 2 then 43 else if op = 3 then 45 else if op = 4 then 42 else if op = 5 then 47 else if op = 6 then 37 else if op = 7 then 60 else if op = 8 then 62 else if op = 9 then 61 else if op = 10 then 33 else if op = 11 then 38 else 124
def encX (i : Ins) : Int32 := if i.1 = 0 then nI i.2 else if i.1 = 1 then nI (100000 + i.2) else if 11 ≤ i.1 then -(sgn i.1) - nI i.2 * 256 else -(sgn i.1)
def encM (o : Nat) (i : Ins) : Int32 := nI (1048576 * i.1 + if 11 ≤ i.1 then o + 1 + i.2 else i.2)
def hlX (f : Nat → Int32) : Nat → List Ins → Prop
  | _, [] => True
  | o, i :: l => f o = encX i ∧ hlX f (o + 1) l
def hlM (f : Nat → Int32) (b : Nat) : Nat → List Ins → Prop
  | _, [] => True
  | o, i :: l => f (b + o) = encM o i ∧ hlM f b (o + 1) l
def eff (op n : Nat) : Nat := if op ≤ 1 then n + 1 else if op = 10 then n else n - 1
def dpt : List Ins → Nat → Nat
  | [], n => n
  | i :: l, n => dpt l (eff i.1 n)
def insOK (i : Ins) (r : List Ins) (n : Nat) : Prop := i.1 ≤ 12 ∧ (i.1 = 0 → i.2 ≤ 99999) ∧ (i.1 = 1 → i.2 < 5) ∧ (i.1 ≤ 1 → n < 32) ∧ (2 ≤ i.1 ∧ i.1 ≤ 9 → 2 ≤ n ∧ i.2 = 0) ∧ (10 ≤ i.1 → 1 ≤ n) ∧ (i.1 = 10 → i.2 = 0) ∧ (11 ≤ i.1 → i.2 ≤ r.length ∧ dpt (r.take i.2) (n - 1) = n)
def tyS : List Ins → Nat → Nat → Prop
  | [], n, m => n = m
  | i :: r, n, m => insOK i r n ∧ tyS r (eff i.1 n) m
theorem dpt_app : ∀ (a b : List Ins) (n : Nat), dpt (a ++ b) n = dpt b (dpt a n) := by
  intro a
  induction a with
  | nil => intro b n; rfl
  | cons i a ih => intro b n; exact ih b _
theorem tyS_dpt : ∀ (a : List Ins) (n m : Nat), tyS a n m → dpt a n = m := by
  intro a
  induction a with
  | nil => intro n m h; exact h
  | cons i a ih => intro n m h; exact ih _ _ h.2
theorem tyS_app : ∀ (a b : List Ins) (n k m : Nat), tyS a n k → tyS b k m → tyS (a ++ b) n m := by
  intro a
  induction a with
  | nil => intro b n k m h1 h2; rw [show n = k from h1]; exact h2
  | cons i a ih =>
    intro b n k m h1 h2
    refine ⟨?_, ih b _ k m h1.2 h2⟩
    obtain ⟨c1, c2, c3, c4, c5, c6, c7, c8⟩ := h1.1
    refine ⟨c1, c2, c3, c4, c5, c6, c7, fun h => ?_⟩
    obtain ⟨e1, e2⟩ := c8 h
    refine ⟨by show i.2 ≤ (a ++ b).length; rw [List.length_append]; omega, ?_⟩
    show dpt ((a ++ b).take i.2) (n - 1) = n
    rw [List.take_append_of_le_length e1]
    exact e2
theorem tyS_drop : ∀ (r : List Ins) (v n m : Nat), tyS r n m → v ≤ r.length → tyS (r.drop v) (dpt (r.take v) n) m := by
  intro r
  induction r with
  | nil => intro v n m h hv; have : v = 0 := by simpa using hv
           subst this; exact h
  | cons i r ih =>
    intro v n m h hv
    cases v with
    | zero => exact h
    | succ v =>
      rw [List.length_cons] at hv
      exact ih v _ m h.2 (by omega)
theorem hlX_drop (f : Nat → Int32) : ∀ (r : List Ins) (v o : Nat), hlX f o r → v ≤ r.length → hlX f (o + v) (r.drop v) := by
  intro r
  induction r with
  | nil => intro v o _ _; rw [List.drop_nil]; trivial
  | cons i r ih =>
    intro v o h hv
    cases v with
    | zero => exact h
    | succ v =>
      rw [List.length_cons] at hv
      rw [show o + (v + 1) = o + 1 + v by omega]
      exact ih v _ h.2 (by omega)
theorem hlM_drop (f : Nat → Int32) (b : Nat) : ∀ (r : List Ins) (v o : Nat), hlM f b o r → v ≤ r.length → hlM f b (o + v) (r.drop v) := by
  intro r
  induction r with
  | nil => intro v o _ _; rw [List.drop_nil]; trivial
  | cons i r ih =>
    intro v o h hv
    cases v with
    | zero => exact h
    | succ v =>
      rw [List.length_cons] at hv
      rw [show o + (v + 1) = o + 1 + v by omega]
      exact ih v _ h.2 (by omega)
/-- what the steps come to -/
def ev (fc : Nat → Int32) : Nat → List Ins → List Int32 → Bool
  | 0, _, _ => false
  | _ + 1, [], [] => true
  | _ + 1, [], a :: _ => decide (a = 1)
  | f + 1, i :: r, st =>
    if i.1 = 0 then ev fc f r (nI i.2 :: st)
    else if i.1 = 1 then ev fc f r (fc i.2 :: st)
    else match st with
      | [] => false
      | a :: st1 =>
        if i.1 = 10 then ev fc f r ((1 - a) :: st1)
        else if i.1 = 11 then (if a = 0 then ev fc f (r.drop i.2) (a :: st1) else ev fc f r st1)
        else if i.1 = 12 then (if a = 1 then ev fc f (r.drop i.2) (a :: st1) else ev fc f r st1)
        else match st1 with
          | [] => false
          | b :: st2 => if (i.1 = 5 ∨ i.1 = 6) ∧ a = 0 then false else ev fc f r (mReck (nI i.1) b a :: st2)
def evC (fc : Nat → Int32) (seg : List Ins) : Bool := ev fc (seg.length + 1) seg []
/-- the stack as a row -/
def stkH (s : Nat → Int32) : List Int32 → Prop
  | [] => True
  | a :: st => s st.length = a ∧ stkH s st
theorem stkH_upd {s : Nat → Int32} {n : Nat} {z : Int32} : ∀ (st : List Int32), stkH s st → st.length ≤ n → stkH (upd s n z) st := by
  intro st
  induction st with
  | nil => intro _ _; trivial
  | cons a st ih =>
    intro h hn
    rw [List.length_cons] at hn
    exact ⟨by rw [upd_ne (by omega)]; exact h.1, ih h.2 (by omega)⟩
theorem stkH_push {s : Nat → Int32} {z : Int32} {st : List Int32} (h : stkH s st) : stkH (upd s st.length z) (z :: st) := ⟨upd_eq, stkH_upd st h (Nat.le_refl _)⟩
theorem cM_div {op v : Nat} (h1 : op ≤ 12) (h2 : v < 1048576) : nI (1048576 * op + v) / 1048576 = nI op := by
  rw [show (1048576 : Int32) = nI 1048576 from rfl, div_n (by omega) (by omega) (by omega)]
  congr 1
  omega
theorem cM_rem (op v : Nat) : nI (1048576 * op + v) - nI op * 1048576 = nI v := by
  rw [← nI_add, ← pk_mul, show nI 1048576 = (1048576 : Int32) from rfl]
  grind
theorem nI_l1 {α : Type} (a : α) (st : List α) : nI (a :: st).length - 1 = nI st.length := by rw [List.length_cons, nI_p']
theorem isTrue_loop {E : EvT} {q : Nat → Nat} {d : Nat} {M : StM} {i x hi : Nat} (hx : x < 200) (hi20 : i < 20) (hto : a_codeTo M x = nI (180 * i + hi)) (hhi : hi ≤ 180) {fc : Nat → Int32} (hfc : ∀ k, k < 5 → a_facts M k = fc k) (V : Bool) : ∀ (f : Nat) (r : List Ins) (o : Nat) (st : List Int32) (s : Nat → Int32) (m : Nat), r.length < f → o + r.length = hi → hlM (a_codes M) (180 * i) o r → stkH s st → tyS r st.length m → m ≤ 1 → st.length ≤ 32 → ev fc f r st = V → T_isTrue_19 E q (d + 1) (fun b M1 => b = V ∧ ∃ s, M1 = sA M 55 s) (sA M 55 s) (nI x) (nI st.length) (nI (180 * i)) (nI (180 * i + o)) := by
  intro f
  induction f with
  | zero => intro r o st s m h; exact absurd h (Nat.not_lt_zero _)
  | succ f ih =>
    intro r o st s m hf ho hc hs ht hm h32 hV
    have bx : (0 : Int32) ≤ nI x ∧ nI x < 200 := bnd (n := 200) hx (by omega) rfl
    have hto' : a_codeTo (sA M 55 s) (ix (nI x)) = nI (180 * i + hi) := by rw [ixn (by omega)]; exact hto
    cases r with
    | nil =>
      rw [List.length_nil, Nat.add_zero] at ho
      subst ho
      refine sg_isTrue_19 ⟨bx, fun _ => ?_, fun z => absurd (by rw [hto']; exact Int32.le_refl _) z⟩
      cases st with
      | nil => exact ⟨fun _ => ⟨hV, s, rfl⟩, fun z => absurd rfl z⟩
      | cons a st =>
        have e0 : st.length = 0 := by have : (a :: st).length = m := ht; rw [List.length_cons] at this; omega
        have ea : s 0 = a := by rw [← e0]; exact hs.1
        refine ⟨fun z => absurd z (by rw [List.length_cons]; exact nI_ne0 (by omega) (by omega)), fun _ => ?_⟩
        show (¬ s 0 = 1 → _) ∧ (s 0 = 1 → _)
        rw [ea]
        exact ⟨fun z => ⟨by rw [← hV]; exact (decide_eq_false z).symm, s, rfl⟩, fun z => ⟨by rw [← hV]; exact (decide_eq_true z).symm, s, rfl⟩⟩
    | cons ins r =>
      obtain ⟨op, v⟩ := ins
      rw [List.length_cons] at hf ho
      obtain ⟨hc1, hc2⟩ := hc
      obtain ⟨⟨c1, c2, c3, c4, c5, c6, c7, c8⟩, ht2⟩ := ht
      have o180 : o < 180 := by omega
      have c1 : op ≤ 12 := c1
      have hv2 : (if 11 ≤ op then o + 1 + v else v) < 1048576 := by
        split
        · next h => have := (c8 h).1; show o + 1 + v < _; have : v ≤ r.length := this; omega
        · next h =>
          have : op = 0 ∨ op = 1 ∨ (2 ≤ op ∧ op ≤ 9) ∨ op = 10 := by omega
          rcases this with h | h | h | h
          · have : v ≤ 99999 := c2 h; omega
          · have : v < 5 := c3 h; omega
          · have : v = 0 := (c5 h).2; omega
          · have : v = 0 := c7 h; omega
      have hcd : a_codes (sA M 55 s) (ix (nI (180 * i + o))) = nI (1048576 * op + if 11 ≤ op then o + 1 + v else v) := by rw [ixn (by omega)]; exact hc1
      have hq : a_codes (sA M 55 s) (ix (nI (180 * i + o))) / 1048576 = nI op := by rw [hcd]; exact cM_div c1 hv2
      have hr : a_codes (sA M 55 s) (ix (nI (180 * i + o))) - nI op * 1048576 = nI (if 11 ≤ op then o + 1 + v else v) := by rw [hcd]; exact cM_rem _ _
      refine sg_isTrue_19 ⟨bx, fun z => absurd z (by rw [hto']; exact nI_ge (by omega) (by omega)), fun _ => ⟨bnd (n := 3600) (by omega) (by omega) rfl, ?_⟩⟩
      have hcase : op = 0 ∨ op = 1 ∨ op = 2 ∨ op = 3 ∨ op = 4 ∨ op = 5 ∨ op = 6 ∨ op = 7 ∨ op = 8 ∨ op = 9 ∨ op = 10 ∨ op = 11 ∨ op = 12 := by omega
      simp only [hq, hr]
      clear hq hr hcd hv2
      -- what follows each kind
      have push : ∀ z, op ≤ 1 → ev fc f r (z :: st) = V → (0 ≤ nI st.length ∧ nI st.length < 180) ∧ T_isTrue_19 E q (d + 1) (fun b M1 => b = V ∧ ∃ s, M1 = sA M 55 s) (sA (sA M 55 s) 55 (upd (a_stack (sA M 55 s)) (ix (nI st.length)) z)) (nI x) (nI st.length + 1) (nI (180 * i)) (nI (180 * i + o) + 1) := by
        intro z h1 h2
        have n32 : st.length < 32 := c4 h1
        refine ⟨bnd (n := 180) (by omega) (by omega) rfl, ?_⟩
        rw [sA_tw, ixn (by omega), nI_s, nI_s]
        have ht3 : tyS r (eff op st.length) m := ht2
        rw [eff, if_pos h1] at ht3
        exact ih r (o + 1) (z :: st) (upd s st.length z) m (by omega) (by omega) hc2 (stkH_push hs) ht3 hm (by rw [List.length_cons]; omega) h2
      have bin : (2 ≤ op ∧ op ≤ 9) → ∀ a b st2, st = a :: b :: st2 → ev fc f r (mReck (nI op) b a :: st2) = V → T_isTrue_19 E q (d + 1) (fun b M1 => b = V ∧ ∃ s, M1 = sA M 55 s) (sA (sA M 55 s) 55 (upd (a_stack (sA M 55 s)) (ix (nI st2.length)) (mReck (nI op) (a_stack (sA M 55 s) (ix (nI st2.length))) (a_stack (sA M 55 s) (ix (nI (b :: st2).length)))))) (nI x) (nI (b :: st2).length) (nI (180 * i)) (nI (180 * i + o) + 1) := by
        intro h1 a b st2 h2 h3
        subst h2
        rw [List.length_cons, List.length_cons] at h32
        rw [sA_tw, ixn (by omega), nI_s, show a_stack (sA M 55 s) st2.length = b from hs.2.1, show a_stack (sA M 55 s) (ix (nI (b :: st2).length)) = a by rw [ixn (by rw [List.length_cons]; omega)]; exact hs.1]
        have ht3 : tyS r (eff op (a :: b :: st2).length) m := ht2
        rw [eff, if_neg (by omega), if_neg (by omega), List.length_cons, Nat.add_sub_cancel] at ht3
        exact ih r (o + 1) (mReck (nI op) b a :: st2) _ m (by omega) (by omega) hc2 (stkH_push hs.2.2) ht3 hm (by rw [List.length_cons]; omega) h3
      have pop : 11 ≤ op → ∀ a st1, st = a :: st1 → ev fc f r st1 = V → T_isTrue_19 E q (d + 1) (fun b M1 => b = V ∧ ∃ s, M1 = sA M 55 s) (sA M 55 s) (nI x) (nI st.length - 1) (nI (180 * i)) (nI (180 * i + o) + 1) := by
        intro h1 a st1 h2 h3
        subst h2
        rw [nI_l1, nI_s]
        have ht3 : tyS r (eff op (a :: st1).length) m := ht2
        rw [eff, if_neg (by omega), if_neg (by omega), List.length_cons, Nat.add_sub_cancel] at ht3
        rw [List.length_cons] at h32
        exact ih r (o + 1) st1 s m (by omega) (by omega) hc2 hs.2 ht3 hm (by omega) h3
      have jmp : 11 ≤ op → ev fc f (r.drop v) st = V → T_isTrue_19 E q (d + 1) (fun b M1 => b = V ∧ ∃ s, M1 = sA M 55 s) (sA M 55 s) (nI x) (nI st.length) (nI (180 * i)) (nI (180 * i) + nI (if 11 ≤ op then o + 1 + v else v)) := by
        intro h1 h3
        obtain ⟨k1, k2⟩ := c8 h1
        have k1 : v ≤ r.length := k1
        have k2 : dpt (r.take v) (st.length - 1) = st.length := k2
        have k3 : 1 ≤ st.length := c6 (by show 10 ≤ op; omega)
        have ht3 : tyS r (eff op st.length) m := ht2
        rw [eff, if_neg (by omega), if_neg (by omega)] at ht3
        have ht4 := tyS_drop r v _ m ht3 k1
        rw [k2] at ht4
        rw [if_pos h1, nI_add, Nat.add_assoc o 1 v, show 180 * i + (o + (1 + v)) = 180 * i + (o + 1 + v) by omega]
        exact ih (r.drop v) (o + 1 + v) st s m (by rw [List.length_drop]; omega) (by rw [List.length_drop]; omega) (hlM_drop _ _ r v _ hc2 k1) hs ht4 hm h32 h3
      have one : 10 ≤ op → ∃ a st1, st = a :: st1 := by
        intro h1
        have := c6 h1
        cases st with
        | nil => exact absurd this (by decide)
        | cons a st1 => exact ⟨a, st1, rfl⟩
      have two : (2 ≤ op ∧ op ≤ 9) → ∃ a b st2, st = a :: b :: st2 := by
        intro h1
        have := (c5 h1).1
        cases st with
        | nil => exact absurd this (by simp)
        | cons a st1 =>
          cases st1 with
          | nil => exact absurd this (by simp)
          | cons b st2 => exact ⟨a, b, st2, rfl⟩
      rcases hcase with rfl | rfl | rfl | rfl | rfl | rfl | rfl | rfl | rfl | rfl | rfl | rfl | rfl
      · simp (decide := true) only [show nI 0 = 0 from rfl, not_true_eq_false, not_false_eq_true, false_implies, true_implies, and_true, true_and, ↓reduceIte]
        exact push _ (by omega) hV
      · simp (decide := true) only [show nI 1 = 1 from rfl, not_true_eq_false, not_false_eq_true, false_implies, true_implies, and_true, true_and, ↓reduceIte]
        have v5 : v < 5 := c3 rfl
        refine ⟨bnd (n := 5) v5 (by omega) rfl, ?_⟩
        rw [ixn (show v < 2 ^ 31 by omega), show a_facts (sA M 55 s) v = fc v from hfc v v5]
        exact push _ (by omega) hV
      · simp (decide := true) only [show nI 2 = 2 from rfl, not_true_eq_false, not_false_eq_true, false_implies, true_implies, and_true, true_and, ↓reduceIte]
        obtain ⟨a, b, st2, rfl⟩ := two ⟨by omega, by omega⟩
        rw [List.length_cons, List.length_cons] at h32
        rw [nI_l1, nI_l1]
        exact ⟨bnd (n := 180) (by omega) (by omega) rfl, bnd (n := 180) (by rw [List.length_cons]; omega) (by omega) rfl, bin ⟨by omega, by omega⟩ a b st2 rfl hV⟩
      · simp (decide := true) only [show nI 3 = 3 from rfl, not_true_eq_false, not_false_eq_true, false_implies, true_implies, and_true, true_and, ↓reduceIte]
        obtain ⟨a, b, st2, rfl⟩ := two ⟨by omega, by omega⟩
        rw [List.length_cons, List.length_cons] at h32
        rw [nI_l1, nI_l1]
        exact ⟨bnd (n := 180) (by omega) (by omega) rfl, bnd (n := 180) (by rw [List.length_cons]; omega) (by omega) rfl, bin ⟨by omega, by omega⟩ a b st2 rfl hV⟩
      · simp (decide := true) only [show nI 4 = 4 from rfl, not_true_eq_false, not_false_eq_true, false_implies, true_implies, and_true, true_and, ↓reduceIte]
        obtain ⟨a, b, st2, rfl⟩ := two ⟨by omega, by omega⟩
        rw [List.length_cons, List.length_cons] at h32
        rw [nI_l1, nI_l1]
        exact ⟨bnd (n := 180) (by omega) (by omega) rfl, bnd (n := 180) (by rw [List.length_cons]; omega) (by omega) rfl, bin ⟨by omega, by omega⟩ a b st2 rfl hV⟩
      · simp (decide := true) only [show nI 5 = 5 from rfl, not_true_eq_false, not_false_eq_true, false_implies, true_implies, and_true, true_and, ↓reduceIte]
        obtain ⟨a, b, st2, rfl⟩ := two ⟨by omega, by omega⟩
        rw [List.length_cons, List.length_cons] at h32
        rw [nI_l1, nI_l1]
        have ea : a_stack (sA M 55 s) (ix (nI (b :: st2).length)) = a := by rw [ixn (by rw [List.length_cons]; omega)]; exact hs.1
        have hV2 : ev fc (f + 1) ((5, v) :: r) (a :: b :: st2) = if (5 = 5 ∨ 5 = 6) ∧ a = 0 then false else ev fc f r (mReck (nI 5) b a :: st2) := rfl
        rw [hV2] at hV
        refine ⟨bnd (n := 180) (by rw [List.length_cons]; omega) (by omega) rfl, fun z => ⟨bnd (n := 180) (by omega) (by omega) rfl, z, ?_⟩, fun z => ?_⟩
        · rw [if_neg (fun y => z (by rw [ea]; exact y.2))] at hV
          exact bin ⟨by omega, by omega⟩ a b st2 rfl hV
        · rw [if_pos ⟨by decide, by rw [← ea]; exact z⟩] at hV
          exact ⟨hV, s, rfl⟩
      · simp (decide := true) only [show nI 6 = 6 from rfl, not_true_eq_false, not_false_eq_true, false_implies, true_implies, and_true, true_and, ↓reduceIte]
        obtain ⟨a, b, st2, rfl⟩ := two ⟨by omega, by omega⟩
        rw [List.length_cons, List.length_cons] at h32
        rw [nI_l1, nI_l1]
        have ea : a_stack (sA M 55 s) (ix (nI (b :: st2).length)) = a := by rw [ixn (by rw [List.length_cons]; omega)]; exact hs.1
        have hV2 : ev fc (f + 1) ((6, v) :: r) (a :: b :: st2) = if (6 = 5 ∨ 6 = 6) ∧ a = 0 then false else ev fc f r (mReck (nI 6) b a :: st2) := rfl
        rw [hV2] at hV
        refine ⟨bnd (n := 180) (by rw [List.length_cons]; omega) (by omega) rfl, fun z => ⟨bnd (n := 180) (by omega) (by omega) rfl, z, ?_⟩, fun z => ?_⟩
        · rw [if_neg (fun y => z (by rw [ea]; exact y.2))] at hV
          exact bin ⟨by omega, by omega⟩ a b st2 rfl hV
        · rw [if_pos ⟨by decide, by rw [← ea]; exact z⟩] at hV
          exact ⟨hV, s, rfl⟩
      · simp (decide := true) only [show nI 7 = 7 from rfl, not_true_eq_false, not_false_eq_true, false_implies, true_implies, and_true, true_and, ↓reduceIte]
        obtain ⟨a, b, st2, rfl⟩ := two ⟨by omega, by omega⟩
        rw [List.length_cons, List.length_cons] at h32
        rw [nI_l1, nI_l1]
        exact ⟨bnd (n := 180) (by omega) (by omega) rfl, bnd (n := 180) (by rw [List.length_cons]; omega) (by omega) rfl, bin ⟨by omega, by omega⟩ a b st2 rfl hV⟩
      · simp (decide := true) only [show nI 8 = 8 from rfl, not_true_eq_false, not_false_eq_true, false_implies, true_implies, and_true, true_and, ↓reduceIte]
        obtain ⟨a, b, st2, rfl⟩ := two ⟨by omega, by omega⟩
        rw [List.length_cons, List.length_cons] at h32
        rw [nI_l1, nI_l1]
        exact ⟨bnd (n := 180) (by omega) (by omega) rfl, bnd (n := 180) (by rw [List.length_cons]; omega) (by omega) rfl, bin ⟨by omega, by omega⟩ a b st2 rfl hV⟩
      · simp (decide := true) only [show nI 9 = 9 from rfl, not_true_eq_false, not_false_eq_true, false_implies, true_implies, and_true, true_and, ↓reduceIte]
        obtain ⟨a, b, st2, rfl⟩ := two ⟨by omega, by omega⟩
        rw [List.length_cons, List.length_cons] at h32
        rw [nI_l1, nI_l1]
        exact ⟨bnd (n := 180) (by omega) (by omega) rfl, bnd (n := 180) (by rw [List.length_cons]; omega) (by omega) rfl, bin ⟨by omega, by omega⟩ a b st2 rfl hV⟩
      · simp (decide := true) only [show nI 10 = 10 from rfl, not_true_eq_false, not_false_eq_true, false_implies, true_implies, and_true, true_and, ↓reduceIte]
        obtain ⟨a, st1, rfl⟩ := one (by omega)
        rw [List.length_cons] at h32
        rw [nI_l1, sA_tw, ixn (show st1.length < 2 ^ 31 by omega), nI_s, show a_stack (sA M 55 s) st1.length = a from hs.1]
        refine ⟨bnd (n := 180) (by omega) (by omega) rfl, ?_⟩
        exact ih r (o + 1) ((1 - a) :: st1) _ m (by omega) (by omega) hc2 (stkH_push hs.2) ht2 hm (by rw [List.length_cons]; omega) hV
      · simp (decide := true) only [show nI 11 = 11 from rfl, not_true_eq_false, not_false_eq_true, false_implies, true_implies, and_true, true_and, ↓reduceIte]
        obtain ⟨a, st1, rfl⟩ := one (by omega)
        rw [List.length_cons] at h32
        have ea : a_stack (sA M 55 s) (ix (nI (a :: st1).length - 1)) = a := by rw [nI_l1, ixn (by omega)]; exact hs.1
        have hV2 : ev fc (f + 1) ((11, v) :: r) (a :: st1) = if a = 0 then ev fc f (r.drop v) (a :: st1) else ev fc f r st1 := rfl
        rw [hV2] at hV
        refine ⟨by rw [nI_l1]; exact bnd (n := 180) (by omega) (by omega) rfl, fun z => ?_, fun z => ?_⟩
        · rw [if_neg (fun y => z (by rw [ea]; exact y))] at hV
          exact pop (by omega) a st1 rfl hV
        · rw [if_pos (by rw [← ea]; exact z)] at hV
          exact jmp (by omega) hV
      · simp (decide := true) only [show nI 12 = 12 from rfl, not_true_eq_false, not_false_eq_true, false_implies, true_implies, and_true, true_and, ↓reduceIte]
        obtain ⟨a, st1, rfl⟩ := one (by omega)
        rw [List.length_cons] at h32
        have ea : a_stack (sA M 55 s) (ix (nI (a :: st1).length - 1)) = a := by rw [nI_l1, ixn (by omega)]; exact hs.1
        have hV2 : ev fc (f + 1) ((12, v) :: r) (a :: st1) = if a = 1 then ev fc f (r.drop v) (a :: st1) else ev fc f r st1 := rfl
        rw [hV2] at hV
        refine ⟨by rw [nI_l1]; exact bnd (n := 180) (by omega) (by omega) rfl, fun z => ?_, fun z => ?_⟩
        · rw [if_neg (fun y => z (by rw [ea]; exact y))] at hV
          exact pop (by omega) a st1 rfl hV
        · rw [if_pos (by rw [← ea]; exact z)] at hV
          exact jmp (by omega) hV
