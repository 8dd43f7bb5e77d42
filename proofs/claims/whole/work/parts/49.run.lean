/-! the numbers by rules -/
def lastC (T : List Cl) (row : Nat → Bool) (fc : Nat → Int32) (L : Nat) : Nat → Int32
  | 0 => -1
  | c + 1 => if (clT T c).1 = L ∧ row c = false ∧ evC fc (clT T c).2.2.2 = true then nI (clT T c).2.1 else lastC T row fc L c
def lastB (B : BkT) (fr : Nat → Bool) (fc : Nat → Int32) (L i : Nat) : Int32 := lastC (txB B i) (skF fr B i) fc L (txB B i).length
def numD (B : BkT) (fr : Nat → Bool) (fc : Nat → Int32) (L : Nat) (wo : Int32) : Nat → Int32
  | 0 => wo
  | i + 1 => if fr i = true ∧ ¬ lastB B fr fc L i = -1 then lastB B fr fc L i else numD B fr fc L wo i
def numV (B : BkT) (M : StM) (fc : Nat → Int32) (L : Nat) (wo : Int32) : Int32 := numD B (frM M (fc 0)) fc L wo B.length
def mNb (M : StM) (t s : Nat → Int32) : StM := sA (sA M 54 t) 55 s
theorem mNb_55 (M : StM) (t s x : Nat → Int32) : sA (mNb M t s) 55 x = mNb M t x := by rw [mNb, sA_tw, ← mNb]
theorem ct_numberBy {E : EvT} {q : Nat → Nat} {d : Nat} {B : BkT} {X : StX} {M : StM} (hR : RRu B X M) {fc : Nat → Int32} (hfc : ∀ k, k < 5 → a_facts M k = fc k) {L : Nat} (hL : L < 128) {wo : Int32} : C_numberBy E q (d + 3) (nI L) wo M (fun r M1 => r = numV B M fc L wo ∧ ∃ t s, M1 = mNb M t s) := by
  refine en_numberBy ?_
  rw [show a_facts M (ix 0) = fc 0 from hfc 0 (by omega)]
  refine mV (ct_strikes hR) (fun M1 h => ?_)
  obtain ⟨t, rfl, ht⟩ := h
  obtain ⟨⟨r1, r2, r3⟩, -, -, r4⟩ := hR
  have outer : ∀ i, i ≤ B.length → numD B (frM M (fc 0)) fc L wo i = numV B M fc L wo → ∀ s, T_numberBy_17 E q (d + 3) (fun r M1 => r = numV B M fc L wo ∧ ∃ t s, M1 = mNb M t s) (mNb M t s) (nI L) wo (nI i - 1) := by
    intro i
    induction i with
    | zero =>
      intro _ hv s
      exact sg_numberBy_17 ⟨fun _ => ⟨hv, t, s, rfl⟩, fun z => absurd (by decide) z⟩
    | succ i ih =>
      intro hi hv s
      obtain ⟨o1, o2, o3, o4⟩ := r4 i (by omega)
      obtain ⟨t10, t160, tcl⟩ := o1
      have bi : (0 : Int32) ≤ nI i ∧ nI i < 20 := bnd (n := 20) (by omega) (by omega) rfl
      rw [nI_p']
      refine sg_numberBy_17 ⟨fun z => absurd z (nI_pos (by omega)), fun _ => ⟨bi, ?_⟩⟩
      rw [ixn (show i < 2 ^ 31 by omega), show a_clauseMany (mNb M t s) i = nI (txB B i).length from o3]
      have ff : mForce (mNb M t s) (nI i) (a_facts (mNb M t s) (ix 0)) = frM M (fc 0) i := by
        rw [show a_facts (mNb M t s) (ix 0) = fc 0 from hfc 0 (by omega)]; rfl
      rw [numD] at hv
      by_cases hfr : frM M (fc 0) i = true
      · have inner : ∀ c, c ≤ (txB B i).length → (if lastC (txB B i) (skF (frM M (fc 0)) B i) fc L c = -1 then numD B (frM M (fc 0)) fc L wo i else lastC (txB B i) (skF (frM M (fc 0)) B i) fc L c) = numV B M fc L wo → ∀ s, T_numberBy_31 E q (d + 3) (fun r M1 => r = numV B M fc L wo ∧ ∃ t s, M1 = mNb M t s) (mNb M t s) (nI L) wo (nI i) (nI c - 1) := by
          intro c
          induction c with
          | zero =>
            intro _ hv2 s
            refine sg_numberBy_31 ⟨fun _ => ?_, fun z => absurd (by decide) z⟩
            rw [nmi]
            exact ih (by omega) (by rw [← hv2]; rfl) s
          | succ c ihc =>
            intro hc hv2 s
            obtain ⟨l1, l2, l3, l4, l5, l6⟩ := o4 c (by omega)
            obtain ⟨z1, z2, z3, z4, z5, -⟩ := tcl c (by omega)
            have ff : mForce (mNb M t s) (nI i) (a_facts (mNb M t s) (ix 0)) = frM M (fc 0) i := by
              rw [show a_facts (mNb M t s) (ix 0) = fc 0 from hfc 0 (by omega)]; rfl
            rw [nI_p']
            refine sg_numberBy_31 ⟨fun z => absurd z (nI_pos (by omega)), fun _ => ⟨bi, fun z => absurd (hfr.symm.trans (ff.symm.trans z)) (by decide), fun _ => ?_⟩⟩
            rw [m10, nI_add, ixn (show 10 * i + c < 2 ^ 31 by omega), show a_letterOf (mNb M t s) (10 * i + c) = nI (clT (txB B i) c).1 from l1, show a_isStruck (mNb M t s) (10 * i + c) = b2i (skF (frM M (fc 0)) B i c) from (ht i (by omega) c (by omega)).trans (by rw [hfr, Bool.and_true]), b2i_0, nI_eq (by omega) (by omega)]
            have nx : ¬ ((clT (txB B i) c).1 = L ∧ skF (frM M (fc 0)) B i c = false ∧ evC fc (clT (txB B i) c).2.2.2 = true) → ∀ s, T_numberBy_31 E q (d + 3) (fun r M1 => r = numV B M fc L wo ∧ ∃ t s, M1 = mNb M t s) (mNb M t s) (nI L) wo (nI i) (nI c + (-1)) := by
              intro n s
              rw [nmi]
              rw [lastC, if_neg n] at hv2
              exact ihc (by omega) hv2 s
            refine ⟨bnd (n := 200) (by omega) (by omega) rfl, fun n1 => nx (fun y => n1 y.1) s, fun y1 => ⟨fun n2 => nx (fun y => n2 y.2.1) s, fun y2 => ?_⟩⟩
            refine mB (ct_isTrue (M := mNb M t s) (r4 i (by omega)).1 (show TxM (txB B i) (mNb M t s) i from (r4 i (by omega)).2.2) (by omega) (by omega) (fun k hk => hfc k hk)) (fun b M1 h => ?_)
            obtain ⟨rfl, s', rfl⟩ := h
            rw [mNb_55]
            refine ⟨fun n3 => nx (fun y => by rw [n3] at y; exact Bool.noConfusion y.2.2) s', fun y3 => ?_⟩
            refine ⟨?_, t, s', rfl⟩
            rw [show a_nOf (mNb M t s') (10 * i + c) = nI (clT (txB B i) c).2.1 from l2]
            have e0 : lastC (txB B i) (skF (frM M (fc 0)) B i) fc L (c + 1) = nI (clT (txB B i) c).2.1 := by rw [lastC, if_pos ⟨y1, y2, y3⟩]
            rw [e0, if_neg (nI_ne1 (by omega))] at hv2
            exact hv2
        refine inner _ (Nat.le_refl _) ?_ s
        show (if lastB B (frM M (fc 0)) fc L i = -1 then _ else lastB B (frM M (fc 0)) fc L i) = _
        by_cases e : lastB B (frM M (fc 0)) fc L i = -1
        · rw [if_neg (fun y => y.2 e)] at hv
          rw [if_pos e]; exact hv
        · rw [if_pos ⟨hfr, e⟩] at hv
          rw [if_neg e]; exact hv
      · rw [if_neg (fun y => hfr y.1)] at hv
        have hff : frM M (fc 0) i = false := by simpa using hfr
        refine sg_numberBy_31 ⟨fun _ => ?_, fun _ => ⟨bi, fun _ => ?_, fun z => absurd (hff.symm.trans (ff.symm.trans z)) (by decide)⟩⟩
        · rw [nmi]; exact ih (by omega) hv s
        · rw [nmi]; exact ih (by omega) hv s
  rw [show s_ruleMany0 (sA M 54 t) = nI B.length from r2]
  have := outer B.length (Nat.le_refl _) rfl (a_stack (sA M 54 t))
  rw [show mNb M t (a_stack (sA M 54 t)) = sA M 54 t from sA_self (sA M 54 t) 55] at this
  exact this
/-! the lines' numberings -/
def linC (T : List Cl) (row : Nat → Bool) (fc : Nat → Int32) (c v : Nat) : Prop := (clT T c).1 = 110 ∧ row c = false ∧ evC fc (clT T c).2.2.2 = true ∧ (clT T c).2.1 = v
def linQ (B : BkT) (fr : Nat → Bool) (fc : Nat → Int32) (i c v : Nat) : Prop := i < B.length ∧ fr i = true ∧ c < (txB B i).length ∧ linC (txB B i) (skF fr B i) fc c v
def linP (B : BkT) (fr : Nat → Bool) (fc : Nat → Int32) (v : Nat) : Prop := ∃ i c, linQ B fr fc i c v
noncomputable def dcd (p : Prop) : Bool := @decide p (Classical.propDecidable p)
theorem dcd_t {p : Prop} : dcd p = true ↔ p := @decide_eq_true_iff p (Classical.propDecidable p)
theorem dcd_f {p : Prop} : dcd p = false ↔ ¬ p := @decide_eq_false_iff_not p (Classical.propDecidable p)
theorem dcd_c {p p' : Prop} (h : p ↔ p') : dcd p = dcd p' := by rw [Bool.eq_iff_iff, dcd_t, dcd_t]; exact h
noncomputable def linV (B : BkT) (M : StM) (fc : Nat → Int32) : Int32 := if bitsP (fun v => dcd (linP B (frM M (fc 0)) fc v)) 4 = 0 then 15 else bitsP (fun v => dcd (linP B (frM M (fc 0)) fc v)) 4
/-- a row of bits is just the numbers of which p holds -/
def isB (p : Nat → Prop) (y : Int32) : Prop := y = bitsP (fun v => dcd (p v)) 4
theorem isB.cong {p p' : Nat → Prop} {y : Int32} (h : isB p y) (e : ∀ v, p v ↔ p' v) : isB p' y := by
  rw [isB] at *
  rw [h]
  apply bitsP_cong
  intro j _
  exact dcd_c (e j)
theorem isB.zero {p : Nat → Prop} (h : ∀ v, ¬ p v) : isB p 0 := by
  rw [isB]
  have : bitsP (fun v => dcd (p v)) 4 = 0 := (bitsP_0 (by omega)).mpr (fun j _ => dcd_f.mpr (h j))
  exact this.symm
theorem bitsP_or {p : Nat → Bool} {n v : Nat} (hn : n ≤ 30) (hv : v < n) : bitsP p n ||| ((1 : Int32) <<< (nI v &&& 31)) = bitsP (fun b => decide (b = v) || p b) n := by
  rw [sh1 v (by omega), bitsP, nor, bitsP]
  congr 1
  apply Nat.eq_of_testBit_eq
  intro j
  rw [Nat.testBit_or, bitsN_tb, bitsN_tb, Nat.testBit_two_pow]
  by_cases e : v = j
  · subst e; simp [hv]
  · have : ¬ j = v := fun y => e y.symm
    simp [e, this]
theorem bitsP_oo {p p' : Nat → Bool} {n : Nat} : bitsP p n ||| bitsP p' n = bitsP (fun b => p b || p' b) n := by
  rw [bitsP, bitsP, nor, bitsP]
  congr 1
  apply Nat.eq_of_testBit_eq
  intro j
  rw [Nat.testBit_or, bitsN_tb, bitsN_tb, bitsN_tb]
  cases decide (j < n) <;> simp
theorem isB.add {p : Nat → Prop} {y : Int32} (h : isB p y) {v : Nat} (hv : v < 4) : isB (fun b => b = v ∨ p b) (y ||| ((1 : Int32) <<< (nI v &&& 31))) := by
  rw [isB] at *
  rw [h, bitsP_or (by omega) hv]
  apply bitsP_cong
  intro j _
  rw [Bool.eq_iff_iff, Bool.or_eq_true, decide_eq_true_iff, dcd_t, dcd_t]
theorem isB.or {p p' : Nat → Prop} {y y' : Int32} (h : isB p y) (h' : isB p' y') : isB (fun b => p b ∨ p' b) (y ||| y') := by
  rw [isB] at *
  rw [h, h', bitsP_oo]
  apply bitsP_cong
  intro j _
  rw [Bool.eq_iff_iff, Bool.or_eq_true, dcd_t, dcd_t, dcd_t]
theorem ct_numberings {E : EvT} {q : Nat → Nat} {d : Nat} {B : BkT} {X : StX} {M : StM} (hR : RRu B X M) {fc : Nat → Int32} (hfc : ∀ k, k < 5 → a_facts M k = fc k) : C_numberings E q (d + 3) M (fun r M1 => r = linV B M fc ∧ ∃ t s, M1 = mNb M t s) := by
  refine en_numberings ?_
  rw [show a_facts M (ix 0) = fc 0 from hfc 0 (by omega)]
  refine mV (ct_strikes hR) (fun M1 h => ?_)
  obtain ⟨t, rfl, ht⟩ := h
  obtain ⟨⟨r1, r2, r3⟩, -, -, r4⟩ := hR
  have outer := up_s (W := B.length) (T := fun i (z : Int32 × (Nat → Int32)) => T_numberings_14 E q (d + 3) (fun r M1 => r = linV B M fc ∧ ∃ t s, M1 = mNb M t s) (mNb M t z.2) z.1 (nI i)) (J := fun i z => isB (fun v => ∃ i', i' < i ∧ ∃ c, linQ B (frM M (fc 0)) fc i' c v) z.1) ?_ ?_ 0 (0, a_stack (sA M 54 t)) (by omega) (isB.zero (fun v ⟨i', h, _⟩ => absurd h (Nat.not_lt_zero i')))
  · rw [show mNb M t (0, a_stack (sA M 54 t)).2 = sA M 54 t from sA_self (sA M 54 t) 55] at outer
    exact outer
  · rintro ⟨y, s⟩ hy
    have hy : isB (linP B (frM M (fc 0)) fc) y := hy.cong (fun v => ⟨fun ⟨i, _, c, h⟩ => ⟨i, c, h⟩, fun ⟨i, c, h⟩ => ⟨i, h.1, c, h⟩⟩)
    rw [isB] at hy
    refine sg_numberings_14 ⟨fun _ => ⟨fun z => ⟨?_, t, s, rfl⟩, fun z => ⟨?_, t, s, rfl⟩⟩, fun z => absurd (by rw [show s_ruleMany0 (mNb M t s) = nI B.length from r2]; exact Int32.le_refl _) z⟩
    · rw [linV, ← hy, if_neg z]
    · rw [linV, ← hy, if_pos z]
  · rintro i ⟨y, s⟩ hi hy kk
    obtain ⟨o1, o2, o3, o4⟩ := r4 i hi
    obtain ⟨t10, t160, tcl⟩ := o1
    have bi : (0 : Int32) ≤ nI i ∧ nI i < 20 := bnd (n := 20) (by omega) (by omega) rfl
    refine sg_numberings_14 ⟨fun z => absurd z (by rw [show s_ruleMany0 (mNb M t s) = nI B.length from r2]; exact nI_ge hi (by omega)), fun _ => ?_⟩
    have ff : ∀ s, mForce (mNb M t s) (nI i) (a_facts (mNb M t s) (ix 0)) = frM M (fc 0) i := by
      intro s
      rw [show a_facts (mNb M t s) (ix 0) = fc 0 from hfc 0 (by omega)]; rfl
    by_cases hfr : frM M (fc 0) i = true
    · have inner := up_s (W := (txB B i).length) (T := fun c (z : Int32 × (Nat → Int32)) => T_numberings_24 E q (d + 3) (fun r M1 => r = linV B M fc ∧ ∃ t s, M1 = mNb M t s) (mNb M t z.2) z.1 (nI i) (nI c)) (J := fun c z => isB (fun v => (∃ i', i' < i ∧ ∃ c, linQ B (frM M (fc 0)) fc i' c v) ∨ ∃ c', c' < c ∧ linQ B (frM M (fc 0)) fc i c' v) z.1) ?_ ?_ 0 (y, s) (by omega) (hy.cong (fun v => ⟨fun h => Or.inl h, fun h => h.elim id (fun ⟨c', h, _⟩ => absurd h (Nat.not_lt_zero c'))⟩))
      · exact inner
      · rintro ⟨y, s⟩ hy
        refine sg_numberings_24 ⟨bi, fun _ => ?_, fun z => absurd ?_ z⟩
        · rw [nI_s]
          refine kk (y, s) (hy.cong (fun v => ⟨fun h => ?_, fun h => ?_⟩))
          · rcases h with ⟨i', h, h2⟩ | ⟨c', h, h2⟩
            · exact ⟨i', by omega, h2⟩
            · exact ⟨i, by omega, c', h2⟩
          · obtain ⟨i', h, c, h2⟩ := h
            by_cases e : i' = i
            · subst e; exact Or.inr ⟨c, h2.2.2.1, h2⟩
            · exact Or.inl ⟨i', by omega, c, h2⟩
        · rw [ixn (show i < 2 ^ 31 by omega), show a_clauseMany (mNb M t s) i = nI (txB B i).length from o3]; exact Int32.le_refl _
      · rintro c ⟨y, s⟩ hc hy kk2
        obtain ⟨l1, l2, l3, l4, l5, l6⟩ := o4 c hc
        obtain ⟨z1, z2, z3, z4, z5, -⟩ := tcl c hc
        have nx : ¬ ((clT (txB B i) c).1 = 110 ∧ skF (frM M (fc 0)) B i c = false ∧ evC fc (clT (txB B i) c).2.2.2 = true) → ∀ s, T_numberings_24 E q (d + 3) (fun r M1 => r = linV B M fc ∧ ∃ t s, M1 = mNb M t s) (mNb M t s) y (nI i) (nI c + 1) := by
          intro n s
          rw [nI_s]
          refine kk2 (y, s) (hy.cong (fun v => ⟨fun h => ?_, fun h => ?_⟩))
          · rcases h with h | ⟨c', h, h2⟩
            · exact Or.inl h
            · exact Or.inr ⟨c', by omega, h2⟩
          · rcases h with h | ⟨c', h, h2⟩
            · exact Or.inl h
            · by_cases e : c' = c
              · subst e; exact absurd ⟨h2.2.2.2.1, h2.2.2.2.2.1, h2.2.2.2.2.2.1⟩ n
              · exact Or.inr ⟨c', by omega, h2⟩
        refine sg_numberings_24 ⟨bi, fun z => absurd z ?_, fun _ => ⟨bi, fun z => absurd (hfr.symm.trans ((ff s).symm.trans z)) (by decide), fun _ => ?_⟩⟩
        · rw [ixn (show i < 2 ^ 31 by omega), show a_clauseMany (mNb M t s) i = nI (txB B i).length from o3]; exact nI_ge hc (by omega)
        rw [m10, nI_add, ixn (show 10 * i + c < 2 ^ 31 by omega), show a_letterOf (mNb M t s) (10 * i + c) = nI (clT (txB B i) c).1 from l1, show a_isStruck (mNb M t s) (10 * i + c) = b2i (skF (frM M (fc 0)) B i c) from (ht i (by omega) c (by omega)).trans (by rw [hfr, Bool.and_true]), b2i_0, show (110 : Int32) = nI 110 from rfl, nI_eq (by omega) (by omega)]
        refine ⟨bnd (n := 200) (by omega) (by omega) rfl, fun n1 => nx (fun y => n1 y.1) s, fun y1 => ⟨fun n2 => nx (fun y => n2 y.2.1) s, fun y2 => ?_⟩⟩
        refine mB (ct_isTrue (M := mNb M t s) (r4 i (by omega)).1 (show TxM (txB B i) (mNb M t s) i from (r4 i (by omega)).2.2) (by omega) (by omega) (fun k hk => hfc k hk)) (fun b M1 h => ?_)
        obtain ⟨rfl, s', rfl⟩ := h
        rw [mNb_55]
        refine ⟨fun n3 => nx (fun y => by rw [n3] at y; exact Bool.noConfusion y.2.2) s', fun y3 => ?_⟩
        rw [show a_nOf (mNb M t s') (10 * i + c) = nI (clT (txB B i) c).2.1 from l2, nI_s]
        have v3 := z3 y1
        refine kk2 (_, s') ((hy.add (v := (clT (txB B i) c).2.1) (by omega)).cong (fun v => ⟨fun h => ?_, fun h => ?_⟩))
        · rcases h with h | h | ⟨c', h, h2⟩
          · exact Or.inr ⟨c, by omega, hi, hfr, hc, y1, y2, y3, h.symm⟩
          · exact Or.inl h
          · exact Or.inr ⟨c', by omega, h2⟩
        · rcases h with h | ⟨c', h, h2⟩
          · exact Or.inr (Or.inl h)
          · by_cases e : c' = c
            · subst e; exact Or.inl h2.2.2.2.2.2.2.symm
            · exact Or.inr (Or.inr ⟨c', by omega, h2⟩)
    · have hff : frM M (fc 0) i = false := by simpa using hfr
      have go : T_numberings_14 E q (d + 3) (fun r M1 => r = linV B M fc ∧ ∃ t s, M1 = mNb M t s) (mNb M t s) y (nI i + 1) := by
        rw [nI_s]
        refine kk (y, s) (hy.cong (fun v => ⟨fun ⟨i', h, h2⟩ => ⟨i', by omega, h2⟩, fun ⟨i', h, c, h2⟩ => ?_⟩))
        by_cases e : i' = i
        · subst e; exact absurd h2.2.1 hfr
        · exact ⟨i', by omega, c, h2⟩
      exact sg_numberings_24 ⟨bi, fun _ => go, fun _ => ⟨bi, fun _ => go, fun z => absurd (hff.symm.trans ((ff s).symm.trans z)) (by decide)⟩⟩
