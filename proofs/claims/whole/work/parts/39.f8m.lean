/-! the hours of the ash: the reference -/
def mH (M : StM) (e l : Nat → Int32) : StM := sA (sA M 95 e) 96 l
theorem sA_cm (S : StM) {j k : Nat} (h : j ≠ k) (u v : Nat → Int32) : sA (sA S j u) k v = sA (sA S k v) j u := by
  simp only [sA]
  congr 1
  funext i
  simp only [va_up]
  split
  · split
    · omega
    · rfl
  · rfl
theorem mH_95 (M : StM) (e l x : Nat → Int32) : sA (mH M e l) 95 x = mH M x l := by
  rw [mH, sA_cm _ (j := 96) (k := 95) (by decide), sA_tw, ← mH]
theorem mH_96 (M : StM) (e l x : Nat → Int32) : sA (mH M e l) 96 x = mH M e x := by
  rw [mH, sA_tw, ← mH]
theorem mH_e (M : StM) (e l : Nat → Int32) : a_early (mH M e l) = e := rfl
theorem mH_l (M : StM) (e l : Nat → Int32) : a_late (mH M e l) = l := rfl
theorem mH_self (M : StM) : mH M (a_early M) (a_late M) = M := by
  rw [mH]
  show sA (sA M 95 (M.2 95)) 96 (M.2 96) = M
  rw [sA_self, sA_self]
def sumN8 (f : Nat → Nat) : Nat → Nat
  | 0 => 0
  | n + 1 => sumN8 f n + f n
theorem sumN8_lt {f g : Nat → Nat} : ∀ {n : Nat}, (∀ v, v < n → f v ≤ g v) → sumN8 f n ≤ sumN8 g n ∧ ((∃ v, v < n ∧ f v < g v) → sumN8 f n < sumN8 g n) := by
  intro n
  induction n with
  | zero => intro _; exact ⟨Nat.le_refl _, fun ⟨v, hv, _⟩ => absurd hv (Nat.not_lt_zero v)⟩
  | succ n ih =>
    intro h
    obtain ⟨i1, i2⟩ := ih (fun v hv => h v (by omega))
    have hn := h n (by omega)
    refine ⟨by rw [sumN8, sumN8]; omega, fun ⟨v, hv, hlt⟩ => ?_⟩
    rw [sumN8, sumN8]
    by_cases c : v = n
    · subst c; omega
    · have := i2 ⟨v, by omega, hlt⟩
      omega
def muH (M : StM) (p : Nat) : Nat := sumN8 (fun v => ((hL M p v).toInt - (hE M p v).toInt).toNat) 8
theorem muH_lt {M : StM} {p : Nat} (g : hGood M (p + 1)) (h : ∃ v, v < 8 ∧ (hE M p v < hE M (p + 1) v ∨ hL M (p + 1) v < hL M p v)) : muH M (p + 1) < muH M p := by
  have mono : ∀ v, (hE M p v).toInt ≤ (hE M (p + 1) v).toInt ∧ (hL M (p + 1) v).toInt ≤ (hL M p v).toInt := fun v => ⟨Int32.le_iff_toInt_le.mp (hE_up v p 1), Int32.le_iff_toInt_le.mp (hL_dn v p 1)⟩
  refine (sumN8_lt (fun v hv => ?_)).2 ?_
  · have := mono v
    omega
  · obtain ⟨v, hv, h⟩ := h
    refine ⟨v, hv, ?_⟩
    have a := mono v
    have b := Int32.le_iff_toInt_le.mp (g v hv)
    rcases h with z | z
    · have := Int32.lt_iff_toInt_lt.mp z
      show ((hL M (p + 1) v).toInt - (hE M (p + 1) v).toInt).toNat < ((hL M p v).toInt - (hE M p v).toInt).toNat
      omega
    · have := Int32.lt_iff_toInt_lt.mp z
      show ((hL M (p + 1) v).toInt - (hE M (p + 1) v).toInt).toNat < ((hL M p v).toInt - (hE M p v).toInt).toNat
      omega
theorem ct_hours_40 {E : EvT} {q : Nat → Nat} {d : Nat} {X : StX} {M : StM} (hA : RAs X M) (P : Bool → StM → Prop) (h1 : ¬ HrOK M → ∀ e l, P false (mH M e l)) (h2 : HrOK M → ∀ e l, eq8 e (hE M 7) → eq8 l (hL M 7) → P true (mH M e l)) : ∀ m p e l fl, muH M p < m → eq8 e (hE M p) → eq8 l (hL M p) → hGood M p → (fl = 0 ∧ hOk M p ∨ fl = 1) → T_hours_40 E q d P (mH M e l) fl := by
  obtain ⟨en, n40⟩ := hA.cu
  intro m
  induction m with
  | zero => intro p e l fl hm; omega
  | succ m ih =>
    intro p e l fl hm he hl hg hf
    refine sg_hours_40 ⟨fun z => ?_, fun z => ?_⟩
    · rcases hf with ⟨-, o⟩ | y
      · have H := hOk_7 hA o hg
        obtain ⟨q1, q2⟩ := hOk_eq o H.1
        exact h2 H e l (by rw [← q1]; exact he) (by rw [← q2]; exact hl)
      · subst y; exact absurd z (by decide)
    have key := up_s (W := nCu M) (T := fun i (y : (Nat → Int32) × (Nat → Int32) × Int32) => T_hours_48 E q d P (mH M y.1 y.2.1) y.2.2 (nI i)) (J := fun i y => eq8 y.1 (hEi M p i) ∧ eq8 y.2.1 (hLi M p i) ∧ FlI M p i y.2.2 ∧ ∀ v, v < 8 → hEi M p i v ≤ hLi M p i v) ?_ ?_ 0 (e, l, 0) (by omega) ⟨he, hl, Or.inl ⟨rfl, fun j hj => absurd hj (Nat.not_lt_zero j)⟩, hg⟩
    · exact key
    · rintro ⟨e', l', fl'⟩ ⟨je, jl, jf, jg⟩
      refine sg_hours_48 ⟨fun _ => ?_, fun z => absurd (by show s_cuts M ≤ _; rw [en]; exact Int32.le_refl _) z⟩
      have jg : hGood M (p + 1) := jg
      have jf : FlI M p (nCu M) fl' := jf
      rcases Classical.em (fl' = 0) with c | c
      · subst c
        have o := jf.no
        obtain ⟨q1, q2⟩ := hOk_st o 1
        have o' : hOk M (p + 1) := by
          rw [hOk, q1, q2]
          exact o
        have je : eq8 e' (hE M (p + 1)) := je
        have jl : eq8 l' (hL M (p + 1)) := jl
        refine sg_hours_40 ⟨fun _ => ?_, fun z => absurd rfl z⟩
        have H := hOk_7 hA o' jg
        obtain ⟨q1, q2⟩ := hOk_eq o' H.1
        exact h2 H e' l' (by rw [← q1]; exact je) (by rw [← q2]; exact jl)
      · have c1 : fl' = 1 := by
          rcases jf with ⟨z, -⟩ | ⟨z, -⟩
          · exact absurd z c
          · exact z
        subst c1
        have := muH_lt jg jf.yes.2
        exact ih (p + 1) e' l' 1 (by omega) je jl jg (Or.inr rfl)
    · rintro i ⟨e', l', fl'⟩ hi ⟨je, jl, jf, jg⟩ kk
      have je : eq8 e' (hEi M p i) := je
      have jl : eq8 l' (hLi M p i) := jl
      have jf : FlI M p i fl' := jf
      have jg : ∀ v, v < 8 → hEi M p i v ≤ hLi M p i v := jg
      obtain ⟨ba, bb⟩ := hA.2.2.1 i hi
      obtain ⟨a8, b8⟩ := hA.lt8 hi
      have fin : ∀ e2 l2 f2, eq8 e2 (hEi M p (i + 1)) → eq8 l2 (hLi M p (i + 1)) → FlI M p (i + 1) f2 → (l2 (cA M i) < e2 (cA M i) → P false (mH M e2 l2)) ∧ (¬ l2 (cA M i) < e2 (cA M i) → (e2 (cB M i) ≤ l2 (cB M i) → T_hours_48 E q d P (mH M e2 l2) f2 (nI i + 1)) ∧ (¬ e2 (cB M i) ≤ l2 (cB M i) → P false (mH M e2 l2))) := by
        intro e2 l2 f2 k1 k2 k3
        refine ⟨fun z => h1 (hCross (p := p) (i := i + 1) hi a8 (by rw [← k1 _ a8, ← k2 _ a8]; exact z)) _ _, fun z1 => ⟨fun z2 => ?_, fun z => h1 (hCross (p := p) (i := i + 1) hi b8 (by rw [← k1 _ b8, ← k2 _ b8]; exact Int32.not_le.mp z)) _ _⟩⟩
        rw [nI_s]
        refine kk (e2, l2, f2) ⟨k1, k2, k3, fun v hv => ?_⟩
        by_cases ca : v = cA M i
        · subst ca; rw [← k1 _ hv, ← k2 _ hv]; exact Int32.not_lt.mp z1
        by_cases cb : v = cB M i
        · subst cb; rw [← k1 _ hv, ← k2 _ hv]; exact z2
        have x1 : hEi M p (i + 1) v = hEi M p i v := by
          show stG rE8 fE (cA M i) (cB M i) (hEi M p i) v = _
          rw [stG]
          split
          · rfl
          · rw [upd_ne ca]
        have x2 : hLi M p (i + 1) v = hLi M p i v := by
          show stG rL8 fL (cB M i) (cA M i) (hLi M p i) v = _
          rw [stG]
          split
          · rfl
          · rw [upd_ne cb]
        rw [x1, x2]
        exact jg v hv
      have sE : eq8 (stG rE8 fE (cA M i) (cB M i) e') (hEi M p (i + 1)) := stG_c a8 b8 je
      have sL : eq8 (stG rL8 fL (cB M i) (cA M i) l') (hLi M p (i + 1)) := stG_c b8 a8 jl
      have fl1 := FlI.step hA hi jf (s1 := rE8 (e' (cB M i)) (e' (cA M i))) (s2 := rL8 (l' (cA M i)) (l' (cB M i))) (by rw [je _ a8, je _ b8]) (by rw [jl _ a8, jl _ b8])
      refine sg_hours_48 ⟨fun z => absurd z (by show ¬ s_cuts M ≤ _; exact nle_nI hi (by omega) en), fun _ => ⟨bnd (n := 40) (by omega) (by omega) rfl, ?_⟩⟩
      rw [ixn (show i < 2 ^ 31 by omega)]
      refine ⟨ba, bb, ?_⟩
      show (e' (cB M i) + 1 ≤ e' (cA M i) → (l' (cB M i) ≤ l' (cA M i) - 1 → _) ∧ (¬ l' (cB M i) ≤ l' (cA M i) - 1 → _)) ∧ (¬ e' (cB M i) + 1 ≤ e' (cA M i) → (l' (cB M i) ≤ l' (cA M i) - 1 → _) ∧ (¬ l' (cB M i) ≤ l' (cA M i) - 1 → _))
      simp only [mH_95, mH_96]
      refine ⟨fun c1 => ⟨fun c2 => ?_, fun c2 => ?_⟩, fun c1 => ⟨fun c2 => ?_, fun c2 => ?_⟩⟩
      · have d1 : rE8 (e' (cB M i)) (e' (cA M i)) = true := decide_eq_true c1
        have d2 : rL8 (l' (cA M i)) (l' (cB M i)) = true := decide_eq_true c2
        rw [stG, if_pos d1] at sE
        rw [stG, if_pos d2] at sL
        rw [if_pos ⟨d1, d2⟩] at fl1
        exact fin e' l' fl' sE sL fl1
      · have d1 : rE8 (e' (cB M i)) (e' (cA M i)) = true := decide_eq_true c1
        have d2 : ¬ rL8 (l' (cA M i)) (l' (cB M i)) = true := fun z => c2 (of_decide_eq_true z)
        rw [stG, if_pos d1] at sE
        rw [stG, if_neg d2] at sL
        rw [if_neg (fun z => d2 z.2)] at fl1
        exact fin e' _ 1 sE sL fl1
      · have d1 : ¬ rE8 (e' (cB M i)) (e' (cA M i)) = true := fun z => c1 (of_decide_eq_true z)
        have d2 : rL8 (l' (cA M i)) (l' (cB M i)) = true := decide_eq_true c2
        rw [stG, if_neg d1] at sE
        rw [stG, if_pos d2] at sL
        rw [if_neg (fun z => d1 z.1)] at fl1
        exact fin _ l' 1 sE sL fl1
      · have d1 : ¬ rE8 (e' (cB M i)) (e' (cA M i)) = true := fun z => c1 (of_decide_eq_true z)
        have d2 : ¬ rL8 (l' (cA M i)) (l' (cB M i)) = true := fun z => c2 (of_decide_eq_true z)
        rw [stG, if_neg d1] at sE
        rw [stG, if_neg d2] at sL
        rw [if_neg (fun z => d1 z.1)] at fl1
        exact fin _ _ 1 sE sL fl1
theorem ct_hours {E : EvT} {q : Nat → Nat} {d : Nat} {X : StX} {M : StM} (hA : RAs X M) (P : Bool → StM → Prop) (h1 : ¬ HrOK M → ∀ e l, P false (mH M e l)) (h2 : HrOK M → ∀ e l, eq8 e (hE M 7) → eq8 l (hL M 7) → P true (mH M e l)) : C_hours E q d M P := by
  refine en_hours ?_
  have key := up_s (W := 8) (T := fun i (y : (Nat → Int32) × (Nat → Int32)) => T_hours_2 E q d P (mH M y.1 y.2) (nI i)) (J := fun i y => ∀ v, v < i → y.1 v = a_hourFrom M v ∧ y.2 v = a_hourTo M v) ?_ ?_ 0 (a_early M, a_late M) (by omega) (fun v hv => absurd hv (Nat.not_lt_zero v))
  · rw [show mH M (a_early M, a_late M).1 (a_early M, a_late M).2 = M from mH_self M] at key
    exact key
  · rintro ⟨e, l⟩ hJ
    refine sg_hours_2 ⟨fun _ => ?_, fun z => absurd (by decide) z⟩
    exact ct_hours_40 hA P h1 h2 (muH M 0 + 1) 0 e l 1 (by omega) (fun v hv => (hJ v hv).1) (fun v hv => (hJ v hv).2) (fun v hv => (hA.2.2.2.1 v hv).2.1) (Or.inr rfl)
  · rintro i ⟨e, l⟩ hi hJ kk
    refine sg_hours_2 ⟨fun z => absurd z (nle_nI (n := 8) hi (by omega) rfl), fun _ => ⟨bnd (n := 8) hi (by omega) rfl, ?_⟩⟩
    rw [ixn (show i < 2 ^ 31 by omega), mH_95, mH_96, nI_s]
    refine kk (upd e i (a_hourFrom M i), upd l i (a_hourTo M i)) (fun v hv => ?_)
    by_cases c : v = i
    · subst c
      exact ⟨upd_eq, upd_eq⟩
    · have := hJ v (by omega)
      exact ⟨(upd_ne c).trans this.1, (upd_ne c).trans this.2⟩
