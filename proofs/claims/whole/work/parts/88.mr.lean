/-! the reference's rules: the question -/
def ruOk (S : StM) (i : Nat) (x1 x2 x3 : Int32) : Prop := mWeek x1 = true ∧ mIn x2 x1 9999 = true ∧ mIn x3 1 160 = true ∧ ¬ s_taped S < x3 ∧ ¬ i = 20
theorem ru_rules {E : EvT} {q : Nat → Nat} {d : Nat} {S : StM} {i : Nat} {x1 x2 x3 : Int32} {P : Int32 → StM → Prop} (hi : s_ruleMany0 S = nI i) (i20 : i ≤ 20) (h0 : ¬ ruOk S i x1 x2 x3 → P (-1) S) (h1 : ruOk S i x1 x2 x3 → C_readsClause E q (d + 7) (sI (sI (sI (sI S 29 0) 30 x3) 34 0) 36 0) (fun r6 S7 => T_rules_74 E q (d + 8) P S7 x1 x2 (b2i r6))) : C_rules E q (d + 8) x1 x2 x3 S P := by
  refine en_rules ⟨fun a => h0 (fun k => absurd (k.1.symm.trans a) (by decide)), fun a => ⟨fun b => h0 (fun k => absurd (k.2.1.symm.trans b) (by decide)), fun b => ⟨fun c => h0 (fun k => absurd (k.2.2.1.symm.trans c) (by decide)), fun c => ⟨fun e => h0 (fun k => k.2.2.2.1 e), fun e => ⟨fun g => h1 ⟨a, b, c, e, fun w => g ?_⟩, fun g => h0 (fun k => k.2.2.2.2 ?_)⟩⟩⟩⟩⟩
  · rw [hi, w]; rfl
  · rw [hi] at g
    exact (nI_eq (b := 20) (by omega) (by omega)).mp g
theorem ru_len {x3 : Int32} (h : mIn x3 1 160 = true) : ∃ L, x3 = nI L ∧ 1 ≤ L ∧ L ≤ 160 := by
  rw [mIn, decide_eq_true_eq] at h
  obtain ⟨a, b⟩ := h
  have h0 : 0 ≤ x3 := Int32.le_trans (by decide) a
  obtain ⟨e, k⟩ := cnt (m := 160) (n := 160) rfl (by omega) h0 b
  refine ⟨ix x3, e, ?_, k⟩
  refine Decidable.byContradiction (fun w => ?_)
  rw [e, show ix x3 = 0 by omega] at a
  revert a
  decide
theorem b255 (x : Int32) : ∃ n, x &&& 255 = nI n ∧ n < 256 := by
  refine ⟨(x &&& 255).toUInt32.toNat, ?_, ?_⟩
  · show _ = Int32.ofUInt32 (UInt32.ofNat _)
    rw [UInt32.ofNat_toNat]
  · have : (x &&& 255).toUInt32 = x.toUInt32 &&& 255 := rfl
    rw [this, UInt32.toNat_and]
    exact Nat.lt_of_le_of_lt Nat.and_le_right (by decide)
/-- the bytes on the tape -/
theorem tp_bytes (f : Nat → Int32) : ∃ bt : Nat → Nat, ∀ p, f p &&& 255 = nI (bt p) ∧ bt p < 256 := ⟨fun p => (f p &&& 255).toUInt32.toNat, fun p => by
  obtain ⟨n, h1, h2⟩ := b255 (f p)
  have e : (f p &&& 255).toUInt32.toNat = n := by
    rw [h1]
    show (UInt32.ofNat n).toNat = n
    rw [UInt32.toNat_ofNat']
    exact Nat.mod_eq_of_lt (by omega)
  dsimp only
  rw [e]
  exact ⟨h1, h2⟩⟩
