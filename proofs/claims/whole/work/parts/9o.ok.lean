/-! the start: both sides stand together -/
theorem z0 {i : Nat} {a : Int32} (h : i < ix a) (e : a = 0) : False := by
  subst e
  exact absurd h (by decide +revert)
set_option maxRecDepth 20000 in
theorem OK_start : OK S0X (S1M 8) := by
  refine ⟨[], ⟨rfl, rfl, rfl, by decide +kernel, by decide +kernel, by decide +kernel, rfl⟩, ⟨rfl, rfl, rfl, rfl, by decide +kernel, fun p hp => (z0 hp rfl).elim, fun c hc => ⟨Or.inl ?_, fun p hp => (z0 hp rfl).elim⟩⟩, ⟨⟨rfl, rfl, rfl, rfl, rfl, rfl, rfl, rfl, rfl, rfl⟩, by decide +kernel, fun i hi => (z0 hi rfl).elim, ?_⟩, ⟨⟨rfl, rfl, rfl, rfl⟩, by decide +kernel, fun i hi => (z0 hi rfl).elim⟩, ⟨⟨rfl, rfl⟩, by decide +kernel⟩, ⟨⟨rfl, rfl, rfl, rfl, rfl, rfl⟩, by decide +kernel, fun i hi => (z0 hi rfl).elim, fun i hi => (z0 hi rfl).elim, fun i hi => (z0 hi rfl).elim, ⟨0, rfl, Nat.zero_le _, ?_⟩⟩, ⟨⟨rfl, rfl, rfl, rfl, rfl, rfl, rfl, rfl, rfl⟩, by decide +kernel, fun i hi => (z0 hi rfl).elim, fun v hv => ?_, fun i hi => (z0 hi rfl).elim, fun c hc => ?_⟩, ⟨⟨rfl, rfl, Nat.zero_le _⟩, ⟨rfl, rfl⟩, Nat.zero_le _, fun i hi => absurd hi (Nat.not_lt_zero _)⟩, ⟨⟨rfl, rfl, rfl, rfl, rfl, rfl, rfl, rfl, rfl, rfl⟩, by decide +kernel, fun i hi => (z0 hi rfl).elim⟩, ⟨⟨rfl, rfl, rfl, rfl, rfl, rfl⟩, by decide +kernel, fun i hi => (z0 hi rfl).elim, fun _ _ => rfl, fun i hi => (z0 hi rfl).elim⟩, ⟨⟨rfl, rfl, rfl, rfl, rfl⟩, by decide +kernel, fun i hi => (z0 hi rfl).elim⟩, Nat.zero_le _, by decide, by decide⟩
  · show fillF 100 (-1) _ c = -1
    have h : c < 64 := hc
    simp only [fillF]
    rw [if_pos (by omega)]
  · exact ⟨fun j hj => (z0 hj rfl).elim, fun j hj => (z0 hj rfl).elim, fun j k _ hk => (z0 hk rfl).elim⟩
  · exact ⟨fun j hj => absurd hj (Nat.not_lt_zero _), fun j hj => (z0 hj rfl).elim, fun j k _ hk => absurd hk (Nat.not_lt_zero _)⟩
  · have e1 : a_hourFrom (S1M 8) v = 0 := rfl
    have e2 : a_hourTo (S1M 8) v = 99 := by
      show fillF 8 99 _ v = 99
      simp only [fillF]
      rw [if_pos hv]
    rw [e1, e2]
    decide
  · have e2 : a_heightOf (S1M 8) c = 8 := by
      show fillF 100 8 _ c = 8
      simp only [fillF]
      rw [if_pos hc]
    rw [e2]
    decide
