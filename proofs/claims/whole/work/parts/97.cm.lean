/-! the constructor of the reference -/
def S0M : StM := (fun j => if j = 58 then -1 else 0, fun _ _ => 0)
abbrev iI_X12 : MI := (yX12_init, cX12_init, 2, none)
def S1M (i : Nat) : StM := sA (mBegins S0M 8 8) 92 (fillF i 99 ((mBegins S0M 8 8).2 92))
set_option maxRecDepth 20000 in
theorem ci_X12t {E : EvT} {q : Nat → Nat} {d mc ms k n : Nat} (hk : k ≤ mc) (hn : n ≤ ms) {Q : Option Value → va_W → Prop} (hQ : Q none (wM E q (S1M 8))) {ls : List (Nat × Value)} (hls : ls = [(0, .ref (q 0))]) : RR E iI_X12 (d + 2) mc ms Q (wM E q S0M) k n ls [] 707 := by
  subst hls
  have lp : ∀ (m i : Nat), i + m = 8 → RR E iI_X12 (d + 2) mc ms Q (wM E q (S1M i)) k n [(0, .ref (q 0)), (1, .int (nI i))] [] 717 := by
    intro m
    induction m with
    | zero =>
      intro i hi
      have : i = 8 := by omega
      subst this
      refine r_iload_n 1 dX12_init_717 rfl rfl ?_
      refine r_bipush (v := 8) dX12_init_718 (by decide) ?_
      refine r_icmp_ge (tgt := 737) dX12_init_720 (by decide) (fun c1 => ?_) (fun c1 => ?_)
      · exact r_vret dX12_init_737 rfl hk hn hQ
      · exact absurd (by decide) c1
    | succ m ih =>
      intro i hi
      refine r_iload_n 1 dX12_init_717 rfl rfl ?_
      refine r_bipush (v := 8) dX12_init_718 (by decide) ?_
      refine r_icmp_ge (tgt := 737) dX12_init_720 (by decide) (fun c1 => ?_) (fun c1 => ?_)
      · exact absurd c1 (nI_ge (a := i) (b := 8) (by omega) (by omega))
      · refine r_aload_n 0 dX12_init_723 rfl rfl ?_
        refine r_get (T := TX12) (f := 92) inwX12 rfl (by decide) w7_34 wM_0 rfl dX12_init_724 ?_
        refine r_iload_n 1 dX12_init_727 rfl rfl ?_
        refine r_bipush (v := 99) dX12_init_728 (by decide) ?_
        have hin : (0 : Int32) ≤ nI i ∧ nI i < 8 := ⟨nI_pos' (by omega), nI_lt (b := 8) (by omega) (by omega)⟩
        refine r_iast mp_92 (vin rfl hin) (mu_92 _) dX12_init_730 ?_
        refine r_iinc 1 [(1, .int (nI i + 1)), (0, .ref (q 0))] dX12_init_731 rfl rfl (Nat.le_of_ble_eq_true rfl) rfl ?_
        refine r_goto (tgt := 717) dX12_init_734 (by decide) ?_
        refine r_ls [1, 0] (ls2 := [(0, .ref (q 0)), (1, .int (nI i + 1))]) rfl ?_
        have h1 := ih (i + 1) (by omega)
        rw [← nI_1] at h1
        have h2 : sA (S1M i) 92 (upd ((S1M i).2 92) (ix (nI i)) 99) = S1M (i + 1) := by
          rw [show ix (nI i) = i from nI_clamp (by omega)]
          show sA (sA (mBegins S0M 8 8) 92 (fillF i 99 ((mBegins S0M 8 8).2 92))) 92 (upd (fillF i 99 ((mBegins S0M 8 8).2 92)) i 99) = sA (mBegins S0M 8 8) 92 (fillF (i + 1) 99 ((mBegins S0M 8 8).2 92))
          rw [fill_s]
          exact Prod.ext rfl (by funext k; show va_up (va_up _ 92 _) 92 _ k = va_up _ 92 _ k; simp only [va_up]; split <;> rfl)
        rw [h2]
        exact h1
  refine r_aload_n 0 dX12_init_707 rfl rfl ?_
  refine r_bipush (v := 8) dX12_init_708 (by decide) ?_
  refine r_bipush (v := 8) dX12_init_710 (by decide) ?_
  refine r_callV (J := iM_begins) (As := [.int 8, .int 8]) (T := TX12) w6_178 w6_180 v3_11 w1_16 w6_181 (nA := 2) (by decide +kernel) rfl (by decide) wM_0 rfl (by decide) dX12_init_712 (mc1 := 0) (ms1 := 0) ⟨hk, hn⟩ rfl (ct_begins (S := S0M) (x1 := 8) (x2 := 8)) ?_
  intro v w' h
  obtain ⟨S, hv, hw, hS⟩ := h
  subst hv; subst hw; subst hS
  refine r_iconst_0 dX12_init_715 ?_
  refine r_istore_n [(1, .int 0), (0, .ref (q 0))] dX12_init_716 rfl (Nat.le_of_ble_eq_true rfl) rfl ?_
  refine r_ls [1, 0] (ls2 := [(0, .ref (q 0)), (1, .int 0)]) rfl ?_
  have h := lp 8 0 (by omega)
  have h2 : S1M 0 = mBegins S0M 8 8 := by
    show sA (mBegins S0M 8 8) 92 (fillF 0 99 ((mBegins S0M 8 8).2 92)) = mBegins S0M 8 8
    rw [fill_0]
    exact Prod.ext rfl (by funext k; show va_up _ 92 _ k = _; simp only [va_up]; split <;> simp_all)
  rw [h2] at h
  exact h
