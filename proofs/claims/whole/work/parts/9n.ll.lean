/-! the law: its loop -/
theorem b63 (x : Int32) : ∃ n, x &&& 63 = nI n ∧ n < 64 := by
  refine ⟨(x &&& 63).toUInt32.toNat, ?_, ?_⟩
  · show _ = Int32.ofUInt32 (UInt32.ofNat _)
    rw [UInt32.ofNat_toNat]
  · have : (x &&& 63).toUInt32 = x.toUInt32 &&& 63 := rfl
    rw [this, UInt32.toNat_and]
    exact Nat.lt_of_le_of_lt Nat.and_le_right (by decide)
set_option maxRecDepth 20000 in
set_option maxHeartbeats 4000000 in
theorem l_loop {p : Program} {e : Env} {s : State} {m : MethodId} {below : List Frame} {meth : Method} {c : Code} {E : EvT} {b L : Nat} {xs : Nat → Int32} {mi : Nat} {q2 : Nat → Nat} {a1 : Nat} (C : CL E p s m meth c b L xs) : ∀ (f i k n : Nat) (q : Nat → Nat) (X : StX) (M : StM), L + 1 ≤ i + f → i ≤ L → OK X M → QO E q mi → q 11 = a1 → k ≤ 200 + 7 * i → n ≤ 19000 + 269 * i → RW p e s m below meth c E b (wM E q2 M ++ wX E q X) k n [(0, .ref b), (1, .ref a1), (2, .ref (q2 0)), (3, .int (nI i))] [] 18 := by
  intro f
  induction f with
  | zero => intro i k n q X M h1 h2; omega
  | succ f ih =>
    intro i k n q X M h1 h2 hO hq ha hk hn
    subst ha
    have hL := C.2.2.2.2.2.2.2.2
    refine w_iload C 3 dL_law_18 rfl rfl ?_
    refine w_aload C 0 dL_law_19 rfl rfl ?_
    refine w_slen C dL_law_20 ?_
    refine w_bipush C (v := 9) dL_law_21 (by decide) ?_
    refine w_isub C dL_law_23 ?_
    refine w_gt C (tgt := 1878) dL_law_24 (by decide) (fun c1 => ?_) (fun c1 => ?_)
    · refine w_iconst C (v := 1) dL_law_1878 (by decide) ?_
      exact w_end C dL_law_1879 (by omega) (by omega)
    · have hi : i + 9 ≤ L := by
        refine Nat.not_lt.mp (fun z => c1 ?_)
        rw [Int32.lt_iff_toInt_lt, show Int32.ofNat L - 9 = nI L - nI 9 from rfl, pk_sub_toInt (by omega) (by omega), nI_toInt (by omega)]
        omega
      refine w_aload C 0 dL_law_27 rfl rfl ?_
      refine w_iload C 3 dL_law_28 rfl rfl ?_
      have g0 := sc_ix (i := i) (jj := 0) hi hL (by decide)
      rw [show nI i + nI 0 = nI i from by rw [nI_add]; rfl] at g0
      refine w_sld C g0.1 dL_law_29 ?_
      refine w_bipush C (v := 63) dL_law_30 (by decide) ?_
      refine w_iand C dL_law_32 ?_
      -- behind the call, or behind no call
      have back : ∀ (q3 : Nat → Nat) (X1 : StX) (M1 : StM) (k1 n1 : Nat), OK X1 M1 → QO E q3 mi → q3 11 = q 11 → k1 ≤ k + 7 → n1 ≤ n + 269 → RW p e s m below meth c E b (wM E q2 M1 ++ wX E q3 X1) k1 n1 [(0, .ref b), (1, .ref (q 11)), (2, .ref (q2 0)), (3, .int (nI i))] [] 1872 := by
        intro q3 X1 M1 k1 n1 hO1 hq1 ha1 hk1 hn1
        refine w_iinc C 3 [(3, .int (nI (i + 9))), (0, .ref b), (1, .ref (q 11)), (2, .ref (q2 0))] dL_law_1872 rfl (by rw [← nI_add]; rfl) (by decide) rfl ?_
        refine w_goto C (tgt := 18) dL_law_1875 (by decide) ?_
        refine w_ls [1, 2, 3, 0] (ls2 := [(0, .ref b), (1, .ref (q 11)), (2, .ref (q2 0)), (3, .int (nI (i + 9)))]) rfl ?_
        exact ih (i + 9) k1 n1 q3 X1 M1 (by omega) hi hO1 hq1 ha1 (by omega) (by omega)
      obtain ⟨v, ev, hv⟩ := b63 (xs ((nI i).toNatClampNeg))
      rw [ev]
      rcases (show v = 0 ∨ v = 1 ∨ v = 2 ∨ v = 3 ∨ v = 4 ∨ v = 5 ∨ v = 6 ∨ v = 7 ∨ v = 8 ∨ v = 9 ∨ v = 10 ∨ v = 11 ∨ v = 12 ∨ v = 13 ∨ v = 14 ∨ v = 15 ∨ v = 16 ∨ v = 17 ∨ v = 18 ∨ v = 19 ∨ v = 20 ∨ v = 21 ∨ v = 22 ∨ v = 23 ∨ v = 24 ∨ v = 25 ∨ v = 26 ∨ v = 27 ∨ v = 28 ∨ v = 29 ∨ v = 30 ∨ v = 31 ∨ v = 32 ∨ v = 33 ∨ v = 34 ∨ v = 35 ∨ v = 36 ∨ v = 37 ∨ v = 38 ∨ v = 39 ∨ v = 40 ∨ v = 41 ∨ 42 ≤ v by omega) with rfl | rfl | rfl | rfl | rfl | rfl | rfl | rfl | rfl | rfl | rfl | rfl | rfl | rfl | rfl | rfl | rfl | rfl | rfl | rfl | rfl | rfl | rfl | rfl | rfl | rfl | rfl | rfl | rfl | rfl | rfl | rfl | rfl | rfl | rfl | rfl | rfl | rfl | rfl | rfl | rfl | rfl | h42
      · exact w_tIn C (tgt := 216) dL_law_33 (by decide) (by decide) (off := 183) (by decide +kernel) (by decide) (lc_0 C hi hq hO ⟨by omega, by omega⟩ back)
      · exact w_tIn C (tgt := 249) dL_law_33 (by decide) (by decide) (off := 216) (by decide +kernel) (by decide) (lc_1 C hi hq hO ⟨by omega, by omega⟩ back)
      · exact w_tIn C (tgt := 272) dL_law_33 (by decide) (by decide) (off := 239) (by decide +kernel) (by decide) (lc_2 C hi hq hO ⟨by omega, by omega⟩ back)
      · exact w_tIn C (tgt := 315) dL_law_33 (by decide) (by decide) (off := 282) (by decide +kernel) (by decide) (lc_3 C hi hq hO ⟨by omega, by omega⟩ back)
      · exact w_tIn C (tgt := 338) dL_law_33 (by decide) (by decide) (off := 305) (by decide +kernel) (by decide) (lc_4 C hi hq hO ⟨by omega, by omega⟩ back)
      · exact w_tIn C (tgt := 437) dL_law_33 (by decide) (by decide) (off := 404) (by decide +kernel) (by decide) (lc_5 C hi hq hO ⟨by omega, by omega⟩ back)
      · exact w_tIn C (tgt := 460) dL_law_33 (by decide) (by decide) (off := 427) (by decide +kernel) (by decide) (lc_6 C hi hq hO ⟨by omega, by omega⟩ back)
      · exact w_tIn C (tgt := 513) dL_law_33 (by decide) (by decide) (off := 480) (by decide +kernel) (by decide) (lc_7 C hi hq hO ⟨by omega, by omega⟩ back)
      · exact w_tIn C (tgt := 566) dL_law_33 (by decide) (by decide) (off := 533) (by decide +kernel) (by decide) (lc_8 C hi hq hO ⟨by omega, by omega⟩ back)
      · exact w_tIn C (tgt := 629) dL_law_33 (by decide) (by decide) (off := 596) (by decide +kernel) (by decide) (lc_9 C hi hq hO ⟨by omega, by omega⟩ back)
      · exact w_tIn C (tgt := 672) dL_law_33 (by decide) (by decide) (off := 639) (by decide +kernel) (by decide) (lc_10 C hi hq hO ⟨by omega, by omega⟩ back)
      · exact w_tIn C (tgt := 735) dL_law_33 (by decide) (by decide) (off := 702) (by decide +kernel) (by decide) (lc_11 C hi hq hO ⟨by omega, by omega⟩ back)
      · exact w_tIn C (tgt := 778) dL_law_33 (by decide) (by decide) (off := 745) (by decide +kernel) (by decide) (lc_12 C hi hq hO ⟨by omega, by omega⟩ back)
      · exact w_tIn C (tgt := 853) dL_law_33 (by decide) (by decide) (off := 820) (by decide +kernel) (by decide) (lc_13 C hi hq hO ⟨by omega, by omega⟩ back)
      · exact w_tIn C (tgt := 952) dL_law_33 (by decide) (by decide) (off := 919) (by decide +kernel) (by decide) (lc_14 C hi hq hO ⟨by omega, by omega⟩ back)
      · exact w_tIn C (tgt := 985) dL_law_33 (by decide) (by decide) (off := 952) (by decide +kernel) (by decide) (lc_15 C hi hq hO ⟨by omega, by omega⟩ back)
      · exact w_tIn C (tgt := 1008) dL_law_33 (by decide) (by decide) (off := 975) (by decide +kernel) (by decide) (lc_16 C hi hq hO ⟨by omega, by omega⟩ back)
      · exact w_tIn C (tgt := 1041) dL_law_33 (by decide) (by decide) (off := 1008) (by decide +kernel) (by decide) (lc_17 C hi hq hO ⟨by omega, by omega⟩ back)
      · exact w_tIn C (tgt := 1064) dL_law_33 (by decide) (by decide) (off := 1031) (by decide +kernel) (by decide) (lc_18 C hi hq hO ⟨by omega, by omega⟩ back)
      · exact w_tIn C (tgt := 1107) dL_law_33 (by decide) (by decide) (off := 1074) (by decide +kernel) (by decide) (lc_19 C hi hq hO ⟨by omega, by omega⟩ back)
      · exact w_tIn C (tgt := 1156) dL_law_33 (by decide) (by decide) (off := 1123) (by decide +kernel) (by decide) (lc_20 C hi hq hO ⟨by omega, by omega⟩ back)
      · exact w_tIn C (tgt := 1189) dL_law_33 (by decide) (by decide) (off := 1156) (by decide +kernel) (by decide) (lc_21 C hi hq hO ⟨by omega, by omega⟩ back)
      · exact w_tIn C (tgt := 1212) dL_law_33 (by decide) (by decide) (off := 1179) (by decide +kernel) (by decide) (lc_22 C hi hq hO ⟨by omega, by omega⟩ back)
      · exact w_tIn C (tgt := 1235) dL_law_33 (by decide) (by decide) (off := 1202) (by decide +kernel) (by decide) (lc_23 C hi hq hO ⟨by omega, by omega⟩ back)
      · exact w_tIn C (tgt := 1268) dL_law_33 (by decide) (by decide) (off := 1235) (by decide +kernel) (by decide) (lc_24 C hi hq hO ⟨by omega, by omega⟩ back)
      · exact w_tIn C (tgt := 1301) dL_law_33 (by decide) (by decide) (off := 1268) (by decide +kernel) (by decide) (lc_25 C hi hq hO ⟨by omega, by omega⟩ back)
      · exact w_tIn C (tgt := 1344) dL_law_33 (by decide) (by decide) (off := 1311) (by decide +kernel) (by decide) (lc_26 C hi hq hO ⟨by omega, by omega⟩ back)
      · exact w_tIn C (tgt := 1377) dL_law_33 (by decide) (by decide) (off := 1344) (by decide +kernel) (by decide) (lc_27 C hi hq hO ⟨by omega, by omega⟩ back)
      · exact w_tIn C (tgt := 1430) dL_law_33 (by decide) (by decide) (off := 1397) (by decide +kernel) (by decide) (lc_28 C hi hq hO ⟨by omega, by omega⟩ back)
      · exact w_tIn C (tgt := 1473) dL_law_33 (by decide) (by decide) (off := 1440) (by decide +kernel) (by decide) (lc_29 C hi hq hO ⟨by omega, by omega⟩ back)
      · exact w_tIn C (tgt := 1506) dL_law_33 (by decide) (by decide) (off := 1473) (by decide +kernel) (by decide) (lc_30 C hi hq hO ⟨by omega, by omega⟩ back)
      · exact w_tIn C (tgt := 1539) dL_law_33 (by decide) (by decide) (off := 1506) (by decide +kernel) (by decide) (lc_31 C hi hq hO ⟨by omega, by omega⟩ back)
      · exact w_tIn C (tgt := 1572) dL_law_33 (by decide) (by decide) (off := 1539) (by decide +kernel) (by decide) (lc_32 C hi hq hO ⟨by omega, by omega⟩ back)
      · exact w_tIn C (tgt := 1605) dL_law_33 (by decide) (by decide) (off := 1572) (by decide +kernel) (by decide) (lc_33 C hi hq hO ⟨by omega, by omega⟩ back)
      · exact w_tIn C (tgt := 1628) dL_law_33 (by decide) (by decide) (off := 1595) (by decide +kernel) (by decide) (lc_34 C hi hq hO ⟨by omega, by omega⟩ back)
      · exact w_tIn C (tgt := 1681) dL_law_33 (by decide) (by decide) (off := 1648) (by decide +kernel) (by decide) (lc_35 C hi hq hO ⟨by omega, by omega⟩ back)
      · exact w_tIn C (tgt := 1714) dL_law_33 (by decide) (by decide) (off := 1681) (by decide +kernel) (by decide) (lc_36 C hi hq hO ⟨by omega, by omega⟩ back)
      · exact w_tIn C (tgt := 1757) dL_law_33 (by decide) (by decide) (off := 1724) (by decide +kernel) (by decide) (lc_37 C hi hq hO ⟨by omega, by omega⟩ back)
      · exact w_tIn C (tgt := 1780) dL_law_33 (by decide) (by decide) (off := 1747) (by decide +kernel) (by decide) (lc_38 C hi hq hO ⟨by omega, by omega⟩ back)
      · exact w_tIn C (tgt := 1803) dL_law_33 (by decide) (by decide) (off := 1770) (by decide +kernel) (by decide) (lc_39 C hi hq hO ⟨by omega, by omega⟩ back)
      · exact w_tIn C (tgt := 1826) dL_law_33 (by decide) (by decide) (off := 1793) (by decide +kernel) (by decide) (lc_40 C hi hq hO ⟨by omega, by omega⟩ back)
      · exact w_tIn C (tgt := 1849) dL_law_33 (by decide) (by decide) (off := 1816) (by decide +kernel) (by decide) (lc_41 C hi hq hO ⟨by omega, by omega⟩ back)
      · refine w_tOut C (tgt := 1872) dL_law_33 (Or.inr (by rw [nI_toInt (by omega)]; omega)) (by decide) ?_
        exact back q X M k n hO hq rfl (by omega) (by omega)
