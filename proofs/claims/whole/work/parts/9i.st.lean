/-! one call on both sides -/
def RAx (B : BkT) (X : StX) (M : StM) : Prop := RB X M ∧ RPl X M ∧ RDg X M ∧ RMe X M ∧ RTp X M ∧ RWa X M ∧ RAs X M ∧ RRu B X M ∧ RFi X M ∧ RTh X M ∧ RSi X M ∧ capX X ≤ 1000 ∧ (rbX X < 1000 ∧ rbX X ≠ 13)
def OK (X : StX) (M : StM) : Prop := ∃ B : BkT, RAx B X M
theorem OK.kp {X Y : StX} {M N : StM} (hO : OK X M) (h : kept M N) (h2 : keptX X Y) : OK Y N := by
  obtain ⟨B, hB, hP, hD, hM, hT, hW, hA, hR, hF, hU, hS, hc, hr⟩ := hO
  exact h.to (OK Y) (h2.to (fun Y => OK Y (kpM M N)) ⟨B, hB, hP, hD, hM, hT, hW, hA, hR, hF, hU, hS, hc, hr⟩)
theorem OK.tape {X : StX} {M : StM} (hO : OK X M) : OK (xI X 181 0) (sI M 28 0) := by
  obtain ⟨B, hB, hP, hD, hM, hT, hW, hA, hR, hF, hU, hS, hc, hr⟩ := hO
  exact ⟨B, hB, hP, hD, hM, ⟨⟨rfl, hT.1.2⟩, show (0 : Int32) ≤ 0 by decide, show (0 : Int32) ≤ 400 by decide⟩, hW, hA, hR, hF, hU, hS, hc, hr⟩
set_option maxRecDepth 20000 in
set_option maxHeartbeats 2000000 in
theorem st_city {E : EvT} {q q2 : Nat → Nat} {X : StX} {M : StM} {x1 x2 : Int32} (h : OK X M) : C_City_city E q 1000 x1 x2 X (fun r X1 => C_city E q2 1000 x1 x2 M (fun r2 M1 => r2 = r ∧ OK X1 M1)) := by
  obtain ⟨B, hB, hP, hD, hM, hT, hW, hA, hR, hF, hU, hS, hc, hr⟩ := h
  refine ct_City_city (M := M) hP.1 hD.1.1 hA.1.2.2.2.2.2.2.1 _ (fun no => ?_) (fun ok => ?_)
  · exact ct_city  _ (fun _ => ⟨rfl, ⟨B, hB, hP, hD, hM, hT, hW, hA, hR, hF, hU, hS, hc, hr⟩⟩) (fun ok => absurd ok no)
  · exact ct_city  _ (fun no => absurd ok no) (fun _ => ⟨rfl, ⟨B, hB.city ok, hP.city ok, hD.city ok, hM, hT, hW, hA.city ok, hR, hF, hU, hS, hc, hr⟩⟩)
set_option maxRecDepth 20000 in
set_option maxHeartbeats 2000000 in
theorem st_dig {E : EvT} {q q2 : Nat → Nat} {X : StX} {M : StM} {x1 x2 x3 x4 x5 x6 x7 x8 : Int32} (h : OK X M) : C_City_dig E q 1000 x1 x2 x3 x4 x5 x6 x7 x8 X (fun r X1 => C_dig E q2 1000 x1 x2 x3 x4 x5 x6 x7 x8 M (fun r2 M1 => r2 = r ∧ OK X1 M1)) := by
  obtain ⟨B, hB, hP, hD, hM, hT, hW, hA, hR, hF, hU, hS, hc, hr⟩ := h
  refine ct_City_dig hB hP hD _ (fun no => ?_) (fun ok m hm => ?_)
  · exact ct_dig hB hD _ (fun _ => ⟨rfl, ⟨B, hB, hP, hD, hM, hT, hW, hA, hR, hF, hU, hS, hc, hr⟩⟩) (fun ok => absurd ok no)
  · exact ct_dig hB hD _ (fun no => absurd ok no) (fun _ => ⟨rfl, ⟨B, hB, hP, RDg.add hB hP hD ok hm, hM, hT, hW, hA, hR, hF, hU, hS, hc, hr⟩⟩)
set_option maxRecDepth 20000 in
set_option maxHeartbeats 2000000 in
theorem st_strike {E : EvT} {q q2 : Nat → Nat} {X : StX} {M : StM} {x1 : Int32} (h : OK X M) : C_City_strike E q 1000 x1 X (fun r X1 => C_strike E q2 1000 x1 M (fun r2 M1 => r2 = r ∧ OK X1 M1)) := by
  obtain ⟨B, hB, hP, hD, hM, hT, hW, hA, hR, hF, hU, hS, hc, hr⟩ := h
  refine ct_City_strike hD _ (fun no => ?_) (fun ok => ?_)
  · exact ct_strike hD _ (fun _ => ⟨rfl, ⟨B, hB, hP, hD, hM, hT, hW, hA, hR, hF, hU, hS, hc, hr⟩⟩) (fun ok => absurd ok no)
  · exact ct_strike hD _ (fun no => absurd ok no) (fun _ => ⟨rfl, ⟨B, hB, hP, RDg.str hB hD ok, hM, hT, hW, hA, hR, hF, hU, hS, hc, hr⟩⟩)
set_option maxRecDepth 20000 in
set_option maxHeartbeats 2000000 in
theorem st_means {E : EvT} {q q2 : Nat → Nat} {X : StX} {M : StM} {x1 x2 x3 x4 x5 : Int32} (h : OK X M) : C_City_means E q 1000 x1 x2 x3 x4 x5 X (fun r X1 => C_means E q2 1000 x1 x2 x3 x4 x5 M (fun r2 M1 => r2 = r ∧ OK X1 M1)) := by
  obtain ⟨B, hB, hP, hD, hM, hT, hW, hA, hR, hF, hU, hS, hc, hr⟩ := h
  refine ct_City_means hP hM _ (fun no => ?_) (fun ok => ?_)
  · exact ct_means hM _ (fun _ => ⟨rfl, ⟨B, hB, hP, hD, hM, hT, hW, hA, hR, hF, hU, hS, hc, hr⟩⟩) (fun ok => absurd ok no)
  · exact ct_means hM _ (fun no => absurd ok no) (fun _ => ⟨rfl, ⟨B, hB, hP, hD, RMe.add hP hM ok, hT, hW, hA, hR, hF, hU, hS, hc, hr⟩⟩)
set_option maxRecDepth 20000 in
set_option maxHeartbeats 2000000 in
theorem st_wall {E : EvT} {q q2 : Nat → Nat} {X : StX} {M : StM} {x1 x2 : Int32} (h : OK X M) : C_City_wall E q 1000 x1 x2 X (fun r X1 => C_wall E q2 1000 x1 x2 M (fun r2 M1 => r2 = r ∧ OK X1 M1)) := by
  obtain ⟨B, hB, hP, hD, hM, hT, hW, hA, hR, hF, hU, hS, hc, hr⟩ := h
  refine ct_City_wall hP hW _ (fun no => ?_) (fun ok => ?_)
  · exact ct_wall hW _ (fun _ => ⟨rfl, ⟨B, hB, hP, hD, hM, hT, hW, hA, hR, hF, hU, hS, hc, hr⟩⟩) (fun ok => absurd ok no)
  · exact ct_wall hW _ (fun no => absurd ok no) (fun _ => ⟨rfl, ⟨B, hB, hP, hD, hM, hT, hW.addWa ok, hA, hR, hF, hU, hS, hc, hr⟩⟩)
set_option maxRecDepth 20000 in
set_option maxHeartbeats 2000000 in
theorem st_work {E : EvT} {q q2 : Nat → Nat} {X : StX} {M : StM} {x1 x2 x3 : Int32} (h : OK X M) : C_City_work E q 1000 x1 x2 x3 X (fun r X1 => C_work E q2 1000 x1 x2 x3 M (fun r2 M1 => r2 = r ∧ OK X1 M1)) := by
  obtain ⟨B, hB, hP, hD, hM, hT, hW, hA, hR, hF, hU, hS, hc, hr⟩ := h
  refine ct_City_work hW _ (fun no => ?_) (fun ok => ?_)
  · exact ct_work hW _ (fun _ => ⟨rfl, ⟨B, hB, hP, hD, hM, hT, hW, hA, hR, hF, hU, hS, hc, hr⟩⟩) (fun ok => absurd ok no)
  · exact ct_work hW _ (fun no => absurd ok no) (fun _ => ⟨rfl, ⟨B, hB, hP, hD, hM, hT, hW.addWk ok, hA, hR, hF, hU, hS, hc, hr⟩⟩)
set_option maxRecDepth 20000 in
set_option maxHeartbeats 2000000 in
theorem st_draw {E : EvT} {q q2 : Nat → Nat} {X : StX} {M : StM} {x1 x2 x3 : Int32} (h : OK X M) : C_City_draw E q 1000 x1 x2 x3 X (fun r X1 => C_draw E q2 1000 x1 x2 x3 M (fun r2 M1 => r2 = r ∧ OK X1 M1)) := by
  obtain ⟨B, hB, hP, hD, hM, hT, hW, hA, hR, hF, hU, hS, hc, hr⟩ := h
  refine ct_City_draw hB hW _ (fun no => ?_) (fun ok n p hl => ?_)
  · exact ct_draw hW _ (fun _ => ⟨rfl, ⟨B, hB, hP, hD, hM, hT, hW, hA, hR, hF, hU, hS, hc, hr⟩⟩) (fun ok => absurd ok no)
  · exact ct_draw hW _ (fun no => absurd ok no) (fun _ => ⟨rfl, ⟨B, hB, hP, hD, hM, hT, RWa.look hB hW ok hl, hA, hR, hF, hU, hS, hc, hr⟩⟩)
set_option maxRecDepth 20000 in
set_option maxHeartbeats 2000000 in
theorem st_copy {E : EvT} {q q2 : Nat → Nat} {X : StX} {M : StM} {x1 x2 : Int32} (h : OK X M) : C_City_copy E q 1000 x1 x2 X (fun r X1 => C_copy E q2 1000 x1 x2 M (fun r2 M1 => r2 = r ∧ OK X1 M1)) := by
  obtain ⟨B, hB, hP, hD, hM, hT, hW, hA, hR, hF, hU, hS, hc, hr⟩ := h
  refine ct_City_copy hB hW _ (fun no => ?_) (fun ok => ?_)
  · exact ct_copy hW _ (fun _ => ⟨rfl, ⟨B, hB, hP, hD, hM, hT, hW, hA, hR, hF, hU, hS, hc, hr⟩⟩) (fun ok => absurd ok no)
  · exact ct_copy hW _ (fun no => absurd ok no) (fun _ => ⟨rfl, ⟨B, hB, hP, hD, hM, hT, RWa.copy hB hW ok, hA, hR, hF, hU, hS, hc, hr⟩⟩)
set_option maxRecDepth 20000 in
set_option maxHeartbeats 2000000 in
theorem st_ash {E : EvT} {q q2 : Nat → Nat} {X : StX} {M : StM} {x1 x2 x3 : Int32} (h : OK X M) : C_City_ash E q 1000 x1 x2 x3 X (fun r X1 => C_ash E q2 1000 x1 x2 x3 M (fun r2 M1 => r2 = r ∧ OK X1 M1)) := by
  obtain ⟨B, hB, hP, hD, hM, hT, hW, hA, hR, hF, hU, hS, hc, hr⟩ := h
  refine ct_City_ash  _ (fun no => ?_) (fun ok => ?_)
  · exact ct_ash  _ (fun _ => ⟨rfl, ⟨B, hB, hP, hD, hM, hT, hW, hA, hR, hF, hU, hS, hc, hr⟩⟩) (fun ok => absurd ok no)
  · exact ct_ash  _ (fun no => absurd ok no) (fun _ => ⟨rfl, ⟨B, hB, hP, hD, hM, hT, hW, hA.ash ok, hR, hF, hU, hS, hc, hr⟩⟩)
set_option maxRecDepth 20000 in
set_option maxHeartbeats 2000000 in
theorem st_above {E : EvT} {q q2 : Nat → Nat} {X : StX} {M : StM} {x1 x2 : Int32} (h : OK X M) : C_City_above E q 1000 x1 x2 X (fun r X1 => C_above E q2 1000 x1 x2 M (fun r2 M1 => r2 = r ∧ OK X1 M1)) := by
  obtain ⟨B, hB, hP, hD, hM, hT, hW, hA, hR, hF, hU, hS, hc, hr⟩ := h
  refine ct_City_above hA _ (fun no => ?_) (fun ok => ?_)
  · exact ct_above hA _ (fun _ => ⟨rfl, ⟨B, hB, hP, hD, hM, hT, hW, hA, hR, hF, hU, hS, hc, hr⟩⟩) (fun ok => absurd ok no)
  · exact ct_above hA _ (fun no => absurd ok no) (fun _ => ⟨rfl, ⟨B, hB, hP, hD, hM, hT, hW, hA.above ok, hR, hF, hU, hS, hc, hr⟩⟩)
set_option maxRecDepth 20000 in
set_option maxHeartbeats 2000000 in
theorem st_height {E : EvT} {q q2 : Nat → Nat} {X : StX} {M : StM} {x1 x2 : Int32} (h : OK X M) : C_City_height E q 1000 x1 x2 X (fun r X1 => C_height E q2 1000 x1 x2 M (fun r2 M1 => r2 = r ∧ OK X1 M1)) := by
  obtain ⟨B, hB, hP, hD, hM, hT, hW, hA, hR, hF, hU, hS, hc, hr⟩ := h
  refine ct_City_height hB _ (fun no => ?_) (fun ok => ?_)
  · exact ct_height hB _ (fun _ => ⟨rfl, ⟨B, hB, hP, hD, hM, hT, hW, hA, hR, hF, hU, hS, hc, hr⟩⟩) (fun ok => absurd ok no)
  · exact ct_height hB _ (fun no => absurd ok no) (fun _ => ⟨rfl, ⟨B, hB, hP, hD, hM, hT, hW, hA.height ok, hR, hF, hU, hS, hc, hr⟩⟩)
set_option maxRecDepth 20000 in
set_option maxHeartbeats 2000000 in
theorem st_hollow {E : EvT} {q q2 : Nat → Nat} {X : StX} {M : StM} {x1 x2 : Int32} (h : OK X M) : C_City_hollow E q 1000 x1 x2 X (fun r X1 => C_hollow E q2 1000 x1 x2 M (fun r2 M1 => r2 = r ∧ OK X1 M1)) := by
  obtain ⟨B, hB, hP, hD, hM, hT, hW, hA, hR, hF, hU, hS, hc, hr⟩ := h
  refine ct_City_hollow hB hA _ (fun no => ?_) (fun ok => ?_)
  · exact ct_hollow hA _ (fun _ => ⟨rfl, ⟨B, hB, hP, hD, hM, hT, hW, hA, hR, hF, hU, hS, hc, hr⟩⟩) (fun ok => absurd ok no)
  · exact ct_hollow hA _ (fun no => absurd ok no) (fun _ => ⟨rfl, ⟨B, hB, hP, hD, hM, hT, hW, hA.hollow ok, hR, hF, hU, hS, hc, hr⟩⟩)
set_option maxRecDepth 20000 in
set_option maxHeartbeats 2000000 in
theorem st_sign {E : EvT} {q q2 : Nat → Nat} {X : StX} {M : StM} {x1 x2 x3 x4 : Int32} (h : OK X M) : C_City_sign E q 1000 x1 x2 x3 x4 X (fun r X1 => C_sign E q2 1000 x1 x2 x3 x4 M (fun r2 M1 => r2 = r ∧ OK X1 M1)) := by
  obtain ⟨B, hB, hP, hD, hM, hT, hW, hA, hR, hF, hU, hS, hc, hr⟩ := h
  refine ct_City_sign hB hP hS _ (fun no => ?_) (fun ok => ?_)
  · exact ct_sign hS _ (fun _ => ⟨rfl, ⟨B, hB, hP, hD, hM, hT, hW, hA, hR, hF, hU, hS, hc, hr⟩⟩) (fun ok => absurd ok no)
  · exact ct_sign hS _ (fun no => absurd ok no) (fun _ => ⟨rfl, ⟨B, hB, hP, hD, hM, hT, hW, hA, hR, hF, hU, hS.add ok, hc, hr⟩⟩)
set_option maxRecDepth 20000 in
set_option maxHeartbeats 2000000 in
theorem st_find {E : EvT} {q q2 : Nat → Nat} {X : StX} {M : StM} {x1 x2 x3 x4 x5 x6 x7 x8 : Int32} (h : OK X M) : C_City_find E q 1000 x1 x2 x3 x4 x5 x6 x7 x8 X (fun r X1 => C_find E q2 1000 x1 x2 x3 x4 x5 x6 x7 x8 M (fun r2 M1 => r2 = r ∧ OK X1 M1)) := by
  obtain ⟨B, hB, hP, hD, hM, hT, hW, hA, hR, hF, hU, hS, hc, hr⟩ := h
  refine ct_City_find hB hF _ (fun no => ?_) (fun ok => ?_)
  · exact ct_find hF _ (fun _ => ⟨rfl, ⟨B, hB, hP, hD, hM, hT, hW, hA, hR, hF, hU, hS, hc, hr⟩⟩) (fun ok => absurd ok no)
  · exact ct_find hF _ (fun no => absurd ok no) (fun _ => ⟨rfl, ⟨B, hB, hP, hD, hM, hT, hW, hA, hR, RFi.add hB hF ok, hU, hS, hc, hr⟩⟩)
set_option maxRecDepth 20000 in
set_option maxHeartbeats 2000000 in
theorem st_thing {E : EvT} {q q2 : Nat → Nat} {X : StX} {M : StM} {x1 x2 x3 : Int32} (h : OK X M) : C_City_thing E q 1000 x1 x2 x3 X (fun r X1 => C_thing E q2 1000 x1 x2 x3 M (fun r2 M1 => r2 = r ∧ OK X1 M1)) := by
  obtain ⟨B, hB, hP, hD, hM, hT, hW, hA, hR, hF, hU, hS, hc, hr⟩ := h
  refine ct_City_thing hU _ (fun no => ?_) (fun ok => ?_)
  · exact ct_thing hU _ (fun _ => ⟨rfl, ⟨B, hB, hP, hD, hM, hT, hW, hA, hR, hF, hU, hS, hc, hr⟩⟩) (fun ok => absurd ok no)
  · exact ct_thing hU _ (fun no => absurd ok no) (fun _ => ⟨rfl, ⟨B, hB, hP, hD, hM, hT, hW, hA, hR, hF, hU.add ok, hS, hc, hr⟩⟩)
set_option maxRecDepth 20000 in
set_option maxHeartbeats 2000000 in
theorem st_gone {E : EvT} {q q2 : Nat → Nat} {X : StX} {M : StM} {x1 x2 : Int32} (h : OK X M) : C_City_gone E q 1000 x1 x2 X (fun r X1 => C_gone E q2 1000 x1 x2 M (fun r2 M1 => r2 = r ∧ OK X1 M1)) := by
  obtain ⟨B, hB, hP, hD, hM, hT, hW, hA, hR, hF, hU, hS, hc, hr⟩ := h
  refine ct_City_gone hU _ (fun no => ?_) (fun ok => ?_)
  · exact ct_gone hU _ (fun _ => ⟨rfl, ⟨B, hB, hP, hD, hM, hT, hW, hA, hR, hF, hU, hS, hc, hr⟩⟩) (fun ok => absurd ok no)
  · exact ct_gone hU _ (fun no => absurd ok no) (fun _ => ⟨rfl, ⟨B, hB, hP, hD, hM, hT, hW, hA, hR, hF, hU.gone ok, hS, hc, hr⟩⟩)
set_option maxRecDepth 20000 in
set_option maxHeartbeats 2000000 in
theorem st_now {E : EvT} {q q2 : Nat → Nat} {X : StX} {M : StM} {x1 : Int32} (h : OK X M) : C_City_now E q 1000 x1 X (fun r X1 => C_now E q2 1000 x1 M (fun r2 M1 => r2 = r ∧ OK X1 M1)) := by
  obtain ⟨B, hB, hP, hD, hM, hT, hW, hA, hR, hF, hU, hS, hc, hr⟩ := h
  refine ct_City_now hB _ (fun no => ?_) (fun ok => ?_)
  · exact ct_now hB _ (fun _ => ⟨rfl, ⟨B, hB, hP, hD, hM, hT, hW, hA, hR, hF, hU, hS, hc, hr⟩⟩) (fun ok => by rw [no] at ok; cases ok)
  · exact ct_now hB _ (fun no => by rw [no] at ok; cases ok) (fun _ => ⟨rfl, ⟨B, hB.now ok, hP, hD, hM, hT, hW, hA, hR, hF, hU, hS, hc, hr⟩⟩)
set_option maxRecDepth 20000 in
set_option maxHeartbeats 2000000 in
theorem st_place {E : EvT} {q q2 : Nat → Nat} {X : StX} {M : StM} {x1 x2 x3 : Int32} (h : OK X M) : C_City_place E q 1000 x1 x2 x3 X (fun r X1 => C_place E q2 1000 x1 x2 x3 M (fun r2 M1 => r2 = r ∧ OK X1 M1)) := by
  obtain ⟨B, hB, hP, hD, hM, hT, hW, hA, hR, hF, hU, hS, hc, hr⟩ := h
  refine ct_City_place hB hP hD _ (fun no => ?_) (fun a1 a2 a3 a4 => ?_)
  · refine ct_place hB hP _ (fun _ => ⟨rfl, ⟨B, hB, hP, hD, hM, hT, hW, hA, hR, hF, hU, hS, hc, hr⟩⟩) (fun a1 a2 a3 a4 => ?_)
    rcases no with e | e | e | e
    · rw [e] at a1; cases a1
    · rw [e] at a2; cases a2
    · exact absurd e a3
    · exact absurd a4 e
  · refine ct_place hB hP _ (fun no => ?_) (fun _ _ _ _ => ⟨rfl, ⟨B, hB, RPl.add hB hP _ a1 a2 a3 a4, RDg.addPl hB hP hD a2 a3 a4, hM, hT, hW, hA, hR, hF, hU, hS, hc, hr⟩⟩)
    rcases no with e | e | e | e
    · rw [e] at a1; cases a1
    · rw [e] at a2; cases a2
    · exact absurd e a3
    · exact absurd a4 e
set_option maxRecDepth 20000 in
set_option maxHeartbeats 2000000 in
theorem st_feed {E : EvT} {q q2 : Nat → Nat} {X : StX} {M : StM} {x1 x2 x3 x4 x5 : Int32} (h : OK X M) : C_City_feed E q 1000 x1 x2 x3 x4 x5 X (fun r X1 => C_feed E q2 1000 x1 x2 x3 x4 x5 M (fun r2 M1 => r2 = r ∧ OK X1 M1)) := by
  obtain ⟨B, hB, hP, hD, hM, hT, hW, hA, hR, hF, hU, hS, hc, hr⟩ := h
  refine ct_City_feed hT _ (fun no => ?_) (fun ok => ?_)
  · exact ct_feed hT _ (fun _ => ⟨rfl, ⟨B, hB, hP, hD, hM, hT, hW, hA, hR, hF, hU, hS, hc, hr⟩⟩) (fun ok => absurd ok no)
  · exact ct_feed hT _ (fun no => absurd ok no) (fun _ => ⟨rfl, ⟨B, hB, hP, hD, hM, hT.feed ok, hW, hA, hR, hF, hU, hS, hc, hr⟩⟩)
set_option maxRecDepth 20000 in
set_option maxHeartbeats 2000000 in
theorem st_placeOf {E : EvT} {q q2 : Nat → Nat} {X : StX} {M : StM} {x1 : Int32} (h : OK X M) : C_City_placeOf E q 1000 x1 X (fun r X1 => C_placeOf E q2 1000 x1 M (fun r2 M1 => r2 = r ∧ OK X1 M1)) := by
  obtain ⟨B, hB, hP, hD, hM, hT, hW, hA, hR, hF, hU, hS, hc, hr⟩ := h
  refine mIx (ct_City_placeOf hB hP) (fun r X1 hx => mI (ct_placeOf hB) (fun r2 M1 hm => ?_))
  obtain ⟨e1, rfl⟩ := hx
  obtain ⟨e2, rfl⟩ := hm
  exact ⟨e2.trans e1.symm, ⟨B, hB, hP, hD, hM, hT, hW, hA, hR, hF, hU, hS, hc, hr⟩⟩
set_option maxRecDepth 20000 in
set_option maxHeartbeats 2000000 in
theorem st_meaning {E : EvT} {q q2 : Nat → Nat} {X : StX} {M : StM} {x1 x2 x3 : Int32} (h : OK X M) : C_City_meaning E q 1000 x1 x2 x3 X (fun r X1 => C_meaning E q2 1000 x1 x2 x3 M (fun r2 M1 => r2 = r ∧ OK X1 M1)) := by
  obtain ⟨B, hB, hP, hD, hM, hT, hW, hA, hR, hF, hU, hS, hc, hr⟩ := h
  refine mIx (ct_City_meaning hM) (fun r X1 hx => mI (ct_meaning hM) (fun r2 M1 hm => ?_))
  obtain ⟨e1, rfl⟩ := hx
  obtain ⟨e2, rfl⟩ := hm
  exact ⟨e2.trans e1.symm, ⟨B, hB, hP, hD, hM, hT, hW, hA, hR, hF, hU, hS, hc, hr⟩⟩
set_option maxRecDepth 20000 in
set_option maxHeartbeats 2000000 in
theorem st_saves {E : EvT} {q q2 : Nat → Nat} {X : StX} {M : StM} {x1 : Int32} (h : OK X M) : C_City_saves E q 1000 x1 X (fun r X1 => C_saves E q2 1000 x1 M (fun r2 M1 => r2 = r ∧ OK X1 M1)) := by
  obtain ⟨B, hB, hP, hD, hM, hT, hW, hA, hR, hF, hU, hS, hc, hr⟩ := h
  refine mIx (ct_City_saves hW) (fun r X1 hx => mI (ct_saves hW) (fun r2 M1 hm => ?_))
  obtain ⟨e1, a, rfl⟩ := hx
  obtain ⟨e2, rfl⟩ := hm
  exact ⟨e2.trans e1.symm, ⟨B, hB, hP, hD, hM, hT, hW, hA, hR, hF, hU, hS, hc, hr⟩⟩
set_option maxRecDepth 20000 in
set_option maxHeartbeats 2000000 in
theorem st_best {E : EvT} {q q2 : Nat → Nat} {X : StX} {M : StM} {x1 : Int32} (h : OK X M) : C_City_best E q 1000 x1 X (fun r X1 => C_best E q2 1000 x1 M (fun r2 M1 => r2 = r ∧ OK X1 M1)) := by
  obtain ⟨B, hB, hP, hD, hM, hT, hW, hA, hR, hF, hU, hS, hc, hr⟩ := h
  refine mIx (ct_City_best hW) (fun r X1 hx => mI (ct_best hW) (fun r2 M1 hm => ?_))
  obtain ⟨e1, a, rfl⟩ := hx
  obtain ⟨e2, rfl⟩ := hm
  exact ⟨e2.trans e1.symm, ⟨B, hB, hP, hD, hM, hT, hW, hA, hR, hF, hU, hS, hc, hr⟩⟩
set_option maxRecDepth 20000 in
set_option maxHeartbeats 2000000 in
theorem st_joined {E : EvT} {q q2 : Nat → Nat} {X : StX} {M : StM} {x1 : Int32} (h : OK X M) : C_City_joined E q 1000 x1 X (fun r X1 => C_joined E q2 1000 x1 M (fun r2 M1 => r2 = r ∧ OK X1 M1)) := by
  obtain ⟨B, hB, hP, hD, hM, hT, hW, hA, hR, hF, hU, hS, hc, hr⟩ := h
  refine mIx (ct_City_joined hU) (fun r X1 hx => mI (ct_joined hU) (fun r2 M1 hm => ?_))
  obtain ⟨e1, rfl⟩ := hx
  obtain ⟨e2, rfl⟩ := hm
  exact ⟨e2.trans e1.symm, ⟨B, hB, hP, hD, hM, hT, hW, hA, hR, hF, hU, hS, hc, hr⟩⟩
set_option maxRecDepth 20000 in
set_option maxHeartbeats 2000000 in
theorem st_count {E : EvT} {q q2 : Nat → Nat} {X : StX} {M : StM} {x1 : Int32} (h : OK X M) : C_City_count E q 1000 x1 X (fun r X1 => C_count E q2 1000 x1 M (fun r2 M1 => r2 = r ∧ OK X1 M1)) := by
  obtain ⟨B, hB, hP, hD, hM, hT, hW, hA, hR, hF, hU, hS, hc, hr⟩ := h
  refine mIx (ct_City_count ⟨hB.2.2.1, hB.1, hB.2.1, hP.1, hD.1.1, hF.1.1, hU.1.1, hW.1.1, hW.1.2.1, hA.1.1, hA.1.2.2.2.2.2.2.1, hS.1.1, hW.1.2.2.1, hT.1.1, hM.1.1⟩ hR) (fun r X1 hx => mI (ct_count hR) (fun r2 M1 hm => ?_))
  obtain ⟨e1, rfl⟩ := hx
  obtain ⟨e2, rfl⟩ := hm
  exact ⟨e2.trans e1.symm, ⟨B, hB, hP, hD, hM, hT, hW, hA, hR, hF, hU, hS, hc, hr⟩⟩
set_option maxRecDepth 20000 in
set_option maxHeartbeats 2000000 in
theorem st_ground {E : EvT} {q q2 : Nat → Nat} {X : StX} {M : StM} {x1 x2 x3 x4 : Int32} (h : OK X M) : C_City_ground E q 1000 x1 x2 x3 x4 X (fun r X1 => C_ground E q2 1000 x1 x2 x3 x4 M (fun r2 M1 => r2 = r ∧ OK X1 M1)) := by
  obtain ⟨B, hB, hP, hD, hM, hT, hW, hA, hR, hF, hU, hS, hc, hr⟩ := h
  refine mIx (ct_City_ground hB hD x1 x2 x3 x4) (fun r X1 hx => mI (ct_ground hB hD x1 x2 x3 x4) (fun r2 M1 hm => ?_))
  obtain ⟨e1, rfl⟩ := hx
  obtain ⟨e2, rfl | rfl⟩ := hm
  · exact ⟨e2.trans e1.symm, ⟨B, hB, hP, hD, hM, hT, hW, hA, hR, hF, hU, hS, hc, hr⟩⟩
  · exact ⟨e2.trans e1.symm, ⟨B, hB, hP, hD, hM, hT, hW, hA, hR, hF, hU, hS, hc, hr⟩⟩
set_option maxRecDepth 20000 in
set_option maxHeartbeats 2000000 in
theorem st_first {E : EvT} {q q2 : Nat → Nat} {X : StX} {M : StM} {x1 x2 x3 x4 : Int32} (h : OK X M) : C_City_first E q 1000 x1 x2 x3 x4 X (fun r X1 => C_first E q2 1000 x1 x2 x3 x4 M (fun r2 M1 => r2 = r ∧ OK X1 M1)) := by
  obtain ⟨B, hB, hP, hD, hM, hT, hW, hA, hR, hF, hU, hS, hc, hr⟩ := h
  refine mIx (ct_City_first hB hD x1 x2 x3 x4) (fun r X1 hx => mI (ct_first hB hD x1 x2 x3 x4) (fun r2 M1 hm => ?_))
  obtain ⟨e1, rfl⟩ := hx
  obtain ⟨e2, rfl | rfl⟩ := hm
  · exact ⟨e2.trans e1.symm, ⟨B, hB, hP, hD, hM, hT, hW, hA, hR, hF, hU, hS, hc, hr⟩⟩
  · exact ⟨e2.trans e1.symm, ⟨B, hB, hP, hD, hM, hT, hW, hA, hR, hF, hU, hS, hc, hr⟩⟩
set_option maxRecDepth 20000 in
set_option maxHeartbeats 2000000 in
theorem st_hour {E : EvT} {q q2 : Nat → Nat} {X : StX} {M : StM} {x1 x2 : Int32} (h : OK X M) : C_City_hour E q 1000 x1 x2 X (fun r X1 => C_hour E q2 1000 x1 x2 M (fun r2 M1 => r2 = r ∧ OK X1 M1)) := by
  obtain ⟨B, hB, hP, hD, hM, hT, hW, hA, hR, hF, hU, hS, hc, hr⟩ := h
  refine mIx (ct_City_hour hA) (fun r X1 hx => mI (ct_hour hA) (fun r2 M1 hm => ?_))
  obtain ⟨e1, e, l, rfl⟩ := hx
  obtain ⟨e2, e3, l3, rfl⟩ := hm
  exact ⟨hourV.one e2 e1, ⟨B, hB, hP, hD, hM, hT, hW, hA, hR, hF, hU, hS, hc, hr⟩⟩
set_option maxRecDepth 20000 in
set_option maxHeartbeats 2000000 in
theorem st_way {E : EvT} {q q2 : Nat → Nat} {X : StX} {M : StM} {x1 : Int32} (h : OK X M) : C_City_way E q 1000 x1 X (fun r X1 => C_way E q2 1000 x1 M (fun r2 M1 => r2 = r ∧ OK X1 M1)) := by
  obtain ⟨B, hB, hP, hD, hM, hT, hW, hA, hR, hF, hU, hS, hc, hr⟩ := h
  refine mIx (ct_City_way hB hA) (fun r X1 hx => mI (ct_way hB hA) (fun r2 M1 hm => ?_))
  obtain ⟨e1, e, l, s, qu, t, rfl⟩ := hx
  obtain ⟨e2, e3, l3, s3, rfl⟩ := hm
  exact ⟨WayV.one e2 e1, ⟨B, hB, hP, hD, hM, hT, hW, hA, hR, hF, hU, hS, hc, hr⟩⟩
set_option maxRecDepth 20000 in
set_option maxHeartbeats 2000000 in
theorem st_number {E : EvT} {q q2 : Nat → Nat} {X : StX} {M : StM} {x1 x2 x3 x4 x5 x6 : Int32} (h : OK X M) : C_City_number E q 1000 x1 x2 x3 x4 x5 x6 X (fun r X1 => C_number E q2 1000 x1 x2 x3 x4 x5 x6 M (fun r2 M1 => r2 = r ∧ OK X1 M1)) := by
  obtain ⟨B, hB, hP, hD, hM, hT, hW, hA, hR, hF, hU, hS, hc, hr⟩ := h
  refine mIx (ct_City_number hP hR) (fun r X1 hx => mI (ct_number hP hR) (fun r2 M1 hm => ?_))
  obtain ⟨e1, l, u, s, rfl⟩ := hx
  obtain ⟨e2, l3, t3, s3, rfl⟩ := hm
  exact ⟨numR.one e2 e1, ⟨B, hB, hP, hD, hM, hT, hW, hA, hR, hF, hU, hS, hc, hr⟩⟩
set_option maxRecDepth 20000 in
set_option maxHeartbeats 2000000 in
theorem st_barred {E : EvT} {q q2 : Nat → Nat} {X : StX} {M : StM} {x1 : Int32} (h : OK X M) : C_City_barred E q 1000 x1 X (fun r X1 => C_barred E q2 1000 x1 M (fun r2 M1 => r2 = r ∧ OK X1 M1)) := by
  obtain ⟨B, hB, hP, hD, hM, hT, hW, hA, hR, hF, hU, hS, hc, hr⟩ := h
  refine mIx (ct_City_barred hD hR) (fun r X1 hx => mI (ct_barred hD hR) (fun r2 M1 hm => ?_))
  obtain ⟨e1, l, u, s, rfl⟩ := hx
  obtain ⟨e2, l3, t3, s3, rfl⟩ := hm
  exact ⟨barR.one e2 e1, ⟨B, hB, hP, hD, hM, hT, hW, hA, hR, hF, hU, hS, hc, hr⟩⟩
set_option maxRecDepth 20000 in
set_option maxHeartbeats 2000000 in
theorem st_stood {E : EvT} {q q2 : Nat → Nat} {X : StX} {M : StM} {x1 x2 x3 x4 : Int32} (h : OK X M) : C_City_stood E q 1000 x1 x2 x3 x4 X (fun r X1 => C_stood E q2 1000 x1 x2 x3 x4 M (fun r2 M1 => r2 = r ∧ OK X1 M1)) := by
  obtain ⟨B, hB, hP, hD, hM, hT, hW, hA, hR, hF, hU, hS, hc, hr⟩ := h
  refine mIx (ct_City_stood hW) (fun r X1 hx => ?_)
  obtain ⟨e1, a, b, c, d, rfl⟩ := hx
  refine mI (ct_stood hW e1) (fun r2 M1 hm => ?_)
  obtain ⟨e2, a2, rfl⟩ := hm
  exact ⟨e2, ⟨B, hB, hP, hD, hM, hT, hW, hA, hR, hF, hU, hS, hc, hr⟩⟩
set_option maxRecDepth 20000 in
set_option maxHeartbeats 2000000 in
theorem st_who {E : EvT} {q q2 : Nat → Nat} {X : StX} {M : StM} {x1 x2 : Int32} (h : OK X M) : C_City_who E q 1000 x1 x2 X (fun r X1 => C_who E q2 1000 x1 x2 M (fun r2 M1 => r2 = r ∧ OK X1 M1)) := by
  obtain ⟨B, hB, hP, hD, hM, hT, hW, hA, hR, hF, hU, hS, hc, hr⟩ := h
  refine mIx (ct_City_who hP hS hR) (fun r X1 hx => mI (ct_who hP hS hR) (fun r2 M1 hm => ?_))
  exact ⟨whoR.one hm.1 hx.1, OK.kp ⟨B, hB, hP, hD, hM, hT, hW, hA, hR, hF, hU, hS, hc, hr⟩ hm.2 hx.2⟩
set_option maxRecDepth 20000 in
set_option maxHeartbeats 2000000 in
theorem st_may {E : EvT} {q q2 : Nat → Nat} {X : StX} {M : StM} {x1 x2 : Int32} (h : OK X M) : C_City_may E q 1000 x1 x2 X (fun r X1 => C_may E q2 1000 x1 x2 M (fun r2 M1 => r2 = r ∧ OK X1 M1)) := by
  obtain ⟨B, hB, hP, hD, hM, hT, hW, hA, hR, hF, hU, hS, hc, hr⟩ := h
  refine mIx (ct_City_may ⟨hB.geo, hP, hD, hM, hF, hR⟩) (fun r X1 hx => mI (ct_may ⟨hB.geo, hP, hD, hM, hF, hR⟩ hB.2.2.2.2.2.2) (fun r2 M1 hm => ?_))
  exact ⟨mayR.one hm.1 hx.1, OK.kp ⟨B, hB, hP, hD, hM, hT, hW, hA, hR, hF, hU, hS, hc, hr⟩ hm.2 hx.2⟩
set_option maxRecDepth 20000 in
set_option maxHeartbeats 2000000 in
theorem st_sure {E : EvT} {q q2 : Nat → Nat} {X : StX} {M : StM} {x1 : Int32} (h : OK X M) : C_City_sure E q 1000 x1 X (fun r X1 => C_sure E q2 1000 x1 M (fun r2 M1 => r2 = r ∧ OK X1 M1)) := by
  obtain ⟨B, hB, hP, hD, hM, hT, hW, hA, hR, hF, hU, hS, hc, hr⟩ := h
  refine mIx (ct_City_sure ⟨hB.geo, hP, hD, hM, hF, hR⟩) (fun r X1 hx => mI (ct_sure ⟨hB.geo, hP, hD, hM, hF, hR⟩ hB.2.2.2.2.2.2) (fun r2 M1 hm => ?_))
  exact ⟨sureR.one hm.1 hx.1, OK.kp ⟨B, hB, hP, hD, hM, hT, hW, hA, hR, hF, hU, hS, hc, hr⟩ hm.2 hx.2⟩
set_option maxRecDepth 20000 in
set_option maxHeartbeats 2000000 in
theorem st_beside {E : EvT} {q q2 : Nat → Nat} {X : StX} {M : StM} {x1 : Int32} (h : OK X M) : C_City_beside E q 1000 x1 X (fun r X1 => C_beside E q2 1000 x1 M (fun r2 M1 => r2 = r ∧ OK X1 M1)) := by
  obtain ⟨B, hB, hP, hD, hM, hT, hW, hA, hR, hF, hU, hS, hc, hr⟩ := h
  refine mIx (ct_City_beside hB ⟨hB.geo, hP, hD, hM, hF, hR⟩) (fun r X1 hx => mI (ct_beside ⟨hB.geo, hP, hD, hM, hF, hR⟩ hB.2.2.2.2.2.2) (fun r2 M1 hm => ?_))
  exact ⟨besR.one hm.1 hx.1, OK.kp ⟨B, hB, hP, hD, hM, hT, hW, hA, hR, hF, hU, hS, hc, hr⟩ hm.2 hx.2⟩
set_option maxRecDepth 20000 in
set_option maxHeartbeats 2000000 in
theorem st_nowhere {E : EvT} {q q2 : Nat → Nat} {X : StX} {M : StM} {x1 x2 : Int32} (h : OK X M) : C_City_nowhere E q 1000 x1 x2 X (fun r X1 => C_nowhere E q2 1000 x1 x2 M (fun r2 M1 => r2 = r ∧ OK X1 M1)) := by
  obtain ⟨B, hB, hP, hD, hM, hT, hW, hA, hR, hF, hU, hS, hc, hr⟩ := h
  refine mIx (ct_City_nowhere ⟨hB.geo, hP, hD, hM, hF, hR⟩) (fun r X1 hx => mI (ct_nowhere ⟨hB.geo, hP, hD, hM, hF, hR⟩ hB.2.2.2.2.2.2) (fun r2 M1 hm => ?_))
  exact ⟨nwR.one hm.1 hx.1, OK.kp ⟨B, hB, hP, hD, hM, hT, hW, hA, hR, hF, hU, hS, hc, hr⟩ hm.2 hx.2⟩
set_option maxRecDepth 20000 in
set_option maxHeartbeats 2000000 in
theorem st_like {E : EvT} {q q2 : Nat → Nat} {X : StX} {M : StM} {x1 x2 : Int32} (h : OK X M) : C_City_like E q 1000 x1 x2 X (fun r X1 => C_like E q2 1000 x1 x2 M (fun r2 M1 => r2 = r ∧ OK X1 M1)) := by
  obtain ⟨B, hB, hP, hD, hM, hT, hW, hA, hR, hF, hU, hS, hc, hr⟩ := h
  refine mIx (ct_City_like ⟨hF, hU, hR⟩) (fun r X1 hx => mI (ct_like ⟨hF, hU, hR⟩) (fun r2 M1 hm => ?_))
  exact ⟨likR.one hm.1 hx.1, OK.kp ⟨B, hB, hP, hD, hM, hT, hW, hA, hR, hF, hU, hS, hc, hr⟩ hm.2 hx.2⟩
set_option maxRecDepth 20000 in
set_option maxHeartbeats 2000000 in
theorem st_lost {E : EvT} {q q2 : Nat → Nat} {X : StX} {M : StM} {x1 x2 : Int32} (h : OK X M) : C_City_lost E q 1000 x1 x2 X (fun r X1 => C_lost E q2 1000 x1 x2 M (fun r2 M1 => r2 = r ∧ OK X1 M1)) := by
  obtain ⟨B, hB, hP, hD, hM, hT, hW, hA, hR, hF, hU, hS, hc, hr⟩ := h
  refine mIx (ct_City_lost hT ⟨hF, hU, hR⟩) (fun r X1 hx => mI (ct_lost ⟨hF, hU, hR⟩) (fun r2 M1 hm => ?_))
  by_cases ok : losOk M x1 x2
  · obtain ⟨e1, k1⟩ := hx.2 ok
    obtain ⟨e2, k2⟩ := hm.2 ok
    exact ⟨e2.trans e1.symm, OK.kp (OK.tape ⟨B, hB, hP, hD, hM, hT, hW, hA, hR, hF, hU, hS, hc, hr⟩) k2 k1⟩
  · obtain ⟨e1, rfl⟩ := hx.1 ok
    obtain ⟨e2, rfl⟩ := hm.1 ok
    exact ⟨e2.trans e1.symm, ⟨B, hB, hP, hD, hM, hT, hW, hA, hR, hF, hU, hS, hc, hr⟩⟩
set_option maxRecDepth 20000 in
set_option maxHeartbeats 2000000 in
theorem st_check {E : EvT} {q q2 : Nat → Nat} {X : StX} {M : StM} {x1 : Int32} (h : OK X M) : C_City_check E q 1000 x1 X (fun r X1 => C_check E q2 1000 x1 M (fun r2 M1 => r2 = r ∧ OK X1 M1)) := by
  obtain ⟨B, hB, hP, hD, hM, hT, hW, hA, hR, hF, hU, hS, hc, hr⟩ := h
  refine mIx (ct_City_check hB hD hT) (fun r X1 hx => mI (ct_check hB hD hT) (fun r2 M1 hm => ?_))
  by_cases ok : ckOk M x1
  · obtain ⟨n, hn, hx1⟩ : ∃ n, n ≤ 33 ∧ x1 = nI n := by
      have k1 := Int32.le_iff_toInt_le.mp ok.1
      have k2 := Int32.le_iff_toInt_le.mp ok.2
      have k3 := Int32.le_iff_toInt_le.mp hT.2.1
      have k4 := Int32.le_iff_toInt_le.mp hT.2.2
      rw [Int32.toInt_div_of_ne_right _ _ (by decide)] at k2
      have k5 : (12 : Int32).toInt = 12 := by decide
      have k6 : (0 : Int32).toInt = 0 := by decide
      have k7 : (400 : Int32).toInt = 400 := by decide
      rw [k5, Int.tdiv_eq_ediv_of_nonneg (by omega)] at k2
      refine ⟨x1.toInt.toNat, by omega, Int32.toInt_inj.mp ?_⟩
      rw [nI_toInt (by omega)]
      omega
    obtain ⟨e1, rfl⟩ := hx.2 ok
    obtain ⟨e2, f, rfl⟩ := hm.2 ok
    refine ⟨(e2 n hn hx1).trans (e1 n hn hx1).symm, ?_⟩
    obtain ⟨B, hB, hP, hD, hM, hT, hW, hA, hR, hF, hU, hS, hc, hr⟩ := OK.tape (X := X) (M := M) ⟨B, hB, hP, hD, hM, hT, hW, hA, hR, hF, hU, hS, hc, hr⟩
    exact ⟨B, hB, hP, hD, hM, hT, hW, hA, hR, hF, hU, hS, hc, hr⟩
  · obtain ⟨e1, rfl⟩ := hx.1 ok
    obtain ⟨e2, rfl⟩ := hm.1 ok
    exact ⟨e2.trans e1.symm, ⟨B, hB, hP, hD, hM, hT, hW, hA, hR, hF, hU, hS, hc, hr⟩⟩
