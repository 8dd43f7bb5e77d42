/-! the law: one call on both sides, by its number -/
def QO (E : EvT) (q : Nat → Nat) (mi : Nat) : Prop := EOk E q ∧ EOq E (q 15) mi ∧ EOr E
theorem QO.to {E : EvT} {q q3 : Nat → Nat} {mi : Nat} (h : QO E q mi) (hq : ∀ i, i < 1000 → i ≠ 13 → q3 i = q i) : QO E q3 mi := by
  refine ⟨?_, ?_, h.2.2⟩
  · have h1 := h.1
    unfold EOk at h1 ⊢
    rw [hq 16 (by decide) (by decide)]
    exact h1
  · rw [hq 15 (by decide) (by decide)]
    exact h.2.1
theorem w_bz {p : Program} {e : Env} {s : State} {m : MethodId} {below : List Frame} {meth : Method} {c : Code} {E : EvT} {b L : Nat} {xs : Nat → Int32} {w : va_W} {k n : Nat} {ls : List (Nat × Value)} {st : List Value} {pc : Nat} (C : CL E p s m meth c b L xs) {x : Int32} {t1 t2 : Nat} (d0 : decode code pc = .ok (.ifCond .eq 7, 3)) (d1 : decode code (pc + 3) = .ok (.iconst 1, 1)) (d2 : decode code (pc + 3 + 1) = .ok (.goto 4, 3)) (d3 : decode code t1 = .ok (.iconst 0, 1)) (h1 : (pc : Int) + 7 = (t1 : Int)) (h2 : ((pc + 3 + 1 : Nat) : Int) + 4 = (t2 : Int)) (h3 : t1 + 1 = t2) (kk : RW p e s m below meth c E b w k n ls (.int (if x = 0 then 0 else 1) :: st) t2) : RW p e s m below meth c E b w k n ls (.int x :: st) pc := by
  refine w_if0 C d0 h1 (fun z => ?_) (fun z => ?_)
  · refine w_iconst C (v := 0) d3 (by decide) ?_
    rw [h3]
    rw [if_pos z] at kk
    exact kk
  · refine w_iconst C (v := 1) d1 (by decide) ?_
    refine w_goto C d2 h2 ?_
    rw [if_neg z] at kk
    exact kk
set_option maxRecDepth 20000 in
theorem lc_0 {p : Program} {e : Env} {s : State} {m : MethodId} {below : List Frame} {meth : Method} {c : Code} {E : EvT} {b L : Nat} {xs : Nat → Int32} {k n : Nat} {q q2 : Nat → Nat} {X : StX} {M : StM} {i mi : Nat} (C : CL E p s m meth c b L xs) (hi : i + 9 ≤ L) (hq : QO E q mi) (hO : OK X M) (hk : k + 7 ≤ 600000 ∧ n + 269 ≤ 7302250) (K : ∀ (q3 : Nat → Nat) (X1 : StX) (M1 : StM) (k1 n1 : Nat), OK X1 M1 → QO E q3 mi → q3 11 = q 11 → k1 ≤ k + 7 → n1 ≤ n + 269 → RW p e s m below meth c E b (wM E q2 M1 ++ wX E q3 X1) k1 n1 [(0, .ref b), (1, .ref (q 11)), (2, .ref (q2 0)), (3, .int (nI i))] [] 1872) : RW p e s m below meth c E b (wM E q2 M ++ wX E q X) k n [(0, .ref b), (1, .ref (q 11)), (2, .ref (q2 0)), (3, .int (nI i))] [] 216 := by
  refine w_aload C 1 dL_law_216 rfl rfl ?_
  refine w_arg C (jj := 1) hi (by decide) (by decide) dL_law_217 dL_law_218 dL_law_219 dL_law_220 dL_law_221 ?_
  refine w_arg C (jj := 2) hi (by decide) (by decide) dL_law_222 dL_law_223 dL_law_224 dL_law_225 dL_law_226 ?_
  refine w_callV C (I9 := iX_City_city) (As := [.int (xs (i + 1)), .int (xs (i + 2))]) (T := TX11) (q0 := 95) w3_82 w3_83 w3_84 w1_1 w3_85 (nA := 2) (by decide +kernel) rfl (by decide) rfl rfl (Nat.le_of_ble_eq_true rfl) dL_law_227 ⟨by omega, by omega⟩ rfl ((st_city (q := q) (q2 := q2) hO).frame (wM E q2 M)) ?_
  intro v w' h
  obtain ⟨w1, rfl, r, X1, rfl, rfl, hm⟩ := h
  refine w_aload C 2 dL_law_230 rfl rfl ?_
  refine w_arg C (jj := 1) hi (by decide) (by decide) dL_law_231 dL_law_232 dL_law_233 dL_law_234 dL_law_235 ?_
  refine w_arg C (jj := 2) hi (by decide) (by decide) dL_law_236 dL_law_237 dL_law_238 dL_law_239 dL_law_240 ?_
  refine w_callV C (I9 := iM_city) (As := [.int (xs (i + 1)), .int (xs (i + 2))]) (T := TX12) (q0 := 0) w8_36 w8_37 w8_38 w1_16 w8_39 (nA := 2) (by decide +kernel) rfl (by decide) rfl rfl (Nat.le_of_ble_eq_true rfl) dL_law_241 ⟨by omega, by omega⟩ rfl ((hm.frame (wX E q X1)).perm List.perm_append_comm) ?_
  intro v w' h
  obtain ⟨w1, rfl, r2, M1, rfl, rfl, hrr, hO1⟩ := h
  subst hrr
  refine w_perm List.perm_append_comm ?_
  refine w_eq C (tgt := 1872) dL_law_244 (by decide) ?_
  exact K q X1 M1 _ _ hO1 hq rfl (by omega) (by omega)
set_option maxRecDepth 20000 in
theorem lc_1 {p : Program} {e : Env} {s : State} {m : MethodId} {below : List Frame} {meth : Method} {c : Code} {E : EvT} {b L : Nat} {xs : Nat → Int32} {k n : Nat} {q q2 : Nat → Nat} {X : StX} {M : StM} {i mi : Nat} (C : CL E p s m meth c b L xs) (hi : i + 9 ≤ L) (hq : QO E q mi) (hO : OK X M) (hk : k + 7 ≤ 600000 ∧ n + 269 ≤ 7302250) (K : ∀ (q3 : Nat → Nat) (X1 : StX) (M1 : StM) (k1 n1 : Nat), OK X1 M1 → QO E q3 mi → q3 11 = q 11 → k1 ≤ k + 7 → n1 ≤ n + 269 → RW p e s m below meth c E b (wM E q2 M1 ++ wX E q3 X1) k1 n1 [(0, .ref b), (1, .ref (q 11)), (2, .ref (q2 0)), (3, .int (nI i))] [] 1872) : RW p e s m below meth c E b (wM E q2 M ++ wX E q X) k n [(0, .ref b), (1, .ref (q 11)), (2, .ref (q2 0)), (3, .int (nI i))] [] 249 := by
  refine w_aload C 1 dL_law_249 rfl rfl ?_
  refine w_arg C (jj := 1) hi (by decide) (by decide) dL_law_250 dL_law_251 dL_law_252 dL_law_253 dL_law_254 ?_
  refine w_callV C (I9 := iX_City_now) (As := [.int (xs (i + 1))]) (T := TX11) (q0 := 95) w3_97 w3_98 w3_99 w1_1 w3_100 (nA := 1) (by decide +kernel) rfl (by decide) rfl rfl (Nat.le_of_ble_eq_true rfl) dL_law_255 ⟨by omega, by omega⟩ rfl ((st_now (q := q) (q2 := q2) hO).frame (wM E q2 M)) ?_
  intro v w' h
  obtain ⟨w1, rfl, r, X1, rfl, rfl, hm⟩ := h
  refine w_aload C 2 dL_law_258 rfl rfl ?_
  refine w_arg C (jj := 1) hi (by decide) (by decide) dL_law_259 dL_law_260 dL_law_261 dL_law_262 dL_law_263 ?_
  refine w_callV C (I9 := iM_now) (As := [.int (xs (i + 1))]) (T := TX12) (q0 := 0) w8_43 w8_44 w8_45 w1_16 w8_46 (nA := 1) (by decide +kernel) rfl (by decide) rfl rfl (Nat.le_of_ble_eq_true rfl) dL_law_264 ⟨by omega, by omega⟩ rfl ((hm.frame (wX E q X1)).perm List.perm_append_comm) ?_
  intro v w' h
  obtain ⟨w1, rfl, r2, M1, rfl, rfl, hrr, hO1⟩ := h
  subst hrr
  refine w_perm List.perm_append_comm ?_
  refine w_eq C (tgt := 1872) dL_law_267 (by decide) ?_
  exact K q X1 M1 _ _ hO1 hq rfl (by omega) (by omega)
set_option maxRecDepth 20000 in
theorem lc_2 {p : Program} {e : Env} {s : State} {m : MethodId} {below : List Frame} {meth : Method} {c : Code} {E : EvT} {b L : Nat} {xs : Nat → Int32} {k n : Nat} {q q2 : Nat → Nat} {X : StX} {M : StM} {i mi : Nat} (C : CL E p s m meth c b L xs) (hi : i + 9 ≤ L) (hq : QO E q mi) (hO : OK X M) (hk : k + 7 ≤ 600000 ∧ n + 269 ≤ 7302250) (K : ∀ (q3 : Nat → Nat) (X1 : StX) (M1 : StM) (k1 n1 : Nat), OK X1 M1 → QO E q3 mi → q3 11 = q 11 → k1 ≤ k + 7 → n1 ≤ n + 269 → RW p e s m below meth c E b (wM E q2 M1 ++ wX E q3 X1) k1 n1 [(0, .ref b), (1, .ref (q 11)), (2, .ref (q2 0)), (3, .int (nI i))] [] 1872) : RW p e s m below meth c E b (wM E q2 M ++ wX E q X) k n [(0, .ref b), (1, .ref (q 11)), (2, .ref (q2 0)), (3, .int (nI i))] [] 272 := by
  refine w_aload C 1 dL_law_272 rfl rfl ?_
  refine w_arg C (jj := 1) hi (by decide) (by decide) dL_law_273 dL_law_274 dL_law_275 dL_law_276 dL_law_277 ?_
  refine w_arg C (jj := 2) hi (by decide) (by decide) dL_law_278 dL_law_279 dL_law_280 dL_law_281 dL_law_282 ?_
  refine w_arg C (jj := 3) hi (by decide) (by decide) dL_law_283 dL_law_284 dL_law_285 dL_law_286 dL_law_287 ?_
  refine w_callV C (I9 := iX_City_place) (As := [.int (xs (i + 1)), .int (xs (i + 2)), .int (xs (i + 3))]) (T := TX11) (q0 := 95) w3_104 w3_105 w3_106 w1_1 w3_107 (nA := 3) (by decide +kernel) rfl (by decide) rfl rfl (Nat.le_of_ble_eq_true rfl) dL_law_288 ⟨by omega, by omega⟩ rfl ((st_place (q := q) (q2 := q2) hO).frame (wM E q2 M)) ?_
  intro v w' h
  obtain ⟨w1, rfl, r, X1, rfl, rfl, hm⟩ := h
  refine w_aload C 2 dL_law_291 rfl rfl ?_
  refine w_arg C (jj := 1) hi (by decide) (by decide) dL_law_292 dL_law_293 dL_law_294 dL_law_295 dL_law_296 ?_
  refine w_arg C (jj := 2) hi (by decide) (by decide) dL_law_297 dL_law_298 dL_law_299 dL_law_300 dL_law_301 ?_
  refine w_arg C (jj := 3) hi (by decide) (by decide) dL_law_302 dL_law_303 dL_law_304 dL_law_305 dL_law_306 ?_
  refine w_callV C (I9 := iM_place) (As := [.int (xs (i + 1)), .int (xs (i + 2)), .int (xs (i + 3))]) (T := TX12) (q0 := 0) w8_47 w8_48 w8_49 w1_16 w8_50 (nA := 3) (by decide +kernel) rfl (by decide) rfl rfl (Nat.le_of_ble_eq_true rfl) dL_law_307 ⟨by omega, by omega⟩ rfl ((hm.frame (wX E q X1)).perm List.perm_append_comm) ?_
  intro v w' h
  obtain ⟨w1, rfl, r2, M1, rfl, rfl, hrr, hO1⟩ := h
  subst hrr
  refine w_perm List.perm_append_comm ?_
  refine w_eq C (tgt := 1872) dL_law_310 (by decide) ?_
  exact K q X1 M1 _ _ hO1 hq rfl (by omega) (by omega)
set_option maxRecDepth 20000 in
theorem lc_3 {p : Program} {e : Env} {s : State} {m : MethodId} {below : List Frame} {meth : Method} {c : Code} {E : EvT} {b L : Nat} {xs : Nat → Int32} {k n : Nat} {q q2 : Nat → Nat} {X : StX} {M : StM} {i mi : Nat} (C : CL E p s m meth c b L xs) (hi : i + 9 ≤ L) (hq : QO E q mi) (hO : OK X M) (hk : k + 7 ≤ 600000 ∧ n + 269 ≤ 7302250) (K : ∀ (q3 : Nat → Nat) (X1 : StX) (M1 : StM) (k1 n1 : Nat), OK X1 M1 → QO E q3 mi → q3 11 = q 11 → k1 ≤ k + 7 → n1 ≤ n + 269 → RW p e s m below meth c E b (wM E q2 M1 ++ wX E q3 X1) k1 n1 [(0, .ref b), (1, .ref (q 11)), (2, .ref (q2 0)), (3, .int (nI i))] [] 1872) : RW p e s m below meth c E b (wM E q2 M ++ wX E q X) k n [(0, .ref b), (1, .ref (q 11)), (2, .ref (q2 0)), (3, .int (nI i))] [] 315 := by
  refine w_aload C 1 dL_law_315 rfl rfl ?_
  refine w_arg C (jj := 1) hi (by decide) (by decide) dL_law_316 dL_law_317 dL_law_318 dL_law_319 dL_law_320 ?_
  refine w_callV C (I9 := iX_City_placeOf) (As := [.int (xs (i + 1))]) (T := TX11) (q0 := 95) w3_149 w3_150 w3_151 w1_1 w3_152 (nA := 1) (by decide +kernel) rfl (by decide) rfl rfl (Nat.le_of_ble_eq_true rfl) dL_law_321 ⟨by omega, by omega⟩ rfl ((st_placeOf (q := q) (q2 := q2) hO).frame (wM E q2 M)) ?_
  intro v w' h
  obtain ⟨w1, rfl, r, X1, rfl, rfl, hm⟩ := h
  refine w_aload C 2 dL_law_324 rfl rfl ?_
  refine w_arg C (jj := 1) hi (by decide) (by decide) dL_law_325 dL_law_326 dL_law_327 dL_law_328 dL_law_329 ?_
  refine w_callV C (I9 := iM_placeOf) (As := [.int (xs (i + 1))]) (T := TX12) (q0 := 0) w8_63 w8_64 w8_65 w1_16 w8_66 (nA := 1) (by decide +kernel) rfl (by decide) rfl rfl (Nat.le_of_ble_eq_true rfl) dL_law_330 ⟨by omega, by omega⟩ rfl ((hm.frame (wX E q X1)).perm List.perm_append_comm) ?_
  intro v w' h
  obtain ⟨w1, rfl, r2, M1, rfl, rfl, hrr, hO1⟩ := h
  subst hrr
  refine w_perm List.perm_append_comm ?_
  refine w_eq C (tgt := 1872) dL_law_333 (by decide) ?_
  exact K q X1 M1 _ _ hO1 hq rfl (by omega) (by omega)
set_option maxRecDepth 20000 in
theorem lc_4 {p : Program} {e : Env} {s : State} {m : MethodId} {below : List Frame} {meth : Method} {c : Code} {E : EvT} {b L : Nat} {xs : Nat → Int32} {k n : Nat} {q q2 : Nat → Nat} {X : StX} {M : StM} {i mi : Nat} (C : CL E p s m meth c b L xs) (hi : i + 9 ≤ L) (hq : QO E q mi) (hO : OK X M) (hk : k + 7 ≤ 600000 ∧ n + 269 ≤ 7302250) (K : ∀ (q3 : Nat → Nat) (X1 : StX) (M1 : StM) (k1 n1 : Nat), OK X1 M1 → QO E q3 mi → q3 11 = q 11 → k1 ≤ k + 7 → n1 ≤ n + 269 → RW p e s m below meth c E b (wM E q2 M1 ++ wX E q3 X1) k1 n1 [(0, .ref b), (1, .ref (q 11)), (2, .ref (q2 0)), (3, .int (nI i))] [] 1872) : RW p e s m below meth c E b (wM E q2 M ++ wX E q X) k n [(0, .ref b), (1, .ref (q 11)), (2, .ref (q2 0)), (3, .int (nI i))] [] 338 := by
  refine w_aload C 1 dL_law_338 rfl rfl ?_
  refine w_arg C (jj := 1) hi (by decide) (by decide) dL_law_339 dL_law_340 dL_law_341 dL_law_342 dL_law_343 ?_
  refine w_arg C (jj := 2) hi (by decide) (by decide) dL_law_344 dL_law_345 dL_law_346 dL_law_347 dL_law_348 ?_
  refine w_arg C (jj := 3) hi (by decide) (by decide) dL_law_349 dL_law_350 dL_law_351 dL_law_352 dL_law_353 ?_
  refine w_arg C (jj := 4) hi (by decide) (by decide) dL_law_354 dL_law_355 dL_law_356 dL_law_357 dL_law_358 ?_
  refine w_arg C (jj := 5) hi (by decide) (by decide) dL_law_359 dL_law_360 dL_law_361 dL_law_362 dL_law_363 ?_
  refine w_argb C (jj := 6) hi (by decide) (by decide) dL_law_364 dL_law_365 dL_law_366 dL_law_368 dL_law_369 ?_
  refine w_argb C (jj := 7) hi (by decide) (by decide) dL_law_370 dL_law_371 dL_law_372 dL_law_374 dL_law_375 ?_
  refine w_argb C (jj := 8) hi (by decide) (by decide) dL_law_376 dL_law_377 dL_law_378 dL_law_380 dL_law_381 ?_
  refine w_callV C (I9 := iX_City_dig) (As := [.int (xs (i + 1)), .int (xs (i + 2)), .int (xs (i + 3)), .int (xs (i + 4)), .int (xs (i + 5)), .int (xs (i + 6)), .int (xs (i + 7)), .int (xs (i + 8))]) (T := TX11) (q0 := 95) w3_162 w3_163 w3_164 w1_1 w3_165 (nA := 8) (by decide +kernel) rfl (by decide) rfl rfl (Nat.le_of_ble_eq_true rfl) dL_law_382 ⟨by omega, by omega⟩ rfl ((st_dig (q := q) (q2 := q2) hO).frame (wM E q2 M)) ?_
  intro v w' h
  obtain ⟨w1, rfl, r, X1, rfl, rfl, hm⟩ := h
  refine w_aload C 2 dL_law_385 rfl rfl ?_
  refine w_arg C (jj := 1) hi (by decide) (by decide) dL_law_386 dL_law_387 dL_law_388 dL_law_389 dL_law_390 ?_
  refine w_arg C (jj := 2) hi (by decide) (by decide) dL_law_391 dL_law_392 dL_law_393 dL_law_394 dL_law_395 ?_
  refine w_arg C (jj := 3) hi (by decide) (by decide) dL_law_396 dL_law_397 dL_law_398 dL_law_399 dL_law_400 ?_
  refine w_arg C (jj := 4) hi (by decide) (by decide) dL_law_401 dL_law_402 dL_law_403 dL_law_404 dL_law_405 ?_
  refine w_arg C (jj := 5) hi (by decide) (by decide) dL_law_406 dL_law_407 dL_law_408 dL_law_409 dL_law_410 ?_
  refine w_argb C (jj := 6) hi (by decide) (by decide) dL_law_411 dL_law_412 dL_law_413 dL_law_415 dL_law_416 ?_
  refine w_argb C (jj := 7) hi (by decide) (by decide) dL_law_417 dL_law_418 dL_law_419 dL_law_421 dL_law_422 ?_
  refine w_argb C (jj := 8) hi (by decide) (by decide) dL_law_423 dL_law_424 dL_law_425 dL_law_427 dL_law_428 ?_
  refine w_callV C (I9 := iM_dig) (As := [.int (xs (i + 1)), .int (xs (i + 2)), .int (xs (i + 3)), .int (xs (i + 4)), .int (xs (i + 5)), .int (xs (i + 6)), .int (xs (i + 7)), .int (xs (i + 8))]) (T := TX12) (q0 := 0) w8_67 w8_68 w8_69 w1_16 w8_70 (nA := 8) (by decide +kernel) rfl (by decide) rfl rfl (Nat.le_of_ble_eq_true rfl) dL_law_429 ⟨by omega, by omega⟩ rfl ((hm.frame (wX E q X1)).perm List.perm_append_comm) ?_
  intro v w' h
  obtain ⟨w1, rfl, r2, M1, rfl, rfl, hrr, hO1⟩ := h
  subst hrr
  refine w_perm List.perm_append_comm ?_
  refine w_eq C (tgt := 1872) dL_law_432 (by decide) ?_
  exact K q X1 M1 _ _ hO1 hq rfl (by omega) (by omega)
set_option maxRecDepth 20000 in
theorem lc_5 {p : Program} {e : Env} {s : State} {m : MethodId} {below : List Frame} {meth : Method} {c : Code} {E : EvT} {b L : Nat} {xs : Nat → Int32} {k n : Nat} {q q2 : Nat → Nat} {X : StX} {M : StM} {i mi : Nat} (C : CL E p s m meth c b L xs) (hi : i + 9 ≤ L) (hq : QO E q mi) (hO : OK X M) (hk : k + 7 ≤ 600000 ∧ n + 269 ≤ 7302250) (K : ∀ (q3 : Nat → Nat) (X1 : StX) (M1 : StM) (k1 n1 : Nat), OK X1 M1 → QO E q3 mi → q3 11 = q 11 → k1 ≤ k + 7 → n1 ≤ n + 269 → RW p e s m below meth c E b (wM E q2 M1 ++ wX E q3 X1) k1 n1 [(0, .ref b), (1, .ref (q 11)), (2, .ref (q2 0)), (3, .int (nI i))] [] 1872) : RW p e s m below meth c E b (wM E q2 M ++ wX E q X) k n [(0, .ref b), (1, .ref (q 11)), (2, .ref (q2 0)), (3, .int (nI i))] [] 437 := by
  refine w_aload C 1 dL_law_437 rfl rfl ?_
  refine w_arg C (jj := 1) hi (by decide) (by decide) dL_law_438 dL_law_439 dL_law_440 dL_law_441 dL_law_442 ?_
  refine w_callV C (I9 := iX_City_strike) (As := [.int (xs (i + 1))]) (T := TX11) (q0 := 95) w3_182 w3_183 w3_184 w1_1 w3_185 (nA := 1) (by decide +kernel) rfl (by decide) rfl rfl (Nat.le_of_ble_eq_true rfl) dL_law_443 ⟨by omega, by omega⟩ rfl ((st_strike (q := q) (q2 := q2) hO).frame (wM E q2 M)) ?_
  intro v w' h
  obtain ⟨w1, rfl, r, X1, rfl, rfl, hm⟩ := h
  refine w_aload C 2 dL_law_446 rfl rfl ?_
  refine w_arg C (jj := 1) hi (by decide) (by decide) dL_law_447 dL_law_448 dL_law_449 dL_law_450 dL_law_451 ?_
  refine w_callV C (I9 := iM_strike) (As := [.int (xs (i + 1))]) (T := TX12) (q0 := 0) w8_74 w8_75 w8_76 w1_16 w8_77 (nA := 1) (by decide +kernel) rfl (by decide) rfl rfl (Nat.le_of_ble_eq_true rfl) dL_law_452 ⟨by omega, by omega⟩ rfl ((hm.frame (wX E q X1)).perm List.perm_append_comm) ?_
  intro v w' h
  obtain ⟨w1, rfl, r2, M1, rfl, rfl, hrr, hO1⟩ := h
  subst hrr
  refine w_perm List.perm_append_comm ?_
  refine w_eq C (tgt := 1872) dL_law_455 (by decide) ?_
  exact K q X1 M1 _ _ hO1 hq rfl (by omega) (by omega)
set_option maxRecDepth 20000 in
theorem lc_6 {p : Program} {e : Env} {s : State} {m : MethodId} {below : List Frame} {meth : Method} {c : Code} {E : EvT} {b L : Nat} {xs : Nat → Int32} {k n : Nat} {q q2 : Nat → Nat} {X : StX} {M : StM} {i mi : Nat} (C : CL E p s m meth c b L xs) (hi : i + 9 ≤ L) (hq : QO E q mi) (hO : OK X M) (hk : k + 7 ≤ 600000 ∧ n + 269 ≤ 7302250) (K : ∀ (q3 : Nat → Nat) (X1 : StX) (M1 : StM) (k1 n1 : Nat), OK X1 M1 → QO E q3 mi → q3 11 = q 11 → k1 ≤ k + 7 → n1 ≤ n + 269 → RW p e s m below meth c E b (wM E q2 M1 ++ wX E q3 X1) k1 n1 [(0, .ref b), (1, .ref (q 11)), (2, .ref (q2 0)), (3, .int (nI i))] [] 1872) : RW p e s m below meth c E b (wM E q2 M ++ wX E q X) k n [(0, .ref b), (1, .ref (q 11)), (2, .ref (q2 0)), (3, .int (nI i))] [] 460 := by
  refine w_aload C 1 dL_law_460 rfl rfl ?_
  refine w_arg C (jj := 1) hi (by decide) (by decide) dL_law_461 dL_law_462 dL_law_463 dL_law_464 dL_law_465 ?_
  refine w_arg C (jj := 2) hi (by decide) (by decide) dL_law_466 dL_law_467 dL_law_468 dL_law_469 dL_law_470 ?_
  refine w_arg C (jj := 3) hi (by decide) (by decide) dL_law_471 dL_law_472 dL_law_473 dL_law_474 dL_law_475 ?_
  refine w_arg C (jj := 4) hi (by decide) (by decide) dL_law_476 dL_law_477 dL_law_478 dL_law_479 dL_law_480 ?_
  refine w_callV C (I9 := iX_City_ground) (As := [.int (xs (i + 1)), .int (xs (i + 2)), .int (xs (i + 3)), .int (xs (i + 4))]) (T := TX11) (q0 := 95) w3_194 w3_195 w3_196 w1_1 w3_197 (nA := 4) (by decide +kernel) rfl (by decide) rfl rfl (Nat.le_of_ble_eq_true rfl) dL_law_481 ⟨by omega, by omega⟩ rfl ((st_ground (q := q) (q2 := q2) hO).frame (wM E q2 M)) ?_
  intro v w' h
  obtain ⟨w1, rfl, r, X1, rfl, rfl, hm⟩ := h
  refine w_aload C 2 dL_law_484 rfl rfl ?_
  refine w_arg C (jj := 1) hi (by decide) (by decide) dL_law_485 dL_law_486 dL_law_487 dL_law_488 dL_law_489 ?_
  refine w_arg C (jj := 2) hi (by decide) (by decide) dL_law_490 dL_law_491 dL_law_492 dL_law_493 dL_law_494 ?_
  refine w_arg C (jj := 3) hi (by decide) (by decide) dL_law_495 dL_law_496 dL_law_497 dL_law_498 dL_law_499 ?_
  refine w_arg C (jj := 4) hi (by decide) (by decide) dL_law_500 dL_law_501 dL_law_502 dL_law_503 dL_law_504 ?_
  refine w_callV C (I9 := iM_ground) (As := [.int (xs (i + 1)), .int (xs (i + 2)), .int (xs (i + 3)), .int (xs (i + 4))]) (T := TX12) (q0 := 0) w8_82 w8_83 w8_84 w1_16 w8_85 (nA := 4) (by decide +kernel) rfl (by decide) rfl rfl (Nat.le_of_ble_eq_true rfl) dL_law_505 ⟨by omega, by omega⟩ rfl ((hm.frame (wX E q X1)).perm List.perm_append_comm) ?_
  intro v w' h
  obtain ⟨w1, rfl, r2, M1, rfl, rfl, hrr, hO1⟩ := h
  subst hrr
  refine w_perm List.perm_append_comm ?_
  refine w_eq C (tgt := 1872) dL_law_508 (by decide) ?_
  exact K q X1 M1 _ _ hO1 hq rfl (by omega) (by omega)
set_option maxRecDepth 20000 in
theorem lc_7 {p : Program} {e : Env} {s : State} {m : MethodId} {below : List Frame} {meth : Method} {c : Code} {E : EvT} {b L : Nat} {xs : Nat → Int32} {k n : Nat} {q q2 : Nat → Nat} {X : StX} {M : StM} {i mi : Nat} (C : CL E p s m meth c b L xs) (hi : i + 9 ≤ L) (hq : QO E q mi) (hO : OK X M) (hk : k + 7 ≤ 600000 ∧ n + 269 ≤ 7302250) (K : ∀ (q3 : Nat → Nat) (X1 : StX) (M1 : StM) (k1 n1 : Nat), OK X1 M1 → QO E q3 mi → q3 11 = q 11 → k1 ≤ k + 7 → n1 ≤ n + 269 → RW p e s m below meth c E b (wM E q2 M1 ++ wX E q3 X1) k1 n1 [(0, .ref b), (1, .ref (q 11)), (2, .ref (q2 0)), (3, .int (nI i))] [] 1872) : RW p e s m below meth c E b (wM E q2 M ++ wX E q X) k n [(0, .ref b), (1, .ref (q 11)), (2, .ref (q2 0)), (3, .int (nI i))] [] 513 := by
  refine w_aload C 1 dL_law_513 rfl rfl ?_
  refine w_arg C (jj := 1) hi (by decide) (by decide) dL_law_514 dL_law_515 dL_law_516 dL_law_517 dL_law_518 ?_
  refine w_arg C (jj := 2) hi (by decide) (by decide) dL_law_519 dL_law_520 dL_law_521 dL_law_522 dL_law_523 ?_
  refine w_arg C (jj := 3) hi (by decide) (by decide) dL_law_524 dL_law_525 dL_law_526 dL_law_527 dL_law_528 ?_
  refine w_arg C (jj := 4) hi (by decide) (by decide) dL_law_529 dL_law_530 dL_law_531 dL_law_532 dL_law_533 ?_
  refine w_callV C (I9 := iX_City_first) (As := [.int (xs (i + 1)), .int (xs (i + 2)), .int (xs (i + 3)), .int (xs (i + 4))]) (T := TX11) (q0 := 95) w3_220 w3_221 w3_222 w1_1 w3_223 (nA := 4) (by decide +kernel) rfl (by decide) rfl rfl (Nat.le_of_ble_eq_true rfl) dL_law_534 ⟨by omega, by omega⟩ rfl ((st_first (q := q) (q2 := q2) hO).frame (wM E q2 M)) ?_
  intro v w' h
  obtain ⟨w1, rfl, r, X1, rfl, rfl, hm⟩ := h
  refine w_aload C 2 dL_law_537 rfl rfl ?_
  refine w_arg C (jj := 1) hi (by decide) (by decide) dL_law_538 dL_law_539 dL_law_540 dL_law_541 dL_law_542 ?_
  refine w_arg C (jj := 2) hi (by decide) (by decide) dL_law_543 dL_law_544 dL_law_545 dL_law_546 dL_law_547 ?_
  refine w_arg C (jj := 3) hi (by decide) (by decide) dL_law_548 dL_law_549 dL_law_550 dL_law_551 dL_law_552 ?_
  refine w_arg C (jj := 4) hi (by decide) (by decide) dL_law_553 dL_law_554 dL_law_555 dL_law_556 dL_law_557 ?_
  refine w_callV C (I9 := iM_first) (As := [.int (xs (i + 1)), .int (xs (i + 2)), .int (xs (i + 3)), .int (xs (i + 4))]) (T := TX12) (q0 := 0) w8_105 w8_106 w8_107 w1_16 w8_108 (nA := 4) (by decide +kernel) rfl (by decide) rfl rfl (Nat.le_of_ble_eq_true rfl) dL_law_558 ⟨by omega, by omega⟩ rfl ((hm.frame (wX E q X1)).perm List.perm_append_comm) ?_
  intro v w' h
  obtain ⟨w1, rfl, r2, M1, rfl, rfl, hrr, hO1⟩ := h
  subst hrr
  refine w_perm List.perm_append_comm ?_
  refine w_eq C (tgt := 1872) dL_law_561 (by decide) ?_
  exact K q X1 M1 _ _ hO1 hq rfl (by omega) (by omega)
set_option maxRecDepth 20000 in
theorem lc_8 {p : Program} {e : Env} {s : State} {m : MethodId} {below : List Frame} {meth : Method} {c : Code} {E : EvT} {b L : Nat} {xs : Nat → Int32} {k n : Nat} {q q2 : Nat → Nat} {X : StX} {M : StM} {i mi : Nat} (C : CL E p s m meth c b L xs) (hi : i + 9 ≤ L) (hq : QO E q mi) (hO : OK X M) (hk : k + 7 ≤ 600000 ∧ n + 269 ≤ 7302250) (K : ∀ (q3 : Nat → Nat) (X1 : StX) (M1 : StM) (k1 n1 : Nat), OK X1 M1 → QO E q3 mi → q3 11 = q 11 → k1 ≤ k + 7 → n1 ≤ n + 269 → RW p e s m below meth c E b (wM E q2 M1 ++ wX E q3 X1) k1 n1 [(0, .ref b), (1, .ref (q 11)), (2, .ref (q2 0)), (3, .int (nI i))] [] 1872) : RW p e s m below meth c E b (wM E q2 M ++ wX E q X) k n [(0, .ref b), (1, .ref (q 11)), (2, .ref (q2 0)), (3, .int (nI i))] [] 566 := by
  refine w_aload C 1 dL_law_566 rfl rfl ?_
  refine w_arg C (jj := 1) hi (by decide) (by decide) dL_law_567 dL_law_568 dL_law_569 dL_law_570 dL_law_571 ?_
  refine w_arg C (jj := 2) hi (by decide) (by decide) dL_law_572 dL_law_573 dL_law_574 dL_law_575 dL_law_576 ?_
  refine w_arg C (jj := 3) hi (by decide) (by decide) dL_law_577 dL_law_578 dL_law_579 dL_law_580 dL_law_581 ?_
  refine w_arg C (jj := 4) hi (by decide) (by decide) dL_law_582 dL_law_583 dL_law_584 dL_law_585 dL_law_586 ?_
  refine w_arg C (jj := 5) hi (by decide) (by decide) dL_law_587 dL_law_588 dL_law_589 dL_law_590 dL_law_591 ?_
  refine w_callV C (I9 := iX_City_means) (As := [.int (xs (i + 1)), .int (xs (i + 2)), .int (xs (i + 3)), .int (xs (i + 4)), .int (xs (i + 5))]) (T := TX11) (q0 := 95) w3_228 w3_229 w3_230 w1_1 w3_231 (nA := 5) (by decide +kernel) rfl (by decide) rfl rfl (Nat.le_of_ble_eq_true rfl) dL_law_592 ⟨by omega, by omega⟩ rfl ((st_means (q := q) (q2 := q2) hO).frame (wM E q2 M)) ?_
  intro v w' h
  obtain ⟨w1, rfl, r, X1, rfl, rfl, hm⟩ := h
  refine w_aload C 2 dL_law_595 rfl rfl ?_
  refine w_arg C (jj := 1) hi (by decide) (by decide) dL_law_596 dL_law_597 dL_law_598 dL_law_599 dL_law_600 ?_
  refine w_arg C (jj := 2) hi (by decide) (by decide) dL_law_601 dL_law_602 dL_law_603 dL_law_604 dL_law_605 ?_
  refine w_arg C (jj := 3) hi (by decide) (by decide) dL_law_606 dL_law_607 dL_law_608 dL_law_609 dL_law_610 ?_
  refine w_arg C (jj := 4) hi (by decide) (by decide) dL_law_611 dL_law_612 dL_law_613 dL_law_614 dL_law_615 ?_
  refine w_arg C (jj := 5) hi (by decide) (by decide) dL_law_616 dL_law_617 dL_law_618 dL_law_619 dL_law_620 ?_
  refine w_callV C (I9 := iM_means) (As := [.int (xs (i + 1)), .int (xs (i + 2)), .int (xs (i + 3)), .int (xs (i + 4)), .int (xs (i + 5))]) (T := TX12) (q0 := 0) w8_109 w8_110 w8_111 w1_16 w8_112 (nA := 5) (by decide +kernel) rfl (by decide) rfl rfl (Nat.le_of_ble_eq_true rfl) dL_law_621 ⟨by omega, by omega⟩ rfl ((hm.frame (wX E q X1)).perm List.perm_append_comm) ?_
  intro v w' h
  obtain ⟨w1, rfl, r2, M1, rfl, rfl, hrr, hO1⟩ := h
  subst hrr
  refine w_perm List.perm_append_comm ?_
  refine w_eq C (tgt := 1872) dL_law_624 (by decide) ?_
  exact K q X1 M1 _ _ hO1 hq rfl (by omega) (by omega)
set_option maxRecDepth 20000 in
theorem lc_9 {p : Program} {e : Env} {s : State} {m : MethodId} {below : List Frame} {meth : Method} {c : Code} {E : EvT} {b L : Nat} {xs : Nat → Int32} {k n : Nat} {q q2 : Nat → Nat} {X : StX} {M : StM} {i mi : Nat} (C : CL E p s m meth c b L xs) (hi : i + 9 ≤ L) (hq : QO E q mi) (hO : OK X M) (hk : k + 7 ≤ 600000 ∧ n + 269 ≤ 7302250) (K : ∀ (q3 : Nat → Nat) (X1 : StX) (M1 : StM) (k1 n1 : Nat), OK X1 M1 → QO E q3 mi → q3 11 = q 11 → k1 ≤ k + 7 → n1 ≤ n + 269 → RW p e s m below meth c E b (wM E q2 M1 ++ wX E q3 X1) k1 n1 [(0, .ref b), (1, .ref (q 11)), (2, .ref (q2 0)), (3, .int (nI i))] [] 1872) : RW p e s m below meth c E b (wM E q2 M ++ wX E q X) k n [(0, .ref b), (1, .ref (q 11)), (2, .ref (q2 0)), (3, .int (nI i))] [] 629 := by
  refine w_aload C 1 dL_law_629 rfl rfl ?_
  refine w_arg C (jj := 1) hi (by decide) (by decide) dL_law_630 dL_law_631 dL_law_632 dL_law_633 dL_law_634 ?_
  refine w_arg C (jj := 2) hi (by decide) (by decide) dL_law_635 dL_law_636 dL_law_637 dL_law_638 dL_law_639 ?_
  refine w_arg C (jj := 3) hi (by decide) (by decide) dL_law_640 dL_law_641 dL_law_642 dL_law_643 dL_law_644 ?_
  refine w_callV C (I9 := iX_City_meaning) (As := [.int (xs (i + 1)), .int (xs (i + 2)), .int (xs (i + 3))]) (T := TX11) (q0 := 95) w4_6 w4_7 w4_8 w1_1 w4_9 (nA := 3) (by decide +kernel) rfl (by decide) rfl rfl (Nat.le_of_ble_eq_true rfl) dL_law_645 ⟨by omega, by omega⟩ rfl ((st_meaning (q := q) (q2 := q2) hO).frame (wM E q2 M)) ?_
  intro v w' h
  obtain ⟨w1, rfl, r, X1, rfl, rfl, hm⟩ := h
  refine w_aload C 2 dL_law_648 rfl rfl ?_
  refine w_arg C (jj := 1) hi (by decide) (by decide) dL_law_649 dL_law_650 dL_law_651 dL_law_652 dL_law_653 ?_
  refine w_arg C (jj := 2) hi (by decide) (by decide) dL_law_654 dL_law_655 dL_law_656 dL_law_657 dL_law_658 ?_
  refine w_arg C (jj := 3) hi (by decide) (by decide) dL_law_659 dL_law_660 dL_law_661 dL_law_662 dL_law_663 ?_
  refine w_callV C (I9 := iM_meaning) (As := [.int (xs (i + 1)), .int (xs (i + 2)), .int (xs (i + 3))]) (T := TX12) (q0 := 0) w8_117 w8_118 w8_119 w1_16 w8_120 (nA := 3) (by decide +kernel) rfl (by decide) rfl rfl (Nat.le_of_ble_eq_true rfl) dL_law_664 ⟨by omega, by omega⟩ rfl ((hm.frame (wX E q X1)).perm List.perm_append_comm) ?_
  intro v w' h
  obtain ⟨w1, rfl, r2, M1, rfl, rfl, hrr, hO1⟩ := h
  subst hrr
  refine w_perm List.perm_append_comm ?_
  refine w_eq C (tgt := 1872) dL_law_667 (by decide) ?_
  exact K q X1 M1 _ _ hO1 hq rfl (by omega) (by omega)
set_option maxRecDepth 20000 in
theorem lc_10 {p : Program} {e : Env} {s : State} {m : MethodId} {below : List Frame} {meth : Method} {c : Code} {E : EvT} {b L : Nat} {xs : Nat → Int32} {k n : Nat} {q q2 : Nat → Nat} {X : StX} {M : StM} {i mi : Nat} (C : CL E p s m meth c b L xs) (hi : i + 9 ≤ L) (hq : QO E q mi) (hO : OK X M) (hk : k + 7 ≤ 600000 ∧ n + 269 ≤ 7302250) (K : ∀ (q3 : Nat → Nat) (X1 : StX) (M1 : StM) (k1 n1 : Nat), OK X1 M1 → QO E q3 mi → q3 11 = q 11 → k1 ≤ k + 7 → n1 ≤ n + 269 → RW p e s m below meth c E b (wM E q2 M1 ++ wX E q3 X1) k1 n1 [(0, .ref b), (1, .ref (q 11)), (2, .ref (q2 0)), (3, .int (nI i))] [] 1872) : RW p e s m below meth c E b (wM E q2 M ++ wX E q X) k n [(0, .ref b), (1, .ref (q 11)), (2, .ref (q2 0)), (3, .int (nI i))] [] 672 := by
  refine w_aload C 1 dL_law_672 rfl rfl ?_
  refine w_arg C (jj := 1) hi (by decide) (by decide) dL_law_673 dL_law_674 dL_law_675 dL_law_676 dL_law_677 ?_
  refine w_arg C (jj := 2) hi (by decide) (by decide) dL_law_678 dL_law_679 dL_law_680 dL_law_681 dL_law_682 ?_
  refine w_arg C (jj := 3) hi (by decide) (by decide) dL_law_683 dL_law_684 dL_law_685 dL_law_686 dL_law_687 ?_
  refine w_arg C (jj := 4) hi (by decide) (by decide) dL_law_688 dL_law_689 dL_law_690 dL_law_691 dL_law_692 ?_
  refine w_arg C (jj := 5) hi (by decide) (by decide) dL_law_693 dL_law_694 dL_law_695 dL_law_696 dL_law_697 ?_
  refine w_callV C (I9 := iX_City_feed) (As := [.int (xs (i + 1)), .int (xs (i + 2)), .int (xs (i + 3)), .int (xs (i + 4)), .int (xs (i + 5))]) (T := TX11) (q0 := 95) w4_14 w4_15 w4_16 w1_1 w4_17 (nA := 5) (by decide +kernel) rfl (by decide) rfl rfl (Nat.le_of_ble_eq_true rfl) dL_law_698 ⟨by omega, by omega⟩ rfl ((st_feed (q := q) (q2 := q2) hO).frame (wM E q2 M)) ?_
  intro v w' h
  obtain ⟨w1, rfl, r, X1, rfl, rfl, hm⟩ := h
  refine w_aload C 2 dL_law_701 rfl rfl ?_
  refine w_arg C (jj := 1) hi (by decide) (by decide) dL_law_702 dL_law_703 dL_law_704 dL_law_705 dL_law_706 ?_
  refine w_arg C (jj := 2) hi (by decide) (by decide) dL_law_707 dL_law_708 dL_law_709 dL_law_710 dL_law_711 ?_
  refine w_arg C (jj := 3) hi (by decide) (by decide) dL_law_712 dL_law_713 dL_law_714 dL_law_715 dL_law_716 ?_
  refine w_arg C (jj := 4) hi (by decide) (by decide) dL_law_717 dL_law_718 dL_law_719 dL_law_720 dL_law_721 ?_
  refine w_arg C (jj := 5) hi (by decide) (by decide) dL_law_722 dL_law_723 dL_law_724 dL_law_725 dL_law_726 ?_
  refine w_callV C (I9 := iM_feed) (As := [.int (xs (i + 1)), .int (xs (i + 2)), .int (xs (i + 3)), .int (xs (i + 4)), .int (xs (i + 5))]) (T := TX12) (q0 := 0) w8_125 w8_126 w8_127 w1_16 w8_128 (nA := 5) (by decide +kernel) rfl (by decide) rfl rfl (Nat.le_of_ble_eq_true rfl) dL_law_727 ⟨by omega, by omega⟩ rfl ((hm.frame (wX E q X1)).perm List.perm_append_comm) ?_
  intro v w' h
  obtain ⟨w1, rfl, r2, M1, rfl, rfl, hrr, hO1⟩ := h
  subst hrr
  refine w_perm List.perm_append_comm ?_
  refine w_eq C (tgt := 1872) dL_law_730 (by decide) ?_
  exact K q X1 M1 _ _ hO1 hq rfl (by omega) (by omega)
set_option maxRecDepth 20000 in
theorem lc_11 {p : Program} {e : Env} {s : State} {m : MethodId} {below : List Frame} {meth : Method} {c : Code} {E : EvT} {b L : Nat} {xs : Nat → Int32} {k n : Nat} {q q2 : Nat → Nat} {X : StX} {M : StM} {i mi : Nat} (C : CL E p s m meth c b L xs) (hi : i + 9 ≤ L) (hq : QO E q mi) (hO : OK X M) (hk : k + 7 ≤ 600000 ∧ n + 269 ≤ 7302250) (K : ∀ (q3 : Nat → Nat) (X1 : StX) (M1 : StM) (k1 n1 : Nat), OK X1 M1 → QO E q3 mi → q3 11 = q 11 → k1 ≤ k + 7 → n1 ≤ n + 269 → RW p e s m below meth c E b (wM E q2 M1 ++ wX E q3 X1) k1 n1 [(0, .ref b), (1, .ref (q 11)), (2, .ref (q2 0)), (3, .int (nI i))] [] 1872) : RW p e s m below meth c E b (wM E q2 M ++ wX E q X) k n [(0, .ref b), (1, .ref (q 11)), (2, .ref (q2 0)), (3, .int (nI i))] [] 735 := by
  refine w_aload C 1 dL_law_735 rfl rfl ?_
  refine w_arg C (jj := 1) hi (by decide) (by decide) dL_law_736 dL_law_737 dL_law_738 dL_law_739 dL_law_740 ?_
  refine w_arg C (jj := 2) hi (by decide) (by decide) dL_law_741 dL_law_742 dL_law_743 dL_law_744 dL_law_745 ?_
  refine w_arg C (jj := 3) hi (by decide) (by decide) dL_law_746 dL_law_747 dL_law_748 dL_law_749 dL_law_750 ?_
  refine w_callV C (I9 := iX_City_rules) (As := [.int (xs (i + 1)), .int (xs (i + 2)), .int (xs (i + 3))]) (T := TX11) (q0 := 95) w4_22 w4_23 w4_24 w1_1 w4_25 (nA := 3) (by decide +kernel) rfl (by decide) rfl rfl (Nat.le_of_ble_eq_true rfl) dL_law_751 ⟨by omega, by omega⟩ rfl ((st_rules (q2 := q2) hq.1 hq.2.1 hq.2.2 hO).frame (wM E q2 M)) ?_
  intro v w' h
  obtain ⟨w1, rfl, r, q3, X1, rfl, rfl, hag, hm⟩ := h
  refine w_aload C 2 dL_law_754 rfl rfl ?_
  refine w_arg C (jj := 1) hi (by decide) (by decide) dL_law_755 dL_law_756 dL_law_757 dL_law_758 dL_law_759 ?_
  refine w_arg C (jj := 2) hi (by decide) (by decide) dL_law_760 dL_law_761 dL_law_762 dL_law_763 dL_law_764 ?_
  refine w_arg C (jj := 3) hi (by decide) (by decide) dL_law_765 dL_law_766 dL_law_767 dL_law_768 dL_law_769 ?_
  refine w_callV C (I9 := iM_rules) (As := [.int (xs (i + 1)), .int (xs (i + 2)), .int (xs (i + 3))]) (T := TX12) (q0 := 0) w8_133 w8_134 w8_135 w1_16 w8_136 (nA := 3) (by decide +kernel) rfl (by decide) rfl rfl (Nat.le_of_ble_eq_true rfl) dL_law_770 ⟨by omega, by omega⟩ rfl ((hm.frame (wX E q3 X1)).perm List.perm_append_comm) ?_
  intro v w' h
  obtain ⟨w1, rfl, r2, M1, rfl, rfl, hrr, hO1⟩ := h
  subst hrr
  refine w_perm List.perm_append_comm ?_
  refine w_eq C (tgt := 1872) dL_law_773 (by decide) ?_
  exact K q3 X1 M1 _ _ hO1 (hq.to hag) (hag 11 (by decide) (by decide)) (by omega) (by omega)
set_option maxRecDepth 20000 in
theorem lc_12 {p : Program} {e : Env} {s : State} {m : MethodId} {below : List Frame} {meth : Method} {c : Code} {E : EvT} {b L : Nat} {xs : Nat → Int32} {k n : Nat} {q q2 : Nat → Nat} {X : StX} {M : StM} {i mi : Nat} (C : CL E p s m meth c b L xs) (hi : i + 9 ≤ L) (hq : QO E q mi) (hO : OK X M) (hk : k + 7 ≤ 600000 ∧ n + 269 ≤ 7302250) (K : ∀ (q3 : Nat → Nat) (X1 : StX) (M1 : StM) (k1 n1 : Nat), OK X1 M1 → QO E q3 mi → q3 11 = q 11 → k1 ≤ k + 7 → n1 ≤ n + 269 → RW p e s m below meth c E b (wM E q2 M1 ++ wX E q3 X1) k1 n1 [(0, .ref b), (1, .ref (q 11)), (2, .ref (q2 0)), (3, .int (nI i))] [] 1872) : RW p e s m below meth c E b (wM E q2 M ++ wX E q X) k n [(0, .ref b), (1, .ref (q 11)), (2, .ref (q2 0)), (3, .int (nI i))] [] 778 := by
  refine w_aload C 1 dL_law_778 rfl rfl ?_
  refine w_arg C (jj := 1) hi (by decide) (by decide) dL_law_779 dL_law_780 dL_law_781 dL_law_782 dL_law_783 ?_
  refine w_arg C (jj := 2) hi (by decide) (by decide) dL_law_784 dL_law_785 dL_law_786 dL_law_787 dL_law_788 ?_
  refine w_arg C (jj := 3) hi (by decide) (by decide) dL_law_789 dL_law_790 dL_law_791 dL_law_792 dL_law_793 ?_
  refine w_arg C (jj := 4) hi (by decide) (by decide) dL_law_794 dL_law_795 dL_law_796 dL_law_797 dL_law_798 ?_
  refine w_arg C (jj := 5) hi (by decide) (by decide) dL_law_799 dL_law_800 dL_law_801 dL_law_802 dL_law_803 ?_
  refine w_argb C (jj := 6) hi (by decide) (by decide) dL_law_804 dL_law_805 dL_law_806 dL_law_808 dL_law_809 ?_
  refine w_callV C (I9 := iX_City_number) (As := [.int (xs (i + 1)), .int (xs (i + 2)), .int (xs (i + 3)), .int (xs (i + 4)), .int (xs (i + 5)), .int (xs (i + 6))]) (T := TX11) (q0 := 95) w4_213 w4_214 w4_215 w1_1 w4_216 (nA := 6) (by decide +kernel) rfl (by decide) rfl rfl (Nat.le_of_ble_eq_true rfl) dL_law_810 ⟨by omega, by omega⟩ rfl ((st_number (q := q) (q2 := q2) hO).frame (wM E q2 M)) ?_
  intro v w' h
  obtain ⟨w1, rfl, r, X1, rfl, rfl, hm⟩ := h
  refine w_aload C 2 dL_law_813 rfl rfl ?_
  refine w_arg C (jj := 1) hi (by decide) (by decide) dL_law_814 dL_law_815 dL_law_816 dL_law_817 dL_law_818 ?_
  refine w_arg C (jj := 2) hi (by decide) (by decide) dL_law_819 dL_law_820 dL_law_821 dL_law_822 dL_law_823 ?_
  refine w_arg C (jj := 3) hi (by decide) (by decide) dL_law_824 dL_law_825 dL_law_826 dL_law_827 dL_law_828 ?_
  refine w_arg C (jj := 4) hi (by decide) (by decide) dL_law_829 dL_law_830 dL_law_831 dL_law_832 dL_law_833 ?_
  refine w_arg C (jj := 5) hi (by decide) (by decide) dL_law_834 dL_law_835 dL_law_836 dL_law_837 dL_law_838 ?_
  refine w_argb C (jj := 6) hi (by decide) (by decide) dL_law_839 dL_law_840 dL_law_841 dL_law_843 dL_law_844 ?_
  refine w_callV C (I9 := iM_number) (As := [.int (xs (i + 1)), .int (xs (i + 2)), .int (xs (i + 3)), .int (xs (i + 4)), .int (xs (i + 5)), .int (xs (i + 6))]) (T := TX12) (q0 := 0) w8_223 w8_224 w8_225 w1_16 w8_226 (nA := 6) (by decide +kernel) rfl (by decide) rfl rfl (Nat.le_of_ble_eq_true rfl) dL_law_845 ⟨by omega, by omega⟩ rfl ((hm.frame (wX E q X1)).perm List.perm_append_comm) ?_
  intro v w' h
  obtain ⟨w1, rfl, r2, M1, rfl, rfl, hrr, hO1⟩ := h
  subst hrr
  refine w_perm List.perm_append_comm ?_
  refine w_eq C (tgt := 1872) dL_law_848 (by decide) ?_
  exact K q X1 M1 _ _ hO1 hq rfl (by omega) (by omega)
set_option maxRecDepth 20000 in
theorem lc_13 {p : Program} {e : Env} {s : State} {m : MethodId} {below : List Frame} {meth : Method} {c : Code} {E : EvT} {b L : Nat} {xs : Nat → Int32} {k n : Nat} {q q2 : Nat → Nat} {X : StX} {M : StM} {i mi : Nat} (C : CL E p s m meth c b L xs) (hi : i + 9 ≤ L) (hq : QO E q mi) (hO : OK X M) (hk : k + 7 ≤ 600000 ∧ n + 269 ≤ 7302250) (K : ∀ (q3 : Nat → Nat) (X1 : StX) (M1 : StM) (k1 n1 : Nat), OK X1 M1 → QO E q3 mi → q3 11 = q 11 → k1 ≤ k + 7 → n1 ≤ n + 269 → RW p e s m below meth c E b (wM E q2 M1 ++ wX E q3 X1) k1 n1 [(0, .ref b), (1, .ref (q 11)), (2, .ref (q2 0)), (3, .int (nI i))] [] 1872) : RW p e s m below meth c E b (wM E q2 M ++ wX E q X) k n [(0, .ref b), (1, .ref (q 11)), (2, .ref (q2 0)), (3, .int (nI i))] [] 853 := by
  refine w_aload C 1 dL_law_853 rfl rfl ?_
  refine w_arg C (jj := 1) hi (by decide) (by decide) dL_law_854 dL_law_855 dL_law_856 dL_law_857 dL_law_858 ?_
  refine w_arg C (jj := 2) hi (by decide) (by decide) dL_law_859 dL_law_860 dL_law_861 dL_law_862 dL_law_863 ?_
  refine w_arg C (jj := 3) hi (by decide) (by decide) dL_law_864 dL_law_865 dL_law_866 dL_law_867 dL_law_868 ?_
  refine w_arg C (jj := 4) hi (by decide) (by decide) dL_law_869 dL_law_870 dL_law_871 dL_law_872 dL_law_873 ?_
  refine w_arg C (jj := 5) hi (by decide) (by decide) dL_law_874 dL_law_875 dL_law_876 dL_law_877 dL_law_878 ?_
  refine w_argb C (jj := 6) hi (by decide) (by decide) dL_law_879 dL_law_880 dL_law_881 dL_law_883 dL_law_884 ?_
  refine w_argb C (jj := 7) hi (by decide) (by decide) dL_law_885 dL_law_886 dL_law_887 dL_law_889 dL_law_890 ?_
  refine w_argb C (jj := 8) hi (by decide) (by decide) dL_law_891 dL_law_892 dL_law_893 dL_law_895 dL_law_896 ?_
  refine w_callV C (I9 := iX_City_find) (As := [.int (xs (i + 1)), .int (xs (i + 2)), .int (xs (i + 3)), .int (xs (i + 4)), .int (xs (i + 5)), .int (xs (i + 6)), .int (xs (i + 7)), .int (xs (i + 8))]) (T := TX11) (q0 := 95) w5_41 w5_42 w5_43 w1_1 w5_44 (nA := 8) (by decide +kernel) rfl (by decide) rfl rfl (Nat.le_of_ble_eq_true rfl) dL_law_897 ⟨by omega, by omega⟩ rfl ((st_find (q := q) (q2 := q2) hO).frame (wM E q2 M)) ?_
  intro v w' h
  obtain ⟨w1, rfl, r, X1, rfl, rfl, hm⟩ := h
  refine w_aload C 2 dL_law_900 rfl rfl ?_
  refine w_arg C (jj := 1) hi (by decide) (by decide) dL_law_901 dL_law_902 dL_law_903 dL_law_904 dL_law_905 ?_
  refine w_arg C (jj := 2) hi (by decide) (by decide) dL_law_906 dL_law_907 dL_law_908 dL_law_909 dL_law_910 ?_
  refine w_arg C (jj := 3) hi (by decide) (by decide) dL_law_911 dL_law_912 dL_law_913 dL_law_914 dL_law_915 ?_
  refine w_arg C (jj := 4) hi (by decide) (by decide) dL_law_916 dL_law_917 dL_law_918 dL_law_919 dL_law_920 ?_
  refine w_arg C (jj := 5) hi (by decide) (by decide) dL_law_921 dL_law_922 dL_law_923 dL_law_924 dL_law_925 ?_
  refine w_argb C (jj := 6) hi (by decide) (by decide) dL_law_926 dL_law_927 dL_law_928 dL_law_930 dL_law_931 ?_
  refine w_argb C (jj := 7) hi (by decide) (by decide) dL_law_932 dL_law_933 dL_law_934 dL_law_936 dL_law_937 ?_
  refine w_argb C (jj := 8) hi (by decide) (by decide) dL_law_938 dL_law_939 dL_law_940 dL_law_942 dL_law_943 ?_
  refine w_callV C (I9 := iM_find) (As := [.int (xs (i + 1)), .int (xs (i + 2)), .int (xs (i + 3)), .int (xs (i + 4)), .int (xs (i + 5)), .int (xs (i + 6)), .int (xs (i + 7)), .int (xs (i + 8))]) (T := TX12) (q0 := 0) w9_14 w9_15 w9_16 w1_16 w9_17 (nA := 8) (by decide +kernel) rfl (by decide) rfl rfl (Nat.le_of_ble_eq_true rfl) dL_law_944 ⟨by omega, by omega⟩ rfl ((hm.frame (wX E q X1)).perm List.perm_append_comm) ?_
  intro v w' h
  obtain ⟨w1, rfl, r2, M1, rfl, rfl, hrr, hO1⟩ := h
  subst hrr
  refine w_perm List.perm_append_comm ?_
  refine w_eq C (tgt := 1872) dL_law_947 (by decide) ?_
  exact K q X1 M1 _ _ hO1 hq rfl (by omega) (by omega)
set_option maxRecDepth 20000 in
theorem lc_14 {p : Program} {e : Env} {s : State} {m : MethodId} {below : List Frame} {meth : Method} {c : Code} {E : EvT} {b L : Nat} {xs : Nat → Int32} {k n : Nat} {q q2 : Nat → Nat} {X : StX} {M : StM} {i mi : Nat} (C : CL E p s m meth c b L xs) (hi : i + 9 ≤ L) (hq : QO E q mi) (hO : OK X M) (hk : k + 7 ≤ 600000 ∧ n + 269 ≤ 7302250) (K : ∀ (q3 : Nat → Nat) (X1 : StX) (M1 : StM) (k1 n1 : Nat), OK X1 M1 → QO E q3 mi → q3 11 = q 11 → k1 ≤ k + 7 → n1 ≤ n + 269 → RW p e s m below meth c E b (wM E q2 M1 ++ wX E q3 X1) k1 n1 [(0, .ref b), (1, .ref (q 11)), (2, .ref (q2 0)), (3, .int (nI i))] [] 1872) : RW p e s m below meth c E b (wM E q2 M ++ wX E q X) k n [(0, .ref b), (1, .ref (q 11)), (2, .ref (q2 0)), (3, .int (nI i))] [] 952 := by
  refine w_aload C 1 dL_law_952 rfl rfl ?_
  refine w_arg C (jj := 1) hi (by decide) (by decide) dL_law_953 dL_law_954 dL_law_955 dL_law_956 dL_law_957 ?_
  refine w_arg C (jj := 2) hi (by decide) (by decide) dL_law_958 dL_law_959 dL_law_960 dL_law_961 dL_law_962 ?_
  refine w_callV C (I9 := iX_City_may) (As := [.int (xs (i + 1)), .int (xs (i + 2))]) (T := TX11) (q0 := 95) w5_57 w5_58 w5_59 w1_1 w5_60 (nA := 2) (by decide +kernel) rfl (by decide) rfl rfl (Nat.le_of_ble_eq_true rfl) dL_law_963 ⟨by omega, by omega⟩ rfl ((st_may (q := q) (q2 := q2) hO).frame (wM E q2 M)) ?_
  intro v w' h
  obtain ⟨w1, rfl, r, X1, rfl, rfl, hm⟩ := h
  refine w_aload C 2 dL_law_966 rfl rfl ?_
  refine w_arg C (jj := 1) hi (by decide) (by decide) dL_law_967 dL_law_968 dL_law_969 dL_law_970 dL_law_971 ?_
  refine w_arg C (jj := 2) hi (by decide) (by decide) dL_law_972 dL_law_973 dL_law_974 dL_law_975 dL_law_976 ?_
  refine w_callV C (I9 := iM_may) (As := [.int (xs (i + 1)), .int (xs (i + 2))]) (T := TX12) (q0 := 0) w9_18 w9_19 w9_20 w1_16 w9_21 (nA := 2) (by decide +kernel) rfl (by decide) rfl rfl (Nat.le_of_ble_eq_true rfl) dL_law_977 ⟨by omega, by omega⟩ rfl ((hm.frame (wX E q X1)).perm List.perm_append_comm) ?_
  intro v w' h
  obtain ⟨w1, rfl, r2, M1, rfl, rfl, hrr, hO1⟩ := h
  subst hrr
  refine w_perm List.perm_append_comm ?_
  refine w_eq C (tgt := 1872) dL_law_980 (by decide) ?_
  exact K q X1 M1 _ _ hO1 hq rfl (by omega) (by omega)
set_option maxRecDepth 20000 in
theorem lc_15 {p : Program} {e : Env} {s : State} {m : MethodId} {below : List Frame} {meth : Method} {c : Code} {E : EvT} {b L : Nat} {xs : Nat → Int32} {k n : Nat} {q q2 : Nat → Nat} {X : StX} {M : StM} {i mi : Nat} (C : CL E p s m meth c b L xs) (hi : i + 9 ≤ L) (hq : QO E q mi) (hO : OK X M) (hk : k + 7 ≤ 600000 ∧ n + 269 ≤ 7302250) (K : ∀ (q3 : Nat → Nat) (X1 : StX) (M1 : StM) (k1 n1 : Nat), OK X1 M1 → QO E q3 mi → q3 11 = q 11 → k1 ≤ k + 7 → n1 ≤ n + 269 → RW p e s m below meth c E b (wM E q2 M1 ++ wX E q3 X1) k1 n1 [(0, .ref b), (1, .ref (q 11)), (2, .ref (q2 0)), (3, .int (nI i))] [] 1872) : RW p e s m below meth c E b (wM E q2 M ++ wX E q X) k n [(0, .ref b), (1, .ref (q 11)), (2, .ref (q2 0)), (3, .int (nI i))] [] 985 := by
  refine w_aload C 1 dL_law_985 rfl rfl ?_
  refine w_arg C (jj := 1) hi (by decide) (by decide) dL_law_986 dL_law_987 dL_law_988 dL_law_989 dL_law_990 ?_
  refine w_callV C (I9 := iX_City_sure) (As := [.int (xs (i + 1))]) (T := TX11) (q0 := 95) w5_91 w5_92 w5_93 w1_1 w5_94 (nA := 1) (by decide +kernel) rfl (by decide) rfl rfl (Nat.le_of_ble_eq_true rfl) dL_law_991 ⟨by omega, by omega⟩ rfl ((st_sure (q := q) (q2 := q2) hO).frame (wM E q2 M)) ?_
  intro v w' h
  obtain ⟨w1, rfl, r, X1, rfl, rfl, hm⟩ := h
  refine w_aload C 2 dL_law_994 rfl rfl ?_
  refine w_arg C (jj := 1) hi (by decide) (by decide) dL_law_995 dL_law_996 dL_law_997 dL_law_998 dL_law_999 ?_
  refine w_callV C (I9 := iM_sure) (As := [.int (xs (i + 1))]) (T := TX12) (q0 := 0) w9_42 w9_43 w9_44 w1_16 w9_45 (nA := 1) (by decide +kernel) rfl (by decide) rfl rfl (Nat.le_of_ble_eq_true rfl) dL_law_1000 ⟨by omega, by omega⟩ rfl ((hm.frame (wX E q X1)).perm List.perm_append_comm) ?_
  intro v w' h
  obtain ⟨w1, rfl, r2, M1, rfl, rfl, hrr, hO1⟩ := h
  subst hrr
  refine w_perm List.perm_append_comm ?_
  refine w_eq C (tgt := 1872) dL_law_1003 (by decide) ?_
  exact K q X1 M1 _ _ hO1 hq rfl (by omega) (by omega)
set_option maxRecDepth 20000 in
theorem lc_16 {p : Program} {e : Env} {s : State} {m : MethodId} {below : List Frame} {meth : Method} {c : Code} {E : EvT} {b L : Nat} {xs : Nat → Int32} {k n : Nat} {q q2 : Nat → Nat} {X : StX} {M : StM} {i mi : Nat} (C : CL E p s m meth c b L xs) (hi : i + 9 ≤ L) (hq : QO E q mi) (hO : OK X M) (hk : k + 7 ≤ 600000 ∧ n + 269 ≤ 7302250) (K : ∀ (q3 : Nat → Nat) (X1 : StX) (M1 : StM) (k1 n1 : Nat), OK X1 M1 → QO E q3 mi → q3 11 = q 11 → k1 ≤ k + 7 → n1 ≤ n + 269 → RW p e s m below meth c E b (wM E q2 M1 ++ wX E q3 X1) k1 n1 [(0, .ref b), (1, .ref (q 11)), (2, .ref (q2 0)), (3, .int (nI i))] [] 1872) : RW p e s m below meth c E b (wM E q2 M ++ wX E q X) k n [(0, .ref b), (1, .ref (q 11)), (2, .ref (q2 0)), (3, .int (nI i))] [] 1008 := by
  refine w_aload C 1 dL_law_1008 rfl rfl ?_
  refine w_arg C (jj := 1) hi (by decide) (by decide) dL_law_1009 dL_law_1010 dL_law_1011 dL_law_1012 dL_law_1013 ?_
  refine w_arg C (jj := 2) hi (by decide) (by decide) dL_law_1014 dL_law_1015 dL_law_1016 dL_law_1017 dL_law_1018 ?_
  refine w_callV C (I9 := iX_City_nowhere) (As := [.int (xs (i + 1)), .int (xs (i + 2))]) (T := TX11) (q0 := 95) w5_107 w5_108 w5_109 w1_1 w5_110 (nA := 2) (by decide +kernel) rfl (by decide) rfl rfl (Nat.le_of_ble_eq_true rfl) dL_law_1019 ⟨by omega, by omega⟩ rfl ((st_nowhere (q := q) (q2 := q2) hO).frame (wM E q2 M)) ?_
  intro v w' h
  obtain ⟨w1, rfl, r, X1, rfl, rfl, hm⟩ := h
  refine w_aload C 2 dL_law_1022 rfl rfl ?_
  refine w_arg C (jj := 1) hi (by decide) (by decide) dL_law_1023 dL_law_1024 dL_law_1025 dL_law_1026 dL_law_1027 ?_
  refine w_arg C (jj := 2) hi (by decide) (by decide) dL_law_1028 dL_law_1029 dL_law_1030 dL_law_1031 dL_law_1032 ?_
  refine w_callV C (I9 := iM_nowhere) (As := [.int (xs (i + 1)), .int (xs (i + 2))]) (T := TX12) (q0 := 0) w9_50 w9_51 w9_52 w1_16 w9_53 (nA := 2) (by decide +kernel) rfl (by decide) rfl rfl (Nat.le_of_ble_eq_true rfl) dL_law_1033 ⟨by omega, by omega⟩ rfl ((hm.frame (wX E q X1)).perm List.perm_append_comm) ?_
  intro v w' h
  obtain ⟨w1, rfl, r2, M1, rfl, rfl, hrr, hO1⟩ := h
  subst hrr
  refine w_perm List.perm_append_comm ?_
  refine w_eq C (tgt := 1872) dL_law_1036 (by decide) ?_
  exact K q X1 M1 _ _ hO1 hq rfl (by omega) (by omega)
set_option maxRecDepth 20000 in
theorem lc_17 {p : Program} {e : Env} {s : State} {m : MethodId} {below : List Frame} {meth : Method} {c : Code} {E : EvT} {b L : Nat} {xs : Nat → Int32} {k n : Nat} {q q2 : Nat → Nat} {X : StX} {M : StM} {i mi : Nat} (C : CL E p s m meth c b L xs) (hi : i + 9 ≤ L) (hq : QO E q mi) (hO : OK X M) (hk : k + 7 ≤ 600000 ∧ n + 269 ≤ 7302250) (K : ∀ (q3 : Nat → Nat) (X1 : StX) (M1 : StM) (k1 n1 : Nat), OK X1 M1 → QO E q3 mi → q3 11 = q 11 → k1 ≤ k + 7 → n1 ≤ n + 269 → RW p e s m below meth c E b (wM E q2 M1 ++ wX E q3 X1) k1 n1 [(0, .ref b), (1, .ref (q 11)), (2, .ref (q2 0)), (3, .int (nI i))] [] 1872) : RW p e s m below meth c E b (wM E q2 M ++ wX E q X) k n [(0, .ref b), (1, .ref (q 11)), (2, .ref (q2 0)), (3, .int (nI i))] [] 1041 := by
  refine w_aload C 1 dL_law_1041 rfl rfl ?_
  refine w_arg C (jj := 1) hi (by decide) (by decide) dL_law_1042 dL_law_1043 dL_law_1044 dL_law_1045 dL_law_1046 ?_
  refine w_callV C (I9 := iX_City_barred) (As := [.int (xs (i + 1))]) (T := TX11) (q0 := 95) w5_115 w5_116 w5_117 w1_1 w5_118 (nA := 1) (by decide +kernel) rfl (by decide) rfl rfl (Nat.le_of_ble_eq_true rfl) dL_law_1047 ⟨by omega, by omega⟩ rfl ((st_barred (q := q) (q2 := q2) hO).frame (wM E q2 M)) ?_
  intro v w' h
  obtain ⟨w1, rfl, r, X1, rfl, rfl, hm⟩ := h
  refine w_aload C 2 dL_law_1050 rfl rfl ?_
  refine w_arg C (jj := 1) hi (by decide) (by decide) dL_law_1051 dL_law_1052 dL_law_1053 dL_law_1054 dL_law_1055 ?_
  refine w_callV C (I9 := iM_barred) (As := [.int (xs (i + 1))]) (T := TX12) (q0 := 0) w9_58 w9_59 w9_60 w1_16 w9_61 (nA := 1) (by decide +kernel) rfl (by decide) rfl rfl (Nat.le_of_ble_eq_true rfl) dL_law_1056 ⟨by omega, by omega⟩ rfl ((hm.frame (wX E q X1)).perm List.perm_append_comm) ?_
  intro v w' h
  obtain ⟨w1, rfl, r2, M1, rfl, rfl, hrr, hO1⟩ := h
  subst hrr
  refine w_perm List.perm_append_comm ?_
  refine w_eq C (tgt := 1872) dL_law_1059 (by decide) ?_
  exact K q X1 M1 _ _ hO1 hq rfl (by omega) (by omega)
set_option maxRecDepth 20000 in
theorem lc_18 {p : Program} {e : Env} {s : State} {m : MethodId} {below : List Frame} {meth : Method} {c : Code} {E : EvT} {b L : Nat} {xs : Nat → Int32} {k n : Nat} {q q2 : Nat → Nat} {X : StX} {M : StM} {i mi : Nat} (C : CL E p s m meth c b L xs) (hi : i + 9 ≤ L) (hq : QO E q mi) (hO : OK X M) (hk : k + 7 ≤ 600000 ∧ n + 269 ≤ 7302250) (K : ∀ (q3 : Nat → Nat) (X1 : StX) (M1 : StM) (k1 n1 : Nat), OK X1 M1 → QO E q3 mi → q3 11 = q 11 → k1 ≤ k + 7 → n1 ≤ n + 269 → RW p e s m below meth c E b (wM E q2 M1 ++ wX E q3 X1) k1 n1 [(0, .ref b), (1, .ref (q 11)), (2, .ref (q2 0)), (3, .int (nI i))] [] 1872) : RW p e s m below meth c E b (wM E q2 M ++ wX E q X) k n [(0, .ref b), (1, .ref (q 11)), (2, .ref (q2 0)), (3, .int (nI i))] [] 1064 := by
  refine w_aload C 1 dL_law_1064 rfl rfl ?_
  refine w_arg C (jj := 1) hi (by decide) (by decide) dL_law_1065 dL_law_1066 dL_law_1067 dL_law_1068 dL_law_1069 ?_
  refine w_arg C (jj := 2) hi (by decide) (by decide) dL_law_1070 dL_law_1071 dL_law_1072 dL_law_1073 dL_law_1074 ?_
  refine w_arg C (jj := 3) hi (by decide) (by decide) dL_law_1075 dL_law_1076 dL_law_1077 dL_law_1078 dL_law_1079 ?_
  refine w_callV C (I9 := iX_City_thing) (As := [.int (xs (i + 1)), .int (xs (i + 2)), .int (xs (i + 3))]) (T := TX11) (q0 := 95) w5_119 w5_120 w5_121 w1_1 w5_122 (nA := 3) (by decide +kernel) rfl (by decide) rfl rfl (Nat.le_of_ble_eq_true rfl) dL_law_1080 ⟨by omega, by omega⟩ rfl ((st_thing (q := q) (q2 := q2) hO).frame (wM E q2 M)) ?_
  intro v w' h
  obtain ⟨w1, rfl, r, X1, rfl, rfl, hm⟩ := h
  refine w_aload C 2 dL_law_1083 rfl rfl ?_
  refine w_arg C (jj := 1) hi (by decide) (by decide) dL_law_1084 dL_law_1085 dL_law_1086 dL_law_1087 dL_law_1088 ?_
  refine w_arg C (jj := 2) hi (by decide) (by decide) dL_law_1089 dL_law_1090 dL_law_1091 dL_law_1092 dL_law_1093 ?_
  refine w_arg C (jj := 3) hi (by decide) (by decide) dL_law_1094 dL_law_1095 dL_law_1096 dL_law_1097 dL_law_1098 ?_
  refine w_callV C (I9 := iM_thing) (As := [.int (xs (i + 1)), .int (xs (i + 2)), .int (xs (i + 3))]) (T := TX12) (q0 := 0) w9_62 w9_63 w9_64 w1_16 w9_65 (nA := 3) (by decide +kernel) rfl (by decide) rfl rfl (Nat.le_of_ble_eq_true rfl) dL_law_1099 ⟨by omega, by omega⟩ rfl ((hm.frame (wX E q X1)).perm List.perm_append_comm) ?_
  intro v w' h
  obtain ⟨w1, rfl, r2, M1, rfl, rfl, hrr, hO1⟩ := h
  subst hrr
  refine w_perm List.perm_append_comm ?_
  refine w_eq C (tgt := 1872) dL_law_1102 (by decide) ?_
  exact K q X1 M1 _ _ hO1 hq rfl (by omega) (by omega)
set_option maxRecDepth 20000 in
theorem lc_19 {p : Program} {e : Env} {s : State} {m : MethodId} {below : List Frame} {meth : Method} {c : Code} {E : EvT} {b L : Nat} {xs : Nat → Int32} {k n : Nat} {q q2 : Nat → Nat} {X : StX} {M : StM} {i mi : Nat} (C : CL E p s m meth c b L xs) (hi : i + 9 ≤ L) (hq : QO E q mi) (hO : OK X M) (hk : k + 7 ≤ 600000 ∧ n + 269 ≤ 7302250) (K : ∀ (q3 : Nat → Nat) (X1 : StX) (M1 : StM) (k1 n1 : Nat), OK X1 M1 → QO E q3 mi → q3 11 = q 11 → k1 ≤ k + 7 → n1 ≤ n + 269 → RW p e s m below meth c E b (wM E q2 M1 ++ wX E q3 X1) k1 n1 [(0, .ref b), (1, .ref (q 11)), (2, .ref (q2 0)), (3, .int (nI i))] [] 1872) : RW p e s m below meth c E b (wM E q2 M ++ wX E q X) k n [(0, .ref b), (1, .ref (q 11)), (2, .ref (q2 0)), (3, .int (nI i))] [] 1107 := by
  refine w_aload C 1 dL_law_1107 rfl rfl ?_
  refine w_arg C (jj := 1) hi (by decide) (by decide) dL_law_1108 dL_law_1109 dL_law_1110 dL_law_1111 dL_law_1112 ?_
  refine w_arg C (jj := 2) hi (by decide) (by decide) dL_law_1113 dL_law_1114 dL_law_1115 dL_law_1116 dL_law_1117 ?_
  refine w_bz C (t1 := 1125) (t2 := 1126) dL_law_1118 dL_law_1121 dL_law_1122 dL_law_1125 (by decide) (by decide) rfl ?_
  refine w_callV C (I9 := iX_City_gone) (As := [.int (xs (i + 1)), .int (if xs (i + 2) = 0 then 0 else 1)]) (T := TX11) (q0 := 95) w5_127 w5_128 w5_129 w1_1 w5_130 (nA := 2) (by decide +kernel) rfl (by decide) rfl rfl (Nat.le_of_ble_eq_true rfl) dL_law_1126 ⟨by omega, by omega⟩ rfl ((st_gone (q := q) (q2 := q2) hO).frame (wM E q2 M)) ?_
  intro v w' h
  obtain ⟨w1, rfl, r, X1, rfl, rfl, hm⟩ := h
  refine w_aload C 2 dL_law_1129 rfl rfl ?_
  refine w_arg C (jj := 1) hi (by decide) (by decide) dL_law_1130 dL_law_1131 dL_law_1132 dL_law_1133 dL_law_1134 ?_
  refine w_arg C (jj := 2) hi (by decide) (by decide) dL_law_1135 dL_law_1136 dL_law_1137 dL_law_1138 dL_law_1139 ?_
  refine w_bz C (t1 := 1147) (t2 := 1148) dL_law_1140 dL_law_1143 dL_law_1144 dL_law_1147 (by decide) (by decide) rfl ?_
  refine w_callV C (I9 := iM_gone) (As := [.int (xs (i + 1)), .int (if xs (i + 2) = 0 then 0 else 1)]) (T := TX12) (q0 := 0) w9_66 w9_67 w9_68 w1_16 w9_69 (nA := 2) (by decide +kernel) rfl (by decide) rfl rfl (Nat.le_of_ble_eq_true rfl) dL_law_1148 ⟨by omega, by omega⟩ rfl ((hm.frame (wX E q X1)).perm List.perm_append_comm) ?_
  intro v w' h
  obtain ⟨w1, rfl, r2, M1, rfl, rfl, hrr, hO1⟩ := h
  subst hrr
  refine w_perm List.perm_append_comm ?_
  refine w_eq C (tgt := 1872) dL_law_1151 (by decide) ?_
  exact K q X1 M1 _ _ hO1 hq rfl (by omega) (by omega)
set_option maxRecDepth 20000 in
theorem lc_20 {p : Program} {e : Env} {s : State} {m : MethodId} {below : List Frame} {meth : Method} {c : Code} {E : EvT} {b L : Nat} {xs : Nat → Int32} {k n : Nat} {q q2 : Nat → Nat} {X : StX} {M : StM} {i mi : Nat} (C : CL E p s m meth c b L xs) (hi : i + 9 ≤ L) (hq : QO E q mi) (hO : OK X M) (hk : k + 7 ≤ 600000 ∧ n + 269 ≤ 7302250) (K : ∀ (q3 : Nat → Nat) (X1 : StX) (M1 : StM) (k1 n1 : Nat), OK X1 M1 → QO E q3 mi → q3 11 = q 11 → k1 ≤ k + 7 → n1 ≤ n + 269 → RW p e s m below meth c E b (wM E q2 M1 ++ wX E q3 X1) k1 n1 [(0, .ref b), (1, .ref (q 11)), (2, .ref (q2 0)), (3, .int (nI i))] [] 1872) : RW p e s m below meth c E b (wM E q2 M ++ wX E q X) k n [(0, .ref b), (1, .ref (q 11)), (2, .ref (q2 0)), (3, .int (nI i))] [] 1156 := by
  refine w_aload C 1 dL_law_1156 rfl rfl ?_
  refine w_arg C (jj := 1) hi (by decide) (by decide) dL_law_1157 dL_law_1158 dL_law_1159 dL_law_1160 dL_law_1161 ?_
  refine w_arg C (jj := 2) hi (by decide) (by decide) dL_law_1162 dL_law_1163 dL_law_1164 dL_law_1165 dL_law_1166 ?_
  refine w_callV C (I9 := iX_City_like) (As := [.int (xs (i + 1)), .int (xs (i + 2))]) (T := TX11) (q0 := 95) w5_131 w5_132 w5_133 w1_1 w5_134 (nA := 2) (by decide +kernel) rfl (by decide) rfl rfl (Nat.le_of_ble_eq_true rfl) dL_law_1167 ⟨by omega, by omega⟩ rfl ((st_like (q := q) (q2 := q2) hO).frame (wM E q2 M)) ?_
  intro v w' h
  obtain ⟨w1, rfl, r, X1, rfl, rfl, hm⟩ := h
  refine w_aload C 2 dL_law_1170 rfl rfl ?_
  refine w_arg C (jj := 1) hi (by decide) (by decide) dL_law_1171 dL_law_1172 dL_law_1173 dL_law_1174 dL_law_1175 ?_
  refine w_arg C (jj := 2) hi (by decide) (by decide) dL_law_1176 dL_law_1177 dL_law_1178 dL_law_1179 dL_law_1180 ?_
  refine w_callV C (I9 := iM_like) (As := [.int (xs (i + 1)), .int (xs (i + 2))]) (T := TX12) (q0 := 0) w9_74 w9_75 w9_76 w1_16 w9_77 (nA := 2) (by decide +kernel) rfl (by decide) rfl rfl (Nat.le_of_ble_eq_true rfl) dL_law_1181 ⟨by omega, by omega⟩ rfl ((hm.frame (wX E q X1)).perm List.perm_append_comm) ?_
  intro v w' h
  obtain ⟨w1, rfl, r2, M1, rfl, rfl, hrr, hO1⟩ := h
  subst hrr
  refine w_perm List.perm_append_comm ?_
  refine w_eq C (tgt := 1872) dL_law_1184 (by decide) ?_
  exact K q X1 M1 _ _ hO1 hq rfl (by omega) (by omega)
set_option maxRecDepth 20000 in
theorem lc_21 {p : Program} {e : Env} {s : State} {m : MethodId} {below : List Frame} {meth : Method} {c : Code} {E : EvT} {b L : Nat} {xs : Nat → Int32} {k n : Nat} {q q2 : Nat → Nat} {X : StX} {M : StM} {i mi : Nat} (C : CL E p s m meth c b L xs) (hi : i + 9 ≤ L) (hq : QO E q mi) (hO : OK X M) (hk : k + 7 ≤ 600000 ∧ n + 269 ≤ 7302250) (K : ∀ (q3 : Nat → Nat) (X1 : StX) (M1 : StM) (k1 n1 : Nat), OK X1 M1 → QO E q3 mi → q3 11 = q 11 → k1 ≤ k + 7 → n1 ≤ n + 269 → RW p e s m below meth c E b (wM E q2 M1 ++ wX E q3 X1) k1 n1 [(0, .ref b), (1, .ref (q 11)), (2, .ref (q2 0)), (3, .int (nI i))] [] 1872) : RW p e s m below meth c E b (wM E q2 M ++ wX E q X) k n [(0, .ref b), (1, .ref (q 11)), (2, .ref (q2 0)), (3, .int (nI i))] [] 1189 := by
  refine w_aload C 1 dL_law_1189 rfl rfl ?_
  refine w_arg C (jj := 1) hi (by decide) (by decide) dL_law_1190 dL_law_1191 dL_law_1192 dL_law_1193 dL_law_1194 ?_
  refine w_callV C (I9 := iX_City_join) (As := [.int (xs (i + 1))]) (T := TX11) (q0 := 95) w5_153 w5_154 w5_155 w1_1 w5_156 (nA := 1) (by decide +kernel) rfl (by decide) rfl rfl (Nat.le_of_ble_eq_true rfl) dL_law_1195 ⟨by omega, by omega⟩ rfl ((st_join (q2 := q2) hq.1 hO).frame (wM E q2 M)) ?_
  intro v w' h
  obtain ⟨w1, rfl, r, X1, rfl, rfl, hm⟩ := h
  refine w_aload C 2 dL_law_1198 rfl rfl ?_
  refine w_arg C (jj := 1) hi (by decide) (by decide) dL_law_1199 dL_law_1200 dL_law_1201 dL_law_1202 dL_law_1203 ?_
  refine w_callV C (I9 := iM_join) (As := [.int (xs (i + 1))]) (T := TX12) (q0 := 0) w9_90 w9_91 w9_92 w1_16 w9_93 (nA := 1) (by decide +kernel) rfl (by decide) rfl rfl (Nat.le_of_ble_eq_true rfl) dL_law_1204 ⟨by omega, by omega⟩ rfl ((hm.frame (wX E q X1)).perm List.perm_append_comm) ?_
  intro v w' h
  obtain ⟨w1, rfl, r2, M1, rfl, rfl, hrr, hO1⟩ := h
  subst hrr
  refine w_perm List.perm_append_comm ?_
  refine w_eq C (tgt := 1872) dL_law_1207 (by decide) ?_
  exact K q X1 M1 _ _ hO1 hq rfl (by omega) (by omega)
set_option maxRecDepth 20000 in
theorem lc_22 {p : Program} {e : Env} {s : State} {m : MethodId} {below : List Frame} {meth : Method} {c : Code} {E : EvT} {b L : Nat} {xs : Nat → Int32} {k n : Nat} {q q2 : Nat → Nat} {X : StX} {M : StM} {i mi : Nat} (C : CL E p s m meth c b L xs) (hi : i + 9 ≤ L) (hq : QO E q mi) (hO : OK X M) (hk : k + 7 ≤ 600000 ∧ n + 269 ≤ 7302250) (K : ∀ (q3 : Nat → Nat) (X1 : StX) (M1 : StM) (k1 n1 : Nat), OK X1 M1 → QO E q3 mi → q3 11 = q 11 → k1 ≤ k + 7 → n1 ≤ n + 269 → RW p e s m below meth c E b (wM E q2 M1 ++ wX E q3 X1) k1 n1 [(0, .ref b), (1, .ref (q 11)), (2, .ref (q2 0)), (3, .int (nI i))] [] 1872) : RW p e s m below meth c E b (wM E q2 M ++ wX E q X) k n [(0, .ref b), (1, .ref (q 11)), (2, .ref (q2 0)), (3, .int (nI i))] [] 1212 := by
  refine w_aload C 1 dL_law_1212 rfl rfl ?_
  refine w_arg C (jj := 1) hi (by decide) (by decide) dL_law_1213 dL_law_1214 dL_law_1215 dL_law_1216 dL_law_1217 ?_
  refine w_callV C (I9 := iX_City_joined) (As := [.int (xs (i + 1))]) (T := TX11) (q0 := 95) w5_194 w5_195 w5_196 w1_1 w5_197 (nA := 1) (by decide +kernel) rfl (by decide) rfl rfl (Nat.le_of_ble_eq_true rfl) dL_law_1218 ⟨by omega, by omega⟩ rfl ((st_joined (q := q) (q2 := q2) hO).frame (wM E q2 M)) ?_
  intro v w' h
  obtain ⟨w1, rfl, r, X1, rfl, rfl, hm⟩ := h
  refine w_aload C 2 dL_law_1221 rfl rfl ?_
  refine w_arg C (jj := 1) hi (by decide) (by decide) dL_law_1222 dL_law_1223 dL_law_1224 dL_law_1225 dL_law_1226 ?_
  refine w_callV C (I9 := iM_joined) (As := [.int (xs (i + 1))]) (T := TX12) (q0 := 0) w9_102 w9_103 w9_104 w1_16 w9_105 (nA := 1) (by decide +kernel) rfl (by decide) rfl rfl (Nat.le_of_ble_eq_true rfl) dL_law_1227 ⟨by omega, by omega⟩ rfl ((hm.frame (wX E q X1)).perm List.perm_append_comm) ?_
  intro v w' h
  obtain ⟨w1, rfl, r2, M1, rfl, rfl, hrr, hO1⟩ := h
  subst hrr
  refine w_perm List.perm_append_comm ?_
  refine w_eq C (tgt := 1872) dL_law_1230 (by decide) ?_
  exact K q X1 M1 _ _ hO1 hq rfl (by omega) (by omega)
set_option maxRecDepth 20000 in
theorem lc_23 {p : Program} {e : Env} {s : State} {m : MethodId} {below : List Frame} {meth : Method} {c : Code} {E : EvT} {b L : Nat} {xs : Nat → Int32} {k n : Nat} {q q2 : Nat → Nat} {X : StX} {M : StM} {i mi : Nat} (C : CL E p s m meth c b L xs) (hi : i + 9 ≤ L) (hq : QO E q mi) (hO : OK X M) (hk : k + 7 ≤ 600000 ∧ n + 269 ≤ 7302250) (K : ∀ (q3 : Nat → Nat) (X1 : StX) (M1 : StM) (k1 n1 : Nat), OK X1 M1 → QO E q3 mi → q3 11 = q 11 → k1 ≤ k + 7 → n1 ≤ n + 269 → RW p e s m below meth c E b (wM E q2 M1 ++ wX E q3 X1) k1 n1 [(0, .ref b), (1, .ref (q 11)), (2, .ref (q2 0)), (3, .int (nI i))] [] 1872) : RW p e s m below meth c E b (wM E q2 M ++ wX E q X) k n [(0, .ref b), (1, .ref (q 11)), (2, .ref (q2 0)), (3, .int (nI i))] [] 1235 := by
  refine w_aload C 1 dL_law_1235 rfl rfl ?_
  refine w_arg C (jj := 1) hi (by decide) (by decide) dL_law_1236 dL_law_1237 dL_law_1238 dL_law_1239 dL_law_1240 ?_
  refine w_arg C (jj := 2) hi (by decide) (by decide) dL_law_1241 dL_law_1242 dL_law_1243 dL_law_1244 dL_law_1245 ?_
  refine w_callV C (I9 := iX_City_lost) (As := [.int (xs (i + 1)), .int (xs (i + 2))]) (T := TX11) (q0 := 95) w5_198 w5_199 w5_200 w1_1 w5_201 (nA := 2) (by decide +kernel) rfl (by decide) rfl rfl (Nat.le_of_ble_eq_true rfl) dL_law_1246 ⟨by omega, by omega⟩ rfl ((st_lost (q := q) (q2 := q2) hO).frame (wM E q2 M)) ?_
  intro v w' h
  obtain ⟨w1, rfl, r, X1, rfl, rfl, hm⟩ := h
  refine w_aload C 2 dL_law_1249 rfl rfl ?_
  refine w_arg C (jj := 1) hi (by decide) (by decide) dL_law_1250 dL_law_1251 dL_law_1252 dL_law_1253 dL_law_1254 ?_
  refine w_arg C (jj := 2) hi (by decide) (by decide) dL_law_1255 dL_law_1256 dL_law_1257 dL_law_1258 dL_law_1259 ?_
  refine w_callV C (I9 := iM_lost) (As := [.int (xs (i + 1)), .int (xs (i + 2))]) (T := TX12) (q0 := 0) w9_106 w9_107 w9_108 w1_16 w9_109 (nA := 2) (by decide +kernel) rfl (by decide) rfl rfl (Nat.le_of_ble_eq_true rfl) dL_law_1260 ⟨by omega, by omega⟩ rfl ((hm.frame (wX E q X1)).perm List.perm_append_comm) ?_
  intro v w' h
  obtain ⟨w1, rfl, r2, M1, rfl, rfl, hrr, hO1⟩ := h
  subst hrr
  refine w_perm List.perm_append_comm ?_
  refine w_eq C (tgt := 1872) dL_law_1263 (by decide) ?_
  exact K q X1 M1 _ _ hO1 hq rfl (by omega) (by omega)
set_option maxRecDepth 20000 in
theorem lc_24 {p : Program} {e : Env} {s : State} {m : MethodId} {below : List Frame} {meth : Method} {c : Code} {E : EvT} {b L : Nat} {xs : Nat → Int32} {k n : Nat} {q q2 : Nat → Nat} {X : StX} {M : StM} {i mi : Nat} (C : CL E p s m meth c b L xs) (hi : i + 9 ≤ L) (hq : QO E q mi) (hO : OK X M) (hk : k + 7 ≤ 600000 ∧ n + 269 ≤ 7302250) (K : ∀ (q3 : Nat → Nat) (X1 : StX) (M1 : StM) (k1 n1 : Nat), OK X1 M1 → QO E q3 mi → q3 11 = q 11 → k1 ≤ k + 7 → n1 ≤ n + 269 → RW p e s m below meth c E b (wM E q2 M1 ++ wX E q3 X1) k1 n1 [(0, .ref b), (1, .ref (q 11)), (2, .ref (q2 0)), (3, .int (nI i))] [] 1872) : RW p e s m below meth c E b (wM E q2 M ++ wX E q X) k n [(0, .ref b), (1, .ref (q 11)), (2, .ref (q2 0)), (3, .int (nI i))] [] 1268 := by
  refine w_aload C 1 dL_law_1268 rfl rfl ?_
  refine w_arg C (jj := 1) hi (by decide) (by decide) dL_law_1269 dL_law_1270 dL_law_1271 dL_law_1272 dL_law_1273 ?_
  refine w_arg C (jj := 2) hi (by decide) (by decide) dL_law_1274 dL_law_1275 dL_law_1276 dL_law_1277 dL_law_1278 ?_
  refine w_callV C (I9 := iX_City_wall) (As := [.int (xs (i + 1)), .int (xs (i + 2))]) (T := TX11) (q0 := 95) w5_219 w5_220 w5_221 w1_1 w5_222 (nA := 2) (by decide +kernel) rfl (by decide) rfl rfl (Nat.le_of_ble_eq_true rfl) dL_law_1279 ⟨by omega, by omega⟩ rfl ((st_wall (q := q) (q2 := q2) hO).frame (wM E q2 M)) ?_
  intro v w' h
  obtain ⟨w1, rfl, r, X1, rfl, rfl, hm⟩ := h
  refine w_aload C 2 dL_law_1282 rfl rfl ?_
  refine w_arg C (jj := 1) hi (by decide) (by decide) dL_law_1283 dL_law_1284 dL_law_1285 dL_law_1286 dL_law_1287 ?_
  refine w_arg C (jj := 2) hi (by decide) (by decide) dL_law_1288 dL_law_1289 dL_law_1290 dL_law_1291 dL_law_1292 ?_
  refine w_callV C (I9 := iM_wall) (As := [.int (xs (i + 1)), .int (xs (i + 2))]) (T := TX12) (q0 := 0) w9_118 w9_119 w9_120 w1_16 w9_121 (nA := 2) (by decide +kernel) rfl (by decide) rfl rfl (Nat.le_of_ble_eq_true rfl) dL_law_1293 ⟨by omega, by omega⟩ rfl ((hm.frame (wX E q X1)).perm List.perm_append_comm) ?_
  intro v w' h
  obtain ⟨w1, rfl, r2, M1, rfl, rfl, hrr, hO1⟩ := h
  subst hrr
  refine w_perm List.perm_append_comm ?_
  refine w_eq C (tgt := 1872) dL_law_1296 (by decide) ?_
  exact K q X1 M1 _ _ hO1 hq rfl (by omega) (by omega)
set_option maxRecDepth 20000 in
theorem lc_25 {p : Program} {e : Env} {s : State} {m : MethodId} {below : List Frame} {meth : Method} {c : Code} {E : EvT} {b L : Nat} {xs : Nat → Int32} {k n : Nat} {q q2 : Nat → Nat} {X : StX} {M : StM} {i mi : Nat} (C : CL E p s m meth c b L xs) (hi : i + 9 ≤ L) (hq : QO E q mi) (hO : OK X M) (hk : k + 7 ≤ 600000 ∧ n + 269 ≤ 7302250) (K : ∀ (q3 : Nat → Nat) (X1 : StX) (M1 : StM) (k1 n1 : Nat), OK X1 M1 → QO E q3 mi → q3 11 = q 11 → k1 ≤ k + 7 → n1 ≤ n + 269 → RW p e s m below meth c E b (wM E q2 M1 ++ wX E q3 X1) k1 n1 [(0, .ref b), (1, .ref (q 11)), (2, .ref (q2 0)), (3, .int (nI i))] [] 1872) : RW p e s m below meth c E b (wM E q2 M ++ wX E q X) k n [(0, .ref b), (1, .ref (q 11)), (2, .ref (q2 0)), (3, .int (nI i))] [] 1301 := by
  refine w_aload C 1 dL_law_1301 rfl rfl ?_
  refine w_arg C (jj := 1) hi (by decide) (by decide) dL_law_1302 dL_law_1303 dL_law_1304 dL_law_1305 dL_law_1306 ?_
  refine w_arg C (jj := 2) hi (by decide) (by decide) dL_law_1307 dL_law_1308 dL_law_1309 dL_law_1310 dL_law_1311 ?_
  refine w_arg C (jj := 3) hi (by decide) (by decide) dL_law_1312 dL_law_1313 dL_law_1314 dL_law_1315 dL_law_1316 ?_
  refine w_callV C (I9 := iX_City_draw) (As := [.int (xs (i + 1)), .int (xs (i + 2)), .int (xs (i + 3))]) (T := TX11) (q0 := 95) w5_227 w5_228 w5_229 w1_1 w5_230 (nA := 3) (by decide +kernel) rfl (by decide) rfl rfl (Nat.le_of_ble_eq_true rfl) dL_law_1317 ⟨by omega, by omega⟩ rfl ((st_draw (q := q) (q2 := q2) hO).frame (wM E q2 M)) ?_
  intro v w' h
  obtain ⟨w1, rfl, r, X1, rfl, rfl, hm⟩ := h
  refine w_aload C 2 dL_law_1320 rfl rfl ?_
  refine w_arg C (jj := 1) hi (by decide) (by decide) dL_law_1321 dL_law_1322 dL_law_1323 dL_law_1324 dL_law_1325 ?_
  refine w_arg C (jj := 2) hi (by decide) (by decide) dL_law_1326 dL_law_1327 dL_law_1328 dL_law_1329 dL_law_1330 ?_
  refine w_arg C (jj := 3) hi (by decide) (by decide) dL_law_1331 dL_law_1332 dL_law_1333 dL_law_1334 dL_law_1335 ?_
  refine w_callV C (I9 := iM_draw) (As := [.int (xs (i + 1)), .int (xs (i + 2)), .int (xs (i + 3))]) (T := TX12) (q0 := 0) w9_122 w9_123 w9_124 w1_16 w9_125 (nA := 3) (by decide +kernel) rfl (by decide) rfl rfl (Nat.le_of_ble_eq_true rfl) dL_law_1336 ⟨by omega, by omega⟩ rfl ((hm.frame (wX E q X1)).perm List.perm_append_comm) ?_
  intro v w' h
  obtain ⟨w1, rfl, r2, M1, rfl, rfl, hrr, hO1⟩ := h
  subst hrr
  refine w_perm List.perm_append_comm ?_
  refine w_eq C (tgt := 1872) dL_law_1339 (by decide) ?_
  exact K q X1 M1 _ _ hO1 hq rfl (by omega) (by omega)
set_option maxRecDepth 20000 in
theorem lc_26 {p : Program} {e : Env} {s : State} {m : MethodId} {below : List Frame} {meth : Method} {c : Code} {E : EvT} {b L : Nat} {xs : Nat → Int32} {k n : Nat} {q q2 : Nat → Nat} {X : StX} {M : StM} {i mi : Nat} (C : CL E p s m meth c b L xs) (hi : i + 9 ≤ L) (hq : QO E q mi) (hO : OK X M) (hk : k + 7 ≤ 600000 ∧ n + 269 ≤ 7302250) (K : ∀ (q3 : Nat → Nat) (X1 : StX) (M1 : StM) (k1 n1 : Nat), OK X1 M1 → QO E q3 mi → q3 11 = q 11 → k1 ≤ k + 7 → n1 ≤ n + 269 → RW p e s m below meth c E b (wM E q2 M1 ++ wX E q3 X1) k1 n1 [(0, .ref b), (1, .ref (q 11)), (2, .ref (q2 0)), (3, .int (nI i))] [] 1872) : RW p e s m below meth c E b (wM E q2 M ++ wX E q X) k n [(0, .ref b), (1, .ref (q 11)), (2, .ref (q2 0)), (3, .int (nI i))] [] 1344 := by
  refine w_aload C 1 dL_law_1344 rfl rfl ?_
  refine w_arg C (jj := 1) hi (by decide) (by decide) dL_law_1345 dL_law_1346 dL_law_1347 dL_law_1348 dL_law_1349 ?_
  refine w_arg C (jj := 2) hi (by decide) (by decide) dL_law_1350 dL_law_1351 dL_law_1352 dL_law_1353 dL_law_1354 ?_
  refine w_callV C (I9 := iX_City_copy) (As := [.int (xs (i + 1)), .int (xs (i + 2))]) (T := TX11) (q0 := 95) w6_3 w6_4 w6_5 w1_1 w6_6 (nA := 2) (by decide +kernel) rfl (by decide) rfl rfl (Nat.le_of_ble_eq_true rfl) dL_law_1355 ⟨by omega, by omega⟩ rfl ((st_copy (q := q) (q2 := q2) hO).frame (wM E q2 M)) ?_
  intro v w' h
  obtain ⟨w1, rfl, r, X1, rfl, rfl, hm⟩ := h
  refine w_aload C 2 dL_law_1358 rfl rfl ?_
  refine w_arg C (jj := 1) hi (by decide) (by decide) dL_law_1359 dL_law_1360 dL_law_1361 dL_law_1362 dL_law_1363 ?_
  refine w_arg C (jj := 2) hi (by decide) (by decide) dL_law_1364 dL_law_1365 dL_law_1366 dL_law_1367 dL_law_1368 ?_
  refine w_callV C (I9 := iM_copy) (As := [.int (xs (i + 1)), .int (xs (i + 2))]) (T := TX12) (q0 := 0) w9_134 w9_135 w9_136 w1_16 w9_137 (nA := 2) (by decide +kernel) rfl (by decide) rfl rfl (Nat.le_of_ble_eq_true rfl) dL_law_1369 ⟨by omega, by omega⟩ rfl ((hm.frame (wX E q X1)).perm List.perm_append_comm) ?_
  intro v w' h
  obtain ⟨w1, rfl, r2, M1, rfl, rfl, hrr, hO1⟩ := h
  subst hrr
  refine w_perm List.perm_append_comm ?_
  refine w_eq C (tgt := 1872) dL_law_1372 (by decide) ?_
  exact K q X1 M1 _ _ hO1 hq rfl (by omega) (by omega)
set_option maxRecDepth 20000 in
theorem lc_27 {p : Program} {e : Env} {s : State} {m : MethodId} {below : List Frame} {meth : Method} {c : Code} {E : EvT} {b L : Nat} {xs : Nat → Int32} {k n : Nat} {q q2 : Nat → Nat} {X : StX} {M : StM} {i mi : Nat} (C : CL E p s m meth c b L xs) (hi : i + 9 ≤ L) (hq : QO E q mi) (hO : OK X M) (hk : k + 7 ≤ 600000 ∧ n + 269 ≤ 7302250) (K : ∀ (q3 : Nat → Nat) (X1 : StX) (M1 : StM) (k1 n1 : Nat), OK X1 M1 → QO E q3 mi → q3 11 = q 11 → k1 ≤ k + 7 → n1 ≤ n + 269 → RW p e s m below meth c E b (wM E q2 M1 ++ wX E q3 X1) k1 n1 [(0, .ref b), (1, .ref (q 11)), (2, .ref (q2 0)), (3, .int (nI i))] [] 1872) : RW p e s m below meth c E b (wM E q2 M ++ wX E q X) k n [(0, .ref b), (1, .ref (q 11)), (2, .ref (q2 0)), (3, .int (nI i))] [] 1377 := by
  refine w_aload C 1 dL_law_1377 rfl rfl ?_
  refine w_arg C (jj := 1) hi (by decide) (by decide) dL_law_1378 dL_law_1379 dL_law_1380 dL_law_1381 dL_law_1382 ?_
  refine w_arg C (jj := 2) hi (by decide) (by decide) dL_law_1383 dL_law_1384 dL_law_1385 dL_law_1386 dL_law_1387 ?_
  refine w_arg C (jj := 3) hi (by decide) (by decide) dL_law_1388 dL_law_1389 dL_law_1390 dL_law_1391 dL_law_1392 ?_
  refine w_arg C (jj := 4) hi (by decide) (by decide) dL_law_1393 dL_law_1394 dL_law_1395 dL_law_1396 dL_law_1397 ?_
  refine w_callV C (I9 := iX_City_stood) (As := [.int (xs (i + 1)), .int (xs (i + 2)), .int (xs (i + 3)), .int (xs (i + 4))]) (T := TX11) (q0 := 95) w6_8 w6_9 w6_10 w1_1 w6_11 (nA := 4) (by decide +kernel) rfl (by decide) rfl rfl (Nat.le_of_ble_eq_true rfl) dL_law_1398 ⟨by omega, by omega⟩ rfl ((st_stood (q := q) (q2 := q2) hO).frame (wM E q2 M)) ?_
  intro v w' h
  obtain ⟨w1, rfl, r, X1, rfl, rfl, hm⟩ := h
  refine w_aload C 2 dL_law_1401 rfl rfl ?_
  refine w_arg C (jj := 1) hi (by decide) (by decide) dL_law_1402 dL_law_1403 dL_law_1404 dL_law_1405 dL_law_1406 ?_
  refine w_arg C (jj := 2) hi (by decide) (by decide) dL_law_1407 dL_law_1408 dL_law_1409 dL_law_1410 dL_law_1411 ?_
  refine w_arg C (jj := 3) hi (by decide) (by decide) dL_law_1412 dL_law_1413 dL_law_1414 dL_law_1415 dL_law_1416 ?_
  refine w_arg C (jj := 4) hi (by decide) (by decide) dL_law_1417 dL_law_1418 dL_law_1419 dL_law_1420 dL_law_1421 ?_
  refine w_callV C (I9 := iM_stood) (As := [.int (xs (i + 1)), .int (xs (i + 2)), .int (xs (i + 3)), .int (xs (i + 4))]) (T := TX12) (q0 := 0) w9_138 w9_139 w9_140 w1_16 w9_141 (nA := 4) (by decide +kernel) rfl (by decide) rfl rfl (Nat.le_of_ble_eq_true rfl) dL_law_1422 ⟨by omega, by omega⟩ rfl ((hm.frame (wX E q X1)).perm List.perm_append_comm) ?_
  intro v w' h
  obtain ⟨w1, rfl, r2, M1, rfl, rfl, hrr, hO1⟩ := h
  subst hrr
  refine w_perm List.perm_append_comm ?_
  refine w_eq C (tgt := 1872) dL_law_1425 (by decide) ?_
  exact K q X1 M1 _ _ hO1 hq rfl (by omega) (by omega)
set_option maxRecDepth 20000 in
theorem lc_28 {p : Program} {e : Env} {s : State} {m : MethodId} {below : List Frame} {meth : Method} {c : Code} {E : EvT} {b L : Nat} {xs : Nat → Int32} {k n : Nat} {q q2 : Nat → Nat} {X : StX} {M : StM} {i mi : Nat} (C : CL E p s m meth c b L xs) (hi : i + 9 ≤ L) (hq : QO E q mi) (hO : OK X M) (hk : k + 7 ≤ 600000 ∧ n + 269 ≤ 7302250) (K : ∀ (q3 : Nat → Nat) (X1 : StX) (M1 : StM) (k1 n1 : Nat), OK X1 M1 → QO E q3 mi → q3 11 = q 11 → k1 ≤ k + 7 → n1 ≤ n + 269 → RW p e s m below meth c E b (wM E q2 M1 ++ wX E q3 X1) k1 n1 [(0, .ref b), (1, .ref (q 11)), (2, .ref (q2 0)), (3, .int (nI i))] [] 1872) : RW p e s m below meth c E b (wM E q2 M ++ wX E q X) k n [(0, .ref b), (1, .ref (q 11)), (2, .ref (q2 0)), (3, .int (nI i))] [] 1430 := by
  refine w_aload C 1 dL_law_1430 rfl rfl ?_
  refine w_arg C (jj := 1) hi (by decide) (by decide) dL_law_1431 dL_law_1432 dL_law_1433 dL_law_1434 dL_law_1435 ?_
  refine w_arg C (jj := 2) hi (by decide) (by decide) dL_law_1436 dL_law_1437 dL_law_1438 dL_law_1439 dL_law_1440 ?_
  refine w_arg C (jj := 3) hi (by decide) (by decide) dL_law_1441 dL_law_1442 dL_law_1443 dL_law_1444 dL_law_1445 ?_
  refine w_callV C (I9 := iX_City_ash) (As := [.int (xs (i + 1)), .int (xs (i + 2)), .int (xs (i + 3))]) (T := TX11) (q0 := 95) w6_20 w6_21 w6_22 w1_1 w6_23 (nA := 3) (by decide +kernel) rfl (by decide) rfl rfl (Nat.le_of_ble_eq_true rfl) dL_law_1446 ⟨by omega, by omega⟩ rfl ((st_ash (q := q) (q2 := q2) hO).frame (wM E q2 M)) ?_
  intro v w' h
  obtain ⟨w1, rfl, r, X1, rfl, rfl, hm⟩ := h
  refine w_aload C 2 dL_law_1449 rfl rfl ?_
  refine w_arg C (jj := 1) hi (by decide) (by decide) dL_law_1450 dL_law_1451 dL_law_1452 dL_law_1453 dL_law_1454 ?_
  refine w_arg C (jj := 2) hi (by decide) (by decide) dL_law_1455 dL_law_1456 dL_law_1457 dL_law_1458 dL_law_1459 ?_
  refine w_arg C (jj := 3) hi (by decide) (by decide) dL_law_1460 dL_law_1461 dL_law_1462 dL_law_1463 dL_law_1464 ?_
  refine w_callV C (I9 := iM_ash) (As := [.int (xs (i + 1)), .int (xs (i + 2)), .int (xs (i + 3))]) (T := TX12) (q0 := 0) w9_150 w9_151 w9_152 w1_16 w9_153 (nA := 3) (by decide +kernel) rfl (by decide) rfl rfl (Nat.le_of_ble_eq_true rfl) dL_law_1465 ⟨by omega, by omega⟩ rfl ((hm.frame (wX E q X1)).perm List.perm_append_comm) ?_
  intro v w' h
  obtain ⟨w1, rfl, r2, M1, rfl, rfl, hrr, hO1⟩ := h
  subst hrr
  refine w_perm List.perm_append_comm ?_
  refine w_eq C (tgt := 1872) dL_law_1468 (by decide) ?_
  exact K q X1 M1 _ _ hO1 hq rfl (by omega) (by omega)
set_option maxRecDepth 20000 in
theorem lc_29 {p : Program} {e : Env} {s : State} {m : MethodId} {below : List Frame} {meth : Method} {c : Code} {E : EvT} {b L : Nat} {xs : Nat → Int32} {k n : Nat} {q q2 : Nat → Nat} {X : StX} {M : StM} {i mi : Nat} (C : CL E p s m meth c b L xs) (hi : i + 9 ≤ L) (hq : QO E q mi) (hO : OK X M) (hk : k + 7 ≤ 600000 ∧ n + 269 ≤ 7302250) (K : ∀ (q3 : Nat → Nat) (X1 : StX) (M1 : StM) (k1 n1 : Nat), OK X1 M1 → QO E q3 mi → q3 11 = q 11 → k1 ≤ k + 7 → n1 ≤ n + 269 → RW p e s m below meth c E b (wM E q2 M1 ++ wX E q3 X1) k1 n1 [(0, .ref b), (1, .ref (q 11)), (2, .ref (q2 0)), (3, .int (nI i))] [] 1872) : RW p e s m below meth c E b (wM E q2 M ++ wX E q X) k n [(0, .ref b), (1, .ref (q 11)), (2, .ref (q2 0)), (3, .int (nI i))] [] 1473 := by
  refine w_aload C 1 dL_law_1473 rfl rfl ?_
  refine w_arg C (jj := 1) hi (by decide) (by decide) dL_law_1474 dL_law_1475 dL_law_1476 dL_law_1477 dL_law_1478 ?_
  refine w_arg C (jj := 2) hi (by decide) (by decide) dL_law_1479 dL_law_1480 dL_law_1481 dL_law_1482 dL_law_1483 ?_
  refine w_callV C (I9 := iX_City_above) (As := [.int (xs (i + 1)), .int (xs (i + 2))]) (T := TX11) (q0 := 95) w6_24 w6_25 w6_26 w1_1 w6_27 (nA := 2) (by decide +kernel) rfl (by decide) rfl rfl (Nat.le_of_ble_eq_true rfl) dL_law_1484 ⟨by omega, by omega⟩ rfl ((st_above (q := q) (q2 := q2) hO).frame (wM E q2 M)) ?_
  intro v w' h
  obtain ⟨w1, rfl, r, X1, rfl, rfl, hm⟩ := h
  refine w_aload C 2 dL_law_1487 rfl rfl ?_
  refine w_arg C (jj := 1) hi (by decide) (by decide) dL_law_1488 dL_law_1489 dL_law_1490 dL_law_1491 dL_law_1492 ?_
  refine w_arg C (jj := 2) hi (by decide) (by decide) dL_law_1493 dL_law_1494 dL_law_1495 dL_law_1496 dL_law_1497 ?_
  refine w_callV C (I9 := iM_above) (As := [.int (xs (i + 1)), .int (xs (i + 2))]) (T := TX12) (q0 := 0) w9_154 w9_155 w9_156 w1_16 w9_157 (nA := 2) (by decide +kernel) rfl (by decide) rfl rfl (Nat.le_of_ble_eq_true rfl) dL_law_1498 ⟨by omega, by omega⟩ rfl ((hm.frame (wX E q X1)).perm List.perm_append_comm) ?_
  intro v w' h
  obtain ⟨w1, rfl, r2, M1, rfl, rfl, hrr, hO1⟩ := h
  subst hrr
  refine w_perm List.perm_append_comm ?_
  refine w_eq C (tgt := 1872) dL_law_1501 (by decide) ?_
  exact K q X1 M1 _ _ hO1 hq rfl (by omega) (by omega)
set_option maxRecDepth 20000 in
theorem lc_30 {p : Program} {e : Env} {s : State} {m : MethodId} {below : List Frame} {meth : Method} {c : Code} {E : EvT} {b L : Nat} {xs : Nat → Int32} {k n : Nat} {q q2 : Nat → Nat} {X : StX} {M : StM} {i mi : Nat} (C : CL E p s m meth c b L xs) (hi : i + 9 ≤ L) (hq : QO E q mi) (hO : OK X M) (hk : k + 7 ≤ 600000 ∧ n + 269 ≤ 7302250) (K : ∀ (q3 : Nat → Nat) (X1 : StX) (M1 : StM) (k1 n1 : Nat), OK X1 M1 → QO E q3 mi → q3 11 = q 11 → k1 ≤ k + 7 → n1 ≤ n + 269 → RW p e s m below meth c E b (wM E q2 M1 ++ wX E q3 X1) k1 n1 [(0, .ref b), (1, .ref (q 11)), (2, .ref (q2 0)), (3, .int (nI i))] [] 1872) : RW p e s m below meth c E b (wM E q2 M ++ wX E q X) k n [(0, .ref b), (1, .ref (q 11)), (2, .ref (q2 0)), (3, .int (nI i))] [] 1506 := by
  refine w_aload C 1 dL_law_1506 rfl rfl ?_
  refine w_arg C (jj := 1) hi (by decide) (by decide) dL_law_1507 dL_law_1508 dL_law_1509 dL_law_1510 dL_law_1511 ?_
  refine w_arg C (jj := 2) hi (by decide) (by decide) dL_law_1512 dL_law_1513 dL_law_1514 dL_law_1515 dL_law_1516 ?_
  refine w_callV C (I9 := iX_City_hour) (As := [.int (xs (i + 1)), .int (xs (i + 2))]) (T := TX11) (q0 := 95) w6_32 w6_33 w6_34 w1_1 w6_35 (nA := 2) (by decide +kernel) rfl (by decide) rfl rfl (Nat.le_of_ble_eq_true rfl) dL_law_1517 ⟨by omega, by omega⟩ rfl ((st_hour (q := q) (q2 := q2) hO).frame (wM E q2 M)) ?_
  intro v w' h
  obtain ⟨w1, rfl, r, X1, rfl, rfl, hm⟩ := h
  refine w_aload C 2 dL_law_1520 rfl rfl ?_
  refine w_arg C (jj := 1) hi (by decide) (by decide) dL_law_1521 dL_law_1522 dL_law_1523 dL_law_1524 dL_law_1525 ?_
  refine w_arg C (jj := 2) hi (by decide) (by decide) dL_law_1526 dL_law_1527 dL_law_1528 dL_law_1529 dL_law_1530 ?_
  refine w_callV C (I9 := iM_hour) (As := [.int (xs (i + 1)), .int (xs (i + 2))]) (T := TX12) (q0 := 0) w9_158 w9_159 w9_160 w1_16 w9_161 (nA := 2) (by decide +kernel) rfl (by decide) rfl rfl (Nat.le_of_ble_eq_true rfl) dL_law_1531 ⟨by omega, by omega⟩ rfl ((hm.frame (wX E q X1)).perm List.perm_append_comm) ?_
  intro v w' h
  obtain ⟨w1, rfl, r2, M1, rfl, rfl, hrr, hO1⟩ := h
  subst hrr
  refine w_perm List.perm_append_comm ?_
  refine w_eq C (tgt := 1872) dL_law_1534 (by decide) ?_
  exact K q X1 M1 _ _ hO1 hq rfl (by omega) (by omega)
set_option maxRecDepth 20000 in
theorem lc_31 {p : Program} {e : Env} {s : State} {m : MethodId} {below : List Frame} {meth : Method} {c : Code} {E : EvT} {b L : Nat} {xs : Nat → Int32} {k n : Nat} {q q2 : Nat → Nat} {X : StX} {M : StM} {i mi : Nat} (C : CL E p s m meth c b L xs) (hi : i + 9 ≤ L) (hq : QO E q mi) (hO : OK X M) (hk : k + 7 ≤ 600000 ∧ n + 269 ≤ 7302250) (K : ∀ (q3 : Nat → Nat) (X1 : StX) (M1 : StM) (k1 n1 : Nat), OK X1 M1 → QO E q3 mi → q3 11 = q 11 → k1 ≤ k + 7 → n1 ≤ n + 269 → RW p e s m below meth c E b (wM E q2 M1 ++ wX E q3 X1) k1 n1 [(0, .ref b), (1, .ref (q 11)), (2, .ref (q2 0)), (3, .int (nI i))] [] 1872) : RW p e s m below meth c E b (wM E q2 M ++ wX E q X) k n [(0, .ref b), (1, .ref (q 11)), (2, .ref (q2 0)), (3, .int (nI i))] [] 1539 := by
  refine w_aload C 1 dL_law_1539 rfl rfl ?_
  refine w_arg C (jj := 1) hi (by decide) (by decide) dL_law_1540 dL_law_1541 dL_law_1542 dL_law_1543 dL_law_1544 ?_
  refine w_arg C (jj := 2) hi (by decide) (by decide) dL_law_1545 dL_law_1546 dL_law_1547 dL_law_1548 dL_law_1549 ?_
  refine w_callV C (I9 := iX_City_height) (As := [.int (xs (i + 1)), .int (xs (i + 2))]) (T := TX11) (q0 := 95) w6_45 w6_46 w6_47 w1_1 w6_48 (nA := 2) (by decide +kernel) rfl (by decide) rfl rfl (Nat.le_of_ble_eq_true rfl) dL_law_1550 ⟨by omega, by omega⟩ rfl ((st_height (q := q) (q2 := q2) hO).frame (wM E q2 M)) ?_
  intro v w' h
  obtain ⟨w1, rfl, r, X1, rfl, rfl, hm⟩ := h
  refine w_aload C 2 dL_law_1553 rfl rfl ?_
  refine w_arg C (jj := 1) hi (by decide) (by decide) dL_law_1554 dL_law_1555 dL_law_1556 dL_law_1557 dL_law_1558 ?_
  refine w_arg C (jj := 2) hi (by decide) (by decide) dL_law_1559 dL_law_1560 dL_law_1561 dL_law_1562 dL_law_1563 ?_
  refine w_callV C (I9 := iM_height) (As := [.int (xs (i + 1)), .int (xs (i + 2))]) (T := TX12) (q0 := 0) w9_166 w9_167 w9_168 w1_16 w9_169 (nA := 2) (by decide +kernel) rfl (by decide) rfl rfl (Nat.le_of_ble_eq_true rfl) dL_law_1564 ⟨by omega, by omega⟩ rfl ((hm.frame (wX E q X1)).perm List.perm_append_comm) ?_
  intro v w' h
  obtain ⟨w1, rfl, r2, M1, rfl, rfl, hrr, hO1⟩ := h
  subst hrr
  refine w_perm List.perm_append_comm ?_
  refine w_eq C (tgt := 1872) dL_law_1567 (by decide) ?_
  exact K q X1 M1 _ _ hO1 hq rfl (by omega) (by omega)
set_option maxRecDepth 20000 in
theorem lc_32 {p : Program} {e : Env} {s : State} {m : MethodId} {below : List Frame} {meth : Method} {c : Code} {E : EvT} {b L : Nat} {xs : Nat → Int32} {k n : Nat} {q q2 : Nat → Nat} {X : StX} {M : StM} {i mi : Nat} (C : CL E p s m meth c b L xs) (hi : i + 9 ≤ L) (hq : QO E q mi) (hO : OK X M) (hk : k + 7 ≤ 600000 ∧ n + 269 ≤ 7302250) (K : ∀ (q3 : Nat → Nat) (X1 : StX) (M1 : StM) (k1 n1 : Nat), OK X1 M1 → QO E q3 mi → q3 11 = q 11 → k1 ≤ k + 7 → n1 ≤ n + 269 → RW p e s m below meth c E b (wM E q2 M1 ++ wX E q3 X1) k1 n1 [(0, .ref b), (1, .ref (q 11)), (2, .ref (q2 0)), (3, .int (nI i))] [] 1872) : RW p e s m below meth c E b (wM E q2 M ++ wX E q X) k n [(0, .ref b), (1, .ref (q 11)), (2, .ref (q2 0)), (3, .int (nI i))] [] 1572 := by
  refine w_aload C 1 dL_law_1572 rfl rfl ?_
  refine w_arg C (jj := 1) hi (by decide) (by decide) dL_law_1573 dL_law_1574 dL_law_1575 dL_law_1576 dL_law_1577 ?_
  refine w_arg C (jj := 2) hi (by decide) (by decide) dL_law_1578 dL_law_1579 dL_law_1580 dL_law_1581 dL_law_1582 ?_
  refine w_callV C (I9 := iX_City_hollow) (As := [.int (xs (i + 1)), .int (xs (i + 2))]) (T := TX11) (q0 := 95) w6_49 w6_50 w6_51 w1_1 w6_52 (nA := 2) (by decide +kernel) rfl (by decide) rfl rfl (Nat.le_of_ble_eq_true rfl) dL_law_1583 ⟨by omega, by omega⟩ rfl ((st_hollow (q := q) (q2 := q2) hO).frame (wM E q2 M)) ?_
  intro v w' h
  obtain ⟨w1, rfl, r, X1, rfl, rfl, hm⟩ := h
  refine w_aload C 2 dL_law_1586 rfl rfl ?_
  refine w_arg C (jj := 1) hi (by decide) (by decide) dL_law_1587 dL_law_1588 dL_law_1589 dL_law_1590 dL_law_1591 ?_
  refine w_arg C (jj := 2) hi (by decide) (by decide) dL_law_1592 dL_law_1593 dL_law_1594 dL_law_1595 dL_law_1596 ?_
  refine w_callV C (I9 := iM_hollow) (As := [.int (xs (i + 1)), .int (xs (i + 2))]) (T := TX12) (q0 := 0) w9_170 w9_171 w9_172 w1_16 w9_173 (nA := 2) (by decide +kernel) rfl (by decide) rfl rfl (Nat.le_of_ble_eq_true rfl) dL_law_1597 ⟨by omega, by omega⟩ rfl ((hm.frame (wX E q X1)).perm List.perm_append_comm) ?_
  intro v w' h
  obtain ⟨w1, rfl, r2, M1, rfl, rfl, hrr, hO1⟩ := h
  subst hrr
  refine w_perm List.perm_append_comm ?_
  refine w_eq C (tgt := 1872) dL_law_1600 (by decide) ?_
  exact K q X1 M1 _ _ hO1 hq rfl (by omega) (by omega)
set_option maxRecDepth 20000 in
theorem lc_33 {p : Program} {e : Env} {s : State} {m : MethodId} {below : List Frame} {meth : Method} {c : Code} {E : EvT} {b L : Nat} {xs : Nat → Int32} {k n : Nat} {q q2 : Nat → Nat} {X : StX} {M : StM} {i mi : Nat} (C : CL E p s m meth c b L xs) (hi : i + 9 ≤ L) (hq : QO E q mi) (hO : OK X M) (hk : k + 7 ≤ 600000 ∧ n + 269 ≤ 7302250) (K : ∀ (q3 : Nat → Nat) (X1 : StX) (M1 : StM) (k1 n1 : Nat), OK X1 M1 → QO E q3 mi → q3 11 = q 11 → k1 ≤ k + 7 → n1 ≤ n + 269 → RW p e s m below meth c E b (wM E q2 M1 ++ wX E q3 X1) k1 n1 [(0, .ref b), (1, .ref (q 11)), (2, .ref (q2 0)), (3, .int (nI i))] [] 1872) : RW p e s m below meth c E b (wM E q2 M ++ wX E q X) k n [(0, .ref b), (1, .ref (q 11)), (2, .ref (q2 0)), (3, .int (nI i))] [] 1605 := by
  refine w_aload C 1 dL_law_1605 rfl rfl ?_
  refine w_arg C (jj := 1) hi (by decide) (by decide) dL_law_1606 dL_law_1607 dL_law_1608 dL_law_1609 dL_law_1610 ?_
  refine w_callV C (I9 := iX_City_way) (As := [.int (xs (i + 1))]) (T := TX11) (q0 := 95) w6_57 w6_58 w6_59 w1_1 w6_60 (nA := 1) (by decide +kernel) rfl (by decide) rfl rfl (Nat.le_of_ble_eq_true rfl) dL_law_1611 ⟨by omega, by omega⟩ rfl ((st_way (q := q) (q2 := q2) hO).frame (wM E q2 M)) ?_
  intro v w' h
  obtain ⟨w1, rfl, r, X1, rfl, rfl, hm⟩ := h
  refine w_aload C 2 dL_law_1614 rfl rfl ?_
  refine w_arg C (jj := 1) hi (by decide) (by decide) dL_law_1615 dL_law_1616 dL_law_1617 dL_law_1618 dL_law_1619 ?_
  refine w_callV C (I9 := iM_way) (As := [.int (xs (i + 1))]) (T := TX12) (q0 := 0) w9_174 w9_175 w9_176 w1_16 w9_177 (nA := 1) (by decide +kernel) rfl (by decide) rfl rfl (Nat.le_of_ble_eq_true rfl) dL_law_1620 ⟨by omega, by omega⟩ rfl ((hm.frame (wX E q X1)).perm List.perm_append_comm) ?_
  intro v w' h
  obtain ⟨w1, rfl, r2, M1, rfl, rfl, hrr, hO1⟩ := h
  subst hrr
  refine w_perm List.perm_append_comm ?_
  refine w_eq C (tgt := 1872) dL_law_1623 (by decide) ?_
  exact K q X1 M1 _ _ hO1 hq rfl (by omega) (by omega)
set_option maxRecDepth 20000 in
theorem lc_34 {p : Program} {e : Env} {s : State} {m : MethodId} {below : List Frame} {meth : Method} {c : Code} {E : EvT} {b L : Nat} {xs : Nat → Int32} {k n : Nat} {q q2 : Nat → Nat} {X : StX} {M : StM} {i mi : Nat} (C : CL E p s m meth c b L xs) (hi : i + 9 ≤ L) (hq : QO E q mi) (hO : OK X M) (hk : k + 7 ≤ 600000 ∧ n + 269 ≤ 7302250) (K : ∀ (q3 : Nat → Nat) (X1 : StX) (M1 : StM) (k1 n1 : Nat), OK X1 M1 → QO E q3 mi → q3 11 = q 11 → k1 ≤ k + 7 → n1 ≤ n + 269 → RW p e s m below meth c E b (wM E q2 M1 ++ wX E q3 X1) k1 n1 [(0, .ref b), (1, .ref (q 11)), (2, .ref (q2 0)), (3, .int (nI i))] [] 1872) : RW p e s m below meth c E b (wM E q2 M ++ wX E q X) k n [(0, .ref b), (1, .ref (q 11)), (2, .ref (q2 0)), (3, .int (nI i))] [] 1628 := by
  refine w_aload C 1 dL_law_1628 rfl rfl ?_
  refine w_arg C (jj := 1) hi (by decide) (by decide) dL_law_1629 dL_law_1630 dL_law_1631 dL_law_1632 dL_law_1633 ?_
  refine w_arg C (jj := 2) hi (by decide) (by decide) dL_law_1634 dL_law_1635 dL_law_1636 dL_law_1637 dL_law_1638 ?_
  refine w_arg C (jj := 3) hi (by decide) (by decide) dL_law_1639 dL_law_1640 dL_law_1641 dL_law_1642 dL_law_1643 ?_
  refine w_arg C (jj := 4) hi (by decide) (by decide) dL_law_1644 dL_law_1645 dL_law_1646 dL_law_1647 dL_law_1648 ?_
  refine w_callV C (I9 := iX_City_sign) (As := [.int (xs (i + 1)), .int (xs (i + 2)), .int (xs (i + 3)), .int (xs (i + 4))]) (T := TX11) (q0 := 95) w6_80 w6_81 w6_82 w1_1 w6_83 (nA := 4) (by decide +kernel) rfl (by decide) rfl rfl (Nat.le_of_ble_eq_true rfl) dL_law_1649 ⟨by omega, by omega⟩ rfl ((st_sign (q := q) (q2 := q2) hO).frame (wM E q2 M)) ?_
  intro v w' h
  obtain ⟨w1, rfl, r, X1, rfl, rfl, hm⟩ := h
  refine w_aload C 2 dL_law_1652 rfl rfl ?_
  refine w_arg C (jj := 1) hi (by decide) (by decide) dL_law_1653 dL_law_1654 dL_law_1655 dL_law_1656 dL_law_1657 ?_
  refine w_arg C (jj := 2) hi (by decide) (by decide) dL_law_1658 dL_law_1659 dL_law_1660 dL_law_1661 dL_law_1662 ?_
  refine w_arg C (jj := 3) hi (by decide) (by decide) dL_law_1663 dL_law_1664 dL_law_1665 dL_law_1666 dL_law_1667 ?_
  refine w_arg C (jj := 4) hi (by decide) (by decide) dL_law_1668 dL_law_1669 dL_law_1670 dL_law_1671 dL_law_1672 ?_
  refine w_callV C (I9 := iM_sign) (As := [.int (xs (i + 1)), .int (xs (i + 2)), .int (xs (i + 3)), .int (xs (i + 4))]) (T := TX12) (q0 := 0) w9_186 w9_187 w9_188 w1_16 w9_189 (nA := 4) (by decide +kernel) rfl (by decide) rfl rfl (Nat.le_of_ble_eq_true rfl) dL_law_1673 ⟨by omega, by omega⟩ rfl ((hm.frame (wX E q X1)).perm List.perm_append_comm) ?_
  intro v w' h
  obtain ⟨w1, rfl, r2, M1, rfl, rfl, hrr, hO1⟩ := h
  subst hrr
  refine w_perm List.perm_append_comm ?_
  refine w_eq C (tgt := 1872) dL_law_1676 (by decide) ?_
  exact K q X1 M1 _ _ hO1 hq rfl (by omega) (by omega)
set_option maxRecDepth 20000 in
theorem lc_35 {p : Program} {e : Env} {s : State} {m : MethodId} {below : List Frame} {meth : Method} {c : Code} {E : EvT} {b L : Nat} {xs : Nat → Int32} {k n : Nat} {q q2 : Nat → Nat} {X : StX} {M : StM} {i mi : Nat} (C : CL E p s m meth c b L xs) (hi : i + 9 ≤ L) (hq : QO E q mi) (hO : OK X M) (hk : k + 7 ≤ 600000 ∧ n + 269 ≤ 7302250) (K : ∀ (q3 : Nat → Nat) (X1 : StX) (M1 : StM) (k1 n1 : Nat), OK X1 M1 → QO E q3 mi → q3 11 = q 11 → k1 ≤ k + 7 → n1 ≤ n + 269 → RW p e s m below meth c E b (wM E q2 M1 ++ wX E q3 X1) k1 n1 [(0, .ref b), (1, .ref (q 11)), (2, .ref (q2 0)), (3, .int (nI i))] [] 1872) : RW p e s m below meth c E b (wM E q2 M ++ wX E q X) k n [(0, .ref b), (1, .ref (q 11)), (2, .ref (q2 0)), (3, .int (nI i))] [] 1681 := by
  refine w_aload C 1 dL_law_1681 rfl rfl ?_
  refine w_arg C (jj := 1) hi (by decide) (by decide) dL_law_1682 dL_law_1683 dL_law_1684 dL_law_1685 dL_law_1686 ?_
  refine w_arg C (jj := 2) hi (by decide) (by decide) dL_law_1687 dL_law_1688 dL_law_1689 dL_law_1690 dL_law_1691 ?_
  refine w_callV C (I9 := iX_City_who) (As := [.int (xs (i + 1)), .int (xs (i + 2))]) (T := TX11) (q0 := 95) w6_88 w6_89 w6_90 w1_1 w6_91 (nA := 2) (by decide +kernel) rfl (by decide) rfl rfl (Nat.le_of_ble_eq_true rfl) dL_law_1692 ⟨by omega, by omega⟩ rfl ((st_who (q := q) (q2 := q2) hO).frame (wM E q2 M)) ?_
  intro v w' h
  obtain ⟨w1, rfl, r, X1, rfl, rfl, hm⟩ := h
  refine w_aload C 2 dL_law_1695 rfl rfl ?_
  refine w_arg C (jj := 1) hi (by decide) (by decide) dL_law_1696 dL_law_1697 dL_law_1698 dL_law_1699 dL_law_1700 ?_
  refine w_arg C (jj := 2) hi (by decide) (by decide) dL_law_1701 dL_law_1702 dL_law_1703 dL_law_1704 dL_law_1705 ?_
  refine w_callV C (I9 := iM_who) (As := [.int (xs (i + 1)), .int (xs (i + 2))]) (T := TX12) (q0 := 0) w9_190 w9_191 w9_192 w1_16 w9_193 (nA := 2) (by decide +kernel) rfl (by decide) rfl rfl (Nat.le_of_ble_eq_true rfl) dL_law_1706 ⟨by omega, by omega⟩ rfl ((hm.frame (wX E q X1)).perm List.perm_append_comm) ?_
  intro v w' h
  obtain ⟨w1, rfl, r2, M1, rfl, rfl, hrr, hO1⟩ := h
  subst hrr
  refine w_perm List.perm_append_comm ?_
  refine w_eq C (tgt := 1872) dL_law_1709 (by decide) ?_
  exact K q X1 M1 _ _ hO1 hq rfl (by omega) (by omega)
set_option maxRecDepth 20000 in
theorem lc_36 {p : Program} {e : Env} {s : State} {m : MethodId} {below : List Frame} {meth : Method} {c : Code} {E : EvT} {b L : Nat} {xs : Nat → Int32} {k n : Nat} {q q2 : Nat → Nat} {X : StX} {M : StM} {i mi : Nat} (C : CL E p s m meth c b L xs) (hi : i + 9 ≤ L) (hq : QO E q mi) (hO : OK X M) (hk : k + 7 ≤ 600000 ∧ n + 269 ≤ 7302250) (K : ∀ (q3 : Nat → Nat) (X1 : StX) (M1 : StM) (k1 n1 : Nat), OK X1 M1 → QO E q3 mi → q3 11 = q 11 → k1 ≤ k + 7 → n1 ≤ n + 269 → RW p e s m below meth c E b (wM E q2 M1 ++ wX E q3 X1) k1 n1 [(0, .ref b), (1, .ref (q 11)), (2, .ref (q2 0)), (3, .int (nI i))] [] 1872) : RW p e s m below meth c E b (wM E q2 M ++ wX E q X) k n [(0, .ref b), (1, .ref (q 11)), (2, .ref (q2 0)), (3, .int (nI i))] [] 1714 := by
  refine w_aload C 1 dL_law_1714 rfl rfl ?_
  refine w_arg C (jj := 1) hi (by decide) (by decide) dL_law_1715 dL_law_1716 dL_law_1717 dL_law_1718 dL_law_1719 ?_
  refine w_arg C (jj := 2) hi (by decide) (by decide) dL_law_1720 dL_law_1721 dL_law_1722 dL_law_1723 dL_law_1724 ?_
  refine w_arg C (jj := 3) hi (by decide) (by decide) dL_law_1725 dL_law_1726 dL_law_1727 dL_law_1728 dL_law_1729 ?_
  refine w_callV C (I9 := iX_City_work) (As := [.int (xs (i + 1)), .int (xs (i + 2)), .int (xs (i + 3))]) (T := TX11) (q0 := 95) w6_107 w6_108 w6_109 w1_1 w6_110 (nA := 3) (by decide +kernel) rfl (by decide) rfl rfl (Nat.le_of_ble_eq_true rfl) dL_law_1730 ⟨by omega, by omega⟩ rfl ((st_work (q := q) (q2 := q2) hO).frame (wM E q2 M)) ?_
  intro v w' h
  obtain ⟨w1, rfl, r, X1, rfl, rfl, hm⟩ := h
  refine w_aload C 2 dL_law_1733 rfl rfl ?_
  refine w_arg C (jj := 1) hi (by decide) (by decide) dL_law_1734 dL_law_1735 dL_law_1736 dL_law_1737 dL_law_1738 ?_
  refine w_arg C (jj := 2) hi (by decide) (by decide) dL_law_1739 dL_law_1740 dL_law_1741 dL_law_1742 dL_law_1743 ?_
  refine w_arg C (jj := 3) hi (by decide) (by decide) dL_law_1744 dL_law_1745 dL_law_1746 dL_law_1747 dL_law_1748 ?_
  refine w_callV C (I9 := iM_work) (As := [.int (xs (i + 1)), .int (xs (i + 2)), .int (xs (i + 3))]) (T := TX12) (q0 := 0) w9_194 w9_195 w9_196 w1_16 w9_197 (nA := 3) (by decide +kernel) rfl (by decide) rfl rfl (Nat.le_of_ble_eq_true rfl) dL_law_1749 ⟨by omega, by omega⟩ rfl ((hm.frame (wX E q X1)).perm List.perm_append_comm) ?_
  intro v w' h
  obtain ⟨w1, rfl, r2, M1, rfl, rfl, hrr, hO1⟩ := h
  subst hrr
  refine w_perm List.perm_append_comm ?_
  refine w_eq C (tgt := 1872) dL_law_1752 (by decide) ?_
  exact K q X1 M1 _ _ hO1 hq rfl (by omega) (by omega)
set_option maxRecDepth 20000 in
theorem lc_37 {p : Program} {e : Env} {s : State} {m : MethodId} {below : List Frame} {meth : Method} {c : Code} {E : EvT} {b L : Nat} {xs : Nat → Int32} {k n : Nat} {q q2 : Nat → Nat} {X : StX} {M : StM} {i mi : Nat} (C : CL E p s m meth c b L xs) (hi : i + 9 ≤ L) (hq : QO E q mi) (hO : OK X M) (hk : k + 7 ≤ 600000 ∧ n + 269 ≤ 7302250) (K : ∀ (q3 : Nat → Nat) (X1 : StX) (M1 : StM) (k1 n1 : Nat), OK X1 M1 → QO E q3 mi → q3 11 = q 11 → k1 ≤ k + 7 → n1 ≤ n + 269 → RW p e s m below meth c E b (wM E q2 M1 ++ wX E q3 X1) k1 n1 [(0, .ref b), (1, .ref (q 11)), (2, .ref (q2 0)), (3, .int (nI i))] [] 1872) : RW p e s m below meth c E b (wM E q2 M ++ wX E q X) k n [(0, .ref b), (1, .ref (q 11)), (2, .ref (q2 0)), (3, .int (nI i))] [] 1757 := by
  refine w_aload C 1 dL_law_1757 rfl rfl ?_
  refine w_arg C (jj := 1) hi (by decide) (by decide) dL_law_1758 dL_law_1759 dL_law_1760 dL_law_1761 dL_law_1762 ?_
  refine w_callV C (I9 := iX_City_best) (As := [.int (xs (i + 1))]) (T := TX11) (q0 := 95) w6_115 w6_116 w6_117 w1_1 w6_118 (nA := 1) (by decide +kernel) rfl (by decide) rfl rfl (Nat.le_of_ble_eq_true rfl) dL_law_1763 ⟨by omega, by omega⟩ rfl ((st_best (q := q) (q2 := q2) hO).frame (wM E q2 M)) ?_
  intro v w' h
  obtain ⟨w1, rfl, r, X1, rfl, rfl, hm⟩ := h
  refine w_aload C 2 dL_law_1766 rfl rfl ?_
  refine w_arg C (jj := 1) hi (by decide) (by decide) dL_law_1767 dL_law_1768 dL_law_1769 dL_law_1770 dL_law_1771 ?_
  refine w_callV C (I9 := iM_best) (As := [.int (xs (i + 1))]) (T := TX12) (q0 := 0) w9_198 w9_199 w9_200 w1_16 w9_201 (nA := 1) (by decide +kernel) rfl (by decide) rfl rfl (Nat.le_of_ble_eq_true rfl) dL_law_1772 ⟨by omega, by omega⟩ rfl ((hm.frame (wX E q X1)).perm List.perm_append_comm) ?_
  intro v w' h
  obtain ⟨w1, rfl, r2, M1, rfl, rfl, hrr, hO1⟩ := h
  subst hrr
  refine w_perm List.perm_append_comm ?_
  refine w_eq C (tgt := 1872) dL_law_1775 (by decide) ?_
  exact K q X1 M1 _ _ hO1 hq rfl (by omega) (by omega)
set_option maxRecDepth 20000 in
theorem lc_38 {p : Program} {e : Env} {s : State} {m : MethodId} {below : List Frame} {meth : Method} {c : Code} {E : EvT} {b L : Nat} {xs : Nat → Int32} {k n : Nat} {q q2 : Nat → Nat} {X : StX} {M : StM} {i mi : Nat} (C : CL E p s m meth c b L xs) (hi : i + 9 ≤ L) (hq : QO E q mi) (hO : OK X M) (hk : k + 7 ≤ 600000 ∧ n + 269 ≤ 7302250) (K : ∀ (q3 : Nat → Nat) (X1 : StX) (M1 : StM) (k1 n1 : Nat), OK X1 M1 → QO E q3 mi → q3 11 = q 11 → k1 ≤ k + 7 → n1 ≤ n + 269 → RW p e s m below meth c E b (wM E q2 M1 ++ wX E q3 X1) k1 n1 [(0, .ref b), (1, .ref (q 11)), (2, .ref (q2 0)), (3, .int (nI i))] [] 1872) : RW p e s m below meth c E b (wM E q2 M ++ wX E q X) k n [(0, .ref b), (1, .ref (q 11)), (2, .ref (q2 0)), (3, .int (nI i))] [] 1780 := by
  refine w_aload C 1 dL_law_1780 rfl rfl ?_
  refine w_arg C (jj := 1) hi (by decide) (by decide) dL_law_1781 dL_law_1782 dL_law_1783 dL_law_1784 dL_law_1785 ?_
  refine w_callV C (I9 := iX_City_saves) (As := [.int (xs (i + 1))]) (T := TX11) (q0 := 95) w6_134 w6_135 w6_136 w1_1 w6_137 (nA := 1) (by decide +kernel) rfl (by decide) rfl rfl (Nat.le_of_ble_eq_true rfl) dL_law_1786 ⟨by omega, by omega⟩ rfl ((st_saves (q := q) (q2 := q2) hO).frame (wM E q2 M)) ?_
  intro v w' h
  obtain ⟨w1, rfl, r, X1, rfl, rfl, hm⟩ := h
  refine w_aload C 2 dL_law_1789 rfl rfl ?_
  refine w_arg C (jj := 1) hi (by decide) (by decide) dL_law_1790 dL_law_1791 dL_law_1792 dL_law_1793 dL_law_1794 ?_
  refine w_callV C (I9 := iM_saves) (As := [.int (xs (i + 1))]) (T := TX12) (q0 := 0) w9_211 w9_212 w9_213 w1_16 w9_214 (nA := 1) (by decide +kernel) rfl (by decide) rfl rfl (Nat.le_of_ble_eq_true rfl) dL_law_1795 ⟨by omega, by omega⟩ rfl ((hm.frame (wX E q X1)).perm List.perm_append_comm) ?_
  intro v w' h
  obtain ⟨w1, rfl, r2, M1, rfl, rfl, hrr, hO1⟩ := h
  subst hrr
  refine w_perm List.perm_append_comm ?_
  refine w_eq C (tgt := 1872) dL_law_1798 (by decide) ?_
  exact K q X1 M1 _ _ hO1 hq rfl (by omega) (by omega)
set_option maxRecDepth 20000 in
theorem lc_39 {p : Program} {e : Env} {s : State} {m : MethodId} {below : List Frame} {meth : Method} {c : Code} {E : EvT} {b L : Nat} {xs : Nat → Int32} {k n : Nat} {q q2 : Nat → Nat} {X : StX} {M : StM} {i mi : Nat} (C : CL E p s m meth c b L xs) (hi : i + 9 ≤ L) (hq : QO E q mi) (hO : OK X M) (hk : k + 7 ≤ 600000 ∧ n + 269 ≤ 7302250) (K : ∀ (q3 : Nat → Nat) (X1 : StX) (M1 : StM) (k1 n1 : Nat), OK X1 M1 → QO E q3 mi → q3 11 = q 11 → k1 ≤ k + 7 → n1 ≤ n + 269 → RW p e s m below meth c E b (wM E q2 M1 ++ wX E q3 X1) k1 n1 [(0, .ref b), (1, .ref (q 11)), (2, .ref (q2 0)), (3, .int (nI i))] [] 1872) : RW p e s m below meth c E b (wM E q2 M ++ wX E q X) k n [(0, .ref b), (1, .ref (q 11)), (2, .ref (q2 0)), (3, .int (nI i))] [] 1803 := by
  refine w_aload C 1 dL_law_1803 rfl rfl ?_
  refine w_arg C (jj := 1) hi (by decide) (by decide) dL_law_1804 dL_law_1805 dL_law_1806 dL_law_1807 dL_law_1808 ?_
  refine w_callV C (I9 := iX_City_beside) (As := [.int (xs (i + 1))]) (T := TX11) (q0 := 95) w6_139 w6_140 w6_141 w1_1 w6_142 (nA := 1) (by decide +kernel) rfl (by decide) rfl rfl (Nat.le_of_ble_eq_true rfl) dL_law_1809 ⟨by omega, by omega⟩ rfl ((st_beside (q := q) (q2 := q2) hO).frame (wM E q2 M)) ?_
  intro v w' h
  obtain ⟨w1, rfl, r, X1, rfl, rfl, hm⟩ := h
  refine w_aload C 2 dL_law_1812 rfl rfl ?_
  refine w_arg C (jj := 1) hi (by decide) (by decide) dL_law_1813 dL_law_1814 dL_law_1815 dL_law_1816 dL_law_1817 ?_
  refine w_callV C (I9 := iM_beside) (As := [.int (xs (i + 1))]) (T := TX12) (q0 := 0) w9_54 w9_55 w9_56 w1_16 w9_57 (nA := 1) (by decide +kernel) rfl (by decide) rfl rfl (Nat.le_of_ble_eq_true rfl) dL_law_1818 ⟨by omega, by omega⟩ rfl ((hm.frame (wX E q X1)).perm List.perm_append_comm) ?_
  intro v w' h
  obtain ⟨w1, rfl, r2, M1, rfl, rfl, hrr, hO1⟩ := h
  subst hrr
  refine w_perm List.perm_append_comm ?_
  refine w_eq C (tgt := 1872) dL_law_1821 (by decide) ?_
  exact K q X1 M1 _ _ hO1 hq rfl (by omega) (by omega)
set_option maxRecDepth 20000 in
theorem lc_40 {p : Program} {e : Env} {s : State} {m : MethodId} {below : List Frame} {meth : Method} {c : Code} {E : EvT} {b L : Nat} {xs : Nat → Int32} {k n : Nat} {q q2 : Nat → Nat} {X : StX} {M : StM} {i mi : Nat} (C : CL E p s m meth c b L xs) (hi : i + 9 ≤ L) (hq : QO E q mi) (hO : OK X M) (hk : k + 7 ≤ 600000 ∧ n + 269 ≤ 7302250) (K : ∀ (q3 : Nat → Nat) (X1 : StX) (M1 : StM) (k1 n1 : Nat), OK X1 M1 → QO E q3 mi → q3 11 = q 11 → k1 ≤ k + 7 → n1 ≤ n + 269 → RW p e s m below meth c E b (wM E q2 M1 ++ wX E q3 X1) k1 n1 [(0, .ref b), (1, .ref (q 11)), (2, .ref (q2 0)), (3, .int (nI i))] [] 1872) : RW p e s m below meth c E b (wM E q2 M ++ wX E q X) k n [(0, .ref b), (1, .ref (q 11)), (2, .ref (q2 0)), (3, .int (nI i))] [] 1826 := by
  refine w_aload C 1 dL_law_1826 rfl rfl ?_
  refine w_arg C (jj := 1) hi (by decide) (by decide) dL_law_1827 dL_law_1828 dL_law_1829 dL_law_1830 dL_law_1831 ?_
  refine w_callV C (I9 := iX_City_check) (As := [.int (xs (i + 1))]) (T := TX11) (q0 := 95) w6_143 w6_144 w6_145 w1_1 w6_146 (nA := 1) (by decide +kernel) rfl (by decide) rfl rfl (Nat.le_of_ble_eq_true rfl) dL_law_1832 ⟨by omega, by omega⟩ rfl ((st_check (q := q) (q2 := q2) hO).frame (wM E q2 M)) ?_
  intro v w' h
  obtain ⟨w1, rfl, r, X1, rfl, rfl, hm⟩ := h
  refine w_aload C 2 dL_law_1835 rfl rfl ?_
  refine w_arg C (jj := 1) hi (by decide) (by decide) dL_law_1836 dL_law_1837 dL_law_1838 dL_law_1839 dL_law_1840 ?_
  refine w_callV C (I9 := iM_check) (As := [.int (xs (i + 1))]) (T := TX12) (q0 := 0) w9_215 w9_216 w9_217 w1_16 w9_218 (nA := 1) (by decide +kernel) rfl (by decide) rfl rfl (Nat.le_of_ble_eq_true rfl) dL_law_1841 ⟨by omega, by omega⟩ rfl ((hm.frame (wX E q X1)).perm List.perm_append_comm) ?_
  intro v w' h
  obtain ⟨w1, rfl, r2, M1, rfl, rfl, hrr, hO1⟩ := h
  subst hrr
  refine w_perm List.perm_append_comm ?_
  refine w_eq C (tgt := 1872) dL_law_1844 (by decide) ?_
  exact K q X1 M1 _ _ hO1 hq rfl (by omega) (by omega)
set_option maxRecDepth 20000 in
theorem lc_41 {p : Program} {e : Env} {s : State} {m : MethodId} {below : List Frame} {meth : Method} {c : Code} {E : EvT} {b L : Nat} {xs : Nat → Int32} {k n : Nat} {q q2 : Nat → Nat} {X : StX} {M : StM} {i mi : Nat} (C : CL E p s m meth c b L xs) (hi : i + 9 ≤ L) (hq : QO E q mi) (hO : OK X M) (hk : k + 7 ≤ 600000 ∧ n + 269 ≤ 7302250) (K : ∀ (q3 : Nat → Nat) (X1 : StX) (M1 : StM) (k1 n1 : Nat), OK X1 M1 → QO E q3 mi → q3 11 = q 11 → k1 ≤ k + 7 → n1 ≤ n + 269 → RW p e s m below meth c E b (wM E q2 M1 ++ wX E q3 X1) k1 n1 [(0, .ref b), (1, .ref (q 11)), (2, .ref (q2 0)), (3, .int (nI i))] [] 1872) : RW p e s m below meth c E b (wM E q2 M ++ wX E q X) k n [(0, .ref b), (1, .ref (q 11)), (2, .ref (q2 0)), (3, .int (nI i))] [] 1849 := by
  refine w_aload C 1 dL_law_1849 rfl rfl ?_
  refine w_arg C (jj := 1) hi (by decide) (by decide) dL_law_1850 dL_law_1851 dL_law_1852 dL_law_1853 dL_law_1854 ?_
  refine w_callV C (I9 := iX_City_count) (As := [.int (xs (i + 1))]) (T := TX11) (q0 := 95) w6_156 w6_157 w6_158 w1_1 w6_159 (nA := 1) (by decide +kernel) rfl (by decide) rfl rfl (Nat.le_of_ble_eq_true rfl) dL_law_1855 ⟨by omega, by omega⟩ rfl ((st_count (q := q) (q2 := q2) hO).frame (wM E q2 M)) ?_
  intro v w' h
  obtain ⟨w1, rfl, r, X1, rfl, rfl, hm⟩ := h
  refine w_aload C 2 dL_law_1858 rfl rfl ?_
  refine w_arg C (jj := 1) hi (by decide) (by decide) dL_law_1859 dL_law_1860 dL_law_1861 dL_law_1862 dL_law_1863 ?_
  refine w_callV C (I9 := iM_count) (As := [.int (xs (i + 1))]) (T := TX12) (q0 := 0) w9_223 w9_224 w9_225 w1_16 w9_226 (nA := 1) (by decide +kernel) rfl (by decide) rfl rfl (Nat.le_of_ble_eq_true rfl) dL_law_1864 ⟨by omega, by omega⟩ rfl ((hm.frame (wX E q X1)).perm List.perm_append_comm) ?_
  intro v w' h
  obtain ⟨w1, rfl, r2, M1, rfl, rfl, hrr, hO1⟩ := h
  subst hrr
  refine w_perm List.perm_append_comm ?_
  refine w_eq C (tgt := 1872) dL_law_1867 (by decide) ?_
  exact K q X1 M1 _ _ hO1 hq rfl (by omega) (by omega)
