theorem nI_arg {i j : Nat} (hi : i + j < 4000) : (nI i + nI j).toNatClampNeg = i + j := by rw [nI_add, nI_clamp (by omega)]
section LAW2
variable {l : Launch} {G : Gt} {κ : KMt} {b L i : Nat} {xs : Nat → Int32} {σ σ1 : Hp} {S S1 : MS} {r : Int32}
theorem GoL.arg {lv : List (Nat × Value)} {st : List Value} {x : XL} {pc : Nat} {w : Int32} (j : Nat) (hw : w = nI j) (hi : i + j < L) (hL : L ≤ 3072) (hd : decode code pc = .ok (.iaload, 1)) (k : GoL l G κ b L xs R_law code 4 (pc + 1) lv (.int (xs (i + j)) :: st) x) : GoL l G κ b L xs R_law code 4 pc lv (.int (nI i + w) :: .ref b :: st) x := by
  subst hw
  refine GoL.sld (by rw [nI_add]; exact vp_in_nI hi (by omega)) hd ?_
  rw [nI_arg (by omega)]
  exact k

set_option maxRecDepth 20000 in
theorem law_c0 (hi : i + 6 ≤ L) (hL : L ≤ 3072) (hkd : σ.kd 2 = 21) (hc : kX11_put σ 2 (xs (i + 1)) = some (r, σ1)) (hr : r_put S (xs (i + 1)) = some (r, S1)) (nx : GoL l G κ b L xs R_law code 4 1494 [(0, .ref b), (1, .ref (G.adr 2)), (2, .ref κ.o), (3, .int (nI i))] [] (σ1, S1)) : GoL l G κ b L xs R_law code 4 240 [(0, .ref b), (1, .ref (G.adr 2)), (2, .ref κ.o), (3, .int (nI i))] [] (σ, S) := by
  refine GoL.aload_n 1 dL_240 rfl ?_
  refine GoL.aload_n 0 dL_241 rfl ?_
  refine GoL.iload_n 3 dL_242 rfl ?_
  refine GoL.iconst 1 dL_243 (by decide) ?_
  refine GoL.iadd dL_244 ?_
  refine GoL.arg 1 (by decide) (by omega) hL dL_245 ?_
  refine GoL.callC (rest := []) [.int (xs (i + 1))] dL_246 lk_c0 km_lX11_put.1 km_lX11_put.2 rfl hkd (ktX11_put _ _ _ hc) rfl rfl (Nat.le_of_ble_eq_true rfl) (Nat.le_of_ble_eq_true rfl) trivial (Nat.le_of_ble_eq_true rfl) ?_
  refine GoL.aload_n 2 dL_249 rfl ?_
  refine GoL.aload_n 0 dL_250 rfl ?_
  refine GoL.iload_n 3 dL_251 rfl ?_
  refine GoL.iconst 1 dL_252 (by decide) ?_
  refine GoL.iadd dL_253 ?_
  refine GoL.arg 1 (by decide) (by omega) hL dL_254 ?_
  refine GoL.callM (rest := [.int r]) [.int (xs (i + 1))] dL_255 lk_m0 ci_put.1 ci_put.2.1 rfl (fun n => rt_put _ _ hr) rfl rfl (Nat.le_of_ble_eq_true rfl) (Nat.le_of_ble_eq_true rfl) ⟨rfl, trivial⟩ (Nat.le_of_ble_eq_true rfl) ?_
  exact GoL.icmp_same 1494 dL_258 (by decide) nx
set_option maxRecDepth 20000 in
theorem law_c1 (hi : i + 6 ≤ L) (hL : L ≤ 3072) (hkd : σ.kd 2 = 21) (hc : kX11_drop σ 2 (xs (i + 1)) = some (r, σ1)) (hr : r_drop S (xs (i + 1)) = some (r, S1)) (nx : GoL l G κ b L xs R_law code 4 1494 [(0, .ref b), (1, .ref (G.adr 2)), (2, .ref κ.o), (3, .int (nI i))] [] (σ1, S1)) : GoL l G κ b L xs R_law code 4 263 [(0, .ref b), (1, .ref (G.adr 2)), (2, .ref κ.o), (3, .int (nI i))] [] (σ, S) := by
  refine GoL.aload_n 1 dL_263 rfl ?_
  refine GoL.aload_n 0 dL_264 rfl ?_
  refine GoL.iload_n 3 dL_265 rfl ?_
  refine GoL.iconst 1 dL_266 (by decide) ?_
  refine GoL.iadd dL_267 ?_
  refine GoL.arg 1 (by decide) (by omega) hL dL_268 ?_
  refine GoL.callC (rest := []) [.int (xs (i + 1))] dL_269 lk_c1 km_lX11_drop.1 km_lX11_drop.2 rfl hkd (ktX11_drop _ _ _ hc) rfl rfl (Nat.le_of_ble_eq_true rfl) (Nat.le_of_ble_eq_true rfl) trivial (Nat.le_of_ble_eq_true rfl) ?_
  refine GoL.aload_n 2 dL_272 rfl ?_
  refine GoL.aload_n 0 dL_273 rfl ?_
  refine GoL.iload_n 3 dL_274 rfl ?_
  refine GoL.iconst 1 dL_275 (by decide) ?_
  refine GoL.iadd dL_276 ?_
  refine GoL.arg 1 (by decide) (by omega) hL dL_277 ?_
  refine GoL.callM (rest := [.int r]) [.int (xs (i + 1))] dL_278 lk_m1 ci_drop.1 ci_drop.2.1 rfl (fun n => rt_drop _ _ hr) rfl rfl (Nat.le_of_ble_eq_true rfl) (Nat.le_of_ble_eq_true rfl) ⟨rfl, trivial⟩ (Nat.le_of_ble_eq_true rfl) ?_
  exact GoL.icmp_same 1494 dL_281 (by decide) nx
set_option maxRecDepth 20000 in
theorem law_c2 (hi : i + 6 ≤ L) (hL : L ≤ 3072) (hkd : σ.kd 2 = 21) (hc : kX11_measure σ 2 (xs (i + 1)) = some (r, σ1)) (hr : r_measure S (xs (i + 1)) = some (r, S1)) (nx : GoL l G κ b L xs R_law code 4 1494 [(0, .ref b), (1, .ref (G.adr 2)), (2, .ref κ.o), (3, .int (nI i))] [] (σ1, S1)) : GoL l G κ b L xs R_law code 4 286 [(0, .ref b), (1, .ref (G.adr 2)), (2, .ref κ.o), (3, .int (nI i))] [] (σ, S) := by
  refine GoL.aload_n 1 dL_286 rfl ?_
  refine GoL.aload_n 0 dL_287 rfl ?_
  refine GoL.iload_n 3 dL_288 rfl ?_
  refine GoL.iconst 1 dL_289 (by decide) ?_
  refine GoL.iadd dL_290 ?_
  refine GoL.arg 1 (by decide) (by omega) hL dL_291 ?_
  refine GoL.callC (rest := []) [.int (xs (i + 1))] dL_292 lk_c2 km_lX11_measure.1 km_lX11_measure.2 rfl hkd (ktX11_measure _ _ _ hc) rfl rfl (Nat.le_of_ble_eq_true rfl) (Nat.le_of_ble_eq_true rfl) trivial (Nat.le_of_ble_eq_true rfl) ?_
  refine GoL.aload_n 2 dL_295 rfl ?_
  refine GoL.aload_n 0 dL_296 rfl ?_
  refine GoL.iload_n 3 dL_297 rfl ?_
  refine GoL.iconst 1 dL_298 (by decide) ?_
  refine GoL.iadd dL_299 ?_
  refine GoL.arg 1 (by decide) (by omega) hL dL_300 ?_
  refine GoL.callM (rest := [.int r]) [.int (xs (i + 1))] dL_301 lk_m2 ci_measure.1 ci_measure.2.1 rfl (fun n => rt_measure _ _ hr) rfl rfl (Nat.le_of_ble_eq_true rfl) (Nat.le_of_ble_eq_true rfl) ⟨rfl, trivial⟩ (Nat.le_of_ble_eq_true rfl) ?_
  exact GoL.icmp_same 1494 dL_304 (by decide) nx
set_option maxRecDepth 20000 in
theorem law_c3 (hi : i + 6 ≤ L) (hL : L ≤ 3072) (hkd : σ.kd 2 = 21) (hc : kX11_cap σ 2 (xs (i + 1)) = some (r, σ1)) (hr : r_cap S (xs (i + 1)) = some (r, S1)) (nx : GoL l G κ b L xs R_law code 4 1494 [(0, .ref b), (1, .ref (G.adr 2)), (2, .ref κ.o), (3, .int (nI i))] [] (σ1, S1)) : GoL l G κ b L xs R_law code 4 309 [(0, .ref b), (1, .ref (G.adr 2)), (2, .ref κ.o), (3, .int (nI i))] [] (σ, S) := by
  refine GoL.aload_n 1 dL_309 rfl ?_
  refine GoL.aload_n 0 dL_310 rfl ?_
  refine GoL.iload_n 3 dL_311 rfl ?_
  refine GoL.iconst 1 dL_312 (by decide) ?_
  refine GoL.iadd dL_313 ?_
  refine GoL.arg 1 (by decide) (by omega) hL dL_314 ?_
  refine GoL.callC (rest := []) [.int (xs (i + 1))] dL_315 lk_c3 km_lX11_cap.1 km_lX11_cap.2 rfl hkd (ktX11_cap _ _ _ hc) rfl rfl (Nat.le_of_ble_eq_true rfl) (Nat.le_of_ble_eq_true rfl) trivial (Nat.le_of_ble_eq_true rfl) ?_
  refine GoL.aload_n 2 dL_318 rfl ?_
  refine GoL.aload_n 0 dL_319 rfl ?_
  refine GoL.iload_n 3 dL_320 rfl ?_
  refine GoL.iconst 1 dL_321 (by decide) ?_
  refine GoL.iadd dL_322 ?_
  refine GoL.arg 1 (by decide) (by omega) hL dL_323 ?_
  refine GoL.callM (rest := [.int r]) [.int (xs (i + 1))] dL_324 lk_m3 ci_cap.1 ci_cap.2.1 rfl (fun n => rt_cap _ _ hr) rfl rfl (Nat.le_of_ble_eq_true rfl) (Nat.le_of_ble_eq_true rfl) ⟨rfl, trivial⟩ (Nat.le_of_ble_eq_true rfl) ?_
  exact GoL.icmp_same 1494 dL_327 (by decide) nx
set_option maxRecDepth 20000 in
theorem law_c4 (hi : i + 6 ≤ L) (hL : L ≤ 3072) (hkd : σ.kd 2 = 21) (hc : kX11_tell σ 2 (xs (i + 1)) (xs (i + 2)) (xs (i + 3)) = some (r, σ1)) (hr : r_tell S (xs (i + 1)) (xs (i + 2)) (xs (i + 3)) = some (r, S1)) (nx : GoL l G κ b L xs R_law code 4 1494 [(0, .ref b), (1, .ref (G.adr 2)), (2, .ref κ.o), (3, .int (nI i))] [] (σ1, S1)) : GoL l G κ b L xs R_law code 4 332 [(0, .ref b), (1, .ref (G.adr 2)), (2, .ref κ.o), (3, .int (nI i))] [] (σ, S) := by
  refine GoL.aload_n 1 dL_332 rfl ?_
  refine GoL.aload_n 0 dL_333 rfl ?_
  refine GoL.iload_n 3 dL_334 rfl ?_
  refine GoL.iconst 1 dL_335 (by decide) ?_
  refine GoL.iadd dL_336 ?_
  refine GoL.arg 1 (by decide) (by omega) hL dL_337 ?_
  refine GoL.aload_n 0 dL_338 rfl ?_
  refine GoL.iload_n 3 dL_339 rfl ?_
  refine GoL.iconst 2 dL_340 (by decide) ?_
  refine GoL.iadd dL_341 ?_
  refine GoL.arg 2 (by decide) (by omega) hL dL_342 ?_
  refine GoL.aload_n 0 dL_343 rfl ?_
  refine GoL.iload_n 3 dL_344 rfl ?_
  refine GoL.iconst 3 dL_345 (by decide) ?_
  refine GoL.iadd dL_346 ?_
  refine GoL.arg 3 (by decide) (by omega) hL dL_347 ?_
  refine GoL.callC (rest := []) [.int (xs (i + 1)), .int (xs (i + 2)), .int (xs (i + 3))] dL_348 lk_c4 km_lX11_tell.1 km_lX11_tell.2 rfl hkd (ktX11_tell _ _ _ _ _ hc) rfl rfl (Nat.le_of_ble_eq_true rfl) (Nat.le_of_ble_eq_true rfl) trivial (Nat.le_of_ble_eq_true rfl) ?_
  refine GoL.aload_n 2 dL_351 rfl ?_
  refine GoL.aload_n 0 dL_352 rfl ?_
  refine GoL.iload_n 3 dL_353 rfl ?_
  refine GoL.iconst 1 dL_354 (by decide) ?_
  refine GoL.iadd dL_355 ?_
  refine GoL.arg 1 (by decide) (by omega) hL dL_356 ?_
  refine GoL.aload_n 0 dL_357 rfl ?_
  refine GoL.iload_n 3 dL_358 rfl ?_
  refine GoL.iconst 2 dL_359 (by decide) ?_
  refine GoL.iadd dL_360 ?_
  refine GoL.arg 2 (by decide) (by omega) hL dL_361 ?_
  refine GoL.aload_n 0 dL_362 rfl ?_
  refine GoL.iload_n 3 dL_363 rfl ?_
  refine GoL.iconst 3 dL_364 (by decide) ?_
  refine GoL.iadd dL_365 ?_
  refine GoL.arg 3 (by decide) (by omega) hL dL_366 ?_
  refine GoL.callM (rest := [.int r]) [.int (xs (i + 1)), .int (xs (i + 2)), .int (xs (i + 3))] dL_367 lk_m4 ci_tell.1 ci_tell.2.1 rfl (fun n => rt_tell _ _ _ _ hr) rfl rfl (Nat.le_of_ble_eq_true rfl) (Nat.le_of_ble_eq_true rfl) ⟨rfl, trivial⟩ (Nat.le_of_ble_eq_true rfl) ?_
  exact GoL.icmp_same 1494 dL_370 (by decide) nx
set_option maxRecDepth 20000 in
theorem law_c5 (hi : i + 6 ≤ L) (hL : L ≤ 3072) (hkd : σ.kd 2 = 21) (hc : kX11_wipe σ 2  = some (r, σ1)) (hr : r_wipe S  = some (r, S1)) (nx : GoL l G κ b L xs R_law code 4 1494 [(0, .ref b), (1, .ref (G.adr 2)), (2, .ref κ.o), (3, .int (nI i))] [] (σ1, S1)) : GoL l G κ b L xs R_law code 4 375 [(0, .ref b), (1, .ref (G.adr 2)), (2, .ref κ.o), (3, .int (nI i))] [] (σ, S) := by
  refine GoL.aload_n 1 dL_375 rfl ?_
  refine GoL.callC (rest := []) [] dL_376 lk_c5 km_lX11_wipe.1 km_lX11_wipe.2 rfl hkd (ktX11_wipe _  _ hc) rfl rfl (Nat.le_of_ble_eq_true rfl) (Nat.le_of_ble_eq_true rfl) trivial (Nat.le_of_ble_eq_true rfl) ?_
  refine GoL.aload_n 2 dL_379 rfl ?_
  refine GoL.callM (rest := [.int r]) [] dL_380 lk_m5 ci_wipe.1 ci_wipe.2.1 rfl (fun n => rt_wipe  _ hr) rfl rfl (Nat.le_of_ble_eq_true rfl) (Nat.le_of_ble_eq_true rfl) ⟨rfl, trivial⟩ (Nat.le_of_ble_eq_true rfl) ?_
  exact GoL.icmp_same 1494 dL_383 (by decide) nx
set_option maxRecDepth 20000 in
theorem law_c6 (hi : i + 6 ≤ L) (hL : L ≤ 3072) (hkd : σ.kd 2 = 21) (hc : kX11_build σ 2  = some (r, σ1)) (hr : r_build S  = some (r, S1)) (nx : GoL l G κ b L xs R_law code 4 1494 [(0, .ref b), (1, .ref (G.adr 2)), (2, .ref κ.o), (3, .int (nI i))] [] (σ1, S1)) : GoL l G κ b L xs R_law code 4 388 [(0, .ref b), (1, .ref (G.adr 2)), (2, .ref κ.o), (3, .int (nI i))] [] (σ, S) := by
  refine GoL.aload_n 1 dL_388 rfl ?_
  refine GoL.callC (rest := []) [] dL_389 lk_c6 km_lX11_build.1 km_lX11_build.2 rfl hkd (ktX11_build _  _ hc) rfl rfl (Nat.le_of_ble_eq_true rfl) (Nat.le_of_ble_eq_true rfl) trivial (Nat.le_of_ble_eq_true rfl) ?_
  refine GoL.aload_n 2 dL_392 rfl ?_
  refine GoL.callM (rest := [.int r]) [] dL_393 lk_m6 ci_build.1 ci_build.2.1 rfl (fun n => rt_build  _ hr) rfl rfl (Nat.le_of_ble_eq_true rfl) (Nat.le_of_ble_eq_true rfl) ⟨rfl, trivial⟩ (Nat.le_of_ble_eq_true rfl) ?_
  exact GoL.icmp_same 1494 dL_396 (by decide) nx
set_option maxRecDepth 20000 in
theorem law_c7 (hi : i + 6 ≤ L) (hL : L ≤ 3072) (hkd : σ.kd 2 = 21) (hc : kX11_spell σ 2 (xs (i + 1)) (xs (i + 2)) = some (r, σ1)) (hr : r_spell S (xs (i + 1)) (xs (i + 2)) = some (r, S1)) (nx : GoL l G κ b L xs R_law code 4 1494 [(0, .ref b), (1, .ref (G.adr 2)), (2, .ref κ.o), (3, .int (nI i))] [] (σ1, S1)) : GoL l G κ b L xs R_law code 4 401 [(0, .ref b), (1, .ref (G.adr 2)), (2, .ref κ.o), (3, .int (nI i))] [] (σ, S) := by
  refine GoL.aload_n 1 dL_401 rfl ?_
  refine GoL.aload_n 0 dL_402 rfl ?_
  refine GoL.iload_n 3 dL_403 rfl ?_
  refine GoL.iconst 1 dL_404 (by decide) ?_
  refine GoL.iadd dL_405 ?_
  refine GoL.arg 1 (by decide) (by omega) hL dL_406 ?_
  refine GoL.aload_n 0 dL_407 rfl ?_
  refine GoL.iload_n 3 dL_408 rfl ?_
  refine GoL.iconst 2 dL_409 (by decide) ?_
  refine GoL.iadd dL_410 ?_
  refine GoL.arg 2 (by decide) (by omega) hL dL_411 ?_
  refine GoL.callC (rest := []) [.int (xs (i + 1)), .int (xs (i + 2))] dL_412 lk_c7 km_lX11_spell.1 km_lX11_spell.2 rfl hkd (ktX11_spell _ _ _ _ hc) rfl rfl (Nat.le_of_ble_eq_true rfl) (Nat.le_of_ble_eq_true rfl) trivial (Nat.le_of_ble_eq_true rfl) ?_
  refine GoL.aload_n 2 dL_415 rfl ?_
  refine GoL.aload_n 0 dL_416 rfl ?_
  refine GoL.iload_n 3 dL_417 rfl ?_
  refine GoL.iconst 1 dL_418 (by decide) ?_
  refine GoL.iadd dL_419 ?_
  refine GoL.arg 1 (by decide) (by omega) hL dL_420 ?_
  refine GoL.aload_n 0 dL_421 rfl ?_
  refine GoL.iload_n 3 dL_422 rfl ?_
  refine GoL.iconst 2 dL_423 (by decide) ?_
  refine GoL.iadd dL_424 ?_
  refine GoL.arg 2 (by decide) (by omega) hL dL_425 ?_
  refine GoL.callM (rest := [.int r]) [.int (xs (i + 1)), .int (xs (i + 2))] dL_426 lk_m7 ci_spell.1 ci_spell.2.1 rfl (fun n => rt_spell _ _ _ hr) rfl rfl (Nat.le_of_ble_eq_true rfl) (Nat.le_of_ble_eq_true rfl) ⟨rfl, trivial⟩ (Nat.le_of_ble_eq_true rfl) ?_
  exact GoL.icmp_same 1494 dL_429 (by decide) nx
set_option maxRecDepth 20000 in
theorem law_c8 (hi : i + 6 ≤ L) (hL : L ≤ 3072) (hkd : σ.kd 2 = 21) (hc : kX11_tight σ 2  = some (r, σ1)) (hr : r_tight S  = some (r, S1)) (nx : GoL l G κ b L xs R_law code 4 1494 [(0, .ref b), (1, .ref (G.adr 2)), (2, .ref κ.o), (3, .int (nI i))] [] (σ1, S1)) : GoL l G κ b L xs R_law code 4 434 [(0, .ref b), (1, .ref (G.adr 2)), (2, .ref κ.o), (3, .int (nI i))] [] (σ, S) := by
  refine GoL.aload_n 1 dL_434 rfl ?_
  refine GoL.callC (rest := []) [] dL_435 lk_c8 km_lX11_tight.1 km_lX11_tight.2 rfl hkd (ktX11_tight _  _ hc) rfl rfl (Nat.le_of_ble_eq_true rfl) (Nat.le_of_ble_eq_true rfl) trivial (Nat.le_of_ble_eq_true rfl) ?_
  refine GoL.aload_n 2 dL_438 rfl ?_
  refine GoL.callM (rest := [.int r]) [] dL_439 lk_m8 ci_tight.1 ci_tight.2.1 rfl (fun n => rt_tight  _ hr) rfl rfl (Nat.le_of_ble_eq_true rfl) (Nat.le_of_ble_eq_true rfl) ⟨rfl, trivial⟩ (Nat.le_of_ble_eq_true rfl) ?_
  exact GoL.icmp_same 1494 dL_442 (by decide) nx
set_option maxRecDepth 20000 in
theorem law_c9 (hi : i + 6 ≤ L) (hL : L ≤ 3072) (hkd : σ.kd 2 = 21) (hc : kX11_feed σ 2 (xs (i + 1)) (xs (i + 2)) (xs (i + 3)) (xs (i + 4)) (xs (i + 5)) = some (r, σ1)) (hr : r_feed S (xs (i + 1)) (xs (i + 2)) (xs (i + 3)) (xs (i + 4)) (xs (i + 5)) = some (r, S1)) (nx : GoL l G κ b L xs R_law code 4 1494 [(0, .ref b), (1, .ref (G.adr 2)), (2, .ref κ.o), (3, .int (nI i))] [] (σ1, S1)) : GoL l G κ b L xs R_law code 4 447 [(0, .ref b), (1, .ref (G.adr 2)), (2, .ref κ.o), (3, .int (nI i))] [] (σ, S) := by
  refine GoL.aload_n 1 dL_447 rfl ?_
  refine GoL.aload_n 0 dL_448 rfl ?_
  refine GoL.iload_n 3 dL_449 rfl ?_
  refine GoL.iconst 1 dL_450 (by decide) ?_
  refine GoL.iadd dL_451 ?_
  refine GoL.arg 1 (by decide) (by omega) hL dL_452 ?_
  refine GoL.aload_n 0 dL_453 rfl ?_
  refine GoL.iload_n 3 dL_454 rfl ?_
  refine GoL.iconst 2 dL_455 (by decide) ?_
  refine GoL.iadd dL_456 ?_
  refine GoL.arg 2 (by decide) (by omega) hL dL_457 ?_
  refine GoL.aload_n 0 dL_458 rfl ?_
  refine GoL.iload_n 3 dL_459 rfl ?_
  refine GoL.iconst 3 dL_460 (by decide) ?_
  refine GoL.iadd dL_461 ?_
  refine GoL.arg 3 (by decide) (by omega) hL dL_462 ?_
  refine GoL.aload_n 0 dL_463 rfl ?_
  refine GoL.iload_n 3 dL_464 rfl ?_
  refine GoL.iconst 4 dL_465 (by decide) ?_
  refine GoL.iadd dL_466 ?_
  refine GoL.arg 4 (by decide) (by omega) hL dL_467 ?_
  refine GoL.aload_n 0 dL_468 rfl ?_
  refine GoL.iload_n 3 dL_469 rfl ?_
  refine GoL.iconst 5 dL_470 (by decide) ?_
  refine GoL.iadd dL_471 ?_
  refine GoL.arg 5 (by decide) (by omega) hL dL_472 ?_
  refine GoL.callC (rest := []) [.int (xs (i + 1)), .int (xs (i + 2)), .int (xs (i + 3)), .int (xs (i + 4)), .int (xs (i + 5))] dL_473 lk_c9 km_lX11_feed.1 km_lX11_feed.2 rfl hkd (ktX11_feed _ _ _ _ _ _ _ hc) rfl rfl (Nat.le_of_ble_eq_true rfl) (Nat.le_of_ble_eq_true rfl) trivial (Nat.le_of_ble_eq_true rfl) ?_
  refine GoL.aload_n 2 dL_476 rfl ?_
  refine GoL.aload_n 0 dL_477 rfl ?_
  refine GoL.iload_n 3 dL_478 rfl ?_
  refine GoL.iconst 1 dL_479 (by decide) ?_
  refine GoL.iadd dL_480 ?_
  refine GoL.arg 1 (by decide) (by omega) hL dL_481 ?_
  refine GoL.aload_n 0 dL_482 rfl ?_
  refine GoL.iload_n 3 dL_483 rfl ?_
  refine GoL.iconst 2 dL_484 (by decide) ?_
  refine GoL.iadd dL_485 ?_
  refine GoL.arg 2 (by decide) (by omega) hL dL_486 ?_
  refine GoL.aload_n 0 dL_487 rfl ?_
  refine GoL.iload_n 3 dL_488 rfl ?_
  refine GoL.iconst 3 dL_489 (by decide) ?_
  refine GoL.iadd dL_490 ?_
  refine GoL.arg 3 (by decide) (by omega) hL dL_491 ?_
  refine GoL.aload_n 0 dL_492 rfl ?_
  refine GoL.iload_n 3 dL_493 rfl ?_
  refine GoL.iconst 4 dL_494 (by decide) ?_
  refine GoL.iadd dL_495 ?_
  refine GoL.arg 4 (by decide) (by omega) hL dL_496 ?_
  refine GoL.aload_n 0 dL_497 rfl ?_
  refine GoL.iload_n 3 dL_498 rfl ?_
  refine GoL.iconst 5 dL_499 (by decide) ?_
  refine GoL.iadd dL_500 ?_
  refine GoL.arg 5 (by decide) (by omega) hL dL_501 ?_
  refine GoL.callM (rest := [.int r]) [.int (xs (i + 1)), .int (xs (i + 2)), .int (xs (i + 3)), .int (xs (i + 4)), .int (xs (i + 5))] dL_502 lk_m9 ci_feed.1 ci_feed.2.1 rfl (fun n => rt_feed _ _ _ _ _ _ hr) rfl rfl (Nat.le_of_ble_eq_true rfl) (Nat.le_of_ble_eq_true rfl) ⟨rfl, trivial⟩ (Nat.le_of_ble_eq_true rfl) ?_
  exact GoL.icmp_same 1494 dL_505 (by decide) nx
set_option maxRecDepth 20000 in
theorem law_c10 (hi : i + 6 ≤ L) (hL : L ≤ 3072) (hkd : σ.kd 2 = 21) (hc : kX11_end σ 2 (xs (i + 1)) = some (r, σ1)) (hr : r_end S (xs (i + 1)) = some (r, S1)) (nx : GoL l G κ b L xs R_law code 4 1494 [(0, .ref b), (1, .ref (G.adr 2)), (2, .ref κ.o), (3, .int (nI i))] [] (σ1, S1)) : GoL l G κ b L xs R_law code 4 510 [(0, .ref b), (1, .ref (G.adr 2)), (2, .ref κ.o), (3, .int (nI i))] [] (σ, S) := by
  refine GoL.aload_n 1 dL_510 rfl ?_
  refine GoL.aload_n 0 dL_511 rfl ?_
  refine GoL.iload_n 3 dL_512 rfl ?_
  refine GoL.iconst 1 dL_513 (by decide) ?_
  refine GoL.iadd dL_514 ?_
  refine GoL.arg 1 (by decide) (by omega) hL dL_515 ?_
  refine GoL.callC (rest := []) [.int (xs (i + 1))] dL_516 lk_c10 km_lX11_end.1 km_lX11_end.2 rfl hkd (ktX11_end _ _ _ hc) rfl rfl (Nat.le_of_ble_eq_true rfl) (Nat.le_of_ble_eq_true rfl) trivial (Nat.le_of_ble_eq_true rfl) ?_
  refine GoL.aload_n 2 dL_519 rfl ?_
  refine GoL.aload_n 0 dL_520 rfl ?_
  refine GoL.iload_n 3 dL_521 rfl ?_
  refine GoL.iconst 1 dL_522 (by decide) ?_
  refine GoL.iadd dL_523 ?_
  refine GoL.arg 1 (by decide) (by omega) hL dL_524 ?_
  refine GoL.callM (rest := [.int r]) [.int (xs (i + 1))] dL_525 lk_m10 ci_end.1 ci_end.2.1 rfl (fun n => rt_end _ _ hr) rfl rfl (Nat.le_of_ble_eq_true rfl) (Nat.le_of_ble_eq_true rfl) ⟨rfl, trivial⟩ (Nat.le_of_ble_eq_true rfl) ?_
  exact GoL.icmp_same 1494 dL_528 (by decide) nx
set_option maxRecDepth 20000 in
theorem law_c11 (hi : i + 6 ≤ L) (hL : L ≤ 3072) (hkd : σ.kd 2 = 21) (hc : kX11_perform σ 2  = some (r, σ1)) (hr : r_perform S  = some (r, S1)) (nx : GoL l G κ b L xs R_law code 4 1494 [(0, .ref b), (1, .ref (G.adr 2)), (2, .ref κ.o), (3, .int (nI i))] [] (σ1, S1)) : GoL l G κ b L xs R_law code 4 533 [(0, .ref b), (1, .ref (G.adr 2)), (2, .ref κ.o), (3, .int (nI i))] [] (σ, S) := by
  refine GoL.aload_n 1 dL_533 rfl ?_
  refine GoL.callC (rest := []) [] dL_534 lk_c11 km_lX11_perform.1 km_lX11_perform.2 rfl hkd (ktX11_perform _  _ hc) rfl rfl (Nat.le_of_ble_eq_true rfl) (Nat.le_of_ble_eq_true rfl) trivial (Nat.le_of_ble_eq_true rfl) ?_
  refine GoL.aload_n 2 dL_537 rfl ?_
  refine GoL.callM (rest := [.int r]) [] dL_538 lk_m11 ci_perform.1 ci_perform.2.1 rfl (fun n => rt_perform  _ hr) rfl rfl (Nat.le_of_ble_eq_true rfl) (Nat.le_of_ble_eq_true rfl) ⟨rfl, trivial⟩ (Nat.le_of_ble_eq_true rfl) ?_
  exact GoL.icmp_same 1494 dL_541 (by decide) nx
set_option maxRecDepth 20000 in
theorem law_c12 (hi : i + 6 ≤ L) (hL : L ≤ 3072) (hkd : σ.kd 2 = 21) (hc : kX11_fault σ 2  = some r) (hr : r_fault S  = some r) (nx : GoL l G κ b L xs R_law code 4 1494 [(0, .ref b), (1, .ref (G.adr 2)), (2, .ref κ.o), (3, .int (nI i))] [] (σ, S)) : GoL l G κ b L xs R_law code 4 546 [(0, .ref b), (1, .ref (G.adr 2)), (2, .ref κ.o), (3, .int (nI i))] [] (σ, S) := by
  refine GoL.aload_n 1 dL_546 rfl ?_
  refine GoL.callC (rest := []) [] dL_547 lk_c12 km_lX11_fault.1 km_lX11_fault.2 rfl hkd (ktX11_fault _  _ hc) rfl rfl (Nat.le_of_ble_eq_true rfl) (Nat.le_of_ble_eq_true rfl) trivial (Nat.le_of_ble_eq_true rfl) ?_
  refine GoL.aload_n 2 dL_550 rfl ?_
  refine GoL.callM (rest := [.int r]) [] dL_551 lk_m12 ci_fault.1 ci_fault.2.1 rfl (fun n => rt_fault  _ hr) rfl rfl (Nat.le_of_ble_eq_true rfl) (Nat.le_of_ble_eq_true rfl) ⟨rfl, trivial⟩ (Nat.le_of_ble_eq_true rfl) ?_
  exact GoL.icmp_same 1494 dL_554 (by decide) nx
set_option maxRecDepth 20000 in
theorem law_c13 (hi : i + 6 ≤ L) (hL : L ≤ 3072) (hkd : σ.kd 2 = 21) (hc : kX11_reply σ 2 (xs (i + 1)) = some r) (hr : r_reply S (xs (i + 1)) = some r) (nx : GoL l G κ b L xs R_law code 4 1494 [(0, .ref b), (1, .ref (G.adr 2)), (2, .ref κ.o), (3, .int (nI i))] [] (σ, S)) : GoL l G κ b L xs R_law code 4 559 [(0, .ref b), (1, .ref (G.adr 2)), (2, .ref κ.o), (3, .int (nI i))] [] (σ, S) := by
  refine GoL.aload_n 1 dL_559 rfl ?_
  refine GoL.aload_n 0 dL_560 rfl ?_
  refine GoL.iload_n 3 dL_561 rfl ?_
  refine GoL.iconst 1 dL_562 (by decide) ?_
  refine GoL.iadd dL_563 ?_
  refine GoL.arg 1 (by decide) (by omega) hL dL_564 ?_
  refine GoL.callC (rest := []) [.int (xs (i + 1))] dL_565 lk_c13 km_lX11_reply.1 km_lX11_reply.2 rfl hkd (ktX11_reply _ _ _ hc) rfl rfl (Nat.le_of_ble_eq_true rfl) (Nat.le_of_ble_eq_true rfl) trivial (Nat.le_of_ble_eq_true rfl) ?_
  refine GoL.aload_n 2 dL_568 rfl ?_
  refine GoL.aload_n 0 dL_569 rfl ?_
  refine GoL.iload_n 3 dL_570 rfl ?_
  refine GoL.iconst 1 dL_571 (by decide) ?_
  refine GoL.iadd dL_572 ?_
  refine GoL.arg 1 (by decide) (by omega) hL dL_573 ?_
  refine GoL.callM (rest := [.int r]) [.int (xs (i + 1))] dL_574 lk_m13 ci_reply.1 ci_reply.2.1 rfl (fun n => rt_reply _ _ hr) rfl rfl (Nat.le_of_ble_eq_true rfl) (Nat.le_of_ble_eq_true rfl) ⟨rfl, trivial⟩ (Nat.le_of_ble_eq_true rfl) ?_
  exact GoL.icmp_same 1494 dL_577 (by decide) nx
set_option maxRecDepth 20000 in
theorem law_c14 (hi : i + 6 ≤ L) (hL : L ≤ 3072) (hkd : σ.kd 2 = 21) (hc : kX11_undo σ 2  = some (r, σ1)) (hr : r_undo S  = some (r, S1)) (nx : GoL l G κ b L xs R_law code 4 1494 [(0, .ref b), (1, .ref (G.adr 2)), (2, .ref κ.o), (3, .int (nI i))] [] (σ1, S1)) : GoL l G κ b L xs R_law code 4 582 [(0, .ref b), (1, .ref (G.adr 2)), (2, .ref κ.o), (3, .int (nI i))] [] (σ, S) := by
  refine GoL.aload_n 1 dL_582 rfl ?_
  refine GoL.callC (rest := []) [] dL_583 lk_c14 km_lX11_undo.1 km_lX11_undo.2 rfl hkd (ktX11_undo _  _ hc) rfl rfl (Nat.le_of_ble_eq_true rfl) (Nat.le_of_ble_eq_true rfl) trivial (Nat.le_of_ble_eq_true rfl) ?_
  refine GoL.aload_n 2 dL_586 rfl ?_
  refine GoL.callM (rest := [.int r]) [] dL_587 lk_m14 ci_undo.1 ci_undo.2.1 rfl (fun n => rt_undo  _ hr) rfl rfl (Nat.le_of_ble_eq_true rfl) (Nat.le_of_ble_eq_true rfl) ⟨rfl, trivial⟩ (Nat.le_of_ble_eq_true rfl) ?_
  exact GoL.icmp_same 1494 dL_590 (by decide) nx
set_option maxRecDepth 20000 in
theorem law_c15 (hi : i + 6 ≤ L) (hL : L ≤ 3072) (hkd : σ.kd 2 = 21) (hc : kX11_is σ 2 (xs (i + 1)) = some r) (hr : r_is S (xs (i + 1)) = some (r, S1)) (nx : GoL l G κ b L xs R_law code 4 1494 [(0, .ref b), (1, .ref (G.adr 2)), (2, .ref κ.o), (3, .int (nI i))] [] (σ, S1)) : GoL l G κ b L xs R_law code 4 595 [(0, .ref b), (1, .ref (G.adr 2)), (2, .ref κ.o), (3, .int (nI i))] [] (σ, S) := by
  refine GoL.aload_n 1 dL_595 rfl ?_
  refine GoL.aload_n 0 dL_596 rfl ?_
  refine GoL.iload_n 3 dL_597 rfl ?_
  refine GoL.iconst 1 dL_598 (by decide) ?_
  refine GoL.iadd dL_599 ?_
  refine GoL.arg 1 (by decide) (by omega) hL dL_600 ?_
  refine GoL.callC (rest := []) [.int (xs (i + 1))] dL_601 lk_c15 km_lX11_is.1 km_lX11_is.2 rfl hkd (ktX11_is _ _ _ hc) rfl rfl (Nat.le_of_ble_eq_true rfl) (Nat.le_of_ble_eq_true rfl) trivial (Nat.le_of_ble_eq_true rfl) ?_
  refine GoL.aload_n 2 dL_604 rfl ?_
  refine GoL.aload_n 0 dL_605 rfl ?_
  refine GoL.iload_n 3 dL_606 rfl ?_
  refine GoL.iconst 1 dL_607 (by decide) ?_
  refine GoL.iadd dL_608 ?_
  refine GoL.arg 1 (by decide) (by omega) hL dL_609 ?_
  refine GoL.callM (rest := [.int r]) [.int (xs (i + 1))] dL_610 lk_m15 ci_is.1 ci_is.2.1 rfl (fun n => rt_is _ _ hr) rfl rfl (Nat.le_of_ble_eq_true rfl) (Nat.le_of_ble_eq_true rfl) ⟨rfl, trivial⟩ (Nat.le_of_ble_eq_true rfl) ?_
  exact GoL.icmp_same 1494 dL_613 (by decide) nx
set_option maxRecDepth 20000 in
theorem law_c16 (hi : i + 6 ≤ L) (hL : L ≤ 3072) (hkd : σ.kd 2 = 21) (hc : kX11_word σ 2 (xs (i + 1)) = some r) (hr : r_word S (xs (i + 1)) = some r) (nx : GoL l G κ b L xs R_law code 4 1494 [(0, .ref b), (1, .ref (G.adr 2)), (2, .ref κ.o), (3, .int (nI i))] [] (σ, S)) : GoL l G κ b L xs R_law code 4 618 [(0, .ref b), (1, .ref (G.adr 2)), (2, .ref κ.o), (3, .int (nI i))] [] (σ, S) := by
  refine GoL.aload_n 1 dL_618 rfl ?_
  refine GoL.aload_n 0 dL_619 rfl ?_
  refine GoL.iload_n 3 dL_620 rfl ?_
  refine GoL.iconst 1 dL_621 (by decide) ?_
  refine GoL.iadd dL_622 ?_
  refine GoL.arg 1 (by decide) (by omega) hL dL_623 ?_
  refine GoL.callC (rest := []) [.int (xs (i + 1))] dL_624 lk_c16 km_lX11_word.1 km_lX11_word.2 rfl hkd (ktX11_word _ _ _ hc) rfl rfl (Nat.le_of_ble_eq_true rfl) (Nat.le_of_ble_eq_true rfl) trivial (Nat.le_of_ble_eq_true rfl) ?_
  refine GoL.aload_n 2 dL_627 rfl ?_
  refine GoL.aload_n 0 dL_628 rfl ?_
  refine GoL.iload_n 3 dL_629 rfl ?_
  refine GoL.iconst 1 dL_630 (by decide) ?_
  refine GoL.iadd dL_631 ?_
  refine GoL.arg 1 (by decide) (by omega) hL dL_632 ?_
  refine GoL.callM (rest := [.int r]) [.int (xs (i + 1))] dL_633 lk_m16 ci_word.1 ci_word.2.1 rfl (fun n => rt_word _ _ hr) rfl rfl (Nat.le_of_ble_eq_true rfl) (Nat.le_of_ble_eq_true rfl) ⟨rfl, trivial⟩ (Nat.le_of_ble_eq_true rfl) ?_
  exact GoL.icmp_same 1494 dL_636 (by decide) nx
set_option maxRecDepth 20000 in
theorem law_c17 (hi : i + 6 ≤ L) (hL : L ≤ 3072) (hkd : σ.kd 2 = 21) (hc : kX11_thing σ 2 (xs (i + 1)) = some r) (hr : r_thing S (xs (i + 1)) = some r) (nx : GoL l G κ b L xs R_law code 4 1494 [(0, .ref b), (1, .ref (G.adr 2)), (2, .ref κ.o), (3, .int (nI i))] [] (σ, S)) : GoL l G κ b L xs R_law code 4 641 [(0, .ref b), (1, .ref (G.adr 2)), (2, .ref κ.o), (3, .int (nI i))] [] (σ, S) := by
  refine GoL.aload_n 1 dL_641 rfl ?_
  refine GoL.aload_n 0 dL_642 rfl ?_
  refine GoL.iload_n 3 dL_643 rfl ?_
  refine GoL.iconst 1 dL_644 (by decide) ?_
  refine GoL.iadd dL_645 ?_
  refine GoL.arg 1 (by decide) (by omega) hL dL_646 ?_
  refine GoL.callC (rest := []) [.int (xs (i + 1))] dL_647 lk_c17 km_lX11_thing.1 km_lX11_thing.2 rfl hkd (ktX11_thing _ _ _ hc) rfl rfl (Nat.le_of_ble_eq_true rfl) (Nat.le_of_ble_eq_true rfl) trivial (Nat.le_of_ble_eq_true rfl) ?_
  refine GoL.aload_n 2 dL_650 rfl ?_
  refine GoL.aload_n 0 dL_651 rfl ?_
  refine GoL.iload_n 3 dL_652 rfl ?_
  refine GoL.iconst 1 dL_653 (by decide) ?_
  refine GoL.iadd dL_654 ?_
  refine GoL.arg 1 (by decide) (by omega) hL dL_655 ?_
  refine GoL.callM (rest := [.int r]) [.int (xs (i + 1))] dL_656 lk_m17 ci_thing.1 ci_thing.2.1 rfl (fun n => rt_thing _ _ hr) rfl rfl (Nat.le_of_ble_eq_true rfl) (Nat.le_of_ble_eq_true rfl) ⟨rfl, trivial⟩ (Nat.le_of_ble_eq_true rfl) ?_
  exact GoL.icmp_same 1494 dL_659 (by decide) nx
set_option maxRecDepth 20000 in
theorem law_c18 (hi : i + 6 ≤ L) (hL : L ≤ 3072) (hkd : σ.kd 2 = 21) (hc : kX11_letters σ 2 (xs (i + 1)) = some r) (hr : r_letters S (xs (i + 1)) = some r) (nx : GoL l G κ b L xs R_law code 4 1494 [(0, .ref b), (1, .ref (G.adr 2)), (2, .ref κ.o), (3, .int (nI i))] [] (σ, S)) : GoL l G κ b L xs R_law code 4 664 [(0, .ref b), (1, .ref (G.adr 2)), (2, .ref κ.o), (3, .int (nI i))] [] (σ, S) := by
  refine GoL.aload_n 1 dL_664 rfl ?_
  refine GoL.aload_n 0 dL_665 rfl ?_
  refine GoL.iload_n 3 dL_666 rfl ?_
  refine GoL.iconst 1 dL_667 (by decide) ?_
  refine GoL.iadd dL_668 ?_
  refine GoL.arg 1 (by decide) (by omega) hL dL_669 ?_
  refine GoL.callC (rest := []) [.int (xs (i + 1))] dL_670 lk_c18 km_lX11_letters.1 km_lX11_letters.2 rfl hkd (ktX11_letters _ _ _ hc) rfl rfl (Nat.le_of_ble_eq_true rfl) (Nat.le_of_ble_eq_true rfl) trivial (Nat.le_of_ble_eq_true rfl) ?_
  refine GoL.aload_n 2 dL_673 rfl ?_
  refine GoL.aload_n 0 dL_674 rfl ?_
  refine GoL.iload_n 3 dL_675 rfl ?_
  refine GoL.iconst 1 dL_676 (by decide) ?_
  refine GoL.iadd dL_677 ?_
  refine GoL.arg 1 (by decide) (by omega) hL dL_678 ?_
  refine GoL.callM (rest := [.int r]) [.int (xs (i + 1))] dL_679 lk_m18 ci_letters.1 ci_letters.2.1 rfl (fun n => rt_letters _ _ hr) rfl rfl (Nat.le_of_ble_eq_true rfl) (Nat.le_of_ble_eq_true rfl) ⟨rfl, trivial⟩ (Nat.le_of_ble_eq_true rfl) ?_
  exact GoL.icmp_same 1494 dL_682 (by decide) nx
set_option maxRecDepth 20000 in
theorem law_c19 (hi : i + 6 ≤ L) (hL : L ≤ 3072) (hkd : σ.kd 2 = 21) (hc : kX11_apart σ 2 (xs (i + 1)) (xs (i + 2)) = some (r, σ1)) (hr : r_apart S (xs (i + 1)) (xs (i + 2)) = some (r, S1)) (nx : GoL l G κ b L xs R_law code 4 1494 [(0, .ref b), (1, .ref (G.adr 2)), (2, .ref κ.o), (3, .int (nI i))] [] (σ1, S1)) : GoL l G κ b L xs R_law code 4 687 [(0, .ref b), (1, .ref (G.adr 2)), (2, .ref κ.o), (3, .int (nI i))] [] (σ, S) := by
  refine GoL.aload_n 1 dL_687 rfl ?_
  refine GoL.aload_n 0 dL_688 rfl ?_
  refine GoL.iload_n 3 dL_689 rfl ?_
  refine GoL.iconst 1 dL_690 (by decide) ?_
  refine GoL.iadd dL_691 ?_
  refine GoL.arg 1 (by decide) (by omega) hL dL_692 ?_
  refine GoL.aload_n 0 dL_693 rfl ?_
  refine GoL.iload_n 3 dL_694 rfl ?_
  refine GoL.iconst 2 dL_695 (by decide) ?_
  refine GoL.iadd dL_696 ?_
  refine GoL.arg 2 (by decide) (by omega) hL dL_697 ?_
  refine GoL.callC (rest := []) [.int (xs (i + 1)), .int (xs (i + 2))] dL_698 lk_c19 km_lX11_apart.1 km_lX11_apart.2 rfl hkd (ktX11_apart _ _ _ _ hc) rfl rfl (Nat.le_of_ble_eq_true rfl) (Nat.le_of_ble_eq_true rfl) trivial (Nat.le_of_ble_eq_true rfl) ?_
  refine GoL.aload_n 2 dL_701 rfl ?_
  refine GoL.aload_n 0 dL_702 rfl ?_
  refine GoL.iload_n 3 dL_703 rfl ?_
  refine GoL.iconst 1 dL_704 (by decide) ?_
  refine GoL.iadd dL_705 ?_
  refine GoL.arg 1 (by decide) (by omega) hL dL_706 ?_
  refine GoL.aload_n 0 dL_707 rfl ?_
  refine GoL.iload_n 3 dL_708 rfl ?_
  refine GoL.iconst 2 dL_709 (by decide) ?_
  refine GoL.iadd dL_710 ?_
  refine GoL.arg 2 (by decide) (by omega) hL dL_711 ?_
  refine GoL.callM (rest := [.int r]) [.int (xs (i + 1)), .int (xs (i + 2))] dL_712 lk_m19 ci_apart.1 ci_apart.2.1 rfl (fun n => rt_apart _ _ _ hr) rfl rfl (Nat.le_of_ble_eq_true rfl) (Nat.le_of_ble_eq_true rfl) ⟨rfl, trivial⟩ (Nat.le_of_ble_eq_true rfl) ?_
  exact GoL.icmp_same 1494 dL_715 (by decide) nx
set_option maxRecDepth 20000 in
theorem law_c20 (hi : i + 6 ≤ L) (hL : L ≤ 3072) (hkd : σ.kd 2 = 21) (hc : kX11_far σ 2 (xs (i + 1)) (xs (i + 2)) = some r) (hr : r_far S (xs (i + 1)) (xs (i + 2)) = some (r, S1)) (nx : GoL l G κ b L xs R_law code 4 1494 [(0, .ref b), (1, .ref (G.adr 2)), (2, .ref κ.o), (3, .int (nI i))] [] (σ, S1)) : GoL l G κ b L xs R_law code 4 720 [(0, .ref b), (1, .ref (G.adr 2)), (2, .ref κ.o), (3, .int (nI i))] [] (σ, S) := by
  refine GoL.aload_n 1 dL_720 rfl ?_
  refine GoL.aload_n 0 dL_721 rfl ?_
  refine GoL.iload_n 3 dL_722 rfl ?_
  refine GoL.iconst 1 dL_723 (by decide) ?_
  refine GoL.iadd dL_724 ?_
  refine GoL.arg 1 (by decide) (by omega) hL dL_725 ?_
  refine GoL.aload_n 0 dL_726 rfl ?_
  refine GoL.iload_n 3 dL_727 rfl ?_
  refine GoL.iconst 2 dL_728 (by decide) ?_
  refine GoL.iadd dL_729 ?_
  refine GoL.arg 2 (by decide) (by omega) hL dL_730 ?_
  refine GoL.callC (rest := []) [.int (xs (i + 1)), .int (xs (i + 2))] dL_731 lk_c20 km_lX11_far.1 km_lX11_far.2 rfl hkd (ktX11_far _ _ _ _ hc) rfl rfl (Nat.le_of_ble_eq_true rfl) (Nat.le_of_ble_eq_true rfl) trivial (Nat.le_of_ble_eq_true rfl) ?_
  refine GoL.aload_n 2 dL_734 rfl ?_
  refine GoL.aload_n 0 dL_735 rfl ?_
  refine GoL.iload_n 3 dL_736 rfl ?_
  refine GoL.iconst 1 dL_737 (by decide) ?_
  refine GoL.iadd dL_738 ?_
  refine GoL.arg 1 (by decide) (by omega) hL dL_739 ?_
  refine GoL.aload_n 0 dL_740 rfl ?_
  refine GoL.iload_n 3 dL_741 rfl ?_
  refine GoL.iconst 2 dL_742 (by decide) ?_
  refine GoL.iadd dL_743 ?_
  refine GoL.arg 2 (by decide) (by omega) hL dL_744 ?_
  refine GoL.callM (rest := [.int r]) [.int (xs (i + 1)), .int (xs (i + 2))] dL_745 lk_m20 ci_far.1 ci_far.2.1 rfl (fun n => rt_far _ _ _ hr) rfl rfl (Nat.le_of_ble_eq_true rfl) (Nat.le_of_ble_eq_true rfl) ⟨rfl, trivial⟩ (Nat.le_of_ble_eq_true rfl) ?_
  exact GoL.icmp_same 1494 dL_748 (by decide) nx
set_option maxRecDepth 20000 in
theorem law_c21 (hi : i + 6 ≤ L) (hL : L ≤ 3072) (hkd : σ.kd 2 = 21) (hc : kX11_page σ 2 (xs (i + 1)) (xs (i + 2)) = some (r, σ1)) (hr : r_page S (xs (i + 1)) (xs (i + 2)) = some (r, S1)) (nx : GoL l G κ b L xs R_law code 4 1494 [(0, .ref b), (1, .ref (G.adr 2)), (2, .ref κ.o), (3, .int (nI i))] [] (σ1, S1)) : GoL l G κ b L xs R_law code 4 753 [(0, .ref b), (1, .ref (G.adr 2)), (2, .ref κ.o), (3, .int (nI i))] [] (σ, S) := by
  refine GoL.aload_n 1 dL_753 rfl ?_
  refine GoL.aload_n 0 dL_754 rfl ?_
  refine GoL.iload_n 3 dL_755 rfl ?_
  refine GoL.iconst 1 dL_756 (by decide) ?_
  refine GoL.iadd dL_757 ?_
  refine GoL.arg 1 (by decide) (by omega) hL dL_758 ?_
  refine GoL.aload_n 0 dL_759 rfl ?_
  refine GoL.iload_n 3 dL_760 rfl ?_
  refine GoL.iconst 2 dL_761 (by decide) ?_
  refine GoL.iadd dL_762 ?_
  refine GoL.arg 2 (by decide) (by omega) hL dL_763 ?_
  refine GoL.callC (rest := []) [.int (xs (i + 1)), .int (xs (i + 2))] dL_764 lk_c21 km_lX11_page.1 km_lX11_page.2 rfl hkd (ktX11_page _ _ _ _ hc) rfl rfl (Nat.le_of_ble_eq_true rfl) (Nat.le_of_ble_eq_true rfl) trivial (Nat.le_of_ble_eq_true rfl) ?_
  refine GoL.aload_n 2 dL_767 rfl ?_
  refine GoL.aload_n 0 dL_768 rfl ?_
  refine GoL.iload_n 3 dL_769 rfl ?_
  refine GoL.iconst 1 dL_770 (by decide) ?_
  refine GoL.iadd dL_771 ?_
  refine GoL.arg 1 (by decide) (by omega) hL dL_772 ?_
  refine GoL.aload_n 0 dL_773 rfl ?_
  refine GoL.iload_n 3 dL_774 rfl ?_
  refine GoL.iconst 2 dL_775 (by decide) ?_
  refine GoL.iadd dL_776 ?_
  refine GoL.arg 2 (by decide) (by omega) hL dL_777 ?_
  refine GoL.callM (rest := [.int r]) [.int (xs (i + 1)), .int (xs (i + 2))] dL_778 lk_m21 ci_page.1 ci_page.2.1 rfl (fun n => rt_page _ _ _ hr) rfl rfl (Nat.le_of_ble_eq_true rfl) (Nat.le_of_ble_eq_true rfl) ⟨rfl, trivial⟩ (Nat.le_of_ble_eq_true rfl) ?_
  exact GoL.icmp_same 1494 dL_781 (by decide) nx
set_option maxRecDepth 20000 in
theorem law_c22 (hi : i + 6 ≤ L) (hL : L ≤ 3072) (hkd : σ.kd 2 = 21) (hc : kX11_entry σ 2 (xs (i + 1)) (xs (i + 2)) (xs (i + 3)) = some (r, σ1)) (hr : r_entry S (xs (i + 1)) (xs (i + 2)) (xs (i + 3)) = some (r, S1)) (nx : GoL l G κ b L xs R_law code 4 1494 [(0, .ref b), (1, .ref (G.adr 2)), (2, .ref κ.o), (3, .int (nI i))] [] (σ1, S1)) : GoL l G κ b L xs R_law code 4 786 [(0, .ref b), (1, .ref (G.adr 2)), (2, .ref κ.o), (3, .int (nI i))] [] (σ, S) := by
  refine GoL.aload_n 1 dL_786 rfl ?_
  refine GoL.aload_n 0 dL_787 rfl ?_
  refine GoL.iload_n 3 dL_788 rfl ?_
  refine GoL.iconst 1 dL_789 (by decide) ?_
  refine GoL.iadd dL_790 ?_
  refine GoL.arg 1 (by decide) (by omega) hL dL_791 ?_
  refine GoL.aload_n 0 dL_792 rfl ?_
  refine GoL.iload_n 3 dL_793 rfl ?_
  refine GoL.iconst 2 dL_794 (by decide) ?_
  refine GoL.iadd dL_795 ?_
  refine GoL.arg 2 (by decide) (by omega) hL dL_796 ?_
  refine GoL.aload_n 0 dL_797 rfl ?_
  refine GoL.iload_n 3 dL_798 rfl ?_
  refine GoL.iconst 3 dL_799 (by decide) ?_
  refine GoL.iadd dL_800 ?_
  refine GoL.arg 3 (by decide) (by omega) hL dL_801 ?_
  refine GoL.callC (rest := []) [.int (xs (i + 1)), .int (xs (i + 2)), .int (xs (i + 3))] dL_802 lk_c22 km_lX11_entry.1 km_lX11_entry.2 rfl hkd (ktX11_entry _ _ _ _ _ hc) rfl rfl (Nat.le_of_ble_eq_true rfl) (Nat.le_of_ble_eq_true rfl) trivial (Nat.le_of_ble_eq_true rfl) ?_
  refine GoL.aload_n 2 dL_805 rfl ?_
  refine GoL.aload_n 0 dL_806 rfl ?_
  refine GoL.iload_n 3 dL_807 rfl ?_
  refine GoL.iconst 1 dL_808 (by decide) ?_
  refine GoL.iadd dL_809 ?_
  refine GoL.arg 1 (by decide) (by omega) hL dL_810 ?_
  refine GoL.aload_n 0 dL_811 rfl ?_
  refine GoL.iload_n 3 dL_812 rfl ?_
  refine GoL.iconst 2 dL_813 (by decide) ?_
  refine GoL.iadd dL_814 ?_
  refine GoL.arg 2 (by decide) (by omega) hL dL_815 ?_
  refine GoL.aload_n 0 dL_816 rfl ?_
  refine GoL.iload_n 3 dL_817 rfl ?_
  refine GoL.iconst 3 dL_818 (by decide) ?_
  refine GoL.iadd dL_819 ?_
  refine GoL.arg 3 (by decide) (by omega) hL dL_820 ?_
  refine GoL.callM (rest := [.int r]) [.int (xs (i + 1)), .int (xs (i + 2)), .int (xs (i + 3))] dL_821 lk_m22 ci_entry.1 ci_entry.2.1 rfl (fun n => rt_entry _ _ _ _ hr) rfl rfl (Nat.le_of_ble_eq_true rfl) (Nat.le_of_ble_eq_true rfl) ⟨rfl, trivial⟩ (Nat.le_of_ble_eq_true rfl) ?_
  exact GoL.icmp_same 1494 dL_824 (by decide) nx
set_option maxRecDepth 20000 in
theorem law_c23 (hi : i + 6 ≤ L) (hL : L ≤ 3072) (hkd : σ.kd 2 = 21) (hc : kX11_leafOf σ 2 (xs (i + 1)) = some (r, σ1)) (hr : r_leafOf S (xs (i + 1)) = some (r, S1)) (nx : GoL l G κ b L xs R_law code 4 1494 [(0, .ref b), (1, .ref (G.adr 2)), (2, .ref κ.o), (3, .int (nI i))] [] (σ1, S1)) : GoL l G κ b L xs R_law code 4 829 [(0, .ref b), (1, .ref (G.adr 2)), (2, .ref κ.o), (3, .int (nI i))] [] (σ, S) := by
  refine GoL.aload_n 1 dL_829 rfl ?_
  refine GoL.aload_n 0 dL_830 rfl ?_
  refine GoL.iload_n 3 dL_831 rfl ?_
  refine GoL.iconst 1 dL_832 (by decide) ?_
  refine GoL.iadd dL_833 ?_
  refine GoL.arg 1 (by decide) (by omega) hL dL_834 ?_
  refine GoL.callC (rest := []) [.int (xs (i + 1))] dL_835 lk_c23 km_lX11_leafOf.1 km_lX11_leafOf.2 rfl hkd (ktX11_leafOf _ _ _ hc) rfl rfl (Nat.le_of_ble_eq_true rfl) (Nat.le_of_ble_eq_true rfl) trivial (Nat.le_of_ble_eq_true rfl) ?_
  refine GoL.aload_n 2 dL_838 rfl ?_
  refine GoL.aload_n 0 dL_839 rfl ?_
  refine GoL.iload_n 3 dL_840 rfl ?_
  refine GoL.iconst 1 dL_841 (by decide) ?_
  refine GoL.iadd dL_842 ?_
  refine GoL.arg 1 (by decide) (by omega) hL dL_843 ?_
  refine GoL.callM (rest := [.int r]) [.int (xs (i + 1))] dL_844 lk_m23 ci_leafOf.1 ci_leafOf.2.1 rfl (fun n => rt_leafOf _ _ hr) rfl rfl (Nat.le_of_ble_eq_true rfl) (Nat.le_of_ble_eq_true rfl) ⟨rfl, trivial⟩ (Nat.le_of_ble_eq_true rfl) ?_
  exact GoL.icmp_same 1494 dL_847 (by decide) nx
set_option maxRecDepth 20000 in
theorem law_c24 (hi : i + 6 ≤ L) (hL : L ≤ 3072) (hkd : σ.kd 2 = 21) (hc : kX11_within σ 2 (xs (i + 1)) (xs (i + 2)) (xs (i + 3)) = some (r, σ1)) (hr : r_within S (xs (i + 1)) (xs (i + 2)) (xs (i + 3)) = some (r, S1)) (nx : GoL l G κ b L xs R_law code 4 1494 [(0, .ref b), (1, .ref (G.adr 2)), (2, .ref κ.o), (3, .int (nI i))] [] (σ1, S1)) : GoL l G κ b L xs R_law code 4 852 [(0, .ref b), (1, .ref (G.adr 2)), (2, .ref κ.o), (3, .int (nI i))] [] (σ, S) := by
  refine GoL.aload_n 1 dL_852 rfl ?_
  refine GoL.aload_n 0 dL_853 rfl ?_
  refine GoL.iload_n 3 dL_854 rfl ?_
  refine GoL.iconst 1 dL_855 (by decide) ?_
  refine GoL.iadd dL_856 ?_
  refine GoL.arg 1 (by decide) (by omega) hL dL_857 ?_
  refine GoL.aload_n 0 dL_858 rfl ?_
  refine GoL.iload_n 3 dL_859 rfl ?_
  refine GoL.iconst 2 dL_860 (by decide) ?_
  refine GoL.iadd dL_861 ?_
  refine GoL.arg 2 (by decide) (by omega) hL dL_862 ?_
  refine GoL.aload_n 0 dL_863 rfl ?_
  refine GoL.iload_n 3 dL_864 rfl ?_
  refine GoL.iconst 3 dL_865 (by decide) ?_
  refine GoL.iadd dL_866 ?_
  refine GoL.arg 3 (by decide) (by omega) hL dL_867 ?_
  refine GoL.callC (rest := []) [.int (xs (i + 1)), .int (xs (i + 2)), .int (xs (i + 3))] dL_868 lk_c24 km_lX11_within.1 km_lX11_within.2 rfl hkd (ktX11_within _ _ _ _ _ hc) rfl rfl (Nat.le_of_ble_eq_true rfl) (Nat.le_of_ble_eq_true rfl) trivial (Nat.le_of_ble_eq_true rfl) ?_
  refine GoL.aload_n 2 dL_871 rfl ?_
  refine GoL.aload_n 0 dL_872 rfl ?_
  refine GoL.iload_n 3 dL_873 rfl ?_
  refine GoL.iconst 1 dL_874 (by decide) ?_
  refine GoL.iadd dL_875 ?_
  refine GoL.arg 1 (by decide) (by omega) hL dL_876 ?_
  refine GoL.aload_n 0 dL_877 rfl ?_
  refine GoL.iload_n 3 dL_878 rfl ?_
  refine GoL.iconst 2 dL_879 (by decide) ?_
  refine GoL.iadd dL_880 ?_
  refine GoL.arg 2 (by decide) (by omega) hL dL_881 ?_
  refine GoL.aload_n 0 dL_882 rfl ?_
  refine GoL.iload_n 3 dL_883 rfl ?_
  refine GoL.iconst 3 dL_884 (by decide) ?_
  refine GoL.iadd dL_885 ?_
  refine GoL.arg 3 (by decide) (by omega) hL dL_886 ?_
  refine GoL.callM (rest := [.int r]) [.int (xs (i + 1)), .int (xs (i + 2)), .int (xs (i + 3))] dL_887 lk_m24 ci_within.1 ci_within.2.1 rfl (fun n => rt_within _ _ _ _ hr) rfl rfl (Nat.le_of_ble_eq_true rfl) (Nat.le_of_ble_eq_true rfl) ⟨rfl, trivial⟩ (Nat.le_of_ble_eq_true rfl) ?_
  exact GoL.icmp_same 1494 dL_890 (by decide) nx
set_option maxRecDepth 20000 in
theorem law_c25 (hi : i + 6 ≤ L) (hL : L ≤ 3072) (hkd : σ.kd 2 = 21) (hc : kX11_around σ 2 (xs (i + 1)) (xs (i + 2)) (xs (i + 3)) = some (r, σ1)) (hr : r_around S (xs (i + 1)) (xs (i + 2)) (xs (i + 3)) = some (r, S1)) (nx : GoL l G κ b L xs R_law code 4 1494 [(0, .ref b), (1, .ref (G.adr 2)), (2, .ref κ.o), (3, .int (nI i))] [] (σ1, S1)) : GoL l G κ b L xs R_law code 4 895 [(0, .ref b), (1, .ref (G.adr 2)), (2, .ref κ.o), (3, .int (nI i))] [] (σ, S) := by
  refine GoL.aload_n 1 dL_895 rfl ?_
  refine GoL.aload_n 0 dL_896 rfl ?_
  refine GoL.iload_n 3 dL_897 rfl ?_
  refine GoL.iconst 1 dL_898 (by decide) ?_
  refine GoL.iadd dL_899 ?_
  refine GoL.arg 1 (by decide) (by omega) hL dL_900 ?_
  refine GoL.aload_n 0 dL_901 rfl ?_
  refine GoL.iload_n 3 dL_902 rfl ?_
  refine GoL.iconst 2 dL_903 (by decide) ?_
  refine GoL.iadd dL_904 ?_
  refine GoL.arg 2 (by decide) (by omega) hL dL_905 ?_
  refine GoL.aload_n 0 dL_906 rfl ?_
  refine GoL.iload_n 3 dL_907 rfl ?_
  refine GoL.iconst 3 dL_908 (by decide) ?_
  refine GoL.iadd dL_909 ?_
  refine GoL.arg 3 (by decide) (by omega) hL dL_910 ?_
  refine GoL.callC (rest := []) [.int (xs (i + 1)), .int (xs (i + 2)), .int (xs (i + 3))] dL_911 lk_c25 km_lX11_around.1 km_lX11_around.2 rfl hkd (ktX11_around _ _ _ _ _ hc) rfl rfl (Nat.le_of_ble_eq_true rfl) (Nat.le_of_ble_eq_true rfl) trivial (Nat.le_of_ble_eq_true rfl) ?_
  refine GoL.aload_n 2 dL_914 rfl ?_
  refine GoL.aload_n 0 dL_915 rfl ?_
  refine GoL.iload_n 3 dL_916 rfl ?_
  refine GoL.iconst 1 dL_917 (by decide) ?_
  refine GoL.iadd dL_918 ?_
  refine GoL.arg 1 (by decide) (by omega) hL dL_919 ?_
  refine GoL.aload_n 0 dL_920 rfl ?_
  refine GoL.iload_n 3 dL_921 rfl ?_
  refine GoL.iconst 2 dL_922 (by decide) ?_
  refine GoL.iadd dL_923 ?_
  refine GoL.arg 2 (by decide) (by omega) hL dL_924 ?_
  refine GoL.aload_n 0 dL_925 rfl ?_
  refine GoL.iload_n 3 dL_926 rfl ?_
  refine GoL.iconst 3 dL_927 (by decide) ?_
  refine GoL.iadd dL_928 ?_
  refine GoL.arg 3 (by decide) (by omega) hL dL_929 ?_
  refine GoL.callM (rest := [.int r]) [.int (xs (i + 1)), .int (xs (i + 2)), .int (xs (i + 3))] dL_930 lk_m25 ci_around.1 ci_around.2.1 rfl (fun n => rt_around _ _ _ _ hr) rfl rfl (Nat.le_of_ble_eq_true rfl) (Nat.le_of_ble_eq_true rfl) ⟨rfl, trivial⟩ (Nat.le_of_ble_eq_true rfl) ?_
  exact GoL.icmp_same 1494 dL_933 (by decide) nx
set_option maxRecDepth 20000 in
theorem law_c26 (hi : i + 6 ≤ L) (hL : L ≤ 3072) (hkd : σ.kd 2 = 21) (hc : kX11_near σ 2 (xs (i + 1)) (xs (i + 2)) (xs (i + 3)) = some (r, σ1)) (hr : r_near S (xs (i + 1)) (xs (i + 2)) (xs (i + 3)) = some (r, S1)) (nx : GoL l G κ b L xs R_law code 4 1494 [(0, .ref b), (1, .ref (G.adr 2)), (2, .ref κ.o), (3, .int (nI i))] [] (σ1, S1)) : GoL l G κ b L xs R_law code 4 938 [(0, .ref b), (1, .ref (G.adr 2)), (2, .ref κ.o), (3, .int (nI i))] [] (σ, S) := by
  refine GoL.aload_n 1 dL_938 rfl ?_
  refine GoL.aload_n 0 dL_939 rfl ?_
  refine GoL.iload_n 3 dL_940 rfl ?_
  refine GoL.iconst 1 dL_941 (by decide) ?_
  refine GoL.iadd dL_942 ?_
  refine GoL.arg 1 (by decide) (by omega) hL dL_943 ?_
  refine GoL.aload_n 0 dL_944 rfl ?_
  refine GoL.iload_n 3 dL_945 rfl ?_
  refine GoL.iconst 2 dL_946 (by decide) ?_
  refine GoL.iadd dL_947 ?_
  refine GoL.arg 2 (by decide) (by omega) hL dL_948 ?_
  refine GoL.aload_n 0 dL_949 rfl ?_
  refine GoL.iload_n 3 dL_950 rfl ?_
  refine GoL.iconst 3 dL_951 (by decide) ?_
  refine GoL.iadd dL_952 ?_
  refine GoL.arg 3 (by decide) (by omega) hL dL_953 ?_
  refine GoL.callC (rest := []) [.int (xs (i + 1)), .int (xs (i + 2)), .int (xs (i + 3))] dL_954 lk_c26 km_lX11_near.1 km_lX11_near.2 rfl hkd (ktX11_near _ _ _ _ _ hc) rfl rfl (Nat.le_of_ble_eq_true rfl) (Nat.le_of_ble_eq_true rfl) trivial (Nat.le_of_ble_eq_true rfl) ?_
  refine GoL.aload_n 2 dL_957 rfl ?_
  refine GoL.aload_n 0 dL_958 rfl ?_
  refine GoL.iload_n 3 dL_959 rfl ?_
  refine GoL.iconst 1 dL_960 (by decide) ?_
  refine GoL.iadd dL_961 ?_
  refine GoL.arg 1 (by decide) (by omega) hL dL_962 ?_
  refine GoL.aload_n 0 dL_963 rfl ?_
  refine GoL.iload_n 3 dL_964 rfl ?_
  refine GoL.iconst 2 dL_965 (by decide) ?_
  refine GoL.iadd dL_966 ?_
  refine GoL.arg 2 (by decide) (by omega) hL dL_967 ?_
  refine GoL.aload_n 0 dL_968 rfl ?_
  refine GoL.iload_n 3 dL_969 rfl ?_
  refine GoL.iconst 3 dL_970 (by decide) ?_
  refine GoL.iadd dL_971 ?_
  refine GoL.arg 3 (by decide) (by omega) hL dL_972 ?_
  refine GoL.callM (rest := [.int r]) [.int (xs (i + 1)), .int (xs (i + 2)), .int (xs (i + 3))] dL_973 lk_m26 ci_near.1 ci_near.2.1 rfl (fun n => rt_near _ _ _ _ hr) rfl rfl (Nat.le_of_ble_eq_true rfl) (Nat.le_of_ble_eq_true rfl) ⟨rfl, trivial⟩ (Nat.le_of_ble_eq_true rfl) ?_
  exact GoL.icmp_same 1494 dL_976 (by decide) nx
set_option maxRecDepth 20000 in
theorem law_c27 (hi : i + 6 ≤ L) (hL : L ≤ 3072) (hkd : σ.kd 2 = 21) (hc : kX11_beside σ 2 (xs (i + 1)) (xs (i + 2)) (xs (i + 3)) = some (r, σ1)) (hr : r_beside S (xs (i + 1)) (xs (i + 2)) (xs (i + 3)) = some (r, S1)) (nx : GoL l G κ b L xs R_law code 4 1494 [(0, .ref b), (1, .ref (G.adr 2)), (2, .ref κ.o), (3, .int (nI i))] [] (σ1, S1)) : GoL l G κ b L xs R_law code 4 981 [(0, .ref b), (1, .ref (G.adr 2)), (2, .ref κ.o), (3, .int (nI i))] [] (σ, S) := by
  refine GoL.aload_n 1 dL_981 rfl ?_
  refine GoL.aload_n 0 dL_982 rfl ?_
  refine GoL.iload_n 3 dL_983 rfl ?_
  refine GoL.iconst 1 dL_984 (by decide) ?_
  refine GoL.iadd dL_985 ?_
  refine GoL.arg 1 (by decide) (by omega) hL dL_986 ?_
  refine GoL.aload_n 0 dL_987 rfl ?_
  refine GoL.iload_n 3 dL_988 rfl ?_
  refine GoL.iconst 2 dL_989 (by decide) ?_
  refine GoL.iadd dL_990 ?_
  refine GoL.arg 2 (by decide) (by omega) hL dL_991 ?_
  refine GoL.aload_n 0 dL_992 rfl ?_
  refine GoL.iload_n 3 dL_993 rfl ?_
  refine GoL.iconst 3 dL_994 (by decide) ?_
  refine GoL.iadd dL_995 ?_
  refine GoL.arg 3 (by decide) (by omega) hL dL_996 ?_
  refine GoL.callC (rest := []) [.int (xs (i + 1)), .int (xs (i + 2)), .int (xs (i + 3))] dL_997 lk_c27 km_lX11_beside.1 km_lX11_beside.2 rfl hkd (ktX11_beside _ _ _ _ _ hc) rfl rfl (Nat.le_of_ble_eq_true rfl) (Nat.le_of_ble_eq_true rfl) trivial (Nat.le_of_ble_eq_true rfl) ?_
  refine GoL.aload_n 2 dL_1000 rfl ?_
  refine GoL.aload_n 0 dL_1001 rfl ?_
  refine GoL.iload_n 3 dL_1002 rfl ?_
  refine GoL.iconst 1 dL_1003 (by decide) ?_
  refine GoL.iadd dL_1004 ?_
  refine GoL.arg 1 (by decide) (by omega) hL dL_1005 ?_
  refine GoL.aload_n 0 dL_1006 rfl ?_
  refine GoL.iload_n 3 dL_1007 rfl ?_
  refine GoL.iconst 2 dL_1008 (by decide) ?_
  refine GoL.iadd dL_1009 ?_
  refine GoL.arg 2 (by decide) (by omega) hL dL_1010 ?_
  refine GoL.aload_n 0 dL_1011 rfl ?_
  refine GoL.iload_n 3 dL_1012 rfl ?_
  refine GoL.iconst 3 dL_1013 (by decide) ?_
  refine GoL.iadd dL_1014 ?_
  refine GoL.arg 3 (by decide) (by omega) hL dL_1015 ?_
  refine GoL.callM (rest := [.int r]) [.int (xs (i + 1)), .int (xs (i + 2)), .int (xs (i + 3))] dL_1016 lk_m27 ci_beside.1 ci_beside.2.1 rfl (fun n => rt_beside _ _ _ _ hr) rfl rfl (Nat.le_of_ble_eq_true rfl) (Nat.le_of_ble_eq_true rfl) ⟨rfl, trivial⟩ (Nat.le_of_ble_eq_true rfl) ?_
  exact GoL.icmp_same 1494 dL_1019 (by decide) nx
set_option maxRecDepth 20000 in
theorem law_c28 (hi : i + 6 ≤ L) (hL : L ≤ 3072) (hkd : σ.kd 2 = 21) (hc : kX11_farthest σ 2 (xs (i + 1)) (xs (i + 2)) (xs (i + 3)) = some (r, σ1)) (hr : r_farthest S (xs (i + 1)) (xs (i + 2)) (xs (i + 3)) = some (r, S1)) (nx : GoL l G κ b L xs R_law code 4 1494 [(0, .ref b), (1, .ref (G.adr 2)), (2, .ref κ.o), (3, .int (nI i))] [] (σ1, S1)) : GoL l G κ b L xs R_law code 4 1024 [(0, .ref b), (1, .ref (G.adr 2)), (2, .ref κ.o), (3, .int (nI i))] [] (σ, S) := by
  refine GoL.aload_n 1 dL_1024 rfl ?_
  refine GoL.aload_n 0 dL_1025 rfl ?_
  refine GoL.iload_n 3 dL_1026 rfl ?_
  refine GoL.iconst 1 dL_1027 (by decide) ?_
  refine GoL.iadd dL_1028 ?_
  refine GoL.arg 1 (by decide) (by omega) hL dL_1029 ?_
  refine GoL.aload_n 0 dL_1030 rfl ?_
  refine GoL.iload_n 3 dL_1031 rfl ?_
  refine GoL.iconst 2 dL_1032 (by decide) ?_
  refine GoL.iadd dL_1033 ?_
  refine GoL.arg 2 (by decide) (by omega) hL dL_1034 ?_
  refine GoL.aload_n 0 dL_1035 rfl ?_
  refine GoL.iload_n 3 dL_1036 rfl ?_
  refine GoL.iconst 3 dL_1037 (by decide) ?_
  refine GoL.iadd dL_1038 ?_
  refine GoL.arg 3 (by decide) (by omega) hL dL_1039 ?_
  refine GoL.callC (rest := []) [.int (xs (i + 1)), .int (xs (i + 2)), .int (xs (i + 3))] dL_1040 lk_c28 km_lX11_farthest.1 km_lX11_farthest.2 rfl hkd (ktX11_farthest _ _ _ _ _ hc) rfl rfl (Nat.le_of_ble_eq_true rfl) (Nat.le_of_ble_eq_true rfl) trivial (Nat.le_of_ble_eq_true rfl) ?_
  refine GoL.aload_n 2 dL_1043 rfl ?_
  refine GoL.aload_n 0 dL_1044 rfl ?_
  refine GoL.iload_n 3 dL_1045 rfl ?_
  refine GoL.iconst 1 dL_1046 (by decide) ?_
  refine GoL.iadd dL_1047 ?_
  refine GoL.arg 1 (by decide) (by omega) hL dL_1048 ?_
  refine GoL.aload_n 0 dL_1049 rfl ?_
  refine GoL.iload_n 3 dL_1050 rfl ?_
  refine GoL.iconst 2 dL_1051 (by decide) ?_
  refine GoL.iadd dL_1052 ?_
  refine GoL.arg 2 (by decide) (by omega) hL dL_1053 ?_
  refine GoL.aload_n 0 dL_1054 rfl ?_
  refine GoL.iload_n 3 dL_1055 rfl ?_
  refine GoL.iconst 3 dL_1056 (by decide) ?_
  refine GoL.iadd dL_1057 ?_
  refine GoL.arg 3 (by decide) (by omega) hL dL_1058 ?_
  refine GoL.callM (rest := [.int r]) [.int (xs (i + 1)), .int (xs (i + 2)), .int (xs (i + 3))] dL_1059 lk_m28 ci_farthest.1 ci_farthest.2.1 rfl (fun n => rt_farthest _ _ _ _ hr) rfl rfl (Nat.le_of_ble_eq_true rfl) (Nat.le_of_ble_eq_true rfl) ⟨rfl, trivial⟩ (Nat.le_of_ble_eq_true rfl) ?_
  exact GoL.icmp_same 1494 dL_1062 (by decide) nx
set_option maxRecDepth 20000 in
theorem law_c29 (hi : i + 6 ≤ L) (hL : L ≤ 3072) (hkd : σ.kd 2 = 21) (hc : kX11_cost σ 2 (xs (i + 1)) = some r) (hr : r_cost S (xs (i + 1)) = some r) (nx : GoL l G κ b L xs R_law code 4 1494 [(0, .ref b), (1, .ref (G.adr 2)), (2, .ref κ.o), (3, .int (nI i))] [] (σ, S)) : GoL l G κ b L xs R_law code 4 1067 [(0, .ref b), (1, .ref (G.adr 2)), (2, .ref κ.o), (3, .int (nI i))] [] (σ, S) := by
  refine GoL.aload_n 1 dL_1067 rfl ?_
  refine GoL.aload_n 0 dL_1068 rfl ?_
  refine GoL.iload_n 3 dL_1069 rfl ?_
  refine GoL.iconst 1 dL_1070 (by decide) ?_
  refine GoL.iadd dL_1071 ?_
  refine GoL.arg 1 (by decide) (by omega) hL dL_1072 ?_
  refine GoL.callC (rest := []) [.int (xs (i + 1))] dL_1073 lk_c29 km_lX11_cost.1 km_lX11_cost.2 rfl hkd (ktX11_cost _ _ _ hc) rfl rfl (Nat.le_of_ble_eq_true rfl) (Nat.le_of_ble_eq_true rfl) trivial (Nat.le_of_ble_eq_true rfl) ?_
  refine GoL.aload_n 2 dL_1076 rfl ?_
  refine GoL.aload_n 0 dL_1077 rfl ?_
  refine GoL.iload_n 3 dL_1078 rfl ?_
  refine GoL.iconst 1 dL_1079 (by decide) ?_
  refine GoL.iadd dL_1080 ?_
  refine GoL.arg 1 (by decide) (by omega) hL dL_1081 ?_
  refine GoL.callM (rest := [.int r]) [.int (xs (i + 1))] dL_1082 lk_m29 ci_cost.1 ci_cost.2.1 rfl (fun n => rt_cost _ _ hr) rfl rfl (Nat.le_of_ble_eq_true rfl) (Nat.le_of_ble_eq_true rfl) ⟨rfl, trivial⟩ (Nat.le_of_ble_eq_true rfl) ?_
  exact GoL.icmp_same 1494 dL_1085 (by decide) nx
set_option maxRecDepth 20000 in
theorem law_c30 (hi : i + 6 ≤ L) (hL : L ≤ 3072) (hkd : σ.kd 2 = 21) (hc : kX11_scan σ 2 (xs (i + 1)) (xs (i + 2)) = some (r, σ1)) (hr : r_scan S (xs (i + 1)) (xs (i + 2)) = some (r, S1)) (nx : GoL l G κ b L xs R_law code 4 1494 [(0, .ref b), (1, .ref (G.adr 2)), (2, .ref κ.o), (3, .int (nI i))] [] (σ1, S1)) : GoL l G κ b L xs R_law code 4 1090 [(0, .ref b), (1, .ref (G.adr 2)), (2, .ref κ.o), (3, .int (nI i))] [] (σ, S) := by
  refine GoL.aload_n 1 dL_1090 rfl ?_
  refine GoL.aload_n 0 dL_1091 rfl ?_
  refine GoL.iload_n 3 dL_1092 rfl ?_
  refine GoL.iconst 1 dL_1093 (by decide) ?_
  refine GoL.iadd dL_1094 ?_
  refine GoL.arg 1 (by decide) (by omega) hL dL_1095 ?_
  refine GoL.aload_n 0 dL_1096 rfl ?_
  refine GoL.iload_n 3 dL_1097 rfl ?_
  refine GoL.iconst 2 dL_1098 (by decide) ?_
  refine GoL.iadd dL_1099 ?_
  refine GoL.arg 2 (by decide) (by omega) hL dL_1100 ?_
  refine GoL.callC (rest := []) [.int (xs (i + 1)), .int (xs (i + 2))] dL_1101 lk_c30 km_lX11_scan.1 km_lX11_scan.2 rfl hkd (ktX11_scan _ _ _ _ hc) rfl rfl (Nat.le_of_ble_eq_true rfl) (Nat.le_of_ble_eq_true rfl) trivial (Nat.le_of_ble_eq_true rfl) ?_
  refine GoL.aload_n 2 dL_1104 rfl ?_
  refine GoL.aload_n 0 dL_1105 rfl ?_
  refine GoL.iload_n 3 dL_1106 rfl ?_
  refine GoL.iconst 1 dL_1107 (by decide) ?_
  refine GoL.iadd dL_1108 ?_
  refine GoL.arg 1 (by decide) (by omega) hL dL_1109 ?_
  refine GoL.aload_n 0 dL_1110 rfl ?_
  refine GoL.iload_n 3 dL_1111 rfl ?_
  refine GoL.iconst 2 dL_1112 (by decide) ?_
  refine GoL.iadd dL_1113 ?_
  refine GoL.arg 2 (by decide) (by omega) hL dL_1114 ?_
  refine GoL.callM (rest := [.int r]) [.int (xs (i + 1)), .int (xs (i + 2))] dL_1115 lk_m30 ci_scan.1 ci_scan.2.1 rfl (fun n => rt_scan _ _ _ hr) rfl rfl (Nat.le_of_ble_eq_true rfl) (Nat.le_of_ble_eq_true rfl) ⟨rfl, trivial⟩ (Nat.le_of_ble_eq_true rfl) ?_
  exact GoL.icmp_same 1494 dL_1118 (by decide) nx
set_option maxRecDepth 20000 in
theorem law_c31 (hi : i + 6 ≤ L) (hL : L ≤ 3072) (hkd : σ.kd 2 = 21) (hc : kX11_broken σ 2 (xs (i + 1)) = some (r, σ1)) (hr : r_broken S (xs (i + 1)) = some (r, S1)) (nx : GoL l G κ b L xs R_law code 4 1494 [(0, .ref b), (1, .ref (G.adr 2)), (2, .ref κ.o), (3, .int (nI i))] [] (σ1, S1)) : GoL l G κ b L xs R_law code 4 1123 [(0, .ref b), (1, .ref (G.adr 2)), (2, .ref κ.o), (3, .int (nI i))] [] (σ, S) := by
  refine GoL.aload_n 1 dL_1123 rfl ?_
  refine GoL.aload_n 0 dL_1124 rfl ?_
  refine GoL.iload_n 3 dL_1125 rfl ?_
  refine GoL.iconst 1 dL_1126 (by decide) ?_
  refine GoL.iadd dL_1127 ?_
  refine GoL.arg 1 (by decide) (by omega) hL dL_1128 ?_
  refine GoL.callC (rest := []) [.int (xs (i + 1))] dL_1129 lk_c31 km_lX11_broken.1 km_lX11_broken.2 rfl hkd (ktX11_broken _ _ _ hc) rfl rfl (Nat.le_of_ble_eq_true rfl) (Nat.le_of_ble_eq_true rfl) trivial (Nat.le_of_ble_eq_true rfl) ?_
  refine GoL.aload_n 2 dL_1132 rfl ?_
  refine GoL.aload_n 0 dL_1133 rfl ?_
  refine GoL.iload_n 3 dL_1134 rfl ?_
  refine GoL.iconst 1 dL_1135 (by decide) ?_
  refine GoL.iadd dL_1136 ?_
  refine GoL.arg 1 (by decide) (by omega) hL dL_1137 ?_
  refine GoL.callM (rest := [.int r]) [.int (xs (i + 1))] dL_1138 lk_m31 ci_broken.1 ci_broken.2.1 rfl (fun n => rt_broken _ _ hr) rfl rfl (Nat.le_of_ble_eq_true rfl) (Nat.le_of_ble_eq_true rfl) ⟨rfl, trivial⟩ (Nat.le_of_ble_eq_true rfl) ?_
  exact GoL.icmp_same 1494 dL_1141 (by decide) nx
set_option maxRecDepth 20000 in
theorem law_c32 (hi : i + 6 ≤ L) (hL : L ≤ 3072) (hkd : σ.kd 2 = 21) (hc : kX11_breaks σ 2 (xs (i + 1)) (xs (i + 2)) = some (r, σ1)) (hr : r_breaks S (xs (i + 1)) (xs (i + 2)) = some (r, S1)) (nx : GoL l G κ b L xs R_law code 4 1494 [(0, .ref b), (1, .ref (G.adr 2)), (2, .ref κ.o), (3, .int (nI i))] [] (σ1, S1)) : GoL l G κ b L xs R_law code 4 1146 [(0, .ref b), (1, .ref (G.adr 2)), (2, .ref κ.o), (3, .int (nI i))] [] (σ, S) := by
  refine GoL.aload_n 1 dL_1146 rfl ?_
  refine GoL.aload_n 0 dL_1147 rfl ?_
  refine GoL.iload_n 3 dL_1148 rfl ?_
  refine GoL.iconst 1 dL_1149 (by decide) ?_
  refine GoL.iadd dL_1150 ?_
  refine GoL.arg 1 (by decide) (by omega) hL dL_1151 ?_
  refine GoL.aload_n 0 dL_1152 rfl ?_
  refine GoL.iload_n 3 dL_1153 rfl ?_
  refine GoL.iconst 2 dL_1154 (by decide) ?_
  refine GoL.iadd dL_1155 ?_
  refine GoL.arg 2 (by decide) (by omega) hL dL_1156 ?_
  refine GoL.callC (rest := []) [.int (xs (i + 1)), .int (xs (i + 2))] dL_1157 lk_c32 km_lX11_breaks.1 km_lX11_breaks.2 rfl hkd (ktX11_breaks _ _ _ _ hc) rfl rfl (Nat.le_of_ble_eq_true rfl) (Nat.le_of_ble_eq_true rfl) trivial (Nat.le_of_ble_eq_true rfl) ?_
  refine GoL.aload_n 2 dL_1160 rfl ?_
  refine GoL.aload_n 0 dL_1161 rfl ?_
  refine GoL.iload_n 3 dL_1162 rfl ?_
  refine GoL.iconst 1 dL_1163 (by decide) ?_
  refine GoL.iadd dL_1164 ?_
  refine GoL.arg 1 (by decide) (by omega) hL dL_1165 ?_
  refine GoL.aload_n 0 dL_1166 rfl ?_
  refine GoL.iload_n 3 dL_1167 rfl ?_
  refine GoL.iconst 2 dL_1168 (by decide) ?_
  refine GoL.iadd dL_1169 ?_
  refine GoL.arg 2 (by decide) (by omega) hL dL_1170 ?_
  refine GoL.callM (rest := [.int r]) [.int (xs (i + 1)), .int (xs (i + 2))] dL_1171 lk_m32 ci_breaks.1 ci_breaks.2.1 rfl (fun n => rt_breaks _ _ _ hr) rfl rfl (Nat.le_of_ble_eq_true rfl) (Nat.le_of_ble_eq_true rfl) ⟨rfl, trivial⟩ (Nat.le_of_ble_eq_true rfl) ?_
  exact GoL.icmp_same 1494 dL_1174 (by decide) nx
set_option maxRecDepth 20000 in
theorem law_c33 (hi : i + 6 ≤ L) (hL : L ≤ 3072) (hkd : σ.kd 2 = 21) (hc : kX11_covers σ 2  = some (r, σ1)) (hr : r_covers S  = some (r, S1)) (nx : GoL l G κ b L xs R_law code 4 1494 [(0, .ref b), (1, .ref (G.adr 2)), (2, .ref κ.o), (3, .int (nI i))] [] (σ1, S1)) : GoL l G κ b L xs R_law code 4 1179 [(0, .ref b), (1, .ref (G.adr 2)), (2, .ref κ.o), (3, .int (nI i))] [] (σ, S) := by
  refine GoL.aload_n 1 dL_1179 rfl ?_
  refine GoL.callC (rest := []) [] dL_1180 lk_c33 km_lX11_covers.1 km_lX11_covers.2 rfl hkd (ktX11_covers _  _ hc) rfl rfl (Nat.le_of_ble_eq_true rfl) (Nat.le_of_ble_eq_true rfl) trivial (Nat.le_of_ble_eq_true rfl) ?_
  refine GoL.aload_n 2 dL_1183 rfl ?_
  refine GoL.callM (rest := [.int r]) [] dL_1184 lk_m33 ci_covers.1 ci_covers.2.1 rfl (fun n => rt_covers  _ hr) rfl rfl (Nat.le_of_ble_eq_true rfl) (Nat.le_of_ble_eq_true rfl) ⟨rfl, trivial⟩ (Nat.le_of_ble_eq_true rfl) ?_
  exact GoL.icmp_same 1494 dL_1187 (by decide) nx
set_option maxRecDepth 20000 in
theorem law_c34 (hi : i + 6 ≤ L) (hL : L ≤ 3072) (hkd : σ.kd 2 = 21) (hc : kX11_pair σ 2 (xs (i + 1)) = some r) (hr : r_pair S (xs (i + 1)) = some (r, S1)) (nx : GoL l G κ b L xs R_law code 4 1494 [(0, .ref b), (1, .ref (G.adr 2)), (2, .ref κ.o), (3, .int (nI i))] [] (σ, S1)) : GoL l G κ b L xs R_law code 4 1192 [(0, .ref b), (1, .ref (G.adr 2)), (2, .ref κ.o), (3, .int (nI i))] [] (σ, S) := by
  refine GoL.aload_n 1 dL_1192 rfl ?_
  refine GoL.aload_n 0 dL_1193 rfl ?_
  refine GoL.iload_n 3 dL_1194 rfl ?_
  refine GoL.iconst 1 dL_1195 (by decide) ?_
  refine GoL.iadd dL_1196 ?_
  refine GoL.arg 1 (by decide) (by omega) hL dL_1197 ?_
  refine GoL.callC (rest := []) [.int (xs (i + 1))] dL_1198 lk_c34 km_lX11_pair.1 km_lX11_pair.2 rfl hkd (ktX11_pair _ _ _ hc) rfl rfl (Nat.le_of_ble_eq_true rfl) (Nat.le_of_ble_eq_true rfl) trivial (Nat.le_of_ble_eq_true rfl) ?_
  refine GoL.aload_n 2 dL_1201 rfl ?_
  refine GoL.aload_n 0 dL_1202 rfl ?_
  refine GoL.iload_n 3 dL_1203 rfl ?_
  refine GoL.iconst 1 dL_1204 (by decide) ?_
  refine GoL.iadd dL_1205 ?_
  refine GoL.arg 1 (by decide) (by omega) hL dL_1206 ?_
  refine GoL.callM (rest := [.int r]) [.int (xs (i + 1))] dL_1207 lk_m34 ci_pair.1 ci_pair.2.1 rfl (fun n => rt_pair _ _ hr) rfl rfl (Nat.le_of_ble_eq_true rfl) (Nat.le_of_ble_eq_true rfl) ⟨rfl, trivial⟩ (Nat.le_of_ble_eq_true rfl) ?_
  exact GoL.icmp_same 1494 dL_1210 (by decide) nx
set_option maxRecDepth 20000 in
theorem law_c35 (hi : i + 6 ≤ L) (hL : L ≤ 3072) (hkd : σ.kd 2 = 21) (hc : kX11_couple σ 2 (xs (i + 1)) (xs (i + 2)) = some r) (hr : r_couple S (xs (i + 1)) (xs (i + 2)) = some (r, S1)) (nx : GoL l G κ b L xs R_law code 4 1494 [(0, .ref b), (1, .ref (G.adr 2)), (2, .ref κ.o), (3, .int (nI i))] [] (σ, S1)) : GoL l G κ b L xs R_law code 4 1215 [(0, .ref b), (1, .ref (G.adr 2)), (2, .ref κ.o), (3, .int (nI i))] [] (σ, S) := by
  refine GoL.aload_n 1 dL_1215 rfl ?_
  refine GoL.aload_n 0 dL_1216 rfl ?_
  refine GoL.iload_n 3 dL_1217 rfl ?_
  refine GoL.iconst 1 dL_1218 (by decide) ?_
  refine GoL.iadd dL_1219 ?_
  refine GoL.arg 1 (by decide) (by omega) hL dL_1220 ?_
  refine GoL.aload_n 0 dL_1221 rfl ?_
  refine GoL.iload_n 3 dL_1222 rfl ?_
  refine GoL.iconst 2 dL_1223 (by decide) ?_
  refine GoL.iadd dL_1224 ?_
  refine GoL.arg 2 (by decide) (by omega) hL dL_1225 ?_
  refine GoL.callC (rest := []) [.int (xs (i + 1)), .int (xs (i + 2))] dL_1226 lk_c35 km_lX11_couple.1 km_lX11_couple.2 rfl hkd (ktX11_couple _ _ _ _ hc) rfl rfl (Nat.le_of_ble_eq_true rfl) (Nat.le_of_ble_eq_true rfl) trivial (Nat.le_of_ble_eq_true rfl) ?_
  refine GoL.aload_n 2 dL_1229 rfl ?_
  refine GoL.aload_n 0 dL_1230 rfl ?_
  refine GoL.iload_n 3 dL_1231 rfl ?_
  refine GoL.iconst 1 dL_1232 (by decide) ?_
  refine GoL.iadd dL_1233 ?_
  refine GoL.arg 1 (by decide) (by omega) hL dL_1234 ?_
  refine GoL.aload_n 0 dL_1235 rfl ?_
  refine GoL.iload_n 3 dL_1236 rfl ?_
  refine GoL.iconst 2 dL_1237 (by decide) ?_
  refine GoL.iadd dL_1238 ?_
  refine GoL.arg 2 (by decide) (by omega) hL dL_1239 ?_
  refine GoL.callM (rest := [.int r]) [.int (xs (i + 1)), .int (xs (i + 2))] dL_1240 lk_m35 ci_couple.1 ci_couple.2.1 rfl (fun n => rt_couple _ _ _ hr) rfl rfl (Nat.le_of_ble_eq_true rfl) (Nat.le_of_ble_eq_true rfl) ⟨rfl, trivial⟩ (Nat.le_of_ble_eq_true rfl) ?_
  exact GoL.icmp_same 1494 dL_1243 (by decide) nx
set_option maxRecDepth 20000 in
theorem law_c36 (hi : i + 6 ≤ L) (hL : L ≤ 3072) (hkd : σ.kd 2 = 21) (hc : kX11_spaced σ 2 (xs (i + 1)) = some r) (hr : r_spaced S (xs (i + 1)) = some (r, S1)) (nx : GoL l G κ b L xs R_law code 4 1494 [(0, .ref b), (1, .ref (G.adr 2)), (2, .ref κ.o), (3, .int (nI i))] [] (σ, S1)) : GoL l G κ b L xs R_law code 4 1248 [(0, .ref b), (1, .ref (G.adr 2)), (2, .ref κ.o), (3, .int (nI i))] [] (σ, S) := by
  refine GoL.aload_n 1 dL_1248 rfl ?_
  refine GoL.aload_n 0 dL_1249 rfl ?_
  refine GoL.iload_n 3 dL_1250 rfl ?_
  refine GoL.iconst 1 dL_1251 (by decide) ?_
  refine GoL.iadd dL_1252 ?_
  refine GoL.arg 1 (by decide) (by omega) hL dL_1253 ?_
  refine GoL.callC (rest := []) [.int (xs (i + 1))] dL_1254 lk_c36 km_lX11_spaced.1 km_lX11_spaced.2 rfl hkd (ktX11_spaced _ _ _ hc) rfl rfl (Nat.le_of_ble_eq_true rfl) (Nat.le_of_ble_eq_true rfl) trivial (Nat.le_of_ble_eq_true rfl) ?_
  refine GoL.aload_n 2 dL_1257 rfl ?_
  refine GoL.aload_n 0 dL_1258 rfl ?_
  refine GoL.iload_n 3 dL_1259 rfl ?_
  refine GoL.iconst 1 dL_1260 (by decide) ?_
  refine GoL.iadd dL_1261 ?_
  refine GoL.arg 1 (by decide) (by omega) hL dL_1262 ?_
  refine GoL.callM (rest := [.int r]) [.int (xs (i + 1))] dL_1263 lk_m36 ci_spaced.1 ci_spaced.2.1 rfl (fun n => rt_spaced _ _ hr) rfl rfl (Nat.le_of_ble_eq_true rfl) (Nat.le_of_ble_eq_true rfl) ⟨rfl, trivial⟩ (Nat.le_of_ble_eq_true rfl) ?_
  exact GoL.icmp_same 1494 dL_1266 (by decide) nx
set_option maxRecDepth 20000 in
theorem law_c37 (hi : i + 6 ≤ L) (hL : L ≤ 3072) (hkd : σ.kd 2 = 21) (hc : kX11_lonely σ 2  = some r) (hr : r_lonely S  = some (r, S1)) (nx : GoL l G κ b L xs R_law code 4 1494 [(0, .ref b), (1, .ref (G.adr 2)), (2, .ref κ.o), (3, .int (nI i))] [] (σ, S1)) : GoL l G κ b L xs R_law code 4 1271 [(0, .ref b), (1, .ref (G.adr 2)), (2, .ref κ.o), (3, .int (nI i))] [] (σ, S) := by
  refine GoL.aload_n 1 dL_1271 rfl ?_
  refine GoL.callC (rest := []) [] dL_1272 lk_c37 km_lX11_lonely.1 km_lX11_lonely.2 rfl hkd (ktX11_lonely _  _ hc) rfl rfl (Nat.le_of_ble_eq_true rfl) (Nat.le_of_ble_eq_true rfl) trivial (Nat.le_of_ble_eq_true rfl) ?_
  refine GoL.aload_n 2 dL_1275 rfl ?_
  refine GoL.callM (rest := [.int r]) [] dL_1276 lk_m37 ci_lonely.1 ci_lonely.2.1 rfl (fun n => rt_lonely  _ hr) rfl rfl (Nat.le_of_ble_eq_true rfl) (Nat.le_of_ble_eq_true rfl) ⟨rfl, trivial⟩ (Nat.le_of_ble_eq_true rfl) ?_
  exact GoL.icmp_same 1494 dL_1279 (by decide) nx
set_option maxRecDepth 20000 in
theorem law_c38 (hi : i + 6 ≤ L) (hL : L ≤ 3072) (hkd : σ.kd 2 = 21) (hc : kX11_pivot σ 2 (xs (i + 1)) = some (r, σ1)) (hr : r_pivot S (xs (i + 1)) = some (r, S1)) (nx : GoL l G κ b L xs R_law code 4 1494 [(0, .ref b), (1, .ref (G.adr 2)), (2, .ref κ.o), (3, .int (nI i))] [] (σ1, S1)) : GoL l G κ b L xs R_law code 4 1284 [(0, .ref b), (1, .ref (G.adr 2)), (2, .ref κ.o), (3, .int (nI i))] [] (σ, S) := by
  refine GoL.aload_n 1 dL_1284 rfl ?_
  refine GoL.aload_n 0 dL_1285 rfl ?_
  refine GoL.iload_n 3 dL_1286 rfl ?_
  refine GoL.iconst 1 dL_1287 (by decide) ?_
  refine GoL.iadd dL_1288 ?_
  refine GoL.arg 1 (by decide) (by omega) hL dL_1289 ?_
  refine GoL.callC (rest := []) [.int (xs (i + 1))] dL_1290 lk_c38 km_lX11_pivot.1 km_lX11_pivot.2 rfl hkd (ktX11_pivot _ _ _ hc) rfl rfl (Nat.le_of_ble_eq_true rfl) (Nat.le_of_ble_eq_true rfl) trivial (Nat.le_of_ble_eq_true rfl) ?_
  refine GoL.aload_n 2 dL_1293 rfl ?_
  refine GoL.aload_n 0 dL_1294 rfl ?_
  refine GoL.iload_n 3 dL_1295 rfl ?_
  refine GoL.iconst 1 dL_1296 (by decide) ?_
  refine GoL.iadd dL_1297 ?_
  refine GoL.arg 1 (by decide) (by omega) hL dL_1298 ?_
  refine GoL.callM (rest := [.int r]) [.int (xs (i + 1))] dL_1299 lk_m38 ci_pivot.1 ci_pivot.2.1 rfl (fun n => rt_pivot _ _ hr) rfl rfl (Nat.le_of_ble_eq_true rfl) (Nat.le_of_ble_eq_true rfl) ⟨rfl, trivial⟩ (Nat.le_of_ble_eq_true rfl) ?_
  exact GoL.icmp_same 1494 dL_1302 (by decide) nx
set_option maxRecDepth 20000 in
theorem law_c39 (hi : i + 6 ≤ L) (hL : L ≤ 3072) (hkd : σ.kd 2 = 21) (hc : kX11_letter σ 2 (xs (i + 1)) (xs (i + 2)) = some (r, σ1)) (hr : r_letter S (xs (i + 1)) (xs (i + 2)) = some r) (nx : GoL l G κ b L xs R_law code 4 1494 [(0, .ref b), (1, .ref (G.adr 2)), (2, .ref κ.o), (3, .int (nI i))] [] (σ1, S)) : GoL l G κ b L xs R_law code 4 1307 [(0, .ref b), (1, .ref (G.adr 2)), (2, .ref κ.o), (3, .int (nI i))] [] (σ, S) := by
  refine GoL.aload_n 1 dL_1307 rfl ?_
  refine GoL.aload_n 0 dL_1308 rfl ?_
  refine GoL.iload_n 3 dL_1309 rfl ?_
  refine GoL.iconst 1 dL_1310 (by decide) ?_
  refine GoL.iadd dL_1311 ?_
  refine GoL.arg 1 (by decide) (by omega) hL dL_1312 ?_
  refine GoL.aload_n 0 dL_1313 rfl ?_
  refine GoL.iload_n 3 dL_1314 rfl ?_
  refine GoL.iconst 2 dL_1315 (by decide) ?_
  refine GoL.iadd dL_1316 ?_
  refine GoL.arg 2 (by decide) (by omega) hL dL_1317 ?_
  refine GoL.callC (rest := []) [.int (xs (i + 1)), .int (xs (i + 2))] dL_1318 lk_c39 km_lX11_letter.1 km_lX11_letter.2 rfl hkd (ktX11_letter _ _ _ _ hc) rfl rfl (Nat.le_of_ble_eq_true rfl) (Nat.le_of_ble_eq_true rfl) trivial (Nat.le_of_ble_eq_true rfl) ?_
  refine GoL.aload_n 2 dL_1321 rfl ?_
  refine GoL.aload_n 0 dL_1322 rfl ?_
  refine GoL.iload_n 3 dL_1323 rfl ?_
  refine GoL.iconst 1 dL_1324 (by decide) ?_
  refine GoL.iadd dL_1325 ?_
  refine GoL.arg 1 (by decide) (by omega) hL dL_1326 ?_
  refine GoL.aload_n 0 dL_1327 rfl ?_
  refine GoL.iload_n 3 dL_1328 rfl ?_
  refine GoL.iconst 2 dL_1329 (by decide) ?_
  refine GoL.iadd dL_1330 ?_
  refine GoL.arg 2 (by decide) (by omega) hL dL_1331 ?_
  refine GoL.callM (rest := [.int r]) [.int (xs (i + 1)), .int (xs (i + 2))] dL_1332 lk_m39 ci_letter.1 ci_letter.2.1 rfl (fun n => rt_letter _ _ _ hr) rfl rfl (Nat.le_of_ble_eq_true rfl) (Nat.le_of_ble_eq_true rfl) ⟨rfl, trivial⟩ (Nat.le_of_ble_eq_true rfl) ?_
  exact GoL.icmp_same 1494 dL_1335 (by decide) nx
set_option maxRecDepth 20000 in
theorem law_c40 (hi : i + 6 ≤ L) (hL : L ≤ 3072) (hkd : σ.kd 2 = 21) (hc : kX11_middle σ 2  = some r) (hr : r_middle S  = some (r, S1)) (nx : GoL l G κ b L xs R_law code 4 1494 [(0, .ref b), (1, .ref (G.adr 2)), (2, .ref κ.o), (3, .int (nI i))] [] (σ, S1)) : GoL l G κ b L xs R_law code 4 1340 [(0, .ref b), (1, .ref (G.adr 2)), (2, .ref κ.o), (3, .int (nI i))] [] (σ, S) := by
  refine GoL.aload_n 1 dL_1340 rfl ?_
  refine GoL.callC (rest := []) [] dL_1341 lk_c40 km_lX11_middle.1 km_lX11_middle.2 rfl hkd (ktX11_middle _  _ hc) rfl rfl (Nat.le_of_ble_eq_true rfl) (Nat.le_of_ble_eq_true rfl) trivial (Nat.le_of_ble_eq_true rfl) ?_
  refine GoL.aload_n 2 dL_1344 rfl ?_
  refine GoL.callM (rest := [.int r]) [] dL_1345 lk_m40 ci_middle.1 ci_middle.2.1 rfl (fun n => rt_middle  _ hr) rfl rfl (Nat.le_of_ble_eq_true rfl) (Nat.le_of_ble_eq_true rfl) ⟨rfl, trivial⟩ (Nat.le_of_ble_eq_true rfl) ?_
  exact GoL.icmp_same 1494 dL_1348 (by decide) nx
set_option maxRecDepth 20000 in
theorem law_c41 (hi : i + 6 ≤ L) (hL : L ≤ 3072) (hkd : σ.kd 2 = 21) (hc : kX11_groups σ 2 (xs (i + 1)) (xs (i + 2)) = some (r, σ1)) (hr : r_groups S (xs (i + 1)) (xs (i + 2)) = some (r, S1)) (nx : GoL l G κ b L xs R_law code 4 1494 [(0, .ref b), (1, .ref (G.adr 2)), (2, .ref κ.o), (3, .int (nI i))] [] (σ1, S1)) : GoL l G κ b L xs R_law code 4 1353 [(0, .ref b), (1, .ref (G.adr 2)), (2, .ref κ.o), (3, .int (nI i))] [] (σ, S) := by
  refine GoL.aload_n 1 dL_1353 rfl ?_
  refine GoL.aload_n 0 dL_1354 rfl ?_
  refine GoL.iload_n 3 dL_1355 rfl ?_
  refine GoL.iconst 1 dL_1356 (by decide) ?_
  refine GoL.iadd dL_1357 ?_
  refine GoL.arg 1 (by decide) (by omega) hL dL_1358 ?_
  refine GoL.aload_n 0 dL_1359 rfl ?_
  refine GoL.iload_n 3 dL_1360 rfl ?_
  refine GoL.iconst 2 dL_1361 (by decide) ?_
  refine GoL.iadd dL_1362 ?_
  refine GoL.arg 2 (by decide) (by omega) hL dL_1363 ?_
  refine GoL.callC (rest := []) [.int (xs (i + 1)), .int (xs (i + 2))] dL_1364 lk_c41 km_lX11_groups.1 km_lX11_groups.2 rfl hkd (ktX11_groups _ _ _ _ hc) rfl rfl (Nat.le_of_ble_eq_true rfl) (Nat.le_of_ble_eq_true rfl) trivial (Nat.le_of_ble_eq_true rfl) ?_
  refine GoL.aload_n 2 dL_1367 rfl ?_
  refine GoL.aload_n 0 dL_1368 rfl ?_
  refine GoL.iload_n 3 dL_1369 rfl ?_
  refine GoL.iconst 1 dL_1370 (by decide) ?_
  refine GoL.iadd dL_1371 ?_
  refine GoL.arg 1 (by decide) (by omega) hL dL_1372 ?_
  refine GoL.aload_n 0 dL_1373 rfl ?_
  refine GoL.iload_n 3 dL_1374 rfl ?_
  refine GoL.iconst 2 dL_1375 (by decide) ?_
  refine GoL.iadd dL_1376 ?_
  refine GoL.arg 2 (by decide) (by omega) hL dL_1377 ?_
  refine GoL.callM (rest := [.int r]) [.int (xs (i + 1)), .int (xs (i + 2))] dL_1378 lk_m41 ci_groups.1 ci_groups.2.1 rfl (fun n => rt_groups _ _ _ hr) rfl rfl (Nat.le_of_ble_eq_true rfl) (Nat.le_of_ble_eq_true rfl) ⟨rfl, trivial⟩ (Nat.le_of_ble_eq_true rfl) ?_
  exact GoL.icmp_same 1494 dL_1381 (by decide) nx
set_option maxRecDepth 20000 in
theorem law_c42 (hi : i + 6 ≤ L) (hL : L ≤ 3072) (hkd : σ.kd 2 = 21) (hc : kX11_chain σ 2 (xs (i + 1)) (xs (i + 2)) = some (r, σ1)) (hr : r_chain S (xs (i + 1)) (xs (i + 2)) = some (r, S1)) (nx : GoL l G κ b L xs R_law code 4 1494 [(0, .ref b), (1, .ref (G.adr 2)), (2, .ref κ.o), (3, .int (nI i))] [] (σ1, S1)) : GoL l G κ b L xs R_law code 4 1386 [(0, .ref b), (1, .ref (G.adr 2)), (2, .ref κ.o), (3, .int (nI i))] [] (σ, S) := by
  refine GoL.aload_n 1 dL_1386 rfl ?_
  refine GoL.aload_n 0 dL_1387 rfl ?_
  refine GoL.iload_n 3 dL_1388 rfl ?_
  refine GoL.iconst 1 dL_1389 (by decide) ?_
  refine GoL.iadd dL_1390 ?_
  refine GoL.arg 1 (by decide) (by omega) hL dL_1391 ?_
  refine GoL.aload_n 0 dL_1392 rfl ?_
  refine GoL.iload_n 3 dL_1393 rfl ?_
  refine GoL.iconst 2 dL_1394 (by decide) ?_
  refine GoL.iadd dL_1395 ?_
  refine GoL.arg 2 (by decide) (by omega) hL dL_1396 ?_
  refine GoL.callC (rest := []) [.int (xs (i + 1)), .int (xs (i + 2))] dL_1397 lk_c42 km_lX11_chain.1 km_lX11_chain.2 rfl hkd (ktX11_chain _ _ _ _ hc) rfl rfl (Nat.le_of_ble_eq_true rfl) (Nat.le_of_ble_eq_true rfl) trivial (Nat.le_of_ble_eq_true rfl) ?_
  refine GoL.aload_n 2 dL_1400 rfl ?_
  refine GoL.aload_n 0 dL_1401 rfl ?_
  refine GoL.iload_n 3 dL_1402 rfl ?_
  refine GoL.iconst 1 dL_1403 (by decide) ?_
  refine GoL.iadd dL_1404 ?_
  refine GoL.arg 1 (by decide) (by omega) hL dL_1405 ?_
  refine GoL.aload_n 0 dL_1406 rfl ?_
  refine GoL.iload_n 3 dL_1407 rfl ?_
  refine GoL.iconst 2 dL_1408 (by decide) ?_
  refine GoL.iadd dL_1409 ?_
  refine GoL.arg 2 (by decide) (by omega) hL dL_1410 ?_
  refine GoL.callM (rest := [.int r]) [.int (xs (i + 1)), .int (xs (i + 2))] dL_1411 lk_m42 ci_chain.1 ci_chain.2.1 rfl (fun n => rt_chain _ _ _ hr) rfl rfl (Nat.le_of_ble_eq_true rfl) (Nat.le_of_ble_eq_true rfl) ⟨rfl, trivial⟩ (Nat.le_of_ble_eq_true rfl) ?_
  exact GoL.icmp_same 1494 dL_1414 (by decide) nx
set_option maxRecDepth 20000 in
theorem law_c43 (hi : i + 6 ≤ L) (hL : L ≤ 3072) (hkd : σ.kd 2 = 21) (hc : kX11_chainLong σ 2 (xs (i + 1)) = some (r, σ1)) (hr : r_chainLong S (xs (i + 1)) = some (r, S1)) (nx : GoL l G κ b L xs R_law code 4 1494 [(0, .ref b), (1, .ref (G.adr 2)), (2, .ref κ.o), (3, .int (nI i))] [] (σ1, S1)) : GoL l G κ b L xs R_law code 4 1419 [(0, .ref b), (1, .ref (G.adr 2)), (2, .ref κ.o), (3, .int (nI i))] [] (σ, S) := by
  refine GoL.aload_n 1 dL_1419 rfl ?_
  refine GoL.aload_n 0 dL_1420 rfl ?_
  refine GoL.iload_n 3 dL_1421 rfl ?_
  refine GoL.iconst 1 dL_1422 (by decide) ?_
  refine GoL.iadd dL_1423 ?_
  refine GoL.arg 1 (by decide) (by omega) hL dL_1424 ?_
  refine GoL.callC (rest := []) [.int (xs (i + 1))] dL_1425 lk_c43 km_lX11_chainLong.1 km_lX11_chainLong.2 rfl hkd (ktX11_chainLong _ _ _ hc) rfl rfl (Nat.le_of_ble_eq_true rfl) (Nat.le_of_ble_eq_true rfl) trivial (Nat.le_of_ble_eq_true rfl) ?_
  refine GoL.aload_n 2 dL_1428 rfl ?_
  refine GoL.aload_n 0 dL_1429 rfl ?_
  refine GoL.iload_n 3 dL_1430 rfl ?_
  refine GoL.iconst 1 dL_1431 (by decide) ?_
  refine GoL.iadd dL_1432 ?_
  refine GoL.arg 1 (by decide) (by omega) hL dL_1433 ?_
  refine GoL.callM (rest := [.int r]) [.int (xs (i + 1))] dL_1434 lk_m43 ci_chainLong.1 ci_chainLong.2.1 rfl (fun n => rt_chainLong _ _ hr) rfl rfl (Nat.le_of_ble_eq_true rfl) (Nat.le_of_ble_eq_true rfl) ⟨rfl, trivial⟩ (Nat.le_of_ble_eq_true rfl) ?_
  exact GoL.icmp_same 1494 dL_1437 (by decide) nx
set_option maxRecDepth 20000 in
theorem law_c44 (hi : i + 6 ≤ L) (hL : L ≤ 3072) (hkd : σ.kd 2 = 21) (hc : kX11_mean σ 2  = some r) (hr : r_mean S  = some (r, S1)) (nx : GoL l G κ b L xs R_law code 4 1494 [(0, .ref b), (1, .ref (G.adr 2)), (2, .ref κ.o), (3, .int (nI i))] [] (σ, S1)) : GoL l G κ b L xs R_law code 4 1442 [(0, .ref b), (1, .ref (G.adr 2)), (2, .ref κ.o), (3, .int (nI i))] [] (σ, S) := by
  refine GoL.aload_n 1 dL_1442 rfl ?_
  refine GoL.callC (rest := []) [] dL_1443 lk_c44 km_lX11_mean.1 km_lX11_mean.2 rfl hkd (ktX11_mean _  _ hc) rfl rfl (Nat.le_of_ble_eq_true rfl) (Nat.le_of_ble_eq_true rfl) trivial (Nat.le_of_ble_eq_true rfl) ?_
  refine GoL.aload_n 2 dL_1446 rfl ?_
  refine GoL.callM (rest := [.int r]) [] dL_1447 lk_m44 ci_mean.1 ci_mean.2.1 rfl (fun n => rt_mean  _ hr) rfl rfl (Nat.le_of_ble_eq_true rfl) (Nat.le_of_ble_eq_true rfl) ⟨rfl, trivial⟩ (Nat.le_of_ble_eq_true rfl) ?_
  exact GoL.icmp_same 1494 dL_1450 (by decide) nx
set_option maxRecDepth 20000 in
theorem law_c45 (hi : i + 6 ≤ L) (hL : L ≤ 3072) (hkd : σ.kd 2 = 21) (hc : kX11_image σ 2  = some (r, σ1)) (hr : r_image S  = some (r, S1)) (nx : GoL l G κ b L xs R_law code 4 1494 [(0, .ref b), (1, .ref (G.adr 2)), (2, .ref κ.o), (3, .int (nI i))] [] (σ1, S1)) : GoL l G κ b L xs R_law code 4 1455 [(0, .ref b), (1, .ref (G.adr 2)), (2, .ref κ.o), (3, .int (nI i))] [] (σ, S) := by
  refine GoL.aload_n 1 dL_1455 rfl ?_
  refine GoL.callC (rest := []) [] dL_1456 lk_c45 km_lX11_image.1 km_lX11_image.2 rfl hkd (ktX11_image _  _ hc) rfl rfl (Nat.le_of_ble_eq_true rfl) (Nat.le_of_ble_eq_true rfl) trivial (Nat.le_of_ble_eq_true rfl) ?_
  refine GoL.aload_n 2 dL_1459 rfl ?_
  refine GoL.callM (rest := [.int r]) [] dL_1460 lk_m45 ci_image.1 ci_image.2.1 rfl (fun n => rt_image  _ hr) rfl rfl (Nat.le_of_ble_eq_true rfl) (Nat.le_of_ble_eq_true rfl) ⟨rfl, trivial⟩ (Nat.le_of_ble_eq_true rfl) ?_
  exact GoL.icmp_same 1494 dL_1463 (by decide) nx
set_option maxRecDepth 20000 in
theorem law_c46 (hi : i + 6 ≤ L) (hL : L ≤ 3072) (hkd : σ.kd 2 = 21) (hc : kX11_back σ 2  = some (r, σ1)) (hr : r_back S  = some (r, S1)) (nx : GoL l G κ b L xs R_law code 4 1494 [(0, .ref b), (1, .ref (G.adr 2)), (2, .ref κ.o), (3, .int (nI i))] [] (σ1, S1)) : GoL l G κ b L xs R_law code 4 1468 [(0, .ref b), (1, .ref (G.adr 2)), (2, .ref κ.o), (3, .int (nI i))] [] (σ, S) := by
  refine GoL.aload_n 1 dL_1468 rfl ?_
  refine GoL.callC (rest := []) [] dL_1469 lk_c46 km_lX11_back.1 km_lX11_back.2 rfl hkd (ktX11_back _  _ hc) rfl rfl (Nat.le_of_ble_eq_true rfl) (Nat.le_of_ble_eq_true rfl) trivial (Nat.le_of_ble_eq_true rfl) ?_
  refine GoL.aload_n 2 dL_1472 rfl ?_
  refine GoL.callM (rest := [.int r]) [] dL_1473 lk_m46 ci_back.1 ci_back.2.1 rfl (fun n => rt_back  _ hr) rfl rfl (Nat.le_of_ble_eq_true rfl) (Nat.le_of_ble_eq_true rfl) ⟨rfl, trivial⟩ (Nat.le_of_ble_eq_true rfl) ?_
  exact GoL.icmp_same 1494 dL_1476 (by decide) nx
set_option maxRecDepth 20000 in
theorem law_c47 (hi : i + 6 ≤ L) (hL : L ≤ 3072) (hkd : σ.kd 2 = 21) (hc : kX11_steps σ 2  = some r) (hr : r_steps S  = some r) (nx : GoL l G κ b L xs R_law code 4 1494 [(0, .ref b), (1, .ref (G.adr 2)), (2, .ref κ.o), (3, .int (nI i))] [] (σ, S)) : GoL l G κ b L xs R_law code 4 1481 [(0, .ref b), (1, .ref (G.adr 2)), (2, .ref κ.o), (3, .int (nI i))] [] (σ, S) := by
  refine GoL.aload_n 1 dL_1481 rfl ?_
  refine GoL.callC (rest := []) [] dL_1482 lk_c47 km_lX11_steps.1 km_lX11_steps.2 rfl hkd (ktX11_steps _  _ hc) rfl rfl (Nat.le_of_ble_eq_true rfl) (Nat.le_of_ble_eq_true rfl) trivial (Nat.le_of_ble_eq_true rfl) ?_
  refine GoL.aload_n 2 dL_1485 rfl ?_
  refine GoL.callM (rest := [.int r]) [] dL_1486 lk_m47 ci_steps.1 ci_steps.2.1 rfl (fun n => rt_steps  _ hr) rfl rfl (Nat.le_of_ble_eq_true rfl) (Nat.le_of_ble_eq_true rfl) ⟨rfl, trivial⟩ (Nat.le_of_ble_eq_true rfl) ?_
  exact GoL.icmp_same 1494 dL_1489 (by decide) nx
end LAW2
