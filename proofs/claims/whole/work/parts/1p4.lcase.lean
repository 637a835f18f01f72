/-! the law's cases, walked by program -/
section LC
variable {p : Program} {l : Launch} {e : Env} {s : State} {m : MethodId} {below : List Frame} {meth : Method} {c : Code} {H : Heap} {locs : List Loc} {cells slots : Nat} {Q : State → Prop}
variable {ls : Array Slot} {D : va_G} {ct : Nat → ClassId} {ad : Nat → Nat → Nat} {L : List (Nat × Nat)} {φ : Nat → Nat → Nat → Bool} {N0 : Nat} {σ : St} {b LL : Nat} {xs : Nat → Int32} {i : Int} {J : St → Prop}
set_option maxRecDepth 100000 in
set_option maxHeartbeats 4000000 in
theorem lc_0 (X : Cx p s m meth c #[Value.ref b] cL_law 7 (some .boolean) RL D ct L φ N0) (S : Sx b LL xs N0 s) (hi : 0 ≤ i ∧ i + 8 ≤ LL) (hr : cells + 25 ≤ room_1.cells ∧ slots + 165 ≤ room_1.slots) (h : Hs D ct ad L φ N0 s.heap σ H locs) (hm : (156, 0) ∈ L) (hl : lv_has ls 7 (lvL b ad i)) (hw : wp_X11_cell σ (sx xs (i + 1)) (sx xs (i + 2)) (fun r σ1 => wp_X12_cell σ1 (sx xs (i + 1)) (sx xs (i + 2)) (fun r2 σ2 => r2 = r ∧ J σ2))) (K : Kn p l e s m below meth c b D ct N0 i cells slots Q J) : W p l e room_1 s m #[Value.ref b] below meth c H locs cells slots Q (F0 m 276 ls []) := by
  have hF := X.2.2.2.2.2.2.2.2.1
  obtain ⟨hi0, hi8⟩ := hi
  obtain ⟨hr1, hr2⟩ := hr
  refine lv_aload_n X.1 X.2.1 dL_law_276 rfl (lv_at hl 1 rfl) ?_
  refine s_arg (k0 := 0) (k4 := 4) X S h hl rfl rfl ⟨by omega, by omega⟩ dL_law_277 dL_law_278 dL_law_280 dL_law_281 dL_law_282 ?_
  refine s_arg (k0 := 0) (k4 := 4) X S h hl rfl rfl ⟨by omega, by omega⟩ dL_law_283 dL_law_284 dL_law_286 dL_law_287 dL_law_288 ?_
  refine k_i h (r_V (C := RX11) (ci := 11) (As := [.int (iv (sx xs (i + 1))), .int (iv (sx xs (i + 2)))]) (rest := []) X h (c_X11_cell l D ct ad L φ N0 σ (sx xs (i + 1)) (sx xs (i + 2)) _ hw) rfl rfl ⟨Nat.le_of_ble_eq_true rfl, Nat.le_of_ble_eq_true rfl⟩ kw_519 kw_520 kw_521 kw_120 kw_522 ⟨rfl, pd_X11_cell⟩ (hF.1 11 rfl).1 rfl rfl rfl hl.1 rfl (Nat.le_of_ble_eq_true rfl) ⟨by omega, by omega⟩ dL_law_289) (fun r σ_1 H locs hw h => ?_)
  refine lv_aload_n X.1 X.2.1 dL_law_292 rfl (lv_at hl 2 rfl) ?_
  refine s_arg (k0 := 0) (k4 := 4) X S h hl rfl rfl ⟨by omega, by omega⟩ dL_law_293 dL_law_294 dL_law_296 dL_law_297 dL_law_298 ?_
  refine s_arg (k0 := 0) (k4 := 4) X S h hl rfl rfl ⟨by omega, by omega⟩ dL_law_299 dL_law_300 dL_law_302 dL_law_303 dL_law_304 ?_
  refine k_i h (r_V (C := RX12) (ci := 12) (As := [.int (iv (sx xs (i + 1))), .int (iv (sx xs (i + 2)))]) (rest := [.int (iv r)]) X h (c_X12_cell l D ct ad L φ N0 σ_1 (sx xs (i + 1)) (sx xs (i + 2)) _ hw) rfl rfl ⟨Nat.le_of_ble_eq_true rfl, Nat.le_of_ble_eq_true rfl⟩ kw_1952 kw_1953 kw_1954 kw_129 kw_1955 ⟨rfl, pd_X12_cell⟩ (hF.1 12 rfl).1 rfl rfl rfl hl.1 rfl (Nat.le_of_ble_eq_true rfl) ⟨by omega, by omega⟩ dL_law_305) (fun r2 σ_2 H locs hw h => ?_)
  refine lv_icmp_eq (tgt := 2584) X.1 X.2.1 dL_law_308 (by decide) (fun _ => ?_) (fun q => absurd (by rw [hw.1]) q)
  refine W.widen (k := cells + 25) (n := slots + 165) (by omega) (by omega) ?_
  exact K σ_2 ad L φ H locs ls hw.2 h hF hm hl
set_option maxRecDepth 100000 in
set_option maxHeartbeats 4000000 in
theorem lc_1 (X : Cx p s m meth c #[Value.ref b] cL_law 7 (some .boolean) RL D ct L φ N0) (S : Sx b LL xs N0 s) (hi : 0 ≤ i ∧ i + 8 ≤ LL) (hr : cells + 25 ≤ room_1.cells ∧ slots + 165 ≤ room_1.slots) (h : Hs D ct ad L φ N0 s.heap σ H locs) (hm : (156, 0) ∈ L) (hl : lv_has ls 7 (lvL b ad i)) (hw : wp_X11_stand σ (sx xs (i + 1)) (sx xs (i + 2)) (sx xs (i + 3)) (sx xs (i + 4)) (fun r σ1 => wp_X12_stand σ1 (sx xs (i + 1)) (sx xs (i + 2)) (sx xs (i + 3)) (sx xs (i + 4)) (fun r2 σ2 => r2 = r ∧ J σ2))) (K : Kn p l e s m below meth c b D ct N0 i cells slots Q J) : W p l e room_1 s m #[Value.ref b] below meth c H locs cells slots Q (F0 m 313 ls []) := by
  have hF := X.2.2.2.2.2.2.2.2.1
  obtain ⟨hi0, hi8⟩ := hi
  obtain ⟨hr1, hr2⟩ := hr
  refine lv_aload_n X.1 X.2.1 dL_law_313 rfl (lv_at hl 1 rfl) ?_
  refine s_arg (k0 := 0) (k4 := 4) X S h hl rfl rfl ⟨by omega, by omega⟩ dL_law_314 dL_law_315 dL_law_317 dL_law_318 dL_law_319 ?_
  refine s_arg (k0 := 0) (k4 := 4) X S h hl rfl rfl ⟨by omega, by omega⟩ dL_law_320 dL_law_321 dL_law_323 dL_law_324 dL_law_325 ?_
  refine s_arg (k0 := 0) (k4 := 4) X S h hl rfl rfl ⟨by omega, by omega⟩ dL_law_326 dL_law_327 dL_law_329 dL_law_330 dL_law_331 ?_
  refine s_arg (k0 := 0) (k4 := 4) X S h hl rfl rfl ⟨by omega, by omega⟩ dL_law_332 dL_law_333 dL_law_335 dL_law_336 dL_law_337 ?_
  refine k_i h (r_V (C := RX11) (ci := 11) (As := [.int (iv (sx xs (i + 1))), .int (iv (sx xs (i + 2))), .int (iv (sx xs (i + 3))), .int (iv (sx xs (i + 4)))]) (rest := []) X h (c_X11_stand l D ct ad L φ N0 σ (sx xs (i + 1)) (sx xs (i + 2)) (sx xs (i + 3)) (sx xs (i + 4)) _ hw) rfl rfl ⟨Nat.le_of_ble_eq_true rfl, Nat.le_of_ble_eq_true rfl⟩ kw_529 kw_530 kw_531 kw_120 kw_532 ⟨rfl, pd_X11_stand⟩ (hF.1 11 rfl).1 rfl rfl rfl hl.1 rfl (Nat.le_of_ble_eq_true rfl) ⟨by omega, by omega⟩ dL_law_338) (fun r σ_1 H locs hw h => ?_)
  refine lv_aload_n X.1 X.2.1 dL_law_341 rfl (lv_at hl 2 rfl) ?_
  refine s_arg (k0 := 0) (k4 := 4) X S h hl rfl rfl ⟨by omega, by omega⟩ dL_law_342 dL_law_343 dL_law_345 dL_law_346 dL_law_347 ?_
  refine s_arg (k0 := 0) (k4 := 4) X S h hl rfl rfl ⟨by omega, by omega⟩ dL_law_348 dL_law_349 dL_law_351 dL_law_352 dL_law_353 ?_
  refine s_arg (k0 := 0) (k4 := 4) X S h hl rfl rfl ⟨by omega, by omega⟩ dL_law_354 dL_law_355 dL_law_357 dL_law_358 dL_law_359 ?_
  refine s_arg (k0 := 0) (k4 := 4) X S h hl rfl rfl ⟨by omega, by omega⟩ dL_law_360 dL_law_361 dL_law_363 dL_law_364 dL_law_365 ?_
  refine k_i h (r_V (C := RX12) (ci := 12) (As := [.int (iv (sx xs (i + 1))), .int (iv (sx xs (i + 2))), .int (iv (sx xs (i + 3))), .int (iv (sx xs (i + 4)))]) (rest := [.int (iv r)]) X h (c_X12_stand l D ct ad L φ N0 σ_1 (sx xs (i + 1)) (sx xs (i + 2)) (sx xs (i + 3)) (sx xs (i + 4)) _ hw) rfl rfl ⟨Nat.le_of_ble_eq_true rfl, Nat.le_of_ble_eq_true rfl⟩ kw_1962 kw_1963 kw_1964 kw_129 kw_1965 ⟨rfl, pd_X12_stand⟩ (hF.1 12 rfl).1 rfl rfl rfl hl.1 rfl (Nat.le_of_ble_eq_true rfl) ⟨by omega, by omega⟩ dL_law_366) (fun r2 σ_2 H locs hw h => ?_)
  refine lv_icmp_eq (tgt := 2584) X.1 X.2.1 dL_law_369 (by decide) (fun _ => ?_) (fun q => absurd (by rw [hw.1]) q)
  refine W.widen (k := cells + 25) (n := slots + 165) (by omega) (by omega) ?_
  exact K σ_2 ad L φ H locs ls hw.2 h hF hm hl
set_option maxRecDepth 100000 in
set_option maxHeartbeats 4000000 in
theorem lc_2 (X : Cx p s m meth c #[Value.ref b] cL_law 7 (some .boolean) RL D ct L φ N0) (S : Sx b LL xs N0 s) (hi : 0 ≤ i ∧ i + 8 ≤ LL) (hr : cells + 25 ≤ room_1.cells ∧ slots + 165 ≤ room_1.slots) (h : Hs D ct ad L φ N0 s.heap σ H locs) (hm : (156, 0) ∈ L) (hl : lv_has ls 7 (lvL b ad i)) (hw : wp_X11_sort σ (sx xs (i + 1)) (sx xs (i + 2)) (sx xs (i + 3)) (fun r σ1 => wp_X12_sort σ1 (sx xs (i + 1)) (sx xs (i + 2)) (sx xs (i + 3)) (fun r2 σ2 => r2 = r ∧ J σ2))) (K : Kn p l e s m below meth c b D ct N0 i cells slots Q J) : W p l e room_1 s m #[Value.ref b] below meth c H locs cells slots Q (F0 m 374 ls []) := by
  have hF := X.2.2.2.2.2.2.2.2.1
  obtain ⟨hi0, hi8⟩ := hi
  obtain ⟨hr1, hr2⟩ := hr
  refine lv_aload_n X.1 X.2.1 dL_law_374 rfl (lv_at hl 1 rfl) ?_
  refine s_arg (k0 := 0) (k4 := 4) X S h hl rfl rfl ⟨by omega, by omega⟩ dL_law_375 dL_law_376 dL_law_378 dL_law_379 dL_law_380 ?_
  refine s_arg (k0 := 0) (k4 := 4) X S h hl rfl rfl ⟨by omega, by omega⟩ dL_law_381 dL_law_382 dL_law_384 dL_law_385 dL_law_386 ?_
  refine s_arg (k0 := 0) (k4 := 4) X S h hl rfl rfl ⟨by omega, by omega⟩ dL_law_387 dL_law_388 dL_law_390 dL_law_391 dL_law_392 ?_
  refine k_i h (r_V (C := RX11) (ci := 11) (As := [.int (iv (sx xs (i + 1))), .int (iv (sx xs (i + 2))), .int (iv (sx xs (i + 3)))]) (rest := []) X h (c_X11_sort l D ct ad L φ N0 σ (sx xs (i + 1)) (sx xs (i + 2)) (sx xs (i + 3)) _ hw) rfl rfl ⟨Nat.le_of_ble_eq_true rfl, Nat.le_of_ble_eq_true rfl⟩ kw_539 kw_540 kw_541 kw_120 kw_542 ⟨rfl, pd_X11_sort⟩ (hF.1 11 rfl).1 rfl rfl rfl hl.1 rfl (Nat.le_of_ble_eq_true rfl) ⟨by omega, by omega⟩ dL_law_393) (fun r σ_1 H locs hw h => ?_)
  refine lv_aload_n X.1 X.2.1 dL_law_396 rfl (lv_at hl 2 rfl) ?_
  refine s_arg (k0 := 0) (k4 := 4) X S h hl rfl rfl ⟨by omega, by omega⟩ dL_law_397 dL_law_398 dL_law_400 dL_law_401 dL_law_402 ?_
  refine s_arg (k0 := 0) (k4 := 4) X S h hl rfl rfl ⟨by omega, by omega⟩ dL_law_403 dL_law_404 dL_law_406 dL_law_407 dL_law_408 ?_
  refine s_arg (k0 := 0) (k4 := 4) X S h hl rfl rfl ⟨by omega, by omega⟩ dL_law_409 dL_law_410 dL_law_412 dL_law_413 dL_law_414 ?_
  refine k_i h (r_V (C := RX12) (ci := 12) (As := [.int (iv (sx xs (i + 1))), .int (iv (sx xs (i + 2))), .int (iv (sx xs (i + 3)))]) (rest := [.int (iv r)]) X h (c_X12_sort l D ct ad L φ N0 σ_1 (sx xs (i + 1)) (sx xs (i + 2)) (sx xs (i + 3)) _ hw) rfl rfl ⟨Nat.le_of_ble_eq_true rfl, Nat.le_of_ble_eq_true rfl⟩ kw_1972 kw_1973 kw_1974 kw_129 kw_1975 ⟨rfl, pd_X12_sort⟩ (hF.1 12 rfl).1 rfl rfl rfl hl.1 rfl (Nat.le_of_ble_eq_true rfl) ⟨by omega, by omega⟩ dL_law_415) (fun r2 σ_2 H locs hw h => ?_)
  refine lv_icmp_eq (tgt := 2584) X.1 X.2.1 dL_law_418 (by decide) (fun _ => ?_) (fun q => absurd (by rw [hw.1]) q)
  refine W.widen (k := cells + 25) (n := slots + 165) (by omega) (by omega) ?_
  exact K σ_2 ad L φ H locs ls hw.2 h hF hm hl
set_option maxRecDepth 100000 in
set_option maxHeartbeats 4000000 in
theorem lc_3 (X : Cx p s m meth c #[Value.ref b] cL_law 7 (some .boolean) RL D ct L φ N0) (S : Sx b LL xs N0 s) (hi : 0 ≤ i ∧ i + 8 ≤ LL) (hr : cells + 25 ≤ room_1.cells ∧ slots + 165 ≤ room_1.slots) (h : Hs D ct ad L φ N0 s.heap σ H locs) (hm : (156, 0) ∈ L) (hl : lv_has ls 7 (lvL b ad i)) (hw : wp_X11_mill σ (sx xs (i + 1)) (fun r σ1 => wp_X12_mill σ1 (sx xs (i + 1)) (fun r2 σ2 => r2 = r ∧ J σ2))) (K : Kn p l e s m below meth c b D ct N0 i cells slots Q J) : W p l e room_1 s m #[Value.ref b] below meth c H locs cells slots Q (F0 m 423 ls []) := by
  have hF := X.2.2.2.2.2.2.2.2.1
  obtain ⟨hi0, hi8⟩ := hi
  obtain ⟨hr1, hr2⟩ := hr
  refine lv_aload_n X.1 X.2.1 dL_law_423 rfl (lv_at hl 1 rfl) ?_
  refine s_arg (k0 := 0) (k4 := 4) X S h hl rfl rfl ⟨by omega, by omega⟩ dL_law_424 dL_law_425 dL_law_427 dL_law_428 dL_law_429 ?_
  refine k_i h (r_V (C := RX11) (ci := 11) (As := [.int (iv (sx xs (i + 1)))]) (rest := []) X h (c_X11_mill l D ct ad L φ N0 σ (sx xs (i + 1)) _ hw) rfl rfl ⟨Nat.le_of_ble_eq_true rfl, Nat.le_of_ble_eq_true rfl⟩ kw_543 kw_544 kw_545 kw_120 kw_546 ⟨rfl, pd_X11_mill⟩ (hF.1 11 rfl).1 rfl rfl rfl hl.1 rfl (Nat.le_of_ble_eq_true rfl) ⟨by omega, by omega⟩ dL_law_430) (fun r σ_1 H locs hw h => ?_)
  refine lv_aload_n X.1 X.2.1 dL_law_433 rfl (lv_at hl 2 rfl) ?_
  refine s_arg (k0 := 0) (k4 := 4) X S h hl rfl rfl ⟨by omega, by omega⟩ dL_law_434 dL_law_435 dL_law_437 dL_law_438 dL_law_439 ?_
  refine k_i h (r_V (C := RX12) (ci := 12) (As := [.int (iv (sx xs (i + 1)))]) (rest := [.int (iv r)]) X h (c_X12_mill l D ct ad L φ N0 σ_1 (sx xs (i + 1)) _ hw) rfl rfl ⟨Nat.le_of_ble_eq_true rfl, Nat.le_of_ble_eq_true rfl⟩ kw_1976 kw_1977 kw_1978 kw_129 kw_1979 ⟨rfl, pd_X12_mill⟩ (hF.1 12 rfl).1 rfl rfl rfl hl.1 rfl (Nat.le_of_ble_eq_true rfl) ⟨by omega, by omega⟩ dL_law_440) (fun r2 σ_2 H locs hw h => ?_)
  refine lv_icmp_eq (tgt := 2584) X.1 X.2.1 dL_law_443 (by decide) (fun _ => ?_) (fun q => absurd (by rw [hw.1]) q)
  refine W.widen (k := cells + 25) (n := slots + 165) (by omega) (by omega) ?_
  exact K σ_2 ad L φ H locs ls hw.2 h hF hm hl
set_option maxRecDepth 100000 in
set_option maxHeartbeats 4000000 in
theorem lc_4 (X : Cx p s m meth c #[Value.ref b] cL_law 7 (some .boolean) RL D ct L φ N0) (S : Sx b LL xs N0 s) (hi : 0 ≤ i ∧ i + 8 ≤ LL) (hr : cells + 25 ≤ room_1.cells ∧ slots + 165 ≤ room_1.slots) (h : Hs D ct ad L φ N0 s.heap σ H locs) (hm : (156, 0) ∈ L) (hl : lv_has ls 7 (lvL b ad i)) (hw : wp_X11_weather σ (sx xs (i + 1)) (sx xs (i + 2)) (sx xs (i + 3)) (sx xs (i + 4)) (fun r σ1 => wp_X12_weather σ1 (sx xs (i + 1)) (sx xs (i + 2)) (sx xs (i + 3)) (sx xs (i + 4)) (fun r2 σ2 => r2 = r ∧ J σ2))) (K : Kn p l e s m below meth c b D ct N0 i cells slots Q J) : W p l e room_1 s m #[Value.ref b] below meth c H locs cells slots Q (F0 m 448 ls []) := by
  have hF := X.2.2.2.2.2.2.2.2.1
  obtain ⟨hi0, hi8⟩ := hi
  obtain ⟨hr1, hr2⟩ := hr
  refine lv_aload_n X.1 X.2.1 dL_law_448 rfl (lv_at hl 1 rfl) ?_
  refine s_arg (k0 := 0) (k4 := 4) X S h hl rfl rfl ⟨by omega, by omega⟩ dL_law_449 dL_law_450 dL_law_452 dL_law_453 dL_law_454 ?_
  refine s_arg (k0 := 0) (k4 := 4) X S h hl rfl rfl ⟨by omega, by omega⟩ dL_law_455 dL_law_456 dL_law_458 dL_law_459 dL_law_460 ?_
  refine s_arg (k0 := 0) (k4 := 4) X S h hl rfl rfl ⟨by omega, by omega⟩ dL_law_461 dL_law_462 dL_law_464 dL_law_465 dL_law_466 ?_
  refine s_arg (k0 := 0) (k4 := 4) X S h hl rfl rfl ⟨by omega, by omega⟩ dL_law_467 dL_law_468 dL_law_470 dL_law_471 dL_law_472 ?_
  refine k_i h (r_V (C := RX11) (ci := 11) (As := [.int (iv (sx xs (i + 1))), .int (iv (sx xs (i + 2))), .int (iv (sx xs (i + 3))), .int (iv (sx xs (i + 4)))]) (rest := []) X h (c_X11_weather l D ct ad L φ N0 σ (sx xs (i + 1)) (sx xs (i + 2)) (sx xs (i + 3)) (sx xs (i + 4)) _ hw) rfl rfl ⟨Nat.le_of_ble_eq_true rfl, Nat.le_of_ble_eq_true rfl⟩ kw_547 kw_548 kw_549 kw_120 kw_550 ⟨rfl, pd_X11_weather⟩ (hF.1 11 rfl).1 rfl rfl rfl hl.1 rfl (Nat.le_of_ble_eq_true rfl) ⟨by omega, by omega⟩ dL_law_473) (fun r σ_1 H locs hw h => ?_)
  refine lv_aload_n X.1 X.2.1 dL_law_476 rfl (lv_at hl 2 rfl) ?_
  refine s_arg (k0 := 0) (k4 := 4) X S h hl rfl rfl ⟨by omega, by omega⟩ dL_law_477 dL_law_478 dL_law_480 dL_law_481 dL_law_482 ?_
  refine s_arg (k0 := 0) (k4 := 4) X S h hl rfl rfl ⟨by omega, by omega⟩ dL_law_483 dL_law_484 dL_law_486 dL_law_487 dL_law_488 ?_
  refine s_arg (k0 := 0) (k4 := 4) X S h hl rfl rfl ⟨by omega, by omega⟩ dL_law_489 dL_law_490 dL_law_492 dL_law_493 dL_law_494 ?_
  refine s_arg (k0 := 0) (k4 := 4) X S h hl rfl rfl ⟨by omega, by omega⟩ dL_law_495 dL_law_496 dL_law_498 dL_law_499 dL_law_500 ?_
  refine k_i h (r_V (C := RX12) (ci := 12) (As := [.int (iv (sx xs (i + 1))), .int (iv (sx xs (i + 2))), .int (iv (sx xs (i + 3))), .int (iv (sx xs (i + 4)))]) (rest := [.int (iv r)]) X h (c_X12_weather l D ct ad L φ N0 σ_1 (sx xs (i + 1)) (sx xs (i + 2)) (sx xs (i + 3)) (sx xs (i + 4)) _ hw) rfl rfl ⟨Nat.le_of_ble_eq_true rfl, Nat.le_of_ble_eq_true rfl⟩ kw_1980 kw_1981 kw_1982 kw_129 kw_1983 ⟨rfl, pd_X12_weather⟩ (hF.1 12 rfl).1 rfl rfl rfl hl.1 rfl (Nat.le_of_ble_eq_true rfl) ⟨by omega, by omega⟩ dL_law_501) (fun r2 σ_2 H locs hw h => ?_)
  refine lv_icmp_eq (tgt := 2584) X.1 X.2.1 dL_law_504 (by decide) (fun _ => ?_) (fun q => absurd (by rw [hw.1]) q)
  refine W.widen (k := cells + 25) (n := slots + 165) (by omega) (by omega) ?_
  exact K σ_2 ad L φ H locs ls hw.2 h hF hm hl
set_option maxRecDepth 100000 in
set_option maxHeartbeats 4000000 in
theorem lc_5 (X : Cx p s m meth c #[Value.ref b] cL_law 7 (some .boolean) RL D ct L φ N0) (S : Sx b LL xs N0 s) (hi : 0 ≤ i ∧ i + 8 ≤ LL) (hr : cells + 25 ≤ room_1.cells ∧ slots + 165 ≤ room_1.slots) (h : Hs D ct ad L φ N0 s.heap σ H locs) (hm : (156, 0) ∈ L) (hl : lv_has ls 7 (lvL b ad i)) (hw : wp_X11_weatherOf σ (sx xs (i + 1)) (sx xs (i + 2)) (fun r σ1 => wp_X12_weatherOf σ1 (sx xs (i + 1)) (sx xs (i + 2)) (fun r2 σ2 => r2 = r ∧ J σ2))) (K : Kn p l e s m below meth c b D ct N0 i cells slots Q J) : W p l e room_1 s m #[Value.ref b] below meth c H locs cells slots Q (F0 m 509 ls []) := by
  have hF := X.2.2.2.2.2.2.2.2.1
  obtain ⟨hi0, hi8⟩ := hi
  obtain ⟨hr1, hr2⟩ := hr
  refine lv_aload_n X.1 X.2.1 dL_law_509 rfl (lv_at hl 1 rfl) ?_
  refine s_arg (k0 := 0) (k4 := 4) X S h hl rfl rfl ⟨by omega, by omega⟩ dL_law_510 dL_law_511 dL_law_513 dL_law_514 dL_law_515 ?_
  refine s_arg (k0 := 0) (k4 := 4) X S h hl rfl rfl ⟨by omega, by omega⟩ dL_law_516 dL_law_517 dL_law_519 dL_law_520 dL_law_521 ?_
  refine k_i h (r_V (C := RX11) (ci := 11) (As := [.int (iv (sx xs (i + 1))), .int (iv (sx xs (i + 2)))]) (rest := []) X h (c_X11_weatherOf l D ct ad L φ N0 σ (sx xs (i + 1)) (sx xs (i + 2)) _ hw) rfl rfl ⟨Nat.le_of_ble_eq_true rfl, Nat.le_of_ble_eq_true rfl⟩ kw_560 kw_561 kw_562 kw_120 kw_563 ⟨rfl, pd_X11_weatherOf⟩ (hF.1 11 rfl).1 rfl rfl rfl hl.1 rfl (Nat.le_of_ble_eq_true rfl) ⟨by omega, by omega⟩ dL_law_522) (fun r σ_1 H locs hw h => ?_)
  refine lv_aload_n X.1 X.2.1 dL_law_525 rfl (lv_at hl 2 rfl) ?_
  refine s_arg (k0 := 0) (k4 := 4) X S h hl rfl rfl ⟨by omega, by omega⟩ dL_law_526 dL_law_527 dL_law_529 dL_law_530 dL_law_531 ?_
  refine s_arg (k0 := 0) (k4 := 4) X S h hl rfl rfl ⟨by omega, by omega⟩ dL_law_532 dL_law_533 dL_law_535 dL_law_536 dL_law_537 ?_
  refine k_i h (r_V (C := RX12) (ci := 12) (As := [.int (iv (sx xs (i + 1))), .int (iv (sx xs (i + 2)))]) (rest := [.int (iv r)]) X h (c_X12_weatherOf l D ct ad L φ N0 σ_1 (sx xs (i + 1)) (sx xs (i + 2)) _ hw) rfl rfl ⟨Nat.le_of_ble_eq_true rfl, Nat.le_of_ble_eq_true rfl⟩ kw_1984 kw_1985 kw_1986 kw_129 kw_1987 ⟨rfl, pd_X12_weatherOf⟩ (hF.1 12 rfl).1 rfl rfl rfl hl.1 rfl (Nat.le_of_ble_eq_true rfl) ⟨by omega, by omega⟩ dL_law_538) (fun r2 σ_2 H locs hw h => ?_)
  refine lv_icmp_eq (tgt := 2584) X.1 X.2.1 dL_law_541 (by decide) (fun _ => ?_) (fun q => absurd (by rw [hw.1]) q)
  refine W.widen (k := cells + 25) (n := slots + 165) (by omega) (by omega) ?_
  exact K σ_2 ad L φ H locs ls hw.2 h hF hm hl
set_option maxRecDepth 100000 in
set_option maxHeartbeats 4000000 in
theorem lc_6 (X : Cx p s m meth c #[Value.ref b] cL_law 7 (some .boolean) RL D ct L φ N0) (S : Sx b LL xs N0 s) (hi : 0 ≤ i ∧ i + 8 ≤ LL) (hr : cells + 25 ≤ room_1.cells ∧ slots + 165 ≤ room_1.slots) (h : Hs D ct ad L φ N0 s.heap σ H locs) (hm : (156, 0) ∈ L) (hl : lv_has ls 7 (lvL b ad i)) (hw : wp_X11_price σ (sx xs (i + 1)) (sx xs (i + 2)) (fun r σ1 => wp_X12_price σ1 (sx xs (i + 1)) (sx xs (i + 2)) (fun r2 σ2 => r2 = r ∧ J σ2))) (K : Kn p l e s m below meth c b D ct N0 i cells slots Q J) : W p l e room_1 s m #[Value.ref b] below meth c H locs cells slots Q (F0 m 546 ls []) := by
  have hF := X.2.2.2.2.2.2.2.2.1
  obtain ⟨hi0, hi8⟩ := hi
  obtain ⟨hr1, hr2⟩ := hr
  refine lv_aload_n X.1 X.2.1 dL_law_546 rfl (lv_at hl 1 rfl) ?_
  refine s_arg (k0 := 0) (k4 := 4) X S h hl rfl rfl ⟨by omega, by omega⟩ dL_law_547 dL_law_548 dL_law_550 dL_law_551 dL_law_552 ?_
  refine s_arg (k0 := 0) (k4 := 4) X S h hl rfl rfl ⟨by omega, by omega⟩ dL_law_553 dL_law_554 dL_law_556 dL_law_557 dL_law_558 ?_
  refine k_i h (r_V (C := RX11) (ci := 11) (As := [.int (iv (sx xs (i + 1))), .int (iv (sx xs (i + 2)))]) (rest := []) X h (c_X11_price l D ct ad L φ N0 σ (sx xs (i + 1)) (sx xs (i + 2)) _ hw) rfl rfl ⟨Nat.le_of_ble_eq_true rfl, Nat.le_of_ble_eq_true rfl⟩ kw_595 kw_596 kw_597 kw_120 kw_598 ⟨rfl, pd_X11_price⟩ (hF.1 11 rfl).1 rfl rfl rfl hl.1 rfl (Nat.le_of_ble_eq_true rfl) ⟨by omega, by omega⟩ dL_law_559) (fun r σ_1 H locs hw h => ?_)
  refine lv_aload_n X.1 X.2.1 dL_law_562 rfl (lv_at hl 2 rfl) ?_
  refine s_arg (k0 := 0) (k4 := 4) X S h hl rfl rfl ⟨by omega, by omega⟩ dL_law_563 dL_law_564 dL_law_566 dL_law_567 dL_law_568 ?_
  refine s_arg (k0 := 0) (k4 := 4) X S h hl rfl rfl ⟨by omega, by omega⟩ dL_law_569 dL_law_570 dL_law_572 dL_law_573 dL_law_574 ?_
  refine k_i h (r_V (C := RX12) (ci := 12) (As := [.int (iv (sx xs (i + 1))), .int (iv (sx xs (i + 2)))]) (rest := [.int (iv r)]) X h (c_X12_price l D ct ad L φ N0 σ_1 (sx xs (i + 1)) (sx xs (i + 2)) _ hw) rfl rfl ⟨Nat.le_of_ble_eq_true rfl, Nat.le_of_ble_eq_true rfl⟩ kw_1992 kw_1993 kw_1994 kw_129 kw_1995 ⟨rfl, pd_X12_price⟩ (hF.1 12 rfl).1 rfl rfl rfl hl.1 rfl (Nat.le_of_ble_eq_true rfl) ⟨by omega, by omega⟩ dL_law_575) (fun r2 σ_2 H locs hw h => ?_)
  refine lv_icmp_eq (tgt := 2584) X.1 X.2.1 dL_law_578 (by decide) (fun _ => ?_) (fun q => absurd (by rw [hw.1]) q)
  refine W.widen (k := cells + 25) (n := slots + 165) (by omega) (by omega) ?_
  exact K σ_2 ad L φ H locs ls hw.2 h hF hm hl
set_option maxRecDepth 100000 in
set_option maxHeartbeats 4000000 in
theorem lc_7 (X : Cx p s m meth c #[Value.ref b] cL_law 7 (some .boolean) RL D ct L φ N0) (S : Sx b LL xs N0 s) (hi : 0 ≤ i ∧ i + 8 ≤ LL) (hr : cells + 25 ≤ room_1.cells ∧ slots + 165 ≤ room_1.slots) (h : Hs D ct ad L φ N0 s.heap σ H locs) (hm : (156, 0) ∈ L) (hl : lv_has ls 7 (lvL b ad i)) (hw : wp_X11_buck σ (sx xs (i + 1)) (sx xs (i + 2)) (fun r σ1 => wp_X12_buck σ1 (sx xs (i + 1)) (sx xs (i + 2)) (fun r2 σ2 => r2 = r ∧ J σ2))) (K : Kn p l e s m below meth c b D ct N0 i cells slots Q J) : W p l e room_1 s m #[Value.ref b] below meth c H locs cells slots Q (F0 m 583 ls []) := by
  have hF := X.2.2.2.2.2.2.2.2.1
  obtain ⟨hi0, hi8⟩ := hi
  obtain ⟨hr1, hr2⟩ := hr
  refine lv_aload_n X.1 X.2.1 dL_law_583 rfl (lv_at hl 1 rfl) ?_
  refine s_arg (k0 := 0) (k4 := 4) X S h hl rfl rfl ⟨by omega, by omega⟩ dL_law_584 dL_law_585 dL_law_587 dL_law_588 dL_law_589 ?_
  refine s_arg (k0 := 0) (k4 := 4) X S h hl rfl rfl ⟨by omega, by omega⟩ dL_law_590 dL_law_591 dL_law_593 dL_law_594 dL_law_595 ?_
  refine k_i h (r_V (C := RX11) (ci := 11) (As := [.int (iv (sx xs (i + 1))), .int (iv (sx xs (i + 2)))]) (rest := []) X h (c_X11_buck l D ct ad L φ N0 σ (sx xs (i + 1)) (sx xs (i + 2)) _ hw) rfl rfl ⟨Nat.le_of_ble_eq_true rfl, Nat.le_of_ble_eq_true rfl⟩ kw_599 kw_600 kw_601 kw_120 kw_602 ⟨rfl, pd_X11_buck⟩ (hF.1 11 rfl).1 rfl rfl rfl hl.1 rfl (Nat.le_of_ble_eq_true rfl) ⟨by omega, by omega⟩ dL_law_596) (fun r σ_1 H locs hw h => ?_)
  refine lv_aload_n X.1 X.2.1 dL_law_599 rfl (lv_at hl 2 rfl) ?_
  refine s_arg (k0 := 0) (k4 := 4) X S h hl rfl rfl ⟨by omega, by omega⟩ dL_law_600 dL_law_601 dL_law_603 dL_law_604 dL_law_605 ?_
  refine s_arg (k0 := 0) (k4 := 4) X S h hl rfl rfl ⟨by omega, by omega⟩ dL_law_606 dL_law_607 dL_law_609 dL_law_610 dL_law_611 ?_
  refine k_i h (r_V (C := RX12) (ci := 12) (As := [.int (iv (sx xs (i + 1))), .int (iv (sx xs (i + 2)))]) (rest := [.int (iv r)]) X h (c_X12_buck l D ct ad L φ N0 σ_1 (sx xs (i + 1)) (sx xs (i + 2)) _ hw) rfl rfl ⟨Nat.le_of_ble_eq_true rfl, Nat.le_of_ble_eq_true rfl⟩ kw_1996 kw_1997 kw_1998 kw_129 kw_1999 ⟨rfl, pd_X12_buck⟩ (hF.1 12 rfl).1 rfl rfl rfl hl.1 rfl (Nat.le_of_ble_eq_true rfl) ⟨by omega, by omega⟩ dL_law_612) (fun r2 σ_2 H locs hw h => ?_)
  refine lv_icmp_eq (tgt := 2584) X.1 X.2.1 dL_law_615 (by decide) (fun _ => ?_) (fun q => absurd (by rw [hw.1]) q)
  refine W.widen (k := cells + 25) (n := slots + 165) (by omega) (by omega) ?_
  exact K σ_2 ad L φ H locs ls hw.2 h hF hm hl
set_option maxRecDepth 100000 in
set_option maxHeartbeats 4000000 in
theorem lc_8 (X : Cx p s m meth c #[Value.ref b] cL_law 7 (some .boolean) RL D ct L φ N0) (S : Sx b LL xs N0 s) (hi : 0 ≤ i ∧ i + 8 ≤ LL) (hr : cells + 25 ≤ room_1.cells ∧ slots + 165 ≤ room_1.slots) (h : Hs D ct ad L φ N0 s.heap σ H locs) (hm : (156, 0) ∈ L) (hl : lv_has ls 7 (lvL b ad i)) (hw : wp_X11_piece σ (sx xs (i + 1)) (sx xs (i + 2)) (sx xs (i + 3)) (fun r σ1 => wp_X12_piece σ1 (sx xs (i + 1)) (sx xs (i + 2)) (sx xs (i + 3)) (fun r2 σ2 => r2 = r ∧ J σ2))) (K : Kn p l e s m below meth c b D ct N0 i cells slots Q J) : W p l e room_1 s m #[Value.ref b] below meth c H locs cells slots Q (F0 m 620 ls []) := by
  have hF := X.2.2.2.2.2.2.2.2.1
  obtain ⟨hi0, hi8⟩ := hi
  obtain ⟨hr1, hr2⟩ := hr
  refine lv_aload_n X.1 X.2.1 dL_law_620 rfl (lv_at hl 1 rfl) ?_
  refine s_arg (k0 := 0) (k4 := 4) X S h hl rfl rfl ⟨by omega, by omega⟩ dL_law_621 dL_law_622 dL_law_624 dL_law_625 dL_law_626 ?_
  refine s_arg (k0 := 0) (k4 := 4) X S h hl rfl rfl ⟨by omega, by omega⟩ dL_law_627 dL_law_628 dL_law_630 dL_law_631 dL_law_632 ?_
  refine s_arg (k0 := 0) (k4 := 4) X S h hl rfl rfl ⟨by omega, by omega⟩ dL_law_633 dL_law_634 dL_law_636 dL_law_637 dL_law_638 ?_
  refine k_i h (r_V (C := RX11) (ci := 11) (As := [.int (iv (sx xs (i + 1))), .int (iv (sx xs (i + 2))), .int (iv (sx xs (i + 3)))]) (rest := []) X h (c_X11_piece l D ct ad L φ N0 σ (sx xs (i + 1)) (sx xs (i + 2)) (sx xs (i + 3)) _ hw) rfl rfl ⟨Nat.le_of_ble_eq_true rfl, Nat.le_of_ble_eq_true rfl⟩ kw_621 kw_622 kw_623 kw_120 kw_624 ⟨rfl, pd_X11_piece⟩ (hF.1 11 rfl).1 rfl rfl rfl hl.1 rfl (Nat.le_of_ble_eq_true rfl) ⟨by omega, by omega⟩ dL_law_639) (fun r σ_1 H locs hw h => ?_)
  refine lv_aload_n X.1 X.2.1 dL_law_642 rfl (lv_at hl 2 rfl) ?_
  refine s_arg (k0 := 0) (k4 := 4) X S h hl rfl rfl ⟨by omega, by omega⟩ dL_law_643 dL_law_644 dL_law_646 dL_law_647 dL_law_648 ?_
  refine s_arg (k0 := 0) (k4 := 4) X S h hl rfl rfl ⟨by omega, by omega⟩ dL_law_649 dL_law_650 dL_law_652 dL_law_653 dL_law_654 ?_
  refine s_arg (k0 := 0) (k4 := 4) X S h hl rfl rfl ⟨by omega, by omega⟩ dL_law_655 dL_law_656 dL_law_658 dL_law_659 dL_law_660 ?_
  refine k_i h (r_V (C := RX12) (ci := 12) (As := [.int (iv (sx xs (i + 1))), .int (iv (sx xs (i + 2))), .int (iv (sx xs (i + 3)))]) (rest := [.int (iv r)]) X h (c_X12_piece l D ct ad L φ N0 σ_1 (sx xs (i + 1)) (sx xs (i + 2)) (sx xs (i + 3)) _ hw) rfl rfl ⟨Nat.le_of_ble_eq_true rfl, Nat.le_of_ble_eq_true rfl⟩ kw_2011 kw_2012 kw_2013 kw_129 kw_2014 ⟨rfl, pd_X12_piece⟩ (hF.1 12 rfl).1 rfl rfl rfl hl.1 rfl (Nat.le_of_ble_eq_true rfl) ⟨by omega, by omega⟩ dL_law_661) (fun r2 σ_2 H locs hw h => ?_)
  refine lv_icmp_eq (tgt := 2584) X.1 X.2.1 dL_law_664 (by decide) (fun _ => ?_) (fun q => absurd (by rw [hw.1]) q)
  refine W.widen (k := cells + 25) (n := slots + 165) (by omega) (by omega) ?_
  exact K σ_2 ad L φ H locs ls hw.2 h hF hm hl
set_option maxRecDepth 100000 in
set_option maxHeartbeats 4000000 in
theorem lc_9 (X : Cx p s m meth c #[Value.ref b] cL_law 7 (some .boolean) RL D ct L φ N0) (S : Sx b LL xs N0 s) (hi : 0 ≤ i ∧ i + 8 ≤ LL) (hr : cells + 25 ≤ room_1.cells ∧ slots + 165 ≤ room_1.slots) (h : Hs D ct ad L φ N0 s.heap σ H locs) (hm : (156, 0) ∈ L) (hl : lv_has ls 7 (lvL b ad i)) (hw : wp_X11_worth σ (sx xs (i + 1)) (sx xs (i + 2)) (sx xs (i + 3)) (fun r σ1 => wp_X12_worth σ1 (sx xs (i + 1)) (sx xs (i + 2)) (sx xs (i + 3)) (fun r2 σ2 => r2 = r ∧ J σ2))) (K : Kn p l e s m below meth c b D ct N0 i cells slots Q J) : W p l e room_1 s m #[Value.ref b] below meth c H locs cells slots Q (F0 m 669 ls []) := by
  have hF := X.2.2.2.2.2.2.2.2.1
  obtain ⟨hi0, hi8⟩ := hi
  obtain ⟨hr1, hr2⟩ := hr
  refine lv_aload_n X.1 X.2.1 dL_law_669 rfl (lv_at hl 1 rfl) ?_
  refine s_arg (k0 := 0) (k4 := 4) X S h hl rfl rfl ⟨by omega, by omega⟩ dL_law_670 dL_law_671 dL_law_673 dL_law_674 dL_law_675 ?_
  refine s_arg (k0 := 0) (k4 := 4) X S h hl rfl rfl ⟨by omega, by omega⟩ dL_law_676 dL_law_677 dL_law_679 dL_law_680 dL_law_681 ?_
  refine s_arg (k0 := 0) (k4 := 4) X S h hl rfl rfl ⟨by omega, by omega⟩ dL_law_682 dL_law_683 dL_law_685 dL_law_686 dL_law_687 ?_
  refine k_i h (r_V (C := RX11) (ci := 11) (As := [.int (iv (sx xs (i + 1))), .int (iv (sx xs (i + 2))), .int (iv (sx xs (i + 3)))]) (rest := []) X h (c_X11_worth l D ct ad L φ N0 σ (sx xs (i + 1)) (sx xs (i + 2)) (sx xs (i + 3)) _ hw) rfl rfl ⟨Nat.le_of_ble_eq_true rfl, Nat.le_of_ble_eq_true rfl⟩ kw_625 kw_626 kw_627 kw_120 kw_628 ⟨rfl, pd_X11_worth⟩ (hF.1 11 rfl).1 rfl rfl rfl hl.1 rfl (Nat.le_of_ble_eq_true rfl) ⟨by omega, by omega⟩ dL_law_688) (fun r σ_1 H locs hw h => ?_)
  refine lv_aload_n X.1 X.2.1 dL_law_691 rfl (lv_at hl 2 rfl) ?_
  refine s_arg (k0 := 0) (k4 := 4) X S h hl rfl rfl ⟨by omega, by omega⟩ dL_law_692 dL_law_693 dL_law_695 dL_law_696 dL_law_697 ?_
  refine s_arg (k0 := 0) (k4 := 4) X S h hl rfl rfl ⟨by omega, by omega⟩ dL_law_698 dL_law_699 dL_law_701 dL_law_702 dL_law_703 ?_
  refine s_arg (k0 := 0) (k4 := 4) X S h hl rfl rfl ⟨by omega, by omega⟩ dL_law_704 dL_law_705 dL_law_707 dL_law_708 dL_law_709 ?_
  refine k_i h (r_V (C := RX12) (ci := 12) (As := [.int (iv (sx xs (i + 1))), .int (iv (sx xs (i + 2))), .int (iv (sx xs (i + 3)))]) (rest := [.int (iv r)]) X h (c_X12_worth l D ct ad L φ N0 σ_1 (sx xs (i + 1)) (sx xs (i + 2)) (sx xs (i + 3)) _ hw) rfl rfl ⟨Nat.le_of_ble_eq_true rfl, Nat.le_of_ble_eq_true rfl⟩ kw_2015 kw_2016 kw_2017 kw_129 kw_2018 ⟨rfl, pd_X12_worth⟩ (hF.1 12 rfl).1 rfl rfl rfl hl.1 rfl (Nat.le_of_ble_eq_true rfl) ⟨by omega, by omega⟩ dL_law_710) (fun r2 σ_2 H locs hw h => ?_)
  refine lv_icmp_eq (tgt := 2584) X.1 X.2.1 dL_law_713 (by decide) (fun _ => ?_) (fun q => absurd (by rw [hw.1]) q)
  refine W.widen (k := cells + 25) (n := slots + 165) (by omega) (by omega) ?_
  exact K σ_2 ad L φ H locs ls hw.2 h hF hm hl
set_option maxRecDepth 100000 in
set_option maxHeartbeats 4000000 in
theorem lc_10 (X : Cx p s m meth c #[Value.ref b] cL_law 7 (some .boolean) RL D ct L φ N0) (S : Sx b LL xs N0 s) (hi : 0 ≤ i ∧ i + 8 ≤ LL) (hr : cells + 25 ≤ room_1.cells ∧ slots + 165 ≤ room_1.slots) (h : Hs D ct ad L φ N0 s.heap σ H locs) (hm : (156, 0) ∈ L) (hl : lv_has ls 7 (lvL b ad i)) (hw : wp_X11_fall σ (sx xs (i + 1)) (sx xs (i + 2)) (sx xs (i + 3)) (sx xs (i + 4)) (sx xs (i + 5)) (fun r σ1 => wp_X12_fall σ1 (sx xs (i + 1)) (sx xs (i + 2)) (sx xs (i + 3)) (sx xs (i + 4)) (sx xs (i + 5)) (fun r2 σ2 => r2 = r ∧ J σ2))) (K : Kn p l e s m below meth c b D ct N0 i cells slots Q J) : W p l e room_1 s m #[Value.ref b] below meth c H locs cells slots Q (F0 m 718 ls []) := by
  have hF := X.2.2.2.2.2.2.2.2.1
  obtain ⟨hi0, hi8⟩ := hi
  obtain ⟨hr1, hr2⟩ := hr
  refine lv_aload_n X.1 X.2.1 dL_law_718 rfl (lv_at hl 1 rfl) ?_
  refine s_arg (k0 := 0) (k4 := 4) X S h hl rfl rfl ⟨by omega, by omega⟩ dL_law_719 dL_law_720 dL_law_722 dL_law_723 dL_law_724 ?_
  refine s_arg (k0 := 0) (k4 := 4) X S h hl rfl rfl ⟨by omega, by omega⟩ dL_law_725 dL_law_726 dL_law_728 dL_law_729 dL_law_730 ?_
  refine s_arg (k0 := 0) (k4 := 4) X S h hl rfl rfl ⟨by omega, by omega⟩ dL_law_731 dL_law_732 dL_law_734 dL_law_735 dL_law_736 ?_
  refine s_arg (k0 := 0) (k4 := 4) X S h hl rfl rfl ⟨by omega, by omega⟩ dL_law_737 dL_law_738 dL_law_740 dL_law_741 dL_law_742 ?_
  refine s_arg (k0 := 0) (k4 := 4) X S h hl rfl rfl ⟨by omega, by omega⟩ dL_law_743 dL_law_744 dL_law_746 dL_law_747 dL_law_748 ?_
  refine k_iw h (r_V (C := RX11) (ci := 11) (As := [.int (iv (sx xs (i + 1))), .int (iv (sx xs (i + 2))), .int (iv (sx xs (i + 3))), .int (iv (sx xs (i + 4))), .int (iv (sx xs (i + 5)))]) (rest := []) X h (c_X11_fall l D ct ad L φ N0 σ (sx xs (i + 1)) (sx xs (i + 2)) (sx xs (i + 3)) (sx xs (i + 4)) (sx xs (i + 5)) _ hw) rfl rfl ⟨Nat.le_of_ble_eq_true rfl, Nat.le_of_ble_eq_true rfl⟩ kw_641 kw_642 kw_643 kw_120 kw_644 ⟨rfl, pd_X11_fall⟩ (hF.1 11 rfl).1 rfl rfl rfl hl.1 rfl (Nat.le_of_ble_eq_true rfl) ⟨by omega, by omega⟩ dL_law_749) (fun r ad1 L1 φ1 σ_1 H locs hw hE hF1 h => ?_)
  have a11 := hE 11 0 (hF.1 11 rfl).1
  have a12 := hE 12 0 (hF.1 12 rfl).1
  have a15 := hE 156 0 hm
  have hl : lv_has ls 7 [(0, .ref b), (1, .ref (ad 11 0)), (2, .ref (ad 12 0)), (3, .ref (ad 156 0)), (4, .int (iv i))] := hl
  rw [← a11.2, ← a12.2, ← a15.2] at hl
  have X := X.grow hF1
  have hF := hF1
  have hm := a15.1
  clear a11 a12 a15
  refine lv_aload_n X.1 X.2.1 dL_law_752 rfl (lv_at hl 2 rfl) ?_
  refine s_arg (k0 := 0) (k4 := 4) X S h hl rfl rfl ⟨by omega, by omega⟩ dL_law_753 dL_law_754 dL_law_756 dL_law_757 dL_law_758 ?_
  refine s_arg (k0 := 0) (k4 := 4) X S h hl rfl rfl ⟨by omega, by omega⟩ dL_law_759 dL_law_760 dL_law_762 dL_law_763 dL_law_764 ?_
  refine s_arg (k0 := 0) (k4 := 4) X S h hl rfl rfl ⟨by omega, by omega⟩ dL_law_765 dL_law_766 dL_law_768 dL_law_769 dL_law_770 ?_
  refine s_arg (k0 := 0) (k4 := 4) X S h hl rfl rfl ⟨by omega, by omega⟩ dL_law_771 dL_law_772 dL_law_774 dL_law_775 dL_law_776 ?_
  refine s_arg (k0 := 0) (k4 := 4) X S h hl rfl rfl ⟨by omega, by omega⟩ dL_law_777 dL_law_778 dL_law_780 dL_law_781 dL_law_782 ?_
  refine k_i h (r_V (C := RX12) (ci := 12) (As := [.int (iv (sx xs (i + 1))), .int (iv (sx xs (i + 2))), .int (iv (sx xs (i + 3))), .int (iv (sx xs (i + 4))), .int (iv (sx xs (i + 5)))]) (rest := [.int (iv r)]) X h (c_X12_fall l D ct ad1 L1 φ1 N0 σ_1 (sx xs (i + 1)) (sx xs (i + 2)) (sx xs (i + 3)) (sx xs (i + 4)) (sx xs (i + 5)) _ hw) rfl rfl ⟨Nat.le_of_ble_eq_true rfl, Nat.le_of_ble_eq_true rfl⟩ kw_2279 kw_2280 kw_2281 kw_129 kw_2282 ⟨rfl, pd_X12_fall⟩ (hF.1 12 rfl).1 rfl rfl rfl hl.1 rfl (Nat.le_of_ble_eq_true rfl) ⟨by omega, by omega⟩ dL_law_783) (fun r2 σ_2 H locs hw h => ?_)
  refine lv_icmp_eq (tgt := 2584) X.1 X.2.1 dL_law_786 (by decide) (fun _ => ?_) (fun q => absurd (by rw [hw.1]) q)
  refine W.widen (k := cells + 25) (n := slots + 165) (by omega) (by omega) ?_
  exact K σ_2 ad1 L1 φ1 H locs ls hw.2 h hF hm hl
set_option maxRecDepth 100000 in
set_option maxHeartbeats 4000000 in
theorem lc_11 (X : Cx p s m meth c #[Value.ref b] cL_law 7 (some .boolean) RL D ct L φ N0) (S : Sx b LL xs N0 s) (hi : 0 ≤ i ∧ i + 8 ≤ LL) (hr : cells + 25 ≤ room_1.cells ∧ slots + 165 ≤ room_1.slots) (h : Hs D ct ad L φ N0 s.heap σ H locs) (hm : (156, 0) ∈ L) (hl : lv_has ls 7 (lvL b ad i)) (hw : wp_X11_way σ (sx xs (i + 1)) (sx xs (i + 2)) (sx xs (i + 3)) (fun r σ1 => wp_X12_way σ1 (sx xs (i + 1)) (sx xs (i + 2)) (sx xs (i + 3)) (fun r2 σ2 => r2 = r ∧ J σ2))) (K : Kn p l e s m below meth c b D ct N0 i cells slots Q J) : W p l e room_1 s m #[Value.ref b] below meth c H locs cells slots Q (F0 m 791 ls []) := by
  have hF := X.2.2.2.2.2.2.2.2.1
  obtain ⟨hi0, hi8⟩ := hi
  obtain ⟨hr1, hr2⟩ := hr
  refine lv_aload_n X.1 X.2.1 dL_law_791 rfl (lv_at hl 1 rfl) ?_
  refine s_arg (k0 := 0) (k4 := 4) X S h hl rfl rfl ⟨by omega, by omega⟩ dL_law_792 dL_law_793 dL_law_795 dL_law_796 dL_law_797 ?_
  refine s_arg (k0 := 0) (k4 := 4) X S h hl rfl rfl ⟨by omega, by omega⟩ dL_law_798 dL_law_799 dL_law_801 dL_law_802 dL_law_803 ?_
  refine s_arg (k0 := 0) (k4 := 4) X S h hl rfl rfl ⟨by omega, by omega⟩ dL_law_804 dL_law_805 dL_law_807 dL_law_808 dL_law_809 ?_
  refine k_iw h (r_V (C := RX11) (ci := 11) (As := [.int (iv (sx xs (i + 1))), .int (iv (sx xs (i + 2))), .int (iv (sx xs (i + 3)))]) (rest := []) X h (c_X11_way l D ct ad L φ N0 σ (sx xs (i + 1)) (sx xs (i + 2)) (sx xs (i + 3)) _ hw) rfl rfl ⟨Nat.le_of_ble_eq_true rfl, Nat.le_of_ble_eq_true rfl⟩ kw_806 kw_807 kw_808 kw_120 kw_809 ⟨rfl, pd_X11_way⟩ (hF.1 11 rfl).1 rfl rfl rfl hl.1 rfl (Nat.le_of_ble_eq_true rfl) ⟨by omega, by omega⟩ dL_law_810) (fun r ad1 L1 φ1 σ_1 H locs hw hE hF1 h => ?_)
  have a11 := hE 11 0 (hF.1 11 rfl).1
  have a12 := hE 12 0 (hF.1 12 rfl).1
  have a15 := hE 156 0 hm
  have hl : lv_has ls 7 [(0, .ref b), (1, .ref (ad 11 0)), (2, .ref (ad 12 0)), (3, .ref (ad 156 0)), (4, .int (iv i))] := hl
  rw [← a11.2, ← a12.2, ← a15.2] at hl
  have X := X.grow hF1
  have hF := hF1
  have hm := a15.1
  clear a11 a12 a15
  refine lv_aload_n X.1 X.2.1 dL_law_813 rfl (lv_at hl 2 rfl) ?_
  refine s_arg (k0 := 0) (k4 := 4) X S h hl rfl rfl ⟨by omega, by omega⟩ dL_law_814 dL_law_815 dL_law_817 dL_law_818 dL_law_819 ?_
  refine s_arg (k0 := 0) (k4 := 4) X S h hl rfl rfl ⟨by omega, by omega⟩ dL_law_820 dL_law_821 dL_law_823 dL_law_824 dL_law_825 ?_
  refine s_arg (k0 := 0) (k4 := 4) X S h hl rfl rfl ⟨by omega, by omega⟩ dL_law_826 dL_law_827 dL_law_829 dL_law_830 dL_law_831 ?_
  refine k_i h (r_V (C := RX12) (ci := 12) (As := [.int (iv (sx xs (i + 1))), .int (iv (sx xs (i + 2))), .int (iv (sx xs (i + 3)))]) (rest := [.int (iv r)]) X h (c_X12_way l D ct ad1 L1 φ1 N0 σ_1 (sx xs (i + 1)) (sx xs (i + 2)) (sx xs (i + 3)) _ hw) rfl rfl ⟨Nat.le_of_ble_eq_true rfl, Nat.le_of_ble_eq_true rfl⟩ kw_2203 kw_2204 kw_2205 kw_129 kw_2206 ⟨rfl, pd_X12_way⟩ (hF.1 12 rfl).1 rfl rfl rfl hl.1 rfl (Nat.le_of_ble_eq_true rfl) ⟨by omega, by omega⟩ dL_law_832) (fun r2 σ_2 H locs hw h => ?_)
  refine lv_icmp_eq (tgt := 2584) X.1 X.2.1 dL_law_835 (by decide) (fun _ => ?_) (fun q => absurd (by rw [hw.1]) q)
  refine W.widen (k := cells + 25) (n := slots + 165) (by omega) (by omega) ?_
  exact K σ_2 ad1 L1 φ1 H locs ls hw.2 h hF hm hl
set_option maxRecDepth 100000 in
set_option maxHeartbeats 4000000 in
theorem lc_12 (X : Cx p s m meth c #[Value.ref b] cL_law 7 (some .boolean) RL D ct L φ N0) (S : Sx b LL xs N0 s) (hi : 0 ≤ i ∧ i + 8 ≤ LL) (hr : cells + 25 ≤ room_1.cells ∧ slots + 165 ≤ room_1.slots) (h : Hs D ct ad L φ N0 s.heap σ H locs) (hm : (156, 0) ∈ L) (hl : lv_has ls 7 (lvL b ad i)) (hw : wp_X11_iron σ (sx xs (i + 1)) (fun r σ1 => wp_X12_iron σ1 (sx xs (i + 1)) (fun r2 σ2 => r2 = r ∧ J σ2))) (K : Kn p l e s m below meth c b D ct N0 i cells slots Q J) : W p l e room_1 s m #[Value.ref b] below meth c H locs cells slots Q (F0 m 840 ls []) := by
  have hF := X.2.2.2.2.2.2.2.2.1
  obtain ⟨hi0, hi8⟩ := hi
  obtain ⟨hr1, hr2⟩ := hr
  refine lv_aload_n X.1 X.2.1 dL_law_840 rfl (lv_at hl 1 rfl) ?_
  refine s_arg (k0 := 0) (k4 := 4) X S h hl rfl rfl ⟨by omega, by omega⟩ dL_law_841 dL_law_842 dL_law_844 dL_law_845 dL_law_846 ?_
  refine k_i h (r_V (C := RX11) (ci := 11) (As := [.int (iv (sx xs (i + 1)))]) (rest := []) X h (c_X11_iron l D ct ad L φ N0 σ (sx xs (i + 1)) _ hw) rfl rfl ⟨Nat.le_of_ble_eq_true rfl, Nat.le_of_ble_eq_true rfl⟩ kw_839 kw_840 kw_841 kw_120 kw_842 ⟨rfl, pd_X11_iron⟩ (hF.1 11 rfl).1 rfl rfl rfl hl.1 rfl (Nat.le_of_ble_eq_true rfl) ⟨by omega, by omega⟩ dL_law_847) (fun r σ_1 H locs hw h => ?_)
  refine lv_aload_n X.1 X.2.1 dL_law_850 rfl (lv_at hl 2 rfl) ?_
  refine s_arg (k0 := 0) (k4 := 4) X S h hl rfl rfl ⟨by omega, by omega⟩ dL_law_851 dL_law_852 dL_law_854 dL_law_855 dL_law_856 ?_
  refine k_i h (r_V (C := RX12) (ci := 12) (As := [.int (iv (sx xs (i + 1)))]) (rest := [.int (iv r)]) X h (c_X12_iron l D ct ad L φ N0 σ_1 (sx xs (i + 1)) _ hw) rfl rfl ⟨Nat.le_of_ble_eq_true rfl, Nat.le_of_ble_eq_true rfl⟩ kw_2210 kw_2211 kw_2212 kw_129 kw_2213 ⟨rfl, pd_X12_iron⟩ (hF.1 12 rfl).1 rfl rfl rfl hl.1 rfl (Nat.le_of_ble_eq_true rfl) ⟨by omega, by omega⟩ dL_law_857) (fun r2 σ_2 H locs hw h => ?_)
  refine lv_icmp_eq (tgt := 2584) X.1 X.2.1 dL_law_860 (by decide) (fun _ => ?_) (fun q => absurd (by rw [hw.1]) q)
  refine W.widen (k := cells + 25) (n := slots + 165) (by omega) (by omega) ?_
  exact K σ_2 ad L φ H locs ls hw.2 h hF hm hl
set_option maxRecDepth 100000 in
set_option maxHeartbeats 4000000 in
theorem lc_13 (X : Cx p s m meth c #[Value.ref b] cL_law 7 (some .boolean) RL D ct L φ N0) (S : Sx b LL xs N0 s) (hi : 0 ≤ i ∧ i + 8 ≤ LL) (hr : cells + 25 ≤ room_1.cells ∧ slots + 165 ≤ room_1.slots) (h : Hs D ct ad L φ N0 s.heap σ H locs) (hm : (156, 0) ∈ L) (hl : lv_has ls 7 (lvL b ad i)) (hw : wp_X11_lay σ (sx xs (i + 1)) (bz (sx xs (i + 2))) (fun r σ1 => wp_X12_lay σ1 (sx xs (i + 1)) (bz (sx xs (i + 2))) (fun r2 σ2 => r2 = r ∧ J σ2))) (K : Kn p l e s m below meth c b D ct N0 i cells slots Q J) : W p l e room_1 s m #[Value.ref b] below meth c H locs cells slots Q (F0 m 865 ls []) := by
  have hF := X.2.2.2.2.2.2.2.2.1
  obtain ⟨hi0, hi8⟩ := hi
  obtain ⟨hr1, hr2⟩ := hr
  refine lv_aload_n X.1 X.2.1 dL_law_865 rfl (lv_at hl 1 rfl) ?_
  refine s_arg (k0 := 0) (k4 := 4) X S h hl rfl rfl ⟨by omega, by omega⟩ dL_law_866 dL_law_867 dL_law_869 dL_law_870 dL_law_871 ?_
  refine s_arg (k0 := 0) (k4 := 4) X S h hl rfl rfl ⟨by omega, by omega⟩ dL_law_872 dL_law_873 dL_law_875 dL_law_876 dL_law_877 ?_
  refine s_bool X (sx_in _ _) dL_law_878 dL_law_881 dL_law_882 dL_law_885 ?_
  refine k_i h (r_V (C := RX11) (ci := 11) (As := [.int (iv (sx xs (i + 1))), .int (iv (bz (sx xs (i + 2))))]) (rest := []) X h (c_X11_lay l D ct ad L φ N0 σ (sx xs (i + 1)) (bz (sx xs (i + 2))) _ hw) rfl rfl ⟨Nat.le_of_ble_eq_true rfl, Nat.le_of_ble_eq_true rfl⟩ kw_843 kw_844 kw_845 kw_120 kw_846 ⟨rfl, pd_X11_lay⟩ (hF.1 11 rfl).1 rfl rfl rfl hl.1 rfl (Nat.le_of_ble_eq_true rfl) ⟨by omega, by omega⟩ dL_law_886) (fun r σ_1 H locs hw h => ?_)
  refine lv_aload_n X.1 X.2.1 dL_law_889 rfl (lv_at hl 2 rfl) ?_
  refine s_arg (k0 := 0) (k4 := 4) X S h hl rfl rfl ⟨by omega, by omega⟩ dL_law_890 dL_law_891 dL_law_893 dL_law_894 dL_law_895 ?_
  refine s_arg (k0 := 0) (k4 := 4) X S h hl rfl rfl ⟨by omega, by omega⟩ dL_law_896 dL_law_897 dL_law_899 dL_law_900 dL_law_901 ?_
  refine s_bool X (sx_in _ _) dL_law_902 dL_law_905 dL_law_906 dL_law_909 ?_
  refine k_i h (r_V (C := RX12) (ci := 12) (As := [.int (iv (sx xs (i + 1))), .int (iv (bz (sx xs (i + 2))))]) (rest := [.int (iv r)]) X h (c_X12_lay l D ct ad L φ N0 σ_1 (sx xs (i + 1)) (bz (sx xs (i + 2))) _ hw) rfl rfl ⟨Nat.le_of_ble_eq_true rfl, Nat.le_of_ble_eq_true rfl⟩ kw_2214 kw_2215 kw_2216 kw_129 kw_2217 ⟨rfl, pd_X12_lay⟩ (hF.1 12 rfl).1 rfl rfl rfl hl.1 rfl (Nat.le_of_ble_eq_true rfl) ⟨by omega, by omega⟩ dL_law_910) (fun r2 σ_2 H locs hw h => ?_)
  refine lv_icmp_eq (tgt := 2584) X.1 X.2.1 dL_law_913 (by decide) (fun _ => ?_) (fun q => absurd (by rw [hw.1]) q)
  refine W.widen (k := cells + 25) (n := slots + 165) (by omega) (by omega) ?_
  exact K σ_2 ad L φ H locs ls hw.2 h hF hm hl
set_option maxRecDepth 100000 in
set_option maxHeartbeats 4000000 in
theorem lc_14 (X : Cx p s m meth c #[Value.ref b] cL_law 7 (some .boolean) RL D ct L φ N0) (S : Sx b LL xs N0 s) (hi : 0 ≤ i ∧ i + 8 ≤ LL) (hr : cells + 25 ≤ room_1.cells ∧ slots + 165 ≤ room_1.slots) (h : Hs D ct ad L φ N0 s.heap σ H locs) (hm : (156, 0) ∈ L) (hl : lv_has ls 7 (lvL b ad i)) (hw : wp_X11_dam σ (sx xs (i + 1)) (fun r σ1 => wp_X12_dam σ1 (sx xs (i + 1)) (fun r2 σ2 => r2 = r ∧ J σ2))) (K : Kn p l e s m below meth c b D ct N0 i cells slots Q J) : W p l e room_1 s m #[Value.ref b] below meth c H locs cells slots Q (F0 m 918 ls []) := by
  have hF := X.2.2.2.2.2.2.2.2.1
  obtain ⟨hi0, hi8⟩ := hi
  obtain ⟨hr1, hr2⟩ := hr
  refine lv_aload_n X.1 X.2.1 dL_law_918 rfl (lv_at hl 1 rfl) ?_
  refine s_arg (k0 := 0) (k4 := 4) X S h hl rfl rfl ⟨by omega, by omega⟩ dL_law_919 dL_law_920 dL_law_922 dL_law_923 dL_law_924 ?_
  refine k_i h (r_V (C := RX11) (ci := 11) (As := [.int (iv (sx xs (i + 1)))]) (rest := []) X h (c_X11_dam l D ct ad L φ N0 σ (sx xs (i + 1)) _ hw) rfl rfl ⟨Nat.le_of_ble_eq_true rfl, Nat.le_of_ble_eq_true rfl⟩ kw_851 kw_852 kw_853 kw_120 kw_854 ⟨rfl, pd_X11_dam⟩ (hF.1 11 rfl).1 rfl rfl rfl hl.1 rfl (Nat.le_of_ble_eq_true rfl) ⟨by omega, by omega⟩ dL_law_925) (fun r σ_1 H locs hw h => ?_)
  refine lv_aload_n X.1 X.2.1 dL_law_928 rfl (lv_at hl 2 rfl) ?_
  refine s_arg (k0 := 0) (k4 := 4) X S h hl rfl rfl ⟨by omega, by omega⟩ dL_law_929 dL_law_930 dL_law_932 dL_law_933 dL_law_934 ?_
  refine k_i h (r_V (C := RX12) (ci := 12) (As := [.int (iv (sx xs (i + 1)))]) (rest := [.int (iv r)]) X h (c_X12_dam l D ct ad L φ N0 σ_1 (sx xs (i + 1)) _ hw) rfl rfl ⟨Nat.le_of_ble_eq_true rfl, Nat.le_of_ble_eq_true rfl⟩ kw_2218 kw_2219 kw_2220 kw_129 kw_2221 ⟨rfl, pd_X12_dam⟩ (hF.1 12 rfl).1 rfl rfl rfl hl.1 rfl (Nat.le_of_ble_eq_true rfl) ⟨by omega, by omega⟩ dL_law_935) (fun r2 σ_2 H locs hw h => ?_)
  refine lv_icmp_eq (tgt := 2584) X.1 X.2.1 dL_law_938 (by decide) (fun _ => ?_) (fun q => absurd (by rw [hw.1]) q)
  refine W.widen (k := cells + 25) (n := slots + 165) (by omega) (by omega) ?_
  exact K σ_2 ad L φ H locs ls hw.2 h hF hm hl
set_option maxRecDepth 100000 in
set_option maxHeartbeats 4000000 in
theorem lc_15 (X : Cx p s m meth c #[Value.ref b] cL_law 7 (some .boolean) RL D ct L φ N0) (S : Sx b LL xs N0 s) (hi : 0 ≤ i ∧ i + 8 ≤ LL) (hr : cells + 25 ≤ room_1.cells ∧ slots + 165 ≤ room_1.slots) (h : Hs D ct ad L φ N0 s.heap σ H locs) (hm : (156, 0) ∈ L) (hl : lv_has ls 7 (lvL b ad i)) (hw : wp_X11_carry σ (sx xs (i + 1)) (fun r σ1 => wp_X12_carry σ1 (sx xs (i + 1)) (fun r2 σ2 => r2 = r ∧ J σ2))) (K : Kn p l e s m below meth c b D ct N0 i cells slots Q J) : W p l e room_1 s m #[Value.ref b] below meth c H locs cells slots Q (F0 m 943 ls []) := by
  have hF := X.2.2.2.2.2.2.2.2.1
  obtain ⟨hi0, hi8⟩ := hi
  obtain ⟨hr1, hr2⟩ := hr
  refine lv_aload_n X.1 X.2.1 dL_law_943 rfl (lv_at hl 1 rfl) ?_
  refine s_arg (k0 := 0) (k4 := 4) X S h hl rfl rfl ⟨by omega, by omega⟩ dL_law_944 dL_law_945 dL_law_947 dL_law_948 dL_law_949 ?_
  refine k_i h (r_V (C := RX11) (ci := 11) (As := [.int (iv (sx xs (i + 1)))]) (rest := []) X h (c_X11_carry l D ct ad L φ N0 σ (sx xs (i + 1)) _ hw) rfl rfl ⟨Nat.le_of_ble_eq_true rfl, Nat.le_of_ble_eq_true rfl⟩ kw_855 kw_856 kw_857 kw_120 kw_858 ⟨rfl, pd_X11_carry⟩ (hF.1 11 rfl).1 rfl rfl rfl hl.1 rfl (Nat.le_of_ble_eq_true rfl) ⟨by omega, by omega⟩ dL_law_950) (fun r σ_1 H locs hw h => ?_)
  refine lv_aload_n X.1 X.2.1 dL_law_953 rfl (lv_at hl 2 rfl) ?_
  refine s_arg (k0 := 0) (k4 := 4) X S h hl rfl rfl ⟨by omega, by omega⟩ dL_law_954 dL_law_955 dL_law_957 dL_law_958 dL_law_959 ?_
  refine k_i h (r_V (C := RX12) (ci := 12) (As := [.int (iv (sx xs (i + 1)))]) (rest := [.int (iv r)]) X h (c_X12_carry l D ct ad L φ N0 σ_1 (sx xs (i + 1)) _ hw) rfl rfl ⟨Nat.le_of_ble_eq_true rfl, Nat.le_of_ble_eq_true rfl⟩ kw_2222 kw_2223 kw_2224 kw_129 kw_2225 ⟨rfl, pd_X12_carry⟩ (hF.1 12 rfl).1 rfl rfl rfl hl.1 rfl (Nat.le_of_ble_eq_true rfl) ⟨by omega, by omega⟩ dL_law_960) (fun r2 σ_2 H locs hw h => ?_)
  refine lv_icmp_eq (tgt := 2584) X.1 X.2.1 dL_law_963 (by decide) (fun _ => ?_) (fun q => absurd (by rw [hw.1]) q)
  refine W.widen (k := cells + 25) (n := slots + 165) (by omega) (by omega) ?_
  exact K σ_2 ad L φ H locs ls hw.2 h hF hm hl
set_option maxRecDepth 100000 in
set_option maxHeartbeats 4000000 in
theorem lc_16 (X : Cx p s m meth c #[Value.ref b] cL_law 7 (some .boolean) RL D ct L φ N0) (S : Sx b LL xs N0 s) (hi : 0 ≤ i ∧ i + 8 ≤ LL) (hr : cells + 25 ≤ room_1.cells ∧ slots + 165 ≤ room_1.slots) (h : Hs D ct ad L φ N0 s.heap σ H locs) (hm : (156, 0) ∈ L) (hl : lv_has ls 7 (lvL b ad i)) (hw : wp_X11_day σ (fun r σ1 => wp_X12_day σ1 (fun r2 σ2 => r2 = r ∧ J σ2))) (K : Kn p l e s m below meth c b D ct N0 i cells slots Q J) : W p l e room_1 s m #[Value.ref b] below meth c H locs cells slots Q (F0 m 968 ls []) := by
  have hF := X.2.2.2.2.2.2.2.2.1
  obtain ⟨hi0, hi8⟩ := hi
  obtain ⟨hr1, hr2⟩ := hr
  refine lv_aload_n X.1 X.2.1 dL_law_968 rfl (lv_at hl 1 rfl) ?_
  refine k_i h (r_V (C := RX11) (ci := 11) (As := []) (rest := []) X h (c_X11_day l D ct ad L φ N0 σ _ hw) rfl rfl ⟨Nat.le_of_ble_eq_true rfl, Nat.le_of_ble_eq_true rfl⟩ kw_878 kw_879 kw_880 kw_120 kw_881 ⟨rfl, pd_X11_day⟩ (hF.1 11 rfl).1 rfl rfl rfl hl.1 rfl (Nat.le_of_ble_eq_true rfl) ⟨by omega, by omega⟩ dL_law_969) (fun r σ_1 H locs hw h => ?_)
  refine lv_aload_n X.1 X.2.1 dL_law_972 rfl (lv_at hl 2 rfl) ?_
  refine k_i h (r_V (C := RX12) (ci := 12) (As := []) (rest := [.int (iv r)]) X h (c_X12_day l D ct ad L φ N0 σ_1 _ hw) rfl rfl ⟨Nat.le_of_ble_eq_true rfl, Nat.le_of_ble_eq_true rfl⟩ kw_2234 kw_2235 kw_2236 kw_129 kw_2237 ⟨rfl, pd_X12_day⟩ (hF.1 12 rfl).1 rfl rfl rfl hl.1 rfl (Nat.le_of_ble_eq_true rfl) ⟨by omega, by omega⟩ dL_law_973) (fun r2 σ_2 H locs hw h => ?_)
  refine lv_icmp_eq (tgt := 2584) X.1 X.2.1 dL_law_976 (by decide) (fun _ => ?_) (fun q => absurd (by rw [hw.1]) q)
  refine W.widen (k := cells + 25) (n := slots + 165) (by omega) (by omega) ?_
  exact K σ_2 ad L φ H locs ls hw.2 h hF hm hl
set_option maxRecDepth 100000 in
set_option maxHeartbeats 4000000 in
theorem lc_17 (X : Cx p s m meth c #[Value.ref b] cL_law 7 (some .boolean) RL D ct L φ N0) (S : Sx b LL xs N0 s) (hi : 0 ≤ i ∧ i + 8 ≤ LL) (hr : cells + 25 ≤ room_1.cells ∧ slots + 165 ≤ room_1.slots) (h : Hs D ct ad L φ N0 s.heap σ H locs) (hm : (156, 0) ∈ L) (hl : lv_has ls 7 (lvL b ad i)) (hw : wp_X11_feed σ (sx xs (i + 1)) (sx xs (i + 2)) (sx xs (i + 3)) (sx xs (i + 4)) (sx xs (i + 5)) (fun r σ1 => wp_X12_feed σ1 (sx xs (i + 1)) (sx xs (i + 2)) (sx xs (i + 3)) (sx xs (i + 4)) (sx xs (i + 5)) (fun r2 σ2 => r2 = r ∧ J σ2))) (K : Kn p l e s m below meth c b D ct N0 i cells slots Q J) : W p l e room_1 s m #[Value.ref b] below meth c H locs cells slots Q (F0 m 981 ls []) := by
  have hF := X.2.2.2.2.2.2.2.2.1
  obtain ⟨hi0, hi8⟩ := hi
  obtain ⟨hr1, hr2⟩ := hr
  refine lv_aload_n X.1 X.2.1 dL_law_981 rfl (lv_at hl 1 rfl) ?_
  refine s_arg (k0 := 0) (k4 := 4) X S h hl rfl rfl ⟨by omega, by omega⟩ dL_law_982 dL_law_983 dL_law_985 dL_law_986 dL_law_987 ?_
  refine s_arg (k0 := 0) (k4 := 4) X S h hl rfl rfl ⟨by omega, by omega⟩ dL_law_988 dL_law_989 dL_law_991 dL_law_992 dL_law_993 ?_
  refine s_arg (k0 := 0) (k4 := 4) X S h hl rfl rfl ⟨by omega, by omega⟩ dL_law_994 dL_law_995 dL_law_997 dL_law_998 dL_law_999 ?_
  refine s_arg (k0 := 0) (k4 := 4) X S h hl rfl rfl ⟨by omega, by omega⟩ dL_law_1000 dL_law_1001 dL_law_1003 dL_law_1004 dL_law_1005 ?_
  refine s_arg (k0 := 0) (k4 := 4) X S h hl rfl rfl ⟨by omega, by omega⟩ dL_law_1006 dL_law_1007 dL_law_1009 dL_law_1010 dL_law_1011 ?_
  refine k_i h (r_V (C := RX11) (ci := 11) (As := [.int (iv (sx xs (i + 1))), .int (iv (sx xs (i + 2))), .int (iv (sx xs (i + 3))), .int (iv (sx xs (i + 4))), .int (iv (sx xs (i + 5)))]) (rest := []) X h (c_X11_feed l D ct ad L φ N0 σ (sx xs (i + 1)) (sx xs (i + 2)) (sx xs (i + 3)) (sx xs (i + 4)) (sx xs (i + 5)) _ hw) rfl rfl ⟨Nat.le_of_ble_eq_true rfl, Nat.le_of_ble_eq_true rfl⟩ kw_933 kw_934 kw_935 kw_120 kw_936 ⟨rfl, pd_X11_feed⟩ (hF.1 11 rfl).1 rfl rfl rfl hl.1 rfl (Nat.le_of_ble_eq_true rfl) ⟨by omega, by omega⟩ dL_law_1012) (fun r σ_1 H locs hw h => ?_)
  refine lv_aload_n X.1 X.2.1 dL_law_1015 rfl (lv_at hl 2 rfl) ?_
  refine s_arg (k0 := 0) (k4 := 4) X S h hl rfl rfl ⟨by omega, by omega⟩ dL_law_1016 dL_law_1017 dL_law_1019 dL_law_1020 dL_law_1021 ?_
  refine s_arg (k0 := 0) (k4 := 4) X S h hl rfl rfl ⟨by omega, by omega⟩ dL_law_1022 dL_law_1023 dL_law_1025 dL_law_1026 dL_law_1027 ?_
  refine s_arg (k0 := 0) (k4 := 4) X S h hl rfl rfl ⟨by omega, by omega⟩ dL_law_1028 dL_law_1029 dL_law_1031 dL_law_1032 dL_law_1033 ?_
  refine s_arg (k0 := 0) (k4 := 4) X S h hl rfl rfl ⟨by omega, by omega⟩ dL_law_1034 dL_law_1035 dL_law_1037 dL_law_1038 dL_law_1039 ?_
  refine s_arg (k0 := 0) (k4 := 4) X S h hl rfl rfl ⟨by omega, by omega⟩ dL_law_1040 dL_law_1041 dL_law_1043 dL_law_1044 dL_law_1045 ?_
  refine k_i h (r_V (C := RX12) (ci := 12) (As := [.int (iv (sx xs (i + 1))), .int (iv (sx xs (i + 2))), .int (iv (sx xs (i + 3))), .int (iv (sx xs (i + 4))), .int (iv (sx xs (i + 5)))]) (rest := [.int (iv r)]) X h (c_X12_feed l D ct ad L φ N0 σ_1 (sx xs (i + 1)) (sx xs (i + 2)) (sx xs (i + 3)) (sx xs (i + 4)) (sx xs (i + 5)) _ hw) rfl rfl ⟨Nat.le_of_ble_eq_true rfl, Nat.le_of_ble_eq_true rfl⟩ kw_2058 kw_2059 kw_2060 kw_129 kw_2061 ⟨rfl, pd_X12_feed⟩ (hF.1 12 rfl).1 rfl rfl rfl hl.1 rfl (Nat.le_of_ble_eq_true rfl) ⟨by omega, by omega⟩ dL_law_1046) (fun r2 σ_2 H locs hw h => ?_)
  refine lv_icmp_eq (tgt := 2584) X.1 X.2.1 dL_law_1049 (by decide) (fun _ => ?_) (fun q => absurd (by rw [hw.1]) q)
  refine W.widen (k := cells + 25) (n := slots + 165) (by omega) (by omega) ?_
  exact K σ_2 ad L φ H locs ls hw.2 h hF hm hl
set_option maxRecDepth 100000 in
set_option maxHeartbeats 4000000 in
theorem lc_18 (X : Cx p s m meth c #[Value.ref b] cL_law 7 (some .boolean) RL D ct L φ N0) (S : Sx b LL xs N0 s) (hi : 0 ≤ i ∧ i + 8 ≤ LL) (hr : cells + 25 ≤ room_1.cells ∧ slots + 165 ≤ room_1.slots) (h : Hs D ct ad L φ N0 s.heap σ H locs) (hm : (156, 0) ∈ L) (hl : lv_has ls 7 (lvL b ad i)) (hw : wp_X11_end σ (sx xs (i + 1)) (fun r σ1 => wp_X12_end σ1 (sx xs (i + 1)) (fun r2 σ2 => r2 = r ∧ J σ2))) (K : Kn p l e s m below meth c b D ct N0 i cells slots Q J) : W p l e room_1 s m #[Value.ref b] below meth c H locs cells slots Q (F0 m 1054 ls []) := by
  have hF := X.2.2.2.2.2.2.2.2.1
  obtain ⟨hi0, hi8⟩ := hi
  obtain ⟨hr1, hr2⟩ := hr
  refine lv_aload_n X.1 X.2.1 dL_law_1054 rfl (lv_at hl 1 rfl) ?_
  refine s_arg (k0 := 0) (k4 := 4) X S h hl rfl rfl ⟨by omega, by omega⟩ dL_law_1055 dL_law_1056 dL_law_1058 dL_law_1059 dL_law_1060 ?_
  refine k_i h (r_V (C := RX11) (ci := 11) (As := [.int (iv (sx xs (i + 1)))]) (rest := []) X h (c_X11_end l D ct ad L φ N0 σ (sx xs (i + 1)) _ hw) rfl rfl ⟨Nat.le_of_ble_eq_true rfl, Nat.le_of_ble_eq_true rfl⟩ kw_941 kw_942 kw_943 kw_120 kw_944 ⟨rfl, pd_X11_end⟩ (hF.1 11 rfl).1 rfl rfl rfl hl.1 rfl (Nat.le_of_ble_eq_true rfl) ⟨by omega, by omega⟩ dL_law_1061) (fun r σ_1 H locs hw h => ?_)
  refine lv_aload_n X.1 X.2.1 dL_law_1064 rfl (lv_at hl 2 rfl) ?_
  refine s_arg (k0 := 0) (k4 := 4) X S h hl rfl rfl ⟨by omega, by omega⟩ dL_law_1065 dL_law_1066 dL_law_1068 dL_law_1069 dL_law_1070 ?_
  refine k_i h (r_V (C := RX12) (ci := 12) (As := [.int (iv (sx xs (i + 1)))]) (rest := [.int (iv r)]) X h (c_X12_end l D ct ad L φ N0 σ_1 (sx xs (i + 1)) _ hw) rfl rfl ⟨Nat.le_of_ble_eq_true rfl, Nat.le_of_ble_eq_true rfl⟩ kw_2062 kw_2063 kw_2064 kw_129 kw_2065 ⟨rfl, pd_X12_end⟩ (hF.1 12 rfl).1 rfl rfl rfl hl.1 rfl (Nat.le_of_ble_eq_true rfl) ⟨by omega, by omega⟩ dL_law_1071) (fun r2 σ_2 H locs hw h => ?_)
  refine lv_icmp_eq (tgt := 2584) X.1 X.2.1 dL_law_1074 (by decide) (fun _ => ?_) (fun q => absurd (by rw [hw.1]) q)
  refine W.widen (k := cells + 25) (n := slots + 165) (by omega) (by omega) ?_
  exact K σ_2 ad L φ H locs ls hw.2 h hF hm hl
set_option maxRecDepth 100000 in
set_option maxHeartbeats 4000000 in
theorem lc_19 (X : Cx p s m meth c #[Value.ref b] cL_law 7 (some .boolean) RL D ct L φ N0) (S : Sx b LL xs N0 s) (hi : 0 ≤ i ∧ i + 8 ≤ LL) (hr : cells + 25 ≤ room_1.cells ∧ slots + 165 ≤ room_1.slots) (h : Hs D ct ad L φ N0 s.heap σ H locs) (hm : (156, 0) ∈ L) (hl : lv_has ls 7 (lvL b ad i)) (hw : wp_X11_law σ (sx xs (i + 1)) (fun r σ1 => wp_X12_law σ1 (sx xs (i + 1)) (fun r2 σ2 => r2 = r ∧ J σ2))) (K : Kn p l e s m below meth c b D ct N0 i cells slots Q J) : W p l e room_1 s m #[Value.ref b] below meth c H locs cells slots Q (F0 m 1079 ls []) := by
  have hF := X.2.2.2.2.2.2.2.2.1
  obtain ⟨hi0, hi8⟩ := hi
  obtain ⟨hr1, hr2⟩ := hr
  refine lv_aload_n X.1 X.2.1 dL_law_1079 rfl (lv_at hl 1 rfl) ?_
  refine s_arg (k0 := 0) (k4 := 4) X S h hl rfl rfl ⟨by omega, by omega⟩ dL_law_1080 dL_law_1081 dL_law_1083 dL_law_1084 dL_law_1085 ?_
  refine k_i h (r_V (C := RX11) (ci := 11) (As := [.int (iv (sx xs (i + 1)))]) (rest := []) X h (c_X11_law l D ct ad L φ N0 σ (sx xs (i + 1)) _ hw) rfl rfl ⟨Nat.le_of_ble_eq_true rfl, Nat.le_of_ble_eq_true rfl⟩ kw_945 kw_946 kw_947 kw_120 kw_948 ⟨rfl, pd_X11_law⟩ (hF.1 11 rfl).1 rfl rfl rfl hl.1 rfl (Nat.le_of_ble_eq_true rfl) ⟨by omega, by omega⟩ dL_law_1086) (fun r σ_1 H locs hw h => ?_)
  refine lv_aload_n X.1 X.2.1 dL_law_1089 rfl (lv_at hl 2 rfl) ?_
  refine s_arg (k0 := 0) (k4 := 4) X S h hl rfl rfl ⟨by omega, by omega⟩ dL_law_1090 dL_law_1091 dL_law_1093 dL_law_1094 dL_law_1095 ?_
  refine k_i h (r_V (C := RX12) (ci := 12) (As := [.int (iv (sx xs (i + 1)))]) (rest := [.int (iv r)]) X h (c_X12_law l D ct ad L φ N0 σ_1 (sx xs (i + 1)) _ hw) rfl rfl ⟨Nat.le_of_ble_eq_true rfl, Nat.le_of_ble_eq_true rfl⟩ kw_2066 kw_2067 kw_2068 kw_129 kw_2069 ⟨rfl, pd_X12_law⟩ (hF.1 12 rfl).1 rfl rfl rfl hl.1 rfl (Nat.le_of_ble_eq_true rfl) ⟨by omega, by omega⟩ dL_law_1096) (fun r2 σ_2 H locs hw h => ?_)
  refine lv_icmp_eq (tgt := 2584) X.1 X.2.1 dL_law_1099 (by decide) (fun _ => ?_) (fun q => absurd (by rw [hw.1]) q)
  refine W.widen (k := cells + 25) (n := slots + 165) (by omega) (by omega) ?_
  exact K σ_2 ad L φ H locs ls hw.2 h hF hm hl
set_option maxRecDepth 100000 in
set_option maxHeartbeats 4000000 in
theorem lc_20 (X : Cx p s m meth c #[Value.ref b] cL_law 7 (some .boolean) RL D ct L φ N0) (S : Sx b LL xs N0 s) (hi : 0 ≤ i ∧ i + 8 ≤ LL) (hr : cells + 25 ≤ room_1.cells ∧ slots + 165 ≤ room_1.slots) (h : Hs D ct ad L φ N0 s.heap σ H locs) (hm : (156, 0) ∈ L) (hl : lv_has ls 7 (lvL b ad i)) (hw : wp_X11_place σ (fun r σ1 => wp_X12_place σ1 (fun r2 σ2 => r2 = r ∧ J σ2))) (K : Kn p l e s m below meth c b D ct N0 i cells slots Q J) : W p l e room_1 s m #[Value.ref b] below meth c H locs cells slots Q (F0 m 1104 ls []) := by
  have hF := X.2.2.2.2.2.2.2.2.1
  obtain ⟨hi0, hi8⟩ := hi
  obtain ⟨hr1, hr2⟩ := hr
  refine lv_aload_n X.1 X.2.1 dL_law_1104 rfl (lv_at hl 1 rfl) ?_
  refine k_i h (r_V (C := RX11) (ci := 11) (As := []) (rest := []) X h (c_X11_place l D ct ad L φ N0 σ _ hw) rfl rfl ⟨Nat.le_of_ble_eq_true rfl, Nat.le_of_ble_eq_true rfl⟩ kw_1163 kw_1164 kw_1165 kw_120 kw_1166 ⟨rfl, pd_X11_place⟩ (hF.1 11 rfl).1 rfl rfl rfl hl.1 rfl (Nat.le_of_ble_eq_true rfl) ⟨by omega, by omega⟩ dL_law_1105) (fun r σ_1 H locs hw h => ?_)
  refine lv_aload_n X.1 X.2.1 dL_law_1108 rfl (lv_at hl 2 rfl) ?_
  refine k_i h (r_V (C := RX12) (ci := 12) (As := []) (rest := [.int (iv r)]) X h (c_X12_place l D ct ad L φ N0 σ_1 _ hw) rfl rfl ⟨Nat.le_of_ble_eq_true rfl, Nat.le_of_ble_eq_true rfl⟩ kw_2130 kw_2131 kw_2132 kw_129 kw_2133 ⟨rfl, pd_X12_place⟩ (hF.1 12 rfl).1 rfl rfl rfl hl.1 rfl (Nat.le_of_ble_eq_true rfl) ⟨by omega, by omega⟩ dL_law_1109) (fun r2 σ_2 H locs hw h => ?_)
  refine lv_icmp_eq (tgt := 2584) X.1 X.2.1 dL_law_1112 (by decide) (fun _ => ?_) (fun q => absurd (by rw [hw.1]) q)
  refine W.widen (k := cells + 25) (n := slots + 165) (by omega) (by omega) ?_
  exact K σ_2 ad L φ H locs ls hw.2 h hF hm hl
set_option maxRecDepth 100000 in
set_option maxHeartbeats 4000000 in
theorem lc_21 (X : Cx p s m meth c #[Value.ref b] cL_law 7 (some .boolean) RL D ct L φ N0) (S : Sx b LL xs N0 s) (hi : 0 ≤ i ∧ i + 8 ≤ LL) (hr : cells + 25 ≤ room_1.cells ∧ slots + 165 ≤ room_1.slots) (h : Hs D ct ad L φ N0 s.heap σ H locs) (hm : (156, 0) ∈ L) (hl : lv_has ls 7 (lvL b ad i)) (hw : wp_X11_why σ (sx xs (i + 1)) (sx xs (i + 2)) (sx xs (i + 3)) (sx xs (i + 4)) (fun r σ1 => wp_X12_why σ1 (sx xs (i + 1)) (sx xs (i + 2)) (sx xs (i + 3)) (sx xs (i + 4)) (fun r2 σ2 => r2 = r ∧ J σ2))) (K : Kn p l e s m below meth c b D ct N0 i cells slots Q J) : W p l e room_1 s m #[Value.ref b] below meth c H locs cells slots Q (F0 m 1117 ls []) := by
  have hF := X.2.2.2.2.2.2.2.2.1
  obtain ⟨hi0, hi8⟩ := hi
  obtain ⟨hr1, hr2⟩ := hr
  refine lv_aload_n X.1 X.2.1 dL_law_1117 rfl (lv_at hl 1 rfl) ?_
  refine s_arg (k0 := 0) (k4 := 4) X S h hl rfl rfl ⟨by omega, by omega⟩ dL_law_1118 dL_law_1119 dL_law_1121 dL_law_1122 dL_law_1123 ?_
  refine s_arg (k0 := 0) (k4 := 4) X S h hl rfl rfl ⟨by omega, by omega⟩ dL_law_1124 dL_law_1125 dL_law_1127 dL_law_1128 dL_law_1129 ?_
  refine s_arg (k0 := 0) (k4 := 4) X S h hl rfl rfl ⟨by omega, by omega⟩ dL_law_1130 dL_law_1131 dL_law_1133 dL_law_1134 dL_law_1135 ?_
  refine s_arg (k0 := 0) (k4 := 4) X S h hl rfl rfl ⟨by omega, by omega⟩ dL_law_1136 dL_law_1137 dL_law_1139 dL_law_1140 dL_law_1141 ?_
  refine k_i h (r_V (C := RX11) (ci := 11) (As := [.int (iv (sx xs (i + 1))), .int (iv (sx xs (i + 2))), .int (iv (sx xs (i + 3))), .int (iv (sx xs (i + 4)))]) (rest := []) X h (c_X11_why l D ct ad L φ N0 σ (sx xs (i + 1)) (sx xs (i + 2)) (sx xs (i + 3)) (sx xs (i + 4)) _ hw) rfl rfl ⟨Nat.le_of_ble_eq_true rfl, Nat.le_of_ble_eq_true rfl⟩ kw_1167 kw_1168 kw_1169 kw_120 kw_1170 ⟨rfl, pd_X11_why⟩ (hF.1 11 rfl).1 rfl rfl rfl hl.1 rfl (Nat.le_of_ble_eq_true rfl) ⟨by omega, by omega⟩ dL_law_1142) (fun r σ_1 H locs hw h => ?_)
  refine lv_aload_n X.1 X.2.1 dL_law_1145 rfl (lv_at hl 2 rfl) ?_
  refine s_arg (k0 := 0) (k4 := 4) X S h hl rfl rfl ⟨by omega, by omega⟩ dL_law_1146 dL_law_1147 dL_law_1149 dL_law_1150 dL_law_1151 ?_
  refine s_arg (k0 := 0) (k4 := 4) X S h hl rfl rfl ⟨by omega, by omega⟩ dL_law_1152 dL_law_1153 dL_law_1155 dL_law_1156 dL_law_1157 ?_
  refine s_arg (k0 := 0) (k4 := 4) X S h hl rfl rfl ⟨by omega, by omega⟩ dL_law_1158 dL_law_1159 dL_law_1161 dL_law_1162 dL_law_1163 ?_
  refine s_arg (k0 := 0) (k4 := 4) X S h hl rfl rfl ⟨by omega, by omega⟩ dL_law_1164 dL_law_1165 dL_law_1167 dL_law_1168 dL_law_1169 ?_
  refine k_i h (r_V (C := RX12) (ci := 12) (As := [.int (iv (sx xs (i + 1))), .int (iv (sx xs (i + 2))), .int (iv (sx xs (i + 3))), .int (iv (sx xs (i + 4)))]) (rest := [.int (iv r)]) X h (c_X12_why l D ct ad L φ N0 σ_1 (sx xs (i + 1)) (sx xs (i + 2)) (sx xs (i + 3)) (sx xs (i + 4)) _ hw) rfl rfl ⟨Nat.le_of_ble_eq_true rfl, Nat.le_of_ble_eq_true rfl⟩ kw_2134 kw_2135 kw_2136 kw_129 kw_2137 ⟨rfl, pd_X12_why⟩ (hF.1 12 rfl).1 rfl rfl rfl hl.1 rfl (Nat.le_of_ble_eq_true rfl) ⟨by omega, by omega⟩ dL_law_1170) (fun r2 σ_2 H locs hw h => ?_)
  refine lv_icmp_eq (tgt := 2584) X.1 X.2.1 dL_law_1173 (by decide) (fun _ => ?_) (fun q => absurd (by rw [hw.1]) q)
  refine W.widen (k := cells + 25) (n := slots + 165) (by omega) (by omega) ?_
  exact K σ_2 ad L φ H locs ls hw.2 h hF hm hl
set_option maxRecDepth 100000 in
set_option maxHeartbeats 4000000 in
theorem lc_22 (X : Cx p s m meth c #[Value.ref b] cL_law 7 (some .boolean) RL D ct L φ N0) (S : Sx b LL xs N0 s) (hi : 0 ≤ i ∧ i + 8 ≤ LL) (hr : cells + 25 ≤ room_1.cells ∧ slots + 165 ≤ room_1.slots) (h : Hs D ct ad L φ N0 s.heap σ H locs) (hm : (156, 0) ∈ L) (hl : lv_has ls 7 (lvL b ad i)) (hw : wp_X11_whyWay σ (sx xs (i + 1)) (fun r σ1 => wp_X12_whyWay σ1 (sx xs (i + 1)) (fun r2 σ2 => r2 = r ∧ J σ2))) (K : Kn p l e s m below meth c b D ct N0 i cells slots Q J) : W p l e room_1 s m #[Value.ref b] below meth c H locs cells slots Q (F0 m 1178 ls []) := by
  have hF := X.2.2.2.2.2.2.2.2.1
  obtain ⟨hi0, hi8⟩ := hi
  obtain ⟨hr1, hr2⟩ := hr
  refine lv_aload_n X.1 X.2.1 dL_law_1178 rfl (lv_at hl 1 rfl) ?_
  refine s_arg (k0 := 0) (k4 := 4) X S h hl rfl rfl ⟨by omega, by omega⟩ dL_law_1179 dL_law_1180 dL_law_1182 dL_law_1183 dL_law_1184 ?_
  refine k_i h (r_V (C := RX11) (ci := 11) (As := [.int (iv (sx xs (i + 1)))]) (rest := []) X h (c_X11_whyWay l D ct ad L φ N0 σ (sx xs (i + 1)) _ hw) rfl rfl ⟨Nat.le_of_ble_eq_true rfl, Nat.le_of_ble_eq_true rfl⟩ kw_1171 kw_1172 kw_1173 kw_120 kw_1174 ⟨rfl, pd_X11_whyWay⟩ (hF.1 11 rfl).1 rfl rfl rfl hl.1 rfl (Nat.le_of_ble_eq_true rfl) ⟨by omega, by omega⟩ dL_law_1185) (fun r σ_1 H locs hw h => ?_)
  refine lv_aload_n X.1 X.2.1 dL_law_1188 rfl (lv_at hl 2 rfl) ?_
  refine s_arg (k0 := 0) (k4 := 4) X S h hl rfl rfl ⟨by omega, by omega⟩ dL_law_1189 dL_law_1190 dL_law_1192 dL_law_1193 dL_law_1194 ?_
  refine k_i h (r_V (C := RX12) (ci := 12) (As := [.int (iv (sx xs (i + 1)))]) (rest := [.int (iv r)]) X h (c_X12_whyWay l D ct ad L φ N0 σ_1 (sx xs (i + 1)) _ hw) rfl rfl ⟨Nat.le_of_ble_eq_true rfl, Nat.le_of_ble_eq_true rfl⟩ kw_2179 kw_2180 kw_2181 kw_129 kw_2182 ⟨rfl, pd_X12_whyWay⟩ (hF.1 12 rfl).1 rfl rfl rfl hl.1 rfl (Nat.le_of_ble_eq_true rfl) ⟨by omega, by omega⟩ dL_law_1195) (fun r2 σ_2 H locs hw h => ?_)
  refine lv_icmp_eq (tgt := 2584) X.1 X.2.1 dL_law_1198 (by decide) (fun _ => ?_) (fun q => absurd (by rw [hw.1]) q)
  refine W.widen (k := cells + 25) (n := slots + 165) (by omega) (by omega) ?_
  exact K σ_2 ad L φ H locs ls hw.2 h hF hm hl
set_option maxRecDepth 100000 in
set_option maxHeartbeats 4000000 in
theorem lc_23 (X : Cx p s m meth c #[Value.ref b] cL_law 7 (some .boolean) RL D ct L φ N0) (S : Sx b LL xs N0 s) (hi : 0 ≤ i ∧ i + 8 ≤ LL) (hr : cells + 25 ≤ room_1.cells ∧ slots + 165 ≤ room_1.slots) (h : Hs D ct ad L φ N0 s.heap σ H locs) (hm : (156, 0) ∈ L) (hl : lv_has ls 7 (lvL b ad i)) (hw : wp_X11_due σ (sx xs (i + 1)) (sx xs (i + 2)) (fun r σ1 => wp_X12_due σ1 (sx xs (i + 1)) (sx xs (i + 2)) (fun r2 σ2 => r2 = r ∧ J σ2))) (K : Kn p l e s m below meth c b D ct N0 i cells slots Q J) : W p l e room_1 s m #[Value.ref b] below meth c H locs cells slots Q (F0 m 1203 ls []) := by
  have hF := X.2.2.2.2.2.2.2.2.1
  obtain ⟨hi0, hi8⟩ := hi
  obtain ⟨hr1, hr2⟩ := hr
  refine lv_aload_n X.1 X.2.1 dL_law_1203 rfl (lv_at hl 1 rfl) ?_
  refine s_arg (k0 := 0) (k4 := 4) X S h hl rfl rfl ⟨by omega, by omega⟩ dL_law_1204 dL_law_1205 dL_law_1207 dL_law_1208 dL_law_1209 ?_
  refine s_arg (k0 := 0) (k4 := 4) X S h hl rfl rfl ⟨by omega, by omega⟩ dL_law_1210 dL_law_1211 dL_law_1213 dL_law_1214 dL_law_1215 ?_
  refine k_i h (r_V (C := RX11) (ci := 11) (As := [.int (iv (sx xs (i + 1))), .int (iv (sx xs (i + 2)))]) (rest := []) X h (c_X11_due l D ct ad L φ N0 σ (sx xs (i + 1)) (sx xs (i + 2)) _ hw) rfl rfl ⟨Nat.le_of_ble_eq_true rfl, Nat.le_of_ble_eq_true rfl⟩ kw_1175 kw_1176 kw_1177 kw_120 kw_1178 ⟨rfl, pd_X11_due⟩ (hF.1 11 rfl).1 rfl rfl rfl hl.1 rfl (Nat.le_of_ble_eq_true rfl) ⟨by omega, by omega⟩ dL_law_1216) (fun r σ_1 H locs hw h => ?_)
  refine lv_aload_n X.1 X.2.1 dL_law_1219 rfl (lv_at hl 2 rfl) ?_
  refine s_arg (k0 := 0) (k4 := 4) X S h hl rfl rfl ⟨by omega, by omega⟩ dL_law_1220 dL_law_1221 dL_law_1223 dL_law_1224 dL_law_1225 ?_
  refine s_arg (k0 := 0) (k4 := 4) X S h hl rfl rfl ⟨by omega, by omega⟩ dL_law_1226 dL_law_1227 dL_law_1229 dL_law_1230 dL_law_1231 ?_
  refine k_i h (r_V (C := RX12) (ci := 12) (As := [.int (iv (sx xs (i + 1))), .int (iv (sx xs (i + 2)))]) (rest := [.int (iv r)]) X h (c_X12_due l D ct ad L φ N0 σ_1 (sx xs (i + 1)) (sx xs (i + 2)) _ hw) rfl rfl ⟨Nat.le_of_ble_eq_true rfl, Nat.le_of_ble_eq_true rfl⟩ kw_2191 kw_2192 kw_2193 kw_129 kw_2194 ⟨rfl, pd_X12_due⟩ (hF.1 12 rfl).1 rfl rfl rfl hl.1 rfl (Nat.le_of_ble_eq_true rfl) ⟨by omega, by omega⟩ dL_law_1232) (fun r2 σ_2 H locs hw h => ?_)
  refine lv_icmp_eq (tgt := 2584) X.1 X.2.1 dL_law_1235 (by decide) (fun _ => ?_) (fun q => absurd (by rw [hw.1]) q)
  refine W.widen (k := cells + 25) (n := slots + 165) (by omega) (by omega) ?_
  exact K σ_2 ad L φ H locs ls hw.2 h hF hm hl
set_option maxRecDepth 100000 in
set_option maxHeartbeats 4000000 in
theorem lc_24 (X : Cx p s m meth c #[Value.ref b] cL_law 7 (some .boolean) RL D ct L φ N0) (S : Sx b LL xs N0 s) (hi : 0 ≤ i ∧ i + 8 ≤ LL) (hr : cells + 25 ≤ room_1.cells ∧ slots + 165 ≤ room_1.slots) (h : Hs D ct ad L φ N0 s.heap σ H locs) (hm : (156, 0) ∈ L) (hl : lv_has ls 7 (lvL b ad i)) (hw : wp_X11_crew σ (sx xs (i + 1)) (fun r σ1 => wp_X12_crew σ1 (sx xs (i + 1)) (fun r2 σ2 => r2 = r ∧ J σ2))) (K : Kn p l e s m below meth c b D ct N0 i cells slots Q J) : W p l e room_1 s m #[Value.ref b] below meth c H locs cells slots Q (F0 m 1240 ls []) := by
  have hF := X.2.2.2.2.2.2.2.2.1
  obtain ⟨hi0, hi8⟩ := hi
  obtain ⟨hr1, hr2⟩ := hr
  refine lv_aload_n X.1 X.2.1 dL_law_1240 rfl (lv_at hl 1 rfl) ?_
  refine s_arg (k0 := 0) (k4 := 4) X S h hl rfl rfl ⟨by omega, by omega⟩ dL_law_1241 dL_law_1242 dL_law_1244 dL_law_1245 dL_law_1246 ?_
  refine k_iw h (r_V (C := RX11) (ci := 11) (As := [.int (iv (sx xs (i + 1)))]) (rest := []) X h (c_X11_crew l D ct ad L φ N0 σ (sx xs (i + 1)) _ hw) rfl rfl ⟨Nat.le_of_ble_eq_true rfl, Nat.le_of_ble_eq_true rfl⟩ kw_1179 kw_1180 kw_1181 kw_120 kw_1182 ⟨rfl, pd_X11_crew⟩ (hF.1 11 rfl).1 rfl rfl rfl hl.1 rfl (Nat.le_of_ble_eq_true rfl) ⟨by omega, by omega⟩ dL_law_1247) (fun r ad1 L1 φ1 σ_1 H locs hw hE hF1 h => ?_)
  have a11 := hE 11 0 (hF.1 11 rfl).1
  have a12 := hE 12 0 (hF.1 12 rfl).1
  have a15 := hE 156 0 hm
  have hl : lv_has ls 7 [(0, .ref b), (1, .ref (ad 11 0)), (2, .ref (ad 12 0)), (3, .ref (ad 156 0)), (4, .int (iv i))] := hl
  rw [← a11.2, ← a12.2, ← a15.2] at hl
  have X := X.grow hF1
  have hF := hF1
  have hm := a15.1
  clear a11 a12 a15
  refine lv_aload_n X.1 X.2.1 dL_law_1250 rfl (lv_at hl 2 rfl) ?_
  refine s_arg (k0 := 0) (k4 := 4) X S h hl rfl rfl ⟨by omega, by omega⟩ dL_law_1251 dL_law_1252 dL_law_1254 dL_law_1255 dL_law_1256 ?_
  refine k_i h (r_V (C := RX12) (ci := 12) (As := [.int (iv (sx xs (i + 1)))]) (rest := [.int (iv r)]) X h (c_X12_crew l D ct ad1 L1 φ1 N0 σ_1 (sx xs (i + 1)) _ hw) rfl rfl ⟨Nat.le_of_ble_eq_true rfl, Nat.le_of_ble_eq_true rfl⟩ kw_2254 kw_2255 kw_2256 kw_129 kw_2257 ⟨rfl, pd_X12_crew⟩ (hF.1 12 rfl).1 rfl rfl rfl hl.1 rfl (Nat.le_of_ble_eq_true rfl) ⟨by omega, by omega⟩ dL_law_1257) (fun r2 σ_2 H locs hw h => ?_)
  refine lv_icmp_eq (tgt := 2584) X.1 X.2.1 dL_law_1260 (by decide) (fun _ => ?_) (fun q => absurd (by rw [hw.1]) q)
  refine W.widen (k := cells + 25) (n := slots + 165) (by omega) (by omega) ?_
  exact K σ_2 ad1 L1 φ1 H locs ls hw.2 h hF hm hl
set_option maxRecDepth 100000 in
set_option maxHeartbeats 4000000 in
theorem lc_25 (X : Cx p s m meth c #[Value.ref b] cL_law 7 (some .boolean) RL D ct L φ N0) (S : Sx b LL xs N0 s) (hi : 0 ≤ i ∧ i + 8 ≤ LL) (hr : cells + 25 ≤ room_1.cells ∧ slots + 165 ≤ room_1.slots) (h : Hs D ct ad L φ N0 s.heap σ H locs) (hm : (156, 0) ∈ L) (hl : lv_has ls 7 (lvL b ad i)) (hw : wp_X11_shop σ (sx xs (i + 1)) (sx xs (i + 2)) (fun r σ1 => wp_X12_shop σ1 (sx xs (i + 1)) (sx xs (i + 2)) (fun r2 σ2 => r2 = r ∧ J σ2))) (K : Kn p l e s m below meth c b D ct N0 i cells slots Q J) : W p l e room_1 s m #[Value.ref b] below meth c H locs cells slots Q (F0 m 1265 ls []) := by
  have hF := X.2.2.2.2.2.2.2.2.1
  obtain ⟨hi0, hi8⟩ := hi
  obtain ⟨hr1, hr2⟩ := hr
  refine lv_aload_n X.1 X.2.1 dL_law_1265 rfl (lv_at hl 1 rfl) ?_
  refine s_arg (k0 := 0) (k4 := 4) X S h hl rfl rfl ⟨by omega, by omega⟩ dL_law_1266 dL_law_1267 dL_law_1269 dL_law_1270 dL_law_1271 ?_
  refine s_arg (k0 := 0) (k4 := 4) X S h hl rfl rfl ⟨by omega, by omega⟩ dL_law_1272 dL_law_1273 dL_law_1275 dL_law_1276 dL_law_1277 ?_
  refine k_i h (r_V (C := RX11) (ci := 11) (As := [.int (iv (sx xs (i + 1))), .int (iv (sx xs (i + 2)))]) (rest := []) X h (c_X11_shop l D ct ad L φ N0 σ (sx xs (i + 1)) (sx xs (i + 2)) _ hw) rfl rfl ⟨Nat.le_of_ble_eq_true rfl, Nat.le_of_ble_eq_true rfl⟩ kw_1209 kw_1210 kw_1211 kw_120 kw_1212 ⟨rfl, pd_X11_shop⟩ (hF.1 11 rfl).1 rfl rfl rfl hl.1 rfl (Nat.le_of_ble_eq_true rfl) ⟨by omega, by omega⟩ dL_law_1278) (fun r σ_1 H locs hw h => ?_)
  refine lv_aload_n X.1 X.2.1 dL_law_1281 rfl (lv_at hl 2 rfl) ?_
  refine s_arg (k0 := 0) (k4 := 4) X S h hl rfl rfl ⟨by omega, by omega⟩ dL_law_1282 dL_law_1283 dL_law_1285 dL_law_1286 dL_law_1287 ?_
  refine s_arg (k0 := 0) (k4 := 4) X S h hl rfl rfl ⟨by omega, by omega⟩ dL_law_1288 dL_law_1289 dL_law_1291 dL_law_1292 dL_law_1293 ?_
  refine k_i h (r_V (C := RX12) (ci := 12) (As := [.int (iv (sx xs (i + 1))), .int (iv (sx xs (i + 2)))]) (rest := [.int (iv r)]) X h (c_X12_shop l D ct ad L φ N0 σ_1 (sx xs (i + 1)) (sx xs (i + 2)) _ hw) rfl rfl ⟨Nat.le_of_ble_eq_true rfl, Nat.le_of_ble_eq_true rfl⟩ kw_2258 kw_2259 kw_2260 kw_129 kw_2261 ⟨rfl, pd_X12_shop⟩ (hF.1 12 rfl).1 rfl rfl rfl hl.1 rfl (Nat.le_of_ble_eq_true rfl) ⟨by omega, by omega⟩ dL_law_1294) (fun r2 σ_2 H locs hw h => ?_)
  refine lv_icmp_eq (tgt := 2584) X.1 X.2.1 dL_law_1297 (by decide) (fun _ => ?_) (fun q => absurd (by rw [hw.1]) q)
  refine W.widen (k := cells + 25) (n := slots + 165) (by omega) (by omega) ?_
  exact K σ_2 ad L φ H locs ls hw.2 h hF hm hl
set_option maxRecDepth 100000 in
set_option maxHeartbeats 4000000 in
theorem lc_26 (X : Cx p s m meth c #[Value.ref b] cL_law 7 (some .boolean) RL D ct L φ N0) (S : Sx b LL xs N0 s) (hi : 0 ≤ i ∧ i + 8 ≤ LL) (hr : cells + 25 ≤ room_1.cells ∧ slots + 165 ≤ room_1.slots) (h : Hs D ct ad L φ N0 s.heap σ H locs) (hm : (156, 0) ∈ L) (hl : lv_has ls 7 (lvL b ad i)) (hw : wp_X11_leave σ (sx xs (i + 1)) (fun r σ1 => wp_X12_leave σ1 (sx xs (i + 1)) (fun r2 σ2 => r2 = r ∧ J σ2))) (K : Kn p l e s m below meth c b D ct N0 i cells slots Q J) : W p l e room_1 s m #[Value.ref b] below meth c H locs cells slots Q (F0 m 1302 ls []) := by
  have hF := X.2.2.2.2.2.2.2.2.1
  obtain ⟨hi0, hi8⟩ := hi
  obtain ⟨hr1, hr2⟩ := hr
  refine lv_aload_n X.1 X.2.1 dL_law_1302 rfl (lv_at hl 1 rfl) ?_
  refine s_arg (k0 := 0) (k4 := 4) X S h hl rfl rfl ⟨by omega, by omega⟩ dL_law_1303 dL_law_1304 dL_law_1306 dL_law_1307 dL_law_1308 ?_
  refine k_i h (r_V (C := RX11) (ci := 11) (As := [.int (iv (sx xs (i + 1)))]) (rest := []) X h (c_X11_leave l D ct ad L φ N0 σ (sx xs (i + 1)) _ hw) rfl rfl ⟨Nat.le_of_ble_eq_true rfl, Nat.le_of_ble_eq_true rfl⟩ kw_1213 kw_1214 kw_1215 kw_120 kw_1216 ⟨rfl, pd_X11_leave⟩ (hF.1 11 rfl).1 rfl rfl rfl hl.1 rfl (Nat.le_of_ble_eq_true rfl) ⟨by omega, by omega⟩ dL_law_1309) (fun r σ_1 H locs hw h => ?_)
  refine lv_aload_n X.1 X.2.1 dL_law_1312 rfl (lv_at hl 2 rfl) ?_
  refine s_arg (k0 := 0) (k4 := 4) X S h hl rfl rfl ⟨by omega, by omega⟩ dL_law_1313 dL_law_1314 dL_law_1316 dL_law_1317 dL_law_1318 ?_
  refine k_i h (r_V (C := RX12) (ci := 12) (As := [.int (iv (sx xs (i + 1)))]) (rest := [.int (iv r)]) X h (c_X12_leave l D ct ad L φ N0 σ_1 (sx xs (i + 1)) _ hw) rfl rfl ⟨Nat.le_of_ble_eq_true rfl, Nat.le_of_ble_eq_true rfl⟩ kw_2262 kw_2263 kw_2264 kw_129 kw_2265 ⟨rfl, pd_X12_leave⟩ (hF.1 12 rfl).1 rfl rfl rfl hl.1 rfl (Nat.le_of_ble_eq_true rfl) ⟨by omega, by omega⟩ dL_law_1319) (fun r2 σ_2 H locs hw h => ?_)
  refine lv_icmp_eq (tgt := 2584) X.1 X.2.1 dL_law_1322 (by decide) (fun _ => ?_) (fun q => absurd (by rw [hw.1]) q)
  refine W.widen (k := cells + 25) (n := slots + 165) (by omega) (by omega) ?_
  exact K σ_2 ad L φ H locs ls hw.2 h hF hm hl
set_option maxRecDepth 100000 in
set_option maxHeartbeats 4000000 in
theorem lc_27 (X : Cx p s m meth c #[Value.ref b] cL_law 7 (some .boolean) RL D ct L φ N0) (S : Sx b LL xs N0 s) (hi : 0 ≤ i ∧ i + 8 ≤ LL) (hr : cells + 25 ≤ room_1.cells ∧ slots + 165 ≤ room_1.slots) (h : Hs D ct ad L φ N0 s.heap σ H locs) (hm : (156, 0) ∈ L) (hl : lv_has ls 7 (lvL b ad i)) (hw : wp_X11_lease σ (sx xs (i + 1)) (fun r σ1 => wp_X12_lease σ1 (sx xs (i + 1)) (fun r2 σ2 => r2 = r ∧ J σ2))) (K : Kn p l e s m below meth c b D ct N0 i cells slots Q J) : W p l e room_1 s m #[Value.ref b] below meth c H locs cells slots Q (F0 m 1327 ls []) := by
  have hF := X.2.2.2.2.2.2.2.2.1
  obtain ⟨hi0, hi8⟩ := hi
  obtain ⟨hr1, hr2⟩ := hr
  refine lv_aload_n X.1 X.2.1 dL_law_1327 rfl (lv_at hl 1 rfl) ?_
  refine s_arg (k0 := 0) (k4 := 4) X S h hl rfl rfl ⟨by omega, by omega⟩ dL_law_1328 dL_law_1329 dL_law_1331 dL_law_1332 dL_law_1333 ?_
  refine k_i h (r_V (C := RX11) (ci := 11) (As := [.int (iv (sx xs (i + 1)))]) (rest := []) X h (c_X11_lease l D ct ad L φ N0 σ (sx xs (i + 1)) _ hw) rfl rfl ⟨Nat.le_of_ble_eq_true rfl, Nat.le_of_ble_eq_true rfl⟩ kw_1231 kw_1232 kw_1233 kw_120 kw_1234 ⟨rfl, pd_X11_lease⟩ (hF.1 11 rfl).1 rfl rfl rfl hl.1 rfl (Nat.le_of_ble_eq_true rfl) ⟨by omega, by omega⟩ dL_law_1334) (fun r σ_1 H locs hw h => ?_)
  refine lv_aload_n X.1 X.2.1 dL_law_1337 rfl (lv_at hl 2 rfl) ?_
  refine s_arg (k0 := 0) (k4 := 4) X S h hl rfl rfl ⟨by omega, by omega⟩ dL_law_1338 dL_law_1339 dL_law_1341 dL_law_1342 dL_law_1343 ?_
  refine k_i h (r_V (C := RX12) (ci := 12) (As := [.int (iv (sx xs (i + 1)))]) (rest := [.int (iv r)]) X h (c_X12_lease l D ct ad L φ N0 σ_1 (sx xs (i + 1)) _ hw) rfl rfl ⟨Nat.le_of_ble_eq_true rfl, Nat.le_of_ble_eq_true rfl⟩ kw_2267 kw_2268 kw_2269 kw_129 kw_2270 ⟨rfl, pd_X12_lease⟩ (hF.1 12 rfl).1 rfl rfl rfl hl.1 rfl (Nat.le_of_ble_eq_true rfl) ⟨by omega, by omega⟩ dL_law_1344) (fun r2 σ_2 H locs hw h => ?_)
  refine lv_icmp_eq (tgt := 2584) X.1 X.2.1 dL_law_1347 (by decide) (fun _ => ?_) (fun q => absurd (by rw [hw.1]) q)
  refine W.widen (k := cells + 25) (n := slots + 165) (by omega) (by omega) ?_
  exact K σ_2 ad L φ H locs ls hw.2 h hF hm hl
end LC
