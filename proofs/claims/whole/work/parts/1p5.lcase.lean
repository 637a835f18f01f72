/-! the law's cases, walked by program -/
section LC
variable {p : Program} {l : Launch} {e : Env} {s : State} {m : MethodId} {below : List Frame} {meth : Method} {c : Code} {H : Heap} {locs : List Loc} {cells slots : Nat} {Q : State → Prop}
variable {ls : Array Slot} {D : va_G} {ct : Nat → ClassId} {ad : Nat → Nat → Nat} {L : List (Nat × Nat)} {φ : Nat → Nat → Nat → Bool} {N0 : Nat} {σ : St} {b LL : Nat} {xs : Nat → Int32} {i : Int} {J : St → Prop}
set_option maxRecDepth 100000 in
set_option maxHeartbeats 4000000 in
theorem lc_28 (X : Cx p s m meth c #[Value.ref b] cL_law 7 (some .boolean) RL D ct L φ N0) (S : Sx b LL xs N0 s) (hi : 0 ≤ i ∧ i + 8 ≤ LL) (hr : cells + 25 ≤ room_1.cells ∧ slots + 165 ≤ room_1.slots) (h : Hs D ct ad L φ N0 s.heap σ H locs) (hm : (156, 0) ∈ L) (hl : lv_has ls 7 (lvL b ad i)) (hw : wp_X11_scale σ (sx xs (i + 1)) (sx xs (i + 2)) (fun r σ1 => wp_X12_scale σ1 (sx xs (i + 1)) (sx xs (i + 2)) (fun r2 σ2 => r2 = r ∧ J σ2))) (K : Kn p l e s m below meth c b D ct N0 i cells slots Q J) : W p l e room_1 s m #[Value.ref b] below meth c H locs cells slots Q (F0 m 1352 ls []) := by
  have hF := X.2.2.2.2.2.2.2.2.1
  obtain ⟨hi0, hi8⟩ := hi
  obtain ⟨hr1, hr2⟩ := hr
  refine lv_aload_n X.1 X.2.1 dL_law_1352 rfl (lv_at hl 1 rfl) ?_
  refine s_arg (k0 := 0) (k4 := 4) X S h hl rfl rfl ⟨by omega, by omega⟩ dL_law_1353 dL_law_1354 dL_law_1356 dL_law_1357 dL_law_1358 ?_
  refine s_arg (k0 := 0) (k4 := 4) X S h hl rfl rfl ⟨by omega, by omega⟩ dL_law_1359 dL_law_1360 dL_law_1362 dL_law_1363 dL_law_1364 ?_
  refine k_i h (r_V (C := RX11) (ci := 11) (As := [.int (iv (sx xs (i + 1))), .int (iv (sx xs (i + 2)))]) (rest := []) X h (c_X11_scale l D ct ad L φ N0 σ (sx xs (i + 1)) (sx xs (i + 2)) _ hw) rfl rfl ⟨Nat.le_of_ble_eq_true rfl, Nat.le_of_ble_eq_true rfl⟩ kw_1235 kw_1236 kw_1237 kw_120 kw_1238 ⟨rfl, pd_X11_scale⟩ (hF.1 11 rfl).1 rfl rfl rfl hl.1 rfl (Nat.le_of_ble_eq_true rfl) ⟨by omega, by omega⟩ dL_law_1365) (fun r σ_1 H locs hw h => ?_)
  refine lv_aload_n X.1 X.2.1 dL_law_1368 rfl (lv_at hl 2 rfl) ?_
  refine s_arg (k0 := 0) (k4 := 4) X S h hl rfl rfl ⟨by omega, by omega⟩ dL_law_1369 dL_law_1370 dL_law_1372 dL_law_1373 dL_law_1374 ?_
  refine s_arg (k0 := 0) (k4 := 4) X S h hl rfl rfl ⟨by omega, by omega⟩ dL_law_1375 dL_law_1376 dL_law_1378 dL_law_1379 dL_law_1380 ?_
  refine k_i h (r_V (C := RX12) (ci := 12) (As := [.int (iv (sx xs (i + 1))), .int (iv (sx xs (i + 2)))]) (rest := [.int (iv r)]) X h (c_X12_scale l D ct ad L φ N0 σ_1 (sx xs (i + 1)) (sx xs (i + 2)) _ hw) rfl rfl ⟨Nat.le_of_ble_eq_true rfl, Nat.le_of_ble_eq_true rfl⟩ kw_2271 kw_2272 kw_2273 kw_129 kw_2274 ⟨rfl, pd_X12_scale⟩ (hF.1 12 rfl).1 rfl rfl rfl hl.1 rfl (Nat.le_of_ble_eq_true rfl) ⟨by omega, by omega⟩ dL_law_1381) (fun r2 σ_2 H locs hw h => ?_)
  refine lv_icmp_eq (tgt := 2584) X.1 X.2.1 dL_law_1384 (by decide) (fun _ => ?_) (fun q => absurd (by rw [hw.1]) q)
  refine W.widen (k := cells + 25) (n := slots + 165) (by omega) (by omega) ?_
  exact K σ_2 ad L φ H locs ls hw.2 h hF hm hl
set_option maxRecDepth 100000 in
set_option maxHeartbeats 4000000 in
theorem lc_29 (X : Cx p s m meth c #[Value.ref b] cL_law 7 (some .boolean) RL D ct L φ N0) (S : Sx b LL xs N0 s) (hi : 0 ≤ i ∧ i + 8 ≤ LL) (hr : cells + 25 ≤ room_1.cells ∧ slots + 165 ≤ room_1.slots) (h : Hs D ct ad L φ N0 s.heap σ H locs) (hm : (156, 0) ∈ L) (hl : lv_has ls 7 (lvL b ad i)) (hw : wp_X11_found σ (sx xs (i + 1)) (sx xs (i + 2)) (sx xs (i + 3)) (fun r σ1 => wp_X12_found σ1 (sx xs (i + 1)) (sx xs (i + 2)) (sx xs (i + 3)) (fun r2 σ2 => r2 = r ∧ J σ2))) (K : Kn p l e s m below meth c b D ct N0 i cells slots Q J) : W p l e room_1 s m #[Value.ref b] below meth c H locs cells slots Q (F0 m 1389 ls []) := by
  have hF := X.2.2.2.2.2.2.2.2.1
  obtain ⟨hi0, hi8⟩ := hi
  obtain ⟨hr1, hr2⟩ := hr
  refine lv_aload_n X.1 X.2.1 dL_law_1389 rfl (lv_at hl 1 rfl) ?_
  refine s_arg (k0 := 0) (k4 := 4) X S h hl rfl rfl ⟨by omega, by omega⟩ dL_law_1390 dL_law_1391 dL_law_1393 dL_law_1394 dL_law_1395 ?_
  refine s_arg (k0 := 0) (k4 := 4) X S h hl rfl rfl ⟨by omega, by omega⟩ dL_law_1396 dL_law_1397 dL_law_1399 dL_law_1400 dL_law_1401 ?_
  refine s_arg (k0 := 0) (k4 := 4) X S h hl rfl rfl ⟨by omega, by omega⟩ dL_law_1402 dL_law_1403 dL_law_1405 dL_law_1406 dL_law_1407 ?_
  refine k_i h (r_V (C := RX11) (ci := 11) (As := [.int (iv (sx xs (i + 1))), .int (iv (sx xs (i + 2))), .int (iv (sx xs (i + 3)))]) (rest := []) X h (c_X11_found l D ct ad L φ N0 σ (sx xs (i + 1)) (sx xs (i + 2)) (sx xs (i + 3)) _ hw) rfl rfl ⟨Nat.le_of_ble_eq_true rfl, Nat.le_of_ble_eq_true rfl⟩ kw_1239 kw_1240 kw_1241 kw_120 kw_1242 ⟨rfl, pd_X11_found⟩ (hF.1 11 rfl).1 rfl rfl rfl hl.1 rfl (Nat.le_of_ble_eq_true rfl) ⟨by omega, by omega⟩ dL_law_1408) (fun r σ_1 H locs hw h => ?_)
  refine lv_aload_n X.1 X.2.1 dL_law_1411 rfl (lv_at hl 2 rfl) ?_
  refine s_arg (k0 := 0) (k4 := 4) X S h hl rfl rfl ⟨by omega, by omega⟩ dL_law_1412 dL_law_1413 dL_law_1415 dL_law_1416 dL_law_1417 ?_
  refine s_arg (k0 := 0) (k4 := 4) X S h hl rfl rfl ⟨by omega, by omega⟩ dL_law_1418 dL_law_1419 dL_law_1421 dL_law_1422 dL_law_1423 ?_
  refine s_arg (k0 := 0) (k4 := 4) X S h hl rfl rfl ⟨by omega, by omega⟩ dL_law_1424 dL_law_1425 dL_law_1427 dL_law_1428 dL_law_1429 ?_
  refine k_i h (r_V (C := RX12) (ci := 12) (As := [.int (iv (sx xs (i + 1))), .int (iv (sx xs (i + 2))), .int (iv (sx xs (i + 3)))]) (rest := [.int (iv r)]) X h (c_X12_found l D ct ad L φ N0 σ_1 (sx xs (i + 1)) (sx xs (i + 2)) (sx xs (i + 3)) _ hw) rfl rfl ⟨Nat.le_of_ble_eq_true rfl, Nat.le_of_ble_eq_true rfl⟩ kw_2287 kw_2288 kw_2289 kw_129 kw_2290 ⟨rfl, pd_X12_found⟩ (hF.1 12 rfl).1 rfl rfl rfl hl.1 rfl (Nat.le_of_ble_eq_true rfl) ⟨by omega, by omega⟩ dL_law_1430) (fun r2 σ_2 H locs hw h => ?_)
  refine lv_icmp_eq (tgt := 2584) X.1 X.2.1 dL_law_1433 (by decide) (fun _ => ?_) (fun q => absurd (by rw [hw.1]) q)
  refine W.widen (k := cells + 25) (n := slots + 165) (by omega) (by omega) ?_
  exact K σ_2 ad L φ H locs ls hw.2 h hF hm hl
set_option maxRecDepth 100000 in
set_option maxHeartbeats 4000000 in
theorem lc_30 (X : Cx p s m meth c #[Value.ref b] cL_law 7 (some .boolean) RL D ct L φ N0) (S : Sx b LL xs N0 s) (hZ : Zx N0 s) (hl0 : l.stackTraces = false) (hi : 0 ≤ i ∧ i + 8 ≤ LL) (hr : cells + 25 ≤ room_1.cells ∧ slots + 165 ≤ room_1.slots) (h : Hs D ct ad L φ N0 s.heap σ H locs) (hm : (156, 0) ∈ L) (hl : lv_has ls 7 (lvL b ad i)) (hw : wp_X11_hand σ (sx xs (i + 1)) (sx xs (i + 2)) (fun r σ1 => (fun k σ1 => wp_X12_hand σ1 (sx xs (i + 1)) (sx xs (i + 2)) (fun r2 σ2 => wp_X12_thrown σ2 (fun t σ3 => t = k ∧ (k = 0 ∨ k = 1) ∧ (k = 0 → σ3 156 0 0 = r2) ∧ J σ3))) 0 (st σ1 156 0 0 r)) (fun σ1 => (fun k σ1 => wp_X12_hand σ1 (sx xs (i + 1)) (sx xs (i + 2)) (fun r2 σ2 => wp_X12_thrown σ2 (fun t σ3 => t = k ∧ (k = 0 ∨ k = 1) ∧ (k = 0 → σ3 156 0 0 = r2) ∧ J σ3))) 1 σ1)) (K : Kn p l e s m below meth c b D ct N0 i cells slots Q J) : W p l e room_1 s m #[Value.ref b] below meth c H locs cells slots Q (F0 m 1438 ls []) := by
  have hF := X.2.2.2.2.2.2.2.2.1
  obtain ⟨hi0, hi8⟩ := hi
  obtain ⟨hr1, hr2⟩ := hr
  refine lv_aload_n X.1 X.2.1 dL_law_1438 rfl (lv_at hl 1 rfl) ?_
  refine s_arg (k0 := 0) (k4 := 4) X S h hl rfl rfl ⟨by omega, by omega⟩ dL_law_1439 dL_law_1440 dL_law_1442 dL_law_1443 dL_law_1444 ?_
  refine s_arg (k0 := 0) (k4 := 4) X S h hl rfl rfl ⟨by omega, by omega⟩ dL_law_1445 dL_law_1446 dL_law_1448 dL_law_1449 dL_law_1450 ?_
  refine lv_aload_n X.1 X.2.1 dL_law_1451 rfl (lv_at hl 3 rfl) ?_
  refine k_i h (r_SH (As := [.ref (ad 11 0), .int (iv (sx xs (i + 1))), .int (iv (sx xs (i + 2))), .ref (ad 156 0)]) (rest := []) X hZ h (c_L_hand l hl0 D ct ad L φ N0 hm σ (sx xs (i + 1)) (sx xs (i + 2)) (fun k σ1 => wp_X12_hand σ1 (sx xs (i + 1)) (sx xs (i + 2)) (fun r2 σ2 => wp_X12_thrown σ2 (fun t σ3 => t = k ∧ (k = 0 ∨ k = 1) ∧ (k = 0 → σ3 156 0 0 = r2) ∧ J σ3))) hw) rfl rfl ⟨Nat.le_of_ble_eq_true rfl, Nat.le_of_ble_eq_true rfl⟩ kw_1539 kw_1540 kw_119 kw_1541 pd_L_hand rfl hl.1 rfl (Nat.le_of_ble_eq_true rfl) ⟨by omega, by omega⟩ dL_law_1452) (fun k σ_1 H locs hw h => ?_)
  refine lv_istore (lv' := [(5, .int (iv k)), (0, .ref b), (1, .ref (ad 11 0)), (2, .ref (ad 12 0)), (3, .ref (ad 156 0)), (4, .int (iv i))]) X.1 X.2.1 dL_law_1455 hl (by decide) rfl (fun ls hl => ?_)
  refine lv_aload_n X.1 X.2.1 dL_law_1457 rfl (lv_at hl 3 rfl) ?_
  refine s_arg (k0 := 1) (k4 := 5) X S h hl rfl rfl ⟨by omega, by omega⟩ dL_law_1458 dL_law_1459 dL_law_1461 dL_law_1462 dL_law_1463 ?_
  refine s_arg (k0 := 1) (k4 := 5) X S h hl rfl rfl ⟨by omega, by omega⟩ dL_law_1464 dL_law_1465 dL_law_1467 dL_law_1468 dL_law_1469 ?_
  refine k_i h (r_V (C := RX12) (ci := 12) (As := [.int (iv (sx xs (i + 1))), .int (iv (sx xs (i + 2)))]) (rest := []) X h (c_X12_hand l D ct ad L φ N0 σ_1 (sx xs (i + 1)) (sx xs (i + 2)) _ hw) rfl rfl ⟨Nat.le_of_ble_eq_true rfl, Nat.le_of_ble_eq_true rfl⟩ kw_2291 kw_2292 kw_2293 kw_129 kw_2294 ⟨rfl, pd_X12_hand⟩ (hF.1 12 rfl).1 rfl rfl rfl hl.1 rfl (Nat.le_of_ble_eq_true rfl) ⟨by omega, by omega⟩ dL_law_1470) (fun r2 σ_2 H locs hw h => ?_)
  refine lv_istore (lv' := [(6, .int (iv r2)), (5, .int (iv k)), (0, .ref b), (1, .ref (ad 11 0)), (2, .ref (ad 12 0)), (3, .ref (ad 156 0)), (4, .int (iv i))]) X.1 X.2.1 dL_law_1473 hl (by decide) rfl (fun ls hl => ?_)
  refine lv_aload_n X.1 X.2.1 dL_law_1475 rfl (lv_at hl 4 rfl) ?_
  refine k_i h (r_V (C := RX12) (ci := 12) (As := []) (rest := []) X h (c_X12_thrown l D ct ad L φ N0 σ_2 _ hw) rfl rfl ⟨Nat.le_of_ble_eq_true rfl, Nat.le_of_ble_eq_true rfl⟩ kw_1948 kw_1949 kw_1950 kw_129 kw_1951 ⟨rfl, pd_X12_thrown⟩ (hF.1 12 rfl).1 rfl rfl rfl hl.1 rfl (Nat.le_of_ble_eq_true rfl) ⟨by omega, by omega⟩ dL_law_1476) (fun t σ_3 H locs hw h => ?_)
  obtain ⟨w1, w2, w3, w4⟩ := hw
  refine lv_iload X.1 X.2.1 dL_law_1479 (lv_at hl 1 rfl) ?_
  refine lv_icmp_eq (tgt := 1486) X.1 X.2.1 dL_law_1481 (by decide) (fun _ => ?_) (fun q => absurd (by rw [w1]) q)
  refine lv_iload X.1 X.2.1 dL_law_1486 (lv_at hl 1 rfl) ?_
  have fin : W p l e room_1 s m #[Value.ref b] below meth c H locs (cells + 1 + 0 + 0) (slots + 6 + 0 + 0) Q (F0 m 1503 ls []) := by
    refine lv_goto (tgt := 2584) X.1 X.2.1 dL_law_1503 (by decide) ?_
    refine W.widen (k := cells + 25) (n := slots + 165) (by omega) (by omega) ?_
    exact K σ_3 ad L φ H locs ls w4 h hF hm (lv_sub hl [2, 3, 4, 5, 6] rfl)
  refine j_if_ne (tgt := 1503) X (by rcases w2 with rfl | rfl <;> exact ⟨by decide, by decide⟩) dL_law_1488 (by decide) (fun _ => fin) (fun q => ?_)
  refine lv_aload_n X.1 X.2.1 dL_law_1491 rfl (lv_at hl 5 rfl) ?_
  refine j_iconst X dL_law_1492 ?_
  refine r_lald X h hm dL_law_1493 ?_
  refine lv_iload X.1 X.2.1 dL_law_1494 (lv_at hl 0 rfl) ?_
  refine lv_i2l X.1 X.2.1 dL_law_1496 rfl ?_
  refine W.lcmp X.1 X.2.1 dL_law_1497 ?_
  rw [w3 q, lg_cmp_self]
  exact lv_if_eq (tgt := 1503) X.1 X.2.1 dL_law_1498 (by decide) (fun _ => fin) (fun z => absurd rfl z)
set_option maxRecDepth 100000 in
set_option maxHeartbeats 4000000 in
theorem lc_31 (X : Cx p s m meth c #[Value.ref b] cL_law 7 (some .boolean) RL D ct L φ N0) (S : Sx b LL xs N0 s) (hi : 0 ≤ i ∧ i + 8 ≤ LL) (hr : cells + 25 ≤ room_1.cells ∧ slots + 165 ≤ room_1.slots) (h : Hs D ct ad L φ N0 s.heap σ H locs) (hm : (156, 0) ∈ L) (hl : lv_has ls 7 (lvL b ad i)) (hw : wp_X11_order σ (sx xs (i + 1)) (sx xs (i + 2)) (sx xs (i + 3)) (sx xs (i + 4)) (sx xs (i + 5)) (fun r σ1 => wp_X12_order σ1 (sx xs (i + 1)) (sx xs (i + 2)) (sx xs (i + 3)) (sx xs (i + 4)) (sx xs (i + 5)) (fun r2 σ2 => r2 = r ∧ J σ2))) (K : Kn p l e s m below meth c b D ct N0 i cells slots Q J) : W p l e room_1 s m #[Value.ref b] below meth c H locs cells slots Q (F0 m 1506 ls []) := by
  have hF := X.2.2.2.2.2.2.2.2.1
  obtain ⟨hi0, hi8⟩ := hi
  obtain ⟨hr1, hr2⟩ := hr
  refine lv_aload_n X.1 X.2.1 dL_law_1506 rfl (lv_at hl 1 rfl) ?_
  refine s_arg (k0 := 0) (k4 := 4) X S h hl rfl rfl ⟨by omega, by omega⟩ dL_law_1507 dL_law_1508 dL_law_1510 dL_law_1511 dL_law_1512 ?_
  refine s_arg (k0 := 0) (k4 := 4) X S h hl rfl rfl ⟨by omega, by omega⟩ dL_law_1513 dL_law_1514 dL_law_1516 dL_law_1517 dL_law_1518 ?_
  refine s_arg (k0 := 0) (k4 := 4) X S h hl rfl rfl ⟨by omega, by omega⟩ dL_law_1519 dL_law_1520 dL_law_1522 dL_law_1523 dL_law_1524 ?_
  refine s_arg (k0 := 0) (k4 := 4) X S h hl rfl rfl ⟨by omega, by omega⟩ dL_law_1525 dL_law_1526 dL_law_1528 dL_law_1529 dL_law_1530 ?_
  refine s_arg (k0 := 0) (k4 := 4) X S h hl rfl rfl ⟨by omega, by omega⟩ dL_law_1531 dL_law_1532 dL_law_1534 dL_law_1535 dL_law_1536 ?_
  refine k_i h (r_V (C := RX11) (ci := 11) (As := [.int (iv (sx xs (i + 1))), .int (iv (sx xs (i + 2))), .int (iv (sx xs (i + 3))), .int (iv (sx xs (i + 4))), .int (iv (sx xs (i + 5)))]) (rest := []) X h (c_X11_order l D ct ad L φ N0 σ (sx xs (i + 1)) (sx xs (i + 2)) (sx xs (i + 3)) (sx xs (i + 4)) (sx xs (i + 5)) _ hw) rfl rfl ⟨Nat.le_of_ble_eq_true rfl, Nat.le_of_ble_eq_true rfl⟩ kw_1243 kw_1244 kw_1245 kw_120 kw_1246 ⟨rfl, pd_X11_order⟩ (hF.1 11 rfl).1 rfl rfl rfl hl.1 rfl (Nat.le_of_ble_eq_true rfl) ⟨by omega, by omega⟩ dL_law_1537) (fun r σ_1 H locs hw h => ?_)
  refine lv_aload_n X.1 X.2.1 dL_law_1540 rfl (lv_at hl 2 rfl) ?_
  refine s_arg (k0 := 0) (k4 := 4) X S h hl rfl rfl ⟨by omega, by omega⟩ dL_law_1541 dL_law_1542 dL_law_1544 dL_law_1545 dL_law_1546 ?_
  refine s_arg (k0 := 0) (k4 := 4) X S h hl rfl rfl ⟨by omega, by omega⟩ dL_law_1547 dL_law_1548 dL_law_1550 dL_law_1551 dL_law_1552 ?_
  refine s_arg (k0 := 0) (k4 := 4) X S h hl rfl rfl ⟨by omega, by omega⟩ dL_law_1553 dL_law_1554 dL_law_1556 dL_law_1557 dL_law_1558 ?_
  refine s_arg (k0 := 0) (k4 := 4) X S h hl rfl rfl ⟨by omega, by omega⟩ dL_law_1559 dL_law_1560 dL_law_1562 dL_law_1563 dL_law_1564 ?_
  refine s_arg (k0 := 0) (k4 := 4) X S h hl rfl rfl ⟨by omega, by omega⟩ dL_law_1565 dL_law_1566 dL_law_1568 dL_law_1569 dL_law_1570 ?_
  refine k_i h (r_V (C := RX12) (ci := 12) (As := [.int (iv (sx xs (i + 1))), .int (iv (sx xs (i + 2))), .int (iv (sx xs (i + 3))), .int (iv (sx xs (i + 4))), .int (iv (sx xs (i + 5)))]) (rest := [.int (iv r)]) X h (c_X12_order l D ct ad L φ N0 σ_1 (sx xs (i + 1)) (sx xs (i + 2)) (sx xs (i + 3)) (sx xs (i + 4)) (sx xs (i + 5)) _ hw) rfl rfl ⟨Nat.le_of_ble_eq_true rfl, Nat.le_of_ble_eq_true rfl⟩ kw_2296 kw_2297 kw_2298 kw_129 kw_2299 ⟨rfl, pd_X12_order⟩ (hF.1 12 rfl).1 rfl rfl rfl hl.1 rfl (Nat.le_of_ble_eq_true rfl) ⟨by omega, by omega⟩ dL_law_1571) (fun r2 σ_2 H locs hw h => ?_)
  refine lv_icmp_eq (tgt := 2584) X.1 X.2.1 dL_law_1574 (by decide) (fun _ => ?_) (fun q => absurd (by rw [hw.1]) q)
  refine W.widen (k := cells + 25) (n := slots + 165) (by omega) (by omega) ?_
  exact K σ_2 ad L φ H locs ls hw.2 h hF hm hl
set_option maxRecDepth 100000 in
set_option maxHeartbeats 4000000 in
theorem lc_32 (X : Cx p s m meth c #[Value.ref b] cL_law 7 (some .boolean) RL D ct L φ N0) (S : Sx b LL xs N0 s) (hi : 0 ≤ i ∧ i + 8 ≤ LL) (hr : cells + 25 ≤ room_1.cells ∧ slots + 165 ≤ room_1.slots) (h : Hs D ct ad L φ N0 s.heap σ H locs) (hm : (156, 0) ∈ L) (hl : lv_has ls 7 (lvL b ad i)) (hw : wp_X11_best σ (sx xs (i + 1)) (fun r σ1 => wp_X12_best σ1 (sx xs (i + 1)) (fun r2 σ2 => r2 = r ∧ J σ2))) (K : Kn p l e s m below meth c b D ct N0 i cells slots Q J) : W p l e room_1 s m #[Value.ref b] below meth c H locs cells slots Q (F0 m 1579 ls []) := by
  have hF := X.2.2.2.2.2.2.2.2.1
  obtain ⟨hi0, hi8⟩ := hi
  obtain ⟨hr1, hr2⟩ := hr
  refine lv_aload_n X.1 X.2.1 dL_law_1579 rfl (lv_at hl 1 rfl) ?_
  refine s_arg (k0 := 0) (k4 := 4) X S h hl rfl rfl ⟨by omega, by omega⟩ dL_law_1580 dL_law_1581 dL_law_1583 dL_law_1584 dL_law_1585 ?_
  refine k_i h (r_V (C := RX11) (ci := 11) (As := [.int (iv (sx xs (i + 1)))]) (rest := []) X h (c_X11_best l D ct ad L φ N0 σ (sx xs (i + 1)) _ hw) rfl rfl ⟨Nat.le_of_ble_eq_true rfl, Nat.le_of_ble_eq_true rfl⟩ kw_1251 kw_1252 kw_1253 kw_120 kw_1254 ⟨rfl, pd_X11_best⟩ (hF.1 11 rfl).1 rfl rfl rfl hl.1 rfl (Nat.le_of_ble_eq_true rfl) ⟨by omega, by omega⟩ dL_law_1586) (fun r σ_1 H locs hw h => ?_)
  refine lv_aload_n X.1 X.2.1 dL_law_1589 rfl (lv_at hl 2 rfl) ?_
  refine s_arg (k0 := 0) (k4 := 4) X S h hl rfl rfl ⟨by omega, by omega⟩ dL_law_1590 dL_law_1591 dL_law_1593 dL_law_1594 dL_law_1595 ?_
  refine k_i h (r_V (C := RX12) (ci := 12) (As := [.int (iv (sx xs (i + 1)))]) (rest := [.int (iv r)]) X h (c_X12_best l D ct ad L φ N0 σ_1 (sx xs (i + 1)) _ hw) rfl rfl ⟨Nat.le_of_ble_eq_true rfl, Nat.le_of_ble_eq_true rfl⟩ kw_2300 kw_2301 kw_2302 kw_129 kw_2303 ⟨rfl, pd_X12_best⟩ (hF.1 12 rfl).1 rfl rfl rfl hl.1 rfl (Nat.le_of_ble_eq_true rfl) ⟨by omega, by omega⟩ dL_law_1596) (fun r2 σ_2 H locs hw h => ?_)
  refine lv_icmp_eq (tgt := 2584) X.1 X.2.1 dL_law_1599 (by decide) (fun _ => ?_) (fun q => absurd (by rw [hw.1]) q)
  refine W.widen (k := cells + 25) (n := slots + 165) (by omega) (by omega) ?_
  exact K σ_2 ad L φ H locs ls hw.2 h hF hm hl
set_option maxRecDepth 100000 in
set_option maxHeartbeats 4000000 in
theorem lc_33 (X : Cx p s m meth c #[Value.ref b] cL_law 7 (some .boolean) RL D ct L φ N0) (S : Sx b LL xs N0 s) (hi : 0 ≤ i ∧ i + 8 ≤ LL) (hr : cells + 25 ≤ room_1.cells ∧ slots + 165 ≤ room_1.slots) (h : Hs D ct ad L φ N0 s.heap σ H locs) (hm : (156, 0) ∈ L) (hl : lv_has ls 7 (lvL b ad i)) (hw : wp_X11_board σ (sx xs (i + 1)) (sx xs (i + 2)) (fun r σ1 => wp_X12_board σ1 (sx xs (i + 1)) (sx xs (i + 2)) (fun r2 σ2 => r2 = r ∧ J σ2))) (K : Kn p l e s m below meth c b D ct N0 i cells slots Q J) : W p l e room_1 s m #[Value.ref b] below meth c H locs cells slots Q (F0 m 1604 ls []) := by
  have hF := X.2.2.2.2.2.2.2.2.1
  obtain ⟨hi0, hi8⟩ := hi
  obtain ⟨hr1, hr2⟩ := hr
  refine lv_aload_n X.1 X.2.1 dL_law_1604 rfl (lv_at hl 1 rfl) ?_
  refine s_arg (k0 := 0) (k4 := 4) X S h hl rfl rfl ⟨by omega, by omega⟩ dL_law_1605 dL_law_1606 dL_law_1608 dL_law_1609 dL_law_1610 ?_
  refine s_arg (k0 := 0) (k4 := 4) X S h hl rfl rfl ⟨by omega, by omega⟩ dL_law_1611 dL_law_1612 dL_law_1614 dL_law_1615 dL_law_1616 ?_
  refine k_i h (r_V (C := RX11) (ci := 11) (As := [.int (iv (sx xs (i + 1))), .int (iv (sx xs (i + 2)))]) (rest := []) X h (c_X11_board l D ct ad L φ N0 σ (sx xs (i + 1)) (sx xs (i + 2)) _ hw) rfl rfl ⟨Nat.le_of_ble_eq_true rfl, Nat.le_of_ble_eq_true rfl⟩ kw_1280 kw_1281 kw_1282 kw_120 kw_1283 ⟨rfl, pd_X11_board⟩ (hF.1 11 rfl).1 rfl rfl rfl hl.1 rfl (Nat.le_of_ble_eq_true rfl) ⟨by omega, by omega⟩ dL_law_1617) (fun r σ_1 H locs hw h => ?_)
  refine lv_aload_n X.1 X.2.1 dL_law_1620 rfl (lv_at hl 2 rfl) ?_
  refine s_arg (k0 := 0) (k4 := 4) X S h hl rfl rfl ⟨by omega, by omega⟩ dL_law_1621 dL_law_1622 dL_law_1624 dL_law_1625 dL_law_1626 ?_
  refine s_arg (k0 := 0) (k4 := 4) X S h hl rfl rfl ⟨by omega, by omega⟩ dL_law_1627 dL_law_1628 dL_law_1630 dL_law_1631 dL_law_1632 ?_
  refine k_i h (r_V (C := RX12) (ci := 12) (As := [.int (iv (sx xs (i + 1))), .int (iv (sx xs (i + 2)))]) (rest := [.int (iv r)]) X h (c_X12_board l D ct ad L φ N0 σ_1 (sx xs (i + 1)) (sx xs (i + 2)) _ hw) rfl rfl ⟨Nat.le_of_ble_eq_true rfl, Nat.le_of_ble_eq_true rfl⟩ kw_2321 kw_2322 kw_2323 kw_129 kw_2324 ⟨rfl, pd_X12_board⟩ (hF.1 12 rfl).1 rfl rfl rfl hl.1 rfl (Nat.le_of_ble_eq_true rfl) ⟨by omega, by omega⟩ dL_law_1633) (fun r2 σ_2 H locs hw h => ?_)
  refine lv_icmp_eq (tgt := 2584) X.1 X.2.1 dL_law_1636 (by decide) (fun _ => ?_) (fun q => absurd (by rw [hw.1]) q)
  refine W.widen (k := cells + 25) (n := slots + 165) (by omega) (by omega) ?_
  exact K σ_2 ad L φ H locs ls hw.2 h hF hm hl
set_option maxRecDepth 100000 in
set_option maxHeartbeats 4000000 in
theorem lc_34 (X : Cx p s m meth c #[Value.ref b] cL_law 7 (some .boolean) RL D ct L φ N0) (S : Sx b LL xs N0 s) (hi : 0 ≤ i ∧ i + 8 ≤ LL) (hr : cells + 25 ≤ room_1.cells ∧ slots + 165 ≤ room_1.slots) (h : Hs D ct ad L φ N0 s.heap σ H locs) (hm : (156, 0) ∈ L) (hl : lv_has ls 7 (lvL b ad i)) (hw : wp_X11_saw σ (sx xs (i + 1)) (fun r σ1 => wp_X12_saw σ1 (sx xs (i + 1)) (fun r2 σ2 => r2 = r ∧ J σ2))) (K : Kn p l e s m below meth c b D ct N0 i cells slots Q J) : W p l e room_1 s m #[Value.ref b] below meth c H locs cells slots Q (F0 m 1641 ls []) := by
  have hF := X.2.2.2.2.2.2.2.2.1
  obtain ⟨hi0, hi8⟩ := hi
  obtain ⟨hr1, hr2⟩ := hr
  refine lv_aload_n X.1 X.2.1 dL_law_1641 rfl (lv_at hl 1 rfl) ?_
  refine s_arg (k0 := 0) (k4 := 4) X S h hl rfl rfl ⟨by omega, by omega⟩ dL_law_1642 dL_law_1643 dL_law_1645 dL_law_1646 dL_law_1647 ?_
  refine k_i h (r_V (C := RX11) (ci := 11) (As := [.int (iv (sx xs (i + 1)))]) (rest := []) X h (c_X11_saw l D ct ad L φ N0 σ (sx xs (i + 1)) _ hw) rfl rfl ⟨Nat.le_of_ble_eq_true rfl, Nat.le_of_ble_eq_true rfl⟩ kw_1284 kw_1285 kw_1286 kw_120 kw_1287 ⟨rfl, pd_X11_saw⟩ (hF.1 11 rfl).1 rfl rfl rfl hl.1 rfl (Nat.le_of_ble_eq_true rfl) ⟨by omega, by omega⟩ dL_law_1648) (fun r σ_1 H locs hw h => ?_)
  refine lv_aload_n X.1 X.2.1 dL_law_1651 rfl (lv_at hl 2 rfl) ?_
  refine s_arg (k0 := 0) (k4 := 4) X S h hl rfl rfl ⟨by omega, by omega⟩ dL_law_1652 dL_law_1653 dL_law_1655 dL_law_1656 dL_law_1657 ?_
  refine k_i h (r_V (C := RX12) (ci := 12) (As := [.int (iv (sx xs (i + 1)))]) (rest := [.int (iv r)]) X h (c_X12_saw l D ct ad L φ N0 σ_1 (sx xs (i + 1)) _ hw) rfl rfl ⟨Nat.le_of_ble_eq_true rfl, Nat.le_of_ble_eq_true rfl⟩ kw_2325 kw_2326 kw_2327 kw_129 kw_2328 ⟨rfl, pd_X12_saw⟩ (hF.1 12 rfl).1 rfl rfl rfl hl.1 rfl (Nat.le_of_ble_eq_true rfl) ⟨by omega, by omega⟩ dL_law_1658) (fun r2 σ_2 H locs hw h => ?_)
  refine lv_icmp_eq (tgt := 2584) X.1 X.2.1 dL_law_1661 (by decide) (fun _ => ?_) (fun q => absurd (by rw [hw.1]) q)
  refine W.widen (k := cells + 25) (n := slots + 165) (by omega) (by omega) ?_
  exact K σ_2 ad L φ H locs ls hw.2 h hF hm hl
set_option maxRecDepth 100000 in
set_option maxHeartbeats 4000000 in
theorem lc_35 (X : Cx p s m meth c #[Value.ref b] cL_law 7 (some .boolean) RL D ct L φ N0) (S : Sx b LL xs N0 s) (hi : 0 ≤ i ∧ i + 8 ≤ LL) (hr : cells + 25 ≤ room_1.cells ∧ slots + 165 ≤ room_1.slots) (h : Hs D ct ad L φ N0 s.heap σ H locs) (hm : (156, 0) ∈ L) (hl : lv_has ls 7 (lvL b ad i)) (hw : wp_X11_fire σ (sx xs (i + 1)) (sx xs (i + 2)) (sx xs (i + 3)) (fun r σ1 => wp_X12_fire σ1 (sx xs (i + 1)) (sx xs (i + 2)) (sx xs (i + 3)) (fun r2 σ2 => r2 = r ∧ J σ2))) (K : Kn p l e s m below meth c b D ct N0 i cells slots Q J) : W p l e room_1 s m #[Value.ref b] below meth c H locs cells slots Q (F0 m 1666 ls []) := by
  have hF := X.2.2.2.2.2.2.2.2.1
  obtain ⟨hi0, hi8⟩ := hi
  obtain ⟨hr1, hr2⟩ := hr
  refine lv_aload_n X.1 X.2.1 dL_law_1666 rfl (lv_at hl 1 rfl) ?_
  refine s_arg (k0 := 0) (k4 := 4) X S h hl rfl rfl ⟨by omega, by omega⟩ dL_law_1667 dL_law_1668 dL_law_1670 dL_law_1671 dL_law_1672 ?_
  refine s_arg (k0 := 0) (k4 := 4) X S h hl rfl rfl ⟨by omega, by omega⟩ dL_law_1673 dL_law_1674 dL_law_1676 dL_law_1677 dL_law_1678 ?_
  refine s_arg (k0 := 0) (k4 := 4) X S h hl rfl rfl ⟨by omega, by omega⟩ dL_law_1679 dL_law_1680 dL_law_1682 dL_law_1683 dL_law_1684 ?_
  refine k_i h (r_V (C := RX11) (ci := 11) (As := [.int (iv (sx xs (i + 1))), .int (iv (sx xs (i + 2))), .int (iv (sx xs (i + 3)))]) (rest := []) X h (c_X11_fire l D ct ad L φ N0 σ (sx xs (i + 1)) (sx xs (i + 2)) (sx xs (i + 3)) _ hw) rfl rfl ⟨Nat.le_of_ble_eq_true rfl, Nat.le_of_ble_eq_true rfl⟩ kw_1297 kw_1298 kw_1299 kw_120 kw_1300 ⟨rfl, pd_X11_fire⟩ (hF.1 11 rfl).1 rfl rfl rfl hl.1 rfl (Nat.le_of_ble_eq_true rfl) ⟨by omega, by omega⟩ dL_law_1685) (fun r σ_1 H locs hw h => ?_)
  refine lv_aload_n X.1 X.2.1 dL_law_1688 rfl (lv_at hl 2 rfl) ?_
  refine s_arg (k0 := 0) (k4 := 4) X S h hl rfl rfl ⟨by omega, by omega⟩ dL_law_1689 dL_law_1690 dL_law_1692 dL_law_1693 dL_law_1694 ?_
  refine s_arg (k0 := 0) (k4 := 4) X S h hl rfl rfl ⟨by omega, by omega⟩ dL_law_1695 dL_law_1696 dL_law_1698 dL_law_1699 dL_law_1700 ?_
  refine s_arg (k0 := 0) (k4 := 4) X S h hl rfl rfl ⟨by omega, by omega⟩ dL_law_1701 dL_law_1702 dL_law_1704 dL_law_1705 dL_law_1706 ?_
  refine k_i h (r_V (C := RX12) (ci := 12) (As := [.int (iv (sx xs (i + 1))), .int (iv (sx xs (i + 2))), .int (iv (sx xs (i + 3)))]) (rest := [.int (iv r)]) X h (c_X12_fire l D ct ad L φ N0 σ_1 (sx xs (i + 1)) (sx xs (i + 2)) (sx xs (i + 3)) _ hw) rfl rfl ⟨Nat.le_of_ble_eq_true rfl, Nat.le_of_ble_eq_true rfl⟩ kw_2333 kw_2334 kw_2335 kw_129 kw_2336 ⟨rfl, pd_X12_fire⟩ (hF.1 12 rfl).1 rfl rfl rfl hl.1 rfl (Nat.le_of_ble_eq_true rfl) ⟨by omega, by omega⟩ dL_law_1707) (fun r2 σ_2 H locs hw h => ?_)
  refine lv_icmp_eq (tgt := 2584) X.1 X.2.1 dL_law_1710 (by decide) (fun _ => ?_) (fun q => absurd (by rw [hw.1]) q)
  refine W.widen (k := cells + 25) (n := slots + 165) (by omega) (by omega) ?_
  exact K σ_2 ad L φ H locs ls hw.2 h hF hm hl
set_option maxRecDepth 100000 in
set_option maxHeartbeats 4000000 in
theorem lc_36 (X : Cx p s m meth c #[Value.ref b] cL_law 7 (some .boolean) RL D ct L φ N0) (S : Sx b LL xs N0 s) (hi : 0 ≤ i ∧ i + 8 ≤ LL) (hr : cells + 25 ≤ room_1.cells ∧ slots + 165 ≤ room_1.slots) (h : Hs D ct ad L φ N0 s.heap σ H locs) (hm : (156, 0) ∈ L) (hl : lv_has ls 7 (lvL b ad i)) (hw : wp_X11_burn σ (sx xs (i + 1)) (fun r σ1 => wp_X12_burn σ1 (sx xs (i + 1)) (fun r2 σ2 => r2 = r ∧ J σ2))) (K : Kn p l e s m below meth c b D ct N0 i cells slots Q J) : W p l e room_1 s m #[Value.ref b] below meth c H locs cells slots Q (F0 m 1715 ls []) := by
  have hF := X.2.2.2.2.2.2.2.2.1
  obtain ⟨hi0, hi8⟩ := hi
  obtain ⟨hr1, hr2⟩ := hr
  refine lv_aload_n X.1 X.2.1 dL_law_1715 rfl (lv_at hl 1 rfl) ?_
  refine s_arg (k0 := 0) (k4 := 4) X S h hl rfl rfl ⟨by omega, by omega⟩ dL_law_1716 dL_law_1717 dL_law_1719 dL_law_1720 dL_law_1721 ?_
  refine k_i h (r_V (C := RX11) (ci := 11) (As := [.int (iv (sx xs (i + 1)))]) (rest := []) X h (c_X11_burn l D ct ad L φ N0 σ (sx xs (i + 1)) _ hw) rfl rfl ⟨Nat.le_of_ble_eq_true rfl, Nat.le_of_ble_eq_true rfl⟩ kw_1332 kw_1333 kw_1334 kw_120 kw_1335 ⟨rfl, pd_X11_burn⟩ (hF.1 11 rfl).1 rfl rfl rfl hl.1 rfl (Nat.le_of_ble_eq_true rfl) ⟨by omega, by omega⟩ dL_law_1722) (fun r σ_1 H locs hw h => ?_)
  refine lv_aload_n X.1 X.2.1 dL_law_1725 rfl (lv_at hl 2 rfl) ?_
  refine s_arg (k0 := 0) (k4 := 4) X S h hl rfl rfl ⟨by omega, by omega⟩ dL_law_1726 dL_law_1727 dL_law_1729 dL_law_1730 dL_law_1731 ?_
  refine k_i h (r_V (C := RX12) (ci := 12) (As := [.int (iv (sx xs (i + 1)))]) (rest := [.int (iv r)]) X h (c_X12_burn l D ct ad L φ N0 σ_1 (sx xs (i + 1)) _ hw) rfl rfl ⟨Nat.le_of_ble_eq_true rfl, Nat.le_of_ble_eq_true rfl⟩ kw_2349 kw_2350 kw_2351 kw_129 kw_2352 ⟨rfl, pd_X12_burn⟩ (hF.1 12 rfl).1 rfl rfl rfl hl.1 rfl (Nat.le_of_ble_eq_true rfl) ⟨by omega, by omega⟩ dL_law_1732) (fun r2 σ_2 H locs hw h => ?_)
  refine lv_icmp_eq (tgt := 2584) X.1 X.2.1 dL_law_1735 (by decide) (fun _ => ?_) (fun q => absurd (by rw [hw.1]) q)
  refine W.widen (k := cells + 25) (n := slots + 165) (by omega) (by omega) ?_
  exact K σ_2 ad L φ H locs ls hw.2 h hF hm hl
set_option maxRecDepth 100000 in
set_option maxHeartbeats 4000000 in
theorem lc_37 (X : Cx p s m meth c #[Value.ref b] cL_law 7 (some .boolean) RL D ct L φ N0) (S : Sx b LL xs N0 s) (hi : 0 ≤ i ∧ i + 8 ≤ LL) (hr : cells + 25 ≤ room_1.cells ∧ slots + 165 ≤ room_1.slots) (h : Hs D ct ad L φ N0 s.heap σ H locs) (hm : (156, 0) ∈ L) (hl : lv_has ls 7 (lvL b ad i)) (hw : wp_X11_spur σ (sx xs (i + 1)) (sx xs (i + 2)) (sx xs (i + 3)) (fun r σ1 => wp_X12_spur σ1 (sx xs (i + 1)) (sx xs (i + 2)) (sx xs (i + 3)) (fun r2 σ2 => r2 = r ∧ J σ2))) (K : Kn p l e s m below meth c b D ct N0 i cells slots Q J) : W p l e room_1 s m #[Value.ref b] below meth c H locs cells slots Q (F0 m 1740 ls []) := by
  have hF := X.2.2.2.2.2.2.2.2.1
  obtain ⟨hi0, hi8⟩ := hi
  obtain ⟨hr1, hr2⟩ := hr
  refine lv_aload_n X.1 X.2.1 dL_law_1740 rfl (lv_at hl 1 rfl) ?_
  refine s_arg (k0 := 0) (k4 := 4) X S h hl rfl rfl ⟨by omega, by omega⟩ dL_law_1741 dL_law_1742 dL_law_1744 dL_law_1745 dL_law_1746 ?_
  refine s_arg (k0 := 0) (k4 := 4) X S h hl rfl rfl ⟨by omega, by omega⟩ dL_law_1747 dL_law_1748 dL_law_1750 dL_law_1751 dL_law_1752 ?_
  refine s_arg (k0 := 0) (k4 := 4) X S h hl rfl rfl ⟨by omega, by omega⟩ dL_law_1753 dL_law_1754 dL_law_1756 dL_law_1757 dL_law_1758 ?_
  refine k_i h (r_V (C := RX11) (ci := 11) (As := [.int (iv (sx xs (i + 1))), .int (iv (sx xs (i + 2))), .int (iv (sx xs (i + 3)))]) (rest := []) X h (c_X11_spur l D ct ad L φ N0 σ (sx xs (i + 1)) (sx xs (i + 2)) (sx xs (i + 3)) _ hw) rfl rfl ⟨Nat.le_of_ble_eq_true rfl, Nat.le_of_ble_eq_true rfl⟩ kw_1336 kw_1337 kw_1338 kw_120 kw_1339 ⟨rfl, pd_X11_spur⟩ (hF.1 11 rfl).1 rfl rfl rfl hl.1 rfl (Nat.le_of_ble_eq_true rfl) ⟨by omega, by omega⟩ dL_law_1759) (fun r σ_1 H locs hw h => ?_)
  refine lv_aload_n X.1 X.2.1 dL_law_1762 rfl (lv_at hl 2 rfl) ?_
  refine s_arg (k0 := 0) (k4 := 4) X S h hl rfl rfl ⟨by omega, by omega⟩ dL_law_1763 dL_law_1764 dL_law_1766 dL_law_1767 dL_law_1768 ?_
  refine s_arg (k0 := 0) (k4 := 4) X S h hl rfl rfl ⟨by omega, by omega⟩ dL_law_1769 dL_law_1770 dL_law_1772 dL_law_1773 dL_law_1774 ?_
  refine s_arg (k0 := 0) (k4 := 4) X S h hl rfl rfl ⟨by omega, by omega⟩ dL_law_1775 dL_law_1776 dL_law_1778 dL_law_1779 dL_law_1780 ?_
  refine k_i h (r_V (C := RX12) (ci := 12) (As := [.int (iv (sx xs (i + 1))), .int (iv (sx xs (i + 2))), .int (iv (sx xs (i + 3)))]) (rest := [.int (iv r)]) X h (c_X12_spur l D ct ad L φ N0 σ_1 (sx xs (i + 1)) (sx xs (i + 2)) (sx xs (i + 3)) _ hw) rfl rfl ⟨Nat.le_of_ble_eq_true rfl, Nat.le_of_ble_eq_true rfl⟩ kw_2353 kw_2354 kw_2355 kw_129 kw_2356 ⟨rfl, pd_X12_spur⟩ (hF.1 12 rfl).1 rfl rfl rfl hl.1 rfl (Nat.le_of_ble_eq_true rfl) ⟨by omega, by omega⟩ dL_law_1781) (fun r2 σ_2 H locs hw h => ?_)
  refine lv_icmp_eq (tgt := 2584) X.1 X.2.1 dL_law_1784 (by decide) (fun _ => ?_) (fun q => absurd (by rw [hw.1]) q)
  refine W.widen (k := cells + 25) (n := slots + 165) (by omega) (by omega) ?_
  exact K σ_2 ad L φ H locs ls hw.2 h hF hm hl
set_option maxRecDepth 100000 in
set_option maxHeartbeats 4000000 in
theorem lc_38 (X : Cx p s m meth c #[Value.ref b] cL_law 7 (some .boolean) RL D ct L φ N0) (S : Sx b LL xs N0 s) (hi : 0 ≤ i ∧ i + 8 ≤ LL) (hr : cells + 25 ≤ room_1.cells ∧ slots + 165 ≤ room_1.slots) (h : Hs D ct ad L φ N0 s.heap σ H locs) (hm : (156, 0) ∈ L) (hl : lv_has ls 7 (lvL b ad i)) (hw : wp_X11_asked σ (sx xs (i + 1)) (sx xs (i + 2)) (fun r σ1 => wp_X12_asked σ1 (sx xs (i + 1)) (sx xs (i + 2)) (fun r2 σ2 => r2 = r ∧ J σ2))) (K : Kn p l e s m below meth c b D ct N0 i cells slots Q J) : W p l e room_1 s m #[Value.ref b] below meth c H locs cells slots Q (F0 m 1789 ls []) := by
  have hF := X.2.2.2.2.2.2.2.2.1
  obtain ⟨hi0, hi8⟩ := hi
  obtain ⟨hr1, hr2⟩ := hr
  refine lv_aload_n X.1 X.2.1 dL_law_1789 rfl (lv_at hl 1 rfl) ?_
  refine s_arg (k0 := 0) (k4 := 4) X S h hl rfl rfl ⟨by omega, by omega⟩ dL_law_1790 dL_law_1791 dL_law_1793 dL_law_1794 dL_law_1795 ?_
  refine s_arg (k0 := 0) (k4 := 4) X S h hl rfl rfl ⟨by omega, by omega⟩ dL_law_1796 dL_law_1797 dL_law_1799 dL_law_1800 dL_law_1801 ?_
  refine k_i h (r_V (C := RX11) (ci := 11) (As := [.int (iv (sx xs (i + 1))), .int (iv (sx xs (i + 2)))]) (rest := []) X h (c_X11_asked l D ct ad L φ N0 σ (sx xs (i + 1)) (sx xs (i + 2)) _ hw) rfl rfl ⟨Nat.le_of_ble_eq_true rfl, Nat.le_of_ble_eq_true rfl⟩ kw_1344 kw_1345 kw_1346 kw_120 kw_1347 ⟨rfl, pd_X11_asked⟩ (hF.1 11 rfl).1 rfl rfl rfl hl.1 rfl (Nat.le_of_ble_eq_true rfl) ⟨by omega, by omega⟩ dL_law_1802) (fun r σ_1 H locs hw h => ?_)
  refine lv_aload_n X.1 X.2.1 dL_law_1805 rfl (lv_at hl 2 rfl) ?_
  refine s_arg (k0 := 0) (k4 := 4) X S h hl rfl rfl ⟨by omega, by omega⟩ dL_law_1806 dL_law_1807 dL_law_1809 dL_law_1810 dL_law_1811 ?_
  refine s_arg (k0 := 0) (k4 := 4) X S h hl rfl rfl ⟨by omega, by omega⟩ dL_law_1812 dL_law_1813 dL_law_1815 dL_law_1816 dL_law_1817 ?_
  refine k_i h (r_V (C := RX12) (ci := 12) (As := [.int (iv (sx xs (i + 1))), .int (iv (sx xs (i + 2)))]) (rest := [.int (iv r)]) X h (c_X12_asked l D ct ad L φ N0 σ_1 (sx xs (i + 1)) (sx xs (i + 2)) _ hw) rfl rfl ⟨Nat.le_of_ble_eq_true rfl, Nat.le_of_ble_eq_true rfl⟩ kw_2357 kw_2358 kw_2359 kw_129 kw_2360 ⟨rfl, pd_X12_asked⟩ (hF.1 12 rfl).1 rfl rfl rfl hl.1 rfl (Nat.le_of_ble_eq_true rfl) ⟨by omega, by omega⟩ dL_law_1818) (fun r2 σ_2 H locs hw h => ?_)
  refine lv_icmp_eq (tgt := 2584) X.1 X.2.1 dL_law_1821 (by decide) (fun _ => ?_) (fun q => absurd (by rw [hw.1]) q)
  refine W.widen (k := cells + 25) (n := slots + 165) (by omega) (by omega) ?_
  exact K σ_2 ad L φ H locs ls hw.2 h hF hm hl
set_option maxRecDepth 100000 in
set_option maxHeartbeats 4000000 in
theorem lc_39 (X : Cx p s m meth c #[Value.ref b] cL_law 7 (some .boolean) RL D ct L φ N0) (S : Sx b LL xs N0 s) (hi : 0 ≤ i ∧ i + 8 ≤ LL) (hr : cells + 25 ≤ room_1.cells ∧ slots + 165 ≤ room_1.slots) (h : Hs D ct ad L φ N0 s.heap σ H locs) (hm : (156, 0) ∈ L) (hl : lv_has ls 7 (lvL b ad i)) (hw : wp_X11_rails σ (sx xs (i + 1)) (fun r σ1 => wp_X12_rails σ1 (sx xs (i + 1)) (fun r2 σ2 => r2 = r ∧ J σ2))) (K : Kn p l e s m below meth c b D ct N0 i cells slots Q J) : W p l e room_1 s m #[Value.ref b] below meth c H locs cells slots Q (F0 m 1826 ls []) := by
  have hF := X.2.2.2.2.2.2.2.2.1
  obtain ⟨hi0, hi8⟩ := hi
  obtain ⟨hr1, hr2⟩ := hr
  refine lv_aload_n X.1 X.2.1 dL_law_1826 rfl (lv_at hl 1 rfl) ?_
  refine s_arg (k0 := 0) (k4 := 4) X S h hl rfl rfl ⟨by omega, by omega⟩ dL_law_1827 dL_law_1828 dL_law_1830 dL_law_1831 dL_law_1832 ?_
  refine k_i h (r_V (C := RX11) (ci := 11) (As := [.int (iv (sx xs (i + 1)))]) (rest := []) X h (c_X11_rails l D ct ad L φ N0 σ (sx xs (i + 1)) _ hw) rfl rfl ⟨Nat.le_of_ble_eq_true rfl, Nat.le_of_ble_eq_true rfl⟩ kw_1348 kw_1349 kw_1350 kw_120 kw_1351 ⟨rfl, pd_X11_rails⟩ (hF.1 11 rfl).1 rfl rfl rfl hl.1 rfl (Nat.le_of_ble_eq_true rfl) ⟨by omega, by omega⟩ dL_law_1833) (fun r σ_1 H locs hw h => ?_)
  refine lv_aload_n X.1 X.2.1 dL_law_1836 rfl (lv_at hl 2 rfl) ?_
  refine s_arg (k0 := 0) (k4 := 4) X S h hl rfl rfl ⟨by omega, by omega⟩ dL_law_1837 dL_law_1838 dL_law_1840 dL_law_1841 dL_law_1842 ?_
  refine k_i h (r_V (C := RX12) (ci := 12) (As := [.int (iv (sx xs (i + 1)))]) (rest := [.int (iv r)]) X h (c_X12_rails l D ct ad L φ N0 σ_1 (sx xs (i + 1)) _ hw) rfl rfl ⟨Nat.le_of_ble_eq_true rfl, Nat.le_of_ble_eq_true rfl⟩ kw_2361 kw_2362 kw_2363 kw_129 kw_2364 ⟨rfl, pd_X12_rails⟩ (hF.1 12 rfl).1 rfl rfl rfl hl.1 rfl (Nat.le_of_ble_eq_true rfl) ⟨by omega, by omega⟩ dL_law_1843) (fun r2 σ_2 H locs hw h => ?_)
  refine lv_icmp_eq (tgt := 2584) X.1 X.2.1 dL_law_1846 (by decide) (fun _ => ?_) (fun q => absurd (by rw [hw.1]) q)
  refine W.widen (k := cells + 25) (n := slots + 165) (by omega) (by omega) ?_
  exact K σ_2 ad L φ H locs ls hw.2 h hF hm hl
set_option maxRecDepth 100000 in
set_option maxHeartbeats 4000000 in
theorem lc_40 (X : Cx p s m meth c #[Value.ref b] cL_law 7 (some .boolean) RL D ct L φ N0) (S : Sx b LL xs N0 s) (hi : 0 ≤ i ∧ i + 8 ≤ LL) (hr : cells + 25 ≤ room_1.cells ∧ slots + 165 ≤ room_1.slots) (h : Hs D ct ad L φ N0 s.heap σ H locs) (hm : (156, 0) ∈ L) (hl : lv_has ls 7 (lvL b ad i)) (hw : wp_X11_railsOf σ (sx xs (i + 1)) (sx xs (i + 2)) (fun r σ1 => wp_X12_railsOf σ1 (sx xs (i + 1)) (sx xs (i + 2)) (fun r2 σ2 => r2 = r ∧ J σ2))) (K : Kn p l e s m below meth c b D ct N0 i cells slots Q J) : W p l e room_1 s m #[Value.ref b] below meth c H locs cells slots Q (F0 m 1851 ls []) := by
  have hF := X.2.2.2.2.2.2.2.2.1
  obtain ⟨hi0, hi8⟩ := hi
  obtain ⟨hr1, hr2⟩ := hr
  refine lv_aload_n X.1 X.2.1 dL_law_1851 rfl (lv_at hl 1 rfl) ?_
  refine s_arg (k0 := 0) (k4 := 4) X S h hl rfl rfl ⟨by omega, by omega⟩ dL_law_1852 dL_law_1853 dL_law_1855 dL_law_1856 dL_law_1857 ?_
  refine s_arg (k0 := 0) (k4 := 4) X S h hl rfl rfl ⟨by omega, by omega⟩ dL_law_1858 dL_law_1859 dL_law_1861 dL_law_1862 dL_law_1863 ?_
  refine k_i h (r_V (C := RX11) (ci := 11) (As := [.int (iv (sx xs (i + 1))), .int (iv (sx xs (i + 2)))]) (rest := []) X h (c_X11_railsOf l D ct ad L φ N0 σ (sx xs (i + 1)) (sx xs (i + 2)) _ hw) rfl rfl ⟨Nat.le_of_ble_eq_true rfl, Nat.le_of_ble_eq_true rfl⟩ kw_1387 kw_1388 kw_1389 kw_120 kw_1390 ⟨rfl, pd_X11_railsOf⟩ (hF.1 11 rfl).1 rfl rfl rfl hl.1 rfl (Nat.le_of_ble_eq_true rfl) ⟨by omega, by omega⟩ dL_law_1864) (fun r σ_1 H locs hw h => ?_)
  refine lv_aload_n X.1 X.2.1 dL_law_1867 rfl (lv_at hl 2 rfl) ?_
  refine s_arg (k0 := 0) (k4 := 4) X S h hl rfl rfl ⟨by omega, by omega⟩ dL_law_1868 dL_law_1869 dL_law_1871 dL_law_1872 dL_law_1873 ?_
  refine s_arg (k0 := 0) (k4 := 4) X S h hl rfl rfl ⟨by omega, by omega⟩ dL_law_1874 dL_law_1875 dL_law_1877 dL_law_1878 dL_law_1879 ?_
  refine k_i h (r_V (C := RX12) (ci := 12) (As := [.int (iv (sx xs (i + 1))), .int (iv (sx xs (i + 2)))]) (rest := [.int (iv r)]) X h (c_X12_railsOf l D ct ad L φ N0 σ_1 (sx xs (i + 1)) (sx xs (i + 2)) _ hw) rfl rfl ⟨Nat.le_of_ble_eq_true rfl, Nat.le_of_ble_eq_true rfl⟩ kw_2383 kw_2384 kw_2385 kw_129 kw_2386 ⟨rfl, pd_X12_railsOf⟩ (hF.1 12 rfl).1 rfl rfl rfl hl.1 rfl (Nat.le_of_ble_eq_true rfl) ⟨by omega, by omega⟩ dL_law_1880) (fun r2 σ_2 H locs hw h => ?_)
  refine lv_icmp_eq (tgt := 2584) X.1 X.2.1 dL_law_1883 (by decide) (fun _ => ?_) (fun q => absurd (by rw [hw.1]) q)
  refine W.widen (k := cells + 25) (n := slots + 165) (by omega) (by omega) ?_
  exact K σ_2 ad L φ H locs ls hw.2 h hF hm hl
set_option maxRecDepth 100000 in
set_option maxHeartbeats 4000000 in
theorem lc_41 (X : Cx p s m meth c #[Value.ref b] cL_law 7 (some .boolean) RL D ct L φ N0) (S : Sx b LL xs N0 s) (hi : 0 ≤ i ∧ i + 8 ≤ LL) (hr : cells + 25 ≤ room_1.cells ∧ slots + 165 ≤ room_1.slots) (h : Hs D ct ad L φ N0 s.heap σ H locs) (hm : (156, 0) ∈ L) (hl : lv_has ls 7 (lvL b ad i)) (hw : wp_X11_forty σ (sx xs (i + 1)) (sx xs (i + 2)) (sx xs (i + 3)) (sx xs (i + 4)) (sx xs (i + 5)) (sx xs (i + 6)) (sx xs (i + 7)) (fun r σ1 => wp_X12_forty σ1 (sx xs (i + 1)) (sx xs (i + 2)) (sx xs (i + 3)) (sx xs (i + 4)) (sx xs (i + 5)) (sx xs (i + 6)) (sx xs (i + 7)) (fun r2 σ2 => r2 = r ∧ J σ2))) (K : Kn p l e s m below meth c b D ct N0 i cells slots Q J) : W p l e room_1 s m #[Value.ref b] below meth c H locs cells slots Q (F0 m 1888 ls []) := by
  have hF := X.2.2.2.2.2.2.2.2.1
  obtain ⟨hi0, hi8⟩ := hi
  obtain ⟨hr1, hr2⟩ := hr
  refine lv_aload_n X.1 X.2.1 dL_law_1888 rfl (lv_at hl 1 rfl) ?_
  refine s_arg (k0 := 0) (k4 := 4) X S h hl rfl rfl ⟨by omega, by omega⟩ dL_law_1889 dL_law_1890 dL_law_1892 dL_law_1893 dL_law_1894 ?_
  refine s_arg (k0 := 0) (k4 := 4) X S h hl rfl rfl ⟨by omega, by omega⟩ dL_law_1895 dL_law_1896 dL_law_1898 dL_law_1899 dL_law_1900 ?_
  refine s_arg (k0 := 0) (k4 := 4) X S h hl rfl rfl ⟨by omega, by omega⟩ dL_law_1901 dL_law_1902 dL_law_1904 dL_law_1905 dL_law_1906 ?_
  refine s_arg (k0 := 0) (k4 := 4) X S h hl rfl rfl ⟨by omega, by omega⟩ dL_law_1907 dL_law_1908 dL_law_1910 dL_law_1911 dL_law_1912 ?_
  refine s_arg (k0 := 0) (k4 := 4) X S h hl rfl rfl ⟨by omega, by omega⟩ dL_law_1913 dL_law_1914 dL_law_1916 dL_law_1917 dL_law_1918 ?_
  refine s_argb (k0 := 0) (k4 := 4) X S h hl rfl rfl ⟨by omega, by omega⟩ (by decide) dL_law_1919 dL_law_1920 dL_law_1922 dL_law_1924 dL_law_1925 ?_
  refine s_argb (k0 := 0) (k4 := 4) X S h hl rfl rfl ⟨by omega, by omega⟩ (by decide) dL_law_1926 dL_law_1927 dL_law_1929 dL_law_1931 dL_law_1932 ?_
  refine k_i h (r_V (C := RX11) (ci := 11) (As := [.int (iv (sx xs (i + 1))), .int (iv (sx xs (i + 2))), .int (iv (sx xs (i + 3))), .int (iv (sx xs (i + 4))), .int (iv (sx xs (i + 5))), .int (iv (sx xs (i + 6))), .int (iv (sx xs (i + 7)))]) (rest := []) X h (c_X11_forty l D ct ad L φ N0 σ (sx xs (i + 1)) (sx xs (i + 2)) (sx xs (i + 3)) (sx xs (i + 4)) (sx xs (i + 5)) (sx xs (i + 6)) (sx xs (i + 7)) _ hw) rfl rfl ⟨Nat.le_of_ble_eq_true rfl, Nat.le_of_ble_eq_true rfl⟩ kw_1391 kw_1392 kw_1393 kw_120 kw_1394 ⟨rfl, pd_X11_forty⟩ (hF.1 11 rfl).1 rfl rfl rfl hl.1 rfl (Nat.le_of_ble_eq_true rfl) ⟨by omega, by omega⟩ dL_law_1933) (fun r σ_1 H locs hw h => ?_)
  refine lv_aload_n X.1 X.2.1 dL_law_1936 rfl (lv_at hl 2 rfl) ?_
  refine s_arg (k0 := 0) (k4 := 4) X S h hl rfl rfl ⟨by omega, by omega⟩ dL_law_1937 dL_law_1938 dL_law_1940 dL_law_1941 dL_law_1942 ?_
  refine s_arg (k0 := 0) (k4 := 4) X S h hl rfl rfl ⟨by omega, by omega⟩ dL_law_1943 dL_law_1944 dL_law_1946 dL_law_1947 dL_law_1948 ?_
  refine s_arg (k0 := 0) (k4 := 4) X S h hl rfl rfl ⟨by omega, by omega⟩ dL_law_1949 dL_law_1950 dL_law_1952 dL_law_1953 dL_law_1954 ?_
  refine s_arg (k0 := 0) (k4 := 4) X S h hl rfl rfl ⟨by omega, by omega⟩ dL_law_1955 dL_law_1956 dL_law_1958 dL_law_1959 dL_law_1960 ?_
  refine s_arg (k0 := 0) (k4 := 4) X S h hl rfl rfl ⟨by omega, by omega⟩ dL_law_1961 dL_law_1962 dL_law_1964 dL_law_1965 dL_law_1966 ?_
  refine s_argb (k0 := 0) (k4 := 4) X S h hl rfl rfl ⟨by omega, by omega⟩ (by decide) dL_law_1967 dL_law_1968 dL_law_1970 dL_law_1972 dL_law_1973 ?_
  refine s_argb (k0 := 0) (k4 := 4) X S h hl rfl rfl ⟨by omega, by omega⟩ (by decide) dL_law_1974 dL_law_1975 dL_law_1977 dL_law_1979 dL_law_1980 ?_
  refine k_i h (r_V (C := RX12) (ci := 12) (As := [.int (iv (sx xs (i + 1))), .int (iv (sx xs (i + 2))), .int (iv (sx xs (i + 3))), .int (iv (sx xs (i + 4))), .int (iv (sx xs (i + 5))), .int (iv (sx xs (i + 6))), .int (iv (sx xs (i + 7)))]) (rest := [.int (iv r)]) X h (c_X12_forty l D ct ad L φ N0 σ_1 (sx xs (i + 1)) (sx xs (i + 2)) (sx xs (i + 3)) (sx xs (i + 4)) (sx xs (i + 5)) (sx xs (i + 6)) (sx xs (i + 7)) _ hw) rfl rfl ⟨Nat.le_of_ble_eq_true rfl, Nat.le_of_ble_eq_true rfl⟩ kw_2391 kw_2392 kw_2393 kw_129 kw_2394 ⟨rfl, pd_X12_forty⟩ (hF.1 12 rfl).1 rfl rfl rfl hl.1 rfl (Nat.le_of_ble_eq_true rfl) ⟨by omega, by omega⟩ dL_law_1981) (fun r2 σ_2 H locs hw h => ?_)
  refine lv_icmp_eq (tgt := 2584) X.1 X.2.1 dL_law_1984 (by decide) (fun _ => ?_) (fun q => absurd (by rw [hw.1]) q)
  refine W.widen (k := cells + 25) (n := slots + 165) (by omega) (by omega) ?_
  exact K σ_2 ad L φ H locs ls hw.2 h hF hm hl
set_option maxRecDepth 100000 in
set_option maxHeartbeats 4000000 in
theorem lc_42 (X : Cx p s m meth c #[Value.ref b] cL_law 7 (some .boolean) RL D ct L φ N0) (S : Sx b LL xs N0 s) (hi : 0 ≤ i ∧ i + 8 ≤ LL) (hr : cells + 25 ≤ room_1.cells ∧ slots + 165 ≤ room_1.slots) (h : Hs D ct ad L φ N0 s.heap σ H locs) (hm : (156, 0) ∈ L) (hl : lv_has ls 7 (lvL b ad i)) (hw : wp_X11_cutIn σ (sx xs (i + 1)) (sx xs (i + 2)) (fun r σ1 => wp_X12_cutIn σ1 (sx xs (i + 1)) (sx xs (i + 2)) (fun r2 σ2 => r2 = r ∧ J σ2))) (K : Kn p l e s m below meth c b D ct N0 i cells slots Q J) : W p l e room_1 s m #[Value.ref b] below meth c H locs cells slots Q (F0 m 1989 ls []) := by
  have hF := X.2.2.2.2.2.2.2.2.1
  obtain ⟨hi0, hi8⟩ := hi
  obtain ⟨hr1, hr2⟩ := hr
  refine lv_aload_n X.1 X.2.1 dL_law_1989 rfl (lv_at hl 1 rfl) ?_
  refine s_arg (k0 := 0) (k4 := 4) X S h hl rfl rfl ⟨by omega, by omega⟩ dL_law_1990 dL_law_1991 dL_law_1993 dL_law_1994 dL_law_1995 ?_
  refine s_arg (k0 := 0) (k4 := 4) X S h hl rfl rfl ⟨by omega, by omega⟩ dL_law_1996 dL_law_1997 dL_law_1999 dL_law_2000 dL_law_2001 ?_
  refine k_i h (r_V (C := RX11) (ci := 11) (As := [.int (iv (sx xs (i + 1))), .int (iv (sx xs (i + 2)))]) (rest := []) X h (c_X11_cutIn l D ct ad L φ N0 σ (sx xs (i + 1)) (sx xs (i + 2)) _ hw) rfl rfl ⟨Nat.le_of_ble_eq_true rfl, Nat.le_of_ble_eq_true rfl⟩ kw_1423 kw_1424 kw_1425 kw_120 kw_1426 ⟨rfl, pd_X11_cutIn⟩ (hF.1 11 rfl).1 rfl rfl rfl hl.1 rfl (Nat.le_of_ble_eq_true rfl) ⟨by omega, by omega⟩ dL_law_2002) (fun r σ_1 H locs hw h => ?_)
  refine lv_aload_n X.1 X.2.1 dL_law_2005 rfl (lv_at hl 2 rfl) ?_
  refine s_arg (k0 := 0) (k4 := 4) X S h hl rfl rfl ⟨by omega, by omega⟩ dL_law_2006 dL_law_2007 dL_law_2009 dL_law_2010 dL_law_2011 ?_
  refine s_arg (k0 := 0) (k4 := 4) X S h hl rfl rfl ⟨by omega, by omega⟩ dL_law_2012 dL_law_2013 dL_law_2015 dL_law_2016 dL_law_2017 ?_
  refine k_i h (r_V (C := RX12) (ci := 12) (As := [.int (iv (sx xs (i + 1))), .int (iv (sx xs (i + 2)))]) (rest := [.int (iv r)]) X h (c_X12_cutIn l D ct ad L φ N0 σ_1 (sx xs (i + 1)) (sx xs (i + 2)) _ hw) rfl rfl ⟨Nat.le_of_ble_eq_true rfl, Nat.le_of_ble_eq_true rfl⟩ kw_2410 kw_2411 kw_2412 kw_129 kw_2413 ⟨rfl, pd_X12_cutIn⟩ (hF.1 12 rfl).1 rfl rfl rfl hl.1 rfl (Nat.le_of_ble_eq_true rfl) ⟨by omega, by omega⟩ dL_law_2018) (fun r2 σ_2 H locs hw h => ?_)
  refine lv_icmp_eq (tgt := 2584) X.1 X.2.1 dL_law_2021 (by decide) (fun _ => ?_) (fun q => absurd (by rw [hw.1]) q)
  refine W.widen (k := cells + 25) (n := slots + 165) (by omega) (by omega) ?_
  exact K σ_2 ad L φ H locs ls hw.2 h hF hm hl
set_option maxRecDepth 100000 in
set_option maxHeartbeats 4000000 in
theorem lc_43 (X : Cx p s m meth c #[Value.ref b] cL_law 7 (some .boolean) RL D ct L φ N0) (S : Sx b LL xs N0 s) (hi : 0 ≤ i ∧ i + 8 ≤ LL) (hr : cells + 25 ≤ room_1.cells ∧ slots + 165 ≤ room_1.slots) (h : Hs D ct ad L φ N0 s.heap σ H locs) (hm : (156, 0) ∈ L) (hl : lv_has ls 7 (lvL b ad i)) (hw : wp_X11_row σ (sx xs (i + 1)) (bz (sx xs (i + 2))) (sx xs (i + 3)) (fun r σ1 => wp_X12_row σ1 (sx xs (i + 1)) (bz (sx xs (i + 2))) (sx xs (i + 3)) (fun r2 σ2 => r2 = r ∧ J σ2))) (K : Kn p l e s m below meth c b D ct N0 i cells slots Q J) : W p l e room_1 s m #[Value.ref b] below meth c H locs cells slots Q (F0 m 2026 ls []) := by
  have hF := X.2.2.2.2.2.2.2.2.1
  obtain ⟨hi0, hi8⟩ := hi
  obtain ⟨hr1, hr2⟩ := hr
  refine lv_aload_n X.1 X.2.1 dL_law_2026 rfl (lv_at hl 1 rfl) ?_
  refine s_arg (k0 := 0) (k4 := 4) X S h hl rfl rfl ⟨by omega, by omega⟩ dL_law_2027 dL_law_2028 dL_law_2030 dL_law_2031 dL_law_2032 ?_
  refine s_arg (k0 := 0) (k4 := 4) X S h hl rfl rfl ⟨by omega, by omega⟩ dL_law_2033 dL_law_2034 dL_law_2036 dL_law_2037 dL_law_2038 ?_
  refine s_bool X (sx_in _ _) dL_law_2039 dL_law_2042 dL_law_2043 dL_law_2046 ?_
  refine s_arg (k0 := 0) (k4 := 4) X S h hl rfl rfl ⟨by omega, by omega⟩ dL_law_2047 dL_law_2048 dL_law_2050 dL_law_2051 dL_law_2052 ?_
  refine k_i h (r_V (C := RX11) (ci := 11) (As := [.int (iv (sx xs (i + 1))), .int (iv (bz (sx xs (i + 2)))), .int (iv (sx xs (i + 3)))]) (rest := []) X h (c_X11_row l D ct ad L φ N0 σ (sx xs (i + 1)) (bz (sx xs (i + 2))) (sx xs (i + 3)) _ hw) rfl rfl ⟨Nat.le_of_ble_eq_true rfl, Nat.le_of_ble_eq_true rfl⟩ kw_1427 kw_1428 kw_1429 kw_120 kw_1430 ⟨rfl, pd_X11_row⟩ (hF.1 11 rfl).1 rfl rfl rfl hl.1 rfl (Nat.le_of_ble_eq_true rfl) ⟨by omega, by omega⟩ dL_law_2053) (fun r σ_1 H locs hw h => ?_)
  refine lv_aload_n X.1 X.2.1 dL_law_2056 rfl (lv_at hl 2 rfl) ?_
  refine s_arg (k0 := 0) (k4 := 4) X S h hl rfl rfl ⟨by omega, by omega⟩ dL_law_2057 dL_law_2058 dL_law_2060 dL_law_2061 dL_law_2062 ?_
  refine s_arg (k0 := 0) (k4 := 4) X S h hl rfl rfl ⟨by omega, by omega⟩ dL_law_2063 dL_law_2064 dL_law_2066 dL_law_2067 dL_law_2068 ?_
  refine s_bool X (sx_in _ _) dL_law_2069 dL_law_2072 dL_law_2073 dL_law_2076 ?_
  refine s_arg (k0 := 0) (k4 := 4) X S h hl rfl rfl ⟨by omega, by omega⟩ dL_law_2077 dL_law_2078 dL_law_2080 dL_law_2081 dL_law_2082 ?_
  refine k_i h (r_V (C := RX12) (ci := 12) (As := [.int (iv (sx xs (i + 1))), .int (iv (bz (sx xs (i + 2)))), .int (iv (sx xs (i + 3)))]) (rest := [.int (iv r)]) X h (c_X12_row l D ct ad L φ N0 σ_1 (sx xs (i + 1)) (bz (sx xs (i + 2))) (sx xs (i + 3)) _ hw) rfl rfl ⟨Nat.le_of_ble_eq_true rfl, Nat.le_of_ble_eq_true rfl⟩ kw_2414 kw_2415 kw_2416 kw_129 kw_2417 ⟨rfl, pd_X12_row⟩ (hF.1 12 rfl).1 rfl rfl rfl hl.1 rfl (Nat.le_of_ble_eq_true rfl) ⟨by omega, by omega⟩ dL_law_2083) (fun r2 σ_2 H locs hw h => ?_)
  refine lv_icmp_eq (tgt := 2584) X.1 X.2.1 dL_law_2086 (by decide) (fun _ => ?_) (fun q => absurd (by rw [hw.1]) q)
  refine W.widen (k := cells + 25) (n := slots + 165) (by omega) (by omega) ?_
  exact K σ_2 ad L φ H locs ls hw.2 h hF hm hl
set_option maxRecDepth 100000 in
set_option maxHeartbeats 4000000 in
theorem lc_44 (X : Cx p s m meth c #[Value.ref b] cL_law 7 (some .boolean) RL D ct L φ N0) (S : Sx b LL xs N0 s) (hi : 0 ≤ i ∧ i + 8 ≤ LL) (hr : cells + 25 ≤ room_1.cells ∧ slots + 165 ≤ room_1.slots) (h : Hs D ct ad L φ N0 s.heap σ H locs) (hm : (156, 0) ∈ L) (hl : lv_has ls 7 (lvL b ad i)) (hw : wp_X11_write σ (sx xs (i + 1)) (sx xs (i + 2)) (sx xs (i + 3)) (fun r σ1 => wp_X12_write σ1 (sx xs (i + 1)) (sx xs (i + 2)) (sx xs (i + 3)) (fun r2 σ2 => r2 = r ∧ J σ2))) (K : Kn p l e s m below meth c b D ct N0 i cells slots Q J) : W p l e room_1 s m #[Value.ref b] below meth c H locs cells slots Q (F0 m 2091 ls []) := by
  have hF := X.2.2.2.2.2.2.2.2.1
  obtain ⟨hi0, hi8⟩ := hi
  obtain ⟨hr1, hr2⟩ := hr
  refine lv_aload_n X.1 X.2.1 dL_law_2091 rfl (lv_at hl 1 rfl) ?_
  refine s_arg (k0 := 0) (k4 := 4) X S h hl rfl rfl ⟨by omega, by omega⟩ dL_law_2092 dL_law_2093 dL_law_2095 dL_law_2096 dL_law_2097 ?_
  refine s_arg (k0 := 0) (k4 := 4) X S h hl rfl rfl ⟨by omega, by omega⟩ dL_law_2098 dL_law_2099 dL_law_2101 dL_law_2102 dL_law_2103 ?_
  refine s_arg (k0 := 0) (k4 := 4) X S h hl rfl rfl ⟨by omega, by omega⟩ dL_law_2104 dL_law_2105 dL_law_2107 dL_law_2108 dL_law_2109 ?_
  refine k_i h (r_V (C := RX11) (ci := 11) (As := [.int (iv (sx xs (i + 1))), .int (iv (sx xs (i + 2))), .int (iv (sx xs (i + 3)))]) (rest := []) X h (c_X11_write l D ct ad L φ N0 σ (sx xs (i + 1)) (sx xs (i + 2)) (sx xs (i + 3)) _ hw) rfl rfl ⟨Nat.le_of_ble_eq_true rfl, Nat.le_of_ble_eq_true rfl⟩ kw_1435 kw_1436 kw_1437 kw_120 kw_1438 ⟨rfl, pd_X11_write⟩ (hF.1 11 rfl).1 rfl rfl rfl hl.1 rfl (Nat.le_of_ble_eq_true rfl) ⟨by omega, by omega⟩ dL_law_2110) (fun r σ_1 H locs hw h => ?_)
  refine lv_aload_n X.1 X.2.1 dL_law_2113 rfl (lv_at hl 2 rfl) ?_
  refine s_arg (k0 := 0) (k4 := 4) X S h hl rfl rfl ⟨by omega, by omega⟩ dL_law_2114 dL_law_2115 dL_law_2117 dL_law_2118 dL_law_2119 ?_
  refine s_arg (k0 := 0) (k4 := 4) X S h hl rfl rfl ⟨by omega, by omega⟩ dL_law_2120 dL_law_2121 dL_law_2123 dL_law_2124 dL_law_2125 ?_
  refine s_arg (k0 := 0) (k4 := 4) X S h hl rfl rfl ⟨by omega, by omega⟩ dL_law_2126 dL_law_2127 dL_law_2129 dL_law_2130 dL_law_2131 ?_
  refine k_i h (r_V (C := RX12) (ci := 12) (As := [.int (iv (sx xs (i + 1))), .int (iv (sx xs (i + 2))), .int (iv (sx xs (i + 3)))]) (rest := [.int (iv r)]) X h (c_X12_write l D ct ad L φ N0 σ_1 (sx xs (i + 1)) (sx xs (i + 2)) (sx xs (i + 3)) _ hw) rfl rfl ⟨Nat.le_of_ble_eq_true rfl, Nat.le_of_ble_eq_true rfl⟩ kw_2418 kw_2419 kw_2420 kw_129 kw_2421 ⟨rfl, pd_X12_write⟩ (hF.1 12 rfl).1 rfl rfl rfl hl.1 rfl (Nat.le_of_ble_eq_true rfl) ⟨by omega, by omega⟩ dL_law_2132) (fun r2 σ_2 H locs hw h => ?_)
  refine lv_icmp_eq (tgt := 2584) X.1 X.2.1 dL_law_2135 (by decide) (fun _ => ?_) (fun q => absurd (by rw [hw.1]) q)
  refine W.widen (k := cells + 25) (n := slots + 165) (by omega) (by omega) ?_
  exact K σ_2 ad L φ H locs ls hw.2 h hF hm hl
set_option maxRecDepth 100000 in
set_option maxHeartbeats 4000000 in
theorem lc_45 (X : Cx p s m meth c #[Value.ref b] cL_law 7 (some .boolean) RL D ct L φ N0) (S : Sx b LL xs N0 s) (hZ : Zx N0 s) (hl0 : l.stackTraces = false) (hi : 0 ≤ i ∧ i + 8 ≤ LL) (hr : cells + 25 ≤ room_1.cells ∧ slots + 165 ≤ room_1.slots) (h : Hs D ct ad L φ N0 s.heap σ H locs) (hm : (156, 0) ∈ L) (hl : lv_has ls 7 (lvL b ad i)) (hw : wp_X11_each σ (sx xs (i + 1)) (sx xs (i + 2)) (fun r σ1 => (fun k σ1 => wp_X12_each σ1 (sx xs (i + 1)) (sx xs (i + 2)) (fun r2 σ2 => wp_X12_thrown σ2 (fun t σ3 => t = k ∧ (k = 0 ∨ k = 1) ∧ (k = 0 → σ3 156 0 0 = r2) ∧ J σ3))) 0 (st σ1 156 0 0 r)) (fun σ1 => (fun k σ1 => wp_X12_each σ1 (sx xs (i + 1)) (sx xs (i + 2)) (fun r2 σ2 => wp_X12_thrown σ2 (fun t σ3 => t = k ∧ (k = 0 ∨ k = 1) ∧ (k = 0 → σ3 156 0 0 = r2) ∧ J σ3))) 1 σ1)) (K : Kn p l e s m below meth c b D ct N0 i cells slots Q J) : W p l e room_1 s m #[Value.ref b] below meth c H locs cells slots Q (F0 m 2140 ls []) := by
  have hF := X.2.2.2.2.2.2.2.2.1
  obtain ⟨hi0, hi8⟩ := hi
  obtain ⟨hr1, hr2⟩ := hr
  refine lv_aload_n X.1 X.2.1 dL_law_2140 rfl (lv_at hl 1 rfl) ?_
  refine s_arg (k0 := 0) (k4 := 4) X S h hl rfl rfl ⟨by omega, by omega⟩ dL_law_2141 dL_law_2142 dL_law_2144 dL_law_2145 dL_law_2146 ?_
  refine s_arg (k0 := 0) (k4 := 4) X S h hl rfl rfl ⟨by omega, by omega⟩ dL_law_2147 dL_law_2148 dL_law_2150 dL_law_2151 dL_law_2152 ?_
  refine lv_aload_n X.1 X.2.1 dL_law_2153 rfl (lv_at hl 3 rfl) ?_
  refine k_i h (r_SH (As := [.ref (ad 11 0), .int (iv (sx xs (i + 1))), .int (iv (sx xs (i + 2))), .ref (ad 156 0)]) (rest := []) X hZ h (c_L_each l hl0 D ct ad L φ N0 hm σ (sx xs (i + 1)) (sx xs (i + 2)) (fun k σ1 => wp_X12_each σ1 (sx xs (i + 1)) (sx xs (i + 2)) (fun r2 σ2 => wp_X12_thrown σ2 (fun t σ3 => t = k ∧ (k = 0 ∨ k = 1) ∧ (k = 0 → σ3 156 0 0 = r2) ∧ J σ3))) hw) rfl rfl ⟨Nat.le_of_ble_eq_true rfl, Nat.le_of_ble_eq_true rfl⟩ kw_1617 kw_1618 kw_119 kw_1619 pd_L_each rfl hl.1 rfl (Nat.le_of_ble_eq_true rfl) ⟨by omega, by omega⟩ dL_law_2154) (fun k σ_1 H locs hw h => ?_)
  refine lv_istore (lv' := [(5, .int (iv k)), (0, .ref b), (1, .ref (ad 11 0)), (2, .ref (ad 12 0)), (3, .ref (ad 156 0)), (4, .int (iv i))]) X.1 X.2.1 dL_law_2157 hl (by decide) rfl (fun ls hl => ?_)
  refine lv_aload_n X.1 X.2.1 dL_law_2159 rfl (lv_at hl 3 rfl) ?_
  refine s_arg (k0 := 1) (k4 := 5) X S h hl rfl rfl ⟨by omega, by omega⟩ dL_law_2160 dL_law_2161 dL_law_2163 dL_law_2164 dL_law_2165 ?_
  refine s_arg (k0 := 1) (k4 := 5) X S h hl rfl rfl ⟨by omega, by omega⟩ dL_law_2166 dL_law_2167 dL_law_2169 dL_law_2170 dL_law_2171 ?_
  refine k_i h (r_V (C := RX12) (ci := 12) (As := [.int (iv (sx xs (i + 1))), .int (iv (sx xs (i + 2)))]) (rest := []) X h (c_X12_each l D ct ad L φ N0 σ_1 (sx xs (i + 1)) (sx xs (i + 2)) _ hw) rfl rfl ⟨Nat.le_of_ble_eq_true rfl, Nat.le_of_ble_eq_true rfl⟩ kw_2427 kw_2428 kw_2429 kw_129 kw_2430 ⟨rfl, pd_X12_each⟩ (hF.1 12 rfl).1 rfl rfl rfl hl.1 rfl (Nat.le_of_ble_eq_true rfl) ⟨by omega, by omega⟩ dL_law_2172) (fun r2 σ_2 H locs hw h => ?_)
  refine lv_istore (lv' := [(6, .int (iv r2)), (5, .int (iv k)), (0, .ref b), (1, .ref (ad 11 0)), (2, .ref (ad 12 0)), (3, .ref (ad 156 0)), (4, .int (iv i))]) X.1 X.2.1 dL_law_2175 hl (by decide) rfl (fun ls hl => ?_)
  refine lv_aload_n X.1 X.2.1 dL_law_2177 rfl (lv_at hl 4 rfl) ?_
  refine k_i h (r_V (C := RX12) (ci := 12) (As := []) (rest := []) X h (c_X12_thrown l D ct ad L φ N0 σ_2 _ hw) rfl rfl ⟨Nat.le_of_ble_eq_true rfl, Nat.le_of_ble_eq_true rfl⟩ kw_1948 kw_1949 kw_1950 kw_129 kw_1951 ⟨rfl, pd_X12_thrown⟩ (hF.1 12 rfl).1 rfl rfl rfl hl.1 rfl (Nat.le_of_ble_eq_true rfl) ⟨by omega, by omega⟩ dL_law_2178) (fun t σ_3 H locs hw h => ?_)
  obtain ⟨w1, w2, w3, w4⟩ := hw
  refine lv_iload X.1 X.2.1 dL_law_2181 (lv_at hl 1 rfl) ?_
  refine lv_icmp_eq (tgt := 2188) X.1 X.2.1 dL_law_2183 (by decide) (fun _ => ?_) (fun q => absurd (by rw [w1]) q)
  refine lv_iload X.1 X.2.1 dL_law_2188 (lv_at hl 1 rfl) ?_
  have fin : W p l e room_1 s m #[Value.ref b] below meth c H locs (cells + 1 + 0 + 0) (slots + 6 + 0 + 0) Q (F0 m 2205 ls []) := by
    refine lv_goto (tgt := 2584) X.1 X.2.1 dL_law_2205 (by decide) ?_
    refine W.widen (k := cells + 25) (n := slots + 165) (by omega) (by omega) ?_
    exact K σ_3 ad L φ H locs ls w4 h hF hm (lv_sub hl [2, 3, 4, 5, 6] rfl)
  refine j_if_ne (tgt := 2205) X (by rcases w2 with rfl | rfl <;> exact ⟨by decide, by decide⟩) dL_law_2190 (by decide) (fun _ => fin) (fun q => ?_)
  refine lv_aload_n X.1 X.2.1 dL_law_2193 rfl (lv_at hl 5 rfl) ?_
  refine j_iconst X dL_law_2194 ?_
  refine r_lald X h hm dL_law_2195 ?_
  refine lv_iload X.1 X.2.1 dL_law_2196 (lv_at hl 0 rfl) ?_
  refine lv_i2l X.1 X.2.1 dL_law_2198 rfl ?_
  refine W.lcmp X.1 X.2.1 dL_law_2199 ?_
  rw [w3 q, lg_cmp_self]
  exact lv_if_eq (tgt := 2205) X.1 X.2.1 dL_law_2200 (by decide) (fun _ => fin) (fun z => absurd rfl z)
set_option maxRecDepth 100000 in
set_option maxHeartbeats 4000000 in
theorem lc_46 (X : Cx p s m meth c #[Value.ref b] cL_law 7 (some .boolean) RL D ct L φ N0) (S : Sx b LL xs N0 s) (hi : 0 ≤ i ∧ i + 8 ≤ LL) (hr : cells + 25 ≤ room_1.cells ∧ slots + 165 ≤ room_1.slots) (h : Hs D ct ad L φ N0 s.heap σ H locs) (hm : (156, 0) ∈ L) (hl : lv_has ls 7 (lvL b ad i)) (hw : wp_X11_cruise σ (sx xs (i + 1)) (sx xs (i + 2)) (fun r σ1 => wp_X12_cruise σ1 (sx xs (i + 1)) (sx xs (i + 2)) (fun r2 σ2 => r2 = r ∧ J σ2))) (K : Kn p l e s m below meth c b D ct N0 i cells slots Q J) : W p l e room_1 s m #[Value.ref b] below meth c H locs cells slots Q (F0 m 2208 ls []) := by
  have hF := X.2.2.2.2.2.2.2.2.1
  obtain ⟨hi0, hi8⟩ := hi
  obtain ⟨hr1, hr2⟩ := hr
  refine lv_aload_n X.1 X.2.1 dL_law_2208 rfl (lv_at hl 1 rfl) ?_
  refine s_arg (k0 := 0) (k4 := 4) X S h hl rfl rfl ⟨by omega, by omega⟩ dL_law_2209 dL_law_2210 dL_law_2212 dL_law_2213 dL_law_2214 ?_
  refine s_arg (k0 := 0) (k4 := 4) X S h hl rfl rfl ⟨by omega, by omega⟩ dL_law_2215 dL_law_2216 dL_law_2218 dL_law_2219 dL_law_2220 ?_
  refine k_i h (r_V (C := RX11) (ci := 11) (As := [.int (iv (sx xs (i + 1))), .int (iv (sx xs (i + 2)))]) (rest := []) X h (c_X11_cruise l D ct ad L φ N0 σ (sx xs (i + 1)) (sx xs (i + 2)) _ hw) rfl rfl ⟨Nat.le_of_ble_eq_true rfl, Nat.le_of_ble_eq_true rfl⟩ kw_1454 kw_1455 kw_1456 kw_120 kw_1457 ⟨rfl, pd_X11_cruise⟩ (hF.1 11 rfl).1 rfl rfl rfl hl.1 rfl (Nat.le_of_ble_eq_true rfl) ⟨by omega, by omega⟩ dL_law_2221) (fun r σ_1 H locs hw h => ?_)
  refine lv_aload_n X.1 X.2.1 dL_law_2224 rfl (lv_at hl 2 rfl) ?_
  refine s_arg (k0 := 0) (k4 := 4) X S h hl rfl rfl ⟨by omega, by omega⟩ dL_law_2225 dL_law_2226 dL_law_2228 dL_law_2229 dL_law_2230 ?_
  refine s_arg (k0 := 0) (k4 := 4) X S h hl rfl rfl ⟨by omega, by omega⟩ dL_law_2231 dL_law_2232 dL_law_2234 dL_law_2235 dL_law_2236 ?_
  refine k_i h (r_V (C := RX12) (ci := 12) (As := [.int (iv (sx xs (i + 1))), .int (iv (sx xs (i + 2)))]) (rest := [.int (iv r)]) X h (c_X12_cruise l D ct ad L φ N0 σ_1 (sx xs (i + 1)) (sx xs (i + 2)) _ hw) rfl rfl ⟨Nat.le_of_ble_eq_true rfl, Nat.le_of_ble_eq_true rfl⟩ kw_2439 kw_2440 kw_2441 kw_129 kw_2442 ⟨rfl, pd_X12_cruise⟩ (hF.1 12 rfl).1 rfl rfl rfl hl.1 rfl (Nat.le_of_ble_eq_true rfl) ⟨by omega, by omega⟩ dL_law_2237) (fun r2 σ_2 H locs hw h => ?_)
  refine lv_icmp_eq (tgt := 2584) X.1 X.2.1 dL_law_2240 (by decide) (fun _ => ?_) (fun q => absurd (by rw [hw.1]) q)
  refine W.widen (k := cells + 25) (n := slots + 165) (by omega) (by omega) ?_
  exact K σ_2 ad L φ H locs ls hw.2 h hF hm hl
set_option maxRecDepth 100000 in
set_option maxHeartbeats 4000000 in
theorem lc_47 (X : Cx p s m meth c #[Value.ref b] cL_law 7 (some .boolean) RL D ct L φ N0) (S : Sx b LL xs N0 s) (hi : 0 ≤ i ∧ i + 8 ≤ LL) (hr : cells + 25 ≤ room_1.cells ∧ slots + 165 ≤ room_1.slots) (h : Hs D ct ad L φ N0 s.heap σ H locs) (hm : (156, 0) ∈ L) (hl : lv_has ls 7 (lvL b ad i)) (hw : wp_X11_knew σ (sx xs (i + 1)) (sx xs (i + 2)) (sx xs (i + 3)) (fun r σ1 => wp_X12_knew σ1 (sx xs (i + 1)) (sx xs (i + 2)) (sx xs (i + 3)) (fun r2 σ2 => r2 = r ∧ J σ2))) (K : Kn p l e s m below meth c b D ct N0 i cells slots Q J) : W p l e room_1 s m #[Value.ref b] below meth c H locs cells slots Q (F0 m 2245 ls []) := by
  have hF := X.2.2.2.2.2.2.2.2.1
  obtain ⟨hi0, hi8⟩ := hi
  obtain ⟨hr1, hr2⟩ := hr
  refine lv_aload_n X.1 X.2.1 dL_law_2245 rfl (lv_at hl 1 rfl) ?_
  refine s_arg (k0 := 0) (k4 := 4) X S h hl rfl rfl ⟨by omega, by omega⟩ dL_law_2246 dL_law_2247 dL_law_2249 dL_law_2250 dL_law_2251 ?_
  refine s_arg (k0 := 0) (k4 := 4) X S h hl rfl rfl ⟨by omega, by omega⟩ dL_law_2252 dL_law_2253 dL_law_2255 dL_law_2256 dL_law_2257 ?_
  refine s_arg (k0 := 0) (k4 := 4) X S h hl rfl rfl ⟨by omega, by omega⟩ dL_law_2258 dL_law_2259 dL_law_2261 dL_law_2262 dL_law_2263 ?_
  refine k_i h (r_V (C := RX11) (ci := 11) (As := [.int (iv (sx xs (i + 1))), .int (iv (sx xs (i + 2))), .int (iv (sx xs (i + 3)))]) (rest := []) X h (c_X11_knew l D ct ad L φ N0 σ (sx xs (i + 1)) (sx xs (i + 2)) (sx xs (i + 3)) _ hw) rfl rfl ⟨Nat.le_of_ble_eq_true rfl, Nat.le_of_ble_eq_true rfl⟩ kw_1485 kw_1486 kw_1487 kw_120 kw_1488 ⟨rfl, pd_X11_knew⟩ (hF.1 11 rfl).1 rfl rfl rfl hl.1 rfl (Nat.le_of_ble_eq_true rfl) ⟨by omega, by omega⟩ dL_law_2264) (fun r σ_1 H locs hw h => ?_)
  refine lv_aload_n X.1 X.2.1 dL_law_2267 rfl (lv_at hl 2 rfl) ?_
  refine s_arg (k0 := 0) (k4 := 4) X S h hl rfl rfl ⟨by omega, by omega⟩ dL_law_2268 dL_law_2269 dL_law_2271 dL_law_2272 dL_law_2273 ?_
  refine s_arg (k0 := 0) (k4 := 4) X S h hl rfl rfl ⟨by omega, by omega⟩ dL_law_2274 dL_law_2275 dL_law_2277 dL_law_2278 dL_law_2279 ?_
  refine s_arg (k0 := 0) (k4 := 4) X S h hl rfl rfl ⟨by omega, by omega⟩ dL_law_2280 dL_law_2281 dL_law_2283 dL_law_2284 dL_law_2285 ?_
  refine k_i h (r_V (C := RX12) (ci := 12) (As := [.int (iv (sx xs (i + 1))), .int (iv (sx xs (i + 2))), .int (iv (sx xs (i + 3)))]) (rest := [.int (iv r)]) X h (c_X12_knew l D ct ad L φ N0 σ_1 (sx xs (i + 1)) (sx xs (i + 2)) (sx xs (i + 3)) _ hw) rfl rfl ⟨Nat.le_of_ble_eq_true rfl, Nat.le_of_ble_eq_true rfl⟩ kw_2023 kw_2024 kw_2025 kw_129 kw_2026 ⟨rfl, pd_X12_knew⟩ (hF.1 12 rfl).1 rfl rfl rfl hl.1 rfl (Nat.le_of_ble_eq_true rfl) ⟨by omega, by omega⟩ dL_law_2286) (fun r2 σ_2 H locs hw h => ?_)
  refine lv_icmp_eq (tgt := 2584) X.1 X.2.1 dL_law_2289 (by decide) (fun _ => ?_) (fun q => absurd (by rw [hw.1]) q)
  refine W.widen (k := cells + 25) (n := slots + 165) (by omega) (by omega) ?_
  exact K σ_2 ad L φ H locs ls hw.2 h hF hm hl
set_option maxRecDepth 100000 in
set_option maxHeartbeats 4000000 in
theorem lc_48 (X : Cx p s m meth c #[Value.ref b] cL_law 7 (some .boolean) RL D ct L φ N0) (S : Sx b LL xs N0 s) (hi : 0 ≤ i ∧ i + 8 ≤ LL) (hr : cells + 25 ≤ room_1.cells ∧ slots + 165 ≤ room_1.slots) (h : Hs D ct ad L φ N0 s.heap σ H locs) (hm : (156, 0) ∈ L) (hl : lv_has ls 7 (lvL b ad i)) (hw : wp_X11_alter σ (sx xs (i + 1)) (sx xs (i + 2)) (sx xs (i + 3)) (fun r σ1 => wp_X12_alter σ1 (sx xs (i + 1)) (sx xs (i + 2)) (sx xs (i + 3)) (fun r2 σ2 => r2 = r ∧ J σ2))) (K : Kn p l e s m below meth c b D ct N0 i cells slots Q J) : W p l e room_1 s m #[Value.ref b] below meth c H locs cells slots Q (F0 m 2294 ls []) := by
  have hF := X.2.2.2.2.2.2.2.2.1
  obtain ⟨hi0, hi8⟩ := hi
  obtain ⟨hr1, hr2⟩ := hr
  refine lv_aload_n X.1 X.2.1 dL_law_2294 rfl (lv_at hl 1 rfl) ?_
  refine s_arg (k0 := 0) (k4 := 4) X S h hl rfl rfl ⟨by omega, by omega⟩ dL_law_2295 dL_law_2296 dL_law_2298 dL_law_2299 dL_law_2300 ?_
  refine s_arg (k0 := 0) (k4 := 4) X S h hl rfl rfl ⟨by omega, by omega⟩ dL_law_2301 dL_law_2302 dL_law_2304 dL_law_2305 dL_law_2306 ?_
  refine s_arg (k0 := 0) (k4 := 4) X S h hl rfl rfl ⟨by omega, by omega⟩ dL_law_2307 dL_law_2308 dL_law_2310 dL_law_2311 dL_law_2312 ?_
  refine k_i h (r_V (C := RX11) (ci := 11) (As := [.int (iv (sx xs (i + 1))), .int (iv (sx xs (i + 2))), .int (iv (sx xs (i + 3)))]) (rest := []) X h (c_X11_alter l D ct ad L φ N0 σ (sx xs (i + 1)) (sx xs (i + 2)) (sx xs (i + 3)) _ hw) rfl rfl ⟨Nat.le_of_ble_eq_true rfl, Nat.le_of_ble_eq_true rfl⟩ kw_1493 kw_1494 kw_1495 kw_120 kw_1496 ⟨rfl, pd_X11_alter⟩ (hF.1 11 rfl).1 rfl rfl rfl hl.1 rfl (Nat.le_of_ble_eq_true rfl) ⟨by omega, by omega⟩ dL_law_2313) (fun r σ_1 H locs hw h => ?_)
  refine lv_aload_n X.1 X.2.1 dL_law_2316 rfl (lv_at hl 2 rfl) ?_
  refine s_arg (k0 := 0) (k4 := 4) X S h hl rfl rfl ⟨by omega, by omega⟩ dL_law_2317 dL_law_2318 dL_law_2320 dL_law_2321 dL_law_2322 ?_
  refine s_arg (k0 := 0) (k4 := 4) X S h hl rfl rfl ⟨by omega, by omega⟩ dL_law_2323 dL_law_2324 dL_law_2326 dL_law_2327 dL_law_2328 ?_
  refine s_arg (k0 := 0) (k4 := 4) X S h hl rfl rfl ⟨by omega, by omega⟩ dL_law_2329 dL_law_2330 dL_law_2332 dL_law_2333 dL_law_2334 ?_
  refine k_i h (r_V (C := RX12) (ci := 12) (As := [.int (iv (sx xs (i + 1))), .int (iv (sx xs (i + 2))), .int (iv (sx xs (i + 3)))]) (rest := [.int (iv r)]) X h (c_X12_alter l D ct ad L φ N0 σ_1 (sx xs (i + 1)) (sx xs (i + 2)) (sx xs (i + 3)) _ hw) rfl rfl ⟨Nat.le_of_ble_eq_true rfl, Nat.le_of_ble_eq_true rfl⟩ kw_2031 kw_2032 kw_2033 kw_129 kw_2034 ⟨rfl, pd_X12_alter⟩ (hF.1 12 rfl).1 rfl rfl rfl hl.1 rfl (Nat.le_of_ble_eq_true rfl) ⟨by omega, by omega⟩ dL_law_2335) (fun r2 σ_2 H locs hw h => ?_)
  refine lv_icmp_eq (tgt := 2584) X.1 X.2.1 dL_law_2338 (by decide) (fun _ => ?_) (fun q => absurd (by rw [hw.1]) q)
  refine W.widen (k := cells + 25) (n := slots + 165) (by omega) (by omega) ?_
  exact K σ_2 ad L φ H locs ls hw.2 h hF hm hl
set_option maxRecDepth 100000 in
set_option maxHeartbeats 4000000 in
theorem lc_49 (X : Cx p s m meth c #[Value.ref b] cL_law 7 (some .boolean) RL D ct L φ N0) (S : Sx b LL xs N0 s) (hi : 0 ≤ i ∧ i + 8 ≤ LL) (hr : cells + 25 ≤ room_1.cells ∧ slots + 165 ≤ room_1.slots) (h : Hs D ct ad L φ N0 s.heap σ H locs) (hm : (156, 0) ∈ L) (hl : lv_has ls 7 (lvL b ad i)) (hw : wp_X11_checked σ (sx xs (i + 1)) (sx xs (i + 2)) (fun r σ1 => wp_X12_checked σ1 (sx xs (i + 1)) (sx xs (i + 2)) (fun r2 σ2 => r2 = r ∧ J σ2))) (K : Kn p l e s m below meth c b D ct N0 i cells slots Q J) : W p l e room_1 s m #[Value.ref b] below meth c H locs cells slots Q (F0 m 2343 ls []) := by
  have hF := X.2.2.2.2.2.2.2.2.1
  obtain ⟨hi0, hi8⟩ := hi
  obtain ⟨hr1, hr2⟩ := hr
  refine lv_aload_n X.1 X.2.1 dL_law_2343 rfl (lv_at hl 1 rfl) ?_
  refine s_arg (k0 := 0) (k4 := 4) X S h hl rfl rfl ⟨by omega, by omega⟩ dL_law_2344 dL_law_2345 dL_law_2347 dL_law_2348 dL_law_2349 ?_
  refine s_arg (k0 := 0) (k4 := 4) X S h hl rfl rfl ⟨by omega, by omega⟩ dL_law_2350 dL_law_2351 dL_law_2353 dL_law_2354 dL_law_2355 ?_
  refine k_i h (r_V (C := RX11) (ci := 11) (As := [.int (iv (sx xs (i + 1))), .int (iv (sx xs (i + 2)))]) (rest := []) X h (c_X11_checked l D ct ad L φ N0 σ (sx xs (i + 1)) (sx xs (i + 2)) _ hw) rfl rfl ⟨Nat.le_of_ble_eq_true rfl, Nat.le_of_ble_eq_true rfl⟩ kw_1498 kw_1499 kw_1500 kw_120 kw_1501 ⟨rfl, pd_X11_checked⟩ (hF.1 11 rfl).1 rfl rfl rfl hl.1 rfl (Nat.le_of_ble_eq_true rfl) ⟨by omega, by omega⟩ dL_law_2356) (fun r σ_1 H locs hw h => ?_)
  refine lv_aload_n X.1 X.2.1 dL_law_2359 rfl (lv_at hl 2 rfl) ?_
  refine s_arg (k0 := 0) (k4 := 4) X S h hl rfl rfl ⟨by omega, by omega⟩ dL_law_2360 dL_law_2361 dL_law_2363 dL_law_2364 dL_law_2365 ?_
  refine s_arg (k0 := 0) (k4 := 4) X S h hl rfl rfl ⟨by omega, by omega⟩ dL_law_2366 dL_law_2367 dL_law_2369 dL_law_2370 dL_law_2371 ?_
  refine k_i h (r_V (C := RX12) (ci := 12) (As := [.int (iv (sx xs (i + 1))), .int (iv (sx xs (i + 2)))]) (rest := [.int (iv r)]) X h (c_X12_checked l D ct ad L φ N0 σ_1 (sx xs (i + 1)) (sx xs (i + 2)) _ hw) rfl rfl ⟨Nat.le_of_ble_eq_true rfl, Nat.le_of_ble_eq_true rfl⟩ kw_2036 kw_2037 kw_2038 kw_129 kw_2039 ⟨rfl, pd_X12_checked⟩ (hF.1 12 rfl).1 rfl rfl rfl hl.1 rfl (Nat.le_of_ble_eq_true rfl) ⟨by omega, by omega⟩ dL_law_2372) (fun r2 σ_2 H locs hw h => ?_)
  refine lv_icmp_eq (tgt := 2584) X.1 X.2.1 dL_law_2375 (by decide) (fun _ => ?_) (fun q => absurd (by rw [hw.1]) q)
  refine W.widen (k := cells + 25) (n := slots + 165) (by omega) (by omega) ?_
  exact K σ_2 ad L φ H locs ls hw.2 h hF hm hl
set_option maxRecDepth 100000 in
set_option maxHeartbeats 4000000 in
theorem lc_50 (X : Cx p s m meth c #[Value.ref b] cL_law 7 (some .boolean) RL D ct L φ N0) (S : Sx b LL xs N0 s) (hi : 0 ≤ i ∧ i + 8 ≤ LL) (hr : cells + 25 ≤ room_1.cells ∧ slots + 165 ≤ room_1.slots) (h : Hs D ct ad L φ N0 s.heap σ H locs) (hm : (156, 0) ∈ L) (hl : lv_has ls 7 (lvL b ad i)) (hw : wp_X11_of σ (sx xs (i + 1)) (sx xs (i + 2)) (fun r σ1 => wp_X12_of σ1 (sx xs (i + 1)) (sx xs (i + 2)) (fun r2 σ2 => r2 = r ∧ J σ2))) (K : Kn p l e s m below meth c b D ct N0 i cells slots Q J) : W p l e room_1 s m #[Value.ref b] below meth c H locs cells slots Q (F0 m 2380 ls []) := by
  have hF := X.2.2.2.2.2.2.2.2.1
  obtain ⟨hi0, hi8⟩ := hi
  obtain ⟨hr1, hr2⟩ := hr
  refine lv_aload_n X.1 X.2.1 dL_law_2380 rfl (lv_at hl 1 rfl) ?_
  refine s_arg (k0 := 0) (k4 := 4) X S h hl rfl rfl ⟨by omega, by omega⟩ dL_law_2381 dL_law_2382 dL_law_2384 dL_law_2385 dL_law_2386 ?_
  refine s_arg (k0 := 0) (k4 := 4) X S h hl rfl rfl ⟨by omega, by omega⟩ dL_law_2387 dL_law_2388 dL_law_2390 dL_law_2391 dL_law_2392 ?_
  refine k_i h (r_V (C := RX11) (ci := 11) (As := [.int (iv (sx xs (i + 1))), .int (iv (sx xs (i + 2)))]) (rest := []) X h (c_X11_of l D ct ad L φ N0 σ (sx xs (i + 1)) (sx xs (i + 2)) _ hw) rfl rfl ⟨Nat.le_of_ble_eq_true rfl, Nat.le_of_ble_eq_true rfl⟩ kw_577 kw_578 kw_579 kw_120 kw_580 ⟨rfl, pd_X11_of⟩ (hF.1 11 rfl).1 rfl rfl rfl hl.1 rfl (Nat.le_of_ble_eq_true rfl) ⟨by omega, by omega⟩ dL_law_2393) (fun r σ_1 H locs hw h => ?_)
  refine lv_aload_n X.1 X.2.1 dL_law_2396 rfl (lv_at hl 2 rfl) ?_
  refine s_arg (k0 := 0) (k4 := 4) X S h hl rfl rfl ⟨by omega, by omega⟩ dL_law_2397 dL_law_2398 dL_law_2400 dL_law_2401 dL_law_2402 ?_
  refine s_arg (k0 := 0) (k4 := 4) X S h hl rfl rfl ⟨by omega, by omega⟩ dL_law_2403 dL_law_2404 dL_law_2406 dL_law_2407 dL_law_2408 ?_
  refine k_i h (r_V (C := RX12) (ci := 12) (As := [.int (iv (sx xs (i + 1))), .int (iv (sx xs (i + 2)))]) (rest := [.int (iv r)]) X h (c_X12_of l D ct ad L φ N0 σ_1 (sx xs (i + 1)) (sx xs (i + 2)) _ hw) rfl rfl ⟨Nat.le_of_ble_eq_true rfl, Nat.le_of_ble_eq_true rfl⟩ kw_2443 kw_2444 kw_2445 kw_129 kw_2446 ⟨rfl, pd_X12_of⟩ (hF.1 12 rfl).1 rfl rfl rfl hl.1 rfl (Nat.le_of_ble_eq_true rfl) ⟨by omega, by omega⟩ dL_law_2409) (fun r2 σ_2 H locs hw h => ?_)
  refine lv_icmp_eq (tgt := 2584) X.1 X.2.1 dL_law_2412 (by decide) (fun _ => ?_) (fun q => absurd (by rw [hw.1]) q)
  refine W.widen (k := cells + 25) (n := slots + 165) (by omega) (by omega) ?_
  exact K σ_2 ad L φ H locs ls hw.2 h hF hm hl
set_option maxRecDepth 100000 in
set_option maxHeartbeats 4000000 in
theorem lc_51 (X : Cx p s m meth c #[Value.ref b] cL_law 7 (some .boolean) RL D ct L φ N0) (S : Sx b LL xs N0 s) (hi : 0 ≤ i ∧ i + 8 ≤ LL) (hr : cells + 25 ≤ room_1.cells ∧ slots + 165 ≤ room_1.slots) (h : Hs D ct ad L φ N0 s.heap σ H locs) (hm : (156, 0) ∈ L) (hl : lv_has ls 7 (lvL b ad i)) (hw : wp_X11_log σ (sx xs (i + 1)) (sx xs (i + 2)) (fun r σ1 => wp_X12_log σ1 (sx xs (i + 1)) (sx xs (i + 2)) (fun r2 σ2 => r2 = r ∧ J σ2))) (K : Kn p l e s m below meth c b D ct N0 i cells slots Q J) : W p l e room_1 s m #[Value.ref b] below meth c H locs cells slots Q (F0 m 2417 ls []) := by
  have hF := X.2.2.2.2.2.2.2.2.1
  obtain ⟨hi0, hi8⟩ := hi
  obtain ⟨hr1, hr2⟩ := hr
  refine lv_aload_n X.1 X.2.1 dL_law_2417 rfl (lv_at hl 1 rfl) ?_
  refine s_arg (k0 := 0) (k4 := 4) X S h hl rfl rfl ⟨by omega, by omega⟩ dL_law_2418 dL_law_2419 dL_law_2421 dL_law_2422 dL_law_2423 ?_
  refine s_arg (k0 := 0) (k4 := 4) X S h hl rfl rfl ⟨by omega, by omega⟩ dL_law_2424 dL_law_2425 dL_law_2427 dL_law_2428 dL_law_2429 ?_
  refine k_i h (r_V (C := RX11) (ci := 11) (As := [.int (iv (sx xs (i + 1))), .int (iv (sx xs (i + 2)))]) (rest := []) X h (c_X11_log l D ct ad L φ N0 σ (sx xs (i + 1)) (sx xs (i + 2)) _ hw) rfl rfl ⟨Nat.le_of_ble_eq_true rfl, Nat.le_of_ble_eq_true rfl⟩ kw_790 kw_791 kw_792 kw_120 kw_793 ⟨rfl, pd_X11_log⟩ (hF.1 11 rfl).1 rfl rfl rfl hl.1 rfl (Nat.le_of_ble_eq_true rfl) ⟨by omega, by omega⟩ dL_law_2430) (fun r σ_1 H locs hw h => ?_)
  refine lv_aload_n X.1 X.2.1 dL_law_2433 rfl (lv_at hl 2 rfl) ?_
  refine s_arg (k0 := 0) (k4 := 4) X S h hl rfl rfl ⟨by omega, by omega⟩ dL_law_2434 dL_law_2435 dL_law_2437 dL_law_2438 dL_law_2439 ?_
  refine s_arg (k0 := 0) (k4 := 4) X S h hl rfl rfl ⟨by omega, by omega⟩ dL_law_2440 dL_law_2441 dL_law_2443 dL_law_2444 dL_law_2445 ?_
  refine k_i h (r_V (C := RX12) (ci := 12) (As := [.int (iv (sx xs (i + 1))), .int (iv (sx xs (i + 2)))]) (rest := [.int (iv r)]) X h (c_X12_log l D ct ad L φ N0 σ_1 (sx xs (i + 1)) (sx xs (i + 2)) _ hw) rfl rfl ⟨Nat.le_of_ble_eq_true rfl, Nat.le_of_ble_eq_true rfl⟩ kw_2050 kw_2051 kw_2052 kw_129 kw_2053 ⟨rfl, pd_X12_log⟩ (hF.1 12 rfl).1 rfl rfl rfl hl.1 rfl (Nat.le_of_ble_eq_true rfl) ⟨by omega, by omega⟩ dL_law_2446) (fun r2 σ_2 H locs hw h => ?_)
  refine lv_icmp_eq (tgt := 2584) X.1 X.2.1 dL_law_2449 (by decide) (fun _ => ?_) (fun q => absurd (by rw [hw.1]) q)
  refine W.widen (k := cells + 25) (n := slots + 165) (by omega) (by omega) ?_
  exact K σ_2 ad L φ H locs ls hw.2 h hF hm hl
set_option maxRecDepth 100000 in
set_option maxHeartbeats 4000000 in
theorem lc_52 (X : Cx p s m meth c #[Value.ref b] cL_law 7 (some .boolean) RL D ct L φ N0) (S : Sx b LL xs N0 s) (hi : 0 ≤ i ∧ i + 8 ≤ LL) (hr : cells + 25 ≤ room_1.cells ∧ slots + 165 ≤ room_1.slots) (h : Hs D ct ad L φ N0 s.heap σ H locs) (hm : (156, 0) ∈ L) (hl : lv_has ls 7 (lvL b ad i)) (hw : wp_X11_crewOf σ (sx xs (i + 1)) (sx xs (i + 2)) (fun r σ1 => wp_X12_crewOf σ1 (sx xs (i + 1)) (sx xs (i + 2)) (fun r2 σ2 => r2 = r ∧ J σ2))) (K : Kn p l e s m below meth c b D ct N0 i cells slots Q J) : W p l e room_1 s m #[Value.ref b] below meth c H locs cells slots Q (F0 m 2454 ls []) := by
  have hF := X.2.2.2.2.2.2.2.2.1
  obtain ⟨hi0, hi8⟩ := hi
  obtain ⟨hr1, hr2⟩ := hr
  refine lv_aload_n X.1 X.2.1 dL_law_2454 rfl (lv_at hl 1 rfl) ?_
  refine s_arg (k0 := 0) (k4 := 4) X S h hl rfl rfl ⟨by omega, by omega⟩ dL_law_2455 dL_law_2456 dL_law_2458 dL_law_2459 dL_law_2460 ?_
  refine s_arg (k0 := 0) (k4 := 4) X S h hl rfl rfl ⟨by omega, by omega⟩ dL_law_2461 dL_law_2462 dL_law_2464 dL_law_2465 dL_law_2466 ?_
  refine k_i h (r_V (C := RX11) (ci := 11) (As := [.int (iv (sx xs (i + 1))), .int (iv (sx xs (i + 2)))]) (rest := []) X h (c_X11_crewOf l D ct ad L φ N0 σ (sx xs (i + 1)) (sx xs (i + 2)) _ hw) rfl rfl ⟨Nat.le_of_ble_eq_true rfl, Nat.le_of_ble_eq_true rfl⟩ kw_1223 kw_1224 kw_1225 kw_120 kw_1226 ⟨rfl, pd_X11_crewOf⟩ (hF.1 11 rfl).1 rfl rfl rfl hl.1 rfl (Nat.le_of_ble_eq_true rfl) ⟨by omega, by omega⟩ dL_law_2467) (fun r σ_1 H locs hw h => ?_)
  refine lv_aload_n X.1 X.2.1 dL_law_2470 rfl (lv_at hl 2 rfl) ?_
  refine s_arg (k0 := 0) (k4 := 4) X S h hl rfl rfl ⟨by omega, by omega⟩ dL_law_2471 dL_law_2472 dL_law_2474 dL_law_2475 dL_law_2476 ?_
  refine s_arg (k0 := 0) (k4 := 4) X S h hl rfl rfl ⟨by omega, by omega⟩ dL_law_2477 dL_law_2478 dL_law_2480 dL_law_2481 dL_law_2482 ?_
  refine k_i h (r_V (C := RX12) (ci := 12) (As := [.int (iv (sx xs (i + 1))), .int (iv (sx xs (i + 2)))]) (rest := [.int (iv r)]) X h (c_X12_crewOf l D ct ad L φ N0 σ_1 (sx xs (i + 1)) (sx xs (i + 2)) _ hw) rfl rfl ⟨Nat.le_of_ble_eq_true rfl, Nat.le_of_ble_eq_true rfl⟩ kw_2447 kw_2448 kw_2449 kw_129 kw_2450 ⟨rfl, pd_X12_crewOf⟩ (hF.1 12 rfl).1 rfl rfl rfl hl.1 rfl (Nat.le_of_ble_eq_true rfl) ⟨by omega, by omega⟩ dL_law_2483) (fun r2 σ_2 H locs hw h => ?_)
  refine lv_icmp_eq (tgt := 2584) X.1 X.2.1 dL_law_2486 (by decide) (fun _ => ?_) (fun q => absurd (by rw [hw.1]) q)
  refine W.widen (k := cells + 25) (n := slots + 165) (by omega) (by omega) ?_
  exact K σ_2 ad L φ H locs ls hw.2 h hF hm hl
set_option maxRecDepth 100000 in
set_option maxHeartbeats 4000000 in
theorem lc_53 (X : Cx p s m meth c #[Value.ref b] cL_law 7 (some .boolean) RL D ct L φ N0) (S : Sx b LL xs N0 s) (hZ : Zx N0 s) (hl0 : l.stackTraces = false) (hi : 0 ≤ i ∧ i + 8 ≤ LL) (hr : cells + 25 ≤ room_1.cells ∧ slots + 165 ≤ room_1.slots) (h : Hs D ct ad L φ N0 s.heap σ H locs) (hm : (156, 0) ∈ L) (hl : lv_has ls 7 (lvL b ad i)) (hw : wp_X11_orderOf σ (sx xs (i + 1)) (sx xs (i + 2)) (fun r σ1 => (fun k σ1 => wp_X12_orderOf σ1 (sx xs (i + 1)) (sx xs (i + 2)) (fun r2 σ2 => wp_X12_thrown σ2 (fun t σ3 => t = k ∧ (k = 0 ∨ k = 1) ∧ (k = 0 → σ3 156 0 0 = r2) ∧ J σ3))) 0 (st σ1 156 0 0 r)) (fun σ1 => (fun k σ1 => wp_X12_orderOf σ1 (sx xs (i + 1)) (sx xs (i + 2)) (fun r2 σ2 => wp_X12_thrown σ2 (fun t σ3 => t = k ∧ (k = 0 ∨ k = 1) ∧ (k = 0 → σ3 156 0 0 = r2) ∧ J σ3))) 1 σ1)) (K : Kn p l e s m below meth c b D ct N0 i cells slots Q J) : W p l e room_1 s m #[Value.ref b] below meth c H locs cells slots Q (F0 m 2491 ls []) := by
  have hF := X.2.2.2.2.2.2.2.2.1
  obtain ⟨hi0, hi8⟩ := hi
  obtain ⟨hr1, hr2⟩ := hr
  refine lv_aload_n X.1 X.2.1 dL_law_2491 rfl (lv_at hl 1 rfl) ?_
  refine s_arg (k0 := 0) (k4 := 4) X S h hl rfl rfl ⟨by omega, by omega⟩ dL_law_2492 dL_law_2493 dL_law_2495 dL_law_2496 dL_law_2497 ?_
  refine s_arg (k0 := 0) (k4 := 4) X S h hl rfl rfl ⟨by omega, by omega⟩ dL_law_2498 dL_law_2499 dL_law_2501 dL_law_2502 dL_law_2503 ?_
  refine lv_aload_n X.1 X.2.1 dL_law_2504 rfl (lv_at hl 3 rfl) ?_
  refine k_i h (r_SH (As := [.ref (ad 11 0), .int (iv (sx xs (i + 1))), .int (iv (sx xs (i + 2))), .ref (ad 156 0)]) (rest := []) X hZ h (c_L_orderOf l hl0 D ct ad L φ N0 hm σ (sx xs (i + 1)) (sx xs (i + 2)) (fun k σ1 => wp_X12_orderOf σ1 (sx xs (i + 1)) (sx xs (i + 2)) (fun r2 σ2 => wp_X12_thrown σ2 (fun t σ3 => t = k ∧ (k = 0 ∨ k = 1) ∧ (k = 0 → σ3 156 0 0 = r2) ∧ J σ3))) hw) rfl rfl ⟨Nat.le_of_ble_eq_true rfl, Nat.le_of_ble_eq_true rfl⟩ kw_1625 kw_1626 kw_119 kw_1627 pd_L_orderOf rfl hl.1 rfl (Nat.le_of_ble_eq_true rfl) ⟨by omega, by omega⟩ dL_law_2505) (fun k σ_1 H locs hw h => ?_)
  refine lv_istore (lv' := [(5, .int (iv k)), (0, .ref b), (1, .ref (ad 11 0)), (2, .ref (ad 12 0)), (3, .ref (ad 156 0)), (4, .int (iv i))]) X.1 X.2.1 dL_law_2508 hl (by decide) rfl (fun ls hl => ?_)
  refine lv_aload_n X.1 X.2.1 dL_law_2510 rfl (lv_at hl 3 rfl) ?_
  refine s_arg (k0 := 1) (k4 := 5) X S h hl rfl rfl ⟨by omega, by omega⟩ dL_law_2511 dL_law_2512 dL_law_2514 dL_law_2515 dL_law_2516 ?_
  refine s_arg (k0 := 1) (k4 := 5) X S h hl rfl rfl ⟨by omega, by omega⟩ dL_law_2517 dL_law_2518 dL_law_2520 dL_law_2521 dL_law_2522 ?_
  refine k_i h (r_V (C := RX12) (ci := 12) (As := [.int (iv (sx xs (i + 1))), .int (iv (sx xs (i + 2)))]) (rest := []) X h (c_X12_orderOf l D ct ad L φ N0 σ_1 (sx xs (i + 1)) (sx xs (i + 2)) _ hw) rfl rfl ⟨Nat.le_of_ble_eq_true rfl, Nat.le_of_ble_eq_true rfl⟩ kw_2329 kw_2330 kw_2331 kw_129 kw_2332 ⟨rfl, pd_X12_orderOf⟩ (hF.1 12 rfl).1 rfl rfl rfl hl.1 rfl (Nat.le_of_ble_eq_true rfl) ⟨by omega, by omega⟩ dL_law_2523) (fun r2 σ_2 H locs hw h => ?_)
  refine lv_istore (lv' := [(6, .int (iv r2)), (5, .int (iv k)), (0, .ref b), (1, .ref (ad 11 0)), (2, .ref (ad 12 0)), (3, .ref (ad 156 0)), (4, .int (iv i))]) X.1 X.2.1 dL_law_2526 hl (by decide) rfl (fun ls hl => ?_)
  refine lv_aload_n X.1 X.2.1 dL_law_2528 rfl (lv_at hl 4 rfl) ?_
  refine k_i h (r_V (C := RX12) (ci := 12) (As := []) (rest := []) X h (c_X12_thrown l D ct ad L φ N0 σ_2 _ hw) rfl rfl ⟨Nat.le_of_ble_eq_true rfl, Nat.le_of_ble_eq_true rfl⟩ kw_1948 kw_1949 kw_1950 kw_129 kw_1951 ⟨rfl, pd_X12_thrown⟩ (hF.1 12 rfl).1 rfl rfl rfl hl.1 rfl (Nat.le_of_ble_eq_true rfl) ⟨by omega, by omega⟩ dL_law_2529) (fun t σ_3 H locs hw h => ?_)
  obtain ⟨w1, w2, w3, w4⟩ := hw
  refine lv_iload X.1 X.2.1 dL_law_2532 (lv_at hl 1 rfl) ?_
  refine lv_icmp_eq (tgt := 2539) X.1 X.2.1 dL_law_2534 (by decide) (fun _ => ?_) (fun q => absurd (by rw [w1]) q)
  refine lv_iload X.1 X.2.1 dL_law_2539 (lv_at hl 1 rfl) ?_
  have fin : W p l e room_1 s m #[Value.ref b] below meth c H locs (cells + 1 + 0 + 0) (slots + 6 + 0 + 0) Q (F0 m 2556 ls []) := by
    refine lv_goto (tgt := 2584) X.1 X.2.1 dL_law_2556 (by decide) ?_
    refine W.widen (k := cells + 25) (n := slots + 165) (by omega) (by omega) ?_
    exact K σ_3 ad L φ H locs ls w4 h hF hm (lv_sub hl [2, 3, 4, 5, 6] rfl)
  refine j_if_ne (tgt := 2556) X (by rcases w2 with rfl | rfl <;> exact ⟨by decide, by decide⟩) dL_law_2541 (by decide) (fun _ => fin) (fun q => ?_)
  refine lv_aload_n X.1 X.2.1 dL_law_2544 rfl (lv_at hl 5 rfl) ?_
  refine j_iconst X dL_law_2545 ?_
  refine r_lald X h hm dL_law_2546 ?_
  refine lv_iload X.1 X.2.1 dL_law_2547 (lv_at hl 0 rfl) ?_
  refine lv_i2l X.1 X.2.1 dL_law_2549 rfl ?_
  refine W.lcmp X.1 X.2.1 dL_law_2550 ?_
  rw [w3 q, lg_cmp_self]
  exact lv_if_eq (tgt := 2556) X.1 X.2.1 dL_law_2551 (by decide) (fun _ => fin) (fun z => absurd rfl z)
set_option maxRecDepth 100000 in
set_option maxHeartbeats 4000000 in
theorem lc_54 (X : Cx p s m meth c #[Value.ref b] cL_law 7 (some .boolean) RL D ct L φ N0) (S : Sx b LL xs N0 s) (hi : 0 ≤ i ∧ i + 8 ≤ LL) (hr : cells + 25 ≤ room_1.cells ∧ slots + 165 ≤ room_1.slots) (h : Hs D ct ad L φ N0 s.heap σ H locs) (hm : (156, 0) ∈ L) (hl : lv_has ls 7 (lvL b ad i)) (hw : wp_X11_count σ (sx xs (i + 1)) (fun r σ1 => wp_X12_count σ1 (sx xs (i + 1)) (fun r2 σ2 => r2 = r ∧ J σ2))) (K : Kn p l e s m below meth c b D ct N0 i cells slots Q J) : W p l e room_1 s m #[Value.ref b] below meth c H locs cells slots Q (F0 m 2559 ls []) := by
  have hF := X.2.2.2.2.2.2.2.2.1
  obtain ⟨hi0, hi8⟩ := hi
  obtain ⟨hr1, hr2⟩ := hr
  refine lv_aload_n X.1 X.2.1 dL_law_2559 rfl (lv_at hl 1 rfl) ?_
  refine s_arg (k0 := 0) (k4 := 4) X S h hl rfl rfl ⟨by omega, by omega⟩ dL_law_2560 dL_law_2561 dL_law_2563 dL_law_2564 dL_law_2565 ?_
  refine k_i h (r_V (C := RX11) (ci := 11) (As := [.int (iv (sx xs (i + 1)))]) (rest := []) X h (c_X11_count l D ct ad L φ N0 σ (sx xs (i + 1)) _ hw) rfl rfl ⟨Nat.le_of_ble_eq_true rfl, Nat.le_of_ble_eq_true rfl⟩ kw_1519 kw_1520 kw_1521 kw_120 kw_1522 ⟨rfl, pd_X11_count⟩ (hF.1 11 rfl).1 rfl rfl rfl hl.1 rfl (Nat.le_of_ble_eq_true rfl) ⟨by omega, by omega⟩ dL_law_2566) (fun r σ_1 H locs hw h => ?_)
  refine lv_aload_n X.1 X.2.1 dL_law_2569 rfl (lv_at hl 2 rfl) ?_
  refine s_arg (k0 := 0) (k4 := 4) X S h hl rfl rfl ⟨by omega, by omega⟩ dL_law_2570 dL_law_2571 dL_law_2573 dL_law_2574 dL_law_2575 ?_
  refine k_i h (r_V (C := RX12) (ci := 12) (As := [.int (iv (sx xs (i + 1)))]) (rest := [.int (iv r)]) X h (c_X12_count l D ct ad L φ N0 σ_1 (sx xs (i + 1)) _ hw) rfl rfl ⟨Nat.le_of_ble_eq_true rfl, Nat.le_of_ble_eq_true rfl⟩ kw_2451 kw_2452 kw_2453 kw_129 kw_2454 ⟨rfl, pd_X12_count⟩ (hF.1 12 rfl).1 rfl rfl rfl hl.1 rfl (Nat.le_of_ble_eq_true rfl) ⟨by omega, by omega⟩ dL_law_2576) (fun r2 σ_2 H locs hw h => ?_)
  refine lv_icmp_eq (tgt := 2584) X.1 X.2.1 dL_law_2579 (by decide) (fun _ => ?_) (fun q => absurd (by rw [hw.1]) q)
  refine W.widen (k := cells + 25) (n := slots + 165) (by omega) (by omega) ?_
  exact K σ_2 ad L φ H locs ls hw.2 h hF hm hl
end LC
