/-! the law's loop -/
theorem bz_or (x : Int) : bz x = 0 ∨ bz x = 1 := by
  unfold bz
  split
  · exact Or.inl rfl
  · exact Or.inr rfl
theorem iv_ofn (n : Nat) : Int32.ofNat n = iv (n : Int) := rfl
section LL
variable {p : Program} {l : Launch} {e : Env} {s : State} {m : MethodId} {below : List Frame} {meth : Method} {c : Code} {D : va_G} {ct : Nat → ClassId} {b LL : Nat} {xs : Nat → Int32}
set_option maxRecDepth 1000000 in
set_option maxHeartbeats 40000000 in
theorem law_step (C0 : lw_At p s m meth c b LL xs) (hl0 : l.stackTraces = false) (hLL : LL ≤ 4096) (hK : Kx D ct s.heap.size s) (hZ : Zx s.heap.size s) {n k : Nat} (hn : n ≤ 513) (hkn : k ≤ n)
    (K : n ≤ 511 → ∀ (k : Nat) (σ : St) (ad : Nat → Nat → Nat) (L : List (Nat × Nat)) (φ : Nat → Nat → Nat → Bool) (H : Heap) (locs : List Loc) (ls : Array Slot), k ≤ n + 1 → Inv k σ → Hs D ct ad L φ s.heap.size s.heap σ H locs → FullS L φ → (156, 0) ∈ L → lv_has ls 7 (lvL b ad (8 * ((n + 1 : Nat) : Int))) → W p l e room_1 s m #[Value.ref b] below meth c H locs (200 + 25 * (n + 1)) (80000 + 165 * (n + 1)) (lw_Z below #[Value.ref b] s) (F0 m 23 ls []))
    {σ : St} {ad : Nat → Nat → Nat} {L : List (Nat × Nat)} {φ : Nat → Nat → Nat → Bool} {H : Heap} {locs : List Loc} {ls : Array Slot} (hI : Inv k σ) (h : Hs D ct ad L φ s.heap.size s.heap σ H locs) (hF : FullS L φ) (hm : (156, 0) ∈ L) (hl : lv_has ls 7 (lvL b ad (8 * (n : Int)))) : W p l e room_1 s m #[Value.ref b] below meth c H locs (200 + 25 * n) (80000 + 165 * n) (lw_Z below #[Value.ref b] s) (F0 m 23 ls []) := by
  obtain ⟨hx, hb, hr, hml, hown, hts, hX, hbl, hlocks, hgv⟩ := id C0
  have X : Cx p s m meth c #[Value.ref b] cL_law 7 (some .boolean) RL D ct L φ s.heap.size := ⟨hx, hb, hml, hr, hown, hlocks, fun w hw => hts w (List.mem_filter.mp hw).1, hK, hF, Nat.le_refl _⟩
  have S : Sx b LL xs s.heap.size s := ⟨hX, hbl, hbl, hLL⟩
  have hbA : ¬ AA s.heap.size b := fun q => Nat.not_le.mpr hbl q
  obtain ⟨i, ei⟩ : ∃ i : Int, i = 8 * (n : Int) := ⟨_, rfl⟩
  rw [← ei] at hl
  have hl : lv_has ls 7 [(0, .ref b), (1, .ref (ad 11 0)), (2, .ref (ad 12 0)), (3, .ref (ad 156 0)), (4, .int (iv i))] := hl
  refine lv_iload X.1 X.2.1 dL_law_23 (lv_at hl 4 rfl) ?_
  refine lv_aload_n X.1 X.2.1 dL_law_25 rfl (lv_at hl 0 rfl) ?_
  refine va_slen X.1 X.2.1 hX hbl hbA h.2.1 dL_law_26 ?_
  rw [iv_ofn]
  refine j_bipush X dL_law_27 (by decide) ?_
  refine j_isub X dL_law_29 ?_
  refine j_cmp_gt (tgt := 2590) X ⟨by omega, by omega⟩ ⟨by omega, by omega⟩ dL_law_30 (by decide) (fun q => ?_) (fun q => ?_)
  · refine lv_iconst (v := 1) X.1 X.2.1 dL_law_2590 (by decide) ?_
    refine va_forget (fun q hq => h.2.1.2.2 q hq) ?_
    refine W.widen (k := 601024) (n := 7293034) (by omega) (by omega) ?_
    exact lw_ret hx hb hr hlocks dL_law_2591
  have hi : 0 ≤ i ∧ i + 8 ≤ LL := ⟨by omega, by omega⟩
  have hn5 : n ≤ 511 := by omega
  have hk5 : k ≤ 512 := by omega
  have rc : room_1.cells = 601024 := rfl
  have rs : room_1.slots = 7293034 := rfl
  have hr9 : 200 + 25 * n + 25 ≤ room_1.cells ∧ 80000 + 165 * n + 165 ≤ room_1.slots := ⟨by omega, by omega⟩
  have G : ∀ k', k' ≤ n + 1 → Kn p l e s m below meth c b D ct s.heap.size i (200 + 25 * n) (80000 + 165 * n) (lw_Z below #[Value.ref b] s) (Inv k') := by
    intro k' hk' σ ad L φ H locs ls hI h hF hm hl
    have X : Cx p s m meth c #[Value.ref b] cL_law 7 (some .boolean) RL D ct L φ s.heap.size := ⟨hx, hb, hml, hr, hown, hlocks, fun w hw => hts w (List.mem_filter.mp hw).1, hK, hF, Nat.le_refl _⟩
    have hl : lv_has ls 7 [(0, .ref b), (1, .ref (ad 11 0)), (2, .ref (ad 12 0)), (3, .ref (ad 156 0)), (4, .int (iv i))] := hl
    refine j_iinc (kk9 := 4) (lv' := [(4, .int (iv (i + 8))), (0, .ref b), (1, .ref (ad 11 0)), (2, .ref (ad 12 0)), (3, .ref (ad 156 0))]) X dL_law_2584 hl rfl (by decide) rfl (fun ls hl => ?_)
    refine lv_goto (tgt := 23) X.1 X.2.1 dL_law_2587 (by decide) ?_
    have e8 : i + 8 = 8 * ((n + 1 : Nat) : Int) := by omega
    rw [e8] at hl
    refine W.widen (k := 200 + 25 * (n + 1)) (n := 80000 + 165 * (n + 1)) (by omega) (by omega) ?_
    exact K hn5 k' σ ad L φ H locs ls hk' hI h hF hm (lv_sub hl [1, 2, 3, 4, 0] rfl)
  refine lv_aload_n X.1 X.2.1 dL_law_33 rfl (lv_at hl 0 rfl) ?_
  refine lv_iload X.1 X.2.1 dL_law_34 (lv_at hl 4 rfl) ?_
  refine s_ld X S h ⟨by omega, by omega⟩ dL_law_36 ?_
  refine j_bipush X dL_law_37 (by decide) ?_
  refine j_iand X dL_law_39 ?_
  obtain ⟨v, ev⟩ : ∃ v : Int, v = i_iand (sx xs i) 63 := ⟨_, rfl⟩
  have hv : inR v := by rw [ev]; exact inR_of _
  rw [← ev]
  by_cases c0 : v = 0
  · refine j_tin (v := 0) (tgt := 276) X hv c0 dL_law_40 (by decide) (by decide) rfl (by decide) ?_
    exact lc_0 X S hi hr9 h hm hl (op_cell hI (sx_in _ _) (sx_in _ _)) (G (k + 1) (by omega))
  by_cases c1 : v = 1
  · refine j_tin (v := 1) (tgt := 313) X hv c1 dL_law_40 (by decide) (by decide) rfl (by decide) ?_
    exact lc_1 X S hi hr9 h hm hl (op_stand hI (sx_in _ _) (sx_in _ _) (sx_in _ _) (sx_in _ _)) (G (k + 1) (by omega))
  by_cases c2 : v = 2
  · refine j_tin (v := 2) (tgt := 374) X hv c2 dL_law_40 (by decide) (by decide) rfl (by decide) ?_
    exact lc_2 X S hi hr9 h hm hl (op_sort hI (sx_in _ _) (sx_in _ _) (sx_in _ _)) (G (k + 1) (by omega))
  by_cases c3 : v = 3
  · refine j_tin (v := 3) (tgt := 423) X hv c3 dL_law_40 (by decide) (by decide) rfl (by decide) ?_
    exact lc_3 X S hi hr9 h hm hl (op_mill hI (sx_in _ _)) (G (k + 1) (by omega))
  by_cases c4 : v = 4
  · refine j_tin (v := 4) (tgt := 448) X hv c4 dL_law_40 (by decide) (by decide) rfl (by decide) ?_
    exact lc_4 X S hi hr9 h hm hl (op_weather hI (sx_in _ _) (sx_in _ _) (sx_in _ _) (sx_in _ _)) (G (k + 1) (by omega))
  by_cases c5 : v = 5
  · refine j_tin (v := 5) (tgt := 509) X hv c5 dL_law_40 (by decide) (by decide) rfl (by decide) ?_
    exact lc_5 X S hi hr9 h hm hl (op_weatherOf hI (sx_in _ _) (sx_in _ _)) (G (k + 1) (by omega))
  by_cases c6 : v = 6
  · refine j_tin (v := 6) (tgt := 546) X hv c6 dL_law_40 (by decide) (by decide) rfl (by decide) ?_
    exact lc_6 X S hi hr9 h hm hl (op_price hI (sx_in _ _) (sx_in _ _)) (G (k + 1) (by omega))
  by_cases c7 : v = 7
  · refine j_tin (v := 7) (tgt := 583) X hv c7 dL_law_40 (by decide) (by decide) rfl (by decide) ?_
    exact lc_7 X S hi hr9 h hm hl (op_buck hI (sx_in _ _) (sx_in _ _)) (G (k + 1) (by omega))
  by_cases c8 : v = 8
  · refine j_tin (v := 8) (tgt := 620) X hv c8 dL_law_40 (by decide) (by decide) rfl (by decide) ?_
    exact lc_8 X S hi hr9 h hm hl (op_piece hI (sx_in _ _) (sx_in _ _) (sx_in _ _)) (G (k + 1) (by omega))
  by_cases c9 : v = 9
  · refine j_tin (v := 9) (tgt := 669) X hv c9 dL_law_40 (by decide) (by decide) rfl (by decide) ?_
    exact lc_9 X S hi hr9 h hm hl (op_worth hI (sx_in _ _) (sx_in _ _) (sx_in _ _)) (G (k + 1) (by omega))
  by_cases c10 : v = 10
  · refine j_tin (v := 10) (tgt := 718) X hv c10 dL_law_40 (by decide) (by decide) rfl (by decide) ?_
    exact lc_10 X S hi hr9 h hm hl (op_fall hI (sx_in _ _) (sx_in _ _) (sx_in _ _) (sx_in _ _) (sx_in _ _)) (G (k + 1) (by omega))
  by_cases c11 : v = 11
  · refine j_tin (v := 11) (tgt := 791) X hv c11 dL_law_40 (by decide) (by decide) rfl (by decide) ?_
    exact lc_11 X S hi hr9 h hm hl (op_way hI (sx_in _ _) (sx_in _ _) (sx_in _ _)) (G (k + 1) (by omega))
  by_cases c12 : v = 12
  · refine j_tin (v := 12) (tgt := 840) X hv c12 dL_law_40 (by decide) (by decide) rfl (by decide) ?_
    exact lc_12 X S hi hr9 h hm hl (op_iron hI (sx_in _ _) hk5) (G (k + 1) (by omega))
  by_cases c13 : v = 13
  · refine j_tin (v := 13) (tgt := 865) X hv c13 dL_law_40 (by decide) (by decide) rfl (by decide) ?_
    refine lc_13 X S hi hr9 h hm hl ?_ (G (k + 1) (by omega))
    rcases bz_or (sx xs (i + 2)) with e0 | e0
    · rw [e0]
      exact op_lay0 hI (sx_in _ _) hk5
    · rw [e0]
      exact op_lay1 hI (sx_in _ _) hk5
  by_cases c14 : v = 14
  · refine j_tin (v := 14) (tgt := 918) X hv c14 dL_law_40 (by decide) (by decide) rfl (by decide) ?_
    exact lc_14 X S hi hr9 h hm hl (op_dam hI (sx_in _ _)) (G (k + 1) (by omega))
  by_cases c15 : v = 15
  · refine j_tin (v := 15) (tgt := 943) X hv c15 dL_law_40 (by decide) (by decide) rfl (by decide) ?_
    exact lc_15 X S hi hr9 h hm hl (op_carry hI (sx_in _ _)) (G (k + 1) (by omega))
  by_cases c16 : v = 16
  · refine j_tin (v := 16) (tgt := 968) X hv c16 dL_law_40 (by decide) (by decide) rfl (by decide) ?_
    exact lc_16 X S hi hr9 h hm hl (op_day hI) (G (k + 1) (by omega))
  by_cases c17 : v = 17
  · refine j_tin (v := 17) (tgt := 981) X hv c17 dL_law_40 (by decide) (by decide) rfl (by decide) ?_
    exact lc_17 X S hi hr9 h hm hl (op_feed hI (sx_in _ _) (sx_in _ _) (sx_in _ _) (sx_in _ _) (sx_in _ _)) (G (k + 1) (by omega))
  by_cases c18 : v = 18
  · refine j_tin (v := 18) (tgt := 1054) X hv c18 dL_law_40 (by decide) (by decide) rfl (by decide) ?_
    exact lc_18 X S hi hr9 h hm hl (op_end hI (sx_in _ _)) (G (k + 1) (by omega))
  by_cases c19 : v = 19
  · refine j_tin (v := 19) (tgt := 1079) X hv c19 dL_law_40 (by decide) (by decide) rfl (by decide) ?_
    exact lc_19 X S hi hr9 h hm hl (op_law hI (sx_in _ _)) (G (k + 1) (by omega))
  by_cases c20 : v = 20
  · refine j_tin (v := 20) (tgt := 1104) X hv c20 dL_law_40 (by decide) (by decide) rfl (by decide) ?_
    exact lc_20 X S hi hr9 h hm hl (op_place hI) (G (k + 1) (by omega))
  by_cases c21 : v = 21
  · refine j_tin (v := 21) (tgt := 1117) X hv c21 dL_law_40 (by decide) (by decide) rfl (by decide) ?_
    exact lc_21 X S hi hr9 h hm hl (op_why hI (sx_in _ _) (sx_in _ _) (sx_in _ _) (sx_in _ _)) (G (k + 1) (by omega))
  by_cases c22 : v = 22
  · refine j_tin (v := 22) (tgt := 1178) X hv c22 dL_law_40 (by decide) (by decide) rfl (by decide) ?_
    exact lc_22 X S hi hr9 h hm hl (op_whyWay hI (sx_in _ _)) (G (k + 1) (by omega))
  by_cases c23 : v = 23
  · refine j_tin (v := 23) (tgt := 1203) X hv c23 dL_law_40 (by decide) (by decide) rfl (by decide) ?_
    exact lc_23 X S hi hr9 h hm hl (op_due hI (sx_in _ _) (sx_in _ _)) (G (k + 1) (by omega))
  by_cases c24 : v = 24
  · refine j_tin (v := 24) (tgt := 1240) X hv c24 dL_law_40 (by decide) (by decide) rfl (by decide) ?_
    exact lc_24 X S hi hr9 h hm hl (op_crew hI (sx_in _ _)) (G (k + 1) (by omega))
  by_cases c25 : v = 25
  · refine j_tin (v := 25) (tgt := 1265) X hv c25 dL_law_40 (by decide) (by decide) rfl (by decide) ?_
    exact lc_25 X S hi hr9 h hm hl (op_shop hI (sx_in _ _) (sx_in _ _)) (G (k + 1) (by omega))
  by_cases c26 : v = 26
  · refine j_tin (v := 26) (tgt := 1302) X hv c26 dL_law_40 (by decide) (by decide) rfl (by decide) ?_
    exact lc_26 X S hi hr9 h hm hl (op_leave hI (sx_in _ _)) (G (k + 1) (by omega))
  by_cases c27 : v = 27
  · refine j_tin (v := 27) (tgt := 1327) X hv c27 dL_law_40 (by decide) (by decide) rfl (by decide) ?_
    exact lc_27 X S hi hr9 h hm hl (op_lease hI (sx_in _ _)) (G (k + 1) (by omega))
  by_cases c28 : v = 28
  · refine j_tin (v := 28) (tgt := 1352) X hv c28 dL_law_40 (by decide) (by decide) rfl (by decide) ?_
    exact lc_28 X S hi hr9 h hm hl (op_scale hI (sx_in _ _) (sx_in _ _)) (G (k + 1) (by omega))
  by_cases c29 : v = 29
  · refine j_tin (v := 29) (tgt := 1389) X hv c29 dL_law_40 (by decide) (by decide) rfl (by decide) ?_
    exact lc_29 X S hi hr9 h hm hl (op_found hI (sx_in _ _) (sx_in _ _) (sx_in _ _)) (G (k + 1) (by omega))
  by_cases c30 : v = 30
  · refine j_tin (v := 30) (tgt := 1438) X hv c30 dL_law_40 (by decide) (by decide) rfl (by decide) ?_
    exact lc_30 X S hZ hl0 hi hr9 h hm hl (op_hand hI (sx_in _ _) (sx_in _ _)) (G (k + 1) (by omega))
  by_cases c31 : v = 31
  · refine j_tin (v := 31) (tgt := 1506) X hv c31 dL_law_40 (by decide) (by decide) rfl (by decide) ?_
    exact lc_31 X S hi hr9 h hm hl (op_order hI (sx_in _ _) (sx_in _ _) (sx_in _ _) (sx_in _ _) (sx_in _ _)) (G (k + 1) (by omega))
  by_cases c32 : v = 32
  · refine j_tin (v := 32) (tgt := 1579) X hv c32 dL_law_40 (by decide) (by decide) rfl (by decide) ?_
    exact lc_32 X S hi hr9 h hm hl (op_best hI (sx_in _ _)) (G (k + 1) (by omega))
  by_cases c33 : v = 33
  · refine j_tin (v := 33) (tgt := 1604) X hv c33 dL_law_40 (by decide) (by decide) rfl (by decide) ?_
    exact lc_33 X S hi hr9 h hm hl (op_board hI (sx_in _ _) (sx_in _ _)) (G (k + 1) (by omega))
  by_cases c34 : v = 34
  · refine j_tin (v := 34) (tgt := 1641) X hv c34 dL_law_40 (by decide) (by decide) rfl (by decide) ?_
    exact lc_34 X S hi hr9 h hm hl (op_saw hI (sx_in _ _)) (G (k + 1) (by omega))
  by_cases c35 : v = 35
  · refine j_tin (v := 35) (tgt := 1666) X hv c35 dL_law_40 (by decide) (by decide) rfl (by decide) ?_
    exact lc_35 X S hi hr9 h hm hl (op_fire hI (sx_in _ _) (sx_in _ _) (sx_in _ _)) (G (k + 1) (by omega))
  by_cases c36 : v = 36
  · refine j_tin (v := 36) (tgt := 1715) X hv c36 dL_law_40 (by decide) (by decide) rfl (by decide) ?_
    exact lc_36 X S hi hr9 h hm hl (op_burn hI (sx_in _ _)) (G (k + 1) (by omega))
  by_cases c37 : v = 37
  · refine j_tin (v := 37) (tgt := 1740) X hv c37 dL_law_40 (by decide) (by decide) rfl (by decide) ?_
    exact lc_37 X S hi hr9 h hm hl (op_spur hI (sx_in _ _) (sx_in _ _) (sx_in _ _)) (G (k + 1) (by omega))
  by_cases c38 : v = 38
  · refine j_tin (v := 38) (tgt := 1789) X hv c38 dL_law_40 (by decide) (by decide) rfl (by decide) ?_
    exact lc_38 X S hi hr9 h hm hl (op_asked hI (sx_in _ _) (sx_in _ _)) (G (k + 1) (by omega))
  by_cases c39 : v = 39
  · refine j_tin (v := 39) (tgt := 1826) X hv c39 dL_law_40 (by decide) (by decide) rfl (by decide) ?_
    exact lc_39 X S hi hr9 h hm hl (op_rails hI hk5 (sx_in _ _)) (G (k + 1) (by omega))
  by_cases c40 : v = 40
  · refine j_tin (v := 40) (tgt := 1851) X hv c40 dL_law_40 (by decide) (by decide) rfl (by decide) ?_
    exact lc_40 X S hi hr9 h hm hl (op_railsOf hI hk5 (sx_in _ _) (sx_in _ _)) (G (k + 1) (by omega))
  by_cases c41 : v = 41
  · refine j_tin (v := 41) (tgt := 1888) X hv c41 dL_law_40 (by decide) (by decide) rfl (by decide) ?_
    exact lc_41 X S hi hr9 h hm hl (op_forty hI (sx_in _ _) (sx_in _ _) (sx_in _ _) (sx_in _ _) (sx_in _ _) (sx_in _ _) (sx_in _ _)) (G (k + 1) (by omega))
  by_cases c42 : v = 42
  · refine j_tin (v := 42) (tgt := 1989) X hv c42 dL_law_40 (by decide) (by decide) rfl (by decide) ?_
    exact lc_42 X S hi hr9 h hm hl (op_cutIn hI (sx_in _ _) (sx_in _ _)) (G (k + 1) (by omega))
  by_cases c43 : v = 43
  · refine j_tin (v := 43) (tgt := 2026) X hv c43 dL_law_40 (by decide) (by decide) rfl (by decide) ?_
    exact lc_43 X S hi hr9 h hm hl (op_row hI (sx_in _ _) (bz_or _) (sx_in _ _)) (G (k + 1) (by omega))
  by_cases c44 : v = 44
  · refine j_tin (v := 44) (tgt := 2091) X hv c44 dL_law_40 (by decide) (by decide) rfl (by decide) ?_
    exact lc_44 X S hi hr9 h hm hl (op_write hI (sx_in _ _) (sx_in _ _) (sx_in _ _)) (G (k + 1) (by omega))
  by_cases c45 : v = 45
  · refine j_tin (v := 45) (tgt := 2140) X hv c45 dL_law_40 (by decide) (by decide) rfl (by decide) ?_
    exact lc_45 X S hZ hl0 hi hr9 h hm hl (op_each hI (sx_in _ _) (sx_in _ _)) (G (k + 1) (by omega))
  by_cases c46 : v = 46
  · refine j_tin (v := 46) (tgt := 2208) X hv c46 dL_law_40 (by decide) (by decide) rfl (by decide) ?_
    exact lc_46 X S hi hr9 h hm hl (op_cruise hI (sx_in _ _) (sx_in _ _)) (G (k + 1) (by omega))
  by_cases c47 : v = 47
  · refine j_tin (v := 47) (tgt := 2245) X hv c47 dL_law_40 (by decide) (by decide) rfl (by decide) ?_
    exact lc_47 X S hi hr9 h hm hl (op_knew hI (sx_in _ _) (sx_in _ _) (sx_in _ _)) (G (k + 1) (by omega))
  by_cases c48 : v = 48
  · refine j_tin (v := 48) (tgt := 2294) X hv c48 dL_law_40 (by decide) (by decide) rfl (by decide) ?_
    exact lc_48 X S hi hr9 h hm hl (op_alter hI (sx_in _ _) (sx_in _ _) (sx_in _ _)) (G (k + 1) (by omega))
  by_cases c49 : v = 49
  · refine j_tin (v := 49) (tgt := 2343) X hv c49 dL_law_40 (by decide) (by decide) rfl (by decide) ?_
    exact lc_49 X S hi hr9 h hm hl (op_checked hI (sx_in _ _) (sx_in _ _)) (G (k + 1) (by omega))
  by_cases c50 : v = 50
  · refine j_tin (v := 50) (tgt := 2380) X hv c50 dL_law_40 (by decide) (by decide) rfl (by decide) ?_
    exact lc_50 X S hi hr9 h hm hl (op_of hI (sx_in _ _) (sx_in _ _)) (G (k + 1) (by omega))
  by_cases c51 : v = 51
  · refine j_tin (v := 51) (tgt := 2417) X hv c51 dL_law_40 (by decide) (by decide) rfl (by decide) ?_
    exact lc_51 X S hi hr9 h hm hl (op_log hI (sx_in _ _) (sx_in _ _)) (G (k + 1) (by omega))
  by_cases c52 : v = 52
  · refine j_tin (v := 52) (tgt := 2454) X hv c52 dL_law_40 (by decide) (by decide) rfl (by decide) ?_
    exact lc_52 X S hi hr9 h hm hl (op_crewOf hI (sx_in _ _) (sx_in _ _)) (G (k + 1) (by omega))
  by_cases c53 : v = 53
  · refine j_tin (v := 53) (tgt := 2491) X hv c53 dL_law_40 (by decide) (by decide) rfl (by decide) ?_
    exact lc_53 X S hZ hl0 hi hr9 h hm hl (op_orderOf hI (sx_in _ _) (sx_in _ _)) (G (k + 1) (by omega))
  by_cases c54 : v = 54
  · refine j_tin (v := 54) (tgt := 2559) X hv c54 dL_law_40 (by decide) (by decide) rfl (by decide) ?_
    exact lc_54 X S hi hr9 h hm hl (op_count hI (sx_in _ _)) (G (k + 1) (by omega))
  refine j_tout (tgt := 2584) X hv (by omega) dL_law_40 (by decide) ?_
  refine W.widen (k := 200 + 25 * n + 25) (n := 80000 + 165 * n + 165) (by omega) (by omega) ?_
  exact G k (by omega) σ ad L φ H locs ls hI h hF hm hl
theorem law_loop (C0 : lw_At p s m meth c b LL xs) (hl0 : l.stackTraces = false) (hLL : LL ≤ 4096) (hK : Kx D ct s.heap.size s) (hZ : Zx s.heap.size s) : ∀ (r n k : Nat) (σ : St) (ad : Nat → Nat → Nat) (L : List (Nat × Nat)) (φ : Nat → Nat → Nat → Bool) (H : Heap) (locs : List Loc) (ls : Array Slot), n + r = 513 → k ≤ n → Inv k σ → Hs D ct ad L φ s.heap.size s.heap σ H locs → FullS L φ → (156, 0) ∈ L → lv_has ls 7 (lvL b ad (8 * (n : Int))) → W p l e room_1 s m #[Value.ref b] below meth c H locs (200 + 25 * n) (80000 + 165 * n) (lw_Z below #[Value.ref b] s) (F0 m 23 ls []) := by
  intro r
  induction r with
  | zero =>
    intro n k σ ad L φ H locs ls hn hk hI h hF hm hl
    exact law_step C0 hl0 hLL hK hZ (by omega) hk (fun q => absurd q (by omega)) hI h hF hm hl
  | succ r ih =>
    intro n k σ ad L φ H locs ls hn hk hI h hF hm hl
    exact law_step C0 hl0 hLL hK hZ (by omega) hk (fun q k σ ad L φ H locs ls hk hI h hF hm hl => ih (n + 1) k σ ad L φ H locs ls (by omega) hk hI h hF hm hl) hI h hF hm hl
end LL
