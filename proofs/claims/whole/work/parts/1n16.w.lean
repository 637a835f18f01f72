/-! walked by program: 16.w -/
section
variable {p : Program} {l : Launch} {e : Env} {s : State} {m : MethodId} {args : Array Value} {below : List Frame} {meth : Method} {c : Code} {D : va_G} {ct : Nat → ClassId} {ad : Nat → Nat → Nat} {L : List (Nat × Nat)} {φ : Nat → Nat → Nat → Bool} {N0 : Nat}
variable {Q : Int → St → Prop}
theorem pd_X12_checked : yX12_checked.cls ≠ "java/lang/invoke/MethodHandle" ∧ yX12_checked.cls ≠ "java/lang/invoke/VarHandle" ∧ (parseMethodDescriptor yX12_checked.desc).map (fun d => d.parameters.length) = some 2 := by decide +kernel
set_option maxRecDepth 100000 in
set_option maxHeartbeats 4000000 in
theorem c_X12_checked (l : Launch) (D : va_G) (ct : Nat → ClassId) (ad : Nat → Nat → Nat) (L : List (Nat × Nat)) (φ : Nat → Nat → Nat → Bool) (N0 : Nat) (σ : St) (x1 : Int) (x2 : Int) (Q : Int → St → Prop) (hw : wp_X12_checked σ x1 x2 Q) : Met l yX12_checked (.code yX12_checked cX12_checked 4 (some .int) :: gw) ({ frames := 2, cells := 0, slots := 0, locals := 49 } : Room) (Pm D ct ad L φ N0 σ [.ref (ad 12 0), .int (iv x1), .int (iv x2)]) (Qi D ct ad L φ N0 Q) 0 0 (AA N0) := by
  refine m_of (by decide) (fun p e s m below meth c X hnm h => ?_)
  have hF := X.2.2.2.2.2.2.2.2.1
  have hl := lv_entry ([.ref (ad 12 0), .int (iv x1), .int (iv x2)]) (n := 4) (Nat.le_of_ble_eq_true rfl)
  rw [lg_entry_eq]
  generalize (lg_sl ([.ref (ad 12 0), .int (iv x1), .int (iv x2)]) ++ List.replicate (4 - (lg_sl ([.ref (ad 12 0), .int (iv x1), .int (iv x2)])).length) Slot.unset).toArray = ls at hl ⊢
  have hl : lv_has ls 4 [(0, .ref (ad 12 0)), (1, .int (iv x1)), (2, .int (iv x2))] := hl
  have h : Hs D ct ad L φ N0 s.heap σ s.heap [] := h
  unfold wp_X12_checked at hw
  refine lv_aload_n X.1 X.2.1 dX12_checked_0 rfl (lv_at hl 0 rfl) ?_
  refine j_iconst X dX12_checked_1 ?_
  refine r_put (ci := 12) X inw_12 tyX12 tyX12_ok nmX12 h (hF.1 12 rfl).1 rfl rfl 0 (by decide) kw_1638 rfl rfl rfl (Nat.le_of_ble_eq_true rfl) rfl rfl dX12_checked_2 (fun H locs h => ?_)
  obtain ⟨σ_1, eσ_1⟩ : ∃ z : St, z = st σ 12 0 0 0 := ⟨_, rfl⟩
  rw [← eσ_1] at h
  have hw := hw σ_1 eσ_1
  refine lv_aload_n X.1 X.2.1 dX12_checked_5 rfl (lv_at hl 0 rfl) ?_
  refine lv_iload_n X.1 X.2.1 dX12_checked_6 rfl (lv_at hl 1 rfl) ?_
  refine k_i h (r_V (C := RX12) (ci := 12) (As := [.int (iv x1)]) (rest := []) X h (c_X12_isLog l D ct ad L φ N0 σ_1 x1 _ hw) rfl rfl ⟨Nat.le_of_ble_eq_true rfl, Nat.le_of_ble_eq_true rfl⟩ kw_2027 kw_2029 kw_69 kw_129 kw_2030 ⟨rfl, pd_X12_isLog⟩ (hF.1 12 rfl).1 rfl rfl rfl hl.1 rfl (Nat.le_of_ble_eq_true rfl) ⟨Nat.le_of_ble_eq_true rfl, Nat.le_of_ble_eq_true rfl⟩ dX12_checked_7) (fun r_3 σ_2 H locs hw h => ?_)
  obtain ⟨g_4, hwt, hwf⟩ := hw
  refine j_if_eq (tgt := 22) X g_4 dX12_checked_10 (by decide) (fun c_15 => ?_) (fun c_15 => ?_)
  · have hw := hwt c_15
    refine j_bipush X dX12_checked_22 (by decide) ?_
    exact k_ir X rfl h hw dX12_checked_24
  · have hw := hwf c_15
    refine lv_iload_n X.1 X.2.1 dX12_checked_13 rfl (lv_at hl 2 rfl) ?_
    refine j_iconst X dX12_checked_14 ?_
    refine j_iconst X dX12_checked_15 ?_
    refine k_i h (r_S (As := [.int (iv x2), .int (iv 0), .int (iv 1)]) (rest := []) X h (c_X12_within l D ct ad L φ N0 σ_2 x2 0 1 _ hw) rfl rfl ⟨Nat.le_of_ble_eq_true rfl, Nat.le_of_ble_eq_true rfl⟩ kw_1959 kw_1960 kw_129 kw_1961 pd_X12_within rfl hl.1 rfl (Nat.le_of_ble_eq_true rfl) ⟨Nat.le_of_ble_eq_true rfl, Nat.le_of_ble_eq_true rfl⟩ dX12_checked_16) (fun r_6 σ_5 H locs hw h => ?_)
    obtain ⟨g_7, hwt, hwf⟩ := hw
    refine j_if_ne (tgt := 25) X g_7 dX12_checked_19 (by decide) (fun c_14 => ?_) (fun c_14 => ?_)
    · have hw := hwt c_14
      refine lv_aload_n X.1 X.2.1 dX12_checked_25 rfl (lv_at hl 0 rfl) ?_
      refine lv_iload_n X.1 X.2.1 dX12_checked_26 rfl (lv_at hl 1 rfl) ?_
      refine k_i h (r_V (C := RX12) (ci := 12) (As := [.int (iv x1)]) (rest := []) X h (c_X12_checks l D ct ad L φ N0 σ_5 x1 _ hw) rfl rfl ⟨Nat.le_of_ble_eq_true rfl, Nat.le_of_ble_eq_true rfl⟩ kw_2040 kw_2042 kw_70 kw_129 kw_2043 ⟨rfl, pd_X12_checks⟩ (hF.1 12 rfl).1 rfl rfl rfl hl.1 rfl (Nat.le_of_ble_eq_true rfl) ⟨Nat.le_of_ble_eq_true rfl, Nat.le_of_ble_eq_true rfl⟩ dX12_checked_27) (fun r_9 σ_8 H locs hw h => ?_)
      refine lv_istore_n (lv' := [(3, .int (iv r_9)), (0, .ref (ad 12 0)), (1, .int (iv x1)), (2, .int (iv x2))]) X.1 X.2.1 dX12_checked_30 rfl hl (by decide) rfl (fun ls hl => ?_)
      refine lv_iload_n X.1 X.2.1 dX12_checked_31 rfl (lv_at hl 3 rfl) ?_
      obtain ⟨g_10, hwt, hwf⟩ := hw
      refine j_if_ne (tgt := 39) X g_10 dX12_checked_32 (by decide) (fun c_13 => ?_) (fun c_13 => ?_)
      · have hw := hwt c_13
        refine lv_iload_n X.1 X.2.1 dX12_checked_39 rfl (lv_at hl 0 rfl) ?_
        obtain ⟨g_11, hwt, hwf⟩ := hw
        refine j_if_ge (tgt := 48) X g_11 dX12_checked_40 (by decide) (fun c_12 => ?_) (fun c_12 => ?_)
        · have hw := hwt c_12
          refine lv_aload_n X.1 X.2.1 dX12_checked_48 rfl (lv_at hl 1 rfl) ?_
          refine r_get (ci := 12) X inw_12 h (hF.1 12 rfl).1 rfl rfl 32 (by decide) kw_1670 rfl dX12_checked_49 ?_
          exact k_ir X rfl h hw dX12_checked_52
        · have hw := hwf c_12
          refine j_bipush X dX12_checked_43 (by decide) ?_
          refine lv_goto (tgt := 52) X.1 X.2.1 dX12_checked_45 (by decide) ?_
          exact k_ir X rfl h hw dX12_checked_52
      · have hw := hwf c_13
        refine lv_iload_n X.1 X.2.1 dX12_checked_35 rfl (lv_at hl 0 rfl) ?_
        refine lv_goto (tgt := 52) X.1 X.2.1 dX12_checked_36 (by decide) ?_
        exact k_ir X rfl h hw dX12_checked_52
    · have hw := hwf c_14
      refine j_bipush X dX12_checked_22 (by decide) ?_
      exact k_ir X rfl h hw dX12_checked_24
end
section
variable {p : Program} {l : Launch} {e : Env} {s : State} {m : MethodId} {args : Array Value} {below : List Frame} {meth : Method} {c : Code} {D : va_G} {ct : Nat → ClassId} {ad : Nat → Nat → Nat} {L : List (Nat × Nat)} {φ : Nat → Nat → Nat → Bool} {N0 : Nat}
variable {Q : Int → St → Prop}
theorem pd_X12_log : yX12_log.cls ≠ "java/lang/invoke/MethodHandle" ∧ yX12_log.cls ≠ "java/lang/invoke/VarHandle" ∧ (parseMethodDescriptor yX12_log.desc).map (fun d => d.parameters.length) = some 2 := by decide +kernel
set_option maxRecDepth 100000 in
set_option maxHeartbeats 4000000 in
theorem c_X12_log (l : Launch) (D : va_G) (ct : Nat → ClassId) (ad : Nat → Nat → Nat) (L : List (Nat × Nat)) (φ : Nat → Nat → Nat → Bool) (N0 : Nat) (σ : St) (x1 : Int) (x2 : Int) (Q : Int → St → Prop) (hw : wp_X12_log σ x1 x2 Q) : Met l yX12_log (.code yX12_log cX12_log 3 (some .int) :: gw) ({ frames := 2, cells := 0, slots := 0, locals := 43 } : Room) (Pm D ct ad L φ N0 σ [.ref (ad 12 0), .int (iv x1), .int (iv x2)]) (Qi D ct ad L φ N0 Q) 0 0 (AA N0) := by
  refine m_of (by decide) (fun p e s m below meth c X hnm h => ?_)
  have hF := X.2.2.2.2.2.2.2.2.1
  have hl := lv_entry ([.ref (ad 12 0), .int (iv x1), .int (iv x2)]) (n := 3) (Nat.le_of_ble_eq_true rfl)
  rw [lg_entry_eq]
  generalize (lg_sl ([.ref (ad 12 0), .int (iv x1), .int (iv x2)]) ++ List.replicate (3 - (lg_sl ([.ref (ad 12 0), .int (iv x1), .int (iv x2)])).length) Slot.unset).toArray = ls at hl ⊢
  have hl : lv_has ls 3 [(0, .ref (ad 12 0)), (1, .int (iv x1)), (2, .int (iv x2))] := hl
  have h : Hs D ct ad L φ N0 s.heap σ s.heap [] := h
  unfold wp_X12_log at hw
  refine lv_aload_n X.1 X.2.1 dX12_log_0 rfl (lv_at hl 0 rfl) ?_
  refine j_iconst X dX12_log_1 ?_
  refine r_put (ci := 12) X inw_12 tyX12 tyX12_ok nmX12 h (hF.1 12 rfl).1 rfl rfl 0 (by decide) kw_1638 rfl rfl rfl (Nat.le_of_ble_eq_true rfl) rfl rfl dX12_log_2 (fun H locs h => ?_)
  obtain ⟨σ_1, eσ_1⟩ : ∃ z : St, z = st σ 12 0 0 0 := ⟨_, rfl⟩
  rw [← eσ_1] at h
  have hw := hw σ_1 eσ_1
  refine lv_aload_n X.1 X.2.1 dX12_log_5 rfl (lv_at hl 0 rfl) ?_
  refine lv_iload_n X.1 X.2.1 dX12_log_6 rfl (lv_at hl 1 rfl) ?_
  refine k_i h (r_V (C := RX12) (ci := 12) (As := [.int (iv x1)]) (rest := []) X h (c_X12_isLog l D ct ad L φ N0 σ_1 x1 _ hw) rfl rfl ⟨Nat.le_of_ble_eq_true rfl, Nat.le_of_ble_eq_true rfl⟩ kw_2027 kw_2029 kw_69 kw_129 kw_2030 ⟨rfl, pd_X12_isLog⟩ (hF.1 12 rfl).1 rfl rfl rfl hl.1 rfl (Nat.le_of_ble_eq_true rfl) ⟨Nat.le_of_ble_eq_true rfl, Nat.le_of_ble_eq_true rfl⟩ dX12_log_7) (fun r_3 σ_2 H locs hw h => ?_)
  obtain ⟨g_4, hwt, hwf⟩ := hw
  refine j_if_ne (tgt := 15) X g_4 dX12_log_10 (by decide) (fun c_34 => ?_) (fun c_34 => ?_)
  · have hw := hwt c_34
    refine lv_iload_n X.1 X.2.1 dX12_log_15 rfl (lv_at hl 2 rfl) ?_
    obtain ⟨g_5, hw0, hw1, hw2, hw3, hw4, hw5, hw6, hw7, hw8, hw9⟩ := hw
    by_cases c_24 : x2 = 0
    · have hw := hw0 c_24
      refine j_tin (v := 0) (tgt := 68) X g_5 c_24 dX12_log_16 (by decide) (by decide) rfl (by decide) ?_
      refine lv_aload_n X.1 X.2.1 dX12_log_68 rfl (lv_at hl 0 rfl) ?_
      refine r_getR (ci := 12) X inw_12 h (hF.1 12 rfl).1 rfl rfl 18 (by decide) kw_1656 rfl ((hF.1 12 rfl).2 18) dX12_log_69 ?_
      refine lv_iload_n X.1 X.2.1 dX12_log_72 rfl (lv_at hl 1 rfl) ?_
      obtain ⟨g_6, g_7, hw⟩ := hw
      refine r_iald (n := 300) X h (hF.1 95 rfl).1 rfl (by decide) g_6 g_7 dX12_log_73 ?_
      exact k_ir X rfl h hw dX12_log_74
    by_cases c_25 : x2 = 1
    · have hw := hw1 c_25
      refine j_tin (v := 1) (tgt := 75) X g_5 c_25 dX12_log_16 (by decide) (by decide) rfl (by decide) ?_
      refine lv_aload_n X.1 X.2.1 dX12_log_75 rfl (lv_at hl 0 rfl) ?_
      refine r_getR (ci := 12) X inw_12 h (hF.1 12 rfl).1 rfl rfl 19 (by decide) kw_1657 rfl ((hF.1 12 rfl).2 19) dX12_log_76 ?_
      refine lv_iload_n X.1 X.2.1 dX12_log_79 rfl (lv_at hl 1 rfl) ?_
      obtain ⟨g_8, g_9, hw⟩ := hw
      refine r_iald (n := 300) X h (hF.1 96 rfl).1 rfl (by decide) g_8 g_9 dX12_log_80 ?_
      exact k_ir X rfl h hw dX12_log_81
    by_cases c_26 : x2 = 2
    · have hw := hw2 c_26
      refine j_tin (v := 2) (tgt := 82) X g_5 c_26 dX12_log_16 (by decide) (by decide) rfl (by decide) ?_
      refine lv_aload_n X.1 X.2.1 dX12_log_82 rfl (lv_at hl 0 rfl) ?_
      refine r_getR (ci := 12) X inw_12 h (hF.1 12 rfl).1 rfl rfl 20 (by decide) kw_1658 rfl ((hF.1 12 rfl).2 20) dX12_log_83 ?_
      refine lv_iload_n X.1 X.2.1 dX12_log_86 rfl (lv_at hl 1 rfl) ?_
      obtain ⟨g_10, g_11, hw⟩ := hw
      refine r_iald (n := 300) X h (hF.1 97 rfl).1 rfl (by decide) g_10 g_11 dX12_log_87 ?_
      exact k_ir X rfl h hw dX12_log_88
    by_cases c_27 : x2 = 3
    · have hw := hw3 c_27
      refine j_tin (v := 3) (tgt := 89) X g_5 c_27 dX12_log_16 (by decide) (by decide) rfl (by decide) ?_
      refine lv_aload_n X.1 X.2.1 dX12_log_89 rfl (lv_at hl 0 rfl) ?_
      refine r_getR (ci := 12) X inw_12 h (hF.1 12 rfl).1 rfl rfl 21 (by decide) kw_1659 rfl ((hF.1 12 rfl).2 21) dX12_log_90 ?_
      refine lv_iload_n X.1 X.2.1 dX12_log_93 rfl (lv_at hl 1 rfl) ?_
      obtain ⟨g_12, g_13, hw⟩ := hw
      refine r_iald (n := 300) X h (hF.1 98 rfl).1 rfl (by decide) g_12 g_13 dX12_log_94 ?_
      exact k_ir X rfl h hw dX12_log_95
    by_cases c_28 : x2 = 4
    · have hw := hw4 c_28
      refine j_tin (v := 4) (tgt := 96) X g_5 c_28 dX12_log_16 (by decide) (by decide) rfl (by decide) ?_
      refine lv_aload_n X.1 X.2.1 dX12_log_96 rfl (lv_at hl 0 rfl) ?_
      refine r_getR (ci := 12) X inw_12 h (hF.1 12 rfl).1 rfl rfl 22 (by decide) kw_1660 rfl ((hF.1 12 rfl).2 22) dX12_log_97 ?_
      refine lv_iload_n X.1 X.2.1 dX12_log_100 rfl (lv_at hl 1 rfl) ?_
      obtain ⟨g_14, g_15, hw⟩ := hw
      refine r_iald (n := 300) X h (hF.1 99 rfl).1 rfl (by decide) g_14 g_15 dX12_log_101 ?_
      exact k_ir X rfl h hw dX12_log_102
    by_cases c_29 : x2 = 5
    · have hw := hw5 c_29
      refine j_tin (v := 5) (tgt := 103) X g_5 c_29 dX12_log_16 (by decide) (by decide) rfl (by decide) ?_
      refine lv_aload_n X.1 X.2.1 dX12_log_103 rfl (lv_at hl 0 rfl) ?_
      refine r_getR (ci := 12) X inw_12 h (hF.1 12 rfl).1 rfl rfl 23 (by decide) kw_1661 rfl ((hF.1 12 rfl).2 23) dX12_log_104 ?_
      refine lv_iload_n X.1 X.2.1 dX12_log_107 rfl (lv_at hl 1 rfl) ?_
      obtain ⟨g_16, g_17, hw⟩ := hw
      refine r_iald (n := 300) X h (hF.1 100 rfl).1 rfl (by decide) g_16 g_17 dX12_log_108 ?_
      exact k_ir X rfl h hw dX12_log_109
    by_cases c_30 : x2 = 6
    · have hw := hw6 c_30
      refine j_tin (v := 6) (tgt := 110) X g_5 c_30 dX12_log_16 (by decide) (by decide) rfl (by decide) ?_
      refine lv_aload_n X.1 X.2.1 dX12_log_110 rfl (lv_at hl 0 rfl) ?_
      refine r_getR (ci := 12) X inw_12 h (hF.1 12 rfl).1 rfl rfl 25 (by decide) kw_1663 rfl ((hF.1 12 rfl).2 25) dX12_log_111 ?_
      refine lv_iload_n X.1 X.2.1 dX12_log_114 rfl (lv_at hl 1 rfl) ?_
      obtain ⟨g_18, g_19, hw⟩ := hw
      refine r_iald (n := 300) X h (hF.1 102 rfl).1 rfl (by decide) g_18 g_19 dX12_log_115 ?_
      exact k_ir X rfl h hw dX12_log_116
    by_cases c_31 : x2 = 7
    · have hw := hw7 c_31
      refine j_tin (v := 7) (tgt := 117) X g_5 c_31 dX12_log_16 (by decide) (by decide) rfl (by decide) ?_
      refine lv_aload_n X.1 X.2.1 dX12_log_117 rfl (lv_at hl 0 rfl) ?_
      refine lv_iload_n X.1 X.2.1 dX12_log_118 rfl (lv_at hl 1 rfl) ?_
      refine k_i h (r_V (C := RX12) (ci := 12) (As := [.int (iv x1)]) (rest := []) X h (c_X12_volume l D ct ad L φ N0 σ_2 x1 _ hw) rfl rfl ⟨Nat.le_of_ble_eq_true rfl, Nat.le_of_ble_eq_true rfl⟩ kw_2054 kw_2056 kw_72 kw_129 kw_2057 ⟨rfl, pd_X12_volume⟩ (hF.1 12 rfl).1 rfl rfl rfl hl.1 rfl (Nat.le_of_ble_eq_true rfl) ⟨Nat.le_of_ble_eq_true rfl, Nat.le_of_ble_eq_true rfl⟩ dX12_log_119) (fun r_21 σ_20 H locs hw h => ?_)
      exact k_ir X rfl h hw dX12_log_122
    by_cases c_32 : x2 = 8
    · have hw := hw8 c_32
      refine j_tin (v := 8) (tgt := 123) X g_5 c_32 dX12_log_16 (by decide) (by decide) rfl (by decide) ?_
      refine lv_aload_n X.1 X.2.1 dX12_log_123 rfl (lv_at hl 0 rfl) ?_
      refine r_getR (ci := 12) X inw_12 h (hF.1 12 rfl).1 rfl rfl 24 (by decide) kw_1662 rfl ((hF.1 12 rfl).2 24) dX12_log_124 ?_
      refine lv_iload_n X.1 X.2.1 dX12_log_127 rfl (lv_at hl 1 rfl) ?_
      obtain ⟨g_22, g_23, hw⟩ := hw
      refine r_iald (n := 300) X h (hF.1 101 rfl).1 rfl (by decide) g_22 g_23 dX12_log_128 ?_
      exact k_ir X rfl h hw dX12_log_129
    have c_33 : x2 < 0 ∨ 8 < x2 := by omega
    have hw := hw9 c_33
    refine j_tout (tgt := 130) X g_5 c_33 dX12_log_16 (by decide) ?_
    refine j_iconst X dX12_log_130 ?_
    exact k_ir X rfl h hw dX12_log_131
  · have hw := hwf c_34
    refine j_iconst X dX12_log_13 ?_
    exact k_ir X rfl h hw dX12_log_14
end
section
variable {p : Program} {l : Launch} {e : Env} {s : State} {m : MethodId} {args : Array Value} {below : List Frame} {meth : Method} {c : Code} {D : va_G} {ct : Nat → ClassId} {ad : Nat → Nat → Nat} {L : List (Nat × Nat)} {φ : Nat → Nat → Nat → Bool} {N0 : Nat}
variable {Q : Int → St → Prop}
set_option maxRecDepth 100000 in
set_option maxHeartbeats 4000000 in
theorem lb_X12_feed_114 (X : Cx p s m meth c args cX12_feed 8 (some .int) RX12 D ct L φ N0) (σ : St) (H : Heap) (locs : List Loc) (ls : Array Slot) (hw : wp_X12_feed_114 Q σ) (h : Hs D ct ad L φ N0 s.heap σ H locs) (hl : lv_has ls 8 [(0, .ref (ad 12 0))]) : W p l e ({ frames := 0, cells := 0, slots := 0, locals := 0 } : Room) s m args below meth c H locs 0 0 (MQ below (Qi D ct ad L φ N0 Q) args s 0 0 (AA N0)) (F0 m 114 ls []) := by
  have hF := X.2.2.2.2.2.2.2.2.1
  unfold wp_X12_feed_114 at hw
  refine lv_aload_n X.1 X.2.1 dX12_feed_114 rfl (lv_at hl 0 rfl) ?_
  refine r_get (ci := 12) X inw_12 h (hF.1 12 rfl).1 rfl rfl 44 (by decide) kw_1682 rfl dX12_feed_115 ?_
  exact k_ir X rfl h hw dX12_feed_118
set_option maxRecDepth 100000 in
set_option maxHeartbeats 4000000 in
theorem lb_X12_feed_73 (X : Cx p s m meth c args cX12_feed 8 (some .int) RX12 D ct L φ N0) {K20 : St → Int → Int → Int → Int → Int → Int → Prop} {K114 : St → Prop} (hK20 : ∀ (σ : St) (x1 : Int) (x2 : Int) (x3 : Int) (x4 : Int) (x5 : Int) (x6 : Int) (H : Heap) (locs : List Loc) (ls : Array Slot), K20 σ x1 x2 x3 x4 x5 x6 → Hs D ct ad L φ N0 s.heap σ H locs → lv_has ls 8 [(0, .ref (ad 12 0)), (1, .int (iv x1)), (2, .int (iv x2)), (3, .int (iv x3)), (4, .int (iv x4)), (5, .int (iv x5)), (6, .int (iv x6))] → W p l e ({ frames := 0, cells := 0, slots := 0, locals := 0 } : Room) s m args below meth c H locs 0 0 (MQ below (Qi D ct ad L φ N0 Q) args s 0 0 (AA N0)) (F0 m 20 ls [])) (hK114 : ∀ (σ : St) (H : Heap) (locs : List Loc) (ls : Array Slot), K114 σ → Hs D ct ad L φ N0 s.heap σ H locs → lv_has ls 8 [(0, .ref (ad 12 0))] → W p l e ({ frames := 0, cells := 0, slots := 0, locals := 0 } : Room) s m args below meth c H locs 0 0 (MQ below (Qi D ct ad L φ N0 Q) args s 0 0 (AA N0)) (F0 m 114 ls [])) (σ : St) (x1 : Int) (x2 : Int) (x3 : Int) (x4 : Int) (x5 : Int) (x6 : Int) (y0 : Int) (H : Heap) (locs : List Loc) (ls : Array Slot) (hw : wp_X12_feed_73 K20 K114 Q σ x1 x2 x3 x4 x5 x6 y0) (h : Hs D ct ad L φ N0 s.heap σ H locs) (hl : lv_has ls 8 [(0, .ref (ad 12 0)), (1, .int (iv x1)), (2, .int (iv x2)), (3, .int (iv x3)), (4, .int (iv x4)), (5, .int (iv x5)), (6, .int (iv x6))]) : W p l e ({ frames := 0, cells := 0, slots := 0, locals := 0 } : Room) s m args below meth c H locs 0 0 (MQ below (Qi D ct ad L φ N0 Q) args s 0 0 (AA N0)) (F0 m 73 ls [.int (iv y0)]) := by
  have hF := X.2.2.2.2.2.2.2.2.1
  unfold wp_X12_feed_73 at hw
  refine lv_istore (lv' := [(7, .int (iv y0)), (0, .ref (ad 12 0)), (1, .int (iv x1)), (2, .int (iv x2)), (3, .int (iv x3)), (4, .int (iv x4)), (5, .int (iv x5)), (6, .int (iv x6))]) X.1 X.2.1 dX12_feed_73 hl (by decide) rfl (fun ls hl => ?_)
  refine lv_aload_n X.1 X.2.1 dX12_feed_75 rfl (lv_at hl 1 rfl) ?_
  refine r_getR (ci := 12) X inw_12 h (hF.1 12 rfl).1 rfl rfl 43 (by decide) kw_1681 rfl ((hF.1 12 rfl).2 43) dX12_feed_76 ?_
  refine lv_aload_n X.1 X.2.1 dX12_feed_79 rfl (lv_at hl 1 rfl) ?_
  refine r_get (ci := 12) X inw_12 h (hF.1 12 rfl).1 rfl rfl 44 (by decide) kw_1682 rfl dX12_feed_80 ?_
  refine lv_iload X.1 X.2.1 dX12_feed_83 (lv_at hl 0 rfl) ?_
  refine j_bipush X dX12_feed_85 (by decide) ?_
  refine j_bipush X dX12_feed_87 (by decide) ?_
  refine lv_iload X.1 X.2.1 dX12_feed_89 (lv_at hl 7 rfl) ?_
  refine j_iconst X dX12_feed_91 ?_
  obtain ⟨g_1, hw⟩ := hw
  refine j_irem X g_1 ⟨by decide, by decide⟩ (by decide) (by decide) dX12_feed_92 ?_
  refine j_imul X dX12_feed_93 ?_
  refine j_isub X dX12_feed_94 ?_
  refine j_ishr X dX12_feed_95 ?_
  refine j_i2b X dX12_feed_96 ?_
  obtain ⟨g_2, g_3, hw⟩ := hw
  refine r_bast (n := 300) X h (hF.1 118 rfl).1 (fun _ => rfl) (by decide) g_2 g_3 rfl (nb_b _) dX12_feed_97 (fun H locs h => ?_)
  obtain ⟨σ_4, eσ_4⟩ : ∃ z : St, z = st σ 118 0 (Int.toNat (σ 12 0 44)) (i_i2b (i_ishr y0 (24 - (8 * (Int.tmod x6 4))))) := ⟨_, rfl⟩
  rw [← eσ_4] at h
  have hw := hw σ_4 eσ_4
  refine lv_aload_n X.1 X.2.1 dX12_feed_98 rfl (lv_at hl 1 rfl) ?_
  refine lv_dup X.1 X.2.1 dX12_feed_99 rfl ?_
  refine r_get (ci := 12) X inw_12 h (hF.1 12 rfl).1 rfl rfl 44 (by decide) kw_1682 rfl dX12_feed_100 ?_
  refine j_iconst X dX12_feed_103 ?_
  refine j_iadd X dX12_feed_104 ?_
  refine r_put (ci := 12) X inw_12 tyX12 tyX12_ok nmX12 h (hF.1 12 rfl).1 rfl rfl 44 (by decide) kw_1682 rfl rfl rfl (Nat.le_of_ble_eq_true rfl) rfl rfl dX12_feed_105 (fun H locs h => ?_)
  obtain ⟨σ_5, eσ_5⟩ : ∃ z : St, z = st σ_4 12 0 44 ((σ_4 12 0 44) + 1) := ⟨_, rfl⟩
  rw [← eσ_5] at h
  have hw := hw σ_5 eσ_5
  refine j_iinc (kk9 := 7) (lv' := [(6, .int (iv (x6 + 1))), (7, .int (iv y0)), (0, .ref (ad 12 0)), (1, .int (iv x1)), (2, .int (iv x2)), (3, .int (iv x3)), (4, .int (iv x4)), (5, .int (iv x5))]) X dX12_feed_108 hl rfl (by decide) rfl (fun ls hl => ?_)
  refine lv_goto (tgt := 20) X.1 X.2.1 dX12_feed_111 (by decide) ?_
  exact hK20 σ_5 x1 x2 x3 x4 x5 (x6 + 1) _ _ _ hw h (lv_sub hl [2, 3, 4, 5, 6, 7, 0] rfl)
set_option maxRecDepth 100000 in
set_option maxHeartbeats 4000000 in
theorem lb_X12_feed_20 (X : Cx p s m meth c args cX12_feed 8 (some .int) RX12 D ct L φ N0) {K114 : St → Prop} (hK114 : ∀ (σ : St) (H : Heap) (locs : List Loc) (ls : Array Slot), K114 σ → Hs D ct ad L φ N0 s.heap σ H locs → lv_has ls 8 [(0, .ref (ad 12 0))] → W p l e ({ frames := 0, cells := 0, slots := 0, locals := 0 } : Room) s m args below meth c H locs 0 0 (MQ below (Qi D ct ad L φ N0 Q) args s 0 0 (AA N0)) (F0 m 114 ls [])) : ∀ (n : Nat) (σ : St) (x1 : Int) (x2 : Int) (x3 : Int) (x4 : Int) (x5 : Int) (x6 : Int) (H : Heap) (locs : List Loc) (ls : Array Slot), wp_X12_feed_20 K114 Q n σ x1 x2 x3 x4 x5 x6 → Hs D ct ad L φ N0 s.heap σ H locs → lv_has ls 8 [(0, .ref (ad 12 0)), (1, .int (iv x1)), (2, .int (iv x2)), (3, .int (iv x3)), (4, .int (iv x4)), (5, .int (iv x5)), (6, .int (iv x6))] → W p l e ({ frames := 0, cells := 0, slots := 0, locals := 0 } : Room) s m args below meth c H locs 0 0 (MQ below (Qi D ct ad L φ N0 Q) args s 0 0 (AA N0)) (F0 m 20 ls []) := by
  have hF := X.2.2.2.2.2.2.2.2.1
  intro n
  induction n with
  | zero => intro σ x1 x2 x3 x4 x5 x6 H locs ls hw; exact hw.elim
  | succ n ih =>
    intro σ x1 x2 x3 x4 x5 x6 H locs ls hw h hl
    unfold wp_X12_feed_20 at hw
    refine lv_iload X.1 X.2.1 dX12_feed_20 (lv_at hl 6 rfl) ?_
    refine j_bipush X dX12_feed_22 (by decide) ?_
    obtain ⟨g_6, hwt, hwf⟩ := hw
    refine j_cmp_ge (tgt := 114) X g_6 ⟨by decide, by decide⟩ dX12_feed_24 (by decide) (fun c_15 => ?_) (fun c_15 => ?_)
    · have hw := hwt c_15
      exact hK114 σ _ _ _ hw h (lv_sub hl [0] rfl)
    · have hw := hwf c_15
      refine lv_iload X.1 X.2.1 dX12_feed_27 (lv_at hl 6 rfl) ?_
      refine j_iconst X dX12_feed_29 ?_
      obtain ⟨g_7, hwt, hwf⟩ := hw
      refine j_cmp_ge (tgt := 37) X g_7 ⟨by decide, by decide⟩ dX12_feed_30 (by decide) (fun c_14 => ?_) (fun c_14 => ?_)
      · have hw := hwt c_14
        refine lv_iload X.1 X.2.1 dX12_feed_37 (lv_at hl 6 rfl) ?_
        refine j_bipush X dX12_feed_39 (by decide) ?_
        obtain ⟨g_8, hwt, hwf⟩ := hw
        refine j_cmp_ge (tgt := 48) X g_8 ⟨by decide, by decide⟩ dX12_feed_41 (by decide) (fun c_13 => ?_) (fun c_13 => ?_)
        · have hw := hwt c_13
          refine lv_iload X.1 X.2.1 dX12_feed_48 (lv_at hl 6 rfl) ?_
          refine j_bipush X dX12_feed_50 (by decide) ?_
          obtain ⟨g_9, hwt, hwf⟩ := hw
          refine j_cmp_ge (tgt := 59) X g_9 ⟨by decide, by decide⟩ dX12_feed_52 (by decide) (fun c_12 => ?_) (fun c_12 => ?_)
          · have hw := hwt c_12
            refine lv_iload X.1 X.2.1 dX12_feed_59 (lv_at hl 6 rfl) ?_
            refine j_bipush X dX12_feed_61 (by decide) ?_
            obtain ⟨g_10, hwt, hwf⟩ := hw
            refine j_cmp_ge (tgt := 71) X g_10 ⟨by decide, by decide⟩ dX12_feed_63 (by decide) (fun c_11 => ?_) (fun c_11 => ?_)
            · have hw := hwt c_11
              refine lv_iload X.1 X.2.1 dX12_feed_71 (lv_at hl 5 rfl) ?_
              exact lb_X12_feed_73 X ih hK114 σ x1 x2 x3 x4 x5 x6 x5 _ _ _ hw h (lv_sub hl [0, 1, 2, 3, 4, 5, 6] rfl)
            · have hw := hwf c_11
              refine lv_iload X.1 X.2.1 dX12_feed_66 (lv_at hl 4 rfl) ?_
              refine lv_goto (tgt := 73) X.1 X.2.1 dX12_feed_68 (by decide) ?_
              exact lb_X12_feed_73 X ih hK114 σ x1 x2 x3 x4 x5 x6 x4 _ _ _ hw h (lv_sub hl [0, 1, 2, 3, 4, 5, 6] rfl)
          · have hw := hwf c_12
            refine lv_iload_n X.1 X.2.1 dX12_feed_55 rfl (lv_at hl 3 rfl) ?_
            refine lv_goto (tgt := 73) X.1 X.2.1 dX12_feed_56 (by decide) ?_
            exact lb_X12_feed_73 X ih hK114 σ x1 x2 x3 x4 x5 x6 x3 _ _ _ hw h (lv_sub hl [0, 1, 2, 3, 4, 5, 6] rfl)
        · have hw := hwf c_13
          refine lv_iload_n X.1 X.2.1 dX12_feed_44 rfl (lv_at hl 2 rfl) ?_
          refine lv_goto (tgt := 73) X.1 X.2.1 dX12_feed_45 (by decide) ?_
          exact lb_X12_feed_73 X ih hK114 σ x1 x2 x3 x4 x5 x6 x2 _ _ _ hw h (lv_sub hl [0, 1, 2, 3, 4, 5, 6] rfl)
      · have hw := hwf c_14
        refine lv_iload_n X.1 X.2.1 dX12_feed_33 rfl (lv_at hl 1 rfl) ?_
        refine lv_goto (tgt := 73) X.1 X.2.1 dX12_feed_34 (by decide) ?_
        exact lb_X12_feed_73 X ih hK114 σ x1 x2 x3 x4 x5 x6 x1 _ _ _ hw h (lv_sub hl [0, 1, 2, 3, 4, 5, 6] rfl)
theorem pd_X12_feed : yX12_feed.cls ≠ "java/lang/invoke/MethodHandle" ∧ yX12_feed.cls ≠ "java/lang/invoke/VarHandle" ∧ (parseMethodDescriptor yX12_feed.desc).map (fun d => d.parameters.length) = some 5 := by decide +kernel
set_option maxRecDepth 100000 in
set_option maxHeartbeats 4000000 in
theorem c_X12_feed (l : Launch) (D : va_G) (ct : Nat → ClassId) (ad : Nat → Nat → Nat) (L : List (Nat × Nat)) (φ : Nat → Nat → Nat → Bool) (N0 : Nat) (σ : St) (x1 : Int) (x2 : Int) (x3 : Int) (x4 : Int) (x5 : Int) (Q : Int → St → Prop) (hw : wp_X12_feed σ x1 x2 x3 x4 x5 Q) : Met l yX12_feed (.code yX12_feed cX12_feed 8 (some .int) :: gw) ({ frames := 0, cells := 0, slots := 0, locals := 0 } : Room) (Pm D ct ad L φ N0 σ [.ref (ad 12 0), .int (iv x1), .int (iv x2), .int (iv x3), .int (iv x4), .int (iv x5)]) (Qi D ct ad L φ N0 Q) 0 0 (AA N0) := by
  refine m_of (by decide) (fun p e s m below meth c X hnm h => ?_)
  have hF := X.2.2.2.2.2.2.2.2.1
  have hl := lv_entry ([.ref (ad 12 0), .int (iv x1), .int (iv x2), .int (iv x3), .int (iv x4), .int (iv x5)]) (n := 8) (Nat.le_of_ble_eq_true rfl)
  rw [lg_entry_eq]
  generalize (lg_sl ([.ref (ad 12 0), .int (iv x1), .int (iv x2), .int (iv x3), .int (iv x4), .int (iv x5)]) ++ List.replicate (8 - (lg_sl ([.ref (ad 12 0), .int (iv x1), .int (iv x2), .int (iv x3), .int (iv x4), .int (iv x5)])).length) Slot.unset).toArray = ls at hl ⊢
  have hl : lv_has ls 8 [(0, .ref (ad 12 0)), (1, .int (iv x1)), (2, .int (iv x2)), (3, .int (iv x3)), (4, .int (iv x4)), (5, .int (iv x5))] := hl
  have h : Hs D ct ad L φ N0 s.heap σ s.heap [] := h
  unfold wp_X12_feed at hw
  refine lv_aload_n X.1 X.2.1 dX12_feed_0 rfl (lv_at hl 0 rfl) ?_
  refine j_iconst X dX12_feed_1 ?_
  refine r_put (ci := 12) X inw_12 tyX12 tyX12_ok nmX12 h (hF.1 12 rfl).1 rfl rfl 0 (by decide) kw_1638 rfl rfl rfl (Nat.le_of_ble_eq_true rfl) rfl rfl dX12_feed_2 (fun H locs h => ?_)
  obtain ⟨σ_16, eσ_16⟩ : ∃ z : St, z = st σ 12 0 0 0 := ⟨_, rfl⟩
  rw [← eσ_16] at h
  have hw := hw σ_16 eσ_16
  refine lv_aload_n X.1 X.2.1 dX12_feed_5 rfl (lv_at hl 0 rfl) ?_
  refine r_get (ci := 12) X inw_12 h (hF.1 12 rfl).1 rfl rfl 44 (by decide) kw_1682 rfl dX12_feed_6 ?_
  refine j_sipush X dX12_feed_9 (by decide) ?_
  obtain ⟨g_17, hwt, hwf⟩ := hw
  refine j_cmp_le (tgt := 17) X g_17 ⟨by decide, by decide⟩ dX12_feed_12 (by decide) (fun c_18 => ?_) (fun c_18 => ?_)
  · have hw := hwt c_18
    refine j_iconst X dX12_feed_17 ?_
    refine lv_istore (lv' := [(6, .int (iv 0)), (0, .ref (ad 12 0)), (1, .int (iv x1)), (2, .int (iv x2)), (3, .int (iv x3)), (4, .int (iv x4)), (5, .int (iv x5))]) X.1 X.2.1 dX12_feed_18 hl (by decide) rfl (fun ls hl => ?_)
    exact hw.elim (fun n20 hw => lb_X12_feed_20 X (lb_X12_feed_114 X) n20 σ_16 x1 x2 x3 x4 x5 0 _ _ _ hw h (lv_sub hl [1, 2, 3, 4, 5, 6, 0] rfl))
  · have hw := hwf c_18
    refine j_iconst X dX12_feed_15 ?_
    exact k_ir X rfl h hw dX12_feed_16
end
section
variable {p : Program} {l : Launch} {e : Env} {s : State} {m : MethodId} {args : Array Value} {below : List Frame} {meth : Method} {c : Code} {D : va_G} {ct : Nat → ClassId} {ad : Nat → Nat → Nat} {L : List (Nat × Nat)} {φ : Nat → Nat → Nat → Bool} {N0 : Nat}
variable {Q : Int → St → Prop}
theorem pd_X12_end : yX12_end.cls ≠ "java/lang/invoke/MethodHandle" ∧ yX12_end.cls ≠ "java/lang/invoke/VarHandle" ∧ (parseMethodDescriptor yX12_end.desc).map (fun d => d.parameters.length) = some 1 := by decide +kernel
set_option maxRecDepth 100000 in
set_option maxHeartbeats 4000000 in
theorem c_X12_end (l : Launch) (D : va_G) (ct : Nat → ClassId) (ad : Nat → Nat → Nat) (L : List (Nat × Nat)) (φ : Nat → Nat → Nat → Bool) (N0 : Nat) (σ : St) (x1 : Int) (Q : Int → St → Prop) (hw : wp_X12_end σ x1 Q) : Met l yX12_end (.code yX12_end cX12_end 2 (some .int) :: gw) ({ frames := 1, cells := 0, slots := 0, locals := 22 } : Room) (Pm D ct ad L φ N0 σ [.ref (ad 12 0), .int (iv x1)]) (Qi D ct ad L φ N0 Q) 0 0 (AA N0) := by
  refine m_of (by decide) (fun p e s m below meth c X hnm h => ?_)
  have hF := X.2.2.2.2.2.2.2.2.1
  have hl := lv_entry ([.ref (ad 12 0), .int (iv x1)]) (n := 2) (Nat.le_of_ble_eq_true rfl)
  rw [lg_entry_eq]
  generalize (lg_sl ([.ref (ad 12 0), .int (iv x1)]) ++ List.replicate (2 - (lg_sl ([.ref (ad 12 0), .int (iv x1)])).length) Slot.unset).toArray = ls at hl ⊢
  have hl : lv_has ls 2 [(0, .ref (ad 12 0)), (1, .int (iv x1))] := hl
  have h : Hs D ct ad L φ N0 s.heap σ s.heap [] := h
  unfold wp_X12_end at hw
  refine lv_aload_n X.1 X.2.1 dX12_end_0 rfl (lv_at hl 0 rfl) ?_
  refine j_iconst X dX12_end_1 ?_
  refine r_put (ci := 12) X inw_12 tyX12 tyX12_ok nmX12 h (hF.1 12 rfl).1 rfl rfl 0 (by decide) kw_1638 rfl rfl rfl (Nat.le_of_ble_eq_true rfl) rfl rfl dX12_end_2 (fun H locs h => ?_)
  obtain ⟨σ_1, eσ_1⟩ : ∃ z : St, z = st σ 12 0 0 0 := ⟨_, rfl⟩
  rw [← eσ_1] at h
  have hw := hw σ_1 eσ_1
  refine lv_iload_n X.1 X.2.1 dX12_end_5 rfl (lv_at hl 1 rfl) ?_
  refine j_iconst X dX12_end_6 ?_
  refine lv_aload_n X.1 X.2.1 dX12_end_7 rfl (lv_at hl 0 rfl) ?_
  refine r_get (ci := 12) X inw_12 h (hF.1 12 rfl).1 rfl rfl 44 (by decide) kw_1682 rfl dX12_end_8 ?_
  refine k_i h (r_S (As := [.int (iv x1), .int (iv 0), .int (iv (σ_1 12 0 44))]) (rest := []) X h (c_X12_within l D ct ad L φ N0 σ_1 x1 0 (σ_1 12 0 44) _ hw) rfl rfl ⟨Nat.le_of_ble_eq_true rfl, Nat.le_of_ble_eq_true rfl⟩ kw_1959 kw_1960 kw_129 kw_1961 pd_X12_within rfl hl.1 rfl (Nat.le_of_ble_eq_true rfl) ⟨Nat.le_of_ble_eq_true rfl, Nat.le_of_ble_eq_true rfl⟩ dX12_end_11) (fun r_3 σ_2 H locs hw h => ?_)
  obtain ⟨g_4, hwt, hwf⟩ := hw
  refine j_if_ne (tgt := 19) X g_4 dX12_end_14 (by decide) (fun c_6 => ?_) (fun c_6 => ?_)
  · have hw := hwt c_6
    refine lv_aload_n X.1 X.2.1 dX12_end_19 rfl (lv_at hl 0 rfl) ?_
    refine lv_iload_n X.1 X.2.1 dX12_end_20 rfl (lv_at hl 1 rfl) ?_
    refine r_put (ci := 12) X inw_12 tyX12 tyX12_ok nmX12 h (hF.1 12 rfl).1 rfl rfl 44 (by decide) kw_1682 rfl rfl rfl (Nat.le_of_ble_eq_true rfl) rfl rfl dX12_end_21 (fun H locs h => ?_)
    obtain ⟨σ_5, eσ_5⟩ : ∃ z : St, z = st σ_2 12 0 44 x1 := ⟨_, rfl⟩
    rw [← eσ_5] at h
    have hw := hw σ_5 eσ_5
    refine lv_iload_n X.1 X.2.1 dX12_end_24 rfl (lv_at hl 1 rfl) ?_
    exact k_ir X rfl h hw dX12_end_25
  · have hw := hwf c_6
    refine j_iconst X dX12_end_17 ?_
    exact k_ir X rfl h hw dX12_end_18
end
section
variable {p : Program} {l : Launch} {e : Env} {s : State} {m : MethodId} {args : Array Value} {below : List Frame} {meth : Method} {c : Code} {D : va_G} {ct : Nat → ClassId} {ad : Nat → Nat → Nat} {L : List (Nat × Nat)} {φ : Nat → Nat → Nat → Bool} {N0 : Nat}
variable {Q : Int → St → Prop}
theorem pd_X12_byteAt : yX12_byteAt.cls ≠ "java/lang/invoke/MethodHandle" ∧ yX12_byteAt.cls ≠ "java/lang/invoke/VarHandle" ∧ (parseMethodDescriptor yX12_byteAt.desc).map (fun d => d.parameters.length) = some 1 := by decide +kernel
set_option maxRecDepth 100000 in
set_option maxHeartbeats 4000000 in
theorem c_X12_byteAt (l : Launch) (D : va_G) (ct : Nat → ClassId) (ad : Nat → Nat → Nat) (L : List (Nat × Nat)) (φ : Nat → Nat → Nat → Bool) (N0 : Nat) (σ : St) (x1 : Int) (Q : Int → St → Prop) (hw : wp_X12_byteAt σ x1 Q) : Met l yX12_byteAt (.code yX12_byteAt cX12_byteAt 2 (some .int) :: gw) ({ frames := 0, cells := 0, slots := 0, locals := 0 } : Room) (Pm D ct ad L φ N0 σ [.ref (ad 12 0), .int (iv x1)]) (Qi D ct ad L φ N0 Q) 0 0 (AA N0) := by
  refine m_of (by decide) (fun p e s m below meth c X hnm h => ?_)
  have hF := X.2.2.2.2.2.2.2.2.1
  have hl := lv_entry ([.ref (ad 12 0), .int (iv x1)]) (n := 2) (Nat.le_of_ble_eq_true rfl)
  rw [lg_entry_eq]
  generalize (lg_sl ([.ref (ad 12 0), .int (iv x1)]) ++ List.replicate (2 - (lg_sl ([.ref (ad 12 0), .int (iv x1)])).length) Slot.unset).toArray = ls at hl ⊢
  have hl : lv_has ls 2 [(0, .ref (ad 12 0)), (1, .int (iv x1))] := hl
  have h : Hs D ct ad L φ N0 s.heap σ s.heap [] := h
  unfold wp_X12_byteAt at hw
  refine lv_iload_n X.1 X.2.1 dX12_byteAt_0 rfl (lv_at hl 1 rfl) ?_
  refine lv_aload_n X.1 X.2.1 dX12_byteAt_1 rfl (lv_at hl 0 rfl) ?_
  refine r_get (ci := 12) X inw_12 h (hF.1 12 rfl).1 rfl rfl 44 (by decide) kw_1682 rfl dX12_byteAt_2 ?_
  obtain ⟨g_1, g_2, hwt, hwf⟩ := hw
  refine j_cmp_ge (tgt := 21) X g_1 g_2 dX12_byteAt_5 (by decide) (fun c_5 => ?_) (fun c_5 => ?_)
  · have hw := hwt c_5
    refine j_iconst X dX12_byteAt_21 ?_
    exact k_ir X rfl h hw dX12_byteAt_22
  · have hw := hwf c_5
    refine lv_aload_n X.1 X.2.1 dX12_byteAt_8 rfl (lv_at hl 0 rfl) ?_
    refine r_getR (ci := 12) X inw_12 h (hF.1 12 rfl).1 rfl rfl 43 (by decide) kw_1681 rfl ((hF.1 12 rfl).2 43) dX12_byteAt_9 ?_
    refine lv_iload_n X.1 X.2.1 dX12_byteAt_12 rfl (lv_at hl 1 rfl) ?_
    obtain ⟨g_3, g_4, hw⟩ := hw
    refine r_bald (n := 300) X h (hF.1 118 rfl).1 rfl (by decide) g_3 g_4 dX12_byteAt_13 ?_
    refine j_sipush X dX12_byteAt_14 (by decide) ?_
    refine j_iand X dX12_byteAt_17 ?_
    refine lv_goto (tgt := 22) X.1 X.2.1 dX12_byteAt_18 (by decide) ?_
    exact k_ir X rfl h hw dX12_byteAt_22
end
section
variable {p : Program} {l : Launch} {e : Env} {s : State} {m : MethodId} {args : Array Value} {below : List Frame} {meth : Method} {c : Code} {D : va_G} {ct : Nat → ClassId} {ad : Nat → Nat → Nat} {L : List (Nat × Nat)} {φ : Nat → Nat → Nat → Bool} {N0 : Nat}
variable {Q : St → Prop}
set_option maxRecDepth 100000 in
set_option maxHeartbeats 4000000 in
theorem lb_X12_next_281 (X : Cx p s m meth c args cX12_next 2 none RX12 D ct L φ N0) (σ : St) (y0 : Int) (H : Heap) (locs : List Loc) (ls : Array Slot) (hw : wp_X12_next_281 Q σ y0) (h : Hs D ct ad L φ N0 s.heap σ H locs) (hl : lv_has ls 2 []) : W p l e ({ frames := 1, cells := 0, slots := 0, locals := 22 } : Room) s m args below meth c H locs 0 0 (MQ below (Qv D ct ad L φ N0 Q) args s 0 0 (AA N0)) (F0 m 281 ls [.int (iv y0), .ref (ad 12 0)]) := by
  have hF := X.2.2.2.2.2.2.2.2.1
  unfold wp_X12_next_281 at hw
  refine r_put (ci := 12) X inw_12 tyX12 tyX12_ok nmX12 h (hF.1 12 rfl).1 rfl rfl 51 (by decide) kw_1689 rfl rfl rfl (Nat.le_of_ble_eq_true rfl) rfl rfl dX12_next_281 (fun H locs h => ?_)
  obtain ⟨σ_1, eσ_1⟩ : ∃ z : St, z = st σ 12 0 51 y0 := ⟨_, rfl⟩
  rw [← eσ_1] at h
  have hw := hw σ_1 eσ_1
  exact k_vr X h hw dX12_next_284
set_option maxRecDepth 100000 in
set_option maxHeartbeats 4000000 in
theorem lb_X12_next_276 (X : Cx p s m meth c args cX12_next 2 none RX12 D ct L φ N0) (σ : St) (H : Heap) (locs : List Loc) (ls : Array Slot) (hw : wp_X12_next_276 Q σ) (h : Hs D ct ad L φ N0 s.heap σ H locs) (hl : lv_has ls 2 []) : W p l e ({ frames := 1, cells := 0, slots := 0, locals := 22 } : Room) s m args below meth c H locs 0 0 (MQ below (Qv D ct ad L φ N0 Q) args s 0 0 (AA N0)) (F0 m 276 ls [.ref (ad 12 0)]) := by
  have hF := X.2.2.2.2.2.2.2.2.1
  unfold wp_X12_next_276 at hw
  refine j_iconst X dX12_next_276 ?_
  refine lv_goto (tgt := 281) X.1 X.2.1 dX12_next_277 (by decide) ?_
  exact lb_X12_next_281 X σ 3 _ _ _ hw h (lv_sub hl [] rfl)
set_option maxRecDepth 100000 in
set_option maxHeartbeats 4000000 in
theorem lb_X12_next_235 (X : Cx p s m meth c args cX12_next 2 none RX12 D ct L φ N0) (σ : St) (y0 : Int) (H : Heap) (locs : List Loc) (ls : Array Slot) (hw : wp_X12_next_235 Q σ y0) (h : Hs D ct ad L φ N0 s.heap σ H locs) (hl : lv_has ls 2 []) : W p l e ({ frames := 1, cells := 0, slots := 0, locals := 22 } : Room) s m args below meth c H locs 0 0 (MQ below (Qv D ct ad L φ N0 Q) args s 0 0 (AA N0)) (F0 m 235 ls [.int (iv y0), .ref (ad 12 0)]) := by
  have hF := X.2.2.2.2.2.2.2.2.1
  unfold wp_X12_next_235 at hw
  refine r_put (ci := 12) X inw_12 tyX12 tyX12_ok nmX12 h (hF.1 12 rfl).1 rfl rfl 51 (by decide) kw_1689 rfl rfl rfl (Nat.le_of_ble_eq_true rfl) rfl rfl dX12_next_235 (fun H locs h => ?_)
  obtain ⟨σ_2, eσ_2⟩ : ∃ z : St, z = st σ 12 0 51 y0 := ⟨_, rfl⟩
  rw [← eσ_2] at h
  have hw := hw σ_2 eσ_2
  refine lv_goto (tgt := 284) X.1 X.2.1 dX12_next_238 (by decide) ?_
  exact k_vr X h hw dX12_next_284
set_option maxRecDepth 100000 in
set_option maxHeartbeats 4000000 in
theorem lb_X12_next_216 (X : Cx p s m meth c args cX12_next 2 none RX12 D ct L φ N0) (σ : St) (H : Heap) (locs : List Loc) (ls : Array Slot) (hw : wp_X12_next_216 Q σ) (h : Hs D ct ad L φ N0 s.heap σ H locs) (hl : lv_has ls 2 [(0, .ref (ad 12 0))]) : W p l e ({ frames := 1, cells := 0, slots := 0, locals := 22 } : Room) s m args below meth c H locs 0 0 (MQ below (Qv D ct ad L φ N0 Q) args s 0 0 (AA N0)) (F0 m 216 ls []) := by
  have hF := X.2.2.2.2.2.2.2.2.1
  unfold wp_X12_next_216 at hw
  refine lv_aload_n X.1 X.2.1 dX12_next_216 rfl (lv_at hl 0 rfl) ?_
  refine lv_aload_n X.1 X.2.1 dX12_next_217 rfl (lv_at hl 0 rfl) ?_
  refine r_get (ci := 12) X inw_12 h (hF.1 12 rfl).1 rfl rfl 49 (by decide) kw_1687 rfl dX12_next_218 ?_
  refine lv_aload_n X.1 X.2.1 dX12_next_221 rfl (lv_at hl 0 rfl) ?_
  refine r_get (ci := 12) X inw_12 h (hF.1 12 rfl).1 rfl rfl 48 (by decide) kw_1686 rfl dX12_next_222 ?_
  refine j_isub X dX12_next_225 ?_
  refine j_iconst X dX12_next_226 ?_
  obtain ⟨g_3, hwt, hwf⟩ := hw
  refine j_cmp_le (tgt := 234) X g_3 ⟨by decide, by decide⟩ dX12_next_227 (by decide) (fun c_4 => ?_) (fun c_4 => ?_)
  · have hw := hwt c_4
    refine j_iconst X dX12_next_234 ?_
    exact lb_X12_next_235 X σ 2 _ _ _ hw h (lv_sub hl [] rfl)
  · have hw := hwf c_4
    refine j_iconst X dX12_next_230 ?_
    refine lv_goto (tgt := 235) X.1 X.2.1 dX12_next_231 (by decide) ?_
    exact lb_X12_next_235 X σ 4 _ _ _ hw h (lv_sub hl [] rfl)
set_option maxRecDepth 100000 in
set_option maxHeartbeats 4000000 in
theorem lb_X12_next_203 (X : Cx p s m meth c args cX12_next 2 none RX12 D ct L φ N0) {K149 : St → Prop} {K216 : St → Prop} (hK149 : ∀ (σ : St) (H : Heap) (locs : List Loc) (ls : Array Slot), K149 σ → Hs D ct ad L φ N0 s.heap σ H locs → lv_has ls 2 [(0, .ref (ad 12 0))] → W p l e ({ frames := 1, cells := 0, slots := 0, locals := 22 } : Room) s m args below meth c H locs 0 0 (MQ below (Qv D ct ad L φ N0 Q) args s 0 0 (AA N0)) (F0 m 149 ls [])) (hK216 : ∀ (σ : St) (H : Heap) (locs : List Loc) (ls : Array Slot), K216 σ → Hs D ct ad L φ N0 s.heap σ H locs → lv_has ls 2 [(0, .ref (ad 12 0))] → W p l e ({ frames := 1, cells := 0, slots := 0, locals := 22 } : Room) s m args below meth c H locs 0 0 (MQ below (Qv D ct ad L φ N0 Q) args s 0 0 (AA N0)) (F0 m 216 ls [])) (σ : St) (H : Heap) (locs : List Loc) (ls : Array Slot) (hw : wp_X12_next_203 K149 K216 Q σ) (h : Hs D ct ad L φ N0 s.heap σ H locs) (hl : lv_has ls 2 [(0, .ref (ad 12 0))]) : W p l e ({ frames := 1, cells := 0, slots := 0, locals := 22 } : Room) s m args below meth c H locs 0 0 (MQ below (Qv D ct ad L φ N0 Q) args s 0 0 (AA N0)) (F0 m 203 ls []) := by
  have hF := X.2.2.2.2.2.2.2.2.1
  unfold wp_X12_next_203 at hw
  refine lv_aload_n X.1 X.2.1 dX12_next_203 rfl (lv_at hl 0 rfl) ?_
  refine lv_dup X.1 X.2.1 dX12_next_204 rfl ?_
  refine r_get (ci := 12) X inw_12 h (hF.1 12 rfl).1 rfl rfl 49 (by decide) kw_1687 rfl dX12_next_205 ?_
  refine j_iconst X dX12_next_208 ?_
  refine j_iadd X dX12_next_209 ?_
  refine r_put (ci := 12) X inw_12 tyX12 tyX12_ok nmX12 h (hF.1 12 rfl).1 rfl rfl 49 (by decide) kw_1687 rfl rfl rfl (Nat.le_of_ble_eq_true rfl) rfl rfl dX12_next_210 (fun H locs h => ?_)
  obtain ⟨σ_5, eσ_5⟩ : ∃ z : St, z = st σ 12 0 49 ((σ 12 0 49) + 1) := ⟨_, rfl⟩
  rw [← eσ_5] at h
  have hw := hw σ_5 eσ_5
  refine lv_goto (tgt := 149) X.1 X.2.1 dX12_next_213 (by decide) ?_
  exact hK149 σ_5 _ _ _ hw h (lv_sub hl [0] rfl)
set_option maxRecDepth 100000 in
set_option maxHeartbeats 4000000 in
theorem lb_X12_next_149 (X : Cx p s m meth c args cX12_next 2 none RX12 D ct L φ N0) {K216 : St → Prop} (hK216 : ∀ (σ : St) (H : Heap) (locs : List Loc) (ls : Array Slot), K216 σ → Hs D ct ad L φ N0 s.heap σ H locs → lv_has ls 2 [(0, .ref (ad 12 0))] → W p l e ({ frames := 1, cells := 0, slots := 0, locals := 22 } : Room) s m args below meth c H locs 0 0 (MQ below (Qv D ct ad L φ N0 Q) args s 0 0 (AA N0)) (F0 m 216 ls [])) : ∀ (n : Nat) (σ : St) (H : Heap) (locs : List Loc) (ls : Array Slot), wp_X12_next_149 K216 Q n σ → Hs D ct ad L φ N0 s.heap σ H locs → lv_has ls 2 [(0, .ref (ad 12 0))] → W p l e ({ frames := 1, cells := 0, slots := 0, locals := 22 } : Room) s m args below meth c H locs 0 0 (MQ below (Qv D ct ad L φ N0 Q) args s 0 0 (AA N0)) (F0 m 149 ls []) := by
  have hF := X.2.2.2.2.2.2.2.2.1
  intro n
  induction n with
  | zero => intro σ H locs ls hw; exact hw.elim
  | succ n ih =>
    intro σ H locs ls hw h hl
    unfold wp_X12_next_149 at hw
    refine lv_aload_n X.1 X.2.1 dX12_next_149 rfl (lv_at hl 0 rfl) ?_
    refine lv_aload_n X.1 X.2.1 dX12_next_150 rfl (lv_at hl 0 rfl) ?_
    refine r_get (ci := 12) X inw_12 h (hF.1 12 rfl).1 rfl rfl 49 (by decide) kw_1687 rfl dX12_next_151 ?_
    refine k_i h (r_V (C := RX12) (ci := 12) (As := [.int (iv (σ 12 0 49))]) (rest := []) X h (c_X12_byteAt l D ct ad L φ N0 σ (σ 12 0 49) _ hw) rfl rfl ⟨Nat.le_of_ble_eq_true rfl, Nat.le_of_ble_eq_true rfl⟩ kw_2074 kw_2076 kw_74 kw_129 kw_2077 ⟨rfl, pd_X12_byteAt⟩ (hF.1 12 rfl).1 rfl rfl rfl hl.1 rfl (Nat.le_of_ble_eq_true rfl) ⟨Nat.le_of_ble_eq_true rfl, Nat.le_of_ble_eq_true rfl⟩ dX12_next_154) (fun r_7 σ_6 H locs hw h => ?_)
    refine j_bipush X dX12_next_157 (by decide) ?_
    refine j_bipush X dX12_next_159 (by decide) ?_
    refine k_i h (r_S (As := [.int (iv r_7), .int (iv 48), .int (iv 57)]) (rest := []) X h (c_X12_within l D ct ad L φ N0 σ_6 r_7 48 57 _ hw) rfl rfl ⟨Nat.le_of_ble_eq_true rfl, Nat.le_of_ble_eq_true rfl⟩ kw_1959 kw_1960 kw_129 kw_1961 pd_X12_within rfl hl.1 rfl (Nat.le_of_ble_eq_true rfl) ⟨Nat.le_of_ble_eq_true rfl, Nat.le_of_ble_eq_true rfl⟩ dX12_next_161) (fun r_9 σ_8 H locs hw h => ?_)
    obtain ⟨g_10, hwt, hwf⟩ := hw
    refine j_if_eq (tgt := 216) X g_10 dX12_next_164 (by decide) (fun c_16 => ?_) (fun c_16 => ?_)
    · have hw := hwt c_16
      exact hK216 σ_8 _ _ _ hw h (lv_sub hl [0] rfl)
    · have hw := hwf c_16
      refine lv_aload_n X.1 X.2.1 dX12_next_167 rfl (lv_at hl 0 rfl) ?_
      refine r_get (ci := 12) X inw_12 h (hF.1 12 rfl).1 rfl rfl 49 (by decide) kw_1687 rfl dX12_next_168 ?_
      refine lv_aload_n X.1 X.2.1 dX12_next_171 rfl (lv_at hl 0 rfl) ?_
      refine r_get (ci := 12) X inw_12 h (hF.1 12 rfl).1 rfl rfl 48 (by decide) kw_1686 rfl dX12_next_172 ?_
      refine j_isub X dX12_next_175 ?_
      refine j_iconst X dX12_next_176 ?_
      obtain ⟨g_11, hwt, hwf⟩ := hw
      refine j_cmp_ge (tgt := 203) X g_11 ⟨by decide, by decide⟩ dX12_next_177 (by decide) (fun c_15 => ?_) (fun c_15 => ?_)
      · have hw := hwt c_15
        exact lb_X12_next_203 X ih hK216 σ_8 _ _ _ hw h (lv_sub hl [0] rfl)
      · have hw := hwf c_15
        refine lv_aload_n X.1 X.2.1 dX12_next_180 rfl (lv_at hl 0 rfl) ?_
        refine j_bipush X dX12_next_181 (by decide) ?_
        refine lv_aload_n X.1 X.2.1 dX12_next_183 rfl (lv_at hl 0 rfl) ?_
        refine r_get (ci := 12) X inw_12 h (hF.1 12 rfl).1 rfl rfl 50 (by decide) kw_1688 rfl dX12_next_184 ?_
        refine j_imul X dX12_next_187 ?_
        refine lv_aload_n X.1 X.2.1 dX12_next_188 rfl (lv_at hl 0 rfl) ?_
        refine lv_aload_n X.1 X.2.1 dX12_next_189 rfl (lv_at hl 0 rfl) ?_
        refine r_get (ci := 12) X inw_12 h (hF.1 12 rfl).1 rfl rfl 49 (by decide) kw_1687 rfl dX12_next_190 ?_
        refine k_i h (r_V (C := RX12) (ci := 12) (As := [.int (iv (σ_8 12 0 49))]) (rest := [.int (iv (10 * (σ_8 12 0 50))), .ref (ad 12 0)]) X h (c_X12_byteAt l D ct ad L φ N0 σ_8 (σ_8 12 0 49) _ hw) rfl rfl ⟨Nat.le_of_ble_eq_true rfl, Nat.le_of_ble_eq_true rfl⟩ kw_2074 kw_2076 kw_74 kw_129 kw_2077 ⟨rfl, pd_X12_byteAt⟩ (hF.1 12 rfl).1 rfl rfl rfl hl.1 rfl (Nat.le_of_ble_eq_true rfl) ⟨Nat.le_of_ble_eq_true rfl, Nat.le_of_ble_eq_true rfl⟩ dX12_next_193) (fun r_13 σ_12 H locs hw h => ?_)
        refine j_iadd X dX12_next_196 ?_
        refine j_bipush X dX12_next_197 (by decide) ?_
        refine j_isub X dX12_next_199 ?_
        refine r_put (ci := 12) X inw_12 tyX12 tyX12_ok nmX12 h (hF.1 12 rfl).1 rfl rfl 50 (by decide) kw_1688 rfl rfl rfl (Nat.le_of_ble_eq_true rfl) rfl rfl dX12_next_200 (fun H locs h => ?_)
        obtain ⟨σ_14, eσ_14⟩ : ∃ z : St, z = st σ_12 12 0 50 (((10 * (σ_8 12 0 50)) + r_13) - 48) := ⟨_, rfl⟩
        rw [← eσ_14] at h
        have hw := hw σ_14 eσ_14
        exact lb_X12_next_203 X ih hK216 σ_14 _ _ _ hw h (lv_sub hl [0] rfl)
set_option maxRecDepth 100000 in
set_option maxHeartbeats 4000000 in
theorem lb_X12_next_125 (X : Cx p s m meth c args cX12_next 2 none RX12 D ct L φ N0) (σ : St) (H : Heap) (locs : List Loc) (ls : Array Slot) (hw : wp_X12_next_125 Q σ) (h : Hs D ct ad L φ N0 s.heap σ H locs) (hl : lv_has ls 2 [(0, .ref (ad 12 0))]) : W p l e ({ frames := 1, cells := 0, slots := 0, locals := 22 } : Room) s m args below meth c H locs 0 0 (MQ below (Qv D ct ad L φ N0 Q) args s 0 0 (AA N0)) (F0 m 125 ls []) := by
  have hF := X.2.2.2.2.2.2.2.2.1
  unfold wp_X12_next_125 at hw
  refine lv_aload_n X.1 X.2.1 dX12_next_125 rfl (lv_at hl 0 rfl) ?_
  refine j_iconst X dX12_next_126 ?_
  refine r_put (ci := 12) X inw_12 tyX12 tyX12_ok nmX12 h (hF.1 12 rfl).1 rfl rfl 51 (by decide) kw_1689 rfl rfl rfl (Nat.le_of_ble_eq_true rfl) rfl rfl dX12_next_127 (fun H locs h => ?_)
  obtain ⟨σ_17, eσ_17⟩ : ∃ z : St, z = st σ 12 0 51 1 := ⟨_, rfl⟩
  rw [← eσ_17] at h
  have hw := hw σ_17 eσ_17
  refine lv_goto (tgt := 284) X.1 X.2.1 dX12_next_130 (by decide) ?_
  exact k_vr X h hw dX12_next_284
set_option maxRecDepth 100000 in
set_option maxHeartbeats 4000000 in
theorem lb_X12_next_94 (X : Cx p s m meth c args cX12_next 2 none RX12 D ct L φ N0) {K125 : St → Prop} (hK125 : ∀ (σ : St) (H : Heap) (locs : List Loc) (ls : Array Slot), K125 σ → Hs D ct ad L φ N0 s.heap σ H locs → lv_has ls 2 [(0, .ref (ad 12 0))] → W p l e ({ frames := 1, cells := 0, slots := 0, locals := 22 } : Room) s m args below meth c H locs 0 0 (MQ below (Qv D ct ad L φ N0 Q) args s 0 0 (AA N0)) (F0 m 125 ls [])) : ∀ (n : Nat) (σ : St) (H : Heap) (locs : List Loc) (ls : Array Slot), wp_X12_next_94 K125 Q n σ → Hs D ct ad L φ N0 s.heap σ H locs → lv_has ls 2 [(0, .ref (ad 12 0))] → W p l e ({ frames := 1, cells := 0, slots := 0, locals := 22 } : Room) s m args below meth c H locs 0 0 (MQ below (Qv D ct ad L φ N0 Q) args s 0 0 (AA N0)) (F0 m 94 ls []) := by
  have hF := X.2.2.2.2.2.2.2.2.1
  intro n
  induction n with
  | zero => intro σ H locs ls hw; exact hw.elim
  | succ n ih =>
    intro σ H locs ls hw h hl
    unfold wp_X12_next_94 at hw
    refine lv_aload_n X.1 X.2.1 dX12_next_94 rfl (lv_at hl 0 rfl) ?_
    refine lv_aload_n X.1 X.2.1 dX12_next_95 rfl (lv_at hl 0 rfl) ?_
    refine r_get (ci := 12) X inw_12 h (hF.1 12 rfl).1 rfl rfl 49 (by decide) kw_1687 rfl dX12_next_96 ?_
    refine k_i h (r_V (C := RX12) (ci := 12) (As := [.int (iv (σ 12 0 49))]) (rest := []) X h (c_X12_byteAt l D ct ad L φ N0 σ (σ 12 0 49) _ hw) rfl rfl ⟨Nat.le_of_ble_eq_true rfl, Nat.le_of_ble_eq_true rfl⟩ kw_2074 kw_2076 kw_74 kw_129 kw_2077 ⟨rfl, pd_X12_byteAt⟩ (hF.1 12 rfl).1 rfl rfl rfl hl.1 rfl (Nat.le_of_ble_eq_true rfl) ⟨Nat.le_of_ble_eq_true rfl, Nat.le_of_ble_eq_true rfl⟩ dX12_next_99) (fun r_19 σ_18 H locs hw h => ?_)
    refine j_bipush X dX12_next_102 (by decide) ?_
    refine j_bipush X dX12_next_104 (by decide) ?_
    refine k_i h (r_S (As := [.int (iv r_19), .int (iv 97), .int (iv 122)]) (rest := []) X h (c_X12_within l D ct ad L φ N0 σ_18 r_19 97 122 _ hw) rfl rfl ⟨Nat.le_of_ble_eq_true rfl, Nat.le_of_ble_eq_true rfl⟩ kw_1959 kw_1960 kw_129 kw_1961 pd_X12_within rfl hl.1 rfl (Nat.le_of_ble_eq_true rfl) ⟨Nat.le_of_ble_eq_true rfl, Nat.le_of_ble_eq_true rfl⟩ dX12_next_106) (fun r_21 σ_20 H locs hw h => ?_)
    obtain ⟨g_22, hwt, hwf⟩ := hw
    refine j_if_eq (tgt := 125) X g_22 dX12_next_109 (by decide) (fun c_24 => ?_) (fun c_24 => ?_)
    · have hw := hwt c_24
      exact hK125 σ_20 _ _ _ hw h (lv_sub hl [0] rfl)
    · have hw := hwf c_24
      refine lv_aload_n X.1 X.2.1 dX12_next_112 rfl (lv_at hl 0 rfl) ?_
      refine lv_dup X.1 X.2.1 dX12_next_113 rfl ?_
      refine r_get (ci := 12) X inw_12 h (hF.1 12 rfl).1 rfl rfl 49 (by decide) kw_1687 rfl dX12_next_114 ?_
      refine j_iconst X dX12_next_117 ?_
      refine j_iadd X dX12_next_118 ?_
      refine r_put (ci := 12) X inw_12 tyX12 tyX12_ok nmX12 h (hF.1 12 rfl).1 rfl rfl 49 (by decide) kw_1687 rfl rfl rfl (Nat.le_of_ble_eq_true rfl) rfl rfl dX12_next_119 (fun H locs h => ?_)
      obtain ⟨σ_23, eσ_23⟩ : ∃ z : St, z = st σ_20 12 0 49 ((σ_20 12 0 49) + 1) := ⟨_, rfl⟩
      rw [← eσ_23] at h
      have hw := hw σ_23 eσ_23
      refine lv_goto (tgt := 94) X.1 X.2.1 dX12_next_122 (by decide) ?_
      exact ih σ_23 _ _ _ hw h (lv_sub hl [0] rfl)
set_option maxRecDepth 100000 in
set_option maxHeartbeats 4000000 in
theorem lb_X12_next_47 (X : Cx p s m meth c args cX12_next 2 none RX12 D ct L φ N0) (σ : St) (H : Heap) (locs : List Loc) (ls : Array Slot) (hw : wp_X12_next_47 Q σ) (h : Hs D ct ad L φ N0 s.heap σ H locs) (hl : lv_has ls 2 [(0, .ref (ad 12 0))]) : W p l e ({ frames := 1, cells := 0, slots := 0, locals := 22 } : Room) s m args below meth c H locs 0 0 (MQ below (Qv D ct ad L φ N0 Q) args s 0 0 (AA N0)) (F0 m 47 ls []) := by
  have hF := X.2.2.2.2.2.2.2.2.1
  unfold wp_X12_next_47 at hw
  refine lv_aload_n X.1 X.2.1 dX12_next_47 rfl (lv_at hl 0 rfl) ?_
  refine lv_aload_n X.1 X.2.1 dX12_next_48 rfl (lv_at hl 0 rfl) ?_
  refine r_get (ci := 12) X inw_12 h (hF.1 12 rfl).1 rfl rfl 48 (by decide) kw_1686 rfl dX12_next_49 ?_
  refine r_put (ci := 12) X inw_12 tyX12 tyX12_ok nmX12 h (hF.1 12 rfl).1 rfl rfl 49 (by decide) kw_1687 rfl rfl rfl (Nat.le_of_ble_eq_true rfl) rfl rfl dX12_next_52 (fun H locs h => ?_)
  obtain ⟨σ_25, eσ_25⟩ : ∃ z : St, z = st σ 12 0 49 (σ 12 0 48) := ⟨_, rfl⟩
  rw [← eσ_25] at h
  have hw := hw σ_25 eσ_25
  refine lv_aload_n X.1 X.2.1 dX12_next_55 rfl (lv_at hl 0 rfl) ?_
  refine lv_aload_n X.1 X.2.1 dX12_next_56 rfl (lv_at hl 0 rfl) ?_
  refine r_get (ci := 12) X inw_12 h (hF.1 12 rfl).1 rfl rfl 48 (by decide) kw_1686 rfl dX12_next_57 ?_
  refine k_i h (r_V (C := RX12) (ci := 12) (As := [.int (iv (σ_25 12 0 48))]) (rest := []) X h (c_X12_byteAt l D ct ad L φ N0 σ_25 (σ_25 12 0 48) _ hw) rfl rfl ⟨Nat.le_of_ble_eq_true rfl, Nat.le_of_ble_eq_true rfl⟩ kw_2074 kw_2076 kw_74 kw_129 kw_2077 ⟨rfl, pd_X12_byteAt⟩ (hF.1 12 rfl).1 rfl rfl rfl hl.1 rfl (Nat.le_of_ble_eq_true rfl) ⟨Nat.le_of_ble_eq_true rfl, Nat.le_of_ble_eq_true rfl⟩ dX12_next_60) (fun r_27 σ_26 H locs hw h => ?_)
  refine lv_istore_n (lv' := [(1, .int (iv r_27)), (0, .ref (ad 12 0))]) X.1 X.2.1 dX12_next_63 rfl hl (by decide) rfl (fun ls hl => ?_)
  refine lv_aload_n X.1 X.2.1 dX12_next_64 rfl (lv_at hl 1 rfl) ?_
  refine r_get (ci := 12) X inw_12 h (hF.1 12 rfl).1 rfl rfl 48 (by decide) kw_1686 rfl dX12_next_65 ?_
  refine lv_aload_n X.1 X.2.1 dX12_next_68 rfl (lv_at hl 1 rfl) ?_
  refine r_get (ci := 12) X inw_12 h (hF.1 12 rfl).1 rfl rfl 44 (by decide) kw_1682 rfl dX12_next_69 ?_
  obtain ⟨g_28, g_29, hwt, hwf⟩ := hw
  refine j_cmp_lt (tgt := 83) X g_28 g_29 dX12_next_72 (by decide) (fun c_49 => ?_) (fun c_49 => ?_)
  · have hw := hwt c_49
    refine lv_iload_n X.1 X.2.1 dX12_next_83 rfl (lv_at hl 0 rfl) ?_
    refine j_bipush X dX12_next_84 (by decide) ?_
    refine j_bipush X dX12_next_86 (by decide) ?_
    refine k_i h (r_S (As := [.int (iv r_27), .int (iv 97), .int (iv 122)]) (rest := []) X h (c_X12_within l D ct ad L φ N0 σ_26 r_27 97 122 _ hw) rfl rfl ⟨Nat.le_of_ble_eq_true rfl, Nat.le_of_ble_eq_true rfl⟩ kw_1959 kw_1960 kw_129 kw_1961 pd_X12_within rfl hl.1 rfl (Nat.le_of_ble_eq_true rfl) ⟨Nat.le_of_ble_eq_true rfl, Nat.le_of_ble_eq_true rfl⟩ dX12_next_88) (fun r_31 σ_30 H locs hw h => ?_)
    obtain ⟨g_32, hwt, hwf⟩ := hw
    refine j_if_eq (tgt := 133) X g_32 dX12_next_91 (by decide) (fun c_47 => ?_) (fun c_47 => ?_)
    · have hw := hwt c_47
      refine lv_iload_n X.1 X.2.1 dX12_next_133 rfl (lv_at hl 0 rfl) ?_
      refine j_bipush X dX12_next_134 (by decide) ?_
      refine j_bipush X dX12_next_136 (by decide) ?_
      refine k_i h (r_S (As := [.int (iv r_27), .int (iv 48), .int (iv 57)]) (rest := []) X h (c_X12_within l D ct ad L φ N0 σ_30 r_27 48 57 _ hw) rfl rfl ⟨Nat.le_of_ble_eq_true rfl, Nat.le_of_ble_eq_true rfl⟩ kw_1959 kw_1960 kw_129 kw_1961 pd_X12_within rfl hl.1 rfl (Nat.le_of_ble_eq_true rfl) ⟨Nat.le_of_ble_eq_true rfl, Nat.le_of_ble_eq_true rfl⟩ dX12_next_138) (fun r_34 σ_33 H locs hw h => ?_)
      obtain ⟨g_35, hwt, hwf⟩ := hw
      refine j_if_eq (tgt := 241) X g_35 dX12_next_141 (by decide) (fun c_46 => ?_) (fun c_46 => ?_)
      · have hw := hwt c_46
        refine lv_aload_n X.1 X.2.1 dX12_next_241 rfl (lv_at hl 1 rfl) ?_
        refine lv_dup X.1 X.2.1 dX12_next_242 rfl ?_
        refine r_get (ci := 12) X inw_12 h (hF.1 12 rfl).1 rfl rfl 49 (by decide) kw_1687 rfl dX12_next_243 ?_
        refine j_iconst X dX12_next_246 ?_
        refine j_iadd X dX12_next_247 ?_
        refine r_put (ci := 12) X inw_12 tyX12 tyX12_ok nmX12 h (hF.1 12 rfl).1 rfl rfl 49 (by decide) kw_1687 rfl rfl rfl (Nat.le_of_ble_eq_true rfl) rfl rfl dX12_next_248 (fun H locs h => ?_)
        obtain ⟨σ_36, eσ_36⟩ : ∃ z : St, z = st σ_33 12 0 49 ((σ_33 12 0 49) + 1) := ⟨_, rfl⟩
        rw [← eσ_36] at h
        have hw := hw σ_36 eσ_36
        refine lv_aload_n X.1 X.2.1 dX12_next_251 rfl (lv_at hl 1 rfl) ?_
        refine lv_iload_n X.1 X.2.1 dX12_next_252 rfl (lv_at hl 0 rfl) ?_
        refine j_bipush X dX12_next_253 (by decide) ?_
        obtain ⟨g_37, hwt, hwf⟩ := hw
        refine j_cmp_eq (tgt := 276) X g_37 ⟨by decide, by decide⟩ dX12_next_255 (by decide) (fun c_44 => ?_) (fun c_44 => ?_)
        · have hw := hwt c_44
          exact lb_X12_next_276 X σ_36 _ _ _ hw h (lv_sub hl [] rfl)
        · have hw := hwf c_44
          refine lv_iload_n X.1 X.2.1 dX12_next_258 rfl (lv_at hl 0 rfl) ?_
          refine j_bipush X dX12_next_259 (by decide) ?_
          obtain ⟨g_38, hwt, hwf⟩ := hw
          refine j_cmp_eq (tgt := 276) X g_38 ⟨by decide, by decide⟩ dX12_next_261 (by decide) (fun c_43 => ?_) (fun c_43 => ?_)
          · have hw := hwt c_43
            exact lb_X12_next_276 X σ_36 _ _ _ hw h (lv_sub hl [] rfl)
          · have hw := hwf c_43
            refine lv_iload_n X.1 X.2.1 dX12_next_264 rfl (lv_at hl 0 rfl) ?_
            refine j_bipush X dX12_next_265 (by decide) ?_
            obtain ⟨g_39, hwt, hwf⟩ := hw
            refine j_cmp_eq (tgt := 276) X g_39 ⟨by decide, by decide⟩ dX12_next_267 (by decide) (fun c_42 => ?_) (fun c_42 => ?_)
            · have hw := hwt c_42
              exact lb_X12_next_276 X σ_36 _ _ _ hw h (lv_sub hl [] rfl)
            · have hw := hwf c_42
              refine lv_iload_n X.1 X.2.1 dX12_next_270 rfl (lv_at hl 0 rfl) ?_
              refine j_bipush X dX12_next_271 (by decide) ?_
              obtain ⟨g_40, hwt, hwf⟩ := hw
              refine j_cmp_ne (tgt := 280) X g_40 ⟨by decide, by decide⟩ dX12_next_273 (by decide) (fun c_41 => ?_) (fun c_41 => ?_)
              · have hw := hwt c_41
                refine j_iconst X dX12_next_280 ?_
                exact lb_X12_next_281 X σ_36 4 _ _ _ hw h (lv_sub hl [] rfl)
              · have hw := hwf c_41
                exact lb_X12_next_276 X σ_36 _ _ _ hw h (lv_sub hl [] rfl)
      · have hw := hwf c_46
        refine lv_aload_n X.1 X.2.1 dX12_next_144 rfl (lv_at hl 1 rfl) ?_
        refine j_iconst X dX12_next_145 ?_
        refine r_put (ci := 12) X inw_12 tyX12 tyX12_ok nmX12 h (hF.1 12 rfl).1 rfl rfl 50 (by decide) kw_1688 rfl rfl rfl (Nat.le_of_ble_eq_true rfl) rfl rfl dX12_next_146 (fun H locs h => ?_)
        obtain ⟨σ_45, eσ_45⟩ : ∃ z : St, z = st σ_33 12 0 50 0 := ⟨_, rfl⟩
        rw [← eσ_45] at h
        have hw := hw σ_45 eσ_45
        exact hw.elim (fun n149 hw => lb_X12_next_149 X (lb_X12_next_216 X) n149 σ_45 _ _ _ hw h (lv_sub hl [1] rfl))
    · have hw := hwf c_47
      exact hw.elim (fun n94 hw => lb_X12_next_94 X (lb_X12_next_125 X) n94 σ_30 _ _ _ hw h (lv_sub hl [1] rfl))
  · have hw := hwf c_49
    refine lv_aload_n X.1 X.2.1 dX12_next_75 rfl (lv_at hl 1 rfl) ?_
    refine j_iconst X dX12_next_76 ?_
    refine r_put (ci := 12) X inw_12 tyX12 tyX12_ok nmX12 h (hF.1 12 rfl).1 rfl rfl 51 (by decide) kw_1689 rfl rfl rfl (Nat.le_of_ble_eq_true rfl) rfl rfl dX12_next_77 (fun H locs h => ?_)
    obtain ⟨σ_48, eσ_48⟩ : ∃ z : St, z = st σ_26 12 0 51 0 := ⟨_, rfl⟩
    rw [← eσ_48] at h
    have hw := hw σ_48 eσ_48
    refine lv_goto (tgt := 284) X.1 X.2.1 dX12_next_80 (by decide) ?_
    exact k_vr X h hw dX12_next_284
set_option maxRecDepth 100000 in
set_option maxHeartbeats 4000000 in
theorem lb_X12_next_34 (X : Cx p s m meth c args cX12_next 2 none RX12 D ct L φ N0) {K8 : St → Prop} {K47 : St → Prop} (hK8 : ∀ (σ : St) (H : Heap) (locs : List Loc) (ls : Array Slot), K8 σ → Hs D ct ad L φ N0 s.heap σ H locs → lv_has ls 2 [(0, .ref (ad 12 0))] → W p l e ({ frames := 1, cells := 0, slots := 0, locals := 22 } : Room) s m args below meth c H locs 0 0 (MQ below (Qv D ct ad L φ N0 Q) args s 0 0 (AA N0)) (F0 m 8 ls [])) (hK47 : ∀ (σ : St) (H : Heap) (locs : List Loc) (ls : Array Slot), K47 σ → Hs D ct ad L φ N0 s.heap σ H locs → lv_has ls 2 [(0, .ref (ad 12 0))] → W p l e ({ frames := 1, cells := 0, slots := 0, locals := 22 } : Room) s m args below meth c H locs 0 0 (MQ below (Qv D ct ad L φ N0 Q) args s 0 0 (AA N0)) (F0 m 47 ls [])) (σ : St) (H : Heap) (locs : List Loc) (ls : Array Slot) (hw : wp_X12_next_34 K8 K47 Q σ) (h : Hs D ct ad L φ N0 s.heap σ H locs) (hl : lv_has ls 2 [(0, .ref (ad 12 0))]) : W p l e ({ frames := 1, cells := 0, slots := 0, locals := 22 } : Room) s m args below meth c H locs 0 0 (MQ below (Qv D ct ad L φ N0 Q) args s 0 0 (AA N0)) (F0 m 34 ls []) := by
  have hF := X.2.2.2.2.2.2.2.2.1
  unfold wp_X12_next_34 at hw
  refine lv_aload_n X.1 X.2.1 dX12_next_34 rfl (lv_at hl 0 rfl) ?_
  refine lv_dup X.1 X.2.1 dX12_next_35 rfl ?_
  refine r_get (ci := 12) X inw_12 h (hF.1 12 rfl).1 rfl rfl 48 (by decide) kw_1686 rfl dX12_next_36 ?_
  refine j_iconst X dX12_next_39 ?_
  refine j_iadd X dX12_next_40 ?_
  refine r_put (ci := 12) X inw_12 tyX12 tyX12_ok nmX12 h (hF.1 12 rfl).1 rfl rfl 48 (by decide) kw_1686 rfl rfl rfl (Nat.le_of_ble_eq_true rfl) rfl rfl dX12_next_41 (fun H locs h => ?_)
  obtain ⟨σ_50, eσ_50⟩ : ∃ z : St, z = st σ 12 0 48 ((σ 12 0 48) + 1) := ⟨_, rfl⟩
  rw [← eσ_50] at h
  have hw := hw σ_50 eσ_50
  refine lv_goto (tgt := 8) X.1 X.2.1 dX12_next_44 (by decide) ?_
  exact hK8 σ_50 _ _ _ hw h (lv_sub hl [0] rfl)
set_option maxRecDepth 100000 in
set_option maxHeartbeats 4000000 in
theorem lb_X12_next_8 (X : Cx p s m meth c args cX12_next 2 none RX12 D ct L φ N0) {K47 : St → Prop} (hK47 : ∀ (σ : St) (H : Heap) (locs : List Loc) (ls : Array Slot), K47 σ → Hs D ct ad L φ N0 s.heap σ H locs → lv_has ls 2 [(0, .ref (ad 12 0))] → W p l e ({ frames := 1, cells := 0, slots := 0, locals := 22 } : Room) s m args below meth c H locs 0 0 (MQ below (Qv D ct ad L φ N0 Q) args s 0 0 (AA N0)) (F0 m 47 ls [])) : ∀ (n : Nat) (σ : St) (H : Heap) (locs : List Loc) (ls : Array Slot), wp_X12_next_8 K47 Q n σ → Hs D ct ad L φ N0 s.heap σ H locs → lv_has ls 2 [(0, .ref (ad 12 0))] → W p l e ({ frames := 1, cells := 0, slots := 0, locals := 22 } : Room) s m args below meth c H locs 0 0 (MQ below (Qv D ct ad L φ N0 Q) args s 0 0 (AA N0)) (F0 m 8 ls []) := by
  have hF := X.2.2.2.2.2.2.2.2.1
  intro n
  induction n with
  | zero => intro σ H locs ls hw; exact hw.elim
  | succ n ih =>
    intro σ H locs ls hw h hl
    unfold wp_X12_next_8 at hw
    refine lv_aload_n X.1 X.2.1 dX12_next_8 rfl (lv_at hl 0 rfl) ?_
    refine lv_aload_n X.1 X.2.1 dX12_next_9 rfl (lv_at hl 0 rfl) ?_
    refine r_get (ci := 12) X inw_12 h (hF.1 12 rfl).1 rfl rfl 48 (by decide) kw_1686 rfl dX12_next_10 ?_
    refine k_i h (r_V (C := RX12) (ci := 12) (As := [.int (iv (σ 12 0 48))]) (rest := []) X h (c_X12_byteAt l D ct ad L φ N0 σ (σ 12 0 48) _ hw) rfl rfl ⟨Nat.le_of_ble_eq_true rfl, Nat.le_of_ble_eq_true rfl⟩ kw_2074 kw_2076 kw_74 kw_129 kw_2077 ⟨rfl, pd_X12_byteAt⟩ (hF.1 12 rfl).1 rfl rfl rfl hl.1 rfl (Nat.le_of_ble_eq_true rfl) ⟨Nat.le_of_ble_eq_true rfl, Nat.le_of_ble_eq_true rfl⟩ dX12_next_13) (fun r_52 σ_51 H locs hw h => ?_)
    refine j_bipush X dX12_next_16 (by decide) ?_
    obtain ⟨g_53, hwt, hwf⟩ := hw
    refine j_cmp_eq (tgt := 34) X g_53 ⟨by decide, by decide⟩ dX12_next_18 (by decide) (fun c_58 => ?_) (fun c_58 => ?_)
    · have hw := hwt c_58
      exact lb_X12_next_34 X ih hK47 σ_51 _ _ _ hw h (lv_sub hl [0] rfl)
    · have hw := hwf c_58
      refine lv_aload_n X.1 X.2.1 dX12_next_21 rfl (lv_at hl 0 rfl) ?_
      refine lv_aload_n X.1 X.2.1 dX12_next_22 rfl (lv_at hl 0 rfl) ?_
      refine r_get (ci := 12) X inw_12 h (hF.1 12 rfl).1 rfl rfl 48 (by decide) kw_1686 rfl dX12_next_23 ?_
      refine k_i h (r_V (C := RX12) (ci := 12) (As := [.int (iv (σ_51 12 0 48))]) (rest := []) X h (c_X12_byteAt l D ct ad L φ N0 σ_51 (σ_51 12 0 48) _ hw) rfl rfl ⟨Nat.le_of_ble_eq_true rfl, Nat.le_of_ble_eq_true rfl⟩ kw_2074 kw_2076 kw_74 kw_129 kw_2077 ⟨rfl, pd_X12_byteAt⟩ (hF.1 12 rfl).1 rfl rfl rfl hl.1 rfl (Nat.le_of_ble_eq_true rfl) ⟨Nat.le_of_ble_eq_true rfl, Nat.le_of_ble_eq_true rfl⟩ dX12_next_26) (fun r_55 σ_54 H locs hw h => ?_)
      refine j_bipush X dX12_next_29 (by decide) ?_
      obtain ⟨g_56, hwt, hwf⟩ := hw
      refine j_cmp_ne (tgt := 47) X g_56 ⟨by decide, by decide⟩ dX12_next_31 (by decide) (fun c_57 => ?_) (fun c_57 => ?_)
      · have hw := hwt c_57
        exact hK47 σ_54 _ _ _ hw h (lv_sub hl [0] rfl)
      · have hw := hwf c_57
        exact lb_X12_next_34 X ih hK47 σ_54 _ _ _ hw h (lv_sub hl [0] rfl)
theorem pd_X12_next : yX12_next.cls ≠ "java/lang/invoke/MethodHandle" ∧ yX12_next.cls ≠ "java/lang/invoke/VarHandle" ∧ (parseMethodDescriptor yX12_next.desc).map (fun d => d.parameters.length) = some 0 := by decide +kernel
set_option maxRecDepth 100000 in
set_option maxHeartbeats 4000000 in
theorem c_X12_next (l : Launch) (D : va_G) (ct : Nat → ClassId) (ad : Nat → Nat → Nat) (L : List (Nat × Nat)) (φ : Nat → Nat → Nat → Bool) (N0 : Nat) (σ : St) (Q : St → Prop) (hw : wp_X12_next σ Q) : Met l yX12_next (.code yX12_next cX12_next 2 none :: gw) ({ frames := 1, cells := 0, slots := 0, locals := 22 } : Room) (Pm D ct ad L φ N0 σ [.ref (ad 12 0)]) (Qv D ct ad L φ N0 Q) 0 0 (AA N0) := by
  refine m_of (by decide) (fun p e s m below meth c X hnm h => ?_)
  have hF := X.2.2.2.2.2.2.2.2.1
  have hl := lv_entry ([.ref (ad 12 0)]) (n := 2) (Nat.le_of_ble_eq_true rfl)
  rw [lg_entry_eq]
  generalize (lg_sl ([.ref (ad 12 0)]) ++ List.replicate (2 - (lg_sl ([.ref (ad 12 0)])).length) Slot.unset).toArray = ls at hl ⊢
  have hl : lv_has ls 2 [(0, .ref (ad 12 0))] := hl
  have h : Hs D ct ad L φ N0 s.heap σ s.heap [] := h
  unfold wp_X12_next at hw
  refine lv_aload_n X.1 X.2.1 dX12_next_0 rfl (lv_at hl 0 rfl) ?_
  refine lv_aload_n X.1 X.2.1 dX12_next_1 rfl (lv_at hl 0 rfl) ?_
  refine r_get (ci := 12) X inw_12 h (hF.1 12 rfl).1 rfl rfl 49 (by decide) kw_1687 rfl dX12_next_2 ?_
  refine r_put (ci := 12) X inw_12 tyX12 tyX12_ok nmX12 h (hF.1 12 rfl).1 rfl rfl 48 (by decide) kw_1686 rfl rfl rfl (Nat.le_of_ble_eq_true rfl) rfl rfl dX12_next_5 (fun H locs h => ?_)
  obtain ⟨σ_59, eσ_59⟩ : ∃ z : St, z = st σ 12 0 48 (σ 12 0 49) := ⟨_, rfl⟩
  rw [← eσ_59] at h
  have hw := hw σ_59 eσ_59
  exact hw.elim (fun n8 hw => lb_X12_next_8 X (lb_X12_next_47 X) n8 σ_59 _ _ _ hw h (lv_sub hl [0] rfl))
end
section
variable {p : Program} {l : Launch} {e : Env} {s : State} {m : MethodId} {args : Array Value} {below : List Frame} {meth : Method} {c : Code} {D : va_G} {ct : Nat → ClassId} {ad : Nat → Nat → Nat} {L : List (Nat × Nat)} {φ : Nat → Nat → Nat → Bool} {N0 : Nat}
variable {Q : Int → St → Prop}
set_option maxRecDepth 100000 in
set_option maxHeartbeats 4000000 in
theorem lb_X12_isWord_67 (X : Cx p s m meth c args cX12_isWord 4 (some .boolean) RX12 D ct L φ N0) {K32 : St → Nat → Int → Int → Prop} (hK32 : ∀ (σ : St) (j1 : Nat) (x2 : Int) (x3 : Int) (H : Heap) (locs : List Loc) (ls : Array Slot), K32 σ j1 x2 x3 → Hs D ct ad L φ N0 s.heap σ H locs → lv_has ls 4 [(0, .ref (ad 12 0)), (1, .ref (ct (2000 + j1))), (2, .int (iv x2)), (3, .int (iv x3))] → W p l e ({ frames := 4, cells := 0, slots := 0, locals := 85 } : Room) s m args below meth c H locs 0 0 (MQ below (Qi D ct ad L φ N0 Q) args s 0 0 (AA N0)) (F0 m 32 ls [])) (σ : St) (j1 : Nat) (x3 : Int) (y0 : Int) (H : Heap) (locs : List Loc) (ls : Array Slot) (hw : wp_X12_isWord_67 K32 Q σ j1 x3 y0) (h : Hs D ct ad L φ N0 s.heap σ H locs) (hl : lv_has ls 4 [(0, .ref (ad 12 0)), (1, .ref (ct (2000 + j1))), (3, .int (iv x3))]) : W p l e ({ frames := 4, cells := 0, slots := 0, locals := 85 } : Room) s m args below meth c H locs 0 0 (MQ below (Qi D ct ad L φ N0 Q) args s 0 0 (AA N0)) (F0 m 67 ls [.int (iv y0)]) := by
  have hF := X.2.2.2.2.2.2.2.2.1
  unfold wp_X12_isWord_67 at hw
  refine lv_istore_n (lv' := [(2, .int (iv y0)), (0, .ref (ad 12 0)), (1, .ref (ct (2000 + j1))), (3, .int (iv x3))]) X.1 X.2.1 dX12_isWord_67 rfl hl (by decide) rfl (fun ls hl => ?_)
  refine j_iinc (kk9 := 3) (lv' := [(3, .int (iv (x3 + 1))), (2, .int (iv y0)), (0, .ref (ad 12 0)), (1, .ref (ct (2000 + j1)))]) X dX12_isWord_68 hl rfl (by decide) rfl (fun ls hl => ?_)
  refine lv_goto (tgt := 32) X.1 X.2.1 dX12_isWord_71 (by decide) ?_
  exact hK32 σ j1 y0 (x3 + 1) _ _ _ hw h (lv_sub hl [2, 3, 1, 0] rfl)
set_option maxRecDepth 100000 in
set_option maxHeartbeats 4000000 in
theorem lb_X12_isWord_32 (X : Cx p s m meth c args cX12_isWord 4 (some .boolean) RX12 D ct L φ N0) : ∀ (n : Nat) (σ : St) (j1 : Nat) (x2 : Int) (x3 : Int) (H : Heap) (locs : List Loc) (ls : Array Slot), wp_X12_isWord_32 Q n σ j1 x2 x3 → Hs D ct ad L φ N0 s.heap σ H locs → lv_has ls 4 [(0, .ref (ad 12 0)), (1, .ref (ct (2000 + j1))), (2, .int (iv x2)), (3, .int (iv x3))] → W p l e ({ frames := 4, cells := 0, slots := 0, locals := 85 } : Room) s m args below meth c H locs 0 0 (MQ below (Qi D ct ad L φ N0 Q) args s 0 0 (AA N0)) (F0 m 32 ls []) := by
  have hF := X.2.2.2.2.2.2.2.2.1
  intro n
  induction n with
  | zero => intro σ j1 x2 x3 H locs ls hw; exact hw.elim
  | succ n ih =>
    intro σ j1 x2 x3 H locs ls hw h hl
    unfold wp_X12_isWord_32 at hw
    refine lv_iload_n X.1 X.2.1 dX12_isWord_32 rfl (lv_at hl 3 rfl) ?_
    refine lv_aload_n X.1 X.2.1 dX12_isWord_33 rfl (lv_at hl 1 rfl) ?_
    obtain ⟨g_1, hw⟩ := hw
    refine k_i h (r_VS (i := j1) (As := []) (rest := [.int (iv x3)]) X h (c_J0_length_8abf5 l D ct ad L φ N0 σ j1 _ hw) rfl rfl ⟨Nat.le_of_ble_eq_true rfl, Nat.le_of_ble_eq_true rfl⟩ kw_2087 kw_999 kw_1000 kw_133 kw_1001 ⟨rfl, pd_J0_length_8abf5⟩ g_1 rfl hl.1 rfl (Nat.le_of_ble_eq_true rfl) ⟨Nat.le_of_ble_eq_true rfl, Nat.le_of_ble_eq_true rfl⟩ dX12_isWord_34) (fun r_3 σ_2 H locs hw h => ?_)
    obtain ⟨g_4, g_5, hwt, hwf⟩ := hw
    refine j_cmp_ge (tgt := 74) X g_4 g_5 dX12_isWord_37 (by decide) (fun c_18 => ?_) (fun c_18 => ?_)
    · have hw := hwt c_18
      refine lv_iload_n X.1 X.2.1 dX12_isWord_74 rfl (lv_at hl 2 rfl) ?_
      obtain ⟨g_6, hw⟩ := hw
      exact k_ir X (nb_n g_6) h hw dX12_isWord_75
    · have hw := hwf c_18
      refine lv_iload_n X.1 X.2.1 dX12_isWord_40 rfl (lv_at hl 2 rfl) ?_
      obtain ⟨g_7, hwt, hwf⟩ := hw
      refine j_if_eq (tgt := 74) X g_7 dX12_isWord_41 (by decide) (fun c_17 => ?_) (fun c_17 => ?_)
      · have hw := hwt c_17
        refine lv_iload_n X.1 X.2.1 dX12_isWord_74 rfl (lv_at hl 2 rfl) ?_
        obtain ⟨g_8, hw⟩ := hw
        exact k_ir X (nb_n g_8) h hw dX12_isWord_75
      · have hw := hwf c_17
        refine lv_aload_n X.1 X.2.1 dX12_isWord_44 rfl (lv_at hl 0 rfl) ?_
        refine lv_aload_n X.1 X.2.1 dX12_isWord_45 rfl (lv_at hl 0 rfl) ?_
        refine r_get (ci := 12) X inw_12 h (hF.1 12 rfl).1 rfl rfl 48 (by decide) kw_1686 rfl dX12_isWord_46 ?_
        refine lv_iload_n X.1 X.2.1 dX12_isWord_49 rfl (lv_at hl 3 rfl) ?_
        refine j_iadd X dX12_isWord_50 ?_
        refine k_i h (r_V (C := RX12) (ci := 12) (As := [.int (iv ((σ_2 12 0 48) + x3))]) (rest := []) X h (c_X12_byteAt l D ct ad L φ N0 σ_2 ((σ_2 12 0 48) + x3) _ hw) rfl rfl ⟨Nat.le_of_ble_eq_true rfl, Nat.le_of_ble_eq_true rfl⟩ kw_2074 kw_2076 kw_74 kw_129 kw_2077 ⟨rfl, pd_X12_byteAt⟩ (hF.1 12 rfl).1 rfl rfl rfl hl.1 rfl (Nat.le_of_ble_eq_true rfl) ⟨Nat.le_of_ble_eq_true rfl, Nat.le_of_ble_eq_true rfl⟩ dX12_isWord_51) (fun r_10 σ_9 H locs hw h => ?_)
        refine lv_aload_n X.1 X.2.1 dX12_isWord_54 rfl (lv_at hl 1 rfl) ?_
        refine lv_iload_n X.1 X.2.1 dX12_isWord_55 rfl (lv_at hl 3 rfl) ?_
        obtain ⟨g_11, hw⟩ := hw
        refine k_i h (r_VS (i := j1) (As := [.int (iv x3)]) (rest := [.int (iv r_10)]) X h (c_J0_charAt_5068e l D ct ad L φ N0 σ_9 j1 x3 _ hw) rfl rfl ⟨Nat.le_of_ble_eq_true rfl, Nat.le_of_ble_eq_true rfl⟩ kw_2088 kw_1085 kw_1086 kw_133 kw_1087 ⟨rfl, pd_J0_charAt_5068e⟩ g_11 rfl hl.1 rfl (Nat.le_of_ble_eq_true rfl) ⟨Nat.le_of_ble_eq_true rfl, Nat.le_of_ble_eq_true rfl⟩ dX12_isWord_56) (fun r_13 σ_12 H locs hw h => ?_)
        obtain ⟨g_14, g_15, hwt, hwf⟩ := hw
        refine j_cmp_ne (tgt := 66) X g_14 g_15 dX12_isWord_59 (by decide) (fun c_16 => ?_) (fun c_16 => ?_)
        · have hw := hwt c_16
          refine j_iconst X dX12_isWord_66 ?_
          exact lb_X12_isWord_67 X ih σ_12 j1 x3 0 _ _ _ hw h (lv_sub hl [0, 1, 3] rfl)
        · have hw := hwf c_16
          refine j_iconst X dX12_isWord_62 ?_
          refine lv_goto (tgt := 67) X.1 X.2.1 dX12_isWord_63 (by decide) ?_
          exact lb_X12_isWord_67 X ih σ_12 j1 x3 1 _ _ _ hw h (lv_sub hl [0, 1, 3] rfl)
set_option maxRecDepth 100000 in
set_option maxHeartbeats 4000000 in
theorem lb_X12_isWord_29 (X : Cx p s m meth c args cX12_isWord 4 (some .boolean) RX12 D ct L φ N0) (σ : St) (j1 : Nat) (y0 : Int) (H : Heap) (locs : List Loc) (ls : Array Slot) (hw : wp_X12_isWord_29 Q σ j1 y0) (h : Hs D ct ad L φ N0 s.heap σ H locs) (hl : lv_has ls 4 [(0, .ref (ad 12 0)), (1, .ref (ct (2000 + j1)))]) : W p l e ({ frames := 4, cells := 0, slots := 0, locals := 85 } : Room) s m args below meth c H locs 0 0 (MQ below (Qi D ct ad L φ N0 Q) args s 0 0 (AA N0)) (F0 m 29 ls [.int (iv y0)]) := by
  have hF := X.2.2.2.2.2.2.2.2.1
  unfold wp_X12_isWord_29 at hw
  refine lv_istore_n (lv' := [(2, .int (iv y0)), (0, .ref (ad 12 0)), (1, .ref (ct (2000 + j1)))]) X.1 X.2.1 dX12_isWord_29 rfl hl (by decide) rfl (fun ls hl => ?_)
  refine j_iconst X dX12_isWord_30 ?_
  refine lv_istore_n (lv' := [(3, .int (iv 0)), (2, .int (iv y0)), (0, .ref (ad 12 0)), (1, .ref (ct (2000 + j1)))]) X.1 X.2.1 dX12_isWord_31 rfl hl (by decide) rfl (fun ls hl => ?_)
  exact hw.elim (fun n32 hw => lb_X12_isWord_32 X n32 σ j1 y0 0 _ _ _ hw h (lv_sub hl [2, 3, 1, 0] rfl))
set_option maxRecDepth 100000 in
set_option maxHeartbeats 4000000 in
theorem lb_X12_isWord_28 (X : Cx p s m meth c args cX12_isWord 4 (some .boolean) RX12 D ct L φ N0) (σ : St) (j1 : Nat) (H : Heap) (locs : List Loc) (ls : Array Slot) (hw : wp_X12_isWord_28 Q σ j1) (h : Hs D ct ad L φ N0 s.heap σ H locs) (hl : lv_has ls 4 [(0, .ref (ad 12 0)), (1, .ref (ct (2000 + j1)))]) : W p l e ({ frames := 4, cells := 0, slots := 0, locals := 85 } : Room) s m args below meth c H locs 0 0 (MQ below (Qi D ct ad L φ N0 Q) args s 0 0 (AA N0)) (F0 m 28 ls []) := by
  have hF := X.2.2.2.2.2.2.2.2.1
  unfold wp_X12_isWord_28 at hw
  refine j_iconst X dX12_isWord_28 ?_
  exact lb_X12_isWord_29 X σ j1 0 _ _ _ hw h (lv_sub hl [0, 1] rfl)
theorem pd_X12_isWord : yX12_isWord.cls ≠ "java/lang/invoke/MethodHandle" ∧ yX12_isWord.cls ≠ "java/lang/invoke/VarHandle" ∧ (parseMethodDescriptor yX12_isWord.desc).map (fun d => d.parameters.length) = some 1 := by decide +kernel
set_option maxRecDepth 100000 in
set_option maxHeartbeats 4000000 in
theorem c_X12_isWord (l : Launch) (D : va_G) (ct : Nat → ClassId) (ad : Nat → Nat → Nat) (L : List (Nat × Nat)) (φ : Nat → Nat → Nat → Bool) (N0 : Nat) (σ : St) (j1 : Nat) (Q : Int → St → Prop) (hw : wp_X12_isWord σ j1 Q) : Met l yX12_isWord (.code yX12_isWord cX12_isWord 4 (some .boolean) :: gw) ({ frames := 4, cells := 0, slots := 0, locals := 85 } : Room) (Pm D ct ad L φ N0 σ [.ref (ad 12 0), .ref (ct (2000 + j1))]) (Qi D ct ad L φ N0 Q) 0 0 (AA N0) := by
  refine m_of (by decide) (fun p e s m below meth c X hnm h => ?_)
  have hF := X.2.2.2.2.2.2.2.2.1
  have hl := lv_entry ([.ref (ad 12 0), .ref (ct (2000 + j1))]) (n := 4) (Nat.le_of_ble_eq_true rfl)
  rw [lg_entry_eq]
  generalize (lg_sl ([.ref (ad 12 0), .ref (ct (2000 + j1))]) ++ List.replicate (4 - (lg_sl ([.ref (ad 12 0), .ref (ct (2000 + j1))])).length) Slot.unset).toArray = ls at hl ⊢
  have hl : lv_has ls 4 [(0, .ref (ad 12 0)), (1, .ref (ct (2000 + j1)))] := hl
  have h : Hs D ct ad L φ N0 s.heap σ s.heap [] := h
  unfold wp_X12_isWord at hw
  refine lv_aload_n X.1 X.2.1 dX12_isWord_0 rfl (lv_at hl 0 rfl) ?_
  refine r_get (ci := 12) X inw_12 h (hF.1 12 rfl).1 rfl rfl 51 (by decide) kw_1689 rfl dX12_isWord_1 ?_
  refine j_iconst X dX12_isWord_4 ?_
  obtain ⟨g_19, hwt, hwf⟩ := hw
  refine j_cmp_ne (tgt := 28) X g_19 ⟨by decide, by decide⟩ dX12_isWord_5 (by decide) (fun c_26 => ?_) (fun c_26 => ?_)
  · have hw := hwt c_26
    exact lb_X12_isWord_28 X σ j1 _ _ _ hw h (lv_sub hl [0, 1] rfl)
  · have hw := hwf c_26
    refine lv_aload_n X.1 X.2.1 dX12_isWord_8 rfl (lv_at hl 0 rfl) ?_
    refine r_get (ci := 12) X inw_12 h (hF.1 12 rfl).1 rfl rfl 49 (by decide) kw_1687 rfl dX12_isWord_9 ?_
    refine lv_aload_n X.1 X.2.1 dX12_isWord_12 rfl (lv_at hl 0 rfl) ?_
    refine r_get (ci := 12) X inw_12 h (hF.1 12 rfl).1 rfl rfl 48 (by decide) kw_1686 rfl dX12_isWord_13 ?_
    refine j_isub X dX12_isWord_16 ?_
    refine lv_aload_n X.1 X.2.1 dX12_isWord_17 rfl (lv_at hl 1 rfl) ?_
    obtain ⟨g_20, hw⟩ := hw
    refine k_i h (r_VS (i := j1) (As := []) (rest := [.int (iv ((σ 12 0 49) - (σ 12 0 48)))]) X h (c_J0_length_8abf5 l D ct ad L φ N0 σ j1 _ hw) rfl rfl ⟨Nat.le_of_ble_eq_true rfl, Nat.le_of_ble_eq_true rfl⟩ kw_2087 kw_999 kw_1000 kw_133 kw_1001 ⟨rfl, pd_J0_length_8abf5⟩ g_20 rfl hl.1 rfl (Nat.le_of_ble_eq_true rfl) ⟨Nat.le_of_ble_eq_true rfl, Nat.le_of_ble_eq_true rfl⟩ dX12_isWord_18) (fun r_22 σ_21 H locs hw h => ?_)
    obtain ⟨g_23, g_24, hwt, hwf⟩ := hw
    refine j_cmp_ne (tgt := 28) X g_23 g_24 dX12_isWord_21 (by decide) (fun c_25 => ?_) (fun c_25 => ?_)
    · have hw := hwt c_25
      exact lb_X12_isWord_28 X σ_21 j1 _ _ _ hw h (lv_sub hl [0, 1] rfl)
    · have hw := hwf c_25
      refine j_iconst X dX12_isWord_24 ?_
      refine lv_goto (tgt := 29) X.1 X.2.1 dX12_isWord_25 (by decide) ?_
      exact lb_X12_isWord_29 X σ_21 j1 1 _ _ _ hw h (lv_sub hl [0, 1] rfl)
end
section
variable {p : Program} {l : Launch} {e : Env} {s : State} {m : MethodId} {args : Array Value} {below : List Frame} {meth : Method} {c : Code} {D : va_G} {ct : Nat → ClassId} {ad : Nat → Nat → Nat} {L : List (Nat × Nat)} {φ : Nat → Nat → Nat → Bool} {N0 : Nat}
variable {Q : Int → St → Prop}
theorem pd_X12_signHere : yX12_signHere.cls ≠ "java/lang/invoke/MethodHandle" ∧ yX12_signHere.cls ≠ "java/lang/invoke/VarHandle" ∧ (parseMethodDescriptor yX12_signHere.desc).map (fun d => d.parameters.length) = some 0 := by decide +kernel
set_option maxRecDepth 100000 in
set_option maxHeartbeats 4000000 in
theorem c_X12_signHere (l : Launch) (D : va_G) (ct : Nat → ClassId) (ad : Nat → Nat → Nat) (L : List (Nat × Nat)) (φ : Nat → Nat → Nat → Bool) (N0 : Nat) (σ : St) (Q : Int → St → Prop) (hw : wp_X12_signHere σ Q) : Met l yX12_signHere (.code yX12_signHere cX12_signHere 2 (some .int) :: gw) ({ frames := 1, cells := 0, slots := 0, locals := 21 } : Room) (Pm D ct ad L φ N0 σ [.ref (ad 12 0)]) (Qi D ct ad L φ N0 Q) 0 0 (AA N0) := by
  refine m_of (by decide) (fun p e s m below meth c X hnm h => ?_)
  have hF := X.2.2.2.2.2.2.2.2.1
  have hl := lv_entry ([.ref (ad 12 0)]) (n := 2) (Nat.le_of_ble_eq_true rfl)
  rw [lg_entry_eq]
  generalize (lg_sl ([.ref (ad 12 0)]) ++ List.replicate (2 - (lg_sl ([.ref (ad 12 0)])).length) Slot.unset).toArray = ls at hl ⊢
  have hl : lv_has ls 2 [(0, .ref (ad 12 0))] := hl
  have h : Hs D ct ad L φ N0 s.heap σ s.heap [] := h
  unfold wp_X12_signHere at hw
  refine lv_aload_n X.1 X.2.1 dX12_signHere_0 rfl (lv_at hl 0 rfl) ?_
  refine r_get (ci := 12) X inw_12 h (hF.1 12 rfl).1 rfl rfl 51 (by decide) kw_1689 rfl dX12_signHere_1 ?_
  refine j_iconst X dX12_signHere_4 ?_
  obtain ⟨g_1, hwt, hwf⟩ := hw
  refine j_cmp_eq (tgt := 10) X g_1 ⟨by decide, by decide⟩ dX12_signHere_5 (by decide) (fun c_10 => ?_) (fun c_10 => ?_)
  · have hw := hwt c_10
    refine lv_aload_n X.1 X.2.1 dX12_signHere_10 rfl (lv_at hl 0 rfl) ?_
    refine lv_aload_n X.1 X.2.1 dX12_signHere_11 rfl (lv_at hl 0 rfl) ?_
    refine r_get (ci := 12) X inw_12 h (hF.1 12 rfl).1 rfl rfl 48 (by decide) kw_1686 rfl dX12_signHere_12 ?_
    refine k_i h (r_V (C := RX12) (ci := 12) (As := [.int (iv (σ 12 0 48))]) (rest := []) X h (c_X12_byteAt l D ct ad L φ N0 σ (σ 12 0 48) _ hw) rfl rfl ⟨Nat.le_of_ble_eq_true rfl, Nat.le_of_ble_eq_true rfl⟩ kw_2074 kw_2076 kw_74 kw_129 kw_2077 ⟨rfl, pd_X12_byteAt⟩ (hF.1 12 rfl).1 rfl rfl rfl hl.1 rfl (Nat.le_of_ble_eq_true rfl) ⟨Nat.le_of_ble_eq_true rfl, Nat.le_of_ble_eq_true rfl⟩ dX12_signHere_15) (fun r_3 σ_2 H locs hw h => ?_)
    refine lv_istore_n (lv' := [(1, .int (iv r_3)), (0, .ref (ad 12 0))]) X.1 X.2.1 dX12_signHere_18 rfl hl (by decide) rfl (fun ls hl => ?_)
    refine lv_iload_n X.1 X.2.1 dX12_signHere_19 rfl (lv_at hl 0 rfl) ?_
    refine j_bipush X dX12_signHere_20 (by decide) ?_
    obtain ⟨g_4, hwt, hwf⟩ := hw
    refine j_cmp_ne (tgt := 29) X g_4 ⟨by decide, by decide⟩ dX12_signHere_22 (by decide) (fun c_9 => ?_) (fun c_9 => ?_)
    · have hw := hwt c_9
      refine lv_iload_n X.1 X.2.1 dX12_signHere_29 rfl (lv_at hl 0 rfl) ?_
      refine j_bipush X dX12_signHere_30 (by decide) ?_
      obtain ⟨g_5, hwt, hwf⟩ := hw
      refine j_cmp_ne (tgt := 39) X g_5 ⟨by decide, by decide⟩ dX12_signHere_32 (by decide) (fun c_8 => ?_) (fun c_8 => ?_)
      · have hw := hwt c_8
        refine lv_iload_n X.1 X.2.1 dX12_signHere_39 rfl (lv_at hl 0 rfl) ?_
        refine j_bipush X dX12_signHere_40 (by decide) ?_
        obtain ⟨g_6, hwt, hwf⟩ := hw
        refine j_cmp_ne (tgt := 49) X g_6 ⟨by decide, by decide⟩ dX12_signHere_42 (by decide) (fun c_7 => ?_) (fun c_7 => ?_)
        · have hw := hwt c_7
          refine j_iconst X dX12_signHere_49 ?_
          exact k_ir X rfl h hw dX12_signHere_50
        · have hw := hwf c_7
          refine j_iconst X dX12_signHere_45 ?_
          refine lv_goto (tgt := 50) X.1 X.2.1 dX12_signHere_46 (by decide) ?_
          exact k_ir X rfl h hw dX12_signHere_50
      · have hw := hwf c_8
        refine j_iconst X dX12_signHere_35 ?_
        refine lv_goto (tgt := 50) X.1 X.2.1 dX12_signHere_36 (by decide) ?_
        exact k_ir X rfl h hw dX12_signHere_50
    · have hw := hwf c_9
      refine j_iconst X dX12_signHere_25 ?_
      refine lv_goto (tgt := 50) X.1 X.2.1 dX12_signHere_26 (by decide) ?_
      exact k_ir X rfl h hw dX12_signHere_50
  · have hw := hwf c_10
    refine j_iconst X dX12_signHere_8 ?_
    exact k_ir X rfl h hw dX12_signHere_9
end
section
variable {p : Program} {l : Launch} {e : Env} {s : State} {m : MethodId} {args : Array Value} {below : List Frame} {meth : Method} {c : Code} {D : va_G} {ct : Nat → ClassId} {ad : Nat → Nat → Nat} {L : List (Nat × Nat)} {φ : Nat → Nat → Nat → Bool} {N0 : Nat}
variable {Q : Int → St → Prop}
theorem pd_X12_wrong : yX12_wrong.cls ≠ "java/lang/invoke/MethodHandle" ∧ yX12_wrong.cls ≠ "java/lang/invoke/VarHandle" ∧ (parseMethodDescriptor yX12_wrong.desc).map (fun d => d.parameters.length) = some 1 := by decide +kernel
set_option maxRecDepth 100000 in
set_option maxHeartbeats 4000000 in
theorem c_X12_wrong (l : Launch) (D : va_G) (ct : Nat → ClassId) (ad : Nat → Nat → Nat) (L : List (Nat × Nat)) (φ : Nat → Nat → Nat → Bool) (N0 : Nat) (σ : St) (x1 : Int) (Q : Int → St → Prop) (hw : wp_X12_wrong σ x1 Q) : Met l yX12_wrong (.code yX12_wrong cX12_wrong 2 (some .boolean) :: gw) ({ frames := 0, cells := 0, slots := 0, locals := 0 } : Room) (Pm D ct ad L φ N0 σ [.ref (ad 12 0), .int (iv x1)]) (Qi D ct ad L φ N0 Q) 0 0 (AA N0) := by
  refine m_of (by decide) (fun p e s m below meth c X hnm h => ?_)
  have hF := X.2.2.2.2.2.2.2.2.1
  have hl := lv_entry ([.ref (ad 12 0), .int (iv x1)]) (n := 2) (Nat.le_of_ble_eq_true rfl)
  rw [lg_entry_eq]
  generalize (lg_sl ([.ref (ad 12 0), .int (iv x1)]) ++ List.replicate (2 - (lg_sl ([.ref (ad 12 0), .int (iv x1)])).length) Slot.unset).toArray = ls at hl ⊢
  have hl : lv_has ls 2 [(0, .ref (ad 12 0)), (1, .int (iv x1))] := hl
  have h : Hs D ct ad L φ N0 s.heap σ s.heap [] := h
  unfold wp_X12_wrong at hw
  refine lv_aload_n X.1 X.2.1 dX12_wrong_0 rfl (lv_at hl 0 rfl) ?_
  refine r_get (ci := 12) X inw_12 h (hF.1 12 rfl).1 rfl rfl 45 (by decide) kw_1683 rfl dX12_wrong_1 ?_
  obtain ⟨g_1, hwt, hwf⟩ := hw
  refine j_if_ne (tgt := 20) X g_1 dX12_wrong_4 (by decide) (fun c_4 => ?_) (fun c_4 => ?_)
  · have hw := hwt c_4
    refine j_iconst X dX12_wrong_20 ?_
    exact k_ir X rfl h hw dX12_wrong_21
  · have hw := hwf c_4
    refine lv_aload_n X.1 X.2.1 dX12_wrong_7 rfl (lv_at hl 0 rfl) ?_
    refine lv_iload_n X.1 X.2.1 dX12_wrong_8 rfl (lv_at hl 1 rfl) ?_
    refine r_put (ci := 12) X inw_12 tyX12 tyX12_ok nmX12 h (hF.1 12 rfl).1 rfl rfl 45 (by decide) kw_1683 rfl rfl rfl (Nat.le_of_ble_eq_true rfl) rfl rfl dX12_wrong_9 (fun H locs h => ?_)
    obtain ⟨σ_2, eσ_2⟩ : ∃ z : St, z = st σ 12 0 45 x1 := ⟨_, rfl⟩
    rw [← eσ_2] at h
    have hw := hw σ_2 eσ_2
    refine lv_aload_n X.1 X.2.1 dX12_wrong_12 rfl (lv_at hl 0 rfl) ?_
    refine lv_aload_n X.1 X.2.1 dX12_wrong_13 rfl (lv_at hl 0 rfl) ?_
    refine r_get (ci := 12) X inw_12 h (hF.1 12 rfl).1 rfl rfl 48 (by decide) kw_1686 rfl dX12_wrong_14 ?_
    refine r_put (ci := 12) X inw_12 tyX12 tyX12_ok nmX12 h (hF.1 12 rfl).1 rfl rfl 46 (by decide) kw_1684 rfl rfl rfl (Nat.le_of_ble_eq_true rfl) rfl rfl dX12_wrong_17 (fun H locs h => ?_)
    obtain ⟨σ_3, eσ_3⟩ : ∃ z : St, z = st σ_2 12 0 46 (σ_2 12 0 48) := ⟨_, rfl⟩
    rw [← eσ_3] at h
    have hw := hw σ_3 eσ_3
    refine j_iconst X dX12_wrong_20 ?_
    exact k_ir X rfl h hw dX12_wrong_21
end
section
variable {p : Program} {l : Launch} {e : Env} {s : State} {m : MethodId} {args : Array Value} {below : List Frame} {meth : Method} {c : Code} {D : va_G} {ct : Nat → ClassId} {ad : Nat → Nat → Nat} {L : List (Nat × Nat)} {φ : Nat → Nat → Nat → Bool} {N0 : Nat}
variable {Q : Nat → St → Prop}
theorem pd_X12_factWord : yX12_factWord.cls ≠ "java/lang/invoke/MethodHandle" ∧ yX12_factWord.cls ≠ "java/lang/invoke/VarHandle" ∧ (parseMethodDescriptor yX12_factWord.desc).map (fun d => d.parameters.length) = some 1 := by decide +kernel
set_option maxRecDepth 100000 in
set_option maxHeartbeats 4000000 in
theorem c_X12_factWord (l : Launch) (D : va_G) (ct : Nat → ClassId) (ad : Nat → Nat → Nat) (L : List (Nat × Nat)) (φ : Nat → Nat → Nat → Bool) (N0 : Nat) (σ : St) (x0 : Int) (Q : Nat → St → Prop) (hw : wp_X12_factWord σ x0 Q) : Met l yX12_factWord (.code yX12_factWord cX12_factWord 1 (some (.object "java/lang/String")) :: gw) ({ frames := 0, cells := 0, slots := 0, locals := 0 } : Room) (Pm D ct ad L φ N0 σ [.int (iv x0)]) (Qs D ct ad L φ N0 Q) 0 0 (AA N0) := by
  refine m_of (by decide) (fun p e s m below meth c X hnm h => ?_)
  have hF := X.2.2.2.2.2.2.2.2.1
  have hl := lv_entry ([.int (iv x0)]) (n := 1) (Nat.le_of_ble_eq_true rfl)
  rw [lg_entry_eq]
  generalize (lg_sl ([.int (iv x0)]) ++ List.replicate (1 - (lg_sl ([.int (iv x0)])).length) Slot.unset).toArray = ls at hl ⊢
  have hl : lv_has ls 1 [(0, .int (iv x0))] := hl
  have h : Hs D ct ad L φ N0 s.heap σ s.heap [] := h
  unfold wp_X12_factWord at hw
  refine lv_iload_n X.1 X.2.1 dX12_factWord_0 rfl (lv_at hl 0 rfl) ?_
  obtain ⟨g_1, hw0, hw1, hw2, hw3, hw4, hw5, hw6, hw7, hw8, hw9, hw10, hw11, hw12⟩ := hw
  by_cases c_2 : x0 = 0
  · have hw := hw0 c_2
    refine j_tin (v := 0) (tgt := 64) X g_1 c_2 dX12_factWord_1 (by decide) (by decide) rfl (by decide) ?_
    refine r_ldcwS X X.2.2.2.2.2.2.2.1.2.2.2.2.2.2.2.2.2.2.2.2.2.2.1 dX12_factWord_64 ?_
    exact k_sr X h hw dX12_factWord_67
  by_cases c_3 : x0 = 1
  · have hw := hw1 c_3
    refine j_tin (v := 1) (tgt := 68) X g_1 c_3 dX12_factWord_1 (by decide) (by decide) rfl (by decide) ?_
    refine r_ldcwS X X.2.2.2.2.2.2.2.1.2.2.2.2.2.2.2.2.2.2.2.2.2.2.2.1 dX12_factWord_68 ?_
    exact k_sr X h hw dX12_factWord_71
  by_cases c_4 : x0 = 2
  · have hw := hw2 c_4
    refine j_tin (v := 2) (tgt := 72) X g_1 c_4 dX12_factWord_1 (by decide) (by decide) rfl (by decide) ?_
    refine r_ldcwS X X.2.2.2.2.2.2.2.1.2.2.2.2.2.2.2.2.2.2.2.2.2.2.2.2.1 dX12_factWord_72 ?_
    exact k_sr X h hw dX12_factWord_75
  by_cases c_5 : x0 = 3
  · have hw := hw3 c_5
    refine j_tin (v := 3) (tgt := 76) X g_1 c_5 dX12_factWord_1 (by decide) (by decide) rfl (by decide) ?_
    refine r_ldcwS X X.2.2.2.2.2.2.2.1.2.2.2.2.2.2.2.2.2.2.2.2.2.2.2.2.2.1 dX12_factWord_76 ?_
    exact k_sr X h hw dX12_factWord_79
  by_cases c_6 : x0 = 4
  · have hw := hw4 c_6
    refine j_tin (v := 4) (tgt := 80) X g_1 c_6 dX12_factWord_1 (by decide) (by decide) rfl (by decide) ?_
    refine r_ldcwS X X.2.2.2.2.2.2.2.1.2.2.2.2.2.2.2.2.2.2.2.2.2.2.2.2.2.2.1 dX12_factWord_80 ?_
    exact k_sr X h hw dX12_factWord_83
  by_cases c_7 : x0 = 5
  · have hw := hw5 c_7
    refine j_tin (v := 5) (tgt := 84) X g_1 c_7 dX12_factWord_1 (by decide) (by decide) rfl (by decide) ?_
    refine r_ldcwS X X.2.2.2.2.2.2.2.1.2.2.2.2.2.2.2.2.2.2.2.2.2.2.2.2.2.2.2.1 dX12_factWord_84 ?_
    exact k_sr X h hw dX12_factWord_87
  by_cases c_8 : x0 = 6
  · have hw := hw6 c_8
    refine j_tin (v := 6) (tgt := 88) X g_1 c_8 dX12_factWord_1 (by decide) (by decide) rfl (by decide) ?_
    refine r_ldcwS X X.2.2.2.2.2.2.2.1.2.2.2.2.2.2.2.2.2.2.2.2.2.2.2.2.2.2.2.2.1 dX12_factWord_88 ?_
    exact k_sr X h hw dX12_factWord_91
  by_cases c_9 : x0 = 7
  · have hw := hw7 c_9
    refine j_tin (v := 7) (tgt := 92) X g_1 c_9 dX12_factWord_1 (by decide) (by decide) rfl (by decide) ?_
    refine r_ldcwS X X.2.2.2.2.2.2.2.1.2.2.2.2.2.2.2.2.2.2.2.2.2.2.2.2.2.2.2.2.2.1 dX12_factWord_92 ?_
    exact k_sr X h hw dX12_factWord_95
  by_cases c_10 : x0 = 8
  · have hw := hw8 c_10
    refine j_tin (v := 8) (tgt := 96) X g_1 c_10 dX12_factWord_1 (by decide) (by decide) rfl (by decide) ?_
    refine r_ldcwS X X.2.2.2.2.2.2.2.1.2.2.2.2.2.2.2.2.2.2.2.2.2.2.2.2.2.2.2.2.2.2.1 dX12_factWord_96 ?_
    exact k_sr X h hw dX12_factWord_99
  by_cases c_11 : x0 = 9
  · have hw := hw9 c_11
    refine j_tin (v := 9) (tgt := 100) X g_1 c_11 dX12_factWord_1 (by decide) (by decide) rfl (by decide) ?_
    refine r_ldcwS X X.2.2.2.2.2.2.2.1.2.2.2.2.2.2.2.2.2.2.2.2.2.2.2.2.2.2.2.2.2.2.2.1 dX12_factWord_100 ?_
    exact k_sr X h hw dX12_factWord_103
  by_cases c_12 : x0 = 10
  · have hw := hw10 c_12
    refine j_tin (v := 10) (tgt := 104) X g_1 c_12 dX12_factWord_1 (by decide) (by decide) rfl (by decide) ?_
    refine r_ldcwS X X.2.2.2.2.2.2.2.1.2.2.2.2.2.2.2.2.2.2.2.2.2.2.2.2.2.2.2.2.2.2.2.2.1 dX12_factWord_104 ?_
    exact k_sr X h hw dX12_factWord_107
  by_cases c_13 : x0 = 11
  · have hw := hw11 c_13
    refine j_tin (v := 11) (tgt := 108) X g_1 c_13 dX12_factWord_1 (by decide) (by decide) rfl (by decide) ?_
    refine r_ldcwS X X.2.2.2.2.2.2.2.1.2.2.2.2.2.2.2.2.2.2.2.2.2.2.2.2.2.2.2.2.2.2.2.2.2.1 dX12_factWord_108 ?_
    exact k_sr X h hw dX12_factWord_111
  have c_14 : x0 < 0 ∨ 11 < x0 := by omega
  have hw := hw12 c_14
  refine j_tout (tgt := 112) X g_1 c_14 dX12_factWord_1 (by decide) ?_
  refine r_ldcwS X X.2.2.2.2.2.2.2.1.2.2.2.2.2.2.2.2.2.2.2.2.2.2.2.2.2.2.2.2.2.2.2.2.2.2.1 dX12_factWord_112 ?_
  exact k_sr X h hw dX12_factWord_115
end
section
variable {p : Program} {l : Launch} {e : Env} {s : State} {m : MethodId} {args : Array Value} {below : List Frame} {meth : Method} {c : Code} {D : va_G} {ct : Nat → ClassId} {ad : Nat → Nat → Nat} {L : List (Nat × Nat)} {φ : Nat → Nat → Nat → Bool} {N0 : Nat}
variable {Q : Int → St → Prop}
set_option maxRecDepth 100000 in
set_option maxHeartbeats 4000000 in
theorem lb_X12_factHere_2 (X : Cx p s m meth c args cX12_factHere 2 (some .int) RX12 D ct L φ N0) : ∀ (n : Nat) (σ : St) (x1 : Int) (H : Heap) (locs : List Loc) (ls : Array Slot), wp_X12_factHere_2 Q n σ x1 → Hs D ct ad L φ N0 s.heap σ H locs → lv_has ls 2 [(0, .ref (ad 12 0)), (1, .int (iv x1))] → W p l e ({ frames := 5, cells := 0, slots := 0, locals := 108 } : Room) s m args below meth c H locs 0 0 (MQ below (Qi D ct ad L φ N0 Q) args s 0 0 (AA N0)) (F0 m 2 ls []) := by
  have hF := X.2.2.2.2.2.2.2.2.1
  intro n
  induction n with
  | zero => intro σ x1 H locs ls hw; exact hw.elim
  | succ n ih =>
    intro σ x1 H locs ls hw h hl
    unfold wp_X12_factHere_2 at hw
    refine lv_iload_n X.1 X.2.1 dX12_factHere_2 rfl (lv_at hl 1 rfl) ?_
    refine j_bipush X dX12_factHere_3 (by decide) ?_
    obtain ⟨g_1, hwt, hwf⟩ := hw
    refine j_cmp_ge (tgt := 27) X g_1 ⟨by decide, by decide⟩ dX12_factHere_5 (by decide) (fun c_8 => ?_) (fun c_8 => ?_)
    · have hw := hwt c_8
      refine j_iconst X dX12_factHere_27 ?_
      exact k_ir X rfl h hw dX12_factHere_28
    · have hw := hwf c_8
      refine lv_aload_n X.1 X.2.1 dX12_factHere_8 rfl (lv_at hl 0 rfl) ?_
      refine lv_iload_n X.1 X.2.1 dX12_factHere_9 rfl (lv_at hl 1 rfl) ?_
      refine k_s h (r_S (As := [.int (iv x1)]) (rest := [.ref (ad 12 0)]) X h (c_X12_factWord l D ct ad L φ N0 σ x1 _ hw) rfl rfl ⟨Nat.le_of_ble_eq_true rfl, Nat.le_of_ble_eq_true rfl⟩ kw_2109 kw_2110 kw_129 kw_2111 pd_X12_factWord rfl hl.1 rfl (Nat.le_of_ble_eq_true rfl) ⟨Nat.le_of_ble_eq_true rfl, Nat.le_of_ble_eq_true rfl⟩ dX12_factHere_10) (fun j_3 σ_2 H locs hw h => ?_)
      refine k_i h (r_V (C := RX12) (ci := 12) (As := [.ref (ct (2000 + j_3))]) (rest := []) X h (c_X12_isWord l D ct ad L φ N0 σ_2 j_3 _ hw) rfl rfl ⟨Nat.le_of_ble_eq_true rfl, Nat.le_of_ble_eq_true rfl⟩ kw_2083 kw_2085 kw_76 kw_129 kw_2086 ⟨rfl, pd_X12_isWord⟩ (hF.1 12 rfl).1 rfl rfl rfl hl.1 rfl (Nat.le_of_ble_eq_true rfl) ⟨Nat.le_of_ble_eq_true rfl, Nat.le_of_ble_eq_true rfl⟩ dX12_factHere_13) (fun r_5 σ_4 H locs hw h => ?_)
      obtain ⟨g_6, hwt, hwf⟩ := hw
      refine j_if_eq (tgt := 21) X g_6 dX12_factHere_16 (by decide) (fun c_7 => ?_) (fun c_7 => ?_)
      · have hw := hwt c_7
        refine j_iinc (kk9 := 1) (lv' := [(1, .int (iv (x1 + 1))), (0, .ref (ad 12 0))]) X dX12_factHere_21 hl rfl (by decide) rfl (fun ls hl => ?_)
        refine lv_goto (tgt := 2) X.1 X.2.1 dX12_factHere_24 (by decide) ?_
        exact ih σ_4 (x1 + 1) _ _ _ hw h (lv_sub hl [1, 0] rfl)
      · have hw := hwf c_7
        refine lv_iload_n X.1 X.2.1 dX12_factHere_19 rfl (lv_at hl 1 rfl) ?_
        exact k_ir X rfl h hw dX12_factHere_20
theorem pd_X12_factHere : yX12_factHere.cls ≠ "java/lang/invoke/MethodHandle" ∧ yX12_factHere.cls ≠ "java/lang/invoke/VarHandle" ∧ (parseMethodDescriptor yX12_factHere.desc).map (fun d => d.parameters.length) = some 0 := by decide +kernel
set_option maxRecDepth 100000 in
set_option maxHeartbeats 4000000 in
theorem c_X12_factHere (l : Launch) (D : va_G) (ct : Nat → ClassId) (ad : Nat → Nat → Nat) (L : List (Nat × Nat)) (φ : Nat → Nat → Nat → Bool) (N0 : Nat) (σ : St) (Q : Int → St → Prop) (hw : wp_X12_factHere σ Q) : Met l yX12_factHere (.code yX12_factHere cX12_factHere 2 (some .int) :: gw) ({ frames := 5, cells := 0, slots := 0, locals := 108 } : Room) (Pm D ct ad L φ N0 σ [.ref (ad 12 0)]) (Qi D ct ad L φ N0 Q) 0 0 (AA N0) := by
  refine m_of (by decide) (fun p e s m below meth c X hnm h => ?_)
  have hF := X.2.2.2.2.2.2.2.2.1
  have hl := lv_entry ([.ref (ad 12 0)]) (n := 2) (Nat.le_of_ble_eq_true rfl)
  rw [lg_entry_eq]
  generalize (lg_sl ([.ref (ad 12 0)]) ++ List.replicate (2 - (lg_sl ([.ref (ad 12 0)])).length) Slot.unset).toArray = ls at hl ⊢
  have hl : lv_has ls 2 [(0, .ref (ad 12 0))] := hl
  have h : Hs D ct ad L φ N0 s.heap σ s.heap [] := h
  unfold wp_X12_factHere at hw
  refine j_iconst X dX12_factHere_0 ?_
  refine lv_istore_n (lv' := [(1, .int (iv 0)), (0, .ref (ad 12 0))]) X.1 X.2.1 dX12_factHere_1 rfl hl (by decide) rfl (fun ls hl => ?_)
  exact hw.elim (fun n2 hw => lb_X12_factHere_2 X n2 σ 0 _ _ _ hw h (lv_sub hl [1, 0] rfl))
end
section
variable {p : Program} {l : Launch} {e : Env} {s : State} {m : MethodId} {args : Array Value} {below : List Frame} {meth : Method} {c : Code} {D : va_G} {ct : Nat → ClassId} {ad : Nat → Nat → Nat} {L : List (Nat × Nat)} {φ : Nat → Nat → Nat → Bool} {N0 : Nat}
variable {Q : Int → St → Prop}
set_option maxRecDepth 100000 in
set_option maxHeartbeats 4000000 in
theorem lb_X12_takesCond_208 (X : Cx p s m meth c args cX12_takesCond 4 (some .boolean) RX12 D ct L φ N0) {K9 : St → Int → Int → Prop} {K31 : St → Prop} {K47 : St → Prop} {K110 : St → Prop} {K144 : St → Prop} {K162 : St → Prop} (hK9 : ∀ (σ : St) (x1 : Int) (x2 : Int) (H : Heap) (locs : List Loc) (ls : Array Slot), K9 σ x1 x2 → Hs D ct ad L φ N0 s.heap σ H locs → lv_has ls 4 [(0, .ref (ad 12 0)), (1, .int (iv x1)), (2, .int (iv x2))] → W p l e ({ frames := 6, cells := 0, slots := 0, locals := 129 } : Room) s m args below meth c H locs 0 0 (MQ below (Qi D ct ad L φ N0 Q) args s 0 0 (AA N0)) (F0 m 9 ls [])) (hK31 : ∀ (σ : St) (H : Heap) (locs : List Loc) (ls : Array Slot), K31 σ → Hs D ct ad L φ N0 s.heap σ H locs → lv_has ls 4 [(0, .ref (ad 12 0))] → W p l e ({ frames := 6, cells := 0, slots := 0, locals := 129 } : Room) s m args below meth c H locs 0 0 (MQ below (Qi D ct ad L φ N0 Q) args s 0 0 (AA N0)) (F0 m 31 ls [])) (hK47 : ∀ (σ : St) (H : Heap) (locs : List Loc) (ls : Array Slot), K47 σ → Hs D ct ad L φ N0 s.heap σ H locs → lv_has ls 4 [(0, .ref (ad 12 0))] → W p l e ({ frames := 6, cells := 0, slots := 0, locals := 129 } : Room) s m args below meth c H locs 0 0 (MQ below (Qi D ct ad L φ N0 Q) args s 0 0 (AA N0)) (F0 m 47 ls [])) (hK110 : ∀ (σ : St) (H : Heap) (locs : List Loc) (ls : Array Slot), K110 σ → Hs D ct ad L φ N0 s.heap σ H locs → lv_has ls 4 [(0, .ref (ad 12 0))] → W p l e ({ frames := 6, cells := 0, slots := 0, locals := 129 } : Room) s m args below meth c H locs 0 0 (MQ below (Qi D ct ad L φ N0 Q) args s 0 0 (AA N0)) (F0 m 110 ls [])) (hK144 : ∀ (σ : St) (H : Heap) (locs : List Loc) (ls : Array Slot), K144 σ → Hs D ct ad L φ N0 s.heap σ H locs → lv_has ls 4 [(0, .ref (ad 12 0))] → W p l e ({ frames := 6, cells := 0, slots := 0, locals := 129 } : Room) s m args below meth c H locs 0 0 (MQ below (Qi D ct ad L φ N0 Q) args s 0 0 (AA N0)) (F0 m 144 ls [])) (hK162 : ∀ (σ : St) (H : Heap) (locs : List Loc) (ls : Array Slot), K162 σ → Hs D ct ad L φ N0 s.heap σ H locs → lv_has ls 4 [(0, .ref (ad 12 0))] → W p l e ({ frames := 6, cells := 0, slots := 0, locals := 129 } : Room) s m args below meth c H locs 0 0 (MQ below (Qi D ct ad L φ N0 Q) args s 0 0 (AA N0)) (F0 m 162 ls [])) (σ : St) (x1 : Int) (x2 : Int) (H : Heap) (locs : List Loc) (ls : Array Slot) (hw : wp_X12_takesCond_208 K9 K31 K47 K110 K144 K162 Q σ x1 x2) (h : Hs D ct ad L φ N0 s.heap σ H locs) (hl : lv_has ls 4 [(0, .ref (ad 12 0)), (1, .int (iv x1)), (2, .int (iv x2))]) : W p l e ({ frames := 6, cells := 0, slots := 0, locals := 129 } : Room) s m args below meth c H locs 0 0 (MQ below (Qi D ct ad L φ N0 Q) args s 0 0 (AA N0)) (F0 m 208 ls []) := by
  have hF := X.2.2.2.2.2.2.2.2.1
  unfold wp_X12_takesCond_208 at hw
  refine lv_goto (tgt := 9) X.1 X.2.1 dX12_takesCond_208 (by decide) ?_
  exact hK9 σ x1 x2 _ _ _ hw h (lv_sub hl [0, 1, 2] rfl)
set_option maxRecDepth 100000 in
set_option maxHeartbeats 4000000 in
theorem lb_X12_takesCond_162 (X : Cx p s m meth c args cX12_takesCond 4 (some .boolean) RX12 D ct L φ N0) (σ : St) (H : Heap) (locs : List Loc) (ls : Array Slot) (hw : wp_X12_takesCond_162 Q σ) (h : Hs D ct ad L φ N0 s.heap σ H locs) (hl : lv_has ls 4 [(0, .ref (ad 12 0))]) : W p l e ({ frames := 6, cells := 0, slots := 0, locals := 129 } : Room) s m args below meth c H locs 0 0 (MQ below (Qi D ct ad L φ N0 Q) args s 0 0 (AA N0)) (F0 m 162 ls []) := by
  have hF := X.2.2.2.2.2.2.2.2.1
  unfold wp_X12_takesCond_162 at hw
  refine lv_aload_n X.1 X.2.1 dX12_takesCond_162 rfl (lv_at hl 0 rfl) ?_
  refine j_iconst X dX12_takesCond_163 ?_
  refine k_i h (r_V (C := RX12) (ci := 12) (As := [.int (iv 1)]) (rest := []) X h (c_X12_wrong l D ct ad L φ N0 σ 1 _ hw) rfl rfl ⟨Nat.le_of_ble_eq_true rfl, Nat.le_of_ble_eq_true rfl⟩ kw_2092 kw_2094 kw_77 kw_129 kw_2095 ⟨rfl, pd_X12_wrong⟩ (hF.1 12 rfl).1 rfl rfl rfl hl.1 rfl (Nat.le_of_ble_eq_true rfl) ⟨Nat.le_of_ble_eq_true rfl, Nat.le_of_ble_eq_true rfl⟩ dX12_takesCond_164) (fun r_2 σ_1 H locs hw h => ?_)
  obtain ⟨g_3, hw⟩ := hw
  exact k_ir X (nb_n g_3) h hw dX12_takesCond_167
set_option maxRecDepth 100000 in
set_option maxHeartbeats 4000000 in
theorem lb_X12_takesCond_144 (X : Cx p s m meth c args cX12_takesCond 4 (some .boolean) RX12 D ct L φ N0) (σ : St) (H : Heap) (locs : List Loc) (ls : Array Slot) (hw : wp_X12_takesCond_144 Q σ) (h : Hs D ct ad L φ N0 s.heap σ H locs) (hl : lv_has ls 4 [(0, .ref (ad 12 0))]) : W p l e ({ frames := 6, cells := 0, slots := 0, locals := 129 } : Room) s m args below meth c H locs 0 0 (MQ below (Qi D ct ad L φ N0 Q) args s 0 0 (AA N0)) (F0 m 144 ls []) := by
  have hF := X.2.2.2.2.2.2.2.2.1
  unfold wp_X12_takesCond_144 at hw
  refine lv_aload_n X.1 X.2.1 dX12_takesCond_144 rfl (lv_at hl 0 rfl) ?_
  refine j_iconst X dX12_takesCond_145 ?_
  refine k_i h (r_V (C := RX12) (ci := 12) (As := [.int (iv 1)]) (rest := []) X h (c_X12_wrong l D ct ad L φ N0 σ 1 _ hw) rfl rfl ⟨Nat.le_of_ble_eq_true rfl, Nat.le_of_ble_eq_true rfl⟩ kw_2092 kw_2094 kw_77 kw_129 kw_2095 ⟨rfl, pd_X12_wrong⟩ (hF.1 12 rfl).1 rfl rfl rfl hl.1 rfl (Nat.le_of_ble_eq_true rfl) ⟨Nat.le_of_ble_eq_true rfl, Nat.le_of_ble_eq_true rfl⟩ dX12_takesCond_146) (fun r_5 σ_4 H locs hw h => ?_)
  obtain ⟨g_6, hw⟩ := hw
  exact k_ir X (nb_n g_6) h hw dX12_takesCond_149
set_option maxRecDepth 100000 in
set_option maxHeartbeats 4000000 in
theorem lb_X12_takesCond_110 (X : Cx p s m meth c args cX12_takesCond 4 (some .boolean) RX12 D ct L φ N0) (σ : St) (H : Heap) (locs : List Loc) (ls : Array Slot) (hw : wp_X12_takesCond_110 Q σ) (h : Hs D ct ad L φ N0 s.heap σ H locs) (hl : lv_has ls 4 [(0, .ref (ad 12 0))]) : W p l e ({ frames := 6, cells := 0, slots := 0, locals := 129 } : Room) s m args below meth c H locs 0 0 (MQ below (Qi D ct ad L φ N0 Q) args s 0 0 (AA N0)) (F0 m 110 ls []) := by
  have hF := X.2.2.2.2.2.2.2.2.1
  unfold wp_X12_takesCond_110 at hw
  refine lv_aload_n X.1 X.2.1 dX12_takesCond_110 rfl (lv_at hl 0 rfl) ?_
  refine j_iconst X dX12_takesCond_111 ?_
  refine k_i h (r_V (C := RX12) (ci := 12) (As := [.int (iv 1)]) (rest := []) X h (c_X12_wrong l D ct ad L φ N0 σ 1 _ hw) rfl rfl ⟨Nat.le_of_ble_eq_true rfl, Nat.le_of_ble_eq_true rfl⟩ kw_2092 kw_2094 kw_77 kw_129 kw_2095 ⟨rfl, pd_X12_wrong⟩ (hF.1 12 rfl).1 rfl rfl rfl hl.1 rfl (Nat.le_of_ble_eq_true rfl) ⟨Nat.le_of_ble_eq_true rfl, Nat.le_of_ble_eq_true rfl⟩ dX12_takesCond_112) (fun r_8 σ_7 H locs hw h => ?_)
  obtain ⟨g_9, hw⟩ := hw
  exact k_ir X (nb_n g_9) h hw dX12_takesCond_115
set_option maxRecDepth 100000 in
set_option maxHeartbeats 4000000 in
theorem lb_X12_takesCond_90 (X : Cx p s m meth c args cX12_takesCond 4 (some .boolean) RX12 D ct L φ N0) {K9 : St → Int → Int → Prop} {K31 : St → Prop} {K47 : St → Prop} {K110 : St → Prop} {K144 : St → Prop} {K162 : St → Prop} (hK9 : ∀ (σ : St) (x1 : Int) (x2 : Int) (H : Heap) (locs : List Loc) (ls : Array Slot), K9 σ x1 x2 → Hs D ct ad L φ N0 s.heap σ H locs → lv_has ls 4 [(0, .ref (ad 12 0)), (1, .int (iv x1)), (2, .int (iv x2))] → W p l e ({ frames := 6, cells := 0, slots := 0, locals := 129 } : Room) s m args below meth c H locs 0 0 (MQ below (Qi D ct ad L φ N0 Q) args s 0 0 (AA N0)) (F0 m 9 ls [])) (hK31 : ∀ (σ : St) (H : Heap) (locs : List Loc) (ls : Array Slot), K31 σ → Hs D ct ad L φ N0 s.heap σ H locs → lv_has ls 4 [(0, .ref (ad 12 0))] → W p l e ({ frames := 6, cells := 0, slots := 0, locals := 129 } : Room) s m args below meth c H locs 0 0 (MQ below (Qi D ct ad L φ N0 Q) args s 0 0 (AA N0)) (F0 m 31 ls [])) (hK47 : ∀ (σ : St) (H : Heap) (locs : List Loc) (ls : Array Slot), K47 σ → Hs D ct ad L φ N0 s.heap σ H locs → lv_has ls 4 [(0, .ref (ad 12 0))] → W p l e ({ frames := 6, cells := 0, slots := 0, locals := 129 } : Room) s m args below meth c H locs 0 0 (MQ below (Qi D ct ad L φ N0 Q) args s 0 0 (AA N0)) (F0 m 47 ls [])) (hK110 : ∀ (σ : St) (H : Heap) (locs : List Loc) (ls : Array Slot), K110 σ → Hs D ct ad L φ N0 s.heap σ H locs → lv_has ls 4 [(0, .ref (ad 12 0))] → W p l e ({ frames := 6, cells := 0, slots := 0, locals := 129 } : Room) s m args below meth c H locs 0 0 (MQ below (Qi D ct ad L φ N0 Q) args s 0 0 (AA N0)) (F0 m 110 ls [])) (hK144 : ∀ (σ : St) (H : Heap) (locs : List Loc) (ls : Array Slot), K144 σ → Hs D ct ad L φ N0 s.heap σ H locs → lv_has ls 4 [(0, .ref (ad 12 0))] → W p l e ({ frames := 6, cells := 0, slots := 0, locals := 129 } : Room) s m args below meth c H locs 0 0 (MQ below (Qi D ct ad L φ N0 Q) args s 0 0 (AA N0)) (F0 m 144 ls [])) (hK162 : ∀ (σ : St) (H : Heap) (locs : List Loc) (ls : Array Slot), K162 σ → Hs D ct ad L φ N0 s.heap σ H locs → lv_has ls 4 [(0, .ref (ad 12 0))] → W p l e ({ frames := 6, cells := 0, slots := 0, locals := 129 } : Room) s m args below meth c H locs 0 0 (MQ below (Qi D ct ad L φ N0 Q) args s 0 0 (AA N0)) (F0 m 162 ls [])) (σ : St) (x1 : Int) (x3 : Int) (H : Heap) (locs : List Loc) (ls : Array Slot) (hw : wp_X12_takesCond_90 K9 K31 K47 K110 K144 K162 Q σ x1 x3) (h : Hs D ct ad L φ N0 s.heap σ H locs) (hl : lv_has ls 4 [(0, .ref (ad 12 0)), (1, .int (iv x1)), (3, .int (iv x3))]) : W p l e ({ frames := 6, cells := 0, slots := 0, locals := 129 } : Room) s m args below meth c H locs 0 0 (MQ below (Qi D ct ad L φ N0 Q) args s 0 0 (AA N0)) (F0 m 90 ls []) := by
  have hF := X.2.2.2.2.2.2.2.2.1
  unfold wp_X12_takesCond_90 at hw
  refine lv_aload_n X.1 X.2.1 dX12_takesCond_90 rfl (lv_at hl 0 rfl) ?_
  refine r_getR (ci := 12) X inw_12 h (hF.1 12 rfl).1 rfl rfl 40 (by decide) kw_1678 rfl ((hF.1 12 rfl).2 40) dX12_takesCond_91 ?_
  refine lv_iload_n X.1 X.2.1 dX12_takesCond_94 rfl (lv_at hl 2 rfl) ?_
  refine lv_aload_n X.1 X.2.1 dX12_takesCond_95 rfl (lv_at hl 0 rfl) ?_
  refine k_i h (r_V (C := RX12) (ci := 12) (As := []) (rest := [.int (iv x3), .ref (ad 115 0)]) X h (c_X12_factHere l D ct ad L φ N0 σ _ hw) rfl rfl ⟨Nat.le_of_ble_eq_true rfl, Nat.le_of_ble_eq_true rfl⟩ kw_2105 kw_2107 kw_79 kw_129 kw_2108 ⟨rfl, pd_X12_factHere⟩ (hF.1 12 rfl).1 rfl rfl rfl hl.1 rfl (Nat.le_of_ble_eq_true rfl) ⟨Nat.le_of_ble_eq_true rfl, Nat.le_of_ble_eq_true rfl⟩ dX12_takesCond_96) (fun r_11 σ_10 H locs hw h => ?_)
  obtain ⟨g_12, g_13, hw⟩ := hw
  refine r_iast (n := 1260) X h (hF.1 115 rfl).1 (fun _ => rfl) (by decide) g_12 g_13 rfl dX12_takesCond_99 (fun H locs h => ?_)
  obtain ⟨σ_14, eσ_14⟩ : ∃ z : St, z = st σ_10 115 0 (Int.toNat x3) r_11 := ⟨_, rfl⟩
  rw [← eσ_14] at h
  have hw := hw σ_14 eσ_14
  refine lv_aload_n X.1 X.2.1 dX12_takesCond_100 rfl (lv_at hl 0 rfl) ?_
  refine r_getR (ci := 12) X inw_12 h (hF.1 12 rfl).1 rfl rfl 40 (by decide) kw_1678 rfl ((hF.1 12 rfl).2 40) dX12_takesCond_101 ?_
  refine lv_iload_n X.1 X.2.1 dX12_takesCond_104 rfl (lv_at hl 2 rfl) ?_
  obtain ⟨g_15, g_16, hw⟩ := hw
  refine r_iald (n := 1260) X h (hF.1 115 rfl).1 rfl (by decide) g_15 g_16 dX12_takesCond_105 ?_
  refine j_iconst X dX12_takesCond_106 ?_
  obtain ⟨g_17, hwt, hwf⟩ := hw
  refine j_cmp_ne (tgt := 116) X g_17 ⟨by decide, by decide⟩ dX12_takesCond_107 (by decide) (fun c_47 => ?_) (fun c_47 => ?_)
  · have hw := hwt c_47
    refine lv_aload_n X.1 X.2.1 dX12_takesCond_116 rfl (lv_at hl 0 rfl) ?_
    refine k_v h (r_V (C := RX12) (ci := 12) (As := []) (rest := []) X h (c_X12_next l D ct ad L φ N0 σ_14 _ hw) rfl rfl ⟨Nat.le_of_ble_eq_true rfl, Nat.le_of_ble_eq_true rfl⟩ kw_2070 kw_2072 kw_73 kw_129 kw_2073 ⟨rfl, pd_X12_next⟩ (hF.1 12 rfl).1 rfl rfl rfl hl.1 rfl (Nat.le_of_ble_eq_true rfl) ⟨Nat.le_of_ble_eq_true rfl, Nat.le_of_ble_eq_true rfl⟩ dX12_takesCond_117) (fun σ_18 H locs hw h => ?_)
    refine lv_aload_n X.1 X.2.1 dX12_takesCond_120 rfl (lv_at hl 0 rfl) ?_
    refine r_getR (ci := 12) X inw_12 h (hF.1 12 rfl).1 rfl rfl 41 (by decide) kw_1679 rfl ((hF.1 12 rfl).2 41) dX12_takesCond_121 ?_
    refine lv_iload_n X.1 X.2.1 dX12_takesCond_124 rfl (lv_at hl 2 rfl) ?_
    refine lv_aload_n X.1 X.2.1 dX12_takesCond_125 rfl (lv_at hl 0 rfl) ?_
    refine k_i h (r_V (C := RX12) (ci := 12) (As := []) (rest := [.int (iv x3), .ref (ad 116 0)]) X h (c_X12_signHere l D ct ad L φ N0 σ_18 _ hw) rfl rfl ⟨Nat.le_of_ble_eq_true rfl, Nat.le_of_ble_eq_true rfl⟩ kw_2125 kw_2127 kw_80 kw_129 kw_2128 ⟨rfl, pd_X12_signHere⟩ (hF.1 12 rfl).1 rfl rfl rfl hl.1 rfl (Nat.le_of_ble_eq_true rfl) ⟨Nat.le_of_ble_eq_true rfl, Nat.le_of_ble_eq_true rfl⟩ dX12_takesCond_126) (fun r_20 σ_19 H locs hw h => ?_)
    obtain ⟨g_21, g_22, hw⟩ := hw
    refine r_iast (n := 1260) X h (hF.1 116 rfl).1 (fun _ => rfl) (by decide) g_21 g_22 rfl dX12_takesCond_129 (fun H locs h => ?_)
    obtain ⟨σ_23, eσ_23⟩ : ∃ z : St, z = st σ_19 116 0 (Int.toNat x3) r_20 := ⟨_, rfl⟩
    rw [← eσ_23] at h
    have hw := hw σ_23 eσ_23
    refine lv_aload_n X.1 X.2.1 dX12_takesCond_130 rfl (lv_at hl 0 rfl) ?_
    refine r_getR (ci := 12) X inw_12 h (hF.1 12 rfl).1 rfl rfl 41 (by decide) kw_1679 rfl ((hF.1 12 rfl).2 41) dX12_takesCond_131 ?_
    refine lv_iload_n X.1 X.2.1 dX12_takesCond_134 rfl (lv_at hl 2 rfl) ?_
    obtain ⟨g_24, g_25, hw⟩ := hw
    refine r_iald (n := 1260) X h (hF.1 116 rfl).1 rfl (by decide) g_24 g_25 dX12_takesCond_135 ?_
    refine j_iconst X dX12_takesCond_136 ?_
    refine j_iconst X dX12_takesCond_137 ?_
    refine k_i h (r_S (As := [.int (iv (σ_23 116 0 (Int.toNat x3))), .int (iv 0), .int (iv 2)]) (rest := []) X h (c_X12_within l D ct ad L φ N0 σ_23 (σ_23 116 0 (Int.toNat x3)) 0 2 _ hw) rfl rfl ⟨Nat.le_of_ble_eq_true rfl, Nat.le_of_ble_eq_true rfl⟩ kw_1959 kw_1960 kw_129 kw_1961 pd_X12_within rfl hl.1 rfl (Nat.le_of_ble_eq_true rfl) ⟨Nat.le_of_ble_eq_true rfl, Nat.le_of_ble_eq_true rfl⟩ dX12_takesCond_138) (fun r_27 σ_26 H locs hw h => ?_)
    obtain ⟨g_28, hwt, hwf⟩ := hw
    refine j_if_ne (tgt := 150) X g_28 dX12_takesCond_141 (by decide) (fun c_46 => ?_) (fun c_46 => ?_)
    · have hw := hwt c_46
      refine lv_aload_n X.1 X.2.1 dX12_takesCond_150 rfl (lv_at hl 0 rfl) ?_
      refine k_v h (r_V (C := RX12) (ci := 12) (As := []) (rest := []) X h (c_X12_next l D ct ad L φ N0 σ_26 _ hw) rfl rfl ⟨Nat.le_of_ble_eq_true rfl, Nat.le_of_ble_eq_true rfl⟩ kw_2070 kw_2072 kw_73 kw_129 kw_2073 ⟨rfl, pd_X12_next⟩ (hF.1 12 rfl).1 rfl rfl rfl hl.1 rfl (Nat.le_of_ble_eq_true rfl) ⟨Nat.le_of_ble_eq_true rfl, Nat.le_of_ble_eq_true rfl⟩ dX12_takesCond_151) (fun σ_29 H locs hw h => ?_)
      refine lv_aload_n X.1 X.2.1 dX12_takesCond_154 rfl (lv_at hl 0 rfl) ?_
      refine r_get (ci := 12) X inw_12 h (hF.1 12 rfl).1 rfl rfl 51 (by decide) kw_1689 rfl dX12_takesCond_155 ?_
      refine j_iconst X dX12_takesCond_158 ?_
      obtain ⟨g_30, hwt, hwf⟩ := hw
      refine j_cmp_eq (tgt := 168) X g_30 ⟨by decide, by decide⟩ dX12_takesCond_159 (by decide) (fun c_45 => ?_) (fun c_45 => ?_)
      · have hw := hwt c_45
        refine lv_aload_n X.1 X.2.1 dX12_takesCond_168 rfl (lv_at hl 0 rfl) ?_
        refine r_getR (ci := 12) X inw_12 h (hF.1 12 rfl).1 rfl rfl 42 (by decide) kw_1680 rfl ((hF.1 12 rfl).2 42) dX12_takesCond_169 ?_
        refine lv_iload_n X.1 X.2.1 dX12_takesCond_172 rfl (lv_at hl 2 rfl) ?_
        refine lv_aload_n X.1 X.2.1 dX12_takesCond_173 rfl (lv_at hl 0 rfl) ?_
        refine r_get (ci := 12) X inw_12 h (hF.1 12 rfl).1 rfl rfl 50 (by decide) kw_1688 rfl dX12_takesCond_174 ?_
        obtain ⟨g_31, g_32, hw⟩ := hw
        refine r_iast (n := 1260) X h (hF.1 117 rfl).1 (fun _ => rfl) (by decide) g_31 g_32 rfl dX12_takesCond_177 (fun H locs h => ?_)
        obtain ⟨σ_33, eσ_33⟩ : ∃ z : St, z = st σ_29 117 0 (Int.toNat x3) (σ_29 12 0 50) := ⟨_, rfl⟩
        rw [← eσ_33] at h
        have hw := hw σ_33 eσ_33
        refine lv_aload_n X.1 X.2.1 dX12_takesCond_178 rfl (lv_at hl 0 rfl) ?_
        refine k_v h (r_V (C := RX12) (ci := 12) (As := []) (rest := []) X h (c_X12_next l D ct ad L φ N0 σ_33 _ hw) rfl rfl ⟨Nat.le_of_ble_eq_true rfl, Nat.le_of_ble_eq_true rfl⟩ kw_2070 kw_2072 kw_73 kw_129 kw_2073 ⟨rfl, pd_X12_next⟩ (hF.1 12 rfl).1 rfl rfl rfl hl.1 rfl (Nat.le_of_ble_eq_true rfl) ⟨Nat.le_of_ble_eq_true rfl, Nat.le_of_ble_eq_true rfl⟩ dX12_takesCond_179) (fun σ_34 H locs hw h => ?_)
        refine lv_aload_n X.1 X.2.1 dX12_takesCond_182 rfl (lv_at hl 0 rfl) ?_
        refine r_getR (ci := 12) X inw_12 h (hF.1 12 rfl).1 rfl rfl 38 (by decide) kw_1676 rfl ((hF.1 12 rfl).2 38) dX12_takesCond_183 ?_
        refine lv_iload_n X.1 X.2.1 dX12_takesCond_186 rfl (lv_at hl 1 rfl) ?_
        refine lv_dup2_11 X.1 X.2.1 dX12_takesCond_187 rfl rfl ?_
        obtain ⟨g_35, g_36, hw⟩ := hw
        refine r_iald (n := 252) X h (hF.1 113 rfl).1 rfl (by decide) g_35 g_36 dX12_takesCond_188 ?_
        refine j_iconst X dX12_takesCond_189 ?_
        refine j_iadd X dX12_takesCond_190 ?_
        obtain ⟨g_37, g_38, hw⟩ := hw
        refine r_iast (n := 252) X h (hF.1 113 rfl).1 (fun _ => rfl) (by decide) g_37 g_38 rfl dX12_takesCond_191 (fun H locs h => ?_)
        obtain ⟨σ_39, eσ_39⟩ : ∃ z : St, z = st σ_34 113 0 (Int.toNat x1) ((σ_34 113 0 (Int.toNat x1)) + 1) := ⟨_, rfl⟩
        rw [← eσ_39] at h
        have hw := hw σ_39 eσ_39
        refine lv_aload_n X.1 X.2.1 dX12_takesCond_192 rfl (lv_at hl 0 rfl) ?_
        refine r_ldcwS X X.2.2.2.2.2.2.2.1.2.2.2.2.2.2.2.2.2.2.2.2.2.2.2.2.2.2.2.2.2.2.2.2.2.2.2.2.1 dX12_takesCond_193 ?_
        refine k_i h (r_V (C := RX12) (ci := 12) (As := [.ref (ct (2000 + 6))]) (rest := []) X h (c_X12_isWord l D ct ad L φ N0 σ_39 6 _ hw) rfl rfl ⟨Nat.le_of_ble_eq_true rfl, Nat.le_of_ble_eq_true rfl⟩ kw_2083 kw_2085 kw_76 kw_129 kw_2086 ⟨rfl, pd_X12_isWord⟩ (hF.1 12 rfl).1 rfl rfl rfl hl.1 rfl (Nat.le_of_ble_eq_true rfl) ⟨Nat.le_of_ble_eq_true rfl, Nat.le_of_ble_eq_true rfl⟩ dX12_takesCond_196) (fun r_41 σ_40 H locs hw h => ?_)
        refine lv_istore_n (lv' := [(2, .int (iv r_41)), (0, .ref (ad 12 0)), (1, .int (iv x1)), (3, .int (iv x3))]) X.1 X.2.1 dX12_takesCond_199 rfl hl (by decide) rfl (fun ls hl => ?_)
        refine lv_iload_n X.1 X.2.1 dX12_takesCond_200 rfl (lv_at hl 0 rfl) ?_
        obtain ⟨g_42, hwt, hwf⟩ := hw
        refine j_if_eq (tgt := 208) X g_42 dX12_takesCond_201 (by decide) (fun c_44 => ?_) (fun c_44 => ?_)
        · have hw := hwt c_44
          exact lb_X12_takesCond_208 X hK9 hK31 hK47 hK110 hK144 hK162 σ_40 x1 r_41 _ _ _ hw h (lv_sub hl [1, 2, 0] rfl)
        · have hw := hwf c_44
          refine lv_aload_n X.1 X.2.1 dX12_takesCond_204 rfl (lv_at hl 1 rfl) ?_
          refine k_v h (r_V (C := RX12) (ci := 12) (As := []) (rest := []) X h (c_X12_next l D ct ad L φ N0 σ_40 _ hw) rfl rfl ⟨Nat.le_of_ble_eq_true rfl, Nat.le_of_ble_eq_true rfl⟩ kw_2070 kw_2072 kw_73 kw_129 kw_2073 ⟨rfl, pd_X12_next⟩ (hF.1 12 rfl).1 rfl rfl rfl hl.1 rfl (Nat.le_of_ble_eq_true rfl) ⟨Nat.le_of_ble_eq_true rfl, Nat.le_of_ble_eq_true rfl⟩ dX12_takesCond_205) (fun σ_43 H locs hw h => ?_)
          exact lb_X12_takesCond_208 X hK9 hK31 hK47 hK110 hK144 hK162 σ_43 x1 r_41 _ _ _ hw h (lv_sub hl [1, 2, 0] rfl)
      · have hw := hwf c_45
        exact hK162 σ_29 _ _ _ hw h (lv_sub hl [0] rfl)
    · have hw := hwf c_46
      exact hK144 σ_26 _ _ _ hw h (lv_sub hl [0] rfl)
  · have hw := hwf c_47
    exact hK110 σ_14 _ _ _ hw h (lv_sub hl [0] rfl)
set_option maxRecDepth 100000 in
set_option maxHeartbeats 4000000 in
theorem lb_X12_takesCond_47 (X : Cx p s m meth c args cX12_takesCond 4 (some .boolean) RX12 D ct L φ N0) (σ : St) (H : Heap) (locs : List Loc) (ls : Array Slot) (hw : wp_X12_takesCond_47 Q σ) (h : Hs D ct ad L φ N0 s.heap σ H locs) (hl : lv_has ls 4 [(0, .ref (ad 12 0))]) : W p l e ({ frames := 6, cells := 0, slots := 0, locals := 129 } : Room) s m args below meth c H locs 0 0 (MQ below (Qi D ct ad L φ N0 Q) args s 0 0 (AA N0)) (F0 m 47 ls []) := by
  have hF := X.2.2.2.2.2.2.2.2.1
  unfold wp_X12_takesCond_47 at hw
  refine lv_aload_n X.1 X.2.1 dX12_takesCond_47 rfl (lv_at hl 0 rfl) ?_
  refine j_iconst X dX12_takesCond_48 ?_
  refine k_i h (r_V (C := RX12) (ci := 12) (As := [.int (iv 2)]) (rest := []) X h (c_X12_wrong l D ct ad L φ N0 σ 2 _ hw) rfl rfl ⟨Nat.le_of_ble_eq_true rfl, Nat.le_of_ble_eq_true rfl⟩ kw_2092 kw_2094 kw_77 kw_129 kw_2095 ⟨rfl, pd_X12_wrong⟩ (hF.1 12 rfl).1 rfl rfl rfl hl.1 rfl (Nat.le_of_ble_eq_true rfl) ⟨Nat.le_of_ble_eq_true rfl, Nat.le_of_ble_eq_true rfl⟩ dX12_takesCond_49) (fun r_49 σ_48 H locs hw h => ?_)
  obtain ⟨g_50, hw⟩ := hw
  exact k_ir X (nb_n g_50) h hw dX12_takesCond_52
set_option maxRecDepth 100000 in
set_option maxHeartbeats 4000000 in
theorem lb_X12_takesCond_37 (X : Cx p s m meth c args cX12_takesCond 4 (some .boolean) RX12 D ct L φ N0) {K9 : St → Int → Int → Prop} {K31 : St → Prop} {K47 : St → Prop} {K110 : St → Prop} {K144 : St → Prop} {K162 : St → Prop} (hK9 : ∀ (σ : St) (x1 : Int) (x2 : Int) (H : Heap) (locs : List Loc) (ls : Array Slot), K9 σ x1 x2 → Hs D ct ad L φ N0 s.heap σ H locs → lv_has ls 4 [(0, .ref (ad 12 0)), (1, .int (iv x1)), (2, .int (iv x2))] → W p l e ({ frames := 6, cells := 0, slots := 0, locals := 129 } : Room) s m args below meth c H locs 0 0 (MQ below (Qi D ct ad L φ N0 Q) args s 0 0 (AA N0)) (F0 m 9 ls [])) (hK31 : ∀ (σ : St) (H : Heap) (locs : List Loc) (ls : Array Slot), K31 σ → Hs D ct ad L φ N0 s.heap σ H locs → lv_has ls 4 [(0, .ref (ad 12 0))] → W p l e ({ frames := 6, cells := 0, slots := 0, locals := 129 } : Room) s m args below meth c H locs 0 0 (MQ below (Qi D ct ad L φ N0 Q) args s 0 0 (AA N0)) (F0 m 31 ls [])) (hK47 : ∀ (σ : St) (H : Heap) (locs : List Loc) (ls : Array Slot), K47 σ → Hs D ct ad L φ N0 s.heap σ H locs → lv_has ls 4 [(0, .ref (ad 12 0))] → W p l e ({ frames := 6, cells := 0, slots := 0, locals := 129 } : Room) s m args below meth c H locs 0 0 (MQ below (Qi D ct ad L φ N0 Q) args s 0 0 (AA N0)) (F0 m 47 ls [])) (hK110 : ∀ (σ : St) (H : Heap) (locs : List Loc) (ls : Array Slot), K110 σ → Hs D ct ad L φ N0 s.heap σ H locs → lv_has ls 4 [(0, .ref (ad 12 0))] → W p l e ({ frames := 6, cells := 0, slots := 0, locals := 129 } : Room) s m args below meth c H locs 0 0 (MQ below (Qi D ct ad L φ N0 Q) args s 0 0 (AA N0)) (F0 m 110 ls [])) (hK144 : ∀ (σ : St) (H : Heap) (locs : List Loc) (ls : Array Slot), K144 σ → Hs D ct ad L φ N0 s.heap σ H locs → lv_has ls 4 [(0, .ref (ad 12 0))] → W p l e ({ frames := 6, cells := 0, slots := 0, locals := 129 } : Room) s m args below meth c H locs 0 0 (MQ below (Qi D ct ad L φ N0 Q) args s 0 0 (AA N0)) (F0 m 144 ls [])) (hK162 : ∀ (σ : St) (H : Heap) (locs : List Loc) (ls : Array Slot), K162 σ → Hs D ct ad L φ N0 s.heap σ H locs → lv_has ls 4 [(0, .ref (ad 12 0))] → W p l e ({ frames := 6, cells := 0, slots := 0, locals := 129 } : Room) s m args below meth c H locs 0 0 (MQ below (Qi D ct ad L φ N0 Q) args s 0 0 (AA N0)) (F0 m 162 ls [])) (σ : St) (x1 : Int) (H : Heap) (locs : List Loc) (ls : Array Slot) (hw : wp_X12_takesCond_37 K9 K31 K47 K110 K144 K162 Q σ x1) (h : Hs D ct ad L φ N0 s.heap σ H locs) (hl : lv_has ls 4 [(0, .ref (ad 12 0)), (1, .int (iv x1))]) : W p l e ({ frames := 6, cells := 0, slots := 0, locals := 129 } : Room) s m args below meth c H locs 0 0 (MQ below (Qi D ct ad L φ N0 Q) args s 0 0 (AA N0)) (F0 m 37 ls []) := by
  have hF := X.2.2.2.2.2.2.2.2.1
  unfold wp_X12_takesCond_37 at hw
  refine lv_aload_n X.1 X.2.1 dX12_takesCond_37 rfl (lv_at hl 0 rfl) ?_
  refine r_getR (ci := 12) X inw_12 h (hF.1 12 rfl).1 rfl rfl 38 (by decide) kw_1676 rfl ((hF.1 12 rfl).2 38) dX12_takesCond_38 ?_
  refine lv_iload_n X.1 X.2.1 dX12_takesCond_41 rfl (lv_at hl 1 rfl) ?_
  obtain ⟨g_51, g_52, hw⟩ := hw
  refine r_iald (n := 252) X h (hF.1 113 rfl).1 rfl (by decide) g_51 g_52 dX12_takesCond_42 ?_
  refine j_iconst X dX12_takesCond_43 ?_
  obtain ⟨g_53, hwt, hwf⟩ := hw
  refine j_cmp_ne (tgt := 53) X g_53 ⟨by decide, by decide⟩ dX12_takesCond_44 (by decide) (fun c_68 => ?_) (fun c_68 => ?_)
  · have hw := hwt c_68
    refine j_iconst X dX12_takesCond_53 ?_
    refine lv_iload_n X.1 X.2.1 dX12_takesCond_54 rfl (lv_at hl 1 rfl) ?_
    refine j_imul X dX12_takesCond_55 ?_
    refine lv_aload_n X.1 X.2.1 dX12_takesCond_56 rfl (lv_at hl 0 rfl) ?_
    refine r_getR (ci := 12) X inw_12 h (hF.1 12 rfl).1 rfl rfl 38 (by decide) kw_1676 rfl ((hF.1 12 rfl).2 38) dX12_takesCond_57 ?_
    refine lv_iload_n X.1 X.2.1 dX12_takesCond_60 rfl (lv_at hl 1 rfl) ?_
    obtain ⟨g_54, g_55, hw⟩ := hw
    refine r_iald (n := 252) X h (hF.1 113 rfl).1 rfl (by decide) g_54 g_55 dX12_takesCond_61 ?_
    refine j_iadd X dX12_takesCond_62 ?_
    refine j_bind (fun v_56 ev_56 => ?_)
    have hw := hw v_56 ev_56
    refine lv_istore_n (lv' := [(3, .int (iv v_56)), (0, .ref (ad 12 0)), (1, .int (iv x1))]) X.1 X.2.1 dX12_takesCond_63 rfl hl (by decide) rfl (fun ls hl => ?_)
    refine lv_aload_n X.1 X.2.1 dX12_takesCond_64 rfl (lv_at hl 1 rfl) ?_
    refine r_getR (ci := 12) X inw_12 h (hF.1 12 rfl).1 rfl rfl 39 (by decide) kw_1677 rfl ((hF.1 12 rfl).2 39) dX12_takesCond_65 ?_
    refine lv_iload_n X.1 X.2.1 dX12_takesCond_68 rfl (lv_at hl 0 rfl) ?_
    refine lv_aload_n X.1 X.2.1 dX12_takesCond_69 rfl (lv_at hl 1 rfl) ?_
    refine r_ldcwS X X.2.2.2.2.2.2.2.1.2.2.2.2.2.2.2.2.2.2.2.2.2.2.2.2.2.2.2.2.2.2.2.2.2.2.2.1 dX12_takesCond_70 ?_
    refine k_i h (r_V (C := RX12) (ci := 12) (As := [.ref (ct (2000 + 4))]) (rest := [.int (iv v_56), .ref (ad 114 0)]) X h (c_X12_isWord l D ct ad L φ N0 σ 4 _ hw) rfl rfl ⟨Nat.le_of_ble_eq_true rfl, Nat.le_of_ble_eq_true rfl⟩ kw_2083 kw_2085 kw_76 kw_129 kw_2086 ⟨rfl, pd_X12_isWord⟩ (hF.1 12 rfl).1 rfl rfl rfl hl.1 rfl (Nat.le_of_ble_eq_true rfl) ⟨Nat.le_of_ble_eq_true rfl, Nat.le_of_ble_eq_true rfl⟩ dX12_takesCond_73) (fun r_58 σ_57 H locs hw h => ?_)
    obtain ⟨g_59, g_60, g_61, hw⟩ := hw
    refine r_zast (n := 1260) X h (hF.1 114 rfl).1 (fun _ => rfl) (by decide) g_59 g_60 rfl (nb_v g_61) dX12_takesCond_76 (fun H locs h => ?_)
    obtain ⟨σ_62, eσ_62⟩ : ∃ z : St, z = st σ_57 114 0 (Int.toNat v_56) r_58 := ⟨_, rfl⟩
    rw [← eσ_62] at h
    have hw := hw σ_62 eσ_62
    refine lv_aload_n X.1 X.2.1 dX12_takesCond_77 rfl (lv_at hl 1 rfl) ?_
    refine r_getR (ci := 12) X inw_12 h (hF.1 12 rfl).1 rfl rfl 39 (by decide) kw_1677 rfl ((hF.1 12 rfl).2 39) dX12_takesCond_78 ?_
    refine lv_iload_n X.1 X.2.1 dX12_takesCond_81 rfl (lv_at hl 0 rfl) ?_
    obtain ⟨g_63, g_64, hw⟩ := hw
    refine r_zald (n := 1260) X h (hF.1 114 rfl).1 rfl (by decide) g_63 g_64 dX12_takesCond_82 ?_
    obtain ⟨g_65, hwt, hwf⟩ := hw
    refine j_if_eq (tgt := 90) X g_65 dX12_takesCond_83 (by decide) (fun c_67 => ?_) (fun c_67 => ?_)
    · have hw := hwt c_67
      exact lb_X12_takesCond_90 X hK9 hK31 hK47 hK110 hK144 hK162 σ_62 x1 v_56 _ _ _ hw h (lv_sub hl [1, 2, 0] rfl)
    · have hw := hwf c_67
      refine lv_aload_n X.1 X.2.1 dX12_takesCond_86 rfl (lv_at hl 1 rfl) ?_
      refine k_v h (r_V (C := RX12) (ci := 12) (As := []) (rest := []) X h (c_X12_next l D ct ad L φ N0 σ_62 _ hw) rfl rfl ⟨Nat.le_of_ble_eq_true rfl, Nat.le_of_ble_eq_true rfl⟩ kw_2070 kw_2072 kw_73 kw_129 kw_2073 ⟨rfl, pd_X12_next⟩ (hF.1 12 rfl).1 rfl rfl rfl hl.1 rfl (Nat.le_of_ble_eq_true rfl) ⟨Nat.le_of_ble_eq_true rfl, Nat.le_of_ble_eq_true rfl⟩ dX12_takesCond_87) (fun σ_66 H locs hw h => ?_)
      exact lb_X12_takesCond_90 X hK9 hK31 hK47 hK110 hK144 hK162 σ_66 x1 v_56 _ _ _ hw h (lv_sub hl [1, 2, 0] rfl)
  · have hw := hwf c_68
    exact hK47 σ _ _ _ hw h (lv_sub hl [0] rfl)
set_option maxRecDepth 100000 in
set_option maxHeartbeats 4000000 in
theorem lb_X12_takesCond_31 (X : Cx p s m meth c args cX12_takesCond 4 (some .boolean) RX12 D ct L φ N0) (σ : St) (H : Heap) (locs : List Loc) (ls : Array Slot) (hw : wp_X12_takesCond_31 Q σ) (h : Hs D ct ad L φ N0 s.heap σ H locs) (hl : lv_has ls 4 [(0, .ref (ad 12 0))]) : W p l e ({ frames := 6, cells := 0, slots := 0, locals := 129 } : Room) s m args below meth c H locs 0 0 (MQ below (Qi D ct ad L φ N0 Q) args s 0 0 (AA N0)) (F0 m 31 ls []) := by
  have hF := X.2.2.2.2.2.2.2.2.1
  unfold wp_X12_takesCond_31 at hw
  refine lv_aload_n X.1 X.2.1 dX12_takesCond_31 rfl (lv_at hl 0 rfl) ?_
  refine j_iconst X dX12_takesCond_32 ?_
  refine k_i h (r_V (C := RX12) (ci := 12) (As := [.int (iv 1)]) (rest := []) X h (c_X12_wrong l D ct ad L φ N0 σ 1 _ hw) rfl rfl ⟨Nat.le_of_ble_eq_true rfl, Nat.le_of_ble_eq_true rfl⟩ kw_2092 kw_2094 kw_77 kw_129 kw_2095 ⟨rfl, pd_X12_wrong⟩ (hF.1 12 rfl).1 rfl rfl rfl hl.1 rfl (Nat.le_of_ble_eq_true rfl) ⟨Nat.le_of_ble_eq_true rfl, Nat.le_of_ble_eq_true rfl⟩ dX12_takesCond_33) (fun r_70 σ_69 H locs hw h => ?_)
  obtain ⟨g_71, hw⟩ := hw
  exact k_ir X (nb_n g_71) h hw dX12_takesCond_36
set_option maxRecDepth 100000 in
set_option maxHeartbeats 4000000 in
theorem lb_X12_takesCond_9 (X : Cx p s m meth c args cX12_takesCond 4 (some .boolean) RX12 D ct L φ N0) {K31 : St → Prop} {K47 : St → Prop} {K110 : St → Prop} {K144 : St → Prop} {K162 : St → Prop} (hK31 : ∀ (σ : St) (H : Heap) (locs : List Loc) (ls : Array Slot), K31 σ → Hs D ct ad L φ N0 s.heap σ H locs → lv_has ls 4 [(0, .ref (ad 12 0))] → W p l e ({ frames := 6, cells := 0, slots := 0, locals := 129 } : Room) s m args below meth c H locs 0 0 (MQ below (Qi D ct ad L φ N0 Q) args s 0 0 (AA N0)) (F0 m 31 ls [])) (hK47 : ∀ (σ : St) (H : Heap) (locs : List Loc) (ls : Array Slot), K47 σ → Hs D ct ad L φ N0 s.heap σ H locs → lv_has ls 4 [(0, .ref (ad 12 0))] → W p l e ({ frames := 6, cells := 0, slots := 0, locals := 129 } : Room) s m args below meth c H locs 0 0 (MQ below (Qi D ct ad L φ N0 Q) args s 0 0 (AA N0)) (F0 m 47 ls [])) (hK110 : ∀ (σ : St) (H : Heap) (locs : List Loc) (ls : Array Slot), K110 σ → Hs D ct ad L φ N0 s.heap σ H locs → lv_has ls 4 [(0, .ref (ad 12 0))] → W p l e ({ frames := 6, cells := 0, slots := 0, locals := 129 } : Room) s m args below meth c H locs 0 0 (MQ below (Qi D ct ad L φ N0 Q) args s 0 0 (AA N0)) (F0 m 110 ls [])) (hK144 : ∀ (σ : St) (H : Heap) (locs : List Loc) (ls : Array Slot), K144 σ → Hs D ct ad L φ N0 s.heap σ H locs → lv_has ls 4 [(0, .ref (ad 12 0))] → W p l e ({ frames := 6, cells := 0, slots := 0, locals := 129 } : Room) s m args below meth c H locs 0 0 (MQ below (Qi D ct ad L φ N0 Q) args s 0 0 (AA N0)) (F0 m 144 ls [])) (hK162 : ∀ (σ : St) (H : Heap) (locs : List Loc) (ls : Array Slot), K162 σ → Hs D ct ad L φ N0 s.heap σ H locs → lv_has ls 4 [(0, .ref (ad 12 0))] → W p l e ({ frames := 6, cells := 0, slots := 0, locals := 129 } : Room) s m args below meth c H locs 0 0 (MQ below (Qi D ct ad L φ N0 Q) args s 0 0 (AA N0)) (F0 m 162 ls [])) : ∀ (n : Nat) (σ : St) (x1 : Int) (x2 : Int) (H : Heap) (locs : List Loc) (ls : Array Slot), wp_X12_takesCond_9 K31 K47 K110 K144 K162 Q n σ x1 x2 → Hs D ct ad L φ N0 s.heap σ H locs → lv_has ls 4 [(0, .ref (ad 12 0)), (1, .int (iv x1)), (2, .int (iv x2))] → W p l e ({ frames := 6, cells := 0, slots := 0, locals := 129 } : Room) s m args below meth c H locs 0 0 (MQ below (Qi D ct ad L φ N0 Q) args s 0 0 (AA N0)) (F0 m 9 ls []) := by
  have hF := X.2.2.2.2.2.2.2.2.1
  intro n
  induction n with
  | zero => intro σ x1 x2 H locs ls hw; exact hw.elim
  | succ n ih =>
    intro σ x1 x2 H locs ls hw h hl
    unfold wp_X12_takesCond_9 at hw
    refine lv_iload_n X.1 X.2.1 dX12_takesCond_9 rfl (lv_at hl 2 rfl) ?_
    obtain ⟨g_72, hwt, hwf⟩ := hw
    refine j_if_eq (tgt := 211) X g_72 dX12_takesCond_10 (by decide) (fun c_81 => ?_) (fun c_81 => ?_)
    · have hw := hwt c_81
      refine j_iconst X dX12_takesCond_211 ?_
      exact k_ir X rfl h hw dX12_takesCond_212
    · have hw := hwf c_81
      refine lv_aload_n X.1 X.2.1 dX12_takesCond_13 rfl (lv_at hl 0 rfl) ?_
      refine r_ldcwS X X.2.2.2.2.2.2.2.1.2.2.2.2.2.2.2.2.2.2.2.2.2.2.2.2.2.2.2.2.2.2.2.2.2.2.2.1 dX12_takesCond_14 ?_
      refine k_i h (r_V (C := RX12) (ci := 12) (As := [.ref (ct (2000 + 4))]) (rest := []) X h (c_X12_isWord l D ct ad L φ N0 σ 4 _ hw) rfl rfl ⟨Nat.le_of_ble_eq_true rfl, Nat.le_of_ble_eq_true rfl⟩ kw_2083 kw_2085 kw_76 kw_129 kw_2086 ⟨rfl, pd_X12_isWord⟩ (hF.1 12 rfl).1 rfl rfl rfl hl.1 rfl (Nat.le_of_ble_eq_true rfl) ⟨Nat.le_of_ble_eq_true rfl, Nat.le_of_ble_eq_true rfl⟩ dX12_takesCond_17) (fun r_74 σ_73 H locs hw h => ?_)
      obtain ⟨g_75, hwt, hwf⟩ := hw
      refine j_if_ne (tgt := 37) X g_75 dX12_takesCond_20 (by decide) (fun c_80 => ?_) (fun c_80 => ?_)
      · have hw := hwt c_80
        exact lb_X12_takesCond_37 X ih hK31 hK47 hK110 hK144 hK162 σ_73 x1 _ _ _ hw h (lv_sub hl [0, 1] rfl)
      · have hw := hwf c_80
        refine lv_aload_n X.1 X.2.1 dX12_takesCond_23 rfl (lv_at hl 0 rfl) ?_
        refine k_i h (r_V (C := RX12) (ci := 12) (As := []) (rest := []) X h (c_X12_factHere l D ct ad L φ N0 σ_73 _ hw) rfl rfl ⟨Nat.le_of_ble_eq_true rfl, Nat.le_of_ble_eq_true rfl⟩ kw_2105 kw_2107 kw_79 kw_129 kw_2108 ⟨rfl, pd_X12_factHere⟩ (hF.1 12 rfl).1 rfl rfl rfl hl.1 rfl (Nat.le_of_ble_eq_true rfl) ⟨Nat.le_of_ble_eq_true rfl, Nat.le_of_ble_eq_true rfl⟩ dX12_takesCond_24) (fun r_77 σ_76 H locs hw h => ?_)
        refine j_iconst X dX12_takesCond_27 ?_
        obtain ⟨g_78, hwt, hwf⟩ := hw
        refine j_cmp_ne (tgt := 37) X g_78 ⟨by decide, by decide⟩ dX12_takesCond_28 (by decide) (fun c_79 => ?_) (fun c_79 => ?_)
        · have hw := hwt c_79
          exact lb_X12_takesCond_37 X ih hK31 hK47 hK110 hK144 hK162 σ_76 x1 _ _ _ hw h (lv_sub hl [0, 1] rfl)
        · have hw := hwf c_79
          exact hK31 σ_76 _ _ _ hw h (lv_sub hl [0] rfl)
theorem pd_X12_takesCond : yX12_takesCond.cls ≠ "java/lang/invoke/MethodHandle" ∧ yX12_takesCond.cls ≠ "java/lang/invoke/VarHandle" ∧ (parseMethodDescriptor yX12_takesCond.desc).map (fun d => d.parameters.length) = some 1 := by decide +kernel
set_option maxRecDepth 100000 in
set_option maxHeartbeats 4000000 in
theorem c_X12_takesCond (l : Launch) (D : va_G) (ct : Nat → ClassId) (ad : Nat → Nat → Nat) (L : List (Nat × Nat)) (φ : Nat → Nat → Nat → Bool) (N0 : Nat) (σ : St) (x1 : Int) (Q : Int → St → Prop) (hw : wp_X12_takesCond σ x1 Q) : Met l yX12_takesCond (.code yX12_takesCond cX12_takesCond 4 (some .boolean) :: gw) ({ frames := 6, cells := 0, slots := 0, locals := 129 } : Room) (Pm D ct ad L φ N0 σ [.ref (ad 12 0), .int (iv x1)]) (Qi D ct ad L φ N0 Q) 0 0 (AA N0) := by
  refine m_of (by decide) (fun p e s m below meth c X hnm h => ?_)
  have hF := X.2.2.2.2.2.2.2.2.1
  have hl := lv_entry ([.ref (ad 12 0), .int (iv x1)]) (n := 4) (Nat.le_of_ble_eq_true rfl)
  rw [lg_entry_eq]
  generalize (lg_sl ([.ref (ad 12 0), .int (iv x1)]) ++ List.replicate (4 - (lg_sl ([.ref (ad 12 0), .int (iv x1)])).length) Slot.unset).toArray = ls at hl ⊢
  have hl : lv_has ls 4 [(0, .ref (ad 12 0)), (1, .int (iv x1))] := hl
  have h : Hs D ct ad L φ N0 s.heap σ s.heap [] := h
  unfold wp_X12_takesCond at hw
  refine lv_aload_n X.1 X.2.1 dX12_takesCond_0 rfl (lv_at hl 0 rfl) ?_
  refine r_getR (ci := 12) X inw_12 h (hF.1 12 rfl).1 rfl rfl 38 (by decide) kw_1676 rfl ((hF.1 12 rfl).2 38) dX12_takesCond_1 ?_
  refine lv_iload_n X.1 X.2.1 dX12_takesCond_4 rfl (lv_at hl 1 rfl) ?_
  refine j_iconst X dX12_takesCond_5 ?_
  obtain ⟨g_82, g_83, hw⟩ := hw
  refine r_iast (n := 252) X h (hF.1 113 rfl).1 (fun _ => rfl) (by decide) g_82 g_83 rfl dX12_takesCond_6 (fun H locs h => ?_)
  obtain ⟨σ_84, eσ_84⟩ : ∃ z : St, z = st σ 113 0 (Int.toNat x1) 0 := ⟨_, rfl⟩
  rw [← eσ_84] at h
  have hw := hw σ_84 eσ_84
  refine j_iconst X dX12_takesCond_7 ?_
  refine lv_istore_n (lv' := [(2, .int (iv 1)), (0, .ref (ad 12 0)), (1, .int (iv x1))]) X.1 X.2.1 dX12_takesCond_8 rfl hl (by decide) rfl (fun ls hl => ?_)
  exact hw.elim (fun n9 hw => lb_X12_takesCond_9 X (lb_X12_takesCond_31 X) (lb_X12_takesCond_47 X) (lb_X12_takesCond_110 X) (lb_X12_takesCond_144 X) (lb_X12_takesCond_162 X) n9 σ_84 x1 1 _ _ _ hw h (lv_sub hl [1, 2, 0] rfl))
end
section
variable {p : Program} {l : Launch} {e : Env} {s : State} {m : MethodId} {args : Array Value} {below : List Frame} {meth : Method} {c : Code} {D : va_G} {ct : Nat → ClassId} {ad : Nat → Nat → Nat} {L : List (Nat × Nat)} {φ : Nat → Nat → Nat → Bool} {N0 : Nat}
variable {Q : Int → St → Prop}
set_option maxRecDepth 100000 in
set_option maxHeartbeats 4000000 in
theorem lb_X12_statement_187 (X : Cx p s m meth c args cX12_statement 3 (some .boolean) RX12 D ct L φ N0) (σ : St) (x1 : Int) (x2 : Int) (H : Heap) (locs : List Loc) (ls : Array Slot) (hw : wp_X12_statement_187 Q σ x1 x2) (h : Hs D ct ad L φ N0 s.heap σ H locs) (hl : lv_has ls 3 [(0, .ref (ad 12 0)), (1, .int (iv x1)), (2, .int (iv x2))]) : W p l e ({ frames := 7, cells := 0, slots := 0, locals := 152 } : Room) s m args below meth c H locs 0 0 (MQ below (Qi D ct ad L φ N0 Q) args s 0 0 (AA N0)) (F0 m 187 ls []) := by
  have hF := X.2.2.2.2.2.2.2.2.1
  unfold wp_X12_statement_187 at hw
  refine lv_aload_n X.1 X.2.1 dX12_statement_187 rfl (lv_at hl 0 rfl) ?_
  refine r_getR (ci := 12) X inw_12 h (hF.1 12 rfl).1 rfl rfl 36 (by decide) kw_1674 rfl ((hF.1 12 rfl).2 36) dX12_statement_188 ?_
  refine lv_iload_n X.1 X.2.1 dX12_statement_191 rfl (lv_at hl 2 rfl) ?_
  refine lv_iload_n X.1 X.2.1 dX12_statement_192 rfl (lv_at hl 1 rfl) ?_
  obtain ⟨g_1, g_2, hw⟩ := hw
  refine r_iast (n := 252) X h (hF.1 111 rfl).1 (fun _ => rfl) (by decide) g_1 g_2 rfl dX12_statement_193 (fun H locs h => ?_)
  obtain ⟨σ_3, eσ_3⟩ : ∃ z : St, z = st σ 111 0 (Int.toNat x2) x1 := ⟨_, rfl⟩
  rw [← eσ_3] at h
  have hw := hw σ_3 eσ_3
  refine lv_aload_n X.1 X.2.1 dX12_statement_194 rfl (lv_at hl 0 rfl) ?_
  refine k_v h (r_V (C := RX12) (ci := 12) (As := []) (rest := []) X h (c_X12_next l D ct ad L φ N0 σ_3 _ hw) rfl rfl ⟨Nat.le_of_ble_eq_true rfl, Nat.le_of_ble_eq_true rfl⟩ kw_2070 kw_2072 kw_73 kw_129 kw_2073 ⟨rfl, pd_X12_next⟩ (hF.1 12 rfl).1 rfl rfl rfl hl.1 rfl (Nat.le_of_ble_eq_true rfl) ⟨Nat.le_of_ble_eq_true rfl, Nat.le_of_ble_eq_true rfl⟩ dX12_statement_195) (fun σ_4 H locs hw h => ?_)
  refine lv_aload_n X.1 X.2.1 dX12_statement_198 rfl (lv_at hl 0 rfl) ?_
  refine r_ldcwS X X.2.2.2.2.2.2.2.1.2.2.2.2.2.2.2.2.2.2.2.2.2.2.2.2.2.2.2.2.2.2.2.2.2.2.2.2.2.2.2.2.2.2.2.2 dX12_statement_199 ?_
  refine k_i h (r_V (C := RX12) (ci := 12) (As := [.ref (ct (2000 + 3))]) (rest := []) X h (c_X12_isWord l D ct ad L φ N0 σ_4 3 _ hw) rfl rfl ⟨Nat.le_of_ble_eq_true rfl, Nat.le_of_ble_eq_true rfl⟩ kw_2083 kw_2085 kw_76 kw_129 kw_2086 ⟨rfl, pd_X12_isWord⟩ (hF.1 12 rfl).1 rfl rfl rfl hl.1 rfl (Nat.le_of_ble_eq_true rfl) ⟨Nat.le_of_ble_eq_true rfl, Nat.le_of_ble_eq_true rfl⟩ dX12_statement_202) (fun r_6 σ_5 H locs hw h => ?_)
  obtain ⟨g_7, hwt, hwf⟩ := hw
  refine j_if_ne (tgt := 214) X g_7 dX12_statement_205 (by decide) (fun c_25 => ?_) (fun c_25 => ?_)
  · have hw := hwt c_25
    refine lv_aload_n X.1 X.2.1 dX12_statement_214 rfl (lv_at hl 0 rfl) ?_
    refine k_v h (r_V (C := RX12) (ci := 12) (As := []) (rest := []) X h (c_X12_next l D ct ad L φ N0 σ_5 _ hw) rfl rfl ⟨Nat.le_of_ble_eq_true rfl, Nat.le_of_ble_eq_true rfl⟩ kw_2070 kw_2072 kw_73 kw_129 kw_2073 ⟨rfl, pd_X12_next⟩ (hF.1 12 rfl).1 rfl rfl rfl hl.1 rfl (Nat.le_of_ble_eq_true rfl) ⟨Nat.le_of_ble_eq_true rfl, Nat.le_of_ble_eq_true rfl⟩ dX12_statement_215) (fun σ_8 H locs hw h => ?_)
    refine lv_aload_n X.1 X.2.1 dX12_statement_218 rfl (lv_at hl 0 rfl) ?_
    refine lv_iload_n X.1 X.2.1 dX12_statement_219 rfl (lv_at hl 2 rfl) ?_
    refine k_i h (r_V (C := RX12) (ci := 12) (As := [.int (iv x2)]) (rest := []) X h (c_X12_takesCond l D ct ad L φ N0 σ_8 x2 _ hw) rfl rfl ⟨Nat.le_of_ble_eq_true rfl, Nat.le_of_ble_eq_true rfl⟩ kw_2100 kw_2102 kw_78 kw_129 kw_2103 ⟨rfl, pd_X12_takesCond⟩ (hF.1 12 rfl).1 rfl rfl rfl hl.1 rfl (Nat.le_of_ble_eq_true rfl) ⟨Nat.le_of_ble_eq_true rfl, Nat.le_of_ble_eq_true rfl⟩ dX12_statement_220) (fun r_10 σ_9 H locs hw h => ?_)
    obtain ⟨g_11, hwt, hwf⟩ := hw
    refine j_if_ne (tgt := 228) X g_11 dX12_statement_223 (by decide) (fun c_21 => ?_) (fun c_21 => ?_)
    · have hw := hwt c_21
      refine lv_aload_n X.1 X.2.1 dX12_statement_228 rfl (lv_at hl 0 rfl) ?_
      refine k_i h (r_V (C := RX12) (ci := 12) (As := []) (rest := []) X h (c_X12_signHere l D ct ad L φ N0 σ_9 _ hw) rfl rfl ⟨Nat.le_of_ble_eq_true rfl, Nat.le_of_ble_eq_true rfl⟩ kw_2125 kw_2127 kw_80 kw_129 kw_2128 ⟨rfl, pd_X12_signHere⟩ (hF.1 12 rfl).1 rfl rfl rfl hl.1 rfl (Nat.le_of_ble_eq_true rfl) ⟨Nat.le_of_ble_eq_true rfl, Nat.le_of_ble_eq_true rfl⟩ dX12_statement_229) (fun r_13 σ_12 H locs hw h => ?_)
      refine j_iconst X dX12_statement_232 ?_
      obtain ⟨g_14, hwt, hwf⟩ := hw
      refine j_cmp_eq (tgt := 242) X g_14 ⟨by decide, by decide⟩ dX12_statement_233 (by decide) (fun c_20 => ?_) (fun c_20 => ?_)
      · have hw := hwt c_20
        refine lv_aload_n X.1 X.2.1 dX12_statement_242 rfl (lv_at hl 0 rfl) ?_
        refine k_v h (r_V (C := RX12) (ci := 12) (As := []) (rest := []) X h (c_X12_next l D ct ad L φ N0 σ_12 _ hw) rfl rfl ⟨Nat.le_of_ble_eq_true rfl, Nat.le_of_ble_eq_true rfl⟩ kw_2070 kw_2072 kw_73 kw_129 kw_2073 ⟨rfl, pd_X12_next⟩ (hF.1 12 rfl).1 rfl rfl rfl hl.1 rfl (Nat.le_of_ble_eq_true rfl) ⟨Nat.le_of_ble_eq_true rfl, Nat.le_of_ble_eq_true rfl⟩ dX12_statement_243) (fun σ_15 H locs hw h => ?_)
        refine lv_aload_n X.1 X.2.1 dX12_statement_246 rfl (lv_at hl 0 rfl) ?_
        refine lv_dup X.1 X.2.1 dX12_statement_247 rfl ?_
        refine r_get (ci := 12) X inw_12 h (hF.1 12 rfl).1 rfl rfl 47 (by decide) kw_1685 rfl dX12_statement_248 ?_
        refine j_iconst X dX12_statement_251 ?_
        refine j_iadd X dX12_statement_252 ?_
        refine r_put (ci := 12) X inw_12 tyX12 tyX12_ok nmX12 h (hF.1 12 rfl).1 rfl rfl 47 (by decide) kw_1685 rfl rfl rfl (Nat.le_of_ble_eq_true rfl) rfl rfl dX12_statement_253 (fun H locs h => ?_)
        obtain ⟨σ_16, eσ_16⟩ : ∃ z : St, z = st σ_15 12 0 47 ((σ_15 12 0 47) + 1) := ⟨_, rfl⟩
        rw [← eσ_16] at h
        have hw := hw σ_16 eσ_16
        refine j_iconst X dX12_statement_256 ?_
        exact k_ir X rfl h hw dX12_statement_257
      · have hw := hwf c_20
        refine lv_aload_n X.1 X.2.1 dX12_statement_236 rfl (lv_at hl 0 rfl) ?_
        refine j_iconst X dX12_statement_237 ?_
        refine k_i h (r_V (C := RX12) (ci := 12) (As := [.int (iv 1)]) (rest := []) X h (c_X12_wrong l D ct ad L φ N0 σ_12 1 _ hw) rfl rfl ⟨Nat.le_of_ble_eq_true rfl, Nat.le_of_ble_eq_true rfl⟩ kw_2092 kw_2094 kw_77 kw_129 kw_2095 ⟨rfl, pd_X12_wrong⟩ (hF.1 12 rfl).1 rfl rfl rfl hl.1 rfl (Nat.le_of_ble_eq_true rfl) ⟨Nat.le_of_ble_eq_true rfl, Nat.le_of_ble_eq_true rfl⟩ dX12_statement_238) (fun r_18 σ_17 H locs hw h => ?_)
        obtain ⟨g_19, hw⟩ := hw
        exact k_ir X (nb_n g_19) h hw dX12_statement_241
    · have hw := hwf c_21
      refine j_iconst X dX12_statement_226 ?_
      exact k_ir X rfl h hw dX12_statement_227
  · have hw := hwf c_25
    refine lv_aload_n X.1 X.2.1 dX12_statement_208 rfl (lv_at hl 0 rfl) ?_
    refine j_iconst X dX12_statement_209 ?_
    refine k_i h (r_V (C := RX12) (ci := 12) (As := [.int (iv 1)]) (rest := []) X h (c_X12_wrong l D ct ad L φ N0 σ_5 1 _ hw) rfl rfl ⟨Nat.le_of_ble_eq_true rfl, Nat.le_of_ble_eq_true rfl⟩ kw_2092 kw_2094 kw_77 kw_129 kw_2095 ⟨rfl, pd_X12_wrong⟩ (hF.1 12 rfl).1 rfl rfl rfl hl.1 rfl (Nat.le_of_ble_eq_true rfl) ⟨Nat.le_of_ble_eq_true rfl, Nat.le_of_ble_eq_true rfl⟩ dX12_statement_210) (fun r_23 σ_22 H locs hw h => ?_)
    obtain ⟨g_24, hw⟩ := hw
    exact k_ir X (nb_n g_24) h hw dX12_statement_213
set_option maxRecDepth 100000 in
set_option maxHeartbeats 4000000 in
theorem lb_X12_statement_151 (X : Cx p s m meth c args cX12_statement 3 (some .boolean) RX12 D ct L φ N0) (σ : St) (x2 : Int) (y0 : Int) (H : Heap) (locs : List Loc) (ls : Array Slot) (hw : wp_X12_statement_151 Q σ x2 y0) (h : Hs D ct ad L φ N0 s.heap σ H locs) (hl : lv_has ls 3 [(0, .ref (ad 12 0)), (2, .int (iv x2))]) : W p l e ({ frames := 7, cells := 0, slots := 0, locals := 152 } : Room) s m args below meth c H locs 0 0 (MQ below (Qi D ct ad L φ N0 Q) args s 0 0 (AA N0)) (F0 m 151 ls [.int (iv y0)]) := by
  have hF := X.2.2.2.2.2.2.2.2.1
  unfold wp_X12_statement_151 at hw
  refine lv_istore_n (lv' := [(1, .int (iv y0)), (0, .ref (ad 12 0)), (2, .int (iv x2))]) X.1 X.2.1 dX12_statement_151 rfl hl (by decide) rfl (fun ls hl => ?_)
  refine lv_iload_n X.1 X.2.1 dX12_statement_152 rfl (lv_at hl 0 rfl) ?_
  refine j_iconst X dX12_statement_153 ?_
  obtain ⟨g_26, hwt, hwf⟩ := hw
  refine j_cmp_ne (tgt := 187) X g_26 ⟨by decide, by decide⟩ dX12_statement_154 (by decide) (fun c_30 => ?_) (fun c_30 => ?_)
  · have hw := hwt c_30
    exact lb_X12_statement_187 X σ y0 x2 _ _ _ hw h (lv_sub hl [1, 0, 2] rfl)
  · have hw := hwf c_30
    refine lv_aload_n X.1 X.2.1 dX12_statement_157 rfl (lv_at hl 1 rfl) ?_
    refine j_iconst X dX12_statement_158 ?_
    refine k_i h (r_V (C := RX12) (ci := 12) (As := [.int (iv 1)]) (rest := []) X h (c_X12_wrong l D ct ad L φ N0 σ 1 _ hw) rfl rfl ⟨Nat.le_of_ble_eq_true rfl, Nat.le_of_ble_eq_true rfl⟩ kw_2092 kw_2094 kw_77 kw_129 kw_2095 ⟨rfl, pd_X12_wrong⟩ (hF.1 12 rfl).1 rfl rfl rfl hl.1 rfl (Nat.le_of_ble_eq_true rfl) ⟨Nat.le_of_ble_eq_true rfl, Nat.le_of_ble_eq_true rfl⟩ dX12_statement_159) (fun r_28 σ_27 H locs hw h => ?_)
    obtain ⟨g_29, hw⟩ := hw
    exact k_ir X (nb_n g_29) h hw dX12_statement_162
set_option maxRecDepth 100000 in
set_option maxHeartbeats 4000000 in
theorem lb_X12_statement_57 (X : Cx p s m meth c args cX12_statement 3 (some .boolean) RX12 D ct L φ N0) (σ : St) (y0 : Int) (H : Heap) (locs : List Loc) (ls : Array Slot) (hw : wp_X12_statement_57 Q σ y0) (h : Hs D ct ad L φ N0 s.heap σ H locs) (hl : lv_has ls 3 [(0, .ref (ad 12 0))]) : W p l e ({ frames := 7, cells := 0, slots := 0, locals := 152 } : Room) s m args below meth c H locs 0 0 (MQ below (Qi D ct ad L φ N0 Q) args s 0 0 (AA N0)) (F0 m 57 ls [.int (iv y0)]) := by
  have hF := X.2.2.2.2.2.2.2.2.1
  unfold wp_X12_statement_57 at hw
  refine lv_istore_n (lv' := [(1, .int (iv y0)), (0, .ref (ad 12 0))]) X.1 X.2.1 dX12_statement_57 rfl hl (by decide) rfl (fun ls hl => ?_)
  refine lv_iload_n X.1 X.2.1 dX12_statement_58 rfl (lv_at hl 0 rfl) ?_
  refine j_iconst X dX12_statement_59 ?_
  obtain ⟨g_31, hwt, hwf⟩ := hw
  refine j_cmp_ne (tgt := 69) X g_31 ⟨by decide, by decide⟩ dX12_statement_60 (by decide) (fun c_67 => ?_) (fun c_67 => ?_)
  · have hw := hwt c_67
    refine lv_aload_n X.1 X.2.1 dX12_statement_69 rfl (lv_at hl 1 rfl) ?_
    refine r_get (ci := 12) X inw_12 h (hF.1 12 rfl).1 rfl rfl 47 (by decide) kw_1685 rfl dX12_statement_70 ?_
    refine j_bipush X dX12_statement_73 (by decide) ?_
    obtain ⟨g_32, hwt, hwf⟩ := hw
    refine j_cmp_ne (tgt := 84) X g_32 ⟨by decide, by decide⟩ dX12_statement_75 (by decide) (fun c_63 => ?_) (fun c_63 => ?_)
    · have hw := hwt c_63
      refine j_sipush X dX12_statement_84 (by decide) ?_
      refine lv_aload_n X.1 X.2.1 dX12_statement_87 rfl (lv_at hl 1 rfl) ?_
      refine r_get (ci := 12) X inw_12 h (hF.1 12 rfl).1 rfl rfl 47 (by decide) kw_1685 rfl dX12_statement_88 ?_
      refine j_iadd X dX12_statement_91 ?_
      refine j_bind (fun v_33 ev_33 => ?_)
      have hw := hw v_33 ev_33
      refine lv_istore_n (lv' := [(2, .int (iv v_33)), (1, .int (iv y0)), (0, .ref (ad 12 0))]) X.1 X.2.1 dX12_statement_92 rfl hl (by decide) rfl (fun ls hl => ?_)
      refine lv_aload_n X.1 X.2.1 dX12_statement_93 rfl (lv_at hl 2 rfl) ?_
      refine r_getR (ci := 12) X inw_12 h (hF.1 12 rfl).1 rfl rfl 37 (by decide) kw_1675 rfl ((hF.1 12 rfl).2 37) dX12_statement_94 ?_
      refine lv_iload_n X.1 X.2.1 dX12_statement_97 rfl (lv_at hl 0 rfl) ?_
      refine j_iconst X dX12_statement_98 ?_
      obtain ⟨g_34, g_35, hw⟩ := hw
      refine r_iast (n := 252) X h (hF.1 112 rfl).1 (fun _ => rfl) (by decide) g_34 g_35 rfl dX12_statement_99 (fun H locs h => ?_)
      obtain ⟨σ_36, eσ_36⟩ : ∃ z : St, z = st σ 112 0 (Int.toNat v_33) 0 := ⟨_, rfl⟩
      rw [← eσ_36] at h
      have hw := hw σ_36 eσ_36
      refine lv_aload_n X.1 X.2.1 dX12_statement_100 rfl (lv_at hl 2 rfl) ?_
      refine k_v h (r_V (C := RX12) (ci := 12) (As := []) (rest := []) X h (c_X12_next l D ct ad L φ N0 σ_36 _ hw) rfl rfl ⟨Nat.le_of_ble_eq_true rfl, Nat.le_of_ble_eq_true rfl⟩ kw_2070 kw_2072 kw_73 kw_129 kw_2073 ⟨rfl, pd_X12_next⟩ (hF.1 12 rfl).1 rfl rfl rfl hl.1 rfl (Nat.le_of_ble_eq_true rfl) ⟨Nat.le_of_ble_eq_true rfl, Nat.le_of_ble_eq_true rfl⟩ dX12_statement_101) (fun σ_37 H locs hw h => ?_)
      refine lv_iload_n X.1 X.2.1 dX12_statement_104 rfl (lv_at hl 1 rfl) ?_
      obtain ⟨g_38, hwt, hwf⟩ := hw
      refine j_if_ne (tgt := 163) X g_38 dX12_statement_105 (by decide) (fun c_59 => ?_) (fun c_59 => ?_)
      · have hw := hwt c_59
        refine lv_aload_n X.1 X.2.1 dX12_statement_163 rfl (lv_at hl 2 rfl) ?_
        refine r_get (ci := 12) X inw_12 h (hF.1 12 rfl).1 rfl rfl 51 (by decide) kw_1689 rfl dX12_statement_164 ?_
        refine j_iconst X dX12_statement_167 ?_
        obtain ⟨g_39, hwt, hwf⟩ := hw
        refine j_cmp_eq (tgt := 177) X g_39 ⟨by decide, by decide⟩ dX12_statement_168 (by decide) (fun c_46 => ?_) (fun c_46 => ?_)
        · have hw := hwt c_46
          refine lv_aload_n X.1 X.2.1 dX12_statement_177 rfl (lv_at hl 2 rfl) ?_
          refine r_getR (ci := 12) X inw_12 h (hF.1 12 rfl).1 rfl rfl 37 (by decide) kw_1675 rfl ((hF.1 12 rfl).2 37) dX12_statement_178 ?_
          refine lv_iload_n X.1 X.2.1 dX12_statement_181 rfl (lv_at hl 0 rfl) ?_
          refine lv_aload_n X.1 X.2.1 dX12_statement_182 rfl (lv_at hl 2 rfl) ?_
          refine r_get (ci := 12) X inw_12 h (hF.1 12 rfl).1 rfl rfl 50 (by decide) kw_1688 rfl dX12_statement_183 ?_
          obtain ⟨g_40, g_41, hw⟩ := hw
          refine r_iast (n := 252) X h (hF.1 112 rfl).1 (fun _ => rfl) (by decide) g_40 g_41 rfl dX12_statement_186 (fun H locs h => ?_)
          obtain ⟨σ_42, eσ_42⟩ : ∃ z : St, z = st σ_37 112 0 (Int.toNat v_33) (σ_37 12 0 50) := ⟨_, rfl⟩
          rw [← eσ_42] at h
          have hw := hw σ_42 eσ_42
          exact lb_X12_statement_187 X σ_42 y0 v_33 _ _ _ hw h (lv_sub hl [2, 1, 0] rfl)
        · have hw := hwf c_46
          refine lv_aload_n X.1 X.2.1 dX12_statement_171 rfl (lv_at hl 2 rfl) ?_
          refine j_iconst X dX12_statement_172 ?_
          refine k_i h (r_V (C := RX12) (ci := 12) (As := [.int (iv 1)]) (rest := []) X h (c_X12_wrong l D ct ad L φ N0 σ_37 1 _ hw) rfl rfl ⟨Nat.le_of_ble_eq_true rfl, Nat.le_of_ble_eq_true rfl⟩ kw_2092 kw_2094 kw_77 kw_129 kw_2095 ⟨rfl, pd_X12_wrong⟩ (hF.1 12 rfl).1 rfl rfl rfl hl.1 rfl (Nat.le_of_ble_eq_true rfl) ⟨Nat.le_of_ble_eq_true rfl, Nat.le_of_ble_eq_true rfl⟩ dX12_statement_173) (fun r_44 σ_43 H locs hw h => ?_)
          obtain ⟨g_45, hw⟩ := hw
          exact k_ir X (nb_n g_45) h hw dX12_statement_176
      · have hw := hwf c_59
        refine lv_aload_n X.1 X.2.1 dX12_statement_108 rfl (lv_at hl 2 rfl) ?_
        refine r_ldcwS X X.2.2.2.2.2.2.2.1.2.2.2.2.2.2.2.2.2.2.2.2.2.2.2.2.2.2.2.2.2.2.2.2.2.2.2.2.2.2.2.2.2.1 dX12_statement_109 ?_
        refine k_i h (r_V (C := RX12) (ci := 12) (As := [.ref (ct (2000 + 11))]) (rest := []) X h (c_X12_isWord l D ct ad L φ N0 σ_37 11 _ hw) rfl rfl ⟨Nat.le_of_ble_eq_true rfl, Nat.le_of_ble_eq_true rfl⟩ kw_2083 kw_2085 kw_76 kw_129 kw_2086 ⟨rfl, pd_X12_isWord⟩ (hF.1 12 rfl).1 rfl rfl rfl hl.1 rfl (Nat.le_of_ble_eq_true rfl) ⟨Nat.le_of_ble_eq_true rfl, Nat.le_of_ble_eq_true rfl⟩ dX12_statement_112) (fun r_48 σ_47 H locs hw h => ?_)
        obtain ⟨g_49, hwt, hwf⟩ := hw
        refine j_if_eq (tgt := 122) X g_49 dX12_statement_115 (by decide) (fun c_58 => ?_) (fun c_58 => ?_)
        · have hw := hwt c_58
          refine lv_aload_n X.1 X.2.1 dX12_statement_122 rfl (lv_at hl 2 rfl) ?_
          refine r_ldcwS X X.2.2.2.2.2.2.2.1.2.2.2.2.2.2.2.2.2.2.2.2.2.2.2.2.2.2.2.2.2.2.2.2.2.2.2.2.2.2.2.2.2.2.1 dX12_statement_123 ?_
          refine k_i h (r_V (C := RX12) (ci := 12) (As := [.ref (ct (2000 + 12))]) (rest := []) X h (c_X12_isWord l D ct ad L φ N0 σ_47 12 _ hw) rfl rfl ⟨Nat.le_of_ble_eq_true rfl, Nat.le_of_ble_eq_true rfl⟩ kw_2083 kw_2085 kw_76 kw_129 kw_2086 ⟨rfl, pd_X12_isWord⟩ (hF.1 12 rfl).1 rfl rfl rfl hl.1 rfl (Nat.le_of_ble_eq_true rfl) ⟨Nat.le_of_ble_eq_true rfl, Nat.le_of_ble_eq_true rfl⟩ dX12_statement_126) (fun r_51 σ_50 H locs hw h => ?_)
          obtain ⟨g_52, hwt, hwf⟩ := hw
          refine j_if_eq (tgt := 136) X g_52 dX12_statement_129 (by decide) (fun c_57 => ?_) (fun c_57 => ?_)
          · have hw := hwt c_57
            refine lv_aload_n X.1 X.2.1 dX12_statement_136 rfl (lv_at hl 2 rfl) ?_
            refine r_ldcwS X X.2.2.2.2.2.2.2.1.2.2.2.2.2.2.2.2.2.2.2.2.2.2.2.2.2.2.2.2.2.2.2.2.2.2.2.2.2.2.2.2.2.2.2.1 dX12_statement_137 ?_
            refine k_i h (r_V (C := RX12) (ci := 12) (As := [.ref (ct (2000 + 13))]) (rest := []) X h (c_X12_isWord l D ct ad L φ N0 σ_50 13 _ hw) rfl rfl ⟨Nat.le_of_ble_eq_true rfl, Nat.le_of_ble_eq_true rfl⟩ kw_2083 kw_2085 kw_76 kw_129 kw_2086 ⟨rfl, pd_X12_isWord⟩ (hF.1 12 rfl).1 rfl rfl rfl hl.1 rfl (Nat.le_of_ble_eq_true rfl) ⟨Nat.le_of_ble_eq_true rfl, Nat.le_of_ble_eq_true rfl⟩ dX12_statement_140) (fun r_54 σ_53 H locs hw h => ?_)
            obtain ⟨g_55, hwt, hwf⟩ := hw
            refine j_if_eq (tgt := 150) X g_55 dX12_statement_143 (by decide) (fun c_56 => ?_) (fun c_56 => ?_)
            · have hw := hwt c_56
              refine j_iconst X dX12_statement_150 ?_
              exact lb_X12_statement_151 X σ_53 v_33 (-1) _ _ _ hw h (lv_sub hl [2, 0] rfl)
            · have hw := hwf c_56
              refine j_iconst X dX12_statement_146 ?_
              refine lv_goto (tgt := 151) X.1 X.2.1 dX12_statement_147 (by decide) ?_
              exact lb_X12_statement_151 X σ_53 v_33 2 _ _ _ hw h (lv_sub hl [2, 0] rfl)
          · have hw := hwf c_57
            refine j_iconst X dX12_statement_132 ?_
            refine lv_goto (tgt := 151) X.1 X.2.1 dX12_statement_133 (by decide) ?_
            exact lb_X12_statement_151 X σ_50 v_33 1 _ _ _ hw h (lv_sub hl [2, 0] rfl)
        · have hw := hwf c_58
          refine j_iconst X dX12_statement_118 ?_
          refine lv_goto (tgt := 151) X.1 X.2.1 dX12_statement_119 (by decide) ?_
          exact lb_X12_statement_151 X σ_47 v_33 0 _ _ _ hw h (lv_sub hl [2, 0] rfl)
    · have hw := hwf c_63
      refine lv_aload_n X.1 X.2.1 dX12_statement_78 rfl (lv_at hl 1 rfl) ?_
      refine j_iconst X dX12_statement_79 ?_
      refine k_i h (r_V (C := RX12) (ci := 12) (As := [.int (iv 2)]) (rest := []) X h (c_X12_wrong l D ct ad L φ N0 σ 2 _ hw) rfl rfl ⟨Nat.le_of_ble_eq_true rfl, Nat.le_of_ble_eq_true rfl⟩ kw_2092 kw_2094 kw_77 kw_129 kw_2095 ⟨rfl, pd_X12_wrong⟩ (hF.1 12 rfl).1 rfl rfl rfl hl.1 rfl (Nat.le_of_ble_eq_true rfl) ⟨Nat.le_of_ble_eq_true rfl, Nat.le_of_ble_eq_true rfl⟩ dX12_statement_80) (fun r_61 σ_60 H locs hw h => ?_)
      obtain ⟨g_62, hw⟩ := hw
      exact k_ir X (nb_n g_62) h hw dX12_statement_83
  · have hw := hwf c_67
    refine lv_aload_n X.1 X.2.1 dX12_statement_63 rfl (lv_at hl 1 rfl) ?_
    refine j_iconst X dX12_statement_64 ?_
    refine k_i h (r_V (C := RX12) (ci := 12) (As := [.int (iv 1)]) (rest := []) X h (c_X12_wrong l D ct ad L φ N0 σ 1 _ hw) rfl rfl ⟨Nat.le_of_ble_eq_true rfl, Nat.le_of_ble_eq_true rfl⟩ kw_2092 kw_2094 kw_77 kw_129 kw_2095 ⟨rfl, pd_X12_wrong⟩ (hF.1 12 rfl).1 rfl rfl rfl hl.1 rfl (Nat.le_of_ble_eq_true rfl) ⟨Nat.le_of_ble_eq_true rfl, Nat.le_of_ble_eq_true rfl⟩ dX12_statement_65) (fun r_65 σ_64 H locs hw h => ?_)
    obtain ⟨g_66, hw⟩ := hw
    exact k_ir X (nb_n g_66) h hw dX12_statement_68
theorem pd_X12_statement : yX12_statement.cls ≠ "java/lang/invoke/MethodHandle" ∧ yX12_statement.cls ≠ "java/lang/invoke/VarHandle" ∧ (parseMethodDescriptor yX12_statement.desc).map (fun d => d.parameters.length) = some 0 := by decide +kernel
set_option maxRecDepth 100000 in
set_option maxHeartbeats 4000000 in
theorem c_X12_statement (l : Launch) (D : va_G) (ct : Nat → ClassId) (ad : Nat → Nat → Nat) (L : List (Nat × Nat)) (φ : Nat → Nat → Nat → Bool) (N0 : Nat) (σ : St) (Q : Int → St → Prop) (hw : wp_X12_statement σ Q) : Met l yX12_statement (.code yX12_statement cX12_statement 3 (some .boolean) :: gw) ({ frames := 7, cells := 0, slots := 0, locals := 152 } : Room) (Pm D ct ad L φ N0 σ [.ref (ad 12 0)]) (Qi D ct ad L φ N0 Q) 0 0 (AA N0) := by
  refine m_of (by decide) (fun p e s m below meth c X hnm h => ?_)
  have hF := X.2.2.2.2.2.2.2.2.1
  have hl := lv_entry ([.ref (ad 12 0)]) (n := 3) (Nat.le_of_ble_eq_true rfl)
  rw [lg_entry_eq]
  generalize (lg_sl ([.ref (ad 12 0)]) ++ List.replicate (3 - (lg_sl ([.ref (ad 12 0)])).length) Slot.unset).toArray = ls at hl ⊢
  have hl : lv_has ls 3 [(0, .ref (ad 12 0))] := hl
  have h : Hs D ct ad L φ N0 s.heap σ s.heap [] := h
  unfold wp_X12_statement at hw
  refine lv_aload_n X.1 X.2.1 dX12_statement_0 rfl (lv_at hl 0 rfl) ?_
  refine r_ldcwS X X.2.2.2.2.2.2.2.1.2.2.2.2.2.2.2.2.2.2.2.2.2.2.2.2.2.2.2.2.2.2.2.2.2.2.2.2.2.1 dX12_statement_1 ?_
  refine k_i h (r_V (C := RX12) (ci := 12) (As := [.ref (ct (2000 + 7))]) (rest := []) X h (c_X12_isWord l D ct ad L φ N0 σ 7 _ hw) rfl rfl ⟨Nat.le_of_ble_eq_true rfl, Nat.le_of_ble_eq_true rfl⟩ kw_2083 kw_2085 kw_76 kw_129 kw_2086 ⟨rfl, pd_X12_isWord⟩ (hF.1 12 rfl).1 rfl rfl rfl hl.1 rfl (Nat.le_of_ble_eq_true rfl) ⟨Nat.le_of_ble_eq_true rfl, Nat.le_of_ble_eq_true rfl⟩ dX12_statement_4) (fun r_69 σ_68 H locs hw h => ?_)
  obtain ⟨g_70, hwt, hwf⟩ := hw
  refine j_if_eq (tgt := 14) X g_70 dX12_statement_7 (by decide) (fun c_83 => ?_) (fun c_83 => ?_)
  · have hw := hwt c_83
    refine lv_aload_n X.1 X.2.1 dX12_statement_14 rfl (lv_at hl 0 rfl) ?_
    refine r_ldcwS X X.2.2.2.2.2.2.2.1.2.2.2.2.2.2.2.2.2.2.2.2.2.2.2.2.2.2.2.2.2.2.2.2.2.2.2.2.2.2.1 dX12_statement_15 ?_
    refine k_i h (r_V (C := RX12) (ci := 12) (As := [.ref (ct (2000 + 8))]) (rest := []) X h (c_X12_isWord l D ct ad L φ N0 σ_68 8 _ hw) rfl rfl ⟨Nat.le_of_ble_eq_true rfl, Nat.le_of_ble_eq_true rfl⟩ kw_2083 kw_2085 kw_76 kw_129 kw_2086 ⟨rfl, pd_X12_isWord⟩ (hF.1 12 rfl).1 rfl rfl rfl hl.1 rfl (Nat.le_of_ble_eq_true rfl) ⟨Nat.le_of_ble_eq_true rfl, Nat.le_of_ble_eq_true rfl⟩ dX12_statement_18) (fun r_72 σ_71 H locs hw h => ?_)
    obtain ⟨g_73, hwt, hwf⟩ := hw
    refine j_if_eq (tgt := 28) X g_73 dX12_statement_21 (by decide) (fun c_82 => ?_) (fun c_82 => ?_)
    · have hw := hwt c_82
      refine lv_aload_n X.1 X.2.1 dX12_statement_28 rfl (lv_at hl 0 rfl) ?_
      refine r_ldcwS X X.2.2.2.2.2.2.2.1.2.2.2.2.2.2.2.2.2.2.2.2.2.2.2.2.2.2.2.2.2.2.2.2.2.2.2.2.2.2.2.1 dX12_statement_29 ?_
      refine k_i h (r_V (C := RX12) (ci := 12) (As := [.ref (ct (2000 + 9))]) (rest := []) X h (c_X12_isWord l D ct ad L φ N0 σ_71 9 _ hw) rfl rfl ⟨Nat.le_of_ble_eq_true rfl, Nat.le_of_ble_eq_true rfl⟩ kw_2083 kw_2085 kw_76 kw_129 kw_2086 ⟨rfl, pd_X12_isWord⟩ (hF.1 12 rfl).1 rfl rfl rfl hl.1 rfl (Nat.le_of_ble_eq_true rfl) ⟨Nat.le_of_ble_eq_true rfl, Nat.le_of_ble_eq_true rfl⟩ dX12_statement_32) (fun r_75 σ_74 H locs hw h => ?_)
      obtain ⟨g_76, hwt, hwf⟩ := hw
      refine j_if_eq (tgt := 42) X g_76 dX12_statement_35 (by decide) (fun c_81 => ?_) (fun c_81 => ?_)
      · have hw := hwt c_81
        refine lv_aload_n X.1 X.2.1 dX12_statement_42 rfl (lv_at hl 0 rfl) ?_
        refine r_ldcwS X X.2.2.2.2.2.2.2.1.2.2.2.2.2.2.2.2.2.2.2.2.2.2.2.2.2.2.2.2.2.2.2.2.2.2.2.2.2.2.2.2.1 dX12_statement_43 ?_
        refine k_i h (r_V (C := RX12) (ci := 12) (As := [.ref (ct (2000 + 10))]) (rest := []) X h (c_X12_isWord l D ct ad L φ N0 σ_74 10 _ hw) rfl rfl ⟨Nat.le_of_ble_eq_true rfl, Nat.le_of_ble_eq_true rfl⟩ kw_2083 kw_2085 kw_76 kw_129 kw_2086 ⟨rfl, pd_X12_isWord⟩ (hF.1 12 rfl).1 rfl rfl rfl hl.1 rfl (Nat.le_of_ble_eq_true rfl) ⟨Nat.le_of_ble_eq_true rfl, Nat.le_of_ble_eq_true rfl⟩ dX12_statement_46) (fun r_78 σ_77 H locs hw h => ?_)
        obtain ⟨g_79, hwt, hwf⟩ := hw
        refine j_if_eq (tgt := 56) X g_79 dX12_statement_49 (by decide) (fun c_80 => ?_) (fun c_80 => ?_)
        · have hw := hwt c_80
          refine j_iconst X dX12_statement_56 ?_
          exact lb_X12_statement_57 X σ_77 (-1) _ _ _ hw h (lv_sub hl [0] rfl)
        · have hw := hwf c_80
          refine j_iconst X dX12_statement_52 ?_
          refine lv_goto (tgt := 57) X.1 X.2.1 dX12_statement_53 (by decide) ?_
          exact lb_X12_statement_57 X σ_77 5 _ _ _ hw h (lv_sub hl [0] rfl)
      · have hw := hwf c_81
        refine j_iconst X dX12_statement_38 ?_
        refine lv_goto (tgt := 57) X.1 X.2.1 dX12_statement_39 (by decide) ?_
        exact lb_X12_statement_57 X σ_74 4 _ _ _ hw h (lv_sub hl [0] rfl)
    · have hw := hwf c_82
      refine j_iconst X dX12_statement_24 ?_
      refine lv_goto (tgt := 57) X.1 X.2.1 dX12_statement_25 (by decide) ?_
      exact lb_X12_statement_57 X σ_71 3 _ _ _ hw h (lv_sub hl [0] rfl)
  · have hw := hwf c_83
    refine j_iconst X dX12_statement_10 ?_
    refine lv_goto (tgt := 57) X.1 X.2.1 dX12_statement_11 (by decide) ?_
    exact lb_X12_statement_57 X σ_68 0 _ _ _ hw h (lv_sub hl [0] rfl)
end
section
variable {p : Program} {l : Launch} {e : Env} {s : State} {m : MethodId} {args : Array Value} {below : List Frame} {meth : Method} {c : Code} {D : va_G} {ct : Nat → ClassId} {ad : Nat → Nat → Nat} {L : List (Nat × Nat)} {φ : Nat → Nat → Nat → Bool} {N0 : Nat}
variable {Q : Int → St → Prop}
set_option maxRecDepth 100000 in
set_option maxHeartbeats 4000000 in
theorem lb_X12_law_310 (X : Cx p s m meth c args cX12_law 4 (some .int) RX12 D ct L φ N0) (σ : St) (H : Heap) (locs : List Loc) (ls : Array Slot) (hw : wp_X12_law_310 Q σ) (h : Hs D ct ad L φ N0 s.heap σ H locs) (hl : lv_has ls 4 [(0, .ref (ad 12 0))]) : W p l e ({ frames := 8, cells := 0, slots := 0, locals := 174 } : Room) s m args below meth c H locs 0 0 (MQ below (Qi D ct ad L φ N0 Q) args s 0 0 (AA N0)) (F0 m 310 ls []) := by
  have hF := X.2.2.2.2.2.2.2.2.1
  unfold wp_X12_law_310 at hw
  refine lv_aload_n X.1 X.2.1 dX12_law_310 rfl (lv_at hl 0 rfl) ?_
  refine lv_dup X.1 X.2.1 dX12_law_311 rfl ?_
  refine r_get (ci := 12) X inw_12 h (hF.1 12 rfl).1 rfl rfl 33 (by decide) kw_1671 rfl dX12_law_312 ?_
  refine j_iconst X dX12_law_315 ?_
  refine j_iadd X dX12_law_316 ?_
  refine r_put (ci := 12) X inw_12 tyX12 tyX12_ok nmX12 h (hF.1 12 rfl).1 rfl rfl 33 (by decide) kw_1671 rfl rfl rfl (Nat.le_of_ble_eq_true rfl) rfl rfl dX12_law_317 (fun H locs h => ?_)
  obtain ⟨σ_1, eσ_1⟩ : ∃ z : St, z = st σ 12 0 33 ((σ 12 0 33) + 1) := ⟨_, rfl⟩
  rw [← eσ_1] at h
  have hw := hw σ_1 eσ_1
  refine lv_aload_n X.1 X.2.1 dX12_law_320 rfl (lv_at hl 0 rfl) ?_
  refine r_get (ci := 12) X inw_12 h (hF.1 12 rfl).1 rfl rfl 47 (by decide) kw_1685 rfl dX12_law_321 ?_
  exact k_ir X rfl h hw dX12_law_324
set_option maxRecDepth 100000 in
set_option maxHeartbeats 4000000 in
theorem lb_X12_law_202 (X : Cx p s m meth c args cX12_law 4 (some .int) RX12 D ct L φ N0) {K310 : St → Prop} (hK310 : ∀ (σ : St) (H : Heap) (locs : List Loc) (ls : Array Slot), K310 σ → Hs D ct ad L φ N0 s.heap σ H locs → lv_has ls 4 [(0, .ref (ad 12 0))] → W p l e ({ frames := 8, cells := 0, slots := 0, locals := 174 } : Room) s m args below meth c H locs 0 0 (MQ below (Qi D ct ad L φ N0 Q) args s 0 0 (AA N0)) (F0 m 310 ls [])) : ∀ (n : Nat) (σ : St) (x3 : Int) (H : Heap) (locs : List Loc) (ls : Array Slot), wp_X12_law_202 K310 Q n σ x3 → Hs D ct ad L φ N0 s.heap σ H locs → lv_has ls 4 [(0, .ref (ad 12 0)), (3, .int (iv x3))] → W p l e ({ frames := 8, cells := 0, slots := 0, locals := 174 } : Room) s m args below meth c H locs 0 0 (MQ below (Qi D ct ad L φ N0 Q) args s 0 0 (AA N0)) (F0 m 202 ls []) := by
  have hF := X.2.2.2.2.2.2.2.2.1
  intro n
  induction n with
  | zero => intro σ x3 H locs ls hw; exact hw.elim
  | succ n ih =>
    intro σ x3 H locs ls hw h hl
    unfold wp_X12_law_202 at hw
    refine lv_iload_n X.1 X.2.1 dX12_law_202 rfl (lv_at hl 1 rfl) ?_
    refine j_bipush X dX12_law_203 (by decide) ?_
    obtain ⟨g_2, hwt, hwf⟩ := hw
    refine j_cmp_ge (tgt := 310) X g_2 ⟨by decide, by decide⟩ dX12_law_205 (by decide) (fun c_24 => ?_) (fun c_24 => ?_)
    · have hw := hwt c_24
      exact hK310 σ _ _ _ hw h (lv_sub hl [0] rfl)
    · have hw := hwf c_24
      refine lv_aload_n X.1 X.2.1 dX12_law_208 rfl (lv_at hl 0 rfl) ?_
      refine r_getR (ci := 12) X inw_12 h (hF.1 12 rfl).1 rfl rfl 39 (by decide) kw_1677 rfl ((hF.1 12 rfl).2 39) dX12_law_209 ?_
      refine j_bipush X dX12_law_212 (by decide) ?_
      refine lv_aload_n X.1 X.2.1 dX12_law_214 rfl (lv_at hl 0 rfl) ?_
      refine r_get (ci := 12) X inw_12 h (hF.1 12 rfl).1 rfl rfl 33 (by decide) kw_1671 rfl dX12_law_215 ?_
      refine j_imul X dX12_law_218 ?_
      refine lv_iload_n X.1 X.2.1 dX12_law_219 rfl (lv_at hl 1 rfl) ?_
      refine j_iadd X dX12_law_220 ?_
      refine lv_aload_n X.1 X.2.1 dX12_law_221 rfl (lv_at hl 0 rfl) ?_
      refine r_getR (ci := 12) X inw_12 h (hF.1 12 rfl).1 rfl rfl 39 (by decide) kw_1677 rfl ((hF.1 12 rfl).2 39) dX12_law_222 ?_
      refine j_sipush X dX12_law_225 (by decide) ?_
      refine lv_iload_n X.1 X.2.1 dX12_law_228 rfl (lv_at hl 1 rfl) ?_
      refine j_iadd X dX12_law_229 ?_
      obtain ⟨g_3, g_4, hw⟩ := hw
      refine r_zald (n := 1260) X h (hF.1 114 rfl).1 rfl (by decide) g_3 g_4 dX12_law_230 ?_
      obtain ⟨g_5, g_6, g_7, hw⟩ := hw
      refine r_zast (n := 1260) X h (hF.1 114 rfl).1 (fun _ => rfl) (by decide) g_5 g_6 rfl (nb_v g_7) dX12_law_231 (fun H locs h => ?_)
      obtain ⟨σ_8, eσ_8⟩ : ∃ z : St, z = st σ 114 0 (Int.toNat ((60 * (σ 12 0 33)) + x3)) (σ 114 0 (Int.toNat (1200 + x3))) := ⟨_, rfl⟩
      rw [← eσ_8] at h
      have hw := hw σ_8 eσ_8
      refine lv_aload_n X.1 X.2.1 dX12_law_232 rfl (lv_at hl 0 rfl) ?_
      refine r_getR (ci := 12) X inw_12 h (hF.1 12 rfl).1 rfl rfl 40 (by decide) kw_1678 rfl ((hF.1 12 rfl).2 40) dX12_law_233 ?_
      refine j_bipush X dX12_law_236 (by decide) ?_
      refine lv_aload_n X.1 X.2.1 dX12_law_238 rfl (lv_at hl 0 rfl) ?_
      refine r_get (ci := 12) X inw_12 h (hF.1 12 rfl).1 rfl rfl 33 (by decide) kw_1671 rfl dX12_law_239 ?_
      refine j_imul X dX12_law_242 ?_
      refine lv_iload_n X.1 X.2.1 dX12_law_243 rfl (lv_at hl 1 rfl) ?_
      refine j_iadd X dX12_law_244 ?_
      refine lv_aload_n X.1 X.2.1 dX12_law_245 rfl (lv_at hl 0 rfl) ?_
      refine r_getR (ci := 12) X inw_12 h (hF.1 12 rfl).1 rfl rfl 40 (by decide) kw_1678 rfl ((hF.1 12 rfl).2 40) dX12_law_246 ?_
      refine j_sipush X dX12_law_249 (by decide) ?_
      refine lv_iload_n X.1 X.2.1 dX12_law_252 rfl (lv_at hl 1 rfl) ?_
      refine j_iadd X dX12_law_253 ?_
      obtain ⟨g_9, g_10, hw⟩ := hw
      refine r_iald (n := 1260) X h (hF.1 115 rfl).1 rfl (by decide) g_9 g_10 dX12_law_254 ?_
      obtain ⟨g_11, g_12, hw⟩ := hw
      refine r_iast (n := 1260) X h (hF.1 115 rfl).1 (fun _ => rfl) (by decide) g_11 g_12 rfl dX12_law_255 (fun H locs h => ?_)
      obtain ⟨σ_13, eσ_13⟩ : ∃ z : St, z = st σ_8 115 0 (Int.toNat ((60 * (σ_8 12 0 33)) + x3)) (σ_8 115 0 (Int.toNat (1200 + x3))) := ⟨_, rfl⟩
      rw [← eσ_13] at h
      have hw := hw σ_13 eσ_13
      refine lv_aload_n X.1 X.2.1 dX12_law_256 rfl (lv_at hl 0 rfl) ?_
      refine r_getR (ci := 12) X inw_12 h (hF.1 12 rfl).1 rfl rfl 41 (by decide) kw_1679 rfl ((hF.1 12 rfl).2 41) dX12_law_257 ?_
      refine j_bipush X dX12_law_260 (by decide) ?_
      refine lv_aload_n X.1 X.2.1 dX12_law_262 rfl (lv_at hl 0 rfl) ?_
      refine r_get (ci := 12) X inw_12 h (hF.1 12 rfl).1 rfl rfl 33 (by decide) kw_1671 rfl dX12_law_263 ?_
      refine j_imul X dX12_law_266 ?_
      refine lv_iload_n X.1 X.2.1 dX12_law_267 rfl (lv_at hl 1 rfl) ?_
      refine j_iadd X dX12_law_268 ?_
      refine lv_aload_n X.1 X.2.1 dX12_law_269 rfl (lv_at hl 0 rfl) ?_
      refine r_getR (ci := 12) X inw_12 h (hF.1 12 rfl).1 rfl rfl 41 (by decide) kw_1679 rfl ((hF.1 12 rfl).2 41) dX12_law_270 ?_
      refine j_sipush X dX12_law_273 (by decide) ?_
      refine lv_iload_n X.1 X.2.1 dX12_law_276 rfl (lv_at hl 1 rfl) ?_
      refine j_iadd X dX12_law_277 ?_
      obtain ⟨g_14, g_15, hw⟩ := hw
      refine r_iald (n := 1260) X h (hF.1 116 rfl).1 rfl (by decide) g_14 g_15 dX12_law_278 ?_
      obtain ⟨g_16, g_17, hw⟩ := hw
      refine r_iast (n := 1260) X h (hF.1 116 rfl).1 (fun _ => rfl) (by decide) g_16 g_17 rfl dX12_law_279 (fun H locs h => ?_)
      obtain ⟨σ_18, eσ_18⟩ : ∃ z : St, z = st σ_13 116 0 (Int.toNat ((60 * (σ_13 12 0 33)) + x3)) (σ_13 116 0 (Int.toNat (1200 + x3))) := ⟨_, rfl⟩
      rw [← eσ_18] at h
      have hw := hw σ_18 eσ_18
      refine lv_aload_n X.1 X.2.1 dX12_law_280 rfl (lv_at hl 0 rfl) ?_
      refine r_getR (ci := 12) X inw_12 h (hF.1 12 rfl).1 rfl rfl 42 (by decide) kw_1680 rfl ((hF.1 12 rfl).2 42) dX12_law_281 ?_
      refine j_bipush X dX12_law_284 (by decide) ?_
      refine lv_aload_n X.1 X.2.1 dX12_law_286 rfl (lv_at hl 0 rfl) ?_
      refine r_get (ci := 12) X inw_12 h (hF.1 12 rfl).1 rfl rfl 33 (by decide) kw_1671 rfl dX12_law_287 ?_
      refine j_imul X dX12_law_290 ?_
      refine lv_iload_n X.1 X.2.1 dX12_law_291 rfl (lv_at hl 1 rfl) ?_
      refine j_iadd X dX12_law_292 ?_
      refine lv_aload_n X.1 X.2.1 dX12_law_293 rfl (lv_at hl 0 rfl) ?_
      refine r_getR (ci := 12) X inw_12 h (hF.1 12 rfl).1 rfl rfl 42 (by decide) kw_1680 rfl ((hF.1 12 rfl).2 42) dX12_law_294 ?_
      refine j_sipush X dX12_law_297 (by decide) ?_
      refine lv_iload_n X.1 X.2.1 dX12_law_300 rfl (lv_at hl 1 rfl) ?_
      refine j_iadd X dX12_law_301 ?_
      obtain ⟨g_19, g_20, hw⟩ := hw
      refine r_iald (n := 1260) X h (hF.1 117 rfl).1 rfl (by decide) g_19 g_20 dX12_law_302 ?_
      obtain ⟨g_21, g_22, hw⟩ := hw
      refine r_iast (n := 1260) X h (hF.1 117 rfl).1 (fun _ => rfl) (by decide) g_21 g_22 rfl dX12_law_303 (fun H locs h => ?_)
      obtain ⟨σ_23, eσ_23⟩ : ∃ z : St, z = st σ_18 117 0 (Int.toNat ((60 * (σ_18 12 0 33)) + x3)) (σ_18 117 0 (Int.toNat (1200 + x3))) := ⟨_, rfl⟩
      rw [← eσ_23] at h
      have hw := hw σ_23 eσ_23
      refine j_iinc (kk9 := 1) (lv' := [(3, .int (iv (x3 + 1))), (0, .ref (ad 12 0))]) X dX12_law_304 hl rfl (by decide) rfl (fun ls hl => ?_)
      refine lv_goto (tgt := 202) X.1 X.2.1 dX12_law_307 (by decide) ?_
      exact ih σ_23 (x3 + 1) _ _ _ hw h (lv_sub hl [1, 0] rfl)
set_option maxRecDepth 100000 in
set_option maxHeartbeats 4000000 in
theorem lb_X12_law_200 (X : Cx p s m meth c args cX12_law 4 (some .int) RX12 D ct L φ N0) (σ : St) (H : Heap) (locs : List Loc) (ls : Array Slot) (hw : wp_X12_law_200 Q σ) (h : Hs D ct ad L φ N0 s.heap σ H locs) (hl : lv_has ls 4 [(0, .ref (ad 12 0))]) : W p l e ({ frames := 8, cells := 0, slots := 0, locals := 174 } : Room) s m args below meth c H locs 0 0 (MQ below (Qi D ct ad L φ N0 Q) args s 0 0 (AA N0)) (F0 m 200 ls []) := by
  have hF := X.2.2.2.2.2.2.2.2.1
  unfold wp_X12_law_200 at hw
  refine j_iconst X dX12_law_200 ?_
  refine lv_istore_n (lv' := [(3, .int (iv 0)), (0, .ref (ad 12 0))]) X.1 X.2.1 dX12_law_201 rfl hl (by decide) rfl (fun ls hl => ?_)
  exact hw.elim (fun n202 hw => lb_X12_law_202 X (lb_X12_law_310 X) n202 σ 0 _ _ _ hw h (lv_sub hl [1, 0] rfl))
set_option maxRecDepth 100000 in
set_option maxHeartbeats 4000000 in
theorem lb_X12_law_116 (X : Cx p s m meth c args cX12_law 4 (some .int) RX12 D ct L φ N0) {K200 : St → Prop} (hK200 : ∀ (σ : St) (H : Heap) (locs : List Loc) (ls : Array Slot), K200 σ → Hs D ct ad L φ N0 s.heap σ H locs → lv_has ls 4 [(0, .ref (ad 12 0))] → W p l e ({ frames := 8, cells := 0, slots := 0, locals := 174 } : Room) s m args below meth c H locs 0 0 (MQ below (Qi D ct ad L φ N0 Q) args s 0 0 (AA N0)) (F0 m 200 ls [])) : ∀ (n : Nat) (σ : St) (x3 : Int) (H : Heap) (locs : List Loc) (ls : Array Slot), wp_X12_law_116 K200 Q n σ x3 → Hs D ct ad L φ N0 s.heap σ H locs → lv_has ls 4 [(0, .ref (ad 12 0)), (3, .int (iv x3))] → W p l e ({ frames := 8, cells := 0, slots := 0, locals := 174 } : Room) s m args below meth c H locs 0 0 (MQ below (Qi D ct ad L φ N0 Q) args s 0 0 (AA N0)) (F0 m 116 ls []) := by
  have hF := X.2.2.2.2.2.2.2.2.1
  intro n
  induction n with
  | zero => intro σ x3 H locs ls hw; exact hw.elim
  | succ n ih =>
    intro σ x3 H locs ls hw h hl
    unfold wp_X12_law_116 at hw
    refine lv_iload_n X.1 X.2.1 dX12_law_116 rfl (lv_at hl 1 rfl) ?_
    refine j_bipush X dX12_law_117 (by decide) ?_
    obtain ⟨g_25, hwt, hwf⟩ := hw
    refine j_cmp_ge (tgt := 200) X g_25 ⟨by decide, by decide⟩ dX12_law_119 (by decide) (fun c_41 => ?_) (fun c_41 => ?_)
    · have hw := hwt c_41
      exact hK200 σ _ _ _ hw h (lv_sub hl [0] rfl)
    · have hw := hwf c_41
      refine lv_aload_n X.1 X.2.1 dX12_law_122 rfl (lv_at hl 0 rfl) ?_
      refine r_getR (ci := 12) X inw_12 h (hF.1 12 rfl).1 rfl rfl 36 (by decide) kw_1674 rfl ((hF.1 12 rfl).2 36) dX12_law_123 ?_
      refine j_bipush X dX12_law_126 (by decide) ?_
      refine lv_aload_n X.1 X.2.1 dX12_law_128 rfl (lv_at hl 0 rfl) ?_
      refine r_get (ci := 12) X inw_12 h (hF.1 12 rfl).1 rfl rfl 33 (by decide) kw_1671 rfl dX12_law_129 ?_
      refine j_imul X dX12_law_132 ?_
      refine lv_iload_n X.1 X.2.1 dX12_law_133 rfl (lv_at hl 1 rfl) ?_
      refine j_iadd X dX12_law_134 ?_
      refine lv_aload_n X.1 X.2.1 dX12_law_135 rfl (lv_at hl 0 rfl) ?_
      refine r_getR (ci := 12) X inw_12 h (hF.1 12 rfl).1 rfl rfl 36 (by decide) kw_1674 rfl ((hF.1 12 rfl).2 36) dX12_law_136 ?_
      refine j_sipush X dX12_law_139 (by decide) ?_
      refine lv_iload_n X.1 X.2.1 dX12_law_142 rfl (lv_at hl 1 rfl) ?_
      refine j_iadd X dX12_law_143 ?_
      obtain ⟨g_26, g_27, hw⟩ := hw
      refine r_iald (n := 252) X h (hF.1 111 rfl).1 rfl (by decide) g_26 g_27 dX12_law_144 ?_
      obtain ⟨g_28, g_29, hw⟩ := hw
      refine r_iast (n := 252) X h (hF.1 111 rfl).1 (fun _ => rfl) (by decide) g_28 g_29 rfl dX12_law_145 (fun H locs h => ?_)
      obtain ⟨σ_30, eσ_30⟩ : ∃ z : St, z = st σ 111 0 (Int.toNat ((12 * (σ 12 0 33)) + x3)) (σ 111 0 (Int.toNat (240 + x3))) := ⟨_, rfl⟩
      rw [← eσ_30] at h
      have hw := hw σ_30 eσ_30
      refine lv_aload_n X.1 X.2.1 dX12_law_146 rfl (lv_at hl 0 rfl) ?_
      refine r_getR (ci := 12) X inw_12 h (hF.1 12 rfl).1 rfl rfl 37 (by decide) kw_1675 rfl ((hF.1 12 rfl).2 37) dX12_law_147 ?_
      refine j_bipush X dX12_law_150 (by decide) ?_
      refine lv_aload_n X.1 X.2.1 dX12_law_152 rfl (lv_at hl 0 rfl) ?_
      refine r_get (ci := 12) X inw_12 h (hF.1 12 rfl).1 rfl rfl 33 (by decide) kw_1671 rfl dX12_law_153 ?_
      refine j_imul X dX12_law_156 ?_
      refine lv_iload_n X.1 X.2.1 dX12_law_157 rfl (lv_at hl 1 rfl) ?_
      refine j_iadd X dX12_law_158 ?_
      refine lv_aload_n X.1 X.2.1 dX12_law_159 rfl (lv_at hl 0 rfl) ?_
      refine r_getR (ci := 12) X inw_12 h (hF.1 12 rfl).1 rfl rfl 37 (by decide) kw_1675 rfl ((hF.1 12 rfl).2 37) dX12_law_160 ?_
      refine j_sipush X dX12_law_163 (by decide) ?_
      refine lv_iload_n X.1 X.2.1 dX12_law_166 rfl (lv_at hl 1 rfl) ?_
      refine j_iadd X dX12_law_167 ?_
      obtain ⟨g_31, g_32, hw⟩ := hw
      refine r_iald (n := 252) X h (hF.1 112 rfl).1 rfl (by decide) g_31 g_32 dX12_law_168 ?_
      obtain ⟨g_33, g_34, hw⟩ := hw
      refine r_iast (n := 252) X h (hF.1 112 rfl).1 (fun _ => rfl) (by decide) g_33 g_34 rfl dX12_law_169 (fun H locs h => ?_)
      obtain ⟨σ_35, eσ_35⟩ : ∃ z : St, z = st σ_30 112 0 (Int.toNat ((12 * (σ_30 12 0 33)) + x3)) (σ_30 112 0 (Int.toNat (240 + x3))) := ⟨_, rfl⟩
      rw [← eσ_35] at h
      have hw := hw σ_35 eσ_35
      refine lv_aload_n X.1 X.2.1 dX12_law_170 rfl (lv_at hl 0 rfl) ?_
      refine r_getR (ci := 12) X inw_12 h (hF.1 12 rfl).1 rfl rfl 38 (by decide) kw_1676 rfl ((hF.1 12 rfl).2 38) dX12_law_171 ?_
      refine j_bipush X dX12_law_174 (by decide) ?_
      refine lv_aload_n X.1 X.2.1 dX12_law_176 rfl (lv_at hl 0 rfl) ?_
      refine r_get (ci := 12) X inw_12 h (hF.1 12 rfl).1 rfl rfl 33 (by decide) kw_1671 rfl dX12_law_177 ?_
      refine j_imul X dX12_law_180 ?_
      refine lv_iload_n X.1 X.2.1 dX12_law_181 rfl (lv_at hl 1 rfl) ?_
      refine j_iadd X dX12_law_182 ?_
      refine lv_aload_n X.1 X.2.1 dX12_law_183 rfl (lv_at hl 0 rfl) ?_
      refine r_getR (ci := 12) X inw_12 h (hF.1 12 rfl).1 rfl rfl 38 (by decide) kw_1676 rfl ((hF.1 12 rfl).2 38) dX12_law_184 ?_
      refine j_sipush X dX12_law_187 (by decide) ?_
      refine lv_iload_n X.1 X.2.1 dX12_law_190 rfl (lv_at hl 1 rfl) ?_
      refine j_iadd X dX12_law_191 ?_
      obtain ⟨g_36, g_37, hw⟩ := hw
      refine r_iald (n := 252) X h (hF.1 113 rfl).1 rfl (by decide) g_36 g_37 dX12_law_192 ?_
      obtain ⟨g_38, g_39, hw⟩ := hw
      refine r_iast (n := 252) X h (hF.1 113 rfl).1 (fun _ => rfl) (by decide) g_38 g_39 rfl dX12_law_193 (fun H locs h => ?_)
      obtain ⟨σ_40, eσ_40⟩ : ∃ z : St, z = st σ_35 113 0 (Int.toNat ((12 * (σ_35 12 0 33)) + x3)) (σ_35 113 0 (Int.toNat (240 + x3))) := ⟨_, rfl⟩
      rw [← eσ_40] at h
      have hw := hw σ_40 eσ_40
      refine j_iinc (kk9 := 1) (lv' := [(3, .int (iv (x3 + 1))), (0, .ref (ad 12 0))]) X dX12_law_194 hl rfl (by decide) rfl (fun ls hl => ?_)
      refine lv_goto (tgt := 116) X.1 X.2.1 dX12_law_197 (by decide) ?_
      exact ih σ_40 (x3 + 1) _ _ _ hw h (lv_sub hl [1, 0] rfl)
set_option maxRecDepth 100000 in
set_option maxHeartbeats 4000000 in
theorem lb_X12_law_72 (X : Cx p s m meth c args cX12_law 4 (some .int) RX12 D ct L φ N0) (σ : St) (x1 : Int) (H : Heap) (locs : List Loc) (ls : Array Slot) (hw : wp_X12_law_72 Q σ x1) (h : Hs D ct ad L φ N0 s.heap σ H locs) (hl : lv_has ls 4 [(0, .ref (ad 12 0)), (1, .int (iv x1))]) : W p l e ({ frames := 8, cells := 0, slots := 0, locals := 174 } : Room) s m args below meth c H locs 0 0 (MQ below (Qi D ct ad L φ N0 Q) args s 0 0 (AA N0)) (F0 m 72 ls []) := by
  have hF := X.2.2.2.2.2.2.2.2.1
  unfold wp_X12_law_72 at hw
  refine lv_aload_n X.1 X.2.1 dX12_law_72 rfl (lv_at hl 0 rfl) ?_
  refine j_iconst X dX12_law_73 ?_
  refine r_put (ci := 12) X inw_12 tyX12 tyX12_ok nmX12 h (hF.1 12 rfl).1 rfl rfl 44 (by decide) kw_1682 rfl rfl rfl (Nat.le_of_ble_eq_true rfl) rfl rfl dX12_law_74 (fun H locs h => ?_)
  obtain ⟨σ_42, eσ_42⟩ : ∃ z : St, z = st σ 12 0 44 0 := ⟨_, rfl⟩
  rw [← eσ_42] at h
  have hw := hw σ_42 eσ_42
  refine lv_aload_n X.1 X.2.1 dX12_law_77 rfl (lv_at hl 0 rfl) ?_
  refine r_get (ci := 12) X inw_12 h (hF.1 12 rfl).1 rfl rfl 45 (by decide) kw_1683 rfl dX12_law_78 ?_
  obtain ⟨g_43, hwt, hwf⟩ := hw
  refine j_if_le (tgt := 91) X g_43 dX12_law_81 (by decide) (fun c_50 => ?_) (fun c_50 => ?_)
  · have hw := hwt c_50
    refine lv_aload_n X.1 X.2.1 dX12_law_91 rfl (lv_at hl 0 rfl) ?_
    refine r_getR (ci := 12) X inw_12 h (hF.1 12 rfl).1 rfl rfl 34 (by decide) kw_1672 rfl ((hF.1 12 rfl).2 34) dX12_law_92 ?_
    refine lv_aload_n X.1 X.2.1 dX12_law_95 rfl (lv_at hl 0 rfl) ?_
    refine r_get (ci := 12) X inw_12 h (hF.1 12 rfl).1 rfl rfl 33 (by decide) kw_1671 rfl dX12_law_96 ?_
    refine lv_iload_n X.1 X.2.1 dX12_law_99 rfl (lv_at hl 1 rfl) ?_
    obtain ⟨g_44, g_45, hw⟩ := hw
    refine r_iast (n := 20) X h (hF.1 109 rfl).1 (fun _ => rfl) (by decide) g_44 g_45 rfl dX12_law_100 (fun H locs h => ?_)
    obtain ⟨σ_46, eσ_46⟩ : ∃ z : St, z = st σ_42 109 0 (Int.toNat (σ_42 12 0 33)) x1 := ⟨_, rfl⟩
    rw [← eσ_46] at h
    have hw := hw σ_46 eσ_46
    refine lv_aload_n X.1 X.2.1 dX12_law_101 rfl (lv_at hl 0 rfl) ?_
    refine r_getR (ci := 12) X inw_12 h (hF.1 12 rfl).1 rfl rfl 35 (by decide) kw_1673 rfl ((hF.1 12 rfl).2 35) dX12_law_102 ?_
    refine lv_aload_n X.1 X.2.1 dX12_law_105 rfl (lv_at hl 0 rfl) ?_
    refine r_get (ci := 12) X inw_12 h (hF.1 12 rfl).1 rfl rfl 33 (by decide) kw_1671 rfl dX12_law_106 ?_
    refine lv_aload_n X.1 X.2.1 dX12_law_109 rfl (lv_at hl 0 rfl) ?_
    refine r_get (ci := 12) X inw_12 h (hF.1 12 rfl).1 rfl rfl 47 (by decide) kw_1685 rfl dX12_law_110 ?_
    obtain ⟨g_47, g_48, hw⟩ := hw
    refine r_iast (n := 21) X h (hF.1 110 rfl).1 (fun _ => rfl) (by decide) g_47 g_48 rfl dX12_law_113 (fun H locs h => ?_)
    obtain ⟨σ_49, eσ_49⟩ : ∃ z : St, z = st σ_46 110 0 (Int.toNat (σ_46 12 0 33)) (σ_46 12 0 47) := ⟨_, rfl⟩
    rw [← eσ_49] at h
    have hw := hw σ_49 eσ_49
    refine j_iconst X dX12_law_114 ?_
    refine lv_istore_n (lv' := [(3, .int (iv 0)), (0, .ref (ad 12 0)), (1, .int (iv x1))]) X.1 X.2.1 dX12_law_115 rfl hl (by decide) rfl (fun ls hl => ?_)
    exact hw.elim (fun n116 hw => lb_X12_law_116 X (lb_X12_law_200 X) n116 σ_49 0 _ _ _ hw h (lv_sub hl [1, 0] rfl))
  · have hw := hwf c_50
    refine j_iconst X dX12_law_84 ?_
    refine lv_aload_n X.1 X.2.1 dX12_law_85 rfl (lv_at hl 0 rfl) ?_
    refine r_get (ci := 12) X inw_12 h (hF.1 12 rfl).1 rfl rfl 45 (by decide) kw_1683 rfl dX12_law_86 ?_
    refine j_isub X dX12_law_89 ?_
    exact k_ir X rfl h hw dX12_law_90
set_option maxRecDepth 100000 in
set_option maxHeartbeats 4000000 in
theorem lb_X12_law_53 (X : Cx p s m meth c args cX12_law 4 (some .int) RX12 D ct L φ N0) {K72 : St → Int → Prop} (hK72 : ∀ (σ : St) (x1 : Int) (H : Heap) (locs : List Loc) (ls : Array Slot), K72 σ x1 → Hs D ct ad L φ N0 s.heap σ H locs → lv_has ls 4 [(0, .ref (ad 12 0)), (1, .int (iv x1))] → W p l e ({ frames := 8, cells := 0, slots := 0, locals := 174 } : Room) s m args below meth c H locs 0 0 (MQ below (Qi D ct ad L φ N0 Q) args s 0 0 (AA N0)) (F0 m 72 ls [])) : ∀ (n : Nat) (σ : St) (x1 : Int) (x2 : Int) (H : Heap) (locs : List Loc) (ls : Array Slot), wp_X12_law_53 K72 Q n σ x1 x2 → Hs D ct ad L φ N0 s.heap σ H locs → lv_has ls 4 [(0, .ref (ad 12 0)), (1, .int (iv x1)), (2, .int (iv x2))] → W p l e ({ frames := 8, cells := 0, slots := 0, locals := 174 } : Room) s m args below meth c H locs 0 0 (MQ below (Qi D ct ad L φ N0 Q) args s 0 0 (AA N0)) (F0 m 53 ls []) := by
  have hF := X.2.2.2.2.2.2.2.2.1
  intro n
  induction n with
  | zero => intro σ x1 x2 H locs ls hw; exact hw.elim
  | succ n ih =>
    intro σ x1 x2 H locs ls hw h hl
    unfold wp_X12_law_53 at hw
    refine lv_iload_n X.1 X.2.1 dX12_law_53 rfl (lv_at hl 2 rfl) ?_
    obtain ⟨g_51, hwt, hwf⟩ := hw
    refine j_if_eq (tgt := 72) X g_51 dX12_law_54 (by decide) (fun c_56 => ?_) (fun c_56 => ?_)
    · have hw := hwt c_56
      exact hK72 σ x1 _ _ _ hw h (lv_sub hl [0, 1] rfl)
    · have hw := hwf c_56
      refine lv_aload_n X.1 X.2.1 dX12_law_57 rfl (lv_at hl 0 rfl) ?_
      refine r_get (ci := 12) X inw_12 h (hF.1 12 rfl).1 rfl rfl 51 (by decide) kw_1689 rfl dX12_law_58 ?_
      obtain ⟨g_52, hwt, hwf⟩ := hw
      refine j_if_eq (tgt := 72) X g_52 dX12_law_61 (by decide) (fun c_55 => ?_) (fun c_55 => ?_)
      · have hw := hwt c_55
        exact hK72 σ x1 _ _ _ hw h (lv_sub hl [0, 1] rfl)
      · have hw := hwf c_55
        refine lv_aload_n X.1 X.2.1 dX12_law_64 rfl (lv_at hl 0 rfl) ?_
        refine k_i h (r_V (C := RX12) (ci := 12) (As := []) (rest := []) X h (c_X12_statement l D ct ad L φ N0 σ _ hw) rfl rfl ⟨Nat.le_of_ble_eq_true rfl, Nat.le_of_ble_eq_true rfl⟩ kw_2078 kw_2080 kw_75 kw_129 kw_2081 ⟨rfl, pd_X12_statement⟩ (hF.1 12 rfl).1 rfl rfl rfl hl.1 rfl (Nat.le_of_ble_eq_true rfl) ⟨Nat.le_of_ble_eq_true rfl, Nat.le_of_ble_eq_true rfl⟩ dX12_law_65) (fun r_54 σ_53 H locs hw h => ?_)
        refine lv_istore_n (lv' := [(2, .int (iv r_54)), (0, .ref (ad 12 0)), (1, .int (iv x1))]) X.1 X.2.1 dX12_law_68 rfl hl (by decide) rfl (fun ls hl => ?_)
        refine lv_goto (tgt := 53) X.1 X.2.1 dX12_law_69 (by decide) ?_
        exact ih σ_53 x1 r_54 _ _ _ hw h (lv_sub hl [1, 2, 0] rfl)
theorem pd_X12_law : yX12_law.cls ≠ "java/lang/invoke/MethodHandle" ∧ yX12_law.cls ≠ "java/lang/invoke/VarHandle" ∧ (parseMethodDescriptor yX12_law.desc).map (fun d => d.parameters.length) = some 1 := by decide +kernel
set_option maxRecDepth 100000 in
set_option maxHeartbeats 4000000 in
theorem c_X12_law (l : Launch) (D : va_G) (ct : Nat → ClassId) (ad : Nat → Nat → Nat) (L : List (Nat × Nat)) (φ : Nat → Nat → Nat → Bool) (N0 : Nat) (σ : St) (x1 : Int) (Q : Int → St → Prop) (hw : wp_X12_law σ x1 Q) : Met l yX12_law (.code yX12_law cX12_law 4 (some .int) :: gw) ({ frames := 8, cells := 0, slots := 0, locals := 174 } : Room) (Pm D ct ad L φ N0 σ [.ref (ad 12 0), .int (iv x1)]) (Qi D ct ad L φ N0 Q) 0 0 (AA N0) := by
  refine m_of (by decide) (fun p e s m below meth c X hnm h => ?_)
  have hF := X.2.2.2.2.2.2.2.2.1
  have hl := lv_entry ([.ref (ad 12 0), .int (iv x1)]) (n := 4) (Nat.le_of_ble_eq_true rfl)
  rw [lg_entry_eq]
  generalize (lg_sl ([.ref (ad 12 0), .int (iv x1)]) ++ List.replicate (4 - (lg_sl ([.ref (ad 12 0), .int (iv x1)])).length) Slot.unset).toArray = ls at hl ⊢
  have hl : lv_has ls 4 [(0, .ref (ad 12 0)), (1, .int (iv x1))] := hl
  have h : Hs D ct ad L φ N0 s.heap σ s.heap [] := h
  unfold wp_X12_law at hw
  refine lv_aload_n X.1 X.2.1 dX12_law_0 rfl (lv_at hl 0 rfl) ?_
  refine j_iconst X dX12_law_1 ?_
  refine r_put (ci := 12) X inw_12 tyX12 tyX12_ok nmX12 h (hF.1 12 rfl).1 rfl rfl 0 (by decide) kw_1638 rfl rfl rfl (Nat.le_of_ble_eq_true rfl) rfl rfl dX12_law_2 (fun H locs h => ?_)
  obtain ⟨σ_57, eσ_57⟩ : ∃ z : St, z = st σ 12 0 0 0 := ⟨_, rfl⟩
  rw [← eσ_57] at h
  have hw := hw σ_57 eσ_57
  refine lv_iload_n X.1 X.2.1 dX12_law_5 rfl (lv_at hl 1 rfl) ?_
  refine j_iconst X dX12_law_6 ?_
  refine j_sipush X dX12_law_7 (by decide) ?_
  refine k_i h (r_S (As := [.int (iv x1), .int (iv 0), .int (iv 3999)]) (rest := []) X h (c_X12_within l D ct ad L φ N0 σ_57 x1 0 3999 _ hw) rfl rfl ⟨Nat.le_of_ble_eq_true rfl, Nat.le_of_ble_eq_true rfl⟩ kw_1959 kw_1960 kw_129 kw_1961 pd_X12_within rfl hl.1 rfl (Nat.le_of_ble_eq_true rfl) ⟨Nat.le_of_ble_eq_true rfl, Nat.le_of_ble_eq_true rfl⟩ dX12_law_10) (fun r_59 σ_58 H locs hw h => ?_)
  obtain ⟨g_60, hwt, hwf⟩ := hw
  refine j_if_eq (tgt := 25) X g_60 dX12_law_13 (by decide) (fun c_68 => ?_) (fun c_68 => ?_)
  · have hw := hwt c_68
    refine j_iconst X dX12_law_25 ?_
    exact k_ir X rfl h hw dX12_law_26
  · have hw := hwf c_68
    refine lv_aload_n X.1 X.2.1 dX12_law_16 rfl (lv_at hl 0 rfl) ?_
    refine r_get (ci := 12) X inw_12 h (hF.1 12 rfl).1 rfl rfl 33 (by decide) kw_1671 rfl dX12_law_17 ?_
    refine j_bipush X dX12_law_20 (by decide) ?_
    obtain ⟨g_61, hwt, hwf⟩ := hw
    refine j_cmp_ne (tgt := 27) X g_61 ⟨by decide, by decide⟩ dX12_law_22 (by decide) (fun c_67 => ?_) (fun c_67 => ?_)
    · have hw := hwt c_67
      refine lv_aload_n X.1 X.2.1 dX12_law_27 rfl (lv_at hl 0 rfl) ?_
      refine j_iconst X dX12_law_28 ?_
      refine r_put (ci := 12) X inw_12 tyX12 tyX12_ok nmX12 h (hF.1 12 rfl).1 rfl rfl 45 (by decide) kw_1683 rfl rfl rfl (Nat.le_of_ble_eq_true rfl) rfl rfl dX12_law_29 (fun H locs h => ?_)
      obtain ⟨σ_62, eσ_62⟩ : ∃ z : St, z = st σ_58 12 0 45 0 := ⟨_, rfl⟩
      rw [← eσ_62] at h
      have hw := hw σ_62 eσ_62
      refine lv_aload_n X.1 X.2.1 dX12_law_32 rfl (lv_at hl 0 rfl) ?_
      refine j_iconst X dX12_law_33 ?_
      refine r_put (ci := 12) X inw_12 tyX12 tyX12_ok nmX12 h (hF.1 12 rfl).1 rfl rfl 46 (by decide) kw_1684 rfl rfl rfl (Nat.le_of_ble_eq_true rfl) rfl rfl dX12_law_34 (fun H locs h => ?_)
      obtain ⟨σ_63, eσ_63⟩ : ∃ z : St, z = st σ_62 12 0 46 (-1) := ⟨_, rfl⟩
      rw [← eσ_63] at h
      have hw := hw σ_63 eσ_63
      refine lv_aload_n X.1 X.2.1 dX12_law_37 rfl (lv_at hl 0 rfl) ?_
      refine j_iconst X dX12_law_38 ?_
      refine r_put (ci := 12) X inw_12 tyX12 tyX12_ok nmX12 h (hF.1 12 rfl).1 rfl rfl 47 (by decide) kw_1685 rfl rfl rfl (Nat.le_of_ble_eq_true rfl) rfl rfl dX12_law_39 (fun H locs h => ?_)
      obtain ⟨σ_64, eσ_64⟩ : ∃ z : St, z = st σ_63 12 0 47 0 := ⟨_, rfl⟩
      rw [← eσ_64] at h
      have hw := hw σ_64 eσ_64
      refine lv_aload_n X.1 X.2.1 dX12_law_42 rfl (lv_at hl 0 rfl) ?_
      refine j_iconst X dX12_law_43 ?_
      refine r_put (ci := 12) X inw_12 tyX12 tyX12_ok nmX12 h (hF.1 12 rfl).1 rfl rfl 49 (by decide) kw_1687 rfl rfl rfl (Nat.le_of_ble_eq_true rfl) rfl rfl dX12_law_44 (fun H locs h => ?_)
      obtain ⟨σ_65, eσ_65⟩ : ∃ z : St, z = st σ_64 12 0 49 0 := ⟨_, rfl⟩
      rw [← eσ_65] at h
      have hw := hw σ_65 eσ_65
      refine lv_aload_n X.1 X.2.1 dX12_law_47 rfl (lv_at hl 0 rfl) ?_
      refine k_v h (r_V (C := RX12) (ci := 12) (As := []) (rest := []) X h (c_X12_next l D ct ad L φ N0 σ_65 _ hw) rfl rfl ⟨Nat.le_of_ble_eq_true rfl, Nat.le_of_ble_eq_true rfl⟩ kw_2070 kw_2072 kw_73 kw_129 kw_2073 ⟨rfl, pd_X12_next⟩ (hF.1 12 rfl).1 rfl rfl rfl hl.1 rfl (Nat.le_of_ble_eq_true rfl) ⟨Nat.le_of_ble_eq_true rfl, Nat.le_of_ble_eq_true rfl⟩ dX12_law_48) (fun σ_66 H locs hw h => ?_)
      refine j_iconst X dX12_law_51 ?_
      refine lv_istore_n (lv' := [(2, .int (iv 1)), (0, .ref (ad 12 0)), (1, .int (iv x1))]) X.1 X.2.1 dX12_law_52 rfl hl (by decide) rfl (fun ls hl => ?_)
      exact hw.elim (fun n53 hw => lb_X12_law_53 X (lb_X12_law_72 X) n53 σ_66 x1 1 _ _ _ hw h (lv_sub hl [1, 2, 0] rfl))
    · have hw := hwf c_67
      refine j_iconst X dX12_law_25 ?_
      exact k_ir X rfl h hw dX12_law_26
end
section
variable {p : Program} {l : Launch} {e : Env} {s : State} {m : MethodId} {args : Array Value} {below : List Frame} {meth : Method} {c : Code} {D : va_G} {ct : Nat → ClassId} {ad : Nat → Nat → Nat} {L : List (Nat × Nat)} {φ : Nat → Nat → Nat → Bool} {N0 : Nat}
variable {Q : Int → St → Prop}
theorem pd_X12_place : yX12_place.cls ≠ "java/lang/invoke/MethodHandle" ∧ yX12_place.cls ≠ "java/lang/invoke/VarHandle" ∧ (parseMethodDescriptor yX12_place.desc).map (fun d => d.parameters.length) = some 0 := by decide +kernel
set_option maxRecDepth 100000 in
set_option maxHeartbeats 4000000 in
theorem c_X12_place (l : Launch) (D : va_G) (ct : Nat → ClassId) (ad : Nat → Nat → Nat) (L : List (Nat × Nat)) (φ : Nat → Nat → Nat → Bool) (N0 : Nat) (σ : St) (Q : Int → St → Prop) (hw : wp_X12_place σ Q) : Met l yX12_place (.code yX12_place cX12_place 1 (some .int) :: gw) ({ frames := 0, cells := 0, slots := 0, locals := 0 } : Room) (Pm D ct ad L φ N0 σ [.ref (ad 12 0)]) (Qi D ct ad L φ N0 Q) 0 0 (AA N0) := by
  refine m_of (by decide) (fun p e s m below meth c X hnm h => ?_)
  have hF := X.2.2.2.2.2.2.2.2.1
  have hl := lv_entry ([.ref (ad 12 0)]) (n := 1) (Nat.le_of_ble_eq_true rfl)
  rw [lg_entry_eq]
  generalize (lg_sl ([.ref (ad 12 0)]) ++ List.replicate (1 - (lg_sl ([.ref (ad 12 0)])).length) Slot.unset).toArray = ls at hl ⊢
  have hl : lv_has ls 1 [(0, .ref (ad 12 0))] := hl
  have h : Hs D ct ad L φ N0 s.heap σ s.heap [] := h
  unfold wp_X12_place at hw
  refine lv_aload_n X.1 X.2.1 dX12_place_0 rfl (lv_at hl 0 rfl) ?_
  refine j_iconst X dX12_place_1 ?_
  refine r_put (ci := 12) X inw_12 tyX12 tyX12_ok nmX12 h (hF.1 12 rfl).1 rfl rfl 0 (by decide) kw_1638 rfl rfl rfl (Nat.le_of_ble_eq_true rfl) rfl rfl dX12_place_2 (fun H locs h => ?_)
  obtain ⟨σ_1, eσ_1⟩ : ∃ z : St, z = st σ 12 0 0 0 := ⟨_, rfl⟩
  rw [← eσ_1] at h
  have hw := hw σ_1 eσ_1
  refine lv_aload_n X.1 X.2.1 dX12_place_5 rfl (lv_at hl 0 rfl) ?_
  refine r_get (ci := 12) X inw_12 h (hF.1 12 rfl).1 rfl rfl 46 (by decide) kw_1684 rfl dX12_place_6 ?_
  exact k_ir X rfl h hw dX12_place_9
end
section
variable {p : Program} {l : Launch} {e : Env} {s : State} {m : MethodId} {args : Array Value} {below : List Frame} {meth : Method} {c : Code} {D : va_G} {ct : Nat → ClassId} {ad : Nat → Nat → Nat} {L : List (Nat × Nat)} {φ : Nat → Nat → Nat → Bool} {N0 : Nat}
variable {Q : St → Prop}
set_option maxRecDepth 100000 in
set_option maxHeartbeats 4000000 in
theorem lb_X12_asks_21 (X : Cx p s m meth c args cX12_asks 3 none RX12 D ct L φ N0) (σ : St) (x1 : Int) (H : Heap) (locs : List Loc) (ls : Array Slot) (hw : wp_X12_asks_21 Q σ x1) (h : Hs D ct ad L φ N0 s.heap σ H locs) (hl : lv_has ls 3 [(0, .ref (ad 12 0)), (1, .int (iv x1))]) : W p l e ({ frames := 2, cells := 0, slots := 0, locals := 42 } : Room) s m args below meth c H locs 0 0 (MQ below (Qv D ct ad L φ N0 Q) args s 0 0 (AA N0)) (F0 m 21 ls []) := by
  have hF := X.2.2.2.2.2.2.2.2.1
  unfold wp_X12_asks_21 at hw
  refine lv_aload_n X.1 X.2.1 dX12_asks_21 rfl (lv_at hl 0 rfl) ?_
  refine r_getR (ci := 12) X inw_12 h (hF.1 12 rfl).1 rfl rfl 52 (by decide) kw_1690 rfl ((hF.1 12 rfl).2 52) dX12_asks_22 ?_
  refine j_iconst X dX12_asks_25 ?_
  refine lv_aload_n X.1 X.2.1 dX12_asks_26 rfl (lv_at hl 0 rfl) ?_
  refine k_i h (r_V (C := RX12) (ci := 12) (As := []) (rest := [.int (iv 4), .ref (ad 119 0)]) X h (c_X12_season l D ct ad L φ N0 σ _ hw) rfl rfl ⟨Nat.le_of_ble_eq_true rfl, Nat.le_of_ble_eq_true rfl⟩ kw_2150 kw_2152 kw_84 kw_129 kw_2153 ⟨rfl, pd_X12_season⟩ (hF.1 12 rfl).1 rfl rfl rfl hl.1 rfl (Nat.le_of_ble_eq_true rfl) ⟨Nat.le_of_ble_eq_true rfl, Nat.le_of_ble_eq_true rfl⟩ dX12_asks_27) (fun r_2 σ_1 H locs hw h => ?_)
  refine r_iast (n := 13) X h (hF.1 119 rfl).1 (fun _ => rfl) (by decide) (by decide) (by decide) rfl dX12_asks_30 (fun H locs h => ?_)
  obtain ⟨σ_3, eσ_3⟩ : ∃ z : St, z = st σ_1 119 0 (Int.toNat 4) r_2 := ⟨_, rfl⟩
  rw [← eσ_3] at h
  have hw := hw σ_3 eσ_3
  refine lv_aload_n X.1 X.2.1 dX12_asks_31 rfl (lv_at hl 0 rfl) ?_
  refine r_getR (ci := 12) X inw_12 h (hF.1 12 rfl).1 rfl rfl 52 (by decide) kw_1690 rfl ((hF.1 12 rfl).2 52) dX12_asks_32 ?_
  refine j_iconst X dX12_asks_35 ?_
  refine lv_aload_n X.1 X.2.1 dX12_asks_36 rfl (lv_at hl 0 rfl) ?_
  refine r_get (ci := 12) X inw_12 h (hF.1 12 rfl).1 rfl rfl 1 (by decide) kw_1639 rfl dX12_asks_37 ?_
  refine r_iast (n := 13) X h (hF.1 119 rfl).1 (fun _ => rfl) (by decide) (by decide) (by decide) rfl dX12_asks_40 (fun H locs h => ?_)
  obtain ⟨σ_4, eσ_4⟩ : ∃ z : St, z = st σ_3 119 0 (Int.toNat 5) (σ_3 12 0 1) := ⟨_, rfl⟩
  rw [← eσ_4] at h
  have hw := hw σ_4 eσ_4
  refine lv_aload_n X.1 X.2.1 dX12_asks_41 rfl (lv_at hl 0 rfl) ?_
  refine r_getR (ci := 12) X inw_12 h (hF.1 12 rfl).1 rfl rfl 52 (by decide) kw_1690 rfl ((hF.1 12 rfl).2 52) dX12_asks_42 ?_
  refine j_bipush X dX12_asks_45 (by decide) ?_
  refine lv_aload_n X.1 X.2.1 dX12_asks_47 rfl (lv_at hl 0 rfl) ?_
  refine lv_aload_n X.1 X.2.1 dX12_asks_48 rfl (lv_at hl 0 rfl) ?_
  refine r_get (ci := 12) X inw_12 h (hF.1 12 rfl).1 rfl rfl 1 (by decide) kw_1639 rfl dX12_asks_49 ?_
  refine j_iconst X dX12_asks_52 ?_
  refine k_i h (r_V (C := RX12) (ci := 12) (As := [.int (iv (σ_4 12 0 1)), .int (iv 0)]) (rest := [.int (iv 6), .ref (ad 119 0)]) X h (c_X12_sky l D ct ad L φ N0 σ_4 (σ_4 12 0 1) 0 _ hw) rfl rfl ⟨Nat.le_of_ble_eq_true rfl, Nat.le_of_ble_eq_true rfl⟩ kw_1988 kw_1990 kw_65 kw_129 kw_1991 ⟨rfl, pd_X12_sky⟩ (hF.1 12 rfl).1 rfl rfl rfl hl.1 rfl (Nat.le_of_ble_eq_true rfl) ⟨Nat.le_of_ble_eq_true rfl, Nat.le_of_ble_eq_true rfl⟩ dX12_asks_53) (fun r_6 σ_5 H locs hw h => ?_)
  refine r_iast (n := 13) X h (hF.1 119 rfl).1 (fun _ => rfl) (by decide) (by decide) (by decide) rfl dX12_asks_56 (fun H locs h => ?_)
  obtain ⟨σ_7, eσ_7⟩ : ∃ z : St, z = st σ_5 119 0 (Int.toNat 6) r_6 := ⟨_, rfl⟩
  rw [← eσ_7] at h
  have hw := hw σ_7 eσ_7
  refine lv_aload_n X.1 X.2.1 dX12_asks_57 rfl (lv_at hl 0 rfl) ?_
  refine r_getR (ci := 12) X inw_12 h (hF.1 12 rfl).1 rfl rfl 52 (by decide) kw_1690 rfl ((hF.1 12 rfl).2 52) dX12_asks_58 ?_
  refine j_bipush X dX12_asks_61 (by decide) ?_
  refine lv_aload_n X.1 X.2.1 dX12_asks_63 rfl (lv_at hl 0 rfl) ?_
  refine lv_aload_n X.1 X.2.1 dX12_asks_64 rfl (lv_at hl 0 rfl) ?_
  refine r_get (ci := 12) X inw_12 h (hF.1 12 rfl).1 rfl rfl 1 (by decide) kw_1639 rfl dX12_asks_65 ?_
  refine j_iconst X dX12_asks_68 ?_
  refine k_i h (r_V (C := RX12) (ci := 12) (As := [.int (iv (σ_7 12 0 1)), .int (iv 1)]) (rest := [.int (iv 7), .ref (ad 119 0)]) X h (c_X12_sky l D ct ad L φ N0 σ_7 (σ_7 12 0 1) 1 _ hw) rfl rfl ⟨Nat.le_of_ble_eq_true rfl, Nat.le_of_ble_eq_true rfl⟩ kw_1988 kw_1990 kw_65 kw_129 kw_1991 ⟨rfl, pd_X12_sky⟩ (hF.1 12 rfl).1 rfl rfl rfl hl.1 rfl (Nat.le_of_ble_eq_true rfl) ⟨Nat.le_of_ble_eq_true rfl, Nat.le_of_ble_eq_true rfl⟩ dX12_asks_69) (fun r_9 σ_8 H locs hw h => ?_)
  refine r_iast (n := 13) X h (hF.1 119 rfl).1 (fun _ => rfl) (by decide) (by decide) (by decide) rfl dX12_asks_72 (fun H locs h => ?_)
  obtain ⟨σ_10, eσ_10⟩ : ∃ z : St, z = st σ_8 119 0 (Int.toNat 7) r_9 := ⟨_, rfl⟩
  rw [← eσ_10] at h
  have hw := hw σ_10 eσ_10
  refine lv_aload_n X.1 X.2.1 dX12_asks_73 rfl (lv_at hl 0 rfl) ?_
  refine r_getR (ci := 12) X inw_12 h (hF.1 12 rfl).1 rfl rfl 52 (by decide) kw_1690 rfl ((hF.1 12 rfl).2 52) dX12_asks_74 ?_
  refine j_bipush X dX12_asks_77 (by decide) ?_
  refine lv_aload_n X.1 X.2.1 dX12_asks_79 rfl (lv_at hl 0 rfl) ?_
  refine lv_aload_n X.1 X.2.1 dX12_asks_80 rfl (lv_at hl 0 rfl) ?_
  refine r_get (ci := 12) X inw_12 h (hF.1 12 rfl).1 rfl rfl 1 (by decide) kw_1639 rfl dX12_asks_81 ?_
  refine j_iconst X dX12_asks_84 ?_
  refine k_i h (r_V (C := RX12) (ci := 12) (As := [.int (iv (σ_10 12 0 1)), .int (iv 2)]) (rest := [.int (iv 8), .ref (ad 119 0)]) X h (c_X12_sky l D ct ad L φ N0 σ_10 (σ_10 12 0 1) 2 _ hw) rfl rfl ⟨Nat.le_of_ble_eq_true rfl, Nat.le_of_ble_eq_true rfl⟩ kw_1988 kw_1990 kw_65 kw_129 kw_1991 ⟨rfl, pd_X12_sky⟩ (hF.1 12 rfl).1 rfl rfl rfl hl.1 rfl (Nat.le_of_ble_eq_true rfl) ⟨Nat.le_of_ble_eq_true rfl, Nat.le_of_ble_eq_true rfl⟩ dX12_asks_85) (fun r_12 σ_11 H locs hw h => ?_)
  refine r_iast (n := 13) X h (hF.1 119 rfl).1 (fun _ => rfl) (by decide) (by decide) (by decide) rfl dX12_asks_88 (fun H locs h => ?_)
  obtain ⟨σ_13, eσ_13⟩ : ∃ z : St, z = st σ_11 119 0 (Int.toNat 8) r_12 := ⟨_, rfl⟩
  rw [← eσ_13] at h
  have hw := hw σ_13 eσ_13
  refine lv_iload_n X.1 X.2.1 dX12_asks_89 rfl (lv_at hl 1 rfl) ?_
  refine j_iconst X dX12_asks_90 ?_
  obtain ⟨g_14, hwt, hwf⟩ := hw
  refine j_cmp_ne (tgt := 95) X g_14 ⟨by decide, by decide⟩ dX12_asks_91 (by decide) (fun c_25 => ?_) (fun c_25 => ?_)
  · have hw := hwt c_25
    refine lv_aload_n X.1 X.2.1 dX12_asks_95 rfl (lv_at hl 0 rfl) ?_
    refine r_getR (ci := 12) X inw_12 h (hF.1 12 rfl).1 rfl rfl 52 (by decide) kw_1690 rfl ((hF.1 12 rfl).2 52) dX12_asks_96 ?_
    refine j_iconst X dX12_asks_99 ?_
    refine lv_iload_n X.1 X.2.1 dX12_asks_100 rfl (lv_at hl 1 rfl) ?_
    refine r_iast (n := 13) X h (hF.1 119 rfl).1 (fun _ => rfl) (by decide) (by decide) (by decide) rfl dX12_asks_101 (fun H locs h => ?_)
    obtain ⟨σ_15, eσ_15⟩ : ∃ z : St, z = st σ_13 119 0 (Int.toNat 0) x1 := ⟨_, rfl⟩
    rw [← eσ_15] at h
    have hw := hw σ_15 eσ_15
    refine lv_aload_n X.1 X.2.1 dX12_asks_102 rfl (lv_at hl 0 rfl) ?_
    refine r_getR (ci := 12) X inw_12 h (hF.1 12 rfl).1 rfl rfl 52 (by decide) kw_1690 rfl ((hF.1 12 rfl).2 52) dX12_asks_103 ?_
    refine j_iconst X dX12_asks_106 ?_
    refine lv_aload_n X.1 X.2.1 dX12_asks_107 rfl (lv_at hl 0 rfl) ?_
    refine r_getR (ci := 12) X inw_12 h (hF.1 12 rfl).1 rfl rfl 2 (by decide) kw_1640 rfl ((hF.1 12 rfl).2 2) dX12_asks_108 ?_
    refine lv_iload_n X.1 X.2.1 dX12_asks_111 rfl (lv_at hl 1 rfl) ?_
    obtain ⟨g_16, g_17, hw⟩ := hw
    refine r_iald (n := 64) X h (hF.1 83 rfl).1 rfl (by decide) g_16 g_17 dX12_asks_112 ?_
    refine r_iast (n := 13) X h (hF.1 119 rfl).1 (fun _ => rfl) (by decide) (by decide) (by decide) rfl dX12_asks_113 (fun H locs h => ?_)
    obtain ⟨σ_18, eσ_18⟩ : ∃ z : St, z = st σ_15 119 0 (Int.toNat 1) (σ_15 83 0 (Int.toNat x1)) := ⟨_, rfl⟩
    rw [← eσ_18] at h
    have hw := hw σ_18 eσ_18
    refine lv_aload_n X.1 X.2.1 dX12_asks_114 rfl (lv_at hl 0 rfl) ?_
    refine r_getR (ci := 12) X inw_12 h (hF.1 12 rfl).1 rfl rfl 52 (by decide) kw_1690 rfl ((hF.1 12 rfl).2 52) dX12_asks_115 ?_
    refine j_bipush X dX12_asks_118 (by decide) ?_
    refine lv_aload_n X.1 X.2.1 dX12_asks_120 rfl (lv_at hl 0 rfl) ?_
    refine lv_iload_n X.1 X.2.1 dX12_asks_121 rfl (lv_at hl 1 rfl) ?_
    refine k_i h (r_V (C := RX12) (ci := 12) (As := [.int (iv x1)]) (rest := [.int (iv 9), .ref (ad 119 0)]) X h (c_X12_farOf l D ct ad L φ N0 σ_18 x1 _ hw) rfl rfl ⟨Nat.le_of_ble_eq_true rfl, Nat.le_of_ble_eq_true rfl⟩ kw_2154 kw_2156 kw_85 kw_129 kw_2157 ⟨rfl, pd_X12_farOf⟩ (hF.1 12 rfl).1 rfl rfl rfl hl.1 rfl (Nat.le_of_ble_eq_true rfl) ⟨Nat.le_of_ble_eq_true rfl, Nat.le_of_ble_eq_true rfl⟩ dX12_asks_122) (fun r_20 σ_19 H locs hw h => ?_)
    refine r_iast (n := 13) X h (hF.1 119 rfl).1 (fun _ => rfl) (by decide) (by decide) (by decide) rfl dX12_asks_125 (fun H locs h => ?_)
    obtain ⟨σ_21, eσ_21⟩ : ∃ z : St, z = st σ_19 119 0 (Int.toNat 9) r_20 := ⟨_, rfl⟩
    rw [← eσ_21] at h
    have hw := hw σ_21 eσ_21
    refine lv_aload_n X.1 X.2.1 dX12_asks_126 rfl (lv_at hl 0 rfl) ?_
    refine r_getR (ci := 12) X inw_12 h (hF.1 12 rfl).1 rfl rfl 52 (by decide) kw_1690 rfl ((hF.1 12 rfl).2 52) dX12_asks_127 ?_
    refine j_bipush X dX12_asks_130 (by decide) ?_
    refine lv_aload_n X.1 X.2.1 dX12_asks_132 rfl (lv_at hl 0 rfl) ?_
    refine r_getR (ci := 12) X inw_12 h (hF.1 12 rfl).1 rfl rfl 3 (by decide) kw_1641 rfl ((hF.1 12 rfl).2 3) dX12_asks_133 ?_
    refine lv_iload_n X.1 X.2.1 dX12_asks_136 rfl (lv_at hl 1 rfl) ?_
    obtain ⟨g_22, g_23, hw⟩ := hw
    refine r_iald (n := 64) X h (hF.1 84 rfl).1 rfl (by decide) g_22 g_23 dX12_asks_137 ?_
    refine r_iast (n := 13) X h (hF.1 119 rfl).1 (fun _ => rfl) (by decide) (by decide) (by decide) rfl dX12_asks_138 (fun H locs h => ?_)
    obtain ⟨σ_24, eσ_24⟩ : ∃ z : St, z = st σ_21 119 0 (Int.toNat 10) (σ_21 84 0 (Int.toNat x1)) := ⟨_, rfl⟩
    rw [← eσ_24] at h
    have hw := hw σ_24 eσ_24
    exact k_vr X h hw dX12_asks_139
  · have hw := hwf c_25
    exact k_vr X h hw dX12_asks_94
set_option maxRecDepth 100000 in
set_option maxHeartbeats 4000000 in
theorem lb_X12_asks_2 (X : Cx p s m meth c args cX12_asks 3 none RX12 D ct L φ N0) {K21 : St → Int → Prop} (hK21 : ∀ (σ : St) (x1 : Int) (H : Heap) (locs : List Loc) (ls : Array Slot), K21 σ x1 → Hs D ct ad L φ N0 s.heap σ H locs → lv_has ls 3 [(0, .ref (ad 12 0)), (1, .int (iv x1))] → W p l e ({ frames := 2, cells := 0, slots := 0, locals := 42 } : Room) s m args below meth c H locs 0 0 (MQ below (Qv D ct ad L φ N0 Q) args s 0 0 (AA N0)) (F0 m 21 ls [])) : ∀ (n : Nat) (σ : St) (x1 : Int) (x2 : Int) (H : Heap) (locs : List Loc) (ls : Array Slot), wp_X12_asks_2 K21 Q n σ x1 x2 → Hs D ct ad L φ N0 s.heap σ H locs → lv_has ls 3 [(0, .ref (ad 12 0)), (1, .int (iv x1)), (2, .int (iv x2))] → W p l e ({ frames := 2, cells := 0, slots := 0, locals := 42 } : Room) s m args below meth c H locs 0 0 (MQ below (Qv D ct ad L φ N0 Q) args s 0 0 (AA N0)) (F0 m 2 ls []) := by
  have hF := X.2.2.2.2.2.2.2.2.1
  intro n
  induction n with
  | zero => intro σ x1 x2 H locs ls hw; exact hw.elim
  | succ n ih =>
    intro σ x1 x2 H locs ls hw h hl
    unfold wp_X12_asks_2 at hw
    refine lv_iload_n X.1 X.2.1 dX12_asks_2 rfl (lv_at hl 2 rfl) ?_
    refine j_bipush X dX12_asks_3 (by decide) ?_
    obtain ⟨g_26, hwt, hwf⟩ := hw
    refine j_cmp_ge (tgt := 21) X g_26 ⟨by decide, by decide⟩ dX12_asks_5 (by decide) (fun c_30 => ?_) (fun c_30 => ?_)
    · have hw := hwt c_30
      exact hK21 σ x1 _ _ _ hw h (lv_sub hl [0, 1] rfl)
    · have hw := hwf c_30
      refine lv_aload_n X.1 X.2.1 dX12_asks_8 rfl (lv_at hl 0 rfl) ?_
      refine r_getR (ci := 12) X inw_12 h (hF.1 12 rfl).1 rfl rfl 52 (by decide) kw_1690 rfl ((hF.1 12 rfl).2 52) dX12_asks_9 ?_
      refine lv_iload_n X.1 X.2.1 dX12_asks_12 rfl (lv_at hl 2 rfl) ?_
      refine j_iconst X dX12_asks_13 ?_
      obtain ⟨g_27, g_28, hw⟩ := hw
      refine r_iast (n := 13) X h (hF.1 119 rfl).1 (fun _ => rfl) (by decide) g_27 g_28 rfl dX12_asks_14 (fun H locs h => ?_)
      obtain ⟨σ_29, eσ_29⟩ : ∃ z : St, z = st σ 119 0 (Int.toNat x2) 0 := ⟨_, rfl⟩
      rw [← eσ_29] at h
      have hw := hw σ_29 eσ_29
      refine j_iinc (kk9 := 2) (lv' := [(2, .int (iv (x2 + 1))), (0, .ref (ad 12 0)), (1, .int (iv x1))]) X dX12_asks_15 hl rfl (by decide) rfl (fun ls hl => ?_)
      refine lv_goto (tgt := 2) X.1 X.2.1 dX12_asks_18 (by decide) ?_
      exact ih σ_29 x1 (x2 + 1) _ _ _ hw h (lv_sub hl [1, 2, 0] rfl)
theorem pd_X12_asks : yX12_asks.cls ≠ "java/lang/invoke/MethodHandle" ∧ yX12_asks.cls ≠ "java/lang/invoke/VarHandle" ∧ (parseMethodDescriptor yX12_asks.desc).map (fun d => d.parameters.length) = some 1 := by decide +kernel
set_option maxRecDepth 100000 in
set_option maxHeartbeats 4000000 in
theorem c_X12_asks (l : Launch) (D : va_G) (ct : Nat → ClassId) (ad : Nat → Nat → Nat) (L : List (Nat × Nat)) (φ : Nat → Nat → Nat → Bool) (N0 : Nat) (σ : St) (x1 : Int) (Q : St → Prop) (hw : wp_X12_asks σ x1 Q) : Met l yX12_asks (.code yX12_asks cX12_asks 3 none :: gw) ({ frames := 2, cells := 0, slots := 0, locals := 42 } : Room) (Pm D ct ad L φ N0 σ [.ref (ad 12 0), .int (iv x1)]) (Qv D ct ad L φ N0 Q) 0 0 (AA N0) := by
  refine m_of (by decide) (fun p e s m below meth c X hnm h => ?_)
  have hF := X.2.2.2.2.2.2.2.2.1
  have hl := lv_entry ([.ref (ad 12 0), .int (iv x1)]) (n := 3) (Nat.le_of_ble_eq_true rfl)
  rw [lg_entry_eq]
  generalize (lg_sl ([.ref (ad 12 0), .int (iv x1)]) ++ List.replicate (3 - (lg_sl ([.ref (ad 12 0), .int (iv x1)])).length) Slot.unset).toArray = ls at hl ⊢
  have hl : lv_has ls 3 [(0, .ref (ad 12 0)), (1, .int (iv x1))] := hl
  have h : Hs D ct ad L φ N0 s.heap σ s.heap [] := h
  unfold wp_X12_asks at hw
  refine j_iconst X dX12_asks_0 ?_
  refine lv_istore_n (lv' := [(2, .int (iv 0)), (0, .ref (ad 12 0)), (1, .int (iv x1))]) X.1 X.2.1 dX12_asks_1 rfl hl (by decide) rfl (fun ls hl => ?_)
  exact hw.elim (fun n2 hw => lb_X12_asks_2 X (lb_X12_asks_21 X) n2 σ x1 0 _ _ _ hw h (lv_sub hl [1, 2, 0] rfl))
end
section
variable {p : Program} {l : Launch} {e : Env} {s : State} {m : MethodId} {args : Array Value} {below : List Frame} {meth : Method} {c : Code} {D : va_G} {ct : Nat → ClassId} {ad : Nat → Nat → Nat} {L : List (Nat × Nat)} {φ : Nat → Nat → Nat → Bool} {N0 : Nat}
variable {Q : St → Prop}
theorem pd_X12_asksCut : yX12_asksCut.cls ≠ "java/lang/invoke/MethodHandle" ∧ yX12_asksCut.cls ≠ "java/lang/invoke/VarHandle" ∧ (parseMethodDescriptor yX12_asksCut.desc).map (fun d => d.parameters.length) = some 4 := by decide +kernel
set_option maxRecDepth 100000 in
set_option maxHeartbeats 4000000 in
theorem c_X12_asksCut (l : Launch) (D : va_G) (ct : Nat → ClassId) (ad : Nat → Nat → Nat) (L : List (Nat × Nat)) (φ : Nat → Nat → Nat → Bool) (N0 : Nat) (σ : St) (x1 : Int) (x2 : Int) (x3 : Int) (x4 : Int) (Q : St → Prop) (hw : wp_X12_asksCut σ x1 x2 x3 x4 Q) : Met l yX12_asksCut (.code yX12_asksCut cX12_asksCut 5 none :: gw) ({ frames := 3, cells := 0, slots := 0, locals := 64 } : Room) (Pm D ct ad L φ N0 σ [.ref (ad 12 0), .int (iv x1), .int (iv x2), .int (iv x3), .int (iv x4)]) (Qv D ct ad L φ N0 Q) 0 0 (AA N0) := by
  refine m_of (by decide) (fun p e s m below meth c X hnm h => ?_)
  have hF := X.2.2.2.2.2.2.2.2.1
  have hl := lv_entry ([.ref (ad 12 0), .int (iv x1), .int (iv x2), .int (iv x3), .int (iv x4)]) (n := 5) (Nat.le_of_ble_eq_true rfl)
  rw [lg_entry_eq]
  generalize (lg_sl ([.ref (ad 12 0), .int (iv x1), .int (iv x2), .int (iv x3), .int (iv x4)]) ++ List.replicate (5 - (lg_sl ([.ref (ad 12 0), .int (iv x1), .int (iv x2), .int (iv x3), .int (iv x4)])).length) Slot.unset).toArray = ls at hl ⊢
  have hl : lv_has ls 5 [(0, .ref (ad 12 0)), (1, .int (iv x1)), (2, .int (iv x2)), (3, .int (iv x3)), (4, .int (iv x4))] := hl
  have h : Hs D ct ad L φ N0 s.heap σ s.heap [] := h
  unfold wp_X12_asksCut at hw
  refine lv_aload_n X.1 X.2.1 dX12_asksCut_0 rfl (lv_at hl 0 rfl) ?_
  refine lv_iload_n X.1 X.2.1 dX12_asksCut_1 rfl (lv_at hl 2 rfl) ?_
  refine k_v h (r_V (C := RX12) (ci := 12) (As := [.int (iv x2)]) (rest := []) X h (c_X12_asks l D ct ad L φ N0 σ x2 _ hw) rfl rfl ⟨Nat.le_of_ble_eq_true rfl, Nat.le_of_ble_eq_true rfl⟩ kw_2146 kw_2148 kw_83 kw_129 kw_2149 ⟨rfl, pd_X12_asks⟩ (hF.1 12 rfl).1 rfl rfl rfl hl.1 rfl (Nat.le_of_ble_eq_true rfl) ⟨Nat.le_of_ble_eq_true rfl, Nat.le_of_ble_eq_true rfl⟩ dX12_asksCut_2) (fun σ_1 H locs hw h => ?_)
  refine lv_aload_n X.1 X.2.1 dX12_asksCut_5 rfl (lv_at hl 0 rfl) ?_
  refine r_getR (ci := 12) X inw_12 h (hF.1 12 rfl).1 rfl rfl 52 (by decide) kw_1690 rfl ((hF.1 12 rfl).2 52) dX12_asksCut_6 ?_
  refine j_iconst X dX12_asksCut_9 ?_
  refine lv_iload_n X.1 X.2.1 dX12_asksCut_10 rfl (lv_at hl 3 rfl) ?_
  refine r_iast (n := 13) X h (hF.1 119 rfl).1 (fun _ => rfl) (by decide) (by decide) (by decide) rfl dX12_asksCut_11 (fun H locs h => ?_)
  obtain ⟨σ_2, eσ_2⟩ : ∃ z : St, z = st σ_1 119 0 (Int.toNat 2) x3 := ⟨_, rfl⟩
  rw [← eσ_2] at h
  have hw := hw σ_2 eσ_2
  refine lv_aload_n X.1 X.2.1 dX12_asksCut_12 rfl (lv_at hl 0 rfl) ?_
  refine r_getR (ci := 12) X inw_12 h (hF.1 12 rfl).1 rfl rfl 52 (by decide) kw_1690 rfl ((hF.1 12 rfl).2 52) dX12_asksCut_13 ?_
  refine j_iconst X dX12_asksCut_16 ?_
  refine lv_iload X.1 X.2.1 dX12_asksCut_17 (lv_at hl 4 rfl) ?_
  refine r_iast (n := 13) X h (hF.1 119 rfl).1 (fun _ => rfl) (by decide) (by decide) (by decide) rfl dX12_asksCut_19 (fun H locs h => ?_)
  obtain ⟨σ_3, eσ_3⟩ : ∃ z : St, z = st σ_2 119 0 (Int.toNat 3) x4 := ⟨_, rfl⟩
  rw [← eσ_3] at h
  have hw := hw σ_3 eσ_3
  refine lv_aload_n X.1 X.2.1 dX12_asksCut_20 rfl (lv_at hl 0 rfl) ?_
  refine r_getR (ci := 12) X inw_12 h (hF.1 12 rfl).1 rfl rfl 52 (by decide) kw_1690 rfl ((hF.1 12 rfl).2 52) dX12_asksCut_21 ?_
  refine j_bipush X dX12_asksCut_24 (by decide) ?_
  refine lv_iload_n X.1 X.2.1 dX12_asksCut_26 rfl (lv_at hl 1 rfl) ?_
  refine r_iast (n := 13) X h (hF.1 119 rfl).1 (fun _ => rfl) (by decide) (by decide) (by decide) rfl dX12_asksCut_27 (fun H locs h => ?_)
  obtain ⟨σ_4, eσ_4⟩ : ∃ z : St, z = st σ_3 119 0 (Int.toNat 11) x1 := ⟨_, rfl⟩
  rw [← eσ_4] at h
  have hw := hw σ_4 eσ_4
  exact k_vr X h hw dX12_asksCut_28
end
section
variable {p : Program} {l : Launch} {e : Env} {s : State} {m : MethodId} {args : Array Value} {below : List Frame} {meth : Method} {c : Code} {D : va_G} {ct : Nat → ClassId} {ad : Nat → Nat → Nat} {L : List (Nat × Nat)} {φ : Nat → Nat → Nat → Bool} {N0 : Nat}
variable {Q : Int → St → Prop}
set_option maxRecDepth 100000 in
set_option maxHeartbeats 4000000 in
theorem lb_X12_holds_100 (X : Cx p s m meth c args cX12_holds 5 (some .boolean) RX12 D ct L φ N0) {K4 : St → Int → Int → Prop} (hK4 : ∀ (σ : St) (x1 : Int) (x2 : Int) (H : Heap) (locs : List Loc) (ls : Array Slot), K4 σ x1 x2 → Hs D ct ad L φ N0 s.heap σ H locs → lv_has ls 5 [(0, .ref (ad 12 0)), (1, .int (iv x1)), (2, .int (iv x2))] → W p l e ({ frames := 0, cells := 0, slots := 0, locals := 0 } : Room) s m args below meth c H locs 0 0 (MQ below (Qi D ct ad L φ N0 Q) args s 0 0 (AA N0)) (F0 m 4 ls [])) (σ : St) (x1 : Int) (x2 : Int) (y0 : Int) (H : Heap) (locs : List Loc) (ls : Array Slot) (hw : wp_X12_holds_100 K4 Q σ x1 x2 y0) (h : Hs D ct ad L φ N0 s.heap σ H locs) (hl : lv_has ls 5 [(0, .ref (ad 12 0)), (1, .int (iv x1)), (2, .int (iv x2))]) : W p l e ({ frames := 0, cells := 0, slots := 0, locals := 0 } : Room) s m args below meth c H locs 0 0 (MQ below (Qi D ct ad L φ N0 Q) args s 0 0 (AA N0)) (F0 m 100 ls [.int (iv y0)]) := by
  have hF := X.2.2.2.2.2.2.2.2.1
  unfold wp_X12_holds_100 at hw
  refine lv_istore (lv' := [(4, .int (iv y0)), (0, .ref (ad 12 0)), (1, .int (iv x1)), (2, .int (iv x2))]) X.1 X.2.1 dX12_holds_100 hl (by decide) rfl (fun ls hl => ?_)
  refine lv_iload X.1 X.2.1 dX12_holds_102 (lv_at hl 0 rfl) ?_
  refine lv_aload_n X.1 X.2.1 dX12_holds_104 rfl (lv_at hl 1 rfl) ?_
  refine r_getR (ci := 12) X inw_12 h (hF.1 12 rfl).1 rfl rfl 39 (by decide) kw_1677 rfl ((hF.1 12 rfl).2 39) dX12_holds_105 ?_
  refine lv_iload_n X.1 X.2.1 dX12_holds_108 rfl (lv_at hl 3 rfl) ?_
  obtain ⟨g_1, g_2, hw⟩ := hw
  refine r_zald (n := 1260) X h (hF.1 114 rfl).1 rfl (by decide) g_1 g_2 dX12_holds_109 ?_
  obtain ⟨g_3, g_4, hwt, hwf⟩ := hw
  refine j_cmp_ne (tgt := 115) X g_3 g_4 dX12_holds_110 (by decide) (fun c_5 => ?_) (fun c_5 => ?_)
  · have hw := hwt c_5
    refine j_iinc (kk9 := 3) (lv' := [(2, .int (iv (x2 + 1))), (4, .int (iv y0)), (0, .ref (ad 12 0)), (1, .int (iv x1))]) X dX12_holds_115 hl rfl (by decide) rfl (fun ls hl => ?_)
    refine lv_goto (tgt := 4) X.1 X.2.1 dX12_holds_118 (by decide) ?_
    exact hK4 σ x1 (x2 + 1) _ _ _ hw h (lv_sub hl [2, 3, 0] rfl)
  · have hw := hwf c_5
    refine j_iconst X dX12_holds_113 ?_
    exact k_ir X rfl h hw dX12_holds_114
set_option maxRecDepth 100000 in
set_option maxHeartbeats 4000000 in
theorem lb_X12_holds_4 (X : Cx p s m meth c args cX12_holds 5 (some .boolean) RX12 D ct L φ N0) : ∀ (n : Nat) (σ : St) (x1 : Int) (x2 : Int) (H : Heap) (locs : List Loc) (ls : Array Slot), wp_X12_holds_4 Q n σ x1 x2 → Hs D ct ad L φ N0 s.heap σ H locs → lv_has ls 5 [(0, .ref (ad 12 0)), (1, .int (iv x1)), (2, .int (iv x2))] → W p l e ({ frames := 0, cells := 0, slots := 0, locals := 0 } : Room) s m args below meth c H locs 0 0 (MQ below (Qi D ct ad L φ N0 Q) args s 0 0 (AA N0)) (F0 m 4 ls []) := by
  have hF := X.2.2.2.2.2.2.2.2.1
  intro n
  induction n with
  | zero => intro σ x1 x2 H locs ls hw; exact hw.elim
  | succ n ih =>
    intro σ x1 x2 H locs ls hw h hl
    unfold wp_X12_holds_4 at hw
    refine lv_iload_n X.1 X.2.1 dX12_holds_4 rfl (lv_at hl 2 rfl) ?_
    refine j_iconst X dX12_holds_5 ?_
    refine lv_iload_n X.1 X.2.1 dX12_holds_6 rfl (lv_at hl 1 rfl) ?_
    refine j_imul X dX12_holds_7 ?_
    refine lv_aload_n X.1 X.2.1 dX12_holds_8 rfl (lv_at hl 0 rfl) ?_
    refine r_getR (ci := 12) X inw_12 h (hF.1 12 rfl).1 rfl rfl 38 (by decide) kw_1676 rfl ((hF.1 12 rfl).2 38) dX12_holds_9 ?_
    refine lv_iload_n X.1 X.2.1 dX12_holds_12 rfl (lv_at hl 1 rfl) ?_
    obtain ⟨g_6, g_7, hw⟩ := hw
    refine r_iald (n := 252) X h (hF.1 113 rfl).1 rfl (by decide) g_6 g_7 dX12_holds_13 ?_
    refine j_iadd X dX12_holds_14 ?_
    obtain ⟨g_8, g_9, hwt, hwf⟩ := hw
    refine j_cmp_ge (tgt := 121) X g_8 g_9 dX12_holds_15 (by decide) (fun c_38 => ?_) (fun c_38 => ?_)
    · have hw := hwt c_38
      refine j_iconst X dX12_holds_121 ?_
      exact k_ir X rfl h hw dX12_holds_122
    · have hw := hwf c_38
      refine lv_aload_n X.1 X.2.1 dX12_holds_18 rfl (lv_at hl 0 rfl) ?_
      refine r_getR (ci := 12) X inw_12 h (hF.1 12 rfl).1 rfl rfl 52 (by decide) kw_1690 rfl ((hF.1 12 rfl).2 52) dX12_holds_19 ?_
      refine lv_aload_n X.1 X.2.1 dX12_holds_22 rfl (lv_at hl 0 rfl) ?_
      refine r_getR (ci := 12) X inw_12 h (hF.1 12 rfl).1 rfl rfl 40 (by decide) kw_1678 rfl ((hF.1 12 rfl).2 40) dX12_holds_23 ?_
      refine lv_iload_n X.1 X.2.1 dX12_holds_26 rfl (lv_at hl 2 rfl) ?_
      obtain ⟨g_10, g_11, hw⟩ := hw
      refine r_iald (n := 1260) X h (hF.1 115 rfl).1 rfl (by decide) g_10 g_11 dX12_holds_27 ?_
      obtain ⟨g_12, g_13, hw⟩ := hw
      refine r_iald (n := 13) X h (hF.1 119 rfl).1 rfl (by decide) g_12 g_13 dX12_holds_28 ?_
      refine j_bind (fun v_14 ev_14 => ?_)
      have hw := hw v_14 ev_14
      refine lv_istore_n (lv' := [(3, .int (iv v_14)), (0, .ref (ad 12 0)), (1, .int (iv x1)), (2, .int (iv x2))]) X.1 X.2.1 dX12_holds_29 rfl hl (by decide) rfl (fun ls hl => ?_)
      refine lv_aload_n X.1 X.2.1 dX12_holds_30 rfl (lv_at hl 1 rfl) ?_
      refine r_getR (ci := 12) X inw_12 h (hF.1 12 rfl).1 rfl rfl 41 (by decide) kw_1679 rfl ((hF.1 12 rfl).2 41) dX12_holds_31 ?_
      refine lv_iload_n X.1 X.2.1 dX12_holds_34 rfl (lv_at hl 3 rfl) ?_
      obtain ⟨g_15, g_16, hw⟩ := hw
      refine r_iald (n := 1260) X h (hF.1 116 rfl).1 rfl (by decide) g_15 g_16 dX12_holds_35 ?_
      obtain ⟨g_17, hwt, hwf⟩ := hw
      refine j_if_ne (tgt := 57) X g_17 dX12_holds_36 (by decide) (fun c_37 => ?_) (fun c_37 => ?_)
      · have hw := hwt c_37
        refine lv_aload_n X.1 X.2.1 dX12_holds_57 rfl (lv_at hl 1 rfl) ?_
        refine r_getR (ci := 12) X inw_12 h (hF.1 12 rfl).1 rfl rfl 41 (by decide) kw_1679 rfl ((hF.1 12 rfl).2 41) dX12_holds_58 ?_
        refine lv_iload_n X.1 X.2.1 dX12_holds_61 rfl (lv_at hl 3 rfl) ?_
        obtain ⟨g_18, g_19, hw⟩ := hw
        refine r_iald (n := 1260) X h (hF.1 116 rfl).1 rfl (by decide) g_18 g_19 dX12_holds_62 ?_
        refine j_iconst X dX12_holds_63 ?_
        obtain ⟨g_20, hwt, hwf⟩ := hw
        refine j_cmp_ne (tgt := 85) X g_20 ⟨by decide, by decide⟩ dX12_holds_64 (by decide) (fun c_31 => ?_) (fun c_31 => ?_)
        · have hw := hwt c_31
          refine lv_iload_n X.1 X.2.1 dX12_holds_85 rfl (lv_at hl 0 rfl) ?_
          refine lv_aload_n X.1 X.2.1 dX12_holds_86 rfl (lv_at hl 1 rfl) ?_
          refine r_getR (ci := 12) X inw_12 h (hF.1 12 rfl).1 rfl rfl 42 (by decide) kw_1680 rfl ((hF.1 12 rfl).2 42) dX12_holds_87 ?_
          refine lv_iload_n X.1 X.2.1 dX12_holds_90 rfl (lv_at hl 3 rfl) ?_
          obtain ⟨g_21, g_22, hw⟩ := hw
          refine r_iald (n := 1260) X h (hF.1 117 rfl).1 rfl (by decide) g_21 g_22 dX12_holds_91 ?_
          obtain ⟨g_23, g_24, hwt, hwf⟩ := hw
          refine j_cmp_le (tgt := 99) X g_23 g_24 dX12_holds_92 (by decide) (fun c_25 => ?_) (fun c_25 => ?_)
          · have hw := hwt c_25
            refine j_iconst X dX12_holds_99 ?_
            exact lb_X12_holds_100 X ih σ x1 x2 0 _ _ _ hw h (lv_sub hl [1, 2, 3] rfl)
          · have hw := hwf c_25
            refine j_iconst X dX12_holds_95 ?_
            refine lv_goto (tgt := 100) X.1 X.2.1 dX12_holds_96 (by decide) ?_
            exact lb_X12_holds_100 X ih σ x1 x2 1 _ _ _ hw h (lv_sub hl [1, 2, 3] rfl)
        · have hw := hwf c_31
          refine lv_iload_n X.1 X.2.1 dX12_holds_67 rfl (lv_at hl 0 rfl) ?_
          refine lv_aload_n X.1 X.2.1 dX12_holds_68 rfl (lv_at hl 1 rfl) ?_
          refine r_getR (ci := 12) X inw_12 h (hF.1 12 rfl).1 rfl rfl 42 (by decide) kw_1680 rfl ((hF.1 12 rfl).2 42) dX12_holds_69 ?_
          refine lv_iload_n X.1 X.2.1 dX12_holds_72 rfl (lv_at hl 3 rfl) ?_
          obtain ⟨g_26, g_27, hw⟩ := hw
          refine r_iald (n := 1260) X h (hF.1 117 rfl).1 rfl (by decide) g_26 g_27 dX12_holds_73 ?_
          obtain ⟨g_28, g_29, hwt, hwf⟩ := hw
          refine j_cmp_ne (tgt := 81) X g_28 g_29 dX12_holds_74 (by decide) (fun c_30 => ?_) (fun c_30 => ?_)
          · have hw := hwt c_30
            refine j_iconst X dX12_holds_81 ?_
            refine lv_goto (tgt := 100) X.1 X.2.1 dX12_holds_82 (by decide) ?_
            exact lb_X12_holds_100 X ih σ x1 x2 0 _ _ _ hw h (lv_sub hl [1, 2, 3] rfl)
          · have hw := hwf c_30
            refine j_iconst X dX12_holds_77 ?_
            refine lv_goto (tgt := 100) X.1 X.2.1 dX12_holds_78 (by decide) ?_
            exact lb_X12_holds_100 X ih σ x1 x2 1 _ _ _ hw h (lv_sub hl [1, 2, 3] rfl)
      · have hw := hwf c_37
        refine lv_iload_n X.1 X.2.1 dX12_holds_39 rfl (lv_at hl 0 rfl) ?_
        refine lv_aload_n X.1 X.2.1 dX12_holds_40 rfl (lv_at hl 1 rfl) ?_
        refine r_getR (ci := 12) X inw_12 h (hF.1 12 rfl).1 rfl rfl 42 (by decide) kw_1680 rfl ((hF.1 12 rfl).2 42) dX12_holds_41 ?_
        refine lv_iload_n X.1 X.2.1 dX12_holds_44 rfl (lv_at hl 3 rfl) ?_
        obtain ⟨g_32, g_33, hw⟩ := hw
        refine r_iald (n := 1260) X h (hF.1 117 rfl).1 rfl (by decide) g_32 g_33 dX12_holds_45 ?_
        obtain ⟨g_34, g_35, hwt, hwf⟩ := hw
        refine j_cmp_ge (tgt := 53) X g_34 g_35 dX12_holds_46 (by decide) (fun c_36 => ?_) (fun c_36 => ?_)
        · have hw := hwt c_36
          refine j_iconst X dX12_holds_53 ?_
          refine lv_goto (tgt := 100) X.1 X.2.1 dX12_holds_54 (by decide) ?_
          exact lb_X12_holds_100 X ih σ x1 x2 0 _ _ _ hw h (lv_sub hl [1, 2, 3] rfl)
        · have hw := hwf c_36
          refine j_iconst X dX12_holds_49 ?_
          refine lv_goto (tgt := 100) X.1 X.2.1 dX12_holds_50 (by decide) ?_
          exact lb_X12_holds_100 X ih σ x1 x2 1 _ _ _ hw h (lv_sub hl [1, 2, 3] rfl)
theorem pd_X12_holds : yX12_holds.cls ≠ "java/lang/invoke/MethodHandle" ∧ yX12_holds.cls ≠ "java/lang/invoke/VarHandle" ∧ (parseMethodDescriptor yX12_holds.desc).map (fun d => d.parameters.length) = some 1 := by decide +kernel
set_option maxRecDepth 100000 in
set_option maxHeartbeats 4000000 in
theorem c_X12_holds (l : Launch) (D : va_G) (ct : Nat → ClassId) (ad : Nat → Nat → Nat) (L : List (Nat × Nat)) (φ : Nat → Nat → Nat → Bool) (N0 : Nat) (σ : St) (x1 : Int) (Q : Int → St → Prop) (hw : wp_X12_holds σ x1 Q) : Met l yX12_holds (.code yX12_holds cX12_holds 5 (some .boolean) :: gw) ({ frames := 0, cells := 0, slots := 0, locals := 0 } : Room) (Pm D ct ad L φ N0 σ [.ref (ad 12 0), .int (iv x1)]) (Qi D ct ad L φ N0 Q) 0 0 (AA N0) := by
  refine m_of (by decide) (fun p e s m below meth c X hnm h => ?_)
  have hF := X.2.2.2.2.2.2.2.2.1
  have hl := lv_entry ([.ref (ad 12 0), .int (iv x1)]) (n := 5) (Nat.le_of_ble_eq_true rfl)
  rw [lg_entry_eq]
  generalize (lg_sl ([.ref (ad 12 0), .int (iv x1)]) ++ List.replicate (5 - (lg_sl ([.ref (ad 12 0), .int (iv x1)])).length) Slot.unset).toArray = ls at hl ⊢
  have hl : lv_has ls 5 [(0, .ref (ad 12 0)), (1, .int (iv x1))] := hl
  have h : Hs D ct ad L φ N0 s.heap σ s.heap [] := h
  unfold wp_X12_holds at hw
  refine j_iconst X dX12_holds_0 ?_
  refine lv_iload_n X.1 X.2.1 dX12_holds_1 rfl (lv_at hl 1 rfl) ?_
  refine j_imul X dX12_holds_2 ?_
  refine j_bind (fun v_39 ev_39 => ?_)
  have hw := hw v_39 ev_39
  refine lv_istore_n (lv' := [(2, .int (iv v_39)), (0, .ref (ad 12 0)), (1, .int (iv x1))]) X.1 X.2.1 dX12_holds_3 rfl hl (by decide) rfl (fun ls hl => ?_)
  exact hw.elim (fun n4 hw => lb_X12_holds_4 X n4 σ x1 v_39 _ _ _ hw h (lv_sub hl [1, 2, 0] rfl))
end
section
variable {p : Program} {l : Launch} {e : Env} {s : State} {m : MethodId} {args : Array Value} {below : List Frame} {meth : Method} {c : Code} {D : va_G} {ct : Nat → ClassId} {ad : Nat → Nat → Nat} {L : List (Nat × Nat)} {φ : Nat → Nat → Nat → Bool} {N0 : Nat}
variable {Q : Int → St → Prop}
set_option maxRecDepth 100000 in
set_option maxHeartbeats 4000000 in
theorem lb_X12_inForce_47 (X : Cx p s m meth c args cX12_inForce 3 (some .int) RX12 D ct L φ N0) {K4 : St → Int → Int → Prop} (hK4 : ∀ (σ : St) (x1 : Int) (x2 : Int) (H : Heap) (locs : List Loc) (ls : Array Slot), K4 σ x1 x2 → Hs D ct ad L φ N0 s.heap σ H locs → lv_has ls 3 [(0, .ref (ad 12 0)), (1, .int (iv x1)), (2, .int (iv x2))] → W p l e ({ frames := 0, cells := 0, slots := 0, locals := 0 } : Room) s m args below meth c H locs 0 0 (MQ below (Qi D ct ad L φ N0 Q) args s 0 0 (AA N0)) (F0 m 4 ls [])) (σ : St) (x1 : Int) (x2 : Int) (H : Heap) (locs : List Loc) (ls : Array Slot) (hw : wp_X12_inForce_47 K4 Q σ x1 x2) (h : Hs D ct ad L φ N0 s.heap σ H locs) (hl : lv_has ls 3 [(0, .ref (ad 12 0)), (1, .int (iv x1)), (2, .int (iv x2))]) : W p l e ({ frames := 0, cells := 0, slots := 0, locals := 0 } : Room) s m args below meth c H locs 0 0 (MQ below (Qi D ct ad L φ N0 Q) args s 0 0 (AA N0)) (F0 m 47 ls []) := by
  have hF := X.2.2.2.2.2.2.2.2.1
  unfold wp_X12_inForce_47 at hw
  refine j_iinc (kk9 := 2) (lv' := [(2, .int (iv (x2 + 1))), (0, .ref (ad 12 0)), (1, .int (iv x1))]) X dX12_inForce_47 hl rfl (by decide) rfl (fun ls hl => ?_)
  refine lv_goto (tgt := 4) X.1 X.2.1 dX12_inForce_50 (by decide) ?_
  exact hK4 σ x1 (x2 + 1) _ _ _ hw h (lv_sub hl [1, 2, 0] rfl)
set_option maxRecDepth 100000 in
set_option maxHeartbeats 4000000 in
theorem lb_X12_inForce_45 (X : Cx p s m meth c args cX12_inForce 3 (some .int) RX12 D ct L φ N0) {K4 : St → Int → Int → Prop} (hK4 : ∀ (σ : St) (x1 : Int) (x2 : Int) (H : Heap) (locs : List Loc) (ls : Array Slot), K4 σ x1 x2 → Hs D ct ad L φ N0 s.heap σ H locs → lv_has ls 3 [(0, .ref (ad 12 0)), (1, .int (iv x1)), (2, .int (iv x2))] → W p l e ({ frames := 0, cells := 0, slots := 0, locals := 0 } : Room) s m args below meth c H locs 0 0 (MQ below (Qi D ct ad L φ N0 Q) args s 0 0 (AA N0)) (F0 m 4 ls [])) (σ : St) (x2 : Int) (H : Heap) (locs : List Loc) (ls : Array Slot) (hw : wp_X12_inForce_45 K4 Q σ x2) (h : Hs D ct ad L φ N0 s.heap σ H locs) (hl : lv_has ls 3 [(0, .ref (ad 12 0)), (2, .int (iv x2))]) : W p l e ({ frames := 0, cells := 0, slots := 0, locals := 0 } : Room) s m args below meth c H locs 0 0 (MQ below (Qi D ct ad L φ N0 Q) args s 0 0 (AA N0)) (F0 m 45 ls []) := by
  have hF := X.2.2.2.2.2.2.2.2.1
  unfold wp_X12_inForce_45 at hw
  refine lv_iload_n X.1 X.2.1 dX12_inForce_45 rfl (lv_at hl 1 rfl) ?_
  refine lv_istore_n (lv' := [(1, .int (iv x2)), (0, .ref (ad 12 0)), (2, .int (iv x2))]) X.1 X.2.1 dX12_inForce_46 rfl hl (by decide) rfl (fun ls hl => ?_)
  exact lb_X12_inForce_47 X hK4 σ x2 x2 _ _ _ hw h (lv_sub hl [1, 0, 2] rfl)
set_option maxRecDepth 100000 in
set_option maxHeartbeats 4000000 in
theorem lb_X12_inForce_4 (X : Cx p s m meth c args cX12_inForce 3 (some .int) RX12 D ct L φ N0) : ∀ (n : Nat) (σ : St) (x1 : Int) (x2 : Int) (H : Heap) (locs : List Loc) (ls : Array Slot), wp_X12_inForce_4 Q n σ x1 x2 → Hs D ct ad L φ N0 s.heap σ H locs → lv_has ls 3 [(0, .ref (ad 12 0)), (1, .int (iv x1)), (2, .int (iv x2))] → W p l e ({ frames := 0, cells := 0, slots := 0, locals := 0 } : Room) s m args below meth c H locs 0 0 (MQ below (Qi D ct ad L φ N0 Q) args s 0 0 (AA N0)) (F0 m 4 ls []) := by
  have hF := X.2.2.2.2.2.2.2.2.1
  intro n
  induction n with
  | zero => intro σ x1 x2 H locs ls hw; exact hw.elim
  | succ n ih =>
    intro σ x1 x2 H locs ls hw h hl
    unfold wp_X12_inForce_4 at hw
    refine lv_iload_n X.1 X.2.1 dX12_inForce_4 rfl (lv_at hl 2 rfl) ?_
    refine lv_aload_n X.1 X.2.1 dX12_inForce_5 rfl (lv_at hl 0 rfl) ?_
    refine r_get (ci := 12) X inw_12 h (hF.1 12 rfl).1 rfl rfl 33 (by decide) kw_1671 rfl dX12_inForce_6 ?_
    obtain ⟨g_1, g_2, hwt, hwf⟩ := hw
    refine j_cmp_ge (tgt := 53) X g_1 g_2 dX12_inForce_9 (by decide) (fun c_17 => ?_) (fun c_17 => ?_)
    · have hw := hwt c_17
      refine lv_iload_n X.1 X.2.1 dX12_inForce_53 rfl (lv_at hl 1 rfl) ?_
      exact k_ir X rfl h hw dX12_inForce_54
    · have hw := hwf c_17
      refine lv_aload_n X.1 X.2.1 dX12_inForce_12 rfl (lv_at hl 0 rfl) ?_
      refine r_getR (ci := 12) X inw_12 h (hF.1 12 rfl).1 rfl rfl 34 (by decide) kw_1672 rfl ((hF.1 12 rfl).2 34) dX12_inForce_13 ?_
      refine lv_iload_n X.1 X.2.1 dX12_inForce_16 rfl (lv_at hl 2 rfl) ?_
      obtain ⟨g_3, g_4, hw⟩ := hw
      refine r_iald (n := 20) X h (hF.1 109 rfl).1 rfl (by decide) g_3 g_4 dX12_inForce_17 ?_
      refine lv_aload_n X.1 X.2.1 dX12_inForce_18 rfl (lv_at hl 0 rfl) ?_
      refine r_get (ci := 12) X inw_12 h (hF.1 12 rfl).1 rfl rfl 1 (by decide) kw_1639 rfl dX12_inForce_19 ?_
      obtain ⟨g_5, g_6, hwt, hwf⟩ := hw
      refine j_cmp_gt (tgt := 47) X g_5 g_6 dX12_inForce_22 (by decide) (fun c_16 => ?_) (fun c_16 => ?_)
      · have hw := hwt c_16
        exact lb_X12_inForce_47 X ih σ x1 x2 _ _ _ hw h (lv_sub hl [0, 1, 2] rfl)
      · have hw := hwf c_16
        refine lv_iload_n X.1 X.2.1 dX12_inForce_25 rfl (lv_at hl 1 rfl) ?_
        refine j_iconst X dX12_inForce_26 ?_
        obtain ⟨g_7, hwt, hwf⟩ := hw
        refine j_cmp_eq (tgt := 45) X g_7 ⟨by decide, by decide⟩ dX12_inForce_27 (by decide) (fun c_15 => ?_) (fun c_15 => ?_)
        · have hw := hwt c_15
          exact lb_X12_inForce_45 X ih σ x2 _ _ _ hw h (lv_sub hl [0, 2] rfl)
        · have hw := hwf c_15
          refine lv_aload_n X.1 X.2.1 dX12_inForce_30 rfl (lv_at hl 0 rfl) ?_
          refine r_getR (ci := 12) X inw_12 h (hF.1 12 rfl).1 rfl rfl 34 (by decide) kw_1672 rfl ((hF.1 12 rfl).2 34) dX12_inForce_31 ?_
          refine lv_iload_n X.1 X.2.1 dX12_inForce_34 rfl (lv_at hl 2 rfl) ?_
          obtain ⟨g_8, g_9, hw⟩ := hw
          refine r_iald (n := 20) X h (hF.1 109 rfl).1 rfl (by decide) g_8 g_9 dX12_inForce_35 ?_
          refine lv_aload_n X.1 X.2.1 dX12_inForce_36 rfl (lv_at hl 0 rfl) ?_
          refine r_getR (ci := 12) X inw_12 h (hF.1 12 rfl).1 rfl rfl 34 (by decide) kw_1672 rfl ((hF.1 12 rfl).2 34) dX12_inForce_37 ?_
          refine lv_iload_n X.1 X.2.1 dX12_inForce_40 rfl (lv_at hl 1 rfl) ?_
          obtain ⟨g_10, g_11, hw⟩ := hw
          refine r_iald (n := 20) X h (hF.1 109 rfl).1 rfl (by decide) g_10 g_11 dX12_inForce_41 ?_
          obtain ⟨g_12, g_13, hwt, hwf⟩ := hw
          refine j_cmp_lt (tgt := 47) X g_12 g_13 dX12_inForce_42 (by decide) (fun c_14 => ?_) (fun c_14 => ?_)
          · have hw := hwt c_14
            exact lb_X12_inForce_47 X ih σ x1 x2 _ _ _ hw h (lv_sub hl [0, 1, 2] rfl)
          · have hw := hwf c_14
            exact lb_X12_inForce_45 X ih σ x2 _ _ _ hw h (lv_sub hl [0, 2] rfl)
theorem pd_X12_inForce : yX12_inForce.cls ≠ "java/lang/invoke/MethodHandle" ∧ yX12_inForce.cls ≠ "java/lang/invoke/VarHandle" ∧ (parseMethodDescriptor yX12_inForce.desc).map (fun d => d.parameters.length) = some 0 := by decide +kernel
set_option maxRecDepth 100000 in
set_option maxHeartbeats 4000000 in
theorem c_X12_inForce (l : Launch) (D : va_G) (ct : Nat → ClassId) (ad : Nat → Nat → Nat) (L : List (Nat × Nat)) (φ : Nat → Nat → Nat → Bool) (N0 : Nat) (σ : St) (Q : Int → St → Prop) (hw : wp_X12_inForce σ Q) : Met l yX12_inForce (.code yX12_inForce cX12_inForce 3 (some .int) :: gw) ({ frames := 0, cells := 0, slots := 0, locals := 0 } : Room) (Pm D ct ad L φ N0 σ [.ref (ad 12 0)]) (Qi D ct ad L φ N0 Q) 0 0 (AA N0) := by
  refine m_of (by decide) (fun p e s m below meth c X hnm h => ?_)
  have hF := X.2.2.2.2.2.2.2.2.1
  have hl := lv_entry ([.ref (ad 12 0)]) (n := 3) (Nat.le_of_ble_eq_true rfl)
  rw [lg_entry_eq]
  generalize (lg_sl ([.ref (ad 12 0)]) ++ List.replicate (3 - (lg_sl ([.ref (ad 12 0)])).length) Slot.unset).toArray = ls at hl ⊢
  have hl : lv_has ls 3 [(0, .ref (ad 12 0))] := hl
  have h : Hs D ct ad L φ N0 s.heap σ s.heap [] := h
  unfold wp_X12_inForce at hw
  refine j_iconst X dX12_inForce_0 ?_
  refine lv_istore_n (lv' := [(1, .int (iv (-1))), (0, .ref (ad 12 0))]) X.1 X.2.1 dX12_inForce_1 rfl hl (by decide) rfl (fun ls hl => ?_)
  refine j_iconst X dX12_inForce_2 ?_
  refine lv_istore_n (lv' := [(2, .int (iv 0)), (1, .int (iv (-1))), (0, .ref (ad 12 0))]) X.1 X.2.1 dX12_inForce_3 rfl hl (by decide) rfl (fun ls hl => ?_)
  exact hw.elim (fun n4 hw => lb_X12_inForce_4 X n4 σ (-1) 0 _ _ _ hw h (lv_sub hl [2, 1, 0] rfl))
end
section
variable {p : Program} {l : Launch} {e : Env} {s : State} {m : MethodId} {args : Array Value} {below : List Frame} {meth : Method} {c : Code} {D : va_G} {ct : Nat → ClassId} {ad : Nat → Nat → Nat} {L : List (Nat × Nat)} {φ : Nat → Nat → Nat → Bool} {N0 : Nat}
variable {Q : Int → St → Prop}
set_option maxRecDepth 100000 in
set_option maxHeartbeats 4000000 in
theorem lb_X12_barring_52 (X : Cx p s m meth c args cX12_barring 4 (some .int) RX12 D ct L φ N0) {K7 : St → Int → Int → Int → Prop} (hK7 : ∀ (σ : St) (x1 : Int) (x2 : Int) (x3 : Int) (H : Heap) (locs : List Loc) (ls : Array Slot), K7 σ x1 x2 x3 → Hs D ct ad L φ N0 s.heap σ H locs → lv_has ls 4 [(0, .ref (ad 12 0)), (1, .int (iv x1)), (2, .int (iv x2)), (3, .int (iv x3))] → W p l e ({ frames := 1, cells := 0, slots := 0, locals := 24 } : Room) s m args below meth c H locs 0 0 (MQ below (Qi D ct ad L φ N0 Q) args s 0 0 (AA N0)) (F0 m 7 ls [])) (σ : St) (x1 : Int) (x2 : Int) (x3 : Int) (H : Heap) (locs : List Loc) (ls : Array Slot) (hw : wp_X12_barring_52 K7 Q σ x1 x2 x3) (h : Hs D ct ad L φ N0 s.heap σ H locs) (hl : lv_has ls 4 [(0, .ref (ad 12 0)), (1, .int (iv x1)), (2, .int (iv x2)), (3, .int (iv x3))]) : W p l e ({ frames := 1, cells := 0, slots := 0, locals := 24 } : Room) s m args below meth c H locs 0 0 (MQ below (Qi D ct ad L φ N0 Q) args s 0 0 (AA N0)) (F0 m 52 ls []) := by
  have hF := X.2.2.2.2.2.2.2.2.1
  unfold wp_X12_barring_52 at hw
  refine j_iinc (kk9 := 3) (lv' := [(3, .int (iv (x3 + 1))), (0, .ref (ad 12 0)), (1, .int (iv x1)), (2, .int (iv x2))]) X dX12_barring_52 hl rfl (by decide) rfl (fun ls hl => ?_)
  refine lv_goto (tgt := 7) X.1 X.2.1 dX12_barring_55 (by decide) ?_
  exact hK7 σ x1 x2 (x3 + 1) _ _ _ hw h (lv_sub hl [1, 2, 3, 0] rfl)
set_option maxRecDepth 100000 in
set_option maxHeartbeats 4000000 in
theorem lb_X12_barring_7 (X : Cx p s m meth c args cX12_barring 4 (some .int) RX12 D ct L φ N0) : ∀ (n : Nat) (σ : St) (x1 : Int) (x2 : Int) (x3 : Int) (H : Heap) (locs : List Loc) (ls : Array Slot), wp_X12_barring_7 Q n σ x1 x2 x3 → Hs D ct ad L φ N0 s.heap σ H locs → lv_has ls 4 [(0, .ref (ad 12 0)), (1, .int (iv x1)), (2, .int (iv x2)), (3, .int (iv x3))] → W p l e ({ frames := 1, cells := 0, slots := 0, locals := 24 } : Room) s m args below meth c H locs 0 0 (MQ below (Qi D ct ad L φ N0 Q) args s 0 0 (AA N0)) (F0 m 7 ls []) := by
  have hF := X.2.2.2.2.2.2.2.2.1
  intro n
  induction n with
  | zero => intro σ x1 x2 x3 H locs ls hw; exact hw.elim
  | succ n ih =>
    intro σ x1 x2 x3 H locs ls hw h hl
    unfold wp_X12_barring_7 at hw
    refine lv_iload_n X.1 X.2.1 dX12_barring_7 rfl (lv_at hl 2 rfl) ?_
    refine j_iconst X dX12_barring_8 ?_
    obtain ⟨g_1, hwt, hwf⟩ := hw
    refine j_cmp_eq (tgt := 58) X g_1 ⟨by decide, by decide⟩ dX12_barring_9 (by decide) (fun c_16 => ?_) (fun c_16 => ?_)
    · have hw := hwt c_16
      refine j_iconst X dX12_barring_58 ?_
      exact k_ir X rfl h hw dX12_barring_59
    · have hw := hwf c_16
      refine lv_iload_n X.1 X.2.1 dX12_barring_12 rfl (lv_at hl 3 rfl) ?_
      refine lv_aload_n X.1 X.2.1 dX12_barring_13 rfl (lv_at hl 0 rfl) ?_
      refine r_getR (ci := 12) X inw_12 h (hF.1 12 rfl).1 rfl rfl 35 (by decide) kw_1673 rfl ((hF.1 12 rfl).2 35) dX12_barring_14 ?_
      refine lv_iload_n X.1 X.2.1 dX12_barring_17 rfl (lv_at hl 2 rfl) ?_
      obtain ⟨g_2, g_3, hw⟩ := hw
      refine r_iald (n := 21) X h (hF.1 110 rfl).1 rfl (by decide) g_2 g_3 dX12_barring_18 ?_
      obtain ⟨g_4, g_5, hwt, hwf⟩ := hw
      refine j_cmp_ge (tgt := 58) X g_4 g_5 dX12_barring_19 (by decide) (fun c_15 => ?_) (fun c_15 => ?_)
      · have hw := hwt c_15
        refine j_iconst X dX12_barring_58 ?_
        exact k_ir X rfl h hw dX12_barring_59
      · have hw := hwf c_15
        refine lv_aload_n X.1 X.2.1 dX12_barring_22 rfl (lv_at hl 0 rfl) ?_
        refine r_getR (ci := 12) X inw_12 h (hF.1 12 rfl).1 rfl rfl 36 (by decide) kw_1674 rfl ((hF.1 12 rfl).2 36) dX12_barring_23 ?_
        refine j_bipush X dX12_barring_26 (by decide) ?_
        refine lv_iload_n X.1 X.2.1 dX12_barring_28 rfl (lv_at hl 2 rfl) ?_
        refine j_imul X dX12_barring_29 ?_
        refine lv_iload_n X.1 X.2.1 dX12_barring_30 rfl (lv_at hl 3 rfl) ?_
        refine j_iadd X dX12_barring_31 ?_
        obtain ⟨g_6, g_7, hw⟩ := hw
        refine r_iald (n := 252) X h (hF.1 111 rfl).1 rfl (by decide) g_6 g_7 dX12_barring_32 ?_
        refine lv_iload_n X.1 X.2.1 dX12_barring_33 rfl (lv_at hl 1 rfl) ?_
        obtain ⟨g_8, g_9, hwt, hwf⟩ := hw
        refine j_cmp_ne (tgt := 52) X g_8 g_9 dX12_barring_34 (by decide) (fun c_14 => ?_) (fun c_14 => ?_)
        · have hw := hwt c_14
          exact lb_X12_barring_52 X ih σ x1 x2 x3 _ _ _ hw h (lv_sub hl [0, 1, 2, 3] rfl)
        · have hw := hwf c_14
          refine lv_aload_n X.1 X.2.1 dX12_barring_37 rfl (lv_at hl 0 rfl) ?_
          refine j_bipush X dX12_barring_38 (by decide) ?_
          refine lv_iload_n X.1 X.2.1 dX12_barring_40 rfl (lv_at hl 2 rfl) ?_
          refine j_imul X dX12_barring_41 ?_
          refine lv_iload_n X.1 X.2.1 dX12_barring_42 rfl (lv_at hl 3 rfl) ?_
          refine j_iadd X dX12_barring_43 ?_
          refine k_i h (r_V (C := RX12) (ci := 12) (As := [.int (iv ((12 * x2) + x3))]) (rest := []) X h (c_X12_holds l D ct ad L φ N0 σ ((12 * x2) + x3) _ hw) rfl rfl ⟨Nat.le_of_ble_eq_true rfl, Nat.le_of_ble_eq_true rfl⟩ kw_2175 kw_2177 kw_88 kw_129 kw_2178 ⟨rfl, pd_X12_holds⟩ (hF.1 12 rfl).1 rfl rfl rfl hl.1 rfl (Nat.le_of_ble_eq_true rfl) ⟨Nat.le_of_ble_eq_true rfl, Nat.le_of_ble_eq_true rfl⟩ dX12_barring_44) (fun r_11 σ_10 H locs hw h => ?_)
          obtain ⟨g_12, hwt, hwf⟩ := hw
          refine j_if_eq (tgt := 52) X g_12 dX12_barring_47 (by decide) (fun c_13 => ?_) (fun c_13 => ?_)
          · have hw := hwt c_13
            exact lb_X12_barring_52 X ih σ_10 x1 x2 x3 _ _ _ hw h (lv_sub hl [0, 1, 2, 3] rfl)
          · have hw := hwf c_13
            refine lv_iload_n X.1 X.2.1 dX12_barring_50 rfl (lv_at hl 3 rfl) ?_
            exact k_ir X rfl h hw dX12_barring_51
theorem pd_X12_barring : yX12_barring.cls ≠ "java/lang/invoke/MethodHandle" ∧ yX12_barring.cls ≠ "java/lang/invoke/VarHandle" ∧ (parseMethodDescriptor yX12_barring.desc).map (fun d => d.parameters.length) = some 1 := by decide +kernel
set_option maxRecDepth 100000 in
set_option maxHeartbeats 4000000 in
theorem c_X12_barring (l : Launch) (D : va_G) (ct : Nat → ClassId) (ad : Nat → Nat → Nat) (L : List (Nat × Nat)) (φ : Nat → Nat → Nat → Bool) (N0 : Nat) (σ : St) (x1 : Int) (Q : Int → St → Prop) (hw : wp_X12_barring σ x1 Q) : Met l yX12_barring (.code yX12_barring cX12_barring 4 (some .int) :: gw) ({ frames := 1, cells := 0, slots := 0, locals := 24 } : Room) (Pm D ct ad L φ N0 σ [.ref (ad 12 0), .int (iv x1)]) (Qi D ct ad L φ N0 Q) 0 0 (AA N0) := by
  refine m_of (by decide) (fun p e s m below meth c X hnm h => ?_)
  have hF := X.2.2.2.2.2.2.2.2.1
  have hl := lv_entry ([.ref (ad 12 0), .int (iv x1)]) (n := 4) (Nat.le_of_ble_eq_true rfl)
  rw [lg_entry_eq]
  generalize (lg_sl ([.ref (ad 12 0), .int (iv x1)]) ++ List.replicate (4 - (lg_sl ([.ref (ad 12 0), .int (iv x1)])).length) Slot.unset).toArray = ls at hl ⊢
  have hl : lv_has ls 4 [(0, .ref (ad 12 0)), (1, .int (iv x1))] := hl
  have h : Hs D ct ad L φ N0 s.heap σ s.heap [] := h
  unfold wp_X12_barring at hw
  refine lv_aload_n X.1 X.2.1 dX12_barring_0 rfl (lv_at hl 0 rfl) ?_
  refine k_i h (r_V (C := RX12) (ci := 12) (As := []) (rest := []) X h (c_X12_inForce l D ct ad L φ N0 σ _ hw) rfl rfl ⟨Nat.le_of_ble_eq_true rfl, Nat.le_of_ble_eq_true rfl⟩ kw_2171 kw_2173 kw_87 kw_129 kw_2174 ⟨rfl, pd_X12_inForce⟩ (hF.1 12 rfl).1 rfl rfl rfl hl.1 rfl (Nat.le_of_ble_eq_true rfl) ⟨Nat.le_of_ble_eq_true rfl, Nat.le_of_ble_eq_true rfl⟩ dX12_barring_1) (fun r_18 σ_17 H locs hw h => ?_)
  refine lv_istore_n (lv' := [(2, .int (iv r_18)), (0, .ref (ad 12 0)), (1, .int (iv x1))]) X.1 X.2.1 dX12_barring_4 rfl hl (by decide) rfl (fun ls hl => ?_)
  refine j_iconst X dX12_barring_5 ?_
  refine lv_istore_n (lv' := [(3, .int (iv 0)), (2, .int (iv r_18)), (0, .ref (ad 12 0)), (1, .int (iv x1))]) X.1 X.2.1 dX12_barring_6 rfl hl (by decide) rfl (fun ls hl => ?_)
  exact hw.elim (fun n7 hw => lb_X12_barring_7 X n7 σ_17 x1 r_18 0 _ _ _ hw h (lv_sub hl [2, 3, 1, 0] rfl))
end
section
variable {p : Program} {l : Launch} {e : Env} {s : State} {m : MethodId} {args : Array Value} {below : List Frame} {meth : Method} {c : Code} {D : va_G} {ct : Nat → ClassId} {ad : Nat → Nat → Nat} {L : List (Nat × Nat)} {φ : Nat → Nat → Nat → Bool} {N0 : Nat}
variable {Q : Int → St → Prop}
set_option maxRecDepth 100000 in
set_option maxHeartbeats 4000000 in
theorem lb_X12_lastOf_88 (X : Cx p s m meth c args cX12_lastOf 5 (some .int) RX12 D ct L φ N0) {K29 : St → Int → Int → Int → Int → Prop} (hK29 : ∀ (σ : St) (x1 : Int) (x2 : Int) (x3 : Int) (x4 : Int) (H : Heap) (locs : List Loc) (ls : Array Slot), K29 σ x1 x2 x3 x4 → Hs D ct ad L φ N0 s.heap σ H locs → lv_has ls 5 [(0, .ref (ad 12 0)), (1, .int (iv x1)), (2, .int (iv x2)), (3, .int (iv x3)), (4, .int (iv x4))] → W p l e ({ frames := 1, cells := 0, slots := 0, locals := 24 } : Room) s m args below meth c H locs 0 0 (MQ below (Qi D ct ad L φ N0 Q) args s 0 0 (AA N0)) (F0 m 29 ls [])) (σ : St) (x1 : Int) (x2 : Int) (x3 : Int) (x4 : Int) (H : Heap) (locs : List Loc) (ls : Array Slot) (hw : wp_X12_lastOf_88 K29 Q σ x1 x2 x3 x4) (h : Hs D ct ad L φ N0 s.heap σ H locs) (hl : lv_has ls 5 [(0, .ref (ad 12 0)), (1, .int (iv x1)), (2, .int (iv x2)), (3, .int (iv x3)), (4, .int (iv x4))]) : W p l e ({ frames := 1, cells := 0, slots := 0, locals := 24 } : Room) s m args below meth c H locs 0 0 (MQ below (Qi D ct ad L φ N0 Q) args s 0 0 (AA N0)) (F0 m 88 ls []) := by
  have hF := X.2.2.2.2.2.2.2.2.1
  unfold wp_X12_lastOf_88 at hw
  refine j_iinc (kk9 := 4) (lv' := [(4, .int (iv (x4 + 1))), (0, .ref (ad 12 0)), (1, .int (iv x1)), (2, .int (iv x2)), (3, .int (iv x3))]) X dX12_lastOf_88 hl rfl (by decide) rfl (fun ls hl => ?_)
  refine lv_goto (tgt := 29) X.1 X.2.1 dX12_lastOf_91 (by decide) ?_
  exact hK29 σ x1 x2 x3 (x4 + 1) _ _ _ hw h (lv_sub hl [1, 2, 3, 4, 0] rfl)
set_option maxRecDepth 100000 in
set_option maxHeartbeats 4000000 in
theorem lb_X12_lastOf_29 (X : Cx p s m meth c args cX12_lastOf 5 (some .int) RX12 D ct L φ N0) : ∀ (n : Nat) (σ : St) (x1 : Int) (x2 : Int) (x3 : Int) (x4 : Int) (H : Heap) (locs : List Loc) (ls : Array Slot), wp_X12_lastOf_29 Q n σ x1 x2 x3 x4 → Hs D ct ad L φ N0 s.heap σ H locs → lv_has ls 5 [(0, .ref (ad 12 0)), (1, .int (iv x1)), (2, .int (iv x2)), (3, .int (iv x3)), (4, .int (iv x4))] → W p l e ({ frames := 1, cells := 0, slots := 0, locals := 24 } : Room) s m args below meth c H locs 0 0 (MQ below (Qi D ct ad L φ N0 Q) args s 0 0 (AA N0)) (F0 m 29 ls []) := by
  have hF := X.2.2.2.2.2.2.2.2.1
  intro n
  induction n with
  | zero => intro σ x1 x2 x3 x4 H locs ls hw; exact hw.elim
  | succ n ih =>
    intro σ x1 x2 x3 x4 H locs ls hw h hl
    unfold wp_X12_lastOf_29 at hw
    refine lv_iload_n X.1 X.2.1 dX12_lastOf_29 rfl (lv_at hl 3 rfl) ?_
    refine j_iconst X dX12_lastOf_30 ?_
    obtain ⟨g_1, hwt, hwf⟩ := hw
    refine j_cmp_eq (tgt := 94) X g_1 ⟨by decide, by decide⟩ dX12_lastOf_31 (by decide) (fun c_19 => ?_) (fun c_19 => ?_)
    · have hw := hwt c_19
      refine lv_iload_n X.1 X.2.1 dX12_lastOf_94 rfl (lv_at hl 2 rfl) ?_
      exact k_ir X rfl h hw dX12_lastOf_95
    · have hw := hwf c_19
      refine lv_iload X.1 X.2.1 dX12_lastOf_34 (lv_at hl 4 rfl) ?_
      refine lv_aload_n X.1 X.2.1 dX12_lastOf_36 rfl (lv_at hl 0 rfl) ?_
      refine r_getR (ci := 12) X inw_12 h (hF.1 12 rfl).1 rfl rfl 35 (by decide) kw_1673 rfl ((hF.1 12 rfl).2 35) dX12_lastOf_37 ?_
      refine lv_iload_n X.1 X.2.1 dX12_lastOf_40 rfl (lv_at hl 3 rfl) ?_
      obtain ⟨g_2, g_3, hw⟩ := hw
      refine r_iald (n := 21) X h (hF.1 110 rfl).1 rfl (by decide) g_2 g_3 dX12_lastOf_41 ?_
      obtain ⟨g_4, g_5, hwt, hwf⟩ := hw
      refine j_cmp_ge (tgt := 94) X g_4 g_5 dX12_lastOf_42 (by decide) (fun c_18 => ?_) (fun c_18 => ?_)
      · have hw := hwt c_18
        refine lv_iload_n X.1 X.2.1 dX12_lastOf_94 rfl (lv_at hl 2 rfl) ?_
        exact k_ir X rfl h hw dX12_lastOf_95
      · have hw := hwf c_18
        refine lv_aload_n X.1 X.2.1 dX12_lastOf_45 rfl (lv_at hl 0 rfl) ?_
        refine r_getR (ci := 12) X inw_12 h (hF.1 12 rfl).1 rfl rfl 36 (by decide) kw_1674 rfl ((hF.1 12 rfl).2 36) dX12_lastOf_46 ?_
        refine j_bipush X dX12_lastOf_49 (by decide) ?_
        refine lv_iload_n X.1 X.2.1 dX12_lastOf_51 rfl (lv_at hl 3 rfl) ?_
        refine j_imul X dX12_lastOf_52 ?_
        refine lv_iload X.1 X.2.1 dX12_lastOf_53 (lv_at hl 4 rfl) ?_
        refine j_iadd X dX12_lastOf_55 ?_
        obtain ⟨g_6, g_7, hw⟩ := hw
        refine r_iald (n := 252) X h (hF.1 111 rfl).1 rfl (by decide) g_6 g_7 dX12_lastOf_56 ?_
        refine lv_iload_n X.1 X.2.1 dX12_lastOf_57 rfl (lv_at hl 1 rfl) ?_
        obtain ⟨g_8, g_9, hwt, hwf⟩ := hw
        refine j_cmp_ne (tgt := 88) X g_8 g_9 dX12_lastOf_58 (by decide) (fun c_17 => ?_) (fun c_17 => ?_)
        · have hw := hwt c_17
          exact lb_X12_lastOf_88 X ih σ x1 x2 x3 x4 _ _ _ hw h (lv_sub hl [0, 1, 2, 3, 4] rfl)
        · have hw := hwf c_17
          refine lv_aload_n X.1 X.2.1 dX12_lastOf_61 rfl (lv_at hl 0 rfl) ?_
          refine j_bipush X dX12_lastOf_62 (by decide) ?_
          refine lv_iload_n X.1 X.2.1 dX12_lastOf_64 rfl (lv_at hl 3 rfl) ?_
          refine j_imul X dX12_lastOf_65 ?_
          refine lv_iload X.1 X.2.1 dX12_lastOf_66 (lv_at hl 4 rfl) ?_
          refine j_iadd X dX12_lastOf_68 ?_
          refine k_i h (r_V (C := RX12) (ci := 12) (As := [.int (iv ((12 * x3) + x4))]) (rest := []) X h (c_X12_holds l D ct ad L φ N0 σ ((12 * x3) + x4) _ hw) rfl rfl ⟨Nat.le_of_ble_eq_true rfl, Nat.le_of_ble_eq_true rfl⟩ kw_2175 kw_2177 kw_88 kw_129 kw_2178 ⟨rfl, pd_X12_holds⟩ (hF.1 12 rfl).1 rfl rfl rfl hl.1 rfl (Nat.le_of_ble_eq_true rfl) ⟨Nat.le_of_ble_eq_true rfl, Nat.le_of_ble_eq_true rfl⟩ dX12_lastOf_69) (fun r_11 σ_10 H locs hw h => ?_)
          obtain ⟨g_12, hwt, hwf⟩ := hw
          refine j_if_eq (tgt := 88) X g_12 dX12_lastOf_72 (by decide) (fun c_16 => ?_) (fun c_16 => ?_)
          · have hw := hwt c_16
            exact lb_X12_lastOf_88 X ih σ_10 x1 x2 x3 x4 _ _ _ hw h (lv_sub hl [0, 1, 2, 3, 4] rfl)
          · have hw := hwf c_16
            refine lv_aload_n X.1 X.2.1 dX12_lastOf_75 rfl (lv_at hl 0 rfl) ?_
            refine r_getR (ci := 12) X inw_12 h (hF.1 12 rfl).1 rfl rfl 37 (by decide) kw_1675 rfl ((hF.1 12 rfl).2 37) dX12_lastOf_76 ?_
            refine j_bipush X dX12_lastOf_79 (by decide) ?_
            refine lv_iload_n X.1 X.2.1 dX12_lastOf_81 rfl (lv_at hl 3 rfl) ?_
            refine j_imul X dX12_lastOf_82 ?_
            refine lv_iload X.1 X.2.1 dX12_lastOf_83 (lv_at hl 4 rfl) ?_
            refine j_iadd X dX12_lastOf_85 ?_
            obtain ⟨g_13, g_14, hw⟩ := hw
            refine r_iald (n := 252) X h (hF.1 112 rfl).1 rfl (by decide) g_13 g_14 dX12_lastOf_86 ?_
            refine j_bind (fun v_15 ev_15 => ?_)
            have hw := hw v_15 ev_15
            refine lv_istore_n (lv' := [(2, .int (iv v_15)), (0, .ref (ad 12 0)), (1, .int (iv x1)), (3, .int (iv x3)), (4, .int (iv x4))]) X.1 X.2.1 dX12_lastOf_87 rfl hl (by decide) rfl (fun ls hl => ?_)
            exact lb_X12_lastOf_88 X ih σ_10 x1 v_15 x3 x4 _ _ _ hw h (lv_sub hl [1, 2, 0, 3, 4] rfl)
set_option maxRecDepth 100000 in
set_option maxHeartbeats 4000000 in
theorem lb_X12_lastOf_20 (X : Cx p s m meth c args cX12_lastOf 5 (some .int) RX12 D ct L φ N0) (σ : St) (x1 : Int) (y0 : Int) (H : Heap) (locs : List Loc) (ls : Array Slot) (hw : wp_X12_lastOf_20 Q σ x1 y0) (h : Hs D ct ad L φ N0 s.heap σ H locs) (hl : lv_has ls 5 [(0, .ref (ad 12 0)), (1, .int (iv x1))]) : W p l e ({ frames := 1, cells := 0, slots := 0, locals := 24 } : Room) s m args below meth c H locs 0 0 (MQ below (Qi D ct ad L φ N0 Q) args s 0 0 (AA N0)) (F0 m 20 ls [.int (iv y0)]) := by
  have hF := X.2.2.2.2.2.2.2.2.1
  unfold wp_X12_lastOf_20 at hw
  refine lv_istore_n (lv' := [(2, .int (iv y0)), (0, .ref (ad 12 0)), (1, .int (iv x1))]) X.1 X.2.1 dX12_lastOf_20 rfl hl (by decide) rfl (fun ls hl => ?_)
  refine lv_aload_n X.1 X.2.1 dX12_lastOf_21 rfl (lv_at hl 1 rfl) ?_
  refine k_i h (r_V (C := RX12) (ci := 12) (As := []) (rest := []) X h (c_X12_inForce l D ct ad L φ N0 σ _ hw) rfl rfl ⟨Nat.le_of_ble_eq_true rfl, Nat.le_of_ble_eq_true rfl⟩ kw_2171 kw_2173 kw_87 kw_129 kw_2174 ⟨rfl, pd_X12_inForce⟩ (hF.1 12 rfl).1 rfl rfl rfl hl.1 rfl (Nat.le_of_ble_eq_true rfl) ⟨Nat.le_of_ble_eq_true rfl, Nat.le_of_ble_eq_true rfl⟩ dX12_lastOf_22) (fun r_21 σ_20 H locs hw h => ?_)
  refine lv_istore_n (lv' := [(3, .int (iv r_21)), (2, .int (iv y0)), (0, .ref (ad 12 0)), (1, .int (iv x1))]) X.1 X.2.1 dX12_lastOf_25 rfl hl (by decide) rfl (fun ls hl => ?_)
  refine j_iconst X dX12_lastOf_26 ?_
  refine lv_istore (lv' := [(4, .int (iv 0)), (3, .int (iv r_21)), (2, .int (iv y0)), (0, .ref (ad 12 0)), (1, .int (iv x1))]) X.1 X.2.1 dX12_lastOf_27 hl (by decide) rfl (fun ls hl => ?_)
  exact hw.elim (fun n29 hw => lb_X12_lastOf_29 X n29 σ_20 x1 y0 r_21 0 _ _ _ hw h (lv_sub hl [3, 4, 2, 1, 0] rfl))
theorem pd_X12_lastOf : yX12_lastOf.cls ≠ "java/lang/invoke/MethodHandle" ∧ yX12_lastOf.cls ≠ "java/lang/invoke/VarHandle" ∧ (parseMethodDescriptor yX12_lastOf.desc).map (fun d => d.parameters.length) = some 1 := by decide +kernel
set_option maxRecDepth 100000 in
set_option maxHeartbeats 4000000 in
theorem c_X12_lastOf (l : Launch) (D : va_G) (ct : Nat → ClassId) (ad : Nat → Nat → Nat) (L : List (Nat × Nat)) (φ : Nat → Nat → Nat → Bool) (N0 : Nat) (σ : St) (x1 : Int) (Q : Int → St → Prop) (hw : wp_X12_lastOf σ x1 Q) : Met l yX12_lastOf (.code yX12_lastOf cX12_lastOf 5 (some .int) :: gw) ({ frames := 1, cells := 0, slots := 0, locals := 24 } : Room) (Pm D ct ad L φ N0 σ [.ref (ad 12 0), .int (iv x1)]) (Qi D ct ad L φ N0 Q) 0 0 (AA N0) := by
  refine m_of (by decide) (fun p e s m below meth c X hnm h => ?_)
  have hF := X.2.2.2.2.2.2.2.2.1
  have hl := lv_entry ([.ref (ad 12 0), .int (iv x1)]) (n := 5) (Nat.le_of_ble_eq_true rfl)
  rw [lg_entry_eq]
  generalize (lg_sl ([.ref (ad 12 0), .int (iv x1)]) ++ List.replicate (5 - (lg_sl ([.ref (ad 12 0), .int (iv x1)])).length) Slot.unset).toArray = ls at hl ⊢
  have hl : lv_has ls 5 [(0, .ref (ad 12 0)), (1, .int (iv x1))] := hl
  have h : Hs D ct ad L φ N0 s.heap σ s.heap [] := h
  unfold wp_X12_lastOf at hw
  refine lv_iload_n X.1 X.2.1 dX12_lastOf_0 rfl (lv_at hl 1 rfl) ?_
  refine j_iconst X dX12_lastOf_1 ?_
  obtain ⟨g_22, hwt, hwf⟩ := hw
  refine j_cmp_ne (tgt := 9) X g_22 ⟨by decide, by decide⟩ dX12_lastOf_2 (by decide) (fun c_25 => ?_) (fun c_25 => ?_)
  · have hw := hwt c_25
    refine lv_iload_n X.1 X.2.1 dX12_lastOf_9 rfl (lv_at hl 1 rfl) ?_
    refine j_iconst X dX12_lastOf_10 ?_
    obtain ⟨g_23, hwt, hwf⟩ := hw
    refine j_cmp_ne (tgt := 19) X g_23 ⟨by decide, by decide⟩ dX12_lastOf_11 (by decide) (fun c_24 => ?_) (fun c_24 => ?_)
    · have hw := hwt c_24
      refine j_iconst X dX12_lastOf_19 ?_
      exact lb_X12_lastOf_20 X σ x1 5 _ _ _ hw h (lv_sub hl [0, 1] rfl)
    · have hw := hwf c_24
      refine j_bipush X dX12_lastOf_14 (by decide) ?_
      refine lv_goto (tgt := 20) X.1 X.2.1 dX12_lastOf_16 (by decide) ?_
      exact lb_X12_lastOf_20 X σ x1 50 _ _ _ hw h (lv_sub hl [0, 1] rfl)
  · have hw := hwf c_25
    refine j_iconst X dX12_lastOf_5 ?_
    refine lv_goto (tgt := 20) X.1 X.2.1 dX12_lastOf_6 (by decide) ?_
    exact lb_X12_lastOf_20 X σ x1 2 _ _ _ hw h (lv_sub hl [0, 1] rfl)
end
