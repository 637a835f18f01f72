/-! walked by program: 18.w -/
section
variable {p : Program} {l : Launch} {e : Env} {s : State} {m : MethodId} {args : Array Value} {below : List Frame} {meth : Method} {c : Code} {D : va_G} {ct : Nat → ClassId} {ad : Nat → Nat → Nat} {L : List (Nat × Nat)} {φ : Nat → Nat → Nat → Bool} {N0 : Nat}
variable {Q : Int → St → Prop}
theorem pd_X12_order : yX12_order.cls ≠ "java/lang/invoke/MethodHandle" ∧ yX12_order.cls ≠ "java/lang/invoke/VarHandle" ∧ (parseMethodDescriptor yX12_order.desc).map (fun d => d.parameters.length) = some 5 := by decide +kernel
set_option maxRecDepth 100000 in
set_option maxHeartbeats 4000000 in
theorem c_X12_order (l : Launch) (D : va_G) (ct : Nat → ClassId) (ad : Nat → Nat → Nat) (L : List (Nat × Nat)) (φ : Nat → Nat → Nat → Bool) (N0 : Nat) (σ : St) (x1 : Int) (x2 : Int) (x3 : Int) (x4 : Int) (x5 : Int) (Q : Int → St → Prop) (hw : wp_X12_order σ x1 x2 x3 x4 x5 Q) : Met l yX12_order (.code yX12_order cX12_order 6 (some .int) :: gw) ({ frames := 1, cells := 0, slots := 0, locals := 22 } : Room) (Pm D ct ad L φ N0 σ [.ref (ad 12 0), .int (iv x1), .int (iv x2), .int (iv x3), .int (iv x4), .int (iv x5)]) (Qi D ct ad L φ N0 Q) 0 0 (AA N0) := by
  refine m_of (by decide) (fun p e s m below meth c X hnm h => ?_)
  have hF := X.2.2.2.2.2.2.2.2.1
  have hl := lv_entry ([.ref (ad 12 0), .int (iv x1), .int (iv x2), .int (iv x3), .int (iv x4), .int (iv x5)]) (n := 6) (Nat.le_of_ble_eq_true rfl)
  rw [lg_entry_eq]
  generalize (lg_sl ([.ref (ad 12 0), .int (iv x1), .int (iv x2), .int (iv x3), .int (iv x4), .int (iv x5)]) ++ List.replicate (6 - (lg_sl ([.ref (ad 12 0), .int (iv x1), .int (iv x2), .int (iv x3), .int (iv x4), .int (iv x5)])).length) Slot.unset).toArray = ls at hl ⊢
  have hl : lv_has ls 6 [(0, .ref (ad 12 0)), (1, .int (iv x1)), (2, .int (iv x2)), (3, .int (iv x3)), (4, .int (iv x4)), (5, .int (iv x5))] := hl
  have h : Hs D ct ad L φ N0 s.heap σ s.heap [] := h
  unfold wp_X12_order at hw
  refine lv_aload_n X.1 X.2.1 dX12_order_0 rfl (lv_at hl 0 rfl) ?_
  refine j_iconst X dX12_order_1 ?_
  refine r_put (ci := 12) X inw_12 tyX12 tyX12_ok nmX12 h (hF.1 12 rfl).1 rfl rfl 0 (by decide) kw_1638 rfl rfl rfl (Nat.le_of_ble_eq_true rfl) rfl rfl dX12_order_2 (fun H locs h => ?_)
  obtain ⟨σ_1, eσ_1⟩ : ∃ z : St, z = st σ 12 0 0 0 := ⟨_, rfl⟩
  rw [← eσ_1] at h
  have hw := hw σ_1 eσ_1
  refine lv_iload_n X.1 X.2.1 dX12_order_5 rfl (lv_at hl 1 rfl) ?_
  refine j_iconst X dX12_order_6 ?_
  refine j_bipush X dX12_order_7 (by decide) ?_
  refine k_i h (r_S (As := [.int (iv x1), .int (iv 1), .int (iv 12)]) (rest := []) X h (c_X12_within l D ct ad L φ N0 σ_1 x1 1 12 _ hw) rfl rfl ⟨Nat.le_of_ble_eq_true rfl, Nat.le_of_ble_eq_true rfl⟩ kw_1959 kw_1960 kw_129 kw_1961 pd_X12_within rfl hl.1 rfl (Nat.le_of_ble_eq_true rfl) ⟨Nat.le_of_ble_eq_true rfl, Nat.le_of_ble_eq_true rfl⟩ dX12_order_9) (fun r_3 σ_2 H locs hw h => ?_)
  obtain ⟨g_4, hwt, hwf⟩ := hw
  refine j_if_eq (tgt := 70) X g_4 dX12_order_12 (by decide) (fun c_42 => ?_) (fun c_42 => ?_)
  · have hw := hwt c_42
    refine j_iconst X dX12_order_70 ?_
    exact k_ir X rfl h hw dX12_order_71
  · have hw := hwf c_42
    refine lv_iload_n X.1 X.2.1 dX12_order_15 rfl (lv_at hl 2 rfl) ?_
    refine j_iconst X dX12_order_16 ?_
    refine j_bipush X dX12_order_17 (by decide) ?_
    refine k_i h (r_S (As := [.int (iv x2), .int (iv 2), .int (iv 6)]) (rest := []) X h (c_X12_within l D ct ad L φ N0 σ_2 x2 2 6 _ hw) rfl rfl ⟨Nat.le_of_ble_eq_true rfl, Nat.le_of_ble_eq_true rfl⟩ kw_1959 kw_1960 kw_129 kw_1961 pd_X12_within rfl hl.1 rfl (Nat.le_of_ble_eq_true rfl) ⟨Nat.le_of_ble_eq_true rfl, Nat.le_of_ble_eq_true rfl⟩ dX12_order_19) (fun r_6 σ_5 H locs hw h => ?_)
    obtain ⟨g_7, hwt, hwf⟩ := hw
    refine j_if_eq (tgt := 70) X g_7 dX12_order_22 (by decide) (fun c_41 => ?_) (fun c_41 => ?_)
    · have hw := hwt c_41
      refine j_iconst X dX12_order_70 ?_
      exact k_ir X rfl h hw dX12_order_71
    · have hw := hwf c_41
      refine lv_iload_n X.1 X.2.1 dX12_order_25 rfl (lv_at hl 3 rfl) ?_
      refine j_iconst X dX12_order_26 ?_
      refine j_bipush X dX12_order_27 (by decide) ?_
      refine k_i h (r_S (As := [.int (iv x3), .int (iv 1), .int (iv 99)]) (rest := []) X h (c_X12_within l D ct ad L φ N0 σ_5 x3 1 99 _ hw) rfl rfl ⟨Nat.le_of_ble_eq_true rfl, Nat.le_of_ble_eq_true rfl⟩ kw_1959 kw_1960 kw_129 kw_1961 pd_X12_within rfl hl.1 rfl (Nat.le_of_ble_eq_true rfl) ⟨Nat.le_of_ble_eq_true rfl, Nat.le_of_ble_eq_true rfl⟩ dX12_order_29) (fun r_9 σ_8 H locs hw h => ?_)
      obtain ⟨g_10, hwt, hwf⟩ := hw
      refine j_if_eq (tgt := 70) X g_10 dX12_order_32 (by decide) (fun c_40 => ?_) (fun c_40 => ?_)
      · have hw := hwt c_40
        refine j_iconst X dX12_order_70 ?_
        exact k_ir X rfl h hw dX12_order_71
      · have hw := hwf c_40
        refine lv_iload X.1 X.2.1 dX12_order_35 (lv_at hl 4 rfl) ?_
        refine j_iconst X dX12_order_37 ?_
        refine j_bipush X dX12_order_38 (by decide) ?_
        refine k_i h (r_S (As := [.int (iv x4), .int (iv 1), .int (iv 99)]) (rest := []) X h (c_X12_within l D ct ad L φ N0 σ_8 x4 1 99 _ hw) rfl rfl ⟨Nat.le_of_ble_eq_true rfl, Nat.le_of_ble_eq_true rfl⟩ kw_1959 kw_1960 kw_129 kw_1961 pd_X12_within rfl hl.1 rfl (Nat.le_of_ble_eq_true rfl) ⟨Nat.le_of_ble_eq_true rfl, Nat.le_of_ble_eq_true rfl⟩ dX12_order_40) (fun r_12 σ_11 H locs hw h => ?_)
        obtain ⟨g_13, hwt, hwf⟩ := hw
        refine j_if_eq (tgt := 70) X g_13 dX12_order_43 (by decide) (fun c_39 => ?_) (fun c_39 => ?_)
        · have hw := hwt c_39
          refine j_iconst X dX12_order_70 ?_
          exact k_ir X rfl h hw dX12_order_71
        · have hw := hwf c_39
          refine lv_iload X.1 X.2.1 dX12_order_46 (lv_at hl 5 rfl) ?_
          refine lv_aload_n X.1 X.2.1 dX12_order_48 rfl (lv_at hl 0 rfl) ?_
          refine r_get (ci := 12) X inw_12 h (hF.1 12 rfl).1 rfl rfl 1 (by decide) kw_1639 rfl dX12_order_49 ?_
          refine j_sipush X dX12_order_52 (by decide) ?_
          refine k_i h (r_S (As := [.int (iv x5), .int (iv (σ_11 12 0 1)), .int (iv 3999)]) (rest := []) X h (c_X12_within l D ct ad L φ N0 σ_11 x5 (σ_11 12 0 1) 3999 _ hw) rfl rfl ⟨Nat.le_of_ble_eq_true rfl, Nat.le_of_ble_eq_true rfl⟩ kw_1959 kw_1960 kw_129 kw_1961 pd_X12_within rfl hl.1 rfl (Nat.le_of_ble_eq_true rfl) ⟨Nat.le_of_ble_eq_true rfl, Nat.le_of_ble_eq_true rfl⟩ dX12_order_55) (fun r_15 σ_14 H locs hw h => ?_)
          obtain ⟨g_16, hwt, hwf⟩ := hw
          refine j_if_eq (tgt := 70) X g_16 dX12_order_58 (by decide) (fun c_38 => ?_) (fun c_38 => ?_)
          · have hw := hwt c_38
            refine j_iconst X dX12_order_70 ?_
            exact k_ir X rfl h hw dX12_order_71
          · have hw := hwf c_38
            refine lv_aload_n X.1 X.2.1 dX12_order_61 rfl (lv_at hl 0 rfl) ?_
            refine r_get (ci := 12) X inw_12 h (hF.1 12 rfl).1 rfl rfl 71 (by decide) kw_1709 rfl dX12_order_62 ?_
            refine j_bipush X dX12_order_65 (by decide) ?_
            obtain ⟨g_17, hwt, hwf⟩ := hw
            refine j_cmp_ne (tgt := 72) X g_17 ⟨by decide, by decide⟩ dX12_order_67 (by decide) (fun c_37 => ?_) (fun c_37 => ?_)
            · have hw := hwt c_37
              refine lv_aload_n X.1 X.2.1 dX12_order_72 rfl (lv_at hl 0 rfl) ?_
              refine r_getR (ci := 12) X inw_12 h (hF.1 12 rfl).1 rfl rfl 72 (by decide) kw_1710 rfl ((hF.1 12 rfl).2 72) dX12_order_73 ?_
              refine lv_aload_n X.1 X.2.1 dX12_order_76 rfl (lv_at hl 0 rfl) ?_
              refine r_get (ci := 12) X inw_12 h (hF.1 12 rfl).1 rfl rfl 71 (by decide) kw_1709 rfl dX12_order_77 ?_
              refine lv_iload_n X.1 X.2.1 dX12_order_80 rfl (lv_at hl 1 rfl) ?_
              obtain ⟨g_18, g_19, hw⟩ := hw
              refine r_iast (n := 30) X h (hF.1 133 rfl).1 (fun _ => rfl) (by decide) g_18 g_19 rfl dX12_order_81 (fun H locs h => ?_)
              obtain ⟨σ_20, eσ_20⟩ : ∃ z : St, z = st σ_14 133 0 (Int.toNat (σ_14 12 0 71)) x1 := ⟨_, rfl⟩
              rw [← eσ_20] at h
              have hw := hw σ_20 eσ_20
              refine lv_aload_n X.1 X.2.1 dX12_order_82 rfl (lv_at hl 0 rfl) ?_
              refine r_getR (ci := 12) X inw_12 h (hF.1 12 rfl).1 rfl rfl 73 (by decide) kw_1711 rfl ((hF.1 12 rfl).2 73) dX12_order_83 ?_
              refine lv_aload_n X.1 X.2.1 dX12_order_86 rfl (lv_at hl 0 rfl) ?_
              refine r_get (ci := 12) X inw_12 h (hF.1 12 rfl).1 rfl rfl 71 (by decide) kw_1709 rfl dX12_order_87 ?_
              refine lv_iload_n X.1 X.2.1 dX12_order_90 rfl (lv_at hl 2 rfl) ?_
              obtain ⟨g_21, g_22, hw⟩ := hw
              refine r_iast (n := 30) X h (hF.1 134 rfl).1 (fun _ => rfl) (by decide) g_21 g_22 rfl dX12_order_91 (fun H locs h => ?_)
              obtain ⟨σ_23, eσ_23⟩ : ∃ z : St, z = st σ_20 134 0 (Int.toNat (σ_20 12 0 71)) x2 := ⟨_, rfl⟩
              rw [← eσ_23] at h
              have hw := hw σ_23 eσ_23
              refine lv_aload_n X.1 X.2.1 dX12_order_92 rfl (lv_at hl 0 rfl) ?_
              refine r_getR (ci := 12) X inw_12 h (hF.1 12 rfl).1 rfl rfl 74 (by decide) kw_1712 rfl ((hF.1 12 rfl).2 74) dX12_order_93 ?_
              refine lv_aload_n X.1 X.2.1 dX12_order_96 rfl (lv_at hl 0 rfl) ?_
              refine r_get (ci := 12) X inw_12 h (hF.1 12 rfl).1 rfl rfl 71 (by decide) kw_1709 rfl dX12_order_97 ?_
              refine lv_iload_n X.1 X.2.1 dX12_order_100 rfl (lv_at hl 3 rfl) ?_
              obtain ⟨g_24, g_25, hw⟩ := hw
              refine r_iast (n := 30) X h (hF.1 135 rfl).1 (fun _ => rfl) (by decide) g_24 g_25 rfl dX12_order_101 (fun H locs h => ?_)
              obtain ⟨σ_26, eσ_26⟩ : ∃ z : St, z = st σ_23 135 0 (Int.toNat (σ_23 12 0 71)) x3 := ⟨_, rfl⟩
              rw [← eσ_26] at h
              have hw := hw σ_26 eσ_26
              refine lv_aload_n X.1 X.2.1 dX12_order_102 rfl (lv_at hl 0 rfl) ?_
              refine r_getR (ci := 12) X inw_12 h (hF.1 12 rfl).1 rfl rfl 75 (by decide) kw_1713 rfl ((hF.1 12 rfl).2 75) dX12_order_103 ?_
              refine lv_aload_n X.1 X.2.1 dX12_order_106 rfl (lv_at hl 0 rfl) ?_
              refine r_get (ci := 12) X inw_12 h (hF.1 12 rfl).1 rfl rfl 71 (by decide) kw_1709 rfl dX12_order_107 ?_
              refine lv_iload X.1 X.2.1 dX12_order_110 (lv_at hl 4 rfl) ?_
              obtain ⟨g_27, g_28, hw⟩ := hw
              refine r_iast (n := 30) X h (hF.1 136 rfl).1 (fun _ => rfl) (by decide) g_27 g_28 rfl dX12_order_112 (fun H locs h => ?_)
              obtain ⟨σ_29, eσ_29⟩ : ∃ z : St, z = st σ_26 136 0 (Int.toNat (σ_26 12 0 71)) x4 := ⟨_, rfl⟩
              rw [← eσ_29] at h
              have hw := hw σ_29 eσ_29
              refine lv_aload_n X.1 X.2.1 dX12_order_113 rfl (lv_at hl 0 rfl) ?_
              refine r_getR (ci := 12) X inw_12 h (hF.1 12 rfl).1 rfl rfl 76 (by decide) kw_1714 rfl ((hF.1 12 rfl).2 76) dX12_order_114 ?_
              refine lv_aload_n X.1 X.2.1 dX12_order_117 rfl (lv_at hl 0 rfl) ?_
              refine r_get (ci := 12) X inw_12 h (hF.1 12 rfl).1 rfl rfl 71 (by decide) kw_1709 rfl dX12_order_118 ?_
              refine lv_iload X.1 X.2.1 dX12_order_121 (lv_at hl 5 rfl) ?_
              obtain ⟨g_30, g_31, hw⟩ := hw
              refine r_iast (n := 30) X h (hF.1 137 rfl).1 (fun _ => rfl) (by decide) g_30 g_31 rfl dX12_order_123 (fun H locs h => ?_)
              obtain ⟨σ_32, eσ_32⟩ : ∃ z : St, z = st σ_29 137 0 (Int.toNat (σ_29 12 0 71)) x5 := ⟨_, rfl⟩
              rw [← eσ_32] at h
              have hw := hw σ_32 eσ_32
              refine lv_aload_n X.1 X.2.1 dX12_order_124 rfl (lv_at hl 0 rfl) ?_
              refine r_getR (ci := 12) X inw_12 h (hF.1 12 rfl).1 rfl rfl 77 (by decide) kw_1715 rfl ((hF.1 12 rfl).2 77) dX12_order_125 ?_
              refine lv_aload_n X.1 X.2.1 dX12_order_128 rfl (lv_at hl 0 rfl) ?_
              refine r_get (ci := 12) X inw_12 h (hF.1 12 rfl).1 rfl rfl 71 (by decide) kw_1709 rfl dX12_order_129 ?_
              refine j_iconst X dX12_order_132 ?_
              obtain ⟨g_33, g_34, hw⟩ := hw
              refine r_iast (n := 30) X h (hF.1 138 rfl).1 (fun _ => rfl) (by decide) g_33 g_34 rfl dX12_order_133 (fun H locs h => ?_)
              obtain ⟨σ_35, eσ_35⟩ : ∃ z : St, z = st σ_32 138 0 (Int.toNat (σ_32 12 0 71)) (-1) := ⟨_, rfl⟩
              rw [← eσ_35] at h
              have hw := hw σ_35 eσ_35
              refine lv_aload_n X.1 X.2.1 dX12_order_134 rfl (lv_at hl 0 rfl) ?_
              refine lv_dup X.1 X.2.1 dX12_order_135 rfl ?_
              refine r_get (ci := 12) X inw_12 h (hF.1 12 rfl).1 rfl rfl 71 (by decide) kw_1709 rfl dX12_order_136 ?_
              refine j_iconst X dX12_order_139 ?_
              refine j_iadd X dX12_order_140 ?_
              refine r_put (ci := 12) X inw_12 tyX12 tyX12_ok nmX12 h (hF.1 12 rfl).1 rfl rfl 71 (by decide) kw_1709 rfl rfl rfl (Nat.le_of_ble_eq_true rfl) rfl rfl dX12_order_141 (fun H locs h => ?_)
              obtain ⟨σ_36, eσ_36⟩ : ∃ z : St, z = st σ_35 12 0 71 ((σ_35 12 0 71) + 1) := ⟨_, rfl⟩
              rw [← eσ_36] at h
              have hw := hw σ_36 eσ_36
              refine lv_aload_n X.1 X.2.1 dX12_order_144 rfl (lv_at hl 0 rfl) ?_
              refine r_get (ci := 12) X inw_12 h (hF.1 12 rfl).1 rfl rfl 71 (by decide) kw_1709 rfl dX12_order_145 ?_
              refine j_iconst X dX12_order_148 ?_
              refine j_isub X dX12_order_149 ?_
              exact k_ir X rfl h hw dX12_order_150
            · have hw := hwf c_37
              refine j_iconst X dX12_order_70 ?_
              exact k_ir X rfl h hw dX12_order_71
end
section
variable {p : Program} {l : Launch} {e : Env} {s : State} {m : MethodId} {args : Array Value} {below : List Frame} {meth : Method} {c : Code} {D : va_G} {ct : Nat → ClassId} {ad : Nat → Nat → Nat} {L : List (Nat × Nat)} {φ : Nat → Nat → Nat → Bool} {N0 : Nat}
variable {Q : Int → St → Prop}
theorem pd_X12_canBe : yX12_canBe.cls ≠ "java/lang/invoke/MethodHandle" ∧ yX12_canBe.cls ≠ "java/lang/invoke/VarHandle" ∧ (parseMethodDescriptor yX12_canBe.desc).map (fun d => d.parameters.length) = some 3 := by decide +kernel
set_option maxRecDepth 100000 in
set_option maxHeartbeats 4000000 in
theorem c_X12_canBe (l : Launch) (D : va_G) (ct : Nat → ClassId) (ad : Nat → Nat → Nat) (L : List (Nat × Nat)) (φ : Nat → Nat → Nat → Bool) (N0 : Nat) (σ : St) (x1 : Int) (x2 : Int) (x3 : Int) (Q : Int → St → Prop) (hw : wp_X12_canBe σ x1 x2 x3 Q) : Met l yX12_canBe (.code yX12_canBe cX12_canBe 5 (some .boolean) :: gw) ({ frames := 0, cells := 0, slots := 0, locals := 0 } : Room) (Pm D ct ad L φ N0 σ [.ref (ad 12 0), .int (iv x1), .int (iv x2), .int (iv x3)]) (Qi D ct ad L φ N0 Q) 0 0 (AA N0) := by
  refine m_of (by decide) (fun p e s m below meth c X hnm h => ?_)
  have hF := X.2.2.2.2.2.2.2.2.1
  have hl := lv_entry ([.ref (ad 12 0), .int (iv x1), .int (iv x2), .int (iv x3)]) (n := 5) (Nat.le_of_ble_eq_true rfl)
  rw [lg_entry_eq]
  generalize (lg_sl ([.ref (ad 12 0), .int (iv x1), .int (iv x2), .int (iv x3)]) ++ List.replicate (5 - (lg_sl ([.ref (ad 12 0), .int (iv x1), .int (iv x2), .int (iv x3)])).length) Slot.unset).toArray = ls at hl ⊢
  have hl : lv_has ls 5 [(0, .ref (ad 12 0)), (1, .int (iv x1)), (2, .int (iv x2)), (3, .int (iv x3))] := hl
  have h : Hs D ct ad L φ N0 s.heap σ s.heap [] := h
  unfold wp_X12_canBe at hw
  refine lv_aload_n X.1 X.2.1 dX12_canBe_0 rfl (lv_at hl 0 rfl) ?_
  refine r_getR (ci := 12) X inw_12 h (hF.1 12 rfl).1 rfl rfl 24 (by decide) kw_1662 rfl ((hF.1 12 rfl).2 24) dX12_canBe_1 ?_
  refine lv_iload_n X.1 X.2.1 dX12_canBe_4 rfl (lv_at hl 2 rfl) ?_
  obtain ⟨g_1, g_2, hw⟩ := hw
  refine r_iald (n := 300) X h (hF.1 101 rfl).1 rfl (by decide) g_1 g_2 dX12_canBe_5 ?_
  refine j_bind (fun v_3 ev_3 => ?_)
  have hw := hw v_3 ev_3
  refine lv_istore (lv' := [(4, .int (iv v_3)), (0, .ref (ad 12 0)), (1, .int (iv x1)), (2, .int (iv x2)), (3, .int (iv x3))]) X.1 X.2.1 dX12_canBe_6 hl (by decide) rfl (fun ls hl => ?_)
  refine lv_aload_n X.1 X.2.1 dX12_canBe_8 rfl (lv_at hl 1 rfl) ?_
  refine r_getR (ci := 12) X inw_12 h (hF.1 12 rfl).1 rfl rfl 74 (by decide) kw_1712 rfl ((hF.1 12 rfl).2 74) dX12_canBe_9 ?_
  refine lv_iload_n X.1 X.2.1 dX12_canBe_12 rfl (lv_at hl 2 rfl) ?_
  obtain ⟨g_4, g_5, hw⟩ := hw
  refine r_iald (n := 30) X h (hF.1 135 rfl).1 rfl (by decide) g_4 g_5 dX12_canBe_13 ?_
  obtain ⟨g_6, hwt, hwf⟩ := hw
  refine j_if_le (tgt := 91) X g_6 dX12_canBe_14 (by decide) (fun c_36 => ?_) (fun c_36 => ?_)
  · have hw := hwt c_36
    refine j_iconst X dX12_canBe_91 ?_
    exact k_ir X rfl h hw dX12_canBe_92
  · have hw := hwf c_36
    refine lv_aload_n X.1 X.2.1 dX12_canBe_17 rfl (lv_at hl 1 rfl) ?_
    refine r_getR (ci := 12) X inw_12 h (hF.1 12 rfl).1 rfl rfl 76 (by decide) kw_1714 rfl ((hF.1 12 rfl).2 76) dX12_canBe_18 ?_
    refine lv_iload_n X.1 X.2.1 dX12_canBe_21 rfl (lv_at hl 2 rfl) ?_
    obtain ⟨g_7, g_8, hw⟩ := hw
    refine r_iald (n := 30) X h (hF.1 137 rfl).1 rfl (by decide) g_7 g_8 dX12_canBe_22 ?_
    refine lv_aload_n X.1 X.2.1 dX12_canBe_23 rfl (lv_at hl 1 rfl) ?_
    refine r_get (ci := 12) X inw_12 h (hF.1 12 rfl).1 rfl rfl 1 (by decide) kw_1639 rfl dX12_canBe_24 ?_
    obtain ⟨g_9, g_10, hwt, hwf⟩ := hw
    refine j_cmp_lt (tgt := 91) X g_9 g_10 dX12_canBe_27 (by decide) (fun c_35 => ?_) (fun c_35 => ?_)
    · have hw := hwt c_35
      refine j_iconst X dX12_canBe_91 ?_
      exact k_ir X rfl h hw dX12_canBe_92
    · have hw := hwf c_35
      refine lv_aload_n X.1 X.2.1 dX12_canBe_30 rfl (lv_at hl 1 rfl) ?_
      refine r_getR (ci := 12) X inw_12 h (hF.1 12 rfl).1 rfl rfl 20 (by decide) kw_1658 rfl ((hF.1 12 rfl).2 20) dX12_canBe_31 ?_
      refine lv_iload_n X.1 X.2.1 dX12_canBe_34 rfl (lv_at hl 3 rfl) ?_
      obtain ⟨g_11, g_12, hw⟩ := hw
      refine r_iald (n := 300) X h (hF.1 97 rfl).1 rfl (by decide) g_11 g_12 dX12_canBe_35 ?_
      refine lv_aload_n X.1 X.2.1 dX12_canBe_36 rfl (lv_at hl 1 rfl) ?_
      refine r_getR (ci := 12) X inw_12 h (hF.1 12 rfl).1 rfl rfl 73 (by decide) kw_1711 rfl ((hF.1 12 rfl).2 73) dX12_canBe_37 ?_
      refine lv_iload_n X.1 X.2.1 dX12_canBe_40 rfl (lv_at hl 2 rfl) ?_
      obtain ⟨g_13, g_14, hw⟩ := hw
      refine r_iald (n := 30) X h (hF.1 134 rfl).1 rfl (by decide) g_13 g_14 dX12_canBe_41 ?_
      obtain ⟨g_15, g_16, hwt, hwf⟩ := hw
      refine j_cmp_lt (tgt := 91) X g_15 g_16 dX12_canBe_42 (by decide) (fun c_34 => ?_) (fun c_34 => ?_)
      · have hw := hwt c_34
        refine j_iconst X dX12_canBe_91 ?_
        exact k_ir X rfl h hw dX12_canBe_92
      · have hw := hwf c_34
        refine lv_iload_n X.1 X.2.1 dX12_canBe_45 rfl (lv_at hl 4 rfl) ?_
        refine lv_aload_n X.1 X.2.1 dX12_canBe_46 rfl (lv_at hl 1 rfl) ?_
        refine r_getR (ci := 12) X inw_12 h (hF.1 12 rfl).1 rfl rfl 72 (by decide) kw_1710 rfl ((hF.1 12 rfl).2 72) dX12_canBe_47 ?_
        refine lv_iload_n X.1 X.2.1 dX12_canBe_50 rfl (lv_at hl 2 rfl) ?_
        obtain ⟨g_17, g_18, hw⟩ := hw
        refine r_iald (n := 30) X h (hF.1 133 rfl).1 rfl (by decide) g_17 g_18 dX12_canBe_51 ?_
        refine j_iadd X dX12_canBe_52 ?_
        refine lv_aload_n X.1 X.2.1 dX12_canBe_53 rfl (lv_at hl 1 rfl) ?_
        refine r_getR (ci := 12) X inw_12 h (hF.1 12 rfl).1 rfl rfl 21 (by decide) kw_1659 rfl ((hF.1 12 rfl).2 21) dX12_canBe_54 ?_
        refine lv_iload_n X.1 X.2.1 dX12_canBe_57 rfl (lv_at hl 3 rfl) ?_
        obtain ⟨g_19, g_20, hw⟩ := hw
        refine r_iald (n := 300) X h (hF.1 98 rfl).1 rfl (by decide) g_19 g_20 dX12_canBe_58 ?_
        obtain ⟨g_21, g_22, hwt, hwf⟩ := hw
        refine j_cmp_gt (tgt := 91) X g_21 g_22 dX12_canBe_59 (by decide) (fun c_33 => ?_) (fun c_33 => ?_)
        · have hw := hwt c_33
          refine j_iconst X dX12_canBe_91 ?_
          exact k_ir X rfl h hw dX12_canBe_92
        · have hw := hwf c_33
          refine lv_iload X.1 X.2.1 dX12_canBe_62 (lv_at hl 0 rfl) ?_
          refine j_iconst X dX12_canBe_64 ?_
          obtain ⟨g_23, hwt, hwf⟩ := hw
          refine j_cmp_eq (tgt := 87) X g_23 ⟨by decide, by decide⟩ dX12_canBe_65 (by decide) (fun c_32 => ?_) (fun c_32 => ?_)
          · have hw := hwt c_32
            refine j_iconst X dX12_canBe_87 ?_
            refine lv_goto (tgt := 92) X.1 X.2.1 dX12_canBe_88 (by decide) ?_
            exact k_ir X rfl h hw dX12_canBe_92
          · have hw := hwf c_32
            refine lv_iload X.1 X.2.1 dX12_canBe_68 (lv_at hl 0 rfl) ?_
            refine lv_iload_n X.1 X.2.1 dX12_canBe_70 rfl (lv_at hl 4 rfl) ?_
            obtain ⟨g_24, g_25, hwt, hwf⟩ := hw
            refine j_cmp_lt (tgt := 87) X g_24 g_25 dX12_canBe_71 (by decide) (fun c_31 => ?_) (fun c_31 => ?_)
            · have hw := hwt c_31
              refine j_iconst X dX12_canBe_87 ?_
              refine lv_goto (tgt := 92) X.1 X.2.1 dX12_canBe_88 (by decide) ?_
              exact k_ir X rfl h hw dX12_canBe_92
            · have hw := hwf c_31
              refine lv_iload X.1 X.2.1 dX12_canBe_74 (lv_at hl 0 rfl) ?_
              refine lv_iload_n X.1 X.2.1 dX12_canBe_76 rfl (lv_at hl 4 rfl) ?_
              refine lv_aload_n X.1 X.2.1 dX12_canBe_77 rfl (lv_at hl 1 rfl) ?_
              refine r_getR (ci := 12) X inw_12 h (hF.1 12 rfl).1 rfl rfl 72 (by decide) kw_1710 rfl ((hF.1 12 rfl).2 72) dX12_canBe_78 ?_
              refine lv_iload_n X.1 X.2.1 dX12_canBe_81 rfl (lv_at hl 2 rfl) ?_
              obtain ⟨g_26, g_27, hw⟩ := hw
              refine r_iald (n := 30) X h (hF.1 133 rfl).1 rfl (by decide) g_26 g_27 dX12_canBe_82 ?_
              refine j_iadd X dX12_canBe_83 ?_
              obtain ⟨g_28, g_29, hwt, hwf⟩ := hw
              refine j_cmp_lt (tgt := 91) X g_28 g_29 dX12_canBe_84 (by decide) (fun c_30 => ?_) (fun c_30 => ?_)
              · have hw := hwt c_30
                refine j_iconst X dX12_canBe_91 ?_
                exact k_ir X rfl h hw dX12_canBe_92
              · have hw := hwf c_30
                refine j_iconst X dX12_canBe_87 ?_
                refine lv_goto (tgt := 92) X.1 X.2.1 dX12_canBe_88 (by decide) ?_
                exact k_ir X rfl h hw dX12_canBe_92
end
section
variable {p : Program} {l : Launch} {e : Env} {s : State} {m : MethodId} {args : Array Value} {below : List Frame} {meth : Method} {c : Code} {D : va_G} {ct : Nat → ClassId} {ad : Nat → Nat → Nat} {L : List (Nat × Nat)} {φ : Nat → Nat → Nat → Bool} {N0 : Nat}
variable {Q : Int → St → Prop}
theorem pd_X12_afterBoard : yX12_afterBoard.cls ≠ "java/lang/invoke/MethodHandle" ∧ yX12_afterBoard.cls ≠ "java/lang/invoke/VarHandle" ∧ (parseMethodDescriptor yX12_afterBoard.desc).map (fun d => d.parameters.length) = some 3 := by decide +kernel
set_option maxRecDepth 100000 in
set_option maxHeartbeats 4000000 in
theorem c_X12_afterBoard (l : Launch) (D : va_G) (ct : Nat → ClassId) (ad : Nat → Nat → Nat) (L : List (Nat × Nat)) (φ : Nat → Nat → Nat → Bool) (N0 : Nat) (σ : St) (x1 : Int) (x2 : Int) (x3 : Int) (Q : Int → St → Prop) (hw : wp_X12_afterBoard σ x1 x2 x3 Q) : Met l yX12_afterBoard (.code yX12_afterBoard cX12_afterBoard 4 (some .int) :: gw) ({ frames := 0, cells := 0, slots := 0, locals := 0 } : Room) (Pm D ct ad L φ N0 σ [.ref (ad 12 0), .int (iv x1), .int (iv x2), .int (iv x3)]) (Qi D ct ad L φ N0 Q) 0 0 (AA N0) := by
  refine m_of (by decide) (fun p e s m below meth c X hnm h => ?_)
  have hF := X.2.2.2.2.2.2.2.2.1
  have hl := lv_entry ([.ref (ad 12 0), .int (iv x1), .int (iv x2), .int (iv x3)]) (n := 4) (Nat.le_of_ble_eq_true rfl)
  rw [lg_entry_eq]
  generalize (lg_sl ([.ref (ad 12 0), .int (iv x1), .int (iv x2), .int (iv x3)]) ++ List.replicate (4 - (lg_sl ([.ref (ad 12 0), .int (iv x1), .int (iv x2), .int (iv x3)])).length) Slot.unset).toArray = ls at hl ⊢
  have hl : lv_has ls 4 [(0, .ref (ad 12 0)), (1, .int (iv x1)), (2, .int (iv x2)), (3, .int (iv x3))] := hl
  have h : Hs D ct ad L φ N0 s.heap σ s.heap [] := h
  unfold wp_X12_afterBoard at hw
  refine lv_iload_n X.1 X.2.1 dX12_afterBoard_0 rfl (lv_at hl 2 rfl) ?_
  refine lv_aload_n X.1 X.2.1 dX12_afterBoard_1 rfl (lv_at hl 0 rfl) ?_
  refine r_getR (ci := 12) X inw_12 h (hF.1 12 rfl).1 rfl rfl 72 (by decide) kw_1710 rfl ((hF.1 12 rfl).2 72) dX12_afterBoard_2 ?_
  refine lv_iload_n X.1 X.2.1 dX12_afterBoard_5 rfl (lv_at hl 1 rfl) ?_
  obtain ⟨g_1, g_2, hw⟩ := hw
  refine r_iald (n := 30) X h (hF.1 133 rfl).1 rfl (by decide) g_1 g_2 dX12_afterBoard_6 ?_
  refine j_iadd X dX12_afterBoard_7 ?_
  refine j_iconst X dX12_afterBoard_8 ?_
  refine j_iadd X dX12_afterBoard_9 ?_
  refine lv_iload_n X.1 X.2.1 dX12_afterBoard_10 rfl (lv_at hl 3 rfl) ?_
  obtain ⟨g_3, g_4, hwt, hwf⟩ := hw
  refine j_cmp_ge (tgt := 27) X g_3 g_4 dX12_afterBoard_11 (by decide) (fun c_7 => ?_) (fun c_7 => ?_)
  · have hw := hwt c_7
    refine lv_iload_n X.1 X.2.1 dX12_afterBoard_27 rfl (lv_at hl 3 rfl) ?_
    exact k_ir X rfl h hw dX12_afterBoard_28
  · have hw := hwf c_7
    refine lv_iload_n X.1 X.2.1 dX12_afterBoard_14 rfl (lv_at hl 2 rfl) ?_
    refine lv_aload_n X.1 X.2.1 dX12_afterBoard_15 rfl (lv_at hl 0 rfl) ?_
    refine r_getR (ci := 12) X inw_12 h (hF.1 12 rfl).1 rfl rfl 72 (by decide) kw_1710 rfl ((hF.1 12 rfl).2 72) dX12_afterBoard_16 ?_
    refine lv_iload_n X.1 X.2.1 dX12_afterBoard_19 rfl (lv_at hl 1 rfl) ?_
    obtain ⟨g_5, g_6, hw⟩ := hw
    refine r_iald (n := 30) X h (hF.1 133 rfl).1 rfl (by decide) g_5 g_6 dX12_afterBoard_20 ?_
    refine j_iadd X dX12_afterBoard_21 ?_
    refine j_iconst X dX12_afterBoard_22 ?_
    refine j_iadd X dX12_afterBoard_23 ?_
    refine lv_goto (tgt := 28) X.1 X.2.1 dX12_afterBoard_24 (by decide) ?_
    exact k_ir X rfl h hw dX12_afterBoard_28
end
section
variable {p : Program} {l : Launch} {e : Env} {s : State} {m : MethodId} {args : Array Value} {below : List Frame} {meth : Method} {c : Code} {D : va_G} {ct : Nat → ClassId} {ad : Nat → Nat → Nat} {L : List (Nat × Nat)} {φ : Nat → Nat → Nat → Bool} {N0 : Nat}
variable {Q : Int → St → Prop}
set_option maxRecDepth 100000 in
set_option maxHeartbeats 4000000 in
theorem lb_X12_lays__243 (X : Cx p s m meth c args cX12_lays_ 5 (some .int) RX12 D ct L φ N0) (σ : St) (H : Heap) (locs : List Loc) (ls : Array Slot) (hw : wp_X12_lays__243 Q σ) (h : Hs D ct ad L φ N0 s.heap σ H locs) (hl : lv_has ls 5 [(0, .ref (ad 12 0))]) : W p l e ({ frames := 1, cells := 0, slots := 0, locals := 24 } : Room) s m args below meth c H locs 0 0 (MQ below (Qi D ct ad L φ N0 Q) args s 0 0 (AA N0)) (F0 m 243 ls []) := by
  have hF := X.2.2.2.2.2.2.2.2.1
  unfold wp_X12_lays__243 at hw
  refine lv_aload_n X.1 X.2.1 dX12_lays__243 rfl (lv_at hl 0 rfl) ?_
  refine r_getR (ci := 12) X inw_12 h (hF.1 12 rfl).1 rfl rfl 79 (by decide) kw_1717 rfl ((hF.1 12 rfl).2 79) dX12_lays__244 ?_
  refine j_iconst X dX12_lays__247 ?_
  refine r_iald (n := 40) X h (hF.1 139 rfl).1 rfl (by decide) (by decide) (by decide) dX12_lays__248 ?_
  exact k_ir X rfl h hw dX12_lays__249
set_option maxRecDepth 100000 in
set_option maxHeartbeats 4000000 in
theorem lb_X12_lays__239 (X : Cx p s m meth c args cX12_lays_ 5 (some .int) RX12 D ct L φ N0) {K130 : St → Int → Int → Int → Prop} {K243 : St → Prop} (hK130 : ∀ (σ : St) (x1 : Int) (x2 : Int) (x3 : Int) (H : Heap) (locs : List Loc) (ls : Array Slot), K130 σ x1 x2 x3 → Hs D ct ad L φ N0 s.heap σ H locs → lv_has ls 5 [(0, .ref (ad 12 0)), (1, .int (iv x1)), (2, .int (iv x2)), (3, .int (iv x3))] → W p l e ({ frames := 1, cells := 0, slots := 0, locals := 24 } : Room) s m args below meth c H locs 0 0 (MQ below (Qi D ct ad L φ N0 Q) args s 0 0 (AA N0)) (F0 m 130 ls [])) (hK243 : ∀ (σ : St) (H : Heap) (locs : List Loc) (ls : Array Slot), K243 σ → Hs D ct ad L φ N0 s.heap σ H locs → lv_has ls 5 [(0, .ref (ad 12 0))] → W p l e ({ frames := 1, cells := 0, slots := 0, locals := 24 } : Room) s m args below meth c H locs 0 0 (MQ below (Qi D ct ad L φ N0 Q) args s 0 0 (AA N0)) (F0 m 243 ls [])) (σ : St) (x1 : Int) (x2 : Int) (y0 : Int) (H : Heap) (locs : List Loc) (ls : Array Slot) (hw : wp_X12_lays__239 K130 K243 Q σ x1 x2 y0) (h : Hs D ct ad L φ N0 s.heap σ H locs) (hl : lv_has ls 5 [(0, .ref (ad 12 0)), (1, .int (iv x1)), (2, .int (iv x2))]) : W p l e ({ frames := 1, cells := 0, slots := 0, locals := 24 } : Room) s m args below meth c H locs 0 0 (MQ below (Qi D ct ad L φ N0 Q) args s 0 0 (AA N0)) (F0 m 239 ls [.int (iv y0)]) := by
  have hF := X.2.2.2.2.2.2.2.2.1
  unfold wp_X12_lays__239 at hw
  refine lv_istore_n (lv' := [(3, .int (iv y0)), (0, .ref (ad 12 0)), (1, .int (iv x1)), (2, .int (iv x2))]) X.1 X.2.1 dX12_lays__239 rfl hl (by decide) rfl (fun ls hl => ?_)
  refine lv_goto (tgt := 130) X.1 X.2.1 dX12_lays__240 (by decide) ?_
  exact hK130 σ x1 x2 y0 _ _ _ hw h (lv_sub hl [1, 2, 3, 0] rfl)
set_option maxRecDepth 100000 in
set_option maxHeartbeats 4000000 in
theorem lb_X12_lays__215 (X : Cx p s m meth c args cX12_lays_ 5 (some .int) RX12 D ct L φ N0) {K130 : St → Int → Int → Int → Prop} {K243 : St → Prop} (hK130 : ∀ (σ : St) (x1 : Int) (x2 : Int) (x3 : Int) (H : Heap) (locs : List Loc) (ls : Array Slot), K130 σ x1 x2 x3 → Hs D ct ad L φ N0 s.heap σ H locs → lv_has ls 5 [(0, .ref (ad 12 0)), (1, .int (iv x1)), (2, .int (iv x2)), (3, .int (iv x3))] → W p l e ({ frames := 1, cells := 0, slots := 0, locals := 24 } : Room) s m args below meth c H locs 0 0 (MQ below (Qi D ct ad L φ N0 Q) args s 0 0 (AA N0)) (F0 m 130 ls [])) (hK243 : ∀ (σ : St) (H : Heap) (locs : List Loc) (ls : Array Slot), K243 σ → Hs D ct ad L φ N0 s.heap σ H locs → lv_has ls 5 [(0, .ref (ad 12 0))] → W p l e ({ frames := 1, cells := 0, slots := 0, locals := 24 } : Room) s m args below meth c H locs 0 0 (MQ below (Qi D ct ad L φ N0 Q) args s 0 0 (AA N0)) (F0 m 243 ls [])) (σ : St) (x1 : Int) (x2 : Int) (x3 : Int) (x4 : Int) (y0 : Int) (y1 : Int) (H : Heap) (locs : List Loc) (ls : Array Slot) (hw : wp_X12_lays__215 K130 K243 Q σ x1 x2 x3 x4 y0 y1) (h : Hs D ct ad L φ N0 s.heap σ H locs) (hl : lv_has ls 5 [(0, .ref (ad 12 0)), (1, .int (iv x1)), (2, .int (iv x2)), (3, .int (iv x3)), (4, .int (iv x4))]) : W p l e ({ frames := 1, cells := 0, slots := 0, locals := 24 } : Room) s m args below meth c H locs 0 0 (MQ below (Qi D ct ad L φ N0 Q) args s 0 0 (AA N0)) (F0 m 215 ls [.int (iv y0), .int (iv y1), .ref (ad 140 0)]) := by
  have hF := X.2.2.2.2.2.2.2.2.1
  unfold wp_X12_lays__215 at hw
  obtain ⟨g_1, g_2, hw⟩ := hw
  refine r_iast (n := 40) X h (hF.1 140 rfl).1 (fun _ => rfl) (by decide) g_1 g_2 rfl dX12_lays__215 (fun H locs h => ?_)
  obtain ⟨σ_3, eσ_3⟩ : ∃ z : St, z = st σ 140 0 (Int.toNat y1) y0 := ⟨_, rfl⟩
  rw [← eσ_3] at h
  have hw := hw σ_3 eσ_3
  refine lv_iload X.1 X.2.1 dX12_lays__216 (lv_at hl 4 rfl) ?_
  refine lv_aload_n X.1 X.2.1 dX12_lays__218 rfl (lv_at hl 0 rfl) ?_
  refine r_get (ci := 12) X inw_12 h (hF.1 12 rfl).1 rfl rfl 71 (by decide) kw_1709 rfl dX12_lays__219 ?_
  obtain ⟨g_4, g_5, hwt, hwf⟩ := hw
  refine j_cmp_ne (tgt := 231) X g_4 g_5 dX12_lays__222 (by decide) (fun c_8 => ?_) (fun c_8 => ?_)
  · have hw := hwt c_8
    refine lv_aload_n X.1 X.2.1 dX12_lays__231 rfl (lv_at hl 0 rfl) ?_
    refine lv_iload X.1 X.2.1 dX12_lays__232 (lv_at hl 4 rfl) ?_
    refine lv_iload_n X.1 X.2.1 dX12_lays__234 rfl (lv_at hl 3 rfl) ?_
    refine lv_iload_n X.1 X.2.1 dX12_lays__235 rfl (lv_at hl 2 rfl) ?_
    refine k_i h (r_V (C := RX12) (ci := 12) (As := [.int (iv x4), .int (iv x3), .int (iv x2)]) (rest := []) X h (c_X12_afterBoard l D ct ad L φ N0 σ_3 x4 x3 x2 _ hw) rfl rfl ⟨Nat.le_of_ble_eq_true rfl, Nat.le_of_ble_eq_true rfl⟩ kw_2316 kw_2318 kw_104 kw_129 kw_2319 ⟨rfl, pd_X12_afterBoard⟩ (hF.1 12 rfl).1 rfl rfl rfl hl.1 rfl (Nat.le_of_ble_eq_true rfl) ⟨Nat.le_of_ble_eq_true rfl, Nat.le_of_ble_eq_true rfl⟩ dX12_lays__236) (fun r_7 σ_6 H locs hw h => ?_)
    exact lb_X12_lays__239 X hK130 hK243 σ_6 x1 x2 r_7 _ _ _ hw h (lv_sub hl [0, 1, 2] rfl)
  · have hw := hwf c_8
    refine lv_iload_n X.1 X.2.1 dX12_lays__225 rfl (lv_at hl 3 rfl) ?_
    refine j_iconst X dX12_lays__226 ?_
    refine j_iadd X dX12_lays__227 ?_
    refine lv_goto (tgt := 239) X.1 X.2.1 dX12_lays__228 (by decide) ?_
    exact lb_X12_lays__239 X hK130 hK243 σ_3 x1 x2 (x3 + 1) _ _ _ hw h (lv_sub hl [0, 1, 2] rfl)
set_option maxRecDepth 100000 in
set_option maxHeartbeats 4000000 in
theorem lb_X12_lays__194 (X : Cx p s m meth c args cX12_lays_ 5 (some .int) RX12 D ct L φ N0) {K130 : St → Int → Int → Int → Prop} {K243 : St → Prop} (hK130 : ∀ (σ : St) (x1 : Int) (x2 : Int) (x3 : Int) (H : Heap) (locs : List Loc) (ls : Array Slot), K130 σ x1 x2 x3 → Hs D ct ad L φ N0 s.heap σ H locs → lv_has ls 5 [(0, .ref (ad 12 0)), (1, .int (iv x1)), (2, .int (iv x2)), (3, .int (iv x3))] → W p l e ({ frames := 1, cells := 0, slots := 0, locals := 24 } : Room) s m args below meth c H locs 0 0 (MQ below (Qi D ct ad L φ N0 Q) args s 0 0 (AA N0)) (F0 m 130 ls [])) (hK243 : ∀ (σ : St) (H : Heap) (locs : List Loc) (ls : Array Slot), K243 σ → Hs D ct ad L φ N0 s.heap σ H locs → lv_has ls 5 [(0, .ref (ad 12 0))] → W p l e ({ frames := 1, cells := 0, slots := 0, locals := 24 } : Room) s m args below meth c H locs 0 0 (MQ below (Qi D ct ad L φ N0 Q) args s 0 0 (AA N0)) (F0 m 243 ls [])) (σ : St) (x1 : Int) (x2 : Int) (x3 : Int) (x4 : Int) (H : Heap) (locs : List Loc) (ls : Array Slot) (hw : wp_X12_lays__194 K130 K243 Q σ x1 x2 x3 x4) (h : Hs D ct ad L φ N0 s.heap σ H locs) (hl : lv_has ls 5 [(0, .ref (ad 12 0)), (1, .int (iv x1)), (2, .int (iv x2)), (3, .int (iv x3)), (4, .int (iv x4))]) : W p l e ({ frames := 1, cells := 0, slots := 0, locals := 24 } : Room) s m args below meth c H locs 0 0 (MQ below (Qi D ct ad L φ N0 Q) args s 0 0 (AA N0)) (F0 m 194 ls []) := by
  have hF := X.2.2.2.2.2.2.2.2.1
  unfold wp_X12_lays__194 at hw
  refine lv_aload_n X.1 X.2.1 dX12_lays__194 rfl (lv_at hl 0 rfl) ?_
  refine r_getR (ci := 12) X inw_12 h (hF.1 12 rfl).1 rfl rfl 80 (by decide) kw_1718 rfl ((hF.1 12 rfl).2 80) dX12_lays__195 ?_
  refine lv_iload_n X.1 X.2.1 dX12_lays__198 rfl (lv_at hl 3 rfl) ?_
  refine lv_iload X.1 X.2.1 dX12_lays__199 (lv_at hl 4 rfl) ?_
  refine lv_aload_n X.1 X.2.1 dX12_lays__201 rfl (lv_at hl 0 rfl) ?_
  refine r_get (ci := 12) X inw_12 h (hF.1 12 rfl).1 rfl rfl 71 (by decide) kw_1709 rfl dX12_lays__202 ?_
  obtain ⟨g_9, g_10, hwt, hwf⟩ := hw
  refine j_cmp_ne (tgt := 213) X g_9 g_10 dX12_lays__205 (by decide) (fun c_11 => ?_) (fun c_11 => ?_)
  · have hw := hwt c_11
    refine lv_iload X.1 X.2.1 dX12_lays__213 (lv_at hl 4 rfl) ?_
    exact lb_X12_lays__215 X hK130 hK243 σ x1 x2 x3 x4 x4 x3 _ _ _ hw h (lv_sub hl [0, 1, 2, 3, 4] rfl)
  · have hw := hwf c_11
    refine j_bipush X dX12_lays__208 (by decide) ?_
    refine lv_goto (tgt := 215) X.1 X.2.1 dX12_lays__210 (by decide) ?_
    exact lb_X12_lays__215 X hK130 hK243 σ x1 x2 x3 x4 (-2) x3 _ _ _ hw h (lv_sub hl [0, 1, 2, 3, 4] rfl)
set_option maxRecDepth 100000 in
set_option maxHeartbeats 4000000 in
theorem lb_X12_lays__188 (X : Cx p s m meth c args cX12_lays_ 5 (some .int) RX12 D ct L φ N0) {K138 : St → Int → Int → Int → Int → Prop} {K194 : St → Int → Int → Int → Int → Prop} (hK138 : ∀ (σ : St) (x1 : Int) (x2 : Int) (x3 : Int) (x4 : Int) (H : Heap) (locs : List Loc) (ls : Array Slot), K138 σ x1 x2 x3 x4 → Hs D ct ad L φ N0 s.heap σ H locs → lv_has ls 5 [(0, .ref (ad 12 0)), (1, .int (iv x1)), (2, .int (iv x2)), (3, .int (iv x3)), (4, .int (iv x4))] → W p l e ({ frames := 1, cells := 0, slots := 0, locals := 24 } : Room) s m args below meth c H locs 0 0 (MQ below (Qi D ct ad L φ N0 Q) args s 0 0 (AA N0)) (F0 m 138 ls [])) (hK194 : ∀ (σ : St) (x1 : Int) (x2 : Int) (x3 : Int) (x4 : Int) (H : Heap) (locs : List Loc) (ls : Array Slot), K194 σ x1 x2 x3 x4 → Hs D ct ad L φ N0 s.heap σ H locs → lv_has ls 5 [(0, .ref (ad 12 0)), (1, .int (iv x1)), (2, .int (iv x2)), (3, .int (iv x3)), (4, .int (iv x4))] → W p l e ({ frames := 1, cells := 0, slots := 0, locals := 24 } : Room) s m args below meth c H locs 0 0 (MQ below (Qi D ct ad L φ N0 Q) args s 0 0 (AA N0)) (F0 m 194 ls [])) (σ : St) (x1 : Int) (x2 : Int) (x3 : Int) (x4 : Int) (H : Heap) (locs : List Loc) (ls : Array Slot) (hw : wp_X12_lays__188 K138 K194 Q σ x1 x2 x3 x4) (h : Hs D ct ad L φ N0 s.heap σ H locs) (hl : lv_has ls 5 [(0, .ref (ad 12 0)), (1, .int (iv x1)), (2, .int (iv x2)), (3, .int (iv x3)), (4, .int (iv x4))]) : W p l e ({ frames := 1, cells := 0, slots := 0, locals := 24 } : Room) s m args below meth c H locs 0 0 (MQ below (Qi D ct ad L φ N0 Q) args s 0 0 (AA N0)) (F0 m 188 ls []) := by
  have hF := X.2.2.2.2.2.2.2.2.1
  unfold wp_X12_lays__188 at hw
  refine j_iinc (kk9 := 4) (lv' := [(4, .int (iv (x4 + 1))), (0, .ref (ad 12 0)), (1, .int (iv x1)), (2, .int (iv x2)), (3, .int (iv x3))]) X dX12_lays__188 hl rfl (by decide) rfl (fun ls hl => ?_)
  refine lv_goto (tgt := 138) X.1 X.2.1 dX12_lays__191 (by decide) ?_
  exact hK138 σ x1 x2 x3 (x4 + 1) _ _ _ hw h (lv_sub hl [1, 2, 3, 4, 0] rfl)
set_option maxRecDepth 100000 in
set_option maxHeartbeats 4000000 in
theorem lb_X12_lays__138 (X : Cx p s m meth c args cX12_lays_ 5 (some .int) RX12 D ct L φ N0) {K194 : St → Int → Int → Int → Int → Prop} (hK194 : ∀ (σ : St) (x1 : Int) (x2 : Int) (x3 : Int) (x4 : Int) (H : Heap) (locs : List Loc) (ls : Array Slot), K194 σ x1 x2 x3 x4 → Hs D ct ad L φ N0 s.heap σ H locs → lv_has ls 5 [(0, .ref (ad 12 0)), (1, .int (iv x1)), (2, .int (iv x2)), (3, .int (iv x3)), (4, .int (iv x4))] → W p l e ({ frames := 1, cells := 0, slots := 0, locals := 24 } : Room) s m args below meth c H locs 0 0 (MQ below (Qi D ct ad L φ N0 Q) args s 0 0 (AA N0)) (F0 m 194 ls [])) : ∀ (n : Nat) (σ : St) (x1 : Int) (x2 : Int) (x3 : Int) (x4 : Int) (H : Heap) (locs : List Loc) (ls : Array Slot), wp_X12_lays__138 K194 Q n σ x1 x2 x3 x4 → Hs D ct ad L φ N0 s.heap σ H locs → lv_has ls 5 [(0, .ref (ad 12 0)), (1, .int (iv x1)), (2, .int (iv x2)), (3, .int (iv x3)), (4, .int (iv x4))] → W p l e ({ frames := 1, cells := 0, slots := 0, locals := 24 } : Room) s m args below meth c H locs 0 0 (MQ below (Qi D ct ad L φ N0 Q) args s 0 0 (AA N0)) (F0 m 138 ls []) := by
  have hF := X.2.2.2.2.2.2.2.2.1
  intro n
  induction n with
  | zero => intro σ x1 x2 x3 x4 H locs ls hw; exact hw.elim
  | succ n ih =>
    intro σ x1 x2 x3 x4 H locs ls hw h hl
    unfold wp_X12_lays__138 at hw
    refine lv_iload X.1 X.2.1 dX12_lays__138 (lv_at hl 4 rfl) ?_
    refine lv_aload_n X.1 X.2.1 dX12_lays__140 rfl (lv_at hl 0 rfl) ?_
    refine r_get (ci := 12) X inw_12 h (hF.1 12 rfl).1 rfl rfl 71 (by decide) kw_1709 rfl dX12_lays__141 ?_
    obtain ⟨g_12, g_13, hwt, hwf⟩ := hw
    refine j_cmp_ge (tgt := 194) X g_12 g_13 dX12_lays__144 (by decide) (fun c_29 => ?_) (fun c_29 => ?_)
    · have hw := hwt c_29
      exact hK194 σ x1 x2 x3 x4 _ _ _ hw h (lv_sub hl [0, 1, 2, 3, 4] rfl)
    · have hw := hwf c_29
      refine lv_aload_n X.1 X.2.1 dX12_lays__147 rfl (lv_at hl 0 rfl) ?_
      refine lv_iload X.1 X.2.1 dX12_lays__148 (lv_at hl 4 rfl) ?_
      refine lv_iload_n X.1 X.2.1 dX12_lays__150 rfl (lv_at hl 1 rfl) ?_
      refine lv_iload_n X.1 X.2.1 dX12_lays__151 rfl (lv_at hl 3 rfl) ?_
      refine k_i h (r_V (C := RX12) (ci := 12) (As := [.int (iv x4), .int (iv x1), .int (iv x3)]) (rest := []) X h (c_X12_canBe l D ct ad L φ N0 σ x4 x1 x3 _ hw) rfl rfl ⟨Nat.le_of_ble_eq_true rfl, Nat.le_of_ble_eq_true rfl⟩ kw_2312 kw_2314 kw_103 kw_129 kw_2315 ⟨rfl, pd_X12_canBe⟩ (hF.1 12 rfl).1 rfl rfl rfl hl.1 rfl (Nat.le_of_ble_eq_true rfl) ⟨Nat.le_of_ble_eq_true rfl, Nat.le_of_ble_eq_true rfl⟩ dX12_lays__152) (fun r_15 σ_14 H locs hw h => ?_)
      obtain ⟨g_16, hwt, hwf⟩ := hw
      refine j_if_eq (tgt := 188) X g_16 dX12_lays__155 (by decide) (fun c_28 => ?_) (fun c_28 => ?_)
      · have hw := hwt c_28
        exact lb_X12_lays__188 X ih hK194 σ_14 x1 x2 x3 x4 _ _ _ hw h (lv_sub hl [0, 1, 2, 3, 4] rfl)
      · have hw := hwf c_28
        refine lv_aload_n X.1 X.2.1 dX12_lays__158 rfl (lv_at hl 0 rfl) ?_
        refine r_getR (ci := 12) X inw_12 h (hF.1 12 rfl).1 rfl rfl 75 (by decide) kw_1713 rfl ((hF.1 12 rfl).2 75) dX12_lays__159 ?_
        refine lv_iload X.1 X.2.1 dX12_lays__162 (lv_at hl 4 rfl) ?_
        obtain ⟨g_17, g_18, hw⟩ := hw
        refine r_iald (n := 30) X h (hF.1 136 rfl).1 rfl (by decide) g_17 g_18 dX12_lays__164 ?_
        refine lv_aload_n X.1 X.2.1 dX12_lays__165 rfl (lv_at hl 0 rfl) ?_
        refine r_getR (ci := 12) X inw_12 h (hF.1 12 rfl).1 rfl rfl 79 (by decide) kw_1717 rfl ((hF.1 12 rfl).2 79) dX12_lays__166 ?_
        refine lv_aload_n X.1 X.2.1 dX12_lays__169 rfl (lv_at hl 0 rfl) ?_
        refine lv_iload X.1 X.2.1 dX12_lays__170 (lv_at hl 4 rfl) ?_
        refine lv_iload_n X.1 X.2.1 dX12_lays__172 rfl (lv_at hl 3 rfl) ?_
        refine lv_iload_n X.1 X.2.1 dX12_lays__173 rfl (lv_at hl 2 rfl) ?_
        refine k_i h (r_V (C := RX12) (ci := 12) (As := [.int (iv x4), .int (iv x3), .int (iv x2)]) (rest := [.ref (ad 139 0), .int (iv (σ_14 136 0 (Int.toNat x4)))]) X h (c_X12_afterBoard l D ct ad L φ N0 σ_14 x4 x3 x2 _ hw) rfl rfl ⟨Nat.le_of_ble_eq_true rfl, Nat.le_of_ble_eq_true rfl⟩ kw_2316 kw_2318 kw_104 kw_129 kw_2319 ⟨rfl, pd_X12_afterBoard⟩ (hF.1 12 rfl).1 rfl rfl rfl hl.1 rfl (Nat.le_of_ble_eq_true rfl) ⟨Nat.le_of_ble_eq_true rfl, Nat.le_of_ble_eq_true rfl⟩ dX12_lays__174) (fun r_20 σ_19 H locs hw h => ?_)
        obtain ⟨g_21, g_22, hw⟩ := hw
        refine r_iald (n := 40) X h (hF.1 139 rfl).1 rfl (by decide) g_21 g_22 dX12_lays__177 ?_
        refine j_iadd X dX12_lays__178 ?_
        refine lv_aload_n X.1 X.2.1 dX12_lays__179 rfl (lv_at hl 0 rfl) ?_
        refine r_getR (ci := 12) X inw_12 h (hF.1 12 rfl).1 rfl rfl 79 (by decide) kw_1717 rfl ((hF.1 12 rfl).2 79) dX12_lays__180 ?_
        refine lv_iload_n X.1 X.2.1 dX12_lays__183 rfl (lv_at hl 3 rfl) ?_
        obtain ⟨g_23, g_24, hw⟩ := hw
        refine r_iald (n := 40) X h (hF.1 139 rfl).1 rfl (by decide) g_23 g_24 dX12_lays__184 ?_
        obtain ⟨g_25, g_26, hwt, hwf⟩ := hw
        refine j_cmp_eq (tgt := 194) X g_25 g_26 dX12_lays__185 (by decide) (fun c_27 => ?_) (fun c_27 => ?_)
        · have hw := hwt c_27
          exact hK194 σ_19 x1 x2 x3 x4 _ _ _ hw h (lv_sub hl [0, 1, 2, 3, 4] rfl)
        · have hw := hwf c_27
          exact lb_X12_lays__188 X ih hK194 σ_19 x1 x2 x3 x4 _ _ _ hw h (lv_sub hl [0, 1, 2, 3, 4] rfl)
set_option maxRecDepth 100000 in
set_option maxHeartbeats 4000000 in
theorem lb_X12_lays__130 (X : Cx p s m meth c args cX12_lays_ 5 (some .int) RX12 D ct L φ N0) {K243 : St → Prop} (hK243 : ∀ (σ : St) (H : Heap) (locs : List Loc) (ls : Array Slot), K243 σ → Hs D ct ad L φ N0 s.heap σ H locs → lv_has ls 5 [(0, .ref (ad 12 0))] → W p l e ({ frames := 1, cells := 0, slots := 0, locals := 24 } : Room) s m args below meth c H locs 0 0 (MQ below (Qi D ct ad L φ N0 Q) args s 0 0 (AA N0)) (F0 m 243 ls [])) : ∀ (n : Nat) (σ : St) (x1 : Int) (x2 : Int) (x3 : Int) (H : Heap) (locs : List Loc) (ls : Array Slot), wp_X12_lays__130 K243 Q n σ x1 x2 x3 → Hs D ct ad L φ N0 s.heap σ H locs → lv_has ls 5 [(0, .ref (ad 12 0)), (1, .int (iv x1)), (2, .int (iv x2)), (3, .int (iv x3))] → W p l e ({ frames := 1, cells := 0, slots := 0, locals := 24 } : Room) s m args below meth c H locs 0 0 (MQ below (Qi D ct ad L φ N0 Q) args s 0 0 (AA N0)) (F0 m 130 ls []) := by
  have hF := X.2.2.2.2.2.2.2.2.1
  intro n
  induction n with
  | zero => intro σ x1 x2 x3 H locs ls hw; exact hw.elim
  | succ n ih =>
    intro σ x1 x2 x3 H locs ls hw h hl
    unfold wp_X12_lays__130 at hw
    refine lv_iload_n X.1 X.2.1 dX12_lays__130 rfl (lv_at hl 3 rfl) ?_
    refine lv_iload_n X.1 X.2.1 dX12_lays__131 rfl (lv_at hl 2 rfl) ?_
    obtain ⟨g_30, g_31, hwt, hwf⟩ := hw
    refine j_cmp_ge (tgt := 243) X g_30 g_31 dX12_lays__132 (by decide) (fun c_32 => ?_) (fun c_32 => ?_)
    · have hw := hwt c_32
      exact hK243 σ _ _ _ hw h (lv_sub hl [0] rfl)
    · have hw := hwf c_32
      refine j_iconst X dX12_lays__135 ?_
      refine lv_istore (lv' := [(4, .int (iv 0)), (0, .ref (ad 12 0)), (1, .int (iv x1)), (2, .int (iv x2)), (3, .int (iv x3))]) X.1 X.2.1 dX12_lays__136 hl (by decide) rfl (fun ls hl => ?_)
      exact hw.elim (fun n138 hw => lb_X12_lays__138 X (lb_X12_lays__194 X ih hK243) n138 σ x1 x2 x3 0 _ _ _ hw h (lv_sub hl [1, 2, 3, 4, 0] rfl))
set_option maxRecDepth 100000 in
set_option maxHeartbeats 4000000 in
theorem lb_X12_lays__128 (X : Cx p s m meth c args cX12_lays_ 5 (some .int) RX12 D ct L φ N0) (σ : St) (x1 : Int) (x2 : Int) (H : Heap) (locs : List Loc) (ls : Array Slot) (hw : wp_X12_lays__128 Q σ x1 x2) (h : Hs D ct ad L φ N0 s.heap σ H locs) (hl : lv_has ls 5 [(0, .ref (ad 12 0)), (1, .int (iv x1)), (2, .int (iv x2))]) : W p l e ({ frames := 1, cells := 0, slots := 0, locals := 24 } : Room) s m args below meth c H locs 0 0 (MQ below (Qi D ct ad L φ N0 Q) args s 0 0 (AA N0)) (F0 m 128 ls []) := by
  have hF := X.2.2.2.2.2.2.2.2.1
  unfold wp_X12_lays__128 at hw
  refine j_iconst X dX12_lays__128 ?_
  refine lv_istore_n (lv' := [(3, .int (iv 0)), (0, .ref (ad 12 0)), (1, .int (iv x1)), (2, .int (iv x2))]) X.1 X.2.1 dX12_lays__129 rfl hl (by decide) rfl (fun ls hl => ?_)
  exact hw.elim (fun n130 hw => lb_X12_lays__130 X (lb_X12_lays__243 X) n130 σ x1 x2 0 _ _ _ hw h (lv_sub hl [1, 2, 3, 0] rfl))
set_option maxRecDepth 100000 in
set_option maxHeartbeats 4000000 in
theorem lb_X12_lays__109 (X : Cx p s m meth c args cX12_lays_ 5 (some .int) RX12 D ct L φ N0) {K128 : St → Int → Int → Prop} (hK128 : ∀ (σ : St) (x1 : Int) (x2 : Int) (H : Heap) (locs : List Loc) (ls : Array Slot), K128 σ x1 x2 → Hs D ct ad L φ N0 s.heap σ H locs → lv_has ls 5 [(0, .ref (ad 12 0)), (1, .int (iv x1)), (2, .int (iv x2))] → W p l e ({ frames := 1, cells := 0, slots := 0, locals := 24 } : Room) s m args below meth c H locs 0 0 (MQ below (Qi D ct ad L φ N0 Q) args s 0 0 (AA N0)) (F0 m 128 ls [])) : ∀ (n : Nat) (σ : St) (x1 : Int) (x2 : Int) (x3 : Int) (H : Heap) (locs : List Loc) (ls : Array Slot), wp_X12_lays__109 K128 Q n σ x1 x2 x3 → Hs D ct ad L φ N0 s.heap σ H locs → lv_has ls 5 [(0, .ref (ad 12 0)), (1, .int (iv x1)), (2, .int (iv x2)), (3, .int (iv x3))] → W p l e ({ frames := 1, cells := 0, slots := 0, locals := 24 } : Room) s m args below meth c H locs 0 0 (MQ below (Qi D ct ad L φ N0 Q) args s 0 0 (AA N0)) (F0 m 109 ls []) := by
  have hF := X.2.2.2.2.2.2.2.2.1
  intro n
  induction n with
  | zero => intro σ x1 x2 x3 H locs ls hw; exact hw.elim
  | succ n ih =>
    intro σ x1 x2 x3 H locs ls hw h hl
    unfold wp_X12_lays__109 at hw
    refine lv_iload_n X.1 X.2.1 dX12_lays__109 rfl (lv_at hl 3 rfl) ?_
    refine lv_iload_n X.1 X.2.1 dX12_lays__110 rfl (lv_at hl 2 rfl) ?_
    obtain ⟨g_33, g_34, hwt, hwf⟩ := hw
    refine j_cmp_ge (tgt := 128) X g_33 g_34 dX12_lays__111 (by decide) (fun c_38 => ?_) (fun c_38 => ?_)
    · have hw := hwt c_38
      exact hK128 σ x1 x2 _ _ _ hw h (lv_sub hl [0, 1, 2] rfl)
    · have hw := hwf c_38
      refine lv_aload_n X.1 X.2.1 dX12_lays__114 rfl (lv_at hl 0 rfl) ?_
      refine r_getR (ci := 12) X inw_12 h (hF.1 12 rfl).1 rfl rfl 80 (by decide) kw_1718 rfl ((hF.1 12 rfl).2 80) dX12_lays__115 ?_
      refine lv_iload_n X.1 X.2.1 dX12_lays__118 rfl (lv_at hl 3 rfl) ?_
      refine j_bipush X dX12_lays__119 (by decide) ?_
      obtain ⟨g_35, g_36, hw⟩ := hw
      refine r_iast (n := 40) X h (hF.1 140 rfl).1 (fun _ => rfl) (by decide) g_35 g_36 rfl dX12_lays__121 (fun H locs h => ?_)
      obtain ⟨σ_37, eσ_37⟩ : ∃ z : St, z = st σ 140 0 (Int.toNat x3) (-2) := ⟨_, rfl⟩
      rw [← eσ_37] at h
      have hw := hw σ_37 eσ_37
      refine j_iinc (kk9 := 3) (lv' := [(3, .int (iv (x3 + 1))), (0, .ref (ad 12 0)), (1, .int (iv x1)), (2, .int (iv x2))]) X dX12_lays__122 hl rfl (by decide) rfl (fun ls hl => ?_)
      refine lv_goto (tgt := 109) X.1 X.2.1 dX12_lays__125 (by decide) ?_
      exact ih σ_37 x1 x2 (x3 + 1) _ _ _ hw h (lv_sub hl [1, 2, 3, 0] rfl)
set_option maxRecDepth 100000 in
set_option maxHeartbeats 4000000 in
theorem lb_X12_lays__107 (X : Cx p s m meth c args cX12_lays_ 5 (some .int) RX12 D ct L φ N0) (σ : St) (x1 : Int) (x2 : Int) (H : Heap) (locs : List Loc) (ls : Array Slot) (hw : wp_X12_lays__107 Q σ x1 x2) (h : Hs D ct ad L φ N0 s.heap σ H locs) (hl : lv_has ls 5 [(0, .ref (ad 12 0)), (1, .int (iv x1)), (2, .int (iv x2))]) : W p l e ({ frames := 1, cells := 0, slots := 0, locals := 24 } : Room) s m args below meth c H locs 0 0 (MQ below (Qi D ct ad L φ N0 Q) args s 0 0 (AA N0)) (F0 m 107 ls []) := by
  have hF := X.2.2.2.2.2.2.2.2.1
  unfold wp_X12_lays__107 at hw
  refine j_iconst X dX12_lays__107 ?_
  refine lv_istore_n (lv' := [(3, .int (iv 0)), (0, .ref (ad 12 0)), (1, .int (iv x1)), (2, .int (iv x2))]) X.1 X.2.1 dX12_lays__108 rfl hl (by decide) rfl (fun ls hl => ?_)
  exact hw.elim (fun n109 hw => lb_X12_lays__109 X (lb_X12_lays__128 X) n109 σ x1 x2 0 _ _ _ hw h (lv_sub hl [1, 2, 3, 0] rfl))
set_option maxRecDepth 100000 in
set_option maxHeartbeats 4000000 in
theorem lb_X12_lays__101 (X : Cx p s m meth c args cX12_lays_ 5 (some .int) RX12 D ct L φ N0) {K18 : St → Int → Int → Int → Prop} {K107 : St → Int → Int → Prop} (hK18 : ∀ (σ : St) (x1 : Int) (x2 : Int) (x3 : Int) (H : Heap) (locs : List Loc) (ls : Array Slot), K18 σ x1 x2 x3 → Hs D ct ad L φ N0 s.heap σ H locs → lv_has ls 5 [(0, .ref (ad 12 0)), (1, .int (iv x1)), (2, .int (iv x2)), (3, .int (iv x3))] → W p l e ({ frames := 1, cells := 0, slots := 0, locals := 24 } : Room) s m args below meth c H locs 0 0 (MQ below (Qi D ct ad L φ N0 Q) args s 0 0 (AA N0)) (F0 m 18 ls [])) (hK107 : ∀ (σ : St) (x1 : Int) (x2 : Int) (H : Heap) (locs : List Loc) (ls : Array Slot), K107 σ x1 x2 → Hs D ct ad L φ N0 s.heap σ H locs → lv_has ls 5 [(0, .ref (ad 12 0)), (1, .int (iv x1)), (2, .int (iv x2))] → W p l e ({ frames := 1, cells := 0, slots := 0, locals := 24 } : Room) s m args below meth c H locs 0 0 (MQ below (Qi D ct ad L φ N0 Q) args s 0 0 (AA N0)) (F0 m 107 ls [])) (σ : St) (x1 : Int) (x2 : Int) (x3 : Int) (H : Heap) (locs : List Loc) (ls : Array Slot) (hw : wp_X12_lays__101 K18 K107 Q σ x1 x2 x3) (h : Hs D ct ad L φ N0 s.heap σ H locs) (hl : lv_has ls 5 [(0, .ref (ad 12 0)), (1, .int (iv x1)), (2, .int (iv x2)), (3, .int (iv x3))]) : W p l e ({ frames := 1, cells := 0, slots := 0, locals := 24 } : Room) s m args below meth c H locs 0 0 (MQ below (Qi D ct ad L φ N0 Q) args s 0 0 (AA N0)) (F0 m 101 ls []) := by
  have hF := X.2.2.2.2.2.2.2.2.1
  unfold wp_X12_lays__101 at hw
  refine j_iinc (kk9 := 3) (lv' := [(3, .int (iv (x3 + (-1)))), (0, .ref (ad 12 0)), (1, .int (iv x1)), (2, .int (iv x2))]) X dX12_lays__101 hl rfl (by decide) rfl (fun ls hl => ?_)
  refine lv_goto (tgt := 18) X.1 X.2.1 dX12_lays__104 (by decide) ?_
  exact hK18 σ x1 x2 (x3 + (-1)) _ _ _ hw h (lv_sub hl [1, 2, 3, 0] rfl)
set_option maxRecDepth 100000 in
set_option maxHeartbeats 4000000 in
theorem lb_X12_lays__95 (X : Cx p s m meth c args cX12_lays_ 5 (some .int) RX12 D ct L φ N0) {K39 : St → Int → Int → Int → Int → Prop} {K101 : St → Int → Int → Int → Prop} (hK39 : ∀ (σ : St) (x1 : Int) (x2 : Int) (x3 : Int) (x4 : Int) (H : Heap) (locs : List Loc) (ls : Array Slot), K39 σ x1 x2 x3 x4 → Hs D ct ad L φ N0 s.heap σ H locs → lv_has ls 5 [(0, .ref (ad 12 0)), (1, .int (iv x1)), (2, .int (iv x2)), (3, .int (iv x3)), (4, .int (iv x4))] → W p l e ({ frames := 1, cells := 0, slots := 0, locals := 24 } : Room) s m args below meth c H locs 0 0 (MQ below (Qi D ct ad L φ N0 Q) args s 0 0 (AA N0)) (F0 m 39 ls [])) (hK101 : ∀ (σ : St) (x1 : Int) (x2 : Int) (x3 : Int) (H : Heap) (locs : List Loc) (ls : Array Slot), K101 σ x1 x2 x3 → Hs D ct ad L φ N0 s.heap σ H locs → lv_has ls 5 [(0, .ref (ad 12 0)), (1, .int (iv x1)), (2, .int (iv x2)), (3, .int (iv x3))] → W p l e ({ frames := 1, cells := 0, slots := 0, locals := 24 } : Room) s m args below meth c H locs 0 0 (MQ below (Qi D ct ad L φ N0 Q) args s 0 0 (AA N0)) (F0 m 101 ls [])) (σ : St) (x1 : Int) (x2 : Int) (x3 : Int) (x4 : Int) (H : Heap) (locs : List Loc) (ls : Array Slot) (hw : wp_X12_lays__95 K39 K101 Q σ x1 x2 x3 x4) (h : Hs D ct ad L φ N0 s.heap σ H locs) (hl : lv_has ls 5 [(0, .ref (ad 12 0)), (1, .int (iv x1)), (2, .int (iv x2)), (3, .int (iv x3)), (4, .int (iv x4))]) : W p l e ({ frames := 1, cells := 0, slots := 0, locals := 24 } : Room) s m args below meth c H locs 0 0 (MQ below (Qi D ct ad L φ N0 Q) args s 0 0 (AA N0)) (F0 m 95 ls []) := by
  have hF := X.2.2.2.2.2.2.2.2.1
  unfold wp_X12_lays__95 at hw
  refine j_iinc (kk9 := 4) (lv' := [(4, .int (iv (x4 + 1))), (0, .ref (ad 12 0)), (1, .int (iv x1)), (2, .int (iv x2)), (3, .int (iv x3))]) X dX12_lays__95 hl rfl (by decide) rfl (fun ls hl => ?_)
  refine lv_goto (tgt := 39) X.1 X.2.1 dX12_lays__98 (by decide) ?_
  exact hK39 σ x1 x2 x3 (x4 + 1) _ _ _ hw h (lv_sub hl [1, 2, 3, 4, 0] rfl)
set_option maxRecDepth 100000 in
set_option maxHeartbeats 4000000 in
theorem lb_X12_lays__39 (X : Cx p s m meth c args cX12_lays_ 5 (some .int) RX12 D ct L φ N0) {K101 : St → Int → Int → Int → Prop} (hK101 : ∀ (σ : St) (x1 : Int) (x2 : Int) (x3 : Int) (H : Heap) (locs : List Loc) (ls : Array Slot), K101 σ x1 x2 x3 → Hs D ct ad L φ N0 s.heap σ H locs → lv_has ls 5 [(0, .ref (ad 12 0)), (1, .int (iv x1)), (2, .int (iv x2)), (3, .int (iv x3))] → W p l e ({ frames := 1, cells := 0, slots := 0, locals := 24 } : Room) s m args below meth c H locs 0 0 (MQ below (Qi D ct ad L φ N0 Q) args s 0 0 (AA N0)) (F0 m 101 ls [])) : ∀ (n : Nat) (σ : St) (x1 : Int) (x2 : Int) (x3 : Int) (x4 : Int) (H : Heap) (locs : List Loc) (ls : Array Slot), wp_X12_lays__39 K101 Q n σ x1 x2 x3 x4 → Hs D ct ad L φ N0 s.heap σ H locs → lv_has ls 5 [(0, .ref (ad 12 0)), (1, .int (iv x1)), (2, .int (iv x2)), (3, .int (iv x3)), (4, .int (iv x4))] → W p l e ({ frames := 1, cells := 0, slots := 0, locals := 24 } : Room) s m args below meth c H locs 0 0 (MQ below (Qi D ct ad L φ N0 Q) args s 0 0 (AA N0)) (F0 m 39 ls []) := by
  have hF := X.2.2.2.2.2.2.2.2.1
  intro n
  induction n with
  | zero => intro σ x1 x2 x3 x4 H locs ls hw; exact hw.elim
  | succ n ih =>
    intro σ x1 x2 x3 x4 H locs ls hw h hl
    unfold wp_X12_lays__39 at hw
    refine lv_iload X.1 X.2.1 dX12_lays__39 (lv_at hl 4 rfl) ?_
    refine lv_aload_n X.1 X.2.1 dX12_lays__41 rfl (lv_at hl 0 rfl) ?_
    refine r_get (ci := 12) X inw_12 h (hF.1 12 rfl).1 rfl rfl 71 (by decide) kw_1709 rfl dX12_lays__42 ?_
    obtain ⟨g_39, g_40, hwt, hwf⟩ := hw
    refine j_cmp_ge (tgt := 101) X g_39 g_40 dX12_lays__45 (by decide) (fun c_58 => ?_) (fun c_58 => ?_)
    · have hw := hwt c_58
      exact hK101 σ x1 x2 x3 _ _ _ hw h (lv_sub hl [0, 1, 2, 3] rfl)
    · have hw := hwf c_58
      refine lv_aload_n X.1 X.2.1 dX12_lays__48 rfl (lv_at hl 0 rfl) ?_
      refine lv_iload X.1 X.2.1 dX12_lays__49 (lv_at hl 4 rfl) ?_
      refine lv_iload_n X.1 X.2.1 dX12_lays__51 rfl (lv_at hl 1 rfl) ?_
      refine lv_iload_n X.1 X.2.1 dX12_lays__52 rfl (lv_at hl 3 rfl) ?_
      refine k_i h (r_V (C := RX12) (ci := 12) (As := [.int (iv x4), .int (iv x1), .int (iv x3)]) (rest := []) X h (c_X12_canBe l D ct ad L φ N0 σ x4 x1 x3 _ hw) rfl rfl ⟨Nat.le_of_ble_eq_true rfl, Nat.le_of_ble_eq_true rfl⟩ kw_2312 kw_2314 kw_103 kw_129 kw_2315 ⟨rfl, pd_X12_canBe⟩ (hF.1 12 rfl).1 rfl rfl rfl hl.1 rfl (Nat.le_of_ble_eq_true rfl) ⟨Nat.le_of_ble_eq_true rfl, Nat.le_of_ble_eq_true rfl⟩ dX12_lays__53) (fun r_42 σ_41 H locs hw h => ?_)
      obtain ⟨g_43, hwt, hwf⟩ := hw
      refine j_if_eq (tgt := 95) X g_43 dX12_lays__56 (by decide) (fun c_57 => ?_) (fun c_57 => ?_)
      · have hw := hwt c_57
        exact lb_X12_lays__95 X ih hK101 σ_41 x1 x2 x3 x4 _ _ _ hw h (lv_sub hl [0, 1, 2, 3, 4] rfl)
      · have hw := hwf c_57
        refine lv_aload_n X.1 X.2.1 dX12_lays__59 rfl (lv_at hl 0 rfl) ?_
        refine r_getR (ci := 12) X inw_12 h (hF.1 12 rfl).1 rfl rfl 79 (by decide) kw_1717 rfl ((hF.1 12 rfl).2 79) dX12_lays__60 ?_
        refine lv_iload_n X.1 X.2.1 dX12_lays__63 rfl (lv_at hl 3 rfl) ?_
        refine lv_aload_n X.1 X.2.1 dX12_lays__64 rfl (lv_at hl 0 rfl) ?_
        refine r_getR (ci := 12) X inw_12 h (hF.1 12 rfl).1 rfl rfl 79 (by decide) kw_1717 rfl ((hF.1 12 rfl).2 79) dX12_lays__65 ?_
        refine lv_iload_n X.1 X.2.1 dX12_lays__68 rfl (lv_at hl 3 rfl) ?_
        obtain ⟨g_44, g_45, hw⟩ := hw
        refine r_iald (n := 40) X h (hF.1 139 rfl).1 rfl (by decide) g_44 g_45 dX12_lays__69 ?_
        refine lv_aload_n X.1 X.2.1 dX12_lays__70 rfl (lv_at hl 0 rfl) ?_
        refine r_getR (ci := 12) X inw_12 h (hF.1 12 rfl).1 rfl rfl 75 (by decide) kw_1713 rfl ((hF.1 12 rfl).2 75) dX12_lays__71 ?_
        refine lv_iload X.1 X.2.1 dX12_lays__74 (lv_at hl 4 rfl) ?_
        obtain ⟨g_46, g_47, hw⟩ := hw
        refine r_iald (n := 30) X h (hF.1 136 rfl).1 rfl (by decide) g_46 g_47 dX12_lays__76 ?_
        refine lv_aload_n X.1 X.2.1 dX12_lays__77 rfl (lv_at hl 0 rfl) ?_
        refine r_getR (ci := 12) X inw_12 h (hF.1 12 rfl).1 rfl rfl 79 (by decide) kw_1717 rfl ((hF.1 12 rfl).2 79) dX12_lays__78 ?_
        refine lv_aload_n X.1 X.2.1 dX12_lays__81 rfl (lv_at hl 0 rfl) ?_
        refine lv_iload X.1 X.2.1 dX12_lays__82 (lv_at hl 4 rfl) ?_
        refine lv_iload_n X.1 X.2.1 dX12_lays__84 rfl (lv_at hl 3 rfl) ?_
        refine lv_iload_n X.1 X.2.1 dX12_lays__85 rfl (lv_at hl 2 rfl) ?_
        refine k_i h (r_V (C := RX12) (ci := 12) (As := [.int (iv x4), .int (iv x3), .int (iv x2)]) (rest := [.ref (ad 139 0), .int (iv (σ_41 136 0 (Int.toNat x4))), .int (iv (σ_41 139 0 (Int.toNat x3))), .int (iv x3), .ref (ad 139 0)]) X h (c_X12_afterBoard l D ct ad L φ N0 σ_41 x4 x3 x2 _ hw) rfl rfl ⟨Nat.le_of_ble_eq_true rfl, Nat.le_of_ble_eq_true rfl⟩ kw_2316 kw_2318 kw_104 kw_129 kw_2319 ⟨rfl, pd_X12_afterBoard⟩ (hF.1 12 rfl).1 rfl rfl rfl hl.1 rfl (Nat.le_of_ble_eq_true rfl) ⟨Nat.le_of_ble_eq_true rfl, Nat.le_of_ble_eq_true rfl⟩ dX12_lays__86) (fun r_49 σ_48 H locs hw h => ?_)
        obtain ⟨g_50, g_51, hw⟩ := hw
        refine r_iald (n := 40) X h (hF.1 139 rfl).1 rfl (by decide) g_50 g_51 dX12_lays__89 ?_
        refine j_iadd X dX12_lays__90 ?_
        refine k_i h (r_S (As := [.int (iv (σ_41 139 0 (Int.toNat x3))), .int (iv ((σ_41 136 0 (Int.toNat x4)) + (σ_48 139 0 (Int.toNat r_49))))]) (rest := [.int (iv x3), .ref (ad 139 0)]) X h (c_J9_max_7cf53 l D ct ad L φ N0 σ_48 (σ_41 139 0 (Int.toNat x3)) ((σ_41 136 0 (Int.toNat x4)) + (σ_48 139 0 (Int.toNat r_49))) _ hw) rfl rfl ⟨Nat.le_of_ble_eq_true rfl, Nat.le_of_ble_eq_true rfl⟩ kw_2320 kw_619 kw_130 kw_620 pd_J9_max_7cf53 rfl hl.1 rfl (Nat.le_of_ble_eq_true rfl) ⟨Nat.le_of_ble_eq_true rfl, Nat.le_of_ble_eq_true rfl⟩ dX12_lays__91) (fun r_53 σ_52 H locs hw h => ?_)
        obtain ⟨g_54, g_55, hw⟩ := hw
        refine r_iast (n := 40) X h (hF.1 139 rfl).1 (fun _ => rfl) (by decide) g_54 g_55 rfl dX12_lays__94 (fun H locs h => ?_)
        obtain ⟨σ_56, eσ_56⟩ : ∃ z : St, z = st σ_52 139 0 (Int.toNat x3) r_53 := ⟨_, rfl⟩
        rw [← eσ_56] at h
        have hw := hw σ_56 eσ_56
        exact lb_X12_lays__95 X ih hK101 σ_56 x1 x2 x3 x4 _ _ _ hw h (lv_sub hl [0, 1, 2, 3, 4] rfl)
set_option maxRecDepth 100000 in
set_option maxHeartbeats 4000000 in
theorem lb_X12_lays__18 (X : Cx p s m meth c args cX12_lays_ 5 (some .int) RX12 D ct L φ N0) {K107 : St → Int → Int → Prop} (hK107 : ∀ (σ : St) (x1 : Int) (x2 : Int) (H : Heap) (locs : List Loc) (ls : Array Slot), K107 σ x1 x2 → Hs D ct ad L φ N0 s.heap σ H locs → lv_has ls 5 [(0, .ref (ad 12 0)), (1, .int (iv x1)), (2, .int (iv x2))] → W p l e ({ frames := 1, cells := 0, slots := 0, locals := 24 } : Room) s m args below meth c H locs 0 0 (MQ below (Qi D ct ad L φ N0 Q) args s 0 0 (AA N0)) (F0 m 107 ls [])) : ∀ (n : Nat) (σ : St) (x1 : Int) (x2 : Int) (x3 : Int) (H : Heap) (locs : List Loc) (ls : Array Slot), wp_X12_lays__18 K107 Q n σ x1 x2 x3 → Hs D ct ad L φ N0 s.heap σ H locs → lv_has ls 5 [(0, .ref (ad 12 0)), (1, .int (iv x1)), (2, .int (iv x2)), (3, .int (iv x3))] → W p l e ({ frames := 1, cells := 0, slots := 0, locals := 24 } : Room) s m args below meth c H locs 0 0 (MQ below (Qi D ct ad L φ N0 Q) args s 0 0 (AA N0)) (F0 m 18 ls []) := by
  have hF := X.2.2.2.2.2.2.2.2.1
  intro n
  induction n with
  | zero => intro σ x1 x2 x3 H locs ls hw; exact hw.elim
  | succ n ih =>
    intro σ x1 x2 x3 H locs ls hw h hl
    unfold wp_X12_lays__18 at hw
    refine lv_iload_n X.1 X.2.1 dX12_lays__18 rfl (lv_at hl 3 rfl) ?_
    obtain ⟨g_59, hwt, hwf⟩ := hw
    refine j_if_lt (tgt := 107) X g_59 dX12_lays__19 (by decide) (fun c_65 => ?_) (fun c_65 => ?_)
    · have hw := hwt c_65
      exact hK107 σ x1 x2 _ _ _ hw h (lv_sub hl [0, 1, 2] rfl)
    · have hw := hwf c_65
      refine lv_aload_n X.1 X.2.1 dX12_lays__22 rfl (lv_at hl 0 rfl) ?_
      refine r_getR (ci := 12) X inw_12 h (hF.1 12 rfl).1 rfl rfl 79 (by decide) kw_1717 rfl ((hF.1 12 rfl).2 79) dX12_lays__23 ?_
      refine lv_iload_n X.1 X.2.1 dX12_lays__26 rfl (lv_at hl 3 rfl) ?_
      refine lv_aload_n X.1 X.2.1 dX12_lays__27 rfl (lv_at hl 0 rfl) ?_
      refine r_getR (ci := 12) X inw_12 h (hF.1 12 rfl).1 rfl rfl 79 (by decide) kw_1717 rfl ((hF.1 12 rfl).2 79) dX12_lays__28 ?_
      refine lv_iload_n X.1 X.2.1 dX12_lays__31 rfl (lv_at hl 3 rfl) ?_
      refine j_iconst X dX12_lays__32 ?_
      refine j_iadd X dX12_lays__33 ?_
      obtain ⟨g_60, g_61, hw⟩ := hw
      refine r_iald (n := 40) X h (hF.1 139 rfl).1 rfl (by decide) g_60 g_61 dX12_lays__34 ?_
      obtain ⟨g_62, g_63, hw⟩ := hw
      refine r_iast (n := 40) X h (hF.1 139 rfl).1 (fun _ => rfl) (by decide) g_62 g_63 rfl dX12_lays__35 (fun H locs h => ?_)
      obtain ⟨σ_64, eσ_64⟩ : ∃ z : St, z = st σ 139 0 (Int.toNat x3) (σ 139 0 (Int.toNat (x3 + 1))) := ⟨_, rfl⟩
      rw [← eσ_64] at h
      have hw := hw σ_64 eσ_64
      refine j_iconst X dX12_lays__36 ?_
      refine lv_istore (lv' := [(4, .int (iv 0)), (0, .ref (ad 12 0)), (1, .int (iv x1)), (2, .int (iv x2)), (3, .int (iv x3))]) X.1 X.2.1 dX12_lays__37 hl (by decide) rfl (fun ls hl => ?_)
      exact hw.elim (fun n39 hw => lb_X12_lays__39 X (lb_X12_lays__101 X ih hK107) n39 σ_64 x1 x2 x3 0 _ _ _ hw h (lv_sub hl [1, 2, 3, 4, 0] rfl))
theorem pd_X12_lays_ : yX12_lays_.cls ≠ "java/lang/invoke/MethodHandle" ∧ yX12_lays_.cls ≠ "java/lang/invoke/VarHandle" ∧ (parseMethodDescriptor yX12_lays_.desc).map (fun d => d.parameters.length) = some 1 := by decide +kernel
set_option maxRecDepth 100000 in
set_option maxHeartbeats 4000000 in
theorem c_X12_lays_ (l : Launch) (D : va_G) (ct : Nat → ClassId) (ad : Nat → Nat → Nat) (L : List (Nat × Nat)) (φ : Nat → Nat → Nat → Bool) (N0 : Nat) (σ : St) (x1 : Int) (Q : Int → St → Prop) (hw : wp_X12_lays_ σ x1 Q) : Met l yX12_lays_ (.code yX12_lays_ cX12_lays_ 5 (some .int) :: gw) ({ frames := 1, cells := 0, slots := 0, locals := 24 } : Room) (Pm D ct ad L φ N0 σ [.ref (ad 12 0), .int (iv x1)]) (Qi D ct ad L φ N0 Q) 0 0 (AA N0) := by
  refine m_of (by decide) (fun p e s m below meth c X hnm h => ?_)
  have hF := X.2.2.2.2.2.2.2.2.1
  have hl := lv_entry ([.ref (ad 12 0), .int (iv x1)]) (n := 5) (Nat.le_of_ble_eq_true rfl)
  rw [lg_entry_eq]
  generalize (lg_sl ([.ref (ad 12 0), .int (iv x1)]) ++ List.replicate (5 - (lg_sl ([.ref (ad 12 0), .int (iv x1)])).length) Slot.unset).toArray = ls at hl ⊢
  have hl : lv_has ls 5 [(0, .ref (ad 12 0)), (1, .int (iv x1))] := hl
  have h : Hs D ct ad L φ N0 s.heap σ s.heap [] := h
  unfold wp_X12_lays_ at hw
  refine lv_aload_n X.1 X.2.1 dX12_lays__0 rfl (lv_at hl 0 rfl) ?_
  refine r_getR (ci := 12) X inw_12 h (hF.1 12 rfl).1 rfl rfl 21 (by decide) kw_1659 rfl ((hF.1 12 rfl).2 21) dX12_lays__1 ?_
  refine lv_iload_n X.1 X.2.1 dX12_lays__4 rfl (lv_at hl 1 rfl) ?_
  obtain ⟨g_66, g_67, hw⟩ := hw
  refine r_iald (n := 300) X h (hF.1 98 rfl).1 rfl (by decide) g_66 g_67 dX12_lays__5 ?_
  refine j_bind (fun v_68 ev_68 => ?_)
  have hw := hw v_68 ev_68
  refine lv_istore_n (lv' := [(2, .int (iv v_68)), (0, .ref (ad 12 0)), (1, .int (iv x1))]) X.1 X.2.1 dX12_lays__6 rfl hl (by decide) rfl (fun ls hl => ?_)
  refine lv_aload_n X.1 X.2.1 dX12_lays__7 rfl (lv_at hl 1 rfl) ?_
  refine r_getR (ci := 12) X inw_12 h (hF.1 12 rfl).1 rfl rfl 79 (by decide) kw_1717 rfl ((hF.1 12 rfl).2 79) dX12_lays__8 ?_
  refine lv_iload_n X.1 X.2.1 dX12_lays__11 rfl (lv_at hl 0 rfl) ?_
  refine j_iconst X dX12_lays__12 ?_
  obtain ⟨g_69, g_70, hw⟩ := hw
  refine r_iast (n := 40) X h (hF.1 139 rfl).1 (fun _ => rfl) (by decide) g_69 g_70 rfl dX12_lays__13 (fun H locs h => ?_)
  obtain ⟨σ_71, eσ_71⟩ : ∃ z : St, z = st σ 139 0 (Int.toNat v_68) 0 := ⟨_, rfl⟩
  rw [← eσ_71] at h
  have hw := hw σ_71 eσ_71
  refine lv_iload_n X.1 X.2.1 dX12_lays__14 rfl (lv_at hl 0 rfl) ?_
  refine j_iconst X dX12_lays__15 ?_
  refine j_isub X dX12_lays__16 ?_
  refine j_bind (fun v_72 ev_72 => ?_)
  have hw := hw v_72 ev_72
  refine lv_istore_n (lv' := [(3, .int (iv v_72)), (2, .int (iv v_68)), (0, .ref (ad 12 0)), (1, .int (iv x1))]) X.1 X.2.1 dX12_lays__17 rfl hl (by decide) rfl (fun ls hl => ?_)
  exact hw.elim (fun n18 hw => lb_X12_lays__18 X (lb_X12_lays__107 X) n18 σ_71 x1 v_68 v_72 _ _ _ hw h (lv_sub hl [2, 3, 1, 0] rfl))
end
section
variable {p : Program} {l : Launch} {e : Env} {s : State} {m : MethodId} {args : Array Value} {below : List Frame} {meth : Method} {c : Code} {D : va_G} {ct : Nat → ClassId} {ad : Nat → Nat → Nat} {L : List (Nat × Nat)} {φ : Nat → Nat → Nat → Bool} {N0 : Nat}
variable {Q : Int → St → Prop}
theorem pd_X12_isInPond : yX12_isInPond.cls ≠ "java/lang/invoke/MethodHandle" ∧ yX12_isInPond.cls ≠ "java/lang/invoke/VarHandle" ∧ (parseMethodDescriptor yX12_isInPond.desc).map (fun d => d.parameters.length) = some 1 := by decide +kernel
set_option maxRecDepth 100000 in
set_option maxHeartbeats 4000000 in
theorem c_X12_isInPond (l : Launch) (D : va_G) (ct : Nat → ClassId) (ad : Nat → Nat → Nat) (L : List (Nat × Nat)) (φ : Nat → Nat → Nat → Bool) (N0 : Nat) (σ : St) (x1 : Int) (Q : Int → St → Prop) (hw : wp_X12_isInPond σ x1 Q) : Met l yX12_isInPond (.code yX12_isInPond cX12_isInPond 2 (some .boolean) :: gw) ({ frames := 2, cells := 0, slots := 0, locals := 43 } : Room) (Pm D ct ad L φ N0 σ [.ref (ad 12 0), .int (iv x1)]) (Qi D ct ad L φ N0 Q) 0 0 (AA N0) := by
  refine m_of (by decide) (fun p e s m below meth c X hnm h => ?_)
  have hF := X.2.2.2.2.2.2.2.2.1
  have hl := lv_entry ([.ref (ad 12 0), .int (iv x1)]) (n := 2) (Nat.le_of_ble_eq_true rfl)
  rw [lg_entry_eq]
  generalize (lg_sl ([.ref (ad 12 0), .int (iv x1)]) ++ List.replicate (2 - (lg_sl ([.ref (ad 12 0), .int (iv x1)])).length) Slot.unset).toArray = ls at hl ⊢
  have hl : lv_has ls 2 [(0, .ref (ad 12 0)), (1, .int (iv x1))] := hl
  have h : Hs D ct ad L φ N0 s.heap σ s.heap [] := h
  unfold wp_X12_isInPond at hw
  refine lv_aload_n X.1 X.2.1 dX12_isInPond_0 rfl (lv_at hl 0 rfl) ?_
  refine lv_iload_n X.1 X.2.1 dX12_isInPond_1 rfl (lv_at hl 1 rfl) ?_
  refine k_i h (r_V (C := RX12) (ci := 12) (As := [.int (iv x1)]) (rest := []) X h (c_X12_isLog l D ct ad L φ N0 σ x1 _ hw) rfl rfl ⟨Nat.le_of_ble_eq_true rfl, Nat.le_of_ble_eq_true rfl⟩ kw_2027 kw_2029 kw_69 kw_129 kw_2030 ⟨rfl, pd_X12_isLog⟩ (hF.1 12 rfl).1 rfl rfl rfl hl.1 rfl (Nat.le_of_ble_eq_true rfl) ⟨Nat.le_of_ble_eq_true rfl, Nat.le_of_ble_eq_true rfl⟩ dX12_isInPond_2) (fun r_2 σ_1 H locs hw h => ?_)
  obtain ⟨g_3, hwt, hwf⟩ := hw
  refine j_if_eq (tgt := 22) X g_3 dX12_isInPond_5 (by decide) (fun c_8 => ?_) (fun c_8 => ?_)
  · have hw := hwt c_8
    refine j_iconst X dX12_isInPond_22 ?_
    exact k_ir X rfl h hw dX12_isInPond_23
  · have hw := hwf c_8
    refine lv_aload_n X.1 X.2.1 dX12_isInPond_8 rfl (lv_at hl 0 rfl) ?_
    refine r_getR (ci := 12) X inw_12 h (hF.1 12 rfl).1 rfl rfl 25 (by decide) kw_1663 rfl ((hF.1 12 rfl).2 25) dX12_isInPond_9 ?_
    refine lv_iload_n X.1 X.2.1 dX12_isInPond_12 rfl (lv_at hl 1 rfl) ?_
    obtain ⟨g_4, g_5, hw⟩ := hw
    refine r_iald (n := 300) X h (hF.1 102 rfl).1 rfl (by decide) g_4 g_5 dX12_isInPond_13 ?_
    refine j_iconst X dX12_isInPond_14 ?_
    obtain ⟨g_6, hwt, hwf⟩ := hw
    refine j_cmp_ne (tgt := 22) X g_6 ⟨by decide, by decide⟩ dX12_isInPond_15 (by decide) (fun c_7 => ?_) (fun c_7 => ?_)
    · have hw := hwt c_7
      refine j_iconst X dX12_isInPond_22 ?_
      exact k_ir X rfl h hw dX12_isInPond_23
    · have hw := hwf c_7
      refine j_iconst X dX12_isInPond_18 ?_
      refine lv_goto (tgt := 23) X.1 X.2.1 dX12_isInPond_19 (by decide) ?_
      exact k_ir X rfl h hw dX12_isInPond_23
end
section
variable {p : Program} {l : Launch} {e : Env} {s : State} {m : MethodId} {args : Array Value} {below : List Frame} {meth : Method} {c : Code} {D : va_G} {ct : Nat → ClassId} {ad : Nat → Nat → Nat} {L : List (Nat × Nat)} {φ : Nat → Nat → Nat → Bool} {N0 : Nat}
variable {Q : Int → St → Prop}
theorem pd_X12_best : yX12_best.cls ≠ "java/lang/invoke/MethodHandle" ∧ yX12_best.cls ≠ "java/lang/invoke/VarHandle" ∧ (parseMethodDescriptor yX12_best.desc).map (fun d => d.parameters.length) = some 1 := by decide +kernel
set_option maxRecDepth 100000 in
set_option maxHeartbeats 4000000 in
theorem c_X12_best (l : Launch) (D : va_G) (ct : Nat → ClassId) (ad : Nat → Nat → Nat) (L : List (Nat × Nat)) (φ : Nat → Nat → Nat → Bool) (N0 : Nat) (σ : St) (x1 : Int) (Q : Int → St → Prop) (hw : wp_X12_best σ x1 Q) : Met l yX12_best (.code yX12_best cX12_best 2 (some .int) :: gw) ({ frames := 3, cells := 0, slots := 0, locals := 64 } : Room) (Pm D ct ad L φ N0 σ [.ref (ad 12 0), .int (iv x1)]) (Qi D ct ad L φ N0 Q) 0 0 (AA N0) := by
  refine m_of (by decide) (fun p e s m below meth c X hnm h => ?_)
  have hF := X.2.2.2.2.2.2.2.2.1
  have hl := lv_entry ([.ref (ad 12 0), .int (iv x1)]) (n := 2) (Nat.le_of_ble_eq_true rfl)
  rw [lg_entry_eq]
  generalize (lg_sl ([.ref (ad 12 0), .int (iv x1)]) ++ List.replicate (2 - (lg_sl ([.ref (ad 12 0), .int (iv x1)])).length) Slot.unset).toArray = ls at hl ⊢
  have hl : lv_has ls 2 [(0, .ref (ad 12 0)), (1, .int (iv x1))] := hl
  have h : Hs D ct ad L φ N0 s.heap σ s.heap [] := h
  unfold wp_X12_best at hw
  refine lv_aload_n X.1 X.2.1 dX12_best_0 rfl (lv_at hl 0 rfl) ?_
  refine j_iconst X dX12_best_1 ?_
  refine r_put (ci := 12) X inw_12 tyX12 tyX12_ok nmX12 h (hF.1 12 rfl).1 rfl rfl 0 (by decide) kw_1638 rfl rfl rfl (Nat.le_of_ble_eq_true rfl) rfl rfl dX12_best_2 (fun H locs h => ?_)
  obtain ⟨σ_1, eσ_1⟩ : ∃ z : St, z = st σ 12 0 0 0 := ⟨_, rfl⟩
  rw [← eσ_1] at h
  have hw := hw σ_1 eσ_1
  refine lv_aload_n X.1 X.2.1 dX12_best_5 rfl (lv_at hl 0 rfl) ?_
  refine lv_iload_n X.1 X.2.1 dX12_best_6 rfl (lv_at hl 1 rfl) ?_
  refine k_i h (r_V (C := RX12) (ci := 12) (As := [.int (iv x1)]) (rest := []) X h (c_X12_isInPond l D ct ad L φ N0 σ_1 x1 _ hw) rfl rfl ⟨Nat.le_of_ble_eq_true rfl, Nat.le_of_ble_eq_true rfl⟩ kw_2304 kw_2306 kw_101 kw_129 kw_2307 ⟨rfl, pd_X12_isInPond⟩ (hF.1 12 rfl).1 rfl rfl rfl hl.1 rfl (Nat.le_of_ble_eq_true rfl) ⟨Nat.le_of_ble_eq_true rfl, Nat.le_of_ble_eq_true rfl⟩ dX12_best_7) (fun r_3 σ_2 H locs hw h => ?_)
  obtain ⟨g_4, hwt, hwf⟩ := hw
  refine j_if_eq (tgt := 21) X g_4 dX12_best_10 (by decide) (fun c_7 => ?_) (fun c_7 => ?_)
  · have hw := hwt c_7
    refine j_iconst X dX12_best_21 ?_
    exact k_ir X rfl h hw dX12_best_22
  · have hw := hwf c_7
    refine lv_aload_n X.1 X.2.1 dX12_best_13 rfl (lv_at hl 0 rfl) ?_
    refine lv_iload_n X.1 X.2.1 dX12_best_14 rfl (lv_at hl 1 rfl) ?_
    refine k_i h (r_V (C := RX12) (ci := 12) (As := [.int (iv x1)]) (rest := []) X h (c_X12_lays_ l D ct ad L φ N0 σ_2 x1 _ hw) rfl rfl ⟨Nat.le_of_ble_eq_true rfl, Nat.le_of_ble_eq_true rfl⟩ kw_2308 kw_2310 kw_102 kw_129 kw_2311 ⟨rfl, pd_X12_lays_⟩ (hF.1 12 rfl).1 rfl rfl rfl hl.1 rfl (Nat.le_of_ble_eq_true rfl) ⟨Nat.le_of_ble_eq_true rfl, Nat.le_of_ble_eq_true rfl⟩ dX12_best_15) (fun r_6 σ_5 H locs hw h => ?_)
    refine lv_goto (tgt := 22) X.1 X.2.1 dX12_best_18 (by decide) ?_
    exact k_ir X rfl h hw dX12_best_22
end
section
variable {p : Program} {l : Launch} {e : Env} {s : State} {m : MethodId} {args : Array Value} {below : List Frame} {meth : Method} {c : Code} {D : va_G} {ct : Nat → ClassId} {ad : Nat → Nat → Nat} {L : List (Nat × Nat)} {φ : Nat → Nat → Nat → Bool} {N0 : Nat}
variable {Q : Int → St → Prop}
theorem pd_X12_board : yX12_board.cls ≠ "java/lang/invoke/MethodHandle" ∧ yX12_board.cls ≠ "java/lang/invoke/VarHandle" ∧ (parseMethodDescriptor yX12_board.desc).map (fun d => d.parameters.length) = some 2 := by decide +kernel
set_option maxRecDepth 100000 in
set_option maxHeartbeats 4000000 in
theorem c_X12_board (l : Launch) (D : va_G) (ct : Nat → ClassId) (ad : Nat → Nat → Nat) (L : List (Nat × Nat)) (φ : Nat → Nat → Nat → Bool) (N0 : Nat) (σ : St) (x1 : Int) (x2 : Int) (Q : Int → St → Prop) (hw : wp_X12_board σ x1 x2 Q) : Met l yX12_board (.code yX12_board cX12_board 3 (some .int) :: gw) ({ frames := 3, cells := 0, slots := 0, locals := 64 } : Room) (Pm D ct ad L φ N0 σ [.ref (ad 12 0), .int (iv x1), .int (iv x2)]) (Qi D ct ad L φ N0 Q) 0 0 (AA N0) := by
  refine m_of (by decide) (fun p e s m below meth c X hnm h => ?_)
  have hF := X.2.2.2.2.2.2.2.2.1
  have hl := lv_entry ([.ref (ad 12 0), .int (iv x1), .int (iv x2)]) (n := 3) (Nat.le_of_ble_eq_true rfl)
  rw [lg_entry_eq]
  generalize (lg_sl ([.ref (ad 12 0), .int (iv x1), .int (iv x2)]) ++ List.replicate (3 - (lg_sl ([.ref (ad 12 0), .int (iv x1), .int (iv x2)])).length) Slot.unset).toArray = ls at hl ⊢
  have hl : lv_has ls 3 [(0, .ref (ad 12 0)), (1, .int (iv x1)), (2, .int (iv x2))] := hl
  have h : Hs D ct ad L φ N0 s.heap σ s.heap [] := h
  unfold wp_X12_board at hw
  refine lv_aload_n X.1 X.2.1 dX12_board_0 rfl (lv_at hl 0 rfl) ?_
  refine j_iconst X dX12_board_1 ?_
  refine r_put (ci := 12) X inw_12 tyX12 tyX12_ok nmX12 h (hF.1 12 rfl).1 rfl rfl 0 (by decide) kw_1638 rfl rfl rfl (Nat.le_of_ble_eq_true rfl) rfl rfl dX12_board_2 (fun H locs h => ?_)
  obtain ⟨σ_1, eσ_1⟩ : ∃ z : St, z = st σ 12 0 0 0 := ⟨_, rfl⟩
  rw [← eσ_1] at h
  have hw := hw σ_1 eσ_1
  refine lv_aload_n X.1 X.2.1 dX12_board_5 rfl (lv_at hl 0 rfl) ?_
  refine lv_iload_n X.1 X.2.1 dX12_board_6 rfl (lv_at hl 1 rfl) ?_
  refine k_i h (r_V (C := RX12) (ci := 12) (As := [.int (iv x1)]) (rest := []) X h (c_X12_isInPond l D ct ad L φ N0 σ_1 x1 _ hw) rfl rfl ⟨Nat.le_of_ble_eq_true rfl, Nat.le_of_ble_eq_true rfl⟩ kw_2304 kw_2306 kw_101 kw_129 kw_2307 ⟨rfl, pd_X12_isInPond⟩ (hF.1 12 rfl).1 rfl rfl rfl hl.1 rfl (Nat.le_of_ble_eq_true rfl) ⟨Nat.le_of_ble_eq_true rfl, Nat.le_of_ble_eq_true rfl⟩ dX12_board_7) (fun r_3 σ_2 H locs hw h => ?_)
  obtain ⟨g_4, hwt, hwf⟩ := hw
  refine j_if_eq (tgt := 29) X g_4 dX12_board_10 (by decide) (fun c_15 => ?_) (fun c_15 => ?_)
  · have hw := hwt c_15
    refine j_iconst X dX12_board_29 ?_
    exact k_ir X rfl h hw dX12_board_30
  · have hw := hwf c_15
    refine lv_iload_n X.1 X.2.1 dX12_board_13 rfl (lv_at hl 2 rfl) ?_
    refine j_iconst X dX12_board_14 ?_
    refine lv_aload_n X.1 X.2.1 dX12_board_15 rfl (lv_at hl 0 rfl) ?_
    refine r_getR (ci := 12) X inw_12 h (hF.1 12 rfl).1 rfl rfl 21 (by decide) kw_1659 rfl ((hF.1 12 rfl).2 21) dX12_board_16 ?_
    refine lv_iload_n X.1 X.2.1 dX12_board_19 rfl (lv_at hl 1 rfl) ?_
    obtain ⟨g_5, g_6, hw⟩ := hw
    refine r_iald (n := 300) X h (hF.1 98 rfl).1 rfl (by decide) g_5 g_6 dX12_board_20 ?_
    refine j_iconst X dX12_board_21 ?_
    refine j_isub X dX12_board_22 ?_
    refine k_i h (r_S (As := [.int (iv x2), .int (iv 0), .int (iv ((σ_2 98 0 (Int.toNat x1)) - 1))]) (rest := []) X h (c_X12_within l D ct ad L φ N0 σ_2 x2 0 ((σ_2 98 0 (Int.toNat x1)) - 1) _ hw) rfl rfl ⟨Nat.le_of_ble_eq_true rfl, Nat.le_of_ble_eq_true rfl⟩ kw_1959 kw_1960 kw_129 kw_1961 pd_X12_within rfl hl.1 rfl (Nat.le_of_ble_eq_true rfl) ⟨Nat.le_of_ble_eq_true rfl, Nat.le_of_ble_eq_true rfl⟩ dX12_board_23) (fun r_8 σ_7 H locs hw h => ?_)
    obtain ⟨g_9, hwt, hwf⟩ := hw
    refine j_if_ne (tgt := 31) X g_9 dX12_board_26 (by decide) (fun c_14 => ?_) (fun c_14 => ?_)
    · have hw := hwt c_14
      refine lv_aload_n X.1 X.2.1 dX12_board_31 rfl (lv_at hl 0 rfl) ?_
      refine lv_iload_n X.1 X.2.1 dX12_board_32 rfl (lv_at hl 1 rfl) ?_
      refine k_i h (r_V (C := RX12) (ci := 12) (As := [.int (iv x1)]) (rest := []) X h (c_X12_lays_ l D ct ad L φ N0 σ_7 x1 _ hw) rfl rfl ⟨Nat.le_of_ble_eq_true rfl, Nat.le_of_ble_eq_true rfl⟩ kw_2308 kw_2310 kw_102 kw_129 kw_2311 ⟨rfl, pd_X12_lays_⟩ (hF.1 12 rfl).1 rfl rfl rfl hl.1 rfl (Nat.le_of_ble_eq_true rfl) ⟨Nat.le_of_ble_eq_true rfl, Nat.le_of_ble_eq_true rfl⟩ dX12_board_33) (fun r_11 σ_10 H locs hw h => ?_)
      refine lv_pop X.1 X.2.1 dX12_board_36 rfl ?_
      refine lv_aload_n X.1 X.2.1 dX12_board_37 rfl (lv_at hl 0 rfl) ?_
      refine r_getR (ci := 12) X inw_12 h (hF.1 12 rfl).1 rfl rfl 80 (by decide) kw_1718 rfl ((hF.1 12 rfl).2 80) dX12_board_38 ?_
      refine lv_iload_n X.1 X.2.1 dX12_board_41 rfl (lv_at hl 2 rfl) ?_
      obtain ⟨g_12, g_13, hw⟩ := hw
      refine r_iald (n := 40) X h (hF.1 140 rfl).1 rfl (by decide) g_12 g_13 dX12_board_42 ?_
      exact k_ir X rfl h hw dX12_board_43
    · have hw := hwf c_14
      refine j_iconst X dX12_board_29 ?_
      exact k_ir X rfl h hw dX12_board_30
end
section
variable {p : Program} {l : Launch} {e : Env} {s : State} {m : MethodId} {args : Array Value} {below : List Frame} {meth : Method} {c : Code} {D : va_G} {ct : Nat → ClassId} {ad : Nat → Nat → Nat} {L : List (Nat × Nat)} {φ : Nat → Nat → Nat → Bool} {N0 : Nat}
variable {Q : Int → St → Prop}
set_option maxRecDepth 100000 in
set_option maxHeartbeats 4000000 in
theorem lb_X12_saw_115 (X : Cx p s m meth c args cX12_saw 5 (some .int) RX12 D ct L φ N0) (σ : St) (x1 : Int) (x2 : Int) (H : Heap) (locs : List Loc) (ls : Array Slot) (hw : wp_X12_saw_115 Q σ x1 x2) (h : Hs D ct ad L φ N0 s.heap σ H locs) (hl : lv_has ls 5 [(0, .ref (ad 12 0)), (1, .int (iv x1)), (2, .int (iv x2))]) : W p l e ({ frames := 3, cells := 0, slots := 0, locals := 64 } : Room) s m args below meth c H locs 0 0 (MQ below (Qi D ct ad L φ N0 Q) args s 0 0 (AA N0)) (F0 m 115 ls []) := by
  have hF := X.2.2.2.2.2.2.2.2.1
  unfold wp_X12_saw_115 at hw
  refine lv_aload_n X.1 X.2.1 dX12_saw_115 rfl (lv_at hl 0 rfl) ?_
  refine lv_iload_n X.1 X.2.1 dX12_saw_116 rfl (lv_at hl 1 rfl) ?_
  refine j_iconst X dX12_saw_117 ?_
  refine k_v h (r_V (C := RX12) (ci := 12) (As := [.int (iv x1), .int (iv 2)]) (rest := []) X h (c_X12_becomes l D ct ad L φ N0 σ x1 2 _ hw) rfl rfl ⟨Nat.le_of_ble_eq_true rfl, Nat.le_of_ble_eq_true rfl⟩ kw_2242 kw_2244 kw_96 kw_129 kw_2245 ⟨rfl, pd_X12_becomes⟩ (hF.1 12 rfl).1 rfl rfl rfl hl.1 rfl (Nat.le_of_ble_eq_true rfl) ⟨Nat.le_of_ble_eq_true rfl, Nat.le_of_ble_eq_true rfl⟩ dX12_saw_118) (fun σ_1 H locs hw h => ?_)
  refine lv_iload_n X.1 X.2.1 dX12_saw_121 rfl (lv_at hl 2 rfl) ?_
  exact k_ir X rfl h hw dX12_saw_122
set_option maxRecDepth 100000 in
set_option maxHeartbeats 4000000 in
theorem lb_X12_saw_109 (X : Cx p s m meth c args cX12_saw 5 (some .int) RX12 D ct L φ N0) {K25 : St → Int → Int → Int → Prop} {K115 : St → Int → Int → Prop} (hK25 : ∀ (σ : St) (x1 : Int) (x2 : Int) (x3 : Int) (H : Heap) (locs : List Loc) (ls : Array Slot), K25 σ x1 x2 x3 → Hs D ct ad L φ N0 s.heap σ H locs → lv_has ls 5 [(0, .ref (ad 12 0)), (1, .int (iv x1)), (2, .int (iv x2)), (3, .int (iv x3))] → W p l e ({ frames := 3, cells := 0, slots := 0, locals := 64 } : Room) s m args below meth c H locs 0 0 (MQ below (Qi D ct ad L φ N0 Q) args s 0 0 (AA N0)) (F0 m 25 ls [])) (hK115 : ∀ (σ : St) (x1 : Int) (x2 : Int) (H : Heap) (locs : List Loc) (ls : Array Slot), K115 σ x1 x2 → Hs D ct ad L φ N0 s.heap σ H locs → lv_has ls 5 [(0, .ref (ad 12 0)), (1, .int (iv x1)), (2, .int (iv x2))] → W p l e ({ frames := 3, cells := 0, slots := 0, locals := 64 } : Room) s m args below meth c H locs 0 0 (MQ below (Qi D ct ad L φ N0 Q) args s 0 0 (AA N0)) (F0 m 115 ls [])) (σ : St) (x1 : Int) (x2 : Int) (x3 : Int) (H : Heap) (locs : List Loc) (ls : Array Slot) (hw : wp_X12_saw_109 K25 K115 Q σ x1 x2 x3) (h : Hs D ct ad L φ N0 s.heap σ H locs) (hl : lv_has ls 5 [(0, .ref (ad 12 0)), (1, .int (iv x1)), (2, .int (iv x2)), (3, .int (iv x3))]) : W p l e ({ frames := 3, cells := 0, slots := 0, locals := 64 } : Room) s m args below meth c H locs 0 0 (MQ below (Qi D ct ad L φ N0 Q) args s 0 0 (AA N0)) (F0 m 109 ls []) := by
  have hF := X.2.2.2.2.2.2.2.2.1
  unfold wp_X12_saw_109 at hw
  refine j_iinc (kk9 := 3) (lv' := [(3, .int (iv (x3 + 1))), (0, .ref (ad 12 0)), (1, .int (iv x1)), (2, .int (iv x2))]) X dX12_saw_109 hl rfl (by decide) rfl (fun ls hl => ?_)
  refine lv_goto (tgt := 25) X.1 X.2.1 dX12_saw_112 (by decide) ?_
  exact hK25 σ x1 x2 (x3 + 1) _ _ _ hw h (lv_sub hl [1, 2, 3, 0] rfl)
set_option maxRecDepth 100000 in
set_option maxHeartbeats 4000000 in
theorem lb_X12_saw_25 (X : Cx p s m meth c args cX12_saw 5 (some .int) RX12 D ct L φ N0) {K115 : St → Int → Int → Prop} (hK115 : ∀ (σ : St) (x1 : Int) (x2 : Int) (H : Heap) (locs : List Loc) (ls : Array Slot), K115 σ x1 x2 → Hs D ct ad L φ N0 s.heap σ H locs → lv_has ls 5 [(0, .ref (ad 12 0)), (1, .int (iv x1)), (2, .int (iv x2))] → W p l e ({ frames := 3, cells := 0, slots := 0, locals := 64 } : Room) s m args below meth c H locs 0 0 (MQ below (Qi D ct ad L φ N0 Q) args s 0 0 (AA N0)) (F0 m 115 ls [])) : ∀ (n : Nat) (σ : St) (x1 : Int) (x2 : Int) (x3 : Int) (H : Heap) (locs : List Loc) (ls : Array Slot), wp_X12_saw_25 K115 Q n σ x1 x2 x3 → Hs D ct ad L φ N0 s.heap σ H locs → lv_has ls 5 [(0, .ref (ad 12 0)), (1, .int (iv x1)), (2, .int (iv x2)), (3, .int (iv x3))] → W p l e ({ frames := 3, cells := 0, slots := 0, locals := 64 } : Room) s m args below meth c H locs 0 0 (MQ below (Qi D ct ad L φ N0 Q) args s 0 0 (AA N0)) (F0 m 25 ls []) := by
  have hF := X.2.2.2.2.2.2.2.2.1
  intro n
  induction n with
  | zero => intro σ x1 x2 x3 H locs ls hw; exact hw.elim
  | succ n ih =>
    intro σ x1 x2 x3 H locs ls hw h hl
    unfold wp_X12_saw_25 at hw
    refine lv_iload_n X.1 X.2.1 dX12_saw_25 rfl (lv_at hl 3 rfl) ?_
    refine lv_aload_n X.1 X.2.1 dX12_saw_26 rfl (lv_at hl 0 rfl) ?_
    refine r_getR (ci := 12) X inw_12 h (hF.1 12 rfl).1 rfl rfl 21 (by decide) kw_1659 rfl ((hF.1 12 rfl).2 21) dX12_saw_27 ?_
    refine lv_iload_n X.1 X.2.1 dX12_saw_30 rfl (lv_at hl 1 rfl) ?_
    obtain ⟨g_2, g_3, hw⟩ := hw
    refine r_iald (n := 300) X h (hF.1 98 rfl).1 rfl (by decide) g_2 g_3 dX12_saw_31 ?_
    obtain ⟨g_4, g_5, hwt, hwf⟩ := hw
    refine j_cmp_ge (tgt := 115) X g_4 g_5 dX12_saw_32 (by decide) (fun c_28 => ?_) (fun c_28 => ?_)
    · have hw := hwt c_28
      exact hK115 σ x1 x2 _ _ _ hw h (lv_sub hl [0, 1, 2] rfl)
    · have hw := hwf c_28
      refine lv_aload_n X.1 X.2.1 dX12_saw_35 rfl (lv_at hl 0 rfl) ?_
      refine r_getR (ci := 12) X inw_12 h (hF.1 12 rfl).1 rfl rfl 80 (by decide) kw_1718 rfl ((hF.1 12 rfl).2 80) dX12_saw_36 ?_
      refine lv_iload_n X.1 X.2.1 dX12_saw_39 rfl (lv_at hl 3 rfl) ?_
      obtain ⟨g_6, g_7, hw⟩ := hw
      refine r_iald (n := 40) X h (hF.1 140 rfl).1 rfl (by decide) g_6 g_7 dX12_saw_40 ?_
      refine j_bind (fun v_8 ev_8 => ?_)
      have hw := hw v_8 ev_8
      refine lv_istore (lv' := [(4, .int (iv v_8)), (0, .ref (ad 12 0)), (1, .int (iv x1)), (2, .int (iv x2)), (3, .int (iv x3))]) X.1 X.2.1 dX12_saw_41 hl (by decide) rfl (fun ls hl => ?_)
      refine lv_iload X.1 X.2.1 dX12_saw_43 (lv_at hl 0 rfl) ?_
      obtain ⟨g_9, hwt, hwf⟩ := hw
      refine j_if_ge (tgt := 51) X g_9 dX12_saw_45 (by decide) (fun c_27 => ?_) (fun c_27 => ?_)
      · have hw := hwt c_27
        refine j_iinc (kk9 := 3) (lv' := [(2, .int (iv (x2 + 1))), (4, .int (iv v_8)), (0, .ref (ad 12 0)), (1, .int (iv x1)), (3, .int (iv x3))]) X dX12_saw_51 hl rfl (by decide) rfl (fun ls hl => ?_)
        refine lv_aload_n X.1 X.2.1 dX12_saw_54 rfl (lv_at hl 2 rfl) ?_
        refine r_getR (ci := 12) X inw_12 h (hF.1 12 rfl).1 rfl rfl 74 (by decide) kw_1712 rfl ((hF.1 12 rfl).2 74) dX12_saw_55 ?_
        refine lv_iload X.1 X.2.1 dX12_saw_58 (lv_at hl 1 rfl) ?_
        obtain ⟨g_10, g_11, hw⟩ := hw
        refine r_iald (n := 30) X h (hF.1 135 rfl).1 rfl (by decide) g_10 g_11 dX12_saw_60 ?_
        obtain ⟨g_12, hwt, hwf⟩ := hw
        refine j_if_ne (tgt := 77) X g_12 dX12_saw_61 (by decide) (fun c_26 => ?_) (fun c_26 => ?_)
        · have hw := hwt c_26
          refine lv_aload_n X.1 X.2.1 dX12_saw_77 rfl (lv_at hl 2 rfl) ?_
          refine r_getR (ci := 12) X inw_12 h (hF.1 12 rfl).1 rfl rfl 74 (by decide) kw_1712 rfl ((hF.1 12 rfl).2 74) dX12_saw_78 ?_
          refine lv_iload X.1 X.2.1 dX12_saw_81 (lv_at hl 1 rfl) ?_
          refine lv_dup2_11 X.1 X.2.1 dX12_saw_83 rfl rfl ?_
          obtain ⟨g_13, g_14, hw⟩ := hw
          refine r_iald (n := 30) X h (hF.1 135 rfl).1 rfl (by decide) g_13 g_14 dX12_saw_84 ?_
          refine j_iconst X dX12_saw_85 ?_
          refine j_isub X dX12_saw_86 ?_
          obtain ⟨g_15, g_16, hw⟩ := hw
          refine r_iast (n := 30) X h (hF.1 135 rfl).1 (fun _ => rfl) (by decide) g_15 g_16 rfl dX12_saw_87 (fun H locs h => ?_)
          obtain ⟨σ_17, eσ_17⟩ : ∃ z : St, z = st σ 135 0 (Int.toNat v_8) ((σ 135 0 (Int.toNat v_8)) - 1) := ⟨_, rfl⟩
          rw [← eσ_17] at h
          have hw := hw σ_17 eσ_17
          refine lv_aload_n X.1 X.2.1 dX12_saw_88 rfl (lv_at hl 2 rfl) ?_
          refine r_getR (ci := 12) X inw_12 h (hF.1 12 rfl).1 rfl rfl 74 (by decide) kw_1712 rfl ((hF.1 12 rfl).2 74) dX12_saw_89 ?_
          refine lv_iload X.1 X.2.1 dX12_saw_92 (lv_at hl 1 rfl) ?_
          obtain ⟨g_18, g_19, hw⟩ := hw
          refine r_iald (n := 30) X h (hF.1 135 rfl).1 rfl (by decide) g_18 g_19 dX12_saw_94 ?_
          obtain ⟨g_20, hwt, hwf⟩ := hw
          refine j_if_ne (tgt := 109) X g_20 dX12_saw_95 (by decide) (fun c_24 => ?_) (fun c_24 => ?_)
          · have hw := hwt c_24
            exact lb_X12_saw_109 X ih hK115 σ_17 x1 (x2 + 1) x3 _ _ _ hw h (lv_sub hl [2, 3, 0, 4] rfl)
          · have hw := hwf c_24
            refine lv_aload_n X.1 X.2.1 dX12_saw_98 rfl (lv_at hl 2 rfl) ?_
            refine r_getR (ci := 12) X inw_12 h (hF.1 12 rfl).1 rfl rfl 77 (by decide) kw_1715 rfl ((hF.1 12 rfl).2 77) dX12_saw_99 ?_
            refine lv_iload X.1 X.2.1 dX12_saw_102 (lv_at hl 1 rfl) ?_
            refine lv_aload_n X.1 X.2.1 dX12_saw_104 rfl (lv_at hl 2 rfl) ?_
            refine r_get (ci := 12) X inw_12 h (hF.1 12 rfl).1 rfl rfl 1 (by decide) kw_1639 rfl dX12_saw_105 ?_
            obtain ⟨g_21, g_22, hw⟩ := hw
            refine r_iast (n := 30) X h (hF.1 138 rfl).1 (fun _ => rfl) (by decide) g_21 g_22 rfl dX12_saw_108 (fun H locs h => ?_)
            obtain ⟨σ_23, eσ_23⟩ : ∃ z : St, z = st σ_17 138 0 (Int.toNat v_8) (σ_17 12 0 1) := ⟨_, rfl⟩
            rw [← eσ_23] at h
            have hw := hw σ_23 eσ_23
            exact lb_X12_saw_109 X ih hK115 σ_23 x1 (x2 + 1) x3 _ _ _ hw h (lv_sub hl [2, 3, 0, 4] rfl)
        · have hw := hwf c_26
          refine lv_aload_n X.1 X.2.1 dX12_saw_64 rfl (lv_at hl 2 rfl) ?_
          refine lv_dup X.1 X.2.1 dX12_saw_65 rfl ?_
          refine r_get (ci := 12) X inw_12 h (hF.1 12 rfl).1 rfl rfl 78 (by decide) kw_1716 rfl dX12_saw_66 ?_
          refine j_iconst X dX12_saw_69 ?_
          refine j_iadd X dX12_saw_70 ?_
          refine r_put (ci := 12) X inw_12 tyX12 tyX12_ok nmX12 h (hF.1 12 rfl).1 rfl rfl 78 (by decide) kw_1716 rfl rfl rfl (Nat.le_of_ble_eq_true rfl) rfl rfl dX12_saw_71 (fun H locs h => ?_)
          obtain ⟨σ_25, eσ_25⟩ : ∃ z : St, z = st σ 12 0 78 ((σ 12 0 78) + 1) := ⟨_, rfl⟩
          rw [← eσ_25] at h
          have hw := hw σ_25 eσ_25
          refine lv_goto (tgt := 109) X.1 X.2.1 dX12_saw_74 (by decide) ?_
          exact lb_X12_saw_109 X ih hK115 σ_25 x1 (x2 + 1) x3 _ _ _ hw h (lv_sub hl [2, 3, 0, 4] rfl)
      · have hw := hwf c_27
        refine lv_goto (tgt := 109) X.1 X.2.1 dX12_saw_48 (by decide) ?_
        exact lb_X12_saw_109 X ih hK115 σ x1 x2 x3 _ _ _ hw h (lv_sub hl [1, 2, 3, 4] rfl)
theorem pd_X12_saw : yX12_saw.cls ≠ "java/lang/invoke/MethodHandle" ∧ yX12_saw.cls ≠ "java/lang/invoke/VarHandle" ∧ (parseMethodDescriptor yX12_saw.desc).map (fun d => d.parameters.length) = some 1 := by decide +kernel
set_option maxRecDepth 100000 in
set_option maxHeartbeats 4000000 in
theorem c_X12_saw (l : Launch) (D : va_G) (ct : Nat → ClassId) (ad : Nat → Nat → Nat) (L : List (Nat × Nat)) (φ : Nat → Nat → Nat → Bool) (N0 : Nat) (σ : St) (x1 : Int) (Q : Int → St → Prop) (hw : wp_X12_saw σ x1 Q) : Met l yX12_saw (.code yX12_saw cX12_saw 5 (some .int) :: gw) ({ frames := 3, cells := 0, slots := 0, locals := 64 } : Room) (Pm D ct ad L φ N0 σ [.ref (ad 12 0), .int (iv x1)]) (Qi D ct ad L φ N0 Q) 0 0 (AA N0) := by
  refine m_of (by decide) (fun p e s m below meth c X hnm h => ?_)
  have hF := X.2.2.2.2.2.2.2.2.1
  have hl := lv_entry ([.ref (ad 12 0), .int (iv x1)]) (n := 5) (Nat.le_of_ble_eq_true rfl)
  rw [lg_entry_eq]
  generalize (lg_sl ([.ref (ad 12 0), .int (iv x1)]) ++ List.replicate (5 - (lg_sl ([.ref (ad 12 0), .int (iv x1)])).length) Slot.unset).toArray = ls at hl ⊢
  have hl : lv_has ls 5 [(0, .ref (ad 12 0)), (1, .int (iv x1))] := hl
  have h : Hs D ct ad L φ N0 s.heap σ s.heap [] := h
  unfold wp_X12_saw at hw
  refine lv_aload_n X.1 X.2.1 dX12_saw_0 rfl (lv_at hl 0 rfl) ?_
  refine j_iconst X dX12_saw_1 ?_
  refine r_put (ci := 12) X inw_12 tyX12 tyX12_ok nmX12 h (hF.1 12 rfl).1 rfl rfl 0 (by decide) kw_1638 rfl rfl rfl (Nat.le_of_ble_eq_true rfl) rfl rfl dX12_saw_2 (fun H locs h => ?_)
  obtain ⟨σ_29, eσ_29⟩ : ∃ z : St, z = st σ 12 0 0 0 := ⟨_, rfl⟩
  rw [← eσ_29] at h
  have hw := hw σ_29 eσ_29
  refine lv_aload_n X.1 X.2.1 dX12_saw_5 rfl (lv_at hl 0 rfl) ?_
  refine lv_iload_n X.1 X.2.1 dX12_saw_6 rfl (lv_at hl 1 rfl) ?_
  refine k_i h (r_V (C := RX12) (ci := 12) (As := [.int (iv x1)]) (rest := []) X h (c_X12_isInPond l D ct ad L φ N0 σ_29 x1 _ hw) rfl rfl ⟨Nat.le_of_ble_eq_true rfl, Nat.le_of_ble_eq_true rfl⟩ kw_2304 kw_2306 kw_101 kw_129 kw_2307 ⟨rfl, pd_X12_isInPond⟩ (hF.1 12 rfl).1 rfl rfl rfl hl.1 rfl (Nat.le_of_ble_eq_true rfl) ⟨Nat.le_of_ble_eq_true rfl, Nat.le_of_ble_eq_true rfl⟩ dX12_saw_7) (fun r_31 σ_30 H locs hw h => ?_)
  obtain ⟨g_32, hwt, hwf⟩ := hw
  refine j_if_ne (tgt := 15) X g_32 dX12_saw_10 (by decide) (fun c_35 => ?_) (fun c_35 => ?_)
  · have hw := hwt c_35
    refine lv_aload_n X.1 X.2.1 dX12_saw_15 rfl (lv_at hl 0 rfl) ?_
    refine lv_iload_n X.1 X.2.1 dX12_saw_16 rfl (lv_at hl 1 rfl) ?_
    refine k_i h (r_V (C := RX12) (ci := 12) (As := [.int (iv x1)]) (rest := []) X h (c_X12_lays_ l D ct ad L φ N0 σ_30 x1 _ hw) rfl rfl ⟨Nat.le_of_ble_eq_true rfl, Nat.le_of_ble_eq_true rfl⟩ kw_2308 kw_2310 kw_102 kw_129 kw_2311 ⟨rfl, pd_X12_lays_⟩ (hF.1 12 rfl).1 rfl rfl rfl hl.1 rfl (Nat.le_of_ble_eq_true rfl) ⟨Nat.le_of_ble_eq_true rfl, Nat.le_of_ble_eq_true rfl⟩ dX12_saw_17) (fun r_34 σ_33 H locs hw h => ?_)
    refine lv_pop X.1 X.2.1 dX12_saw_20 rfl ?_
    refine j_iconst X dX12_saw_21 ?_
    refine lv_istore_n (lv' := [(2, .int (iv 0)), (0, .ref (ad 12 0)), (1, .int (iv x1))]) X.1 X.2.1 dX12_saw_22 rfl hl (by decide) rfl (fun ls hl => ?_)
    refine j_iconst X dX12_saw_23 ?_
    refine lv_istore_n (lv' := [(3, .int (iv 0)), (2, .int (iv 0)), (0, .ref (ad 12 0)), (1, .int (iv x1))]) X.1 X.2.1 dX12_saw_24 rfl hl (by decide) rfl (fun ls hl => ?_)
    exact hw.elim (fun n25 hw => lb_X12_saw_25 X (lb_X12_saw_115 X) n25 σ_33 x1 0 0 _ _ _ hw h (lv_sub hl [2, 3, 1, 0] rfl))
  · have hw := hwf c_35
    refine j_iconst X dX12_saw_13 ?_
    exact k_ir X rfl h hw dX12_saw_14
end
section
variable {p : Program} {l : Launch} {e : Env} {s : State} {m : MethodId} {args : Array Value} {below : List Frame} {meth : Method} {c : Code} {D : va_G} {ct : Nat → ClassId} {ad : Nat → Nat → Nat} {L : List (Nat × Nat)} {φ : Nat → Nat → Nat → Bool} {N0 : Nat}
variable {Q : Int → St → Prop}
set_option maxRecDepth 100000 in
set_option maxHeartbeats 4000000 in
theorem lb_X12_orderOf_54 (X : Cx p s m meth c args cX12_orderOf 4 (some .int) RX12 D ct L φ N0) (σ : St) (x1 : Int) (x2 : Int) (x3 : Int) (y0 : Int) (H : Heap) (locs : List Loc) (ls : Array Slot) (hw : wp_X12_orderOf_54 Q σ x1 x2 x3 y0) (h : Hs D ct ad L φ N0 s.heap σ H locs) (hl : lv_has ls 4 [(0, .ref (ad 12 0)), (1, .int (iv x1)), (2, .int (iv x2)), (3, .int (iv x3))]) : W p l e ({ frames := 1, cells := 0, slots := 0, locals := 22 } : Room) s m args below meth c H locs 0 0 (MQ below (Qi D ct ad L φ N0 Q) args s 0 0 (AA N0)) (F0 m 54 ls [.int (iv y0), .ref (ad 12 0)]) := by
  have hF := X.2.2.2.2.2.2.2.2.1
  unfold wp_X12_orderOf_54 at hw
  refine r_put (ci := 12) X inw_12 tyX12 tyX12_ok nmX12 h (hF.1 12 rfl).1 rfl rfl 0 (by decide) kw_1638 rfl rfl rfl (Nat.le_of_ble_eq_true rfl) rfl rfl dX12_orderOf_54 (fun H locs h => ?_)
  obtain ⟨σ_1, eσ_1⟩ : ∃ z : St, z = st σ 12 0 0 y0 := ⟨_, rfl⟩
  rw [← eσ_1] at h
  have hw := hw σ_1 eσ_1
  refine lv_iload_n X.1 X.2.1 dX12_orderOf_57 rfl (lv_at hl 3 rfl) ?_
  obtain ⟨g_2, hwt, hwf⟩ := hw
  refine j_if_ne (tgt := 65) X g_2 dX12_orderOf_58 (by decide) (fun c_15 => ?_) (fun c_15 => ?_)
  · have hw := hwt c_15
    refine lv_iload_n X.1 X.2.1 dX12_orderOf_65 rfl (lv_at hl 2 rfl) ?_
    obtain ⟨g_3, hwt, hwf⟩ := hw
    refine j_if_ne (tgt := 78) X g_3 dX12_orderOf_66 (by decide) (fun c_14 => ?_) (fun c_14 => ?_)
    · have hw := hwt c_14
      refine lv_iload_n X.1 X.2.1 dX12_orderOf_78 rfl (lv_at hl 2 rfl) ?_
      refine j_iconst X dX12_orderOf_79 ?_
      obtain ⟨g_4, hwt, hwf⟩ := hw
      refine j_cmp_ne (tgt := 92) X g_4 ⟨by decide, by decide⟩ dX12_orderOf_80 (by decide) (fun c_11 => ?_) (fun c_11 => ?_)
      · have hw := hwt c_11
        refine lv_aload_n X.1 X.2.1 dX12_orderOf_92 rfl (lv_at hl 0 rfl) ?_
        refine r_getR (ci := 12) X inw_12 h (hF.1 12 rfl).1 rfl rfl 76 (by decide) kw_1714 rfl ((hF.1 12 rfl).2 76) dX12_orderOf_93 ?_
        refine lv_iload_n X.1 X.2.1 dX12_orderOf_96 rfl (lv_at hl 1 rfl) ?_
        obtain ⟨g_5, g_6, hw⟩ := hw
        refine r_iald (n := 30) X h (hF.1 137 rfl).1 rfl (by decide) g_5 g_6 dX12_orderOf_97 ?_
        refine lv_aload_n X.1 X.2.1 dX12_orderOf_98 rfl (lv_at hl 0 rfl) ?_
        refine r_getR (ci := 12) X inw_12 h (hF.1 12 rfl).1 rfl rfl 77 (by decide) kw_1715 rfl ((hF.1 12 rfl).2 77) dX12_orderOf_99 ?_
        refine lv_iload_n X.1 X.2.1 dX12_orderOf_102 rfl (lv_at hl 1 rfl) ?_
        obtain ⟨g_7, g_8, hw⟩ := hw
        refine r_iald (n := 30) X h (hF.1 138 rfl).1 rfl (by decide) g_7 g_8 dX12_orderOf_103 ?_
        refine j_isub X dX12_orderOf_104 ?_
        exact k_ir X rfl h hw dX12_orderOf_105
      · have hw := hwf c_11
        refine lv_aload_n X.1 X.2.1 dX12_orderOf_83 rfl (lv_at hl 0 rfl) ?_
        refine r_getR (ci := 12) X inw_12 h (hF.1 12 rfl).1 rfl rfl 77 (by decide) kw_1715 rfl ((hF.1 12 rfl).2 77) dX12_orderOf_84 ?_
        refine lv_iload_n X.1 X.2.1 dX12_orderOf_87 rfl (lv_at hl 1 rfl) ?_
        obtain ⟨g_9, g_10, hw⟩ := hw
        refine r_iald (n := 30) X h (hF.1 138 rfl).1 rfl (by decide) g_9 g_10 dX12_orderOf_88 ?_
        refine lv_goto (tgt := 105) X.1 X.2.1 dX12_orderOf_89 (by decide) ?_
        exact k_ir X rfl h hw dX12_orderOf_105
    · have hw := hwf c_14
      refine lv_aload_n X.1 X.2.1 dX12_orderOf_69 rfl (lv_at hl 0 rfl) ?_
      refine r_getR (ci := 12) X inw_12 h (hF.1 12 rfl).1 rfl rfl 74 (by decide) kw_1712 rfl ((hF.1 12 rfl).2 74) dX12_orderOf_70 ?_
      refine lv_iload_n X.1 X.2.1 dX12_orderOf_73 rfl (lv_at hl 1 rfl) ?_
      obtain ⟨g_12, g_13, hw⟩ := hw
      refine r_iald (n := 30) X h (hF.1 135 rfl).1 rfl (by decide) g_12 g_13 dX12_orderOf_74 ?_
      refine lv_goto (tgt := 105) X.1 X.2.1 dX12_orderOf_75 (by decide) ?_
      exact k_ir X rfl h hw dX12_orderOf_105
  · have hw := hwf c_15
    refine j_iconst X dX12_orderOf_61 ?_
    refine lv_goto (tgt := 105) X.1 X.2.1 dX12_orderOf_62 (by decide) ?_
    exact k_ir X rfl h hw dX12_orderOf_105
set_option maxRecDepth 100000 in
set_option maxHeartbeats 4000000 in
theorem lb_X12_orderOf_43 (X : Cx p s m meth c args cX12_orderOf 4 (some .int) RX12 D ct L φ N0) (σ : St) (x1 : Int) (x2 : Int) (y0 : Int) (H : Heap) (locs : List Loc) (ls : Array Slot) (hw : wp_X12_orderOf_43 Q σ x1 x2 y0) (h : Hs D ct ad L φ N0 s.heap σ H locs) (hl : lv_has ls 4 [(0, .ref (ad 12 0)), (1, .int (iv x1)), (2, .int (iv x2))]) : W p l e ({ frames := 1, cells := 0, slots := 0, locals := 22 } : Room) s m args below meth c H locs 0 0 (MQ below (Qi D ct ad L φ N0 Q) args s 0 0 (AA N0)) (F0 m 43 ls [.int (iv y0)]) := by
  have hF := X.2.2.2.2.2.2.2.2.1
  unfold wp_X12_orderOf_43 at hw
  refine lv_istore_n (lv' := [(3, .int (iv y0)), (0, .ref (ad 12 0)), (1, .int (iv x1)), (2, .int (iv x2))]) X.1 X.2.1 dX12_orderOf_43 rfl hl (by decide) rfl (fun ls hl => ?_)
  refine lv_aload_n X.1 X.2.1 dX12_orderOf_44 rfl (lv_at hl 1 rfl) ?_
  refine lv_iload_n X.1 X.2.1 dX12_orderOf_45 rfl (lv_at hl 0 rfl) ?_
  obtain ⟨g_16, hwt, hwf⟩ := hw
  refine j_if_eq (tgt := 53) X g_16 dX12_orderOf_46 (by decide) (fun c_17 => ?_) (fun c_17 => ?_)
  · have hw := hwt c_17
    refine j_iconst X dX12_orderOf_53 ?_
    exact lb_X12_orderOf_54 X σ x1 x2 y0 1 _ _ _ hw h (lv_sub hl [1, 2, 3, 0] rfl)
  · have hw := hwf c_17
    refine j_iconst X dX12_orderOf_49 ?_
    refine lv_goto (tgt := 54) X.1 X.2.1 dX12_orderOf_50 (by decide) ?_
    exact lb_X12_orderOf_54 X σ x1 x2 y0 0 _ _ _ hw h (lv_sub hl [1, 2, 3, 0] rfl)
set_option maxRecDepth 100000 in
set_option maxHeartbeats 4000000 in
theorem lb_X12_orderOf_42 (X : Cx p s m meth c args cX12_orderOf 4 (some .int) RX12 D ct L φ N0) (σ : St) (x1 : Int) (x2 : Int) (H : Heap) (locs : List Loc) (ls : Array Slot) (hw : wp_X12_orderOf_42 Q σ x1 x2) (h : Hs D ct ad L φ N0 s.heap σ H locs) (hl : lv_has ls 4 [(0, .ref (ad 12 0)), (1, .int (iv x1)), (2, .int (iv x2))]) : W p l e ({ frames := 1, cells := 0, slots := 0, locals := 22 } : Room) s m args below meth c H locs 0 0 (MQ below (Qi D ct ad L φ N0 Q) args s 0 0 (AA N0)) (F0 m 42 ls []) := by
  have hF := X.2.2.2.2.2.2.2.2.1
  unfold wp_X12_orderOf_42 at hw
  refine j_iconst X dX12_orderOf_42 ?_
  exact lb_X12_orderOf_43 X σ x1 x2 0 _ _ _ hw h (lv_sub hl [0, 1, 2] rfl)
set_option maxRecDepth 100000 in
set_option maxHeartbeats 4000000 in
theorem lb_X12_orderOf_38 (X : Cx p s m meth c args cX12_orderOf 4 (some .int) RX12 D ct L φ N0) (σ : St) (x1 : Int) (x2 : Int) (H : Heap) (locs : List Loc) (ls : Array Slot) (hw : wp_X12_orderOf_38 Q σ x1 x2) (h : Hs D ct ad L φ N0 s.heap σ H locs) (hl : lv_has ls 4 [(0, .ref (ad 12 0)), (1, .int (iv x1)), (2, .int (iv x2))]) : W p l e ({ frames := 1, cells := 0, slots := 0, locals := 22 } : Room) s m args below meth c H locs 0 0 (MQ below (Qi D ct ad L φ N0 Q) args s 0 0 (AA N0)) (F0 m 38 ls []) := by
  have hF := X.2.2.2.2.2.2.2.2.1
  unfold wp_X12_orderOf_38 at hw
  refine j_iconst X dX12_orderOf_38 ?_
  refine lv_goto (tgt := 43) X.1 X.2.1 dX12_orderOf_39 (by decide) ?_
  exact lb_X12_orderOf_43 X σ x1 x2 1 _ _ _ hw h (lv_sub hl [0, 1, 2] rfl)
theorem pd_X12_orderOf : yX12_orderOf.cls ≠ "java/lang/invoke/MethodHandle" ∧ yX12_orderOf.cls ≠ "java/lang/invoke/VarHandle" ∧ (parseMethodDescriptor yX12_orderOf.desc).map (fun d => d.parameters.length) = some 2 := by decide +kernel
set_option maxRecDepth 100000 in
set_option maxHeartbeats 4000000 in
theorem c_X12_orderOf (l : Launch) (D : va_G) (ct : Nat → ClassId) (ad : Nat → Nat → Nat) (L : List (Nat × Nat)) (φ : Nat → Nat → Nat → Bool) (N0 : Nat) (σ : St) (x1 : Int) (x2 : Int) (Q : Int → St → Prop) (hw : wp_X12_orderOf σ x1 x2 Q) : Met l yX12_orderOf (.code yX12_orderOf cX12_orderOf 4 (some .int) :: gw) ({ frames := 1, cells := 0, slots := 0, locals := 22 } : Room) (Pm D ct ad L φ N0 σ [.ref (ad 12 0), .int (iv x1), .int (iv x2)]) (Qi D ct ad L φ N0 Q) 0 0 (AA N0) := by
  refine m_of (by decide) (fun p e s m below meth c X hnm h => ?_)
  have hF := X.2.2.2.2.2.2.2.2.1
  have hl := lv_entry ([.ref (ad 12 0), .int (iv x1), .int (iv x2)]) (n := 4) (Nat.le_of_ble_eq_true rfl)
  rw [lg_entry_eq]
  generalize (lg_sl ([.ref (ad 12 0), .int (iv x1), .int (iv x2)]) ++ List.replicate (4 - (lg_sl ([.ref (ad 12 0), .int (iv x1), .int (iv x2)])).length) Slot.unset).toArray = ls at hl ⊢
  have hl : lv_has ls 4 [(0, .ref (ad 12 0)), (1, .int (iv x1)), (2, .int (iv x2))] := hl
  have h : Hs D ct ad L φ N0 s.heap σ s.heap [] := h
  unfold wp_X12_orderOf at hw
  refine lv_iload_n X.1 X.2.1 dX12_orderOf_0 rfl (lv_at hl 1 rfl) ?_
  refine j_iconst X dX12_orderOf_1 ?_
  refine lv_aload_n X.1 X.2.1 dX12_orderOf_2 rfl (lv_at hl 0 rfl) ?_
  refine r_get (ci := 12) X inw_12 h (hF.1 12 rfl).1 rfl rfl 71 (by decide) kw_1709 rfl dX12_orderOf_3 ?_
  refine j_iconst X dX12_orderOf_6 ?_
  refine j_isub X dX12_orderOf_7 ?_
  refine k_i h (r_S (As := [.int (iv x1), .int (iv 0), .int (iv ((σ 12 0 71) - 1))]) (rest := []) X h (c_X12_within l D ct ad L φ N0 σ x1 0 ((σ 12 0 71) - 1) _ hw) rfl rfl ⟨Nat.le_of_ble_eq_true rfl, Nat.le_of_ble_eq_true rfl⟩ kw_1959 kw_1960 kw_129 kw_1961 pd_X12_within rfl hl.1 rfl (Nat.le_of_ble_eq_true rfl) ⟨Nat.le_of_ble_eq_true rfl, Nat.le_of_ble_eq_true rfl⟩ dX12_orderOf_8) (fun r_19 σ_18 H locs hw h => ?_)
  obtain ⟨g_20, hwt, hwf⟩ := hw
  refine j_if_eq (tgt := 42) X g_20 dX12_orderOf_11 (by decide) (fun c_31 => ?_) (fun c_31 => ?_)
  · have hw := hwt c_31
    exact lb_X12_orderOf_42 X σ_18 x1 x2 _ _ _ hw h (lv_sub hl [0, 1, 2] rfl)
  · have hw := hwf c_31
    refine lv_iload_n X.1 X.2.1 dX12_orderOf_14 rfl (lv_at hl 2 rfl) ?_
    refine j_iconst X dX12_orderOf_15 ?_
    refine j_iconst X dX12_orderOf_16 ?_
    refine k_i h (r_S (As := [.int (iv x2), .int (iv 0), .int (iv 2)]) (rest := []) X h (c_X12_within l D ct ad L φ N0 σ_18 x2 0 2 _ hw) rfl rfl ⟨Nat.le_of_ble_eq_true rfl, Nat.le_of_ble_eq_true rfl⟩ kw_1959 kw_1960 kw_129 kw_1961 pd_X12_within rfl hl.1 rfl (Nat.le_of_ble_eq_true rfl) ⟨Nat.le_of_ble_eq_true rfl, Nat.le_of_ble_eq_true rfl⟩ dX12_orderOf_17) (fun r_22 σ_21 H locs hw h => ?_)
    obtain ⟨g_23, hwt, hwf⟩ := hw
    refine j_if_eq (tgt := 42) X g_23 dX12_orderOf_20 (by decide) (fun c_30 => ?_) (fun c_30 => ?_)
    · have hw := hwt c_30
      exact lb_X12_orderOf_42 X σ_21 x1 x2 _ _ _ hw h (lv_sub hl [0, 1, 2] rfl)
    · have hw := hwf c_30
      refine lv_iload_n X.1 X.2.1 dX12_orderOf_23 rfl (lv_at hl 2 rfl) ?_
      refine j_iconst X dX12_orderOf_24 ?_
      obtain ⟨g_24, hwt, hwf⟩ := hw
      refine j_cmp_lt (tgt := 38) X g_24 ⟨by decide, by decide⟩ dX12_orderOf_25 (by decide) (fun c_29 => ?_) (fun c_29 => ?_)
      · have hw := hwt c_29
        exact lb_X12_orderOf_38 X σ_21 x1 x2 _ _ _ hw h (lv_sub hl [0, 1, 2] rfl)
      · have hw := hwf c_29
        refine lv_aload_n X.1 X.2.1 dX12_orderOf_28 rfl (lv_at hl 0 rfl) ?_
        refine r_getR (ci := 12) X inw_12 h (hF.1 12 rfl).1 rfl rfl 77 (by decide) kw_1715 rfl ((hF.1 12 rfl).2 77) dX12_orderOf_29 ?_
        refine lv_iload_n X.1 X.2.1 dX12_orderOf_32 rfl (lv_at hl 1 rfl) ?_
        obtain ⟨g_25, g_26, hw⟩ := hw
        refine r_iald (n := 30) X h (hF.1 138 rfl).1 rfl (by decide) g_25 g_26 dX12_orderOf_33 ?_
        refine j_iconst X dX12_orderOf_34 ?_
        obtain ⟨g_27, hwt, hwf⟩ := hw
        refine j_cmp_eq (tgt := 42) X g_27 ⟨by decide, by decide⟩ dX12_orderOf_35 (by decide) (fun c_28 => ?_) (fun c_28 => ?_)
        · have hw := hwt c_28
          exact lb_X12_orderOf_42 X σ_21 x1 x2 _ _ _ hw h (lv_sub hl [0, 1, 2] rfl)
        · have hw := hwf c_28
          exact lb_X12_orderOf_38 X σ_21 x1 x2 _ _ _ hw h (lv_sub hl [0, 1, 2] rfl)
end
section
variable {p : Program} {l : Launch} {e : Env} {s : State} {m : MethodId} {args : Array Value} {below : List Frame} {meth : Method} {c : Code} {D : va_G} {ct : Nat → ClassId} {ad : Nat → Nat → Nat} {L : List (Nat × Nat)} {φ : Nat → Nat → Nat → Bool} {N0 : Nat}
variable {Q : Int → St → Prop}
set_option maxRecDepth 100000 in
set_option maxHeartbeats 4000000 in
theorem lb_X12_fuel_55 (X : Cx p s m meth c args cX12_fuel 7 (some .int) RX12 D ct L φ N0) (σ : St) (x1 : Int) (x2 : Int) (y0 : Int) (H : Heap) (locs : List Loc) (ls : Array Slot) (hw : wp_X12_fuel_55 Q σ x1 x2 y0) (h : Hs D ct ad L φ N0 s.heap σ H locs) (hl : lv_has ls 7 [(0, .ref (ad 12 0)), (1, .int (iv x1)), (2, .int (iv x2))]) : W p l e ({ frames := 1, cells := 0, slots := 0, locals := 24 } : Room) s m args below meth c H locs 0 0 (MQ below (Qi D ct ad L φ N0 Q) args s 0 0 (AA N0)) (F0 m 55 ls [.int (iv y0)]) := by
  have hF := X.2.2.2.2.2.2.2.2.1
  unfold wp_X12_fuel_55 at hw
  refine lv_istore (lv' := [(6, .int (iv y0)), (0, .ref (ad 12 0)), (1, .int (iv x1)), (2, .int (iv x2))]) X.1 X.2.1 dX12_fuel_55 hl (by decide) rfl (fun ls hl => ?_)
  refine lv_aload_n X.1 X.2.1 dX12_fuel_57 rfl (lv_at hl 1 rfl) ?_
  refine r_getR (ci := 12) X inw_12 h (hF.1 12 rfl).1 rfl rfl 3 (by decide) kw_1641 rfl ((hF.1 12 rfl).2 3) dX12_fuel_58 ?_
  refine lv_iload_n X.1 X.2.1 dX12_fuel_61 rfl (lv_at hl 3 rfl) ?_
  obtain ⟨g_1, g_2, hw⟩ := hw
  refine r_iald (n := 64) X h (hF.1 84 rfl).1 rfl (by decide) g_1 g_2 dX12_fuel_62 ?_
  refine lv_aload_n X.1 X.2.1 dX12_fuel_63 rfl (lv_at hl 1 rfl) ?_
  refine lv_iload_n X.1 X.2.1 dX12_fuel_64 rfl (lv_at hl 3 rfl) ?_
  refine k_i h (r_V (C := RX12) (ci := 12) (As := [.int (iv x2)]) (rest := [.int (iv (σ 84 0 (Int.toNat x2)))]) X h (c_X12_stemsOf l D ct ad L φ N0 σ x2 _ hw) rfl rfl ⟨Nat.le_of_ble_eq_true rfl, Nat.le_of_ble_eq_true rfl⟩ kw_2341 kw_2343 kw_106 kw_129 kw_2344 ⟨rfl, pd_X12_stemsOf⟩ (hF.1 12 rfl).1 rfl rfl rfl hl.1 rfl (Nat.le_of_ble_eq_true rfl) ⟨Nat.le_of_ble_eq_true rfl, Nat.le_of_ble_eq_true rfl⟩ dX12_fuel_65) (fun r_4 σ_3 H locs hw h => ?_)
  refine j_bipush X dX12_fuel_68 (by decide) ?_
  obtain ⟨g_5, hw⟩ := hw
  refine j_idiv X g_5 ⟨by decide, by decide⟩ (by decide) (by decide) dX12_fuel_70 ?_
  refine j_iadd X dX12_fuel_71 ?_
  refine j_iconst X dX12_fuel_72 ?_
  refine lv_aload_n X.1 X.2.1 dX12_fuel_73 rfl (lv_at hl 1 rfl) ?_
  refine lv_aload_n X.1 X.2.1 dX12_fuel_74 rfl (lv_at hl 1 rfl) ?_
  refine r_get (ci := 12) X inw_12 h (hF.1 12 rfl).1 rfl rfl 1 (by decide) kw_1639 rfl dX12_fuel_75 ?_
  refine j_iconst X dX12_fuel_78 ?_
  refine k_i h (r_V (C := RX12) (ci := 12) (As := [.int (iv (σ_3 12 0 1)), .int (iv 2)]) (rest := [.int (iv 5), .int (iv ((σ 84 0 (Int.toNat x2)) + (Int.tdiv r_4 10)))]) X h (c_X12_sky l D ct ad L φ N0 σ_3 (σ_3 12 0 1) 2 _ hw) rfl rfl ⟨Nat.le_of_ble_eq_true rfl, Nat.le_of_ble_eq_true rfl⟩ kw_1988 kw_1990 kw_65 kw_129 kw_1991 ⟨rfl, pd_X12_sky⟩ (hF.1 12 rfl).1 rfl rfl rfl hl.1 rfl (Nat.le_of_ble_eq_true rfl) ⟨Nat.le_of_ble_eq_true rfl, Nat.le_of_ble_eq_true rfl⟩ dX12_fuel_79) (fun r_7 σ_6 H locs hw h => ?_)
  refine j_imul X dX12_fuel_82 ?_
  refine j_iadd X dX12_fuel_83 ?_
  refine j_bipush X dX12_fuel_84 (by decide) ?_
  refine lv_iload X.1 X.2.1 dX12_fuel_86 (lv_at hl 0 rfl) ?_
  refine j_imul X dX12_fuel_88 ?_
  refine j_iadd X dX12_fuel_89 ?_
  refine lv_aload_n X.1 X.2.1 dX12_fuel_90 rfl (lv_at hl 1 rfl) ?_
  refine r_getR (ci := 12) X inw_12 h (hF.1 12 rfl).1 rfl rfl 2 (by decide) kw_1640 rfl ((hF.1 12 rfl).2 2) dX12_fuel_91 ?_
  refine lv_iload_n X.1 X.2.1 dX12_fuel_94 rfl (lv_at hl 3 rfl) ?_
  obtain ⟨g_8, g_9, hw⟩ := hw
  refine r_iald (n := 64) X h (hF.1 83 rfl).1 rfl (by decide) g_8 g_9 dX12_fuel_95 ?_
  refine lv_aload_n X.1 X.2.1 dX12_fuel_96 rfl (lv_at hl 1 rfl) ?_
  refine r_getR (ci := 12) X inw_12 h (hF.1 12 rfl).1 rfl rfl 2 (by decide) kw_1640 rfl ((hF.1 12 rfl).2 2) dX12_fuel_97 ?_
  refine lv_iload_n X.1 X.2.1 dX12_fuel_100 rfl (lv_at hl 2 rfl) ?_
  obtain ⟨g_10, g_11, hw⟩ := hw
  refine r_iald (n := 64) X h (hF.1 83 rfl).1 rfl (by decide) g_10 g_11 dX12_fuel_101 ?_
  obtain ⟨g_12, g_13, hwt, hwf⟩ := hw
  refine j_cmp_le (tgt := 109) X g_12 g_13 dX12_fuel_102 (by decide) (fun c_14 => ?_) (fun c_14 => ?_)
  · have hw := hwt c_14
    refine j_iconst X dX12_fuel_109 ?_
    refine j_iadd X dX12_fuel_110 ?_
    exact k_ir X rfl h hw dX12_fuel_111
  · have hw := hwf c_14
    refine j_iconst X dX12_fuel_105 ?_
    refine lv_goto (tgt := 110) X.1 X.2.1 dX12_fuel_106 (by decide) ?_
    refine j_iadd X dX12_fuel_110 ?_
    exact k_ir X rfl h hw dX12_fuel_111
theorem pd_X12_fuel : yX12_fuel.cls ≠ "java/lang/invoke/MethodHandle" ∧ yX12_fuel.cls ≠ "java/lang/invoke/VarHandle" ∧ (parseMethodDescriptor yX12_fuel.desc).map (fun d => d.parameters.length) = some 3 := by decide +kernel
set_option maxRecDepth 100000 in
set_option maxHeartbeats 4000000 in
theorem c_X12_fuel (l : Launch) (D : va_G) (ct : Nat → ClassId) (ad : Nat → Nat → Nat) (L : List (Nat × Nat)) (φ : Nat → Nat → Nat → Bool) (N0 : Nat) (σ : St) (x1 : Int) (x2 : Int) (x3 : Int) (Q : Int → St → Prop) (hw : wp_X12_fuel σ x1 x2 x3 Q) : Met l yX12_fuel (.code yX12_fuel cX12_fuel 7 (some .int) :: gw) ({ frames := 1, cells := 0, slots := 0, locals := 24 } : Room) (Pm D ct ad L φ N0 σ [.ref (ad 12 0), .int (iv x1), .int (iv x2), .int (iv x3)]) (Qi D ct ad L φ N0 Q) 0 0 (AA N0) := by
  refine m_of (by decide) (fun p e s m below meth c X hnm h => ?_)
  have hF := X.2.2.2.2.2.2.2.2.1
  have hl := lv_entry ([.ref (ad 12 0), .int (iv x1), .int (iv x2), .int (iv x3)]) (n := 7) (Nat.le_of_ble_eq_true rfl)
  rw [lg_entry_eq]
  generalize (lg_sl ([.ref (ad 12 0), .int (iv x1), .int (iv x2), .int (iv x3)]) ++ List.replicate (7 - (lg_sl ([.ref (ad 12 0), .int (iv x1), .int (iv x2), .int (iv x3)])).length) Slot.unset).toArray = ls at hl ⊢
  have hl : lv_has ls 7 [(0, .ref (ad 12 0)), (1, .int (iv x1)), (2, .int (iv x2)), (3, .int (iv x3))] := hl
  have h : Hs D ct ad L φ N0 s.heap σ s.heap [] := h
  unfold wp_X12_fuel at hw
  refine lv_iload_n X.1 X.2.1 dX12_fuel_0 rfl (lv_at hl 2 rfl) ?_
  refine k_i h (r_S (As := [.int (iv x2)]) (rest := []) X h (c_X12_xOf l D ct ad L φ N0 σ x2 _ hw) rfl rfl ⟨Nat.le_of_ble_eq_true rfl, Nat.le_of_ble_eq_true rfl⟩ kw_2158 kw_2159 kw_129 kw_2160 pd_X12_xOf rfl hl.1 rfl (Nat.le_of_ble_eq_true rfl) ⟨Nat.le_of_ble_eq_true rfl, Nat.le_of_ble_eq_true rfl⟩ dX12_fuel_1) (fun r_16 σ_15 H locs hw h => ?_)
  refine lv_iload_n X.1 X.2.1 dX12_fuel_4 rfl (lv_at hl 1 rfl) ?_
  refine k_i h (r_S (As := [.int (iv x1)]) (rest := [.int (iv r_16)]) X h (c_X12_xOf l D ct ad L φ N0 σ_15 x1 _ hw) rfl rfl ⟨Nat.le_of_ble_eq_true rfl, Nat.le_of_ble_eq_true rfl⟩ kw_2158 kw_2159 kw_129 kw_2160 pd_X12_xOf rfl hl.1 rfl (Nat.le_of_ble_eq_true rfl) ⟨Nat.le_of_ble_eq_true rfl, Nat.le_of_ble_eq_true rfl⟩ dX12_fuel_5) (fun r_18 σ_17 H locs hw h => ?_)
  refine j_isub X dX12_fuel_8 ?_
  refine j_bind (fun v_19 ev_19 => ?_)
  have hw := hw v_19 ev_19
  refine lv_istore (lv' := [(4, .int (iv v_19)), (0, .ref (ad 12 0)), (1, .int (iv x1)), (2, .int (iv x2)), (3, .int (iv x3))]) X.1 X.2.1 dX12_fuel_9 hl (by decide) rfl (fun ls hl => ?_)
  refine lv_iload_n X.1 X.2.1 dX12_fuel_11 rfl (lv_at hl 3 rfl) ?_
  refine k_i h (r_S (As := [.int (iv x2)]) (rest := []) X h (c_X12_yOf l D ct ad L φ N0 σ_17 x2 _ hw) rfl rfl ⟨Nat.le_of_ble_eq_true rfl, Nat.le_of_ble_eq_true rfl⟩ kw_2164 kw_2165 kw_129 kw_2166 pd_X12_yOf rfl hl.1 rfl (Nat.le_of_ble_eq_true rfl) ⟨Nat.le_of_ble_eq_true rfl, Nat.le_of_ble_eq_true rfl⟩ dX12_fuel_12) (fun r_21 σ_20 H locs hw h => ?_)
  refine lv_iload_n X.1 X.2.1 dX12_fuel_15 rfl (lv_at hl 2 rfl) ?_
  refine k_i h (r_S (As := [.int (iv x1)]) (rest := [.int (iv r_21)]) X h (c_X12_yOf l D ct ad L φ N0 σ_20 x1 _ hw) rfl rfl ⟨Nat.le_of_ble_eq_true rfl, Nat.le_of_ble_eq_true rfl⟩ kw_2164 kw_2165 kw_129 kw_2166 pd_X12_yOf rfl hl.1 rfl (Nat.le_of_ble_eq_true rfl) ⟨Nat.le_of_ble_eq_true rfl, Nat.le_of_ble_eq_true rfl⟩ dX12_fuel_16) (fun r_23 σ_22 H locs hw h => ?_)
  refine j_isub X dX12_fuel_19 ?_
  refine j_bind (fun v_24 ev_24 => ?_)
  have hw := hw v_24 ev_24
  refine lv_istore (lv' := [(5, .int (iv v_24)), (4, .int (iv v_19)), (0, .ref (ad 12 0)), (1, .int (iv x1)), (2, .int (iv x2)), (3, .int (iv x3))]) X.1 X.2.1 dX12_fuel_20 hl (by decide) rfl (fun ls hl => ?_)
  refine lv_iload_n X.1 X.2.1 dX12_fuel_22 rfl (lv_at hl 5 rfl) ?_
  obtain ⟨g_25, hwt, hwf⟩ := hw
  refine j_if_ne (tgt := 31) X g_25 dX12_fuel_23 (by decide) (fun c_30 => ?_) (fun c_30 => ?_)
  · have hw := hwt c_30
    refine lv_iload_n X.1 X.2.1 dX12_fuel_31 rfl (lv_at hl 5 rfl) ?_
    refine j_iconst X dX12_fuel_32 ?_
    obtain ⟨g_26, hwt, hwf⟩ := hw
    refine j_cmp_ne (tgt := 42) X g_26 ⟨by decide, by decide⟩ dX12_fuel_33 (by decide) (fun c_29 => ?_) (fun c_29 => ?_)
    · have hw := hwt c_29
      refine lv_iload_n X.1 X.2.1 dX12_fuel_42 rfl (lv_at hl 5 rfl) ?_
      refine j_iconst X dX12_fuel_43 ?_
      obtain ⟨g_27, hwt, hwf⟩ := hw
      refine j_cmp_ne (tgt := 52) X g_27 ⟨by decide, by decide⟩ dX12_fuel_44 (by decide) (fun c_28 => ?_) (fun c_28 => ?_)
      · have hw := hwt c_28
        refine lv_iload X.1 X.2.1 dX12_fuel_52 (lv_at hl 0 rfl) ?_
        refine j_ineg X dX12_fuel_54 ?_
        exact lb_X12_fuel_55 X σ_22 x1 x2 (-v_24) _ _ _ hw h (lv_sub hl [2, 3, 4] rfl)
      · have hw := hwf c_28
        refine lv_iload X.1 X.2.1 dX12_fuel_47 (lv_at hl 0 rfl) ?_
        refine lv_goto (tgt := 55) X.1 X.2.1 dX12_fuel_49 (by decide) ?_
        exact lb_X12_fuel_55 X σ_22 x1 x2 v_24 _ _ _ hw h (lv_sub hl [2, 3, 4] rfl)
    · have hw := hwf c_29
      refine lv_iload X.1 X.2.1 dX12_fuel_36 (lv_at hl 1 rfl) ?_
      refine j_ineg X dX12_fuel_38 ?_
      refine lv_goto (tgt := 55) X.1 X.2.1 dX12_fuel_39 (by decide) ?_
      exact lb_X12_fuel_55 X σ_22 x1 x2 (-v_19) _ _ _ hw h (lv_sub hl [2, 3, 4] rfl)
  · have hw := hwf c_30
    refine lv_iload X.1 X.2.1 dX12_fuel_26 (lv_at hl 1 rfl) ?_
    refine lv_goto (tgt := 55) X.1 X.2.1 dX12_fuel_28 (by decide) ?_
    exact lb_X12_fuel_55 X σ_22 x1 x2 v_19 _ _ _ hw h (lv_sub hl [2, 3, 4] rfl)
end
section
variable {p : Program} {l : Launch} {e : Env} {s : State} {m : MethodId} {args : Array Value} {below : List Frame} {meth : Method} {c : Code} {D : va_G} {ct : Nat → ClassId} {ad : Nat → Nat → Nat} {L : List (Nat × Nat)} {φ : Nat → Nat → Nat → Bool} {N0 : Nat}
variable {Q : Int → St → Prop}
set_option maxRecDepth 100000 in
set_option maxHeartbeats 4000000 in
theorem lb_X12_fires_307 (X : Cx p s m meth c args cX12_fires 7 (some .int) RX12 D ct L φ N0) {K174 : St → Int → Int → Prop} (hK174 : ∀ (σ : St) (x4 : Int) (x5 : Int) (H : Heap) (locs : List Loc) (ls : Array Slot), K174 σ x4 x5 → Hs D ct ad L φ N0 s.heap σ H locs → lv_has ls 7 [(0, .ref (ad 12 0)), (4, .int (iv x4)), (5, .int (iv x5))] → W p l e ({ frames := 3, cells := 0, slots := 0, locals := 64 } : Room) s m args below meth c H locs 0 0 (MQ below (Qi D ct ad L φ N0 Q) args s 0 0 (AA N0)) (F0 m 174 ls [])) (σ : St) (x4 : Int) (x5 : Int) (H : Heap) (locs : List Loc) (ls : Array Slot) (hw : wp_X12_fires_307 K174 Q σ x4 x5) (h : Hs D ct ad L φ N0 s.heap σ H locs) (hl : lv_has ls 7 [(0, .ref (ad 12 0)), (4, .int (iv x4)), (5, .int (iv x5))]) : W p l e ({ frames := 3, cells := 0, slots := 0, locals := 64 } : Room) s m args below meth c H locs 0 0 (MQ below (Qi D ct ad L φ N0 Q) args s 0 0 (AA N0)) (F0 m 307 ls []) := by
  have hF := X.2.2.2.2.2.2.2.2.1
  unfold wp_X12_fires_307 at hw
  refine j_iinc (kk9 := 2) (lv' := [(5, .int (iv (x5 + 1))), (0, .ref (ad 12 0)), (4, .int (iv x4))]) X dX12_fires_307 hl rfl (by decide) rfl (fun ls hl => ?_)
  refine lv_goto (tgt := 174) X.1 X.2.1 dX12_fires_310 (by decide) ?_
  exact hK174 σ x4 (x5 + 1) _ _ _ hw h (lv_sub hl [1, 2, 0] rfl)
set_option maxRecDepth 100000 in
set_option maxHeartbeats 4000000 in
theorem lb_X12_fires_301 (X : Cx p s m meth c args cX12_fires 7 (some .int) RX12 D ct L φ N0) {K263 : St → Int → Int → Int → Prop} {K307 : St → Int → Int → Prop} (hK263 : ∀ (σ : St) (x4 : Int) (x5 : Int) (x6 : Int) (H : Heap) (locs : List Loc) (ls : Array Slot), K263 σ x4 x5 x6 → Hs D ct ad L φ N0 s.heap σ H locs → lv_has ls 7 [(0, .ref (ad 12 0)), (4, .int (iv x4)), (5, .int (iv x5)), (6, .int (iv x6))] → W p l e ({ frames := 3, cells := 0, slots := 0, locals := 64 } : Room) s m args below meth c H locs 0 0 (MQ below (Qi D ct ad L φ N0 Q) args s 0 0 (AA N0)) (F0 m 263 ls [])) (hK307 : ∀ (σ : St) (x4 : Int) (x5 : Int) (H : Heap) (locs : List Loc) (ls : Array Slot), K307 σ x4 x5 → Hs D ct ad L φ N0 s.heap σ H locs → lv_has ls 7 [(0, .ref (ad 12 0)), (4, .int (iv x4)), (5, .int (iv x5))] → W p l e ({ frames := 3, cells := 0, slots := 0, locals := 64 } : Room) s m args below meth c H locs 0 0 (MQ below (Qi D ct ad L φ N0 Q) args s 0 0 (AA N0)) (F0 m 307 ls [])) (σ : St) (x4 : Int) (x5 : Int) (x6 : Int) (H : Heap) (locs : List Loc) (ls : Array Slot) (hw : wp_X12_fires_301 K263 K307 Q σ x4 x5 x6) (h : Hs D ct ad L φ N0 s.heap σ H locs) (hl : lv_has ls 7 [(0, .ref (ad 12 0)), (4, .int (iv x4)), (5, .int (iv x5)), (6, .int (iv x6))]) : W p l e ({ frames := 3, cells := 0, slots := 0, locals := 64 } : Room) s m args below meth c H locs 0 0 (MQ below (Qi D ct ad L φ N0 Q) args s 0 0 (AA N0)) (F0 m 301 ls []) := by
  have hF := X.2.2.2.2.2.2.2.2.1
  unfold wp_X12_fires_301 at hw
  refine j_iinc (kk9 := 3) (lv' := [(6, .int (iv (x6 + 1))), (0, .ref (ad 12 0)), (4, .int (iv x4)), (5, .int (iv x5))]) X dX12_fires_301 hl rfl (by decide) rfl (fun ls hl => ?_)
  refine lv_goto (tgt := 263) X.1 X.2.1 dX12_fires_304 (by decide) ?_
  exact hK263 σ x4 x5 (x6 + 1) _ _ _ hw h (lv_sub hl [1, 2, 3, 0] rfl)
set_option maxRecDepth 100000 in
set_option maxHeartbeats 4000000 in
theorem lb_X12_fires_263 (X : Cx p s m meth c args cX12_fires 7 (some .int) RX12 D ct L φ N0) {K307 : St → Int → Int → Prop} (hK307 : ∀ (σ : St) (x4 : Int) (x5 : Int) (H : Heap) (locs : List Loc) (ls : Array Slot), K307 σ x4 x5 → Hs D ct ad L φ N0 s.heap σ H locs → lv_has ls 7 [(0, .ref (ad 12 0)), (4, .int (iv x4)), (5, .int (iv x5))] → W p l e ({ frames := 3, cells := 0, slots := 0, locals := 64 } : Room) s m args below meth c H locs 0 0 (MQ below (Qi D ct ad L φ N0 Q) args s 0 0 (AA N0)) (F0 m 307 ls [])) : ∀ (n : Nat) (σ : St) (x4 : Int) (x5 : Int) (x6 : Int) (H : Heap) (locs : List Loc) (ls : Array Slot), wp_X12_fires_263 K307 Q n σ x4 x5 x6 → Hs D ct ad L φ N0 s.heap σ H locs → lv_has ls 7 [(0, .ref (ad 12 0)), (4, .int (iv x4)), (5, .int (iv x5)), (6, .int (iv x6))] → W p l e ({ frames := 3, cells := 0, slots := 0, locals := 64 } : Room) s m args below meth c H locs 0 0 (MQ below (Qi D ct ad L φ N0 Q) args s 0 0 (AA N0)) (F0 m 263 ls []) := by
  have hF := X.2.2.2.2.2.2.2.2.1
  intro n
  induction n with
  | zero => intro σ x4 x5 x6 H locs ls hw; exact hw.elim
  | succ n ih =>
    intro σ x4 x5 x6 H locs ls hw h hl
    unfold wp_X12_fires_263 at hw
    refine lv_iload X.1 X.2.1 dX12_fires_263 (lv_at hl 3 rfl) ?_
    refine lv_aload_n X.1 X.2.1 dX12_fires_265 rfl (lv_at hl 0 rfl) ?_
    refine r_get (ci := 12) X inw_12 h (hF.1 12 rfl).1 rfl rfl 17 (by decide) kw_1655 rfl dX12_fires_266 ?_
    obtain ⟨g_1, g_2, hwt, hwf⟩ := hw
    refine j_cmp_ge (tgt := 307) X g_1 g_2 dX12_fires_269 (by decide) (fun c_13 => ?_) (fun c_13 => ?_)
    · have hw := hwt c_13
      exact hK307 σ x4 x5 _ _ _ hw h (lv_sub hl [0, 1, 2] rfl)
    · have hw := hwf c_13
      refine lv_aload_n X.1 X.2.1 dX12_fires_272 rfl (lv_at hl 0 rfl) ?_
      refine r_getR (ci := 12) X inw_12 h (hF.1 12 rfl).1 rfl rfl 25 (by decide) kw_1663 rfl ((hF.1 12 rfl).2 25) dX12_fires_273 ?_
      refine lv_iload X.1 X.2.1 dX12_fires_276 (lv_at hl 3 rfl) ?_
      obtain ⟨g_3, g_4, hw⟩ := hw
      refine r_iald (n := 300) X h (hF.1 102 rfl).1 rfl (by decide) g_3 g_4 dX12_fires_278 ?_
      obtain ⟨g_5, hwt, hwf⟩ := hw
      refine j_if_ne (tgt := 301) X g_5 dX12_fires_279 (by decide) (fun c_12 => ?_) (fun c_12 => ?_)
      · have hw := hwt c_12
        exact lb_X12_fires_301 X ih hK307 σ x4 x5 x6 _ _ _ hw h (lv_sub hl [0, 1, 2, 3] rfl)
      · have hw := hwf c_12
        refine lv_aload_n X.1 X.2.1 dX12_fires_282 rfl (lv_at hl 0 rfl) ?_
        refine r_getR (ci := 12) X inw_12 h (hF.1 12 rfl).1 rfl rfl 18 (by decide) kw_1656 rfl ((hF.1 12 rfl).2 18) dX12_fires_283 ?_
        refine lv_iload X.1 X.2.1 dX12_fires_286 (lv_at hl 3 rfl) ?_
        obtain ⟨g_6, g_7, hw⟩ := hw
        refine r_iald (n := 300) X h (hF.1 95 rfl).1 rfl (by decide) g_6 g_7 dX12_fires_288 ?_
        refine lv_iload X.1 X.2.1 dX12_fires_289 (lv_at hl 2 rfl) ?_
        obtain ⟨g_8, g_9, hwt, hwf⟩ := hw
        refine j_cmp_ne (tgt := 301) X g_8 g_9 dX12_fires_291 (by decide) (fun c_11 => ?_) (fun c_11 => ?_)
        · have hw := hwt c_11
          exact lb_X12_fires_301 X ih hK307 σ x4 x5 x6 _ _ _ hw h (lv_sub hl [0, 1, 2, 3] rfl)
        · have hw := hwf c_11
          refine lv_aload_n X.1 X.2.1 dX12_fires_294 rfl (lv_at hl 0 rfl) ?_
          refine lv_iload X.1 X.2.1 dX12_fires_295 (lv_at hl 3 rfl) ?_
          refine j_iconst X dX12_fires_297 ?_
          refine k_v h (r_V (C := RX12) (ci := 12) (As := [.int (iv x6), .int (iv 3)]) (rest := []) X h (c_X12_becomes l D ct ad L φ N0 σ x6 3 _ hw) rfl rfl ⟨Nat.le_of_ble_eq_true rfl, Nat.le_of_ble_eq_true rfl⟩ kw_2242 kw_2244 kw_96 kw_129 kw_2245 ⟨rfl, pd_X12_becomes⟩ (hF.1 12 rfl).1 rfl rfl rfl hl.1 rfl (Nat.le_of_ble_eq_true rfl) ⟨Nat.le_of_ble_eq_true rfl, Nat.le_of_ble_eq_true rfl⟩ dX12_fires_298) (fun σ_10 H locs hw h => ?_)
          exact lb_X12_fires_301 X ih hK307 σ_10 x4 x5 x6 _ _ _ hw h (lv_sub hl [0, 1, 2, 3] rfl)
set_option maxRecDepth 100000 in
set_option maxHeartbeats 4000000 in
theorem lb_X12_fires_260 (X : Cx p s m meth c args cX12_fires 7 (some .int) RX12 D ct L φ N0) {K174 : St → Int → Int → Prop} (hK174 : ∀ (σ : St) (x4 : Int) (x5 : Int) (H : Heap) (locs : List Loc) (ls : Array Slot), K174 σ x4 x5 → Hs D ct ad L φ N0 s.heap σ H locs → lv_has ls 7 [(0, .ref (ad 12 0)), (4, .int (iv x4)), (5, .int (iv x5))] → W p l e ({ frames := 3, cells := 0, slots := 0, locals := 64 } : Room) s m args below meth c H locs 0 0 (MQ below (Qi D ct ad L φ N0 Q) args s 0 0 (AA N0)) (F0 m 174 ls [])) (σ : St) (x4 : Int) (x5 : Int) (H : Heap) (locs : List Loc) (ls : Array Slot) (hw : wp_X12_fires_260 K174 Q σ x4 x5) (h : Hs D ct ad L φ N0 s.heap σ H locs) (hl : lv_has ls 7 [(0, .ref (ad 12 0)), (4, .int (iv x4)), (5, .int (iv x5))]) : W p l e ({ frames := 3, cells := 0, slots := 0, locals := 64 } : Room) s m args below meth c H locs 0 0 (MQ below (Qi D ct ad L φ N0 Q) args s 0 0 (AA N0)) (F0 m 260 ls []) := by
  have hF := X.2.2.2.2.2.2.2.2.1
  unfold wp_X12_fires_260 at hw
  refine j_iconst X dX12_fires_260 ?_
  refine lv_istore (lv' := [(6, .int (iv 0)), (0, .ref (ad 12 0)), (4, .int (iv x4)), (5, .int (iv x5))]) X.1 X.2.1 dX12_fires_261 hl (by decide) rfl (fun ls hl => ?_)
  exact hw.elim (fun n263 hw => lb_X12_fires_263 X (lb_X12_fires_307 X hK174) n263 σ x4 x5 0 _ _ _ hw h (lv_sub hl [1, 2, 3, 0] rfl))
set_option maxRecDepth 100000 in
set_option maxHeartbeats 4000000 in
theorem lb_X12_fires_253 (X : Cx p s m meth c args cX12_fires 7 (some .int) RX12 D ct L φ N0) {K213 : St → Int → Int → Int → Prop} {K260 : St → Int → Int → Prop} (hK213 : ∀ (σ : St) (x4 : Int) (x5 : Int) (x6 : Int) (H : Heap) (locs : List Loc) (ls : Array Slot), K213 σ x4 x5 x6 → Hs D ct ad L φ N0 s.heap σ H locs → lv_has ls 7 [(0, .ref (ad 12 0)), (4, .int (iv x4)), (5, .int (iv x5)), (6, .int (iv x6))] → W p l e ({ frames := 3, cells := 0, slots := 0, locals := 64 } : Room) s m args below meth c H locs 0 0 (MQ below (Qi D ct ad L φ N0 Q) args s 0 0 (AA N0)) (F0 m 213 ls [])) (hK260 : ∀ (σ : St) (x4 : Int) (x5 : Int) (H : Heap) (locs : List Loc) (ls : Array Slot), K260 σ x4 x5 → Hs D ct ad L φ N0 s.heap σ H locs → lv_has ls 7 [(0, .ref (ad 12 0)), (4, .int (iv x4)), (5, .int (iv x5))] → W p l e ({ frames := 3, cells := 0, slots := 0, locals := 64 } : Room) s m args below meth c H locs 0 0 (MQ below (Qi D ct ad L φ N0 Q) args s 0 0 (AA N0)) (F0 m 260 ls [])) (σ : St) (x4 : Int) (x5 : Int) (x6 : Int) (y0 : Int) (y1 : Int) (H : Heap) (locs : List Loc) (ls : Array Slot) (hw : wp_X12_fires_253 K213 K260 Q σ x4 x5 x6 y0 y1) (h : Hs D ct ad L φ N0 s.heap σ H locs) (hl : lv_has ls 7 [(0, .ref (ad 12 0)), (4, .int (iv x4)), (5, .int (iv x5)), (6, .int (iv x6))]) : W p l e ({ frames := 3, cells := 0, slots := 0, locals := 64 } : Room) s m args below meth c H locs 0 0 (MQ below (Qi D ct ad L φ N0 Q) args s 0 0 (AA N0)) (F0 m 253 ls [.int (iv y0), .int (iv y1), .ref (ad 85 0)]) := by
  have hF := X.2.2.2.2.2.2.2.2.1
  unfold wp_X12_fires_253 at hw
  obtain ⟨g_14, g_15, hw⟩ := hw
  refine r_iast (n := 1024) X h (hF.1 85 rfl).1 (fun _ => rfl) (by decide) g_14 g_15 rfl dX12_fires_253 (fun H locs h => ?_)
  obtain ⟨σ_16, eσ_16⟩ : ∃ z : St, z = st σ 85 0 (Int.toNat y1) y0 := ⟨_, rfl⟩
  rw [← eσ_16] at h
  have hw := hw σ_16 eσ_16
  refine j_iinc (kk9 := 3) (lv' := [(6, .int (iv (x6 + 1))), (0, .ref (ad 12 0)), (4, .int (iv x4)), (5, .int (iv x5))]) X dX12_fires_254 hl rfl (by decide) rfl (fun ls hl => ?_)
  refine lv_goto (tgt := 213) X.1 X.2.1 dX12_fires_257 (by decide) ?_
  exact hK213 σ_16 x4 x5 (x6 + 1) _ _ _ hw h (lv_sub hl [1, 2, 3, 0] rfl)
set_option maxRecDepth 100000 in
set_option maxHeartbeats 4000000 in
theorem lb_X12_fires_213 (X : Cx p s m meth c args cX12_fires 7 (some .int) RX12 D ct L φ N0) {K260 : St → Int → Int → Prop} (hK260 : ∀ (σ : St) (x4 : Int) (x5 : Int) (H : Heap) (locs : List Loc) (ls : Array Slot), K260 σ x4 x5 → Hs D ct ad L φ N0 s.heap σ H locs → lv_has ls 7 [(0, .ref (ad 12 0)), (4, .int (iv x4)), (5, .int (iv x5))] → W p l e ({ frames := 3, cells := 0, slots := 0, locals := 64 } : Room) s m args below meth c H locs 0 0 (MQ below (Qi D ct ad L φ N0 Q) args s 0 0 (AA N0)) (F0 m 260 ls [])) : ∀ (n : Nat) (σ : St) (x4 : Int) (x5 : Int) (x6 : Int) (H : Heap) (locs : List Loc) (ls : Array Slot), wp_X12_fires_213 K260 Q n σ x4 x5 x6 → Hs D ct ad L φ N0 s.heap σ H locs → lv_has ls 7 [(0, .ref (ad 12 0)), (4, .int (iv x4)), (5, .int (iv x5)), (6, .int (iv x6))] → W p l e ({ frames := 3, cells := 0, slots := 0, locals := 64 } : Room) s m args below meth c H locs 0 0 (MQ below (Qi D ct ad L φ N0 Q) args s 0 0 (AA N0)) (F0 m 213 ls []) := by
  have hF := X.2.2.2.2.2.2.2.2.1
  intro n
  induction n with
  | zero => intro σ x4 x5 x6 H locs ls hw; exact hw.elim
  | succ n ih =>
    intro σ x4 x5 x6 H locs ls hw h hl
    unfold wp_X12_fires_213 at hw
    refine lv_iload X.1 X.2.1 dX12_fires_213 (lv_at hl 3 rfl) ?_
    refine j_bipush X dX12_fires_215 (by decide) ?_
    refine lv_iload X.1 X.2.1 dX12_fires_217 (lv_at hl 2 rfl) ?_
    refine j_imul X dX12_fires_219 ?_
    refine j_bipush X dX12_fires_220 (by decide) ?_
    refine j_iadd X dX12_fires_222 ?_
    obtain ⟨g_17, g_18, hwt, hwf⟩ := hw
    refine j_cmp_ge (tgt := 260) X g_17 g_18 dX12_fires_223 (by decide) (fun c_25 => ?_) (fun c_25 => ?_)
    · have hw := hwt c_25
      exact hK260 σ x4 x5 _ _ _ hw h (lv_sub hl [0, 1, 2] rfl)
    · have hw := hwf c_25
      refine lv_aload_n X.1 X.2.1 dX12_fires_226 rfl (lv_at hl 0 rfl) ?_
      refine r_getR (ci := 12) X inw_12 h (hF.1 12 rfl).1 rfl rfl 4 (by decide) kw_1642 rfl ((hF.1 12 rfl).2 4) dX12_fires_227 ?_
      refine lv_iload X.1 X.2.1 dX12_fires_230 (lv_at hl 3 rfl) ?_
      refine lv_iload X.1 X.2.1 dX12_fires_232 (lv_at hl 3 rfl) ?_
      refine j_iconst X dX12_fires_234 ?_
      obtain ⟨g_19, hw⟩ := hw
      refine j_irem X g_19 ⟨by decide, by decide⟩ (by decide) (by decide) dX12_fires_235 ?_
      refine j_iconst X dX12_fires_236 ?_
      obtain ⟨g_20, hwt, hwf⟩ := hw
      refine j_cmp_ge (tgt := 244) X g_20 ⟨by decide, by decide⟩ dX12_fires_237 (by decide) (fun c_24 => ?_) (fun c_24 => ?_)
      · have hw := hwt c_24
        refine lv_aload_n X.1 X.2.1 dX12_fires_244 rfl (lv_at hl 0 rfl) ?_
        refine r_getR (ci := 12) X inw_12 h (hF.1 12 rfl).1 rfl rfl 4 (by decide) kw_1642 rfl ((hF.1 12 rfl).2 4) dX12_fires_245 ?_
        refine lv_iload X.1 X.2.1 dX12_fires_248 (lv_at hl 3 rfl) ?_
        obtain ⟨g_21, g_22, hw⟩ := hw
        refine r_iald (n := 1024) X h (hF.1 85 rfl).1 rfl (by decide) g_21 g_22 dX12_fires_250 ?_
        refine j_iconst X dX12_fires_251 ?_
        obtain ⟨g_23, hw⟩ := hw
        refine j_idiv X g_23 ⟨by decide, by decide⟩ (by decide) (by decide) dX12_fires_252 ?_
        exact lb_X12_fires_253 X ih hK260 σ x4 x5 x6 (Int.tdiv (σ 85 0 (Int.toNat x6)) 2) x6 _ _ _ hw h (lv_sub hl [0, 1, 2, 3] rfl)
      · have hw := hwf c_24
        refine j_iconst X dX12_fires_240 ?_
        refine lv_goto (tgt := 253) X.1 X.2.1 dX12_fires_241 (by decide) ?_
        exact lb_X12_fires_253 X ih hK260 σ x4 x5 x6 0 x6 _ _ _ hw h (lv_sub hl [0, 1, 2, 3] rfl)
set_option maxRecDepth 100000 in
set_option maxHeartbeats 4000000 in
theorem lb_X12_fires_174 (X : Cx p s m meth c args cX12_fires 7 (some .int) RX12 D ct L φ N0) : ∀ (n : Nat) (σ : St) (x4 : Int) (x5 : Int) (H : Heap) (locs : List Loc) (ls : Array Slot), wp_X12_fires_174 Q n σ x4 x5 → Hs D ct ad L φ N0 s.heap σ H locs → lv_has ls 7 [(0, .ref (ad 12 0)), (4, .int (iv x4)), (5, .int (iv x5))] → W p l e ({ frames := 3, cells := 0, slots := 0, locals := 64 } : Room) s m args below meth c H locs 0 0 (MQ below (Qi D ct ad L φ N0 Q) args s 0 0 (AA N0)) (F0 m 174 ls []) := by
  have hF := X.2.2.2.2.2.2.2.2.1
  intro n
  induction n with
  | zero => intro σ x4 x5 H locs ls hw; exact hw.elim
  | succ n ih =>
    intro σ x4 x5 H locs ls hw h hl
    unfold wp_X12_fires_174 at hw
    refine lv_iload X.1 X.2.1 dX12_fires_174 (lv_at hl 2 rfl) ?_
    refine j_bipush X dX12_fires_176 (by decide) ?_
    obtain ⟨g_26, hwt, hwf⟩ := hw
    refine j_cmp_ge (tgt := 313) X g_26 ⟨by decide, by decide⟩ dX12_fires_178 (by decide) (fun c_35 => ?_) (fun c_35 => ?_)
    · have hw := hwt c_35
      refine lv_iload X.1 X.2.1 dX12_fires_313 (lv_at hl 1 rfl) ?_
      exact k_ir X rfl h hw dX12_fires_315
    · have hw := hwf c_35
      refine lv_aload_n X.1 X.2.1 dX12_fires_181 rfl (lv_at hl 0 rfl) ?_
      refine r_getR (ci := 12) X inw_12 h (hF.1 12 rfl).1 rfl rfl 81 (by decide) kw_1719 rfl ((hF.1 12 rfl).2 81) dX12_fires_182 ?_
      refine lv_iload X.1 X.2.1 dX12_fires_185 (lv_at hl 2 rfl) ?_
      obtain ⟨g_27, g_28, hw⟩ := hw
      refine r_iald (n := 64) X h (hF.1 141 rfl).1 rfl (by decide) g_27 g_28 dX12_fires_187 ?_
      refine j_iconst X dX12_fires_188 ?_
      obtain ⟨g_29, hwt, hwf⟩ := hw
      refine j_cmp_ne (tgt := 195) X g_29 ⟨by decide, by decide⟩ dX12_fires_189 (by decide) (fun c_34 => ?_) (fun c_34 => ?_)
      · have hw := hwt c_34
        refine j_iinc (kk9 := 1) (lv' := [(4, .int (iv (x4 + 1))), (0, .ref (ad 12 0)), (5, .int (iv x5))]) X dX12_fires_195 hl rfl (by decide) rfl (fun ls hl => ?_)
        refine lv_aload_n X.1 X.2.1 dX12_fires_198 rfl (lv_at hl 1 rfl) ?_
        refine r_getR (ci := 12) X inw_12 h (hF.1 12 rfl).1 rfl rfl 3 (by decide) kw_1641 rfl ((hF.1 12 rfl).2 3) dX12_fires_199 ?_
        refine lv_iload X.1 X.2.1 dX12_fires_202 (lv_at hl 2 rfl) ?_
        refine j_iconst X dX12_fires_204 ?_
        obtain ⟨g_30, g_31, hw⟩ := hw
        refine r_iast (n := 64) X h (hF.1 84 rfl).1 (fun _ => rfl) (by decide) g_30 g_31 rfl dX12_fires_205 (fun H locs h => ?_)
        obtain ⟨σ_32, eσ_32⟩ : ∃ z : St, z = st σ 84 0 (Int.toNat x5) 0 := ⟨_, rfl⟩
        rw [← eσ_32] at h
        have hw := hw σ_32 eσ_32
        refine j_bipush X dX12_fires_206 (by decide) ?_
        refine lv_iload X.1 X.2.1 dX12_fires_208 (lv_at hl 2 rfl) ?_
        refine j_imul X dX12_fires_210 ?_
        refine j_bind (fun v_33 ev_33 => ?_)
        have hw := hw v_33 ev_33
        refine lv_istore (lv' := [(6, .int (iv v_33)), (4, .int (iv (x4 + 1))), (0, .ref (ad 12 0)), (5, .int (iv x5))]) X.1 X.2.1 dX12_fires_211 hl (by decide) rfl (fun ls hl => ?_)
        exact hw.elim (fun n213 hw => lb_X12_fires_213 X (lb_X12_fires_260 X ih) n213 σ_32 (x4 + 1) x5 v_33 _ _ _ hw h (lv_sub hl [2, 1, 3, 0] rfl))
      · have hw := hwf c_34
        refine lv_goto (tgt := 307) X.1 X.2.1 dX12_fires_192 (by decide) ?_
        exact lb_X12_fires_307 X ih σ x4 x5 _ _ _ hw h (lv_sub hl [0, 1, 2] rfl)
set_option maxRecDepth 100000 in
set_option maxHeartbeats 4000000 in
theorem lb_X12_fires_168 (X : Cx p s m meth c args cX12_fires 7 (some .int) RX12 D ct L φ N0) (σ : St) (H : Heap) (locs : List Loc) (ls : Array Slot) (hw : wp_X12_fires_168 Q σ) (h : Hs D ct ad L φ N0 s.heap σ H locs) (hl : lv_has ls 7 [(0, .ref (ad 12 0))]) : W p l e ({ frames := 3, cells := 0, slots := 0, locals := 64 } : Room) s m args below meth c H locs 0 0 (MQ below (Qi D ct ad L φ N0 Q) args s 0 0 (AA N0)) (F0 m 168 ls []) := by
  have hF := X.2.2.2.2.2.2.2.2.1
  unfold wp_X12_fires_168 at hw
  refine j_iconst X dX12_fires_168 ?_
  refine lv_istore (lv' := [(4, .int (iv 0)), (0, .ref (ad 12 0))]) X.1 X.2.1 dX12_fires_169 hl (by decide) rfl (fun ls hl => ?_)
  refine j_iconst X dX12_fires_171 ?_
  refine lv_istore (lv' := [(5, .int (iv 0)), (4, .int (iv 0)), (0, .ref (ad 12 0))]) X.1 X.2.1 dX12_fires_172 hl (by decide) rfl (fun ls hl => ?_)
  exact hw.elim (fun n174 hw => lb_X12_fires_174 X n174 σ 0 0 _ _ _ hw h (lv_sub hl [2, 1, 0] rfl))
set_option maxRecDepth 100000 in
set_option maxHeartbeats 4000000 in
theorem lb_X12_fires_162 (X : Cx p s m meth c args cX12_fires 7 (some .int) RX12 D ct L φ N0) {K34 : St → Int → Int → Int → Prop} {K168 : St → Prop} (hK34 : ∀ (σ : St) (x2 : Int) (x3 : Int) (x4 : Int) (H : Heap) (locs : List Loc) (ls : Array Slot), K34 σ x2 x3 x4 → Hs D ct ad L φ N0 s.heap σ H locs → lv_has ls 7 [(0, .ref (ad 12 0)), (2, .int (iv x2)), (3, .int (iv x3)), (4, .int (iv x4))] → W p l e ({ frames := 3, cells := 0, slots := 0, locals := 64 } : Room) s m args below meth c H locs 0 0 (MQ below (Qi D ct ad L φ N0 Q) args s 0 0 (AA N0)) (F0 m 34 ls [])) (hK168 : ∀ (σ : St) (H : Heap) (locs : List Loc) (ls : Array Slot), K168 σ → Hs D ct ad L φ N0 s.heap σ H locs → lv_has ls 7 [(0, .ref (ad 12 0))] → W p l e ({ frames := 3, cells := 0, slots := 0, locals := 64 } : Room) s m args below meth c H locs 0 0 (MQ below (Qi D ct ad L φ N0 Q) args s 0 0 (AA N0)) (F0 m 168 ls [])) (σ : St) (x2 : Int) (x3 : Int) (x4 : Int) (H : Heap) (locs : List Loc) (ls : Array Slot) (hw : wp_X12_fires_162 K34 K168 Q σ x2 x3 x4) (h : Hs D ct ad L φ N0 s.heap σ H locs) (hl : lv_has ls 7 [(0, .ref (ad 12 0)), (2, .int (iv x2)), (3, .int (iv x3)), (4, .int (iv x4))]) : W p l e ({ frames := 3, cells := 0, slots := 0, locals := 64 } : Room) s m args below meth c H locs 0 0 (MQ below (Qi D ct ad L φ N0 Q) args s 0 0 (AA N0)) (F0 m 162 ls []) := by
  have hF := X.2.2.2.2.2.2.2.2.1
  unfold wp_X12_fires_162 at hw
  refine j_iinc (kk9 := 3) (lv' := [(4, .int (iv (x4 + 1))), (0, .ref (ad 12 0)), (2, .int (iv x2)), (3, .int (iv x3))]) X dX12_fires_162 hl rfl (by decide) rfl (fun ls hl => ?_)
  refine lv_goto (tgt := 34) X.1 X.2.1 dX12_fires_165 (by decide) ?_
  exact hK34 σ x2 x3 (x4 + 1) _ _ _ hw h (lv_sub hl [1, 2, 3, 0] rfl)
set_option maxRecDepth 100000 in
set_option maxHeartbeats 4000000 in
theorem lb_X12_fires_156 (X : Cx p s m meth c args cX12_fires 7 (some .int) RX12 D ct L φ N0) {K43 : St → Int → Int → Int → Int → Prop} {K162 : St → Int → Int → Int → Prop} (hK43 : ∀ (σ : St) (x2 : Int) (x3 : Int) (x4 : Int) (x5 : Int) (H : Heap) (locs : List Loc) (ls : Array Slot), K43 σ x2 x3 x4 x5 → Hs D ct ad L φ N0 s.heap σ H locs → lv_has ls 7 [(0, .ref (ad 12 0)), (2, .int (iv x2)), (3, .int (iv x3)), (4, .int (iv x4)), (5, .int (iv x5))] → W p l e ({ frames := 3, cells := 0, slots := 0, locals := 64 } : Room) s m args below meth c H locs 0 0 (MQ below (Qi D ct ad L φ N0 Q) args s 0 0 (AA N0)) (F0 m 43 ls [])) (hK162 : ∀ (σ : St) (x2 : Int) (x3 : Int) (x4 : Int) (H : Heap) (locs : List Loc) (ls : Array Slot), K162 σ x2 x3 x4 → Hs D ct ad L φ N0 s.heap σ H locs → lv_has ls 7 [(0, .ref (ad 12 0)), (2, .int (iv x2)), (3, .int (iv x3)), (4, .int (iv x4))] → W p l e ({ frames := 3, cells := 0, slots := 0, locals := 64 } : Room) s m args below meth c H locs 0 0 (MQ below (Qi D ct ad L φ N0 Q) args s 0 0 (AA N0)) (F0 m 162 ls [])) (σ : St) (x2 : Int) (x3 : Int) (x4 : Int) (x5 : Int) (H : Heap) (locs : List Loc) (ls : Array Slot) (hw : wp_X12_fires_156 K43 K162 Q σ x2 x3 x4 x5) (h : Hs D ct ad L φ N0 s.heap σ H locs) (hl : lv_has ls 7 [(0, .ref (ad 12 0)), (2, .int (iv x2)), (3, .int (iv x3)), (4, .int (iv x4)), (5, .int (iv x5))]) : W p l e ({ frames := 3, cells := 0, slots := 0, locals := 64 } : Room) s m args below meth c H locs 0 0 (MQ below (Qi D ct ad L φ N0 Q) args s 0 0 (AA N0)) (F0 m 156 ls []) := by
  have hF := X.2.2.2.2.2.2.2.2.1
  unfold wp_X12_fires_156 at hw
  refine j_iinc (kk9 := 4) (lv' := [(5, .int (iv (x5 + 1))), (0, .ref (ad 12 0)), (2, .int (iv x2)), (3, .int (iv x3)), (4, .int (iv x4))]) X dX12_fires_156 hl rfl (by decide) rfl (fun ls hl => ?_)
  refine lv_goto (tgt := 43) X.1 X.2.1 dX12_fires_159 (by decide) ?_
  exact hK43 σ x2 x3 x4 (x5 + 1) _ _ _ hw h (lv_sub hl [1, 2, 3, 4, 0] rfl)
set_option maxRecDepth 100000 in
set_option maxHeartbeats 4000000 in
theorem lb_X12_fires_150 (X : Cx p s m meth c args cX12_fires 7 (some .int) RX12 D ct L φ N0) {K79 : St → Int → Int → Int → Int → Int → Prop} {K156 : St → Int → Int → Int → Int → Prop} (hK79 : ∀ (σ : St) (x2 : Int) (x3 : Int) (x4 : Int) (x5 : Int) (x6 : Int) (H : Heap) (locs : List Loc) (ls : Array Slot), K79 σ x2 x3 x4 x5 x6 → Hs D ct ad L φ N0 s.heap σ H locs → lv_has ls 7 [(0, .ref (ad 12 0)), (2, .int (iv x2)), (3, .int (iv x3)), (4, .int (iv x4)), (5, .int (iv x5)), (6, .int (iv x6))] → W p l e ({ frames := 3, cells := 0, slots := 0, locals := 64 } : Room) s m args below meth c H locs 0 0 (MQ below (Qi D ct ad L φ N0 Q) args s 0 0 (AA N0)) (F0 m 79 ls [])) (hK156 : ∀ (σ : St) (x2 : Int) (x3 : Int) (x4 : Int) (x5 : Int) (H : Heap) (locs : List Loc) (ls : Array Slot), K156 σ x2 x3 x4 x5 → Hs D ct ad L φ N0 s.heap σ H locs → lv_has ls 7 [(0, .ref (ad 12 0)), (2, .int (iv x2)), (3, .int (iv x3)), (4, .int (iv x4)), (5, .int (iv x5))] → W p l e ({ frames := 3, cells := 0, slots := 0, locals := 64 } : Room) s m args below meth c H locs 0 0 (MQ below (Qi D ct ad L φ N0 Q) args s 0 0 (AA N0)) (F0 m 156 ls [])) (σ : St) (x2 : Int) (x3 : Int) (x4 : Int) (x5 : Int) (x6 : Int) (H : Heap) (locs : List Loc) (ls : Array Slot) (hw : wp_X12_fires_150 K79 K156 Q σ x2 x3 x4 x5 x6) (h : Hs D ct ad L φ N0 s.heap σ H locs) (hl : lv_has ls 7 [(0, .ref (ad 12 0)), (2, .int (iv x2)), (3, .int (iv x3)), (4, .int (iv x4)), (5, .int (iv x5)), (6, .int (iv x6))]) : W p l e ({ frames := 3, cells := 0, slots := 0, locals := 64 } : Room) s m args below meth c H locs 0 0 (MQ below (Qi D ct ad L φ N0 Q) args s 0 0 (AA N0)) (F0 m 150 ls []) := by
  have hF := X.2.2.2.2.2.2.2.2.1
  unfold wp_X12_fires_150 at hw
  refine j_iinc (kk9 := 5) (lv' := [(6, .int (iv (x6 + 1))), (0, .ref (ad 12 0)), (2, .int (iv x2)), (3, .int (iv x3)), (4, .int (iv x4)), (5, .int (iv x5))]) X dX12_fires_150 hl rfl (by decide) rfl (fun ls hl => ?_)
  refine lv_goto (tgt := 79) X.1 X.2.1 dX12_fires_153 (by decide) ?_
  exact hK79 σ x2 x3 x4 x5 (x6 + 1) _ _ _ hw h (lv_sub hl [1, 2, 3, 4, 5, 0] rfl)
set_option maxRecDepth 100000 in
set_option maxHeartbeats 4000000 in
theorem lb_X12_fires_79 (X : Cx p s m meth c args cX12_fires 7 (some .int) RX12 D ct L φ N0) {K156 : St → Int → Int → Int → Int → Prop} (hK156 : ∀ (σ : St) (x2 : Int) (x3 : Int) (x4 : Int) (x5 : Int) (H : Heap) (locs : List Loc) (ls : Array Slot), K156 σ x2 x3 x4 x5 → Hs D ct ad L φ N0 s.heap σ H locs → lv_has ls 7 [(0, .ref (ad 12 0)), (2, .int (iv x2)), (3, .int (iv x3)), (4, .int (iv x4)), (5, .int (iv x5))] → W p l e ({ frames := 3, cells := 0, slots := 0, locals := 64 } : Room) s m args below meth c H locs 0 0 (MQ below (Qi D ct ad L φ N0 Q) args s 0 0 (AA N0)) (F0 m 156 ls [])) : ∀ (n : Nat) (σ : St) (x2 : Int) (x3 : Int) (x4 : Int) (x5 : Int) (x6 : Int) (H : Heap) (locs : List Loc) (ls : Array Slot), wp_X12_fires_79 K156 Q n σ x2 x3 x4 x5 x6 → Hs D ct ad L φ N0 s.heap σ H locs → lv_has ls 7 [(0, .ref (ad 12 0)), (2, .int (iv x2)), (3, .int (iv x3)), (4, .int (iv x4)), (5, .int (iv x5)), (6, .int (iv x6))] → W p l e ({ frames := 3, cells := 0, slots := 0, locals := 64 } : Room) s m args below meth c H locs 0 0 (MQ below (Qi D ct ad L φ N0 Q) args s 0 0 (AA N0)) (F0 m 79 ls []) := by
  have hF := X.2.2.2.2.2.2.2.2.1
  intro n
  induction n with
  | zero => intro σ x2 x3 x4 x5 x6 H locs ls hw; exact hw.elim
  | succ n ih =>
    intro σ x2 x3 x4 x5 x6 H locs ls hw h hl
    unfold wp_X12_fires_79 at hw
    refine lv_iload X.1 X.2.1 dX12_fires_79 (lv_at hl 5 rfl) ?_
    refine j_bipush X dX12_fires_81 (by decide) ?_
    obtain ⟨g_36, hwt, hwf⟩ := hw
    refine j_cmp_ge (tgt := 156) X g_36 ⟨by decide, by decide⟩ dX12_fires_83 (by decide) (fun c_58 => ?_) (fun c_58 => ?_)
    · have hw := hwt c_58
      exact hK156 σ x2 x3 x4 x5 _ _ _ hw h (lv_sub hl [0, 1, 2, 3, 4] rfl)
    · have hw := hwf c_58
      refine lv_aload_n X.1 X.2.1 dX12_fires_86 rfl (lv_at hl 0 rfl) ?_
      refine r_getR (ci := 12) X inw_12 h (hF.1 12 rfl).1 rfl rfl 81 (by decide) kw_1719 rfl ((hF.1 12 rfl).2 81) dX12_fires_87 ?_
      refine lv_iload X.1 X.2.1 dX12_fires_90 (lv_at hl 5 rfl) ?_
      obtain ⟨g_37, g_38, hw⟩ := hw
      refine r_iald (n := 64) X h (hF.1 141 rfl).1 rfl (by decide) g_37 g_38 dX12_fires_92 ?_
      refine j_iconst X dX12_fires_93 ?_
      obtain ⟨g_39, hwt, hwf⟩ := hw
      refine j_cmp_ne (tgt := 150) X g_39 ⟨by decide, by decide⟩ dX12_fires_94 (by decide) (fun c_57 => ?_) (fun c_57 => ?_)
      · have hw := hwt c_57
        exact lb_X12_fires_150 X ih hK156 σ x2 x3 x4 x5 x6 _ _ _ hw h (lv_sub hl [0, 1, 2, 3, 4, 5] rfl)
      · have hw := hwf c_57
        refine lv_iload X.1 X.2.1 dX12_fires_97 (lv_at hl 4 rfl) ?_
        refine lv_iload X.1 X.2.1 dX12_fires_99 (lv_at hl 5 rfl) ?_
        refine k_i h (r_S (As := [.int (iv x5), .int (iv x6)]) (rest := []) X h (c_X12_areBeside l D ct ad L φ N0 σ x5 x6 _ hw) rfl rfl ⟨Nat.le_of_ble_eq_true rfl, Nat.le_of_ble_eq_true rfl⟩ kw_2207 kw_2208 kw_129 kw_2209 pd_X12_areBeside rfl hl.1 rfl (Nat.le_of_ble_eq_true rfl) ⟨Nat.le_of_ble_eq_true rfl, Nat.le_of_ble_eq_true rfl⟩ dX12_fires_101) (fun r_41 σ_40 H locs hw h => ?_)
        obtain ⟨g_42, hwt, hwf⟩ := hw
        refine j_if_eq (tgt := 150) X g_42 dX12_fires_104 (by decide) (fun c_56 => ?_) (fun c_56 => ?_)
        · have hw := hwt c_56
          exact lb_X12_fires_150 X ih hK156 σ_40 x2 x3 x4 x5 x6 _ _ _ hw h (lv_sub hl [0, 1, 2, 3, 4, 5] rfl)
        · have hw := hwf c_56
          refine lv_aload_n X.1 X.2.1 dX12_fires_107 rfl (lv_at hl 0 rfl) ?_
          refine r_getR (ci := 12) X inw_12 h (hF.1 12 rfl).1 rfl rfl 3 (by decide) kw_1641 rfl ((hF.1 12 rfl).2 3) dX12_fires_108 ?_
          refine lv_iload X.1 X.2.1 dX12_fires_111 (lv_at hl 5 rfl) ?_
          obtain ⟨g_43, g_44, hw⟩ := hw
          refine r_iald (n := 64) X h (hF.1 84 rfl).1 rfl (by decide) g_43 g_44 dX12_fires_113 ?_
          refine lv_aload_n X.1 X.2.1 dX12_fires_114 rfl (lv_at hl 0 rfl) ?_
          refine lv_iload X.1 X.2.1 dX12_fires_115 (lv_at hl 5 rfl) ?_
          refine k_i h (r_V (C := RX12) (ci := 12) (As := [.int (iv x6)]) (rest := [.int (iv (σ_40 84 0 (Int.toNat x6)))]) X h (c_X12_stemsOf l D ct ad L φ N0 σ_40 x6 _ hw) rfl rfl ⟨Nat.le_of_ble_eq_true rfl, Nat.le_of_ble_eq_true rfl⟩ kw_2341 kw_2343 kw_106 kw_129 kw_2344 ⟨rfl, pd_X12_stemsOf⟩ (hF.1 12 rfl).1 rfl rfl rfl hl.1 rfl (Nat.le_of_ble_eq_true rfl) ⟨Nat.le_of_ble_eq_true rfl, Nat.le_of_ble_eq_true rfl⟩ dX12_fires_117) (fun r_46 σ_45 H locs hw h => ?_)
          refine j_iadd X dX12_fires_120 ?_
          obtain ⟨g_47, hwt, hwf⟩ := hw
          refine j_if_eq (tgt := 150) X g_47 dX12_fires_121 (by decide) (fun c_55 => ?_) (fun c_55 => ?_)
          · have hw := hwt c_55
            exact lb_X12_fires_150 X ih hK156 σ_45 x2 x3 x4 x5 x6 _ _ _ hw h (lv_sub hl [0, 1, 2, 3, 4, 5] rfl)
          · have hw := hwf c_55
            refine lv_aload_n X.1 X.2.1 dX12_fires_124 rfl (lv_at hl 0 rfl) ?_
            refine lv_iload X.1 X.2.1 dX12_fires_125 (lv_at hl 4 rfl) ?_
            refine lv_iload X.1 X.2.1 dX12_fires_127 (lv_at hl 5 rfl) ?_
            refine lv_iload_n X.1 X.2.1 dX12_fires_129 rfl (lv_at hl 1 rfl) ?_
            refine k_i h (r_V (C := RX12) (ci := 12) (As := [.int (iv x5), .int (iv x6), .int (iv x2)]) (rest := []) X h (c_X12_fuel l D ct ad L φ N0 σ_45 x5 x6 x2 _ hw) rfl rfl ⟨Nat.le_of_ble_eq_true rfl, Nat.le_of_ble_eq_true rfl⟩ kw_2345 kw_2347 kw_107 kw_129 kw_2348 ⟨rfl, pd_X12_fuel⟩ (hF.1 12 rfl).1 rfl rfl rfl hl.1 rfl (Nat.le_of_ble_eq_true rfl) ⟨Nat.le_of_ble_eq_true rfl, Nat.le_of_ble_eq_true rfl⟩ dX12_fires_130) (fun r_49 σ_48 H locs hw h => ?_)
            refine j_bipush X dX12_fires_133 (by decide) ?_
            obtain ⟨g_50, hwt, hwf⟩ := hw
            refine j_cmp_ge (tgt := 141) X g_50 ⟨by decide, by decide⟩ dX12_fires_135 (by decide) (fun c_54 => ?_) (fun c_54 => ?_)
            · have hw := hwt c_54
              refine lv_aload_n X.1 X.2.1 dX12_fires_141 rfl (lv_at hl 0 rfl) ?_
              refine r_getR (ci := 12) X inw_12 h (hF.1 12 rfl).1 rfl rfl 81 (by decide) kw_1719 rfl ((hF.1 12 rfl).2 81) dX12_fires_142 ?_
              refine lv_iload X.1 X.2.1 dX12_fires_145 (lv_at hl 5 rfl) ?_
              refine lv_iload X.1 X.2.1 dX12_fires_147 (lv_at hl 3 rfl) ?_
              obtain ⟨g_51, g_52, hw⟩ := hw
              refine r_iast (n := 64) X h (hF.1 141 rfl).1 (fun _ => rfl) (by decide) g_51 g_52 rfl dX12_fires_149 (fun H locs h => ?_)
              obtain ⟨σ_53, eσ_53⟩ : ∃ z : St, z = st σ_48 141 0 (Int.toNat x6) x4 := ⟨_, rfl⟩
              rw [← eσ_53] at h
              have hw := hw σ_53 eσ_53
              exact lb_X12_fires_150 X ih hK156 σ_53 x2 x3 x4 x5 x6 _ _ _ hw h (lv_sub hl [0, 1, 2, 3, 4, 5] rfl)
            · have hw := hwf c_54
              refine lv_goto (tgt := 150) X.1 X.2.1 dX12_fires_138 (by decide) ?_
              exact lb_X12_fires_150 X ih hK156 σ_48 x2 x3 x4 x5 x6 _ _ _ hw h (lv_sub hl [0, 1, 2, 3, 4, 5] rfl)
set_option maxRecDepth 100000 in
set_option maxHeartbeats 4000000 in
theorem lb_X12_fires_43 (X : Cx p s m meth c args cX12_fires 7 (some .int) RX12 D ct L φ N0) {K162 : St → Int → Int → Int → Prop} (hK162 : ∀ (σ : St) (x2 : Int) (x3 : Int) (x4 : Int) (H : Heap) (locs : List Loc) (ls : Array Slot), K162 σ x2 x3 x4 → Hs D ct ad L φ N0 s.heap σ H locs → lv_has ls 7 [(0, .ref (ad 12 0)), (2, .int (iv x2)), (3, .int (iv x3)), (4, .int (iv x4))] → W p l e ({ frames := 3, cells := 0, slots := 0, locals := 64 } : Room) s m args below meth c H locs 0 0 (MQ below (Qi D ct ad L φ N0 Q) args s 0 0 (AA N0)) (F0 m 162 ls [])) : ∀ (n : Nat) (σ : St) (x2 : Int) (x3 : Int) (x4 : Int) (x5 : Int) (H : Heap) (locs : List Loc) (ls : Array Slot), wp_X12_fires_43 K162 Q n σ x2 x3 x4 x5 → Hs D ct ad L φ N0 s.heap σ H locs → lv_has ls 7 [(0, .ref (ad 12 0)), (2, .int (iv x2)), (3, .int (iv x3)), (4, .int (iv x4)), (5, .int (iv x5))] → W p l e ({ frames := 3, cells := 0, slots := 0, locals := 64 } : Room) s m args below meth c H locs 0 0 (MQ below (Qi D ct ad L φ N0 Q) args s 0 0 (AA N0)) (F0 m 43 ls []) := by
  have hF := X.2.2.2.2.2.2.2.2.1
  intro n
  induction n with
  | zero => intro σ x2 x3 x4 x5 H locs ls hw; exact hw.elim
  | succ n ih =>
    intro σ x2 x3 x4 x5 H locs ls hw h hl
    unfold wp_X12_fires_43 at hw
    refine lv_iload X.1 X.2.1 dX12_fires_43 (lv_at hl 4 rfl) ?_
    refine j_bipush X dX12_fires_45 (by decide) ?_
    obtain ⟨g_59, hwt, hwf⟩ := hw
    refine j_cmp_ge (tgt := 162) X g_59 ⟨by decide, by decide⟩ dX12_fires_47 (by decide) (fun c_69 => ?_) (fun c_69 => ?_)
    · have hw := hwt c_69
      exact hK162 σ x2 x3 x4 _ _ _ hw h (lv_sub hl [0, 1, 2, 3] rfl)
    · have hw := hwf c_69
      refine lv_aload_n X.1 X.2.1 dX12_fires_50 rfl (lv_at hl 0 rfl) ?_
      refine r_getR (ci := 12) X inw_12 h (hF.1 12 rfl).1 rfl rfl 81 (by decide) kw_1719 rfl ((hF.1 12 rfl).2 81) dX12_fires_51 ?_
      refine lv_iload X.1 X.2.1 dX12_fires_54 (lv_at hl 4 rfl) ?_
      obtain ⟨g_60, g_61, hw⟩ := hw
      refine r_iald (n := 64) X h (hF.1 141 rfl).1 rfl (by decide) g_60 g_61 dX12_fires_56 ?_
      refine j_iconst X dX12_fires_57 ?_
      obtain ⟨g_62, hwt, hwf⟩ := hw
      refine j_cmp_eq (tgt := 156) X g_62 ⟨by decide, by decide⟩ dX12_fires_58 (by decide) (fun c_68 => ?_) (fun c_68 => ?_)
      · have hw := hwt c_68
        exact lb_X12_fires_156 X ih hK162 σ x2 x3 x4 x5 _ _ _ hw h (lv_sub hl [0, 1, 2, 3, 4] rfl)
      · have hw := hwf c_68
        refine lv_aload_n X.1 X.2.1 dX12_fires_61 rfl (lv_at hl 0 rfl) ?_
        refine r_getR (ci := 12) X inw_12 h (hF.1 12 rfl).1 rfl rfl 81 (by decide) kw_1719 rfl ((hF.1 12 rfl).2 81) dX12_fires_62 ?_
        refine lv_iload X.1 X.2.1 dX12_fires_65 (lv_at hl 4 rfl) ?_
        obtain ⟨g_63, g_64, hw⟩ := hw
        refine r_iald (n := 64) X h (hF.1 141 rfl).1 rfl (by decide) g_63 g_64 dX12_fires_67 ?_
        refine lv_iload X.1 X.2.1 dX12_fires_68 (lv_at hl 3 rfl) ?_
        obtain ⟨g_65, g_66, hwt, hwf⟩ := hw
        refine j_cmp_lt (tgt := 76) X g_65 g_66 dX12_fires_70 (by decide) (fun c_67 => ?_) (fun c_67 => ?_)
        · have hw := hwt c_67
          refine j_iconst X dX12_fires_76 ?_
          refine lv_istore (lv' := [(6, .int (iv 0)), (0, .ref (ad 12 0)), (2, .int (iv x2)), (3, .int (iv x3)), (4, .int (iv x4)), (5, .int (iv x5))]) X.1 X.2.1 dX12_fires_77 hl (by decide) rfl (fun ls hl => ?_)
          exact hw.elim (fun n79 hw => lb_X12_fires_79 X (lb_X12_fires_156 X ih hK162) n79 σ x2 x3 x4 x5 0 _ _ _ hw h (lv_sub hl [1, 2, 3, 4, 5, 0] rfl))
        · have hw := hwf c_67
          refine lv_goto (tgt := 156) X.1 X.2.1 dX12_fires_73 (by decide) ?_
          exact lb_X12_fires_156 X ih hK162 σ x2 x3 x4 x5 _ _ _ hw h (lv_sub hl [0, 1, 2, 3, 4] rfl)
set_option maxRecDepth 100000 in
set_option maxHeartbeats 4000000 in
theorem lb_X12_fires_34 (X : Cx p s m meth c args cX12_fires 7 (some .int) RX12 D ct L φ N0) {K168 : St → Prop} (hK168 : ∀ (σ : St) (H : Heap) (locs : List Loc) (ls : Array Slot), K168 σ → Hs D ct ad L φ N0 s.heap σ H locs → lv_has ls 7 [(0, .ref (ad 12 0))] → W p l e ({ frames := 3, cells := 0, slots := 0, locals := 64 } : Room) s m args below meth c H locs 0 0 (MQ below (Qi D ct ad L φ N0 Q) args s 0 0 (AA N0)) (F0 m 168 ls [])) : ∀ (n : Nat) (σ : St) (x2 : Int) (x3 : Int) (x4 : Int) (H : Heap) (locs : List Loc) (ls : Array Slot), wp_X12_fires_34 K168 Q n σ x2 x3 x4 → Hs D ct ad L φ N0 s.heap σ H locs → lv_has ls 7 [(0, .ref (ad 12 0)), (2, .int (iv x2)), (3, .int (iv x3)), (4, .int (iv x4))] → W p l e ({ frames := 3, cells := 0, slots := 0, locals := 64 } : Room) s m args below meth c H locs 0 0 (MQ below (Qi D ct ad L φ N0 Q) args s 0 0 (AA N0)) (F0 m 34 ls []) := by
  have hF := X.2.2.2.2.2.2.2.2.1
  intro n
  induction n with
  | zero => intro σ x2 x3 x4 H locs ls hw; exact hw.elim
  | succ n ih =>
    intro σ x2 x3 x4 H locs ls hw h hl
    unfold wp_X12_fires_34 at hw
    refine lv_iload X.1 X.2.1 dX12_fires_34 (lv_at hl 3 rfl) ?_
    refine lv_iload_n X.1 X.2.1 dX12_fires_36 rfl (lv_at hl 2 rfl) ?_
    obtain ⟨g_70, g_71, hwt, hwf⟩ := hw
    refine j_cmp_gt (tgt := 168) X g_70 g_71 dX12_fires_37 (by decide) (fun c_72 => ?_) (fun c_72 => ?_)
    · have hw := hwt c_72
      exact hK168 σ _ _ _ hw h (lv_sub hl [0] rfl)
    · have hw := hwf c_72
      refine j_iconst X dX12_fires_40 ?_
      refine lv_istore (lv' := [(5, .int (iv 0)), (0, .ref (ad 12 0)), (2, .int (iv x2)), (3, .int (iv x3)), (4, .int (iv x4))]) X.1 X.2.1 dX12_fires_41 hl (by decide) rfl (fun ls hl => ?_)
      exact hw.elim (fun n43 hw => lb_X12_fires_43 X (lb_X12_fires_162 X ih hK168) n43 σ x2 x3 x4 0 _ _ _ hw h (lv_sub hl [1, 2, 3, 4, 0] rfl))
set_option maxRecDepth 100000 in
set_option maxHeartbeats 4000000 in
theorem lb_X12_fires_24 (X : Cx p s m meth c args cX12_fires 7 (some .int) RX12 D ct L φ N0) (σ : St) (x1 : Int) (x2 : Int) (x3 : Int) (H : Heap) (locs : List Loc) (ls : Array Slot) (hw : wp_X12_fires_24 Q σ x1 x2 x3) (h : Hs D ct ad L φ N0 s.heap σ H locs) (hl : lv_has ls 7 [(0, .ref (ad 12 0)), (1, .int (iv x1)), (2, .int (iv x2)), (3, .int (iv x3))]) : W p l e ({ frames := 3, cells := 0, slots := 0, locals := 64 } : Room) s m args below meth c H locs 0 0 (MQ below (Qi D ct ad L φ N0 Q) args s 0 0 (AA N0)) (F0 m 24 ls []) := by
  have hF := X.2.2.2.2.2.2.2.2.1
  unfold wp_X12_fires_24 at hw
  refine lv_aload_n X.1 X.2.1 dX12_fires_24 rfl (lv_at hl 0 rfl) ?_
  refine r_getR (ci := 12) X inw_12 h (hF.1 12 rfl).1 rfl rfl 81 (by decide) kw_1719 rfl ((hF.1 12 rfl).2 81) dX12_fires_25 ?_
  refine lv_iload_n X.1 X.2.1 dX12_fires_28 rfl (lv_at hl 1 rfl) ?_
  refine j_iconst X dX12_fires_29 ?_
  obtain ⟨g_73, g_74, hw⟩ := hw
  refine r_iast (n := 64) X h (hF.1 141 rfl).1 (fun _ => rfl) (by decide) g_73 g_74 rfl dX12_fires_30 (fun H locs h => ?_)
  obtain ⟨σ_75, eσ_75⟩ : ∃ z : St, z = st σ 141 0 (Int.toNat x1) 0 := ⟨_, rfl⟩
  rw [← eσ_75] at h
  have hw := hw σ_75 eσ_75
  refine j_iconst X dX12_fires_31 ?_
  refine lv_istore (lv' := [(4, .int (iv 1)), (0, .ref (ad 12 0)), (1, .int (iv x1)), (2, .int (iv x2)), (3, .int (iv x3))]) X.1 X.2.1 dX12_fires_32 hl (by decide) rfl (fun ls hl => ?_)
  exact hw.elim (fun n34 hw => lb_X12_fires_34 X (lb_X12_fires_168 X) n34 σ_75 x2 x3 1 _ _ _ hw h (lv_sub hl [1, 3, 4, 0] rfl))
set_option maxRecDepth 100000 in
set_option maxHeartbeats 4000000 in
theorem lb_X12_fires_3 (X : Cx p s m meth c args cX12_fires 7 (some .int) RX12 D ct L φ N0) {K24 : St → Int → Int → Int → Prop} (hK24 : ∀ (σ : St) (x1 : Int) (x2 : Int) (x3 : Int) (H : Heap) (locs : List Loc) (ls : Array Slot), K24 σ x1 x2 x3 → Hs D ct ad L φ N0 s.heap σ H locs → lv_has ls 7 [(0, .ref (ad 12 0)), (1, .int (iv x1)), (2, .int (iv x2)), (3, .int (iv x3))] → W p l e ({ frames := 3, cells := 0, slots := 0, locals := 64 } : Room) s m args below meth c H locs 0 0 (MQ below (Qi D ct ad L φ N0 Q) args s 0 0 (AA N0)) (F0 m 24 ls [])) : ∀ (n : Nat) (σ : St) (x1 : Int) (x2 : Int) (x3 : Int) (x4 : Int) (H : Heap) (locs : List Loc) (ls : Array Slot), wp_X12_fires_3 K24 Q n σ x1 x2 x3 x4 → Hs D ct ad L φ N0 s.heap σ H locs → lv_has ls 7 [(0, .ref (ad 12 0)), (1, .int (iv x1)), (2, .int (iv x2)), (3, .int (iv x3)), (4, .int (iv x4))] → W p l e ({ frames := 3, cells := 0, slots := 0, locals := 64 } : Room) s m args below meth c H locs 0 0 (MQ below (Qi D ct ad L φ N0 Q) args s 0 0 (AA N0)) (F0 m 3 ls []) := by
  have hF := X.2.2.2.2.2.2.2.2.1
  intro n
  induction n with
  | zero => intro σ x1 x2 x3 x4 H locs ls hw; exact hw.elim
  | succ n ih =>
    intro σ x1 x2 x3 x4 H locs ls hw h hl
    unfold wp_X12_fires_3 at hw
    refine lv_iload X.1 X.2.1 dX12_fires_3 (lv_at hl 4 rfl) ?_
    refine j_bipush X dX12_fires_5 (by decide) ?_
    obtain ⟨g_76, hwt, hwf⟩ := hw
    refine j_cmp_ge (tgt := 24) X g_76 ⟨by decide, by decide⟩ dX12_fires_7 (by decide) (fun c_80 => ?_) (fun c_80 => ?_)
    · have hw := hwt c_80
      exact hK24 σ x1 x2 x3 _ _ _ hw h (lv_sub hl [0, 1, 2, 3] rfl)
    · have hw := hwf c_80
      refine lv_aload_n X.1 X.2.1 dX12_fires_10 rfl (lv_at hl 0 rfl) ?_
      refine r_getR (ci := 12) X inw_12 h (hF.1 12 rfl).1 rfl rfl 81 (by decide) kw_1719 rfl ((hF.1 12 rfl).2 81) dX12_fires_11 ?_
      refine lv_iload X.1 X.2.1 dX12_fires_14 (lv_at hl 4 rfl) ?_
      refine j_iconst X dX12_fires_16 ?_
      obtain ⟨g_77, g_78, hw⟩ := hw
      refine r_iast (n := 64) X h (hF.1 141 rfl).1 (fun _ => rfl) (by decide) g_77 g_78 rfl dX12_fires_17 (fun H locs h => ?_)
      obtain ⟨σ_79, eσ_79⟩ : ∃ z : St, z = st σ 141 0 (Int.toNat x4) (-1) := ⟨_, rfl⟩
      rw [← eσ_79] at h
      have hw := hw σ_79 eσ_79
      refine j_iinc (kk9 := 4) (lv' := [(4, .int (iv (x4 + 1))), (0, .ref (ad 12 0)), (1, .int (iv x1)), (2, .int (iv x2)), (3, .int (iv x3))]) X dX12_fires_18 hl rfl (by decide) rfl (fun ls hl => ?_)
      refine lv_goto (tgt := 3) X.1 X.2.1 dX12_fires_21 (by decide) ?_
      exact ih σ_79 x1 x2 x3 (x4 + 1) _ _ _ hw h (lv_sub hl [1, 2, 3, 4, 0] rfl)
theorem pd_X12_fires : yX12_fires.cls ≠ "java/lang/invoke/MethodHandle" ∧ yX12_fires.cls ≠ "java/lang/invoke/VarHandle" ∧ (parseMethodDescriptor yX12_fires.desc).map (fun d => d.parameters.length) = some 3 := by decide +kernel
set_option maxRecDepth 100000 in
set_option maxHeartbeats 4000000 in
theorem c_X12_fires (l : Launch) (D : va_G) (ct : Nat → ClassId) (ad : Nat → Nat → Nat) (L : List (Nat × Nat)) (φ : Nat → Nat → Nat → Bool) (N0 : Nat) (σ : St) (x1 : Int) (x2 : Int) (x3 : Int) (Q : Int → St → Prop) (hw : wp_X12_fires σ x1 x2 x3 Q) : Met l yX12_fires (.code yX12_fires cX12_fires 7 (some .int) :: gw) ({ frames := 3, cells := 0, slots := 0, locals := 64 } : Room) (Pm D ct ad L φ N0 σ [.ref (ad 12 0), .int (iv x1), .int (iv x2), .int (iv x3)]) (Qi D ct ad L φ N0 Q) 0 0 (AA N0) := by
  refine m_of (by decide) (fun p e s m below meth c X hnm h => ?_)
  have hF := X.2.2.2.2.2.2.2.2.1
  have hl := lv_entry ([.ref (ad 12 0), .int (iv x1), .int (iv x2), .int (iv x3)]) (n := 7) (Nat.le_of_ble_eq_true rfl)
  rw [lg_entry_eq]
  generalize (lg_sl ([.ref (ad 12 0), .int (iv x1), .int (iv x2), .int (iv x3)]) ++ List.replicate (7 - (lg_sl ([.ref (ad 12 0), .int (iv x1), .int (iv x2), .int (iv x3)])).length) Slot.unset).toArray = ls at hl ⊢
  have hl : lv_has ls 7 [(0, .ref (ad 12 0)), (1, .int (iv x1)), (2, .int (iv x2)), (3, .int (iv x3))] := hl
  have h : Hs D ct ad L φ N0 s.heap σ s.heap [] := h
  unfold wp_X12_fires at hw
  refine j_iconst X dX12_fires_0 ?_
  refine lv_istore (lv' := [(4, .int (iv 0)), (0, .ref (ad 12 0)), (1, .int (iv x1)), (2, .int (iv x2)), (3, .int (iv x3))]) X.1 X.2.1 dX12_fires_1 hl (by decide) rfl (fun ls hl => ?_)
  exact hw.elim (fun n3 hw => lb_X12_fires_3 X (lb_X12_fires_24 X) n3 σ x1 x2 x3 0 _ _ _ hw h (lv_sub hl [1, 2, 3, 4, 0] rfl))
end
section
variable {p : Program} {l : Launch} {e : Env} {s : State} {m : MethodId} {args : Array Value} {below : List Frame} {meth : Method} {c : Code} {D : va_G} {ct : Nat → ClassId} {ad : Nat → Nat → Nat} {L : List (Nat × Nat)} {φ : Nat → Nat → Nat → Bool} {N0 : Nat}
variable {Q : Int → St → Prop}
theorem pd_X12_fire : yX12_fire.cls ≠ "java/lang/invoke/MethodHandle" ∧ yX12_fire.cls ≠ "java/lang/invoke/VarHandle" ∧ (parseMethodDescriptor yX12_fire.desc).map (fun d => d.parameters.length) = some 3 := by decide +kernel
set_option maxRecDepth 100000 in
set_option maxHeartbeats 4000000 in
theorem c_X12_fire (l : Launch) (D : va_G) (ct : Nat → ClassId) (ad : Nat → Nat → Nat) (L : List (Nat × Nat)) (φ : Nat → Nat → Nat → Bool) (N0 : Nat) (σ : St) (x1 : Int) (x2 : Int) (x3 : Int) (Q : Int → St → Prop) (hw : wp_X12_fire σ x1 x2 x3 Q) : Met l yX12_fire (.code yX12_fire cX12_fire 4 (some .int) :: gw) ({ frames := 4, cells := 0, slots := 0, locals := 90 } : Room) (Pm D ct ad L φ N0 σ [.ref (ad 12 0), .int (iv x1), .int (iv x2), .int (iv x3)]) (Qi D ct ad L φ N0 Q) 0 0 (AA N0) := by
  refine m_of (by decide) (fun p e s m below meth c X hnm h => ?_)
  have hF := X.2.2.2.2.2.2.2.2.1
  have hl := lv_entry ([.ref (ad 12 0), .int (iv x1), .int (iv x2), .int (iv x3)]) (n := 4) (Nat.le_of_ble_eq_true rfl)
  rw [lg_entry_eq]
  generalize (lg_sl ([.ref (ad 12 0), .int (iv x1), .int (iv x2), .int (iv x3)]) ++ List.replicate (4 - (lg_sl ([.ref (ad 12 0), .int (iv x1), .int (iv x2), .int (iv x3)])).length) Slot.unset).toArray = ls at hl ⊢
  have hl : lv_has ls 4 [(0, .ref (ad 12 0)), (1, .int (iv x1)), (2, .int (iv x2)), (3, .int (iv x3))] := hl
  have h : Hs D ct ad L φ N0 s.heap σ s.heap [] := h
  unfold wp_X12_fire at hw
  refine lv_aload_n X.1 X.2.1 dX12_fire_0 rfl (lv_at hl 0 rfl) ?_
  refine j_iconst X dX12_fire_1 ?_
  refine r_put (ci := 12) X inw_12 tyX12 tyX12_ok nmX12 h (hF.1 12 rfl).1 rfl rfl 0 (by decide) kw_1638 rfl rfl rfl (Nat.le_of_ble_eq_true rfl) rfl rfl dX12_fire_2 (fun H locs h => ?_)
  obtain ⟨σ_1, eσ_1⟩ : ∃ z : St, z = st σ 12 0 0 0 := ⟨_, rfl⟩
  rw [← eσ_1] at h
  have hw := hw σ_1 eσ_1
  refine lv_iload_n X.1 X.2.1 dX12_fire_5 rfl (lv_at hl 1 rfl) ?_
  refine k_i h (r_S (As := [.int (iv x1)]) (rest := []) X h (c_X12_isCell l D ct ad L φ N0 σ_1 x1 _ hw) rfl rfl ⟨Nat.le_of_ble_eq_true rfl, Nat.le_of_ble_eq_true rfl⟩ kw_1956 kw_1957 kw_129 kw_1958 pd_X12_isCell rfl hl.1 rfl (Nat.le_of_ble_eq_true rfl) ⟨Nat.le_of_ble_eq_true rfl, Nat.le_of_ble_eq_true rfl⟩ dX12_fire_6) (fun r_3 σ_2 H locs hw h => ?_)
  obtain ⟨g_4, hwt, hwf⟩ := hw
  refine j_if_eq (tgt := 41) X g_4 dX12_fire_9 (by decide) (fun c_15 => ?_) (fun c_15 => ?_)
  · have hw := hwt c_15
    refine j_iconst X dX12_fire_41 ?_
    exact k_ir X rfl h hw dX12_fire_42
  · have hw := hwf c_15
    refine lv_iload_n X.1 X.2.1 dX12_fire_12 rfl (lv_at hl 2 rfl) ?_
    refine j_iconst X dX12_fire_13 ?_
    refine j_iconst X dX12_fire_14 ?_
    refine k_i h (r_S (As := [.int (iv x2), .int (iv 0), .int (iv 3)]) (rest := []) X h (c_X12_within l D ct ad L φ N0 σ_2 x2 0 3 _ hw) rfl rfl ⟨Nat.le_of_ble_eq_true rfl, Nat.le_of_ble_eq_true rfl⟩ kw_1959 kw_1960 kw_129 kw_1961 pd_X12_within rfl hl.1 rfl (Nat.le_of_ble_eq_true rfl) ⟨Nat.le_of_ble_eq_true rfl, Nat.le_of_ble_eq_true rfl⟩ dX12_fire_15) (fun r_6 σ_5 H locs hw h => ?_)
    obtain ⟨g_7, hwt, hwf⟩ := hw
    refine j_if_eq (tgt := 41) X g_7 dX12_fire_18 (by decide) (fun c_14 => ?_) (fun c_14 => ?_)
    · have hw := hwt c_14
      refine j_iconst X dX12_fire_41 ?_
      exact k_ir X rfl h hw dX12_fire_42
    · have hw := hwf c_14
      refine lv_iload_n X.1 X.2.1 dX12_fire_21 rfl (lv_at hl 3 rfl) ?_
      refine j_iconst X dX12_fire_22 ?_
      refine j_bipush X dX12_fire_23 (by decide) ?_
      refine k_i h (r_S (As := [.int (iv x3), .int (iv 1), .int (iv 20)]) (rest := []) X h (c_X12_within l D ct ad L φ N0 σ_5 x3 1 20 _ hw) rfl rfl ⟨Nat.le_of_ble_eq_true rfl, Nat.le_of_ble_eq_true rfl⟩ kw_1959 kw_1960 kw_129 kw_1961 pd_X12_within rfl hl.1 rfl (Nat.le_of_ble_eq_true rfl) ⟨Nat.le_of_ble_eq_true rfl, Nat.le_of_ble_eq_true rfl⟩ dX12_fire_25) (fun r_9 σ_8 H locs hw h => ?_)
      obtain ⟨g_10, hwt, hwf⟩ := hw
      refine j_if_eq (tgt := 41) X g_10 dX12_fire_28 (by decide) (fun c_13 => ?_) (fun c_13 => ?_)
      · have hw := hwt c_13
        refine j_iconst X dX12_fire_41 ?_
        exact k_ir X rfl h hw dX12_fire_42
      · have hw := hwf c_13
        refine lv_aload_n X.1 X.2.1 dX12_fire_31 rfl (lv_at hl 0 rfl) ?_
        refine lv_iload_n X.1 X.2.1 dX12_fire_32 rfl (lv_at hl 1 rfl) ?_
        refine lv_iload_n X.1 X.2.1 dX12_fire_33 rfl (lv_at hl 2 rfl) ?_
        refine lv_iload_n X.1 X.2.1 dX12_fire_34 rfl (lv_at hl 3 rfl) ?_
        refine k_i h (r_V (C := RX12) (ci := 12) (As := [.int (iv x1), .int (iv x2), .int (iv x3)]) (rest := []) X h (c_X12_fires l D ct ad L φ N0 σ_8 x1 x2 x3 _ hw) rfl rfl ⟨Nat.le_of_ble_eq_true rfl, Nat.le_of_ble_eq_true rfl⟩ kw_2337 kw_2339 kw_105 kw_129 kw_2340 ⟨rfl, pd_X12_fires⟩ (hF.1 12 rfl).1 rfl rfl rfl hl.1 rfl (Nat.le_of_ble_eq_true rfl) ⟨Nat.le_of_ble_eq_true rfl, Nat.le_of_ble_eq_true rfl⟩ dX12_fire_35) (fun r_12 σ_11 H locs hw h => ?_)
        refine lv_goto (tgt := 42) X.1 X.2.1 dX12_fire_38 (by decide) ?_
        exact k_ir X rfl h hw dX12_fire_42
end
section
variable {p : Program} {l : Launch} {e : Env} {s : State} {m : MethodId} {args : Array Value} {below : List Frame} {meth : Method} {c : Code} {D : va_G} {ct : Nat → ClassId} {ad : Nat → Nat → Nat} {L : List (Nat × Nat)} {φ : Nat → Nat → Nat → Bool} {N0 : Nat}
variable {Q : Int → St → Prop}
theorem pd_X12_burn : yX12_burn.cls ≠ "java/lang/invoke/MethodHandle" ∧ yX12_burn.cls ≠ "java/lang/invoke/VarHandle" ∧ (parseMethodDescriptor yX12_burn.desc).map (fun d => d.parameters.length) = some 1 := by decide +kernel
set_option maxRecDepth 100000 in
set_option maxHeartbeats 4000000 in
theorem c_X12_burn (l : Launch) (D : va_G) (ct : Nat → ClassId) (ad : Nat → Nat → Nat) (L : List (Nat × Nat)) (φ : Nat → Nat → Nat → Bool) (N0 : Nat) (σ : St) (x1 : Int) (Q : Int → St → Prop) (hw : wp_X12_burn σ x1 Q) : Met l yX12_burn (.code yX12_burn cX12_burn 2 (some .int) :: gw) ({ frames := 4, cells := 0, slots := 0, locals := 90 } : Room) (Pm D ct ad L φ N0 σ [.ref (ad 12 0), .int (iv x1)]) (Qi D ct ad L φ N0 Q) 0 0 (AA N0) := by
  refine m_of (by decide) (fun p e s m below meth c X hnm h => ?_)
  have hF := X.2.2.2.2.2.2.2.2.1
  have hl := lv_entry ([.ref (ad 12 0), .int (iv x1)]) (n := 2) (Nat.le_of_ble_eq_true rfl)
  rw [lg_entry_eq]
  generalize (lg_sl ([.ref (ad 12 0), .int (iv x1)]) ++ List.replicate (2 - (lg_sl ([.ref (ad 12 0), .int (iv x1)])).length) Slot.unset).toArray = ls at hl ⊢
  have hl : lv_has ls 2 [(0, .ref (ad 12 0)), (1, .int (iv x1))] := hl
  have h : Hs D ct ad L φ N0 s.heap σ s.heap [] := h
  unfold wp_X12_burn at hw
  refine lv_aload_n X.1 X.2.1 dX12_burn_0 rfl (lv_at hl 0 rfl) ?_
  refine j_iconst X dX12_burn_1 ?_
  refine r_put (ci := 12) X inw_12 tyX12 tyX12_ok nmX12 h (hF.1 12 rfl).1 rfl rfl 0 (by decide) kw_1638 rfl rfl rfl (Nat.le_of_ble_eq_true rfl) rfl rfl dX12_burn_2 (fun H locs h => ?_)
  obtain ⟨σ_1, eσ_1⟩ : ∃ z : St, z = st σ 12 0 0 0 := ⟨_, rfl⟩
  rw [← eσ_1] at h
  have hw := hw σ_1 eσ_1
  refine lv_iload_n X.1 X.2.1 dX12_burn_5 rfl (lv_at hl 1 rfl) ?_
  refine k_i h (r_S (As := [.int (iv x1)]) (rest := []) X h (c_X12_isCell l D ct ad L φ N0 σ_1 x1 _ hw) rfl rfl ⟨Nat.le_of_ble_eq_true rfl, Nat.le_of_ble_eq_true rfl⟩ kw_1956 kw_1957 kw_129 kw_1958 pd_X12_isCell rfl hl.1 rfl (Nat.le_of_ble_eq_true rfl) ⟨Nat.le_of_ble_eq_true rfl, Nat.le_of_ble_eq_true rfl⟩ dX12_burn_6) (fun r_3 σ_2 H locs hw h => ?_)
  obtain ⟨g_4, hwt, hwf⟩ := hw
  refine j_if_ne (tgt := 14) X g_4 dX12_burn_9 (by decide) (fun c_19 => ?_) (fun c_19 => ?_)
  · have hw := hwt c_19
    refine lv_aload_n X.1 X.2.1 dX12_burn_14 rfl (lv_at hl 0 rfl) ?_
    refine lv_iload_n X.1 X.2.1 dX12_burn_15 rfl (lv_at hl 1 rfl) ?_
    refine k_v h (r_V (C := RX12) (ci := 12) (As := [.int (iv x1)]) (rest := []) X h (c_X12_asks l D ct ad L φ N0 σ_2 x1 _ hw) rfl rfl ⟨Nat.le_of_ble_eq_true rfl, Nat.le_of_ble_eq_true rfl⟩ kw_2146 kw_2148 kw_83 kw_129 kw_2149 ⟨rfl, pd_X12_asks⟩ (hF.1 12 rfl).1 rfl rfl rfl hl.1 rfl (Nat.le_of_ble_eq_true rfl) ⟨Nat.le_of_ble_eq_true rfl, Nat.le_of_ble_eq_true rfl⟩ dX12_burn_16) (fun σ_5 H locs hw h => ?_)
    refine lv_aload_n X.1 X.2.1 dX12_burn_19 rfl (lv_at hl 0 rfl) ?_
    refine j_iconst X dX12_burn_20 ?_
    refine k_i h (r_V (C := RX12) (ci := 12) (As := [.int (iv 2)]) (rest := []) X h (c_X12_barring l D ct ad L φ N0 σ_5 2 _ hw) rfl rfl ⟨Nat.le_of_ble_eq_true rfl, Nat.le_of_ble_eq_true rfl⟩ kw_2167 kw_2169 kw_86 kw_129 kw_2170 ⟨rfl, pd_X12_barring⟩ (hF.1 12 rfl).1 rfl rfl rfl hl.1 rfl (Nat.le_of_ble_eq_true rfl) ⟨Nat.le_of_ble_eq_true rfl, Nat.le_of_ble_eq_true rfl⟩ dX12_burn_21) (fun r_7 σ_6 H locs hw h => ?_)
    refine j_iconst X dX12_burn_24 ?_
    obtain ⟨g_8, hwt, hwf⟩ := hw
    refine j_cmp_eq (tgt := 31) X g_8 ⟨by decide, by decide⟩ dX12_burn_25 (by decide) (fun c_18 => ?_) (fun c_18 => ?_)
    · have hw := hwt c_18
      refine lv_aload_n X.1 X.2.1 dX12_burn_31 rfl (lv_at hl 0 rfl) ?_
      refine r_getR (ci := 12) X inw_12 h (hF.1 12 rfl).1 rfl rfl 3 (by decide) kw_1641 rfl ((hF.1 12 rfl).2 3) dX12_burn_32 ?_
      refine lv_iload_n X.1 X.2.1 dX12_burn_35 rfl (lv_at hl 1 rfl) ?_
      refine j_iconst X dX12_burn_36 ?_
      obtain ⟨g_9, g_10, hw⟩ := hw
      refine r_iast (n := 64) X h (hF.1 84 rfl).1 (fun _ => rfl) (by decide) g_9 g_10 rfl dX12_burn_37 (fun H locs h => ?_)
      obtain ⟨σ_11, eσ_11⟩ : ∃ z : St, z = st σ_6 84 0 (Int.toNat x1) 0 := ⟨_, rfl⟩
      rw [← eσ_11] at h
      have hw := hw σ_11 eσ_11
      refine lv_aload_n X.1 X.2.1 dX12_burn_38 rfl (lv_at hl 0 rfl) ?_
      refine lv_aload_n X.1 X.2.1 dX12_burn_39 rfl (lv_at hl 0 rfl) ?_
      refine r_get (ci := 12) X inw_12 h (hF.1 12 rfl).1 rfl rfl 1 (by decide) kw_1639 rfl dX12_burn_40 ?_
      refine j_iconst X dX12_burn_43 ?_
      refine k_i h (r_V (C := RX12) (ci := 12) (As := [.int (iv (σ_11 12 0 1)), .int (iv 2)]) (rest := []) X h (c_X12_sky l D ct ad L φ N0 σ_11 (σ_11 12 0 1) 2 _ hw) rfl rfl ⟨Nat.le_of_ble_eq_true rfl, Nat.le_of_ble_eq_true rfl⟩ kw_1988 kw_1990 kw_65 kw_129 kw_1991 ⟨rfl, pd_X12_sky⟩ (hF.1 12 rfl).1 rfl rfl rfl hl.1 rfl (Nat.le_of_ble_eq_true rfl) ⟨Nat.le_of_ble_eq_true rfl, Nat.le_of_ble_eq_true rfl⟩ dX12_burn_44) (fun r_13 σ_12 H locs hw h => ?_)
      refine j_bipush X dX12_burn_47 (by decide) ?_
      obtain ⟨g_14, hwt, hwf⟩ := hw
      refine j_cmp_lt (tgt := 62) X g_14 ⟨by decide, by decide⟩ dX12_burn_49 (by decide) (fun c_17 => ?_) (fun c_17 => ?_)
      · have hw := hwt c_17
        refine j_iconst X dX12_burn_62 ?_
        exact k_ir X rfl h hw dX12_burn_63
      · have hw := hwf c_17
        refine lv_aload_n X.1 X.2.1 dX12_burn_52 rfl (lv_at hl 0 rfl) ?_
        refine lv_iload_n X.1 X.2.1 dX12_burn_53 rfl (lv_at hl 1 rfl) ?_
        refine j_iconst X dX12_burn_54 ?_
        refine j_iconst X dX12_burn_55 ?_
        refine k_i h (r_V (C := RX12) (ci := 12) (As := [.int (iv x1), .int (iv 0), .int (iv 3)]) (rest := []) X h (c_X12_fires l D ct ad L φ N0 σ_12 x1 0 3 _ hw) rfl rfl ⟨Nat.le_of_ble_eq_true rfl, Nat.le_of_ble_eq_true rfl⟩ kw_2337 kw_2339 kw_105 kw_129 kw_2340 ⟨rfl, pd_X12_fires⟩ (hF.1 12 rfl).1 rfl rfl rfl hl.1 rfl (Nat.le_of_ble_eq_true rfl) ⟨Nat.le_of_ble_eq_true rfl, Nat.le_of_ble_eq_true rfl⟩ dX12_burn_56) (fun r_16 σ_15 H locs hw h => ?_)
        refine lv_goto (tgt := 63) X.1 X.2.1 dX12_burn_59 (by decide) ?_
        exact k_ir X rfl h hw dX12_burn_63
    · have hw := hwf c_18
      refine j_bipush X dX12_burn_28 (by decide) ?_
      exact k_ir X rfl h hw dX12_burn_30
  · have hw := hwf c_19
    refine j_iconst X dX12_burn_12 ?_
    exact k_ir X rfl h hw dX12_burn_13
end
section
variable {p : Program} {l : Launch} {e : Env} {s : State} {m : MethodId} {args : Array Value} {below : List Frame} {meth : Method} {c : Code} {D : va_G} {ct : Nat → ClassId} {ad : Nat → Nat → Nat} {L : List (Nat × Nat)} {φ : Nat → Nat → Nat → Bool} {N0 : Nat}
variable {Q : Int → St → Prop}
theorem pd_X12_spur : yX12_spur.cls ≠ "java/lang/invoke/MethodHandle" ∧ yX12_spur.cls ≠ "java/lang/invoke/VarHandle" ∧ (parseMethodDescriptor yX12_spur.desc).map (fun d => d.parameters.length) = some 3 := by decide +kernel
set_option maxRecDepth 100000 in
set_option maxHeartbeats 4000000 in
theorem c_X12_spur (l : Launch) (D : va_G) (ct : Nat → ClassId) (ad : Nat → Nat → Nat) (L : List (Nat × Nat)) (φ : Nat → Nat → Nat → Bool) (N0 : Nat) (σ : St) (x1 : Int) (x2 : Int) (x3 : Int) (Q : Int → St → Prop) (hw : wp_X12_spur σ x1 x2 x3 Q) : Met l yX12_spur (.code yX12_spur cX12_spur 4 (some .int) :: gw) ({ frames := 1, cells := 0, slots := 0, locals := 22 } : Room) (Pm D ct ad L φ N0 σ [.ref (ad 12 0), .int (iv x1), .int (iv x2), .int (iv x3)]) (Qi D ct ad L φ N0 Q) 0 0 (AA N0) := by
  refine m_of (by decide) (fun p e s m below meth c X hnm h => ?_)
  have hF := X.2.2.2.2.2.2.2.2.1
  have hl := lv_entry ([.ref (ad 12 0), .int (iv x1), .int (iv x2), .int (iv x3)]) (n := 4) (Nat.le_of_ble_eq_true rfl)
  rw [lg_entry_eq]
  generalize (lg_sl ([.ref (ad 12 0), .int (iv x1), .int (iv x2), .int (iv x3)]) ++ List.replicate (4 - (lg_sl ([.ref (ad 12 0), .int (iv x1), .int (iv x2), .int (iv x3)])).length) Slot.unset).toArray = ls at hl ⊢
  have hl : lv_has ls 4 [(0, .ref (ad 12 0)), (1, .int (iv x1)), (2, .int (iv x2)), (3, .int (iv x3))] := hl
  have h : Hs D ct ad L φ N0 s.heap σ s.heap [] := h
  unfold wp_X12_spur at hw
  refine lv_aload_n X.1 X.2.1 dX12_spur_0 rfl (lv_at hl 0 rfl) ?_
  refine j_iconst X dX12_spur_1 ?_
  refine r_put (ci := 12) X inw_12 tyX12 tyX12_ok nmX12 h (hF.1 12 rfl).1 rfl rfl 0 (by decide) kw_1638 rfl rfl rfl (Nat.le_of_ble_eq_true rfl) rfl rfl dX12_spur_2 (fun H locs h => ?_)
  obtain ⟨σ_1, eσ_1⟩ : ∃ z : St, z = st σ 12 0 0 0 := ⟨_, rfl⟩
  rw [← eσ_1] at h
  have hw := hw σ_1 eσ_1
  refine lv_iload_n X.1 X.2.1 dX12_spur_5 rfl (lv_at hl 1 rfl) ?_
  refine j_iconst X dX12_spur_6 ?_
  obtain ⟨g_2, hwt, hwf⟩ := hw
  refine j_cmp_lt (tgt := 40) X g_2 ⟨by decide, by decide⟩ dX12_spur_7 (by decide) (fun c_23 => ?_) (fun c_23 => ?_)
  · have hw := hwt c_23
    refine j_iconst X dX12_spur_40 ?_
    exact k_ir X rfl h hw dX12_spur_41
  · have hw := hwf c_23
    refine lv_iload_n X.1 X.2.1 dX12_spur_10 rfl (lv_at hl 2 rfl) ?_
    refine j_iconst X dX12_spur_11 ?_
    refine j_bipush X dX12_spur_12 (by decide) ?_
    refine k_i h (r_S (As := [.int (iv x2), .int (iv 1), .int (iv 50)]) (rest := []) X h (c_X12_within l D ct ad L φ N0 σ_1 x2 1 50 _ hw) rfl rfl ⟨Nat.le_of_ble_eq_true rfl, Nat.le_of_ble_eq_true rfl⟩ kw_1959 kw_1960 kw_129 kw_1961 pd_X12_within rfl hl.1 rfl (Nat.le_of_ble_eq_true rfl) ⟨Nat.le_of_ble_eq_true rfl, Nat.le_of_ble_eq_true rfl⟩ dX12_spur_14) (fun r_4 σ_3 H locs hw h => ?_)
    obtain ⟨g_5, hwt, hwf⟩ := hw
    refine j_if_eq (tgt := 40) X g_5 dX12_spur_17 (by decide) (fun c_22 => ?_) (fun c_22 => ?_)
    · have hw := hwt c_22
      refine j_iconst X dX12_spur_40 ?_
      exact k_ir X rfl h hw dX12_spur_41
    · have hw := hwf c_22
      refine lv_iload_n X.1 X.2.1 dX12_spur_20 rfl (lv_at hl 3 rfl) ?_
      refine j_iconst X dX12_spur_21 ?_
      refine j_sipush X dX12_spur_22 (by decide) ?_
      refine k_i h (r_S (As := [.int (iv x3), .int (iv 0), .int (iv 999)]) (rest := []) X h (c_X12_within l D ct ad L φ N0 σ_3 x3 0 999 _ hw) rfl rfl ⟨Nat.le_of_ble_eq_true rfl, Nat.le_of_ble_eq_true rfl⟩ kw_1959 kw_1960 kw_129 kw_1961 pd_X12_within rfl hl.1 rfl (Nat.le_of_ble_eq_true rfl) ⟨Nat.le_of_ble_eq_true rfl, Nat.le_of_ble_eq_true rfl⟩ dX12_spur_25) (fun r_7 σ_6 H locs hw h => ?_)
      obtain ⟨g_8, hwt, hwf⟩ := hw
      refine j_if_eq (tgt := 40) X g_8 dX12_spur_28 (by decide) (fun c_21 => ?_) (fun c_21 => ?_)
      · have hw := hwt c_21
        refine j_iconst X dX12_spur_40 ?_
        exact k_ir X rfl h hw dX12_spur_41
      · have hw := hwf c_21
        refine lv_aload_n X.1 X.2.1 dX12_spur_31 rfl (lv_at hl 0 rfl) ?_
        refine r_get (ci := 12) X inw_12 h (hF.1 12 rfl).1 rfl rfl 82 (by decide) kw_1720 rfl dX12_spur_32 ?_
        refine j_bipush X dX12_spur_35 (by decide) ?_
        obtain ⟨g_9, hwt, hwf⟩ := hw
        refine j_cmp_ne (tgt := 42) X g_9 ⟨by decide, by decide⟩ dX12_spur_37 (by decide) (fun c_20 => ?_) (fun c_20 => ?_)
        · have hw := hwt c_20
          refine lv_aload_n X.1 X.2.1 dX12_spur_42 rfl (lv_at hl 0 rfl) ?_
          refine r_getR (ci := 12) X inw_12 h (hF.1 12 rfl).1 rfl rfl 83 (by decide) kw_1721 rfl ((hF.1 12 rfl).2 83) dX12_spur_43 ?_
          refine lv_aload_n X.1 X.2.1 dX12_spur_46 rfl (lv_at hl 0 rfl) ?_
          refine r_get (ci := 12) X inw_12 h (hF.1 12 rfl).1 rfl rfl 82 (by decide) kw_1720 rfl dX12_spur_47 ?_
          refine lv_iload_n X.1 X.2.1 dX12_spur_50 rfl (lv_at hl 1 rfl) ?_
          obtain ⟨g_10, g_11, hw⟩ := hw
          refine r_iast (n := 9) X h (hF.1 142 rfl).1 (fun _ => rfl) (by decide) g_10 g_11 rfl dX12_spur_51 (fun H locs h => ?_)
          obtain ⟨σ_12, eσ_12⟩ : ∃ z : St, z = st σ_6 142 0 (Int.toNat (σ_6 12 0 82)) x1 := ⟨_, rfl⟩
          rw [← eσ_12] at h
          have hw := hw σ_12 eσ_12
          refine lv_aload_n X.1 X.2.1 dX12_spur_52 rfl (lv_at hl 0 rfl) ?_
          refine r_getR (ci := 12) X inw_12 h (hF.1 12 rfl).1 rfl rfl 84 (by decide) kw_1722 rfl ((hF.1 12 rfl).2 84) dX12_spur_53 ?_
          refine lv_aload_n X.1 X.2.1 dX12_spur_56 rfl (lv_at hl 0 rfl) ?_
          refine r_get (ci := 12) X inw_12 h (hF.1 12 rfl).1 rfl rfl 82 (by decide) kw_1720 rfl dX12_spur_57 ?_
          refine lv_iload_n X.1 X.2.1 dX12_spur_60 rfl (lv_at hl 2 rfl) ?_
          obtain ⟨g_13, g_14, hw⟩ := hw
          refine r_iast (n := 9) X h (hF.1 143 rfl).1 (fun _ => rfl) (by decide) g_13 g_14 rfl dX12_spur_61 (fun H locs h => ?_)
          obtain ⟨σ_15, eσ_15⟩ : ∃ z : St, z = st σ_12 143 0 (Int.toNat (σ_12 12 0 82)) x2 := ⟨_, rfl⟩
          rw [← eσ_15] at h
          have hw := hw σ_15 eσ_15
          refine lv_aload_n X.1 X.2.1 dX12_spur_62 rfl (lv_at hl 0 rfl) ?_
          refine r_getR (ci := 12) X inw_12 h (hF.1 12 rfl).1 rfl rfl 85 (by decide) kw_1723 rfl ((hF.1 12 rfl).2 85) dX12_spur_63 ?_
          refine lv_aload_n X.1 X.2.1 dX12_spur_66 rfl (lv_at hl 0 rfl) ?_
          refine r_get (ci := 12) X inw_12 h (hF.1 12 rfl).1 rfl rfl 82 (by decide) kw_1720 rfl dX12_spur_67 ?_
          refine lv_iload_n X.1 X.2.1 dX12_spur_70 rfl (lv_at hl 3 rfl) ?_
          obtain ⟨g_16, g_17, hw⟩ := hw
          refine r_iast (n := 9) X h (hF.1 144 rfl).1 (fun _ => rfl) (by decide) g_16 g_17 rfl dX12_spur_71 (fun H locs h => ?_)
          obtain ⟨σ_18, eσ_18⟩ : ∃ z : St, z = st σ_15 144 0 (Int.toNat (σ_15 12 0 82)) x3 := ⟨_, rfl⟩
          rw [← eσ_18] at h
          have hw := hw σ_18 eσ_18
          refine lv_aload_n X.1 X.2.1 dX12_spur_72 rfl (lv_at hl 0 rfl) ?_
          refine lv_dup X.1 X.2.1 dX12_spur_73 rfl ?_
          refine r_get (ci := 12) X inw_12 h (hF.1 12 rfl).1 rfl rfl 82 (by decide) kw_1720 rfl dX12_spur_74 ?_
          refine j_iconst X dX12_spur_77 ?_
          refine j_iadd X dX12_spur_78 ?_
          refine r_put (ci := 12) X inw_12 tyX12 tyX12_ok nmX12 h (hF.1 12 rfl).1 rfl rfl 82 (by decide) kw_1720 rfl rfl rfl (Nat.le_of_ble_eq_true rfl) rfl rfl dX12_spur_79 (fun H locs h => ?_)
          obtain ⟨σ_19, eσ_19⟩ : ∃ z : St, z = st σ_18 12 0 82 ((σ_18 12 0 82) + 1) := ⟨_, rfl⟩
          rw [← eσ_19] at h
          have hw := hw σ_19 eσ_19
          refine lv_aload_n X.1 X.2.1 dX12_spur_82 rfl (lv_at hl 0 rfl) ?_
          refine r_get (ci := 12) X inw_12 h (hF.1 12 rfl).1 rfl rfl 82 (by decide) kw_1720 rfl dX12_spur_83 ?_
          refine j_iconst X dX12_spur_86 ?_
          refine j_isub X dX12_spur_87 ?_
          exact k_ir X rfl h hw dX12_spur_88
        · have hw := hwf c_20
          refine j_iconst X dX12_spur_40 ?_
          exact k_ir X rfl h hw dX12_spur_41
end
section
variable {p : Program} {l : Launch} {e : Env} {s : State} {m : MethodId} {args : Array Value} {below : List Frame} {meth : Method} {c : Code} {D : va_G} {ct : Nat → ClassId} {ad : Nat → Nat → Nat} {L : List (Nat × Nat)} {φ : Nat → Nat → Nat → Bool} {N0 : Nat}
variable {Q : Int → St → Prop}
theorem pd_X12_asked : yX12_asked.cls ≠ "java/lang/invoke/MethodHandle" ∧ yX12_asked.cls ≠ "java/lang/invoke/VarHandle" ∧ (parseMethodDescriptor yX12_asked.desc).map (fun d => d.parameters.length) = some 2 := by decide +kernel
set_option maxRecDepth 100000 in
set_option maxHeartbeats 4000000 in
theorem c_X12_asked (l : Launch) (D : va_G) (ct : Nat → ClassId) (ad : Nat → Nat → Nat) (L : List (Nat × Nat)) (φ : Nat → Nat → Nat → Bool) (N0 : Nat) (σ : St) (x1 : Int) (x2 : Int) (Q : Int → St → Prop) (hw : wp_X12_asked σ x1 x2 Q) : Met l yX12_asked (.code yX12_asked cX12_asked 3 (some .boolean) :: gw) ({ frames := 1, cells := 0, slots := 0, locals := 22 } : Room) (Pm D ct ad L φ N0 σ [.ref (ad 12 0), .int (iv x1), .int (iv x2)]) (Qi D ct ad L φ N0 Q) 0 0 (AA N0) := by
  refine m_of (by decide) (fun p e s m below meth c X hnm h => ?_)
  have hF := X.2.2.2.2.2.2.2.2.1
  have hl := lv_entry ([.ref (ad 12 0), .int (iv x1), .int (iv x2)]) (n := 3) (Nat.le_of_ble_eq_true rfl)
  rw [lg_entry_eq]
  generalize (lg_sl ([.ref (ad 12 0), .int (iv x1), .int (iv x2)]) ++ List.replicate (3 - (lg_sl ([.ref (ad 12 0), .int (iv x1), .int (iv x2)])).length) Slot.unset).toArray = ls at hl ⊢
  have hl : lv_has ls 3 [(0, .ref (ad 12 0)), (1, .int (iv x1)), (2, .int (iv x2))] := hl
  have h : Hs D ct ad L φ N0 s.heap σ s.heap [] := h
  unfold wp_X12_asked at hw
  refine lv_aload_n X.1 X.2.1 dX12_asked_0 rfl (lv_at hl 0 rfl) ?_
  refine j_iconst X dX12_asked_1 ?_
  refine r_put (ci := 12) X inw_12 tyX12 tyX12_ok nmX12 h (hF.1 12 rfl).1 rfl rfl 0 (by decide) kw_1638 rfl rfl rfl (Nat.le_of_ble_eq_true rfl) rfl rfl dX12_asked_2 (fun H locs h => ?_)
  obtain ⟨σ_1, eσ_1⟩ : ∃ z : St, z = st σ 12 0 0 0 := ⟨_, rfl⟩
  rw [← eσ_1] at h
  have hw := hw σ_1 eσ_1
  refine lv_iload_n X.1 X.2.1 dX12_asked_5 rfl (lv_at hl 1 rfl) ?_
  refine j_iconst X dX12_asked_6 ?_
  refine j_iconst X dX12_asked_7 ?_
  refine k_i h (r_S (As := [.int (iv x1), .int (iv 0), .int (iv 3)]) (rest := []) X h (c_X12_within l D ct ad L φ N0 σ_1 x1 0 3 _ hw) rfl rfl ⟨Nat.le_of_ble_eq_true rfl, Nat.le_of_ble_eq_true rfl⟩ kw_1959 kw_1960 kw_129 kw_1961 pd_X12_within rfl hl.1 rfl (Nat.le_of_ble_eq_true rfl) ⟨Nat.le_of_ble_eq_true rfl, Nat.le_of_ble_eq_true rfl⟩ dX12_asked_8) (fun r_3 σ_2 H locs hw h => ?_)
  obtain ⟨g_4, hwt, hwf⟩ := hw
  refine j_if_eq (tgt := 18) X g_4 dX12_asked_11 (by decide) (fun c_10 => ?_) (fun c_10 => ?_)
  · have hw := hwt c_10
    refine j_iconst X dX12_asked_18 ?_
    exact k_ir X rfl h hw dX12_asked_19
  · have hw := hwf c_10
    refine lv_iload_n X.1 X.2.1 dX12_asked_14 rfl (lv_at hl 2 rfl) ?_
    obtain ⟨g_5, hwt, hwf⟩ := hw
    refine j_if_ge (tgt := 20) X g_5 dX12_asked_15 (by decide) (fun c_9 => ?_) (fun c_9 => ?_)
    · have hw := hwt c_9
      refine lv_aload_n X.1 X.2.1 dX12_asked_20 rfl (lv_at hl 0 rfl) ?_
      refine r_getR (ci := 12) X inw_12 h (hF.1 12 rfl).1 rfl rfl 86 (by decide) kw_1724 rfl ((hF.1 12 rfl).2 86) dX12_asked_21 ?_
      refine lv_iload_n X.1 X.2.1 dX12_asked_24 rfl (lv_at hl 1 rfl) ?_
      refine lv_iload_n X.1 X.2.1 dX12_asked_25 rfl (lv_at hl 2 rfl) ?_
      obtain ⟨g_6, g_7, hw⟩ := hw
      refine r_iast (n := 4) X h (hF.1 145 rfl).1 (fun _ => rfl) (by decide) g_6 g_7 rfl dX12_asked_26 (fun H locs h => ?_)
      obtain ⟨σ_8, eσ_8⟩ : ∃ z : St, z = st σ_2 145 0 (Int.toNat x1) x2 := ⟨_, rfl⟩
      rw [← eσ_8] at h
      have hw := hw σ_8 eσ_8
      refine j_iconst X dX12_asked_27 ?_
      exact k_ir X rfl h hw dX12_asked_28
    · have hw := hwf c_9
      refine j_iconst X dX12_asked_18 ?_
      exact k_ir X rfl h hw dX12_asked_19
end
section
variable {p : Program} {l : Launch} {e : Env} {s : State} {m : MethodId} {args : Array Value} {below : List Frame} {meth : Method} {c : Code} {D : va_G} {ct : Nat → ClassId} {ad : Nat → Nat → Nat} {L : List (Nat × Nat)} {φ : Nat → Nat → Nat → Bool} {N0 : Nat}
variable {Q : Int → St → Prop}
set_option maxRecDepth 100000 in
set_option maxHeartbeats 4000000 in
theorem lb_X12_ironOf_32 (X : Cx p s m meth c args cX12_ironOf 4 (some .int) RX12 D ct L φ N0) {K4 : St → Int → Int → Int → Prop} (hK4 : ∀ (σ : St) (x1 : Int) (x2 : Int) (x3 : Int) (H : Heap) (locs : List Loc) (ls : Array Slot), K4 σ x1 x2 x3 → Hs D ct ad L φ N0 s.heap σ H locs → lv_has ls 4 [(0, .ref (ad 12 0)), (1, .int (iv x1)), (2, .int (iv x2)), (3, .int (iv x3))] → W p l e ({ frames := 0, cells := 0, slots := 0, locals := 0 } : Room) s m args below meth c H locs 0 0 (MQ below (Qi D ct ad L φ N0 Q) args s 0 0 (AA N0)) (F0 m 4 ls [])) (σ : St) (x1 : Int) (x3 : Int) (y0 : Int) (y1 : Int) (H : Heap) (locs : List Loc) (ls : Array Slot) (hw : wp_X12_ironOf_32 K4 Q σ x1 x3 y0 y1) (h : Hs D ct ad L φ N0 s.heap σ H locs) (hl : lv_has ls 4 [(0, .ref (ad 12 0)), (1, .int (iv x1)), (3, .int (iv x3))]) : W p l e ({ frames := 0, cells := 0, slots := 0, locals := 0 } : Room) s m args below meth c H locs 0 0 (MQ below (Qi D ct ad L φ N0 Q) args s 0 0 (AA N0)) (F0 m 32 ls [.int (iv y0), .int (iv y1)]) := by
  have hF := X.2.2.2.2.2.2.2.2.1
  unfold wp_X12_ironOf_32 at hw
  refine j_iadd X dX12_ironOf_32 ?_
  refine j_bind (fun v_1 ev_1 => ?_)
  have hw := hw v_1 ev_1
  refine lv_istore_n (lv' := [(2, .int (iv v_1)), (0, .ref (ad 12 0)), (1, .int (iv x1)), (3, .int (iv x3))]) X.1 X.2.1 dX12_ironOf_33 rfl hl (by decide) rfl (fun ls hl => ?_)
  refine j_iinc (kk9 := 3) (lv' := [(3, .int (iv (x3 + 1))), (2, .int (iv v_1)), (0, .ref (ad 12 0)), (1, .int (iv x1))]) X dX12_ironOf_34 hl rfl (by decide) rfl (fun ls hl => ?_)
  refine lv_goto (tgt := 4) X.1 X.2.1 dX12_ironOf_37 (by decide) ?_
  exact hK4 σ x1 v_1 (x3 + 1) _ _ _ hw h (lv_sub hl [2, 3, 1, 0] rfl)
set_option maxRecDepth 100000 in
set_option maxHeartbeats 4000000 in
theorem lb_X12_ironOf_4 (X : Cx p s m meth c args cX12_ironOf 4 (some .int) RX12 D ct L φ N0) : ∀ (n : Nat) (σ : St) (x1 : Int) (x2 : Int) (x3 : Int) (H : Heap) (locs : List Loc) (ls : Array Slot), wp_X12_ironOf_4 Q n σ x1 x2 x3 → Hs D ct ad L φ N0 s.heap σ H locs → lv_has ls 4 [(0, .ref (ad 12 0)), (1, .int (iv x1)), (2, .int (iv x2)), (3, .int (iv x3))] → W p l e ({ frames := 0, cells := 0, slots := 0, locals := 0 } : Room) s m args below meth c H locs 0 0 (MQ below (Qi D ct ad L φ N0 Q) args s 0 0 (AA N0)) (F0 m 4 ls []) := by
  have hF := X.2.2.2.2.2.2.2.2.1
  intro n
  induction n with
  | zero => intro σ x1 x2 x3 H locs ls hw; exact hw.elim
  | succ n ih =>
    intro σ x1 x2 x3 H locs ls hw h hl
    unfold wp_X12_ironOf_4 at hw
    refine lv_iload_n X.1 X.2.1 dX12_ironOf_4 rfl (lv_at hl 3 rfl) ?_
    refine lv_aload_n X.1 X.2.1 dX12_ironOf_5 rfl (lv_at hl 0 rfl) ?_
    refine r_get (ci := 12) X inw_12 h (hF.1 12 rfl).1 rfl rfl 82 (by decide) kw_1720 rfl dX12_ironOf_6 ?_
    obtain ⟨g_2, g_3, hwt, hwf⟩ := hw
    refine j_cmp_ge (tgt := 40) X g_2 g_3 dX12_ironOf_9 (by decide) (fun c_8 => ?_) (fun c_8 => ?_)
    · have hw := hwt c_8
      refine lv_iload_n X.1 X.2.1 dX12_ironOf_40 rfl (lv_at hl 2 rfl) ?_
      exact k_ir X rfl h hw dX12_ironOf_41
    · have hw := hwf c_8
      refine lv_iload_n X.1 X.2.1 dX12_ironOf_12 rfl (lv_at hl 2 rfl) ?_
      refine lv_iload_n X.1 X.2.1 dX12_ironOf_13 rfl (lv_at hl 1 rfl) ?_
      refine lv_iload_n X.1 X.2.1 dX12_ironOf_14 rfl (lv_at hl 3 rfl) ?_
      refine j_ishr X dX12_ironOf_15 ?_
      refine j_iconst X dX12_ironOf_16 ?_
      refine j_iand X dX12_ironOf_17 ?_
      refine j_iconst X dX12_ironOf_18 ?_
      obtain ⟨g_4, hwt, hwf⟩ := hw
      refine j_cmp_ne (tgt := 31) X g_4 ⟨by decide, by decide⟩ dX12_ironOf_19 (by decide) (fun c_7 => ?_) (fun c_7 => ?_)
      · have hw := hwt c_7
        refine j_iconst X dX12_ironOf_31 ?_
        exact lb_X12_ironOf_32 X ih σ x1 x3 0 x2 _ _ _ hw h (lv_sub hl [0, 1, 3] rfl)
      · have hw := hwf c_7
        refine lv_aload_n X.1 X.2.1 dX12_ironOf_22 rfl (lv_at hl 0 rfl) ?_
        refine r_getR (ci := 12) X inw_12 h (hF.1 12 rfl).1 rfl rfl 84 (by decide) kw_1722 rfl ((hF.1 12 rfl).2 84) dX12_ironOf_23 ?_
        refine lv_iload_n X.1 X.2.1 dX12_ironOf_26 rfl (lv_at hl 3 rfl) ?_
        obtain ⟨g_5, g_6, hw⟩ := hw
        refine r_iald (n := 9) X h (hF.1 143 rfl).1 rfl (by decide) g_5 g_6 dX12_ironOf_27 ?_
        refine lv_goto (tgt := 32) X.1 X.2.1 dX12_ironOf_28 (by decide) ?_
        exact lb_X12_ironOf_32 X ih σ x1 x3 (σ 143 0 (Int.toNat x3)) x2 _ _ _ hw h (lv_sub hl [0, 1, 3] rfl)
theorem pd_X12_ironOf : yX12_ironOf.cls ≠ "java/lang/invoke/MethodHandle" ∧ yX12_ironOf.cls ≠ "java/lang/invoke/VarHandle" ∧ (parseMethodDescriptor yX12_ironOf.desc).map (fun d => d.parameters.length) = some 1 := by decide +kernel
set_option maxRecDepth 100000 in
set_option maxHeartbeats 4000000 in
theorem c_X12_ironOf (l : Launch) (D : va_G) (ct : Nat → ClassId) (ad : Nat → Nat → Nat) (L : List (Nat × Nat)) (φ : Nat → Nat → Nat → Bool) (N0 : Nat) (σ : St) (x1 : Int) (Q : Int → St → Prop) (hw : wp_X12_ironOf σ x1 Q) : Met l yX12_ironOf (.code yX12_ironOf cX12_ironOf 4 (some .int) :: gw) ({ frames := 0, cells := 0, slots := 0, locals := 0 } : Room) (Pm D ct ad L φ N0 σ [.ref (ad 12 0), .int (iv x1)]) (Qi D ct ad L φ N0 Q) 0 0 (AA N0) := by
  refine m_of (by decide) (fun p e s m below meth c X hnm h => ?_)
  have hF := X.2.2.2.2.2.2.2.2.1
  have hl := lv_entry ([.ref (ad 12 0), .int (iv x1)]) (n := 4) (Nat.le_of_ble_eq_true rfl)
  rw [lg_entry_eq]
  generalize (lg_sl ([.ref (ad 12 0), .int (iv x1)]) ++ List.replicate (4 - (lg_sl ([.ref (ad 12 0), .int (iv x1)])).length) Slot.unset).toArray = ls at hl ⊢
  have hl : lv_has ls 4 [(0, .ref (ad 12 0)), (1, .int (iv x1))] := hl
  have h : Hs D ct ad L φ N0 s.heap σ s.heap [] := h
  unfold wp_X12_ironOf at hw
  refine j_iconst X dX12_ironOf_0 ?_
  refine lv_istore_n (lv' := [(2, .int (iv 0)), (0, .ref (ad 12 0)), (1, .int (iv x1))]) X.1 X.2.1 dX12_ironOf_1 rfl hl (by decide) rfl (fun ls hl => ?_)
  refine j_iconst X dX12_ironOf_2 ?_
  refine lv_istore_n (lv' := [(3, .int (iv 0)), (2, .int (iv 0)), (0, .ref (ad 12 0)), (1, .int (iv x1))]) X.1 X.2.1 dX12_ironOf_3 rfl hl (by decide) rfl (fun ls hl => ?_)
  exact hw.elim (fun n4 hw => lb_X12_ironOf_4 X n4 σ x1 0 0 _ _ _ hw h (lv_sub hl [2, 3, 1, 0] rfl))
end
section
variable {p : Program} {l : Launch} {e : Env} {s : State} {m : MethodId} {args : Array Value} {below : List Frame} {meth : Method} {c : Code} {D : va_G} {ct : Nat → ClassId} {ad : Nat → Nat → Nat} {L : List (Nat × Nat)} {φ : Nat → Nat → Nat → Bool} {N0 : Nat}
variable {Q : Int → St → Prop}
set_option maxRecDepth 100000 in
set_option maxHeartbeats 4000000 in
theorem lb_X12_layCost_32 (X : Cx p s m meth c args cX12_layCost 4 (some .int) RX12 D ct L φ N0) {K4 : St → Int → Int → Int → Prop} (hK4 : ∀ (σ : St) (x1 : Int) (x2 : Int) (x3 : Int) (H : Heap) (locs : List Loc) (ls : Array Slot), K4 σ x1 x2 x3 → Hs D ct ad L φ N0 s.heap σ H locs → lv_has ls 4 [(0, .ref (ad 12 0)), (1, .int (iv x1)), (2, .int (iv x2)), (3, .int (iv x3))] → W p l e ({ frames := 0, cells := 0, slots := 0, locals := 0 } : Room) s m args below meth c H locs 0 0 (MQ below (Qi D ct ad L φ N0 Q) args s 0 0 (AA N0)) (F0 m 4 ls [])) (σ : St) (x1 : Int) (x3 : Int) (y0 : Int) (y1 : Int) (H : Heap) (locs : List Loc) (ls : Array Slot) (hw : wp_X12_layCost_32 K4 Q σ x1 x3 y0 y1) (h : Hs D ct ad L φ N0 s.heap σ H locs) (hl : lv_has ls 4 [(0, .ref (ad 12 0)), (1, .int (iv x1)), (3, .int (iv x3))]) : W p l e ({ frames := 0, cells := 0, slots := 0, locals := 0 } : Room) s m args below meth c H locs 0 0 (MQ below (Qi D ct ad L φ N0 Q) args s 0 0 (AA N0)) (F0 m 32 ls [.int (iv y0), .int (iv y1)]) := by
  have hF := X.2.2.2.2.2.2.2.2.1
  unfold wp_X12_layCost_32 at hw
  refine j_iadd X dX12_layCost_32 ?_
  refine j_bind (fun v_1 ev_1 => ?_)
  have hw := hw v_1 ev_1
  refine lv_istore_n (lv' := [(2, .int (iv v_1)), (0, .ref (ad 12 0)), (1, .int (iv x1)), (3, .int (iv x3))]) X.1 X.2.1 dX12_layCost_33 rfl hl (by decide) rfl (fun ls hl => ?_)
  refine j_iinc (kk9 := 3) (lv' := [(3, .int (iv (x3 + 1))), (2, .int (iv v_1)), (0, .ref (ad 12 0)), (1, .int (iv x1))]) X dX12_layCost_34 hl rfl (by decide) rfl (fun ls hl => ?_)
  refine lv_goto (tgt := 4) X.1 X.2.1 dX12_layCost_37 (by decide) ?_
  exact hK4 σ x1 v_1 (x3 + 1) _ _ _ hw h (lv_sub hl [2, 3, 1, 0] rfl)
set_option maxRecDepth 100000 in
set_option maxHeartbeats 4000000 in
theorem lb_X12_layCost_4 (X : Cx p s m meth c args cX12_layCost 4 (some .int) RX12 D ct L φ N0) : ∀ (n : Nat) (σ : St) (x1 : Int) (x2 : Int) (x3 : Int) (H : Heap) (locs : List Loc) (ls : Array Slot), wp_X12_layCost_4 Q n σ x1 x2 x3 → Hs D ct ad L φ N0 s.heap σ H locs → lv_has ls 4 [(0, .ref (ad 12 0)), (1, .int (iv x1)), (2, .int (iv x2)), (3, .int (iv x3))] → W p l e ({ frames := 0, cells := 0, slots := 0, locals := 0 } : Room) s m args below meth c H locs 0 0 (MQ below (Qi D ct ad L φ N0 Q) args s 0 0 (AA N0)) (F0 m 4 ls []) := by
  have hF := X.2.2.2.2.2.2.2.2.1
  intro n
  induction n with
  | zero => intro σ x1 x2 x3 H locs ls hw; exact hw.elim
  | succ n ih =>
    intro σ x1 x2 x3 H locs ls hw h hl
    unfold wp_X12_layCost_4 at hw
    refine lv_iload_n X.1 X.2.1 dX12_layCost_4 rfl (lv_at hl 3 rfl) ?_
    refine lv_aload_n X.1 X.2.1 dX12_layCost_5 rfl (lv_at hl 0 rfl) ?_
    refine r_get (ci := 12) X inw_12 h (hF.1 12 rfl).1 rfl rfl 82 (by decide) kw_1720 rfl dX12_layCost_6 ?_
    obtain ⟨g_2, g_3, hwt, hwf⟩ := hw
    refine j_cmp_ge (tgt := 40) X g_2 g_3 dX12_layCost_9 (by decide) (fun c_8 => ?_) (fun c_8 => ?_)
    · have hw := hwt c_8
      refine lv_iload_n X.1 X.2.1 dX12_layCost_40 rfl (lv_at hl 2 rfl) ?_
      exact k_ir X rfl h hw dX12_layCost_41
    · have hw := hwf c_8
      refine lv_iload_n X.1 X.2.1 dX12_layCost_12 rfl (lv_at hl 2 rfl) ?_
      refine lv_iload_n X.1 X.2.1 dX12_layCost_13 rfl (lv_at hl 1 rfl) ?_
      refine lv_iload_n X.1 X.2.1 dX12_layCost_14 rfl (lv_at hl 3 rfl) ?_
      refine j_ishr X dX12_layCost_15 ?_
      refine j_iconst X dX12_layCost_16 ?_
      refine j_iand X dX12_layCost_17 ?_
      refine j_iconst X dX12_layCost_18 ?_
      obtain ⟨g_4, hwt, hwf⟩ := hw
      refine j_cmp_ne (tgt := 31) X g_4 ⟨by decide, by decide⟩ dX12_layCost_19 (by decide) (fun c_7 => ?_) (fun c_7 => ?_)
      · have hw := hwt c_7
        refine j_iconst X dX12_layCost_31 ?_
        exact lb_X12_layCost_32 X ih σ x1 x3 0 x2 _ _ _ hw h (lv_sub hl [0, 1, 3] rfl)
      · have hw := hwf c_7
        refine lv_aload_n X.1 X.2.1 dX12_layCost_22 rfl (lv_at hl 0 rfl) ?_
        refine r_getR (ci := 12) X inw_12 h (hF.1 12 rfl).1 rfl rfl 85 (by decide) kw_1723 rfl ((hF.1 12 rfl).2 85) dX12_layCost_23 ?_
        refine lv_iload_n X.1 X.2.1 dX12_layCost_26 rfl (lv_at hl 3 rfl) ?_
        obtain ⟨g_5, g_6, hw⟩ := hw
        refine r_iald (n := 9) X h (hF.1 144 rfl).1 rfl (by decide) g_5 g_6 dX12_layCost_27 ?_
        refine lv_goto (tgt := 32) X.1 X.2.1 dX12_layCost_28 (by decide) ?_
        exact lb_X12_layCost_32 X ih σ x1 x3 (σ 144 0 (Int.toNat x3)) x2 _ _ _ hw h (lv_sub hl [0, 1, 3] rfl)
theorem pd_X12_layCost : yX12_layCost.cls ≠ "java/lang/invoke/MethodHandle" ∧ yX12_layCost.cls ≠ "java/lang/invoke/VarHandle" ∧ (parseMethodDescriptor yX12_layCost.desc).map (fun d => d.parameters.length) = some 1 := by decide +kernel
set_option maxRecDepth 100000 in
set_option maxHeartbeats 4000000 in
theorem c_X12_layCost (l : Launch) (D : va_G) (ct : Nat → ClassId) (ad : Nat → Nat → Nat) (L : List (Nat × Nat)) (φ : Nat → Nat → Nat → Bool) (N0 : Nat) (σ : St) (x1 : Int) (Q : Int → St → Prop) (hw : wp_X12_layCost σ x1 Q) : Met l yX12_layCost (.code yX12_layCost cX12_layCost 4 (some .int) :: gw) ({ frames := 0, cells := 0, slots := 0, locals := 0 } : Room) (Pm D ct ad L φ N0 σ [.ref (ad 12 0), .int (iv x1)]) (Qi D ct ad L φ N0 Q) 0 0 (AA N0) := by
  refine m_of (by decide) (fun p e s m below meth c X hnm h => ?_)
  have hF := X.2.2.2.2.2.2.2.2.1
  have hl := lv_entry ([.ref (ad 12 0), .int (iv x1)]) (n := 4) (Nat.le_of_ble_eq_true rfl)
  rw [lg_entry_eq]
  generalize (lg_sl ([.ref (ad 12 0), .int (iv x1)]) ++ List.replicate (4 - (lg_sl ([.ref (ad 12 0), .int (iv x1)])).length) Slot.unset).toArray = ls at hl ⊢
  have hl : lv_has ls 4 [(0, .ref (ad 12 0)), (1, .int (iv x1))] := hl
  have h : Hs D ct ad L φ N0 s.heap σ s.heap [] := h
  unfold wp_X12_layCost at hw
  refine j_iconst X dX12_layCost_0 ?_
  refine lv_istore_n (lv' := [(2, .int (iv 0)), (0, .ref (ad 12 0)), (1, .int (iv x1))]) X.1 X.2.1 dX12_layCost_1 rfl hl (by decide) rfl (fun ls hl => ?_)
  refine j_iconst X dX12_layCost_2 ?_
  refine lv_istore_n (lv' := [(3, .int (iv 0)), (2, .int (iv 0)), (0, .ref (ad 12 0)), (1, .int (iv x1))]) X.1 X.2.1 dX12_layCost_3 rfl hl (by decide) rfl (fun ls hl => ?_)
  exact hw.elim (fun n4 hw => lb_X12_layCost_4 X n4 σ x1 0 0 _ _ _ hw h (lv_sub hl [2, 3, 1, 0] rfl))
end
section
variable {p : Program} {l : Launch} {e : Env} {s : State} {m : MethodId} {args : Array Value} {below : List Frame} {meth : Method} {c : Code} {D : va_G} {ct : Nat → ClassId} {ad : Nat → Nat → Nat} {L : List (Nat × Nat)} {φ : Nat → Nat → Nat → Bool} {N0 : Nat}
variable {Q : Int → St → Prop}
set_option maxRecDepth 100000 in
set_option maxHeartbeats 4000000 in
theorem lb_X12_cellsOf_32 (X : Cx p s m meth c args cX12_cellsOf 4 (some .int) RX12 D ct L φ N0) {K4 : St → Int → Int → Int → Prop} (hK4 : ∀ (σ : St) (x1 : Int) (x2 : Int) (x3 : Int) (H : Heap) (locs : List Loc) (ls : Array Slot), K4 σ x1 x2 x3 → Hs D ct ad L φ N0 s.heap σ H locs → lv_has ls 4 [(0, .ref (ad 12 0)), (1, .int (iv x1)), (2, .int (iv x2)), (3, .int (iv x3))] → W p l e ({ frames := 0, cells := 0, slots := 0, locals := 0 } : Room) s m args below meth c H locs 0 0 (MQ below (Qi D ct ad L φ N0 Q) args s 0 0 (AA N0)) (F0 m 4 ls [])) (σ : St) (x1 : Int) (x3 : Int) (y0 : Int) (y1 : Int) (H : Heap) (locs : List Loc) (ls : Array Slot) (hw : wp_X12_cellsOf_32 K4 Q σ x1 x3 y0 y1) (h : Hs D ct ad L φ N0 s.heap σ H locs) (hl : lv_has ls 4 [(0, .ref (ad 12 0)), (1, .int (iv x1)), (3, .int (iv x3))]) : W p l e ({ frames := 0, cells := 0, slots := 0, locals := 0 } : Room) s m args below meth c H locs 0 0 (MQ below (Qi D ct ad L φ N0 Q) args s 0 0 (AA N0)) (F0 m 32 ls [.int (iv y0), .int (iv y1)]) := by
  have hF := X.2.2.2.2.2.2.2.2.1
  unfold wp_X12_cellsOf_32 at hw
  refine j_ior X dX12_cellsOf_32 ?_
  refine j_bind (fun v_1 ev_1 => ?_)
  have hw := hw v_1 ev_1
  refine lv_istore_n (lv' := [(2, .int (iv v_1)), (0, .ref (ad 12 0)), (1, .int (iv x1)), (3, .int (iv x3))]) X.1 X.2.1 dX12_cellsOf_33 rfl hl (by decide) rfl (fun ls hl => ?_)
  refine j_iinc (kk9 := 3) (lv' := [(3, .int (iv (x3 + 1))), (2, .int (iv v_1)), (0, .ref (ad 12 0)), (1, .int (iv x1))]) X dX12_cellsOf_34 hl rfl (by decide) rfl (fun ls hl => ?_)
  refine lv_goto (tgt := 4) X.1 X.2.1 dX12_cellsOf_37 (by decide) ?_
  exact hK4 σ x1 v_1 (x3 + 1) _ _ _ hw h (lv_sub hl [2, 3, 1, 0] rfl)
set_option maxRecDepth 100000 in
set_option maxHeartbeats 4000000 in
theorem lb_X12_cellsOf_4 (X : Cx p s m meth c args cX12_cellsOf 4 (some .int) RX12 D ct L φ N0) : ∀ (n : Nat) (σ : St) (x1 : Int) (x2 : Int) (x3 : Int) (H : Heap) (locs : List Loc) (ls : Array Slot), wp_X12_cellsOf_4 Q n σ x1 x2 x3 → Hs D ct ad L φ N0 s.heap σ H locs → lv_has ls 4 [(0, .ref (ad 12 0)), (1, .int (iv x1)), (2, .int (iv x2)), (3, .int (iv x3))] → W p l e ({ frames := 0, cells := 0, slots := 0, locals := 0 } : Room) s m args below meth c H locs 0 0 (MQ below (Qi D ct ad L φ N0 Q) args s 0 0 (AA N0)) (F0 m 4 ls []) := by
  have hF := X.2.2.2.2.2.2.2.2.1
  intro n
  induction n with
  | zero => intro σ x1 x2 x3 H locs ls hw; exact hw.elim
  | succ n ih =>
    intro σ x1 x2 x3 H locs ls hw h hl
    unfold wp_X12_cellsOf_4 at hw
    refine lv_iload_n X.1 X.2.1 dX12_cellsOf_4 rfl (lv_at hl 3 rfl) ?_
    refine lv_aload_n X.1 X.2.1 dX12_cellsOf_5 rfl (lv_at hl 0 rfl) ?_
    refine r_get (ci := 12) X inw_12 h (hF.1 12 rfl).1 rfl rfl 82 (by decide) kw_1720 rfl dX12_cellsOf_6 ?_
    obtain ⟨g_2, g_3, hwt, hwf⟩ := hw
    refine j_cmp_ge (tgt := 40) X g_2 g_3 dX12_cellsOf_9 (by decide) (fun c_8 => ?_) (fun c_8 => ?_)
    · have hw := hwt c_8
      refine lv_iload_n X.1 X.2.1 dX12_cellsOf_40 rfl (lv_at hl 2 rfl) ?_
      exact k_ir X rfl h hw dX12_cellsOf_41
    · have hw := hwf c_8
      refine lv_iload_n X.1 X.2.1 dX12_cellsOf_12 rfl (lv_at hl 2 rfl) ?_
      refine lv_iload_n X.1 X.2.1 dX12_cellsOf_13 rfl (lv_at hl 1 rfl) ?_
      refine lv_iload_n X.1 X.2.1 dX12_cellsOf_14 rfl (lv_at hl 3 rfl) ?_
      refine j_ishr X dX12_cellsOf_15 ?_
      refine j_iconst X dX12_cellsOf_16 ?_
      refine j_iand X dX12_cellsOf_17 ?_
      refine j_iconst X dX12_cellsOf_18 ?_
      obtain ⟨g_4, hwt, hwf⟩ := hw
      refine j_cmp_ne (tgt := 31) X g_4 ⟨by decide, by decide⟩ dX12_cellsOf_19 (by decide) (fun c_7 => ?_) (fun c_7 => ?_)
      · have hw := hwt c_7
        refine j_iconst X dX12_cellsOf_31 ?_
        exact lb_X12_cellsOf_32 X ih σ x1 x3 0 x2 _ _ _ hw h (lv_sub hl [0, 1, 3] rfl)
      · have hw := hwf c_7
        refine lv_aload_n X.1 X.2.1 dX12_cellsOf_22 rfl (lv_at hl 0 rfl) ?_
        refine r_getR (ci := 12) X inw_12 h (hF.1 12 rfl).1 rfl rfl 83 (by decide) kw_1721 rfl ((hF.1 12 rfl).2 83) dX12_cellsOf_23 ?_
        refine lv_iload_n X.1 X.2.1 dX12_cellsOf_26 rfl (lv_at hl 3 rfl) ?_
        obtain ⟨g_5, g_6, hw⟩ := hw
        refine r_iald (n := 9) X h (hF.1 142 rfl).1 rfl (by decide) g_5 g_6 dX12_cellsOf_27 ?_
        refine lv_goto (tgt := 32) X.1 X.2.1 dX12_cellsOf_28 (by decide) ?_
        exact lb_X12_cellsOf_32 X ih σ x1 x3 (σ 142 0 (Int.toNat x3)) x2 _ _ _ hw h (lv_sub hl [0, 1, 3] rfl)
theorem pd_X12_cellsOf : yX12_cellsOf.cls ≠ "java/lang/invoke/MethodHandle" ∧ yX12_cellsOf.cls ≠ "java/lang/invoke/VarHandle" ∧ (parseMethodDescriptor yX12_cellsOf.desc).map (fun d => d.parameters.length) = some 1 := by decide +kernel
set_option maxRecDepth 100000 in
set_option maxHeartbeats 4000000 in
theorem c_X12_cellsOf (l : Launch) (D : va_G) (ct : Nat → ClassId) (ad : Nat → Nat → Nat) (L : List (Nat × Nat)) (φ : Nat → Nat → Nat → Bool) (N0 : Nat) (σ : St) (x1 : Int) (Q : Int → St → Prop) (hw : wp_X12_cellsOf σ x1 Q) : Met l yX12_cellsOf (.code yX12_cellsOf cX12_cellsOf 4 (some .int) :: gw) ({ frames := 0, cells := 0, slots := 0, locals := 0 } : Room) (Pm D ct ad L φ N0 σ [.ref (ad 12 0), .int (iv x1)]) (Qi D ct ad L φ N0 Q) 0 0 (AA N0) := by
  refine m_of (by decide) (fun p e s m below meth c X hnm h => ?_)
  have hF := X.2.2.2.2.2.2.2.2.1
  have hl := lv_entry ([.ref (ad 12 0), .int (iv x1)]) (n := 4) (Nat.le_of_ble_eq_true rfl)
  rw [lg_entry_eq]
  generalize (lg_sl ([.ref (ad 12 0), .int (iv x1)]) ++ List.replicate (4 - (lg_sl ([.ref (ad 12 0), .int (iv x1)])).length) Slot.unset).toArray = ls at hl ⊢
  have hl : lv_has ls 4 [(0, .ref (ad 12 0)), (1, .int (iv x1))] := hl
  have h : Hs D ct ad L φ N0 s.heap σ s.heap [] := h
  unfold wp_X12_cellsOf at hw
  refine j_iconst X dX12_cellsOf_0 ?_
  refine lv_istore_n (lv' := [(2, .int (iv 0)), (0, .ref (ad 12 0)), (1, .int (iv x1))]) X.1 X.2.1 dX12_cellsOf_1 rfl hl (by decide) rfl (fun ls hl => ?_)
  refine j_iconst X dX12_cellsOf_2 ?_
  refine lv_istore_n (lv' := [(3, .int (iv 0)), (2, .int (iv 0)), (0, .ref (ad 12 0)), (1, .int (iv x1))]) X.1 X.2.1 dX12_cellsOf_3 rfl hl (by decide) rfl (fun ls hl => ?_)
  exact hw.elim (fun n4 hw => lb_X12_cellsOf_4 X n4 σ x1 0 0 _ _ _ hw h (lv_sub hl [2, 3, 1, 0] rfl))
end
section
variable {p : Program} {l : Launch} {e : Env} {s : State} {m : MethodId} {args : Array Value} {below : List Frame} {meth : Method} {c : Code} {D : va_G} {ct : Nat → ClassId} {ad : Nat → Nat → Nat} {L : List (Nat × Nat)} {φ : Nat → Nat → Nat → Bool} {N0 : Nat}
variable {Q : Int → St → Prop}
theorem pd_X12_costs : yX12_costs.cls ≠ "java/lang/invoke/MethodHandle" ∧ yX12_costs.cls ≠ "java/lang/invoke/VarHandle" ∧ (parseMethodDescriptor yX12_costs.desc).map (fun d => d.parameters.length) = some 4 := by decide +kernel
set_option maxRecDepth 100000 in
set_option maxHeartbeats 4000000 in
theorem c_X12_costs (l : Launch) (D : va_G) (ct : Nat → ClassId) (ad : Nat → Nat → Nat) (L : List (Nat × Nat)) (φ : Nat → Nat → Nat → Bool) (N0 : Nat) (σ : St) (x1 : Int) (x2 : Int) (x3 : Int) (x4 : Int) (Q : Int → St → Prop) (hw : wp_X12_costs σ x1 x2 x3 x4 Q) : Met l yX12_costs (.code yX12_costs cX12_costs 5 (some .int) :: gw) ({ frames := 1, cells := 0, slots := 0, locals := 23 } : Room) (Pm D ct ad L φ N0 σ [.ref (ad 12 0), .int (iv x1), .int (iv x2), .int (iv x3), .int (iv x4)]) (Qi D ct ad L φ N0 Q) 0 0 (AA N0) := by
  refine m_of (by decide) (fun p e s m below meth c X hnm h => ?_)
  have hF := X.2.2.2.2.2.2.2.2.1
  have hl := lv_entry ([.ref (ad 12 0), .int (iv x1), .int (iv x2), .int (iv x3), .int (iv x4)]) (n := 5) (Nat.le_of_ble_eq_true rfl)
  rw [lg_entry_eq]
  generalize (lg_sl ([.ref (ad 12 0), .int (iv x1), .int (iv x2), .int (iv x3), .int (iv x4)]) ++ List.replicate (5 - (lg_sl ([.ref (ad 12 0), .int (iv x1), .int (iv x2), .int (iv x3), .int (iv x4)])).length) Slot.unset).toArray = ls at hl ⊢
  have hl : lv_has ls 5 [(0, .ref (ad 12 0)), (1, .int (iv x1)), (2, .int (iv x2)), (3, .int (iv x3)), (4, .int (iv x4))] := hl
  have h : Hs D ct ad L φ N0 s.heap σ s.heap [] := h
  unfold wp_X12_costs at hw
  refine lv_aload_n X.1 X.2.1 dX12_costs_0 rfl (lv_at hl 0 rfl) ?_
  refine lv_iload_n X.1 X.2.1 dX12_costs_1 rfl (lv_at hl 3 rfl) ?_
  refine k_i h (r_V (C := RX12) (ci := 12) (As := [.int (iv x3)]) (rest := []) X h (c_X12_ironOf l D ct ad L φ N0 σ x3 _ hw) rfl rfl ⟨Nat.le_of_ble_eq_true rfl, Nat.le_of_ble_eq_true rfl⟩ kw_2373 kw_2375 kw_110 kw_129 kw_2376 ⟨rfl, pd_X12_ironOf⟩ (hF.1 12 rfl).1 rfl rfl rfl hl.1 rfl (Nat.le_of_ble_eq_true rfl) ⟨Nat.le_of_ble_eq_true rfl, Nat.le_of_ble_eq_true rfl⟩ dX12_costs_2) (fun r_2 σ_1 H locs hw h => ?_)
  refine lv_aload_n X.1 X.2.1 dX12_costs_5 rfl (lv_at hl 0 rfl) ?_
  refine r_get (ci := 12) X inw_12 h (hF.1 12 rfl).1 rfl rfl 59 (by decide) kw_1697 rfl dX12_costs_6 ?_
  obtain ⟨g_3, g_4, hwt, hwf⟩ := hw
  refine j_cmp_le (tgt := 18) X g_3 g_4 dX12_costs_9 (by decide) (fun c_13 => ?_) (fun c_13 => ?_)
  · have hw := hwt c_13
    refine lv_aload_n X.1 X.2.1 dX12_costs_18 rfl (lv_at hl 0 rfl) ?_
    refine lv_iload_n X.1 X.2.1 dX12_costs_19 rfl (lv_at hl 3 rfl) ?_
    refine lv_iload_n X.1 X.2.1 dX12_costs_20 rfl (lv_at hl 2 rfl) ?_
    refine j_iconst X dX12_costs_21 ?_
    refine j_ixor X dX12_costs_22 ?_
    refine j_iand X dX12_costs_23 ?_
    refine k_i h (r_V (C := RX12) (ci := 12) (As := [.int (iv (i_iand x3 (i_ixor x2 (-1))))]) (rest := []) X h (c_X12_layCost l D ct ad L φ N0 σ_1 (i_iand x3 (i_ixor x2 (-1))) _ hw) rfl rfl ⟨Nat.le_of_ble_eq_true rfl, Nat.le_of_ble_eq_true rfl⟩ kw_2369 kw_2371 kw_109 kw_129 kw_2372 ⟨rfl, pd_X12_layCost⟩ (hF.1 12 rfl).1 rfl rfl rfl hl.1 rfl (Nat.le_of_ble_eq_true rfl) ⟨Nat.le_of_ble_eq_true rfl, Nat.le_of_ble_eq_true rfl⟩ dX12_costs_24) (fun r_6 σ_5 H locs hw h => ?_)
    refine lv_iload X.1 X.2.1 dX12_costs_27 (lv_at hl 4 rfl) ?_
    refine lv_aload_n X.1 X.2.1 dX12_costs_29 rfl (lv_at hl 0 rfl) ?_
    refine r_getR (ci := 12) X inw_12 h (hF.1 12 rfl).1 rfl rfl 86 (by decide) kw_1724 rfl ((hF.1 12 rfl).2 86) dX12_costs_30 ?_
    refine lv_iload_n X.1 X.2.1 dX12_costs_33 rfl (lv_at hl 1 rfl) ?_
    obtain ⟨g_7, g_8, hw⟩ := hw
    refine r_iald (n := 4) X h (hF.1 145 rfl).1 rfl (by decide) g_7 g_8 dX12_costs_34 ?_
    refine lv_aload_n X.1 X.2.1 dX12_costs_35 rfl (lv_at hl 0 rfl) ?_
    refine lv_iload_n X.1 X.2.1 dX12_costs_36 rfl (lv_at hl 3 rfl) ?_
    refine k_i h (r_V (C := RX12) (ci := 12) (As := [.int (iv x3)]) (rest := [.int (iv (σ_5 145 0 (Int.toNat x1))), .int (iv x4), .int (iv r_6)]) X h (c_X12_cellsOf l D ct ad L φ N0 σ_5 x3 _ hw) rfl rfl ⟨Nat.le_of_ble_eq_true rfl, Nat.le_of_ble_eq_true rfl⟩ kw_2378 kw_2380 kw_111 kw_129 kw_2381 ⟨rfl, pd_X12_cellsOf⟩ (hF.1 12 rfl).1 rfl rfl rfl hl.1 rfl (Nat.le_of_ble_eq_true rfl) ⟨Nat.le_of_ble_eq_true rfl, Nat.le_of_ble_eq_true rfl⟩ dX12_costs_37) (fun r_10 σ_9 H locs hw h => ?_)
    refine j_iconst X dX12_costs_40 ?_
    refine j_ixor X dX12_costs_41 ?_
    refine j_iand X dX12_costs_42 ?_
    refine k_i h (r_S (As := [.int (iv (i_iand (σ_5 145 0 (Int.toNat x1)) (i_ixor r_10 (-1))))]) (rest := [.int (iv x4), .int (iv r_6)]) X h (c_J6_bitCount_0f7a4 l D ct ad L φ N0 σ_9 (i_iand (σ_5 145 0 (Int.toNat x1)) (i_ixor r_10 (-1))) _ hw) rfl rfl ⟨Nat.le_of_ble_eq_true rfl, Nat.le_of_ble_eq_true rfl⟩ kw_2382 kw_1365 kw_143 kw_1366 pd_J6_bitCount_0f7a4 rfl hl.1 rfl (Nat.le_of_ble_eq_true rfl) ⟨Nat.le_of_ble_eq_true rfl, Nat.le_of_ble_eq_true rfl⟩ dX12_costs_43) (fun r_12 σ_11 H locs hw h => ?_)
    refine j_imul X dX12_costs_46 ?_
    refine j_iadd X dX12_costs_47 ?_
    exact k_ir X rfl h hw dX12_costs_48
  · have hw := hwf c_13
    refine j_ldc_w (n := 100000000) X kw_2377 (by decide) dX12_costs_12 ?_
    refine lv_goto (tgt := 48) X.1 X.2.1 dX12_costs_15 (by decide) ?_
    exact k_ir X rfl h hw dX12_costs_48
end
section
variable {p : Program} {l : Launch} {e : Env} {s : State} {m : MethodId} {args : Array Value} {below : List Frame} {meth : Method} {c : Code} {D : va_G} {ct : Nat → ClassId} {ad : Nat → Nat → Nat} {L : List (Nat × Nat)} {φ : Nat → Nat → Nat → Bool} {N0 : Nat}
variable {Q : St → Prop}
set_option maxRecDepth 100000 in
set_option maxHeartbeats 4000000 in
theorem lb_X12_plansRails_229 (X : Cx p s m meth c args cX12_plansRails 8 none RX12 D ct L φ N0) {K44 : St → Int → Int → Int → Prop} (hK44 : ∀ (σ : St) (x1 : Int) (x2 : Int) (x3 : Int) (H : Heap) (locs : List Loc) (ls : Array Slot), K44 σ x1 x2 x3 → Hs D ct ad L φ N0 s.heap σ H locs → lv_has ls 8 [(0, .ref (ad 12 0)), (1, .int (iv x1)), (2, .int (iv x2)), (3, .int (iv x3))] → W p l e ({ frames := 1, cells := 0, slots := 0, locals := 23 } : Room) s m args below meth c H locs 0 0 (MQ below (Qv D ct ad L φ N0 Q) args s 0 0 (AA N0)) (F0 m 44 ls [])) (σ : St) (x1 : Int) (x2 : Int) (x3 : Int) (H : Heap) (locs : List Loc) (ls : Array Slot) (hw : wp_X12_plansRails_229 K44 Q σ x1 x2 x3) (h : Hs D ct ad L φ N0 s.heap σ H locs) (hl : lv_has ls 8 [(0, .ref (ad 12 0)), (1, .int (iv x1)), (2, .int (iv x2)), (3, .int (iv x3))]) : W p l e ({ frames := 1, cells := 0, slots := 0, locals := 23 } : Room) s m args below meth c H locs 0 0 (MQ below (Qv D ct ad L φ N0 Q) args s 0 0 (AA N0)) (F0 m 229 ls []) := by
  have hF := X.2.2.2.2.2.2.2.2.1
  unfold wp_X12_plansRails_229 at hw
  refine j_iinc (kk9 := 3) (lv' := [(3, .int (iv (x3 + (-1)))), (0, .ref (ad 12 0)), (1, .int (iv x1)), (2, .int (iv x2))]) X dX12_plansRails_229 hl rfl (by decide) rfl (fun ls hl => ?_)
  refine lv_goto (tgt := 44) X.1 X.2.1 dX12_plansRails_232 (by decide) ?_
  exact hK44 σ x1 x2 (x3 + (-1)) _ _ _ hw h (lv_sub hl [1, 2, 3, 0] rfl)
set_option maxRecDepth 100000 in
set_option maxHeartbeats 4000000 in
theorem lb_X12_plansRails_208 (X : Cx p s m meth c args cX12_plansRails 8 none RX12 D ct L φ N0) {K112 : St → Int → Int → Int → Int → Prop} {K229 : St → Int → Int → Int → Prop} (hK112 : ∀ (σ : St) (x1 : Int) (x2 : Int) (x3 : Int) (x4 : Int) (H : Heap) (locs : List Loc) (ls : Array Slot), K112 σ x1 x2 x3 x4 → Hs D ct ad L φ N0 s.heap σ H locs → lv_has ls 8 [(0, .ref (ad 12 0)), (1, .int (iv x1)), (2, .int (iv x2)), (3, .int (iv x3)), (4, .int (iv x4))] → W p l e ({ frames := 1, cells := 0, slots := 0, locals := 23 } : Room) s m args below meth c H locs 0 0 (MQ below (Qv D ct ad L φ N0 Q) args s 0 0 (AA N0)) (F0 m 112 ls [])) (hK229 : ∀ (σ : St) (x1 : Int) (x2 : Int) (x3 : Int) (H : Heap) (locs : List Loc) (ls : Array Slot), K229 σ x1 x2 x3 → Hs D ct ad L φ N0 s.heap σ H locs → lv_has ls 8 [(0, .ref (ad 12 0)), (1, .int (iv x1)), (2, .int (iv x2)), (3, .int (iv x3))] → W p l e ({ frames := 1, cells := 0, slots := 0, locals := 23 } : Room) s m args below meth c H locs 0 0 (MQ below (Qv D ct ad L φ N0 Q) args s 0 0 (AA N0)) (F0 m 229 ls [])) (σ : St) (x1 : Int) (x2 : Int) (x3 : Int) (x4 : Int) (x5 : Int) (H : Heap) (locs : List Loc) (ls : Array Slot) (hw : wp_X12_plansRails_208 K112 K229 Q σ x1 x2 x3 x4 x5) (h : Hs D ct ad L φ N0 s.heap σ H locs) (hl : lv_has ls 8 [(0, .ref (ad 12 0)), (1, .int (iv x1)), (2, .int (iv x2)), (3, .int (iv x3)), (4, .int (iv x4)), (5, .int (iv x5))]) : W p l e ({ frames := 1, cells := 0, slots := 0, locals := 23 } : Room) s m args below meth c H locs 0 0 (MQ below (Qv D ct ad L φ N0 Q) args s 0 0 (AA N0)) (F0 m 208 ls []) := by
  have hF := X.2.2.2.2.2.2.2.2.1
  unfold wp_X12_plansRails_208 at hw
  refine lv_aload_n X.1 X.2.1 dX12_plansRails_208 rfl (lv_at hl 0 rfl) ?_
  refine r_getR (ci := 12) X inw_12 h (hF.1 12 rfl).1 rfl rfl 87 (by decide) kw_1725 rfl ((hF.1 12 rfl).2 87) dX12_plansRails_209 ?_
  refine j_sipush X dX12_plansRails_212 (by decide) ?_
  refine lv_iload_n X.1 X.2.1 dX12_plansRails_215 rfl (lv_at hl 3 rfl) ?_
  refine j_imul X dX12_plansRails_216 ?_
  refine lv_iload X.1 X.2.1 dX12_plansRails_217 (lv_at hl 4 rfl) ?_
  refine j_iadd X dX12_plansRails_219 ?_
  refine lv_iload X.1 X.2.1 dX12_plansRails_220 (lv_at hl 5 rfl) ?_
  obtain ⟨g_1, g_2, hw⟩ := hw
  refine r_iast (n := 2560) X h (hF.1 146 rfl).1 (fun _ => rfl) (by decide) g_1 g_2 rfl dX12_plansRails_222 (fun H locs h => ?_)
  obtain ⟨σ_3, eσ_3⟩ : ∃ z : St, z = st σ 146 0 (Int.toNat ((512 * x3) + x4)) x5 := ⟨_, rfl⟩
  rw [← eσ_3] at h
  have hw := hw σ_3 eσ_3
  refine j_iinc (kk9 := 4) (lv' := [(4, .int (iv (x4 + 1))), (0, .ref (ad 12 0)), (1, .int (iv x1)), (2, .int (iv x2)), (3, .int (iv x3)), (5, .int (iv x5))]) X dX12_plansRails_223 hl rfl (by decide) rfl (fun ls hl => ?_)
  refine lv_goto (tgt := 112) X.1 X.2.1 dX12_plansRails_226 (by decide) ?_
  exact hK112 σ_3 x1 x2 x3 (x4 + 1) _ _ _ hw h (lv_sub hl [1, 2, 3, 4, 0] rfl)
set_option maxRecDepth 100000 in
set_option maxHeartbeats 4000000 in
theorem lb_X12_plansRails_202 (X : Cx p s m meth c args cX12_plansRails 8 none RX12 D ct L φ N0) {K126 : St → Int → Int → Int → Int → Int → Int → Prop} {K208 : St → Int → Int → Int → Int → Int → Prop} (hK126 : ∀ (σ : St) (x1 : Int) (x2 : Int) (x3 : Int) (x4 : Int) (x5 : Int) (x6 : Int) (H : Heap) (locs : List Loc) (ls : Array Slot), K126 σ x1 x2 x3 x4 x5 x6 → Hs D ct ad L φ N0 s.heap σ H locs → lv_has ls 8 [(0, .ref (ad 12 0)), (1, .int (iv x1)), (2, .int (iv x2)), (3, .int (iv x3)), (4, .int (iv x4)), (5, .int (iv x5)), (6, .int (iv x6))] → W p l e ({ frames := 1, cells := 0, slots := 0, locals := 23 } : Room) s m args below meth c H locs 0 0 (MQ below (Qv D ct ad L φ N0 Q) args s 0 0 (AA N0)) (F0 m 126 ls [])) (hK208 : ∀ (σ : St) (x1 : Int) (x2 : Int) (x3 : Int) (x4 : Int) (x5 : Int) (H : Heap) (locs : List Loc) (ls : Array Slot), K208 σ x1 x2 x3 x4 x5 → Hs D ct ad L φ N0 s.heap σ H locs → lv_has ls 8 [(0, .ref (ad 12 0)), (1, .int (iv x1)), (2, .int (iv x2)), (3, .int (iv x3)), (4, .int (iv x4)), (5, .int (iv x5))] → W p l e ({ frames := 1, cells := 0, slots := 0, locals := 23 } : Room) s m args below meth c H locs 0 0 (MQ below (Qv D ct ad L φ N0 Q) args s 0 0 (AA N0)) (F0 m 208 ls [])) (σ : St) (x1 : Int) (x2 : Int) (x3 : Int) (x4 : Int) (x5 : Int) (x6 : Int) (H : Heap) (locs : List Loc) (ls : Array Slot) (hw : wp_X12_plansRails_202 K126 K208 Q σ x1 x2 x3 x4 x5 x6) (h : Hs D ct ad L φ N0 s.heap σ H locs) (hl : lv_has ls 8 [(0, .ref (ad 12 0)), (1, .int (iv x1)), (2, .int (iv x2)), (3, .int (iv x3)), (4, .int (iv x4)), (5, .int (iv x5)), (6, .int (iv x6))]) : W p l e ({ frames := 1, cells := 0, slots := 0, locals := 23 } : Room) s m args below meth c H locs 0 0 (MQ below (Qv D ct ad L φ N0 Q) args s 0 0 (AA N0)) (F0 m 202 ls []) := by
  have hF := X.2.2.2.2.2.2.2.2.1
  unfold wp_X12_plansRails_202 at hw
  refine j_iinc (kk9 := 6) (lv' := [(6, .int (iv (x6 + 1))), (0, .ref (ad 12 0)), (1, .int (iv x1)), (2, .int (iv x2)), (3, .int (iv x3)), (4, .int (iv x4)), (5, .int (iv x5))]) X dX12_plansRails_202 hl rfl (by decide) rfl (fun ls hl => ?_)
  refine lv_goto (tgt := 126) X.1 X.2.1 dX12_plansRails_205 (by decide) ?_
  exact hK126 σ x1 x2 x3 x4 x5 (x6 + 1) _ _ _ hw h (lv_sub hl [1, 2, 3, 4, 5, 6, 0] rfl)
set_option maxRecDepth 100000 in
set_option maxHeartbeats 4000000 in
theorem lb_X12_plansRails_200 (X : Cx p s m meth c args cX12_plansRails 8 none RX12 D ct L φ N0) {K126 : St → Int → Int → Int → Int → Int → Int → Prop} {K208 : St → Int → Int → Int → Int → Int → Prop} (hK126 : ∀ (σ : St) (x1 : Int) (x2 : Int) (x3 : Int) (x4 : Int) (x5 : Int) (x6 : Int) (H : Heap) (locs : List Loc) (ls : Array Slot), K126 σ x1 x2 x3 x4 x5 x6 → Hs D ct ad L φ N0 s.heap σ H locs → lv_has ls 8 [(0, .ref (ad 12 0)), (1, .int (iv x1)), (2, .int (iv x2)), (3, .int (iv x3)), (4, .int (iv x4)), (5, .int (iv x5)), (6, .int (iv x6))] → W p l e ({ frames := 1, cells := 0, slots := 0, locals := 23 } : Room) s m args below meth c H locs 0 0 (MQ below (Qv D ct ad L φ N0 Q) args s 0 0 (AA N0)) (F0 m 126 ls [])) (hK208 : ∀ (σ : St) (x1 : Int) (x2 : Int) (x3 : Int) (x4 : Int) (x5 : Int) (H : Heap) (locs : List Loc) (ls : Array Slot), K208 σ x1 x2 x3 x4 x5 → Hs D ct ad L φ N0 s.heap σ H locs → lv_has ls 8 [(0, .ref (ad 12 0)), (1, .int (iv x1)), (2, .int (iv x2)), (3, .int (iv x3)), (4, .int (iv x4)), (5, .int (iv x5))] → W p l e ({ frames := 1, cells := 0, slots := 0, locals := 23 } : Room) s m args below meth c H locs 0 0 (MQ below (Qv D ct ad L φ N0 Q) args s 0 0 (AA N0)) (F0 m 208 ls [])) (σ : St) (x1 : Int) (x2 : Int) (x3 : Int) (x4 : Int) (x6 : Int) (y0 : Int) (H : Heap) (locs : List Loc) (ls : Array Slot) (hw : wp_X12_plansRails_200 K126 K208 Q σ x1 x2 x3 x4 x6 y0) (h : Hs D ct ad L φ N0 s.heap σ H locs) (hl : lv_has ls 8 [(0, .ref (ad 12 0)), (1, .int (iv x1)), (2, .int (iv x2)), (3, .int (iv x3)), (4, .int (iv x4)), (6, .int (iv x6))]) : W p l e ({ frames := 1, cells := 0, slots := 0, locals := 23 } : Room) s m args below meth c H locs 0 0 (MQ below (Qv D ct ad L φ N0 Q) args s 0 0 (AA N0)) (F0 m 200 ls [.int (iv y0)]) := by
  have hF := X.2.2.2.2.2.2.2.2.1
  unfold wp_X12_plansRails_200 at hw
  refine lv_istore (lv' := [(5, .int (iv y0)), (0, .ref (ad 12 0)), (1, .int (iv x1)), (2, .int (iv x2)), (3, .int (iv x3)), (4, .int (iv x4)), (6, .int (iv x6))]) X.1 X.2.1 dX12_plansRails_200 hl (by decide) rfl (fun ls hl => ?_)
  exact lb_X12_plansRails_202 X hK126 hK208 σ x1 x2 x3 x4 y0 x6 _ _ _ hw h (lv_sub hl [1, 2, 3, 4, 5, 0, 6] rfl)
set_option maxRecDepth 100000 in
set_option maxHeartbeats 4000000 in
theorem lb_X12_plansRails_126 (X : Cx p s m meth c args cX12_plansRails 8 none RX12 D ct L φ N0) {K208 : St → Int → Int → Int → Int → Int → Prop} (hK208 : ∀ (σ : St) (x1 : Int) (x2 : Int) (x3 : Int) (x4 : Int) (x5 : Int) (H : Heap) (locs : List Loc) (ls : Array Slot), K208 σ x1 x2 x3 x4 x5 → Hs D ct ad L φ N0 s.heap σ H locs → lv_has ls 8 [(0, .ref (ad 12 0)), (1, .int (iv x1)), (2, .int (iv x2)), (3, .int (iv x3)), (4, .int (iv x4)), (5, .int (iv x5))] → W p l e ({ frames := 1, cells := 0, slots := 0, locals := 23 } : Room) s m args below meth c H locs 0 0 (MQ below (Qv D ct ad L φ N0 Q) args s 0 0 (AA N0)) (F0 m 208 ls [])) : ∀ (n : Nat) (σ : St) (x1 : Int) (x2 : Int) (x3 : Int) (x4 : Int) (x5 : Int) (x6 : Int) (H : Heap) (locs : List Loc) (ls : Array Slot), wp_X12_plansRails_126 K208 Q n σ x1 x2 x3 x4 x5 x6 → Hs D ct ad L φ N0 s.heap σ H locs → lv_has ls 8 [(0, .ref (ad 12 0)), (1, .int (iv x1)), (2, .int (iv x2)), (3, .int (iv x3)), (4, .int (iv x4)), (5, .int (iv x5)), (6, .int (iv x6))] → W p l e ({ frames := 1, cells := 0, slots := 0, locals := 23 } : Room) s m args below meth c H locs 0 0 (MQ below (Qv D ct ad L φ N0 Q) args s 0 0 (AA N0)) (F0 m 126 ls []) := by
  have hF := X.2.2.2.2.2.2.2.2.1
  intro n
  induction n with
  | zero => intro σ x1 x2 x3 x4 x5 x6 H locs ls hw; exact hw.elim
  | succ n ih =>
    intro σ x1 x2 x3 x4 x5 x6 H locs ls hw h hl
    unfold wp_X12_plansRails_126 at hw
    refine lv_iload X.1 X.2.1 dX12_plansRails_126 (lv_at hl 6 rfl) ?_
    refine lv_iload_n X.1 X.2.1 dX12_plansRails_128 rfl (lv_at hl 2 rfl) ?_
    obtain ⟨g_4, g_5, hwt, hwf⟩ := hw
    refine j_cmp_ge (tgt := 208) X g_4 g_5 dX12_plansRails_129 (by decide) (fun c_20 => ?_) (fun c_20 => ?_)
    · have hw := hwt c_20
      exact hK208 σ x1 x2 x3 x4 x5 _ _ _ hw h (lv_sub hl [0, 1, 2, 3, 4, 5] rfl)
    · have hw := hwf c_20
      refine lv_aload_n X.1 X.2.1 dX12_plansRails_132 rfl (lv_at hl 0 rfl) ?_
      refine r_getR (ci := 12) X inw_12 h (hF.1 12 rfl).1 rfl rfl 88 (by decide) kw_1726 rfl ((hF.1 12 rfl).2 88) dX12_plansRails_133 ?_
      refine lv_iload X.1 X.2.1 dX12_plansRails_136 (lv_at hl 6 rfl) ?_
      obtain ⟨g_6, g_7, hw⟩ := hw
      refine r_iald (n := 512) X h (hF.1 147 rfl).1 rfl (by decide) g_6 g_7 dX12_plansRails_138 ?_
      refine j_ldc_w (n := 100000000) X kw_2377 (by decide) dX12_plansRails_139 ?_
      obtain ⟨g_8, hwt, hwf⟩ := hw
      refine j_cmp_ne (tgt := 148) X g_8 ⟨by decide, by decide⟩ dX12_plansRails_142 (by decide) (fun c_19 => ?_) (fun c_19 => ?_)
      · have hw := hwt c_19
        refine lv_aload_n X.1 X.2.1 dX12_plansRails_148 rfl (lv_at hl 0 rfl) ?_
        refine r_getR (ci := 12) X inw_12 h (hF.1 12 rfl).1 rfl rfl 89 (by decide) kw_1727 rfl ((hF.1 12 rfl).2 89) dX12_plansRails_149 ?_
        refine lv_iload X.1 X.2.1 dX12_plansRails_152 (lv_at hl 6 rfl) ?_
        refine lv_iload X.1 X.2.1 dX12_plansRails_154 (lv_at hl 4 rfl) ?_
        refine j_iconst X dX12_plansRails_156 ?_
        refine j_ixor X dX12_plansRails_157 ?_
        refine j_iand X dX12_plansRails_158 ?_
        obtain ⟨g_9, g_10, hw⟩ := hw
        refine r_iald (n := 512) X h (hF.1 148 rfl).1 rfl (by decide) g_9 g_10 dX12_plansRails_159 ?_
        refine lv_aload_n X.1 X.2.1 dX12_plansRails_160 rfl (lv_at hl 0 rfl) ?_
        refine r_getR (ci := 12) X inw_12 h (hF.1 12 rfl).1 rfl rfl 88 (by decide) kw_1726 rfl ((hF.1 12 rfl).2 88) dX12_plansRails_161 ?_
        refine lv_iload X.1 X.2.1 dX12_plansRails_164 (lv_at hl 6 rfl) ?_
        obtain ⟨g_11, g_12, hw⟩ := hw
        refine r_iald (n := 512) X h (hF.1 147 rfl).1 rfl (by decide) g_11 g_12 dX12_plansRails_166 ?_
        refine j_iadd X dX12_plansRails_167 ?_
        refine lv_aload_n X.1 X.2.1 dX12_plansRails_168 rfl (lv_at hl 0 rfl) ?_
        refine r_getR (ci := 12) X inw_12 h (hF.1 12 rfl).1 rfl rfl 87 (by decide) kw_1725 rfl ((hF.1 12 rfl).2 87) dX12_plansRails_169 ?_
        refine j_sipush X dX12_plansRails_172 (by decide) ?_
        refine lv_iload_n X.1 X.2.1 dX12_plansRails_175 rfl (lv_at hl 3 rfl) ?_
        refine j_iconst X dX12_plansRails_176 ?_
        refine j_iadd X dX12_plansRails_177 ?_
        refine j_imul X dX12_plansRails_178 ?_
        refine lv_iload X.1 X.2.1 dX12_plansRails_179 (lv_at hl 6 rfl) ?_
        refine j_iadd X dX12_plansRails_181 ?_
        obtain ⟨g_13, g_14, hw⟩ := hw
        refine r_iald (n := 2560) X h (hF.1 146 rfl).1 rfl (by decide) g_13 g_14 dX12_plansRails_182 ?_
        refine j_iadd X dX12_plansRails_183 ?_
        refine j_bind (fun v_15 ev_15 => ?_)
        have hw := hw v_15 ev_15
        refine lv_istore (lv' := [(7, .int (iv v_15)), (0, .ref (ad 12 0)), (1, .int (iv x1)), (2, .int (iv x2)), (3, .int (iv x3)), (4, .int (iv x4)), (5, .int (iv x5)), (6, .int (iv x6))]) X.1 X.2.1 dX12_plansRails_184 hl (by decide) rfl (fun ls hl => ?_)
        refine lv_iload X.1 X.2.1 dX12_plansRails_186 (lv_at hl 0 rfl) ?_
        refine lv_iload X.1 X.2.1 dX12_plansRails_188 (lv_at hl 6 rfl) ?_
        obtain ⟨g_16, g_17, hwt, hwf⟩ := hw
        refine j_cmp_ge (tgt := 198) X g_16 g_17 dX12_plansRails_190 (by decide) (fun c_18 => ?_) (fun c_18 => ?_)
        · have hw := hwt c_18
          refine lv_iload X.1 X.2.1 dX12_plansRails_198 (lv_at hl 6 rfl) ?_
          exact lb_X12_plansRails_200 X ih hK208 σ x1 x2 x3 x4 x6 x5 _ _ _ hw h (lv_sub hl [1, 2, 3, 4, 5, 7] rfl)
        · have hw := hwf c_18
          refine lv_iload X.1 X.2.1 dX12_plansRails_193 (lv_at hl 0 rfl) ?_
          refine lv_goto (tgt := 200) X.1 X.2.1 dX12_plansRails_195 (by decide) ?_
          exact lb_X12_plansRails_200 X ih hK208 σ x1 x2 x3 x4 x6 v_15 _ _ _ hw h (lv_sub hl [1, 2, 3, 4, 5, 7] rfl)
      · have hw := hwf c_19
        refine lv_goto (tgt := 202) X.1 X.2.1 dX12_plansRails_145 (by decide) ?_
        exact lb_X12_plansRails_202 X ih hK208 σ x1 x2 x3 x4 x5 x6 _ _ _ hw h (lv_sub hl [0, 1, 2, 3, 4, 5, 6] rfl)
set_option maxRecDepth 100000 in
set_option maxHeartbeats 4000000 in
theorem lb_X12_plansRails_112 (X : Cx p s m meth c args cX12_plansRails 8 none RX12 D ct L φ N0) {K229 : St → Int → Int → Int → Prop} (hK229 : ∀ (σ : St) (x1 : Int) (x2 : Int) (x3 : Int) (H : Heap) (locs : List Loc) (ls : Array Slot), K229 σ x1 x2 x3 → Hs D ct ad L φ N0 s.heap σ H locs → lv_has ls 8 [(0, .ref (ad 12 0)), (1, .int (iv x1)), (2, .int (iv x2)), (3, .int (iv x3))] → W p l e ({ frames := 1, cells := 0, slots := 0, locals := 23 } : Room) s m args below meth c H locs 0 0 (MQ below (Qv D ct ad L φ N0 Q) args s 0 0 (AA N0)) (F0 m 229 ls [])) : ∀ (n : Nat) (σ : St) (x1 : Int) (x2 : Int) (x3 : Int) (x4 : Int) (H : Heap) (locs : List Loc) (ls : Array Slot), wp_X12_plansRails_112 K229 Q n σ x1 x2 x3 x4 → Hs D ct ad L φ N0 s.heap σ H locs → lv_has ls 8 [(0, .ref (ad 12 0)), (1, .int (iv x1)), (2, .int (iv x2)), (3, .int (iv x3)), (4, .int (iv x4))] → W p l e ({ frames := 1, cells := 0, slots := 0, locals := 23 } : Room) s m args below meth c H locs 0 0 (MQ below (Qv D ct ad L φ N0 Q) args s 0 0 (AA N0)) (F0 m 112 ls []) := by
  have hF := X.2.2.2.2.2.2.2.2.1
  intro n
  induction n with
  | zero => intro σ x1 x2 x3 x4 H locs ls hw; exact hw.elim
  | succ n ih =>
    intro σ x1 x2 x3 x4 H locs ls hw h hl
    unfold wp_X12_plansRails_112 at hw
    refine lv_iload X.1 X.2.1 dX12_plansRails_112 (lv_at hl 4 rfl) ?_
    refine lv_iload_n X.1 X.2.1 dX12_plansRails_114 rfl (lv_at hl 2 rfl) ?_
    obtain ⟨g_21, g_22, hwt, hwf⟩ := hw
    refine j_cmp_ge (tgt := 229) X g_21 g_22 dX12_plansRails_115 (by decide) (fun c_23 => ?_) (fun c_23 => ?_)
    · have hw := hwt c_23
      exact hK229 σ x1 x2 x3 _ _ _ hw h (lv_sub hl [0, 1, 2, 3] rfl)
    · have hw := hwf c_23
      refine j_ldc_w (n := 100000000) X kw_2377 (by decide) dX12_plansRails_118 ?_
      refine lv_istore (lv' := [(5, .int (iv 100000000)), (0, .ref (ad 12 0)), (1, .int (iv x1)), (2, .int (iv x2)), (3, .int (iv x3)), (4, .int (iv x4))]) X.1 X.2.1 dX12_plansRails_121 hl (by decide) rfl (fun ls hl => ?_)
      refine j_iconst X dX12_plansRails_123 ?_
      refine lv_istore (lv' := [(6, .int (iv 0)), (5, .int (iv 100000000)), (0, .ref (ad 12 0)), (1, .int (iv x1)), (2, .int (iv x2)), (3, .int (iv x3)), (4, .int (iv x4))]) X.1 X.2.1 dX12_plansRails_124 hl (by decide) rfl (fun ls hl => ?_)
      exact hw.elim (fun n126 hw => lb_X12_plansRails_126 X (lb_X12_plansRails_208 X ih hK229) n126 σ x1 x2 x3 x4 100000000 0 _ _ _ hw h (lv_sub hl [2, 3, 4, 5, 6, 1, 0] rfl))
set_option maxRecDepth 100000 in
set_option maxHeartbeats 4000000 in
theorem lb_X12_plansRails_109 (X : Cx p s m meth c args cX12_plansRails 8 none RX12 D ct L φ N0) {K44 : St → Int → Int → Int → Prop} (hK44 : ∀ (σ : St) (x1 : Int) (x2 : Int) (x3 : Int) (H : Heap) (locs : List Loc) (ls : Array Slot), K44 σ x1 x2 x3 → Hs D ct ad L φ N0 s.heap σ H locs → lv_has ls 8 [(0, .ref (ad 12 0)), (1, .int (iv x1)), (2, .int (iv x2)), (3, .int (iv x3))] → W p l e ({ frames := 1, cells := 0, slots := 0, locals := 23 } : Room) s m args below meth c H locs 0 0 (MQ below (Qv D ct ad L φ N0 Q) args s 0 0 (AA N0)) (F0 m 44 ls [])) (σ : St) (x1 : Int) (x2 : Int) (x3 : Int) (H : Heap) (locs : List Loc) (ls : Array Slot) (hw : wp_X12_plansRails_109 K44 Q σ x1 x2 x3) (h : Hs D ct ad L φ N0 s.heap σ H locs) (hl : lv_has ls 8 [(0, .ref (ad 12 0)), (1, .int (iv x1)), (2, .int (iv x2)), (3, .int (iv x3))]) : W p l e ({ frames := 1, cells := 0, slots := 0, locals := 23 } : Room) s m args below meth c H locs 0 0 (MQ below (Qv D ct ad L φ N0 Q) args s 0 0 (AA N0)) (F0 m 109 ls []) := by
  have hF := X.2.2.2.2.2.2.2.2.1
  unfold wp_X12_plansRails_109 at hw
  refine j_iconst X dX12_plansRails_109 ?_
  refine lv_istore (lv' := [(4, .int (iv 0)), (0, .ref (ad 12 0)), (1, .int (iv x1)), (2, .int (iv x2)), (3, .int (iv x3))]) X.1 X.2.1 dX12_plansRails_110 hl (by decide) rfl (fun ls hl => ?_)
  exact hw.elim (fun n112 hw => lb_X12_plansRails_112 X (lb_X12_plansRails_229 X hK44) n112 σ x1 x2 x3 0 _ _ _ hw h (lv_sub hl [1, 2, 3, 4, 0] rfl))
set_option maxRecDepth 100000 in
set_option maxHeartbeats 4000000 in
theorem lb_X12_plansRails_102 (X : Cx p s m meth c args cX12_plansRails 8 none RX12 D ct L φ N0) {K51 : St → Int → Int → Int → Int → Prop} {K109 : St → Int → Int → Int → Prop} (hK51 : ∀ (σ : St) (x1 : Int) (x2 : Int) (x3 : Int) (x4 : Int) (H : Heap) (locs : List Loc) (ls : Array Slot), K51 σ x1 x2 x3 x4 → Hs D ct ad L φ N0 s.heap σ H locs → lv_has ls 8 [(0, .ref (ad 12 0)), (1, .int (iv x1)), (2, .int (iv x2)), (3, .int (iv x3)), (4, .int (iv x4))] → W p l e ({ frames := 1, cells := 0, slots := 0, locals := 23 } : Room) s m args below meth c H locs 0 0 (MQ below (Qv D ct ad L φ N0 Q) args s 0 0 (AA N0)) (F0 m 51 ls [])) (hK109 : ∀ (σ : St) (x1 : Int) (x2 : Int) (x3 : Int) (H : Heap) (locs : List Loc) (ls : Array Slot), K109 σ x1 x2 x3 → Hs D ct ad L φ N0 s.heap σ H locs → lv_has ls 8 [(0, .ref (ad 12 0)), (1, .int (iv x1)), (2, .int (iv x2)), (3, .int (iv x3))] → W p l e ({ frames := 1, cells := 0, slots := 0, locals := 23 } : Room) s m args below meth c H locs 0 0 (MQ below (Qv D ct ad L φ N0 Q) args s 0 0 (AA N0)) (F0 m 109 ls [])) (σ : St) (x1 : Int) (x2 : Int) (x3 : Int) (x4 : Int) (y0 : Int) (y1 : Int) (H : Heap) (locs : List Loc) (ls : Array Slot) (hw : wp_X12_plansRails_102 K51 K109 Q σ x1 x2 x3 x4 y0 y1) (h : Hs D ct ad L φ N0 s.heap σ H locs) (hl : lv_has ls 8 [(0, .ref (ad 12 0)), (1, .int (iv x1)), (2, .int (iv x2)), (3, .int (iv x3)), (4, .int (iv x4))]) : W p l e ({ frames := 1, cells := 0, slots := 0, locals := 23 } : Room) s m args below meth c H locs 0 0 (MQ below (Qv D ct ad L φ N0 Q) args s 0 0 (AA N0)) (F0 m 102 ls [.int (iv y0), .int (iv y1), .ref (ad 147 0)]) := by
  have hF := X.2.2.2.2.2.2.2.2.1
  unfold wp_X12_plansRails_102 at hw
  obtain ⟨g_24, g_25, hw⟩ := hw
  refine r_iast (n := 512) X h (hF.1 147 rfl).1 (fun _ => rfl) (by decide) g_24 g_25 rfl dX12_plansRails_102 (fun H locs h => ?_)
  obtain ⟨σ_26, eσ_26⟩ : ∃ z : St, z = st σ 147 0 (Int.toNat y1) y0 := ⟨_, rfl⟩
  rw [← eσ_26] at h
  have hw := hw σ_26 eσ_26
  refine j_iinc (kk9 := 4) (lv' := [(4, .int (iv (x4 + 1))), (0, .ref (ad 12 0)), (1, .int (iv x1)), (2, .int (iv x2)), (3, .int (iv x3))]) X dX12_plansRails_103 hl rfl (by decide) rfl (fun ls hl => ?_)
  refine lv_goto (tgt := 51) X.1 X.2.1 dX12_plansRails_106 (by decide) ?_
  exact hK51 σ_26 x1 x2 x3 (x4 + 1) _ _ _ hw h (lv_sub hl [1, 2, 3, 4, 0] rfl)
set_option maxRecDepth 100000 in
set_option maxHeartbeats 4000000 in
theorem lb_X12_plansRails_51 (X : Cx p s m meth c args cX12_plansRails 8 none RX12 D ct L φ N0) {K109 : St → Int → Int → Int → Prop} (hK109 : ∀ (σ : St) (x1 : Int) (x2 : Int) (x3 : Int) (H : Heap) (locs : List Loc) (ls : Array Slot), K109 σ x1 x2 x3 → Hs D ct ad L φ N0 s.heap σ H locs → lv_has ls 8 [(0, .ref (ad 12 0)), (1, .int (iv x1)), (2, .int (iv x2)), (3, .int (iv x3))] → W p l e ({ frames := 1, cells := 0, slots := 0, locals := 23 } : Room) s m args below meth c H locs 0 0 (MQ below (Qv D ct ad L φ N0 Q) args s 0 0 (AA N0)) (F0 m 109 ls [])) : ∀ (n : Nat) (σ : St) (x1 : Int) (x2 : Int) (x3 : Int) (x4 : Int) (H : Heap) (locs : List Loc) (ls : Array Slot), wp_X12_plansRails_51 K109 Q n σ x1 x2 x3 x4 → Hs D ct ad L φ N0 s.heap σ H locs → lv_has ls 8 [(0, .ref (ad 12 0)), (1, .int (iv x1)), (2, .int (iv x2)), (3, .int (iv x3)), (4, .int (iv x4))] → W p l e ({ frames := 1, cells := 0, slots := 0, locals := 23 } : Room) s m args below meth c H locs 0 0 (MQ below (Qv D ct ad L φ N0 Q) args s 0 0 (AA N0)) (F0 m 51 ls []) := by
  have hF := X.2.2.2.2.2.2.2.2.1
  intro n
  induction n with
  | zero => intro σ x1 x2 x3 x4 H locs ls hw; exact hw.elim
  | succ n ih =>
    intro σ x1 x2 x3 x4 H locs ls hw h hl
    unfold wp_X12_plansRails_51 at hw
    refine lv_iload X.1 X.2.1 dX12_plansRails_51 (lv_at hl 4 rfl) ?_
    refine lv_iload_n X.1 X.2.1 dX12_plansRails_53 rfl (lv_at hl 2 rfl) ?_
    obtain ⟨g_27, g_28, hwt, hwf⟩ := hw
    refine j_cmp_ge (tgt := 109) X g_27 g_28 dX12_plansRails_54 (by decide) (fun c_40 => ?_) (fun c_40 => ?_)
    · have hw := hwt c_40
      exact hK109 σ x1 x2 x3 _ _ _ hw h (lv_sub hl [0, 1, 2, 3] rfl)
    · have hw := hwf c_40
      refine lv_aload_n X.1 X.2.1 dX12_plansRails_57 rfl (lv_at hl 0 rfl) ?_
      refine r_getR (ci := 12) X inw_12 h (hF.1 12 rfl).1 rfl rfl 88 (by decide) kw_1726 rfl ((hF.1 12 rfl).2 88) dX12_plansRails_58 ?_
      refine lv_iload X.1 X.2.1 dX12_plansRails_61 (lv_at hl 4 rfl) ?_
      refine lv_aload_n X.1 X.2.1 dX12_plansRails_63 rfl (lv_at hl 0 rfl) ?_
      refine lv_iload X.1 X.2.1 dX12_plansRails_64 (lv_at hl 4 rfl) ?_
      refine k_i h (r_V (C := RX12) (ci := 12) (As := [.int (iv x4)]) (rest := [.int (iv x4), .ref (ad 147 0)]) X h (c_X12_ironOf l D ct ad L φ N0 σ x4 _ hw) rfl rfl ⟨Nat.le_of_ble_eq_true rfl, Nat.le_of_ble_eq_true rfl⟩ kw_2373 kw_2375 kw_110 kw_129 kw_2376 ⟨rfl, pd_X12_ironOf⟩ (hF.1 12 rfl).1 rfl rfl rfl hl.1 rfl (Nat.le_of_ble_eq_true rfl) ⟨Nat.le_of_ble_eq_true rfl, Nat.le_of_ble_eq_true rfl⟩ dX12_plansRails_66) (fun r_30 σ_29 H locs hw h => ?_)
      refine lv_aload_n X.1 X.2.1 dX12_plansRails_69 rfl (lv_at hl 0 rfl) ?_
      refine r_get (ci := 12) X inw_12 h (hF.1 12 rfl).1 rfl rfl 59 (by decide) kw_1697 rfl dX12_plansRails_70 ?_
      obtain ⟨g_31, g_32, hwt, hwf⟩ := hw
      refine j_cmp_le (tgt := 82) X g_31 g_32 dX12_plansRails_73 (by decide) (fun c_39 => ?_) (fun c_39 => ?_)
      · have hw := hwt c_39
        refine lv_iload_n X.1 X.2.1 dX12_plansRails_82 rfl (lv_at hl 1 rfl) ?_
        refine lv_aload_n X.1 X.2.1 dX12_plansRails_83 rfl (lv_at hl 0 rfl) ?_
        refine r_getR (ci := 12) X inw_12 h (hF.1 12 rfl).1 rfl rfl 86 (by decide) kw_1724 rfl ((hF.1 12 rfl).2 86) dX12_plansRails_84 ?_
        refine lv_iload_n X.1 X.2.1 dX12_plansRails_87 rfl (lv_at hl 3 rfl) ?_
        obtain ⟨g_33, g_34, hw⟩ := hw
        refine r_iald (n := 4) X h (hF.1 145 rfl).1 rfl (by decide) g_33 g_34 dX12_plansRails_88 ?_
        refine lv_aload_n X.1 X.2.1 dX12_plansRails_89 rfl (lv_at hl 0 rfl) ?_
        refine lv_iload X.1 X.2.1 dX12_plansRails_90 (lv_at hl 4 rfl) ?_
        refine k_i h (r_V (C := RX12) (ci := 12) (As := [.int (iv x4)]) (rest := [.int (iv (σ_29 145 0 (Int.toNat x3))), .int (iv x1), .int (iv x4), .ref (ad 147 0)]) X h (c_X12_cellsOf l D ct ad L φ N0 σ_29 x4 _ hw) rfl rfl ⟨Nat.le_of_ble_eq_true rfl, Nat.le_of_ble_eq_true rfl⟩ kw_2378 kw_2380 kw_111 kw_129 kw_2381 ⟨rfl, pd_X12_cellsOf⟩ (hF.1 12 rfl).1 rfl rfl rfl hl.1 rfl (Nat.le_of_ble_eq_true rfl) ⟨Nat.le_of_ble_eq_true rfl, Nat.le_of_ble_eq_true rfl⟩ dX12_plansRails_92) (fun r_36 σ_35 H locs hw h => ?_)
        refine j_iconst X dX12_plansRails_95 ?_
        refine j_ixor X dX12_plansRails_96 ?_
        refine j_iand X dX12_plansRails_97 ?_
        refine k_i h (r_S (As := [.int (iv (i_iand (σ_29 145 0 (Int.toNat x3)) (i_ixor r_36 (-1))))]) (rest := [.int (iv x1), .int (iv x4), .ref (ad 147 0)]) X h (c_J6_bitCount_0f7a4 l D ct ad L φ N0 σ_35 (i_iand (σ_29 145 0 (Int.toNat x3)) (i_ixor r_36 (-1))) _ hw) rfl rfl ⟨Nat.le_of_ble_eq_true rfl, Nat.le_of_ble_eq_true rfl⟩ kw_2382 kw_1365 kw_143 kw_1366 pd_J6_bitCount_0f7a4 rfl hl.1 rfl (Nat.le_of_ble_eq_true rfl) ⟨Nat.le_of_ble_eq_true rfl, Nat.le_of_ble_eq_true rfl⟩ dX12_plansRails_98) (fun r_38 σ_37 H locs hw h => ?_)
        refine j_imul X dX12_plansRails_101 ?_
        exact lb_X12_plansRails_102 X ih hK109 σ_37 x1 x2 x3 x4 (x1 * r_38) x4 _ _ _ hw h (lv_sub hl [0, 1, 2, 3, 4] rfl)
      · have hw := hwf c_39
        refine j_ldc_w (n := 100000000) X kw_2377 (by decide) dX12_plansRails_76 ?_
        refine lv_goto (tgt := 102) X.1 X.2.1 dX12_plansRails_79 (by decide) ?_
        exact lb_X12_plansRails_102 X ih hK109 σ_29 x1 x2 x3 x4 100000000 x4 _ _ _ hw h (lv_sub hl [0, 1, 2, 3, 4] rfl)
set_option maxRecDepth 100000 in
set_option maxHeartbeats 4000000 in
theorem lb_X12_plansRails_44 (X : Cx p s m meth c args cX12_plansRails 8 none RX12 D ct L φ N0) : ∀ (n : Nat) (σ : St) (x1 : Int) (x2 : Int) (x3 : Int) (H : Heap) (locs : List Loc) (ls : Array Slot), wp_X12_plansRails_44 Q n σ x1 x2 x3 → Hs D ct ad L φ N0 s.heap σ H locs → lv_has ls 8 [(0, .ref (ad 12 0)), (1, .int (iv x1)), (2, .int (iv x2)), (3, .int (iv x3))] → W p l e ({ frames := 1, cells := 0, slots := 0, locals := 23 } : Room) s m args below meth c H locs 0 0 (MQ below (Qv D ct ad L φ N0 Q) args s 0 0 (AA N0)) (F0 m 44 ls []) := by
  have hF := X.2.2.2.2.2.2.2.2.1
  intro n
  induction n with
  | zero => intro σ x1 x2 x3 H locs ls hw; exact hw.elim
  | succ n ih =>
    intro σ x1 x2 x3 H locs ls hw h hl
    unfold wp_X12_plansRails_44 at hw
    refine lv_iload_n X.1 X.2.1 dX12_plansRails_44 rfl (lv_at hl 3 rfl) ?_
    obtain ⟨g_41, hwt, hwf⟩ := hw
    refine j_if_lt (tgt := 235) X g_41 dX12_plansRails_45 (by decide) (fun c_42 => ?_) (fun c_42 => ?_)
    · have hw := hwt c_42
      exact k_vr X h hw dX12_plansRails_235
    · have hw := hwf c_42
      refine j_iconst X dX12_plansRails_48 ?_
      refine lv_istore (lv' := [(4, .int (iv 0)), (0, .ref (ad 12 0)), (1, .int (iv x1)), (2, .int (iv x2)), (3, .int (iv x3))]) X.1 X.2.1 dX12_plansRails_49 hl (by decide) rfl (fun ls hl => ?_)
      exact hw.elim (fun n51 hw => lb_X12_plansRails_51 X (lb_X12_plansRails_109 X ih) n51 σ x1 x2 x3 0 _ _ _ hw h (lv_sub hl [1, 2, 3, 4, 0] rfl))
set_option maxRecDepth 100000 in
set_option maxHeartbeats 4000000 in
theorem lb_X12_plansRails_42 (X : Cx p s m meth c args cX12_plansRails 8 none RX12 D ct L φ N0) (σ : St) (x1 : Int) (x2 : Int) (H : Heap) (locs : List Loc) (ls : Array Slot) (hw : wp_X12_plansRails_42 Q σ x1 x2) (h : Hs D ct ad L φ N0 s.heap σ H locs) (hl : lv_has ls 8 [(0, .ref (ad 12 0)), (1, .int (iv x1)), (2, .int (iv x2))]) : W p l e ({ frames := 1, cells := 0, slots := 0, locals := 23 } : Room) s m args below meth c H locs 0 0 (MQ below (Qv D ct ad L φ N0 Q) args s 0 0 (AA N0)) (F0 m 42 ls []) := by
  have hF := X.2.2.2.2.2.2.2.2.1
  unfold wp_X12_plansRails_42 at hw
  refine j_iconst X dX12_plansRails_42 ?_
  refine lv_istore_n (lv' := [(3, .int (iv 3)), (0, .ref (ad 12 0)), (1, .int (iv x1)), (2, .int (iv x2))]) X.1 X.2.1 dX12_plansRails_43 rfl hl (by decide) rfl (fun ls hl => ?_)
  exact hw.elim (fun n44 hw => lb_X12_plansRails_44 X n44 σ x1 x2 3 _ _ _ hw h (lv_sub hl [1, 2, 3, 0] rfl))
set_option maxRecDepth 100000 in
set_option maxHeartbeats 4000000 in
theorem lb_X12_plansRails_9 (X : Cx p s m meth c args cX12_plansRails 8 none RX12 D ct L φ N0) {K42 : St → Int → Int → Prop} (hK42 : ∀ (σ : St) (x1 : Int) (x2 : Int) (H : Heap) (locs : List Loc) (ls : Array Slot), K42 σ x1 x2 → Hs D ct ad L φ N0 s.heap σ H locs → lv_has ls 8 [(0, .ref (ad 12 0)), (1, .int (iv x1)), (2, .int (iv x2))] → W p l e ({ frames := 1, cells := 0, slots := 0, locals := 23 } : Room) s m args below meth c H locs 0 0 (MQ below (Qv D ct ad L φ N0 Q) args s 0 0 (AA N0)) (F0 m 42 ls [])) : ∀ (n : Nat) (σ : St) (x1 : Int) (x2 : Int) (x3 : Int) (H : Heap) (locs : List Loc) (ls : Array Slot), wp_X12_plansRails_9 K42 Q n σ x1 x2 x3 → Hs D ct ad L φ N0 s.heap σ H locs → lv_has ls 8 [(0, .ref (ad 12 0)), (1, .int (iv x1)), (2, .int (iv x2)), (3, .int (iv x3))] → W p l e ({ frames := 1, cells := 0, slots := 0, locals := 23 } : Room) s m args below meth c H locs 0 0 (MQ below (Qv D ct ad L φ N0 Q) args s 0 0 (AA N0)) (F0 m 9 ls []) := by
  have hF := X.2.2.2.2.2.2.2.2.1
  intro n
  induction n with
  | zero => intro σ x1 x2 x3 H locs ls hw; exact hw.elim
  | succ n ih =>
    intro σ x1 x2 x3 H locs ls hw h hl
    unfold wp_X12_plansRails_9 at hw
    refine lv_iload_n X.1 X.2.1 dX12_plansRails_9 rfl (lv_at hl 3 rfl) ?_
    refine lv_iload_n X.1 X.2.1 dX12_plansRails_10 rfl (lv_at hl 2 rfl) ?_
    obtain ⟨g_43, g_44, hwt, hwf⟩ := hw
    refine j_cmp_ge (tgt := 42) X g_43 g_44 dX12_plansRails_11 (by decide) (fun c_53 => ?_) (fun c_53 => ?_)
    · have hw := hwt c_53
      exact hK42 σ x1 x2 _ _ _ hw h (lv_sub hl [0, 1, 2] rfl)
    · have hw := hwf c_53
      refine lv_aload_n X.1 X.2.1 dX12_plansRails_14 rfl (lv_at hl 0 rfl) ?_
      refine r_getR (ci := 12) X inw_12 h (hF.1 12 rfl).1 rfl rfl 87 (by decide) kw_1725 rfl ((hF.1 12 rfl).2 87) dX12_plansRails_15 ?_
      refine j_sipush X dX12_plansRails_18 (by decide) ?_
      refine lv_iload_n X.1 X.2.1 dX12_plansRails_21 rfl (lv_at hl 3 rfl) ?_
      refine j_iadd X dX12_plansRails_22 ?_
      refine j_iconst X dX12_plansRails_23 ?_
      obtain ⟨g_45, g_46, hw⟩ := hw
      refine r_iast (n := 2560) X h (hF.1 146 rfl).1 (fun _ => rfl) (by decide) g_45 g_46 rfl dX12_plansRails_24 (fun H locs h => ?_)
      obtain ⟨σ_47, eσ_47⟩ : ∃ z : St, z = st σ 146 0 (Int.toNat (2048 + x3)) 0 := ⟨_, rfl⟩
      rw [← eσ_47] at h
      have hw := hw σ_47 eσ_47
      refine lv_aload_n X.1 X.2.1 dX12_plansRails_25 rfl (lv_at hl 0 rfl) ?_
      refine r_getR (ci := 12) X inw_12 h (hF.1 12 rfl).1 rfl rfl 89 (by decide) kw_1727 rfl ((hF.1 12 rfl).2 89) dX12_plansRails_26 ?_
      refine lv_iload_n X.1 X.2.1 dX12_plansRails_29 rfl (lv_at hl 3 rfl) ?_
      refine lv_aload_n X.1 X.2.1 dX12_plansRails_30 rfl (lv_at hl 0 rfl) ?_
      refine lv_iload_n X.1 X.2.1 dX12_plansRails_31 rfl (lv_at hl 3 rfl) ?_
      refine k_i h (r_V (C := RX12) (ci := 12) (As := [.int (iv x3)]) (rest := [.int (iv x3), .ref (ad 148 0)]) X h (c_X12_layCost l D ct ad L φ N0 σ_47 x3 _ hw) rfl rfl ⟨Nat.le_of_ble_eq_true rfl, Nat.le_of_ble_eq_true rfl⟩ kw_2369 kw_2371 kw_109 kw_129 kw_2372 ⟨rfl, pd_X12_layCost⟩ (hF.1 12 rfl).1 rfl rfl rfl hl.1 rfl (Nat.le_of_ble_eq_true rfl) ⟨Nat.le_of_ble_eq_true rfl, Nat.le_of_ble_eq_true rfl⟩ dX12_plansRails_32) (fun r_49 σ_48 H locs hw h => ?_)
      obtain ⟨g_50, g_51, hw⟩ := hw
      refine r_iast (n := 512) X h (hF.1 148 rfl).1 (fun _ => rfl) (by decide) g_50 g_51 rfl dX12_plansRails_35 (fun H locs h => ?_)
      obtain ⟨σ_52, eσ_52⟩ : ∃ z : St, z = st σ_48 148 0 (Int.toNat x3) r_49 := ⟨_, rfl⟩
      rw [← eσ_52] at h
      have hw := hw σ_52 eσ_52
      refine j_iinc (kk9 := 3) (lv' := [(3, .int (iv (x3 + 1))), (0, .ref (ad 12 0)), (1, .int (iv x1)), (2, .int (iv x2))]) X dX12_plansRails_36 hl rfl (by decide) rfl (fun ls hl => ?_)
      refine lv_goto (tgt := 9) X.1 X.2.1 dX12_plansRails_39 (by decide) ?_
      exact ih σ_52 x1 x2 (x3 + 1) _ _ _ hw h (lv_sub hl [1, 2, 3, 0] rfl)
theorem pd_X12_plansRails : yX12_plansRails.cls ≠ "java/lang/invoke/MethodHandle" ∧ yX12_plansRails.cls ≠ "java/lang/invoke/VarHandle" ∧ (parseMethodDescriptor yX12_plansRails.desc).map (fun d => d.parameters.length) = some 1 := by decide +kernel
set_option maxRecDepth 100000 in
set_option maxHeartbeats 4000000 in
theorem c_X12_plansRails (l : Launch) (D : va_G) (ct : Nat → ClassId) (ad : Nat → Nat → Nat) (L : List (Nat × Nat)) (φ : Nat → Nat → Nat → Bool) (N0 : Nat) (σ : St) (x1 : Int) (Q : St → Prop) (hw : wp_X12_plansRails σ x1 Q) : Met l yX12_plansRails (.code yX12_plansRails cX12_plansRails 8 none :: gw) ({ frames := 1, cells := 0, slots := 0, locals := 23 } : Room) (Pm D ct ad L φ N0 σ [.ref (ad 12 0), .int (iv x1)]) (Qv D ct ad L φ N0 Q) 0 0 (AA N0) := by
  refine m_of (by decide) (fun p e s m below meth c X hnm h => ?_)
  have hF := X.2.2.2.2.2.2.2.2.1
  have hl := lv_entry ([.ref (ad 12 0), .int (iv x1)]) (n := 8) (Nat.le_of_ble_eq_true rfl)
  rw [lg_entry_eq]
  generalize (lg_sl ([.ref (ad 12 0), .int (iv x1)]) ++ List.replicate (8 - (lg_sl ([.ref (ad 12 0), .int (iv x1)])).length) Slot.unset).toArray = ls at hl ⊢
  have hl : lv_has ls 8 [(0, .ref (ad 12 0)), (1, .int (iv x1))] := hl
  have h : Hs D ct ad L φ N0 s.heap σ s.heap [] := h
  unfold wp_X12_plansRails at hw
  refine j_iconst X dX12_plansRails_0 ?_
  refine lv_aload_n X.1 X.2.1 dX12_plansRails_1 rfl (lv_at hl 0 rfl) ?_
  refine r_get (ci := 12) X inw_12 h (hF.1 12 rfl).1 rfl rfl 82 (by decide) kw_1720 rfl dX12_plansRails_2 ?_
  refine j_ishl X dX12_plansRails_5 ?_
  refine j_bind (fun v_54 ev_54 => ?_)
  have hw := hw v_54 ev_54
  refine lv_istore_n (lv' := [(2, .int (iv v_54)), (0, .ref (ad 12 0)), (1, .int (iv x1))]) X.1 X.2.1 dX12_plansRails_6 rfl hl (by decide) rfl (fun ls hl => ?_)
  refine j_iconst X dX12_plansRails_7 ?_
  refine lv_istore_n (lv' := [(3, .int (iv 0)), (2, .int (iv v_54)), (0, .ref (ad 12 0)), (1, .int (iv x1))]) X.1 X.2.1 dX12_plansRails_8 rfl hl (by decide) rfl (fun ls hl => ?_)
  exact hw.elim (fun n9 hw => lb_X12_plansRails_9 X (lb_X12_plansRails_42 X) n9 σ x1 v_54 0 _ _ _ hw h (lv_sub hl [2, 3, 1, 0] rfl))
end
