/-! walked by program: 17.w -/
section
variable {p : Program} {l : Launch} {e : Env} {s : State} {m : MethodId} {args : Array Value} {below : List Frame} {meth : Method} {c : Code} {D : va_G} {ct : Nat → ClassId} {ad : Nat → Nat → Nat} {L : List (Nat × Nat)} {φ : Nat → Nat → Nat → Bool} {N0 : Nat}
variable {Q : Int → St → Prop}
theorem pd_X12_isCrew : yX12_isCrew.cls ≠ "java/lang/invoke/MethodHandle" ∧ yX12_isCrew.cls ≠ "java/lang/invoke/VarHandle" ∧ (parseMethodDescriptor yX12_isCrew.desc).map (fun d => d.parameters.length) = some 1 := by decide +kernel
set_option maxRecDepth 100000 in
set_option maxHeartbeats 4000000 in
theorem c_X12_isCrew (l : Launch) (D : va_G) (ct : Nat → ClassId) (ad : Nat → Nat → Nat) (L : List (Nat × Nat)) (φ : Nat → Nat → Nat → Bool) (N0 : Nat) (σ : St) (x1 : Int) (Q : Int → St → Prop) (hw : wp_X12_isCrew σ x1 Q) : Met l yX12_isCrew (.code yX12_isCrew cX12_isCrew 2 (some .boolean) :: gw) ({ frames := 1, cells := 0, slots := 0, locals := 22 } : Room) (Pm D ct ad L φ N0 σ [.ref (ad 12 0), .int (iv x1)]) (Qi D ct ad L φ N0 Q) 0 0 (AA N0) := by
  refine m_of (by decide) (fun p e s m below meth c X hnm h => ?_)
  have hF := X.2.2.2.2.2.2.2.2.1
  have hl := lv_entry ([.ref (ad 12 0), .int (iv x1)]) (n := 2) (Nat.le_of_ble_eq_true rfl)
  rw [lg_entry_eq]
  generalize (lg_sl ([.ref (ad 12 0), .int (iv x1)]) ++ List.replicate (2 - (lg_sl ([.ref (ad 12 0), .int (iv x1)])).length) Slot.unset).toArray = ls at hl ⊢
  have hl : lv_has ls 2 [(0, .ref (ad 12 0)), (1, .int (iv x1))] := hl
  have h : Hs D ct ad L φ N0 s.heap σ s.heap [] := h
  unfold wp_X12_isCrew at hw
  refine lv_iload_n X.1 X.2.1 dX12_isCrew_0 rfl (lv_at hl 1 rfl) ?_
  refine j_iconst X dX12_isCrew_1 ?_
  refine lv_aload_n X.1 X.2.1 dX12_isCrew_2 rfl (lv_at hl 0 rfl) ?_
  refine r_get (ci := 12) X inw_12 h (hF.1 12 rfl).1 rfl rfl 60 (by decide) kw_1698 rfl dX12_isCrew_3 ?_
  refine j_iconst X dX12_isCrew_6 ?_
  refine j_isub X dX12_isCrew_7 ?_
  refine k_i h (r_S (As := [.int (iv x1), .int (iv 0), .int (iv ((σ 12 0 60) - 1))]) (rest := []) X h (c_X12_within l D ct ad L φ N0 σ x1 0 ((σ 12 0 60) - 1) _ hw) rfl rfl ⟨Nat.le_of_ble_eq_true rfl, Nat.le_of_ble_eq_true rfl⟩ kw_1959 kw_1960 kw_129 kw_1961 pd_X12_within rfl hl.1 rfl (Nat.le_of_ble_eq_true rfl) ⟨Nat.le_of_ble_eq_true rfl, Nat.le_of_ble_eq_true rfl⟩ dX12_isCrew_8) (fun r_2 σ_1 H locs hw h => ?_)
  obtain ⟨g_3, hw⟩ := hw
  exact k_ir X (nb_n g_3) h hw dX12_isCrew_11
end
section
variable {p : Program} {l : Launch} {e : Env} {s : State} {m : MethodId} {args : Array Value} {below : List Frame} {meth : Method} {c : Code} {D : va_G} {ct : Nat → ClassId} {ad : Nat → Nat → Nat} {L : List (Nat × Nat)} {φ : Nat → Nat → Nat → Bool} {N0 : Nat}
variable {Q : Int → St → Prop}
theorem pd_X12_why : yX12_why.cls ≠ "java/lang/invoke/MethodHandle" ∧ yX12_why.cls ≠ "java/lang/invoke/VarHandle" ∧ (parseMethodDescriptor yX12_why.desc).map (fun d => d.parameters.length) = some 4 := by decide +kernel
set_option maxRecDepth 100000 in
set_option maxHeartbeats 4000000 in
theorem c_X12_why (l : Launch) (D : va_G) (ct : Nat → ClassId) (ad : Nat → Nat → Nat) (L : List (Nat × Nat)) (φ : Nat → Nat → Nat → Bool) (N0 : Nat) (σ : St) (x1 : Int) (x2 : Int) (x3 : Int) (x4 : Int) (Q : Int → St → Prop) (hw : wp_X12_why σ x1 x2 x3 x4 Q) : Met l yX12_why (.code yX12_why cX12_why 5 (some .int) :: gw) ({ frames := 4, cells := 0, slots := 0, locals := 88 } : Room) (Pm D ct ad L φ N0 σ [.ref (ad 12 0), .int (iv x1), .int (iv x2), .int (iv x3), .int (iv x4)]) (Qi D ct ad L φ N0 Q) 0 0 (AA N0) := by
  refine m_of (by decide) (fun p e s m below meth c X hnm h => ?_)
  have hF := X.2.2.2.2.2.2.2.2.1
  have hl := lv_entry ([.ref (ad 12 0), .int (iv x1), .int (iv x2), .int (iv x3), .int (iv x4)]) (n := 5) (Nat.le_of_ble_eq_true rfl)
  rw [lg_entry_eq]
  generalize (lg_sl ([.ref (ad 12 0), .int (iv x1), .int (iv x2), .int (iv x3), .int (iv x4)]) ++ List.replicate (5 - (lg_sl ([.ref (ad 12 0), .int (iv x1), .int (iv x2), .int (iv x3), .int (iv x4)])).length) Slot.unset).toArray = ls at hl ⊢
  have hl : lv_has ls 5 [(0, .ref (ad 12 0)), (1, .int (iv x1)), (2, .int (iv x2)), (3, .int (iv x3)), (4, .int (iv x4))] := hl
  have h : Hs D ct ad L φ N0 s.heap σ s.heap [] := h
  unfold wp_X12_why at hw
  refine lv_aload_n X.1 X.2.1 dX12_why_0 rfl (lv_at hl 0 rfl) ?_
  refine j_iconst X dX12_why_1 ?_
  refine r_put (ci := 12) X inw_12 tyX12 tyX12_ok nmX12 h (hF.1 12 rfl).1 rfl rfl 0 (by decide) kw_1638 rfl rfl rfl (Nat.le_of_ble_eq_true rfl) rfl rfl dX12_why_2 (fun H locs h => ?_)
  obtain ⟨σ_1, eσ_1⟩ : ∃ z : St, z = st σ 12 0 0 0 := ⟨_, rfl⟩
  rw [← eσ_1] at h
  have hw := hw σ_1 eσ_1
  refine lv_aload_n X.1 X.2.1 dX12_why_5 rfl (lv_at hl 0 rfl) ?_
  refine lv_iload_n X.1 X.2.1 dX12_why_6 rfl (lv_at hl 1 rfl) ?_
  refine k_i h (r_V (C := RX12) (ci := 12) (As := [.int (iv x1)]) (rest := []) X h (c_X12_isCrew l D ct ad L φ N0 σ_1 x1 _ hw) rfl rfl ⟨Nat.le_of_ble_eq_true rfl, Nat.le_of_ble_eq_true rfl⟩ kw_2138 kw_2140 kw_81 kw_129 kw_2141 ⟨rfl, pd_X12_isCrew⟩ (hF.1 12 rfl).1 rfl rfl rfl hl.1 rfl (Nat.le_of_ble_eq_true rfl) ⟨Nat.le_of_ble_eq_true rfl, Nat.le_of_ble_eq_true rfl⟩ dX12_why_7) (fun r_3 σ_2 H locs hw h => ?_)
  obtain ⟨g_4, hwt, hwf⟩ := hw
  refine j_if_eq (tgt := 29) X g_4 dX12_why_10 (by decide) (fun c_16 => ?_) (fun c_16 => ?_)
  · have hw := hwt c_16
    refine j_bipush X dX12_why_29 (by decide) ?_
    exact k_ir X rfl h hw dX12_why_31
  · have hw := hwf c_16
    refine lv_iload_n X.1 X.2.1 dX12_why_13 rfl (lv_at hl 2 rfl) ?_
    refine k_i h (r_S (As := [.int (iv x2)]) (rest := []) X h (c_X12_isCell l D ct ad L φ N0 σ_2 x2 _ hw) rfl rfl ⟨Nat.le_of_ble_eq_true rfl, Nat.le_of_ble_eq_true rfl⟩ kw_1956 kw_1957 kw_129 kw_1958 pd_X12_isCell rfl hl.1 rfl (Nat.le_of_ble_eq_true rfl) ⟨Nat.le_of_ble_eq_true rfl, Nat.le_of_ble_eq_true rfl⟩ dX12_why_14) (fun r_6 σ_5 H locs hw h => ?_)
    obtain ⟨g_7, hwt, hwf⟩ := hw
    refine j_if_eq (tgt := 29) X g_7 dX12_why_17 (by decide) (fun c_15 => ?_) (fun c_15 => ?_)
    · have hw := hwt c_15
      refine j_bipush X dX12_why_29 (by decide) ?_
      exact k_ir X rfl h hw dX12_why_31
    · have hw := hwf c_15
      refine lv_iload_n X.1 X.2.1 dX12_why_20 rfl (lv_at hl 3 rfl) ?_
      refine lv_iload X.1 X.2.1 dX12_why_21 (lv_at hl 4 rfl) ?_
      refine k_i h (r_S (As := [.int (iv x3), .int (iv x4)]) (rest := []) X h (c_X12_isStem l D ct ad L φ N0 σ_5 x3 x4 _ hw) rfl rfl ⟨Nat.le_of_ble_eq_true rfl, Nat.le_of_ble_eq_true rfl⟩ kw_1966 kw_1967 kw_129 kw_1968 pd_X12_isStem rfl hl.1 rfl (Nat.le_of_ble_eq_true rfl) ⟨Nat.le_of_ble_eq_true rfl, Nat.le_of_ble_eq_true rfl⟩ dX12_why_23) (fun r_9 σ_8 H locs hw h => ?_)
      obtain ⟨g_10, hwt, hwf⟩ := hw
      refine j_if_ne (tgt := 32) X g_10 dX12_why_26 (by decide) (fun c_14 => ?_) (fun c_14 => ?_)
      · have hw := hwt c_14
        refine lv_aload_n X.1 X.2.1 dX12_why_32 rfl (lv_at hl 0 rfl) ?_
        refine lv_iload_n X.1 X.2.1 dX12_why_33 rfl (lv_at hl 1 rfl) ?_
        refine lv_iload_n X.1 X.2.1 dX12_why_34 rfl (lv_at hl 2 rfl) ?_
        refine lv_iload_n X.1 X.2.1 dX12_why_35 rfl (lv_at hl 3 rfl) ?_
        refine lv_iload X.1 X.2.1 dX12_why_36 (lv_at hl 4 rfl) ?_
        refine k_v h (r_V (C := RX12) (ci := 12) (As := [.int (iv x1), .int (iv x2), .int (iv x3), .int (iv x4)]) (rest := []) X h (c_X12_asksCut l D ct ad L φ N0 σ_8 x1 x2 x3 x4 _ hw) rfl rfl ⟨Nat.le_of_ble_eq_true rfl, Nat.le_of_ble_eq_true rfl⟩ kw_2142 kw_2144 kw_82 kw_129 kw_2145 ⟨rfl, pd_X12_asksCut⟩ (hF.1 12 rfl).1 rfl rfl rfl hl.1 rfl (Nat.le_of_ble_eq_true rfl) ⟨Nat.le_of_ble_eq_true rfl, Nat.le_of_ble_eq_true rfl⟩ dX12_why_38) (fun σ_11 H locs hw h => ?_)
        refine lv_aload_n X.1 X.2.1 dX12_why_41 rfl (lv_at hl 0 rfl) ?_
        refine j_iconst X dX12_why_42 ?_
        refine k_i h (r_V (C := RX12) (ci := 12) (As := [.int (iv 0)]) (rest := []) X h (c_X12_barring l D ct ad L φ N0 σ_11 0 _ hw) rfl rfl ⟨Nat.le_of_ble_eq_true rfl, Nat.le_of_ble_eq_true rfl⟩ kw_2167 kw_2169 kw_86 kw_129 kw_2170 ⟨rfl, pd_X12_barring⟩ (hF.1 12 rfl).1 rfl rfl rfl hl.1 rfl (Nat.le_of_ble_eq_true rfl) ⟨Nat.le_of_ble_eq_true rfl, Nat.le_of_ble_eq_true rfl⟩ dX12_why_43) (fun r_13 σ_12 H locs hw h => ?_)
        exact k_ir X rfl h hw dX12_why_46
      · have hw := hwf c_14
        refine j_bipush X dX12_why_29 (by decide) ?_
        exact k_ir X rfl h hw dX12_why_31
end
section
variable {p : Program} {l : Launch} {e : Env} {s : State} {m : MethodId} {args : Array Value} {below : List Frame} {meth : Method} {c : Code} {D : va_G} {ct : Nat → ClassId} {ad : Nat → Nat → Nat} {L : List (Nat × Nat)} {φ : Nat → Nat → Nat → Bool} {N0 : Nat}
variable {Q : Int → St → Prop}
theorem pd_X12_barringWay : yX12_barringWay.cls ≠ "java/lang/invoke/MethodHandle" ∧ yX12_barringWay.cls ≠ "java/lang/invoke/VarHandle" ∧ (parseMethodDescriptor yX12_barringWay.desc).map (fun d => d.parameters.length) = some 1 := by decide +kernel
set_option maxRecDepth 100000 in
set_option maxHeartbeats 4000000 in
theorem c_X12_barringWay (l : Launch) (D : va_G) (ct : Nat → ClassId) (ad : Nat → Nat → Nat) (L : List (Nat × Nat)) (φ : Nat → Nat → Nat → Bool) (N0 : Nat) (σ : St) (x1 : Int) (Q : Int → St → Prop) (hw : wp_X12_barringWay σ x1 Q) : Met l yX12_barringWay (.code yX12_barringWay cX12_barringWay 2 (some .int) :: gw) ({ frames := 3, cells := 0, slots := 0, locals := 64 } : Room) (Pm D ct ad L φ N0 σ [.ref (ad 12 0), .int (iv x1)]) (Qi D ct ad L φ N0 Q) 0 0 (AA N0) := by
  refine m_of (by decide) (fun p e s m below meth c X hnm h => ?_)
  have hF := X.2.2.2.2.2.2.2.2.1
  have hl := lv_entry ([.ref (ad 12 0), .int (iv x1)]) (n := 2) (Nat.le_of_ble_eq_true rfl)
  rw [lg_entry_eq]
  generalize (lg_sl ([.ref (ad 12 0), .int (iv x1)]) ++ List.replicate (2 - (lg_sl ([.ref (ad 12 0), .int (iv x1)])).length) Slot.unset).toArray = ls at hl ⊢
  have hl : lv_has ls 2 [(0, .ref (ad 12 0)), (1, .int (iv x1))] := hl
  have h : Hs D ct ad L φ N0 s.heap σ s.heap [] := h
  unfold wp_X12_barringWay at hw
  refine lv_aload_n X.1 X.2.1 dX12_barringWay_0 rfl (lv_at hl 0 rfl) ?_
  refine lv_aload_n X.1 X.2.1 dX12_barringWay_1 rfl (lv_at hl 0 rfl) ?_
  refine r_getR (ci := 12) X inw_12 h (hF.1 12 rfl).1 rfl rfl 55 (by decide) kw_1693 rfl ((hF.1 12 rfl).2 55) dX12_barringWay_2 ?_
  refine lv_iload_n X.1 X.2.1 dX12_barringWay_5 rfl (lv_at hl 1 rfl) ?_
  obtain ⟨g_1, g_2, hw⟩ := hw
  refine r_iald (n := 40) X h (hF.1 121 rfl).1 rfl (by decide) g_1 g_2 dX12_barringWay_6 ?_
  refine k_v h (r_V (C := RX12) (ci := 12) (As := [.int (iv (σ 121 0 (Int.toNat x1)))]) (rest := []) X h (c_X12_asks l D ct ad L φ N0 σ (σ 121 0 (Int.toNat x1)) _ hw) rfl rfl ⟨Nat.le_of_ble_eq_true rfl, Nat.le_of_ble_eq_true rfl⟩ kw_2146 kw_2148 kw_83 kw_129 kw_2149 ⟨rfl, pd_X12_asks⟩ (hF.1 12 rfl).1 rfl rfl rfl hl.1 rfl (Nat.le_of_ble_eq_true rfl) ⟨Nat.le_of_ble_eq_true rfl, Nat.le_of_ble_eq_true rfl⟩ dX12_barringWay_7) (fun σ_3 H locs hw h => ?_)
  refine lv_aload_n X.1 X.2.1 dX12_barringWay_10 rfl (lv_at hl 0 rfl) ?_
  refine r_getR (ci := 12) X inw_12 h (hF.1 12 rfl).1 rfl rfl 52 (by decide) kw_1690 rfl ((hF.1 12 rfl).2 52) dX12_barringWay_11 ?_
  refine j_bipush X dX12_barringWay_14 (by decide) ?_
  refine lv_aload_n X.1 X.2.1 dX12_barringWay_16 rfl (lv_at hl 0 rfl) ?_
  refine r_getR (ci := 12) X inw_12 h (hF.1 12 rfl).1 rfl rfl 54 (by decide) kw_1692 rfl ((hF.1 12 rfl).2 54) dX12_barringWay_17 ?_
  refine lv_iload_n X.1 X.2.1 dX12_barringWay_20 rfl (lv_at hl 1 rfl) ?_
  obtain ⟨g_4, g_5, hw⟩ := hw
  refine r_iald (n := 40) X h (hF.1 120 rfl).1 rfl (by decide) g_4 g_5 dX12_barringWay_21 ?_
  refine r_iast (n := 13) X h (hF.1 119 rfl).1 (fun _ => rfl) (by decide) (by decide) (by decide) rfl dX12_barringWay_22 (fun H locs h => ?_)
  obtain ⟨σ_6, eσ_6⟩ : ∃ z : St, z = st σ_3 119 0 (Int.toNat 12) (σ_3 120 0 (Int.toNat x1)) := ⟨_, rfl⟩
  rw [← eσ_6] at h
  have hw := hw σ_6 eσ_6
  refine lv_aload_n X.1 X.2.1 dX12_barringWay_23 rfl (lv_at hl 0 rfl) ?_
  refine j_iconst X dX12_barringWay_24 ?_
  refine k_i h (r_V (C := RX12) (ci := 12) (As := [.int (iv 1)]) (rest := []) X h (c_X12_barring l D ct ad L φ N0 σ_6 1 _ hw) rfl rfl ⟨Nat.le_of_ble_eq_true rfl, Nat.le_of_ble_eq_true rfl⟩ kw_2167 kw_2169 kw_86 kw_129 kw_2170 ⟨rfl, pd_X12_barring⟩ (hF.1 12 rfl).1 rfl rfl rfl hl.1 rfl (Nat.le_of_ble_eq_true rfl) ⟨Nat.le_of_ble_eq_true rfl, Nat.le_of_ble_eq_true rfl⟩ dX12_barringWay_25) (fun r_8 σ_7 H locs hw h => ?_)
  exact k_ir X rfl h hw dX12_barringWay_28
end
section
variable {p : Program} {l : Launch} {e : Env} {s : State} {m : MethodId} {args : Array Value} {below : List Frame} {meth : Method} {c : Code} {D : va_G} {ct : Nat → ClassId} {ad : Nat → Nat → Nat} {L : List (Nat × Nat)} {φ : Nat → Nat → Nat → Bool} {N0 : Nat}
variable {Q : Int → St → Prop}
theorem pd_X12_isWay : yX12_isWay.cls ≠ "java/lang/invoke/MethodHandle" ∧ yX12_isWay.cls ≠ "java/lang/invoke/VarHandle" ∧ (parseMethodDescriptor yX12_isWay.desc).map (fun d => d.parameters.length) = some 1 := by decide +kernel
set_option maxRecDepth 100000 in
set_option maxHeartbeats 4000000 in
theorem c_X12_isWay (l : Launch) (D : va_G) (ct : Nat → ClassId) (ad : Nat → Nat → Nat) (L : List (Nat × Nat)) (φ : Nat → Nat → Nat → Bool) (N0 : Nat) (σ : St) (x1 : Int) (Q : Int → St → Prop) (hw : wp_X12_isWay σ x1 Q) : Met l yX12_isWay (.code yX12_isWay cX12_isWay 2 (some .boolean) :: gw) ({ frames := 1, cells := 0, slots := 0, locals := 22 } : Room) (Pm D ct ad L φ N0 σ [.ref (ad 12 0), .int (iv x1)]) (Qi D ct ad L φ N0 Q) 0 0 (AA N0) := by
  refine m_of (by decide) (fun p e s m below meth c X hnm h => ?_)
  have hF := X.2.2.2.2.2.2.2.2.1
  have hl := lv_entry ([.ref (ad 12 0), .int (iv x1)]) (n := 2) (Nat.le_of_ble_eq_true rfl)
  rw [lg_entry_eq]
  generalize (lg_sl ([.ref (ad 12 0), .int (iv x1)]) ++ List.replicate (2 - (lg_sl ([.ref (ad 12 0), .int (iv x1)])).length) Slot.unset).toArray = ls at hl ⊢
  have hl : lv_has ls 2 [(0, .ref (ad 12 0)), (1, .int (iv x1))] := hl
  have h : Hs D ct ad L φ N0 s.heap σ s.heap [] := h
  unfold wp_X12_isWay at hw
  refine lv_iload_n X.1 X.2.1 dX12_isWay_0 rfl (lv_at hl 1 rfl) ?_
  refine j_iconst X dX12_isWay_1 ?_
  refine lv_aload_n X.1 X.2.1 dX12_isWay_2 rfl (lv_at hl 0 rfl) ?_
  refine r_get (ci := 12) X inw_12 h (hF.1 12 rfl).1 rfl rfl 53 (by decide) kw_1691 rfl dX12_isWay_3 ?_
  refine j_iconst X dX12_isWay_6 ?_
  refine j_isub X dX12_isWay_7 ?_
  refine k_i h (r_S (As := [.int (iv x1), .int (iv 0), .int (iv ((σ 12 0 53) - 1))]) (rest := []) X h (c_X12_within l D ct ad L φ N0 σ x1 0 ((σ 12 0 53) - 1) _ hw) rfl rfl ⟨Nat.le_of_ble_eq_true rfl, Nat.le_of_ble_eq_true rfl⟩ kw_1959 kw_1960 kw_129 kw_1961 pd_X12_within rfl hl.1 rfl (Nat.le_of_ble_eq_true rfl) ⟨Nat.le_of_ble_eq_true rfl, Nat.le_of_ble_eq_true rfl⟩ dX12_isWay_8) (fun r_2 σ_1 H locs hw h => ?_)
  obtain ⟨g_3, hw⟩ := hw
  exact k_ir X (nb_n g_3) h hw dX12_isWay_11
end
section
variable {p : Program} {l : Launch} {e : Env} {s : State} {m : MethodId} {args : Array Value} {below : List Frame} {meth : Method} {c : Code} {D : va_G} {ct : Nat → ClassId} {ad : Nat → Nat → Nat} {L : List (Nat × Nat)} {φ : Nat → Nat → Nat → Bool} {N0 : Nat}
variable {Q : Int → St → Prop}
theorem pd_X12_whyWay : yX12_whyWay.cls ≠ "java/lang/invoke/MethodHandle" ∧ yX12_whyWay.cls ≠ "java/lang/invoke/VarHandle" ∧ (parseMethodDescriptor yX12_whyWay.desc).map (fun d => d.parameters.length) = some 1 := by decide +kernel
set_option maxRecDepth 100000 in
set_option maxHeartbeats 4000000 in
theorem c_X12_whyWay (l : Launch) (D : va_G) (ct : Nat → ClassId) (ad : Nat → Nat → Nat) (L : List (Nat × Nat)) (φ : Nat → Nat → Nat → Bool) (N0 : Nat) (σ : St) (x1 : Int) (Q : Int → St → Prop) (hw : wp_X12_whyWay σ x1 Q) : Met l yX12_whyWay (.code yX12_whyWay cX12_whyWay 2 (some .int) :: gw) ({ frames := 4, cells := 0, slots := 0, locals := 85 } : Room) (Pm D ct ad L φ N0 σ [.ref (ad 12 0), .int (iv x1)]) (Qi D ct ad L φ N0 Q) 0 0 (AA N0) := by
  refine m_of (by decide) (fun p e s m below meth c X hnm h => ?_)
  have hF := X.2.2.2.2.2.2.2.2.1
  have hl := lv_entry ([.ref (ad 12 0), .int (iv x1)]) (n := 2) (Nat.le_of_ble_eq_true rfl)
  rw [lg_entry_eq]
  generalize (lg_sl ([.ref (ad 12 0), .int (iv x1)]) ++ List.replicate (2 - (lg_sl ([.ref (ad 12 0), .int (iv x1)])).length) Slot.unset).toArray = ls at hl ⊢
  have hl : lv_has ls 2 [(0, .ref (ad 12 0)), (1, .int (iv x1))] := hl
  have h : Hs D ct ad L φ N0 s.heap σ s.heap [] := h
  unfold wp_X12_whyWay at hw
  refine lv_aload_n X.1 X.2.1 dX12_whyWay_0 rfl (lv_at hl 0 rfl) ?_
  refine j_iconst X dX12_whyWay_1 ?_
  refine r_put (ci := 12) X inw_12 tyX12 tyX12_ok nmX12 h (hF.1 12 rfl).1 rfl rfl 0 (by decide) kw_1638 rfl rfl rfl (Nat.le_of_ble_eq_true rfl) rfl rfl dX12_whyWay_2 (fun H locs h => ?_)
  obtain ⟨σ_1, eσ_1⟩ : ∃ z : St, z = st σ 12 0 0 0 := ⟨_, rfl⟩
  rw [← eσ_1] at h
  have hw := hw σ_1 eσ_1
  refine lv_aload_n X.1 X.2.1 dX12_whyWay_5 rfl (lv_at hl 0 rfl) ?_
  refine lv_iload_n X.1 X.2.1 dX12_whyWay_6 rfl (lv_at hl 1 rfl) ?_
  refine k_i h (r_V (C := RX12) (ci := 12) (As := [.int (iv x1)]) (rest := []) X h (c_X12_isWay l D ct ad L φ N0 σ_1 x1 _ hw) rfl rfl ⟨Nat.le_of_ble_eq_true rfl, Nat.le_of_ble_eq_true rfl⟩ kw_2183 kw_2185 kw_89 kw_129 kw_2186 ⟨rfl, pd_X12_isWay⟩ (hF.1 12 rfl).1 rfl rfl rfl hl.1 rfl (Nat.le_of_ble_eq_true rfl) ⟨Nat.le_of_ble_eq_true rfl, Nat.le_of_ble_eq_true rfl⟩ dX12_whyWay_7) (fun r_3 σ_2 H locs hw h => ?_)
  obtain ⟨g_4, hwt, hwf⟩ := hw
  refine j_if_eq (tgt := 21) X g_4 dX12_whyWay_10 (by decide) (fun c_7 => ?_) (fun c_7 => ?_)
  · have hw := hwt c_7
    refine j_bipush X dX12_whyWay_21 (by decide) ?_
    exact k_ir X rfl h hw dX12_whyWay_23
  · have hw := hwf c_7
    refine lv_aload_n X.1 X.2.1 dX12_whyWay_13 rfl (lv_at hl 0 rfl) ?_
    refine lv_iload_n X.1 X.2.1 dX12_whyWay_14 rfl (lv_at hl 1 rfl) ?_
    refine k_i h (r_V (C := RX12) (ci := 12) (As := [.int (iv x1)]) (rest := []) X h (c_X12_barringWay l D ct ad L φ N0 σ_2 x1 _ hw) rfl rfl ⟨Nat.le_of_ble_eq_true rfl, Nat.le_of_ble_eq_true rfl⟩ kw_2187 kw_2189 kw_90 kw_129 kw_2190 ⟨rfl, pd_X12_barringWay⟩ (hF.1 12 rfl).1 rfl rfl rfl hl.1 rfl (Nat.le_of_ble_eq_true rfl) ⟨Nat.le_of_ble_eq_true rfl, Nat.le_of_ble_eq_true rfl⟩ dX12_whyWay_15) (fun r_6 σ_5 H locs hw h => ?_)
    refine lv_goto (tgt := 23) X.1 X.2.1 dX12_whyWay_18 (by decide) ?_
    exact k_ir X rfl h hw dX12_whyWay_23
end
section
variable {p : Program} {l : Launch} {e : Env} {s : State} {m : MethodId} {args : Array Value} {below : List Frame} {meth : Method} {c : Code} {D : va_G} {ct : Nat → ClassId} {ad : Nat → Nat → Nat} {L : List (Nat × Nat)} {φ : Nat → Nat → Nat → Bool} {N0 : Nat}
variable {Q : Int → St → Prop}
theorem pd_X12_dueOf : yX12_dueOf.cls ≠ "java/lang/invoke/MethodHandle" ∧ yX12_dueOf.cls ≠ "java/lang/invoke/VarHandle" ∧ (parseMethodDescriptor yX12_dueOf.desc).map (fun d => d.parameters.length) = some 2 := by decide +kernel
set_option maxRecDepth 100000 in
set_option maxHeartbeats 4000000 in
theorem c_X12_dueOf (l : Launch) (D : va_G) (ct : Nat → ClassId) (ad : Nat → Nat → Nat) (L : List (Nat × Nat)) (φ : Nat → Nat → Nat → Bool) (N0 : Nat) (σ : St) (x1 : Int) (x2 : Int) (Q : Int → St → Prop) (hw : wp_X12_dueOf σ x1 x2 Q) : Met l yX12_dueOf (.code yX12_dueOf cX12_dueOf 3 (some .int) :: gw) ({ frames := 3, cells := 0, slots := 0, locals := 64 } : Room) (Pm D ct ad L φ N0 σ [.ref (ad 12 0), .int (iv x1), .int (iv x2)]) (Qi D ct ad L φ N0 Q) 0 0 (AA N0) := by
  refine m_of (by decide) (fun p e s m below meth c X hnm h => ?_)
  have hF := X.2.2.2.2.2.2.2.2.1
  have hl := lv_entry ([.ref (ad 12 0), .int (iv x1), .int (iv x2)]) (n := 3) (Nat.le_of_ble_eq_true rfl)
  rw [lg_entry_eq]
  generalize (lg_sl ([.ref (ad 12 0), .int (iv x1), .int (iv x2)]) ++ List.replicate (3 - (lg_sl ([.ref (ad 12 0), .int (iv x1), .int (iv x2)])).length) Slot.unset).toArray = ls at hl ⊢
  have hl : lv_has ls 3 [(0, .ref (ad 12 0)), (1, .int (iv x1)), (2, .int (iv x2))] := hl
  have h : Hs D ct ad L φ N0 s.heap σ s.heap [] := h
  unfold wp_X12_dueOf at hw
  refine lv_aload_n X.1 X.2.1 dX12_dueOf_0 rfl (lv_at hl 0 rfl) ?_
  refine j_iconst X dX12_dueOf_1 ?_
  refine k_v h (r_V (C := RX12) (ci := 12) (As := [.int (iv (-1))]) (rest := []) X h (c_X12_asks l D ct ad L φ N0 σ (-1) _ hw) rfl rfl ⟨Nat.le_of_ble_eq_true rfl, Nat.le_of_ble_eq_true rfl⟩ kw_2146 kw_2148 kw_83 kw_129 kw_2149 ⟨rfl, pd_X12_asks⟩ (hF.1 12 rfl).1 rfl rfl rfl hl.1 rfl (Nat.le_of_ble_eq_true rfl) ⟨Nat.le_of_ble_eq_true rfl, Nat.le_of_ble_eq_true rfl⟩ dX12_dueOf_2) (fun σ_1 H locs hw h => ?_)
  refine lv_aload_n X.1 X.2.1 dX12_dueOf_5 rfl (lv_at hl 0 rfl) ?_
  refine r_getR (ci := 12) X inw_12 h (hF.1 12 rfl).1 rfl rfl 52 (by decide) kw_1690 rfl ((hF.1 12 rfl).2 52) dX12_dueOf_6 ?_
  refine j_bipush X dX12_dueOf_9 (by decide) ?_
  refine lv_iload_n X.1 X.2.1 dX12_dueOf_11 rfl (lv_at hl 1 rfl) ?_
  refine r_iast (n := 13) X h (hF.1 119 rfl).1 (fun _ => rfl) (by decide) (by decide) (by decide) rfl dX12_dueOf_12 (fun H locs h => ?_)
  obtain ⟨σ_2, eσ_2⟩ : ∃ z : St, z = st σ_1 119 0 (Int.toNat 11) x1 := ⟨_, rfl⟩
  rw [← eσ_2] at h
  have hw := hw σ_2 eσ_2
  refine lv_aload_n X.1 X.2.1 dX12_dueOf_13 rfl (lv_at hl 0 rfl) ?_
  refine j_iconst X dX12_dueOf_14 ?_
  refine lv_iload_n X.1 X.2.1 dX12_dueOf_15 rfl (lv_at hl 2 rfl) ?_
  refine j_iadd X dX12_dueOf_16 ?_
  refine k_i h (r_V (C := RX12) (ci := 12) (As := [.int (iv (3 + x2))]) (rest := []) X h (c_X12_lastOf l D ct ad L φ N0 σ_2 (3 + x2) _ hw) rfl rfl ⟨Nat.le_of_ble_eq_true rfl, Nat.le_of_ble_eq_true rfl⟩ kw_2199 kw_2201 kw_92 kw_129 kw_2202 ⟨rfl, pd_X12_lastOf⟩ (hF.1 12 rfl).1 rfl rfl rfl hl.1 rfl (Nat.le_of_ble_eq_true rfl) ⟨Nat.le_of_ble_eq_true rfl, Nat.le_of_ble_eq_true rfl⟩ dX12_dueOf_17) (fun r_4 σ_3 H locs hw h => ?_)
  exact k_ir X rfl h hw dX12_dueOf_20
end
section
variable {p : Program} {l : Launch} {e : Env} {s : State} {m : MethodId} {args : Array Value} {below : List Frame} {meth : Method} {c : Code} {D : va_G} {ct : Nat → ClassId} {ad : Nat → Nat → Nat} {L : List (Nat × Nat)} {φ : Nat → Nat → Nat → Bool} {N0 : Nat}
variable {Q : Int → St → Prop}
theorem pd_X12_due : yX12_due.cls ≠ "java/lang/invoke/MethodHandle" ∧ yX12_due.cls ≠ "java/lang/invoke/VarHandle" ∧ (parseMethodDescriptor yX12_due.desc).map (fun d => d.parameters.length) = some 2 := by decide +kernel
set_option maxRecDepth 100000 in
set_option maxHeartbeats 4000000 in
theorem c_X12_due (l : Launch) (D : va_G) (ct : Nat → ClassId) (ad : Nat → Nat → Nat) (L : List (Nat × Nat)) (φ : Nat → Nat → Nat → Bool) (N0 : Nat) (σ : St) (x1 : Int) (x2 : Int) (Q : Int → St → Prop) (hw : wp_X12_due σ x1 x2 Q) : Met l yX12_due (.code yX12_due cX12_due 3 (some .int) :: gw) ({ frames := 4, cells := 0, slots := 0, locals := 86 } : Room) (Pm D ct ad L φ N0 σ [.ref (ad 12 0), .int (iv x1), .int (iv x2)]) (Qi D ct ad L φ N0 Q) 0 0 (AA N0) := by
  refine m_of (by decide) (fun p e s m below meth c X hnm h => ?_)
  have hF := X.2.2.2.2.2.2.2.2.1
  have hl := lv_entry ([.ref (ad 12 0), .int (iv x1), .int (iv x2)]) (n := 3) (Nat.le_of_ble_eq_true rfl)
  rw [lg_entry_eq]
  generalize (lg_sl ([.ref (ad 12 0), .int (iv x1), .int (iv x2)]) ++ List.replicate (3 - (lg_sl ([.ref (ad 12 0), .int (iv x1), .int (iv x2)])).length) Slot.unset).toArray = ls at hl ⊢
  have hl : lv_has ls 3 [(0, .ref (ad 12 0)), (1, .int (iv x1)), (2, .int (iv x2))] := hl
  have h : Hs D ct ad L φ N0 s.heap σ s.heap [] := h
  unfold wp_X12_due at hw
  refine lv_aload_n X.1 X.2.1 dX12_due_0 rfl (lv_at hl 0 rfl) ?_
  refine j_iconst X dX12_due_1 ?_
  refine r_put (ci := 12) X inw_12 tyX12 tyX12_ok nmX12 h (hF.1 12 rfl).1 rfl rfl 0 (by decide) kw_1638 rfl rfl rfl (Nat.le_of_ble_eq_true rfl) rfl rfl dX12_due_2 (fun H locs h => ?_)
  obtain ⟨σ_1, eσ_1⟩ : ∃ z : St, z = st σ 12 0 0 0 := ⟨_, rfl⟩
  rw [← eσ_1] at h
  have hw := hw σ_1 eσ_1
  refine lv_aload_n X.1 X.2.1 dX12_due_5 rfl (lv_at hl 0 rfl) ?_
  refine lv_iload_n X.1 X.2.1 dX12_due_6 rfl (lv_at hl 1 rfl) ?_
  refine k_i h (r_V (C := RX12) (ci := 12) (As := [.int (iv x1)]) (rest := []) X h (c_X12_isCrew l D ct ad L φ N0 σ_1 x1 _ hw) rfl rfl ⟨Nat.le_of_ble_eq_true rfl, Nat.le_of_ble_eq_true rfl⟩ kw_2138 kw_2140 kw_81 kw_129 kw_2141 ⟨rfl, pd_X12_isCrew⟩ (hF.1 12 rfl).1 rfl rfl rfl hl.1 rfl (Nat.le_of_ble_eq_true rfl) ⟨Nat.le_of_ble_eq_true rfl, Nat.le_of_ble_eq_true rfl⟩ dX12_due_7) (fun r_3 σ_2 H locs hw h => ?_)
  obtain ⟨g_4, hwt, hwf⟩ := hw
  refine j_if_eq (tgt := 31) X g_4 dX12_due_10 (by decide) (fun c_11 => ?_) (fun c_11 => ?_)
  · have hw := hwt c_11
    refine j_iconst X dX12_due_31 ?_
    exact k_ir X rfl h hw dX12_due_32
  · have hw := hwf c_11
    refine lv_iload_n X.1 X.2.1 dX12_due_13 rfl (lv_at hl 2 rfl) ?_
    refine j_iconst X dX12_due_14 ?_
    refine j_iconst X dX12_due_15 ?_
    refine k_i h (r_S (As := [.int (iv x2), .int (iv 0), .int (iv 2)]) (rest := []) X h (c_X12_within l D ct ad L φ N0 σ_2 x2 0 2 _ hw) rfl rfl ⟨Nat.le_of_ble_eq_true rfl, Nat.le_of_ble_eq_true rfl⟩ kw_1959 kw_1960 kw_129 kw_1961 pd_X12_within rfl hl.1 rfl (Nat.le_of_ble_eq_true rfl) ⟨Nat.le_of_ble_eq_true rfl, Nat.le_of_ble_eq_true rfl⟩ dX12_due_16) (fun r_6 σ_5 H locs hw h => ?_)
    obtain ⟨g_7, hwt, hwf⟩ := hw
    refine j_if_eq (tgt := 31) X g_7 dX12_due_19 (by decide) (fun c_10 => ?_) (fun c_10 => ?_)
    · have hw := hwt c_10
      refine j_iconst X dX12_due_31 ?_
      exact k_ir X rfl h hw dX12_due_32
    · have hw := hwf c_10
      refine lv_aload_n X.1 X.2.1 dX12_due_22 rfl (lv_at hl 0 rfl) ?_
      refine lv_iload_n X.1 X.2.1 dX12_due_23 rfl (lv_at hl 1 rfl) ?_
      refine lv_iload_n X.1 X.2.1 dX12_due_24 rfl (lv_at hl 2 rfl) ?_
      refine k_i h (r_V (C := RX12) (ci := 12) (As := [.int (iv x1), .int (iv x2)]) (rest := []) X h (c_X12_dueOf l D ct ad L φ N0 σ_5 x1 x2 _ hw) rfl rfl ⟨Nat.le_of_ble_eq_true rfl, Nat.le_of_ble_eq_true rfl⟩ kw_2195 kw_2197 kw_91 kw_129 kw_2198 ⟨rfl, pd_X12_dueOf⟩ (hF.1 12 rfl).1 rfl rfl rfl hl.1 rfl (Nat.le_of_ble_eq_true rfl) ⟨Nat.le_of_ble_eq_true rfl, Nat.le_of_ble_eq_true rfl⟩ dX12_due_25) (fun r_9 σ_8 H locs hw h => ?_)
      refine lv_goto (tgt := 32) X.1 X.2.1 dX12_due_28 (by decide) ?_
      exact k_ir X rfl h hw dX12_due_32
end
section
variable {p : Program} {l : Launch} {e : Env} {s : State} {m : MethodId} {args : Array Value} {below : List Frame} {meth : Method} {c : Code} {D : va_G} {ct : Nat → ClassId} {ad : Nat → Nat → Nat} {L : List (Nat × Nat)} {φ : Nat → Nat → Nat → Bool} {N0 : Nat}
variable {Q : Int → St → Prop}
theorem pd_X12_way : yX12_way.cls ≠ "java/lang/invoke/MethodHandle" ∧ yX12_way.cls ≠ "java/lang/invoke/VarHandle" ∧ (parseMethodDescriptor yX12_way.desc).map (fun d => d.parameters.length) = some 3 := by decide +kernel
set_option maxRecDepth 100000 in
set_option maxHeartbeats 4000000 in
theorem c_X12_way (l : Launch) (D : va_G) (ct : Nat → ClassId) (ad : Nat → Nat → Nat) (L : List (Nat × Nat)) (φ : Nat → Nat → Nat → Bool) (N0 : Nat) (σ : St) (x1 : Int) (x2 : Int) (x3 : Int) (Q : Int → St → Prop) (hw : wp_X12_way σ x1 x2 x3 Q) : Met l yX12_way (.code yX12_way cX12_way 4 (some .int) :: gw) ({ frames := 2, cells := 0, slots := 0, locals := 42 } : Room) (Pm D ct ad L φ N0 σ [.ref (ad 12 0), .int (iv x1), .int (iv x2), .int (iv x3)]) (Qi D ct ad L φ N0 Q) 0 0 (AA N0) := by
  refine m_of (by decide) (fun p e s m below meth c X hnm h => ?_)
  have hF := X.2.2.2.2.2.2.2.2.1
  have hl := lv_entry ([.ref (ad 12 0), .int (iv x1), .int (iv x2), .int (iv x3)]) (n := 4) (Nat.le_of_ble_eq_true rfl)
  rw [lg_entry_eq]
  generalize (lg_sl ([.ref (ad 12 0), .int (iv x1), .int (iv x2), .int (iv x3)]) ++ List.replicate (4 - (lg_sl ([.ref (ad 12 0), .int (iv x1), .int (iv x2), .int (iv x3)])).length) Slot.unset).toArray = ls at hl ⊢
  have hl : lv_has ls 4 [(0, .ref (ad 12 0)), (1, .int (iv x1)), (2, .int (iv x2)), (3, .int (iv x3))] := hl
  have h : Hs D ct ad L φ N0 s.heap σ s.heap [] := h
  unfold wp_X12_way at hw
  refine lv_aload_n X.1 X.2.1 dX12_way_0 rfl (lv_at hl 0 rfl) ?_
  refine j_iconst X dX12_way_1 ?_
  refine r_put (ci := 12) X inw_12 tyX12 tyX12_ok nmX12 h (hF.1 12 rfl).1 rfl rfl 0 (by decide) kw_1638 rfl rfl rfl (Nat.le_of_ble_eq_true rfl) rfl rfl dX12_way_2 (fun H locs h => ?_)
  obtain ⟨σ_1, eσ_1⟩ : ∃ z : St, z = st σ 12 0 0 0 := ⟨_, rfl⟩
  rw [← eσ_1] at h
  have hw := hw σ_1 eσ_1
  refine lv_iload_n X.1 X.2.1 dX12_way_5 rfl (lv_at hl 2 rfl) ?_
  refine k_i h (r_S (As := [.int (iv x2)]) (rest := []) X h (c_X12_isCell l D ct ad L φ N0 σ_1 x2 _ hw) rfl rfl ⟨Nat.le_of_ble_eq_true rfl, Nat.le_of_ble_eq_true rfl⟩ kw_1956 kw_1957 kw_129 kw_1958 pd_X12_isCell rfl hl.1 rfl (Nat.le_of_ble_eq_true rfl) ⟨Nat.le_of_ble_eq_true rfl, Nat.le_of_ble_eq_true rfl⟩ dX12_way_6) (fun r_3 σ_2 H locs hw h => ?_)
  obtain ⟨g_4, hwt, hwf⟩ := hw
  refine j_if_eq (tgt := 45) X g_4 dX12_way_9 (by decide) (fun c_32 => ?_) (fun c_32 => ?_)
  · have hw := hwt c_32
    refine j_iconst X dX12_way_45 ?_
    exact k_ir X rfl h hw dX12_way_46
  · have hw := hwf c_32
    refine lv_iload_n X.1 X.2.1 dX12_way_12 rfl (lv_at hl 3 rfl) ?_
    refine k_i h (r_S (As := [.int (iv x3)]) (rest := []) X h (c_X12_isCell l D ct ad L φ N0 σ_2 x3 _ hw) rfl rfl ⟨Nat.le_of_ble_eq_true rfl, Nat.le_of_ble_eq_true rfl⟩ kw_1956 kw_1957 kw_129 kw_1958 pd_X12_isCell rfl hl.1 rfl (Nat.le_of_ble_eq_true rfl) ⟨Nat.le_of_ble_eq_true rfl, Nat.le_of_ble_eq_true rfl⟩ dX12_way_13) (fun r_6 σ_5 H locs hw h => ?_)
    obtain ⟨g_7, hwt, hwf⟩ := hw
    refine j_if_eq (tgt := 45) X g_7 dX12_way_16 (by decide) (fun c_31 => ?_) (fun c_31 => ?_)
    · have hw := hwt c_31
      refine j_iconst X dX12_way_45 ?_
      exact k_ir X rfl h hw dX12_way_46
    · have hw := hwf c_31
      refine lv_iload_n X.1 X.2.1 dX12_way_19 rfl (lv_at hl 2 rfl) ?_
      refine lv_iload_n X.1 X.2.1 dX12_way_20 rfl (lv_at hl 3 rfl) ?_
      refine k_i h (r_S (As := [.int (iv x2), .int (iv x3)]) (rest := []) X h (c_X12_areBeside l D ct ad L φ N0 σ_5 x2 x3 _ hw) rfl rfl ⟨Nat.le_of_ble_eq_true rfl, Nat.le_of_ble_eq_true rfl⟩ kw_2207 kw_2208 kw_129 kw_2209 pd_X12_areBeside rfl hl.1 rfl (Nat.le_of_ble_eq_true rfl) ⟨Nat.le_of_ble_eq_true rfl, Nat.le_of_ble_eq_true rfl⟩ dX12_way_21) (fun r_9 σ_8 H locs hw h => ?_)
      obtain ⟨g_10, hwt, hwf⟩ := hw
      refine j_if_eq (tgt := 45) X g_10 dX12_way_24 (by decide) (fun c_30 => ?_) (fun c_30 => ?_)
      · have hw := hwt c_30
        refine j_iconst X dX12_way_45 ?_
        exact k_ir X rfl h hw dX12_way_46
      · have hw := hwf c_30
        refine lv_iload_n X.1 X.2.1 dX12_way_27 rfl (lv_at hl 1 rfl) ?_
        refine j_iconst X dX12_way_28 ?_
        refine j_iconst X dX12_way_29 ?_
        refine k_i h (r_S (As := [.int (iv x1), .int (iv 0), .int (iv 4)]) (rest := []) X h (c_X12_within l D ct ad L φ N0 σ_8 x1 0 4 _ hw) rfl rfl ⟨Nat.le_of_ble_eq_true rfl, Nat.le_of_ble_eq_true rfl⟩ kw_1959 kw_1960 kw_129 kw_1961 pd_X12_within rfl hl.1 rfl (Nat.le_of_ble_eq_true rfl) ⟨Nat.le_of_ble_eq_true rfl, Nat.le_of_ble_eq_true rfl⟩ dX12_way_30) (fun r_12 σ_11 H locs hw h => ?_)
        obtain ⟨g_13, hwt, hwf⟩ := hw
        refine j_if_eq (tgt := 45) X g_13 dX12_way_33 (by decide) (fun c_29 => ?_) (fun c_29 => ?_)
        · have hw := hwt c_29
          refine j_iconst X dX12_way_45 ?_
          exact k_ir X rfl h hw dX12_way_46
        · have hw := hwf c_29
          refine lv_aload_n X.1 X.2.1 dX12_way_36 rfl (lv_at hl 0 rfl) ?_
          refine r_get (ci := 12) X inw_12 h (hF.1 12 rfl).1 rfl rfl 53 (by decide) kw_1691 rfl dX12_way_37 ?_
          refine j_bipush X dX12_way_40 (by decide) ?_
          obtain ⟨g_14, hwt, hwf⟩ := hw
          refine j_cmp_ne (tgt := 47) X g_14 ⟨by decide, by decide⟩ dX12_way_42 (by decide) (fun c_28 => ?_) (fun c_28 => ?_)
          · have hw := hwt c_28
            refine lv_aload_n X.1 X.2.1 dX12_way_47 rfl (lv_at hl 0 rfl) ?_
            refine r_getR (ci := 12) X inw_12 h (hF.1 12 rfl).1 rfl rfl 54 (by decide) kw_1692 rfl ((hF.1 12 rfl).2 54) dX12_way_48 ?_
            refine lv_aload_n X.1 X.2.1 dX12_way_51 rfl (lv_at hl 0 rfl) ?_
            refine r_get (ci := 12) X inw_12 h (hF.1 12 rfl).1 rfl rfl 53 (by decide) kw_1691 rfl dX12_way_52 ?_
            refine lv_iload_n X.1 X.2.1 dX12_way_55 rfl (lv_at hl 1 rfl) ?_
            obtain ⟨g_15, g_16, hw⟩ := hw
            refine r_iast (n := 40) X h (hF.1 120 rfl).1 (fun _ => rfl) (by decide) g_15 g_16 rfl dX12_way_56 (fun H locs h => ?_)
            obtain ⟨σ_17, eσ_17⟩ : ∃ z : St, z = st σ_11 120 0 (Int.toNat (σ_11 12 0 53)) x1 := ⟨_, rfl⟩
            rw [← eσ_17] at h
            have hw := hw σ_17 eσ_17
            refine lv_aload_n X.1 X.2.1 dX12_way_57 rfl (lv_at hl 0 rfl) ?_
            refine r_getR (ci := 12) X inw_12 h (hF.1 12 rfl).1 rfl rfl 55 (by decide) kw_1693 rfl ((hF.1 12 rfl).2 55) dX12_way_58 ?_
            refine lv_aload_n X.1 X.2.1 dX12_way_61 rfl (lv_at hl 0 rfl) ?_
            refine r_get (ci := 12) X inw_12 h (hF.1 12 rfl).1 rfl rfl 53 (by decide) kw_1691 rfl dX12_way_62 ?_
            refine lv_iload_n X.1 X.2.1 dX12_way_65 rfl (lv_at hl 2 rfl) ?_
            obtain ⟨g_18, g_19, hw⟩ := hw
            refine r_iast (n := 40) X h (hF.1 121 rfl).1 (fun _ => rfl) (by decide) g_18 g_19 rfl dX12_way_66 (fun H locs h => ?_)
            obtain ⟨σ_20, eσ_20⟩ : ∃ z : St, z = st σ_17 121 0 (Int.toNat (σ_17 12 0 53)) x2 := ⟨_, rfl⟩
            rw [← eσ_20] at h
            have hw := hw σ_20 eσ_20
            refine lv_aload_n X.1 X.2.1 dX12_way_67 rfl (lv_at hl 0 rfl) ?_
            refine r_getR (ci := 12) X inw_12 h (hF.1 12 rfl).1 rfl rfl 56 (by decide) kw_1694 rfl ((hF.1 12 rfl).2 56) dX12_way_68 ?_
            refine lv_aload_n X.1 X.2.1 dX12_way_71 rfl (lv_at hl 0 rfl) ?_
            refine r_get (ci := 12) X inw_12 h (hF.1 12 rfl).1 rfl rfl 53 (by decide) kw_1691 rfl dX12_way_72 ?_
            refine lv_iload_n X.1 X.2.1 dX12_way_75 rfl (lv_at hl 3 rfl) ?_
            obtain ⟨g_21, g_22, hw⟩ := hw
            refine r_iast (n := 40) X h (hF.1 122 rfl).1 (fun _ => rfl) (by decide) g_21 g_22 rfl dX12_way_76 (fun H locs h => ?_)
            obtain ⟨σ_23, eσ_23⟩ : ∃ z : St, z = st σ_20 122 0 (Int.toNat (σ_20 12 0 53)) x3 := ⟨_, rfl⟩
            rw [← eσ_23] at h
            have hw := hw σ_23 eσ_23
            refine lv_aload_n X.1 X.2.1 dX12_way_77 rfl (lv_at hl 0 rfl) ?_
            refine r_getR (ci := 12) X inw_12 h (hF.1 12 rfl).1 rfl rfl 58 (by decide) kw_1696 rfl ((hF.1 12 rfl).2 58) dX12_way_78 ?_
            refine lv_aload_n X.1 X.2.1 dX12_way_81 rfl (lv_at hl 0 rfl) ?_
            refine r_get (ci := 12) X inw_12 h (hF.1 12 rfl).1 rfl rfl 53 (by decide) kw_1691 rfl dX12_way_82 ?_
            refine j_iconst X dX12_way_85 ?_
            obtain ⟨g_24, g_25, hw⟩ := hw
            refine r_iast (n := 40) X h (hF.1 124 rfl).1 (fun _ => rfl) (by decide) g_24 g_25 rfl dX12_way_86 (fun H locs h => ?_)
            obtain ⟨σ_26, eσ_26⟩ : ∃ z : St, z = st σ_23 124 0 (Int.toNat (σ_23 12 0 53)) (-1) := ⟨_, rfl⟩
            rw [← eσ_26] at h
            have hw := hw σ_26 eσ_26
            refine lv_aload_n X.1 X.2.1 dX12_way_87 rfl (lv_at hl 0 rfl) ?_
            refine lv_dup X.1 X.2.1 dX12_way_88 rfl ?_
            refine r_get (ci := 12) X inw_12 h (hF.1 12 rfl).1 rfl rfl 53 (by decide) kw_1691 rfl dX12_way_89 ?_
            refine j_iconst X dX12_way_92 ?_
            refine j_iadd X dX12_way_93 ?_
            refine r_put (ci := 12) X inw_12 tyX12 tyX12_ok nmX12 h (hF.1 12 rfl).1 rfl rfl 53 (by decide) kw_1691 rfl rfl rfl (Nat.le_of_ble_eq_true rfl) rfl rfl dX12_way_94 (fun H locs h => ?_)
            obtain ⟨σ_27, eσ_27⟩ : ∃ z : St, z = st σ_26 12 0 53 ((σ_26 12 0 53) + 1) := ⟨_, rfl⟩
            rw [← eσ_27] at h
            have hw := hw σ_27 eσ_27
            refine lv_aload_n X.1 X.2.1 dX12_way_97 rfl (lv_at hl 0 rfl) ?_
            refine r_get (ci := 12) X inw_12 h (hF.1 12 rfl).1 rfl rfl 53 (by decide) kw_1691 rfl dX12_way_98 ?_
            refine j_iconst X dX12_way_101 ?_
            refine j_isub X dX12_way_102 ?_
            exact k_ir X rfl h hw dX12_way_103
          · have hw := hwf c_28
            refine j_iconst X dX12_way_45 ?_
            exact k_ir X rfl h hw dX12_way_46
end
section
variable {p : Program} {l : Launch} {e : Env} {s : State} {m : MethodId} {args : Array Value} {below : List Frame} {meth : Method} {c : Code} {D : va_G} {ct : Nat → ClassId} {ad : Nat → Nat → Nat} {L : List (Nat × Nat)} {φ : Nat → Nat → Nat → Bool} {N0 : Nat}
variable {Q : Int → St → Prop}
theorem pd_X12_iron : yX12_iron.cls ≠ "java/lang/invoke/MethodHandle" ∧ yX12_iron.cls ≠ "java/lang/invoke/VarHandle" ∧ (parseMethodDescriptor yX12_iron.desc).map (fun d => d.parameters.length) = some 1 := by decide +kernel
set_option maxRecDepth 100000 in
set_option maxHeartbeats 4000000 in
theorem c_X12_iron (l : Launch) (D : va_G) (ct : Nat → ClassId) (ad : Nat → Nat → Nat) (L : List (Nat × Nat)) (φ : Nat → Nat → Nat → Bool) (N0 : Nat) (σ : St) (x1 : Int) (Q : Int → St → Prop) (hw : wp_X12_iron σ x1 Q) : Met l yX12_iron (.code yX12_iron cX12_iron 2 (some .int) :: gw) ({ frames := 1, cells := 0, slots := 0, locals := 22 } : Room) (Pm D ct ad L φ N0 σ [.ref (ad 12 0), .int (iv x1)]) (Qi D ct ad L φ N0 Q) 0 0 (AA N0) := by
  refine m_of (by decide) (fun p e s m below meth c X hnm h => ?_)
  have hF := X.2.2.2.2.2.2.2.2.1
  have hl := lv_entry ([.ref (ad 12 0), .int (iv x1)]) (n := 2) (Nat.le_of_ble_eq_true rfl)
  rw [lg_entry_eq]
  generalize (lg_sl ([.ref (ad 12 0), .int (iv x1)]) ++ List.replicate (2 - (lg_sl ([.ref (ad 12 0), .int (iv x1)])).length) Slot.unset).toArray = ls at hl ⊢
  have hl : lv_has ls 2 [(0, .ref (ad 12 0)), (1, .int (iv x1))] := hl
  have h : Hs D ct ad L φ N0 s.heap σ s.heap [] := h
  unfold wp_X12_iron at hw
  refine lv_aload_n X.1 X.2.1 dX12_iron_0 rfl (lv_at hl 0 rfl) ?_
  refine j_iconst X dX12_iron_1 ?_
  refine r_put (ci := 12) X inw_12 tyX12 tyX12_ok nmX12 h (hF.1 12 rfl).1 rfl rfl 0 (by decide) kw_1638 rfl rfl rfl (Nat.le_of_ble_eq_true rfl) rfl rfl dX12_iron_2 (fun H locs h => ?_)
  obtain ⟨σ_1, eσ_1⟩ : ∃ z : St, z = st σ 12 0 0 0 := ⟨_, rfl⟩
  rw [← eσ_1] at h
  have hw := hw σ_1 eσ_1
  refine lv_iload_n X.1 X.2.1 dX12_iron_5 rfl (lv_at hl 1 rfl) ?_
  refine j_iconst X dX12_iron_6 ?_
  refine j_sipush X dX12_iron_7 (by decide) ?_
  refine k_i h (r_S (As := [.int (iv x1), .int (iv 0), .int (iv 500)]) (rest := []) X h (c_X12_within l D ct ad L φ N0 σ_1 x1 0 500 _ hw) rfl rfl ⟨Nat.le_of_ble_eq_true rfl, Nat.le_of_ble_eq_true rfl⟩ kw_1959 kw_1960 kw_129 kw_1961 pd_X12_within rfl hl.1 rfl (Nat.le_of_ble_eq_true rfl) ⟨Nat.le_of_ble_eq_true rfl, Nat.le_of_ble_eq_true rfl⟩ dX12_iron_10) (fun r_3 σ_2 H locs hw h => ?_)
  obtain ⟨g_4, hwt, hwf⟩ := hw
  refine j_if_eq (tgt := 28) X g_4 dX12_iron_13 (by decide) (fun c_8 => ?_) (fun c_8 => ?_)
  · have hw := hwt c_8
    refine j_iconst X dX12_iron_28 ?_
    exact k_ir X rfl h hw dX12_iron_29
  · have hw := hwf c_8
    refine lv_aload_n X.1 X.2.1 dX12_iron_16 rfl (lv_at hl 0 rfl) ?_
    refine r_get (ci := 12) X inw_12 h (hF.1 12 rfl).1 rfl rfl 59 (by decide) kw_1697 rfl dX12_iron_17 ?_
    refine lv_iload_n X.1 X.2.1 dX12_iron_20 rfl (lv_at hl 1 rfl) ?_
    refine j_iadd X dX12_iron_21 ?_
    refine j_sipush X dX12_iron_22 (by decide) ?_
    obtain ⟨g_5, hwt, hwf⟩ := hw
    refine j_cmp_le (tgt := 30) X g_5 ⟨by decide, by decide⟩ dX12_iron_25 (by decide) (fun c_7 => ?_) (fun c_7 => ?_)
    · have hw := hwt c_7
      refine lv_aload_n X.1 X.2.1 dX12_iron_30 rfl (lv_at hl 0 rfl) ?_
      refine lv_dup X.1 X.2.1 dX12_iron_31 rfl ?_
      refine r_get (ci := 12) X inw_12 h (hF.1 12 rfl).1 rfl rfl 59 (by decide) kw_1697 rfl dX12_iron_32 ?_
      refine lv_iload_n X.1 X.2.1 dX12_iron_35 rfl (lv_at hl 1 rfl) ?_
      refine j_iadd X dX12_iron_36 ?_
      refine r_put (ci := 12) X inw_12 tyX12 tyX12_ok nmX12 h (hF.1 12 rfl).1 rfl rfl 59 (by decide) kw_1697 rfl rfl rfl (Nat.le_of_ble_eq_true rfl) rfl rfl dX12_iron_37 (fun H locs h => ?_)
      obtain ⟨σ_6, eσ_6⟩ : ∃ z : St, z = st σ_2 12 0 59 ((σ_2 12 0 59) + x1) := ⟨_, rfl⟩
      rw [← eσ_6] at h
      have hw := hw σ_6 eσ_6
      refine lv_aload_n X.1 X.2.1 dX12_iron_40 rfl (lv_at hl 0 rfl) ?_
      refine r_get (ci := 12) X inw_12 h (hF.1 12 rfl).1 rfl rfl 59 (by decide) kw_1697 rfl dX12_iron_41 ?_
      exact k_ir X rfl h hw dX12_iron_44
    · have hw := hwf c_7
      refine j_iconst X dX12_iron_28 ?_
      exact k_ir X rfl h hw dX12_iron_29
end
section
variable {p : Program} {l : Launch} {e : Env} {s : State} {m : MethodId} {args : Array Value} {below : List Frame} {meth : Method} {c : Code} {D : va_G} {ct : Nat → ClassId} {ad : Nat → Nat → Nat} {L : List (Nat × Nat)} {φ : Nat → Nat → Nat → Bool} {N0 : Nat}
variable {Q : Int → St → Prop}
set_option maxRecDepth 100000 in
set_option maxHeartbeats 4000000 in
theorem lb_X12_lay_71 (X : Cx p s m meth c args cX12_lay 3 (some .boolean) RX12 D ct L φ N0) (σ : St) (y0 : Int) (y1 : Int) (H : Heap) (locs : List Loc) (ls : Array Slot) (hw : wp_X12_lay_71 Q σ y0 y1) (h : Hs D ct ad L φ N0 s.heap σ H locs) (hl : lv_has ls 3 []) : W p l e ({ frames := 2, cells := 0, slots := 0, locals := 43 } : Room) s m args below meth c H locs 0 0 (MQ below (Qi D ct ad L φ N0 Q) args s 0 0 (AA N0)) (F0 m 71 ls [.int (iv y0), .int (iv y1), .ref (ad 12 0)]) := by
  have hF := X.2.2.2.2.2.2.2.2.1
  unfold wp_X12_lay_71 at hw
  refine j_iadd X dX12_lay_71 ?_
  refine r_put (ci := 12) X inw_12 tyX12 tyX12_ok nmX12 h (hF.1 12 rfl).1 rfl rfl 59 (by decide) kw_1697 rfl rfl rfl (Nat.le_of_ble_eq_true rfl) rfl rfl dX12_lay_72 (fun H locs h => ?_)
  obtain ⟨σ_1, eσ_1⟩ : ∃ z : St, z = st σ 12 0 59 (y1 + y0) := ⟨_, rfl⟩
  rw [← eσ_1] at h
  have hw := hw σ_1 eσ_1
  refine j_iconst X dX12_lay_75 ?_
  exact k_ir X rfl h hw dX12_lay_76
set_option maxRecDepth 100000 in
set_option maxHeartbeats 4000000 in
theorem lb_X12_lay_48 (X : Cx p s m meth c args cX12_lay 3 (some .boolean) RX12 D ct L φ N0) (σ : St) (x1 : Int) (x2 : Int) (H : Heap) (locs : List Loc) (ls : Array Slot) (hw : wp_X12_lay_48 Q σ x1 x2) (h : Hs D ct ad L φ N0 s.heap σ H locs) (hl : lv_has ls 3 [(0, .ref (ad 12 0)), (1, .int (iv x1)), (2, .int (iv x2))]) : W p l e ({ frames := 2, cells := 0, slots := 0, locals := 43 } : Room) s m args below meth c H locs 0 0 (MQ below (Qi D ct ad L φ N0 Q) args s 0 0 (AA N0)) (F0 m 48 ls []) := by
  have hF := X.2.2.2.2.2.2.2.2.1
  unfold wp_X12_lay_48 at hw
  refine lv_aload_n X.1 X.2.1 dX12_lay_48 rfl (lv_at hl 0 rfl) ?_
  refine r_getR (ci := 12) X inw_12 h (hF.1 12 rfl).1 rfl rfl 57 (by decide) kw_1695 rfl ((hF.1 12 rfl).2 57) dX12_lay_49 ?_
  refine lv_iload_n X.1 X.2.1 dX12_lay_52 rfl (lv_at hl 1 rfl) ?_
  refine lv_iload_n X.1 X.2.1 dX12_lay_53 rfl (lv_at hl 2 rfl) ?_
  obtain ⟨g_2, g_3, g_4, hw⟩ := hw
  refine r_zast (n := 40) X h (hF.1 123 rfl).1 (fun _ => rfl) (by decide) g_2 g_3 rfl (nb_v g_4) dX12_lay_54 (fun H locs h => ?_)
  obtain ⟨σ_5, eσ_5⟩ : ∃ z : St, z = st σ 123 0 (Int.toNat x1) x2 := ⟨_, rfl⟩
  rw [← eσ_5] at h
  have hw := hw σ_5 eσ_5
  refine lv_aload_n X.1 X.2.1 dX12_lay_55 rfl (lv_at hl 0 rfl) ?_
  refine lv_dup X.1 X.2.1 dX12_lay_56 rfl ?_
  refine r_get (ci := 12) X inw_12 h (hF.1 12 rfl).1 rfl rfl 59 (by decide) kw_1697 rfl dX12_lay_57 ?_
  refine lv_iload_n X.1 X.2.1 dX12_lay_60 rfl (lv_at hl 2 rfl) ?_
  obtain ⟨g_6, hwt, hwf⟩ := hw
  refine j_if_eq (tgt := 69) X g_6 dX12_lay_61 (by decide) (fun c_7 => ?_) (fun c_7 => ?_)
  · have hw := hwt c_7
    refine j_bipush X dX12_lay_69 (by decide) ?_
    exact lb_X12_lay_71 X σ_5 10 (σ_5 12 0 59) _ _ _ hw h (lv_sub hl [] rfl)
  · have hw := hwf c_7
    refine j_bipush X dX12_lay_64 (by decide) ?_
    refine lv_goto (tgt := 71) X.1 X.2.1 dX12_lay_66 (by decide) ?_
    exact lb_X12_lay_71 X σ_5 (-10) (σ_5 12 0 59) _ _ _ hw h (lv_sub hl [] rfl)
theorem pd_X12_lay : yX12_lay.cls ≠ "java/lang/invoke/MethodHandle" ∧ yX12_lay.cls ≠ "java/lang/invoke/VarHandle" ∧ (parseMethodDescriptor yX12_lay.desc).map (fun d => d.parameters.length) = some 2 := by decide +kernel
set_option maxRecDepth 100000 in
set_option maxHeartbeats 4000000 in
theorem c_X12_lay (l : Launch) (D : va_G) (ct : Nat → ClassId) (ad : Nat → Nat → Nat) (L : List (Nat × Nat)) (φ : Nat → Nat → Nat → Bool) (N0 : Nat) (σ : St) (x1 : Int) (x2 : Int) (Q : Int → St → Prop) (hw : wp_X12_lay σ x1 x2 Q) : Met l yX12_lay (.code yX12_lay cX12_lay 3 (some .boolean) :: gw) ({ frames := 2, cells := 0, slots := 0, locals := 43 } : Room) (Pm D ct ad L φ N0 σ [.ref (ad 12 0), .int (iv x1), .int (iv x2)]) (Qi D ct ad L φ N0 Q) 0 0 (AA N0) := by
  refine m_of (by decide) (fun p e s m below meth c X hnm h => ?_)
  have hF := X.2.2.2.2.2.2.2.2.1
  have hl := lv_entry ([.ref (ad 12 0), .int (iv x1), .int (iv x2)]) (n := 3) (Nat.le_of_ble_eq_true rfl)
  rw [lg_entry_eq]
  generalize (lg_sl ([.ref (ad 12 0), .int (iv x1), .int (iv x2)]) ++ List.replicate (3 - (lg_sl ([.ref (ad 12 0), .int (iv x1), .int (iv x2)])).length) Slot.unset).toArray = ls at hl ⊢
  have hl : lv_has ls 3 [(0, .ref (ad 12 0)), (1, .int (iv x1)), (2, .int (iv x2))] := hl
  have h : Hs D ct ad L φ N0 s.heap σ s.heap [] := h
  unfold wp_X12_lay at hw
  refine lv_aload_n X.1 X.2.1 dX12_lay_0 rfl (lv_at hl 0 rfl) ?_
  refine j_iconst X dX12_lay_1 ?_
  refine r_put (ci := 12) X inw_12 tyX12 tyX12_ok nmX12 h (hF.1 12 rfl).1 rfl rfl 0 (by decide) kw_1638 rfl rfl rfl (Nat.le_of_ble_eq_true rfl) rfl rfl dX12_lay_2 (fun H locs h => ?_)
  obtain ⟨σ_8, eσ_8⟩ : ∃ z : St, z = st σ 12 0 0 0 := ⟨_, rfl⟩
  rw [← eσ_8] at h
  have hw := hw σ_8 eσ_8
  refine lv_aload_n X.1 X.2.1 dX12_lay_5 rfl (lv_at hl 0 rfl) ?_
  refine lv_iload_n X.1 X.2.1 dX12_lay_6 rfl (lv_at hl 1 rfl) ?_
  refine k_i h (r_V (C := RX12) (ci := 12) (As := [.int (iv x1)]) (rest := []) X h (c_X12_isWay l D ct ad L φ N0 σ_8 x1 _ hw) rfl rfl ⟨Nat.le_of_ble_eq_true rfl, Nat.le_of_ble_eq_true rfl⟩ kw_2183 kw_2185 kw_89 kw_129 kw_2186 ⟨rfl, pd_X12_isWay⟩ (hF.1 12 rfl).1 rfl rfl rfl hl.1 rfl (Nat.le_of_ble_eq_true rfl) ⟨Nat.le_of_ble_eq_true rfl, Nat.le_of_ble_eq_true rfl⟩ dX12_lay_7) (fun r_10 σ_9 H locs hw h => ?_)
  obtain ⟨g_11, hwt, hwf⟩ := hw
  refine j_if_eq (tgt := 46) X g_11 dX12_lay_10 (by decide) (fun c_25 => ?_) (fun c_25 => ?_)
  · have hw := hwt c_25
    refine j_iconst X dX12_lay_46 ?_
    exact k_ir X rfl h hw dX12_lay_47
  · have hw := hwf c_25
    refine lv_aload_n X.1 X.2.1 dX12_lay_13 rfl (lv_at hl 0 rfl) ?_
    refine r_getR (ci := 12) X inw_12 h (hF.1 12 rfl).1 rfl rfl 54 (by decide) kw_1692 rfl ((hF.1 12 rfl).2 54) dX12_lay_14 ?_
    refine lv_iload_n X.1 X.2.1 dX12_lay_17 rfl (lv_at hl 1 rfl) ?_
    obtain ⟨g_12, g_13, hw⟩ := hw
    refine r_iald (n := 40) X h (hF.1 120 rfl).1 rfl (by decide) g_12 g_13 dX12_lay_18 ?_
    refine j_iconst X dX12_lay_19 ?_
    obtain ⟨g_14, hwt, hwf⟩ := hw
    refine j_cmp_ne (tgt := 46) X g_14 ⟨by decide, by decide⟩ dX12_lay_20 (by decide) (fun c_24 => ?_) (fun c_24 => ?_)
    · have hw := hwt c_24
      refine j_iconst X dX12_lay_46 ?_
      exact k_ir X rfl h hw dX12_lay_47
    · have hw := hwf c_24
      refine lv_aload_n X.1 X.2.1 dX12_lay_23 rfl (lv_at hl 0 rfl) ?_
      refine r_getR (ci := 12) X inw_12 h (hF.1 12 rfl).1 rfl rfl 57 (by decide) kw_1695 rfl ((hF.1 12 rfl).2 57) dX12_lay_24 ?_
      refine lv_iload_n X.1 X.2.1 dX12_lay_27 rfl (lv_at hl 1 rfl) ?_
      obtain ⟨g_15, g_16, hw⟩ := hw
      refine r_zald (n := 40) X h (hF.1 123 rfl).1 rfl (by decide) g_15 g_16 dX12_lay_28 ?_
      refine lv_iload_n X.1 X.2.1 dX12_lay_29 rfl (lv_at hl 2 rfl) ?_
      obtain ⟨g_17, g_18, hwt, hwf⟩ := hw
      refine j_cmp_eq (tgt := 46) X g_17 g_18 dX12_lay_30 (by decide) (fun c_23 => ?_) (fun c_23 => ?_)
      · have hw := hwt c_23
        refine j_iconst X dX12_lay_46 ?_
        exact k_ir X rfl h hw dX12_lay_47
      · have hw := hwf c_23
        refine lv_iload_n X.1 X.2.1 dX12_lay_33 rfl (lv_at hl 2 rfl) ?_
        obtain ⟨g_19, hwt, hwf⟩ := hw
        refine j_if_eq (tgt := 48) X g_19 dX12_lay_34 (by decide) (fun c_22 => ?_) (fun c_22 => ?_)
        · have hw := hwt c_22
          exact lb_X12_lay_48 X σ_9 x1 x2 _ _ _ hw h (lv_sub hl [0, 1, 2] rfl)
        · have hw := hwf c_22
          refine lv_aload_n X.1 X.2.1 dX12_lay_37 rfl (lv_at hl 0 rfl) ?_
          refine r_get (ci := 12) X inw_12 h (hF.1 12 rfl).1 rfl rfl 59 (by decide) kw_1697 rfl dX12_lay_38 ?_
          refine j_bipush X dX12_lay_41 (by decide) ?_
          obtain ⟨g_20, hwt, hwf⟩ := hw
          refine j_cmp_ge (tgt := 48) X g_20 ⟨by decide, by decide⟩ dX12_lay_43 (by decide) (fun c_21 => ?_) (fun c_21 => ?_)
          · have hw := hwt c_21
            exact lb_X12_lay_48 X σ_9 x1 x2 _ _ _ hw h (lv_sub hl [0, 1, 2] rfl)
          · have hw := hwf c_21
            refine j_iconst X dX12_lay_46 ?_
            exact k_ir X rfl h hw dX12_lay_47
end
section
variable {p : Program} {l : Launch} {e : Env} {s : State} {m : MethodId} {args : Array Value} {below : List Frame} {meth : Method} {c : Code} {D : va_G} {ct : Nat → ClassId} {ad : Nat → Nat → Nat} {L : List (Nat × Nat)} {φ : Nat → Nat → Nat → Bool} {N0 : Nat}
variable {Q : Int → St → Prop}
theorem pd_X12_dam : yX12_dam.cls ≠ "java/lang/invoke/MethodHandle" ∧ yX12_dam.cls ≠ "java/lang/invoke/VarHandle" ∧ (parseMethodDescriptor yX12_dam.desc).map (fun d => d.parameters.length) = some 1 := by decide +kernel
set_option maxRecDepth 100000 in
set_option maxHeartbeats 4000000 in
theorem c_X12_dam (l : Launch) (D : va_G) (ct : Nat → ClassId) (ad : Nat → Nat → Nat) (L : List (Nat × Nat)) (φ : Nat → Nat → Nat → Bool) (N0 : Nat) (σ : St) (x1 : Int) (Q : Int → St → Prop) (hw : wp_X12_dam σ x1 Q) : Met l yX12_dam (.code yX12_dam cX12_dam 2 (some .boolean) :: gw) ({ frames := 2, cells := 0, slots := 0, locals := 43 } : Room) (Pm D ct ad L φ N0 σ [.ref (ad 12 0), .int (iv x1)]) (Qi D ct ad L φ N0 Q) 0 0 (AA N0) := by
  refine m_of (by decide) (fun p e s m below meth c X hnm h => ?_)
  have hF := X.2.2.2.2.2.2.2.2.1
  have hl := lv_entry ([.ref (ad 12 0), .int (iv x1)]) (n := 2) (Nat.le_of_ble_eq_true rfl)
  rw [lg_entry_eq]
  generalize (lg_sl ([.ref (ad 12 0), .int (iv x1)]) ++ List.replicate (2 - (lg_sl ([.ref (ad 12 0), .int (iv x1)])).length) Slot.unset).toArray = ls at hl ⊢
  have hl : lv_has ls 2 [(0, .ref (ad 12 0)), (1, .int (iv x1))] := hl
  have h : Hs D ct ad L φ N0 s.heap σ s.heap [] := h
  unfold wp_X12_dam at hw
  refine lv_aload_n X.1 X.2.1 dX12_dam_0 rfl (lv_at hl 0 rfl) ?_
  refine j_iconst X dX12_dam_1 ?_
  refine r_put (ci := 12) X inw_12 tyX12 tyX12_ok nmX12 h (hF.1 12 rfl).1 rfl rfl 0 (by decide) kw_1638 rfl rfl rfl (Nat.le_of_ble_eq_true rfl) rfl rfl dX12_dam_2 (fun H locs h => ?_)
  obtain ⟨σ_1, eσ_1⟩ : ∃ z : St, z = st σ 12 0 0 0 := ⟨_, rfl⟩
  rw [← eσ_1] at h
  have hw := hw σ_1 eσ_1
  refine lv_aload_n X.1 X.2.1 dX12_dam_5 rfl (lv_at hl 0 rfl) ?_
  refine lv_iload_n X.1 X.2.1 dX12_dam_6 rfl (lv_at hl 1 rfl) ?_
  refine k_i h (r_V (C := RX12) (ci := 12) (As := [.int (iv x1)]) (rest := []) X h (c_X12_isWay l D ct ad L φ N0 σ_1 x1 _ hw) rfl rfl ⟨Nat.le_of_ble_eq_true rfl, Nat.le_of_ble_eq_true rfl⟩ kw_2183 kw_2185 kw_89 kw_129 kw_2186 ⟨rfl, pd_X12_isWay⟩ (hF.1 12 rfl).1 rfl rfl rfl hl.1 rfl (Nat.le_of_ble_eq_true rfl) ⟨Nat.le_of_ble_eq_true rfl, Nat.le_of_ble_eq_true rfl⟩ dX12_dam_7) (fun r_3 σ_2 H locs hw h => ?_)
  obtain ⟨g_4, hwt, hwf⟩ := hw
  refine j_if_eq (tgt := 36) X g_4 dX12_dam_10 (by decide) (fun c_17 => ?_) (fun c_17 => ?_)
  · have hw := hwt c_17
    refine j_iconst X dX12_dam_36 ?_
    exact k_ir X rfl h hw dX12_dam_37
  · have hw := hwf c_17
    refine lv_aload_n X.1 X.2.1 dX12_dam_13 rfl (lv_at hl 0 rfl) ?_
    refine r_getR (ci := 12) X inw_12 h (hF.1 12 rfl).1 rfl rfl 54 (by decide) kw_1692 rfl ((hF.1 12 rfl).2 54) dX12_dam_14 ?_
    refine lv_iload_n X.1 X.2.1 dX12_dam_17 rfl (lv_at hl 1 rfl) ?_
    obtain ⟨g_5, g_6, hw⟩ := hw
    refine r_iald (n := 40) X h (hF.1 120 rfl).1 rfl (by decide) g_5 g_6 dX12_dam_18 ?_
    refine j_iconst X dX12_dam_19 ?_
    obtain ⟨g_7, hwt, hwf⟩ := hw
    refine j_cmp_ne (tgt := 36) X g_7 ⟨by decide, by decide⟩ dX12_dam_20 (by decide) (fun c_16 => ?_) (fun c_16 => ?_)
    · have hw := hwt c_16
      refine j_iconst X dX12_dam_36 ?_
      exact k_ir X rfl h hw dX12_dam_37
    · have hw := hwf c_16
      refine lv_aload_n X.1 X.2.1 dX12_dam_23 rfl (lv_at hl 0 rfl) ?_
      refine r_getR (ci := 12) X inw_12 h (hF.1 12 rfl).1 rfl rfl 58 (by decide) kw_1696 rfl ((hF.1 12 rfl).2 58) dX12_dam_24 ?_
      refine lv_iload_n X.1 X.2.1 dX12_dam_27 rfl (lv_at hl 1 rfl) ?_
      obtain ⟨g_8, g_9, hw⟩ := hw
      refine r_iald (n := 40) X h (hF.1 124 rfl).1 rfl (by decide) g_8 g_9 dX12_dam_28 ?_
      refine lv_aload_n X.1 X.2.1 dX12_dam_29 rfl (lv_at hl 0 rfl) ?_
      refine r_get (ci := 12) X inw_12 h (hF.1 12 rfl).1 rfl rfl 1 (by decide) kw_1639 rfl dX12_dam_30 ?_
      obtain ⟨g_10, g_11, hwt, hwf⟩ := hw
      refine j_cmp_ne (tgt := 38) X g_10 g_11 dX12_dam_33 (by decide) (fun c_15 => ?_) (fun c_15 => ?_)
      · have hw := hwt c_15
        refine lv_aload_n X.1 X.2.1 dX12_dam_38 rfl (lv_at hl 0 rfl) ?_
        refine r_getR (ci := 12) X inw_12 h (hF.1 12 rfl).1 rfl rfl 58 (by decide) kw_1696 rfl ((hF.1 12 rfl).2 58) dX12_dam_39 ?_
        refine lv_iload_n X.1 X.2.1 dX12_dam_42 rfl (lv_at hl 1 rfl) ?_
        refine lv_aload_n X.1 X.2.1 dX12_dam_43 rfl (lv_at hl 0 rfl) ?_
        refine r_get (ci := 12) X inw_12 h (hF.1 12 rfl).1 rfl rfl 1 (by decide) kw_1639 rfl dX12_dam_44 ?_
        obtain ⟨g_12, g_13, hw⟩ := hw
        refine r_iast (n := 40) X h (hF.1 124 rfl).1 (fun _ => rfl) (by decide) g_12 g_13 rfl dX12_dam_47 (fun H locs h => ?_)
        obtain ⟨σ_14, eσ_14⟩ : ∃ z : St, z = st σ_2 124 0 (Int.toNat x1) (σ_2 12 0 1) := ⟨_, rfl⟩
        rw [← eσ_14] at h
        have hw := hw σ_14 eσ_14
        refine j_iconst X dX12_dam_48 ?_
        exact k_ir X rfl h hw dX12_dam_49
      · have hw := hwf c_15
        refine j_iconst X dX12_dam_36 ?_
        exact k_ir X rfl h hw dX12_dam_37
end
section
variable {p : Program} {l : Launch} {e : Env} {s : State} {m : MethodId} {args : Array Value} {below : List Frame} {meth : Method} {c : Code} {D : va_G} {ct : Nat → ClassId} {ad : Nat → Nat → Nat} {L : List (Nat × Nat)} {φ : Nat → Nat → Nat → Bool} {N0 : Nat}
variable {Q : Int → St → Prop}
set_option maxRecDepth 100000 in
set_option maxHeartbeats 4000000 in
theorem lb_X12_bears_180 (X : Cx p s m meth c args cX12_bears 6 (some .int) RX12 D ct L φ N0) (σ : St) (x1 : Int) (x4 : Int) (y0 : Int) (H : Heap) (locs : List Loc) (ls : Array Slot) (hw : wp_X12_bears_180 Q σ x1 x4 y0) (h : Hs D ct ad L φ N0 s.heap σ H locs) (hl : lv_has ls 6 [(0, .ref (ad 12 0)), (1, .int (iv x1)), (4, .int (iv x4))]) : W p l e ({ frames := 1, cells := 0, slots := 0, locals := 24 } : Room) s m args below meth c H locs 0 0 (MQ below (Qi D ct ad L φ N0 Q) args s 0 0 (AA N0)) (F0 m 180 ls [.int (iv y0)]) := by
  have hF := X.2.2.2.2.2.2.2.2.1
  unfold wp_X12_bears_180 at hw
  refine lv_iload X.1 X.2.1 dX12_bears_180 (lv_at hl 2 rfl) ?_
  refine j_imul X dX12_bears_182 ?_
  refine lv_aload_n X.1 X.2.1 dX12_bears_183 rfl (lv_at hl 0 rfl) ?_
  refine r_getR (ci := 12) X inw_12 h (hF.1 12 rfl).1 rfl rfl 58 (by decide) kw_1696 rfl ((hF.1 12 rfl).2 58) dX12_bears_184 ?_
  refine lv_iload_n X.1 X.2.1 dX12_bears_187 rfl (lv_at hl 1 rfl) ?_
  obtain ⟨g_1, g_2, hw⟩ := hw
  refine r_iald (n := 40) X h (hF.1 124 rfl).1 rfl (by decide) g_1 g_2 dX12_bears_188 ?_
  refine lv_aload_n X.1 X.2.1 dX12_bears_189 rfl (lv_at hl 0 rfl) ?_
  refine r_get (ci := 12) X inw_12 h (hF.1 12 rfl).1 rfl rfl 1 (by decide) kw_1639 rfl dX12_bears_190 ?_
  obtain ⟨g_3, g_4, hwt, hwf⟩ := hw
  refine j_cmp_ne (tgt := 201) X g_3 g_4 dX12_bears_193 (by decide) (fun c_5 => ?_) (fun c_5 => ?_)
  · have hw := hwt c_5
    refine j_iconst X dX12_bears_201 ?_
    refine j_iadd X dX12_bears_202 ?_
    exact k_ir X rfl h hw dX12_bears_203
  · have hw := hwf c_5
    refine j_bipush X dX12_bears_196 (by decide) ?_
    refine lv_goto (tgt := 202) X.1 X.2.1 dX12_bears_198 (by decide) ?_
    refine j_iadd X dX12_bears_202 ?_
    exact k_ir X rfl h hw dX12_bears_203
set_option maxRecDepth 100000 in
set_option maxHeartbeats 4000000 in
theorem lb_X12_bears_93 (X : Cx p s m meth c args cX12_bears 6 (some .int) RX12 D ct L φ N0) (σ : St) (x3 : Int) (y0 : Int) (y1 : Int) (H : Heap) (locs : List Loc) (ls : Array Slot) (hw : wp_X12_bears_93 Q σ x3 y0 y1) (h : Hs D ct ad L φ N0 s.heap σ H locs) (hl : lv_has ls 6 [(3, .int (iv x3))]) : W p l e ({ frames := 1, cells := 0, slots := 0, locals := 24 } : Room) s m args below meth c H locs 0 0 (MQ below (Qi D ct ad L φ N0 Q) args s 0 0 (AA N0)) (F0 m 93 ls [.int (iv y0), .int (iv y1)]) := by
  have hF := X.2.2.2.2.2.2.2.2.1
  unfold wp_X12_bears_93 at hw
  refine j_isub X dX12_bears_93 ?_
  refine lv_iload_n X.1 X.2.1 dX12_bears_94 rfl (lv_at hl 0 rfl) ?_
  refine j_isub X dX12_bears_95 ?_
  refine j_bind (fun v_6 ev_6 => ?_)
  have hw := hw v_6 ev_6
  refine lv_istore (lv' := [(5, .int (iv v_6)), (3, .int (iv x3))]) X.1 X.2.1 dX12_bears_96 hl (by decide) rfl (fun ls hl => ?_)
  refine lv_iload_n X.1 X.2.1 dX12_bears_98 rfl (lv_at hl 1 rfl) ?_
  refine j_bipush X dX12_bears_99 (by decide) ?_
  obtain ⟨g_7, hwt, hwf⟩ := hw
  refine j_cmp_gt (tgt := 109) X g_7 ⟨by decide, by decide⟩ dX12_bears_101 (by decide) (fun c_10 => ?_) (fun c_10 => ?_)
  · have hw := hwt c_10
    refine j_iconst X dX12_bears_109 ?_
    refine lv_goto (tgt := 115) X.1 X.2.1 dX12_bears_110 (by decide) ?_
    exact k_ir X rfl h hw dX12_bears_115
  · have hw := hwf c_10
    refine lv_iload X.1 X.2.1 dX12_bears_104 (lv_at hl 0 rfl) ?_
    obtain ⟨g_8, hwt, hwf⟩ := hw
    refine j_if_ge (tgt := 113) X g_8 dX12_bears_106 (by decide) (fun c_9 => ?_) (fun c_9 => ?_)
    · have hw := hwt c_9
      refine lv_iload X.1 X.2.1 dX12_bears_113 (lv_at hl 0 rfl) ?_
      exact k_ir X rfl h hw dX12_bears_115
    · have hw := hwf c_9
      refine j_iconst X dX12_bears_109 ?_
      refine lv_goto (tgt := 115) X.1 X.2.1 dX12_bears_110 (by decide) ?_
      exact k_ir X rfl h hw dX12_bears_115
theorem pd_X12_bears : yX12_bears.cls ≠ "java/lang/invoke/MethodHandle" ∧ yX12_bears.cls ≠ "java/lang/invoke/VarHandle" ∧ (parseMethodDescriptor yX12_bears.desc).map (fun d => d.parameters.length) = some 1 := by decide +kernel
set_option maxRecDepth 100000 in
set_option maxHeartbeats 4000000 in
theorem c_X12_bears (l : Launch) (D : va_G) (ct : Nat → ClassId) (ad : Nat → Nat → Nat) (L : List (Nat × Nat)) (φ : Nat → Nat → Nat → Bool) (N0 : Nat) (σ : St) (x1 : Int) (Q : Int → St → Prop) (hw : wp_X12_bears σ x1 Q) : Met l yX12_bears (.code yX12_bears cX12_bears 6 (some .int) :: gw) ({ frames := 1, cells := 0, slots := 0, locals := 24 } : Room) (Pm D ct ad L φ N0 σ [.ref (ad 12 0), .int (iv x1)]) (Qi D ct ad L φ N0 Q) 0 0 (AA N0) := by
  refine m_of (by decide) (fun p e s m below meth c X hnm h => ?_)
  have hF := X.2.2.2.2.2.2.2.2.1
  have hl := lv_entry ([.ref (ad 12 0), .int (iv x1)]) (n := 6) (Nat.le_of_ble_eq_true rfl)
  rw [lg_entry_eq]
  generalize (lg_sl ([.ref (ad 12 0), .int (iv x1)]) ++ List.replicate (6 - (lg_sl ([.ref (ad 12 0), .int (iv x1)])).length) Slot.unset).toArray = ls at hl ⊢
  have hl : lv_has ls 6 [(0, .ref (ad 12 0)), (1, .int (iv x1))] := hl
  have h : Hs D ct ad L φ N0 s.heap σ s.heap [] := h
  unfold wp_X12_bears at hw
  refine lv_aload_n X.1 X.2.1 dX12_bears_0 rfl (lv_at hl 0 rfl) ?_
  refine r_getR (ci := 12) X inw_12 h (hF.1 12 rfl).1 rfl rfl 2 (by decide) kw_1640 rfl ((hF.1 12 rfl).2 2) dX12_bears_1 ?_
  refine lv_aload_n X.1 X.2.1 dX12_bears_4 rfl (lv_at hl 0 rfl) ?_
  refine r_getR (ci := 12) X inw_12 h (hF.1 12 rfl).1 rfl rfl 56 (by decide) kw_1694 rfl ((hF.1 12 rfl).2 56) dX12_bears_5 ?_
  refine lv_iload_n X.1 X.2.1 dX12_bears_8 rfl (lv_at hl 1 rfl) ?_
  obtain ⟨g_11, g_12, hw⟩ := hw
  refine r_iald (n := 40) X h (hF.1 122 rfl).1 rfl (by decide) g_11 g_12 dX12_bears_9 ?_
  obtain ⟨g_13, g_14, hw⟩ := hw
  refine r_iald (n := 64) X h (hF.1 83 rfl).1 rfl (by decide) g_13 g_14 dX12_bears_10 ?_
  refine lv_aload_n X.1 X.2.1 dX12_bears_11 rfl (lv_at hl 0 rfl) ?_
  refine r_getR (ci := 12) X inw_12 h (hF.1 12 rfl).1 rfl rfl 2 (by decide) kw_1640 rfl ((hF.1 12 rfl).2 2) dX12_bears_12 ?_
  refine lv_aload_n X.1 X.2.1 dX12_bears_15 rfl (lv_at hl 0 rfl) ?_
  refine r_getR (ci := 12) X inw_12 h (hF.1 12 rfl).1 rfl rfl 55 (by decide) kw_1693 rfl ((hF.1 12 rfl).2 55) dX12_bears_16 ?_
  refine lv_iload_n X.1 X.2.1 dX12_bears_19 rfl (lv_at hl 1 rfl) ?_
  obtain ⟨g_15, g_16, hw⟩ := hw
  refine r_iald (n := 40) X h (hF.1 121 rfl).1 rfl (by decide) g_15 g_16 dX12_bears_20 ?_
  obtain ⟨g_17, g_18, hw⟩ := hw
  refine r_iald (n := 64) X h (hF.1 83 rfl).1 rfl (by decide) g_17 g_18 dX12_bears_21 ?_
  refine j_isub X dX12_bears_22 ?_
  refine j_bind (fun v_19 ev_19 => ?_)
  have hw := hw v_19 ev_19
  refine lv_istore_n (lv' := [(2, .int (iv v_19)), (0, .ref (ad 12 0)), (1, .int (iv x1))]) X.1 X.2.1 dX12_bears_23 rfl hl (by decide) rfl (fun ls hl => ?_)
  refine lv_aload_n X.1 X.2.1 dX12_bears_24 rfl (lv_at hl 1 rfl) ?_
  refine lv_aload_n X.1 X.2.1 dX12_bears_25 rfl (lv_at hl 1 rfl) ?_
  refine r_get (ci := 12) X inw_12 h (hF.1 12 rfl).1 rfl rfl 1 (by decide) kw_1639 rfl dX12_bears_26 ?_
  refine j_iconst X dX12_bears_29 ?_
  refine k_i h (r_V (C := RX12) (ci := 12) (As := [.int (iv (σ 12 0 1)), .int (iv 0)]) (rest := []) X h (c_X12_sky l D ct ad L φ N0 σ (σ 12 0 1) 0 _ hw) rfl rfl ⟨Nat.le_of_ble_eq_true rfl, Nat.le_of_ble_eq_true rfl⟩ kw_1988 kw_1990 kw_65 kw_129 kw_1991 ⟨rfl, pd_X12_sky⟩ (hF.1 12 rfl).1 rfl rfl rfl hl.1 rfl (Nat.le_of_ble_eq_true rfl) ⟨Nat.le_of_ble_eq_true rfl, Nat.le_of_ble_eq_true rfl⟩ dX12_bears_30) (fun r_21 σ_20 H locs hw h => ?_)
  refine lv_istore_n (lv' := [(3, .int (iv r_21)), (2, .int (iv v_19)), (0, .ref (ad 12 0)), (1, .int (iv x1))]) X.1 X.2.1 dX12_bears_33 rfl hl (by decide) rfl (fun ls hl => ?_)
  refine lv_aload_n X.1 X.2.1 dX12_bears_34 rfl (lv_at hl 2 rfl) ?_
  refine lv_aload_n X.1 X.2.1 dX12_bears_35 rfl (lv_at hl 2 rfl) ?_
  refine r_get (ci := 12) X inw_12 h (hF.1 12 rfl).1 rfl rfl 1 (by decide) kw_1639 rfl dX12_bears_36 ?_
  refine j_iconst X dX12_bears_39 ?_
  refine k_i h (r_V (C := RX12) (ci := 12) (As := [.int (iv (σ_20 12 0 1)), .int (iv 1)]) (rest := []) X h (c_X12_sky l D ct ad L φ N0 σ_20 (σ_20 12 0 1) 1 _ hw) rfl rfl ⟨Nat.le_of_ble_eq_true rfl, Nat.le_of_ble_eq_true rfl⟩ kw_1988 kw_1990 kw_65 kw_129 kw_1991 ⟨rfl, pd_X12_sky⟩ (hF.1 12 rfl).1 rfl rfl rfl hl.1 rfl (Nat.le_of_ble_eq_true rfl) ⟨Nat.le_of_ble_eq_true rfl, Nat.le_of_ble_eq_true rfl⟩ dX12_bears_40) (fun r_23 σ_22 H locs hw h => ?_)
  refine lv_istore (lv' := [(4, .int (iv r_23)), (3, .int (iv r_21)), (2, .int (iv v_19)), (0, .ref (ad 12 0)), (1, .int (iv x1))]) X.1 X.2.1 dX12_bears_43 hl (by decide) rfl (fun ls hl => ?_)
  refine lv_aload_n X.1 X.2.1 dX12_bears_45 rfl (lv_at hl 3 rfl) ?_
  refine r_getR (ci := 12) X inw_12 h (hF.1 12 rfl).1 rfl rfl 54 (by decide) kw_1692 rfl ((hF.1 12 rfl).2 54) dX12_bears_46 ?_
  refine lv_iload_n X.1 X.2.1 dX12_bears_49 rfl (lv_at hl 4 rfl) ?_
  obtain ⟨g_24, g_25, hw⟩ := hw
  refine r_iald (n := 40) X h (hF.1 120 rfl).1 rfl (by decide) g_24 g_25 dX12_bears_50 ?_
  obtain ⟨g_26, hw0, hw1, hw2, hw3, hw4⟩ := hw
  by_cases c_43 : (σ_22 120 0 (Int.toNat x1)) = 0
  · have hw := hw0 c_43
    refine j_tin (v := 0) (tgt := 80) X g_26 c_43 dX12_bears_51 (by decide) (by decide) rfl (by decide) ?_
    refine j_bipush X dX12_bears_80 (by decide) ?_
    refine lv_iload_n X.1 X.2.1 dX12_bears_82 rfl (lv_at hl 2 rfl) ?_
    obtain ⟨g_27, hwt, hwf⟩ := hw
    refine j_if_le (tgt := 92) X g_27 dX12_bears_83 (by decide) (fun c_28 => ?_) (fun c_28 => ?_)
    · have hw := hwt c_28
      refine j_iconst X dX12_bears_92 ?_
      exact lb_X12_bears_93 X σ_22 r_21 0 30 _ _ _ hw h (lv_sub hl [1] rfl)
    · have hw := hwf c_28
      refine j_iconst X dX12_bears_86 ?_
      refine lv_iload_n X.1 X.2.1 dX12_bears_87 rfl (lv_at hl 2 rfl) ?_
      refine j_imul X dX12_bears_88 ?_
      refine lv_goto (tgt := 93) X.1 X.2.1 dX12_bears_89 (by decide) ?_
      exact lb_X12_bears_93 X σ_22 r_21 (3 * v_19) 30 _ _ _ hw h (lv_sub hl [1] rfl)
  by_cases c_44 : (σ_22 120 0 (Int.toNat x1)) = 1
  · have hw := hw1 c_44
    refine j_tin (v := 1) (tgt := 116) X g_26 c_44 dX12_bears_51 (by decide) (by decide) rfl (by decide) ?_
    refine lv_aload_n X.1 X.2.1 dX12_bears_116 rfl (lv_at hl 3 rfl) ?_
    refine r_getR (ci := 12) X inw_12 h (hF.1 12 rfl).1 rfl rfl 57 (by decide) kw_1695 rfl ((hF.1 12 rfl).2 57) dX12_bears_117 ?_
    refine lv_iload_n X.1 X.2.1 dX12_bears_120 rfl (lv_at hl 4 rfl) ?_
    obtain ⟨g_29, g_30, hw⟩ := hw
    refine r_zald (n := 40) X h (hF.1 123 rfl).1 rfl (by decide) g_29 g_30 dX12_bears_121 ?_
    obtain ⟨g_31, hwt, hwf⟩ := hw
    refine j_if_eq (tgt := 130) X g_31 dX12_bears_122 (by decide) (fun c_32 => ?_) (fun c_32 => ?_)
    · have hw := hwt c_32
      refine j_iconst X dX12_bears_130 ?_
      exact k_ir X rfl h hw dX12_bears_131
    · have hw := hwf c_32
      refine j_bipush X dX12_bears_125 (by decide) ?_
      refine lv_goto (tgt := 131) X.1 X.2.1 dX12_bears_127 (by decide) ?_
      exact k_ir X rfl h hw dX12_bears_131
  by_cases c_45 : (σ_22 120 0 (Int.toNat x1)) = 2
  · have hw := hw2 c_45
    refine j_tin (v := 2) (tgt := 132) X g_26 c_45 dX12_bears_51 (by decide) (by decide) rfl (by decide) ?_
    refine lv_iload_n X.1 X.2.1 dX12_bears_132 rfl (lv_at hl 2 rfl) ?_
    obtain ⟨g_33, hwt, hwf⟩ := hw
    refine j_if_ge (tgt := 144) X g_33 dX12_bears_133 (by decide) (fun c_34 => ?_) (fun c_34 => ?_)
    · have hw := hwt c_34
      refine j_iconst X dX12_bears_144 ?_
      exact k_ir X rfl h hw dX12_bears_145
    · have hw := hwf c_34
      refine j_bipush X dX12_bears_136 (by decide) ?_
      refine lv_iload X.1 X.2.1 dX12_bears_138 (lv_at hl 0 rfl) ?_
      refine j_imul X dX12_bears_140 ?_
      refine lv_goto (tgt := 145) X.1 X.2.1 dX12_bears_141 (by decide) ?_
      exact k_ir X rfl h hw dX12_bears_145
  by_cases c_46 : (σ_22 120 0 (Int.toNat x1)) = 3
  · have hw := hw3 c_46
    refine j_tin (v := 3) (tgt := 146) X g_26 c_46 dX12_bears_51 (by decide) (by decide) rfl (by decide) ?_
    refine lv_iload_n X.1 X.2.1 dX12_bears_146 rfl (lv_at hl 1 rfl) ?_
    refine j_iconst X dX12_bears_147 ?_
    obtain ⟨g_35, hwt, hwf⟩ := hw
    refine j_cmp_lt (tgt := 156) X g_35 ⟨by decide, by decide⟩ dX12_bears_148 (by decide) (fun c_36 => ?_) (fun c_36 => ?_)
    · have hw := hwt c_36
      refine j_iconst X dX12_bears_156 ?_
      exact k_ir X rfl h hw dX12_bears_157
    · have hw := hwf c_36
      refine j_bipush X dX12_bears_151 (by decide) ?_
      refine lv_goto (tgt := 157) X.1 X.2.1 dX12_bears_153 (by decide) ?_
      exact k_ir X rfl h hw dX12_bears_157
  have c_47 : (σ_22 120 0 (Int.toNat x1)) < 0 ∨ 3 < (σ_22 120 0 (Int.toNat x1)) := by omega
  have hw := hw4 c_47
  refine j_tout (tgt := 158) X g_26 c_47 dX12_bears_51 (by decide) ?_
  refine lv_iload_n X.1 X.2.1 dX12_bears_158 rfl (lv_at hl 2 rfl) ?_
  obtain ⟨g_37, hwt, hwf⟩ := hw
  refine j_if_lt (tgt := 166) X g_37 dX12_bears_159 (by decide) (fun c_42 => ?_) (fun c_42 => ?_)
  · have hw := hwt c_42
    refine lv_aload_n X.1 X.2.1 dX12_bears_166 rfl (lv_at hl 3 rfl) ?_
    refine k_i h (r_V (C := RX12) (ci := 12) (As := []) (rest := []) X h (c_X12_season l D ct ad L φ N0 σ_22 _ hw) rfl rfl ⟨Nat.le_of_ble_eq_true rfl, Nat.le_of_ble_eq_true rfl⟩ kw_2150 kw_2152 kw_84 kw_129 kw_2153 ⟨rfl, pd_X12_season⟩ (hF.1 12 rfl).1 rfl rfl rfl hl.1 rfl (Nat.le_of_ble_eq_true rfl) ⟨Nat.le_of_ble_eq_true rfl, Nat.le_of_ble_eq_true rfl⟩ dX12_bears_167) (fun r_39 σ_38 H locs hw h => ?_)
    refine j_iconst X dX12_bears_170 ?_
    obtain ⟨g_40, hwt, hwf⟩ := hw
    refine j_cmp_ne (tgt := 179) X g_40 ⟨by decide, by decide⟩ dX12_bears_171 (by decide) (fun c_41 => ?_) (fun c_41 => ?_)
    · have hw := hwt c_41
      refine j_iconst X dX12_bears_179 ?_
      exact lb_X12_bears_180 X σ_38 x1 r_23 3 _ _ _ hw h (lv_sub hl [3, 4, 0] rfl)
    · have hw := hwf c_41
      refine j_bipush X dX12_bears_174 (by decide) ?_
      refine lv_goto (tgt := 180) X.1 X.2.1 dX12_bears_176 (by decide) ?_
      exact lb_X12_bears_180 X σ_38 x1 r_23 12 _ _ _ hw h (lv_sub hl [3, 4, 0] rfl)
  · have hw := hwf c_42
    refine j_iconst X dX12_bears_162 ?_
    refine lv_goto (tgt := 203) X.1 X.2.1 dX12_bears_163 (by decide) ?_
    exact k_ir X rfl h hw dX12_bears_203
end
section
variable {p : Program} {l : Launch} {e : Env} {s : State} {m : MethodId} {args : Array Value} {below : List Frame} {meth : Method} {c : Code} {D : va_G} {ct : Nat → ClassId} {ad : Nat → Nat → Nat} {L : List (Nat × Nat)} {φ : Nat → Nat → Nat → Bool} {N0 : Nat}
variable {Q : Int → St → Prop}
theorem pd_X12_carryOf : yX12_carryOf.cls ≠ "java/lang/invoke/MethodHandle" ∧ yX12_carryOf.cls ≠ "java/lang/invoke/VarHandle" ∧ (parseMethodDescriptor yX12_carryOf.desc).map (fun d => d.parameters.length) = some 1 := by decide +kernel
set_option maxRecDepth 100000 in
set_option maxHeartbeats 4000000 in
theorem c_X12_carryOf (l : Launch) (D : va_G) (ct : Nat → ClassId) (ad : Nat → Nat → Nat) (L : List (Nat × Nat)) (φ : Nat → Nat → Nat → Bool) (N0 : Nat) (σ : St) (x1 : Int) (Q : Int → St → Prop) (hw : wp_X12_carryOf σ x1 Q) : Met l yX12_carryOf (.code yX12_carryOf cX12_carryOf 2 (some .int) :: gw) ({ frames := 4, cells := 0, slots := 0, locals := 85 } : Room) (Pm D ct ad L φ N0 σ [.ref (ad 12 0), .int (iv x1)]) (Qi D ct ad L φ N0 Q) 0 0 (AA N0) := by
  refine m_of (by decide) (fun p e s m below meth c X hnm h => ?_)
  have hF := X.2.2.2.2.2.2.2.2.1
  have hl := lv_entry ([.ref (ad 12 0), .int (iv x1)]) (n := 2) (Nat.le_of_ble_eq_true rfl)
  rw [lg_entry_eq]
  generalize (lg_sl ([.ref (ad 12 0), .int (iv x1)]) ++ List.replicate (2 - (lg_sl ([.ref (ad 12 0), .int (iv x1)])).length) Slot.unset).toArray = ls at hl ⊢
  have hl : lv_has ls 2 [(0, .ref (ad 12 0)), (1, .int (iv x1))] := hl
  have h : Hs D ct ad L φ N0 s.heap σ s.heap [] := h
  unfold wp_X12_carryOf at hw
  refine lv_aload_n X.1 X.2.1 dX12_carryOf_0 rfl (lv_at hl 0 rfl) ?_
  refine lv_iload_n X.1 X.2.1 dX12_carryOf_1 rfl (lv_at hl 1 rfl) ?_
  refine k_i h (r_V (C := RX12) (ci := 12) (As := [.int (iv x1)]) (rest := []) X h (c_X12_barringWay l D ct ad L φ N0 σ x1 _ hw) rfl rfl ⟨Nat.le_of_ble_eq_true rfl, Nat.le_of_ble_eq_true rfl⟩ kw_2187 kw_2189 kw_90 kw_129 kw_2190 ⟨rfl, pd_X12_barringWay⟩ (hF.1 12 rfl).1 rfl rfl rfl hl.1 rfl (Nat.le_of_ble_eq_true rfl) ⟨Nat.le_of_ble_eq_true rfl, Nat.le_of_ble_eq_true rfl⟩ dX12_carryOf_2) (fun r_2 σ_1 H locs hw h => ?_)
  refine j_iconst X dX12_carryOf_5 ?_
  obtain ⟨g_3, hwt, hwf⟩ := hw
  refine j_cmp_ne (tgt := 17) X g_3 ⟨by decide, by decide⟩ dX12_carryOf_6 (by decide) (fun c_6 => ?_) (fun c_6 => ?_)
  · have hw := hwt c_6
    refine j_iconst X dX12_carryOf_17 ?_
    exact k_ir X rfl h hw dX12_carryOf_18
  · have hw := hwf c_6
    refine lv_aload_n X.1 X.2.1 dX12_carryOf_9 rfl (lv_at hl 0 rfl) ?_
    refine lv_iload_n X.1 X.2.1 dX12_carryOf_10 rfl (lv_at hl 1 rfl) ?_
    refine k_i h (r_V (C := RX12) (ci := 12) (As := [.int (iv x1)]) (rest := []) X h (c_X12_bears l D ct ad L φ N0 σ_1 x1 _ hw) rfl rfl ⟨Nat.le_of_ble_eq_true rfl, Nat.le_of_ble_eq_true rfl⟩ kw_2230 kw_2232 kw_94 kw_129 kw_2233 ⟨rfl, pd_X12_bears⟩ (hF.1 12 rfl).1 rfl rfl rfl hl.1 rfl (Nat.le_of_ble_eq_true rfl) ⟨Nat.le_of_ble_eq_true rfl, Nat.le_of_ble_eq_true rfl⟩ dX12_carryOf_11) (fun r_5 σ_4 H locs hw h => ?_)
    refine lv_goto (tgt := 18) X.1 X.2.1 dX12_carryOf_14 (by decide) ?_
    exact k_ir X rfl h hw dX12_carryOf_18
end
section
variable {p : Program} {l : Launch} {e : Env} {s : State} {m : MethodId} {args : Array Value} {below : List Frame} {meth : Method} {c : Code} {D : va_G} {ct : Nat → ClassId} {ad : Nat → Nat → Nat} {L : List (Nat × Nat)} {φ : Nat → Nat → Nat → Bool} {N0 : Nat}
variable {Q : Int → St → Prop}
theorem pd_X12_carry : yX12_carry.cls ≠ "java/lang/invoke/MethodHandle" ∧ yX12_carry.cls ≠ "java/lang/invoke/VarHandle" ∧ (parseMethodDescriptor yX12_carry.desc).map (fun d => d.parameters.length) = some 1 := by decide +kernel
set_option maxRecDepth 100000 in
set_option maxHeartbeats 4000000 in
theorem c_X12_carry (l : Launch) (D : va_G) (ct : Nat → ClassId) (ad : Nat → Nat → Nat) (L : List (Nat × Nat)) (φ : Nat → Nat → Nat → Bool) (N0 : Nat) (σ : St) (x1 : Int) (Q : Int → St → Prop) (hw : wp_X12_carry σ x1 Q) : Met l yX12_carry (.code yX12_carry cX12_carry 2 (some .int) :: gw) ({ frames := 5, cells := 0, slots := 0, locals := 106 } : Room) (Pm D ct ad L φ N0 σ [.ref (ad 12 0), .int (iv x1)]) (Qi D ct ad L φ N0 Q) 0 0 (AA N0) := by
  refine m_of (by decide) (fun p e s m below meth c X hnm h => ?_)
  have hF := X.2.2.2.2.2.2.2.2.1
  have hl := lv_entry ([.ref (ad 12 0), .int (iv x1)]) (n := 2) (Nat.le_of_ble_eq_true rfl)
  rw [lg_entry_eq]
  generalize (lg_sl ([.ref (ad 12 0), .int (iv x1)]) ++ List.replicate (2 - (lg_sl ([.ref (ad 12 0), .int (iv x1)])).length) Slot.unset).toArray = ls at hl ⊢
  have hl : lv_has ls 2 [(0, .ref (ad 12 0)), (1, .int (iv x1))] := hl
  have h : Hs D ct ad L φ N0 s.heap σ s.heap [] := h
  unfold wp_X12_carry at hw
  refine lv_aload_n X.1 X.2.1 dX12_carry_0 rfl (lv_at hl 0 rfl) ?_
  refine j_iconst X dX12_carry_1 ?_
  refine r_put (ci := 12) X inw_12 tyX12 tyX12_ok nmX12 h (hF.1 12 rfl).1 rfl rfl 0 (by decide) kw_1638 rfl rfl rfl (Nat.le_of_ble_eq_true rfl) rfl rfl dX12_carry_2 (fun H locs h => ?_)
  obtain ⟨σ_1, eσ_1⟩ : ∃ z : St, z = st σ 12 0 0 0 := ⟨_, rfl⟩
  rw [← eσ_1] at h
  have hw := hw σ_1 eσ_1
  refine lv_aload_n X.1 X.2.1 dX12_carry_5 rfl (lv_at hl 0 rfl) ?_
  refine lv_iload_n X.1 X.2.1 dX12_carry_6 rfl (lv_at hl 1 rfl) ?_
  refine k_i h (r_V (C := RX12) (ci := 12) (As := [.int (iv x1)]) (rest := []) X h (c_X12_isWay l D ct ad L φ N0 σ_1 x1 _ hw) rfl rfl ⟨Nat.le_of_ble_eq_true rfl, Nat.le_of_ble_eq_true rfl⟩ kw_2183 kw_2185 kw_89 kw_129 kw_2186 ⟨rfl, pd_X12_isWay⟩ (hF.1 12 rfl).1 rfl rfl rfl hl.1 rfl (Nat.le_of_ble_eq_true rfl) ⟨Nat.le_of_ble_eq_true rfl, Nat.le_of_ble_eq_true rfl⟩ dX12_carry_7) (fun r_3 σ_2 H locs hw h => ?_)
  obtain ⟨g_4, hwt, hwf⟩ := hw
  refine j_if_eq (tgt := 21) X g_4 dX12_carry_10 (by decide) (fun c_7 => ?_) (fun c_7 => ?_)
  · have hw := hwt c_7
    refine j_iconst X dX12_carry_21 ?_
    exact k_ir X rfl h hw dX12_carry_22
  · have hw := hwf c_7
    refine lv_aload_n X.1 X.2.1 dX12_carry_13 rfl (lv_at hl 0 rfl) ?_
    refine lv_iload_n X.1 X.2.1 dX12_carry_14 rfl (lv_at hl 1 rfl) ?_
    refine k_i h (r_V (C := RX12) (ci := 12) (As := [.int (iv x1)]) (rest := []) X h (c_X12_carryOf l D ct ad L φ N0 σ_2 x1 _ hw) rfl rfl ⟨Nat.le_of_ble_eq_true rfl, Nat.le_of_ble_eq_true rfl⟩ kw_2226 kw_2228 kw_93 kw_129 kw_2229 ⟨rfl, pd_X12_carryOf⟩ (hF.1 12 rfl).1 rfl rfl rfl hl.1 rfl (Nat.le_of_ble_eq_true rfl) ⟨Nat.le_of_ble_eq_true rfl, Nat.le_of_ble_eq_true rfl⟩ dX12_carry_15) (fun r_6 σ_5 H locs hw h => ?_)
    refine lv_goto (tgt := 22) X.1 X.2.1 dX12_carry_18 (by decide) ?_
    exact k_ir X rfl h hw dX12_carry_22
end
section
variable {p : Program} {l : Launch} {e : Env} {s : State} {m : MethodId} {args : Array Value} {below : List Frame} {meth : Method} {c : Code} {D : va_G} {ct : Nat → ClassId} {ad : Nat → Nat → Nat} {L : List (Nat × Nat)} {φ : Nat → Nat → Nat → Bool} {N0 : Nat}
variable {Q : Int → St → Prop}
set_option maxRecDepth 100000 in
set_option maxHeartbeats 4000000 in
theorem lb_X12_carries_187 (X : Cx p s m meth c args cX12_carries 6 (some .int) RX12 D ct L φ N0) {K42 : St → Int → Int → Int → Int → Int → Prop} (hK42 : ∀ (σ : St) (x1 : Int) (x2 : Int) (x3 : Int) (x4 : Int) (x5 : Int) (H : Heap) (locs : List Loc) (ls : Array Slot), K42 σ x1 x2 x3 x4 x5 → Hs D ct ad L φ N0 s.heap σ H locs → lv_has ls 6 [(0, .ref (ad 12 0)), (1, .int (iv x1)), (2, .int (iv x2)), (3, .int (iv x3)), (4, .int (iv x4)), (5, .int (iv x5))] → W p l e ({ frames := 5, cells := 0, slots := 0, locals := 106 } : Room) s m args below meth c H locs 0 0 (MQ below (Qi D ct ad L φ N0 Q) args s 0 0 (AA N0)) (F0 m 42 ls [])) (σ : St) (x1 : Int) (x2 : Int) (x3 : Int) (x4 : Int) (x5 : Int) (H : Heap) (locs : List Loc) (ls : Array Slot) (hw : wp_X12_carries_187 K42 Q σ x1 x2 x3 x4 x5) (h : Hs D ct ad L φ N0 s.heap σ H locs) (hl : lv_has ls 6 [(0, .ref (ad 12 0)), (1, .int (iv x1)), (2, .int (iv x2)), (3, .int (iv x3)), (4, .int (iv x4)), (5, .int (iv x5))]) : W p l e ({ frames := 5, cells := 0, slots := 0, locals := 106 } : Room) s m args below meth c H locs 0 0 (MQ below (Qi D ct ad L φ N0 Q) args s 0 0 (AA N0)) (F0 m 187 ls []) := by
  have hF := X.2.2.2.2.2.2.2.2.1
  unfold wp_X12_carries_187 at hw
  refine j_iinc (kk9 := 5) (lv' := [(5, .int (iv (x5 + 1))), (0, .ref (ad 12 0)), (1, .int (iv x1)), (2, .int (iv x2)), (3, .int (iv x3)), (4, .int (iv x4))]) X dX12_carries_187 hl rfl (by decide) rfl (fun ls hl => ?_)
  refine lv_goto (tgt := 42) X.1 X.2.1 dX12_carries_190 (by decide) ?_
  exact hK42 σ x1 x2 x3 x4 (x5 + 1) _ _ _ hw h (lv_sub hl [1, 2, 3, 4, 5, 0] rfl)
set_option maxRecDepth 100000 in
set_option maxHeartbeats 4000000 in
theorem lb_X12_carries_167 (X : Cx p s m meth c args cX12_carries 6 (some .int) RX12 D ct L φ N0) {K42 : St → Int → Int → Int → Int → Int → Prop} (hK42 : ∀ (σ : St) (x1 : Int) (x2 : Int) (x3 : Int) (x4 : Int) (x5 : Int) (H : Heap) (locs : List Loc) (ls : Array Slot), K42 σ x1 x2 x3 x4 x5 → Hs D ct ad L φ N0 s.heap σ H locs → lv_has ls 6 [(0, .ref (ad 12 0)), (1, .int (iv x1)), (2, .int (iv x2)), (3, .int (iv x3)), (4, .int (iv x4)), (5, .int (iv x5))] → W p l e ({ frames := 5, cells := 0, slots := 0, locals := 106 } : Room) s m args below meth c H locs 0 0 (MQ below (Qi D ct ad L φ N0 Q) args s 0 0 (AA N0)) (F0 m 42 ls [])) (σ : St) (x1 : Int) (x2 : Int) (x3 : Int) (x4 : Int) (x5 : Int) (H : Heap) (locs : List Loc) (ls : Array Slot) (hw : wp_X12_carries_167 K42 Q σ x1 x2 x3 x4 x5) (h : Hs D ct ad L φ N0 s.heap σ H locs) (hl : lv_has ls 6 [(0, .ref (ad 12 0)), (1, .int (iv x1)), (2, .int (iv x2)), (3, .int (iv x3)), (4, .int (iv x4)), (5, .int (iv x5))]) : W p l e ({ frames := 5, cells := 0, slots := 0, locals := 106 } : Room) s m args below meth c H locs 0 0 (MQ below (Qi D ct ad L φ N0 Q) args s 0 0 (AA N0)) (F0 m 167 ls []) := by
  have hF := X.2.2.2.2.2.2.2.2.1
  unfold wp_X12_carries_167 at hw
  refine lv_aload_n X.1 X.2.1 dX12_carries_167 rfl (lv_at hl 0 rfl) ?_
  refine r_getR (ci := 12) X inw_12 h (hF.1 12 rfl).1 rfl rfl 56 (by decide) kw_1694 rfl ((hF.1 12 rfl).2 56) dX12_carries_168 ?_
  refine lv_iload_n X.1 X.2.1 dX12_carries_171 rfl (lv_at hl 1 rfl) ?_
  obtain ⟨g_1, g_2, hw⟩ := hw
  refine r_iald (n := 40) X h (hF.1 122 rfl).1 rfl (by decide) g_1 g_2 dX12_carries_172 ?_
  refine lv_aload_n X.1 X.2.1 dX12_carries_173 rfl (lv_at hl 0 rfl) ?_
  refine r_get (ci := 12) X inw_12 h (hF.1 12 rfl).1 rfl rfl 7 (by decide) kw_1645 rfl dX12_carries_174 ?_
  obtain ⟨g_3, g_4, hwt, hwf⟩ := hw
  refine j_cmp_ne (tgt := 187) X g_3 g_4 dX12_carries_177 (by decide) (fun c_6 => ?_) (fun c_6 => ?_)
  · have hw := hwt c_6
    exact lb_X12_carries_187 X hK42 σ x1 x2 x3 x4 x5 _ _ _ hw h (lv_sub hl [0, 1, 2, 3, 4, 5] rfl)
  · have hw := hwf c_6
    refine lv_aload_n X.1 X.2.1 dX12_carries_180 rfl (lv_at hl 0 rfl) ?_
    refine lv_iload X.1 X.2.1 dX12_carries_181 (lv_at hl 5 rfl) ?_
    refine j_iconst X dX12_carries_183 ?_
    refine k_v h (r_V (C := RX12) (ci := 12) (As := [.int (iv x5), .int (iv 1)]) (rest := []) X h (c_X12_becomes l D ct ad L φ N0 σ x5 1 _ hw) rfl rfl ⟨Nat.le_of_ble_eq_true rfl, Nat.le_of_ble_eq_true rfl⟩ kw_2242 kw_2244 kw_96 kw_129 kw_2245 ⟨rfl, pd_X12_becomes⟩ (hF.1 12 rfl).1 rfl rfl rfl hl.1 rfl (Nat.le_of_ble_eq_true rfl) ⟨Nat.le_of_ble_eq_true rfl, Nat.le_of_ble_eq_true rfl⟩ dX12_carries_184) (fun σ_5 H locs hw h => ?_)
    exact lb_X12_carries_187 X hK42 σ_5 x1 x2 x3 x4 x5 _ _ _ hw h (lv_sub hl [0, 1, 2, 3, 4, 5] rfl)
set_option maxRecDepth 100000 in
set_option maxHeartbeats 4000000 in
theorem lb_X12_carries_42 (X : Cx p s m meth c args cX12_carries 6 (some .int) RX12 D ct L φ N0) : ∀ (n : Nat) (σ : St) (x1 : Int) (x2 : Int) (x3 : Int) (x4 : Int) (x5 : Int) (H : Heap) (locs : List Loc) (ls : Array Slot), wp_X12_carries_42 Q n σ x1 x2 x3 x4 x5 → Hs D ct ad L φ N0 s.heap σ H locs → lv_has ls 6 [(0, .ref (ad 12 0)), (1, .int (iv x1)), (2, .int (iv x2)), (3, .int (iv x3)), (4, .int (iv x4)), (5, .int (iv x5))] → W p l e ({ frames := 5, cells := 0, slots := 0, locals := 106 } : Room) s m args below meth c H locs 0 0 (MQ below (Qi D ct ad L φ N0 Q) args s 0 0 (AA N0)) (F0 m 42 ls []) := by
  have hF := X.2.2.2.2.2.2.2.2.1
  intro n
  induction n with
  | zero => intro σ x1 x2 x3 x4 x5 H locs ls hw; exact hw.elim
  | succ n ih =>
    intro σ x1 x2 x3 x4 x5 H locs ls hw h hl
    unfold wp_X12_carries_42 at hw
    refine lv_iload X.1 X.2.1 dX12_carries_42 (lv_at hl 5 rfl) ?_
    refine lv_aload_n X.1 X.2.1 dX12_carries_44 rfl (lv_at hl 0 rfl) ?_
    refine r_get (ci := 12) X inw_12 h (hF.1 12 rfl).1 rfl rfl 17 (by decide) kw_1655 rfl dX12_carries_45 ?_
    obtain ⟨g_7, g_8, hwt, hwf⟩ := hw
    refine j_cmp_ge (tgt := 193) X g_7 g_8 dX12_carries_48 (by decide) (fun c_48 => ?_) (fun c_48 => ?_)
    · have hw := hwt c_48
      refine lv_iload_n X.1 X.2.1 dX12_carries_193 rfl (lv_at hl 3 rfl) ?_
      exact k_ir X rfl h hw dX12_carries_194
    · have hw := hwf c_48
      refine lv_aload_n X.1 X.2.1 dX12_carries_51 rfl (lv_at hl 0 rfl) ?_
      refine r_getR (ci := 12) X inw_12 h (hF.1 12 rfl).1 rfl rfl 25 (by decide) kw_1663 rfl ((hF.1 12 rfl).2 25) dX12_carries_52 ?_
      refine lv_iload X.1 X.2.1 dX12_carries_55 (lv_at hl 5 rfl) ?_
      obtain ⟨g_9, g_10, hw⟩ := hw
      refine r_iald (n := 300) X h (hF.1 102 rfl).1 rfl (by decide) g_9 g_10 dX12_carries_57 ?_
      obtain ⟨g_11, hwt, hwf⟩ := hw
      refine j_if_ne (tgt := 187) X g_11 dX12_carries_58 (by decide) (fun c_47 => ?_) (fun c_47 => ?_)
      · have hw := hwt c_47
        exact lb_X12_carries_187 X ih σ x1 x2 x3 x4 x5 _ _ _ hw h (lv_sub hl [0, 1, 2, 3, 4, 5] rfl)
      · have hw := hwf c_47
        refine lv_aload_n X.1 X.2.1 dX12_carries_61 rfl (lv_at hl 0 rfl) ?_
        refine r_getR (ci := 12) X inw_12 h (hF.1 12 rfl).1 rfl rfl 18 (by decide) kw_1656 rfl ((hF.1 12 rfl).2 18) dX12_carries_62 ?_
        refine lv_iload X.1 X.2.1 dX12_carries_65 (lv_at hl 5 rfl) ?_
        obtain ⟨g_12, g_13, hw⟩ := hw
        refine r_iald (n := 300) X h (hF.1 95 rfl).1 rfl (by decide) g_12 g_13 dX12_carries_67 ?_
        refine lv_aload_n X.1 X.2.1 dX12_carries_68 rfl (lv_at hl 0 rfl) ?_
        refine r_getR (ci := 12) X inw_12 h (hF.1 12 rfl).1 rfl rfl 55 (by decide) kw_1693 rfl ((hF.1 12 rfl).2 55) dX12_carries_69 ?_
        refine lv_iload_n X.1 X.2.1 dX12_carries_72 rfl (lv_at hl 1 rfl) ?_
        obtain ⟨g_14, g_15, hw⟩ := hw
        refine r_iald (n := 40) X h (hF.1 121 rfl).1 rfl (by decide) g_14 g_15 dX12_carries_73 ?_
        obtain ⟨g_16, g_17, hwt, hwf⟩ := hw
        refine j_cmp_ne (tgt := 187) X g_16 g_17 dX12_carries_74 (by decide) (fun c_46 => ?_) (fun c_46 => ?_)
        · have hw := hwt c_46
          exact lb_X12_carries_187 X ih σ x1 x2 x3 x4 x5 _ _ _ hw h (lv_sub hl [0, 1, 2, 3, 4, 5] rfl)
        · have hw := hwf c_46
          refine lv_aload_n X.1 X.2.1 dX12_carries_77 rfl (lv_at hl 0 rfl) ?_
          refine r_getR (ci := 12) X inw_12 h (hF.1 12 rfl).1 rfl rfl 26 (by decide) kw_1664 rfl ((hF.1 12 rfl).2 26) dX12_carries_78 ?_
          refine lv_iload X.1 X.2.1 dX12_carries_81 (lv_at hl 5 rfl) ?_
          obtain ⟨g_18, g_19, hw⟩ := hw
          refine r_iald (n := 300) X h (hF.1 103 rfl).1 rfl (by decide) g_18 g_19 dX12_carries_83 ?_
          refine lv_aload_n X.1 X.2.1 dX12_carries_84 rfl (lv_at hl 0 rfl) ?_
          refine r_get (ci := 12) X inw_12 h (hF.1 12 rfl).1 rfl rfl 1 (by decide) kw_1639 rfl dX12_carries_85 ?_
          obtain ⟨g_20, g_21, hwt, hwf⟩ := hw
          refine j_cmp_ge (tgt := 187) X g_20 g_21 dX12_carries_88 (by decide) (fun c_45 => ?_) (fun c_45 => ?_)
          · have hw := hwt c_45
            exact lb_X12_carries_187 X ih σ x1 x2 x3 x4 x5 _ _ _ hw h (lv_sub hl [0, 1, 2, 3, 4, 5] rfl)
          · have hw := hwf c_45
            refine lv_aload_n X.1 X.2.1 dX12_carries_91 rfl (lv_at hl 0 rfl) ?_
            refine lv_iload X.1 X.2.1 dX12_carries_92 (lv_at hl 5 rfl) ?_
            refine k_i h (r_V (C := RX12) (ci := 12) (As := [.int (iv x5)]) (rest := []) X h (c_X12_volume l D ct ad L φ N0 σ x5 _ hw) rfl rfl ⟨Nat.le_of_ble_eq_true rfl, Nat.le_of_ble_eq_true rfl⟩ kw_2054 kw_2056 kw_72 kw_129 kw_2057 ⟨rfl, pd_X12_volume⟩ (hF.1 12 rfl).1 rfl rfl rfl hl.1 rfl (Nat.le_of_ble_eq_true rfl) ⟨Nat.le_of_ble_eq_true rfl, Nat.le_of_ble_eq_true rfl⟩ dX12_carries_94) (fun r_23 σ_22 H locs hw h => ?_)
            refine lv_iload_n X.1 X.2.1 dX12_carries_97 rfl (lv_at hl 2 rfl) ?_
            obtain ⟨g_24, g_25, hwt, hwf⟩ := hw
            refine j_cmp_le (tgt := 104) X g_24 g_25 dX12_carries_98 (by decide) (fun c_44 => ?_) (fun c_44 => ?_)
            · have hw := hwt c_44
              refine lv_iload_n X.1 X.2.1 dX12_carries_104 rfl (lv_at hl 2 rfl) ?_
              refine lv_aload_n X.1 X.2.1 dX12_carries_105 rfl (lv_at hl 0 rfl) ?_
              refine lv_iload X.1 X.2.1 dX12_carries_106 (lv_at hl 5 rfl) ?_
              refine k_i h (r_V (C := RX12) (ci := 12) (As := [.int (iv x5)]) (rest := [.int (iv x2)]) X h (c_X12_volume l D ct ad L φ N0 σ_22 x5 _ hw) rfl rfl ⟨Nat.le_of_ble_eq_true rfl, Nat.le_of_ble_eq_true rfl⟩ kw_2054 kw_2056 kw_72 kw_129 kw_2057 ⟨rfl, pd_X12_volume⟩ (hF.1 12 rfl).1 rfl rfl rfl hl.1 rfl (Nat.le_of_ble_eq_true rfl) ⟨Nat.le_of_ble_eq_true rfl, Nat.le_of_ble_eq_true rfl⟩ dX12_carries_108) (fun r_27 σ_26 H locs hw h => ?_)
              refine j_isub X dX12_carries_111 ?_
              refine j_bind (fun v_28 ev_28 => ?_)
              have hw := hw v_28 ev_28
              refine lv_istore_n (lv' := [(2, .int (iv v_28)), (0, .ref (ad 12 0)), (1, .int (iv x1)), (3, .int (iv x3)), (4, .int (iv x4)), (5, .int (iv x5))]) X.1 X.2.1 dX12_carries_112 rfl hl (by decide) rfl (fun ls hl => ?_)
              refine j_iinc (kk9 := 3) (lv' := [(3, .int (iv (x3 + 1))), (2, .int (iv v_28)), (0, .ref (ad 12 0)), (1, .int (iv x1)), (4, .int (iv x4)), (5, .int (iv x5))]) X dX12_carries_113 hl rfl (by decide) rfl (fun ls hl => ?_)
              refine lv_aload_n X.1 X.2.1 dX12_carries_116 rfl (lv_at hl 2 rfl) ?_
              refine r_getR (ci := 12) X inw_12 h (hF.1 12 rfl).1 rfl rfl 18 (by decide) kw_1656 rfl ((hF.1 12 rfl).2 18) dX12_carries_117 ?_
              refine lv_iload X.1 X.2.1 dX12_carries_120 (lv_at hl 5 rfl) ?_
              refine lv_aload_n X.1 X.2.1 dX12_carries_122 rfl (lv_at hl 2 rfl) ?_
              refine r_getR (ci := 12) X inw_12 h (hF.1 12 rfl).1 rfl rfl 56 (by decide) kw_1694 rfl ((hF.1 12 rfl).2 56) dX12_carries_123 ?_
              refine lv_iload_n X.1 X.2.1 dX12_carries_126 rfl (lv_at hl 3 rfl) ?_
              obtain ⟨g_29, g_30, hw⟩ := hw
              refine r_iald (n := 40) X h (hF.1 122 rfl).1 rfl (by decide) g_29 g_30 dX12_carries_127 ?_
              obtain ⟨g_31, g_32, hw⟩ := hw
              refine r_iast (n := 300) X h (hF.1 95 rfl).1 (fun _ => rfl) (by decide) g_31 g_32 rfl dX12_carries_128 (fun H locs h => ?_)
              obtain ⟨σ_33, eσ_33⟩ : ∃ z : St, z = st σ_26 95 0 (Int.toNat x5) (σ_26 122 0 (Int.toNat x1)) := ⟨_, rfl⟩
              rw [← eσ_33] at h
              have hw := hw σ_33 eσ_33
              refine lv_aload_n X.1 X.2.1 dX12_carries_129 rfl (lv_at hl 2 rfl) ?_
              refine r_getR (ci := 12) X inw_12 h (hF.1 12 rfl).1 rfl rfl 26 (by decide) kw_1664 rfl ((hF.1 12 rfl).2 26) dX12_carries_130 ?_
              refine lv_iload X.1 X.2.1 dX12_carries_133 (lv_at hl 5 rfl) ?_
              refine lv_aload_n X.1 X.2.1 dX12_carries_135 rfl (lv_at hl 2 rfl) ?_
              refine r_get (ci := 12) X inw_12 h (hF.1 12 rfl).1 rfl rfl 1 (by decide) kw_1639 rfl dX12_carries_136 ?_
              obtain ⟨g_34, g_35, hw⟩ := hw
              refine r_iast (n := 300) X h (hF.1 103 rfl).1 (fun _ => rfl) (by decide) g_34 g_35 rfl dX12_carries_139 (fun H locs h => ?_)
              obtain ⟨σ_36, eσ_36⟩ : ∃ z : St, z = st σ_33 103 0 (Int.toNat x5) (σ_33 12 0 1) := ⟨_, rfl⟩
              rw [← eσ_36] at h
              have hw := hw σ_36 eσ_36
              refine lv_iload X.1 X.2.1 dX12_carries_140 (lv_at hl 4 rfl) ?_
              obtain ⟨g_37, hwt, hwf⟩ := hw
              refine j_if_eq (tgt := 167) X g_37 dX12_carries_142 (by decide) (fun c_43 => ?_) (fun c_43 => ?_)
              · have hw := hwt c_43
                exact lb_X12_carries_167 X ih σ_36 x1 v_28 (x3 + 1) x4 x5 _ _ _ hw h (lv_sub hl [2, 3, 1, 0, 4, 5] rfl)
              · have hw := hwf c_43
                refine lv_aload_n X.1 X.2.1 dX12_carries_145 rfl (lv_at hl 2 rfl) ?_
                refine r_getR (ci := 12) X inw_12 h (hF.1 12 rfl).1 rfl rfl 21 (by decide) kw_1659 rfl ((hF.1 12 rfl).2 21) dX12_carries_146 ?_
                refine lv_iload X.1 X.2.1 dX12_carries_149 (lv_at hl 5 rfl) ?_
                obtain ⟨g_38, g_39, hw⟩ := hw
                refine r_iald (n := 300) X h (hF.1 98 rfl).1 rfl (by decide) g_38 g_39 dX12_carries_151 ?_
                refine j_bipush X dX12_carries_152 (by decide) ?_
                obtain ⟨g_40, hwt, hwf⟩ := hw
                refine j_cmp_le (tgt := 167) X g_40 ⟨by decide, by decide⟩ dX12_carries_154 (by decide) (fun c_42 => ?_) (fun c_42 => ?_)
                · have hw := hwt c_42
                  exact lb_X12_carries_167 X ih σ_36 x1 v_28 (x3 + 1) x4 x5 _ _ _ hw h (lv_sub hl [2, 3, 1, 0, 4, 5] rfl)
                · have hw := hwf c_42
                  refine lv_aload_n X.1 X.2.1 dX12_carries_157 rfl (lv_at hl 2 rfl) ?_
                  refine lv_iload X.1 X.2.1 dX12_carries_158 (lv_at hl 5 rfl) ?_
                  refine j_iconst X dX12_carries_160 ?_
                  refine k_v h (r_V (C := RX12) (ci := 12) (As := [.int (iv x5), .int (iv 4)]) (rest := []) X h (c_X12_becomes l D ct ad L φ N0 σ_36 x5 4 _ hw) rfl rfl ⟨Nat.le_of_ble_eq_true rfl, Nat.le_of_ble_eq_true rfl⟩ kw_2242 kw_2244 kw_96 kw_129 kw_2245 ⟨rfl, pd_X12_becomes⟩ (hF.1 12 rfl).1 rfl rfl rfl hl.1 rfl (Nat.le_of_ble_eq_true rfl) ⟨Nat.le_of_ble_eq_true rfl, Nat.le_of_ble_eq_true rfl⟩ dX12_carries_161) (fun σ_41 H locs hw h => ?_)
                  refine lv_goto (tgt := 187) X.1 X.2.1 dX12_carries_164 (by decide) ?_
                  exact lb_X12_carries_187 X ih σ_41 x1 v_28 (x3 + 1) x4 x5 _ _ _ hw h (lv_sub hl [2, 3, 1, 0, 4, 5] rfl)
            · have hw := hwf c_44
              refine lv_goto (tgt := 187) X.1 X.2.1 dX12_carries_101 (by decide) ?_
              exact lb_X12_carries_187 X ih σ_22 x1 x2 x3 x4 x5 _ _ _ hw h (lv_sub hl [0, 1, 2, 3, 4, 5] rfl)
set_option maxRecDepth 100000 in
set_option maxHeartbeats 4000000 in
theorem lb_X12_carries_37 (X : Cx p s m meth c args cX12_carries 6 (some .int) RX12 D ct L φ N0) (σ : St) (x1 : Int) (x2 : Int) (x3 : Int) (y0 : Int) (H : Heap) (locs : List Loc) (ls : Array Slot) (hw : wp_X12_carries_37 Q σ x1 x2 x3 y0) (h : Hs D ct ad L φ N0 s.heap σ H locs) (hl : lv_has ls 6 [(0, .ref (ad 12 0)), (1, .int (iv x1)), (2, .int (iv x2)), (3, .int (iv x3))]) : W p l e ({ frames := 5, cells := 0, slots := 0, locals := 106 } : Room) s m args below meth c H locs 0 0 (MQ below (Qi D ct ad L φ N0 Q) args s 0 0 (AA N0)) (F0 m 37 ls [.int (iv y0)]) := by
  have hF := X.2.2.2.2.2.2.2.2.1
  unfold wp_X12_carries_37 at hw
  refine lv_istore (lv' := [(4, .int (iv y0)), (0, .ref (ad 12 0)), (1, .int (iv x1)), (2, .int (iv x2)), (3, .int (iv x3))]) X.1 X.2.1 dX12_carries_37 hl (by decide) rfl (fun ls hl => ?_)
  refine j_iconst X dX12_carries_39 ?_
  refine lv_istore (lv' := [(5, .int (iv 0)), (4, .int (iv y0)), (0, .ref (ad 12 0)), (1, .int (iv x1)), (2, .int (iv x2)), (3, .int (iv x3))]) X.1 X.2.1 dX12_carries_40 hl (by decide) rfl (fun ls hl => ?_)
  exact hw.elim (fun n42 hw => lb_X12_carries_42 X n42 σ x1 x2 x3 y0 0 _ _ _ hw h (lv_sub hl [2, 3, 4, 5, 1, 0] rfl))
set_option maxRecDepth 100000 in
set_option maxHeartbeats 4000000 in
theorem lb_X12_carries_36 (X : Cx p s m meth c args cX12_carries 6 (some .int) RX12 D ct L φ N0) (σ : St) (x1 : Int) (x2 : Int) (x3 : Int) (H : Heap) (locs : List Loc) (ls : Array Slot) (hw : wp_X12_carries_36 Q σ x1 x2 x3) (h : Hs D ct ad L φ N0 s.heap σ H locs) (hl : lv_has ls 6 [(0, .ref (ad 12 0)), (1, .int (iv x1)), (2, .int (iv x2)), (3, .int (iv x3))]) : W p l e ({ frames := 5, cells := 0, slots := 0, locals := 106 } : Room) s m args below meth c H locs 0 0 (MQ below (Qi D ct ad L φ N0 Q) args s 0 0 (AA N0)) (F0 m 36 ls []) := by
  have hF := X.2.2.2.2.2.2.2.2.1
  unfold wp_X12_carries_36 at hw
  refine j_iconst X dX12_carries_36 ?_
  exact lb_X12_carries_37 X σ x1 x2 x3 0 _ _ _ hw h (lv_sub hl [0, 1, 2, 3] rfl)
theorem pd_X12_carries : yX12_carries.cls ≠ "java/lang/invoke/MethodHandle" ∧ yX12_carries.cls ≠ "java/lang/invoke/VarHandle" ∧ (parseMethodDescriptor yX12_carries.desc).map (fun d => d.parameters.length) = some 1 := by decide +kernel
set_option maxRecDepth 100000 in
set_option maxHeartbeats 4000000 in
theorem c_X12_carries (l : Launch) (D : va_G) (ct : Nat → ClassId) (ad : Nat → Nat → Nat) (L : List (Nat × Nat)) (φ : Nat → Nat → Nat → Bool) (N0 : Nat) (σ : St) (x1 : Int) (Q : Int → St → Prop) (hw : wp_X12_carries σ x1 Q) : Met l yX12_carries (.code yX12_carries cX12_carries 6 (some .int) :: gw) ({ frames := 5, cells := 0, slots := 0, locals := 106 } : Room) (Pm D ct ad L φ N0 σ [.ref (ad 12 0), .int (iv x1)]) (Qi D ct ad L φ N0 Q) 0 0 (AA N0) := by
  refine m_of (by decide) (fun p e s m below meth c X hnm h => ?_)
  have hF := X.2.2.2.2.2.2.2.2.1
  have hl := lv_entry ([.ref (ad 12 0), .int (iv x1)]) (n := 6) (Nat.le_of_ble_eq_true rfl)
  rw [lg_entry_eq]
  generalize (lg_sl ([.ref (ad 12 0), .int (iv x1)]) ++ List.replicate (6 - (lg_sl ([.ref (ad 12 0), .int (iv x1)])).length) Slot.unset).toArray = ls at hl ⊢
  have hl : lv_has ls 6 [(0, .ref (ad 12 0)), (1, .int (iv x1))] := hl
  have h : Hs D ct ad L φ N0 s.heap σ s.heap [] := h
  unfold wp_X12_carries at hw
  refine lv_aload_n X.1 X.2.1 dX12_carries_0 rfl (lv_at hl 0 rfl) ?_
  refine lv_iload_n X.1 X.2.1 dX12_carries_1 rfl (lv_at hl 1 rfl) ?_
  refine k_i h (r_V (C := RX12) (ci := 12) (As := [.int (iv x1)]) (rest := []) X h (c_X12_carryOf l D ct ad L φ N0 σ x1 _ hw) rfl rfl ⟨Nat.le_of_ble_eq_true rfl, Nat.le_of_ble_eq_true rfl⟩ kw_2226 kw_2228 kw_93 kw_129 kw_2229 ⟨rfl, pd_X12_carryOf⟩ (hF.1 12 rfl).1 rfl rfl rfl hl.1 rfl (Nat.le_of_ble_eq_true rfl) ⟨Nat.le_of_ble_eq_true rfl, Nat.le_of_ble_eq_true rfl⟩ dX12_carries_2) (fun r_50 σ_49 H locs hw h => ?_)
  refine lv_istore_n (lv' := [(2, .int (iv r_50)), (0, .ref (ad 12 0)), (1, .int (iv x1))]) X.1 X.2.1 dX12_carries_5 rfl hl (by decide) rfl (fun ls hl => ?_)
  refine j_iconst X dX12_carries_6 ?_
  refine lv_istore_n (lv' := [(3, .int (iv 0)), (2, .int (iv r_50)), (0, .ref (ad 12 0)), (1, .int (iv x1))]) X.1 X.2.1 dX12_carries_7 rfl hl (by decide) rfl (fun ls hl => ?_)
  refine lv_aload_n X.1 X.2.1 dX12_carries_8 rfl (lv_at hl 2 rfl) ?_
  refine r_getR (ci := 12) X inw_12 h (hF.1 12 rfl).1 rfl rfl 54 (by decide) kw_1692 rfl ((hF.1 12 rfl).2 54) dX12_carries_9 ?_
  refine lv_iload_n X.1 X.2.1 dX12_carries_12 rfl (lv_at hl 3 rfl) ?_
  obtain ⟨g_51, g_52, hw⟩ := hw
  refine r_iald (n := 40) X h (hF.1 120 rfl).1 rfl (by decide) g_51 g_52 dX12_carries_13 ?_
  refine j_iconst X dX12_carries_14 ?_
  obtain ⟨g_53, hwt, hwf⟩ := hw
  refine j_cmp_ne (tgt := 36) X g_53 ⟨by decide, by decide⟩ dX12_carries_15 (by decide) (fun c_58 => ?_) (fun c_58 => ?_)
  · have hw := hwt c_58
    exact lb_X12_carries_36 X σ_49 x1 r_50 0 _ _ _ hw h (lv_sub hl [2, 3, 1, 0] rfl)
  · have hw := hwf c_58
    refine lv_aload_n X.1 X.2.1 dX12_carries_18 rfl (lv_at hl 2 rfl) ?_
    refine lv_aload_n X.1 X.2.1 dX12_carries_19 rfl (lv_at hl 2 rfl) ?_
    refine r_get (ci := 12) X inw_12 h (hF.1 12 rfl).1 rfl rfl 1 (by decide) kw_1639 rfl dX12_carries_20 ?_
    refine j_iconst X dX12_carries_23 ?_
    refine k_i h (r_V (C := RX12) (ci := 12) (As := [.int (iv (σ_49 12 0 1)), .int (iv 1)]) (rest := []) X h (c_X12_sky l D ct ad L φ N0 σ_49 (σ_49 12 0 1) 1 _ hw) rfl rfl ⟨Nat.le_of_ble_eq_true rfl, Nat.le_of_ble_eq_true rfl⟩ kw_1988 kw_1990 kw_65 kw_129 kw_1991 ⟨rfl, pd_X12_sky⟩ (hF.1 12 rfl).1 rfl rfl rfl hl.1 rfl (Nat.le_of_ble_eq_true rfl) ⟨Nat.le_of_ble_eq_true rfl, Nat.le_of_ble_eq_true rfl⟩ dX12_carries_24) (fun r_55 σ_54 H locs hw h => ?_)
    refine j_bipush X dX12_carries_27 (by decide) ?_
    obtain ⟨g_56, hwt, hwf⟩ := hw
    refine j_cmp_ne (tgt := 36) X g_56 ⟨by decide, by decide⟩ dX12_carries_29 (by decide) (fun c_57 => ?_) (fun c_57 => ?_)
    · have hw := hwt c_57
      exact lb_X12_carries_36 X σ_54 x1 r_50 0 _ _ _ hw h (lv_sub hl [2, 3, 1, 0] rfl)
    · have hw := hwf c_57
      refine j_iconst X dX12_carries_32 ?_
      refine lv_goto (tgt := 37) X.1 X.2.1 dX12_carries_33 (by decide) ?_
      exact lb_X12_carries_37 X σ_54 x1 r_50 0 1 _ _ _ hw h (lv_sub hl [2, 3, 1, 0] rfl)
end
section
variable {p : Program} {l : Launch} {e : Env} {s : State} {m : MethodId} {args : Array Value} {below : List Frame} {meth : Method} {c : Code} {D : va_G} {ct : Nat → ClassId} {ad : Nat → Nat → Nat} {L : List (Nat × Nat)} {φ : Nat → Nat → Nat → Bool} {N0 : Nat}
variable {Q : St → Prop}
set_option maxRecDepth 100000 in
set_option maxHeartbeats 4000000 in
theorem lb_X12_monthEnds_102 (X : Cx p s m meth c args cX12_monthEnds 3 none RX12 D ct L φ N0) {K2 : St → Int → Prop} (hK2 : ∀ (σ : St) (x1 : Int) (H : Heap) (locs : List Loc) (ls : Array Slot), K2 σ x1 → Hs D ct ad L φ N0 s.heap σ H locs → lv_has ls 3 [(0, .ref (ad 12 0)), (1, .int (iv x1))] → W p l e ({ frames := 4, cells := 0, slots := 0, locals := 86 } : Room) s m args below meth c H locs 0 0 (MQ below (Qv D ct ad L φ N0 Q) args s 0 0 (AA N0)) (F0 m 2 ls [])) (σ : St) (x1 : Int) (H : Heap) (locs : List Loc) (ls : Array Slot) (hw : wp_X12_monthEnds_102 K2 Q σ x1) (h : Hs D ct ad L φ N0 s.heap σ H locs) (hl : lv_has ls 3 [(0, .ref (ad 12 0)), (1, .int (iv x1))]) : W p l e ({ frames := 4, cells := 0, slots := 0, locals := 86 } : Room) s m args below meth c H locs 0 0 (MQ below (Qv D ct ad L φ N0 Q) args s 0 0 (AA N0)) (F0 m 102 ls []) := by
  have hF := X.2.2.2.2.2.2.2.2.1
  unfold wp_X12_monthEnds_102 at hw
  refine j_iinc (kk9 := 1) (lv' := [(1, .int (iv (x1 + 1))), (0, .ref (ad 12 0))]) X dX12_monthEnds_102 hl rfl (by decide) rfl (fun ls hl => ?_)
  refine lv_goto (tgt := 2) X.1 X.2.1 dX12_monthEnds_105 (by decide) ?_
  exact hK2 σ (x1 + 1) _ _ _ hw h (lv_sub hl [1, 0] rfl)
set_option maxRecDepth 100000 in
set_option maxHeartbeats 4000000 in
theorem lb_X12_monthEnds_67 (X : Cx p s m meth c args cX12_monthEnds 3 none RX12 D ct L φ N0) {K2 : St → Int → Prop} (hK2 : ∀ (σ : St) (x1 : Int) (H : Heap) (locs : List Loc) (ls : Array Slot), K2 σ x1 → Hs D ct ad L φ N0 s.heap σ H locs → lv_has ls 3 [(0, .ref (ad 12 0)), (1, .int (iv x1))] → W p l e ({ frames := 4, cells := 0, slots := 0, locals := 86 } : Room) s m args below meth c H locs 0 0 (MQ below (Qv D ct ad L φ N0 Q) args s 0 0 (AA N0)) (F0 m 2 ls [])) (σ : St) (x1 : Int) (y0 : Int) (H : Heap) (locs : List Loc) (ls : Array Slot) (hw : wp_X12_monthEnds_67 K2 Q σ x1 y0) (h : Hs D ct ad L φ N0 s.heap σ H locs) (hl : lv_has ls 3 [(0, .ref (ad 12 0)), (1, .int (iv x1))]) : W p l e ({ frames := 4, cells := 0, slots := 0, locals := 86 } : Room) s m args below meth c H locs 0 0 (MQ below (Qv D ct ad L φ N0 Q) args s 0 0 (AA N0)) (F0 m 67 ls [.int (iv y0)]) := by
  have hF := X.2.2.2.2.2.2.2.2.1
  unfold wp_X12_monthEnds_67 at hw
  refine lv_istore_n (lv' := [(2, .int (iv y0)), (0, .ref (ad 12 0)), (1, .int (iv x1))]) X.1 X.2.1 dX12_monthEnds_67 rfl hl (by decide) rfl (fun ls hl => ?_)
  refine lv_aload_n X.1 X.2.1 dX12_monthEnds_68 rfl (lv_at hl 1 rfl) ?_
  refine r_getR (ci := 12) X inw_12 h (hF.1 12 rfl).1 rfl rfl 63 (by decide) kw_1701 rfl ((hF.1 12 rfl).2 63) dX12_monthEnds_69 ?_
  refine lv_iload_n X.1 X.2.1 dX12_monthEnds_72 rfl (lv_at hl 2 rfl) ?_
  refine lv_dup2_11 X.1 X.2.1 dX12_monthEnds_73 rfl rfl ?_
  obtain ⟨g_1, g_2, hw⟩ := hw
  refine r_iald (n := 20) X h (hF.1 127 rfl).1 rfl (by decide) g_1 g_2 dX12_monthEnds_74 ?_
  refine lv_iload_n X.1 X.2.1 dX12_monthEnds_75 rfl (lv_at hl 0 rfl) ?_
  refine j_isub X dX12_monthEnds_76 ?_
  obtain ⟨g_3, g_4, hw⟩ := hw
  refine r_iast (n := 20) X h (hF.1 127 rfl).1 (fun _ => rfl) (by decide) g_3 g_4 rfl dX12_monthEnds_77 (fun H locs h => ?_)
  obtain ⟨σ_5, eσ_5⟩ : ∃ z : St, z = st σ 127 0 (Int.toNat x1) ((σ 127 0 (Int.toNat x1)) - y0) := ⟨_, rfl⟩
  rw [← eσ_5] at h
  have hw := hw σ_5 eσ_5
  refine lv_aload_n X.1 X.2.1 dX12_monthEnds_78 rfl (lv_at hl 1 rfl) ?_
  refine r_getR (ci := 12) X inw_12 h (hF.1 12 rfl).1 rfl rfl 64 (by decide) kw_1702 rfl ((hF.1 12 rfl).2 64) dX12_monthEnds_79 ?_
  refine lv_iload_n X.1 X.2.1 dX12_monthEnds_82 rfl (lv_at hl 2 rfl) ?_
  refine lv_dup2_11 X.1 X.2.1 dX12_monthEnds_83 rfl rfl ?_
  obtain ⟨g_6, g_7, hw⟩ := hw
  refine r_iald (n := 20) X h (hF.1 128 rfl).1 rfl (by decide) g_6 g_7 dX12_monthEnds_84 ?_
  refine lv_aload_n X.1 X.2.1 dX12_monthEnds_85 rfl (lv_at hl 1 rfl) ?_
  refine r_getR (ci := 12) X inw_12 h (hF.1 12 rfl).1 rfl rfl 62 (by decide) kw_1700 rfl ((hF.1 12 rfl).2 62) dX12_monthEnds_86 ?_
  refine lv_iload_n X.1 X.2.1 dX12_monthEnds_89 rfl (lv_at hl 2 rfl) ?_
  obtain ⟨g_8, g_9, hw⟩ := hw
  refine r_iald (n := 20) X h (hF.1 126 rfl).1 rfl (by decide) g_8 g_9 dX12_monthEnds_90 ?_
  refine lv_iload_n X.1 X.2.1 dX12_monthEnds_91 rfl (lv_at hl 0 rfl) ?_
  refine j_isub X dX12_monthEnds_92 ?_
  refine j_iadd X dX12_monthEnds_93 ?_
  obtain ⟨g_10, g_11, hw⟩ := hw
  refine r_iast (n := 20) X h (hF.1 128 rfl).1 (fun _ => rfl) (by decide) g_10 g_11 rfl dX12_monthEnds_94 (fun H locs h => ?_)
  obtain ⟨σ_12, eσ_12⟩ : ∃ z : St, z = st σ_5 128 0 (Int.toNat x1) ((σ_5 128 0 (Int.toNat x1)) + ((σ_5 126 0 (Int.toNat x1)) - y0)) := ⟨_, rfl⟩
  rw [← eσ_12] at h
  have hw := hw σ_12 eσ_12
  refine lv_aload_n X.1 X.2.1 dX12_monthEnds_95 rfl (lv_at hl 1 rfl) ?_
  refine r_getR (ci := 12) X inw_12 h (hF.1 12 rfl).1 rfl rfl 62 (by decide) kw_1700 rfl ((hF.1 12 rfl).2 62) dX12_monthEnds_96 ?_
  refine lv_iload_n X.1 X.2.1 dX12_monthEnds_99 rfl (lv_at hl 2 rfl) ?_
  refine j_iconst X dX12_monthEnds_100 ?_
  obtain ⟨g_13, g_14, hw⟩ := hw
  refine r_iast (n := 20) X h (hF.1 126 rfl).1 (fun _ => rfl) (by decide) g_13 g_14 rfl dX12_monthEnds_101 (fun H locs h => ?_)
  obtain ⟨σ_15, eσ_15⟩ : ∃ z : St, z = st σ_12 126 0 (Int.toNat x1) 0 := ⟨_, rfl⟩
  rw [← eσ_15] at h
  have hw := hw σ_15 eσ_15
  exact lb_X12_monthEnds_102 X hK2 σ_15 x1 _ _ _ hw h (lv_sub hl [1, 2] rfl)
set_option maxRecDepth 100000 in
set_option maxHeartbeats 4000000 in
theorem lb_X12_monthEnds_2 (X : Cx p s m meth c args cX12_monthEnds 3 none RX12 D ct L φ N0) : ∀ (n : Nat) (σ : St) (x1 : Int) (H : Heap) (locs : List Loc) (ls : Array Slot), wp_X12_monthEnds_2 Q n σ x1 → Hs D ct ad L φ N0 s.heap σ H locs → lv_has ls 3 [(0, .ref (ad 12 0)), (1, .int (iv x1))] → W p l e ({ frames := 4, cells := 0, slots := 0, locals := 86 } : Room) s m args below meth c H locs 0 0 (MQ below (Qv D ct ad L φ N0 Q) args s 0 0 (AA N0)) (F0 m 2 ls []) := by
  have hF := X.2.2.2.2.2.2.2.2.1
  intro n
  induction n with
  | zero => intro σ x1 H locs ls hw; exact hw.elim
  | succ n ih =>
    intro σ x1 H locs ls hw h hl
    unfold wp_X12_monthEnds_2 at hw
    refine lv_iload_n X.1 X.2.1 dX12_monthEnds_2 rfl (lv_at hl 1 rfl) ?_
    refine lv_aload_n X.1 X.2.1 dX12_monthEnds_3 rfl (lv_at hl 0 rfl) ?_
    refine r_get (ci := 12) X inw_12 h (hF.1 12 rfl).1 rfl rfl 60 (by decide) kw_1698 rfl dX12_monthEnds_4 ?_
    obtain ⟨g_16, g_17, hwt, hwf⟩ := hw
    refine j_cmp_ge (tgt := 108) X g_16 g_17 dX12_monthEnds_7 (by decide) (fun c_40 => ?_) (fun c_40 => ?_)
    · have hw := hwt c_40
      exact k_vr X h hw dX12_monthEnds_108
    · have hw := hwf c_40
      refine lv_aload_n X.1 X.2.1 dX12_monthEnds_10 rfl (lv_at hl 0 rfl) ?_
      refine r_getR (ci := 12) X inw_12 h (hF.1 12 rfl).1 rfl rfl 65 (by decide) kw_1703 rfl ((hF.1 12 rfl).2 65) dX12_monthEnds_11 ?_
      refine lv_iload_n X.1 X.2.1 dX12_monthEnds_14 rfl (lv_at hl 1 rfl) ?_
      obtain ⟨g_18, g_19, hw⟩ := hw
      refine r_zald (n := 20) X h (hF.1 129 rfl).1 rfl (by decide) g_18 g_19 dX12_monthEnds_15 ?_
      obtain ⟨g_20, hwt, hwf⟩ := hw
      refine j_if_eq (tgt := 22) X g_20 dX12_monthEnds_16 (by decide) (fun c_39 => ?_) (fun c_39 => ?_)
      · have hw := hwt c_39
        refine lv_aload_n X.1 X.2.1 dX12_monthEnds_22 rfl (lv_at hl 0 rfl) ?_
        refine r_getR (ci := 12) X inw_12 h (hF.1 12 rfl).1 rfl rfl 63 (by decide) kw_1701 rfl ((hF.1 12 rfl).2 63) dX12_monthEnds_23 ?_
        refine lv_iload_n X.1 X.2.1 dX12_monthEnds_26 rfl (lv_at hl 1 rfl) ?_
        refine lv_dup2_11 X.1 X.2.1 dX12_monthEnds_27 rfl rfl ?_
        obtain ⟨g_21, g_22, hw⟩ := hw
        refine r_iald (n := 20) X h (hF.1 127 rfl).1 rfl (by decide) g_21 g_22 dX12_monthEnds_28 ?_
        refine lv_aload_n X.1 X.2.1 dX12_monthEnds_29 rfl (lv_at hl 0 rfl) ?_
        refine lv_iload_n X.1 X.2.1 dX12_monthEnds_30 rfl (lv_at hl 1 rfl) ?_
        refine j_iconst X dX12_monthEnds_31 ?_
        refine k_i h (r_V (C := RX12) (ci := 12) (As := [.int (iv x1), .int (iv 2)]) (rest := [.int (iv (σ 127 0 (Int.toNat x1))), .int (iv x1), .ref (ad 127 0)]) X h (c_X12_dueOf l D ct ad L φ N0 σ x1 2 _ hw) rfl rfl ⟨Nat.le_of_ble_eq_true rfl, Nat.le_of_ble_eq_true rfl⟩ kw_2195 kw_2197 kw_91 kw_129 kw_2198 ⟨rfl, pd_X12_dueOf⟩ (hF.1 12 rfl).1 rfl rfl rfl hl.1 rfl (Nat.le_of_ble_eq_true rfl) ⟨Nat.le_of_ble_eq_true rfl, Nat.le_of_ble_eq_true rfl⟩ dX12_monthEnds_32) (fun r_24 σ_23 H locs hw h => ?_)
        refine j_iadd X dX12_monthEnds_35 ?_
        obtain ⟨g_25, g_26, hw⟩ := hw
        refine r_iast (n := 20) X h (hF.1 127 rfl).1 (fun _ => rfl) (by decide) g_25 g_26 rfl dX12_monthEnds_36 (fun H locs h => ?_)
        obtain ⟨σ_27, eσ_27⟩ : ∃ z : St, z = st σ_23 127 0 (Int.toNat x1) ((σ 127 0 (Int.toNat x1)) + r_24) := ⟨_, rfl⟩
        rw [← eσ_27] at h
        have hw := hw σ_27 eσ_27
        refine lv_aload_n X.1 X.2.1 dX12_monthEnds_37 rfl (lv_at hl 0 rfl) ?_
        refine r_getR (ci := 12) X inw_12 h (hF.1 12 rfl).1 rfl rfl 62 (by decide) kw_1700 rfl ((hF.1 12 rfl).2 62) dX12_monthEnds_38 ?_
        refine lv_iload_n X.1 X.2.1 dX12_monthEnds_41 rfl (lv_at hl 1 rfl) ?_
        obtain ⟨g_28, g_29, hw⟩ := hw
        refine r_iald (n := 20) X h (hF.1 126 rfl).1 rfl (by decide) g_28 g_29 dX12_monthEnds_42 ?_
        refine lv_aload_n X.1 X.2.1 dX12_monthEnds_43 rfl (lv_at hl 0 rfl) ?_
        refine r_getR (ci := 12) X inw_12 h (hF.1 12 rfl).1 rfl rfl 63 (by decide) kw_1701 rfl ((hF.1 12 rfl).2 63) dX12_monthEnds_44 ?_
        refine lv_iload_n X.1 X.2.1 dX12_monthEnds_47 rfl (lv_at hl 1 rfl) ?_
        obtain ⟨g_30, g_31, hw⟩ := hw
        refine r_iald (n := 20) X h (hF.1 127 rfl).1 rfl (by decide) g_30 g_31 dX12_monthEnds_48 ?_
        obtain ⟨g_32, g_33, hwt, hwf⟩ := hw
        refine j_cmp_ge (tgt := 61) X g_32 g_33 dX12_monthEnds_49 (by decide) (fun c_38 => ?_) (fun c_38 => ?_)
        · have hw := hwt c_38
          refine lv_aload_n X.1 X.2.1 dX12_monthEnds_61 rfl (lv_at hl 0 rfl) ?_
          refine r_getR (ci := 12) X inw_12 h (hF.1 12 rfl).1 rfl rfl 63 (by decide) kw_1701 rfl ((hF.1 12 rfl).2 63) dX12_monthEnds_62 ?_
          refine lv_iload_n X.1 X.2.1 dX12_monthEnds_65 rfl (lv_at hl 1 rfl) ?_
          obtain ⟨g_34, g_35, hw⟩ := hw
          refine r_iald (n := 20) X h (hF.1 127 rfl).1 rfl (by decide) g_34 g_35 dX12_monthEnds_66 ?_
          exact lb_X12_monthEnds_67 X ih σ_27 x1 (σ_27 127 0 (Int.toNat x1)) _ _ _ hw h (lv_sub hl [0, 1] rfl)
        · have hw := hwf c_38
          refine lv_aload_n X.1 X.2.1 dX12_monthEnds_52 rfl (lv_at hl 0 rfl) ?_
          refine r_getR (ci := 12) X inw_12 h (hF.1 12 rfl).1 rfl rfl 62 (by decide) kw_1700 rfl ((hF.1 12 rfl).2 62) dX12_monthEnds_53 ?_
          refine lv_iload_n X.1 X.2.1 dX12_monthEnds_56 rfl (lv_at hl 1 rfl) ?_
          obtain ⟨g_36, g_37, hw⟩ := hw
          refine r_iald (n := 20) X h (hF.1 126 rfl).1 rfl (by decide) g_36 g_37 dX12_monthEnds_57 ?_
          refine lv_goto (tgt := 67) X.1 X.2.1 dX12_monthEnds_58 (by decide) ?_
          exact lb_X12_monthEnds_67 X ih σ_27 x1 (σ_27 126 0 (Int.toNat x1)) _ _ _ hw h (lv_sub hl [0, 1] rfl)
      · have hw := hwf c_39
        refine lv_goto (tgt := 102) X.1 X.2.1 dX12_monthEnds_19 (by decide) ?_
        exact lb_X12_monthEnds_102 X ih σ x1 _ _ _ hw h (lv_sub hl [0, 1] rfl)
theorem pd_X12_monthEnds : yX12_monthEnds.cls ≠ "java/lang/invoke/MethodHandle" ∧ yX12_monthEnds.cls ≠ "java/lang/invoke/VarHandle" ∧ (parseMethodDescriptor yX12_monthEnds.desc).map (fun d => d.parameters.length) = some 0 := by decide +kernel
set_option maxRecDepth 100000 in
set_option maxHeartbeats 4000000 in
theorem c_X12_monthEnds (l : Launch) (D : va_G) (ct : Nat → ClassId) (ad : Nat → Nat → Nat) (L : List (Nat × Nat)) (φ : Nat → Nat → Nat → Bool) (N0 : Nat) (σ : St) (Q : St → Prop) (hw : wp_X12_monthEnds σ Q) : Met l yX12_monthEnds (.code yX12_monthEnds cX12_monthEnds 3 none :: gw) ({ frames := 4, cells := 0, slots := 0, locals := 86 } : Room) (Pm D ct ad L φ N0 σ [.ref (ad 12 0)]) (Qv D ct ad L φ N0 Q) 0 0 (AA N0) := by
  refine m_of (by decide) (fun p e s m below meth c X hnm h => ?_)
  have hF := X.2.2.2.2.2.2.2.2.1
  have hl := lv_entry ([.ref (ad 12 0)]) (n := 3) (Nat.le_of_ble_eq_true rfl)
  rw [lg_entry_eq]
  generalize (lg_sl ([.ref (ad 12 0)]) ++ List.replicate (3 - (lg_sl ([.ref (ad 12 0)])).length) Slot.unset).toArray = ls at hl ⊢
  have hl : lv_has ls 3 [(0, .ref (ad 12 0))] := hl
  have h : Hs D ct ad L φ N0 s.heap σ s.heap [] := h
  unfold wp_X12_monthEnds at hw
  refine j_iconst X dX12_monthEnds_0 ?_
  refine lv_istore_n (lv' := [(1, .int (iv 0)), (0, .ref (ad 12 0))]) X.1 X.2.1 dX12_monthEnds_1 rfl hl (by decide) rfl (fun ls hl => ?_)
  exact hw.elim (fun n2 hw => lb_X12_monthEnds_2 X n2 σ 0 _ _ _ hw h (lv_sub hl [1, 0] rfl))
end
section
variable {p : Program} {l : Launch} {e : Env} {s : State} {m : MethodId} {args : Array Value} {below : List Frame} {meth : Method} {c : Code} {D : va_G} {ct : Nat → ClassId} {ad : Nat → Nat → Nat} {L : List (Nat × Nat)} {φ : Nat → Nat → Nat → Bool} {N0 : Nat}
variable {Q : St → Prop}
set_option maxRecDepth 100000 in
set_option maxHeartbeats 4000000 in
theorem lb_X12_yearEnds_124 (X : Cx p s m meth c args cX12_yearEnds 6 none RX12 D ct L φ N0) {K2 : St → Int → Prop} (hK2 : ∀ (σ : St) (x1 : Int) (H : Heap) (locs : List Loc) (ls : Array Slot), K2 σ x1 → Hs D ct ad L φ N0 s.heap σ H locs → lv_has ls 6 [(0, .ref (ad 12 0)), (1, .int (iv x1))] → W p l e ({ frames := 1, cells := 0, slots := 0, locals := 22 } : Room) s m args below meth c H locs 0 0 (MQ below (Qv D ct ad L φ N0 Q) args s 0 0 (AA N0)) (F0 m 2 ls [])) (σ : St) (x1 : Int) (H : Heap) (locs : List Loc) (ls : Array Slot) (hw : wp_X12_yearEnds_124 K2 Q σ x1) (h : Hs D ct ad L φ N0 s.heap σ H locs) (hl : lv_has ls 6 [(0, .ref (ad 12 0)), (1, .int (iv x1))]) : W p l e ({ frames := 1, cells := 0, slots := 0, locals := 22 } : Room) s m args below meth c H locs 0 0 (MQ below (Qv D ct ad L φ N0 Q) args s 0 0 (AA N0)) (F0 m 124 ls []) := by
  have hF := X.2.2.2.2.2.2.2.2.1
  unfold wp_X12_yearEnds_124 at hw
  refine lv_aload_n X.1 X.2.1 dX12_yearEnds_124 rfl (lv_at hl 0 rfl) ?_
  refine r_getR (ci := 12) X inw_12 h (hF.1 12 rfl).1 rfl rfl 3 (by decide) kw_1641 rfl ((hF.1 12 rfl).2 3) dX12_yearEnds_125 ?_
  refine lv_iload_n X.1 X.2.1 dX12_yearEnds_128 rfl (lv_at hl 1 rfl) ?_
  refine lv_dup2_11 X.1 X.2.1 dX12_yearEnds_129 rfl rfl ?_
  obtain ⟨g_1, g_2, hw⟩ := hw
  refine r_iald (n := 64) X h (hF.1 84 rfl).1 rfl (by decide) g_1 g_2 dX12_yearEnds_130 ?_
  refine j_iconst X dX12_yearEnds_131 ?_
  obtain ⟨g_3, hw⟩ := hw
  refine j_idiv X g_3 ⟨by decide, by decide⟩ (by decide) (by decide) dX12_yearEnds_132 ?_
  obtain ⟨g_4, g_5, hw⟩ := hw
  refine r_iast (n := 64) X h (hF.1 84 rfl).1 (fun _ => rfl) (by decide) g_4 g_5 rfl dX12_yearEnds_133 (fun H locs h => ?_)
  obtain ⟨σ_6, eσ_6⟩ : ∃ z : St, z = st σ 84 0 (Int.toNat x1) (Int.tdiv (σ 84 0 (Int.toNat x1)) 2) := ⟨_, rfl⟩
  rw [← eσ_6] at h
  have hw := hw σ_6 eσ_6
  refine j_iinc (kk9 := 1) (lv' := [(1, .int (iv (x1 + 1))), (0, .ref (ad 12 0))]) X dX12_yearEnds_134 hl rfl (by decide) rfl (fun ls hl => ?_)
  refine lv_goto (tgt := 2) X.1 X.2.1 dX12_yearEnds_137 (by decide) ?_
  exact hK2 σ_6 (x1 + 1) _ _ _ hw h (lv_sub hl [1, 0] rfl)
set_option maxRecDepth 100000 in
set_option maxHeartbeats 4000000 in
theorem lb_X12_yearEnds_118 (X : Cx p s m meth c args cX12_yearEnds 6 none RX12 D ct L φ N0) {K10 : St → Int → Int → Prop} {K124 : St → Int → Prop} (hK10 : ∀ (σ : St) (x1 : Int) (x2 : Int) (H : Heap) (locs : List Loc) (ls : Array Slot), K10 σ x1 x2 → Hs D ct ad L φ N0 s.heap σ H locs → lv_has ls 6 [(0, .ref (ad 12 0)), (1, .int (iv x1)), (2, .int (iv x2))] → W p l e ({ frames := 1, cells := 0, slots := 0, locals := 22 } : Room) s m args below meth c H locs 0 0 (MQ below (Qv D ct ad L φ N0 Q) args s 0 0 (AA N0)) (F0 m 10 ls [])) (hK124 : ∀ (σ : St) (x1 : Int) (H : Heap) (locs : List Loc) (ls : Array Slot), K124 σ x1 → Hs D ct ad L φ N0 s.heap σ H locs → lv_has ls 6 [(0, .ref (ad 12 0)), (1, .int (iv x1))] → W p l e ({ frames := 1, cells := 0, slots := 0, locals := 22 } : Room) s m args below meth c H locs 0 0 (MQ below (Qv D ct ad L φ N0 Q) args s 0 0 (AA N0)) (F0 m 124 ls [])) (σ : St) (x1 : Int) (x2 : Int) (H : Heap) (locs : List Loc) (ls : Array Slot) (hw : wp_X12_yearEnds_118 K10 K124 Q σ x1 x2) (h : Hs D ct ad L φ N0 s.heap σ H locs) (hl : lv_has ls 6 [(0, .ref (ad 12 0)), (1, .int (iv x1)), (2, .int (iv x2))]) : W p l e ({ frames := 1, cells := 0, slots := 0, locals := 22 } : Room) s m args below meth c H locs 0 0 (MQ below (Qv D ct ad L φ N0 Q) args s 0 0 (AA N0)) (F0 m 118 ls []) := by
  have hF := X.2.2.2.2.2.2.2.2.1
  unfold wp_X12_yearEnds_118 at hw
  refine j_iinc (kk9 := 2) (lv' := [(2, .int (iv (x2 + 1))), (0, .ref (ad 12 0)), (1, .int (iv x1))]) X dX12_yearEnds_118 hl rfl (by decide) rfl (fun ls hl => ?_)
  refine lv_goto (tgt := 10) X.1 X.2.1 dX12_yearEnds_121 (by decide) ?_
  exact hK10 σ x1 (x2 + 1) _ _ _ hw h (lv_sub hl [1, 2, 0] rfl)
set_option maxRecDepth 100000 in
set_option maxHeartbeats 4000000 in
theorem lb_X12_yearEnds_84 (X : Cx p s m meth c args cX12_yearEnds 6 none RX12 D ct L φ N0) {K17 : St → Int → Int → Int → Prop} {K118 : St → Int → Int → Prop} (hK17 : ∀ (σ : St) (x1 : Int) (x2 : Int) (x3 : Int) (H : Heap) (locs : List Loc) (ls : Array Slot), K17 σ x1 x2 x3 → Hs D ct ad L φ N0 s.heap σ H locs → lv_has ls 6 [(0, .ref (ad 12 0)), (1, .int (iv x1)), (2, .int (iv x2)), (3, .int (iv x3))] → W p l e ({ frames := 1, cells := 0, slots := 0, locals := 22 } : Room) s m args below meth c H locs 0 0 (MQ below (Qv D ct ad L φ N0 Q) args s 0 0 (AA N0)) (F0 m 17 ls [])) (hK118 : ∀ (σ : St) (x1 : Int) (x2 : Int) (H : Heap) (locs : List Loc) (ls : Array Slot), K118 σ x1 x2 → Hs D ct ad L φ N0 s.heap σ H locs → lv_has ls 6 [(0, .ref (ad 12 0)), (1, .int (iv x1)), (2, .int (iv x2))] → W p l e ({ frames := 1, cells := 0, slots := 0, locals := 22 } : Room) s m args below meth c H locs 0 0 (MQ below (Qv D ct ad L φ N0 Q) args s 0 0 (AA N0)) (F0 m 118 ls [])) (σ : St) (x1 : Int) (x2 : Int) (x3 : Int) (x4 : Int) (y0 : Int) (H : Heap) (locs : List Loc) (ls : Array Slot) (hw : wp_X12_yearEnds_84 K17 K118 Q σ x1 x2 x3 x4 y0) (h : Hs D ct ad L φ N0 s.heap σ H locs) (hl : lv_has ls 6 [(0, .ref (ad 12 0)), (1, .int (iv x1)), (2, .int (iv x2)), (3, .int (iv x3)), (4, .int (iv x4))]) : W p l e ({ frames := 1, cells := 0, slots := 0, locals := 22 } : Room) s m args below meth c H locs 0 0 (MQ below (Qv D ct ad L φ N0 Q) args s 0 0 (AA N0)) (F0 m 84 ls [.int (iv y0)]) := by
  have hF := X.2.2.2.2.2.2.2.2.1
  unfold wp_X12_yearEnds_84 at hw
  refine lv_istore (lv' := [(5, .int (iv y0)), (0, .ref (ad 12 0)), (1, .int (iv x1)), (2, .int (iv x2)), (3, .int (iv x3)), (4, .int (iv x4))]) X.1 X.2.1 dX12_yearEnds_84 hl (by decide) rfl (fun ls hl => ?_)
  refine lv_aload_n X.1 X.2.1 dX12_yearEnds_86 rfl (lv_at hl 1 rfl) ?_
  refine r_getR (ci := 12) X inw_12 h (hF.1 12 rfl).1 rfl rfl 4 (by decide) kw_1642 rfl ((hF.1 12 rfl).2 4) dX12_yearEnds_87 ?_
  refine lv_iload X.1 X.2.1 dX12_yearEnds_90 (lv_at hl 5 rfl) ?_
  refine lv_dup2_11 X.1 X.2.1 dX12_yearEnds_92 rfl rfl ?_
  obtain ⟨g_7, g_8, hw⟩ := hw
  refine r_iald (n := 1024) X h (hF.1 85 rfl).1 rfl (by decide) g_7 g_8 dX12_yearEnds_93 ?_
  refine lv_iload X.1 X.2.1 dX12_yearEnds_94 (lv_at hl 0 rfl) ?_
  refine j_isub X dX12_yearEnds_96 ?_
  obtain ⟨g_9, g_10, hw⟩ := hw
  refine r_iast (n := 1024) X h (hF.1 85 rfl).1 (fun _ => rfl) (by decide) g_9 g_10 rfl dX12_yearEnds_97 (fun H locs h => ?_)
  obtain ⟨σ_11, eσ_11⟩ : ∃ z : St, z = st σ 85 0 (Int.toNat x4) ((σ 85 0 (Int.toNat x4)) - y0) := ⟨_, rfl⟩
  rw [← eσ_11] at h
  have hw := hw σ_11 eσ_11
  refine lv_aload_n X.1 X.2.1 dX12_yearEnds_98 rfl (lv_at hl 1 rfl) ?_
  refine r_getR (ci := 12) X inw_12 h (hF.1 12 rfl).1 rfl rfl 4 (by decide) kw_1642 rfl ((hF.1 12 rfl).2 4) dX12_yearEnds_99 ?_
  refine lv_iload X.1 X.2.1 dX12_yearEnds_102 (lv_at hl 5 rfl) ?_
  refine j_iconst X dX12_yearEnds_104 ?_
  refine j_iadd X dX12_yearEnds_105 ?_
  refine lv_dup2_11 X.1 X.2.1 dX12_yearEnds_106 rfl rfl ?_
  obtain ⟨g_12, g_13, hw⟩ := hw
  refine r_iald (n := 1024) X h (hF.1 85 rfl).1 rfl (by decide) g_12 g_13 dX12_yearEnds_107 ?_
  refine lv_iload X.1 X.2.1 dX12_yearEnds_108 (lv_at hl 0 rfl) ?_
  refine j_iadd X dX12_yearEnds_110 ?_
  obtain ⟨g_14, g_15, hw⟩ := hw
  refine r_iast (n := 1024) X h (hF.1 85 rfl).1 (fun _ => rfl) (by decide) g_14 g_15 rfl dX12_yearEnds_111 (fun H locs h => ?_)
  obtain ⟨σ_16, eσ_16⟩ : ∃ z : St, z = st σ_11 85 0 (Int.toNat (x4 + 1)) ((σ_11 85 0 (Int.toNat (x4 + 1))) + y0) := ⟨_, rfl⟩
  rw [← eσ_16] at h
  have hw := hw σ_16 eσ_16
  refine j_iinc (kk9 := 4) (lv' := [(3, .int (iv (x3 + (-1)))), (5, .int (iv y0)), (0, .ref (ad 12 0)), (1, .int (iv x1)), (2, .int (iv x2)), (4, .int (iv x4))]) X dX12_yearEnds_112 hl rfl (by decide) rfl (fun ls hl => ?_)
  refine lv_goto (tgt := 17) X.1 X.2.1 dX12_yearEnds_115 (by decide) ?_
  exact hK17 σ_16 x1 x2 (x3 + (-1)) _ _ _ hw h (lv_sub hl [2, 3, 4, 0] rfl)
set_option maxRecDepth 100000 in
set_option maxHeartbeats 4000000 in
theorem lb_X12_yearEnds_17 (X : Cx p s m meth c args cX12_yearEnds 6 none RX12 D ct L φ N0) {K118 : St → Int → Int → Prop} (hK118 : ∀ (σ : St) (x1 : Int) (x2 : Int) (H : Heap) (locs : List Loc) (ls : Array Slot), K118 σ x1 x2 → Hs D ct ad L φ N0 s.heap σ H locs → lv_has ls 6 [(0, .ref (ad 12 0)), (1, .int (iv x1)), (2, .int (iv x2))] → W p l e ({ frames := 1, cells := 0, slots := 0, locals := 22 } : Room) s m args below meth c H locs 0 0 (MQ below (Qv D ct ad L φ N0 Q) args s 0 0 (AA N0)) (F0 m 118 ls [])) : ∀ (n : Nat) (σ : St) (x1 : Int) (x2 : Int) (x3 : Int) (H : Heap) (locs : List Loc) (ls : Array Slot), wp_X12_yearEnds_17 K118 Q n σ x1 x2 x3 → Hs D ct ad L φ N0 s.heap σ H locs → lv_has ls 6 [(0, .ref (ad 12 0)), (1, .int (iv x1)), (2, .int (iv x2)), (3, .int (iv x3))] → W p l e ({ frames := 1, cells := 0, slots := 0, locals := 22 } : Room) s m args below meth c H locs 0 0 (MQ below (Qv D ct ad L φ N0 Q) args s 0 0 (AA N0)) (F0 m 17 ls []) := by
  have hF := X.2.2.2.2.2.2.2.2.1
  intro n
  induction n with
  | zero => intro σ x1 x2 x3 H locs ls hw; exact hw.elim
  | succ n ih =>
    intro σ x1 x2 x3 H locs ls hw h hl
    unfold wp_X12_yearEnds_17 at hw
    refine lv_iload_n X.1 X.2.1 dX12_yearEnds_17 rfl (lv_at hl 3 rfl) ?_
    obtain ⟨g_17, hwt, hwf⟩ := hw
    refine j_if_lt (tgt := 118) X g_17 dX12_yearEnds_18 (by decide) (fun c_33 => ?_) (fun c_33 => ?_)
    · have hw := hwt c_33
      exact hK118 σ x1 x2 _ _ _ hw h (lv_sub hl [0, 1, 2] rfl)
    · have hw := hwf c_33
      refine lv_iload_n X.1 X.2.1 dX12_yearEnds_21 rfl (lv_at hl 1 rfl) ?_
      refine lv_iload_n X.1 X.2.1 dX12_yearEnds_22 rfl (lv_at hl 2 rfl) ?_
      refine lv_iload_n X.1 X.2.1 dX12_yearEnds_23 rfl (lv_at hl 3 rfl) ?_
      refine k_i h (r_S (As := [.int (iv x1), .int (iv x2), .int (iv x3)]) (rest := []) X h (c_X12_stemAt l D ct ad L φ N0 σ x1 x2 x3 _ hw) rfl rfl ⟨Nat.le_of_ble_eq_true rfl, Nat.le_of_ble_eq_true rfl⟩ kw_1969 kw_1970 kw_129 kw_1971 pd_X12_stemAt rfl hl.1 rfl (Nat.le_of_ble_eq_true rfl) ⟨Nat.le_of_ble_eq_true rfl, Nat.le_of_ble_eq_true rfl⟩ dX12_yearEnds_24) (fun r_19 σ_18 H locs hw h => ?_)
      refine lv_istore (lv' := [(4, .int (iv r_19)), (0, .ref (ad 12 0)), (1, .int (iv x1)), (2, .int (iv x2)), (3, .int (iv x3))]) X.1 X.2.1 dX12_yearEnds_27 hl (by decide) rfl (fun ls hl => ?_)
      refine lv_aload_n X.1 X.2.1 dX12_yearEnds_29 rfl (lv_at hl 1 rfl) ?_
      refine r_getR (ci := 12) X inw_12 h (hF.1 12 rfl).1 rfl rfl 4 (by decide) kw_1642 rfl ((hF.1 12 rfl).2 4) dX12_yearEnds_30 ?_
      refine lv_iload X.1 X.2.1 dX12_yearEnds_33 (lv_at hl 0 rfl) ?_
      obtain ⟨g_20, g_21, hw⟩ := hw
      refine r_iald (n := 1024) X h (hF.1 85 rfl).1 rfl (by decide) g_20 g_21 dX12_yearEnds_35 ?_
      refine lv_aload_n X.1 X.2.1 dX12_yearEnds_36 rfl (lv_at hl 1 rfl) ?_
      refine r_getR (ci := 12) X inw_12 h (hF.1 12 rfl).1 rfl rfl 5 (by decide) kw_1643 rfl ((hF.1 12 rfl).2 5) dX12_yearEnds_37 ?_
      refine lv_iload_n X.1 X.2.1 dX12_yearEnds_40 rfl (lv_at hl 3 rfl) ?_
      obtain ⟨g_22, g_23, hw⟩ := hw
      refine r_iald (n := 4) X h (hF.1 86 rfl).1 rfl (by decide) g_22 g_23 dX12_yearEnds_41 ?_
      refine j_imul X dX12_yearEnds_42 ?_
      refine j_bipush X dX12_yearEnds_43 (by decide) ?_
      obtain ⟨g_24, hw⟩ := hw
      refine j_idiv X g_24 ⟨by decide, by decide⟩ (by decide) (by decide) dX12_yearEnds_45 ?_
      refine j_bind (fun v_25 ev_25 => ?_)
      have hw := hw v_25 ev_25
      refine lv_istore (lv' := [(5, .int (iv v_25)), (4, .int (iv r_19)), (0, .ref (ad 12 0)), (1, .int (iv x1)), (2, .int (iv x2)), (3, .int (iv x3))]) X.1 X.2.1 dX12_yearEnds_46 hl (by decide) rfl (fun ls hl => ?_)
      refine lv_iload X.1 X.2.1 dX12_yearEnds_48 (lv_at hl 0 rfl) ?_
      refine j_sipush X dX12_yearEnds_50 (by decide) ?_
      refine lv_aload_n X.1 X.2.1 dX12_yearEnds_53 rfl (lv_at hl 2 rfl) ?_
      refine r_getR (ci := 12) X inw_12 h (hF.1 12 rfl).1 rfl rfl 4 (by decide) kw_1642 rfl ((hF.1 12 rfl).2 4) dX12_yearEnds_54 ?_
      refine lv_iload X.1 X.2.1 dX12_yearEnds_57 (lv_at hl 1 rfl) ?_
      refine j_iconst X dX12_yearEnds_59 ?_
      refine j_iadd X dX12_yearEnds_60 ?_
      obtain ⟨g_26, g_27, hw⟩ := hw
      refine r_iald (n := 1024) X h (hF.1 85 rfl).1 rfl (by decide) g_26 g_27 dX12_yearEnds_61 ?_
      refine j_isub X dX12_yearEnds_62 ?_
      obtain ⟨g_28, g_29, hwt, hwf⟩ := hw
      refine j_cmp_le (tgt := 82) X g_28 g_29 dX12_yearEnds_63 (by decide) (fun c_32 => ?_) (fun c_32 => ?_)
      · have hw := hwt c_32
        refine lv_iload X.1 X.2.1 dX12_yearEnds_82 (lv_at hl 0 rfl) ?_
        exact lb_X12_yearEnds_84 X ih hK118 σ_18 x1 x2 x3 r_19 v_25 _ _ _ hw h (lv_sub hl [2, 3, 4, 5, 1] rfl)
      · have hw := hwf c_32
        refine j_sipush X dX12_yearEnds_66 (by decide) ?_
        refine lv_aload_n X.1 X.2.1 dX12_yearEnds_69 rfl (lv_at hl 2 rfl) ?_
        refine r_getR (ci := 12) X inw_12 h (hF.1 12 rfl).1 rfl rfl 4 (by decide) kw_1642 rfl ((hF.1 12 rfl).2 4) dX12_yearEnds_70 ?_
        refine lv_iload X.1 X.2.1 dX12_yearEnds_73 (lv_at hl 1 rfl) ?_
        refine j_iconst X dX12_yearEnds_75 ?_
        refine j_iadd X dX12_yearEnds_76 ?_
        obtain ⟨g_30, g_31, hw⟩ := hw
        refine r_iald (n := 1024) X h (hF.1 85 rfl).1 rfl (by decide) g_30 g_31 dX12_yearEnds_77 ?_
        refine j_isub X dX12_yearEnds_78 ?_
        refine lv_goto (tgt := 84) X.1 X.2.1 dX12_yearEnds_79 (by decide) ?_
        exact lb_X12_yearEnds_84 X ih hK118 σ_18 x1 x2 x3 r_19 (200 - (σ_18 85 0 (Int.toNat (r_19 + 1)))) _ _ _ hw h (lv_sub hl [2, 3, 4, 5, 1] rfl)
set_option maxRecDepth 100000 in
set_option maxHeartbeats 4000000 in
theorem lb_X12_yearEnds_10 (X : Cx p s m meth c args cX12_yearEnds 6 none RX12 D ct L φ N0) {K124 : St → Int → Prop} (hK124 : ∀ (σ : St) (x1 : Int) (H : Heap) (locs : List Loc) (ls : Array Slot), K124 σ x1 → Hs D ct ad L φ N0 s.heap σ H locs → lv_has ls 6 [(0, .ref (ad 12 0)), (1, .int (iv x1))] → W p l e ({ frames := 1, cells := 0, slots := 0, locals := 22 } : Room) s m args below meth c H locs 0 0 (MQ below (Qv D ct ad L φ N0 Q) args s 0 0 (AA N0)) (F0 m 124 ls [])) : ∀ (n : Nat) (σ : St) (x1 : Int) (x2 : Int) (H : Heap) (locs : List Loc) (ls : Array Slot), wp_X12_yearEnds_10 K124 Q n σ x1 x2 → Hs D ct ad L φ N0 s.heap σ H locs → lv_has ls 6 [(0, .ref (ad 12 0)), (1, .int (iv x1)), (2, .int (iv x2))] → W p l e ({ frames := 1, cells := 0, slots := 0, locals := 22 } : Room) s m args below meth c H locs 0 0 (MQ below (Qv D ct ad L φ N0 Q) args s 0 0 (AA N0)) (F0 m 10 ls []) := by
  have hF := X.2.2.2.2.2.2.2.2.1
  intro n
  induction n with
  | zero => intro σ x1 x2 H locs ls hw; exact hw.elim
  | succ n ih =>
    intro σ x1 x2 H locs ls hw h hl
    unfold wp_X12_yearEnds_10 at hw
    refine lv_iload_n X.1 X.2.1 dX12_yearEnds_10 rfl (lv_at hl 2 rfl) ?_
    refine j_iconst X dX12_yearEnds_11 ?_
    obtain ⟨g_34, hwt, hwf⟩ := hw
    refine j_cmp_ge (tgt := 124) X g_34 ⟨by decide, by decide⟩ dX12_yearEnds_12 (by decide) (fun c_35 => ?_) (fun c_35 => ?_)
    · have hw := hwt c_35
      exact hK124 σ x1 _ _ _ hw h (lv_sub hl [0, 1] rfl)
    · have hw := hwf c_35
      refine j_iconst X dX12_yearEnds_15 ?_
      refine lv_istore_n (lv' := [(3, .int (iv 2)), (0, .ref (ad 12 0)), (1, .int (iv x1)), (2, .int (iv x2))]) X.1 X.2.1 dX12_yearEnds_16 rfl hl (by decide) rfl (fun ls hl => ?_)
      exact hw.elim (fun n17 hw => lb_X12_yearEnds_17 X (lb_X12_yearEnds_118 X ih hK124) n17 σ x1 x2 2 _ _ _ hw h (lv_sub hl [1, 2, 3, 0] rfl))
set_option maxRecDepth 100000 in
set_option maxHeartbeats 4000000 in
theorem lb_X12_yearEnds_2 (X : Cx p s m meth c args cX12_yearEnds 6 none RX12 D ct L φ N0) : ∀ (n : Nat) (σ : St) (x1 : Int) (H : Heap) (locs : List Loc) (ls : Array Slot), wp_X12_yearEnds_2 Q n σ x1 → Hs D ct ad L φ N0 s.heap σ H locs → lv_has ls 6 [(0, .ref (ad 12 0)), (1, .int (iv x1))] → W p l e ({ frames := 1, cells := 0, slots := 0, locals := 22 } : Room) s m args below meth c H locs 0 0 (MQ below (Qv D ct ad L φ N0 Q) args s 0 0 (AA N0)) (F0 m 2 ls []) := by
  have hF := X.2.2.2.2.2.2.2.2.1
  intro n
  induction n with
  | zero => intro σ x1 H locs ls hw; exact hw.elim
  | succ n ih =>
    intro σ x1 H locs ls hw h hl
    unfold wp_X12_yearEnds_2 at hw
    refine lv_iload_n X.1 X.2.1 dX12_yearEnds_2 rfl (lv_at hl 1 rfl) ?_
    refine j_bipush X dX12_yearEnds_3 (by decide) ?_
    obtain ⟨g_36, hwt, hwf⟩ := hw
    refine j_cmp_ge (tgt := 140) X g_36 ⟨by decide, by decide⟩ dX12_yearEnds_5 (by decide) (fun c_37 => ?_) (fun c_37 => ?_)
    · have hw := hwt c_37
      exact k_vr X h hw dX12_yearEnds_140
    · have hw := hwf c_37
      refine j_iconst X dX12_yearEnds_8 ?_
      refine lv_istore_n (lv' := [(2, .int (iv 0)), (0, .ref (ad 12 0)), (1, .int (iv x1))]) X.1 X.2.1 dX12_yearEnds_9 rfl hl (by decide) rfl (fun ls hl => ?_)
      exact hw.elim (fun n10 hw => lb_X12_yearEnds_10 X (lb_X12_yearEnds_124 X ih) n10 σ x1 0 _ _ _ hw h (lv_sub hl [1, 2, 0] rfl))
theorem pd_X12_yearEnds : yX12_yearEnds.cls ≠ "java/lang/invoke/MethodHandle" ∧ yX12_yearEnds.cls ≠ "java/lang/invoke/VarHandle" ∧ (parseMethodDescriptor yX12_yearEnds.desc).map (fun d => d.parameters.length) = some 0 := by decide +kernel
set_option maxRecDepth 100000 in
set_option maxHeartbeats 4000000 in
theorem c_X12_yearEnds (l : Launch) (D : va_G) (ct : Nat → ClassId) (ad : Nat → Nat → Nat) (L : List (Nat × Nat)) (φ : Nat → Nat → Nat → Bool) (N0 : Nat) (σ : St) (Q : St → Prop) (hw : wp_X12_yearEnds σ Q) : Met l yX12_yearEnds (.code yX12_yearEnds cX12_yearEnds 6 none :: gw) ({ frames := 1, cells := 0, slots := 0, locals := 22 } : Room) (Pm D ct ad L φ N0 σ [.ref (ad 12 0)]) (Qv D ct ad L φ N0 Q) 0 0 (AA N0) := by
  refine m_of (by decide) (fun p e s m below meth c X hnm h => ?_)
  have hF := X.2.2.2.2.2.2.2.2.1
  have hl := lv_entry ([.ref (ad 12 0)]) (n := 6) (Nat.le_of_ble_eq_true rfl)
  rw [lg_entry_eq]
  generalize (lg_sl ([.ref (ad 12 0)]) ++ List.replicate (6 - (lg_sl ([.ref (ad 12 0)])).length) Slot.unset).toArray = ls at hl ⊢
  have hl : lv_has ls 6 [(0, .ref (ad 12 0))] := hl
  have h : Hs D ct ad L φ N0 s.heap σ s.heap [] := h
  unfold wp_X12_yearEnds at hw
  refine j_iconst X dX12_yearEnds_0 ?_
  refine lv_istore_n (lv' := [(1, .int (iv 0)), (0, .ref (ad 12 0))]) X.1 X.2.1 dX12_yearEnds_1 rfl hl (by decide) rfl (fun ls hl => ?_)
  exact hw.elim (fun n2 hw => lb_X12_yearEnds_2 X n2 σ 0 _ _ _ hw h (lv_sub hl [1, 0] rfl))
end
section
variable {p : Program} {l : Launch} {e : Env} {s : State} {m : MethodId} {args : Array Value} {below : List Frame} {meth : Method} {c : Code} {D : va_G} {ct : Nat → ClassId} {ad : Nat → Nat → Nat} {L : List (Nat × Nat)} {φ : Nat → Nat → Nat → Bool} {N0 : Nat}
variable {Q : Int → St → Prop}
set_option maxRecDepth 100000 in
set_option maxHeartbeats 4000000 in
theorem lb_X12_day_119 (X : Cx p s m meth c args cX12_day 3 (some .int) RX12 D ct L φ N0) (σ : St) (x1 : Int) (H : Heap) (locs : List Loc) (ls : Array Slot) (hw : wp_X12_day_119 Q σ x1) (h : Hs D ct ad L φ N0 s.heap σ H locs) (hl : lv_has ls 3 [(0, .ref (ad 12 0)), (1, .int (iv x1))]) : W p l e ({ frames := 6, cells := 0, slots := 0, locals := 131 } : Room) s m args below meth c H locs 0 0 (MQ below (Qi D ct ad L φ N0 Q) args s 0 0 (AA N0)) (F0 m 119 ls []) := by
  have hF := X.2.2.2.2.2.2.2.2.1
  unfold wp_X12_day_119 at hw
  refine lv_aload_n X.1 X.2.1 dX12_day_119 rfl (lv_at hl 0 rfl) ?_
  refine lv_dup X.1 X.2.1 dX12_day_120 rfl ?_
  refine r_get (ci := 12) X inw_12 h (hF.1 12 rfl).1 rfl rfl 1 (by decide) kw_1639 rfl dX12_day_121 ?_
  refine j_iconst X dX12_day_124 ?_
  refine j_iadd X dX12_day_125 ?_
  refine r_put (ci := 12) X inw_12 tyX12 tyX12_ok nmX12 h (hF.1 12 rfl).1 rfl rfl 1 (by decide) kw_1639 rfl rfl rfl (Nat.le_of_ble_eq_true rfl) rfl rfl dX12_day_126 (fun H locs h => ?_)
  obtain ⟨σ_1, eσ_1⟩ : ∃ z : St, z = st σ 12 0 1 ((σ 12 0 1) + 1) := ⟨_, rfl⟩
  rw [← eσ_1] at h
  have hw := hw σ_1 eσ_1
  refine lv_iload_n X.1 X.2.1 dX12_day_129 rfl (lv_at hl 1 rfl) ?_
  exact k_ir X rfl h hw dX12_day_130
set_option maxRecDepth 100000 in
set_option maxHeartbeats 4000000 in
theorem lb_X12_day_103 (X : Cx p s m meth c args cX12_day 3 (some .int) RX12 D ct L φ N0) (σ : St) (x1 : Int) (H : Heap) (locs : List Loc) (ls : Array Slot) (hw : wp_X12_day_103 Q σ x1) (h : Hs D ct ad L φ N0 s.heap σ H locs) (hl : lv_has ls 3 [(0, .ref (ad 12 0)), (1, .int (iv x1))]) : W p l e ({ frames := 6, cells := 0, slots := 0, locals := 131 } : Room) s m args below meth c H locs 0 0 (MQ below (Qi D ct ad L φ N0 Q) args s 0 0 (AA N0)) (F0 m 103 ls []) := by
  have hF := X.2.2.2.2.2.2.2.2.1
  unfold wp_X12_day_103 at hw
  refine lv_aload_n X.1 X.2.1 dX12_day_103 rfl (lv_at hl 0 rfl) ?_
  refine r_get (ci := 12) X inw_12 h (hF.1 12 rfl).1 rfl rfl 1 (by decide) kw_1639 rfl dX12_day_104 ?_
  refine j_bipush X dX12_day_107 (by decide) ?_
  obtain ⟨g_2, hw⟩ := hw
  refine j_irem X g_2 ⟨by decide, by decide⟩ (by decide) (by decide) dX12_day_109 ?_
  refine j_bipush X dX12_day_110 (by decide) ?_
  obtain ⟨g_3, hwt, hwf⟩ := hw
  refine j_cmp_ne (tgt := 119) X g_3 ⟨by decide, by decide⟩ dX12_day_112 (by decide) (fun c_5 => ?_) (fun c_5 => ?_)
  · have hw := hwt c_5
    exact lb_X12_day_119 X σ x1 _ _ _ hw h (lv_sub hl [0, 1] rfl)
  · have hw := hwf c_5
    refine lv_aload_n X.1 X.2.1 dX12_day_115 rfl (lv_at hl 0 rfl) ?_
    refine k_v h (r_V (C := RX12) (ci := 12) (As := []) (rest := []) X h (c_X12_yearEnds l D ct ad L φ N0 σ _ hw) rfl rfl ⟨Nat.le_of_ble_eq_true rfl, Nat.le_of_ble_eq_true rfl⟩ kw_2250 kw_2252 kw_98 kw_129 kw_2253 ⟨rfl, pd_X12_yearEnds⟩ (hF.1 12 rfl).1 rfl rfl rfl hl.1 rfl (Nat.le_of_ble_eq_true rfl) ⟨Nat.le_of_ble_eq_true rfl, Nat.le_of_ble_eq_true rfl⟩ dX12_day_116) (fun σ_4 H locs hw h => ?_)
    exact lb_X12_day_119 X σ_4 x1 _ _ _ hw h (lv_sub hl [0, 1] rfl)
set_option maxRecDepth 100000 in
set_option maxHeartbeats 4000000 in
theorem lb_X12_day_87 (X : Cx p s m meth c args cX12_day 3 (some .int) RX12 D ct L φ N0) (σ : St) (x1 : Int) (H : Heap) (locs : List Loc) (ls : Array Slot) (hw : wp_X12_day_87 Q σ x1) (h : Hs D ct ad L φ N0 s.heap σ H locs) (hl : lv_has ls 3 [(0, .ref (ad 12 0)), (1, .int (iv x1))]) : W p l e ({ frames := 6, cells := 0, slots := 0, locals := 131 } : Room) s m args below meth c H locs 0 0 (MQ below (Qi D ct ad L φ N0 Q) args s 0 0 (AA N0)) (F0 m 87 ls []) := by
  have hF := X.2.2.2.2.2.2.2.2.1
  unfold wp_X12_day_87 at hw
  refine lv_aload_n X.1 X.2.1 dX12_day_87 rfl (lv_at hl 0 rfl) ?_
  refine r_get (ci := 12) X inw_12 h (hF.1 12 rfl).1 rfl rfl 1 (by decide) kw_1639 rfl dX12_day_88 ?_
  refine j_bipush X dX12_day_91 (by decide) ?_
  obtain ⟨g_6, hw⟩ := hw
  refine j_irem X g_6 ⟨by decide, by decide⟩ (by decide) (by decide) dX12_day_93 ?_
  refine j_bipush X dX12_day_94 (by decide) ?_
  obtain ⟨g_7, hwt, hwf⟩ := hw
  refine j_cmp_ne (tgt := 103) X g_7 ⟨by decide, by decide⟩ dX12_day_96 (by decide) (fun c_9 => ?_) (fun c_9 => ?_)
  · have hw := hwt c_9
    exact lb_X12_day_103 X σ x1 _ _ _ hw h (lv_sub hl [0, 1] rfl)
  · have hw := hwf c_9
    refine lv_aload_n X.1 X.2.1 dX12_day_99 rfl (lv_at hl 0 rfl) ?_
    refine k_v h (r_V (C := RX12) (ci := 12) (As := []) (rest := []) X h (c_X12_monthEnds l D ct ad L φ N0 σ _ hw) rfl rfl ⟨Nat.le_of_ble_eq_true rfl, Nat.le_of_ble_eq_true rfl⟩ kw_2246 kw_2248 kw_97 kw_129 kw_2249 ⟨rfl, pd_X12_monthEnds⟩ (hF.1 12 rfl).1 rfl rfl rfl hl.1 rfl (Nat.le_of_ble_eq_true rfl) ⟨Nat.le_of_ble_eq_true rfl, Nat.le_of_ble_eq_true rfl⟩ dX12_day_100) (fun σ_8 H locs hw h => ?_)
    exact lb_X12_day_103 X σ_8 x1 _ _ _ hw h (lv_sub hl [0, 1] rfl)
set_option maxRecDepth 100000 in
set_option maxHeartbeats 4000000 in
theorem lb_X12_day_81 (X : Cx p s m meth c args cX12_day 3 (some .int) RX12 D ct L φ N0) {K45 : St → Int → Int → Prop} {K87 : St → Int → Prop} (hK45 : ∀ (σ : St) (x1 : Int) (x2 : Int) (H : Heap) (locs : List Loc) (ls : Array Slot), K45 σ x1 x2 → Hs D ct ad L φ N0 s.heap σ H locs → lv_has ls 3 [(0, .ref (ad 12 0)), (1, .int (iv x1)), (2, .int (iv x2))] → W p l e ({ frames := 6, cells := 0, slots := 0, locals := 131 } : Room) s m args below meth c H locs 0 0 (MQ below (Qi D ct ad L φ N0 Q) args s 0 0 (AA N0)) (F0 m 45 ls [])) (hK87 : ∀ (σ : St) (x1 : Int) (H : Heap) (locs : List Loc) (ls : Array Slot), K87 σ x1 → Hs D ct ad L φ N0 s.heap σ H locs → lv_has ls 3 [(0, .ref (ad 12 0)), (1, .int (iv x1))] → W p l e ({ frames := 6, cells := 0, slots := 0, locals := 131 } : Room) s m args below meth c H locs 0 0 (MQ below (Qi D ct ad L φ N0 Q) args s 0 0 (AA N0)) (F0 m 87 ls [])) (σ : St) (x1 : Int) (x2 : Int) (H : Heap) (locs : List Loc) (ls : Array Slot) (hw : wp_X12_day_81 K45 K87 Q σ x1 x2) (h : Hs D ct ad L φ N0 s.heap σ H locs) (hl : lv_has ls 3 [(0, .ref (ad 12 0)), (1, .int (iv x1)), (2, .int (iv x2))]) : W p l e ({ frames := 6, cells := 0, slots := 0, locals := 131 } : Room) s m args below meth c H locs 0 0 (MQ below (Qi D ct ad L φ N0 Q) args s 0 0 (AA N0)) (F0 m 81 ls []) := by
  have hF := X.2.2.2.2.2.2.2.2.1
  unfold wp_X12_day_81 at hw
  refine j_iinc (kk9 := 2) (lv' := [(2, .int (iv (x2 + 1))), (0, .ref (ad 12 0)), (1, .int (iv x1))]) X dX12_day_81 hl rfl (by decide) rfl (fun ls hl => ?_)
  refine lv_goto (tgt := 45) X.1 X.2.1 dX12_day_84 (by decide) ?_
  exact hK45 σ x1 (x2 + 1) _ _ _ hw h (lv_sub hl [1, 2, 0] rfl)
set_option maxRecDepth 100000 in
set_option maxHeartbeats 4000000 in
theorem lb_X12_day_45 (X : Cx p s m meth c args cX12_day 3 (some .int) RX12 D ct L φ N0) {K87 : St → Int → Prop} (hK87 : ∀ (σ : St) (x1 : Int) (H : Heap) (locs : List Loc) (ls : Array Slot), K87 σ x1 → Hs D ct ad L φ N0 s.heap σ H locs → lv_has ls 3 [(0, .ref (ad 12 0)), (1, .int (iv x1))] → W p l e ({ frames := 6, cells := 0, slots := 0, locals := 131 } : Room) s m args below meth c H locs 0 0 (MQ below (Qi D ct ad L φ N0 Q) args s 0 0 (AA N0)) (F0 m 87 ls [])) : ∀ (n : Nat) (σ : St) (x1 : Int) (x2 : Int) (H : Heap) (locs : List Loc) (ls : Array Slot), wp_X12_day_45 K87 Q n σ x1 x2 → Hs D ct ad L φ N0 s.heap σ H locs → lv_has ls 3 [(0, .ref (ad 12 0)), (1, .int (iv x1)), (2, .int (iv x2))] → W p l e ({ frames := 6, cells := 0, slots := 0, locals := 131 } : Room) s m args below meth c H locs 0 0 (MQ below (Qi D ct ad L φ N0 Q) args s 0 0 (AA N0)) (F0 m 45 ls []) := by
  have hF := X.2.2.2.2.2.2.2.2.1
  intro n
  induction n with
  | zero => intro σ x1 x2 H locs ls hw; exact hw.elim
  | succ n ih =>
    intro σ x1 x2 H locs ls hw h hl
    unfold wp_X12_day_45 at hw
    refine lv_iload_n X.1 X.2.1 dX12_day_45 rfl (lv_at hl 2 rfl) ?_
    refine lv_aload_n X.1 X.2.1 dX12_day_46 rfl (lv_at hl 0 rfl) ?_
    refine r_get (ci := 12) X inw_12 h (hF.1 12 rfl).1 rfl rfl 17 (by decide) kw_1655 rfl dX12_day_47 ?_
    obtain ⟨g_10, g_11, hwt, hwf⟩ := hw
    refine j_cmp_ge (tgt := 87) X g_10 g_11 dX12_day_50 (by decide) (fun c_22 => ?_) (fun c_22 => ?_)
    · have hw := hwt c_22
      exact hK87 σ x1 _ _ _ hw h (lv_sub hl [0, 1] rfl)
    · have hw := hwf c_22
      refine lv_aload_n X.1 X.2.1 dX12_day_53 rfl (lv_at hl 0 rfl) ?_
      refine r_getR (ci := 12) X inw_12 h (hF.1 12 rfl).1 rfl rfl 25 (by decide) kw_1663 rfl ((hF.1 12 rfl).2 25) dX12_day_54 ?_
      refine lv_iload_n X.1 X.2.1 dX12_day_57 rfl (lv_at hl 2 rfl) ?_
      obtain ⟨g_12, g_13, hw⟩ := hw
      refine r_iald (n := 300) X h (hF.1 102 rfl).1 rfl (by decide) g_12 g_13 dX12_day_58 ?_
      obtain ⟨g_14, hwt, hwf⟩ := hw
      refine j_if_ne (tgt := 81) X g_14 dX12_day_59 (by decide) (fun c_21 => ?_) (fun c_21 => ?_)
      · have hw := hwt c_21
        exact lb_X12_day_81 X ih hK87 σ x1 x2 _ _ _ hw h (lv_sub hl [0, 1, 2] rfl)
      · have hw := hwf c_21
        refine lv_aload_n X.1 X.2.1 dX12_day_62 rfl (lv_at hl 0 rfl) ?_
        refine r_getR (ci := 12) X inw_12 h (hF.1 12 rfl).1 rfl rfl 18 (by decide) kw_1656 rfl ((hF.1 12 rfl).2 18) dX12_day_63 ?_
        refine lv_iload_n X.1 X.2.1 dX12_day_66 rfl (lv_at hl 2 rfl) ?_
        obtain ⟨g_15, g_16, hw⟩ := hw
        refine r_iald (n := 300) X h (hF.1 95 rfl).1 rfl (by decide) g_15 g_16 dX12_day_67 ?_
        refine lv_aload_n X.1 X.2.1 dX12_day_68 rfl (lv_at hl 0 rfl) ?_
        refine r_get (ci := 12) X inw_12 h (hF.1 12 rfl).1 rfl rfl 7 (by decide) kw_1645 rfl dX12_day_69 ?_
        obtain ⟨g_17, g_18, hwt, hwf⟩ := hw
        refine j_cmp_ne (tgt := 81) X g_17 g_18 dX12_day_72 (by decide) (fun c_20 => ?_) (fun c_20 => ?_)
        · have hw := hwt c_20
          exact lb_X12_day_81 X ih hK87 σ x1 x2 _ _ _ hw h (lv_sub hl [0, 1, 2] rfl)
        · have hw := hwf c_20
          refine lv_aload_n X.1 X.2.1 dX12_day_75 rfl (lv_at hl 0 rfl) ?_
          refine lv_iload_n X.1 X.2.1 dX12_day_76 rfl (lv_at hl 2 rfl) ?_
          refine j_iconst X dX12_day_77 ?_
          refine k_v h (r_V (C := RX12) (ci := 12) (As := [.int (iv x2), .int (iv 1)]) (rest := []) X h (c_X12_becomes l D ct ad L φ N0 σ x2 1 _ hw) rfl rfl ⟨Nat.le_of_ble_eq_true rfl, Nat.le_of_ble_eq_true rfl⟩ kw_2242 kw_2244 kw_96 kw_129 kw_2245 ⟨rfl, pd_X12_becomes⟩ (hF.1 12 rfl).1 rfl rfl rfl hl.1 rfl (Nat.le_of_ble_eq_true rfl) ⟨Nat.le_of_ble_eq_true rfl, Nat.le_of_ble_eq_true rfl⟩ dX12_day_78) (fun σ_19 H locs hw h => ?_)
          exact lb_X12_day_81 X ih hK87 σ_19 x1 x2 _ _ _ hw h (lv_sub hl [0, 1, 2] rfl)
set_option maxRecDepth 100000 in
set_option maxHeartbeats 4000000 in
theorem lb_X12_day_43 (X : Cx p s m meth c args cX12_day 3 (some .int) RX12 D ct L φ N0) (σ : St) (x1 : Int) (H : Heap) (locs : List Loc) (ls : Array Slot) (hw : wp_X12_day_43 Q σ x1) (h : Hs D ct ad L φ N0 s.heap σ H locs) (hl : lv_has ls 3 [(0, .ref (ad 12 0)), (1, .int (iv x1))]) : W p l e ({ frames := 6, cells := 0, slots := 0, locals := 131 } : Room) s m args below meth c H locs 0 0 (MQ below (Qi D ct ad L φ N0 Q) args s 0 0 (AA N0)) (F0 m 43 ls []) := by
  have hF := X.2.2.2.2.2.2.2.2.1
  unfold wp_X12_day_43 at hw
  refine j_iconst X dX12_day_43 ?_
  refine lv_istore_n (lv' := [(2, .int (iv 0)), (0, .ref (ad 12 0)), (1, .int (iv x1))]) X.1 X.2.1 dX12_day_44 rfl hl (by decide) rfl (fun ls hl => ?_)
  exact hw.elim (fun n45 hw => lb_X12_day_45 X (lb_X12_day_87 X) n45 σ x1 0 _ _ _ hw h (lv_sub hl [1, 2, 0] rfl))
set_option maxRecDepth 100000 in
set_option maxHeartbeats 4000000 in
theorem lb_X12_day_21 (X : Cx p s m meth c args cX12_day 3 (some .int) RX12 D ct L φ N0) {K43 : St → Int → Prop} (hK43 : ∀ (σ : St) (x1 : Int) (H : Heap) (locs : List Loc) (ls : Array Slot), K43 σ x1 → Hs D ct ad L φ N0 s.heap σ H locs → lv_has ls 3 [(0, .ref (ad 12 0)), (1, .int (iv x1))] → W p l e ({ frames := 6, cells := 0, slots := 0, locals := 131 } : Room) s m args below meth c H locs 0 0 (MQ below (Qi D ct ad L φ N0 Q) args s 0 0 (AA N0)) (F0 m 43 ls [])) : ∀ (n : Nat) (σ : St) (x1 : Int) (x2 : Int) (H : Heap) (locs : List Loc) (ls : Array Slot), wp_X12_day_21 K43 Q n σ x1 x2 → Hs D ct ad L φ N0 s.heap σ H locs → lv_has ls 3 [(0, .ref (ad 12 0)), (1, .int (iv x1)), (2, .int (iv x2))] → W p l e ({ frames := 6, cells := 0, slots := 0, locals := 131 } : Room) s m args below meth c H locs 0 0 (MQ below (Qi D ct ad L φ N0 Q) args s 0 0 (AA N0)) (F0 m 21 ls []) := by
  have hF := X.2.2.2.2.2.2.2.2.1
  intro n
  induction n with
  | zero => intro σ x1 x2 H locs ls hw; exact hw.elim
  | succ n ih =>
    intro σ x1 x2 H locs ls hw h hl
    unfold wp_X12_day_21 at hw
    refine lv_iload_n X.1 X.2.1 dX12_day_21 rfl (lv_at hl 2 rfl) ?_
    refine lv_aload_n X.1 X.2.1 dX12_day_22 rfl (lv_at hl 0 rfl) ?_
    refine r_get (ci := 12) X inw_12 h (hF.1 12 rfl).1 rfl rfl 53 (by decide) kw_1691 rfl dX12_day_23 ?_
    obtain ⟨g_23, g_24, hwt, hwf⟩ := hw
    refine j_cmp_ge (tgt := 43) X g_23 g_24 dX12_day_26 (by decide) (fun c_28 => ?_) (fun c_28 => ?_)
    · have hw := hwt c_28
      exact hK43 σ x1 _ _ _ hw h (lv_sub hl [0, 1] rfl)
    · have hw := hwf c_28
      refine lv_iload_n X.1 X.2.1 dX12_day_29 rfl (lv_at hl 1 rfl) ?_
      refine lv_aload_n X.1 X.2.1 dX12_day_30 rfl (lv_at hl 0 rfl) ?_
      refine lv_iload_n X.1 X.2.1 dX12_day_31 rfl (lv_at hl 2 rfl) ?_
      refine k_i h (r_V (C := RX12) (ci := 12) (As := [.int (iv x2)]) (rest := [.int (iv x1)]) X h (c_X12_carries l D ct ad L φ N0 σ x2 _ hw) rfl rfl ⟨Nat.le_of_ble_eq_true rfl, Nat.le_of_ble_eq_true rfl⟩ kw_2238 kw_2240 kw_95 kw_129 kw_2241 ⟨rfl, pd_X12_carries⟩ (hF.1 12 rfl).1 rfl rfl rfl hl.1 rfl (Nat.le_of_ble_eq_true rfl) ⟨Nat.le_of_ble_eq_true rfl, Nat.le_of_ble_eq_true rfl⟩ dX12_day_32) (fun r_26 σ_25 H locs hw h => ?_)
      refine j_iadd X dX12_day_35 ?_
      refine j_bind (fun v_27 ev_27 => ?_)
      have hw := hw v_27 ev_27
      refine lv_istore_n (lv' := [(1, .int (iv v_27)), (0, .ref (ad 12 0)), (2, .int (iv x2))]) X.1 X.2.1 dX12_day_36 rfl hl (by decide) rfl (fun ls hl => ?_)
      refine j_iinc (kk9 := 2) (lv' := [(2, .int (iv (x2 + 1))), (1, .int (iv v_27)), (0, .ref (ad 12 0))]) X dX12_day_37 hl rfl (by decide) rfl (fun ls hl => ?_)
      refine lv_goto (tgt := 21) X.1 X.2.1 dX12_day_40 (by decide) ?_
      exact ih σ_25 v_27 (x2 + 1) _ _ _ hw h (lv_sub hl [2, 1, 0] rfl)
theorem pd_X12_day : yX12_day.cls ≠ "java/lang/invoke/MethodHandle" ∧ yX12_day.cls ≠ "java/lang/invoke/VarHandle" ∧ (parseMethodDescriptor yX12_day.desc).map (fun d => d.parameters.length) = some 0 := by decide +kernel
set_option maxRecDepth 100000 in
set_option maxHeartbeats 4000000 in
theorem c_X12_day (l : Launch) (D : va_G) (ct : Nat → ClassId) (ad : Nat → Nat → Nat) (L : List (Nat × Nat)) (φ : Nat → Nat → Nat → Bool) (N0 : Nat) (σ : St) (Q : Int → St → Prop) (hw : wp_X12_day σ Q) : Met l yX12_day (.code yX12_day cX12_day 3 (some .int) :: gw) ({ frames := 6, cells := 0, slots := 0, locals := 131 } : Room) (Pm D ct ad L φ N0 σ [.ref (ad 12 0)]) (Qi D ct ad L φ N0 Q) 0 0 (AA N0) := by
  refine m_of (by decide) (fun p e s m below meth c X hnm h => ?_)
  have hF := X.2.2.2.2.2.2.2.2.1
  have hl := lv_entry ([.ref (ad 12 0)]) (n := 3) (Nat.le_of_ble_eq_true rfl)
  rw [lg_entry_eq]
  generalize (lg_sl ([.ref (ad 12 0)]) ++ List.replicate (3 - (lg_sl ([.ref (ad 12 0)])).length) Slot.unset).toArray = ls at hl ⊢
  have hl : lv_has ls 3 [(0, .ref (ad 12 0))] := hl
  have h : Hs D ct ad L φ N0 s.heap σ s.heap [] := h
  unfold wp_X12_day at hw
  refine lv_aload_n X.1 X.2.1 dX12_day_0 rfl (lv_at hl 0 rfl) ?_
  refine j_iconst X dX12_day_1 ?_
  refine r_put (ci := 12) X inw_12 tyX12 tyX12_ok nmX12 h (hF.1 12 rfl).1 rfl rfl 0 (by decide) kw_1638 rfl rfl rfl (Nat.le_of_ble_eq_true rfl) rfl rfl dX12_day_2 (fun H locs h => ?_)
  obtain ⟨σ_29, eσ_29⟩ : ∃ z : St, z = st σ 12 0 0 0 := ⟨_, rfl⟩
  rw [← eσ_29] at h
  have hw := hw σ_29 eσ_29
  refine lv_aload_n X.1 X.2.1 dX12_day_5 rfl (lv_at hl 0 rfl) ?_
  refine r_get (ci := 12) X inw_12 h (hF.1 12 rfl).1 rfl rfl 1 (by decide) kw_1639 rfl dX12_day_6 ?_
  refine j_sipush X dX12_day_9 (by decide) ?_
  obtain ⟨g_30, hwt, hwf⟩ := hw
  refine j_cmp_ne (tgt := 17) X g_30 ⟨by decide, by decide⟩ dX12_day_12 (by decide) (fun c_31 => ?_) (fun c_31 => ?_)
  · have hw := hwt c_31
    refine j_iconst X dX12_day_17 ?_
    refine lv_istore_n (lv' := [(1, .int (iv 0)), (0, .ref (ad 12 0))]) X.1 X.2.1 dX12_day_18 rfl hl (by decide) rfl (fun ls hl => ?_)
    refine j_iconst X dX12_day_19 ?_
    refine lv_istore_n (lv' := [(2, .int (iv 0)), (1, .int (iv 0)), (0, .ref (ad 12 0))]) X.1 X.2.1 dX12_day_20 rfl hl (by decide) rfl (fun ls hl => ?_)
    exact hw.elim (fun n21 hw => lb_X12_day_21 X (lb_X12_day_43 X) n21 σ_29 0 0 _ _ _ hw h (lv_sub hl [2, 1, 0] rfl))
  · have hw := hwf c_31
    refine j_iconst X dX12_day_15 ?_
    exact k_ir X rfl h hw dX12_day_16
end
section
variable {p : Program} {l : Launch} {e : Env} {s : State} {m : MethodId} {args : Array Value} {below : List Frame} {meth : Method} {c : Code} {D : va_G} {ct : Nat → ClassId} {ad : Nat → Nat → Nat} {L : List (Nat × Nat)} {φ : Nat → Nat → Nat → Bool} {N0 : Nat}
variable {Q : Int → St → Prop}
theorem pd_X12_crew : yX12_crew.cls ≠ "java/lang/invoke/MethodHandle" ∧ yX12_crew.cls ≠ "java/lang/invoke/VarHandle" ∧ (parseMethodDescriptor yX12_crew.desc).map (fun d => d.parameters.length) = some 1 := by decide +kernel
set_option maxRecDepth 100000 in
set_option maxHeartbeats 4000000 in
theorem c_X12_crew (l : Launch) (D : va_G) (ct : Nat → ClassId) (ad : Nat → Nat → Nat) (L : List (Nat × Nat)) (φ : Nat → Nat → Nat → Bool) (N0 : Nat) (σ : St) (x1 : Int) (Q : Int → St → Prop) (hw : wp_X12_crew σ x1 Q) : Met l yX12_crew (.code yX12_crew cX12_crew 2 (some .int) :: gw) ({ frames := 1, cells := 0, slots := 0, locals := 22 } : Room) (Pm D ct ad L φ N0 σ [.ref (ad 12 0), .int (iv x1)]) (Qi D ct ad L φ N0 Q) 0 0 (AA N0) := by
  refine m_of (by decide) (fun p e s m below meth c X hnm h => ?_)
  have hF := X.2.2.2.2.2.2.2.2.1
  have hl := lv_entry ([.ref (ad 12 0), .int (iv x1)]) (n := 2) (Nat.le_of_ble_eq_true rfl)
  rw [lg_entry_eq]
  generalize (lg_sl ([.ref (ad 12 0), .int (iv x1)]) ++ List.replicate (2 - (lg_sl ([.ref (ad 12 0), .int (iv x1)])).length) Slot.unset).toArray = ls at hl ⊢
  have hl : lv_has ls 2 [(0, .ref (ad 12 0)), (1, .int (iv x1))] := hl
  have h : Hs D ct ad L φ N0 s.heap σ s.heap [] := h
  unfold wp_X12_crew at hw
  refine lv_aload_n X.1 X.2.1 dX12_crew_0 rfl (lv_at hl 0 rfl) ?_
  refine j_iconst X dX12_crew_1 ?_
  refine r_put (ci := 12) X inw_12 tyX12 tyX12_ok nmX12 h (hF.1 12 rfl).1 rfl rfl 0 (by decide) kw_1638 rfl rfl rfl (Nat.le_of_ble_eq_true rfl) rfl rfl dX12_crew_2 (fun H locs h => ?_)
  obtain ⟨σ_1, eσ_1⟩ : ∃ z : St, z = st σ 12 0 0 0 := ⟨_, rfl⟩
  rw [← eσ_1] at h
  have hw := hw σ_1 eσ_1
  refine lv_iload_n X.1 X.2.1 dX12_crew_5 rfl (lv_at hl 1 rfl) ?_
  refine j_iconst X dX12_crew_6 ?_
  refine j_bipush X dX12_crew_7 (by decide) ?_
  refine k_i h (r_S (As := [.int (iv x1), .int (iv 0), .int (iv 9)]) (rest := []) X h (c_X12_within l D ct ad L φ N0 σ_1 x1 0 9 _ hw) rfl rfl ⟨Nat.le_of_ble_eq_true rfl, Nat.le_of_ble_eq_true rfl⟩ kw_1959 kw_1960 kw_129 kw_1961 pd_X12_within rfl hl.1 rfl (Nat.le_of_ble_eq_true rfl) ⟨Nat.le_of_ble_eq_true rfl, Nat.le_of_ble_eq_true rfl⟩ dX12_crew_9) (fun r_3 σ_2 H locs hw h => ?_)
  obtain ⟨g_4, hwt, hwf⟩ := hw
  refine j_if_eq (tgt := 24) X g_4 dX12_crew_12 (by decide) (fun c_11 => ?_) (fun c_11 => ?_)
  · have hw := hwt c_11
    refine j_iconst X dX12_crew_24 ?_
    exact k_ir X rfl h hw dX12_crew_25
  · have hw := hwf c_11
    refine lv_aload_n X.1 X.2.1 dX12_crew_15 rfl (lv_at hl 0 rfl) ?_
    refine r_get (ci := 12) X inw_12 h (hF.1 12 rfl).1 rfl rfl 60 (by decide) kw_1698 rfl dX12_crew_16 ?_
    refine j_bipush X dX12_crew_19 (by decide) ?_
    obtain ⟨g_5, hwt, hwf⟩ := hw
    refine j_cmp_ne (tgt := 26) X g_5 ⟨by decide, by decide⟩ dX12_crew_21 (by decide) (fun c_10 => ?_) (fun c_10 => ?_)
    · have hw := hwt c_10
      refine lv_aload_n X.1 X.2.1 dX12_crew_26 rfl (lv_at hl 0 rfl) ?_
      refine r_getR (ci := 12) X inw_12 h (hF.1 12 rfl).1 rfl rfl 61 (by decide) kw_1699 rfl ((hF.1 12 rfl).2 61) dX12_crew_27 ?_
      refine lv_aload_n X.1 X.2.1 dX12_crew_30 rfl (lv_at hl 0 rfl) ?_
      refine r_get (ci := 12) X inw_12 h (hF.1 12 rfl).1 rfl rfl 60 (by decide) kw_1698 rfl dX12_crew_31 ?_
      refine lv_iload_n X.1 X.2.1 dX12_crew_34 rfl (lv_at hl 1 rfl) ?_
      obtain ⟨g_6, g_7, hw⟩ := hw
      refine r_iast (n := 20) X h (hF.1 125 rfl).1 (fun _ => rfl) (by decide) g_6 g_7 rfl dX12_crew_35 (fun H locs h => ?_)
      obtain ⟨σ_8, eσ_8⟩ : ∃ z : St, z = st σ_2 125 0 (Int.toNat (σ_2 12 0 60)) x1 := ⟨_, rfl⟩
      rw [← eσ_8] at h
      have hw := hw σ_8 eσ_8
      refine lv_aload_n X.1 X.2.1 dX12_crew_36 rfl (lv_at hl 0 rfl) ?_
      refine lv_dup X.1 X.2.1 dX12_crew_37 rfl ?_
      refine r_get (ci := 12) X inw_12 h (hF.1 12 rfl).1 rfl rfl 60 (by decide) kw_1698 rfl dX12_crew_38 ?_
      refine j_iconst X dX12_crew_41 ?_
      refine j_iadd X dX12_crew_42 ?_
      refine r_put (ci := 12) X inw_12 tyX12 tyX12_ok nmX12 h (hF.1 12 rfl).1 rfl rfl 60 (by decide) kw_1698 rfl rfl rfl (Nat.le_of_ble_eq_true rfl) rfl rfl dX12_crew_43 (fun H locs h => ?_)
      obtain ⟨σ_9, eσ_9⟩ : ∃ z : St, z = st σ_8 12 0 60 ((σ_8 12 0 60) + 1) := ⟨_, rfl⟩
      rw [← eσ_9] at h
      have hw := hw σ_9 eσ_9
      refine lv_aload_n X.1 X.2.1 dX12_crew_46 rfl (lv_at hl 0 rfl) ?_
      refine r_get (ci := 12) X inw_12 h (hF.1 12 rfl).1 rfl rfl 60 (by decide) kw_1698 rfl dX12_crew_47 ?_
      refine j_iconst X dX12_crew_50 ?_
      refine j_isub X dX12_crew_51 ?_
      exact k_ir X rfl h hw dX12_crew_52
    · have hw := hwf c_10
      refine j_iconst X dX12_crew_24 ?_
      exact k_ir X rfl h hw dX12_crew_25
end
section
variable {p : Program} {l : Launch} {e : Env} {s : State} {m : MethodId} {args : Array Value} {below : List Frame} {meth : Method} {c : Code} {D : va_G} {ct : Nat → ClassId} {ad : Nat → Nat → Nat} {L : List (Nat × Nat)} {φ : Nat → Nat → Nat → Bool} {N0 : Nat}
variable {Q : Int → St → Prop}
theorem pd_X12_shop : yX12_shop.cls ≠ "java/lang/invoke/MethodHandle" ∧ yX12_shop.cls ≠ "java/lang/invoke/VarHandle" ∧ (parseMethodDescriptor yX12_shop.desc).map (fun d => d.parameters.length) = some 2 := by decide +kernel
set_option maxRecDepth 100000 in
set_option maxHeartbeats 4000000 in
theorem c_X12_shop (l : Launch) (D : va_G) (ct : Nat → ClassId) (ad : Nat → Nat → Nat) (L : List (Nat × Nat)) (φ : Nat → Nat → Nat → Bool) (N0 : Nat) (σ : St) (x1 : Int) (x2 : Int) (Q : Int → St → Prop) (hw : wp_X12_shop σ x1 x2 Q) : Met l yX12_shop (.code yX12_shop cX12_shop 3 (some .int) :: gw) ({ frames := 4, cells := 0, slots := 0, locals := 86 } : Room) (Pm D ct ad L φ N0 σ [.ref (ad 12 0), .int (iv x1), .int (iv x2)]) (Qi D ct ad L φ N0 Q) 0 0 (AA N0) := by
  refine m_of (by decide) (fun p e s m below meth c X hnm h => ?_)
  have hF := X.2.2.2.2.2.2.2.2.1
  have hl := lv_entry ([.ref (ad 12 0), .int (iv x1), .int (iv x2)]) (n := 3) (Nat.le_of_ble_eq_true rfl)
  rw [lg_entry_eq]
  generalize (lg_sl ([.ref (ad 12 0), .int (iv x1), .int (iv x2)]) ++ List.replicate (3 - (lg_sl ([.ref (ad 12 0), .int (iv x1), .int (iv x2)])).length) Slot.unset).toArray = ls at hl ⊢
  have hl : lv_has ls 3 [(0, .ref (ad 12 0)), (1, .int (iv x1)), (2, .int (iv x2))] := hl
  have h : Hs D ct ad L φ N0 s.heap σ s.heap [] := h
  unfold wp_X12_shop at hw
  refine lv_aload_n X.1 X.2.1 dX12_shop_0 rfl (lv_at hl 0 rfl) ?_
  refine j_iconst X dX12_shop_1 ?_
  refine r_put (ci := 12) X inw_12 tyX12 tyX12_ok nmX12 h (hF.1 12 rfl).1 rfl rfl 0 (by decide) kw_1638 rfl rfl rfl (Nat.le_of_ble_eq_true rfl) rfl rfl dX12_shop_2 (fun H locs h => ?_)
  obtain ⟨σ_1, eσ_1⟩ : ∃ z : St, z = st σ 12 0 0 0 := ⟨_, rfl⟩
  rw [← eσ_1] at h
  have hw := hw σ_1 eσ_1
  refine lv_aload_n X.1 X.2.1 dX12_shop_5 rfl (lv_at hl 0 rfl) ?_
  refine lv_iload_n X.1 X.2.1 dX12_shop_6 rfl (lv_at hl 1 rfl) ?_
  refine k_i h (r_V (C := RX12) (ci := 12) (As := [.int (iv x1)]) (rest := []) X h (c_X12_isCrew l D ct ad L φ N0 σ_1 x1 _ hw) rfl rfl ⟨Nat.le_of_ble_eq_true rfl, Nat.le_of_ble_eq_true rfl⟩ kw_2138 kw_2140 kw_81 kw_129 kw_2141 ⟨rfl, pd_X12_isCrew⟩ (hF.1 12 rfl).1 rfl rfl rfl hl.1 rfl (Nat.le_of_ble_eq_true rfl) ⟨Nat.le_of_ble_eq_true rfl, Nat.le_of_ble_eq_true rfl⟩ dX12_shop_7) (fun r_3 σ_2 H locs hw h => ?_)
  obtain ⟨g_4, hwt, hwf⟩ := hw
  refine j_if_eq (tgt := 33) X g_4 dX12_shop_10 (by decide) (fun c_27 => ?_) (fun c_27 => ?_)
  · have hw := hwt c_27
    refine j_iconst X dX12_shop_33 ?_
    exact k_ir X rfl h hw dX12_shop_34
  · have hw := hwf c_27
    refine lv_aload_n X.1 X.2.1 dX12_shop_13 rfl (lv_at hl 0 rfl) ?_
    refine r_getR (ci := 12) X inw_12 h (hF.1 12 rfl).1 rfl rfl 65 (by decide) kw_1703 rfl ((hF.1 12 rfl).2 65) dX12_shop_14 ?_
    refine lv_iload_n X.1 X.2.1 dX12_shop_17 rfl (lv_at hl 1 rfl) ?_
    obtain ⟨g_5, g_6, hw⟩ := hw
    refine r_zald (n := 20) X h (hF.1 129 rfl).1 rfl (by decide) g_5 g_6 dX12_shop_18 ?_
    obtain ⟨g_7, hwt, hwf⟩ := hw
    refine j_if_ne (tgt := 33) X g_7 dX12_shop_19 (by decide) (fun c_26 => ?_) (fun c_26 => ?_)
    · have hw := hwt c_26
      refine j_iconst X dX12_shop_33 ?_
      exact k_ir X rfl h hw dX12_shop_34
    · have hw := hwf c_26
      refine lv_iload_n X.1 X.2.1 dX12_shop_22 rfl (lv_at hl 2 rfl) ?_
      refine j_iconst X dX12_shop_23 ?_
      refine j_sipush X dX12_shop_24 (by decide) ?_
      refine k_i h (r_S (As := [.int (iv x2), .int (iv 1), .int (iv 999)]) (rest := []) X h (c_X12_within l D ct ad L φ N0 σ_2 x2 1 999 _ hw) rfl rfl ⟨Nat.le_of_ble_eq_true rfl, Nat.le_of_ble_eq_true rfl⟩ kw_1959 kw_1960 kw_129 kw_1961 pd_X12_within rfl hl.1 rfl (Nat.le_of_ble_eq_true rfl) ⟨Nat.le_of_ble_eq_true rfl, Nat.le_of_ble_eq_true rfl⟩ dX12_shop_27) (fun r_9 σ_8 H locs hw h => ?_)
      obtain ⟨g_10, hwt, hwf⟩ := hw
      refine j_if_ne (tgt := 35) X g_10 dX12_shop_30 (by decide) (fun c_25 => ?_) (fun c_25 => ?_)
      · have hw := hwt c_25
        refine lv_aload_n X.1 X.2.1 dX12_shop_35 rfl (lv_at hl 0 rfl) ?_
        refine r_getR (ci := 12) X inw_12 h (hF.1 12 rfl).1 rfl rfl 63 (by decide) kw_1701 rfl ((hF.1 12 rfl).2 63) dX12_shop_36 ?_
        refine lv_iload_n X.1 X.2.1 dX12_shop_39 rfl (lv_at hl 1 rfl) ?_
        obtain ⟨g_11, g_12, hw⟩ := hw
        refine r_iald (n := 20) X h (hF.1 127 rfl).1 rfl (by decide) g_11 g_12 dX12_shop_40 ?_
        refine lv_iload_n X.1 X.2.1 dX12_shop_41 rfl (lv_at hl 2 rfl) ?_
        refine j_iadd X dX12_shop_42 ?_
        refine lv_aload_n X.1 X.2.1 dX12_shop_43 rfl (lv_at hl 0 rfl) ?_
        refine lv_iload_n X.1 X.2.1 dX12_shop_44 rfl (lv_at hl 1 rfl) ?_
        refine j_iconst X dX12_shop_45 ?_
        refine k_i h (r_V (C := RX12) (ci := 12) (As := [.int (iv x1), .int (iv 1)]) (rest := [.int (iv ((σ_8 127 0 (Int.toNat x1)) + x2))]) X h (c_X12_dueOf l D ct ad L φ N0 σ_8 x1 1 _ hw) rfl rfl ⟨Nat.le_of_ble_eq_true rfl, Nat.le_of_ble_eq_true rfl⟩ kw_2195 kw_2197 kw_91 kw_129 kw_2198 ⟨rfl, pd_X12_dueOf⟩ (hF.1 12 rfl).1 rfl rfl rfl hl.1 rfl (Nat.le_of_ble_eq_true rfl) ⟨Nat.le_of_ble_eq_true rfl, Nat.le_of_ble_eq_true rfl⟩ dX12_shop_46) (fun r_14 σ_13 H locs hw h => ?_)
        obtain ⟨g_15, g_16, hwt, hwf⟩ := hw
        refine j_cmp_le (tgt := 55) X g_15 g_16 dX12_shop_49 (by decide) (fun c_24 => ?_) (fun c_24 => ?_)
        · have hw := hwt c_24
          refine lv_aload_n X.1 X.2.1 dX12_shop_55 rfl (lv_at hl 0 rfl) ?_
          refine r_getR (ci := 12) X inw_12 h (hF.1 12 rfl).1 rfl rfl 63 (by decide) kw_1701 rfl ((hF.1 12 rfl).2 63) dX12_shop_56 ?_
          refine lv_iload_n X.1 X.2.1 dX12_shop_59 rfl (lv_at hl 1 rfl) ?_
          refine lv_dup2_11 X.1 X.2.1 dX12_shop_60 rfl rfl ?_
          obtain ⟨g_17, g_18, hw⟩ := hw
          refine r_iald (n := 20) X h (hF.1 127 rfl).1 rfl (by decide) g_17 g_18 dX12_shop_61 ?_
          refine lv_iload_n X.1 X.2.1 dX12_shop_62 rfl (lv_at hl 2 rfl) ?_
          refine j_iadd X dX12_shop_63 ?_
          obtain ⟨g_19, g_20, hw⟩ := hw
          refine r_iast (n := 20) X h (hF.1 127 rfl).1 (fun _ => rfl) (by decide) g_19 g_20 rfl dX12_shop_64 (fun H locs h => ?_)
          obtain ⟨σ_21, eσ_21⟩ : ∃ z : St, z = st σ_13 127 0 (Int.toNat x1) ((σ_13 127 0 (Int.toNat x1)) + x2) := ⟨_, rfl⟩
          rw [← eσ_21] at h
          have hw := hw σ_21 eσ_21
          refine lv_aload_n X.1 X.2.1 dX12_shop_65 rfl (lv_at hl 0 rfl) ?_
          refine r_getR (ci := 12) X inw_12 h (hF.1 12 rfl).1 rfl rfl 63 (by decide) kw_1701 rfl ((hF.1 12 rfl).2 63) dX12_shop_66 ?_
          refine lv_iload_n X.1 X.2.1 dX12_shop_69 rfl (lv_at hl 1 rfl) ?_
          obtain ⟨g_22, g_23, hw⟩ := hw
          refine r_iald (n := 20) X h (hF.1 127 rfl).1 rfl (by decide) g_22 g_23 dX12_shop_70 ?_
          exact k_ir X rfl h hw dX12_shop_71
        · have hw := hwf c_24
          refine j_bipush X dX12_shop_52 (by decide) ?_
          exact k_ir X rfl h hw dX12_shop_54
      · have hw := hwf c_25
        refine j_iconst X dX12_shop_33 ?_
        exact k_ir X rfl h hw dX12_shop_34
end
section
variable {p : Program} {l : Launch} {e : Env} {s : State} {m : MethodId} {args : Array Value} {below : List Frame} {meth : Method} {c : Code} {D : va_G} {ct : Nat → ClassId} {ad : Nat → Nat → Nat} {L : List (Nat × Nat)} {φ : Nat → Nat → Nat → Bool} {N0 : Nat}
variable {Q : Int → St → Prop}
set_option maxRecDepth 100000 in
set_option maxHeartbeats 4000000 in
theorem lb_X12_leave_86 (X : Cx p s m meth c args cX12_leave 3 (some .int) RX12 D ct L φ N0) (σ : St) (x2 : Int) (y0 : Int) (y1 : Int) (y2 : Int) (H : Heap) (locs : List Loc) (ls : Array Slot) (hw : wp_X12_leave_86 Q σ x2 y0 y1 y2) (h : Hs D ct ad L φ N0 s.heap σ H locs) (hl : lv_has ls 3 [(2, .int (iv x2))]) : W p l e ({ frames := 2, cells := 0, slots := 0, locals := 43 } : Room) s m args below meth c H locs 0 0 (MQ below (Qi D ct ad L φ N0 Q) args s 0 0 (AA N0)) (F0 m 86 ls [.int (iv y0), .int (iv y1), .int (iv y2), .ref (ad 128 0)]) := by
  have hF := X.2.2.2.2.2.2.2.2.1
  unfold wp_X12_leave_86 at hw
  refine j_iadd X dX12_leave_86 ?_
  obtain ⟨g_1, g_2, hw⟩ := hw
  refine r_iast (n := 20) X h (hF.1 128 rfl).1 (fun _ => rfl) (by decide) g_1 g_2 rfl dX12_leave_87 (fun H locs h => ?_)
  obtain ⟨σ_3, eσ_3⟩ : ∃ z : St, z = st σ 128 0 (Int.toNat y2) (y1 + y0) := ⟨_, rfl⟩
  rw [← eσ_3] at h
  have hw := hw σ_3 eσ_3
  refine lv_iload_n X.1 X.2.1 dX12_leave_88 rfl (lv_at hl 0 rfl) ?_
  exact k_ir X rfl h hw dX12_leave_89
set_option maxRecDepth 100000 in
set_option maxHeartbeats 4000000 in
theorem lb_X12_leave_69 (X : Cx p s m meth c args cX12_leave 3 (some .int) RX12 D ct L φ N0) (σ : St) (x1 : Int) (x2 : Int) (y0 : Int) (y1 : Int) (H : Heap) (locs : List Loc) (ls : Array Slot) (hw : wp_X12_leave_69 Q σ x1 x2 y0 y1) (h : Hs D ct ad L φ N0 s.heap σ H locs) (hl : lv_has ls 3 [(0, .ref (ad 12 0)), (1, .int (iv x1)), (2, .int (iv x2))]) : W p l e ({ frames := 2, cells := 0, slots := 0, locals := 43 } : Room) s m args below meth c H locs 0 0 (MQ below (Qi D ct ad L φ N0 Q) args s 0 0 (AA N0)) (F0 m 69 ls [.int (iv y0), .int (iv y1), .ref (ad 127 0)]) := by
  have hF := X.2.2.2.2.2.2.2.2.1
  unfold wp_X12_leave_69 at hw
  obtain ⟨g_4, g_5, hw⟩ := hw
  refine r_iast (n := 20) X h (hF.1 127 rfl).1 (fun _ => rfl) (by decide) g_4 g_5 rfl dX12_leave_69 (fun H locs h => ?_)
  obtain ⟨σ_6, eσ_6⟩ : ∃ z : St, z = st σ 127 0 (Int.toNat y1) y0 := ⟨_, rfl⟩
  rw [← eσ_6] at h
  have hw := hw σ_6 eσ_6
  refine lv_aload_n X.1 X.2.1 dX12_leave_70 rfl (lv_at hl 0 rfl) ?_
  refine r_getR (ci := 12) X inw_12 h (hF.1 12 rfl).1 rfl rfl 64 (by decide) kw_1702 rfl ((hF.1 12 rfl).2 64) dX12_leave_71 ?_
  refine lv_iload_n X.1 X.2.1 dX12_leave_74 rfl (lv_at hl 1 rfl) ?_
  refine lv_dup2_11 X.1 X.2.1 dX12_leave_75 rfl rfl ?_
  obtain ⟨g_7, g_8, hw⟩ := hw
  refine r_iald (n := 20) X h (hF.1 128 rfl).1 rfl (by decide) g_7 g_8 dX12_leave_76 ?_
  refine lv_iload_n X.1 X.2.1 dX12_leave_77 rfl (lv_at hl 2 rfl) ?_
  obtain ⟨g_9, hwt, hwf⟩ := hw
  refine j_if_le (tgt := 85) X g_9 dX12_leave_78 (by decide) (fun c_10 => ?_) (fun c_10 => ?_)
  · have hw := hwt c_10
    refine j_iconst X dX12_leave_85 ?_
    exact lb_X12_leave_86 X σ_6 x2 0 (σ_6 128 0 (Int.toNat x1)) x1 _ _ _ hw h (lv_sub hl [2] rfl)
  · have hw := hwf c_10
    refine lv_iload_n X.1 X.2.1 dX12_leave_81 rfl (lv_at hl 2 rfl) ?_
    refine lv_goto (tgt := 86) X.1 X.2.1 dX12_leave_82 (by decide) ?_
    exact lb_X12_leave_86 X σ_6 x2 x2 (σ_6 128 0 (Int.toNat x1)) x1 _ _ _ hw h (lv_sub hl [2] rfl)
set_option maxRecDepth 100000 in
set_option maxHeartbeats 4000000 in
theorem lb_X12_leave_22 (X : Cx p s m meth c args cX12_leave 3 (some .int) RX12 D ct L φ N0) (σ : St) (H : Heap) (locs : List Loc) (ls : Array Slot) (hw : wp_X12_leave_22 Q σ) (h : Hs D ct ad L φ N0 s.heap σ H locs) (hl : lv_has ls 3 []) : W p l e ({ frames := 2, cells := 0, slots := 0, locals := 43 } : Room) s m args below meth c H locs 0 0 (MQ below (Qi D ct ad L φ N0 Q) args s 0 0 (AA N0)) (F0 m 22 ls []) := by
  have hF := X.2.2.2.2.2.2.2.2.1
  unfold wp_X12_leave_22 at hw
  refine j_ldc_w (n := (-1000000)) X kw_2266 (by decide) dX12_leave_22 ?_
  exact k_ir X rfl h hw dX12_leave_25
theorem pd_X12_leave : yX12_leave.cls ≠ "java/lang/invoke/MethodHandle" ∧ yX12_leave.cls ≠ "java/lang/invoke/VarHandle" ∧ (parseMethodDescriptor yX12_leave.desc).map (fun d => d.parameters.length) = some 1 := by decide +kernel
set_option maxRecDepth 100000 in
set_option maxHeartbeats 4000000 in
theorem c_X12_leave (l : Launch) (D : va_G) (ct : Nat → ClassId) (ad : Nat → Nat → Nat) (L : List (Nat × Nat)) (φ : Nat → Nat → Nat → Bool) (N0 : Nat) (σ : St) (x1 : Int) (Q : Int → St → Prop) (hw : wp_X12_leave σ x1 Q) : Met l yX12_leave (.code yX12_leave cX12_leave 3 (some .int) :: gw) ({ frames := 2, cells := 0, slots := 0, locals := 43 } : Room) (Pm D ct ad L φ N0 σ [.ref (ad 12 0), .int (iv x1)]) (Qi D ct ad L φ N0 Q) 0 0 (AA N0) := by
  refine m_of (by decide) (fun p e s m below meth c X hnm h => ?_)
  have hF := X.2.2.2.2.2.2.2.2.1
  have hl := lv_entry ([.ref (ad 12 0), .int (iv x1)]) (n := 3) (Nat.le_of_ble_eq_true rfl)
  rw [lg_entry_eq]
  generalize (lg_sl ([.ref (ad 12 0), .int (iv x1)]) ++ List.replicate (3 - (lg_sl ([.ref (ad 12 0), .int (iv x1)])).length) Slot.unset).toArray = ls at hl ⊢
  have hl : lv_has ls 3 [(0, .ref (ad 12 0)), (1, .int (iv x1))] := hl
  have h : Hs D ct ad L φ N0 s.heap σ s.heap [] := h
  unfold wp_X12_leave at hw
  refine lv_aload_n X.1 X.2.1 dX12_leave_0 rfl (lv_at hl 0 rfl) ?_
  refine j_iconst X dX12_leave_1 ?_
  refine r_put (ci := 12) X inw_12 tyX12 tyX12_ok nmX12 h (hF.1 12 rfl).1 rfl rfl 0 (by decide) kw_1638 rfl rfl rfl (Nat.le_of_ble_eq_true rfl) rfl rfl dX12_leave_2 (fun H locs h => ?_)
  obtain ⟨σ_11, eσ_11⟩ : ∃ z : St, z = st σ 12 0 0 0 := ⟨_, rfl⟩
  rw [← eσ_11] at h
  have hw := hw σ_11 eσ_11
  refine lv_aload_n X.1 X.2.1 dX12_leave_5 rfl (lv_at hl 0 rfl) ?_
  refine lv_iload_n X.1 X.2.1 dX12_leave_6 rfl (lv_at hl 1 rfl) ?_
  refine k_i h (r_V (C := RX12) (ci := 12) (As := [.int (iv x1)]) (rest := []) X h (c_X12_isCrew l D ct ad L φ N0 σ_11 x1 _ hw) rfl rfl ⟨Nat.le_of_ble_eq_true rfl, Nat.le_of_ble_eq_true rfl⟩ kw_2138 kw_2140 kw_81 kw_129 kw_2141 ⟨rfl, pd_X12_isCrew⟩ (hF.1 12 rfl).1 rfl rfl rfl hl.1 rfl (Nat.le_of_ble_eq_true rfl) ⟨Nat.le_of_ble_eq_true rfl, Nat.le_of_ble_eq_true rfl⟩ dX12_leave_7) (fun r_13 σ_12 H locs hw h => ?_)
  obtain ⟨g_14, hwt, hwf⟩ := hw
  refine j_if_eq (tgt := 22) X g_14 dX12_leave_10 (by decide) (fun c_32 => ?_) (fun c_32 => ?_)
  · have hw := hwt c_32
    exact lb_X12_leave_22 X σ_12 _ _ _ hw h (lv_sub hl [] rfl)
  · have hw := hwf c_32
    refine lv_aload_n X.1 X.2.1 dX12_leave_13 rfl (lv_at hl 0 rfl) ?_
    refine r_getR (ci := 12) X inw_12 h (hF.1 12 rfl).1 rfl rfl 65 (by decide) kw_1703 rfl ((hF.1 12 rfl).2 65) dX12_leave_14 ?_
    refine lv_iload_n X.1 X.2.1 dX12_leave_17 rfl (lv_at hl 1 rfl) ?_
    obtain ⟨g_15, g_16, hw⟩ := hw
    refine r_zald (n := 20) X h (hF.1 129 rfl).1 rfl (by decide) g_15 g_16 dX12_leave_18 ?_
    obtain ⟨g_17, hwt, hwf⟩ := hw
    refine j_if_eq (tgt := 26) X g_17 dX12_leave_19 (by decide) (fun c_31 => ?_) (fun c_31 => ?_)
    · have hw := hwt c_31
      refine lv_aload_n X.1 X.2.1 dX12_leave_26 rfl (lv_at hl 0 rfl) ?_
      refine r_getR (ci := 12) X inw_12 h (hF.1 12 rfl).1 rfl rfl 62 (by decide) kw_1700 rfl ((hF.1 12 rfl).2 62) dX12_leave_27 ?_
      refine lv_iload_n X.1 X.2.1 dX12_leave_30 rfl (lv_at hl 1 rfl) ?_
      obtain ⟨g_18, g_19, hw⟩ := hw
      refine r_iald (n := 20) X h (hF.1 126 rfl).1 rfl (by decide) g_18 g_19 dX12_leave_31 ?_
      refine lv_aload_n X.1 X.2.1 dX12_leave_32 rfl (lv_at hl 0 rfl) ?_
      refine r_getR (ci := 12) X inw_12 h (hF.1 12 rfl).1 rfl rfl 63 (by decide) kw_1701 rfl ((hF.1 12 rfl).2 63) dX12_leave_33 ?_
      refine lv_iload_n X.1 X.2.1 dX12_leave_36 rfl (lv_at hl 1 rfl) ?_
      obtain ⟨g_20, g_21, hw⟩ := hw
      refine r_iald (n := 20) X h (hF.1 127 rfl).1 rfl (by decide) g_20 g_21 dX12_leave_37 ?_
      refine j_isub X dX12_leave_38 ?_
      refine j_bind (fun v_22 ev_22 => ?_)
      have hw := hw v_22 ev_22
      refine lv_istore_n (lv' := [(2, .int (iv v_22)), (0, .ref (ad 12 0)), (1, .int (iv x1))]) X.1 X.2.1 dX12_leave_39 rfl hl (by decide) rfl (fun ls hl => ?_)
      refine lv_aload_n X.1 X.2.1 dX12_leave_40 rfl (lv_at hl 1 rfl) ?_
      refine r_getR (ci := 12) X inw_12 h (hF.1 12 rfl).1 rfl rfl 65 (by decide) kw_1703 rfl ((hF.1 12 rfl).2 65) dX12_leave_41 ?_
      refine lv_iload_n X.1 X.2.1 dX12_leave_44 rfl (lv_at hl 2 rfl) ?_
      refine j_iconst X dX12_leave_45 ?_
      obtain ⟨g_23, g_24, hw⟩ := hw
      refine r_zast (n := 20) X h (hF.1 129 rfl).1 (fun _ => rfl) (by decide) g_23 g_24 rfl (by decide) dX12_leave_46 (fun H locs h => ?_)
      obtain ⟨σ_25, eσ_25⟩ : ∃ z : St, z = st σ_12 129 0 (Int.toNat x1) 1 := ⟨_, rfl⟩
      rw [← eσ_25] at h
      have hw := hw σ_25 eσ_25
      refine lv_aload_n X.1 X.2.1 dX12_leave_47 rfl (lv_at hl 1 rfl) ?_
      refine r_getR (ci := 12) X inw_12 h (hF.1 12 rfl).1 rfl rfl 62 (by decide) kw_1700 rfl ((hF.1 12 rfl).2 62) dX12_leave_48 ?_
      refine lv_iload_n X.1 X.2.1 dX12_leave_51 rfl (lv_at hl 2 rfl) ?_
      refine j_iconst X dX12_leave_52 ?_
      obtain ⟨g_26, g_27, hw⟩ := hw
      refine r_iast (n := 20) X h (hF.1 126 rfl).1 (fun _ => rfl) (by decide) g_26 g_27 rfl dX12_leave_53 (fun H locs h => ?_)
      obtain ⟨σ_28, eσ_28⟩ : ∃ z : St, z = st σ_25 126 0 (Int.toNat x1) 0 := ⟨_, rfl⟩
      rw [← eσ_28] at h
      have hw := hw σ_28 eσ_28
      refine lv_aload_n X.1 X.2.1 dX12_leave_54 rfl (lv_at hl 1 rfl) ?_
      refine r_getR (ci := 12) X inw_12 h (hF.1 12 rfl).1 rfl rfl 63 (by decide) kw_1701 rfl ((hF.1 12 rfl).2 63) dX12_leave_55 ?_
      refine lv_iload_n X.1 X.2.1 dX12_leave_58 rfl (lv_at hl 2 rfl) ?_
      refine lv_iload_n X.1 X.2.1 dX12_leave_59 rfl (lv_at hl 0 rfl) ?_
      obtain ⟨g_29, hwt, hwf⟩ := hw
      refine j_if_ge (tgt := 68) X g_29 dX12_leave_60 (by decide) (fun c_30 => ?_) (fun c_30 => ?_)
      · have hw := hwt c_30
        refine j_iconst X dX12_leave_68 ?_
        exact lb_X12_leave_69 X σ_28 x1 v_22 0 x1 _ _ _ hw h (lv_sub hl [1, 2, 0] rfl)
      · have hw := hwf c_30
        refine lv_iload_n X.1 X.2.1 dX12_leave_63 rfl (lv_at hl 0 rfl) ?_
        refine j_ineg X dX12_leave_64 ?_
        refine lv_goto (tgt := 69) X.1 X.2.1 dX12_leave_65 (by decide) ?_
        exact lb_X12_leave_69 X σ_28 x1 v_22 (-v_22) x1 _ _ _ hw h (lv_sub hl [1, 2, 0] rfl)
    · have hw := hwf c_31
      exact lb_X12_leave_22 X σ_12 _ _ _ hw h (lv_sub hl [] rfl)
end
section
variable {p : Program} {l : Launch} {e : Env} {s : State} {m : MethodId} {args : Array Value} {below : List Frame} {meth : Method} {c : Code} {D : va_G} {ct : Nat → ClassId} {ad : Nat → Nat → Nat} {L : List (Nat × Nat)} {φ : Nat → Nat → Nat → Bool} {N0 : Nat}
variable {Q : Int → St → Prop}
theorem pd_X12_lease : yX12_lease.cls ≠ "java/lang/invoke/MethodHandle" ∧ yX12_lease.cls ≠ "java/lang/invoke/VarHandle" ∧ (parseMethodDescriptor yX12_lease.desc).map (fun d => d.parameters.length) = some 1 := by decide +kernel
set_option maxRecDepth 100000 in
set_option maxHeartbeats 4000000 in
theorem c_X12_lease (l : Launch) (D : va_G) (ct : Nat → ClassId) (ad : Nat → Nat → Nat) (L : List (Nat × Nat)) (φ : Nat → Nat → Nat → Bool) (N0 : Nat) (σ : St) (x1 : Int) (Q : Int → St → Prop) (hw : wp_X12_lease σ x1 Q) : Met l yX12_lease (.code yX12_lease cX12_lease 2 (some .boolean) :: gw) ({ frames := 1, cells := 0, slots := 0, locals := 22 } : Room) (Pm D ct ad L φ N0 σ [.ref (ad 12 0), .int (iv x1)]) (Qi D ct ad L φ N0 Q) 0 0 (AA N0) := by
  refine m_of (by decide) (fun p e s m below meth c X hnm h => ?_)
  have hF := X.2.2.2.2.2.2.2.2.1
  have hl := lv_entry ([.ref (ad 12 0), .int (iv x1)]) (n := 2) (Nat.le_of_ble_eq_true rfl)
  rw [lg_entry_eq]
  generalize (lg_sl ([.ref (ad 12 0), .int (iv x1)]) ++ List.replicate (2 - (lg_sl ([.ref (ad 12 0), .int (iv x1)])).length) Slot.unset).toArray = ls at hl ⊢
  have hl : lv_has ls 2 [(0, .ref (ad 12 0)), (1, .int (iv x1))] := hl
  have h : Hs D ct ad L φ N0 s.heap σ s.heap [] := h
  unfold wp_X12_lease at hw
  refine lv_aload_n X.1 X.2.1 dX12_lease_0 rfl (lv_at hl 0 rfl) ?_
  refine j_iconst X dX12_lease_1 ?_
  refine r_put (ci := 12) X inw_12 tyX12 tyX12_ok nmX12 h (hF.1 12 rfl).1 rfl rfl 0 (by decide) kw_1638 rfl rfl rfl (Nat.le_of_ble_eq_true rfl) rfl rfl dX12_lease_2 (fun H locs h => ?_)
  obtain ⟨σ_1, eσ_1⟩ : ∃ z : St, z = st σ 12 0 0 0 := ⟨_, rfl⟩
  rw [← eσ_1] at h
  have hw := hw σ_1 eσ_1
  refine lv_iload_n X.1 X.2.1 dX12_lease_5 rfl (lv_at hl 1 rfl) ?_
  refine j_iconst X dX12_lease_6 ?_
  refine j_iconst X dX12_lease_7 ?_
  refine k_i h (r_S (As := [.int (iv x1), .int (iv 0), .int (iv 1)]) (rest := []) X h (c_X12_within l D ct ad L φ N0 σ_1 x1 0 1 _ hw) rfl rfl ⟨Nat.le_of_ble_eq_true rfl, Nat.le_of_ble_eq_true rfl⟩ kw_1959 kw_1960 kw_129 kw_1961 pd_X12_within rfl hl.1 rfl (Nat.le_of_ble_eq_true rfl) ⟨Nat.le_of_ble_eq_true rfl, Nat.le_of_ble_eq_true rfl⟩ dX12_lease_8) (fun r_3 σ_2 H locs hw h => ?_)
  obtain ⟨g_4, hwt, hwf⟩ := hw
  refine j_if_ne (tgt := 16) X g_4 dX12_lease_11 (by decide) (fun c_6 => ?_) (fun c_6 => ?_)
  · have hw := hwt c_6
    refine lv_aload_n X.1 X.2.1 dX12_lease_16 rfl (lv_at hl 0 rfl) ?_
    refine lv_iload_n X.1 X.2.1 dX12_lease_17 rfl (lv_at hl 1 rfl) ?_
    refine r_put (ci := 12) X inw_12 tyX12 tyX12_ok nmX12 h (hF.1 12 rfl).1 rfl rfl 66 (by decide) kw_1704 rfl rfl rfl (Nat.le_of_ble_eq_true rfl) rfl rfl dX12_lease_18 (fun H locs h => ?_)
    obtain ⟨σ_5, eσ_5⟩ : ∃ z : St, z = st σ_2 12 0 66 x1 := ⟨_, rfl⟩
    rw [← eσ_5] at h
    have hw := hw σ_5 eσ_5
    refine j_iconst X dX12_lease_21 ?_
    exact k_ir X rfl h hw dX12_lease_22
  · have hw := hwf c_6
    refine j_iconst X dX12_lease_14 ?_
    exact k_ir X rfl h hw dX12_lease_15
end
section
variable {p : Program} {l : Launch} {e : Env} {s : State} {m : MethodId} {args : Array Value} {below : List Frame} {meth : Method} {c : Code} {D : va_G} {ct : Nat → ClassId} {ad : Nat → Nat → Nat} {L : List (Nat × Nat)} {φ : Nat → Nat → Nat → Bool} {N0 : Nat}
variable {Q : Int → St → Prop}
set_option maxRecDepth 100000 in
set_option maxHeartbeats 4000000 in
theorem lb_X12_scaleOf_59 (X : Cx p s m meth c args cX12_scaleOf 4 (some .int) RX12 D ct L φ N0) (σ : St) (y0 : Int) (y1 : Int) (H : Heap) (locs : List Loc) (ls : Array Slot) (hw : wp_X12_scaleOf_59 Q σ y0 y1) (h : Hs D ct ad L φ N0 s.heap σ H locs) (hl : lv_has ls 4 []) : W p l e ({ frames := 0, cells := 0, slots := 0, locals := 0 } : Room) s m args below meth c H locs 0 0 (MQ below (Qi D ct ad L φ N0 Q) args s 0 0 (AA N0)) (F0 m 59 ls [.int (iv y0), .int (iv y1)]) := by
  have hF := X.2.2.2.2.2.2.2.2.1
  unfold wp_X12_scaleOf_59 at hw
  obtain ⟨g_1, g_2, g_3, g_4, hw⟩ := hw
  refine j_idiv X g_1 g_2 g_3 g_4 dX12_scaleOf_59 ?_
  exact k_ir X rfl h hw dX12_scaleOf_60
set_option maxRecDepth 100000 in
set_option maxHeartbeats 4000000 in
theorem lb_X12_scaleOf_36 (X : Cx p s m meth c args cX12_scaleOf 4 (some .int) RX12 D ct L φ N0) (σ : St) (x1 : Int) (x2 : Int) (y0 : Int) (H : Heap) (locs : List Loc) (ls : Array Slot) (hw : wp_X12_scaleOf_36 Q σ x1 x2 y0) (h : Hs D ct ad L φ N0 s.heap σ H locs) (hl : lv_has ls 4 [(0, .ref (ad 12 0)), (1, .int (iv x1)), (2, .int (iv x2))]) : W p l e ({ frames := 0, cells := 0, slots := 0, locals := 0 } : Room) s m args below meth c H locs 0 0 (MQ below (Qi D ct ad L φ N0 Q) args s 0 0 (AA N0)) (F0 m 36 ls [.int (iv y0)]) := by
  have hF := X.2.2.2.2.2.2.2.2.1
  unfold wp_X12_scaleOf_36 at hw
  refine lv_istore_n (lv' := [(3, .int (iv y0)), (0, .ref (ad 12 0)), (1, .int (iv x1)), (2, .int (iv x2))]) X.1 X.2.1 dX12_scaleOf_36 rfl hl (by decide) rfl (fun ls hl => ?_)
  refine lv_iload_n X.1 X.2.1 dX12_scaleOf_37 rfl (lv_at hl 0 rfl) ?_
  refine lv_iload_n X.1 X.2.1 dX12_scaleOf_38 rfl (lv_at hl 0 rfl) ?_
  refine j_imul X dX12_scaleOf_39 ?_
  refine lv_aload_n X.1 X.2.1 dX12_scaleOf_40 rfl (lv_at hl 1 rfl) ?_
  refine r_getR (ci := 12) X inw_12 h (hF.1 12 rfl).1 rfl rfl 20 (by decide) kw_1658 rfl ((hF.1 12 rfl).2 20) dX12_scaleOf_41 ?_
  refine lv_iload_n X.1 X.2.1 dX12_scaleOf_44 rfl (lv_at hl 2 rfl) ?_
  obtain ⟨g_5, g_6, hw⟩ := hw
  refine r_iald (n := 300) X h (hF.1 97 rfl).1 rfl (by decide) g_5 g_6 dX12_scaleOf_45 ?_
  refine j_imul X dX12_scaleOf_46 ?_
  refine lv_iload_n X.1 X.2.1 dX12_scaleOf_47 rfl (lv_at hl 3 rfl) ?_
  refine j_iconst X dX12_scaleOf_48 ?_
  obtain ⟨g_7, hwt, hwf⟩ := hw
  refine j_cmp_ne (tgt := 57) X g_7 ⟨by decide, by decide⟩ dX12_scaleOf_49 (by decide) (fun c_8 => ?_) (fun c_8 => ?_)
  · have hw := hwt c_8
    refine j_bipush X dX12_scaleOf_57 (by decide) ?_
    exact lb_X12_scaleOf_59 X σ 16 ((y0 * y0) * (σ 97 0 (Int.toNat x1))) _ _ _ hw h (lv_sub hl [] rfl)
  · have hw := hwf c_8
    refine j_bipush X dX12_scaleOf_52 (by decide) ?_
    refine lv_goto (tgt := 59) X.1 X.2.1 dX12_scaleOf_54 (by decide) ?_
    exact lb_X12_scaleOf_59 X σ 24 ((y0 * y0) * (σ 97 0 (Int.toNat x1))) _ _ _ hw h (lv_sub hl [] rfl)
theorem pd_X12_scaleOf : yX12_scaleOf.cls ≠ "java/lang/invoke/MethodHandle" ∧ yX12_scaleOf.cls ≠ "java/lang/invoke/VarHandle" ∧ (parseMethodDescriptor yX12_scaleOf.desc).map (fun d => d.parameters.length) = some 2 := by decide +kernel
set_option maxRecDepth 100000 in
set_option maxHeartbeats 4000000 in
theorem c_X12_scaleOf (l : Launch) (D : va_G) (ct : Nat → ClassId) (ad : Nat → Nat → Nat) (L : List (Nat × Nat)) (φ : Nat → Nat → Nat → Bool) (N0 : Nat) (σ : St) (x1 : Int) (x2 : Int) (Q : Int → St → Prop) (hw : wp_X12_scaleOf σ x1 x2 Q) : Met l yX12_scaleOf (.code yX12_scaleOf cX12_scaleOf 4 (some .int) :: gw) ({ frames := 0, cells := 0, slots := 0, locals := 0 } : Room) (Pm D ct ad L φ N0 σ [.ref (ad 12 0), .int (iv x1), .int (iv x2)]) (Qi D ct ad L φ N0 Q) 0 0 (AA N0) := by
  refine m_of (by decide) (fun p e s m below meth c X hnm h => ?_)
  have hF := X.2.2.2.2.2.2.2.2.1
  have hl := lv_entry ([.ref (ad 12 0), .int (iv x1), .int (iv x2)]) (n := 4) (Nat.le_of_ble_eq_true rfl)
  rw [lg_entry_eq]
  generalize (lg_sl ([.ref (ad 12 0), .int (iv x1), .int (iv x2)]) ++ List.replicate (4 - (lg_sl ([.ref (ad 12 0), .int (iv x1), .int (iv x2)])).length) Slot.unset).toArray = ls at hl ⊢
  have hl : lv_has ls 4 [(0, .ref (ad 12 0)), (1, .int (iv x1)), (2, .int (iv x2))] := hl
  have h : Hs D ct ad L φ N0 s.heap σ s.heap [] := h
  unfold wp_X12_scaleOf at hw
  refine lv_iload_n X.1 X.2.1 dX12_scaleOf_0 rfl (lv_at hl 2 rfl) ?_
  refine j_iconst X dX12_scaleOf_1 ?_
  obtain ⟨g_9, hwt, hwf⟩ := hw
  refine j_cmp_ne (tgt := 14) X g_9 ⟨by decide, by decide⟩ dX12_scaleOf_2 (by decide) (fun c_18 => ?_) (fun c_18 => ?_)
  · have hw := hwt c_18
    refine lv_aload_n X.1 X.2.1 dX12_scaleOf_14 rfl (lv_at hl 0 rfl) ?_
    refine r_getR (ci := 12) X inw_12 h (hF.1 12 rfl).1 rfl rfl 21 (by decide) kw_1659 rfl ((hF.1 12 rfl).2 21) dX12_scaleOf_15 ?_
    refine lv_iload_n X.1 X.2.1 dX12_scaleOf_18 rfl (lv_at hl 1 rfl) ?_
    obtain ⟨g_10, g_11, hw⟩ := hw
    refine r_iald (n := 300) X h (hF.1 98 rfl).1 rfl (by decide) g_10 g_11 dX12_scaleOf_19 ?_
    refine j_iconst X dX12_scaleOf_20 ?_
    obtain ⟨g_12, hwt, hwf⟩ := hw
    refine j_cmp_le (tgt := 35) X g_12 ⟨by decide, by decide⟩ dX12_scaleOf_21 (by decide) (fun c_15 => ?_) (fun c_15 => ?_)
    · have hw := hwt c_15
      refine j_iconst X dX12_scaleOf_35 ?_
      exact lb_X12_scaleOf_36 X σ x1 x2 0 _ _ _ hw h (lv_sub hl [0, 1, 2] rfl)
    · have hw := hwf c_15
      refine lv_aload_n X.1 X.2.1 dX12_scaleOf_24 rfl (lv_at hl 0 rfl) ?_
      refine r_getR (ci := 12) X inw_12 h (hF.1 12 rfl).1 rfl rfl 21 (by decide) kw_1659 rfl ((hF.1 12 rfl).2 21) dX12_scaleOf_25 ?_
      refine lv_iload_n X.1 X.2.1 dX12_scaleOf_28 rfl (lv_at hl 1 rfl) ?_
      obtain ⟨g_13, g_14, hw⟩ := hw
      refine r_iald (n := 300) X h (hF.1 98 rfl).1 rfl (by decide) g_13 g_14 dX12_scaleOf_29 ?_
      refine j_iconst X dX12_scaleOf_30 ?_
      refine j_isub X dX12_scaleOf_31 ?_
      refine lv_goto (tgt := 36) X.1 X.2.1 dX12_scaleOf_32 (by decide) ?_
      exact lb_X12_scaleOf_36 X σ x1 x2 ((σ 98 0 (Int.toNat x1)) - 4) _ _ _ hw h (lv_sub hl [0, 1, 2] rfl)
  · have hw := hwf c_18
    refine lv_aload_n X.1 X.2.1 dX12_scaleOf_5 rfl (lv_at hl 0 rfl) ?_
    refine r_getR (ci := 12) X inw_12 h (hF.1 12 rfl).1 rfl rfl 21 (by decide) kw_1659 rfl ((hF.1 12 rfl).2 21) dX12_scaleOf_6 ?_
    refine lv_iload_n X.1 X.2.1 dX12_scaleOf_9 rfl (lv_at hl 1 rfl) ?_
    obtain ⟨g_16, g_17, hw⟩ := hw
    refine r_iald (n := 300) X h (hF.1 98 rfl).1 rfl (by decide) g_16 g_17 dX12_scaleOf_10 ?_
    refine lv_goto (tgt := 36) X.1 X.2.1 dX12_scaleOf_11 (by decide) ?_
    exact lb_X12_scaleOf_36 X σ x1 x2 (σ 98 0 (Int.toNat x1)) _ _ _ hw h (lv_sub hl [0, 1, 2] rfl)
end
section
variable {p : Program} {l : Launch} {e : Env} {s : State} {m : MethodId} {args : Array Value} {below : List Frame} {meth : Method} {c : Code} {D : va_G} {ct : Nat → ClassId} {ad : Nat → Nat → Nat} {L : List (Nat × Nat)} {φ : Nat → Nat → Nat → Bool} {N0 : Nat}
variable {Q : Int → St → Prop}
theorem pd_X12_scale : yX12_scale.cls ≠ "java/lang/invoke/MethodHandle" ∧ yX12_scale.cls ≠ "java/lang/invoke/VarHandle" ∧ (parseMethodDescriptor yX12_scale.desc).map (fun d => d.parameters.length) = some 2 := by decide +kernel
set_option maxRecDepth 100000 in
set_option maxHeartbeats 4000000 in
theorem c_X12_scale (l : Launch) (D : va_G) (ct : Nat → ClassId) (ad : Nat → Nat → Nat) (L : List (Nat × Nat)) (φ : Nat → Nat → Nat → Bool) (N0 : Nat) (σ : St) (x1 : Int) (x2 : Int) (Q : Int → St → Prop) (hw : wp_X12_scale σ x1 x2 Q) : Met l yX12_scale (.code yX12_scale cX12_scale 3 (some .int) :: gw) ({ frames := 2, cells := 0, slots := 0, locals := 43 } : Room) (Pm D ct ad L φ N0 σ [.ref (ad 12 0), .int (iv x1), .int (iv x2)]) (Qi D ct ad L φ N0 Q) 0 0 (AA N0) := by
  refine m_of (by decide) (fun p e s m below meth c X hnm h => ?_)
  have hF := X.2.2.2.2.2.2.2.2.1
  have hl := lv_entry ([.ref (ad 12 0), .int (iv x1), .int (iv x2)]) (n := 3) (Nat.le_of_ble_eq_true rfl)
  rw [lg_entry_eq]
  generalize (lg_sl ([.ref (ad 12 0), .int (iv x1), .int (iv x2)]) ++ List.replicate (3 - (lg_sl ([.ref (ad 12 0), .int (iv x1), .int (iv x2)])).length) Slot.unset).toArray = ls at hl ⊢
  have hl : lv_has ls 3 [(0, .ref (ad 12 0)), (1, .int (iv x1)), (2, .int (iv x2))] := hl
  have h : Hs D ct ad L φ N0 s.heap σ s.heap [] := h
  unfold wp_X12_scale at hw
  refine lv_aload_n X.1 X.2.1 dX12_scale_0 rfl (lv_at hl 0 rfl) ?_
  refine j_iconst X dX12_scale_1 ?_
  refine r_put (ci := 12) X inw_12 tyX12 tyX12_ok nmX12 h (hF.1 12 rfl).1 rfl rfl 0 (by decide) kw_1638 rfl rfl rfl (Nat.le_of_ble_eq_true rfl) rfl rfl dX12_scale_2 (fun H locs h => ?_)
  obtain ⟨σ_1, eσ_1⟩ : ∃ z : St, z = st σ 12 0 0 0 := ⟨_, rfl⟩
  rw [← eσ_1] at h
  have hw := hw σ_1 eσ_1
  refine lv_aload_n X.1 X.2.1 dX12_scale_5 rfl (lv_at hl 0 rfl) ?_
  refine lv_iload_n X.1 X.2.1 dX12_scale_6 rfl (lv_at hl 1 rfl) ?_
  refine k_i h (r_V (C := RX12) (ci := 12) (As := [.int (iv x1)]) (rest := []) X h (c_X12_isLog l D ct ad L φ N0 σ_1 x1 _ hw) rfl rfl ⟨Nat.le_of_ble_eq_true rfl, Nat.le_of_ble_eq_true rfl⟩ kw_2027 kw_2029 kw_69 kw_129 kw_2030 ⟨rfl, pd_X12_isLog⟩ (hF.1 12 rfl).1 rfl rfl rfl hl.1 rfl (Nat.le_of_ble_eq_true rfl) ⟨Nat.le_of_ble_eq_true rfl, Nat.le_of_ble_eq_true rfl⟩ dX12_scale_7) (fun r_3 σ_2 H locs hw h => ?_)
  obtain ⟨g_4, hwt, hwf⟩ := hw
  refine j_if_eq (tgt := 31) X g_4 dX12_scale_10 (by decide) (fun c_11 => ?_) (fun c_11 => ?_)
  · have hw := hwt c_11
    refine j_iconst X dX12_scale_31 ?_
    exact k_ir X rfl h hw dX12_scale_32
  · have hw := hwf c_11
    refine lv_iload_n X.1 X.2.1 dX12_scale_13 rfl (lv_at hl 2 rfl) ?_
    refine j_iconst X dX12_scale_14 ?_
    refine j_iconst X dX12_scale_15 ?_
    refine k_i h (r_S (As := [.int (iv x2), .int (iv 0), .int (iv 1)]) (rest := []) X h (c_X12_within l D ct ad L φ N0 σ_2 x2 0 1 _ hw) rfl rfl ⟨Nat.le_of_ble_eq_true rfl, Nat.le_of_ble_eq_true rfl⟩ kw_1959 kw_1960 kw_129 kw_1961 pd_X12_within rfl hl.1 rfl (Nat.le_of_ble_eq_true rfl) ⟨Nat.le_of_ble_eq_true rfl, Nat.le_of_ble_eq_true rfl⟩ dX12_scale_16) (fun r_6 σ_5 H locs hw h => ?_)
    obtain ⟨g_7, hwt, hwf⟩ := hw
    refine j_if_eq (tgt := 31) X g_7 dX12_scale_19 (by decide) (fun c_10 => ?_) (fun c_10 => ?_)
    · have hw := hwt c_10
      refine j_iconst X dX12_scale_31 ?_
      exact k_ir X rfl h hw dX12_scale_32
    · have hw := hwf c_10
      refine lv_aload_n X.1 X.2.1 dX12_scale_22 rfl (lv_at hl 0 rfl) ?_
      refine lv_iload_n X.1 X.2.1 dX12_scale_23 rfl (lv_at hl 1 rfl) ?_
      refine lv_iload_n X.1 X.2.1 dX12_scale_24 rfl (lv_at hl 2 rfl) ?_
      refine k_i h (r_V (C := RX12) (ci := 12) (As := [.int (iv x1), .int (iv x2)]) (rest := []) X h (c_X12_scaleOf l D ct ad L φ N0 σ_5 x1 x2 _ hw) rfl rfl ⟨Nat.le_of_ble_eq_true rfl, Nat.le_of_ble_eq_true rfl⟩ kw_2275 kw_2277 kw_99 kw_129 kw_2278 ⟨rfl, pd_X12_scaleOf⟩ (hF.1 12 rfl).1 rfl rfl rfl hl.1 rfl (Nat.le_of_ble_eq_true rfl) ⟨Nat.le_of_ble_eq_true rfl, Nat.le_of_ble_eq_true rfl⟩ dX12_scale_25) (fun r_9 σ_8 H locs hw h => ?_)
      refine lv_goto (tgt := 32) X.1 X.2.1 dX12_scale_28 (by decide) ?_
      exact k_ir X rfl h hw dX12_scale_32
end
section
variable {p : Program} {l : Launch} {e : Env} {s : State} {m : MethodId} {args : Array Value} {below : List Frame} {meth : Method} {c : Code} {D : va_G} {ct : Nat → ClassId} {ad : Nat → Nat → Nat} {L : List (Nat × Nat)} {φ : Nat → Nat → Nat → Bool} {N0 : Nat}
variable {Q : Int → St → Prop}
set_option maxRecDepth 100000 in
set_option maxHeartbeats 4000000 in
theorem lb_X12_fall_244 (X : Cx p s m meth c args cX12_fall 10 (some .int) RX12 D ct L φ N0) (σ : St) (x1 : Int) (x6 : Int) (x8 : Int) (H : Heap) (locs : List Loc) (ls : Array Slot) (hw : wp_X12_fall_244 Q σ x1 x6 x8) (h : Hs D ct ad L φ N0 s.heap σ H locs) (hl : lv_has ls 10 [(0, .ref (ad 12 0)), (1, .int (iv x1)), (6, .int (iv x6)), (8, .int (iv x8))]) : W p l e ({ frames := 4, cells := 0, slots := 0, locals := 92 } : Room) s m args below meth c H locs 0 0 (MQ below (Qi D ct ad L φ N0 Q) args s 0 0 (AA N0)) (F0 m 244 ls []) := by
  have hF := X.2.2.2.2.2.2.2.2.1
  unfold wp_X12_fall_244 at hw
  refine lv_aload_n X.1 X.2.1 dX12_fall_244 rfl (lv_at hl 0 rfl) ?_
  refine r_getR (ci := 12) X inw_12 h (hF.1 12 rfl).1 rfl rfl 62 (by decide) kw_1700 rfl ((hF.1 12 rfl).2 62) dX12_fall_245 ?_
  refine lv_iload_n X.1 X.2.1 dX12_fall_248 rfl (lv_at hl 1 rfl) ?_
  refine lv_dup2_11 X.1 X.2.1 dX12_fall_249 rfl rfl ?_
  obtain ⟨g_1, g_2, hw⟩ := hw
  refine r_iald (n := 20) X h (hF.1 126 rfl).1 rfl (by decide) g_1 g_2 dX12_fall_250 ?_
  refine lv_iload X.1 X.2.1 dX12_fall_251 (lv_at hl 2 rfl) ?_
  refine lv_iload X.1 X.2.1 dX12_fall_253 (lv_at hl 3 rfl) ?_
  refine j_imul X dX12_fall_255 ?_
  refine j_iadd X dX12_fall_256 ?_
  obtain ⟨g_3, g_4, hw⟩ := hw
  refine r_iast (n := 20) X h (hF.1 126 rfl).1 (fun _ => rfl) (by decide) g_3 g_4 rfl dX12_fall_257 (fun H locs h => ?_)
  obtain ⟨σ_5, eσ_5⟩ : ∃ z : St, z = st σ 126 0 (Int.toNat x1) ((σ 126 0 (Int.toNat x1)) + (x6 * x8)) := ⟨_, rfl⟩
  rw [← eσ_5] at h
  have hw := hw σ_5 eσ_5
  refine lv_aload_n X.1 X.2.1 dX12_fall_258 rfl (lv_at hl 0 rfl) ?_
  refine r_get (ci := 12) X inw_12 h (hF.1 12 rfl).1 rfl rfl 15 (by decide) kw_1653 rfl dX12_fall_259 ?_
  exact k_ir X rfl h hw dX12_fall_262
set_option maxRecDepth 100000 in
set_option maxHeartbeats 4000000 in
theorem lb_X12_fall_170 (X : Cx p s m meth c args cX12_fall 10 (some .int) RX12 D ct L φ N0) {K244 : St → Int → Int → Int → Prop} (hK244 : ∀ (σ : St) (x1 : Int) (x6 : Int) (x8 : Int) (H : Heap) (locs : List Loc) (ls : Array Slot), K244 σ x1 x6 x8 → Hs D ct ad L φ N0 s.heap σ H locs → lv_has ls 10 [(0, .ref (ad 12 0)), (1, .int (iv x1)), (6, .int (iv x6)), (8, .int (iv x8))] → W p l e ({ frames := 4, cells := 0, slots := 0, locals := 92 } : Room) s m args below meth c H locs 0 0 (MQ below (Qi D ct ad L φ N0 Q) args s 0 0 (AA N0)) (F0 m 244 ls [])) : ∀ (n : Nat) (σ : St) (x1 : Int) (x2 : Int) (x3 : Int) (x4 : Int) (x6 : Int) (x7 : Int) (x8 : Int) (x9 : Int) (H : Heap) (locs : List Loc) (ls : Array Slot), wp_X12_fall_170 K244 Q n σ x1 x2 x3 x4 x6 x7 x8 x9 → Hs D ct ad L φ N0 s.heap σ H locs → lv_has ls 10 [(0, .ref (ad 12 0)), (1, .int (iv x1)), (2, .int (iv x2)), (3, .int (iv x3)), (4, .int (iv x4)), (6, .int (iv x6)), (7, .int (iv x7)), (8, .int (iv x8)), (9, .int (iv x9))] → W p l e ({ frames := 4, cells := 0, slots := 0, locals := 92 } : Room) s m args below meth c H locs 0 0 (MQ below (Qi D ct ad L φ N0 Q) args s 0 0 (AA N0)) (F0 m 170 ls []) := by
  have hF := X.2.2.2.2.2.2.2.2.1
  intro n
  induction n with
  | zero => intro σ x1 x2 x3 x4 x6 x7 x8 x9 H locs ls hw; exact hw.elim
  | succ n ih =>
    intro σ x1 x2 x3 x4 x6 x7 x8 x9 H locs ls hw h hl
    unfold wp_X12_fall_170 at hw
    refine lv_iload X.1 X.2.1 dX12_fall_170 (lv_at hl 8 rfl) ?_
    refine lv_aload_n X.1 X.2.1 dX12_fall_172 rfl (lv_at hl 0 rfl) ?_
    refine r_get (ci := 12) X inw_12 h (hF.1 12 rfl).1 rfl rfl 15 (by decide) kw_1653 rfl dX12_fall_173 ?_
    obtain ⟨g_6, g_7, hwt, hwf⟩ := hw
    refine j_cmp_ge (tgt := 244) X g_6 g_7 dX12_fall_176 (by decide) (fun c_21 => ?_) (fun c_21 => ?_)
    · have hw := hwt c_21
      exact hK244 σ x1 x6 x8 _ _ _ hw h (lv_sub hl [0, 1, 5, 7] rfl)
    · have hw := hwf c_21
      refine lv_iload X.1 X.2.1 dX12_fall_179 (lv_at hl 6 rfl) ?_
      refine lv_aload_n X.1 X.2.1 dX12_fall_181 rfl (lv_at hl 0 rfl) ?_
      refine r_getR (ci := 12) X inw_12 h (hF.1 12 rfl).1 rfl rfl 14 (by decide) kw_1652 rfl ((hF.1 12 rfl).2 14) dX12_fall_182 ?_
      refine lv_iload X.1 X.2.1 dX12_fall_185 (lv_at hl 8 rfl) ?_
      obtain ⟨g_8, g_9, hw⟩ := hw
      refine r_iald (n := 8) X h (hF.1 93 rfl).1 rfl (by decide) g_8 g_9 dX12_fall_187 ?_
      refine j_iadd X dX12_fall_188 ?_
      refine j_bind (fun v_10 ev_10 => ?_)
      have hw := hw v_10 ev_10
      refine lv_istore (lv' := [(7, .int (iv v_10)), (0, .ref (ad 12 0)), (1, .int (iv x1)), (2, .int (iv x2)), (3, .int (iv x3)), (4, .int (iv x4)), (6, .int (iv x6)), (8, .int (iv x8)), (9, .int (iv x9))]) X.1 X.2.1 dX12_fall_189 hl (by decide) rfl (fun ls hl => ?_)
      refine lv_aload_n X.1 X.2.1 dX12_fall_191 rfl (lv_at hl 1 rfl) ?_
      refine lv_iload_n X.1 X.2.1 dX12_fall_192 rfl (lv_at hl 3 rfl) ?_
      refine lv_iload_n X.1 X.2.1 dX12_fall_193 rfl (lv_at hl 4 rfl) ?_
      refine lv_aload_n X.1 X.2.1 dX12_fall_194 rfl (lv_at hl 1 rfl) ?_
      refine r_getR (ci := 12) X inw_12 h (hF.1 12 rfl).1 rfl rfl 14 (by decide) kw_1652 rfl ((hF.1 12 rfl).2 14) dX12_fall_195 ?_
      refine lv_iload X.1 X.2.1 dX12_fall_198 (lv_at hl 8 rfl) ?_
      obtain ⟨g_11, g_12, hw⟩ := hw
      refine r_iald (n := 8) X h (hF.1 93 rfl).1 rfl (by decide) g_11 g_12 dX12_fall_200 ?_
      refine lv_aload_n X.1 X.2.1 dX12_fall_201 rfl (lv_at hl 1 rfl) ?_
      refine lv_iload_n X.1 X.2.1 dX12_fall_202 rfl (lv_at hl 4 rfl) ?_
      refine lv_iload X.1 X.2.1 dX12_fall_203 (lv_at hl 5 rfl) ?_
      refine lv_iload X.1 X.2.1 dX12_fall_205 (lv_at hl 0 rfl) ?_
      refine k_i h (r_V (C := RX12) (ci := 12) (As := [.int (iv x3), .int (iv x4), .int (iv v_10)]) (rest := [.int (iv (σ 93 0 (Int.toNat x9))), .int (iv x3), .int (iv x2), .ref (ad 12 0)]) X h (c_X12_wideAt l D ct ad L φ N0 σ x3 x4 v_10 _ hw) rfl rfl ⟨Nat.le_of_ble_eq_true rfl, Nat.le_of_ble_eq_true rfl⟩ kw_2007 kw_2009 kw_67 kw_129 kw_2010 ⟨rfl, pd_X12_wideAt⟩ (hF.1 12 rfl).1 rfl rfl rfl hl.1 rfl (Nat.le_of_ble_eq_true rfl) ⟨Nat.le_of_ble_eq_true rfl, Nat.le_of_ble_eq_true rfl⟩ dX12_fall_207) (fun r_14 σ_13 H locs hw h => ?_)
      refine lv_aload_n X.1 X.2.1 dX12_fall_210 rfl (lv_at hl 1 rfl) ?_
      refine r_getR (ci := 12) X inw_12 h (hF.1 12 rfl).1 rfl rfl 61 (by decide) kw_1699 rfl ((hF.1 12 rfl).2 61) dX12_fall_211 ?_
      refine lv_iload_n X.1 X.2.1 dX12_fall_214 rfl (lv_at hl 2 rfl) ?_
      obtain ⟨g_15, g_16, hw⟩ := hw
      refine r_iald (n := 20) X h (hF.1 125 rfl).1 rfl (by decide) g_15 g_16 dX12_fall_215 ?_
      refine k_v h (r_V (C := RX12) (ci := 12) (As := [.int (iv x2), .int (iv x3), .int (iv (σ 93 0 (Int.toNat x9))), .int (iv r_14), .int (iv (σ_13 125 0 (Int.toNat x1)))]) (rest := []) X h (c_X12_falls l D ct ad L φ N0 σ_13 x2 x3 (σ 93 0 (Int.toNat x9)) r_14 (σ_13 125 0 (Int.toNat x1)) _ hw) rfl rfl ⟨Nat.le_of_ble_eq_true rfl, Nat.le_of_ble_eq_true rfl⟩ kw_2283 kw_2285 kw_100 kw_129 kw_2286 ⟨rfl, pd_X12_falls⟩ (hF.1 12 rfl).1 rfl rfl rfl hl.1 rfl (Nat.le_of_ble_eq_true rfl) ⟨Nat.le_of_ble_eq_true rfl, Nat.le_of_ble_eq_true rfl⟩ dX12_fall_216) (fun σ_17 H locs hw h => ?_)
      refine lv_iload X.1 X.2.1 dX12_fall_219 (lv_at hl 7 rfl) ?_
      refine lv_aload_n X.1 X.2.1 dX12_fall_221 rfl (lv_at hl 1 rfl) ?_
      refine lv_aload_n X.1 X.2.1 dX12_fall_222 rfl (lv_at hl 1 rfl) ?_
      refine r_get (ci := 12) X inw_12 h (hF.1 12 rfl).1 rfl rfl 17 (by decide) kw_1655 rfl dX12_fall_223 ?_
      refine j_iconst X dX12_fall_226 ?_
      refine j_isub X dX12_fall_227 ?_
      refine lv_aload_n X.1 X.2.1 dX12_fall_228 rfl (lv_at hl 1 rfl) ?_
      refine r_get (ci := 12) X inw_12 h (hF.1 12 rfl).1 rfl rfl 66 (by decide) kw_1704 rfl dX12_fall_229 ?_
      refine k_i h (r_V (C := RX12) (ci := 12) (As := [.int (iv ((σ_17 12 0 17) - 1)), .int (iv (σ_17 12 0 66))]) (rest := [.int (iv x8)]) X h (c_X12_scaleOf l D ct ad L φ N0 σ_17 ((σ_17 12 0 17) - 1) (σ_17 12 0 66) _ hw) rfl rfl ⟨Nat.le_of_ble_eq_true rfl, Nat.le_of_ble_eq_true rfl⟩ kw_2275 kw_2277 kw_99 kw_129 kw_2278 ⟨rfl, pd_X12_scaleOf⟩ (hF.1 12 rfl).1 rfl rfl rfl hl.1 rfl (Nat.le_of_ble_eq_true rfl) ⟨Nat.le_of_ble_eq_true rfl, Nat.le_of_ble_eq_true rfl⟩ dX12_fall_232) (fun r_19 σ_18 H locs hw h => ?_)
      refine j_iadd X dX12_fall_235 ?_
      refine j_bind (fun v_20 ev_20 => ?_)
      have hw := hw v_20 ev_20
      refine lv_istore (lv' := [(8, .int (iv v_20)), (7, .int (iv v_10)), (0, .ref (ad 12 0)), (1, .int (iv x1)), (2, .int (iv x2)), (3, .int (iv x3)), (4, .int (iv x4)), (6, .int (iv x6)), (9, .int (iv x9))]) X.1 X.2.1 dX12_fall_236 hl (by decide) rfl (fun ls hl => ?_)
      refine j_iinc (kk9 := 8) (lv' := [(9, .int (iv (x9 + 1))), (8, .int (iv v_20)), (7, .int (iv v_10)), (0, .ref (ad 12 0)), (1, .int (iv x1)), (2, .int (iv x2)), (3, .int (iv x3)), (4, .int (iv x4)), (6, .int (iv x6))]) X dX12_fall_238 hl rfl (by decide) rfl (fun ls hl => ?_)
      refine lv_goto (tgt := 170) X.1 X.2.1 dX12_fall_241 (by decide) ?_
      exact ih σ_18 x1 x2 x3 x4 x6 v_10 v_20 (x9 + 1) _ _ _ hw h (lv_sub hl [3, 4, 5, 6, 7, 8, 2, 1, 0] rfl)
set_option maxRecDepth 100000 in
set_option maxHeartbeats 4000000 in
theorem lb_X12_fall_117 (X : Cx p s m meth c args cX12_fall 10 (some .int) RX12 D ct L φ N0) (σ : St) (x1 : Int) (x2 : Int) (x3 : Int) (x4 : Int) (x6 : Int) (H : Heap) (locs : List Loc) (ls : Array Slot) (hw : wp_X12_fall_117 Q σ x1 x2 x3 x4 x6) (h : Hs D ct ad L φ N0 s.heap σ H locs) (hl : lv_has ls 10 [(0, .ref (ad 12 0)), (1, .int (iv x1)), (2, .int (iv x2)), (3, .int (iv x3)), (4, .int (iv x4)), (6, .int (iv x6))]) : W p l e ({ frames := 4, cells := 0, slots := 0, locals := 92 } : Room) s m args below meth c H locs 0 0 (MQ below (Qi D ct ad L φ N0 Q) args s 0 0 (AA N0)) (F0 m 117 ls []) := by
  have hF := X.2.2.2.2.2.2.2.2.1
  unfold wp_X12_fall_117 at hw
  refine lv_aload_n X.1 X.2.1 dX12_fall_117 rfl (lv_at hl 0 rfl) ?_
  refine r_get (ci := 12) X inw_12 h (hF.1 12 rfl).1 rfl rfl 17 (by decide) kw_1655 rfl dX12_fall_118 ?_
  refine lv_aload_n X.1 X.2.1 dX12_fall_121 rfl (lv_at hl 0 rfl) ?_
  refine r_get (ci := 12) X inw_12 h (hF.1 12 rfl).1 rfl rfl 15 (by decide) kw_1653 rfl dX12_fall_122 ?_
  refine j_iadd X dX12_fall_125 ?_
  refine j_sipush X dX12_fall_126 (by decide) ?_
  obtain ⟨g_22, hwt, hwf⟩ := hw
  refine j_cmp_le (tgt := 135) X g_22 ⟨by decide, by decide⟩ dX12_fall_129 (by decide) (fun c_35 => ?_) (fun c_35 => ?_)
  · have hw := hwt c_35
    refine lv_aload_n X.1 X.2.1 dX12_fall_135 rfl (lv_at hl 0 rfl) ?_
    refine r_getR (ci := 12) X inw_12 h (hF.1 12 rfl).1 rfl rfl 4 (by decide) kw_1642 rfl ((hF.1 12 rfl).2 4) dX12_fall_136 ?_
    refine lv_iload_n X.1 X.2.1 dX12_fall_139 rfl (lv_at hl 2 rfl) ?_
    refine lv_iload_n X.1 X.2.1 dX12_fall_140 rfl (lv_at hl 3 rfl) ?_
    refine lv_iload X.1 X.2.1 dX12_fall_141 (lv_at hl 4 rfl) ?_
    refine k_i h (r_S (As := [.int (iv x2), .int (iv x3), .int (iv x4)]) (rest := [.ref (ad 85 0)]) X h (c_X12_stemAt l D ct ad L φ N0 σ x2 x3 x4 _ hw) rfl rfl ⟨Nat.le_of_ble_eq_true rfl, Nat.le_of_ble_eq_true rfl⟩ kw_1969 kw_1970 kw_129 kw_1971 pd_X12_stemAt rfl hl.1 rfl (Nat.le_of_ble_eq_true rfl) ⟨Nat.le_of_ble_eq_true rfl, Nat.le_of_ble_eq_true rfl⟩ dX12_fall_143) (fun r_24 σ_23 H locs hw h => ?_)
    refine lv_dup2_11 X.1 X.2.1 dX12_fall_146 rfl rfl ?_
    obtain ⟨g_25, g_26, hw⟩ := hw
    refine r_iald (n := 1024) X h (hF.1 85 rfl).1 rfl (by decide) g_25 g_26 dX12_fall_147 ?_
    refine j_iconst X dX12_fall_148 ?_
    refine j_isub X dX12_fall_149 ?_
    obtain ⟨g_27, g_28, hw⟩ := hw
    refine r_iast (n := 1024) X h (hF.1 85 rfl).1 (fun _ => rfl) (by decide) g_27 g_28 rfl dX12_fall_150 (fun H locs h => ?_)
    obtain ⟨σ_29, eσ_29⟩ : ∃ z : St, z = st σ_23 85 0 (Int.toNat r_24) ((σ_23 85 0 (Int.toNat r_24)) - 1) := ⟨_, rfl⟩
    rw [← eσ_29] at h
    have hw := hw σ_29 eσ_29
    refine lv_aload_n X.1 X.2.1 dX12_fall_151 rfl (lv_at hl 0 rfl) ?_
    refine r_getR (ci := 12) X inw_12 h (hF.1 12 rfl).1 rfl rfl 3 (by decide) kw_1641 rfl ((hF.1 12 rfl).2 3) dX12_fall_152 ?_
    refine lv_iload_n X.1 X.2.1 dX12_fall_155 rfl (lv_at hl 2 rfl) ?_
    refine lv_dup2_11 X.1 X.2.1 dX12_fall_156 rfl rfl ?_
    obtain ⟨g_30, g_31, hw⟩ := hw
    refine r_iald (n := 64) X h (hF.1 84 rfl).1 rfl (by decide) g_30 g_31 dX12_fall_157 ?_
    refine j_iconst X dX12_fall_158 ?_
    refine j_iadd X dX12_fall_159 ?_
    obtain ⟨g_32, g_33, hw⟩ := hw
    refine r_iast (n := 64) X h (hF.1 84 rfl).1 (fun _ => rfl) (by decide) g_32 g_33 rfl dX12_fall_160 (fun H locs h => ?_)
    obtain ⟨σ_34, eσ_34⟩ : ∃ z : St, z = st σ_29 84 0 (Int.toNat x2) ((σ_29 84 0 (Int.toNat x2)) + 3) := ⟨_, rfl⟩
    rw [← eσ_34] at h
    have hw := hw σ_34 eσ_34
    refine j_iconst X dX12_fall_161 ?_
    refine lv_istore (lv' := [(7, .int (iv 0)), (0, .ref (ad 12 0)), (1, .int (iv x1)), (2, .int (iv x2)), (3, .int (iv x3)), (4, .int (iv x4)), (6, .int (iv x6))]) X.1 X.2.1 dX12_fall_162 hl (by decide) rfl (fun ls hl => ?_)
    refine j_iconst X dX12_fall_164 ?_
    refine lv_istore (lv' := [(8, .int (iv 0)), (7, .int (iv 0)), (0, .ref (ad 12 0)), (1, .int (iv x1)), (2, .int (iv x2)), (3, .int (iv x3)), (4, .int (iv x4)), (6, .int (iv x6))]) X.1 X.2.1 dX12_fall_165 hl (by decide) rfl (fun ls hl => ?_)
    refine j_iconst X dX12_fall_167 ?_
    refine lv_istore (lv' := [(9, .int (iv 0)), (8, .int (iv 0)), (7, .int (iv 0)), (0, .ref (ad 12 0)), (1, .int (iv x1)), (2, .int (iv x2)), (3, .int (iv x3)), (4, .int (iv x4)), (6, .int (iv x6))]) X.1 X.2.1 dX12_fall_168 hl (by decide) rfl (fun ls hl => ?_)
    exact hw.elim (fun n170 hw => lb_X12_fall_170 X (lb_X12_fall_244 X) n170 σ_34 x1 x2 x3 x4 x6 0 0 0 _ _ _ hw h (lv_sub hl [3, 4, 5, 6, 7, 8, 2, 1, 0] rfl))
  · have hw := hwf c_35
    refine j_bipush X dX12_fall_132 (by decide) ?_
    exact k_ir X rfl h hw dX12_fall_134
theorem pd_X12_fall : yX12_fall.cls ≠ "java/lang/invoke/MethodHandle" ∧ yX12_fall.cls ≠ "java/lang/invoke/VarHandle" ∧ (parseMethodDescriptor yX12_fall.desc).map (fun d => d.parameters.length) = some 5 := by decide +kernel
set_option maxRecDepth 100000 in
set_option maxHeartbeats 4000000 in
theorem c_X12_fall (l : Launch) (D : va_G) (ct : Nat → ClassId) (ad : Nat → Nat → Nat) (L : List (Nat × Nat)) (φ : Nat → Nat → Nat → Bool) (N0 : Nat) (σ : St) (x1 : Int) (x2 : Int) (x3 : Int) (x4 : Int) (x5 : Int) (Q : Int → St → Prop) (hw : wp_X12_fall σ x1 x2 x3 x4 x5 Q) : Met l yX12_fall (.code yX12_fall cX12_fall 10 (some .int) :: gw) ({ frames := 4, cells := 0, slots := 0, locals := 92 } : Room) (Pm D ct ad L φ N0 σ [.ref (ad 12 0), .int (iv x1), .int (iv x2), .int (iv x3), .int (iv x4), .int (iv x5)]) (Qi D ct ad L φ N0 Q) 0 0 (AA N0) := by
  refine m_of (by decide) (fun p e s m below meth c X hnm h => ?_)
  have hF := X.2.2.2.2.2.2.2.2.1
  have hl := lv_entry ([.ref (ad 12 0), .int (iv x1), .int (iv x2), .int (iv x3), .int (iv x4), .int (iv x5)]) (n := 10) (Nat.le_of_ble_eq_true rfl)
  rw [lg_entry_eq]
  generalize (lg_sl ([.ref (ad 12 0), .int (iv x1), .int (iv x2), .int (iv x3), .int (iv x4), .int (iv x5)]) ++ List.replicate (10 - (lg_sl ([.ref (ad 12 0), .int (iv x1), .int (iv x2), .int (iv x3), .int (iv x4), .int (iv x5)])).length) Slot.unset).toArray = ls at hl ⊢
  have hl : lv_has ls 10 [(0, .ref (ad 12 0)), (1, .int (iv x1)), (2, .int (iv x2)), (3, .int (iv x3)), (4, .int (iv x4)), (5, .int (iv x5))] := hl
  have h : Hs D ct ad L φ N0 s.heap σ s.heap [] := h
  unfold wp_X12_fall at hw
  refine lv_aload_n X.1 X.2.1 dX12_fall_0 rfl (lv_at hl 0 rfl) ?_
  refine j_iconst X dX12_fall_1 ?_
  refine r_put (ci := 12) X inw_12 tyX12 tyX12_ok nmX12 h (hF.1 12 rfl).1 rfl rfl 0 (by decide) kw_1638 rfl rfl rfl (Nat.le_of_ble_eq_true rfl) rfl rfl dX12_fall_2 (fun H locs h => ?_)
  obtain ⟨σ_36, eσ_36⟩ : ∃ z : St, z = st σ 12 0 0 0 := ⟨_, rfl⟩
  rw [← eσ_36] at h
  have hw := hw σ_36 eσ_36
  refine lv_aload_n X.1 X.2.1 dX12_fall_5 rfl (lv_at hl 0 rfl) ?_
  refine lv_iload_n X.1 X.2.1 dX12_fall_6 rfl (lv_at hl 1 rfl) ?_
  refine k_i h (r_V (C := RX12) (ci := 12) (As := [.int (iv x1)]) (rest := []) X h (c_X12_isCrew l D ct ad L φ N0 σ_36 x1 _ hw) rfl rfl ⟨Nat.le_of_ble_eq_true rfl, Nat.le_of_ble_eq_true rfl⟩ kw_2138 kw_2140 kw_81 kw_129 kw_2141 ⟨rfl, pd_X12_isCrew⟩ (hF.1 12 rfl).1 rfl rfl rfl hl.1 rfl (Nat.le_of_ble_eq_true rfl) ⟨Nat.le_of_ble_eq_true rfl, Nat.le_of_ble_eq_true rfl⟩ dX12_fall_7) (fun r_38 σ_37 H locs hw h => ?_)
  obtain ⟨g_39, hwt, hwf⟩ := hw
  refine j_if_eq (tgt := 38) X g_39 dX12_fall_10 (by decide) (fun c_73 => ?_) (fun c_73 => ?_)
  · have hw := hwt c_73
    refine j_iconst X dX12_fall_38 ?_
    exact k_ir X rfl h hw dX12_fall_39
  · have hw := hwf c_73
    refine lv_aload_n X.1 X.2.1 dX12_fall_13 rfl (lv_at hl 0 rfl) ?_
    refine r_getR (ci := 12) X inw_12 h (hF.1 12 rfl).1 rfl rfl 65 (by decide) kw_1703 rfl ((hF.1 12 rfl).2 65) dX12_fall_14 ?_
    refine lv_iload_n X.1 X.2.1 dX12_fall_17 rfl (lv_at hl 1 rfl) ?_
    obtain ⟨g_40, g_41, hw⟩ := hw
    refine r_zald (n := 20) X h (hF.1 129 rfl).1 rfl (by decide) g_40 g_41 dX12_fall_18 ?_
    obtain ⟨g_42, hwt, hwf⟩ := hw
    refine j_if_ne (tgt := 38) X g_42 dX12_fall_19 (by decide) (fun c_72 => ?_) (fun c_72 => ?_)
    · have hw := hwt c_72
      refine j_iconst X dX12_fall_38 ?_
      exact k_ir X rfl h hw dX12_fall_39
    · have hw := hwf c_72
      refine lv_iload_n X.1 X.2.1 dX12_fall_22 rfl (lv_at hl 2 rfl) ?_
      refine k_i h (r_S (As := [.int (iv x2)]) (rest := []) X h (c_X12_isCell l D ct ad L φ N0 σ_37 x2 _ hw) rfl rfl ⟨Nat.le_of_ble_eq_true rfl, Nat.le_of_ble_eq_true rfl⟩ kw_1956 kw_1957 kw_129 kw_1958 pd_X12_isCell rfl hl.1 rfl (Nat.le_of_ble_eq_true rfl) ⟨Nat.le_of_ble_eq_true rfl, Nat.le_of_ble_eq_true rfl⟩ dX12_fall_23) (fun r_44 σ_43 H locs hw h => ?_)
      obtain ⟨g_45, hwt, hwf⟩ := hw
      refine j_if_eq (tgt := 38) X g_45 dX12_fall_26 (by decide) (fun c_71 => ?_) (fun c_71 => ?_)
      · have hw := hwt c_71
        refine j_iconst X dX12_fall_38 ?_
        exact k_ir X rfl h hw dX12_fall_39
      · have hw := hwf c_71
        refine lv_iload_n X.1 X.2.1 dX12_fall_29 rfl (lv_at hl 3 rfl) ?_
        refine lv_iload X.1 X.2.1 dX12_fall_30 (lv_at hl 4 rfl) ?_
        refine k_i h (r_S (As := [.int (iv x3), .int (iv x4)]) (rest := []) X h (c_X12_isStem l D ct ad L φ N0 σ_43 x3 x4 _ hw) rfl rfl ⟨Nat.le_of_ble_eq_true rfl, Nat.le_of_ble_eq_true rfl⟩ kw_1966 kw_1967 kw_129 kw_1968 pd_X12_isStem rfl hl.1 rfl (Nat.le_of_ble_eq_true rfl) ⟨Nat.le_of_ble_eq_true rfl, Nat.le_of_ble_eq_true rfl⟩ dX12_fall_32) (fun r_47 σ_46 H locs hw h => ?_)
        obtain ⟨g_48, hwt, hwf⟩ := hw
        refine j_if_ne (tgt := 40) X g_48 dX12_fall_35 (by decide) (fun c_70 => ?_) (fun c_70 => ?_)
        · have hw := hwt c_70
          refine lv_aload_n X.1 X.2.1 dX12_fall_40 rfl (lv_at hl 0 rfl) ?_
          refine r_getR (ci := 12) X inw_12 h (hF.1 12 rfl).1 rfl rfl 4 (by decide) kw_1642 rfl ((hF.1 12 rfl).2 4) dX12_fall_41 ?_
          refine lv_iload_n X.1 X.2.1 dX12_fall_44 rfl (lv_at hl 2 rfl) ?_
          refine lv_iload_n X.1 X.2.1 dX12_fall_45 rfl (lv_at hl 3 rfl) ?_
          refine lv_iload X.1 X.2.1 dX12_fall_46 (lv_at hl 4 rfl) ?_
          refine k_i h (r_S (As := [.int (iv x2), .int (iv x3), .int (iv x4)]) (rest := [.ref (ad 85 0)]) X h (c_X12_stemAt l D ct ad L φ N0 σ_46 x2 x3 x4 _ hw) rfl rfl ⟨Nat.le_of_ble_eq_true rfl, Nat.le_of_ble_eq_true rfl⟩ kw_1969 kw_1970 kw_129 kw_1971 pd_X12_stemAt rfl hl.1 rfl (Nat.le_of_ble_eq_true rfl) ⟨Nat.le_of_ble_eq_true rfl, Nat.le_of_ble_eq_true rfl⟩ dX12_fall_48) (fun r_50 σ_49 H locs hw h => ?_)
          obtain ⟨g_51, g_52, hw⟩ := hw
          refine r_iald (n := 1024) X h (hF.1 85 rfl).1 rfl (by decide) g_51 g_52 dX12_fall_51 ?_
          obtain ⟨g_53, hwt, hwf⟩ := hw
          refine j_if_ne (tgt := 58) X g_53 dX12_fall_52 (by decide) (fun c_69 => ?_) (fun c_69 => ?_)
          · have hw := hwt c_69
            refine lv_aload_n X.1 X.2.1 dX12_fall_58 rfl (lv_at hl 0 rfl) ?_
            refine lv_iload_n X.1 X.2.1 dX12_fall_59 rfl (lv_at hl 1 rfl) ?_
            refine lv_iload_n X.1 X.2.1 dX12_fall_60 rfl (lv_at hl 2 rfl) ?_
            refine lv_iload_n X.1 X.2.1 dX12_fall_61 rfl (lv_at hl 3 rfl) ?_
            refine lv_iload X.1 X.2.1 dX12_fall_62 (lv_at hl 4 rfl) ?_
            refine k_v h (r_V (C := RX12) (ci := 12) (As := [.int (iv x1), .int (iv x2), .int (iv x3), .int (iv x4)]) (rest := []) X h (c_X12_asksCut l D ct ad L φ N0 σ_49 x1 x2 x3 x4 _ hw) rfl rfl ⟨Nat.le_of_ble_eq_true rfl, Nat.le_of_ble_eq_true rfl⟩ kw_2142 kw_2144 kw_82 kw_129 kw_2145 ⟨rfl, pd_X12_asksCut⟩ (hF.1 12 rfl).1 rfl rfl rfl hl.1 rfl (Nat.le_of_ble_eq_true rfl) ⟨Nat.le_of_ble_eq_true rfl, Nat.le_of_ble_eq_true rfl⟩ dX12_fall_64) (fun σ_54 H locs hw h => ?_)
            refine lv_aload_n X.1 X.2.1 dX12_fall_67 rfl (lv_at hl 0 rfl) ?_
            refine j_iconst X dX12_fall_68 ?_
            refine k_i h (r_V (C := RX12) (ci := 12) (As := [.int (iv 0)]) (rest := []) X h (c_X12_barring l D ct ad L φ N0 σ_54 0 _ hw) rfl rfl ⟨Nat.le_of_ble_eq_true rfl, Nat.le_of_ble_eq_true rfl⟩ kw_2167 kw_2169 kw_86 kw_129 kw_2170 ⟨rfl, pd_X12_barring⟩ (hF.1 12 rfl).1 rfl rfl rfl hl.1 rfl (Nat.le_of_ble_eq_true rfl) ⟨Nat.le_of_ble_eq_true rfl, Nat.le_of_ble_eq_true rfl⟩ dX12_fall_69) (fun r_56 σ_55 H locs hw h => ?_)
            refine j_iconst X dX12_fall_72 ?_
            obtain ⟨g_57, hwt, hwf⟩ := hw
            refine j_cmp_eq (tgt := 79) X g_57 ⟨by decide, by decide⟩ dX12_fall_73 (by decide) (fun c_68 => ?_) (fun c_68 => ?_)
            · have hw := hwt c_68
              refine lv_aload_n X.1 X.2.1 dX12_fall_79 rfl (lv_at hl 0 rfl) ?_
              refine j_iconst X dX12_fall_80 ?_
              refine k_i h (r_V (C := RX12) (ci := 12) (As := [.int (iv 3)]) (rest := []) X h (c_X12_lastOf l D ct ad L φ N0 σ_55 3 _ hw) rfl rfl ⟨Nat.le_of_ble_eq_true rfl, Nat.le_of_ble_eq_true rfl⟩ kw_2199 kw_2201 kw_92 kw_129 kw_2202 ⟨rfl, pd_X12_lastOf⟩ (hF.1 12 rfl).1 rfl rfl rfl hl.1 rfl (Nat.le_of_ble_eq_true rfl) ⟨Nat.le_of_ble_eq_true rfl, Nat.le_of_ble_eq_true rfl⟩ dX12_fall_81) (fun r_59 σ_58 H locs hw h => ?_)
              refine lv_istore (lv' := [(6, .int (iv r_59)), (0, .ref (ad 12 0)), (1, .int (iv x1)), (2, .int (iv x2)), (3, .int (iv x3)), (4, .int (iv x4)), (5, .int (iv x5))]) X.1 X.2.1 dX12_fall_84 hl (by decide) rfl (fun ls hl => ?_)
              refine lv_iload X.1 X.2.1 dX12_fall_86 (lv_at hl 6 rfl) ?_
              obtain ⟨g_60, hwt, hwf⟩ := hw
              refine j_if_ne (tgt := 102) X g_60 dX12_fall_88 (by decide) (fun c_67 => ?_) (fun c_67 => ?_)
              · have hw := hwt c_67
                refine lv_aload_n X.1 X.2.1 dX12_fall_102 rfl (lv_at hl 1 rfl) ?_
                refine lv_iload_n X.1 X.2.1 dX12_fall_103 rfl (lv_at hl 4 rfl) ?_
                refine lv_iload X.1 X.2.1 dX12_fall_104 (lv_at hl 5 rfl) ?_
                refine lv_iload X.1 X.2.1 dX12_fall_106 (lv_at hl 6 rfl) ?_
                refine k_i h (r_V (C := RX12) (ci := 12) (As := [.int (iv x3), .int (iv x4), .int (iv x5)]) (rest := []) X h (c_X12_lays l D ct ad L φ N0 σ_58 x3 x4 x5 _ hw) rfl rfl ⟨Nat.le_of_ble_eq_true rfl, Nat.le_of_ble_eq_true rfl⟩ kw_2019 kw_2021 kw_68 kw_129 kw_2022 ⟨rfl, pd_X12_lays⟩ (hF.1 12 rfl).1 rfl rfl rfl hl.1 rfl (Nat.le_of_ble_eq_true rfl) ⟨Nat.le_of_ble_eq_true rfl, Nat.le_of_ble_eq_true rfl⟩ dX12_fall_108) (fun r_62 σ_61 H locs hw h => ?_)
                obtain ⟨g_63, hwt, hwf⟩ := hw
                refine j_if_ne (tgt := 117) X g_63 dX12_fall_111 (by decide) (fun c_64 => ?_) (fun c_64 => ?_)
                · have hw := hwt c_64
                  exact lb_X12_fall_117 X σ_61 x1 x2 x3 x4 r_59 _ _ _ hw h (lv_sub hl [1, 2, 3, 4, 5, 0] rfl)
                · have hw := hwf c_64
                  refine j_bipush X dX12_fall_114 (by decide) ?_
                  exact k_ir X rfl h hw dX12_fall_116
              · have hw := hwf c_67
                refine lv_aload_n X.1 X.2.1 dX12_fall_91 rfl (lv_at hl 1 rfl) ?_
                refine lv_iload_n X.1 X.2.1 dX12_fall_92 rfl (lv_at hl 4 rfl) ?_
                refine lv_iload X.1 X.2.1 dX12_fall_93 (lv_at hl 5 rfl) ?_
                refine k_i h (r_V (C := RX12) (ci := 12) (As := [.int (iv x3), .int (iv x4)]) (rest := []) X h (c_X12_bucks l D ct ad L φ N0 σ_58 x3 x4 _ hw) rfl rfl ⟨Nat.le_of_ble_eq_true rfl, Nat.le_of_ble_eq_true rfl⟩ kw_2000 kw_2002 kw_66 kw_129 kw_2003 ⟨rfl, pd_X12_bucks⟩ (hF.1 12 rfl).1 rfl rfl rfl hl.1 rfl (Nat.le_of_ble_eq_true rfl) ⟨Nat.le_of_ble_eq_true rfl, Nat.le_of_ble_eq_true rfl⟩ dX12_fall_95) (fun r_66 σ_65 H locs hw h => ?_)
                refine lv_pop X.1 X.2.1 dX12_fall_98 rfl ?_
                refine lv_goto (tgt := 117) X.1 X.2.1 dX12_fall_99 (by decide) ?_
                exact lb_X12_fall_117 X σ_65 x1 x2 x3 x4 r_59 _ _ _ hw h (lv_sub hl [1, 2, 3, 4, 5, 0] rfl)
            · have hw := hwf c_68
              refine j_bipush X dX12_fall_76 (by decide) ?_
              exact k_ir X rfl h hw dX12_fall_78
          · have hw := hwf c_69
            refine j_bipush X dX12_fall_55 (by decide) ?_
            exact k_ir X rfl h hw dX12_fall_57
        · have hw := hwf c_70
          refine j_iconst X dX12_fall_38 ?_
          exact k_ir X rfl h hw dX12_fall_39
end
section
variable {p : Program} {l : Launch} {e : Env} {s : State} {m : MethodId} {args : Array Value} {below : List Frame} {meth : Method} {c : Code} {D : va_G} {ct : Nat → ClassId} {ad : Nat → Nat → Nat} {L : List (Nat × Nat)} {φ : Nat → Nat → Nat → Bool} {N0 : Nat}
variable {Q : Int → St → Prop}
theorem pd_X12_found : yX12_found.cls ≠ "java/lang/invoke/MethodHandle" ∧ yX12_found.cls ≠ "java/lang/invoke/VarHandle" ∧ (parseMethodDescriptor yX12_found.desc).map (fun d => d.parameters.length) = some 3 := by decide +kernel
set_option maxRecDepth 100000 in
set_option maxHeartbeats 4000000 in
theorem c_X12_found (l : Launch) (D : va_G) (ct : Nat → ClassId) (ad : Nat → Nat → Nat) (L : List (Nat × Nat)) (φ : Nat → Nat → Nat → Bool) (N0 : Nat) (σ : St) (x1 : Int) (x2 : Int) (x3 : Int) (Q : Int → St → Prop) (hw : wp_X12_found σ x1 x2 x3 Q) : Met l yX12_found (.code yX12_found cX12_found 4 (some .boolean) :: gw) ({ frames := 2, cells := 0, slots := 0, locals := 43 } : Room) (Pm D ct ad L φ N0 σ [.ref (ad 12 0), .int (iv x1), .int (iv x2), .int (iv x3)]) (Qi D ct ad L φ N0 Q) 0 0 (AA N0) := by
  refine m_of (by decide) (fun p e s m below meth c X hnm h => ?_)
  have hF := X.2.2.2.2.2.2.2.2.1
  have hl := lv_entry ([.ref (ad 12 0), .int (iv x1), .int (iv x2), .int (iv x3)]) (n := 4) (Nat.le_of_ble_eq_true rfl)
  rw [lg_entry_eq]
  generalize (lg_sl ([.ref (ad 12 0), .int (iv x1), .int (iv x2), .int (iv x3)]) ++ List.replicate (4 - (lg_sl ([.ref (ad 12 0), .int (iv x1), .int (iv x2), .int (iv x3)])).length) Slot.unset).toArray = ls at hl ⊢
  have hl : lv_has ls 4 [(0, .ref (ad 12 0)), (1, .int (iv x1)), (2, .int (iv x2)), (3, .int (iv x3))] := hl
  have h : Hs D ct ad L φ N0 s.heap σ s.heap [] := h
  unfold wp_X12_found at hw
  refine lv_aload_n X.1 X.2.1 dX12_found_0 rfl (lv_at hl 0 rfl) ?_
  refine j_iconst X dX12_found_1 ?_
  refine r_put (ci := 12) X inw_12 tyX12 tyX12_ok nmX12 h (hF.1 12 rfl).1 rfl rfl 0 (by decide) kw_1638 rfl rfl rfl (Nat.le_of_ble_eq_true rfl) rfl rfl dX12_found_2 (fun H locs h => ?_)
  obtain ⟨σ_1, eσ_1⟩ : ∃ z : St, z = st σ 12 0 0 0 := ⟨_, rfl⟩
  rw [← eσ_1] at h
  have hw := hw σ_1 eσ_1
  refine lv_iload_n X.1 X.2.1 dX12_found_5 rfl (lv_at hl 1 rfl) ?_
  refine j_iconst X dX12_found_6 ?_
  refine j_iconst X dX12_found_7 ?_
  refine k_i h (r_S (As := [.int (iv x1), .int (iv 0), .int (iv 4)]) (rest := []) X h (c_X12_within l D ct ad L φ N0 σ_1 x1 0 4 _ hw) rfl rfl ⟨Nat.le_of_ble_eq_true rfl, Nat.le_of_ble_eq_true rfl⟩ kw_1959 kw_1960 kw_129 kw_1961 pd_X12_within rfl hl.1 rfl (Nat.le_of_ble_eq_true rfl) ⟨Nat.le_of_ble_eq_true rfl, Nat.le_of_ble_eq_true rfl⟩ dX12_found_8) (fun r_3 σ_2 H locs hw h => ?_)
  obtain ⟨g_4, hwt, hwf⟩ := hw
  refine j_if_eq (tgt := 42) X g_4 dX12_found_11 (by decide) (fun c_25 => ?_) (fun c_25 => ?_)
  · have hw := hwt c_25
    refine j_iconst X dX12_found_42 ?_
    exact k_ir X rfl h hw dX12_found_43
  · have hw := hwf c_25
    refine lv_aload_n X.1 X.2.1 dX12_found_14 rfl (lv_at hl 0 rfl) ?_
    refine lv_iload_n X.1 X.2.1 dX12_found_15 rfl (lv_at hl 2 rfl) ?_
    refine k_i h (r_V (C := RX12) (ci := 12) (As := [.int (iv x2)]) (rest := []) X h (c_X12_isLog l D ct ad L φ N0 σ_2 x2 _ hw) rfl rfl ⟨Nat.le_of_ble_eq_true rfl, Nat.le_of_ble_eq_true rfl⟩ kw_2027 kw_2029 kw_69 kw_129 kw_2030 ⟨rfl, pd_X12_isLog⟩ (hF.1 12 rfl).1 rfl rfl rfl hl.1 rfl (Nat.le_of_ble_eq_true rfl) ⟨Nat.le_of_ble_eq_true rfl, Nat.le_of_ble_eq_true rfl⟩ dX12_found_16) (fun r_6 σ_5 H locs hw h => ?_)
    obtain ⟨g_7, hwt, hwf⟩ := hw
    refine j_if_eq (tgt := 42) X g_7 dX12_found_19 (by decide) (fun c_24 => ?_) (fun c_24 => ?_)
    · have hw := hwt c_24
      refine j_iconst X dX12_found_42 ?_
      exact k_ir X rfl h hw dX12_found_43
    · have hw := hwf c_24
      refine lv_iload_n X.1 X.2.1 dX12_found_22 rfl (lv_at hl 3 rfl) ?_
      refine j_iconst X dX12_found_23 ?_
      refine j_sipush X dX12_found_24 (by decide) ?_
      refine k_i h (r_S (As := [.int (iv x3), .int (iv 0), .int (iv 999)]) (rest := []) X h (c_X12_within l D ct ad L φ N0 σ_5 x3 0 999 _ hw) rfl rfl ⟨Nat.le_of_ble_eq_true rfl, Nat.le_of_ble_eq_true rfl⟩ kw_1959 kw_1960 kw_129 kw_1961 pd_X12_within rfl hl.1 rfl (Nat.le_of_ble_eq_true rfl) ⟨Nat.le_of_ble_eq_true rfl, Nat.le_of_ble_eq_true rfl⟩ dX12_found_27) (fun r_9 σ_8 H locs hw h => ?_)
      obtain ⟨g_10, hwt, hwf⟩ := hw
      refine j_if_eq (tgt := 42) X g_10 dX12_found_30 (by decide) (fun c_23 => ?_) (fun c_23 => ?_)
      · have hw := hwt c_23
        refine j_iconst X dX12_found_42 ?_
        exact k_ir X rfl h hw dX12_found_43
      · have hw := hwf c_23
        refine lv_aload_n X.1 X.2.1 dX12_found_33 rfl (lv_at hl 0 rfl) ?_
        refine r_get (ci := 12) X inw_12 h (hF.1 12 rfl).1 rfl rfl 67 (by decide) kw_1705 rfl dX12_found_34 ?_
        refine j_bipush X dX12_found_37 (by decide) ?_
        obtain ⟨g_11, hwt, hwf⟩ := hw
        refine j_cmp_ne (tgt := 44) X g_11 ⟨by decide, by decide⟩ dX12_found_39 (by decide) (fun c_22 => ?_) (fun c_22 => ?_)
        · have hw := hwt c_22
          refine lv_aload_n X.1 X.2.1 dX12_found_44 rfl (lv_at hl 0 rfl) ?_
          refine r_getR (ci := 12) X inw_12 h (hF.1 12 rfl).1 rfl rfl 68 (by decide) kw_1706 rfl ((hF.1 12 rfl).2 68) dX12_found_45 ?_
          refine lv_aload_n X.1 X.2.1 dX12_found_48 rfl (lv_at hl 0 rfl) ?_
          refine r_get (ci := 12) X inw_12 h (hF.1 12 rfl).1 rfl rfl 67 (by decide) kw_1705 rfl dX12_found_49 ?_
          refine lv_iload_n X.1 X.2.1 dX12_found_52 rfl (lv_at hl 1 rfl) ?_
          obtain ⟨g_12, g_13, hw⟩ := hw
          refine r_iast (n := 60) X h (hF.1 130 rfl).1 (fun _ => rfl) (by decide) g_12 g_13 rfl dX12_found_53 (fun H locs h => ?_)
          obtain ⟨σ_14, eσ_14⟩ : ∃ z : St, z = st σ_8 130 0 (Int.toNat (σ_8 12 0 67)) x1 := ⟨_, rfl⟩
          rw [← eσ_14] at h
          have hw := hw σ_14 eσ_14
          refine lv_aload_n X.1 X.2.1 dX12_found_54 rfl (lv_at hl 0 rfl) ?_
          refine r_getR (ci := 12) X inw_12 h (hF.1 12 rfl).1 rfl rfl 69 (by decide) kw_1707 rfl ((hF.1 12 rfl).2 69) dX12_found_55 ?_
          refine lv_aload_n X.1 X.2.1 dX12_found_58 rfl (lv_at hl 0 rfl) ?_
          refine r_get (ci := 12) X inw_12 h (hF.1 12 rfl).1 rfl rfl 67 (by decide) kw_1705 rfl dX12_found_59 ?_
          refine lv_iload_n X.1 X.2.1 dX12_found_62 rfl (lv_at hl 2 rfl) ?_
          obtain ⟨g_15, g_16, hw⟩ := hw
          refine r_iast (n := 60) X h (hF.1 131 rfl).1 (fun _ => rfl) (by decide) g_15 g_16 rfl dX12_found_63 (fun H locs h => ?_)
          obtain ⟨σ_17, eσ_17⟩ : ∃ z : St, z = st σ_14 131 0 (Int.toNat (σ_14 12 0 67)) x2 := ⟨_, rfl⟩
          rw [← eσ_17] at h
          have hw := hw σ_17 eσ_17
          refine lv_aload_n X.1 X.2.1 dX12_found_64 rfl (lv_at hl 0 rfl) ?_
          refine r_getR (ci := 12) X inw_12 h (hF.1 12 rfl).1 rfl rfl 70 (by decide) kw_1708 rfl ((hF.1 12 rfl).2 70) dX12_found_65 ?_
          refine lv_aload_n X.1 X.2.1 dX12_found_68 rfl (lv_at hl 0 rfl) ?_
          refine r_get (ci := 12) X inw_12 h (hF.1 12 rfl).1 rfl rfl 67 (by decide) kw_1705 rfl dX12_found_69 ?_
          refine lv_iload_n X.1 X.2.1 dX12_found_72 rfl (lv_at hl 3 rfl) ?_
          obtain ⟨g_18, g_19, hw⟩ := hw
          refine r_iast (n := 60) X h (hF.1 132 rfl).1 (fun _ => rfl) (by decide) g_18 g_19 rfl dX12_found_73 (fun H locs h => ?_)
          obtain ⟨σ_20, eσ_20⟩ : ∃ z : St, z = st σ_17 132 0 (Int.toNat (σ_17 12 0 67)) x3 := ⟨_, rfl⟩
          rw [← eσ_20] at h
          have hw := hw σ_20 eσ_20
          refine lv_aload_n X.1 X.2.1 dX12_found_74 rfl (lv_at hl 0 rfl) ?_
          refine lv_dup X.1 X.2.1 dX12_found_75 rfl ?_
          refine r_get (ci := 12) X inw_12 h (hF.1 12 rfl).1 rfl rfl 67 (by decide) kw_1705 rfl dX12_found_76 ?_
          refine j_iconst X dX12_found_79 ?_
          refine j_iadd X dX12_found_80 ?_
          refine r_put (ci := 12) X inw_12 tyX12 tyX12_ok nmX12 h (hF.1 12 rfl).1 rfl rfl 67 (by decide) kw_1705 rfl rfl rfl (Nat.le_of_ble_eq_true rfl) rfl rfl dX12_found_81 (fun H locs h => ?_)
          obtain ⟨σ_21, eσ_21⟩ : ∃ z : St, z = st σ_20 12 0 67 ((σ_20 12 0 67) + 1) := ⟨_, rfl⟩
          rw [← eσ_21] at h
          have hw := hw σ_21 eσ_21
          refine j_iconst X dX12_found_84 ?_
          exact k_ir X rfl h hw dX12_found_85
        · have hw := hwf c_22
          refine j_iconst X dX12_found_42 ?_
          exact k_ir X rfl h hw dX12_found_43
end
section
variable {p : Program} {l : Launch} {e : Env} {s : State} {m : MethodId} {args : Array Value} {below : List Frame} {meth : Method} {c : Code} {D : va_G} {ct : Nat → ClassId} {ad : Nat → Nat → Nat} {L : List (Nat × Nat)} {φ : Nat → Nat → Nat → Bool} {N0 : Nat}
variable {Q : Int → St → Prop}
set_option maxRecDepth 100000 in
set_option maxHeartbeats 4000000 in
theorem lb_X12_hand_149 (X : Cx p s m meth c args cX12_hand 9 (some .int) RX12 D ct L φ N0) (σ : St) (x2 : Int) (x3 : Int) (x4 : Int) (x5 : Int) (x6 : Int) (x7 : Int) (y0 : Int) (H : Heap) (locs : List Loc) (ls : Array Slot) (hw : wp_X12_hand_149 Q σ x2 x3 x4 x5 x6 x7 y0) (h : Hs D ct ad L φ N0 s.heap σ H locs) (hl : lv_has ls 9 [(2, .int (iv x2)), (3, .int (iv x3)), (4, .int (iv x4)), (5, .int (iv x5)), (6, .int (iv x6)), (7, .int (iv x7))]) : W p l e ({ frames := 1, cells := 0, slots := 0, locals := 23 } : Room) s m args below meth c H locs 0 0 (MQ below (Qi D ct ad L φ N0 Q) args s 0 0 (AA N0)) (F0 m 149 ls [.int (iv y0), .ref (ad 12 0)]) := by
  have hF := X.2.2.2.2.2.2.2.2.1
  unfold wp_X12_hand_149 at hw
  refine r_put (ci := 12) X inw_12 tyX12 tyX12_ok nmX12 h (hF.1 12 rfl).1 rfl rfl 0 (by decide) kw_1638 rfl rfl rfl (Nat.le_of_ble_eq_true rfl) rfl rfl dX12_hand_149 (fun H locs h => ?_)
  obtain ⟨σ_1, eσ_1⟩ : ∃ z : St, z = st σ 12 0 0 y0 := ⟨_, rfl⟩
  rw [← eσ_1] at h
  have hw := hw σ_1 eσ_1
  refine lv_iload X.1 X.2.1 dX12_hand_152 (lv_at hl 5 rfl) ?_
  obtain ⟨g_2, hwt, hwf⟩ := hw
  refine j_if_ne (tgt := 161) X g_2 dX12_hand_154 (by decide) (fun c_7 => ?_) (fun c_7 => ?_)
  · have hw := hwt c_7
    refine lv_iload_n X.1 X.2.1 dX12_hand_161 rfl (lv_at hl 0 rfl) ?_
    obtain ⟨g_3, hwt, hwf⟩ := hw
    refine j_if_ne (tgt := 174) X g_3 dX12_hand_162 (by decide) (fun c_6 => ?_) (fun c_6 => ?_)
    · have hw := hwt c_6
      refine lv_iload X.1 X.2.1 dX12_hand_174 (lv_at hl 4 rfl) ?_
      refine lv_iload X.1 X.2.1 dX12_hand_176 (lv_at hl 3 rfl) ?_
      refine j_isub X dX12_hand_178 ?_
      exact k_ir X rfl h hw dX12_hand_179
    · have hw := hwf c_6
      refine lv_iload X.1 X.2.1 dX12_hand_165 (lv_at hl 2 rfl) ?_
      refine lv_iload_n X.1 X.2.1 dX12_hand_167 rfl (lv_at hl 1 rfl) ?_
      refine k_i h (r_S (As := [.int (iv x4), .int (iv x3)]) (rest := []) X h (c_J9_floorDiv_7cf53 l D ct ad L φ N0 σ_1 x4 x3 _ hw) rfl rfl ⟨Nat.le_of_ble_eq_true rfl, Nat.le_of_ble_eq_true rfl⟩ kw_2295 kw_1615 kw_130 kw_1616 pd_J9_floorDiv_7cf53 rfl hl.1 rfl (Nat.le_of_ble_eq_true rfl) ⟨Nat.le_of_ble_eq_true rfl, Nat.le_of_ble_eq_true rfl⟩ dX12_hand_168) (fun r_5 σ_4 H locs hw h => ?_)
      refine lv_goto (tgt := 179) X.1 X.2.1 dX12_hand_171 (by decide) ?_
      exact k_ir X rfl h hw dX12_hand_179
  · have hw := hwf c_7
    refine j_iconst X dX12_hand_157 ?_
    refine lv_goto (tgt := 179) X.1 X.2.1 dX12_hand_158 (by decide) ?_
    exact k_ir X rfl h hw dX12_hand_179
set_option maxRecDepth 100000 in
set_option maxHeartbeats 4000000 in
theorem lb_X12_hand_136 (X : Cx p s m meth c args cX12_hand 9 (some .int) RX12 D ct L φ N0) (σ : St) (x2 : Int) (x3 : Int) (x4 : Int) (x5 : Int) (x6 : Int) (y0 : Int) (H : Heap) (locs : List Loc) (ls : Array Slot) (hw : wp_X12_hand_136 Q σ x2 x3 x4 x5 x6 y0) (h : Hs D ct ad L φ N0 s.heap σ H locs) (hl : lv_has ls 9 [(0, .ref (ad 12 0)), (2, .int (iv x2)), (3, .int (iv x3)), (4, .int (iv x4)), (5, .int (iv x5)), (6, .int (iv x6))]) : W p l e ({ frames := 1, cells := 0, slots := 0, locals := 23 } : Room) s m args below meth c H locs 0 0 (MQ below (Qi D ct ad L φ N0 Q) args s 0 0 (AA N0)) (F0 m 136 ls [.int (iv y0)]) := by
  have hF := X.2.2.2.2.2.2.2.2.1
  unfold wp_X12_hand_136 at hw
  refine lv_istore (lv' := [(7, .int (iv y0)), (0, .ref (ad 12 0)), (2, .int (iv x2)), (3, .int (iv x3)), (4, .int (iv x4)), (5, .int (iv x5)), (6, .int (iv x6))]) X.1 X.2.1 dX12_hand_136 hl (by decide) rfl (fun ls hl => ?_)
  refine lv_aload_n X.1 X.2.1 dX12_hand_138 rfl (lv_at hl 1 rfl) ?_
  refine lv_iload X.1 X.2.1 dX12_hand_139 (lv_at hl 0 rfl) ?_
  obtain ⟨g_8, hwt, hwf⟩ := hw
  refine j_if_eq (tgt := 148) X g_8 dX12_hand_141 (by decide) (fun c_9 => ?_) (fun c_9 => ?_)
  · have hw := hwt c_9
    refine j_iconst X dX12_hand_148 ?_
    exact lb_X12_hand_149 X σ x2 x3 x4 x5 x6 y0 1 _ _ _ hw h (lv_sub hl [2, 3, 4, 5, 6, 0] rfl)
  · have hw := hwf c_9
    refine j_iconst X dX12_hand_144 ?_
    refine lv_goto (tgt := 149) X.1 X.2.1 dX12_hand_145 (by decide) ?_
    exact lb_X12_hand_149 X σ x2 x3 x4 x5 x6 y0 0 _ _ _ hw h (lv_sub hl [2, 3, 4, 5, 6, 0] rfl)
set_option maxRecDepth 100000 in
set_option maxHeartbeats 4000000 in
theorem lb_X12_hand_135 (X : Cx p s m meth c args cX12_hand 9 (some .int) RX12 D ct L φ N0) (σ : St) (x2 : Int) (x3 : Int) (x4 : Int) (x5 : Int) (x6 : Int) (H : Heap) (locs : List Loc) (ls : Array Slot) (hw : wp_X12_hand_135 Q σ x2 x3 x4 x5 x6) (h : Hs D ct ad L φ N0 s.heap σ H locs) (hl : lv_has ls 9 [(0, .ref (ad 12 0)), (2, .int (iv x2)), (3, .int (iv x3)), (4, .int (iv x4)), (5, .int (iv x5)), (6, .int (iv x6))]) : W p l e ({ frames := 1, cells := 0, slots := 0, locals := 23 } : Room) s m args below meth c H locs 0 0 (MQ below (Qi D ct ad L φ N0 Q) args s 0 0 (AA N0)) (F0 m 135 ls []) := by
  have hF := X.2.2.2.2.2.2.2.2.1
  unfold wp_X12_hand_135 at hw
  refine j_iconst X dX12_hand_135 ?_
  exact lb_X12_hand_136 X σ x2 x3 x4 x5 x6 0 _ _ _ hw h (lv_sub hl [0, 1, 2, 3, 4, 5] rfl)
set_option maxRecDepth 100000 in
set_option maxHeartbeats 4000000 in
theorem lb_X12_hand_118 (X : Cx p s m meth c args cX12_hand 9 (some .int) RX12 D ct L φ N0) (σ : St) (x2 : Int) (x3 : Int) (x4 : Int) (x5 : Int) (x6 : Int) (H : Heap) (locs : List Loc) (ls : Array Slot) (hw : wp_X12_hand_118 Q σ x2 x3 x4 x5 x6) (h : Hs D ct ad L φ N0 s.heap σ H locs) (hl : lv_has ls 9 [(0, .ref (ad 12 0)), (2, .int (iv x2)), (3, .int (iv x3)), (4, .int (iv x4)), (5, .int (iv x5)), (6, .int (iv x6))]) : W p l e ({ frames := 1, cells := 0, slots := 0, locals := 23 } : Room) s m args below meth c H locs 0 0 (MQ below (Qi D ct ad L φ N0 Q) args s 0 0 (AA N0)) (F0 m 118 ls []) := by
  have hF := X.2.2.2.2.2.2.2.2.1
  unfold wp_X12_hand_118 at hw
  refine lv_iload_n X.1 X.2.1 dX12_hand_118 rfl (lv_at hl 2 rfl) ?_
  obtain ⟨g_10, hwt, hwf⟩ := hw
  refine j_if_le (tgt := 135) X g_10 dX12_hand_119 (by decide) (fun c_15 => ?_) (fun c_15 => ?_)
  · have hw := hwt c_15
    exact lb_X12_hand_135 X σ x2 x3 x4 x5 x6 _ _ _ hw h (lv_sub hl [0, 1, 2, 3, 4, 5] rfl)
  · have hw := hwf c_15
    refine lv_iload_n X.1 X.2.1 dX12_hand_122 rfl (lv_at hl 1 rfl) ?_
    refine j_iconst X dX12_hand_123 ?_
    refine j_iconst X dX12_hand_124 ?_
    refine k_i h (r_S (As := [.int (iv x2), .int (iv 0), .int (iv 1)]) (rest := []) X h (c_X12_within l D ct ad L φ N0 σ x2 0 1 _ hw) rfl rfl ⟨Nat.le_of_ble_eq_true rfl, Nat.le_of_ble_eq_true rfl⟩ kw_1959 kw_1960 kw_129 kw_1961 pd_X12_within rfl hl.1 rfl (Nat.le_of_ble_eq_true rfl) ⟨Nat.le_of_ble_eq_true rfl, Nat.le_of_ble_eq_true rfl⟩ dX12_hand_125) (fun r_12 σ_11 H locs hw h => ?_)
    obtain ⟨g_13, hwt, hwf⟩ := hw
    refine j_if_eq (tgt := 135) X g_13 dX12_hand_128 (by decide) (fun c_14 => ?_) (fun c_14 => ?_)
    · have hw := hwt c_14
      exact lb_X12_hand_135 X σ_11 x2 x3 x4 x5 x6 _ _ _ hw h (lv_sub hl [0, 1, 2, 3, 4, 5] rfl)
    · have hw := hwf c_14
      refine j_iconst X dX12_hand_131 ?_
      refine lv_goto (tgt := 136) X.1 X.2.1 dX12_hand_132 (by decide) ?_
      exact lb_X12_hand_136 X σ_11 x2 x3 x4 x5 x6 1 _ _ _ hw h (lv_sub hl [0, 1, 2, 3, 4, 5] rfl)
set_option maxRecDepth 100000 in
set_option maxHeartbeats 4000000 in
theorem lb_X12_hand_112 (X : Cx p s m meth c args cX12_hand 9 (some .int) RX12 D ct L φ N0) {K14 : St → Int → Int → Int → Int → Int → Int → Int → Prop} {K118 : St → Int → Int → Int → Int → Int → Prop} (hK14 : ∀ (σ : St) (x1 : Int) (x2 : Int) (x3 : Int) (x4 : Int) (x5 : Int) (x6 : Int) (x7 : Int) (H : Heap) (locs : List Loc) (ls : Array Slot), K14 σ x1 x2 x3 x4 x5 x6 x7 → Hs D ct ad L φ N0 s.heap σ H locs → lv_has ls 9 [(0, .ref (ad 12 0)), (1, .int (iv x1)), (2, .int (iv x2)), (3, .int (iv x3)), (4, .int (iv x4)), (5, .int (iv x5)), (6, .int (iv x6)), (7, .int (iv x7))] → W p l e ({ frames := 1, cells := 0, slots := 0, locals := 23 } : Room) s m args below meth c H locs 0 0 (MQ below (Qi D ct ad L φ N0 Q) args s 0 0 (AA N0)) (F0 m 14 ls [])) (hK118 : ∀ (σ : St) (x2 : Int) (x3 : Int) (x4 : Int) (x5 : Int) (x6 : Int) (H : Heap) (locs : List Loc) (ls : Array Slot), K118 σ x2 x3 x4 x5 x6 → Hs D ct ad L φ N0 s.heap σ H locs → lv_has ls 9 [(0, .ref (ad 12 0)), (2, .int (iv x2)), (3, .int (iv x3)), (4, .int (iv x4)), (5, .int (iv x5)), (6, .int (iv x6))] → W p l e ({ frames := 1, cells := 0, slots := 0, locals := 23 } : Room) s m args below meth c H locs 0 0 (MQ below (Qi D ct ad L φ N0 Q) args s 0 0 (AA N0)) (F0 m 118 ls [])) (σ : St) (x1 : Int) (x2 : Int) (x3 : Int) (x4 : Int) (x5 : Int) (x6 : Int) (x7 : Int) (H : Heap) (locs : List Loc) (ls : Array Slot) (hw : wp_X12_hand_112 K14 K118 Q σ x1 x2 x3 x4 x5 x6 x7) (h : Hs D ct ad L φ N0 s.heap σ H locs) (hl : lv_has ls 9 [(0, .ref (ad 12 0)), (1, .int (iv x1)), (2, .int (iv x2)), (3, .int (iv x3)), (4, .int (iv x4)), (5, .int (iv x5)), (6, .int (iv x6)), (7, .int (iv x7))]) : W p l e ({ frames := 1, cells := 0, slots := 0, locals := 23 } : Room) s m args below meth c H locs 0 0 (MQ below (Qi D ct ad L φ N0 Q) args s 0 0 (AA N0)) (F0 m 112 ls []) := by
  have hF := X.2.2.2.2.2.2.2.2.1
  unfold wp_X12_hand_112 at hw
  refine j_iinc (kk9 := 7) (lv' := [(7, .int (iv (x7 + 1))), (0, .ref (ad 12 0)), (1, .int (iv x1)), (2, .int (iv x2)), (3, .int (iv x3)), (4, .int (iv x4)), (5, .int (iv x5)), (6, .int (iv x6))]) X dX12_hand_112 hl rfl (by decide) rfl (fun ls hl => ?_)
  refine lv_goto (tgt := 14) X.1 X.2.1 dX12_hand_115 (by decide) ?_
  exact hK14 σ x1 x2 x3 x4 x5 x6 (x7 + 1) _ _ _ hw h (lv_sub hl [1, 2, 3, 4, 5, 6, 7, 0] rfl)
set_option maxRecDepth 100000 in
set_option maxHeartbeats 4000000 in
theorem lb_X12_hand_100 (X : Cx p s m meth c args cX12_hand 9 (some .int) RX12 D ct L φ N0) {K14 : St → Int → Int → Int → Int → Int → Int → Int → Prop} {K118 : St → Int → Int → Int → Int → Int → Prop} (hK14 : ∀ (σ : St) (x1 : Int) (x2 : Int) (x3 : Int) (x4 : Int) (x5 : Int) (x6 : Int) (x7 : Int) (H : Heap) (locs : List Loc) (ls : Array Slot), K14 σ x1 x2 x3 x4 x5 x6 x7 → Hs D ct ad L φ N0 s.heap σ H locs → lv_has ls 9 [(0, .ref (ad 12 0)), (1, .int (iv x1)), (2, .int (iv x2)), (3, .int (iv x3)), (4, .int (iv x4)), (5, .int (iv x5)), (6, .int (iv x6)), (7, .int (iv x7))] → W p l e ({ frames := 1, cells := 0, slots := 0, locals := 23 } : Room) s m args below meth c H locs 0 0 (MQ below (Qi D ct ad L φ N0 Q) args s 0 0 (AA N0)) (F0 m 14 ls [])) (hK118 : ∀ (σ : St) (x2 : Int) (x3 : Int) (x4 : Int) (x5 : Int) (x6 : Int) (H : Heap) (locs : List Loc) (ls : Array Slot), K118 σ x2 x3 x4 x5 x6 → Hs D ct ad L φ N0 s.heap σ H locs → lv_has ls 9 [(0, .ref (ad 12 0)), (2, .int (iv x2)), (3, .int (iv x3)), (4, .int (iv x4)), (5, .int (iv x5)), (6, .int (iv x6))] → W p l e ({ frames := 1, cells := 0, slots := 0, locals := 23 } : Room) s m args below meth c H locs 0 0 (MQ below (Qi D ct ad L φ N0 Q) args s 0 0 (AA N0)) (F0 m 118 ls [])) (σ : St) (x1 : Int) (x2 : Int) (x3 : Int) (x4 : Int) (x5 : Int) (x7 : Int) (x8 : Int) (y0 : Int) (H : Heap) (locs : List Loc) (ls : Array Slot) (hw : wp_X12_hand_100 K14 K118 Q σ x1 x2 x3 x4 x5 x7 x8 y0) (h : Hs D ct ad L φ N0 s.heap σ H locs) (hl : lv_has ls 9 [(0, .ref (ad 12 0)), (1, .int (iv x1)), (2, .int (iv x2)), (3, .int (iv x3)), (4, .int (iv x4)), (5, .int (iv x5)), (7, .int (iv x7)), (8, .int (iv x8))]) : W p l e ({ frames := 1, cells := 0, slots := 0, locals := 23 } : Room) s m args below meth c H locs 0 0 (MQ below (Qi D ct ad L φ N0 Q) args s 0 0 (AA N0)) (F0 m 100 ls [.int (iv y0)]) := by
  have hF := X.2.2.2.2.2.2.2.2.1
  unfold wp_X12_hand_100 at hw
  refine lv_istore (lv' := [(6, .int (iv y0)), (0, .ref (ad 12 0)), (1, .int (iv x1)), (2, .int (iv x2)), (3, .int (iv x3)), (4, .int (iv x4)), (5, .int (iv x5)), (7, .int (iv x7)), (8, .int (iv x8))]) X.1 X.2.1 dX12_hand_100 hl (by decide) rfl (fun ls hl => ?_)
  refine lv_iload X.1 X.2.1 dX12_hand_102 (lv_at hl 5 rfl) ?_
  refine lv_iload X.1 X.2.1 dX12_hand_104 (lv_at hl 8 rfl) ?_
  refine j_iadd X dX12_hand_106 ?_
  refine j_bind (fun v_16 ev_16 => ?_)
  have hw := hw v_16 ev_16
  refine lv_istore (lv' := [(4, .int (iv v_16)), (6, .int (iv y0)), (0, .ref (ad 12 0)), (1, .int (iv x1)), (2, .int (iv x2)), (3, .int (iv x3)), (5, .int (iv x5)), (7, .int (iv x7)), (8, .int (iv x8))]) X.1 X.2.1 dX12_hand_107 hl (by decide) rfl (fun ls hl => ?_)
  refine j_iinc (kk9 := 5) (lv' := [(3, .int (iv (x3 + 1))), (4, .int (iv v_16)), (6, .int (iv y0)), (0, .ref (ad 12 0)), (1, .int (iv x1)), (2, .int (iv x2)), (5, .int (iv x5)), (7, .int (iv x7)), (8, .int (iv x8))]) X dX12_hand_109 hl rfl (by decide) rfl (fun ls hl => ?_)
  exact lb_X12_hand_112 X hK14 hK118 σ x1 x2 (x3 + 1) v_16 x5 y0 x7 _ _ _ hw h (lv_sub hl [3, 4, 5, 0, 1, 6, 2, 7] rfl)
set_option maxRecDepth 100000 in
set_option maxHeartbeats 4000000 in
theorem lb_X12_hand_93 (X : Cx p s m meth c args cX12_hand 9 (some .int) RX12 D ct L φ N0) {K14 : St → Int → Int → Int → Int → Int → Int → Int → Prop} {K118 : St → Int → Int → Int → Int → Int → Prop} (hK14 : ∀ (σ : St) (x1 : Int) (x2 : Int) (x3 : Int) (x4 : Int) (x5 : Int) (x6 : Int) (x7 : Int) (H : Heap) (locs : List Loc) (ls : Array Slot), K14 σ x1 x2 x3 x4 x5 x6 x7 → Hs D ct ad L φ N0 s.heap σ H locs → lv_has ls 9 [(0, .ref (ad 12 0)), (1, .int (iv x1)), (2, .int (iv x2)), (3, .int (iv x3)), (4, .int (iv x4)), (5, .int (iv x5)), (6, .int (iv x6)), (7, .int (iv x7))] → W p l e ({ frames := 1, cells := 0, slots := 0, locals := 23 } : Room) s m args below meth c H locs 0 0 (MQ below (Qi D ct ad L φ N0 Q) args s 0 0 (AA N0)) (F0 m 14 ls [])) (hK118 : ∀ (σ : St) (x2 : Int) (x3 : Int) (x4 : Int) (x5 : Int) (x6 : Int) (H : Heap) (locs : List Loc) (ls : Array Slot), K118 σ x2 x3 x4 x5 x6 → Hs D ct ad L φ N0 s.heap σ H locs → lv_has ls 9 [(0, .ref (ad 12 0)), (2, .int (iv x2)), (3, .int (iv x3)), (4, .int (iv x4)), (5, .int (iv x5)), (6, .int (iv x6))] → W p l e ({ frames := 1, cells := 0, slots := 0, locals := 23 } : Room) s m args below meth c H locs 0 0 (MQ below (Qi D ct ad L φ N0 Q) args s 0 0 (AA N0)) (F0 m 118 ls [])) (σ : St) (x1 : Int) (x2 : Int) (x3 : Int) (x4 : Int) (x5 : Int) (x7 : Int) (x8 : Int) (H : Heap) (locs : List Loc) (ls : Array Slot) (hw : wp_X12_hand_93 K14 K118 Q σ x1 x2 x3 x4 x5 x7 x8) (h : Hs D ct ad L φ N0 s.heap σ H locs) (hl : lv_has ls 9 [(0, .ref (ad 12 0)), (1, .int (iv x1)), (2, .int (iv x2)), (3, .int (iv x3)), (4, .int (iv x4)), (5, .int (iv x5)), (7, .int (iv x7)), (8, .int (iv x8))]) : W p l e ({ frames := 1, cells := 0, slots := 0, locals := 23 } : Room) s m args below meth c H locs 0 0 (MQ below (Qi D ct ad L φ N0 Q) args s 0 0 (AA N0)) (F0 m 93 ls []) := by
  have hF := X.2.2.2.2.2.2.2.2.1
  unfold wp_X12_hand_93 at hw
  refine lv_iload X.1 X.2.1 dX12_hand_93 (lv_at hl 7 rfl) ?_
  refine lv_goto (tgt := 100) X.1 X.2.1 dX12_hand_95 (by decide) ?_
  exact lb_X12_hand_100 X hK14 hK118 σ x1 x2 x3 x4 x5 x7 x8 x8 _ _ _ hw h (lv_sub hl [0, 1, 2, 3, 4, 5, 6, 7] rfl)
set_option maxRecDepth 100000 in
set_option maxHeartbeats 4000000 in
theorem lb_X12_hand_80 (X : Cx p s m meth c args cX12_hand 9 (some .int) RX12 D ct L φ N0) {K14 : St → Int → Int → Int → Int → Int → Int → Int → Prop} {K118 : St → Int → Int → Int → Int → Int → Prop} (hK14 : ∀ (σ : St) (x1 : Int) (x2 : Int) (x3 : Int) (x4 : Int) (x5 : Int) (x6 : Int) (x7 : Int) (H : Heap) (locs : List Loc) (ls : Array Slot), K14 σ x1 x2 x3 x4 x5 x6 x7 → Hs D ct ad L φ N0 s.heap σ H locs → lv_has ls 9 [(0, .ref (ad 12 0)), (1, .int (iv x1)), (2, .int (iv x2)), (3, .int (iv x3)), (4, .int (iv x4)), (5, .int (iv x5)), (6, .int (iv x6)), (7, .int (iv x7))] → W p l e ({ frames := 1, cells := 0, slots := 0, locals := 23 } : Room) s m args below meth c H locs 0 0 (MQ below (Qi D ct ad L φ N0 Q) args s 0 0 (AA N0)) (F0 m 14 ls [])) (hK118 : ∀ (σ : St) (x2 : Int) (x3 : Int) (x4 : Int) (x5 : Int) (x6 : Int) (H : Heap) (locs : List Loc) (ls : Array Slot), K118 σ x2 x3 x4 x5 x6 → Hs D ct ad L φ N0 s.heap σ H locs → lv_has ls 9 [(0, .ref (ad 12 0)), (2, .int (iv x2)), (3, .int (iv x3)), (4, .int (iv x4)), (5, .int (iv x5)), (6, .int (iv x6))] → W p l e ({ frames := 1, cells := 0, slots := 0, locals := 23 } : Room) s m args below meth c H locs 0 0 (MQ below (Qi D ct ad L φ N0 Q) args s 0 0 (AA N0)) (F0 m 118 ls [])) (σ : St) (x1 : Int) (x2 : Int) (x3 : Int) (x4 : Int) (x6 : Int) (x7 : Int) (x8 : Int) (y0 : Int) (H : Heap) (locs : List Loc) (ls : Array Slot) (hw : wp_X12_hand_80 K14 K118 Q σ x1 x2 x3 x4 x6 x7 x8 y0) (h : Hs D ct ad L φ N0 s.heap σ H locs) (hl : lv_has ls 9 [(0, .ref (ad 12 0)), (1, .int (iv x1)), (2, .int (iv x2)), (3, .int (iv x3)), (4, .int (iv x4)), (6, .int (iv x6)), (7, .int (iv x7)), (8, .int (iv x8))]) : W p l e ({ frames := 1, cells := 0, slots := 0, locals := 23 } : Room) s m args below meth c H locs 0 0 (MQ below (Qi D ct ad L φ N0 Q) args s 0 0 (AA N0)) (F0 m 80 ls [.int (iv y0)]) := by
  have hF := X.2.2.2.2.2.2.2.2.1
  unfold wp_X12_hand_80 at hw
  refine lv_istore (lv' := [(5, .int (iv y0)), (0, .ref (ad 12 0)), (1, .int (iv x1)), (2, .int (iv x2)), (3, .int (iv x3)), (4, .int (iv x4)), (6, .int (iv x6)), (7, .int (iv x7)), (8, .int (iv x8))]) X.1 X.2.1 dX12_hand_80 hl (by decide) rfl (fun ls hl => ?_)
  refine lv_iload_n X.1 X.2.1 dX12_hand_82 rfl (lv_at hl 4 rfl) ?_
  obtain ⟨g_17, hwt, hwf⟩ := hw
  refine j_if_eq (tgt := 93) X g_17 dX12_hand_83 (by decide) (fun c_21 => ?_) (fun c_21 => ?_)
  · have hw := hwt c_21
    exact lb_X12_hand_93 X hK14 hK118 σ x1 x2 x3 x4 y0 x7 x8 _ _ _ hw h (lv_sub hl [1, 2, 3, 4, 5, 0, 7, 8] rfl)
  · have hw := hwf c_21
    refine lv_iload X.1 X.2.1 dX12_hand_86 (lv_at hl 8 rfl) ?_
    refine lv_iload X.1 X.2.1 dX12_hand_88 (lv_at hl 6 rfl) ?_
    obtain ⟨g_18, g_19, hwt, hwf⟩ := hw
    refine j_cmp_le (tgt := 98) X g_18 g_19 dX12_hand_90 (by decide) (fun c_20 => ?_) (fun c_20 => ?_)
    · have hw := hwt c_20
      refine lv_iload X.1 X.2.1 dX12_hand_98 (lv_at hl 6 rfl) ?_
      exact lb_X12_hand_100 X hK14 hK118 σ x1 x2 x3 x4 y0 x7 x8 x6 _ _ _ hw h (lv_sub hl [1, 2, 3, 4, 5, 0, 7, 8] rfl)
    · have hw := hwf c_20
      exact lb_X12_hand_93 X hK14 hK118 σ x1 x2 x3 x4 y0 x7 x8 _ _ _ hw h (lv_sub hl [1, 2, 3, 4, 5, 0, 7, 8] rfl)
set_option maxRecDepth 100000 in
set_option maxHeartbeats 4000000 in
theorem lb_X12_hand_73 (X : Cx p s m meth c args cX12_hand 9 (some .int) RX12 D ct L φ N0) {K14 : St → Int → Int → Int → Int → Int → Int → Int → Prop} {K118 : St → Int → Int → Int → Int → Int → Prop} (hK14 : ∀ (σ : St) (x1 : Int) (x2 : Int) (x3 : Int) (x4 : Int) (x5 : Int) (x6 : Int) (x7 : Int) (H : Heap) (locs : List Loc) (ls : Array Slot), K14 σ x1 x2 x3 x4 x5 x6 x7 → Hs D ct ad L φ N0 s.heap σ H locs → lv_has ls 9 [(0, .ref (ad 12 0)), (1, .int (iv x1)), (2, .int (iv x2)), (3, .int (iv x3)), (4, .int (iv x4)), (5, .int (iv x5)), (6, .int (iv x6)), (7, .int (iv x7))] → W p l e ({ frames := 1, cells := 0, slots := 0, locals := 23 } : Room) s m args below meth c H locs 0 0 (MQ below (Qi D ct ad L φ N0 Q) args s 0 0 (AA N0)) (F0 m 14 ls [])) (hK118 : ∀ (σ : St) (x2 : Int) (x3 : Int) (x4 : Int) (x5 : Int) (x6 : Int) (H : Heap) (locs : List Loc) (ls : Array Slot), K118 σ x2 x3 x4 x5 x6 → Hs D ct ad L φ N0 s.heap σ H locs → lv_has ls 9 [(0, .ref (ad 12 0)), (2, .int (iv x2)), (3, .int (iv x3)), (4, .int (iv x4)), (5, .int (iv x5)), (6, .int (iv x6))] → W p l e ({ frames := 1, cells := 0, slots := 0, locals := 23 } : Room) s m args below meth c H locs 0 0 (MQ below (Qi D ct ad L φ N0 Q) args s 0 0 (AA N0)) (F0 m 118 ls [])) (σ : St) (x1 : Int) (x2 : Int) (x3 : Int) (x4 : Int) (x6 : Int) (x7 : Int) (x8 : Int) (H : Heap) (locs : List Loc) (ls : Array Slot) (hw : wp_X12_hand_73 K14 K118 Q σ x1 x2 x3 x4 x6 x7 x8) (h : Hs D ct ad L φ N0 s.heap σ H locs) (hl : lv_has ls 9 [(0, .ref (ad 12 0)), (1, .int (iv x1)), (2, .int (iv x2)), (3, .int (iv x3)), (4, .int (iv x4)), (6, .int (iv x6)), (7, .int (iv x7)), (8, .int (iv x8))]) : W p l e ({ frames := 1, cells := 0, slots := 0, locals := 23 } : Room) s m args below meth c H locs 0 0 (MQ below (Qi D ct ad L φ N0 Q) args s 0 0 (AA N0)) (F0 m 73 ls []) := by
  have hF := X.2.2.2.2.2.2.2.2.1
  unfold wp_X12_hand_73 at hw
  refine lv_iload X.1 X.2.1 dX12_hand_73 (lv_at hl 7 rfl) ?_
  refine lv_goto (tgt := 80) X.1 X.2.1 dX12_hand_75 (by decide) ?_
  exact lb_X12_hand_80 X hK14 hK118 σ x1 x2 x3 x4 x6 x7 x8 x8 _ _ _ hw h (lv_sub hl [0, 1, 2, 3, 4, 5, 6, 7] rfl)
set_option maxRecDepth 100000 in
set_option maxHeartbeats 4000000 in
theorem lb_X12_hand_14 (X : Cx p s m meth c args cX12_hand 9 (some .int) RX12 D ct L φ N0) {K118 : St → Int → Int → Int → Int → Int → Prop} (hK118 : ∀ (σ : St) (x2 : Int) (x3 : Int) (x4 : Int) (x5 : Int) (x6 : Int) (H : Heap) (locs : List Loc) (ls : Array Slot), K118 σ x2 x3 x4 x5 x6 → Hs D ct ad L φ N0 s.heap σ H locs → lv_has ls 9 [(0, .ref (ad 12 0)), (2, .int (iv x2)), (3, .int (iv x3)), (4, .int (iv x4)), (5, .int (iv x5)), (6, .int (iv x6))] → W p l e ({ frames := 1, cells := 0, slots := 0, locals := 23 } : Room) s m args below meth c H locs 0 0 (MQ below (Qi D ct ad L φ N0 Q) args s 0 0 (AA N0)) (F0 m 118 ls [])) : ∀ (n : Nat) (σ : St) (x1 : Int) (x2 : Int) (x3 : Int) (x4 : Int) (x5 : Int) (x6 : Int) (x7 : Int) (H : Heap) (locs : List Loc) (ls : Array Slot), wp_X12_hand_14 K118 Q n σ x1 x2 x3 x4 x5 x6 x7 → Hs D ct ad L φ N0 s.heap σ H locs → lv_has ls 9 [(0, .ref (ad 12 0)), (1, .int (iv x1)), (2, .int (iv x2)), (3, .int (iv x3)), (4, .int (iv x4)), (5, .int (iv x5)), (6, .int (iv x6)), (7, .int (iv x7))] → W p l e ({ frames := 1, cells := 0, slots := 0, locals := 23 } : Room) s m args below meth c H locs 0 0 (MQ below (Qi D ct ad L φ N0 Q) args s 0 0 (AA N0)) (F0 m 14 ls []) := by
  have hF := X.2.2.2.2.2.2.2.2.1
  intro n
  induction n with
  | zero => intro σ x1 x2 x3 x4 x5 x6 x7 H locs ls hw; exact hw.elim
  | succ n ih =>
    intro σ x1 x2 x3 x4 x5 x6 x7 H locs ls hw h hl
    unfold wp_X12_hand_14 at hw
    refine lv_iload X.1 X.2.1 dX12_hand_14 (lv_at hl 7 rfl) ?_
    refine lv_aload_n X.1 X.2.1 dX12_hand_16 rfl (lv_at hl 0 rfl) ?_
    refine r_get (ci := 12) X inw_12 h (hF.1 12 rfl).1 rfl rfl 67 (by decide) kw_1705 rfl dX12_hand_17 ?_
    obtain ⟨g_22, g_23, hwt, hwf⟩ := hw
    refine j_cmp_ge (tgt := 118) X g_22 g_23 dX12_hand_20 (by decide) (fun c_41 => ?_) (fun c_41 => ?_)
    · have hw := hwt c_41
      exact hK118 σ x2 x3 x4 x5 x6 _ _ _ hw h (lv_sub hl [0, 2, 3, 4, 5, 6] rfl)
    · have hw := hwf c_41
      refine lv_aload_n X.1 X.2.1 dX12_hand_23 rfl (lv_at hl 0 rfl) ?_
      refine r_getR (ci := 12) X inw_12 h (hF.1 12 rfl).1 rfl rfl 68 (by decide) kw_1706 rfl ((hF.1 12 rfl).2 68) dX12_hand_24 ?_
      refine lv_iload X.1 X.2.1 dX12_hand_27 (lv_at hl 7 rfl) ?_
      obtain ⟨g_24, g_25, hw⟩ := hw
      refine r_iald (n := 60) X h (hF.1 130 rfl).1 rfl (by decide) g_24 g_25 dX12_hand_29 ?_
      refine lv_iload_n X.1 X.2.1 dX12_hand_30 rfl (lv_at hl 1 rfl) ?_
      obtain ⟨g_26, g_27, hwt, hwf⟩ := hw
      refine j_cmp_eq (tgt := 37) X g_26 g_27 dX12_hand_31 (by decide) (fun c_40 => ?_) (fun c_40 => ?_)
      · have hw := hwt c_40
        refine lv_aload_n X.1 X.2.1 dX12_hand_37 rfl (lv_at hl 0 rfl) ?_
        refine r_getR (ci := 12) X inw_12 h (hF.1 12 rfl).1 rfl rfl 70 (by decide) kw_1708 rfl ((hF.1 12 rfl).2 70) dX12_hand_38 ?_
        refine lv_iload X.1 X.2.1 dX12_hand_41 (lv_at hl 7 rfl) ?_
        obtain ⟨g_28, g_29, hw⟩ := hw
        refine r_iald (n := 60) X h (hF.1 132 rfl).1 rfl (by decide) g_28 g_29 dX12_hand_43 ?_
        refine lv_aload_n X.1 X.2.1 dX12_hand_44 rfl (lv_at hl 0 rfl) ?_
        refine lv_aload_n X.1 X.2.1 dX12_hand_45 rfl (lv_at hl 0 rfl) ?_
        refine r_getR (ci := 12) X inw_12 h (hF.1 12 rfl).1 rfl rfl 69 (by decide) kw_1707 rfl ((hF.1 12 rfl).2 69) dX12_hand_46 ?_
        refine lv_iload X.1 X.2.1 dX12_hand_49 (lv_at hl 7 rfl) ?_
        obtain ⟨g_30, g_31, hw⟩ := hw
        refine r_iald (n := 60) X h (hF.1 131 rfl).1 rfl (by decide) g_30 g_31 dX12_hand_51 ?_
        refine lv_aload_n X.1 X.2.1 dX12_hand_52 rfl (lv_at hl 0 rfl) ?_
        refine r_get (ci := 12) X inw_12 h (hF.1 12 rfl).1 rfl rfl 66 (by decide) kw_1704 rfl dX12_hand_53 ?_
        refine k_i h (r_V (C := RX12) (ci := 12) (As := [.int (iv (σ 131 0 (Int.toNat x7))), .int (iv (σ 12 0 66))]) (rest := [.int (iv (σ 132 0 (Int.toNat x7)))]) X h (c_X12_scaleOf l D ct ad L φ N0 σ (σ 131 0 (Int.toNat x7)) (σ 12 0 66) _ hw) rfl rfl ⟨Nat.le_of_ble_eq_true rfl, Nat.le_of_ble_eq_true rfl⟩ kw_2275 kw_2277 kw_99 kw_129 kw_2278 ⟨rfl, pd_X12_scaleOf⟩ (hF.1 12 rfl).1 rfl rfl rfl hl.1 rfl (Nat.le_of_ble_eq_true rfl) ⟨Nat.le_of_ble_eq_true rfl, Nat.le_of_ble_eq_true rfl⟩ dX12_hand_56) (fun r_33 σ_32 H locs hw h => ?_)
        refine j_isub X dX12_hand_59 ?_
        refine j_bind (fun v_34 ev_34 => ?_)
        have hw := hw v_34 ev_34
        refine lv_istore (lv' := [(8, .int (iv v_34)), (0, .ref (ad 12 0)), (1, .int (iv x1)), (2, .int (iv x2)), (3, .int (iv x3)), (4, .int (iv x4)), (5, .int (iv x5)), (6, .int (iv x6)), (7, .int (iv x7))]) X.1 X.2.1 dX12_hand_60 hl (by decide) rfl (fun ls hl => ?_)
        refine lv_iload_n X.1 X.2.1 dX12_hand_62 rfl (lv_at hl 4 rfl) ?_
        obtain ⟨g_35, hwt, hwf⟩ := hw
        refine j_if_eq (tgt := 73) X g_35 dX12_hand_63 (by decide) (fun c_39 => ?_) (fun c_39 => ?_)
        · have hw := hwt c_39
          exact lb_X12_hand_73 X ih hK118 σ_32 x1 x2 x3 x4 x6 x7 v_34 _ _ _ hw h (lv_sub hl [1, 2, 3, 4, 5, 7, 8, 0] rfl)
        · have hw := hwf c_39
          refine lv_iload X.1 X.2.1 dX12_hand_66 (lv_at hl 0 rfl) ?_
          refine lv_iload X.1 X.2.1 dX12_hand_68 (lv_at hl 6 rfl) ?_
          obtain ⟨g_36, g_37, hwt, hwf⟩ := hw
          refine j_cmp_ge (tgt := 78) X g_36 g_37 dX12_hand_70 (by decide) (fun c_38 => ?_) (fun c_38 => ?_)
          · have hw := hwt c_38
            refine lv_iload X.1 X.2.1 dX12_hand_78 (lv_at hl 6 rfl) ?_
            exact lb_X12_hand_80 X ih hK118 σ_32 x1 x2 x3 x4 x6 x7 v_34 x5 _ _ _ hw h (lv_sub hl [1, 2, 3, 4, 5, 7, 8, 0] rfl)
          · have hw := hwf c_38
            exact lb_X12_hand_73 X ih hK118 σ_32 x1 x2 x3 x4 x6 x7 v_34 _ _ _ hw h (lv_sub hl [1, 2, 3, 4, 5, 7, 8, 0] rfl)
      · have hw := hwf c_40
        refine lv_goto (tgt := 112) X.1 X.2.1 dX12_hand_34 (by decide) ?_
        exact lb_X12_hand_112 X ih hK118 σ x1 x2 x3 x4 x5 x6 x7 _ _ _ hw h (lv_sub hl [0, 1, 2, 3, 4, 5, 6, 7] rfl)
theorem pd_X12_hand : yX12_hand.cls ≠ "java/lang/invoke/MethodHandle" ∧ yX12_hand.cls ≠ "java/lang/invoke/VarHandle" ∧ (parseMethodDescriptor yX12_hand.desc).map (fun d => d.parameters.length) = some 2 := by decide +kernel
set_option maxRecDepth 100000 in
set_option maxHeartbeats 4000000 in
theorem c_X12_hand (l : Launch) (D : va_G) (ct : Nat → ClassId) (ad : Nat → Nat → Nat) (L : List (Nat × Nat)) (φ : Nat → Nat → Nat → Bool) (N0 : Nat) (σ : St) (x1 : Int) (x2 : Int) (Q : Int → St → Prop) (hw : wp_X12_hand σ x1 x2 Q) : Met l yX12_hand (.code yX12_hand cX12_hand 9 (some .int) :: gw) ({ frames := 1, cells := 0, slots := 0, locals := 23 } : Room) (Pm D ct ad L φ N0 σ [.ref (ad 12 0), .int (iv x1), .int (iv x2)]) (Qi D ct ad L φ N0 Q) 0 0 (AA N0) := by
  refine m_of (by decide) (fun p e s m below meth c X hnm h => ?_)
  have hF := X.2.2.2.2.2.2.2.2.1
  have hl := lv_entry ([.ref (ad 12 0), .int (iv x1), .int (iv x2)]) (n := 9) (Nat.le_of_ble_eq_true rfl)
  rw [lg_entry_eq]
  generalize (lg_sl ([.ref (ad 12 0), .int (iv x1), .int (iv x2)]) ++ List.replicate (9 - (lg_sl ([.ref (ad 12 0), .int (iv x1), .int (iv x2)])).length) Slot.unset).toArray = ls at hl ⊢
  have hl : lv_has ls 9 [(0, .ref (ad 12 0)), (1, .int (iv x1)), (2, .int (iv x2))] := hl
  have h : Hs D ct ad L φ N0 s.heap σ s.heap [] := h
  unfold wp_X12_hand at hw
  refine j_iconst X dX12_hand_0 ?_
  refine lv_istore_n (lv' := [(3, .int (iv 0)), (0, .ref (ad 12 0)), (1, .int (iv x1)), (2, .int (iv x2))]) X.1 X.2.1 dX12_hand_1 rfl hl (by decide) rfl (fun ls hl => ?_)
  refine j_iconst X dX12_hand_2 ?_
  refine lv_istore (lv' := [(4, .int (iv 0)), (3, .int (iv 0)), (0, .ref (ad 12 0)), (1, .int (iv x1)), (2, .int (iv x2))]) X.1 X.2.1 dX12_hand_3 hl (by decide) rfl (fun ls hl => ?_)
  refine j_iconst X dX12_hand_5 ?_
  refine lv_istore (lv' := [(5, .int (iv 0)), (4, .int (iv 0)), (3, .int (iv 0)), (0, .ref (ad 12 0)), (1, .int (iv x1)), (2, .int (iv x2))]) X.1 X.2.1 dX12_hand_6 hl (by decide) rfl (fun ls hl => ?_)
  refine j_iconst X dX12_hand_8 ?_
  refine lv_istore (lv' := [(6, .int (iv 0)), (5, .int (iv 0)), (4, .int (iv 0)), (3, .int (iv 0)), (0, .ref (ad 12 0)), (1, .int (iv x1)), (2, .int (iv x2))]) X.1 X.2.1 dX12_hand_9 hl (by decide) rfl (fun ls hl => ?_)
  refine j_iconst X dX12_hand_11 ?_
  refine lv_istore (lv' := [(7, .int (iv 0)), (6, .int (iv 0)), (5, .int (iv 0)), (4, .int (iv 0)), (3, .int (iv 0)), (0, .ref (ad 12 0)), (1, .int (iv x1)), (2, .int (iv x2))]) X.1 X.2.1 dX12_hand_12 hl (by decide) rfl (fun ls hl => ?_)
  exact hw.elim (fun n14 hw => lb_X12_hand_14 X (lb_X12_hand_118 X) n14 σ x1 x2 0 0 0 0 0 _ _ _ hw h (lv_sub hl [5, 6, 7, 4, 3, 2, 1, 0] rfl))
end
